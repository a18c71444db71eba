set_option maxHeartbeats 400000000 in
set_option maxRecDepth 100000 in
theorem cM_store_3 (l : Launch) (hl9 : l.stackTraces = false) (D : va_G) (cT : Nat → ClassId) (aK aV : Nat → Nat) (sz : Nat) (a0 : Nat) (a1 : Nat) (a2 : Nat) (a3 : Nat) (a4 : Nat) (a5 : Nat) (a6 : Nat) (x7 : Int32) (v12 : Value) (v13 : Value) (v14 : Value) (v15 : Value) (v16 : Value) (v17 : Value) (v18 : Value) (v19 : Value) (v20 : Value) (v21 : Value) (v22 : Value) (v23 : Value) (v24 : Value) (v25 : Value) (v26 : Value) (v27 : Value) (v28 : Value) (v29 : Value) (v30 : Value) (v31 : Value) (v32 : Value) (v33 : Value) (v34 : Value) (v35 : Value) (v36 : Value) (v37 : Value) (v38 : Value) (v39 : Value) (v40 : Value) (v41 : Value) (v42 : Value) (f43 : Nat → Int32) (f44 : Nat → Int32) (f49 : Nat → Option Nat) (f51 : Nat → Int32) (f52 : Nat → Int32) (h8 : ¬ x7 < 0) (h9 : ¬ 7 < x7) (h10 : x7 ≤ 7) (h11 : vp_in x7 8) (h45 : f44 0 = 110) (h46 : f44 1 = 117) (h47 : f44 2 = 108) (h48 : f44 3 = 108) (h50 : f49 x7.toNatClampNeg = some a5) : xMet l yM_store wyM_store 3 0 0 68 D cT aK aV sz [.ref a0, .int x7, .ref a1] [(a0, .inr (5, [v12, v13, v14, .ref a3, v15, v16, v17, v18, v19, v20, v21, v22, v23, v24, v25, v26, v27, v28, v29, v30, v31, .ref a2, v32, v33, .ref a4, .ref a6, v34, v35, v36, v37, v38, v39])), (a1, .inr (6, [.int 4, v40, .int 0, .int 4, v41, v42])), (a2, .inl (cT 0, 1024, .inl f43)), (a3, .inl (cT 0, 4096, .inl f44)), (a4, .inl (cT 5, 8, .inr (.inr (.inr (.inr f49))))), (a5, .inl (cT 0, 4096, .inl f51)), (a6, .inl (cT 1, 8, .inl f52))] (fun A => va_Qi (fun (r : Int32) (_ : Unit) => r = 6) (fun _ t => ∃ (y1 : Int32) (y2 : Int32) (y3 : Int32) (y4 : Int32) (y5 : Int32) (y6 : Int32), xB D xcl cT A [(a0, .inr (5, [v12, v13, v14, .ref a3, v15, v16, v17, v18, v19, v20, v21, v22, v23, v24, v25, v26, v27, v28, v29, v30, v31, .ref a2, .int 6, .int 4096, .ref a4, .ref a6, v34, v35, v36, v37, v38, v39])), (a1, .inr (6, [.int 4, v40, .int 0, .int 4, v41, v42])), (a2, .inl (cT 0, 1024, .inl (upd (upd (upd (upd (upd (upd f43 0 (vp_nar .byte y1)) 1 (vp_nar .byte y2)) 2 (vp_nar .byte y3)) 3 (vp_nar .byte y4)) 4 (vp_nar .byte y5)) 5 (vp_nar .byte y6)))), (a3, .inl (cT 0, 4096, .inl f44)), (a4, .inl (cT 5, 8, .inr (.inr (.inr (.inr f49))))), (a5, .inl (cT 0, 4096, .inl (upd (upd (upd (upd (upd (upd f51 0 (vp_nar .byte (vp_nar .byte y1))) 1 (vp_nar .byte (vp_nar .byte y2))) 2 (vp_nar .byte (vp_nar .byte y3))) 3 (vp_nar .byte (vp_nar .byte y4))) 4 (vp_nar .byte (vp_nar .byte y5))) 5 (vp_nar .byte (vp_nar .byte y6))))), (a6, .inl (cT 1, 8, .inl (upd f52 x7.toNatClampNeg 6)))] t) A) := by
  refine Met.ofW (cc := prog_13_method_80_code) (maxL := 4) (ret := (some .int)) (by decide) rfl ?_
  intro p e s m args below meth c s₁ B hml hv
  obtain ⟨rfl, hsz, hZ, hP, hK, hD0⟩ := hv
  have hx := B.exec
  have hb := B.bytes
  have hr := B.returns
  have hts := atoms_spec (ws := wyM_store) B.pre
  have htx := fun w h => hts w (List.mem_cons_of_mem _ h)
  have hown : s.vm.findClass "ValueBenchModel" = some m.cls := findClass_of_methodNamed B.named
  have hlocks := B.notSynchronized
  subst hsz
  have hD := hD0.self (sz := s.heap.size)
  generalize hAe : va_A [(a0, .inr (5, [v12, v13, v14, .ref a3, v15, v16, v17, v18, v19, v20, v21, v22, v23, v24, v25, v26, v27, v28, v29, v30, v31, .ref a2, v32, v33, .ref a4, .ref a6, v34, v35, v36, v37, v38, v39])), (a1, .inr (6, [.int 4, v40, .int 0, .int 4, v41, v42])), (a2, .inl (cT 0, 1024, .inl f43)), (a3, .inl (cT 0, 4096, .inl f44)), (a4, .inl (cT 5, 8, .inr (.inr (.inr (.inr f49))))), (a5, .inl (cT 0, 4096, .inl f51)), (a6, .inl (cT 1, 8, .inl f52))] s.heap.size = A at hD hZ ⊢
  have hA : ∀ q : Nat, s.heap.size ≤ q → A q := fun q h => by rw [← hAe]; exact Or.inr h
  have hS : va_S A s.heap s.heap [] := va_S.rf
  have hP : va_P D xcl [(a0, .inr (5, [v12, v13, v14, .ref a3, v15, v16, v17, v18, v19, v20, v21, v22, v23, v24, v25, v26, v27, v28, v29, v30, v31, .ref a2, v32, v33, .ref a4, .ref a6, v34, v35, v36, v37, v38, v39])), (a1, .inr (6, [.int 4, v40, .int 0, .int 4, v41, v42])), (a2, .inl (cT 0, 1024, .inl f43)), (a3, .inl (cT 0, 4096, .inl f44)), (a4, .inl (cT 5, 8, .inr (.inr (.inr (.inr f49))))), (a5, .inl (cT 0, 4096, .inl f51)), (a6, .inl (cT 1, 8, .inl f52))] s.heap := hP
  have hl := lv_entry ([.ref a0, .int x7, .ref a1]) (n := 4) (Nat.le_of_ble_eq_true rfl)
  rw [lg_entry_eq]
  generalize (lg_sl ([.ref a0, .int x7, .ref a1]) ++ List.replicate (4 - (lg_sl ([.ref a0, .int x7, .ref a1])).length) Slot.unset).toArray = ls at hl ⊢
  have hl : lv_has ls 4 [(0, .ref a0), (1, .int x7), (2, .ref a1)] := hl
  refine lv_aload_n hx hb dM_store_0 rfl (lv_at hl 0 rfl) ?_
  refine lv_iconst (v := 0) hx hb dM_store_1 (by decide) ?_
  refine va_put (D := D) (ci := 5) (v := .int 0) (ty := .int) (C := "ValueBenchModel") (T := TM) (N := 32) hx hb htx inM tyM tyM_ok nmM hown hK hP hD hS 0 rfl rfl 22 (by decide) (htx _ kw_5_109) (fun _ h9 => h9) rfl (by decide +kernel) rfl rfl (Nat.le_of_ble_eq_true rfl) dM_store_2 (fun H locs hP hD hS => ?_)
  obtain ⟨hP, hD⟩ : xPD D xcl A [(a0, .inr (5, [v12, v13, v14, .ref a3, v15, v16, v17, v18, v19, v20, v21, v22, v23, v24, v25, v26, v27, v28, v29, v30, v31, .ref a2, .int 0, v33, .ref a4, .ref a6, v34, v35, v36, v37, v38, v39])), (a1, .inr (6, [.int 4, v40, .int 0, .int 4, v41, v42])), (a2, .inl (cT 0, 1024, .inl f43)), (a3, .inl (cT 0, 4096, .inl f44)), (a4, .inl (cT 5, 8, .inr (.inr (.inr (.inr f49))))), (a5, .inl (cT 0, 4096, .inl f51)), (a6, .inl (cT 1, 8, .inl f52))] H := ⟨hP, hD⟩
  refine lv_aload_n hx hb dM_store_5 rfl (lv_at hl 0 rfl) ?_
  refine lv_sipush (v := 4096) hx hb dM_store_6 (by decide) ?_
  refine va_put (D := D) (ci := 5) (v := .int 4096) (ty := .int) (C := "ValueBenchModel") (T := TM) (N := 32) hx hb htx inM tyM tyM_ok nmM hown hK hP hD hS 0 rfl rfl 23 (by decide) (htx _ kw_5_110) (fun _ h9 => h9) rfl (by decide +kernel) rfl rfl (Nat.le_of_ble_eq_true rfl) dM_store_9 (fun H locs hP hD hS => ?_)
  obtain ⟨hP, hD⟩ : xPD D xcl A [(a0, .inr (5, [v12, v13, v14, .ref a3, v15, v16, v17, v18, v19, v20, v21, v22, v23, v24, v25, v26, v27, v28, v29, v30, v31, .ref a2, .int 0, .int 4096, .ref a4, .ref a6, v34, v35, v36, v37, v38, v39])), (a1, .inr (6, [.int 4, v40, .int 0, .int 4, v41, v42])), (a2, .inl (cT 0, 1024, .inl f43)), (a3, .inl (cT 0, 4096, .inl f44)), (a4, .inl (cT 5, 8, .inr (.inr (.inr (.inr f49))))), (a5, .inl (cT 0, 4096, .inl f51)), (a6, .inl (cT 1, 8, .inl f52))] H := ⟨hP, hD⟩
  refine lv_aload_n hx hb dM_store_12 rfl (lv_at hl 0 rfl) ?_
  refine lv_aload_n hx hb dM_store_13 rfl (lv_at hl 2 rfl) ?_
  obtain ⟨hPc, hDc, hFc⟩ := xcut (wc := [(a1, .inr (6, [.int 4, v40, .int 0, .int 4, v41, v42])), (a0, .inr (5, [v12, v13, v14, .ref a3, v15, v16, v17, v18, v19, v20, v21, v22, v23, v24, v25, v26, v27, v28, v29, v30, v31, .ref a2, .int 0, .int 4096, .ref a4, .ref a6, v34, v35, v36, v37, v38, v39])), (a2, .inl (cT 0, 1024, .inl f43)), (a3, .inl (cT 0, 4096, .inl f44))]) hP hD hS hA [1, 0, 2, 3] rfl rfl (by decide)
  refine va_callv (va_runV (C := "ValueBenchModel") (As := [.ref a1]) (rest := []) ⟨hx, hb, hml, hown, htx⟩ (cM_print1_4 l hl9 D cT aK aV H.size a1 a0 a2 a3 v40 v41 v42 v12 v13 v14 v15 v16 v17 v18 v19 v20 v21 v22 v23 v24 v25 v26 v27 v28 v29 v30 v31 (.ref a4) (.ref a6) v34 v35 v36 v37 v38 v39 f43 f44 (by first | rfl | exact h45 | exact h46 | exact h47 | exact h48 | exact h50) (by first | rfl | exact h45 | exact h46 | exact h47 | exact h48 | exact h50) (by first | rfl | exact h45 | exact h46 | exact h47 | exact h48 | exact h50) (by first | rfl | exact h45 | exact h46 | exact h47 | exact h48 | exact h50)) ⟨callB_of 1 htx (xw_goodC kw_6_128) rfl rfl rfl (htx _ kw_1_5) (htx _ kw_6_125) ⟨by decide, by decide, by decide +kernel⟩ ⟨Nat.le_of_ble_eq_true rfl, Nat.le_of_ble_eq_true rfl⟩, (htx _ kw_6_127), (htx _ kp_M_print1)⟩ ⟨xPre_blind, va_recv hK hP (ci := 5) rfl (q0 := 0) rfl, (fun U hU hW => ⟨rfl, xPre_of hZ hS hFc hPc hDc hK U hU hW⟩)⟩ rfl rfl hl.1 rfl (lv_room (Nat.le_of_ble_eq_true rfl)) dM_store_14 ⟨Nat.le_of_ble_eq_true rfl, Nat.le_of_ble_eq_true rfl⟩) hS (fun q _ h => hFc q h) hFc (fun u9 t H1 locs ht hvm hr9 hB hz1 hk1 hS => ?_)
  obtain ⟨y1, y2, y3, y4, y5, y6, hP1, hK1, hD1⟩ := hB
  rw [ht] at hP1
  obtain ⟨hP, hD⟩ := xjoin (W := [(a4, .inl (cT 5, 8, .inr (.inr (.inr (.inr f49))))), (a5, .inl (cT 0, 4096, .inl f51)), (a6, .inl (cT 1, 8, .inl f52)), (a1, .inr (6, [.int 4, v40, .int 0, .int 4, v41, v42])), (a0, .inr (5, [v12, v13, v14, .ref a3, v15, v16, v17, v18, v19, v20, v21, v22, v23, v24, v25, v26, v27, v28, v29, v30, v31, .ref a2, .int 6, .int 4096, .ref a4, .ref a6, v34, v35, v36, v37, v38, v39])), (a2, .inl (cT 0, 1024, .inl (upd (upd (upd (upd (upd (upd f43 0 (vp_nar .byte y1)) 1 (vp_nar .byte y2)) 2 (vp_nar .byte y3)) 3 (vp_nar .byte y4)) 4 (vp_nar .byte y5)) 5 (vp_nar .byte y6)))), (a3, .inl (cT 0, 4096, .inl f44))]) hP hD [1, 0, 2, 3] [4, 5, 6] 3 rfl rfl (by decide) (by decide) hk1 hFc hP1 hD1
  generalize H1 = H at hP hS ⊢
  refine lv_iconst (v := 0) hx hb dM_store_17 (by decide) ?_
  refine lv_istore_n (lv' := [(3, .int 0), (0, .ref a0), (1, .int x7), (2, .ref a1)]) hx hb dM_store_18 rfl hl (by decide) rfl (fun ls hl => ?_)
  refine lv_iload_n hx hb dM_store_19 rfl (lv_at hl 0 rfl) ?_
  refine lv_aload_n hx hb dM_store_20 rfl (lv_at hl 1 rfl) ?_
  refine va_get (D := D) (ci := 5) (v := .int 6) (C := "ValueBenchModel") (T := TM) (N := 32) hx hb htx inM hown hK hP 4 rfl rfl 22 (by decide) (htx _ kw_5_109) (fun _ h9 => h9) rfl dM_store_21 ?_
  refine lv_icmp_ge (tgt := 47) hx hb dM_store_24 (by decide) (fun h => ((by revert h; decide : False)).elim) (fun _ => ?_)
  refine lv_aload_n hx hb dM_store_27 rfl (lv_at hl 1 rfl) ?_
  refine va_get (D := D) (ci := 5) (v := .ref a4) (C := "ValueBenchModel") (T := TM) (N := 32) hx hb htx inM hown hK hP 4 rfl rfl 24 (by decide) (htx _ kw_5_111) (fun _ h9 => h9) rfl dM_store_28 ?_
  refine lv_iload_n hx hb dM_store_31 rfl (lv_at hl 2 rfl) ?_
  refine xx_aldA hx hb hK hP 0 5 rfl rfl h11 dM_store_32 ?_
  refine W.eq (g2 := F0 m 33 ls [va_rf (f49 x7.toNatClampNeg)]) rfl ?_
  rw [h50]
  refine W.eq (g2 := F0 m 33 ls [.ref a5]) rfl ?_
  refine lv_iload_n hx hb dM_store_33 rfl (lv_at hl 0 rfl) ?_
  refine lv_aload_n hx hb dM_store_34 rfl (lv_at hl 1 rfl) ?_
  refine va_get (D := D) (ci := 5) (v := .ref a2) (C := "ValueBenchModel") (T := TM) (N := 32) hx hb htx inM hown hK hP 4 rfl rfl 21 (by decide) (htx _ kw_5_108) (fun _ h9 => h9) rfl dM_store_35 ?_
  refine lv_iload_n hx hb dM_store_38 rfl (lv_at hl 0 rfl) ?_
  refine va_bald hx hb hK hP 5 0 rfl rfl (show ¬ ((0 : Int32) < 0 ∨ 1024 ≤ (0 : Int32).toNatClampNeg) by decide) dM_store_39 ?_
  refine W.eq (g2 := F0 m 40 ls [.int (vp_nar .byte y1), .int 0, .ref a5]) rfl ?_
  refine va_bast hx hb hK hP hD hS 1 0 rfl rfl (show ¬ ((0 : Int32) < 0 ∨ 4096 ≤ (0 : Int32).toNatClampNeg) by decide) dM_store_40 (fun H locs hP hD hS => ?_)
  obtain ⟨hP, hD⟩ : xPD D xcl A [(a4, .inl (cT 5, 8, .inr (.inr (.inr (.inr f49))))), (a5, .inl (cT 0, 4096, .inl (upd f51 0 (vp_nar .byte (vp_nar .byte y1))))), (a6, .inl (cT 1, 8, .inl f52)), (a1, .inr (6, [.int 4, v40, .int 0, .int 4, v41, v42])), (a0, .inr (5, [v12, v13, v14, .ref a3, v15, v16, v17, v18, v19, v20, v21, v22, v23, v24, v25, v26, v27, v28, v29, v30, v31, .ref a2, .int 6, .int 4096, .ref a4, .ref a6, v34, v35, v36, v37, v38, v39])), (a2, .inl (cT 0, 1024, .inl (upd (upd (upd (upd (upd (upd f43 0 (vp_nar .byte y1)) 1 (vp_nar .byte y2)) 2 (vp_nar .byte y3)) 3 (vp_nar .byte y4)) 4 (vp_nar .byte y5)) 5 (vp_nar .byte y6)))), (a3, .inl (cT 0, 4096, .inl f44))] H := ⟨hP, hD⟩
  refine lv_iinc (v := 1) (lv' := [(3, .int 1), (0, .ref a0), (1, .int x7), (2, .ref a1)]) hx hb dM_store_41 hl (k := 0) rfl (by decide) (by decide) rfl (fun ls hl => ?_)
  refine lv_goto (tgt := 19) hx hb dM_store_44 (by decide) ?_
  refine lv_iload_n hx hb dM_store_19 rfl (lv_at hl 0 rfl) ?_
  refine lv_aload_n hx hb dM_store_20 rfl (lv_at hl 1 rfl) ?_
  refine va_get (D := D) (ci := 5) (v := .int 6) (C := "ValueBenchModel") (T := TM) (N := 32) hx hb htx inM hown hK hP 4 rfl rfl 22 (by decide) (htx _ kw_5_109) (fun _ h9 => h9) rfl dM_store_21 ?_
  refine lv_icmp_ge (tgt := 47) hx hb dM_store_24 (by decide) (fun h => ((by revert h; decide : False)).elim) (fun _ => ?_)
  refine lv_aload_n hx hb dM_store_27 rfl (lv_at hl 1 rfl) ?_
  refine va_get (D := D) (ci := 5) (v := .ref a4) (C := "ValueBenchModel") (T := TM) (N := 32) hx hb htx inM hown hK hP 4 rfl rfl 24 (by decide) (htx _ kw_5_111) (fun _ h9 => h9) rfl dM_store_28 ?_
  refine lv_iload_n hx hb dM_store_31 rfl (lv_at hl 2 rfl) ?_
  refine xx_aldA hx hb hK hP 0 5 rfl rfl h11 dM_store_32 ?_
  refine W.eq (g2 := F0 m 33 ls [va_rf (f49 x7.toNatClampNeg)]) rfl ?_
  rw [h50]
  refine W.eq (g2 := F0 m 33 ls [.ref a5]) rfl ?_
  refine lv_iload_n hx hb dM_store_33 rfl (lv_at hl 0 rfl) ?_
  refine lv_aload_n hx hb dM_store_34 rfl (lv_at hl 1 rfl) ?_
  refine va_get (D := D) (ci := 5) (v := .ref a2) (C := "ValueBenchModel") (T := TM) (N := 32) hx hb htx inM hown hK hP 4 rfl rfl 21 (by decide) (htx _ kw_5_108) (fun _ h9 => h9) rfl dM_store_35 ?_
  refine lv_iload_n hx hb dM_store_38 rfl (lv_at hl 0 rfl) ?_
  refine va_bald hx hb hK hP 5 0 rfl rfl (show ¬ ((1 : Int32) < 0 ∨ 1024 ≤ (1 : Int32).toNatClampNeg) by decide) dM_store_39 ?_
  refine W.eq (g2 := F0 m 40 ls [.int (vp_nar .byte y2), .int 1, .ref a5]) rfl ?_
  refine va_bast hx hb hK hP hD hS 1 0 rfl rfl (show ¬ ((1 : Int32) < 0 ∨ 4096 ≤ (1 : Int32).toNatClampNeg) by decide) dM_store_40 (fun H locs hP hD hS => ?_)
  obtain ⟨hP, hD⟩ : xPD D xcl A [(a4, .inl (cT 5, 8, .inr (.inr (.inr (.inr f49))))), (a5, .inl (cT 0, 4096, .inl (upd (upd f51 0 (vp_nar .byte (vp_nar .byte y1))) 1 (vp_nar .byte (vp_nar .byte y2))))), (a6, .inl (cT 1, 8, .inl f52)), (a1, .inr (6, [.int 4, v40, .int 0, .int 4, v41, v42])), (a0, .inr (5, [v12, v13, v14, .ref a3, v15, v16, v17, v18, v19, v20, v21, v22, v23, v24, v25, v26, v27, v28, v29, v30, v31, .ref a2, .int 6, .int 4096, .ref a4, .ref a6, v34, v35, v36, v37, v38, v39])), (a2, .inl (cT 0, 1024, .inl (upd (upd (upd (upd (upd (upd f43 0 (vp_nar .byte y1)) 1 (vp_nar .byte y2)) 2 (vp_nar .byte y3)) 3 (vp_nar .byte y4)) 4 (vp_nar .byte y5)) 5 (vp_nar .byte y6)))), (a3, .inl (cT 0, 4096, .inl f44))] H := ⟨hP, hD⟩
  refine lv_iinc (v := 2) (lv' := [(3, .int 2), (0, .ref a0), (1, .int x7), (2, .ref a1)]) hx hb dM_store_41 hl (k := 0) rfl (by decide) (by decide) rfl (fun ls hl => ?_)
  refine lv_goto (tgt := 19) hx hb dM_store_44 (by decide) ?_
  refine lv_iload_n hx hb dM_store_19 rfl (lv_at hl 0 rfl) ?_
  refine lv_aload_n hx hb dM_store_20 rfl (lv_at hl 1 rfl) ?_
  refine va_get (D := D) (ci := 5) (v := .int 6) (C := "ValueBenchModel") (T := TM) (N := 32) hx hb htx inM hown hK hP 4 rfl rfl 22 (by decide) (htx _ kw_5_109) (fun _ h9 => h9) rfl dM_store_21 ?_
  refine lv_icmp_ge (tgt := 47) hx hb dM_store_24 (by decide) (fun h => ((by revert h; decide : False)).elim) (fun _ => ?_)
  refine lv_aload_n hx hb dM_store_27 rfl (lv_at hl 1 rfl) ?_
  refine va_get (D := D) (ci := 5) (v := .ref a4) (C := "ValueBenchModel") (T := TM) (N := 32) hx hb htx inM hown hK hP 4 rfl rfl 24 (by decide) (htx _ kw_5_111) (fun _ h9 => h9) rfl dM_store_28 ?_
  refine lv_iload_n hx hb dM_store_31 rfl (lv_at hl 2 rfl) ?_
  refine xx_aldA hx hb hK hP 0 5 rfl rfl h11 dM_store_32 ?_
  refine W.eq (g2 := F0 m 33 ls [va_rf (f49 x7.toNatClampNeg)]) rfl ?_
  rw [h50]
  refine W.eq (g2 := F0 m 33 ls [.ref a5]) rfl ?_
  refine lv_iload_n hx hb dM_store_33 rfl (lv_at hl 0 rfl) ?_
  refine lv_aload_n hx hb dM_store_34 rfl (lv_at hl 1 rfl) ?_
  refine va_get (D := D) (ci := 5) (v := .ref a2) (C := "ValueBenchModel") (T := TM) (N := 32) hx hb htx inM hown hK hP 4 rfl rfl 21 (by decide) (htx _ kw_5_108) (fun _ h9 => h9) rfl dM_store_35 ?_
  refine lv_iload_n hx hb dM_store_38 rfl (lv_at hl 0 rfl) ?_
  refine va_bald hx hb hK hP 5 0 rfl rfl (show ¬ ((2 : Int32) < 0 ∨ 1024 ≤ (2 : Int32).toNatClampNeg) by decide) dM_store_39 ?_
  refine W.eq (g2 := F0 m 40 ls [.int (vp_nar .byte y3), .int 2, .ref a5]) rfl ?_
  refine va_bast hx hb hK hP hD hS 1 0 rfl rfl (show ¬ ((2 : Int32) < 0 ∨ 4096 ≤ (2 : Int32).toNatClampNeg) by decide) dM_store_40 (fun H locs hP hD hS => ?_)
  obtain ⟨hP, hD⟩ : xPD D xcl A [(a4, .inl (cT 5, 8, .inr (.inr (.inr (.inr f49))))), (a5, .inl (cT 0, 4096, .inl (upd (upd (upd f51 0 (vp_nar .byte (vp_nar .byte y1))) 1 (vp_nar .byte (vp_nar .byte y2))) 2 (vp_nar .byte (vp_nar .byte y3))))), (a6, .inl (cT 1, 8, .inl f52)), (a1, .inr (6, [.int 4, v40, .int 0, .int 4, v41, v42])), (a0, .inr (5, [v12, v13, v14, .ref a3, v15, v16, v17, v18, v19, v20, v21, v22, v23, v24, v25, v26, v27, v28, v29, v30, v31, .ref a2, .int 6, .int 4096, .ref a4, .ref a6, v34, v35, v36, v37, v38, v39])), (a2, .inl (cT 0, 1024, .inl (upd (upd (upd (upd (upd (upd f43 0 (vp_nar .byte y1)) 1 (vp_nar .byte y2)) 2 (vp_nar .byte y3)) 3 (vp_nar .byte y4)) 4 (vp_nar .byte y5)) 5 (vp_nar .byte y6)))), (a3, .inl (cT 0, 4096, .inl f44))] H := ⟨hP, hD⟩
  refine lv_iinc (v := 3) (lv' := [(3, .int 3), (0, .ref a0), (1, .int x7), (2, .ref a1)]) hx hb dM_store_41 hl (k := 0) rfl (by decide) (by decide) rfl (fun ls hl => ?_)
  refine lv_goto (tgt := 19) hx hb dM_store_44 (by decide) ?_
  refine lv_iload_n hx hb dM_store_19 rfl (lv_at hl 0 rfl) ?_
  refine lv_aload_n hx hb dM_store_20 rfl (lv_at hl 1 rfl) ?_
  refine va_get (D := D) (ci := 5) (v := .int 6) (C := "ValueBenchModel") (T := TM) (N := 32) hx hb htx inM hown hK hP 4 rfl rfl 22 (by decide) (htx _ kw_5_109) (fun _ h9 => h9) rfl dM_store_21 ?_
  refine lv_icmp_ge (tgt := 47) hx hb dM_store_24 (by decide) (fun h => ((by revert h; decide : False)).elim) (fun _ => ?_)
  refine lv_aload_n hx hb dM_store_27 rfl (lv_at hl 1 rfl) ?_
  refine va_get (D := D) (ci := 5) (v := .ref a4) (C := "ValueBenchModel") (T := TM) (N := 32) hx hb htx inM hown hK hP 4 rfl rfl 24 (by decide) (htx _ kw_5_111) (fun _ h9 => h9) rfl dM_store_28 ?_
  refine lv_iload_n hx hb dM_store_31 rfl (lv_at hl 2 rfl) ?_
  refine xx_aldA hx hb hK hP 0 5 rfl rfl h11 dM_store_32 ?_
  refine W.eq (g2 := F0 m 33 ls [va_rf (f49 x7.toNatClampNeg)]) rfl ?_
  rw [h50]
  refine W.eq (g2 := F0 m 33 ls [.ref a5]) rfl ?_
  refine lv_iload_n hx hb dM_store_33 rfl (lv_at hl 0 rfl) ?_
  refine lv_aload_n hx hb dM_store_34 rfl (lv_at hl 1 rfl) ?_
  refine va_get (D := D) (ci := 5) (v := .ref a2) (C := "ValueBenchModel") (T := TM) (N := 32) hx hb htx inM hown hK hP 4 rfl rfl 21 (by decide) (htx _ kw_5_108) (fun _ h9 => h9) rfl dM_store_35 ?_
  refine lv_iload_n hx hb dM_store_38 rfl (lv_at hl 0 rfl) ?_
  refine va_bald hx hb hK hP 5 0 rfl rfl (show ¬ ((3 : Int32) < 0 ∨ 1024 ≤ (3 : Int32).toNatClampNeg) by decide) dM_store_39 ?_
  refine W.eq (g2 := F0 m 40 ls [.int (vp_nar .byte y4), .int 3, .ref a5]) rfl ?_
  refine va_bast hx hb hK hP hD hS 1 0 rfl rfl (show ¬ ((3 : Int32) < 0 ∨ 4096 ≤ (3 : Int32).toNatClampNeg) by decide) dM_store_40 (fun H locs hP hD hS => ?_)
  obtain ⟨hP, hD⟩ : xPD D xcl A [(a4, .inl (cT 5, 8, .inr (.inr (.inr (.inr f49))))), (a5, .inl (cT 0, 4096, .inl (upd (upd (upd (upd f51 0 (vp_nar .byte (vp_nar .byte y1))) 1 (vp_nar .byte (vp_nar .byte y2))) 2 (vp_nar .byte (vp_nar .byte y3))) 3 (vp_nar .byte (vp_nar .byte y4))))), (a6, .inl (cT 1, 8, .inl f52)), (a1, .inr (6, [.int 4, v40, .int 0, .int 4, v41, v42])), (a0, .inr (5, [v12, v13, v14, .ref a3, v15, v16, v17, v18, v19, v20, v21, v22, v23, v24, v25, v26, v27, v28, v29, v30, v31, .ref a2, .int 6, .int 4096, .ref a4, .ref a6, v34, v35, v36, v37, v38, v39])), (a2, .inl (cT 0, 1024, .inl (upd (upd (upd (upd (upd (upd f43 0 (vp_nar .byte y1)) 1 (vp_nar .byte y2)) 2 (vp_nar .byte y3)) 3 (vp_nar .byte y4)) 4 (vp_nar .byte y5)) 5 (vp_nar .byte y6)))), (a3, .inl (cT 0, 4096, .inl f44))] H := ⟨hP, hD⟩
  refine lv_iinc (v := 4) (lv' := [(3, .int 4), (0, .ref a0), (1, .int x7), (2, .ref a1)]) hx hb dM_store_41 hl (k := 0) rfl (by decide) (by decide) rfl (fun ls hl => ?_)
  refine lv_goto (tgt := 19) hx hb dM_store_44 (by decide) ?_
  refine lv_iload_n hx hb dM_store_19 rfl (lv_at hl 0 rfl) ?_
  refine lv_aload_n hx hb dM_store_20 rfl (lv_at hl 1 rfl) ?_
  refine va_get (D := D) (ci := 5) (v := .int 6) (C := "ValueBenchModel") (T := TM) (N := 32) hx hb htx inM hown hK hP 4 rfl rfl 22 (by decide) (htx _ kw_5_109) (fun _ h9 => h9) rfl dM_store_21 ?_
  refine lv_icmp_ge (tgt := 47) hx hb dM_store_24 (by decide) (fun h => ((by revert h; decide : False)).elim) (fun _ => ?_)
  refine lv_aload_n hx hb dM_store_27 rfl (lv_at hl 1 rfl) ?_
  refine va_get (D := D) (ci := 5) (v := .ref a4) (C := "ValueBenchModel") (T := TM) (N := 32) hx hb htx inM hown hK hP 4 rfl rfl 24 (by decide) (htx _ kw_5_111) (fun _ h9 => h9) rfl dM_store_28 ?_
  refine lv_iload_n hx hb dM_store_31 rfl (lv_at hl 2 rfl) ?_
  refine xx_aldA hx hb hK hP 0 5 rfl rfl h11 dM_store_32 ?_
  refine W.eq (g2 := F0 m 33 ls [va_rf (f49 x7.toNatClampNeg)]) rfl ?_
  rw [h50]
  refine W.eq (g2 := F0 m 33 ls [.ref a5]) rfl ?_
  refine lv_iload_n hx hb dM_store_33 rfl (lv_at hl 0 rfl) ?_
  refine lv_aload_n hx hb dM_store_34 rfl (lv_at hl 1 rfl) ?_
  refine va_get (D := D) (ci := 5) (v := .ref a2) (C := "ValueBenchModel") (T := TM) (N := 32) hx hb htx inM hown hK hP 4 rfl rfl 21 (by decide) (htx _ kw_5_108) (fun _ h9 => h9) rfl dM_store_35 ?_
  refine lv_iload_n hx hb dM_store_38 rfl (lv_at hl 0 rfl) ?_
  refine va_bald hx hb hK hP 5 0 rfl rfl (show ¬ ((4 : Int32) < 0 ∨ 1024 ≤ (4 : Int32).toNatClampNeg) by decide) dM_store_39 ?_
  refine W.eq (g2 := F0 m 40 ls [.int (vp_nar .byte y5), .int 4, .ref a5]) rfl ?_
  refine va_bast hx hb hK hP hD hS 1 0 rfl rfl (show ¬ ((4 : Int32) < 0 ∨ 4096 ≤ (4 : Int32).toNatClampNeg) by decide) dM_store_40 (fun H locs hP hD hS => ?_)
  obtain ⟨hP, hD⟩ : xPD D xcl A [(a4, .inl (cT 5, 8, .inr (.inr (.inr (.inr f49))))), (a5, .inl (cT 0, 4096, .inl (upd (upd (upd (upd (upd f51 0 (vp_nar .byte (vp_nar .byte y1))) 1 (vp_nar .byte (vp_nar .byte y2))) 2 (vp_nar .byte (vp_nar .byte y3))) 3 (vp_nar .byte (vp_nar .byte y4))) 4 (vp_nar .byte (vp_nar .byte y5))))), (a6, .inl (cT 1, 8, .inl f52)), (a1, .inr (6, [.int 4, v40, .int 0, .int 4, v41, v42])), (a0, .inr (5, [v12, v13, v14, .ref a3, v15, v16, v17, v18, v19, v20, v21, v22, v23, v24, v25, v26, v27, v28, v29, v30, v31, .ref a2, .int 6, .int 4096, .ref a4, .ref a6, v34, v35, v36, v37, v38, v39])), (a2, .inl (cT 0, 1024, .inl (upd (upd (upd (upd (upd (upd f43 0 (vp_nar .byte y1)) 1 (vp_nar .byte y2)) 2 (vp_nar .byte y3)) 3 (vp_nar .byte y4)) 4 (vp_nar .byte y5)) 5 (vp_nar .byte y6)))), (a3, .inl (cT 0, 4096, .inl f44))] H := ⟨hP, hD⟩
  refine lv_iinc (v := 5) (lv' := [(3, .int 5), (0, .ref a0), (1, .int x7), (2, .ref a1)]) hx hb dM_store_41 hl (k := 0) rfl (by decide) (by decide) rfl (fun ls hl => ?_)
  refine lv_goto (tgt := 19) hx hb dM_store_44 (by decide) ?_
  refine lv_iload_n hx hb dM_store_19 rfl (lv_at hl 0 rfl) ?_
  refine lv_aload_n hx hb dM_store_20 rfl (lv_at hl 1 rfl) ?_
  refine va_get (D := D) (ci := 5) (v := .int 6) (C := "ValueBenchModel") (T := TM) (N := 32) hx hb htx inM hown hK hP 4 rfl rfl 22 (by decide) (htx _ kw_5_109) (fun _ h9 => h9) rfl dM_store_21 ?_
  refine lv_icmp_ge (tgt := 47) hx hb dM_store_24 (by decide) (fun h => ((by revert h; decide : False)).elim) (fun _ => ?_)
  refine lv_aload_n hx hb dM_store_27 rfl (lv_at hl 1 rfl) ?_
  refine va_get (D := D) (ci := 5) (v := .ref a4) (C := "ValueBenchModel") (T := TM) (N := 32) hx hb htx inM hown hK hP 4 rfl rfl 24 (by decide) (htx _ kw_5_111) (fun _ h9 => h9) rfl dM_store_28 ?_
  refine lv_iload_n hx hb dM_store_31 rfl (lv_at hl 2 rfl) ?_
  refine xx_aldA hx hb hK hP 0 5 rfl rfl h11 dM_store_32 ?_
  refine W.eq (g2 := F0 m 33 ls [va_rf (f49 x7.toNatClampNeg)]) rfl ?_
  rw [h50]
  refine W.eq (g2 := F0 m 33 ls [.ref a5]) rfl ?_
  refine lv_iload_n hx hb dM_store_33 rfl (lv_at hl 0 rfl) ?_
  refine lv_aload_n hx hb dM_store_34 rfl (lv_at hl 1 rfl) ?_
  refine va_get (D := D) (ci := 5) (v := .ref a2) (C := "ValueBenchModel") (T := TM) (N := 32) hx hb htx inM hown hK hP 4 rfl rfl 21 (by decide) (htx _ kw_5_108) (fun _ h9 => h9) rfl dM_store_35 ?_
  refine lv_iload_n hx hb dM_store_38 rfl (lv_at hl 0 rfl) ?_
  refine va_bald hx hb hK hP 5 0 rfl rfl (show ¬ ((5 : Int32) < 0 ∨ 1024 ≤ (5 : Int32).toNatClampNeg) by decide) dM_store_39 ?_
  refine W.eq (g2 := F0 m 40 ls [.int (vp_nar .byte y6), .int 5, .ref a5]) rfl ?_
  refine va_bast hx hb hK hP hD hS 1 0 rfl rfl (show ¬ ((5 : Int32) < 0 ∨ 4096 ≤ (5 : Int32).toNatClampNeg) by decide) dM_store_40 (fun H locs hP hD hS => ?_)
  obtain ⟨hP, hD⟩ : xPD D xcl A [(a4, .inl (cT 5, 8, .inr (.inr (.inr (.inr f49))))), (a5, .inl (cT 0, 4096, .inl (upd (upd (upd (upd (upd (upd f51 0 (vp_nar .byte (vp_nar .byte y1))) 1 (vp_nar .byte (vp_nar .byte y2))) 2 (vp_nar .byte (vp_nar .byte y3))) 3 (vp_nar .byte (vp_nar .byte y4))) 4 (vp_nar .byte (vp_nar .byte y5))) 5 (vp_nar .byte (vp_nar .byte y6))))), (a6, .inl (cT 1, 8, .inl f52)), (a1, .inr (6, [.int 4, v40, .int 0, .int 4, v41, v42])), (a0, .inr (5, [v12, v13, v14, .ref a3, v15, v16, v17, v18, v19, v20, v21, v22, v23, v24, v25, v26, v27, v28, v29, v30, v31, .ref a2, .int 6, .int 4096, .ref a4, .ref a6, v34, v35, v36, v37, v38, v39])), (a2, .inl (cT 0, 1024, .inl (upd (upd (upd (upd (upd (upd f43 0 (vp_nar .byte y1)) 1 (vp_nar .byte y2)) 2 (vp_nar .byte y3)) 3 (vp_nar .byte y4)) 4 (vp_nar .byte y5)) 5 (vp_nar .byte y6)))), (a3, .inl (cT 0, 4096, .inl f44))] H := ⟨hP, hD⟩
  refine lv_iinc (v := 6) (lv' := [(3, .int 6), (0, .ref a0), (1, .int x7), (2, .ref a1)]) hx hb dM_store_41 hl (k := 0) rfl (by decide) (by decide) rfl (fun ls hl => ?_)
  refine lv_goto (tgt := 19) hx hb dM_store_44 (by decide) ?_
  refine lv_iload_n hx hb dM_store_19 rfl (lv_at hl 0 rfl) ?_
  refine lv_aload_n hx hb dM_store_20 rfl (lv_at hl 1 rfl) ?_
  refine va_get (D := D) (ci := 5) (v := .int 6) (C := "ValueBenchModel") (T := TM) (N := 32) hx hb htx inM hown hK hP 4 rfl rfl 22 (by decide) (htx _ kw_5_109) (fun _ h9 => h9) rfl dM_store_21 ?_
  refine lv_icmp_ge (tgt := 47) hx hb dM_store_24 (by decide) (fun _ => ?_) (fun h => ((by revert h; decide : False)).elim)
  refine lv_aload_n hx hb dM_store_47 rfl (lv_at hl 1 rfl) ?_
  refine va_get (D := D) (ci := 5) (v := .ref a6) (C := "ValueBenchModel") (T := TM) (N := 32) hx hb htx inM hown hK hP 4 rfl rfl 25 (by decide) (htx _ kw_5_112) (fun _ h9 => h9) rfl dM_store_48 ?_
  refine lv_iload_n hx hb dM_store_51 rfl (lv_at hl 2 rfl) ?_
  refine lv_aload_n hx hb dM_store_52 rfl (lv_at hl 1 rfl) ?_
  refine va_get (D := D) (ci := 5) (v := .int 6) (C := "ValueBenchModel") (T := TM) (N := 32) hx hb htx inM hown hK hP 4 rfl rfl 22 (by decide) (htx _ kw_5_109) (fun _ h9 => h9) rfl dM_store_53 ?_
  refine va_iast hx hb hK hP hD hS 2 1 rfl rfl h11 dM_store_56 (fun H locs hP hD hS => ?_)
  obtain ⟨hP, hD⟩ : xPD D xcl A [(a4, .inl (cT 5, 8, .inr (.inr (.inr (.inr f49))))), (a5, .inl (cT 0, 4096, .inl (upd (upd (upd (upd (upd (upd f51 0 (vp_nar .byte (vp_nar .byte y1))) 1 (vp_nar .byte (vp_nar .byte y2))) 2 (vp_nar .byte (vp_nar .byte y3))) 3 (vp_nar .byte (vp_nar .byte y4))) 4 (vp_nar .byte (vp_nar .byte y5))) 5 (vp_nar .byte (vp_nar .byte y6))))), (a6, .inl (cT 1, 8, .inl (upd f52 x7.toNatClampNeg 6))), (a1, .inr (6, [.int 4, v40, .int 0, .int 4, v41, v42])), (a0, .inr (5, [v12, v13, v14, .ref a3, v15, v16, v17, v18, v19, v20, v21, v22, v23, v24, v25, v26, v27, v28, v29, v30, v31, .ref a2, .int 6, .int 4096, .ref a4, .ref a6, v34, v35, v36, v37, v38, v39])), (a2, .inl (cT 0, 1024, .inl (upd (upd (upd (upd (upd (upd f43 0 (vp_nar .byte y1)) 1 (vp_nar .byte y2)) 2 (vp_nar .byte y3)) 3 (vp_nar .byte y4)) 4 (vp_nar .byte y5)) 5 (vp_nar .byte y6)))), (a3, .inl (cT 0, 4096, .inl f44))] H := ⟨hP, hD⟩
  refine lv_aload_n hx hb dM_store_57 rfl (lv_at hl 1 rfl) ?_
  refine va_get (D := D) (ci := 5) (v := .int 6) (C := "ValueBenchModel") (T := TM) (N := 32) hx hb htx inM hown hK hP 4 rfl rfl 22 (by decide) (htx _ kw_5_109) (fun _ h9 => h9) rfl dM_store_58 ?_
  obtain ⟨hP9, hD9⟩ := xsub (wc := [(a0, .inr (5, [v12, v13, v14, .ref a3, v15, v16, v17, v18, v19, v20, v21, v22, v23, v24, v25, v26, v27, v28, v29, v30, v31, .ref a2, .int 6, .int 4096, .ref a4, .ref a6, v34, v35, v36, v37, v38, v39])), (a1, .inr (6, [.int 4, v40, .int 0, .int 4, v41, v42])), (a2, .inl (cT 0, 1024, .inl (upd (upd (upd (upd (upd (upd f43 0 (vp_nar .byte y1)) 1 (vp_nar .byte y2)) 2 (vp_nar .byte y3)) 3 (vp_nar .byte y4)) 4 (vp_nar .byte y5)) 5 (vp_nar .byte y6)))), (a3, .inl (cT 0, 4096, .inl f44)), (a4, .inl (cT 5, 8, .inr (.inr (.inr (.inr f49))))), (a5, .inl (cT 0, 4096, .inl (upd (upd (upd (upd (upd (upd f51 0 (vp_nar .byte (vp_nar .byte y1))) 1 (vp_nar .byte (vp_nar .byte y2))) 2 (vp_nar .byte (vp_nar .byte y3))) 3 (vp_nar .byte (vp_nar .byte y4))) 4 (vp_nar .byte (vp_nar .byte y5))) 5 (vp_nar .byte (vp_nar .byte y6))))), (a6, .inl (cT 1, 8, .inl (upd f52 x7.toNatClampNeg 6)))]) hP hD [4, 3, 5, 6, 0, 1, 2] rfl rfl (by decide)
  refine W.widen (k := 0) (n := 0) (Nat.le_of_ble_eq_true rfl) (Nat.le_of_ble_eq_true rfl) ?_
  exact W.iret (v := 6) hx hb hr (fun t ht hW => ⟨⟨6, (), rfl, rfl, y1, y2, y3, y4, y5, y6, by rw [ht]; exact hP9, va_K.moved hW.alike hK, hD9⟩, hS.F ht⟩) hS.2.2 dM_store_61
set_option maxHeartbeats 400000000 in
set_option maxRecDepth 100000 in
theorem cM_finish_19 (l : Launch) (hl9 : l.stackTraces = false) (D : va_G) (cT : Nat → ClassId) (aK aV : Nat → Nat) (sz : Nat) (a0 : Nat) (a1 : Nat) (a2 : Nat) (a3 : Nat) (a4 : Nat) (a5 : Nat) (a6 : Nat) (x7 : Int32) (x12 : Int32) (x17 : Int32) (v18 : Value) (v19 : Value) (v20 : Value) (v21 : Value) (v22 : Value) (v23 : Value) (v24 : Value) (v25 : Value) (v26 : Value) (v27 : Value) (v28 : Value) (v29 : Value) (v30 : Value) (v31 : Value) (v32 : Value) (v33 : Value) (v34 : Value) (x35 : Int32) (v36 : Value) (v37 : Value) (v38 : Value) (v39 : Value) (v40 : Value) (v41 : Value) (f42 : Nat → Option Nat) (f45 : Nat → Int32) (f47 : Nat → Int32) (f52 : Nat → Option Nat) (f55 : Nat → Int32) (f56 : Nat → Int32) (h8 : ¬ x7 < 0) (h9 : ¬ 7 < x7) (h10 : x7 ≤ 7) (h11 : vp_in x7 8) (h13 : ¬ x12 < 0) (h14 : ¬ 7 < x12) (h15 : x12 ≤ 7) (h16 : vp_in x12 8) (h43 : f42 x12.toNatClampNeg = some a3) (h44 : f42 x7.toNatClampNeg = some a3) (h46 : f45 x12.toNatClampNeg = 4) (h48 : f47 0 = 110) (h49 : f47 1 = 117) (h50 : f47 2 = 108) (h51 : f47 3 = 108) (h53 : f52 0 = none) (h54 : f52 1 = none) : xMet l yM_finish wyM_finish 8 2 12 176 D cT aK aV sz [.ref a0, .int x7, .int 1, .int 4, .int x12, .int x17] [(a0, .inr (5, [v18, .ref a4, .int 0, .ref a6, .int 0, v19, v20, v21, v22, v23, v24, v25, v26, v27, v28, v29, v30, v31, v32, v33, v34, .ref a5, .int 0, .int x35, .ref a1, .ref a2, v36, v37, v38, v39, v40, v41])), (a1, .inl (cT 5, 8, .inr (.inr (.inr (.inr f42))))), (a2, .inl (cT 1, 8, .inl f45)), (a3, .inl (cT 0, 4096, .inl f47)), (a4, .inl (cT 4, 1024, .inr (.inr (.inr (.inr f52))))), (a5, .inl (cT 0, 1024, .inl f55)), (a6, .inl (cT 0, 4096, .inl f56))] (fun A => va_Qv (fun _ : Unit => True) (fun _ t => ∃ (r1 : Nat) (r2 : Nat) (y4 : Int32) (y5 : Int32) (y6 : Int32) (y7 : Int32) (y8 : Int32) (y9 : Int32), xB D xcl cT A [(a0, .inr (5, [v18, .ref a4, .int 2, .ref a6, .int 4, v19, v20, v21, v22, v23, v24, v25, v26, v27, v28, .ref a3, .int 4, .int 4, .int 0, .int 100, v34, .ref a5, .int 6, .int 4096, .ref a1, .ref a2, v36, v37, v38, v39, v40, v41])), (a1, .inl (cT 5, 8, .inr (.inr (.inr (.inr f42))))), (a2, .inl (cT 1, 8, .inl (upd f45 x7.toNatClampNeg 6))), (a3, .inl (cT 0, 4096, .inl (upd (upd (upd (upd (upd (upd f47 0 (vp_nar .byte (vp_nar .byte y4))) 1 (vp_nar .byte (vp_nar .byte y5))) 2 (vp_nar .byte (vp_nar .byte y6))) 3 (vp_nar .byte (vp_nar .byte y7))) 4 (vp_nar .byte (vp_nar .byte y8))) 5 (vp_nar .byte (vp_nar .byte y9))))), (a4, .inl (cT 4, 1024, .inr (.inr (.inr (.inr (va_up (va_up f52 0 (some r1)) 1 (some r2))))))), (a5, .inl (cT 0, 1024, .inl (upd (upd (upd (upd (upd (upd (upd (upd (upd (upd f55 0 110) 1 117) 2 108) 3 108) 0 (vp_nar .byte y4)) 1 (vp_nar .byte y5)) 2 (vp_nar .byte y6)) 3 (vp_nar .byte y7)) 4 (vp_nar .byte y8)) 5 (vp_nar .byte y9)))), (a6, .inl (cT 0, 4096, .inl (upd (upd (upd (upd f56 0 110) 1 117) 2 108) 3 108))), (r1, .inr (6, [.int 0, .long 0, .int 0, .int 0, .int 0, .int 1])), (r2, .inr (6, [.int 4, .long 0, .int 0, .int 4, .int 0, .int 5]))] t) A) := by
  refine va_MetW (cc := prog_13_method_90_code) (maxL := 10) (ret := none) (hh := [(0, 128, 131, 83), (0, 128, 149, 86)]) (by decide) rfl ?_
  intro p e s m args below meth c s₁ B hml hv
  obtain ⟨rfl, hsz, hZ, hP, hK, hD0⟩ := hv
  have hx := B.exec
  have hb := B.bytes
  have hr := B.returns
  have hts := atoms_spec (ws := wyM_finish) B.pre
  have htx := fun w h => hts w (List.mem_cons_of_mem _ h)
  have hown : s.vm.findClass "ValueBenchModel" = some m.cls := findClass_of_methodNamed B.named
  have hlocks := B.notSynchronized
  subst hsz
  have hD := hD0.self (sz := s.heap.size)
  generalize hAe : va_A [(a0, .inr (5, [v18, .ref a4, .int 0, .ref a6, .int 0, v19, v20, v21, v22, v23, v24, v25, v26, v27, v28, v29, v30, v31, v32, v33, v34, .ref a5, .int 0, .int x35, .ref a1, .ref a2, v36, v37, v38, v39, v40, v41])), (a1, .inl (cT 5, 8, .inr (.inr (.inr (.inr f42))))), (a2, .inl (cT 1, 8, .inl f45)), (a3, .inl (cT 0, 4096, .inl f47)), (a4, .inl (cT 4, 1024, .inr (.inr (.inr (.inr f52))))), (a5, .inl (cT 0, 1024, .inl f55)), (a6, .inl (cT 0, 4096, .inl f56))] s.heap.size = A at hD hZ ⊢
  have hA : ∀ q : Nat, s.heap.size ≤ q → A q := fun q h => by rw [← hAe]; exact Or.inr h
  have hS : va_S A s.heap s.heap [] := va_S.rf
  have hP : va_P D xcl [(a0, .inr (5, [v18, .ref a4, .int 0, .ref a6, .int 0, v19, v20, v21, v22, v23, v24, v25, v26, v27, v28, v29, v30, v31, v32, v33, v34, .ref a5, .int 0, .int x35, .ref a1, .ref a2, v36, v37, v38, v39, v40, v41])), (a1, .inl (cT 5, 8, .inr (.inr (.inr (.inr f42))))), (a2, .inl (cT 1, 8, .inl f45)), (a3, .inl (cT 0, 4096, .inl f47)), (a4, .inl (cT 4, 1024, .inr (.inr (.inr (.inr f52))))), (a5, .inl (cT 0, 1024, .inl f55)), (a6, .inl (cT 0, 4096, .inl f56))] s.heap := hP
  have hl := lv_entry ([.ref a0, .int x7, .int 1, .int 4, .int x12, .int x17]) (n := 10) (Nat.le_of_ble_eq_true rfl)
  rw [lg_entry_eq]
  generalize (lg_sl ([.ref a0, .int x7, .int 1, .int 4, .int x12, .int x17]) ++ List.replicate (10 - (lg_sl ([.ref a0, .int x7, .int 1, .int 4, .int x12, .int x17])).length) Slot.unset).toArray = ls at hl ⊢
  have hl : lv_has ls 10 [(0, .ref a0), (1, .int x7), (2, .int 1), (3, .int 4), (4, .int x12), (5, .int x17)] := hl
  have htab := vx_table (x := yM_finish) B (hts _ List.mem_cons_self)
  refine lv_aload_n hx hb dM_finish_0 rfl (lv_at hl 0 rfl) ?_
  refine lv_iload hx hb dM_finish_1 (lv_at hl 4 rfl) ?_
  obtain ⟨hPc, hDc, hFc⟩ := xcut (wc := [(a0, .inr (5, [v18, .ref a4, .int 0, .ref a6, .int 0, v19, v20, v21, v22, v23, v24, v25, v26, v27, v28, v29, v30, v31, v32, v33, v34, .ref a5, .int 0, .int x35, .ref a1, .ref a2, v36, v37, v38, v39, v40, v41])), (a1, .inl (cT 5, 8, .inr (.inr (.inr (.inr f42))))), (a2, .inl (cT 1, 8, .inl f45)), (a3, .inl (cT 0, 4096, .inl f47)), (a4, .inl (cT 4, 1024, .inr (.inr (.inr (.inr f52)))))]) hP hD hS hA [0, 1, 2, 3, 4] rfl rfl (by decide)
  refine va_callr (va_runV (C := "ValueBenchModel") (As := [.int x12]) (rest := []) ⟨hx, hb, hml, hown, htx⟩ (cM_register_0 l hl9 D cT aK aV s.heap.size a0 a1 a2 a3 a4 x12 v18 (.ref a6) (.int 0) v19 v20 v21 v22 v23 v24 v25 v26 v27 v28 v29 v30 v31 v32 v33 v34 (.ref a5) (.int 0) (.int x35) v36 v37 v38 v39 v40 v41 f42 f45 f47 f52 h13 h14 h15 h16 (by first | rfl | exact h43 | exact h44 | exact h46 | exact h48 | exact h49 | exact h50 | exact h51 | exact h53 | exact h54) (by first | rfl | exact h43 | exact h44 | exact h46 | exact h48 | exact h49 | exact h50 | exact h51 | exact h53 | exact h54) (by first | rfl | exact h43 | exact h44 | exact h46 | exact h48 | exact h49 | exact h50 | exact h51 | exact h53 | exact h54) (by first | rfl | exact h43 | exact h44 | exact h46 | exact h48 | exact h49 | exact h50 | exact h51 | exact h53 | exact h54) (by first | rfl | exact h43 | exact h44 | exact h46 | exact h48 | exact h49 | exact h50 | exact h51 | exact h53 | exact h54) (by first | rfl | exact h43 | exact h44 | exact h46 | exact h48 | exact h49 | exact h50 | exact h51 | exact h53 | exact h54) (by first | rfl | exact h43 | exact h44 | exact h46 | exact h48 | exact h49 | exact h50 | exact h51 | exact h53 | exact h54)) ⟨callB_of 1 htx (xw_goodC kw_6_170) rfl rfl rfl (htx _ kw_1_5) (htx _ kw_6_167) ⟨by decide, by decide, by decide +kernel⟩ ⟨Nat.le_of_ble_eq_true rfl, Nat.le_of_ble_eq_true rfl⟩, (htx _ kw_6_169), (htx _ kp_M_register)⟩ ⟨xPre_blind, va_recv hK hP (ci := 5) rfl (q0 := 0) rfl, (fun U hU hW => ⟨rfl, xPre_of hZ hS hFc hPc hDc hK U hU hW⟩)⟩ rfl rfl hl.1 rfl (lv_room (Nat.le_of_ble_eq_true rfl)) dM_finish_3 ⟨Nat.le_of_ble_eq_true rfl, Nat.le_of_ble_eq_true rfl⟩) hS (fun q _ h => hFc q h) hFc (fun u9 r1 t H1 locs ht hvm hr9 hB hz1 hk1 hS => ?_)
  obtain ⟨hP1, hK1, hD1⟩ := hB
  rw [ht] at hP1
  obtain ⟨hP, hD⟩ := xjoin (W := [(a5, .inl (cT 0, 1024, .inl f55)), (a6, .inl (cT 0, 4096, .inl f56)), (a0, .inr (5, [v18, .ref a4, .int 1, .ref a6, .int 0, v19, v20, v21, v22, v23, v24, v25, v26, v27, v28, .ref a3, .int 4, .int 4, .int 0, .int 100, v34, .ref a5, .int 0, .int x35, .ref a1, .ref a2, v36, v37, v38, v39, v40, v41])), (a1, .inl (cT 5, 8, .inr (.inr (.inr (.inr f42))))), (a2, .inl (cT 1, 8, .inl f45)), (a3, .inl (cT 0, 4096, .inl f47)), (a4, .inl (cT 4, 1024, .inr (.inr (.inr (.inr (va_up f52 0 (some r1))))))), (r1, .inr (6, [.int 0, .long 0, .int 0, .int 0, .int 0, .int 1]))]) hP hD [0, 1, 2, 3, 4] [5, 6] 2 rfl rfl (by decide) (by decide) hk1 hFc hP1 hD1
  generalize H1 = H at hP hS ⊢
  refine W.eq (g2 := F0 m 6 ls [.ref r1]) rfl ?_
  refine lv_astore (lv' := [(6, .ref r1), (0, .ref a0), (1, .int x7), (2, .int 1), (3, .int 4), (4, .int x12), (5, .int x17)]) hx hb dM_finish_6 hl (by decide) rfl (fun ls hl => ?_)
  refine lv_iload_n hx hb dM_finish_8 rfl (lv_at hl 3 rfl) ?_
  refine lv_iconst (v := 1) hx hb dM_finish_9 (by decide) ?_
  refine lv_icmp_ne (tgt := 17) hx hb dM_finish_10 (by decide) (fun h => ((by revert h; decide : False)).elim) (fun _ => ?_)
  refine lv_null hx hb dM_finish_13 ?_
  refine lv_goto (tgt := 23) hx hb dM_finish_14 (by decide) ?_
  refine lv_astoreN (lv' := [(7, .null), (6, .ref r1), (0, .ref a0), (1, .int x7), (2, .int 1), (3, .int 4), (4, .int x12), (5, .int x17)]) hx hb dM_finish_23 hl (by decide) rfl (fun ls hl => ?_)
  refine lv_iload_n hx hb dM_finish_25 rfl (lv_at hl 4 rfl) ?_
  refine lv_if_ne (tgt := 43) hx hb dM_finish_26 (by decide) (fun _ => ?_) (fun h => ((by revert h; decide : False)).elim)
  refine lv_iload_n hx hb dM_finish_43 rfl (lv_at hl 4 rfl) ?_
  refine lv_iconst (v := 1) hx hb dM_finish_44 (by decide) ?_
  refine lv_icmp_ne (tgt := 60) hx hb dM_finish_45 (by decide) (fun h => ((by revert h; decide : False)).elim) (fun _ => ?_)
  refine lv_aload_n hx hb dM_finish_48 rfl (lv_at hl 2 rfl) ?_
  refine lv_iload_n hx hb dM_finish_49 rfl (lv_at hl 5 rfl) ?_
  refine lv_aload hx hb dM_finish_50 (lv_at hl 1 rfl) ?_
  obtain ⟨hPc, hDc, hFc⟩ := xcut (wc := [(r1, .inr (6, [.int 0, .long 0, .int 0, .int 0, .int 0, .int 1])), (a0, .inr (5, [v18, .ref a4, .int 1, .ref a6, .int 0, v19, v20, v21, v22, v23, v24, v25, v26, v27, v28, .ref a3, .int 4, .int 4, .int 0, .int 100, v34, .ref a5, .int 0, .int x35, .ref a1, .ref a2, v36, v37, v38, v39, v40, v41])), (a5, .inl (cT 0, 1024, .inl f55)), (a6, .inl (cT 0, 4096, .inl f56)), (a4, .inl (cT 4, 1024, .inr (.inr (.inr (.inr (va_up f52 0 (some r1)))))))]) hP hD hS hA [7, 2, 0, 1, 6] rfl rfl (by decide)
  refine va_callr (va_runV (C := "ValueBenchModel") (As := [.int 4, .ref r1]) (rest := []) ⟨hx, hb, hml, hown, htx⟩ (cM_one1_4 l hl9 D cT aK aV H.size r1 a0 a5 a6 a4 (.long 0) (.int 0) (.int 0) (.int 0) (.int 1) v18 v19 v20 v21 v22 v23 v24 v25 v26 v27 v28 (.ref a3) (.int 4) (.int 4) (.int 0) (.int 100) v34 x35 (.ref a1) (.ref a2) v36 v37 v38 v39 v40 v41 f55 f56 (va_up f52 0 (some r1)) (by first | rfl | exact h43 | exact h44 | exact h46 | exact h48 | exact h49 | exact h50 | exact h51 | exact h54)) ⟨callB_of 2 htx (xw_goodC kw_6_237) rfl rfl rfl (htx _ kw_1_5) (htx _ kw_6_234) ⟨by decide, by decide, by decide +kernel⟩ ⟨Nat.le_of_ble_eq_true rfl, Nat.le_of_ble_eq_true rfl⟩, (htx _ kw_6_236), (htx _ kp_M_one1)⟩ ⟨xPre_blind, va_recv hK hP (ci := 5) rfl (q0 := 2) rfl, (fun U hU hW => ⟨rfl, xPre_of hZ hS hFc hPc hDc hK U hU hW⟩)⟩ rfl rfl hl.1 rfl (lv_room (Nat.le_of_ble_eq_true rfl)) dM_finish_52 ⟨Nat.le_of_ble_eq_true rfl, Nat.le_of_ble_eq_true rfl⟩) hS (fun q _ h => hFc q h) hFc (fun u9 r2 t H1 locs ht hvm hr9 hB hz1 hk1 hS => ?_)
  obtain ⟨hP1, hK1, hD1⟩ := hB
  rw [ht] at hP1
  obtain ⟨hP, hD⟩ := xjoin (W := [(a1, .inl (cT 5, 8, .inr (.inr (.inr (.inr f42))))), (a2, .inl (cT 1, 8, .inl f45)), (a3, .inl (cT 0, 4096, .inl f47)), (r1, .inr (6, [.int 0, .long 0, .int 0, .int 0, .int 0, .int 1])), (a0, .inr (5, [v18, .ref a4, .int 2, .ref a6, .int 4, v19, v20, v21, v22, v23, v24, v25, v26, v27, v28, .ref a3, .int 4, .int 4, .int 0, .int 100, v34, .ref a5, .int 0, .int x35, .ref a1, .ref a2, v36, v37, v38, v39, v40, v41])), (a5, .inl (cT 0, 1024, .inl (upd (upd (upd (upd f55 0 110) 1 117) 2 108) 3 108))), (a6, .inl (cT 0, 4096, .inl (upd (upd (upd (upd f56 0 110) 1 117) 2 108) 3 108))), (a4, .inl (cT 4, 1024, .inr (.inr (.inr (.inr (va_up (va_up f52 0 (some r1)) 1 (some r2))))))), (r2, .inr (6, [.int 4, .long 0, .int 0, .int 4, .int 0, .int 5]))]) hP hD [7, 2, 0, 1, 6] [3, 4, 5] 3 rfl rfl (by decide) (by decide) hk1 hFc hP1 hD1
  generalize H1 = H at hP hS ⊢
  refine W.eq (g2 := F0 m 55 ls [.ref r2]) rfl ?_
  refine lv_astore (lv' := [(8, .ref r2), (7, .null), (6, .ref r1), (0, .ref a0), (1, .int x7), (2, .int 1), (3, .int 4), (4, .int x12), (5, .int x17)]) hx hb dM_finish_55 hl (by decide) rfl (fun ls hl => ?_)
  refine lv_goto (tgt := 119) hx hb dM_finish_57 (by decide) ?_
  refine lv_aload_n hx hb dM_finish_119 rfl (lv_at hl 3 rfl) ?_
  refine lv_iload_n hx hb dM_finish_120 rfl (lv_at hl 4 rfl) ?_
  refine lv_aload hx hb dM_finish_121 (lv_at hl 0 rfl) ?_
  obtain ⟨hPc, hDc, hFc⟩ := xcut (wc := [(a0, .inr (5, [v18, .ref a4, .int 2, .ref a6, .int 4, v19, v20, v21, v22, v23, v24, v25, v26, v27, v28, .ref a3, .int 4, .int 4, .int 0, .int 100, v34, .ref a5, .int 0, .int x35, .ref a1, .ref a2, v36, v37, v38, v39, v40, v41])), (r2, .inr (6, [.int 4, .long 0, .int 0, .int 4, .int 0, .int 5])), (a5, .inl (cT 0, 1024, .inl (upd (upd (upd (upd f55 0 110) 1 117) 2 108) 3 108))), (a6, .inl (cT 0, 4096, .inl (upd (upd (upd (upd f56 0 110) 1 117) 2 108) 3 108))), (a1, .inl (cT 5, 8, .inr (.inr (.inr (.inr f42))))), (a3, .inl (cT 0, 4096, .inl f47)), (a2, .inl (cT 1, 8, .inl f45))]) hP hD hS hA [4, 8, 5, 6, 0, 2, 1] rfl rfl (by decide)
  refine va_calli (va_runV (C := "ValueBenchModel") (As := [.int x7, .ref r2]) (rest := []) ⟨hx, hb, hml, hown, htx⟩ (cM_store_3 l hl9 D cT aK aV H.size a0 r2 a5 a6 a1 a3 a2 x7 v18 (.ref a4) (.int 2) (.int 4) v19 v20 v21 v22 v23 v24 v25 v26 v27 v28 (.ref a3) (.int 4) (.int 4) (.int 0) (.int 100) v34 (.int 0) (.int x35) v36 v37 v38 v39 v40 v41 (.long 0) (.int 0) (.int 5) (upd (upd (upd (upd f55 0 110) 1 117) 2 108) 3 108) (upd (upd (upd (upd f56 0 110) 1 117) 2 108) 3 108) f42 f47 f45 h8 h9 h10 h11 (by first | rfl | exact h43 | exact h44 | exact h46 | exact h48 | exact h49 | exact h50 | exact h51) (by first | rfl | exact h43 | exact h44 | exact h46 | exact h48 | exact h49 | exact h50 | exact h51) (by first | rfl | exact h43 | exact h44 | exact h46 | exact h48 | exact h49 | exact h50 | exact h51) (by first | rfl | exact h43 | exact h44 | exact h46 | exact h48 | exact h49 | exact h50 | exact h51) (by first | rfl | exact h43 | exact h44 | exact h46 | exact h48 | exact h49 | exact h50 | exact h51)) ⟨callB_of 2 htx (xw_goodC kw_6_124) rfl rfl rfl (htx _ kw_1_5) (htx _ kw_6_121) ⟨by decide, by decide, by decide +kernel⟩ ⟨Nat.le_of_ble_eq_true rfl, Nat.le_of_ble_eq_true rfl⟩, (htx _ kw_6_123), (htx _ kp_M_store)⟩ ⟨xPre_blind, va_recv hK hP (ci := 5) rfl (q0 := 4) rfl, (fun U hU hW => ⟨rfl, xPre_of hZ hS hFc hPc hDc hK U hU hW⟩)⟩ rfl rfl hl.1 rfl (lv_room (Nat.le_of_ble_eq_true rfl)) dM_finish_123 ⟨Nat.le_of_ble_eq_true rfl, Nat.le_of_ble_eq_true rfl⟩) hS (fun q _ h => hFc q h) hFc (fun r3 u9 t H1 locs ht hvm hr9 hB hz1 hk1 hS => ?_)
  obtain ⟨y4, y5, y6, y7, y8, y9, hP1, hK1, hD1⟩ := hB
  rw [ht] at hP1
  obtain ⟨hP, hD⟩ := xjoin (W := [(r1, .inr (6, [.int 0, .long 0, .int 0, .int 0, .int 0, .int 1])), (a4, .inl (cT 4, 1024, .inr (.inr (.inr (.inr (va_up (va_up f52 0 (some r1)) 1 (some r2))))))), (a0, .inr (5, [v18, .ref a4, .int 2, .ref a6, .int 4, v19, v20, v21, v22, v23, v24, v25, v26, v27, v28, .ref a3, .int 4, .int 4, .int 0, .int 100, v34, .ref a5, .int 6, .int 4096, .ref a1, .ref a2, v36, v37, v38, v39, v40, v41])), (r2, .inr (6, [.int 4, .long 0, .int 0, .int 4, .int 0, .int 5])), (a5, .inl (cT 0, 1024, .inl (upd (upd (upd (upd (upd (upd (upd (upd (upd (upd f55 0 110) 1 117) 2 108) 3 108) 0 (vp_nar .byte y4)) 1 (vp_nar .byte y5)) 2 (vp_nar .byte y6)) 3 (vp_nar .byte y7)) 4 (vp_nar .byte y8)) 5 (vp_nar .byte y9)))), (a6, .inl (cT 0, 4096, .inl (upd (upd (upd (upd f56 0 110) 1 117) 2 108) 3 108))), (a1, .inl (cT 5, 8, .inr (.inr (.inr (.inr f42))))), (a3, .inl (cT 0, 4096, .inl (upd (upd (upd (upd (upd (upd f47 0 (vp_nar .byte (vp_nar .byte y4))) 1 (vp_nar .byte (vp_nar .byte y5))) 2 (vp_nar .byte (vp_nar .byte y6))) 3 (vp_nar .byte (vp_nar .byte y7))) 4 (vp_nar .byte (vp_nar .byte y8))) 5 (vp_nar .byte (vp_nar .byte y9))))), (a2, .inl (cT 1, 8, .inl (upd f45 x7.toNatClampNeg 6)))]) hP hD [4, 8, 5, 6, 0, 2, 1] [3, 7] 2 rfl rfl (by decide) (by decide) hk1 hFc hP1 hD1
  generalize H1 = H at hP hS ⊢
  rw [hr9]
  refine W.eq (g2 := F0 m 126 ls [.int 6]) rfl ?_
  refine lv_istore (lv' := [(9, .int 6), (8, .ref r2), (7, .null), (6, .ref r1), (0, .ref a0), (1, .int x7), (2, .int 1), (3, .int 4), (4, .int x12), (5, .int x17)]) hx hb dM_finish_126 hl (by decide) rfl (fun ls hl => ?_)
  refine lv_goto (tgt := 156) hx hb dM_finish_128 (by decide) ?_
  obtain ⟨hP9, hD9⟩ := xsub (wc := [(a0, .inr (5, [v18, .ref a4, .int 2, .ref a6, .int 4, v19, v20, v21, v22, v23, v24, v25, v26, v27, v28, .ref a3, .int 4, .int 4, .int 0, .int 100, v34, .ref a5, .int 6, .int 4096, .ref a1, .ref a2, v36, v37, v38, v39, v40, v41])), (a1, .inl (cT 5, 8, .inr (.inr (.inr (.inr f42))))), (a2, .inl (cT 1, 8, .inl (upd f45 x7.toNatClampNeg 6))), (a3, .inl (cT 0, 4096, .inl (upd (upd (upd (upd (upd (upd f47 0 (vp_nar .byte (vp_nar .byte y4))) 1 (vp_nar .byte (vp_nar .byte y5))) 2 (vp_nar .byte (vp_nar .byte y6))) 3 (vp_nar .byte (vp_nar .byte y7))) 4 (vp_nar .byte (vp_nar .byte y8))) 5 (vp_nar .byte (vp_nar .byte y9))))), (a4, .inl (cT 4, 1024, .inr (.inr (.inr (.inr (va_up (va_up f52 0 (some r1)) 1 (some r2))))))), (a5, .inl (cT 0, 1024, .inl (upd (upd (upd (upd (upd (upd (upd (upd (upd (upd f55 0 110) 1 117) 2 108) 3 108) 0 (vp_nar .byte y4)) 1 (vp_nar .byte y5)) 2 (vp_nar .byte y6)) 3 (vp_nar .byte y7)) 4 (vp_nar .byte y8)) 5 (vp_nar .byte y9)))), (a6, .inl (cT 0, 4096, .inl (upd (upd (upd (upd f56 0 110) 1 117) 2 108) 3 108))), (r1, .inr (6, [.int 0, .long 0, .int 0, .int 0, .int 0, .int 1])), (r2, .inr (6, [.int 4, .long 0, .int 0, .int 4, .int 0, .int 5]))]) hP hD [2, 6, 8, 7, 1, 4, 5, 0, 3] rfl rfl (by decide)
  refine W.widen (k := 2) (n := 12) (Nat.le_of_ble_eq_true rfl) (Nat.le_of_ble_eq_true rfl) ?_
  exact W.vret hx hb hr (fun t ht hW => ⟨⟨(), rfl, trivial, r1, r2, y4, y5, y6, y7, y8, y9, by rw [ht]; exact hP9, va_K.moved hW.alike hK, hD9⟩, hS.F ht⟩) hS.2.2 dM_finish_156
set_option maxHeartbeats 400000000 in
set_option maxRecDepth 100000 in
theorem cM_one0_12 (l : Launch) (hl9 : l.stackTraces = false) (D : va_G) (cT : Nat → ClassId) (aK aV : Nat → Nat) (sz : Nat) (a0 : Nat) (a1 : Nat) (a2 : Nat) (a3 : Nat) (a4 : Nat) (a5 : Nat) (a6 : Nat) (x7 : Int32) (x12 : Int32) (v17 : Value) (v18 : Value) (v19 : Value) (v20 : Value) (v21 : Value) (v22 : Value) (v23 : Value) (v24 : Value) (v25 : Value) (v26 : Value) (v27 : Value) (v28 : Value) (v29 : Value) (v30 : Value) (v31 : Value) (v32 : Value) (v33 : Value) (v34 : Value) (v35 : Value) (v36 : Value) (v37 : Value) (v38 : Value) (v39 : Value) (v40 : Value) (v41 : Value) (v42 : Value) (v43 : Value) (f44 : Nat → Option Nat) (f47 : Nat → Int32) (f49 : Nat → Int32) (f54 : Nat → Option Nat) (f57 : Nat → Int32) (f58 : Nat → Int32) (h8 : ¬ x7 < 0) (h9 : ¬ 7 < x7) (h10 : x7 ≤ 7) (h11 : vp_in x7 8) (h13 : ¬ x12 < 0) (h14 : ¬ 7 < x12) (h15 : x12 ≤ 7) (h16 : vp_in x12 8) (h45 : f44 x12.toNatClampNeg = some a3) (h46 : f44 x7.toNatClampNeg = some a3) (h48 : f47 x12.toNatClampNeg = 4) (h50 : f49 0 = 110) (h51 : f49 1 = 117) (h52 : f49 2 = 108) (h53 : f49 3 = 108) (h55 : f54 0 = none) (h56 : f54 1 = none) : xMet l yM_one0 wyM_one0 9 2 12 205 D cT aK aV sz [.ref a0, .int x7, .int 4, .int x12] [(a0, .inr (5, [v17, .ref a4, v18, .ref a6, v19, v20, v21, v22, v23, v24, v25, v26, v27, v28, v29, v30, v31, v32, v33, v34, v35, .ref a5, v36, v37, .ref a1, .ref a2, v38, v39, v40, v41, v42, v43])), (a1, .inl (cT 5, 8, .inr (.inr (.inr (.inr f44))))), (a2, .inl (cT 1, 8, .inl f47)), (a3, .inl (cT 0, 4096, .inl f49)), (a4, .inl (cT 4, 1024, .inr (.inr (.inr (.inr f54))))), (a5, .inl (cT 0, 1024, .inl f57)), (a6, .inl (cT 0, 4096, .inl f58))] (fun A => va_Qv (fun _ : Unit => True) (fun _ t => ∃ (q3 : Nat) (q4 : Nat) (y5 : Int32) (y6 : Int32) (y7 : Int32) (y8 : Int32) (y9 : Int32) (y10 : Int32), xB D xcl cT A [(a0, .inr (5, [.int 0, .ref a4, .int 2, .ref a6, .int 4, v20, v21, .int 0, v23, .int 0, v25, v26, .int 0, v28, v29, .ref a3, .int 4, .int 4, .int 0, .int 100, v35, .ref a5, .int 6, .int 4096, .ref a1, .ref a2, v38, v39, v40, v41, v42, v43])), (a1, .inl (cT 5, 8, .inr (.inr (.inr (.inr f44))))), (a2, .inl (cT 1, 8, .inl (upd f47 x7.toNatClampNeg 6))), (a3, .inl (cT 0, 4096, .inl (upd (upd (upd (upd (upd (upd f49 0 (vp_nar .byte (vp_nar .byte y5))) 1 (vp_nar .byte (vp_nar .byte y6))) 2 (vp_nar .byte (vp_nar .byte y7))) 3 (vp_nar .byte (vp_nar .byte y8))) 4 (vp_nar .byte (vp_nar .byte y9))) 5 (vp_nar .byte (vp_nar .byte y10))))), (a4, .inl (cT 4, 1024, .inr (.inr (.inr (.inr (va_up (va_up f54 0 (some q3)) 1 (some q4))))))), (a5, .inl (cT 0, 1024, .inl (upd (upd (upd (upd (upd (upd (upd (upd (upd (upd f57 0 110) 1 117) 2 108) 3 108) 0 (vp_nar .byte y5)) 1 (vp_nar .byte y6)) 2 (vp_nar .byte y7)) 3 (vp_nar .byte y8)) 4 (vp_nar .byte y9)) 5 (vp_nar .byte y10)))), (a6, .inl (cT 0, 4096, .inl (upd (upd (upd (upd f58 0 110) 1 117) 2 108) 3 108))), (q3, .inr (6, [.int 0, .long 0, .int 0, .int 0, .int 0, .int 1])), (q4, .inr (6, [.int 4, .long 0, .int 0, .int 4, .int 0, .int 5]))] t) A) := by
  refine Met.ofW (cc := prog_13_method_92_code) (maxL := 4) (ret := none) (by decide) rfl ?_
  intro p e s m args below meth c s₁ B hml hv
  obtain ⟨rfl, hsz, hZ, hP, hK, hD0⟩ := hv
  have hx := B.exec
  have hb := B.bytes
  have hr := B.returns
  have hts := atoms_spec (ws := wyM_one0) B.pre
  have htx := fun w h => hts w (List.mem_cons_of_mem _ h)
  have hown : s.vm.findClass "ValueBenchModel" = some m.cls := findClass_of_methodNamed B.named
  have hlocks := B.notSynchronized
  subst hsz
  have hD := hD0.self (sz := s.heap.size)
  generalize hAe : va_A [(a0, .inr (5, [v17, .ref a4, v18, .ref a6, v19, v20, v21, v22, v23, v24, v25, v26, v27, v28, v29, v30, v31, v32, v33, v34, v35, .ref a5, v36, v37, .ref a1, .ref a2, v38, v39, v40, v41, v42, v43])), (a1, .inl (cT 5, 8, .inr (.inr (.inr (.inr f44))))), (a2, .inl (cT 1, 8, .inl f47)), (a3, .inl (cT 0, 4096, .inl f49)), (a4, .inl (cT 4, 1024, .inr (.inr (.inr (.inr f54))))), (a5, .inl (cT 0, 1024, .inl f57)), (a6, .inl (cT 0, 4096, .inl f58))] s.heap.size = A at hD hZ ⊢
  have hA : ∀ q : Nat, s.heap.size ≤ q → A q := fun q h => by rw [← hAe]; exact Or.inr h
  have hS : va_S A s.heap s.heap [] := va_S.rf
  have hP : va_P D xcl [(a0, .inr (5, [v17, .ref a4, v18, .ref a6, v19, v20, v21, v22, v23, v24, v25, v26, v27, v28, v29, v30, v31, v32, v33, v34, v35, .ref a5, v36, v37, .ref a1, .ref a2, v38, v39, v40, v41, v42, v43])), (a1, .inl (cT 5, 8, .inr (.inr (.inr (.inr f44))))), (a2, .inl (cT 1, 8, .inl f47)), (a3, .inl (cT 0, 4096, .inl f49)), (a4, .inl (cT 4, 1024, .inr (.inr (.inr (.inr f54))))), (a5, .inl (cT 0, 1024, .inl f57)), (a6, .inl (cT 0, 4096, .inl f58))] s.heap := hP
  have hl := lv_entry ([.ref a0, .int x7, .int 4, .int x12]) (n := 4) (Nat.le_of_ble_eq_true rfl)
  rw [lg_entry_eq]
  generalize (lg_sl ([.ref a0, .int x7, .int 4, .int x12]) ++ List.replicate (4 - (lg_sl ([.ref a0, .int x7, .int 4, .int x12])).length) Slot.unset).toArray = ls at hl ⊢
  have hl : lv_has ls 4 [(0, .ref a0), (1, .int x7), (2, .int 4), (3, .int x12)] := hl
  refine lv_aload_n hx hb dM_one0_0 rfl (lv_at hl 0 rfl) ?_
  obtain ⟨hPc, hDc, hFc⟩ := xcut (wc := [(a0, .inr (5, [v17, .ref a4, v18, .ref a6, v19, v20, v21, v22, v23, v24, v25, v26, v27, v28, v29, v30, v31, v32, v33, v34, v35, .ref a5, v36, v37, .ref a1, .ref a2, v38, v39, v40, v41, v42, v43]))]) hP hD hS hA [0] rfl rfl (by decide)
  refine va_callv (va_runV (C := "ValueBenchModel") (As := []) (rest := []) ⟨hx, hb, hml, hown, htx⟩ (cM_begin_0 l hl9 D cT aK aV s.heap.size a0 v17 (.ref a4) v18 (.ref a6) v19 v20 v21 v22 v23 v24 v25 v26 v27 v28 v29 v30 v31 v32 v33 v34 v35 (.ref a5) v36 v37 (.ref a1) (.ref a2) v38 v39 v40 v41 v42 v43) ⟨callB_of 0 htx (xw_goodC kw_5_209) rfl rfl rfl (htx _ kw_1_5) (htx _ kw_5_206) ⟨by decide, by decide, by decide +kernel⟩ ⟨Nat.le_of_ble_eq_true rfl, Nat.le_of_ble_eq_true rfl⟩, (htx _ kw_5_208), (htx _ kp_M_begin)⟩ ⟨xPre_blind, va_recv hK hP (ci := 5) rfl (q0 := 0) rfl, (fun U hU hW => ⟨rfl, xPre_of hZ hS hFc hPc hDc hK U hU hW⟩)⟩ rfl rfl hl.1 rfl (lv_room (Nat.le_of_ble_eq_true rfl)) dM_one0_1 ⟨Nat.le_of_ble_eq_true rfl, Nat.le_of_ble_eq_true rfl⟩) hS (fun q _ h => hFc q h) hFc (fun u9 t H1 locs ht hvm hr9 hB hz1 hk1 hS => ?_)
  obtain ⟨hP1, hK1, hD1⟩ := hB
  rw [ht] at hP1
  obtain ⟨hP, hD⟩ := xjoin (W := [(a1, .inl (cT 5, 8, .inr (.inr (.inr (.inr f44))))), (a2, .inl (cT 1, 8, .inl f47)), (a3, .inl (cT 0, 4096, .inl f49)), (a4, .inl (cT 4, 1024, .inr (.inr (.inr (.inr f54))))), (a5, .inl (cT 0, 1024, .inl f57)), (a6, .inl (cT 0, 4096, .inl f58)), (a0, .inr (5, [.int 0, .ref a4, .int 0, .ref a6, .int 0, v20, v21, .int 0, v23, .int 0, v25, v26, .int 0, v28, v29, v30, v31, v32, v33, v34, v35, .ref a5, .int 0, .int 1000000000, .ref a1, .ref a2, v38, v39, v40, v41, v42, v43]))]) hP hD [0] [1, 2, 3, 4, 5, 6] 6 rfl rfl (by decide) (by decide) hk1 hFc hP1 hD1
  generalize H1 = H at hP hS ⊢
  refine lv_aload_n hx hb dM_one0_4 rfl (lv_at hl 0 rfl) ?_
  refine lv_iload_n hx hb dM_one0_5 rfl (lv_at hl 1 rfl) ?_
  obtain ⟨hPc, hDc, hFc⟩ := xcut (wc := []) hP hD hS hA [] rfl rfl (by decide)
  refine va_calli (va_runV (C := "ValueBenchModel") (As := [.int x7]) (rest := []) ⟨hx, hb, hml, hown, htx⟩ (cM_out_2 l hl9 D cT aK aV H.size a0 x7 h8 h9 h10 h11) ⟨callB_of 1 htx (xw_goodC kw_5_217) rfl rfl rfl (htx _ kw_1_5) (htx _ kw_5_214) ⟨by decide, by decide, by decide +kernel⟩ ⟨Nat.le_of_ble_eq_true rfl, Nat.le_of_ble_eq_true rfl⟩, (htx _ kw_5_216), (htx _ kp_M_out)⟩ ⟨xPre_blind, va_recv hK hP (ci := 5) rfl (q0 := 6) rfl, (fun U hU hW => ⟨rfl, xPre_of hZ hS hFc hPc hDc hK U hU hW⟩)⟩ rfl rfl hl.1 rfl (lv_room (Nat.le_of_ble_eq_true rfl)) dM_one0_6 ⟨Nat.le_of_ble_eq_true rfl, Nat.le_of_ble_eq_true rfl⟩) hS (fun q _ h => hFc q h) hFc (fun r1 u9 t H1 locs ht hvm hr9 hB hz1 hk1 hS => ?_)
  obtain ⟨hP1, hK1, hD1⟩ := hB
  rw [ht] at hP1
  obtain ⟨hP, hD⟩ := xjoin (W := [(a1, .inl (cT 5, 8, .inr (.inr (.inr (.inr f44))))), (a2, .inl (cT 1, 8, .inl f47)), (a3, .inl (cT 0, 4096, .inl f49)), (a4, .inl (cT 4, 1024, .inr (.inr (.inr (.inr f54))))), (a5, .inl (cT 0, 1024, .inl f57)), (a6, .inl (cT 0, 4096, .inl f58)), (a0, .inr (5, [.int 0, .ref a4, .int 0, .ref a6, .int 0, v20, v21, .int 0, v23, .int 0, v25, v26, .int 0, v28, v29, v30, v31, v32, v33, v34, v35, .ref a5, .int 0, .int 1000000000, .ref a1, .ref a2, v38, v39, v40, v41, v42, v43]))]) hP hD [] [0, 1, 2, 3, 4, 5, 6] 7 rfl rfl (by decide) (by decide) hk1 hFc hP1 hD1
  generalize H1 = H at hP hS ⊢
  rw [hr9]
  refine W.eq (g2 := F0 m 9 ls [.int 0]) rfl ?_
  refine lv_if_ne (tgt := 30) hx hb dM_one0_9 (by decide) (fun h => ((by revert h; decide : False)).elim) (fun _ => ?_)
  refine lv_iload_n hx hb dM_one0_12 rfl (lv_at hl 2 rfl) ?_
  refine lv_if_lt (tgt := 30) hx hb dM_one0_13 (by decide) (fun h => ((by revert h; decide : False)).elim) (fun _ => ?_)
  refine lv_iload_n hx hb dM_one0_16 rfl (lv_at hl 2 rfl) ?_
  refine lv_bipush (v := 13) hx hb dM_one0_17 (by decide) ?_
  refine lv_icmp_gt (tgt := 30) hx hb dM_one0_19 (by decide) (fun h => ((by revert h; decide : False)).elim) (fun _ => ?_)
  refine lv_aload_n hx hb dM_one0_22 rfl (lv_at hl 0 rfl) ?_
  refine lv_iload_n hx hb dM_one0_23 rfl (lv_at hl 3 rfl) ?_
  obtain ⟨hPc, hDc, hFc⟩ := xcut (wc := []) hP hD hS hA [] rfl rfl (by decide)
  refine va_calli (va_runV (C := "ValueBenchModel") (As := [.int x12]) (rest := []) ⟨hx, hb, hml, hown, htx⟩ (cM_out_2 l hl9 D cT aK aV H.size a0 x12 h13 h14 h15 h16) ⟨callB_of 1 htx (xw_goodC kw_5_217) rfl rfl rfl (htx _ kw_1_5) (htx _ kw_5_214) ⟨by decide, by decide, by decide +kernel⟩ ⟨Nat.le_of_ble_eq_true rfl, Nat.le_of_ble_eq_true rfl⟩, (htx _ kw_5_216), (htx _ kp_M_out)⟩ ⟨xPre_blind, va_recv hK hP (ci := 5) rfl (q0 := 6) rfl, (fun U hU hW => ⟨rfl, xPre_of hZ hS hFc hPc hDc hK U hU hW⟩)⟩ rfl rfl hl.1 rfl (lv_room (Nat.le_of_ble_eq_true rfl)) dM_one0_24 ⟨Nat.le_of_ble_eq_true rfl, Nat.le_of_ble_eq_true rfl⟩) hS (fun q _ h => hFc q h) hFc (fun r2 u9 t H1 locs ht hvm hr9 hB hz1 hk1 hS => ?_)
  obtain ⟨hP1, hK1, hD1⟩ := hB
  rw [ht] at hP1
  obtain ⟨hP, hD⟩ := xjoin (W := [(a1, .inl (cT 5, 8, .inr (.inr (.inr (.inr f44))))), (a2, .inl (cT 1, 8, .inl f47)), (a3, .inl (cT 0, 4096, .inl f49)), (a4, .inl (cT 4, 1024, .inr (.inr (.inr (.inr f54))))), (a5, .inl (cT 0, 1024, .inl f57)), (a6, .inl (cT 0, 4096, .inl f58)), (a0, .inr (5, [.int 0, .ref a4, .int 0, .ref a6, .int 0, v20, v21, .int 0, v23, .int 0, v25, v26, .int 0, v28, v29, v30, v31, v32, v33, v34, v35, .ref a5, .int 0, .int 1000000000, .ref a1, .ref a2, v38, v39, v40, v41, v42, v43]))]) hP hD [] [0, 1, 2, 3, 4, 5, 6] 7 rfl rfl (by decide) (by decide) hk1 hFc hP1 hD1
  generalize H1 = H at hP hS ⊢
  rw [hr9]
  refine W.eq (g2 := F0 m 27 ls [.int 0]) rfl ?_
  refine lv_if_eq (tgt := 38) hx hb dM_one0_27 (by decide) (fun _ => ?_) (fun h => ((by revert h; decide : False)).elim)
  refine lv_aload_n hx hb dM_one0_38 rfl (lv_at hl 0 rfl) ?_
  refine lv_iload_n hx hb dM_one0_39 rfl (lv_at hl 1 rfl) ?_
  refine lv_iconst (v := 1) hx hb dM_one0_40 (by decide) ?_
  refine lv_iload_n hx hb dM_one0_41 rfl (lv_at hl 2 rfl) ?_
  refine lv_iload_n hx hb dM_one0_42 rfl (lv_at hl 3 rfl) ?_
  refine lv_iload_n hx hb dM_one0_43 rfl (lv_at hl 3 rfl) ?_
  obtain ⟨hPc, hDc, hFc⟩ := xcut (wc := [(a0, .inr (5, [.int 0, .ref a4, .int 0, .ref a6, .int 0, v20, v21, .int 0, v23, .int 0, v25, v26, .int 0, v28, v29, v30, v31, v32, v33, v34, v35, .ref a5, .int 0, .int 1000000000, .ref a1, .ref a2, v38, v39, v40, v41, v42, v43])), (a1, .inl (cT 5, 8, .inr (.inr (.inr (.inr f44))))), (a2, .inl (cT 1, 8, .inl f47)), (a3, .inl (cT 0, 4096, .inl f49)), (a4, .inl (cT 4, 1024, .inr (.inr (.inr (.inr f54))))), (a5, .inl (cT 0, 1024, .inl f57)), (a6, .inl (cT 0, 4096, .inl f58))]) hP hD hS hA [6, 0, 1, 2, 3, 4, 5] rfl rfl (by decide)
  refine va_callv (vx_runVW (C := "ValueBenchModel") (As := [.int x7, .int 1, .int 4, .int x12, .int x12]) (rest := []) ⟨hx, hb, hml, hown, htx⟩ (cM_finish_19 l hl9 D cT aK aV H.size a0 a1 a2 a3 a4 a5 a6 x7 x12 x12 (.int 0) v20 v21 (.int 0) v23 (.int 0) v25 v26 (.int 0) v28 v29 v30 v31 v32 v33 v34 v35 1000000000 v38 v39 v40 v41 v42 v43 f44 f47 f49 f54 f57 f58 h8 h9 h10 h11 h13 h14 h15 h16 (by first | rfl | exact h45 | exact h46 | exact h48 | exact h50 | exact h51 | exact h52 | exact h53 | exact h55 | exact h56) (by first | rfl | exact h45 | exact h46 | exact h48 | exact h50 | exact h51 | exact h52 | exact h53 | exact h55 | exact h56) (by first | rfl | exact h45 | exact h46 | exact h48 | exact h50 | exact h51 | exact h52 | exact h53 | exact h55 | exact h56) (by first | rfl | exact h45 | exact h46 | exact h48 | exact h50 | exact h51 | exact h52 | exact h53 | exact h55 | exact h56) (by first | rfl | exact h45 | exact h46 | exact h48 | exact h50 | exact h51 | exact h52 | exact h53 | exact h55 | exact h56) (by first | rfl | exact h45 | exact h46 | exact h48 | exact h50 | exact h51 | exact h52 | exact h53 | exact h55 | exact h56) (by first | rfl | exact h45 | exact h46 | exact h48 | exact h50 | exact h51 | exact h52 | exact h53 | exact h55 | exact h56) (by first | rfl | exact h45 | exact h46 | exact h48 | exact h50 | exact h51 | exact h52 | exact h53 | exact h55 | exact h56) (by first | rfl | exact h45 | exact h46 | exact h48 | exact h50 | exact h51 | exact h52 | exact h53 | exact h55 | exact h56)) (xcVW 5 htx (xw_goodC kw_6_195) rfl rfl rfl (htx _ kw_1_5) (htx _ kw_6_192) ⟨by decide, by decide, by decide +kernel⟩ ⟨Nat.le_of_ble_eq_true rfl, Nat.le_of_ble_eq_true rfl⟩ (htx _ kw_6_194) (htx _ kp_M_finish)) ⟨xPre_blind, va_recv hK hP (ci := 5) rfl (q0 := 6) rfl, (fun U hU hW => ⟨rfl, xPre_of hZ hS hFc hPc hDc hK U hU hW⟩)⟩ rfl rfl hl.1 rfl (lv_room (Nat.le_of_ble_eq_true rfl)) dM_one0_44 ⟨Nat.le_of_ble_eq_true rfl, Nat.le_of_ble_eq_true rfl⟩) hS (fun q _ h => hFc q h) hFc (fun u9 t H1 locs ht hvm hr9 hB hz1 hk1 hS => ?_)
  obtain ⟨q3, q4, y5, y6, y7, y8, y9, y10, hP1, hK1, hD1⟩ := hB
  rw [ht] at hP1
  obtain ⟨hP, hD⟩ := xjoin (W := [(a0, .inr (5, [.int 0, .ref a4, .int 2, .ref a6, .int 4, v20, v21, .int 0, v23, .int 0, v25, v26, .int 0, v28, v29, .ref a3, .int 4, .int 4, .int 0, .int 100, v35, .ref a5, .int 6, .int 4096, .ref a1, .ref a2, v38, v39, v40, v41, v42, v43])), (a1, .inl (cT 5, 8, .inr (.inr (.inr (.inr f44))))), (a2, .inl (cT 1, 8, .inl (upd f47 x7.toNatClampNeg 6))), (a3, .inl (cT 0, 4096, .inl (upd (upd (upd (upd (upd (upd f49 0 (vp_nar .byte (vp_nar .byte y5))) 1 (vp_nar .byte (vp_nar .byte y6))) 2 (vp_nar .byte (vp_nar .byte y7))) 3 (vp_nar .byte (vp_nar .byte y8))) 4 (vp_nar .byte (vp_nar .byte y9))) 5 (vp_nar .byte (vp_nar .byte y10))))), (a4, .inl (cT 4, 1024, .inr (.inr (.inr (.inr (va_up (va_up f54 0 (some q3)) 1 (some q4))))))), (a5, .inl (cT 0, 1024, .inl (upd (upd (upd (upd (upd (upd (upd (upd (upd (upd f57 0 110) 1 117) 2 108) 3 108) 0 (vp_nar .byte y5)) 1 (vp_nar .byte y6)) 2 (vp_nar .byte y7)) 3 (vp_nar .byte y8)) 4 (vp_nar .byte y9)) 5 (vp_nar .byte y10)))), (a6, .inl (cT 0, 4096, .inl (upd (upd (upd (upd f58 0 110) 1 117) 2 108) 3 108))), (q3, .inr (6, [.int 0, .long 0, .int 0, .int 0, .int 0, .int 1])), (q4, .inr (6, [.int 4, .long 0, .int 0, .int 4, .int 0, .int 5]))]) hP hD [6, 0, 1, 2, 3, 4, 5] [] 0 rfl rfl (by decide) (by decide) hk1 hFc hP1 hD1
  generalize H1 = H at hP hS ⊢
  obtain ⟨hP9, hD9⟩ := xsub (wc := [(a0, .inr (5, [.int 0, .ref a4, .int 2, .ref a6, .int 4, v20, v21, .int 0, v23, .int 0, v25, v26, .int 0, v28, v29, .ref a3, .int 4, .int 4, .int 0, .int 100, v35, .ref a5, .int 6, .int 4096, .ref a1, .ref a2, v38, v39, v40, v41, v42, v43])), (a1, .inl (cT 5, 8, .inr (.inr (.inr (.inr f44))))), (a2, .inl (cT 1, 8, .inl (upd f47 x7.toNatClampNeg 6))), (a3, .inl (cT 0, 4096, .inl (upd (upd (upd (upd (upd (upd f49 0 (vp_nar .byte (vp_nar .byte y5))) 1 (vp_nar .byte (vp_nar .byte y6))) 2 (vp_nar .byte (vp_nar .byte y7))) 3 (vp_nar .byte (vp_nar .byte y8))) 4 (vp_nar .byte (vp_nar .byte y9))) 5 (vp_nar .byte (vp_nar .byte y10))))), (a4, .inl (cT 4, 1024, .inr (.inr (.inr (.inr (va_up (va_up f54 0 (some q3)) 1 (some q4))))))), (a5, .inl (cT 0, 1024, .inl (upd (upd (upd (upd (upd (upd (upd (upd (upd (upd f57 0 110) 1 117) 2 108) 3 108) 0 (vp_nar .byte y5)) 1 (vp_nar .byte y6)) 2 (vp_nar .byte y7)) 3 (vp_nar .byte y8)) 4 (vp_nar .byte y9)) 5 (vp_nar .byte y10)))), (a6, .inl (cT 0, 4096, .inl (upd (upd (upd (upd f58 0 110) 1 117) 2 108) 3 108))), (q3, .inr (6, [.int 0, .long 0, .int 0, .int 0, .int 0, .int 1])), (q4, .inr (6, [.int 4, .long 0, .int 0, .int 4, .int 0, .int 5]))]) hP hD [0, 1, 2, 3, 4, 5, 6, 7, 8] rfl rfl (by decide)
  refine W.widen (k := 2) (n := 12) (Nat.le_of_ble_eq_true rfl) (Nat.le_of_ble_eq_true rfl) ?_
  exact W.vret hx hb hr (fun t ht hW => ⟨⟨(), rfl, trivial, q3, q4, y5, y6, y7, y8, y9, y10, by rw [ht]; exact hP9, va_K.moved hW.alike hK, hD9⟩, hS.F ht⟩) hS.2.2 dM_one0_47
set_option maxHeartbeats 400000000 in
set_option maxRecDepth 100000 in
theorem cM_finish_20 (l : Launch) (hl9 : l.stackTraces = false) (D : va_G) (cT : Nat → ClassId) (aK aV : Nat → Nat) (sz : Nat) (a0 : Nat) (a1 : Nat) (a2 : Nat) (a3 : Nat) (a4 : Nat) (a5 : Nat) (a6 : Nat) (a7 : Nat) (x8 : Int32) (x13 : Int32) (x18 : Int32) (v19 : Value) (v20 : Value) (v21 : Value) (v22 : Value) (v23 : Value) (v24 : Value) (v25 : Value) (v26 : Value) (v27 : Value) (v28 : Value) (v29 : Value) (v30 : Value) (v31 : Value) (v32 : Value) (v33 : Value) (v34 : Value) (v35 : Value) (x36 : Int32) (v37 : Value) (v38 : Value) (v39 : Value) (v40 : Value) (v41 : Value) (v42 : Value) (f43 : Nat → Option Nat) (f46 : Nat → Int32) (f48 : Nat → Int32) (f53 : Nat → Option Nat) (f56 : Nat → Int32) (f57 : Nat → Int32) (f58 : Nat → Int32) (h9 : ¬ x8 < 0) (h10 : ¬ 7 < x8) (h11 : x8 ≤ 7) (h12 : vp_in x8 8) (h14 : ¬ x13 < 0) (h15 : ¬ 7 < x13) (h16 : x13 ≤ 7) (h17 : vp_in x13 8) (h44 : f43 x13.toNatClampNeg = some a3) (h45 : f43 x8.toNatClampNeg = some a7) (h47 : f46 x13.toNatClampNeg = 4) (h49 : f48 0 = 110) (h50 : f48 1 = 117) (h51 : f48 2 = 108) (h52 : f48 3 = 108) (h54 : f53 0 = none) (h55 : f53 1 = none) : xMet l yM_finish wyM_finish 8 2 12 176 D cT aK aV sz [.ref a0, .int x8, .int 1, .int 4, .int x13, .int x18] [(a0, .inr (5, [v19, .ref a4, .int 0, .ref a6, .int 0, v20, v21, v22, v23, v24, v25, v26, v27, v28, v29, v30, v31, v32, v33, v34, v35, .ref a5, .int 0, .int x36, .ref a1, .ref a2, v37, v38, v39, v40, v41, v42])), (a1, .inl (cT 5, 8, .inr (.inr (.inr (.inr f43))))), (a2, .inl (cT 1, 8, .inl f46)), (a3, .inl (cT 0, 4096, .inl f48)), (a4, .inl (cT 4, 1024, .inr (.inr (.inr (.inr f53))))), (a5, .inl (cT 0, 1024, .inl f56)), (a6, .inl (cT 0, 4096, .inl f57)), (a7, .inl (cT 0, 4096, .inl f58))] (fun A => va_Qv (fun _ : Unit => True) (fun _ t => ∃ (r1 : Nat) (r2 : Nat) (y4 : Int32) (y5 : Int32) (y6 : Int32) (y7 : Int32) (y8 : Int32) (y9 : Int32), xB D xcl cT A [(a0, .inr (5, [v19, .ref a4, .int 2, .ref a6, .int 4, v20, v21, v22, v23, v24, v25, v26, v27, v28, v29, .ref a3, .int 4, .int 4, .int 0, .int 100, v35, .ref a5, .int 6, .int 4096, .ref a1, .ref a2, v37, v38, v39, v40, v41, v42])), (a1, .inl (cT 5, 8, .inr (.inr (.inr (.inr f43))))), (a2, .inl (cT 1, 8, .inl (upd f46 x8.toNatClampNeg 6))), (a3, .inl (cT 0, 4096, .inl f48)), (a4, .inl (cT 4, 1024, .inr (.inr (.inr (.inr (va_up (va_up f53 0 (some r1)) 1 (some r2))))))), (a5, .inl (cT 0, 1024, .inl (upd (upd (upd (upd (upd (upd (upd (upd (upd (upd f56 0 110) 1 117) 2 108) 3 108) 0 (vp_nar .byte y4)) 1 (vp_nar .byte y5)) 2 (vp_nar .byte y6)) 3 (vp_nar .byte y7)) 4 (vp_nar .byte y8)) 5 (vp_nar .byte y9)))), (a6, .inl (cT 0, 4096, .inl (upd (upd (upd (upd f57 0 110) 1 117) 2 108) 3 108))), (a7, .inl (cT 0, 4096, .inl (upd (upd (upd (upd (upd (upd f58 0 (vp_nar .byte (vp_nar .byte y4))) 1 (vp_nar .byte (vp_nar .byte y5))) 2 (vp_nar .byte (vp_nar .byte y6))) 3 (vp_nar .byte (vp_nar .byte y7))) 4 (vp_nar .byte (vp_nar .byte y8))) 5 (vp_nar .byte (vp_nar .byte y9))))), (r1, .inr (6, [.int 0, .long 0, .int 0, .int 0, .int 0, .int 1])), (r2, .inr (6, [.int 4, .long 0, .int 0, .int 4, .int 0, .int 5]))] t) A) := by
  refine va_MetW (cc := prog_13_method_90_code) (maxL := 10) (ret := none) (hh := [(0, 128, 131, 83), (0, 128, 149, 86)]) (by decide) rfl ?_
  intro p e s m args below meth c s₁ B hml hv
  obtain ⟨rfl, hsz, hZ, hP, hK, hD0⟩ := hv
  have hx := B.exec
  have hb := B.bytes
  have hr := B.returns
  have hts := atoms_spec (ws := wyM_finish) B.pre
  have htx := fun w h => hts w (List.mem_cons_of_mem _ h)
  have hown : s.vm.findClass "ValueBenchModel" = some m.cls := findClass_of_methodNamed B.named
  have hlocks := B.notSynchronized
  subst hsz
  have hD := hD0.self (sz := s.heap.size)
  generalize hAe : va_A [(a0, .inr (5, [v19, .ref a4, .int 0, .ref a6, .int 0, v20, v21, v22, v23, v24, v25, v26, v27, v28, v29, v30, v31, v32, v33, v34, v35, .ref a5, .int 0, .int x36, .ref a1, .ref a2, v37, v38, v39, v40, v41, v42])), (a1, .inl (cT 5, 8, .inr (.inr (.inr (.inr f43))))), (a2, .inl (cT 1, 8, .inl f46)), (a3, .inl (cT 0, 4096, .inl f48)), (a4, .inl (cT 4, 1024, .inr (.inr (.inr (.inr f53))))), (a5, .inl (cT 0, 1024, .inl f56)), (a6, .inl (cT 0, 4096, .inl f57)), (a7, .inl (cT 0, 4096, .inl f58))] s.heap.size = A at hD hZ ⊢
  have hA : ∀ q : Nat, s.heap.size ≤ q → A q := fun q h => by rw [← hAe]; exact Or.inr h
  have hS : va_S A s.heap s.heap [] := va_S.rf
  have hP : va_P D xcl [(a0, .inr (5, [v19, .ref a4, .int 0, .ref a6, .int 0, v20, v21, v22, v23, v24, v25, v26, v27, v28, v29, v30, v31, v32, v33, v34, v35, .ref a5, .int 0, .int x36, .ref a1, .ref a2, v37, v38, v39, v40, v41, v42])), (a1, .inl (cT 5, 8, .inr (.inr (.inr (.inr f43))))), (a2, .inl (cT 1, 8, .inl f46)), (a3, .inl (cT 0, 4096, .inl f48)), (a4, .inl (cT 4, 1024, .inr (.inr (.inr (.inr f53))))), (a5, .inl (cT 0, 1024, .inl f56)), (a6, .inl (cT 0, 4096, .inl f57)), (a7, .inl (cT 0, 4096, .inl f58))] s.heap := hP
  have hl := lv_entry ([.ref a0, .int x8, .int 1, .int 4, .int x13, .int x18]) (n := 10) (Nat.le_of_ble_eq_true rfl)
  rw [lg_entry_eq]
  generalize (lg_sl ([.ref a0, .int x8, .int 1, .int 4, .int x13, .int x18]) ++ List.replicate (10 - (lg_sl ([.ref a0, .int x8, .int 1, .int 4, .int x13, .int x18])).length) Slot.unset).toArray = ls at hl ⊢
  have hl : lv_has ls 10 [(0, .ref a0), (1, .int x8), (2, .int 1), (3, .int 4), (4, .int x13), (5, .int x18)] := hl
  have htab := vx_table (x := yM_finish) B (hts _ List.mem_cons_self)
  refine lv_aload_n hx hb dM_finish_0 rfl (lv_at hl 0 rfl) ?_
  refine lv_iload hx hb dM_finish_1 (lv_at hl 4 rfl) ?_
  obtain ⟨hPc, hDc, hFc⟩ := xcut (wc := [(a0, .inr (5, [v19, .ref a4, .int 0, .ref a6, .int 0, v20, v21, v22, v23, v24, v25, v26, v27, v28, v29, v30, v31, v32, v33, v34, v35, .ref a5, .int 0, .int x36, .ref a1, .ref a2, v37, v38, v39, v40, v41, v42])), (a1, .inl (cT 5, 8, .inr (.inr (.inr (.inr f43))))), (a2, .inl (cT 1, 8, .inl f46)), (a3, .inl (cT 0, 4096, .inl f48)), (a4, .inl (cT 4, 1024, .inr (.inr (.inr (.inr f53)))))]) hP hD hS hA [0, 1, 2, 3, 4] rfl rfl (by decide)
  refine va_callr (va_runV (C := "ValueBenchModel") (As := [.int x13]) (rest := []) ⟨hx, hb, hml, hown, htx⟩ (cM_register_0 l hl9 D cT aK aV s.heap.size a0 a1 a2 a3 a4 x13 v19 (.ref a6) (.int 0) v20 v21 v22 v23 v24 v25 v26 v27 v28 v29 v30 v31 v32 v33 v34 v35 (.ref a5) (.int 0) (.int x36) v37 v38 v39 v40 v41 v42 f43 f46 f48 f53 h14 h15 h16 h17 (by first | rfl | exact h44 | exact h45 | exact h47 | exact h49 | exact h50 | exact h51 | exact h52 | exact h54 | exact h55) (by first | rfl | exact h44 | exact h45 | exact h47 | exact h49 | exact h50 | exact h51 | exact h52 | exact h54 | exact h55) (by first | rfl | exact h44 | exact h45 | exact h47 | exact h49 | exact h50 | exact h51 | exact h52 | exact h54 | exact h55) (by first | rfl | exact h44 | exact h45 | exact h47 | exact h49 | exact h50 | exact h51 | exact h52 | exact h54 | exact h55) (by first | rfl | exact h44 | exact h45 | exact h47 | exact h49 | exact h50 | exact h51 | exact h52 | exact h54 | exact h55) (by first | rfl | exact h44 | exact h45 | exact h47 | exact h49 | exact h50 | exact h51 | exact h52 | exact h54 | exact h55) (by first | rfl | exact h44 | exact h45 | exact h47 | exact h49 | exact h50 | exact h51 | exact h52 | exact h54 | exact h55)) ⟨callB_of 1 htx (xw_goodC kw_6_170) rfl rfl rfl (htx _ kw_1_5) (htx _ kw_6_167) ⟨by decide, by decide, by decide +kernel⟩ ⟨Nat.le_of_ble_eq_true rfl, Nat.le_of_ble_eq_true rfl⟩, (htx _ kw_6_169), (htx _ kp_M_register)⟩ ⟨xPre_blind, va_recv hK hP (ci := 5) rfl (q0 := 0) rfl, (fun U hU hW => ⟨rfl, xPre_of hZ hS hFc hPc hDc hK U hU hW⟩)⟩ rfl rfl hl.1 rfl (lv_room (Nat.le_of_ble_eq_true rfl)) dM_finish_3 ⟨Nat.le_of_ble_eq_true rfl, Nat.le_of_ble_eq_true rfl⟩) hS (fun q _ h => hFc q h) hFc (fun u9 r1 t H1 locs ht hvm hr9 hB hz1 hk1 hS => ?_)
  obtain ⟨hP1, hK1, hD1⟩ := hB
  rw [ht] at hP1
  obtain ⟨hP, hD⟩ := xjoin (W := [(a5, .inl (cT 0, 1024, .inl f56)), (a6, .inl (cT 0, 4096, .inl f57)), (a7, .inl (cT 0, 4096, .inl f58)), (a0, .inr (5, [v19, .ref a4, .int 1, .ref a6, .int 0, v20, v21, v22, v23, v24, v25, v26, v27, v28, v29, .ref a3, .int 4, .int 4, .int 0, .int 100, v35, .ref a5, .int 0, .int x36, .ref a1, .ref a2, v37, v38, v39, v40, v41, v42])), (a1, .inl (cT 5, 8, .inr (.inr (.inr (.inr f43))))), (a2, .inl (cT 1, 8, .inl f46)), (a3, .inl (cT 0, 4096, .inl f48)), (a4, .inl (cT 4, 1024, .inr (.inr (.inr (.inr (va_up f53 0 (some r1))))))), (r1, .inr (6, [.int 0, .long 0, .int 0, .int 0, .int 0, .int 1]))]) hP hD [0, 1, 2, 3, 4] [5, 6, 7] 3 rfl rfl (by decide) (by decide) hk1 hFc hP1 hD1
  generalize H1 = H at hP hS ⊢
  refine W.eq (g2 := F0 m 6 ls [.ref r1]) rfl ?_
  refine lv_astore (lv' := [(6, .ref r1), (0, .ref a0), (1, .int x8), (2, .int 1), (3, .int 4), (4, .int x13), (5, .int x18)]) hx hb dM_finish_6 hl (by decide) rfl (fun ls hl => ?_)
  refine lv_iload_n hx hb dM_finish_8 rfl (lv_at hl 3 rfl) ?_
  refine lv_iconst (v := 1) hx hb dM_finish_9 (by decide) ?_
  refine lv_icmp_ne (tgt := 17) hx hb dM_finish_10 (by decide) (fun h => ((by revert h; decide : False)).elim) (fun _ => ?_)
  refine lv_null hx hb dM_finish_13 ?_
  refine lv_goto (tgt := 23) hx hb dM_finish_14 (by decide) ?_
  refine lv_astoreN (lv' := [(7, .null), (6, .ref r1), (0, .ref a0), (1, .int x8), (2, .int 1), (3, .int 4), (4, .int x13), (5, .int x18)]) hx hb dM_finish_23 hl (by decide) rfl (fun ls hl => ?_)
  refine lv_iload_n hx hb dM_finish_25 rfl (lv_at hl 4 rfl) ?_
  refine lv_if_ne (tgt := 43) hx hb dM_finish_26 (by decide) (fun _ => ?_) (fun h => ((by revert h; decide : False)).elim)
  refine lv_iload_n hx hb dM_finish_43 rfl (lv_at hl 4 rfl) ?_
  refine lv_iconst (v := 1) hx hb dM_finish_44 (by decide) ?_
  refine lv_icmp_ne (tgt := 60) hx hb dM_finish_45 (by decide) (fun h => ((by revert h; decide : False)).elim) (fun _ => ?_)
  refine lv_aload_n hx hb dM_finish_48 rfl (lv_at hl 2 rfl) ?_
  refine lv_iload_n hx hb dM_finish_49 rfl (lv_at hl 5 rfl) ?_
  refine lv_aload hx hb dM_finish_50 (lv_at hl 1 rfl) ?_
  obtain ⟨hPc, hDc, hFc⟩ := xcut (wc := [(r1, .inr (6, [.int 0, .long 0, .int 0, .int 0, .int 0, .int 1])), (a0, .inr (5, [v19, .ref a4, .int 1, .ref a6, .int 0, v20, v21, v22, v23, v24, v25, v26, v27, v28, v29, .ref a3, .int 4, .int 4, .int 0, .int 100, v35, .ref a5, .int 0, .int x36, .ref a1, .ref a2, v37, v38, v39, v40, v41, v42])), (a5, .inl (cT 0, 1024, .inl f56)), (a6, .inl (cT 0, 4096, .inl f57)), (a4, .inl (cT 4, 1024, .inr (.inr (.inr (.inr (va_up f53 0 (some r1)))))))]) hP hD hS hA [8, 3, 0, 1, 7] rfl rfl (by decide)
  refine va_callr (va_runV (C := "ValueBenchModel") (As := [.int 4, .ref r1]) (rest := []) ⟨hx, hb, hml, hown, htx⟩ (cM_one1_4 l hl9 D cT aK aV H.size r1 a0 a5 a6 a4 (.long 0) (.int 0) (.int 0) (.int 0) (.int 1) v19 v20 v21 v22 v23 v24 v25 v26 v27 v28 v29 (.ref a3) (.int 4) (.int 4) (.int 0) (.int 100) v35 x36 (.ref a1) (.ref a2) v37 v38 v39 v40 v41 v42 f56 f57 (va_up f53 0 (some r1)) (by first | rfl | exact h44 | exact h45 | exact h47 | exact h49 | exact h50 | exact h51 | exact h52 | exact h55)) ⟨callB_of 2 htx (xw_goodC kw_6_237) rfl rfl rfl (htx _ kw_1_5) (htx _ kw_6_234) ⟨by decide, by decide, by decide +kernel⟩ ⟨Nat.le_of_ble_eq_true rfl, Nat.le_of_ble_eq_true rfl⟩, (htx _ kw_6_236), (htx _ kp_M_one1)⟩ ⟨xPre_blind, va_recv hK hP (ci := 5) rfl (q0 := 3) rfl, (fun U hU hW => ⟨rfl, xPre_of hZ hS hFc hPc hDc hK U hU hW⟩)⟩ rfl rfl hl.1 rfl (lv_room (Nat.le_of_ble_eq_true rfl)) dM_finish_52 ⟨Nat.le_of_ble_eq_true rfl, Nat.le_of_ble_eq_true rfl⟩) hS (fun q _ h => hFc q h) hFc (fun u9 r2 t H1 locs ht hvm hr9 hB hz1 hk1 hS => ?_)
  obtain ⟨hP1, hK1, hD1⟩ := hB
  rw [ht] at hP1
  obtain ⟨hP, hD⟩ := xjoin (W := [(a7, .inl (cT 0, 4096, .inl f58)), (a1, .inl (cT 5, 8, .inr (.inr (.inr (.inr f43))))), (a2, .inl (cT 1, 8, .inl f46)), (a3, .inl (cT 0, 4096, .inl f48)), (r1, .inr (6, [.int 0, .long 0, .int 0, .int 0, .int 0, .int 1])), (a0, .inr (5, [v19, .ref a4, .int 2, .ref a6, .int 4, v20, v21, v22, v23, v24, v25, v26, v27, v28, v29, .ref a3, .int 4, .int 4, .int 0, .int 100, v35, .ref a5, .int 0, .int x36, .ref a1, .ref a2, v37, v38, v39, v40, v41, v42])), (a5, .inl (cT 0, 1024, .inl (upd (upd (upd (upd f56 0 110) 1 117) 2 108) 3 108))), (a6, .inl (cT 0, 4096, .inl (upd (upd (upd (upd f57 0 110) 1 117) 2 108) 3 108))), (a4, .inl (cT 4, 1024, .inr (.inr (.inr (.inr (va_up (va_up f53 0 (some r1)) 1 (some r2))))))), (r2, .inr (6, [.int 4, .long 0, .int 0, .int 4, .int 0, .int 5]))]) hP hD [8, 3, 0, 1, 7] [2, 4, 5, 6] 4 rfl rfl (by decide) (by decide) hk1 hFc hP1 hD1
  generalize H1 = H at hP hS ⊢
  refine W.eq (g2 := F0 m 55 ls [.ref r2]) rfl ?_
  refine lv_astore (lv' := [(8, .ref r2), (7, .null), (6, .ref r1), (0, .ref a0), (1, .int x8), (2, .int 1), (3, .int 4), (4, .int x13), (5, .int x18)]) hx hb dM_finish_55 hl (by decide) rfl (fun ls hl => ?_)
  refine lv_goto (tgt := 119) hx hb dM_finish_57 (by decide) ?_
  refine lv_aload_n hx hb dM_finish_119 rfl (lv_at hl 3 rfl) ?_
  refine lv_iload_n hx hb dM_finish_120 rfl (lv_at hl 4 rfl) ?_
  refine lv_aload hx hb dM_finish_121 (lv_at hl 0 rfl) ?_
  obtain ⟨hPc, hDc, hFc⟩ := xcut (wc := [(a0, .inr (5, [v19, .ref a4, .int 2, .ref a6, .int 4, v20, v21, v22, v23, v24, v25, v26, v27, v28, v29, .ref a3, .int 4, .int 4, .int 0, .int 100, v35, .ref a5, .int 0, .int x36, .ref a1, .ref a2, v37, v38, v39, v40, v41, v42])), (r2, .inr (6, [.int 4, .long 0, .int 0, .int 4, .int 0, .int 5])), (a5, .inl (cT 0, 1024, .inl (upd (upd (upd (upd f56 0 110) 1 117) 2 108) 3 108))), (a6, .inl (cT 0, 4096, .inl (upd (upd (upd (upd f57 0 110) 1 117) 2 108) 3 108))), (a1, .inl (cT 5, 8, .inr (.inr (.inr (.inr f43))))), (a7, .inl (cT 0, 4096, .inl f58)), (a2, .inl (cT 1, 8, .inl f46))]) hP hD hS hA [5, 9, 6, 7, 1, 0, 2] rfl rfl (by decide)
  refine va_calli (va_runV (C := "ValueBenchModel") (As := [.int x8, .ref r2]) (rest := []) ⟨hx, hb, hml, hown, htx⟩ (cM_store_3 l hl9 D cT aK aV H.size a0 r2 a5 a6 a1 a7 a2 x8 v19 (.ref a4) (.int 2) (.int 4) v20 v21 v22 v23 v24 v25 v26 v27 v28 v29 (.ref a3) (.int 4) (.int 4) (.int 0) (.int 100) v35 (.int 0) (.int x36) v37 v38 v39 v40 v41 v42 (.long 0) (.int 0) (.int 5) (upd (upd (upd (upd f56 0 110) 1 117) 2 108) 3 108) (upd (upd (upd (upd f57 0 110) 1 117) 2 108) 3 108) f43 f58 f46 h9 h10 h11 h12 (by first | rfl | exact h44 | exact h45 | exact h47 | exact h49 | exact h50 | exact h51 | exact h52) (by first | rfl | exact h44 | exact h45 | exact h47 | exact h49 | exact h50 | exact h51 | exact h52) (by first | rfl | exact h44 | exact h45 | exact h47 | exact h49 | exact h50 | exact h51 | exact h52) (by first | rfl | exact h44 | exact h45 | exact h47 | exact h49 | exact h50 | exact h51 | exact h52) (by first | rfl | exact h44 | exact h45 | exact h47 | exact h49 | exact h50 | exact h51 | exact h52)) ⟨callB_of 2 htx (xw_goodC kw_6_124) rfl rfl rfl (htx _ kw_1_5) (htx _ kw_6_121) ⟨by decide, by decide, by decide +kernel⟩ ⟨Nat.le_of_ble_eq_true rfl, Nat.le_of_ble_eq_true rfl⟩, (htx _ kw_6_123), (htx _ kp_M_store)⟩ ⟨xPre_blind, va_recv hK hP (ci := 5) rfl (q0 := 5) rfl, (fun U hU hW => ⟨rfl, xPre_of hZ hS hFc hPc hDc hK U hU hW⟩)⟩ rfl rfl hl.1 rfl (lv_room (Nat.le_of_ble_eq_true rfl)) dM_finish_123 ⟨Nat.le_of_ble_eq_true rfl, Nat.le_of_ble_eq_true rfl⟩) hS (fun q _ h => hFc q h) hFc (fun r3 u9 t H1 locs ht hvm hr9 hB hz1 hk1 hS => ?_)
  obtain ⟨y4, y5, y6, y7, y8, y9, hP1, hK1, hD1⟩ := hB
  rw [ht] at hP1
  obtain ⟨hP, hD⟩ := xjoin (W := [(a3, .inl (cT 0, 4096, .inl f48)), (r1, .inr (6, [.int 0, .long 0, .int 0, .int 0, .int 0, .int 1])), (a4, .inl (cT 4, 1024, .inr (.inr (.inr (.inr (va_up (va_up f53 0 (some r1)) 1 (some r2))))))), (a0, .inr (5, [v19, .ref a4, .int 2, .ref a6, .int 4, v20, v21, v22, v23, v24, v25, v26, v27, v28, v29, .ref a3, .int 4, .int 4, .int 0, .int 100, v35, .ref a5, .int 6, .int 4096, .ref a1, .ref a2, v37, v38, v39, v40, v41, v42])), (r2, .inr (6, [.int 4, .long 0, .int 0, .int 4, .int 0, .int 5])), (a5, .inl (cT 0, 1024, .inl (upd (upd (upd (upd (upd (upd (upd (upd (upd (upd f56 0 110) 1 117) 2 108) 3 108) 0 (vp_nar .byte y4)) 1 (vp_nar .byte y5)) 2 (vp_nar .byte y6)) 3 (vp_nar .byte y7)) 4 (vp_nar .byte y8)) 5 (vp_nar .byte y9)))), (a6, .inl (cT 0, 4096, .inl (upd (upd (upd (upd f57 0 110) 1 117) 2 108) 3 108))), (a1, .inl (cT 5, 8, .inr (.inr (.inr (.inr f43))))), (a7, .inl (cT 0, 4096, .inl (upd (upd (upd (upd (upd (upd f58 0 (vp_nar .byte (vp_nar .byte y4))) 1 (vp_nar .byte (vp_nar .byte y5))) 2 (vp_nar .byte (vp_nar .byte y6))) 3 (vp_nar .byte (vp_nar .byte y7))) 4 (vp_nar .byte (vp_nar .byte y8))) 5 (vp_nar .byte (vp_nar .byte y9))))), (a2, .inl (cT 1, 8, .inl (upd f46 x8.toNatClampNeg 6)))]) hP hD [5, 9, 6, 7, 1, 0, 2] [3, 4, 8] 3 rfl rfl (by decide) (by decide) hk1 hFc hP1 hD1
  generalize H1 = H at hP hS ⊢
  rw [hr9]
  refine W.eq (g2 := F0 m 126 ls [.int 6]) rfl ?_
  refine lv_istore (lv' := [(9, .int 6), (8, .ref r2), (7, .null), (6, .ref r1), (0, .ref a0), (1, .int x8), (2, .int 1), (3, .int 4), (4, .int x13), (5, .int x18)]) hx hb dM_finish_126 hl (by decide) rfl (fun ls hl => ?_)
  refine lv_goto (tgt := 156) hx hb dM_finish_128 (by decide) ?_
  obtain ⟨hP9, hD9⟩ := xsub (wc := [(a0, .inr (5, [v19, .ref a4, .int 2, .ref a6, .int 4, v20, v21, v22, v23, v24, v25, v26, v27, v28, v29, .ref a3, .int 4, .int 4, .int 0, .int 100, v35, .ref a5, .int 6, .int 4096, .ref a1, .ref a2, v37, v38, v39, v40, v41, v42])), (a1, .inl (cT 5, 8, .inr (.inr (.inr (.inr f43))))), (a2, .inl (cT 1, 8, .inl (upd f46 x8.toNatClampNeg 6))), (a3, .inl (cT 0, 4096, .inl f48)), (a4, .inl (cT 4, 1024, .inr (.inr (.inr (.inr (va_up (va_up f53 0 (some r1)) 1 (some r2))))))), (a5, .inl (cT 0, 1024, .inl (upd (upd (upd (upd (upd (upd (upd (upd (upd (upd f56 0 110) 1 117) 2 108) 3 108) 0 (vp_nar .byte y4)) 1 (vp_nar .byte y5)) 2 (vp_nar .byte y6)) 3 (vp_nar .byte y7)) 4 (vp_nar .byte y8)) 5 (vp_nar .byte y9)))), (a6, .inl (cT 0, 4096, .inl (upd (upd (upd (upd f57 0 110) 1 117) 2 108) 3 108))), (a7, .inl (cT 0, 4096, .inl (upd (upd (upd (upd (upd (upd f58 0 (vp_nar .byte (vp_nar .byte y4))) 1 (vp_nar .byte (vp_nar .byte y5))) 2 (vp_nar .byte (vp_nar .byte y6))) 3 (vp_nar .byte (vp_nar .byte y7))) 4 (vp_nar .byte (vp_nar .byte y8))) 5 (vp_nar .byte (vp_nar .byte y9))))), (r1, .inr (6, [.int 0, .long 0, .int 0, .int 0, .int 0, .int 1])), (r2, .inr (6, [.int 4, .long 0, .int 0, .int 4, .int 0, .int 5]))]) hP hD [3, 7, 9, 0, 2, 5, 6, 8, 1, 4] rfl rfl (by decide)
  refine W.widen (k := 2) (n := 12) (Nat.le_of_ble_eq_true rfl) (Nat.le_of_ble_eq_true rfl) ?_
  exact W.vret hx hb hr (fun t ht hW => ⟨⟨(), rfl, trivial, r1, r2, y4, y5, y6, y7, y8, y9, by rw [ht]; exact hP9, va_K.moved hW.alike hK, hD9⟩, hS.F ht⟩) hS.2.2 dM_finish_156
set_option maxHeartbeats 400000000 in
set_option maxRecDepth 100000 in
theorem cM_one0_13 (l : Launch) (hl9 : l.stackTraces = false) (D : va_G) (cT : Nat → ClassId) (aK aV : Nat → Nat) (sz : Nat) (a0 : Nat) (a1 : Nat) (a2 : Nat) (a3 : Nat) (a4 : Nat) (a5 : Nat) (a6 : Nat) (a7 : Nat) (x8 : Int32) (x13 : Int32) (v18 : Value) (v19 : Value) (v20 : Value) (v21 : Value) (v22 : Value) (v23 : Value) (v24 : Value) (v25 : Value) (v26 : Value) (v27 : Value) (v28 : Value) (v29 : Value) (v30 : Value) (v31 : Value) (v32 : Value) (v33 : Value) (v34 : Value) (v35 : Value) (v36 : Value) (v37 : Value) (v38 : Value) (v39 : Value) (v40 : Value) (v41 : Value) (v42 : Value) (v43 : Value) (v44 : Value) (f45 : Nat → Option Nat) (f48 : Nat → Int32) (f50 : Nat → Int32) (f55 : Nat → Option Nat) (f58 : Nat → Int32) (f59 : Nat → Int32) (f60 : Nat → Int32) (h9 : ¬ x8 < 0) (h10 : ¬ 7 < x8) (h11 : x8 ≤ 7) (h12 : vp_in x8 8) (h14 : ¬ x13 < 0) (h15 : ¬ 7 < x13) (h16 : x13 ≤ 7) (h17 : vp_in x13 8) (h46 : f45 x13.toNatClampNeg = some a3) (h47 : f45 x8.toNatClampNeg = some a7) (h49 : f48 x13.toNatClampNeg = 4) (h51 : f50 0 = 110) (h52 : f50 1 = 117) (h53 : f50 2 = 108) (h54 : f50 3 = 108) (h56 : f55 0 = none) (h57 : f55 1 = none) : xMet l yM_one0 wyM_one0 9 2 12 205 D cT aK aV sz [.ref a0, .int x8, .int 4, .int x13] [(a0, .inr (5, [v18, .ref a4, v19, .ref a6, v20, v21, v22, v23, v24, v25, v26, v27, v28, v29, v30, v31, v32, v33, v34, v35, v36, .ref a5, v37, v38, .ref a1, .ref a2, v39, v40, v41, v42, v43, v44])), (a1, .inl (cT 5, 8, .inr (.inr (.inr (.inr f45))))), (a2, .inl (cT 1, 8, .inl f48)), (a3, .inl (cT 0, 4096, .inl f50)), (a4, .inl (cT 4, 1024, .inr (.inr (.inr (.inr f55))))), (a5, .inl (cT 0, 1024, .inl f58)), (a6, .inl (cT 0, 4096, .inl f59)), (a7, .inl (cT 0, 4096, .inl f60))] (fun A => va_Qv (fun _ : Unit => True) (fun _ t => ∃ (q3 : Nat) (q4 : Nat) (y5 : Int32) (y6 : Int32) (y7 : Int32) (y8 : Int32) (y9 : Int32) (y10 : Int32), xB D xcl cT A [(a0, .inr (5, [.int 0, .ref a4, .int 2, .ref a6, .int 4, v21, v22, .int 0, v24, .int 0, v26, v27, .int 0, v29, v30, .ref a3, .int 4, .int 4, .int 0, .int 100, v36, .ref a5, .int 6, .int 4096, .ref a1, .ref a2, v39, v40, v41, v42, v43, v44])), (a1, .inl (cT 5, 8, .inr (.inr (.inr (.inr f45))))), (a2, .inl (cT 1, 8, .inl (upd f48 x8.toNatClampNeg 6))), (a3, .inl (cT 0, 4096, .inl f50)), (a4, .inl (cT 4, 1024, .inr (.inr (.inr (.inr (va_up (va_up f55 0 (some q3)) 1 (some q4))))))), (a5, .inl (cT 0, 1024, .inl (upd (upd (upd (upd (upd (upd (upd (upd (upd (upd f58 0 110) 1 117) 2 108) 3 108) 0 (vp_nar .byte y5)) 1 (vp_nar .byte y6)) 2 (vp_nar .byte y7)) 3 (vp_nar .byte y8)) 4 (vp_nar .byte y9)) 5 (vp_nar .byte y10)))), (a6, .inl (cT 0, 4096, .inl (upd (upd (upd (upd f59 0 110) 1 117) 2 108) 3 108))), (a7, .inl (cT 0, 4096, .inl (upd (upd (upd (upd (upd (upd f60 0 (vp_nar .byte (vp_nar .byte y5))) 1 (vp_nar .byte (vp_nar .byte y6))) 2 (vp_nar .byte (vp_nar .byte y7))) 3 (vp_nar .byte (vp_nar .byte y8))) 4 (vp_nar .byte (vp_nar .byte y9))) 5 (vp_nar .byte (vp_nar .byte y10))))), (q3, .inr (6, [.int 0, .long 0, .int 0, .int 0, .int 0, .int 1])), (q4, .inr (6, [.int 4, .long 0, .int 0, .int 4, .int 0, .int 5]))] t) A) := by
  refine Met.ofW (cc := prog_13_method_92_code) (maxL := 4) (ret := none) (by decide) rfl ?_
  intro p e s m args below meth c s₁ B hml hv
  obtain ⟨rfl, hsz, hZ, hP, hK, hD0⟩ := hv
  have hx := B.exec
  have hb := B.bytes
  have hr := B.returns
  have hts := atoms_spec (ws := wyM_one0) B.pre
  have htx := fun w h => hts w (List.mem_cons_of_mem _ h)
  have hown : s.vm.findClass "ValueBenchModel" = some m.cls := findClass_of_methodNamed B.named
  have hlocks := B.notSynchronized
  subst hsz
  have hD := hD0.self (sz := s.heap.size)
  generalize hAe : va_A [(a0, .inr (5, [v18, .ref a4, v19, .ref a6, v20, v21, v22, v23, v24, v25, v26, v27, v28, v29, v30, v31, v32, v33, v34, v35, v36, .ref a5, v37, v38, .ref a1, .ref a2, v39, v40, v41, v42, v43, v44])), (a1, .inl (cT 5, 8, .inr (.inr (.inr (.inr f45))))), (a2, .inl (cT 1, 8, .inl f48)), (a3, .inl (cT 0, 4096, .inl f50)), (a4, .inl (cT 4, 1024, .inr (.inr (.inr (.inr f55))))), (a5, .inl (cT 0, 1024, .inl f58)), (a6, .inl (cT 0, 4096, .inl f59)), (a7, .inl (cT 0, 4096, .inl f60))] s.heap.size = A at hD hZ ⊢
  have hA : ∀ q : Nat, s.heap.size ≤ q → A q := fun q h => by rw [← hAe]; exact Or.inr h
  have hS : va_S A s.heap s.heap [] := va_S.rf
  have hP : va_P D xcl [(a0, .inr (5, [v18, .ref a4, v19, .ref a6, v20, v21, v22, v23, v24, v25, v26, v27, v28, v29, v30, v31, v32, v33, v34, v35, v36, .ref a5, v37, v38, .ref a1, .ref a2, v39, v40, v41, v42, v43, v44])), (a1, .inl (cT 5, 8, .inr (.inr (.inr (.inr f45))))), (a2, .inl (cT 1, 8, .inl f48)), (a3, .inl (cT 0, 4096, .inl f50)), (a4, .inl (cT 4, 1024, .inr (.inr (.inr (.inr f55))))), (a5, .inl (cT 0, 1024, .inl f58)), (a6, .inl (cT 0, 4096, .inl f59)), (a7, .inl (cT 0, 4096, .inl f60))] s.heap := hP
  have hl := lv_entry ([.ref a0, .int x8, .int 4, .int x13]) (n := 4) (Nat.le_of_ble_eq_true rfl)
  rw [lg_entry_eq]
  generalize (lg_sl ([.ref a0, .int x8, .int 4, .int x13]) ++ List.replicate (4 - (lg_sl ([.ref a0, .int x8, .int 4, .int x13])).length) Slot.unset).toArray = ls at hl ⊢
  have hl : lv_has ls 4 [(0, .ref a0), (1, .int x8), (2, .int 4), (3, .int x13)] := hl
  refine lv_aload_n hx hb dM_one0_0 rfl (lv_at hl 0 rfl) ?_
  obtain ⟨hPc, hDc, hFc⟩ := xcut (wc := [(a0, .inr (5, [v18, .ref a4, v19, .ref a6, v20, v21, v22, v23, v24, v25, v26, v27, v28, v29, v30, v31, v32, v33, v34, v35, v36, .ref a5, v37, v38, .ref a1, .ref a2, v39, v40, v41, v42, v43, v44]))]) hP hD hS hA [0] rfl rfl (by decide)
  refine va_callv (va_runV (C := "ValueBenchModel") (As := []) (rest := []) ⟨hx, hb, hml, hown, htx⟩ (cM_begin_0 l hl9 D cT aK aV s.heap.size a0 v18 (.ref a4) v19 (.ref a6) v20 v21 v22 v23 v24 v25 v26 v27 v28 v29 v30 v31 v32 v33 v34 v35 v36 (.ref a5) v37 v38 (.ref a1) (.ref a2) v39 v40 v41 v42 v43 v44) ⟨callB_of 0 htx (xw_goodC kw_5_209) rfl rfl rfl (htx _ kw_1_5) (htx _ kw_5_206) ⟨by decide, by decide, by decide +kernel⟩ ⟨Nat.le_of_ble_eq_true rfl, Nat.le_of_ble_eq_true rfl⟩, (htx _ kw_5_208), (htx _ kp_M_begin)⟩ ⟨xPre_blind, va_recv hK hP (ci := 5) rfl (q0 := 0) rfl, (fun U hU hW => ⟨rfl, xPre_of hZ hS hFc hPc hDc hK U hU hW⟩)⟩ rfl rfl hl.1 rfl (lv_room (Nat.le_of_ble_eq_true rfl)) dM_one0_1 ⟨Nat.le_of_ble_eq_true rfl, Nat.le_of_ble_eq_true rfl⟩) hS (fun q _ h => hFc q h) hFc (fun u9 t H1 locs ht hvm hr9 hB hz1 hk1 hS => ?_)
  obtain ⟨hP1, hK1, hD1⟩ := hB
  rw [ht] at hP1
  obtain ⟨hP, hD⟩ := xjoin (W := [(a1, .inl (cT 5, 8, .inr (.inr (.inr (.inr f45))))), (a2, .inl (cT 1, 8, .inl f48)), (a3, .inl (cT 0, 4096, .inl f50)), (a4, .inl (cT 4, 1024, .inr (.inr (.inr (.inr f55))))), (a5, .inl (cT 0, 1024, .inl f58)), (a6, .inl (cT 0, 4096, .inl f59)), (a7, .inl (cT 0, 4096, .inl f60)), (a0, .inr (5, [.int 0, .ref a4, .int 0, .ref a6, .int 0, v21, v22, .int 0, v24, .int 0, v26, v27, .int 0, v29, v30, v31, v32, v33, v34, v35, v36, .ref a5, .int 0, .int 1000000000, .ref a1, .ref a2, v39, v40, v41, v42, v43, v44]))]) hP hD [0] [1, 2, 3, 4, 5, 6, 7] 7 rfl rfl (by decide) (by decide) hk1 hFc hP1 hD1
  generalize H1 = H at hP hS ⊢
  refine lv_aload_n hx hb dM_one0_4 rfl (lv_at hl 0 rfl) ?_
  refine lv_iload_n hx hb dM_one0_5 rfl (lv_at hl 1 rfl) ?_
  obtain ⟨hPc, hDc, hFc⟩ := xcut (wc := []) hP hD hS hA [] rfl rfl (by decide)
  refine va_calli (va_runV (C := "ValueBenchModel") (As := [.int x8]) (rest := []) ⟨hx, hb, hml, hown, htx⟩ (cM_out_2 l hl9 D cT aK aV H.size a0 x8 h9 h10 h11 h12) ⟨callB_of 1 htx (xw_goodC kw_5_217) rfl rfl rfl (htx _ kw_1_5) (htx _ kw_5_214) ⟨by decide, by decide, by decide +kernel⟩ ⟨Nat.le_of_ble_eq_true rfl, Nat.le_of_ble_eq_true rfl⟩, (htx _ kw_5_216), (htx _ kp_M_out)⟩ ⟨xPre_blind, va_recv hK hP (ci := 5) rfl (q0 := 7) rfl, (fun U hU hW => ⟨rfl, xPre_of hZ hS hFc hPc hDc hK U hU hW⟩)⟩ rfl rfl hl.1 rfl (lv_room (Nat.le_of_ble_eq_true rfl)) dM_one0_6 ⟨Nat.le_of_ble_eq_true rfl, Nat.le_of_ble_eq_true rfl⟩) hS (fun q _ h => hFc q h) hFc (fun r1 u9 t H1 locs ht hvm hr9 hB hz1 hk1 hS => ?_)
  obtain ⟨hP1, hK1, hD1⟩ := hB
  rw [ht] at hP1
  obtain ⟨hP, hD⟩ := xjoin (W := [(a1, .inl (cT 5, 8, .inr (.inr (.inr (.inr f45))))), (a2, .inl (cT 1, 8, .inl f48)), (a3, .inl (cT 0, 4096, .inl f50)), (a4, .inl (cT 4, 1024, .inr (.inr (.inr (.inr f55))))), (a5, .inl (cT 0, 1024, .inl f58)), (a6, .inl (cT 0, 4096, .inl f59)), (a7, .inl (cT 0, 4096, .inl f60)), (a0, .inr (5, [.int 0, .ref a4, .int 0, .ref a6, .int 0, v21, v22, .int 0, v24, .int 0, v26, v27, .int 0, v29, v30, v31, v32, v33, v34, v35, v36, .ref a5, .int 0, .int 1000000000, .ref a1, .ref a2, v39, v40, v41, v42, v43, v44]))]) hP hD [] [0, 1, 2, 3, 4, 5, 6, 7] 8 rfl rfl (by decide) (by decide) hk1 hFc hP1 hD1
  generalize H1 = H at hP hS ⊢
  rw [hr9]
  refine W.eq (g2 := F0 m 9 ls [.int 0]) rfl ?_
  refine lv_if_ne (tgt := 30) hx hb dM_one0_9 (by decide) (fun h => ((by revert h; decide : False)).elim) (fun _ => ?_)
  refine lv_iload_n hx hb dM_one0_12 rfl (lv_at hl 2 rfl) ?_
  refine lv_if_lt (tgt := 30) hx hb dM_one0_13 (by decide) (fun h => ((by revert h; decide : False)).elim) (fun _ => ?_)
  refine lv_iload_n hx hb dM_one0_16 rfl (lv_at hl 2 rfl) ?_
  refine lv_bipush (v := 13) hx hb dM_one0_17 (by decide) ?_
  refine lv_icmp_gt (tgt := 30) hx hb dM_one0_19 (by decide) (fun h => ((by revert h; decide : False)).elim) (fun _ => ?_)
  refine lv_aload_n hx hb dM_one0_22 rfl (lv_at hl 0 rfl) ?_
  refine lv_iload_n hx hb dM_one0_23 rfl (lv_at hl 3 rfl) ?_
  obtain ⟨hPc, hDc, hFc⟩ := xcut (wc := []) hP hD hS hA [] rfl rfl (by decide)
  refine va_calli (va_runV (C := "ValueBenchModel") (As := [.int x13]) (rest := []) ⟨hx, hb, hml, hown, htx⟩ (cM_out_2 l hl9 D cT aK aV H.size a0 x13 h14 h15 h16 h17) ⟨callB_of 1 htx (xw_goodC kw_5_217) rfl rfl rfl (htx _ kw_1_5) (htx _ kw_5_214) ⟨by decide, by decide, by decide +kernel⟩ ⟨Nat.le_of_ble_eq_true rfl, Nat.le_of_ble_eq_true rfl⟩, (htx _ kw_5_216), (htx _ kp_M_out)⟩ ⟨xPre_blind, va_recv hK hP (ci := 5) rfl (q0 := 7) rfl, (fun U hU hW => ⟨rfl, xPre_of hZ hS hFc hPc hDc hK U hU hW⟩)⟩ rfl rfl hl.1 rfl (lv_room (Nat.le_of_ble_eq_true rfl)) dM_one0_24 ⟨Nat.le_of_ble_eq_true rfl, Nat.le_of_ble_eq_true rfl⟩) hS (fun q _ h => hFc q h) hFc (fun r2 u9 t H1 locs ht hvm hr9 hB hz1 hk1 hS => ?_)
  obtain ⟨hP1, hK1, hD1⟩ := hB
  rw [ht] at hP1
  obtain ⟨hP, hD⟩ := xjoin (W := [(a1, .inl (cT 5, 8, .inr (.inr (.inr (.inr f45))))), (a2, .inl (cT 1, 8, .inl f48)), (a3, .inl (cT 0, 4096, .inl f50)), (a4, .inl (cT 4, 1024, .inr (.inr (.inr (.inr f55))))), (a5, .inl (cT 0, 1024, .inl f58)), (a6, .inl (cT 0, 4096, .inl f59)), (a7, .inl (cT 0, 4096, .inl f60)), (a0, .inr (5, [.int 0, .ref a4, .int 0, .ref a6, .int 0, v21, v22, .int 0, v24, .int 0, v26, v27, .int 0, v29, v30, v31, v32, v33, v34, v35, v36, .ref a5, .int 0, .int 1000000000, .ref a1, .ref a2, v39, v40, v41, v42, v43, v44]))]) hP hD [] [0, 1, 2, 3, 4, 5, 6, 7] 8 rfl rfl (by decide) (by decide) hk1 hFc hP1 hD1
  generalize H1 = H at hP hS ⊢
  rw [hr9]
  refine W.eq (g2 := F0 m 27 ls [.int 0]) rfl ?_
  refine lv_if_eq (tgt := 38) hx hb dM_one0_27 (by decide) (fun _ => ?_) (fun h => ((by revert h; decide : False)).elim)
  refine lv_aload_n hx hb dM_one0_38 rfl (lv_at hl 0 rfl) ?_
  refine lv_iload_n hx hb dM_one0_39 rfl (lv_at hl 1 rfl) ?_
  refine lv_iconst (v := 1) hx hb dM_one0_40 (by decide) ?_
  refine lv_iload_n hx hb dM_one0_41 rfl (lv_at hl 2 rfl) ?_
  refine lv_iload_n hx hb dM_one0_42 rfl (lv_at hl 3 rfl) ?_
  refine lv_iload_n hx hb dM_one0_43 rfl (lv_at hl 3 rfl) ?_
  obtain ⟨hPc, hDc, hFc⟩ := xcut (wc := [(a0, .inr (5, [.int 0, .ref a4, .int 0, .ref a6, .int 0, v21, v22, .int 0, v24, .int 0, v26, v27, .int 0, v29, v30, v31, v32, v33, v34, v35, v36, .ref a5, .int 0, .int 1000000000, .ref a1, .ref a2, v39, v40, v41, v42, v43, v44])), (a1, .inl (cT 5, 8, .inr (.inr (.inr (.inr f45))))), (a2, .inl (cT 1, 8, .inl f48)), (a3, .inl (cT 0, 4096, .inl f50)), (a4, .inl (cT 4, 1024, .inr (.inr (.inr (.inr f55))))), (a5, .inl (cT 0, 1024, .inl f58)), (a6, .inl (cT 0, 4096, .inl f59)), (a7, .inl (cT 0, 4096, .inl f60))]) hP hD hS hA [7, 0, 1, 2, 3, 4, 5, 6] rfl rfl (by decide)
  refine va_callv (vx_runVW (C := "ValueBenchModel") (As := [.int x8, .int 1, .int 4, .int x13, .int x13]) (rest := []) ⟨hx, hb, hml, hown, htx⟩ (cM_finish_20 l hl9 D cT aK aV H.size a0 a1 a2 a3 a4 a5 a6 a7 x8 x13 x13 (.int 0) v21 v22 (.int 0) v24 (.int 0) v26 v27 (.int 0) v29 v30 v31 v32 v33 v34 v35 v36 1000000000 v39 v40 v41 v42 v43 v44 f45 f48 f50 f55 f58 f59 f60 h9 h10 h11 h12 h14 h15 h16 h17 (by first | rfl | exact h46 | exact h47 | exact h49 | exact h51 | exact h52 | exact h53 | exact h54 | exact h56 | exact h57) (by first | rfl | exact h46 | exact h47 | exact h49 | exact h51 | exact h52 | exact h53 | exact h54 | exact h56 | exact h57) (by first | rfl | exact h46 | exact h47 | exact h49 | exact h51 | exact h52 | exact h53 | exact h54 | exact h56 | exact h57) (by first | rfl | exact h46 | exact h47 | exact h49 | exact h51 | exact h52 | exact h53 | exact h54 | exact h56 | exact h57) (by first | rfl | exact h46 | exact h47 | exact h49 | exact h51 | exact h52 | exact h53 | exact h54 | exact h56 | exact h57) (by first | rfl | exact h46 | exact h47 | exact h49 | exact h51 | exact h52 | exact h53 | exact h54 | exact h56 | exact h57) (by first | rfl | exact h46 | exact h47 | exact h49 | exact h51 | exact h52 | exact h53 | exact h54 | exact h56 | exact h57) (by first | rfl | exact h46 | exact h47 | exact h49 | exact h51 | exact h52 | exact h53 | exact h54 | exact h56 | exact h57) (by first | rfl | exact h46 | exact h47 | exact h49 | exact h51 | exact h52 | exact h53 | exact h54 | exact h56 | exact h57)) (xcVW 5 htx (xw_goodC kw_6_195) rfl rfl rfl (htx _ kw_1_5) (htx _ kw_6_192) ⟨by decide, by decide, by decide +kernel⟩ ⟨Nat.le_of_ble_eq_true rfl, Nat.le_of_ble_eq_true rfl⟩ (htx _ kw_6_194) (htx _ kp_M_finish)) ⟨xPre_blind, va_recv hK hP (ci := 5) rfl (q0 := 7) rfl, (fun U hU hW => ⟨rfl, xPre_of hZ hS hFc hPc hDc hK U hU hW⟩)⟩ rfl rfl hl.1 rfl (lv_room (Nat.le_of_ble_eq_true rfl)) dM_one0_44 ⟨Nat.le_of_ble_eq_true rfl, Nat.le_of_ble_eq_true rfl⟩) hS (fun q _ h => hFc q h) hFc (fun u9 t H1 locs ht hvm hr9 hB hz1 hk1 hS => ?_)
  obtain ⟨q3, q4, y5, y6, y7, y8, y9, y10, hP1, hK1, hD1⟩ := hB
  rw [ht] at hP1
  obtain ⟨hP, hD⟩ := xjoin (W := [(a0, .inr (5, [.int 0, .ref a4, .int 2, .ref a6, .int 4, v21, v22, .int 0, v24, .int 0, v26, v27, .int 0, v29, v30, .ref a3, .int 4, .int 4, .int 0, .int 100, v36, .ref a5, .int 6, .int 4096, .ref a1, .ref a2, v39, v40, v41, v42, v43, v44])), (a1, .inl (cT 5, 8, .inr (.inr (.inr (.inr f45))))), (a2, .inl (cT 1, 8, .inl (upd f48 x8.toNatClampNeg 6))), (a3, .inl (cT 0, 4096, .inl f50)), (a4, .inl (cT 4, 1024, .inr (.inr (.inr (.inr (va_up (va_up f55 0 (some q3)) 1 (some q4))))))), (a5, .inl (cT 0, 1024, .inl (upd (upd (upd (upd (upd (upd (upd (upd (upd (upd f58 0 110) 1 117) 2 108) 3 108) 0 (vp_nar .byte y5)) 1 (vp_nar .byte y6)) 2 (vp_nar .byte y7)) 3 (vp_nar .byte y8)) 4 (vp_nar .byte y9)) 5 (vp_nar .byte y10)))), (a6, .inl (cT 0, 4096, .inl (upd (upd (upd (upd f59 0 110) 1 117) 2 108) 3 108))), (a7, .inl (cT 0, 4096, .inl (upd (upd (upd (upd (upd (upd f60 0 (vp_nar .byte (vp_nar .byte y5))) 1 (vp_nar .byte (vp_nar .byte y6))) 2 (vp_nar .byte (vp_nar .byte y7))) 3 (vp_nar .byte (vp_nar .byte y8))) 4 (vp_nar .byte (vp_nar .byte y9))) 5 (vp_nar .byte (vp_nar .byte y10))))), (q3, .inr (6, [.int 0, .long 0, .int 0, .int 0, .int 0, .int 1])), (q4, .inr (6, [.int 4, .long 0, .int 0, .int 4, .int 0, .int 5]))]) hP hD [7, 0, 1, 2, 3, 4, 5, 6] [] 0 rfl rfl (by decide) (by decide) hk1 hFc hP1 hD1
  generalize H1 = H at hP hS ⊢
  obtain ⟨hP9, hD9⟩ := xsub (wc := [(a0, .inr (5, [.int 0, .ref a4, .int 2, .ref a6, .int 4, v21, v22, .int 0, v24, .int 0, v26, v27, .int 0, v29, v30, .ref a3, .int 4, .int 4, .int 0, .int 100, v36, .ref a5, .int 6, .int 4096, .ref a1, .ref a2, v39, v40, v41, v42, v43, v44])), (a1, .inl (cT 5, 8, .inr (.inr (.inr (.inr f45))))), (a2, .inl (cT 1, 8, .inl (upd f48 x8.toNatClampNeg 6))), (a3, .inl (cT 0, 4096, .inl f50)), (a4, .inl (cT 4, 1024, .inr (.inr (.inr (.inr (va_up (va_up f55 0 (some q3)) 1 (some q4))))))), (a5, .inl (cT 0, 1024, .inl (upd (upd (upd (upd (upd (upd (upd (upd (upd (upd f58 0 110) 1 117) 2 108) 3 108) 0 (vp_nar .byte y5)) 1 (vp_nar .byte y6)) 2 (vp_nar .byte y7)) 3 (vp_nar .byte y8)) 4 (vp_nar .byte y9)) 5 (vp_nar .byte y10)))), (a6, .inl (cT 0, 4096, .inl (upd (upd (upd (upd f59 0 110) 1 117) 2 108) 3 108))), (a7, .inl (cT 0, 4096, .inl (upd (upd (upd (upd (upd (upd f60 0 (vp_nar .byte (vp_nar .byte y5))) 1 (vp_nar .byte (vp_nar .byte y6))) 2 (vp_nar .byte (vp_nar .byte y7))) 3 (vp_nar .byte (vp_nar .byte y8))) 4 (vp_nar .byte (vp_nar .byte y9))) 5 (vp_nar .byte (vp_nar .byte y10))))), (q3, .inr (6, [.int 0, .long 0, .int 0, .int 0, .int 0, .int 1])), (q4, .inr (6, [.int 4, .long 0, .int 0, .int 4, .int 0, .int 5]))]) hP hD [0, 1, 2, 3, 4, 5, 6, 7, 8, 9] rfl rfl (by decide)
  refine W.widen (k := 2) (n := 12) (Nat.le_of_ble_eq_true rfl) (Nat.le_of_ble_eq_true rfl) ?_
  exact W.vret hx hb hr (fun t ht hW => ⟨⟨(), rfl, trivial, q3, q4, y5, y6, y7, y8, y9, y10, by rw [ht]; exact hP9, va_K.moved hW.alike hK, hD9⟩, hS.F ht⟩) hS.2.2 dM_one0_47
set_option maxHeartbeats 400000000 in
set_option maxRecDepth 100000 in
theorem cB_isWithin_19 (l : Launch) (hl9 : l.stackTraces = false) (D : va_G) (cT : Nat → ClassId) (aK aV : Nat → Nat) (sz : Nat) : xMet l yB_isWithin wyB_isWithin 0 0 0 0 D cT aK aV sz [.int 5, .int 13] [] (fun A => va_Qi (fun (r : Int32) (_ : Unit) => r = 1) (fun _ t => xB D xcl cT A [] t) A) := by
  refine Met.ofW (cc := prog_1_method_15_code) (maxL := 2) (ret := (some .boolean)) (by decide) rfl ?_
  intro p e s m args below meth c s₁ B hml hv
  obtain ⟨rfl, hsz, hZ, hP, hK, hD0⟩ := hv
  have hx := B.exec
  have hb := B.bytes
  have hr := B.returns
  have hts := atoms_spec (ws := wyB_isWithin) B.pre
  have htx := fun w h => hts w (List.mem_cons_of_mem _ h)
  have hown : s.vm.findClass "ValueBench" = some m.cls := findClass_of_methodNamed B.named
  have hlocks := B.notSynchronized
  subst hsz
  have hD := hD0.self (sz := s.heap.size)
  generalize hAe : va_A [] s.heap.size = A at hD hZ ⊢
  have hA : ∀ q : Nat, s.heap.size ≤ q → A q := fun q h => by rw [← hAe]; exact Or.inr h
  have hS : va_S A s.heap s.heap [] := va_S.rf
  have hP : va_P D xcl [] s.heap := hP
  have hl := lv_entry ([.int 5, .int 13]) (n := 2) (Nat.le_of_ble_eq_true rfl)
  rw [lg_entry_eq]
  generalize (lg_sl ([.int 5, .int 13]) ++ List.replicate (2 - (lg_sl ([.int 5, .int 13])).length) Slot.unset).toArray = ls at hl ⊢
  have hl : lv_has ls 2 [(0, .int 5), (1, .int 13)] := hl
  refine lv_iload_n hx hb dB_isWithin_0 rfl (lv_at hl 0 rfl) ?_
  refine lv_if_lt (tgt := 13) hx hb dB_isWithin_1 (by decide) (fun h => ((by revert h; decide : False)).elim) (fun _ => ?_)
  refine lv_iload_n hx hb dB_isWithin_4 rfl (lv_at hl 0 rfl) ?_
  refine lv_iload_n hx hb dB_isWithin_5 rfl (lv_at hl 1 rfl) ?_
  refine lv_icmp_gt (tgt := 13) hx hb dB_isWithin_6 (by decide) (fun h => ((by revert h; decide : False)).elim) (fun _ => ?_)
  refine lv_iconst (v := 1) hx hb dB_isWithin_9 (by decide) ?_
  refine lv_goto (tgt := 14) hx hb dB_isWithin_10 (by decide) ?_
  obtain ⟨hP9, hD9⟩ := xsub (wc := []) hP hD [] rfl rfl (by decide)
  refine W.widen (k := 0) (n := 0) (Nat.le_of_ble_eq_true rfl) (Nat.le_of_ble_eq_true rfl) ?_
  exact W.zret (v := 1) hx hb hr rfl (fun t ht hW => ⟨⟨1, (), rfl, rfl, by rw [ht]; exact hP9, va_K.moved hW.alike hK, hD9⟩, hS.F ht⟩) hS.2.2 dB_isWithin_14
set_option maxHeartbeats 400000000 in
set_option maxRecDepth 100000 in
theorem cG_toNumber_0 (l : Launch) (hl9 : l.stackTraces = false) (D : va_G) (cT : Nat → ClassId) (aK aV : Nat → Nat) (sz : Nat) (a0 : Nat) (a1 : Nat) (b2 : Nat) (b3 : Nat) (v4 : Value) (f5 : Nat → Int64) (h6 : f5 0 = 0) : xMet l yG_toNumber wyG_toNumber 2 0 0 43 D cT aK aV sz [.ref a0, .ref b2, .ref b3] [(a0, .inr (2, [.ref a1, .int 1, v4])), (a1, .inl (cT 2, 4096, .inr (.inl f5)))] (fun A => va_Qi (fun (r : Int32) (_ : Unit) => r = 1) (fun _ t => xB D xcl cT A [(a0, .inr (2, [.ref a1, .int 1, v4])), (a1, .inl (cT 2, 4096, .inr (.inl f5)))] t) A) := by
  refine Met.ofW (cc := prog_9_method_8_code) (maxL := 3) (ret := (some .int)) (by decide) rfl ?_
  intro p e s m args below meth c s₁ B hml hv
  obtain ⟨rfl, hsz, hZ, hP, hK, hD0⟩ := hv
  have hx := B.exec
  have hb := B.bytes
  have hr := B.returns
  have hts := atoms_spec (ws := wyG_toNumber) B.pre
  have htx := fun w h => hts w (List.mem_cons_of_mem _ h)
  have hown : s.vm.findClass "ValueBench$Singles" = some m.cls := findClass_of_methodNamed B.named
  have hlocks := B.notSynchronized
  subst hsz
  have hD := hD0.self (sz := s.heap.size)
  generalize hAe : va_A [(a0, .inr (2, [.ref a1, .int 1, v4])), (a1, .inl (cT 2, 4096, .inr (.inl f5)))] s.heap.size = A at hD hZ ⊢
  have hA : ∀ q : Nat, s.heap.size ≤ q → A q := fun q h => by rw [← hAe]; exact Or.inr h
  have hS : va_S A s.heap s.heap [] := va_S.rf
  have hP : va_P D xcl [(a0, .inr (2, [.ref a1, .int 1, v4])), (a1, .inl (cT 2, 4096, .inr (.inl f5)))] s.heap := hP
  have hl := lv_entry ([.ref a0, .ref b2, .ref b3]) (n := 3) (Nat.le_of_ble_eq_true rfl)
  rw [lg_entry_eq]
  generalize (lg_sl ([.ref a0, .ref b2, .ref b3]) ++ List.replicate (3 - (lg_sl ([.ref a0, .ref b2, .ref b3])).length) Slot.unset).toArray = ls at hl ⊢
  have hl : lv_has ls 3 [(0, .ref a0), (1, .ref b2), (2, .ref b3)] := hl
  refine lv_aload_n hx hb dG_toNumber_0 rfl (lv_at hl 0 rfl) ?_
  refine lv_iconst (v := 0) hx hb dG_toNumber_1 (by decide) ?_
  refine lv_iconst (v := 3) hx hb dG_toNumber_2 (by decide) ?_
  obtain ⟨hPc, hDc, hFc⟩ := xcut (wc := [(a0, .inr (2, [.ref a1, .int 1, v4])), (a1, .inl (cT 2, 4096, .inr (.inl f5)))]) hP hD hS hA [0, 1] rfl rfl (by decide)
  refine va_calli (va_runV (C := "ValueBench$Row") (As := [.int 0, .int 3]) (rest := []) ⟨hx, hb, hml, hown, htx⟩ (cR_is_0 l hl9 D cT aK aV s.heap.size a0 a1 v4 f5 (by first | rfl | exact h6)) ⟨callB_of 2 htx (xw_goodC kw_3_75) rfl rfl rfl (htx _ kw_1_4) (htx _ kw_4_29) ⟨by decide, by decide, by decide +kernel⟩ ⟨Nat.le_of_ble_eq_true rfl, Nat.le_of_ble_eq_true rfl⟩, (htx _ kw_3_73), (htx _ kw_3_74)⟩ ⟨xPre_blind, va_recv hK hP (ci := 2) rfl (q0 := 0) rfl, (fun U hU hW => ⟨rfl, xPre_of hZ hS hFc hPc hDc hK U hU hW⟩)⟩ rfl rfl hl.1 rfl (lv_room (Nat.le_of_ble_eq_true rfl)) dG_toNumber_3 ⟨Nat.le_of_ble_eq_true rfl, Nat.le_of_ble_eq_true rfl⟩) hS (fun q _ h => hFc q h) hFc (fun r1 u9 t H1 locs ht hvm hr9 hB hz1 hk1 hS => ?_)
  obtain ⟨hP1, hK1, hD1⟩ := hB
  rw [ht] at hP1
  obtain ⟨hP, hD⟩ := xjoin (W := [(a0, .inr (2, [.ref a1, .int 1, v4])), (a1, .inl (cT 2, 4096, .inr (.inl f5)))]) hP hD [0, 1] [] 0 rfl rfl (by decide) (by decide) hk1 hFc hP1 hD1
  generalize H1 = H at hP hS ⊢
  rw [hr9]
  refine W.eq (g2 := F0 m 6 ls [.int 0]) rfl ?_
  refine lv_if_eq (tgt := 15) hx hb dG_toNumber_6 (by decide) (fun _ => ?_) (fun h => ((by revert h; decide : False)).elim)
  refine lv_aload_n hx hb dG_toNumber_15 rfl (lv_at hl 0 rfl) ?_
  refine lv_iconst (v := 0) hx hb dG_toNumber_16 (by decide) ?_
  refine lv_iconst (v := 4) hx hb dG_toNumber_17 (by decide) ?_
  obtain ⟨hPc, hDc, hFc⟩ := xcut (wc := [(a0, .inr (2, [.ref a1, .int 1, v4])), (a1, .inl (cT 2, 4096, .inr (.inl f5)))]) hP hD hS hA [0, 1] rfl rfl (by decide)
  refine va_calli (va_runV (C := "ValueBench$Row") (As := [.int 0, .int 4]) (rest := []) ⟨hx, hb, hml, hown, htx⟩ (cR_is_4 l hl9 D cT aK aV H.size a0 a1 v4 f5 (by first | rfl | exact h6)) ⟨callB_of 2 htx (xw_goodC kw_3_75) rfl rfl rfl (htx _ kw_1_4) (htx _ kw_4_29) ⟨by decide, by decide, by decide +kernel⟩ ⟨Nat.le_of_ble_eq_true rfl, Nat.le_of_ble_eq_true rfl⟩, (htx _ kw_3_73), (htx _ kw_3_74)⟩ ⟨xPre_blind, va_recv hK hP (ci := 2) rfl (q0 := 0) rfl, (fun U hU hW => ⟨rfl, xPre_of hZ hS hFc hPc hDc hK U hU hW⟩)⟩ rfl rfl hl.1 rfl (lv_room (Nat.le_of_ble_eq_true rfl)) dG_toNumber_18 ⟨Nat.le_of_ble_eq_true rfl, Nat.le_of_ble_eq_true rfl⟩) hS (fun q _ h => hFc q h) hFc (fun r2 u9 t H1 locs ht hvm hr9 hB hz1 hk1 hS => ?_)
  obtain ⟨hP1, hK1, hD1⟩ := hB
  rw [ht] at hP1
  obtain ⟨hP, hD⟩ := xjoin (W := [(a0, .inr (2, [.ref a1, .int 1, v4])), (a1, .inl (cT 2, 4096, .inr (.inl f5)))]) hP hD [0, 1] [] 0 rfl rfl (by decide) (by decide) hk1 hFc hP1 hD1
  generalize H1 = H at hP hS ⊢
  rw [hr9]
  refine W.eq (g2 := F0 m 21 ls [.int 0]) rfl ?_
  refine lv_if_ne (tgt := 26) hx hb dG_toNumber_21 (by decide) (fun h => ((by revert h; decide : False)).elim) (fun _ => ?_)
  refine lv_iconst (v := 1) hx hb dG_toNumber_24 (by decide) ?_
  obtain ⟨hP9, hD9⟩ := xsub (wc := [(a0, .inr (2, [.ref a1, .int 1, v4])), (a1, .inl (cT 2, 4096, .inr (.inl f5)))]) hP hD [0, 1] rfl rfl (by decide)
  refine W.widen (k := 0) (n := 0) (Nat.le_of_ble_eq_true rfl) (Nat.le_of_ble_eq_true rfl) ?_
  exact W.iret (v := 1) hx hb hr (fun t ht hW => ⟨⟨1, (), rfl, rfl, by rw [ht]; exact hP9, va_K.moved hW.alike hK, hD9⟩, hS.F ht⟩) hS.2.2 dG_toNumber_25
set_option maxHeartbeats 400000000 in
set_option maxRecDepth 100000 in
theorem cG_apply_5 (l : Launch) (hl9 : l.stackTraces = false) (D : va_G) (cT : Nat → ClassId) (aK aV : Nat → Nat) (sz : Nat) (a0 : Nat) (a1 : Nat) (b2 : Nat) (b3 : Nat) (b4 : Nat) (v5 : Value) (f6 : Nat → Int64) (h7 : f6 0 = 0) : xMet l yG_apply wyG_apply 3 0 0 65 D cT aK aV sz [.int 5, .ref a0, .ref b2, .ref b3, .ref b4] [(a0, .inr (2, [.ref a1, .int 1, v5])), (a1, .inl (cT 2, 4096, .inr (.inl f6)))] (fun A => va_Qi (fun (r : Int32) (_ : Unit) => r = 1) (fun _ t => xB D xcl cT A [(a0, .inr (2, [.ref a1, .int 1, v5])), (a1, .inl (cT 2, 4096, .inr (.inl f6)))] t) A) := by
  refine Met.ofW (cc := prog_9_method_2_code) (maxL := 5) (ret := (some .int)) (by decide) rfl ?_
  intro p e s m args below meth c s₁ B hml hv
  obtain ⟨rfl, hsz, hZ, hP, hK, hD0⟩ := hv
  have hx := B.exec
  have hb := B.bytes
  have hr := B.returns
  have hts := atoms_spec (ws := wyG_apply) B.pre
  have htx := fun w h => hts w (List.mem_cons_of_mem _ h)
  have hown : s.vm.findClass "ValueBench$Singles" = some m.cls := findClass_of_methodNamed B.named
  have hlocks := B.notSynchronized
  subst hsz
  have hD := hD0.self (sz := s.heap.size)
  generalize hAe : va_A [(a0, .inr (2, [.ref a1, .int 1, v5])), (a1, .inl (cT 2, 4096, .inr (.inl f6)))] s.heap.size = A at hD hZ ⊢
  have hA : ∀ q : Nat, s.heap.size ≤ q → A q := fun q h => by rw [← hAe]; exact Or.inr h
  have hS : va_S A s.heap s.heap [] := va_S.rf
  have hP : va_P D xcl [(a0, .inr (2, [.ref a1, .int 1, v5])), (a1, .inl (cT 2, 4096, .inr (.inl f6)))] s.heap := hP
  have hl := lv_entry ([.int 5, .ref a0, .ref b2, .ref b3, .ref b4]) (n := 5) (Nat.le_of_ble_eq_true rfl)
  rw [lg_entry_eq]
  generalize (lg_sl ([.int 5, .ref a0, .ref b2, .ref b3, .ref b4]) ++ List.replicate (5 - (lg_sl ([.int 5, .ref a0, .ref b2, .ref b3, .ref b4])).length) Slot.unset).toArray = ls at hl ⊢
  have hl : lv_has ls 5 [(0, .int 5), (1, .ref a0), (2, .ref b2), (3, .ref b3), (4, .ref b4)] := hl
  refine lv_iload_n hx hb dG_apply_0 rfl (lv_at hl 0 rfl) ?_
  refine lv_tableIn (off := 164) (tgt := 165) hx hb dG_apply_1 (by decide) (by decide) (by decide) (by decide) ?_
  refine lv_aload_n hx hb dG_apply_165 rfl (lv_at hl 1 rfl) ?_
  refine lv_aload_n hx hb dG_apply_166 rfl (lv_at hl 2 rfl) ?_
  refine lv_aload hx hb dG_apply_167 (lv_at hl 4 rfl) ?_
  obtain ⟨hPc, hDc, hFc⟩ := xcut (wc := [(a0, .inr (2, [.ref a1, .int 1, v5])), (a1, .inl (cT 2, 4096, .inr (.inl f6)))]) hP hD hS hA [0, 1] rfl rfl (by decide)
  refine va_calli (va_runS (As := [.ref a0, .ref b2, .ref b4]) (rest := []) ⟨hx, hb, hml, hown, htx⟩ (cG_toNumber_0 l hl9 D cT aK aV s.heap.size a0 a1 b2 b4 v5 f6 (by first | rfl | exact h7)) ⟨callB_of 3 htx (xw_goodC kw_4_92) rfl rfl rfl (htx _ kw_1_26) (htx _ kw_4_90) ⟨by decide, by decide, by decide +kernel⟩ ⟨Nat.le_of_ble_eq_true rfl, Nat.le_of_ble_eq_true rfl⟩, htx _ kw_4_91⟩ ⟨xPre_blind, (fun U hU hW => ⟨rfl, xPre_of hZ hS hFc hPc hDc hK U hU hW⟩)⟩ rfl rfl hl.1 rfl (lv_room (Nat.le_of_ble_eq_true rfl)) dG_apply_169 ⟨Nat.le_of_ble_eq_true rfl, Nat.le_of_ble_eq_true rfl⟩) hS (fun q _ h => hFc q h) hFc (fun r1 u9 t H1 locs ht hvm hr9 hB hz1 hk1 hS => ?_)
  obtain ⟨hP1, hK1, hD1⟩ := hB
  rw [ht] at hP1
  obtain ⟨hP, hD⟩ := xjoin (W := [(a0, .inr (2, [.ref a1, .int 1, v5])), (a1, .inl (cT 2, 4096, .inr (.inl f6)))]) hP hD [0, 1] [] 0 rfl rfl (by decide) (by decide) hk1 hFc hP1 hD1
  generalize H1 = H at hP hS ⊢
  rw [hr9]
  refine W.eq (g2 := F0 m 172 ls [.int 1]) rfl ?_
  obtain ⟨hP9, hD9⟩ := xsub (wc := [(a0, .inr (2, [.ref a1, .int 1, v5])), (a1, .inl (cT 2, 4096, .inr (.inl f6)))]) hP hD [0, 1] rfl rfl (by decide)
  refine W.widen (k := 0) (n := 0) (Nat.le_of_ble_eq_true rfl) (Nat.le_of_ble_eq_true rfl) ?_
  exact W.iret (v := 1) hx hb hr (fun t ht hW => ⟨⟨1, (), rfl, rfl, by rw [ht]; exact hP9, va_K.moved hW.alike hK, hD9⟩, hS.F ht⟩) hS.2.2 dG_apply_172
set_option maxHeartbeats 400000000 in
set_option maxRecDepth 100000 in
theorem cB_one_11 (l : Launch) (hl9 : l.stackTraces = false) (D : va_G) (cT : Nat → ClassId) (aK aV : Nat → Nat) (sz : Nat) (a0 : Nat) (a1 : Nat) (a2 : Nat) (a3 : Nat) (a4 : Nat) (x5 : Int32) (x10 : Int32) (v15 : Value) (v16 : Value) (b17 : Nat) (b18 : Nat) (v19 : Value) (v20 : Value) (v21 : Value) (v22 : Value) (v23 : Value) (f24 : Nat → Option Nat) (v26 : Value) (f27 : Nat → Int64) (h6 : ¬ x5 < 0) (h7 : ¬ 7 < x5) (h8 : x5 ≤ 7) (h9 : vp_in x5 8) (h11 : ¬ x10 < 0) (h12 : ¬ 7 < x10) (h13 : x10 ≤ 7) (h14 : vp_in x10 8) (h25 : f24 x10.toNatClampNeg = some a3) (h28 : f27 0 = 0) : xMetX l yB_one wyB_one 7 1 6 121 D cT aK aV sz [.ref a0, .int x5, .int 5, .int x10] [(a0, .inr (0, [v15, v16, .ref b17, .ref a2, .ref b18, .ref a1, v19, v20])), (a1, .inr (2, [v21, v22, v23])), (a2, .inl (cT 3, 8, .inr (.inr (.inr (.inr f24))))), (a3, .inr (2, [.ref a4, .int 1, v26])), (a4, .inl (cT 2, 4096, .inr (.inl f27)))] "java/lang/ArithmeticException" (fun A t => xB D xcl cT A [(a0, .inr (0, [v15, v16, .ref b17, .ref a2, .ref b18, .ref a1, v19, .int 1])), (a1, .inr (2, [v21, .int 0, .int 0])), (a2, .inl (cT 3, 8, .inr (.inr (.inr (.inr f24))))), (a3, .inr (2, [.ref a4, .int 1, v26])), (a4, .inl (cT 2, 4096, .inr (.inl f27)))] t) := by
  refine vx_ofW (cc := prog_1_method_9_code) (maxL := 4) (ret := none) (by decide) rfl ?_
  intro p e s m args below meth c s₁ B hml hne hv
  obtain ⟨rfl, hsz, hZ, hP, hK, hD0⟩ := hv
  have hx := B.exec
  have hb := B.bytes
  have hr := B.returns
  have hts := atoms_spec (ws := wyB_one) B.pre
  have htx := fun w h => hts w (List.mem_cons_of_mem _ h)
  have hown : s.vm.findClass "ValueBench" = some m.cls := findClass_of_methodNamed B.named
  have hlocks := B.notSynchronized
  subst hsz
  have hD := hD0.self (sz := s.heap.size)
  generalize hAe : va_A [(a0, .inr (0, [v15, v16, .ref b17, .ref a2, .ref b18, .ref a1, v19, v20])), (a1, .inr (2, [v21, v22, v23])), (a2, .inl (cT 3, 8, .inr (.inr (.inr (.inr f24))))), (a3, .inr (2, [.ref a4, .int 1, v26])), (a4, .inl (cT 2, 4096, .inr (.inl f27)))] s.heap.size = A at hD hZ ⊢
  have hA : ∀ q : Nat, s.heap.size ≤ q → A q := fun q h => by rw [← hAe]; exact Or.inr h
  have hS : va_S A s.heap s.heap [] := va_S.rf
  have hP : va_P D xcl [(a0, .inr (0, [v15, v16, .ref b17, .ref a2, .ref b18, .ref a1, v19, v20])), (a1, .inr (2, [v21, v22, v23])), (a2, .inl (cT 3, 8, .inr (.inr (.inr (.inr f24))))), (a3, .inr (2, [.ref a4, .int 1, v26])), (a4, .inl (cT 2, 4096, .inr (.inl f27)))] s.heap := hP
  have hl := lv_entry ([.ref a0, .int x5, .int 5, .int x10]) (n := 4) (Nat.le_of_ble_eq_true rfl)
  rw [lg_entry_eq]
  generalize (lg_sl ([.ref a0, .int x5, .int 5, .int x10]) ++ List.replicate (4 - (lg_sl ([.ref a0, .int x5, .int 5, .int x10])).length) Slot.unset).toArray = ls at hl ⊢
  have hl : lv_has ls 4 [(0, .ref a0), (1, .int x5), (2, .int 5), (3, .int x10)] := hl
  refine lv_iload_n hx hb dB_one_0 rfl (lv_at hl 1 rfl) ?_
  obtain ⟨hPc, hDc, hFc⟩ := xcut (wc := []) hP hD hS hA [] rfl rfl (by decide)
  refine va_calli (va_runS (As := [.int x5]) (rest := []) ⟨hx, hb, hml, hown, htx⟩ (cB_isRegister_2 l hl9 D cT aK aV s.heap.size x5 h6 h7 h8 h9) ⟨callB_of 1 htx (xw_goodC kw_2_18) rfl rfl rfl (htx _ kw_1_1) (htx _ kw_2_16) ⟨by decide, by decide, by decide +kernel⟩ ⟨Nat.le_of_ble_eq_true rfl, Nat.le_of_ble_eq_true rfl⟩, htx _ kw_2_17⟩ ⟨xPre_blind, (fun U hU hW => ⟨rfl, xPre_of hZ hS hFc hPc hDc hK U hU hW⟩)⟩ rfl rfl hl.1 rfl (lv_room (Nat.le_of_ble_eq_true rfl)) dB_one_1 ⟨Nat.le_of_ble_eq_true rfl, Nat.le_of_ble_eq_true rfl⟩) hS (fun q _ h => hFc q h) hFc (fun r1 u9 t H1 locs ht hvm hr9 hB hz1 hk1 hS => ?_)
  obtain ⟨hP1, hK1, hD1⟩ := hB
  rw [ht] at hP1
  obtain ⟨hP, hD⟩ := xjoin (W := [(a0, .inr (0, [v15, v16, .ref b17, .ref a2, .ref b18, .ref a1, v19, v20])), (a1, .inr (2, [v21, v22, v23])), (a2, .inl (cT 3, 8, .inr (.inr (.inr (.inr f24))))), (a3, .inr (2, [.ref a4, .int 1, v26])), (a4, .inl (cT 2, 4096, .inr (.inl f27)))]) hP hD [] [0, 1, 2, 3, 4] 5 rfl rfl (by decide) (by decide) hk1 hFc hP1 hD1
  generalize H1 = H at hP hS ⊢
  rw [hr9]
  refine W.eq (g2 := F0 m 4 ls [.int 1]) rfl ?_
  refine lv_if_eq (tgt := 27) hx hb dB_one_4 (by decide) (fun h => ((by revert h; decide : False)).elim) (fun _ => ?_)
  refine lv_iload_n hx hb dB_one_7 rfl (lv_at hl 2 rfl) ?_
  refine lv_bipush (v := 13) hx hb dB_one_8 (by decide) ?_
  obtain ⟨hPc, hDc, hFc⟩ := xcut (wc := []) hP hD hS hA [] rfl rfl (by decide)
  refine va_calli (va_runS (As := [.int 5, .int 13]) (rest := []) ⟨hx, hb, hml, hown, htx⟩ (cB_isWithin_19 l hl9 D cT aK aV H.size) ⟨callB_of 2 htx (xw_goodC kw_1_218) rfl rfl rfl (htx _ kw_1_1) (htx _ kw_1_216) ⟨by decide, by decide, by decide +kernel⟩ ⟨Nat.le_of_ble_eq_true rfl, Nat.le_of_ble_eq_true rfl⟩, htx _ kw_1_217⟩ ⟨xPre_blind, (fun U hU hW => ⟨rfl, xPre_of hZ hS hFc hPc hDc hK U hU hW⟩)⟩ rfl rfl hl.1 rfl (lv_room (Nat.le_of_ble_eq_true rfl)) dB_one_10 ⟨Nat.le_of_ble_eq_true rfl, Nat.le_of_ble_eq_true rfl⟩) hS (fun q _ h => hFc q h) hFc (fun r2 u9 t H1 locs ht hvm hr9 hB hz1 hk1 hS => ?_)
  obtain ⟨hP1, hK1, hD1⟩ := hB
  rw [ht] at hP1
  obtain ⟨hP, hD⟩ := xjoin (W := [(a0, .inr (0, [v15, v16, .ref b17, .ref a2, .ref b18, .ref a1, v19, v20])), (a1, .inr (2, [v21, v22, v23])), (a2, .inl (cT 3, 8, .inr (.inr (.inr (.inr f24))))), (a3, .inr (2, [.ref a4, .int 1, v26])), (a4, .inl (cT 2, 4096, .inr (.inl f27)))]) hP hD [] [0, 1, 2, 3, 4] 5 rfl rfl (by decide) (by decide) hk1 hFc hP1 hD1
  generalize H1 = H at hP hS ⊢
  rw [hr9]
  refine W.eq (g2 := F0 m 13 ls [.int 1]) rfl ?_
  refine lv_if_eq (tgt := 27) hx hb dB_one_13 (by decide) (fun h => ((by revert h; decide : False)).elim) (fun _ => ?_)
  refine lv_iload_n hx hb dB_one_16 rfl (lv_at hl 3 rfl) ?_
  obtain ⟨hPc, hDc, hFc⟩ := xcut (wc := []) hP hD hS hA [] rfl rfl (by decide)
  refine va_calli (va_runS (As := [.int x10]) (rest := []) ⟨hx, hb, hml, hown, htx⟩ (cB_isRegister_2 l hl9 D cT aK aV H.size x10 h11 h12 h13 h14) ⟨callB_of 1 htx (xw_goodC kw_2_18) rfl rfl rfl (htx _ kw_1_1) (htx _ kw_2_16) ⟨by decide, by decide, by decide +kernel⟩ ⟨Nat.le_of_ble_eq_true rfl, Nat.le_of_ble_eq_true rfl⟩, htx _ kw_2_17⟩ ⟨xPre_blind, (fun U hU hW => ⟨rfl, xPre_of hZ hS hFc hPc hDc hK U hU hW⟩)⟩ rfl rfl hl.1 rfl (lv_room (Nat.le_of_ble_eq_true rfl)) dB_one_17 ⟨Nat.le_of_ble_eq_true rfl, Nat.le_of_ble_eq_true rfl⟩) hS (fun q _ h => hFc q h) hFc (fun r3 u9 t H1 locs ht hvm hr9 hB hz1 hk1 hS => ?_)
  obtain ⟨hP1, hK1, hD1⟩ := hB
  rw [ht] at hP1
  obtain ⟨hP, hD⟩ := xjoin (W := [(a0, .inr (0, [v15, v16, .ref b17, .ref a2, .ref b18, .ref a1, v19, v20])), (a1, .inr (2, [v21, v22, v23])), (a2, .inl (cT 3, 8, .inr (.inr (.inr (.inr f24))))), (a3, .inr (2, [.ref a4, .int 1, v26])), (a4, .inl (cT 2, 4096, .inr (.inl f27)))]) hP hD [] [0, 1, 2, 3, 4] 5 rfl rfl (by decide) (by decide) hk1 hFc hP1 hD1
  generalize H1 = H at hP hS ⊢
  rw [hr9]
  refine W.eq (g2 := F0 m 20 ls [.int 1]) rfl ?_
  refine lv_if_eq (tgt := 27) hx hb dB_one_20 (by decide) (fun h => ((by revert h; decide : False)).elim) (fun _ => ?_)
  refine lv_iconst (v := 1) hx hb dB_one_23 (by decide) ?_
  refine lv_goto (tgt := 28) hx hb dB_one_24 (by decide) ?_
  obtain ⟨hPc, hDc, hFc⟩ := xcut (wc := []) hP hD hS hA [] rfl rfl (by decide)
  refine va_callv (va_runS (As := [.int 1]) (rest := []) ⟨hx, hb, hml, hown, htx⟩ (cB_demand_1 l hl9 D cT aK aV H.size) ⟨callB_of 1 htx (xw_goodC kw_1_221) rfl rfl rfl (htx _ kw_1_1) (htx _ kw_1_219) ⟨by decide, by decide, by decide +kernel⟩ ⟨Nat.le_of_ble_eq_true rfl, Nat.le_of_ble_eq_true rfl⟩, htx _ kw_1_220⟩ ⟨xPre_blind, (fun U hU hW => ⟨rfl, xPre_of hZ hS hFc hPc hDc hK U hU hW⟩)⟩ rfl rfl hl.1 rfl (lv_room (Nat.le_of_ble_eq_true rfl)) dB_one_28 ⟨Nat.le_of_ble_eq_true rfl, Nat.le_of_ble_eq_true rfl⟩) hS (fun q _ h => hFc q h) hFc (fun u9 t H1 locs ht hvm hr9 hB hz1 hk1 hS => ?_)
  obtain ⟨hP1, hK1, hD1⟩ := hB
  rw [ht] at hP1
  obtain ⟨hP, hD⟩ := xjoin (W := [(a0, .inr (0, [v15, v16, .ref b17, .ref a2, .ref b18, .ref a1, v19, v20])), (a1, .inr (2, [v21, v22, v23])), (a2, .inl (cT 3, 8, .inr (.inr (.inr (.inr f24))))), (a3, .inr (2, [.ref a4, .int 1, v26])), (a4, .inl (cT 2, 4096, .inr (.inl f27)))]) hP hD [] [0, 1, 2, 3, 4] 5 rfl rfl (by decide) (by decide) hk1 hFc hP1 hD1
  generalize H1 = H at hP hS ⊢
  refine lv_aload_n hx hb dB_one_31 rfl (lv_at hl 0 rfl) ?_
  refine va_get (D := D) (ci := 0) (v := .ref a1) (C := "ValueBench") (T := TB) (N := 8) hx hb htx inB hown hK hP 0 rfl rfl 5 (by decide) (htx _ kw_1_100) (fun _ h9 => h9) rfl dB_one_32 ?_
  obtain ⟨hPc, hDc, hFc⟩ := xcut (wc := [(a1, .inr (2, [v21, v22, v23]))]) hP hD hS hA [1] rfl rfl (by decide)
  refine va_callv (va_runV (C := "ValueBench$Row") (As := []) (rest := []) ⟨hx, hb, hml, hown, htx⟩ (cR_clear_0 l hl9 D cT aK aV H.size a1 v21 v22 v23) ⟨callB_of 0 htx (xw_goodC kw_2_22) rfl rfl rfl (htx _ kw_1_4) (htx _ kw_2_19) ⟨by decide, by decide, by decide +kernel⟩ ⟨Nat.le_of_ble_eq_true rfl, Nat.le_of_ble_eq_true rfl⟩, (htx _ kw_2_20), (htx _ kw_2_21)⟩ ⟨xPre_blind, va_recv hK hP (ci := 2) rfl (q0 := 1) rfl, (fun U hU hW => ⟨rfl, xPre_of hZ hS hFc hPc hDc hK U hU hW⟩)⟩ rfl rfl hl.1 rfl (lv_room (Nat.le_of_ble_eq_true rfl)) dB_one_35 ⟨Nat.le_of_ble_eq_true rfl, Nat.le_of_ble_eq_true rfl⟩) hS (fun q _ h => hFc q h) hFc (fun u9 t H1 locs ht hvm hr9 hB hz1 hk1 hS => ?_)
  obtain ⟨hP1, hK1, hD1⟩ := hB
  rw [ht] at hP1
  obtain ⟨hP, hD⟩ := xjoin (W := [(a0, .inr (0, [v15, v16, .ref b17, .ref a2, .ref b18, .ref a1, v19, v20])), (a2, .inl (cT 3, 8, .inr (.inr (.inr (.inr f24))))), (a3, .inr (2, [.ref a4, .int 1, v26])), (a4, .inl (cT 2, 4096, .inr (.inl f27))), (a1, .inr (2, [v21, .int 0, .int 0]))]) hP hD [1] [0, 2, 3, 4] 4 rfl rfl (by decide) (by decide) hk1 hFc hP1 hD1
  generalize H1 = H at hP hS ⊢
  refine lv_aload_n hx hb dB_one_38 rfl (lv_at hl 0 rfl) ?_
  refine lv_iload_n hx hb dB_one_39 rfl (lv_at hl 2 rfl) ?_
  refine lv_aload_n hx hb dB_one_40 rfl (lv_at hl 0 rfl) ?_
  refine va_get (D := D) (ci := 0) (v := .ref a2) (C := "ValueBench") (T := TB) (N := 8) hx hb htx inB hown hK hP 0 rfl rfl 3 (by decide) (htx _ kw_1_98) (fun _ h9 => h9) rfl dB_one_41 ?_
  refine lv_iload_n hx hb dB_one_44 rfl (lv_at hl 3 rfl) ?_
  refine va_aldq hx hb hK hP 1 3 rfl rfl h14 dB_one_45 ?_
  refine W.eq (g2 := F0 m 46 ls [va_rf (f24 x10.toNatClampNeg), .int 5, .ref a0]) rfl ?_
  rw [h25]
  refine W.eq (g2 := F0 m 46 ls [.ref a3, .int 5, .ref a0]) rfl ?_
  refine lv_aload_n hx hb dB_one_46 rfl (lv_at hl 0 rfl) ?_
  refine va_get (D := D) (ci := 0) (v := .ref b17) (C := "ValueBench") (T := TB) (N := 8) hx hb htx inB hown hK hP 0 rfl rfl 2 (by decide) (htx _ kw_1_97) (fun _ h9 => h9) rfl dB_one_47 ?_
  refine lv_aload_n hx hb dB_one_50 rfl (lv_at hl 0 rfl) ?_
  refine va_get (D := D) (ci := 0) (v := .ref b18) (C := "ValueBench") (T := TB) (N := 8) hx hb htx inB hown hK hP 0 rfl rfl 4 (by decide) (htx _ kw_1_99) (fun _ h9 => h9) rfl dB_one_51 ?_
  refine lv_aload_n hx hb dB_one_54 rfl (lv_at hl 0 rfl) ?_
  refine va_get (D := D) (ci := 0) (v := .ref a1) (C := "ValueBench") (T := TB) (N := 8) hx hb htx inB hown hK hP 0 rfl rfl 5 (by decide) (htx _ kw_1_100) (fun _ h9 => h9) rfl dB_one_55 ?_
  obtain ⟨hPc, hDc, hFc⟩ := xcut (wc := [(a3, .inr (2, [.ref a4, .int 1, v26])), (a4, .inl (cT 2, 4096, .inr (.inl f27)))]) hP hD hS hA [2, 3] rfl rfl (by decide)
  refine va_calli (va_runS (As := [.int 5, .ref a3, .ref b17, .ref b18, .ref a1]) (rest := [.ref a0]) ⟨hx, hb, hml, hown, htx⟩ (cG_apply_5 l hl9 D cT aK aV H.size a3 a4 b17 b18 a1 v26 f27 (by first | rfl | exact h25 | exact h28)) ⟨callB_of 5 htx (xw_goodC kw_4_28) rfl rfl rfl (htx _ kw_1_26) (htx _ kw_4_26) ⟨by decide, by decide, by decide +kernel⟩ ⟨Nat.le_of_ble_eq_true rfl, Nat.le_of_ble_eq_true rfl⟩, htx _ kw_4_27⟩ ⟨xPre_blind, (fun U hU hW => ⟨rfl, xPre_of hZ hS hFc hPc hDc hK U hU hW⟩)⟩ rfl rfl hl.1 rfl (lv_room (Nat.le_of_ble_eq_true rfl)) dB_one_58 ⟨Nat.le_of_ble_eq_true rfl, Nat.le_of_ble_eq_true rfl⟩) hS (fun q _ h => hFc q h) hFc (fun r4 u9 t H1 locs ht hvm hr9 hB hz1 hk1 hS => ?_)
  obtain ⟨hP1, hK1, hD1⟩ := hB
  rw [ht] at hP1
  obtain ⟨hP, hD⟩ := xjoin (W := [(a0, .inr (0, [v15, v16, .ref b17, .ref a2, .ref b18, .ref a1, v19, v20])), (a2, .inl (cT 3, 8, .inr (.inr (.inr (.inr f24))))), (a1, .inr (2, [v21, .int 0, .int 0])), (a3, .inr (2, [.ref a4, .int 1, v26])), (a4, .inl (cT 2, 4096, .inr (.inl f27)))]) hP hD [2, 3] [0, 1, 4] 3 rfl rfl (by decide) (by decide) hk1 hFc hP1 hD1
  generalize H1 = H at hP hS ⊢
  rw [hr9]
  refine W.eq (g2 := F0 m 61 ls [.int 1, .ref a0]) rfl ?_
  obtain ⟨hPc, hDc, hFc⟩ := xcut (wc := [(a0, .inr (0, [v15, v16, .ref b17, .ref a2, .ref b18, .ref a1, v19, v20]))]) hP hD hS hA [0] rfl rfl (by decide)
  refine xx_thr (vx_runV (C := "ValueBench") (As := [.int 1]) (rest := []) ⟨hx, hb, hml, hown, htx⟩ (cB_demandDone_1 l hl9 D cT aK aV H.size a0 v15 v16 (.ref b17) (.ref a2) (.ref b18) (.ref a1) v19 v20) ⟨callB_of 1 htx (xw_goodC kw_3_222) rfl rfl rfl (htx _ kw_1_1) (htx _ kw_3_219) ⟨by decide, by decide, by decide +kernel⟩ ⟨Nat.le_of_ble_eq_true rfl, Nat.le_of_ble_eq_true rfl⟩, (htx _ kw_3_221), (htx _ kp_B_demandDone)⟩ ⟨xPre_blind, va_recv hK hP (ci := 0) rfl (q0 := 0) rfl, (fun U hU hW => ⟨rfl, xPre_of hZ hS hFc hPc hDc hK U hU hW⟩)⟩ rfl rfl hl.1 rfl (lv_room (Nat.le_of_ble_eq_true rfl)) dB_one_61 ⟨Nat.le_of_ble_eq_true rfl, Nat.le_of_ble_eq_true rfl⟩) hS hFc (fun q _ h => hFc q h) (fun E ce q9 u9 t H1 locs ht hvm _ hB hz1 hk1 hS hce hcv hcl => ?_)
  obtain ⟨rfl, hP1, hK1, hD1⟩ := hB
  rw [ht] at hP1
  obtain ⟨hP, hD⟩ := xjoin (W := [(a2, .inl (cT 3, 8, .inr (.inr (.inr (.inr f24))))), (a1, .inr (2, [v21, .int 0, .int 0])), (a3, .inr (2, [.ref a4, .int 1, v26])), (a4, .inl (cT 2, 4096, .inr (.inl f27))), (a0, .inr (0, [v15, v16, .ref b17, .ref a2, .ref b18, .ref a1, v19, .int 1]))]) hP hD [0] [1, 2, 3, 4] 4 rfl rfl (by decide) (by decide) hk1 hFc hP1 hD1
  generalize H1 = H at hP hS hce ⊢
  obtain ⟨hP9, hD9⟩ := xsub (wc := [(a0, .inr (0, [v15, v16, .ref b17, .ref a2, .ref b18, .ref a1, v19, .int 1])), (a1, .inr (2, [v21, .int 0, .int 0])), (a2, .inl (cT 3, 8, .inr (.inr (.inr (.inr f24))))), (a3, .inr (2, [.ref a4, .int 1, v26])), (a4, .inl (cT 2, 4096, .inr (.inl f27)))]) hP hD [4, 1, 0, 2, 3] rfl rfl (by decide)
  exact vx_out (E := "java/lang/ArithmeticException") (fun x h => (hne x h).elim) hlocks hce hcv hcl (fun t ht ha => ⟨(), trivial, ⟨rfl, by rw [ht]; exact hP9, va_K.moved ha hK, hD9⟩, hS.F ht⟩) hS.2.2 (Nat.le_of_ble_eq_true rfl) (Nat.le_of_ble_eq_true rfl)
set_option maxHeartbeats 400000000 in
set_option maxRecDepth 100000 in
theorem cL_one_11 (l : Launch) (hl9 : l.stackTraces = false) (D : va_G) (cT : Nat → ClassId) (aK aV : Nat → Nat) (sz : Nat) (a0 : Nat) (a1 : Nat) (a2 : Nat) (a3 : Nat) (a4 : Nat) (x5 : Int32) (x10 : Int32) (v15 : Value) (v16 : Value) (b17 : Nat) (b18 : Nat) (v19 : Value) (v20 : Value) (v21 : Value) (v22 : Value) (v23 : Value) (f24 : Nat → Option Nat) (v26 : Value) (f27 : Nat → Int64) (h6 : ¬ x5 < 0) (h7 : ¬ 7 < x5) (h8 : x5 ≤ 7) (h9 : vp_in x5 8) (h11 : ¬ x10 < 0) (h12 : ¬ 7 < x10) (h13 : x10 ≤ 7) (h14 : vp_in x10 8) (h25 : f24 x10.toNatClampNeg = some a3) (h28 : f27 0 = 0) : xMet l yL_one wyL_one 8 1 6 144 D cT aK aV sz [.ref a0, .int x5, .int 5, .int x10] [(a0, .inr (0, [v15, v16, .ref b17, .ref a2, .ref b18, .ref a1, v19, v20])), (a1, .inr (2, [v21, v22, v23])), (a2, .inl (cT 3, 8, .inr (.inr (.inr (.inr f24))))), (a3, .inr (2, [.ref a4, .int 1, v26])), (a4, .inl (cT 2, 4096, .inr (.inl f27)))] (fun A => va_Qi (fun (r : Int32) (_ : Unit) => r = 2) (fun _ t => xB D xcl cT A [(a0, .inr (0, [v15, v16, .ref b17, .ref a2, .ref b18, .ref a1, v19, .int 1])), (a1, .inr (2, [v21, .int 0, .int 0])), (a2, .inl (cT 3, 8, .inr (.inr (.inr (.inr f24))))), (a3, .inr (2, [.ref a4, .int 1, v26])), (a4, .inl (cT 2, 4096, .inr (.inl f27)))] t) A) := by
  refine va_MetW (cc := method_10_code) (maxL := 5) (ret := (some .int)) (hh := [(0, 7, 10, 19), (0, 7, 14, 33), (0, 7, 18, 13)]) (by decide) rfl ?_
  intro p e s m args below meth c s₁ B hml hv
  obtain ⟨rfl, hsz, hZ, hP, hK, hD0⟩ := hv
  have hx := B.exec
  have hb := B.bytes
  have hr := B.returns
  have hts := atoms_spec (ws := wyL_one) B.pre
  have htx := fun w h => hts w (List.mem_cons_of_mem _ h)
  have hown : s.vm.findClass "ValueBenchLaw" = some m.cls := findClass_of_methodNamed B.named
  have hlocks := B.notSynchronized
  subst hsz
  have hD := hD0.self (sz := s.heap.size)
  generalize hAe : va_A [(a0, .inr (0, [v15, v16, .ref b17, .ref a2, .ref b18, .ref a1, v19, v20])), (a1, .inr (2, [v21, v22, v23])), (a2, .inl (cT 3, 8, .inr (.inr (.inr (.inr f24))))), (a3, .inr (2, [.ref a4, .int 1, v26])), (a4, .inl (cT 2, 4096, .inr (.inl f27)))] s.heap.size = A at hD hZ ⊢
  have hA : ∀ q : Nat, s.heap.size ≤ q → A q := fun q h => by rw [← hAe]; exact Or.inr h
  have hS : va_S A s.heap s.heap [] := va_S.rf
  have hP : va_P D xcl [(a0, .inr (0, [v15, v16, .ref b17, .ref a2, .ref b18, .ref a1, v19, v20])), (a1, .inr (2, [v21, v22, v23])), (a2, .inl (cT 3, 8, .inr (.inr (.inr (.inr f24))))), (a3, .inr (2, [.ref a4, .int 1, v26])), (a4, .inl (cT 2, 4096, .inr (.inl f27)))] s.heap := hP
  have hl := lv_entry ([.ref a0, .int x5, .int 5, .int x10]) (n := 5) (Nat.le_of_ble_eq_true rfl)
  rw [lg_entry_eq]
  generalize (lg_sl ([.ref a0, .int x5, .int 5, .int x10]) ++ List.replicate (5 - (lg_sl ([.ref a0, .int x5, .int 5, .int x10])).length) Slot.unset).toArray = ls at hl ⊢
  have hl : lv_has ls 5 [(0, .ref a0), (1, .int x5), (2, .int 5), (3, .int x10)] := hl
  have htab := vx_table (x := yL_one) B (hts _ List.mem_cons_self)
  refine lv_aload_n hx hb dL_one_0 rfl (lv_at hl 0 rfl) ?_
  refine lv_iload_n hx hb dL_one_1 rfl (lv_at hl 1 rfl) ?_
  refine lv_iload_n hx hb dL_one_2 rfl (lv_at hl 2 rfl) ?_
  refine lv_iload_n hx hb dL_one_3 rfl (lv_at hl 3 rfl) ?_
  obtain ⟨hPc, hDc, hFc⟩ := xcut (wc := [(a0, .inr (0, [v15, v16, .ref b17, .ref a2, .ref b18, .ref a1, v19, v20])), (a1, .inr (2, [v21, v22, v23])), (a2, .inl (cT 3, 8, .inr (.inr (.inr (.inr f24))))), (a3, .inr (2, [.ref a4, .int 1, v26])), (a4, .inl (cT 2, 4096, .inr (.inl f27)))]) hP hD hS hA [0, 1, 2, 3, 4] rfl rfl (by decide)
  refine xx_thr (vx_runV (C := "ValueBench") (As := [.int x5, .int 5, .int x10]) (rest := []) ⟨hx, hb, hml, hown, htx⟩ (cB_one_11 l hl9 D cT aK aV s.heap.size a0 a1 a2 a3 a4 x5 x10 v15 v16 b17 b18 v19 v20 v21 v22 v23 f24 v26 f27 h6 h7 h8 h9 h11 h12 h13 h14 (by first | rfl | exact h25 | exact h28) (by first | rfl | exact h25 | exact h28)) ⟨callB_of 3 htx (xw_goodC kw_4_25) rfl rfl rfl (htx _ kw_1_1) (htx _ kw_4_22) ⟨by decide, by decide, by decide +kernel⟩ ⟨Nat.le_of_ble_eq_true rfl, Nat.le_of_ble_eq_true rfl⟩, (htx _ kw_4_23), (htx _ kw_4_24)⟩ ⟨xPre_blind, va_recv hK hP (ci := 0) rfl (q0 := 0) rfl, (fun U hU hW => ⟨rfl, xPre_of hZ hS hFc hPc hDc hK U hU hW⟩)⟩ rfl rfl hl.1 rfl (lv_room (Nat.le_of_ble_eq_true rfl)) dL_one_4 ⟨Nat.le_of_ble_eq_true rfl, Nat.le_of_ble_eq_true rfl⟩) hS hFc (fun q _ h => hFc q h) (fun E ce q9 u9 t H1 locs ht hvm _ hB hz1 hk1 hS hce hcv hcl => ?_)
  obtain ⟨rfl, hP1, hK1, hD1⟩ := hB
  rw [ht] at hP1
  obtain ⟨hP, hD⟩ := xjoin (W := [(a0, .inr (0, [v15, v16, .ref b17, .ref a2, .ref b18, .ref a1, v19, .int 1])), (a1, .inr (2, [v21, .int 0, .int 0])), (a2, .inl (cT 3, 8, .inr (.inr (.inr (.inr f24))))), (a3, .inr (2, [.ref a4, .int 1, v26])), (a4, .inl (cT 2, 4096, .inr (.inl f27)))]) hP hD [0, 1, 2, 3, 4] [] 0 rfl rfl (by decide) (by decide) hk1 hFc hP1 hD1
  generalize H1 = H at hP hS hce ⊢
  refine vx_catch (own := "ValueBenchLaw") (name := "java/lang/ArithmeticException") (E := "java/lang/ArithmeticException") hown [⟨0, 7, 10, 19⟩] ⟨0, 7, 14, 33⟩ [⟨0, 7, 18, 13⟩] (by rw [htab]; rfl) (by intro z hz; rcases List.mem_cons.mp hz with rfl | hz; (exact Or.inr ⟨by decide, "java/lang/IllegalArgumentException", htx _ kw_1_211, hZ.2.2.2.2.2.2.2.1 ("java/lang/ArithmeticException", "java/lang/IllegalArgumentException") (List.mem_of_getElem? (i := 10) rfl)⟩); cases hz) (by decide) (by decide) (htx _ kw_3_98) ((hZ.2.2.2.2.2.1 "java/lang/ArithmeticException" (List.mem_of_getElem? (i := 3) rfl)).use rfl) hce hcv hcl ?_
  refine lv_astore (lv' := [(4, .ref q9), (0, .ref a0), (1, .int x5), (2, .int 5), (3, .int x10)]) hx hb dL_one_14 hl (by decide) rfl (fun ls hl => ?_)
  refine lv_iconst (v := 2) hx hb dL_one_16 (by decide) ?_
  obtain ⟨hP9, hD9⟩ := xsub (wc := [(a0, .inr (0, [v15, v16, .ref b17, .ref a2, .ref b18, .ref a1, v19, .int 1])), (a1, .inr (2, [v21, .int 0, .int 0])), (a2, .inl (cT 3, 8, .inr (.inr (.inr (.inr f24))))), (a3, .inr (2, [.ref a4, .int 1, v26])), (a4, .inl (cT 2, 4096, .inr (.inl f27)))]) hP hD [0, 1, 2, 3, 4] rfl rfl (by decide)
  refine W.widen (k := 1) (n := 6) (Nat.le_of_ble_eq_true rfl) (Nat.le_of_ble_eq_true rfl) ?_
  exact W.iret (v := 2) hx hb hr (fun t ht hW => ⟨⟨2, (), rfl, rfl, by rw [ht]; exact hP9, va_K.moved hW.alike hK, hD9⟩, hS.F ht⟩) hS.2.2 dL_one_17
set_option maxHeartbeats 400000000 in
set_option maxRecDepth 100000 in
theorem cM_text_0 (l : Launch) (hl9 : l.stackTraces = false) (D : va_G) (cT : Nat → ClassId) (aK aV : Nat → Nat) (sz : Nat) (a0 : Nat) (a1 : Nat) (v2 : Value) (v3 : Value) (v4 : Value) (v5 : Value) (v6 : Value) (v7 : Value) (v8 : Value) (v9 : Value) (v10 : Value) (v11 : Value) (v12 : Value) (v13 : Value) (v14 : Value) (v15 : Value) (v16 : Value) (v17 : Value) (v18 : Value) (v19 : Value) (v20 : Value) (v21 : Value) (v22 : Value) (v23 : Value) (v24 : Value) (v25 : Value) (v26 : Value) (v27 : Value) (v28 : Value) (v29 : Value) (v30 : Value) (v31 : Value) (v32 : Value) (v33 : Value) (v34 : Value) (v35 : Value) (v36 : Value) (v37 : Value) (v38 : Value) : xMetX l yM_text wyM_text 7 1 6 121 D cT aK aV sz [.ref a1, .ref a0] [(a0, .inr (6, [.int 0, v2, v3, v4, v5, v6])), (a1, .inr (5, [v7, v8, v9, v10, v11, v12, v13, v14, v15, v16, v17, v18, v19, v20, v21, v22, v23, v24, v25, v26, v27, v28, v29, v30, v31, v32, v33, v34, v35, v36, v37, v38]))] "java/lang/ArithmeticException" (fun A t => xB D xcl cT A [(a0, .inr (6, [.int 0, v2, v3, v4, v5, v6])), (a1, .inr (5, [v7, v8, v9, v10, v11, v12, v13, v14, .int 1, v16, v17, v18, v19, v20, v21, v22, v23, v24, v25, v26, v27, v28, v29, v30, v31, v32, v33, v34, v35, v36, v37, v38]))] t) := by
  refine vx_ofW (cc := prog_13_method_56_code) (maxL := 2) (ret := (some (.object "ValueBenchModel$V"))) (by decide) rfl ?_
  intro p e s m args below meth c s₁ B hml hne hv
  obtain ⟨rfl, hsz, hZ, hP, hK, hD0⟩ := hv
  have hx := B.exec
  have hb := B.bytes
  have hr := B.returns
  have hts := atoms_spec (ws := wyM_text) B.pre
  have htx := fun w h => hts w (List.mem_cons_of_mem _ h)
  have hown : s.vm.findClass "ValueBenchModel" = some m.cls := findClass_of_methodNamed B.named
  have hlocks := B.notSynchronized
  subst hsz
  have hD := hD0.self (sz := s.heap.size)
  generalize hAe : va_A [(a0, .inr (6, [.int 0, v2, v3, v4, v5, v6])), (a1, .inr (5, [v7, v8, v9, v10, v11, v12, v13, v14, v15, v16, v17, v18, v19, v20, v21, v22, v23, v24, v25, v26, v27, v28, v29, v30, v31, v32, v33, v34, v35, v36, v37, v38]))] s.heap.size = A at hD hZ ⊢
  have hA : ∀ q : Nat, s.heap.size ≤ q → A q := fun q h => by rw [← hAe]; exact Or.inr h
  have hS : va_S A s.heap s.heap [] := va_S.rf
  have hP : va_P D xcl [(a0, .inr (6, [.int 0, v2, v3, v4, v5, v6])), (a1, .inr (5, [v7, v8, v9, v10, v11, v12, v13, v14, v15, v16, v17, v18, v19, v20, v21, v22, v23, v24, v25, v26, v27, v28, v29, v30, v31, v32, v33, v34, v35, v36, v37, v38]))] s.heap := hP
  have hl := lv_entry ([.ref a1, .ref a0]) (n := 2) (Nat.le_of_ble_eq_true rfl)
  rw [lg_entry_eq]
  generalize (lg_sl ([.ref a1, .ref a0]) ++ List.replicate (2 - (lg_sl ([.ref a1, .ref a0])).length) Slot.unset).toArray = ls at hl ⊢
  have hl : lv_has ls 2 [(0, .ref a1), (1, .ref a0)] := hl
  refine lv_aload_n hx hb dM_text_0 rfl (lv_at hl 1 rfl) ?_
  refine va_getN (D := D) (ci := 6) (v := .int 0) (C := "ValueBenchModel$V") (T := TV) (N := 6) hx hb htx inV hown hK hP 0 rfl rfl 0 (by decide) ((hZ.1 (93, "kind", "I") (List.mem_of_getElem? (i := 0) rfl)).use rfl) (fun _ h9 => h9) rfl dM_text_1 ?_
  refine lv_iconst (v := 4) hx hb dM_text_4 (by decide) ?_
  refine lv_icmp_ne (tgt := 12) hx hb dM_text_5 (by decide) (fun _ => ?_) (fun h => ((by revert h; decide : False)).elim)
  refine lv_aload_n hx hb dM_text_12 rfl (lv_at hl 0 rfl) ?_
  refine lv_iconst (v := 1) hx hb dM_text_13 (by decide) ?_
  obtain ⟨hPc, hDc, hFc⟩ := xcut (wc := [(a1, .inr (5, [v7, v8, v9, v10, v11, v12, v13, v14, v15, v16, v17, v18, v19, v20, v21, v22, v23, v24, v25, v26, v27, v28, v29, v30, v31, v32, v33, v34, v35, v36, v37, v38]))]) hP hD hS hA [1] rfl rfl (by decide)
  refine xx_thr (vx_runV (C := "ValueBenchModel") (As := [.int 1]) (rest := []) ⟨hx, hb, hml, hown, htx⟩ (cM_refuse_0 l hl9 D cT aK aV s.heap.size a1 1 v7 v8 v9 v10 v11 v12 v13 v14 v15 v16 v17 v18 v19 v20 v21 v22 v23 v24 v25 v26 v27 v28 v29 v30 v31 v32 v33 v34 v35 v36 v37 v38) ⟨callB_of 1 htx (xw_goodC kw_6_93) rfl rfl rfl (htx _ kw_1_5) (htx _ kw_6_90) ⟨by decide, by decide, by decide +kernel⟩ ⟨Nat.le_of_ble_eq_true rfl, Nat.le_of_ble_eq_true rfl⟩, (htx _ kw_6_92), (htx _ kp_M_refuse)⟩ ⟨xPre_blind, va_recv hK hP (ci := 5) rfl (q0 := 1) rfl, (fun U hU hW => ⟨rfl, xPre_of hZ hS hFc hPc hDc hK U hU hW⟩)⟩ rfl rfl hl.1 rfl (lv_room (Nat.le_of_ble_eq_true rfl)) dM_text_14 ⟨Nat.le_of_ble_eq_true rfl, Nat.le_of_ble_eq_true rfl⟩) hS hFc (fun q _ h => hFc q h) (fun E ce q9 u9 t H1 locs ht hvm _ hB hz1 hk1 hS hce hcv hcl => ?_)
  obtain ⟨rfl, hP1, hK1, hD1⟩ := hB
  rw [ht] at hP1
  obtain ⟨hP, hD⟩ := xjoin (W := [(a0, .inr (6, [.int 0, v2, v3, v4, v5, v6])), (a1, .inr (5, [v7, v8, v9, v10, v11, v12, v13, v14, .int 1, v16, v17, v18, v19, v20, v21, v22, v23, v24, v25, v26, v27, v28, v29, v30, v31, v32, v33, v34, v35, v36, v37, v38]))]) hP hD [1] [0] 1 rfl rfl (by decide) (by decide) hk1 hFc hP1 hD1
  generalize H1 = H at hP hS hce ⊢
  obtain ⟨hP9, hD9⟩ := xsub (wc := [(a0, .inr (6, [.int 0, v2, v3, v4, v5, v6])), (a1, .inr (5, [v7, v8, v9, v10, v11, v12, v13, v14, .int 1, v16, v17, v18, v19, v20, v21, v22, v23, v24, v25, v26, v27, v28, v29, v30, v31, v32, v33, v34, v35, v36, v37, v38]))]) hP hD [0, 1] rfl rfl (by decide)
  exact vx_out (E := "java/lang/ArithmeticException") (fun x h => (hne x h).elim) hlocks hce hcv hcl (fun t ht ha => ⟨(), trivial, ⟨rfl, by rw [ht]; exact hP9, va_K.moved ha hK, hD9⟩, hS.F ht⟩) hS.2.2 (Nat.le_of_ble_eq_true rfl) (Nat.le_of_ble_eq_true rfl)
set_option maxHeartbeats 400000000 in
set_option maxRecDepth 100000 in
theorem cM_toNumber_0 (l : Launch) (hl9 : l.stackTraces = false) (D : va_G) (cT : Nat → ClassId) (aK aV : Nat → Nat) (sz : Nat) (a0 : Nat) (a1 : Nat) (v2 : Value) (v3 : Value) (v4 : Value) (v5 : Value) (v6 : Value) (v7 : Value) (v8 : Value) (v9 : Value) (v10 : Value) (v11 : Value) (v12 : Value) (v13 : Value) (v14 : Value) (v15 : Value) (v16 : Value) (v17 : Value) (v18 : Value) (v19 : Value) (v20 : Value) (v21 : Value) (v22 : Value) (v23 : Value) (v24 : Value) (v25 : Value) (v26 : Value) (v27 : Value) (v28 : Value) (v29 : Value) (v30 : Value) (v31 : Value) (v32 : Value) (v33 : Value) (v34 : Value) (v35 : Value) (v36 : Value) (v37 : Value) (v38 : Value) : xMetX l yM_toNumber wyM_toNumber 8 1 6 142 D cT aK aV sz [.ref a1, .ref a0] [(a0, .inr (6, [.int 0, v2, v3, v4, v5, v6])), (a1, .inr (5, [v7, v8, v9, v10, v11, v12, v13, v14, v15, v16, v17, v18, v19, v20, v21, v22, v23, v24, v25, v26, v27, v28, v29, v30, v31, v32, v33, v34, v35, v36, v37, v38]))] "java/lang/ArithmeticException" (fun A t => xB D xcl cT A [(a0, .inr (6, [.int 0, v2, v3, v4, v5, v6])), (a1, .inr (5, [v7, v8, v9, v10, v11, v12, v13, v14, .int 1, v16, v17, v18, v19, v20, v21, v22, v23, v24, v25, v26, v27, v28, v29, v30, v31, v32, v33, v34, v35, v36, v37, v38]))] t) := by
  refine vx_ofW (cc := prog_13_method_59_code) (maxL := 7) (ret := (some (.object "ValueBenchModel$V"))) (by decide) rfl ?_
  intro p e s m args below meth c s₁ B hml hne hv
  obtain ⟨rfl, hsz, hZ, hP, hK, hD0⟩ := hv
  have hx := B.exec
  have hb := B.bytes
  have hr := B.returns
  have hts := atoms_spec (ws := wyM_toNumber) B.pre
  have htx := fun w h => hts w (List.mem_cons_of_mem _ h)
  have hown : s.vm.findClass "ValueBenchModel" = some m.cls := findClass_of_methodNamed B.named
  have hlocks := B.notSynchronized
  subst hsz
  have hD := hD0.self (sz := s.heap.size)
  generalize hAe : va_A [(a0, .inr (6, [.int 0, v2, v3, v4, v5, v6])), (a1, .inr (5, [v7, v8, v9, v10, v11, v12, v13, v14, v15, v16, v17, v18, v19, v20, v21, v22, v23, v24, v25, v26, v27, v28, v29, v30, v31, v32, v33, v34, v35, v36, v37, v38]))] s.heap.size = A at hD hZ ⊢
  have hA : ∀ q : Nat, s.heap.size ≤ q → A q := fun q h => by rw [← hAe]; exact Or.inr h
  have hS : va_S A s.heap s.heap [] := va_S.rf
  have hP : va_P D xcl [(a0, .inr (6, [.int 0, v2, v3, v4, v5, v6])), (a1, .inr (5, [v7, v8, v9, v10, v11, v12, v13, v14, v15, v16, v17, v18, v19, v20, v21, v22, v23, v24, v25, v26, v27, v28, v29, v30, v31, v32, v33, v34, v35, v36, v37, v38]))] s.heap := hP
  have hl := lv_entry ([.ref a1, .ref a0]) (n := 7) (Nat.le_of_ble_eq_true rfl)
  rw [lg_entry_eq]
  generalize (lg_sl ([.ref a1, .ref a0]) ++ List.replicate (7 - (lg_sl ([.ref a1, .ref a0])).length) Slot.unset).toArray = ls at hl ⊢
  have hl : lv_has ls 7 [(0, .ref a1), (1, .ref a0)] := hl
  refine lv_aload_n hx hb dM_toNumber_0 rfl (lv_at hl 1 rfl) ?_
  refine va_getN (D := D) (ci := 6) (v := .int 0) (C := "ValueBenchModel$V") (T := TV) (N := 6) hx hb htx inV hown hK hP 0 rfl rfl 0 (by decide) ((hZ.1 (93, "kind", "I") (List.mem_of_getElem? (i := 0) rfl)).use rfl) (fun _ h9 => h9) rfl dM_toNumber_1 ?_
  refine lv_iconst (v := 3) hx hb dM_toNumber_4 (by decide) ?_
  refine lv_icmp_ne (tgt := 10) hx hb dM_toNumber_5 (by decide) (fun _ => ?_) (fun h => ((by revert h; decide : False)).elim)
  refine lv_aload_n hx hb dM_toNumber_10 rfl (lv_at hl 0 rfl) ?_
  refine lv_aload_n hx hb dM_toNumber_11 rfl (lv_at hl 1 rfl) ?_
  obtain ⟨hPc, hDc, hFc⟩ := xcut (wc := [(a0, .inr (6, [.int 0, v2, v3, v4, v5, v6])), (a1, .inr (5, [v7, v8, v9, v10, v11, v12, v13, v14, v15, v16, v17, v18, v19, v20, v21, v22, v23, v24, v25, v26, v27, v28, v29, v30, v31, v32, v33, v34, v35, v36, v37, v38]))]) hP hD hS hA [0, 1] rfl rfl (by decide)
  refine xx_thr (vx_runV (C := "ValueBenchModel") (As := [.ref a0]) (rest := []) ⟨hx, hb, hml, hown, htx⟩ (cM_text_0 l hl9 D cT aK aV s.heap.size a0 a1 v2 v3 v4 v5 v6 v7 v8 v9 v10 v11 v12 v13 v14 v15 v16 v17 v18 v19 v20 v21 v22 v23 v24 v25 v26 v27 v28 v29 v30 v31 v32 v33 v34 v35 v36 v37 v38) ⟨callB_of 1 htx (xw_goodC kw_7_54) rfl rfl rfl (htx _ kw_1_5) (htx _ kw_7_51) ⟨by decide, by decide, by decide +kernel⟩ ⟨Nat.le_of_ble_eq_true rfl, Nat.le_of_ble_eq_true rfl⟩, (htx _ kw_7_53), (htx _ kp_M_text)⟩ ⟨xPre_blind, va_recv hK hP (ci := 5) rfl (q0 := 1) rfl, (fun U hU hW => ⟨rfl, xPre_of hZ hS hFc hPc hDc hK U hU hW⟩)⟩ rfl rfl hl.1 rfl (lv_room (Nat.le_of_ble_eq_true rfl)) dM_toNumber_12 ⟨Nat.le_of_ble_eq_true rfl, Nat.le_of_ble_eq_true rfl⟩) hS hFc (fun q _ h => hFc q h) (fun E ce q9 u9 t H1 locs ht hvm _ hB hz1 hk1 hS hce hcv hcl => ?_)
  obtain ⟨rfl, hP1, hK1, hD1⟩ := hB
  rw [ht] at hP1
  obtain ⟨hP, hD⟩ := xjoin (W := [(a0, .inr (6, [.int 0, v2, v3, v4, v5, v6])), (a1, .inr (5, [v7, v8, v9, v10, v11, v12, v13, v14, .int 1, v16, v17, v18, v19, v20, v21, v22, v23, v24, v25, v26, v27, v28, v29, v30, v31, v32, v33, v34, v35, v36, v37, v38]))]) hP hD [0, 1] [] 0 rfl rfl (by decide) (by decide) hk1 hFc hP1 hD1
  generalize H1 = H at hP hS hce ⊢
  obtain ⟨hP9, hD9⟩ := xsub (wc := [(a0, .inr (6, [.int 0, v2, v3, v4, v5, v6])), (a1, .inr (5, [v7, v8, v9, v10, v11, v12, v13, v14, .int 1, v16, v17, v18, v19, v20, v21, v22, v23, v24, v25, v26, v27, v28, v29, v30, v31, v32, v33, v34, v35, v36, v37, v38]))]) hP hD [0, 1] rfl rfl (by decide)
  exact vx_out (E := "java/lang/ArithmeticException") (fun x h => (hne x h).elim) hlocks hce hcv hcl (fun t ht ha => ⟨(), trivial, ⟨rfl, by rw [ht]; exact hP9, va_K.moved ha hK, hD9⟩, hS.F ht⟩) hS.2.2 (Nat.le_of_ble_eq_true rfl) (Nat.le_of_ble_eq_true rfl)
set_option maxHeartbeats 400000000 in
set_option maxRecDepth 100000 in
theorem cM_one1_5 (l : Launch) (hl9 : l.stackTraces = false) (D : va_G) (cT : Nat → ClassId) (aK aV : Nat → Nat) (sz : Nat) (a0 : Nat) (a1 : Nat) (v2 : Value) (v3 : Value) (v4 : Value) (v5 : Value) (v6 : Value) (v7 : Value) (v8 : Value) (v9 : Value) (v10 : Value) (v11 : Value) (v12 : Value) (v13 : Value) (v14 : Value) (v15 : Value) (v16 : Value) (v17 : Value) (v18 : Value) (v19 : Value) (v20 : Value) (v21 : Value) (v22 : Value) (v23 : Value) (v24 : Value) (v25 : Value) (v26 : Value) (v27 : Value) (v28 : Value) (v29 : Value) (v30 : Value) (v31 : Value) (v32 : Value) (v33 : Value) (v34 : Value) (v35 : Value) (v36 : Value) (v37 : Value) (v38 : Value) : xMetX l yM_one1 wyM_one1 9 1 6 168 D cT aK aV sz [.ref a0, .int 5, .ref a1] [(a0, .inr (5, [v2, v3, v4, v5, v6, v7, v8, v9, v10, v11, v12, v13, v14, v15, v16, v17, v18, v19, v20, v21, v22, v23, v24, v25, v26, v27, v28, v29, v30, v31, v32, v33])), (a1, .inr (6, [.int 0, v34, v35, v36, v37, v38]))] "java/lang/ArithmeticException" (fun A t => xB D xcl cT A [(a0, .inr (5, [v2, v3, v4, v5, v6, v7, v8, v9, .int 1, v11, v12, v13, v14, v15, v16, v17, v18, v19, v20, v21, v22, v23, v24, v25, v26, v27, v28, v29, v30, v31, v32, v33])), (a1, .inr (6, [.int 0, v34, v35, v36, v37, v38]))] t) := by
  refine vx_ofW (cc := prog_13_method_66_code) (maxL := 3) (ret := (some (.object "ValueBenchModel$V"))) (by decide) rfl ?_
  intro p e s m args below meth c s₁ B hml hne hv
  obtain ⟨rfl, hsz, hZ, hP, hK, hD0⟩ := hv
  have hx := B.exec
  have hb := B.bytes
  have hr := B.returns
  have hts := atoms_spec (ws := wyM_one1) B.pre
  have htx := fun w h => hts w (List.mem_cons_of_mem _ h)
  have hown : s.vm.findClass "ValueBenchModel" = some m.cls := findClass_of_methodNamed B.named
  have hlocks := B.notSynchronized
  subst hsz
  have hD := hD0.self (sz := s.heap.size)
  generalize hAe : va_A [(a0, .inr (5, [v2, v3, v4, v5, v6, v7, v8, v9, v10, v11, v12, v13, v14, v15, v16, v17, v18, v19, v20, v21, v22, v23, v24, v25, v26, v27, v28, v29, v30, v31, v32, v33])), (a1, .inr (6, [.int 0, v34, v35, v36, v37, v38]))] s.heap.size = A at hD hZ ⊢
  have hA : ∀ q : Nat, s.heap.size ≤ q → A q := fun q h => by rw [← hAe]; exact Or.inr h
  have hS : va_S A s.heap s.heap [] := va_S.rf
  have hP : va_P D xcl [(a0, .inr (5, [v2, v3, v4, v5, v6, v7, v8, v9, v10, v11, v12, v13, v14, v15, v16, v17, v18, v19, v20, v21, v22, v23, v24, v25, v26, v27, v28, v29, v30, v31, v32, v33])), (a1, .inr (6, [.int 0, v34, v35, v36, v37, v38]))] s.heap := hP
  have hl := lv_entry ([.ref a0, .int 5, .ref a1]) (n := 3) (Nat.le_of_ble_eq_true rfl)
  rw [lg_entry_eq]
  generalize (lg_sl ([.ref a0, .int 5, .ref a1]) ++ List.replicate (3 - (lg_sl ([.ref a0, .int 5, .ref a1])).length) Slot.unset).toArray = ls at hl ⊢
  have hl : lv_has ls 3 [(0, .ref a0), (1, .int 5), (2, .ref a1)] := hl
  refine lv_iload_n hx hb dM_one1_0 rfl (lv_at hl 1 rfl) ?_
  refine lv_tableIn (off := 123) (tgt := 124) hx hb dM_one1_1 (by decide) (by decide) (by decide) (by decide) ?_
  refine lv_aload_n hx hb dM_one1_124 rfl (lv_at hl 0 rfl) ?_
  refine lv_aload_n hx hb dM_one1_125 rfl (lv_at hl 2 rfl) ?_
  obtain ⟨hPc, hDc, hFc⟩ := xcut (wc := [(a1, .inr (6, [.int 0, v34, v35, v36, v37, v38])), (a0, .inr (5, [v2, v3, v4, v5, v6, v7, v8, v9, v10, v11, v12, v13, v14, v15, v16, v17, v18, v19, v20, v21, v22, v23, v24, v25, v26, v27, v28, v29, v30, v31, v32, v33]))]) hP hD hS hA [1, 0] rfl rfl (by decide)
  refine xx_thr (vx_runV (C := "ValueBenchModel") (As := [.ref a1]) (rest := []) ⟨hx, hb, hml, hown, htx⟩ (cM_toNumber_0 l hl9 D cT aK aV s.heap.size a1 a0 v34 v35 v36 v37 v38 v2 v3 v4 v5 v6 v7 v8 v9 v10 v11 v12 v13 v14 v15 v16 v17 v18 v19 v20 v21 v22 v23 v24 v25 v26 v27 v28 v29 v30 v31 v32 v33) ⟨callB_of 1 htx (xw_goodC kw_7_50) rfl rfl rfl (htx _ kw_1_5) (htx _ kw_7_47) ⟨by decide, by decide, by decide +kernel⟩ ⟨Nat.le_of_ble_eq_true rfl, Nat.le_of_ble_eq_true rfl⟩, (htx _ kw_7_49), (htx _ kp_M_toNumber)⟩ ⟨xPre_blind, va_recv hK hP (ci := 5) rfl (q0 := 0) rfl, (fun U hU hW => ⟨rfl, xPre_of hZ hS hFc hPc hDc hK U hU hW⟩)⟩ rfl rfl hl.1 rfl (lv_room (Nat.le_of_ble_eq_true rfl)) dM_one1_126 ⟨Nat.le_of_ble_eq_true rfl, Nat.le_of_ble_eq_true rfl⟩) hS hFc (fun q _ h => hFc q h) (fun E ce q9 u9 t H1 locs ht hvm _ hB hz1 hk1 hS hce hcv hcl => ?_)
  obtain ⟨rfl, hP1, hK1, hD1⟩ := hB
  rw [ht] at hP1
  obtain ⟨hP, hD⟩ := xjoin (W := [(a1, .inr (6, [.int 0, v34, v35, v36, v37, v38])), (a0, .inr (5, [v2, v3, v4, v5, v6, v7, v8, v9, .int 1, v11, v12, v13, v14, v15, v16, v17, v18, v19, v20, v21, v22, v23, v24, v25, v26, v27, v28, v29, v30, v31, v32, v33]))]) hP hD [1, 0] [] 0 rfl rfl (by decide) (by decide) hk1 hFc hP1 hD1
  generalize H1 = H at hP hS hce ⊢
  obtain ⟨hP9, hD9⟩ := xsub (wc := [(a0, .inr (5, [v2, v3, v4, v5, v6, v7, v8, v9, .int 1, v11, v12, v13, v14, v15, v16, v17, v18, v19, v20, v21, v22, v23, v24, v25, v26, v27, v28, v29, v30, v31, v32, v33])), (a1, .inr (6, [.int 0, v34, v35, v36, v37, v38]))]) hP hD [1, 0] rfl rfl (by decide)
  exact vx_out (E := "java/lang/ArithmeticException") (fun x h => (hne x h).elim) hlocks hce hcv hcl (fun t ht ha => ⟨(), trivial, ⟨rfl, by rw [ht]; exact hP9, va_K.moved ha hK, hD9⟩, hS.F ht⟩) hS.2.2 (Nat.le_of_ble_eq_true rfl) (Nat.le_of_ble_eq_true rfl)
set_option maxHeartbeats 400000000 in
set_option maxRecDepth 100000 in
theorem cM_finish_21 (l : Launch) (hl9 : l.stackTraces = false) (D : va_G) (cT : Nat → ClassId) (aK aV : Nat → Nat) (sz : Nat) (a0 : Nat) (a1 : Nat) (a2 : Nat) (a3 : Nat) (a4 : Nat) (x5 : Int32) (x6 : Int32) (x11 : Int32) (v12 : Value) (v13 : Value) (v14 : Value) (v15 : Value) (v16 : Value) (v17 : Value) (v18 : Value) (v19 : Value) (v20 : Value) (v21 : Value) (v22 : Value) (v23 : Value) (v24 : Value) (v25 : Value) (v26 : Value) (v27 : Value) (v28 : Value) (v29 : Value) (v30 : Value) (v31 : Value) (v32 : Value) (v33 : Value) (v34 : Value) (v35 : Value) (v36 : Value) (v37 : Value) (v38 : Value) (v39 : Value) (f40 : Nat → Option Nat) (f42 : Nat → Int32) (f44 : Nat → Int32) (f49 : Nat → Option Nat) (h7 : ¬ x6 < 0) (h8 : ¬ 7 < x6) (h9 : x6 ≤ 7) (h10 : vp_in x6 8) (h41 : f40 x6.toNatClampNeg = some a3) (h43 : f42 x6.toNatClampNeg = 4) (h45 : f44 0 = 110) (h46 : f44 1 = 117) (h47 : f44 2 = 108) (h48 : f44 3 = 108) (h50 : f49 0 = none) : xMet l yM_finish wyM_finish 10 2 12 190 D cT aK aV sz [.ref a0, .int x5, .int 1, .int 5, .int x6, .int x11] [(a0, .inr (5, [v12, .ref a4, .int 0, v13, v14, v15, v16, v17, v18, v19, v20, v21, v22, v23, v24, v25, v26, v27, v28, v29, v30, v31, v32, v33, .ref a1, .ref a2, v34, v35, v36, v37, v38, v39])), (a1, .inl (cT 5, 8, .inr (.inr (.inr (.inr f40))))), (a2, .inl (cT 1, 8, .inl f42)), (a3, .inl (cT 0, 4096, .inl f44)), (a4, .inl (cT 4, 1024, .inr (.inr (.inr (.inr f49)))))] (fun A => va_Qv (fun _ : Unit => True) (fun _ t => ∃ (r1 : Nat), xB D xcl cT A [(a0, .inr (5, [.int 2, .ref a4, .int 1, v13, v14, v15, v16, v17, .int 1, v19, v20, v21, v22, v23, v24, .ref a3, .int 4, .int 4, .int 0, .int 100, v30, v31, v32, v33, .ref a1, .ref a2, v34, v35, v36, v37, .int 1, v39])), (a1, .inl (cT 5, 8, .inr (.inr (.inr (.inr f40))))), (a2, .inl (cT 1, 8, .inl f42)), (a3, .inl (cT 0, 4096, .inl f44)), (a4, .inl (cT 4, 1024, .inr (.inr (.inr (.inr (va_up f49 0 (some r1))))))), (r1, .inr (6, [.int 0, .long 0, .int 0, .int 0, .int 0, .int 1]))] t) A) := by
  refine va_MetW (cc := prog_13_method_90_code) (maxL := 10) (ret := none) (hh := [(0, 128, 131, 83), (0, 128, 149, 86)]) (by decide) rfl ?_
  intro p e s m args below meth c s₁ B hml hv
  obtain ⟨rfl, hsz, hZ, hP, hK, hD0⟩ := hv
  have hx := B.exec
  have hb := B.bytes
  have hr := B.returns
  have hts := atoms_spec (ws := wyM_finish) B.pre
  have htx := fun w h => hts w (List.mem_cons_of_mem _ h)
  have hown : s.vm.findClass "ValueBenchModel" = some m.cls := findClass_of_methodNamed B.named
  have hlocks := B.notSynchronized
  subst hsz
  have hD := hD0.self (sz := s.heap.size)
  generalize hAe : va_A [(a0, .inr (5, [v12, .ref a4, .int 0, v13, v14, v15, v16, v17, v18, v19, v20, v21, v22, v23, v24, v25, v26, v27, v28, v29, v30, v31, v32, v33, .ref a1, .ref a2, v34, v35, v36, v37, v38, v39])), (a1, .inl (cT 5, 8, .inr (.inr (.inr (.inr f40))))), (a2, .inl (cT 1, 8, .inl f42)), (a3, .inl (cT 0, 4096, .inl f44)), (a4, .inl (cT 4, 1024, .inr (.inr (.inr (.inr f49)))))] s.heap.size = A at hD hZ ⊢
  have hA : ∀ q : Nat, s.heap.size ≤ q → A q := fun q h => by rw [← hAe]; exact Or.inr h
  have hS : va_S A s.heap s.heap [] := va_S.rf
  have hP : va_P D xcl [(a0, .inr (5, [v12, .ref a4, .int 0, v13, v14, v15, v16, v17, v18, v19, v20, v21, v22, v23, v24, v25, v26, v27, v28, v29, v30, v31, v32, v33, .ref a1, .ref a2, v34, v35, v36, v37, v38, v39])), (a1, .inl (cT 5, 8, .inr (.inr (.inr (.inr f40))))), (a2, .inl (cT 1, 8, .inl f42)), (a3, .inl (cT 0, 4096, .inl f44)), (a4, .inl (cT 4, 1024, .inr (.inr (.inr (.inr f49)))))] s.heap := hP
  have hl := lv_entry ([.ref a0, .int x5, .int 1, .int 5, .int x6, .int x11]) (n := 10) (Nat.le_of_ble_eq_true rfl)
  rw [lg_entry_eq]
  generalize (lg_sl ([.ref a0, .int x5, .int 1, .int 5, .int x6, .int x11]) ++ List.replicate (10 - (lg_sl ([.ref a0, .int x5, .int 1, .int 5, .int x6, .int x11])).length) Slot.unset).toArray = ls at hl ⊢
  have hl : lv_has ls 10 [(0, .ref a0), (1, .int x5), (2, .int 1), (3, .int 5), (4, .int x6), (5, .int x11)] := hl
  have htab := vx_table (x := yM_finish) B (hts _ List.mem_cons_self)
  refine lv_aload_n hx hb dM_finish_0 rfl (lv_at hl 0 rfl) ?_
  refine lv_iload hx hb dM_finish_1 (lv_at hl 4 rfl) ?_
  obtain ⟨hPc, hDc, hFc⟩ := xcut (wc := [(a0, .inr (5, [v12, .ref a4, .int 0, v13, v14, v15, v16, v17, v18, v19, v20, v21, v22, v23, v24, v25, v26, v27, v28, v29, v30, v31, v32, v33, .ref a1, .ref a2, v34, v35, v36, v37, v38, v39])), (a1, .inl (cT 5, 8, .inr (.inr (.inr (.inr f40))))), (a2, .inl (cT 1, 8, .inl f42)), (a3, .inl (cT 0, 4096, .inl f44)), (a4, .inl (cT 4, 1024, .inr (.inr (.inr (.inr f49)))))]) hP hD hS hA [0, 1, 2, 3, 4] rfl rfl (by decide)
  refine va_callr (va_runV (C := "ValueBenchModel") (As := [.int x6]) (rest := []) ⟨hx, hb, hml, hown, htx⟩ (cM_register_3 l hl9 D cT aK aV s.heap.size a0 a1 a2 a3 a4 x6 v12 v13 v14 v15 v16 v17 v18 v19 v20 v21 v22 v23 v24 v25 v26 v27 v28 v29 v30 v31 v32 v33 v34 v35 v36 v37 v38 v39 f40 f42 f44 f49 h7 h8 h9 h10 (by first | rfl | exact h41 | exact h43 | exact h45 | exact h46 | exact h47 | exact h48 | exact h50) (by first | rfl | exact h41 | exact h43 | exact h45 | exact h46 | exact h47 | exact h48 | exact h50) (by first | rfl | exact h41 | exact h43 | exact h45 | exact h46 | exact h47 | exact h48 | exact h50) (by first | rfl | exact h41 | exact h43 | exact h45 | exact h46 | exact h47 | exact h48 | exact h50) (by first | rfl | exact h41 | exact h43 | exact h45 | exact h46 | exact h47 | exact h48 | exact h50) (by first | rfl | exact h41 | exact h43 | exact h45 | exact h46 | exact h47 | exact h48 | exact h50) (by first | rfl | exact h41 | exact h43 | exact h45 | exact h46 | exact h47 | exact h48 | exact h50)) ⟨callB_of 1 htx (xw_goodC kw_6_170) rfl rfl rfl (htx _ kw_1_5) (htx _ kw_6_167) ⟨by decide, by decide, by decide +kernel⟩ ⟨Nat.le_of_ble_eq_true rfl, Nat.le_of_ble_eq_true rfl⟩, (htx _ kw_6_169), (htx _ kp_M_register)⟩ ⟨xPre_blind, va_recv hK hP (ci := 5) rfl (q0 := 0) rfl, (fun U hU hW => ⟨rfl, xPre_of hZ hS hFc hPc hDc hK U hU hW⟩)⟩ rfl rfl hl.1 rfl (lv_room (Nat.le_of_ble_eq_true rfl)) dM_finish_3 ⟨Nat.le_of_ble_eq_true rfl, Nat.le_of_ble_eq_true rfl⟩) hS (fun q _ h => hFc q h) hFc (fun u9 r1 t H1 locs ht hvm hr9 hB hz1 hk1 hS => ?_)
  obtain ⟨hP1, hK1, hD1⟩ := hB
  rw [ht] at hP1
  obtain ⟨hP, hD⟩ := xjoin (W := [(a0, .inr (5, [v12, .ref a4, .int 1, v13, v14, v15, v16, v17, v18, v19, v20, v21, v22, v23, v24, .ref a3, .int 4, .int 4, .int 0, .int 100, v30, v31, v32, v33, .ref a1, .ref a2, v34, v35, v36, v37, v38, v39])), (a1, .inl (cT 5, 8, .inr (.inr (.inr (.inr f40))))), (a2, .inl (cT 1, 8, .inl f42)), (a3, .inl (cT 0, 4096, .inl f44)), (a4, .inl (cT 4, 1024, .inr (.inr (.inr (.inr (va_up f49 0 (some r1))))))), (r1, .inr (6, [.int 0, .long 0, .int 0, .int 0, .int 0, .int 1]))]) hP hD [0, 1, 2, 3, 4] [] 0 rfl rfl (by decide) (by decide) hk1 hFc hP1 hD1
  generalize H1 = H at hP hS ⊢
  refine W.eq (g2 := F0 m 6 ls [.ref r1]) rfl ?_
  refine lv_astore (lv' := [(6, .ref r1), (0, .ref a0), (1, .int x5), (2, .int 1), (3, .int 5), (4, .int x6), (5, .int x11)]) hx hb dM_finish_6 hl (by decide) rfl (fun ls hl => ?_)
  refine lv_iload_n hx hb dM_finish_8 rfl (lv_at hl 3 rfl) ?_
  refine lv_iconst (v := 1) hx hb dM_finish_9 (by decide) ?_
  refine lv_icmp_ne (tgt := 17) hx hb dM_finish_10 (by decide) (fun h => ((by revert h; decide : False)).elim) (fun _ => ?_)
  refine lv_null hx hb dM_finish_13 ?_
  refine lv_goto (tgt := 23) hx hb dM_finish_14 (by decide) ?_
  refine lv_astoreN (lv' := [(7, .null), (6, .ref r1), (0, .ref a0), (1, .int x5), (2, .int 1), (3, .int 5), (4, .int x6), (5, .int x11)]) hx hb dM_finish_23 hl (by decide) rfl (fun ls hl => ?_)
  refine lv_iload_n hx hb dM_finish_25 rfl (lv_at hl 4 rfl) ?_
  refine lv_if_ne (tgt := 43) hx hb dM_finish_26 (by decide) (fun _ => ?_) (fun h => ((by revert h; decide : False)).elim)
  refine lv_iload_n hx hb dM_finish_43 rfl (lv_at hl 4 rfl) ?_
  refine lv_iconst (v := 1) hx hb dM_finish_44 (by decide) ?_
  refine lv_icmp_ne (tgt := 60) hx hb dM_finish_45 (by decide) (fun h => ((by revert h; decide : False)).elim) (fun _ => ?_)
  refine lv_aload_n hx hb dM_finish_48 rfl (lv_at hl 2 rfl) ?_
  refine lv_iload_n hx hb dM_finish_49 rfl (lv_at hl 5 rfl) ?_
  refine lv_aload hx hb dM_finish_50 (lv_at hl 1 rfl) ?_
  obtain ⟨hPc, hDc, hFc⟩ := xcut (wc := [(a0, .inr (5, [v12, .ref a4, .int 1, v13, v14, v15, v16, v17, v18, v19, v20, v21, v22, v23, v24, .ref a3, .int 4, .int 4, .int 0, .int 100, v30, v31, v32, v33, .ref a1, .ref a2, v34, v35, v36, v37, v38, v39])), (r1, .inr (6, [.int 0, .long 0, .int 0, .int 0, .int 0, .int 1]))]) hP hD hS hA [0, 5] rfl rfl (by decide)
  refine xx_thr (vx_runV (C := "ValueBenchModel") (As := [.int 5, .ref r1]) (rest := []) ⟨hx, hb, hml, hown, htx⟩ (cM_one1_5 l hl9 D cT aK aV H.size a0 r1 v12 (.ref a4) (.int 1) v13 v14 v15 v16 v17 v18 v19 v20 v21 v22 v23 v24 (.ref a3) (.int 4) (.int 4) (.int 0) (.int 100) v30 v31 v32 v33 (.ref a1) (.ref a2) v34 v35 v36 v37 v38 v39 (.long 0) (.int 0) (.int 0) (.int 0) (.int 1)) ⟨callB_of 2 htx (xw_goodC kw_6_237) rfl rfl rfl (htx _ kw_1_5) (htx _ kw_6_234) ⟨by decide, by decide, by decide +kernel⟩ ⟨Nat.le_of_ble_eq_true rfl, Nat.le_of_ble_eq_true rfl⟩, (htx _ kw_6_236), (htx _ kp_M_one1)⟩ ⟨xPre_blind, va_recv hK hP (ci := 5) rfl (q0 := 0) rfl, (fun U hU hW => ⟨rfl, xPre_of hZ hS hFc hPc hDc hK U hU hW⟩)⟩ rfl rfl hl.1 rfl (lv_room (Nat.le_of_ble_eq_true rfl)) dM_finish_52 ⟨Nat.le_of_ble_eq_true rfl, Nat.le_of_ble_eq_true rfl⟩) hS hFc (fun q _ h => hFc q h) (fun E ce q9 u9 t H1 locs ht hvm _ hB hz1 hk1 hS hce hcv hcl => ?_)
  obtain ⟨rfl, hP1, hK1, hD1⟩ := hB
  rw [ht] at hP1
  obtain ⟨hP, hD⟩ := xjoin (W := [(a1, .inl (cT 5, 8, .inr (.inr (.inr (.inr f40))))), (a2, .inl (cT 1, 8, .inl f42)), (a3, .inl (cT 0, 4096, .inl f44)), (a4, .inl (cT 4, 1024, .inr (.inr (.inr (.inr (va_up f49 0 (some r1))))))), (a0, .inr (5, [v12, .ref a4, .int 1, v13, v14, v15, v16, v17, .int 1, v19, v20, v21, v22, v23, v24, .ref a3, .int 4, .int 4, .int 0, .int 100, v30, v31, v32, v33, .ref a1, .ref a2, v34, v35, v36, v37, v38, v39])), (r1, .inr (6, [.int 0, .long 0, .int 0, .int 0, .int 0, .int 1]))]) hP hD [0, 5] [1, 2, 3, 4] 4 rfl rfl (by decide) (by decide) hk1 hFc hP1 hD1
  generalize H1 = H at hP hS hce ⊢
  refine vx_catch (own := "ValueBenchModel") (name := "java/lang/ArithmeticException") (E := "java/lang/ArithmeticException") hown [] ⟨0, 128, 131, 83⟩ [⟨0, 128, 149, 86⟩] (by rw [htab]; rfl) (fun z hz => nomatch hz) (by decide) (by decide) (htx _ kw_6_94) ((hZ.2.2.2.2.2.1 "java/lang/ArithmeticException" (List.mem_of_getElem? (i := 3) rfl)).use rfl) hce hcv hcl ?_
  refine lv_astore (lv' := [(6, .ref q9), (7, .null), (0, .ref a0), (1, .int x5), (2, .int 1), (3, .int 5), (4, .int x6), (5, .int x11)]) hx hb dM_finish_131 hl (by decide) rfl (fun ls hl => ?_)
  refine lv_aload_n hx hb dM_finish_133 rfl (lv_at hl 2 rfl) ?_
  refine lv_aload_n hx hb dM_finish_134 rfl (lv_at hl 2 rfl) ?_
  refine va_get (D := D) (ci := 5) (v := .int 1) (C := "ValueBenchModel") (T := TM) (N := 32) hx hb htx inM hown hK hP 4 rfl rfl 8 (by decide) (htx _ kw_5_95) (fun _ h9 => h9) rfl dM_finish_135 ?_
  refine va_put (D := D) (ci := 5) (v := .int 1) (ty := .int) (C := "ValueBenchModel") (T := TM) (N := 32) hx hb htx inM tyM tyM_ok nmM hown hK hP hD hS 4 rfl rfl 30 (by decide) (htx _ kw_5_117) (fun _ h9 => h9) rfl (by decide +kernel) rfl rfl (Nat.le_of_ble_eq_true rfl) dM_finish_138 (fun H locs hP hD hS => ?_)
  obtain ⟨hP, hD⟩ : xPD D xcl A [(a1, .inl (cT 5, 8, .inr (.inr (.inr (.inr f40))))), (a2, .inl (cT 1, 8, .inl f42)), (a3, .inl (cT 0, 4096, .inl f44)), (a4, .inl (cT 4, 1024, .inr (.inr (.inr (.inr (va_up f49 0 (some r1))))))), (a0, .inr (5, [v12, .ref a4, .int 1, v13, v14, v15, v16, v17, .int 1, v19, v20, v21, v22, v23, v24, .ref a3, .int 4, .int 4, .int 0, .int 100, v30, v31, v32, v33, .ref a1, .ref a2, v34, v35, v36, v37, .int 1, v39])), (r1, .inr (6, [.int 0, .long 0, .int 0, .int 0, .int 0, .int 1]))] H := ⟨hP, hD⟩
  refine lv_aload_n hx hb dM_finish_141 rfl (lv_at hl 2 rfl) ?_
  refine lv_iconst (v := 2) hx hb dM_finish_142 (by decide) ?_
  refine va_put (D := D) (ci := 5) (v := .int 2) (ty := .int) (C := "ValueBenchModel") (T := TM) (N := 32) hx hb htx inM tyM tyM_ok nmM hown hK hP hD hS 4 rfl rfl 0 (by decide) (htx _ kw_5_87) (fun _ h9 => h9) rfl (by decide +kernel) rfl rfl (Nat.le_of_ble_eq_true rfl) dM_finish_143 (fun H locs hP hD hS => ?_)
  obtain ⟨hP, hD⟩ : xPD D xcl A [(a1, .inl (cT 5, 8, .inr (.inr (.inr (.inr f40))))), (a2, .inl (cT 1, 8, .inl f42)), (a3, .inl (cT 0, 4096, .inl f44)), (a4, .inl (cT 4, 1024, .inr (.inr (.inr (.inr (va_up f49 0 (some r1))))))), (a0, .inr (5, [.int 2, .ref a4, .int 1, v13, v14, v15, v16, v17, .int 1, v19, v20, v21, v22, v23, v24, .ref a3, .int 4, .int 4, .int 0, .int 100, v30, v31, v32, v33, .ref a1, .ref a2, v34, v35, v36, v37, .int 1, v39])), (r1, .inr (6, [.int 0, .long 0, .int 0, .int 0, .int 0, .int 1]))] H := ⟨hP, hD⟩
  refine lv_goto (tgt := 156) hx hb dM_finish_146 (by decide) ?_
  obtain ⟨hP9, hD9⟩ := xsub (wc := [(a0, .inr (5, [.int 2, .ref a4, .int 1, v13, v14, v15, v16, v17, .int 1, v19, v20, v21, v22, v23, v24, .ref a3, .int 4, .int 4, .int 0, .int 100, v30, v31, v32, v33, .ref a1, .ref a2, v34, v35, v36, v37, .int 1, v39])), (a1, .inl (cT 5, 8, .inr (.inr (.inr (.inr f40))))), (a2, .inl (cT 1, 8, .inl f42)), (a3, .inl (cT 0, 4096, .inl f44)), (a4, .inl (cT 4, 1024, .inr (.inr (.inr (.inr (va_up f49 0 (some r1))))))), (r1, .inr (6, [.int 0, .long 0, .int 0, .int 0, .int 0, .int 1]))]) hP hD [4, 0, 1, 2, 3, 5] rfl rfl (by decide)
  refine W.widen (k := 2) (n := 12) (Nat.le_of_ble_eq_true rfl) (Nat.le_of_ble_eq_true rfl) ?_
  exact W.vret hx hb hr (fun t ht hW => ⟨⟨(), rfl, trivial, r1, by rw [ht]; exact hP9, va_K.moved hW.alike hK, hD9⟩, hS.F ht⟩) hS.2.2 dM_finish_156
set_option maxHeartbeats 400000000 in
set_option maxRecDepth 100000 in
theorem cM_one0_14 (l : Launch) (hl9 : l.stackTraces = false) (D : va_G) (cT : Nat → ClassId) (aK aV : Nat → Nat) (sz : Nat) (a0 : Nat) (a1 : Nat) (a2 : Nat) (a3 : Nat) (a4 : Nat) (x5 : Int32) (x10 : Int32) (v15 : Value) (v16 : Value) (v17 : Value) (v18 : Value) (v19 : Value) (v20 : Value) (v21 : Value) (v22 : Value) (v23 : Value) (v24 : Value) (v25 : Value) (v26 : Value) (v27 : Value) (v28 : Value) (v29 : Value) (v30 : Value) (v31 : Value) (v32 : Value) (v33 : Value) (v34 : Value) (v35 : Value) (v36 : Value) (v37 : Value) (v38 : Value) (v39 : Value) (v40 : Value) (v41 : Value) (v42 : Value) (v43 : Value) (f44 : Nat → Option Nat) (f46 : Nat → Int32) (f48 : Nat → Int32) (f53 : Nat → Option Nat) (h6 : ¬ x5 < 0) (h7 : ¬ 7 < x5) (h8 : x5 ≤ 7) (h9 : vp_in x5 8) (h11 : ¬ x10 < 0) (h12 : ¬ 7 < x10) (h13 : x10 ≤ 7) (h14 : vp_in x10 8) (h45 : f44 x10.toNatClampNeg = some a3) (h47 : f46 x10.toNatClampNeg = 4) (h49 : f48 0 = 110) (h50 : f48 1 = 117) (h51 : f48 2 = 108) (h52 : f48 3 = 108) (h54 : f53 0 = none) : xMet l yM_one0 wyM_one0 11 2 12 219 D cT aK aV sz [.ref a0, .int x5, .int 5, .int x10] [(a0, .inr (5, [v15, .ref a4, v16, v17, v18, v19, v20, v21, v22, v23, v24, v25, v26, v27, v28, v29, v30, v31, v32, v33, v34, v35, v36, v37, .ref a1, .ref a2, v38, v39, v40, v41, v42, v43])), (a1, .inl (cT 5, 8, .inr (.inr (.inr (.inr f44))))), (a2, .inl (cT 1, 8, .inl f46)), (a3, .inl (cT 0, 4096, .inl f48)), (a4, .inl (cT 4, 1024, .inr (.inr (.inr (.inr f53)))))] (fun A => va_Qv (fun _ : Unit => True) (fun _ t => ∃ (q3 : Nat), xB D xcl cT A [(a0, .inr (5, [.int 2, .ref a4, .int 1, v17, .int 0, v19, v20, .int 0, .int 1, .int 0, v24, v25, .int 0, v27, v28, .ref a3, .int 4, .int 4, .int 0, .int 100, v34, v35, .int 0, .int 1000000000, .ref a1, .ref a2, v38, v39, v40, v41, .int 1, v43])), (a1, .inl (cT 5, 8, .inr (.inr (.inr (.inr f44))))), (a2, .inl (cT 1, 8, .inl f46)), (a3, .inl (cT 0, 4096, .inl f48)), (a4, .inl (cT 4, 1024, .inr (.inr (.inr (.inr (va_up f53 0 (some q3))))))), (q3, .inr (6, [.int 0, .long 0, .int 0, .int 0, .int 0, .int 1]))] t) A) := by
  refine Met.ofW (cc := prog_13_method_92_code) (maxL := 4) (ret := none) (by decide) rfl ?_
  intro p e s m args below meth c s₁ B hml hv
  obtain ⟨rfl, hsz, hZ, hP, hK, hD0⟩ := hv
  have hx := B.exec
  have hb := B.bytes
  have hr := B.returns
  have hts := atoms_spec (ws := wyM_one0) B.pre
  have htx := fun w h => hts w (List.mem_cons_of_mem _ h)
  have hown : s.vm.findClass "ValueBenchModel" = some m.cls := findClass_of_methodNamed B.named
  have hlocks := B.notSynchronized
  subst hsz
  have hD := hD0.self (sz := s.heap.size)
  generalize hAe : va_A [(a0, .inr (5, [v15, .ref a4, v16, v17, v18, v19, v20, v21, v22, v23, v24, v25, v26, v27, v28, v29, v30, v31, v32, v33, v34, v35, v36, v37, .ref a1, .ref a2, v38, v39, v40, v41, v42, v43])), (a1, .inl (cT 5, 8, .inr (.inr (.inr (.inr f44))))), (a2, .inl (cT 1, 8, .inl f46)), (a3, .inl (cT 0, 4096, .inl f48)), (a4, .inl (cT 4, 1024, .inr (.inr (.inr (.inr f53)))))] s.heap.size = A at hD hZ ⊢
  have hA : ∀ q : Nat, s.heap.size ≤ q → A q := fun q h => by rw [← hAe]; exact Or.inr h
  have hS : va_S A s.heap s.heap [] := va_S.rf
  have hP : va_P D xcl [(a0, .inr (5, [v15, .ref a4, v16, v17, v18, v19, v20, v21, v22, v23, v24, v25, v26, v27, v28, v29, v30, v31, v32, v33, v34, v35, v36, v37, .ref a1, .ref a2, v38, v39, v40, v41, v42, v43])), (a1, .inl (cT 5, 8, .inr (.inr (.inr (.inr f44))))), (a2, .inl (cT 1, 8, .inl f46)), (a3, .inl (cT 0, 4096, .inl f48)), (a4, .inl (cT 4, 1024, .inr (.inr (.inr (.inr f53)))))] s.heap := hP
  have hl := lv_entry ([.ref a0, .int x5, .int 5, .int x10]) (n := 4) (Nat.le_of_ble_eq_true rfl)
  rw [lg_entry_eq]
  generalize (lg_sl ([.ref a0, .int x5, .int 5, .int x10]) ++ List.replicate (4 - (lg_sl ([.ref a0, .int x5, .int 5, .int x10])).length) Slot.unset).toArray = ls at hl ⊢
  have hl : lv_has ls 4 [(0, .ref a0), (1, .int x5), (2, .int 5), (3, .int x10)] := hl
  refine lv_aload_n hx hb dM_one0_0 rfl (lv_at hl 0 rfl) ?_
  obtain ⟨hPc, hDc, hFc⟩ := xcut (wc := [(a0, .inr (5, [v15, .ref a4, v16, v17, v18, v19, v20, v21, v22, v23, v24, v25, v26, v27, v28, v29, v30, v31, v32, v33, v34, v35, v36, v37, .ref a1, .ref a2, v38, v39, v40, v41, v42, v43]))]) hP hD hS hA [0] rfl rfl (by decide)
  refine va_callv (va_runV (C := "ValueBenchModel") (As := []) (rest := []) ⟨hx, hb, hml, hown, htx⟩ (cM_begin_0 l hl9 D cT aK aV s.heap.size a0 v15 (.ref a4) v16 v17 v18 v19 v20 v21 v22 v23 v24 v25 v26 v27 v28 v29 v30 v31 v32 v33 v34 v35 v36 v37 (.ref a1) (.ref a2) v38 v39 v40 v41 v42 v43) ⟨callB_of 0 htx (xw_goodC kw_5_209) rfl rfl rfl (htx _ kw_1_5) (htx _ kw_5_206) ⟨by decide, by decide, by decide +kernel⟩ ⟨Nat.le_of_ble_eq_true rfl, Nat.le_of_ble_eq_true rfl⟩, (htx _ kw_5_208), (htx _ kp_M_begin)⟩ ⟨xPre_blind, va_recv hK hP (ci := 5) rfl (q0 := 0) rfl, (fun U hU hW => ⟨rfl, xPre_of hZ hS hFc hPc hDc hK U hU hW⟩)⟩ rfl rfl hl.1 rfl (lv_room (Nat.le_of_ble_eq_true rfl)) dM_one0_1 ⟨Nat.le_of_ble_eq_true rfl, Nat.le_of_ble_eq_true rfl⟩) hS (fun q _ h => hFc q h) hFc (fun u9 t H1 locs ht hvm hr9 hB hz1 hk1 hS => ?_)
  obtain ⟨hP1, hK1, hD1⟩ := hB
  rw [ht] at hP1
  obtain ⟨hP, hD⟩ := xjoin (W := [(a1, .inl (cT 5, 8, .inr (.inr (.inr (.inr f44))))), (a2, .inl (cT 1, 8, .inl f46)), (a3, .inl (cT 0, 4096, .inl f48)), (a4, .inl (cT 4, 1024, .inr (.inr (.inr (.inr f53))))), (a0, .inr (5, [.int 0, .ref a4, .int 0, v17, .int 0, v19, v20, .int 0, v22, .int 0, v24, v25, .int 0, v27, v28, v29, v30, v31, v32, v33, v34, v35, .int 0, .int 1000000000, .ref a1, .ref a2, v38, v39, v40, v41, v42, v43]))]) hP hD [0] [1, 2, 3, 4] 4 rfl rfl (by decide) (by decide) hk1 hFc hP1 hD1
  generalize H1 = H at hP hS ⊢
  refine lv_aload_n hx hb dM_one0_4 rfl (lv_at hl 0 rfl) ?_
  refine lv_iload_n hx hb dM_one0_5 rfl (lv_at hl 1 rfl) ?_
  obtain ⟨hPc, hDc, hFc⟩ := xcut (wc := []) hP hD hS hA [] rfl rfl (by decide)
  refine va_calli (va_runV (C := "ValueBenchModel") (As := [.int x5]) (rest := []) ⟨hx, hb, hml, hown, htx⟩ (cM_out_2 l hl9 D cT aK aV H.size a0 x5 h6 h7 h8 h9) ⟨callB_of 1 htx (xw_goodC kw_5_217) rfl rfl rfl (htx _ kw_1_5) (htx _ kw_5_214) ⟨by decide, by decide, by decide +kernel⟩ ⟨Nat.le_of_ble_eq_true rfl, Nat.le_of_ble_eq_true rfl⟩, (htx _ kw_5_216), (htx _ kp_M_out)⟩ ⟨xPre_blind, va_recv hK hP (ci := 5) rfl (q0 := 4) rfl, (fun U hU hW => ⟨rfl, xPre_of hZ hS hFc hPc hDc hK U hU hW⟩)⟩ rfl rfl hl.1 rfl (lv_room (Nat.le_of_ble_eq_true rfl)) dM_one0_6 ⟨Nat.le_of_ble_eq_true rfl, Nat.le_of_ble_eq_true rfl⟩) hS (fun q _ h => hFc q h) hFc (fun r1 u9 t H1 locs ht hvm hr9 hB hz1 hk1 hS => ?_)
  obtain ⟨hP1, hK1, hD1⟩ := hB
  rw [ht] at hP1
  obtain ⟨hP, hD⟩ := xjoin (W := [(a1, .inl (cT 5, 8, .inr (.inr (.inr (.inr f44))))), (a2, .inl (cT 1, 8, .inl f46)), (a3, .inl (cT 0, 4096, .inl f48)), (a4, .inl (cT 4, 1024, .inr (.inr (.inr (.inr f53))))), (a0, .inr (5, [.int 0, .ref a4, .int 0, v17, .int 0, v19, v20, .int 0, v22, .int 0, v24, v25, .int 0, v27, v28, v29, v30, v31, v32, v33, v34, v35, .int 0, .int 1000000000, .ref a1, .ref a2, v38, v39, v40, v41, v42, v43]))]) hP hD [] [0, 1, 2, 3, 4] 5 rfl rfl (by decide) (by decide) hk1 hFc hP1 hD1
  generalize H1 = H at hP hS ⊢
  rw [hr9]
  refine W.eq (g2 := F0 m 9 ls [.int 0]) rfl ?_
  refine lv_if_ne (tgt := 30) hx hb dM_one0_9 (by decide) (fun h => ((by revert h; decide : False)).elim) (fun _ => ?_)
  refine lv_iload_n hx hb dM_one0_12 rfl (lv_at hl 2 rfl) ?_
  refine lv_if_lt (tgt := 30) hx hb dM_one0_13 (by decide) (fun h => ((by revert h; decide : False)).elim) (fun _ => ?_)
  refine lv_iload_n hx hb dM_one0_16 rfl (lv_at hl 2 rfl) ?_
  refine lv_bipush (v := 13) hx hb dM_one0_17 (by decide) ?_
  refine lv_icmp_gt (tgt := 30) hx hb dM_one0_19 (by decide) (fun h => ((by revert h; decide : False)).elim) (fun _ => ?_)
  refine lv_aload_n hx hb dM_one0_22 rfl (lv_at hl 0 rfl) ?_
  refine lv_iload_n hx hb dM_one0_23 rfl (lv_at hl 3 rfl) ?_
  obtain ⟨hPc, hDc, hFc⟩ := xcut (wc := []) hP hD hS hA [] rfl rfl (by decide)
  refine va_calli (va_runV (C := "ValueBenchModel") (As := [.int x10]) (rest := []) ⟨hx, hb, hml, hown, htx⟩ (cM_out_2 l hl9 D cT aK aV H.size a0 x10 h11 h12 h13 h14) ⟨callB_of 1 htx (xw_goodC kw_5_217) rfl rfl rfl (htx _ kw_1_5) (htx _ kw_5_214) ⟨by decide, by decide, by decide +kernel⟩ ⟨Nat.le_of_ble_eq_true rfl, Nat.le_of_ble_eq_true rfl⟩, (htx _ kw_5_216), (htx _ kp_M_out)⟩ ⟨xPre_blind, va_recv hK hP (ci := 5) rfl (q0 := 4) rfl, (fun U hU hW => ⟨rfl, xPre_of hZ hS hFc hPc hDc hK U hU hW⟩)⟩ rfl rfl hl.1 rfl (lv_room (Nat.le_of_ble_eq_true rfl)) dM_one0_24 ⟨Nat.le_of_ble_eq_true rfl, Nat.le_of_ble_eq_true rfl⟩) hS (fun q _ h => hFc q h) hFc (fun r2 u9 t H1 locs ht hvm hr9 hB hz1 hk1 hS => ?_)
  obtain ⟨hP1, hK1, hD1⟩ := hB
  rw [ht] at hP1
  obtain ⟨hP, hD⟩ := xjoin (W := [(a1, .inl (cT 5, 8, .inr (.inr (.inr (.inr f44))))), (a2, .inl (cT 1, 8, .inl f46)), (a3, .inl (cT 0, 4096, .inl f48)), (a4, .inl (cT 4, 1024, .inr (.inr (.inr (.inr f53))))), (a0, .inr (5, [.int 0, .ref a4, .int 0, v17, .int 0, v19, v20, .int 0, v22, .int 0, v24, v25, .int 0, v27, v28, v29, v30, v31, v32, v33, v34, v35, .int 0, .int 1000000000, .ref a1, .ref a2, v38, v39, v40, v41, v42, v43]))]) hP hD [] [0, 1, 2, 3, 4] 5 rfl rfl (by decide) (by decide) hk1 hFc hP1 hD1
  generalize H1 = H at hP hS ⊢
  rw [hr9]
  refine W.eq (g2 := F0 m 27 ls [.int 0]) rfl ?_
  refine lv_if_eq (tgt := 38) hx hb dM_one0_27 (by decide) (fun _ => ?_) (fun h => ((by revert h; decide : False)).elim)
  refine lv_aload_n hx hb dM_one0_38 rfl (lv_at hl 0 rfl) ?_
  refine lv_iload_n hx hb dM_one0_39 rfl (lv_at hl 1 rfl) ?_
  refine lv_iconst (v := 1) hx hb dM_one0_40 (by decide) ?_
  refine lv_iload_n hx hb dM_one0_41 rfl (lv_at hl 2 rfl) ?_
  refine lv_iload_n hx hb dM_one0_42 rfl (lv_at hl 3 rfl) ?_
  refine lv_iload_n hx hb dM_one0_43 rfl (lv_at hl 3 rfl) ?_
  obtain ⟨hPc, hDc, hFc⟩ := xcut (wc := [(a0, .inr (5, [.int 0, .ref a4, .int 0, v17, .int 0, v19, v20, .int 0, v22, .int 0, v24, v25, .int 0, v27, v28, v29, v30, v31, v32, v33, v34, v35, .int 0, .int 1000000000, .ref a1, .ref a2, v38, v39, v40, v41, v42, v43])), (a1, .inl (cT 5, 8, .inr (.inr (.inr (.inr f44))))), (a2, .inl (cT 1, 8, .inl f46)), (a3, .inl (cT 0, 4096, .inl f48)), (a4, .inl (cT 4, 1024, .inr (.inr (.inr (.inr f53)))))]) hP hD hS hA [4, 0, 1, 2, 3] rfl rfl (by decide)
  refine va_callv (vx_runVW (C := "ValueBenchModel") (As := [.int x5, .int 1, .int 5, .int x10, .int x10]) (rest := []) ⟨hx, hb, hml, hown, htx⟩ (cM_finish_21 l hl9 D cT aK aV H.size a0 a1 a2 a3 a4 x5 x10 x10 (.int 0) v17 (.int 0) v19 v20 (.int 0) v22 (.int 0) v24 v25 (.int 0) v27 v28 v29 v30 v31 v32 v33 v34 v35 (.int 0) (.int 1000000000) v38 v39 v40 v41 v42 v43 f44 f46 f48 f53 h11 h12 h13 h14 (by first | rfl | exact h45 | exact h47 | exact h49 | exact h50 | exact h51 | exact h52 | exact h54) (by first | rfl | exact h45 | exact h47 | exact h49 | exact h50 | exact h51 | exact h52 | exact h54) (by first | rfl | exact h45 | exact h47 | exact h49 | exact h50 | exact h51 | exact h52 | exact h54) (by first | rfl | exact h45 | exact h47 | exact h49 | exact h50 | exact h51 | exact h52 | exact h54) (by first | rfl | exact h45 | exact h47 | exact h49 | exact h50 | exact h51 | exact h52 | exact h54) (by first | rfl | exact h45 | exact h47 | exact h49 | exact h50 | exact h51 | exact h52 | exact h54) (by first | rfl | exact h45 | exact h47 | exact h49 | exact h50 | exact h51 | exact h52 | exact h54)) (xcVW 5 htx (xw_goodC kw_6_195) rfl rfl rfl (htx _ kw_1_5) (htx _ kw_6_192) ⟨by decide, by decide, by decide +kernel⟩ ⟨Nat.le_of_ble_eq_true rfl, Nat.le_of_ble_eq_true rfl⟩ (htx _ kw_6_194) (htx _ kp_M_finish)) ⟨xPre_blind, va_recv hK hP (ci := 5) rfl (q0 := 4) rfl, (fun U hU hW => ⟨rfl, xPre_of hZ hS hFc hPc hDc hK U hU hW⟩)⟩ rfl rfl hl.1 rfl (lv_room (Nat.le_of_ble_eq_true rfl)) dM_one0_44 ⟨Nat.le_of_ble_eq_true rfl, Nat.le_of_ble_eq_true rfl⟩) hS (fun q _ h => hFc q h) hFc (fun u9 t H1 locs ht hvm hr9 hB hz1 hk1 hS => ?_)
  obtain ⟨q3, hP1, hK1, hD1⟩ := hB
  rw [ht] at hP1
  obtain ⟨hP, hD⟩ := xjoin (W := [(a0, .inr (5, [.int 2, .ref a4, .int 1, v17, .int 0, v19, v20, .int 0, .int 1, .int 0, v24, v25, .int 0, v27, v28, .ref a3, .int 4, .int 4, .int 0, .int 100, v34, v35, .int 0, .int 1000000000, .ref a1, .ref a2, v38, v39, v40, v41, .int 1, v43])), (a1, .inl (cT 5, 8, .inr (.inr (.inr (.inr f44))))), (a2, .inl (cT 1, 8, .inl f46)), (a3, .inl (cT 0, 4096, .inl f48)), (a4, .inl (cT 4, 1024, .inr (.inr (.inr (.inr (va_up f53 0 (some q3))))))), (q3, .inr (6, [.int 0, .long 0, .int 0, .int 0, .int 0, .int 1]))]) hP hD [4, 0, 1, 2, 3] [] 0 rfl rfl (by decide) (by decide) hk1 hFc hP1 hD1
  generalize H1 = H at hP hS ⊢
  obtain ⟨hP9, hD9⟩ := xsub (wc := [(a0, .inr (5, [.int 2, .ref a4, .int 1, v17, .int 0, v19, v20, .int 0, .int 1, .int 0, v24, v25, .int 0, v27, v28, .ref a3, .int 4, .int 4, .int 0, .int 100, v34, v35, .int 0, .int 1000000000, .ref a1, .ref a2, v38, v39, v40, v41, .int 1, v43])), (a1, .inl (cT 5, 8, .inr (.inr (.inr (.inr f44))))), (a2, .inl (cT 1, 8, .inl f46)), (a3, .inl (cT 0, 4096, .inl f48)), (a4, .inl (cT 4, 1024, .inr (.inr (.inr (.inr (va_up f53 0 (some q3))))))), (q3, .inr (6, [.int 0, .long 0, .int 0, .int 0, .int 0, .int 1]))]) hP hD [0, 1, 2, 3, 4, 5] rfl rfl (by decide)
  refine W.widen (k := 2) (n := 12) (Nat.le_of_ble_eq_true rfl) (Nat.le_of_ble_eq_true rfl) ?_
  exact W.vret hx hb hr (fun t ht hW => ⟨⟨(), rfl, trivial, q3, by rw [ht]; exact hP9, va_K.moved hW.alike hK, hD9⟩, hS.F ht⟩) hS.2.2 dM_one0_47
set_option maxHeartbeats 400000000 in
set_option maxRecDepth 100000 in
theorem cB_isWithin_20 (l : Launch) (hl9 : l.stackTraces = false) (D : va_G) (cT : Nat → ClassId) (aK aV : Nat → Nat) (sz : Nat) : xMet l yB_isWithin wyB_isWithin 0 0 0 0 D cT aK aV sz [.int 6, .int 13] [] (fun A => va_Qi (fun (r : Int32) (_ : Unit) => r = 1) (fun _ t => xB D xcl cT A [] t) A) := by
  refine Met.ofW (cc := prog_1_method_15_code) (maxL := 2) (ret := (some .boolean)) (by decide) rfl ?_
  intro p e s m args below meth c s₁ B hml hv
  obtain ⟨rfl, hsz, hZ, hP, hK, hD0⟩ := hv
  have hx := B.exec
  have hb := B.bytes
  have hr := B.returns
  have hts := atoms_spec (ws := wyB_isWithin) B.pre
  have htx := fun w h => hts w (List.mem_cons_of_mem _ h)
  have hown : s.vm.findClass "ValueBench" = some m.cls := findClass_of_methodNamed B.named
  have hlocks := B.notSynchronized
  subst hsz
  have hD := hD0.self (sz := s.heap.size)
  generalize hAe : va_A [] s.heap.size = A at hD hZ ⊢
  have hA : ∀ q : Nat, s.heap.size ≤ q → A q := fun q h => by rw [← hAe]; exact Or.inr h
  have hS : va_S A s.heap s.heap [] := va_S.rf
  have hP : va_P D xcl [] s.heap := hP
  have hl := lv_entry ([.int 6, .int 13]) (n := 2) (Nat.le_of_ble_eq_true rfl)
  rw [lg_entry_eq]
  generalize (lg_sl ([.int 6, .int 13]) ++ List.replicate (2 - (lg_sl ([.int 6, .int 13])).length) Slot.unset).toArray = ls at hl ⊢
  have hl : lv_has ls 2 [(0, .int 6), (1, .int 13)] := hl
  refine lv_iload_n hx hb dB_isWithin_0 rfl (lv_at hl 0 rfl) ?_
  refine lv_if_lt (tgt := 13) hx hb dB_isWithin_1 (by decide) (fun h => ((by revert h; decide : False)).elim) (fun _ => ?_)
  refine lv_iload_n hx hb dB_isWithin_4 rfl (lv_at hl 0 rfl) ?_
  refine lv_iload_n hx hb dB_isWithin_5 rfl (lv_at hl 1 rfl) ?_
  refine lv_icmp_gt (tgt := 13) hx hb dB_isWithin_6 (by decide) (fun h => ((by revert h; decide : False)).elim) (fun _ => ?_)
  refine lv_iconst (v := 1) hx hb dB_isWithin_9 (by decide) ?_
  refine lv_goto (tgt := 14) hx hb dB_isWithin_10 (by decide) ?_
  obtain ⟨hP9, hD9⟩ := xsub (wc := []) hP hD [] rfl rfl (by decide)
  refine W.widen (k := 0) (n := 0) (Nat.le_of_ble_eq_true rfl) (Nat.le_of_ble_eq_true rfl) ?_
  exact W.zret (v := 1) hx hb hr rfl (fun t ht hW => ⟨⟨1, (), rfl, rfl, by rw [ht]; exact hP9, va_K.moved hW.alike hK, hD9⟩, hS.F ht⟩) hS.2.2 dB_isWithin_14
set_option maxHeartbeats 400000000 in
set_option maxRecDepth 100000 in
theorem cG_apply_6 (l : Launch) (hl9 : l.stackTraces = false) (D : va_G) (cT : Nat → ClassId) (aK aV : Nat → Nat) (sz : Nat) (a0 : Nat) (a1 : Nat) (a2 : Nat) (a3 : Nat) (a4 : Nat) (a5 : Nat) (b6 : Nat) (v7 : Value) (v8 : Value) (v9 : Value) (f10 : Nat → Int64) (f12 : Nat → Int32) (f13 : Nat → Int64) (h11 : f10 0 = 0) : xMet l yG_apply wyG_apply 7 0 0 152 D cT aK aV sz [.int 6, .ref a1, .ref a0, .ref b6, .ref a4] [(a0, .inr (1, [.ref a3, v7, v8])), (a1, .inr (2, [.ref a2, .int 1, v9])), (a2, .inl (cT 2, 4096, .inr (.inl f10))), (a3, .inl (cT 0, 4096, .inl f12)), (a4, .inr (2, [.ref a5, .int 0, .int 0])), (a5, .inl (cT 2, 4096, .inr (.inl f13)))] (fun A => va_Qi (fun (r : Int32) (_ : Unit) => r = 0) (fun _ t => xB D xcl cT A [(a0, .inr (1, [.ref a3, .int 4, .int 0])), (a1, .inr (2, [.ref a2, .int 1, v9])), (a2, .inl (cT 2, 4096, .inr (.inl f10))), (a3, .inl (cT 0, 4096, .inl (upd (upd (upd (upd f12 0 110) 1 117) 2 108) 3 108))), (a4, .inr (2, [.ref a5, .int 5, .int 0])), (a5, .inl (cT 2, 4096, .inr (.inl (vp_updL (vp_updL (vp_updL (vp_updL (vp_updL (vp_updL f13 0 0) 1 110) 2 117) 3 108) 4 108) 0 2621476))))] t) A) := by
  refine Met.ofW (cc := prog_9_method_2_code) (maxL := 5) (ret := (some .int)) (by decide) rfl ?_
  intro p e s m args below meth c s₁ B hml hv
  obtain ⟨rfl, hsz, hZ, hP, hK, hD0⟩ := hv
  have hx := B.exec
  have hb := B.bytes
  have hr := B.returns
  have hts := atoms_spec (ws := wyG_apply) B.pre
  have htx := fun w h => hts w (List.mem_cons_of_mem _ h)
  have hown : s.vm.findClass "ValueBench$Singles" = some m.cls := findClass_of_methodNamed B.named
  have hlocks := B.notSynchronized
  subst hsz
  have hD := hD0.self (sz := s.heap.size)
  generalize hAe : va_A [(a0, .inr (1, [.ref a3, v7, v8])), (a1, .inr (2, [.ref a2, .int 1, v9])), (a2, .inl (cT 2, 4096, .inr (.inl f10))), (a3, .inl (cT 0, 4096, .inl f12)), (a4, .inr (2, [.ref a5, .int 0, .int 0])), (a5, .inl (cT 2, 4096, .inr (.inl f13)))] s.heap.size = A at hD hZ ⊢
  have hA : ∀ q : Nat, s.heap.size ≤ q → A q := fun q h => by rw [← hAe]; exact Or.inr h
  have hS : va_S A s.heap s.heap [] := va_S.rf
  have hP : va_P D xcl [(a0, .inr (1, [.ref a3, v7, v8])), (a1, .inr (2, [.ref a2, .int 1, v9])), (a2, .inl (cT 2, 4096, .inr (.inl f10))), (a3, .inl (cT 0, 4096, .inl f12)), (a4, .inr (2, [.ref a5, .int 0, .int 0])), (a5, .inl (cT 2, 4096, .inr (.inl f13)))] s.heap := hP
  have hl := lv_entry ([.int 6, .ref a1, .ref a0, .ref b6, .ref a4]) (n := 5) (Nat.le_of_ble_eq_true rfl)
  rw [lg_entry_eq]
  generalize (lg_sl ([.int 6, .ref a1, .ref a0, .ref b6, .ref a4]) ++ List.replicate (5 - (lg_sl ([.int 6, .ref a1, .ref a0, .ref b6, .ref a4])).length) Slot.unset).toArray = ls at hl ⊢
  have hl : lv_has ls 5 [(0, .int 6), (1, .ref a1), (2, .ref a0), (3, .ref b6), (4, .ref a4)] := hl
  refine lv_iload_n hx hb dG_apply_0 rfl (lv_at hl 0 rfl) ?_
  refine lv_tableIn (off := 172) (tgt := 173) hx hb dG_apply_1 (by decide) (by decide) (by decide) (by decide) ?_
  refine lv_aload_n hx hb dG_apply_173 rfl (lv_at hl 1 rfl) ?_
  refine lv_aload_n hx hb dG_apply_174 rfl (lv_at hl 2 rfl) ?_
  refine lv_aload hx hb dG_apply_175 (lv_at hl 4 rfl) ?_
  obtain ⟨hPc, hDc, hFc⟩ := xcut (wc := [(a0, .inr (1, [.ref a3, v7, v8])), (a1, .inr (2, [.ref a2, .int 1, v9])), (a2, .inl (cT 2, 4096, .inr (.inl f10))), (a3, .inl (cT 0, 4096, .inl f12)), (a4, .inr (2, [.ref a5, .int 0, .int 0])), (a5, .inl (cT 2, 4096, .inr (.inl f13)))]) hP hD hS hA [0, 1, 2, 3, 4, 5] rfl rfl (by decide)
  refine va_calli (va_runS (As := [.ref a1, .ref a0, .ref a4]) (rest := []) ⟨hx, hb, hml, hown, htx⟩ (cG_printed_0 l hl9 D cT aK aV s.heap.size a0 a1 a2 a3 a4 a5 v7 v8 v9 f10 f12 f13 (by first | rfl | exact h11)) ⟨callB_of 3 htx (xw_goodC kw_4_80) rfl rfl rfl (htx _ kw_1_26) (htx _ kw_4_78) ⟨by decide, by decide, by decide +kernel⟩ ⟨Nat.le_of_ble_eq_true rfl, Nat.le_of_ble_eq_true rfl⟩, htx _ kw_4_79⟩ ⟨xPre_blind, (fun U hU hW => ⟨rfl, xPre_of hZ hS hFc hPc hDc hK U hU hW⟩)⟩ rfl rfl hl.1 rfl (lv_room (Nat.le_of_ble_eq_true rfl)) dG_apply_177 ⟨Nat.le_of_ble_eq_true rfl, Nat.le_of_ble_eq_true rfl⟩) hS (fun q _ h => hFc q h) hFc (fun r1 u9 t H1 locs ht hvm hr9 hB hz1 hk1 hS => ?_)
  obtain ⟨hP1, hK1, hD1⟩ := hB
  rw [ht] at hP1
  obtain ⟨hP, hD⟩ := xjoin (W := [(a0, .inr (1, [.ref a3, .int 4, .int 0])), (a1, .inr (2, [.ref a2, .int 1, v9])), (a2, .inl (cT 2, 4096, .inr (.inl f10))), (a3, .inl (cT 0, 4096, .inl (upd (upd (upd (upd f12 0 110) 1 117) 2 108) 3 108))), (a4, .inr (2, [.ref a5, .int 5, .int 0])), (a5, .inl (cT 2, 4096, .inr (.inl (vp_updL (vp_updL (vp_updL (vp_updL (vp_updL (vp_updL f13 0 0) 1 110) 2 117) 3 108) 4 108) 0 2621476))))]) hP hD [0, 1, 2, 3, 4, 5] [] 0 rfl rfl (by decide) (by decide) hk1 hFc hP1 hD1
  generalize H1 = H at hP hS ⊢
  rw [hr9]
  refine W.eq (g2 := F0 m 180 ls [.int 0]) rfl ?_
  obtain ⟨hP9, hD9⟩ := xsub (wc := [(a0, .inr (1, [.ref a3, .int 4, .int 0])), (a1, .inr (2, [.ref a2, .int 1, v9])), (a2, .inl (cT 2, 4096, .inr (.inl f10))), (a3, .inl (cT 0, 4096, .inl (upd (upd (upd (upd f12 0 110) 1 117) 2 108) 3 108))), (a4, .inr (2, [.ref a5, .int 5, .int 0])), (a5, .inl (cT 2, 4096, .inr (.inl (vp_updL (vp_updL (vp_updL (vp_updL (vp_updL (vp_updL f13 0 0) 1 110) 2 117) 3 108) 4 108) 0 2621476))))]) hP hD [0, 1, 2, 3, 4, 5] rfl rfl (by decide)
  refine W.widen (k := 0) (n := 0) (Nat.le_of_ble_eq_true rfl) (Nat.le_of_ble_eq_true rfl) ?_
  exact W.iret (v := 0) hx hb hr (fun t ht hW => ⟨⟨0, (), rfl, rfl, by rw [ht]; exact hP9, va_K.moved hW.alike hK, hD9⟩, hS.F ht⟩) hS.2.2 dG_apply_180
set_option maxHeartbeats 400000000 in
set_option maxRecDepth 100000 in
theorem cB_one_12 (l : Launch) (hl9 : l.stackTraces = false) (D : va_G) (cT : Nat → ClassId) (aK aV : Nat → Nat) (sz : Nat) (a0 : Nat) (a1 : Nat) (a2 : Nat) (a3 : Nat) (a4 : Nat) (a5 : Nat) (a6 : Nat) (a7 : Nat) (x8 : Int32) (x13 : Int32) (v18 : Value) (v19 : Value) (b20 : Nat) (v21 : Value) (v22 : Value) (v23 : Value) (v24 : Value) (f25 : Nat → Option Nat) (b27 : Nat) (v29 : Value) (v30 : Value) (v31 : Value) (f32 : Nat → Int64) (f34 : Nat → Int32) (f35 : Nat → Int64) (h9 : ¬ x8 < 0) (h10 : ¬ 7 < x8) (h11 : x8 ≤ 7) (h12 : vp_in x8 8) (h14 : ¬ x13 < 0) (h15 : ¬ 7 < x13) (h16 : x13 ≤ 7) (h17 : vp_in x13 8) (h26 : f25 x13.toNatClampNeg = some a4) (h28 : f25 x8.toNatClampNeg = some b27) (h33 : f32 0 = 0) : xMet l yB_one wyB_one 8 0 0 176 D cT aK aV sz [.ref a0, .int x8, .int 6, .int x13] [(a0, .inr (0, [v18, v19, .ref a3, .ref a2, .ref b20, .ref a1, v21, v22])), (a1, .inr (2, [.ref a7, v23, v24])), (a2, .inl (cT 3, 8, .inr (.inr (.inr (.inr f25))))), (a3, .inr (1, [.ref a6, v29, v30])), (a4, .inr (2, [.ref a5, .int 1, v31])), (a5, .inl (cT 2, 4096, .inr (.inl f32))), (a6, .inl (cT 0, 4096, .inl f34)), (a7, .inl (cT 2, 4096, .inr (.inl f35)))] (fun A => va_Qv (fun _ : Unit => True) (fun _ t => ∃ (y6 : Int32) (y7 : Int32) (y8 : Int32) (y9 : Int32) (y10 : Int32) (y11 : Int32), xB D xcl cT A [(a0, .inr (0, [v18, v19, .ref a3, .ref a2, .ref b20, .ref b27, v21, v22])), (a1, .inr (2, [.ref a7, .int 5, .int 0])), (a2, .inl (cT 3, 8, .inr (.inr (.inr (.inr (va_up f25 x8.toNatClampNeg (some a1))))))), (a3, .inr (1, [.ref a6, .int 6, .int 0])), (a4, .inr (2, [.ref a5, .int 1, v31])), (a5, .inl (cT 2, 4096, .inr (.inl f32))), (a6, .inl (cT 0, 4096, .inl (upd (upd (upd (upd (upd (upd (upd (upd (upd (upd f34 0 110) 1 117) 2 108) 3 108) 0 (vp_nar .byte y6)) 1 (vp_nar .byte y7)) 2 (vp_nar .byte y8)) 3 (vp_nar .byte y9)) 4 (vp_nar .byte y10)) 5 (vp_nar .byte y11)))), (a7, .inl (cT 2, 4096, .inr (.inl (vp_updL (vp_updL (vp_updL (vp_updL (vp_updL (vp_updL f35 0 0) 1 110) 2 117) 3 108) 4 108) 0 2621476))))] t) A) := by
  refine Met.ofW (cc := prog_1_method_9_code) (maxL := 4) (ret := none) (by decide) rfl ?_
  intro p e s m args below meth c s₁ B hml hv
  obtain ⟨rfl, hsz, hZ, hP, hK, hD0⟩ := hv
  have hx := B.exec
  have hb := B.bytes
  have hr := B.returns
  have hts := atoms_spec (ws := wyB_one) B.pre
  have htx := fun w h => hts w (List.mem_cons_of_mem _ h)
  have hown : s.vm.findClass "ValueBench" = some m.cls := findClass_of_methodNamed B.named
  have hlocks := B.notSynchronized
  subst hsz
  have hD := hD0.self (sz := s.heap.size)
  generalize hAe : va_A [(a0, .inr (0, [v18, v19, .ref a3, .ref a2, .ref b20, .ref a1, v21, v22])), (a1, .inr (2, [.ref a7, v23, v24])), (a2, .inl (cT 3, 8, .inr (.inr (.inr (.inr f25))))), (a3, .inr (1, [.ref a6, v29, v30])), (a4, .inr (2, [.ref a5, .int 1, v31])), (a5, .inl (cT 2, 4096, .inr (.inl f32))), (a6, .inl (cT 0, 4096, .inl f34)), (a7, .inl (cT 2, 4096, .inr (.inl f35)))] s.heap.size = A at hD hZ ⊢
  have hA : ∀ q : Nat, s.heap.size ≤ q → A q := fun q h => by rw [← hAe]; exact Or.inr h
  have hS : va_S A s.heap s.heap [] := va_S.rf
  have hP : va_P D xcl [(a0, .inr (0, [v18, v19, .ref a3, .ref a2, .ref b20, .ref a1, v21, v22])), (a1, .inr (2, [.ref a7, v23, v24])), (a2, .inl (cT 3, 8, .inr (.inr (.inr (.inr f25))))), (a3, .inr (1, [.ref a6, v29, v30])), (a4, .inr (2, [.ref a5, .int 1, v31])), (a5, .inl (cT 2, 4096, .inr (.inl f32))), (a6, .inl (cT 0, 4096, .inl f34)), (a7, .inl (cT 2, 4096, .inr (.inl f35)))] s.heap := hP
  have hl := lv_entry ([.ref a0, .int x8, .int 6, .int x13]) (n := 4) (Nat.le_of_ble_eq_true rfl)
  rw [lg_entry_eq]
  generalize (lg_sl ([.ref a0, .int x8, .int 6, .int x13]) ++ List.replicate (4 - (lg_sl ([.ref a0, .int x8, .int 6, .int x13])).length) Slot.unset).toArray = ls at hl ⊢
  have hl : lv_has ls 4 [(0, .ref a0), (1, .int x8), (2, .int 6), (3, .int x13)] := hl
  refine lv_iload_n hx hb dB_one_0 rfl (lv_at hl 1 rfl) ?_
  obtain ⟨hPc, hDc, hFc⟩ := xcut (wc := []) hP hD hS hA [] rfl rfl (by decide)
  refine va_calli (va_runS (As := [.int x8]) (rest := []) ⟨hx, hb, hml, hown, htx⟩ (cB_isRegister_2 l hl9 D cT aK aV s.heap.size x8 h9 h10 h11 h12) ⟨callB_of 1 htx (xw_goodC kw_2_18) rfl rfl rfl (htx _ kw_1_1) (htx _ kw_2_16) ⟨by decide, by decide, by decide +kernel⟩ ⟨Nat.le_of_ble_eq_true rfl, Nat.le_of_ble_eq_true rfl⟩, htx _ kw_2_17⟩ ⟨xPre_blind, (fun U hU hW => ⟨rfl, xPre_of hZ hS hFc hPc hDc hK U hU hW⟩)⟩ rfl rfl hl.1 rfl (lv_room (Nat.le_of_ble_eq_true rfl)) dB_one_1 ⟨Nat.le_of_ble_eq_true rfl, Nat.le_of_ble_eq_true rfl⟩) hS (fun q _ h => hFc q h) hFc (fun r1 u9 t H1 locs ht hvm hr9 hB hz1 hk1 hS => ?_)
  obtain ⟨hP1, hK1, hD1⟩ := hB
  rw [ht] at hP1
  obtain ⟨hP, hD⟩ := xjoin (W := [(a0, .inr (0, [v18, v19, .ref a3, .ref a2, .ref b20, .ref a1, v21, v22])), (a1, .inr (2, [.ref a7, v23, v24])), (a2, .inl (cT 3, 8, .inr (.inr (.inr (.inr f25))))), (a3, .inr (1, [.ref a6, v29, v30])), (a4, .inr (2, [.ref a5, .int 1, v31])), (a5, .inl (cT 2, 4096, .inr (.inl f32))), (a6, .inl (cT 0, 4096, .inl f34)), (a7, .inl (cT 2, 4096, .inr (.inl f35)))]) hP hD [] [0, 1, 2, 3, 4, 5, 6, 7] 8 rfl rfl (by decide) (by decide) hk1 hFc hP1 hD1
  generalize H1 = H at hP hS ⊢
  rw [hr9]
  refine W.eq (g2 := F0 m 4 ls [.int 1]) rfl ?_
  refine lv_if_eq (tgt := 27) hx hb dB_one_4 (by decide) (fun h => ((by revert h; decide : False)).elim) (fun _ => ?_)
  refine lv_iload_n hx hb dB_one_7 rfl (lv_at hl 2 rfl) ?_
  refine lv_bipush (v := 13) hx hb dB_one_8 (by decide) ?_
  obtain ⟨hPc, hDc, hFc⟩ := xcut (wc := []) hP hD hS hA [] rfl rfl (by decide)
  refine va_calli (va_runS (As := [.int 6, .int 13]) (rest := []) ⟨hx, hb, hml, hown, htx⟩ (cB_isWithin_20 l hl9 D cT aK aV H.size) ⟨callB_of 2 htx (xw_goodC kw_1_218) rfl rfl rfl (htx _ kw_1_1) (htx _ kw_1_216) ⟨by decide, by decide, by decide +kernel⟩ ⟨Nat.le_of_ble_eq_true rfl, Nat.le_of_ble_eq_true rfl⟩, htx _ kw_1_217⟩ ⟨xPre_blind, (fun U hU hW => ⟨rfl, xPre_of hZ hS hFc hPc hDc hK U hU hW⟩)⟩ rfl rfl hl.1 rfl (lv_room (Nat.le_of_ble_eq_true rfl)) dB_one_10 ⟨Nat.le_of_ble_eq_true rfl, Nat.le_of_ble_eq_true rfl⟩) hS (fun q _ h => hFc q h) hFc (fun r2 u9 t H1 locs ht hvm hr9 hB hz1 hk1 hS => ?_)
  obtain ⟨hP1, hK1, hD1⟩ := hB
  rw [ht] at hP1
  obtain ⟨hP, hD⟩ := xjoin (W := [(a0, .inr (0, [v18, v19, .ref a3, .ref a2, .ref b20, .ref a1, v21, v22])), (a1, .inr (2, [.ref a7, v23, v24])), (a2, .inl (cT 3, 8, .inr (.inr (.inr (.inr f25))))), (a3, .inr (1, [.ref a6, v29, v30])), (a4, .inr (2, [.ref a5, .int 1, v31])), (a5, .inl (cT 2, 4096, .inr (.inl f32))), (a6, .inl (cT 0, 4096, .inl f34)), (a7, .inl (cT 2, 4096, .inr (.inl f35)))]) hP hD [] [0, 1, 2, 3, 4, 5, 6, 7] 8 rfl rfl (by decide) (by decide) hk1 hFc hP1 hD1
  generalize H1 = H at hP hS ⊢
  rw [hr9]
  refine W.eq (g2 := F0 m 13 ls [.int 1]) rfl ?_
  refine lv_if_eq (tgt := 27) hx hb dB_one_13 (by decide) (fun h => ((by revert h; decide : False)).elim) (fun _ => ?_)
  refine lv_iload_n hx hb dB_one_16 rfl (lv_at hl 3 rfl) ?_
  obtain ⟨hPc, hDc, hFc⟩ := xcut (wc := []) hP hD hS hA [] rfl rfl (by decide)
  refine va_calli (va_runS (As := [.int x13]) (rest := []) ⟨hx, hb, hml, hown, htx⟩ (cB_isRegister_2 l hl9 D cT aK aV H.size x13 h14 h15 h16 h17) ⟨callB_of 1 htx (xw_goodC kw_2_18) rfl rfl rfl (htx _ kw_1_1) (htx _ kw_2_16) ⟨by decide, by decide, by decide +kernel⟩ ⟨Nat.le_of_ble_eq_true rfl, Nat.le_of_ble_eq_true rfl⟩, htx _ kw_2_17⟩ ⟨xPre_blind, (fun U hU hW => ⟨rfl, xPre_of hZ hS hFc hPc hDc hK U hU hW⟩)⟩ rfl rfl hl.1 rfl (lv_room (Nat.le_of_ble_eq_true rfl)) dB_one_17 ⟨Nat.le_of_ble_eq_true rfl, Nat.le_of_ble_eq_true rfl⟩) hS (fun q _ h => hFc q h) hFc (fun r3 u9 t H1 locs ht hvm hr9 hB hz1 hk1 hS => ?_)
  obtain ⟨hP1, hK1, hD1⟩ := hB
  rw [ht] at hP1
  obtain ⟨hP, hD⟩ := xjoin (W := [(a0, .inr (0, [v18, v19, .ref a3, .ref a2, .ref b20, .ref a1, v21, v22])), (a1, .inr (2, [.ref a7, v23, v24])), (a2, .inl (cT 3, 8, .inr (.inr (.inr (.inr f25))))), (a3, .inr (1, [.ref a6, v29, v30])), (a4, .inr (2, [.ref a5, .int 1, v31])), (a5, .inl (cT 2, 4096, .inr (.inl f32))), (a6, .inl (cT 0, 4096, .inl f34)), (a7, .inl (cT 2, 4096, .inr (.inl f35)))]) hP hD [] [0, 1, 2, 3, 4, 5, 6, 7] 8 rfl rfl (by decide) (by decide) hk1 hFc hP1 hD1
  generalize H1 = H at hP hS ⊢
  rw [hr9]
  refine W.eq (g2 := F0 m 20 ls [.int 1]) rfl ?_
  refine lv_if_eq (tgt := 27) hx hb dB_one_20 (by decide) (fun h => ((by revert h; decide : False)).elim) (fun _ => ?_)
  refine lv_iconst (v := 1) hx hb dB_one_23 (by decide) ?_
  refine lv_goto (tgt := 28) hx hb dB_one_24 (by decide) ?_
  obtain ⟨hPc, hDc, hFc⟩ := xcut (wc := []) hP hD hS hA [] rfl rfl (by decide)
  refine va_callv (va_runS (As := [.int 1]) (rest := []) ⟨hx, hb, hml, hown, htx⟩ (cB_demand_1 l hl9 D cT aK aV H.size) ⟨callB_of 1 htx (xw_goodC kw_1_221) rfl rfl rfl (htx _ kw_1_1) (htx _ kw_1_219) ⟨by decide, by decide, by decide +kernel⟩ ⟨Nat.le_of_ble_eq_true rfl, Nat.le_of_ble_eq_true rfl⟩, htx _ kw_1_220⟩ ⟨xPre_blind, (fun U hU hW => ⟨rfl, xPre_of hZ hS hFc hPc hDc hK U hU hW⟩)⟩ rfl rfl hl.1 rfl (lv_room (Nat.le_of_ble_eq_true rfl)) dB_one_28 ⟨Nat.le_of_ble_eq_true rfl, Nat.le_of_ble_eq_true rfl⟩) hS (fun q _ h => hFc q h) hFc (fun u9 t H1 locs ht hvm hr9 hB hz1 hk1 hS => ?_)
  obtain ⟨hP1, hK1, hD1⟩ := hB
  rw [ht] at hP1
  obtain ⟨hP, hD⟩ := xjoin (W := [(a0, .inr (0, [v18, v19, .ref a3, .ref a2, .ref b20, .ref a1, v21, v22])), (a1, .inr (2, [.ref a7, v23, v24])), (a2, .inl (cT 3, 8, .inr (.inr (.inr (.inr f25))))), (a3, .inr (1, [.ref a6, v29, v30])), (a4, .inr (2, [.ref a5, .int 1, v31])), (a5, .inl (cT 2, 4096, .inr (.inl f32))), (a6, .inl (cT 0, 4096, .inl f34)), (a7, .inl (cT 2, 4096, .inr (.inl f35)))]) hP hD [] [0, 1, 2, 3, 4, 5, 6, 7] 8 rfl rfl (by decide) (by decide) hk1 hFc hP1 hD1
  generalize H1 = H at hP hS ⊢
  refine lv_aload_n hx hb dB_one_31 rfl (lv_at hl 0 rfl) ?_
  refine va_get (D := D) (ci := 0) (v := .ref a1) (C := "ValueBench") (T := TB) (N := 8) hx hb htx inB hown hK hP 0 rfl rfl 5 (by decide) (htx _ kw_1_100) (fun _ h9 => h9) rfl dB_one_32 ?_
  obtain ⟨hPc, hDc, hFc⟩ := xcut (wc := [(a1, .inr (2, [.ref a7, v23, v24]))]) hP hD hS hA [1] rfl rfl (by decide)
  refine va_callv (va_runV (C := "ValueBench$Row") (As := []) (rest := []) ⟨hx, hb, hml, hown, htx⟩ (cR_clear_0 l hl9 D cT aK aV H.size a1 (.ref a7) v23 v24) ⟨callB_of 0 htx (xw_goodC kw_2_22) rfl rfl rfl (htx _ kw_1_4) (htx _ kw_2_19) ⟨by decide, by decide, by decide +kernel⟩ ⟨Nat.le_of_ble_eq_true rfl, Nat.le_of_ble_eq_true rfl⟩, (htx _ kw_2_20), (htx _ kw_2_21)⟩ ⟨xPre_blind, va_recv hK hP (ci := 2) rfl (q0 := 1) rfl, (fun U hU hW => ⟨rfl, xPre_of hZ hS hFc hPc hDc hK U hU hW⟩)⟩ rfl rfl hl.1 rfl (lv_room (Nat.le_of_ble_eq_true rfl)) dB_one_35 ⟨Nat.le_of_ble_eq_true rfl, Nat.le_of_ble_eq_true rfl⟩) hS (fun q _ h => hFc q h) hFc (fun u9 t H1 locs ht hvm hr9 hB hz1 hk1 hS => ?_)
  obtain ⟨hP1, hK1, hD1⟩ := hB
  rw [ht] at hP1
  obtain ⟨hP, hD⟩ := xjoin (W := [(a0, .inr (0, [v18, v19, .ref a3, .ref a2, .ref b20, .ref a1, v21, v22])), (a2, .inl (cT 3, 8, .inr (.inr (.inr (.inr f25))))), (a3, .inr (1, [.ref a6, v29, v30])), (a4, .inr (2, [.ref a5, .int 1, v31])), (a5, .inl (cT 2, 4096, .inr (.inl f32))), (a6, .inl (cT 0, 4096, .inl f34)), (a7, .inl (cT 2, 4096, .inr (.inl f35))), (a1, .inr (2, [.ref a7, .int 0, .int 0]))]) hP hD [1] [0, 2, 3, 4, 5, 6, 7] 7 rfl rfl (by decide) (by decide) hk1 hFc hP1 hD1
  generalize H1 = H at hP hS ⊢
  refine lv_aload_n hx hb dB_one_38 rfl (lv_at hl 0 rfl) ?_
  refine lv_iload_n hx hb dB_one_39 rfl (lv_at hl 2 rfl) ?_
  refine lv_aload_n hx hb dB_one_40 rfl (lv_at hl 0 rfl) ?_
  refine va_get (D := D) (ci := 0) (v := .ref a2) (C := "ValueBench") (T := TB) (N := 8) hx hb htx inB hown hK hP 0 rfl rfl 3 (by decide) (htx _ kw_1_98) (fun _ h9 => h9) rfl dB_one_41 ?_
  refine lv_iload_n hx hb dB_one_44 rfl (lv_at hl 3 rfl) ?_
  refine va_aldq hx hb hK hP 1 3 rfl rfl h17 dB_one_45 ?_
  refine W.eq (g2 := F0 m 46 ls [va_rf (f25 x13.toNatClampNeg), .int 6, .ref a0]) rfl ?_
  rw [h26]
  refine W.eq (g2 := F0 m 46 ls [.ref a4, .int 6, .ref a0]) rfl ?_
  refine lv_aload_n hx hb dB_one_46 rfl (lv_at hl 0 rfl) ?_
  refine va_get (D := D) (ci := 0) (v := .ref a3) (C := "ValueBench") (T := TB) (N := 8) hx hb htx inB hown hK hP 0 rfl rfl 2 (by decide) (htx _ kw_1_97) (fun _ h9 => h9) rfl dB_one_47 ?_
  refine lv_aload_n hx hb dB_one_50 rfl (lv_at hl 0 rfl) ?_
  refine va_get (D := D) (ci := 0) (v := .ref b20) (C := "ValueBench") (T := TB) (N := 8) hx hb htx inB hown hK hP 0 rfl rfl 4 (by decide) (htx _ kw_1_99) (fun _ h9 => h9) rfl dB_one_51 ?_
  refine lv_aload_n hx hb dB_one_54 rfl (lv_at hl 0 rfl) ?_
  refine va_get (D := D) (ci := 0) (v := .ref a1) (C := "ValueBench") (T := TB) (N := 8) hx hb htx inB hown hK hP 0 rfl rfl 5 (by decide) (htx _ kw_1_100) (fun _ h9 => h9) rfl dB_one_55 ?_
  obtain ⟨hPc, hDc, hFc⟩ := xcut (wc := [(a3, .inr (1, [.ref a6, v29, v30])), (a4, .inr (2, [.ref a5, .int 1, v31])), (a5, .inl (cT 2, 4096, .inr (.inl f32))), (a6, .inl (cT 0, 4096, .inl f34)), (a1, .inr (2, [.ref a7, .int 0, .int 0])), (a7, .inl (cT 2, 4096, .inr (.inl f35)))]) hP hD hS hA [2, 3, 4, 5, 7, 6] rfl rfl (by decide)
  refine va_calli (va_runS (As := [.int 6, .ref a4, .ref a3, .ref b20, .ref a1]) (rest := [.ref a0]) ⟨hx, hb, hml, hown, htx⟩ (cG_apply_6 l hl9 D cT aK aV H.size a3 a4 a5 a6 a1 a7 b20 v29 v30 v31 f32 f34 f35 (by first | rfl | exact h26 | exact h28 | exact h33)) ⟨callB_of 5 htx (xw_goodC kw_4_28) rfl rfl rfl (htx _ kw_1_26) (htx _ kw_4_26) ⟨by decide, by decide, by decide +kernel⟩ ⟨Nat.le_of_ble_eq_true rfl, Nat.le_of_ble_eq_true rfl⟩, htx _ kw_4_27⟩ ⟨xPre_blind, (fun U hU hW => ⟨rfl, xPre_of hZ hS hFc hPc hDc hK U hU hW⟩)⟩ rfl rfl hl.1 rfl (lv_room (Nat.le_of_ble_eq_true rfl)) dB_one_58 ⟨Nat.le_of_ble_eq_true rfl, Nat.le_of_ble_eq_true rfl⟩) hS (fun q _ h => hFc q h) hFc (fun r4 u9 t H1 locs ht hvm hr9 hB hz1 hk1 hS => ?_)
  obtain ⟨hP1, hK1, hD1⟩ := hB
  rw [ht] at hP1
  obtain ⟨hP, hD⟩ := xjoin (W := [(a0, .inr (0, [v18, v19, .ref a3, .ref a2, .ref b20, .ref a1, v21, v22])), (a2, .inl (cT 3, 8, .inr (.inr (.inr (.inr f25))))), (a3, .inr (1, [.ref a6, .int 4, .int 0])), (a4, .inr (2, [.ref a5, .int 1, v31])), (a5, .inl (cT 2, 4096, .inr (.inl f32))), (a6, .inl (cT 0, 4096, .inl (upd (upd (upd (upd f34 0 110) 1 117) 2 108) 3 108))), (a1, .inr (2, [.ref a7, .int 5, .int 0])), (a7, .inl (cT 2, 4096, .inr (.inl (vp_updL (vp_updL (vp_updL (vp_updL (vp_updL (vp_updL f35 0 0) 1 110) 2 117) 3 108) 4 108) 0 2621476))))]) hP hD [2, 3, 4, 5, 7, 6] [0, 1] 2 rfl rfl (by decide) (by decide) hk1 hFc hP1 hD1
  generalize H1 = H at hP hS ⊢
  rw [hr9]
  refine W.eq (g2 := F0 m 61 ls [.int 0, .ref a0]) rfl ?_
  obtain ⟨hPc, hDc, hFc⟩ := xcut (wc := []) hP hD hS hA [] rfl rfl (by decide)
  refine va_callv (va_runV (C := "ValueBench") (As := [.int 0]) (rest := []) ⟨hx, hb, hml, hown, htx⟩ (cB_demandDone_0 l hl9 D cT aK aV H.size a0) ⟨callB_of 1 htx (xw_goodC kw_3_222) rfl rfl rfl (htx _ kw_1_1) (htx _ kw_3_219) ⟨by decide, by decide, by decide +kernel⟩ ⟨Nat.le_of_ble_eq_true rfl, Nat.le_of_ble_eq_true rfl⟩, (htx _ kw_3_221), (htx _ kp_B_demandDone)⟩ ⟨xPre_blind, va_recv hK hP (ci := 0) rfl (q0 := 0) rfl, (fun U hU hW => ⟨rfl, xPre_of hZ hS hFc hPc hDc hK U hU hW⟩)⟩ rfl rfl hl.1 rfl (lv_room (Nat.le_of_ble_eq_true rfl)) dB_one_61 ⟨Nat.le_of_ble_eq_true rfl, Nat.le_of_ble_eq_true rfl⟩) hS (fun q _ h => hFc q h) hFc (fun u9 t H1 locs ht hvm hr9 hB hz1 hk1 hS => ?_)
  obtain ⟨hP1, hK1, hD1⟩ := hB
  rw [ht] at hP1
  obtain ⟨hP, hD⟩ := xjoin (W := [(a0, .inr (0, [v18, v19, .ref a3, .ref a2, .ref b20, .ref a1, v21, v22])), (a2, .inl (cT 3, 8, .inr (.inr (.inr (.inr f25))))), (a3, .inr (1, [.ref a6, .int 4, .int 0])), (a4, .inr (2, [.ref a5, .int 1, v31])), (a5, .inl (cT 2, 4096, .inr (.inl f32))), (a6, .inl (cT 0, 4096, .inl (upd (upd (upd (upd f34 0 110) 1 117) 2 108) 3 108))), (a1, .inr (2, [.ref a7, .int 5, .int 0])), (a7, .inl (cT 2, 4096, .inr (.inl (vp_updL (vp_updL (vp_updL (vp_updL (vp_updL (vp_updL f35 0 0) 1 110) 2 117) 3 108) 4 108) 0 2621476))))]) hP hD [] [0, 1, 2, 3, 4, 5, 6, 7] 8 rfl rfl (by decide) (by decide) hk1 hFc hP1 hD1
  generalize H1 = H at hP hS ⊢
  refine lv_aload_n hx hb dB_one_64 rfl (lv_at hl 0 rfl) ?_
  refine lv_iload_n hx hb dB_one_65 rfl (lv_at hl 1 rfl) ?_
  obtain ⟨hPc, hDc, hFc⟩ := xcut (wc := [(a0, .inr (0, [v18, v19, .ref a3, .ref a2, .ref b20, .ref a1, v21, v22])), (a3, .inr (1, [.ref a6, .int 4, .int 0])), (a1, .inr (2, [.ref a7, .int 5, .int 0])), (a7, .inl (cT 2, 4096, .inr (.inl (vp_updL (vp_updL (vp_updL (vp_updL (vp_updL (vp_updL f35 0 0) 1 110) 2 117) 3 108) 4 108) 0 2621476)))), (a6, .inl (cT 0, 4096, .inl (upd (upd (upd (upd f34 0 110) 1 117) 2 108) 3 108))), (a2, .inl (cT 3, 8, .inr (.inr (.inr (.inr f25)))))]) hP hD hS hA [0, 2, 6, 7, 5, 1] rfl rfl (by decide)
  refine va_calli (va_runV (C := "ValueBench") (As := [.int x8]) (rest := []) ⟨hx, hb, hml, hown, htx⟩ (cB_keepSpare_3 l hl9 D cT aK aV H.size a0 a3 a1 a7 a6 a2 x8 v18 v19 (.ref b20) v21 v22 (.int 4) (.int 0) (vp_updL (vp_updL (vp_updL (vp_updL (vp_updL (vp_updL f35 0 0) 1 110) 2 117) 3 108) 4 108) 0 2621476) (upd (upd (upd (upd f34 0 110) 1 117) 2 108) 3 108) f25 b27 h9 h10 h11 h12 (by first | rfl | exact h26 | exact h28 | exact h33) (by first | rfl | exact h26 | exact h28 | exact h33) (by first | rfl | exact h26 | exact h28 | exact h33) (by first | rfl | exact h26 | exact h28 | exact h33) (by first | rfl | exact h26 | exact h28 | exact h33) (by first | rfl | exact h26 | exact h28 | exact h33)) ⟨callB_of 1 htx (xw_goodC kw_3_17) rfl rfl rfl (htx _ kw_1_1) (htx _ kw_3_14) ⟨by decide, by decide, by decide +kernel⟩ ⟨Nat.le_of_ble_eq_true rfl, Nat.le_of_ble_eq_true rfl⟩, (htx _ kw_3_16), (htx _ kp_B_keepSpare)⟩ ⟨xPre_blind, va_recv hK hP (ci := 0) rfl (q0 := 0) rfl, (fun U hU hW => ⟨rfl, xPre_of hZ hS hFc hPc hDc hK U hU hW⟩)⟩ rfl rfl hl.1 rfl (lv_room (Nat.le_of_ble_eq_true rfl)) dB_one_66 ⟨Nat.le_of_ble_eq_true rfl, Nat.le_of_ble_eq_true rfl⟩) hS (fun q _ h => hFc q h) hFc (fun r5 u9 t H1 locs ht hvm hr9 hB hz1 hk1 hS => ?_)
  obtain ⟨y6, y7, y8, y9, y10, y11, hP1, hK1, hD1⟩ := hB
  rw [ht] at hP1
  obtain ⟨hP, hD⟩ := xjoin (W := [(a4, .inr (2, [.ref a5, .int 1, v31])), (a5, .inl (cT 2, 4096, .inr (.inl f32))), (a0, .inr (0, [v18, v19, .ref a3, .ref a2, .ref b20, .ref b27, v21, v22])), (a3, .inr (1, [.ref a6, .int 6, .int 0])), (a1, .inr (2, [.ref a7, .int 5, .int 0])), (a7, .inl (cT 2, 4096, .inr (.inl (vp_updL (vp_updL (vp_updL (vp_updL (vp_updL (vp_updL f35 0 0) 1 110) 2 117) 3 108) 4 108) 0 2621476)))), (a6, .inl (cT 0, 4096, .inl (upd (upd (upd (upd (upd (upd (upd (upd (upd (upd f34 0 110) 1 117) 2 108) 3 108) 0 (vp_nar .byte y6)) 1 (vp_nar .byte y7)) 2 (vp_nar .byte y8)) 3 (vp_nar .byte y9)) 4 (vp_nar .byte y10)) 5 (vp_nar .byte y11)))), (a2, .inl (cT 3, 8, .inr (.inr (.inr (.inr (va_up f25 x8.toNatClampNeg (some a1)))))))]) hP hD [0, 2, 6, 7, 5, 1] [3, 4] 2 rfl rfl (by decide) (by decide) hk1 hFc hP1 hD1
  generalize H1 = H at hP hS ⊢
  rw [hr9]
  refine W.eq (g2 := F0 m 69 ls [.int 6]) rfl ?_
  refine lv_pop hx hb dB_one_69 rfl ?_
  obtain ⟨hP9, hD9⟩ := xsub (wc := [(a0, .inr (0, [v18, v19, .ref a3, .ref a2, .ref b20, .ref b27, v21, v22])), (a1, .inr (2, [.ref a7, .int 5, .int 0])), (a2, .inl (cT 3, 8, .inr (.inr (.inr (.inr (va_up f25 x8.toNatClampNeg (some a1))))))), (a3, .inr (1, [.ref a6, .int 6, .int 0])), (a4, .inr (2, [.ref a5, .int 1, v31])), (a5, .inl (cT 2, 4096, .inr (.inl f32))), (a6, .inl (cT 0, 4096, .inl (upd (upd (upd (upd (upd (upd (upd (upd (upd (upd f34 0 110) 1 117) 2 108) 3 108) 0 (vp_nar .byte y6)) 1 (vp_nar .byte y7)) 2 (vp_nar .byte y8)) 3 (vp_nar .byte y9)) 4 (vp_nar .byte y10)) 5 (vp_nar .byte y11)))), (a7, .inl (cT 2, 4096, .inr (.inl (vp_updL (vp_updL (vp_updL (vp_updL (vp_updL (vp_updL f35 0 0) 1 110) 2 117) 3 108) 4 108) 0 2621476))))]) hP hD [2, 4, 7, 3, 0, 1, 6, 5] rfl rfl (by decide)
  refine W.widen (k := 0) (n := 0) (Nat.le_of_ble_eq_true rfl) (Nat.le_of_ble_eq_true rfl) ?_
  exact W.vret hx hb hr (fun t ht hW => ⟨⟨(), rfl, trivial, y6, y7, y8, y9, y10, y11, by rw [ht]; exact hP9, va_K.moved hW.alike hK, hD9⟩, hS.F ht⟩) hS.2.2 dB_one_70
set_option maxHeartbeats 400000000 in
set_option maxRecDepth 100000 in
theorem cL_one_12 (l : Launch) (hl9 : l.stackTraces = false) (D : va_G) (cT : Nat → ClassId) (aK aV : Nat → Nat) (sz : Nat) (a0 : Nat) (a1 : Nat) (a2 : Nat) (a3 : Nat) (a4 : Nat) (a5 : Nat) (a6 : Nat) (a7 : Nat) (x8 : Int32) (x13 : Int32) (v18 : Value) (v19 : Value) (b20 : Nat) (v21 : Value) (v22 : Value) (v23 : Value) (v24 : Value) (f25 : Nat → Option Nat) (b27 : Nat) (v29 : Value) (v30 : Value) (v31 : Value) (f32 : Nat → Int64) (f34 : Nat → Int32) (f35 : Nat → Int64) (h9 : ¬ x8 < 0) (h10 : ¬ 7 < x8) (h11 : x8 ≤ 7) (h12 : vp_in x8 8) (h14 : ¬ x13 < 0) (h15 : ¬ 7 < x13) (h16 : x13 ≤ 7) (h17 : vp_in x13 8) (h26 : f25 x13.toNatClampNeg = some a4) (h28 : f25 x8.toNatClampNeg = some b27) (h33 : f32 0 = 0) : xMet l yL_one wyL_one 9 0 0 199 D cT aK aV sz [.ref a0, .int x8, .int 6, .int x13] [(a0, .inr (0, [v18, v19, .ref a3, .ref a2, .ref b20, .ref a1, v21, v22])), (a1, .inr (2, [.ref a7, v23, v24])), (a2, .inl (cT 3, 8, .inr (.inr (.inr (.inr f25))))), (a3, .inr (1, [.ref a6, v29, v30])), (a4, .inr (2, [.ref a5, .int 1, v31])), (a5, .inl (cT 2, 4096, .inr (.inl f32))), (a6, .inl (cT 0, 4096, .inl f34)), (a7, .inl (cT 2, 4096, .inr (.inl f35)))] (fun A => va_Qi (fun (r : Int32) (_ : Unit) => r = 0) (fun _ t => ∃ (y1 : Int32) (y2 : Int32) (y3 : Int32) (y4 : Int32) (y5 : Int32) (y6 : Int32), xB D xcl cT A [(a0, .inr (0, [v18, v19, .ref a3, .ref a2, .ref b20, .ref b27, v21, v22])), (a1, .inr (2, [.ref a7, .int 5, .int 0])), (a2, .inl (cT 3, 8, .inr (.inr (.inr (.inr (va_up f25 x8.toNatClampNeg (some a1))))))), (a3, .inr (1, [.ref a6, .int 6, .int 0])), (a4, .inr (2, [.ref a5, .int 1, v31])), (a5, .inl (cT 2, 4096, .inr (.inl f32))), (a6, .inl (cT 0, 4096, .inl (upd (upd (upd (upd (upd (upd (upd (upd (upd (upd f34 0 110) 1 117) 2 108) 3 108) 0 (vp_nar .byte y1)) 1 (vp_nar .byte y2)) 2 (vp_nar .byte y3)) 3 (vp_nar .byte y4)) 4 (vp_nar .byte y5)) 5 (vp_nar .byte y6)))), (a7, .inl (cT 2, 4096, .inr (.inl (vp_updL (vp_updL (vp_updL (vp_updL (vp_updL (vp_updL f35 0 0) 1 110) 2 117) 3 108) 4 108) 0 2621476))))] t) A) := by
  refine va_MetW (cc := method_10_code) (maxL := 5) (ret := (some .int)) (hh := [(0, 7, 10, 19), (0, 7, 14, 33), (0, 7, 18, 13)]) (by decide) rfl ?_
  intro p e s m args below meth c s₁ B hml hv
  obtain ⟨rfl, hsz, hZ, hP, hK, hD0⟩ := hv
  have hx := B.exec
  have hb := B.bytes
  have hr := B.returns
  have hts := atoms_spec (ws := wyL_one) B.pre
  have htx := fun w h => hts w (List.mem_cons_of_mem _ h)
  have hown : s.vm.findClass "ValueBenchLaw" = some m.cls := findClass_of_methodNamed B.named
  have hlocks := B.notSynchronized
  subst hsz
  have hD := hD0.self (sz := s.heap.size)
  generalize hAe : va_A [(a0, .inr (0, [v18, v19, .ref a3, .ref a2, .ref b20, .ref a1, v21, v22])), (a1, .inr (2, [.ref a7, v23, v24])), (a2, .inl (cT 3, 8, .inr (.inr (.inr (.inr f25))))), (a3, .inr (1, [.ref a6, v29, v30])), (a4, .inr (2, [.ref a5, .int 1, v31])), (a5, .inl (cT 2, 4096, .inr (.inl f32))), (a6, .inl (cT 0, 4096, .inl f34)), (a7, .inl (cT 2, 4096, .inr (.inl f35)))] s.heap.size = A at hD hZ ⊢
  have hA : ∀ q : Nat, s.heap.size ≤ q → A q := fun q h => by rw [← hAe]; exact Or.inr h
  have hS : va_S A s.heap s.heap [] := va_S.rf
  have hP : va_P D xcl [(a0, .inr (0, [v18, v19, .ref a3, .ref a2, .ref b20, .ref a1, v21, v22])), (a1, .inr (2, [.ref a7, v23, v24])), (a2, .inl (cT 3, 8, .inr (.inr (.inr (.inr f25))))), (a3, .inr (1, [.ref a6, v29, v30])), (a4, .inr (2, [.ref a5, .int 1, v31])), (a5, .inl (cT 2, 4096, .inr (.inl f32))), (a6, .inl (cT 0, 4096, .inl f34)), (a7, .inl (cT 2, 4096, .inr (.inl f35)))] s.heap := hP
  have hl := lv_entry ([.ref a0, .int x8, .int 6, .int x13]) (n := 5) (Nat.le_of_ble_eq_true rfl)
  rw [lg_entry_eq]
  generalize (lg_sl ([.ref a0, .int x8, .int 6, .int x13]) ++ List.replicate (5 - (lg_sl ([.ref a0, .int x8, .int 6, .int x13])).length) Slot.unset).toArray = ls at hl ⊢
  have hl : lv_has ls 5 [(0, .ref a0), (1, .int x8), (2, .int 6), (3, .int x13)] := hl
  have htab := vx_table (x := yL_one) B (hts _ List.mem_cons_self)
  refine lv_aload_n hx hb dL_one_0 rfl (lv_at hl 0 rfl) ?_
  refine lv_iload_n hx hb dL_one_1 rfl (lv_at hl 1 rfl) ?_
  refine lv_iload_n hx hb dL_one_2 rfl (lv_at hl 2 rfl) ?_
  refine lv_iload_n hx hb dL_one_3 rfl (lv_at hl 3 rfl) ?_
  obtain ⟨hPc, hDc, hFc⟩ := xcut (wc := [(a0, .inr (0, [v18, v19, .ref a3, .ref a2, .ref b20, .ref a1, v21, v22])), (a1, .inr (2, [.ref a7, v23, v24])), (a2, .inl (cT 3, 8, .inr (.inr (.inr (.inr f25))))), (a3, .inr (1, [.ref a6, v29, v30])), (a4, .inr (2, [.ref a5, .int 1, v31])), (a5, .inl (cT 2, 4096, .inr (.inl f32))), (a6, .inl (cT 0, 4096, .inl f34)), (a7, .inl (cT 2, 4096, .inr (.inl f35)))]) hP hD hS hA [0, 1, 2, 3, 4, 5, 6, 7] rfl rfl (by decide)
  refine va_callv (va_runV (C := "ValueBench") (As := [.int x8, .int 6, .int x13]) (rest := []) ⟨hx, hb, hml, hown, htx⟩ (cB_one_12 l hl9 D cT aK aV s.heap.size a0 a1 a2 a3 a4 a5 a6 a7 x8 x13 v18 v19 b20 v21 v22 v23 v24 f25 b27 v29 v30 v31 f32 f34 f35 h9 h10 h11 h12 h14 h15 h16 h17 (by first | rfl | exact h26 | exact h28 | exact h33) (by first | rfl | exact h26 | exact h28 | exact h33) (by first | rfl | exact h26 | exact h28 | exact h33)) ⟨callB_of 3 htx (xw_goodC kw_4_25) rfl rfl rfl (htx _ kw_1_1) (htx _ kw_4_22) ⟨by decide, by decide, by decide +kernel⟩ ⟨Nat.le_of_ble_eq_true rfl, Nat.le_of_ble_eq_true rfl⟩, (htx _ kw_4_23), (htx _ kw_4_24)⟩ ⟨xPre_blind, va_recv hK hP (ci := 0) rfl (q0 := 0) rfl, (fun U hU hW => ⟨rfl, xPre_of hZ hS hFc hPc hDc hK U hU hW⟩)⟩ rfl rfl hl.1 rfl (lv_room (Nat.le_of_ble_eq_true rfl)) dL_one_4 ⟨Nat.le_of_ble_eq_true rfl, Nat.le_of_ble_eq_true rfl⟩) hS (fun q _ h => hFc q h) hFc (fun u9 t H1 locs ht hvm hr9 hB hz1 hk1 hS => ?_)
  obtain ⟨y1, y2, y3, y4, y5, y6, hP1, hK1, hD1⟩ := hB
  rw [ht] at hP1
  obtain ⟨hP, hD⟩ := xjoin (W := [(a0, .inr (0, [v18, v19, .ref a3, .ref a2, .ref b20, .ref b27, v21, v22])), (a1, .inr (2, [.ref a7, .int 5, .int 0])), (a2, .inl (cT 3, 8, .inr (.inr (.inr (.inr (va_up f25 x8.toNatClampNeg (some a1))))))), (a3, .inr (1, [.ref a6, .int 6, .int 0])), (a4, .inr (2, [.ref a5, .int 1, v31])), (a5, .inl (cT 2, 4096, .inr (.inl f32))), (a6, .inl (cT 0, 4096, .inl (upd (upd (upd (upd (upd (upd (upd (upd (upd (upd f34 0 110) 1 117) 2 108) 3 108) 0 (vp_nar .byte y1)) 1 (vp_nar .byte y2)) 2 (vp_nar .byte y3)) 3 (vp_nar .byte y4)) 4 (vp_nar .byte y5)) 5 (vp_nar .byte y6)))), (a7, .inl (cT 2, 4096, .inr (.inl (vp_updL (vp_updL (vp_updL (vp_updL (vp_updL (vp_updL f35 0 0) 1 110) 2 117) 3 108) 4 108) 0 2621476))))]) hP hD [0, 1, 2, 3, 4, 5, 6, 7] [] 0 rfl rfl (by decide) (by decide) hk1 hFc hP1 hD1
  generalize H1 = H at hP hS ⊢
  refine lv_goto (tgt := 22) hx hb dL_one_7 (by decide) ?_
  refine lv_iconst (v := 0) hx hb dL_one_22 (by decide) ?_
  obtain ⟨hP9, hD9⟩ := xsub (wc := [(a0, .inr (0, [v18, v19, .ref a3, .ref a2, .ref b20, .ref b27, v21, v22])), (a1, .inr (2, [.ref a7, .int 5, .int 0])), (a2, .inl (cT 3, 8, .inr (.inr (.inr (.inr (va_up f25 x8.toNatClampNeg (some a1))))))), (a3, .inr (1, [.ref a6, .int 6, .int 0])), (a4, .inr (2, [.ref a5, .int 1, v31])), (a5, .inl (cT 2, 4096, .inr (.inl f32))), (a6, .inl (cT 0, 4096, .inl (upd (upd (upd (upd (upd (upd (upd (upd (upd (upd f34 0 110) 1 117) 2 108) 3 108) 0 (vp_nar .byte y1)) 1 (vp_nar .byte y2)) 2 (vp_nar .byte y3)) 3 (vp_nar .byte y4)) 4 (vp_nar .byte y5)) 5 (vp_nar .byte y6)))), (a7, .inl (cT 2, 4096, .inr (.inl (vp_updL (vp_updL (vp_updL (vp_updL (vp_updL (vp_updL f35 0 0) 1 110) 2 117) 3 108) 4 108) 0 2621476))))]) hP hD [0, 1, 2, 3, 4, 5, 6, 7] rfl rfl (by decide)
  refine W.widen (k := 0) (n := 0) (Nat.le_of_ble_eq_true rfl) (Nat.le_of_ble_eq_true rfl) ?_
  exact W.iret (v := 0) hx hb hr (fun t ht hW => ⟨⟨0, (), rfl, rfl, y1, y2, y3, y4, y5, y6, by rw [ht]; exact hP9, va_K.moved hW.alike hK, hD9⟩, hS.F ht⟩) hS.2.2 dL_one_23
set_option maxHeartbeats 400000000 in
set_option maxRecDepth 100000 in
theorem cM_one1_6 (l : Launch) (hl9 : l.stackTraces = false) (D : va_G) (cT : Nat → ClassId) (aK aV : Nat → Nat) (sz : Nat) (a0 : Nat) (a1 : Nat) (a2 : Nat) (a3 : Nat) (a4 : Nat) (v5 : Value) (v6 : Value) (v7 : Value) (v8 : Value) (v9 : Value) (v10 : Value) (v11 : Value) (v12 : Value) (v13 : Value) (v14 : Value) (v15 : Value) (v16 : Value) (v17 : Value) (v18 : Value) (v19 : Value) (v20 : Value) (v21 : Value) (x22 : Int32) (v23 : Value) (v24 : Value) (v25 : Value) (v26 : Value) (v27 : Value) (v28 : Value) (v29 : Value) (v30 : Value) (v31 : Value) (v32 : Value) (v33 : Value) (v34 : Value) (v35 : Value) (f36 : Nat → Int32) (f37 : Nat → Int32) (f38 : Nat → Option Nat) (h39 : f38 1 = none) : xMet l yM_one1 wyM_one1 7 1 6 154 D cT aK aV sz [.ref a0, .int 6, .ref a1] [(a0, .inr (5, [v5, .ref a4, .int 1, .ref a3, .int 0, v6, v7, v8, v9, v10, v11, v12, v13, v14, v15, v16, v17, v18, v19, v20, v21, .ref a2, .int 0, .int x22, v23, v24, v25, v26, v27, v28, v29, v30])), (a1, .inr (6, [.int 0, v31, v32, v33, v34, v35])), (a2, .inl (cT 0, 1024, .inl f36)), (a3, .inl (cT 0, 4096, .inl f37)), (a4, .inl (cT 4, 1024, .inr (.inr (.inr (.inr f38)))))] (fun A => va_Qr (fun _ : Unit => True) (fun _ r1 t => xB D xcl cT A [(a0, .inr (5, [v5, .ref a4, .int 2, .ref a3, .int 4, v6, v7, v8, v9, v10, v11, v12, v13, v14, v15, v16, v17, v18, v19, v20, v21, .ref a2, .int 0, .int x22, v23, v24, v25, v26, v27, v28, v29, v30])), (a1, .inr (6, [.int 0, v31, v32, v33, v34, v35])), (a2, .inl (cT 0, 1024, .inl (upd (upd (upd (upd f36 0 110) 1 117) 2 108) 3 108))), (a3, .inl (cT 0, 4096, .inl (upd (upd (upd (upd f37 0 110) 1 117) 2 108) 3 108))), (a4, .inl (cT 4, 1024, .inr (.inr (.inr (.inr (va_up f38 1 (some r1))))))), (r1, .inr (6, [.int 4, .long 0, .int 0, .int 4, .int 0, .int 5]))] t) A) := by
  refine Met.ofW (cc := prog_13_method_66_code) (maxL := 3) (ret := (some (.object "ValueBenchModel$V"))) (by decide) rfl ?_
  intro p e s m args below meth c s₁ B hml hv
  obtain ⟨rfl, hsz, hZ, hP, hK, hD0⟩ := hv
  have hx := B.exec
  have hb := B.bytes
  have hr := B.returns
  have hts := atoms_spec (ws := wyM_one1) B.pre
  have htx := fun w h => hts w (List.mem_cons_of_mem _ h)
  have hown : s.vm.findClass "ValueBenchModel" = some m.cls := findClass_of_methodNamed B.named
  have hlocks := B.notSynchronized
  subst hsz
  have hD := hD0.self (sz := s.heap.size)
  generalize hAe : va_A [(a0, .inr (5, [v5, .ref a4, .int 1, .ref a3, .int 0, v6, v7, v8, v9, v10, v11, v12, v13, v14, v15, v16, v17, v18, v19, v20, v21, .ref a2, .int 0, .int x22, v23, v24, v25, v26, v27, v28, v29, v30])), (a1, .inr (6, [.int 0, v31, v32, v33, v34, v35])), (a2, .inl (cT 0, 1024, .inl f36)), (a3, .inl (cT 0, 4096, .inl f37)), (a4, .inl (cT 4, 1024, .inr (.inr (.inr (.inr f38)))))] s.heap.size = A at hD hZ ⊢
  have hA : ∀ q : Nat, s.heap.size ≤ q → A q := fun q h => by rw [← hAe]; exact Or.inr h
  have hS : va_S A s.heap s.heap [] := va_S.rf
  have hP : va_P D xcl [(a0, .inr (5, [v5, .ref a4, .int 1, .ref a3, .int 0, v6, v7, v8, v9, v10, v11, v12, v13, v14, v15, v16, v17, v18, v19, v20, v21, .ref a2, .int 0, .int x22, v23, v24, v25, v26, v27, v28, v29, v30])), (a1, .inr (6, [.int 0, v31, v32, v33, v34, v35])), (a2, .inl (cT 0, 1024, .inl f36)), (a3, .inl (cT 0, 4096, .inl f37)), (a4, .inl (cT 4, 1024, .inr (.inr (.inr (.inr f38)))))] s.heap := hP
  have hl := lv_entry ([.ref a0, .int 6, .ref a1]) (n := 3) (Nat.le_of_ble_eq_true rfl)
  rw [lg_entry_eq]
  generalize (lg_sl ([.ref a0, .int 6, .ref a1]) ++ List.replicate (3 - (lg_sl ([.ref a0, .int 6, .ref a1])).length) Slot.unset).toArray = ls at hl ⊢
  have hl : lv_has ls 3 [(0, .ref a0), (1, .int 6), (2, .ref a1)] := hl
  refine lv_iload_n hx hb dM_one1_0 rfl (lv_at hl 1 rfl) ?_
  refine lv_tableIn (off := 129) (tgt := 130) hx hb dM_one1_1 (by decide) (by decide) (by decide) (by decide) ?_
  refine lv_aload_n hx hb dM_one1_130 rfl (lv_at hl 0 rfl) ?_
  refine lv_aload_n hx hb dM_one1_131 rfl (lv_at hl 2 rfl) ?_
  obtain ⟨hPc, hDc, hFc⟩ := xcut (wc := [(a0, .inr (5, [v5, .ref a4, .int 1, .ref a3, .int 0, v6, v7, v8, v9, v10, v11, v12, v13, v14, v15, v16, v17, v18, v19, v20, v21, .ref a2, .int 0, .int x22, v23, v24, v25, v26, v27, v28, v29, v30])), (a1, .inr (6, [.int 0, v31, v32, v33, v34, v35])), (a2, .inl (cT 0, 1024, .inl f36)), (a3, .inl (cT 0, 4096, .inl f37)), (a4, .inl (cT 4, 1024, .inr (.inr (.inr (.inr f38)))))]) hP hD hS hA [0, 1, 2, 3, 4] rfl rfl (by decide)
  refine va_callr (va_runV (C := "ValueBenchModel") (As := [.ref a1]) (rest := []) ⟨hx, hb, hml, hown, htx⟩ (cM_told_0 l hl9 D cT aK aV s.heap.size a0 a1 a2 a3 a4 v5 v6 v7 v8 v9 v10 v11 v12 v13 v14 v15 v16 v17 v18 v19 v20 v21 x22 v23 v24 v25 v26 v27 v28 v29 v30 v31 v32 v33 v34 v35 f36 f37 f38 (by first | rfl | exact h39)) ⟨callB_of 1 htx (xw_goodC kw_7_46) rfl rfl rfl (htx _ kw_1_5) (htx _ kw_7_43) ⟨by decide, by decide, by decide +kernel⟩ ⟨Nat.le_of_ble_eq_true rfl, Nat.le_of_ble_eq_true rfl⟩, (htx _ kw_7_45), (htx _ kp_M_told)⟩ ⟨xPre_blind, va_recv hK hP (ci := 5) rfl (q0 := 0) rfl, (fun U hU hW => ⟨rfl, xPre_of hZ hS hFc hPc hDc hK U hU hW⟩)⟩ rfl rfl hl.1 rfl (lv_room (Nat.le_of_ble_eq_true rfl)) dM_one1_132 ⟨Nat.le_of_ble_eq_true rfl, Nat.le_of_ble_eq_true rfl⟩) hS (fun q _ h => hFc q h) hFc (fun u9 r1 t H1 locs ht hvm hr9 hB hz1 hk1 hS => ?_)
  obtain ⟨hP1, hK1, hD1⟩ := hB
  rw [ht] at hP1
  obtain ⟨hP, hD⟩ := xjoin (W := [(a0, .inr (5, [v5, .ref a4, .int 2, .ref a3, .int 4, v6, v7, v8, v9, v10, v11, v12, v13, v14, v15, v16, v17, v18, v19, v20, v21, .ref a2, .int 0, .int x22, v23, v24, v25, v26, v27, v28, v29, v30])), (a1, .inr (6, [.int 0, v31, v32, v33, v34, v35])), (a2, .inl (cT 0, 1024, .inl (upd (upd (upd (upd f36 0 110) 1 117) 2 108) 3 108))), (a3, .inl (cT 0, 4096, .inl (upd (upd (upd (upd f37 0 110) 1 117) 2 108) 3 108))), (a4, .inl (cT 4, 1024, .inr (.inr (.inr (.inr (va_up f38 1 (some r1))))))), (r1, .inr (6, [.int 4, .long 0, .int 0, .int 4, .int 0, .int 5]))]) hP hD [0, 1, 2, 3, 4] [] 0 rfl rfl (by decide) (by decide) hk1 hFc hP1 hD1
  generalize H1 = H at hP hS ⊢
  refine W.eq (g2 := F0 m 135 ls [.ref r1]) rfl ?_
  obtain ⟨hP9, hD9⟩ := xsub (wc := [(a0, .inr (5, [v5, .ref a4, .int 2, .ref a3, .int 4, v6, v7, v8, v9, v10, v11, v12, v13, v14, v15, v16, v17, v18, v19, v20, v21, .ref a2, .int 0, .int x22, v23, v24, v25, v26, v27, v28, v29, v30])), (a1, .inr (6, [.int 0, v31, v32, v33, v34, v35])), (a2, .inl (cT 0, 1024, .inl (upd (upd (upd (upd f36 0 110) 1 117) 2 108) 3 108))), (a3, .inl (cT 0, 4096, .inl (upd (upd (upd (upd f37 0 110) 1 117) 2 108) 3 108))), (a4, .inl (cT 4, 1024, .inr (.inr (.inr (.inr (va_up f38 1 (some r1))))))), (r1, .inr (6, [.int 4, .long 0, .int 0, .int 4, .int 0, .int 5]))]) hP hD [0, 1, 2, 3, 4, 5] rfl rfl (by decide)
  refine W.widen (k := 1) (n := 6) (Nat.le_of_ble_eq_true rfl) (Nat.le_of_ble_eq_true rfl) ?_
  exact W.aret hx hb hr (Or.inl ⟨_, rfl⟩) (Or.inr ⟨_, rfl⟩) (fun t ht hW => ⟨⟨(), r1, rfl, trivial, by rw [ht]; exact hP9, va_K.moved hW.alike hK, hD9⟩, hS.F ht⟩) hS.2.2 dM_one1_135
set_option maxHeartbeats 400000000 in
set_option maxRecDepth 100000 in
theorem cM_finish_22 (l : Launch) (hl9 : l.stackTraces = false) (D : va_G) (cT : Nat → ClassId) (aK aV : Nat → Nat) (sz : Nat) (a0 : Nat) (a1 : Nat) (a2 : Nat) (a3 : Nat) (a4 : Nat) (a5 : Nat) (a6 : Nat) (x7 : Int32) (x12 : Int32) (x17 : Int32) (v18 : Value) (v19 : Value) (v20 : Value) (v21 : Value) (v22 : Value) (v23 : Value) (v24 : Value) (v25 : Value) (v26 : Value) (v27 : Value) (v28 : Value) (v29 : Value) (v30 : Value) (v31 : Value) (v32 : Value) (v33 : Value) (v34 : Value) (x35 : Int32) (v36 : Value) (v37 : Value) (v38 : Value) (v39 : Value) (v40 : Value) (v41 : Value) (f42 : Nat → Option Nat) (f45 : Nat → Int32) (f47 : Nat → Int32) (f52 : Nat → Option Nat) (f55 : Nat → Int32) (f56 : Nat → Int32) (h8 : ¬ x7 < 0) (h9 : ¬ 7 < x7) (h10 : x7 ≤ 7) (h11 : vp_in x7 8) (h13 : ¬ x12 < 0) (h14 : ¬ 7 < x12) (h15 : x12 ≤ 7) (h16 : vp_in x12 8) (h43 : f42 x12.toNatClampNeg = some a3) (h44 : f42 x7.toNatClampNeg = some a3) (h46 : f45 x12.toNatClampNeg = 4) (h48 : f47 0 = 110) (h49 : f47 1 = 117) (h50 : f47 2 = 108) (h51 : f47 3 = 108) (h53 : f52 0 = none) (h54 : f52 1 = none) : xMet l yM_finish wyM_finish 8 2 12 176 D cT aK aV sz [.ref a0, .int x7, .int 1, .int 6, .int x12, .int x17] [(a0, .inr (5, [v18, .ref a4, .int 0, .ref a6, .int 0, v19, v20, v21, v22, v23, v24, v25, v26, v27, v28, v29, v30, v31, v32, v33, v34, .ref a5, .int 0, .int x35, .ref a1, .ref a2, v36, v37, v38, v39, v40, v41])), (a1, .inl (cT 5, 8, .inr (.inr (.inr (.inr f42))))), (a2, .inl (cT 1, 8, .inl f45)), (a3, .inl (cT 0, 4096, .inl f47)), (a4, .inl (cT 4, 1024, .inr (.inr (.inr (.inr f52))))), (a5, .inl (cT 0, 1024, .inl f55)), (a6, .inl (cT 0, 4096, .inl f56))] (fun A => va_Qv (fun _ : Unit => True) (fun _ t => ∃ (r1 : Nat) (r2 : Nat) (y4 : Int32) (y5 : Int32) (y6 : Int32) (y7 : Int32) (y8 : Int32) (y9 : Int32), xB D xcl cT A [(a0, .inr (5, [v18, .ref a4, .int 2, .ref a6, .int 4, v19, v20, v21, v22, v23, v24, v25, v26, v27, v28, .ref a3, .int 4, .int 4, .int 0, .int 100, v34, .ref a5, .int 6, .int 4096, .ref a1, .ref a2, v36, v37, v38, v39, v40, v41])), (a1, .inl (cT 5, 8, .inr (.inr (.inr (.inr f42))))), (a2, .inl (cT 1, 8, .inl (upd f45 x7.toNatClampNeg 6))), (a3, .inl (cT 0, 4096, .inl (upd (upd (upd (upd (upd (upd f47 0 (vp_nar .byte (vp_nar .byte y4))) 1 (vp_nar .byte (vp_nar .byte y5))) 2 (vp_nar .byte (vp_nar .byte y6))) 3 (vp_nar .byte (vp_nar .byte y7))) 4 (vp_nar .byte (vp_nar .byte y8))) 5 (vp_nar .byte (vp_nar .byte y9))))), (a4, .inl (cT 4, 1024, .inr (.inr (.inr (.inr (va_up (va_up f52 0 (some r1)) 1 (some r2))))))), (a5, .inl (cT 0, 1024, .inl (upd (upd (upd (upd (upd (upd (upd (upd (upd (upd f55 0 110) 1 117) 2 108) 3 108) 0 (vp_nar .byte y4)) 1 (vp_nar .byte y5)) 2 (vp_nar .byte y6)) 3 (vp_nar .byte y7)) 4 (vp_nar .byte y8)) 5 (vp_nar .byte y9)))), (a6, .inl (cT 0, 4096, .inl (upd (upd (upd (upd f56 0 110) 1 117) 2 108) 3 108))), (r1, .inr (6, [.int 0, .long 0, .int 0, .int 0, .int 0, .int 1])), (r2, .inr (6, [.int 4, .long 0, .int 0, .int 4, .int 0, .int 5]))] t) A) := by
  refine va_MetW (cc := prog_13_method_90_code) (maxL := 10) (ret := none) (hh := [(0, 128, 131, 83), (0, 128, 149, 86)]) (by decide) rfl ?_
  intro p e s m args below meth c s₁ B hml hv
  obtain ⟨rfl, hsz, hZ, hP, hK, hD0⟩ := hv
  have hx := B.exec
  have hb := B.bytes
  have hr := B.returns
  have hts := atoms_spec (ws := wyM_finish) B.pre
  have htx := fun w h => hts w (List.mem_cons_of_mem _ h)
  have hown : s.vm.findClass "ValueBenchModel" = some m.cls := findClass_of_methodNamed B.named
  have hlocks := B.notSynchronized
  subst hsz
  have hD := hD0.self (sz := s.heap.size)
  generalize hAe : va_A [(a0, .inr (5, [v18, .ref a4, .int 0, .ref a6, .int 0, v19, v20, v21, v22, v23, v24, v25, v26, v27, v28, v29, v30, v31, v32, v33, v34, .ref a5, .int 0, .int x35, .ref a1, .ref a2, v36, v37, v38, v39, v40, v41])), (a1, .inl (cT 5, 8, .inr (.inr (.inr (.inr f42))))), (a2, .inl (cT 1, 8, .inl f45)), (a3, .inl (cT 0, 4096, .inl f47)), (a4, .inl (cT 4, 1024, .inr (.inr (.inr (.inr f52))))), (a5, .inl (cT 0, 1024, .inl f55)), (a6, .inl (cT 0, 4096, .inl f56))] s.heap.size = A at hD hZ ⊢
  have hA : ∀ q : Nat, s.heap.size ≤ q → A q := fun q h => by rw [← hAe]; exact Or.inr h
  have hS : va_S A s.heap s.heap [] := va_S.rf
  have hP : va_P D xcl [(a0, .inr (5, [v18, .ref a4, .int 0, .ref a6, .int 0, v19, v20, v21, v22, v23, v24, v25, v26, v27, v28, v29, v30, v31, v32, v33, v34, .ref a5, .int 0, .int x35, .ref a1, .ref a2, v36, v37, v38, v39, v40, v41])), (a1, .inl (cT 5, 8, .inr (.inr (.inr (.inr f42))))), (a2, .inl (cT 1, 8, .inl f45)), (a3, .inl (cT 0, 4096, .inl f47)), (a4, .inl (cT 4, 1024, .inr (.inr (.inr (.inr f52))))), (a5, .inl (cT 0, 1024, .inl f55)), (a6, .inl (cT 0, 4096, .inl f56))] s.heap := hP
  have hl := lv_entry ([.ref a0, .int x7, .int 1, .int 6, .int x12, .int x17]) (n := 10) (Nat.le_of_ble_eq_true rfl)
  rw [lg_entry_eq]
  generalize (lg_sl ([.ref a0, .int x7, .int 1, .int 6, .int x12, .int x17]) ++ List.replicate (10 - (lg_sl ([.ref a0, .int x7, .int 1, .int 6, .int x12, .int x17])).length) Slot.unset).toArray = ls at hl ⊢
  have hl : lv_has ls 10 [(0, .ref a0), (1, .int x7), (2, .int 1), (3, .int 6), (4, .int x12), (5, .int x17)] := hl
  have htab := vx_table (x := yM_finish) B (hts _ List.mem_cons_self)
  refine lv_aload_n hx hb dM_finish_0 rfl (lv_at hl 0 rfl) ?_
  refine lv_iload hx hb dM_finish_1 (lv_at hl 4 rfl) ?_
  obtain ⟨hPc, hDc, hFc⟩ := xcut (wc := [(a0, .inr (5, [v18, .ref a4, .int 0, .ref a6, .int 0, v19, v20, v21, v22, v23, v24, v25, v26, v27, v28, v29, v30, v31, v32, v33, v34, .ref a5, .int 0, .int x35, .ref a1, .ref a2, v36, v37, v38, v39, v40, v41])), (a1, .inl (cT 5, 8, .inr (.inr (.inr (.inr f42))))), (a2, .inl (cT 1, 8, .inl f45)), (a3, .inl (cT 0, 4096, .inl f47)), (a4, .inl (cT 4, 1024, .inr (.inr (.inr (.inr f52)))))]) hP hD hS hA [0, 1, 2, 3, 4] rfl rfl (by decide)
  refine va_callr (va_runV (C := "ValueBenchModel") (As := [.int x12]) (rest := []) ⟨hx, hb, hml, hown, htx⟩ (cM_register_0 l hl9 D cT aK aV s.heap.size a0 a1 a2 a3 a4 x12 v18 (.ref a6) (.int 0) v19 v20 v21 v22 v23 v24 v25 v26 v27 v28 v29 v30 v31 v32 v33 v34 (.ref a5) (.int 0) (.int x35) v36 v37 v38 v39 v40 v41 f42 f45 f47 f52 h13 h14 h15 h16 (by first | rfl | exact h43 | exact h44 | exact h46 | exact h48 | exact h49 | exact h50 | exact h51 | exact h53 | exact h54) (by first | rfl | exact h43 | exact h44 | exact h46 | exact h48 | exact h49 | exact h50 | exact h51 | exact h53 | exact h54) (by first | rfl | exact h43 | exact h44 | exact h46 | exact h48 | exact h49 | exact h50 | exact h51 | exact h53 | exact h54) (by first | rfl | exact h43 | exact h44 | exact h46 | exact h48 | exact h49 | exact h50 | exact h51 | exact h53 | exact h54) (by first | rfl | exact h43 | exact h44 | exact h46 | exact h48 | exact h49 | exact h50 | exact h51 | exact h53 | exact h54) (by first | rfl | exact h43 | exact h44 | exact h46 | exact h48 | exact h49 | exact h50 | exact h51 | exact h53 | exact h54) (by first | rfl | exact h43 | exact h44 | exact h46 | exact h48 | exact h49 | exact h50 | exact h51 | exact h53 | exact h54)) ⟨callB_of 1 htx (xw_goodC kw_6_170) rfl rfl rfl (htx _ kw_1_5) (htx _ kw_6_167) ⟨by decide, by decide, by decide +kernel⟩ ⟨Nat.le_of_ble_eq_true rfl, Nat.le_of_ble_eq_true rfl⟩, (htx _ kw_6_169), (htx _ kp_M_register)⟩ ⟨xPre_blind, va_recv hK hP (ci := 5) rfl (q0 := 0) rfl, (fun U hU hW => ⟨rfl, xPre_of hZ hS hFc hPc hDc hK U hU hW⟩)⟩ rfl rfl hl.1 rfl (lv_room (Nat.le_of_ble_eq_true rfl)) dM_finish_3 ⟨Nat.le_of_ble_eq_true rfl, Nat.le_of_ble_eq_true rfl⟩) hS (fun q _ h => hFc q h) hFc (fun u9 r1 t H1 locs ht hvm hr9 hB hz1 hk1 hS => ?_)
  obtain ⟨hP1, hK1, hD1⟩ := hB
  rw [ht] at hP1
  obtain ⟨hP, hD⟩ := xjoin (W := [(a5, .inl (cT 0, 1024, .inl f55)), (a6, .inl (cT 0, 4096, .inl f56)), (a0, .inr (5, [v18, .ref a4, .int 1, .ref a6, .int 0, v19, v20, v21, v22, v23, v24, v25, v26, v27, v28, .ref a3, .int 4, .int 4, .int 0, .int 100, v34, .ref a5, .int 0, .int x35, .ref a1, .ref a2, v36, v37, v38, v39, v40, v41])), (a1, .inl (cT 5, 8, .inr (.inr (.inr (.inr f42))))), (a2, .inl (cT 1, 8, .inl f45)), (a3, .inl (cT 0, 4096, .inl f47)), (a4, .inl (cT 4, 1024, .inr (.inr (.inr (.inr (va_up f52 0 (some r1))))))), (r1, .inr (6, [.int 0, .long 0, .int 0, .int 0, .int 0, .int 1]))]) hP hD [0, 1, 2, 3, 4] [5, 6] 2 rfl rfl (by decide) (by decide) hk1 hFc hP1 hD1
  generalize H1 = H at hP hS ⊢
  refine W.eq (g2 := F0 m 6 ls [.ref r1]) rfl ?_
  refine lv_astore (lv' := [(6, .ref r1), (0, .ref a0), (1, .int x7), (2, .int 1), (3, .int 6), (4, .int x12), (5, .int x17)]) hx hb dM_finish_6 hl (by decide) rfl (fun ls hl => ?_)
  refine lv_iload_n hx hb dM_finish_8 rfl (lv_at hl 3 rfl) ?_
  refine lv_iconst (v := 1) hx hb dM_finish_9 (by decide) ?_
  refine lv_icmp_ne (tgt := 17) hx hb dM_finish_10 (by decide) (fun h => ((by revert h; decide : False)).elim) (fun _ => ?_)
  refine lv_null hx hb dM_finish_13 ?_
  refine lv_goto (tgt := 23) hx hb dM_finish_14 (by decide) ?_
  refine lv_astoreN (lv' := [(7, .null), (6, .ref r1), (0, .ref a0), (1, .int x7), (2, .int 1), (3, .int 6), (4, .int x12), (5, .int x17)]) hx hb dM_finish_23 hl (by decide) rfl (fun ls hl => ?_)
  refine lv_iload_n hx hb dM_finish_25 rfl (lv_at hl 4 rfl) ?_
  refine lv_if_ne (tgt := 43) hx hb dM_finish_26 (by decide) (fun _ => ?_) (fun h => ((by revert h; decide : False)).elim)
  refine lv_iload_n hx hb dM_finish_43 rfl (lv_at hl 4 rfl) ?_
  refine lv_iconst (v := 1) hx hb dM_finish_44 (by decide) ?_
  refine lv_icmp_ne (tgt := 60) hx hb dM_finish_45 (by decide) (fun h => ((by revert h; decide : False)).elim) (fun _ => ?_)
  refine lv_aload_n hx hb dM_finish_48 rfl (lv_at hl 2 rfl) ?_
  refine lv_iload_n hx hb dM_finish_49 rfl (lv_at hl 5 rfl) ?_
  refine lv_aload hx hb dM_finish_50 (lv_at hl 1 rfl) ?_
  obtain ⟨hPc, hDc, hFc⟩ := xcut (wc := [(a0, .inr (5, [v18, .ref a4, .int 1, .ref a6, .int 0, v19, v20, v21, v22, v23, v24, v25, v26, v27, v28, .ref a3, .int 4, .int 4, .int 0, .int 100, v34, .ref a5, .int 0, .int x35, .ref a1, .ref a2, v36, v37, v38, v39, v40, v41])), (r1, .inr (6, [.int 0, .long 0, .int 0, .int 0, .int 0, .int 1])), (a5, .inl (cT 0, 1024, .inl f55)), (a6, .inl (cT 0, 4096, .inl f56)), (a4, .inl (cT 4, 1024, .inr (.inr (.inr (.inr (va_up f52 0 (some r1)))))))]) hP hD hS hA [2, 7, 0, 1, 6] rfl rfl (by decide)
  refine va_callr (va_runV (C := "ValueBenchModel") (As := [.int 6, .ref r1]) (rest := []) ⟨hx, hb, hml, hown, htx⟩ (cM_one1_6 l hl9 D cT aK aV H.size a0 r1 a5 a6 a4 v18 v19 v20 v21 v22 v23 v24 v25 v26 v27 v28 (.ref a3) (.int 4) (.int 4) (.int 0) (.int 100) v34 x35 (.ref a1) (.ref a2) v36 v37 v38 v39 v40 v41 (.long 0) (.int 0) (.int 0) (.int 0) (.int 1) f55 f56 (va_up f52 0 (some r1)) (by first | rfl | exact h43 | exact h44 | exact h46 | exact h48 | exact h49 | exact h50 | exact h51 | exact h54)) ⟨callB_of 2 htx (xw_goodC kw_6_237) rfl rfl rfl (htx _ kw_1_5) (htx _ kw_6_234) ⟨by decide, by decide, by decide +kernel⟩ ⟨Nat.le_of_ble_eq_true rfl, Nat.le_of_ble_eq_true rfl⟩, (htx _ kw_6_236), (htx _ kp_M_one1)⟩ ⟨xPre_blind, va_recv hK hP (ci := 5) rfl (q0 := 2) rfl, (fun U hU hW => ⟨rfl, xPre_of hZ hS hFc hPc hDc hK U hU hW⟩)⟩ rfl rfl hl.1 rfl (lv_room (Nat.le_of_ble_eq_true rfl)) dM_finish_52 ⟨Nat.le_of_ble_eq_true rfl, Nat.le_of_ble_eq_true rfl⟩) hS (fun q _ h => hFc q h) hFc (fun u9 r2 t H1 locs ht hvm hr9 hB hz1 hk1 hS => ?_)
  obtain ⟨hP1, hK1, hD1⟩ := hB
  rw [ht] at hP1
  obtain ⟨hP, hD⟩ := xjoin (W := [(a1, .inl (cT 5, 8, .inr (.inr (.inr (.inr f42))))), (a2, .inl (cT 1, 8, .inl f45)), (a3, .inl (cT 0, 4096, .inl f47)), (a0, .inr (5, [v18, .ref a4, .int 2, .ref a6, .int 4, v19, v20, v21, v22, v23, v24, v25, v26, v27, v28, .ref a3, .int 4, .int 4, .int 0, .int 100, v34, .ref a5, .int 0, .int x35, .ref a1, .ref a2, v36, v37, v38, v39, v40, v41])), (r1, .inr (6, [.int 0, .long 0, .int 0, .int 0, .int 0, .int 1])), (a5, .inl (cT 0, 1024, .inl (upd (upd (upd (upd f55 0 110) 1 117) 2 108) 3 108))), (a6, .inl (cT 0, 4096, .inl (upd (upd (upd (upd f56 0 110) 1 117) 2 108) 3 108))), (a4, .inl (cT 4, 1024, .inr (.inr (.inr (.inr (va_up (va_up f52 0 (some r1)) 1 (some r2))))))), (r2, .inr (6, [.int 4, .long 0, .int 0, .int 4, .int 0, .int 5]))]) hP hD [2, 7, 0, 1, 6] [3, 4, 5] 3 rfl rfl (by decide) (by decide) hk1 hFc hP1 hD1
  generalize H1 = H at hP hS ⊢
  refine W.eq (g2 := F0 m 55 ls [.ref r2]) rfl ?_
  refine lv_astore (lv' := [(8, .ref r2), (7, .null), (6, .ref r1), (0, .ref a0), (1, .int x7), (2, .int 1), (3, .int 6), (4, .int x12), (5, .int x17)]) hx hb dM_finish_55 hl (by decide) rfl (fun ls hl => ?_)
  refine lv_goto (tgt := 119) hx hb dM_finish_57 (by decide) ?_
  refine lv_aload_n hx hb dM_finish_119 rfl (lv_at hl 3 rfl) ?_
  refine lv_iload_n hx hb dM_finish_120 rfl (lv_at hl 4 rfl) ?_
  refine lv_aload hx hb dM_finish_121 (lv_at hl 0 rfl) ?_
  obtain ⟨hPc, hDc, hFc⟩ := xcut (wc := [(a0, .inr (5, [v18, .ref a4, .int 2, .ref a6, .int 4, v19, v20, v21, v22, v23, v24, v25, v26, v27, v28, .ref a3, .int 4, .int 4, .int 0, .int 100, v34, .ref a5, .int 0, .int x35, .ref a1, .ref a2, v36, v37, v38, v39, v40, v41])), (r2, .inr (6, [.int 4, .long 0, .int 0, .int 4, .int 0, .int 5])), (a5, .inl (cT 0, 1024, .inl (upd (upd (upd (upd f55 0 110) 1 117) 2 108) 3 108))), (a6, .inl (cT 0, 4096, .inl (upd (upd (upd (upd f56 0 110) 1 117) 2 108) 3 108))), (a1, .inl (cT 5, 8, .inr (.inr (.inr (.inr f42))))), (a3, .inl (cT 0, 4096, .inl f47)), (a2, .inl (cT 1, 8, .inl f45))]) hP hD hS hA [3, 8, 5, 6, 0, 2, 1] rfl rfl (by decide)
  refine va_calli (va_runV (C := "ValueBenchModel") (As := [.int x7, .ref r2]) (rest := []) ⟨hx, hb, hml, hown, htx⟩ (cM_store_3 l hl9 D cT aK aV H.size a0 r2 a5 a6 a1 a3 a2 x7 v18 (.ref a4) (.int 2) (.int 4) v19 v20 v21 v22 v23 v24 v25 v26 v27 v28 (.ref a3) (.int 4) (.int 4) (.int 0) (.int 100) v34 (.int 0) (.int x35) v36 v37 v38 v39 v40 v41 (.long 0) (.int 0) (.int 5) (upd (upd (upd (upd f55 0 110) 1 117) 2 108) 3 108) (upd (upd (upd (upd f56 0 110) 1 117) 2 108) 3 108) f42 f47 f45 h8 h9 h10 h11 (by first | rfl | exact h43 | exact h44 | exact h46 | exact h48 | exact h49 | exact h50 | exact h51) (by first | rfl | exact h43 | exact h44 | exact h46 | exact h48 | exact h49 | exact h50 | exact h51) (by first | rfl | exact h43 | exact h44 | exact h46 | exact h48 | exact h49 | exact h50 | exact h51) (by first | rfl | exact h43 | exact h44 | exact h46 | exact h48 | exact h49 | exact h50 | exact h51) (by first | rfl | exact h43 | exact h44 | exact h46 | exact h48 | exact h49 | exact h50 | exact h51)) ⟨callB_of 2 htx (xw_goodC kw_6_124) rfl rfl rfl (htx _ kw_1_5) (htx _ kw_6_121) ⟨by decide, by decide, by decide +kernel⟩ ⟨Nat.le_of_ble_eq_true rfl, Nat.le_of_ble_eq_true rfl⟩, (htx _ kw_6_123), (htx _ kp_M_store)⟩ ⟨xPre_blind, va_recv hK hP (ci := 5) rfl (q0 := 3) rfl, (fun U hU hW => ⟨rfl, xPre_of hZ hS hFc hPc hDc hK U hU hW⟩)⟩ rfl rfl hl.1 rfl (lv_room (Nat.le_of_ble_eq_true rfl)) dM_finish_123 ⟨Nat.le_of_ble_eq_true rfl, Nat.le_of_ble_eq_true rfl⟩) hS (fun q _ h => hFc q h) hFc (fun r3 u9 t H1 locs ht hvm hr9 hB hz1 hk1 hS => ?_)
  obtain ⟨y4, y5, y6, y7, y8, y9, hP1, hK1, hD1⟩ := hB
  rw [ht] at hP1
  obtain ⟨hP, hD⟩ := xjoin (W := [(r1, .inr (6, [.int 0, .long 0, .int 0, .int 0, .int 0, .int 1])), (a4, .inl (cT 4, 1024, .inr (.inr (.inr (.inr (va_up (va_up f52 0 (some r1)) 1 (some r2))))))), (a0, .inr (5, [v18, .ref a4, .int 2, .ref a6, .int 4, v19, v20, v21, v22, v23, v24, v25, v26, v27, v28, .ref a3, .int 4, .int 4, .int 0, .int 100, v34, .ref a5, .int 6, .int 4096, .ref a1, .ref a2, v36, v37, v38, v39, v40, v41])), (r2, .inr (6, [.int 4, .long 0, .int 0, .int 4, .int 0, .int 5])), (a5, .inl (cT 0, 1024, .inl (upd (upd (upd (upd (upd (upd (upd (upd (upd (upd f55 0 110) 1 117) 2 108) 3 108) 0 (vp_nar .byte y4)) 1 (vp_nar .byte y5)) 2 (vp_nar .byte y6)) 3 (vp_nar .byte y7)) 4 (vp_nar .byte y8)) 5 (vp_nar .byte y9)))), (a6, .inl (cT 0, 4096, .inl (upd (upd (upd (upd f56 0 110) 1 117) 2 108) 3 108))), (a1, .inl (cT 5, 8, .inr (.inr (.inr (.inr f42))))), (a3, .inl (cT 0, 4096, .inl (upd (upd (upd (upd (upd (upd f47 0 (vp_nar .byte (vp_nar .byte y4))) 1 (vp_nar .byte (vp_nar .byte y5))) 2 (vp_nar .byte (vp_nar .byte y6))) 3 (vp_nar .byte (vp_nar .byte y7))) 4 (vp_nar .byte (vp_nar .byte y8))) 5 (vp_nar .byte (vp_nar .byte y9))))), (a2, .inl (cT 1, 8, .inl (upd f45 x7.toNatClampNeg 6)))]) hP hD [3, 8, 5, 6, 0, 2, 1] [4, 7] 2 rfl rfl (by decide) (by decide) hk1 hFc hP1 hD1
  generalize H1 = H at hP hS ⊢
  rw [hr9]
  refine W.eq (g2 := F0 m 126 ls [.int 6]) rfl ?_
  refine lv_istore (lv' := [(9, .int 6), (8, .ref r2), (7, .null), (6, .ref r1), (0, .ref a0), (1, .int x7), (2, .int 1), (3, .int 6), (4, .int x12), (5, .int x17)]) hx hb dM_finish_126 hl (by decide) rfl (fun ls hl => ?_)
  refine lv_goto (tgt := 156) hx hb dM_finish_128 (by decide) ?_
  obtain ⟨hP9, hD9⟩ := xsub (wc := [(a0, .inr (5, [v18, .ref a4, .int 2, .ref a6, .int 4, v19, v20, v21, v22, v23, v24, v25, v26, v27, v28, .ref a3, .int 4, .int 4, .int 0, .int 100, v34, .ref a5, .int 6, .int 4096, .ref a1, .ref a2, v36, v37, v38, v39, v40, v41])), (a1, .inl (cT 5, 8, .inr (.inr (.inr (.inr f42))))), (a2, .inl (cT 1, 8, .inl (upd f45 x7.toNatClampNeg 6))), (a3, .inl (cT 0, 4096, .inl (upd (upd (upd (upd (upd (upd f47 0 (vp_nar .byte (vp_nar .byte y4))) 1 (vp_nar .byte (vp_nar .byte y5))) 2 (vp_nar .byte (vp_nar .byte y6))) 3 (vp_nar .byte (vp_nar .byte y7))) 4 (vp_nar .byte (vp_nar .byte y8))) 5 (vp_nar .byte (vp_nar .byte y9))))), (a4, .inl (cT 4, 1024, .inr (.inr (.inr (.inr (va_up (va_up f52 0 (some r1)) 1 (some r2))))))), (a5, .inl (cT 0, 1024, .inl (upd (upd (upd (upd (upd (upd (upd (upd (upd (upd f55 0 110) 1 117) 2 108) 3 108) 0 (vp_nar .byte y4)) 1 (vp_nar .byte y5)) 2 (vp_nar .byte y6)) 3 (vp_nar .byte y7)) 4 (vp_nar .byte y8)) 5 (vp_nar .byte y9)))), (a6, .inl (cT 0, 4096, .inl (upd (upd (upd (upd f56 0 110) 1 117) 2 108) 3 108))), (r1, .inr (6, [.int 0, .long 0, .int 0, .int 0, .int 0, .int 1])), (r2, .inr (6, [.int 4, .long 0, .int 0, .int 4, .int 0, .int 5]))]) hP hD [2, 6, 8, 7, 1, 4, 5, 0, 3] rfl rfl (by decide)
  refine W.widen (k := 2) (n := 12) (Nat.le_of_ble_eq_true rfl) (Nat.le_of_ble_eq_true rfl) ?_
  exact W.vret hx hb hr (fun t ht hW => ⟨⟨(), rfl, trivial, r1, r2, y4, y5, y6, y7, y8, y9, by rw [ht]; exact hP9, va_K.moved hW.alike hK, hD9⟩, hS.F ht⟩) hS.2.2 dM_finish_156
set_option maxHeartbeats 400000000 in
set_option maxRecDepth 100000 in
theorem cM_one0_15 (l : Launch) (hl9 : l.stackTraces = false) (D : va_G) (cT : Nat → ClassId) (aK aV : Nat → Nat) (sz : Nat) (a0 : Nat) (a1 : Nat) (a2 : Nat) (a3 : Nat) (a4 : Nat) (a5 : Nat) (a6 : Nat) (x7 : Int32) (x12 : Int32) (v17 : Value) (v18 : Value) (v19 : Value) (v20 : Value) (v21 : Value) (v22 : Value) (v23 : Value) (v24 : Value) (v25 : Value) (v26 : Value) (v27 : Value) (v28 : Value) (v29 : Value) (v30 : Value) (v31 : Value) (v32 : Value) (v33 : Value) (v34 : Value) (v35 : Value) (v36 : Value) (v37 : Value) (v38 : Value) (v39 : Value) (v40 : Value) (v41 : Value) (v42 : Value) (v43 : Value) (f44 : Nat → Option Nat) (f47 : Nat → Int32) (f49 : Nat → Int32) (f54 : Nat → Option Nat) (f57 : Nat → Int32) (f58 : Nat → Int32) (h8 : ¬ x7 < 0) (h9 : ¬ 7 < x7) (h10 : x7 ≤ 7) (h11 : vp_in x7 8) (h13 : ¬ x12 < 0) (h14 : ¬ 7 < x12) (h15 : x12 ≤ 7) (h16 : vp_in x12 8) (h45 : f44 x12.toNatClampNeg = some a3) (h46 : f44 x7.toNatClampNeg = some a3) (h48 : f47 x12.toNatClampNeg = 4) (h50 : f49 0 = 110) (h51 : f49 1 = 117) (h52 : f49 2 = 108) (h53 : f49 3 = 108) (h55 : f54 0 = none) (h56 : f54 1 = none) : xMet l yM_one0 wyM_one0 9 2 12 205 D cT aK aV sz [.ref a0, .int x7, .int 6, .int x12] [(a0, .inr (5, [v17, .ref a4, v18, .ref a6, v19, v20, v21, v22, v23, v24, v25, v26, v27, v28, v29, v30, v31, v32, v33, v34, v35, .ref a5, v36, v37, .ref a1, .ref a2, v38, v39, v40, v41, v42, v43])), (a1, .inl (cT 5, 8, .inr (.inr (.inr (.inr f44))))), (a2, .inl (cT 1, 8, .inl f47)), (a3, .inl (cT 0, 4096, .inl f49)), (a4, .inl (cT 4, 1024, .inr (.inr (.inr (.inr f54))))), (a5, .inl (cT 0, 1024, .inl f57)), (a6, .inl (cT 0, 4096, .inl f58))] (fun A => va_Qv (fun _ : Unit => True) (fun _ t => ∃ (q3 : Nat) (q4 : Nat) (y5 : Int32) (y6 : Int32) (y7 : Int32) (y8 : Int32) (y9 : Int32) (y10 : Int32), xB D xcl cT A [(a0, .inr (5, [.int 0, .ref a4, .int 2, .ref a6, .int 4, v20, v21, .int 0, v23, .int 0, v25, v26, .int 0, v28, v29, .ref a3, .int 4, .int 4, .int 0, .int 100, v35, .ref a5, .int 6, .int 4096, .ref a1, .ref a2, v38, v39, v40, v41, v42, v43])), (a1, .inl (cT 5, 8, .inr (.inr (.inr (.inr f44))))), (a2, .inl (cT 1, 8, .inl (upd f47 x7.toNatClampNeg 6))), (a3, .inl (cT 0, 4096, .inl (upd (upd (upd (upd (upd (upd f49 0 (vp_nar .byte (vp_nar .byte y5))) 1 (vp_nar .byte (vp_nar .byte y6))) 2 (vp_nar .byte (vp_nar .byte y7))) 3 (vp_nar .byte (vp_nar .byte y8))) 4 (vp_nar .byte (vp_nar .byte y9))) 5 (vp_nar .byte (vp_nar .byte y10))))), (a4, .inl (cT 4, 1024, .inr (.inr (.inr (.inr (va_up (va_up f54 0 (some q3)) 1 (some q4))))))), (a5, .inl (cT 0, 1024, .inl (upd (upd (upd (upd (upd (upd (upd (upd (upd (upd f57 0 110) 1 117) 2 108) 3 108) 0 (vp_nar .byte y5)) 1 (vp_nar .byte y6)) 2 (vp_nar .byte y7)) 3 (vp_nar .byte y8)) 4 (vp_nar .byte y9)) 5 (vp_nar .byte y10)))), (a6, .inl (cT 0, 4096, .inl (upd (upd (upd (upd f58 0 110) 1 117) 2 108) 3 108))), (q3, .inr (6, [.int 0, .long 0, .int 0, .int 0, .int 0, .int 1])), (q4, .inr (6, [.int 4, .long 0, .int 0, .int 4, .int 0, .int 5]))] t) A) := by
  refine Met.ofW (cc := prog_13_method_92_code) (maxL := 4) (ret := none) (by decide) rfl ?_
  intro p e s m args below meth c s₁ B hml hv
  obtain ⟨rfl, hsz, hZ, hP, hK, hD0⟩ := hv
  have hx := B.exec
  have hb := B.bytes
  have hr := B.returns
  have hts := atoms_spec (ws := wyM_one0) B.pre
  have htx := fun w h => hts w (List.mem_cons_of_mem _ h)
  have hown : s.vm.findClass "ValueBenchModel" = some m.cls := findClass_of_methodNamed B.named
  have hlocks := B.notSynchronized
  subst hsz
  have hD := hD0.self (sz := s.heap.size)
  generalize hAe : va_A [(a0, .inr (5, [v17, .ref a4, v18, .ref a6, v19, v20, v21, v22, v23, v24, v25, v26, v27, v28, v29, v30, v31, v32, v33, v34, v35, .ref a5, v36, v37, .ref a1, .ref a2, v38, v39, v40, v41, v42, v43])), (a1, .inl (cT 5, 8, .inr (.inr (.inr (.inr f44))))), (a2, .inl (cT 1, 8, .inl f47)), (a3, .inl (cT 0, 4096, .inl f49)), (a4, .inl (cT 4, 1024, .inr (.inr (.inr (.inr f54))))), (a5, .inl (cT 0, 1024, .inl f57)), (a6, .inl (cT 0, 4096, .inl f58))] s.heap.size = A at hD hZ ⊢
  have hA : ∀ q : Nat, s.heap.size ≤ q → A q := fun q h => by rw [← hAe]; exact Or.inr h
  have hS : va_S A s.heap s.heap [] := va_S.rf
  have hP : va_P D xcl [(a0, .inr (5, [v17, .ref a4, v18, .ref a6, v19, v20, v21, v22, v23, v24, v25, v26, v27, v28, v29, v30, v31, v32, v33, v34, v35, .ref a5, v36, v37, .ref a1, .ref a2, v38, v39, v40, v41, v42, v43])), (a1, .inl (cT 5, 8, .inr (.inr (.inr (.inr f44))))), (a2, .inl (cT 1, 8, .inl f47)), (a3, .inl (cT 0, 4096, .inl f49)), (a4, .inl (cT 4, 1024, .inr (.inr (.inr (.inr f54))))), (a5, .inl (cT 0, 1024, .inl f57)), (a6, .inl (cT 0, 4096, .inl f58))] s.heap := hP
  have hl := lv_entry ([.ref a0, .int x7, .int 6, .int x12]) (n := 4) (Nat.le_of_ble_eq_true rfl)
  rw [lg_entry_eq]
  generalize (lg_sl ([.ref a0, .int x7, .int 6, .int x12]) ++ List.replicate (4 - (lg_sl ([.ref a0, .int x7, .int 6, .int x12])).length) Slot.unset).toArray = ls at hl ⊢
  have hl : lv_has ls 4 [(0, .ref a0), (1, .int x7), (2, .int 6), (3, .int x12)] := hl
  refine lv_aload_n hx hb dM_one0_0 rfl (lv_at hl 0 rfl) ?_
  obtain ⟨hPc, hDc, hFc⟩ := xcut (wc := [(a0, .inr (5, [v17, .ref a4, v18, .ref a6, v19, v20, v21, v22, v23, v24, v25, v26, v27, v28, v29, v30, v31, v32, v33, v34, v35, .ref a5, v36, v37, .ref a1, .ref a2, v38, v39, v40, v41, v42, v43]))]) hP hD hS hA [0] rfl rfl (by decide)
  refine va_callv (va_runV (C := "ValueBenchModel") (As := []) (rest := []) ⟨hx, hb, hml, hown, htx⟩ (cM_begin_0 l hl9 D cT aK aV s.heap.size a0 v17 (.ref a4) v18 (.ref a6) v19 v20 v21 v22 v23 v24 v25 v26 v27 v28 v29 v30 v31 v32 v33 v34 v35 (.ref a5) v36 v37 (.ref a1) (.ref a2) v38 v39 v40 v41 v42 v43) ⟨callB_of 0 htx (xw_goodC kw_5_209) rfl rfl rfl (htx _ kw_1_5) (htx _ kw_5_206) ⟨by decide, by decide, by decide +kernel⟩ ⟨Nat.le_of_ble_eq_true rfl, Nat.le_of_ble_eq_true rfl⟩, (htx _ kw_5_208), (htx _ kp_M_begin)⟩ ⟨xPre_blind, va_recv hK hP (ci := 5) rfl (q0 := 0) rfl, (fun U hU hW => ⟨rfl, xPre_of hZ hS hFc hPc hDc hK U hU hW⟩)⟩ rfl rfl hl.1 rfl (lv_room (Nat.le_of_ble_eq_true rfl)) dM_one0_1 ⟨Nat.le_of_ble_eq_true rfl, Nat.le_of_ble_eq_true rfl⟩) hS (fun q _ h => hFc q h) hFc (fun u9 t H1 locs ht hvm hr9 hB hz1 hk1 hS => ?_)
  obtain ⟨hP1, hK1, hD1⟩ := hB
  rw [ht] at hP1
  obtain ⟨hP, hD⟩ := xjoin (W := [(a1, .inl (cT 5, 8, .inr (.inr (.inr (.inr f44))))), (a2, .inl (cT 1, 8, .inl f47)), (a3, .inl (cT 0, 4096, .inl f49)), (a4, .inl (cT 4, 1024, .inr (.inr (.inr (.inr f54))))), (a5, .inl (cT 0, 1024, .inl f57)), (a6, .inl (cT 0, 4096, .inl f58)), (a0, .inr (5, [.int 0, .ref a4, .int 0, .ref a6, .int 0, v20, v21, .int 0, v23, .int 0, v25, v26, .int 0, v28, v29, v30, v31, v32, v33, v34, v35, .ref a5, .int 0, .int 1000000000, .ref a1, .ref a2, v38, v39, v40, v41, v42, v43]))]) hP hD [0] [1, 2, 3, 4, 5, 6] 6 rfl rfl (by decide) (by decide) hk1 hFc hP1 hD1
  generalize H1 = H at hP hS ⊢
  refine lv_aload_n hx hb dM_one0_4 rfl (lv_at hl 0 rfl) ?_
  refine lv_iload_n hx hb dM_one0_5 rfl (lv_at hl 1 rfl) ?_
  obtain ⟨hPc, hDc, hFc⟩ := xcut (wc := []) hP hD hS hA [] rfl rfl (by decide)
  refine va_calli (va_runV (C := "ValueBenchModel") (As := [.int x7]) (rest := []) ⟨hx, hb, hml, hown, htx⟩ (cM_out_2 l hl9 D cT aK aV H.size a0 x7 h8 h9 h10 h11) ⟨callB_of 1 htx (xw_goodC kw_5_217) rfl rfl rfl (htx _ kw_1_5) (htx _ kw_5_214) ⟨by decide, by decide, by decide +kernel⟩ ⟨Nat.le_of_ble_eq_true rfl, Nat.le_of_ble_eq_true rfl⟩, (htx _ kw_5_216), (htx _ kp_M_out)⟩ ⟨xPre_blind, va_recv hK hP (ci := 5) rfl (q0 := 6) rfl, (fun U hU hW => ⟨rfl, xPre_of hZ hS hFc hPc hDc hK U hU hW⟩)⟩ rfl rfl hl.1 rfl (lv_room (Nat.le_of_ble_eq_true rfl)) dM_one0_6 ⟨Nat.le_of_ble_eq_true rfl, Nat.le_of_ble_eq_true rfl⟩) hS (fun q _ h => hFc q h) hFc (fun r1 u9 t H1 locs ht hvm hr9 hB hz1 hk1 hS => ?_)
  obtain ⟨hP1, hK1, hD1⟩ := hB
  rw [ht] at hP1
  obtain ⟨hP, hD⟩ := xjoin (W := [(a1, .inl (cT 5, 8, .inr (.inr (.inr (.inr f44))))), (a2, .inl (cT 1, 8, .inl f47)), (a3, .inl (cT 0, 4096, .inl f49)), (a4, .inl (cT 4, 1024, .inr (.inr (.inr (.inr f54))))), (a5, .inl (cT 0, 1024, .inl f57)), (a6, .inl (cT 0, 4096, .inl f58)), (a0, .inr (5, [.int 0, .ref a4, .int 0, .ref a6, .int 0, v20, v21, .int 0, v23, .int 0, v25, v26, .int 0, v28, v29, v30, v31, v32, v33, v34, v35, .ref a5, .int 0, .int 1000000000, .ref a1, .ref a2, v38, v39, v40, v41, v42, v43]))]) hP hD [] [0, 1, 2, 3, 4, 5, 6] 7 rfl rfl (by decide) (by decide) hk1 hFc hP1 hD1
  generalize H1 = H at hP hS ⊢
  rw [hr9]
  refine W.eq (g2 := F0 m 9 ls [.int 0]) rfl ?_
  refine lv_if_ne (tgt := 30) hx hb dM_one0_9 (by decide) (fun h => ((by revert h; decide : False)).elim) (fun _ => ?_)
  refine lv_iload_n hx hb dM_one0_12 rfl (lv_at hl 2 rfl) ?_
  refine lv_if_lt (tgt := 30) hx hb dM_one0_13 (by decide) (fun h => ((by revert h; decide : False)).elim) (fun _ => ?_)
  refine lv_iload_n hx hb dM_one0_16 rfl (lv_at hl 2 rfl) ?_
  refine lv_bipush (v := 13) hx hb dM_one0_17 (by decide) ?_
  refine lv_icmp_gt (tgt := 30) hx hb dM_one0_19 (by decide) (fun h => ((by revert h; decide : False)).elim) (fun _ => ?_)
  refine lv_aload_n hx hb dM_one0_22 rfl (lv_at hl 0 rfl) ?_
  refine lv_iload_n hx hb dM_one0_23 rfl (lv_at hl 3 rfl) ?_
  obtain ⟨hPc, hDc, hFc⟩ := xcut (wc := []) hP hD hS hA [] rfl rfl (by decide)
  refine va_calli (va_runV (C := "ValueBenchModel") (As := [.int x12]) (rest := []) ⟨hx, hb, hml, hown, htx⟩ (cM_out_2 l hl9 D cT aK aV H.size a0 x12 h13 h14 h15 h16) ⟨callB_of 1 htx (xw_goodC kw_5_217) rfl rfl rfl (htx _ kw_1_5) (htx _ kw_5_214) ⟨by decide, by decide, by decide +kernel⟩ ⟨Nat.le_of_ble_eq_true rfl, Nat.le_of_ble_eq_true rfl⟩, (htx _ kw_5_216), (htx _ kp_M_out)⟩ ⟨xPre_blind, va_recv hK hP (ci := 5) rfl (q0 := 6) rfl, (fun U hU hW => ⟨rfl, xPre_of hZ hS hFc hPc hDc hK U hU hW⟩)⟩ rfl rfl hl.1 rfl (lv_room (Nat.le_of_ble_eq_true rfl)) dM_one0_24 ⟨Nat.le_of_ble_eq_true rfl, Nat.le_of_ble_eq_true rfl⟩) hS (fun q _ h => hFc q h) hFc (fun r2 u9 t H1 locs ht hvm hr9 hB hz1 hk1 hS => ?_)
  obtain ⟨hP1, hK1, hD1⟩ := hB
  rw [ht] at hP1
  obtain ⟨hP, hD⟩ := xjoin (W := [(a1, .inl (cT 5, 8, .inr (.inr (.inr (.inr f44))))), (a2, .inl (cT 1, 8, .inl f47)), (a3, .inl (cT 0, 4096, .inl f49)), (a4, .inl (cT 4, 1024, .inr (.inr (.inr (.inr f54))))), (a5, .inl (cT 0, 1024, .inl f57)), (a6, .inl (cT 0, 4096, .inl f58)), (a0, .inr (5, [.int 0, .ref a4, .int 0, .ref a6, .int 0, v20, v21, .int 0, v23, .int 0, v25, v26, .int 0, v28, v29, v30, v31, v32, v33, v34, v35, .ref a5, .int 0, .int 1000000000, .ref a1, .ref a2, v38, v39, v40, v41, v42, v43]))]) hP hD [] [0, 1, 2, 3, 4, 5, 6] 7 rfl rfl (by decide) (by decide) hk1 hFc hP1 hD1
  generalize H1 = H at hP hS ⊢
  rw [hr9]
  refine W.eq (g2 := F0 m 27 ls [.int 0]) rfl ?_
  refine lv_if_eq (tgt := 38) hx hb dM_one0_27 (by decide) (fun _ => ?_) (fun h => ((by revert h; decide : False)).elim)
  refine lv_aload_n hx hb dM_one0_38 rfl (lv_at hl 0 rfl) ?_
  refine lv_iload_n hx hb dM_one0_39 rfl (lv_at hl 1 rfl) ?_
  refine lv_iconst (v := 1) hx hb dM_one0_40 (by decide) ?_
  refine lv_iload_n hx hb dM_one0_41 rfl (lv_at hl 2 rfl) ?_
  refine lv_iload_n hx hb dM_one0_42 rfl (lv_at hl 3 rfl) ?_
  refine lv_iload_n hx hb dM_one0_43 rfl (lv_at hl 3 rfl) ?_
  obtain ⟨hPc, hDc, hFc⟩ := xcut (wc := [(a0, .inr (5, [.int 0, .ref a4, .int 0, .ref a6, .int 0, v20, v21, .int 0, v23, .int 0, v25, v26, .int 0, v28, v29, v30, v31, v32, v33, v34, v35, .ref a5, .int 0, .int 1000000000, .ref a1, .ref a2, v38, v39, v40, v41, v42, v43])), (a1, .inl (cT 5, 8, .inr (.inr (.inr (.inr f44))))), (a2, .inl (cT 1, 8, .inl f47)), (a3, .inl (cT 0, 4096, .inl f49)), (a4, .inl (cT 4, 1024, .inr (.inr (.inr (.inr f54))))), (a5, .inl (cT 0, 1024, .inl f57)), (a6, .inl (cT 0, 4096, .inl f58))]) hP hD hS hA [6, 0, 1, 2, 3, 4, 5] rfl rfl (by decide)
  refine va_callv (vx_runVW (C := "ValueBenchModel") (As := [.int x7, .int 1, .int 6, .int x12, .int x12]) (rest := []) ⟨hx, hb, hml, hown, htx⟩ (cM_finish_22 l hl9 D cT aK aV H.size a0 a1 a2 a3 a4 a5 a6 x7 x12 x12 (.int 0) v20 v21 (.int 0) v23 (.int 0) v25 v26 (.int 0) v28 v29 v30 v31 v32 v33 v34 v35 1000000000 v38 v39 v40 v41 v42 v43 f44 f47 f49 f54 f57 f58 h8 h9 h10 h11 h13 h14 h15 h16 (by first | rfl | exact h45 | exact h46 | exact h48 | exact h50 | exact h51 | exact h52 | exact h53 | exact h55 | exact h56) (by first | rfl | exact h45 | exact h46 | exact h48 | exact h50 | exact h51 | exact h52 | exact h53 | exact h55 | exact h56) (by first | rfl | exact h45 | exact h46 | exact h48 | exact h50 | exact h51 | exact h52 | exact h53 | exact h55 | exact h56) (by first | rfl | exact h45 | exact h46 | exact h48 | exact h50 | exact h51 | exact h52 | exact h53 | exact h55 | exact h56) (by first | rfl | exact h45 | exact h46 | exact h48 | exact h50 | exact h51 | exact h52 | exact h53 | exact h55 | exact h56) (by first | rfl | exact h45 | exact h46 | exact h48 | exact h50 | exact h51 | exact h52 | exact h53 | exact h55 | exact h56) (by first | rfl | exact h45 | exact h46 | exact h48 | exact h50 | exact h51 | exact h52 | exact h53 | exact h55 | exact h56) (by first | rfl | exact h45 | exact h46 | exact h48 | exact h50 | exact h51 | exact h52 | exact h53 | exact h55 | exact h56) (by first | rfl | exact h45 | exact h46 | exact h48 | exact h50 | exact h51 | exact h52 | exact h53 | exact h55 | exact h56)) (xcVW 5 htx (xw_goodC kw_6_195) rfl rfl rfl (htx _ kw_1_5) (htx _ kw_6_192) ⟨by decide, by decide, by decide +kernel⟩ ⟨Nat.le_of_ble_eq_true rfl, Nat.le_of_ble_eq_true rfl⟩ (htx _ kw_6_194) (htx _ kp_M_finish)) ⟨xPre_blind, va_recv hK hP (ci := 5) rfl (q0 := 6) rfl, (fun U hU hW => ⟨rfl, xPre_of hZ hS hFc hPc hDc hK U hU hW⟩)⟩ rfl rfl hl.1 rfl (lv_room (Nat.le_of_ble_eq_true rfl)) dM_one0_44 ⟨Nat.le_of_ble_eq_true rfl, Nat.le_of_ble_eq_true rfl⟩) hS (fun q _ h => hFc q h) hFc (fun u9 t H1 locs ht hvm hr9 hB hz1 hk1 hS => ?_)
  obtain ⟨q3, q4, y5, y6, y7, y8, y9, y10, hP1, hK1, hD1⟩ := hB
  rw [ht] at hP1
  obtain ⟨hP, hD⟩ := xjoin (W := [(a0, .inr (5, [.int 0, .ref a4, .int 2, .ref a6, .int 4, v20, v21, .int 0, v23, .int 0, v25, v26, .int 0, v28, v29, .ref a3, .int 4, .int 4, .int 0, .int 100, v35, .ref a5, .int 6, .int 4096, .ref a1, .ref a2, v38, v39, v40, v41, v42, v43])), (a1, .inl (cT 5, 8, .inr (.inr (.inr (.inr f44))))), (a2, .inl (cT 1, 8, .inl (upd f47 x7.toNatClampNeg 6))), (a3, .inl (cT 0, 4096, .inl (upd (upd (upd (upd (upd (upd f49 0 (vp_nar .byte (vp_nar .byte y5))) 1 (vp_nar .byte (vp_nar .byte y6))) 2 (vp_nar .byte (vp_nar .byte y7))) 3 (vp_nar .byte (vp_nar .byte y8))) 4 (vp_nar .byte (vp_nar .byte y9))) 5 (vp_nar .byte (vp_nar .byte y10))))), (a4, .inl (cT 4, 1024, .inr (.inr (.inr (.inr (va_up (va_up f54 0 (some q3)) 1 (some q4))))))), (a5, .inl (cT 0, 1024, .inl (upd (upd (upd (upd (upd (upd (upd (upd (upd (upd f57 0 110) 1 117) 2 108) 3 108) 0 (vp_nar .byte y5)) 1 (vp_nar .byte y6)) 2 (vp_nar .byte y7)) 3 (vp_nar .byte y8)) 4 (vp_nar .byte y9)) 5 (vp_nar .byte y10)))), (a6, .inl (cT 0, 4096, .inl (upd (upd (upd (upd f58 0 110) 1 117) 2 108) 3 108))), (q3, .inr (6, [.int 0, .long 0, .int 0, .int 0, .int 0, .int 1])), (q4, .inr (6, [.int 4, .long 0, .int 0, .int 4, .int 0, .int 5]))]) hP hD [6, 0, 1, 2, 3, 4, 5] [] 0 rfl rfl (by decide) (by decide) hk1 hFc hP1 hD1
  generalize H1 = H at hP hS ⊢
  obtain ⟨hP9, hD9⟩ := xsub (wc := [(a0, .inr (5, [.int 0, .ref a4, .int 2, .ref a6, .int 4, v20, v21, .int 0, v23, .int 0, v25, v26, .int 0, v28, v29, .ref a3, .int 4, .int 4, .int 0, .int 100, v35, .ref a5, .int 6, .int 4096, .ref a1, .ref a2, v38, v39, v40, v41, v42, v43])), (a1, .inl (cT 5, 8, .inr (.inr (.inr (.inr f44))))), (a2, .inl (cT 1, 8, .inl (upd f47 x7.toNatClampNeg 6))), (a3, .inl (cT 0, 4096, .inl (upd (upd (upd (upd (upd (upd f49 0 (vp_nar .byte (vp_nar .byte y5))) 1 (vp_nar .byte (vp_nar .byte y6))) 2 (vp_nar .byte (vp_nar .byte y7))) 3 (vp_nar .byte (vp_nar .byte y8))) 4 (vp_nar .byte (vp_nar .byte y9))) 5 (vp_nar .byte (vp_nar .byte y10))))), (a4, .inl (cT 4, 1024, .inr (.inr (.inr (.inr (va_up (va_up f54 0 (some q3)) 1 (some q4))))))), (a5, .inl (cT 0, 1024, .inl (upd (upd (upd (upd (upd (upd (upd (upd (upd (upd f57 0 110) 1 117) 2 108) 3 108) 0 (vp_nar .byte y5)) 1 (vp_nar .byte y6)) 2 (vp_nar .byte y7)) 3 (vp_nar .byte y8)) 4 (vp_nar .byte y9)) 5 (vp_nar .byte y10)))), (a6, .inl (cT 0, 4096, .inl (upd (upd (upd (upd f58 0 110) 1 117) 2 108) 3 108))), (q3, .inr (6, [.int 0, .long 0, .int 0, .int 0, .int 0, .int 1])), (q4, .inr (6, [.int 4, .long 0, .int 0, .int 4, .int 0, .int 5]))]) hP hD [0, 1, 2, 3, 4, 5, 6, 7, 8] rfl rfl (by decide)
  refine W.widen (k := 2) (n := 12) (Nat.le_of_ble_eq_true rfl) (Nat.le_of_ble_eq_true rfl) ?_
  exact W.vret hx hb hr (fun t ht hW => ⟨⟨(), rfl, trivial, q3, q4, y5, y6, y7, y8, y9, y10, by rw [ht]; exact hP9, va_K.moved hW.alike hK, hD9⟩, hS.F ht⟩) hS.2.2 dM_one0_47
set_option maxHeartbeats 400000000 in
set_option maxRecDepth 100000 in
theorem cM_finish_23 (l : Launch) (hl9 : l.stackTraces = false) (D : va_G) (cT : Nat → ClassId) (aK aV : Nat → Nat) (sz : Nat) (a0 : Nat) (a1 : Nat) (a2 : Nat) (a3 : Nat) (a4 : Nat) (a5 : Nat) (a6 : Nat) (a7 : Nat) (x8 : Int32) (x13 : Int32) (x18 : Int32) (v19 : Value) (v20 : Value) (v21 : Value) (v22 : Value) (v23 : Value) (v24 : Value) (v25 : Value) (v26 : Value) (v27 : Value) (v28 : Value) (v29 : Value) (v30 : Value) (v31 : Value) (v32 : Value) (v33 : Value) (v34 : Value) (v35 : Value) (x36 : Int32) (v37 : Value) (v38 : Value) (v39 : Value) (v40 : Value) (v41 : Value) (v42 : Value) (f43 : Nat → Option Nat) (f46 : Nat → Int32) (f48 : Nat → Int32) (f53 : Nat → Option Nat) (f56 : Nat → Int32) (f57 : Nat → Int32) (f58 : Nat → Int32) (h9 : ¬ x8 < 0) (h10 : ¬ 7 < x8) (h11 : x8 ≤ 7) (h12 : vp_in x8 8) (h14 : ¬ x13 < 0) (h15 : ¬ 7 < x13) (h16 : x13 ≤ 7) (h17 : vp_in x13 8) (h44 : f43 x13.toNatClampNeg = some a3) (h45 : f43 x8.toNatClampNeg = some a7) (h47 : f46 x13.toNatClampNeg = 4) (h49 : f48 0 = 110) (h50 : f48 1 = 117) (h51 : f48 2 = 108) (h52 : f48 3 = 108) (h54 : f53 0 = none) (h55 : f53 1 = none) : xMet l yM_finish wyM_finish 8 2 12 176 D cT aK aV sz [.ref a0, .int x8, .int 1, .int 6, .int x13, .int x18] [(a0, .inr (5, [v19, .ref a4, .int 0, .ref a6, .int 0, v20, v21, v22, v23, v24, v25, v26, v27, v28, v29, v30, v31, v32, v33, v34, v35, .ref a5, .int 0, .int x36, .ref a1, .ref a2, v37, v38, v39, v40, v41, v42])), (a1, .inl (cT 5, 8, .inr (.inr (.inr (.inr f43))))), (a2, .inl (cT 1, 8, .inl f46)), (a3, .inl (cT 0, 4096, .inl f48)), (a4, .inl (cT 4, 1024, .inr (.inr (.inr (.inr f53))))), (a5, .inl (cT 0, 1024, .inl f56)), (a6, .inl (cT 0, 4096, .inl f57)), (a7, .inl (cT 0, 4096, .inl f58))] (fun A => va_Qv (fun _ : Unit => True) (fun _ t => ∃ (r1 : Nat) (r2 : Nat) (y4 : Int32) (y5 : Int32) (y6 : Int32) (y7 : Int32) (y8 : Int32) (y9 : Int32), xB D xcl cT A [(a0, .inr (5, [v19, .ref a4, .int 2, .ref a6, .int 4, v20, v21, v22, v23, v24, v25, v26, v27, v28, v29, .ref a3, .int 4, .int 4, .int 0, .int 100, v35, .ref a5, .int 6, .int 4096, .ref a1, .ref a2, v37, v38, v39, v40, v41, v42])), (a1, .inl (cT 5, 8, .inr (.inr (.inr (.inr f43))))), (a2, .inl (cT 1, 8, .inl (upd f46 x8.toNatClampNeg 6))), (a3, .inl (cT 0, 4096, .inl f48)), (a4, .inl (cT 4, 1024, .inr (.inr (.inr (.inr (va_up (va_up f53 0 (some r1)) 1 (some r2))))))), (a5, .inl (cT 0, 1024, .inl (upd (upd (upd (upd (upd (upd (upd (upd (upd (upd f56 0 110) 1 117) 2 108) 3 108) 0 (vp_nar .byte y4)) 1 (vp_nar .byte y5)) 2 (vp_nar .byte y6)) 3 (vp_nar .byte y7)) 4 (vp_nar .byte y8)) 5 (vp_nar .byte y9)))), (a6, .inl (cT 0, 4096, .inl (upd (upd (upd (upd f57 0 110) 1 117) 2 108) 3 108))), (a7, .inl (cT 0, 4096, .inl (upd (upd (upd (upd (upd (upd f58 0 (vp_nar .byte (vp_nar .byte y4))) 1 (vp_nar .byte (vp_nar .byte y5))) 2 (vp_nar .byte (vp_nar .byte y6))) 3 (vp_nar .byte (vp_nar .byte y7))) 4 (vp_nar .byte (vp_nar .byte y8))) 5 (vp_nar .byte (vp_nar .byte y9))))), (r1, .inr (6, [.int 0, .long 0, .int 0, .int 0, .int 0, .int 1])), (r2, .inr (6, [.int 4, .long 0, .int 0, .int 4, .int 0, .int 5]))] t) A) := by
  refine va_MetW (cc := prog_13_method_90_code) (maxL := 10) (ret := none) (hh := [(0, 128, 131, 83), (0, 128, 149, 86)]) (by decide) rfl ?_
  intro p e s m args below meth c s₁ B hml hv
  obtain ⟨rfl, hsz, hZ, hP, hK, hD0⟩ := hv
  have hx := B.exec
  have hb := B.bytes
  have hr := B.returns
  have hts := atoms_spec (ws := wyM_finish) B.pre
  have htx := fun w h => hts w (List.mem_cons_of_mem _ h)
  have hown : s.vm.findClass "ValueBenchModel" = some m.cls := findClass_of_methodNamed B.named
  have hlocks := B.notSynchronized
  subst hsz
  have hD := hD0.self (sz := s.heap.size)
  generalize hAe : va_A [(a0, .inr (5, [v19, .ref a4, .int 0, .ref a6, .int 0, v20, v21, v22, v23, v24, v25, v26, v27, v28, v29, v30, v31, v32, v33, v34, v35, .ref a5, .int 0, .int x36, .ref a1, .ref a2, v37, v38, v39, v40, v41, v42])), (a1, .inl (cT 5, 8, .inr (.inr (.inr (.inr f43))))), (a2, .inl (cT 1, 8, .inl f46)), (a3, .inl (cT 0, 4096, .inl f48)), (a4, .inl (cT 4, 1024, .inr (.inr (.inr (.inr f53))))), (a5, .inl (cT 0, 1024, .inl f56)), (a6, .inl (cT 0, 4096, .inl f57)), (a7, .inl (cT 0, 4096, .inl f58))] s.heap.size = A at hD hZ ⊢
  have hA : ∀ q : Nat, s.heap.size ≤ q → A q := fun q h => by rw [← hAe]; exact Or.inr h
  have hS : va_S A s.heap s.heap [] := va_S.rf
  have hP : va_P D xcl [(a0, .inr (5, [v19, .ref a4, .int 0, .ref a6, .int 0, v20, v21, v22, v23, v24, v25, v26, v27, v28, v29, v30, v31, v32, v33, v34, v35, .ref a5, .int 0, .int x36, .ref a1, .ref a2, v37, v38, v39, v40, v41, v42])), (a1, .inl (cT 5, 8, .inr (.inr (.inr (.inr f43))))), (a2, .inl (cT 1, 8, .inl f46)), (a3, .inl (cT 0, 4096, .inl f48)), (a4, .inl (cT 4, 1024, .inr (.inr (.inr (.inr f53))))), (a5, .inl (cT 0, 1024, .inl f56)), (a6, .inl (cT 0, 4096, .inl f57)), (a7, .inl (cT 0, 4096, .inl f58))] s.heap := hP
  have hl := lv_entry ([.ref a0, .int x8, .int 1, .int 6, .int x13, .int x18]) (n := 10) (Nat.le_of_ble_eq_true rfl)
  rw [lg_entry_eq]
  generalize (lg_sl ([.ref a0, .int x8, .int 1, .int 6, .int x13, .int x18]) ++ List.replicate (10 - (lg_sl ([.ref a0, .int x8, .int 1, .int 6, .int x13, .int x18])).length) Slot.unset).toArray = ls at hl ⊢
  have hl : lv_has ls 10 [(0, .ref a0), (1, .int x8), (2, .int 1), (3, .int 6), (4, .int x13), (5, .int x18)] := hl
  have htab := vx_table (x := yM_finish) B (hts _ List.mem_cons_self)
  refine lv_aload_n hx hb dM_finish_0 rfl (lv_at hl 0 rfl) ?_
  refine lv_iload hx hb dM_finish_1 (lv_at hl 4 rfl) ?_
  obtain ⟨hPc, hDc, hFc⟩ := xcut (wc := [(a0, .inr (5, [v19, .ref a4, .int 0, .ref a6, .int 0, v20, v21, v22, v23, v24, v25, v26, v27, v28, v29, v30, v31, v32, v33, v34, v35, .ref a5, .int 0, .int x36, .ref a1, .ref a2, v37, v38, v39, v40, v41, v42])), (a1, .inl (cT 5, 8, .inr (.inr (.inr (.inr f43))))), (a2, .inl (cT 1, 8, .inl f46)), (a3, .inl (cT 0, 4096, .inl f48)), (a4, .inl (cT 4, 1024, .inr (.inr (.inr (.inr f53)))))]) hP hD hS hA [0, 1, 2, 3, 4] rfl rfl (by decide)
  refine va_callr (va_runV (C := "ValueBenchModel") (As := [.int x13]) (rest := []) ⟨hx, hb, hml, hown, htx⟩ (cM_register_0 l hl9 D cT aK aV s.heap.size a0 a1 a2 a3 a4 x13 v19 (.ref a6) (.int 0) v20 v21 v22 v23 v24 v25 v26 v27 v28 v29 v30 v31 v32 v33 v34 v35 (.ref a5) (.int 0) (.int x36) v37 v38 v39 v40 v41 v42 f43 f46 f48 f53 h14 h15 h16 h17 (by first | rfl | exact h44 | exact h45 | exact h47 | exact h49 | exact h50 | exact h51 | exact h52 | exact h54 | exact h55) (by first | rfl | exact h44 | exact h45 | exact h47 | exact h49 | exact h50 | exact h51 | exact h52 | exact h54 | exact h55) (by first | rfl | exact h44 | exact h45 | exact h47 | exact h49 | exact h50 | exact h51 | exact h52 | exact h54 | exact h55) (by first | rfl | exact h44 | exact h45 | exact h47 | exact h49 | exact h50 | exact h51 | exact h52 | exact h54 | exact h55) (by first | rfl | exact h44 | exact h45 | exact h47 | exact h49 | exact h50 | exact h51 | exact h52 | exact h54 | exact h55) (by first | rfl | exact h44 | exact h45 | exact h47 | exact h49 | exact h50 | exact h51 | exact h52 | exact h54 | exact h55) (by first | rfl | exact h44 | exact h45 | exact h47 | exact h49 | exact h50 | exact h51 | exact h52 | exact h54 | exact h55)) ⟨callB_of 1 htx (xw_goodC kw_6_170) rfl rfl rfl (htx _ kw_1_5) (htx _ kw_6_167) ⟨by decide, by decide, by decide +kernel⟩ ⟨Nat.le_of_ble_eq_true rfl, Nat.le_of_ble_eq_true rfl⟩, (htx _ kw_6_169), (htx _ kp_M_register)⟩ ⟨xPre_blind, va_recv hK hP (ci := 5) rfl (q0 := 0) rfl, (fun U hU hW => ⟨rfl, xPre_of hZ hS hFc hPc hDc hK U hU hW⟩)⟩ rfl rfl hl.1 rfl (lv_room (Nat.le_of_ble_eq_true rfl)) dM_finish_3 ⟨Nat.le_of_ble_eq_true rfl, Nat.le_of_ble_eq_true rfl⟩) hS (fun q _ h => hFc q h) hFc (fun u9 r1 t H1 locs ht hvm hr9 hB hz1 hk1 hS => ?_)
  obtain ⟨hP1, hK1, hD1⟩ := hB
  rw [ht] at hP1
  obtain ⟨hP, hD⟩ := xjoin (W := [(a5, .inl (cT 0, 1024, .inl f56)), (a6, .inl (cT 0, 4096, .inl f57)), (a7, .inl (cT 0, 4096, .inl f58)), (a0, .inr (5, [v19, .ref a4, .int 1, .ref a6, .int 0, v20, v21, v22, v23, v24, v25, v26, v27, v28, v29, .ref a3, .int 4, .int 4, .int 0, .int 100, v35, .ref a5, .int 0, .int x36, .ref a1, .ref a2, v37, v38, v39, v40, v41, v42])), (a1, .inl (cT 5, 8, .inr (.inr (.inr (.inr f43))))), (a2, .inl (cT 1, 8, .inl f46)), (a3, .inl (cT 0, 4096, .inl f48)), (a4, .inl (cT 4, 1024, .inr (.inr (.inr (.inr (va_up f53 0 (some r1))))))), (r1, .inr (6, [.int 0, .long 0, .int 0, .int 0, .int 0, .int 1]))]) hP hD [0, 1, 2, 3, 4] [5, 6, 7] 3 rfl rfl (by decide) (by decide) hk1 hFc hP1 hD1
  generalize H1 = H at hP hS ⊢
  refine W.eq (g2 := F0 m 6 ls [.ref r1]) rfl ?_
  refine lv_astore (lv' := [(6, .ref r1), (0, .ref a0), (1, .int x8), (2, .int 1), (3, .int 6), (4, .int x13), (5, .int x18)]) hx hb dM_finish_6 hl (by decide) rfl (fun ls hl => ?_)
  refine lv_iload_n hx hb dM_finish_8 rfl (lv_at hl 3 rfl) ?_
  refine lv_iconst (v := 1) hx hb dM_finish_9 (by decide) ?_
  refine lv_icmp_ne (tgt := 17) hx hb dM_finish_10 (by decide) (fun h => ((by revert h; decide : False)).elim) (fun _ => ?_)
  refine lv_null hx hb dM_finish_13 ?_
  refine lv_goto (tgt := 23) hx hb dM_finish_14 (by decide) ?_
  refine lv_astoreN (lv' := [(7, .null), (6, .ref r1), (0, .ref a0), (1, .int x8), (2, .int 1), (3, .int 6), (4, .int x13), (5, .int x18)]) hx hb dM_finish_23 hl (by decide) rfl (fun ls hl => ?_)
  refine lv_iload_n hx hb dM_finish_25 rfl (lv_at hl 4 rfl) ?_
  refine lv_if_ne (tgt := 43) hx hb dM_finish_26 (by decide) (fun _ => ?_) (fun h => ((by revert h; decide : False)).elim)
  refine lv_iload_n hx hb dM_finish_43 rfl (lv_at hl 4 rfl) ?_
  refine lv_iconst (v := 1) hx hb dM_finish_44 (by decide) ?_
  refine lv_icmp_ne (tgt := 60) hx hb dM_finish_45 (by decide) (fun h => ((by revert h; decide : False)).elim) (fun _ => ?_)
  refine lv_aload_n hx hb dM_finish_48 rfl (lv_at hl 2 rfl) ?_
  refine lv_iload_n hx hb dM_finish_49 rfl (lv_at hl 5 rfl) ?_
  refine lv_aload hx hb dM_finish_50 (lv_at hl 1 rfl) ?_
  obtain ⟨hPc, hDc, hFc⟩ := xcut (wc := [(a0, .inr (5, [v19, .ref a4, .int 1, .ref a6, .int 0, v20, v21, v22, v23, v24, v25, v26, v27, v28, v29, .ref a3, .int 4, .int 4, .int 0, .int 100, v35, .ref a5, .int 0, .int x36, .ref a1, .ref a2, v37, v38, v39, v40, v41, v42])), (r1, .inr (6, [.int 0, .long 0, .int 0, .int 0, .int 0, .int 1])), (a5, .inl (cT 0, 1024, .inl f56)), (a6, .inl (cT 0, 4096, .inl f57)), (a4, .inl (cT 4, 1024, .inr (.inr (.inr (.inr (va_up f53 0 (some r1)))))))]) hP hD hS hA [3, 8, 0, 1, 7] rfl rfl (by decide)
  refine va_callr (va_runV (C := "ValueBenchModel") (As := [.int 6, .ref r1]) (rest := []) ⟨hx, hb, hml, hown, htx⟩ (cM_one1_6 l hl9 D cT aK aV H.size a0 r1 a5 a6 a4 v19 v20 v21 v22 v23 v24 v25 v26 v27 v28 v29 (.ref a3) (.int 4) (.int 4) (.int 0) (.int 100) v35 x36 (.ref a1) (.ref a2) v37 v38 v39 v40 v41 v42 (.long 0) (.int 0) (.int 0) (.int 0) (.int 1) f56 f57 (va_up f53 0 (some r1)) (by first | rfl | exact h44 | exact h45 | exact h47 | exact h49 | exact h50 | exact h51 | exact h52 | exact h55)) ⟨callB_of 2 htx (xw_goodC kw_6_237) rfl rfl rfl (htx _ kw_1_5) (htx _ kw_6_234) ⟨by decide, by decide, by decide +kernel⟩ ⟨Nat.le_of_ble_eq_true rfl, Nat.le_of_ble_eq_true rfl⟩, (htx _ kw_6_236), (htx _ kp_M_one1)⟩ ⟨xPre_blind, va_recv hK hP (ci := 5) rfl (q0 := 3) rfl, (fun U hU hW => ⟨rfl, xPre_of hZ hS hFc hPc hDc hK U hU hW⟩)⟩ rfl rfl hl.1 rfl (lv_room (Nat.le_of_ble_eq_true rfl)) dM_finish_52 ⟨Nat.le_of_ble_eq_true rfl, Nat.le_of_ble_eq_true rfl⟩) hS (fun q _ h => hFc q h) hFc (fun u9 r2 t H1 locs ht hvm hr9 hB hz1 hk1 hS => ?_)
  obtain ⟨hP1, hK1, hD1⟩ := hB
  rw [ht] at hP1
  obtain ⟨hP, hD⟩ := xjoin (W := [(a7, .inl (cT 0, 4096, .inl f58)), (a1, .inl (cT 5, 8, .inr (.inr (.inr (.inr f43))))), (a2, .inl (cT 1, 8, .inl f46)), (a3, .inl (cT 0, 4096, .inl f48)), (a0, .inr (5, [v19, .ref a4, .int 2, .ref a6, .int 4, v20, v21, v22, v23, v24, v25, v26, v27, v28, v29, .ref a3, .int 4, .int 4, .int 0, .int 100, v35, .ref a5, .int 0, .int x36, .ref a1, .ref a2, v37, v38, v39, v40, v41, v42])), (r1, .inr (6, [.int 0, .long 0, .int 0, .int 0, .int 0, .int 1])), (a5, .inl (cT 0, 1024, .inl (upd (upd (upd (upd f56 0 110) 1 117) 2 108) 3 108))), (a6, .inl (cT 0, 4096, .inl (upd (upd (upd (upd f57 0 110) 1 117) 2 108) 3 108))), (a4, .inl (cT 4, 1024, .inr (.inr (.inr (.inr (va_up (va_up f53 0 (some r1)) 1 (some r2))))))), (r2, .inr (6, [.int 4, .long 0, .int 0, .int 4, .int 0, .int 5]))]) hP hD [3, 8, 0, 1, 7] [2, 4, 5, 6] 4 rfl rfl (by decide) (by decide) hk1 hFc hP1 hD1
  generalize H1 = H at hP hS ⊢
  refine W.eq (g2 := F0 m 55 ls [.ref r2]) rfl ?_
  refine lv_astore (lv' := [(8, .ref r2), (7, .null), (6, .ref r1), (0, .ref a0), (1, .int x8), (2, .int 1), (3, .int 6), (4, .int x13), (5, .int x18)]) hx hb dM_finish_55 hl (by decide) rfl (fun ls hl => ?_)
  refine lv_goto (tgt := 119) hx hb dM_finish_57 (by decide) ?_
  refine lv_aload_n hx hb dM_finish_119 rfl (lv_at hl 3 rfl) ?_
  refine lv_iload_n hx hb dM_finish_120 rfl (lv_at hl 4 rfl) ?_
  refine lv_aload hx hb dM_finish_121 (lv_at hl 0 rfl) ?_
  obtain ⟨hPc, hDc, hFc⟩ := xcut (wc := [(a0, .inr (5, [v19, .ref a4, .int 2, .ref a6, .int 4, v20, v21, v22, v23, v24, v25, v26, v27, v28, v29, .ref a3, .int 4, .int 4, .int 0, .int 100, v35, .ref a5, .int 0, .int x36, .ref a1, .ref a2, v37, v38, v39, v40, v41, v42])), (r2, .inr (6, [.int 4, .long 0, .int 0, .int 4, .int 0, .int 5])), (a5, .inl (cT 0, 1024, .inl (upd (upd (upd (upd f56 0 110) 1 117) 2 108) 3 108))), (a6, .inl (cT 0, 4096, .inl (upd (upd (upd (upd f57 0 110) 1 117) 2 108) 3 108))), (a1, .inl (cT 5, 8, .inr (.inr (.inr (.inr f43))))), (a7, .inl (cT 0, 4096, .inl f58)), (a2, .inl (cT 1, 8, .inl f46))]) hP hD hS hA [4, 9, 6, 7, 1, 0, 2] rfl rfl (by decide)
  refine va_calli (va_runV (C := "ValueBenchModel") (As := [.int x8, .ref r2]) (rest := []) ⟨hx, hb, hml, hown, htx⟩ (cM_store_3 l hl9 D cT aK aV H.size a0 r2 a5 a6 a1 a7 a2 x8 v19 (.ref a4) (.int 2) (.int 4) v20 v21 v22 v23 v24 v25 v26 v27 v28 v29 (.ref a3) (.int 4) (.int 4) (.int 0) (.int 100) v35 (.int 0) (.int x36) v37 v38 v39 v40 v41 v42 (.long 0) (.int 0) (.int 5) (upd (upd (upd (upd f56 0 110) 1 117) 2 108) 3 108) (upd (upd (upd (upd f57 0 110) 1 117) 2 108) 3 108) f43 f58 f46 h9 h10 h11 h12 (by first | rfl | exact h44 | exact h45 | exact h47 | exact h49 | exact h50 | exact h51 | exact h52) (by first | rfl | exact h44 | exact h45 | exact h47 | exact h49 | exact h50 | exact h51 | exact h52) (by first | rfl | exact h44 | exact h45 | exact h47 | exact h49 | exact h50 | exact h51 | exact h52) (by first | rfl | exact h44 | exact h45 | exact h47 | exact h49 | exact h50 | exact h51 | exact h52) (by first | rfl | exact h44 | exact h45 | exact h47 | exact h49 | exact h50 | exact h51 | exact h52)) ⟨callB_of 2 htx (xw_goodC kw_6_124) rfl rfl rfl (htx _ kw_1_5) (htx _ kw_6_121) ⟨by decide, by decide, by decide +kernel⟩ ⟨Nat.le_of_ble_eq_true rfl, Nat.le_of_ble_eq_true rfl⟩, (htx _ kw_6_123), (htx _ kp_M_store)⟩ ⟨xPre_blind, va_recv hK hP (ci := 5) rfl (q0 := 4) rfl, (fun U hU hW => ⟨rfl, xPre_of hZ hS hFc hPc hDc hK U hU hW⟩)⟩ rfl rfl hl.1 rfl (lv_room (Nat.le_of_ble_eq_true rfl)) dM_finish_123 ⟨Nat.le_of_ble_eq_true rfl, Nat.le_of_ble_eq_true rfl⟩) hS (fun q _ h => hFc q h) hFc (fun r3 u9 t H1 locs ht hvm hr9 hB hz1 hk1 hS => ?_)
  obtain ⟨y4, y5, y6, y7, y8, y9, hP1, hK1, hD1⟩ := hB
  rw [ht] at hP1
  obtain ⟨hP, hD⟩ := xjoin (W := [(a3, .inl (cT 0, 4096, .inl f48)), (r1, .inr (6, [.int 0, .long 0, .int 0, .int 0, .int 0, .int 1])), (a4, .inl (cT 4, 1024, .inr (.inr (.inr (.inr (va_up (va_up f53 0 (some r1)) 1 (some r2))))))), (a0, .inr (5, [v19, .ref a4, .int 2, .ref a6, .int 4, v20, v21, v22, v23, v24, v25, v26, v27, v28, v29, .ref a3, .int 4, .int 4, .int 0, .int 100, v35, .ref a5, .int 6, .int 4096, .ref a1, .ref a2, v37, v38, v39, v40, v41, v42])), (r2, .inr (6, [.int 4, .long 0, .int 0, .int 4, .int 0, .int 5])), (a5, .inl (cT 0, 1024, .inl (upd (upd (upd (upd (upd (upd (upd (upd (upd (upd f56 0 110) 1 117) 2 108) 3 108) 0 (vp_nar .byte y4)) 1 (vp_nar .byte y5)) 2 (vp_nar .byte y6)) 3 (vp_nar .byte y7)) 4 (vp_nar .byte y8)) 5 (vp_nar .byte y9)))), (a6, .inl (cT 0, 4096, .inl (upd (upd (upd (upd f57 0 110) 1 117) 2 108) 3 108))), (a1, .inl (cT 5, 8, .inr (.inr (.inr (.inr f43))))), (a7, .inl (cT 0, 4096, .inl (upd (upd (upd (upd (upd (upd f58 0 (vp_nar .byte (vp_nar .byte y4))) 1 (vp_nar .byte (vp_nar .byte y5))) 2 (vp_nar .byte (vp_nar .byte y6))) 3 (vp_nar .byte (vp_nar .byte y7))) 4 (vp_nar .byte (vp_nar .byte y8))) 5 (vp_nar .byte (vp_nar .byte y9))))), (a2, .inl (cT 1, 8, .inl (upd f46 x8.toNatClampNeg 6)))]) hP hD [4, 9, 6, 7, 1, 0, 2] [3, 5, 8] 3 rfl rfl (by decide) (by decide) hk1 hFc hP1 hD1
  generalize H1 = H at hP hS ⊢
  rw [hr9]
  refine W.eq (g2 := F0 m 126 ls [.int 6]) rfl ?_
  refine lv_istore (lv' := [(9, .int 6), (8, .ref r2), (7, .null), (6, .ref r1), (0, .ref a0), (1, .int x8), (2, .int 1), (3, .int 6), (4, .int x13), (5, .int x18)]) hx hb dM_finish_126 hl (by decide) rfl (fun ls hl => ?_)
  refine lv_goto (tgt := 156) hx hb dM_finish_128 (by decide) ?_
  obtain ⟨hP9, hD9⟩ := xsub (wc := [(a0, .inr (5, [v19, .ref a4, .int 2, .ref a6, .int 4, v20, v21, v22, v23, v24, v25, v26, v27, v28, v29, .ref a3, .int 4, .int 4, .int 0, .int 100, v35, .ref a5, .int 6, .int 4096, .ref a1, .ref a2, v37, v38, v39, v40, v41, v42])), (a1, .inl (cT 5, 8, .inr (.inr (.inr (.inr f43))))), (a2, .inl (cT 1, 8, .inl (upd f46 x8.toNatClampNeg 6))), (a3, .inl (cT 0, 4096, .inl f48)), (a4, .inl (cT 4, 1024, .inr (.inr (.inr (.inr (va_up (va_up f53 0 (some r1)) 1 (some r2))))))), (a5, .inl (cT 0, 1024, .inl (upd (upd (upd (upd (upd (upd (upd (upd (upd (upd f56 0 110) 1 117) 2 108) 3 108) 0 (vp_nar .byte y4)) 1 (vp_nar .byte y5)) 2 (vp_nar .byte y6)) 3 (vp_nar .byte y7)) 4 (vp_nar .byte y8)) 5 (vp_nar .byte y9)))), (a6, .inl (cT 0, 4096, .inl (upd (upd (upd (upd f57 0 110) 1 117) 2 108) 3 108))), (a7, .inl (cT 0, 4096, .inl (upd (upd (upd (upd (upd (upd f58 0 (vp_nar .byte (vp_nar .byte y4))) 1 (vp_nar .byte (vp_nar .byte y5))) 2 (vp_nar .byte (vp_nar .byte y6))) 3 (vp_nar .byte (vp_nar .byte y7))) 4 (vp_nar .byte (vp_nar .byte y8))) 5 (vp_nar .byte (vp_nar .byte y9))))), (r1, .inr (6, [.int 0, .long 0, .int 0, .int 0, .int 0, .int 1])), (r2, .inr (6, [.int 4, .long 0, .int 0, .int 4, .int 0, .int 5]))]) hP hD [3, 7, 9, 0, 2, 5, 6, 8, 1, 4] rfl rfl (by decide)
  refine W.widen (k := 2) (n := 12) (Nat.le_of_ble_eq_true rfl) (Nat.le_of_ble_eq_true rfl) ?_
  exact W.vret hx hb hr (fun t ht hW => ⟨⟨(), rfl, trivial, r1, r2, y4, y5, y6, y7, y8, y9, by rw [ht]; exact hP9, va_K.moved hW.alike hK, hD9⟩, hS.F ht⟩) hS.2.2 dM_finish_156
set_option maxHeartbeats 400000000 in
set_option maxRecDepth 100000 in
theorem cM_one0_16 (l : Launch) (hl9 : l.stackTraces = false) (D : va_G) (cT : Nat → ClassId) (aK aV : Nat → Nat) (sz : Nat) (a0 : Nat) (a1 : Nat) (a2 : Nat) (a3 : Nat) (a4 : Nat) (a5 : Nat) (a6 : Nat) (a7 : Nat) (x8 : Int32) (x13 : Int32) (v18 : Value) (v19 : Value) (v20 : Value) (v21 : Value) (v22 : Value) (v23 : Value) (v24 : Value) (v25 : Value) (v26 : Value) (v27 : Value) (v28 : Value) (v29 : Value) (v30 : Value) (v31 : Value) (v32 : Value) (v33 : Value) (v34 : Value) (v35 : Value) (v36 : Value) (v37 : Value) (v38 : Value) (v39 : Value) (v40 : Value) (v41 : Value) (v42 : Value) (v43 : Value) (v44 : Value) (f45 : Nat → Option Nat) (f48 : Nat → Int32) (f50 : Nat → Int32) (f55 : Nat → Option Nat) (f58 : Nat → Int32) (f59 : Nat → Int32) (f60 : Nat → Int32) (h9 : ¬ x8 < 0) (h10 : ¬ 7 < x8) (h11 : x8 ≤ 7) (h12 : vp_in x8 8) (h14 : ¬ x13 < 0) (h15 : ¬ 7 < x13) (h16 : x13 ≤ 7) (h17 : vp_in x13 8) (h46 : f45 x13.toNatClampNeg = some a3) (h47 : f45 x8.toNatClampNeg = some a7) (h49 : f48 x13.toNatClampNeg = 4) (h51 : f50 0 = 110) (h52 : f50 1 = 117) (h53 : f50 2 = 108) (h54 : f50 3 = 108) (h56 : f55 0 = none) (h57 : f55 1 = none) : xMet l yM_one0 wyM_one0 9 2 12 205 D cT aK aV sz [.ref a0, .int x8, .int 6, .int x13] [(a0, .inr (5, [v18, .ref a4, v19, .ref a6, v20, v21, v22, v23, v24, v25, v26, v27, v28, v29, v30, v31, v32, v33, v34, v35, v36, .ref a5, v37, v38, .ref a1, .ref a2, v39, v40, v41, v42, v43, v44])), (a1, .inl (cT 5, 8, .inr (.inr (.inr (.inr f45))))), (a2, .inl (cT 1, 8, .inl f48)), (a3, .inl (cT 0, 4096, .inl f50)), (a4, .inl (cT 4, 1024, .inr (.inr (.inr (.inr f55))))), (a5, .inl (cT 0, 1024, .inl f58)), (a6, .inl (cT 0, 4096, .inl f59)), (a7, .inl (cT 0, 4096, .inl f60))] (fun A => va_Qv (fun _ : Unit => True) (fun _ t => ∃ (q3 : Nat) (q4 : Nat) (y5 : Int32) (y6 : Int32) (y7 : Int32) (y8 : Int32) (y9 : Int32) (y10 : Int32), xB D xcl cT A [(a0, .inr (5, [.int 0, .ref a4, .int 2, .ref a6, .int 4, v21, v22, .int 0, v24, .int 0, v26, v27, .int 0, v29, v30, .ref a3, .int 4, .int 4, .int 0, .int 100, v36, .ref a5, .int 6, .int 4096, .ref a1, .ref a2, v39, v40, v41, v42, v43, v44])), (a1, .inl (cT 5, 8, .inr (.inr (.inr (.inr f45))))), (a2, .inl (cT 1, 8, .inl (upd f48 x8.toNatClampNeg 6))), (a3, .inl (cT 0, 4096, .inl f50)), (a4, .inl (cT 4, 1024, .inr (.inr (.inr (.inr (va_up (va_up f55 0 (some q3)) 1 (some q4))))))), (a5, .inl (cT 0, 1024, .inl (upd (upd (upd (upd (upd (upd (upd (upd (upd (upd f58 0 110) 1 117) 2 108) 3 108) 0 (vp_nar .byte y5)) 1 (vp_nar .byte y6)) 2 (vp_nar .byte y7)) 3 (vp_nar .byte y8)) 4 (vp_nar .byte y9)) 5 (vp_nar .byte y10)))), (a6, .inl (cT 0, 4096, .inl (upd (upd (upd (upd f59 0 110) 1 117) 2 108) 3 108))), (a7, .inl (cT 0, 4096, .inl (upd (upd (upd (upd (upd (upd f60 0 (vp_nar .byte (vp_nar .byte y5))) 1 (vp_nar .byte (vp_nar .byte y6))) 2 (vp_nar .byte (vp_nar .byte y7))) 3 (vp_nar .byte (vp_nar .byte y8))) 4 (vp_nar .byte (vp_nar .byte y9))) 5 (vp_nar .byte (vp_nar .byte y10))))), (q3, .inr (6, [.int 0, .long 0, .int 0, .int 0, .int 0, .int 1])), (q4, .inr (6, [.int 4, .long 0, .int 0, .int 4, .int 0, .int 5]))] t) A) := by
  refine Met.ofW (cc := prog_13_method_92_code) (maxL := 4) (ret := none) (by decide) rfl ?_
  intro p e s m args below meth c s₁ B hml hv
  obtain ⟨rfl, hsz, hZ, hP, hK, hD0⟩ := hv
  have hx := B.exec
  have hb := B.bytes
  have hr := B.returns
  have hts := atoms_spec (ws := wyM_one0) B.pre
  have htx := fun w h => hts w (List.mem_cons_of_mem _ h)
  have hown : s.vm.findClass "ValueBenchModel" = some m.cls := findClass_of_methodNamed B.named
  have hlocks := B.notSynchronized
  subst hsz
  have hD := hD0.self (sz := s.heap.size)
  generalize hAe : va_A [(a0, .inr (5, [v18, .ref a4, v19, .ref a6, v20, v21, v22, v23, v24, v25, v26, v27, v28, v29, v30, v31, v32, v33, v34, v35, v36, .ref a5, v37, v38, .ref a1, .ref a2, v39, v40, v41, v42, v43, v44])), (a1, .inl (cT 5, 8, .inr (.inr (.inr (.inr f45))))), (a2, .inl (cT 1, 8, .inl f48)), (a3, .inl (cT 0, 4096, .inl f50)), (a4, .inl (cT 4, 1024, .inr (.inr (.inr (.inr f55))))), (a5, .inl (cT 0, 1024, .inl f58)), (a6, .inl (cT 0, 4096, .inl f59)), (a7, .inl (cT 0, 4096, .inl f60))] s.heap.size = A at hD hZ ⊢
  have hA : ∀ q : Nat, s.heap.size ≤ q → A q := fun q h => by rw [← hAe]; exact Or.inr h
  have hS : va_S A s.heap s.heap [] := va_S.rf
  have hP : va_P D xcl [(a0, .inr (5, [v18, .ref a4, v19, .ref a6, v20, v21, v22, v23, v24, v25, v26, v27, v28, v29, v30, v31, v32, v33, v34, v35, v36, .ref a5, v37, v38, .ref a1, .ref a2, v39, v40, v41, v42, v43, v44])), (a1, .inl (cT 5, 8, .inr (.inr (.inr (.inr f45))))), (a2, .inl (cT 1, 8, .inl f48)), (a3, .inl (cT 0, 4096, .inl f50)), (a4, .inl (cT 4, 1024, .inr (.inr (.inr (.inr f55))))), (a5, .inl (cT 0, 1024, .inl f58)), (a6, .inl (cT 0, 4096, .inl f59)), (a7, .inl (cT 0, 4096, .inl f60))] s.heap := hP
  have hl := lv_entry ([.ref a0, .int x8, .int 6, .int x13]) (n := 4) (Nat.le_of_ble_eq_true rfl)
  rw [lg_entry_eq]
  generalize (lg_sl ([.ref a0, .int x8, .int 6, .int x13]) ++ List.replicate (4 - (lg_sl ([.ref a0, .int x8, .int 6, .int x13])).length) Slot.unset).toArray = ls at hl ⊢
  have hl : lv_has ls 4 [(0, .ref a0), (1, .int x8), (2, .int 6), (3, .int x13)] := hl
  refine lv_aload_n hx hb dM_one0_0 rfl (lv_at hl 0 rfl) ?_
  obtain ⟨hPc, hDc, hFc⟩ := xcut (wc := [(a0, .inr (5, [v18, .ref a4, v19, .ref a6, v20, v21, v22, v23, v24, v25, v26, v27, v28, v29, v30, v31, v32, v33, v34, v35, v36, .ref a5, v37, v38, .ref a1, .ref a2, v39, v40, v41, v42, v43, v44]))]) hP hD hS hA [0] rfl rfl (by decide)
  refine va_callv (va_runV (C := "ValueBenchModel") (As := []) (rest := []) ⟨hx, hb, hml, hown, htx⟩ (cM_begin_0 l hl9 D cT aK aV s.heap.size a0 v18 (.ref a4) v19 (.ref a6) v20 v21 v22 v23 v24 v25 v26 v27 v28 v29 v30 v31 v32 v33 v34 v35 v36 (.ref a5) v37 v38 (.ref a1) (.ref a2) v39 v40 v41 v42 v43 v44) ⟨callB_of 0 htx (xw_goodC kw_5_209) rfl rfl rfl (htx _ kw_1_5) (htx _ kw_5_206) ⟨by decide, by decide, by decide +kernel⟩ ⟨Nat.le_of_ble_eq_true rfl, Nat.le_of_ble_eq_true rfl⟩, (htx _ kw_5_208), (htx _ kp_M_begin)⟩ ⟨xPre_blind, va_recv hK hP (ci := 5) rfl (q0 := 0) rfl, (fun U hU hW => ⟨rfl, xPre_of hZ hS hFc hPc hDc hK U hU hW⟩)⟩ rfl rfl hl.1 rfl (lv_room (Nat.le_of_ble_eq_true rfl)) dM_one0_1 ⟨Nat.le_of_ble_eq_true rfl, Nat.le_of_ble_eq_true rfl⟩) hS (fun q _ h => hFc q h) hFc (fun u9 t H1 locs ht hvm hr9 hB hz1 hk1 hS => ?_)
  obtain ⟨hP1, hK1, hD1⟩ := hB
  rw [ht] at hP1
  obtain ⟨hP, hD⟩ := xjoin (W := [(a1, .inl (cT 5, 8, .inr (.inr (.inr (.inr f45))))), (a2, .inl (cT 1, 8, .inl f48)), (a3, .inl (cT 0, 4096, .inl f50)), (a4, .inl (cT 4, 1024, .inr (.inr (.inr (.inr f55))))), (a5, .inl (cT 0, 1024, .inl f58)), (a6, .inl (cT 0, 4096, .inl f59)), (a7, .inl (cT 0, 4096, .inl f60)), (a0, .inr (5, [.int 0, .ref a4, .int 0, .ref a6, .int 0, v21, v22, .int 0, v24, .int 0, v26, v27, .int 0, v29, v30, v31, v32, v33, v34, v35, v36, .ref a5, .int 0, .int 1000000000, .ref a1, .ref a2, v39, v40, v41, v42, v43, v44]))]) hP hD [0] [1, 2, 3, 4, 5, 6, 7] 7 rfl rfl (by decide) (by decide) hk1 hFc hP1 hD1
  generalize H1 = H at hP hS ⊢
  refine lv_aload_n hx hb dM_one0_4 rfl (lv_at hl 0 rfl) ?_
  refine lv_iload_n hx hb dM_one0_5 rfl (lv_at hl 1 rfl) ?_
  obtain ⟨hPc, hDc, hFc⟩ := xcut (wc := []) hP hD hS hA [] rfl rfl (by decide)
  refine va_calli (va_runV (C := "ValueBenchModel") (As := [.int x8]) (rest := []) ⟨hx, hb, hml, hown, htx⟩ (cM_out_2 l hl9 D cT aK aV H.size a0 x8 h9 h10 h11 h12) ⟨callB_of 1 htx (xw_goodC kw_5_217) rfl rfl rfl (htx _ kw_1_5) (htx _ kw_5_214) ⟨by decide, by decide, by decide +kernel⟩ ⟨Nat.le_of_ble_eq_true rfl, Nat.le_of_ble_eq_true rfl⟩, (htx _ kw_5_216), (htx _ kp_M_out)⟩ ⟨xPre_blind, va_recv hK hP (ci := 5) rfl (q0 := 7) rfl, (fun U hU hW => ⟨rfl, xPre_of hZ hS hFc hPc hDc hK U hU hW⟩)⟩ rfl rfl hl.1 rfl (lv_room (Nat.le_of_ble_eq_true rfl)) dM_one0_6 ⟨Nat.le_of_ble_eq_true rfl, Nat.le_of_ble_eq_true rfl⟩) hS (fun q _ h => hFc q h) hFc (fun r1 u9 t H1 locs ht hvm hr9 hB hz1 hk1 hS => ?_)
  obtain ⟨hP1, hK1, hD1⟩ := hB
  rw [ht] at hP1
  obtain ⟨hP, hD⟩ := xjoin (W := [(a1, .inl (cT 5, 8, .inr (.inr (.inr (.inr f45))))), (a2, .inl (cT 1, 8, .inl f48)), (a3, .inl (cT 0, 4096, .inl f50)), (a4, .inl (cT 4, 1024, .inr (.inr (.inr (.inr f55))))), (a5, .inl (cT 0, 1024, .inl f58)), (a6, .inl (cT 0, 4096, .inl f59)), (a7, .inl (cT 0, 4096, .inl f60)), (a0, .inr (5, [.int 0, .ref a4, .int 0, .ref a6, .int 0, v21, v22, .int 0, v24, .int 0, v26, v27, .int 0, v29, v30, v31, v32, v33, v34, v35, v36, .ref a5, .int 0, .int 1000000000, .ref a1, .ref a2, v39, v40, v41, v42, v43, v44]))]) hP hD [] [0, 1, 2, 3, 4, 5, 6, 7] 8 rfl rfl (by decide) (by decide) hk1 hFc hP1 hD1
  generalize H1 = H at hP hS ⊢
  rw [hr9]
  refine W.eq (g2 := F0 m 9 ls [.int 0]) rfl ?_
  refine lv_if_ne (tgt := 30) hx hb dM_one0_9 (by decide) (fun h => ((by revert h; decide : False)).elim) (fun _ => ?_)
  refine lv_iload_n hx hb dM_one0_12 rfl (lv_at hl 2 rfl) ?_
  refine lv_if_lt (tgt := 30) hx hb dM_one0_13 (by decide) (fun h => ((by revert h; decide : False)).elim) (fun _ => ?_)
  refine lv_iload_n hx hb dM_one0_16 rfl (lv_at hl 2 rfl) ?_
  refine lv_bipush (v := 13) hx hb dM_one0_17 (by decide) ?_
  refine lv_icmp_gt (tgt := 30) hx hb dM_one0_19 (by decide) (fun h => ((by revert h; decide : False)).elim) (fun _ => ?_)
  refine lv_aload_n hx hb dM_one0_22 rfl (lv_at hl 0 rfl) ?_
  refine lv_iload_n hx hb dM_one0_23 rfl (lv_at hl 3 rfl) ?_
  obtain ⟨hPc, hDc, hFc⟩ := xcut (wc := []) hP hD hS hA [] rfl rfl (by decide)
  refine va_calli (va_runV (C := "ValueBenchModel") (As := [.int x13]) (rest := []) ⟨hx, hb, hml, hown, htx⟩ (cM_out_2 l hl9 D cT aK aV H.size a0 x13 h14 h15 h16 h17) ⟨callB_of 1 htx (xw_goodC kw_5_217) rfl rfl rfl (htx _ kw_1_5) (htx _ kw_5_214) ⟨by decide, by decide, by decide +kernel⟩ ⟨Nat.le_of_ble_eq_true rfl, Nat.le_of_ble_eq_true rfl⟩, (htx _ kw_5_216), (htx _ kp_M_out)⟩ ⟨xPre_blind, va_recv hK hP (ci := 5) rfl (q0 := 7) rfl, (fun U hU hW => ⟨rfl, xPre_of hZ hS hFc hPc hDc hK U hU hW⟩)⟩ rfl rfl hl.1 rfl (lv_room (Nat.le_of_ble_eq_true rfl)) dM_one0_24 ⟨Nat.le_of_ble_eq_true rfl, Nat.le_of_ble_eq_true rfl⟩) hS (fun q _ h => hFc q h) hFc (fun r2 u9 t H1 locs ht hvm hr9 hB hz1 hk1 hS => ?_)
  obtain ⟨hP1, hK1, hD1⟩ := hB
  rw [ht] at hP1
  obtain ⟨hP, hD⟩ := xjoin (W := [(a1, .inl (cT 5, 8, .inr (.inr (.inr (.inr f45))))), (a2, .inl (cT 1, 8, .inl f48)), (a3, .inl (cT 0, 4096, .inl f50)), (a4, .inl (cT 4, 1024, .inr (.inr (.inr (.inr f55))))), (a5, .inl (cT 0, 1024, .inl f58)), (a6, .inl (cT 0, 4096, .inl f59)), (a7, .inl (cT 0, 4096, .inl f60)), (a0, .inr (5, [.int 0, .ref a4, .int 0, .ref a6, .int 0, v21, v22, .int 0, v24, .int 0, v26, v27, .int 0, v29, v30, v31, v32, v33, v34, v35, v36, .ref a5, .int 0, .int 1000000000, .ref a1, .ref a2, v39, v40, v41, v42, v43, v44]))]) hP hD [] [0, 1, 2, 3, 4, 5, 6, 7] 8 rfl rfl (by decide) (by decide) hk1 hFc hP1 hD1
  generalize H1 = H at hP hS ⊢
  rw [hr9]
  refine W.eq (g2 := F0 m 27 ls [.int 0]) rfl ?_
  refine lv_if_eq (tgt := 38) hx hb dM_one0_27 (by decide) (fun _ => ?_) (fun h => ((by revert h; decide : False)).elim)
  refine lv_aload_n hx hb dM_one0_38 rfl (lv_at hl 0 rfl) ?_
  refine lv_iload_n hx hb dM_one0_39 rfl (lv_at hl 1 rfl) ?_
  refine lv_iconst (v := 1) hx hb dM_one0_40 (by decide) ?_
  refine lv_iload_n hx hb dM_one0_41 rfl (lv_at hl 2 rfl) ?_
  refine lv_iload_n hx hb dM_one0_42 rfl (lv_at hl 3 rfl) ?_
  refine lv_iload_n hx hb dM_one0_43 rfl (lv_at hl 3 rfl) ?_
  obtain ⟨hPc, hDc, hFc⟩ := xcut (wc := [(a0, .inr (5, [.int 0, .ref a4, .int 0, .ref a6, .int 0, v21, v22, .int 0, v24, .int 0, v26, v27, .int 0, v29, v30, v31, v32, v33, v34, v35, v36, .ref a5, .int 0, .int 1000000000, .ref a1, .ref a2, v39, v40, v41, v42, v43, v44])), (a1, .inl (cT 5, 8, .inr (.inr (.inr (.inr f45))))), (a2, .inl (cT 1, 8, .inl f48)), (a3, .inl (cT 0, 4096, .inl f50)), (a4, .inl (cT 4, 1024, .inr (.inr (.inr (.inr f55))))), (a5, .inl (cT 0, 1024, .inl f58)), (a6, .inl (cT 0, 4096, .inl f59)), (a7, .inl (cT 0, 4096, .inl f60))]) hP hD hS hA [7, 0, 1, 2, 3, 4, 5, 6] rfl rfl (by decide)
  refine va_callv (vx_runVW (C := "ValueBenchModel") (As := [.int x8, .int 1, .int 6, .int x13, .int x13]) (rest := []) ⟨hx, hb, hml, hown, htx⟩ (cM_finish_23 l hl9 D cT aK aV H.size a0 a1 a2 a3 a4 a5 a6 a7 x8 x13 x13 (.int 0) v21 v22 (.int 0) v24 (.int 0) v26 v27 (.int 0) v29 v30 v31 v32 v33 v34 v35 v36 1000000000 v39 v40 v41 v42 v43 v44 f45 f48 f50 f55 f58 f59 f60 h9 h10 h11 h12 h14 h15 h16 h17 (by first | rfl | exact h46 | exact h47 | exact h49 | exact h51 | exact h52 | exact h53 | exact h54 | exact h56 | exact h57) (by first | rfl | exact h46 | exact h47 | exact h49 | exact h51 | exact h52 | exact h53 | exact h54 | exact h56 | exact h57) (by first | rfl | exact h46 | exact h47 | exact h49 | exact h51 | exact h52 | exact h53 | exact h54 | exact h56 | exact h57) (by first | rfl | exact h46 | exact h47 | exact h49 | exact h51 | exact h52 | exact h53 | exact h54 | exact h56 | exact h57) (by first | rfl | exact h46 | exact h47 | exact h49 | exact h51 | exact h52 | exact h53 | exact h54 | exact h56 | exact h57) (by first | rfl | exact h46 | exact h47 | exact h49 | exact h51 | exact h52 | exact h53 | exact h54 | exact h56 | exact h57) (by first | rfl | exact h46 | exact h47 | exact h49 | exact h51 | exact h52 | exact h53 | exact h54 | exact h56 | exact h57) (by first | rfl | exact h46 | exact h47 | exact h49 | exact h51 | exact h52 | exact h53 | exact h54 | exact h56 | exact h57) (by first | rfl | exact h46 | exact h47 | exact h49 | exact h51 | exact h52 | exact h53 | exact h54 | exact h56 | exact h57)) (xcVW 5 htx (xw_goodC kw_6_195) rfl rfl rfl (htx _ kw_1_5) (htx _ kw_6_192) ⟨by decide, by decide, by decide +kernel⟩ ⟨Nat.le_of_ble_eq_true rfl, Nat.le_of_ble_eq_true rfl⟩ (htx _ kw_6_194) (htx _ kp_M_finish)) ⟨xPre_blind, va_recv hK hP (ci := 5) rfl (q0 := 7) rfl, (fun U hU hW => ⟨rfl, xPre_of hZ hS hFc hPc hDc hK U hU hW⟩)⟩ rfl rfl hl.1 rfl (lv_room (Nat.le_of_ble_eq_true rfl)) dM_one0_44 ⟨Nat.le_of_ble_eq_true rfl, Nat.le_of_ble_eq_true rfl⟩) hS (fun q _ h => hFc q h) hFc (fun u9 t H1 locs ht hvm hr9 hB hz1 hk1 hS => ?_)
  obtain ⟨q3, q4, y5, y6, y7, y8, y9, y10, hP1, hK1, hD1⟩ := hB
  rw [ht] at hP1
  obtain ⟨hP, hD⟩ := xjoin (W := [(a0, .inr (5, [.int 0, .ref a4, .int 2, .ref a6, .int 4, v21, v22, .int 0, v24, .int 0, v26, v27, .int 0, v29, v30, .ref a3, .int 4, .int 4, .int 0, .int 100, v36, .ref a5, .int 6, .int 4096, .ref a1, .ref a2, v39, v40, v41, v42, v43, v44])), (a1, .inl (cT 5, 8, .inr (.inr (.inr (.inr f45))))), (a2, .inl (cT 1, 8, .inl (upd f48 x8.toNatClampNeg 6))), (a3, .inl (cT 0, 4096, .inl f50)), (a4, .inl (cT 4, 1024, .inr (.inr (.inr (.inr (va_up (va_up f55 0 (some q3)) 1 (some q4))))))), (a5, .inl (cT 0, 1024, .inl (upd (upd (upd (upd (upd (upd (upd (upd (upd (upd f58 0 110) 1 117) 2 108) 3 108) 0 (vp_nar .byte y5)) 1 (vp_nar .byte y6)) 2 (vp_nar .byte y7)) 3 (vp_nar .byte y8)) 4 (vp_nar .byte y9)) 5 (vp_nar .byte y10)))), (a6, .inl (cT 0, 4096, .inl (upd (upd (upd (upd f59 0 110) 1 117) 2 108) 3 108))), (a7, .inl (cT 0, 4096, .inl (upd (upd (upd (upd (upd (upd f60 0 (vp_nar .byte (vp_nar .byte y5))) 1 (vp_nar .byte (vp_nar .byte y6))) 2 (vp_nar .byte (vp_nar .byte y7))) 3 (vp_nar .byte (vp_nar .byte y8))) 4 (vp_nar .byte (vp_nar .byte y9))) 5 (vp_nar .byte (vp_nar .byte y10))))), (q3, .inr (6, [.int 0, .long 0, .int 0, .int 0, .int 0, .int 1])), (q4, .inr (6, [.int 4, .long 0, .int 0, .int 4, .int 0, .int 5]))]) hP hD [7, 0, 1, 2, 3, 4, 5, 6] [] 0 rfl rfl (by decide) (by decide) hk1 hFc hP1 hD1
  generalize H1 = H at hP hS ⊢
  obtain ⟨hP9, hD9⟩ := xsub (wc := [(a0, .inr (5, [.int 0, .ref a4, .int 2, .ref a6, .int 4, v21, v22, .int 0, v24, .int 0, v26, v27, .int 0, v29, v30, .ref a3, .int 4, .int 4, .int 0, .int 100, v36, .ref a5, .int 6, .int 4096, .ref a1, .ref a2, v39, v40, v41, v42, v43, v44])), (a1, .inl (cT 5, 8, .inr (.inr (.inr (.inr f45))))), (a2, .inl (cT 1, 8, .inl (upd f48 x8.toNatClampNeg 6))), (a3, .inl (cT 0, 4096, .inl f50)), (a4, .inl (cT 4, 1024, .inr (.inr (.inr (.inr (va_up (va_up f55 0 (some q3)) 1 (some q4))))))), (a5, .inl (cT 0, 1024, .inl (upd (upd (upd (upd (upd (upd (upd (upd (upd (upd f58 0 110) 1 117) 2 108) 3 108) 0 (vp_nar .byte y5)) 1 (vp_nar .byte y6)) 2 (vp_nar .byte y7)) 3 (vp_nar .byte y8)) 4 (vp_nar .byte y9)) 5 (vp_nar .byte y10)))), (a6, .inl (cT 0, 4096, .inl (upd (upd (upd (upd f59 0 110) 1 117) 2 108) 3 108))), (a7, .inl (cT 0, 4096, .inl (upd (upd (upd (upd (upd (upd f60 0 (vp_nar .byte (vp_nar .byte y5))) 1 (vp_nar .byte (vp_nar .byte y6))) 2 (vp_nar .byte (vp_nar .byte y7))) 3 (vp_nar .byte (vp_nar .byte y8))) 4 (vp_nar .byte (vp_nar .byte y9))) 5 (vp_nar .byte (vp_nar .byte y10))))), (q3, .inr (6, [.int 0, .long 0, .int 0, .int 0, .int 0, .int 1])), (q4, .inr (6, [.int 4, .long 0, .int 0, .int 4, .int 0, .int 5]))]) hP hD [0, 1, 2, 3, 4, 5, 6, 7, 8, 9] rfl rfl (by decide)
  refine W.widen (k := 2) (n := 12) (Nat.le_of_ble_eq_true rfl) (Nat.le_of_ble_eq_true rfl) ?_
  exact W.vret hx hb hr (fun t ht hW => ⟨⟨(), rfl, trivial, q3, q4, y5, y6, y7, y8, y9, y10, by rw [ht]; exact hP9, va_K.moved hW.alike hK, hD9⟩, hS.F ht⟩) hS.2.2 dM_one0_47
set_option maxHeartbeats 400000000 in
set_option maxRecDepth 100000 in
theorem cB_isWithin_21 (l : Launch) (hl9 : l.stackTraces = false) (D : va_G) (cT : Nat → ClassId) (aK aV : Nat → Nat) (sz : Nat) : xMet l yB_isWithin wyB_isWithin 0 0 0 0 D cT aK aV sz [.int 7, .int 13] [] (fun A => va_Qi (fun (r : Int32) (_ : Unit) => r = 1) (fun _ t => xB D xcl cT A [] t) A) := by
  refine Met.ofW (cc := prog_1_method_15_code) (maxL := 2) (ret := (some .boolean)) (by decide) rfl ?_
  intro p e s m args below meth c s₁ B hml hv
  obtain ⟨rfl, hsz, hZ, hP, hK, hD0⟩ := hv
  have hx := B.exec
  have hb := B.bytes
  have hr := B.returns
  have hts := atoms_spec (ws := wyB_isWithin) B.pre
  have htx := fun w h => hts w (List.mem_cons_of_mem _ h)
  have hown : s.vm.findClass "ValueBench" = some m.cls := findClass_of_methodNamed B.named
  have hlocks := B.notSynchronized
  subst hsz
  have hD := hD0.self (sz := s.heap.size)
  generalize hAe : va_A [] s.heap.size = A at hD hZ ⊢
  have hA : ∀ q : Nat, s.heap.size ≤ q → A q := fun q h => by rw [← hAe]; exact Or.inr h
  have hS : va_S A s.heap s.heap [] := va_S.rf
  have hP : va_P D xcl [] s.heap := hP
  have hl := lv_entry ([.int 7, .int 13]) (n := 2) (Nat.le_of_ble_eq_true rfl)
  rw [lg_entry_eq]
  generalize (lg_sl ([.int 7, .int 13]) ++ List.replicate (2 - (lg_sl ([.int 7, .int 13])).length) Slot.unset).toArray = ls at hl ⊢
  have hl : lv_has ls 2 [(0, .int 7), (1, .int 13)] := hl
  refine lv_iload_n hx hb dB_isWithin_0 rfl (lv_at hl 0 rfl) ?_
  refine lv_if_lt (tgt := 13) hx hb dB_isWithin_1 (by decide) (fun h => ((by revert h; decide : False)).elim) (fun _ => ?_)
  refine lv_iload_n hx hb dB_isWithin_4 rfl (lv_at hl 0 rfl) ?_
  refine lv_iload_n hx hb dB_isWithin_5 rfl (lv_at hl 1 rfl) ?_
  refine lv_icmp_gt (tgt := 13) hx hb dB_isWithin_6 (by decide) (fun h => ((by revert h; decide : False)).elim) (fun _ => ?_)
  refine lv_iconst (v := 1) hx hb dB_isWithin_9 (by decide) ?_
  refine lv_goto (tgt := 14) hx hb dB_isWithin_10 (by decide) ?_
  obtain ⟨hP9, hD9⟩ := xsub (wc := []) hP hD [] rfl rfl (by decide)
  refine W.widen (k := 0) (n := 0) (Nat.le_of_ble_eq_true rfl) (Nat.le_of_ble_eq_true rfl) ?_
  exact W.zret (v := 1) hx hb hr rfl (fun t ht hW => ⟨⟨1, (), rfl, rfl, by rw [ht]; exact hP9, va_K.moved hW.alike hK, hD9⟩, hS.F ht⟩) hS.2.2 dB_isWithin_14
set_option maxHeartbeats 400000000 in
set_option maxRecDepth 100000 in
theorem cG_fromJson_0 (l : Launch) (hl9 : l.stackTraces = false) (D : va_G) (cT : Nat → ClassId) (aK aV : Nat → Nat) (sz : Nat) (a0 : Nat) (a1 : Nat) (b2 : Nat) (b3 : Nat) (v4 : Value) (f5 : Nat → Int64) (h6 : f5 0 = 0) : xMet l yG_fromJson wyG_fromJson 2 0 0 43 D cT aK aV sz [.ref a0, .ref b2, .ref b3] [(a0, .inr (2, [.ref a1, .int 1, v4])), (a1, .inl (cT 2, 4096, .inr (.inl f5)))] (fun A => va_Qi (fun (r : Int32) (_ : Unit) => r = 1) (fun _ t => xB D xcl cT A [(a0, .inr (2, [.ref a1, .int 1, v4])), (a1, .inl (cT 2, 4096, .inr (.inl f5)))] t) A) := by
  refine Met.ofW (cc := prog_9_method_9_code) (maxL := 3) (ret := (some .int)) (by decide) rfl ?_
  intro p e s m args below meth c s₁ B hml hv
  obtain ⟨rfl, hsz, hZ, hP, hK, hD0⟩ := hv
  have hx := B.exec
  have hb := B.bytes
  have hr := B.returns
  have hts := atoms_spec (ws := wyG_fromJson) B.pre
  have htx := fun w h => hts w (List.mem_cons_of_mem _ h)
  have hown : s.vm.findClass "ValueBench$Singles" = some m.cls := findClass_of_methodNamed B.named
  have hlocks := B.notSynchronized
  subst hsz
  have hD := hD0.self (sz := s.heap.size)
  generalize hAe : va_A [(a0, .inr (2, [.ref a1, .int 1, v4])), (a1, .inl (cT 2, 4096, .inr (.inl f5)))] s.heap.size = A at hD hZ ⊢
  have hA : ∀ q : Nat, s.heap.size ≤ q → A q := fun q h => by rw [← hAe]; exact Or.inr h
  have hS : va_S A s.heap s.heap [] := va_S.rf
  have hP : va_P D xcl [(a0, .inr (2, [.ref a1, .int 1, v4])), (a1, .inl (cT 2, 4096, .inr (.inl f5)))] s.heap := hP
  have hl := lv_entry ([.ref a0, .ref b2, .ref b3]) (n := 3) (Nat.le_of_ble_eq_true rfl)
  rw [lg_entry_eq]
  generalize (lg_sl ([.ref a0, .ref b2, .ref b3]) ++ List.replicate (3 - (lg_sl ([.ref a0, .ref b2, .ref b3])).length) Slot.unset).toArray = ls at hl ⊢
  have hl : lv_has ls 3 [(0, .ref a0), (1, .ref b2), (2, .ref b3)] := hl
  refine lv_aload_n hx hb dG_fromJson_0 rfl (lv_at hl 0 rfl) ?_
  refine lv_iconst (v := 0) hx hb dG_fromJson_1 (by decide) ?_
  refine lv_iconst (v := 4) hx hb dG_fromJson_2 (by decide) ?_
  obtain ⟨hPc, hDc, hFc⟩ := xcut (wc := [(a0, .inr (2, [.ref a1, .int 1, v4])), (a1, .inl (cT 2, 4096, .inr (.inl f5)))]) hP hD hS hA [0, 1] rfl rfl (by decide)
  refine va_calli (va_runV (C := "ValueBench$Row") (As := [.int 0, .int 4]) (rest := []) ⟨hx, hb, hml, hown, htx⟩ (cR_is_4 l hl9 D cT aK aV s.heap.size a0 a1 v4 f5 (by first | rfl | exact h6)) ⟨callB_of 2 htx (xw_goodC kw_3_75) rfl rfl rfl (htx _ kw_1_4) (htx _ kw_4_29) ⟨by decide, by decide, by decide +kernel⟩ ⟨Nat.le_of_ble_eq_true rfl, Nat.le_of_ble_eq_true rfl⟩, (htx _ kw_3_73), (htx _ kw_3_74)⟩ ⟨xPre_blind, va_recv hK hP (ci := 2) rfl (q0 := 0) rfl, (fun U hU hW => ⟨rfl, xPre_of hZ hS hFc hPc hDc hK U hU hW⟩)⟩ rfl rfl hl.1 rfl (lv_room (Nat.le_of_ble_eq_true rfl)) dG_fromJson_3 ⟨Nat.le_of_ble_eq_true rfl, Nat.le_of_ble_eq_true rfl⟩) hS (fun q _ h => hFc q h) hFc (fun r1 u9 t H1 locs ht hvm hr9 hB hz1 hk1 hS => ?_)
  obtain ⟨hP1, hK1, hD1⟩ := hB
  rw [ht] at hP1
  obtain ⟨hP, hD⟩ := xjoin (W := [(a0, .inr (2, [.ref a1, .int 1, v4])), (a1, .inl (cT 2, 4096, .inr (.inl f5)))]) hP hD [0, 1] [] 0 rfl rfl (by decide) (by decide) hk1 hFc hP1 hD1
  generalize H1 = H at hP hS ⊢
  rw [hr9]
  refine W.eq (g2 := F0 m 6 ls [.int 0]) rfl ?_
  refine lv_if_ne (tgt := 11) hx hb dG_fromJson_6 (by decide) (fun h => ((by revert h; decide : False)).elim) (fun _ => ?_)
  refine lv_iconst (v := 1) hx hb dG_fromJson_9 (by decide) ?_
  obtain ⟨hP9, hD9⟩ := xsub (wc := [(a0, .inr (2, [.ref a1, .int 1, v4])), (a1, .inl (cT 2, 4096, .inr (.inl f5)))]) hP hD [0, 1] rfl rfl (by decide)
  refine W.widen (k := 0) (n := 0) (Nat.le_of_ble_eq_true rfl) (Nat.le_of_ble_eq_true rfl) ?_
  exact W.iret (v := 1) hx hb hr (fun t ht hW => ⟨⟨1, (), rfl, rfl, by rw [ht]; exact hP9, va_K.moved hW.alike hK, hD9⟩, hS.F ht⟩) hS.2.2 dG_fromJson_10
set_option maxHeartbeats 400000000 in
set_option maxRecDepth 100000 in
theorem cG_apply_7 (l : Launch) (hl9 : l.stackTraces = false) (D : va_G) (cT : Nat → ClassId) (aK aV : Nat → Nat) (sz : Nat) (a0 : Nat) (a1 : Nat) (b2 : Nat) (b3 : Nat) (b4 : Nat) (v5 : Value) (f6 : Nat → Int64) (h7 : f6 0 = 0) : xMet l yG_apply wyG_apply 3 0 0 65 D cT aK aV sz [.int 7, .ref a0, .ref b2, .ref b3, .ref b4] [(a0, .inr (2, [.ref a1, .int 1, v5])), (a1, .inl (cT 2, 4096, .inr (.inl f6)))] (fun A => va_Qi (fun (r : Int32) (_ : Unit) => r = 1) (fun _ t => xB D xcl cT A [(a0, .inr (2, [.ref a1, .int 1, v5])), (a1, .inl (cT 2, 4096, .inr (.inl f6)))] t) A) := by
  refine Met.ofW (cc := prog_9_method_2_code) (maxL := 5) (ret := (some .int)) (by decide) rfl ?_
  intro p e s m args below meth c s₁ B hml hv
  obtain ⟨rfl, hsz, hZ, hP, hK, hD0⟩ := hv
  have hx := B.exec
  have hb := B.bytes
  have hr := B.returns
  have hts := atoms_spec (ws := wyG_apply) B.pre
  have htx := fun w h => hts w (List.mem_cons_of_mem _ h)
  have hown : s.vm.findClass "ValueBench$Singles" = some m.cls := findClass_of_methodNamed B.named
  have hlocks := B.notSynchronized
  subst hsz
  have hD := hD0.self (sz := s.heap.size)
  generalize hAe : va_A [(a0, .inr (2, [.ref a1, .int 1, v5])), (a1, .inl (cT 2, 4096, .inr (.inl f6)))] s.heap.size = A at hD hZ ⊢
  have hA : ∀ q : Nat, s.heap.size ≤ q → A q := fun q h => by rw [← hAe]; exact Or.inr h
  have hS : va_S A s.heap s.heap [] := va_S.rf
  have hP : va_P D xcl [(a0, .inr (2, [.ref a1, .int 1, v5])), (a1, .inl (cT 2, 4096, .inr (.inl f6)))] s.heap := hP
  have hl := lv_entry ([.int 7, .ref a0, .ref b2, .ref b3, .ref b4]) (n := 5) (Nat.le_of_ble_eq_true rfl)
  rw [lg_entry_eq]
  generalize (lg_sl ([.int 7, .ref a0, .ref b2, .ref b3, .ref b4]) ++ List.replicate (5 - (lg_sl ([.int 7, .ref a0, .ref b2, .ref b3, .ref b4])).length) Slot.unset).toArray = ls at hl ⊢
  have hl : lv_has ls 5 [(0, .int 7), (1, .ref a0), (2, .ref b2), (3, .ref b3), (4, .ref b4)] := hl
  refine lv_iload_n hx hb dG_apply_0 rfl (lv_at hl 0 rfl) ?_
  refine lv_tableIn (off := 180) (tgt := 181) hx hb dG_apply_1 (by decide) (by decide) (by decide) (by decide) ?_
  refine lv_aload_n hx hb dG_apply_181 rfl (lv_at hl 1 rfl) ?_
  refine lv_aload_n hx hb dG_apply_182 rfl (lv_at hl 2 rfl) ?_
  refine lv_aload hx hb dG_apply_183 (lv_at hl 4 rfl) ?_
  obtain ⟨hPc, hDc, hFc⟩ := xcut (wc := [(a0, .inr (2, [.ref a1, .int 1, v5])), (a1, .inl (cT 2, 4096, .inr (.inl f6)))]) hP hD hS hA [0, 1] rfl rfl (by decide)
  refine va_calli (va_runS (As := [.ref a0, .ref b2, .ref b4]) (rest := []) ⟨hx, hb, hml, hown, htx⟩ (cG_fromJson_0 l hl9 D cT aK aV s.heap.size a0 a1 b2 b4 v5 f6 (by first | rfl | exact h7)) ⟨callB_of 3 htx (xw_goodC kw_4_110) rfl rfl rfl (htx _ kw_1_26) (htx _ kw_4_108) ⟨by decide, by decide, by decide +kernel⟩ ⟨Nat.le_of_ble_eq_true rfl, Nat.le_of_ble_eq_true rfl⟩, htx _ kw_4_109⟩ ⟨xPre_blind, (fun U hU hW => ⟨rfl, xPre_of hZ hS hFc hPc hDc hK U hU hW⟩)⟩ rfl rfl hl.1 rfl (lv_room (Nat.le_of_ble_eq_true rfl)) dG_apply_185 ⟨Nat.le_of_ble_eq_true rfl, Nat.le_of_ble_eq_true rfl⟩) hS (fun q _ h => hFc q h) hFc (fun r1 u9 t H1 locs ht hvm hr9 hB hz1 hk1 hS => ?_)
  obtain ⟨hP1, hK1, hD1⟩ := hB
  rw [ht] at hP1
  obtain ⟨hP, hD⟩ := xjoin (W := [(a0, .inr (2, [.ref a1, .int 1, v5])), (a1, .inl (cT 2, 4096, .inr (.inl f6)))]) hP hD [0, 1] [] 0 rfl rfl (by decide) (by decide) hk1 hFc hP1 hD1
  generalize H1 = H at hP hS ⊢
  rw [hr9]
  refine W.eq (g2 := F0 m 188 ls [.int 1]) rfl ?_
  obtain ⟨hP9, hD9⟩ := xsub (wc := [(a0, .inr (2, [.ref a1, .int 1, v5])), (a1, .inl (cT 2, 4096, .inr (.inl f6)))]) hP hD [0, 1] rfl rfl (by decide)
  refine W.widen (k := 0) (n := 0) (Nat.le_of_ble_eq_true rfl) (Nat.le_of_ble_eq_true rfl) ?_
  exact W.iret (v := 1) hx hb hr (fun t ht hW => ⟨⟨1, (), rfl, rfl, by rw [ht]; exact hP9, va_K.moved hW.alike hK, hD9⟩, hS.F ht⟩) hS.2.2 dG_apply_188
set_option maxHeartbeats 400000000 in
set_option maxRecDepth 100000 in
theorem cB_one_13 (l : Launch) (hl9 : l.stackTraces = false) (D : va_G) (cT : Nat → ClassId) (aK aV : Nat → Nat) (sz : Nat) (a0 : Nat) (a1 : Nat) (a2 : Nat) (a3 : Nat) (a4 : Nat) (x5 : Int32) (x10 : Int32) (v15 : Value) (v16 : Value) (b17 : Nat) (b18 : Nat) (v19 : Value) (v20 : Value) (v21 : Value) (v22 : Value) (v23 : Value) (f24 : Nat → Option Nat) (v26 : Value) (f27 : Nat → Int64) (h6 : ¬ x5 < 0) (h7 : ¬ 7 < x5) (h8 : x5 ≤ 7) (h9 : vp_in x5 8) (h11 : ¬ x10 < 0) (h12 : ¬ 7 < x10) (h13 : x10 ≤ 7) (h14 : vp_in x10 8) (h25 : f24 x10.toNatClampNeg = some a3) (h28 : f27 0 = 0) : xMetX l yB_one wyB_one 7 1 6 121 D cT aK aV sz [.ref a0, .int x5, .int 7, .int x10] [(a0, .inr (0, [v15, v16, .ref b17, .ref a2, .ref b18, .ref a1, v19, v20])), (a1, .inr (2, [v21, v22, v23])), (a2, .inl (cT 3, 8, .inr (.inr (.inr (.inr f24))))), (a3, .inr (2, [.ref a4, .int 1, v26])), (a4, .inl (cT 2, 4096, .inr (.inl f27)))] "java/lang/ArithmeticException" (fun A t => xB D xcl cT A [(a0, .inr (0, [v15, v16, .ref b17, .ref a2, .ref b18, .ref a1, v19, .int 1])), (a1, .inr (2, [v21, .int 0, .int 0])), (a2, .inl (cT 3, 8, .inr (.inr (.inr (.inr f24))))), (a3, .inr (2, [.ref a4, .int 1, v26])), (a4, .inl (cT 2, 4096, .inr (.inl f27)))] t) := by
  refine vx_ofW (cc := prog_1_method_9_code) (maxL := 4) (ret := none) (by decide) rfl ?_
  intro p e s m args below meth c s₁ B hml hne hv
  obtain ⟨rfl, hsz, hZ, hP, hK, hD0⟩ := hv
  have hx := B.exec
  have hb := B.bytes
  have hr := B.returns
  have hts := atoms_spec (ws := wyB_one) B.pre
  have htx := fun w h => hts w (List.mem_cons_of_mem _ h)
  have hown : s.vm.findClass "ValueBench" = some m.cls := findClass_of_methodNamed B.named
  have hlocks := B.notSynchronized
  subst hsz
  have hD := hD0.self (sz := s.heap.size)
  generalize hAe : va_A [(a0, .inr (0, [v15, v16, .ref b17, .ref a2, .ref b18, .ref a1, v19, v20])), (a1, .inr (2, [v21, v22, v23])), (a2, .inl (cT 3, 8, .inr (.inr (.inr (.inr f24))))), (a3, .inr (2, [.ref a4, .int 1, v26])), (a4, .inl (cT 2, 4096, .inr (.inl f27)))] s.heap.size = A at hD hZ ⊢
  have hA : ∀ q : Nat, s.heap.size ≤ q → A q := fun q h => by rw [← hAe]; exact Or.inr h
  have hS : va_S A s.heap s.heap [] := va_S.rf
  have hP : va_P D xcl [(a0, .inr (0, [v15, v16, .ref b17, .ref a2, .ref b18, .ref a1, v19, v20])), (a1, .inr (2, [v21, v22, v23])), (a2, .inl (cT 3, 8, .inr (.inr (.inr (.inr f24))))), (a3, .inr (2, [.ref a4, .int 1, v26])), (a4, .inl (cT 2, 4096, .inr (.inl f27)))] s.heap := hP
  have hl := lv_entry ([.ref a0, .int x5, .int 7, .int x10]) (n := 4) (Nat.le_of_ble_eq_true rfl)
  rw [lg_entry_eq]
  generalize (lg_sl ([.ref a0, .int x5, .int 7, .int x10]) ++ List.replicate (4 - (lg_sl ([.ref a0, .int x5, .int 7, .int x10])).length) Slot.unset).toArray = ls at hl ⊢
  have hl : lv_has ls 4 [(0, .ref a0), (1, .int x5), (2, .int 7), (3, .int x10)] := hl
  refine lv_iload_n hx hb dB_one_0 rfl (lv_at hl 1 rfl) ?_
  obtain ⟨hPc, hDc, hFc⟩ := xcut (wc := []) hP hD hS hA [] rfl rfl (by decide)
  refine va_calli (va_runS (As := [.int x5]) (rest := []) ⟨hx, hb, hml, hown, htx⟩ (cB_isRegister_2 l hl9 D cT aK aV s.heap.size x5 h6 h7 h8 h9) ⟨callB_of 1 htx (xw_goodC kw_2_18) rfl rfl rfl (htx _ kw_1_1) (htx _ kw_2_16) ⟨by decide, by decide, by decide +kernel⟩ ⟨Nat.le_of_ble_eq_true rfl, Nat.le_of_ble_eq_true rfl⟩, htx _ kw_2_17⟩ ⟨xPre_blind, (fun U hU hW => ⟨rfl, xPre_of hZ hS hFc hPc hDc hK U hU hW⟩)⟩ rfl rfl hl.1 rfl (lv_room (Nat.le_of_ble_eq_true rfl)) dB_one_1 ⟨Nat.le_of_ble_eq_true rfl, Nat.le_of_ble_eq_true rfl⟩) hS (fun q _ h => hFc q h) hFc (fun r1 u9 t H1 locs ht hvm hr9 hB hz1 hk1 hS => ?_)
  obtain ⟨hP1, hK1, hD1⟩ := hB
  rw [ht] at hP1
  obtain ⟨hP, hD⟩ := xjoin (W := [(a0, .inr (0, [v15, v16, .ref b17, .ref a2, .ref b18, .ref a1, v19, v20])), (a1, .inr (2, [v21, v22, v23])), (a2, .inl (cT 3, 8, .inr (.inr (.inr (.inr f24))))), (a3, .inr (2, [.ref a4, .int 1, v26])), (a4, .inl (cT 2, 4096, .inr (.inl f27)))]) hP hD [] [0, 1, 2, 3, 4] 5 rfl rfl (by decide) (by decide) hk1 hFc hP1 hD1
  generalize H1 = H at hP hS ⊢
  rw [hr9]
  refine W.eq (g2 := F0 m 4 ls [.int 1]) rfl ?_
  refine lv_if_eq (tgt := 27) hx hb dB_one_4 (by decide) (fun h => ((by revert h; decide : False)).elim) (fun _ => ?_)
  refine lv_iload_n hx hb dB_one_7 rfl (lv_at hl 2 rfl) ?_
  refine lv_bipush (v := 13) hx hb dB_one_8 (by decide) ?_
  obtain ⟨hPc, hDc, hFc⟩ := xcut (wc := []) hP hD hS hA [] rfl rfl (by decide)
  refine va_calli (va_runS (As := [.int 7, .int 13]) (rest := []) ⟨hx, hb, hml, hown, htx⟩ (cB_isWithin_21 l hl9 D cT aK aV H.size) ⟨callB_of 2 htx (xw_goodC kw_1_218) rfl rfl rfl (htx _ kw_1_1) (htx _ kw_1_216) ⟨by decide, by decide, by decide +kernel⟩ ⟨Nat.le_of_ble_eq_true rfl, Nat.le_of_ble_eq_true rfl⟩, htx _ kw_1_217⟩ ⟨xPre_blind, (fun U hU hW => ⟨rfl, xPre_of hZ hS hFc hPc hDc hK U hU hW⟩)⟩ rfl rfl hl.1 rfl (lv_room (Nat.le_of_ble_eq_true rfl)) dB_one_10 ⟨Nat.le_of_ble_eq_true rfl, Nat.le_of_ble_eq_true rfl⟩) hS (fun q _ h => hFc q h) hFc (fun r2 u9 t H1 locs ht hvm hr9 hB hz1 hk1 hS => ?_)
  obtain ⟨hP1, hK1, hD1⟩ := hB
  rw [ht] at hP1
  obtain ⟨hP, hD⟩ := xjoin (W := [(a0, .inr (0, [v15, v16, .ref b17, .ref a2, .ref b18, .ref a1, v19, v20])), (a1, .inr (2, [v21, v22, v23])), (a2, .inl (cT 3, 8, .inr (.inr (.inr (.inr f24))))), (a3, .inr (2, [.ref a4, .int 1, v26])), (a4, .inl (cT 2, 4096, .inr (.inl f27)))]) hP hD [] [0, 1, 2, 3, 4] 5 rfl rfl (by decide) (by decide) hk1 hFc hP1 hD1
  generalize H1 = H at hP hS ⊢
  rw [hr9]
  refine W.eq (g2 := F0 m 13 ls [.int 1]) rfl ?_
  refine lv_if_eq (tgt := 27) hx hb dB_one_13 (by decide) (fun h => ((by revert h; decide : False)).elim) (fun _ => ?_)
  refine lv_iload_n hx hb dB_one_16 rfl (lv_at hl 3 rfl) ?_
  obtain ⟨hPc, hDc, hFc⟩ := xcut (wc := []) hP hD hS hA [] rfl rfl (by decide)
  refine va_calli (va_runS (As := [.int x10]) (rest := []) ⟨hx, hb, hml, hown, htx⟩ (cB_isRegister_2 l hl9 D cT aK aV H.size x10 h11 h12 h13 h14) ⟨callB_of 1 htx (xw_goodC kw_2_18) rfl rfl rfl (htx _ kw_1_1) (htx _ kw_2_16) ⟨by decide, by decide, by decide +kernel⟩ ⟨Nat.le_of_ble_eq_true rfl, Nat.le_of_ble_eq_true rfl⟩, htx _ kw_2_17⟩ ⟨xPre_blind, (fun U hU hW => ⟨rfl, xPre_of hZ hS hFc hPc hDc hK U hU hW⟩)⟩ rfl rfl hl.1 rfl (lv_room (Nat.le_of_ble_eq_true rfl)) dB_one_17 ⟨Nat.le_of_ble_eq_true rfl, Nat.le_of_ble_eq_true rfl⟩) hS (fun q _ h => hFc q h) hFc (fun r3 u9 t H1 locs ht hvm hr9 hB hz1 hk1 hS => ?_)
  obtain ⟨hP1, hK1, hD1⟩ := hB
  rw [ht] at hP1
  obtain ⟨hP, hD⟩ := xjoin (W := [(a0, .inr (0, [v15, v16, .ref b17, .ref a2, .ref b18, .ref a1, v19, v20])), (a1, .inr (2, [v21, v22, v23])), (a2, .inl (cT 3, 8, .inr (.inr (.inr (.inr f24))))), (a3, .inr (2, [.ref a4, .int 1, v26])), (a4, .inl (cT 2, 4096, .inr (.inl f27)))]) hP hD [] [0, 1, 2, 3, 4] 5 rfl rfl (by decide) (by decide) hk1 hFc hP1 hD1
  generalize H1 = H at hP hS ⊢
  rw [hr9]
  refine W.eq (g2 := F0 m 20 ls [.int 1]) rfl ?_
  refine lv_if_eq (tgt := 27) hx hb dB_one_20 (by decide) (fun h => ((by revert h; decide : False)).elim) (fun _ => ?_)
  refine lv_iconst (v := 1) hx hb dB_one_23 (by decide) ?_
  refine lv_goto (tgt := 28) hx hb dB_one_24 (by decide) ?_
  obtain ⟨hPc, hDc, hFc⟩ := xcut (wc := []) hP hD hS hA [] rfl rfl (by decide)
  refine va_callv (va_runS (As := [.int 1]) (rest := []) ⟨hx, hb, hml, hown, htx⟩ (cB_demand_1 l hl9 D cT aK aV H.size) ⟨callB_of 1 htx (xw_goodC kw_1_221) rfl rfl rfl (htx _ kw_1_1) (htx _ kw_1_219) ⟨by decide, by decide, by decide +kernel⟩ ⟨Nat.le_of_ble_eq_true rfl, Nat.le_of_ble_eq_true rfl⟩, htx _ kw_1_220⟩ ⟨xPre_blind, (fun U hU hW => ⟨rfl, xPre_of hZ hS hFc hPc hDc hK U hU hW⟩)⟩ rfl rfl hl.1 rfl (lv_room (Nat.le_of_ble_eq_true rfl)) dB_one_28 ⟨Nat.le_of_ble_eq_true rfl, Nat.le_of_ble_eq_true rfl⟩) hS (fun q _ h => hFc q h) hFc (fun u9 t H1 locs ht hvm hr9 hB hz1 hk1 hS => ?_)
  obtain ⟨hP1, hK1, hD1⟩ := hB
  rw [ht] at hP1
  obtain ⟨hP, hD⟩ := xjoin (W := [(a0, .inr (0, [v15, v16, .ref b17, .ref a2, .ref b18, .ref a1, v19, v20])), (a1, .inr (2, [v21, v22, v23])), (a2, .inl (cT 3, 8, .inr (.inr (.inr (.inr f24))))), (a3, .inr (2, [.ref a4, .int 1, v26])), (a4, .inl (cT 2, 4096, .inr (.inl f27)))]) hP hD [] [0, 1, 2, 3, 4] 5 rfl rfl (by decide) (by decide) hk1 hFc hP1 hD1
  generalize H1 = H at hP hS ⊢
  refine lv_aload_n hx hb dB_one_31 rfl (lv_at hl 0 rfl) ?_
  refine va_get (D := D) (ci := 0) (v := .ref a1) (C := "ValueBench") (T := TB) (N := 8) hx hb htx inB hown hK hP 0 rfl rfl 5 (by decide) (htx _ kw_1_100) (fun _ h9 => h9) rfl dB_one_32 ?_
  obtain ⟨hPc, hDc, hFc⟩ := xcut (wc := [(a1, .inr (2, [v21, v22, v23]))]) hP hD hS hA [1] rfl rfl (by decide)
  refine va_callv (va_runV (C := "ValueBench$Row") (As := []) (rest := []) ⟨hx, hb, hml, hown, htx⟩ (cR_clear_0 l hl9 D cT aK aV H.size a1 v21 v22 v23) ⟨callB_of 0 htx (xw_goodC kw_2_22) rfl rfl rfl (htx _ kw_1_4) (htx _ kw_2_19) ⟨by decide, by decide, by decide +kernel⟩ ⟨Nat.le_of_ble_eq_true rfl, Nat.le_of_ble_eq_true rfl⟩, (htx _ kw_2_20), (htx _ kw_2_21)⟩ ⟨xPre_blind, va_recv hK hP (ci := 2) rfl (q0 := 1) rfl, (fun U hU hW => ⟨rfl, xPre_of hZ hS hFc hPc hDc hK U hU hW⟩)⟩ rfl rfl hl.1 rfl (lv_room (Nat.le_of_ble_eq_true rfl)) dB_one_35 ⟨Nat.le_of_ble_eq_true rfl, Nat.le_of_ble_eq_true rfl⟩) hS (fun q _ h => hFc q h) hFc (fun u9 t H1 locs ht hvm hr9 hB hz1 hk1 hS => ?_)
  obtain ⟨hP1, hK1, hD1⟩ := hB
  rw [ht] at hP1
  obtain ⟨hP, hD⟩ := xjoin (W := [(a0, .inr (0, [v15, v16, .ref b17, .ref a2, .ref b18, .ref a1, v19, v20])), (a2, .inl (cT 3, 8, .inr (.inr (.inr (.inr f24))))), (a3, .inr (2, [.ref a4, .int 1, v26])), (a4, .inl (cT 2, 4096, .inr (.inl f27))), (a1, .inr (2, [v21, .int 0, .int 0]))]) hP hD [1] [0, 2, 3, 4] 4 rfl rfl (by decide) (by decide) hk1 hFc hP1 hD1
  generalize H1 = H at hP hS ⊢
  refine lv_aload_n hx hb dB_one_38 rfl (lv_at hl 0 rfl) ?_
  refine lv_iload_n hx hb dB_one_39 rfl (lv_at hl 2 rfl) ?_
  refine lv_aload_n hx hb dB_one_40 rfl (lv_at hl 0 rfl) ?_
  refine va_get (D := D) (ci := 0) (v := .ref a2) (C := "ValueBench") (T := TB) (N := 8) hx hb htx inB hown hK hP 0 rfl rfl 3 (by decide) (htx _ kw_1_98) (fun _ h9 => h9) rfl dB_one_41 ?_
  refine lv_iload_n hx hb dB_one_44 rfl (lv_at hl 3 rfl) ?_
  refine va_aldq hx hb hK hP 1 3 rfl rfl h14 dB_one_45 ?_
  refine W.eq (g2 := F0 m 46 ls [va_rf (f24 x10.toNatClampNeg), .int 7, .ref a0]) rfl ?_
  rw [h25]
  refine W.eq (g2 := F0 m 46 ls [.ref a3, .int 7, .ref a0]) rfl ?_
  refine lv_aload_n hx hb dB_one_46 rfl (lv_at hl 0 rfl) ?_
  refine va_get (D := D) (ci := 0) (v := .ref b17) (C := "ValueBench") (T := TB) (N := 8) hx hb htx inB hown hK hP 0 rfl rfl 2 (by decide) (htx _ kw_1_97) (fun _ h9 => h9) rfl dB_one_47 ?_
  refine lv_aload_n hx hb dB_one_50 rfl (lv_at hl 0 rfl) ?_
  refine va_get (D := D) (ci := 0) (v := .ref b18) (C := "ValueBench") (T := TB) (N := 8) hx hb htx inB hown hK hP 0 rfl rfl 4 (by decide) (htx _ kw_1_99) (fun _ h9 => h9) rfl dB_one_51 ?_
  refine lv_aload_n hx hb dB_one_54 rfl (lv_at hl 0 rfl) ?_
  refine va_get (D := D) (ci := 0) (v := .ref a1) (C := "ValueBench") (T := TB) (N := 8) hx hb htx inB hown hK hP 0 rfl rfl 5 (by decide) (htx _ kw_1_100) (fun _ h9 => h9) rfl dB_one_55 ?_
  obtain ⟨hPc, hDc, hFc⟩ := xcut (wc := [(a3, .inr (2, [.ref a4, .int 1, v26])), (a4, .inl (cT 2, 4096, .inr (.inl f27)))]) hP hD hS hA [2, 3] rfl rfl (by decide)
  refine va_calli (va_runS (As := [.int 7, .ref a3, .ref b17, .ref b18, .ref a1]) (rest := [.ref a0]) ⟨hx, hb, hml, hown, htx⟩ (cG_apply_7 l hl9 D cT aK aV H.size a3 a4 b17 b18 a1 v26 f27 (by first | rfl | exact h25 | exact h28)) ⟨callB_of 5 htx (xw_goodC kw_4_28) rfl rfl rfl (htx _ kw_1_26) (htx _ kw_4_26) ⟨by decide, by decide, by decide +kernel⟩ ⟨Nat.le_of_ble_eq_true rfl, Nat.le_of_ble_eq_true rfl⟩, htx _ kw_4_27⟩ ⟨xPre_blind, (fun U hU hW => ⟨rfl, xPre_of hZ hS hFc hPc hDc hK U hU hW⟩)⟩ rfl rfl hl.1 rfl (lv_room (Nat.le_of_ble_eq_true rfl)) dB_one_58 ⟨Nat.le_of_ble_eq_true rfl, Nat.le_of_ble_eq_true rfl⟩) hS (fun q _ h => hFc q h) hFc (fun r4 u9 t H1 locs ht hvm hr9 hB hz1 hk1 hS => ?_)
  obtain ⟨hP1, hK1, hD1⟩ := hB
  rw [ht] at hP1
  obtain ⟨hP, hD⟩ := xjoin (W := [(a0, .inr (0, [v15, v16, .ref b17, .ref a2, .ref b18, .ref a1, v19, v20])), (a2, .inl (cT 3, 8, .inr (.inr (.inr (.inr f24))))), (a1, .inr (2, [v21, .int 0, .int 0])), (a3, .inr (2, [.ref a4, .int 1, v26])), (a4, .inl (cT 2, 4096, .inr (.inl f27)))]) hP hD [2, 3] [0, 1, 4] 3 rfl rfl (by decide) (by decide) hk1 hFc hP1 hD1
  generalize H1 = H at hP hS ⊢
  rw [hr9]
  refine W.eq (g2 := F0 m 61 ls [.int 1, .ref a0]) rfl ?_
  obtain ⟨hPc, hDc, hFc⟩ := xcut (wc := [(a0, .inr (0, [v15, v16, .ref b17, .ref a2, .ref b18, .ref a1, v19, v20]))]) hP hD hS hA [0] rfl rfl (by decide)
  refine xx_thr (vx_runV (C := "ValueBench") (As := [.int 1]) (rest := []) ⟨hx, hb, hml, hown, htx⟩ (cB_demandDone_1 l hl9 D cT aK aV H.size a0 v15 v16 (.ref b17) (.ref a2) (.ref b18) (.ref a1) v19 v20) ⟨callB_of 1 htx (xw_goodC kw_3_222) rfl rfl rfl (htx _ kw_1_1) (htx _ kw_3_219) ⟨by decide, by decide, by decide +kernel⟩ ⟨Nat.le_of_ble_eq_true rfl, Nat.le_of_ble_eq_true rfl⟩, (htx _ kw_3_221), (htx _ kp_B_demandDone)⟩ ⟨xPre_blind, va_recv hK hP (ci := 0) rfl (q0 := 0) rfl, (fun U hU hW => ⟨rfl, xPre_of hZ hS hFc hPc hDc hK U hU hW⟩)⟩ rfl rfl hl.1 rfl (lv_room (Nat.le_of_ble_eq_true rfl)) dB_one_61 ⟨Nat.le_of_ble_eq_true rfl, Nat.le_of_ble_eq_true rfl⟩) hS hFc (fun q _ h => hFc q h) (fun E ce q9 u9 t H1 locs ht hvm _ hB hz1 hk1 hS hce hcv hcl => ?_)
  obtain ⟨rfl, hP1, hK1, hD1⟩ := hB
  rw [ht] at hP1
  obtain ⟨hP, hD⟩ := xjoin (W := [(a2, .inl (cT 3, 8, .inr (.inr (.inr (.inr f24))))), (a1, .inr (2, [v21, .int 0, .int 0])), (a3, .inr (2, [.ref a4, .int 1, v26])), (a4, .inl (cT 2, 4096, .inr (.inl f27))), (a0, .inr (0, [v15, v16, .ref b17, .ref a2, .ref b18, .ref a1, v19, .int 1]))]) hP hD [0] [1, 2, 3, 4] 4 rfl rfl (by decide) (by decide) hk1 hFc hP1 hD1
  generalize H1 = H at hP hS hce ⊢
  obtain ⟨hP9, hD9⟩ := xsub (wc := [(a0, .inr (0, [v15, v16, .ref b17, .ref a2, .ref b18, .ref a1, v19, .int 1])), (a1, .inr (2, [v21, .int 0, .int 0])), (a2, .inl (cT 3, 8, .inr (.inr (.inr (.inr f24))))), (a3, .inr (2, [.ref a4, .int 1, v26])), (a4, .inl (cT 2, 4096, .inr (.inl f27)))]) hP hD [4, 1, 0, 2, 3] rfl rfl (by decide)
  exact vx_out (E := "java/lang/ArithmeticException") (fun x h => (hne x h).elim) hlocks hce hcv hcl (fun t ht ha => ⟨(), trivial, ⟨rfl, by rw [ht]; exact hP9, va_K.moved ha hK, hD9⟩, hS.F ht⟩) hS.2.2 (Nat.le_of_ble_eq_true rfl) (Nat.le_of_ble_eq_true rfl)
set_option maxHeartbeats 400000000 in
set_option maxRecDepth 100000 in
theorem cL_one_13 (l : Launch) (hl9 : l.stackTraces = false) (D : va_G) (cT : Nat → ClassId) (aK aV : Nat → Nat) (sz : Nat) (a0 : Nat) (a1 : Nat) (a2 : Nat) (a3 : Nat) (a4 : Nat) (x5 : Int32) (x10 : Int32) (v15 : Value) (v16 : Value) (b17 : Nat) (b18 : Nat) (v19 : Value) (v20 : Value) (v21 : Value) (v22 : Value) (v23 : Value) (f24 : Nat → Option Nat) (v26 : Value) (f27 : Nat → Int64) (h6 : ¬ x5 < 0) (h7 : ¬ 7 < x5) (h8 : x5 ≤ 7) (h9 : vp_in x5 8) (h11 : ¬ x10 < 0) (h12 : ¬ 7 < x10) (h13 : x10 ≤ 7) (h14 : vp_in x10 8) (h25 : f24 x10.toNatClampNeg = some a3) (h28 : f27 0 = 0) : xMet l yL_one wyL_one 8 1 6 144 D cT aK aV sz [.ref a0, .int x5, .int 7, .int x10] [(a0, .inr (0, [v15, v16, .ref b17, .ref a2, .ref b18, .ref a1, v19, v20])), (a1, .inr (2, [v21, v22, v23])), (a2, .inl (cT 3, 8, .inr (.inr (.inr (.inr f24))))), (a3, .inr (2, [.ref a4, .int 1, v26])), (a4, .inl (cT 2, 4096, .inr (.inl f27)))] (fun A => va_Qi (fun (r : Int32) (_ : Unit) => r = 2) (fun _ t => xB D xcl cT A [(a0, .inr (0, [v15, v16, .ref b17, .ref a2, .ref b18, .ref a1, v19, .int 1])), (a1, .inr (2, [v21, .int 0, .int 0])), (a2, .inl (cT 3, 8, .inr (.inr (.inr (.inr f24))))), (a3, .inr (2, [.ref a4, .int 1, v26])), (a4, .inl (cT 2, 4096, .inr (.inl f27)))] t) A) := by
  refine va_MetW (cc := method_10_code) (maxL := 5) (ret := (some .int)) (hh := [(0, 7, 10, 19), (0, 7, 14, 33), (0, 7, 18, 13)]) (by decide) rfl ?_
  intro p e s m args below meth c s₁ B hml hv
  obtain ⟨rfl, hsz, hZ, hP, hK, hD0⟩ := hv
  have hx := B.exec
  have hb := B.bytes
  have hr := B.returns
  have hts := atoms_spec (ws := wyL_one) B.pre
  have htx := fun w h => hts w (List.mem_cons_of_mem _ h)
  have hown : s.vm.findClass "ValueBenchLaw" = some m.cls := findClass_of_methodNamed B.named
  have hlocks := B.notSynchronized
  subst hsz
  have hD := hD0.self (sz := s.heap.size)
  generalize hAe : va_A [(a0, .inr (0, [v15, v16, .ref b17, .ref a2, .ref b18, .ref a1, v19, v20])), (a1, .inr (2, [v21, v22, v23])), (a2, .inl (cT 3, 8, .inr (.inr (.inr (.inr f24))))), (a3, .inr (2, [.ref a4, .int 1, v26])), (a4, .inl (cT 2, 4096, .inr (.inl f27)))] s.heap.size = A at hD hZ ⊢
  have hA : ∀ q : Nat, s.heap.size ≤ q → A q := fun q h => by rw [← hAe]; exact Or.inr h
  have hS : va_S A s.heap s.heap [] := va_S.rf
  have hP : va_P D xcl [(a0, .inr (0, [v15, v16, .ref b17, .ref a2, .ref b18, .ref a1, v19, v20])), (a1, .inr (2, [v21, v22, v23])), (a2, .inl (cT 3, 8, .inr (.inr (.inr (.inr f24))))), (a3, .inr (2, [.ref a4, .int 1, v26])), (a4, .inl (cT 2, 4096, .inr (.inl f27)))] s.heap := hP
  have hl := lv_entry ([.ref a0, .int x5, .int 7, .int x10]) (n := 5) (Nat.le_of_ble_eq_true rfl)
  rw [lg_entry_eq]
  generalize (lg_sl ([.ref a0, .int x5, .int 7, .int x10]) ++ List.replicate (5 - (lg_sl ([.ref a0, .int x5, .int 7, .int x10])).length) Slot.unset).toArray = ls at hl ⊢
  have hl : lv_has ls 5 [(0, .ref a0), (1, .int x5), (2, .int 7), (3, .int x10)] := hl
  have htab := vx_table (x := yL_one) B (hts _ List.mem_cons_self)
  refine lv_aload_n hx hb dL_one_0 rfl (lv_at hl 0 rfl) ?_
  refine lv_iload_n hx hb dL_one_1 rfl (lv_at hl 1 rfl) ?_
  refine lv_iload_n hx hb dL_one_2 rfl (lv_at hl 2 rfl) ?_
  refine lv_iload_n hx hb dL_one_3 rfl (lv_at hl 3 rfl) ?_
  obtain ⟨hPc, hDc, hFc⟩ := xcut (wc := [(a0, .inr (0, [v15, v16, .ref b17, .ref a2, .ref b18, .ref a1, v19, v20])), (a1, .inr (2, [v21, v22, v23])), (a2, .inl (cT 3, 8, .inr (.inr (.inr (.inr f24))))), (a3, .inr (2, [.ref a4, .int 1, v26])), (a4, .inl (cT 2, 4096, .inr (.inl f27)))]) hP hD hS hA [0, 1, 2, 3, 4] rfl rfl (by decide)
  refine xx_thr (vx_runV (C := "ValueBench") (As := [.int x5, .int 7, .int x10]) (rest := []) ⟨hx, hb, hml, hown, htx⟩ (cB_one_13 l hl9 D cT aK aV s.heap.size a0 a1 a2 a3 a4 x5 x10 v15 v16 b17 b18 v19 v20 v21 v22 v23 f24 v26 f27 h6 h7 h8 h9 h11 h12 h13 h14 (by first | rfl | exact h25 | exact h28) (by first | rfl | exact h25 | exact h28)) ⟨callB_of 3 htx (xw_goodC kw_4_25) rfl rfl rfl (htx _ kw_1_1) (htx _ kw_4_22) ⟨by decide, by decide, by decide +kernel⟩ ⟨Nat.le_of_ble_eq_true rfl, Nat.le_of_ble_eq_true rfl⟩, (htx _ kw_4_23), (htx _ kw_4_24)⟩ ⟨xPre_blind, va_recv hK hP (ci := 0) rfl (q0 := 0) rfl, (fun U hU hW => ⟨rfl, xPre_of hZ hS hFc hPc hDc hK U hU hW⟩)⟩ rfl rfl hl.1 rfl (lv_room (Nat.le_of_ble_eq_true rfl)) dL_one_4 ⟨Nat.le_of_ble_eq_true rfl, Nat.le_of_ble_eq_true rfl⟩) hS hFc (fun q _ h => hFc q h) (fun E ce q9 u9 t H1 locs ht hvm _ hB hz1 hk1 hS hce hcv hcl => ?_)
  obtain ⟨rfl, hP1, hK1, hD1⟩ := hB
  rw [ht] at hP1
  obtain ⟨hP, hD⟩ := xjoin (W := [(a0, .inr (0, [v15, v16, .ref b17, .ref a2, .ref b18, .ref a1, v19, .int 1])), (a1, .inr (2, [v21, .int 0, .int 0])), (a2, .inl (cT 3, 8, .inr (.inr (.inr (.inr f24))))), (a3, .inr (2, [.ref a4, .int 1, v26])), (a4, .inl (cT 2, 4096, .inr (.inl f27)))]) hP hD [0, 1, 2, 3, 4] [] 0 rfl rfl (by decide) (by decide) hk1 hFc hP1 hD1
  generalize H1 = H at hP hS hce ⊢
  refine vx_catch (own := "ValueBenchLaw") (name := "java/lang/ArithmeticException") (E := "java/lang/ArithmeticException") hown [⟨0, 7, 10, 19⟩] ⟨0, 7, 14, 33⟩ [⟨0, 7, 18, 13⟩] (by rw [htab]; rfl) (by intro z hz; rcases List.mem_cons.mp hz with rfl | hz; (exact Or.inr ⟨by decide, "java/lang/IllegalArgumentException", htx _ kw_1_211, hZ.2.2.2.2.2.2.2.1 ("java/lang/ArithmeticException", "java/lang/IllegalArgumentException") (List.mem_of_getElem? (i := 10) rfl)⟩); cases hz) (by decide) (by decide) (htx _ kw_3_98) ((hZ.2.2.2.2.2.1 "java/lang/ArithmeticException" (List.mem_of_getElem? (i := 3) rfl)).use rfl) hce hcv hcl ?_
  refine lv_astore (lv' := [(4, .ref q9), (0, .ref a0), (1, .int x5), (2, .int 7), (3, .int x10)]) hx hb dL_one_14 hl (by decide) rfl (fun ls hl => ?_)
  refine lv_iconst (v := 2) hx hb dL_one_16 (by decide) ?_
  obtain ⟨hP9, hD9⟩ := xsub (wc := [(a0, .inr (0, [v15, v16, .ref b17, .ref a2, .ref b18, .ref a1, v19, .int 1])), (a1, .inr (2, [v21, .int 0, .int 0])), (a2, .inl (cT 3, 8, .inr (.inr (.inr (.inr f24))))), (a3, .inr (2, [.ref a4, .int 1, v26])), (a4, .inl (cT 2, 4096, .inr (.inl f27)))]) hP hD [0, 1, 2, 3, 4] rfl rfl (by decide)
  refine W.widen (k := 1) (n := 6) (Nat.le_of_ble_eq_true rfl) (Nat.le_of_ble_eq_true rfl) ?_
  exact W.iret (v := 2) hx hb hr (fun t ht hW => ⟨⟨2, (), rfl, rfl, by rw [ht]; exact hP9, va_K.moved hW.alike hK, hD9⟩, hS.F ht⟩) hS.2.2 dL_one_17
set_option maxHeartbeats 400000000 in
set_option maxRecDepth 100000 in
theorem cM_fromJson_0 (l : Launch) (hl9 : l.stackTraces = false) (D : va_G) (cT : Nat → ClassId) (aK aV : Nat → Nat) (sz : Nat) (a0 : Nat) (a1 : Nat) (v2 : Value) (v3 : Value) (v4 : Value) (v5 : Value) (v6 : Value) (v7 : Value) (v8 : Value) (v9 : Value) (v10 : Value) (v11 : Value) (v12 : Value) (v13 : Value) (v14 : Value) (v15 : Value) (v16 : Value) (v17 : Value) (v18 : Value) (v19 : Value) (v20 : Value) (v21 : Value) (v22 : Value) (v23 : Value) (v24 : Value) (v25 : Value) (v26 : Value) (v27 : Value) (v28 : Value) (v29 : Value) (v30 : Value) (v31 : Value) (v32 : Value) (v33 : Value) (v34 : Value) (v35 : Value) (v36 : Value) (v37 : Value) (v38 : Value) : xMetX l yM_fromJson wyM_fromJson 8 1 6 142 D cT aK aV sz [.ref a0, .ref a1] [(a0, .inr (5, [v2, v3, v4, v5, v6, v7, v8, v9, v10, v11, v12, v13, v14, v15, v16, v17, v18, v19, v20, v21, v22, v23, v24, v25, v26, v27, v28, v29, v30, v31, v32, v33])), (a1, .inr (6, [.int 0, v34, v35, v36, v37, v38]))] "java/lang/ArithmeticException" (fun A t => xB D xcl cT A [(a0, .inr (5, [v2, v3, v4, v5, v6, v7, v8, v9, .int 1, v11, v12, v13, v14, v15, v16, v17, v18, v19, v20, v21, v22, v23, v24, v25, v26, v27, v28, v29, v30, v31, v32, v33])), (a1, .inr (6, [.int 0, v34, v35, v36, v37, v38]))] t) := by
  refine vx_ofWH (cc := prog_13_method_60_code) (maxL := 10) (ret := (some (.object "ValueBenchModel$V"))) (hh := [(49, 72, 75, 205)]) (by decide) rfl ?_
  intro p e s m args below meth c s₁ B hml hv
  obtain ⟨rfl, hsz, hZ, hP, hK, hD0⟩ := hv
  have hx := B.exec
  have hb := B.bytes
  have hr := B.returns
  have hts := atoms_spec (ws := wyM_fromJson) B.pre
  have htx := fun w h => hts w (List.mem_cons_of_mem _ h)
  have hown : s.vm.findClass "ValueBenchModel" = some m.cls := findClass_of_methodNamed B.named
  have hlocks := B.notSynchronized
  subst hsz
  have hD := hD0.self (sz := s.heap.size)
  generalize hAe : va_A [(a0, .inr (5, [v2, v3, v4, v5, v6, v7, v8, v9, v10, v11, v12, v13, v14, v15, v16, v17, v18, v19, v20, v21, v22, v23, v24, v25, v26, v27, v28, v29, v30, v31, v32, v33])), (a1, .inr (6, [.int 0, v34, v35, v36, v37, v38]))] s.heap.size = A at hD hZ ⊢
  have hA : ∀ q : Nat, s.heap.size ≤ q → A q := fun q h => by rw [← hAe]; exact Or.inr h
  have hS : va_S A s.heap s.heap [] := va_S.rf
  have hP : va_P D xcl [(a0, .inr (5, [v2, v3, v4, v5, v6, v7, v8, v9, v10, v11, v12, v13, v14, v15, v16, v17, v18, v19, v20, v21, v22, v23, v24, v25, v26, v27, v28, v29, v30, v31, v32, v33])), (a1, .inr (6, [.int 0, v34, v35, v36, v37, v38]))] s.heap := hP
  have hl := lv_entry ([.ref a0, .ref a1]) (n := 10) (Nat.le_of_ble_eq_true rfl)
  rw [lg_entry_eq]
  generalize (lg_sl ([.ref a0, .ref a1]) ++ List.replicate (10 - (lg_sl ([.ref a0, .ref a1])).length) Slot.unset).toArray = ls at hl ⊢
  have hl : lv_has ls 10 [(0, .ref a0), (1, .ref a1)] := hl
  have htab := vx_table (x := yM_fromJson) B (hts _ List.mem_cons_self)
  refine lv_aload_n hx hb dM_fromJson_0 rfl (lv_at hl 0 rfl) ?_
  refine lv_aload_n hx hb dM_fromJson_1 rfl (lv_at hl 1 rfl) ?_
  obtain ⟨hPc, hDc, hFc⟩ := xcut (wc := [(a1, .inr (6, [.int 0, v34, v35, v36, v37, v38])), (a0, .inr (5, [v2, v3, v4, v5, v6, v7, v8, v9, v10, v11, v12, v13, v14, v15, v16, v17, v18, v19, v20, v21, v22, v23, v24, v25, v26, v27, v28, v29, v30, v31, v32, v33]))]) hP hD hS hA [1, 0] rfl rfl (by decide)
  refine xx_thr (vx_runV (C := "ValueBenchModel") (As := [.ref a1]) (rest := []) ⟨hx, hb, hml, hown, htx⟩ (cM_text_0 l hl9 D cT aK aV s.heap.size a1 a0 v34 v35 v36 v37 v38 v2 v3 v4 v5 v6 v7 v8 v9 v10 v11 v12 v13 v14 v15 v16 v17 v18 v19 v20 v21 v22 v23 v24 v25 v26 v27 v28 v29 v30 v31 v32 v33) ⟨callB_of 1 htx (xw_goodC kw_7_54) rfl rfl rfl (htx _ kw_1_5) (htx _ kw_7_51) ⟨by decide, by decide, by decide +kernel⟩ ⟨Nat.le_of_ble_eq_true rfl, Nat.le_of_ble_eq_true rfl⟩, (htx _ kw_7_53), (htx _ kp_M_text)⟩ ⟨xPre_blind, va_recv hK hP (ci := 5) rfl (q0 := 0) rfl, (fun U hU hW => ⟨rfl, xPre_of hZ hS hFc hPc hDc hK U hU hW⟩)⟩ rfl rfl hl.1 rfl (lv_room (Nat.le_of_ble_eq_true rfl)) dM_fromJson_2 ⟨Nat.le_of_ble_eq_true rfl, Nat.le_of_ble_eq_true rfl⟩) hS hFc (fun q _ h => hFc q h) (fun E ce q9 u9 t H1 locs ht hvm _ hB hz1 hk1 hS hce hcv hcl => ?_)
  obtain ⟨rfl, hP1, hK1, hD1⟩ := hB
  rw [ht] at hP1
  obtain ⟨hP, hD⟩ := xjoin (W := [(a1, .inr (6, [.int 0, v34, v35, v36, v37, v38])), (a0, .inr (5, [v2, v3, v4, v5, v6, v7, v8, v9, .int 1, v11, v12, v13, v14, v15, v16, v17, v18, v19, v20, v21, v22, v23, v24, v25, v26, v27, v28, v29, v30, v31, v32, v33]))]) hP hD [1, 0] [] 0 rfl rfl (by decide) (by decide) hk1 hFc hP1 hD1
  generalize H1 = H at hP hS hce ⊢
  obtain ⟨hP9, hD9⟩ := xsub (wc := [(a0, .inr (5, [v2, v3, v4, v5, v6, v7, v8, v9, .int 1, v11, v12, v13, v14, v15, v16, v17, v18, v19, v20, v21, v22, v23, v24, v25, v26, v27, v28, v29, v30, v31, v32, v33])), (a1, .inr (6, [.int 0, v34, v35, v36, v37, v38]))]) hP hD [1, 0] rfl rfl (by decide)
  exact vx_out (E := "java/lang/ArithmeticException") (by rw [htab]; decide) hlocks hce hcv hcl (fun t ht ha => ⟨(), trivial, ⟨rfl, by rw [ht]; exact hP9, va_K.moved ha hK, hD9⟩, hS.F ht⟩) hS.2.2 (Nat.le_of_ble_eq_true rfl) (Nat.le_of_ble_eq_true rfl)
set_option maxHeartbeats 400000000 in
set_option maxRecDepth 100000 in
theorem cM_one1_7 (l : Launch) (hl9 : l.stackTraces = false) (D : va_G) (cT : Nat → ClassId) (aK aV : Nat → Nat) (sz : Nat) (a0 : Nat) (a1 : Nat) (v2 : Value) (v3 : Value) (v4 : Value) (v5 : Value) (v6 : Value) (v7 : Value) (v8 : Value) (v9 : Value) (v10 : Value) (v11 : Value) (v12 : Value) (v13 : Value) (v14 : Value) (v15 : Value) (v16 : Value) (v17 : Value) (v18 : Value) (v19 : Value) (v20 : Value) (v21 : Value) (v22 : Value) (v23 : Value) (v24 : Value) (v25 : Value) (v26 : Value) (v27 : Value) (v28 : Value) (v29 : Value) (v30 : Value) (v31 : Value) (v32 : Value) (v33 : Value) (v34 : Value) (v35 : Value) (v36 : Value) (v37 : Value) (v38 : Value) : xMetX l yM_one1 wyM_one1 9 1 6 171 D cT aK aV sz [.ref a0, .int 7, .ref a1] [(a0, .inr (5, [v2, v3, v4, v5, v6, v7, v8, v9, v10, v11, v12, v13, v14, v15, v16, v17, v18, v19, v20, v21, v22, v23, v24, v25, v26, v27, v28, v29, v30, v31, v32, v33])), (a1, .inr (6, [.int 0, v34, v35, v36, v37, v38]))] "java/lang/ArithmeticException" (fun A t => xB D xcl cT A [(a0, .inr (5, [v2, v3, v4, v5, v6, v7, v8, v9, .int 1, v11, v12, v13, v14, v15, v16, v17, v18, v19, v20, v21, v22, v23, v24, v25, v26, v27, v28, v29, v30, v31, v32, v33])), (a1, .inr (6, [.int 0, v34, v35, v36, v37, v38]))] t) := by
  refine vx_ofW (cc := prog_13_method_66_code) (maxL := 3) (ret := (some (.object "ValueBenchModel$V"))) (by decide) rfl ?_
  intro p e s m args below meth c s₁ B hml hne hv
  obtain ⟨rfl, hsz, hZ, hP, hK, hD0⟩ := hv
  have hx := B.exec
  have hb := B.bytes
  have hr := B.returns
  have hts := atoms_spec (ws := wyM_one1) B.pre
  have htx := fun w h => hts w (List.mem_cons_of_mem _ h)
  have hown : s.vm.findClass "ValueBenchModel" = some m.cls := findClass_of_methodNamed B.named
  have hlocks := B.notSynchronized
  subst hsz
  have hD := hD0.self (sz := s.heap.size)
  generalize hAe : va_A [(a0, .inr (5, [v2, v3, v4, v5, v6, v7, v8, v9, v10, v11, v12, v13, v14, v15, v16, v17, v18, v19, v20, v21, v22, v23, v24, v25, v26, v27, v28, v29, v30, v31, v32, v33])), (a1, .inr (6, [.int 0, v34, v35, v36, v37, v38]))] s.heap.size = A at hD hZ ⊢
  have hA : ∀ q : Nat, s.heap.size ≤ q → A q := fun q h => by rw [← hAe]; exact Or.inr h
  have hS : va_S A s.heap s.heap [] := va_S.rf
  have hP : va_P D xcl [(a0, .inr (5, [v2, v3, v4, v5, v6, v7, v8, v9, v10, v11, v12, v13, v14, v15, v16, v17, v18, v19, v20, v21, v22, v23, v24, v25, v26, v27, v28, v29, v30, v31, v32, v33])), (a1, .inr (6, [.int 0, v34, v35, v36, v37, v38]))] s.heap := hP
  have hl := lv_entry ([.ref a0, .int 7, .ref a1]) (n := 3) (Nat.le_of_ble_eq_true rfl)
  rw [lg_entry_eq]
  generalize (lg_sl ([.ref a0, .int 7, .ref a1]) ++ List.replicate (3 - (lg_sl ([.ref a0, .int 7, .ref a1])).length) Slot.unset).toArray = ls at hl ⊢
  have hl : lv_has ls 3 [(0, .ref a0), (1, .int 7), (2, .ref a1)] := hl
  refine lv_iload_n hx hb dM_one1_0 rfl (lv_at hl 1 rfl) ?_
  refine lv_tableIn (off := 135) (tgt := 136) hx hb dM_one1_1 (by decide) (by decide) (by decide) (by decide) ?_
  refine lv_aload_n hx hb dM_one1_136 rfl (lv_at hl 0 rfl) ?_
  refine lv_aload_n hx hb dM_one1_137 rfl (lv_at hl 2 rfl) ?_
  obtain ⟨hPc, hDc, hFc⟩ := xcut (wc := [(a0, .inr (5, [v2, v3, v4, v5, v6, v7, v8, v9, v10, v11, v12, v13, v14, v15, v16, v17, v18, v19, v20, v21, v22, v23, v24, v25, v26, v27, v28, v29, v30, v31, v32, v33])), (a1, .inr (6, [.int 0, v34, v35, v36, v37, v38]))]) hP hD hS hA [0, 1] rfl rfl (by decide)
  refine xx_thr (vx_runVX (C := "ValueBenchModel") (As := [.ref a1]) (rest := []) ⟨hx, hb, hml, hown, htx⟩ (cM_fromJson_0 l hl9 D cT aK aV s.heap.size a0 a1 v2 v3 v4 v5 v6 v7 v8 v9 v10 v11 v12 v13 v14 v15 v16 v17 v18 v19 v20 v21 v22 v23 v24 v25 v26 v27 v28 v29 v30 v31 v32 v33 v34 v35 v36 v37 v38) (xcVW 1 htx (xw_goodC kw_7_58) rfl rfl rfl (htx _ kw_1_5) (htx _ kw_7_55) ⟨by decide, by decide, by decide +kernel⟩ ⟨Nat.le_of_ble_eq_true rfl, Nat.le_of_ble_eq_true rfl⟩ (htx _ kw_7_57) (htx _ kp_M_fromJson)) ⟨xPre_blind, va_recv hK hP (ci := 5) rfl (q0 := 0) rfl, (fun U hU hW => ⟨rfl, xPre_of hZ hS hFc hPc hDc hK U hU hW⟩)⟩ rfl rfl hl.1 rfl (lv_room (Nat.le_of_ble_eq_true rfl)) dM_one1_138 ⟨Nat.le_of_ble_eq_true rfl, Nat.le_of_ble_eq_true rfl⟩) hS hFc (fun q _ h => hFc q h) (fun E ce q9 u9 t H1 locs ht hvm _ hB hz1 hk1 hS hce hcv hcl => ?_)
  obtain ⟨rfl, hP1, hK1, hD1⟩ := hB
  rw [ht] at hP1
  obtain ⟨hP, hD⟩ := xjoin (W := [(a0, .inr (5, [v2, v3, v4, v5, v6, v7, v8, v9, .int 1, v11, v12, v13, v14, v15, v16, v17, v18, v19, v20, v21, v22, v23, v24, v25, v26, v27, v28, v29, v30, v31, v32, v33])), (a1, .inr (6, [.int 0, v34, v35, v36, v37, v38]))]) hP hD [0, 1] [] 0 rfl rfl (by decide) (by decide) hk1 hFc hP1 hD1
  generalize H1 = H at hP hS hce ⊢
  obtain ⟨hP9, hD9⟩ := xsub (wc := [(a0, .inr (5, [v2, v3, v4, v5, v6, v7, v8, v9, .int 1, v11, v12, v13, v14, v15, v16, v17, v18, v19, v20, v21, v22, v23, v24, v25, v26, v27, v28, v29, v30, v31, v32, v33])), (a1, .inr (6, [.int 0, v34, v35, v36, v37, v38]))]) hP hD [0, 1] rfl rfl (by decide)
  exact vx_out (E := "java/lang/ArithmeticException") (fun x h => (hne x h).elim) hlocks hce hcv hcl (fun t ht ha => ⟨(), trivial, ⟨rfl, by rw [ht]; exact hP9, va_K.moved ha hK, hD9⟩, hS.F ht⟩) hS.2.2 (Nat.le_of_ble_eq_true rfl) (Nat.le_of_ble_eq_true rfl)
set_option maxHeartbeats 400000000 in
set_option maxRecDepth 100000 in
theorem cM_finish_24 (l : Launch) (hl9 : l.stackTraces = false) (D : va_G) (cT : Nat → ClassId) (aK aV : Nat → Nat) (sz : Nat) (a0 : Nat) (a1 : Nat) (a2 : Nat) (a3 : Nat) (a4 : Nat) (x5 : Int32) (x6 : Int32) (x11 : Int32) (v12 : Value) (v13 : Value) (v14 : Value) (v15 : Value) (v16 : Value) (v17 : Value) (v18 : Value) (v19 : Value) (v20 : Value) (v21 : Value) (v22 : Value) (v23 : Value) (v24 : Value) (v25 : Value) (v26 : Value) (v27 : Value) (v28 : Value) (v29 : Value) (v30 : Value) (v31 : Value) (v32 : Value) (v33 : Value) (v34 : Value) (v35 : Value) (v36 : Value) (v37 : Value) (v38 : Value) (v39 : Value) (f40 : Nat → Option Nat) (f42 : Nat → Int32) (f44 : Nat → Int32) (f49 : Nat → Option Nat) (h7 : ¬ x6 < 0) (h8 : ¬ 7 < x6) (h9 : x6 ≤ 7) (h10 : vp_in x6 8) (h41 : f40 x6.toNatClampNeg = some a3) (h43 : f42 x6.toNatClampNeg = 4) (h45 : f44 0 = 110) (h46 : f44 1 = 117) (h47 : f44 2 = 108) (h48 : f44 3 = 108) (h50 : f49 0 = none) : xMet l yM_finish wyM_finish 10 2 12 193 D cT aK aV sz [.ref a0, .int x5, .int 1, .int 7, .int x6, .int x11] [(a0, .inr (5, [v12, .ref a4, .int 0, v13, v14, v15, v16, v17, v18, v19, v20, v21, v22, v23, v24, v25, v26, v27, v28, v29, v30, v31, v32, v33, .ref a1, .ref a2, v34, v35, v36, v37, v38, v39])), (a1, .inl (cT 5, 8, .inr (.inr (.inr (.inr f40))))), (a2, .inl (cT 1, 8, .inl f42)), (a3, .inl (cT 0, 4096, .inl f44)), (a4, .inl (cT 4, 1024, .inr (.inr (.inr (.inr f49)))))] (fun A => va_Qv (fun _ : Unit => True) (fun _ t => ∃ (r1 : Nat), xB D xcl cT A [(a0, .inr (5, [.int 2, .ref a4, .int 1, v13, v14, v15, v16, v17, .int 1, v19, v20, v21, v22, v23, v24, .ref a3, .int 4, .int 4, .int 0, .int 100, v30, v31, v32, v33, .ref a1, .ref a2, v34, v35, v36, v37, .int 1, v39])), (a1, .inl (cT 5, 8, .inr (.inr (.inr (.inr f40))))), (a2, .inl (cT 1, 8, .inl f42)), (a3, .inl (cT 0, 4096, .inl f44)), (a4, .inl (cT 4, 1024, .inr (.inr (.inr (.inr (va_up f49 0 (some r1))))))), (r1, .inr (6, [.int 0, .long 0, .int 0, .int 0, .int 0, .int 1]))] t) A) := by
  refine va_MetW (cc := prog_13_method_90_code) (maxL := 10) (ret := none) (hh := [(0, 128, 131, 83), (0, 128, 149, 86)]) (by decide) rfl ?_
  intro p e s m args below meth c s₁ B hml hv
  obtain ⟨rfl, hsz, hZ, hP, hK, hD0⟩ := hv
  have hx := B.exec
  have hb := B.bytes
  have hr := B.returns
  have hts := atoms_spec (ws := wyM_finish) B.pre
  have htx := fun w h => hts w (List.mem_cons_of_mem _ h)
  have hown : s.vm.findClass "ValueBenchModel" = some m.cls := findClass_of_methodNamed B.named
  have hlocks := B.notSynchronized
  subst hsz
  have hD := hD0.self (sz := s.heap.size)
  generalize hAe : va_A [(a0, .inr (5, [v12, .ref a4, .int 0, v13, v14, v15, v16, v17, v18, v19, v20, v21, v22, v23, v24, v25, v26, v27, v28, v29, v30, v31, v32, v33, .ref a1, .ref a2, v34, v35, v36, v37, v38, v39])), (a1, .inl (cT 5, 8, .inr (.inr (.inr (.inr f40))))), (a2, .inl (cT 1, 8, .inl f42)), (a3, .inl (cT 0, 4096, .inl f44)), (a4, .inl (cT 4, 1024, .inr (.inr (.inr (.inr f49)))))] s.heap.size = A at hD hZ ⊢
  have hA : ∀ q : Nat, s.heap.size ≤ q → A q := fun q h => by rw [← hAe]; exact Or.inr h
  have hS : va_S A s.heap s.heap [] := va_S.rf
  have hP : va_P D xcl [(a0, .inr (5, [v12, .ref a4, .int 0, v13, v14, v15, v16, v17, v18, v19, v20, v21, v22, v23, v24, v25, v26, v27, v28, v29, v30, v31, v32, v33, .ref a1, .ref a2, v34, v35, v36, v37, v38, v39])), (a1, .inl (cT 5, 8, .inr (.inr (.inr (.inr f40))))), (a2, .inl (cT 1, 8, .inl f42)), (a3, .inl (cT 0, 4096, .inl f44)), (a4, .inl (cT 4, 1024, .inr (.inr (.inr (.inr f49)))))] s.heap := hP
  have hl := lv_entry ([.ref a0, .int x5, .int 1, .int 7, .int x6, .int x11]) (n := 10) (Nat.le_of_ble_eq_true rfl)
  rw [lg_entry_eq]
  generalize (lg_sl ([.ref a0, .int x5, .int 1, .int 7, .int x6, .int x11]) ++ List.replicate (10 - (lg_sl ([.ref a0, .int x5, .int 1, .int 7, .int x6, .int x11])).length) Slot.unset).toArray = ls at hl ⊢
  have hl : lv_has ls 10 [(0, .ref a0), (1, .int x5), (2, .int 1), (3, .int 7), (4, .int x6), (5, .int x11)] := hl
  have htab := vx_table (x := yM_finish) B (hts _ List.mem_cons_self)
  refine lv_aload_n hx hb dM_finish_0 rfl (lv_at hl 0 rfl) ?_
  refine lv_iload hx hb dM_finish_1 (lv_at hl 4 rfl) ?_
  obtain ⟨hPc, hDc, hFc⟩ := xcut (wc := [(a0, .inr (5, [v12, .ref a4, .int 0, v13, v14, v15, v16, v17, v18, v19, v20, v21, v22, v23, v24, v25, v26, v27, v28, v29, v30, v31, v32, v33, .ref a1, .ref a2, v34, v35, v36, v37, v38, v39])), (a1, .inl (cT 5, 8, .inr (.inr (.inr (.inr f40))))), (a2, .inl (cT 1, 8, .inl f42)), (a3, .inl (cT 0, 4096, .inl f44)), (a4, .inl (cT 4, 1024, .inr (.inr (.inr (.inr f49)))))]) hP hD hS hA [0, 1, 2, 3, 4] rfl rfl (by decide)
  refine va_callr (va_runV (C := "ValueBenchModel") (As := [.int x6]) (rest := []) ⟨hx, hb, hml, hown, htx⟩ (cM_register_3 l hl9 D cT aK aV s.heap.size a0 a1 a2 a3 a4 x6 v12 v13 v14 v15 v16 v17 v18 v19 v20 v21 v22 v23 v24 v25 v26 v27 v28 v29 v30 v31 v32 v33 v34 v35 v36 v37 v38 v39 f40 f42 f44 f49 h7 h8 h9 h10 (by first | rfl | exact h41 | exact h43 | exact h45 | exact h46 | exact h47 | exact h48 | exact h50) (by first | rfl | exact h41 | exact h43 | exact h45 | exact h46 | exact h47 | exact h48 | exact h50) (by first | rfl | exact h41 | exact h43 | exact h45 | exact h46 | exact h47 | exact h48 | exact h50) (by first | rfl | exact h41 | exact h43 | exact h45 | exact h46 | exact h47 | exact h48 | exact h50) (by first | rfl | exact h41 | exact h43 | exact h45 | exact h46 | exact h47 | exact h48 | exact h50) (by first | rfl | exact h41 | exact h43 | exact h45 | exact h46 | exact h47 | exact h48 | exact h50) (by first | rfl | exact h41 | exact h43 | exact h45 | exact h46 | exact h47 | exact h48 | exact h50)) ⟨callB_of 1 htx (xw_goodC kw_6_170) rfl rfl rfl (htx _ kw_1_5) (htx _ kw_6_167) ⟨by decide, by decide, by decide +kernel⟩ ⟨Nat.le_of_ble_eq_true rfl, Nat.le_of_ble_eq_true rfl⟩, (htx _ kw_6_169), (htx _ kp_M_register)⟩ ⟨xPre_blind, va_recv hK hP (ci := 5) rfl (q0 := 0) rfl, (fun U hU hW => ⟨rfl, xPre_of hZ hS hFc hPc hDc hK U hU hW⟩)⟩ rfl rfl hl.1 rfl (lv_room (Nat.le_of_ble_eq_true rfl)) dM_finish_3 ⟨Nat.le_of_ble_eq_true rfl, Nat.le_of_ble_eq_true rfl⟩) hS (fun q _ h => hFc q h) hFc (fun u9 r1 t H1 locs ht hvm hr9 hB hz1 hk1 hS => ?_)
  obtain ⟨hP1, hK1, hD1⟩ := hB
  rw [ht] at hP1
  obtain ⟨hP, hD⟩ := xjoin (W := [(a0, .inr (5, [v12, .ref a4, .int 1, v13, v14, v15, v16, v17, v18, v19, v20, v21, v22, v23, v24, .ref a3, .int 4, .int 4, .int 0, .int 100, v30, v31, v32, v33, .ref a1, .ref a2, v34, v35, v36, v37, v38, v39])), (a1, .inl (cT 5, 8, .inr (.inr (.inr (.inr f40))))), (a2, .inl (cT 1, 8, .inl f42)), (a3, .inl (cT 0, 4096, .inl f44)), (a4, .inl (cT 4, 1024, .inr (.inr (.inr (.inr (va_up f49 0 (some r1))))))), (r1, .inr (6, [.int 0, .long 0, .int 0, .int 0, .int 0, .int 1]))]) hP hD [0, 1, 2, 3, 4] [] 0 rfl rfl (by decide) (by decide) hk1 hFc hP1 hD1
  generalize H1 = H at hP hS ⊢
  refine W.eq (g2 := F0 m 6 ls [.ref r1]) rfl ?_
  refine lv_astore (lv' := [(6, .ref r1), (0, .ref a0), (1, .int x5), (2, .int 1), (3, .int 7), (4, .int x6), (5, .int x11)]) hx hb dM_finish_6 hl (by decide) rfl (fun ls hl => ?_)
  refine lv_iload_n hx hb dM_finish_8 rfl (lv_at hl 3 rfl) ?_
  refine lv_iconst (v := 1) hx hb dM_finish_9 (by decide) ?_
  refine lv_icmp_ne (tgt := 17) hx hb dM_finish_10 (by decide) (fun h => ((by revert h; decide : False)).elim) (fun _ => ?_)
  refine lv_null hx hb dM_finish_13 ?_
  refine lv_goto (tgt := 23) hx hb dM_finish_14 (by decide) ?_
  refine lv_astoreN (lv' := [(7, .null), (6, .ref r1), (0, .ref a0), (1, .int x5), (2, .int 1), (3, .int 7), (4, .int x6), (5, .int x11)]) hx hb dM_finish_23 hl (by decide) rfl (fun ls hl => ?_)
  refine lv_iload_n hx hb dM_finish_25 rfl (lv_at hl 4 rfl) ?_
  refine lv_if_ne (tgt := 43) hx hb dM_finish_26 (by decide) (fun _ => ?_) (fun h => ((by revert h; decide : False)).elim)
  refine lv_iload_n hx hb dM_finish_43 rfl (lv_at hl 4 rfl) ?_
  refine lv_iconst (v := 1) hx hb dM_finish_44 (by decide) ?_
  refine lv_icmp_ne (tgt := 60) hx hb dM_finish_45 (by decide) (fun h => ((by revert h; decide : False)).elim) (fun _ => ?_)
  refine lv_aload_n hx hb dM_finish_48 rfl (lv_at hl 2 rfl) ?_
  refine lv_iload_n hx hb dM_finish_49 rfl (lv_at hl 5 rfl) ?_
  refine lv_aload hx hb dM_finish_50 (lv_at hl 1 rfl) ?_
  obtain ⟨hPc, hDc, hFc⟩ := xcut (wc := [(a0, .inr (5, [v12, .ref a4, .int 1, v13, v14, v15, v16, v17, v18, v19, v20, v21, v22, v23, v24, .ref a3, .int 4, .int 4, .int 0, .int 100, v30, v31, v32, v33, .ref a1, .ref a2, v34, v35, v36, v37, v38, v39])), (r1, .inr (6, [.int 0, .long 0, .int 0, .int 0, .int 0, .int 1]))]) hP hD hS hA [0, 5] rfl rfl (by decide)
  refine xx_thr (vx_runV (C := "ValueBenchModel") (As := [.int 7, .ref r1]) (rest := []) ⟨hx, hb, hml, hown, htx⟩ (cM_one1_7 l hl9 D cT aK aV H.size a0 r1 v12 (.ref a4) (.int 1) v13 v14 v15 v16 v17 v18 v19 v20 v21 v22 v23 v24 (.ref a3) (.int 4) (.int 4) (.int 0) (.int 100) v30 v31 v32 v33 (.ref a1) (.ref a2) v34 v35 v36 v37 v38 v39 (.long 0) (.int 0) (.int 0) (.int 0) (.int 1)) ⟨callB_of 2 htx (xw_goodC kw_6_237) rfl rfl rfl (htx _ kw_1_5) (htx _ kw_6_234) ⟨by decide, by decide, by decide +kernel⟩ ⟨Nat.le_of_ble_eq_true rfl, Nat.le_of_ble_eq_true rfl⟩, (htx _ kw_6_236), (htx _ kp_M_one1)⟩ ⟨xPre_blind, va_recv hK hP (ci := 5) rfl (q0 := 0) rfl, (fun U hU hW => ⟨rfl, xPre_of hZ hS hFc hPc hDc hK U hU hW⟩)⟩ rfl rfl hl.1 rfl (lv_room (Nat.le_of_ble_eq_true rfl)) dM_finish_52 ⟨Nat.le_of_ble_eq_true rfl, Nat.le_of_ble_eq_true rfl⟩) hS hFc (fun q _ h => hFc q h) (fun E ce q9 u9 t H1 locs ht hvm _ hB hz1 hk1 hS hce hcv hcl => ?_)
  obtain ⟨rfl, hP1, hK1, hD1⟩ := hB
  rw [ht] at hP1
  obtain ⟨hP, hD⟩ := xjoin (W := [(a1, .inl (cT 5, 8, .inr (.inr (.inr (.inr f40))))), (a2, .inl (cT 1, 8, .inl f42)), (a3, .inl (cT 0, 4096, .inl f44)), (a4, .inl (cT 4, 1024, .inr (.inr (.inr (.inr (va_up f49 0 (some r1))))))), (a0, .inr (5, [v12, .ref a4, .int 1, v13, v14, v15, v16, v17, .int 1, v19, v20, v21, v22, v23, v24, .ref a3, .int 4, .int 4, .int 0, .int 100, v30, v31, v32, v33, .ref a1, .ref a2, v34, v35, v36, v37, v38, v39])), (r1, .inr (6, [.int 0, .long 0, .int 0, .int 0, .int 0, .int 1]))]) hP hD [0, 5] [1, 2, 3, 4] 4 rfl rfl (by decide) (by decide) hk1 hFc hP1 hD1
  generalize H1 = H at hP hS hce ⊢
  refine vx_catch (own := "ValueBenchModel") (name := "java/lang/ArithmeticException") (E := "java/lang/ArithmeticException") hown [] ⟨0, 128, 131, 83⟩ [⟨0, 128, 149, 86⟩] (by rw [htab]; rfl) (fun z hz => nomatch hz) (by decide) (by decide) (htx _ kw_6_94) ((hZ.2.2.2.2.2.1 "java/lang/ArithmeticException" (List.mem_of_getElem? (i := 3) rfl)).use rfl) hce hcv hcl ?_
  refine lv_astore (lv' := [(6, .ref q9), (7, .null), (0, .ref a0), (1, .int x5), (2, .int 1), (3, .int 7), (4, .int x6), (5, .int x11)]) hx hb dM_finish_131 hl (by decide) rfl (fun ls hl => ?_)
  refine lv_aload_n hx hb dM_finish_133 rfl (lv_at hl 2 rfl) ?_
  refine lv_aload_n hx hb dM_finish_134 rfl (lv_at hl 2 rfl) ?_
  refine va_get (D := D) (ci := 5) (v := .int 1) (C := "ValueBenchModel") (T := TM) (N := 32) hx hb htx inM hown hK hP 4 rfl rfl 8 (by decide) (htx _ kw_5_95) (fun _ h9 => h9) rfl dM_finish_135 ?_
  refine va_put (D := D) (ci := 5) (v := .int 1) (ty := .int) (C := "ValueBenchModel") (T := TM) (N := 32) hx hb htx inM tyM tyM_ok nmM hown hK hP hD hS 4 rfl rfl 30 (by decide) (htx _ kw_5_117) (fun _ h9 => h9) rfl (by decide +kernel) rfl rfl (Nat.le_of_ble_eq_true rfl) dM_finish_138 (fun H locs hP hD hS => ?_)
  obtain ⟨hP, hD⟩ : xPD D xcl A [(a1, .inl (cT 5, 8, .inr (.inr (.inr (.inr f40))))), (a2, .inl (cT 1, 8, .inl f42)), (a3, .inl (cT 0, 4096, .inl f44)), (a4, .inl (cT 4, 1024, .inr (.inr (.inr (.inr (va_up f49 0 (some r1))))))), (a0, .inr (5, [v12, .ref a4, .int 1, v13, v14, v15, v16, v17, .int 1, v19, v20, v21, v22, v23, v24, .ref a3, .int 4, .int 4, .int 0, .int 100, v30, v31, v32, v33, .ref a1, .ref a2, v34, v35, v36, v37, .int 1, v39])), (r1, .inr (6, [.int 0, .long 0, .int 0, .int 0, .int 0, .int 1]))] H := ⟨hP, hD⟩
  refine lv_aload_n hx hb dM_finish_141 rfl (lv_at hl 2 rfl) ?_
  refine lv_iconst (v := 2) hx hb dM_finish_142 (by decide) ?_
  refine va_put (D := D) (ci := 5) (v := .int 2) (ty := .int) (C := "ValueBenchModel") (T := TM) (N := 32) hx hb htx inM tyM tyM_ok nmM hown hK hP hD hS 4 rfl rfl 0 (by decide) (htx _ kw_5_87) (fun _ h9 => h9) rfl (by decide +kernel) rfl rfl (Nat.le_of_ble_eq_true rfl) dM_finish_143 (fun H locs hP hD hS => ?_)
  obtain ⟨hP, hD⟩ : xPD D xcl A [(a1, .inl (cT 5, 8, .inr (.inr (.inr (.inr f40))))), (a2, .inl (cT 1, 8, .inl f42)), (a3, .inl (cT 0, 4096, .inl f44)), (a4, .inl (cT 4, 1024, .inr (.inr (.inr (.inr (va_up f49 0 (some r1))))))), (a0, .inr (5, [.int 2, .ref a4, .int 1, v13, v14, v15, v16, v17, .int 1, v19, v20, v21, v22, v23, v24, .ref a3, .int 4, .int 4, .int 0, .int 100, v30, v31, v32, v33, .ref a1, .ref a2, v34, v35, v36, v37, .int 1, v39])), (r1, .inr (6, [.int 0, .long 0, .int 0, .int 0, .int 0, .int 1]))] H := ⟨hP, hD⟩
  refine lv_goto (tgt := 156) hx hb dM_finish_146 (by decide) ?_
  obtain ⟨hP9, hD9⟩ := xsub (wc := [(a0, .inr (5, [.int 2, .ref a4, .int 1, v13, v14, v15, v16, v17, .int 1, v19, v20, v21, v22, v23, v24, .ref a3, .int 4, .int 4, .int 0, .int 100, v30, v31, v32, v33, .ref a1, .ref a2, v34, v35, v36, v37, .int 1, v39])), (a1, .inl (cT 5, 8, .inr (.inr (.inr (.inr f40))))), (a2, .inl (cT 1, 8, .inl f42)), (a3, .inl (cT 0, 4096, .inl f44)), (a4, .inl (cT 4, 1024, .inr (.inr (.inr (.inr (va_up f49 0 (some r1))))))), (r1, .inr (6, [.int 0, .long 0, .int 0, .int 0, .int 0, .int 1]))]) hP hD [4, 0, 1, 2, 3, 5] rfl rfl (by decide)
  refine W.widen (k := 2) (n := 12) (Nat.le_of_ble_eq_true rfl) (Nat.le_of_ble_eq_true rfl) ?_
  exact W.vret hx hb hr (fun t ht hW => ⟨⟨(), rfl, trivial, r1, by rw [ht]; exact hP9, va_K.moved hW.alike hK, hD9⟩, hS.F ht⟩) hS.2.2 dM_finish_156
set_option maxHeartbeats 400000000 in
set_option maxRecDepth 100000 in
theorem cM_one0_17 (l : Launch) (hl9 : l.stackTraces = false) (D : va_G) (cT : Nat → ClassId) (aK aV : Nat → Nat) (sz : Nat) (a0 : Nat) (a1 : Nat) (a2 : Nat) (a3 : Nat) (a4 : Nat) (x5 : Int32) (x10 : Int32) (v15 : Value) (v16 : Value) (v17 : Value) (v18 : Value) (v19 : Value) (v20 : Value) (v21 : Value) (v22 : Value) (v23 : Value) (v24 : Value) (v25 : Value) (v26 : Value) (v27 : Value) (v28 : Value) (v29 : Value) (v30 : Value) (v31 : Value) (v32 : Value) (v33 : Value) (v34 : Value) (v35 : Value) (v36 : Value) (v37 : Value) (v38 : Value) (v39 : Value) (v40 : Value) (v41 : Value) (v42 : Value) (v43 : Value) (f44 : Nat → Option Nat) (f46 : Nat → Int32) (f48 : Nat → Int32) (f53 : Nat → Option Nat) (h6 : ¬ x5 < 0) (h7 : ¬ 7 < x5) (h8 : x5 ≤ 7) (h9 : vp_in x5 8) (h11 : ¬ x10 < 0) (h12 : ¬ 7 < x10) (h13 : x10 ≤ 7) (h14 : vp_in x10 8) (h45 : f44 x10.toNatClampNeg = some a3) (h47 : f46 x10.toNatClampNeg = 4) (h49 : f48 0 = 110) (h50 : f48 1 = 117) (h51 : f48 2 = 108) (h52 : f48 3 = 108) (h54 : f53 0 = none) : xMet l yM_one0 wyM_one0 11 2 12 222 D cT aK aV sz [.ref a0, .int x5, .int 7, .int x10] [(a0, .inr (5, [v15, .ref a4, v16, v17, v18, v19, v20, v21, v22, v23, v24, v25, v26, v27, v28, v29, v30, v31, v32, v33, v34, v35, v36, v37, .ref a1, .ref a2, v38, v39, v40, v41, v42, v43])), (a1, .inl (cT 5, 8, .inr (.inr (.inr (.inr f44))))), (a2, .inl (cT 1, 8, .inl f46)), (a3, .inl (cT 0, 4096, .inl f48)), (a4, .inl (cT 4, 1024, .inr (.inr (.inr (.inr f53)))))] (fun A => va_Qv (fun _ : Unit => True) (fun _ t => ∃ (q3 : Nat), xB D xcl cT A [(a0, .inr (5, [.int 2, .ref a4, .int 1, v17, .int 0, v19, v20, .int 0, .int 1, .int 0, v24, v25, .int 0, v27, v28, .ref a3, .int 4, .int 4, .int 0, .int 100, v34, v35, .int 0, .int 1000000000, .ref a1, .ref a2, v38, v39, v40, v41, .int 1, v43])), (a1, .inl (cT 5, 8, .inr (.inr (.inr (.inr f44))))), (a2, .inl (cT 1, 8, .inl f46)), (a3, .inl (cT 0, 4096, .inl f48)), (a4, .inl (cT 4, 1024, .inr (.inr (.inr (.inr (va_up f53 0 (some q3))))))), (q3, .inr (6, [.int 0, .long 0, .int 0, .int 0, .int 0, .int 1]))] t) A) := by
  refine Met.ofW (cc := prog_13_method_92_code) (maxL := 4) (ret := none) (by decide) rfl ?_
  intro p e s m args below meth c s₁ B hml hv
  obtain ⟨rfl, hsz, hZ, hP, hK, hD0⟩ := hv
  have hx := B.exec
  have hb := B.bytes
  have hr := B.returns
  have hts := atoms_spec (ws := wyM_one0) B.pre
  have htx := fun w h => hts w (List.mem_cons_of_mem _ h)
  have hown : s.vm.findClass "ValueBenchModel" = some m.cls := findClass_of_methodNamed B.named
  have hlocks := B.notSynchronized
  subst hsz
  have hD := hD0.self (sz := s.heap.size)
  generalize hAe : va_A [(a0, .inr (5, [v15, .ref a4, v16, v17, v18, v19, v20, v21, v22, v23, v24, v25, v26, v27, v28, v29, v30, v31, v32, v33, v34, v35, v36, v37, .ref a1, .ref a2, v38, v39, v40, v41, v42, v43])), (a1, .inl (cT 5, 8, .inr (.inr (.inr (.inr f44))))), (a2, .inl (cT 1, 8, .inl f46)), (a3, .inl (cT 0, 4096, .inl f48)), (a4, .inl (cT 4, 1024, .inr (.inr (.inr (.inr f53)))))] s.heap.size = A at hD hZ ⊢
  have hA : ∀ q : Nat, s.heap.size ≤ q → A q := fun q h => by rw [← hAe]; exact Or.inr h
  have hS : va_S A s.heap s.heap [] := va_S.rf
  have hP : va_P D xcl [(a0, .inr (5, [v15, .ref a4, v16, v17, v18, v19, v20, v21, v22, v23, v24, v25, v26, v27, v28, v29, v30, v31, v32, v33, v34, v35, v36, v37, .ref a1, .ref a2, v38, v39, v40, v41, v42, v43])), (a1, .inl (cT 5, 8, .inr (.inr (.inr (.inr f44))))), (a2, .inl (cT 1, 8, .inl f46)), (a3, .inl (cT 0, 4096, .inl f48)), (a4, .inl (cT 4, 1024, .inr (.inr (.inr (.inr f53)))))] s.heap := hP
  have hl := lv_entry ([.ref a0, .int x5, .int 7, .int x10]) (n := 4) (Nat.le_of_ble_eq_true rfl)
  rw [lg_entry_eq]
  generalize (lg_sl ([.ref a0, .int x5, .int 7, .int x10]) ++ List.replicate (4 - (lg_sl ([.ref a0, .int x5, .int 7, .int x10])).length) Slot.unset).toArray = ls at hl ⊢
  have hl : lv_has ls 4 [(0, .ref a0), (1, .int x5), (2, .int 7), (3, .int x10)] := hl
  refine lv_aload_n hx hb dM_one0_0 rfl (lv_at hl 0 rfl) ?_
  obtain ⟨hPc, hDc, hFc⟩ := xcut (wc := [(a0, .inr (5, [v15, .ref a4, v16, v17, v18, v19, v20, v21, v22, v23, v24, v25, v26, v27, v28, v29, v30, v31, v32, v33, v34, v35, v36, v37, .ref a1, .ref a2, v38, v39, v40, v41, v42, v43]))]) hP hD hS hA [0] rfl rfl (by decide)
  refine va_callv (va_runV (C := "ValueBenchModel") (As := []) (rest := []) ⟨hx, hb, hml, hown, htx⟩ (cM_begin_0 l hl9 D cT aK aV s.heap.size a0 v15 (.ref a4) v16 v17 v18 v19 v20 v21 v22 v23 v24 v25 v26 v27 v28 v29 v30 v31 v32 v33 v34 v35 v36 v37 (.ref a1) (.ref a2) v38 v39 v40 v41 v42 v43) ⟨callB_of 0 htx (xw_goodC kw_5_209) rfl rfl rfl (htx _ kw_1_5) (htx _ kw_5_206) ⟨by decide, by decide, by decide +kernel⟩ ⟨Nat.le_of_ble_eq_true rfl, Nat.le_of_ble_eq_true rfl⟩, (htx _ kw_5_208), (htx _ kp_M_begin)⟩ ⟨xPre_blind, va_recv hK hP (ci := 5) rfl (q0 := 0) rfl, (fun U hU hW => ⟨rfl, xPre_of hZ hS hFc hPc hDc hK U hU hW⟩)⟩ rfl rfl hl.1 rfl (lv_room (Nat.le_of_ble_eq_true rfl)) dM_one0_1 ⟨Nat.le_of_ble_eq_true rfl, Nat.le_of_ble_eq_true rfl⟩) hS (fun q _ h => hFc q h) hFc (fun u9 t H1 locs ht hvm hr9 hB hz1 hk1 hS => ?_)
  obtain ⟨hP1, hK1, hD1⟩ := hB
  rw [ht] at hP1
  obtain ⟨hP, hD⟩ := xjoin (W := [(a1, .inl (cT 5, 8, .inr (.inr (.inr (.inr f44))))), (a2, .inl (cT 1, 8, .inl f46)), (a3, .inl (cT 0, 4096, .inl f48)), (a4, .inl (cT 4, 1024, .inr (.inr (.inr (.inr f53))))), (a0, .inr (5, [.int 0, .ref a4, .int 0, v17, .int 0, v19, v20, .int 0, v22, .int 0, v24, v25, .int 0, v27, v28, v29, v30, v31, v32, v33, v34, v35, .int 0, .int 1000000000, .ref a1, .ref a2, v38, v39, v40, v41, v42, v43]))]) hP hD [0] [1, 2, 3, 4] 4 rfl rfl (by decide) (by decide) hk1 hFc hP1 hD1
  generalize H1 = H at hP hS ⊢
  refine lv_aload_n hx hb dM_one0_4 rfl (lv_at hl 0 rfl) ?_
  refine lv_iload_n hx hb dM_one0_5 rfl (lv_at hl 1 rfl) ?_
  obtain ⟨hPc, hDc, hFc⟩ := xcut (wc := []) hP hD hS hA [] rfl rfl (by decide)
  refine va_calli (va_runV (C := "ValueBenchModel") (As := [.int x5]) (rest := []) ⟨hx, hb, hml, hown, htx⟩ (cM_out_2 l hl9 D cT aK aV H.size a0 x5 h6 h7 h8 h9) ⟨callB_of 1 htx (xw_goodC kw_5_217) rfl rfl rfl (htx _ kw_1_5) (htx _ kw_5_214) ⟨by decide, by decide, by decide +kernel⟩ ⟨Nat.le_of_ble_eq_true rfl, Nat.le_of_ble_eq_true rfl⟩, (htx _ kw_5_216), (htx _ kp_M_out)⟩ ⟨xPre_blind, va_recv hK hP (ci := 5) rfl (q0 := 4) rfl, (fun U hU hW => ⟨rfl, xPre_of hZ hS hFc hPc hDc hK U hU hW⟩)⟩ rfl rfl hl.1 rfl (lv_room (Nat.le_of_ble_eq_true rfl)) dM_one0_6 ⟨Nat.le_of_ble_eq_true rfl, Nat.le_of_ble_eq_true rfl⟩) hS (fun q _ h => hFc q h) hFc (fun r1 u9 t H1 locs ht hvm hr9 hB hz1 hk1 hS => ?_)
  obtain ⟨hP1, hK1, hD1⟩ := hB
  rw [ht] at hP1
  obtain ⟨hP, hD⟩ := xjoin (W := [(a1, .inl (cT 5, 8, .inr (.inr (.inr (.inr f44))))), (a2, .inl (cT 1, 8, .inl f46)), (a3, .inl (cT 0, 4096, .inl f48)), (a4, .inl (cT 4, 1024, .inr (.inr (.inr (.inr f53))))), (a0, .inr (5, [.int 0, .ref a4, .int 0, v17, .int 0, v19, v20, .int 0, v22, .int 0, v24, v25, .int 0, v27, v28, v29, v30, v31, v32, v33, v34, v35, .int 0, .int 1000000000, .ref a1, .ref a2, v38, v39, v40, v41, v42, v43]))]) hP hD [] [0, 1, 2, 3, 4] 5 rfl rfl (by decide) (by decide) hk1 hFc hP1 hD1
  generalize H1 = H at hP hS ⊢
  rw [hr9]
  refine W.eq (g2 := F0 m 9 ls [.int 0]) rfl ?_
  refine lv_if_ne (tgt := 30) hx hb dM_one0_9 (by decide) (fun h => ((by revert h; decide : False)).elim) (fun _ => ?_)
  refine lv_iload_n hx hb dM_one0_12 rfl (lv_at hl 2 rfl) ?_
  refine lv_if_lt (tgt := 30) hx hb dM_one0_13 (by decide) (fun h => ((by revert h; decide : False)).elim) (fun _ => ?_)
  refine lv_iload_n hx hb dM_one0_16 rfl (lv_at hl 2 rfl) ?_
  refine lv_bipush (v := 13) hx hb dM_one0_17 (by decide) ?_
  refine lv_icmp_gt (tgt := 30) hx hb dM_one0_19 (by decide) (fun h => ((by revert h; decide : False)).elim) (fun _ => ?_)
  refine lv_aload_n hx hb dM_one0_22 rfl (lv_at hl 0 rfl) ?_
  refine lv_iload_n hx hb dM_one0_23 rfl (lv_at hl 3 rfl) ?_
  obtain ⟨hPc, hDc, hFc⟩ := xcut (wc := []) hP hD hS hA [] rfl rfl (by decide)
  refine va_calli (va_runV (C := "ValueBenchModel") (As := [.int x10]) (rest := []) ⟨hx, hb, hml, hown, htx⟩ (cM_out_2 l hl9 D cT aK aV H.size a0 x10 h11 h12 h13 h14) ⟨callB_of 1 htx (xw_goodC kw_5_217) rfl rfl rfl (htx _ kw_1_5) (htx _ kw_5_214) ⟨by decide, by decide, by decide +kernel⟩ ⟨Nat.le_of_ble_eq_true rfl, Nat.le_of_ble_eq_true rfl⟩, (htx _ kw_5_216), (htx _ kp_M_out)⟩ ⟨xPre_blind, va_recv hK hP (ci := 5) rfl (q0 := 4) rfl, (fun U hU hW => ⟨rfl, xPre_of hZ hS hFc hPc hDc hK U hU hW⟩)⟩ rfl rfl hl.1 rfl (lv_room (Nat.le_of_ble_eq_true rfl)) dM_one0_24 ⟨Nat.le_of_ble_eq_true rfl, Nat.le_of_ble_eq_true rfl⟩) hS (fun q _ h => hFc q h) hFc (fun r2 u9 t H1 locs ht hvm hr9 hB hz1 hk1 hS => ?_)
  obtain ⟨hP1, hK1, hD1⟩ := hB
  rw [ht] at hP1
  obtain ⟨hP, hD⟩ := xjoin (W := [(a1, .inl (cT 5, 8, .inr (.inr (.inr (.inr f44))))), (a2, .inl (cT 1, 8, .inl f46)), (a3, .inl (cT 0, 4096, .inl f48)), (a4, .inl (cT 4, 1024, .inr (.inr (.inr (.inr f53))))), (a0, .inr (5, [.int 0, .ref a4, .int 0, v17, .int 0, v19, v20, .int 0, v22, .int 0, v24, v25, .int 0, v27, v28, v29, v30, v31, v32, v33, v34, v35, .int 0, .int 1000000000, .ref a1, .ref a2, v38, v39, v40, v41, v42, v43]))]) hP hD [] [0, 1, 2, 3, 4] 5 rfl rfl (by decide) (by decide) hk1 hFc hP1 hD1
  generalize H1 = H at hP hS ⊢
  rw [hr9]
  refine W.eq (g2 := F0 m 27 ls [.int 0]) rfl ?_
  refine lv_if_eq (tgt := 38) hx hb dM_one0_27 (by decide) (fun _ => ?_) (fun h => ((by revert h; decide : False)).elim)
  refine lv_aload_n hx hb dM_one0_38 rfl (lv_at hl 0 rfl) ?_
  refine lv_iload_n hx hb dM_one0_39 rfl (lv_at hl 1 rfl) ?_
  refine lv_iconst (v := 1) hx hb dM_one0_40 (by decide) ?_
  refine lv_iload_n hx hb dM_one0_41 rfl (lv_at hl 2 rfl) ?_
  refine lv_iload_n hx hb dM_one0_42 rfl (lv_at hl 3 rfl) ?_
  refine lv_iload_n hx hb dM_one0_43 rfl (lv_at hl 3 rfl) ?_
  obtain ⟨hPc, hDc, hFc⟩ := xcut (wc := [(a0, .inr (5, [.int 0, .ref a4, .int 0, v17, .int 0, v19, v20, .int 0, v22, .int 0, v24, v25, .int 0, v27, v28, v29, v30, v31, v32, v33, v34, v35, .int 0, .int 1000000000, .ref a1, .ref a2, v38, v39, v40, v41, v42, v43])), (a1, .inl (cT 5, 8, .inr (.inr (.inr (.inr f44))))), (a2, .inl (cT 1, 8, .inl f46)), (a3, .inl (cT 0, 4096, .inl f48)), (a4, .inl (cT 4, 1024, .inr (.inr (.inr (.inr f53)))))]) hP hD hS hA [4, 0, 1, 2, 3] rfl rfl (by decide)
  refine va_callv (vx_runVW (C := "ValueBenchModel") (As := [.int x5, .int 1, .int 7, .int x10, .int x10]) (rest := []) ⟨hx, hb, hml, hown, htx⟩ (cM_finish_24 l hl9 D cT aK aV H.size a0 a1 a2 a3 a4 x5 x10 x10 (.int 0) v17 (.int 0) v19 v20 (.int 0) v22 (.int 0) v24 v25 (.int 0) v27 v28 v29 v30 v31 v32 v33 v34 v35 (.int 0) (.int 1000000000) v38 v39 v40 v41 v42 v43 f44 f46 f48 f53 h11 h12 h13 h14 (by first | rfl | exact h45 | exact h47 | exact h49 | exact h50 | exact h51 | exact h52 | exact h54) (by first | rfl | exact h45 | exact h47 | exact h49 | exact h50 | exact h51 | exact h52 | exact h54) (by first | rfl | exact h45 | exact h47 | exact h49 | exact h50 | exact h51 | exact h52 | exact h54) (by first | rfl | exact h45 | exact h47 | exact h49 | exact h50 | exact h51 | exact h52 | exact h54) (by first | rfl | exact h45 | exact h47 | exact h49 | exact h50 | exact h51 | exact h52 | exact h54) (by first | rfl | exact h45 | exact h47 | exact h49 | exact h50 | exact h51 | exact h52 | exact h54) (by first | rfl | exact h45 | exact h47 | exact h49 | exact h50 | exact h51 | exact h52 | exact h54)) (xcVW 5 htx (xw_goodC kw_6_195) rfl rfl rfl (htx _ kw_1_5) (htx _ kw_6_192) ⟨by decide, by decide, by decide +kernel⟩ ⟨Nat.le_of_ble_eq_true rfl, Nat.le_of_ble_eq_true rfl⟩ (htx _ kw_6_194) (htx _ kp_M_finish)) ⟨xPre_blind, va_recv hK hP (ci := 5) rfl (q0 := 4) rfl, (fun U hU hW => ⟨rfl, xPre_of hZ hS hFc hPc hDc hK U hU hW⟩)⟩ rfl rfl hl.1 rfl (lv_room (Nat.le_of_ble_eq_true rfl)) dM_one0_44 ⟨Nat.le_of_ble_eq_true rfl, Nat.le_of_ble_eq_true rfl⟩) hS (fun q _ h => hFc q h) hFc (fun u9 t H1 locs ht hvm hr9 hB hz1 hk1 hS => ?_)
  obtain ⟨q3, hP1, hK1, hD1⟩ := hB
  rw [ht] at hP1
  obtain ⟨hP, hD⟩ := xjoin (W := [(a0, .inr (5, [.int 2, .ref a4, .int 1, v17, .int 0, v19, v20, .int 0, .int 1, .int 0, v24, v25, .int 0, v27, v28, .ref a3, .int 4, .int 4, .int 0, .int 100, v34, v35, .int 0, .int 1000000000, .ref a1, .ref a2, v38, v39, v40, v41, .int 1, v43])), (a1, .inl (cT 5, 8, .inr (.inr (.inr (.inr f44))))), (a2, .inl (cT 1, 8, .inl f46)), (a3, .inl (cT 0, 4096, .inl f48)), (a4, .inl (cT 4, 1024, .inr (.inr (.inr (.inr (va_up f53 0 (some q3))))))), (q3, .inr (6, [.int 0, .long 0, .int 0, .int 0, .int 0, .int 1]))]) hP hD [4, 0, 1, 2, 3] [] 0 rfl rfl (by decide) (by decide) hk1 hFc hP1 hD1
  generalize H1 = H at hP hS ⊢
  obtain ⟨hP9, hD9⟩ := xsub (wc := [(a0, .inr (5, [.int 2, .ref a4, .int 1, v17, .int 0, v19, v20, .int 0, .int 1, .int 0, v24, v25, .int 0, v27, v28, .ref a3, .int 4, .int 4, .int 0, .int 100, v34, v35, .int 0, .int 1000000000, .ref a1, .ref a2, v38, v39, v40, v41, .int 1, v43])), (a1, .inl (cT 5, 8, .inr (.inr (.inr (.inr f44))))), (a2, .inl (cT 1, 8, .inl f46)), (a3, .inl (cT 0, 4096, .inl f48)), (a4, .inl (cT 4, 1024, .inr (.inr (.inr (.inr (va_up f53 0 (some q3))))))), (q3, .inr (6, [.int 0, .long 0, .int 0, .int 0, .int 0, .int 1]))]) hP hD [0, 1, 2, 3, 4, 5] rfl rfl (by decide)
  refine W.widen (k := 2) (n := 12) (Nat.le_of_ble_eq_true rfl) (Nat.le_of_ble_eq_true rfl) ?_
  exact W.vret hx hb hr (fun t ht hW => ⟨⟨(), rfl, trivial, q3, by rw [ht]; exact hP9, va_K.moved hW.alike hK, hD9⟩, hS.F ht⟩) hS.2.2 dM_one0_47
set_option maxHeartbeats 400000000 in
set_option maxRecDepth 100000 in
theorem cB_isWithin_22 (l : Launch) (hl9 : l.stackTraces = false) (D : va_G) (cT : Nat → ClassId) (aK aV : Nat → Nat) (sz : Nat) : xMet l yB_isWithin wyB_isWithin 0 0 0 0 D cT aK aV sz [.int 8, .int 13] [] (fun A => va_Qi (fun (r : Int32) (_ : Unit) => r = 1) (fun _ t => xB D xcl cT A [] t) A) := by
  refine Met.ofW (cc := prog_1_method_15_code) (maxL := 2) (ret := (some .boolean)) (by decide) rfl ?_
  intro p e s m args below meth c s₁ B hml hv
  obtain ⟨rfl, hsz, hZ, hP, hK, hD0⟩ := hv
  have hx := B.exec
  have hb := B.bytes
  have hr := B.returns
  have hts := atoms_spec (ws := wyB_isWithin) B.pre
  have htx := fun w h => hts w (List.mem_cons_of_mem _ h)
  have hown : s.vm.findClass "ValueBench" = some m.cls := findClass_of_methodNamed B.named
  have hlocks := B.notSynchronized
  subst hsz
  have hD := hD0.self (sz := s.heap.size)
  generalize hAe : va_A [] s.heap.size = A at hD hZ ⊢
  have hA : ∀ q : Nat, s.heap.size ≤ q → A q := fun q h => by rw [← hAe]; exact Or.inr h
  have hS : va_S A s.heap s.heap [] := va_S.rf
  have hP : va_P D xcl [] s.heap := hP
  have hl := lv_entry ([.int 8, .int 13]) (n := 2) (Nat.le_of_ble_eq_true rfl)
  rw [lg_entry_eq]
  generalize (lg_sl ([.int 8, .int 13]) ++ List.replicate (2 - (lg_sl ([.int 8, .int 13])).length) Slot.unset).toArray = ls at hl ⊢
  have hl : lv_has ls 2 [(0, .int 8), (1, .int 13)] := hl
  refine lv_iload_n hx hb dB_isWithin_0 rfl (lv_at hl 0 rfl) ?_
  refine lv_if_lt (tgt := 13) hx hb dB_isWithin_1 (by decide) (fun h => ((by revert h; decide : False)).elim) (fun _ => ?_)
  refine lv_iload_n hx hb dB_isWithin_4 rfl (lv_at hl 0 rfl) ?_
  refine lv_iload_n hx hb dB_isWithin_5 rfl (lv_at hl 1 rfl) ?_
  refine lv_icmp_gt (tgt := 13) hx hb dB_isWithin_6 (by decide) (fun h => ((by revert h; decide : False)).elim) (fun _ => ?_)
  refine lv_iconst (v := 1) hx hb dB_isWithin_9 (by decide) ?_
  refine lv_goto (tgt := 14) hx hb dB_isWithin_10 (by decide) ?_
  obtain ⟨hP9, hD9⟩ := xsub (wc := []) hP hD [] rfl rfl (by decide)
  refine W.widen (k := 0) (n := 0) (Nat.le_of_ble_eq_true rfl) (Nat.le_of_ble_eq_true rfl) ?_
  exact W.zret (v := 1) hx hb hr rfl (fun t ht hW => ⟨⟨1, (), rfl, rfl, by rw [ht]; exact hP9, va_K.moved hW.alike hK, hD9⟩, hS.F ht⟩) hS.2.2 dB_isWithin_14
set_option maxHeartbeats 400000000 in
set_option maxRecDepth 100000 in
theorem cG_apply_8 (l : Launch) (hl9 : l.stackTraces = false) (D : va_G) (cT : Nat → ClassId) (aK aV : Nat → Nat) (sz : Nat) (a0 : Nat) (a1 : Nat) (b2 : Nat) (b3 : Nat) (b4 : Nat) (v5 : Value) (f6 : Nat → Int64) (h7 : f6 0 = 0) : xMet l yG_apply wyG_apply 2 0 0 43 D cT aK aV sz [.int 8, .ref a0, .ref b2, .ref b3, .ref b4] [(a0, .inr (2, [.ref a1, .int 1, v5])), (a1, .inl (cT 2, 4096, .inr (.inl f6)))] (fun A => va_Qi (fun (r : Int32) (_ : Unit) => r = 1) (fun _ t => xB D xcl cT A [(a0, .inr (2, [.ref a1, .int 1, v5])), (a1, .inl (cT 2, 4096, .inr (.inl f6)))] t) A) := by
  refine Met.ofW (cc := prog_9_method_2_code) (maxL := 5) (ret := (some .int)) (by decide) rfl ?_
  intro p e s m args below meth c s₁ B hml hv
  obtain ⟨rfl, hsz, hZ, hP, hK, hD0⟩ := hv
  have hx := B.exec
  have hb := B.bytes
  have hr := B.returns
  have hts := atoms_spec (ws := wyG_apply) B.pre
  have htx := fun w h => hts w (List.mem_cons_of_mem _ h)
  have hown : s.vm.findClass "ValueBench$Singles" = some m.cls := findClass_of_methodNamed B.named
  have hlocks := B.notSynchronized
  subst hsz
  have hD := hD0.self (sz := s.heap.size)
  generalize hAe : va_A [(a0, .inr (2, [.ref a1, .int 1, v5])), (a1, .inl (cT 2, 4096, .inr (.inl f6)))] s.heap.size = A at hD hZ ⊢
  have hA : ∀ q : Nat, s.heap.size ≤ q → A q := fun q h => by rw [← hAe]; exact Or.inr h
  have hS : va_S A s.heap s.heap [] := va_S.rf
  have hP : va_P D xcl [(a0, .inr (2, [.ref a1, .int 1, v5])), (a1, .inl (cT 2, 4096, .inr (.inl f6)))] s.heap := hP
  have hl := lv_entry ([.int 8, .ref a0, .ref b2, .ref b3, .ref b4]) (n := 5) (Nat.le_of_ble_eq_true rfl)
  rw [lg_entry_eq]
  generalize (lg_sl ([.int 8, .ref a0, .ref b2, .ref b3, .ref b4]) ++ List.replicate (5 - (lg_sl ([.int 8, .ref a0, .ref b2, .ref b3, .ref b4])).length) Slot.unset).toArray = ls at hl ⊢
  have hl : lv_has ls 5 [(0, .int 8), (1, .ref a0), (2, .ref b2), (3, .ref b3), (4, .ref b4)] := hl
  refine lv_iload_n hx hb dG_apply_0 rfl (lv_at hl 0 rfl) ?_
  refine lv_tableIn (off := 188) (tgt := 189) hx hb dG_apply_1 (by decide) (by decide) (by decide) (by decide) ?_
  refine lv_aload_n hx hb dG_apply_189 rfl (lv_at hl 1 rfl) ?_
  refine lv_iconst (v := 0) hx hb dG_apply_190 (by decide) ?_
  refine lv_iconst (v := 5) hx hb dG_apply_191 (by decide) ?_
  obtain ⟨hPc, hDc, hFc⟩ := xcut (wc := [(a0, .inr (2, [.ref a1, .int 1, v5])), (a1, .inl (cT 2, 4096, .inr (.inl f6)))]) hP hD hS hA [0, 1] rfl rfl (by decide)
  refine va_calli (va_runV (C := "ValueBench$Row") (As := [.int 0, .int 5]) (rest := []) ⟨hx, hb, hml, hown, htx⟩ (cR_is_2 l hl9 D cT aK aV s.heap.size a0 a1 v5 f6 (by first | rfl | exact h7)) ⟨callB_of 2 htx (xw_goodC kw_3_75) rfl rfl rfl (htx _ kw_1_4) (htx _ kw_4_29) ⟨by decide, by decide, by decide +kernel⟩ ⟨Nat.le_of_ble_eq_true rfl, Nat.le_of_ble_eq_true rfl⟩, (htx _ kw_3_73), (htx _ kw_3_74)⟩ ⟨xPre_blind, va_recv hK hP (ci := 2) rfl (q0 := 0) rfl, (fun U hU hW => ⟨rfl, xPre_of hZ hS hFc hPc hDc hK U hU hW⟩)⟩ rfl rfl hl.1 rfl (lv_room (Nat.le_of_ble_eq_true rfl)) dG_apply_192 ⟨Nat.le_of_ble_eq_true rfl, Nat.le_of_ble_eq_true rfl⟩) hS (fun q _ h => hFc q h) hFc (fun r1 u9 t H1 locs ht hvm hr9 hB hz1 hk1 hS => ?_)
  obtain ⟨hP1, hK1, hD1⟩ := hB
  rw [ht] at hP1
  obtain ⟨hP, hD⟩ := xjoin (W := [(a0, .inr (2, [.ref a1, .int 1, v5])), (a1, .inl (cT 2, 4096, .inr (.inl f6)))]) hP hD [0, 1] [] 0 rfl rfl (by decide) (by decide) hk1 hFc hP1 hD1
  generalize H1 = H at hP hS ⊢
  rw [hr9]
  refine W.eq (g2 := F0 m 195 ls [.int 0]) rfl ?_
  refine lv_if_eq (tgt := 208) hx hb dG_apply_195 (by decide) (fun _ => ?_) (fun h => ((by revert h; decide : False)).elim)
  refine lv_iconst (v := 1) hx hb dG_apply_208 (by decide) ?_
  obtain ⟨hP9, hD9⟩ := xsub (wc := [(a0, .inr (2, [.ref a1, .int 1, v5])), (a1, .inl (cT 2, 4096, .inr (.inl f6)))]) hP hD [0, 1] rfl rfl (by decide)
  refine W.widen (k := 0) (n := 0) (Nat.le_of_ble_eq_true rfl) (Nat.le_of_ble_eq_true rfl) ?_
  exact W.iret (v := 1) hx hb hr (fun t ht hW => ⟨⟨1, (), rfl, rfl, by rw [ht]; exact hP9, va_K.moved hW.alike hK, hD9⟩, hS.F ht⟩) hS.2.2 dG_apply_209
set_option maxHeartbeats 400000000 in
set_option maxRecDepth 100000 in
theorem cB_one_14 (l : Launch) (hl9 : l.stackTraces = false) (D : va_G) (cT : Nat → ClassId) (aK aV : Nat → Nat) (sz : Nat) (a0 : Nat) (a1 : Nat) (a2 : Nat) (a3 : Nat) (a4 : Nat) (x5 : Int32) (x10 : Int32) (v15 : Value) (v16 : Value) (b17 : Nat) (b18 : Nat) (v19 : Value) (v20 : Value) (v21 : Value) (v22 : Value) (v23 : Value) (f24 : Nat → Option Nat) (v26 : Value) (f27 : Nat → Int64) (h6 : ¬ x5 < 0) (h7 : ¬ 7 < x5) (h8 : x5 ≤ 7) (h9 : vp_in x5 8) (h11 : ¬ x10 < 0) (h12 : ¬ 7 < x10) (h13 : x10 ≤ 7) (h14 : vp_in x10 8) (h25 : f24 x10.toNatClampNeg = some a3) (h28 : f27 0 = 0) : xMetX l yB_one wyB_one 7 1 6 121 D cT aK aV sz [.ref a0, .int x5, .int 8, .int x10] [(a0, .inr (0, [v15, v16, .ref b17, .ref a2, .ref b18, .ref a1, v19, v20])), (a1, .inr (2, [v21, v22, v23])), (a2, .inl (cT 3, 8, .inr (.inr (.inr (.inr f24))))), (a3, .inr (2, [.ref a4, .int 1, v26])), (a4, .inl (cT 2, 4096, .inr (.inl f27)))] "java/lang/ArithmeticException" (fun A t => xB D xcl cT A [(a0, .inr (0, [v15, v16, .ref b17, .ref a2, .ref b18, .ref a1, v19, .int 1])), (a1, .inr (2, [v21, .int 0, .int 0])), (a2, .inl (cT 3, 8, .inr (.inr (.inr (.inr f24))))), (a3, .inr (2, [.ref a4, .int 1, v26])), (a4, .inl (cT 2, 4096, .inr (.inl f27)))] t) := by
  refine vx_ofW (cc := prog_1_method_9_code) (maxL := 4) (ret := none) (by decide) rfl ?_
  intro p e s m args below meth c s₁ B hml hne hv
  obtain ⟨rfl, hsz, hZ, hP, hK, hD0⟩ := hv
  have hx := B.exec
  have hb := B.bytes
  have hr := B.returns
  have hts := atoms_spec (ws := wyB_one) B.pre
  have htx := fun w h => hts w (List.mem_cons_of_mem _ h)
  have hown : s.vm.findClass "ValueBench" = some m.cls := findClass_of_methodNamed B.named
  have hlocks := B.notSynchronized
  subst hsz
  have hD := hD0.self (sz := s.heap.size)
  generalize hAe : va_A [(a0, .inr (0, [v15, v16, .ref b17, .ref a2, .ref b18, .ref a1, v19, v20])), (a1, .inr (2, [v21, v22, v23])), (a2, .inl (cT 3, 8, .inr (.inr (.inr (.inr f24))))), (a3, .inr (2, [.ref a4, .int 1, v26])), (a4, .inl (cT 2, 4096, .inr (.inl f27)))] s.heap.size = A at hD hZ ⊢
  have hA : ∀ q : Nat, s.heap.size ≤ q → A q := fun q h => by rw [← hAe]; exact Or.inr h
  have hS : va_S A s.heap s.heap [] := va_S.rf
  have hP : va_P D xcl [(a0, .inr (0, [v15, v16, .ref b17, .ref a2, .ref b18, .ref a1, v19, v20])), (a1, .inr (2, [v21, v22, v23])), (a2, .inl (cT 3, 8, .inr (.inr (.inr (.inr f24))))), (a3, .inr (2, [.ref a4, .int 1, v26])), (a4, .inl (cT 2, 4096, .inr (.inl f27)))] s.heap := hP
  have hl := lv_entry ([.ref a0, .int x5, .int 8, .int x10]) (n := 4) (Nat.le_of_ble_eq_true rfl)
  rw [lg_entry_eq]
  generalize (lg_sl ([.ref a0, .int x5, .int 8, .int x10]) ++ List.replicate (4 - (lg_sl ([.ref a0, .int x5, .int 8, .int x10])).length) Slot.unset).toArray = ls at hl ⊢
  have hl : lv_has ls 4 [(0, .ref a0), (1, .int x5), (2, .int 8), (3, .int x10)] := hl
  refine lv_iload_n hx hb dB_one_0 rfl (lv_at hl 1 rfl) ?_
  obtain ⟨hPc, hDc, hFc⟩ := xcut (wc := []) hP hD hS hA [] rfl rfl (by decide)
  refine va_calli (va_runS (As := [.int x5]) (rest := []) ⟨hx, hb, hml, hown, htx⟩ (cB_isRegister_2 l hl9 D cT aK aV s.heap.size x5 h6 h7 h8 h9) ⟨callB_of 1 htx (xw_goodC kw_2_18) rfl rfl rfl (htx _ kw_1_1) (htx _ kw_2_16) ⟨by decide, by decide, by decide +kernel⟩ ⟨Nat.le_of_ble_eq_true rfl, Nat.le_of_ble_eq_true rfl⟩, htx _ kw_2_17⟩ ⟨xPre_blind, (fun U hU hW => ⟨rfl, xPre_of hZ hS hFc hPc hDc hK U hU hW⟩)⟩ rfl rfl hl.1 rfl (lv_room (Nat.le_of_ble_eq_true rfl)) dB_one_1 ⟨Nat.le_of_ble_eq_true rfl, Nat.le_of_ble_eq_true rfl⟩) hS (fun q _ h => hFc q h) hFc (fun r1 u9 t H1 locs ht hvm hr9 hB hz1 hk1 hS => ?_)
  obtain ⟨hP1, hK1, hD1⟩ := hB
  rw [ht] at hP1
  obtain ⟨hP, hD⟩ := xjoin (W := [(a0, .inr (0, [v15, v16, .ref b17, .ref a2, .ref b18, .ref a1, v19, v20])), (a1, .inr (2, [v21, v22, v23])), (a2, .inl (cT 3, 8, .inr (.inr (.inr (.inr f24))))), (a3, .inr (2, [.ref a4, .int 1, v26])), (a4, .inl (cT 2, 4096, .inr (.inl f27)))]) hP hD [] [0, 1, 2, 3, 4] 5 rfl rfl (by decide) (by decide) hk1 hFc hP1 hD1
  generalize H1 = H at hP hS ⊢
  rw [hr9]
  refine W.eq (g2 := F0 m 4 ls [.int 1]) rfl ?_
  refine lv_if_eq (tgt := 27) hx hb dB_one_4 (by decide) (fun h => ((by revert h; decide : False)).elim) (fun _ => ?_)
  refine lv_iload_n hx hb dB_one_7 rfl (lv_at hl 2 rfl) ?_
  refine lv_bipush (v := 13) hx hb dB_one_8 (by decide) ?_
  obtain ⟨hPc, hDc, hFc⟩ := xcut (wc := []) hP hD hS hA [] rfl rfl (by decide)
  refine va_calli (va_runS (As := [.int 8, .int 13]) (rest := []) ⟨hx, hb, hml, hown, htx⟩ (cB_isWithin_22 l hl9 D cT aK aV H.size) ⟨callB_of 2 htx (xw_goodC kw_1_218) rfl rfl rfl (htx _ kw_1_1) (htx _ kw_1_216) ⟨by decide, by decide, by decide +kernel⟩ ⟨Nat.le_of_ble_eq_true rfl, Nat.le_of_ble_eq_true rfl⟩, htx _ kw_1_217⟩ ⟨xPre_blind, (fun U hU hW => ⟨rfl, xPre_of hZ hS hFc hPc hDc hK U hU hW⟩)⟩ rfl rfl hl.1 rfl (lv_room (Nat.le_of_ble_eq_true rfl)) dB_one_10 ⟨Nat.le_of_ble_eq_true rfl, Nat.le_of_ble_eq_true rfl⟩) hS (fun q _ h => hFc q h) hFc (fun r2 u9 t H1 locs ht hvm hr9 hB hz1 hk1 hS => ?_)
  obtain ⟨hP1, hK1, hD1⟩ := hB
  rw [ht] at hP1
  obtain ⟨hP, hD⟩ := xjoin (W := [(a0, .inr (0, [v15, v16, .ref b17, .ref a2, .ref b18, .ref a1, v19, v20])), (a1, .inr (2, [v21, v22, v23])), (a2, .inl (cT 3, 8, .inr (.inr (.inr (.inr f24))))), (a3, .inr (2, [.ref a4, .int 1, v26])), (a4, .inl (cT 2, 4096, .inr (.inl f27)))]) hP hD [] [0, 1, 2, 3, 4] 5 rfl rfl (by decide) (by decide) hk1 hFc hP1 hD1
  generalize H1 = H at hP hS ⊢
  rw [hr9]
  refine W.eq (g2 := F0 m 13 ls [.int 1]) rfl ?_
  refine lv_if_eq (tgt := 27) hx hb dB_one_13 (by decide) (fun h => ((by revert h; decide : False)).elim) (fun _ => ?_)
  refine lv_iload_n hx hb dB_one_16 rfl (lv_at hl 3 rfl) ?_
  obtain ⟨hPc, hDc, hFc⟩ := xcut (wc := []) hP hD hS hA [] rfl rfl (by decide)
  refine va_calli (va_runS (As := [.int x10]) (rest := []) ⟨hx, hb, hml, hown, htx⟩ (cB_isRegister_2 l hl9 D cT aK aV H.size x10 h11 h12 h13 h14) ⟨callB_of 1 htx (xw_goodC kw_2_18) rfl rfl rfl (htx _ kw_1_1) (htx _ kw_2_16) ⟨by decide, by decide, by decide +kernel⟩ ⟨Nat.le_of_ble_eq_true rfl, Nat.le_of_ble_eq_true rfl⟩, htx _ kw_2_17⟩ ⟨xPre_blind, (fun U hU hW => ⟨rfl, xPre_of hZ hS hFc hPc hDc hK U hU hW⟩)⟩ rfl rfl hl.1 rfl (lv_room (Nat.le_of_ble_eq_true rfl)) dB_one_17 ⟨Nat.le_of_ble_eq_true rfl, Nat.le_of_ble_eq_true rfl⟩) hS (fun q _ h => hFc q h) hFc (fun r3 u9 t H1 locs ht hvm hr9 hB hz1 hk1 hS => ?_)
  obtain ⟨hP1, hK1, hD1⟩ := hB
  rw [ht] at hP1
  obtain ⟨hP, hD⟩ := xjoin (W := [(a0, .inr (0, [v15, v16, .ref b17, .ref a2, .ref b18, .ref a1, v19, v20])), (a1, .inr (2, [v21, v22, v23])), (a2, .inl (cT 3, 8, .inr (.inr (.inr (.inr f24))))), (a3, .inr (2, [.ref a4, .int 1, v26])), (a4, .inl (cT 2, 4096, .inr (.inl f27)))]) hP hD [] [0, 1, 2, 3, 4] 5 rfl rfl (by decide) (by decide) hk1 hFc hP1 hD1
  generalize H1 = H at hP hS ⊢
  rw [hr9]
  refine W.eq (g2 := F0 m 20 ls [.int 1]) rfl ?_
  refine lv_if_eq (tgt := 27) hx hb dB_one_20 (by decide) (fun h => ((by revert h; decide : False)).elim) (fun _ => ?_)
  refine lv_iconst (v := 1) hx hb dB_one_23 (by decide) ?_
  refine lv_goto (tgt := 28) hx hb dB_one_24 (by decide) ?_
  obtain ⟨hPc, hDc, hFc⟩ := xcut (wc := []) hP hD hS hA [] rfl rfl (by decide)
  refine va_callv (va_runS (As := [.int 1]) (rest := []) ⟨hx, hb, hml, hown, htx⟩ (cB_demand_1 l hl9 D cT aK aV H.size) ⟨callB_of 1 htx (xw_goodC kw_1_221) rfl rfl rfl (htx _ kw_1_1) (htx _ kw_1_219) ⟨by decide, by decide, by decide +kernel⟩ ⟨Nat.le_of_ble_eq_true rfl, Nat.le_of_ble_eq_true rfl⟩, htx _ kw_1_220⟩ ⟨xPre_blind, (fun U hU hW => ⟨rfl, xPre_of hZ hS hFc hPc hDc hK U hU hW⟩)⟩ rfl rfl hl.1 rfl (lv_room (Nat.le_of_ble_eq_true rfl)) dB_one_28 ⟨Nat.le_of_ble_eq_true rfl, Nat.le_of_ble_eq_true rfl⟩) hS (fun q _ h => hFc q h) hFc (fun u9 t H1 locs ht hvm hr9 hB hz1 hk1 hS => ?_)
  obtain ⟨hP1, hK1, hD1⟩ := hB
  rw [ht] at hP1
  obtain ⟨hP, hD⟩ := xjoin (W := [(a0, .inr (0, [v15, v16, .ref b17, .ref a2, .ref b18, .ref a1, v19, v20])), (a1, .inr (2, [v21, v22, v23])), (a2, .inl (cT 3, 8, .inr (.inr (.inr (.inr f24))))), (a3, .inr (2, [.ref a4, .int 1, v26])), (a4, .inl (cT 2, 4096, .inr (.inl f27)))]) hP hD [] [0, 1, 2, 3, 4] 5 rfl rfl (by decide) (by decide) hk1 hFc hP1 hD1
  generalize H1 = H at hP hS ⊢
  refine lv_aload_n hx hb dB_one_31 rfl (lv_at hl 0 rfl) ?_
  refine va_get (D := D) (ci := 0) (v := .ref a1) (C := "ValueBench") (T := TB) (N := 8) hx hb htx inB hown hK hP 0 rfl rfl 5 (by decide) (htx _ kw_1_100) (fun _ h9 => h9) rfl dB_one_32 ?_
  obtain ⟨hPc, hDc, hFc⟩ := xcut (wc := [(a1, .inr (2, [v21, v22, v23]))]) hP hD hS hA [1] rfl rfl (by decide)
  refine va_callv (va_runV (C := "ValueBench$Row") (As := []) (rest := []) ⟨hx, hb, hml, hown, htx⟩ (cR_clear_0 l hl9 D cT aK aV H.size a1 v21 v22 v23) ⟨callB_of 0 htx (xw_goodC kw_2_22) rfl rfl rfl (htx _ kw_1_4) (htx _ kw_2_19) ⟨by decide, by decide, by decide +kernel⟩ ⟨Nat.le_of_ble_eq_true rfl, Nat.le_of_ble_eq_true rfl⟩, (htx _ kw_2_20), (htx _ kw_2_21)⟩ ⟨xPre_blind, va_recv hK hP (ci := 2) rfl (q0 := 1) rfl, (fun U hU hW => ⟨rfl, xPre_of hZ hS hFc hPc hDc hK U hU hW⟩)⟩ rfl rfl hl.1 rfl (lv_room (Nat.le_of_ble_eq_true rfl)) dB_one_35 ⟨Nat.le_of_ble_eq_true rfl, Nat.le_of_ble_eq_true rfl⟩) hS (fun q _ h => hFc q h) hFc (fun u9 t H1 locs ht hvm hr9 hB hz1 hk1 hS => ?_)
  obtain ⟨hP1, hK1, hD1⟩ := hB
  rw [ht] at hP1
  obtain ⟨hP, hD⟩ := xjoin (W := [(a0, .inr (0, [v15, v16, .ref b17, .ref a2, .ref b18, .ref a1, v19, v20])), (a2, .inl (cT 3, 8, .inr (.inr (.inr (.inr f24))))), (a3, .inr (2, [.ref a4, .int 1, v26])), (a4, .inl (cT 2, 4096, .inr (.inl f27))), (a1, .inr (2, [v21, .int 0, .int 0]))]) hP hD [1] [0, 2, 3, 4] 4 rfl rfl (by decide) (by decide) hk1 hFc hP1 hD1
  generalize H1 = H at hP hS ⊢
  refine lv_aload_n hx hb dB_one_38 rfl (lv_at hl 0 rfl) ?_
  refine lv_iload_n hx hb dB_one_39 rfl (lv_at hl 2 rfl) ?_
  refine lv_aload_n hx hb dB_one_40 rfl (lv_at hl 0 rfl) ?_
  refine va_get (D := D) (ci := 0) (v := .ref a2) (C := "ValueBench") (T := TB) (N := 8) hx hb htx inB hown hK hP 0 rfl rfl 3 (by decide) (htx _ kw_1_98) (fun _ h9 => h9) rfl dB_one_41 ?_
  refine lv_iload_n hx hb dB_one_44 rfl (lv_at hl 3 rfl) ?_
  refine va_aldq hx hb hK hP 1 3 rfl rfl h14 dB_one_45 ?_
  refine W.eq (g2 := F0 m 46 ls [va_rf (f24 x10.toNatClampNeg), .int 8, .ref a0]) rfl ?_
  rw [h25]
  refine W.eq (g2 := F0 m 46 ls [.ref a3, .int 8, .ref a0]) rfl ?_
  refine lv_aload_n hx hb dB_one_46 rfl (lv_at hl 0 rfl) ?_
  refine va_get (D := D) (ci := 0) (v := .ref b17) (C := "ValueBench") (T := TB) (N := 8) hx hb htx inB hown hK hP 0 rfl rfl 2 (by decide) (htx _ kw_1_97) (fun _ h9 => h9) rfl dB_one_47 ?_
  refine lv_aload_n hx hb dB_one_50 rfl (lv_at hl 0 rfl) ?_
  refine va_get (D := D) (ci := 0) (v := .ref b18) (C := "ValueBench") (T := TB) (N := 8) hx hb htx inB hown hK hP 0 rfl rfl 4 (by decide) (htx _ kw_1_99) (fun _ h9 => h9) rfl dB_one_51 ?_
  refine lv_aload_n hx hb dB_one_54 rfl (lv_at hl 0 rfl) ?_
  refine va_get (D := D) (ci := 0) (v := .ref a1) (C := "ValueBench") (T := TB) (N := 8) hx hb htx inB hown hK hP 0 rfl rfl 5 (by decide) (htx _ kw_1_100) (fun _ h9 => h9) rfl dB_one_55 ?_
  obtain ⟨hPc, hDc, hFc⟩ := xcut (wc := [(a3, .inr (2, [.ref a4, .int 1, v26])), (a4, .inl (cT 2, 4096, .inr (.inl f27)))]) hP hD hS hA [2, 3] rfl rfl (by decide)
  refine va_calli (va_runS (As := [.int 8, .ref a3, .ref b17, .ref b18, .ref a1]) (rest := [.ref a0]) ⟨hx, hb, hml, hown, htx⟩ (cG_apply_8 l hl9 D cT aK aV H.size a3 a4 b17 b18 a1 v26 f27 (by first | rfl | exact h25 | exact h28)) ⟨callB_of 5 htx (xw_goodC kw_4_28) rfl rfl rfl (htx _ kw_1_26) (htx _ kw_4_26) ⟨by decide, by decide, by decide +kernel⟩ ⟨Nat.le_of_ble_eq_true rfl, Nat.le_of_ble_eq_true rfl⟩, htx _ kw_4_27⟩ ⟨xPre_blind, (fun U hU hW => ⟨rfl, xPre_of hZ hS hFc hPc hDc hK U hU hW⟩)⟩ rfl rfl hl.1 rfl (lv_room (Nat.le_of_ble_eq_true rfl)) dB_one_58 ⟨Nat.le_of_ble_eq_true rfl, Nat.le_of_ble_eq_true rfl⟩) hS (fun q _ h => hFc q h) hFc (fun r4 u9 t H1 locs ht hvm hr9 hB hz1 hk1 hS => ?_)
  obtain ⟨hP1, hK1, hD1⟩ := hB
  rw [ht] at hP1
  obtain ⟨hP, hD⟩ := xjoin (W := [(a0, .inr (0, [v15, v16, .ref b17, .ref a2, .ref b18, .ref a1, v19, v20])), (a2, .inl (cT 3, 8, .inr (.inr (.inr (.inr f24))))), (a1, .inr (2, [v21, .int 0, .int 0])), (a3, .inr (2, [.ref a4, .int 1, v26])), (a4, .inl (cT 2, 4096, .inr (.inl f27)))]) hP hD [2, 3] [0, 1, 4] 3 rfl rfl (by decide) (by decide) hk1 hFc hP1 hD1
  generalize H1 = H at hP hS ⊢
  rw [hr9]
  refine W.eq (g2 := F0 m 61 ls [.int 1, .ref a0]) rfl ?_
  obtain ⟨hPc, hDc, hFc⟩ := xcut (wc := [(a0, .inr (0, [v15, v16, .ref b17, .ref a2, .ref b18, .ref a1, v19, v20]))]) hP hD hS hA [0] rfl rfl (by decide)
  refine xx_thr (vx_runV (C := "ValueBench") (As := [.int 1]) (rest := []) ⟨hx, hb, hml, hown, htx⟩ (cB_demandDone_1 l hl9 D cT aK aV H.size a0 v15 v16 (.ref b17) (.ref a2) (.ref b18) (.ref a1) v19 v20) ⟨callB_of 1 htx (xw_goodC kw_3_222) rfl rfl rfl (htx _ kw_1_1) (htx _ kw_3_219) ⟨by decide, by decide, by decide +kernel⟩ ⟨Nat.le_of_ble_eq_true rfl, Nat.le_of_ble_eq_true rfl⟩, (htx _ kw_3_221), (htx _ kp_B_demandDone)⟩ ⟨xPre_blind, va_recv hK hP (ci := 0) rfl (q0 := 0) rfl, (fun U hU hW => ⟨rfl, xPre_of hZ hS hFc hPc hDc hK U hU hW⟩)⟩ rfl rfl hl.1 rfl (lv_room (Nat.le_of_ble_eq_true rfl)) dB_one_61 ⟨Nat.le_of_ble_eq_true rfl, Nat.le_of_ble_eq_true rfl⟩) hS hFc (fun q _ h => hFc q h) (fun E ce q9 u9 t H1 locs ht hvm _ hB hz1 hk1 hS hce hcv hcl => ?_)
  obtain ⟨rfl, hP1, hK1, hD1⟩ := hB
  rw [ht] at hP1
  obtain ⟨hP, hD⟩ := xjoin (W := [(a2, .inl (cT 3, 8, .inr (.inr (.inr (.inr f24))))), (a1, .inr (2, [v21, .int 0, .int 0])), (a3, .inr (2, [.ref a4, .int 1, v26])), (a4, .inl (cT 2, 4096, .inr (.inl f27))), (a0, .inr (0, [v15, v16, .ref b17, .ref a2, .ref b18, .ref a1, v19, .int 1]))]) hP hD [0] [1, 2, 3, 4] 4 rfl rfl (by decide) (by decide) hk1 hFc hP1 hD1
  generalize H1 = H at hP hS hce ⊢
  obtain ⟨hP9, hD9⟩ := xsub (wc := [(a0, .inr (0, [v15, v16, .ref b17, .ref a2, .ref b18, .ref a1, v19, .int 1])), (a1, .inr (2, [v21, .int 0, .int 0])), (a2, .inl (cT 3, 8, .inr (.inr (.inr (.inr f24))))), (a3, .inr (2, [.ref a4, .int 1, v26])), (a4, .inl (cT 2, 4096, .inr (.inl f27)))]) hP hD [4, 1, 0, 2, 3] rfl rfl (by decide)
  exact vx_out (E := "java/lang/ArithmeticException") (fun x h => (hne x h).elim) hlocks hce hcv hcl (fun t ht ha => ⟨(), trivial, ⟨rfl, by rw [ht]; exact hP9, va_K.moved ha hK, hD9⟩, hS.F ht⟩) hS.2.2 (Nat.le_of_ble_eq_true rfl) (Nat.le_of_ble_eq_true rfl)
set_option maxHeartbeats 400000000 in
set_option maxRecDepth 100000 in
theorem cL_one_14 (l : Launch) (hl9 : l.stackTraces = false) (D : va_G) (cT : Nat → ClassId) (aK aV : Nat → Nat) (sz : Nat) (a0 : Nat) (a1 : Nat) (a2 : Nat) (a3 : Nat) (a4 : Nat) (x5 : Int32) (x10 : Int32) (v15 : Value) (v16 : Value) (b17 : Nat) (b18 : Nat) (v19 : Value) (v20 : Value) (v21 : Value) (v22 : Value) (v23 : Value) (f24 : Nat → Option Nat) (v26 : Value) (f27 : Nat → Int64) (h6 : ¬ x5 < 0) (h7 : ¬ 7 < x5) (h8 : x5 ≤ 7) (h9 : vp_in x5 8) (h11 : ¬ x10 < 0) (h12 : ¬ 7 < x10) (h13 : x10 ≤ 7) (h14 : vp_in x10 8) (h25 : f24 x10.toNatClampNeg = some a3) (h28 : f27 0 = 0) : xMet l yL_one wyL_one 8 1 6 144 D cT aK aV sz [.ref a0, .int x5, .int 8, .int x10] [(a0, .inr (0, [v15, v16, .ref b17, .ref a2, .ref b18, .ref a1, v19, v20])), (a1, .inr (2, [v21, v22, v23])), (a2, .inl (cT 3, 8, .inr (.inr (.inr (.inr f24))))), (a3, .inr (2, [.ref a4, .int 1, v26])), (a4, .inl (cT 2, 4096, .inr (.inl f27)))] (fun A => va_Qi (fun (r : Int32) (_ : Unit) => r = 2) (fun _ t => xB D xcl cT A [(a0, .inr (0, [v15, v16, .ref b17, .ref a2, .ref b18, .ref a1, v19, .int 1])), (a1, .inr (2, [v21, .int 0, .int 0])), (a2, .inl (cT 3, 8, .inr (.inr (.inr (.inr f24))))), (a3, .inr (2, [.ref a4, .int 1, v26])), (a4, .inl (cT 2, 4096, .inr (.inl f27)))] t) A) := by
  refine va_MetW (cc := method_10_code) (maxL := 5) (ret := (some .int)) (hh := [(0, 7, 10, 19), (0, 7, 14, 33), (0, 7, 18, 13)]) (by decide) rfl ?_
  intro p e s m args below meth c s₁ B hml hv
  obtain ⟨rfl, hsz, hZ, hP, hK, hD0⟩ := hv
  have hx := B.exec
  have hb := B.bytes
  have hr := B.returns
  have hts := atoms_spec (ws := wyL_one) B.pre
  have htx := fun w h => hts w (List.mem_cons_of_mem _ h)
  have hown : s.vm.findClass "ValueBenchLaw" = some m.cls := findClass_of_methodNamed B.named
  have hlocks := B.notSynchronized
  subst hsz
  have hD := hD0.self (sz := s.heap.size)
  generalize hAe : va_A [(a0, .inr (0, [v15, v16, .ref b17, .ref a2, .ref b18, .ref a1, v19, v20])), (a1, .inr (2, [v21, v22, v23])), (a2, .inl (cT 3, 8, .inr (.inr (.inr (.inr f24))))), (a3, .inr (2, [.ref a4, .int 1, v26])), (a4, .inl (cT 2, 4096, .inr (.inl f27)))] s.heap.size = A at hD hZ ⊢
  have hA : ∀ q : Nat, s.heap.size ≤ q → A q := fun q h => by rw [← hAe]; exact Or.inr h
  have hS : va_S A s.heap s.heap [] := va_S.rf
  have hP : va_P D xcl [(a0, .inr (0, [v15, v16, .ref b17, .ref a2, .ref b18, .ref a1, v19, v20])), (a1, .inr (2, [v21, v22, v23])), (a2, .inl (cT 3, 8, .inr (.inr (.inr (.inr f24))))), (a3, .inr (2, [.ref a4, .int 1, v26])), (a4, .inl (cT 2, 4096, .inr (.inl f27)))] s.heap := hP
  have hl := lv_entry ([.ref a0, .int x5, .int 8, .int x10]) (n := 5) (Nat.le_of_ble_eq_true rfl)
  rw [lg_entry_eq]
  generalize (lg_sl ([.ref a0, .int x5, .int 8, .int x10]) ++ List.replicate (5 - (lg_sl ([.ref a0, .int x5, .int 8, .int x10])).length) Slot.unset).toArray = ls at hl ⊢
  have hl : lv_has ls 5 [(0, .ref a0), (1, .int x5), (2, .int 8), (3, .int x10)] := hl
  have htab := vx_table (x := yL_one) B (hts _ List.mem_cons_self)
  refine lv_aload_n hx hb dL_one_0 rfl (lv_at hl 0 rfl) ?_
  refine lv_iload_n hx hb dL_one_1 rfl (lv_at hl 1 rfl) ?_
  refine lv_iload_n hx hb dL_one_2 rfl (lv_at hl 2 rfl) ?_
  refine lv_iload_n hx hb dL_one_3 rfl (lv_at hl 3 rfl) ?_
  obtain ⟨hPc, hDc, hFc⟩ := xcut (wc := [(a0, .inr (0, [v15, v16, .ref b17, .ref a2, .ref b18, .ref a1, v19, v20])), (a1, .inr (2, [v21, v22, v23])), (a2, .inl (cT 3, 8, .inr (.inr (.inr (.inr f24))))), (a3, .inr (2, [.ref a4, .int 1, v26])), (a4, .inl (cT 2, 4096, .inr (.inl f27)))]) hP hD hS hA [0, 1, 2, 3, 4] rfl rfl (by decide)
  refine xx_thr (vx_runV (C := "ValueBench") (As := [.int x5, .int 8, .int x10]) (rest := []) ⟨hx, hb, hml, hown, htx⟩ (cB_one_14 l hl9 D cT aK aV s.heap.size a0 a1 a2 a3 a4 x5 x10 v15 v16 b17 b18 v19 v20 v21 v22 v23 f24 v26 f27 h6 h7 h8 h9 h11 h12 h13 h14 (by first | rfl | exact h25 | exact h28) (by first | rfl | exact h25 | exact h28)) ⟨callB_of 3 htx (xw_goodC kw_4_25) rfl rfl rfl (htx _ kw_1_1) (htx _ kw_4_22) ⟨by decide, by decide, by decide +kernel⟩ ⟨Nat.le_of_ble_eq_true rfl, Nat.le_of_ble_eq_true rfl⟩, (htx _ kw_4_23), (htx _ kw_4_24)⟩ ⟨xPre_blind, va_recv hK hP (ci := 0) rfl (q0 := 0) rfl, (fun U hU hW => ⟨rfl, xPre_of hZ hS hFc hPc hDc hK U hU hW⟩)⟩ rfl rfl hl.1 rfl (lv_room (Nat.le_of_ble_eq_true rfl)) dL_one_4 ⟨Nat.le_of_ble_eq_true rfl, Nat.le_of_ble_eq_true rfl⟩) hS hFc (fun q _ h => hFc q h) (fun E ce q9 u9 t H1 locs ht hvm _ hB hz1 hk1 hS hce hcv hcl => ?_)
  obtain ⟨rfl, hP1, hK1, hD1⟩ := hB
  rw [ht] at hP1
  obtain ⟨hP, hD⟩ := xjoin (W := [(a0, .inr (0, [v15, v16, .ref b17, .ref a2, .ref b18, .ref a1, v19, .int 1])), (a1, .inr (2, [v21, .int 0, .int 0])), (a2, .inl (cT 3, 8, .inr (.inr (.inr (.inr f24))))), (a3, .inr (2, [.ref a4, .int 1, v26])), (a4, .inl (cT 2, 4096, .inr (.inl f27)))]) hP hD [0, 1, 2, 3, 4] [] 0 rfl rfl (by decide) (by decide) hk1 hFc hP1 hD1
  generalize H1 = H at hP hS hce ⊢
  refine vx_catch (own := "ValueBenchLaw") (name := "java/lang/ArithmeticException") (E := "java/lang/ArithmeticException") hown [⟨0, 7, 10, 19⟩] ⟨0, 7, 14, 33⟩ [⟨0, 7, 18, 13⟩] (by rw [htab]; rfl) (by intro z hz; rcases List.mem_cons.mp hz with rfl | hz; (exact Or.inr ⟨by decide, "java/lang/IllegalArgumentException", htx _ kw_1_211, hZ.2.2.2.2.2.2.2.1 ("java/lang/ArithmeticException", "java/lang/IllegalArgumentException") (List.mem_of_getElem? (i := 10) rfl)⟩); cases hz) (by decide) (by decide) (htx _ kw_3_98) ((hZ.2.2.2.2.2.1 "java/lang/ArithmeticException" (List.mem_of_getElem? (i := 3) rfl)).use rfl) hce hcv hcl ?_
  refine lv_astore (lv' := [(4, .ref q9), (0, .ref a0), (1, .int x5), (2, .int 8), (3, .int x10)]) hx hb dL_one_14 hl (by decide) rfl (fun ls hl => ?_)
  refine lv_iconst (v := 2) hx hb dL_one_16 (by decide) ?_
  obtain ⟨hP9, hD9⟩ := xsub (wc := [(a0, .inr (0, [v15, v16, .ref b17, .ref a2, .ref b18, .ref a1, v19, .int 1])), (a1, .inr (2, [v21, .int 0, .int 0])), (a2, .inl (cT 3, 8, .inr (.inr (.inr (.inr f24))))), (a3, .inr (2, [.ref a4, .int 1, v26])), (a4, .inl (cT 2, 4096, .inr (.inl f27)))]) hP hD [0, 1, 2, 3, 4] rfl rfl (by decide)
  refine W.widen (k := 1) (n := 6) (Nat.le_of_ble_eq_true rfl) (Nat.le_of_ble_eq_true rfl) ?_
  exact W.iret (v := 2) hx hb hr (fun t ht hW => ⟨⟨2, (), rfl, rfl, by rw [ht]; exact hP9, va_K.moved hW.alike hK, hD9⟩, hS.F ht⟩) hS.2.2 dL_one_17
set_option maxHeartbeats 400000000 in
set_option maxRecDepth 100000 in
theorem cM_one1_8 (l : Launch) (hl9 : l.stackTraces = false) (D : va_G) (cT : Nat → ClassId) (aK aV : Nat → Nat) (sz : Nat) (a0 : Nat) (a1 : Nat) (v2 : Value) (v3 : Value) (v4 : Value) (v5 : Value) (v6 : Value) (v7 : Value) (v8 : Value) (v9 : Value) (v10 : Value) (v11 : Value) (v12 : Value) (v13 : Value) (v14 : Value) (v15 : Value) (v16 : Value) (v17 : Value) (v18 : Value) (v19 : Value) (v20 : Value) (v21 : Value) (v22 : Value) (v23 : Value) (v24 : Value) (v25 : Value) (v26 : Value) (v27 : Value) (v28 : Value) (v29 : Value) (v30 : Value) (v31 : Value) (v32 : Value) (v33 : Value) (v34 : Value) (v35 : Value) (v36 : Value) (v37 : Value) (v38 : Value) : xMetX l yM_one1 wyM_one1 8 1 6 142 D cT aK aV sz [.ref a0, .int 8, .ref a1] [(a0, .inr (5, [v2, v3, v4, v5, v6, v7, v8, v9, v10, v11, v12, v13, v14, v15, v16, v17, v18, v19, v20, v21, v22, v23, v24, v25, v26, v27, v28, v29, v30, v31, v32, v33])), (a1, .inr (6, [.int 0, v34, v35, v36, v37, v38]))] "java/lang/ArithmeticException" (fun A t => xB D xcl cT A [(a0, .inr (5, [v2, v3, v4, v5, v6, v7, v8, v9, .int 1, v11, v12, v13, v14, v15, v16, v17, v18, v19, v20, v21, v22, v23, v24, v25, v26, v27, v28, v29, v30, v31, v32, v33])), (a1, .inr (6, [.int 0, v34, v35, v36, v37, v38]))] t) := by
  refine vx_ofW (cc := prog_13_method_66_code) (maxL := 3) (ret := (some (.object "ValueBenchModel$V"))) (by decide) rfl ?_
  intro p e s m args below meth c s₁ B hml hne hv
  obtain ⟨rfl, hsz, hZ, hP, hK, hD0⟩ := hv
  have hx := B.exec
  have hb := B.bytes
  have hr := B.returns
  have hts := atoms_spec (ws := wyM_one1) B.pre
  have htx := fun w h => hts w (List.mem_cons_of_mem _ h)
  have hown : s.vm.findClass "ValueBenchModel" = some m.cls := findClass_of_methodNamed B.named
  have hlocks := B.notSynchronized
  subst hsz
  have hD := hD0.self (sz := s.heap.size)
  generalize hAe : va_A [(a0, .inr (5, [v2, v3, v4, v5, v6, v7, v8, v9, v10, v11, v12, v13, v14, v15, v16, v17, v18, v19, v20, v21, v22, v23, v24, v25, v26, v27, v28, v29, v30, v31, v32, v33])), (a1, .inr (6, [.int 0, v34, v35, v36, v37, v38]))] s.heap.size = A at hD hZ ⊢
  have hA : ∀ q : Nat, s.heap.size ≤ q → A q := fun q h => by rw [← hAe]; exact Or.inr h
  have hS : va_S A s.heap s.heap [] := va_S.rf
  have hP : va_P D xcl [(a0, .inr (5, [v2, v3, v4, v5, v6, v7, v8, v9, v10, v11, v12, v13, v14, v15, v16, v17, v18, v19, v20, v21, v22, v23, v24, v25, v26, v27, v28, v29, v30, v31, v32, v33])), (a1, .inr (6, [.int 0, v34, v35, v36, v37, v38]))] s.heap := hP
  have hl := lv_entry ([.ref a0, .int 8, .ref a1]) (n := 3) (Nat.le_of_ble_eq_true rfl)
  rw [lg_entry_eq]
  generalize (lg_sl ([.ref a0, .int 8, .ref a1]) ++ List.replicate (3 - (lg_sl ([.ref a0, .int 8, .ref a1])).length) Slot.unset).toArray = ls at hl ⊢
  have hl : lv_has ls 3 [(0, .ref a0), (1, .int 8), (2, .ref a1)] := hl
  refine lv_iload_n hx hb dM_one1_0 rfl (lv_at hl 1 rfl) ?_
  refine lv_tableIn (off := 141) (tgt := 142) hx hb dM_one1_1 (by decide) (by decide) (by decide) (by decide) ?_
  refine lv_aload_n hx hb dM_one1_142 rfl (lv_at hl 0 rfl) ?_
  refine lv_aload_n hx hb dM_one1_143 rfl (lv_at hl 0 rfl) ?_
  refine lv_aload_n hx hb dM_one1_144 rfl (lv_at hl 2 rfl) ?_
  obtain ⟨hPc, hDc, hFc⟩ := xcut (wc := [(a1, .inr (6, [.int 0, v34, v35, v36, v37, v38])), (a0, .inr (5, [v2, v3, v4, v5, v6, v7, v8, v9, v10, v11, v12, v13, v14, v15, v16, v17, v18, v19, v20, v21, v22, v23, v24, v25, v26, v27, v28, v29, v30, v31, v32, v33]))]) hP hD hS hA [1, 0] rfl rfl (by decide)
  refine xx_thr (vx_runV (C := "ValueBenchModel") (As := [.ref a1]) (rest := [.ref a0]) ⟨hx, hb, hml, hown, htx⟩ (cM_array_0 l hl9 D cT aK aV s.heap.size a1 a0 v34 v35 v36 v37 v38 v2 v3 v4 v5 v6 v7 v8 v9 v10 v11 v12 v13 v14 v15 v16 v17 v18 v19 v20 v21 v22 v23 v24 v25 v26 v27 v28 v29 v30 v31 v32 v33) ⟨callB_of 1 htx (xw_goodC kw_7_42) rfl rfl rfl (htx _ kw_1_5) (htx _ kw_7_39) ⟨by decide, by decide, by decide +kernel⟩ ⟨Nat.le_of_ble_eq_true rfl, Nat.le_of_ble_eq_true rfl⟩, (htx _ kw_7_41), (htx _ kp_M_array)⟩ ⟨xPre_blind, va_recv hK hP (ci := 5) rfl (q0 := 0) rfl, (fun U hU hW => ⟨rfl, xPre_of hZ hS hFc hPc hDc hK U hU hW⟩)⟩ rfl rfl hl.1 rfl (lv_room (Nat.le_of_ble_eq_true rfl)) dM_one1_145 ⟨Nat.le_of_ble_eq_true rfl, Nat.le_of_ble_eq_true rfl⟩) hS hFc (fun q _ h => hFc q h) (fun E ce q9 u9 t H1 locs ht hvm _ hB hz1 hk1 hS hce hcv hcl => ?_)
  obtain ⟨rfl, hP1, hK1, hD1⟩ := hB
  rw [ht] at hP1
  obtain ⟨hP, hD⟩ := xjoin (W := [(a1, .inr (6, [.int 0, v34, v35, v36, v37, v38])), (a0, .inr (5, [v2, v3, v4, v5, v6, v7, v8, v9, .int 1, v11, v12, v13, v14, v15, v16, v17, v18, v19, v20, v21, v22, v23, v24, v25, v26, v27, v28, v29, v30, v31, v32, v33]))]) hP hD [1, 0] [] 0 rfl rfl (by decide) (by decide) hk1 hFc hP1 hD1
  generalize H1 = H at hP hS hce ⊢
  obtain ⟨hP9, hD9⟩ := xsub (wc := [(a0, .inr (5, [v2, v3, v4, v5, v6, v7, v8, v9, .int 1, v11, v12, v13, v14, v15, v16, v17, v18, v19, v20, v21, v22, v23, v24, v25, v26, v27, v28, v29, v30, v31, v32, v33])), (a1, .inr (6, [.int 0, v34, v35, v36, v37, v38]))]) hP hD [1, 0] rfl rfl (by decide)
  exact vx_out (E := "java/lang/ArithmeticException") (fun x h => (hne x h).elim) hlocks hce hcv hcl (fun t ht ha => ⟨(), trivial, ⟨rfl, by rw [ht]; exact hP9, va_K.moved ha hK, hD9⟩, hS.F ht⟩) hS.2.2 (Nat.le_of_ble_eq_true rfl) (Nat.le_of_ble_eq_true rfl)
set_option maxHeartbeats 400000000 in
set_option maxRecDepth 100000 in
theorem cM_finish_25 (l : Launch) (hl9 : l.stackTraces = false) (D : va_G) (cT : Nat → ClassId) (aK aV : Nat → Nat) (sz : Nat) (a0 : Nat) (a1 : Nat) (a2 : Nat) (a3 : Nat) (a4 : Nat) (x5 : Int32) (x6 : Int32) (x11 : Int32) (v12 : Value) (v13 : Value) (v14 : Value) (v15 : Value) (v16 : Value) (v17 : Value) (v18 : Value) (v19 : Value) (v20 : Value) (v21 : Value) (v22 : Value) (v23 : Value) (v24 : Value) (v25 : Value) (v26 : Value) (v27 : Value) (v28 : Value) (v29 : Value) (v30 : Value) (v31 : Value) (v32 : Value) (v33 : Value) (v34 : Value) (v35 : Value) (v36 : Value) (v37 : Value) (v38 : Value) (v39 : Value) (f40 : Nat → Option Nat) (f42 : Nat → Int32) (f44 : Nat → Int32) (f49 : Nat → Option Nat) (h7 : ¬ x6 < 0) (h8 : ¬ 7 < x6) (h9 : x6 ≤ 7) (h10 : vp_in x6 8) (h41 : f40 x6.toNatClampNeg = some a3) (h43 : f42 x6.toNatClampNeg = 4) (h45 : f44 0 = 110) (h46 : f44 1 = 117) (h47 : f44 2 = 108) (h48 : f44 3 = 108) (h50 : f49 0 = none) : xMet l yM_finish wyM_finish 9 2 12 175 D cT aK aV sz [.ref a0, .int x5, .int 1, .int 8, .int x6, .int x11] [(a0, .inr (5, [v12, .ref a4, .int 0, v13, v14, v15, v16, v17, v18, v19, v20, v21, v22, v23, v24, v25, v26, v27, v28, v29, v30, v31, v32, v33, .ref a1, .ref a2, v34, v35, v36, v37, v38, v39])), (a1, .inl (cT 5, 8, .inr (.inr (.inr (.inr f40))))), (a2, .inl (cT 1, 8, .inl f42)), (a3, .inl (cT 0, 4096, .inl f44)), (a4, .inl (cT 4, 1024, .inr (.inr (.inr (.inr f49)))))] (fun A => va_Qv (fun _ : Unit => True) (fun _ t => ∃ (r1 : Nat), xB D xcl cT A [(a0, .inr (5, [.int 2, .ref a4, .int 1, v13, v14, v15, v16, v17, .int 1, v19, v20, v21, v22, v23, v24, .ref a3, .int 4, .int 4, .int 0, .int 100, v30, v31, v32, v33, .ref a1, .ref a2, v34, v35, v36, v37, .int 1, v39])), (a1, .inl (cT 5, 8, .inr (.inr (.inr (.inr f40))))), (a2, .inl (cT 1, 8, .inl f42)), (a3, .inl (cT 0, 4096, .inl f44)), (a4, .inl (cT 4, 1024, .inr (.inr (.inr (.inr (va_up f49 0 (some r1))))))), (r1, .inr (6, [.int 0, .long 0, .int 0, .int 0, .int 0, .int 1]))] t) A) := by
  refine va_MetW (cc := prog_13_method_90_code) (maxL := 10) (ret := none) (hh := [(0, 128, 131, 83), (0, 128, 149, 86)]) (by decide) rfl ?_
  intro p e s m args below meth c s₁ B hml hv
  obtain ⟨rfl, hsz, hZ, hP, hK, hD0⟩ := hv
  have hx := B.exec
  have hb := B.bytes
  have hr := B.returns
  have hts := atoms_spec (ws := wyM_finish) B.pre
  have htx := fun w h => hts w (List.mem_cons_of_mem _ h)
  have hown : s.vm.findClass "ValueBenchModel" = some m.cls := findClass_of_methodNamed B.named
  have hlocks := B.notSynchronized
  subst hsz
  have hD := hD0.self (sz := s.heap.size)
  generalize hAe : va_A [(a0, .inr (5, [v12, .ref a4, .int 0, v13, v14, v15, v16, v17, v18, v19, v20, v21, v22, v23, v24, v25, v26, v27, v28, v29, v30, v31, v32, v33, .ref a1, .ref a2, v34, v35, v36, v37, v38, v39])), (a1, .inl (cT 5, 8, .inr (.inr (.inr (.inr f40))))), (a2, .inl (cT 1, 8, .inl f42)), (a3, .inl (cT 0, 4096, .inl f44)), (a4, .inl (cT 4, 1024, .inr (.inr (.inr (.inr f49)))))] s.heap.size = A at hD hZ ⊢
  have hA : ∀ q : Nat, s.heap.size ≤ q → A q := fun q h => by rw [← hAe]; exact Or.inr h
  have hS : va_S A s.heap s.heap [] := va_S.rf
  have hP : va_P D xcl [(a0, .inr (5, [v12, .ref a4, .int 0, v13, v14, v15, v16, v17, v18, v19, v20, v21, v22, v23, v24, v25, v26, v27, v28, v29, v30, v31, v32, v33, .ref a1, .ref a2, v34, v35, v36, v37, v38, v39])), (a1, .inl (cT 5, 8, .inr (.inr (.inr (.inr f40))))), (a2, .inl (cT 1, 8, .inl f42)), (a3, .inl (cT 0, 4096, .inl f44)), (a4, .inl (cT 4, 1024, .inr (.inr (.inr (.inr f49)))))] s.heap := hP
  have hl := lv_entry ([.ref a0, .int x5, .int 1, .int 8, .int x6, .int x11]) (n := 10) (Nat.le_of_ble_eq_true rfl)
  rw [lg_entry_eq]
  generalize (lg_sl ([.ref a0, .int x5, .int 1, .int 8, .int x6, .int x11]) ++ List.replicate (10 - (lg_sl ([.ref a0, .int x5, .int 1, .int 8, .int x6, .int x11])).length) Slot.unset).toArray = ls at hl ⊢
  have hl : lv_has ls 10 [(0, .ref a0), (1, .int x5), (2, .int 1), (3, .int 8), (4, .int x6), (5, .int x11)] := hl
  have htab := vx_table (x := yM_finish) B (hts _ List.mem_cons_self)
  refine lv_aload_n hx hb dM_finish_0 rfl (lv_at hl 0 rfl) ?_
  refine lv_iload hx hb dM_finish_1 (lv_at hl 4 rfl) ?_
  obtain ⟨hPc, hDc, hFc⟩ := xcut (wc := [(a0, .inr (5, [v12, .ref a4, .int 0, v13, v14, v15, v16, v17, v18, v19, v20, v21, v22, v23, v24, v25, v26, v27, v28, v29, v30, v31, v32, v33, .ref a1, .ref a2, v34, v35, v36, v37, v38, v39])), (a1, .inl (cT 5, 8, .inr (.inr (.inr (.inr f40))))), (a2, .inl (cT 1, 8, .inl f42)), (a3, .inl (cT 0, 4096, .inl f44)), (a4, .inl (cT 4, 1024, .inr (.inr (.inr (.inr f49)))))]) hP hD hS hA [0, 1, 2, 3, 4] rfl rfl (by decide)
  refine va_callr (va_runV (C := "ValueBenchModel") (As := [.int x6]) (rest := []) ⟨hx, hb, hml, hown, htx⟩ (cM_register_3 l hl9 D cT aK aV s.heap.size a0 a1 a2 a3 a4 x6 v12 v13 v14 v15 v16 v17 v18 v19 v20 v21 v22 v23 v24 v25 v26 v27 v28 v29 v30 v31 v32 v33 v34 v35 v36 v37 v38 v39 f40 f42 f44 f49 h7 h8 h9 h10 (by first | rfl | exact h41 | exact h43 | exact h45 | exact h46 | exact h47 | exact h48 | exact h50) (by first | rfl | exact h41 | exact h43 | exact h45 | exact h46 | exact h47 | exact h48 | exact h50) (by first | rfl | exact h41 | exact h43 | exact h45 | exact h46 | exact h47 | exact h48 | exact h50) (by first | rfl | exact h41 | exact h43 | exact h45 | exact h46 | exact h47 | exact h48 | exact h50) (by first | rfl | exact h41 | exact h43 | exact h45 | exact h46 | exact h47 | exact h48 | exact h50) (by first | rfl | exact h41 | exact h43 | exact h45 | exact h46 | exact h47 | exact h48 | exact h50) (by first | rfl | exact h41 | exact h43 | exact h45 | exact h46 | exact h47 | exact h48 | exact h50)) ⟨callB_of 1 htx (xw_goodC kw_6_170) rfl rfl rfl (htx _ kw_1_5) (htx _ kw_6_167) ⟨by decide, by decide, by decide +kernel⟩ ⟨Nat.le_of_ble_eq_true rfl, Nat.le_of_ble_eq_true rfl⟩, (htx _ kw_6_169), (htx _ kp_M_register)⟩ ⟨xPre_blind, va_recv hK hP (ci := 5) rfl (q0 := 0) rfl, (fun U hU hW => ⟨rfl, xPre_of hZ hS hFc hPc hDc hK U hU hW⟩)⟩ rfl rfl hl.1 rfl (lv_room (Nat.le_of_ble_eq_true rfl)) dM_finish_3 ⟨Nat.le_of_ble_eq_true rfl, Nat.le_of_ble_eq_true rfl⟩) hS (fun q _ h => hFc q h) hFc (fun u9 r1 t H1 locs ht hvm hr9 hB hz1 hk1 hS => ?_)
  obtain ⟨hP1, hK1, hD1⟩ := hB
  rw [ht] at hP1
  obtain ⟨hP, hD⟩ := xjoin (W := [(a0, .inr (5, [v12, .ref a4, .int 1, v13, v14, v15, v16, v17, v18, v19, v20, v21, v22, v23, v24, .ref a3, .int 4, .int 4, .int 0, .int 100, v30, v31, v32, v33, .ref a1, .ref a2, v34, v35, v36, v37, v38, v39])), (a1, .inl (cT 5, 8, .inr (.inr (.inr (.inr f40))))), (a2, .inl (cT 1, 8, .inl f42)), (a3, .inl (cT 0, 4096, .inl f44)), (a4, .inl (cT 4, 1024, .inr (.inr (.inr (.inr (va_up f49 0 (some r1))))))), (r1, .inr (6, [.int 0, .long 0, .int 0, .int 0, .int 0, .int 1]))]) hP hD [0, 1, 2, 3, 4] [] 0 rfl rfl (by decide) (by decide) hk1 hFc hP1 hD1
  generalize H1 = H at hP hS ⊢
  refine W.eq (g2 := F0 m 6 ls [.ref r1]) rfl ?_
  refine lv_astore (lv' := [(6, .ref r1), (0, .ref a0), (1, .int x5), (2, .int 1), (3, .int 8), (4, .int x6), (5, .int x11)]) hx hb dM_finish_6 hl (by decide) rfl (fun ls hl => ?_)
  refine lv_iload_n hx hb dM_finish_8 rfl (lv_at hl 3 rfl) ?_
  refine lv_iconst (v := 1) hx hb dM_finish_9 (by decide) ?_
  refine lv_icmp_ne (tgt := 17) hx hb dM_finish_10 (by decide) (fun h => ((by revert h; decide : False)).elim) (fun _ => ?_)
  refine lv_null hx hb dM_finish_13 ?_
  refine lv_goto (tgt := 23) hx hb dM_finish_14 (by decide) ?_
  refine lv_astoreN (lv' := [(7, .null), (6, .ref r1), (0, .ref a0), (1, .int x5), (2, .int 1), (3, .int 8), (4, .int x6), (5, .int x11)]) hx hb dM_finish_23 hl (by decide) rfl (fun ls hl => ?_)
  refine lv_iload_n hx hb dM_finish_25 rfl (lv_at hl 4 rfl) ?_
  refine lv_if_ne (tgt := 43) hx hb dM_finish_26 (by decide) (fun _ => ?_) (fun h => ((by revert h; decide : False)).elim)
  refine lv_iload_n hx hb dM_finish_43 rfl (lv_at hl 4 rfl) ?_
  refine lv_iconst (v := 1) hx hb dM_finish_44 (by decide) ?_
  refine lv_icmp_ne (tgt := 60) hx hb dM_finish_45 (by decide) (fun h => ((by revert h; decide : False)).elim) (fun _ => ?_)
  refine lv_aload_n hx hb dM_finish_48 rfl (lv_at hl 2 rfl) ?_
  refine lv_iload_n hx hb dM_finish_49 rfl (lv_at hl 5 rfl) ?_
  refine lv_aload hx hb dM_finish_50 (lv_at hl 1 rfl) ?_
  obtain ⟨hPc, hDc, hFc⟩ := xcut (wc := [(a0, .inr (5, [v12, .ref a4, .int 1, v13, v14, v15, v16, v17, v18, v19, v20, v21, v22, v23, v24, .ref a3, .int 4, .int 4, .int 0, .int 100, v30, v31, v32, v33, .ref a1, .ref a2, v34, v35, v36, v37, v38, v39])), (r1, .inr (6, [.int 0, .long 0, .int 0, .int 0, .int 0, .int 1]))]) hP hD hS hA [0, 5] rfl rfl (by decide)
  refine xx_thr (vx_runV (C := "ValueBenchModel") (As := [.int 8, .ref r1]) (rest := []) ⟨hx, hb, hml, hown, htx⟩ (cM_one1_8 l hl9 D cT aK aV H.size a0 r1 v12 (.ref a4) (.int 1) v13 v14 v15 v16 v17 v18 v19 v20 v21 v22 v23 v24 (.ref a3) (.int 4) (.int 4) (.int 0) (.int 100) v30 v31 v32 v33 (.ref a1) (.ref a2) v34 v35 v36 v37 v38 v39 (.long 0) (.int 0) (.int 0) (.int 0) (.int 1)) ⟨callB_of 2 htx (xw_goodC kw_6_237) rfl rfl rfl (htx _ kw_1_5) (htx _ kw_6_234) ⟨by decide, by decide, by decide +kernel⟩ ⟨Nat.le_of_ble_eq_true rfl, Nat.le_of_ble_eq_true rfl⟩, (htx _ kw_6_236), (htx _ kp_M_one1)⟩ ⟨xPre_blind, va_recv hK hP (ci := 5) rfl (q0 := 0) rfl, (fun U hU hW => ⟨rfl, xPre_of hZ hS hFc hPc hDc hK U hU hW⟩)⟩ rfl rfl hl.1 rfl (lv_room (Nat.le_of_ble_eq_true rfl)) dM_finish_52 ⟨Nat.le_of_ble_eq_true rfl, Nat.le_of_ble_eq_true rfl⟩) hS hFc (fun q _ h => hFc q h) (fun E ce q9 u9 t H1 locs ht hvm _ hB hz1 hk1 hS hce hcv hcl => ?_)
  obtain ⟨rfl, hP1, hK1, hD1⟩ := hB
  rw [ht] at hP1
  obtain ⟨hP, hD⟩ := xjoin (W := [(a1, .inl (cT 5, 8, .inr (.inr (.inr (.inr f40))))), (a2, .inl (cT 1, 8, .inl f42)), (a3, .inl (cT 0, 4096, .inl f44)), (a4, .inl (cT 4, 1024, .inr (.inr (.inr (.inr (va_up f49 0 (some r1))))))), (a0, .inr (5, [v12, .ref a4, .int 1, v13, v14, v15, v16, v17, .int 1, v19, v20, v21, v22, v23, v24, .ref a3, .int 4, .int 4, .int 0, .int 100, v30, v31, v32, v33, .ref a1, .ref a2, v34, v35, v36, v37, v38, v39])), (r1, .inr (6, [.int 0, .long 0, .int 0, .int 0, .int 0, .int 1]))]) hP hD [0, 5] [1, 2, 3, 4] 4 rfl rfl (by decide) (by decide) hk1 hFc hP1 hD1
  generalize H1 = H at hP hS hce ⊢
  refine vx_catch (own := "ValueBenchModel") (name := "java/lang/ArithmeticException") (E := "java/lang/ArithmeticException") hown [] ⟨0, 128, 131, 83⟩ [⟨0, 128, 149, 86⟩] (by rw [htab]; rfl) (fun z hz => nomatch hz) (by decide) (by decide) (htx _ kw_6_94) ((hZ.2.2.2.2.2.1 "java/lang/ArithmeticException" (List.mem_of_getElem? (i := 3) rfl)).use rfl) hce hcv hcl ?_
  refine lv_astore (lv' := [(6, .ref q9), (7, .null), (0, .ref a0), (1, .int x5), (2, .int 1), (3, .int 8), (4, .int x6), (5, .int x11)]) hx hb dM_finish_131 hl (by decide) rfl (fun ls hl => ?_)
  refine lv_aload_n hx hb dM_finish_133 rfl (lv_at hl 2 rfl) ?_
  refine lv_aload_n hx hb dM_finish_134 rfl (lv_at hl 2 rfl) ?_
  refine va_get (D := D) (ci := 5) (v := .int 1) (C := "ValueBenchModel") (T := TM) (N := 32) hx hb htx inM hown hK hP 4 rfl rfl 8 (by decide) (htx _ kw_5_95) (fun _ h9 => h9) rfl dM_finish_135 ?_
  refine va_put (D := D) (ci := 5) (v := .int 1) (ty := .int) (C := "ValueBenchModel") (T := TM) (N := 32) hx hb htx inM tyM tyM_ok nmM hown hK hP hD hS 4 rfl rfl 30 (by decide) (htx _ kw_5_117) (fun _ h9 => h9) rfl (by decide +kernel) rfl rfl (Nat.le_of_ble_eq_true rfl) dM_finish_138 (fun H locs hP hD hS => ?_)
  obtain ⟨hP, hD⟩ : xPD D xcl A [(a1, .inl (cT 5, 8, .inr (.inr (.inr (.inr f40))))), (a2, .inl (cT 1, 8, .inl f42)), (a3, .inl (cT 0, 4096, .inl f44)), (a4, .inl (cT 4, 1024, .inr (.inr (.inr (.inr (va_up f49 0 (some r1))))))), (a0, .inr (5, [v12, .ref a4, .int 1, v13, v14, v15, v16, v17, .int 1, v19, v20, v21, v22, v23, v24, .ref a3, .int 4, .int 4, .int 0, .int 100, v30, v31, v32, v33, .ref a1, .ref a2, v34, v35, v36, v37, .int 1, v39])), (r1, .inr (6, [.int 0, .long 0, .int 0, .int 0, .int 0, .int 1]))] H := ⟨hP, hD⟩
  refine lv_aload_n hx hb dM_finish_141 rfl (lv_at hl 2 rfl) ?_
  refine lv_iconst (v := 2) hx hb dM_finish_142 (by decide) ?_
  refine va_put (D := D) (ci := 5) (v := .int 2) (ty := .int) (C := "ValueBenchModel") (T := TM) (N := 32) hx hb htx inM tyM tyM_ok nmM hown hK hP hD hS 4 rfl rfl 0 (by decide) (htx _ kw_5_87) (fun _ h9 => h9) rfl (by decide +kernel) rfl rfl (Nat.le_of_ble_eq_true rfl) dM_finish_143 (fun H locs hP hD hS => ?_)
  obtain ⟨hP, hD⟩ : xPD D xcl A [(a1, .inl (cT 5, 8, .inr (.inr (.inr (.inr f40))))), (a2, .inl (cT 1, 8, .inl f42)), (a3, .inl (cT 0, 4096, .inl f44)), (a4, .inl (cT 4, 1024, .inr (.inr (.inr (.inr (va_up f49 0 (some r1))))))), (a0, .inr (5, [.int 2, .ref a4, .int 1, v13, v14, v15, v16, v17, .int 1, v19, v20, v21, v22, v23, v24, .ref a3, .int 4, .int 4, .int 0, .int 100, v30, v31, v32, v33, .ref a1, .ref a2, v34, v35, v36, v37, .int 1, v39])), (r1, .inr (6, [.int 0, .long 0, .int 0, .int 0, .int 0, .int 1]))] H := ⟨hP, hD⟩
  refine lv_goto (tgt := 156) hx hb dM_finish_146 (by decide) ?_
  obtain ⟨hP9, hD9⟩ := xsub (wc := [(a0, .inr (5, [.int 2, .ref a4, .int 1, v13, v14, v15, v16, v17, .int 1, v19, v20, v21, v22, v23, v24, .ref a3, .int 4, .int 4, .int 0, .int 100, v30, v31, v32, v33, .ref a1, .ref a2, v34, v35, v36, v37, .int 1, v39])), (a1, .inl (cT 5, 8, .inr (.inr (.inr (.inr f40))))), (a2, .inl (cT 1, 8, .inl f42)), (a3, .inl (cT 0, 4096, .inl f44)), (a4, .inl (cT 4, 1024, .inr (.inr (.inr (.inr (va_up f49 0 (some r1))))))), (r1, .inr (6, [.int 0, .long 0, .int 0, .int 0, .int 0, .int 1]))]) hP hD [4, 0, 1, 2, 3, 5] rfl rfl (by decide)
  refine W.widen (k := 2) (n := 12) (Nat.le_of_ble_eq_true rfl) (Nat.le_of_ble_eq_true rfl) ?_
  exact W.vret hx hb hr (fun t ht hW => ⟨⟨(), rfl, trivial, r1, by rw [ht]; exact hP9, va_K.moved hW.alike hK, hD9⟩, hS.F ht⟩) hS.2.2 dM_finish_156
set_option maxHeartbeats 400000000 in
set_option maxRecDepth 100000 in
theorem cM_one0_18 (l : Launch) (hl9 : l.stackTraces = false) (D : va_G) (cT : Nat → ClassId) (aK aV : Nat → Nat) (sz : Nat) (a0 : Nat) (a1 : Nat) (a2 : Nat) (a3 : Nat) (a4 : Nat) (x5 : Int32) (x10 : Int32) (v15 : Value) (v16 : Value) (v17 : Value) (v18 : Value) (v19 : Value) (v20 : Value) (v21 : Value) (v22 : Value) (v23 : Value) (v24 : Value) (v25 : Value) (v26 : Value) (v27 : Value) (v28 : Value) (v29 : Value) (v30 : Value) (v31 : Value) (v32 : Value) (v33 : Value) (v34 : Value) (v35 : Value) (v36 : Value) (v37 : Value) (v38 : Value) (v39 : Value) (v40 : Value) (v41 : Value) (v42 : Value) (v43 : Value) (f44 : Nat → Option Nat) (f46 : Nat → Int32) (f48 : Nat → Int32) (f53 : Nat → Option Nat) (h6 : ¬ x5 < 0) (h7 : ¬ 7 < x5) (h8 : x5 ≤ 7) (h9 : vp_in x5 8) (h11 : ¬ x10 < 0) (h12 : ¬ 7 < x10) (h13 : x10 ≤ 7) (h14 : vp_in x10 8) (h45 : f44 x10.toNatClampNeg = some a3) (h47 : f46 x10.toNatClampNeg = 4) (h49 : f48 0 = 110) (h50 : f48 1 = 117) (h51 : f48 2 = 108) (h52 : f48 3 = 108) (h54 : f53 0 = none) : xMet l yM_one0 wyM_one0 10 2 12 204 D cT aK aV sz [.ref a0, .int x5, .int 8, .int x10] [(a0, .inr (5, [v15, .ref a4, v16, v17, v18, v19, v20, v21, v22, v23, v24, v25, v26, v27, v28, v29, v30, v31, v32, v33, v34, v35, v36, v37, .ref a1, .ref a2, v38, v39, v40, v41, v42, v43])), (a1, .inl (cT 5, 8, .inr (.inr (.inr (.inr f44))))), (a2, .inl (cT 1, 8, .inl f46)), (a3, .inl (cT 0, 4096, .inl f48)), (a4, .inl (cT 4, 1024, .inr (.inr (.inr (.inr f53)))))] (fun A => va_Qv (fun _ : Unit => True) (fun _ t => ∃ (q3 : Nat), xB D xcl cT A [(a0, .inr (5, [.int 2, .ref a4, .int 1, v17, .int 0, v19, v20, .int 0, .int 1, .int 0, v24, v25, .int 0, v27, v28, .ref a3, .int 4, .int 4, .int 0, .int 100, v34, v35, .int 0, .int 1000000000, .ref a1, .ref a2, v38, v39, v40, v41, .int 1, v43])), (a1, .inl (cT 5, 8, .inr (.inr (.inr (.inr f44))))), (a2, .inl (cT 1, 8, .inl f46)), (a3, .inl (cT 0, 4096, .inl f48)), (a4, .inl (cT 4, 1024, .inr (.inr (.inr (.inr (va_up f53 0 (some q3))))))), (q3, .inr (6, [.int 0, .long 0, .int 0, .int 0, .int 0, .int 1]))] t) A) := by
  refine Met.ofW (cc := prog_13_method_92_code) (maxL := 4) (ret := none) (by decide) rfl ?_
  intro p e s m args below meth c s₁ B hml hv
  obtain ⟨rfl, hsz, hZ, hP, hK, hD0⟩ := hv
  have hx := B.exec
  have hb := B.bytes
  have hr := B.returns
  have hts := atoms_spec (ws := wyM_one0) B.pre
  have htx := fun w h => hts w (List.mem_cons_of_mem _ h)
  have hown : s.vm.findClass "ValueBenchModel" = some m.cls := findClass_of_methodNamed B.named
  have hlocks := B.notSynchronized
  subst hsz
  have hD := hD0.self (sz := s.heap.size)
  generalize hAe : va_A [(a0, .inr (5, [v15, .ref a4, v16, v17, v18, v19, v20, v21, v22, v23, v24, v25, v26, v27, v28, v29, v30, v31, v32, v33, v34, v35, v36, v37, .ref a1, .ref a2, v38, v39, v40, v41, v42, v43])), (a1, .inl (cT 5, 8, .inr (.inr (.inr (.inr f44))))), (a2, .inl (cT 1, 8, .inl f46)), (a3, .inl (cT 0, 4096, .inl f48)), (a4, .inl (cT 4, 1024, .inr (.inr (.inr (.inr f53)))))] s.heap.size = A at hD hZ ⊢
  have hA : ∀ q : Nat, s.heap.size ≤ q → A q := fun q h => by rw [← hAe]; exact Or.inr h
  have hS : va_S A s.heap s.heap [] := va_S.rf
  have hP : va_P D xcl [(a0, .inr (5, [v15, .ref a4, v16, v17, v18, v19, v20, v21, v22, v23, v24, v25, v26, v27, v28, v29, v30, v31, v32, v33, v34, v35, v36, v37, .ref a1, .ref a2, v38, v39, v40, v41, v42, v43])), (a1, .inl (cT 5, 8, .inr (.inr (.inr (.inr f44))))), (a2, .inl (cT 1, 8, .inl f46)), (a3, .inl (cT 0, 4096, .inl f48)), (a4, .inl (cT 4, 1024, .inr (.inr (.inr (.inr f53)))))] s.heap := hP
  have hl := lv_entry ([.ref a0, .int x5, .int 8, .int x10]) (n := 4) (Nat.le_of_ble_eq_true rfl)
  rw [lg_entry_eq]
  generalize (lg_sl ([.ref a0, .int x5, .int 8, .int x10]) ++ List.replicate (4 - (lg_sl ([.ref a0, .int x5, .int 8, .int x10])).length) Slot.unset).toArray = ls at hl ⊢
  have hl : lv_has ls 4 [(0, .ref a0), (1, .int x5), (2, .int 8), (3, .int x10)] := hl
  refine lv_aload_n hx hb dM_one0_0 rfl (lv_at hl 0 rfl) ?_
  obtain ⟨hPc, hDc, hFc⟩ := xcut (wc := [(a0, .inr (5, [v15, .ref a4, v16, v17, v18, v19, v20, v21, v22, v23, v24, v25, v26, v27, v28, v29, v30, v31, v32, v33, v34, v35, v36, v37, .ref a1, .ref a2, v38, v39, v40, v41, v42, v43]))]) hP hD hS hA [0] rfl rfl (by decide)
  refine va_callv (va_runV (C := "ValueBenchModel") (As := []) (rest := []) ⟨hx, hb, hml, hown, htx⟩ (cM_begin_0 l hl9 D cT aK aV s.heap.size a0 v15 (.ref a4) v16 v17 v18 v19 v20 v21 v22 v23 v24 v25 v26 v27 v28 v29 v30 v31 v32 v33 v34 v35 v36 v37 (.ref a1) (.ref a2) v38 v39 v40 v41 v42 v43) ⟨callB_of 0 htx (xw_goodC kw_5_209) rfl rfl rfl (htx _ kw_1_5) (htx _ kw_5_206) ⟨by decide, by decide, by decide +kernel⟩ ⟨Nat.le_of_ble_eq_true rfl, Nat.le_of_ble_eq_true rfl⟩, (htx _ kw_5_208), (htx _ kp_M_begin)⟩ ⟨xPre_blind, va_recv hK hP (ci := 5) rfl (q0 := 0) rfl, (fun U hU hW => ⟨rfl, xPre_of hZ hS hFc hPc hDc hK U hU hW⟩)⟩ rfl rfl hl.1 rfl (lv_room (Nat.le_of_ble_eq_true rfl)) dM_one0_1 ⟨Nat.le_of_ble_eq_true rfl, Nat.le_of_ble_eq_true rfl⟩) hS (fun q _ h => hFc q h) hFc (fun u9 t H1 locs ht hvm hr9 hB hz1 hk1 hS => ?_)
  obtain ⟨hP1, hK1, hD1⟩ := hB
  rw [ht] at hP1
  obtain ⟨hP, hD⟩ := xjoin (W := [(a1, .inl (cT 5, 8, .inr (.inr (.inr (.inr f44))))), (a2, .inl (cT 1, 8, .inl f46)), (a3, .inl (cT 0, 4096, .inl f48)), (a4, .inl (cT 4, 1024, .inr (.inr (.inr (.inr f53))))), (a0, .inr (5, [.int 0, .ref a4, .int 0, v17, .int 0, v19, v20, .int 0, v22, .int 0, v24, v25, .int 0, v27, v28, v29, v30, v31, v32, v33, v34, v35, .int 0, .int 1000000000, .ref a1, .ref a2, v38, v39, v40, v41, v42, v43]))]) hP hD [0] [1, 2, 3, 4] 4 rfl rfl (by decide) (by decide) hk1 hFc hP1 hD1
  generalize H1 = H at hP hS ⊢
  refine lv_aload_n hx hb dM_one0_4 rfl (lv_at hl 0 rfl) ?_
  refine lv_iload_n hx hb dM_one0_5 rfl (lv_at hl 1 rfl) ?_
  obtain ⟨hPc, hDc, hFc⟩ := xcut (wc := []) hP hD hS hA [] rfl rfl (by decide)
  refine va_calli (va_runV (C := "ValueBenchModel") (As := [.int x5]) (rest := []) ⟨hx, hb, hml, hown, htx⟩ (cM_out_2 l hl9 D cT aK aV H.size a0 x5 h6 h7 h8 h9) ⟨callB_of 1 htx (xw_goodC kw_5_217) rfl rfl rfl (htx _ kw_1_5) (htx _ kw_5_214) ⟨by decide, by decide, by decide +kernel⟩ ⟨Nat.le_of_ble_eq_true rfl, Nat.le_of_ble_eq_true rfl⟩, (htx _ kw_5_216), (htx _ kp_M_out)⟩ ⟨xPre_blind, va_recv hK hP (ci := 5) rfl (q0 := 4) rfl, (fun U hU hW => ⟨rfl, xPre_of hZ hS hFc hPc hDc hK U hU hW⟩)⟩ rfl rfl hl.1 rfl (lv_room (Nat.le_of_ble_eq_true rfl)) dM_one0_6 ⟨Nat.le_of_ble_eq_true rfl, Nat.le_of_ble_eq_true rfl⟩) hS (fun q _ h => hFc q h) hFc (fun r1 u9 t H1 locs ht hvm hr9 hB hz1 hk1 hS => ?_)
  obtain ⟨hP1, hK1, hD1⟩ := hB
  rw [ht] at hP1
  obtain ⟨hP, hD⟩ := xjoin (W := [(a1, .inl (cT 5, 8, .inr (.inr (.inr (.inr f44))))), (a2, .inl (cT 1, 8, .inl f46)), (a3, .inl (cT 0, 4096, .inl f48)), (a4, .inl (cT 4, 1024, .inr (.inr (.inr (.inr f53))))), (a0, .inr (5, [.int 0, .ref a4, .int 0, v17, .int 0, v19, v20, .int 0, v22, .int 0, v24, v25, .int 0, v27, v28, v29, v30, v31, v32, v33, v34, v35, .int 0, .int 1000000000, .ref a1, .ref a2, v38, v39, v40, v41, v42, v43]))]) hP hD [] [0, 1, 2, 3, 4] 5 rfl rfl (by decide) (by decide) hk1 hFc hP1 hD1
  generalize H1 = H at hP hS ⊢
  rw [hr9]
  refine W.eq (g2 := F0 m 9 ls [.int 0]) rfl ?_
  refine lv_if_ne (tgt := 30) hx hb dM_one0_9 (by decide) (fun h => ((by revert h; decide : False)).elim) (fun _ => ?_)
  refine lv_iload_n hx hb dM_one0_12 rfl (lv_at hl 2 rfl) ?_
  refine lv_if_lt (tgt := 30) hx hb dM_one0_13 (by decide) (fun h => ((by revert h; decide : False)).elim) (fun _ => ?_)
  refine lv_iload_n hx hb dM_one0_16 rfl (lv_at hl 2 rfl) ?_
  refine lv_bipush (v := 13) hx hb dM_one0_17 (by decide) ?_
  refine lv_icmp_gt (tgt := 30) hx hb dM_one0_19 (by decide) (fun h => ((by revert h; decide : False)).elim) (fun _ => ?_)
  refine lv_aload_n hx hb dM_one0_22 rfl (lv_at hl 0 rfl) ?_
  refine lv_iload_n hx hb dM_one0_23 rfl (lv_at hl 3 rfl) ?_
  obtain ⟨hPc, hDc, hFc⟩ := xcut (wc := []) hP hD hS hA [] rfl rfl (by decide)
  refine va_calli (va_runV (C := "ValueBenchModel") (As := [.int x10]) (rest := []) ⟨hx, hb, hml, hown, htx⟩ (cM_out_2 l hl9 D cT aK aV H.size a0 x10 h11 h12 h13 h14) ⟨callB_of 1 htx (xw_goodC kw_5_217) rfl rfl rfl (htx _ kw_1_5) (htx _ kw_5_214) ⟨by decide, by decide, by decide +kernel⟩ ⟨Nat.le_of_ble_eq_true rfl, Nat.le_of_ble_eq_true rfl⟩, (htx _ kw_5_216), (htx _ kp_M_out)⟩ ⟨xPre_blind, va_recv hK hP (ci := 5) rfl (q0 := 4) rfl, (fun U hU hW => ⟨rfl, xPre_of hZ hS hFc hPc hDc hK U hU hW⟩)⟩ rfl rfl hl.1 rfl (lv_room (Nat.le_of_ble_eq_true rfl)) dM_one0_24 ⟨Nat.le_of_ble_eq_true rfl, Nat.le_of_ble_eq_true rfl⟩) hS (fun q _ h => hFc q h) hFc (fun r2 u9 t H1 locs ht hvm hr9 hB hz1 hk1 hS => ?_)
  obtain ⟨hP1, hK1, hD1⟩ := hB
  rw [ht] at hP1
  obtain ⟨hP, hD⟩ := xjoin (W := [(a1, .inl (cT 5, 8, .inr (.inr (.inr (.inr f44))))), (a2, .inl (cT 1, 8, .inl f46)), (a3, .inl (cT 0, 4096, .inl f48)), (a4, .inl (cT 4, 1024, .inr (.inr (.inr (.inr f53))))), (a0, .inr (5, [.int 0, .ref a4, .int 0, v17, .int 0, v19, v20, .int 0, v22, .int 0, v24, v25, .int 0, v27, v28, v29, v30, v31, v32, v33, v34, v35, .int 0, .int 1000000000, .ref a1, .ref a2, v38, v39, v40, v41, v42, v43]))]) hP hD [] [0, 1, 2, 3, 4] 5 rfl rfl (by decide) (by decide) hk1 hFc hP1 hD1
  generalize H1 = H at hP hS ⊢
  rw [hr9]
  refine W.eq (g2 := F0 m 27 ls [.int 0]) rfl ?_
  refine lv_if_eq (tgt := 38) hx hb dM_one0_27 (by decide) (fun _ => ?_) (fun h => ((by revert h; decide : False)).elim)
  refine lv_aload_n hx hb dM_one0_38 rfl (lv_at hl 0 rfl) ?_
  refine lv_iload_n hx hb dM_one0_39 rfl (lv_at hl 1 rfl) ?_
  refine lv_iconst (v := 1) hx hb dM_one0_40 (by decide) ?_
  refine lv_iload_n hx hb dM_one0_41 rfl (lv_at hl 2 rfl) ?_
  refine lv_iload_n hx hb dM_one0_42 rfl (lv_at hl 3 rfl) ?_
  refine lv_iload_n hx hb dM_one0_43 rfl (lv_at hl 3 rfl) ?_
  obtain ⟨hPc, hDc, hFc⟩ := xcut (wc := [(a0, .inr (5, [.int 0, .ref a4, .int 0, v17, .int 0, v19, v20, .int 0, v22, .int 0, v24, v25, .int 0, v27, v28, v29, v30, v31, v32, v33, v34, v35, .int 0, .int 1000000000, .ref a1, .ref a2, v38, v39, v40, v41, v42, v43])), (a1, .inl (cT 5, 8, .inr (.inr (.inr (.inr f44))))), (a2, .inl (cT 1, 8, .inl f46)), (a3, .inl (cT 0, 4096, .inl f48)), (a4, .inl (cT 4, 1024, .inr (.inr (.inr (.inr f53)))))]) hP hD hS hA [4, 0, 1, 2, 3] rfl rfl (by decide)
  refine va_callv (vx_runVW (C := "ValueBenchModel") (As := [.int x5, .int 1, .int 8, .int x10, .int x10]) (rest := []) ⟨hx, hb, hml, hown, htx⟩ (cM_finish_25 l hl9 D cT aK aV H.size a0 a1 a2 a3 a4 x5 x10 x10 (.int 0) v17 (.int 0) v19 v20 (.int 0) v22 (.int 0) v24 v25 (.int 0) v27 v28 v29 v30 v31 v32 v33 v34 v35 (.int 0) (.int 1000000000) v38 v39 v40 v41 v42 v43 f44 f46 f48 f53 h11 h12 h13 h14 (by first | rfl | exact h45 | exact h47 | exact h49 | exact h50 | exact h51 | exact h52 | exact h54) (by first | rfl | exact h45 | exact h47 | exact h49 | exact h50 | exact h51 | exact h52 | exact h54) (by first | rfl | exact h45 | exact h47 | exact h49 | exact h50 | exact h51 | exact h52 | exact h54) (by first | rfl | exact h45 | exact h47 | exact h49 | exact h50 | exact h51 | exact h52 | exact h54) (by first | rfl | exact h45 | exact h47 | exact h49 | exact h50 | exact h51 | exact h52 | exact h54) (by first | rfl | exact h45 | exact h47 | exact h49 | exact h50 | exact h51 | exact h52 | exact h54) (by first | rfl | exact h45 | exact h47 | exact h49 | exact h50 | exact h51 | exact h52 | exact h54)) (xcVW 5 htx (xw_goodC kw_6_195) rfl rfl rfl (htx _ kw_1_5) (htx _ kw_6_192) ⟨by decide, by decide, by decide +kernel⟩ ⟨Nat.le_of_ble_eq_true rfl, Nat.le_of_ble_eq_true rfl⟩ (htx _ kw_6_194) (htx _ kp_M_finish)) ⟨xPre_blind, va_recv hK hP (ci := 5) rfl (q0 := 4) rfl, (fun U hU hW => ⟨rfl, xPre_of hZ hS hFc hPc hDc hK U hU hW⟩)⟩ rfl rfl hl.1 rfl (lv_room (Nat.le_of_ble_eq_true rfl)) dM_one0_44 ⟨Nat.le_of_ble_eq_true rfl, Nat.le_of_ble_eq_true rfl⟩) hS (fun q _ h => hFc q h) hFc (fun u9 t H1 locs ht hvm hr9 hB hz1 hk1 hS => ?_)
  obtain ⟨q3, hP1, hK1, hD1⟩ := hB
  rw [ht] at hP1
  obtain ⟨hP, hD⟩ := xjoin (W := [(a0, .inr (5, [.int 2, .ref a4, .int 1, v17, .int 0, v19, v20, .int 0, .int 1, .int 0, v24, v25, .int 0, v27, v28, .ref a3, .int 4, .int 4, .int 0, .int 100, v34, v35, .int 0, .int 1000000000, .ref a1, .ref a2, v38, v39, v40, v41, .int 1, v43])), (a1, .inl (cT 5, 8, .inr (.inr (.inr (.inr f44))))), (a2, .inl (cT 1, 8, .inl f46)), (a3, .inl (cT 0, 4096, .inl f48)), (a4, .inl (cT 4, 1024, .inr (.inr (.inr (.inr (va_up f53 0 (some q3))))))), (q3, .inr (6, [.int 0, .long 0, .int 0, .int 0, .int 0, .int 1]))]) hP hD [4, 0, 1, 2, 3] [] 0 rfl rfl (by decide) (by decide) hk1 hFc hP1 hD1
  generalize H1 = H at hP hS ⊢
  obtain ⟨hP9, hD9⟩ := xsub (wc := [(a0, .inr (5, [.int 2, .ref a4, .int 1, v17, .int 0, v19, v20, .int 0, .int 1, .int 0, v24, v25, .int 0, v27, v28, .ref a3, .int 4, .int 4, .int 0, .int 100, v34, v35, .int 0, .int 1000000000, .ref a1, .ref a2, v38, v39, v40, v41, .int 1, v43])), (a1, .inl (cT 5, 8, .inr (.inr (.inr (.inr f44))))), (a2, .inl (cT 1, 8, .inl f46)), (a3, .inl (cT 0, 4096, .inl f48)), (a4, .inl (cT 4, 1024, .inr (.inr (.inr (.inr (va_up f53 0 (some q3))))))), (q3, .inr (6, [.int 0, .long 0, .int 0, .int 0, .int 0, .int 1]))]) hP hD [0, 1, 2, 3, 4, 5] rfl rfl (by decide)
  refine W.widen (k := 2) (n := 12) (Nat.le_of_ble_eq_true rfl) (Nat.le_of_ble_eq_true rfl) ?_
  exact W.vret hx hb hr (fun t ht hW => ⟨⟨(), rfl, trivial, q3, by rw [ht]; exact hP9, va_K.moved hW.alike hK, hD9⟩, hS.F ht⟩) hS.2.2 dM_one0_47
set_option maxHeartbeats 400000000 in
set_option maxRecDepth 100000 in
theorem cB_isWithin_23 (l : Launch) (hl9 : l.stackTraces = false) (D : va_G) (cT : Nat → ClassId) (aK aV : Nat → Nat) (sz : Nat) : xMet l yB_isWithin wyB_isWithin 0 0 0 0 D cT aK aV sz [.int 9, .int 13] [] (fun A => va_Qi (fun (r : Int32) (_ : Unit) => r = 1) (fun _ t => xB D xcl cT A [] t) A) := by
  refine Met.ofW (cc := prog_1_method_15_code) (maxL := 2) (ret := (some .boolean)) (by decide) rfl ?_
  intro p e s m args below meth c s₁ B hml hv
  obtain ⟨rfl, hsz, hZ, hP, hK, hD0⟩ := hv
  have hx := B.exec
  have hb := B.bytes
  have hr := B.returns
  have hts := atoms_spec (ws := wyB_isWithin) B.pre
  have htx := fun w h => hts w (List.mem_cons_of_mem _ h)
  have hown : s.vm.findClass "ValueBench" = some m.cls := findClass_of_methodNamed B.named
  have hlocks := B.notSynchronized
  subst hsz
  have hD := hD0.self (sz := s.heap.size)
  generalize hAe : va_A [] s.heap.size = A at hD hZ ⊢
  have hA : ∀ q : Nat, s.heap.size ≤ q → A q := fun q h => by rw [← hAe]; exact Or.inr h
  have hS : va_S A s.heap s.heap [] := va_S.rf
  have hP : va_P D xcl [] s.heap := hP
  have hl := lv_entry ([.int 9, .int 13]) (n := 2) (Nat.le_of_ble_eq_true rfl)
  rw [lg_entry_eq]
  generalize (lg_sl ([.int 9, .int 13]) ++ List.replicate (2 - (lg_sl ([.int 9, .int 13])).length) Slot.unset).toArray = ls at hl ⊢
  have hl : lv_has ls 2 [(0, .int 9), (1, .int 13)] := hl
  refine lv_iload_n hx hb dB_isWithin_0 rfl (lv_at hl 0 rfl) ?_
  refine lv_if_lt (tgt := 13) hx hb dB_isWithin_1 (by decide) (fun h => ((by revert h; decide : False)).elim) (fun _ => ?_)
  refine lv_iload_n hx hb dB_isWithin_4 rfl (lv_at hl 0 rfl) ?_
  refine lv_iload_n hx hb dB_isWithin_5 rfl (lv_at hl 1 rfl) ?_
  refine lv_icmp_gt (tgt := 13) hx hb dB_isWithin_6 (by decide) (fun h => ((by revert h; decide : False)).elim) (fun _ => ?_)
  refine lv_iconst (v := 1) hx hb dB_isWithin_9 (by decide) ?_
  refine lv_goto (tgt := 14) hx hb dB_isWithin_10 (by decide) ?_
  obtain ⟨hP9, hD9⟩ := xsub (wc := []) hP hD [] rfl rfl (by decide)
  refine W.widen (k := 0) (n := 0) (Nat.le_of_ble_eq_true rfl) (Nat.le_of_ble_eq_true rfl) ?_
  exact W.zret (v := 1) hx hb hr rfl (fun t ht hW => ⟨⟨1, (), rfl, rfl, by rw [ht]; exact hP9, va_K.moved hW.alike hK, hD9⟩, hS.F ht⟩) hS.2.2 dB_isWithin_14
set_option maxHeartbeats 400000000 in
set_option maxRecDepth 100000 in
theorem cR_close_1 (l : Launch) (hl9 : l.stackTraces = false) (D : va_G) (cT : Nat → ClassId) (aK aV : Nat → Nat) (sz : Nat) (a0 : Nat) (a1 : Nat) (f2 : Nat → Int64) : xMet l yR_close wyR_close 0 0 0 0 D cT aK aV sz [.ref a0, .int 0, .int 5, .int 0] [(a0, .inr (2, [.ref a1, .int 1, .int 0])), (a1, .inl (cT 2, 4096, .inr (.inl f2)))] (fun A => va_Qv (fun _ : Unit => True) (fun _ t => xB D xcl cT A [(a0, .inr (2, [.ref a1, .int 1, .int 0])), (a1, .inl (cT 2, 4096, .inr (.inl (vp_updL f2 0 524293))))] t) A) := by
  refine Met.ofW (cc := prog_8_method_26_code) (maxL := 4) (ret := none) (by decide) rfl ?_
  intro p e s m args below meth c s₁ B hml hv
  obtain ⟨rfl, hsz, hZ, hP, hK, hD0⟩ := hv
  have hx := B.exec
  have hb := B.bytes
  have hr := B.returns
  have hts := atoms_spec (ws := wyR_close) B.pre
  have htx := fun w h => hts w (List.mem_cons_of_mem _ h)
  have hown : s.vm.findClass "ValueBench$Row" = some m.cls := findClass_of_methodNamed B.named
  have hlocks := B.notSynchronized
  subst hsz
  have hD := hD0.self (sz := s.heap.size)
  generalize hAe : va_A [(a0, .inr (2, [.ref a1, .int 1, .int 0])), (a1, .inl (cT 2, 4096, .inr (.inl f2)))] s.heap.size = A at hD hZ ⊢
  have hA : ∀ q : Nat, s.heap.size ≤ q → A q := fun q h => by rw [← hAe]; exact Or.inr h
  have hS : va_S A s.heap s.heap [] := va_S.rf
  have hP : va_P D xcl [(a0, .inr (2, [.ref a1, .int 1, .int 0])), (a1, .inl (cT 2, 4096, .inr (.inl f2)))] s.heap := hP
  have hl := lv_entry ([.ref a0, .int 0, .int 5, .int 0]) (n := 4) (Nat.le_of_ble_eq_true rfl)
  rw [lg_entry_eq]
  generalize (lg_sl ([.ref a0, .int 0, .int 5, .int 0]) ++ List.replicate (4 - (lg_sl ([.ref a0, .int 0, .int 5, .int 0])).length) Slot.unset).toArray = ls at hl ⊢
  have hl : lv_has ls 4 [(0, .ref a0), (1, .int 0), (2, .int 5), (3, .int 0)] := hl
  refine lv_aload_n hx hb dR_close_0 rfl (lv_at hl 0 rfl) ?_
  refine va_get (D := D) (ci := 2) (v := .int 0) (C := "ValueBench$Row") (T := TR) (N := 3) hx hb htx inR hown hK hP 0 rfl rfl 2 (by decide) (htx _ kw_1_86) (fun _ h9 => h9) rfl dR_close_1 ?_
  refine lv_if_ne (tgt := 43) hx hb dR_close_4 (by decide) (fun h => ((by revert h; decide : False)).elim) (fun _ => ?_)
  refine lv_iload_n hx hb dR_close_7 rfl (lv_at hl 1 rfl) ?_
  refine lv_if_lt (tgt := 43) hx hb dR_close_8 (by decide) (fun h => ((by revert h; decide : False)).elim) (fun _ => ?_)
  refine lv_iload_n hx hb dR_close_11 rfl (lv_at hl 1 rfl) ?_
  refine lv_aload_n hx hb dR_close_12 rfl (lv_at hl 0 rfl) ?_
  refine va_get (D := D) (ci := 2) (v := .int 1) (C := "ValueBench$Row") (T := TR) (N := 3) hx hb htx inR hown hK hP 0 rfl rfl 1 (by decide) (htx _ kw_1_85) (fun _ h9 => h9) rfl dR_close_13 ?_
  refine lv_icmp_ge (tgt := 43) hx hb dR_close_16 (by decide) (fun h => ((by revert h; decide : False)).elim) (fun _ => ?_)
  refine lv_aload_n hx hb dR_close_19 rfl (lv_at hl 0 rfl) ?_
  refine va_get (D := D) (ci := 2) (v := .ref a1) (C := "ValueBench$Row") (T := TR) (N := 3) hx hb htx inR hown hK hP 0 rfl rfl 0 (by decide) (htx _ kw_1_84) (fun _ h9 => h9) rfl dR_close_20 ?_
  refine lv_iload_n hx hb dR_close_23 rfl (lv_at hl 1 rfl) ?_
  refine lv_aload_n hx hb dR_close_24 rfl (lv_at hl 0 rfl) ?_
  refine va_get (D := D) (ci := 2) (v := .int 1) (C := "ValueBench$Row") (T := TR) (N := 3) hx hb htx inR hown hK hP 0 rfl rfl 1 (by decide) (htx _ kw_1_85) (fun _ h9 => h9) rfl dR_close_25 ?_
  refine lv_iload_n hx hb dR_close_28 rfl (lv_at hl 1 rfl) ?_
  refine lv_isub hx hb dR_close_29 ?_
  refine W.eq (g2 := F0 m 30 ls [.int 1, .int 0, .ref a1]) rfl ?_
  refine lv_i2l hx hb dR_close_30 rfl ?_
  refine W.eq (g2 := F0 m 31 ls [.long 1, .int 0, .ref a1]) rfl ?_
  refine lv_bipush (v := 19) hx hb dR_close_31 (by decide) ?_
  refine lv_lshl hx hb dR_close_33 rfl ?_
  refine W.eq (g2 := F0 m 34 ls [.long 524288, .int 0, .ref a1]) rfl ?_
  refine lv_iload_n hx hb dR_close_34 rfl (lv_at hl 3 rfl) ?_
  refine lv_i2l hx hb dR_close_35 rfl ?_
  refine W.eq (g2 := F0 m 36 ls [.long 0, .long 524288, .int 0, .ref a1]) rfl ?_
  refine lv_iconst (v := 3) hx hb dR_close_36 (by decide) ?_
  refine lv_lshl hx hb dR_close_37 rfl ?_
  refine W.eq (g2 := F0 m 38 ls [.long 0, .long 524288, .int 0, .ref a1]) rfl ?_
  refine lv_lor hx hb dR_close_38 ?_
  refine W.eq (g2 := F0 m 39 ls [.long 524288, .int 0, .ref a1]) rfl ?_
  refine lv_iload_n hx hb dR_close_39 rfl (lv_at hl 2 rfl) ?_
  refine lv_i2l hx hb dR_close_40 rfl ?_
  refine W.eq (g2 := F0 m 41 ls [.long 5, .long 524288, .int 0, .ref a1]) rfl ?_
  refine lv_lor hx hb dR_close_41 ?_
  refine W.eq (g2 := F0 m 42 ls [.long 524293, .int 0, .ref a1]) rfl ?_
  refine va_last hx hb hK hP hD hS 1 2 rfl rfl (show ¬ ((0 : Int32) < 0 ∨ 4096 ≤ (0 : Int32).toNatClampNeg) by decide) dR_close_42 (fun H locs hP hD hS => ?_)
  obtain ⟨hP, hD⟩ : xPD D xcl A [(a0, .inr (2, [.ref a1, .int 1, .int 0])), (a1, .inl (cT 2, 4096, .inr (.inl (vp_updL f2 0 524293))))] H := ⟨hP, hD⟩
  obtain ⟨hP9, hD9⟩ := xsub (wc := [(a0, .inr (2, [.ref a1, .int 1, .int 0])), (a1, .inl (cT 2, 4096, .inr (.inl (vp_updL f2 0 524293))))]) hP hD [0, 1] rfl rfl (by decide)
  refine W.widen (k := 0) (n := 0) (Nat.le_of_ble_eq_true rfl) (Nat.le_of_ble_eq_true rfl) ?_
  exact W.vret hx hb hr (fun t ht hW => ⟨⟨(), rfl, trivial, by rw [ht]; exact hP9, va_K.moved hW.alike hK, hD9⟩, hS.F ht⟩) hS.2.2 dR_close_43
set_option maxHeartbeats 400000000 in
set_option maxRecDepth 100000 in
theorem cG_reversed_0 (l : Launch) (hl9 : l.stackTraces = false) (D : va_G) (cT : Nat → ClassId) (aK aV : Nat → Nat) (sz : Nat) (a0 : Nat) (a1 : Nat) (a2 : Nat) (a3 : Nat) (b4 : Nat) (v5 : Value) (f6 : Nat → Int64) (f8 : Nat → Int64) (h7 : f6 0 = 0) : xMet l yG_reversed wyG_reversed 2 0 0 42 D cT aK aV sz [.ref a0, .ref b4, .ref a2] [(a0, .inr (2, [.ref a1, .int 1, v5])), (a1, .inl (cT 2, 4096, .inr (.inl f6))), (a2, .inr (2, [.ref a3, .int 0, .int 0])), (a3, .inl (cT 2, 4096, .inr (.inl f8)))] (fun A => va_Qi (fun (r : Int32) (_ : Unit) => r = 0) (fun _ t => xB D xcl cT A [(a0, .inr (2, [.ref a1, .int 1, v5])), (a1, .inl (cT 2, 4096, .inr (.inl f6))), (a2, .inr (2, [.ref a3, .int 1, .int 0])), (a3, .inl (cT 2, 4096, .inr (.inl (vp_updL (vp_updL f8 0 0) 0 524293))))] t) A) := by
  refine Met.ofW (cc := prog_9_method_11_code) (maxL := 3) (ret := (some .int)) (by decide) rfl ?_
  intro p e s m args below meth c s₁ B hml hv
  obtain ⟨rfl, hsz, hZ, hP, hK, hD0⟩ := hv
  have hx := B.exec
  have hb := B.bytes
  have hr := B.returns
  have hts := atoms_spec (ws := wyG_reversed) B.pre
  have htx := fun w h => hts w (List.mem_cons_of_mem _ h)
  have hown : s.vm.findClass "ValueBench$Singles" = some m.cls := findClass_of_methodNamed B.named
  have hlocks := B.notSynchronized
  subst hsz
  have hD := hD0.self (sz := s.heap.size)
  generalize hAe : va_A [(a0, .inr (2, [.ref a1, .int 1, v5])), (a1, .inl (cT 2, 4096, .inr (.inl f6))), (a2, .inr (2, [.ref a3, .int 0, .int 0])), (a3, .inl (cT 2, 4096, .inr (.inl f8)))] s.heap.size = A at hD hZ ⊢
  have hA : ∀ q : Nat, s.heap.size ≤ q → A q := fun q h => by rw [← hAe]; exact Or.inr h
  have hS : va_S A s.heap s.heap [] := va_S.rf
  have hP : va_P D xcl [(a0, .inr (2, [.ref a1, .int 1, v5])), (a1, .inl (cT 2, 4096, .inr (.inl f6))), (a2, .inr (2, [.ref a3, .int 0, .int 0])), (a3, .inl (cT 2, 4096, .inr (.inl f8)))] s.heap := hP
  have hl := lv_entry ([.ref a0, .ref b4, .ref a2]) (n := 3) (Nat.le_of_ble_eq_true rfl)
  rw [lg_entry_eq]
  generalize (lg_sl ([.ref a0, .ref b4, .ref a2]) ++ List.replicate (3 - (lg_sl ([.ref a0, .ref b4, .ref a2])).length) Slot.unset).toArray = ls at hl ⊢
  have hl : lv_has ls 3 [(0, .ref a0), (1, .ref b4), (2, .ref a2)] := hl
  refine lv_aload_n hx hb dG_reversed_0 rfl (lv_at hl 0 rfl) ?_
  refine lv_iconst (v := 0) hx hb dG_reversed_1 (by decide) ?_
  obtain ⟨hPc, hDc, hFc⟩ := xcut (wc := [(a0, .inr (2, [.ref a1, .int 1, v5])), (a1, .inl (cT 2, 4096, .inr (.inl f6)))]) hP hD hS hA [0, 1] rfl rfl (by decide)
  refine va_calli (va_runV (C := "ValueBench$Row") (As := [.int 0]) (rest := []) ⟨hx, hb, hml, hown, htx⟩ (cR_kind_0 l hl9 D cT aK aV s.heap.size a0 a1 v5 f6 (by first | rfl | exact h7)) ⟨callB_of 1 htx (xw_goodC kw_3_24) rfl rfl rfl (htx _ kw_1_4) (htx _ kw_4_38) ⟨by decide, by decide, by decide +kernel⟩ ⟨Nat.le_of_ble_eq_true rfl, Nat.le_of_ble_eq_true rfl⟩, (htx _ kw_3_22), (htx _ kw_3_23)⟩ ⟨xPre_blind, va_recv hK hP (ci := 2) rfl (q0 := 0) rfl, (fun U hU hW => ⟨rfl, xPre_of hZ hS hFc hPc hDc hK U hU hW⟩)⟩ rfl rfl hl.1 rfl (lv_room (Nat.le_of_ble_eq_true rfl)) dG_reversed_2 ⟨Nat.le_of_ble_eq_true rfl, Nat.le_of_ble_eq_true rfl⟩) hS (fun q _ h => hFc q h) hFc (fun r1 u9 t H1 locs ht hvm hr9 hB hz1 hk1 hS => ?_)
  obtain ⟨hP1, hK1, hD1⟩ := hB
  rw [ht] at hP1
  obtain ⟨hP, hD⟩ := xjoin (W := [(a2, .inr (2, [.ref a3, .int 0, .int 0])), (a3, .inl (cT 2, 4096, .inr (.inl f8))), (a0, .inr (2, [.ref a1, .int 1, v5])), (a1, .inl (cT 2, 4096, .inr (.inl f6)))]) hP hD [0, 1] [2, 3] 2 rfl rfl (by decide) (by decide) hk1 hFc hP1 hD1
  generalize H1 = H at hP hS ⊢
  rw [hr9]
  refine W.eq (g2 := F0 m 5 ls [.int 0]) rfl ?_
  refine lv_lookup (off := 35) (tgt := 40) hx hb dG_reversed_5 (by decide) (by decide) (by decide) ?_
  refine lv_aload_n hx hb dG_reversed_40 rfl (lv_at hl 2 rfl) ?_
  refine lv_aload_n hx hb dG_reversed_41 rfl (lv_at hl 2 rfl) ?_
  obtain ⟨hPc, hDc, hFc⟩ := xcut (wc := [(a2, .inr (2, [.ref a3, .int 0, .int 0])), (a3, .inl (cT 2, 4096, .inr (.inl f8)))]) hP hD hS hA [0, 1] rfl rfl (by decide)
  refine va_calli (va_runV (C := "ValueBench$Row") (As := []) (rest := [.ref a2]) ⟨hx, hb, hml, hown, htx⟩ (cR_open_0 l hl9 D cT aK aV H.size a2 a3 f8) ⟨callB_of 0 htx (xw_goodC kw_2_136) rfl rfl rfl (htx _ kw_1_4) (htx _ kw_4_46) ⟨by decide, by decide, by decide +kernel⟩ ⟨Nat.le_of_ble_eq_true rfl, Nat.le_of_ble_eq_true rfl⟩, (htx _ kw_2_134), (htx _ kw_2_135)⟩ ⟨xPre_blind, va_recv hK hP (ci := 2) rfl (q0 := 0) rfl, (fun U hU hW => ⟨rfl, xPre_of hZ hS hFc hPc hDc hK U hU hW⟩)⟩ rfl rfl hl.1 rfl (lv_room (Nat.le_of_ble_eq_true rfl)) dG_reversed_42 ⟨Nat.le_of_ble_eq_true rfl, Nat.le_of_ble_eq_true rfl⟩) hS (fun q _ h => hFc q h) hFc (fun r2 u9 t H1 locs ht hvm hr9 hB hz1 hk1 hS => ?_)
  obtain ⟨hP1, hK1, hD1⟩ := hB
  rw [ht] at hP1
  obtain ⟨hP, hD⟩ := xjoin (W := [(a0, .inr (2, [.ref a1, .int 1, v5])), (a1, .inl (cT 2, 4096, .inr (.inl f6))), (a2, .inr (2, [.ref a3, .int 1, .int 0])), (a3, .inl (cT 2, 4096, .inr (.inl (vp_updL f8 0 0))))]) hP hD [0, 1] [2, 3] 2 rfl rfl (by decide) (by decide) hk1 hFc hP1 hD1
  generalize H1 = H at hP hS ⊢
  rw [hr9]
  refine W.eq (g2 := F0 m 45 ls [.int 0, .ref a2]) rfl ?_
  refine lv_iconst (v := 5) hx hb dG_reversed_45 (by decide) ?_
  refine lv_iconst (v := 0) hx hb dG_reversed_46 (by decide) ?_
  obtain ⟨hPc, hDc, hFc⟩ := xcut (wc := [(a2, .inr (2, [.ref a3, .int 1, .int 0])), (a3, .inl (cT 2, 4096, .inr (.inl (vp_updL f8 0 0))))]) hP hD hS hA [2, 3] rfl rfl (by decide)
  refine va_callv (va_runV (C := "ValueBench$Row") (As := [.int 0, .int 5, .int 0]) (rest := []) ⟨hx, hb, hml, hown, htx⟩ (cR_close_1 l hl9 D cT aK aV H.size a2 a3 (vp_updL f8 0 0)) ⟨callB_of 3 htx (xw_goodC kw_2_167) rfl rfl rfl (htx _ kw_1_4) (htx _ kw_4_70) ⟨by decide, by decide, by decide +kernel⟩ ⟨Nat.le_of_ble_eq_true rfl, Nat.le_of_ble_eq_true rfl⟩, (htx _ kw_2_165), (htx _ kw_2_166)⟩ ⟨xPre_blind, va_recv hK hP (ci := 2) rfl (q0 := 2) rfl, (fun U hU hW => ⟨rfl, xPre_of hZ hS hFc hPc hDc hK U hU hW⟩)⟩ rfl rfl hl.1 rfl (lv_room (Nat.le_of_ble_eq_true rfl)) dG_reversed_47 ⟨Nat.le_of_ble_eq_true rfl, Nat.le_of_ble_eq_true rfl⟩) hS (fun q _ h => hFc q h) hFc (fun u9 t H1 locs ht hvm hr9 hB hz1 hk1 hS => ?_)
  obtain ⟨hP1, hK1, hD1⟩ := hB
  rw [ht] at hP1
  obtain ⟨hP, hD⟩ := xjoin (W := [(a0, .inr (2, [.ref a1, .int 1, v5])), (a1, .inl (cT 2, 4096, .inr (.inl f6))), (a2, .inr (2, [.ref a3, .int 1, .int 0])), (a3, .inl (cT 2, 4096, .inr (.inl (vp_updL (vp_updL f8 0 0) 0 524293))))]) hP hD [2, 3] [0, 1] 2 rfl rfl (by decide) (by decide) hk1 hFc hP1 hD1
  generalize H1 = H at hP hS ⊢
  refine lv_iconst (v := 0) hx hb dG_reversed_50 (by decide) ?_
  obtain ⟨hP9, hD9⟩ := xsub (wc := [(a0, .inr (2, [.ref a1, .int 1, v5])), (a1, .inl (cT 2, 4096, .inr (.inl f6))), (a2, .inr (2, [.ref a3, .int 1, .int 0])), (a3, .inl (cT 2, 4096, .inr (.inl (vp_updL (vp_updL f8 0 0) 0 524293))))]) hP hD [0, 1, 2, 3] rfl rfl (by decide)
  refine W.widen (k := 0) (n := 0) (Nat.le_of_ble_eq_true rfl) (Nat.le_of_ble_eq_true rfl) ?_
  exact W.iret (v := 0) hx hb hr (fun t ht hW => ⟨⟨0, (), rfl, rfl, by rw [ht]; exact hP9, va_K.moved hW.alike hK, hD9⟩, hS.F ht⟩) hS.2.2 dG_reversed_51
