set_option maxHeartbeats 400000000 in
set_option maxRecDepth 100000 in
theorem cL_feed_0 (l : Launch) (hl9 : l.stackTraces = false) (D : va_G) (cT : Nat → ClassId) (aK aV : Nat → Nat) (sz : Nat) (a0 : Nat) (a1 : Nat) (a2 : Nat) (a3 : Nat) (x4 : Int32) (x5 : Int32) (x6 : Int32) (x7 : Int32) (x8 : Int32) (v9 : Value) (v10 : Value) (v11 : Value) (v12 : Value) (v13 : Value) (v14 : Value) (v15 : Value) (v16 : Value) (f17 : Nat → Int32) (f18 : Nat → Int64) : xMet l yL_feed wyL_feed 3 0 0 68 D cT aK aV sz [.ref a0, .int x4, .int x5, .int x6, .int x7, .int x8, .ref a3] [(a0, .inr (0, [.ref a1, v9, v10, v11, v12, v13, v14, v15])), (a1, .inr (1, [.ref a2, .int 0, v16])), (a2, .inl (cT 0, 4096, .inl f17)), (a3, .inl (cT 2, 1, .inr (.inl f18)))] (fun A => va_Qi (fun (r : Int32) (_ : Unit) => r = 0) (fun _ t => ∃ (y2 : Int32) (y3 : Int32) (y4 : Int32) (y5 : Int32) (y6 : Int32) (y7 : Int32) (y8 : Int32) (y9 : Int32) (y10 : Int32) (y11 : Int32) (y12 : Int32) (y13 : Int32) (y14 : Int32) (y15 : Int32) (y16 : Int32) (y17 : Int32) (y18 : Int32) (y19 : Int32) (y20 : Int32) (y21 : Int32), xB D xcl cT A [(a0, .inr (0, [.ref a1, v9, v10, v11, v12, v13, v14, v15])), (a1, .inr (1, [.ref a2, .int 20, v16])), (a2, .inl (cT 0, 4096, .inl (upd (upd (upd (upd (upd (upd (upd (upd (upd (upd (upd (upd (upd (upd (upd (upd (upd (upd (upd (upd f17 0 (vp_nar .byte y2)) 1 (vp_nar .byte y3)) 2 (vp_nar .byte y4)) 3 (vp_nar .byte y5)) 4 (vp_nar .byte y6)) 5 (vp_nar .byte y7)) 6 (vp_nar .byte y8)) 7 (vp_nar .byte y9)) 8 (vp_nar .byte y10)) 9 (vp_nar .byte y11)) 10 (vp_nar .byte y12)) 11 (vp_nar .byte y13)) 12 (vp_nar .byte y14)) 13 (vp_nar .byte y15)) 14 (vp_nar .byte y16)) 15 (vp_nar .byte y17)) 16 (vp_nar .byte y18)) 17 (vp_nar .byte y19)) 18 (vp_nar .byte y20)) 19 (vp_nar .byte y21)))), (a3, .inl (cT 2, 1, .inr (.inl (vp_updL f18 0 20))))] t) A) := by
  refine va_MetW (cc := method_3_code) (maxL := 8) (ret := (some .int)) (hh := [(0, 16, 19, 13)]) (by decide) rfl ?_
  intro p e s m args below meth c s₁ B hml hv
  obtain ⟨rfl, hsz, hZ, hP, hK, hD0⟩ := hv
  have hx := B.exec
  have hb := B.bytes
  have hr := B.returns
  have hts := atoms_spec (ws := wyL_feed) B.pre
  have htx := fun w h => hts w (List.mem_cons_of_mem _ h)
  have hown : s.vm.findClass "ValueBenchLaw" = some m.cls := findClass_of_methodNamed B.named
  have hlocks := B.notSynchronized
  subst hsz
  have hD := hD0.self (sz := s.heap.size)
  generalize hAe : va_A [(a0, .inr (0, [.ref a1, v9, v10, v11, v12, v13, v14, v15])), (a1, .inr (1, [.ref a2, .int 0, v16])), (a2, .inl (cT 0, 4096, .inl f17)), (a3, .inl (cT 2, 1, .inr (.inl f18)))] s.heap.size = A at hD hZ ⊢
  have hA : ∀ q : Nat, s.heap.size ≤ q → A q := fun q h => by rw [← hAe]; exact Or.inr h
  have hS : va_S A s.heap s.heap [] := va_S.rf
  have hP : va_P D xcl [(a0, .inr (0, [.ref a1, v9, v10, v11, v12, v13, v14, v15])), (a1, .inr (1, [.ref a2, .int 0, v16])), (a2, .inl (cT 0, 4096, .inl f17)), (a3, .inl (cT 2, 1, .inr (.inl f18)))] s.heap := hP
  have hl := lv_entry ([.ref a0, .int x4, .int x5, .int x6, .int x7, .int x8, .ref a3]) (n := 8) (Nat.le_of_ble_eq_true rfl)
  rw [lg_entry_eq]
  generalize (lg_sl ([.ref a0, .int x4, .int x5, .int x6, .int x7, .int x8, .ref a3]) ++ List.replicate (8 - (lg_sl ([.ref a0, .int x4, .int x5, .int x6, .int x7, .int x8, .ref a3])).length) Slot.unset).toArray = ls at hl ⊢
  have hl : lv_has ls 8 [(0, .ref a0), (1, .int x4), (2, .int x5), (3, .int x6), (4, .int x7), (5, .int x8), (6, .ref a3)] := hl
  have htab := vx_table (x := yL_feed) B (hts _ List.mem_cons_self)
  refine lv_aload hx hb dL_feed_0 (lv_at hl 6 rfl) ?_
  refine lv_iconst (v := 0) hx hb dL_feed_2 (by decide) ?_
  refine lv_aload_n hx hb dL_feed_3 rfl (lv_at hl 0 rfl) ?_
  refine lv_iload_n hx hb dL_feed_4 rfl (lv_at hl 1 rfl) ?_
  refine lv_iload_n hx hb dL_feed_5 rfl (lv_at hl 2 rfl) ?_
  refine lv_iload_n hx hb dL_feed_6 rfl (lv_at hl 3 rfl) ?_
  refine lv_iload hx hb dL_feed_7 (lv_at hl 4 rfl) ?_
  refine lv_iload hx hb dL_feed_9 (lv_at hl 5 rfl) ?_
  obtain ⟨hPc, hDc, hFc⟩ := xcut (wc := [(a0, .inr (0, [.ref a1, v9, v10, v11, v12, v13, v14, v15])), (a1, .inr (1, [.ref a2, .int 0, v16])), (a2, .inl (cT 0, 4096, .inl f17))]) hP hD hS hA [0, 1, 2] rfl rfl (by decide)
  refine va_calli (va_runV (C := "ValueBench") (As := [.int x4, .int x5, .int x6, .int x7, .int x8]) (rest := [.int 0, .ref a3]) ⟨hx, hb, hml, hown, htx⟩ (cB_feed_0 l hl9 D cT aK aV s.heap.size a0 a1 a2 x4 x5 x6 x7 x8 v9 v10 v11 v12 v13 v14 v15 v16 f17) ⟨callB_of 5 htx (xw_goodC kw_1_127) rfl rfl rfl (htx _ kw_1_1) (htx _ kw_1_124) ⟨by decide, by decide, by decide +kernel⟩ ⟨Nat.le_of_ble_eq_true rfl, Nat.le_of_ble_eq_true rfl⟩, (htx _ kw_1_125), (htx _ kw_1_126)⟩ ⟨xPre_blind, va_recv hK hP (ci := 0) rfl (q0 := 0) rfl, (fun U hU hW => ⟨rfl, xPre_of hZ hS hFc hPc hDc hK U hU hW⟩)⟩ rfl rfl hl.1 rfl (lv_room (Nat.le_of_ble_eq_true rfl)) dL_feed_11 ⟨Nat.le_of_ble_eq_true rfl, Nat.le_of_ble_eq_true rfl⟩) hS (fun q _ h => hFc q h) hFc (fun r1 u9 t H1 locs ht hvm hr9 hB hz1 hk1 hS => ?_)
  obtain ⟨y2, y3, y4, y5, y6, y7, y8, y9, y10, y11, y12, y13, y14, y15, y16, y17, y18, y19, y20, y21, hP1, hK1, hD1⟩ := hB
  rw [ht] at hP1
  obtain ⟨hP, hD⟩ := xjoin (W := [(a3, .inl (cT 2, 1, .inr (.inl f18))), (a0, .inr (0, [.ref a1, v9, v10, v11, v12, v13, v14, v15])), (a1, .inr (1, [.ref a2, .int 20, v16])), (a2, .inl (cT 0, 4096, .inl (upd (upd (upd (upd (upd (upd (upd (upd (upd (upd (upd (upd (upd (upd (upd (upd (upd (upd (upd (upd f17 0 (vp_nar .byte y2)) 1 (vp_nar .byte y3)) 2 (vp_nar .byte y4)) 3 (vp_nar .byte y5)) 4 (vp_nar .byte y6)) 5 (vp_nar .byte y7)) 6 (vp_nar .byte y8)) 7 (vp_nar .byte y9)) 8 (vp_nar .byte y10)) 9 (vp_nar .byte y11)) 10 (vp_nar .byte y12)) 11 (vp_nar .byte y13)) 12 (vp_nar .byte y14)) 13 (vp_nar .byte y15)) 14 (vp_nar .byte y16)) 15 (vp_nar .byte y17)) 16 (vp_nar .byte y18)) 17 (vp_nar .byte y19)) 18 (vp_nar .byte y20)) 19 (vp_nar .byte y21))))]) hP hD [0, 1, 2] [3] 1 rfl rfl (by decide) (by decide) hk1 hFc hP1 hD1
  generalize H1 = H at hP hS ⊢
  rw [hr9]
  refine W.eq (g2 := F0 m 14 ls [.int 20, .int 0, .ref a3]) rfl ?_
  refine lv_i2l hx hb dL_feed_14 rfl ?_
  refine W.eq (g2 := F0 m 15 ls [.long 20, .int 0, .ref a3]) rfl ?_
  refine va_last hx hb hK hP hD hS 0 2 rfl rfl (show ¬ ((0 : Int32) < 0 ∨ 1 ≤ (0 : Int32).toNatClampNeg) by decide) dL_feed_15 (fun H locs hP hD hS => ?_)
  obtain ⟨hP, hD⟩ : xPD D xcl A [(a3, .inl (cT 2, 1, .inr (.inl (vp_updL f18 0 20)))), (a0, .inr (0, [.ref a1, v9, v10, v11, v12, v13, v14, v15])), (a1, .inr (1, [.ref a2, .int 20, v16])), (a2, .inl (cT 0, 4096, .inl (upd (upd (upd (upd (upd (upd (upd (upd (upd (upd (upd (upd (upd (upd (upd (upd (upd (upd (upd (upd f17 0 (vp_nar .byte y2)) 1 (vp_nar .byte y3)) 2 (vp_nar .byte y4)) 3 (vp_nar .byte y5)) 4 (vp_nar .byte y6)) 5 (vp_nar .byte y7)) 6 (vp_nar .byte y8)) 7 (vp_nar .byte y9)) 8 (vp_nar .byte y10)) 9 (vp_nar .byte y11)) 10 (vp_nar .byte y12)) 11 (vp_nar .byte y13)) 12 (vp_nar .byte y14)) 13 (vp_nar .byte y15)) 14 (vp_nar .byte y16)) 15 (vp_nar .byte y17)) 16 (vp_nar .byte y18)) 17 (vp_nar .byte y19)) 18 (vp_nar .byte y20)) 19 (vp_nar .byte y21))))] H := ⟨hP, hD⟩
  refine lv_goto (tgt := 23) hx hb dL_feed_16 (by decide) ?_
  refine lv_iconst (v := 0) hx hb dL_feed_23 (by decide) ?_
  obtain ⟨hP9, hD9⟩ := xsub (wc := [(a0, .inr (0, [.ref a1, v9, v10, v11, v12, v13, v14, v15])), (a1, .inr (1, [.ref a2, .int 20, v16])), (a2, .inl (cT 0, 4096, .inl (upd (upd (upd (upd (upd (upd (upd (upd (upd (upd (upd (upd (upd (upd (upd (upd (upd (upd (upd (upd f17 0 (vp_nar .byte y2)) 1 (vp_nar .byte y3)) 2 (vp_nar .byte y4)) 3 (vp_nar .byte y5)) 4 (vp_nar .byte y6)) 5 (vp_nar .byte y7)) 6 (vp_nar .byte y8)) 7 (vp_nar .byte y9)) 8 (vp_nar .byte y10)) 9 (vp_nar .byte y11)) 10 (vp_nar .byte y12)) 11 (vp_nar .byte y13)) 12 (vp_nar .byte y14)) 13 (vp_nar .byte y15)) 14 (vp_nar .byte y16)) 15 (vp_nar .byte y17)) 16 (vp_nar .byte y18)) 17 (vp_nar .byte y19)) 18 (vp_nar .byte y20)) 19 (vp_nar .byte y21)))), (a3, .inl (cT 2, 1, .inr (.inl (vp_updL f18 0 20))))]) hP hD [1, 2, 3, 0] rfl rfl (by decide)
  refine W.widen (k := 0) (n := 0) (Nat.le_of_ble_eq_true rfl) (Nat.le_of_ble_eq_true rfl) ?_
  exact W.iret (v := 0) hx hb hr (fun t ht hW => ⟨⟨0, (), rfl, rfl, y2, y3, y4, y5, y6, y7, y8, y9, y10, y11, y12, y13, y14, y15, y16, y17, y18, y19, y20, y21, by rw [ht]; exact hP9, va_K.moved hW.alike hK, hD9⟩, hS.F ht⟩) hS.2.2 dL_feed_24
set_option maxHeartbeats 400000000 in
set_option maxRecDepth 100000 in
theorem cM_feed_0 (l : Launch) (hl9 : l.stackTraces = false) (D : va_G) (cT : Nat → ClassId) (aK aV : Nat → Nat) (sz : Nat) (a0 : Nat) (a1 : Nat) (x2 : Int32) (x3 : Int32) (x4 : Int32) (x5 : Int32) (x6 : Int32) (v7 : Value) (v8 : Value) (v9 : Value) (v10 : Value) (v11 : Value) (v12 : Value) (v13 : Value) (v14 : Value) (v15 : Value) (v16 : Value) (v17 : Value) (v18 : Value) (v19 : Value) (v20 : Value) (v21 : Value) (v22 : Value) (v23 : Value) (v24 : Value) (v25 : Value) (v26 : Value) (v27 : Value) (v28 : Value) (v29 : Value) (v30 : Value) (v31 : Value) (v32 : Value) (v33 : Value) (v34 : Value) (v35 : Value) (v36 : Value) (f37 : Nat → Int32) : xMet l yM_feed wyM_feed 0 0 0 0 D cT aK aV sz [.ref a0, .int x2, .int x3, .int x4, .int x5, .int x6] [(a0, .inr (5, [v7, v8, v9, v10, v11, v12, v13, v14, v15, v16, v17, v18, v19, v20, v21, v22, v23, v24, v25, v26, v27, v28, v29, v30, v31, v32, .ref a1, .int 0, v33, v34, v35, v36])), (a1, .inl (cT 0, 4096, .inl f37))] (fun A => va_Qi (fun (r : Int32) (_ : Unit) => r = 20) (fun _ t => ∃ (y2 : Int32) (y4 : Int32) (y6 : Int32) (y8 : Int32) (y10 : Int32) (y12 : Int32) (y14 : Int32) (y16 : Int32) (y18 : Int32) (y20 : Int32) (y22 : Int32) (y24 : Int32) (y26 : Int32) (y28 : Int32) (y30 : Int32) (y32 : Int32) (y34 : Int32) (y36 : Int32) (y38 : Int32) (y40 : Int32), xB D xcl cT A [(a0, .inr (5, [.int 0, v8, v9, v10, v11, v12, v13, v14, v15, v16, v17, v18, v19, v20, v21, v22, v23, v24, v25, v26, v27, v28, v29, v30, v31, v32, .ref a1, .int 20, v33, v34, v35, v36])), (a1, .inl (cT 0, 4096, .inl (upd (upd (upd (upd (upd (upd (upd (upd (upd (upd (upd (upd (upd (upd (upd (upd (upd (upd (upd (upd f37 0 (vp_nar .byte y2)) 1 (vp_nar .byte y4)) 2 (vp_nar .byte y6)) 3 (vp_nar .byte y8)) 4 (vp_nar .byte y10)) 5 (vp_nar .byte y12)) 6 (vp_nar .byte y14)) 7 (vp_nar .byte y16)) 8 (vp_nar .byte y18)) 9 (vp_nar .byte y20)) 10 (vp_nar .byte y22)) 11 (vp_nar .byte y24)) 12 (vp_nar .byte y26)) 13 (vp_nar .byte y28)) 14 (vp_nar .byte y30)) 15 (vp_nar .byte y32)) 16 (vp_nar .byte y34)) 17 (vp_nar .byte y36)) 18 (vp_nar .byte y38)) 19 (vp_nar .byte y40))))] t) A) := by
  refine Met.ofW (cc := prog_13_method_82_code) (maxL := 8) (ret := (some .int)) (by decide) rfl ?_
  intro p e s m args below meth c s₁ B hml hv
  obtain ⟨rfl, hsz, hZ, hP, hK, hD0⟩ := hv
  have hx := B.exec
  have hb := B.bytes
  have hr := B.returns
  have hts := atoms_spec (ws := wyM_feed) B.pre
  have htx := fun w h => hts w (List.mem_cons_of_mem _ h)
  have hown : s.vm.findClass "ValueBenchModel" = some m.cls := findClass_of_methodNamed B.named
  have hlocks := B.notSynchronized
  subst hsz
  have hD := hD0.self (sz := s.heap.size)
  generalize hAe : va_A [(a0, .inr (5, [v7, v8, v9, v10, v11, v12, v13, v14, v15, v16, v17, v18, v19, v20, v21, v22, v23, v24, v25, v26, v27, v28, v29, v30, v31, v32, .ref a1, .int 0, v33, v34, v35, v36])), (a1, .inl (cT 0, 4096, .inl f37))] s.heap.size = A at hD hZ ⊢
  have hA : ∀ q : Nat, s.heap.size ≤ q → A q := fun q h => by rw [← hAe]; exact Or.inr h
  have hS : va_S A s.heap s.heap [] := va_S.rf
  have hP : va_P D xcl [(a0, .inr (5, [v7, v8, v9, v10, v11, v12, v13, v14, v15, v16, v17, v18, v19, v20, v21, v22, v23, v24, v25, v26, v27, v28, v29, v30, v31, v32, .ref a1, .int 0, v33, v34, v35, v36])), (a1, .inl (cT 0, 4096, .inl f37))] s.heap := hP
  have hl := lv_entry ([.ref a0, .int x2, .int x3, .int x4, .int x5, .int x6]) (n := 8) (Nat.le_of_ble_eq_true rfl)
  rw [lg_entry_eq]
  generalize (lg_sl ([.ref a0, .int x2, .int x3, .int x4, .int x5, .int x6]) ++ List.replicate (8 - (lg_sl ([.ref a0, .int x2, .int x3, .int x4, .int x5, .int x6])).length) Slot.unset).toArray = ls at hl ⊢
  have hl : lv_has ls 8 [(0, .ref a0), (1, .int x2), (2, .int x3), (3, .int x4), (4, .int x5), (5, .int x6)] := hl
  refine lv_aload_n hx hb dM_feed_0 rfl (lv_at hl 0 rfl) ?_
  refine lv_iconst (v := 0) hx hb dM_feed_1 (by decide) ?_
  refine va_put (D := D) (ci := 5) (v := .int 0) (ty := .int) (C := "ValueBenchModel") (T := TM) (N := 32) hx hb htx inM tyM tyM_ok nmM hown hK hP hD hS 0 rfl rfl 0 (by decide) (htx _ kw_5_87) (fun _ h9 => h9) rfl (by decide +kernel) rfl rfl (Nat.le_of_ble_eq_true rfl) dM_feed_2 (fun H locs hP hD hS => ?_)
  obtain ⟨hP, hD⟩ : xPD D xcl A [(a0, .inr (5, [.int 0, v8, v9, v10, v11, v12, v13, v14, v15, v16, v17, v18, v19, v20, v21, v22, v23, v24, v25, v26, v27, v28, v29, v30, v31, v32, .ref a1, .int 0, v33, v34, v35, v36])), (a1, .inl (cT 0, 4096, .inl f37))] H := ⟨hP, hD⟩
  refine lv_aload_n hx hb dM_feed_5 rfl (lv_at hl 0 rfl) ?_
  refine va_get (D := D) (ci := 5) (v := .int 0) (C := "ValueBenchModel") (T := TM) (N := 32) hx hb htx inM hown hK hP 0 rfl rfl 27 (by decide) (htx _ kw_5_114) (fun _ h9 => h9) rfl dM_feed_6 ?_
  refine lv_bipush (v := 20) hx hb dM_feed_9 (by decide) ?_
  refine lv_iadd hx hb dM_feed_11 ?_
  refine W.eq (g2 := F0 m 12 ls [.int 20]) rfl ?_
  refine lv_sipush (v := 4096) hx hb dM_feed_12 (by decide) ?_
  refine lv_icmp_le (tgt := 24) hx hb dM_feed_15 (by decide) (fun _ => ?_) (fun h => ((by revert h; decide : False)).elim)
  refine lv_iconst (v := 0) hx hb dM_feed_24 (by decide) ?_
  refine lv_istore (lv' := [(6, .int 0), (0, .ref a0), (1, .int x2), (2, .int x3), (3, .int x4), (4, .int x5), (5, .int x6)]) hx hb dM_feed_25 hl (by decide) rfl (fun ls hl => ?_)
  refine lv_iload hx hb dM_feed_27 (lv_at hl 0 rfl) ?_
  refine lv_bipush (v := 20) hx hb dM_feed_29 (by decide) ?_
  refine lv_icmp_ge (tgt := 121) hx hb dM_feed_31 (by decide) (fun h => ((by revert h; decide : False)).elim) (fun _ => ?_)
  refine lv_iload hx hb dM_feed_34 (lv_at hl 0 rfl) ?_
  refine lv_iconst (v := 4) hx hb dM_feed_36 (by decide) ?_
  refine lv_icmp_ge (tgt := 44) hx hb dM_feed_37 (by decide) (fun h => ((by revert h; decide : False)).elim) (fun _ => ?_)
  refine lv_iload_n hx hb dM_feed_40 rfl (lv_at hl 2 rfl) ?_
  refine lv_goto (tgt := 80) hx hb dM_feed_41 (by decide) ?_
  refine lv_istore (lv' := [(7, .int x2), (6, .int 0), (0, .ref a0), (1, .int x2), (2, .int x3), (3, .int x4), (4, .int x5), (5, .int x6)]) hx hb dM_feed_80 hl (by decide) rfl (fun ls hl => ?_)
  refine lv_aload_n hx hb dM_feed_82 rfl (lv_at hl 2 rfl) ?_
  refine va_get (D := D) (ci := 5) (v := .ref a1) (C := "ValueBenchModel") (T := TM) (N := 32) hx hb htx inM hown hK hP 0 rfl rfl 26 (by decide) (htx _ kw_5_113) (fun _ h9 => h9) rfl dM_feed_83 ?_
  refine lv_aload_n hx hb dM_feed_86 rfl (lv_at hl 2 rfl) ?_
  refine va_get (D := D) (ci := 5) (v := .int 0) (C := "ValueBenchModel") (T := TM) (N := 32) hx hb htx inM hown hK hP 0 rfl rfl 27 (by decide) (htx _ kw_5_114) (fun _ h9 => h9) rfl dM_feed_87 ?_
  refine lv_iload hx hb dM_feed_90 (lv_at hl 0 rfl) ?_
  refine lv_bipush (v := 24) hx hb dM_feed_92 (by decide) ?_
  refine lv_bipush (v := 8) hx hb dM_feed_94 (by decide) ?_
  refine lv_iload hx hb dM_feed_96 (lv_at hl 1 rfl) ?_
  refine lv_iconst (v := 4) hx hb dM_feed_98 (by decide) ?_
  refine lv_irem hx hb dM_feed_99 (by decide) ?_
  refine W.eq (g2 := F0 m 100 ls [.int 0, .int 8, .int 24, .int x2, .int 0, .ref a1]) rfl ?_
  refine lv_imul hx hb dM_feed_100 ?_
  refine W.eq (g2 := F0 m 101 ls [.int 0, .int 24, .int x2, .int 0, .ref a1]) rfl ?_
  refine lv_isub hx hb dM_feed_101 ?_
  refine W.eq (g2 := F0 m 102 ls [.int 24, .int x2, .int 0, .ref a1]) rfl ?_
  refine lv_ishr hx hb dM_feed_102 ?_
  refine lv_topi (fun y1 ey1 => ?_)
  refine lv_i2b hx hb dM_feed_103 rfl ?_
  refine lv_topi (fun y2 ey2 => ?_)
  refine va_bast hx hb hK hP hD hS 1 0 rfl rfl (show ¬ ((0 : Int32) < 0 ∨ 4096 ≤ (0 : Int32).toNatClampNeg) by decide) dM_feed_104 (fun H locs hP hD hS => ?_)
  obtain ⟨hP, hD⟩ : xPD D xcl A [(a0, .inr (5, [.int 0, v8, v9, v10, v11, v12, v13, v14, v15, v16, v17, v18, v19, v20, v21, v22, v23, v24, v25, v26, v27, v28, v29, v30, v31, v32, .ref a1, .int 0, v33, v34, v35, v36])), (a1, .inl (cT 0, 4096, .inl (upd f37 0 (vp_nar .byte y2))))] H := ⟨hP, hD⟩
  refine lv_aload_n hx hb dM_feed_105 rfl (lv_at hl 2 rfl) ?_
  refine lv_dup hx hb dM_feed_106 rfl ?_
  refine va_get (D := D) (ci := 5) (v := .int 0) (C := "ValueBenchModel") (T := TM) (N := 32) hx hb htx inM hown hK hP 0 rfl rfl 27 (by decide) (htx _ kw_5_114) (fun _ h9 => h9) rfl dM_feed_107 ?_
  refine lv_iconst (v := 1) hx hb dM_feed_110 (by decide) ?_
  refine lv_iadd hx hb dM_feed_111 ?_
  refine W.eq (g2 := F0 m 112 ls [.int 1, .ref a0]) rfl ?_
  refine va_put (D := D) (ci := 5) (v := .int 1) (ty := .int) (C := "ValueBenchModel") (T := TM) (N := 32) hx hb htx inM tyM tyM_ok nmM hown hK hP hD hS 0 rfl rfl 27 (by decide) (htx _ kw_5_114) (fun _ h9 => h9) rfl (by decide +kernel) rfl rfl (Nat.le_of_ble_eq_true rfl) dM_feed_112 (fun H locs hP hD hS => ?_)
  obtain ⟨hP, hD⟩ : xPD D xcl A [(a0, .inr (5, [.int 0, v8, v9, v10, v11, v12, v13, v14, v15, v16, v17, v18, v19, v20, v21, v22, v23, v24, v25, v26, v27, v28, v29, v30, v31, v32, .ref a1, .int 1, v33, v34, v35, v36])), (a1, .inl (cT 0, 4096, .inl (upd f37 0 (vp_nar .byte y2))))] H := ⟨hP, hD⟩
  refine lv_iinc (v := 1) (lv' := [(6, .int 1), (7, .int x2), (0, .ref a0), (1, .int x2), (2, .int x3), (3, .int x4), (4, .int x5), (5, .int x6)]) hx hb dM_feed_115 hl (k := 1) rfl (by decide) (by decide) rfl (fun ls hl => ?_)
  refine lv_goto (tgt := 27) hx hb dM_feed_118 (by decide) ?_
  refine lv_iload hx hb dM_feed_27 (lv_at hl 0 rfl) ?_
  refine lv_bipush (v := 20) hx hb dM_feed_29 (by decide) ?_
  refine lv_icmp_ge (tgt := 121) hx hb dM_feed_31 (by decide) (fun h => ((by revert h; decide : False)).elim) (fun _ => ?_)
  refine lv_iload hx hb dM_feed_34 (lv_at hl 0 rfl) ?_
  refine lv_iconst (v := 4) hx hb dM_feed_36 (by decide) ?_
  refine lv_icmp_ge (tgt := 44) hx hb dM_feed_37 (by decide) (fun h => ((by revert h; decide : False)).elim) (fun _ => ?_)
  refine lv_iload_n hx hb dM_feed_40 rfl (lv_at hl 3 rfl) ?_
  refine lv_goto (tgt := 80) hx hb dM_feed_41 (by decide) ?_
  refine lv_istore (lv' := [(7, .int x2), (6, .int 1), (0, .ref a0), (1, .int x2), (2, .int x3), (3, .int x4), (4, .int x5), (5, .int x6)]) hx hb dM_feed_80 hl (by decide) rfl (fun ls hl => ?_)
  refine lv_aload_n hx hb dM_feed_82 rfl (lv_at hl 2 rfl) ?_
  refine va_get (D := D) (ci := 5) (v := .ref a1) (C := "ValueBenchModel") (T := TM) (N := 32) hx hb htx inM hown hK hP 0 rfl rfl 26 (by decide) (htx _ kw_5_113) (fun _ h9 => h9) rfl dM_feed_83 ?_
  refine lv_aload_n hx hb dM_feed_86 rfl (lv_at hl 2 rfl) ?_
  refine va_get (D := D) (ci := 5) (v := .int 1) (C := "ValueBenchModel") (T := TM) (N := 32) hx hb htx inM hown hK hP 0 rfl rfl 27 (by decide) (htx _ kw_5_114) (fun _ h9 => h9) rfl dM_feed_87 ?_
  refine lv_iload hx hb dM_feed_90 (lv_at hl 0 rfl) ?_
  refine lv_bipush (v := 24) hx hb dM_feed_92 (by decide) ?_
  refine lv_bipush (v := 8) hx hb dM_feed_94 (by decide) ?_
  refine lv_iload hx hb dM_feed_96 (lv_at hl 1 rfl) ?_
  refine lv_iconst (v := 4) hx hb dM_feed_98 (by decide) ?_
  refine lv_irem hx hb dM_feed_99 (by decide) ?_
  refine W.eq (g2 := F0 m 100 ls [.int 1, .int 8, .int 24, .int x2, .int 1, .ref a1]) rfl ?_
  refine lv_imul hx hb dM_feed_100 ?_
  refine W.eq (g2 := F0 m 101 ls [.int 8, .int 24, .int x2, .int 1, .ref a1]) rfl ?_
  refine lv_isub hx hb dM_feed_101 ?_
  refine W.eq (g2 := F0 m 102 ls [.int 16, .int x2, .int 1, .ref a1]) rfl ?_
  refine lv_ishr hx hb dM_feed_102 ?_
  refine lv_topi (fun y3 ey3 => ?_)
  refine lv_i2b hx hb dM_feed_103 rfl ?_
  refine lv_topi (fun y4 ey4 => ?_)
  refine va_bast hx hb hK hP hD hS 1 0 rfl rfl (show ¬ ((1 : Int32) < 0 ∨ 4096 ≤ (1 : Int32).toNatClampNeg) by decide) dM_feed_104 (fun H locs hP hD hS => ?_)
  obtain ⟨hP, hD⟩ : xPD D xcl A [(a0, .inr (5, [.int 0, v8, v9, v10, v11, v12, v13, v14, v15, v16, v17, v18, v19, v20, v21, v22, v23, v24, v25, v26, v27, v28, v29, v30, v31, v32, .ref a1, .int 1, v33, v34, v35, v36])), (a1, .inl (cT 0, 4096, .inl (upd (upd f37 0 (vp_nar .byte y2)) 1 (vp_nar .byte y4))))] H := ⟨hP, hD⟩
  refine lv_aload_n hx hb dM_feed_105 rfl (lv_at hl 2 rfl) ?_
  refine lv_dup hx hb dM_feed_106 rfl ?_
  refine va_get (D := D) (ci := 5) (v := .int 1) (C := "ValueBenchModel") (T := TM) (N := 32) hx hb htx inM hown hK hP 0 rfl rfl 27 (by decide) (htx _ kw_5_114) (fun _ h9 => h9) rfl dM_feed_107 ?_
  refine lv_iconst (v := 1) hx hb dM_feed_110 (by decide) ?_
  refine lv_iadd hx hb dM_feed_111 ?_
  refine W.eq (g2 := F0 m 112 ls [.int 2, .ref a0]) rfl ?_
  refine va_put (D := D) (ci := 5) (v := .int 2) (ty := .int) (C := "ValueBenchModel") (T := TM) (N := 32) hx hb htx inM tyM tyM_ok nmM hown hK hP hD hS 0 rfl rfl 27 (by decide) (htx _ kw_5_114) (fun _ h9 => h9) rfl (by decide +kernel) rfl rfl (Nat.le_of_ble_eq_true rfl) dM_feed_112 (fun H locs hP hD hS => ?_)
  obtain ⟨hP, hD⟩ : xPD D xcl A [(a0, .inr (5, [.int 0, v8, v9, v10, v11, v12, v13, v14, v15, v16, v17, v18, v19, v20, v21, v22, v23, v24, v25, v26, v27, v28, v29, v30, v31, v32, .ref a1, .int 2, v33, v34, v35, v36])), (a1, .inl (cT 0, 4096, .inl (upd (upd f37 0 (vp_nar .byte y2)) 1 (vp_nar .byte y4))))] H := ⟨hP, hD⟩
  refine lv_iinc (v := 2) (lv' := [(6, .int 2), (7, .int x2), (0, .ref a0), (1, .int x2), (2, .int x3), (3, .int x4), (4, .int x5), (5, .int x6)]) hx hb dM_feed_115 hl (k := 1) rfl (by decide) (by decide) rfl (fun ls hl => ?_)
  refine lv_goto (tgt := 27) hx hb dM_feed_118 (by decide) ?_
  refine lv_iload hx hb dM_feed_27 (lv_at hl 0 rfl) ?_
  refine lv_bipush (v := 20) hx hb dM_feed_29 (by decide) ?_
  refine lv_icmp_ge (tgt := 121) hx hb dM_feed_31 (by decide) (fun h => ((by revert h; decide : False)).elim) (fun _ => ?_)
  refine lv_iload hx hb dM_feed_34 (lv_at hl 0 rfl) ?_
  refine lv_iconst (v := 4) hx hb dM_feed_36 (by decide) ?_
  refine lv_icmp_ge (tgt := 44) hx hb dM_feed_37 (by decide) (fun h => ((by revert h; decide : False)).elim) (fun _ => ?_)
  refine lv_iload_n hx hb dM_feed_40 rfl (lv_at hl 3 rfl) ?_
  refine lv_goto (tgt := 80) hx hb dM_feed_41 (by decide) ?_
  refine lv_istore (lv' := [(7, .int x2), (6, .int 2), (0, .ref a0), (1, .int x2), (2, .int x3), (3, .int x4), (4, .int x5), (5, .int x6)]) hx hb dM_feed_80 hl (by decide) rfl (fun ls hl => ?_)
  refine lv_aload_n hx hb dM_feed_82 rfl (lv_at hl 2 rfl) ?_
  refine va_get (D := D) (ci := 5) (v := .ref a1) (C := "ValueBenchModel") (T := TM) (N := 32) hx hb htx inM hown hK hP 0 rfl rfl 26 (by decide) (htx _ kw_5_113) (fun _ h9 => h9) rfl dM_feed_83 ?_
  refine lv_aload_n hx hb dM_feed_86 rfl (lv_at hl 2 rfl) ?_
  refine va_get (D := D) (ci := 5) (v := .int 2) (C := "ValueBenchModel") (T := TM) (N := 32) hx hb htx inM hown hK hP 0 rfl rfl 27 (by decide) (htx _ kw_5_114) (fun _ h9 => h9) rfl dM_feed_87 ?_
  refine lv_iload hx hb dM_feed_90 (lv_at hl 0 rfl) ?_
  refine lv_bipush (v := 24) hx hb dM_feed_92 (by decide) ?_
  refine lv_bipush (v := 8) hx hb dM_feed_94 (by decide) ?_
  refine lv_iload hx hb dM_feed_96 (lv_at hl 1 rfl) ?_
  refine lv_iconst (v := 4) hx hb dM_feed_98 (by decide) ?_
  refine lv_irem hx hb dM_feed_99 (by decide) ?_
  refine W.eq (g2 := F0 m 100 ls [.int 2, .int 8, .int 24, .int x2, .int 2, .ref a1]) rfl ?_
  refine lv_imul hx hb dM_feed_100 ?_
  refine W.eq (g2 := F0 m 101 ls [.int 16, .int 24, .int x2, .int 2, .ref a1]) rfl ?_
  refine lv_isub hx hb dM_feed_101 ?_
  refine W.eq (g2 := F0 m 102 ls [.int 8, .int x2, .int 2, .ref a1]) rfl ?_
  refine lv_ishr hx hb dM_feed_102 ?_
  refine lv_topi (fun y5 ey5 => ?_)
  refine lv_i2b hx hb dM_feed_103 rfl ?_
  refine lv_topi (fun y6 ey6 => ?_)
  refine va_bast hx hb hK hP hD hS 1 0 rfl rfl (show ¬ ((2 : Int32) < 0 ∨ 4096 ≤ (2 : Int32).toNatClampNeg) by decide) dM_feed_104 (fun H locs hP hD hS => ?_)
  obtain ⟨hP, hD⟩ : xPD D xcl A [(a0, .inr (5, [.int 0, v8, v9, v10, v11, v12, v13, v14, v15, v16, v17, v18, v19, v20, v21, v22, v23, v24, v25, v26, v27, v28, v29, v30, v31, v32, .ref a1, .int 2, v33, v34, v35, v36])), (a1, .inl (cT 0, 4096, .inl (upd (upd (upd f37 0 (vp_nar .byte y2)) 1 (vp_nar .byte y4)) 2 (vp_nar .byte y6))))] H := ⟨hP, hD⟩
  refine lv_aload_n hx hb dM_feed_105 rfl (lv_at hl 2 rfl) ?_
  refine lv_dup hx hb dM_feed_106 rfl ?_
  refine va_get (D := D) (ci := 5) (v := .int 2) (C := "ValueBenchModel") (T := TM) (N := 32) hx hb htx inM hown hK hP 0 rfl rfl 27 (by decide) (htx _ kw_5_114) (fun _ h9 => h9) rfl dM_feed_107 ?_
  refine lv_iconst (v := 1) hx hb dM_feed_110 (by decide) ?_
  refine lv_iadd hx hb dM_feed_111 ?_
  refine W.eq (g2 := F0 m 112 ls [.int 3, .ref a0]) rfl ?_
  refine va_put (D := D) (ci := 5) (v := .int 3) (ty := .int) (C := "ValueBenchModel") (T := TM) (N := 32) hx hb htx inM tyM tyM_ok nmM hown hK hP hD hS 0 rfl rfl 27 (by decide) (htx _ kw_5_114) (fun _ h9 => h9) rfl (by decide +kernel) rfl rfl (Nat.le_of_ble_eq_true rfl) dM_feed_112 (fun H locs hP hD hS => ?_)
  obtain ⟨hP, hD⟩ : xPD D xcl A [(a0, .inr (5, [.int 0, v8, v9, v10, v11, v12, v13, v14, v15, v16, v17, v18, v19, v20, v21, v22, v23, v24, v25, v26, v27, v28, v29, v30, v31, v32, .ref a1, .int 3, v33, v34, v35, v36])), (a1, .inl (cT 0, 4096, .inl (upd (upd (upd f37 0 (vp_nar .byte y2)) 1 (vp_nar .byte y4)) 2 (vp_nar .byte y6))))] H := ⟨hP, hD⟩
  refine lv_iinc (v := 3) (lv' := [(6, .int 3), (7, .int x2), (0, .ref a0), (1, .int x2), (2, .int x3), (3, .int x4), (4, .int x5), (5, .int x6)]) hx hb dM_feed_115 hl (k := 1) rfl (by decide) (by decide) rfl (fun ls hl => ?_)
  refine lv_goto (tgt := 27) hx hb dM_feed_118 (by decide) ?_
  refine lv_iload hx hb dM_feed_27 (lv_at hl 0 rfl) ?_
  refine lv_bipush (v := 20) hx hb dM_feed_29 (by decide) ?_
  refine lv_icmp_ge (tgt := 121) hx hb dM_feed_31 (by decide) (fun h => ((by revert h; decide : False)).elim) (fun _ => ?_)
  refine lv_iload hx hb dM_feed_34 (lv_at hl 0 rfl) ?_
  refine lv_iconst (v := 4) hx hb dM_feed_36 (by decide) ?_
  refine lv_icmp_ge (tgt := 44) hx hb dM_feed_37 (by decide) (fun h => ((by revert h; decide : False)).elim) (fun _ => ?_)
  refine lv_iload_n hx hb dM_feed_40 rfl (lv_at hl 3 rfl) ?_
  refine lv_goto (tgt := 80) hx hb dM_feed_41 (by decide) ?_
  refine lv_istore (lv' := [(7, .int x2), (6, .int 3), (0, .ref a0), (1, .int x2), (2, .int x3), (3, .int x4), (4, .int x5), (5, .int x6)]) hx hb dM_feed_80 hl (by decide) rfl (fun ls hl => ?_)
  refine lv_aload_n hx hb dM_feed_82 rfl (lv_at hl 2 rfl) ?_
  refine va_get (D := D) (ci := 5) (v := .ref a1) (C := "ValueBenchModel") (T := TM) (N := 32) hx hb htx inM hown hK hP 0 rfl rfl 26 (by decide) (htx _ kw_5_113) (fun _ h9 => h9) rfl dM_feed_83 ?_
  refine lv_aload_n hx hb dM_feed_86 rfl (lv_at hl 2 rfl) ?_
  refine va_get (D := D) (ci := 5) (v := .int 3) (C := "ValueBenchModel") (T := TM) (N := 32) hx hb htx inM hown hK hP 0 rfl rfl 27 (by decide) (htx _ kw_5_114) (fun _ h9 => h9) rfl dM_feed_87 ?_
  refine lv_iload hx hb dM_feed_90 (lv_at hl 0 rfl) ?_
  refine lv_bipush (v := 24) hx hb dM_feed_92 (by decide) ?_
  refine lv_bipush (v := 8) hx hb dM_feed_94 (by decide) ?_
  refine lv_iload hx hb dM_feed_96 (lv_at hl 1 rfl) ?_
  refine lv_iconst (v := 4) hx hb dM_feed_98 (by decide) ?_
  refine lv_irem hx hb dM_feed_99 (by decide) ?_
  refine W.eq (g2 := F0 m 100 ls [.int 3, .int 8, .int 24, .int x2, .int 3, .ref a1]) rfl ?_
  refine lv_imul hx hb dM_feed_100 ?_
  refine W.eq (g2 := F0 m 101 ls [.int 24, .int 24, .int x2, .int 3, .ref a1]) rfl ?_
  refine lv_isub hx hb dM_feed_101 ?_
  refine W.eq (g2 := F0 m 102 ls [.int 0, .int x2, .int 3, .ref a1]) rfl ?_
  refine lv_ishr hx hb dM_feed_102 ?_
  refine lv_topi (fun y7 ey7 => ?_)
  refine lv_i2b hx hb dM_feed_103 rfl ?_
  refine lv_topi (fun y8 ey8 => ?_)
  refine va_bast hx hb hK hP hD hS 1 0 rfl rfl (show ¬ ((3 : Int32) < 0 ∨ 4096 ≤ (3 : Int32).toNatClampNeg) by decide) dM_feed_104 (fun H locs hP hD hS => ?_)
  obtain ⟨hP, hD⟩ : xPD D xcl A [(a0, .inr (5, [.int 0, v8, v9, v10, v11, v12, v13, v14, v15, v16, v17, v18, v19, v20, v21, v22, v23, v24, v25, v26, v27, v28, v29, v30, v31, v32, .ref a1, .int 3, v33, v34, v35, v36])), (a1, .inl (cT 0, 4096, .inl (upd (upd (upd (upd f37 0 (vp_nar .byte y2)) 1 (vp_nar .byte y4)) 2 (vp_nar .byte y6)) 3 (vp_nar .byte y8))))] H := ⟨hP, hD⟩
  refine lv_aload_n hx hb dM_feed_105 rfl (lv_at hl 2 rfl) ?_
  refine lv_dup hx hb dM_feed_106 rfl ?_
  refine va_get (D := D) (ci := 5) (v := .int 3) (C := "ValueBenchModel") (T := TM) (N := 32) hx hb htx inM hown hK hP 0 rfl rfl 27 (by decide) (htx _ kw_5_114) (fun _ h9 => h9) rfl dM_feed_107 ?_
  refine lv_iconst (v := 1) hx hb dM_feed_110 (by decide) ?_
  refine lv_iadd hx hb dM_feed_111 ?_
  refine W.eq (g2 := F0 m 112 ls [.int 4, .ref a0]) rfl ?_
  refine va_put (D := D) (ci := 5) (v := .int 4) (ty := .int) (C := "ValueBenchModel") (T := TM) (N := 32) hx hb htx inM tyM tyM_ok nmM hown hK hP hD hS 0 rfl rfl 27 (by decide) (htx _ kw_5_114) (fun _ h9 => h9) rfl (by decide +kernel) rfl rfl (Nat.le_of_ble_eq_true rfl) dM_feed_112 (fun H locs hP hD hS => ?_)
  obtain ⟨hP, hD⟩ : xPD D xcl A [(a0, .inr (5, [.int 0, v8, v9, v10, v11, v12, v13, v14, v15, v16, v17, v18, v19, v20, v21, v22, v23, v24, v25, v26, v27, v28, v29, v30, v31, v32, .ref a1, .int 4, v33, v34, v35, v36])), (a1, .inl (cT 0, 4096, .inl (upd (upd (upd (upd f37 0 (vp_nar .byte y2)) 1 (vp_nar .byte y4)) 2 (vp_nar .byte y6)) 3 (vp_nar .byte y8))))] H := ⟨hP, hD⟩
  refine lv_iinc (v := 4) (lv' := [(6, .int 4), (7, .int x2), (0, .ref a0), (1, .int x2), (2, .int x3), (3, .int x4), (4, .int x5), (5, .int x6)]) hx hb dM_feed_115 hl (k := 1) rfl (by decide) (by decide) rfl (fun ls hl => ?_)
  refine lv_goto (tgt := 27) hx hb dM_feed_118 (by decide) ?_
  refine lv_iload hx hb dM_feed_27 (lv_at hl 0 rfl) ?_
  refine lv_bipush (v := 20) hx hb dM_feed_29 (by decide) ?_
  refine lv_icmp_ge (tgt := 121) hx hb dM_feed_31 (by decide) (fun h => ((by revert h; decide : False)).elim) (fun _ => ?_)
  refine lv_iload hx hb dM_feed_34 (lv_at hl 0 rfl) ?_
  refine lv_iconst (v := 4) hx hb dM_feed_36 (by decide) ?_
  refine lv_icmp_ge (tgt := 44) hx hb dM_feed_37 (by decide) (fun _ => ?_) (fun h => ((by revert h; decide : False)).elim)
  refine lv_iload hx hb dM_feed_44 (lv_at hl 0 rfl) ?_
  refine lv_bipush (v := 8) hx hb dM_feed_46 (by decide) ?_
  refine lv_icmp_ge (tgt := 55) hx hb dM_feed_48 (by decide) (fun h => ((by revert h; decide : False)).elim) (fun _ => ?_)
  refine lv_iload_n hx hb dM_feed_51 rfl (lv_at hl 4 rfl) ?_
  refine lv_goto (tgt := 80) hx hb dM_feed_52 (by decide) ?_
  refine lv_istore (lv' := [(7, .int x3), (6, .int 4), (0, .ref a0), (1, .int x2), (2, .int x3), (3, .int x4), (4, .int x5), (5, .int x6)]) hx hb dM_feed_80 hl (by decide) rfl (fun ls hl => ?_)
  refine lv_aload_n hx hb dM_feed_82 rfl (lv_at hl 2 rfl) ?_
  refine va_get (D := D) (ci := 5) (v := .ref a1) (C := "ValueBenchModel") (T := TM) (N := 32) hx hb htx inM hown hK hP 0 rfl rfl 26 (by decide) (htx _ kw_5_113) (fun _ h9 => h9) rfl dM_feed_83 ?_
  refine lv_aload_n hx hb dM_feed_86 rfl (lv_at hl 2 rfl) ?_
  refine va_get (D := D) (ci := 5) (v := .int 4) (C := "ValueBenchModel") (T := TM) (N := 32) hx hb htx inM hown hK hP 0 rfl rfl 27 (by decide) (htx _ kw_5_114) (fun _ h9 => h9) rfl dM_feed_87 ?_
  refine lv_iload hx hb dM_feed_90 (lv_at hl 0 rfl) ?_
  refine lv_bipush (v := 24) hx hb dM_feed_92 (by decide) ?_
  refine lv_bipush (v := 8) hx hb dM_feed_94 (by decide) ?_
  refine lv_iload hx hb dM_feed_96 (lv_at hl 1 rfl) ?_
  refine lv_iconst (v := 4) hx hb dM_feed_98 (by decide) ?_
  refine lv_irem hx hb dM_feed_99 (by decide) ?_
  refine W.eq (g2 := F0 m 100 ls [.int 0, .int 8, .int 24, .int x3, .int 4, .ref a1]) rfl ?_
  refine lv_imul hx hb dM_feed_100 ?_
  refine W.eq (g2 := F0 m 101 ls [.int 0, .int 24, .int x3, .int 4, .ref a1]) rfl ?_
  refine lv_isub hx hb dM_feed_101 ?_
  refine W.eq (g2 := F0 m 102 ls [.int 24, .int x3, .int 4, .ref a1]) rfl ?_
  refine lv_ishr hx hb dM_feed_102 ?_
  refine lv_topi (fun y9 ey9 => ?_)
  refine lv_i2b hx hb dM_feed_103 rfl ?_
  refine lv_topi (fun y10 ey10 => ?_)
  refine va_bast hx hb hK hP hD hS 1 0 rfl rfl (show ¬ ((4 : Int32) < 0 ∨ 4096 ≤ (4 : Int32).toNatClampNeg) by decide) dM_feed_104 (fun H locs hP hD hS => ?_)
  obtain ⟨hP, hD⟩ : xPD D xcl A [(a0, .inr (5, [.int 0, v8, v9, v10, v11, v12, v13, v14, v15, v16, v17, v18, v19, v20, v21, v22, v23, v24, v25, v26, v27, v28, v29, v30, v31, v32, .ref a1, .int 4, v33, v34, v35, v36])), (a1, .inl (cT 0, 4096, .inl (upd (upd (upd (upd (upd f37 0 (vp_nar .byte y2)) 1 (vp_nar .byte y4)) 2 (vp_nar .byte y6)) 3 (vp_nar .byte y8)) 4 (vp_nar .byte y10))))] H := ⟨hP, hD⟩
  refine lv_aload_n hx hb dM_feed_105 rfl (lv_at hl 2 rfl) ?_
  refine lv_dup hx hb dM_feed_106 rfl ?_
  refine va_get (D := D) (ci := 5) (v := .int 4) (C := "ValueBenchModel") (T := TM) (N := 32) hx hb htx inM hown hK hP 0 rfl rfl 27 (by decide) (htx _ kw_5_114) (fun _ h9 => h9) rfl dM_feed_107 ?_
  refine lv_iconst (v := 1) hx hb dM_feed_110 (by decide) ?_
  refine lv_iadd hx hb dM_feed_111 ?_
  refine W.eq (g2 := F0 m 112 ls [.int 5, .ref a0]) rfl ?_
  refine va_put (D := D) (ci := 5) (v := .int 5) (ty := .int) (C := "ValueBenchModel") (T := TM) (N := 32) hx hb htx inM tyM tyM_ok nmM hown hK hP hD hS 0 rfl rfl 27 (by decide) (htx _ kw_5_114) (fun _ h9 => h9) rfl (by decide +kernel) rfl rfl (Nat.le_of_ble_eq_true rfl) dM_feed_112 (fun H locs hP hD hS => ?_)
  obtain ⟨hP, hD⟩ : xPD D xcl A [(a0, .inr (5, [.int 0, v8, v9, v10, v11, v12, v13, v14, v15, v16, v17, v18, v19, v20, v21, v22, v23, v24, v25, v26, v27, v28, v29, v30, v31, v32, .ref a1, .int 5, v33, v34, v35, v36])), (a1, .inl (cT 0, 4096, .inl (upd (upd (upd (upd (upd f37 0 (vp_nar .byte y2)) 1 (vp_nar .byte y4)) 2 (vp_nar .byte y6)) 3 (vp_nar .byte y8)) 4 (vp_nar .byte y10))))] H := ⟨hP, hD⟩
  refine lv_iinc (v := 5) (lv' := [(6, .int 5), (7, .int x3), (0, .ref a0), (1, .int x2), (2, .int x3), (3, .int x4), (4, .int x5), (5, .int x6)]) hx hb dM_feed_115 hl (k := 1) rfl (by decide) (by decide) rfl (fun ls hl => ?_)
  refine lv_goto (tgt := 27) hx hb dM_feed_118 (by decide) ?_
  refine lv_iload hx hb dM_feed_27 (lv_at hl 0 rfl) ?_
  refine lv_bipush (v := 20) hx hb dM_feed_29 (by decide) ?_
  refine lv_icmp_ge (tgt := 121) hx hb dM_feed_31 (by decide) (fun h => ((by revert h; decide : False)).elim) (fun _ => ?_)
  refine lv_iload hx hb dM_feed_34 (lv_at hl 0 rfl) ?_
  refine lv_iconst (v := 4) hx hb dM_feed_36 (by decide) ?_
  refine lv_icmp_ge (tgt := 44) hx hb dM_feed_37 (by decide) (fun _ => ?_) (fun h => ((by revert h; decide : False)).elim)
  refine lv_iload hx hb dM_feed_44 (lv_at hl 0 rfl) ?_
  refine lv_bipush (v := 8) hx hb dM_feed_46 (by decide) ?_
  refine lv_icmp_ge (tgt := 55) hx hb dM_feed_48 (by decide) (fun h => ((by revert h; decide : False)).elim) (fun _ => ?_)
  refine lv_iload_n hx hb dM_feed_51 rfl (lv_at hl 4 rfl) ?_
  refine lv_goto (tgt := 80) hx hb dM_feed_52 (by decide) ?_
  refine lv_istore (lv' := [(7, .int x3), (6, .int 5), (0, .ref a0), (1, .int x2), (2, .int x3), (3, .int x4), (4, .int x5), (5, .int x6)]) hx hb dM_feed_80 hl (by decide) rfl (fun ls hl => ?_)
  refine lv_aload_n hx hb dM_feed_82 rfl (lv_at hl 2 rfl) ?_
  refine va_get (D := D) (ci := 5) (v := .ref a1) (C := "ValueBenchModel") (T := TM) (N := 32) hx hb htx inM hown hK hP 0 rfl rfl 26 (by decide) (htx _ kw_5_113) (fun _ h9 => h9) rfl dM_feed_83 ?_
  refine lv_aload_n hx hb dM_feed_86 rfl (lv_at hl 2 rfl) ?_
  refine va_get (D := D) (ci := 5) (v := .int 5) (C := "ValueBenchModel") (T := TM) (N := 32) hx hb htx inM hown hK hP 0 rfl rfl 27 (by decide) (htx _ kw_5_114) (fun _ h9 => h9) rfl dM_feed_87 ?_
  refine lv_iload hx hb dM_feed_90 (lv_at hl 0 rfl) ?_
  refine lv_bipush (v := 24) hx hb dM_feed_92 (by decide) ?_
  refine lv_bipush (v := 8) hx hb dM_feed_94 (by decide) ?_
  refine lv_iload hx hb dM_feed_96 (lv_at hl 1 rfl) ?_
  refine lv_iconst (v := 4) hx hb dM_feed_98 (by decide) ?_
  refine lv_irem hx hb dM_feed_99 (by decide) ?_
  refine W.eq (g2 := F0 m 100 ls [.int 1, .int 8, .int 24, .int x3, .int 5, .ref a1]) rfl ?_
  refine lv_imul hx hb dM_feed_100 ?_
  refine W.eq (g2 := F0 m 101 ls [.int 8, .int 24, .int x3, .int 5, .ref a1]) rfl ?_
  refine lv_isub hx hb dM_feed_101 ?_
  refine W.eq (g2 := F0 m 102 ls [.int 16, .int x3, .int 5, .ref a1]) rfl ?_
  refine lv_ishr hx hb dM_feed_102 ?_
  refine lv_topi (fun y11 ey11 => ?_)
  refine lv_i2b hx hb dM_feed_103 rfl ?_
  refine lv_topi (fun y12 ey12 => ?_)
  refine va_bast hx hb hK hP hD hS 1 0 rfl rfl (show ¬ ((5 : Int32) < 0 ∨ 4096 ≤ (5 : Int32).toNatClampNeg) by decide) dM_feed_104 (fun H locs hP hD hS => ?_)
  obtain ⟨hP, hD⟩ : xPD D xcl A [(a0, .inr (5, [.int 0, v8, v9, v10, v11, v12, v13, v14, v15, v16, v17, v18, v19, v20, v21, v22, v23, v24, v25, v26, v27, v28, v29, v30, v31, v32, .ref a1, .int 5, v33, v34, v35, v36])), (a1, .inl (cT 0, 4096, .inl (upd (upd (upd (upd (upd (upd f37 0 (vp_nar .byte y2)) 1 (vp_nar .byte y4)) 2 (vp_nar .byte y6)) 3 (vp_nar .byte y8)) 4 (vp_nar .byte y10)) 5 (vp_nar .byte y12))))] H := ⟨hP, hD⟩
  refine lv_aload_n hx hb dM_feed_105 rfl (lv_at hl 2 rfl) ?_
  refine lv_dup hx hb dM_feed_106 rfl ?_
  refine va_get (D := D) (ci := 5) (v := .int 5) (C := "ValueBenchModel") (T := TM) (N := 32) hx hb htx inM hown hK hP 0 rfl rfl 27 (by decide) (htx _ kw_5_114) (fun _ h9 => h9) rfl dM_feed_107 ?_
  refine lv_iconst (v := 1) hx hb dM_feed_110 (by decide) ?_
  refine lv_iadd hx hb dM_feed_111 ?_
  refine W.eq (g2 := F0 m 112 ls [.int 6, .ref a0]) rfl ?_
  refine va_put (D := D) (ci := 5) (v := .int 6) (ty := .int) (C := "ValueBenchModel") (T := TM) (N := 32) hx hb htx inM tyM tyM_ok nmM hown hK hP hD hS 0 rfl rfl 27 (by decide) (htx _ kw_5_114) (fun _ h9 => h9) rfl (by decide +kernel) rfl rfl (Nat.le_of_ble_eq_true rfl) dM_feed_112 (fun H locs hP hD hS => ?_)
  obtain ⟨hP, hD⟩ : xPD D xcl A [(a0, .inr (5, [.int 0, v8, v9, v10, v11, v12, v13, v14, v15, v16, v17, v18, v19, v20, v21, v22, v23, v24, v25, v26, v27, v28, v29, v30, v31, v32, .ref a1, .int 6, v33, v34, v35, v36])), (a1, .inl (cT 0, 4096, .inl (upd (upd (upd (upd (upd (upd f37 0 (vp_nar .byte y2)) 1 (vp_nar .byte y4)) 2 (vp_nar .byte y6)) 3 (vp_nar .byte y8)) 4 (vp_nar .byte y10)) 5 (vp_nar .byte y12))))] H := ⟨hP, hD⟩
  refine lv_iinc (v := 6) (lv' := [(6, .int 6), (7, .int x3), (0, .ref a0), (1, .int x2), (2, .int x3), (3, .int x4), (4, .int x5), (5, .int x6)]) hx hb dM_feed_115 hl (k := 1) rfl (by decide) (by decide) rfl (fun ls hl => ?_)
  refine lv_goto (tgt := 27) hx hb dM_feed_118 (by decide) ?_
  refine lv_iload hx hb dM_feed_27 (lv_at hl 0 rfl) ?_
  refine lv_bipush (v := 20) hx hb dM_feed_29 (by decide) ?_
  refine lv_icmp_ge (tgt := 121) hx hb dM_feed_31 (by decide) (fun h => ((by revert h; decide : False)).elim) (fun _ => ?_)
  refine lv_iload hx hb dM_feed_34 (lv_at hl 0 rfl) ?_
  refine lv_iconst (v := 4) hx hb dM_feed_36 (by decide) ?_
  refine lv_icmp_ge (tgt := 44) hx hb dM_feed_37 (by decide) (fun _ => ?_) (fun h => ((by revert h; decide : False)).elim)
  refine lv_iload hx hb dM_feed_44 (lv_at hl 0 rfl) ?_
  refine lv_bipush (v := 8) hx hb dM_feed_46 (by decide) ?_
  refine lv_icmp_ge (tgt := 55) hx hb dM_feed_48 (by decide) (fun h => ((by revert h; decide : False)).elim) (fun _ => ?_)
  refine lv_iload_n hx hb dM_feed_51 rfl (lv_at hl 4 rfl) ?_
  refine lv_goto (tgt := 80) hx hb dM_feed_52 (by decide) ?_
  refine lv_istore (lv' := [(7, .int x3), (6, .int 6), (0, .ref a0), (1, .int x2), (2, .int x3), (3, .int x4), (4, .int x5), (5, .int x6)]) hx hb dM_feed_80 hl (by decide) rfl (fun ls hl => ?_)
  refine lv_aload_n hx hb dM_feed_82 rfl (lv_at hl 2 rfl) ?_
  refine va_get (D := D) (ci := 5) (v := .ref a1) (C := "ValueBenchModel") (T := TM) (N := 32) hx hb htx inM hown hK hP 0 rfl rfl 26 (by decide) (htx _ kw_5_113) (fun _ h9 => h9) rfl dM_feed_83 ?_
  refine lv_aload_n hx hb dM_feed_86 rfl (lv_at hl 2 rfl) ?_
  refine va_get (D := D) (ci := 5) (v := .int 6) (C := "ValueBenchModel") (T := TM) (N := 32) hx hb htx inM hown hK hP 0 rfl rfl 27 (by decide) (htx _ kw_5_114) (fun _ h9 => h9) rfl dM_feed_87 ?_
  refine lv_iload hx hb dM_feed_90 (lv_at hl 0 rfl) ?_
  refine lv_bipush (v := 24) hx hb dM_feed_92 (by decide) ?_
  refine lv_bipush (v := 8) hx hb dM_feed_94 (by decide) ?_
  refine lv_iload hx hb dM_feed_96 (lv_at hl 1 rfl) ?_
  refine lv_iconst (v := 4) hx hb dM_feed_98 (by decide) ?_
  refine lv_irem hx hb dM_feed_99 (by decide) ?_
  refine W.eq (g2 := F0 m 100 ls [.int 2, .int 8, .int 24, .int x3, .int 6, .ref a1]) rfl ?_
  refine lv_imul hx hb dM_feed_100 ?_
  refine W.eq (g2 := F0 m 101 ls [.int 16, .int 24, .int x3, .int 6, .ref a1]) rfl ?_
  refine lv_isub hx hb dM_feed_101 ?_
  refine W.eq (g2 := F0 m 102 ls [.int 8, .int x3, .int 6, .ref a1]) rfl ?_
  refine lv_ishr hx hb dM_feed_102 ?_
  refine lv_topi (fun y13 ey13 => ?_)
  refine lv_i2b hx hb dM_feed_103 rfl ?_
  refine lv_topi (fun y14 ey14 => ?_)
  refine va_bast hx hb hK hP hD hS 1 0 rfl rfl (show ¬ ((6 : Int32) < 0 ∨ 4096 ≤ (6 : Int32).toNatClampNeg) by decide) dM_feed_104 (fun H locs hP hD hS => ?_)
  obtain ⟨hP, hD⟩ : xPD D xcl A [(a0, .inr (5, [.int 0, v8, v9, v10, v11, v12, v13, v14, v15, v16, v17, v18, v19, v20, v21, v22, v23, v24, v25, v26, v27, v28, v29, v30, v31, v32, .ref a1, .int 6, v33, v34, v35, v36])), (a1, .inl (cT 0, 4096, .inl (upd (upd (upd (upd (upd (upd (upd f37 0 (vp_nar .byte y2)) 1 (vp_nar .byte y4)) 2 (vp_nar .byte y6)) 3 (vp_nar .byte y8)) 4 (vp_nar .byte y10)) 5 (vp_nar .byte y12)) 6 (vp_nar .byte y14))))] H := ⟨hP, hD⟩
  refine lv_aload_n hx hb dM_feed_105 rfl (lv_at hl 2 rfl) ?_
  refine lv_dup hx hb dM_feed_106 rfl ?_
  refine va_get (D := D) (ci := 5) (v := .int 6) (C := "ValueBenchModel") (T := TM) (N := 32) hx hb htx inM hown hK hP 0 rfl rfl 27 (by decide) (htx _ kw_5_114) (fun _ h9 => h9) rfl dM_feed_107 ?_
  refine lv_iconst (v := 1) hx hb dM_feed_110 (by decide) ?_
  refine lv_iadd hx hb dM_feed_111 ?_
  refine W.eq (g2 := F0 m 112 ls [.int 7, .ref a0]) rfl ?_
  refine va_put (D := D) (ci := 5) (v := .int 7) (ty := .int) (C := "ValueBenchModel") (T := TM) (N := 32) hx hb htx inM tyM tyM_ok nmM hown hK hP hD hS 0 rfl rfl 27 (by decide) (htx _ kw_5_114) (fun _ h9 => h9) rfl (by decide +kernel) rfl rfl (Nat.le_of_ble_eq_true rfl) dM_feed_112 (fun H locs hP hD hS => ?_)
  obtain ⟨hP, hD⟩ : xPD D xcl A [(a0, .inr (5, [.int 0, v8, v9, v10, v11, v12, v13, v14, v15, v16, v17, v18, v19, v20, v21, v22, v23, v24, v25, v26, v27, v28, v29, v30, v31, v32, .ref a1, .int 7, v33, v34, v35, v36])), (a1, .inl (cT 0, 4096, .inl (upd (upd (upd (upd (upd (upd (upd f37 0 (vp_nar .byte y2)) 1 (vp_nar .byte y4)) 2 (vp_nar .byte y6)) 3 (vp_nar .byte y8)) 4 (vp_nar .byte y10)) 5 (vp_nar .byte y12)) 6 (vp_nar .byte y14))))] H := ⟨hP, hD⟩
  refine lv_iinc (v := 7) (lv' := [(6, .int 7), (7, .int x3), (0, .ref a0), (1, .int x2), (2, .int x3), (3, .int x4), (4, .int x5), (5, .int x6)]) hx hb dM_feed_115 hl (k := 1) rfl (by decide) (by decide) rfl (fun ls hl => ?_)
  refine lv_goto (tgt := 27) hx hb dM_feed_118 (by decide) ?_
  refine lv_iload hx hb dM_feed_27 (lv_at hl 0 rfl) ?_
  refine lv_bipush (v := 20) hx hb dM_feed_29 (by decide) ?_
  refine lv_icmp_ge (tgt := 121) hx hb dM_feed_31 (by decide) (fun h => ((by revert h; decide : False)).elim) (fun _ => ?_)
  refine lv_iload hx hb dM_feed_34 (lv_at hl 0 rfl) ?_
  refine lv_iconst (v := 4) hx hb dM_feed_36 (by decide) ?_
  refine lv_icmp_ge (tgt := 44) hx hb dM_feed_37 (by decide) (fun _ => ?_) (fun h => ((by revert h; decide : False)).elim)
  refine lv_iload hx hb dM_feed_44 (lv_at hl 0 rfl) ?_
  refine lv_bipush (v := 8) hx hb dM_feed_46 (by decide) ?_
  refine lv_icmp_ge (tgt := 55) hx hb dM_feed_48 (by decide) (fun h => ((by revert h; decide : False)).elim) (fun _ => ?_)
  refine lv_iload_n hx hb dM_feed_51 rfl (lv_at hl 4 rfl) ?_
  refine lv_goto (tgt := 80) hx hb dM_feed_52 (by decide) ?_
  refine lv_istore (lv' := [(7, .int x3), (6, .int 7), (0, .ref a0), (1, .int x2), (2, .int x3), (3, .int x4), (4, .int x5), (5, .int x6)]) hx hb dM_feed_80 hl (by decide) rfl (fun ls hl => ?_)
  refine lv_aload_n hx hb dM_feed_82 rfl (lv_at hl 2 rfl) ?_
  refine va_get (D := D) (ci := 5) (v := .ref a1) (C := "ValueBenchModel") (T := TM) (N := 32) hx hb htx inM hown hK hP 0 rfl rfl 26 (by decide) (htx _ kw_5_113) (fun _ h9 => h9) rfl dM_feed_83 ?_
  refine lv_aload_n hx hb dM_feed_86 rfl (lv_at hl 2 rfl) ?_
  refine va_get (D := D) (ci := 5) (v := .int 7) (C := "ValueBenchModel") (T := TM) (N := 32) hx hb htx inM hown hK hP 0 rfl rfl 27 (by decide) (htx _ kw_5_114) (fun _ h9 => h9) rfl dM_feed_87 ?_
  refine lv_iload hx hb dM_feed_90 (lv_at hl 0 rfl) ?_
  refine lv_bipush (v := 24) hx hb dM_feed_92 (by decide) ?_
  refine lv_bipush (v := 8) hx hb dM_feed_94 (by decide) ?_
  refine lv_iload hx hb dM_feed_96 (lv_at hl 1 rfl) ?_
  refine lv_iconst (v := 4) hx hb dM_feed_98 (by decide) ?_
  refine lv_irem hx hb dM_feed_99 (by decide) ?_
  refine W.eq (g2 := F0 m 100 ls [.int 3, .int 8, .int 24, .int x3, .int 7, .ref a1]) rfl ?_
  refine lv_imul hx hb dM_feed_100 ?_
  refine W.eq (g2 := F0 m 101 ls [.int 24, .int 24, .int x3, .int 7, .ref a1]) rfl ?_
  refine lv_isub hx hb dM_feed_101 ?_
  refine W.eq (g2 := F0 m 102 ls [.int 0, .int x3, .int 7, .ref a1]) rfl ?_
  refine lv_ishr hx hb dM_feed_102 ?_
  refine lv_topi (fun y15 ey15 => ?_)
  refine lv_i2b hx hb dM_feed_103 rfl ?_
  refine lv_topi (fun y16 ey16 => ?_)
  refine va_bast hx hb hK hP hD hS 1 0 rfl rfl (show ¬ ((7 : Int32) < 0 ∨ 4096 ≤ (7 : Int32).toNatClampNeg) by decide) dM_feed_104 (fun H locs hP hD hS => ?_)
  obtain ⟨hP, hD⟩ : xPD D xcl A [(a0, .inr (5, [.int 0, v8, v9, v10, v11, v12, v13, v14, v15, v16, v17, v18, v19, v20, v21, v22, v23, v24, v25, v26, v27, v28, v29, v30, v31, v32, .ref a1, .int 7, v33, v34, v35, v36])), (a1, .inl (cT 0, 4096, .inl (upd (upd (upd (upd (upd (upd (upd (upd f37 0 (vp_nar .byte y2)) 1 (vp_nar .byte y4)) 2 (vp_nar .byte y6)) 3 (vp_nar .byte y8)) 4 (vp_nar .byte y10)) 5 (vp_nar .byte y12)) 6 (vp_nar .byte y14)) 7 (vp_nar .byte y16))))] H := ⟨hP, hD⟩
  refine lv_aload_n hx hb dM_feed_105 rfl (lv_at hl 2 rfl) ?_
  refine lv_dup hx hb dM_feed_106 rfl ?_
  refine va_get (D := D) (ci := 5) (v := .int 7) (C := "ValueBenchModel") (T := TM) (N := 32) hx hb htx inM hown hK hP 0 rfl rfl 27 (by decide) (htx _ kw_5_114) (fun _ h9 => h9) rfl dM_feed_107 ?_
  refine lv_iconst (v := 1) hx hb dM_feed_110 (by decide) ?_
  refine lv_iadd hx hb dM_feed_111 ?_
  refine W.eq (g2 := F0 m 112 ls [.int 8, .ref a0]) rfl ?_
  refine va_put (D := D) (ci := 5) (v := .int 8) (ty := .int) (C := "ValueBenchModel") (T := TM) (N := 32) hx hb htx inM tyM tyM_ok nmM hown hK hP hD hS 0 rfl rfl 27 (by decide) (htx _ kw_5_114) (fun _ h9 => h9) rfl (by decide +kernel) rfl rfl (Nat.le_of_ble_eq_true rfl) dM_feed_112 (fun H locs hP hD hS => ?_)
  obtain ⟨hP, hD⟩ : xPD D xcl A [(a0, .inr (5, [.int 0, v8, v9, v10, v11, v12, v13, v14, v15, v16, v17, v18, v19, v20, v21, v22, v23, v24, v25, v26, v27, v28, v29, v30, v31, v32, .ref a1, .int 8, v33, v34, v35, v36])), (a1, .inl (cT 0, 4096, .inl (upd (upd (upd (upd (upd (upd (upd (upd f37 0 (vp_nar .byte y2)) 1 (vp_nar .byte y4)) 2 (vp_nar .byte y6)) 3 (vp_nar .byte y8)) 4 (vp_nar .byte y10)) 5 (vp_nar .byte y12)) 6 (vp_nar .byte y14)) 7 (vp_nar .byte y16))))] H := ⟨hP, hD⟩
  refine lv_iinc (v := 8) (lv' := [(6, .int 8), (7, .int x3), (0, .ref a0), (1, .int x2), (2, .int x3), (3, .int x4), (4, .int x5), (5, .int x6)]) hx hb dM_feed_115 hl (k := 1) rfl (by decide) (by decide) rfl (fun ls hl => ?_)
  refine lv_goto (tgt := 27) hx hb dM_feed_118 (by decide) ?_
  refine lv_iload hx hb dM_feed_27 (lv_at hl 0 rfl) ?_
  refine lv_bipush (v := 20) hx hb dM_feed_29 (by decide) ?_
  refine lv_icmp_ge (tgt := 121) hx hb dM_feed_31 (by decide) (fun h => ((by revert h; decide : False)).elim) (fun _ => ?_)
  refine lv_iload hx hb dM_feed_34 (lv_at hl 0 rfl) ?_
  refine lv_iconst (v := 4) hx hb dM_feed_36 (by decide) ?_
  refine lv_icmp_ge (tgt := 44) hx hb dM_feed_37 (by decide) (fun _ => ?_) (fun h => ((by revert h; decide : False)).elim)
  refine lv_iload hx hb dM_feed_44 (lv_at hl 0 rfl) ?_
  refine lv_bipush (v := 8) hx hb dM_feed_46 (by decide) ?_
  refine lv_icmp_ge (tgt := 55) hx hb dM_feed_48 (by decide) (fun _ => ?_) (fun h => ((by revert h; decide : False)).elim)
  refine lv_iload hx hb dM_feed_55 (lv_at hl 0 rfl) ?_
  refine lv_bipush (v := 12) hx hb dM_feed_57 (by decide) ?_
  refine lv_icmp_ge (tgt := 66) hx hb dM_feed_59 (by decide) (fun h => ((by revert h; decide : False)).elim) (fun _ => ?_)
  refine lv_iload_n hx hb dM_feed_62 rfl (lv_at hl 5 rfl) ?_
  refine lv_goto (tgt := 80) hx hb dM_feed_63 (by decide) ?_
  refine lv_istore (lv' := [(7, .int x4), (6, .int 8), (0, .ref a0), (1, .int x2), (2, .int x3), (3, .int x4), (4, .int x5), (5, .int x6)]) hx hb dM_feed_80 hl (by decide) rfl (fun ls hl => ?_)
  refine lv_aload_n hx hb dM_feed_82 rfl (lv_at hl 2 rfl) ?_
  refine va_get (D := D) (ci := 5) (v := .ref a1) (C := "ValueBenchModel") (T := TM) (N := 32) hx hb htx inM hown hK hP 0 rfl rfl 26 (by decide) (htx _ kw_5_113) (fun _ h9 => h9) rfl dM_feed_83 ?_
  refine lv_aload_n hx hb dM_feed_86 rfl (lv_at hl 2 rfl) ?_
  refine va_get (D := D) (ci := 5) (v := .int 8) (C := "ValueBenchModel") (T := TM) (N := 32) hx hb htx inM hown hK hP 0 rfl rfl 27 (by decide) (htx _ kw_5_114) (fun _ h9 => h9) rfl dM_feed_87 ?_
  refine lv_iload hx hb dM_feed_90 (lv_at hl 0 rfl) ?_
  refine lv_bipush (v := 24) hx hb dM_feed_92 (by decide) ?_
  refine lv_bipush (v := 8) hx hb dM_feed_94 (by decide) ?_
  refine lv_iload hx hb dM_feed_96 (lv_at hl 1 rfl) ?_
  refine lv_iconst (v := 4) hx hb dM_feed_98 (by decide) ?_
  refine lv_irem hx hb dM_feed_99 (by decide) ?_
  refine W.eq (g2 := F0 m 100 ls [.int 0, .int 8, .int 24, .int x4, .int 8, .ref a1]) rfl ?_
  refine lv_imul hx hb dM_feed_100 ?_
  refine W.eq (g2 := F0 m 101 ls [.int 0, .int 24, .int x4, .int 8, .ref a1]) rfl ?_
  refine lv_isub hx hb dM_feed_101 ?_
  refine W.eq (g2 := F0 m 102 ls [.int 24, .int x4, .int 8, .ref a1]) rfl ?_
  refine lv_ishr hx hb dM_feed_102 ?_
  refine lv_topi (fun y17 ey17 => ?_)
  refine lv_i2b hx hb dM_feed_103 rfl ?_
  refine lv_topi (fun y18 ey18 => ?_)
  refine va_bast hx hb hK hP hD hS 1 0 rfl rfl (show ¬ ((8 : Int32) < 0 ∨ 4096 ≤ (8 : Int32).toNatClampNeg) by decide) dM_feed_104 (fun H locs hP hD hS => ?_)
  obtain ⟨hP, hD⟩ : xPD D xcl A [(a0, .inr (5, [.int 0, v8, v9, v10, v11, v12, v13, v14, v15, v16, v17, v18, v19, v20, v21, v22, v23, v24, v25, v26, v27, v28, v29, v30, v31, v32, .ref a1, .int 8, v33, v34, v35, v36])), (a1, .inl (cT 0, 4096, .inl (upd (upd (upd (upd (upd (upd (upd (upd (upd f37 0 (vp_nar .byte y2)) 1 (vp_nar .byte y4)) 2 (vp_nar .byte y6)) 3 (vp_nar .byte y8)) 4 (vp_nar .byte y10)) 5 (vp_nar .byte y12)) 6 (vp_nar .byte y14)) 7 (vp_nar .byte y16)) 8 (vp_nar .byte y18))))] H := ⟨hP, hD⟩
  refine lv_aload_n hx hb dM_feed_105 rfl (lv_at hl 2 rfl) ?_
  refine lv_dup hx hb dM_feed_106 rfl ?_
  refine va_get (D := D) (ci := 5) (v := .int 8) (C := "ValueBenchModel") (T := TM) (N := 32) hx hb htx inM hown hK hP 0 rfl rfl 27 (by decide) (htx _ kw_5_114) (fun _ h9 => h9) rfl dM_feed_107 ?_
  refine lv_iconst (v := 1) hx hb dM_feed_110 (by decide) ?_
  refine lv_iadd hx hb dM_feed_111 ?_
  refine W.eq (g2 := F0 m 112 ls [.int 9, .ref a0]) rfl ?_
  refine va_put (D := D) (ci := 5) (v := .int 9) (ty := .int) (C := "ValueBenchModel") (T := TM) (N := 32) hx hb htx inM tyM tyM_ok nmM hown hK hP hD hS 0 rfl rfl 27 (by decide) (htx _ kw_5_114) (fun _ h9 => h9) rfl (by decide +kernel) rfl rfl (Nat.le_of_ble_eq_true rfl) dM_feed_112 (fun H locs hP hD hS => ?_)
  obtain ⟨hP, hD⟩ : xPD D xcl A [(a0, .inr (5, [.int 0, v8, v9, v10, v11, v12, v13, v14, v15, v16, v17, v18, v19, v20, v21, v22, v23, v24, v25, v26, v27, v28, v29, v30, v31, v32, .ref a1, .int 9, v33, v34, v35, v36])), (a1, .inl (cT 0, 4096, .inl (upd (upd (upd (upd (upd (upd (upd (upd (upd f37 0 (vp_nar .byte y2)) 1 (vp_nar .byte y4)) 2 (vp_nar .byte y6)) 3 (vp_nar .byte y8)) 4 (vp_nar .byte y10)) 5 (vp_nar .byte y12)) 6 (vp_nar .byte y14)) 7 (vp_nar .byte y16)) 8 (vp_nar .byte y18))))] H := ⟨hP, hD⟩
  refine lv_iinc (v := 9) (lv' := [(6, .int 9), (7, .int x4), (0, .ref a0), (1, .int x2), (2, .int x3), (3, .int x4), (4, .int x5), (5, .int x6)]) hx hb dM_feed_115 hl (k := 1) rfl (by decide) (by decide) rfl (fun ls hl => ?_)
  refine lv_goto (tgt := 27) hx hb dM_feed_118 (by decide) ?_
  refine lv_iload hx hb dM_feed_27 (lv_at hl 0 rfl) ?_
  refine lv_bipush (v := 20) hx hb dM_feed_29 (by decide) ?_
  refine lv_icmp_ge (tgt := 121) hx hb dM_feed_31 (by decide) (fun h => ((by revert h; decide : False)).elim) (fun _ => ?_)
  refine lv_iload hx hb dM_feed_34 (lv_at hl 0 rfl) ?_
  refine lv_iconst (v := 4) hx hb dM_feed_36 (by decide) ?_
  refine lv_icmp_ge (tgt := 44) hx hb dM_feed_37 (by decide) (fun _ => ?_) (fun h => ((by revert h; decide : False)).elim)
  refine lv_iload hx hb dM_feed_44 (lv_at hl 0 rfl) ?_
  refine lv_bipush (v := 8) hx hb dM_feed_46 (by decide) ?_
  refine lv_icmp_ge (tgt := 55) hx hb dM_feed_48 (by decide) (fun _ => ?_) (fun h => ((by revert h; decide : False)).elim)
  refine lv_iload hx hb dM_feed_55 (lv_at hl 0 rfl) ?_
  refine lv_bipush (v := 12) hx hb dM_feed_57 (by decide) ?_
  refine lv_icmp_ge (tgt := 66) hx hb dM_feed_59 (by decide) (fun h => ((by revert h; decide : False)).elim) (fun _ => ?_)
  refine lv_iload_n hx hb dM_feed_62 rfl (lv_at hl 5 rfl) ?_
  refine lv_goto (tgt := 80) hx hb dM_feed_63 (by decide) ?_
  refine lv_istore (lv' := [(7, .int x4), (6, .int 9), (0, .ref a0), (1, .int x2), (2, .int x3), (3, .int x4), (4, .int x5), (5, .int x6)]) hx hb dM_feed_80 hl (by decide) rfl (fun ls hl => ?_)
  refine lv_aload_n hx hb dM_feed_82 rfl (lv_at hl 2 rfl) ?_
  refine va_get (D := D) (ci := 5) (v := .ref a1) (C := "ValueBenchModel") (T := TM) (N := 32) hx hb htx inM hown hK hP 0 rfl rfl 26 (by decide) (htx _ kw_5_113) (fun _ h9 => h9) rfl dM_feed_83 ?_
  refine lv_aload_n hx hb dM_feed_86 rfl (lv_at hl 2 rfl) ?_
  refine va_get (D := D) (ci := 5) (v := .int 9) (C := "ValueBenchModel") (T := TM) (N := 32) hx hb htx inM hown hK hP 0 rfl rfl 27 (by decide) (htx _ kw_5_114) (fun _ h9 => h9) rfl dM_feed_87 ?_
  refine lv_iload hx hb dM_feed_90 (lv_at hl 0 rfl) ?_
  refine lv_bipush (v := 24) hx hb dM_feed_92 (by decide) ?_
  refine lv_bipush (v := 8) hx hb dM_feed_94 (by decide) ?_
  refine lv_iload hx hb dM_feed_96 (lv_at hl 1 rfl) ?_
  refine lv_iconst (v := 4) hx hb dM_feed_98 (by decide) ?_
  refine lv_irem hx hb dM_feed_99 (by decide) ?_
  refine W.eq (g2 := F0 m 100 ls [.int 1, .int 8, .int 24, .int x4, .int 9, .ref a1]) rfl ?_
  refine lv_imul hx hb dM_feed_100 ?_
  refine W.eq (g2 := F0 m 101 ls [.int 8, .int 24, .int x4, .int 9, .ref a1]) rfl ?_
  refine lv_isub hx hb dM_feed_101 ?_
  refine W.eq (g2 := F0 m 102 ls [.int 16, .int x4, .int 9, .ref a1]) rfl ?_
  refine lv_ishr hx hb dM_feed_102 ?_
  refine lv_topi (fun y19 ey19 => ?_)
  refine lv_i2b hx hb dM_feed_103 rfl ?_
  refine lv_topi (fun y20 ey20 => ?_)
  refine va_bast hx hb hK hP hD hS 1 0 rfl rfl (show ¬ ((9 : Int32) < 0 ∨ 4096 ≤ (9 : Int32).toNatClampNeg) by decide) dM_feed_104 (fun H locs hP hD hS => ?_)
  obtain ⟨hP, hD⟩ : xPD D xcl A [(a0, .inr (5, [.int 0, v8, v9, v10, v11, v12, v13, v14, v15, v16, v17, v18, v19, v20, v21, v22, v23, v24, v25, v26, v27, v28, v29, v30, v31, v32, .ref a1, .int 9, v33, v34, v35, v36])), (a1, .inl (cT 0, 4096, .inl (upd (upd (upd (upd (upd (upd (upd (upd (upd (upd f37 0 (vp_nar .byte y2)) 1 (vp_nar .byte y4)) 2 (vp_nar .byte y6)) 3 (vp_nar .byte y8)) 4 (vp_nar .byte y10)) 5 (vp_nar .byte y12)) 6 (vp_nar .byte y14)) 7 (vp_nar .byte y16)) 8 (vp_nar .byte y18)) 9 (vp_nar .byte y20))))] H := ⟨hP, hD⟩
  refine lv_aload_n hx hb dM_feed_105 rfl (lv_at hl 2 rfl) ?_
  refine lv_dup hx hb dM_feed_106 rfl ?_
  refine va_get (D := D) (ci := 5) (v := .int 9) (C := "ValueBenchModel") (T := TM) (N := 32) hx hb htx inM hown hK hP 0 rfl rfl 27 (by decide) (htx _ kw_5_114) (fun _ h9 => h9) rfl dM_feed_107 ?_
  refine lv_iconst (v := 1) hx hb dM_feed_110 (by decide) ?_
  refine lv_iadd hx hb dM_feed_111 ?_
  refine W.eq (g2 := F0 m 112 ls [.int 10, .ref a0]) rfl ?_
  refine va_put (D := D) (ci := 5) (v := .int 10) (ty := .int) (C := "ValueBenchModel") (T := TM) (N := 32) hx hb htx inM tyM tyM_ok nmM hown hK hP hD hS 0 rfl rfl 27 (by decide) (htx _ kw_5_114) (fun _ h9 => h9) rfl (by decide +kernel) rfl rfl (Nat.le_of_ble_eq_true rfl) dM_feed_112 (fun H locs hP hD hS => ?_)
  obtain ⟨hP, hD⟩ : xPD D xcl A [(a0, .inr (5, [.int 0, v8, v9, v10, v11, v12, v13, v14, v15, v16, v17, v18, v19, v20, v21, v22, v23, v24, v25, v26, v27, v28, v29, v30, v31, v32, .ref a1, .int 10, v33, v34, v35, v36])), (a1, .inl (cT 0, 4096, .inl (upd (upd (upd (upd (upd (upd (upd (upd (upd (upd f37 0 (vp_nar .byte y2)) 1 (vp_nar .byte y4)) 2 (vp_nar .byte y6)) 3 (vp_nar .byte y8)) 4 (vp_nar .byte y10)) 5 (vp_nar .byte y12)) 6 (vp_nar .byte y14)) 7 (vp_nar .byte y16)) 8 (vp_nar .byte y18)) 9 (vp_nar .byte y20))))] H := ⟨hP, hD⟩
  refine lv_iinc (v := 10) (lv' := [(6, .int 10), (7, .int x4), (0, .ref a0), (1, .int x2), (2, .int x3), (3, .int x4), (4, .int x5), (5, .int x6)]) hx hb dM_feed_115 hl (k := 1) rfl (by decide) (by decide) rfl (fun ls hl => ?_)
  refine lv_goto (tgt := 27) hx hb dM_feed_118 (by decide) ?_
  refine lv_iload hx hb dM_feed_27 (lv_at hl 0 rfl) ?_
  refine lv_bipush (v := 20) hx hb dM_feed_29 (by decide) ?_
  refine lv_icmp_ge (tgt := 121) hx hb dM_feed_31 (by decide) (fun h => ((by revert h; decide : False)).elim) (fun _ => ?_)
  refine lv_iload hx hb dM_feed_34 (lv_at hl 0 rfl) ?_
  refine lv_iconst (v := 4) hx hb dM_feed_36 (by decide) ?_
  refine lv_icmp_ge (tgt := 44) hx hb dM_feed_37 (by decide) (fun _ => ?_) (fun h => ((by revert h; decide : False)).elim)
  refine lv_iload hx hb dM_feed_44 (lv_at hl 0 rfl) ?_
  refine lv_bipush (v := 8) hx hb dM_feed_46 (by decide) ?_
  refine lv_icmp_ge (tgt := 55) hx hb dM_feed_48 (by decide) (fun _ => ?_) (fun h => ((by revert h; decide : False)).elim)
  refine lv_iload hx hb dM_feed_55 (lv_at hl 0 rfl) ?_
  refine lv_bipush (v := 12) hx hb dM_feed_57 (by decide) ?_
  refine lv_icmp_ge (tgt := 66) hx hb dM_feed_59 (by decide) (fun h => ((by revert h; decide : False)).elim) (fun _ => ?_)
  refine lv_iload_n hx hb dM_feed_62 rfl (lv_at hl 5 rfl) ?_
  refine lv_goto (tgt := 80) hx hb dM_feed_63 (by decide) ?_
  refine lv_istore (lv' := [(7, .int x4), (6, .int 10), (0, .ref a0), (1, .int x2), (2, .int x3), (3, .int x4), (4, .int x5), (5, .int x6)]) hx hb dM_feed_80 hl (by decide) rfl (fun ls hl => ?_)
  refine lv_aload_n hx hb dM_feed_82 rfl (lv_at hl 2 rfl) ?_
  refine va_get (D := D) (ci := 5) (v := .ref a1) (C := "ValueBenchModel") (T := TM) (N := 32) hx hb htx inM hown hK hP 0 rfl rfl 26 (by decide) (htx _ kw_5_113) (fun _ h9 => h9) rfl dM_feed_83 ?_
  refine lv_aload_n hx hb dM_feed_86 rfl (lv_at hl 2 rfl) ?_
  refine va_get (D := D) (ci := 5) (v := .int 10) (C := "ValueBenchModel") (T := TM) (N := 32) hx hb htx inM hown hK hP 0 rfl rfl 27 (by decide) (htx _ kw_5_114) (fun _ h9 => h9) rfl dM_feed_87 ?_
  refine lv_iload hx hb dM_feed_90 (lv_at hl 0 rfl) ?_
  refine lv_bipush (v := 24) hx hb dM_feed_92 (by decide) ?_
  refine lv_bipush (v := 8) hx hb dM_feed_94 (by decide) ?_
  refine lv_iload hx hb dM_feed_96 (lv_at hl 1 rfl) ?_
  refine lv_iconst (v := 4) hx hb dM_feed_98 (by decide) ?_
  refine lv_irem hx hb dM_feed_99 (by decide) ?_
  refine W.eq (g2 := F0 m 100 ls [.int 2, .int 8, .int 24, .int x4, .int 10, .ref a1]) rfl ?_
  refine lv_imul hx hb dM_feed_100 ?_
  refine W.eq (g2 := F0 m 101 ls [.int 16, .int 24, .int x4, .int 10, .ref a1]) rfl ?_
  refine lv_isub hx hb dM_feed_101 ?_
  refine W.eq (g2 := F0 m 102 ls [.int 8, .int x4, .int 10, .ref a1]) rfl ?_
  refine lv_ishr hx hb dM_feed_102 ?_
  refine lv_topi (fun y21 ey21 => ?_)
  refine lv_i2b hx hb dM_feed_103 rfl ?_
  refine lv_topi (fun y22 ey22 => ?_)
  refine va_bast hx hb hK hP hD hS 1 0 rfl rfl (show ¬ ((10 : Int32) < 0 ∨ 4096 ≤ (10 : Int32).toNatClampNeg) by decide) dM_feed_104 (fun H locs hP hD hS => ?_)
  obtain ⟨hP, hD⟩ : xPD D xcl A [(a0, .inr (5, [.int 0, v8, v9, v10, v11, v12, v13, v14, v15, v16, v17, v18, v19, v20, v21, v22, v23, v24, v25, v26, v27, v28, v29, v30, v31, v32, .ref a1, .int 10, v33, v34, v35, v36])), (a1, .inl (cT 0, 4096, .inl (upd (upd (upd (upd (upd (upd (upd (upd (upd (upd (upd f37 0 (vp_nar .byte y2)) 1 (vp_nar .byte y4)) 2 (vp_nar .byte y6)) 3 (vp_nar .byte y8)) 4 (vp_nar .byte y10)) 5 (vp_nar .byte y12)) 6 (vp_nar .byte y14)) 7 (vp_nar .byte y16)) 8 (vp_nar .byte y18)) 9 (vp_nar .byte y20)) 10 (vp_nar .byte y22))))] H := ⟨hP, hD⟩
  refine lv_aload_n hx hb dM_feed_105 rfl (lv_at hl 2 rfl) ?_
  refine lv_dup hx hb dM_feed_106 rfl ?_
  refine va_get (D := D) (ci := 5) (v := .int 10) (C := "ValueBenchModel") (T := TM) (N := 32) hx hb htx inM hown hK hP 0 rfl rfl 27 (by decide) (htx _ kw_5_114) (fun _ h9 => h9) rfl dM_feed_107 ?_
  refine lv_iconst (v := 1) hx hb dM_feed_110 (by decide) ?_
  refine lv_iadd hx hb dM_feed_111 ?_
  refine W.eq (g2 := F0 m 112 ls [.int 11, .ref a0]) rfl ?_
  refine va_put (D := D) (ci := 5) (v := .int 11) (ty := .int) (C := "ValueBenchModel") (T := TM) (N := 32) hx hb htx inM tyM tyM_ok nmM hown hK hP hD hS 0 rfl rfl 27 (by decide) (htx _ kw_5_114) (fun _ h9 => h9) rfl (by decide +kernel) rfl rfl (Nat.le_of_ble_eq_true rfl) dM_feed_112 (fun H locs hP hD hS => ?_)
  obtain ⟨hP, hD⟩ : xPD D xcl A [(a0, .inr (5, [.int 0, v8, v9, v10, v11, v12, v13, v14, v15, v16, v17, v18, v19, v20, v21, v22, v23, v24, v25, v26, v27, v28, v29, v30, v31, v32, .ref a1, .int 11, v33, v34, v35, v36])), (a1, .inl (cT 0, 4096, .inl (upd (upd (upd (upd (upd (upd (upd (upd (upd (upd (upd f37 0 (vp_nar .byte y2)) 1 (vp_nar .byte y4)) 2 (vp_nar .byte y6)) 3 (vp_nar .byte y8)) 4 (vp_nar .byte y10)) 5 (vp_nar .byte y12)) 6 (vp_nar .byte y14)) 7 (vp_nar .byte y16)) 8 (vp_nar .byte y18)) 9 (vp_nar .byte y20)) 10 (vp_nar .byte y22))))] H := ⟨hP, hD⟩
  refine lv_iinc (v := 11) (lv' := [(6, .int 11), (7, .int x4), (0, .ref a0), (1, .int x2), (2, .int x3), (3, .int x4), (4, .int x5), (5, .int x6)]) hx hb dM_feed_115 hl (k := 1) rfl (by decide) (by decide) rfl (fun ls hl => ?_)
  refine lv_goto (tgt := 27) hx hb dM_feed_118 (by decide) ?_
  refine lv_iload hx hb dM_feed_27 (lv_at hl 0 rfl) ?_
  refine lv_bipush (v := 20) hx hb dM_feed_29 (by decide) ?_
  refine lv_icmp_ge (tgt := 121) hx hb dM_feed_31 (by decide) (fun h => ((by revert h; decide : False)).elim) (fun _ => ?_)
  refine lv_iload hx hb dM_feed_34 (lv_at hl 0 rfl) ?_
  refine lv_iconst (v := 4) hx hb dM_feed_36 (by decide) ?_
  refine lv_icmp_ge (tgt := 44) hx hb dM_feed_37 (by decide) (fun _ => ?_) (fun h => ((by revert h; decide : False)).elim)
  refine lv_iload hx hb dM_feed_44 (lv_at hl 0 rfl) ?_
  refine lv_bipush (v := 8) hx hb dM_feed_46 (by decide) ?_
  refine lv_icmp_ge (tgt := 55) hx hb dM_feed_48 (by decide) (fun _ => ?_) (fun h => ((by revert h; decide : False)).elim)
  refine lv_iload hx hb dM_feed_55 (lv_at hl 0 rfl) ?_
  refine lv_bipush (v := 12) hx hb dM_feed_57 (by decide) ?_
  refine lv_icmp_ge (tgt := 66) hx hb dM_feed_59 (by decide) (fun h => ((by revert h; decide : False)).elim) (fun _ => ?_)
  refine lv_iload_n hx hb dM_feed_62 rfl (lv_at hl 5 rfl) ?_
  refine lv_goto (tgt := 80) hx hb dM_feed_63 (by decide) ?_
  refine lv_istore (lv' := [(7, .int x4), (6, .int 11), (0, .ref a0), (1, .int x2), (2, .int x3), (3, .int x4), (4, .int x5), (5, .int x6)]) hx hb dM_feed_80 hl (by decide) rfl (fun ls hl => ?_)
  refine lv_aload_n hx hb dM_feed_82 rfl (lv_at hl 2 rfl) ?_
  refine va_get (D := D) (ci := 5) (v := .ref a1) (C := "ValueBenchModel") (T := TM) (N := 32) hx hb htx inM hown hK hP 0 rfl rfl 26 (by decide) (htx _ kw_5_113) (fun _ h9 => h9) rfl dM_feed_83 ?_
  refine lv_aload_n hx hb dM_feed_86 rfl (lv_at hl 2 rfl) ?_
  refine va_get (D := D) (ci := 5) (v := .int 11) (C := "ValueBenchModel") (T := TM) (N := 32) hx hb htx inM hown hK hP 0 rfl rfl 27 (by decide) (htx _ kw_5_114) (fun _ h9 => h9) rfl dM_feed_87 ?_
  refine lv_iload hx hb dM_feed_90 (lv_at hl 0 rfl) ?_
  refine lv_bipush (v := 24) hx hb dM_feed_92 (by decide) ?_
  refine lv_bipush (v := 8) hx hb dM_feed_94 (by decide) ?_
  refine lv_iload hx hb dM_feed_96 (lv_at hl 1 rfl) ?_
  refine lv_iconst (v := 4) hx hb dM_feed_98 (by decide) ?_
  refine lv_irem hx hb dM_feed_99 (by decide) ?_
  refine W.eq (g2 := F0 m 100 ls [.int 3, .int 8, .int 24, .int x4, .int 11, .ref a1]) rfl ?_
  refine lv_imul hx hb dM_feed_100 ?_
  refine W.eq (g2 := F0 m 101 ls [.int 24, .int 24, .int x4, .int 11, .ref a1]) rfl ?_
  refine lv_isub hx hb dM_feed_101 ?_
  refine W.eq (g2 := F0 m 102 ls [.int 0, .int x4, .int 11, .ref a1]) rfl ?_
  refine lv_ishr hx hb dM_feed_102 ?_
  refine lv_topi (fun y23 ey23 => ?_)
  refine lv_i2b hx hb dM_feed_103 rfl ?_
  refine lv_topi (fun y24 ey24 => ?_)
  refine va_bast hx hb hK hP hD hS 1 0 rfl rfl (show ¬ ((11 : Int32) < 0 ∨ 4096 ≤ (11 : Int32).toNatClampNeg) by decide) dM_feed_104 (fun H locs hP hD hS => ?_)
  obtain ⟨hP, hD⟩ : xPD D xcl A [(a0, .inr (5, [.int 0, v8, v9, v10, v11, v12, v13, v14, v15, v16, v17, v18, v19, v20, v21, v22, v23, v24, v25, v26, v27, v28, v29, v30, v31, v32, .ref a1, .int 11, v33, v34, v35, v36])), (a1, .inl (cT 0, 4096, .inl (upd (upd (upd (upd (upd (upd (upd (upd (upd (upd (upd (upd f37 0 (vp_nar .byte y2)) 1 (vp_nar .byte y4)) 2 (vp_nar .byte y6)) 3 (vp_nar .byte y8)) 4 (vp_nar .byte y10)) 5 (vp_nar .byte y12)) 6 (vp_nar .byte y14)) 7 (vp_nar .byte y16)) 8 (vp_nar .byte y18)) 9 (vp_nar .byte y20)) 10 (vp_nar .byte y22)) 11 (vp_nar .byte y24))))] H := ⟨hP, hD⟩
  refine lv_aload_n hx hb dM_feed_105 rfl (lv_at hl 2 rfl) ?_
  refine lv_dup hx hb dM_feed_106 rfl ?_
  refine va_get (D := D) (ci := 5) (v := .int 11) (C := "ValueBenchModel") (T := TM) (N := 32) hx hb htx inM hown hK hP 0 rfl rfl 27 (by decide) (htx _ kw_5_114) (fun _ h9 => h9) rfl dM_feed_107 ?_
  refine lv_iconst (v := 1) hx hb dM_feed_110 (by decide) ?_
  refine lv_iadd hx hb dM_feed_111 ?_
  refine W.eq (g2 := F0 m 112 ls [.int 12, .ref a0]) rfl ?_
  refine va_put (D := D) (ci := 5) (v := .int 12) (ty := .int) (C := "ValueBenchModel") (T := TM) (N := 32) hx hb htx inM tyM tyM_ok nmM hown hK hP hD hS 0 rfl rfl 27 (by decide) (htx _ kw_5_114) (fun _ h9 => h9) rfl (by decide +kernel) rfl rfl (Nat.le_of_ble_eq_true rfl) dM_feed_112 (fun H locs hP hD hS => ?_)
  obtain ⟨hP, hD⟩ : xPD D xcl A [(a0, .inr (5, [.int 0, v8, v9, v10, v11, v12, v13, v14, v15, v16, v17, v18, v19, v20, v21, v22, v23, v24, v25, v26, v27, v28, v29, v30, v31, v32, .ref a1, .int 12, v33, v34, v35, v36])), (a1, .inl (cT 0, 4096, .inl (upd (upd (upd (upd (upd (upd (upd (upd (upd (upd (upd (upd f37 0 (vp_nar .byte y2)) 1 (vp_nar .byte y4)) 2 (vp_nar .byte y6)) 3 (vp_nar .byte y8)) 4 (vp_nar .byte y10)) 5 (vp_nar .byte y12)) 6 (vp_nar .byte y14)) 7 (vp_nar .byte y16)) 8 (vp_nar .byte y18)) 9 (vp_nar .byte y20)) 10 (vp_nar .byte y22)) 11 (vp_nar .byte y24))))] H := ⟨hP, hD⟩
  refine lv_iinc (v := 12) (lv' := [(6, .int 12), (7, .int x4), (0, .ref a0), (1, .int x2), (2, .int x3), (3, .int x4), (4, .int x5), (5, .int x6)]) hx hb dM_feed_115 hl (k := 1) rfl (by decide) (by decide) rfl (fun ls hl => ?_)
  refine lv_goto (tgt := 27) hx hb dM_feed_118 (by decide) ?_
  refine lv_iload hx hb dM_feed_27 (lv_at hl 0 rfl) ?_
  refine lv_bipush (v := 20) hx hb dM_feed_29 (by decide) ?_
  refine lv_icmp_ge (tgt := 121) hx hb dM_feed_31 (by decide) (fun h => ((by revert h; decide : False)).elim) (fun _ => ?_)
  refine lv_iload hx hb dM_feed_34 (lv_at hl 0 rfl) ?_
  refine lv_iconst (v := 4) hx hb dM_feed_36 (by decide) ?_
  refine lv_icmp_ge (tgt := 44) hx hb dM_feed_37 (by decide) (fun _ => ?_) (fun h => ((by revert h; decide : False)).elim)
  refine lv_iload hx hb dM_feed_44 (lv_at hl 0 rfl) ?_
  refine lv_bipush (v := 8) hx hb dM_feed_46 (by decide) ?_
  refine lv_icmp_ge (tgt := 55) hx hb dM_feed_48 (by decide) (fun _ => ?_) (fun h => ((by revert h; decide : False)).elim)
  refine lv_iload hx hb dM_feed_55 (lv_at hl 0 rfl) ?_
  refine lv_bipush (v := 12) hx hb dM_feed_57 (by decide) ?_
  refine lv_icmp_ge (tgt := 66) hx hb dM_feed_59 (by decide) (fun _ => ?_) (fun h => ((by revert h; decide : False)).elim)
  refine lv_iload hx hb dM_feed_66 (lv_at hl 0 rfl) ?_
  refine lv_bipush (v := 16) hx hb dM_feed_68 (by decide) ?_
  refine lv_icmp_ge (tgt := 78) hx hb dM_feed_70 (by decide) (fun h => ((by revert h; decide : False)).elim) (fun _ => ?_)
  refine lv_iload hx hb dM_feed_73 (lv_at hl 6 rfl) ?_
  refine lv_goto (tgt := 80) hx hb dM_feed_75 (by decide) ?_
  refine lv_istore (lv' := [(7, .int x5), (6, .int 12), (0, .ref a0), (1, .int x2), (2, .int x3), (3, .int x4), (4, .int x5), (5, .int x6)]) hx hb dM_feed_80 hl (by decide) rfl (fun ls hl => ?_)
  refine lv_aload_n hx hb dM_feed_82 rfl (lv_at hl 2 rfl) ?_
  refine va_get (D := D) (ci := 5) (v := .ref a1) (C := "ValueBenchModel") (T := TM) (N := 32) hx hb htx inM hown hK hP 0 rfl rfl 26 (by decide) (htx _ kw_5_113) (fun _ h9 => h9) rfl dM_feed_83 ?_
  refine lv_aload_n hx hb dM_feed_86 rfl (lv_at hl 2 rfl) ?_
  refine va_get (D := D) (ci := 5) (v := .int 12) (C := "ValueBenchModel") (T := TM) (N := 32) hx hb htx inM hown hK hP 0 rfl rfl 27 (by decide) (htx _ kw_5_114) (fun _ h9 => h9) rfl dM_feed_87 ?_
  refine lv_iload hx hb dM_feed_90 (lv_at hl 0 rfl) ?_
  refine lv_bipush (v := 24) hx hb dM_feed_92 (by decide) ?_
  refine lv_bipush (v := 8) hx hb dM_feed_94 (by decide) ?_
  refine lv_iload hx hb dM_feed_96 (lv_at hl 1 rfl) ?_
  refine lv_iconst (v := 4) hx hb dM_feed_98 (by decide) ?_
  refine lv_irem hx hb dM_feed_99 (by decide) ?_
  refine W.eq (g2 := F0 m 100 ls [.int 0, .int 8, .int 24, .int x5, .int 12, .ref a1]) rfl ?_
  refine lv_imul hx hb dM_feed_100 ?_
  refine W.eq (g2 := F0 m 101 ls [.int 0, .int 24, .int x5, .int 12, .ref a1]) rfl ?_
  refine lv_isub hx hb dM_feed_101 ?_
  refine W.eq (g2 := F0 m 102 ls [.int 24, .int x5, .int 12, .ref a1]) rfl ?_
  refine lv_ishr hx hb dM_feed_102 ?_
  refine lv_topi (fun y25 ey25 => ?_)
  refine lv_i2b hx hb dM_feed_103 rfl ?_
  refine lv_topi (fun y26 ey26 => ?_)
  refine va_bast hx hb hK hP hD hS 1 0 rfl rfl (show ¬ ((12 : Int32) < 0 ∨ 4096 ≤ (12 : Int32).toNatClampNeg) by decide) dM_feed_104 (fun H locs hP hD hS => ?_)
  obtain ⟨hP, hD⟩ : xPD D xcl A [(a0, .inr (5, [.int 0, v8, v9, v10, v11, v12, v13, v14, v15, v16, v17, v18, v19, v20, v21, v22, v23, v24, v25, v26, v27, v28, v29, v30, v31, v32, .ref a1, .int 12, v33, v34, v35, v36])), (a1, .inl (cT 0, 4096, .inl (upd (upd (upd (upd (upd (upd (upd (upd (upd (upd (upd (upd (upd f37 0 (vp_nar .byte y2)) 1 (vp_nar .byte y4)) 2 (vp_nar .byte y6)) 3 (vp_nar .byte y8)) 4 (vp_nar .byte y10)) 5 (vp_nar .byte y12)) 6 (vp_nar .byte y14)) 7 (vp_nar .byte y16)) 8 (vp_nar .byte y18)) 9 (vp_nar .byte y20)) 10 (vp_nar .byte y22)) 11 (vp_nar .byte y24)) 12 (vp_nar .byte y26))))] H := ⟨hP, hD⟩
  refine lv_aload_n hx hb dM_feed_105 rfl (lv_at hl 2 rfl) ?_
  refine lv_dup hx hb dM_feed_106 rfl ?_
  refine va_get (D := D) (ci := 5) (v := .int 12) (C := "ValueBenchModel") (T := TM) (N := 32) hx hb htx inM hown hK hP 0 rfl rfl 27 (by decide) (htx _ kw_5_114) (fun _ h9 => h9) rfl dM_feed_107 ?_
  refine lv_iconst (v := 1) hx hb dM_feed_110 (by decide) ?_
  refine lv_iadd hx hb dM_feed_111 ?_
  refine W.eq (g2 := F0 m 112 ls [.int 13, .ref a0]) rfl ?_
  refine va_put (D := D) (ci := 5) (v := .int 13) (ty := .int) (C := "ValueBenchModel") (T := TM) (N := 32) hx hb htx inM tyM tyM_ok nmM hown hK hP hD hS 0 rfl rfl 27 (by decide) (htx _ kw_5_114) (fun _ h9 => h9) rfl (by decide +kernel) rfl rfl (Nat.le_of_ble_eq_true rfl) dM_feed_112 (fun H locs hP hD hS => ?_)
  obtain ⟨hP, hD⟩ : xPD D xcl A [(a0, .inr (5, [.int 0, v8, v9, v10, v11, v12, v13, v14, v15, v16, v17, v18, v19, v20, v21, v22, v23, v24, v25, v26, v27, v28, v29, v30, v31, v32, .ref a1, .int 13, v33, v34, v35, v36])), (a1, .inl (cT 0, 4096, .inl (upd (upd (upd (upd (upd (upd (upd (upd (upd (upd (upd (upd (upd f37 0 (vp_nar .byte y2)) 1 (vp_nar .byte y4)) 2 (vp_nar .byte y6)) 3 (vp_nar .byte y8)) 4 (vp_nar .byte y10)) 5 (vp_nar .byte y12)) 6 (vp_nar .byte y14)) 7 (vp_nar .byte y16)) 8 (vp_nar .byte y18)) 9 (vp_nar .byte y20)) 10 (vp_nar .byte y22)) 11 (vp_nar .byte y24)) 12 (vp_nar .byte y26))))] H := ⟨hP, hD⟩
  refine lv_iinc (v := 13) (lv' := [(6, .int 13), (7, .int x5), (0, .ref a0), (1, .int x2), (2, .int x3), (3, .int x4), (4, .int x5), (5, .int x6)]) hx hb dM_feed_115 hl (k := 1) rfl (by decide) (by decide) rfl (fun ls hl => ?_)
  refine lv_goto (tgt := 27) hx hb dM_feed_118 (by decide) ?_
  refine lv_iload hx hb dM_feed_27 (lv_at hl 0 rfl) ?_
  refine lv_bipush (v := 20) hx hb dM_feed_29 (by decide) ?_
  refine lv_icmp_ge (tgt := 121) hx hb dM_feed_31 (by decide) (fun h => ((by revert h; decide : False)).elim) (fun _ => ?_)
  refine lv_iload hx hb dM_feed_34 (lv_at hl 0 rfl) ?_
  refine lv_iconst (v := 4) hx hb dM_feed_36 (by decide) ?_
  refine lv_icmp_ge (tgt := 44) hx hb dM_feed_37 (by decide) (fun _ => ?_) (fun h => ((by revert h; decide : False)).elim)
  refine lv_iload hx hb dM_feed_44 (lv_at hl 0 rfl) ?_
  refine lv_bipush (v := 8) hx hb dM_feed_46 (by decide) ?_
  refine lv_icmp_ge (tgt := 55) hx hb dM_feed_48 (by decide) (fun _ => ?_) (fun h => ((by revert h; decide : False)).elim)
  refine lv_iload hx hb dM_feed_55 (lv_at hl 0 rfl) ?_
  refine lv_bipush (v := 12) hx hb dM_feed_57 (by decide) ?_
  refine lv_icmp_ge (tgt := 66) hx hb dM_feed_59 (by decide) (fun _ => ?_) (fun h => ((by revert h; decide : False)).elim)
  refine lv_iload hx hb dM_feed_66 (lv_at hl 0 rfl) ?_
  refine lv_bipush (v := 16) hx hb dM_feed_68 (by decide) ?_
  refine lv_icmp_ge (tgt := 78) hx hb dM_feed_70 (by decide) (fun h => ((by revert h; decide : False)).elim) (fun _ => ?_)
  refine lv_iload hx hb dM_feed_73 (lv_at hl 6 rfl) ?_
  refine lv_goto (tgt := 80) hx hb dM_feed_75 (by decide) ?_
  refine lv_istore (lv' := [(7, .int x5), (6, .int 13), (0, .ref a0), (1, .int x2), (2, .int x3), (3, .int x4), (4, .int x5), (5, .int x6)]) hx hb dM_feed_80 hl (by decide) rfl (fun ls hl => ?_)
  refine lv_aload_n hx hb dM_feed_82 rfl (lv_at hl 2 rfl) ?_
  refine va_get (D := D) (ci := 5) (v := .ref a1) (C := "ValueBenchModel") (T := TM) (N := 32) hx hb htx inM hown hK hP 0 rfl rfl 26 (by decide) (htx _ kw_5_113) (fun _ h9 => h9) rfl dM_feed_83 ?_
  refine lv_aload_n hx hb dM_feed_86 rfl (lv_at hl 2 rfl) ?_
  refine va_get (D := D) (ci := 5) (v := .int 13) (C := "ValueBenchModel") (T := TM) (N := 32) hx hb htx inM hown hK hP 0 rfl rfl 27 (by decide) (htx _ kw_5_114) (fun _ h9 => h9) rfl dM_feed_87 ?_
  refine lv_iload hx hb dM_feed_90 (lv_at hl 0 rfl) ?_
  refine lv_bipush (v := 24) hx hb dM_feed_92 (by decide) ?_
  refine lv_bipush (v := 8) hx hb dM_feed_94 (by decide) ?_
  refine lv_iload hx hb dM_feed_96 (lv_at hl 1 rfl) ?_
  refine lv_iconst (v := 4) hx hb dM_feed_98 (by decide) ?_
  refine lv_irem hx hb dM_feed_99 (by decide) ?_
  refine W.eq (g2 := F0 m 100 ls [.int 1, .int 8, .int 24, .int x5, .int 13, .ref a1]) rfl ?_
  refine lv_imul hx hb dM_feed_100 ?_
  refine W.eq (g2 := F0 m 101 ls [.int 8, .int 24, .int x5, .int 13, .ref a1]) rfl ?_
  refine lv_isub hx hb dM_feed_101 ?_
  refine W.eq (g2 := F0 m 102 ls [.int 16, .int x5, .int 13, .ref a1]) rfl ?_
  refine lv_ishr hx hb dM_feed_102 ?_
  refine lv_topi (fun y27 ey27 => ?_)
  refine lv_i2b hx hb dM_feed_103 rfl ?_
  refine lv_topi (fun y28 ey28 => ?_)
  refine va_bast hx hb hK hP hD hS 1 0 rfl rfl (show ¬ ((13 : Int32) < 0 ∨ 4096 ≤ (13 : Int32).toNatClampNeg) by decide) dM_feed_104 (fun H locs hP hD hS => ?_)
  obtain ⟨hP, hD⟩ : xPD D xcl A [(a0, .inr (5, [.int 0, v8, v9, v10, v11, v12, v13, v14, v15, v16, v17, v18, v19, v20, v21, v22, v23, v24, v25, v26, v27, v28, v29, v30, v31, v32, .ref a1, .int 13, v33, v34, v35, v36])), (a1, .inl (cT 0, 4096, .inl (upd (upd (upd (upd (upd (upd (upd (upd (upd (upd (upd (upd (upd (upd f37 0 (vp_nar .byte y2)) 1 (vp_nar .byte y4)) 2 (vp_nar .byte y6)) 3 (vp_nar .byte y8)) 4 (vp_nar .byte y10)) 5 (vp_nar .byte y12)) 6 (vp_nar .byte y14)) 7 (vp_nar .byte y16)) 8 (vp_nar .byte y18)) 9 (vp_nar .byte y20)) 10 (vp_nar .byte y22)) 11 (vp_nar .byte y24)) 12 (vp_nar .byte y26)) 13 (vp_nar .byte y28))))] H := ⟨hP, hD⟩
  refine lv_aload_n hx hb dM_feed_105 rfl (lv_at hl 2 rfl) ?_
  refine lv_dup hx hb dM_feed_106 rfl ?_
  refine va_get (D := D) (ci := 5) (v := .int 13) (C := "ValueBenchModel") (T := TM) (N := 32) hx hb htx inM hown hK hP 0 rfl rfl 27 (by decide) (htx _ kw_5_114) (fun _ h9 => h9) rfl dM_feed_107 ?_
  refine lv_iconst (v := 1) hx hb dM_feed_110 (by decide) ?_
  refine lv_iadd hx hb dM_feed_111 ?_
  refine W.eq (g2 := F0 m 112 ls [.int 14, .ref a0]) rfl ?_
  refine va_put (D := D) (ci := 5) (v := .int 14) (ty := .int) (C := "ValueBenchModel") (T := TM) (N := 32) hx hb htx inM tyM tyM_ok nmM hown hK hP hD hS 0 rfl rfl 27 (by decide) (htx _ kw_5_114) (fun _ h9 => h9) rfl (by decide +kernel) rfl rfl (Nat.le_of_ble_eq_true rfl) dM_feed_112 (fun H locs hP hD hS => ?_)
  obtain ⟨hP, hD⟩ : xPD D xcl A [(a0, .inr (5, [.int 0, v8, v9, v10, v11, v12, v13, v14, v15, v16, v17, v18, v19, v20, v21, v22, v23, v24, v25, v26, v27, v28, v29, v30, v31, v32, .ref a1, .int 14, v33, v34, v35, v36])), (a1, .inl (cT 0, 4096, .inl (upd (upd (upd (upd (upd (upd (upd (upd (upd (upd (upd (upd (upd (upd f37 0 (vp_nar .byte y2)) 1 (vp_nar .byte y4)) 2 (vp_nar .byte y6)) 3 (vp_nar .byte y8)) 4 (vp_nar .byte y10)) 5 (vp_nar .byte y12)) 6 (vp_nar .byte y14)) 7 (vp_nar .byte y16)) 8 (vp_nar .byte y18)) 9 (vp_nar .byte y20)) 10 (vp_nar .byte y22)) 11 (vp_nar .byte y24)) 12 (vp_nar .byte y26)) 13 (vp_nar .byte y28))))] H := ⟨hP, hD⟩
  refine lv_iinc (v := 14) (lv' := [(6, .int 14), (7, .int x5), (0, .ref a0), (1, .int x2), (2, .int x3), (3, .int x4), (4, .int x5), (5, .int x6)]) hx hb dM_feed_115 hl (k := 1) rfl (by decide) (by decide) rfl (fun ls hl => ?_)
  refine lv_goto (tgt := 27) hx hb dM_feed_118 (by decide) ?_
  refine lv_iload hx hb dM_feed_27 (lv_at hl 0 rfl) ?_
  refine lv_bipush (v := 20) hx hb dM_feed_29 (by decide) ?_
  refine lv_icmp_ge (tgt := 121) hx hb dM_feed_31 (by decide) (fun h => ((by revert h; decide : False)).elim) (fun _ => ?_)
  refine lv_iload hx hb dM_feed_34 (lv_at hl 0 rfl) ?_
  refine lv_iconst (v := 4) hx hb dM_feed_36 (by decide) ?_
  refine lv_icmp_ge (tgt := 44) hx hb dM_feed_37 (by decide) (fun _ => ?_) (fun h => ((by revert h; decide : False)).elim)
  refine lv_iload hx hb dM_feed_44 (lv_at hl 0 rfl) ?_
  refine lv_bipush (v := 8) hx hb dM_feed_46 (by decide) ?_
  refine lv_icmp_ge (tgt := 55) hx hb dM_feed_48 (by decide) (fun _ => ?_) (fun h => ((by revert h; decide : False)).elim)
  refine lv_iload hx hb dM_feed_55 (lv_at hl 0 rfl) ?_
  refine lv_bipush (v := 12) hx hb dM_feed_57 (by decide) ?_
  refine lv_icmp_ge (tgt := 66) hx hb dM_feed_59 (by decide) (fun _ => ?_) (fun h => ((by revert h; decide : False)).elim)
  refine lv_iload hx hb dM_feed_66 (lv_at hl 0 rfl) ?_
  refine lv_bipush (v := 16) hx hb dM_feed_68 (by decide) ?_
  refine lv_icmp_ge (tgt := 78) hx hb dM_feed_70 (by decide) (fun h => ((by revert h; decide : False)).elim) (fun _ => ?_)
  refine lv_iload hx hb dM_feed_73 (lv_at hl 6 rfl) ?_
  refine lv_goto (tgt := 80) hx hb dM_feed_75 (by decide) ?_
  refine lv_istore (lv' := [(7, .int x5), (6, .int 14), (0, .ref a0), (1, .int x2), (2, .int x3), (3, .int x4), (4, .int x5), (5, .int x6)]) hx hb dM_feed_80 hl (by decide) rfl (fun ls hl => ?_)
  refine lv_aload_n hx hb dM_feed_82 rfl (lv_at hl 2 rfl) ?_
  refine va_get (D := D) (ci := 5) (v := .ref a1) (C := "ValueBenchModel") (T := TM) (N := 32) hx hb htx inM hown hK hP 0 rfl rfl 26 (by decide) (htx _ kw_5_113) (fun _ h9 => h9) rfl dM_feed_83 ?_
  refine lv_aload_n hx hb dM_feed_86 rfl (lv_at hl 2 rfl) ?_
  refine va_get (D := D) (ci := 5) (v := .int 14) (C := "ValueBenchModel") (T := TM) (N := 32) hx hb htx inM hown hK hP 0 rfl rfl 27 (by decide) (htx _ kw_5_114) (fun _ h9 => h9) rfl dM_feed_87 ?_
  refine lv_iload hx hb dM_feed_90 (lv_at hl 0 rfl) ?_
  refine lv_bipush (v := 24) hx hb dM_feed_92 (by decide) ?_
  refine lv_bipush (v := 8) hx hb dM_feed_94 (by decide) ?_
  refine lv_iload hx hb dM_feed_96 (lv_at hl 1 rfl) ?_
  refine lv_iconst (v := 4) hx hb dM_feed_98 (by decide) ?_
  refine lv_irem hx hb dM_feed_99 (by decide) ?_
  refine W.eq (g2 := F0 m 100 ls [.int 2, .int 8, .int 24, .int x5, .int 14, .ref a1]) rfl ?_
  refine lv_imul hx hb dM_feed_100 ?_
  refine W.eq (g2 := F0 m 101 ls [.int 16, .int 24, .int x5, .int 14, .ref a1]) rfl ?_
  refine lv_isub hx hb dM_feed_101 ?_
  refine W.eq (g2 := F0 m 102 ls [.int 8, .int x5, .int 14, .ref a1]) rfl ?_
  refine lv_ishr hx hb dM_feed_102 ?_
  refine lv_topi (fun y29 ey29 => ?_)
  refine lv_i2b hx hb dM_feed_103 rfl ?_
  refine lv_topi (fun y30 ey30 => ?_)
  refine va_bast hx hb hK hP hD hS 1 0 rfl rfl (show ¬ ((14 : Int32) < 0 ∨ 4096 ≤ (14 : Int32).toNatClampNeg) by decide) dM_feed_104 (fun H locs hP hD hS => ?_)
  obtain ⟨hP, hD⟩ : xPD D xcl A [(a0, .inr (5, [.int 0, v8, v9, v10, v11, v12, v13, v14, v15, v16, v17, v18, v19, v20, v21, v22, v23, v24, v25, v26, v27, v28, v29, v30, v31, v32, .ref a1, .int 14, v33, v34, v35, v36])), (a1, .inl (cT 0, 4096, .inl (upd (upd (upd (upd (upd (upd (upd (upd (upd (upd (upd (upd (upd (upd (upd f37 0 (vp_nar .byte y2)) 1 (vp_nar .byte y4)) 2 (vp_nar .byte y6)) 3 (vp_nar .byte y8)) 4 (vp_nar .byte y10)) 5 (vp_nar .byte y12)) 6 (vp_nar .byte y14)) 7 (vp_nar .byte y16)) 8 (vp_nar .byte y18)) 9 (vp_nar .byte y20)) 10 (vp_nar .byte y22)) 11 (vp_nar .byte y24)) 12 (vp_nar .byte y26)) 13 (vp_nar .byte y28)) 14 (vp_nar .byte y30))))] H := ⟨hP, hD⟩
  refine lv_aload_n hx hb dM_feed_105 rfl (lv_at hl 2 rfl) ?_
  refine lv_dup hx hb dM_feed_106 rfl ?_
  refine va_get (D := D) (ci := 5) (v := .int 14) (C := "ValueBenchModel") (T := TM) (N := 32) hx hb htx inM hown hK hP 0 rfl rfl 27 (by decide) (htx _ kw_5_114) (fun _ h9 => h9) rfl dM_feed_107 ?_
  refine lv_iconst (v := 1) hx hb dM_feed_110 (by decide) ?_
  refine lv_iadd hx hb dM_feed_111 ?_
  refine W.eq (g2 := F0 m 112 ls [.int 15, .ref a0]) rfl ?_
  refine va_put (D := D) (ci := 5) (v := .int 15) (ty := .int) (C := "ValueBenchModel") (T := TM) (N := 32) hx hb htx inM tyM tyM_ok nmM hown hK hP hD hS 0 rfl rfl 27 (by decide) (htx _ kw_5_114) (fun _ h9 => h9) rfl (by decide +kernel) rfl rfl (Nat.le_of_ble_eq_true rfl) dM_feed_112 (fun H locs hP hD hS => ?_)
  obtain ⟨hP, hD⟩ : xPD D xcl A [(a0, .inr (5, [.int 0, v8, v9, v10, v11, v12, v13, v14, v15, v16, v17, v18, v19, v20, v21, v22, v23, v24, v25, v26, v27, v28, v29, v30, v31, v32, .ref a1, .int 15, v33, v34, v35, v36])), (a1, .inl (cT 0, 4096, .inl (upd (upd (upd (upd (upd (upd (upd (upd (upd (upd (upd (upd (upd (upd (upd f37 0 (vp_nar .byte y2)) 1 (vp_nar .byte y4)) 2 (vp_nar .byte y6)) 3 (vp_nar .byte y8)) 4 (vp_nar .byte y10)) 5 (vp_nar .byte y12)) 6 (vp_nar .byte y14)) 7 (vp_nar .byte y16)) 8 (vp_nar .byte y18)) 9 (vp_nar .byte y20)) 10 (vp_nar .byte y22)) 11 (vp_nar .byte y24)) 12 (vp_nar .byte y26)) 13 (vp_nar .byte y28)) 14 (vp_nar .byte y30))))] H := ⟨hP, hD⟩
  refine lv_iinc (v := 15) (lv' := [(6, .int 15), (7, .int x5), (0, .ref a0), (1, .int x2), (2, .int x3), (3, .int x4), (4, .int x5), (5, .int x6)]) hx hb dM_feed_115 hl (k := 1) rfl (by decide) (by decide) rfl (fun ls hl => ?_)
  refine lv_goto (tgt := 27) hx hb dM_feed_118 (by decide) ?_
  refine lv_iload hx hb dM_feed_27 (lv_at hl 0 rfl) ?_
  refine lv_bipush (v := 20) hx hb dM_feed_29 (by decide) ?_
  refine lv_icmp_ge (tgt := 121) hx hb dM_feed_31 (by decide) (fun h => ((by revert h; decide : False)).elim) (fun _ => ?_)
  refine lv_iload hx hb dM_feed_34 (lv_at hl 0 rfl) ?_
  refine lv_iconst (v := 4) hx hb dM_feed_36 (by decide) ?_
  refine lv_icmp_ge (tgt := 44) hx hb dM_feed_37 (by decide) (fun _ => ?_) (fun h => ((by revert h; decide : False)).elim)
  refine lv_iload hx hb dM_feed_44 (lv_at hl 0 rfl) ?_
  refine lv_bipush (v := 8) hx hb dM_feed_46 (by decide) ?_
  refine lv_icmp_ge (tgt := 55) hx hb dM_feed_48 (by decide) (fun _ => ?_) (fun h => ((by revert h; decide : False)).elim)
  refine lv_iload hx hb dM_feed_55 (lv_at hl 0 rfl) ?_
  refine lv_bipush (v := 12) hx hb dM_feed_57 (by decide) ?_
  refine lv_icmp_ge (tgt := 66) hx hb dM_feed_59 (by decide) (fun _ => ?_) (fun h => ((by revert h; decide : False)).elim)
  refine lv_iload hx hb dM_feed_66 (lv_at hl 0 rfl) ?_
  refine lv_bipush (v := 16) hx hb dM_feed_68 (by decide) ?_
  refine lv_icmp_ge (tgt := 78) hx hb dM_feed_70 (by decide) (fun h => ((by revert h; decide : False)).elim) (fun _ => ?_)
  refine lv_iload hx hb dM_feed_73 (lv_at hl 6 rfl) ?_
  refine lv_goto (tgt := 80) hx hb dM_feed_75 (by decide) ?_
  refine lv_istore (lv' := [(7, .int x5), (6, .int 15), (0, .ref a0), (1, .int x2), (2, .int x3), (3, .int x4), (4, .int x5), (5, .int x6)]) hx hb dM_feed_80 hl (by decide) rfl (fun ls hl => ?_)
  refine lv_aload_n hx hb dM_feed_82 rfl (lv_at hl 2 rfl) ?_
  refine va_get (D := D) (ci := 5) (v := .ref a1) (C := "ValueBenchModel") (T := TM) (N := 32) hx hb htx inM hown hK hP 0 rfl rfl 26 (by decide) (htx _ kw_5_113) (fun _ h9 => h9) rfl dM_feed_83 ?_
  refine lv_aload_n hx hb dM_feed_86 rfl (lv_at hl 2 rfl) ?_
  refine va_get (D := D) (ci := 5) (v := .int 15) (C := "ValueBenchModel") (T := TM) (N := 32) hx hb htx inM hown hK hP 0 rfl rfl 27 (by decide) (htx _ kw_5_114) (fun _ h9 => h9) rfl dM_feed_87 ?_
  refine lv_iload hx hb dM_feed_90 (lv_at hl 0 rfl) ?_
  refine lv_bipush (v := 24) hx hb dM_feed_92 (by decide) ?_
  refine lv_bipush (v := 8) hx hb dM_feed_94 (by decide) ?_
  refine lv_iload hx hb dM_feed_96 (lv_at hl 1 rfl) ?_
  refine lv_iconst (v := 4) hx hb dM_feed_98 (by decide) ?_
  refine lv_irem hx hb dM_feed_99 (by decide) ?_
  refine W.eq (g2 := F0 m 100 ls [.int 3, .int 8, .int 24, .int x5, .int 15, .ref a1]) rfl ?_
  refine lv_imul hx hb dM_feed_100 ?_
  refine W.eq (g2 := F0 m 101 ls [.int 24, .int 24, .int x5, .int 15, .ref a1]) rfl ?_
  refine lv_isub hx hb dM_feed_101 ?_
  refine W.eq (g2 := F0 m 102 ls [.int 0, .int x5, .int 15, .ref a1]) rfl ?_
  refine lv_ishr hx hb dM_feed_102 ?_
  refine lv_topi (fun y31 ey31 => ?_)
  refine lv_i2b hx hb dM_feed_103 rfl ?_
  refine lv_topi (fun y32 ey32 => ?_)
  refine va_bast hx hb hK hP hD hS 1 0 rfl rfl (show ¬ ((15 : Int32) < 0 ∨ 4096 ≤ (15 : Int32).toNatClampNeg) by decide) dM_feed_104 (fun H locs hP hD hS => ?_)
  obtain ⟨hP, hD⟩ : xPD D xcl A [(a0, .inr (5, [.int 0, v8, v9, v10, v11, v12, v13, v14, v15, v16, v17, v18, v19, v20, v21, v22, v23, v24, v25, v26, v27, v28, v29, v30, v31, v32, .ref a1, .int 15, v33, v34, v35, v36])), (a1, .inl (cT 0, 4096, .inl (upd (upd (upd (upd (upd (upd (upd (upd (upd (upd (upd (upd (upd (upd (upd (upd f37 0 (vp_nar .byte y2)) 1 (vp_nar .byte y4)) 2 (vp_nar .byte y6)) 3 (vp_nar .byte y8)) 4 (vp_nar .byte y10)) 5 (vp_nar .byte y12)) 6 (vp_nar .byte y14)) 7 (vp_nar .byte y16)) 8 (vp_nar .byte y18)) 9 (vp_nar .byte y20)) 10 (vp_nar .byte y22)) 11 (vp_nar .byte y24)) 12 (vp_nar .byte y26)) 13 (vp_nar .byte y28)) 14 (vp_nar .byte y30)) 15 (vp_nar .byte y32))))] H := ⟨hP, hD⟩
  refine lv_aload_n hx hb dM_feed_105 rfl (lv_at hl 2 rfl) ?_
  refine lv_dup hx hb dM_feed_106 rfl ?_
  refine va_get (D := D) (ci := 5) (v := .int 15) (C := "ValueBenchModel") (T := TM) (N := 32) hx hb htx inM hown hK hP 0 rfl rfl 27 (by decide) (htx _ kw_5_114) (fun _ h9 => h9) rfl dM_feed_107 ?_
  refine lv_iconst (v := 1) hx hb dM_feed_110 (by decide) ?_
  refine lv_iadd hx hb dM_feed_111 ?_
  refine W.eq (g2 := F0 m 112 ls [.int 16, .ref a0]) rfl ?_
  refine va_put (D := D) (ci := 5) (v := .int 16) (ty := .int) (C := "ValueBenchModel") (T := TM) (N := 32) hx hb htx inM tyM tyM_ok nmM hown hK hP hD hS 0 rfl rfl 27 (by decide) (htx _ kw_5_114) (fun _ h9 => h9) rfl (by decide +kernel) rfl rfl (Nat.le_of_ble_eq_true rfl) dM_feed_112 (fun H locs hP hD hS => ?_)
  obtain ⟨hP, hD⟩ : xPD D xcl A [(a0, .inr (5, [.int 0, v8, v9, v10, v11, v12, v13, v14, v15, v16, v17, v18, v19, v20, v21, v22, v23, v24, v25, v26, v27, v28, v29, v30, v31, v32, .ref a1, .int 16, v33, v34, v35, v36])), (a1, .inl (cT 0, 4096, .inl (upd (upd (upd (upd (upd (upd (upd (upd (upd (upd (upd (upd (upd (upd (upd (upd f37 0 (vp_nar .byte y2)) 1 (vp_nar .byte y4)) 2 (vp_nar .byte y6)) 3 (vp_nar .byte y8)) 4 (vp_nar .byte y10)) 5 (vp_nar .byte y12)) 6 (vp_nar .byte y14)) 7 (vp_nar .byte y16)) 8 (vp_nar .byte y18)) 9 (vp_nar .byte y20)) 10 (vp_nar .byte y22)) 11 (vp_nar .byte y24)) 12 (vp_nar .byte y26)) 13 (vp_nar .byte y28)) 14 (vp_nar .byte y30)) 15 (vp_nar .byte y32))))] H := ⟨hP, hD⟩
  refine lv_iinc (v := 16) (lv' := [(6, .int 16), (7, .int x5), (0, .ref a0), (1, .int x2), (2, .int x3), (3, .int x4), (4, .int x5), (5, .int x6)]) hx hb dM_feed_115 hl (k := 1) rfl (by decide) (by decide) rfl (fun ls hl => ?_)
  refine lv_goto (tgt := 27) hx hb dM_feed_118 (by decide) ?_
  refine lv_iload hx hb dM_feed_27 (lv_at hl 0 rfl) ?_
  refine lv_bipush (v := 20) hx hb dM_feed_29 (by decide) ?_
  refine lv_icmp_ge (tgt := 121) hx hb dM_feed_31 (by decide) (fun h => ((by revert h; decide : False)).elim) (fun _ => ?_)
  refine lv_iload hx hb dM_feed_34 (lv_at hl 0 rfl) ?_
  refine lv_iconst (v := 4) hx hb dM_feed_36 (by decide) ?_
  refine lv_icmp_ge (tgt := 44) hx hb dM_feed_37 (by decide) (fun _ => ?_) (fun h => ((by revert h; decide : False)).elim)
  refine lv_iload hx hb dM_feed_44 (lv_at hl 0 rfl) ?_
  refine lv_bipush (v := 8) hx hb dM_feed_46 (by decide) ?_
  refine lv_icmp_ge (tgt := 55) hx hb dM_feed_48 (by decide) (fun _ => ?_) (fun h => ((by revert h; decide : False)).elim)
  refine lv_iload hx hb dM_feed_55 (lv_at hl 0 rfl) ?_
  refine lv_bipush (v := 12) hx hb dM_feed_57 (by decide) ?_
  refine lv_icmp_ge (tgt := 66) hx hb dM_feed_59 (by decide) (fun _ => ?_) (fun h => ((by revert h; decide : False)).elim)
  refine lv_iload hx hb dM_feed_66 (lv_at hl 0 rfl) ?_
  refine lv_bipush (v := 16) hx hb dM_feed_68 (by decide) ?_
  refine lv_icmp_ge (tgt := 78) hx hb dM_feed_70 (by decide) (fun _ => ?_) (fun h => ((by revert h; decide : False)).elim)
  refine lv_iload hx hb dM_feed_78 (lv_at hl 7 rfl) ?_
  refine lv_istore (lv' := [(7, .int x6), (6, .int 16), (0, .ref a0), (1, .int x2), (2, .int x3), (3, .int x4), (4, .int x5), (5, .int x6)]) hx hb dM_feed_80 hl (by decide) rfl (fun ls hl => ?_)
  refine lv_aload_n hx hb dM_feed_82 rfl (lv_at hl 2 rfl) ?_
  refine va_get (D := D) (ci := 5) (v := .ref a1) (C := "ValueBenchModel") (T := TM) (N := 32) hx hb htx inM hown hK hP 0 rfl rfl 26 (by decide) (htx _ kw_5_113) (fun _ h9 => h9) rfl dM_feed_83 ?_
  refine lv_aload_n hx hb dM_feed_86 rfl (lv_at hl 2 rfl) ?_
  refine va_get (D := D) (ci := 5) (v := .int 16) (C := "ValueBenchModel") (T := TM) (N := 32) hx hb htx inM hown hK hP 0 rfl rfl 27 (by decide) (htx _ kw_5_114) (fun _ h9 => h9) rfl dM_feed_87 ?_
  refine lv_iload hx hb dM_feed_90 (lv_at hl 0 rfl) ?_
  refine lv_bipush (v := 24) hx hb dM_feed_92 (by decide) ?_
  refine lv_bipush (v := 8) hx hb dM_feed_94 (by decide) ?_
  refine lv_iload hx hb dM_feed_96 (lv_at hl 1 rfl) ?_
  refine lv_iconst (v := 4) hx hb dM_feed_98 (by decide) ?_
  refine lv_irem hx hb dM_feed_99 (by decide) ?_
  refine W.eq (g2 := F0 m 100 ls [.int 0, .int 8, .int 24, .int x6, .int 16, .ref a1]) rfl ?_
  refine lv_imul hx hb dM_feed_100 ?_
  refine W.eq (g2 := F0 m 101 ls [.int 0, .int 24, .int x6, .int 16, .ref a1]) rfl ?_
  refine lv_isub hx hb dM_feed_101 ?_
  refine W.eq (g2 := F0 m 102 ls [.int 24, .int x6, .int 16, .ref a1]) rfl ?_
  refine lv_ishr hx hb dM_feed_102 ?_
  refine lv_topi (fun y33 ey33 => ?_)
  refine lv_i2b hx hb dM_feed_103 rfl ?_
  refine lv_topi (fun y34 ey34 => ?_)
  refine va_bast hx hb hK hP hD hS 1 0 rfl rfl (show ¬ ((16 : Int32) < 0 ∨ 4096 ≤ (16 : Int32).toNatClampNeg) by decide) dM_feed_104 (fun H locs hP hD hS => ?_)
  obtain ⟨hP, hD⟩ : xPD D xcl A [(a0, .inr (5, [.int 0, v8, v9, v10, v11, v12, v13, v14, v15, v16, v17, v18, v19, v20, v21, v22, v23, v24, v25, v26, v27, v28, v29, v30, v31, v32, .ref a1, .int 16, v33, v34, v35, v36])), (a1, .inl (cT 0, 4096, .inl (upd (upd (upd (upd (upd (upd (upd (upd (upd (upd (upd (upd (upd (upd (upd (upd (upd f37 0 (vp_nar .byte y2)) 1 (vp_nar .byte y4)) 2 (vp_nar .byte y6)) 3 (vp_nar .byte y8)) 4 (vp_nar .byte y10)) 5 (vp_nar .byte y12)) 6 (vp_nar .byte y14)) 7 (vp_nar .byte y16)) 8 (vp_nar .byte y18)) 9 (vp_nar .byte y20)) 10 (vp_nar .byte y22)) 11 (vp_nar .byte y24)) 12 (vp_nar .byte y26)) 13 (vp_nar .byte y28)) 14 (vp_nar .byte y30)) 15 (vp_nar .byte y32)) 16 (vp_nar .byte y34))))] H := ⟨hP, hD⟩
  refine lv_aload_n hx hb dM_feed_105 rfl (lv_at hl 2 rfl) ?_
  refine lv_dup hx hb dM_feed_106 rfl ?_
  refine va_get (D := D) (ci := 5) (v := .int 16) (C := "ValueBenchModel") (T := TM) (N := 32) hx hb htx inM hown hK hP 0 rfl rfl 27 (by decide) (htx _ kw_5_114) (fun _ h9 => h9) rfl dM_feed_107 ?_
  refine lv_iconst (v := 1) hx hb dM_feed_110 (by decide) ?_
  refine lv_iadd hx hb dM_feed_111 ?_
  refine W.eq (g2 := F0 m 112 ls [.int 17, .ref a0]) rfl ?_
  refine va_put (D := D) (ci := 5) (v := .int 17) (ty := .int) (C := "ValueBenchModel") (T := TM) (N := 32) hx hb htx inM tyM tyM_ok nmM hown hK hP hD hS 0 rfl rfl 27 (by decide) (htx _ kw_5_114) (fun _ h9 => h9) rfl (by decide +kernel) rfl rfl (Nat.le_of_ble_eq_true rfl) dM_feed_112 (fun H locs hP hD hS => ?_)
  obtain ⟨hP, hD⟩ : xPD D xcl A [(a0, .inr (5, [.int 0, v8, v9, v10, v11, v12, v13, v14, v15, v16, v17, v18, v19, v20, v21, v22, v23, v24, v25, v26, v27, v28, v29, v30, v31, v32, .ref a1, .int 17, v33, v34, v35, v36])), (a1, .inl (cT 0, 4096, .inl (upd (upd (upd (upd (upd (upd (upd (upd (upd (upd (upd (upd (upd (upd (upd (upd (upd f37 0 (vp_nar .byte y2)) 1 (vp_nar .byte y4)) 2 (vp_nar .byte y6)) 3 (vp_nar .byte y8)) 4 (vp_nar .byte y10)) 5 (vp_nar .byte y12)) 6 (vp_nar .byte y14)) 7 (vp_nar .byte y16)) 8 (vp_nar .byte y18)) 9 (vp_nar .byte y20)) 10 (vp_nar .byte y22)) 11 (vp_nar .byte y24)) 12 (vp_nar .byte y26)) 13 (vp_nar .byte y28)) 14 (vp_nar .byte y30)) 15 (vp_nar .byte y32)) 16 (vp_nar .byte y34))))] H := ⟨hP, hD⟩
  refine lv_iinc (v := 17) (lv' := [(6, .int 17), (7, .int x6), (0, .ref a0), (1, .int x2), (2, .int x3), (3, .int x4), (4, .int x5), (5, .int x6)]) hx hb dM_feed_115 hl (k := 1) rfl (by decide) (by decide) rfl (fun ls hl => ?_)
  refine lv_goto (tgt := 27) hx hb dM_feed_118 (by decide) ?_
  refine lv_iload hx hb dM_feed_27 (lv_at hl 0 rfl) ?_
  refine lv_bipush (v := 20) hx hb dM_feed_29 (by decide) ?_
  refine lv_icmp_ge (tgt := 121) hx hb dM_feed_31 (by decide) (fun h => ((by revert h; decide : False)).elim) (fun _ => ?_)
  refine lv_iload hx hb dM_feed_34 (lv_at hl 0 rfl) ?_
  refine lv_iconst (v := 4) hx hb dM_feed_36 (by decide) ?_
  refine lv_icmp_ge (tgt := 44) hx hb dM_feed_37 (by decide) (fun _ => ?_) (fun h => ((by revert h; decide : False)).elim)
  refine lv_iload hx hb dM_feed_44 (lv_at hl 0 rfl) ?_
  refine lv_bipush (v := 8) hx hb dM_feed_46 (by decide) ?_
  refine lv_icmp_ge (tgt := 55) hx hb dM_feed_48 (by decide) (fun _ => ?_) (fun h => ((by revert h; decide : False)).elim)
  refine lv_iload hx hb dM_feed_55 (lv_at hl 0 rfl) ?_
  refine lv_bipush (v := 12) hx hb dM_feed_57 (by decide) ?_
  refine lv_icmp_ge (tgt := 66) hx hb dM_feed_59 (by decide) (fun _ => ?_) (fun h => ((by revert h; decide : False)).elim)
  refine lv_iload hx hb dM_feed_66 (lv_at hl 0 rfl) ?_
  refine lv_bipush (v := 16) hx hb dM_feed_68 (by decide) ?_
  refine lv_icmp_ge (tgt := 78) hx hb dM_feed_70 (by decide) (fun _ => ?_) (fun h => ((by revert h; decide : False)).elim)
  refine lv_iload hx hb dM_feed_78 (lv_at hl 7 rfl) ?_
  refine lv_istore (lv' := [(7, .int x6), (6, .int 17), (0, .ref a0), (1, .int x2), (2, .int x3), (3, .int x4), (4, .int x5), (5, .int x6)]) hx hb dM_feed_80 hl (by decide) rfl (fun ls hl => ?_)
  refine lv_aload_n hx hb dM_feed_82 rfl (lv_at hl 2 rfl) ?_
  refine va_get (D := D) (ci := 5) (v := .ref a1) (C := "ValueBenchModel") (T := TM) (N := 32) hx hb htx inM hown hK hP 0 rfl rfl 26 (by decide) (htx _ kw_5_113) (fun _ h9 => h9) rfl dM_feed_83 ?_
  refine lv_aload_n hx hb dM_feed_86 rfl (lv_at hl 2 rfl) ?_
  refine va_get (D := D) (ci := 5) (v := .int 17) (C := "ValueBenchModel") (T := TM) (N := 32) hx hb htx inM hown hK hP 0 rfl rfl 27 (by decide) (htx _ kw_5_114) (fun _ h9 => h9) rfl dM_feed_87 ?_
  refine lv_iload hx hb dM_feed_90 (lv_at hl 0 rfl) ?_
  refine lv_bipush (v := 24) hx hb dM_feed_92 (by decide) ?_
  refine lv_bipush (v := 8) hx hb dM_feed_94 (by decide) ?_
  refine lv_iload hx hb dM_feed_96 (lv_at hl 1 rfl) ?_
  refine lv_iconst (v := 4) hx hb dM_feed_98 (by decide) ?_
  refine lv_irem hx hb dM_feed_99 (by decide) ?_
  refine W.eq (g2 := F0 m 100 ls [.int 1, .int 8, .int 24, .int x6, .int 17, .ref a1]) rfl ?_
  refine lv_imul hx hb dM_feed_100 ?_
  refine W.eq (g2 := F0 m 101 ls [.int 8, .int 24, .int x6, .int 17, .ref a1]) rfl ?_
  refine lv_isub hx hb dM_feed_101 ?_
  refine W.eq (g2 := F0 m 102 ls [.int 16, .int x6, .int 17, .ref a1]) rfl ?_
  refine lv_ishr hx hb dM_feed_102 ?_
  refine lv_topi (fun y35 ey35 => ?_)
  refine lv_i2b hx hb dM_feed_103 rfl ?_
  refine lv_topi (fun y36 ey36 => ?_)
  refine va_bast hx hb hK hP hD hS 1 0 rfl rfl (show ¬ ((17 : Int32) < 0 ∨ 4096 ≤ (17 : Int32).toNatClampNeg) by decide) dM_feed_104 (fun H locs hP hD hS => ?_)
  obtain ⟨hP, hD⟩ : xPD D xcl A [(a0, .inr (5, [.int 0, v8, v9, v10, v11, v12, v13, v14, v15, v16, v17, v18, v19, v20, v21, v22, v23, v24, v25, v26, v27, v28, v29, v30, v31, v32, .ref a1, .int 17, v33, v34, v35, v36])), (a1, .inl (cT 0, 4096, .inl (upd (upd (upd (upd (upd (upd (upd (upd (upd (upd (upd (upd (upd (upd (upd (upd (upd (upd f37 0 (vp_nar .byte y2)) 1 (vp_nar .byte y4)) 2 (vp_nar .byte y6)) 3 (vp_nar .byte y8)) 4 (vp_nar .byte y10)) 5 (vp_nar .byte y12)) 6 (vp_nar .byte y14)) 7 (vp_nar .byte y16)) 8 (vp_nar .byte y18)) 9 (vp_nar .byte y20)) 10 (vp_nar .byte y22)) 11 (vp_nar .byte y24)) 12 (vp_nar .byte y26)) 13 (vp_nar .byte y28)) 14 (vp_nar .byte y30)) 15 (vp_nar .byte y32)) 16 (vp_nar .byte y34)) 17 (vp_nar .byte y36))))] H := ⟨hP, hD⟩
  refine lv_aload_n hx hb dM_feed_105 rfl (lv_at hl 2 rfl) ?_
  refine lv_dup hx hb dM_feed_106 rfl ?_
  refine va_get (D := D) (ci := 5) (v := .int 17) (C := "ValueBenchModel") (T := TM) (N := 32) hx hb htx inM hown hK hP 0 rfl rfl 27 (by decide) (htx _ kw_5_114) (fun _ h9 => h9) rfl dM_feed_107 ?_
  refine lv_iconst (v := 1) hx hb dM_feed_110 (by decide) ?_
  refine lv_iadd hx hb dM_feed_111 ?_
  refine W.eq (g2 := F0 m 112 ls [.int 18, .ref a0]) rfl ?_
  refine va_put (D := D) (ci := 5) (v := .int 18) (ty := .int) (C := "ValueBenchModel") (T := TM) (N := 32) hx hb htx inM tyM tyM_ok nmM hown hK hP hD hS 0 rfl rfl 27 (by decide) (htx _ kw_5_114) (fun _ h9 => h9) rfl (by decide +kernel) rfl rfl (Nat.le_of_ble_eq_true rfl) dM_feed_112 (fun H locs hP hD hS => ?_)
  obtain ⟨hP, hD⟩ : xPD D xcl A [(a0, .inr (5, [.int 0, v8, v9, v10, v11, v12, v13, v14, v15, v16, v17, v18, v19, v20, v21, v22, v23, v24, v25, v26, v27, v28, v29, v30, v31, v32, .ref a1, .int 18, v33, v34, v35, v36])), (a1, .inl (cT 0, 4096, .inl (upd (upd (upd (upd (upd (upd (upd (upd (upd (upd (upd (upd (upd (upd (upd (upd (upd (upd f37 0 (vp_nar .byte y2)) 1 (vp_nar .byte y4)) 2 (vp_nar .byte y6)) 3 (vp_nar .byte y8)) 4 (vp_nar .byte y10)) 5 (vp_nar .byte y12)) 6 (vp_nar .byte y14)) 7 (vp_nar .byte y16)) 8 (vp_nar .byte y18)) 9 (vp_nar .byte y20)) 10 (vp_nar .byte y22)) 11 (vp_nar .byte y24)) 12 (vp_nar .byte y26)) 13 (vp_nar .byte y28)) 14 (vp_nar .byte y30)) 15 (vp_nar .byte y32)) 16 (vp_nar .byte y34)) 17 (vp_nar .byte y36))))] H := ⟨hP, hD⟩
  refine lv_iinc (v := 18) (lv' := [(6, .int 18), (7, .int x6), (0, .ref a0), (1, .int x2), (2, .int x3), (3, .int x4), (4, .int x5), (5, .int x6)]) hx hb dM_feed_115 hl (k := 1) rfl (by decide) (by decide) rfl (fun ls hl => ?_)
  refine lv_goto (tgt := 27) hx hb dM_feed_118 (by decide) ?_
  refine lv_iload hx hb dM_feed_27 (lv_at hl 0 rfl) ?_
  refine lv_bipush (v := 20) hx hb dM_feed_29 (by decide) ?_
  refine lv_icmp_ge (tgt := 121) hx hb dM_feed_31 (by decide) (fun h => ((by revert h; decide : False)).elim) (fun _ => ?_)
  refine lv_iload hx hb dM_feed_34 (lv_at hl 0 rfl) ?_
  refine lv_iconst (v := 4) hx hb dM_feed_36 (by decide) ?_
  refine lv_icmp_ge (tgt := 44) hx hb dM_feed_37 (by decide) (fun _ => ?_) (fun h => ((by revert h; decide : False)).elim)
  refine lv_iload hx hb dM_feed_44 (lv_at hl 0 rfl) ?_
  refine lv_bipush (v := 8) hx hb dM_feed_46 (by decide) ?_
  refine lv_icmp_ge (tgt := 55) hx hb dM_feed_48 (by decide) (fun _ => ?_) (fun h => ((by revert h; decide : False)).elim)
  refine lv_iload hx hb dM_feed_55 (lv_at hl 0 rfl) ?_
  refine lv_bipush (v := 12) hx hb dM_feed_57 (by decide) ?_
  refine lv_icmp_ge (tgt := 66) hx hb dM_feed_59 (by decide) (fun _ => ?_) (fun h => ((by revert h; decide : False)).elim)
  refine lv_iload hx hb dM_feed_66 (lv_at hl 0 rfl) ?_
  refine lv_bipush (v := 16) hx hb dM_feed_68 (by decide) ?_
  refine lv_icmp_ge (tgt := 78) hx hb dM_feed_70 (by decide) (fun _ => ?_) (fun h => ((by revert h; decide : False)).elim)
  refine lv_iload hx hb dM_feed_78 (lv_at hl 7 rfl) ?_
  refine lv_istore (lv' := [(7, .int x6), (6, .int 18), (0, .ref a0), (1, .int x2), (2, .int x3), (3, .int x4), (4, .int x5), (5, .int x6)]) hx hb dM_feed_80 hl (by decide) rfl (fun ls hl => ?_)
  refine lv_aload_n hx hb dM_feed_82 rfl (lv_at hl 2 rfl) ?_
  refine va_get (D := D) (ci := 5) (v := .ref a1) (C := "ValueBenchModel") (T := TM) (N := 32) hx hb htx inM hown hK hP 0 rfl rfl 26 (by decide) (htx _ kw_5_113) (fun _ h9 => h9) rfl dM_feed_83 ?_
  refine lv_aload_n hx hb dM_feed_86 rfl (lv_at hl 2 rfl) ?_
  refine va_get (D := D) (ci := 5) (v := .int 18) (C := "ValueBenchModel") (T := TM) (N := 32) hx hb htx inM hown hK hP 0 rfl rfl 27 (by decide) (htx _ kw_5_114) (fun _ h9 => h9) rfl dM_feed_87 ?_
  refine lv_iload hx hb dM_feed_90 (lv_at hl 0 rfl) ?_
  refine lv_bipush (v := 24) hx hb dM_feed_92 (by decide) ?_
  refine lv_bipush (v := 8) hx hb dM_feed_94 (by decide) ?_
  refine lv_iload hx hb dM_feed_96 (lv_at hl 1 rfl) ?_
  refine lv_iconst (v := 4) hx hb dM_feed_98 (by decide) ?_
  refine lv_irem hx hb dM_feed_99 (by decide) ?_
  refine W.eq (g2 := F0 m 100 ls [.int 2, .int 8, .int 24, .int x6, .int 18, .ref a1]) rfl ?_
  refine lv_imul hx hb dM_feed_100 ?_
  refine W.eq (g2 := F0 m 101 ls [.int 16, .int 24, .int x6, .int 18, .ref a1]) rfl ?_
  refine lv_isub hx hb dM_feed_101 ?_
  refine W.eq (g2 := F0 m 102 ls [.int 8, .int x6, .int 18, .ref a1]) rfl ?_
  refine lv_ishr hx hb dM_feed_102 ?_
  refine lv_topi (fun y37 ey37 => ?_)
  refine lv_i2b hx hb dM_feed_103 rfl ?_
  refine lv_topi (fun y38 ey38 => ?_)
  refine va_bast hx hb hK hP hD hS 1 0 rfl rfl (show ¬ ((18 : Int32) < 0 ∨ 4096 ≤ (18 : Int32).toNatClampNeg) by decide) dM_feed_104 (fun H locs hP hD hS => ?_)
  obtain ⟨hP, hD⟩ : xPD D xcl A [(a0, .inr (5, [.int 0, v8, v9, v10, v11, v12, v13, v14, v15, v16, v17, v18, v19, v20, v21, v22, v23, v24, v25, v26, v27, v28, v29, v30, v31, v32, .ref a1, .int 18, v33, v34, v35, v36])), (a1, .inl (cT 0, 4096, .inl (upd (upd (upd (upd (upd (upd (upd (upd (upd (upd (upd (upd (upd (upd (upd (upd (upd (upd (upd f37 0 (vp_nar .byte y2)) 1 (vp_nar .byte y4)) 2 (vp_nar .byte y6)) 3 (vp_nar .byte y8)) 4 (vp_nar .byte y10)) 5 (vp_nar .byte y12)) 6 (vp_nar .byte y14)) 7 (vp_nar .byte y16)) 8 (vp_nar .byte y18)) 9 (vp_nar .byte y20)) 10 (vp_nar .byte y22)) 11 (vp_nar .byte y24)) 12 (vp_nar .byte y26)) 13 (vp_nar .byte y28)) 14 (vp_nar .byte y30)) 15 (vp_nar .byte y32)) 16 (vp_nar .byte y34)) 17 (vp_nar .byte y36)) 18 (vp_nar .byte y38))))] H := ⟨hP, hD⟩
  refine lv_aload_n hx hb dM_feed_105 rfl (lv_at hl 2 rfl) ?_
  refine lv_dup hx hb dM_feed_106 rfl ?_
  refine va_get (D := D) (ci := 5) (v := .int 18) (C := "ValueBenchModel") (T := TM) (N := 32) hx hb htx inM hown hK hP 0 rfl rfl 27 (by decide) (htx _ kw_5_114) (fun _ h9 => h9) rfl dM_feed_107 ?_
  refine lv_iconst (v := 1) hx hb dM_feed_110 (by decide) ?_
  refine lv_iadd hx hb dM_feed_111 ?_
  refine W.eq (g2 := F0 m 112 ls [.int 19, .ref a0]) rfl ?_
  refine va_put (D := D) (ci := 5) (v := .int 19) (ty := .int) (C := "ValueBenchModel") (T := TM) (N := 32) hx hb htx inM tyM tyM_ok nmM hown hK hP hD hS 0 rfl rfl 27 (by decide) (htx _ kw_5_114) (fun _ h9 => h9) rfl (by decide +kernel) rfl rfl (Nat.le_of_ble_eq_true rfl) dM_feed_112 (fun H locs hP hD hS => ?_)
  obtain ⟨hP, hD⟩ : xPD D xcl A [(a0, .inr (5, [.int 0, v8, v9, v10, v11, v12, v13, v14, v15, v16, v17, v18, v19, v20, v21, v22, v23, v24, v25, v26, v27, v28, v29, v30, v31, v32, .ref a1, .int 19, v33, v34, v35, v36])), (a1, .inl (cT 0, 4096, .inl (upd (upd (upd (upd (upd (upd (upd (upd (upd (upd (upd (upd (upd (upd (upd (upd (upd (upd (upd f37 0 (vp_nar .byte y2)) 1 (vp_nar .byte y4)) 2 (vp_nar .byte y6)) 3 (vp_nar .byte y8)) 4 (vp_nar .byte y10)) 5 (vp_nar .byte y12)) 6 (vp_nar .byte y14)) 7 (vp_nar .byte y16)) 8 (vp_nar .byte y18)) 9 (vp_nar .byte y20)) 10 (vp_nar .byte y22)) 11 (vp_nar .byte y24)) 12 (vp_nar .byte y26)) 13 (vp_nar .byte y28)) 14 (vp_nar .byte y30)) 15 (vp_nar .byte y32)) 16 (vp_nar .byte y34)) 17 (vp_nar .byte y36)) 18 (vp_nar .byte y38))))] H := ⟨hP, hD⟩
  refine lv_iinc (v := 19) (lv' := [(6, .int 19), (7, .int x6), (0, .ref a0), (1, .int x2), (2, .int x3), (3, .int x4), (4, .int x5), (5, .int x6)]) hx hb dM_feed_115 hl (k := 1) rfl (by decide) (by decide) rfl (fun ls hl => ?_)
  refine lv_goto (tgt := 27) hx hb dM_feed_118 (by decide) ?_
  refine lv_iload hx hb dM_feed_27 (lv_at hl 0 rfl) ?_
  refine lv_bipush (v := 20) hx hb dM_feed_29 (by decide) ?_
  refine lv_icmp_ge (tgt := 121) hx hb dM_feed_31 (by decide) (fun h => ((by revert h; decide : False)).elim) (fun _ => ?_)
  refine lv_iload hx hb dM_feed_34 (lv_at hl 0 rfl) ?_
  refine lv_iconst (v := 4) hx hb dM_feed_36 (by decide) ?_
  refine lv_icmp_ge (tgt := 44) hx hb dM_feed_37 (by decide) (fun _ => ?_) (fun h => ((by revert h; decide : False)).elim)
  refine lv_iload hx hb dM_feed_44 (lv_at hl 0 rfl) ?_
  refine lv_bipush (v := 8) hx hb dM_feed_46 (by decide) ?_
  refine lv_icmp_ge (tgt := 55) hx hb dM_feed_48 (by decide) (fun _ => ?_) (fun h => ((by revert h; decide : False)).elim)
  refine lv_iload hx hb dM_feed_55 (lv_at hl 0 rfl) ?_
  refine lv_bipush (v := 12) hx hb dM_feed_57 (by decide) ?_
  refine lv_icmp_ge (tgt := 66) hx hb dM_feed_59 (by decide) (fun _ => ?_) (fun h => ((by revert h; decide : False)).elim)
  refine lv_iload hx hb dM_feed_66 (lv_at hl 0 rfl) ?_
  refine lv_bipush (v := 16) hx hb dM_feed_68 (by decide) ?_
  refine lv_icmp_ge (tgt := 78) hx hb dM_feed_70 (by decide) (fun _ => ?_) (fun h => ((by revert h; decide : False)).elim)
  refine lv_iload hx hb dM_feed_78 (lv_at hl 7 rfl) ?_
  refine lv_istore (lv' := [(7, .int x6), (6, .int 19), (0, .ref a0), (1, .int x2), (2, .int x3), (3, .int x4), (4, .int x5), (5, .int x6)]) hx hb dM_feed_80 hl (by decide) rfl (fun ls hl => ?_)
  refine lv_aload_n hx hb dM_feed_82 rfl (lv_at hl 2 rfl) ?_
  refine va_get (D := D) (ci := 5) (v := .ref a1) (C := "ValueBenchModel") (T := TM) (N := 32) hx hb htx inM hown hK hP 0 rfl rfl 26 (by decide) (htx _ kw_5_113) (fun _ h9 => h9) rfl dM_feed_83 ?_
  refine lv_aload_n hx hb dM_feed_86 rfl (lv_at hl 2 rfl) ?_
  refine va_get (D := D) (ci := 5) (v := .int 19) (C := "ValueBenchModel") (T := TM) (N := 32) hx hb htx inM hown hK hP 0 rfl rfl 27 (by decide) (htx _ kw_5_114) (fun _ h9 => h9) rfl dM_feed_87 ?_
  refine lv_iload hx hb dM_feed_90 (lv_at hl 0 rfl) ?_
  refine lv_bipush (v := 24) hx hb dM_feed_92 (by decide) ?_
  refine lv_bipush (v := 8) hx hb dM_feed_94 (by decide) ?_
  refine lv_iload hx hb dM_feed_96 (lv_at hl 1 rfl) ?_
  refine lv_iconst (v := 4) hx hb dM_feed_98 (by decide) ?_
  refine lv_irem hx hb dM_feed_99 (by decide) ?_
  refine W.eq (g2 := F0 m 100 ls [.int 3, .int 8, .int 24, .int x6, .int 19, .ref a1]) rfl ?_
  refine lv_imul hx hb dM_feed_100 ?_
  refine W.eq (g2 := F0 m 101 ls [.int 24, .int 24, .int x6, .int 19, .ref a1]) rfl ?_
  refine lv_isub hx hb dM_feed_101 ?_
  refine W.eq (g2 := F0 m 102 ls [.int 0, .int x6, .int 19, .ref a1]) rfl ?_
  refine lv_ishr hx hb dM_feed_102 ?_
  refine lv_topi (fun y39 ey39 => ?_)
  refine lv_i2b hx hb dM_feed_103 rfl ?_
  refine lv_topi (fun y40 ey40 => ?_)
  refine va_bast hx hb hK hP hD hS 1 0 rfl rfl (show ¬ ((19 : Int32) < 0 ∨ 4096 ≤ (19 : Int32).toNatClampNeg) by decide) dM_feed_104 (fun H locs hP hD hS => ?_)
  obtain ⟨hP, hD⟩ : xPD D xcl A [(a0, .inr (5, [.int 0, v8, v9, v10, v11, v12, v13, v14, v15, v16, v17, v18, v19, v20, v21, v22, v23, v24, v25, v26, v27, v28, v29, v30, v31, v32, .ref a1, .int 19, v33, v34, v35, v36])), (a1, .inl (cT 0, 4096, .inl (upd (upd (upd (upd (upd (upd (upd (upd (upd (upd (upd (upd (upd (upd (upd (upd (upd (upd (upd (upd f37 0 (vp_nar .byte y2)) 1 (vp_nar .byte y4)) 2 (vp_nar .byte y6)) 3 (vp_nar .byte y8)) 4 (vp_nar .byte y10)) 5 (vp_nar .byte y12)) 6 (vp_nar .byte y14)) 7 (vp_nar .byte y16)) 8 (vp_nar .byte y18)) 9 (vp_nar .byte y20)) 10 (vp_nar .byte y22)) 11 (vp_nar .byte y24)) 12 (vp_nar .byte y26)) 13 (vp_nar .byte y28)) 14 (vp_nar .byte y30)) 15 (vp_nar .byte y32)) 16 (vp_nar .byte y34)) 17 (vp_nar .byte y36)) 18 (vp_nar .byte y38)) 19 (vp_nar .byte y40))))] H := ⟨hP, hD⟩
  refine lv_aload_n hx hb dM_feed_105 rfl (lv_at hl 2 rfl) ?_
  refine lv_dup hx hb dM_feed_106 rfl ?_
  refine va_get (D := D) (ci := 5) (v := .int 19) (C := "ValueBenchModel") (T := TM) (N := 32) hx hb htx inM hown hK hP 0 rfl rfl 27 (by decide) (htx _ kw_5_114) (fun _ h9 => h9) rfl dM_feed_107 ?_
  refine lv_iconst (v := 1) hx hb dM_feed_110 (by decide) ?_
  refine lv_iadd hx hb dM_feed_111 ?_
  refine W.eq (g2 := F0 m 112 ls [.int 20, .ref a0]) rfl ?_
  refine va_put (D := D) (ci := 5) (v := .int 20) (ty := .int) (C := "ValueBenchModel") (T := TM) (N := 32) hx hb htx inM tyM tyM_ok nmM hown hK hP hD hS 0 rfl rfl 27 (by decide) (htx _ kw_5_114) (fun _ h9 => h9) rfl (by decide +kernel) rfl rfl (Nat.le_of_ble_eq_true rfl) dM_feed_112 (fun H locs hP hD hS => ?_)
  obtain ⟨hP, hD⟩ : xPD D xcl A [(a0, .inr (5, [.int 0, v8, v9, v10, v11, v12, v13, v14, v15, v16, v17, v18, v19, v20, v21, v22, v23, v24, v25, v26, v27, v28, v29, v30, v31, v32, .ref a1, .int 20, v33, v34, v35, v36])), (a1, .inl (cT 0, 4096, .inl (upd (upd (upd (upd (upd (upd (upd (upd (upd (upd (upd (upd (upd (upd (upd (upd (upd (upd (upd (upd f37 0 (vp_nar .byte y2)) 1 (vp_nar .byte y4)) 2 (vp_nar .byte y6)) 3 (vp_nar .byte y8)) 4 (vp_nar .byte y10)) 5 (vp_nar .byte y12)) 6 (vp_nar .byte y14)) 7 (vp_nar .byte y16)) 8 (vp_nar .byte y18)) 9 (vp_nar .byte y20)) 10 (vp_nar .byte y22)) 11 (vp_nar .byte y24)) 12 (vp_nar .byte y26)) 13 (vp_nar .byte y28)) 14 (vp_nar .byte y30)) 15 (vp_nar .byte y32)) 16 (vp_nar .byte y34)) 17 (vp_nar .byte y36)) 18 (vp_nar .byte y38)) 19 (vp_nar .byte y40))))] H := ⟨hP, hD⟩
  refine lv_iinc (v := 20) (lv' := [(6, .int 20), (7, .int x6), (0, .ref a0), (1, .int x2), (2, .int x3), (3, .int x4), (4, .int x5), (5, .int x6)]) hx hb dM_feed_115 hl (k := 1) rfl (by decide) (by decide) rfl (fun ls hl => ?_)
  refine lv_goto (tgt := 27) hx hb dM_feed_118 (by decide) ?_
  refine lv_iload hx hb dM_feed_27 (lv_at hl 0 rfl) ?_
  refine lv_bipush (v := 20) hx hb dM_feed_29 (by decide) ?_
  refine lv_icmp_ge (tgt := 121) hx hb dM_feed_31 (by decide) (fun _ => ?_) (fun h => ((by revert h; decide : False)).elim)
  refine lv_aload_n hx hb dM_feed_121 rfl (lv_at hl 2 rfl) ?_
  refine va_get (D := D) (ci := 5) (v := .int 20) (C := "ValueBenchModel") (T := TM) (N := 32) hx hb htx inM hown hK hP 0 rfl rfl 27 (by decide) (htx _ kw_5_114) (fun _ h9 => h9) rfl dM_feed_122 ?_
  obtain ⟨hP9, hD9⟩ := xsub (wc := [(a0, .inr (5, [.int 0, v8, v9, v10, v11, v12, v13, v14, v15, v16, v17, v18, v19, v20, v21, v22, v23, v24, v25, v26, v27, v28, v29, v30, v31, v32, .ref a1, .int 20, v33, v34, v35, v36])), (a1, .inl (cT 0, 4096, .inl (upd (upd (upd (upd (upd (upd (upd (upd (upd (upd (upd (upd (upd (upd (upd (upd (upd (upd (upd (upd f37 0 (vp_nar .byte y2)) 1 (vp_nar .byte y4)) 2 (vp_nar .byte y6)) 3 (vp_nar .byte y8)) 4 (vp_nar .byte y10)) 5 (vp_nar .byte y12)) 6 (vp_nar .byte y14)) 7 (vp_nar .byte y16)) 8 (vp_nar .byte y18)) 9 (vp_nar .byte y20)) 10 (vp_nar .byte y22)) 11 (vp_nar .byte y24)) 12 (vp_nar .byte y26)) 13 (vp_nar .byte y28)) 14 (vp_nar .byte y30)) 15 (vp_nar .byte y32)) 16 (vp_nar .byte y34)) 17 (vp_nar .byte y36)) 18 (vp_nar .byte y38)) 19 (vp_nar .byte y40))))]) hP hD [0, 1] rfl rfl (by decide)
  refine W.widen (k := 0) (n := 0) (Nat.le_of_ble_eq_true rfl) (Nat.le_of_ble_eq_true rfl) ?_
  exact W.iret (v := 20) hx hb hr (fun t ht hW => ⟨⟨20, (), rfl, rfl, y2, y4, y6, y8, y10, y12, y14, y16, y18, y20, y22, y24, y26, y28, y30, y32, y34, y36, y38, y40, by rw [ht]; exact hP9, va_K.moved hW.alike hK, hD9⟩, hS.F ht⟩) hS.2.2 dM_feed_125
set_option maxHeartbeats 400000000 in
set_option maxRecDepth 100000 in
theorem cM_thrown_0 (l : Launch) (hl9 : l.stackTraces = false) (D : va_G) (cT : Nat → ClassId) (aK aV : Nat → Nat) (sz : Nat) (a0 : Nat) (v1 : Value) (v2 : Value) (v3 : Value) (v4 : Value) (v5 : Value) (v6 : Value) (v7 : Value) (v8 : Value) (v9 : Value) (v10 : Value) (v11 : Value) (v12 : Value) (v13 : Value) (v14 : Value) (v15 : Value) (v16 : Value) (v17 : Value) (v18 : Value) (v19 : Value) (v20 : Value) (v21 : Value) (v22 : Value) (v23 : Value) (v24 : Value) (v25 : Value) (v26 : Value) (v27 : Value) (v28 : Value) (v29 : Value) (v30 : Value) (v31 : Value) : xMet l yM_thrown wyM_thrown 0 0 0 0 D cT aK aV sz [.ref a0] [(a0, .inr (5, [.int 0, v1, v2, v3, v4, v5, v6, v7, v8, v9, v10, v11, v12, v13, v14, v15, v16, v17, v18, v19, v20, v21, v22, v23, v24, v25, v26, v27, v28, v29, v30, v31]))] (fun A => va_Qi (fun (r : Int32) (_ : Unit) => r = 0) (fun _ t => xB D xcl cT A [(a0, .inr (5, [.int 0, v1, v2, v3, v4, v5, v6, v7, v8, v9, v10, v11, v12, v13, v14, v15, v16, v17, v18, v19, v20, v21, v22, v23, v24, v25, v26, v27, v28, v29, v30, v31]))] t) A) := by
  refine Met.ofW (cc := prog_13_method_2_code) (maxL := 1) (ret := (some .int)) (by decide) rfl ?_
  intro p e s m args below meth c s₁ B hml hv
  obtain ⟨rfl, hsz, hZ, hP, hK, hD0⟩ := hv
  have hx := B.exec
  have hb := B.bytes
  have hr := B.returns
  have hts := atoms_spec (ws := wyM_thrown) B.pre
  have htx := fun w h => hts w (List.mem_cons_of_mem _ h)
  have hown : s.vm.findClass "ValueBenchModel" = some m.cls := findClass_of_methodNamed B.named
  have hlocks := B.notSynchronized
  subst hsz
  have hD := hD0.self (sz := s.heap.size)
  generalize hAe : va_A [(a0, .inr (5, [.int 0, v1, v2, v3, v4, v5, v6, v7, v8, v9, v10, v11, v12, v13, v14, v15, v16, v17, v18, v19, v20, v21, v22, v23, v24, v25, v26, v27, v28, v29, v30, v31]))] s.heap.size = A at hD hZ ⊢
  have hA : ∀ q : Nat, s.heap.size ≤ q → A q := fun q h => by rw [← hAe]; exact Or.inr h
  have hS : va_S A s.heap s.heap [] := va_S.rf
  have hP : va_P D xcl [(a0, .inr (5, [.int 0, v1, v2, v3, v4, v5, v6, v7, v8, v9, v10, v11, v12, v13, v14, v15, v16, v17, v18, v19, v20, v21, v22, v23, v24, v25, v26, v27, v28, v29, v30, v31]))] s.heap := hP
  have hl := lv_entry ([.ref a0]) (n := 1) (Nat.le_of_ble_eq_true rfl)
  rw [lg_entry_eq]
  generalize (lg_sl ([.ref a0]) ++ List.replicate (1 - (lg_sl ([.ref a0])).length) Slot.unset).toArray = ls at hl ⊢
  have hl : lv_has ls 1 [(0, .ref a0)] := hl
  refine lv_aload_n hx hb dM_thrown_0 rfl (lv_at hl 0 rfl) ?_
  refine va_get (D := D) (ci := 5) (v := .int 0) (C := "ValueBenchModel") (T := TM) (N := 32) hx hb htx inM hown hK hP 0 rfl rfl 0 (by decide) (htx _ kw_5_87) (fun _ h9 => h9) rfl dM_thrown_1 ?_
  obtain ⟨hP9, hD9⟩ := xsub (wc := [(a0, .inr (5, [.int 0, v1, v2, v3, v4, v5, v6, v7, v8, v9, v10, v11, v12, v13, v14, v15, v16, v17, v18, v19, v20, v21, v22, v23, v24, v25, v26, v27, v28, v29, v30, v31]))]) hP hD [0] rfl rfl (by decide)
  refine W.widen (k := 0) (n := 0) (Nat.le_of_ble_eq_true rfl) (Nat.le_of_ble_eq_true rfl) ?_
  exact W.iret (v := 0) hx hb hr (fun t ht hW => ⟨⟨0, (), rfl, rfl, by rw [ht]; exact hP9, va_K.moved hW.alike hK, hD9⟩, hS.F ht⟩) hS.2.2 dM_thrown_4
set_option maxHeartbeats 400000000 in
set_option maxRecDepth 100000 in
theorem cT_size_2 (l : Launch) (hl9 : l.stackTraces = false) (D : va_G) (cT : Nat → ClassId) (aK aV : Nat → Nat) (sz : Nat) (a0 : Nat) (v1 : Value) (x2 : Int32) (v3 : Value) : xMet l yT_size wyT_size 0 0 0 0 D cT aK aV sz [.ref a0] [(a0, .inr (1, [v1, .int x2, v3]))] (fun A => va_Qi (fun (r : Int32) (_ : Unit) => r = x2) (fun _ t => xB D xcl cT A [(a0, .inr (1, [v1, .int x2, v3]))] t) A) := by
  refine Met.ofW (cc := prog_11_method_4_code) (maxL := 1) (ret := (some .int)) (by decide) rfl ?_
  intro p e s m args below meth c s₁ B hml hv
  obtain ⟨rfl, hsz, hZ, hP, hK, hD0⟩ := hv
  have hx := B.exec
  have hb := B.bytes
  have hr := B.returns
  have hts := atoms_spec (ws := wyT_size) B.pre
  have htx := fun w h => hts w (List.mem_cons_of_mem _ h)
  have hown : s.vm.findClass "ValueBench$Text" = some m.cls := findClass_of_methodNamed B.named
  have hlocks := B.notSynchronized
  subst hsz
  have hD := hD0.self (sz := s.heap.size)
  generalize hAe : va_A [(a0, .inr (1, [v1, .int x2, v3]))] s.heap.size = A at hD hZ ⊢
  have hA : ∀ q : Nat, s.heap.size ≤ q → A q := fun q h => by rw [← hAe]; exact Or.inr h
  have hS : va_S A s.heap s.heap [] := va_S.rf
  have hP : va_P D xcl [(a0, .inr (1, [v1, .int x2, v3]))] s.heap := hP
  have hl := lv_entry ([.ref a0]) (n := 1) (Nat.le_of_ble_eq_true rfl)
  rw [lg_entry_eq]
  generalize (lg_sl ([.ref a0]) ++ List.replicate (1 - (lg_sl ([.ref a0])).length) Slot.unset).toArray = ls at hl ⊢
  have hl : lv_has ls 1 [(0, .ref a0)] := hl
  refine lv_aload_n hx hb dT_size_0 rfl (lv_at hl 0 rfl) ?_
  refine va_get (D := D) (ci := 1) (v := .int x2) (C := "ValueBench$Text") (T := TT) (N := 3) hx hb htx inT hown hK hP 0 rfl rfl 1 (by decide) (htx _ kw_1_44) (fun _ h9 => h9) rfl dT_size_1 ?_
  obtain ⟨hP9, hD9⟩ := xsub (wc := [(a0, .inr (1, [v1, .int x2, v3]))]) hP hD [0] rfl rfl (by decide)
  refine W.widen (k := 0) (n := 0) (Nat.le_of_ble_eq_true rfl) (Nat.le_of_ble_eq_true rfl) ?_
  exact W.iret (v := x2) hx hb hr (fun t ht hW => ⟨⟨x2, (), rfl, rfl, by rw [ht]; exact hP9, va_K.moved hW.alike hK, hD9⟩, hS.F ht⟩) hS.2.2 dT_size_4
set_option maxHeartbeats 400000000 in
set_option maxRecDepth 100000 in
theorem cB_isWithin_0 (l : Launch) (hl9 : l.stackTraces = false) (D : va_G) (cT : Nat → ClassId) (aK aV : Nat → Nat) (sz : Nat) (x0 : Int32) (x2 : Int32) (h1 : x0 < 0) : xMet l yB_isWithin wyB_isWithin 0 0 0 0 D cT aK aV sz [.int x0, .int x2] [] (fun A => va_Qi (fun (r : Int32) (_ : Unit) => r = 0) (fun _ t => xB D xcl cT A [] t) A) := by
  refine Met.ofW (cc := prog_1_method_15_code) (maxL := 2) (ret := (some .boolean)) (by decide) rfl ?_
  intro p e s m args below meth c s₁ B hml hv
  obtain ⟨rfl, hsz, hZ, hP, hK, hD0⟩ := hv
  have hx := B.exec
  have hb := B.bytes
  have hr := B.returns
  have hts := atoms_spec (ws := wyB_isWithin) B.pre
  have htx := fun w h => hts w (List.mem_cons_of_mem _ h)
  have hown : s.vm.findClass "ValueBench" = some m.cls := findClass_of_methodNamed B.named
  have hlocks := B.notSynchronized
  subst hsz
  have hD := hD0.self (sz := s.heap.size)
  generalize hAe : va_A [] s.heap.size = A at hD hZ ⊢
  have hA : ∀ q : Nat, s.heap.size ≤ q → A q := fun q h => by rw [← hAe]; exact Or.inr h
  have hS : va_S A s.heap s.heap [] := va_S.rf
  have hP : va_P D xcl [] s.heap := hP
  have hl := lv_entry ([.int x0, .int x2]) (n := 2) (Nat.le_of_ble_eq_true rfl)
  rw [lg_entry_eq]
  generalize (lg_sl ([.int x0, .int x2]) ++ List.replicate (2 - (lg_sl ([.int x0, .int x2])).length) Slot.unset).toArray = ls at hl ⊢
  have hl : lv_has ls 2 [(0, .int x0), (1, .int x2)] := hl
  refine lv_iload_n hx hb dB_isWithin_0 rfl (lv_at hl 0 rfl) ?_
  refine lv_if_lt (tgt := 13) hx hb dB_isWithin_1 (by decide) (fun _ => ?_) (fun h => by first | exact absurd h h1 | exact absurd h1 h)
  refine lv_iconst (v := 0) hx hb dB_isWithin_13 (by decide) ?_
  obtain ⟨hP9, hD9⟩ := xsub (wc := []) hP hD [] rfl rfl (by decide)
  refine W.widen (k := 0) (n := 0) (Nat.le_of_ble_eq_true rfl) (Nat.le_of_ble_eq_true rfl) ?_
  exact W.zret (v := 0) hx hb hr rfl (fun t ht hW => ⟨⟨0, (), rfl, rfl, by rw [ht]; exact hP9, va_K.moved hW.alike hK, hD9⟩, hS.F ht⟩) hS.2.2 dB_isWithin_14
set_option maxHeartbeats 400000000 in
set_option maxRecDepth 100000 in
theorem cB_demand_0 (l : Launch) (hl9 : l.stackTraces = false) (D : va_G) (cT : Nat → ClassId) (aK aV : Nat → Nat) (sz : Nat) : xMetX l yB_demand wyB_demand 6 1 6 100 D cT aK aV sz [.int 0] [] "java/lang/IllegalArgumentException" (fun A t => xB D xcl cT A [] t) := by
  refine vx_ofW (cc := prog_1_method_16_code) (maxL := 1) (ret := none) (by decide) rfl ?_
  intro p e s m args below meth c s₁ B hml hne hv
  obtain ⟨rfl, hsz, hZ, hP, hK, hD0⟩ := hv
  have hx := B.exec
  have hb := B.bytes
  have hr := B.returns
  have hts := atoms_spec (ws := wyB_demand) B.pre
  have htx := fun w h => hts w (List.mem_cons_of_mem _ h)
  have hown : s.vm.findClass "ValueBench" = some m.cls := findClass_of_methodNamed B.named
  have hlocks := B.notSynchronized
  subst hsz
  have hD := hD0.self (sz := s.heap.size)
  generalize hAe : va_A [] s.heap.size = A at hD hZ ⊢
  have hA : ∀ q : Nat, s.heap.size ≤ q → A q := fun q h => by rw [← hAe]; exact Or.inr h
  have hS : va_S A s.heap s.heap [] := va_S.rf
  have hP : va_P D xcl [] s.heap := hP
  have hl := lv_entry ([.int 0]) (n := 1) (Nat.le_of_ble_eq_true rfl)
  rw [lg_entry_eq]
  generalize (lg_sl ([.int 0]) ++ List.replicate (1 - (lg_sl ([.int 0])).length) Slot.unset).toArray = ls at hl ⊢
  have hl : lv_has ls 1 [(0, .int 0)] := hl
  refine lv_iload_n hx hb dB_demand_0 rfl (lv_at hl 0 rfl) ?_
  refine lv_if_ne (tgt := 14) hx hb dB_demand_1 (by decide) (fun h => ((by revert h; decide : False)).elim) (fun _ => ?_)
  obtain ⟨hP9, hD9⟩ := xsub (wc := []) hP hD [] rfl rfl (by decide)
  exact vx_throwS (own := "ValueBench") (cls := "java/lang/IllegalArgumentException") (text := "a number out of range") (sa := aK 3) (names := ["java/lang/RuntimeException", "java/lang/Exception"]) hx hb hl9 hown (by decide +kernel) (by decide +kernel) (htx _ kw_1_222) (htx _ kw_1_14) (hZ.2.2.2.2.2.2.2.2.1 ("ValueBench", 151, "a number out of range", 3) (List.mem_of_getElem? (i := 3) rfl)) (vx_hat (B := [.castable "java/lang/IllegalArgumentException" "java/lang/IllegalArgumentException", .declares ⟨"java/lang/RuntimeException", "<init>", "(Ljava/lang/String;)V"⟩, .declares ⟨"java/lang/Exception", "<init>", "(Ljava/lang/String;)V"⟩, .declares ⟨"java/lang/Throwable", "<init>", "(Ljava/lang/String;)V"⟩]) (fun w h => htx w (xat_B_149_153 w h)) xat_B_149_153_b (vx_c ((hZ.2.2.2.2.2.1 "java/lang/IllegalArgumentException" (List.mem_of_getElem? (i := 1) rfl)).use rfl) (vx_c ((hZ.2.2.2.2.2.2.1 ⟨"java/lang/RuntimeException", "<init>", "(Ljava/lang/String;)V"⟩ (List.mem_of_getElem? (i := 3) rfl)).use rfl) (vx_c ((hZ.2.2.2.2.2.2.1 ⟨"java/lang/Exception", "<init>", "(Ljava/lang/String;)V"⟩ (List.mem_of_getElem? (i := 4) rfl)).use rfl) (vx_c ((hZ.2.2.2.2.2.2.1 ⟨"java/lang/Throwable", "<init>", "(Ljava/lang/String;)V"⟩ (List.mem_of_getElem? (i := 5) rfl)).use rfl) vx_n))))) xat_B_149_153_g hZ.2.2.2.1 hZ.2.2.2.2.1 hS (hl.1.trans hml.symm) dB_demand_4 dB_demand_7 dB_demand_8 dB_demand_10 dB_demand_13 (fun x h => (hne x h).elim) (by decide) (Nat.le_of_ble_eq_true rfl) (Nat.le_of_ble_eq_true rfl) (Nat.le_of_ble_eq_true rfl) hlocks (fun t ha hz hk => ⟨(), trivial, ⟨rfl, xx_keepP hP9 hk, va_K.moved ha hK, hD9⟩, xx_grown hS hz hk⟩) hS.2.2 (Nat.le_of_ble_eq_true rfl) (Nat.le_of_ble_eq_true rfl)
set_option maxHeartbeats 400000000 in
set_option maxRecDepth 100000 in
theorem cB_end_0 (l : Launch) (hl9 : l.stackTraces = false) (D : va_G) (cT : Nat → ClassId) (aK aV : Nat → Nat) (sz : Nat) (a0 : Nat) (a1 : Nat) (x2 : Int32) (v4 : Value) (v5 : Value) (v6 : Value) (v7 : Value) (v8 : Value) (v9 : Value) (v10 : Value) (v11 : Value) (x12 : Int32) (v13 : Value) (h3 : x2 < 0) : xMetX l yB_end wyB_end 7 1 6 120 D cT aK aV sz [.ref a0, .int x2] [(a0, .inr (0, [.ref a1, v4, v5, v6, v7, v8, v9, v10])), (a1, .inr (1, [v11, .int x12, v13]))] "java/lang/IllegalArgumentException" (fun A t => xB D xcl cT A [(a0, .inr (0, [.ref a1, v4, v5, v6, v7, v8, v9, v10])), (a1, .inr (1, [v11, .int x12, v13]))] t) := by
  refine vx_ofW (cc := prog_1_method_3_code) (maxL := 2) (ret := (some .int)) (by decide) rfl ?_
  intro p e s m args below meth c s₁ B hml hne hv
  obtain ⟨rfl, hsz, hZ, hP, hK, hD0⟩ := hv
  have hx := B.exec
  have hb := B.bytes
  have hr := B.returns
  have hts := atoms_spec (ws := wyB_end) B.pre
  have htx := fun w h => hts w (List.mem_cons_of_mem _ h)
  have hown : s.vm.findClass "ValueBench" = some m.cls := findClass_of_methodNamed B.named
  have hlocks := B.notSynchronized
  subst hsz
  have hD := hD0.self (sz := s.heap.size)
  generalize hAe : va_A [(a0, .inr (0, [.ref a1, v4, v5, v6, v7, v8, v9, v10])), (a1, .inr (1, [v11, .int x12, v13]))] s.heap.size = A at hD hZ ⊢
  have hA : ∀ q : Nat, s.heap.size ≤ q → A q := fun q h => by rw [← hAe]; exact Or.inr h
  have hS : va_S A s.heap s.heap [] := va_S.rf
  have hP : va_P D xcl [(a0, .inr (0, [.ref a1, v4, v5, v6, v7, v8, v9, v10])), (a1, .inr (1, [v11, .int x12, v13]))] s.heap := hP
  have hl := lv_entry ([.ref a0, .int x2]) (n := 2) (Nat.le_of_ble_eq_true rfl)
  rw [lg_entry_eq]
  generalize (lg_sl ([.ref a0, .int x2]) ++ List.replicate (2 - (lg_sl ([.ref a0, .int x2])).length) Slot.unset).toArray = ls at hl ⊢
  have hl : lv_has ls 2 [(0, .ref a0), (1, .int x2)] := hl
  refine lv_iload_n hx hb dB_end_0 rfl (lv_at hl 1 rfl) ?_
  refine lv_aload_n hx hb dB_end_1 rfl (lv_at hl 0 rfl) ?_
  refine va_get (D := D) (ci := 0) (v := .ref a1) (C := "ValueBench") (T := TB) (N := 8) hx hb htx inB hown hK hP 0 rfl rfl 0 (by decide) (htx _ kw_1_95) (fun _ h9 => h9) rfl dB_end_2 ?_
  obtain ⟨hPc, hDc, hFc⟩ := xcut (wc := [(a1, .inr (1, [v11, .int x12, v13]))]) hP hD hS hA [1] rfl rfl (by decide)
  refine va_calli (va_runV (C := "ValueBench$Text") (As := []) (rest := [.int x2]) ⟨hx, hb, hml, hown, htx⟩ (cT_size_2 l hl9 D cT aK aV s.heap.size a1 v11 x12 v13) ⟨callB_of 0 htx (xw_goodC kw_1_131) rfl rfl rfl (htx _ kw_1_2) (htx _ kw_1_128) ⟨by decide, by decide, by decide +kernel⟩ ⟨Nat.le_of_ble_eq_true rfl, Nat.le_of_ble_eq_true rfl⟩, (htx _ kw_1_129), (htx _ kw_1_130)⟩ ⟨xPre_blind, va_recv hK hP (ci := 1) rfl (q0 := 1) rfl, (fun U hU hW => ⟨rfl, xPre_of hZ hS hFc hPc hDc hK U hU hW⟩)⟩ rfl rfl hl.1 rfl (lv_room (Nat.le_of_ble_eq_true rfl)) dB_end_5 ⟨Nat.le_of_ble_eq_true rfl, Nat.le_of_ble_eq_true rfl⟩) hS (fun q _ h => hFc q h) hFc (fun r1 u9 t H1 locs ht hvm hr9 hB hz1 hk1 hS => ?_)
  obtain ⟨hP1, hK1, hD1⟩ := hB
  rw [ht] at hP1
  obtain ⟨hP, hD⟩ := xjoin (W := [(a0, .inr (0, [.ref a1, v4, v5, v6, v7, v8, v9, v10])), (a1, .inr (1, [v11, .int x12, v13]))]) hP hD [1] [0] 1 rfl rfl (by decide) (by decide) hk1 hFc hP1 hD1
  generalize H1 = H at hP hS ⊢
  rw [hr9]
  obtain ⟨hPc, hDc, hFc⟩ := xcut (wc := []) hP hD hS hA [] rfl rfl (by decide)
  refine va_calli (va_runS (As := [.int x2, .int x12]) (rest := []) ⟨hx, hb, hml, hown, htx⟩ (cB_isWithin_0 l hl9 D cT aK aV H.size x2 x12 h3) ⟨callB_of 2 htx (xw_goodC kw_1_218) rfl rfl rfl (htx _ kw_1_1) (htx _ kw_1_216) ⟨by decide, by decide, by decide +kernel⟩ ⟨Nat.le_of_ble_eq_true rfl, Nat.le_of_ble_eq_true rfl⟩, htx _ kw_1_217⟩ ⟨xPre_blind, (fun U hU hW => ⟨rfl, xPre_of hZ hS hFc hPc hDc hK U hU hW⟩)⟩ rfl rfl hl.1 rfl (lv_room (Nat.le_of_ble_eq_true rfl)) dB_end_8 ⟨Nat.le_of_ble_eq_true rfl, Nat.le_of_ble_eq_true rfl⟩) hS (fun q _ h => hFc q h) hFc (fun r2 u9 t H1 locs ht hvm hr9 hB hz1 hk1 hS => ?_)
  obtain ⟨hP1, hK1, hD1⟩ := hB
  rw [ht] at hP1
  obtain ⟨hP, hD⟩ := xjoin (W := [(a0, .inr (0, [.ref a1, v4, v5, v6, v7, v8, v9, v10])), (a1, .inr (1, [v11, .int x12, v13]))]) hP hD [] [0, 1] 2 rfl rfl (by decide) (by decide) hk1 hFc hP1 hD1
  generalize H1 = H at hP hS ⊢
  rw [hr9]
  refine W.eq (g2 := F0 m 11 ls [.int 0]) rfl ?_
  obtain ⟨hPc, hDc, hFc⟩ := xcut (wc := []) hP hD hS hA [] rfl rfl (by decide)
  refine xx_thr (vx_runS (As := [.int 0]) (rest := []) ⟨hx, hb, hml, hown, htx⟩ (cB_demand_0 l hl9 D cT aK aV H.size) ⟨callB_of 1 htx (xw_goodC kw_1_221) rfl rfl rfl (htx _ kw_1_1) (htx _ kw_1_219) ⟨by decide, by decide, by decide +kernel⟩ ⟨Nat.le_of_ble_eq_true rfl, Nat.le_of_ble_eq_true rfl⟩, htx _ kw_1_220⟩ ⟨xPre_blind, (fun U hU hW => ⟨rfl, xPre_of hZ hS hFc hPc hDc hK U hU hW⟩)⟩ rfl rfl hl.1 rfl (lv_room (Nat.le_of_ble_eq_true rfl)) dB_end_11 ⟨Nat.le_of_ble_eq_true rfl, Nat.le_of_ble_eq_true rfl⟩) hS hFc (fun q _ h => hFc q h) (fun E ce q9 u9 t H1 locs ht hvm _ hB hz1 hk1 hS hce hcv hcl => ?_)
  obtain ⟨rfl, hP1, hK1, hD1⟩ := hB
  rw [ht] at hP1
  obtain ⟨hP, hD⟩ := xjoin (W := [(a0, .inr (0, [.ref a1, v4, v5, v6, v7, v8, v9, v10])), (a1, .inr (1, [v11, .int x12, v13]))]) hP hD [] [0, 1] 2 rfl rfl (by decide) (by decide) hk1 hFc hP1 hD1
  generalize H1 = H at hP hS hce ⊢
  obtain ⟨hP9, hD9⟩ := xsub (wc := [(a0, .inr (0, [.ref a1, v4, v5, v6, v7, v8, v9, v10])), (a1, .inr (1, [v11, .int x12, v13]))]) hP hD [0, 1] rfl rfl (by decide)
  exact vx_out (E := "java/lang/IllegalArgumentException") (fun x h => (hne x h).elim) hlocks hce hcv hcl (fun t ht ha => ⟨(), trivial, ⟨rfl, by rw [ht]; exact hP9, va_K.moved ha hK, hD9⟩, hS.F ht⟩) hS.2.2 (Nat.le_of_ble_eq_true rfl) (Nat.le_of_ble_eq_true rfl)
set_option maxHeartbeats 400000000 in
set_option maxRecDepth 100000 in
theorem cL_end_0 (l : Launch) (hl9 : l.stackTraces = false) (D : va_G) (cT : Nat → ClassId) (aK aV : Nat → Nat) (sz : Nat) (a0 : Nat) (a1 : Nat) (x2 : Int32) (b4 : Nat) (v5 : Value) (v6 : Value) (v7 : Value) (v8 : Value) (v9 : Value) (v10 : Value) (v11 : Value) (v12 : Value) (x13 : Int32) (v14 : Value) (h3 : x2 < 0) : xMet l yL_end wyL_end 8 1 6 141 D cT aK aV sz [.ref a0, .int x2, .ref b4] [(a0, .inr (0, [.ref a1, v5, v6, v7, v8, v9, v10, v11])), (a1, .inr (1, [v12, .int x13, v14]))] (fun A => va_Qi (fun (r : Int32) (_ : Unit) => r = 1) (fun _ t => xB D xcl cT A [(a0, .inr (0, [.ref a1, v5, v6, v7, v8, v9, v10, v11])), (a1, .inr (1, [v12, .int x13, v14]))] t) A) := by
  refine va_MetW (cc := method_4_code) (maxL := 4) (ret := (some .int)) (hh := [(0, 9, 12, 19)]) (by decide) rfl ?_
  intro p e s m args below meth c s₁ B hml hv
  obtain ⟨rfl, hsz, hZ, hP, hK, hD0⟩ := hv
  have hx := B.exec
  have hb := B.bytes
  have hr := B.returns
  have hts := atoms_spec (ws := wyL_end) B.pre
  have htx := fun w h => hts w (List.mem_cons_of_mem _ h)
  have hown : s.vm.findClass "ValueBenchLaw" = some m.cls := findClass_of_methodNamed B.named
  have hlocks := B.notSynchronized
  subst hsz
  have hD := hD0.self (sz := s.heap.size)
  generalize hAe : va_A [(a0, .inr (0, [.ref a1, v5, v6, v7, v8, v9, v10, v11])), (a1, .inr (1, [v12, .int x13, v14]))] s.heap.size = A at hD hZ ⊢
  have hA : ∀ q : Nat, s.heap.size ≤ q → A q := fun q h => by rw [← hAe]; exact Or.inr h
  have hS : va_S A s.heap s.heap [] := va_S.rf
  have hP : va_P D xcl [(a0, .inr (0, [.ref a1, v5, v6, v7, v8, v9, v10, v11])), (a1, .inr (1, [v12, .int x13, v14]))] s.heap := hP
  have hl := lv_entry ([.ref a0, .int x2, .ref b4]) (n := 4) (Nat.le_of_ble_eq_true rfl)
  rw [lg_entry_eq]
  generalize (lg_sl ([.ref a0, .int x2, .ref b4]) ++ List.replicate (4 - (lg_sl ([.ref a0, .int x2, .ref b4])).length) Slot.unset).toArray = ls at hl ⊢
  have hl : lv_has ls 4 [(0, .ref a0), (1, .int x2), (2, .ref b4)] := hl
  have htab := vx_table (x := yL_end) B (hts _ List.mem_cons_self)
  refine lv_aload_n hx hb dL_end_0 rfl (lv_at hl 2 rfl) ?_
  refine lv_iconst (v := 0) hx hb dL_end_1 (by decide) ?_
  refine lv_aload_n hx hb dL_end_2 rfl (lv_at hl 0 rfl) ?_
  refine lv_iload_n hx hb dL_end_3 rfl (lv_at hl 1 rfl) ?_
  obtain ⟨hPc, hDc, hFc⟩ := xcut (wc := [(a0, .inr (0, [.ref a1, v5, v6, v7, v8, v9, v10, v11])), (a1, .inr (1, [v12, .int x13, v14]))]) hP hD hS hA [0, 1] rfl rfl (by decide)
  refine xx_thr (vx_runV (C := "ValueBench") (As := [.int x2]) (rest := [.int 0, .ref b4]) ⟨hx, hb, hml, hown, htx⟩ (cB_end_0 l hl9 D cT aK aV s.heap.size a0 a1 x2 v5 v6 v7 v8 v9 v10 v11 v12 x13 v14 h3) ⟨callB_of 1 htx (xw_goodC kw_1_215) rfl rfl rfl (htx _ kw_1_1) (htx _ kw_1_212) ⟨by decide, by decide, by decide +kernel⟩ ⟨Nat.le_of_ble_eq_true rfl, Nat.le_of_ble_eq_true rfl⟩, (htx _ kw_1_213), (htx _ kw_1_214)⟩ ⟨xPre_blind, va_recv hK hP (ci := 0) rfl (q0 := 0) rfl, (fun U hU hW => ⟨rfl, xPre_of hZ hS hFc hPc hDc hK U hU hW⟩)⟩ rfl rfl hl.1 rfl (lv_room (Nat.le_of_ble_eq_true rfl)) dL_end_4 ⟨Nat.le_of_ble_eq_true rfl, Nat.le_of_ble_eq_true rfl⟩) hS hFc (fun q _ h => hFc q h) (fun E ce q9 u9 t H1 locs ht hvm _ hB hz1 hk1 hS hce hcv hcl => ?_)
  obtain ⟨rfl, hP1, hK1, hD1⟩ := hB
  rw [ht] at hP1
  obtain ⟨hP, hD⟩ := xjoin (W := [(a0, .inr (0, [.ref a1, v5, v6, v7, v8, v9, v10, v11])), (a1, .inr (1, [v12, .int x13, v14]))]) hP hD [0, 1] [] 0 rfl rfl (by decide) (by decide) hk1 hFc hP1 hD1
  generalize H1 = H at hP hS hce ⊢
  refine vx_catch (own := "ValueBenchLaw") (name := "java/lang/IllegalArgumentException") (E := "java/lang/IllegalArgumentException") hown [] ⟨0, 9, 12, 19⟩ [] (by rw [htab]; rfl) (fun z hz => nomatch hz) (by decide) (by decide) (htx _ kw_1_211) ((hZ.2.2.2.2.2.1 "java/lang/IllegalArgumentException" (List.mem_of_getElem? (i := 1) rfl)).use rfl) hce hcv hcl ?_
  refine lv_astore_n (lv' := [(3, .ref q9), (0, .ref a0), (1, .int x2), (2, .ref b4)]) hx hb dL_end_12 rfl hl (by decide) rfl (fun ls hl => ?_)
  refine lv_iconst (v := 1) hx hb dL_end_13 (by decide) ?_
  obtain ⟨hP9, hD9⟩ := xsub (wc := [(a0, .inr (0, [.ref a1, v5, v6, v7, v8, v9, v10, v11])), (a1, .inr (1, [v12, .int x13, v14]))]) hP hD [0, 1] rfl rfl (by decide)
  refine W.widen (k := 1) (n := 6) (Nat.le_of_ble_eq_true rfl) (Nat.le_of_ble_eq_true rfl) ?_
  exact W.iret (v := 1) hx hb hr (fun t ht hW => ⟨⟨1, (), rfl, rfl, by rw [ht]; exact hP9, va_K.moved hW.alike hK, hD9⟩, hS.F ht⟩) hS.2.2 dL_end_14
set_option maxHeartbeats 400000000 in
set_option maxRecDepth 100000 in
theorem cM_fail_0 (l : Launch) (hl9 : l.stackTraces = false) (D : va_G) (cT : Nat → ClassId) (aK aV : Nat → Nat) (sz : Nat) (a0 : Nat) (v1 : Value) (v2 : Value) (v3 : Value) (v4 : Value) (v5 : Value) (v6 : Value) (v7 : Value) (v8 : Value) (v9 : Value) (v10 : Value) (v11 : Value) (v12 : Value) (v13 : Value) (v14 : Value) (v15 : Value) (v16 : Value) (v17 : Value) (v18 : Value) (v19 : Value) (v20 : Value) (v21 : Value) (v22 : Value) (v23 : Value) (v24 : Value) (v25 : Value) (v26 : Value) (v27 : Value) (v28 : Value) (v29 : Value) (v30 : Value) (v31 : Value) (v32 : Value) : xMet l yM_fail wyM_fail 0 0 0 0 D cT aK aV sz [.ref a0, .int 1] [(a0, .inr (5, [v1, v2, v3, v4, v5, v6, v7, v8, v9, v10, v11, v12, v13, v14, v15, v16, v17, v18, v19, v20, v21, v22, v23, v24, v25, v26, v27, v28, v29, v30, v31, v32]))] (fun A => va_Qi (fun (r : Int32) (_ : Unit) => r = 0) (fun _ t => xB D xcl cT A [(a0, .inr (5, [.int 1, v2, v3, v4, v5, v6, v7, v8, v9, v10, v11, v12, v13, v14, v15, v16, v17, v18, v19, v20, v21, v22, v23, v24, v25, v26, v27, v28, v29, v30, v31, v32]))] t) A) := by
  refine Met.ofW (cc := prog_13_method_3_code) (maxL := 2) (ret := (some .int)) (by decide) rfl ?_
  intro p e s m args below meth c s₁ B hml hv
  obtain ⟨rfl, hsz, hZ, hP, hK, hD0⟩ := hv
  have hx := B.exec
  have hb := B.bytes
  have hr := B.returns
  have hts := atoms_spec (ws := wyM_fail) B.pre
  have htx := fun w h => hts w (List.mem_cons_of_mem _ h)
  have hown : s.vm.findClass "ValueBenchModel" = some m.cls := findClass_of_methodNamed B.named
  have hlocks := B.notSynchronized
  subst hsz
  have hD := hD0.self (sz := s.heap.size)
  generalize hAe : va_A [(a0, .inr (5, [v1, v2, v3, v4, v5, v6, v7, v8, v9, v10, v11, v12, v13, v14, v15, v16, v17, v18, v19, v20, v21, v22, v23, v24, v25, v26, v27, v28, v29, v30, v31, v32]))] s.heap.size = A at hD hZ ⊢
  have hA : ∀ q : Nat, s.heap.size ≤ q → A q := fun q h => by rw [← hAe]; exact Or.inr h
  have hS : va_S A s.heap s.heap [] := va_S.rf
  have hP : va_P D xcl [(a0, .inr (5, [v1, v2, v3, v4, v5, v6, v7, v8, v9, v10, v11, v12, v13, v14, v15, v16, v17, v18, v19, v20, v21, v22, v23, v24, v25, v26, v27, v28, v29, v30, v31, v32]))] s.heap := hP
  have hl := lv_entry ([.ref a0, .int 1]) (n := 2) (Nat.le_of_ble_eq_true rfl)
  rw [lg_entry_eq]
  generalize (lg_sl ([.ref a0, .int 1]) ++ List.replicate (2 - (lg_sl ([.ref a0, .int 1])).length) Slot.unset).toArray = ls at hl ⊢
  have hl : lv_has ls 2 [(0, .ref a0), (1, .int 1)] := hl
  refine lv_aload_n hx hb dM_fail_0 rfl (lv_at hl 0 rfl) ?_
  refine lv_iload_n hx hb dM_fail_1 rfl (lv_at hl 1 rfl) ?_
  refine va_put (D := D) (ci := 5) (v := .int 1) (ty := .int) (C := "ValueBenchModel") (T := TM) (N := 32) hx hb htx inM tyM tyM_ok nmM hown hK hP hD hS 0 rfl rfl 0 (by decide) (htx _ kw_5_87) (fun _ h9 => h9) rfl (by decide +kernel) rfl rfl (Nat.le_of_ble_eq_true rfl) dM_fail_2 (fun H locs hP hD hS => ?_)
  obtain ⟨hP, hD⟩ : xPD D xcl A [(a0, .inr (5, [.int 1, v2, v3, v4, v5, v6, v7, v8, v9, v10, v11, v12, v13, v14, v15, v16, v17, v18, v19, v20, v21, v22, v23, v24, v25, v26, v27, v28, v29, v30, v31, v32]))] H := ⟨hP, hD⟩
  refine lv_iconst (v := 0) hx hb dM_fail_5 (by decide) ?_
  obtain ⟨hP9, hD9⟩ := xsub (wc := [(a0, .inr (5, [.int 1, v2, v3, v4, v5, v6, v7, v8, v9, v10, v11, v12, v13, v14, v15, v16, v17, v18, v19, v20, v21, v22, v23, v24, v25, v26, v27, v28, v29, v30, v31, v32]))]) hP hD [0] rfl rfl (by decide)
  refine W.widen (k := 0) (n := 0) (Nat.le_of_ble_eq_true rfl) (Nat.le_of_ble_eq_true rfl) ?_
  exact W.iret (v := 0) hx hb hr (fun t ht hW => ⟨⟨0, (), rfl, rfl, by rw [ht]; exact hP9, va_K.moved hW.alike hK, hD9⟩, hS.F ht⟩) hS.2.2 dM_fail_6
set_option maxHeartbeats 400000000 in
set_option maxRecDepth 100000 in
theorem cM_end_0 (l : Launch) (hl9 : l.stackTraces = false) (D : va_G) (cT : Nat → ClassId) (aK aV : Nat → Nat) (sz : Nat) (a0 : Nat) (x1 : Int32) (v3 : Value) (v4 : Value) (v5 : Value) (v6 : Value) (v7 : Value) (v8 : Value) (v9 : Value) (v10 : Value) (v11 : Value) (v12 : Value) (v13 : Value) (v14 : Value) (v15 : Value) (v16 : Value) (v17 : Value) (v18 : Value) (v19 : Value) (v20 : Value) (v21 : Value) (v22 : Value) (v23 : Value) (v24 : Value) (v25 : Value) (v26 : Value) (v27 : Value) (v28 : Value) (v29 : Value) (v30 : Value) (v31 : Value) (v32 : Value) (v33 : Value) (v34 : Value) (h2 : x1 < 0) : xMet l yM_end wyM_end 1 0 0 21 D cT aK aV sz [.ref a0, .int x1] [(a0, .inr (5, [v3, v4, v5, v6, v7, v8, v9, v10, v11, v12, v13, v14, v15, v16, v17, v18, v19, v20, v21, v22, v23, v24, v25, v26, v27, v28, v29, v30, v31, v32, v33, v34]))] (fun A => va_Qi (fun (r : Int32) (_ : Unit) => r = 0) (fun _ t => xB D xcl cT A [(a0, .inr (5, [.int 1, v4, v5, v6, v7, v8, v9, v10, v11, v12, v13, v14, v15, v16, v17, v18, v19, v20, v21, v22, v23, v24, v25, v26, v27, v28, v29, v30, v31, v32, v33, v34]))] t) A) := by
  refine Met.ofW (cc := prog_13_method_83_code) (maxL := 2) (ret := (some .int)) (by decide) rfl ?_
  intro p e s m args below meth c s₁ B hml hv
  obtain ⟨rfl, hsz, hZ, hP, hK, hD0⟩ := hv
  have hx := B.exec
  have hb := B.bytes
  have hr := B.returns
  have hts := atoms_spec (ws := wyM_end) B.pre
  have htx := fun w h => hts w (List.mem_cons_of_mem _ h)
  have hown : s.vm.findClass "ValueBenchModel" = some m.cls := findClass_of_methodNamed B.named
  have hlocks := B.notSynchronized
  subst hsz
  have hD := hD0.self (sz := s.heap.size)
  generalize hAe : va_A [(a0, .inr (5, [v3, v4, v5, v6, v7, v8, v9, v10, v11, v12, v13, v14, v15, v16, v17, v18, v19, v20, v21, v22, v23, v24, v25, v26, v27, v28, v29, v30, v31, v32, v33, v34]))] s.heap.size = A at hD hZ ⊢
  have hA : ∀ q : Nat, s.heap.size ≤ q → A q := fun q h => by rw [← hAe]; exact Or.inr h
  have hS : va_S A s.heap s.heap [] := va_S.rf
  have hP : va_P D xcl [(a0, .inr (5, [v3, v4, v5, v6, v7, v8, v9, v10, v11, v12, v13, v14, v15, v16, v17, v18, v19, v20, v21, v22, v23, v24, v25, v26, v27, v28, v29, v30, v31, v32, v33, v34]))] s.heap := hP
  have hl := lv_entry ([.ref a0, .int x1]) (n := 2) (Nat.le_of_ble_eq_true rfl)
  rw [lg_entry_eq]
  generalize (lg_sl ([.ref a0, .int x1]) ++ List.replicate (2 - (lg_sl ([.ref a0, .int x1])).length) Slot.unset).toArray = ls at hl ⊢
  have hl : lv_has ls 2 [(0, .ref a0), (1, .int x1)] := hl
  refine lv_aload_n hx hb dM_end_0 rfl (lv_at hl 0 rfl) ?_
  refine lv_iconst (v := 0) hx hb dM_end_1 (by decide) ?_
  refine va_put (D := D) (ci := 5) (v := .int 0) (ty := .int) (C := "ValueBenchModel") (T := TM) (N := 32) hx hb htx inM tyM tyM_ok nmM hown hK hP hD hS 0 rfl rfl 0 (by decide) (htx _ kw_5_87) (fun _ h9 => h9) rfl (by decide +kernel) rfl rfl (Nat.le_of_ble_eq_true rfl) dM_end_2 (fun H locs hP hD hS => ?_)
  obtain ⟨hP, hD⟩ : xPD D xcl A [(a0, .inr (5, [.int 0, v4, v5, v6, v7, v8, v9, v10, v11, v12, v13, v14, v15, v16, v17, v18, v19, v20, v21, v22, v23, v24, v25, v26, v27, v28, v29, v30, v31, v32, v33, v34]))] H := ⟨hP, hD⟩
  refine lv_iload_n hx hb dM_end_5 rfl (lv_at hl 1 rfl) ?_
  refine lv_if_lt (tgt := 17) hx hb dM_end_6 (by decide) (fun _ => ?_) (fun h => by first | exact absurd h h2 | exact absurd h2 h)
  refine lv_aload_n hx hb dM_end_17 rfl (lv_at hl 0 rfl) ?_
  refine lv_iconst (v := 1) hx hb dM_end_18 (by decide) ?_
  obtain ⟨hPc, hDc, hFc⟩ := xcut (wc := [(a0, .inr (5, [.int 0, v4, v5, v6, v7, v8, v9, v10, v11, v12, v13, v14, v15, v16, v17, v18, v19, v20, v21, v22, v23, v24, v25, v26, v27, v28, v29, v30, v31, v32, v33, v34]))]) hP hD hS hA [0] rfl rfl (by decide)
  refine va_calli (va_runV (C := "ValueBenchModel") (As := [.int 1]) (rest := []) ⟨hx, hb, hml, hown, htx⟩ (cM_fail_0 l hl9 D cT aK aV H.size a0 (.int 0) v4 v5 v6 v7 v8 v9 v10 v11 v12 v13 v14 v15 v16 v17 v18 v19 v20 v21 v22 v23 v24 v25 v26 v27 v28 v29 v30 v31 v32 v33 v34) ⟨callB_of 1 htx (xw_goodC kw_5_195) rfl rfl rfl (htx _ kw_1_5) (htx _ kw_5_192) ⟨by decide, by decide, by decide +kernel⟩ ⟨Nat.le_of_ble_eq_true rfl, Nat.le_of_ble_eq_true rfl⟩, (htx _ kw_5_194), (htx _ kp_M_fail)⟩ ⟨xPre_blind, va_recv hK hP (ci := 5) rfl (q0 := 0) rfl, (fun U hU hW => ⟨rfl, xPre_of hZ hS hFc hPc hDc hK U hU hW⟩)⟩ rfl rfl hl.1 rfl (lv_room (Nat.le_of_ble_eq_true rfl)) dM_end_19 ⟨Nat.le_of_ble_eq_true rfl, Nat.le_of_ble_eq_true rfl⟩) hS (fun q _ h => hFc q h) hFc (fun r1 u9 t H1 locs ht hvm hr9 hB hz1 hk1 hS => ?_)
  obtain ⟨hP1, hK1, hD1⟩ := hB
  rw [ht] at hP1
  obtain ⟨hP, hD⟩ := xjoin (W := [(a0, .inr (5, [.int 1, v4, v5, v6, v7, v8, v9, v10, v11, v12, v13, v14, v15, v16, v17, v18, v19, v20, v21, v22, v23, v24, v25, v26, v27, v28, v29, v30, v31, v32, v33, v34]))]) hP hD [0] [] 0 rfl rfl (by decide) (by decide) hk1 hFc hP1 hD1
  generalize H1 = H at hP hS ⊢
  rw [hr9]
  refine W.eq (g2 := F0 m 22 ls [.int 0]) rfl ?_
  obtain ⟨hP9, hD9⟩ := xsub (wc := [(a0, .inr (5, [.int 1, v4, v5, v6, v7, v8, v9, v10, v11, v12, v13, v14, v15, v16, v17, v18, v19, v20, v21, v22, v23, v24, v25, v26, v27, v28, v29, v30, v31, v32, v33, v34]))]) hP hD [0] rfl rfl (by decide)
  refine W.widen (k := 0) (n := 0) (Nat.le_of_ble_eq_true rfl) (Nat.le_of_ble_eq_true rfl) ?_
  exact W.iret (v := 0) hx hb hr (fun t ht hW => ⟨⟨0, (), rfl, rfl, by rw [ht]; exact hP9, va_K.moved hW.alike hK, hD9⟩, hS.F ht⟩) hS.2.2 dM_end_22
set_option maxHeartbeats 400000000 in
set_option maxRecDepth 100000 in
theorem cM_thrown_1 (l : Launch) (hl9 : l.stackTraces = false) (D : va_G) (cT : Nat → ClassId) (aK aV : Nat → Nat) (sz : Nat) (a0 : Nat) (v1 : Value) (v2 : Value) (v3 : Value) (v4 : Value) (v5 : Value) (v6 : Value) (v7 : Value) (v8 : Value) (v9 : Value) (v10 : Value) (v11 : Value) (v12 : Value) (v13 : Value) (v14 : Value) (v15 : Value) (v16 : Value) (v17 : Value) (v18 : Value) (v19 : Value) (v20 : Value) (v21 : Value) (v22 : Value) (v23 : Value) (v24 : Value) (v25 : Value) (v26 : Value) (v27 : Value) (v28 : Value) (v29 : Value) (v30 : Value) (v31 : Value) : xMet l yM_thrown wyM_thrown 0 0 0 0 D cT aK aV sz [.ref a0] [(a0, .inr (5, [.int 1, v1, v2, v3, v4, v5, v6, v7, v8, v9, v10, v11, v12, v13, v14, v15, v16, v17, v18, v19, v20, v21, v22, v23, v24, v25, v26, v27, v28, v29, v30, v31]))] (fun A => va_Qi (fun (r : Int32) (_ : Unit) => r = 1) (fun _ t => xB D xcl cT A [(a0, .inr (5, [.int 1, v1, v2, v3, v4, v5, v6, v7, v8, v9, v10, v11, v12, v13, v14, v15, v16, v17, v18, v19, v20, v21, v22, v23, v24, v25, v26, v27, v28, v29, v30, v31]))] t) A) := by
  refine Met.ofW (cc := prog_13_method_2_code) (maxL := 1) (ret := (some .int)) (by decide) rfl ?_
  intro p e s m args below meth c s₁ B hml hv
  obtain ⟨rfl, hsz, hZ, hP, hK, hD0⟩ := hv
  have hx := B.exec
  have hb := B.bytes
  have hr := B.returns
  have hts := atoms_spec (ws := wyM_thrown) B.pre
  have htx := fun w h => hts w (List.mem_cons_of_mem _ h)
  have hown : s.vm.findClass "ValueBenchModel" = some m.cls := findClass_of_methodNamed B.named
  have hlocks := B.notSynchronized
  subst hsz
  have hD := hD0.self (sz := s.heap.size)
  generalize hAe : va_A [(a0, .inr (5, [.int 1, v1, v2, v3, v4, v5, v6, v7, v8, v9, v10, v11, v12, v13, v14, v15, v16, v17, v18, v19, v20, v21, v22, v23, v24, v25, v26, v27, v28, v29, v30, v31]))] s.heap.size = A at hD hZ ⊢
  have hA : ∀ q : Nat, s.heap.size ≤ q → A q := fun q h => by rw [← hAe]; exact Or.inr h
  have hS : va_S A s.heap s.heap [] := va_S.rf
  have hP : va_P D xcl [(a0, .inr (5, [.int 1, v1, v2, v3, v4, v5, v6, v7, v8, v9, v10, v11, v12, v13, v14, v15, v16, v17, v18, v19, v20, v21, v22, v23, v24, v25, v26, v27, v28, v29, v30, v31]))] s.heap := hP
  have hl := lv_entry ([.ref a0]) (n := 1) (Nat.le_of_ble_eq_true rfl)
  rw [lg_entry_eq]
  generalize (lg_sl ([.ref a0]) ++ List.replicate (1 - (lg_sl ([.ref a0])).length) Slot.unset).toArray = ls at hl ⊢
  have hl : lv_has ls 1 [(0, .ref a0)] := hl
  refine lv_aload_n hx hb dM_thrown_0 rfl (lv_at hl 0 rfl) ?_
  refine va_get (D := D) (ci := 5) (v := .int 1) (C := "ValueBenchModel") (T := TM) (N := 32) hx hb htx inM hown hK hP 0 rfl rfl 0 (by decide) (htx _ kw_5_87) (fun _ h9 => h9) rfl dM_thrown_1 ?_
  obtain ⟨hP9, hD9⟩ := xsub (wc := [(a0, .inr (5, [.int 1, v1, v2, v3, v4, v5, v6, v7, v8, v9, v10, v11, v12, v13, v14, v15, v16, v17, v18, v19, v20, v21, v22, v23, v24, v25, v26, v27, v28, v29, v30, v31]))]) hP hD [0] rfl rfl (by decide)
  refine W.widen (k := 0) (n := 0) (Nat.le_of_ble_eq_true rfl) (Nat.le_of_ble_eq_true rfl) ?_
  exact W.iret (v := 1) hx hb hr (fun t ht hW => ⟨⟨1, (), rfl, rfl, by rw [ht]; exact hP9, va_K.moved hW.alike hK, hD9⟩, hS.F ht⟩) hS.2.2 dM_thrown_4
set_option maxHeartbeats 400000000 in
set_option maxRecDepth 100000 in
theorem cB_isWithin_1 (l : Launch) (hl9 : l.stackTraces = false) (D : va_G) (cT : Nat → ClassId) (aK aV : Nat → Nat) (sz : Nat) (x0 : Int32) (h1 : ¬ x0 < 0) (h2 : 0 < x0) (h3 : ¬ x0 ≤ 0) : xMet l yB_isWithin wyB_isWithin 0 0 0 0 D cT aK aV sz [.int x0, .int 0] [] (fun A => va_Qi (fun (r : Int32) (_ : Unit) => r = 0) (fun _ t => xB D xcl cT A [] t) A) := by
  refine Met.ofW (cc := prog_1_method_15_code) (maxL := 2) (ret := (some .boolean)) (by decide) rfl ?_
  intro p e s m args below meth c s₁ B hml hv
  obtain ⟨rfl, hsz, hZ, hP, hK, hD0⟩ := hv
  have hx := B.exec
  have hb := B.bytes
  have hr := B.returns
  have hts := atoms_spec (ws := wyB_isWithin) B.pre
  have htx := fun w h => hts w (List.mem_cons_of_mem _ h)
  have hown : s.vm.findClass "ValueBench" = some m.cls := findClass_of_methodNamed B.named
  have hlocks := B.notSynchronized
  subst hsz
  have hD := hD0.self (sz := s.heap.size)
  generalize hAe : va_A [] s.heap.size = A at hD hZ ⊢
  have hA : ∀ q : Nat, s.heap.size ≤ q → A q := fun q h => by rw [← hAe]; exact Or.inr h
  have hS : va_S A s.heap s.heap [] := va_S.rf
  have hP : va_P D xcl [] s.heap := hP
  have hl := lv_entry ([.int x0, .int 0]) (n := 2) (Nat.le_of_ble_eq_true rfl)
  rw [lg_entry_eq]
  generalize (lg_sl ([.int x0, .int 0]) ++ List.replicate (2 - (lg_sl ([.int x0, .int 0])).length) Slot.unset).toArray = ls at hl ⊢
  have hl : lv_has ls 2 [(0, .int x0), (1, .int 0)] := hl
  refine lv_iload_n hx hb dB_isWithin_0 rfl (lv_at hl 0 rfl) ?_
  refine lv_if_lt (tgt := 13) hx hb dB_isWithin_1 (by decide) (fun h => by first | exact absurd h h1 | exact absurd h h2 | exact absurd h h3 | exact absurd h1 h | exact absurd h2 h | exact absurd h3 h) (fun _ => ?_)
  refine lv_iload_n hx hb dB_isWithin_4 rfl (lv_at hl 0 rfl) ?_
  refine lv_iload_n hx hb dB_isWithin_5 rfl (lv_at hl 1 rfl) ?_
  refine lv_icmp_gt (tgt := 13) hx hb dB_isWithin_6 (by decide) (fun _ => ?_) (fun h => by first | exact absurd h h1 | exact absurd h h2 | exact absurd h h3 | exact absurd h1 h | exact absurd h2 h | exact absurd h3 h)
  refine lv_iconst (v := 0) hx hb dB_isWithin_13 (by decide) ?_
  obtain ⟨hP9, hD9⟩ := xsub (wc := []) hP hD [] rfl rfl (by decide)
  refine W.widen (k := 0) (n := 0) (Nat.le_of_ble_eq_true rfl) (Nat.le_of_ble_eq_true rfl) ?_
  exact W.zret (v := 0) hx hb hr rfl (fun t ht hW => ⟨⟨0, (), rfl, rfl, by rw [ht]; exact hP9, va_K.moved hW.alike hK, hD9⟩, hS.F ht⟩) hS.2.2 dB_isWithin_14
set_option maxHeartbeats 400000000 in
set_option maxRecDepth 100000 in
theorem cB_end_1 (l : Launch) (hl9 : l.stackTraces = false) (D : va_G) (cT : Nat → ClassId) (aK aV : Nat → Nat) (sz : Nat) (a0 : Nat) (a1 : Nat) (x2 : Int32) (v6 : Value) (v7 : Value) (v8 : Value) (v9 : Value) (v10 : Value) (v11 : Value) (v12 : Value) (v13 : Value) (v14 : Value) (h3 : ¬ x2 < 0) (h4 : 0 < x2) (h5 : ¬ x2 ≤ 0) : xMetX l yB_end wyB_end 7 1 6 120 D cT aK aV sz [.ref a0, .int x2] [(a0, .inr (0, [.ref a1, v6, v7, v8, v9, v10, v11, v12])), (a1, .inr (1, [v13, .int 0, v14]))] "java/lang/IllegalArgumentException" (fun A t => xB D xcl cT A [(a0, .inr (0, [.ref a1, v6, v7, v8, v9, v10, v11, v12])), (a1, .inr (1, [v13, .int 0, v14]))] t) := by
  refine vx_ofW (cc := prog_1_method_3_code) (maxL := 2) (ret := (some .int)) (by decide) rfl ?_
  intro p e s m args below meth c s₁ B hml hne hv
  obtain ⟨rfl, hsz, hZ, hP, hK, hD0⟩ := hv
  have hx := B.exec
  have hb := B.bytes
  have hr := B.returns
  have hts := atoms_spec (ws := wyB_end) B.pre
  have htx := fun w h => hts w (List.mem_cons_of_mem _ h)
  have hown : s.vm.findClass "ValueBench" = some m.cls := findClass_of_methodNamed B.named
  have hlocks := B.notSynchronized
  subst hsz
  have hD := hD0.self (sz := s.heap.size)
  generalize hAe : va_A [(a0, .inr (0, [.ref a1, v6, v7, v8, v9, v10, v11, v12])), (a1, .inr (1, [v13, .int 0, v14]))] s.heap.size = A at hD hZ ⊢
  have hA : ∀ q : Nat, s.heap.size ≤ q → A q := fun q h => by rw [← hAe]; exact Or.inr h
  have hS : va_S A s.heap s.heap [] := va_S.rf
  have hP : va_P D xcl [(a0, .inr (0, [.ref a1, v6, v7, v8, v9, v10, v11, v12])), (a1, .inr (1, [v13, .int 0, v14]))] s.heap := hP
  have hl := lv_entry ([.ref a0, .int x2]) (n := 2) (Nat.le_of_ble_eq_true rfl)
  rw [lg_entry_eq]
  generalize (lg_sl ([.ref a0, .int x2]) ++ List.replicate (2 - (lg_sl ([.ref a0, .int x2])).length) Slot.unset).toArray = ls at hl ⊢
  have hl : lv_has ls 2 [(0, .ref a0), (1, .int x2)] := hl
  refine lv_iload_n hx hb dB_end_0 rfl (lv_at hl 1 rfl) ?_
  refine lv_aload_n hx hb dB_end_1 rfl (lv_at hl 0 rfl) ?_
  refine va_get (D := D) (ci := 0) (v := .ref a1) (C := "ValueBench") (T := TB) (N := 8) hx hb htx inB hown hK hP 0 rfl rfl 0 (by decide) (htx _ kw_1_95) (fun _ h9 => h9) rfl dB_end_2 ?_
  obtain ⟨hPc, hDc, hFc⟩ := xcut (wc := [(a1, .inr (1, [v13, .int 0, v14]))]) hP hD hS hA [1] rfl rfl (by decide)
  refine va_calli (va_runV (C := "ValueBench$Text") (As := []) (rest := [.int x2]) ⟨hx, hb, hml, hown, htx⟩ (cT_size_0 l hl9 D cT aK aV s.heap.size a1 v13 v14) ⟨callB_of 0 htx (xw_goodC kw_1_131) rfl rfl rfl (htx _ kw_1_2) (htx _ kw_1_128) ⟨by decide, by decide, by decide +kernel⟩ ⟨Nat.le_of_ble_eq_true rfl, Nat.le_of_ble_eq_true rfl⟩, (htx _ kw_1_129), (htx _ kw_1_130)⟩ ⟨xPre_blind, va_recv hK hP (ci := 1) rfl (q0 := 1) rfl, (fun U hU hW => ⟨rfl, xPre_of hZ hS hFc hPc hDc hK U hU hW⟩)⟩ rfl rfl hl.1 rfl (lv_room (Nat.le_of_ble_eq_true rfl)) dB_end_5 ⟨Nat.le_of_ble_eq_true rfl, Nat.le_of_ble_eq_true rfl⟩) hS (fun q _ h => hFc q h) hFc (fun r1 u9 t H1 locs ht hvm hr9 hB hz1 hk1 hS => ?_)
  obtain ⟨hP1, hK1, hD1⟩ := hB
  rw [ht] at hP1
  obtain ⟨hP, hD⟩ := xjoin (W := [(a0, .inr (0, [.ref a1, v6, v7, v8, v9, v10, v11, v12])), (a1, .inr (1, [v13, .int 0, v14]))]) hP hD [1] [0] 1 rfl rfl (by decide) (by decide) hk1 hFc hP1 hD1
  generalize H1 = H at hP hS ⊢
  rw [hr9]
  refine W.eq (g2 := F0 m 8 ls [.int 0, .int x2]) rfl ?_
  obtain ⟨hPc, hDc, hFc⟩ := xcut (wc := []) hP hD hS hA [] rfl rfl (by decide)
  refine va_calli (va_runS (As := [.int x2, .int 0]) (rest := []) ⟨hx, hb, hml, hown, htx⟩ (cB_isWithin_1 l hl9 D cT aK aV H.size x2 h3 h4 h5) ⟨callB_of 2 htx (xw_goodC kw_1_218) rfl rfl rfl (htx _ kw_1_1) (htx _ kw_1_216) ⟨by decide, by decide, by decide +kernel⟩ ⟨Nat.le_of_ble_eq_true rfl, Nat.le_of_ble_eq_true rfl⟩, htx _ kw_1_217⟩ ⟨xPre_blind, (fun U hU hW => ⟨rfl, xPre_of hZ hS hFc hPc hDc hK U hU hW⟩)⟩ rfl rfl hl.1 rfl (lv_room (Nat.le_of_ble_eq_true rfl)) dB_end_8 ⟨Nat.le_of_ble_eq_true rfl, Nat.le_of_ble_eq_true rfl⟩) hS (fun q _ h => hFc q h) hFc (fun r2 u9 t H1 locs ht hvm hr9 hB hz1 hk1 hS => ?_)
  obtain ⟨hP1, hK1, hD1⟩ := hB
  rw [ht] at hP1
  obtain ⟨hP, hD⟩ := xjoin (W := [(a0, .inr (0, [.ref a1, v6, v7, v8, v9, v10, v11, v12])), (a1, .inr (1, [v13, .int 0, v14]))]) hP hD [] [0, 1] 2 rfl rfl (by decide) (by decide) hk1 hFc hP1 hD1
  generalize H1 = H at hP hS ⊢
  rw [hr9]
  refine W.eq (g2 := F0 m 11 ls [.int 0]) rfl ?_
  obtain ⟨hPc, hDc, hFc⟩ := xcut (wc := []) hP hD hS hA [] rfl rfl (by decide)
  refine xx_thr (vx_runS (As := [.int 0]) (rest := []) ⟨hx, hb, hml, hown, htx⟩ (cB_demand_0 l hl9 D cT aK aV H.size) ⟨callB_of 1 htx (xw_goodC kw_1_221) rfl rfl rfl (htx _ kw_1_1) (htx _ kw_1_219) ⟨by decide, by decide, by decide +kernel⟩ ⟨Nat.le_of_ble_eq_true rfl, Nat.le_of_ble_eq_true rfl⟩, htx _ kw_1_220⟩ ⟨xPre_blind, (fun U hU hW => ⟨rfl, xPre_of hZ hS hFc hPc hDc hK U hU hW⟩)⟩ rfl rfl hl.1 rfl (lv_room (Nat.le_of_ble_eq_true rfl)) dB_end_11 ⟨Nat.le_of_ble_eq_true rfl, Nat.le_of_ble_eq_true rfl⟩) hS hFc (fun q _ h => hFc q h) (fun E ce q9 u9 t H1 locs ht hvm _ hB hz1 hk1 hS hce hcv hcl => ?_)
  obtain ⟨rfl, hP1, hK1, hD1⟩ := hB
  rw [ht] at hP1
  obtain ⟨hP, hD⟩ := xjoin (W := [(a0, .inr (0, [.ref a1, v6, v7, v8, v9, v10, v11, v12])), (a1, .inr (1, [v13, .int 0, v14]))]) hP hD [] [0, 1] 2 rfl rfl (by decide) (by decide) hk1 hFc hP1 hD1
  generalize H1 = H at hP hS hce ⊢
  obtain ⟨hP9, hD9⟩ := xsub (wc := [(a0, .inr (0, [.ref a1, v6, v7, v8, v9, v10, v11, v12])), (a1, .inr (1, [v13, .int 0, v14]))]) hP hD [0, 1] rfl rfl (by decide)
  exact vx_out (E := "java/lang/IllegalArgumentException") (fun x h => (hne x h).elim) hlocks hce hcv hcl (fun t ht ha => ⟨(), trivial, ⟨rfl, by rw [ht]; exact hP9, va_K.moved ha hK, hD9⟩, hS.F ht⟩) hS.2.2 (Nat.le_of_ble_eq_true rfl) (Nat.le_of_ble_eq_true rfl)
set_option maxHeartbeats 400000000 in
set_option maxRecDepth 100000 in
theorem cL_end_1 (l : Launch) (hl9 : l.stackTraces = false) (D : va_G) (cT : Nat → ClassId) (aK aV : Nat → Nat) (sz : Nat) (a0 : Nat) (a1 : Nat) (x2 : Int32) (b6 : Nat) (v7 : Value) (v8 : Value) (v9 : Value) (v10 : Value) (v11 : Value) (v12 : Value) (v13 : Value) (v14 : Value) (v15 : Value) (h3 : ¬ x2 < 0) (h4 : 0 < x2) (h5 : ¬ x2 ≤ 0) : xMet l yL_end wyL_end 8 1 6 141 D cT aK aV sz [.ref a0, .int x2, .ref b6] [(a0, .inr (0, [.ref a1, v7, v8, v9, v10, v11, v12, v13])), (a1, .inr (1, [v14, .int 0, v15]))] (fun A => va_Qi (fun (r : Int32) (_ : Unit) => r = 1) (fun _ t => xB D xcl cT A [(a0, .inr (0, [.ref a1, v7, v8, v9, v10, v11, v12, v13])), (a1, .inr (1, [v14, .int 0, v15]))] t) A) := by
  refine va_MetW (cc := method_4_code) (maxL := 4) (ret := (some .int)) (hh := [(0, 9, 12, 19)]) (by decide) rfl ?_
  intro p e s m args below meth c s₁ B hml hv
  obtain ⟨rfl, hsz, hZ, hP, hK, hD0⟩ := hv
  have hx := B.exec
  have hb := B.bytes
  have hr := B.returns
  have hts := atoms_spec (ws := wyL_end) B.pre
  have htx := fun w h => hts w (List.mem_cons_of_mem _ h)
  have hown : s.vm.findClass "ValueBenchLaw" = some m.cls := findClass_of_methodNamed B.named
  have hlocks := B.notSynchronized
  subst hsz
  have hD := hD0.self (sz := s.heap.size)
  generalize hAe : va_A [(a0, .inr (0, [.ref a1, v7, v8, v9, v10, v11, v12, v13])), (a1, .inr (1, [v14, .int 0, v15]))] s.heap.size = A at hD hZ ⊢
  have hA : ∀ q : Nat, s.heap.size ≤ q → A q := fun q h => by rw [← hAe]; exact Or.inr h
  have hS : va_S A s.heap s.heap [] := va_S.rf
  have hP : va_P D xcl [(a0, .inr (0, [.ref a1, v7, v8, v9, v10, v11, v12, v13])), (a1, .inr (1, [v14, .int 0, v15]))] s.heap := hP
  have hl := lv_entry ([.ref a0, .int x2, .ref b6]) (n := 4) (Nat.le_of_ble_eq_true rfl)
  rw [lg_entry_eq]
  generalize (lg_sl ([.ref a0, .int x2, .ref b6]) ++ List.replicate (4 - (lg_sl ([.ref a0, .int x2, .ref b6])).length) Slot.unset).toArray = ls at hl ⊢
  have hl : lv_has ls 4 [(0, .ref a0), (1, .int x2), (2, .ref b6)] := hl
  have htab := vx_table (x := yL_end) B (hts _ List.mem_cons_self)
  refine lv_aload_n hx hb dL_end_0 rfl (lv_at hl 2 rfl) ?_
  refine lv_iconst (v := 0) hx hb dL_end_1 (by decide) ?_
  refine lv_aload_n hx hb dL_end_2 rfl (lv_at hl 0 rfl) ?_
  refine lv_iload_n hx hb dL_end_3 rfl (lv_at hl 1 rfl) ?_
  obtain ⟨hPc, hDc, hFc⟩ := xcut (wc := [(a0, .inr (0, [.ref a1, v7, v8, v9, v10, v11, v12, v13])), (a1, .inr (1, [v14, .int 0, v15]))]) hP hD hS hA [0, 1] rfl rfl (by decide)
  refine xx_thr (vx_runV (C := "ValueBench") (As := [.int x2]) (rest := [.int 0, .ref b6]) ⟨hx, hb, hml, hown, htx⟩ (cB_end_1 l hl9 D cT aK aV s.heap.size a0 a1 x2 v7 v8 v9 v10 v11 v12 v13 v14 v15 h3 h4 h5) ⟨callB_of 1 htx (xw_goodC kw_1_215) rfl rfl rfl (htx _ kw_1_1) (htx _ kw_1_212) ⟨by decide, by decide, by decide +kernel⟩ ⟨Nat.le_of_ble_eq_true rfl, Nat.le_of_ble_eq_true rfl⟩, (htx _ kw_1_213), (htx _ kw_1_214)⟩ ⟨xPre_blind, va_recv hK hP (ci := 0) rfl (q0 := 0) rfl, (fun U hU hW => ⟨rfl, xPre_of hZ hS hFc hPc hDc hK U hU hW⟩)⟩ rfl rfl hl.1 rfl (lv_room (Nat.le_of_ble_eq_true rfl)) dL_end_4 ⟨Nat.le_of_ble_eq_true rfl, Nat.le_of_ble_eq_true rfl⟩) hS hFc (fun q _ h => hFc q h) (fun E ce q9 u9 t H1 locs ht hvm _ hB hz1 hk1 hS hce hcv hcl => ?_)
  obtain ⟨rfl, hP1, hK1, hD1⟩ := hB
  rw [ht] at hP1
  obtain ⟨hP, hD⟩ := xjoin (W := [(a0, .inr (0, [.ref a1, v7, v8, v9, v10, v11, v12, v13])), (a1, .inr (1, [v14, .int 0, v15]))]) hP hD [0, 1] [] 0 rfl rfl (by decide) (by decide) hk1 hFc hP1 hD1
  generalize H1 = H at hP hS hce ⊢
  refine vx_catch (own := "ValueBenchLaw") (name := "java/lang/IllegalArgumentException") (E := "java/lang/IllegalArgumentException") hown [] ⟨0, 9, 12, 19⟩ [] (by rw [htab]; rfl) (fun z hz => nomatch hz) (by decide) (by decide) (htx _ kw_1_211) ((hZ.2.2.2.2.2.1 "java/lang/IllegalArgumentException" (List.mem_of_getElem? (i := 1) rfl)).use rfl) hce hcv hcl ?_
  refine lv_astore_n (lv' := [(3, .ref q9), (0, .ref a0), (1, .int x2), (2, .ref b6)]) hx hb dL_end_12 rfl hl (by decide) rfl (fun ls hl => ?_)
  refine lv_iconst (v := 1) hx hb dL_end_13 (by decide) ?_
  obtain ⟨hP9, hD9⟩ := xsub (wc := [(a0, .inr (0, [.ref a1, v7, v8, v9, v10, v11, v12, v13])), (a1, .inr (1, [v14, .int 0, v15]))]) hP hD [0, 1] rfl rfl (by decide)
  refine W.widen (k := 1) (n := 6) (Nat.le_of_ble_eq_true rfl) (Nat.le_of_ble_eq_true rfl) ?_
  exact W.iret (v := 1) hx hb hr (fun t ht hW => ⟨⟨1, (), rfl, rfl, by rw [ht]; exact hP9, va_K.moved hW.alike hK, hD9⟩, hS.F ht⟩) hS.2.2 dL_end_14
set_option maxHeartbeats 400000000 in
set_option maxRecDepth 100000 in
theorem cM_end_1 (l : Launch) (hl9 : l.stackTraces = false) (D : va_G) (cT : Nat → ClassId) (aK aV : Nat → Nat) (sz : Nat) (a0 : Nat) (x1 : Int32) (v5 : Value) (v6 : Value) (v7 : Value) (v8 : Value) (v9 : Value) (v10 : Value) (v11 : Value) (v12 : Value) (v13 : Value) (v14 : Value) (v15 : Value) (v16 : Value) (v17 : Value) (v18 : Value) (v19 : Value) (v20 : Value) (v21 : Value) (v22 : Value) (v23 : Value) (v24 : Value) (v25 : Value) (v26 : Value) (v27 : Value) (v28 : Value) (v29 : Value) (v30 : Value) (v31 : Value) (v32 : Value) (v33 : Value) (v34 : Value) (v35 : Value) (h2 : ¬ x1 < 0) (h3 : 0 < x1) (h4 : ¬ x1 ≤ 0) : xMet l yM_end wyM_end 1 0 0 21 D cT aK aV sz [.ref a0, .int x1] [(a0, .inr (5, [v5, v6, v7, v8, v9, v10, v11, v12, v13, v14, v15, v16, v17, v18, v19, v20, v21, v22, v23, v24, v25, v26, v27, v28, v29, v30, v31, .int 0, v32, v33, v34, v35]))] (fun A => va_Qi (fun (r : Int32) (_ : Unit) => r = 0) (fun _ t => xB D xcl cT A [(a0, .inr (5, [.int 1, v6, v7, v8, v9, v10, v11, v12, v13, v14, v15, v16, v17, v18, v19, v20, v21, v22, v23, v24, v25, v26, v27, v28, v29, v30, v31, .int 0, v32, v33, v34, v35]))] t) A) := by
  refine Met.ofW (cc := prog_13_method_83_code) (maxL := 2) (ret := (some .int)) (by decide) rfl ?_
  intro p e s m args below meth c s₁ B hml hv
  obtain ⟨rfl, hsz, hZ, hP, hK, hD0⟩ := hv
  have hx := B.exec
  have hb := B.bytes
  have hr := B.returns
  have hts := atoms_spec (ws := wyM_end) B.pre
  have htx := fun w h => hts w (List.mem_cons_of_mem _ h)
  have hown : s.vm.findClass "ValueBenchModel" = some m.cls := findClass_of_methodNamed B.named
  have hlocks := B.notSynchronized
  subst hsz
  have hD := hD0.self (sz := s.heap.size)
  generalize hAe : va_A [(a0, .inr (5, [v5, v6, v7, v8, v9, v10, v11, v12, v13, v14, v15, v16, v17, v18, v19, v20, v21, v22, v23, v24, v25, v26, v27, v28, v29, v30, v31, .int 0, v32, v33, v34, v35]))] s.heap.size = A at hD hZ ⊢
  have hA : ∀ q : Nat, s.heap.size ≤ q → A q := fun q h => by rw [← hAe]; exact Or.inr h
  have hS : va_S A s.heap s.heap [] := va_S.rf
  have hP : va_P D xcl [(a0, .inr (5, [v5, v6, v7, v8, v9, v10, v11, v12, v13, v14, v15, v16, v17, v18, v19, v20, v21, v22, v23, v24, v25, v26, v27, v28, v29, v30, v31, .int 0, v32, v33, v34, v35]))] s.heap := hP
  have hl := lv_entry ([.ref a0, .int x1]) (n := 2) (Nat.le_of_ble_eq_true rfl)
  rw [lg_entry_eq]
  generalize (lg_sl ([.ref a0, .int x1]) ++ List.replicate (2 - (lg_sl ([.ref a0, .int x1])).length) Slot.unset).toArray = ls at hl ⊢
  have hl : lv_has ls 2 [(0, .ref a0), (1, .int x1)] := hl
  refine lv_aload_n hx hb dM_end_0 rfl (lv_at hl 0 rfl) ?_
  refine lv_iconst (v := 0) hx hb dM_end_1 (by decide) ?_
  refine va_put (D := D) (ci := 5) (v := .int 0) (ty := .int) (C := "ValueBenchModel") (T := TM) (N := 32) hx hb htx inM tyM tyM_ok nmM hown hK hP hD hS 0 rfl rfl 0 (by decide) (htx _ kw_5_87) (fun _ h9 => h9) rfl (by decide +kernel) rfl rfl (Nat.le_of_ble_eq_true rfl) dM_end_2 (fun H locs hP hD hS => ?_)
  obtain ⟨hP, hD⟩ : xPD D xcl A [(a0, .inr (5, [.int 0, v6, v7, v8, v9, v10, v11, v12, v13, v14, v15, v16, v17, v18, v19, v20, v21, v22, v23, v24, v25, v26, v27, v28, v29, v30, v31, .int 0, v32, v33, v34, v35]))] H := ⟨hP, hD⟩
  refine lv_iload_n hx hb dM_end_5 rfl (lv_at hl 1 rfl) ?_
  refine lv_if_lt (tgt := 17) hx hb dM_end_6 (by decide) (fun h => by first | exact absurd h h2 | exact absurd h h3 | exact absurd h h4 | exact absurd h2 h | exact absurd h3 h | exact absurd h4 h) (fun _ => ?_)
  refine lv_iload_n hx hb dM_end_9 rfl (lv_at hl 1 rfl) ?_
  refine lv_aload_n hx hb dM_end_10 rfl (lv_at hl 0 rfl) ?_
  refine va_get (D := D) (ci := 5) (v := .int 0) (C := "ValueBenchModel") (T := TM) (N := 32) hx hb htx inM hown hK hP 0 rfl rfl 27 (by decide) (htx _ kw_5_114) (fun _ h9 => h9) rfl dM_end_11 ?_
  refine lv_icmp_le (tgt := 23) hx hb dM_end_14 (by decide) (fun h => by first | exact absurd h h2 | exact absurd h h3 | exact absurd h h4 | exact absurd h2 h | exact absurd h3 h | exact absurd h4 h) (fun _ => ?_)
  refine lv_aload_n hx hb dM_end_17 rfl (lv_at hl 0 rfl) ?_
  refine lv_iconst (v := 1) hx hb dM_end_18 (by decide) ?_
  obtain ⟨hPc, hDc, hFc⟩ := xcut (wc := [(a0, .inr (5, [.int 0, v6, v7, v8, v9, v10, v11, v12, v13, v14, v15, v16, v17, v18, v19, v20, v21, v22, v23, v24, v25, v26, v27, v28, v29, v30, v31, .int 0, v32, v33, v34, v35]))]) hP hD hS hA [0] rfl rfl (by decide)
  refine va_calli (va_runV (C := "ValueBenchModel") (As := [.int 1]) (rest := []) ⟨hx, hb, hml, hown, htx⟩ (cM_fail_0 l hl9 D cT aK aV H.size a0 (.int 0) v6 v7 v8 v9 v10 v11 v12 v13 v14 v15 v16 v17 v18 v19 v20 v21 v22 v23 v24 v25 v26 v27 v28 v29 v30 v31 (.int 0) v32 v33 v34 v35) ⟨callB_of 1 htx (xw_goodC kw_5_195) rfl rfl rfl (htx _ kw_1_5) (htx _ kw_5_192) ⟨by decide, by decide, by decide +kernel⟩ ⟨Nat.le_of_ble_eq_true rfl, Nat.le_of_ble_eq_true rfl⟩, (htx _ kw_5_194), (htx _ kp_M_fail)⟩ ⟨xPre_blind, va_recv hK hP (ci := 5) rfl (q0 := 0) rfl, (fun U hU hW => ⟨rfl, xPre_of hZ hS hFc hPc hDc hK U hU hW⟩)⟩ rfl rfl hl.1 rfl (lv_room (Nat.le_of_ble_eq_true rfl)) dM_end_19 ⟨Nat.le_of_ble_eq_true rfl, Nat.le_of_ble_eq_true rfl⟩) hS (fun q _ h => hFc q h) hFc (fun r1 u9 t H1 locs ht hvm hr9 hB hz1 hk1 hS => ?_)
  obtain ⟨hP1, hK1, hD1⟩ := hB
  rw [ht] at hP1
  obtain ⟨hP, hD⟩ := xjoin (W := [(a0, .inr (5, [.int 1, v6, v7, v8, v9, v10, v11, v12, v13, v14, v15, v16, v17, v18, v19, v20, v21, v22, v23, v24, v25, v26, v27, v28, v29, v30, v31, .int 0, v32, v33, v34, v35]))]) hP hD [0] [] 0 rfl rfl (by decide) (by decide) hk1 hFc hP1 hD1
  generalize H1 = H at hP hS ⊢
  rw [hr9]
  refine W.eq (g2 := F0 m 22 ls [.int 0]) rfl ?_
  obtain ⟨hP9, hD9⟩ := xsub (wc := [(a0, .inr (5, [.int 1, v6, v7, v8, v9, v10, v11, v12, v13, v14, v15, v16, v17, v18, v19, v20, v21, v22, v23, v24, v25, v26, v27, v28, v29, v30, v31, .int 0, v32, v33, v34, v35]))]) hP hD [0] rfl rfl (by decide)
  refine W.widen (k := 0) (n := 0) (Nat.le_of_ble_eq_true rfl) (Nat.le_of_ble_eq_true rfl) ?_
  exact W.iret (v := 0) hx hb hr (fun t ht hW => ⟨⟨0, (), rfl, rfl, by rw [ht]; exact hP9, va_K.moved hW.alike hK, hD9⟩, hS.F ht⟩) hS.2.2 dM_end_22
set_option maxHeartbeats 400000000 in
set_option maxRecDepth 100000 in
theorem cB_isWithin_2 (l : Launch) (hl9 : l.stackTraces = false) (D : va_G) (cT : Nat → ClassId) (aK aV : Nat → Nat) (sz : Nat) : xMet l yB_isWithin wyB_isWithin 0 0 0 0 D cT aK aV sz [.int 0, .int 0] [] (fun A => va_Qi (fun (r : Int32) (_ : Unit) => r = 1) (fun _ t => xB D xcl cT A [] t) A) := by
  refine Met.ofW (cc := prog_1_method_15_code) (maxL := 2) (ret := (some .boolean)) (by decide) rfl ?_
  intro p e s m args below meth c s₁ B hml hv
  obtain ⟨rfl, hsz, hZ, hP, hK, hD0⟩ := hv
  have hx := B.exec
  have hb := B.bytes
  have hr := B.returns
  have hts := atoms_spec (ws := wyB_isWithin) B.pre
  have htx := fun w h => hts w (List.mem_cons_of_mem _ h)
  have hown : s.vm.findClass "ValueBench" = some m.cls := findClass_of_methodNamed B.named
  have hlocks := B.notSynchronized
  subst hsz
  have hD := hD0.self (sz := s.heap.size)
  generalize hAe : va_A [] s.heap.size = A at hD hZ ⊢
  have hA : ∀ q : Nat, s.heap.size ≤ q → A q := fun q h => by rw [← hAe]; exact Or.inr h
  have hS : va_S A s.heap s.heap [] := va_S.rf
  have hP : va_P D xcl [] s.heap := hP
  have hl := lv_entry ([.int 0, .int 0]) (n := 2) (Nat.le_of_ble_eq_true rfl)
  rw [lg_entry_eq]
  generalize (lg_sl ([.int 0, .int 0]) ++ List.replicate (2 - (lg_sl ([.int 0, .int 0])).length) Slot.unset).toArray = ls at hl ⊢
  have hl : lv_has ls 2 [(0, .int 0), (1, .int 0)] := hl
  refine lv_iload_n hx hb dB_isWithin_0 rfl (lv_at hl 0 rfl) ?_
  refine lv_if_lt (tgt := 13) hx hb dB_isWithin_1 (by decide) (fun h => ((by revert h; decide : False)).elim) (fun _ => ?_)
  refine lv_iload_n hx hb dB_isWithin_4 rfl (lv_at hl 0 rfl) ?_
  refine lv_iload_n hx hb dB_isWithin_5 rfl (lv_at hl 1 rfl) ?_
  refine lv_icmp_gt (tgt := 13) hx hb dB_isWithin_6 (by decide) (fun h => ((by revert h; decide : False)).elim) (fun _ => ?_)
  refine lv_iconst (v := 1) hx hb dB_isWithin_9 (by decide) ?_
  refine lv_goto (tgt := 14) hx hb dB_isWithin_10 (by decide) ?_
  obtain ⟨hP9, hD9⟩ := xsub (wc := []) hP hD [] rfl rfl (by decide)
  refine W.widen (k := 0) (n := 0) (Nat.le_of_ble_eq_true rfl) (Nat.le_of_ble_eq_true rfl) ?_
  exact W.zret (v := 1) hx hb hr rfl (fun t ht hW => ⟨⟨1, (), rfl, rfl, by rw [ht]; exact hP9, va_K.moved hW.alike hK, hD9⟩, hS.F ht⟩) hS.2.2 dB_isWithin_14
set_option maxHeartbeats 400000000 in
set_option maxRecDepth 100000 in
theorem cB_demand_1 (l : Launch) (hl9 : l.stackTraces = false) (D : va_G) (cT : Nat → ClassId) (aK aV : Nat → Nat) (sz : Nat) : xMet l yB_demand wyB_demand 0 0 0 0 D cT aK aV sz [.int 1] [] (fun A => va_Qv (fun _ : Unit => True) (fun _ t => xB D xcl cT A [] t) A) := by
  refine Met.ofW (cc := prog_1_method_16_code) (maxL := 1) (ret := none) (by decide) rfl ?_
  intro p e s m args below meth c s₁ B hml hv
  obtain ⟨rfl, hsz, hZ, hP, hK, hD0⟩ := hv
  have hx := B.exec
  have hb := B.bytes
  have hr := B.returns
  have hts := atoms_spec (ws := wyB_demand) B.pre
  have htx := fun w h => hts w (List.mem_cons_of_mem _ h)
  have hown : s.vm.findClass "ValueBench" = some m.cls := findClass_of_methodNamed B.named
  have hlocks := B.notSynchronized
  subst hsz
  have hD := hD0.self (sz := s.heap.size)
  generalize hAe : va_A [] s.heap.size = A at hD hZ ⊢
  have hA : ∀ q : Nat, s.heap.size ≤ q → A q := fun q h => by rw [← hAe]; exact Or.inr h
  have hS : va_S A s.heap s.heap [] := va_S.rf
  have hP : va_P D xcl [] s.heap := hP
  have hl := lv_entry ([.int 1]) (n := 1) (Nat.le_of_ble_eq_true rfl)
  rw [lg_entry_eq]
  generalize (lg_sl ([.int 1]) ++ List.replicate (1 - (lg_sl ([.int 1])).length) Slot.unset).toArray = ls at hl ⊢
  have hl : lv_has ls 1 [(0, .int 1)] := hl
  refine lv_iload_n hx hb dB_demand_0 rfl (lv_at hl 0 rfl) ?_
  refine lv_if_ne (tgt := 14) hx hb dB_demand_1 (by decide) (fun _ => ?_) (fun h => ((by revert h; decide : False)).elim)
  obtain ⟨hP9, hD9⟩ := xsub (wc := []) hP hD [] rfl rfl (by decide)
  refine W.widen (k := 0) (n := 0) (Nat.le_of_ble_eq_true rfl) (Nat.le_of_ble_eq_true rfl) ?_
  exact W.vret hx hb hr (fun t ht hW => ⟨⟨(), rfl, trivial, by rw [ht]; exact hP9, va_K.moved hW.alike hK, hD9⟩, hS.F ht⟩) hS.2.2 dB_demand_14
set_option maxHeartbeats 400000000 in
set_option maxRecDepth 100000 in
theorem cT_keep_0 (l : Launch) (hl9 : l.stackTraces = false) (D : va_G) (cT : Nat → ClassId) (aK aV : Nat → Nat) (sz : Nat) (a0 : Nat) (x1 : Int32) (v2 : Value) (x3 : Int32) (v4 : Value) : xMet l yT_keep wyT_keep 1 0 0 40 D cT aK aV sz [.ref a0, .int x1] [(a0, .inr (1, [v2, .int x3, v4]))] (fun A => va_Qv (fun _ : Unit => True) (fun _ t => ∃ (y2 : Int32), xB D xcl cT A [(a0, .inr (1, [v2, .int y2, v4]))] t) A) := by
  refine Met.ofW (cc := prog_11_method_3_code) (maxL := 2) (ret := none) (by decide) rfl ?_
  intro p e s m args below meth c s₁ B hml hv
  obtain ⟨rfl, hsz, hZ, hP, hK, hD0⟩ := hv
  have hx := B.exec
  have hb := B.bytes
  have hr := B.returns
  have hts := atoms_spec (ws := wyT_keep) B.pre
  have htx := fun w h => hts w (List.mem_cons_of_mem _ h)
  have hown : s.vm.findClass "ValueBench$Text" = some m.cls := findClass_of_methodNamed B.named
  have hlocks := B.notSynchronized
  subst hsz
  have hD := hD0.self (sz := s.heap.size)
  generalize hAe : va_A [(a0, .inr (1, [v2, .int x3, v4]))] s.heap.size = A at hD hZ ⊢
  have hA : ∀ q : Nat, s.heap.size ≤ q → A q := fun q h => by rw [← hAe]; exact Or.inr h
  have hS : va_S A s.heap s.heap [] := va_S.rf
  have hP : va_P D xcl [(a0, .inr (1, [v2, .int x3, v4]))] s.heap := hP
  have hl := lv_entry ([.ref a0, .int x1]) (n := 2) (Nat.le_of_ble_eq_true rfl)
  rw [lg_entry_eq]
  generalize (lg_sl ([.ref a0, .int x1]) ++ List.replicate (2 - (lg_sl ([.ref a0, .int x1])).length) Slot.unset).toArray = ls at hl ⊢
  have hl : lv_has ls 2 [(0, .ref a0), (1, .int x1)] := hl
  refine lv_aload_n hx hb dT_keep_0 rfl (lv_at hl 0 rfl) ?_
  refine lv_iconst (v := 0) hx hb dT_keep_1 (by decide) ?_
  refine lv_iload_n hx hb dT_keep_2 rfl (lv_at hl 1 rfl) ?_
  refine lv_aload_n hx hb dT_keep_3 rfl (lv_at hl 0 rfl) ?_
  refine va_get (D := D) (ci := 1) (v := .int x3) (C := "ValueBench$Text") (T := TT) (N := 3) hx hb htx inT hown hK hP 0 rfl rfl 1 (by decide) (htx _ kw_1_44) (fun _ h9 => h9) rfl dT_keep_4 ?_
  refine va_mmin hx hb (hml.trans hl.1.symm) hown (htx _ kw_2_2) (htx _ kw_2_3) (htx _ kw_1_15) (htx _ kw_2_4) (Nat.le_of_ble_eq_true rfl) (Nat.le_of_ble_eq_true rfl) (Nat.le_of_ble_eq_true rfl) (Nat.le_of_ble_eq_true rfl) dT_keep_7 ?_
  refine lv_topi (fun y1 ey1 => ?_)
  refine va_mmax hx hb (hml.trans hl.1.symm) hown (htx _ kw_2_5) (htx _ kw_2_6) (htx _ kw_1_15) (htx _ kw_2_7) (Nat.le_of_ble_eq_true rfl) (Nat.le_of_ble_eq_true rfl) (Nat.le_of_ble_eq_true rfl) (Nat.le_of_ble_eq_true rfl) dT_keep_10 ?_
  refine lv_topi (fun y2 ey2 => ?_)
  refine va_put (D := D) (ci := 1) (v := .int y2) (ty := .int) (C := "ValueBench$Text") (T := TT) (N := 3) hx hb htx inT tyT tyT_ok nmT hown hK hP hD hS 0 rfl rfl 1 (by decide) (htx _ kw_1_44) (fun _ h9 => h9) rfl (by decide +kernel) rfl rfl (Nat.le_of_ble_eq_true rfl) dT_keep_13 (fun H locs hP hD hS => ?_)
  obtain ⟨hP, hD⟩ : xPD D xcl A [(a0, .inr (1, [v2, .int y2, v4]))] H := ⟨hP, hD⟩
  obtain ⟨hP9, hD9⟩ := xsub (wc := [(a0, .inr (1, [v2, .int y2, v4]))]) hP hD [0] rfl rfl (by decide)
  refine W.widen (k := 0) (n := 0) (Nat.le_of_ble_eq_true rfl) (Nat.le_of_ble_eq_true rfl) ?_
  exact W.vret hx hb hr (fun t ht hW => ⟨⟨(), rfl, trivial, y2, by rw [ht]; exact hP9, va_K.moved hW.alike hK, hD9⟩, hS.F ht⟩) hS.2.2 dT_keep_16
set_option maxHeartbeats 400000000 in
set_option maxRecDepth 100000 in
theorem cB_end_2 (l : Launch) (hl9 : l.stackTraces = false) (D : va_G) (cT : Nat → ClassId) (aK aV : Nat → Nat) (sz : Nat) (a0 : Nat) (a1 : Nat) (v2 : Value) (v3 : Value) (v4 : Value) (v5 : Value) (v6 : Value) (v7 : Value) (v8 : Value) (v9 : Value) (v10 : Value) : xMet l yB_end wyB_end 2 0 0 61 D cT aK aV sz [.ref a0, .int 0] [(a0, .inr (0, [.ref a1, v2, v3, v4, v5, v6, v7, v8])), (a1, .inr (1, [v9, .int 0, v10]))] (fun A => va_Qi (fun (r : Int32) (_ : Unit) => r = 0) (fun _ t => ∃ (y3 : Int32), xB D xcl cT A [(a0, .inr (0, [.ref a1, v2, v3, v4, v5, v6, v7, v8])), (a1, .inr (1, [v9, .int y3, v10]))] t) A) := by
  refine Met.ofW (cc := prog_1_method_3_code) (maxL := 2) (ret := (some .int)) (by decide) rfl ?_
  intro p e s m args below meth c s₁ B hml hv
  obtain ⟨rfl, hsz, hZ, hP, hK, hD0⟩ := hv
  have hx := B.exec
  have hb := B.bytes
  have hr := B.returns
  have hts := atoms_spec (ws := wyB_end) B.pre
  have htx := fun w h => hts w (List.mem_cons_of_mem _ h)
  have hown : s.vm.findClass "ValueBench" = some m.cls := findClass_of_methodNamed B.named
  have hlocks := B.notSynchronized
  subst hsz
  have hD := hD0.self (sz := s.heap.size)
  generalize hAe : va_A [(a0, .inr (0, [.ref a1, v2, v3, v4, v5, v6, v7, v8])), (a1, .inr (1, [v9, .int 0, v10]))] s.heap.size = A at hD hZ ⊢
  have hA : ∀ q : Nat, s.heap.size ≤ q → A q := fun q h => by rw [← hAe]; exact Or.inr h
  have hS : va_S A s.heap s.heap [] := va_S.rf
  have hP : va_P D xcl [(a0, .inr (0, [.ref a1, v2, v3, v4, v5, v6, v7, v8])), (a1, .inr (1, [v9, .int 0, v10]))] s.heap := hP
  have hl := lv_entry ([.ref a0, .int 0]) (n := 2) (Nat.le_of_ble_eq_true rfl)
  rw [lg_entry_eq]
  generalize (lg_sl ([.ref a0, .int 0]) ++ List.replicate (2 - (lg_sl ([.ref a0, .int 0])).length) Slot.unset).toArray = ls at hl ⊢
  have hl : lv_has ls 2 [(0, .ref a0), (1, .int 0)] := hl
  refine lv_iload_n hx hb dB_end_0 rfl (lv_at hl 1 rfl) ?_
  refine lv_aload_n hx hb dB_end_1 rfl (lv_at hl 0 rfl) ?_
  refine va_get (D := D) (ci := 0) (v := .ref a1) (C := "ValueBench") (T := TB) (N := 8) hx hb htx inB hown hK hP 0 rfl rfl 0 (by decide) (htx _ kw_1_95) (fun _ h9 => h9) rfl dB_end_2 ?_
  obtain ⟨hPc, hDc, hFc⟩ := xcut (wc := [(a1, .inr (1, [v9, .int 0, v10]))]) hP hD hS hA [1] rfl rfl (by decide)
  refine va_calli (va_runV (C := "ValueBench$Text") (As := []) (rest := [.int 0]) ⟨hx, hb, hml, hown, htx⟩ (cT_size_0 l hl9 D cT aK aV s.heap.size a1 v9 v10) ⟨callB_of 0 htx (xw_goodC kw_1_131) rfl rfl rfl (htx _ kw_1_2) (htx _ kw_1_128) ⟨by decide, by decide, by decide +kernel⟩ ⟨Nat.le_of_ble_eq_true rfl, Nat.le_of_ble_eq_true rfl⟩, (htx _ kw_1_129), (htx _ kw_1_130)⟩ ⟨xPre_blind, va_recv hK hP (ci := 1) rfl (q0 := 1) rfl, (fun U hU hW => ⟨rfl, xPre_of hZ hS hFc hPc hDc hK U hU hW⟩)⟩ rfl rfl hl.1 rfl (lv_room (Nat.le_of_ble_eq_true rfl)) dB_end_5 ⟨Nat.le_of_ble_eq_true rfl, Nat.le_of_ble_eq_true rfl⟩) hS (fun q _ h => hFc q h) hFc (fun r1 u9 t H1 locs ht hvm hr9 hB hz1 hk1 hS => ?_)
  obtain ⟨hP1, hK1, hD1⟩ := hB
  rw [ht] at hP1
  obtain ⟨hP, hD⟩ := xjoin (W := [(a0, .inr (0, [.ref a1, v2, v3, v4, v5, v6, v7, v8])), (a1, .inr (1, [v9, .int 0, v10]))]) hP hD [1] [0] 1 rfl rfl (by decide) (by decide) hk1 hFc hP1 hD1
  generalize H1 = H at hP hS ⊢
  rw [hr9]
  refine W.eq (g2 := F0 m 8 ls [.int 0, .int 0]) rfl ?_
  obtain ⟨hPc, hDc, hFc⟩ := xcut (wc := []) hP hD hS hA [] rfl rfl (by decide)
  refine va_calli (va_runS (As := [.int 0, .int 0]) (rest := []) ⟨hx, hb, hml, hown, htx⟩ (cB_isWithin_2 l hl9 D cT aK aV H.size) ⟨callB_of 2 htx (xw_goodC kw_1_218) rfl rfl rfl (htx _ kw_1_1) (htx _ kw_1_216) ⟨by decide, by decide, by decide +kernel⟩ ⟨Nat.le_of_ble_eq_true rfl, Nat.le_of_ble_eq_true rfl⟩, htx _ kw_1_217⟩ ⟨xPre_blind, (fun U hU hW => ⟨rfl, xPre_of hZ hS hFc hPc hDc hK U hU hW⟩)⟩ rfl rfl hl.1 rfl (lv_room (Nat.le_of_ble_eq_true rfl)) dB_end_8 ⟨Nat.le_of_ble_eq_true rfl, Nat.le_of_ble_eq_true rfl⟩) hS (fun q _ h => hFc q h) hFc (fun r2 u9 t H1 locs ht hvm hr9 hB hz1 hk1 hS => ?_)
  obtain ⟨hP1, hK1, hD1⟩ := hB
  rw [ht] at hP1
  obtain ⟨hP, hD⟩ := xjoin (W := [(a0, .inr (0, [.ref a1, v2, v3, v4, v5, v6, v7, v8])), (a1, .inr (1, [v9, .int 0, v10]))]) hP hD [] [0, 1] 2 rfl rfl (by decide) (by decide) hk1 hFc hP1 hD1
  generalize H1 = H at hP hS ⊢
  rw [hr9]
  refine W.eq (g2 := F0 m 11 ls [.int 1]) rfl ?_
  obtain ⟨hPc, hDc, hFc⟩ := xcut (wc := []) hP hD hS hA [] rfl rfl (by decide)
  refine va_callv (va_runS (As := [.int 1]) (rest := []) ⟨hx, hb, hml, hown, htx⟩ (cB_demand_1 l hl9 D cT aK aV H.size) ⟨callB_of 1 htx (xw_goodC kw_1_221) rfl rfl rfl (htx _ kw_1_1) (htx _ kw_1_219) ⟨by decide, by decide, by decide +kernel⟩ ⟨Nat.le_of_ble_eq_true rfl, Nat.le_of_ble_eq_true rfl⟩, htx _ kw_1_220⟩ ⟨xPre_blind, (fun U hU hW => ⟨rfl, xPre_of hZ hS hFc hPc hDc hK U hU hW⟩)⟩ rfl rfl hl.1 rfl (lv_room (Nat.le_of_ble_eq_true rfl)) dB_end_11 ⟨Nat.le_of_ble_eq_true rfl, Nat.le_of_ble_eq_true rfl⟩) hS (fun q _ h => hFc q h) hFc (fun u9 t H1 locs ht hvm hr9 hB hz1 hk1 hS => ?_)
  obtain ⟨hP1, hK1, hD1⟩ := hB
  rw [ht] at hP1
  obtain ⟨hP, hD⟩ := xjoin (W := [(a0, .inr (0, [.ref a1, v2, v3, v4, v5, v6, v7, v8])), (a1, .inr (1, [v9, .int 0, v10]))]) hP hD [] [0, 1] 2 rfl rfl (by decide) (by decide) hk1 hFc hP1 hD1
  generalize H1 = H at hP hS ⊢
  refine lv_aload_n hx hb dB_end_14 rfl (lv_at hl 0 rfl) ?_
  refine va_get (D := D) (ci := 0) (v := .ref a1) (C := "ValueBench") (T := TB) (N := 8) hx hb htx inB hown hK hP 0 rfl rfl 0 (by decide) (htx _ kw_1_95) (fun _ h9 => h9) rfl dB_end_15 ?_
  refine lv_iload_n hx hb dB_end_18 rfl (lv_at hl 1 rfl) ?_
  obtain ⟨hPc, hDc, hFc⟩ := xcut (wc := [(a1, .inr (1, [v9, .int 0, v10]))]) hP hD hS hA [1] rfl rfl (by decide)
  refine va_callv (va_runV (C := "ValueBench$Text") (As := [.int 0]) (rest := []) ⟨hx, hb, hml, hown, htx⟩ (cT_keep_0 l hl9 D cT aK aV H.size a1 0 v9 0 v10) ⟨callB_of 1 htx (xw_goodC kw_2_1) rfl rfl rfl (htx _ kw_1_2) (htx _ kw_1_238) ⟨by decide, by decide, by decide +kernel⟩ ⟨Nat.le_of_ble_eq_true rfl, Nat.le_of_ble_eq_true rfl⟩, (htx _ kw_1_239), (htx _ kw_2_0)⟩ ⟨xPre_blind, va_recv hK hP (ci := 1) rfl (q0 := 1) rfl, (fun U hU hW => ⟨rfl, xPre_of hZ hS hFc hPc hDc hK U hU hW⟩)⟩ rfl rfl hl.1 rfl (lv_room (Nat.le_of_ble_eq_true rfl)) dB_end_19 ⟨Nat.le_of_ble_eq_true rfl, Nat.le_of_ble_eq_true rfl⟩) hS (fun q _ h => hFc q h) hFc (fun u9 t H1 locs ht hvm hr9 hB hz1 hk1 hS => ?_)
  obtain ⟨y3, hP1, hK1, hD1⟩ := hB
  rw [ht] at hP1
  obtain ⟨hP, hD⟩ := xjoin (W := [(a0, .inr (0, [.ref a1, v2, v3, v4, v5, v6, v7, v8])), (a1, .inr (1, [v9, .int y3, v10]))]) hP hD [1] [0] 1 rfl rfl (by decide) (by decide) hk1 hFc hP1 hD1
  generalize H1 = H at hP hS ⊢
  refine lv_iload_n hx hb dB_end_22 rfl (lv_at hl 1 rfl) ?_
  obtain ⟨hP9, hD9⟩ := xsub (wc := [(a0, .inr (0, [.ref a1, v2, v3, v4, v5, v6, v7, v8])), (a1, .inr (1, [v9, .int y3, v10]))]) hP hD [0, 1] rfl rfl (by decide)
  refine W.widen (k := 0) (n := 0) (Nat.le_of_ble_eq_true rfl) (Nat.le_of_ble_eq_true rfl) ?_
  exact W.iret (v := 0) hx hb hr (fun t ht hW => ⟨⟨0, (), rfl, rfl, y3, by rw [ht]; exact hP9, va_K.moved hW.alike hK, hD9⟩, hS.F ht⟩) hS.2.2 dB_end_23
set_option maxHeartbeats 400000000 in
set_option maxRecDepth 100000 in
theorem cL_end_2 (l : Launch) (hl9 : l.stackTraces = false) (D : va_G) (cT : Nat → ClassId) (aK aV : Nat → Nat) (sz : Nat) (a0 : Nat) (a1 : Nat) (a2 : Nat) (v3 : Value) (v4 : Value) (v5 : Value) (v6 : Value) (v7 : Value) (v8 : Value) (v9 : Value) (v10 : Value) (v11 : Value) (f12 : Nat → Int64) : xMet l yL_end wyL_end 3 0 0 82 D cT aK aV sz [.ref a0, .int 0, .ref a2] [(a0, .inr (0, [.ref a1, v3, v4, v5, v6, v7, v8, v9])), (a1, .inr (1, [v10, .int 0, v11])), (a2, .inl (cT 2, 1, .inr (.inl f12)))] (fun A => va_Qi (fun (r : Int32) (_ : Unit) => r = 0) (fun _ t => ∃ (y2 : Int32), xB D xcl cT A [(a0, .inr (0, [.ref a1, v3, v4, v5, v6, v7, v8, v9])), (a1, .inr (1, [v10, .int y2, v11])), (a2, .inl (cT 2, 1, .inr (.inl (vp_updL f12 0 0))))] t) A) := by
  refine va_MetW (cc := method_4_code) (maxL := 4) (ret := (some .int)) (hh := [(0, 9, 12, 19)]) (by decide) rfl ?_
  intro p e s m args below meth c s₁ B hml hv
  obtain ⟨rfl, hsz, hZ, hP, hK, hD0⟩ := hv
  have hx := B.exec
  have hb := B.bytes
  have hr := B.returns
  have hts := atoms_spec (ws := wyL_end) B.pre
  have htx := fun w h => hts w (List.mem_cons_of_mem _ h)
  have hown : s.vm.findClass "ValueBenchLaw" = some m.cls := findClass_of_methodNamed B.named
  have hlocks := B.notSynchronized
  subst hsz
  have hD := hD0.self (sz := s.heap.size)
  generalize hAe : va_A [(a0, .inr (0, [.ref a1, v3, v4, v5, v6, v7, v8, v9])), (a1, .inr (1, [v10, .int 0, v11])), (a2, .inl (cT 2, 1, .inr (.inl f12)))] s.heap.size = A at hD hZ ⊢
  have hA : ∀ q : Nat, s.heap.size ≤ q → A q := fun q h => by rw [← hAe]; exact Or.inr h
  have hS : va_S A s.heap s.heap [] := va_S.rf
  have hP : va_P D xcl [(a0, .inr (0, [.ref a1, v3, v4, v5, v6, v7, v8, v9])), (a1, .inr (1, [v10, .int 0, v11])), (a2, .inl (cT 2, 1, .inr (.inl f12)))] s.heap := hP
  have hl := lv_entry ([.ref a0, .int 0, .ref a2]) (n := 4) (Nat.le_of_ble_eq_true rfl)
  rw [lg_entry_eq]
  generalize (lg_sl ([.ref a0, .int 0, .ref a2]) ++ List.replicate (4 - (lg_sl ([.ref a0, .int 0, .ref a2])).length) Slot.unset).toArray = ls at hl ⊢
  have hl : lv_has ls 4 [(0, .ref a0), (1, .int 0), (2, .ref a2)] := hl
  have htab := vx_table (x := yL_end) B (hts _ List.mem_cons_self)
  refine lv_aload_n hx hb dL_end_0 rfl (lv_at hl 2 rfl) ?_
  refine lv_iconst (v := 0) hx hb dL_end_1 (by decide) ?_
  refine lv_aload_n hx hb dL_end_2 rfl (lv_at hl 0 rfl) ?_
  refine lv_iload_n hx hb dL_end_3 rfl (lv_at hl 1 rfl) ?_
  obtain ⟨hPc, hDc, hFc⟩ := xcut (wc := [(a0, .inr (0, [.ref a1, v3, v4, v5, v6, v7, v8, v9])), (a1, .inr (1, [v10, .int 0, v11]))]) hP hD hS hA [0, 1] rfl rfl (by decide)
  refine va_calli (va_runV (C := "ValueBench") (As := [.int 0]) (rest := [.int 0, .ref a2]) ⟨hx, hb, hml, hown, htx⟩ (cB_end_2 l hl9 D cT aK aV s.heap.size a0 a1 v3 v4 v5 v6 v7 v8 v9 v10 v11) ⟨callB_of 1 htx (xw_goodC kw_1_215) rfl rfl rfl (htx _ kw_1_1) (htx _ kw_1_212) ⟨by decide, by decide, by decide +kernel⟩ ⟨Nat.le_of_ble_eq_true rfl, Nat.le_of_ble_eq_true rfl⟩, (htx _ kw_1_213), (htx _ kw_1_214)⟩ ⟨xPre_blind, va_recv hK hP (ci := 0) rfl (q0 := 0) rfl, (fun U hU hW => ⟨rfl, xPre_of hZ hS hFc hPc hDc hK U hU hW⟩)⟩ rfl rfl hl.1 rfl (lv_room (Nat.le_of_ble_eq_true rfl)) dL_end_4 ⟨Nat.le_of_ble_eq_true rfl, Nat.le_of_ble_eq_true rfl⟩) hS (fun q _ h => hFc q h) hFc (fun r1 u9 t H1 locs ht hvm hr9 hB hz1 hk1 hS => ?_)
  obtain ⟨y2, hP1, hK1, hD1⟩ := hB
  rw [ht] at hP1
  obtain ⟨hP, hD⟩ := xjoin (W := [(a2, .inl (cT 2, 1, .inr (.inl f12))), (a0, .inr (0, [.ref a1, v3, v4, v5, v6, v7, v8, v9])), (a1, .inr (1, [v10, .int y2, v11]))]) hP hD [0, 1] [2] 1 rfl rfl (by decide) (by decide) hk1 hFc hP1 hD1
  generalize H1 = H at hP hS ⊢
  rw [hr9]
  refine W.eq (g2 := F0 m 7 ls [.int 0, .int 0, .ref a2]) rfl ?_
  refine lv_i2l hx hb dL_end_7 rfl ?_
  refine W.eq (g2 := F0 m 8 ls [.long 0, .int 0, .ref a2]) rfl ?_
  refine va_last hx hb hK hP hD hS 0 2 rfl rfl (show ¬ ((0 : Int32) < 0 ∨ 1 ≤ (0 : Int32).toNatClampNeg) by decide) dL_end_8 (fun H locs hP hD hS => ?_)
  obtain ⟨hP, hD⟩ : xPD D xcl A [(a2, .inl (cT 2, 1, .inr (.inl (vp_updL f12 0 0)))), (a0, .inr (0, [.ref a1, v3, v4, v5, v6, v7, v8, v9])), (a1, .inr (1, [v10, .int y2, v11]))] H := ⟨hP, hD⟩
  refine lv_goto (tgt := 15) hx hb dL_end_9 (by decide) ?_
  refine lv_iconst (v := 0) hx hb dL_end_15 (by decide) ?_
  obtain ⟨hP9, hD9⟩ := xsub (wc := [(a0, .inr (0, [.ref a1, v3, v4, v5, v6, v7, v8, v9])), (a1, .inr (1, [v10, .int y2, v11])), (a2, .inl (cT 2, 1, .inr (.inl (vp_updL f12 0 0))))]) hP hD [1, 2, 0] rfl rfl (by decide)
  refine W.widen (k := 0) (n := 0) (Nat.le_of_ble_eq_true rfl) (Nat.le_of_ble_eq_true rfl) ?_
  exact W.iret (v := 0) hx hb hr (fun t ht hW => ⟨⟨0, (), rfl, rfl, y2, by rw [ht]; exact hP9, va_K.moved hW.alike hK, hD9⟩, hS.F ht⟩) hS.2.2 dL_end_16
set_option maxHeartbeats 400000000 in
set_option maxRecDepth 100000 in
theorem cM_end_2 (l : Launch) (hl9 : l.stackTraces = false) (D : va_G) (cT : Nat → ClassId) (aK aV : Nat → Nat) (sz : Nat) (a0 : Nat) (v1 : Value) (v2 : Value) (v3 : Value) (v4 : Value) (v5 : Value) (v6 : Value) (v7 : Value) (v8 : Value) (v9 : Value) (v10 : Value) (v11 : Value) (v12 : Value) (v13 : Value) (v14 : Value) (v15 : Value) (v16 : Value) (v17 : Value) (v18 : Value) (v19 : Value) (v20 : Value) (v21 : Value) (v22 : Value) (v23 : Value) (v24 : Value) (v25 : Value) (v26 : Value) (v27 : Value) (v28 : Value) (v29 : Value) (v30 : Value) (v31 : Value) : xMet l yM_end wyM_end 0 0 0 0 D cT aK aV sz [.ref a0, .int 0] [(a0, .inr (5, [v1, v2, v3, v4, v5, v6, v7, v8, v9, v10, v11, v12, v13, v14, v15, v16, v17, v18, v19, v20, v21, v22, v23, v24, v25, v26, v27, .int 0, v28, v29, v30, v31]))] (fun A => va_Qi (fun (r : Int32) (_ : Unit) => r = 0) (fun _ t => xB D xcl cT A [(a0, .inr (5, [.int 0, v2, v3, v4, v5, v6, v7, v8, v9, v10, v11, v12, v13, v14, v15, v16, v17, v18, v19, v20, v21, v22, v23, v24, v25, v26, v27, .int 0, v28, v29, v30, v31]))] t) A) := by
  refine Met.ofW (cc := prog_13_method_83_code) (maxL := 2) (ret := (some .int)) (by decide) rfl ?_
  intro p e s m args below meth c s₁ B hml hv
  obtain ⟨rfl, hsz, hZ, hP, hK, hD0⟩ := hv
  have hx := B.exec
  have hb := B.bytes
  have hr := B.returns
  have hts := atoms_spec (ws := wyM_end) B.pre
  have htx := fun w h => hts w (List.mem_cons_of_mem _ h)
  have hown : s.vm.findClass "ValueBenchModel" = some m.cls := findClass_of_methodNamed B.named
  have hlocks := B.notSynchronized
  subst hsz
  have hD := hD0.self (sz := s.heap.size)
  generalize hAe : va_A [(a0, .inr (5, [v1, v2, v3, v4, v5, v6, v7, v8, v9, v10, v11, v12, v13, v14, v15, v16, v17, v18, v19, v20, v21, v22, v23, v24, v25, v26, v27, .int 0, v28, v29, v30, v31]))] s.heap.size = A at hD hZ ⊢
  have hA : ∀ q : Nat, s.heap.size ≤ q → A q := fun q h => by rw [← hAe]; exact Or.inr h
  have hS : va_S A s.heap s.heap [] := va_S.rf
  have hP : va_P D xcl [(a0, .inr (5, [v1, v2, v3, v4, v5, v6, v7, v8, v9, v10, v11, v12, v13, v14, v15, v16, v17, v18, v19, v20, v21, v22, v23, v24, v25, v26, v27, .int 0, v28, v29, v30, v31]))] s.heap := hP
  have hl := lv_entry ([.ref a0, .int 0]) (n := 2) (Nat.le_of_ble_eq_true rfl)
  rw [lg_entry_eq]
  generalize (lg_sl ([.ref a0, .int 0]) ++ List.replicate (2 - (lg_sl ([.ref a0, .int 0])).length) Slot.unset).toArray = ls at hl ⊢
  have hl : lv_has ls 2 [(0, .ref a0), (1, .int 0)] := hl
  refine lv_aload_n hx hb dM_end_0 rfl (lv_at hl 0 rfl) ?_
  refine lv_iconst (v := 0) hx hb dM_end_1 (by decide) ?_
  refine va_put (D := D) (ci := 5) (v := .int 0) (ty := .int) (C := "ValueBenchModel") (T := TM) (N := 32) hx hb htx inM tyM tyM_ok nmM hown hK hP hD hS 0 rfl rfl 0 (by decide) (htx _ kw_5_87) (fun _ h9 => h9) rfl (by decide +kernel) rfl rfl (Nat.le_of_ble_eq_true rfl) dM_end_2 (fun H locs hP hD hS => ?_)
  obtain ⟨hP, hD⟩ : xPD D xcl A [(a0, .inr (5, [.int 0, v2, v3, v4, v5, v6, v7, v8, v9, v10, v11, v12, v13, v14, v15, v16, v17, v18, v19, v20, v21, v22, v23, v24, v25, v26, v27, .int 0, v28, v29, v30, v31]))] H := ⟨hP, hD⟩
  refine lv_iload_n hx hb dM_end_5 rfl (lv_at hl 1 rfl) ?_
  refine lv_if_lt (tgt := 17) hx hb dM_end_6 (by decide) (fun h => ((by revert h; decide : False)).elim) (fun _ => ?_)
  refine lv_iload_n hx hb dM_end_9 rfl (lv_at hl 1 rfl) ?_
  refine lv_aload_n hx hb dM_end_10 rfl (lv_at hl 0 rfl) ?_
  refine va_get (D := D) (ci := 5) (v := .int 0) (C := "ValueBenchModel") (T := TM) (N := 32) hx hb htx inM hown hK hP 0 rfl rfl 27 (by decide) (htx _ kw_5_114) (fun _ h9 => h9) rfl dM_end_11 ?_
  refine lv_icmp_le (tgt := 23) hx hb dM_end_14 (by decide) (fun _ => ?_) (fun h => ((by revert h; decide : False)).elim)
  refine lv_aload_n hx hb dM_end_23 rfl (lv_at hl 0 rfl) ?_
  refine lv_iload_n hx hb dM_end_24 rfl (lv_at hl 1 rfl) ?_
  refine va_put (D := D) (ci := 5) (v := .int 0) (ty := .int) (C := "ValueBenchModel") (T := TM) (N := 32) hx hb htx inM tyM tyM_ok nmM hown hK hP hD hS 0 rfl rfl 27 (by decide) (htx _ kw_5_114) (fun _ h9 => h9) rfl (by decide +kernel) rfl rfl (Nat.le_of_ble_eq_true rfl) dM_end_25 (fun H locs hP hD hS => ?_)
  obtain ⟨hP, hD⟩ : xPD D xcl A [(a0, .inr (5, [.int 0, v2, v3, v4, v5, v6, v7, v8, v9, v10, v11, v12, v13, v14, v15, v16, v17, v18, v19, v20, v21, v22, v23, v24, v25, v26, v27, .int 0, v28, v29, v30, v31]))] H := ⟨hP, hD⟩
  refine lv_iload_n hx hb dM_end_28 rfl (lv_at hl 1 rfl) ?_
  obtain ⟨hP9, hD9⟩ := xsub (wc := [(a0, .inr (5, [.int 0, v2, v3, v4, v5, v6, v7, v8, v9, v10, v11, v12, v13, v14, v15, v16, v17, v18, v19, v20, v21, v22, v23, v24, v25, v26, v27, .int 0, v28, v29, v30, v31]))]) hP hD [0] rfl rfl (by decide)
  refine W.widen (k := 0) (n := 0) (Nat.le_of_ble_eq_true rfl) (Nat.le_of_ble_eq_true rfl) ?_
  exact W.iret (v := 0) hx hb hr (fun t ht hW => ⟨⟨0, (), rfl, rfl, by rw [ht]; exact hP9, va_K.moved hW.alike hK, hD9⟩, hS.F ht⟩) hS.2.2 dM_end_29
set_option maxHeartbeats 400000000 in
set_option maxRecDepth 100000 in
theorem cB_isRegister_0 (l : Launch) (hl9 : l.stackTraces = false) (D : va_G) (cT : Nat → ClassId) (aK aV : Nat → Nat) (sz : Nat) (x0 : Int32) (h1 : x0 < 0) : xMet l yB_isRegister wyB_isRegister 1 0 0 21 D cT aK aV sz [.int x0] [] (fun A => va_Qi (fun (r : Int32) (_ : Unit) => r = 0) (fun _ t => xB D xcl cT A [] t) A) := by
  refine Met.ofW (cc := prog_1_method_14_code) (maxL := 1) (ret := (some .boolean)) (by decide) rfl ?_
  intro p e s m args below meth c s₁ B hml hv
  obtain ⟨rfl, hsz, hZ, hP, hK, hD0⟩ := hv
  have hx := B.exec
  have hb := B.bytes
  have hr := B.returns
  have hts := atoms_spec (ws := wyB_isRegister) B.pre
  have htx := fun w h => hts w (List.mem_cons_of_mem _ h)
  have hown : s.vm.findClass "ValueBench" = some m.cls := findClass_of_methodNamed B.named
  have hlocks := B.notSynchronized
  subst hsz
  have hD := hD0.self (sz := s.heap.size)
  generalize hAe : va_A [] s.heap.size = A at hD hZ ⊢
  have hA : ∀ q : Nat, s.heap.size ≤ q → A q := fun q h => by rw [← hAe]; exact Or.inr h
  have hS : va_S A s.heap s.heap [] := va_S.rf
  have hP : va_P D xcl [] s.heap := hP
  have hl := lv_entry ([.int x0]) (n := 1) (Nat.le_of_ble_eq_true rfl)
  rw [lg_entry_eq]
  generalize (lg_sl ([.int x0]) ++ List.replicate (1 - (lg_sl ([.int x0])).length) Slot.unset).toArray = ls at hl ⊢
  have hl : lv_has ls 1 [(0, .int x0)] := hl
  refine lv_iload_n hx hb dB_isRegister_0 rfl (lv_at hl 0 rfl) ?_
  refine lv_bipush (v := 7) hx hb dB_isRegister_1 (by decide) ?_
  obtain ⟨hPc, hDc, hFc⟩ := xcut (wc := []) hP hD hS hA [] rfl rfl (by decide)
  refine va_calli (va_runS (As := [.int x0, .int 7]) (rest := []) ⟨hx, hb, hml, hown, htx⟩ (cB_isWithin_0 l hl9 D cT aK aV s.heap.size x0 7 h1) ⟨callB_of 2 htx (xw_goodC kw_1_218) rfl rfl rfl (htx _ kw_1_1) (htx _ kw_1_216) ⟨by decide, by decide, by decide +kernel⟩ ⟨Nat.le_of_ble_eq_true rfl, Nat.le_of_ble_eq_true rfl⟩, htx _ kw_1_217⟩ ⟨xPre_blind, (fun U hU hW => ⟨rfl, xPre_of hZ hS hFc hPc hDc hK U hU hW⟩)⟩ rfl rfl hl.1 rfl (lv_room (Nat.le_of_ble_eq_true rfl)) dB_isRegister_3 ⟨Nat.le_of_ble_eq_true rfl, Nat.le_of_ble_eq_true rfl⟩) hS (fun q _ h => hFc q h) hFc (fun r1 u9 t H1 locs ht hvm hr9 hB hz1 hk1 hS => ?_)
  obtain ⟨hP1, hK1, hD1⟩ := hB
  rw [ht] at hP1
  obtain ⟨hP, hD⟩ := xjoin (W := []) hP hD [] [] 0 rfl rfl (by decide) (by decide) hk1 hFc hP1 hD1
  generalize H1 = H at hP hS ⊢
  rw [hr9]
  refine W.eq (g2 := F0 m 6 ls [.int 0]) rfl ?_
  obtain ⟨hP9, hD9⟩ := xsub (wc := []) hP hD [] rfl rfl (by decide)
  refine W.widen (k := 0) (n := 0) (Nat.le_of_ble_eq_true rfl) (Nat.le_of_ble_eq_true rfl) ?_
  exact W.zret (v := 0) hx hb hr rfl (fun t ht hW => ⟨⟨0, (), rfl, rfl, by rw [ht]; exact hP9, va_K.moved hW.alike hK, hD9⟩, hS.F ht⟩) hS.2.2 dB_isRegister_6
set_option maxHeartbeats 400000000 in
set_option maxRecDepth 100000 in
theorem cB_read_0 (l : Launch) (hl9 : l.stackTraces = false) (D : va_G) (cT : Nat → ClassId) (aK aV : Nat → Nat) (sz : Nat) (b0 : Nat) (x1 : Int32) (h2 : x1 < 0) : xMetX l yB_read wyB_read 7 1 6 120 D cT aK aV sz [.ref b0, .int x1] [] "java/lang/IllegalArgumentException" (fun A t => xB D xcl cT A [] t) := by
  refine vx_ofW (cc := prog_1_method_4_code) (maxL := 2) (ret := (some .int)) (by decide) rfl ?_
  intro p e s m args below meth c s₁ B hml hne hv
  obtain ⟨rfl, hsz, hZ, hP, hK, hD0⟩ := hv
  have hx := B.exec
  have hb := B.bytes
  have hr := B.returns
  have hts := atoms_spec (ws := wyB_read) B.pre
  have htx := fun w h => hts w (List.mem_cons_of_mem _ h)
  have hown : s.vm.findClass "ValueBench" = some m.cls := findClass_of_methodNamed B.named
  have hlocks := B.notSynchronized
  subst hsz
  have hD := hD0.self (sz := s.heap.size)
  generalize hAe : va_A [] s.heap.size = A at hD hZ ⊢
  have hA : ∀ q : Nat, s.heap.size ≤ q → A q := fun q h => by rw [← hAe]; exact Or.inr h
  have hS : va_S A s.heap s.heap [] := va_S.rf
  have hP : va_P D xcl [] s.heap := hP
  have hl := lv_entry ([.ref b0, .int x1]) (n := 2) (Nat.le_of_ble_eq_true rfl)
  rw [lg_entry_eq]
  generalize (lg_sl ([.ref b0, .int x1]) ++ List.replicate (2 - (lg_sl ([.ref b0, .int x1])).length) Slot.unset).toArray = ls at hl ⊢
  have hl : lv_has ls 2 [(0, .ref b0), (1, .int x1)] := hl
  refine lv_iload_n hx hb dB_read_0 rfl (lv_at hl 1 rfl) ?_
  obtain ⟨hPc, hDc, hFc⟩ := xcut (wc := []) hP hD hS hA [] rfl rfl (by decide)
  refine va_calli (va_runS (As := [.int x1]) (rest := []) ⟨hx, hb, hml, hown, htx⟩ (cB_isRegister_0 l hl9 D cT aK aV s.heap.size x1 h2) ⟨callB_of 1 htx (xw_goodC kw_2_18) rfl rfl rfl (htx _ kw_1_1) (htx _ kw_2_16) ⟨by decide, by decide, by decide +kernel⟩ ⟨Nat.le_of_ble_eq_true rfl, Nat.le_of_ble_eq_true rfl⟩, htx _ kw_2_17⟩ ⟨xPre_blind, (fun U hU hW => ⟨rfl, xPre_of hZ hS hFc hPc hDc hK U hU hW⟩)⟩ rfl rfl hl.1 rfl (lv_room (Nat.le_of_ble_eq_true rfl)) dB_read_1 ⟨Nat.le_of_ble_eq_true rfl, Nat.le_of_ble_eq_true rfl⟩) hS (fun q _ h => hFc q h) hFc (fun r1 u9 t H1 locs ht hvm hr9 hB hz1 hk1 hS => ?_)
  obtain ⟨hP1, hK1, hD1⟩ := hB
  rw [ht] at hP1
  obtain ⟨hP, hD⟩ := xjoin (W := []) hP hD [] [] 0 rfl rfl (by decide) (by decide) hk1 hFc hP1 hD1
  generalize H1 = H at hP hS ⊢
  rw [hr9]
  refine W.eq (g2 := F0 m 4 ls [.int 0]) rfl ?_
  obtain ⟨hPc, hDc, hFc⟩ := xcut (wc := []) hP hD hS hA [] rfl rfl (by decide)
  refine xx_thr (vx_runS (As := [.int 0]) (rest := []) ⟨hx, hb, hml, hown, htx⟩ (cB_demand_0 l hl9 D cT aK aV H.size) ⟨callB_of 1 htx (xw_goodC kw_1_221) rfl rfl rfl (htx _ kw_1_1) (htx _ kw_1_219) ⟨by decide, by decide, by decide +kernel⟩ ⟨Nat.le_of_ble_eq_true rfl, Nat.le_of_ble_eq_true rfl⟩, htx _ kw_1_220⟩ ⟨xPre_blind, (fun U hU hW => ⟨rfl, xPre_of hZ hS hFc hPc hDc hK U hU hW⟩)⟩ rfl rfl hl.1 rfl (lv_room (Nat.le_of_ble_eq_true rfl)) dB_read_4 ⟨Nat.le_of_ble_eq_true rfl, Nat.le_of_ble_eq_true rfl⟩) hS hFc (fun q _ h => hFc q h) (fun E ce q9 u9 t H1 locs ht hvm _ hB hz1 hk1 hS hce hcv hcl => ?_)
  obtain ⟨rfl, hP1, hK1, hD1⟩ := hB
  rw [ht] at hP1
  obtain ⟨hP, hD⟩ := xjoin (W := []) hP hD [] [] 0 rfl rfl (by decide) (by decide) hk1 hFc hP1 hD1
  generalize H1 = H at hP hS hce ⊢
  obtain ⟨hP9, hD9⟩ := xsub (wc := []) hP hD [] rfl rfl (by decide)
  exact vx_out (E := "java/lang/IllegalArgumentException") (fun x h => (hne x h).elim) hlocks hce hcv hcl (fun t ht ha => ⟨(), trivial, ⟨rfl, by rw [ht]; exact hP9, va_K.moved ha hK, hD9⟩, hS.F ht⟩) hS.2.2 (Nat.le_of_ble_eq_true rfl) (Nat.le_of_ble_eq_true rfl)
set_option maxHeartbeats 400000000 in
set_option maxRecDepth 100000 in
theorem cL_read_0 (l : Launch) (hl9 : l.stackTraces = false) (D : va_G) (cT : Nat → ClassId) (aK aV : Nat → Nat) (sz : Nat) (a0 : Nat) (x1 : Int32) (b3 : Nat) (v4 : Value) (v5 : Value) (v6 : Value) (v7 : Value) (v8 : Value) (v9 : Value) (v10 : Value) (v11 : Value) (h2 : x1 < 0) : xMet l yL_read wyL_read 8 1 6 141 D cT aK aV sz [.ref a0, .int x1, .ref b3] [(a0, .inr (0, [v4, v5, v6, v7, v8, v9, v10, v11]))] (fun A => va_Qi (fun (r : Int32) (_ : Unit) => r = 1) (fun _ t => xB D xcl cT A [(a0, .inr (0, [v4, v5, v6, v7, v8, v9, v10, v11]))] t) A) := by
  refine va_MetW (cc := method_5_code) (maxL := 4) (ret := (some .int)) (hh := [(0, 9, 12, 19), (0, 9, 15, 24), (0, 9, 18, 13)]) (by decide) rfl ?_
  intro p e s m args below meth c s₁ B hml hv
  obtain ⟨rfl, hsz, hZ, hP, hK, hD0⟩ := hv
  have hx := B.exec
  have hb := B.bytes
  have hr := B.returns
  have hts := atoms_spec (ws := wyL_read) B.pre
  have htx := fun w h => hts w (List.mem_cons_of_mem _ h)
  have hown : s.vm.findClass "ValueBenchLaw" = some m.cls := findClass_of_methodNamed B.named
  have hlocks := B.notSynchronized
  subst hsz
  have hD := hD0.self (sz := s.heap.size)
  generalize hAe : va_A [(a0, .inr (0, [v4, v5, v6, v7, v8, v9, v10, v11]))] s.heap.size = A at hD hZ ⊢
  have hA : ∀ q : Nat, s.heap.size ≤ q → A q := fun q h => by rw [← hAe]; exact Or.inr h
  have hS : va_S A s.heap s.heap [] := va_S.rf
  have hP : va_P D xcl [(a0, .inr (0, [v4, v5, v6, v7, v8, v9, v10, v11]))] s.heap := hP
  have hl := lv_entry ([.ref a0, .int x1, .ref b3]) (n := 4) (Nat.le_of_ble_eq_true rfl)
  rw [lg_entry_eq]
  generalize (lg_sl ([.ref a0, .int x1, .ref b3]) ++ List.replicate (4 - (lg_sl ([.ref a0, .int x1, .ref b3])).length) Slot.unset).toArray = ls at hl ⊢
  have hl : lv_has ls 4 [(0, .ref a0), (1, .int x1), (2, .ref b3)] := hl
  have htab := vx_table (x := yL_read) B (hts _ List.mem_cons_self)
  refine lv_aload_n hx hb dL_read_0 rfl (lv_at hl 2 rfl) ?_
  refine lv_iconst (v := 0) hx hb dL_read_1 (by decide) ?_
  refine lv_aload_n hx hb dL_read_2 rfl (lv_at hl 0 rfl) ?_
  refine lv_iload_n hx hb dL_read_3 rfl (lv_at hl 1 rfl) ?_
  obtain ⟨hPc, hDc, hFc⟩ := xcut (wc := []) hP hD hS hA [] rfl rfl (by decide)
  refine xx_thr (vx_runV (C := "ValueBench") (As := [.int x1]) (rest := [.int 0, .ref b3]) ⟨hx, hb, hml, hown, htx⟩ (cB_read_0 l hl9 D cT aK aV s.heap.size a0 x1 h2) ⟨callB_of 1 htx (xw_goodC kw_2_15) rfl rfl rfl (htx _ kw_1_1) (htx _ kw_2_12) ⟨by decide, by decide, by decide +kernel⟩ ⟨Nat.le_of_ble_eq_true rfl, Nat.le_of_ble_eq_true rfl⟩, (htx _ kw_2_13), (htx _ kw_2_14)⟩ ⟨xPre_blind, va_recv hK hP (ci := 0) rfl (q0 := 0) rfl, (fun U hU hW => ⟨rfl, xPre_of hZ hS hFc hPc hDc hK U hU hW⟩)⟩ rfl rfl hl.1 rfl (lv_room (Nat.le_of_ble_eq_true rfl)) dL_read_4 ⟨Nat.le_of_ble_eq_true rfl, Nat.le_of_ble_eq_true rfl⟩) hS hFc (fun q _ h => hFc q h) (fun E ce q9 u9 t H1 locs ht hvm _ hB hz1 hk1 hS hce hcv hcl => ?_)
  obtain ⟨rfl, hP1, hK1, hD1⟩ := hB
  rw [ht] at hP1
  obtain ⟨hP, hD⟩ := xjoin (W := [(a0, .inr (0, [v4, v5, v6, v7, v8, v9, v10, v11]))]) hP hD [] [0] 1 rfl rfl (by decide) (by decide) hk1 hFc hP1 hD1
  generalize H1 = H at hP hS hce ⊢
  refine vx_catch (own := "ValueBenchLaw") (name := "java/lang/IllegalArgumentException") (E := "java/lang/IllegalArgumentException") hown [] ⟨0, 9, 12, 19⟩ [⟨0, 9, 15, 24⟩, ⟨0, 9, 18, 13⟩] (by rw [htab]; rfl) (fun z hz => nomatch hz) (by decide) (by decide) (htx _ kw_1_211) ((hZ.2.2.2.2.2.1 "java/lang/IllegalArgumentException" (List.mem_of_getElem? (i := 1) rfl)).use rfl) hce hcv hcl ?_
  refine lv_astore_n (lv' := [(3, .ref q9), (0, .ref a0), (1, .int x1), (2, .ref b3)]) hx hb dL_read_12 rfl hl (by decide) rfl (fun ls hl => ?_)
  refine lv_iconst (v := 1) hx hb dL_read_13 (by decide) ?_
  obtain ⟨hP9, hD9⟩ := xsub (wc := [(a0, .inr (0, [v4, v5, v6, v7, v8, v9, v10, v11]))]) hP hD [0] rfl rfl (by decide)
  refine W.widen (k := 1) (n := 6) (Nat.le_of_ble_eq_true rfl) (Nat.le_of_ble_eq_true rfl) ?_
  exact W.iret (v := 1) hx hb hr (fun t ht hW => ⟨⟨1, (), rfl, rfl, by rw [ht]; exact hP9, va_K.moved hW.alike hK, hD9⟩, hS.F ht⟩) hS.2.2 dL_read_14
set_option maxHeartbeats 400000000 in
set_option maxRecDepth 100000 in
theorem cM_clear_0 (l : Launch) (hl9 : l.stackTraces = false) (D : va_G) (cT : Nat → ClassId) (aK aV : Nat → Nat) (sz : Nat) (a0 : Nat) (v1 : Value) (v2 : Value) (v3 : Value) (v4 : Value) (v5 : Value) (v6 : Value) (v7 : Value) (v8 : Value) (v9 : Value) (v10 : Value) (v11 : Value) (v12 : Value) (v13 : Value) (v14 : Value) (v15 : Value) (v16 : Value) (v17 : Value) (v18 : Value) (v19 : Value) (v20 : Value) (v21 : Value) (v22 : Value) (v23 : Value) (v24 : Value) (v25 : Value) (v26 : Value) (v27 : Value) (v28 : Value) (v29 : Value) (v30 : Value) (v31 : Value) (v32 : Value) : xMet l yM_clear wyM_clear 0 0 0 0 D cT aK aV sz [.ref a0] [(a0, .inr (5, [v1, v2, v3, v4, v5, v6, v7, v8, v9, v10, v11, v12, v13, v14, v15, v16, v17, v18, v19, v20, v21, v22, v23, v24, v25, v26, v27, v28, v29, v30, v31, v32]))] (fun A => va_Qv (fun _ : Unit => True) (fun _ t => xB D xcl cT A [(a0, .inr (5, [v1, v2, .int 0, v4, .int 0, v6, v7, .int 0, v9, .int 0, v11, v12, .int 0, v14, v15, v16, v17, v18, v19, v20, v21, v22, v23, v24, v25, v26, v27, v28, v29, v30, v31, v32]))] t) A) := by
  refine Met.ofW (cc := prog_13_method_18_code) (maxL := 1) (ret := none) (by decide) rfl ?_
  intro p e s m args below meth c s₁ B hml hv
  obtain ⟨rfl, hsz, hZ, hP, hK, hD0⟩ := hv
  have hx := B.exec
  have hb := B.bytes
  have hr := B.returns
  have hts := atoms_spec (ws := wyM_clear) B.pre
  have htx := fun w h => hts w (List.mem_cons_of_mem _ h)
  have hown : s.vm.findClass "ValueBenchModel" = some m.cls := findClass_of_methodNamed B.named
  have hlocks := B.notSynchronized
  subst hsz
  have hD := hD0.self (sz := s.heap.size)
  generalize hAe : va_A [(a0, .inr (5, [v1, v2, v3, v4, v5, v6, v7, v8, v9, v10, v11, v12, v13, v14, v15, v16, v17, v18, v19, v20, v21, v22, v23, v24, v25, v26, v27, v28, v29, v30, v31, v32]))] s.heap.size = A at hD hZ ⊢
  have hA : ∀ q : Nat, s.heap.size ≤ q → A q := fun q h => by rw [← hAe]; exact Or.inr h
  have hS : va_S A s.heap s.heap [] := va_S.rf
  have hP : va_P D xcl [(a0, .inr (5, [v1, v2, v3, v4, v5, v6, v7, v8, v9, v10, v11, v12, v13, v14, v15, v16, v17, v18, v19, v20, v21, v22, v23, v24, v25, v26, v27, v28, v29, v30, v31, v32]))] s.heap := hP
  have hl := lv_entry ([.ref a0]) (n := 1) (Nat.le_of_ble_eq_true rfl)
  rw [lg_entry_eq]
  generalize (lg_sl ([.ref a0]) ++ List.replicate (1 - (lg_sl ([.ref a0])).length) Slot.unset).toArray = ls at hl ⊢
  have hl : lv_has ls 1 [(0, .ref a0)] := hl
  refine lv_aload_n hx hb dM_clear_0 rfl (lv_at hl 0 rfl) ?_
  refine lv_iconst (v := 0) hx hb dM_clear_1 (by decide) ?_
  refine va_put (D := D) (ci := 5) (v := .int 0) (ty := .int) (C := "ValueBenchModel") (T := TM) (N := 32) hx hb htx inM tyM tyM_ok nmM hown hK hP hD hS 0 rfl rfl 2 (by decide) (htx _ kw_5_89) (fun _ h9 => h9) rfl (by decide +kernel) rfl rfl (Nat.le_of_ble_eq_true rfl) dM_clear_2 (fun H locs hP hD hS => ?_)
  obtain ⟨hP, hD⟩ : xPD D xcl A [(a0, .inr (5, [v1, v2, .int 0, v4, v5, v6, v7, v8, v9, v10, v11, v12, v13, v14, v15, v16, v17, v18, v19, v20, v21, v22, v23, v24, v25, v26, v27, v28, v29, v30, v31, v32]))] H := ⟨hP, hD⟩
  refine lv_aload_n hx hb dM_clear_5 rfl (lv_at hl 0 rfl) ?_
  refine lv_iconst (v := 0) hx hb dM_clear_6 (by decide) ?_
  refine va_put (D := D) (ci := 5) (v := .int 0) (ty := .int) (C := "ValueBenchModel") (T := TM) (N := 32) hx hb htx inM tyM tyM_ok nmM hown hK hP hD hS 0 rfl rfl 4 (by decide) (htx _ kw_5_91) (fun _ h9 => h9) rfl (by decide +kernel) rfl rfl (Nat.le_of_ble_eq_true rfl) dM_clear_7 (fun H locs hP hD hS => ?_)
  obtain ⟨hP, hD⟩ : xPD D xcl A [(a0, .inr (5, [v1, v2, .int 0, v4, .int 0, v6, v7, v8, v9, v10, v11, v12, v13, v14, v15, v16, v17, v18, v19, v20, v21, v22, v23, v24, v25, v26, v27, v28, v29, v30, v31, v32]))] H := ⟨hP, hD⟩
  refine lv_aload_n hx hb dM_clear_10 rfl (lv_at hl 0 rfl) ?_
  refine lv_iconst (v := 0) hx hb dM_clear_11 (by decide) ?_
  refine va_put (D := D) (ci := 5) (v := .int 0) (ty := .int) (C := "ValueBenchModel") (T := TM) (N := 32) hx hb htx inM tyM tyM_ok nmM hown hK hP hD hS 0 rfl rfl 7 (by decide) (htx _ kw_5_94) (fun _ h9 => h9) rfl (by decide +kernel) rfl rfl (Nat.le_of_ble_eq_true rfl) dM_clear_12 (fun H locs hP hD hS => ?_)
  obtain ⟨hP, hD⟩ : xPD D xcl A [(a0, .inr (5, [v1, v2, .int 0, v4, .int 0, v6, v7, .int 0, v9, v10, v11, v12, v13, v14, v15, v16, v17, v18, v19, v20, v21, v22, v23, v24, v25, v26, v27, v28, v29, v30, v31, v32]))] H := ⟨hP, hD⟩
  refine lv_aload_n hx hb dM_clear_15 rfl (lv_at hl 0 rfl) ?_
  refine lv_iconst (v := 0) hx hb dM_clear_16 (by decide) ?_
  refine va_put (D := D) (ci := 5) (v := .int 0) (ty := .int) (C := "ValueBenchModel") (T := TM) (N := 32) hx hb htx inM tyM tyM_ok nmM hown hK hP hD hS 0 rfl rfl 12 (by decide) (htx _ kw_5_99) (fun _ h9 => h9) rfl (by decide +kernel) rfl rfl (Nat.le_of_ble_eq_true rfl) dM_clear_17 (fun H locs hP hD hS => ?_)
  obtain ⟨hP, hD⟩ : xPD D xcl A [(a0, .inr (5, [v1, v2, .int 0, v4, .int 0, v6, v7, .int 0, v9, v10, v11, v12, .int 0, v14, v15, v16, v17, v18, v19, v20, v21, v22, v23, v24, v25, v26, v27, v28, v29, v30, v31, v32]))] H := ⟨hP, hD⟩
  refine lv_aload_n hx hb dM_clear_20 rfl (lv_at hl 0 rfl) ?_
  refine lv_iconst (v := 0) hx hb dM_clear_21 (by decide) ?_
  refine va_put (D := D) (ci := 5) (v := .int 0) (ty := .int) (C := "ValueBenchModel") (T := TM) (N := 32) hx hb htx inM tyM tyM_ok nmM hown hK hP hD hS 0 rfl rfl 9 (by decide) (htx _ kw_5_96) (fun _ h9 => h9) rfl (by decide +kernel) rfl rfl (Nat.le_of_ble_eq_true rfl) dM_clear_22 (fun H locs hP hD hS => ?_)
  obtain ⟨hP, hD⟩ : xPD D xcl A [(a0, .inr (5, [v1, v2, .int 0, v4, .int 0, v6, v7, .int 0, v9, .int 0, v11, v12, .int 0, v14, v15, v16, v17, v18, v19, v20, v21, v22, v23, v24, v25, v26, v27, v28, v29, v30, v31, v32]))] H := ⟨hP, hD⟩
  obtain ⟨hP9, hD9⟩ := xsub (wc := [(a0, .inr (5, [v1, v2, .int 0, v4, .int 0, v6, v7, .int 0, v9, .int 0, v11, v12, .int 0, v14, v15, v16, v17, v18, v19, v20, v21, v22, v23, v24, v25, v26, v27, v28, v29, v30, v31, v32]))]) hP hD [0] rfl rfl (by decide)
  refine W.widen (k := 0) (n := 0) (Nat.le_of_ble_eq_true rfl) (Nat.le_of_ble_eq_true rfl) ?_
  exact W.vret hx hb hr (fun t ht hW => ⟨⟨(), rfl, trivial, by rw [ht]; exact hP9, va_K.moved hW.alike hK, hD9⟩, hS.F ht⟩) hS.2.2 dM_clear_25
set_option maxHeartbeats 400000000 in
set_option maxRecDepth 100000 in
theorem cM_begin_0 (l : Launch) (hl9 : l.stackTraces = false) (D : va_G) (cT : Nat → ClassId) (aK aV : Nat → Nat) (sz : Nat) (a0 : Nat) (v1 : Value) (v2 : Value) (v3 : Value) (v4 : Value) (v5 : Value) (v6 : Value) (v7 : Value) (v8 : Value) (v9 : Value) (v10 : Value) (v11 : Value) (v12 : Value) (v13 : Value) (v14 : Value) (v15 : Value) (v16 : Value) (v17 : Value) (v18 : Value) (v19 : Value) (v20 : Value) (v21 : Value) (v22 : Value) (v23 : Value) (v24 : Value) (v25 : Value) (v26 : Value) (v27 : Value) (v28 : Value) (v29 : Value) (v30 : Value) (v31 : Value) (v32 : Value) : xMet l yM_begin wyM_begin 1 0 0 20 D cT aK aV sz [.ref a0] [(a0, .inr (5, [v1, v2, v3, v4, v5, v6, v7, v8, v9, v10, v11, v12, v13, v14, v15, v16, v17, v18, v19, v20, v21, v22, v23, v24, v25, v26, v27, v28, v29, v30, v31, v32]))] (fun A => va_Qv (fun _ : Unit => True) (fun _ t => xB D xcl cT A [(a0, .inr (5, [.int 0, v2, .int 0, v4, .int 0, v6, v7, .int 0, v9, .int 0, v11, v12, .int 0, v14, v15, v16, v17, v18, v19, v20, v21, v22, .int 0, .int 1000000000, v25, v26, v27, v28, v29, v30, v31, v32]))] t) A) := by
  refine Met.ofW (cc := prog_13_method_78_code) (maxL := 1) (ret := none) (by decide) rfl ?_
  intro p e s m args below meth c s₁ B hml hv
  obtain ⟨rfl, hsz, hZ, hP, hK, hD0⟩ := hv
  have hx := B.exec
  have hb := B.bytes
  have hr := B.returns
  have hts := atoms_spec (ws := wyM_begin) B.pre
  have htx := fun w h => hts w (List.mem_cons_of_mem _ h)
  have hown : s.vm.findClass "ValueBenchModel" = some m.cls := findClass_of_methodNamed B.named
  have hlocks := B.notSynchronized
  subst hsz
  have hD := hD0.self (sz := s.heap.size)
  generalize hAe : va_A [(a0, .inr (5, [v1, v2, v3, v4, v5, v6, v7, v8, v9, v10, v11, v12, v13, v14, v15, v16, v17, v18, v19, v20, v21, v22, v23, v24, v25, v26, v27, v28, v29, v30, v31, v32]))] s.heap.size = A at hD hZ ⊢
  have hA : ∀ q : Nat, s.heap.size ≤ q → A q := fun q h => by rw [← hAe]; exact Or.inr h
  have hS : va_S A s.heap s.heap [] := va_S.rf
  have hP : va_P D xcl [(a0, .inr (5, [v1, v2, v3, v4, v5, v6, v7, v8, v9, v10, v11, v12, v13, v14, v15, v16, v17, v18, v19, v20, v21, v22, v23, v24, v25, v26, v27, v28, v29, v30, v31, v32]))] s.heap := hP
  have hl := lv_entry ([.ref a0]) (n := 1) (Nat.le_of_ble_eq_true rfl)
  rw [lg_entry_eq]
  generalize (lg_sl ([.ref a0]) ++ List.replicate (1 - (lg_sl ([.ref a0])).length) Slot.unset).toArray = ls at hl ⊢
  have hl : lv_has ls 1 [(0, .ref a0)] := hl
  refine lv_aload_n hx hb dM_begin_0 rfl (lv_at hl 0 rfl) ?_
  refine lv_iconst (v := 0) hx hb dM_begin_1 (by decide) ?_
  refine va_put (D := D) (ci := 5) (v := .int 0) (ty := .int) (C := "ValueBenchModel") (T := TM) (N := 32) hx hb htx inM tyM tyM_ok nmM hown hK hP hD hS 0 rfl rfl 0 (by decide) (htx _ kw_5_87) (fun _ h9 => h9) rfl (by decide +kernel) rfl rfl (Nat.le_of_ble_eq_true rfl) dM_begin_2 (fun H locs hP hD hS => ?_)
  obtain ⟨hP, hD⟩ : xPD D xcl A [(a0, .inr (5, [.int 0, v2, v3, v4, v5, v6, v7, v8, v9, v10, v11, v12, v13, v14, v15, v16, v17, v18, v19, v20, v21, v22, v23, v24, v25, v26, v27, v28, v29, v30, v31, v32]))] H := ⟨hP, hD⟩
  refine lv_aload_n hx hb dM_begin_5 rfl (lv_at hl 0 rfl) ?_
  obtain ⟨hPc, hDc, hFc⟩ := xcut (wc := [(a0, .inr (5, [.int 0, v2, v3, v4, v5, v6, v7, v8, v9, v10, v11, v12, v13, v14, v15, v16, v17, v18, v19, v20, v21, v22, v23, v24, v25, v26, v27, v28, v29, v30, v31, v32]))]) hP hD hS hA [0] rfl rfl (by decide)
  refine va_callv (va_runV (C := "ValueBenchModel") (As := []) (rest := []) ⟨hx, hb, hml, hown, htx⟩ (cM_clear_0 l hl9 D cT aK aV H.size a0 (.int 0) v2 v3 v4 v5 v6 v7 v8 v9 v10 v11 v12 v13 v14 v15 v16 v17 v18 v19 v20 v21 v22 v23 v24 v25 v26 v27 v28 v29 v30 v31 v32) ⟨callB_of 0 htx (xw_goodC kw_5_213) rfl rfl rfl (htx _ kw_1_5) (htx _ kw_5_210) ⟨by decide, by decide, by decide +kernel⟩ ⟨Nat.le_of_ble_eq_true rfl, Nat.le_of_ble_eq_true rfl⟩, (htx _ kw_5_212), (htx _ kp_M_clear)⟩ ⟨xPre_blind, va_recv hK hP (ci := 5) rfl (q0 := 0) rfl, (fun U hU hW => ⟨rfl, xPre_of hZ hS hFc hPc hDc hK U hU hW⟩)⟩ rfl rfl hl.1 rfl (lv_room (Nat.le_of_ble_eq_true rfl)) dM_begin_6 ⟨Nat.le_of_ble_eq_true rfl, Nat.le_of_ble_eq_true rfl⟩) hS (fun q _ h => hFc q h) hFc (fun u9 t H1 locs ht hvm hr9 hB hz1 hk1 hS => ?_)
  obtain ⟨hP1, hK1, hD1⟩ := hB
  rw [ht] at hP1
  obtain ⟨hP, hD⟩ := xjoin (W := [(a0, .inr (5, [.int 0, v2, .int 0, v4, .int 0, v6, v7, .int 0, v9, .int 0, v11, v12, .int 0, v14, v15, v16, v17, v18, v19, v20, v21, v22, v23, v24, v25, v26, v27, v28, v29, v30, v31, v32]))]) hP hD [0] [] 0 rfl rfl (by decide) (by decide) hk1 hFc hP1 hD1
  generalize H1 = H at hP hS ⊢
  refine lv_aload_n hx hb dM_begin_9 rfl (lv_at hl 0 rfl) ?_
  refine lv_iconst (v := 0) hx hb dM_begin_10 (by decide) ?_
  refine va_put (D := D) (ci := 5) (v := .int 0) (ty := .int) (C := "ValueBenchModel") (T := TM) (N := 32) hx hb htx inM tyM tyM_ok nmM hown hK hP hD hS 0 rfl rfl 22 (by decide) (htx _ kw_5_109) (fun _ h9 => h9) rfl (by decide +kernel) rfl rfl (Nat.le_of_ble_eq_true rfl) dM_begin_11 (fun H locs hP hD hS => ?_)
  obtain ⟨hP, hD⟩ : xPD D xcl A [(a0, .inr (5, [.int 0, v2, .int 0, v4, .int 0, v6, v7, .int 0, v9, .int 0, v11, v12, .int 0, v14, v15, v16, v17, v18, v19, v20, v21, v22, .int 0, v24, v25, v26, v27, v28, v29, v30, v31, v32]))] H := ⟨hP, hD⟩
  refine lv_aload_n hx hb dM_begin_14 rfl (lv_at hl 0 rfl) ?_
  refine lv_ldc hx hb hown (htx _ kw_5_82) dM_begin_15 ?_
  refine va_put (D := D) (ci := 5) (v := .int 1000000000) (ty := .int) (C := "ValueBenchModel") (T := TM) (N := 32) hx hb htx inM tyM tyM_ok nmM hown hK hP hD hS 0 rfl rfl 23 (by decide) (htx _ kw_5_110) (fun _ h9 => h9) rfl (by decide +kernel) rfl rfl (Nat.le_of_ble_eq_true rfl) dM_begin_17 (fun H locs hP hD hS => ?_)
  obtain ⟨hP, hD⟩ : xPD D xcl A [(a0, .inr (5, [.int 0, v2, .int 0, v4, .int 0, v6, v7, .int 0, v9, .int 0, v11, v12, .int 0, v14, v15, v16, v17, v18, v19, v20, v21, v22, .int 0, .int 1000000000, v25, v26, v27, v28, v29, v30, v31, v32]))] H := ⟨hP, hD⟩
  obtain ⟨hP9, hD9⟩ := xsub (wc := [(a0, .inr (5, [.int 0, v2, .int 0, v4, .int 0, v6, v7, .int 0, v9, .int 0, v11, v12, .int 0, v14, v15, v16, v17, v18, v19, v20, v21, v22, .int 0, .int 1000000000, v25, v26, v27, v28, v29, v30, v31, v32]))]) hP hD [0] rfl rfl (by decide)
  refine W.widen (k := 0) (n := 0) (Nat.le_of_ble_eq_true rfl) (Nat.le_of_ble_eq_true rfl) ?_
  exact W.vret hx hb hr (fun t ht hW => ⟨⟨(), rfl, trivial, by rw [ht]; exact hP9, va_K.moved hW.alike hK, hD9⟩, hS.F ht⟩) hS.2.2 dM_begin_20
set_option maxHeartbeats 400000000 in
set_option maxRecDepth 100000 in
theorem cM_out_0 (l : Launch) (hl9 : l.stackTraces = false) (D : va_G) (cT : Nat → ClassId) (aK aV : Nat → Nat) (sz : Nat) (b0 : Nat) (x1 : Int32) (h2 : x1 < 0) : xMet l yM_out wyM_out 0 0 0 0 D cT aK aV sz [.ref b0, .int x1] [] (fun A => va_Qi (fun (r : Int32) (_ : Unit) => r = 1) (fun _ t => xB D xcl cT A [] t) A) := by
  refine Met.ofW (cc := prog_13_method_77_code) (maxL := 2) (ret := (some .boolean)) (by decide) rfl ?_
  intro p e s m args below meth c s₁ B hml hv
  obtain ⟨rfl, hsz, hZ, hP, hK, hD0⟩ := hv
  have hx := B.exec
  have hb := B.bytes
  have hr := B.returns
  have hts := atoms_spec (ws := wyM_out) B.pre
  have htx := fun w h => hts w (List.mem_cons_of_mem _ h)
  have hown : s.vm.findClass "ValueBenchModel" = some m.cls := findClass_of_methodNamed B.named
  have hlocks := B.notSynchronized
  subst hsz
  have hD := hD0.self (sz := s.heap.size)
  generalize hAe : va_A [] s.heap.size = A at hD hZ ⊢
  have hA : ∀ q : Nat, s.heap.size ≤ q → A q := fun q h => by rw [← hAe]; exact Or.inr h
  have hS : va_S A s.heap s.heap [] := va_S.rf
  have hP : va_P D xcl [] s.heap := hP
  have hl := lv_entry ([.ref b0, .int x1]) (n := 2) (Nat.le_of_ble_eq_true rfl)
  rw [lg_entry_eq]
  generalize (lg_sl ([.ref b0, .int x1]) ++ List.replicate (2 - (lg_sl ([.ref b0, .int x1])).length) Slot.unset).toArray = ls at hl ⊢
  have hl : lv_has ls 2 [(0, .ref b0), (1, .int x1)] := hl
  refine lv_iload_n hx hb dM_out_0 rfl (lv_at hl 1 rfl) ?_
  refine lv_if_lt (tgt := 10) hx hb dM_out_1 (by decide) (fun _ => ?_) (fun h => by first | exact absurd h h2 | exact absurd h2 h)
  refine lv_iconst (v := 1) hx hb dM_out_10 (by decide) ?_
  refine lv_goto (tgt := 15) hx hb dM_out_11 (by decide) ?_
  obtain ⟨hP9, hD9⟩ := xsub (wc := []) hP hD [] rfl rfl (by decide)
  refine W.widen (k := 0) (n := 0) (Nat.le_of_ble_eq_true rfl) (Nat.le_of_ble_eq_true rfl) ?_
  exact W.zret (v := 1) hx hb hr rfl (fun t ht hW => ⟨⟨1, (), rfl, rfl, by rw [ht]; exact hP9, va_K.moved hW.alike hK, hD9⟩, hS.F ht⟩) hS.2.2 dM_out_15
set_option maxHeartbeats 400000000 in
set_option maxRecDepth 100000 in
theorem cM_read_0 (l : Launch) (hl9 : l.stackTraces = false) (D : va_G) (cT : Nat → ClassId) (aK aV : Nat → Nat) (sz : Nat) (a0 : Nat) (x1 : Int32) (v3 : Value) (v4 : Value) (v5 : Value) (v6 : Value) (v7 : Value) (v8 : Value) (v9 : Value) (v10 : Value) (v11 : Value) (v12 : Value) (v13 : Value) (v14 : Value) (v15 : Value) (v16 : Value) (v17 : Value) (v18 : Value) (v19 : Value) (v20 : Value) (v21 : Value) (v22 : Value) (v23 : Value) (v24 : Value) (v25 : Value) (v26 : Value) (v27 : Value) (v28 : Value) (v29 : Value) (v30 : Value) (v31 : Value) (v32 : Value) (v33 : Value) (v34 : Value) (h2 : x1 < 0) : xMet l yM_read wyM_read 2 0 0 40 D cT aK aV sz [.ref a0, .int x1] [(a0, .inr (5, [v3, v4, v5, v6, v7, v8, v9, v10, v11, v12, v13, v14, v15, v16, v17, v18, v19, v20, v21, v22, v23, v24, v25, v26, v27, v28, v29, v30, v31, v32, v33, v34]))] (fun A => va_Qi (fun (r : Int32) (_ : Unit) => r = 0) (fun _ t => xB D xcl cT A [(a0, .inr (5, [.int 1, v4, .int 0, v6, .int 0, v8, v9, .int 0, v11, .int 0, v13, v14, .int 0, v16, v17, v18, v19, v20, v21, v22, v23, v24, .int 0, .int 1000000000, v27, v28, v29, v30, v31, v32, v33, v34]))] t) A) := by
  refine va_MetW (cc := prog_13_method_84_code) (maxL := 4) (ret := (some .int)) (hh := [(39, 54, 55, 205), (39, 54, 70, 86)]) (by decide) rfl ?_
  intro p e s m args below meth c s₁ B hml hv
  obtain ⟨rfl, hsz, hZ, hP, hK, hD0⟩ := hv
  have hx := B.exec
  have hb := B.bytes
  have hr := B.returns
  have hts := atoms_spec (ws := wyM_read) B.pre
  have htx := fun w h => hts w (List.mem_cons_of_mem _ h)
  have hown : s.vm.findClass "ValueBenchModel" = some m.cls := findClass_of_methodNamed B.named
  have hlocks := B.notSynchronized
  subst hsz
  have hD := hD0.self (sz := s.heap.size)
  generalize hAe : va_A [(a0, .inr (5, [v3, v4, v5, v6, v7, v8, v9, v10, v11, v12, v13, v14, v15, v16, v17, v18, v19, v20, v21, v22, v23, v24, v25, v26, v27, v28, v29, v30, v31, v32, v33, v34]))] s.heap.size = A at hD hZ ⊢
  have hA : ∀ q : Nat, s.heap.size ≤ q → A q := fun q h => by rw [← hAe]; exact Or.inr h
  have hS : va_S A s.heap s.heap [] := va_S.rf
  have hP : va_P D xcl [(a0, .inr (5, [v3, v4, v5, v6, v7, v8, v9, v10, v11, v12, v13, v14, v15, v16, v17, v18, v19, v20, v21, v22, v23, v24, v25, v26, v27, v28, v29, v30, v31, v32, v33, v34]))] s.heap := hP
  have hl := lv_entry ([.ref a0, .int x1]) (n := 4) (Nat.le_of_ble_eq_true rfl)
  rw [lg_entry_eq]
  generalize (lg_sl ([.ref a0, .int x1]) ++ List.replicate (4 - (lg_sl ([.ref a0, .int x1])).length) Slot.unset).toArray = ls at hl ⊢
  have hl : lv_has ls 4 [(0, .ref a0), (1, .int x1)] := hl
  have htab := vx_table (x := yM_read) B (hts _ List.mem_cons_self)
  refine lv_aload_n hx hb dM_read_0 rfl (lv_at hl 0 rfl) ?_
  obtain ⟨hPc, hDc, hFc⟩ := xcut (wc := [(a0, .inr (5, [v3, v4, v5, v6, v7, v8, v9, v10, v11, v12, v13, v14, v15, v16, v17, v18, v19, v20, v21, v22, v23, v24, v25, v26, v27, v28, v29, v30, v31, v32, v33, v34]))]) hP hD hS hA [0] rfl rfl (by decide)
  refine va_callv (va_runV (C := "ValueBenchModel") (As := []) (rest := []) ⟨hx, hb, hml, hown, htx⟩ (cM_begin_0 l hl9 D cT aK aV s.heap.size a0 v3 v4 v5 v6 v7 v8 v9 v10 v11 v12 v13 v14 v15 v16 v17 v18 v19 v20 v21 v22 v23 v24 v25 v26 v27 v28 v29 v30 v31 v32 v33 v34) ⟨callB_of 0 htx (xw_goodC kw_5_209) rfl rfl rfl (htx _ kw_1_5) (htx _ kw_5_206) ⟨by decide, by decide, by decide +kernel⟩ ⟨Nat.le_of_ble_eq_true rfl, Nat.le_of_ble_eq_true rfl⟩, (htx _ kw_5_208), (htx _ kp_M_begin)⟩ ⟨xPre_blind, va_recv hK hP (ci := 5) rfl (q0 := 0) rfl, (fun U hU hW => ⟨rfl, xPre_of hZ hS hFc hPc hDc hK U hU hW⟩)⟩ rfl rfl hl.1 rfl (lv_room (Nat.le_of_ble_eq_true rfl)) dM_read_1 ⟨Nat.le_of_ble_eq_true rfl, Nat.le_of_ble_eq_true rfl⟩) hS (fun q _ h => hFc q h) hFc (fun u9 t H1 locs ht hvm hr9 hB hz1 hk1 hS => ?_)
  obtain ⟨hP1, hK1, hD1⟩ := hB
  rw [ht] at hP1
  obtain ⟨hP, hD⟩ := xjoin (W := [(a0, .inr (5, [.int 0, v4, .int 0, v6, .int 0, v8, v9, .int 0, v11, .int 0, v13, v14, .int 0, v16, v17, v18, v19, v20, v21, v22, v23, v24, .int 0, .int 1000000000, v27, v28, v29, v30, v31, v32, v33, v34]))]) hP hD [0] [] 0 rfl rfl (by decide) (by decide) hk1 hFc hP1 hD1
  generalize H1 = H at hP hS ⊢
  refine lv_aload_n hx hb dM_read_4 rfl (lv_at hl 0 rfl) ?_
  refine lv_iload_n hx hb dM_read_5 rfl (lv_at hl 1 rfl) ?_
  obtain ⟨hPc, hDc, hFc⟩ := xcut (wc := []) hP hD hS hA [] rfl rfl (by decide)
  refine va_calli (va_runV (C := "ValueBenchModel") (As := [.int x1]) (rest := []) ⟨hx, hb, hml, hown, htx⟩ (cM_out_0 l hl9 D cT aK aV H.size a0 x1 h2) ⟨callB_of 1 htx (xw_goodC kw_5_217) rfl rfl rfl (htx _ kw_1_5) (htx _ kw_5_214) ⟨by decide, by decide, by decide +kernel⟩ ⟨Nat.le_of_ble_eq_true rfl, Nat.le_of_ble_eq_true rfl⟩, (htx _ kw_5_216), (htx _ kp_M_out)⟩ ⟨xPre_blind, va_recv hK hP (ci := 5) rfl (q0 := 0) rfl, (fun U hU hW => ⟨rfl, xPre_of hZ hS hFc hPc hDc hK U hU hW⟩)⟩ rfl rfl hl.1 rfl (lv_room (Nat.le_of_ble_eq_true rfl)) dM_read_6 ⟨Nat.le_of_ble_eq_true rfl, Nat.le_of_ble_eq_true rfl⟩) hS (fun q _ h => hFc q h) hFc (fun r1 u9 t H1 locs ht hvm hr9 hB hz1 hk1 hS => ?_)
  obtain ⟨hP1, hK1, hD1⟩ := hB
  rw [ht] at hP1
  obtain ⟨hP, hD⟩ := xjoin (W := [(a0, .inr (5, [.int 0, v4, .int 0, v6, .int 0, v8, v9, .int 0, v11, .int 0, v13, v14, .int 0, v16, v17, v18, v19, v20, v21, v22, v23, v24, .int 0, .int 1000000000, v27, v28, v29, v30, v31, v32, v33, v34]))]) hP hD [] [0] 1 rfl rfl (by decide) (by decide) hk1 hFc hP1 hD1
  generalize H1 = H at hP hS ⊢
  rw [hr9]
  refine W.eq (g2 := F0 m 9 ls [.int 1]) rfl ?_
  refine lv_if_eq (tgt := 18) hx hb dM_read_9 (by decide) (fun h => ((by revert h; decide : False)).elim) (fun _ => ?_)
  refine lv_aload_n hx hb dM_read_12 rfl (lv_at hl 0 rfl) ?_
  refine lv_iconst (v := 1) hx hb dM_read_13 (by decide) ?_
  obtain ⟨hPc, hDc, hFc⟩ := xcut (wc := [(a0, .inr (5, [.int 0, v4, .int 0, v6, .int 0, v8, v9, .int 0, v11, .int 0, v13, v14, .int 0, v16, v17, v18, v19, v20, v21, v22, v23, v24, .int 0, .int 1000000000, v27, v28, v29, v30, v31, v32, v33, v34]))]) hP hD hS hA [0] rfl rfl (by decide)
  refine va_calli (va_runV (C := "ValueBenchModel") (As := [.int 1]) (rest := []) ⟨hx, hb, hml, hown, htx⟩ (cM_fail_0 l hl9 D cT aK aV H.size a0 (.int 0) v4 (.int 0) v6 (.int 0) v8 v9 (.int 0) v11 (.int 0) v13 v14 (.int 0) v16 v17 v18 v19 v20 v21 v22 v23 v24 (.int 0) (.int 1000000000) v27 v28 v29 v30 v31 v32 v33 v34) ⟨callB_of 1 htx (xw_goodC kw_5_195) rfl rfl rfl (htx _ kw_1_5) (htx _ kw_5_192) ⟨by decide, by decide, by decide +kernel⟩ ⟨Nat.le_of_ble_eq_true rfl, Nat.le_of_ble_eq_true rfl⟩, (htx _ kw_5_194), (htx _ kp_M_fail)⟩ ⟨xPre_blind, va_recv hK hP (ci := 5) rfl (q0 := 0) rfl, (fun U hU hW => ⟨rfl, xPre_of hZ hS hFc hPc hDc hK U hU hW⟩)⟩ rfl rfl hl.1 rfl (lv_room (Nat.le_of_ble_eq_true rfl)) dM_read_14 ⟨Nat.le_of_ble_eq_true rfl, Nat.le_of_ble_eq_true rfl⟩) hS (fun q _ h => hFc q h) hFc (fun r2 u9 t H1 locs ht hvm hr9 hB hz1 hk1 hS => ?_)
  obtain ⟨hP1, hK1, hD1⟩ := hB
  rw [ht] at hP1
  obtain ⟨hP, hD⟩ := xjoin (W := [(a0, .inr (5, [.int 1, v4, .int 0, v6, .int 0, v8, v9, .int 0, v11, .int 0, v13, v14, .int 0, v16, v17, v18, v19, v20, v21, v22, v23, v24, .int 0, .int 1000000000, v27, v28, v29, v30, v31, v32, v33, v34]))]) hP hD [0] [] 0 rfl rfl (by decide) (by decide) hk1 hFc hP1 hD1
  generalize H1 = H at hP hS ⊢
  rw [hr9]
  refine W.eq (g2 := F0 m 17 ls [.int 0]) rfl ?_
  obtain ⟨hP9, hD9⟩ := xsub (wc := [(a0, .inr (5, [.int 1, v4, .int 0, v6, .int 0, v8, v9, .int 0, v11, .int 0, v13, v14, .int 0, v16, v17, v18, v19, v20, v21, v22, v23, v24, .int 0, .int 1000000000, v27, v28, v29, v30, v31, v32, v33, v34]))]) hP hD [0] rfl rfl (by decide)
  refine W.widen (k := 0) (n := 0) (Nat.le_of_ble_eq_true rfl) (Nat.le_of_ble_eq_true rfl) ?_
  exact W.iret (v := 0) hx hb hr (fun t ht hW => ⟨⟨0, (), rfl, rfl, by rw [ht]; exact hP9, va_K.moved hW.alike hK, hD9⟩, hS.F ht⟩) hS.2.2 dM_read_17
set_option maxHeartbeats 400000000 in
set_option maxRecDepth 100000 in
theorem cB_isWithin_3 (l : Launch) (hl9 : l.stackTraces = false) (D : va_G) (cT : Nat → ClassId) (aK aV : Nat → Nat) (sz : Nat) (x0 : Int32) (h1 : ¬ x0 < 0) (h2 : 7 < x0) (h3 : ¬ x0 ≤ 7) : xMet l yB_isWithin wyB_isWithin 0 0 0 0 D cT aK aV sz [.int x0, .int 7] [] (fun A => va_Qi (fun (r : Int32) (_ : Unit) => r = 0) (fun _ t => xB D xcl cT A [] t) A) := by
  refine Met.ofW (cc := prog_1_method_15_code) (maxL := 2) (ret := (some .boolean)) (by decide) rfl ?_
  intro p e s m args below meth c s₁ B hml hv
  obtain ⟨rfl, hsz, hZ, hP, hK, hD0⟩ := hv
  have hx := B.exec
  have hb := B.bytes
  have hr := B.returns
  have hts := atoms_spec (ws := wyB_isWithin) B.pre
  have htx := fun w h => hts w (List.mem_cons_of_mem _ h)
  have hown : s.vm.findClass "ValueBench" = some m.cls := findClass_of_methodNamed B.named
  have hlocks := B.notSynchronized
  subst hsz
  have hD := hD0.self (sz := s.heap.size)
  generalize hAe : va_A [] s.heap.size = A at hD hZ ⊢
  have hA : ∀ q : Nat, s.heap.size ≤ q → A q := fun q h => by rw [← hAe]; exact Or.inr h
  have hS : va_S A s.heap s.heap [] := va_S.rf
  have hP : va_P D xcl [] s.heap := hP
  have hl := lv_entry ([.int x0, .int 7]) (n := 2) (Nat.le_of_ble_eq_true rfl)
  rw [lg_entry_eq]
  generalize (lg_sl ([.int x0, .int 7]) ++ List.replicate (2 - (lg_sl ([.int x0, .int 7])).length) Slot.unset).toArray = ls at hl ⊢
  have hl : lv_has ls 2 [(0, .int x0), (1, .int 7)] := hl
  refine lv_iload_n hx hb dB_isWithin_0 rfl (lv_at hl 0 rfl) ?_
  refine lv_if_lt (tgt := 13) hx hb dB_isWithin_1 (by decide) (fun h => by first | exact absurd h h1 | exact absurd h h2 | exact absurd h h3 | exact absurd h1 h | exact absurd h2 h | exact absurd h3 h) (fun _ => ?_)
  refine lv_iload_n hx hb dB_isWithin_4 rfl (lv_at hl 0 rfl) ?_
  refine lv_iload_n hx hb dB_isWithin_5 rfl (lv_at hl 1 rfl) ?_
  refine lv_icmp_gt (tgt := 13) hx hb dB_isWithin_6 (by decide) (fun _ => ?_) (fun h => by first | exact absurd h h1 | exact absurd h h2 | exact absurd h h3 | exact absurd h1 h | exact absurd h2 h | exact absurd h3 h)
  refine lv_iconst (v := 0) hx hb dB_isWithin_13 (by decide) ?_
  obtain ⟨hP9, hD9⟩ := xsub (wc := []) hP hD [] rfl rfl (by decide)
  refine W.widen (k := 0) (n := 0) (Nat.le_of_ble_eq_true rfl) (Nat.le_of_ble_eq_true rfl) ?_
  exact W.zret (v := 0) hx hb hr rfl (fun t ht hW => ⟨⟨0, (), rfl, rfl, by rw [ht]; exact hP9, va_K.moved hW.alike hK, hD9⟩, hS.F ht⟩) hS.2.2 dB_isWithin_14
set_option maxHeartbeats 400000000 in
set_option maxRecDepth 100000 in
theorem cB_isRegister_1 (l : Launch) (hl9 : l.stackTraces = false) (D : va_G) (cT : Nat → ClassId) (aK aV : Nat → Nat) (sz : Nat) (x0 : Int32) (h1 : ¬ x0 < 0) (h2 : 7 < x0) (h3 : ¬ x0 ≤ 7) : xMet l yB_isRegister wyB_isRegister 1 0 0 21 D cT aK aV sz [.int x0] [] (fun A => va_Qi (fun (r : Int32) (_ : Unit) => r = 0) (fun _ t => xB D xcl cT A [] t) A) := by
  refine Met.ofW (cc := prog_1_method_14_code) (maxL := 1) (ret := (some .boolean)) (by decide) rfl ?_
  intro p e s m args below meth c s₁ B hml hv
  obtain ⟨rfl, hsz, hZ, hP, hK, hD0⟩ := hv
  have hx := B.exec
  have hb := B.bytes
  have hr := B.returns
  have hts := atoms_spec (ws := wyB_isRegister) B.pre
  have htx := fun w h => hts w (List.mem_cons_of_mem _ h)
  have hown : s.vm.findClass "ValueBench" = some m.cls := findClass_of_methodNamed B.named
  have hlocks := B.notSynchronized
  subst hsz
  have hD := hD0.self (sz := s.heap.size)
  generalize hAe : va_A [] s.heap.size = A at hD hZ ⊢
  have hA : ∀ q : Nat, s.heap.size ≤ q → A q := fun q h => by rw [← hAe]; exact Or.inr h
  have hS : va_S A s.heap s.heap [] := va_S.rf
  have hP : va_P D xcl [] s.heap := hP
  have hl := lv_entry ([.int x0]) (n := 1) (Nat.le_of_ble_eq_true rfl)
  rw [lg_entry_eq]
  generalize (lg_sl ([.int x0]) ++ List.replicate (1 - (lg_sl ([.int x0])).length) Slot.unset).toArray = ls at hl ⊢
  have hl : lv_has ls 1 [(0, .int x0)] := hl
  refine lv_iload_n hx hb dB_isRegister_0 rfl (lv_at hl 0 rfl) ?_
  refine lv_bipush (v := 7) hx hb dB_isRegister_1 (by decide) ?_
  obtain ⟨hPc, hDc, hFc⟩ := xcut (wc := []) hP hD hS hA [] rfl rfl (by decide)
  refine va_calli (va_runS (As := [.int x0, .int 7]) (rest := []) ⟨hx, hb, hml, hown, htx⟩ (cB_isWithin_3 l hl9 D cT aK aV s.heap.size x0 h1 h2 h3) ⟨callB_of 2 htx (xw_goodC kw_1_218) rfl rfl rfl (htx _ kw_1_1) (htx _ kw_1_216) ⟨by decide, by decide, by decide +kernel⟩ ⟨Nat.le_of_ble_eq_true rfl, Nat.le_of_ble_eq_true rfl⟩, htx _ kw_1_217⟩ ⟨xPre_blind, (fun U hU hW => ⟨rfl, xPre_of hZ hS hFc hPc hDc hK U hU hW⟩)⟩ rfl rfl hl.1 rfl (lv_room (Nat.le_of_ble_eq_true rfl)) dB_isRegister_3 ⟨Nat.le_of_ble_eq_true rfl, Nat.le_of_ble_eq_true rfl⟩) hS (fun q _ h => hFc q h) hFc (fun r1 u9 t H1 locs ht hvm hr9 hB hz1 hk1 hS => ?_)
  obtain ⟨hP1, hK1, hD1⟩ := hB
  rw [ht] at hP1
  obtain ⟨hP, hD⟩ := xjoin (W := []) hP hD [] [] 0 rfl rfl (by decide) (by decide) hk1 hFc hP1 hD1
  generalize H1 = H at hP hS ⊢
  rw [hr9]
  refine W.eq (g2 := F0 m 6 ls [.int 0]) rfl ?_
  obtain ⟨hP9, hD9⟩ := xsub (wc := []) hP hD [] rfl rfl (by decide)
  refine W.widen (k := 0) (n := 0) (Nat.le_of_ble_eq_true rfl) (Nat.le_of_ble_eq_true rfl) ?_
  exact W.zret (v := 0) hx hb hr rfl (fun t ht hW => ⟨⟨0, (), rfl, rfl, by rw [ht]; exact hP9, va_K.moved hW.alike hK, hD9⟩, hS.F ht⟩) hS.2.2 dB_isRegister_6
set_option maxHeartbeats 400000000 in
set_option maxRecDepth 100000 in
theorem cB_read_1 (l : Launch) (hl9 : l.stackTraces = false) (D : va_G) (cT : Nat → ClassId) (aK aV : Nat → Nat) (sz : Nat) (b0 : Nat) (x1 : Int32) (h2 : ¬ x1 < 0) (h3 : 7 < x1) (h4 : ¬ x1 ≤ 7) : xMetX l yB_read wyB_read 7 1 6 120 D cT aK aV sz [.ref b0, .int x1] [] "java/lang/IllegalArgumentException" (fun A t => xB D xcl cT A [] t) := by
  refine vx_ofW (cc := prog_1_method_4_code) (maxL := 2) (ret := (some .int)) (by decide) rfl ?_
  intro p e s m args below meth c s₁ B hml hne hv
  obtain ⟨rfl, hsz, hZ, hP, hK, hD0⟩ := hv
  have hx := B.exec
  have hb := B.bytes
  have hr := B.returns
  have hts := atoms_spec (ws := wyB_read) B.pre
  have htx := fun w h => hts w (List.mem_cons_of_mem _ h)
  have hown : s.vm.findClass "ValueBench" = some m.cls := findClass_of_methodNamed B.named
  have hlocks := B.notSynchronized
  subst hsz
  have hD := hD0.self (sz := s.heap.size)
  generalize hAe : va_A [] s.heap.size = A at hD hZ ⊢
  have hA : ∀ q : Nat, s.heap.size ≤ q → A q := fun q h => by rw [← hAe]; exact Or.inr h
  have hS : va_S A s.heap s.heap [] := va_S.rf
  have hP : va_P D xcl [] s.heap := hP
  have hl := lv_entry ([.ref b0, .int x1]) (n := 2) (Nat.le_of_ble_eq_true rfl)
  rw [lg_entry_eq]
  generalize (lg_sl ([.ref b0, .int x1]) ++ List.replicate (2 - (lg_sl ([.ref b0, .int x1])).length) Slot.unset).toArray = ls at hl ⊢
  have hl : lv_has ls 2 [(0, .ref b0), (1, .int x1)] := hl
  refine lv_iload_n hx hb dB_read_0 rfl (lv_at hl 1 rfl) ?_
  obtain ⟨hPc, hDc, hFc⟩ := xcut (wc := []) hP hD hS hA [] rfl rfl (by decide)
  refine va_calli (va_runS (As := [.int x1]) (rest := []) ⟨hx, hb, hml, hown, htx⟩ (cB_isRegister_1 l hl9 D cT aK aV s.heap.size x1 h2 h3 h4) ⟨callB_of 1 htx (xw_goodC kw_2_18) rfl rfl rfl (htx _ kw_1_1) (htx _ kw_2_16) ⟨by decide, by decide, by decide +kernel⟩ ⟨Nat.le_of_ble_eq_true rfl, Nat.le_of_ble_eq_true rfl⟩, htx _ kw_2_17⟩ ⟨xPre_blind, (fun U hU hW => ⟨rfl, xPre_of hZ hS hFc hPc hDc hK U hU hW⟩)⟩ rfl rfl hl.1 rfl (lv_room (Nat.le_of_ble_eq_true rfl)) dB_read_1 ⟨Nat.le_of_ble_eq_true rfl, Nat.le_of_ble_eq_true rfl⟩) hS (fun q _ h => hFc q h) hFc (fun r1 u9 t H1 locs ht hvm hr9 hB hz1 hk1 hS => ?_)
  obtain ⟨hP1, hK1, hD1⟩ := hB
  rw [ht] at hP1
  obtain ⟨hP, hD⟩ := xjoin (W := []) hP hD [] [] 0 rfl rfl (by decide) (by decide) hk1 hFc hP1 hD1
  generalize H1 = H at hP hS ⊢
  rw [hr9]
  refine W.eq (g2 := F0 m 4 ls [.int 0]) rfl ?_
  obtain ⟨hPc, hDc, hFc⟩ := xcut (wc := []) hP hD hS hA [] rfl rfl (by decide)
  refine xx_thr (vx_runS (As := [.int 0]) (rest := []) ⟨hx, hb, hml, hown, htx⟩ (cB_demand_0 l hl9 D cT aK aV H.size) ⟨callB_of 1 htx (xw_goodC kw_1_221) rfl rfl rfl (htx _ kw_1_1) (htx _ kw_1_219) ⟨by decide, by decide, by decide +kernel⟩ ⟨Nat.le_of_ble_eq_true rfl, Nat.le_of_ble_eq_true rfl⟩, htx _ kw_1_220⟩ ⟨xPre_blind, (fun U hU hW => ⟨rfl, xPre_of hZ hS hFc hPc hDc hK U hU hW⟩)⟩ rfl rfl hl.1 rfl (lv_room (Nat.le_of_ble_eq_true rfl)) dB_read_4 ⟨Nat.le_of_ble_eq_true rfl, Nat.le_of_ble_eq_true rfl⟩) hS hFc (fun q _ h => hFc q h) (fun E ce q9 u9 t H1 locs ht hvm _ hB hz1 hk1 hS hce hcv hcl => ?_)
  obtain ⟨rfl, hP1, hK1, hD1⟩ := hB
  rw [ht] at hP1
  obtain ⟨hP, hD⟩ := xjoin (W := []) hP hD [] [] 0 rfl rfl (by decide) (by decide) hk1 hFc hP1 hD1
  generalize H1 = H at hP hS hce ⊢
  obtain ⟨hP9, hD9⟩ := xsub (wc := []) hP hD [] rfl rfl (by decide)
  exact vx_out (E := "java/lang/IllegalArgumentException") (fun x h => (hne x h).elim) hlocks hce hcv hcl (fun t ht ha => ⟨(), trivial, ⟨rfl, by rw [ht]; exact hP9, va_K.moved ha hK, hD9⟩, hS.F ht⟩) hS.2.2 (Nat.le_of_ble_eq_true rfl) (Nat.le_of_ble_eq_true rfl)
set_option maxHeartbeats 400000000 in
set_option maxRecDepth 100000 in
theorem cL_read_1 (l : Launch) (hl9 : l.stackTraces = false) (D : va_G) (cT : Nat → ClassId) (aK aV : Nat → Nat) (sz : Nat) (a0 : Nat) (x1 : Int32) (b5 : Nat) (v6 : Value) (v7 : Value) (v8 : Value) (v9 : Value) (v10 : Value) (v11 : Value) (v12 : Value) (v13 : Value) (h2 : ¬ x1 < 0) (h3 : 7 < x1) (h4 : ¬ x1 ≤ 7) : xMet l yL_read wyL_read 8 1 6 141 D cT aK aV sz [.ref a0, .int x1, .ref b5] [(a0, .inr (0, [v6, v7, v8, v9, v10, v11, v12, v13]))] (fun A => va_Qi (fun (r : Int32) (_ : Unit) => r = 1) (fun _ t => xB D xcl cT A [(a0, .inr (0, [v6, v7, v8, v9, v10, v11, v12, v13]))] t) A) := by
  refine va_MetW (cc := method_5_code) (maxL := 4) (ret := (some .int)) (hh := [(0, 9, 12, 19), (0, 9, 15, 24), (0, 9, 18, 13)]) (by decide) rfl ?_
  intro p e s m args below meth c s₁ B hml hv
  obtain ⟨rfl, hsz, hZ, hP, hK, hD0⟩ := hv
  have hx := B.exec
  have hb := B.bytes
  have hr := B.returns
  have hts := atoms_spec (ws := wyL_read) B.pre
  have htx := fun w h => hts w (List.mem_cons_of_mem _ h)
  have hown : s.vm.findClass "ValueBenchLaw" = some m.cls := findClass_of_methodNamed B.named
  have hlocks := B.notSynchronized
  subst hsz
  have hD := hD0.self (sz := s.heap.size)
  generalize hAe : va_A [(a0, .inr (0, [v6, v7, v8, v9, v10, v11, v12, v13]))] s.heap.size = A at hD hZ ⊢
  have hA : ∀ q : Nat, s.heap.size ≤ q → A q := fun q h => by rw [← hAe]; exact Or.inr h
  have hS : va_S A s.heap s.heap [] := va_S.rf
  have hP : va_P D xcl [(a0, .inr (0, [v6, v7, v8, v9, v10, v11, v12, v13]))] s.heap := hP
  have hl := lv_entry ([.ref a0, .int x1, .ref b5]) (n := 4) (Nat.le_of_ble_eq_true rfl)
  rw [lg_entry_eq]
  generalize (lg_sl ([.ref a0, .int x1, .ref b5]) ++ List.replicate (4 - (lg_sl ([.ref a0, .int x1, .ref b5])).length) Slot.unset).toArray = ls at hl ⊢
  have hl : lv_has ls 4 [(0, .ref a0), (1, .int x1), (2, .ref b5)] := hl
  have htab := vx_table (x := yL_read) B (hts _ List.mem_cons_self)
  refine lv_aload_n hx hb dL_read_0 rfl (lv_at hl 2 rfl) ?_
  refine lv_iconst (v := 0) hx hb dL_read_1 (by decide) ?_
  refine lv_aload_n hx hb dL_read_2 rfl (lv_at hl 0 rfl) ?_
  refine lv_iload_n hx hb dL_read_3 rfl (lv_at hl 1 rfl) ?_
  obtain ⟨hPc, hDc, hFc⟩ := xcut (wc := []) hP hD hS hA [] rfl rfl (by decide)
  refine xx_thr (vx_runV (C := "ValueBench") (As := [.int x1]) (rest := [.int 0, .ref b5]) ⟨hx, hb, hml, hown, htx⟩ (cB_read_1 l hl9 D cT aK aV s.heap.size a0 x1 h2 h3 h4) ⟨callB_of 1 htx (xw_goodC kw_2_15) rfl rfl rfl (htx _ kw_1_1) (htx _ kw_2_12) ⟨by decide, by decide, by decide +kernel⟩ ⟨Nat.le_of_ble_eq_true rfl, Nat.le_of_ble_eq_true rfl⟩, (htx _ kw_2_13), (htx _ kw_2_14)⟩ ⟨xPre_blind, va_recv hK hP (ci := 0) rfl (q0 := 0) rfl, (fun U hU hW => ⟨rfl, xPre_of hZ hS hFc hPc hDc hK U hU hW⟩)⟩ rfl rfl hl.1 rfl (lv_room (Nat.le_of_ble_eq_true rfl)) dL_read_4 ⟨Nat.le_of_ble_eq_true rfl, Nat.le_of_ble_eq_true rfl⟩) hS hFc (fun q _ h => hFc q h) (fun E ce q9 u9 t H1 locs ht hvm _ hB hz1 hk1 hS hce hcv hcl => ?_)
  obtain ⟨rfl, hP1, hK1, hD1⟩ := hB
  rw [ht] at hP1
  obtain ⟨hP, hD⟩ := xjoin (W := [(a0, .inr (0, [v6, v7, v8, v9, v10, v11, v12, v13]))]) hP hD [] [0] 1 rfl rfl (by decide) (by decide) hk1 hFc hP1 hD1
  generalize H1 = H at hP hS hce ⊢
  refine vx_catch (own := "ValueBenchLaw") (name := "java/lang/IllegalArgumentException") (E := "java/lang/IllegalArgumentException") hown [] ⟨0, 9, 12, 19⟩ [⟨0, 9, 15, 24⟩, ⟨0, 9, 18, 13⟩] (by rw [htab]; rfl) (fun z hz => nomatch hz) (by decide) (by decide) (htx _ kw_1_211) ((hZ.2.2.2.2.2.1 "java/lang/IllegalArgumentException" (List.mem_of_getElem? (i := 1) rfl)).use rfl) hce hcv hcl ?_
  refine lv_astore_n (lv' := [(3, .ref q9), (0, .ref a0), (1, .int x1), (2, .ref b5)]) hx hb dL_read_12 rfl hl (by decide) rfl (fun ls hl => ?_)
  refine lv_iconst (v := 1) hx hb dL_read_13 (by decide) ?_
  obtain ⟨hP9, hD9⟩ := xsub (wc := [(a0, .inr (0, [v6, v7, v8, v9, v10, v11, v12, v13]))]) hP hD [0] rfl rfl (by decide)
  refine W.widen (k := 1) (n := 6) (Nat.le_of_ble_eq_true rfl) (Nat.le_of_ble_eq_true rfl) ?_
  exact W.iret (v := 1) hx hb hr (fun t ht hW => ⟨⟨1, (), rfl, rfl, by rw [ht]; exact hP9, va_K.moved hW.alike hK, hD9⟩, hS.F ht⟩) hS.2.2 dL_read_14
set_option maxHeartbeats 400000000 in
set_option maxRecDepth 100000 in
theorem cM_out_1 (l : Launch) (hl9 : l.stackTraces = false) (D : va_G) (cT : Nat → ClassId) (aK aV : Nat → Nat) (sz : Nat) (b0 : Nat) (x1 : Int32) (h2 : ¬ x1 < 0) (h3 : 7 < x1) (h4 : ¬ x1 ≤ 7) : xMet l yM_out wyM_out 0 0 0 0 D cT aK aV sz [.ref b0, .int x1] [] (fun A => va_Qi (fun (r : Int32) (_ : Unit) => r = 1) (fun _ t => xB D xcl cT A [] t) A) := by
  refine Met.ofW (cc := prog_13_method_77_code) (maxL := 2) (ret := (some .boolean)) (by decide) rfl ?_
  intro p e s m args below meth c s₁ B hml hv
  obtain ⟨rfl, hsz, hZ, hP, hK, hD0⟩ := hv
  have hx := B.exec
  have hb := B.bytes
  have hr := B.returns
  have hts := atoms_spec (ws := wyM_out) B.pre
  have htx := fun w h => hts w (List.mem_cons_of_mem _ h)
  have hown : s.vm.findClass "ValueBenchModel" = some m.cls := findClass_of_methodNamed B.named
  have hlocks := B.notSynchronized
  subst hsz
  have hD := hD0.self (sz := s.heap.size)
  generalize hAe : va_A [] s.heap.size = A at hD hZ ⊢
  have hA : ∀ q : Nat, s.heap.size ≤ q → A q := fun q h => by rw [← hAe]; exact Or.inr h
  have hS : va_S A s.heap s.heap [] := va_S.rf
  have hP : va_P D xcl [] s.heap := hP
  have hl := lv_entry ([.ref b0, .int x1]) (n := 2) (Nat.le_of_ble_eq_true rfl)
  rw [lg_entry_eq]
  generalize (lg_sl ([.ref b0, .int x1]) ++ List.replicate (2 - (lg_sl ([.ref b0, .int x1])).length) Slot.unset).toArray = ls at hl ⊢
  have hl : lv_has ls 2 [(0, .ref b0), (1, .int x1)] := hl
  refine lv_iload_n hx hb dM_out_0 rfl (lv_at hl 1 rfl) ?_
  refine lv_if_lt (tgt := 10) hx hb dM_out_1 (by decide) (fun h => by first | exact absurd h h2 | exact absurd h h3 | exact absurd h h4 | exact absurd h2 h | exact absurd h3 h | exact absurd h4 h) (fun _ => ?_)
  refine lv_iload_n hx hb dM_out_4 rfl (lv_at hl 1 rfl) ?_
  refine lv_bipush (v := 7) hx hb dM_out_5 (by decide) ?_
  refine lv_icmp_le (tgt := 14) hx hb dM_out_7 (by decide) (fun h => by first | exact absurd h h2 | exact absurd h h3 | exact absurd h h4 | exact absurd h2 h | exact absurd h3 h | exact absurd h4 h) (fun _ => ?_)
  refine lv_iconst (v := 1) hx hb dM_out_10 (by decide) ?_
  refine lv_goto (tgt := 15) hx hb dM_out_11 (by decide) ?_
  obtain ⟨hP9, hD9⟩ := xsub (wc := []) hP hD [] rfl rfl (by decide)
  refine W.widen (k := 0) (n := 0) (Nat.le_of_ble_eq_true rfl) (Nat.le_of_ble_eq_true rfl) ?_
  exact W.zret (v := 1) hx hb hr rfl (fun t ht hW => ⟨⟨1, (), rfl, rfl, by rw [ht]; exact hP9, va_K.moved hW.alike hK, hD9⟩, hS.F ht⟩) hS.2.2 dM_out_15
set_option maxHeartbeats 400000000 in
set_option maxRecDepth 100000 in
theorem cM_read_1 (l : Launch) (hl9 : l.stackTraces = false) (D : va_G) (cT : Nat → ClassId) (aK aV : Nat → Nat) (sz : Nat) (a0 : Nat) (x1 : Int32) (v5 : Value) (v6 : Value) (v7 : Value) (v8 : Value) (v9 : Value) (v10 : Value) (v11 : Value) (v12 : Value) (v13 : Value) (v14 : Value) (v15 : Value) (v16 : Value) (v17 : Value) (v18 : Value) (v19 : Value) (v20 : Value) (v21 : Value) (v22 : Value) (v23 : Value) (v24 : Value) (v25 : Value) (v26 : Value) (v27 : Value) (v28 : Value) (v29 : Value) (v30 : Value) (v31 : Value) (v32 : Value) (v33 : Value) (v34 : Value) (v35 : Value) (v36 : Value) (h2 : ¬ x1 < 0) (h3 : 7 < x1) (h4 : ¬ x1 ≤ 7) : xMet l yM_read wyM_read 2 0 0 40 D cT aK aV sz [.ref a0, .int x1] [(a0, .inr (5, [v5, v6, v7, v8, v9, v10, v11, v12, v13, v14, v15, v16, v17, v18, v19, v20, v21, v22, v23, v24, v25, v26, v27, v28, v29, v30, v31, v32, v33, v34, v35, v36]))] (fun A => va_Qi (fun (r : Int32) (_ : Unit) => r = 0) (fun _ t => xB D xcl cT A [(a0, .inr (5, [.int 1, v6, .int 0, v8, .int 0, v10, v11, .int 0, v13, .int 0, v15, v16, .int 0, v18, v19, v20, v21, v22, v23, v24, v25, v26, .int 0, .int 1000000000, v29, v30, v31, v32, v33, v34, v35, v36]))] t) A) := by
  refine va_MetW (cc := prog_13_method_84_code) (maxL := 4) (ret := (some .int)) (hh := [(39, 54, 55, 205), (39, 54, 70, 86)]) (by decide) rfl ?_
  intro p e s m args below meth c s₁ B hml hv
  obtain ⟨rfl, hsz, hZ, hP, hK, hD0⟩ := hv
  have hx := B.exec
  have hb := B.bytes
  have hr := B.returns
  have hts := atoms_spec (ws := wyM_read) B.pre
  have htx := fun w h => hts w (List.mem_cons_of_mem _ h)
  have hown : s.vm.findClass "ValueBenchModel" = some m.cls := findClass_of_methodNamed B.named
  have hlocks := B.notSynchronized
  subst hsz
  have hD := hD0.self (sz := s.heap.size)
  generalize hAe : va_A [(a0, .inr (5, [v5, v6, v7, v8, v9, v10, v11, v12, v13, v14, v15, v16, v17, v18, v19, v20, v21, v22, v23, v24, v25, v26, v27, v28, v29, v30, v31, v32, v33, v34, v35, v36]))] s.heap.size = A at hD hZ ⊢
  have hA : ∀ q : Nat, s.heap.size ≤ q → A q := fun q h => by rw [← hAe]; exact Or.inr h
  have hS : va_S A s.heap s.heap [] := va_S.rf
  have hP : va_P D xcl [(a0, .inr (5, [v5, v6, v7, v8, v9, v10, v11, v12, v13, v14, v15, v16, v17, v18, v19, v20, v21, v22, v23, v24, v25, v26, v27, v28, v29, v30, v31, v32, v33, v34, v35, v36]))] s.heap := hP
  have hl := lv_entry ([.ref a0, .int x1]) (n := 4) (Nat.le_of_ble_eq_true rfl)
  rw [lg_entry_eq]
  generalize (lg_sl ([.ref a0, .int x1]) ++ List.replicate (4 - (lg_sl ([.ref a0, .int x1])).length) Slot.unset).toArray = ls at hl ⊢
  have hl : lv_has ls 4 [(0, .ref a0), (1, .int x1)] := hl
  have htab := vx_table (x := yM_read) B (hts _ List.mem_cons_self)
  refine lv_aload_n hx hb dM_read_0 rfl (lv_at hl 0 rfl) ?_
  obtain ⟨hPc, hDc, hFc⟩ := xcut (wc := [(a0, .inr (5, [v5, v6, v7, v8, v9, v10, v11, v12, v13, v14, v15, v16, v17, v18, v19, v20, v21, v22, v23, v24, v25, v26, v27, v28, v29, v30, v31, v32, v33, v34, v35, v36]))]) hP hD hS hA [0] rfl rfl (by decide)
  refine va_callv (va_runV (C := "ValueBenchModel") (As := []) (rest := []) ⟨hx, hb, hml, hown, htx⟩ (cM_begin_0 l hl9 D cT aK aV s.heap.size a0 v5 v6 v7 v8 v9 v10 v11 v12 v13 v14 v15 v16 v17 v18 v19 v20 v21 v22 v23 v24 v25 v26 v27 v28 v29 v30 v31 v32 v33 v34 v35 v36) ⟨callB_of 0 htx (xw_goodC kw_5_209) rfl rfl rfl (htx _ kw_1_5) (htx _ kw_5_206) ⟨by decide, by decide, by decide +kernel⟩ ⟨Nat.le_of_ble_eq_true rfl, Nat.le_of_ble_eq_true rfl⟩, (htx _ kw_5_208), (htx _ kp_M_begin)⟩ ⟨xPre_blind, va_recv hK hP (ci := 5) rfl (q0 := 0) rfl, (fun U hU hW => ⟨rfl, xPre_of hZ hS hFc hPc hDc hK U hU hW⟩)⟩ rfl rfl hl.1 rfl (lv_room (Nat.le_of_ble_eq_true rfl)) dM_read_1 ⟨Nat.le_of_ble_eq_true rfl, Nat.le_of_ble_eq_true rfl⟩) hS (fun q _ h => hFc q h) hFc (fun u9 t H1 locs ht hvm hr9 hB hz1 hk1 hS => ?_)
  obtain ⟨hP1, hK1, hD1⟩ := hB
  rw [ht] at hP1
  obtain ⟨hP, hD⟩ := xjoin (W := [(a0, .inr (5, [.int 0, v6, .int 0, v8, .int 0, v10, v11, .int 0, v13, .int 0, v15, v16, .int 0, v18, v19, v20, v21, v22, v23, v24, v25, v26, .int 0, .int 1000000000, v29, v30, v31, v32, v33, v34, v35, v36]))]) hP hD [0] [] 0 rfl rfl (by decide) (by decide) hk1 hFc hP1 hD1
  generalize H1 = H at hP hS ⊢
  refine lv_aload_n hx hb dM_read_4 rfl (lv_at hl 0 rfl) ?_
  refine lv_iload_n hx hb dM_read_5 rfl (lv_at hl 1 rfl) ?_
  obtain ⟨hPc, hDc, hFc⟩ := xcut (wc := []) hP hD hS hA [] rfl rfl (by decide)
  refine va_calli (va_runV (C := "ValueBenchModel") (As := [.int x1]) (rest := []) ⟨hx, hb, hml, hown, htx⟩ (cM_out_1 l hl9 D cT aK aV H.size a0 x1 h2 h3 h4) ⟨callB_of 1 htx (xw_goodC kw_5_217) rfl rfl rfl (htx _ kw_1_5) (htx _ kw_5_214) ⟨by decide, by decide, by decide +kernel⟩ ⟨Nat.le_of_ble_eq_true rfl, Nat.le_of_ble_eq_true rfl⟩, (htx _ kw_5_216), (htx _ kp_M_out)⟩ ⟨xPre_blind, va_recv hK hP (ci := 5) rfl (q0 := 0) rfl, (fun U hU hW => ⟨rfl, xPre_of hZ hS hFc hPc hDc hK U hU hW⟩)⟩ rfl rfl hl.1 rfl (lv_room (Nat.le_of_ble_eq_true rfl)) dM_read_6 ⟨Nat.le_of_ble_eq_true rfl, Nat.le_of_ble_eq_true rfl⟩) hS (fun q _ h => hFc q h) hFc (fun r1 u9 t H1 locs ht hvm hr9 hB hz1 hk1 hS => ?_)
  obtain ⟨hP1, hK1, hD1⟩ := hB
  rw [ht] at hP1
  obtain ⟨hP, hD⟩ := xjoin (W := [(a0, .inr (5, [.int 0, v6, .int 0, v8, .int 0, v10, v11, .int 0, v13, .int 0, v15, v16, .int 0, v18, v19, v20, v21, v22, v23, v24, v25, v26, .int 0, .int 1000000000, v29, v30, v31, v32, v33, v34, v35, v36]))]) hP hD [] [0] 1 rfl rfl (by decide) (by decide) hk1 hFc hP1 hD1
  generalize H1 = H at hP hS ⊢
  rw [hr9]
  refine W.eq (g2 := F0 m 9 ls [.int 1]) rfl ?_
  refine lv_if_eq (tgt := 18) hx hb dM_read_9 (by decide) (fun h => ((by revert h; decide : False)).elim) (fun _ => ?_)
  refine lv_aload_n hx hb dM_read_12 rfl (lv_at hl 0 rfl) ?_
  refine lv_iconst (v := 1) hx hb dM_read_13 (by decide) ?_
  obtain ⟨hPc, hDc, hFc⟩ := xcut (wc := [(a0, .inr (5, [.int 0, v6, .int 0, v8, .int 0, v10, v11, .int 0, v13, .int 0, v15, v16, .int 0, v18, v19, v20, v21, v22, v23, v24, v25, v26, .int 0, .int 1000000000, v29, v30, v31, v32, v33, v34, v35, v36]))]) hP hD hS hA [0] rfl rfl (by decide)
  refine va_calli (va_runV (C := "ValueBenchModel") (As := [.int 1]) (rest := []) ⟨hx, hb, hml, hown, htx⟩ (cM_fail_0 l hl9 D cT aK aV H.size a0 (.int 0) v6 (.int 0) v8 (.int 0) v10 v11 (.int 0) v13 (.int 0) v15 v16 (.int 0) v18 v19 v20 v21 v22 v23 v24 v25 v26 (.int 0) (.int 1000000000) v29 v30 v31 v32 v33 v34 v35 v36) ⟨callB_of 1 htx (xw_goodC kw_5_195) rfl rfl rfl (htx _ kw_1_5) (htx _ kw_5_192) ⟨by decide, by decide, by decide +kernel⟩ ⟨Nat.le_of_ble_eq_true rfl, Nat.le_of_ble_eq_true rfl⟩, (htx _ kw_5_194), (htx _ kp_M_fail)⟩ ⟨xPre_blind, va_recv hK hP (ci := 5) rfl (q0 := 0) rfl, (fun U hU hW => ⟨rfl, xPre_of hZ hS hFc hPc hDc hK U hU hW⟩)⟩ rfl rfl hl.1 rfl (lv_room (Nat.le_of_ble_eq_true rfl)) dM_read_14 ⟨Nat.le_of_ble_eq_true rfl, Nat.le_of_ble_eq_true rfl⟩) hS (fun q _ h => hFc q h) hFc (fun r2 u9 t H1 locs ht hvm hr9 hB hz1 hk1 hS => ?_)
  obtain ⟨hP1, hK1, hD1⟩ := hB
  rw [ht] at hP1
  obtain ⟨hP, hD⟩ := xjoin (W := [(a0, .inr (5, [.int 1, v6, .int 0, v8, .int 0, v10, v11, .int 0, v13, .int 0, v15, v16, .int 0, v18, v19, v20, v21, v22, v23, v24, v25, v26, .int 0, .int 1000000000, v29, v30, v31, v32, v33, v34, v35, v36]))]) hP hD [0] [] 0 rfl rfl (by decide) (by decide) hk1 hFc hP1 hD1
  generalize H1 = H at hP hS ⊢
  rw [hr9]
  refine W.eq (g2 := F0 m 17 ls [.int 0]) rfl ?_
  obtain ⟨hP9, hD9⟩ := xsub (wc := [(a0, .inr (5, [.int 1, v6, .int 0, v8, .int 0, v10, v11, .int 0, v13, .int 0, v15, v16, .int 0, v18, v19, v20, v21, v22, v23, v24, v25, v26, .int 0, .int 1000000000, v29, v30, v31, v32, v33, v34, v35, v36]))]) hP hD [0] rfl rfl (by decide)
  refine W.widen (k := 0) (n := 0) (Nat.le_of_ble_eq_true rfl) (Nat.le_of_ble_eq_true rfl) ?_
  exact W.iret (v := 0) hx hb hr (fun t ht hW => ⟨⟨0, (), rfl, rfl, by rw [ht]; exact hP9, va_K.moved hW.alike hK, hD9⟩, hS.F ht⟩) hS.2.2 dM_read_17
set_option maxHeartbeats 400000000 in
set_option maxRecDepth 100000 in
theorem cB_isWithin_4 (l : Launch) (hl9 : l.stackTraces = false) (D : va_G) (cT : Nat → ClassId) (aK aV : Nat → Nat) (sz : Nat) (x0 : Int32) (h1 : ¬ x0 < 0) (h2 : ¬ 7 < x0) (h3 : x0 ≤ 7) (h4 : vp_in x0 8) : xMet l yB_isWithin wyB_isWithin 0 0 0 0 D cT aK aV sz [.int x0, .int 7] [] (fun A => va_Qi (fun (r : Int32) (_ : Unit) => r = 1) (fun _ t => xB D xcl cT A [] t) A) := by
  refine Met.ofW (cc := prog_1_method_15_code) (maxL := 2) (ret := (some .boolean)) (by decide) rfl ?_
  intro p e s m args below meth c s₁ B hml hv
  obtain ⟨rfl, hsz, hZ, hP, hK, hD0⟩ := hv
  have hx := B.exec
  have hb := B.bytes
  have hr := B.returns
  have hts := atoms_spec (ws := wyB_isWithin) B.pre
  have htx := fun w h => hts w (List.mem_cons_of_mem _ h)
  have hown : s.vm.findClass "ValueBench" = some m.cls := findClass_of_methodNamed B.named
  have hlocks := B.notSynchronized
  subst hsz
  have hD := hD0.self (sz := s.heap.size)
  generalize hAe : va_A [] s.heap.size = A at hD hZ ⊢
  have hA : ∀ q : Nat, s.heap.size ≤ q → A q := fun q h => by rw [← hAe]; exact Or.inr h
  have hS : va_S A s.heap s.heap [] := va_S.rf
  have hP : va_P D xcl [] s.heap := hP
  have hl := lv_entry ([.int x0, .int 7]) (n := 2) (Nat.le_of_ble_eq_true rfl)
  rw [lg_entry_eq]
  generalize (lg_sl ([.int x0, .int 7]) ++ List.replicate (2 - (lg_sl ([.int x0, .int 7])).length) Slot.unset).toArray = ls at hl ⊢
  have hl : lv_has ls 2 [(0, .int x0), (1, .int 7)] := hl
  refine lv_iload_n hx hb dB_isWithin_0 rfl (lv_at hl 0 rfl) ?_
  refine lv_if_lt (tgt := 13) hx hb dB_isWithin_1 (by decide) (fun h => by first | exact absurd h h1 | exact absurd h h2 | exact absurd h h3 | exact absurd h h4 | exact absurd h1 h | exact absurd h2 h | exact absurd h3 h | exact absurd h4 h) (fun _ => ?_)
  refine lv_iload_n hx hb dB_isWithin_4 rfl (lv_at hl 0 rfl) ?_
  refine lv_iload_n hx hb dB_isWithin_5 rfl (lv_at hl 1 rfl) ?_
  refine lv_icmp_gt (tgt := 13) hx hb dB_isWithin_6 (by decide) (fun h => by first | exact absurd h h1 | exact absurd h h2 | exact absurd h h3 | exact absurd h h4 | exact absurd h1 h | exact absurd h2 h | exact absurd h3 h | exact absurd h4 h) (fun _ => ?_)
  refine lv_iconst (v := 1) hx hb dB_isWithin_9 (by decide) ?_
  refine lv_goto (tgt := 14) hx hb dB_isWithin_10 (by decide) ?_
  obtain ⟨hP9, hD9⟩ := xsub (wc := []) hP hD [] rfl rfl (by decide)
  refine W.widen (k := 0) (n := 0) (Nat.le_of_ble_eq_true rfl) (Nat.le_of_ble_eq_true rfl) ?_
  exact W.zret (v := 1) hx hb hr rfl (fun t ht hW => ⟨⟨1, (), rfl, rfl, by rw [ht]; exact hP9, va_K.moved hW.alike hK, hD9⟩, hS.F ht⟩) hS.2.2 dB_isWithin_14
set_option maxHeartbeats 400000000 in
set_option maxRecDepth 100000 in
theorem cB_isRegister_2 (l : Launch) (hl9 : l.stackTraces = false) (D : va_G) (cT : Nat → ClassId) (aK aV : Nat → Nat) (sz : Nat) (x0 : Int32) (h1 : ¬ x0 < 0) (h2 : ¬ 7 < x0) (h3 : x0 ≤ 7) (h4 : vp_in x0 8) : xMet l yB_isRegister wyB_isRegister 1 0 0 21 D cT aK aV sz [.int x0] [] (fun A => va_Qi (fun (r : Int32) (_ : Unit) => r = 1) (fun _ t => xB D xcl cT A [] t) A) := by
  refine Met.ofW (cc := prog_1_method_14_code) (maxL := 1) (ret := (some .boolean)) (by decide) rfl ?_
  intro p e s m args below meth c s₁ B hml hv
  obtain ⟨rfl, hsz, hZ, hP, hK, hD0⟩ := hv
  have hx := B.exec
  have hb := B.bytes
  have hr := B.returns
  have hts := atoms_spec (ws := wyB_isRegister) B.pre
  have htx := fun w h => hts w (List.mem_cons_of_mem _ h)
  have hown : s.vm.findClass "ValueBench" = some m.cls := findClass_of_methodNamed B.named
  have hlocks := B.notSynchronized
  subst hsz
  have hD := hD0.self (sz := s.heap.size)
  generalize hAe : va_A [] s.heap.size = A at hD hZ ⊢
  have hA : ∀ q : Nat, s.heap.size ≤ q → A q := fun q h => by rw [← hAe]; exact Or.inr h
  have hS : va_S A s.heap s.heap [] := va_S.rf
  have hP : va_P D xcl [] s.heap := hP
  have hl := lv_entry ([.int x0]) (n := 1) (Nat.le_of_ble_eq_true rfl)
  rw [lg_entry_eq]
  generalize (lg_sl ([.int x0]) ++ List.replicate (1 - (lg_sl ([.int x0])).length) Slot.unset).toArray = ls at hl ⊢
  have hl : lv_has ls 1 [(0, .int x0)] := hl
  refine lv_iload_n hx hb dB_isRegister_0 rfl (lv_at hl 0 rfl) ?_
  refine lv_bipush (v := 7) hx hb dB_isRegister_1 (by decide) ?_
  obtain ⟨hPc, hDc, hFc⟩ := xcut (wc := []) hP hD hS hA [] rfl rfl (by decide)
  refine va_calli (va_runS (As := [.int x0, .int 7]) (rest := []) ⟨hx, hb, hml, hown, htx⟩ (cB_isWithin_4 l hl9 D cT aK aV s.heap.size x0 h1 h2 h3 h4) ⟨callB_of 2 htx (xw_goodC kw_1_218) rfl rfl rfl (htx _ kw_1_1) (htx _ kw_1_216) ⟨by decide, by decide, by decide +kernel⟩ ⟨Nat.le_of_ble_eq_true rfl, Nat.le_of_ble_eq_true rfl⟩, htx _ kw_1_217⟩ ⟨xPre_blind, (fun U hU hW => ⟨rfl, xPre_of hZ hS hFc hPc hDc hK U hU hW⟩)⟩ rfl rfl hl.1 rfl (lv_room (Nat.le_of_ble_eq_true rfl)) dB_isRegister_3 ⟨Nat.le_of_ble_eq_true rfl, Nat.le_of_ble_eq_true rfl⟩) hS (fun q _ h => hFc q h) hFc (fun r1 u9 t H1 locs ht hvm hr9 hB hz1 hk1 hS => ?_)
  obtain ⟨hP1, hK1, hD1⟩ := hB
  rw [ht] at hP1
  obtain ⟨hP, hD⟩ := xjoin (W := []) hP hD [] [] 0 rfl rfl (by decide) (by decide) hk1 hFc hP1 hD1
  generalize H1 = H at hP hS ⊢
  rw [hr9]
  refine W.eq (g2 := F0 m 6 ls [.int 1]) rfl ?_
  obtain ⟨hP9, hD9⟩ := xsub (wc := []) hP hD [] rfl rfl (by decide)
  refine W.widen (k := 0) (n := 0) (Nat.le_of_ble_eq_true rfl) (Nat.le_of_ble_eq_true rfl) ?_
  exact W.zret (v := 1) hx hb hr rfl (fun t ht hW => ⟨⟨1, (), rfl, rfl, by rw [ht]; exact hP9, va_K.moved hW.alike hK, hD9⟩, hS.F ht⟩) hS.2.2 dB_isRegister_6
set_option maxHeartbeats 400000000 in
set_option maxRecDepth 100000 in
theorem cR_clear_0 (l : Launch) (hl9 : l.stackTraces = false) (D : va_G) (cT : Nat → ClassId) (aK aV : Nat → Nat) (sz : Nat) (a0 : Nat) (v1 : Value) (v2 : Value) (v3 : Value) : xMet l yR_clear wyR_clear 0 0 0 0 D cT aK aV sz [.ref a0] [(a0, .inr (2, [v1, v2, v3]))] (fun A => va_Qv (fun _ : Unit => True) (fun _ t => xB D xcl cT A [(a0, .inr (2, [v1, .int 0, .int 0]))] t) A) := by
  refine Met.ofW (cc := prog_8_method_2_code) (maxL := 1) (ret := none) (by decide) rfl ?_
  intro p e s m args below meth c s₁ B hml hv
  obtain ⟨rfl, hsz, hZ, hP, hK, hD0⟩ := hv
  have hx := B.exec
  have hb := B.bytes
  have hr := B.returns
  have hts := atoms_spec (ws := wyR_clear) B.pre
  have htx := fun w h => hts w (List.mem_cons_of_mem _ h)
  have hown : s.vm.findClass "ValueBench$Row" = some m.cls := findClass_of_methodNamed B.named
  have hlocks := B.notSynchronized
  subst hsz
  have hD := hD0.self (sz := s.heap.size)
  generalize hAe : va_A [(a0, .inr (2, [v1, v2, v3]))] s.heap.size = A at hD hZ ⊢
  have hA : ∀ q : Nat, s.heap.size ≤ q → A q := fun q h => by rw [← hAe]; exact Or.inr h
  have hS : va_S A s.heap s.heap [] := va_S.rf
  have hP : va_P D xcl [(a0, .inr (2, [v1, v2, v3]))] s.heap := hP
  have hl := lv_entry ([.ref a0]) (n := 1) (Nat.le_of_ble_eq_true rfl)
  rw [lg_entry_eq]
  generalize (lg_sl ([.ref a0]) ++ List.replicate (1 - (lg_sl ([.ref a0])).length) Slot.unset).toArray = ls at hl ⊢
  have hl : lv_has ls 1 [(0, .ref a0)] := hl
  refine lv_aload_n hx hb dR_clear_0 rfl (lv_at hl 0 rfl) ?_
  refine lv_iconst (v := 0) hx hb dR_clear_1 (by decide) ?_
  refine va_put (D := D) (ci := 2) (v := .int 0) (ty := .int) (C := "ValueBench$Row") (T := TR) (N := 3) hx hb htx inR tyR tyR_ok nmR hown hK hP hD hS 0 rfl rfl 1 (by decide) (htx _ kw_1_85) (fun _ h9 => h9) rfl (by decide +kernel) rfl rfl (Nat.le_of_ble_eq_true rfl) dR_clear_2 (fun H locs hP hD hS => ?_)
  obtain ⟨hP, hD⟩ : xPD D xcl A [(a0, .inr (2, [v1, .int 0, v3]))] H := ⟨hP, hD⟩
  refine lv_aload_n hx hb dR_clear_5 rfl (lv_at hl 0 rfl) ?_
  refine lv_iconst (v := 0) hx hb dR_clear_6 (by decide) ?_
  refine va_put (D := D) (ci := 2) (v := .int 0) (ty := .boolean) (C := "ValueBench$Row") (T := TR) (N := 3) hx hb htx inR tyR tyR_ok nmR hown hK hP hD hS 0 rfl rfl 2 (by decide) (htx _ kw_1_86) (fun _ h9 => h9) rfl (by decide +kernel) rfl rfl (Nat.le_of_ble_eq_true rfl) dR_clear_7 (fun H locs hP hD hS => ?_)
  obtain ⟨hP, hD⟩ : xPD D xcl A [(a0, .inr (2, [v1, .int 0, .int 0]))] H := ⟨hP, hD⟩
  obtain ⟨hP9, hD9⟩ := xsub (wc := [(a0, .inr (2, [v1, .int 0, .int 0]))]) hP hD [0] rfl rfl (by decide)
  refine W.widen (k := 0) (n := 0) (Nat.le_of_ble_eq_true rfl) (Nat.le_of_ble_eq_true rfl) ?_
  exact W.vret hx hb hr (fun t ht hW => ⟨⟨(), rfl, trivial, by rw [ht]; exact hP9, va_K.moved hW.alike hK, hD9⟩, hS.F ht⟩) hS.2.2 dR_clear_10
set_option maxHeartbeats 400000000 in
set_option maxRecDepth 100000 in
theorem cD_init_0 (l : Launch) (hl9 : l.stackTraces = false) (D : va_G) (cT : Nat → ClassId) (aK aV : Nat → Nat) (sz : Nat) (a0 : Nat) (b1 : Nat) (b2 : Nat) (v3 : Value) (v4 : Value) (v5 : Value) (v6 : Value) : xMet l yD_init wyD_init 1 0 0 12 D cT aK aV sz [.ref a0, .ref b1, .ref b2] [(a0, .inr (4, [v3, v4, v5, v6]))] (fun A => va_Qv (fun _ : Unit => True) (fun _ t => xB D xcl cT A [(a0, .inr (4, [.ref b1, .ref b2, .int 0, .int (-1)]))] t) A) := by
  refine Met.ofW (cc := prog_7_method_1_code) (maxL := 3) (ret := none) (by decide) rfl ?_
  intro p e s m args below meth c s₁ B hml hv
  obtain ⟨rfl, hsz, hZ, hP, hK, hD0⟩ := hv
  have hx := B.exec
  have hb := B.bytes
  have hr := B.returns
  have hts := atoms_spec (ws := wyD_init) B.pre
  have htx := fun w h => hts w (List.mem_cons_of_mem _ h)
  have hown : s.vm.findClass "ValueBench$Reader" = some m.cls := findClass_of_methodNamed B.named
  have hlocks := B.notSynchronized
  have hin : meth.name = "<init>" := (name_of_methodNamed B.named B.method).1
  subst hsz
  have hD := hD0.self (sz := s.heap.size)
  generalize hAe : va_A [(a0, .inr (4, [v3, v4, v5, v6]))] s.heap.size = A at hD hZ ⊢
  have hA : ∀ q : Nat, s.heap.size ≤ q → A q := fun q h => by rw [← hAe]; exact Or.inr h
  have hS : va_S A s.heap s.heap [] := va_S.rf
  have hP : va_P D xcl [(a0, .inr (4, [v3, v4, v5, v6]))] s.heap := hP
  have hl := lv_entry ([.ref a0, .ref b1, .ref b2]) (n := 3) (Nat.le_of_ble_eq_true rfl)
  rw [lg_entry_eq]
  generalize (lg_sl ([.ref a0, .ref b1, .ref b2]) ++ List.replicate (3 - (lg_sl ([.ref a0, .ref b1, .ref b2])).length) Slot.unset).toArray = ls at hl ⊢
  have hl : lv_has ls 3 [(0, .ref a0), (1, .ref b1), (2, .ref b2)] := hl
  refine lv_aload_n hx hb dD_init_0 rfl (lv_at hl 0 rfl) ?_
  refine W.objInit hx hb hown (htx _ kw_2_28) (htx _ kw_1_35) (htx _ kw_1_36) rfl (by rw [hml]; exact hl.1) rfl dD_init_1 (Nat.le_of_ble_eq_true rfl) (Nat.le_of_ble_eq_true rfl) ?_
  refine W.eq (g2 := F0 m 4 ls []) rfl ?_
  refine lv_aload_n hx hb dD_init_4 rfl (lv_at hl 0 rfl) ?_
  refine lv_iconst (v := 0) hx hb dD_init_5 (by decide) ?_
  refine va_put (D := D) (ci := 4) (v := .int 0) (ty := .int) (C := "ValueBench$Reader") (T := TD) (N := 4) hx hb htx inD tyD tyD_ok nmD hown hK hP hD hS 0 rfl rfl 2 (by decide) (htx _ kw_2_31) (fun _ h9 => h9) rfl (by decide +kernel) rfl rfl (Nat.le_of_ble_eq_true rfl) dD_init_6 (fun H locs hP hD hS => ?_)
  obtain ⟨hP, hD⟩ : xPD D xcl A [(a0, .inr (4, [v3, v4, .int 0, v6]))] H := ⟨hP, hD⟩
  refine lv_aload_n hx hb dD_init_9 rfl (lv_at hl 0 rfl) ?_
  refine lv_iconst (v := (-1)) hx hb dD_init_10 (by decide) ?_
  refine va_put (D := D) (ci := 4) (v := .int (-1)) (ty := .int) (C := "ValueBench$Reader") (T := TD) (N := 4) hx hb htx inD tyD tyD_ok nmD hown hK hP hD hS 0 rfl rfl 3 (by decide) (htx _ kw_2_32) (fun _ h9 => h9) rfl (by decide +kernel) rfl rfl (Nat.le_of_ble_eq_true rfl) dD_init_11 (fun H locs hP hD hS => ?_)
  obtain ⟨hP, hD⟩ : xPD D xcl A [(a0, .inr (4, [v3, v4, .int 0, .int (-1)]))] H := ⟨hP, hD⟩
  refine lv_aload_n hx hb dD_init_14 rfl (lv_at hl 0 rfl) ?_
  refine lv_aload_n hx hb dD_init_15 rfl (lv_at hl 1 rfl) ?_
  refine va_putF (D := D) (ci := 4) (v := .ref b1) (ty := (.object "ValueBench$Text")) (C := "ValueBench$Reader") (T := TD) (N := 4) hx hb htx inD tyD tyD_ok nmD hown hK hP hD hS 0 rfl rfl 0 (by decide) (htx _ kw_2_29) (fun _ h9 => h9) rfl hin rfl (by decide +kernel) rfl rfl (Nat.le_of_ble_eq_true rfl) dD_init_16 (fun H locs hP hD hS => ?_)
  obtain ⟨hP, hD⟩ : xPD D xcl A [(a0, .inr (4, [.ref b1, v4, .int 0, .int (-1)]))] H := ⟨hP, hD⟩
  refine lv_aload_n hx hb dD_init_19 rfl (lv_at hl 0 rfl) ?_
  refine lv_aload_n hx hb dD_init_20 rfl (lv_at hl 2 rfl) ?_
  refine va_putF (D := D) (ci := 4) (v := .ref b2) (ty := (.object "ValueBench$Row")) (C := "ValueBench$Reader") (T := TD) (N := 4) hx hb htx inD tyD tyD_ok nmD hown hK hP hD hS 0 rfl rfl 1 (by decide) (htx _ kw_2_30) (fun _ h9 => h9) rfl hin rfl (by decide +kernel) rfl rfl (Nat.le_of_ble_eq_true rfl) dD_init_21 (fun H locs hP hD hS => ?_)
  obtain ⟨hP, hD⟩ : xPD D xcl A [(a0, .inr (4, [.ref b1, .ref b2, .int 0, .int (-1)]))] H := ⟨hP, hD⟩
  obtain ⟨hP9, hD9⟩ := xsub (wc := [(a0, .inr (4, [.ref b1, .ref b2, .int 0, .int (-1)]))]) hP hD [0] rfl rfl (by decide)
  refine W.widen (k := 0) (n := 0) (Nat.le_of_ble_eq_true rfl) (Nat.le_of_ble_eq_true rfl) ?_
  exact W.vret hx hb hr (fun t ht hW => ⟨⟨(), rfl, trivial, by rw [ht]; exact hP9, va_K.moved hW.alike hK, hD9⟩, hS.F ht⟩) hS.2.2 dD_init_24
set_option maxHeartbeats 400000000 in
set_option maxRecDepth 100000 in
theorem cD_skipBlanks_0 (l : Launch) (hl9 : l.stackTraces = false) (D : va_G) (cT : Nat → ClassId) (aK aV : Nat → Nat) (sz : Nat) (a0 : Nat) (a1 : Nat) (v2 : Value) (v3 : Value) (v4 : Value) (v5 : Value) : xMet l yD_skipBlanks wyD_skipBlanks 1 0 0 20 D cT aK aV sz [.ref a0] [(a0, .inr (4, [.ref a1, v2, .int 0, v3])), (a1, .inr (1, [v4, .int 0, v5]))] (fun A => va_Qv (fun _ : Unit => True) (fun _ t => xB D xcl cT A [(a0, .inr (4, [.ref a1, v2, .int 0, v3])), (a1, .inr (1, [v4, .int 0, v5]))] t) A) := by
  refine Met.ofW (cc := prog_7_method_8_code) (maxL := 1) (ret := none) (by decide) rfl ?_
  intro p e s m args below meth c s₁ B hml hv
  obtain ⟨rfl, hsz, hZ, hP, hK, hD0⟩ := hv
  have hx := B.exec
  have hb := B.bytes
  have hr := B.returns
  have hts := atoms_spec (ws := wyD_skipBlanks) B.pre
  have htx := fun w h => hts w (List.mem_cons_of_mem _ h)
  have hown : s.vm.findClass "ValueBench$Reader" = some m.cls := findClass_of_methodNamed B.named
  have hlocks := B.notSynchronized
  subst hsz
  have hD := hD0.self (sz := s.heap.size)
  generalize hAe : va_A [(a0, .inr (4, [.ref a1, v2, .int 0, v3])), (a1, .inr (1, [v4, .int 0, v5]))] s.heap.size = A at hD hZ ⊢
  have hA : ∀ q : Nat, s.heap.size ≤ q → A q := fun q h => by rw [← hAe]; exact Or.inr h
  have hS : va_S A s.heap s.heap [] := va_S.rf
  have hP : va_P D xcl [(a0, .inr (4, [.ref a1, v2, .int 0, v3])), (a1, .inr (1, [v4, .int 0, v5]))] s.heap := hP
  have hl := lv_entry ([.ref a0]) (n := 1) (Nat.le_of_ble_eq_true rfl)
  rw [lg_entry_eq]
  generalize (lg_sl ([.ref a0]) ++ List.replicate (1 - (lg_sl ([.ref a0])).length) Slot.unset).toArray = ls at hl ⊢
  have hl : lv_has ls 1 [(0, .ref a0)] := hl
  refine lv_aload_n hx hb dD_skipBlanks_0 rfl (lv_at hl 0 rfl) ?_
  refine va_get (D := D) (ci := 4) (v := .int 0) (C := "ValueBench$Reader") (T := TD) (N := 4) hx hb htx inD hown hK hP 0 rfl rfl 2 (by decide) (htx _ kw_2_31) (fun _ h9 => h9) rfl dD_skipBlanks_1 ?_
  refine lv_aload_n hx hb dD_skipBlanks_4 rfl (lv_at hl 0 rfl) ?_
  refine va_get (D := D) (ci := 4) (v := .ref a1) (C := "ValueBench$Reader") (T := TD) (N := 4) hx hb htx inD hown hK hP 0 rfl rfl 0 (by decide) (htx _ kw_2_29) (fun _ h9 => h9) rfl dD_skipBlanks_5 ?_
  obtain ⟨hPc, hDc, hFc⟩ := xcut (wc := [(a1, .inr (1, [v4, .int 0, v5]))]) hP hD hS hA [1] rfl rfl (by decide)
  refine va_calli (va_runV (C := "ValueBench$Text") (As := []) (rest := [.int 0]) ⟨hx, hb, hml, hown, htx⟩ (cT_size_0 l hl9 D cT aK aV s.heap.size a1 v4 v5) ⟨callB_of 0 htx (xw_goodC kw_1_131) rfl rfl rfl (htx _ kw_1_2) (htx _ kw_2_54) ⟨by decide, by decide, by decide +kernel⟩ ⟨Nat.le_of_ble_eq_true rfl, Nat.le_of_ble_eq_true rfl⟩, (htx _ kw_1_129), (htx _ kw_1_130)⟩ ⟨xPre_blind, va_recv hK hP (ci := 1) rfl (q0 := 1) rfl, (fun U hU hW => ⟨rfl, xPre_of hZ hS hFc hPc hDc hK U hU hW⟩)⟩ rfl rfl hl.1 rfl (lv_room (Nat.le_of_ble_eq_true rfl)) dD_skipBlanks_8 ⟨Nat.le_of_ble_eq_true rfl, Nat.le_of_ble_eq_true rfl⟩) hS (fun q _ h => hFc q h) hFc (fun r1 u9 t H1 locs ht hvm hr9 hB hz1 hk1 hS => ?_)
  obtain ⟨hP1, hK1, hD1⟩ := hB
  rw [ht] at hP1
  obtain ⟨hP, hD⟩ := xjoin (W := [(a0, .inr (4, [.ref a1, v2, .int 0, v3])), (a1, .inr (1, [v4, .int 0, v5]))]) hP hD [1] [0] 1 rfl rfl (by decide) (by decide) hk1 hFc hP1 hD1
  generalize H1 = H at hP hS ⊢
  rw [hr9]
  refine W.eq (g2 := F0 m 11 ls [.int 0, .int 0]) rfl ?_
  refine lv_icmp_ge (tgt := 44) hx hb dD_skipBlanks_11 (by decide) (fun _ => ?_) (fun h => ((by revert h; decide : False)).elim)
  obtain ⟨hP9, hD9⟩ := xsub (wc := [(a0, .inr (4, [.ref a1, v2, .int 0, v3])), (a1, .inr (1, [v4, .int 0, v5]))]) hP hD [0, 1] rfl rfl (by decide)
  refine W.widen (k := 0) (n := 0) (Nat.le_of_ble_eq_true rfl) (Nat.le_of_ble_eq_true rfl) ?_
  exact W.vret hx hb hr (fun t ht hW => ⟨⟨(), rfl, trivial, by rw [ht]; exact hP9, va_K.moved hW.alike hK, hD9⟩, hS.F ht⟩) hS.2.2 dD_skipBlanks_44
set_option maxHeartbeats 400000000 in
set_option maxRecDepth 100000 in
theorem cT_at_0 (l : Launch) (hl9 : l.stackTraces = false) (D : va_G) (cT : Nat → ClassId) (aK aV : Nat → Nat) (sz : Nat) (a0 : Nat) (v1 : Value) (v2 : Value) : xMet l yT_at wyT_at 0 0 0 0 D cT aK aV sz [.ref a0, .int 0] [(a0, .inr (1, [v1, .int 0, v2]))] (fun A => va_Qi (fun (r : Int32) (_ : Unit) => r = (-1)) (fun _ t => xB D xcl cT A [(a0, .inr (1, [v1, .int 0, v2]))] t) A) := by
  refine Met.ofW (cc := prog_11_method_7_code) (maxL := 2) (ret := (some .int)) (by decide) rfl ?_
  intro p e s m args below meth c s₁ B hml hv
  obtain ⟨rfl, hsz, hZ, hP, hK, hD0⟩ := hv
  have hx := B.exec
  have hb := B.bytes
  have hr := B.returns
  have hts := atoms_spec (ws := wyT_at) B.pre
  have htx := fun w h => hts w (List.mem_cons_of_mem _ h)
  have hown : s.vm.findClass "ValueBench$Text" = some m.cls := findClass_of_methodNamed B.named
  have hlocks := B.notSynchronized
  subst hsz
  have hD := hD0.self (sz := s.heap.size)
  generalize hAe : va_A [(a0, .inr (1, [v1, .int 0, v2]))] s.heap.size = A at hD hZ ⊢
  have hA : ∀ q : Nat, s.heap.size ≤ q → A q := fun q h => by rw [← hAe]; exact Or.inr h
  have hS : va_S A s.heap s.heap [] := va_S.rf
  have hP : va_P D xcl [(a0, .inr (1, [v1, .int 0, v2]))] s.heap := hP
  have hl := lv_entry ([.ref a0, .int 0]) (n := 2) (Nat.le_of_ble_eq_true rfl)
  rw [lg_entry_eq]
  generalize (lg_sl ([.ref a0, .int 0]) ++ List.replicate (2 - (lg_sl ([.ref a0, .int 0])).length) Slot.unset).toArray = ls at hl ⊢
  have hl : lv_has ls 2 [(0, .ref a0), (1, .int 0)] := hl
  refine lv_iload_n hx hb dT_at_0 rfl (lv_at hl 1 rfl) ?_
  refine lv_if_lt (tgt := 25) hx hb dT_at_1 (by decide) (fun h => ((by revert h; decide : False)).elim) (fun _ => ?_)
  refine lv_iload_n hx hb dT_at_4 rfl (lv_at hl 1 rfl) ?_
  refine lv_aload_n hx hb dT_at_5 rfl (lv_at hl 0 rfl) ?_
  refine va_get (D := D) (ci := 1) (v := .int 0) (C := "ValueBench$Text") (T := TT) (N := 3) hx hb htx inT hown hK hP 0 rfl rfl 1 (by decide) (htx _ kw_1_44) (fun _ h9 => h9) rfl dT_at_6 ?_
  refine lv_icmp_ge (tgt := 25) hx hb dT_at_9 (by decide) (fun _ => ?_) (fun h => ((by revert h; decide : False)).elim)
  refine lv_iconst (v := (-1)) hx hb dT_at_25 (by decide) ?_
  obtain ⟨hP9, hD9⟩ := xsub (wc := [(a0, .inr (1, [v1, .int 0, v2]))]) hP hD [0] rfl rfl (by decide)
  refine W.widen (k := 0) (n := 0) (Nat.le_of_ble_eq_true rfl) (Nat.le_of_ble_eq_true rfl) ?_
  exact W.iret (v := (-1)) hx hb hr (fun t ht hW => ⟨⟨(-1), (), rfl, rfl, by rw [ht]; exact hP9, va_K.moved hW.alike hK, hD9⟩, hS.F ht⟩) hS.2.2 dT_at_26
set_option maxHeartbeats 400000000 in
set_option maxRecDepth 100000 in
theorem cD_isDigit_0 (l : Launch) (hl9 : l.stackTraces = false) (D : va_G) (cT : Nat → ClassId) (aK aV : Nat → Nat) (sz : Nat) : xMet l yD_isDigit wyD_isDigit 0 0 0 0 D cT aK aV sz [.int (-1)] [] (fun A => va_Qi (fun (r : Int32) (_ : Unit) => r = 0) (fun _ t => xB D xcl cT A [] t) A) := by
  refine Met.ofW (cc := prog_7_method_13_code) (maxL := 1) (ret := (some .boolean)) (by decide) rfl ?_
  intro p e s m args below meth c s₁ B hml hv
  obtain ⟨rfl, hsz, hZ, hP, hK, hD0⟩ := hv
  have hx := B.exec
  have hb := B.bytes
  have hr := B.returns
  have hts := atoms_spec (ws := wyD_isDigit) B.pre
  have htx := fun w h => hts w (List.mem_cons_of_mem _ h)
  have hown : s.vm.findClass "ValueBench$Reader" = some m.cls := findClass_of_methodNamed B.named
  have hlocks := B.notSynchronized
  subst hsz
  have hD := hD0.self (sz := s.heap.size)
  generalize hAe : va_A [] s.heap.size = A at hD hZ ⊢
  have hA : ∀ q : Nat, s.heap.size ≤ q → A q := fun q h => by rw [← hAe]; exact Or.inr h
  have hS : va_S A s.heap s.heap [] := va_S.rf
  have hP : va_P D xcl [] s.heap := hP
  have hl := lv_entry ([.int (-1)]) (n := 1) (Nat.le_of_ble_eq_true rfl)
  rw [lg_entry_eq]
  generalize (lg_sl ([.int (-1)]) ++ List.replicate (1 - (lg_sl ([.int (-1)])).length) Slot.unset).toArray = ls at hl ⊢
  have hl : lv_has ls 1 [(0, .int (-1))] := hl
  refine lv_iload_n hx hb dD_isDigit_0 rfl (lv_at hl 0 rfl) ?_
  refine lv_bipush (v := 48) hx hb dD_isDigit_1 (by decide) ?_
  refine lv_icmp_lt (tgt := 16) hx hb dD_isDigit_3 (by decide) (fun _ => ?_) (fun h => ((by revert h; decide : False)).elim)
  refine lv_iconst (v := 0) hx hb dD_isDigit_16 (by decide) ?_
  obtain ⟨hP9, hD9⟩ := xsub (wc := []) hP hD [] rfl rfl (by decide)
  refine W.widen (k := 0) (n := 0) (Nat.le_of_ble_eq_true rfl) (Nat.le_of_ble_eq_true rfl) ?_
  exact W.zret (v := 0) hx hb hr rfl (fun t ht hW => ⟨⟨0, (), rfl, rfl, by rw [ht]; exact hP9, va_K.moved hW.alike hK, hD9⟩, hS.F ht⟩) hS.2.2 dD_isDigit_17
set_option maxHeartbeats 400000000 in
set_option maxRecDepth 100000 in
theorem cD_broken_0 (l : Launch) (hl9 : l.stackTraces = false) (D : va_G) (cT : Nat → ClassId) (aK aV : Nat → Nat) (sz : Nat) (a0 : Nat) (v1 : Value) (v2 : Value) (v3 : Value) (v4 : Value) : xMet l yD_broken wyD_broken 0 0 0 0 D cT aK aV sz [.ref a0, .int 0] [(a0, .inr (4, [v1, v2, v3, v4]))] (fun A => va_Qi (fun (r : Int32) (_ : Unit) => r = 0) (fun _ t => xB D xcl cT A [(a0, .inr (4, [v1, v2, v3, .int 0]))] t) A) := by
  refine Met.ofW (cc := prog_7_method_5_code) (maxL := 2) (ret := (some .boolean)) (by decide) rfl ?_
  intro p e s m args below meth c s₁ B hml hv
  obtain ⟨rfl, hsz, hZ, hP, hK, hD0⟩ := hv
  have hx := B.exec
  have hb := B.bytes
  have hr := B.returns
  have hts := atoms_spec (ws := wyD_broken) B.pre
  have htx := fun w h => hts w (List.mem_cons_of_mem _ h)
  have hown : s.vm.findClass "ValueBench$Reader" = some m.cls := findClass_of_methodNamed B.named
  have hlocks := B.notSynchronized
  subst hsz
  have hD := hD0.self (sz := s.heap.size)
  generalize hAe : va_A [(a0, .inr (4, [v1, v2, v3, v4]))] s.heap.size = A at hD hZ ⊢
  have hA : ∀ q : Nat, s.heap.size ≤ q → A q := fun q h => by rw [← hAe]; exact Or.inr h
  have hS : va_S A s.heap s.heap [] := va_S.rf
  have hP : va_P D xcl [(a0, .inr (4, [v1, v2, v3, v4]))] s.heap := hP
  have hl := lv_entry ([.ref a0, .int 0]) (n := 2) (Nat.le_of_ble_eq_true rfl)
  rw [lg_entry_eq]
  generalize (lg_sl ([.ref a0, .int 0]) ++ List.replicate (2 - (lg_sl ([.ref a0, .int 0])).length) Slot.unset).toArray = ls at hl ⊢
  have hl : lv_has ls 2 [(0, .ref a0), (1, .int 0)] := hl
  refine lv_aload_n hx hb dD_broken_0 rfl (lv_at hl 0 rfl) ?_
  refine lv_iload_n hx hb dD_broken_1 rfl (lv_at hl 1 rfl) ?_
  refine va_put (D := D) (ci := 4) (v := .int 0) (ty := .int) (C := "ValueBench$Reader") (T := TD) (N := 4) hx hb htx inD tyD tyD_ok nmD hown hK hP hD hS 0 rfl rfl 3 (by decide) (htx _ kw_2_32) (fun _ h9 => h9) rfl (by decide +kernel) rfl rfl (Nat.le_of_ble_eq_true rfl) dD_broken_2 (fun H locs hP hD hS => ?_)
  obtain ⟨hP, hD⟩ : xPD D xcl A [(a0, .inr (4, [v1, v2, v3, .int 0]))] H := ⟨hP, hD⟩
  refine lv_iconst (v := 0) hx hb dD_broken_5 (by decide) ?_
  obtain ⟨hP9, hD9⟩ := xsub (wc := [(a0, .inr (4, [v1, v2, v3, .int 0]))]) hP hD [0] rfl rfl (by decide)
  refine W.widen (k := 0) (n := 0) (Nat.le_of_ble_eq_true rfl) (Nat.le_of_ble_eq_true rfl) ?_
  exact W.zret (v := 0) hx hb hr rfl (fun t ht hW => ⟨⟨0, (), rfl, rfl, by rw [ht]; exact hP9, va_K.moved hW.alike hK, hD9⟩, hS.F ht⟩) hS.2.2 dD_broken_6
