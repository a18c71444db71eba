set_option maxHeartbeats 400000000 in
set_option maxRecDepth 100000 in
theorem cP_write_4 (l : Launch) (hl9 : l.stackTraces = false) (D : va_G) (cT : Nat → ClassId) (aK aV : Nat → Nat) (sz : Nat) (a0 : Nat) (a1 : Nat) (a2 : Nat) (a3 : Nat) (x4 : Int32) (v5 : Value) (f6 : Nat → Int64) (v12 : Value) (f13 : Nat → Int32) (h7 : f6 0 = 2621476) (h8 : f6 1 = 110) (h9 : f6 2 = 117) (h10 : f6 3 = 108) (h11 : f6 4 = 108) : xMet l yP_write wyP_write 3 0 0 66 D cT aK aV sz [.ref a0, .int 0, .ref a2, .int x4] [(a0, .inr (2, [.ref a1, .int 5, v5])), (a1, .inl (cT 2, 4096, .inr (.inl f6))), (a2, .inr (1, [.ref a3, .int 0, v12])), (a3, .inl (cT 0, 4096, .inl f13))] (fun A => va_Qv (fun _ : Unit => True) (fun _ t => ∃ (y2 : Int32) (y3 : Int32) (y4 : Int32) (y5 : Int32) (y6 : Int32) (y7 : Int32), xB D xcl cT A [(a0, .inr (2, [.ref a1, .int 5, v5])), (a1, .inl (cT 2, 4096, .inr (.inl f6))), (a2, .inr (1, [.ref a3, .int 6, v12])), (a3, .inl (cT 0, 4096, .inl (upd (upd (upd (upd (upd (upd f13 0 (vp_nar .byte y2)) 1 (vp_nar .byte y3)) 2 (vp_nar .byte y4)) 3 (vp_nar .byte y5)) 4 (vp_nar .byte y6)) 5 (vp_nar .byte y7))))] t) A) := by
  refine Met.ofW (cc := prog_6_method_2_code) (maxL := 4) (ret := none) (by decide) rfl ?_
  intro p e s m args below meth c s₁ B hml hv
  obtain ⟨rfl, hsz, hZ, hP, hK, hD0⟩ := hv
  have hx := B.exec
  have hb := B.bytes
  have hr := B.returns
  have hts := atoms_spec (ws := wyP_write) B.pre
  have htx := fun w h => hts w (List.mem_cons_of_mem _ h)
  have hown : s.vm.findClass "ValueBench$Printer" = some m.cls := findClass_of_methodNamed B.named
  have hlocks := B.notSynchronized
  subst hsz
  have hD := hD0.self (sz := s.heap.size)
  generalize hAe : va_A [(a0, .inr (2, [.ref a1, .int 5, v5])), (a1, .inl (cT 2, 4096, .inr (.inl f6))), (a2, .inr (1, [.ref a3, .int 0, v12])), (a3, .inl (cT 0, 4096, .inl f13))] s.heap.size = A at hD hZ ⊢
  have hA : ∀ q : Nat, s.heap.size ≤ q → A q := fun q h => by rw [← hAe]; exact Or.inr h
  have hS : va_S A s.heap s.heap [] := va_S.rf
  have hP : va_P D xcl [(a0, .inr (2, [.ref a1, .int 5, v5])), (a1, .inl (cT 2, 4096, .inr (.inl f6))), (a2, .inr (1, [.ref a3, .int 0, v12])), (a3, .inl (cT 0, 4096, .inl f13))] s.heap := hP
  have hl := lv_entry ([.ref a0, .int 0, .ref a2, .int x4]) (n := 4) (Nat.le_of_ble_eq_true rfl)
  rw [lg_entry_eq]
  generalize (lg_sl ([.ref a0, .int 0, .ref a2, .int x4]) ++ List.replicate (4 - (lg_sl ([.ref a0, .int 0, .ref a2, .int x4])).length) Slot.unset).toArray = ls at hl ⊢
  have hl : lv_has ls 4 [(0, .ref a0), (1, .int 0), (2, .ref a2), (3, .int x4)] := hl
  refine lv_aload_n hx hb dP_write_0 rfl (lv_at hl 0 rfl) ?_
  refine lv_iload_n hx hb dP_write_1 rfl (lv_at hl 1 rfl) ?_
  obtain ⟨hPc, hDc, hFc⟩ := xcut (wc := [(a0, .inr (2, [.ref a1, .int 5, v5])), (a1, .inl (cT 2, 4096, .inr (.inl f6)))]) hP hD hS hA [0, 1] rfl rfl (by decide)
  refine va_calli (va_runV (C := "ValueBench$Row") (As := [.int 0]) (rest := []) ⟨hx, hb, hml, hown, htx⟩ (cR_kind_3 l hl9 D cT aK aV s.heap.size a0 a1 v5 f6 (by first | rfl | exact h7 | exact h8 | exact h9 | exact h10 | exact h11)) ⟨callB_of 1 htx (xw_goodC kw_3_24) rfl rfl rfl (htx _ kw_1_4) (htx _ kw_3_21) ⟨by decide, by decide, by decide +kernel⟩ ⟨Nat.le_of_ble_eq_true rfl, Nat.le_of_ble_eq_true rfl⟩, (htx _ kw_3_22), (htx _ kw_3_23)⟩ ⟨xPre_blind, va_recv hK hP (ci := 2) rfl (q0 := 0) rfl, (fun U hU hW => ⟨rfl, xPre_of hZ hS hFc hPc hDc hK U hU hW⟩)⟩ rfl rfl hl.1 rfl (lv_room (Nat.le_of_ble_eq_true rfl)) dP_write_2 ⟨Nat.le_of_ble_eq_true rfl, Nat.le_of_ble_eq_true rfl⟩) hS (fun q _ h => hFc q h) hFc (fun r1 u9 t H1 locs ht hvm hr9 hB hz1 hk1 hS => ?_)
  obtain ⟨hP1, hK1, hD1⟩ := hB
  rw [ht] at hP1
  obtain ⟨hP, hD⟩ := xjoin (W := [(a2, .inr (1, [.ref a3, .int 0, v12])), (a3, .inl (cT 0, 4096, .inl f13)), (a0, .inr (2, [.ref a1, .int 5, v5])), (a1, .inl (cT 2, 4096, .inr (.inl f6)))]) hP hD [0, 1] [2, 3] 2 rfl rfl (by decide) (by decide) hk1 hFc hP1 hD1
  generalize H1 = H at hP hS ⊢
  rw [hr9]
  refine W.eq (g2 := F0 m 5 ls [.int 4]) rfl ?_
  refine lv_tableIn (off := 74) (tgt := 79) hx hb dP_write_5 (by decide) (by decide) (by decide) (by decide) ?_
  refine lv_aload_n hx hb dP_write_79 rfl (lv_at hl 0 rfl) ?_
  refine lv_iload_n hx hb dP_write_80 rfl (lv_at hl 1 rfl) ?_
  refine lv_aload_n hx hb dP_write_81 rfl (lv_at hl 2 rfl) ?_
  obtain ⟨hPc, hDc, hFc⟩ := xcut (wc := [(a2, .inr (1, [.ref a3, .int 0, v12])), (a3, .inl (cT 0, 4096, .inl f13)), (a0, .inr (2, [.ref a1, .int 5, v5])), (a1, .inl (cT 2, 4096, .inr (.inl f6)))]) hP hD hS hA [0, 1, 2, 3] rfl rfl (by decide)
  refine va_callv (va_runS (As := [.ref a0, .int 0, .ref a2]) (rest := []) ⟨hx, hb, hml, hown, htx⟩ (cP_writeString_0 l hl9 D cT aK aV H.size a2 a3 a0 a1 v12 f13 v5 f6 (by first | rfl | exact h7 | exact h8 | exact h9 | exact h10 | exact h11) (by first | rfl | exact h7 | exact h8 | exact h9 | exact h10 | exact h11) (by first | rfl | exact h7 | exact h8 | exact h9 | exact h10 | exact h11) (by first | rfl | exact h7 | exact h8 | exact h9 | exact h10 | exact h11) (by first | rfl | exact h7 | exact h8 | exact h9 | exact h10 | exact h11)) ⟨callB_of 3 htx (xw_goodC kw_3_50) rfl rfl rfl (htx _ kw_1_18) (htx _ kw_3_48) ⟨by decide, by decide, by decide +kernel⟩ ⟨Nat.le_of_ble_eq_true rfl, Nat.le_of_ble_eq_true rfl⟩, htx _ kw_3_49⟩ ⟨xPre_blind, (fun U hU hW => ⟨rfl, xPre_of hZ hS hFc hPc hDc hK U hU hW⟩)⟩ rfl rfl hl.1 rfl (lv_room (Nat.le_of_ble_eq_true rfl)) dP_write_82 ⟨Nat.le_of_ble_eq_true rfl, Nat.le_of_ble_eq_true rfl⟩) hS (fun q _ h => hFc q h) hFc (fun u9 t H1 locs ht hvm hr9 hB hz1 hk1 hS => ?_)
  obtain ⟨y2, y3, y4, y5, y6, y7, hP1, hK1, hD1⟩ := hB
  rw [ht] at hP1
  obtain ⟨hP, hD⟩ := xjoin (W := [(a2, .inr (1, [.ref a3, .int 6, v12])), (a3, .inl (cT 0, 4096, .inl (upd (upd (upd (upd (upd (upd f13 0 (vp_nar .byte y2)) 1 (vp_nar .byte y3)) 2 (vp_nar .byte y4)) 3 (vp_nar .byte y5)) 4 (vp_nar .byte y6)) 5 (vp_nar .byte y7)))), (a0, .inr (2, [.ref a1, .int 5, v5])), (a1, .inl (cT 2, 4096, .inr (.inl f6)))]) hP hD [0, 1, 2, 3] [] 0 rfl rfl (by decide) (by decide) hk1 hFc hP1 hD1
  generalize H1 = H at hP hS ⊢
  refine lv_goto (tgt := 95) hx hb dP_write_85 (by decide) ?_
  obtain ⟨hP9, hD9⟩ := xsub (wc := [(a0, .inr (2, [.ref a1, .int 5, v5])), (a1, .inl (cT 2, 4096, .inr (.inl f6))), (a2, .inr (1, [.ref a3, .int 6, v12])), (a3, .inl (cT 0, 4096, .inl (upd (upd (upd (upd (upd (upd f13 0 (vp_nar .byte y2)) 1 (vp_nar .byte y3)) 2 (vp_nar .byte y4)) 3 (vp_nar .byte y5)) 4 (vp_nar .byte y6)) 5 (vp_nar .byte y7))))]) hP hD [2, 3, 0, 1] rfl rfl (by decide)
  refine W.widen (k := 0) (n := 0) (Nat.le_of_ble_eq_true rfl) (Nat.le_of_ble_eq_true rfl) ?_
  exact W.vret hx hb hr (fun t ht hW => ⟨⟨(), rfl, trivial, y2, y3, y4, y5, y6, y7, by rw [ht]; exact hP9, va_K.moved hW.alike hK, hD9⟩, hS.F ht⟩) hS.2.2 dP_write_95
set_option maxHeartbeats 400000000 in
set_option maxRecDepth 100000 in
theorem cB_keepSpare_2 (l : Launch) (hl9 : l.stackTraces = false) (D : va_G) (cT : Nat → ClassId) (aK aV : Nat → Nat) (sz : Nat) (a0 : Nat) (a1 : Nat) (a2 : Nat) (a3 : Nat) (a4 : Nat) (a5 : Nat) (x6 : Int32) (v11 : Value) (v12 : Value) (v13 : Value) (v14 : Value) (v15 : Value) (v16 : Value) (v17 : Value) (f18 : Nat → Int64) (f24 : Nat → Int32) (f25 : Nat → Option Nat) (b26 : Nat) (h7 : ¬ x6 < 0) (h8 : ¬ 7 < x6) (h9 : x6 ≤ 7) (h10 : vp_in x6 8) (h19 : f18 0 = 2621476) (h20 : f18 1 = 110) (h21 : f18 2 = 117) (h22 : f18 3 = 108) (h23 : f18 4 = 108) (h27 : f25 x6.toNatClampNeg = some b26) : xMet l yB_keepSpare wyB_keepSpare 4 0 0 89 D cT aK aV sz [.ref a0, .int x6] [(a0, .inr (0, [v11, v12, .ref a1, .ref a5, v13, .ref a2, v14, v15])), (a1, .inr (1, [.ref a4, v16, v17])), (a2, .inr (2, [.ref a3, .int 5, .int 0])), (a3, .inl (cT 2, 4096, .inr (.inl f18))), (a4, .inl (cT 0, 4096, .inl f24)), (a5, .inl (cT 3, 8, .inr (.inr (.inr (.inr f25)))))] (fun A => va_Qi (fun (r : Int32) (_ : Unit) => r = 6) (fun _ t => ∃ (y1 : Int32) (y2 : Int32) (y3 : Int32) (y4 : Int32) (y5 : Int32) (y6 : Int32), xB D xcl cT A [(a0, .inr (0, [v11, v12, .ref a1, .ref a5, v13, .ref b26, v14, v15])), (a1, .inr (1, [.ref a4, .int 6, .int 0])), (a2, .inr (2, [.ref a3, .int 5, .int 0])), (a3, .inl (cT 2, 4096, .inr (.inl f18))), (a4, .inl (cT 0, 4096, .inl (upd (upd (upd (upd (upd (upd f24 0 (vp_nar .byte y1)) 1 (vp_nar .byte y2)) 2 (vp_nar .byte y3)) 3 (vp_nar .byte y4)) 4 (vp_nar .byte y5)) 5 (vp_nar .byte y6)))), (a5, .inl (cT 3, 8, .inr (.inr (.inr (.inr (va_up f25 x6.toNatClampNeg (some a2)))))))] t) A) := by
  refine Met.ofW (cc := prog_1_method_18_code) (maxL := 3) (ret := (some .int)) (by decide) rfl ?_
  intro p e s m args below meth c s₁ B hml hv
  obtain ⟨rfl, hsz, hZ, hP, hK, hD0⟩ := hv
  have hx := B.exec
  have hb := B.bytes
  have hr := B.returns
  have hts := atoms_spec (ws := wyB_keepSpare) B.pre
  have htx := fun w h => hts w (List.mem_cons_of_mem _ h)
  have hown : s.vm.findClass "ValueBench" = some m.cls := findClass_of_methodNamed B.named
  have hlocks := B.notSynchronized
  subst hsz
  have hD := hD0.self (sz := s.heap.size)
  generalize hAe : va_A [(a0, .inr (0, [v11, v12, .ref a1, .ref a5, v13, .ref a2, v14, v15])), (a1, .inr (1, [.ref a4, v16, v17])), (a2, .inr (2, [.ref a3, .int 5, .int 0])), (a3, .inl (cT 2, 4096, .inr (.inl f18))), (a4, .inl (cT 0, 4096, .inl f24)), (a5, .inl (cT 3, 8, .inr (.inr (.inr (.inr f25)))))] s.heap.size = A at hD hZ ⊢
  have hA : ∀ q : Nat, s.heap.size ≤ q → A q := fun q h => by rw [← hAe]; exact Or.inr h
  have hS : va_S A s.heap s.heap [] := va_S.rf
  have hP : va_P D xcl [(a0, .inr (0, [v11, v12, .ref a1, .ref a5, v13, .ref a2, v14, v15])), (a1, .inr (1, [.ref a4, v16, v17])), (a2, .inr (2, [.ref a3, .int 5, .int 0])), (a3, .inl (cT 2, 4096, .inr (.inl f18))), (a4, .inl (cT 0, 4096, .inl f24)), (a5, .inl (cT 3, 8, .inr (.inr (.inr (.inr f25)))))] s.heap := hP
  have hl := lv_entry ([.ref a0, .int x6]) (n := 3) (Nat.le_of_ble_eq_true rfl)
  rw [lg_entry_eq]
  generalize (lg_sl ([.ref a0, .int x6]) ++ List.replicate (3 - (lg_sl ([.ref a0, .int x6])).length) Slot.unset).toArray = ls at hl ⊢
  have hl : lv_has ls 3 [(0, .ref a0), (1, .int x6)] := hl
  refine lv_aload_n hx hb dB_keepSpare_0 rfl (lv_at hl 0 rfl) ?_
  refine va_get (D := D) (ci := 0) (v := .ref a1) (C := "ValueBench") (T := TB) (N := 8) hx hb htx inB hown hK hP 0 rfl rfl 2 (by decide) (htx _ kw_1_97) (fun _ h9 => h9) rfl dB_keepSpare_1 ?_
  obtain ⟨hPc, hDc, hFc⟩ := xcut (wc := [(a1, .inr (1, [.ref a4, v16, v17]))]) hP hD hS hA [1] rfl rfl (by decide)
  refine va_callv (va_runV (C := "ValueBench$Text") (As := []) (rest := []) ⟨hx, hb, hml, hown, htx⟩ (cT_clear_0 l hl9 D cT aK aV s.heap.size a1 (.ref a4) v16 v17) ⟨callB_of 0 htx (xw_goodC kw_2_237) rfl rfl rfl (htx _ kw_1_2) (htx _ kw_2_234) ⟨by decide, by decide, by decide +kernel⟩ ⟨Nat.le_of_ble_eq_true rfl, Nat.le_of_ble_eq_true rfl⟩, (htx _ kw_2_235), (htx _ kw_2_236)⟩ ⟨xPre_blind, va_recv hK hP (ci := 1) rfl (q0 := 1) rfl, (fun U hU hW => ⟨rfl, xPre_of hZ hS hFc hPc hDc hK U hU hW⟩)⟩ rfl rfl hl.1 rfl (lv_room (Nat.le_of_ble_eq_true rfl)) dB_keepSpare_4 ⟨Nat.le_of_ble_eq_true rfl, Nat.le_of_ble_eq_true rfl⟩) hS (fun q _ h => hFc q h) hFc (fun u9 t H1 locs ht hvm hr9 hB hz1 hk1 hS => ?_)
  obtain ⟨hP1, hK1, hD1⟩ := hB
  rw [ht] at hP1
  obtain ⟨hP, hD⟩ := xjoin (W := [(a0, .inr (0, [v11, v12, .ref a1, .ref a5, v13, .ref a2, v14, v15])), (a2, .inr (2, [.ref a3, .int 5, .int 0])), (a3, .inl (cT 2, 4096, .inr (.inl f18))), (a4, .inl (cT 0, 4096, .inl f24)), (a5, .inl (cT 3, 8, .inr (.inr (.inr (.inr f25))))), (a1, .inr (1, [.ref a4, .int 0, .int 0]))]) hP hD [1] [0, 2, 3, 4, 5] 5 rfl rfl (by decide) (by decide) hk1 hFc hP1 hD1
  generalize H1 = H at hP hS ⊢
  refine lv_aload_n hx hb dB_keepSpare_7 rfl (lv_at hl 0 rfl) ?_
  refine va_get (D := D) (ci := 0) (v := .ref a2) (C := "ValueBench") (T := TB) (N := 8) hx hb htx inB hown hK hP 0 rfl rfl 5 (by decide) (htx _ kw_1_100) (fun _ h9 => h9) rfl dB_keepSpare_8 ?_
  refine lv_iconst (v := 0) hx hb dB_keepSpare_11 (by decide) ?_
  refine lv_aload_n hx hb dB_keepSpare_12 rfl (lv_at hl 0 rfl) ?_
  refine va_get (D := D) (ci := 0) (v := .ref a1) (C := "ValueBench") (T := TB) (N := 8) hx hb htx inB hown hK hP 0 rfl rfl 2 (by decide) (htx _ kw_1_97) (fun _ h9 => h9) rfl dB_keepSpare_13 ?_
  refine lv_iconst (v := 0) hx hb dB_keepSpare_16 (by decide) ?_
  obtain ⟨hPc, hDc, hFc⟩ := xcut (wc := [(a2, .inr (2, [.ref a3, .int 5, .int 0])), (a3, .inl (cT 2, 4096, .inr (.inl f18))), (a1, .inr (1, [.ref a4, .int 0, .int 0])), (a4, .inl (cT 0, 4096, .inl f24))]) hP hD hS hA [1, 2, 5, 3] rfl rfl (by decide)
  refine va_callv (va_runS (As := [.ref a2, .int 0, .ref a1, .int 0]) (rest := []) ⟨hx, hb, hml, hown, htx⟩ (cP_write_4 l hl9 D cT aK aV H.size a2 a3 a1 a4 0 (.int 0) f18 (.int 0) f24 (by first | rfl | exact h19 | exact h20 | exact h21 | exact h22 | exact h23 | exact h27) (by first | rfl | exact h19 | exact h20 | exact h21 | exact h22 | exact h23 | exact h27) (by first | rfl | exact h19 | exact h20 | exact h21 | exact h22 | exact h23 | exact h27) (by first | rfl | exact h19 | exact h20 | exact h21 | exact h22 | exact h23 | exact h27) (by first | rfl | exact h19 | exact h20 | exact h21 | exact h22 | exact h23 | exact h27)) ⟨callB_of 4 htx (xw_goodC kw_3_20) rfl rfl rfl (htx _ kw_1_18) (htx _ kw_3_18) ⟨by decide, by decide, by decide +kernel⟩ ⟨Nat.le_of_ble_eq_true rfl, Nat.le_of_ble_eq_true rfl⟩, htx _ kw_3_19⟩ ⟨xPre_blind, (fun U hU hW => ⟨rfl, xPre_of hZ hS hFc hPc hDc hK U hU hW⟩)⟩ rfl rfl hl.1 rfl (lv_room (Nat.le_of_ble_eq_true rfl)) dB_keepSpare_17 ⟨Nat.le_of_ble_eq_true rfl, Nat.le_of_ble_eq_true rfl⟩) hS (fun q _ h => hFc q h) hFc (fun u9 t H1 locs ht hvm hr9 hB hz1 hk1 hS => ?_)
  obtain ⟨y1, y2, y3, y4, y5, y6, hP1, hK1, hD1⟩ := hB
  rw [ht] at hP1
  obtain ⟨hP, hD⟩ := xjoin (W := [(a0, .inr (0, [v11, v12, .ref a1, .ref a5, v13, .ref a2, v14, v15])), (a5, .inl (cT 3, 8, .inr (.inr (.inr (.inr f25))))), (a2, .inr (2, [.ref a3, .int 5, .int 0])), (a3, .inl (cT 2, 4096, .inr (.inl f18))), (a1, .inr (1, [.ref a4, .int 6, .int 0])), (a4, .inl (cT 0, 4096, .inl (upd (upd (upd (upd (upd (upd f24 0 (vp_nar .byte y1)) 1 (vp_nar .byte y2)) 2 (vp_nar .byte y3)) 3 (vp_nar .byte y4)) 4 (vp_nar .byte y5)) 5 (vp_nar .byte y6))))]) hP hD [1, 2, 5, 3] [0, 4] 2 rfl rfl (by decide) (by decide) hk1 hFc hP1 hD1
  generalize H1 = H at hP hS ⊢
  refine lv_aload_n hx hb dB_keepSpare_20 rfl (lv_at hl 0 rfl) ?_
  refine va_get (D := D) (ci := 0) (v := .ref a2) (C := "ValueBench") (T := TB) (N := 8) hx hb htx inB hown hK hP 0 rfl rfl 5 (by decide) (htx _ kw_1_100) (fun _ h9 => h9) rfl dB_keepSpare_21 ?_
  obtain ⟨hPc, hDc, hFc⟩ := xcut (wc := [(a2, .inr (2, [.ref a3, .int 5, .int 0]))]) hP hD hS hA [2] rfl rfl (by decide)
  refine va_calli (va_runV (C := "ValueBench$Row") (As := []) (rest := []) ⟨hx, hb, hml, hown, htx⟩ (cR_isOver_0 l hl9 D cT aK aV H.size a2 (.ref a3) (.int 5)) ⟨callB_of 0 htx (xw_goodC kw_3_82) rfl rfl rfl (htx _ kw_1_4) (htx _ kw_3_79) ⟨by decide, by decide, by decide +kernel⟩ ⟨Nat.le_of_ble_eq_true rfl, Nat.le_of_ble_eq_true rfl⟩, (htx _ kw_3_80), (htx _ kw_3_81)⟩ ⟨xPre_blind, va_recv hK hP (ci := 2) rfl (q0 := 2) rfl, (fun U hU hW => ⟨rfl, xPre_of hZ hS hFc hPc hDc hK U hU hW⟩)⟩ rfl rfl hl.1 rfl (lv_room (Nat.le_of_ble_eq_true rfl)) dB_keepSpare_24 ⟨Nat.le_of_ble_eq_true rfl, Nat.le_of_ble_eq_true rfl⟩) hS (fun q _ h => hFc q h) hFc (fun r7 u9 t H1 locs ht hvm hr9 hB hz1 hk1 hS => ?_)
  obtain ⟨hP1, hK1, hD1⟩ := hB
  rw [ht] at hP1
  obtain ⟨hP, hD⟩ := xjoin (W := [(a0, .inr (0, [v11, v12, .ref a1, .ref a5, v13, .ref a2, v14, v15])), (a5, .inl (cT 3, 8, .inr (.inr (.inr (.inr f25))))), (a3, .inl (cT 2, 4096, .inr (.inl f18))), (a1, .inr (1, [.ref a4, .int 6, .int 0])), (a4, .inl (cT 0, 4096, .inl (upd (upd (upd (upd (upd (upd f24 0 (vp_nar .byte y1)) 1 (vp_nar .byte y2)) 2 (vp_nar .byte y3)) 3 (vp_nar .byte y4)) 4 (vp_nar .byte y5)) 5 (vp_nar .byte y6)))), (a2, .inr (2, [.ref a3, .int 5, .int 0]))]) hP hD [2] [0, 1, 3, 4, 5] 5 rfl rfl (by decide) (by decide) hk1 hFc hP1 hD1
  generalize H1 = H at hP hS ⊢
  rw [hr9]
  refine W.eq (g2 := F0 m 27 ls [.int 0]) rfl ?_
  refine lv_if_ne (tgt := 40) hx hb dB_keepSpare_27 (by decide) (fun h => ((by revert h; decide : False)).elim) (fun _ => ?_)
  refine lv_aload_n hx hb dB_keepSpare_30 rfl (lv_at hl 0 rfl) ?_
  refine va_get (D := D) (ci := 0) (v := .ref a1) (C := "ValueBench") (T := TB) (N := 8) hx hb htx inB hown hK hP 0 rfl rfl 2 (by decide) (htx _ kw_1_97) (fun _ h9 => h9) rfl dB_keepSpare_31 ?_
  obtain ⟨hPc, hDc, hFc⟩ := xcut (wc := [(a1, .inr (1, [.ref a4, .int 6, .int 0]))]) hP hD hS hA [3] rfl rfl (by decide)
  refine va_calli (va_runV (C := "ValueBench$Text") (As := []) (rest := []) ⟨hx, hb, hml, hown, htx⟩ (cT_isOver_0 l hl9 D cT aK aV H.size a1 (.ref a4) (.int 6)) ⟨callB_of 0 htx (xw_goodC kw_3_86) rfl rfl rfl (htx _ kw_1_2) (htx _ kw_3_83) ⟨by decide, by decide, by decide +kernel⟩ ⟨Nat.le_of_ble_eq_true rfl, Nat.le_of_ble_eq_true rfl⟩, (htx _ kw_3_84), (htx _ kw_3_85)⟩ ⟨xPre_blind, va_recv hK hP (ci := 1) rfl (q0 := 3) rfl, (fun U hU hW => ⟨rfl, xPre_of hZ hS hFc hPc hDc hK U hU hW⟩)⟩ rfl rfl hl.1 rfl (lv_room (Nat.le_of_ble_eq_true rfl)) dB_keepSpare_34 ⟨Nat.le_of_ble_eq_true rfl, Nat.le_of_ble_eq_true rfl⟩) hS (fun q _ h => hFc q h) hFc (fun r8 u9 t H1 locs ht hvm hr9 hB hz1 hk1 hS => ?_)
  obtain ⟨hP1, hK1, hD1⟩ := hB
  rw [ht] at hP1
  obtain ⟨hP, hD⟩ := xjoin (W := [(a0, .inr (0, [v11, v12, .ref a1, .ref a5, v13, .ref a2, v14, v15])), (a5, .inl (cT 3, 8, .inr (.inr (.inr (.inr f25))))), (a3, .inl (cT 2, 4096, .inr (.inl f18))), (a4, .inl (cT 0, 4096, .inl (upd (upd (upd (upd (upd (upd f24 0 (vp_nar .byte y1)) 1 (vp_nar .byte y2)) 2 (vp_nar .byte y3)) 3 (vp_nar .byte y4)) 4 (vp_nar .byte y5)) 5 (vp_nar .byte y6)))), (a2, .inr (2, [.ref a3, .int 5, .int 0])), (a1, .inr (1, [.ref a4, .int 6, .int 0]))]) hP hD [3] [0, 1, 2, 4, 5] 5 rfl rfl (by decide) (by decide) hk1 hFc hP1 hD1
  generalize H1 = H at hP hS ⊢
  rw [hr9]
  refine W.eq (g2 := F0 m 37 ls [.int 0]) rfl ?_
  refine lv_if_eq (tgt := 50) hx hb dB_keepSpare_37 (by decide) (fun _ => ?_) (fun h => ((by revert h; decide : False)).elim)
  refine lv_aload_n hx hb dB_keepSpare_50 rfl (lv_at hl 0 rfl) ?_
  refine va_get (D := D) (ci := 0) (v := .ref a5) (C := "ValueBench") (T := TB) (N := 8) hx hb htx inB hown hK hP 0 rfl rfl 3 (by decide) (htx _ kw_1_98) (fun _ h9 => h9) rfl dB_keepSpare_51 ?_
  refine lv_iload_n hx hb dB_keepSpare_54 rfl (lv_at hl 1 rfl) ?_
  refine va_aldq hx hb hK hP 1 3 rfl rfl h10 dB_keepSpare_55 ?_
  refine W.eq (g2 := F0 m 56 ls [va_rf (f25 x6.toNatClampNeg)]) rfl ?_
  rw [h27]
  refine W.eq (g2 := F0 m 56 ls [.ref b26]) rfl ?_
  refine lv_astore_n (lv' := [(2, .ref b26), (0, .ref a0), (1, .int x6)]) hx hb dB_keepSpare_56 rfl hl (by decide) rfl (fun ls hl => ?_)
  refine lv_aload_n hx hb dB_keepSpare_57 rfl (lv_at hl 1 rfl) ?_
  refine va_get (D := D) (ci := 0) (v := .ref a5) (C := "ValueBench") (T := TB) (N := 8) hx hb htx inB hown hK hP 0 rfl rfl 3 (by decide) (htx _ kw_1_98) (fun _ h9 => h9) rfl dB_keepSpare_58 ?_
  refine lv_iload_n hx hb dB_keepSpare_61 rfl (lv_at hl 2 rfl) ?_
  refine lv_aload_n hx hb dB_keepSpare_62 rfl (lv_at hl 1 rfl) ?_
  refine va_get (D := D) (ci := 0) (v := .ref a2) (C := "ValueBench") (T := TB) (N := 8) hx hb htx inB hown hK hP 0 rfl rfl 5 (by decide) (htx _ kw_1_100) (fun _ h9 => h9) rfl dB_keepSpare_63 ?_
  refine va_astq (r := ("ValueBench$Row", TR, 3)) hx hb hK hP hD hS 1 3 4 2 rfl rfl rfl rfl h10 dB_keepSpare_66 (fun H locs hP hD hS => ?_)
  obtain ⟨hP, hD⟩ : xPD D xcl A [(a0, .inr (0, [v11, v12, .ref a1, .ref a5, v13, .ref a2, v14, v15])), (a5, .inl (cT 3, 8, .inr (.inr (.inr (.inr (va_up f25 x6.toNatClampNeg (some a2))))))), (a3, .inl (cT 2, 4096, .inr (.inl f18))), (a4, .inl (cT 0, 4096, .inl (upd (upd (upd (upd (upd (upd f24 0 (vp_nar .byte y1)) 1 (vp_nar .byte y2)) 2 (vp_nar .byte y3)) 3 (vp_nar .byte y4)) 4 (vp_nar .byte y5)) 5 (vp_nar .byte y6)))), (a2, .inr (2, [.ref a3, .int 5, .int 0])), (a1, .inr (1, [.ref a4, .int 6, .int 0]))] H := ⟨hP, hD⟩
  refine lv_aload_n hx hb dB_keepSpare_67 rfl (lv_at hl 1 rfl) ?_
  refine lv_aload_n hx hb dB_keepSpare_68 rfl (lv_at hl 0 rfl) ?_
  refine va_put (D := D) (ci := 0) (v := .ref b26) (ty := (.object "ValueBench$Row")) (C := "ValueBench") (T := TB) (N := 8) hx hb htx inB tyB tyB_ok nmB hown hK hP hD hS 0 rfl rfl 5 (by decide) (htx _ kw_1_100) (fun _ h9 => h9) rfl (by decide +kernel) rfl rfl (Nat.le_of_ble_eq_true rfl) dB_keepSpare_69 (fun H locs hP hD hS => ?_)
  obtain ⟨hP, hD⟩ : xPD D xcl A [(a0, .inr (0, [v11, v12, .ref a1, .ref a5, v13, .ref b26, v14, v15])), (a5, .inl (cT 3, 8, .inr (.inr (.inr (.inr (va_up f25 x6.toNatClampNeg (some a2))))))), (a3, .inl (cT 2, 4096, .inr (.inl f18))), (a4, .inl (cT 0, 4096, .inl (upd (upd (upd (upd (upd (upd f24 0 (vp_nar .byte y1)) 1 (vp_nar .byte y2)) 2 (vp_nar .byte y3)) 3 (vp_nar .byte y4)) 4 (vp_nar .byte y5)) 5 (vp_nar .byte y6)))), (a2, .inr (2, [.ref a3, .int 5, .int 0])), (a1, .inr (1, [.ref a4, .int 6, .int 0]))] H := ⟨hP, hD⟩
  refine lv_aload_n hx hb dB_keepSpare_72 rfl (lv_at hl 1 rfl) ?_
  refine va_get (D := D) (ci := 0) (v := .ref a1) (C := "ValueBench") (T := TB) (N := 8) hx hb htx inB hown hK hP 0 rfl rfl 2 (by decide) (htx _ kw_1_97) (fun _ h9 => h9) rfl dB_keepSpare_73 ?_
  obtain ⟨hPc, hDc, hFc⟩ := xcut (wc := [(a1, .inr (1, [.ref a4, .int 6, .int 0]))]) hP hD hS hA [5] rfl rfl (by decide)
  refine va_calli (va_runV (C := "ValueBench$Text") (As := []) (rest := []) ⟨hx, hb, hml, hown, htx⟩ (cT_size_2 l hl9 D cT aK aV H.size a1 (.ref a4) 6 (.int 0)) ⟨callB_of 0 htx (xw_goodC kw_1_131) rfl rfl rfl (htx _ kw_1_2) (htx _ kw_1_128) ⟨by decide, by decide, by decide +kernel⟩ ⟨Nat.le_of_ble_eq_true rfl, Nat.le_of_ble_eq_true rfl⟩, (htx _ kw_1_129), (htx _ kw_1_130)⟩ ⟨xPre_blind, va_recv hK hP (ci := 1) rfl (q0 := 5) rfl, (fun U hU hW => ⟨rfl, xPre_of hZ hS hFc hPc hDc hK U hU hW⟩)⟩ rfl rfl hl.1 rfl (lv_room (Nat.le_of_ble_eq_true rfl)) dB_keepSpare_76 ⟨Nat.le_of_ble_eq_true rfl, Nat.le_of_ble_eq_true rfl⟩) hS (fun q _ h => hFc q h) hFc (fun r9 u9 t H1 locs ht hvm hr9 hB hz1 hk1 hS => ?_)
  obtain ⟨hP1, hK1, hD1⟩ := hB
  rw [ht] at hP1
  obtain ⟨hP, hD⟩ := xjoin (W := [(a0, .inr (0, [v11, v12, .ref a1, .ref a5, v13, .ref b26, v14, v15])), (a5, .inl (cT 3, 8, .inr (.inr (.inr (.inr (va_up f25 x6.toNatClampNeg (some a2))))))), (a3, .inl (cT 2, 4096, .inr (.inl f18))), (a4, .inl (cT 0, 4096, .inl (upd (upd (upd (upd (upd (upd f24 0 (vp_nar .byte y1)) 1 (vp_nar .byte y2)) 2 (vp_nar .byte y3)) 3 (vp_nar .byte y4)) 4 (vp_nar .byte y5)) 5 (vp_nar .byte y6)))), (a2, .inr (2, [.ref a3, .int 5, .int 0])), (a1, .inr (1, [.ref a4, .int 6, .int 0]))]) hP hD [5] [0, 1, 2, 3, 4] 5 rfl rfl (by decide) (by decide) hk1 hFc hP1 hD1
  generalize H1 = H at hP hS ⊢
  rw [hr9]
  refine W.eq (g2 := F0 m 79 ls [.int 6]) rfl ?_
  obtain ⟨hP9, hD9⟩ := xsub (wc := [(a0, .inr (0, [v11, v12, .ref a1, .ref a5, v13, .ref b26, v14, v15])), (a1, .inr (1, [.ref a4, .int 6, .int 0])), (a2, .inr (2, [.ref a3, .int 5, .int 0])), (a3, .inl (cT 2, 4096, .inr (.inl f18))), (a4, .inl (cT 0, 4096, .inl (upd (upd (upd (upd (upd (upd f24 0 (vp_nar .byte y1)) 1 (vp_nar .byte y2)) 2 (vp_nar .byte y3)) 3 (vp_nar .byte y4)) 4 (vp_nar .byte y5)) 5 (vp_nar .byte y6)))), (a5, .inl (cT 3, 8, .inr (.inr (.inr (.inr (va_up f25 x6.toNatClampNeg (some a2)))))))]) hP hD [0, 5, 4, 2, 3, 1] rfl rfl (by decide)
  refine W.widen (k := 0) (n := 0) (Nat.le_of_ble_eq_true rfl) (Nat.le_of_ble_eq_true rfl) ?_
  exact W.iret (v := 6) hx hb hr (fun t ht hW => ⟨⟨6, (), rfl, rfl, y1, y2, y3, y4, y5, y6, by rw [ht]; exact hP9, va_K.moved hW.alike hK, hD9⟩, hS.F ht⟩) hS.2.2 dB_keepSpare_79
set_option maxHeartbeats 400000000 in
set_option maxRecDepth 100000 in
theorem cB_one_4 (l : Launch) (hl9 : l.stackTraces = false) (D : va_G) (cT : Nat → ClassId) (aK aV : Nat → Nat) (sz : Nat) (a0 : Nat) (a1 : Nat) (a2 : Nat) (a3 : Nat) (a4 : Nat) (a5 : Nat) (a6 : Nat) (a7 : Nat) (x8 : Int32) (x13 : Int32) (v18 : Value) (v19 : Value) (b20 : Nat) (v21 : Value) (v22 : Value) (v23 : Value) (v24 : Value) (f25 : Nat → Option Nat) (b27 : Nat) (v29 : Value) (f30 : Nat → Int64) (v32 : Value) (v33 : Value) (f34 : Nat → Int32) (f35 : Nat → Int64) (h9 : ¬ x8 < 0) (h10 : ¬ 7 < x8) (h11 : x8 ≤ 7) (h12 : vp_in x8 8) (h14 : ¬ x13 < 0) (h15 : ¬ 7 < x13) (h16 : x13 ≤ 7) (h17 : vp_in x13 8) (h26 : f25 x13.toNatClampNeg = some a3) (h28 : f25 x8.toNatClampNeg = some b27) (h31 : f30 0 = 0) : xMet l yB_one wyB_one 8 0 0 176 D cT aK aV sz [.ref a0, .int x8, .int 4, .int x13] [(a0, .inr (0, [v18, v19, .ref a5, .ref a2, .ref b20, .ref a1, v21, v22])), (a1, .inr (2, [.ref a7, v23, v24])), (a2, .inl (cT 3, 8, .inr (.inr (.inr (.inr f25))))), (a3, .inr (2, [.ref a4, .int 1, v29])), (a4, .inl (cT 2, 4096, .inr (.inl f30))), (a5, .inr (1, [.ref a6, v32, v33])), (a6, .inl (cT 0, 4096, .inl f34)), (a7, .inl (cT 2, 4096, .inr (.inl f35)))] (fun A => va_Qv (fun _ : Unit => True) (fun _ t => ∃ (y6 : Int32) (y7 : Int32) (y8 : Int32) (y9 : Int32) (y10 : Int32) (y11 : Int32), xB D xcl cT A [(a0, .inr (0, [v18, v19, .ref a5, .ref a2, .ref b20, .ref b27, v21, v22])), (a1, .inr (2, [.ref a7, .int 5, .int 0])), (a2, .inl (cT 3, 8, .inr (.inr (.inr (.inr (va_up f25 x8.toNatClampNeg (some a1))))))), (a3, .inr (2, [.ref a4, .int 1, v29])), (a4, .inl (cT 2, 4096, .inr (.inl f30))), (a5, .inr (1, [.ref a6, .int 6, .int 0])), (a6, .inl (cT 0, 4096, .inl (upd (upd (upd (upd (upd (upd (upd (upd (upd (upd f34 0 110) 1 117) 2 108) 3 108) 0 (vp_nar .byte y6)) 1 (vp_nar .byte y7)) 2 (vp_nar .byte y8)) 3 (vp_nar .byte y9)) 4 (vp_nar .byte y10)) 5 (vp_nar .byte y11)))), (a7, .inl (cT 2, 4096, .inr (.inl (vp_updL (vp_updL (vp_updL (vp_updL (vp_updL (vp_updL f35 0 0) 1 110) 2 117) 3 108) 4 108) 0 2621476))))] t) A) := by
  refine Met.ofW (cc := prog_1_method_9_code) (maxL := 4) (ret := none) (by decide) rfl ?_
  intro p e s m args below meth c s₁ B hml hv
  obtain ⟨rfl, hsz, hZ, hP, hK, hD0⟩ := hv
  have hx := B.exec
  have hb := B.bytes
  have hr := B.returns
  have hts := atoms_spec (ws := wyB_one) B.pre
  have htx := fun w h => hts w (List.mem_cons_of_mem _ h)
  have hown : s.vm.findClass "ValueBench" = some m.cls := findClass_of_methodNamed B.named
  have hlocks := B.notSynchronized
  subst hsz
  have hD := hD0.self (sz := s.heap.size)
  generalize hAe : va_A [(a0, .inr (0, [v18, v19, .ref a5, .ref a2, .ref b20, .ref a1, v21, v22])), (a1, .inr (2, [.ref a7, v23, v24])), (a2, .inl (cT 3, 8, .inr (.inr (.inr (.inr f25))))), (a3, .inr (2, [.ref a4, .int 1, v29])), (a4, .inl (cT 2, 4096, .inr (.inl f30))), (a5, .inr (1, [.ref a6, v32, v33])), (a6, .inl (cT 0, 4096, .inl f34)), (a7, .inl (cT 2, 4096, .inr (.inl f35)))] s.heap.size = A at hD hZ ⊢
  have hA : ∀ q : Nat, s.heap.size ≤ q → A q := fun q h => by rw [← hAe]; exact Or.inr h
  have hS : va_S A s.heap s.heap [] := va_S.rf
  have hP : va_P D xcl [(a0, .inr (0, [v18, v19, .ref a5, .ref a2, .ref b20, .ref a1, v21, v22])), (a1, .inr (2, [.ref a7, v23, v24])), (a2, .inl (cT 3, 8, .inr (.inr (.inr (.inr f25))))), (a3, .inr (2, [.ref a4, .int 1, v29])), (a4, .inl (cT 2, 4096, .inr (.inl f30))), (a5, .inr (1, [.ref a6, v32, v33])), (a6, .inl (cT 0, 4096, .inl f34)), (a7, .inl (cT 2, 4096, .inr (.inl f35)))] s.heap := hP
  have hl := lv_entry ([.ref a0, .int x8, .int 4, .int x13]) (n := 4) (Nat.le_of_ble_eq_true rfl)
  rw [lg_entry_eq]
  generalize (lg_sl ([.ref a0, .int x8, .int 4, .int x13]) ++ List.replicate (4 - (lg_sl ([.ref a0, .int x8, .int 4, .int x13])).length) Slot.unset).toArray = ls at hl ⊢
  have hl : lv_has ls 4 [(0, .ref a0), (1, .int x8), (2, .int 4), (3, .int x13)] := hl
  refine lv_iload_n hx hb dB_one_0 rfl (lv_at hl 1 rfl) ?_
  obtain ⟨hPc, hDc, hFc⟩ := xcut (wc := []) hP hD hS hA [] rfl rfl (by decide)
  refine va_calli (va_runS (As := [.int x8]) (rest := []) ⟨hx, hb, hml, hown, htx⟩ (cB_isRegister_0 l hl9 D cT aK aV s.heap.size x8 h9 h10 h11 h12) ⟨callB_of 1 htx (xw_goodC kw_2_18) rfl rfl rfl (htx _ kw_1_1) (htx _ kw_2_16) ⟨by decide, by decide, by decide +kernel⟩ ⟨Nat.le_of_ble_eq_true rfl, Nat.le_of_ble_eq_true rfl⟩, htx _ kw_2_17⟩ ⟨xPre_blind, (fun U hU hW => ⟨rfl, xPre_of hZ hS hFc hPc hDc hK U hU hW⟩)⟩ rfl rfl hl.1 rfl (lv_room (Nat.le_of_ble_eq_true rfl)) dB_one_1 ⟨Nat.le_of_ble_eq_true rfl, Nat.le_of_ble_eq_true rfl⟩) hS (fun q _ h => hFc q h) hFc (fun r1 u9 t H1 locs ht hvm hr9 hB hz1 hk1 hS => ?_)
  obtain ⟨hP1, hK1, hD1⟩ := hB
  rw [ht] at hP1
  obtain ⟨hP, hD⟩ := xjoin (W := [(a0, .inr (0, [v18, v19, .ref a5, .ref a2, .ref b20, .ref a1, v21, v22])), (a1, .inr (2, [.ref a7, v23, v24])), (a2, .inl (cT 3, 8, .inr (.inr (.inr (.inr f25))))), (a3, .inr (2, [.ref a4, .int 1, v29])), (a4, .inl (cT 2, 4096, .inr (.inl f30))), (a5, .inr (1, [.ref a6, v32, v33])), (a6, .inl (cT 0, 4096, .inl f34)), (a7, .inl (cT 2, 4096, .inr (.inl f35)))]) hP hD [] [0, 1, 2, 3, 4, 5, 6, 7] 8 rfl rfl (by decide) (by decide) hk1 hFc hP1 hD1
  generalize H1 = H at hP hS ⊢
  rw [hr9]
  refine W.eq (g2 := F0 m 4 ls [.int 1]) rfl ?_
  refine lv_if_eq (tgt := 27) hx hb dB_one_4 (by decide) (fun h => ((by revert h; decide : False)).elim) (fun _ => ?_)
  refine lv_iload_n hx hb dB_one_7 rfl (lv_at hl 2 rfl) ?_
  refine lv_bipush (v := 13) hx hb dB_one_8 (by decide) ?_
  obtain ⟨hPc, hDc, hFc⟩ := xcut (wc := []) hP hD hS hA [] rfl rfl (by decide)
  refine va_calli (va_runS (As := [.int 4, .int 13]) (rest := []) ⟨hx, hb, hml, hown, htx⟩ (cB_isWithin_14 l hl9 D cT aK aV H.size) ⟨callB_of 2 htx (xw_goodC kw_1_218) rfl rfl rfl (htx _ kw_1_1) (htx _ kw_1_216) ⟨by decide, by decide, by decide +kernel⟩ ⟨Nat.le_of_ble_eq_true rfl, Nat.le_of_ble_eq_true rfl⟩, htx _ kw_1_217⟩ ⟨xPre_blind, (fun U hU hW => ⟨rfl, xPre_of hZ hS hFc hPc hDc hK U hU hW⟩)⟩ rfl rfl hl.1 rfl (lv_room (Nat.le_of_ble_eq_true rfl)) dB_one_10 ⟨Nat.le_of_ble_eq_true rfl, Nat.le_of_ble_eq_true rfl⟩) hS (fun q _ h => hFc q h) hFc (fun r2 u9 t H1 locs ht hvm hr9 hB hz1 hk1 hS => ?_)
  obtain ⟨hP1, hK1, hD1⟩ := hB
  rw [ht] at hP1
  obtain ⟨hP, hD⟩ := xjoin (W := [(a0, .inr (0, [v18, v19, .ref a5, .ref a2, .ref b20, .ref a1, v21, v22])), (a1, .inr (2, [.ref a7, v23, v24])), (a2, .inl (cT 3, 8, .inr (.inr (.inr (.inr f25))))), (a3, .inr (2, [.ref a4, .int 1, v29])), (a4, .inl (cT 2, 4096, .inr (.inl f30))), (a5, .inr (1, [.ref a6, v32, v33])), (a6, .inl (cT 0, 4096, .inl f34)), (a7, .inl (cT 2, 4096, .inr (.inl f35)))]) hP hD [] [0, 1, 2, 3, 4, 5, 6, 7] 8 rfl rfl (by decide) (by decide) hk1 hFc hP1 hD1
  generalize H1 = H at hP hS ⊢
  rw [hr9]
  refine W.eq (g2 := F0 m 13 ls [.int 1]) rfl ?_
  refine lv_if_eq (tgt := 27) hx hb dB_one_13 (by decide) (fun h => ((by revert h; decide : False)).elim) (fun _ => ?_)
  refine lv_iload_n hx hb dB_one_16 rfl (lv_at hl 3 rfl) ?_
  obtain ⟨hPc, hDc, hFc⟩ := xcut (wc := []) hP hD hS hA [] rfl rfl (by decide)
  refine va_calli (va_runS (As := [.int x13]) (rest := []) ⟨hx, hb, hml, hown, htx⟩ (cB_isRegister_0 l hl9 D cT aK aV H.size x13 h14 h15 h16 h17) ⟨callB_of 1 htx (xw_goodC kw_2_18) rfl rfl rfl (htx _ kw_1_1) (htx _ kw_2_16) ⟨by decide, by decide, by decide +kernel⟩ ⟨Nat.le_of_ble_eq_true rfl, Nat.le_of_ble_eq_true rfl⟩, htx _ kw_2_17⟩ ⟨xPre_blind, (fun U hU hW => ⟨rfl, xPre_of hZ hS hFc hPc hDc hK U hU hW⟩)⟩ rfl rfl hl.1 rfl (lv_room (Nat.le_of_ble_eq_true rfl)) dB_one_17 ⟨Nat.le_of_ble_eq_true rfl, Nat.le_of_ble_eq_true rfl⟩) hS (fun q _ h => hFc q h) hFc (fun r3 u9 t H1 locs ht hvm hr9 hB hz1 hk1 hS => ?_)
  obtain ⟨hP1, hK1, hD1⟩ := hB
  rw [ht] at hP1
  obtain ⟨hP, hD⟩ := xjoin (W := [(a0, .inr (0, [v18, v19, .ref a5, .ref a2, .ref b20, .ref a1, v21, v22])), (a1, .inr (2, [.ref a7, v23, v24])), (a2, .inl (cT 3, 8, .inr (.inr (.inr (.inr f25))))), (a3, .inr (2, [.ref a4, .int 1, v29])), (a4, .inl (cT 2, 4096, .inr (.inl f30))), (a5, .inr (1, [.ref a6, v32, v33])), (a6, .inl (cT 0, 4096, .inl f34)), (a7, .inl (cT 2, 4096, .inr (.inl f35)))]) hP hD [] [0, 1, 2, 3, 4, 5, 6, 7] 8 rfl rfl (by decide) (by decide) hk1 hFc hP1 hD1
  generalize H1 = H at hP hS ⊢
  rw [hr9]
  refine W.eq (g2 := F0 m 20 ls [.int 1]) rfl ?_
  refine lv_if_eq (tgt := 27) hx hb dB_one_20 (by decide) (fun h => ((by revert h; decide : False)).elim) (fun _ => ?_)
  refine lv_iconst (v := 1) hx hb dB_one_23 (by decide) ?_
  refine lv_goto (tgt := 28) hx hb dB_one_24 (by decide) ?_
  obtain ⟨hPc, hDc, hFc⟩ := xcut (wc := []) hP hD hS hA [] rfl rfl (by decide)
  refine va_callv (va_runS (As := [.int 1]) (rest := []) ⟨hx, hb, hml, hown, htx⟩ (cB_demand_0 l hl9 D cT aK aV H.size) ⟨callB_of 1 htx (xw_goodC kw_1_221) rfl rfl rfl (htx _ kw_1_1) (htx _ kw_1_219) ⟨by decide, by decide, by decide +kernel⟩ ⟨Nat.le_of_ble_eq_true rfl, Nat.le_of_ble_eq_true rfl⟩, htx _ kw_1_220⟩ ⟨xPre_blind, (fun U hU hW => ⟨rfl, xPre_of hZ hS hFc hPc hDc hK U hU hW⟩)⟩ rfl rfl hl.1 rfl (lv_room (Nat.le_of_ble_eq_true rfl)) dB_one_28 ⟨Nat.le_of_ble_eq_true rfl, Nat.le_of_ble_eq_true rfl⟩) hS (fun q _ h => hFc q h) hFc (fun u9 t H1 locs ht hvm hr9 hB hz1 hk1 hS => ?_)
  obtain ⟨hP1, hK1, hD1⟩ := hB
  rw [ht] at hP1
  obtain ⟨hP, hD⟩ := xjoin (W := [(a0, .inr (0, [v18, v19, .ref a5, .ref a2, .ref b20, .ref a1, v21, v22])), (a1, .inr (2, [.ref a7, v23, v24])), (a2, .inl (cT 3, 8, .inr (.inr (.inr (.inr f25))))), (a3, .inr (2, [.ref a4, .int 1, v29])), (a4, .inl (cT 2, 4096, .inr (.inl f30))), (a5, .inr (1, [.ref a6, v32, v33])), (a6, .inl (cT 0, 4096, .inl f34)), (a7, .inl (cT 2, 4096, .inr (.inl f35)))]) hP hD [] [0, 1, 2, 3, 4, 5, 6, 7] 8 rfl rfl (by decide) (by decide) hk1 hFc hP1 hD1
  generalize H1 = H at hP hS ⊢
  refine lv_aload_n hx hb dB_one_31 rfl (lv_at hl 0 rfl) ?_
  refine va_get (D := D) (ci := 0) (v := .ref a1) (C := "ValueBench") (T := TB) (N := 8) hx hb htx inB hown hK hP 0 rfl rfl 5 (by decide) (htx _ kw_1_100) (fun _ h9 => h9) rfl dB_one_32 ?_
  obtain ⟨hPc, hDc, hFc⟩ := xcut (wc := [(a1, .inr (2, [.ref a7, v23, v24]))]) hP hD hS hA [1] rfl rfl (by decide)
  refine va_callv (va_runV (C := "ValueBench$Row") (As := []) (rest := []) ⟨hx, hb, hml, hown, htx⟩ (cR_clear_0 l hl9 D cT aK aV H.size a1 (.ref a7) v23 v24) ⟨callB_of 0 htx (xw_goodC kw_2_22) rfl rfl rfl (htx _ kw_1_4) (htx _ kw_2_19) ⟨by decide, by decide, by decide +kernel⟩ ⟨Nat.le_of_ble_eq_true rfl, Nat.le_of_ble_eq_true rfl⟩, (htx _ kw_2_20), (htx _ kw_2_21)⟩ ⟨xPre_blind, va_recv hK hP (ci := 2) rfl (q0 := 1) rfl, (fun U hU hW => ⟨rfl, xPre_of hZ hS hFc hPc hDc hK U hU hW⟩)⟩ rfl rfl hl.1 rfl (lv_room (Nat.le_of_ble_eq_true rfl)) dB_one_35 ⟨Nat.le_of_ble_eq_true rfl, Nat.le_of_ble_eq_true rfl⟩) hS (fun q _ h => hFc q h) hFc (fun u9 t H1 locs ht hvm hr9 hB hz1 hk1 hS => ?_)
  obtain ⟨hP1, hK1, hD1⟩ := hB
  rw [ht] at hP1
  obtain ⟨hP, hD⟩ := xjoin (W := [(a0, .inr (0, [v18, v19, .ref a5, .ref a2, .ref b20, .ref a1, v21, v22])), (a2, .inl (cT 3, 8, .inr (.inr (.inr (.inr f25))))), (a3, .inr (2, [.ref a4, .int 1, v29])), (a4, .inl (cT 2, 4096, .inr (.inl f30))), (a5, .inr (1, [.ref a6, v32, v33])), (a6, .inl (cT 0, 4096, .inl f34)), (a7, .inl (cT 2, 4096, .inr (.inl f35))), (a1, .inr (2, [.ref a7, .int 0, .int 0]))]) hP hD [1] [0, 2, 3, 4, 5, 6, 7] 7 rfl rfl (by decide) (by decide) hk1 hFc hP1 hD1
  generalize H1 = H at hP hS ⊢
  refine lv_aload_n hx hb dB_one_38 rfl (lv_at hl 0 rfl) ?_
  refine lv_iload_n hx hb dB_one_39 rfl (lv_at hl 2 rfl) ?_
  refine lv_aload_n hx hb dB_one_40 rfl (lv_at hl 0 rfl) ?_
  refine va_get (D := D) (ci := 0) (v := .ref a2) (C := "ValueBench") (T := TB) (N := 8) hx hb htx inB hown hK hP 0 rfl rfl 3 (by decide) (htx _ kw_1_98) (fun _ h9 => h9) rfl dB_one_41 ?_
  refine lv_iload_n hx hb dB_one_44 rfl (lv_at hl 3 rfl) ?_
  refine va_aldq hx hb hK hP 1 3 rfl rfl h17 dB_one_45 ?_
  refine W.eq (g2 := F0 m 46 ls [va_rf (f25 x13.toNatClampNeg), .int 4, .ref a0]) rfl ?_
  rw [h26]
  refine W.eq (g2 := F0 m 46 ls [.ref a3, .int 4, .ref a0]) rfl ?_
  refine lv_aload_n hx hb dB_one_46 rfl (lv_at hl 0 rfl) ?_
  refine va_get (D := D) (ci := 0) (v := .ref a5) (C := "ValueBench") (T := TB) (N := 8) hx hb htx inB hown hK hP 0 rfl rfl 2 (by decide) (htx _ kw_1_97) (fun _ h9 => h9) rfl dB_one_47 ?_
  refine lv_aload_n hx hb dB_one_50 rfl (lv_at hl 0 rfl) ?_
  refine va_get (D := D) (ci := 0) (v := .ref b20) (C := "ValueBench") (T := TB) (N := 8) hx hb htx inB hown hK hP 0 rfl rfl 4 (by decide) (htx _ kw_1_99) (fun _ h9 => h9) rfl dB_one_51 ?_
  refine lv_aload_n hx hb dB_one_54 rfl (lv_at hl 0 rfl) ?_
  refine va_get (D := D) (ci := 0) (v := .ref a1) (C := "ValueBench") (T := TB) (N := 8) hx hb htx inB hown hK hP 0 rfl rfl 5 (by decide) (htx _ kw_1_100) (fun _ h9 => h9) rfl dB_one_55 ?_
  obtain ⟨hPc, hDc, hFc⟩ := xcut (wc := [(a3, .inr (2, [.ref a4, .int 1, v29])), (a4, .inl (cT 2, 4096, .inr (.inl f30))), (a5, .inr (1, [.ref a6, v32, v33])), (a6, .inl (cT 0, 4096, .inl f34)), (a1, .inr (2, [.ref a7, .int 0, .int 0])), (a7, .inl (cT 2, 4096, .inr (.inl f35)))]) hP hD hS hA [2, 3, 4, 5, 7, 6] rfl rfl (by decide)
  refine va_calli (va_runS (As := [.int 4, .ref a3, .ref a5, .ref b20, .ref a1]) (rest := [.ref a0]) ⟨hx, hb, hml, hown, htx⟩ (cG_apply_4 l hl9 D cT aK aV H.size a3 a4 a5 a6 a1 a7 b20 v29 f30 v32 v33 f34 f35 (by first | rfl | exact h26 | exact h28 | exact h31)) ⟨callB_of 5 htx (xw_goodC kw_4_28) rfl rfl rfl (htx _ kw_1_26) (htx _ kw_4_26) ⟨by decide, by decide, by decide +kernel⟩ ⟨Nat.le_of_ble_eq_true rfl, Nat.le_of_ble_eq_true rfl⟩, htx _ kw_4_27⟩ ⟨xPre_blind, (fun U hU hW => ⟨rfl, xPre_of hZ hS hFc hPc hDc hK U hU hW⟩)⟩ rfl rfl hl.1 rfl (lv_room (Nat.le_of_ble_eq_true rfl)) dB_one_58 ⟨Nat.le_of_ble_eq_true rfl, Nat.le_of_ble_eq_true rfl⟩) hS (fun q _ h => hFc q h) hFc (fun r4 u9 t H1 locs ht hvm hr9 hB hz1 hk1 hS => ?_)
  obtain ⟨hP1, hK1, hD1⟩ := hB
  rw [ht] at hP1
  obtain ⟨hP, hD⟩ := xjoin (W := [(a0, .inr (0, [v18, v19, .ref a5, .ref a2, .ref b20, .ref a1, v21, v22])), (a2, .inl (cT 3, 8, .inr (.inr (.inr (.inr f25))))), (a3, .inr (2, [.ref a4, .int 1, v29])), (a4, .inl (cT 2, 4096, .inr (.inl f30))), (a5, .inr (1, [.ref a6, .int 4, .int 0])), (a6, .inl (cT 0, 4096, .inl (upd (upd (upd (upd f34 0 110) 1 117) 2 108) 3 108))), (a1, .inr (2, [.ref a7, .int 5, .int 0])), (a7, .inl (cT 2, 4096, .inr (.inl (vp_updL (vp_updL (vp_updL (vp_updL (vp_updL (vp_updL f35 0 0) 1 110) 2 117) 3 108) 4 108) 0 2621476))))]) hP hD [2, 3, 4, 5, 7, 6] [0, 1] 2 rfl rfl (by decide) (by decide) hk1 hFc hP1 hD1
  generalize H1 = H at hP hS ⊢
  rw [hr9]
  refine W.eq (g2 := F0 m 61 ls [.int 0, .ref a0]) rfl ?_
  obtain ⟨hPc, hDc, hFc⟩ := xcut (wc := []) hP hD hS hA [] rfl rfl (by decide)
  refine va_callv (va_runV (C := "ValueBench") (As := [.int 0]) (rest := []) ⟨hx, hb, hml, hown, htx⟩ (cB_demandDone_0 l hl9 D cT aK aV H.size a0) ⟨callB_of 1 htx (xw_goodC kw_3_222) rfl rfl rfl (htx _ kw_1_1) (htx _ kw_3_219) ⟨by decide, by decide, by decide +kernel⟩ ⟨Nat.le_of_ble_eq_true rfl, Nat.le_of_ble_eq_true rfl⟩, (htx _ kw_3_221), (htx _ kp_B_demandDone)⟩ ⟨xPre_blind, va_recv hK hP (ci := 0) rfl (q0 := 0) rfl, (fun U hU hW => ⟨rfl, xPre_of hZ hS hFc hPc hDc hK U hU hW⟩)⟩ rfl rfl hl.1 rfl (lv_room (Nat.le_of_ble_eq_true rfl)) dB_one_61 ⟨Nat.le_of_ble_eq_true rfl, Nat.le_of_ble_eq_true rfl⟩) hS (fun q _ h => hFc q h) hFc (fun u9 t H1 locs ht hvm hr9 hB hz1 hk1 hS => ?_)
  obtain ⟨hP1, hK1, hD1⟩ := hB
  rw [ht] at hP1
  obtain ⟨hP, hD⟩ := xjoin (W := [(a0, .inr (0, [v18, v19, .ref a5, .ref a2, .ref b20, .ref a1, v21, v22])), (a2, .inl (cT 3, 8, .inr (.inr (.inr (.inr f25))))), (a3, .inr (2, [.ref a4, .int 1, v29])), (a4, .inl (cT 2, 4096, .inr (.inl f30))), (a5, .inr (1, [.ref a6, .int 4, .int 0])), (a6, .inl (cT 0, 4096, .inl (upd (upd (upd (upd f34 0 110) 1 117) 2 108) 3 108))), (a1, .inr (2, [.ref a7, .int 5, .int 0])), (a7, .inl (cT 2, 4096, .inr (.inl (vp_updL (vp_updL (vp_updL (vp_updL (vp_updL (vp_updL f35 0 0) 1 110) 2 117) 3 108) 4 108) 0 2621476))))]) hP hD [] [0, 1, 2, 3, 4, 5, 6, 7] 8 rfl rfl (by decide) (by decide) hk1 hFc hP1 hD1
  generalize H1 = H at hP hS ⊢
  refine lv_aload_n hx hb dB_one_64 rfl (lv_at hl 0 rfl) ?_
  refine lv_iload_n hx hb dB_one_65 rfl (lv_at hl 1 rfl) ?_
  obtain ⟨hPc, hDc, hFc⟩ := xcut (wc := [(a0, .inr (0, [v18, v19, .ref a5, .ref a2, .ref b20, .ref a1, v21, v22])), (a5, .inr (1, [.ref a6, .int 4, .int 0])), (a1, .inr (2, [.ref a7, .int 5, .int 0])), (a7, .inl (cT 2, 4096, .inr (.inl (vp_updL (vp_updL (vp_updL (vp_updL (vp_updL (vp_updL f35 0 0) 1 110) 2 117) 3 108) 4 108) 0 2621476)))), (a6, .inl (cT 0, 4096, .inl (upd (upd (upd (upd f34 0 110) 1 117) 2 108) 3 108))), (a2, .inl (cT 3, 8, .inr (.inr (.inr (.inr f25)))))]) hP hD hS hA [0, 4, 6, 7, 5, 1] rfl rfl (by decide)
  refine va_calli (va_runV (C := "ValueBench") (As := [.int x8]) (rest := []) ⟨hx, hb, hml, hown, htx⟩ (cB_keepSpare_2 l hl9 D cT aK aV H.size a0 a5 a1 a7 a6 a2 x8 v18 v19 (.ref b20) v21 v22 (.int 4) (.int 0) (vp_updL (vp_updL (vp_updL (vp_updL (vp_updL (vp_updL f35 0 0) 1 110) 2 117) 3 108) 4 108) 0 2621476) (upd (upd (upd (upd f34 0 110) 1 117) 2 108) 3 108) f25 b27 h9 h10 h11 h12 (by first | rfl | exact h26 | exact h28 | exact h31) (by first | rfl | exact h26 | exact h28 | exact h31) (by first | rfl | exact h26 | exact h28 | exact h31) (by first | rfl | exact h26 | exact h28 | exact h31) (by first | rfl | exact h26 | exact h28 | exact h31) (by first | rfl | exact h26 | exact h28 | exact h31)) ⟨callB_of 1 htx (xw_goodC kw_3_17) rfl rfl rfl (htx _ kw_1_1) (htx _ kw_3_14) ⟨by decide, by decide, by decide +kernel⟩ ⟨Nat.le_of_ble_eq_true rfl, Nat.le_of_ble_eq_true rfl⟩, (htx _ kw_3_16), (htx _ kp_B_keepSpare)⟩ ⟨xPre_blind, va_recv hK hP (ci := 0) rfl (q0 := 0) rfl, (fun U hU hW => ⟨rfl, xPre_of hZ hS hFc hPc hDc hK U hU hW⟩)⟩ rfl rfl hl.1 rfl (lv_room (Nat.le_of_ble_eq_true rfl)) dB_one_66 ⟨Nat.le_of_ble_eq_true rfl, Nat.le_of_ble_eq_true rfl⟩) hS (fun q _ h => hFc q h) hFc (fun r5 u9 t H1 locs ht hvm hr9 hB hz1 hk1 hS => ?_)
  obtain ⟨y6, y7, y8, y9, y10, y11, hP1, hK1, hD1⟩ := hB
  rw [ht] at hP1
  obtain ⟨hP, hD⟩ := xjoin (W := [(a3, .inr (2, [.ref a4, .int 1, v29])), (a4, .inl (cT 2, 4096, .inr (.inl f30))), (a0, .inr (0, [v18, v19, .ref a5, .ref a2, .ref b20, .ref b27, v21, v22])), (a5, .inr (1, [.ref a6, .int 6, .int 0])), (a1, .inr (2, [.ref a7, .int 5, .int 0])), (a7, .inl (cT 2, 4096, .inr (.inl (vp_updL (vp_updL (vp_updL (vp_updL (vp_updL (vp_updL f35 0 0) 1 110) 2 117) 3 108) 4 108) 0 2621476)))), (a6, .inl (cT 0, 4096, .inl (upd (upd (upd (upd (upd (upd (upd (upd (upd (upd f34 0 110) 1 117) 2 108) 3 108) 0 (vp_nar .byte y6)) 1 (vp_nar .byte y7)) 2 (vp_nar .byte y8)) 3 (vp_nar .byte y9)) 4 (vp_nar .byte y10)) 5 (vp_nar .byte y11)))), (a2, .inl (cT 3, 8, .inr (.inr (.inr (.inr (va_up f25 x8.toNatClampNeg (some a1)))))))]) hP hD [0, 4, 6, 7, 5, 1] [2, 3] 2 rfl rfl (by decide) (by decide) hk1 hFc hP1 hD1
  generalize H1 = H at hP hS ⊢
  rw [hr9]
  refine W.eq (g2 := F0 m 69 ls [.int 6]) rfl ?_
  refine lv_pop hx hb dB_one_69 rfl ?_
  obtain ⟨hP9, hD9⟩ := xsub (wc := [(a0, .inr (0, [v18, v19, .ref a5, .ref a2, .ref b20, .ref b27, v21, v22])), (a1, .inr (2, [.ref a7, .int 5, .int 0])), (a2, .inl (cT 3, 8, .inr (.inr (.inr (.inr (va_up f25 x8.toNatClampNeg (some a1))))))), (a3, .inr (2, [.ref a4, .int 1, v29])), (a4, .inl (cT 2, 4096, .inr (.inl f30))), (a5, .inr (1, [.ref a6, .int 6, .int 0])), (a6, .inl (cT 0, 4096, .inl (upd (upd (upd (upd (upd (upd (upd (upd (upd (upd f34 0 110) 1 117) 2 108) 3 108) 0 (vp_nar .byte y6)) 1 (vp_nar .byte y7)) 2 (vp_nar .byte y8)) 3 (vp_nar .byte y9)) 4 (vp_nar .byte y10)) 5 (vp_nar .byte y11)))), (a7, .inl (cT 2, 4096, .inr (.inl (vp_updL (vp_updL (vp_updL (vp_updL (vp_updL (vp_updL f35 0 0) 1 110) 2 117) 3 108) 4 108) 0 2621476))))]) hP hD [2, 4, 7, 0, 1, 3, 6, 5] rfl rfl (by decide)
  refine W.widen (k := 0) (n := 0) (Nat.le_of_ble_eq_true rfl) (Nat.le_of_ble_eq_true rfl) ?_
  exact W.vret hx hb hr (fun t ht hW => ⟨⟨(), rfl, trivial, y6, y7, y8, y9, y10, y11, by rw [ht]; exact hP9, va_K.moved hW.alike hK, hD9⟩, hS.F ht⟩) hS.2.2 dB_one_70
set_option maxHeartbeats 400000000 in
set_option maxRecDepth 100000 in
theorem cL_one_4 (l : Launch) (hl9 : l.stackTraces = false) (D : va_G) (cT : Nat → ClassId) (aK aV : Nat → Nat) (sz : Nat) (a0 : Nat) (a1 : Nat) (a2 : Nat) (a3 : Nat) (a4 : Nat) (a5 : Nat) (a6 : Nat) (a7 : Nat) (x8 : Int32) (x13 : Int32) (v18 : Value) (v19 : Value) (b20 : Nat) (v21 : Value) (v22 : Value) (v23 : Value) (v24 : Value) (f25 : Nat → Option Nat) (b27 : Nat) (v29 : Value) (f30 : Nat → Int64) (v32 : Value) (v33 : Value) (f34 : Nat → Int32) (f35 : Nat → Int64) (h9 : ¬ x8 < 0) (h10 : ¬ 7 < x8) (h11 : x8 ≤ 7) (h12 : vp_in x8 8) (h14 : ¬ x13 < 0) (h15 : ¬ 7 < x13) (h16 : x13 ≤ 7) (h17 : vp_in x13 8) (h26 : f25 x13.toNatClampNeg = some a3) (h28 : f25 x8.toNatClampNeg = some b27) (h31 : f30 0 = 0) : xMet l yL_one wyL_one 9 0 0 199 D cT aK aV sz [.ref a0, .int x8, .int 4, .int x13] [(a0, .inr (0, [v18, v19, .ref a5, .ref a2, .ref b20, .ref a1, v21, v22])), (a1, .inr (2, [.ref a7, v23, v24])), (a2, .inl (cT 3, 8, .inr (.inr (.inr (.inr f25))))), (a3, .inr (2, [.ref a4, .int 1, v29])), (a4, .inl (cT 2, 4096, .inr (.inl f30))), (a5, .inr (1, [.ref a6, v32, v33])), (a6, .inl (cT 0, 4096, .inl f34)), (a7, .inl (cT 2, 4096, .inr (.inl f35)))] (fun A => va_Qi (fun (r : Int32) (_ : Unit) => r = 0) (fun _ t => ∃ (y1 : Int32) (y2 : Int32) (y3 : Int32) (y4 : Int32) (y5 : Int32) (y6 : Int32), xB D xcl cT A [(a0, .inr (0, [v18, v19, .ref a5, .ref a2, .ref b20, .ref a1, v21, v22])), (a1, .inr (2, [.ref a7, .int 5, .int 0])), (a2, .inl (cT 3, 8, .inr (.inr (.inr (.inr (va_up f25 x8.toNatClampNeg (some a1))))))), (a3, .inr (2, [.ref a4, .int 1, v29])), (a4, .inl (cT 2, 4096, .inr (.inl f30))), (a5, .inr (1, [.ref a6, .int 6, .int 0])), (a6, .inl (cT 0, 4096, .inl (upd (upd (upd (upd (upd (upd (upd (upd (upd (upd f34 0 110) 1 117) 2 108) 3 108) 0 (vp_nar .byte y1)) 1 (vp_nar .byte y2)) 2 (vp_nar .byte y3)) 3 (vp_nar .byte y4)) 4 (vp_nar .byte y5)) 5 (vp_nar .byte y6)))), (a7, .inl (cT 2, 4096, .inr (.inl (vp_updL (vp_updL (vp_updL (vp_updL (vp_updL (vp_updL f35 0 0) 1 110) 2 117) 3 108) 4 108) 0 2621476))))] t) A) := by
  refine va_MetW (cc := method_10_code) (maxL := 5) (ret := (some .int)) (hh := [(0, 7, 10, 19), (0, 7, 14, 33), (0, 7, 18, 13)]) (by decide) rfl ?_
  intro p e s m args below meth c s₁ B hml hv
  obtain ⟨rfl, hsz, hZ, hP, hK, hD0⟩ := hv
  have hx := B.exec
  have hb := B.bytes
  have hr := B.returns
  have hts := atoms_spec (ws := wyL_one) B.pre
  have htx := fun w h => hts w (List.mem_cons_of_mem _ h)
  have hown : s.vm.findClass "ValueBenchLaw" = some m.cls := findClass_of_methodNamed B.named
  have hlocks := B.notSynchronized
  subst hsz
  have hD := hD0.self (sz := s.heap.size)
  generalize hAe : va_A [(a0, .inr (0, [v18, v19, .ref a5, .ref a2, .ref b20, .ref a1, v21, v22])), (a1, .inr (2, [.ref a7, v23, v24])), (a2, .inl (cT 3, 8, .inr (.inr (.inr (.inr f25))))), (a3, .inr (2, [.ref a4, .int 1, v29])), (a4, .inl (cT 2, 4096, .inr (.inl f30))), (a5, .inr (1, [.ref a6, v32, v33])), (a6, .inl (cT 0, 4096, .inl f34)), (a7, .inl (cT 2, 4096, .inr (.inl f35)))] s.heap.size = A at hD hZ ⊢
  have hA : ∀ q : Nat, s.heap.size ≤ q → A q := fun q h => by rw [← hAe]; exact Or.inr h
  have hS : va_S A s.heap s.heap [] := va_S.rf
  have hP : va_P D xcl [(a0, .inr (0, [v18, v19, .ref a5, .ref a2, .ref b20, .ref a1, v21, v22])), (a1, .inr (2, [.ref a7, v23, v24])), (a2, .inl (cT 3, 8, .inr (.inr (.inr (.inr f25))))), (a3, .inr (2, [.ref a4, .int 1, v29])), (a4, .inl (cT 2, 4096, .inr (.inl f30))), (a5, .inr (1, [.ref a6, v32, v33])), (a6, .inl (cT 0, 4096, .inl f34)), (a7, .inl (cT 2, 4096, .inr (.inl f35)))] s.heap := hP
  have hl := lv_entry ([.ref a0, .int x8, .int 4, .int x13]) (n := 5) (Nat.le_of_ble_eq_true rfl)
  rw [lg_entry_eq]
  generalize (lg_sl ([.ref a0, .int x8, .int 4, .int x13]) ++ List.replicate (5 - (lg_sl ([.ref a0, .int x8, .int 4, .int x13])).length) Slot.unset).toArray = ls at hl ⊢
  have hl : lv_has ls 5 [(0, .ref a0), (1, .int x8), (2, .int 4), (3, .int x13)] := hl
  have htab := vx_table (x := yL_one) B (hts _ List.mem_cons_self)
  refine lv_aload_n hx hb dL_one_0 rfl (lv_at hl 0 rfl) ?_
  refine lv_iload_n hx hb dL_one_1 rfl (lv_at hl 1 rfl) ?_
  refine lv_iload_n hx hb dL_one_2 rfl (lv_at hl 2 rfl) ?_
  refine lv_iload_n hx hb dL_one_3 rfl (lv_at hl 3 rfl) ?_
  obtain ⟨hPc, hDc, hFc⟩ := xcut (wc := [(a0, .inr (0, [v18, v19, .ref a5, .ref a2, .ref b20, .ref a1, v21, v22])), (a1, .inr (2, [.ref a7, v23, v24])), (a2, .inl (cT 3, 8, .inr (.inr (.inr (.inr f25))))), (a3, .inr (2, [.ref a4, .int 1, v29])), (a4, .inl (cT 2, 4096, .inr (.inl f30))), (a5, .inr (1, [.ref a6, v32, v33])), (a6, .inl (cT 0, 4096, .inl f34)), (a7, .inl (cT 2, 4096, .inr (.inl f35)))]) hP hD hS hA [0, 1, 2, 3, 4, 5, 6, 7] rfl rfl (by decide)
  refine va_callv (va_runV (C := "ValueBench") (As := [.int x8, .int 4, .int x13]) (rest := []) ⟨hx, hb, hml, hown, htx⟩ (cB_one_4 l hl9 D cT aK aV s.heap.size a0 a1 a2 a3 a4 a5 a6 a7 x8 x13 v18 v19 b20 v21 v22 v23 v24 f25 b27 v29 f30 v32 v33 f34 f35 h9 h10 h11 h12 h14 h15 h16 h17 (by first | rfl | exact h26 | exact h28 | exact h31) (by first | rfl | exact h26 | exact h28 | exact h31) (by first | rfl | exact h26 | exact h28 | exact h31)) ⟨callB_of 3 htx (xw_goodC kw_4_25) rfl rfl rfl (htx _ kw_1_1) (htx _ kw_4_22) ⟨by decide, by decide, by decide +kernel⟩ ⟨Nat.le_of_ble_eq_true rfl, Nat.le_of_ble_eq_true rfl⟩, (htx _ kw_4_23), (htx _ kw_4_24)⟩ ⟨xPre_blind, va_recv hK hP (ci := 0) rfl (q0 := 0) rfl, (fun U hU hW => ⟨rfl, xPre_of hZ hS hFc hPc hDc hK U hU hW⟩)⟩ rfl rfl hl.1 rfl (lv_room (Nat.le_of_ble_eq_true rfl)) dL_one_4 ⟨Nat.le_of_ble_eq_true rfl, Nat.le_of_ble_eq_true rfl⟩) hS (fun q _ h => hFc q h) hFc (fun u9 t H1 locs ht hvm hr9 hB hz1 hk1 hS => ?_)
  obtain ⟨y1, y2, y3, y4, y5, y6, hP1, hK1, hD1⟩ := hB
  rw [ht] at hP1
  obtain ⟨hP, hD⟩ := xjoin (W := [(a0, .inr (0, [v18, v19, .ref a5, .ref a2, .ref b20, .ref a1, v21, v22])), (a1, .inr (2, [.ref a7, .int 5, .int 0])), (a2, .inl (cT 3, 8, .inr (.inr (.inr (.inr (va_up f25 x8.toNatClampNeg (some a1))))))), (a3, .inr (2, [.ref a4, .int 1, v29])), (a4, .inl (cT 2, 4096, .inr (.inl f30))), (a5, .inr (1, [.ref a6, .int 6, .int 0])), (a6, .inl (cT 0, 4096, .inl (upd (upd (upd (upd (upd (upd (upd (upd (upd (upd f34 0 110) 1 117) 2 108) 3 108) 0 (vp_nar .byte y1)) 1 (vp_nar .byte y2)) 2 (vp_nar .byte y3)) 3 (vp_nar .byte y4)) 4 (vp_nar .byte y5)) 5 (vp_nar .byte y6)))), (a7, .inl (cT 2, 4096, .inr (.inl (vp_updL (vp_updL (vp_updL (vp_updL (vp_updL (vp_updL f35 0 0) 1 110) 2 117) 3 108) 4 108) 0 2621476))))]) hP hD [0, 1, 2, 3, 4, 5, 6, 7] [] 0 rfl rfl (by decide) (by decide) hk1 hFc hP1 hD1
  generalize H1 = H at hP hS ⊢
  refine lv_goto (tgt := 22) hx hb dL_one_7 (by decide) ?_
  refine lv_iconst (v := 0) hx hb dL_one_22 (by decide) ?_
  obtain ⟨hP9, hD9⟩ := xsub (wc := [(a0, .inr (0, [v18, v19, .ref a5, .ref a2, .ref b20, .ref a1, v21, v22])), (a1, .inr (2, [.ref a7, .int 5, .int 0])), (a2, .inl (cT 3, 8, .inr (.inr (.inr (.inr (va_up f25 x8.toNatClampNeg (some a1))))))), (a3, .inr (2, [.ref a4, .int 1, v29])), (a4, .inl (cT 2, 4096, .inr (.inl f30))), (a5, .inr (1, [.ref a6, .int 6, .int 0])), (a6, .inl (cT 0, 4096, .inl (upd (upd (upd (upd (upd (upd (upd (upd (upd (upd f34 0 110) 1 117) 2 108) 3 108) 0 (vp_nar .byte y1)) 1 (vp_nar .byte y2)) 2 (vp_nar .byte y3)) 3 (vp_nar .byte y4)) 4 (vp_nar .byte y5)) 5 (vp_nar .byte y6)))), (a7, .inl (cT 2, 4096, .inr (.inl (vp_updL (vp_updL (vp_updL (vp_updL (vp_updL (vp_updL f35 0 0) 1 110) 2 117) 3 108) 4 108) 0 2621476))))]) hP hD [0, 1, 2, 3, 4, 5, 6, 7] rfl rfl (by decide)
  refine W.widen (k := 0) (n := 0) (Nat.le_of_ble_eq_true rfl) (Nat.le_of_ble_eq_true rfl) ?_
  exact W.iret (v := 0) hx hb hr (fun t ht hW => ⟨⟨0, (), rfl, rfl, y1, y2, y3, y4, y5, y6, by rw [ht]; exact hP9, va_K.moved hW.alike hK, hD9⟩, hS.F ht⟩) hS.2.2 dL_one_23
set_option maxHeartbeats 400000000 in
set_option maxRecDepth 100000 in
theorem cB_isWithin_15 (l : Launch) (hl9 : l.stackTraces = false) (D : va_G) (cT : Nat → ClassId) (aK aV : Nat → Nat) (sz : Nat) : xMet l yB_isWithin wyB_isWithin 0 0 0 0 D cT aK aV sz [.int 5, .int 13] [] (fun A => va_Qi (fun (r : Int32) (_ : Unit) => r = 1) (fun _ t => xB D xcl cT A [] t) A) := by
  refine Met.ofW (cc := prog_1_method_15_code) (maxL := 2) (ret := (some .boolean)) (by decide) rfl ?_
  intro p e s m args below meth c s₁ B hml hv
  obtain ⟨rfl, hsz, hZ, hP, hK, hD0⟩ := hv
  have hx := B.exec
  have hb := B.bytes
  have hr := B.returns
  have hts := atoms_spec (ws := wyB_isWithin) B.pre
  have htx := fun w h => hts w (List.mem_cons_of_mem _ h)
  have hown : s.vm.findClass "ValueBench" = some m.cls := findClass_of_methodNamed B.named
  have hlocks := B.notSynchronized
  subst hsz
  have hD := hD0.self (sz := s.heap.size)
  generalize hAe : va_A [] s.heap.size = A at hD hZ ⊢
  have hA : ∀ q : Nat, s.heap.size ≤ q → A q := fun q h => by rw [← hAe]; exact Or.inr h
  have hS : va_S A s.heap s.heap [] := va_S.rf
  have hP : va_P D xcl [] s.heap := hP
  have hl := lv_entry ([.int 5, .int 13]) (n := 2) (Nat.le_of_ble_eq_true rfl)
  rw [lg_entry_eq]
  generalize (lg_sl ([.int 5, .int 13]) ++ List.replicate (2 - (lg_sl ([.int 5, .int 13])).length) Slot.unset).toArray = ls at hl ⊢
  have hl : lv_has ls 2 [(0, .int 5), (1, .int 13)] := hl
  refine lv_iload_n hx hb dB_isWithin_0 rfl (lv_at hl 0 rfl) ?_
  refine lv_if_lt (tgt := 13) hx hb dB_isWithin_1 (by decide) (fun h => ((by revert h; decide : False)).elim) (fun _ => ?_)
  refine lv_iload_n hx hb dB_isWithin_4 rfl (lv_at hl 0 rfl) ?_
  refine lv_iload_n hx hb dB_isWithin_5 rfl (lv_at hl 1 rfl) ?_
  refine lv_icmp_gt (tgt := 13) hx hb dB_isWithin_6 (by decide) (fun h => ((by revert h; decide : False)).elim) (fun _ => ?_)
  refine lv_iconst (v := 1) hx hb dB_isWithin_9 (by decide) ?_
  refine lv_goto (tgt := 14) hx hb dB_isWithin_10 (by decide) ?_
  obtain ⟨hP9, hD9⟩ := xsub (wc := []) hP hD [] rfl rfl (by decide)
  refine W.widen (k := 0) (n := 0) (Nat.le_of_ble_eq_true rfl) (Nat.le_of_ble_eq_true rfl) ?_
  exact W.zret (v := 1) hx hb hr rfl (fun t ht hW => ⟨⟨1, (), rfl, rfl, by rw [ht]; exact hP9, va_K.moved hW.alike hK, hD9⟩, hS.F ht⟩) hS.2.2 dB_isWithin_14
set_option maxHeartbeats 400000000 in
set_option maxRecDepth 100000 in
theorem cR_is_4 (l : Launch) (hl9 : l.stackTraces = false) (D : va_G) (cT : Nat → ClassId) (aK aV : Nat → Nat) (sz : Nat) (a0 : Nat) (a1 : Nat) (v2 : Value) (f3 : Nat → Int64) (h4 : f3 0 = 0) : xMet l yR_is wyR_is 1 0 0 21 D cT aK aV sz [.ref a0, .int 0, .int 3] [(a0, .inr (2, [.ref a1, .int 1, v2])), (a1, .inl (cT 2, 4096, .inr (.inl f3)))] (fun A => va_Qi (fun (r : Int32) (_ : Unit) => r = 0) (fun _ t => xB D xcl cT A [(a0, .inr (2, [.ref a1, .int 1, v2])), (a1, .inl (cT 2, 4096, .inr (.inl f3)))] t) A) := by
  refine Met.ofW (cc := prog_8_method_7_code) (maxL := 3) (ret := (some .boolean)) (by decide) rfl ?_
  intro p e s m args below meth c s₁ B hml hv
  obtain ⟨rfl, hsz, hZ, hP, hK, hD0⟩ := hv
  have hx := B.exec
  have hb := B.bytes
  have hr := B.returns
  have hts := atoms_spec (ws := wyR_is) B.pre
  have htx := fun w h => hts w (List.mem_cons_of_mem _ h)
  have hown : s.vm.findClass "ValueBench$Row" = some m.cls := findClass_of_methodNamed B.named
  have hlocks := B.notSynchronized
  subst hsz
  have hD := hD0.self (sz := s.heap.size)
  generalize hAe : va_A [(a0, .inr (2, [.ref a1, .int 1, v2])), (a1, .inl (cT 2, 4096, .inr (.inl f3)))] s.heap.size = A at hD hZ ⊢
  have hA : ∀ q : Nat, s.heap.size ≤ q → A q := fun q h => by rw [← hAe]; exact Or.inr h
  have hS : va_S A s.heap s.heap [] := va_S.rf
  have hP : va_P D xcl [(a0, .inr (2, [.ref a1, .int 1, v2])), (a1, .inl (cT 2, 4096, .inr (.inl f3)))] s.heap := hP
  have hl := lv_entry ([.ref a0, .int 0, .int 3]) (n := 3) (Nat.le_of_ble_eq_true rfl)
  rw [lg_entry_eq]
  generalize (lg_sl ([.ref a0, .int 0, .int 3]) ++ List.replicate (3 - (lg_sl ([.ref a0, .int 0, .int 3])).length) Slot.unset).toArray = ls at hl ⊢
  have hl : lv_has ls 3 [(0, .ref a0), (1, .int 0), (2, .int 3)] := hl
  refine lv_aload_n hx hb dR_is_0 rfl (lv_at hl 0 rfl) ?_
  refine lv_iload_n hx hb dR_is_1 rfl (lv_at hl 1 rfl) ?_
  obtain ⟨hPc, hDc, hFc⟩ := xcut (wc := [(a0, .inr (2, [.ref a1, .int 1, v2])), (a1, .inl (cT 2, 4096, .inr (.inl f3)))]) hP hD hS hA [0, 1] rfl rfl (by decide)
  refine va_calli (va_runV (C := "ValueBench$Row") (As := [.int 0]) (rest := []) ⟨hx, hb, hml, hown, htx⟩ (cR_kind_0 l hl9 D cT aK aV s.heap.size a0 a1 v2 f3 (by first | rfl | exact h4)) ⟨callB_of 1 htx (xw_goodC kw_3_24) rfl rfl rfl (htx _ kw_1_4) (htx _ kw_3_76) ⟨by decide, by decide, by decide +kernel⟩ ⟨Nat.le_of_ble_eq_true rfl, Nat.le_of_ble_eq_true rfl⟩, (htx _ kw_3_22), (htx _ kw_3_23)⟩ ⟨xPre_blind, va_recv hK hP (ci := 2) rfl (q0 := 0) rfl, (fun U hU hW => ⟨rfl, xPre_of hZ hS hFc hPc hDc hK U hU hW⟩)⟩ rfl rfl hl.1 rfl (lv_room (Nat.le_of_ble_eq_true rfl)) dR_is_2 ⟨Nat.le_of_ble_eq_true rfl, Nat.le_of_ble_eq_true rfl⟩) hS (fun q _ h => hFc q h) hFc (fun r1 u9 t H1 locs ht hvm hr9 hB hz1 hk1 hS => ?_)
  obtain ⟨hP1, hK1, hD1⟩ := hB
  rw [ht] at hP1
  obtain ⟨hP, hD⟩ := xjoin (W := [(a0, .inr (2, [.ref a1, .int 1, v2])), (a1, .inl (cT 2, 4096, .inr (.inl f3)))]) hP hD [0, 1] [] 0 rfl rfl (by decide) (by decide) hk1 hFc hP1 hD1
  generalize H1 = H at hP hS ⊢
  rw [hr9]
  refine W.eq (g2 := F0 m 5 ls [.int 0]) rfl ?_
  refine lv_iload_n hx hb dR_is_5 rfl (lv_at hl 2 rfl) ?_
  refine lv_icmp_ne (tgt := 13) hx hb dR_is_6 (by decide) (fun _ => ?_) (fun h => ((by revert h; decide : False)).elim)
  refine lv_iconst (v := 0) hx hb dR_is_13 (by decide) ?_
  obtain ⟨hP9, hD9⟩ := xsub (wc := [(a0, .inr (2, [.ref a1, .int 1, v2])), (a1, .inl (cT 2, 4096, .inr (.inl f3)))]) hP hD [0, 1] rfl rfl (by decide)
  refine W.widen (k := 0) (n := 0) (Nat.le_of_ble_eq_true rfl) (Nat.le_of_ble_eq_true rfl) ?_
  exact W.zret (v := 0) hx hb hr rfl (fun t ht hW => ⟨⟨0, (), rfl, rfl, by rw [ht]; exact hP9, va_K.moved hW.alike hK, hD9⟩, hS.F ht⟩) hS.2.2 dR_is_14
set_option maxHeartbeats 400000000 in
set_option maxRecDepth 100000 in
theorem cG_toNumber_0 (l : Launch) (hl9 : l.stackTraces = false) (D : va_G) (cT : Nat → ClassId) (aK aV : Nat → Nat) (sz : Nat) (a0 : Nat) (a1 : Nat) (b2 : Nat) (b3 : Nat) (v4 : Value) (f5 : Nat → Int64) (h6 : f5 0 = 0) : xMet l yG_toNumber wyG_toNumber 2 0 0 43 D cT aK aV sz [.ref a0, .ref b2, .ref b3] [(a0, .inr (2, [.ref a1, .int 1, v4])), (a1, .inl (cT 2, 4096, .inr (.inl f5)))] (fun A => va_Qi (fun (r : Int32) (_ : Unit) => r = 1) (fun _ t => xB D xcl cT A [(a0, .inr (2, [.ref a1, .int 1, v4])), (a1, .inl (cT 2, 4096, .inr (.inl f5)))] t) A) := by
  refine Met.ofW (cc := prog_9_method_8_code) (maxL := 3) (ret := (some .int)) (by decide) rfl ?_
  intro p e s m args below meth c s₁ B hml hv
  obtain ⟨rfl, hsz, hZ, hP, hK, hD0⟩ := hv
  have hx := B.exec
  have hb := B.bytes
  have hr := B.returns
  have hts := atoms_spec (ws := wyG_toNumber) B.pre
  have htx := fun w h => hts w (List.mem_cons_of_mem _ h)
  have hown : s.vm.findClass "ValueBench$Singles" = some m.cls := findClass_of_methodNamed B.named
  have hlocks := B.notSynchronized
  subst hsz
  have hD := hD0.self (sz := s.heap.size)
  generalize hAe : va_A [(a0, .inr (2, [.ref a1, .int 1, v4])), (a1, .inl (cT 2, 4096, .inr (.inl f5)))] s.heap.size = A at hD hZ ⊢
  have hA : ∀ q : Nat, s.heap.size ≤ q → A q := fun q h => by rw [← hAe]; exact Or.inr h
  have hS : va_S A s.heap s.heap [] := va_S.rf
  have hP : va_P D xcl [(a0, .inr (2, [.ref a1, .int 1, v4])), (a1, .inl (cT 2, 4096, .inr (.inl f5)))] s.heap := hP
  have hl := lv_entry ([.ref a0, .ref b2, .ref b3]) (n := 3) (Nat.le_of_ble_eq_true rfl)
  rw [lg_entry_eq]
  generalize (lg_sl ([.ref a0, .ref b2, .ref b3]) ++ List.replicate (3 - (lg_sl ([.ref a0, .ref b2, .ref b3])).length) Slot.unset).toArray = ls at hl ⊢
  have hl : lv_has ls 3 [(0, .ref a0), (1, .ref b2), (2, .ref b3)] := hl
  refine lv_aload_n hx hb dG_toNumber_0 rfl (lv_at hl 0 rfl) ?_
  refine lv_iconst (v := 0) hx hb dG_toNumber_1 (by decide) ?_
  refine lv_iconst (v := 3) hx hb dG_toNumber_2 (by decide) ?_
  obtain ⟨hPc, hDc, hFc⟩ := xcut (wc := [(a0, .inr (2, [.ref a1, .int 1, v4])), (a1, .inl (cT 2, 4096, .inr (.inl f5)))]) hP hD hS hA [0, 1] rfl rfl (by decide)
  refine va_calli (va_runV (C := "ValueBench$Row") (As := [.int 0, .int 3]) (rest := []) ⟨hx, hb, hml, hown, htx⟩ (cR_is_4 l hl9 D cT aK aV s.heap.size a0 a1 v4 f5 (by first | rfl | exact h6)) ⟨callB_of 2 htx (xw_goodC kw_3_75) rfl rfl rfl (htx _ kw_1_4) (htx _ kw_4_29) ⟨by decide, by decide, by decide +kernel⟩ ⟨Nat.le_of_ble_eq_true rfl, Nat.le_of_ble_eq_true rfl⟩, (htx _ kw_3_73), (htx _ kw_3_74)⟩ ⟨xPre_blind, va_recv hK hP (ci := 2) rfl (q0 := 0) rfl, (fun U hU hW => ⟨rfl, xPre_of hZ hS hFc hPc hDc hK U hU hW⟩)⟩ rfl rfl hl.1 rfl (lv_room (Nat.le_of_ble_eq_true rfl)) dG_toNumber_3 ⟨Nat.le_of_ble_eq_true rfl, Nat.le_of_ble_eq_true rfl⟩) hS (fun q _ h => hFc q h) hFc (fun r1 u9 t H1 locs ht hvm hr9 hB hz1 hk1 hS => ?_)
  obtain ⟨hP1, hK1, hD1⟩ := hB
  rw [ht] at hP1
  obtain ⟨hP, hD⟩ := xjoin (W := [(a0, .inr (2, [.ref a1, .int 1, v4])), (a1, .inl (cT 2, 4096, .inr (.inl f5)))]) hP hD [0, 1] [] 0 rfl rfl (by decide) (by decide) hk1 hFc hP1 hD1
  generalize H1 = H at hP hS ⊢
  rw [hr9]
  refine W.eq (g2 := F0 m 6 ls [.int 0]) rfl ?_
  refine lv_if_eq (tgt := 15) hx hb dG_toNumber_6 (by decide) (fun _ => ?_) (fun h => ((by revert h; decide : False)).elim)
  refine lv_aload_n hx hb dG_toNumber_15 rfl (lv_at hl 0 rfl) ?_
  refine lv_iconst (v := 0) hx hb dG_toNumber_16 (by decide) ?_
  refine lv_iconst (v := 4) hx hb dG_toNumber_17 (by decide) ?_
  obtain ⟨hPc, hDc, hFc⟩ := xcut (wc := [(a0, .inr (2, [.ref a1, .int 1, v4])), (a1, .inl (cT 2, 4096, .inr (.inl f5)))]) hP hD hS hA [0, 1] rfl rfl (by decide)
  refine va_calli (va_runV (C := "ValueBench$Row") (As := [.int 0, .int 4]) (rest := []) ⟨hx, hb, hml, hown, htx⟩ (cR_is_3 l hl9 D cT aK aV H.size a0 a1 v4 f5 (by first | rfl | exact h6)) ⟨callB_of 2 htx (xw_goodC kw_3_75) rfl rfl rfl (htx _ kw_1_4) (htx _ kw_4_29) ⟨by decide, by decide, by decide +kernel⟩ ⟨Nat.le_of_ble_eq_true rfl, Nat.le_of_ble_eq_true rfl⟩, (htx _ kw_3_73), (htx _ kw_3_74)⟩ ⟨xPre_blind, va_recv hK hP (ci := 2) rfl (q0 := 0) rfl, (fun U hU hW => ⟨rfl, xPre_of hZ hS hFc hPc hDc hK U hU hW⟩)⟩ rfl rfl hl.1 rfl (lv_room (Nat.le_of_ble_eq_true rfl)) dG_toNumber_18 ⟨Nat.le_of_ble_eq_true rfl, Nat.le_of_ble_eq_true rfl⟩) hS (fun q _ h => hFc q h) hFc (fun r2 u9 t H1 locs ht hvm hr9 hB hz1 hk1 hS => ?_)
  obtain ⟨hP1, hK1, hD1⟩ := hB
  rw [ht] at hP1
  obtain ⟨hP, hD⟩ := xjoin (W := [(a0, .inr (2, [.ref a1, .int 1, v4])), (a1, .inl (cT 2, 4096, .inr (.inl f5)))]) hP hD [0, 1] [] 0 rfl rfl (by decide) (by decide) hk1 hFc hP1 hD1
  generalize H1 = H at hP hS ⊢
  rw [hr9]
  refine W.eq (g2 := F0 m 21 ls [.int 0]) rfl ?_
  refine lv_if_ne (tgt := 26) hx hb dG_toNumber_21 (by decide) (fun h => ((by revert h; decide : False)).elim) (fun _ => ?_)
  refine lv_iconst (v := 1) hx hb dG_toNumber_24 (by decide) ?_
  obtain ⟨hP9, hD9⟩ := xsub (wc := [(a0, .inr (2, [.ref a1, .int 1, v4])), (a1, .inl (cT 2, 4096, .inr (.inl f5)))]) hP hD [0, 1] rfl rfl (by decide)
  refine W.widen (k := 0) (n := 0) (Nat.le_of_ble_eq_true rfl) (Nat.le_of_ble_eq_true rfl) ?_
  exact W.iret (v := 1) hx hb hr (fun t ht hW => ⟨⟨1, (), rfl, rfl, by rw [ht]; exact hP9, va_K.moved hW.alike hK, hD9⟩, hS.F ht⟩) hS.2.2 dG_toNumber_25
set_option maxHeartbeats 400000000 in
set_option maxRecDepth 100000 in
theorem cG_apply_5 (l : Launch) (hl9 : l.stackTraces = false) (D : va_G) (cT : Nat → ClassId) (aK aV : Nat → Nat) (sz : Nat) (a0 : Nat) (a1 : Nat) (b2 : Nat) (b3 : Nat) (b4 : Nat) (v5 : Value) (f6 : Nat → Int64) (h7 : f6 0 = 0) : xMet l yG_apply wyG_apply 3 0 0 65 D cT aK aV sz [.int 5, .ref a0, .ref b2, .ref b3, .ref b4] [(a0, .inr (2, [.ref a1, .int 1, v5])), (a1, .inl (cT 2, 4096, .inr (.inl f6)))] (fun A => va_Qi (fun (r : Int32) (_ : Unit) => r = 1) (fun _ t => xB D xcl cT A [(a0, .inr (2, [.ref a1, .int 1, v5])), (a1, .inl (cT 2, 4096, .inr (.inl f6)))] t) A) := by
  refine Met.ofW (cc := prog_9_method_2_code) (maxL := 5) (ret := (some .int)) (by decide) rfl ?_
  intro p e s m args below meth c s₁ B hml hv
  obtain ⟨rfl, hsz, hZ, hP, hK, hD0⟩ := hv
  have hx := B.exec
  have hb := B.bytes
  have hr := B.returns
  have hts := atoms_spec (ws := wyG_apply) B.pre
  have htx := fun w h => hts w (List.mem_cons_of_mem _ h)
  have hown : s.vm.findClass "ValueBench$Singles" = some m.cls := findClass_of_methodNamed B.named
  have hlocks := B.notSynchronized
  subst hsz
  have hD := hD0.self (sz := s.heap.size)
  generalize hAe : va_A [(a0, .inr (2, [.ref a1, .int 1, v5])), (a1, .inl (cT 2, 4096, .inr (.inl f6)))] s.heap.size = A at hD hZ ⊢
  have hA : ∀ q : Nat, s.heap.size ≤ q → A q := fun q h => by rw [← hAe]; exact Or.inr h
  have hS : va_S A s.heap s.heap [] := va_S.rf
  have hP : va_P D xcl [(a0, .inr (2, [.ref a1, .int 1, v5])), (a1, .inl (cT 2, 4096, .inr (.inl f6)))] s.heap := hP
  have hl := lv_entry ([.int 5, .ref a0, .ref b2, .ref b3, .ref b4]) (n := 5) (Nat.le_of_ble_eq_true rfl)
  rw [lg_entry_eq]
  generalize (lg_sl ([.int 5, .ref a0, .ref b2, .ref b3, .ref b4]) ++ List.replicate (5 - (lg_sl ([.int 5, .ref a0, .ref b2, .ref b3, .ref b4])).length) Slot.unset).toArray = ls at hl ⊢
  have hl : lv_has ls 5 [(0, .int 5), (1, .ref a0), (2, .ref b2), (3, .ref b3), (4, .ref b4)] := hl
  refine lv_iload_n hx hb dG_apply_0 rfl (lv_at hl 0 rfl) ?_
  refine lv_tableIn (off := 164) (tgt := 165) hx hb dG_apply_1 (by decide) (by decide) (by decide) (by decide) ?_
  refine lv_aload_n hx hb dG_apply_165 rfl (lv_at hl 1 rfl) ?_
  refine lv_aload_n hx hb dG_apply_166 rfl (lv_at hl 2 rfl) ?_
  refine lv_aload hx hb dG_apply_167 (lv_at hl 4 rfl) ?_
  obtain ⟨hPc, hDc, hFc⟩ := xcut (wc := [(a0, .inr (2, [.ref a1, .int 1, v5])), (a1, .inl (cT 2, 4096, .inr (.inl f6)))]) hP hD hS hA [0, 1] rfl rfl (by decide)
  refine va_calli (va_runS (As := [.ref a0, .ref b2, .ref b4]) (rest := []) ⟨hx, hb, hml, hown, htx⟩ (cG_toNumber_0 l hl9 D cT aK aV s.heap.size a0 a1 b2 b4 v5 f6 (by first | rfl | exact h7)) ⟨callB_of 3 htx (xw_goodC kw_4_92) rfl rfl rfl (htx _ kw_1_26) (htx _ kw_4_90) ⟨by decide, by decide, by decide +kernel⟩ ⟨Nat.le_of_ble_eq_true rfl, Nat.le_of_ble_eq_true rfl⟩, htx _ kw_4_91⟩ ⟨xPre_blind, (fun U hU hW => ⟨rfl, xPre_of hZ hS hFc hPc hDc hK U hU hW⟩)⟩ rfl rfl hl.1 rfl (lv_room (Nat.le_of_ble_eq_true rfl)) dG_apply_169 ⟨Nat.le_of_ble_eq_true rfl, Nat.le_of_ble_eq_true rfl⟩) hS (fun q _ h => hFc q h) hFc (fun r1 u9 t H1 locs ht hvm hr9 hB hz1 hk1 hS => ?_)
  obtain ⟨hP1, hK1, hD1⟩ := hB
  rw [ht] at hP1
  obtain ⟨hP, hD⟩ := xjoin (W := [(a0, .inr (2, [.ref a1, .int 1, v5])), (a1, .inl (cT 2, 4096, .inr (.inl f6)))]) hP hD [0, 1] [] 0 rfl rfl (by decide) (by decide) hk1 hFc hP1 hD1
  generalize H1 = H at hP hS ⊢
  rw [hr9]
  refine W.eq (g2 := F0 m 172 ls [.int 1]) rfl ?_
  obtain ⟨hP9, hD9⟩ := xsub (wc := [(a0, .inr (2, [.ref a1, .int 1, v5])), (a1, .inl (cT 2, 4096, .inr (.inl f6)))]) hP hD [0, 1] rfl rfl (by decide)
  refine W.widen (k := 0) (n := 0) (Nat.le_of_ble_eq_true rfl) (Nat.le_of_ble_eq_true rfl) ?_
  exact W.iret (v := 1) hx hb hr (fun t ht hW => ⟨⟨1, (), rfl, rfl, by rw [ht]; exact hP9, va_K.moved hW.alike hK, hD9⟩, hS.F ht⟩) hS.2.2 dG_apply_172
set_option maxHeartbeats 400000000 in
set_option maxRecDepth 100000 in
theorem cB_one_5 (l : Launch) (hl9 : l.stackTraces = false) (D : va_G) (cT : Nat → ClassId) (aK aV : Nat → Nat) (sz : Nat) (a0 : Nat) (a1 : Nat) (a2 : Nat) (a3 : Nat) (a4 : Nat) (x5 : Int32) (x10 : Int32) (v15 : Value) (v16 : Value) (b17 : Nat) (b18 : Nat) (v19 : Value) (v20 : Value) (v21 : Value) (v22 : Value) (v23 : Value) (f24 : Nat → Option Nat) (v26 : Value) (f27 : Nat → Int64) (h6 : ¬ x5 < 0) (h7 : ¬ 7 < x5) (h8 : x5 ≤ 7) (h9 : vp_in x5 8) (h11 : ¬ x10 < 0) (h12 : ¬ 7 < x10) (h13 : x10 ≤ 7) (h14 : vp_in x10 8) (h25 : f24 x10.toNatClampNeg = some a3) (h28 : f27 0 = 0) : xMetX l yB_one wyB_one 7 1 6 121 D cT aK aV sz [.ref a0, .int x5, .int 5, .int x10] [(a0, .inr (0, [v15, v16, .ref b17, .ref a2, .ref b18, .ref a1, v19, v20])), (a1, .inr (2, [v21, v22, v23])), (a2, .inl (cT 3, 8, .inr (.inr (.inr (.inr f24))))), (a3, .inr (2, [.ref a4, .int 1, v26])), (a4, .inl (cT 2, 4096, .inr (.inl f27)))] "java/lang/ArithmeticException" (fun A t => xB D xcl cT A [(a0, .inr (0, [v15, v16, .ref b17, .ref a2, .ref b18, .ref a1, v19, .int 1])), (a1, .inr (2, [v21, .int 0, .int 0])), (a2, .inl (cT 3, 8, .inr (.inr (.inr (.inr f24))))), (a3, .inr (2, [.ref a4, .int 1, v26])), (a4, .inl (cT 2, 4096, .inr (.inl f27)))] t) := by
  refine vx_ofW (cc := prog_1_method_9_code) (maxL := 4) (ret := none) (by decide) rfl ?_
  intro p e s m args below meth c s₁ B hml hne hv
  obtain ⟨rfl, hsz, hZ, hP, hK, hD0⟩ := hv
  have hx := B.exec
  have hb := B.bytes
  have hr := B.returns
  have hts := atoms_spec (ws := wyB_one) B.pre
  have htx := fun w h => hts w (List.mem_cons_of_mem _ h)
  have hown : s.vm.findClass "ValueBench" = some m.cls := findClass_of_methodNamed B.named
  have hlocks := B.notSynchronized
  subst hsz
  have hD := hD0.self (sz := s.heap.size)
  generalize hAe : va_A [(a0, .inr (0, [v15, v16, .ref b17, .ref a2, .ref b18, .ref a1, v19, v20])), (a1, .inr (2, [v21, v22, v23])), (a2, .inl (cT 3, 8, .inr (.inr (.inr (.inr f24))))), (a3, .inr (2, [.ref a4, .int 1, v26])), (a4, .inl (cT 2, 4096, .inr (.inl f27)))] s.heap.size = A at hD hZ ⊢
  have hA : ∀ q : Nat, s.heap.size ≤ q → A q := fun q h => by rw [← hAe]; exact Or.inr h
  have hS : va_S A s.heap s.heap [] := va_S.rf
  have hP : va_P D xcl [(a0, .inr (0, [v15, v16, .ref b17, .ref a2, .ref b18, .ref a1, v19, v20])), (a1, .inr (2, [v21, v22, v23])), (a2, .inl (cT 3, 8, .inr (.inr (.inr (.inr f24))))), (a3, .inr (2, [.ref a4, .int 1, v26])), (a4, .inl (cT 2, 4096, .inr (.inl f27)))] s.heap := hP
  have hl := lv_entry ([.ref a0, .int x5, .int 5, .int x10]) (n := 4) (Nat.le_of_ble_eq_true rfl)
  rw [lg_entry_eq]
  generalize (lg_sl ([.ref a0, .int x5, .int 5, .int x10]) ++ List.replicate (4 - (lg_sl ([.ref a0, .int x5, .int 5, .int x10])).length) Slot.unset).toArray = ls at hl ⊢
  have hl : lv_has ls 4 [(0, .ref a0), (1, .int x5), (2, .int 5), (3, .int x10)] := hl
  refine lv_iload_n hx hb dB_one_0 rfl (lv_at hl 1 rfl) ?_
  obtain ⟨hPc, hDc, hFc⟩ := xcut (wc := []) hP hD hS hA [] rfl rfl (by decide)
  refine va_calli (va_runS (As := [.int x5]) (rest := []) ⟨hx, hb, hml, hown, htx⟩ (cB_isRegister_0 l hl9 D cT aK aV s.heap.size x5 h6 h7 h8 h9) ⟨callB_of 1 htx (xw_goodC kw_2_18) rfl rfl rfl (htx _ kw_1_1) (htx _ kw_2_16) ⟨by decide, by decide, by decide +kernel⟩ ⟨Nat.le_of_ble_eq_true rfl, Nat.le_of_ble_eq_true rfl⟩, htx _ kw_2_17⟩ ⟨xPre_blind, (fun U hU hW => ⟨rfl, xPre_of hZ hS hFc hPc hDc hK U hU hW⟩)⟩ rfl rfl hl.1 rfl (lv_room (Nat.le_of_ble_eq_true rfl)) dB_one_1 ⟨Nat.le_of_ble_eq_true rfl, Nat.le_of_ble_eq_true rfl⟩) hS (fun q _ h => hFc q h) hFc (fun r1 u9 t H1 locs ht hvm hr9 hB hz1 hk1 hS => ?_)
  obtain ⟨hP1, hK1, hD1⟩ := hB
  rw [ht] at hP1
  obtain ⟨hP, hD⟩ := xjoin (W := [(a0, .inr (0, [v15, v16, .ref b17, .ref a2, .ref b18, .ref a1, v19, v20])), (a1, .inr (2, [v21, v22, v23])), (a2, .inl (cT 3, 8, .inr (.inr (.inr (.inr f24))))), (a3, .inr (2, [.ref a4, .int 1, v26])), (a4, .inl (cT 2, 4096, .inr (.inl f27)))]) hP hD [] [0, 1, 2, 3, 4] 5 rfl rfl (by decide) (by decide) hk1 hFc hP1 hD1
  generalize H1 = H at hP hS ⊢
  rw [hr9]
  refine W.eq (g2 := F0 m 4 ls [.int 1]) rfl ?_
  refine lv_if_eq (tgt := 27) hx hb dB_one_4 (by decide) (fun h => ((by revert h; decide : False)).elim) (fun _ => ?_)
  refine lv_iload_n hx hb dB_one_7 rfl (lv_at hl 2 rfl) ?_
  refine lv_bipush (v := 13) hx hb dB_one_8 (by decide) ?_
  obtain ⟨hPc, hDc, hFc⟩ := xcut (wc := []) hP hD hS hA [] rfl rfl (by decide)
  refine va_calli (va_runS (As := [.int 5, .int 13]) (rest := []) ⟨hx, hb, hml, hown, htx⟩ (cB_isWithin_15 l hl9 D cT aK aV H.size) ⟨callB_of 2 htx (xw_goodC kw_1_218) rfl rfl rfl (htx _ kw_1_1) (htx _ kw_1_216) ⟨by decide, by decide, by decide +kernel⟩ ⟨Nat.le_of_ble_eq_true rfl, Nat.le_of_ble_eq_true rfl⟩, htx _ kw_1_217⟩ ⟨xPre_blind, (fun U hU hW => ⟨rfl, xPre_of hZ hS hFc hPc hDc hK U hU hW⟩)⟩ rfl rfl hl.1 rfl (lv_room (Nat.le_of_ble_eq_true rfl)) dB_one_10 ⟨Nat.le_of_ble_eq_true rfl, Nat.le_of_ble_eq_true rfl⟩) hS (fun q _ h => hFc q h) hFc (fun r2 u9 t H1 locs ht hvm hr9 hB hz1 hk1 hS => ?_)
  obtain ⟨hP1, hK1, hD1⟩ := hB
  rw [ht] at hP1
  obtain ⟨hP, hD⟩ := xjoin (W := [(a0, .inr (0, [v15, v16, .ref b17, .ref a2, .ref b18, .ref a1, v19, v20])), (a1, .inr (2, [v21, v22, v23])), (a2, .inl (cT 3, 8, .inr (.inr (.inr (.inr f24))))), (a3, .inr (2, [.ref a4, .int 1, v26])), (a4, .inl (cT 2, 4096, .inr (.inl f27)))]) hP hD [] [0, 1, 2, 3, 4] 5 rfl rfl (by decide) (by decide) hk1 hFc hP1 hD1
  generalize H1 = H at hP hS ⊢
  rw [hr9]
  refine W.eq (g2 := F0 m 13 ls [.int 1]) rfl ?_
  refine lv_if_eq (tgt := 27) hx hb dB_one_13 (by decide) (fun h => ((by revert h; decide : False)).elim) (fun _ => ?_)
  refine lv_iload_n hx hb dB_one_16 rfl (lv_at hl 3 rfl) ?_
  obtain ⟨hPc, hDc, hFc⟩ := xcut (wc := []) hP hD hS hA [] rfl rfl (by decide)
  refine va_calli (va_runS (As := [.int x10]) (rest := []) ⟨hx, hb, hml, hown, htx⟩ (cB_isRegister_0 l hl9 D cT aK aV H.size x10 h11 h12 h13 h14) ⟨callB_of 1 htx (xw_goodC kw_2_18) rfl rfl rfl (htx _ kw_1_1) (htx _ kw_2_16) ⟨by decide, by decide, by decide +kernel⟩ ⟨Nat.le_of_ble_eq_true rfl, Nat.le_of_ble_eq_true rfl⟩, htx _ kw_2_17⟩ ⟨xPre_blind, (fun U hU hW => ⟨rfl, xPre_of hZ hS hFc hPc hDc hK U hU hW⟩)⟩ rfl rfl hl.1 rfl (lv_room (Nat.le_of_ble_eq_true rfl)) dB_one_17 ⟨Nat.le_of_ble_eq_true rfl, Nat.le_of_ble_eq_true rfl⟩) hS (fun q _ h => hFc q h) hFc (fun r3 u9 t H1 locs ht hvm hr9 hB hz1 hk1 hS => ?_)
  obtain ⟨hP1, hK1, hD1⟩ := hB
  rw [ht] at hP1
  obtain ⟨hP, hD⟩ := xjoin (W := [(a0, .inr (0, [v15, v16, .ref b17, .ref a2, .ref b18, .ref a1, v19, v20])), (a1, .inr (2, [v21, v22, v23])), (a2, .inl (cT 3, 8, .inr (.inr (.inr (.inr f24))))), (a3, .inr (2, [.ref a4, .int 1, v26])), (a4, .inl (cT 2, 4096, .inr (.inl f27)))]) hP hD [] [0, 1, 2, 3, 4] 5 rfl rfl (by decide) (by decide) hk1 hFc hP1 hD1
  generalize H1 = H at hP hS ⊢
  rw [hr9]
  refine W.eq (g2 := F0 m 20 ls [.int 1]) rfl ?_
  refine lv_if_eq (tgt := 27) hx hb dB_one_20 (by decide) (fun h => ((by revert h; decide : False)).elim) (fun _ => ?_)
  refine lv_iconst (v := 1) hx hb dB_one_23 (by decide) ?_
  refine lv_goto (tgt := 28) hx hb dB_one_24 (by decide) ?_
  obtain ⟨hPc, hDc, hFc⟩ := xcut (wc := []) hP hD hS hA [] rfl rfl (by decide)
  refine va_callv (va_runS (As := [.int 1]) (rest := []) ⟨hx, hb, hml, hown, htx⟩ (cB_demand_0 l hl9 D cT aK aV H.size) ⟨callB_of 1 htx (xw_goodC kw_1_221) rfl rfl rfl (htx _ kw_1_1) (htx _ kw_1_219) ⟨by decide, by decide, by decide +kernel⟩ ⟨Nat.le_of_ble_eq_true rfl, Nat.le_of_ble_eq_true rfl⟩, htx _ kw_1_220⟩ ⟨xPre_blind, (fun U hU hW => ⟨rfl, xPre_of hZ hS hFc hPc hDc hK U hU hW⟩)⟩ rfl rfl hl.1 rfl (lv_room (Nat.le_of_ble_eq_true rfl)) dB_one_28 ⟨Nat.le_of_ble_eq_true rfl, Nat.le_of_ble_eq_true rfl⟩) hS (fun q _ h => hFc q h) hFc (fun u9 t H1 locs ht hvm hr9 hB hz1 hk1 hS => ?_)
  obtain ⟨hP1, hK1, hD1⟩ := hB
  rw [ht] at hP1
  obtain ⟨hP, hD⟩ := xjoin (W := [(a0, .inr (0, [v15, v16, .ref b17, .ref a2, .ref b18, .ref a1, v19, v20])), (a1, .inr (2, [v21, v22, v23])), (a2, .inl (cT 3, 8, .inr (.inr (.inr (.inr f24))))), (a3, .inr (2, [.ref a4, .int 1, v26])), (a4, .inl (cT 2, 4096, .inr (.inl f27)))]) hP hD [] [0, 1, 2, 3, 4] 5 rfl rfl (by decide) (by decide) hk1 hFc hP1 hD1
  generalize H1 = H at hP hS ⊢
  refine lv_aload_n hx hb dB_one_31 rfl (lv_at hl 0 rfl) ?_
  refine va_get (D := D) (ci := 0) (v := .ref a1) (C := "ValueBench") (T := TB) (N := 8) hx hb htx inB hown hK hP 0 rfl rfl 5 (by decide) (htx _ kw_1_100) (fun _ h9 => h9) rfl dB_one_32 ?_
  obtain ⟨hPc, hDc, hFc⟩ := xcut (wc := [(a1, .inr (2, [v21, v22, v23]))]) hP hD hS hA [1] rfl rfl (by decide)
  refine va_callv (va_runV (C := "ValueBench$Row") (As := []) (rest := []) ⟨hx, hb, hml, hown, htx⟩ (cR_clear_0 l hl9 D cT aK aV H.size a1 v21 v22 v23) ⟨callB_of 0 htx (xw_goodC kw_2_22) rfl rfl rfl (htx _ kw_1_4) (htx _ kw_2_19) ⟨by decide, by decide, by decide +kernel⟩ ⟨Nat.le_of_ble_eq_true rfl, Nat.le_of_ble_eq_true rfl⟩, (htx _ kw_2_20), (htx _ kw_2_21)⟩ ⟨xPre_blind, va_recv hK hP (ci := 2) rfl (q0 := 1) rfl, (fun U hU hW => ⟨rfl, xPre_of hZ hS hFc hPc hDc hK U hU hW⟩)⟩ rfl rfl hl.1 rfl (lv_room (Nat.le_of_ble_eq_true rfl)) dB_one_35 ⟨Nat.le_of_ble_eq_true rfl, Nat.le_of_ble_eq_true rfl⟩) hS (fun q _ h => hFc q h) hFc (fun u9 t H1 locs ht hvm hr9 hB hz1 hk1 hS => ?_)
  obtain ⟨hP1, hK1, hD1⟩ := hB
  rw [ht] at hP1
  obtain ⟨hP, hD⟩ := xjoin (W := [(a0, .inr (0, [v15, v16, .ref b17, .ref a2, .ref b18, .ref a1, v19, v20])), (a2, .inl (cT 3, 8, .inr (.inr (.inr (.inr f24))))), (a3, .inr (2, [.ref a4, .int 1, v26])), (a4, .inl (cT 2, 4096, .inr (.inl f27))), (a1, .inr (2, [v21, .int 0, .int 0]))]) hP hD [1] [0, 2, 3, 4] 4 rfl rfl (by decide) (by decide) hk1 hFc hP1 hD1
  generalize H1 = H at hP hS ⊢
  refine lv_aload_n hx hb dB_one_38 rfl (lv_at hl 0 rfl) ?_
  refine lv_iload_n hx hb dB_one_39 rfl (lv_at hl 2 rfl) ?_
  refine lv_aload_n hx hb dB_one_40 rfl (lv_at hl 0 rfl) ?_
  refine va_get (D := D) (ci := 0) (v := .ref a2) (C := "ValueBench") (T := TB) (N := 8) hx hb htx inB hown hK hP 0 rfl rfl 3 (by decide) (htx _ kw_1_98) (fun _ h9 => h9) rfl dB_one_41 ?_
  refine lv_iload_n hx hb dB_one_44 rfl (lv_at hl 3 rfl) ?_
  refine va_aldq hx hb hK hP 1 3 rfl rfl h14 dB_one_45 ?_
  refine W.eq (g2 := F0 m 46 ls [va_rf (f24 x10.toNatClampNeg), .int 5, .ref a0]) rfl ?_
  rw [h25]
  refine W.eq (g2 := F0 m 46 ls [.ref a3, .int 5, .ref a0]) rfl ?_
  refine lv_aload_n hx hb dB_one_46 rfl (lv_at hl 0 rfl) ?_
  refine va_get (D := D) (ci := 0) (v := .ref b17) (C := "ValueBench") (T := TB) (N := 8) hx hb htx inB hown hK hP 0 rfl rfl 2 (by decide) (htx _ kw_1_97) (fun _ h9 => h9) rfl dB_one_47 ?_
  refine lv_aload_n hx hb dB_one_50 rfl (lv_at hl 0 rfl) ?_
  refine va_get (D := D) (ci := 0) (v := .ref b18) (C := "ValueBench") (T := TB) (N := 8) hx hb htx inB hown hK hP 0 rfl rfl 4 (by decide) (htx _ kw_1_99) (fun _ h9 => h9) rfl dB_one_51 ?_
  refine lv_aload_n hx hb dB_one_54 rfl (lv_at hl 0 rfl) ?_
  refine va_get (D := D) (ci := 0) (v := .ref a1) (C := "ValueBench") (T := TB) (N := 8) hx hb htx inB hown hK hP 0 rfl rfl 5 (by decide) (htx _ kw_1_100) (fun _ h9 => h9) rfl dB_one_55 ?_
  obtain ⟨hPc, hDc, hFc⟩ := xcut (wc := [(a3, .inr (2, [.ref a4, .int 1, v26])), (a4, .inl (cT 2, 4096, .inr (.inl f27)))]) hP hD hS hA [2, 3] rfl rfl (by decide)
  refine va_calli (va_runS (As := [.int 5, .ref a3, .ref b17, .ref b18, .ref a1]) (rest := [.ref a0]) ⟨hx, hb, hml, hown, htx⟩ (cG_apply_5 l hl9 D cT aK aV H.size a3 a4 b17 b18 a1 v26 f27 (by first | rfl | exact h25 | exact h28)) ⟨callB_of 5 htx (xw_goodC kw_4_28) rfl rfl rfl (htx _ kw_1_26) (htx _ kw_4_26) ⟨by decide, by decide, by decide +kernel⟩ ⟨Nat.le_of_ble_eq_true rfl, Nat.le_of_ble_eq_true rfl⟩, htx _ kw_4_27⟩ ⟨xPre_blind, (fun U hU hW => ⟨rfl, xPre_of hZ hS hFc hPc hDc hK U hU hW⟩)⟩ rfl rfl hl.1 rfl (lv_room (Nat.le_of_ble_eq_true rfl)) dB_one_58 ⟨Nat.le_of_ble_eq_true rfl, Nat.le_of_ble_eq_true rfl⟩) hS (fun q _ h => hFc q h) hFc (fun r4 u9 t H1 locs ht hvm hr9 hB hz1 hk1 hS => ?_)
  obtain ⟨hP1, hK1, hD1⟩ := hB
  rw [ht] at hP1
  obtain ⟨hP, hD⟩ := xjoin (W := [(a0, .inr (0, [v15, v16, .ref b17, .ref a2, .ref b18, .ref a1, v19, v20])), (a2, .inl (cT 3, 8, .inr (.inr (.inr (.inr f24))))), (a1, .inr (2, [v21, .int 0, .int 0])), (a3, .inr (2, [.ref a4, .int 1, v26])), (a4, .inl (cT 2, 4096, .inr (.inl f27)))]) hP hD [2, 3] [0, 1, 4] 3 rfl rfl (by decide) (by decide) hk1 hFc hP1 hD1
  generalize H1 = H at hP hS ⊢
  rw [hr9]
  refine W.eq (g2 := F0 m 61 ls [.int 1, .ref a0]) rfl ?_
  obtain ⟨hPc, hDc, hFc⟩ := xcut (wc := [(a0, .inr (0, [v15, v16, .ref b17, .ref a2, .ref b18, .ref a1, v19, v20]))]) hP hD hS hA [0] rfl rfl (by decide)
  refine xx_thr (vx_runV (C := "ValueBench") (As := [.int 1]) (rest := []) ⟨hx, hb, hml, hown, htx⟩ (cB_demandDone_1 l hl9 D cT aK aV H.size a0 v15 v16 (.ref b17) (.ref a2) (.ref b18) (.ref a1) v19 v20) ⟨callB_of 1 htx (xw_goodC kw_3_222) rfl rfl rfl (htx _ kw_1_1) (htx _ kw_3_219) ⟨by decide, by decide, by decide +kernel⟩ ⟨Nat.le_of_ble_eq_true rfl, Nat.le_of_ble_eq_true rfl⟩, (htx _ kw_3_221), (htx _ kp_B_demandDone)⟩ ⟨xPre_blind, va_recv hK hP (ci := 0) rfl (q0 := 0) rfl, (fun U hU hW => ⟨rfl, xPre_of hZ hS hFc hPc hDc hK U hU hW⟩)⟩ rfl rfl hl.1 rfl (lv_room (Nat.le_of_ble_eq_true rfl)) dB_one_61 ⟨Nat.le_of_ble_eq_true rfl, Nat.le_of_ble_eq_true rfl⟩) hS hFc (fun q _ h => hFc q h) (fun E ce q9 u9 t H1 locs ht hvm _ hB hz1 hk1 hS hce hcv hcl => ?_)
  obtain ⟨rfl, hP1, hK1, hD1⟩ := hB
  rw [ht] at hP1
  obtain ⟨hP, hD⟩ := xjoin (W := [(a2, .inl (cT 3, 8, .inr (.inr (.inr (.inr f24))))), (a1, .inr (2, [v21, .int 0, .int 0])), (a3, .inr (2, [.ref a4, .int 1, v26])), (a4, .inl (cT 2, 4096, .inr (.inl f27))), (a0, .inr (0, [v15, v16, .ref b17, .ref a2, .ref b18, .ref a1, v19, .int 1]))]) hP hD [0] [1, 2, 3, 4] 4 rfl rfl (by decide) (by decide) hk1 hFc hP1 hD1
  generalize H1 = H at hP hS hce ⊢
  obtain ⟨hP9, hD9⟩ := xsub (wc := [(a0, .inr (0, [v15, v16, .ref b17, .ref a2, .ref b18, .ref a1, v19, .int 1])), (a1, .inr (2, [v21, .int 0, .int 0])), (a2, .inl (cT 3, 8, .inr (.inr (.inr (.inr f24))))), (a3, .inr (2, [.ref a4, .int 1, v26])), (a4, .inl (cT 2, 4096, .inr (.inl f27)))]) hP hD [4, 1, 0, 2, 3] rfl rfl (by decide)
  exact vx_out (E := "java/lang/ArithmeticException") (fun x h => (hne x h).elim) hlocks hce hcv hcl (fun t ht ha => ⟨(), trivial, ⟨rfl, by rw [ht]; exact hP9, va_K.moved ha hK, hD9⟩, hS.F ht⟩) hS.2.2 (Nat.le_of_ble_eq_true rfl) (Nat.le_of_ble_eq_true rfl)
set_option maxHeartbeats 400000000 in
set_option maxRecDepth 100000 in
theorem cL_one_5 (l : Launch) (hl9 : l.stackTraces = false) (D : va_G) (cT : Nat → ClassId) (aK aV : Nat → Nat) (sz : Nat) (a0 : Nat) (a1 : Nat) (a2 : Nat) (a3 : Nat) (a4 : Nat) (x5 : Int32) (x10 : Int32) (v15 : Value) (v16 : Value) (b17 : Nat) (b18 : Nat) (v19 : Value) (v20 : Value) (v21 : Value) (v22 : Value) (v23 : Value) (f24 : Nat → Option Nat) (v26 : Value) (f27 : Nat → Int64) (h6 : ¬ x5 < 0) (h7 : ¬ 7 < x5) (h8 : x5 ≤ 7) (h9 : vp_in x5 8) (h11 : ¬ x10 < 0) (h12 : ¬ 7 < x10) (h13 : x10 ≤ 7) (h14 : vp_in x10 8) (h25 : f24 x10.toNatClampNeg = some a3) (h28 : f27 0 = 0) : xMet l yL_one wyL_one 8 1 6 144 D cT aK aV sz [.ref a0, .int x5, .int 5, .int x10] [(a0, .inr (0, [v15, v16, .ref b17, .ref a2, .ref b18, .ref a1, v19, v20])), (a1, .inr (2, [v21, v22, v23])), (a2, .inl (cT 3, 8, .inr (.inr (.inr (.inr f24))))), (a3, .inr (2, [.ref a4, .int 1, v26])), (a4, .inl (cT 2, 4096, .inr (.inl f27)))] (fun A => va_Qi (fun (r : Int32) (_ : Unit) => r = 2) (fun _ t => xB D xcl cT A [(a0, .inr (0, [v15, v16, .ref b17, .ref a2, .ref b18, .ref a1, v19, .int 1])), (a1, .inr (2, [v21, .int 0, .int 0])), (a2, .inl (cT 3, 8, .inr (.inr (.inr (.inr f24))))), (a3, .inr (2, [.ref a4, .int 1, v26])), (a4, .inl (cT 2, 4096, .inr (.inl f27)))] t) A) := by
  refine va_MetW (cc := method_10_code) (maxL := 5) (ret := (some .int)) (hh := [(0, 7, 10, 19), (0, 7, 14, 33), (0, 7, 18, 13)]) (by decide) rfl ?_
  intro p e s m args below meth c s₁ B hml hv
  obtain ⟨rfl, hsz, hZ, hP, hK, hD0⟩ := hv
  have hx := B.exec
  have hb := B.bytes
  have hr := B.returns
  have hts := atoms_spec (ws := wyL_one) B.pre
  have htx := fun w h => hts w (List.mem_cons_of_mem _ h)
  have hown : s.vm.findClass "ValueBenchLaw" = some m.cls := findClass_of_methodNamed B.named
  have hlocks := B.notSynchronized
  subst hsz
  have hD := hD0.self (sz := s.heap.size)
  generalize hAe : va_A [(a0, .inr (0, [v15, v16, .ref b17, .ref a2, .ref b18, .ref a1, v19, v20])), (a1, .inr (2, [v21, v22, v23])), (a2, .inl (cT 3, 8, .inr (.inr (.inr (.inr f24))))), (a3, .inr (2, [.ref a4, .int 1, v26])), (a4, .inl (cT 2, 4096, .inr (.inl f27)))] s.heap.size = A at hD hZ ⊢
  have hA : ∀ q : Nat, s.heap.size ≤ q → A q := fun q h => by rw [← hAe]; exact Or.inr h
  have hS : va_S A s.heap s.heap [] := va_S.rf
  have hP : va_P D xcl [(a0, .inr (0, [v15, v16, .ref b17, .ref a2, .ref b18, .ref a1, v19, v20])), (a1, .inr (2, [v21, v22, v23])), (a2, .inl (cT 3, 8, .inr (.inr (.inr (.inr f24))))), (a3, .inr (2, [.ref a4, .int 1, v26])), (a4, .inl (cT 2, 4096, .inr (.inl f27)))] s.heap := hP
  have hl := lv_entry ([.ref a0, .int x5, .int 5, .int x10]) (n := 5) (Nat.le_of_ble_eq_true rfl)
  rw [lg_entry_eq]
  generalize (lg_sl ([.ref a0, .int x5, .int 5, .int x10]) ++ List.replicate (5 - (lg_sl ([.ref a0, .int x5, .int 5, .int x10])).length) Slot.unset).toArray = ls at hl ⊢
  have hl : lv_has ls 5 [(0, .ref a0), (1, .int x5), (2, .int 5), (3, .int x10)] := hl
  have htab := vx_table (x := yL_one) B (hts _ List.mem_cons_self)
  refine lv_aload_n hx hb dL_one_0 rfl (lv_at hl 0 rfl) ?_
  refine lv_iload_n hx hb dL_one_1 rfl (lv_at hl 1 rfl) ?_
  refine lv_iload_n hx hb dL_one_2 rfl (lv_at hl 2 rfl) ?_
  refine lv_iload_n hx hb dL_one_3 rfl (lv_at hl 3 rfl) ?_
  obtain ⟨hPc, hDc, hFc⟩ := xcut (wc := [(a0, .inr (0, [v15, v16, .ref b17, .ref a2, .ref b18, .ref a1, v19, v20])), (a1, .inr (2, [v21, v22, v23])), (a2, .inl (cT 3, 8, .inr (.inr (.inr (.inr f24))))), (a3, .inr (2, [.ref a4, .int 1, v26])), (a4, .inl (cT 2, 4096, .inr (.inl f27)))]) hP hD hS hA [0, 1, 2, 3, 4] rfl rfl (by decide)
  refine xx_thr (vx_runV (C := "ValueBench") (As := [.int x5, .int 5, .int x10]) (rest := []) ⟨hx, hb, hml, hown, htx⟩ (cB_one_5 l hl9 D cT aK aV s.heap.size a0 a1 a2 a3 a4 x5 x10 v15 v16 b17 b18 v19 v20 v21 v22 v23 f24 v26 f27 h6 h7 h8 h9 h11 h12 h13 h14 (by first | rfl | exact h25 | exact h28) (by first | rfl | exact h25 | exact h28)) ⟨callB_of 3 htx (xw_goodC kw_4_25) rfl rfl rfl (htx _ kw_1_1) (htx _ kw_4_22) ⟨by decide, by decide, by decide +kernel⟩ ⟨Nat.le_of_ble_eq_true rfl, Nat.le_of_ble_eq_true rfl⟩, (htx _ kw_4_23), (htx _ kw_4_24)⟩ ⟨xPre_blind, va_recv hK hP (ci := 0) rfl (q0 := 0) rfl, (fun U hU hW => ⟨rfl, xPre_of hZ hS hFc hPc hDc hK U hU hW⟩)⟩ rfl rfl hl.1 rfl (lv_room (Nat.le_of_ble_eq_true rfl)) dL_one_4 ⟨Nat.le_of_ble_eq_true rfl, Nat.le_of_ble_eq_true rfl⟩) hS hFc (fun q _ h => hFc q h) (fun E ce q9 u9 t H1 locs ht hvm _ hB hz1 hk1 hS hce hcv hcl => ?_)
  obtain ⟨rfl, hP1, hK1, hD1⟩ := hB
  rw [ht] at hP1
  obtain ⟨hP, hD⟩ := xjoin (W := [(a0, .inr (0, [v15, v16, .ref b17, .ref a2, .ref b18, .ref a1, v19, .int 1])), (a1, .inr (2, [v21, .int 0, .int 0])), (a2, .inl (cT 3, 8, .inr (.inr (.inr (.inr f24))))), (a3, .inr (2, [.ref a4, .int 1, v26])), (a4, .inl (cT 2, 4096, .inr (.inl f27)))]) hP hD [0, 1, 2, 3, 4] [] 0 rfl rfl (by decide) (by decide) hk1 hFc hP1 hD1
  generalize H1 = H at hP hS hce ⊢
  refine vx_catch (own := "ValueBenchLaw") (name := "java/lang/ArithmeticException") (E := "java/lang/ArithmeticException") hown [⟨0, 7, 10, 19⟩] ⟨0, 7, 14, 33⟩ [⟨0, 7, 18, 13⟩] (by rw [htab]; rfl) (by intro z hz; rcases List.mem_cons.mp hz with rfl | hz; (exact Or.inr ⟨by decide, "java/lang/IllegalArgumentException", htx _ kw_1_211, hZ.2.2.2.2.2.2.2.1 _ (List.mem_of_getElem? (i := 10) rfl)⟩); cases hz) (by decide) (by decide) (htx _ kw_3_98) ((hZ.2.2.2.2.2.1 _ (List.mem_of_getElem? (i := 3) rfl)).use rfl) hce hcv hcl ?_
  refine lv_astore (lv' := [(4, .ref q9), (0, .ref a0), (1, .int x5), (2, .int 5), (3, .int x10)]) hx hb dL_one_14 hl (by decide) rfl (fun ls hl => ?_)
  refine lv_iconst (v := 2) hx hb dL_one_16 (by decide) ?_
  obtain ⟨hP9, hD9⟩ := xsub (wc := [(a0, .inr (0, [v15, v16, .ref b17, .ref a2, .ref b18, .ref a1, v19, .int 1])), (a1, .inr (2, [v21, .int 0, .int 0])), (a2, .inl (cT 3, 8, .inr (.inr (.inr (.inr f24))))), (a3, .inr (2, [.ref a4, .int 1, v26])), (a4, .inl (cT 2, 4096, .inr (.inl f27)))]) hP hD [0, 1, 2, 3, 4] rfl rfl (by decide)
  refine W.widen (k := 1) (n := 6) (Nat.le_of_ble_eq_true rfl) (Nat.le_of_ble_eq_true rfl) ?_
  exact W.iret (v := 2) hx hb hr (fun t ht hW => ⟨⟨2, (), rfl, rfl, by rw [ht]; exact hP9, va_K.moved hW.alike hK, hD9⟩, hS.F ht⟩) hS.2.2 dL_one_17
set_option maxHeartbeats 400000000 in
set_option maxRecDepth 100000 in
theorem cB_isWithin_16 (l : Launch) (hl9 : l.stackTraces = false) (D : va_G) (cT : Nat → ClassId) (aK aV : Nat → Nat) (sz : Nat) : xMet l yB_isWithin wyB_isWithin 0 0 0 0 D cT aK aV sz [.int 6, .int 13] [] (fun A => va_Qi (fun (r : Int32) (_ : Unit) => r = 1) (fun _ t => xB D xcl cT A [] t) A) := by
  refine Met.ofW (cc := prog_1_method_15_code) (maxL := 2) (ret := (some .boolean)) (by decide) rfl ?_
  intro p e s m args below meth c s₁ B hml hv
  obtain ⟨rfl, hsz, hZ, hP, hK, hD0⟩ := hv
  have hx := B.exec
  have hb := B.bytes
  have hr := B.returns
  have hts := atoms_spec (ws := wyB_isWithin) B.pre
  have htx := fun w h => hts w (List.mem_cons_of_mem _ h)
  have hown : s.vm.findClass "ValueBench" = some m.cls := findClass_of_methodNamed B.named
  have hlocks := B.notSynchronized
  subst hsz
  have hD := hD0.self (sz := s.heap.size)
  generalize hAe : va_A [] s.heap.size = A at hD hZ ⊢
  have hA : ∀ q : Nat, s.heap.size ≤ q → A q := fun q h => by rw [← hAe]; exact Or.inr h
  have hS : va_S A s.heap s.heap [] := va_S.rf
  have hP : va_P D xcl [] s.heap := hP
  have hl := lv_entry ([.int 6, .int 13]) (n := 2) (Nat.le_of_ble_eq_true rfl)
  rw [lg_entry_eq]
  generalize (lg_sl ([.int 6, .int 13]) ++ List.replicate (2 - (lg_sl ([.int 6, .int 13])).length) Slot.unset).toArray = ls at hl ⊢
  have hl : lv_has ls 2 [(0, .int 6), (1, .int 13)] := hl
  refine lv_iload_n hx hb dB_isWithin_0 rfl (lv_at hl 0 rfl) ?_
  refine lv_if_lt (tgt := 13) hx hb dB_isWithin_1 (by decide) (fun h => ((by revert h; decide : False)).elim) (fun _ => ?_)
  refine lv_iload_n hx hb dB_isWithin_4 rfl (lv_at hl 0 rfl) ?_
  refine lv_iload_n hx hb dB_isWithin_5 rfl (lv_at hl 1 rfl) ?_
  refine lv_icmp_gt (tgt := 13) hx hb dB_isWithin_6 (by decide) (fun h => ((by revert h; decide : False)).elim) (fun _ => ?_)
  refine lv_iconst (v := 1) hx hb dB_isWithin_9 (by decide) ?_
  refine lv_goto (tgt := 14) hx hb dB_isWithin_10 (by decide) ?_
  obtain ⟨hP9, hD9⟩ := xsub (wc := []) hP hD [] rfl rfl (by decide)
  refine W.widen (k := 0) (n := 0) (Nat.le_of_ble_eq_true rfl) (Nat.le_of_ble_eq_true rfl) ?_
  exact W.zret (v := 1) hx hb hr rfl (fun t ht hW => ⟨⟨1, (), rfl, rfl, by rw [ht]; exact hP9, va_K.moved hW.alike hK, hD9⟩, hS.F ht⟩) hS.2.2 dB_isWithin_14
set_option maxHeartbeats 400000000 in
set_option maxRecDepth 100000 in
theorem cG_apply_6 (l : Launch) (hl9 : l.stackTraces = false) (D : va_G) (cT : Nat → ClassId) (aK aV : Nat → Nat) (sz : Nat) (a0 : Nat) (a1 : Nat) (a2 : Nat) (a3 : Nat) (a4 : Nat) (a5 : Nat) (b6 : Nat) (v7 : Value) (v8 : Value) (v9 : Value) (f10 : Nat → Int64) (f12 : Nat → Int32) (f13 : Nat → Int64) (h11 : f10 0 = 0) : xMet l yG_apply wyG_apply 7 0 0 152 D cT aK aV sz [.int 6, .ref a1, .ref a0, .ref b6, .ref a4] [(a0, .inr (1, [.ref a3, v7, v8])), (a1, .inr (2, [.ref a2, .int 1, v9])), (a2, .inl (cT 2, 4096, .inr (.inl f10))), (a3, .inl (cT 0, 4096, .inl f12)), (a4, .inr (2, [.ref a5, .int 0, .int 0])), (a5, .inl (cT 2, 4096, .inr (.inl f13)))] (fun A => va_Qi (fun (r : Int32) (_ : Unit) => r = 0) (fun _ t => xB D xcl cT A [(a0, .inr (1, [.ref a3, .int 4, .int 0])), (a1, .inr (2, [.ref a2, .int 1, v9])), (a2, .inl (cT 2, 4096, .inr (.inl f10))), (a3, .inl (cT 0, 4096, .inl (upd (upd (upd (upd f12 0 110) 1 117) 2 108) 3 108))), (a4, .inr (2, [.ref a5, .int 5, .int 0])), (a5, .inl (cT 2, 4096, .inr (.inl (vp_updL (vp_updL (vp_updL (vp_updL (vp_updL (vp_updL f13 0 0) 1 110) 2 117) 3 108) 4 108) 0 2621476))))] t) A) := by
  refine Met.ofW (cc := prog_9_method_2_code) (maxL := 5) (ret := (some .int)) (by decide) rfl ?_
  intro p e s m args below meth c s₁ B hml hv
  obtain ⟨rfl, hsz, hZ, hP, hK, hD0⟩ := hv
  have hx := B.exec
  have hb := B.bytes
  have hr := B.returns
  have hts := atoms_spec (ws := wyG_apply) B.pre
  have htx := fun w h => hts w (List.mem_cons_of_mem _ h)
  have hown : s.vm.findClass "ValueBench$Singles" = some m.cls := findClass_of_methodNamed B.named
  have hlocks := B.notSynchronized
  subst hsz
  have hD := hD0.self (sz := s.heap.size)
  generalize hAe : va_A [(a0, .inr (1, [.ref a3, v7, v8])), (a1, .inr (2, [.ref a2, .int 1, v9])), (a2, .inl (cT 2, 4096, .inr (.inl f10))), (a3, .inl (cT 0, 4096, .inl f12)), (a4, .inr (2, [.ref a5, .int 0, .int 0])), (a5, .inl (cT 2, 4096, .inr (.inl f13)))] s.heap.size = A at hD hZ ⊢
  have hA : ∀ q : Nat, s.heap.size ≤ q → A q := fun q h => by rw [← hAe]; exact Or.inr h
  have hS : va_S A s.heap s.heap [] := va_S.rf
  have hP : va_P D xcl [(a0, .inr (1, [.ref a3, v7, v8])), (a1, .inr (2, [.ref a2, .int 1, v9])), (a2, .inl (cT 2, 4096, .inr (.inl f10))), (a3, .inl (cT 0, 4096, .inl f12)), (a4, .inr (2, [.ref a5, .int 0, .int 0])), (a5, .inl (cT 2, 4096, .inr (.inl f13)))] s.heap := hP
  have hl := lv_entry ([.int 6, .ref a1, .ref a0, .ref b6, .ref a4]) (n := 5) (Nat.le_of_ble_eq_true rfl)
  rw [lg_entry_eq]
  generalize (lg_sl ([.int 6, .ref a1, .ref a0, .ref b6, .ref a4]) ++ List.replicate (5 - (lg_sl ([.int 6, .ref a1, .ref a0, .ref b6, .ref a4])).length) Slot.unset).toArray = ls at hl ⊢
  have hl : lv_has ls 5 [(0, .int 6), (1, .ref a1), (2, .ref a0), (3, .ref b6), (4, .ref a4)] := hl
  refine lv_iload_n hx hb dG_apply_0 rfl (lv_at hl 0 rfl) ?_
  refine lv_tableIn (off := 172) (tgt := 173) hx hb dG_apply_1 (by decide) (by decide) (by decide) (by decide) ?_
  refine lv_aload_n hx hb dG_apply_173 rfl (lv_at hl 1 rfl) ?_
  refine lv_aload_n hx hb dG_apply_174 rfl (lv_at hl 2 rfl) ?_
  refine lv_aload hx hb dG_apply_175 (lv_at hl 4 rfl) ?_
  obtain ⟨hPc, hDc, hFc⟩ := xcut (wc := [(a0, .inr (1, [.ref a3, v7, v8])), (a1, .inr (2, [.ref a2, .int 1, v9])), (a2, .inl (cT 2, 4096, .inr (.inl f10))), (a3, .inl (cT 0, 4096, .inl f12)), (a4, .inr (2, [.ref a5, .int 0, .int 0])), (a5, .inl (cT 2, 4096, .inr (.inl f13)))]) hP hD hS hA [0, 1, 2, 3, 4, 5] rfl rfl (by decide)
  refine va_calli (va_runS (As := [.ref a1, .ref a0, .ref a4]) (rest := []) ⟨hx, hb, hml, hown, htx⟩ (cG_printed_0 l hl9 D cT aK aV s.heap.size a0 a1 a2 a3 a4 a5 v7 v8 v9 f10 f12 f13 (by first | rfl | exact h11)) ⟨callB_of 3 htx (xw_goodC kw_4_80) rfl rfl rfl (htx _ kw_1_26) (htx _ kw_4_78) ⟨by decide, by decide, by decide +kernel⟩ ⟨Nat.le_of_ble_eq_true rfl, Nat.le_of_ble_eq_true rfl⟩, htx _ kw_4_79⟩ ⟨xPre_blind, (fun U hU hW => ⟨rfl, xPre_of hZ hS hFc hPc hDc hK U hU hW⟩)⟩ rfl rfl hl.1 rfl (lv_room (Nat.le_of_ble_eq_true rfl)) dG_apply_177 ⟨Nat.le_of_ble_eq_true rfl, Nat.le_of_ble_eq_true rfl⟩) hS (fun q _ h => hFc q h) hFc (fun r1 u9 t H1 locs ht hvm hr9 hB hz1 hk1 hS => ?_)
  obtain ⟨hP1, hK1, hD1⟩ := hB
  rw [ht] at hP1
  obtain ⟨hP, hD⟩ := xjoin (W := [(a0, .inr (1, [.ref a3, .int 4, .int 0])), (a1, .inr (2, [.ref a2, .int 1, v9])), (a2, .inl (cT 2, 4096, .inr (.inl f10))), (a3, .inl (cT 0, 4096, .inl (upd (upd (upd (upd f12 0 110) 1 117) 2 108) 3 108))), (a4, .inr (2, [.ref a5, .int 5, .int 0])), (a5, .inl (cT 2, 4096, .inr (.inl (vp_updL (vp_updL (vp_updL (vp_updL (vp_updL (vp_updL f13 0 0) 1 110) 2 117) 3 108) 4 108) 0 2621476))))]) hP hD [0, 1, 2, 3, 4, 5] [] 0 rfl rfl (by decide) (by decide) hk1 hFc hP1 hD1
  generalize H1 = H at hP hS ⊢
  rw [hr9]
  refine W.eq (g2 := F0 m 180 ls [.int 0]) rfl ?_
  obtain ⟨hP9, hD9⟩ := xsub (wc := [(a0, .inr (1, [.ref a3, .int 4, .int 0])), (a1, .inr (2, [.ref a2, .int 1, v9])), (a2, .inl (cT 2, 4096, .inr (.inl f10))), (a3, .inl (cT 0, 4096, .inl (upd (upd (upd (upd f12 0 110) 1 117) 2 108) 3 108))), (a4, .inr (2, [.ref a5, .int 5, .int 0])), (a5, .inl (cT 2, 4096, .inr (.inl (vp_updL (vp_updL (vp_updL (vp_updL (vp_updL (vp_updL f13 0 0) 1 110) 2 117) 3 108) 4 108) 0 2621476))))]) hP hD [0, 1, 2, 3, 4, 5] rfl rfl (by decide)
  refine W.widen (k := 0) (n := 0) (Nat.le_of_ble_eq_true rfl) (Nat.le_of_ble_eq_true rfl) ?_
  exact W.iret (v := 0) hx hb hr (fun t ht hW => ⟨⟨0, (), rfl, rfl, by rw [ht]; exact hP9, va_K.moved hW.alike hK, hD9⟩, hS.F ht⟩) hS.2.2 dG_apply_180
set_option maxHeartbeats 400000000 in
set_option maxRecDepth 100000 in
theorem cB_one_6 (l : Launch) (hl9 : l.stackTraces = false) (D : va_G) (cT : Nat → ClassId) (aK aV : Nat → Nat) (sz : Nat) (a0 : Nat) (a1 : Nat) (a2 : Nat) (a3 : Nat) (a4 : Nat) (a5 : Nat) (a6 : Nat) (a7 : Nat) (x8 : Int32) (x13 : Int32) (v18 : Value) (v19 : Value) (b20 : Nat) (v21 : Value) (v22 : Value) (v23 : Value) (v24 : Value) (f25 : Nat → Option Nat) (b27 : Nat) (v29 : Value) (v30 : Value) (v31 : Value) (f32 : Nat → Int64) (f34 : Nat → Int32) (f35 : Nat → Int64) (h9 : ¬ x8 < 0) (h10 : ¬ 7 < x8) (h11 : x8 ≤ 7) (h12 : vp_in x8 8) (h14 : ¬ x13 < 0) (h15 : ¬ 7 < x13) (h16 : x13 ≤ 7) (h17 : vp_in x13 8) (h26 : f25 x13.toNatClampNeg = some a4) (h28 : f25 x8.toNatClampNeg = some b27) (h33 : f32 0 = 0) : xMet l yB_one wyB_one 8 0 0 176 D cT aK aV sz [.ref a0, .int x8, .int 6, .int x13] [(a0, .inr (0, [v18, v19, .ref a3, .ref a2, .ref b20, .ref a1, v21, v22])), (a1, .inr (2, [.ref a7, v23, v24])), (a2, .inl (cT 3, 8, .inr (.inr (.inr (.inr f25))))), (a3, .inr (1, [.ref a6, v29, v30])), (a4, .inr (2, [.ref a5, .int 1, v31])), (a5, .inl (cT 2, 4096, .inr (.inl f32))), (a6, .inl (cT 0, 4096, .inl f34)), (a7, .inl (cT 2, 4096, .inr (.inl f35)))] (fun A => va_Qv (fun _ : Unit => True) (fun _ t => ∃ (y6 : Int32) (y7 : Int32) (y8 : Int32) (y9 : Int32) (y10 : Int32) (y11 : Int32), xB D xcl cT A [(a0, .inr (0, [v18, v19, .ref a3, .ref a2, .ref b20, .ref b27, v21, v22])), (a1, .inr (2, [.ref a7, .int 5, .int 0])), (a2, .inl (cT 3, 8, .inr (.inr (.inr (.inr (va_up f25 x8.toNatClampNeg (some a1))))))), (a3, .inr (1, [.ref a6, .int 6, .int 0])), (a4, .inr (2, [.ref a5, .int 1, v31])), (a5, .inl (cT 2, 4096, .inr (.inl f32))), (a6, .inl (cT 0, 4096, .inl (upd (upd (upd (upd (upd (upd (upd (upd (upd (upd f34 0 110) 1 117) 2 108) 3 108) 0 (vp_nar .byte y6)) 1 (vp_nar .byte y7)) 2 (vp_nar .byte y8)) 3 (vp_nar .byte y9)) 4 (vp_nar .byte y10)) 5 (vp_nar .byte y11)))), (a7, .inl (cT 2, 4096, .inr (.inl (vp_updL (vp_updL (vp_updL (vp_updL (vp_updL (vp_updL f35 0 0) 1 110) 2 117) 3 108) 4 108) 0 2621476))))] t) A) := by
  refine Met.ofW (cc := prog_1_method_9_code) (maxL := 4) (ret := none) (by decide) rfl ?_
  intro p e s m args below meth c s₁ B hml hv
  obtain ⟨rfl, hsz, hZ, hP, hK, hD0⟩ := hv
  have hx := B.exec
  have hb := B.bytes
  have hr := B.returns
  have hts := atoms_spec (ws := wyB_one) B.pre
  have htx := fun w h => hts w (List.mem_cons_of_mem _ h)
  have hown : s.vm.findClass "ValueBench" = some m.cls := findClass_of_methodNamed B.named
  have hlocks := B.notSynchronized
  subst hsz
  have hD := hD0.self (sz := s.heap.size)
  generalize hAe : va_A [(a0, .inr (0, [v18, v19, .ref a3, .ref a2, .ref b20, .ref a1, v21, v22])), (a1, .inr (2, [.ref a7, v23, v24])), (a2, .inl (cT 3, 8, .inr (.inr (.inr (.inr f25))))), (a3, .inr (1, [.ref a6, v29, v30])), (a4, .inr (2, [.ref a5, .int 1, v31])), (a5, .inl (cT 2, 4096, .inr (.inl f32))), (a6, .inl (cT 0, 4096, .inl f34)), (a7, .inl (cT 2, 4096, .inr (.inl f35)))] s.heap.size = A at hD hZ ⊢
  have hA : ∀ q : Nat, s.heap.size ≤ q → A q := fun q h => by rw [← hAe]; exact Or.inr h
  have hS : va_S A s.heap s.heap [] := va_S.rf
  have hP : va_P D xcl [(a0, .inr (0, [v18, v19, .ref a3, .ref a2, .ref b20, .ref a1, v21, v22])), (a1, .inr (2, [.ref a7, v23, v24])), (a2, .inl (cT 3, 8, .inr (.inr (.inr (.inr f25))))), (a3, .inr (1, [.ref a6, v29, v30])), (a4, .inr (2, [.ref a5, .int 1, v31])), (a5, .inl (cT 2, 4096, .inr (.inl f32))), (a6, .inl (cT 0, 4096, .inl f34)), (a7, .inl (cT 2, 4096, .inr (.inl f35)))] s.heap := hP
  have hl := lv_entry ([.ref a0, .int x8, .int 6, .int x13]) (n := 4) (Nat.le_of_ble_eq_true rfl)
  rw [lg_entry_eq]
  generalize (lg_sl ([.ref a0, .int x8, .int 6, .int x13]) ++ List.replicate (4 - (lg_sl ([.ref a0, .int x8, .int 6, .int x13])).length) Slot.unset).toArray = ls at hl ⊢
  have hl : lv_has ls 4 [(0, .ref a0), (1, .int x8), (2, .int 6), (3, .int x13)] := hl
  refine lv_iload_n hx hb dB_one_0 rfl (lv_at hl 1 rfl) ?_
  obtain ⟨hPc, hDc, hFc⟩ := xcut (wc := []) hP hD hS hA [] rfl rfl (by decide)
  refine va_calli (va_runS (As := [.int x8]) (rest := []) ⟨hx, hb, hml, hown, htx⟩ (cB_isRegister_0 l hl9 D cT aK aV s.heap.size x8 h9 h10 h11 h12) ⟨callB_of 1 htx (xw_goodC kw_2_18) rfl rfl rfl (htx _ kw_1_1) (htx _ kw_2_16) ⟨by decide, by decide, by decide +kernel⟩ ⟨Nat.le_of_ble_eq_true rfl, Nat.le_of_ble_eq_true rfl⟩, htx _ kw_2_17⟩ ⟨xPre_blind, (fun U hU hW => ⟨rfl, xPre_of hZ hS hFc hPc hDc hK U hU hW⟩)⟩ rfl rfl hl.1 rfl (lv_room (Nat.le_of_ble_eq_true rfl)) dB_one_1 ⟨Nat.le_of_ble_eq_true rfl, Nat.le_of_ble_eq_true rfl⟩) hS (fun q _ h => hFc q h) hFc (fun r1 u9 t H1 locs ht hvm hr9 hB hz1 hk1 hS => ?_)
  obtain ⟨hP1, hK1, hD1⟩ := hB
  rw [ht] at hP1
  obtain ⟨hP, hD⟩ := xjoin (W := [(a0, .inr (0, [v18, v19, .ref a3, .ref a2, .ref b20, .ref a1, v21, v22])), (a1, .inr (2, [.ref a7, v23, v24])), (a2, .inl (cT 3, 8, .inr (.inr (.inr (.inr f25))))), (a3, .inr (1, [.ref a6, v29, v30])), (a4, .inr (2, [.ref a5, .int 1, v31])), (a5, .inl (cT 2, 4096, .inr (.inl f32))), (a6, .inl (cT 0, 4096, .inl f34)), (a7, .inl (cT 2, 4096, .inr (.inl f35)))]) hP hD [] [0, 1, 2, 3, 4, 5, 6, 7] 8 rfl rfl (by decide) (by decide) hk1 hFc hP1 hD1
  generalize H1 = H at hP hS ⊢
  rw [hr9]
  refine W.eq (g2 := F0 m 4 ls [.int 1]) rfl ?_
  refine lv_if_eq (tgt := 27) hx hb dB_one_4 (by decide) (fun h => ((by revert h; decide : False)).elim) (fun _ => ?_)
  refine lv_iload_n hx hb dB_one_7 rfl (lv_at hl 2 rfl) ?_
  refine lv_bipush (v := 13) hx hb dB_one_8 (by decide) ?_
  obtain ⟨hPc, hDc, hFc⟩ := xcut (wc := []) hP hD hS hA [] rfl rfl (by decide)
  refine va_calli (va_runS (As := [.int 6, .int 13]) (rest := []) ⟨hx, hb, hml, hown, htx⟩ (cB_isWithin_16 l hl9 D cT aK aV H.size) ⟨callB_of 2 htx (xw_goodC kw_1_218) rfl rfl rfl (htx _ kw_1_1) (htx _ kw_1_216) ⟨by decide, by decide, by decide +kernel⟩ ⟨Nat.le_of_ble_eq_true rfl, Nat.le_of_ble_eq_true rfl⟩, htx _ kw_1_217⟩ ⟨xPre_blind, (fun U hU hW => ⟨rfl, xPre_of hZ hS hFc hPc hDc hK U hU hW⟩)⟩ rfl rfl hl.1 rfl (lv_room (Nat.le_of_ble_eq_true rfl)) dB_one_10 ⟨Nat.le_of_ble_eq_true rfl, Nat.le_of_ble_eq_true rfl⟩) hS (fun q _ h => hFc q h) hFc (fun r2 u9 t H1 locs ht hvm hr9 hB hz1 hk1 hS => ?_)
  obtain ⟨hP1, hK1, hD1⟩ := hB
  rw [ht] at hP1
  obtain ⟨hP, hD⟩ := xjoin (W := [(a0, .inr (0, [v18, v19, .ref a3, .ref a2, .ref b20, .ref a1, v21, v22])), (a1, .inr (2, [.ref a7, v23, v24])), (a2, .inl (cT 3, 8, .inr (.inr (.inr (.inr f25))))), (a3, .inr (1, [.ref a6, v29, v30])), (a4, .inr (2, [.ref a5, .int 1, v31])), (a5, .inl (cT 2, 4096, .inr (.inl f32))), (a6, .inl (cT 0, 4096, .inl f34)), (a7, .inl (cT 2, 4096, .inr (.inl f35)))]) hP hD [] [0, 1, 2, 3, 4, 5, 6, 7] 8 rfl rfl (by decide) (by decide) hk1 hFc hP1 hD1
  generalize H1 = H at hP hS ⊢
  rw [hr9]
  refine W.eq (g2 := F0 m 13 ls [.int 1]) rfl ?_
  refine lv_if_eq (tgt := 27) hx hb dB_one_13 (by decide) (fun h => ((by revert h; decide : False)).elim) (fun _ => ?_)
  refine lv_iload_n hx hb dB_one_16 rfl (lv_at hl 3 rfl) ?_
  obtain ⟨hPc, hDc, hFc⟩ := xcut (wc := []) hP hD hS hA [] rfl rfl (by decide)
  refine va_calli (va_runS (As := [.int x13]) (rest := []) ⟨hx, hb, hml, hown, htx⟩ (cB_isRegister_0 l hl9 D cT aK aV H.size x13 h14 h15 h16 h17) ⟨callB_of 1 htx (xw_goodC kw_2_18) rfl rfl rfl (htx _ kw_1_1) (htx _ kw_2_16) ⟨by decide, by decide, by decide +kernel⟩ ⟨Nat.le_of_ble_eq_true rfl, Nat.le_of_ble_eq_true rfl⟩, htx _ kw_2_17⟩ ⟨xPre_blind, (fun U hU hW => ⟨rfl, xPre_of hZ hS hFc hPc hDc hK U hU hW⟩)⟩ rfl rfl hl.1 rfl (lv_room (Nat.le_of_ble_eq_true rfl)) dB_one_17 ⟨Nat.le_of_ble_eq_true rfl, Nat.le_of_ble_eq_true rfl⟩) hS (fun q _ h => hFc q h) hFc (fun r3 u9 t H1 locs ht hvm hr9 hB hz1 hk1 hS => ?_)
  obtain ⟨hP1, hK1, hD1⟩ := hB
  rw [ht] at hP1
  obtain ⟨hP, hD⟩ := xjoin (W := [(a0, .inr (0, [v18, v19, .ref a3, .ref a2, .ref b20, .ref a1, v21, v22])), (a1, .inr (2, [.ref a7, v23, v24])), (a2, .inl (cT 3, 8, .inr (.inr (.inr (.inr f25))))), (a3, .inr (1, [.ref a6, v29, v30])), (a4, .inr (2, [.ref a5, .int 1, v31])), (a5, .inl (cT 2, 4096, .inr (.inl f32))), (a6, .inl (cT 0, 4096, .inl f34)), (a7, .inl (cT 2, 4096, .inr (.inl f35)))]) hP hD [] [0, 1, 2, 3, 4, 5, 6, 7] 8 rfl rfl (by decide) (by decide) hk1 hFc hP1 hD1
  generalize H1 = H at hP hS ⊢
  rw [hr9]
  refine W.eq (g2 := F0 m 20 ls [.int 1]) rfl ?_
  refine lv_if_eq (tgt := 27) hx hb dB_one_20 (by decide) (fun h => ((by revert h; decide : False)).elim) (fun _ => ?_)
  refine lv_iconst (v := 1) hx hb dB_one_23 (by decide) ?_
  refine lv_goto (tgt := 28) hx hb dB_one_24 (by decide) ?_
  obtain ⟨hPc, hDc, hFc⟩ := xcut (wc := []) hP hD hS hA [] rfl rfl (by decide)
  refine va_callv (va_runS (As := [.int 1]) (rest := []) ⟨hx, hb, hml, hown, htx⟩ (cB_demand_0 l hl9 D cT aK aV H.size) ⟨callB_of 1 htx (xw_goodC kw_1_221) rfl rfl rfl (htx _ kw_1_1) (htx _ kw_1_219) ⟨by decide, by decide, by decide +kernel⟩ ⟨Nat.le_of_ble_eq_true rfl, Nat.le_of_ble_eq_true rfl⟩, htx _ kw_1_220⟩ ⟨xPre_blind, (fun U hU hW => ⟨rfl, xPre_of hZ hS hFc hPc hDc hK U hU hW⟩)⟩ rfl rfl hl.1 rfl (lv_room (Nat.le_of_ble_eq_true rfl)) dB_one_28 ⟨Nat.le_of_ble_eq_true rfl, Nat.le_of_ble_eq_true rfl⟩) hS (fun q _ h => hFc q h) hFc (fun u9 t H1 locs ht hvm hr9 hB hz1 hk1 hS => ?_)
  obtain ⟨hP1, hK1, hD1⟩ := hB
  rw [ht] at hP1
  obtain ⟨hP, hD⟩ := xjoin (W := [(a0, .inr (0, [v18, v19, .ref a3, .ref a2, .ref b20, .ref a1, v21, v22])), (a1, .inr (2, [.ref a7, v23, v24])), (a2, .inl (cT 3, 8, .inr (.inr (.inr (.inr f25))))), (a3, .inr (1, [.ref a6, v29, v30])), (a4, .inr (2, [.ref a5, .int 1, v31])), (a5, .inl (cT 2, 4096, .inr (.inl f32))), (a6, .inl (cT 0, 4096, .inl f34)), (a7, .inl (cT 2, 4096, .inr (.inl f35)))]) hP hD [] [0, 1, 2, 3, 4, 5, 6, 7] 8 rfl rfl (by decide) (by decide) hk1 hFc hP1 hD1
  generalize H1 = H at hP hS ⊢
  refine lv_aload_n hx hb dB_one_31 rfl (lv_at hl 0 rfl) ?_
  refine va_get (D := D) (ci := 0) (v := .ref a1) (C := "ValueBench") (T := TB) (N := 8) hx hb htx inB hown hK hP 0 rfl rfl 5 (by decide) (htx _ kw_1_100) (fun _ h9 => h9) rfl dB_one_32 ?_
  obtain ⟨hPc, hDc, hFc⟩ := xcut (wc := [(a1, .inr (2, [.ref a7, v23, v24]))]) hP hD hS hA [1] rfl rfl (by decide)
  refine va_callv (va_runV (C := "ValueBench$Row") (As := []) (rest := []) ⟨hx, hb, hml, hown, htx⟩ (cR_clear_0 l hl9 D cT aK aV H.size a1 (.ref a7) v23 v24) ⟨callB_of 0 htx (xw_goodC kw_2_22) rfl rfl rfl (htx _ kw_1_4) (htx _ kw_2_19) ⟨by decide, by decide, by decide +kernel⟩ ⟨Nat.le_of_ble_eq_true rfl, Nat.le_of_ble_eq_true rfl⟩, (htx _ kw_2_20), (htx _ kw_2_21)⟩ ⟨xPre_blind, va_recv hK hP (ci := 2) rfl (q0 := 1) rfl, (fun U hU hW => ⟨rfl, xPre_of hZ hS hFc hPc hDc hK U hU hW⟩)⟩ rfl rfl hl.1 rfl (lv_room (Nat.le_of_ble_eq_true rfl)) dB_one_35 ⟨Nat.le_of_ble_eq_true rfl, Nat.le_of_ble_eq_true rfl⟩) hS (fun q _ h => hFc q h) hFc (fun u9 t H1 locs ht hvm hr9 hB hz1 hk1 hS => ?_)
  obtain ⟨hP1, hK1, hD1⟩ := hB
  rw [ht] at hP1
  obtain ⟨hP, hD⟩ := xjoin (W := [(a0, .inr (0, [v18, v19, .ref a3, .ref a2, .ref b20, .ref a1, v21, v22])), (a2, .inl (cT 3, 8, .inr (.inr (.inr (.inr f25))))), (a3, .inr (1, [.ref a6, v29, v30])), (a4, .inr (2, [.ref a5, .int 1, v31])), (a5, .inl (cT 2, 4096, .inr (.inl f32))), (a6, .inl (cT 0, 4096, .inl f34)), (a7, .inl (cT 2, 4096, .inr (.inl f35))), (a1, .inr (2, [.ref a7, .int 0, .int 0]))]) hP hD [1] [0, 2, 3, 4, 5, 6, 7] 7 rfl rfl (by decide) (by decide) hk1 hFc hP1 hD1
  generalize H1 = H at hP hS ⊢
  refine lv_aload_n hx hb dB_one_38 rfl (lv_at hl 0 rfl) ?_
  refine lv_iload_n hx hb dB_one_39 rfl (lv_at hl 2 rfl) ?_
  refine lv_aload_n hx hb dB_one_40 rfl (lv_at hl 0 rfl) ?_
  refine va_get (D := D) (ci := 0) (v := .ref a2) (C := "ValueBench") (T := TB) (N := 8) hx hb htx inB hown hK hP 0 rfl rfl 3 (by decide) (htx _ kw_1_98) (fun _ h9 => h9) rfl dB_one_41 ?_
  refine lv_iload_n hx hb dB_one_44 rfl (lv_at hl 3 rfl) ?_
  refine va_aldq hx hb hK hP 1 3 rfl rfl h17 dB_one_45 ?_
  refine W.eq (g2 := F0 m 46 ls [va_rf (f25 x13.toNatClampNeg), .int 6, .ref a0]) rfl ?_
  rw [h26]
  refine W.eq (g2 := F0 m 46 ls [.ref a4, .int 6, .ref a0]) rfl ?_
  refine lv_aload_n hx hb dB_one_46 rfl (lv_at hl 0 rfl) ?_
  refine va_get (D := D) (ci := 0) (v := .ref a3) (C := "ValueBench") (T := TB) (N := 8) hx hb htx inB hown hK hP 0 rfl rfl 2 (by decide) (htx _ kw_1_97) (fun _ h9 => h9) rfl dB_one_47 ?_
  refine lv_aload_n hx hb dB_one_50 rfl (lv_at hl 0 rfl) ?_
  refine va_get (D := D) (ci := 0) (v := .ref b20) (C := "ValueBench") (T := TB) (N := 8) hx hb htx inB hown hK hP 0 rfl rfl 4 (by decide) (htx _ kw_1_99) (fun _ h9 => h9) rfl dB_one_51 ?_
  refine lv_aload_n hx hb dB_one_54 rfl (lv_at hl 0 rfl) ?_
  refine va_get (D := D) (ci := 0) (v := .ref a1) (C := "ValueBench") (T := TB) (N := 8) hx hb htx inB hown hK hP 0 rfl rfl 5 (by decide) (htx _ kw_1_100) (fun _ h9 => h9) rfl dB_one_55 ?_
  obtain ⟨hPc, hDc, hFc⟩ := xcut (wc := [(a3, .inr (1, [.ref a6, v29, v30])), (a4, .inr (2, [.ref a5, .int 1, v31])), (a5, .inl (cT 2, 4096, .inr (.inl f32))), (a6, .inl (cT 0, 4096, .inl f34)), (a1, .inr (2, [.ref a7, .int 0, .int 0])), (a7, .inl (cT 2, 4096, .inr (.inl f35)))]) hP hD hS hA [2, 3, 4, 5, 7, 6] rfl rfl (by decide)
  refine va_calli (va_runS (As := [.int 6, .ref a4, .ref a3, .ref b20, .ref a1]) (rest := [.ref a0]) ⟨hx, hb, hml, hown, htx⟩ (cG_apply_6 l hl9 D cT aK aV H.size a3 a4 a5 a6 a1 a7 b20 v29 v30 v31 f32 f34 f35 (by first | rfl | exact h26 | exact h28 | exact h33)) ⟨callB_of 5 htx (xw_goodC kw_4_28) rfl rfl rfl (htx _ kw_1_26) (htx _ kw_4_26) ⟨by decide, by decide, by decide +kernel⟩ ⟨Nat.le_of_ble_eq_true rfl, Nat.le_of_ble_eq_true rfl⟩, htx _ kw_4_27⟩ ⟨xPre_blind, (fun U hU hW => ⟨rfl, xPre_of hZ hS hFc hPc hDc hK U hU hW⟩)⟩ rfl rfl hl.1 rfl (lv_room (Nat.le_of_ble_eq_true rfl)) dB_one_58 ⟨Nat.le_of_ble_eq_true rfl, Nat.le_of_ble_eq_true rfl⟩) hS (fun q _ h => hFc q h) hFc (fun r4 u9 t H1 locs ht hvm hr9 hB hz1 hk1 hS => ?_)
  obtain ⟨hP1, hK1, hD1⟩ := hB
  rw [ht] at hP1
  obtain ⟨hP, hD⟩ := xjoin (W := [(a0, .inr (0, [v18, v19, .ref a3, .ref a2, .ref b20, .ref a1, v21, v22])), (a2, .inl (cT 3, 8, .inr (.inr (.inr (.inr f25))))), (a3, .inr (1, [.ref a6, .int 4, .int 0])), (a4, .inr (2, [.ref a5, .int 1, v31])), (a5, .inl (cT 2, 4096, .inr (.inl f32))), (a6, .inl (cT 0, 4096, .inl (upd (upd (upd (upd f34 0 110) 1 117) 2 108) 3 108))), (a1, .inr (2, [.ref a7, .int 5, .int 0])), (a7, .inl (cT 2, 4096, .inr (.inl (vp_updL (vp_updL (vp_updL (vp_updL (vp_updL (vp_updL f35 0 0) 1 110) 2 117) 3 108) 4 108) 0 2621476))))]) hP hD [2, 3, 4, 5, 7, 6] [0, 1] 2 rfl rfl (by decide) (by decide) hk1 hFc hP1 hD1
  generalize H1 = H at hP hS ⊢
  rw [hr9]
  refine W.eq (g2 := F0 m 61 ls [.int 0, .ref a0]) rfl ?_
  obtain ⟨hPc, hDc, hFc⟩ := xcut (wc := []) hP hD hS hA [] rfl rfl (by decide)
  refine va_callv (va_runV (C := "ValueBench") (As := [.int 0]) (rest := []) ⟨hx, hb, hml, hown, htx⟩ (cB_demandDone_0 l hl9 D cT aK aV H.size a0) ⟨callB_of 1 htx (xw_goodC kw_3_222) rfl rfl rfl (htx _ kw_1_1) (htx _ kw_3_219) ⟨by decide, by decide, by decide +kernel⟩ ⟨Nat.le_of_ble_eq_true rfl, Nat.le_of_ble_eq_true rfl⟩, (htx _ kw_3_221), (htx _ kp_B_demandDone)⟩ ⟨xPre_blind, va_recv hK hP (ci := 0) rfl (q0 := 0) rfl, (fun U hU hW => ⟨rfl, xPre_of hZ hS hFc hPc hDc hK U hU hW⟩)⟩ rfl rfl hl.1 rfl (lv_room (Nat.le_of_ble_eq_true rfl)) dB_one_61 ⟨Nat.le_of_ble_eq_true rfl, Nat.le_of_ble_eq_true rfl⟩) hS (fun q _ h => hFc q h) hFc (fun u9 t H1 locs ht hvm hr9 hB hz1 hk1 hS => ?_)
  obtain ⟨hP1, hK1, hD1⟩ := hB
  rw [ht] at hP1
  obtain ⟨hP, hD⟩ := xjoin (W := [(a0, .inr (0, [v18, v19, .ref a3, .ref a2, .ref b20, .ref a1, v21, v22])), (a2, .inl (cT 3, 8, .inr (.inr (.inr (.inr f25))))), (a3, .inr (1, [.ref a6, .int 4, .int 0])), (a4, .inr (2, [.ref a5, .int 1, v31])), (a5, .inl (cT 2, 4096, .inr (.inl f32))), (a6, .inl (cT 0, 4096, .inl (upd (upd (upd (upd f34 0 110) 1 117) 2 108) 3 108))), (a1, .inr (2, [.ref a7, .int 5, .int 0])), (a7, .inl (cT 2, 4096, .inr (.inl (vp_updL (vp_updL (vp_updL (vp_updL (vp_updL (vp_updL f35 0 0) 1 110) 2 117) 3 108) 4 108) 0 2621476))))]) hP hD [] [0, 1, 2, 3, 4, 5, 6, 7] 8 rfl rfl (by decide) (by decide) hk1 hFc hP1 hD1
  generalize H1 = H at hP hS ⊢
  refine lv_aload_n hx hb dB_one_64 rfl (lv_at hl 0 rfl) ?_
  refine lv_iload_n hx hb dB_one_65 rfl (lv_at hl 1 rfl) ?_
  obtain ⟨hPc, hDc, hFc⟩ := xcut (wc := [(a0, .inr (0, [v18, v19, .ref a3, .ref a2, .ref b20, .ref a1, v21, v22])), (a3, .inr (1, [.ref a6, .int 4, .int 0])), (a1, .inr (2, [.ref a7, .int 5, .int 0])), (a7, .inl (cT 2, 4096, .inr (.inl (vp_updL (vp_updL (vp_updL (vp_updL (vp_updL (vp_updL f35 0 0) 1 110) 2 117) 3 108) 4 108) 0 2621476)))), (a6, .inl (cT 0, 4096, .inl (upd (upd (upd (upd f34 0 110) 1 117) 2 108) 3 108))), (a2, .inl (cT 3, 8, .inr (.inr (.inr (.inr f25)))))]) hP hD hS hA [0, 2, 6, 7, 5, 1] rfl rfl (by decide)
  refine va_calli (va_runV (C := "ValueBench") (As := [.int x8]) (rest := []) ⟨hx, hb, hml, hown, htx⟩ (cB_keepSpare_2 l hl9 D cT aK aV H.size a0 a3 a1 a7 a6 a2 x8 v18 v19 (.ref b20) v21 v22 (.int 4) (.int 0) (vp_updL (vp_updL (vp_updL (vp_updL (vp_updL (vp_updL f35 0 0) 1 110) 2 117) 3 108) 4 108) 0 2621476) (upd (upd (upd (upd f34 0 110) 1 117) 2 108) 3 108) f25 b27 h9 h10 h11 h12 (by first | rfl | exact h26 | exact h28 | exact h33) (by first | rfl | exact h26 | exact h28 | exact h33) (by first | rfl | exact h26 | exact h28 | exact h33) (by first | rfl | exact h26 | exact h28 | exact h33) (by first | rfl | exact h26 | exact h28 | exact h33) (by first | rfl | exact h26 | exact h28 | exact h33)) ⟨callB_of 1 htx (xw_goodC kw_3_17) rfl rfl rfl (htx _ kw_1_1) (htx _ kw_3_14) ⟨by decide, by decide, by decide +kernel⟩ ⟨Nat.le_of_ble_eq_true rfl, Nat.le_of_ble_eq_true rfl⟩, (htx _ kw_3_16), (htx _ kp_B_keepSpare)⟩ ⟨xPre_blind, va_recv hK hP (ci := 0) rfl (q0 := 0) rfl, (fun U hU hW => ⟨rfl, xPre_of hZ hS hFc hPc hDc hK U hU hW⟩)⟩ rfl rfl hl.1 rfl (lv_room (Nat.le_of_ble_eq_true rfl)) dB_one_66 ⟨Nat.le_of_ble_eq_true rfl, Nat.le_of_ble_eq_true rfl⟩) hS (fun q _ h => hFc q h) hFc (fun r5 u9 t H1 locs ht hvm hr9 hB hz1 hk1 hS => ?_)
  obtain ⟨y6, y7, y8, y9, y10, y11, hP1, hK1, hD1⟩ := hB
  rw [ht] at hP1
  obtain ⟨hP, hD⟩ := xjoin (W := [(a4, .inr (2, [.ref a5, .int 1, v31])), (a5, .inl (cT 2, 4096, .inr (.inl f32))), (a0, .inr (0, [v18, v19, .ref a3, .ref a2, .ref b20, .ref b27, v21, v22])), (a3, .inr (1, [.ref a6, .int 6, .int 0])), (a1, .inr (2, [.ref a7, .int 5, .int 0])), (a7, .inl (cT 2, 4096, .inr (.inl (vp_updL (vp_updL (vp_updL (vp_updL (vp_updL (vp_updL f35 0 0) 1 110) 2 117) 3 108) 4 108) 0 2621476)))), (a6, .inl (cT 0, 4096, .inl (upd (upd (upd (upd (upd (upd (upd (upd (upd (upd f34 0 110) 1 117) 2 108) 3 108) 0 (vp_nar .byte y6)) 1 (vp_nar .byte y7)) 2 (vp_nar .byte y8)) 3 (vp_nar .byte y9)) 4 (vp_nar .byte y10)) 5 (vp_nar .byte y11)))), (a2, .inl (cT 3, 8, .inr (.inr (.inr (.inr (va_up f25 x8.toNatClampNeg (some a1)))))))]) hP hD [0, 2, 6, 7, 5, 1] [3, 4] 2 rfl rfl (by decide) (by decide) hk1 hFc hP1 hD1
  generalize H1 = H at hP hS ⊢
  rw [hr9]
  refine W.eq (g2 := F0 m 69 ls [.int 6]) rfl ?_
  refine lv_pop hx hb dB_one_69 rfl ?_
  obtain ⟨hP9, hD9⟩ := xsub (wc := [(a0, .inr (0, [v18, v19, .ref a3, .ref a2, .ref b20, .ref b27, v21, v22])), (a1, .inr (2, [.ref a7, .int 5, .int 0])), (a2, .inl (cT 3, 8, .inr (.inr (.inr (.inr (va_up f25 x8.toNatClampNeg (some a1))))))), (a3, .inr (1, [.ref a6, .int 6, .int 0])), (a4, .inr (2, [.ref a5, .int 1, v31])), (a5, .inl (cT 2, 4096, .inr (.inl f32))), (a6, .inl (cT 0, 4096, .inl (upd (upd (upd (upd (upd (upd (upd (upd (upd (upd f34 0 110) 1 117) 2 108) 3 108) 0 (vp_nar .byte y6)) 1 (vp_nar .byte y7)) 2 (vp_nar .byte y8)) 3 (vp_nar .byte y9)) 4 (vp_nar .byte y10)) 5 (vp_nar .byte y11)))), (a7, .inl (cT 2, 4096, .inr (.inl (vp_updL (vp_updL (vp_updL (vp_updL (vp_updL (vp_updL f35 0 0) 1 110) 2 117) 3 108) 4 108) 0 2621476))))]) hP hD [2, 4, 7, 3, 0, 1, 6, 5] rfl rfl (by decide)
  refine W.widen (k := 0) (n := 0) (Nat.le_of_ble_eq_true rfl) (Nat.le_of_ble_eq_true rfl) ?_
  exact W.vret hx hb hr (fun t ht hW => ⟨⟨(), rfl, trivial, y6, y7, y8, y9, y10, y11, by rw [ht]; exact hP9, va_K.moved hW.alike hK, hD9⟩, hS.F ht⟩) hS.2.2 dB_one_70
set_option maxHeartbeats 400000000 in
set_option maxRecDepth 100000 in
theorem cL_one_6 (l : Launch) (hl9 : l.stackTraces = false) (D : va_G) (cT : Nat → ClassId) (aK aV : Nat → Nat) (sz : Nat) (a0 : Nat) (a1 : Nat) (a2 : Nat) (a3 : Nat) (a4 : Nat) (a5 : Nat) (a6 : Nat) (a7 : Nat) (x8 : Int32) (x13 : Int32) (v18 : Value) (v19 : Value) (b20 : Nat) (v21 : Value) (v22 : Value) (v23 : Value) (v24 : Value) (f25 : Nat → Option Nat) (b27 : Nat) (v29 : Value) (v30 : Value) (v31 : Value) (f32 : Nat → Int64) (f34 : Nat → Int32) (f35 : Nat → Int64) (h9 : ¬ x8 < 0) (h10 : ¬ 7 < x8) (h11 : x8 ≤ 7) (h12 : vp_in x8 8) (h14 : ¬ x13 < 0) (h15 : ¬ 7 < x13) (h16 : x13 ≤ 7) (h17 : vp_in x13 8) (h26 : f25 x13.toNatClampNeg = some a4) (h28 : f25 x8.toNatClampNeg = some b27) (h33 : f32 0 = 0) : xMet l yL_one wyL_one 9 0 0 199 D cT aK aV sz [.ref a0, .int x8, .int 6, .int x13] [(a0, .inr (0, [v18, v19, .ref a3, .ref a2, .ref b20, .ref a1, v21, v22])), (a1, .inr (2, [.ref a7, v23, v24])), (a2, .inl (cT 3, 8, .inr (.inr (.inr (.inr f25))))), (a3, .inr (1, [.ref a6, v29, v30])), (a4, .inr (2, [.ref a5, .int 1, v31])), (a5, .inl (cT 2, 4096, .inr (.inl f32))), (a6, .inl (cT 0, 4096, .inl f34)), (a7, .inl (cT 2, 4096, .inr (.inl f35)))] (fun A => va_Qi (fun (r : Int32) (_ : Unit) => r = 0) (fun _ t => ∃ (y1 : Int32) (y2 : Int32) (y3 : Int32) (y4 : Int32) (y5 : Int32) (y6 : Int32), xB D xcl cT A [(a0, .inr (0, [v18, v19, .ref a3, .ref a2, .ref b20, .ref a1, v21, v22])), (a1, .inr (2, [.ref a7, .int 5, .int 0])), (a2, .inl (cT 3, 8, .inr (.inr (.inr (.inr (va_up f25 x8.toNatClampNeg (some a1))))))), (a3, .inr (1, [.ref a6, .int 6, .int 0])), (a4, .inr (2, [.ref a5, .int 1, v31])), (a5, .inl (cT 2, 4096, .inr (.inl f32))), (a6, .inl (cT 0, 4096, .inl (upd (upd (upd (upd (upd (upd (upd (upd (upd (upd f34 0 110) 1 117) 2 108) 3 108) 0 (vp_nar .byte y1)) 1 (vp_nar .byte y2)) 2 (vp_nar .byte y3)) 3 (vp_nar .byte y4)) 4 (vp_nar .byte y5)) 5 (vp_nar .byte y6)))), (a7, .inl (cT 2, 4096, .inr (.inl (vp_updL (vp_updL (vp_updL (vp_updL (vp_updL (vp_updL f35 0 0) 1 110) 2 117) 3 108) 4 108) 0 2621476))))] t) A) := by
  refine va_MetW (cc := method_10_code) (maxL := 5) (ret := (some .int)) (hh := [(0, 7, 10, 19), (0, 7, 14, 33), (0, 7, 18, 13)]) (by decide) rfl ?_
  intro p e s m args below meth c s₁ B hml hv
  obtain ⟨rfl, hsz, hZ, hP, hK, hD0⟩ := hv
  have hx := B.exec
  have hb := B.bytes
  have hr := B.returns
  have hts := atoms_spec (ws := wyL_one) B.pre
  have htx := fun w h => hts w (List.mem_cons_of_mem _ h)
  have hown : s.vm.findClass "ValueBenchLaw" = some m.cls := findClass_of_methodNamed B.named
  have hlocks := B.notSynchronized
  subst hsz
  have hD := hD0.self (sz := s.heap.size)
  generalize hAe : va_A [(a0, .inr (0, [v18, v19, .ref a3, .ref a2, .ref b20, .ref a1, v21, v22])), (a1, .inr (2, [.ref a7, v23, v24])), (a2, .inl (cT 3, 8, .inr (.inr (.inr (.inr f25))))), (a3, .inr (1, [.ref a6, v29, v30])), (a4, .inr (2, [.ref a5, .int 1, v31])), (a5, .inl (cT 2, 4096, .inr (.inl f32))), (a6, .inl (cT 0, 4096, .inl f34)), (a7, .inl (cT 2, 4096, .inr (.inl f35)))] s.heap.size = A at hD hZ ⊢
  have hA : ∀ q : Nat, s.heap.size ≤ q → A q := fun q h => by rw [← hAe]; exact Or.inr h
  have hS : va_S A s.heap s.heap [] := va_S.rf
  have hP : va_P D xcl [(a0, .inr (0, [v18, v19, .ref a3, .ref a2, .ref b20, .ref a1, v21, v22])), (a1, .inr (2, [.ref a7, v23, v24])), (a2, .inl (cT 3, 8, .inr (.inr (.inr (.inr f25))))), (a3, .inr (1, [.ref a6, v29, v30])), (a4, .inr (2, [.ref a5, .int 1, v31])), (a5, .inl (cT 2, 4096, .inr (.inl f32))), (a6, .inl (cT 0, 4096, .inl f34)), (a7, .inl (cT 2, 4096, .inr (.inl f35)))] s.heap := hP
  have hl := lv_entry ([.ref a0, .int x8, .int 6, .int x13]) (n := 5) (Nat.le_of_ble_eq_true rfl)
  rw [lg_entry_eq]
  generalize (lg_sl ([.ref a0, .int x8, .int 6, .int x13]) ++ List.replicate (5 - (lg_sl ([.ref a0, .int x8, .int 6, .int x13])).length) Slot.unset).toArray = ls at hl ⊢
  have hl : lv_has ls 5 [(0, .ref a0), (1, .int x8), (2, .int 6), (3, .int x13)] := hl
  have htab := vx_table (x := yL_one) B (hts _ List.mem_cons_self)
  refine lv_aload_n hx hb dL_one_0 rfl (lv_at hl 0 rfl) ?_
  refine lv_iload_n hx hb dL_one_1 rfl (lv_at hl 1 rfl) ?_
  refine lv_iload_n hx hb dL_one_2 rfl (lv_at hl 2 rfl) ?_
  refine lv_iload_n hx hb dL_one_3 rfl (lv_at hl 3 rfl) ?_
  obtain ⟨hPc, hDc, hFc⟩ := xcut (wc := [(a0, .inr (0, [v18, v19, .ref a3, .ref a2, .ref b20, .ref a1, v21, v22])), (a1, .inr (2, [.ref a7, v23, v24])), (a2, .inl (cT 3, 8, .inr (.inr (.inr (.inr f25))))), (a3, .inr (1, [.ref a6, v29, v30])), (a4, .inr (2, [.ref a5, .int 1, v31])), (a5, .inl (cT 2, 4096, .inr (.inl f32))), (a6, .inl (cT 0, 4096, .inl f34)), (a7, .inl (cT 2, 4096, .inr (.inl f35)))]) hP hD hS hA [0, 1, 2, 3, 4, 5, 6, 7] rfl rfl (by decide)
  refine va_callv (va_runV (C := "ValueBench") (As := [.int x8, .int 6, .int x13]) (rest := []) ⟨hx, hb, hml, hown, htx⟩ (cB_one_6 l hl9 D cT aK aV s.heap.size a0 a1 a2 a3 a4 a5 a6 a7 x8 x13 v18 v19 b20 v21 v22 v23 v24 f25 b27 v29 v30 v31 f32 f34 f35 h9 h10 h11 h12 h14 h15 h16 h17 (by first | rfl | exact h26 | exact h28 | exact h33) (by first | rfl | exact h26 | exact h28 | exact h33) (by first | rfl | exact h26 | exact h28 | exact h33)) ⟨callB_of 3 htx (xw_goodC kw_4_25) rfl rfl rfl (htx _ kw_1_1) (htx _ kw_4_22) ⟨by decide, by decide, by decide +kernel⟩ ⟨Nat.le_of_ble_eq_true rfl, Nat.le_of_ble_eq_true rfl⟩, (htx _ kw_4_23), (htx _ kw_4_24)⟩ ⟨xPre_blind, va_recv hK hP (ci := 0) rfl (q0 := 0) rfl, (fun U hU hW => ⟨rfl, xPre_of hZ hS hFc hPc hDc hK U hU hW⟩)⟩ rfl rfl hl.1 rfl (lv_room (Nat.le_of_ble_eq_true rfl)) dL_one_4 ⟨Nat.le_of_ble_eq_true rfl, Nat.le_of_ble_eq_true rfl⟩) hS (fun q _ h => hFc q h) hFc (fun u9 t H1 locs ht hvm hr9 hB hz1 hk1 hS => ?_)
  obtain ⟨y1, y2, y3, y4, y5, y6, hP1, hK1, hD1⟩ := hB
  rw [ht] at hP1
  obtain ⟨hP, hD⟩ := xjoin (W := [(a0, .inr (0, [v18, v19, .ref a3, .ref a2, .ref b20, .ref a1, v21, v22])), (a1, .inr (2, [.ref a7, .int 5, .int 0])), (a2, .inl (cT 3, 8, .inr (.inr (.inr (.inr (va_up f25 x8.toNatClampNeg (some a1))))))), (a3, .inr (1, [.ref a6, .int 6, .int 0])), (a4, .inr (2, [.ref a5, .int 1, v31])), (a5, .inl (cT 2, 4096, .inr (.inl f32))), (a6, .inl (cT 0, 4096, .inl (upd (upd (upd (upd (upd (upd (upd (upd (upd (upd f34 0 110) 1 117) 2 108) 3 108) 0 (vp_nar .byte y1)) 1 (vp_nar .byte y2)) 2 (vp_nar .byte y3)) 3 (vp_nar .byte y4)) 4 (vp_nar .byte y5)) 5 (vp_nar .byte y6)))), (a7, .inl (cT 2, 4096, .inr (.inl (vp_updL (vp_updL (vp_updL (vp_updL (vp_updL (vp_updL f35 0 0) 1 110) 2 117) 3 108) 4 108) 0 2621476))))]) hP hD [0, 1, 2, 3, 4, 5, 6, 7] [] 0 rfl rfl (by decide) (by decide) hk1 hFc hP1 hD1
  generalize H1 = H at hP hS ⊢
  refine lv_goto (tgt := 22) hx hb dL_one_7 (by decide) ?_
  refine lv_iconst (v := 0) hx hb dL_one_22 (by decide) ?_
  obtain ⟨hP9, hD9⟩ := xsub (wc := [(a0, .inr (0, [v18, v19, .ref a3, .ref a2, .ref b20, .ref a1, v21, v22])), (a1, .inr (2, [.ref a7, .int 5, .int 0])), (a2, .inl (cT 3, 8, .inr (.inr (.inr (.inr (va_up f25 x8.toNatClampNeg (some a1))))))), (a3, .inr (1, [.ref a6, .int 6, .int 0])), (a4, .inr (2, [.ref a5, .int 1, v31])), (a5, .inl (cT 2, 4096, .inr (.inl f32))), (a6, .inl (cT 0, 4096, .inl (upd (upd (upd (upd (upd (upd (upd (upd (upd (upd f34 0 110) 1 117) 2 108) 3 108) 0 (vp_nar .byte y1)) 1 (vp_nar .byte y2)) 2 (vp_nar .byte y3)) 3 (vp_nar .byte y4)) 4 (vp_nar .byte y5)) 5 (vp_nar .byte y6)))), (a7, .inl (cT 2, 4096, .inr (.inl (vp_updL (vp_updL (vp_updL (vp_updL (vp_updL (vp_updL f35 0 0) 1 110) 2 117) 3 108) 4 108) 0 2621476))))]) hP hD [0, 1, 2, 3, 4, 5, 6, 7] rfl rfl (by decide)
  refine W.widen (k := 0) (n := 0) (Nat.le_of_ble_eq_true rfl) (Nat.le_of_ble_eq_true rfl) ?_
  exact W.iret (v := 0) hx hb hr (fun t ht hW => ⟨⟨0, (), rfl, rfl, y1, y2, y3, y4, y5, y6, by rw [ht]; exact hP9, va_K.moved hW.alike hK, hD9⟩, hS.F ht⟩) hS.2.2 dL_one_23
set_option maxHeartbeats 400000000 in
set_option maxRecDepth 100000 in
theorem cB_isWithin_17 (l : Launch) (hl9 : l.stackTraces = false) (D : va_G) (cT : Nat → ClassId) (aK aV : Nat → Nat) (sz : Nat) : xMet l yB_isWithin wyB_isWithin 0 0 0 0 D cT aK aV sz [.int 7, .int 13] [] (fun A => va_Qi (fun (r : Int32) (_ : Unit) => r = 1) (fun _ t => xB D xcl cT A [] t) A) := by
  refine Met.ofW (cc := prog_1_method_15_code) (maxL := 2) (ret := (some .boolean)) (by decide) rfl ?_
  intro p e s m args below meth c s₁ B hml hv
  obtain ⟨rfl, hsz, hZ, hP, hK, hD0⟩ := hv
  have hx := B.exec
  have hb := B.bytes
  have hr := B.returns
  have hts := atoms_spec (ws := wyB_isWithin) B.pre
  have htx := fun w h => hts w (List.mem_cons_of_mem _ h)
  have hown : s.vm.findClass "ValueBench" = some m.cls := findClass_of_methodNamed B.named
  have hlocks := B.notSynchronized
  subst hsz
  have hD := hD0.self (sz := s.heap.size)
  generalize hAe : va_A [] s.heap.size = A at hD hZ ⊢
  have hA : ∀ q : Nat, s.heap.size ≤ q → A q := fun q h => by rw [← hAe]; exact Or.inr h
  have hS : va_S A s.heap s.heap [] := va_S.rf
  have hP : va_P D xcl [] s.heap := hP
  have hl := lv_entry ([.int 7, .int 13]) (n := 2) (Nat.le_of_ble_eq_true rfl)
  rw [lg_entry_eq]
  generalize (lg_sl ([.int 7, .int 13]) ++ List.replicate (2 - (lg_sl ([.int 7, .int 13])).length) Slot.unset).toArray = ls at hl ⊢
  have hl : lv_has ls 2 [(0, .int 7), (1, .int 13)] := hl
  refine lv_iload_n hx hb dB_isWithin_0 rfl (lv_at hl 0 rfl) ?_
  refine lv_if_lt (tgt := 13) hx hb dB_isWithin_1 (by decide) (fun h => ((by revert h; decide : False)).elim) (fun _ => ?_)
  refine lv_iload_n hx hb dB_isWithin_4 rfl (lv_at hl 0 rfl) ?_
  refine lv_iload_n hx hb dB_isWithin_5 rfl (lv_at hl 1 rfl) ?_
  refine lv_icmp_gt (tgt := 13) hx hb dB_isWithin_6 (by decide) (fun h => ((by revert h; decide : False)).elim) (fun _ => ?_)
  refine lv_iconst (v := 1) hx hb dB_isWithin_9 (by decide) ?_
  refine lv_goto (tgt := 14) hx hb dB_isWithin_10 (by decide) ?_
  obtain ⟨hP9, hD9⟩ := xsub (wc := []) hP hD [] rfl rfl (by decide)
  refine W.widen (k := 0) (n := 0) (Nat.le_of_ble_eq_true rfl) (Nat.le_of_ble_eq_true rfl) ?_
  exact W.zret (v := 1) hx hb hr rfl (fun t ht hW => ⟨⟨1, (), rfl, rfl, by rw [ht]; exact hP9, va_K.moved hW.alike hK, hD9⟩, hS.F ht⟩) hS.2.2 dB_isWithin_14
set_option maxHeartbeats 400000000 in
set_option maxRecDepth 100000 in
theorem cG_fromJson_0 (l : Launch) (hl9 : l.stackTraces = false) (D : va_G) (cT : Nat → ClassId) (aK aV : Nat → Nat) (sz : Nat) (a0 : Nat) (a1 : Nat) (b2 : Nat) (b3 : Nat) (v4 : Value) (f5 : Nat → Int64) (h6 : f5 0 = 0) : xMet l yG_fromJson wyG_fromJson 2 0 0 43 D cT aK aV sz [.ref a0, .ref b2, .ref b3] [(a0, .inr (2, [.ref a1, .int 1, v4])), (a1, .inl (cT 2, 4096, .inr (.inl f5)))] (fun A => va_Qi (fun (r : Int32) (_ : Unit) => r = 1) (fun _ t => xB D xcl cT A [(a0, .inr (2, [.ref a1, .int 1, v4])), (a1, .inl (cT 2, 4096, .inr (.inl f5)))] t) A) := by
  refine Met.ofW (cc := prog_9_method_9_code) (maxL := 3) (ret := (some .int)) (by decide) rfl ?_
  intro p e s m args below meth c s₁ B hml hv
  obtain ⟨rfl, hsz, hZ, hP, hK, hD0⟩ := hv
  have hx := B.exec
  have hb := B.bytes
  have hr := B.returns
  have hts := atoms_spec (ws := wyG_fromJson) B.pre
  have htx := fun w h => hts w (List.mem_cons_of_mem _ h)
  have hown : s.vm.findClass "ValueBench$Singles" = some m.cls := findClass_of_methodNamed B.named
  have hlocks := B.notSynchronized
  subst hsz
  have hD := hD0.self (sz := s.heap.size)
  generalize hAe : va_A [(a0, .inr (2, [.ref a1, .int 1, v4])), (a1, .inl (cT 2, 4096, .inr (.inl f5)))] s.heap.size = A at hD hZ ⊢
  have hA : ∀ q : Nat, s.heap.size ≤ q → A q := fun q h => by rw [← hAe]; exact Or.inr h
  have hS : va_S A s.heap s.heap [] := va_S.rf
  have hP : va_P D xcl [(a0, .inr (2, [.ref a1, .int 1, v4])), (a1, .inl (cT 2, 4096, .inr (.inl f5)))] s.heap := hP
  have hl := lv_entry ([.ref a0, .ref b2, .ref b3]) (n := 3) (Nat.le_of_ble_eq_true rfl)
  rw [lg_entry_eq]
  generalize (lg_sl ([.ref a0, .ref b2, .ref b3]) ++ List.replicate (3 - (lg_sl ([.ref a0, .ref b2, .ref b3])).length) Slot.unset).toArray = ls at hl ⊢
  have hl : lv_has ls 3 [(0, .ref a0), (1, .ref b2), (2, .ref b3)] := hl
  refine lv_aload_n hx hb dG_fromJson_0 rfl (lv_at hl 0 rfl) ?_
  refine lv_iconst (v := 0) hx hb dG_fromJson_1 (by decide) ?_
  refine lv_iconst (v := 4) hx hb dG_fromJson_2 (by decide) ?_
  obtain ⟨hPc, hDc, hFc⟩ := xcut (wc := [(a0, .inr (2, [.ref a1, .int 1, v4])), (a1, .inl (cT 2, 4096, .inr (.inl f5)))]) hP hD hS hA [0, 1] rfl rfl (by decide)
  refine va_calli (va_runV (C := "ValueBench$Row") (As := [.int 0, .int 4]) (rest := []) ⟨hx, hb, hml, hown, htx⟩ (cR_is_3 l hl9 D cT aK aV s.heap.size a0 a1 v4 f5 (by first | rfl | exact h6)) ⟨callB_of 2 htx (xw_goodC kw_3_75) rfl rfl rfl (htx _ kw_1_4) (htx _ kw_4_29) ⟨by decide, by decide, by decide +kernel⟩ ⟨Nat.le_of_ble_eq_true rfl, Nat.le_of_ble_eq_true rfl⟩, (htx _ kw_3_73), (htx _ kw_3_74)⟩ ⟨xPre_blind, va_recv hK hP (ci := 2) rfl (q0 := 0) rfl, (fun U hU hW => ⟨rfl, xPre_of hZ hS hFc hPc hDc hK U hU hW⟩)⟩ rfl rfl hl.1 rfl (lv_room (Nat.le_of_ble_eq_true rfl)) dG_fromJson_3 ⟨Nat.le_of_ble_eq_true rfl, Nat.le_of_ble_eq_true rfl⟩) hS (fun q _ h => hFc q h) hFc (fun r1 u9 t H1 locs ht hvm hr9 hB hz1 hk1 hS => ?_)
  obtain ⟨hP1, hK1, hD1⟩ := hB
  rw [ht] at hP1
  obtain ⟨hP, hD⟩ := xjoin (W := [(a0, .inr (2, [.ref a1, .int 1, v4])), (a1, .inl (cT 2, 4096, .inr (.inl f5)))]) hP hD [0, 1] [] 0 rfl rfl (by decide) (by decide) hk1 hFc hP1 hD1
  generalize H1 = H at hP hS ⊢
  rw [hr9]
  refine W.eq (g2 := F0 m 6 ls [.int 0]) rfl ?_
  refine lv_if_ne (tgt := 11) hx hb dG_fromJson_6 (by decide) (fun h => ((by revert h; decide : False)).elim) (fun _ => ?_)
  refine lv_iconst (v := 1) hx hb dG_fromJson_9 (by decide) ?_
  obtain ⟨hP9, hD9⟩ := xsub (wc := [(a0, .inr (2, [.ref a1, .int 1, v4])), (a1, .inl (cT 2, 4096, .inr (.inl f5)))]) hP hD [0, 1] rfl rfl (by decide)
  refine W.widen (k := 0) (n := 0) (Nat.le_of_ble_eq_true rfl) (Nat.le_of_ble_eq_true rfl) ?_
  exact W.iret (v := 1) hx hb hr (fun t ht hW => ⟨⟨1, (), rfl, rfl, by rw [ht]; exact hP9, va_K.moved hW.alike hK, hD9⟩, hS.F ht⟩) hS.2.2 dG_fromJson_10
set_option maxHeartbeats 400000000 in
set_option maxRecDepth 100000 in
theorem cG_apply_7 (l : Launch) (hl9 : l.stackTraces = false) (D : va_G) (cT : Nat → ClassId) (aK aV : Nat → Nat) (sz : Nat) (a0 : Nat) (a1 : Nat) (b2 : Nat) (b3 : Nat) (b4 : Nat) (v5 : Value) (f6 : Nat → Int64) (h7 : f6 0 = 0) : xMet l yG_apply wyG_apply 3 0 0 65 D cT aK aV sz [.int 7, .ref a0, .ref b2, .ref b3, .ref b4] [(a0, .inr (2, [.ref a1, .int 1, v5])), (a1, .inl (cT 2, 4096, .inr (.inl f6)))] (fun A => va_Qi (fun (r : Int32) (_ : Unit) => r = 1) (fun _ t => xB D xcl cT A [(a0, .inr (2, [.ref a1, .int 1, v5])), (a1, .inl (cT 2, 4096, .inr (.inl f6)))] t) A) := by
  refine Met.ofW (cc := prog_9_method_2_code) (maxL := 5) (ret := (some .int)) (by decide) rfl ?_
  intro p e s m args below meth c s₁ B hml hv
  obtain ⟨rfl, hsz, hZ, hP, hK, hD0⟩ := hv
  have hx := B.exec
  have hb := B.bytes
  have hr := B.returns
  have hts := atoms_spec (ws := wyG_apply) B.pre
  have htx := fun w h => hts w (List.mem_cons_of_mem _ h)
  have hown : s.vm.findClass "ValueBench$Singles" = some m.cls := findClass_of_methodNamed B.named
  have hlocks := B.notSynchronized
  subst hsz
  have hD := hD0.self (sz := s.heap.size)
  generalize hAe : va_A [(a0, .inr (2, [.ref a1, .int 1, v5])), (a1, .inl (cT 2, 4096, .inr (.inl f6)))] s.heap.size = A at hD hZ ⊢
  have hA : ∀ q : Nat, s.heap.size ≤ q → A q := fun q h => by rw [← hAe]; exact Or.inr h
  have hS : va_S A s.heap s.heap [] := va_S.rf
  have hP : va_P D xcl [(a0, .inr (2, [.ref a1, .int 1, v5])), (a1, .inl (cT 2, 4096, .inr (.inl f6)))] s.heap := hP
  have hl := lv_entry ([.int 7, .ref a0, .ref b2, .ref b3, .ref b4]) (n := 5) (Nat.le_of_ble_eq_true rfl)
  rw [lg_entry_eq]
  generalize (lg_sl ([.int 7, .ref a0, .ref b2, .ref b3, .ref b4]) ++ List.replicate (5 - (lg_sl ([.int 7, .ref a0, .ref b2, .ref b3, .ref b4])).length) Slot.unset).toArray = ls at hl ⊢
  have hl : lv_has ls 5 [(0, .int 7), (1, .ref a0), (2, .ref b2), (3, .ref b3), (4, .ref b4)] := hl
  refine lv_iload_n hx hb dG_apply_0 rfl (lv_at hl 0 rfl) ?_
  refine lv_tableIn (off := 180) (tgt := 181) hx hb dG_apply_1 (by decide) (by decide) (by decide) (by decide) ?_
  refine lv_aload_n hx hb dG_apply_181 rfl (lv_at hl 1 rfl) ?_
  refine lv_aload_n hx hb dG_apply_182 rfl (lv_at hl 2 rfl) ?_
  refine lv_aload hx hb dG_apply_183 (lv_at hl 4 rfl) ?_
  obtain ⟨hPc, hDc, hFc⟩ := xcut (wc := [(a0, .inr (2, [.ref a1, .int 1, v5])), (a1, .inl (cT 2, 4096, .inr (.inl f6)))]) hP hD hS hA [0, 1] rfl rfl (by decide)
  refine va_calli (va_runS (As := [.ref a0, .ref b2, .ref b4]) (rest := []) ⟨hx, hb, hml, hown, htx⟩ (cG_fromJson_0 l hl9 D cT aK aV s.heap.size a0 a1 b2 b4 v5 f6 (by first | rfl | exact h7)) ⟨callB_of 3 htx (xw_goodC kw_4_110) rfl rfl rfl (htx _ kw_1_26) (htx _ kw_4_108) ⟨by decide, by decide, by decide +kernel⟩ ⟨Nat.le_of_ble_eq_true rfl, Nat.le_of_ble_eq_true rfl⟩, htx _ kw_4_109⟩ ⟨xPre_blind, (fun U hU hW => ⟨rfl, xPre_of hZ hS hFc hPc hDc hK U hU hW⟩)⟩ rfl rfl hl.1 rfl (lv_room (Nat.le_of_ble_eq_true rfl)) dG_apply_185 ⟨Nat.le_of_ble_eq_true rfl, Nat.le_of_ble_eq_true rfl⟩) hS (fun q _ h => hFc q h) hFc (fun r1 u9 t H1 locs ht hvm hr9 hB hz1 hk1 hS => ?_)
  obtain ⟨hP1, hK1, hD1⟩ := hB
  rw [ht] at hP1
  obtain ⟨hP, hD⟩ := xjoin (W := [(a0, .inr (2, [.ref a1, .int 1, v5])), (a1, .inl (cT 2, 4096, .inr (.inl f6)))]) hP hD [0, 1] [] 0 rfl rfl (by decide) (by decide) hk1 hFc hP1 hD1
  generalize H1 = H at hP hS ⊢
  rw [hr9]
  refine W.eq (g2 := F0 m 188 ls [.int 1]) rfl ?_
  obtain ⟨hP9, hD9⟩ := xsub (wc := [(a0, .inr (2, [.ref a1, .int 1, v5])), (a1, .inl (cT 2, 4096, .inr (.inl f6)))]) hP hD [0, 1] rfl rfl (by decide)
  refine W.widen (k := 0) (n := 0) (Nat.le_of_ble_eq_true rfl) (Nat.le_of_ble_eq_true rfl) ?_
  exact W.iret (v := 1) hx hb hr (fun t ht hW => ⟨⟨1, (), rfl, rfl, by rw [ht]; exact hP9, va_K.moved hW.alike hK, hD9⟩, hS.F ht⟩) hS.2.2 dG_apply_188
set_option maxHeartbeats 400000000 in
set_option maxRecDepth 100000 in
theorem cB_one_7 (l : Launch) (hl9 : l.stackTraces = false) (D : va_G) (cT : Nat → ClassId) (aK aV : Nat → Nat) (sz : Nat) (a0 : Nat) (a1 : Nat) (a2 : Nat) (a3 : Nat) (a4 : Nat) (x5 : Int32) (x10 : Int32) (v15 : Value) (v16 : Value) (b17 : Nat) (b18 : Nat) (v19 : Value) (v20 : Value) (v21 : Value) (v22 : Value) (v23 : Value) (f24 : Nat → Option Nat) (v26 : Value) (f27 : Nat → Int64) (h6 : ¬ x5 < 0) (h7 : ¬ 7 < x5) (h8 : x5 ≤ 7) (h9 : vp_in x5 8) (h11 : ¬ x10 < 0) (h12 : ¬ 7 < x10) (h13 : x10 ≤ 7) (h14 : vp_in x10 8) (h25 : f24 x10.toNatClampNeg = some a3) (h28 : f27 0 = 0) : xMetX l yB_one wyB_one 7 1 6 121 D cT aK aV sz [.ref a0, .int x5, .int 7, .int x10] [(a0, .inr (0, [v15, v16, .ref b17, .ref a2, .ref b18, .ref a1, v19, v20])), (a1, .inr (2, [v21, v22, v23])), (a2, .inl (cT 3, 8, .inr (.inr (.inr (.inr f24))))), (a3, .inr (2, [.ref a4, .int 1, v26])), (a4, .inl (cT 2, 4096, .inr (.inl f27)))] "java/lang/ArithmeticException" (fun A t => xB D xcl cT A [(a0, .inr (0, [v15, v16, .ref b17, .ref a2, .ref b18, .ref a1, v19, .int 1])), (a1, .inr (2, [v21, .int 0, .int 0])), (a2, .inl (cT 3, 8, .inr (.inr (.inr (.inr f24))))), (a3, .inr (2, [.ref a4, .int 1, v26])), (a4, .inl (cT 2, 4096, .inr (.inl f27)))] t) := by
  refine vx_ofW (cc := prog_1_method_9_code) (maxL := 4) (ret := none) (by decide) rfl ?_
  intro p e s m args below meth c s₁ B hml hne hv
  obtain ⟨rfl, hsz, hZ, hP, hK, hD0⟩ := hv
  have hx := B.exec
  have hb := B.bytes
  have hr := B.returns
  have hts := atoms_spec (ws := wyB_one) B.pre
  have htx := fun w h => hts w (List.mem_cons_of_mem _ h)
  have hown : s.vm.findClass "ValueBench" = some m.cls := findClass_of_methodNamed B.named
  have hlocks := B.notSynchronized
  subst hsz
  have hD := hD0.self (sz := s.heap.size)
  generalize hAe : va_A [(a0, .inr (0, [v15, v16, .ref b17, .ref a2, .ref b18, .ref a1, v19, v20])), (a1, .inr (2, [v21, v22, v23])), (a2, .inl (cT 3, 8, .inr (.inr (.inr (.inr f24))))), (a3, .inr (2, [.ref a4, .int 1, v26])), (a4, .inl (cT 2, 4096, .inr (.inl f27)))] s.heap.size = A at hD hZ ⊢
  have hA : ∀ q : Nat, s.heap.size ≤ q → A q := fun q h => by rw [← hAe]; exact Or.inr h
  have hS : va_S A s.heap s.heap [] := va_S.rf
  have hP : va_P D xcl [(a0, .inr (0, [v15, v16, .ref b17, .ref a2, .ref b18, .ref a1, v19, v20])), (a1, .inr (2, [v21, v22, v23])), (a2, .inl (cT 3, 8, .inr (.inr (.inr (.inr f24))))), (a3, .inr (2, [.ref a4, .int 1, v26])), (a4, .inl (cT 2, 4096, .inr (.inl f27)))] s.heap := hP
  have hl := lv_entry ([.ref a0, .int x5, .int 7, .int x10]) (n := 4) (Nat.le_of_ble_eq_true rfl)
  rw [lg_entry_eq]
  generalize (lg_sl ([.ref a0, .int x5, .int 7, .int x10]) ++ List.replicate (4 - (lg_sl ([.ref a0, .int x5, .int 7, .int x10])).length) Slot.unset).toArray = ls at hl ⊢
  have hl : lv_has ls 4 [(0, .ref a0), (1, .int x5), (2, .int 7), (3, .int x10)] := hl
  refine lv_iload_n hx hb dB_one_0 rfl (lv_at hl 1 rfl) ?_
  obtain ⟨hPc, hDc, hFc⟩ := xcut (wc := []) hP hD hS hA [] rfl rfl (by decide)
  refine va_calli (va_runS (As := [.int x5]) (rest := []) ⟨hx, hb, hml, hown, htx⟩ (cB_isRegister_0 l hl9 D cT aK aV s.heap.size x5 h6 h7 h8 h9) ⟨callB_of 1 htx (xw_goodC kw_2_18) rfl rfl rfl (htx _ kw_1_1) (htx _ kw_2_16) ⟨by decide, by decide, by decide +kernel⟩ ⟨Nat.le_of_ble_eq_true rfl, Nat.le_of_ble_eq_true rfl⟩, htx _ kw_2_17⟩ ⟨xPre_blind, (fun U hU hW => ⟨rfl, xPre_of hZ hS hFc hPc hDc hK U hU hW⟩)⟩ rfl rfl hl.1 rfl (lv_room (Nat.le_of_ble_eq_true rfl)) dB_one_1 ⟨Nat.le_of_ble_eq_true rfl, Nat.le_of_ble_eq_true rfl⟩) hS (fun q _ h => hFc q h) hFc (fun r1 u9 t H1 locs ht hvm hr9 hB hz1 hk1 hS => ?_)
  obtain ⟨hP1, hK1, hD1⟩ := hB
  rw [ht] at hP1
  obtain ⟨hP, hD⟩ := xjoin (W := [(a0, .inr (0, [v15, v16, .ref b17, .ref a2, .ref b18, .ref a1, v19, v20])), (a1, .inr (2, [v21, v22, v23])), (a2, .inl (cT 3, 8, .inr (.inr (.inr (.inr f24))))), (a3, .inr (2, [.ref a4, .int 1, v26])), (a4, .inl (cT 2, 4096, .inr (.inl f27)))]) hP hD [] [0, 1, 2, 3, 4] 5 rfl rfl (by decide) (by decide) hk1 hFc hP1 hD1
  generalize H1 = H at hP hS ⊢
  rw [hr9]
  refine W.eq (g2 := F0 m 4 ls [.int 1]) rfl ?_
  refine lv_if_eq (tgt := 27) hx hb dB_one_4 (by decide) (fun h => ((by revert h; decide : False)).elim) (fun _ => ?_)
  refine lv_iload_n hx hb dB_one_7 rfl (lv_at hl 2 rfl) ?_
  refine lv_bipush (v := 13) hx hb dB_one_8 (by decide) ?_
  obtain ⟨hPc, hDc, hFc⟩ := xcut (wc := []) hP hD hS hA [] rfl rfl (by decide)
  refine va_calli (va_runS (As := [.int 7, .int 13]) (rest := []) ⟨hx, hb, hml, hown, htx⟩ (cB_isWithin_17 l hl9 D cT aK aV H.size) ⟨callB_of 2 htx (xw_goodC kw_1_218) rfl rfl rfl (htx _ kw_1_1) (htx _ kw_1_216) ⟨by decide, by decide, by decide +kernel⟩ ⟨Nat.le_of_ble_eq_true rfl, Nat.le_of_ble_eq_true rfl⟩, htx _ kw_1_217⟩ ⟨xPre_blind, (fun U hU hW => ⟨rfl, xPre_of hZ hS hFc hPc hDc hK U hU hW⟩)⟩ rfl rfl hl.1 rfl (lv_room (Nat.le_of_ble_eq_true rfl)) dB_one_10 ⟨Nat.le_of_ble_eq_true rfl, Nat.le_of_ble_eq_true rfl⟩) hS (fun q _ h => hFc q h) hFc (fun r2 u9 t H1 locs ht hvm hr9 hB hz1 hk1 hS => ?_)
  obtain ⟨hP1, hK1, hD1⟩ := hB
  rw [ht] at hP1
  obtain ⟨hP, hD⟩ := xjoin (W := [(a0, .inr (0, [v15, v16, .ref b17, .ref a2, .ref b18, .ref a1, v19, v20])), (a1, .inr (2, [v21, v22, v23])), (a2, .inl (cT 3, 8, .inr (.inr (.inr (.inr f24))))), (a3, .inr (2, [.ref a4, .int 1, v26])), (a4, .inl (cT 2, 4096, .inr (.inl f27)))]) hP hD [] [0, 1, 2, 3, 4] 5 rfl rfl (by decide) (by decide) hk1 hFc hP1 hD1
  generalize H1 = H at hP hS ⊢
  rw [hr9]
  refine W.eq (g2 := F0 m 13 ls [.int 1]) rfl ?_
  refine lv_if_eq (tgt := 27) hx hb dB_one_13 (by decide) (fun h => ((by revert h; decide : False)).elim) (fun _ => ?_)
  refine lv_iload_n hx hb dB_one_16 rfl (lv_at hl 3 rfl) ?_
  obtain ⟨hPc, hDc, hFc⟩ := xcut (wc := []) hP hD hS hA [] rfl rfl (by decide)
  refine va_calli (va_runS (As := [.int x10]) (rest := []) ⟨hx, hb, hml, hown, htx⟩ (cB_isRegister_0 l hl9 D cT aK aV H.size x10 h11 h12 h13 h14) ⟨callB_of 1 htx (xw_goodC kw_2_18) rfl rfl rfl (htx _ kw_1_1) (htx _ kw_2_16) ⟨by decide, by decide, by decide +kernel⟩ ⟨Nat.le_of_ble_eq_true rfl, Nat.le_of_ble_eq_true rfl⟩, htx _ kw_2_17⟩ ⟨xPre_blind, (fun U hU hW => ⟨rfl, xPre_of hZ hS hFc hPc hDc hK U hU hW⟩)⟩ rfl rfl hl.1 rfl (lv_room (Nat.le_of_ble_eq_true rfl)) dB_one_17 ⟨Nat.le_of_ble_eq_true rfl, Nat.le_of_ble_eq_true rfl⟩) hS (fun q _ h => hFc q h) hFc (fun r3 u9 t H1 locs ht hvm hr9 hB hz1 hk1 hS => ?_)
  obtain ⟨hP1, hK1, hD1⟩ := hB
  rw [ht] at hP1
  obtain ⟨hP, hD⟩ := xjoin (W := [(a0, .inr (0, [v15, v16, .ref b17, .ref a2, .ref b18, .ref a1, v19, v20])), (a1, .inr (2, [v21, v22, v23])), (a2, .inl (cT 3, 8, .inr (.inr (.inr (.inr f24))))), (a3, .inr (2, [.ref a4, .int 1, v26])), (a4, .inl (cT 2, 4096, .inr (.inl f27)))]) hP hD [] [0, 1, 2, 3, 4] 5 rfl rfl (by decide) (by decide) hk1 hFc hP1 hD1
  generalize H1 = H at hP hS ⊢
  rw [hr9]
  refine W.eq (g2 := F0 m 20 ls [.int 1]) rfl ?_
  refine lv_if_eq (tgt := 27) hx hb dB_one_20 (by decide) (fun h => ((by revert h; decide : False)).elim) (fun _ => ?_)
  refine lv_iconst (v := 1) hx hb dB_one_23 (by decide) ?_
  refine lv_goto (tgt := 28) hx hb dB_one_24 (by decide) ?_
  obtain ⟨hPc, hDc, hFc⟩ := xcut (wc := []) hP hD hS hA [] rfl rfl (by decide)
  refine va_callv (va_runS (As := [.int 1]) (rest := []) ⟨hx, hb, hml, hown, htx⟩ (cB_demand_0 l hl9 D cT aK aV H.size) ⟨callB_of 1 htx (xw_goodC kw_1_221) rfl rfl rfl (htx _ kw_1_1) (htx _ kw_1_219) ⟨by decide, by decide, by decide +kernel⟩ ⟨Nat.le_of_ble_eq_true rfl, Nat.le_of_ble_eq_true rfl⟩, htx _ kw_1_220⟩ ⟨xPre_blind, (fun U hU hW => ⟨rfl, xPre_of hZ hS hFc hPc hDc hK U hU hW⟩)⟩ rfl rfl hl.1 rfl (lv_room (Nat.le_of_ble_eq_true rfl)) dB_one_28 ⟨Nat.le_of_ble_eq_true rfl, Nat.le_of_ble_eq_true rfl⟩) hS (fun q _ h => hFc q h) hFc (fun u9 t H1 locs ht hvm hr9 hB hz1 hk1 hS => ?_)
  obtain ⟨hP1, hK1, hD1⟩ := hB
  rw [ht] at hP1
  obtain ⟨hP, hD⟩ := xjoin (W := [(a0, .inr (0, [v15, v16, .ref b17, .ref a2, .ref b18, .ref a1, v19, v20])), (a1, .inr (2, [v21, v22, v23])), (a2, .inl (cT 3, 8, .inr (.inr (.inr (.inr f24))))), (a3, .inr (2, [.ref a4, .int 1, v26])), (a4, .inl (cT 2, 4096, .inr (.inl f27)))]) hP hD [] [0, 1, 2, 3, 4] 5 rfl rfl (by decide) (by decide) hk1 hFc hP1 hD1
  generalize H1 = H at hP hS ⊢
  refine lv_aload_n hx hb dB_one_31 rfl (lv_at hl 0 rfl) ?_
  refine va_get (D := D) (ci := 0) (v := .ref a1) (C := "ValueBench") (T := TB) (N := 8) hx hb htx inB hown hK hP 0 rfl rfl 5 (by decide) (htx _ kw_1_100) (fun _ h9 => h9) rfl dB_one_32 ?_
  obtain ⟨hPc, hDc, hFc⟩ := xcut (wc := [(a1, .inr (2, [v21, v22, v23]))]) hP hD hS hA [1] rfl rfl (by decide)
  refine va_callv (va_runV (C := "ValueBench$Row") (As := []) (rest := []) ⟨hx, hb, hml, hown, htx⟩ (cR_clear_0 l hl9 D cT aK aV H.size a1 v21 v22 v23) ⟨callB_of 0 htx (xw_goodC kw_2_22) rfl rfl rfl (htx _ kw_1_4) (htx _ kw_2_19) ⟨by decide, by decide, by decide +kernel⟩ ⟨Nat.le_of_ble_eq_true rfl, Nat.le_of_ble_eq_true rfl⟩, (htx _ kw_2_20), (htx _ kw_2_21)⟩ ⟨xPre_blind, va_recv hK hP (ci := 2) rfl (q0 := 1) rfl, (fun U hU hW => ⟨rfl, xPre_of hZ hS hFc hPc hDc hK U hU hW⟩)⟩ rfl rfl hl.1 rfl (lv_room (Nat.le_of_ble_eq_true rfl)) dB_one_35 ⟨Nat.le_of_ble_eq_true rfl, Nat.le_of_ble_eq_true rfl⟩) hS (fun q _ h => hFc q h) hFc (fun u9 t H1 locs ht hvm hr9 hB hz1 hk1 hS => ?_)
  obtain ⟨hP1, hK1, hD1⟩ := hB
  rw [ht] at hP1
  obtain ⟨hP, hD⟩ := xjoin (W := [(a0, .inr (0, [v15, v16, .ref b17, .ref a2, .ref b18, .ref a1, v19, v20])), (a2, .inl (cT 3, 8, .inr (.inr (.inr (.inr f24))))), (a3, .inr (2, [.ref a4, .int 1, v26])), (a4, .inl (cT 2, 4096, .inr (.inl f27))), (a1, .inr (2, [v21, .int 0, .int 0]))]) hP hD [1] [0, 2, 3, 4] 4 rfl rfl (by decide) (by decide) hk1 hFc hP1 hD1
  generalize H1 = H at hP hS ⊢
  refine lv_aload_n hx hb dB_one_38 rfl (lv_at hl 0 rfl) ?_
  refine lv_iload_n hx hb dB_one_39 rfl (lv_at hl 2 rfl) ?_
  refine lv_aload_n hx hb dB_one_40 rfl (lv_at hl 0 rfl) ?_
  refine va_get (D := D) (ci := 0) (v := .ref a2) (C := "ValueBench") (T := TB) (N := 8) hx hb htx inB hown hK hP 0 rfl rfl 3 (by decide) (htx _ kw_1_98) (fun _ h9 => h9) rfl dB_one_41 ?_
  refine lv_iload_n hx hb dB_one_44 rfl (lv_at hl 3 rfl) ?_
  refine va_aldq hx hb hK hP 1 3 rfl rfl h14 dB_one_45 ?_
  refine W.eq (g2 := F0 m 46 ls [va_rf (f24 x10.toNatClampNeg), .int 7, .ref a0]) rfl ?_
  rw [h25]
  refine W.eq (g2 := F0 m 46 ls [.ref a3, .int 7, .ref a0]) rfl ?_
  refine lv_aload_n hx hb dB_one_46 rfl (lv_at hl 0 rfl) ?_
  refine va_get (D := D) (ci := 0) (v := .ref b17) (C := "ValueBench") (T := TB) (N := 8) hx hb htx inB hown hK hP 0 rfl rfl 2 (by decide) (htx _ kw_1_97) (fun _ h9 => h9) rfl dB_one_47 ?_
  refine lv_aload_n hx hb dB_one_50 rfl (lv_at hl 0 rfl) ?_
  refine va_get (D := D) (ci := 0) (v := .ref b18) (C := "ValueBench") (T := TB) (N := 8) hx hb htx inB hown hK hP 0 rfl rfl 4 (by decide) (htx _ kw_1_99) (fun _ h9 => h9) rfl dB_one_51 ?_
  refine lv_aload_n hx hb dB_one_54 rfl (lv_at hl 0 rfl) ?_
  refine va_get (D := D) (ci := 0) (v := .ref a1) (C := "ValueBench") (T := TB) (N := 8) hx hb htx inB hown hK hP 0 rfl rfl 5 (by decide) (htx _ kw_1_100) (fun _ h9 => h9) rfl dB_one_55 ?_
  obtain ⟨hPc, hDc, hFc⟩ := xcut (wc := [(a3, .inr (2, [.ref a4, .int 1, v26])), (a4, .inl (cT 2, 4096, .inr (.inl f27)))]) hP hD hS hA [2, 3] rfl rfl (by decide)
  refine va_calli (va_runS (As := [.int 7, .ref a3, .ref b17, .ref b18, .ref a1]) (rest := [.ref a0]) ⟨hx, hb, hml, hown, htx⟩ (cG_apply_7 l hl9 D cT aK aV H.size a3 a4 b17 b18 a1 v26 f27 (by first | rfl | exact h25 | exact h28)) ⟨callB_of 5 htx (xw_goodC kw_4_28) rfl rfl rfl (htx _ kw_1_26) (htx _ kw_4_26) ⟨by decide, by decide, by decide +kernel⟩ ⟨Nat.le_of_ble_eq_true rfl, Nat.le_of_ble_eq_true rfl⟩, htx _ kw_4_27⟩ ⟨xPre_blind, (fun U hU hW => ⟨rfl, xPre_of hZ hS hFc hPc hDc hK U hU hW⟩)⟩ rfl rfl hl.1 rfl (lv_room (Nat.le_of_ble_eq_true rfl)) dB_one_58 ⟨Nat.le_of_ble_eq_true rfl, Nat.le_of_ble_eq_true rfl⟩) hS (fun q _ h => hFc q h) hFc (fun r4 u9 t H1 locs ht hvm hr9 hB hz1 hk1 hS => ?_)
  obtain ⟨hP1, hK1, hD1⟩ := hB
  rw [ht] at hP1
  obtain ⟨hP, hD⟩ := xjoin (W := [(a0, .inr (0, [v15, v16, .ref b17, .ref a2, .ref b18, .ref a1, v19, v20])), (a2, .inl (cT 3, 8, .inr (.inr (.inr (.inr f24))))), (a1, .inr (2, [v21, .int 0, .int 0])), (a3, .inr (2, [.ref a4, .int 1, v26])), (a4, .inl (cT 2, 4096, .inr (.inl f27)))]) hP hD [2, 3] [0, 1, 4] 3 rfl rfl (by decide) (by decide) hk1 hFc hP1 hD1
  generalize H1 = H at hP hS ⊢
  rw [hr9]
  refine W.eq (g2 := F0 m 61 ls [.int 1, .ref a0]) rfl ?_
  obtain ⟨hPc, hDc, hFc⟩ := xcut (wc := [(a0, .inr (0, [v15, v16, .ref b17, .ref a2, .ref b18, .ref a1, v19, v20]))]) hP hD hS hA [0] rfl rfl (by decide)
  refine xx_thr (vx_runV (C := "ValueBench") (As := [.int 1]) (rest := []) ⟨hx, hb, hml, hown, htx⟩ (cB_demandDone_1 l hl9 D cT aK aV H.size a0 v15 v16 (.ref b17) (.ref a2) (.ref b18) (.ref a1) v19 v20) ⟨callB_of 1 htx (xw_goodC kw_3_222) rfl rfl rfl (htx _ kw_1_1) (htx _ kw_3_219) ⟨by decide, by decide, by decide +kernel⟩ ⟨Nat.le_of_ble_eq_true rfl, Nat.le_of_ble_eq_true rfl⟩, (htx _ kw_3_221), (htx _ kp_B_demandDone)⟩ ⟨xPre_blind, va_recv hK hP (ci := 0) rfl (q0 := 0) rfl, (fun U hU hW => ⟨rfl, xPre_of hZ hS hFc hPc hDc hK U hU hW⟩)⟩ rfl rfl hl.1 rfl (lv_room (Nat.le_of_ble_eq_true rfl)) dB_one_61 ⟨Nat.le_of_ble_eq_true rfl, Nat.le_of_ble_eq_true rfl⟩) hS hFc (fun q _ h => hFc q h) (fun E ce q9 u9 t H1 locs ht hvm _ hB hz1 hk1 hS hce hcv hcl => ?_)
  obtain ⟨rfl, hP1, hK1, hD1⟩ := hB
  rw [ht] at hP1
  obtain ⟨hP, hD⟩ := xjoin (W := [(a2, .inl (cT 3, 8, .inr (.inr (.inr (.inr f24))))), (a1, .inr (2, [v21, .int 0, .int 0])), (a3, .inr (2, [.ref a4, .int 1, v26])), (a4, .inl (cT 2, 4096, .inr (.inl f27))), (a0, .inr (0, [v15, v16, .ref b17, .ref a2, .ref b18, .ref a1, v19, .int 1]))]) hP hD [0] [1, 2, 3, 4] 4 rfl rfl (by decide) (by decide) hk1 hFc hP1 hD1
  generalize H1 = H at hP hS hce ⊢
  obtain ⟨hP9, hD9⟩ := xsub (wc := [(a0, .inr (0, [v15, v16, .ref b17, .ref a2, .ref b18, .ref a1, v19, .int 1])), (a1, .inr (2, [v21, .int 0, .int 0])), (a2, .inl (cT 3, 8, .inr (.inr (.inr (.inr f24))))), (a3, .inr (2, [.ref a4, .int 1, v26])), (a4, .inl (cT 2, 4096, .inr (.inl f27)))]) hP hD [4, 1, 0, 2, 3] rfl rfl (by decide)
  exact vx_out (E := "java/lang/ArithmeticException") (fun x h => (hne x h).elim) hlocks hce hcv hcl (fun t ht ha => ⟨(), trivial, ⟨rfl, by rw [ht]; exact hP9, va_K.moved ha hK, hD9⟩, hS.F ht⟩) hS.2.2 (Nat.le_of_ble_eq_true rfl) (Nat.le_of_ble_eq_true rfl)
set_option maxHeartbeats 400000000 in
set_option maxRecDepth 100000 in
theorem cL_one_7 (l : Launch) (hl9 : l.stackTraces = false) (D : va_G) (cT : Nat → ClassId) (aK aV : Nat → Nat) (sz : Nat) (a0 : Nat) (a1 : Nat) (a2 : Nat) (a3 : Nat) (a4 : Nat) (x5 : Int32) (x10 : Int32) (v15 : Value) (v16 : Value) (b17 : Nat) (b18 : Nat) (v19 : Value) (v20 : Value) (v21 : Value) (v22 : Value) (v23 : Value) (f24 : Nat → Option Nat) (v26 : Value) (f27 : Nat → Int64) (h6 : ¬ x5 < 0) (h7 : ¬ 7 < x5) (h8 : x5 ≤ 7) (h9 : vp_in x5 8) (h11 : ¬ x10 < 0) (h12 : ¬ 7 < x10) (h13 : x10 ≤ 7) (h14 : vp_in x10 8) (h25 : f24 x10.toNatClampNeg = some a3) (h28 : f27 0 = 0) : xMet l yL_one wyL_one 8 1 6 144 D cT aK aV sz [.ref a0, .int x5, .int 7, .int x10] [(a0, .inr (0, [v15, v16, .ref b17, .ref a2, .ref b18, .ref a1, v19, v20])), (a1, .inr (2, [v21, v22, v23])), (a2, .inl (cT 3, 8, .inr (.inr (.inr (.inr f24))))), (a3, .inr (2, [.ref a4, .int 1, v26])), (a4, .inl (cT 2, 4096, .inr (.inl f27)))] (fun A => va_Qi (fun (r : Int32) (_ : Unit) => r = 2) (fun _ t => xB D xcl cT A [(a0, .inr (0, [v15, v16, .ref b17, .ref a2, .ref b18, .ref a1, v19, .int 1])), (a1, .inr (2, [v21, .int 0, .int 0])), (a2, .inl (cT 3, 8, .inr (.inr (.inr (.inr f24))))), (a3, .inr (2, [.ref a4, .int 1, v26])), (a4, .inl (cT 2, 4096, .inr (.inl f27)))] t) A) := by
  refine va_MetW (cc := method_10_code) (maxL := 5) (ret := (some .int)) (hh := [(0, 7, 10, 19), (0, 7, 14, 33), (0, 7, 18, 13)]) (by decide) rfl ?_
  intro p e s m args below meth c s₁ B hml hv
  obtain ⟨rfl, hsz, hZ, hP, hK, hD0⟩ := hv
  have hx := B.exec
  have hb := B.bytes
  have hr := B.returns
  have hts := atoms_spec (ws := wyL_one) B.pre
  have htx := fun w h => hts w (List.mem_cons_of_mem _ h)
  have hown : s.vm.findClass "ValueBenchLaw" = some m.cls := findClass_of_methodNamed B.named
  have hlocks := B.notSynchronized
  subst hsz
  have hD := hD0.self (sz := s.heap.size)
  generalize hAe : va_A [(a0, .inr (0, [v15, v16, .ref b17, .ref a2, .ref b18, .ref a1, v19, v20])), (a1, .inr (2, [v21, v22, v23])), (a2, .inl (cT 3, 8, .inr (.inr (.inr (.inr f24))))), (a3, .inr (2, [.ref a4, .int 1, v26])), (a4, .inl (cT 2, 4096, .inr (.inl f27)))] s.heap.size = A at hD hZ ⊢
  have hA : ∀ q : Nat, s.heap.size ≤ q → A q := fun q h => by rw [← hAe]; exact Or.inr h
  have hS : va_S A s.heap s.heap [] := va_S.rf
  have hP : va_P D xcl [(a0, .inr (0, [v15, v16, .ref b17, .ref a2, .ref b18, .ref a1, v19, v20])), (a1, .inr (2, [v21, v22, v23])), (a2, .inl (cT 3, 8, .inr (.inr (.inr (.inr f24))))), (a3, .inr (2, [.ref a4, .int 1, v26])), (a4, .inl (cT 2, 4096, .inr (.inl f27)))] s.heap := hP
  have hl := lv_entry ([.ref a0, .int x5, .int 7, .int x10]) (n := 5) (Nat.le_of_ble_eq_true rfl)
  rw [lg_entry_eq]
  generalize (lg_sl ([.ref a0, .int x5, .int 7, .int x10]) ++ List.replicate (5 - (lg_sl ([.ref a0, .int x5, .int 7, .int x10])).length) Slot.unset).toArray = ls at hl ⊢
  have hl : lv_has ls 5 [(0, .ref a0), (1, .int x5), (2, .int 7), (3, .int x10)] := hl
  have htab := vx_table (x := yL_one) B (hts _ List.mem_cons_self)
  refine lv_aload_n hx hb dL_one_0 rfl (lv_at hl 0 rfl) ?_
  refine lv_iload_n hx hb dL_one_1 rfl (lv_at hl 1 rfl) ?_
  refine lv_iload_n hx hb dL_one_2 rfl (lv_at hl 2 rfl) ?_
  refine lv_iload_n hx hb dL_one_3 rfl (lv_at hl 3 rfl) ?_
  obtain ⟨hPc, hDc, hFc⟩ := xcut (wc := [(a0, .inr (0, [v15, v16, .ref b17, .ref a2, .ref b18, .ref a1, v19, v20])), (a1, .inr (2, [v21, v22, v23])), (a2, .inl (cT 3, 8, .inr (.inr (.inr (.inr f24))))), (a3, .inr (2, [.ref a4, .int 1, v26])), (a4, .inl (cT 2, 4096, .inr (.inl f27)))]) hP hD hS hA [0, 1, 2, 3, 4] rfl rfl (by decide)
  refine xx_thr (vx_runV (C := "ValueBench") (As := [.int x5, .int 7, .int x10]) (rest := []) ⟨hx, hb, hml, hown, htx⟩ (cB_one_7 l hl9 D cT aK aV s.heap.size a0 a1 a2 a3 a4 x5 x10 v15 v16 b17 b18 v19 v20 v21 v22 v23 f24 v26 f27 h6 h7 h8 h9 h11 h12 h13 h14 (by first | rfl | exact h25 | exact h28) (by first | rfl | exact h25 | exact h28)) ⟨callB_of 3 htx (xw_goodC kw_4_25) rfl rfl rfl (htx _ kw_1_1) (htx _ kw_4_22) ⟨by decide, by decide, by decide +kernel⟩ ⟨Nat.le_of_ble_eq_true rfl, Nat.le_of_ble_eq_true rfl⟩, (htx _ kw_4_23), (htx _ kw_4_24)⟩ ⟨xPre_blind, va_recv hK hP (ci := 0) rfl (q0 := 0) rfl, (fun U hU hW => ⟨rfl, xPre_of hZ hS hFc hPc hDc hK U hU hW⟩)⟩ rfl rfl hl.1 rfl (lv_room (Nat.le_of_ble_eq_true rfl)) dL_one_4 ⟨Nat.le_of_ble_eq_true rfl, Nat.le_of_ble_eq_true rfl⟩) hS hFc (fun q _ h => hFc q h) (fun E ce q9 u9 t H1 locs ht hvm _ hB hz1 hk1 hS hce hcv hcl => ?_)
  obtain ⟨rfl, hP1, hK1, hD1⟩ := hB
  rw [ht] at hP1
  obtain ⟨hP, hD⟩ := xjoin (W := [(a0, .inr (0, [v15, v16, .ref b17, .ref a2, .ref b18, .ref a1, v19, .int 1])), (a1, .inr (2, [v21, .int 0, .int 0])), (a2, .inl (cT 3, 8, .inr (.inr (.inr (.inr f24))))), (a3, .inr (2, [.ref a4, .int 1, v26])), (a4, .inl (cT 2, 4096, .inr (.inl f27)))]) hP hD [0, 1, 2, 3, 4] [] 0 rfl rfl (by decide) (by decide) hk1 hFc hP1 hD1
  generalize H1 = H at hP hS hce ⊢
  refine vx_catch (own := "ValueBenchLaw") (name := "java/lang/ArithmeticException") (E := "java/lang/ArithmeticException") hown [⟨0, 7, 10, 19⟩] ⟨0, 7, 14, 33⟩ [⟨0, 7, 18, 13⟩] (by rw [htab]; rfl) (by intro z hz; rcases List.mem_cons.mp hz with rfl | hz; (exact Or.inr ⟨by decide, "java/lang/IllegalArgumentException", htx _ kw_1_211, hZ.2.2.2.2.2.2.2.1 _ (List.mem_of_getElem? (i := 10) rfl)⟩); cases hz) (by decide) (by decide) (htx _ kw_3_98) ((hZ.2.2.2.2.2.1 _ (List.mem_of_getElem? (i := 3) rfl)).use rfl) hce hcv hcl ?_
  refine lv_astore (lv' := [(4, .ref q9), (0, .ref a0), (1, .int x5), (2, .int 7), (3, .int x10)]) hx hb dL_one_14 hl (by decide) rfl (fun ls hl => ?_)
  refine lv_iconst (v := 2) hx hb dL_one_16 (by decide) ?_
  obtain ⟨hP9, hD9⟩ := xsub (wc := [(a0, .inr (0, [v15, v16, .ref b17, .ref a2, .ref b18, .ref a1, v19, .int 1])), (a1, .inr (2, [v21, .int 0, .int 0])), (a2, .inl (cT 3, 8, .inr (.inr (.inr (.inr f24))))), (a3, .inr (2, [.ref a4, .int 1, v26])), (a4, .inl (cT 2, 4096, .inr (.inl f27)))]) hP hD [0, 1, 2, 3, 4] rfl rfl (by decide)
  refine W.widen (k := 1) (n := 6) (Nat.le_of_ble_eq_true rfl) (Nat.le_of_ble_eq_true rfl) ?_
  exact W.iret (v := 2) hx hb hr (fun t ht hW => ⟨⟨2, (), rfl, rfl, by rw [ht]; exact hP9, va_K.moved hW.alike hK, hD9⟩, hS.F ht⟩) hS.2.2 dL_one_17
set_option maxHeartbeats 400000000 in
set_option maxRecDepth 100000 in
theorem cB_isWithin_18 (l : Launch) (hl9 : l.stackTraces = false) (D : va_G) (cT : Nat → ClassId) (aK aV : Nat → Nat) (sz : Nat) : xMet l yB_isWithin wyB_isWithin 0 0 0 0 D cT aK aV sz [.int 8, .int 13] [] (fun A => va_Qi (fun (r : Int32) (_ : Unit) => r = 1) (fun _ t => xB D xcl cT A [] t) A) := by
  refine Met.ofW (cc := prog_1_method_15_code) (maxL := 2) (ret := (some .boolean)) (by decide) rfl ?_
  intro p e s m args below meth c s₁ B hml hv
  obtain ⟨rfl, hsz, hZ, hP, hK, hD0⟩ := hv
  have hx := B.exec
  have hb := B.bytes
  have hr := B.returns
  have hts := atoms_spec (ws := wyB_isWithin) B.pre
  have htx := fun w h => hts w (List.mem_cons_of_mem _ h)
  have hown : s.vm.findClass "ValueBench" = some m.cls := findClass_of_methodNamed B.named
  have hlocks := B.notSynchronized
  subst hsz
  have hD := hD0.self (sz := s.heap.size)
  generalize hAe : va_A [] s.heap.size = A at hD hZ ⊢
  have hA : ∀ q : Nat, s.heap.size ≤ q → A q := fun q h => by rw [← hAe]; exact Or.inr h
  have hS : va_S A s.heap s.heap [] := va_S.rf
  have hP : va_P D xcl [] s.heap := hP
  have hl := lv_entry ([.int 8, .int 13]) (n := 2) (Nat.le_of_ble_eq_true rfl)
  rw [lg_entry_eq]
  generalize (lg_sl ([.int 8, .int 13]) ++ List.replicate (2 - (lg_sl ([.int 8, .int 13])).length) Slot.unset).toArray = ls at hl ⊢
  have hl : lv_has ls 2 [(0, .int 8), (1, .int 13)] := hl
  refine lv_iload_n hx hb dB_isWithin_0 rfl (lv_at hl 0 rfl) ?_
  refine lv_if_lt (tgt := 13) hx hb dB_isWithin_1 (by decide) (fun h => ((by revert h; decide : False)).elim) (fun _ => ?_)
  refine lv_iload_n hx hb dB_isWithin_4 rfl (lv_at hl 0 rfl) ?_
  refine lv_iload_n hx hb dB_isWithin_5 rfl (lv_at hl 1 rfl) ?_
  refine lv_icmp_gt (tgt := 13) hx hb dB_isWithin_6 (by decide) (fun h => ((by revert h; decide : False)).elim) (fun _ => ?_)
  refine lv_iconst (v := 1) hx hb dB_isWithin_9 (by decide) ?_
  refine lv_goto (tgt := 14) hx hb dB_isWithin_10 (by decide) ?_
  obtain ⟨hP9, hD9⟩ := xsub (wc := []) hP hD [] rfl rfl (by decide)
  refine W.widen (k := 0) (n := 0) (Nat.le_of_ble_eq_true rfl) (Nat.le_of_ble_eq_true rfl) ?_
  exact W.zret (v := 1) hx hb hr rfl (fun t ht hW => ⟨⟨1, (), rfl, rfl, by rw [ht]; exact hP9, va_K.moved hW.alike hK, hD9⟩, hS.F ht⟩) hS.2.2 dB_isWithin_14
set_option maxHeartbeats 400000000 in
set_option maxRecDepth 100000 in
theorem cG_apply_8 (l : Launch) (hl9 : l.stackTraces = false) (D : va_G) (cT : Nat → ClassId) (aK aV : Nat → Nat) (sz : Nat) (a0 : Nat) (a1 : Nat) (b2 : Nat) (b3 : Nat) (b4 : Nat) (v5 : Value) (f6 : Nat → Int64) (h7 : f6 0 = 0) : xMet l yG_apply wyG_apply 2 0 0 43 D cT aK aV sz [.int 8, .ref a0, .ref b2, .ref b3, .ref b4] [(a0, .inr (2, [.ref a1, .int 1, v5])), (a1, .inl (cT 2, 4096, .inr (.inl f6)))] (fun A => va_Qi (fun (r : Int32) (_ : Unit) => r = 1) (fun _ t => xB D xcl cT A [(a0, .inr (2, [.ref a1, .int 1, v5])), (a1, .inl (cT 2, 4096, .inr (.inl f6)))] t) A) := by
  refine Met.ofW (cc := prog_9_method_2_code) (maxL := 5) (ret := (some .int)) (by decide) rfl ?_
  intro p e s m args below meth c s₁ B hml hv
  obtain ⟨rfl, hsz, hZ, hP, hK, hD0⟩ := hv
  have hx := B.exec
  have hb := B.bytes
  have hr := B.returns
  have hts := atoms_spec (ws := wyG_apply) B.pre
  have htx := fun w h => hts w (List.mem_cons_of_mem _ h)
  have hown : s.vm.findClass "ValueBench$Singles" = some m.cls := findClass_of_methodNamed B.named
  have hlocks := B.notSynchronized
  subst hsz
  have hD := hD0.self (sz := s.heap.size)
  generalize hAe : va_A [(a0, .inr (2, [.ref a1, .int 1, v5])), (a1, .inl (cT 2, 4096, .inr (.inl f6)))] s.heap.size = A at hD hZ ⊢
  have hA : ∀ q : Nat, s.heap.size ≤ q → A q := fun q h => by rw [← hAe]; exact Or.inr h
  have hS : va_S A s.heap s.heap [] := va_S.rf
  have hP : va_P D xcl [(a0, .inr (2, [.ref a1, .int 1, v5])), (a1, .inl (cT 2, 4096, .inr (.inl f6)))] s.heap := hP
  have hl := lv_entry ([.int 8, .ref a0, .ref b2, .ref b3, .ref b4]) (n := 5) (Nat.le_of_ble_eq_true rfl)
  rw [lg_entry_eq]
  generalize (lg_sl ([.int 8, .ref a0, .ref b2, .ref b3, .ref b4]) ++ List.replicate (5 - (lg_sl ([.int 8, .ref a0, .ref b2, .ref b3, .ref b4])).length) Slot.unset).toArray = ls at hl ⊢
  have hl : lv_has ls 5 [(0, .int 8), (1, .ref a0), (2, .ref b2), (3, .ref b3), (4, .ref b4)] := hl
  refine lv_iload_n hx hb dG_apply_0 rfl (lv_at hl 0 rfl) ?_
  refine lv_tableIn (off := 188) (tgt := 189) hx hb dG_apply_1 (by decide) (by decide) (by decide) (by decide) ?_
  refine lv_aload_n hx hb dG_apply_189 rfl (lv_at hl 1 rfl) ?_
  refine lv_iconst (v := 0) hx hb dG_apply_190 (by decide) ?_
  refine lv_iconst (v := 5) hx hb dG_apply_191 (by decide) ?_
  obtain ⟨hPc, hDc, hFc⟩ := xcut (wc := [(a0, .inr (2, [.ref a1, .int 1, v5])), (a1, .inl (cT 2, 4096, .inr (.inl f6)))]) hP hD hS hA [0, 1] rfl rfl (by decide)
  refine va_calli (va_runV (C := "ValueBench$Row") (As := [.int 0, .int 5]) (rest := []) ⟨hx, hb, hml, hown, htx⟩ (cR_is_2 l hl9 D cT aK aV s.heap.size a0 a1 v5 f6 (by first | rfl | exact h7)) ⟨callB_of 2 htx (xw_goodC kw_3_75) rfl rfl rfl (htx _ kw_1_4) (htx _ kw_4_29) ⟨by decide, by decide, by decide +kernel⟩ ⟨Nat.le_of_ble_eq_true rfl, Nat.le_of_ble_eq_true rfl⟩, (htx _ kw_3_73), (htx _ kw_3_74)⟩ ⟨xPre_blind, va_recv hK hP (ci := 2) rfl (q0 := 0) rfl, (fun U hU hW => ⟨rfl, xPre_of hZ hS hFc hPc hDc hK U hU hW⟩)⟩ rfl rfl hl.1 rfl (lv_room (Nat.le_of_ble_eq_true rfl)) dG_apply_192 ⟨Nat.le_of_ble_eq_true rfl, Nat.le_of_ble_eq_true rfl⟩) hS (fun q _ h => hFc q h) hFc (fun r1 u9 t H1 locs ht hvm hr9 hB hz1 hk1 hS => ?_)
  obtain ⟨hP1, hK1, hD1⟩ := hB
  rw [ht] at hP1
  obtain ⟨hP, hD⟩ := xjoin (W := [(a0, .inr (2, [.ref a1, .int 1, v5])), (a1, .inl (cT 2, 4096, .inr (.inl f6)))]) hP hD [0, 1] [] 0 rfl rfl (by decide) (by decide) hk1 hFc hP1 hD1
  generalize H1 = H at hP hS ⊢
  rw [hr9]
  refine W.eq (g2 := F0 m 195 ls [.int 0]) rfl ?_
  refine lv_if_eq (tgt := 208) hx hb dG_apply_195 (by decide) (fun _ => ?_) (fun h => ((by revert h; decide : False)).elim)
  refine lv_iconst (v := 1) hx hb dG_apply_208 (by decide) ?_
  obtain ⟨hP9, hD9⟩ := xsub (wc := [(a0, .inr (2, [.ref a1, .int 1, v5])), (a1, .inl (cT 2, 4096, .inr (.inl f6)))]) hP hD [0, 1] rfl rfl (by decide)
  refine W.widen (k := 0) (n := 0) (Nat.le_of_ble_eq_true rfl) (Nat.le_of_ble_eq_true rfl) ?_
  exact W.iret (v := 1) hx hb hr (fun t ht hW => ⟨⟨1, (), rfl, rfl, by rw [ht]; exact hP9, va_K.moved hW.alike hK, hD9⟩, hS.F ht⟩) hS.2.2 dG_apply_209
set_option maxHeartbeats 400000000 in
set_option maxRecDepth 100000 in
theorem cB_one_8 (l : Launch) (hl9 : l.stackTraces = false) (D : va_G) (cT : Nat → ClassId) (aK aV : Nat → Nat) (sz : Nat) (a0 : Nat) (a1 : Nat) (a2 : Nat) (a3 : Nat) (a4 : Nat) (x5 : Int32) (x10 : Int32) (v15 : Value) (v16 : Value) (b17 : Nat) (b18 : Nat) (v19 : Value) (v20 : Value) (v21 : Value) (v22 : Value) (v23 : Value) (f24 : Nat → Option Nat) (v26 : Value) (f27 : Nat → Int64) (h6 : ¬ x5 < 0) (h7 : ¬ 7 < x5) (h8 : x5 ≤ 7) (h9 : vp_in x5 8) (h11 : ¬ x10 < 0) (h12 : ¬ 7 < x10) (h13 : x10 ≤ 7) (h14 : vp_in x10 8) (h25 : f24 x10.toNatClampNeg = some a3) (h28 : f27 0 = 0) : xMetX l yB_one wyB_one 7 1 6 121 D cT aK aV sz [.ref a0, .int x5, .int 8, .int x10] [(a0, .inr (0, [v15, v16, .ref b17, .ref a2, .ref b18, .ref a1, v19, v20])), (a1, .inr (2, [v21, v22, v23])), (a2, .inl (cT 3, 8, .inr (.inr (.inr (.inr f24))))), (a3, .inr (2, [.ref a4, .int 1, v26])), (a4, .inl (cT 2, 4096, .inr (.inl f27)))] "java/lang/ArithmeticException" (fun A t => xB D xcl cT A [(a0, .inr (0, [v15, v16, .ref b17, .ref a2, .ref b18, .ref a1, v19, .int 1])), (a1, .inr (2, [v21, .int 0, .int 0])), (a2, .inl (cT 3, 8, .inr (.inr (.inr (.inr f24))))), (a3, .inr (2, [.ref a4, .int 1, v26])), (a4, .inl (cT 2, 4096, .inr (.inl f27)))] t) := by
  refine vx_ofW (cc := prog_1_method_9_code) (maxL := 4) (ret := none) (by decide) rfl ?_
  intro p e s m args below meth c s₁ B hml hne hv
  obtain ⟨rfl, hsz, hZ, hP, hK, hD0⟩ := hv
  have hx := B.exec
  have hb := B.bytes
  have hr := B.returns
  have hts := atoms_spec (ws := wyB_one) B.pre
  have htx := fun w h => hts w (List.mem_cons_of_mem _ h)
  have hown : s.vm.findClass "ValueBench" = some m.cls := findClass_of_methodNamed B.named
  have hlocks := B.notSynchronized
  subst hsz
  have hD := hD0.self (sz := s.heap.size)
  generalize hAe : va_A [(a0, .inr (0, [v15, v16, .ref b17, .ref a2, .ref b18, .ref a1, v19, v20])), (a1, .inr (2, [v21, v22, v23])), (a2, .inl (cT 3, 8, .inr (.inr (.inr (.inr f24))))), (a3, .inr (2, [.ref a4, .int 1, v26])), (a4, .inl (cT 2, 4096, .inr (.inl f27)))] s.heap.size = A at hD hZ ⊢
  have hA : ∀ q : Nat, s.heap.size ≤ q → A q := fun q h => by rw [← hAe]; exact Or.inr h
  have hS : va_S A s.heap s.heap [] := va_S.rf
  have hP : va_P D xcl [(a0, .inr (0, [v15, v16, .ref b17, .ref a2, .ref b18, .ref a1, v19, v20])), (a1, .inr (2, [v21, v22, v23])), (a2, .inl (cT 3, 8, .inr (.inr (.inr (.inr f24))))), (a3, .inr (2, [.ref a4, .int 1, v26])), (a4, .inl (cT 2, 4096, .inr (.inl f27)))] s.heap := hP
  have hl := lv_entry ([.ref a0, .int x5, .int 8, .int x10]) (n := 4) (Nat.le_of_ble_eq_true rfl)
  rw [lg_entry_eq]
  generalize (lg_sl ([.ref a0, .int x5, .int 8, .int x10]) ++ List.replicate (4 - (lg_sl ([.ref a0, .int x5, .int 8, .int x10])).length) Slot.unset).toArray = ls at hl ⊢
  have hl : lv_has ls 4 [(0, .ref a0), (1, .int x5), (2, .int 8), (3, .int x10)] := hl
  refine lv_iload_n hx hb dB_one_0 rfl (lv_at hl 1 rfl) ?_
  obtain ⟨hPc, hDc, hFc⟩ := xcut (wc := []) hP hD hS hA [] rfl rfl (by decide)
  refine va_calli (va_runS (As := [.int x5]) (rest := []) ⟨hx, hb, hml, hown, htx⟩ (cB_isRegister_0 l hl9 D cT aK aV s.heap.size x5 h6 h7 h8 h9) ⟨callB_of 1 htx (xw_goodC kw_2_18) rfl rfl rfl (htx _ kw_1_1) (htx _ kw_2_16) ⟨by decide, by decide, by decide +kernel⟩ ⟨Nat.le_of_ble_eq_true rfl, Nat.le_of_ble_eq_true rfl⟩, htx _ kw_2_17⟩ ⟨xPre_blind, (fun U hU hW => ⟨rfl, xPre_of hZ hS hFc hPc hDc hK U hU hW⟩)⟩ rfl rfl hl.1 rfl (lv_room (Nat.le_of_ble_eq_true rfl)) dB_one_1 ⟨Nat.le_of_ble_eq_true rfl, Nat.le_of_ble_eq_true rfl⟩) hS (fun q _ h => hFc q h) hFc (fun r1 u9 t H1 locs ht hvm hr9 hB hz1 hk1 hS => ?_)
  obtain ⟨hP1, hK1, hD1⟩ := hB
  rw [ht] at hP1
  obtain ⟨hP, hD⟩ := xjoin (W := [(a0, .inr (0, [v15, v16, .ref b17, .ref a2, .ref b18, .ref a1, v19, v20])), (a1, .inr (2, [v21, v22, v23])), (a2, .inl (cT 3, 8, .inr (.inr (.inr (.inr f24))))), (a3, .inr (2, [.ref a4, .int 1, v26])), (a4, .inl (cT 2, 4096, .inr (.inl f27)))]) hP hD [] [0, 1, 2, 3, 4] 5 rfl rfl (by decide) (by decide) hk1 hFc hP1 hD1
  generalize H1 = H at hP hS ⊢
  rw [hr9]
  refine W.eq (g2 := F0 m 4 ls [.int 1]) rfl ?_
  refine lv_if_eq (tgt := 27) hx hb dB_one_4 (by decide) (fun h => ((by revert h; decide : False)).elim) (fun _ => ?_)
  refine lv_iload_n hx hb dB_one_7 rfl (lv_at hl 2 rfl) ?_
  refine lv_bipush (v := 13) hx hb dB_one_8 (by decide) ?_
  obtain ⟨hPc, hDc, hFc⟩ := xcut (wc := []) hP hD hS hA [] rfl rfl (by decide)
  refine va_calli (va_runS (As := [.int 8, .int 13]) (rest := []) ⟨hx, hb, hml, hown, htx⟩ (cB_isWithin_18 l hl9 D cT aK aV H.size) ⟨callB_of 2 htx (xw_goodC kw_1_218) rfl rfl rfl (htx _ kw_1_1) (htx _ kw_1_216) ⟨by decide, by decide, by decide +kernel⟩ ⟨Nat.le_of_ble_eq_true rfl, Nat.le_of_ble_eq_true rfl⟩, htx _ kw_1_217⟩ ⟨xPre_blind, (fun U hU hW => ⟨rfl, xPre_of hZ hS hFc hPc hDc hK U hU hW⟩)⟩ rfl rfl hl.1 rfl (lv_room (Nat.le_of_ble_eq_true rfl)) dB_one_10 ⟨Nat.le_of_ble_eq_true rfl, Nat.le_of_ble_eq_true rfl⟩) hS (fun q _ h => hFc q h) hFc (fun r2 u9 t H1 locs ht hvm hr9 hB hz1 hk1 hS => ?_)
  obtain ⟨hP1, hK1, hD1⟩ := hB
  rw [ht] at hP1
  obtain ⟨hP, hD⟩ := xjoin (W := [(a0, .inr (0, [v15, v16, .ref b17, .ref a2, .ref b18, .ref a1, v19, v20])), (a1, .inr (2, [v21, v22, v23])), (a2, .inl (cT 3, 8, .inr (.inr (.inr (.inr f24))))), (a3, .inr (2, [.ref a4, .int 1, v26])), (a4, .inl (cT 2, 4096, .inr (.inl f27)))]) hP hD [] [0, 1, 2, 3, 4] 5 rfl rfl (by decide) (by decide) hk1 hFc hP1 hD1
  generalize H1 = H at hP hS ⊢
  rw [hr9]
  refine W.eq (g2 := F0 m 13 ls [.int 1]) rfl ?_
  refine lv_if_eq (tgt := 27) hx hb dB_one_13 (by decide) (fun h => ((by revert h; decide : False)).elim) (fun _ => ?_)
  refine lv_iload_n hx hb dB_one_16 rfl (lv_at hl 3 rfl) ?_
  obtain ⟨hPc, hDc, hFc⟩ := xcut (wc := []) hP hD hS hA [] rfl rfl (by decide)
  refine va_calli (va_runS (As := [.int x10]) (rest := []) ⟨hx, hb, hml, hown, htx⟩ (cB_isRegister_0 l hl9 D cT aK aV H.size x10 h11 h12 h13 h14) ⟨callB_of 1 htx (xw_goodC kw_2_18) rfl rfl rfl (htx _ kw_1_1) (htx _ kw_2_16) ⟨by decide, by decide, by decide +kernel⟩ ⟨Nat.le_of_ble_eq_true rfl, Nat.le_of_ble_eq_true rfl⟩, htx _ kw_2_17⟩ ⟨xPre_blind, (fun U hU hW => ⟨rfl, xPre_of hZ hS hFc hPc hDc hK U hU hW⟩)⟩ rfl rfl hl.1 rfl (lv_room (Nat.le_of_ble_eq_true rfl)) dB_one_17 ⟨Nat.le_of_ble_eq_true rfl, Nat.le_of_ble_eq_true rfl⟩) hS (fun q _ h => hFc q h) hFc (fun r3 u9 t H1 locs ht hvm hr9 hB hz1 hk1 hS => ?_)
  obtain ⟨hP1, hK1, hD1⟩ := hB
  rw [ht] at hP1
  obtain ⟨hP, hD⟩ := xjoin (W := [(a0, .inr (0, [v15, v16, .ref b17, .ref a2, .ref b18, .ref a1, v19, v20])), (a1, .inr (2, [v21, v22, v23])), (a2, .inl (cT 3, 8, .inr (.inr (.inr (.inr f24))))), (a3, .inr (2, [.ref a4, .int 1, v26])), (a4, .inl (cT 2, 4096, .inr (.inl f27)))]) hP hD [] [0, 1, 2, 3, 4] 5 rfl rfl (by decide) (by decide) hk1 hFc hP1 hD1
  generalize H1 = H at hP hS ⊢
  rw [hr9]
  refine W.eq (g2 := F0 m 20 ls [.int 1]) rfl ?_
  refine lv_if_eq (tgt := 27) hx hb dB_one_20 (by decide) (fun h => ((by revert h; decide : False)).elim) (fun _ => ?_)
  refine lv_iconst (v := 1) hx hb dB_one_23 (by decide) ?_
  refine lv_goto (tgt := 28) hx hb dB_one_24 (by decide) ?_
  obtain ⟨hPc, hDc, hFc⟩ := xcut (wc := []) hP hD hS hA [] rfl rfl (by decide)
  refine va_callv (va_runS (As := [.int 1]) (rest := []) ⟨hx, hb, hml, hown, htx⟩ (cB_demand_0 l hl9 D cT aK aV H.size) ⟨callB_of 1 htx (xw_goodC kw_1_221) rfl rfl rfl (htx _ kw_1_1) (htx _ kw_1_219) ⟨by decide, by decide, by decide +kernel⟩ ⟨Nat.le_of_ble_eq_true rfl, Nat.le_of_ble_eq_true rfl⟩, htx _ kw_1_220⟩ ⟨xPre_blind, (fun U hU hW => ⟨rfl, xPre_of hZ hS hFc hPc hDc hK U hU hW⟩)⟩ rfl rfl hl.1 rfl (lv_room (Nat.le_of_ble_eq_true rfl)) dB_one_28 ⟨Nat.le_of_ble_eq_true rfl, Nat.le_of_ble_eq_true rfl⟩) hS (fun q _ h => hFc q h) hFc (fun u9 t H1 locs ht hvm hr9 hB hz1 hk1 hS => ?_)
  obtain ⟨hP1, hK1, hD1⟩ := hB
  rw [ht] at hP1
  obtain ⟨hP, hD⟩ := xjoin (W := [(a0, .inr (0, [v15, v16, .ref b17, .ref a2, .ref b18, .ref a1, v19, v20])), (a1, .inr (2, [v21, v22, v23])), (a2, .inl (cT 3, 8, .inr (.inr (.inr (.inr f24))))), (a3, .inr (2, [.ref a4, .int 1, v26])), (a4, .inl (cT 2, 4096, .inr (.inl f27)))]) hP hD [] [0, 1, 2, 3, 4] 5 rfl rfl (by decide) (by decide) hk1 hFc hP1 hD1
  generalize H1 = H at hP hS ⊢
  refine lv_aload_n hx hb dB_one_31 rfl (lv_at hl 0 rfl) ?_
  refine va_get (D := D) (ci := 0) (v := .ref a1) (C := "ValueBench") (T := TB) (N := 8) hx hb htx inB hown hK hP 0 rfl rfl 5 (by decide) (htx _ kw_1_100) (fun _ h9 => h9) rfl dB_one_32 ?_
  obtain ⟨hPc, hDc, hFc⟩ := xcut (wc := [(a1, .inr (2, [v21, v22, v23]))]) hP hD hS hA [1] rfl rfl (by decide)
  refine va_callv (va_runV (C := "ValueBench$Row") (As := []) (rest := []) ⟨hx, hb, hml, hown, htx⟩ (cR_clear_0 l hl9 D cT aK aV H.size a1 v21 v22 v23) ⟨callB_of 0 htx (xw_goodC kw_2_22) rfl rfl rfl (htx _ kw_1_4) (htx _ kw_2_19) ⟨by decide, by decide, by decide +kernel⟩ ⟨Nat.le_of_ble_eq_true rfl, Nat.le_of_ble_eq_true rfl⟩, (htx _ kw_2_20), (htx _ kw_2_21)⟩ ⟨xPre_blind, va_recv hK hP (ci := 2) rfl (q0 := 1) rfl, (fun U hU hW => ⟨rfl, xPre_of hZ hS hFc hPc hDc hK U hU hW⟩)⟩ rfl rfl hl.1 rfl (lv_room (Nat.le_of_ble_eq_true rfl)) dB_one_35 ⟨Nat.le_of_ble_eq_true rfl, Nat.le_of_ble_eq_true rfl⟩) hS (fun q _ h => hFc q h) hFc (fun u9 t H1 locs ht hvm hr9 hB hz1 hk1 hS => ?_)
  obtain ⟨hP1, hK1, hD1⟩ := hB
  rw [ht] at hP1
  obtain ⟨hP, hD⟩ := xjoin (W := [(a0, .inr (0, [v15, v16, .ref b17, .ref a2, .ref b18, .ref a1, v19, v20])), (a2, .inl (cT 3, 8, .inr (.inr (.inr (.inr f24))))), (a3, .inr (2, [.ref a4, .int 1, v26])), (a4, .inl (cT 2, 4096, .inr (.inl f27))), (a1, .inr (2, [v21, .int 0, .int 0]))]) hP hD [1] [0, 2, 3, 4] 4 rfl rfl (by decide) (by decide) hk1 hFc hP1 hD1
  generalize H1 = H at hP hS ⊢
  refine lv_aload_n hx hb dB_one_38 rfl (lv_at hl 0 rfl) ?_
  refine lv_iload_n hx hb dB_one_39 rfl (lv_at hl 2 rfl) ?_
  refine lv_aload_n hx hb dB_one_40 rfl (lv_at hl 0 rfl) ?_
  refine va_get (D := D) (ci := 0) (v := .ref a2) (C := "ValueBench") (T := TB) (N := 8) hx hb htx inB hown hK hP 0 rfl rfl 3 (by decide) (htx _ kw_1_98) (fun _ h9 => h9) rfl dB_one_41 ?_
  refine lv_iload_n hx hb dB_one_44 rfl (lv_at hl 3 rfl) ?_
  refine va_aldq hx hb hK hP 1 3 rfl rfl h14 dB_one_45 ?_
  refine W.eq (g2 := F0 m 46 ls [va_rf (f24 x10.toNatClampNeg), .int 8, .ref a0]) rfl ?_
  rw [h25]
  refine W.eq (g2 := F0 m 46 ls [.ref a3, .int 8, .ref a0]) rfl ?_
  refine lv_aload_n hx hb dB_one_46 rfl (lv_at hl 0 rfl) ?_
  refine va_get (D := D) (ci := 0) (v := .ref b17) (C := "ValueBench") (T := TB) (N := 8) hx hb htx inB hown hK hP 0 rfl rfl 2 (by decide) (htx _ kw_1_97) (fun _ h9 => h9) rfl dB_one_47 ?_
  refine lv_aload_n hx hb dB_one_50 rfl (lv_at hl 0 rfl) ?_
  refine va_get (D := D) (ci := 0) (v := .ref b18) (C := "ValueBench") (T := TB) (N := 8) hx hb htx inB hown hK hP 0 rfl rfl 4 (by decide) (htx _ kw_1_99) (fun _ h9 => h9) rfl dB_one_51 ?_
  refine lv_aload_n hx hb dB_one_54 rfl (lv_at hl 0 rfl) ?_
  refine va_get (D := D) (ci := 0) (v := .ref a1) (C := "ValueBench") (T := TB) (N := 8) hx hb htx inB hown hK hP 0 rfl rfl 5 (by decide) (htx _ kw_1_100) (fun _ h9 => h9) rfl dB_one_55 ?_
  obtain ⟨hPc, hDc, hFc⟩ := xcut (wc := [(a3, .inr (2, [.ref a4, .int 1, v26])), (a4, .inl (cT 2, 4096, .inr (.inl f27)))]) hP hD hS hA [2, 3] rfl rfl (by decide)
  refine va_calli (va_runS (As := [.int 8, .ref a3, .ref b17, .ref b18, .ref a1]) (rest := [.ref a0]) ⟨hx, hb, hml, hown, htx⟩ (cG_apply_8 l hl9 D cT aK aV H.size a3 a4 b17 b18 a1 v26 f27 (by first | rfl | exact h25 | exact h28)) ⟨callB_of 5 htx (xw_goodC kw_4_28) rfl rfl rfl (htx _ kw_1_26) (htx _ kw_4_26) ⟨by decide, by decide, by decide +kernel⟩ ⟨Nat.le_of_ble_eq_true rfl, Nat.le_of_ble_eq_true rfl⟩, htx _ kw_4_27⟩ ⟨xPre_blind, (fun U hU hW => ⟨rfl, xPre_of hZ hS hFc hPc hDc hK U hU hW⟩)⟩ rfl rfl hl.1 rfl (lv_room (Nat.le_of_ble_eq_true rfl)) dB_one_58 ⟨Nat.le_of_ble_eq_true rfl, Nat.le_of_ble_eq_true rfl⟩) hS (fun q _ h => hFc q h) hFc (fun r4 u9 t H1 locs ht hvm hr9 hB hz1 hk1 hS => ?_)
  obtain ⟨hP1, hK1, hD1⟩ := hB
  rw [ht] at hP1
  obtain ⟨hP, hD⟩ := xjoin (W := [(a0, .inr (0, [v15, v16, .ref b17, .ref a2, .ref b18, .ref a1, v19, v20])), (a2, .inl (cT 3, 8, .inr (.inr (.inr (.inr f24))))), (a1, .inr (2, [v21, .int 0, .int 0])), (a3, .inr (2, [.ref a4, .int 1, v26])), (a4, .inl (cT 2, 4096, .inr (.inl f27)))]) hP hD [2, 3] [0, 1, 4] 3 rfl rfl (by decide) (by decide) hk1 hFc hP1 hD1
  generalize H1 = H at hP hS ⊢
  rw [hr9]
  refine W.eq (g2 := F0 m 61 ls [.int 1, .ref a0]) rfl ?_
  obtain ⟨hPc, hDc, hFc⟩ := xcut (wc := [(a0, .inr (0, [v15, v16, .ref b17, .ref a2, .ref b18, .ref a1, v19, v20]))]) hP hD hS hA [0] rfl rfl (by decide)
  refine xx_thr (vx_runV (C := "ValueBench") (As := [.int 1]) (rest := []) ⟨hx, hb, hml, hown, htx⟩ (cB_demandDone_1 l hl9 D cT aK aV H.size a0 v15 v16 (.ref b17) (.ref a2) (.ref b18) (.ref a1) v19 v20) ⟨callB_of 1 htx (xw_goodC kw_3_222) rfl rfl rfl (htx _ kw_1_1) (htx _ kw_3_219) ⟨by decide, by decide, by decide +kernel⟩ ⟨Nat.le_of_ble_eq_true rfl, Nat.le_of_ble_eq_true rfl⟩, (htx _ kw_3_221), (htx _ kp_B_demandDone)⟩ ⟨xPre_blind, va_recv hK hP (ci := 0) rfl (q0 := 0) rfl, (fun U hU hW => ⟨rfl, xPre_of hZ hS hFc hPc hDc hK U hU hW⟩)⟩ rfl rfl hl.1 rfl (lv_room (Nat.le_of_ble_eq_true rfl)) dB_one_61 ⟨Nat.le_of_ble_eq_true rfl, Nat.le_of_ble_eq_true rfl⟩) hS hFc (fun q _ h => hFc q h) (fun E ce q9 u9 t H1 locs ht hvm _ hB hz1 hk1 hS hce hcv hcl => ?_)
  obtain ⟨rfl, hP1, hK1, hD1⟩ := hB
  rw [ht] at hP1
  obtain ⟨hP, hD⟩ := xjoin (W := [(a2, .inl (cT 3, 8, .inr (.inr (.inr (.inr f24))))), (a1, .inr (2, [v21, .int 0, .int 0])), (a3, .inr (2, [.ref a4, .int 1, v26])), (a4, .inl (cT 2, 4096, .inr (.inl f27))), (a0, .inr (0, [v15, v16, .ref b17, .ref a2, .ref b18, .ref a1, v19, .int 1]))]) hP hD [0] [1, 2, 3, 4] 4 rfl rfl (by decide) (by decide) hk1 hFc hP1 hD1
  generalize H1 = H at hP hS hce ⊢
  obtain ⟨hP9, hD9⟩ := xsub (wc := [(a0, .inr (0, [v15, v16, .ref b17, .ref a2, .ref b18, .ref a1, v19, .int 1])), (a1, .inr (2, [v21, .int 0, .int 0])), (a2, .inl (cT 3, 8, .inr (.inr (.inr (.inr f24))))), (a3, .inr (2, [.ref a4, .int 1, v26])), (a4, .inl (cT 2, 4096, .inr (.inl f27)))]) hP hD [4, 1, 0, 2, 3] rfl rfl (by decide)
  exact vx_out (E := "java/lang/ArithmeticException") (fun x h => (hne x h).elim) hlocks hce hcv hcl (fun t ht ha => ⟨(), trivial, ⟨rfl, by rw [ht]; exact hP9, va_K.moved ha hK, hD9⟩, hS.F ht⟩) hS.2.2 (Nat.le_of_ble_eq_true rfl) (Nat.le_of_ble_eq_true rfl)
set_option maxHeartbeats 400000000 in
set_option maxRecDepth 100000 in
theorem cL_one_8 (l : Launch) (hl9 : l.stackTraces = false) (D : va_G) (cT : Nat → ClassId) (aK aV : Nat → Nat) (sz : Nat) (a0 : Nat) (a1 : Nat) (a2 : Nat) (a3 : Nat) (a4 : Nat) (x5 : Int32) (x10 : Int32) (v15 : Value) (v16 : Value) (b17 : Nat) (b18 : Nat) (v19 : Value) (v20 : Value) (v21 : Value) (v22 : Value) (v23 : Value) (f24 : Nat → Option Nat) (v26 : Value) (f27 : Nat → Int64) (h6 : ¬ x5 < 0) (h7 : ¬ 7 < x5) (h8 : x5 ≤ 7) (h9 : vp_in x5 8) (h11 : ¬ x10 < 0) (h12 : ¬ 7 < x10) (h13 : x10 ≤ 7) (h14 : vp_in x10 8) (h25 : f24 x10.toNatClampNeg = some a3) (h28 : f27 0 = 0) : xMet l yL_one wyL_one 8 1 6 144 D cT aK aV sz [.ref a0, .int x5, .int 8, .int x10] [(a0, .inr (0, [v15, v16, .ref b17, .ref a2, .ref b18, .ref a1, v19, v20])), (a1, .inr (2, [v21, v22, v23])), (a2, .inl (cT 3, 8, .inr (.inr (.inr (.inr f24))))), (a3, .inr (2, [.ref a4, .int 1, v26])), (a4, .inl (cT 2, 4096, .inr (.inl f27)))] (fun A => va_Qi (fun (r : Int32) (_ : Unit) => r = 2) (fun _ t => xB D xcl cT A [(a0, .inr (0, [v15, v16, .ref b17, .ref a2, .ref b18, .ref a1, v19, .int 1])), (a1, .inr (2, [v21, .int 0, .int 0])), (a2, .inl (cT 3, 8, .inr (.inr (.inr (.inr f24))))), (a3, .inr (2, [.ref a4, .int 1, v26])), (a4, .inl (cT 2, 4096, .inr (.inl f27)))] t) A) := by
  refine va_MetW (cc := method_10_code) (maxL := 5) (ret := (some .int)) (hh := [(0, 7, 10, 19), (0, 7, 14, 33), (0, 7, 18, 13)]) (by decide) rfl ?_
  intro p e s m args below meth c s₁ B hml hv
  obtain ⟨rfl, hsz, hZ, hP, hK, hD0⟩ := hv
  have hx := B.exec
  have hb := B.bytes
  have hr := B.returns
  have hts := atoms_spec (ws := wyL_one) B.pre
  have htx := fun w h => hts w (List.mem_cons_of_mem _ h)
  have hown : s.vm.findClass "ValueBenchLaw" = some m.cls := findClass_of_methodNamed B.named
  have hlocks := B.notSynchronized
  subst hsz
  have hD := hD0.self (sz := s.heap.size)
  generalize hAe : va_A [(a0, .inr (0, [v15, v16, .ref b17, .ref a2, .ref b18, .ref a1, v19, v20])), (a1, .inr (2, [v21, v22, v23])), (a2, .inl (cT 3, 8, .inr (.inr (.inr (.inr f24))))), (a3, .inr (2, [.ref a4, .int 1, v26])), (a4, .inl (cT 2, 4096, .inr (.inl f27)))] s.heap.size = A at hD hZ ⊢
  have hA : ∀ q : Nat, s.heap.size ≤ q → A q := fun q h => by rw [← hAe]; exact Or.inr h
  have hS : va_S A s.heap s.heap [] := va_S.rf
  have hP : va_P D xcl [(a0, .inr (0, [v15, v16, .ref b17, .ref a2, .ref b18, .ref a1, v19, v20])), (a1, .inr (2, [v21, v22, v23])), (a2, .inl (cT 3, 8, .inr (.inr (.inr (.inr f24))))), (a3, .inr (2, [.ref a4, .int 1, v26])), (a4, .inl (cT 2, 4096, .inr (.inl f27)))] s.heap := hP
  have hl := lv_entry ([.ref a0, .int x5, .int 8, .int x10]) (n := 5) (Nat.le_of_ble_eq_true rfl)
  rw [lg_entry_eq]
  generalize (lg_sl ([.ref a0, .int x5, .int 8, .int x10]) ++ List.replicate (5 - (lg_sl ([.ref a0, .int x5, .int 8, .int x10])).length) Slot.unset).toArray = ls at hl ⊢
  have hl : lv_has ls 5 [(0, .ref a0), (1, .int x5), (2, .int 8), (3, .int x10)] := hl
  have htab := vx_table (x := yL_one) B (hts _ List.mem_cons_self)
  refine lv_aload_n hx hb dL_one_0 rfl (lv_at hl 0 rfl) ?_
  refine lv_iload_n hx hb dL_one_1 rfl (lv_at hl 1 rfl) ?_
  refine lv_iload_n hx hb dL_one_2 rfl (lv_at hl 2 rfl) ?_
  refine lv_iload_n hx hb dL_one_3 rfl (lv_at hl 3 rfl) ?_
  obtain ⟨hPc, hDc, hFc⟩ := xcut (wc := [(a0, .inr (0, [v15, v16, .ref b17, .ref a2, .ref b18, .ref a1, v19, v20])), (a1, .inr (2, [v21, v22, v23])), (a2, .inl (cT 3, 8, .inr (.inr (.inr (.inr f24))))), (a3, .inr (2, [.ref a4, .int 1, v26])), (a4, .inl (cT 2, 4096, .inr (.inl f27)))]) hP hD hS hA [0, 1, 2, 3, 4] rfl rfl (by decide)
  refine xx_thr (vx_runV (C := "ValueBench") (As := [.int x5, .int 8, .int x10]) (rest := []) ⟨hx, hb, hml, hown, htx⟩ (cB_one_8 l hl9 D cT aK aV s.heap.size a0 a1 a2 a3 a4 x5 x10 v15 v16 b17 b18 v19 v20 v21 v22 v23 f24 v26 f27 h6 h7 h8 h9 h11 h12 h13 h14 (by first | rfl | exact h25 | exact h28) (by first | rfl | exact h25 | exact h28)) ⟨callB_of 3 htx (xw_goodC kw_4_25) rfl rfl rfl (htx _ kw_1_1) (htx _ kw_4_22) ⟨by decide, by decide, by decide +kernel⟩ ⟨Nat.le_of_ble_eq_true rfl, Nat.le_of_ble_eq_true rfl⟩, (htx _ kw_4_23), (htx _ kw_4_24)⟩ ⟨xPre_blind, va_recv hK hP (ci := 0) rfl (q0 := 0) rfl, (fun U hU hW => ⟨rfl, xPre_of hZ hS hFc hPc hDc hK U hU hW⟩)⟩ rfl rfl hl.1 rfl (lv_room (Nat.le_of_ble_eq_true rfl)) dL_one_4 ⟨Nat.le_of_ble_eq_true rfl, Nat.le_of_ble_eq_true rfl⟩) hS hFc (fun q _ h => hFc q h) (fun E ce q9 u9 t H1 locs ht hvm _ hB hz1 hk1 hS hce hcv hcl => ?_)
  obtain ⟨rfl, hP1, hK1, hD1⟩ := hB
  rw [ht] at hP1
  obtain ⟨hP, hD⟩ := xjoin (W := [(a0, .inr (0, [v15, v16, .ref b17, .ref a2, .ref b18, .ref a1, v19, .int 1])), (a1, .inr (2, [v21, .int 0, .int 0])), (a2, .inl (cT 3, 8, .inr (.inr (.inr (.inr f24))))), (a3, .inr (2, [.ref a4, .int 1, v26])), (a4, .inl (cT 2, 4096, .inr (.inl f27)))]) hP hD [0, 1, 2, 3, 4] [] 0 rfl rfl (by decide) (by decide) hk1 hFc hP1 hD1
  generalize H1 = H at hP hS hce ⊢
  refine vx_catch (own := "ValueBenchLaw") (name := "java/lang/ArithmeticException") (E := "java/lang/ArithmeticException") hown [⟨0, 7, 10, 19⟩] ⟨0, 7, 14, 33⟩ [⟨0, 7, 18, 13⟩] (by rw [htab]; rfl) (by intro z hz; rcases List.mem_cons.mp hz with rfl | hz; (exact Or.inr ⟨by decide, "java/lang/IllegalArgumentException", htx _ kw_1_211, hZ.2.2.2.2.2.2.2.1 _ (List.mem_of_getElem? (i := 10) rfl)⟩); cases hz) (by decide) (by decide) (htx _ kw_3_98) ((hZ.2.2.2.2.2.1 _ (List.mem_of_getElem? (i := 3) rfl)).use rfl) hce hcv hcl ?_
  refine lv_astore (lv' := [(4, .ref q9), (0, .ref a0), (1, .int x5), (2, .int 8), (3, .int x10)]) hx hb dL_one_14 hl (by decide) rfl (fun ls hl => ?_)
  refine lv_iconst (v := 2) hx hb dL_one_16 (by decide) ?_
  obtain ⟨hP9, hD9⟩ := xsub (wc := [(a0, .inr (0, [v15, v16, .ref b17, .ref a2, .ref b18, .ref a1, v19, .int 1])), (a1, .inr (2, [v21, .int 0, .int 0])), (a2, .inl (cT 3, 8, .inr (.inr (.inr (.inr f24))))), (a3, .inr (2, [.ref a4, .int 1, v26])), (a4, .inl (cT 2, 4096, .inr (.inl f27)))]) hP hD [0, 1, 2, 3, 4] rfl rfl (by decide)
  refine W.widen (k := 1) (n := 6) (Nat.le_of_ble_eq_true rfl) (Nat.le_of_ble_eq_true rfl) ?_
  exact W.iret (v := 2) hx hb hr (fun t ht hW => ⟨⟨2, (), rfl, rfl, by rw [ht]; exact hP9, va_K.moved hW.alike hK, hD9⟩, hS.F ht⟩) hS.2.2 dL_one_17
set_option maxHeartbeats 400000000 in
set_option maxRecDepth 100000 in
theorem cB_isWithin_19 (l : Launch) (hl9 : l.stackTraces = false) (D : va_G) (cT : Nat → ClassId) (aK aV : Nat → Nat) (sz : Nat) : xMet l yB_isWithin wyB_isWithin 0 0 0 0 D cT aK aV sz [.int 9, .int 13] [] (fun A => va_Qi (fun (r : Int32) (_ : Unit) => r = 1) (fun _ t => xB D xcl cT A [] t) A) := by
  refine Met.ofW (cc := prog_1_method_15_code) (maxL := 2) (ret := (some .boolean)) (by decide) rfl ?_
  intro p e s m args below meth c s₁ B hml hv
  obtain ⟨rfl, hsz, hZ, hP, hK, hD0⟩ := hv
  have hx := B.exec
  have hb := B.bytes
  have hr := B.returns
  have hts := atoms_spec (ws := wyB_isWithin) B.pre
  have htx := fun w h => hts w (List.mem_cons_of_mem _ h)
  have hown : s.vm.findClass "ValueBench" = some m.cls := findClass_of_methodNamed B.named
  have hlocks := B.notSynchronized
  subst hsz
  have hD := hD0.self (sz := s.heap.size)
  generalize hAe : va_A [] s.heap.size = A at hD hZ ⊢
  have hA : ∀ q : Nat, s.heap.size ≤ q → A q := fun q h => by rw [← hAe]; exact Or.inr h
  have hS : va_S A s.heap s.heap [] := va_S.rf
  have hP : va_P D xcl [] s.heap := hP
  have hl := lv_entry ([.int 9, .int 13]) (n := 2) (Nat.le_of_ble_eq_true rfl)
  rw [lg_entry_eq]
  generalize (lg_sl ([.int 9, .int 13]) ++ List.replicate (2 - (lg_sl ([.int 9, .int 13])).length) Slot.unset).toArray = ls at hl ⊢
  have hl : lv_has ls 2 [(0, .int 9), (1, .int 13)] := hl
  refine lv_iload_n hx hb dB_isWithin_0 rfl (lv_at hl 0 rfl) ?_
  refine lv_if_lt (tgt := 13) hx hb dB_isWithin_1 (by decide) (fun h => ((by revert h; decide : False)).elim) (fun _ => ?_)
  refine lv_iload_n hx hb dB_isWithin_4 rfl (lv_at hl 0 rfl) ?_
  refine lv_iload_n hx hb dB_isWithin_5 rfl (lv_at hl 1 rfl) ?_
  refine lv_icmp_gt (tgt := 13) hx hb dB_isWithin_6 (by decide) (fun h => ((by revert h; decide : False)).elim) (fun _ => ?_)
  refine lv_iconst (v := 1) hx hb dB_isWithin_9 (by decide) ?_
  refine lv_goto (tgt := 14) hx hb dB_isWithin_10 (by decide) ?_
  obtain ⟨hP9, hD9⟩ := xsub (wc := []) hP hD [] rfl rfl (by decide)
  refine W.widen (k := 0) (n := 0) (Nat.le_of_ble_eq_true rfl) (Nat.le_of_ble_eq_true rfl) ?_
  exact W.zret (v := 1) hx hb hr rfl (fun t ht hW => ⟨⟨1, (), rfl, rfl, by rw [ht]; exact hP9, va_K.moved hW.alike hK, hD9⟩, hS.F ht⟩) hS.2.2 dB_isWithin_14
set_option maxHeartbeats 400000000 in
set_option maxRecDepth 100000 in
theorem cR_close_1 (l : Launch) (hl9 : l.stackTraces = false) (D : va_G) (cT : Nat → ClassId) (aK aV : Nat → Nat) (sz : Nat) (a0 : Nat) (a1 : Nat) (f2 : Nat → Int64) : xMet l yR_close wyR_close 0 0 0 0 D cT aK aV sz [.ref a0, .int 0, .int 5, .int 0] [(a0, .inr (2, [.ref a1, .int 1, .int 0])), (a1, .inl (cT 2, 4096, .inr (.inl f2)))] (fun A => va_Qv (fun _ : Unit => True) (fun _ t => xB D xcl cT A [(a0, .inr (2, [.ref a1, .int 1, .int 0])), (a1, .inl (cT 2, 4096, .inr (.inl (vp_updL f2 0 524293))))] t) A) := by
  refine Met.ofW (cc := prog_8_method_26_code) (maxL := 4) (ret := none) (by decide) rfl ?_
  intro p e s m args below meth c s₁ B hml hv
  obtain ⟨rfl, hsz, hZ, hP, hK, hD0⟩ := hv
  have hx := B.exec
  have hb := B.bytes
  have hr := B.returns
  have hts := atoms_spec (ws := wyR_close) B.pre
  have htx := fun w h => hts w (List.mem_cons_of_mem _ h)
  have hown : s.vm.findClass "ValueBench$Row" = some m.cls := findClass_of_methodNamed B.named
  have hlocks := B.notSynchronized
  subst hsz
  have hD := hD0.self (sz := s.heap.size)
  generalize hAe : va_A [(a0, .inr (2, [.ref a1, .int 1, .int 0])), (a1, .inl (cT 2, 4096, .inr (.inl f2)))] s.heap.size = A at hD hZ ⊢
  have hA : ∀ q : Nat, s.heap.size ≤ q → A q := fun q h => by rw [← hAe]; exact Or.inr h
  have hS : va_S A s.heap s.heap [] := va_S.rf
  have hP : va_P D xcl [(a0, .inr (2, [.ref a1, .int 1, .int 0])), (a1, .inl (cT 2, 4096, .inr (.inl f2)))] s.heap := hP
  have hl := lv_entry ([.ref a0, .int 0, .int 5, .int 0]) (n := 4) (Nat.le_of_ble_eq_true rfl)
  rw [lg_entry_eq]
  generalize (lg_sl ([.ref a0, .int 0, .int 5, .int 0]) ++ List.replicate (4 - (lg_sl ([.ref a0, .int 0, .int 5, .int 0])).length) Slot.unset).toArray = ls at hl ⊢
  have hl : lv_has ls 4 [(0, .ref a0), (1, .int 0), (2, .int 5), (3, .int 0)] := hl
  refine lv_aload_n hx hb dR_close_0 rfl (lv_at hl 0 rfl) ?_
  refine va_get (D := D) (ci := 2) (v := .int 0) (C := "ValueBench$Row") (T := TR) (N := 3) hx hb htx inR hown hK hP 0 rfl rfl 2 (by decide) (htx _ kw_1_86) (fun _ h9 => h9) rfl dR_close_1 ?_
  refine lv_if_ne (tgt := 43) hx hb dR_close_4 (by decide) (fun h => ((by revert h; decide : False)).elim) (fun _ => ?_)
  refine lv_iload_n hx hb dR_close_7 rfl (lv_at hl 1 rfl) ?_
  refine lv_if_lt (tgt := 43) hx hb dR_close_8 (by decide) (fun h => ((by revert h; decide : False)).elim) (fun _ => ?_)
  refine lv_iload_n hx hb dR_close_11 rfl (lv_at hl 1 rfl) ?_
  refine lv_aload_n hx hb dR_close_12 rfl (lv_at hl 0 rfl) ?_
  refine va_get (D := D) (ci := 2) (v := .int 1) (C := "ValueBench$Row") (T := TR) (N := 3) hx hb htx inR hown hK hP 0 rfl rfl 1 (by decide) (htx _ kw_1_85) (fun _ h9 => h9) rfl dR_close_13 ?_
  refine lv_icmp_ge (tgt := 43) hx hb dR_close_16 (by decide) (fun h => ((by revert h; decide : False)).elim) (fun _ => ?_)
  refine lv_aload_n hx hb dR_close_19 rfl (lv_at hl 0 rfl) ?_
  refine va_get (D := D) (ci := 2) (v := .ref a1) (C := "ValueBench$Row") (T := TR) (N := 3) hx hb htx inR hown hK hP 0 rfl rfl 0 (by decide) (htx _ kw_1_84) (fun _ h9 => h9) rfl dR_close_20 ?_
  refine lv_iload_n hx hb dR_close_23 rfl (lv_at hl 1 rfl) ?_
  refine lv_aload_n hx hb dR_close_24 rfl (lv_at hl 0 rfl) ?_
  refine va_get (D := D) (ci := 2) (v := .int 1) (C := "ValueBench$Row") (T := TR) (N := 3) hx hb htx inR hown hK hP 0 rfl rfl 1 (by decide) (htx _ kw_1_85) (fun _ h9 => h9) rfl dR_close_25 ?_
  refine lv_iload_n hx hb dR_close_28 rfl (lv_at hl 1 rfl) ?_
  refine lv_isub hx hb dR_close_29 ?_
  refine W.eq (g2 := F0 m 30 ls [.int 1, .int 0, .ref a1]) rfl ?_
  refine lv_i2l hx hb dR_close_30 rfl ?_
  refine W.eq (g2 := F0 m 31 ls [.long 1, .int 0, .ref a1]) rfl ?_
  refine lv_bipush (v := 19) hx hb dR_close_31 (by decide) ?_
  refine lv_lshl hx hb dR_close_33 rfl ?_
  refine W.eq (g2 := F0 m 34 ls [.long 524288, .int 0, .ref a1]) rfl ?_
  refine lv_iload_n hx hb dR_close_34 rfl (lv_at hl 3 rfl) ?_
  refine lv_i2l hx hb dR_close_35 rfl ?_
  refine W.eq (g2 := F0 m 36 ls [.long 0, .long 524288, .int 0, .ref a1]) rfl ?_
  refine lv_iconst (v := 3) hx hb dR_close_36 (by decide) ?_
  refine lv_lshl hx hb dR_close_37 rfl ?_
  refine W.eq (g2 := F0 m 38 ls [.long 0, .long 524288, .int 0, .ref a1]) rfl ?_
  refine lv_lor hx hb dR_close_38 ?_
  refine W.eq (g2 := F0 m 39 ls [.long 524288, .int 0, .ref a1]) rfl ?_
  refine lv_iload_n hx hb dR_close_39 rfl (lv_at hl 2 rfl) ?_
  refine lv_i2l hx hb dR_close_40 rfl ?_
  refine W.eq (g2 := F0 m 41 ls [.long 5, .long 524288, .int 0, .ref a1]) rfl ?_
  refine lv_lor hx hb dR_close_41 ?_
  refine W.eq (g2 := F0 m 42 ls [.long 524293, .int 0, .ref a1]) rfl ?_
  refine va_last hx hb hK hP hD hS 1 2 rfl rfl (show ¬ ((0 : Int32) < 0 ∨ 4096 ≤ (0 : Int32).toNatClampNeg) by decide) dR_close_42 (fun H locs hP hD hS => ?_)
  obtain ⟨hP, hD⟩ : xPD D xcl A [(a0, .inr (2, [.ref a1, .int 1, .int 0])), (a1, .inl (cT 2, 4096, .inr (.inl (vp_updL f2 0 524293))))] H := ⟨hP, hD⟩
  obtain ⟨hP9, hD9⟩ := xsub (wc := [(a0, .inr (2, [.ref a1, .int 1, .int 0])), (a1, .inl (cT 2, 4096, .inr (.inl (vp_updL f2 0 524293))))]) hP hD [0, 1] rfl rfl (by decide)
  refine W.widen (k := 0) (n := 0) (Nat.le_of_ble_eq_true rfl) (Nat.le_of_ble_eq_true rfl) ?_
  exact W.vret hx hb hr (fun t ht hW => ⟨⟨(), rfl, trivial, by rw [ht]; exact hP9, va_K.moved hW.alike hK, hD9⟩, hS.F ht⟩) hS.2.2 dR_close_43
set_option maxHeartbeats 400000000 in
set_option maxRecDepth 100000 in
theorem cG_reversed_0 (l : Launch) (hl9 : l.stackTraces = false) (D : va_G) (cT : Nat → ClassId) (aK aV : Nat → Nat) (sz : Nat) (a0 : Nat) (a1 : Nat) (a2 : Nat) (a3 : Nat) (b4 : Nat) (v5 : Value) (f6 : Nat → Int64) (f8 : Nat → Int64) (h7 : f6 0 = 0) : xMet l yG_reversed wyG_reversed 2 0 0 42 D cT aK aV sz [.ref a0, .ref b4, .ref a2] [(a0, .inr (2, [.ref a1, .int 1, v5])), (a1, .inl (cT 2, 4096, .inr (.inl f6))), (a2, .inr (2, [.ref a3, .int 0, .int 0])), (a3, .inl (cT 2, 4096, .inr (.inl f8)))] (fun A => va_Qi (fun (r : Int32) (_ : Unit) => r = 0) (fun _ t => xB D xcl cT A [(a0, .inr (2, [.ref a1, .int 1, v5])), (a1, .inl (cT 2, 4096, .inr (.inl f6))), (a2, .inr (2, [.ref a3, .int 1, .int 0])), (a3, .inl (cT 2, 4096, .inr (.inl (vp_updL (vp_updL f8 0 0) 0 524293))))] t) A) := by
  refine Met.ofW (cc := prog_9_method_11_code) (maxL := 3) (ret := (some .int)) (by decide) rfl ?_
  intro p e s m args below meth c s₁ B hml hv
  obtain ⟨rfl, hsz, hZ, hP, hK, hD0⟩ := hv
  have hx := B.exec
  have hb := B.bytes
  have hr := B.returns
  have hts := atoms_spec (ws := wyG_reversed) B.pre
  have htx := fun w h => hts w (List.mem_cons_of_mem _ h)
  have hown : s.vm.findClass "ValueBench$Singles" = some m.cls := findClass_of_methodNamed B.named
  have hlocks := B.notSynchronized
  subst hsz
  have hD := hD0.self (sz := s.heap.size)
  generalize hAe : va_A [(a0, .inr (2, [.ref a1, .int 1, v5])), (a1, .inl (cT 2, 4096, .inr (.inl f6))), (a2, .inr (2, [.ref a3, .int 0, .int 0])), (a3, .inl (cT 2, 4096, .inr (.inl f8)))] s.heap.size = A at hD hZ ⊢
  have hA : ∀ q : Nat, s.heap.size ≤ q → A q := fun q h => by rw [← hAe]; exact Or.inr h
  have hS : va_S A s.heap s.heap [] := va_S.rf
  have hP : va_P D xcl [(a0, .inr (2, [.ref a1, .int 1, v5])), (a1, .inl (cT 2, 4096, .inr (.inl f6))), (a2, .inr (2, [.ref a3, .int 0, .int 0])), (a3, .inl (cT 2, 4096, .inr (.inl f8)))] s.heap := hP
  have hl := lv_entry ([.ref a0, .ref b4, .ref a2]) (n := 3) (Nat.le_of_ble_eq_true rfl)
  rw [lg_entry_eq]
  generalize (lg_sl ([.ref a0, .ref b4, .ref a2]) ++ List.replicate (3 - (lg_sl ([.ref a0, .ref b4, .ref a2])).length) Slot.unset).toArray = ls at hl ⊢
  have hl : lv_has ls 3 [(0, .ref a0), (1, .ref b4), (2, .ref a2)] := hl
  refine lv_aload_n hx hb dG_reversed_0 rfl (lv_at hl 0 rfl) ?_
  refine lv_iconst (v := 0) hx hb dG_reversed_1 (by decide) ?_
  obtain ⟨hPc, hDc, hFc⟩ := xcut (wc := [(a0, .inr (2, [.ref a1, .int 1, v5])), (a1, .inl (cT 2, 4096, .inr (.inl f6)))]) hP hD hS hA [0, 1] rfl rfl (by decide)
  refine va_calli (va_runV (C := "ValueBench$Row") (As := [.int 0]) (rest := []) ⟨hx, hb, hml, hown, htx⟩ (cR_kind_0 l hl9 D cT aK aV s.heap.size a0 a1 v5 f6 (by first | rfl | exact h7)) ⟨callB_of 1 htx (xw_goodC kw_3_24) rfl rfl rfl (htx _ kw_1_4) (htx _ kw_4_38) ⟨by decide, by decide, by decide +kernel⟩ ⟨Nat.le_of_ble_eq_true rfl, Nat.le_of_ble_eq_true rfl⟩, (htx _ kw_3_22), (htx _ kw_3_23)⟩ ⟨xPre_blind, va_recv hK hP (ci := 2) rfl (q0 := 0) rfl, (fun U hU hW => ⟨rfl, xPre_of hZ hS hFc hPc hDc hK U hU hW⟩)⟩ rfl rfl hl.1 rfl (lv_room (Nat.le_of_ble_eq_true rfl)) dG_reversed_2 ⟨Nat.le_of_ble_eq_true rfl, Nat.le_of_ble_eq_true rfl⟩) hS (fun q _ h => hFc q h) hFc (fun r1 u9 t H1 locs ht hvm hr9 hB hz1 hk1 hS => ?_)
  obtain ⟨hP1, hK1, hD1⟩ := hB
  rw [ht] at hP1
  obtain ⟨hP, hD⟩ := xjoin (W := [(a2, .inr (2, [.ref a3, .int 0, .int 0])), (a3, .inl (cT 2, 4096, .inr (.inl f8))), (a0, .inr (2, [.ref a1, .int 1, v5])), (a1, .inl (cT 2, 4096, .inr (.inl f6)))]) hP hD [0, 1] [2, 3] 2 rfl rfl (by decide) (by decide) hk1 hFc hP1 hD1
  generalize H1 = H at hP hS ⊢
  rw [hr9]
  refine W.eq (g2 := F0 m 5 ls [.int 0]) rfl ?_
  refine lv_lookup (off := 35) (tgt := 40) hx hb dG_reversed_5 (by decide) (by decide) (by decide) ?_
  refine lv_aload_n hx hb dG_reversed_40 rfl (lv_at hl 2 rfl) ?_
  refine lv_aload_n hx hb dG_reversed_41 rfl (lv_at hl 2 rfl) ?_
  obtain ⟨hPc, hDc, hFc⟩ := xcut (wc := [(a2, .inr (2, [.ref a3, .int 0, .int 0])), (a3, .inl (cT 2, 4096, .inr (.inl f8)))]) hP hD hS hA [0, 1] rfl rfl (by decide)
  refine va_calli (va_runV (C := "ValueBench$Row") (As := []) (rest := [.ref a2]) ⟨hx, hb, hml, hown, htx⟩ (cR_open_0 l hl9 D cT aK aV H.size a2 a3 f8) ⟨callB_of 0 htx (xw_goodC kw_2_136) rfl rfl rfl (htx _ kw_1_4) (htx _ kw_4_46) ⟨by decide, by decide, by decide +kernel⟩ ⟨Nat.le_of_ble_eq_true rfl, Nat.le_of_ble_eq_true rfl⟩, (htx _ kw_2_134), (htx _ kw_2_135)⟩ ⟨xPre_blind, va_recv hK hP (ci := 2) rfl (q0 := 0) rfl, (fun U hU hW => ⟨rfl, xPre_of hZ hS hFc hPc hDc hK U hU hW⟩)⟩ rfl rfl hl.1 rfl (lv_room (Nat.le_of_ble_eq_true rfl)) dG_reversed_42 ⟨Nat.le_of_ble_eq_true rfl, Nat.le_of_ble_eq_true rfl⟩) hS (fun q _ h => hFc q h) hFc (fun r2 u9 t H1 locs ht hvm hr9 hB hz1 hk1 hS => ?_)
  obtain ⟨hP1, hK1, hD1⟩ := hB
  rw [ht] at hP1
  obtain ⟨hP, hD⟩ := xjoin (W := [(a0, .inr (2, [.ref a1, .int 1, v5])), (a1, .inl (cT 2, 4096, .inr (.inl f6))), (a2, .inr (2, [.ref a3, .int 1, .int 0])), (a3, .inl (cT 2, 4096, .inr (.inl (vp_updL f8 0 0))))]) hP hD [0, 1] [2, 3] 2 rfl rfl (by decide) (by decide) hk1 hFc hP1 hD1
  generalize H1 = H at hP hS ⊢
  rw [hr9]
  refine W.eq (g2 := F0 m 45 ls [.int 0, .ref a2]) rfl ?_
  refine lv_iconst (v := 5) hx hb dG_reversed_45 (by decide) ?_
  refine lv_iconst (v := 0) hx hb dG_reversed_46 (by decide) ?_
  obtain ⟨hPc, hDc, hFc⟩ := xcut (wc := [(a2, .inr (2, [.ref a3, .int 1, .int 0])), (a3, .inl (cT 2, 4096, .inr (.inl (vp_updL f8 0 0))))]) hP hD hS hA [2, 3] rfl rfl (by decide)
  refine va_callv (va_runV (C := "ValueBench$Row") (As := [.int 0, .int 5, .int 0]) (rest := []) ⟨hx, hb, hml, hown, htx⟩ (cR_close_1 l hl9 D cT aK aV H.size a2 a3 (vp_updL f8 0 0)) ⟨callB_of 3 htx (xw_goodC kw_2_167) rfl rfl rfl (htx _ kw_1_4) (htx _ kw_4_70) ⟨by decide, by decide, by decide +kernel⟩ ⟨Nat.le_of_ble_eq_true rfl, Nat.le_of_ble_eq_true rfl⟩, (htx _ kw_2_165), (htx _ kw_2_166)⟩ ⟨xPre_blind, va_recv hK hP (ci := 2) rfl (q0 := 2) rfl, (fun U hU hW => ⟨rfl, xPre_of hZ hS hFc hPc hDc hK U hU hW⟩)⟩ rfl rfl hl.1 rfl (lv_room (Nat.le_of_ble_eq_true rfl)) dG_reversed_47 ⟨Nat.le_of_ble_eq_true rfl, Nat.le_of_ble_eq_true rfl⟩) hS (fun q _ h => hFc q h) hFc (fun u9 t H1 locs ht hvm hr9 hB hz1 hk1 hS => ?_)
  obtain ⟨hP1, hK1, hD1⟩ := hB
  rw [ht] at hP1
  obtain ⟨hP, hD⟩ := xjoin (W := [(a0, .inr (2, [.ref a1, .int 1, v5])), (a1, .inl (cT 2, 4096, .inr (.inl f6))), (a2, .inr (2, [.ref a3, .int 1, .int 0])), (a3, .inl (cT 2, 4096, .inr (.inl (vp_updL (vp_updL f8 0 0) 0 524293))))]) hP hD [2, 3] [0, 1] 2 rfl rfl (by decide) (by decide) hk1 hFc hP1 hD1
  generalize H1 = H at hP hS ⊢
  refine lv_iconst (v := 0) hx hb dG_reversed_50 (by decide) ?_
  obtain ⟨hP9, hD9⟩ := xsub (wc := [(a0, .inr (2, [.ref a1, .int 1, v5])), (a1, .inl (cT 2, 4096, .inr (.inl f6))), (a2, .inr (2, [.ref a3, .int 1, .int 0])), (a3, .inl (cT 2, 4096, .inr (.inl (vp_updL (vp_updL f8 0 0) 0 524293))))]) hP hD [0, 1, 2, 3] rfl rfl (by decide)
  refine W.widen (k := 0) (n := 0) (Nat.le_of_ble_eq_true rfl) (Nat.le_of_ble_eq_true rfl) ?_
  exact W.iret (v := 0) hx hb hr (fun t ht hW => ⟨⟨0, (), rfl, rfl, by rw [ht]; exact hP9, va_K.moved hW.alike hK, hD9⟩, hS.F ht⟩) hS.2.2 dG_reversed_51
set_option maxHeartbeats 400000000 in
set_option maxRecDepth 100000 in
theorem cG_apply_9 (l : Launch) (hl9 : l.stackTraces = false) (D : va_G) (cT : Nat → ClassId) (aK aV : Nat → Nat) (sz : Nat) (a0 : Nat) (a1 : Nat) (a2 : Nat) (a3 : Nat) (b4 : Nat) (b5 : Nat) (v6 : Value) (f7 : Nat → Int64) (f9 : Nat → Int64) (h8 : f7 0 = 0) : xMet l yG_apply wyG_apply 3 0 0 64 D cT aK aV sz [.int 9, .ref a0, .ref b4, .ref b5, .ref a2] [(a0, .inr (2, [.ref a1, .int 1, v6])), (a1, .inl (cT 2, 4096, .inr (.inl f7))), (a2, .inr (2, [.ref a3, .int 0, .int 0])), (a3, .inl (cT 2, 4096, .inr (.inl f9)))] (fun A => va_Qi (fun (r : Int32) (_ : Unit) => r = 0) (fun _ t => xB D xcl cT A [(a0, .inr (2, [.ref a1, .int 1, v6])), (a1, .inl (cT 2, 4096, .inr (.inl f7))), (a2, .inr (2, [.ref a3, .int 1, .int 0])), (a3, .inl (cT 2, 4096, .inr (.inl (vp_updL (vp_updL f9 0 0) 0 524293))))] t) A) := by
  refine Met.ofW (cc := prog_9_method_2_code) (maxL := 5) (ret := (some .int)) (by decide) rfl ?_
  intro p e s m args below meth c s₁ B hml hv
  obtain ⟨rfl, hsz, hZ, hP, hK, hD0⟩ := hv
  have hx := B.exec
  have hb := B.bytes
  have hr := B.returns
  have hts := atoms_spec (ws := wyG_apply) B.pre
  have htx := fun w h => hts w (List.mem_cons_of_mem _ h)
  have hown : s.vm.findClass "ValueBench$Singles" = some m.cls := findClass_of_methodNamed B.named
  have hlocks := B.notSynchronized
  subst hsz
  have hD := hD0.self (sz := s.heap.size)
  generalize hAe : va_A [(a0, .inr (2, [.ref a1, .int 1, v6])), (a1, .inl (cT 2, 4096, .inr (.inl f7))), (a2, .inr (2, [.ref a3, .int 0, .int 0])), (a3, .inl (cT 2, 4096, .inr (.inl f9)))] s.heap.size = A at hD hZ ⊢
  have hA : ∀ q : Nat, s.heap.size ≤ q → A q := fun q h => by rw [← hAe]; exact Or.inr h
  have hS : va_S A s.heap s.heap [] := va_S.rf
  have hP : va_P D xcl [(a0, .inr (2, [.ref a1, .int 1, v6])), (a1, .inl (cT 2, 4096, .inr (.inl f7))), (a2, .inr (2, [.ref a3, .int 0, .int 0])), (a3, .inl (cT 2, 4096, .inr (.inl f9)))] s.heap := hP
  have hl := lv_entry ([.int 9, .ref a0, .ref b4, .ref b5, .ref a2]) (n := 5) (Nat.le_of_ble_eq_true rfl)
  rw [lg_entry_eq]
  generalize (lg_sl ([.int 9, .ref a0, .ref b4, .ref b5, .ref a2]) ++ List.replicate (5 - (lg_sl ([.int 9, .ref a0, .ref b4, .ref b5, .ref a2])).length) Slot.unset).toArray = ls at hl ⊢
  have hl : lv_has ls 5 [(0, .int 9), (1, .ref a0), (2, .ref b4), (3, .ref b5), (4, .ref a2)] := hl
  refine lv_iload_n hx hb dG_apply_0 rfl (lv_at hl 0 rfl) ?_
  refine lv_tableIn (off := 209) (tgt := 210) hx hb dG_apply_1 (by decide) (by decide) (by decide) (by decide) ?_
  refine lv_aload_n hx hb dG_apply_210 rfl (lv_at hl 1 rfl) ?_
  refine lv_aload_n hx hb dG_apply_211 rfl (lv_at hl 3 rfl) ?_
  refine lv_aload hx hb dG_apply_212 (lv_at hl 4 rfl) ?_
  obtain ⟨hPc, hDc, hFc⟩ := xcut (wc := [(a0, .inr (2, [.ref a1, .int 1, v6])), (a1, .inl (cT 2, 4096, .inr (.inl f7))), (a2, .inr (2, [.ref a3, .int 0, .int 0])), (a3, .inl (cT 2, 4096, .inr (.inl f9)))]) hP hD hS hA [0, 1, 2, 3] rfl rfl (by decide)
  refine va_calli (va_runS (As := [.ref a0, .ref b5, .ref a2]) (rest := []) ⟨hx, hb, hml, hown, htx⟩ (cG_reversed_0 l hl9 D cT aK aV s.heap.size a0 a1 a2 a3 b5 v6 f7 f9 (by first | rfl | exact h8)) ⟨callB_of 3 htx (xw_goodC kw_4_114) rfl rfl rfl (htx _ kw_1_26) (htx _ kw_4_112) ⟨by decide, by decide, by decide +kernel⟩ ⟨Nat.le_of_ble_eq_true rfl, Nat.le_of_ble_eq_true rfl⟩, htx _ kw_4_113⟩ ⟨xPre_blind, (fun U hU hW => ⟨rfl, xPre_of hZ hS hFc hPc hDc hK U hU hW⟩)⟩ rfl rfl hl.1 rfl (lv_room (Nat.le_of_ble_eq_true rfl)) dG_apply_214 ⟨Nat.le_of_ble_eq_true rfl, Nat.le_of_ble_eq_true rfl⟩) hS (fun q _ h => hFc q h) hFc (fun r1 u9 t H1 locs ht hvm hr9 hB hz1 hk1 hS => ?_)
  obtain ⟨hP1, hK1, hD1⟩ := hB
  rw [ht] at hP1
  obtain ⟨hP, hD⟩ := xjoin (W := [(a0, .inr (2, [.ref a1, .int 1, v6])), (a1, .inl (cT 2, 4096, .inr (.inl f7))), (a2, .inr (2, [.ref a3, .int 1, .int 0])), (a3, .inl (cT 2, 4096, .inr (.inl (vp_updL (vp_updL f9 0 0) 0 524293))))]) hP hD [0, 1, 2, 3] [] 0 rfl rfl (by decide) (by decide) hk1 hFc hP1 hD1
  generalize H1 = H at hP hS ⊢
  rw [hr9]
  refine W.eq (g2 := F0 m 217 ls [.int 0]) rfl ?_
  obtain ⟨hP9, hD9⟩ := xsub (wc := [(a0, .inr (2, [.ref a1, .int 1, v6])), (a1, .inl (cT 2, 4096, .inr (.inl f7))), (a2, .inr (2, [.ref a3, .int 1, .int 0])), (a3, .inl (cT 2, 4096, .inr (.inl (vp_updL (vp_updL f9 0 0) 0 524293))))]) hP hD [0, 1, 2, 3] rfl rfl (by decide)
  refine W.widen (k := 0) (n := 0) (Nat.le_of_ble_eq_true rfl) (Nat.le_of_ble_eq_true rfl) ?_
  exact W.iret (v := 0) hx hb hr (fun t ht hW => ⟨⟨0, (), rfl, rfl, by rw [ht]; exact hP9, va_K.moved hW.alike hK, hD9⟩, hS.F ht⟩) hS.2.2 dG_apply_217
set_option maxHeartbeats 400000000 in
set_option maxRecDepth 100000 in
theorem cR_kind_4 (l : Launch) (hl9 : l.stackTraces = false) (D : va_G) (cT : Nat → ClassId) (aK aV : Nat → Nat) (sz : Nat) (a0 : Nat) (a1 : Nat) (v2 : Value) (f3 : Nat → Int64) (h4 : f3 0 = 524293) : xMet l yR_kind wyR_kind 0 0 0 0 D cT aK aV sz [.ref a0, .int 0] [(a0, .inr (2, [.ref a1, .int 1, v2])), (a1, .inl (cT 2, 4096, .inr (.inl f3)))] (fun A => va_Qi (fun (r : Int32) (_ : Unit) => r = 5) (fun _ t => xB D xcl cT A [(a0, .inr (2, [.ref a1, .int 1, v2])), (a1, .inl (cT 2, 4096, .inr (.inl f3)))] t) A) := by
  refine Met.ofW (cc := prog_8_method_6_code) (maxL := 2) (ret := (some .int)) (by decide) rfl ?_
  intro p e s m args below meth c s₁ B hml hv
  obtain ⟨rfl, hsz, hZ, hP, hK, hD0⟩ := hv
  have hx := B.exec
  have hb := B.bytes
  have hr := B.returns
  have hts := atoms_spec (ws := wyR_kind) B.pre
  have htx := fun w h => hts w (List.mem_cons_of_mem _ h)
  have hown : s.vm.findClass "ValueBench$Row" = some m.cls := findClass_of_methodNamed B.named
  have hlocks := B.notSynchronized
  subst hsz
  have hD := hD0.self (sz := s.heap.size)
  generalize hAe : va_A [(a0, .inr (2, [.ref a1, .int 1, v2])), (a1, .inl (cT 2, 4096, .inr (.inl f3)))] s.heap.size = A at hD hZ ⊢
  have hA : ∀ q : Nat, s.heap.size ≤ q → A q := fun q h => by rw [← hAe]; exact Or.inr h
  have hS : va_S A s.heap s.heap [] := va_S.rf
  have hP : va_P D xcl [(a0, .inr (2, [.ref a1, .int 1, v2])), (a1, .inl (cT 2, 4096, .inr (.inl f3)))] s.heap := hP
  have hl := lv_entry ([.ref a0, .int 0]) (n := 2) (Nat.le_of_ble_eq_true rfl)
  rw [lg_entry_eq]
  generalize (lg_sl ([.ref a0, .int 0]) ++ List.replicate (2 - (lg_sl ([.ref a0, .int 0])).length) Slot.unset).toArray = ls at hl ⊢
  have hl : lv_has ls 2 [(0, .ref a0), (1, .int 0)] := hl
  refine lv_iload_n hx hb dR_kind_0 rfl (lv_at hl 1 rfl) ?_
  refine lv_if_lt (tgt := 25) hx hb dR_kind_1 (by decide) (fun h => ((by revert h; decide : False)).elim) (fun _ => ?_)
  refine lv_iload_n hx hb dR_kind_4 rfl (lv_at hl 1 rfl) ?_
  refine lv_aload_n hx hb dR_kind_5 rfl (lv_at hl 0 rfl) ?_
  refine va_get (D := D) (ci := 2) (v := .int 1) (C := "ValueBench$Row") (T := TR) (N := 3) hx hb htx inR hown hK hP 0 rfl rfl 1 (by decide) (htx _ kw_1_85) (fun _ h9 => h9) rfl dR_kind_6 ?_
  refine lv_icmp_ge (tgt := 25) hx hb dR_kind_9 (by decide) (fun h => ((by revert h; decide : False)).elim) (fun _ => ?_)
  refine lv_aload_n hx hb dR_kind_12 rfl (lv_at hl 0 rfl) ?_
  refine va_get (D := D) (ci := 2) (v := .ref a1) (C := "ValueBench$Row") (T := TR) (N := 3) hx hb htx inR hown hK hP 0 rfl rfl 0 (by decide) (htx _ kw_1_84) (fun _ h9 => h9) rfl dR_kind_13 ?_
  refine lv_iload_n hx hb dR_kind_16 rfl (lv_at hl 1 rfl) ?_
  refine va_lald hx hb hK hP 1 2 rfl rfl (show ¬ ((0 : Int32) < 0 ∨ 4096 ≤ (0 : Int32).toNatClampNeg) by decide) dR_kind_17 ?_
  refine W.eq (g2 := F0 m 18 ls [.long (f3 0)]) rfl ?_
  rw [h4]
  refine W.eq (g2 := F0 m 18 ls [.long 524293]) rfl ?_
  refine lv_l2i hx hb dR_kind_18 rfl ?_
  refine W.eq (g2 := F0 m 19 ls [.int 524293]) rfl ?_
  refine lv_bipush (v := 7) hx hb dR_kind_19 (by decide) ?_
  refine lv_iand hx hb dR_kind_21 ?_
  refine W.eq (g2 := F0 m 22 ls [.int 5]) rfl ?_
  refine lv_goto (tgt := 26) hx hb dR_kind_22 (by decide) ?_
  obtain ⟨hP9, hD9⟩ := xsub (wc := [(a0, .inr (2, [.ref a1, .int 1, v2])), (a1, .inl (cT 2, 4096, .inr (.inl f3)))]) hP hD [0, 1] rfl rfl (by decide)
  refine W.widen (k := 0) (n := 0) (Nat.le_of_ble_eq_true rfl) (Nat.le_of_ble_eq_true rfl) ?_
  exact W.iret (v := 5) hx hb hr (fun t ht hW => ⟨⟨5, (), rfl, rfl, by rw [ht]; exact hP9, va_K.moved hW.alike hK, hD9⟩, hS.F ht⟩) hS.2.2 dR_kind_26
set_option maxHeartbeats 400000000 in
set_option maxRecDepth 100000 in
theorem cR_is_5 (l : Launch) (hl9 : l.stackTraces = false) (D : va_G) (cT : Nat → ClassId) (aK aV : Nat → Nat) (sz : Nat) (a0 : Nat) (a1 : Nat) (v2 : Value) (f3 : Nat → Int64) (h4 : f3 0 = 524293) : xMet l yR_is wyR_is 1 0 0 21 D cT aK aV sz [.ref a0, .int 0, .int 6] [(a0, .inr (2, [.ref a1, .int 1, v2])), (a1, .inl (cT 2, 4096, .inr (.inl f3)))] (fun A => va_Qi (fun (r : Int32) (_ : Unit) => r = 0) (fun _ t => xB D xcl cT A [(a0, .inr (2, [.ref a1, .int 1, v2])), (a1, .inl (cT 2, 4096, .inr (.inl f3)))] t) A) := by
  refine Met.ofW (cc := prog_8_method_7_code) (maxL := 3) (ret := (some .boolean)) (by decide) rfl ?_
  intro p e s m args below meth c s₁ B hml hv
  obtain ⟨rfl, hsz, hZ, hP, hK, hD0⟩ := hv
  have hx := B.exec
  have hb := B.bytes
  have hr := B.returns
  have hts := atoms_spec (ws := wyR_is) B.pre
  have htx := fun w h => hts w (List.mem_cons_of_mem _ h)
  have hown : s.vm.findClass "ValueBench$Row" = some m.cls := findClass_of_methodNamed B.named
  have hlocks := B.notSynchronized
  subst hsz
  have hD := hD0.self (sz := s.heap.size)
  generalize hAe : va_A [(a0, .inr (2, [.ref a1, .int 1, v2])), (a1, .inl (cT 2, 4096, .inr (.inl f3)))] s.heap.size = A at hD hZ ⊢
  have hA : ∀ q : Nat, s.heap.size ≤ q → A q := fun q h => by rw [← hAe]; exact Or.inr h
  have hS : va_S A s.heap s.heap [] := va_S.rf
  have hP : va_P D xcl [(a0, .inr (2, [.ref a1, .int 1, v2])), (a1, .inl (cT 2, 4096, .inr (.inl f3)))] s.heap := hP
  have hl := lv_entry ([.ref a0, .int 0, .int 6]) (n := 3) (Nat.le_of_ble_eq_true rfl)
  rw [lg_entry_eq]
  generalize (lg_sl ([.ref a0, .int 0, .int 6]) ++ List.replicate (3 - (lg_sl ([.ref a0, .int 0, .int 6])).length) Slot.unset).toArray = ls at hl ⊢
  have hl : lv_has ls 3 [(0, .ref a0), (1, .int 0), (2, .int 6)] := hl
  refine lv_aload_n hx hb dR_is_0 rfl (lv_at hl 0 rfl) ?_
  refine lv_iload_n hx hb dR_is_1 rfl (lv_at hl 1 rfl) ?_
  obtain ⟨hPc, hDc, hFc⟩ := xcut (wc := [(a0, .inr (2, [.ref a1, .int 1, v2])), (a1, .inl (cT 2, 4096, .inr (.inl f3)))]) hP hD hS hA [0, 1] rfl rfl (by decide)
  refine va_calli (va_runV (C := "ValueBench$Row") (As := [.int 0]) (rest := []) ⟨hx, hb, hml, hown, htx⟩ (cR_kind_4 l hl9 D cT aK aV s.heap.size a0 a1 v2 f3 (by first | rfl | exact h4)) ⟨callB_of 1 htx (xw_goodC kw_3_24) rfl rfl rfl (htx _ kw_1_4) (htx _ kw_3_76) ⟨by decide, by decide, by decide +kernel⟩ ⟨Nat.le_of_ble_eq_true rfl, Nat.le_of_ble_eq_true rfl⟩, (htx _ kw_3_22), (htx _ kw_3_23)⟩ ⟨xPre_blind, va_recv hK hP (ci := 2) rfl (q0 := 0) rfl, (fun U hU hW => ⟨rfl, xPre_of hZ hS hFc hPc hDc hK U hU hW⟩)⟩ rfl rfl hl.1 rfl (lv_room (Nat.le_of_ble_eq_true rfl)) dR_is_2 ⟨Nat.le_of_ble_eq_true rfl, Nat.le_of_ble_eq_true rfl⟩) hS (fun q _ h => hFc q h) hFc (fun r1 u9 t H1 locs ht hvm hr9 hB hz1 hk1 hS => ?_)
  obtain ⟨hP1, hK1, hD1⟩ := hB
  rw [ht] at hP1
  obtain ⟨hP, hD⟩ := xjoin (W := [(a0, .inr (2, [.ref a1, .int 1, v2])), (a1, .inl (cT 2, 4096, .inr (.inl f3)))]) hP hD [0, 1] [] 0 rfl rfl (by decide) (by decide) hk1 hFc hP1 hD1
  generalize H1 = H at hP hS ⊢
  rw [hr9]
  refine W.eq (g2 := F0 m 5 ls [.int 5]) rfl ?_
  refine lv_iload_n hx hb dR_is_5 rfl (lv_at hl 2 rfl) ?_
  refine lv_icmp_ne (tgt := 13) hx hb dR_is_6 (by decide) (fun _ => ?_) (fun h => ((by revert h; decide : False)).elim)
  refine lv_iconst (v := 0) hx hb dR_is_13 (by decide) ?_
  obtain ⟨hP9, hD9⟩ := xsub (wc := [(a0, .inr (2, [.ref a1, .int 1, v2])), (a1, .inl (cT 2, 4096, .inr (.inl f3)))]) hP hD [0, 1] rfl rfl (by decide)
  refine W.widen (k := 0) (n := 0) (Nat.le_of_ble_eq_true rfl) (Nat.le_of_ble_eq_true rfl) ?_
  exact W.zret (v := 0) hx hb hr rfl (fun t ht hW => ⟨⟨0, (), rfl, rfl, by rw [ht]; exact hP9, va_K.moved hW.alike hK, hD9⟩, hS.F ht⟩) hS.2.2 dR_is_14
set_option maxHeartbeats 400000000 in
set_option maxRecDepth 100000 in
theorem cR_length_1 (l : Launch) (hl9 : l.stackTraces = false) (D : va_G) (cT : Nat → ClassId) (aK aV : Nat → Nat) (sz : Nat) (a0 : Nat) (a1 : Nat) (v2 : Value) (f3 : Nat → Int64) (h4 : f3 0 = 524293) : xMet l yR_length wyR_length 0 0 0 0 D cT aK aV sz [.ref a0, .int 0] [(a0, .inr (2, [.ref a1, .int 1, v2])), (a1, .inl (cT 2, 4096, .inr (.inl f3)))] (fun A => va_Qi (fun (r : Int32) (_ : Unit) => r = 0) (fun _ t => xB D xcl cT A [(a0, .inr (2, [.ref a1, .int 1, v2])), (a1, .inl (cT 2, 4096, .inr (.inl f3)))] t) A) := by
  refine Met.ofW (cc := prog_8_method_9_code) (maxL := 2) (ret := (some .int)) (by decide) rfl ?_
  intro p e s m args below meth c s₁ B hml hv
  obtain ⟨rfl, hsz, hZ, hP, hK, hD0⟩ := hv
  have hx := B.exec
  have hb := B.bytes
  have hr := B.returns
  have hts := atoms_spec (ws := wyR_length) B.pre
  have htx := fun w h => hts w (List.mem_cons_of_mem _ h)
  have hown : s.vm.findClass "ValueBench$Row" = some m.cls := findClass_of_methodNamed B.named
  have hlocks := B.notSynchronized
  subst hsz
  have hD := hD0.self (sz := s.heap.size)
  generalize hAe : va_A [(a0, .inr (2, [.ref a1, .int 1, v2])), (a1, .inl (cT 2, 4096, .inr (.inl f3)))] s.heap.size = A at hD hZ ⊢
  have hA : ∀ q : Nat, s.heap.size ≤ q → A q := fun q h => by rw [← hAe]; exact Or.inr h
  have hS : va_S A s.heap s.heap [] := va_S.rf
  have hP : va_P D xcl [(a0, .inr (2, [.ref a1, .int 1, v2])), (a1, .inl (cT 2, 4096, .inr (.inl f3)))] s.heap := hP
  have hl := lv_entry ([.ref a0, .int 0]) (n := 2) (Nat.le_of_ble_eq_true rfl)
  rw [lg_entry_eq]
  generalize (lg_sl ([.ref a0, .int 0]) ++ List.replicate (2 - (lg_sl ([.ref a0, .int 0])).length) Slot.unset).toArray = ls at hl ⊢
  have hl : lv_has ls 2 [(0, .ref a0), (1, .int 0)] := hl
  refine lv_iload_n hx hb dR_length_0 rfl (lv_at hl 1 rfl) ?_
  refine lv_if_lt (tgt := 27) hx hb dR_length_1 (by decide) (fun h => ((by revert h; decide : False)).elim) (fun _ => ?_)
  refine lv_iload_n hx hb dR_length_4 rfl (lv_at hl 1 rfl) ?_
  refine lv_aload_n hx hb dR_length_5 rfl (lv_at hl 0 rfl) ?_
  refine va_get (D := D) (ci := 2) (v := .int 1) (C := "ValueBench$Row") (T := TR) (N := 3) hx hb htx inR hown hK hP 0 rfl rfl 1 (by decide) (htx _ kw_1_85) (fun _ h9 => h9) rfl dR_length_6 ?_
  refine lv_icmp_ge (tgt := 27) hx hb dR_length_9 (by decide) (fun h => ((by revert h; decide : False)).elim) (fun _ => ?_)
  refine lv_aload_n hx hb dR_length_12 rfl (lv_at hl 0 rfl) ?_
  refine va_get (D := D) (ci := 2) (v := .ref a1) (C := "ValueBench$Row") (T := TR) (N := 3) hx hb htx inR hown hK hP 0 rfl rfl 0 (by decide) (htx _ kw_1_84) (fun _ h9 => h9) rfl dR_length_13 ?_
  refine lv_iload_n hx hb dR_length_16 rfl (lv_at hl 1 rfl) ?_
  refine va_lald hx hb hK hP 1 2 rfl rfl (show ¬ ((0 : Int32) < 0 ∨ 4096 ≤ (0 : Int32).toNatClampNeg) by decide) dR_length_17 ?_
  refine W.eq (g2 := F0 m 18 ls [.long (f3 0)]) rfl ?_
  rw [h4]
  refine W.eq (g2 := F0 m 18 ls [.long 524293]) rfl ?_
  refine lv_iconst (v := 3) hx hb dR_length_18 (by decide) ?_
  refine lv_lshr hx hb dR_length_19 rfl ?_
  refine W.eq (g2 := F0 m 20 ls [.long 65536]) rfl ?_
  refine lv_l2i hx hb dR_length_20 rfl ?_
  refine W.eq (g2 := F0 m 21 ls [.int 65536]) rfl ?_
  refine lv_ldc hx hb hown (htx _ kw_2_192) dR_length_21 ?_
  refine lv_iand hx hb dR_length_23 ?_
  refine W.eq (g2 := F0 m 24 ls [.int 0]) rfl ?_
  refine lv_goto (tgt := 28) hx hb dR_length_24 (by decide) ?_
  obtain ⟨hP9, hD9⟩ := xsub (wc := [(a0, .inr (2, [.ref a1, .int 1, v2])), (a1, .inl (cT 2, 4096, .inr (.inl f3)))]) hP hD [0, 1] rfl rfl (by decide)
  refine W.widen (k := 0) (n := 0) (Nat.le_of_ble_eq_true rfl) (Nat.le_of_ble_eq_true rfl) ?_
  exact W.iret (v := 0) hx hb hr (fun t ht hW => ⟨⟨0, (), rfl, rfl, by rw [ht]; exact hP9, va_K.moved hW.alike hK, hD9⟩, hS.F ht⟩) hS.2.2 dR_length_28
set_option maxHeartbeats 400000000 in
set_option maxRecDepth 100000 in
theorem cT_add_27 (l : Launch) (hl9 : l.stackTraces = false) (D : va_G) (cT : Nat → ClassId) (aK aV : Nat → Nat) (sz : Nat) (a0 : Nat) (a1 : Nat) (x2 : Int32) (v3 : Value) (f4 : Nat → Int32) : xMet l yT_add wyT_add 0 0 0 0 D cT aK aV sz [.ref a0, .int x2] [(a0, .inr (1, [.ref a1, .int 1, v3])), (a1, .inl (cT 0, 4096, .inl f4))] (fun A => va_Qv (fun _ : Unit => True) (fun _ t => ∃ (y1 : Int32), xB D xcl cT A [(a0, .inr (1, [.ref a1, .int 2, v3])), (a1, .inl (cT 0, 4096, .inl (upd f4 1 (vp_nar .byte y1))))] t) A) := by
  refine Met.ofW (cc := prog_11_method_8_code) (maxL := 2) (ret := none) (by decide) rfl ?_
  intro p e s m args below meth c s₁ B hml hv
  obtain ⟨rfl, hsz, hZ, hP, hK, hD0⟩ := hv
  have hx := B.exec
  have hb := B.bytes
  have hr := B.returns
  have hts := atoms_spec (ws := wyT_add) B.pre
  have htx := fun w h => hts w (List.mem_cons_of_mem _ h)
  have hown : s.vm.findClass "ValueBench$Text" = some m.cls := findClass_of_methodNamed B.named
  have hlocks := B.notSynchronized
  subst hsz
  have hD := hD0.self (sz := s.heap.size)
  generalize hAe : va_A [(a0, .inr (1, [.ref a1, .int 1, v3])), (a1, .inl (cT 0, 4096, .inl f4))] s.heap.size = A at hD hZ ⊢
  have hA : ∀ q : Nat, s.heap.size ≤ q → A q := fun q h => by rw [← hAe]; exact Or.inr h
  have hS : va_S A s.heap s.heap [] := va_S.rf
  have hP : va_P D xcl [(a0, .inr (1, [.ref a1, .int 1, v3])), (a1, .inl (cT 0, 4096, .inl f4))] s.heap := hP
  have hl := lv_entry ([.ref a0, .int x2]) (n := 2) (Nat.le_of_ble_eq_true rfl)
  rw [lg_entry_eq]
  generalize (lg_sl ([.ref a0, .int x2]) ++ List.replicate (2 - (lg_sl ([.ref a0, .int x2])).length) Slot.unset).toArray = ls at hl ⊢
  have hl : lv_has ls 2 [(0, .ref a0), (1, .int x2)] := hl
  refine lv_aload_n hx hb dT_add_0 rfl (lv_at hl 0 rfl) ?_
  refine va_get (D := D) (ci := 1) (v := .int 1) (C := "ValueBench$Text") (T := TT) (N := 3) hx hb htx inT hown hK hP 0 rfl rfl 1 (by decide) (htx _ kw_1_44) (fun _ h9 => h9) rfl dT_add_1 ?_
  refine lv_sipush (v := 4096) hx hb dT_add_4 (by decide) ?_
  refine lv_icmp_lt (tgt := 16) hx hb dT_add_7 (by decide) (fun _ => ?_) (fun h => ((by revert h; decide : False)).elim)
  refine lv_aload_n hx hb dT_add_16 rfl (lv_at hl 0 rfl) ?_
  refine va_get (D := D) (ci := 1) (v := .ref a1) (C := "ValueBench$Text") (T := TT) (N := 3) hx hb htx inT hown hK hP 0 rfl rfl 0 (by decide) (htx _ kw_1_43) (fun _ h9 => h9) rfl dT_add_17 ?_
  refine lv_aload_n hx hb dT_add_20 rfl (lv_at hl 0 rfl) ?_
  refine va_get (D := D) (ci := 1) (v := .int 1) (C := "ValueBench$Text") (T := TT) (N := 3) hx hb htx inT hown hK hP 0 rfl rfl 1 (by decide) (htx _ kw_1_44) (fun _ h9 => h9) rfl dT_add_21 ?_
  refine lv_iload_n hx hb dT_add_24 rfl (lv_at hl 1 rfl) ?_
  refine lv_i2b hx hb dT_add_25 rfl ?_
  refine lv_topi (fun y1 ey1 => ?_)
  refine va_bast hx hb hK hP hD hS 1 0 rfl rfl (show ¬ ((1 : Int32) < 0 ∨ 4096 ≤ (1 : Int32).toNatClampNeg) by decide) dT_add_26 (fun H locs hP hD hS => ?_)
  obtain ⟨hP, hD⟩ : xPD D xcl A [(a0, .inr (1, [.ref a1, .int 1, v3])), (a1, .inl (cT 0, 4096, .inl (upd f4 1 (vp_nar .byte y1))))] H := ⟨hP, hD⟩
  refine lv_aload_n hx hb dT_add_27 rfl (lv_at hl 0 rfl) ?_
  refine lv_dup hx hb dT_add_28 rfl ?_
  refine va_get (D := D) (ci := 1) (v := .int 1) (C := "ValueBench$Text") (T := TT) (N := 3) hx hb htx inT hown hK hP 0 rfl rfl 1 (by decide) (htx _ kw_1_44) (fun _ h9 => h9) rfl dT_add_29 ?_
  refine lv_iconst (v := 1) hx hb dT_add_32 (by decide) ?_
  refine lv_iadd hx hb dT_add_33 ?_
  refine W.eq (g2 := F0 m 34 ls [.int 2, .ref a0]) rfl ?_
  refine va_put (D := D) (ci := 1) (v := .int 2) (ty := .int) (C := "ValueBench$Text") (T := TT) (N := 3) hx hb htx inT tyT tyT_ok nmT hown hK hP hD hS 0 rfl rfl 1 (by decide) (htx _ kw_1_44) (fun _ h9 => h9) rfl (by decide +kernel) rfl rfl (Nat.le_of_ble_eq_true rfl) dT_add_34 (fun H locs hP hD hS => ?_)
  obtain ⟨hP, hD⟩ : xPD D xcl A [(a0, .inr (1, [.ref a1, .int 2, v3])), (a1, .inl (cT 0, 4096, .inl (upd f4 1 (vp_nar .byte y1))))] H := ⟨hP, hD⟩
  obtain ⟨hP9, hD9⟩ := xsub (wc := [(a0, .inr (1, [.ref a1, .int 2, v3])), (a1, .inl (cT 0, 4096, .inl (upd f4 1 (vp_nar .byte y1))))]) hP hD [0, 1] rfl rfl (by decide)
  refine W.widen (k := 0) (n := 0) (Nat.le_of_ble_eq_true rfl) (Nat.le_of_ble_eq_true rfl) ?_
  exact W.vret hx hb hr (fun t ht hW => ⟨⟨(), rfl, trivial, y1, by rw [ht]; exact hP9, va_K.moved hW.alike hK, hD9⟩, hS.F ht⟩) hS.2.2 dT_add_37
set_option maxHeartbeats 400000000 in
set_option maxRecDepth 100000 in
theorem cP_writeList_0 (l : Launch) (hl9 : l.stackTraces = false) (D : va_G) (cT : Nat → ClassId) (aK aV : Nat → Nat) (sz : Nat) (a0 : Nat) (a1 : Nat) (a2 : Nat) (a3 : Nat) (v4 : Value) (f5 : Nat → Int64) (v7 : Value) (f8 : Nat → Int32) (h6 : f5 0 = 524293) : xMet l yP_writeList wyP_writeList 2 0 0 43 D cT aK aV sz [.ref a0, .int 0, .ref a2, .int 0] [(a0, .inr (2, [.ref a1, .int 1, v4])), (a1, .inl (cT 2, 4096, .inr (.inl f5))), (a2, .inr (1, [.ref a3, .int 0, v7])), (a3, .inl (cT 0, 4096, .inl f8))] (fun A => va_Qv (fun _ : Unit => True) (fun _ t => ∃ (y2 : Int32) (y4 : Int32), xB D xcl cT A [(a0, .inr (2, [.ref a1, .int 1, v4])), (a1, .inl (cT 2, 4096, .inr (.inl f5))), (a2, .inr (1, [.ref a3, .int 2, v7])), (a3, .inl (cT 0, 4096, .inl (upd (upd f8 0 (vp_nar .byte y2)) 1 (vp_nar .byte y4))))] t) A) := by
  refine Met.ofW (cc := prog_6_method_3_code) (maxL := 7) (ret := none) (by decide) rfl ?_
  intro p e s m args below meth c s₁ B hml hv
  obtain ⟨rfl, hsz, hZ, hP, hK, hD0⟩ := hv
  have hx := B.exec
  have hb := B.bytes
  have hr := B.returns
  have hts := atoms_spec (ws := wyP_writeList) B.pre
  have htx := fun w h => hts w (List.mem_cons_of_mem _ h)
  have hown : s.vm.findClass "ValueBench$Printer" = some m.cls := findClass_of_methodNamed B.named
  have hlocks := B.notSynchronized
  subst hsz
  have hD := hD0.self (sz := s.heap.size)
  generalize hAe : va_A [(a0, .inr (2, [.ref a1, .int 1, v4])), (a1, .inl (cT 2, 4096, .inr (.inl f5))), (a2, .inr (1, [.ref a3, .int 0, v7])), (a3, .inl (cT 0, 4096, .inl f8))] s.heap.size = A at hD hZ ⊢
  have hA : ∀ q : Nat, s.heap.size ≤ q → A q := fun q h => by rw [← hAe]; exact Or.inr h
  have hS : va_S A s.heap s.heap [] := va_S.rf
  have hP : va_P D xcl [(a0, .inr (2, [.ref a1, .int 1, v4])), (a1, .inl (cT 2, 4096, .inr (.inl f5))), (a2, .inr (1, [.ref a3, .int 0, v7])), (a3, .inl (cT 0, 4096, .inl f8))] s.heap := hP
  have hl := lv_entry ([.ref a0, .int 0, .ref a2, .int 0]) (n := 7) (Nat.le_of_ble_eq_true rfl)
  rw [lg_entry_eq]
  generalize (lg_sl ([.ref a0, .int 0, .ref a2, .int 0]) ++ List.replicate (7 - (lg_sl ([.ref a0, .int 0, .ref a2, .int 0])).length) Slot.unset).toArray = ls at hl ⊢
  have hl : lv_has ls 7 [(0, .ref a0), (1, .int 0), (2, .ref a2), (3, .int 0)] := hl
  refine lv_iload_n hx hb dP_writeList_0 rfl (lv_at hl 3 rfl) ?_
  refine lv_bipush (v := 60) hx hb dP_writeList_1 (by decide) ?_
  refine lv_icmp_lt (tgt := 11) hx hb dP_writeList_3 (by decide) (fun _ => ?_) (fun h => ((by revert h; decide : False)).elim)
  refine lv_aload_n hx hb dP_writeList_11 rfl (lv_at hl 0 rfl) ?_
  refine lv_iload_n hx hb dP_writeList_12 rfl (lv_at hl 1 rfl) ?_
  refine lv_bipush (v := 6) hx hb dP_writeList_13 (by decide) ?_
  obtain ⟨hPc, hDc, hFc⟩ := xcut (wc := [(a0, .inr (2, [.ref a1, .int 1, v4])), (a1, .inl (cT 2, 4096, .inr (.inl f5)))]) hP hD hS hA [0, 1] rfl rfl (by decide)
  refine va_calli (va_runV (C := "ValueBench$Row") (As := [.int 0, .int 6]) (rest := []) ⟨hx, hb, hml, hown, htx⟩ (cR_is_5 l hl9 D cT aK aV s.heap.size a0 a1 v4 f5 (by first | rfl | exact h6)) ⟨callB_of 2 htx (xw_goodC kw_3_75) rfl rfl rfl (htx _ kw_1_4) (htx _ kw_3_72) ⟨by decide, by decide, by decide +kernel⟩ ⟨Nat.le_of_ble_eq_true rfl, Nat.le_of_ble_eq_true rfl⟩, (htx _ kw_3_73), (htx _ kw_3_74)⟩ ⟨xPre_blind, va_recv hK hP (ci := 2) rfl (q0 := 0) rfl, (fun U hU hW => ⟨rfl, xPre_of hZ hS hFc hPc hDc hK U hU hW⟩)⟩ rfl rfl hl.1 rfl (lv_room (Nat.le_of_ble_eq_true rfl)) dP_writeList_15 ⟨Nat.le_of_ble_eq_true rfl, Nat.le_of_ble_eq_true rfl⟩) hS (fun q _ h => hFc q h) hFc (fun r1 u9 t H1 locs ht hvm hr9 hB hz1 hk1 hS => ?_)
  obtain ⟨hP1, hK1, hD1⟩ := hB
  rw [ht] at hP1
  obtain ⟨hP, hD⟩ := xjoin (W := [(a2, .inr (1, [.ref a3, .int 0, v7])), (a3, .inl (cT 0, 4096, .inl f8)), (a0, .inr (2, [.ref a1, .int 1, v4])), (a1, .inl (cT 2, 4096, .inr (.inl f5)))]) hP hD [0, 1] [2, 3] 2 rfl rfl (by decide) (by decide) hk1 hFc hP1 hD1
  generalize H1 = H at hP hS ⊢
  rw [hr9]
  refine W.eq (g2 := F0 m 18 ls [.int 0]) rfl ?_
  refine lv_istore (lv' := [(4, .int 0), (0, .ref a0), (1, .int 0), (2, .ref a2), (3, .int 0)]) hx hb dP_writeList_18 hl (by decide) rfl (fun ls hl => ?_)
  refine lv_aload_n hx hb dP_writeList_20 rfl (lv_at hl 3 rfl) ?_
  refine lv_iload hx hb dP_writeList_21 (lv_at hl 0 rfl) ?_
  refine lv_if_eq (tgt := 31) hx hb dP_writeList_23 (by decide) (fun _ => ?_) (fun h => ((by revert h; decide : False)).elim)
  refine lv_bipush (v := 91) hx hb dP_writeList_31 (by decide) ?_
  obtain ⟨hPc, hDc, hFc⟩ := xcut (wc := [(a2, .inr (1, [.ref a3, .int 0, v7])), (a3, .inl (cT 0, 4096, .inl f8))]) hP hD hS hA [0, 1] rfl rfl (by decide)
  refine va_callv (va_runV (C := "ValueBench$Text") (As := [.int 91]) (rest := []) ⟨hx, hb, hml, hown, htx⟩ (cT_add_0 l hl9 D cT aK aV H.size a2 a3 91 v7 f8) ⟨callB_of 1 htx (xw_goodC kw_1_207) rfl rfl rfl (htx _ kw_1_2) (htx _ kw_3_51) ⟨by decide, by decide, by decide +kernel⟩ ⟨Nat.le_of_ble_eq_true rfl, Nat.le_of_ble_eq_true rfl⟩, (htx _ kw_1_205), (htx _ kw_1_206)⟩ ⟨xPre_blind, va_recv hK hP (ci := 1) rfl (q0 := 0) rfl, (fun U hU hW => ⟨rfl, xPre_of hZ hS hFc hPc hDc hK U hU hW⟩)⟩ rfl rfl hl.1 rfl (lv_room (Nat.le_of_ble_eq_true rfl)) dP_writeList_33 ⟨Nat.le_of_ble_eq_true rfl, Nat.le_of_ble_eq_true rfl⟩) hS (fun q _ h => hFc q h) hFc (fun u9 t H1 locs ht hvm hr9 hB hz1 hk1 hS => ?_)
  obtain ⟨y2, hP1, hK1, hD1⟩ := hB
  rw [ht] at hP1
  obtain ⟨hP, hD⟩ := xjoin (W := [(a0, .inr (2, [.ref a1, .int 1, v4])), (a1, .inl (cT 2, 4096, .inr (.inl f5))), (a2, .inr (1, [.ref a3, .int 1, v7])), (a3, .inl (cT 0, 4096, .inl (upd f8 0 (vp_nar .byte y2))))]) hP hD [0, 1] [2, 3] 2 rfl rfl (by decide) (by decide) hk1 hFc hP1 hD1
  generalize H1 = H at hP hS ⊢
  refine lv_iload_n hx hb dP_writeList_36 rfl (lv_at hl 2 rfl) ?_
  refine lv_iconst (v := 1) hx hb dP_writeList_37 (by decide) ?_
  refine lv_iadd hx hb dP_writeList_38 ?_
  refine W.eq (g2 := F0 m 39 ls [.int 1]) rfl ?_
  refine lv_istore (lv' := [(5, .int 1), (4, .int 0), (0, .ref a0), (1, .int 0), (2, .ref a2), (3, .int 0)]) hx hb dP_writeList_39 hl (by decide) rfl (fun ls hl => ?_)
  refine lv_iconst (v := 0) hx hb dP_writeList_41 (by decide) ?_
  refine lv_istore (lv' := [(6, .int 0), (5, .int 1), (4, .int 0), (0, .ref a0), (1, .int 0), (2, .ref a2), (3, .int 0)]) hx hb dP_writeList_42 hl (by decide) rfl (fun ls hl => ?_)
  refine lv_iload hx hb dP_writeList_44 (lv_at hl 0 rfl) ?_
  refine lv_aload_n hx hb dP_writeList_46 rfl (lv_at hl 3 rfl) ?_
  refine lv_iload_n hx hb dP_writeList_47 rfl (lv_at hl 4 rfl) ?_
  obtain ⟨hPc, hDc, hFc⟩ := xcut (wc := [(a0, .inr (2, [.ref a1, .int 1, v4])), (a1, .inl (cT 2, 4096, .inr (.inl f5)))]) hP hD hS hA [0, 1] rfl rfl (by decide)
  refine va_calli (va_runV (C := "ValueBench$Row") (As := [.int 0]) (rest := [.int 0]) ⟨hx, hb, hml, hown, htx⟩ (cR_length_1 l hl9 D cT aK aV H.size a0 a1 v4 f5 (by first | rfl | exact h6)) ⟨callB_of 1 htx (xw_goodC kw_2_191) rfl rfl rfl (htx _ kw_1_4) (htx _ kw_3_52) ⟨by decide, by decide, by decide +kernel⟩ ⟨Nat.le_of_ble_eq_true rfl, Nat.le_of_ble_eq_true rfl⟩, (htx _ kw_2_189), (htx _ kw_2_190)⟩ ⟨xPre_blind, va_recv hK hP (ci := 2) rfl (q0 := 0) rfl, (fun U hU hW => ⟨rfl, xPre_of hZ hS hFc hPc hDc hK U hU hW⟩)⟩ rfl rfl hl.1 rfl (lv_room (Nat.le_of_ble_eq_true rfl)) dP_writeList_48 ⟨Nat.le_of_ble_eq_true rfl, Nat.le_of_ble_eq_true rfl⟩) hS (fun q _ h => hFc q h) hFc (fun r3 u9 t H1 locs ht hvm hr9 hB hz1 hk1 hS => ?_)
  obtain ⟨hP1, hK1, hD1⟩ := hB
  rw [ht] at hP1
  obtain ⟨hP, hD⟩ := xjoin (W := [(a2, .inr (1, [.ref a3, .int 1, v7])), (a3, .inl (cT 0, 4096, .inl (upd f8 0 (vp_nar .byte y2)))), (a0, .inr (2, [.ref a1, .int 1, v4])), (a1, .inl (cT 2, 4096, .inr (.inl f5)))]) hP hD [0, 1] [2, 3] 2 rfl rfl (by decide) (by decide) hk1 hFc hP1 hD1
  generalize H1 = H at hP hS ⊢
  rw [hr9]
  refine W.eq (g2 := F0 m 51 ls [.int 0, .int 0]) rfl ?_
  refine lv_icmp_ge (tgt := 115) hx hb dP_writeList_51 (by decide) (fun _ => ?_) (fun h => ((by revert h; decide : False)).elim)
  refine lv_aload_n hx hb dP_writeList_115 rfl (lv_at hl 5 rfl) ?_
  refine lv_iload hx hb dP_writeList_116 (lv_at hl 2 rfl) ?_
  refine lv_if_eq (tgt := 126) hx hb dP_writeList_118 (by decide) (fun _ => ?_) (fun h => ((by revert h; decide : False)).elim)
  refine lv_bipush (v := 93) hx hb dP_writeList_126 (by decide) ?_
  obtain ⟨hPc, hDc, hFc⟩ := xcut (wc := [(a2, .inr (1, [.ref a3, .int 1, v7])), (a3, .inl (cT 0, 4096, .inl (upd f8 0 (vp_nar .byte y2))))]) hP hD hS hA [0, 1] rfl rfl (by decide)
  refine va_callv (va_runV (C := "ValueBench$Text") (As := [.int 93]) (rest := []) ⟨hx, hb, hml, hown, htx⟩ (cT_add_27 l hl9 D cT aK aV H.size a2 a3 93 v7 (upd f8 0 (vp_nar .byte y2))) ⟨callB_of 1 htx (xw_goodC kw_1_207) rfl rfl rfl (htx _ kw_1_2) (htx _ kw_3_51) ⟨by decide, by decide, by decide +kernel⟩ ⟨Nat.le_of_ble_eq_true rfl, Nat.le_of_ble_eq_true rfl⟩, (htx _ kw_1_205), (htx _ kw_1_206)⟩ ⟨xPre_blind, va_recv hK hP (ci := 1) rfl (q0 := 0) rfl, (fun U hU hW => ⟨rfl, xPre_of hZ hS hFc hPc hDc hK U hU hW⟩)⟩ rfl rfl hl.1 rfl (lv_room (Nat.le_of_ble_eq_true rfl)) dP_writeList_128 ⟨Nat.le_of_ble_eq_true rfl, Nat.le_of_ble_eq_true rfl⟩) hS (fun q _ h => hFc q h) hFc (fun u9 t H1 locs ht hvm hr9 hB hz1 hk1 hS => ?_)
  obtain ⟨y4, hP1, hK1, hD1⟩ := hB
  rw [ht] at hP1
  obtain ⟨hP, hD⟩ := xjoin (W := [(a0, .inr (2, [.ref a1, .int 1, v4])), (a1, .inl (cT 2, 4096, .inr (.inl f5))), (a2, .inr (1, [.ref a3, .int 2, v7])), (a3, .inl (cT 0, 4096, .inl (upd (upd f8 0 (vp_nar .byte y2)) 1 (vp_nar .byte y4))))]) hP hD [0, 1] [2, 3] 2 rfl rfl (by decide) (by decide) hk1 hFc hP1 hD1
  generalize H1 = H at hP hS ⊢
  obtain ⟨hP9, hD9⟩ := xsub (wc := [(a0, .inr (2, [.ref a1, .int 1, v4])), (a1, .inl (cT 2, 4096, .inr (.inl f5))), (a2, .inr (1, [.ref a3, .int 2, v7])), (a3, .inl (cT 0, 4096, .inl (upd (upd f8 0 (vp_nar .byte y2)) 1 (vp_nar .byte y4))))]) hP hD [0, 1, 2, 3] rfl rfl (by decide)
  refine W.widen (k := 0) (n := 0) (Nat.le_of_ble_eq_true rfl) (Nat.le_of_ble_eq_true rfl) ?_
  exact W.vret hx hb hr (fun t ht hW => ⟨⟨(), rfl, trivial, y2, y4, by rw [ht]; exact hP9, va_K.moved hW.alike hK, hD9⟩, hS.F ht⟩) hS.2.2 dP_writeList_131
set_option maxHeartbeats 400000000 in
set_option maxRecDepth 100000 in
theorem cP_write_5 (l : Launch) (hl9 : l.stackTraces = false) (D : va_G) (cT : Nat → ClassId) (aK aV : Nat → Nat) (sz : Nat) (a0 : Nat) (a1 : Nat) (a2 : Nat) (a3 : Nat) (v4 : Value) (f5 : Nat → Int64) (v7 : Value) (f8 : Nat → Int32) (h6 : f5 0 = 524293) : xMet l yP_write wyP_write 3 0 0 69 D cT aK aV sz [.ref a0, .int 0, .ref a2, .int 0] [(a0, .inr (2, [.ref a1, .int 1, v4])), (a1, .inl (cT 2, 4096, .inr (.inl f5))), (a2, .inr (1, [.ref a3, .int 0, v7])), (a3, .inl (cT 0, 4096, .inl f8))] (fun A => va_Qv (fun _ : Unit => True) (fun _ t => ∃ (y2 : Int32) (y3 : Int32), xB D xcl cT A [(a0, .inr (2, [.ref a1, .int 1, v4])), (a1, .inl (cT 2, 4096, .inr (.inl f5))), (a2, .inr (1, [.ref a3, .int 2, v7])), (a3, .inl (cT 0, 4096, .inl (upd (upd f8 0 (vp_nar .byte y2)) 1 (vp_nar .byte y3))))] t) A) := by
  refine Met.ofW (cc := prog_6_method_2_code) (maxL := 4) (ret := none) (by decide) rfl ?_
  intro p e s m args below meth c s₁ B hml hv
  obtain ⟨rfl, hsz, hZ, hP, hK, hD0⟩ := hv
  have hx := B.exec
  have hb := B.bytes
  have hr := B.returns
  have hts := atoms_spec (ws := wyP_write) B.pre
  have htx := fun w h => hts w (List.mem_cons_of_mem _ h)
  have hown : s.vm.findClass "ValueBench$Printer" = some m.cls := findClass_of_methodNamed B.named
  have hlocks := B.notSynchronized
  subst hsz
  have hD := hD0.self (sz := s.heap.size)
  generalize hAe : va_A [(a0, .inr (2, [.ref a1, .int 1, v4])), (a1, .inl (cT 2, 4096, .inr (.inl f5))), (a2, .inr (1, [.ref a3, .int 0, v7])), (a3, .inl (cT 0, 4096, .inl f8))] s.heap.size = A at hD hZ ⊢
  have hA : ∀ q : Nat, s.heap.size ≤ q → A q := fun q h => by rw [← hAe]; exact Or.inr h
  have hS : va_S A s.heap s.heap [] := va_S.rf
  have hP : va_P D xcl [(a0, .inr (2, [.ref a1, .int 1, v4])), (a1, .inl (cT 2, 4096, .inr (.inl f5))), (a2, .inr (1, [.ref a3, .int 0, v7])), (a3, .inl (cT 0, 4096, .inl f8))] s.heap := hP
  have hl := lv_entry ([.ref a0, .int 0, .ref a2, .int 0]) (n := 4) (Nat.le_of_ble_eq_true rfl)
  rw [lg_entry_eq]
  generalize (lg_sl ([.ref a0, .int 0, .ref a2, .int 0]) ++ List.replicate (4 - (lg_sl ([.ref a0, .int 0, .ref a2, .int 0])).length) Slot.unset).toArray = ls at hl ⊢
  have hl : lv_has ls 4 [(0, .ref a0), (1, .int 0), (2, .ref a2), (3, .int 0)] := hl
  refine lv_aload_n hx hb dP_write_0 rfl (lv_at hl 0 rfl) ?_
  refine lv_iload_n hx hb dP_write_1 rfl (lv_at hl 1 rfl) ?_
  obtain ⟨hPc, hDc, hFc⟩ := xcut (wc := [(a0, .inr (2, [.ref a1, .int 1, v4])), (a1, .inl (cT 2, 4096, .inr (.inl f5)))]) hP hD hS hA [0, 1] rfl rfl (by decide)
  refine va_calli (va_runV (C := "ValueBench$Row") (As := [.int 0]) (rest := []) ⟨hx, hb, hml, hown, htx⟩ (cR_kind_4 l hl9 D cT aK aV s.heap.size a0 a1 v4 f5 (by first | rfl | exact h6)) ⟨callB_of 1 htx (xw_goodC kw_3_24) rfl rfl rfl (htx _ kw_1_4) (htx _ kw_3_21) ⟨by decide, by decide, by decide +kernel⟩ ⟨Nat.le_of_ble_eq_true rfl, Nat.le_of_ble_eq_true rfl⟩, (htx _ kw_3_22), (htx _ kw_3_23)⟩ ⟨xPre_blind, va_recv hK hP (ci := 2) rfl (q0 := 0) rfl, (fun U hU hW => ⟨rfl, xPre_of hZ hS hFc hPc hDc hK U hU hW⟩)⟩ rfl rfl hl.1 rfl (lv_room (Nat.le_of_ble_eq_true rfl)) dP_write_2 ⟨Nat.le_of_ble_eq_true rfl, Nat.le_of_ble_eq_true rfl⟩) hS (fun q _ h => hFc q h) hFc (fun r1 u9 t H1 locs ht hvm hr9 hB hz1 hk1 hS => ?_)
  obtain ⟨hP1, hK1, hD1⟩ := hB
  rw [ht] at hP1
  obtain ⟨hP, hD⟩ := xjoin (W := [(a2, .inr (1, [.ref a3, .int 0, v7])), (a3, .inl (cT 0, 4096, .inl f8)), (a0, .inr (2, [.ref a1, .int 1, v4])), (a1, .inl (cT 2, 4096, .inr (.inl f5)))]) hP hD [0, 1] [2, 3] 2 rfl rfl (by decide) (by decide) hk1 hFc hP1 hD1
  generalize H1 = H at hP hS ⊢
  rw [hr9]
  refine W.eq (g2 := F0 m 5 ls [.int 5]) rfl ?_
  refine lv_tableOut (tgt := 88) hx hb dP_write_5 (by decide) (by decide) ?_
  refine lv_aload_n hx hb dP_write_88 rfl (lv_at hl 0 rfl) ?_
  refine lv_iload_n hx hb dP_write_89 rfl (lv_at hl 1 rfl) ?_
  refine lv_aload_n hx hb dP_write_90 rfl (lv_at hl 2 rfl) ?_
  refine lv_iload_n hx hb dP_write_91 rfl (lv_at hl 3 rfl) ?_
  obtain ⟨hPc, hDc, hFc⟩ := xcut (wc := [(a0, .inr (2, [.ref a1, .int 1, v4])), (a1, .inl (cT 2, 4096, .inr (.inl f5))), (a2, .inr (1, [.ref a3, .int 0, v7])), (a3, .inl (cT 0, 4096, .inl f8))]) hP hD hS hA [2, 3, 0, 1] rfl rfl (by decide)
  refine va_callv (va_runS (As := [.ref a0, .int 0, .ref a2, .int 0]) (rest := []) ⟨hx, hb, hml, hown, htx⟩ (cP_writeList_0 l hl9 D cT aK aV H.size a0 a1 a2 a3 v4 f5 v7 f8 (by first | rfl | exact h6)) ⟨callB_of 4 htx (xw_goodC kw_3_67) rfl rfl rfl (htx _ kw_1_18) (htx _ kw_3_65) ⟨by decide, by decide, by decide +kernel⟩ ⟨Nat.le_of_ble_eq_true rfl, Nat.le_of_ble_eq_true rfl⟩, htx _ kw_3_66⟩ ⟨xPre_blind, (fun U hU hW => ⟨rfl, xPre_of hZ hS hFc hPc hDc hK U hU hW⟩)⟩ rfl rfl hl.1 rfl (lv_room (Nat.le_of_ble_eq_true rfl)) dP_write_92 ⟨Nat.le_of_ble_eq_true rfl, Nat.le_of_ble_eq_true rfl⟩) hS (fun q _ h => hFc q h) hFc (fun u9 t H1 locs ht hvm hr9 hB hz1 hk1 hS => ?_)
  obtain ⟨y2, y3, hP1, hK1, hD1⟩ := hB
  rw [ht] at hP1
  obtain ⟨hP, hD⟩ := xjoin (W := [(a0, .inr (2, [.ref a1, .int 1, v4])), (a1, .inl (cT 2, 4096, .inr (.inl f5))), (a2, .inr (1, [.ref a3, .int 2, v7])), (a3, .inl (cT 0, 4096, .inl (upd (upd f8 0 (vp_nar .byte y2)) 1 (vp_nar .byte y3))))]) hP hD [2, 3, 0, 1] [] 0 rfl rfl (by decide) (by decide) hk1 hFc hP1 hD1
  generalize H1 = H at hP hS ⊢
  obtain ⟨hP9, hD9⟩ := xsub (wc := [(a0, .inr (2, [.ref a1, .int 1, v4])), (a1, .inl (cT 2, 4096, .inr (.inl f5))), (a2, .inr (1, [.ref a3, .int 2, v7])), (a3, .inl (cT 0, 4096, .inl (upd (upd f8 0 (vp_nar .byte y2)) 1 (vp_nar .byte y3))))]) hP hD [0, 1, 2, 3] rfl rfl (by decide)
  refine W.widen (k := 0) (n := 0) (Nat.le_of_ble_eq_true rfl) (Nat.le_of_ble_eq_true rfl) ?_
  exact W.vret hx hb hr (fun t ht hW => ⟨⟨(), rfl, trivial, y2, y3, by rw [ht]; exact hP9, va_K.moved hW.alike hK, hD9⟩, hS.F ht⟩) hS.2.2 dP_write_95
set_option maxHeartbeats 400000000 in
set_option maxRecDepth 100000 in
theorem cB_keepSpare_3 (l : Launch) (hl9 : l.stackTraces = false) (D : va_G) (cT : Nat → ClassId) (aK aV : Nat → Nat) (sz : Nat) (a0 : Nat) (a1 : Nat) (a2 : Nat) (a3 : Nat) (a4 : Nat) (a5 : Nat) (x6 : Int32) (v11 : Value) (v12 : Value) (v13 : Value) (v14 : Value) (v15 : Value) (v16 : Value) (v17 : Value) (f18 : Nat → Int64) (f20 : Nat → Int32) (f21 : Nat → Option Nat) (b22 : Nat) (h7 : ¬ x6 < 0) (h8 : ¬ 7 < x6) (h9 : x6 ≤ 7) (h10 : vp_in x6 8) (h19 : f18 0 = 524293) (h23 : f21 x6.toNatClampNeg = some b22) : xMet l yB_keepSpare wyB_keepSpare 4 0 0 92 D cT aK aV sz [.ref a0, .int x6] [(a0, .inr (0, [v11, v12, .ref a1, .ref a5, v13, .ref a2, v14, v15])), (a1, .inr (1, [.ref a4, v16, v17])), (a2, .inr (2, [.ref a3, .int 1, .int 0])), (a3, .inl (cT 2, 4096, .inr (.inl f18))), (a4, .inl (cT 0, 4096, .inl f20)), (a5, .inl (cT 3, 8, .inr (.inr (.inr (.inr f21)))))] (fun A => va_Qi (fun (r : Int32) (_ : Unit) => r = 2) (fun _ t => ∃ (y1 : Int32) (y2 : Int32), xB D xcl cT A [(a0, .inr (0, [v11, v12, .ref a1, .ref a5, v13, .ref b22, v14, v15])), (a1, .inr (1, [.ref a4, .int 2, .int 0])), (a2, .inr (2, [.ref a3, .int 1, .int 0])), (a3, .inl (cT 2, 4096, .inr (.inl f18))), (a4, .inl (cT 0, 4096, .inl (upd (upd f20 0 (vp_nar .byte y1)) 1 (vp_nar .byte y2)))), (a5, .inl (cT 3, 8, .inr (.inr (.inr (.inr (va_up f21 x6.toNatClampNeg (some a2)))))))] t) A) := by
  refine Met.ofW (cc := prog_1_method_18_code) (maxL := 3) (ret := (some .int)) (by decide) rfl ?_
  intro p e s m args below meth c s₁ B hml hv
  obtain ⟨rfl, hsz, hZ, hP, hK, hD0⟩ := hv
  have hx := B.exec
  have hb := B.bytes
  have hr := B.returns
  have hts := atoms_spec (ws := wyB_keepSpare) B.pre
  have htx := fun w h => hts w (List.mem_cons_of_mem _ h)
  have hown : s.vm.findClass "ValueBench" = some m.cls := findClass_of_methodNamed B.named
  have hlocks := B.notSynchronized
  subst hsz
  have hD := hD0.self (sz := s.heap.size)
  generalize hAe : va_A [(a0, .inr (0, [v11, v12, .ref a1, .ref a5, v13, .ref a2, v14, v15])), (a1, .inr (1, [.ref a4, v16, v17])), (a2, .inr (2, [.ref a3, .int 1, .int 0])), (a3, .inl (cT 2, 4096, .inr (.inl f18))), (a4, .inl (cT 0, 4096, .inl f20)), (a5, .inl (cT 3, 8, .inr (.inr (.inr (.inr f21)))))] s.heap.size = A at hD hZ ⊢
  have hA : ∀ q : Nat, s.heap.size ≤ q → A q := fun q h => by rw [← hAe]; exact Or.inr h
  have hS : va_S A s.heap s.heap [] := va_S.rf
  have hP : va_P D xcl [(a0, .inr (0, [v11, v12, .ref a1, .ref a5, v13, .ref a2, v14, v15])), (a1, .inr (1, [.ref a4, v16, v17])), (a2, .inr (2, [.ref a3, .int 1, .int 0])), (a3, .inl (cT 2, 4096, .inr (.inl f18))), (a4, .inl (cT 0, 4096, .inl f20)), (a5, .inl (cT 3, 8, .inr (.inr (.inr (.inr f21)))))] s.heap := hP
  have hl := lv_entry ([.ref a0, .int x6]) (n := 3) (Nat.le_of_ble_eq_true rfl)
  rw [lg_entry_eq]
  generalize (lg_sl ([.ref a0, .int x6]) ++ List.replicate (3 - (lg_sl ([.ref a0, .int x6])).length) Slot.unset).toArray = ls at hl ⊢
  have hl : lv_has ls 3 [(0, .ref a0), (1, .int x6)] := hl
  refine lv_aload_n hx hb dB_keepSpare_0 rfl (lv_at hl 0 rfl) ?_
  refine va_get (D := D) (ci := 0) (v := .ref a1) (C := "ValueBench") (T := TB) (N := 8) hx hb htx inB hown hK hP 0 rfl rfl 2 (by decide) (htx _ kw_1_97) (fun _ h9 => h9) rfl dB_keepSpare_1 ?_
  obtain ⟨hPc, hDc, hFc⟩ := xcut (wc := [(a1, .inr (1, [.ref a4, v16, v17]))]) hP hD hS hA [1] rfl rfl (by decide)
  refine va_callv (va_runV (C := "ValueBench$Text") (As := []) (rest := []) ⟨hx, hb, hml, hown, htx⟩ (cT_clear_0 l hl9 D cT aK aV s.heap.size a1 (.ref a4) v16 v17) ⟨callB_of 0 htx (xw_goodC kw_2_237) rfl rfl rfl (htx _ kw_1_2) (htx _ kw_2_234) ⟨by decide, by decide, by decide +kernel⟩ ⟨Nat.le_of_ble_eq_true rfl, Nat.le_of_ble_eq_true rfl⟩, (htx _ kw_2_235), (htx _ kw_2_236)⟩ ⟨xPre_blind, va_recv hK hP (ci := 1) rfl (q0 := 1) rfl, (fun U hU hW => ⟨rfl, xPre_of hZ hS hFc hPc hDc hK U hU hW⟩)⟩ rfl rfl hl.1 rfl (lv_room (Nat.le_of_ble_eq_true rfl)) dB_keepSpare_4 ⟨Nat.le_of_ble_eq_true rfl, Nat.le_of_ble_eq_true rfl⟩) hS (fun q _ h => hFc q h) hFc (fun u9 t H1 locs ht hvm hr9 hB hz1 hk1 hS => ?_)
  obtain ⟨hP1, hK1, hD1⟩ := hB
  rw [ht] at hP1
  obtain ⟨hP, hD⟩ := xjoin (W := [(a0, .inr (0, [v11, v12, .ref a1, .ref a5, v13, .ref a2, v14, v15])), (a2, .inr (2, [.ref a3, .int 1, .int 0])), (a3, .inl (cT 2, 4096, .inr (.inl f18))), (a4, .inl (cT 0, 4096, .inl f20)), (a5, .inl (cT 3, 8, .inr (.inr (.inr (.inr f21))))), (a1, .inr (1, [.ref a4, .int 0, .int 0]))]) hP hD [1] [0, 2, 3, 4, 5] 5 rfl rfl (by decide) (by decide) hk1 hFc hP1 hD1
  generalize H1 = H at hP hS ⊢
  refine lv_aload_n hx hb dB_keepSpare_7 rfl (lv_at hl 0 rfl) ?_
  refine va_get (D := D) (ci := 0) (v := .ref a2) (C := "ValueBench") (T := TB) (N := 8) hx hb htx inB hown hK hP 0 rfl rfl 5 (by decide) (htx _ kw_1_100) (fun _ h9 => h9) rfl dB_keepSpare_8 ?_
  refine lv_iconst (v := 0) hx hb dB_keepSpare_11 (by decide) ?_
  refine lv_aload_n hx hb dB_keepSpare_12 rfl (lv_at hl 0 rfl) ?_
  refine va_get (D := D) (ci := 0) (v := .ref a1) (C := "ValueBench") (T := TB) (N := 8) hx hb htx inB hown hK hP 0 rfl rfl 2 (by decide) (htx _ kw_1_97) (fun _ h9 => h9) rfl dB_keepSpare_13 ?_
  refine lv_iconst (v := 0) hx hb dB_keepSpare_16 (by decide) ?_
  obtain ⟨hPc, hDc, hFc⟩ := xcut (wc := [(a2, .inr (2, [.ref a3, .int 1, .int 0])), (a3, .inl (cT 2, 4096, .inr (.inl f18))), (a1, .inr (1, [.ref a4, .int 0, .int 0])), (a4, .inl (cT 0, 4096, .inl f20))]) hP hD hS hA [1, 2, 5, 3] rfl rfl (by decide)
  refine va_callv (va_runS (As := [.ref a2, .int 0, .ref a1, .int 0]) (rest := []) ⟨hx, hb, hml, hown, htx⟩ (cP_write_5 l hl9 D cT aK aV H.size a2 a3 a1 a4 (.int 0) f18 (.int 0) f20 (by first | rfl | exact h19 | exact h23)) ⟨callB_of 4 htx (xw_goodC kw_3_20) rfl rfl rfl (htx _ kw_1_18) (htx _ kw_3_18) ⟨by decide, by decide, by decide +kernel⟩ ⟨Nat.le_of_ble_eq_true rfl, Nat.le_of_ble_eq_true rfl⟩, htx _ kw_3_19⟩ ⟨xPre_blind, (fun U hU hW => ⟨rfl, xPre_of hZ hS hFc hPc hDc hK U hU hW⟩)⟩ rfl rfl hl.1 rfl (lv_room (Nat.le_of_ble_eq_true rfl)) dB_keepSpare_17 ⟨Nat.le_of_ble_eq_true rfl, Nat.le_of_ble_eq_true rfl⟩) hS (fun q _ h => hFc q h) hFc (fun u9 t H1 locs ht hvm hr9 hB hz1 hk1 hS => ?_)
  obtain ⟨y1, y2, hP1, hK1, hD1⟩ := hB
  rw [ht] at hP1
  obtain ⟨hP, hD⟩ := xjoin (W := [(a0, .inr (0, [v11, v12, .ref a1, .ref a5, v13, .ref a2, v14, v15])), (a5, .inl (cT 3, 8, .inr (.inr (.inr (.inr f21))))), (a2, .inr (2, [.ref a3, .int 1, .int 0])), (a3, .inl (cT 2, 4096, .inr (.inl f18))), (a1, .inr (1, [.ref a4, .int 2, .int 0])), (a4, .inl (cT 0, 4096, .inl (upd (upd f20 0 (vp_nar .byte y1)) 1 (vp_nar .byte y2))))]) hP hD [1, 2, 5, 3] [0, 4] 2 rfl rfl (by decide) (by decide) hk1 hFc hP1 hD1
  generalize H1 = H at hP hS ⊢
  refine lv_aload_n hx hb dB_keepSpare_20 rfl (lv_at hl 0 rfl) ?_
  refine va_get (D := D) (ci := 0) (v := .ref a2) (C := "ValueBench") (T := TB) (N := 8) hx hb htx inB hown hK hP 0 rfl rfl 5 (by decide) (htx _ kw_1_100) (fun _ h9 => h9) rfl dB_keepSpare_21 ?_
  obtain ⟨hPc, hDc, hFc⟩ := xcut (wc := [(a2, .inr (2, [.ref a3, .int 1, .int 0]))]) hP hD hS hA [2] rfl rfl (by decide)
  refine va_calli (va_runV (C := "ValueBench$Row") (As := []) (rest := []) ⟨hx, hb, hml, hown, htx⟩ (cR_isOver_0 l hl9 D cT aK aV H.size a2 (.ref a3) (.int 1)) ⟨callB_of 0 htx (xw_goodC kw_3_82) rfl rfl rfl (htx _ kw_1_4) (htx _ kw_3_79) ⟨by decide, by decide, by decide +kernel⟩ ⟨Nat.le_of_ble_eq_true rfl, Nat.le_of_ble_eq_true rfl⟩, (htx _ kw_3_80), (htx _ kw_3_81)⟩ ⟨xPre_blind, va_recv hK hP (ci := 2) rfl (q0 := 2) rfl, (fun U hU hW => ⟨rfl, xPre_of hZ hS hFc hPc hDc hK U hU hW⟩)⟩ rfl rfl hl.1 rfl (lv_room (Nat.le_of_ble_eq_true rfl)) dB_keepSpare_24 ⟨Nat.le_of_ble_eq_true rfl, Nat.le_of_ble_eq_true rfl⟩) hS (fun q _ h => hFc q h) hFc (fun r3 u9 t H1 locs ht hvm hr9 hB hz1 hk1 hS => ?_)
  obtain ⟨hP1, hK1, hD1⟩ := hB
  rw [ht] at hP1
  obtain ⟨hP, hD⟩ := xjoin (W := [(a0, .inr (0, [v11, v12, .ref a1, .ref a5, v13, .ref a2, v14, v15])), (a5, .inl (cT 3, 8, .inr (.inr (.inr (.inr f21))))), (a3, .inl (cT 2, 4096, .inr (.inl f18))), (a1, .inr (1, [.ref a4, .int 2, .int 0])), (a4, .inl (cT 0, 4096, .inl (upd (upd f20 0 (vp_nar .byte y1)) 1 (vp_nar .byte y2)))), (a2, .inr (2, [.ref a3, .int 1, .int 0]))]) hP hD [2] [0, 1, 3, 4, 5] 5 rfl rfl (by decide) (by decide) hk1 hFc hP1 hD1
  generalize H1 = H at hP hS ⊢
  rw [hr9]
  refine W.eq (g2 := F0 m 27 ls [.int 0]) rfl ?_
  refine lv_if_ne (tgt := 40) hx hb dB_keepSpare_27 (by decide) (fun h => ((by revert h; decide : False)).elim) (fun _ => ?_)
  refine lv_aload_n hx hb dB_keepSpare_30 rfl (lv_at hl 0 rfl) ?_
  refine va_get (D := D) (ci := 0) (v := .ref a1) (C := "ValueBench") (T := TB) (N := 8) hx hb htx inB hown hK hP 0 rfl rfl 2 (by decide) (htx _ kw_1_97) (fun _ h9 => h9) rfl dB_keepSpare_31 ?_
  obtain ⟨hPc, hDc, hFc⟩ := xcut (wc := [(a1, .inr (1, [.ref a4, .int 2, .int 0]))]) hP hD hS hA [3] rfl rfl (by decide)
  refine va_calli (va_runV (C := "ValueBench$Text") (As := []) (rest := []) ⟨hx, hb, hml, hown, htx⟩ (cT_isOver_0 l hl9 D cT aK aV H.size a1 (.ref a4) (.int 2)) ⟨callB_of 0 htx (xw_goodC kw_3_86) rfl rfl rfl (htx _ kw_1_2) (htx _ kw_3_83) ⟨by decide, by decide, by decide +kernel⟩ ⟨Nat.le_of_ble_eq_true rfl, Nat.le_of_ble_eq_true rfl⟩, (htx _ kw_3_84), (htx _ kw_3_85)⟩ ⟨xPre_blind, va_recv hK hP (ci := 1) rfl (q0 := 3) rfl, (fun U hU hW => ⟨rfl, xPre_of hZ hS hFc hPc hDc hK U hU hW⟩)⟩ rfl rfl hl.1 rfl (lv_room (Nat.le_of_ble_eq_true rfl)) dB_keepSpare_34 ⟨Nat.le_of_ble_eq_true rfl, Nat.le_of_ble_eq_true rfl⟩) hS (fun q _ h => hFc q h) hFc (fun r4 u9 t H1 locs ht hvm hr9 hB hz1 hk1 hS => ?_)
  obtain ⟨hP1, hK1, hD1⟩ := hB
  rw [ht] at hP1
  obtain ⟨hP, hD⟩ := xjoin (W := [(a0, .inr (0, [v11, v12, .ref a1, .ref a5, v13, .ref a2, v14, v15])), (a5, .inl (cT 3, 8, .inr (.inr (.inr (.inr f21))))), (a3, .inl (cT 2, 4096, .inr (.inl f18))), (a4, .inl (cT 0, 4096, .inl (upd (upd f20 0 (vp_nar .byte y1)) 1 (vp_nar .byte y2)))), (a2, .inr (2, [.ref a3, .int 1, .int 0])), (a1, .inr (1, [.ref a4, .int 2, .int 0]))]) hP hD [3] [0, 1, 2, 4, 5] 5 rfl rfl (by decide) (by decide) hk1 hFc hP1 hD1
  generalize H1 = H at hP hS ⊢
  rw [hr9]
  refine W.eq (g2 := F0 m 37 ls [.int 0]) rfl ?_
  refine lv_if_eq (tgt := 50) hx hb dB_keepSpare_37 (by decide) (fun _ => ?_) (fun h => ((by revert h; decide : False)).elim)
  refine lv_aload_n hx hb dB_keepSpare_50 rfl (lv_at hl 0 rfl) ?_
  refine va_get (D := D) (ci := 0) (v := .ref a5) (C := "ValueBench") (T := TB) (N := 8) hx hb htx inB hown hK hP 0 rfl rfl 3 (by decide) (htx _ kw_1_98) (fun _ h9 => h9) rfl dB_keepSpare_51 ?_
  refine lv_iload_n hx hb dB_keepSpare_54 rfl (lv_at hl 1 rfl) ?_
  refine va_aldq hx hb hK hP 1 3 rfl rfl h10 dB_keepSpare_55 ?_
  refine W.eq (g2 := F0 m 56 ls [va_rf (f21 x6.toNatClampNeg)]) rfl ?_
  rw [h23]
  refine W.eq (g2 := F0 m 56 ls [.ref b22]) rfl ?_
  refine lv_astore_n (lv' := [(2, .ref b22), (0, .ref a0), (1, .int x6)]) hx hb dB_keepSpare_56 rfl hl (by decide) rfl (fun ls hl => ?_)
  refine lv_aload_n hx hb dB_keepSpare_57 rfl (lv_at hl 1 rfl) ?_
  refine va_get (D := D) (ci := 0) (v := .ref a5) (C := "ValueBench") (T := TB) (N := 8) hx hb htx inB hown hK hP 0 rfl rfl 3 (by decide) (htx _ kw_1_98) (fun _ h9 => h9) rfl dB_keepSpare_58 ?_
  refine lv_iload_n hx hb dB_keepSpare_61 rfl (lv_at hl 2 rfl) ?_
  refine lv_aload_n hx hb dB_keepSpare_62 rfl (lv_at hl 1 rfl) ?_
  refine va_get (D := D) (ci := 0) (v := .ref a2) (C := "ValueBench") (T := TB) (N := 8) hx hb htx inB hown hK hP 0 rfl rfl 5 (by decide) (htx _ kw_1_100) (fun _ h9 => h9) rfl dB_keepSpare_63 ?_
  refine va_astq (r := ("ValueBench$Row", TR, 3)) hx hb hK hP hD hS 1 3 4 2 rfl rfl rfl rfl h10 dB_keepSpare_66 (fun H locs hP hD hS => ?_)
  obtain ⟨hP, hD⟩ : xPD D xcl A [(a0, .inr (0, [v11, v12, .ref a1, .ref a5, v13, .ref a2, v14, v15])), (a5, .inl (cT 3, 8, .inr (.inr (.inr (.inr (va_up f21 x6.toNatClampNeg (some a2))))))), (a3, .inl (cT 2, 4096, .inr (.inl f18))), (a4, .inl (cT 0, 4096, .inl (upd (upd f20 0 (vp_nar .byte y1)) 1 (vp_nar .byte y2)))), (a2, .inr (2, [.ref a3, .int 1, .int 0])), (a1, .inr (1, [.ref a4, .int 2, .int 0]))] H := ⟨hP, hD⟩
  refine lv_aload_n hx hb dB_keepSpare_67 rfl (lv_at hl 1 rfl) ?_
  refine lv_aload_n hx hb dB_keepSpare_68 rfl (lv_at hl 0 rfl) ?_
  refine va_put (D := D) (ci := 0) (v := .ref b22) (ty := (.object "ValueBench$Row")) (C := "ValueBench") (T := TB) (N := 8) hx hb htx inB tyB tyB_ok nmB hown hK hP hD hS 0 rfl rfl 5 (by decide) (htx _ kw_1_100) (fun _ h9 => h9) rfl (by decide +kernel) rfl rfl (Nat.le_of_ble_eq_true rfl) dB_keepSpare_69 (fun H locs hP hD hS => ?_)
  obtain ⟨hP, hD⟩ : xPD D xcl A [(a0, .inr (0, [v11, v12, .ref a1, .ref a5, v13, .ref b22, v14, v15])), (a5, .inl (cT 3, 8, .inr (.inr (.inr (.inr (va_up f21 x6.toNatClampNeg (some a2))))))), (a3, .inl (cT 2, 4096, .inr (.inl f18))), (a4, .inl (cT 0, 4096, .inl (upd (upd f20 0 (vp_nar .byte y1)) 1 (vp_nar .byte y2)))), (a2, .inr (2, [.ref a3, .int 1, .int 0])), (a1, .inr (1, [.ref a4, .int 2, .int 0]))] H := ⟨hP, hD⟩
  refine lv_aload_n hx hb dB_keepSpare_72 rfl (lv_at hl 1 rfl) ?_
  refine va_get (D := D) (ci := 0) (v := .ref a1) (C := "ValueBench") (T := TB) (N := 8) hx hb htx inB hown hK hP 0 rfl rfl 2 (by decide) (htx _ kw_1_97) (fun _ h9 => h9) rfl dB_keepSpare_73 ?_
  obtain ⟨hPc, hDc, hFc⟩ := xcut (wc := [(a1, .inr (1, [.ref a4, .int 2, .int 0]))]) hP hD hS hA [5] rfl rfl (by decide)
  refine va_calli (va_runV (C := "ValueBench$Text") (As := []) (rest := []) ⟨hx, hb, hml, hown, htx⟩ (cT_size_2 l hl9 D cT aK aV H.size a1 (.ref a4) 2 (.int 0)) ⟨callB_of 0 htx (xw_goodC kw_1_131) rfl rfl rfl (htx _ kw_1_2) (htx _ kw_1_128) ⟨by decide, by decide, by decide +kernel⟩ ⟨Nat.le_of_ble_eq_true rfl, Nat.le_of_ble_eq_true rfl⟩, (htx _ kw_1_129), (htx _ kw_1_130)⟩ ⟨xPre_blind, va_recv hK hP (ci := 1) rfl (q0 := 5) rfl, (fun U hU hW => ⟨rfl, xPre_of hZ hS hFc hPc hDc hK U hU hW⟩)⟩ rfl rfl hl.1 rfl (lv_room (Nat.le_of_ble_eq_true rfl)) dB_keepSpare_76 ⟨Nat.le_of_ble_eq_true rfl, Nat.le_of_ble_eq_true rfl⟩) hS (fun q _ h => hFc q h) hFc (fun r5 u9 t H1 locs ht hvm hr9 hB hz1 hk1 hS => ?_)
  obtain ⟨hP1, hK1, hD1⟩ := hB
  rw [ht] at hP1
  obtain ⟨hP, hD⟩ := xjoin (W := [(a0, .inr (0, [v11, v12, .ref a1, .ref a5, v13, .ref b22, v14, v15])), (a5, .inl (cT 3, 8, .inr (.inr (.inr (.inr (va_up f21 x6.toNatClampNeg (some a2))))))), (a3, .inl (cT 2, 4096, .inr (.inl f18))), (a4, .inl (cT 0, 4096, .inl (upd (upd f20 0 (vp_nar .byte y1)) 1 (vp_nar .byte y2)))), (a2, .inr (2, [.ref a3, .int 1, .int 0])), (a1, .inr (1, [.ref a4, .int 2, .int 0]))]) hP hD [5] [0, 1, 2, 3, 4] 5 rfl rfl (by decide) (by decide) hk1 hFc hP1 hD1
  generalize H1 = H at hP hS ⊢
  rw [hr9]
  refine W.eq (g2 := F0 m 79 ls [.int 2]) rfl ?_
  obtain ⟨hP9, hD9⟩ := xsub (wc := [(a0, .inr (0, [v11, v12, .ref a1, .ref a5, v13, .ref b22, v14, v15])), (a1, .inr (1, [.ref a4, .int 2, .int 0])), (a2, .inr (2, [.ref a3, .int 1, .int 0])), (a3, .inl (cT 2, 4096, .inr (.inl f18))), (a4, .inl (cT 0, 4096, .inl (upd (upd f20 0 (vp_nar .byte y1)) 1 (vp_nar .byte y2)))), (a5, .inl (cT 3, 8, .inr (.inr (.inr (.inr (va_up f21 x6.toNatClampNeg (some a2)))))))]) hP hD [0, 5, 4, 2, 3, 1] rfl rfl (by decide)
  refine W.widen (k := 0) (n := 0) (Nat.le_of_ble_eq_true rfl) (Nat.le_of_ble_eq_true rfl) ?_
  exact W.iret (v := 2) hx hb hr (fun t ht hW => ⟨⟨2, (), rfl, rfl, y1, y2, by rw [ht]; exact hP9, va_K.moved hW.alike hK, hD9⟩, hS.F ht⟩) hS.2.2 dB_keepSpare_79
set_option maxHeartbeats 400000000 in
set_option maxRecDepth 100000 in
theorem cB_one_9 (l : Launch) (hl9 : l.stackTraces = false) (D : va_G) (cT : Nat → ClassId) (aK aV : Nat → Nat) (sz : Nat) (a0 : Nat) (a1 : Nat) (a2 : Nat) (a3 : Nat) (a4 : Nat) (a5 : Nat) (a6 : Nat) (a7 : Nat) (x8 : Int32) (x13 : Int32) (v18 : Value) (v19 : Value) (b20 : Nat) (v21 : Value) (v22 : Value) (v23 : Value) (v24 : Value) (f25 : Nat → Option Nat) (b27 : Nat) (v29 : Value) (f30 : Nat → Int64) (f32 : Nat → Int64) (v33 : Value) (v34 : Value) (f35 : Nat → Int32) (h9 : ¬ x8 < 0) (h10 : ¬ 7 < x8) (h11 : x8 ≤ 7) (h12 : vp_in x8 8) (h14 : ¬ x13 < 0) (h15 : ¬ 7 < x13) (h16 : x13 ≤ 7) (h17 : vp_in x13 8) (h26 : f25 x13.toNatClampNeg = some a3) (h28 : f25 x8.toNatClampNeg = some b27) (h31 : f30 0 = 0) : xMet l yB_one wyB_one 5 0 0 114 D cT aK aV sz [.ref a0, .int x8, .int 9, .int x13] [(a0, .inr (0, [v18, v19, .ref a6, .ref a2, .ref b20, .ref a1, v21, v22])), (a1, .inr (2, [.ref a5, v23, v24])), (a2, .inl (cT 3, 8, .inr (.inr (.inr (.inr f25))))), (a3, .inr (2, [.ref a4, .int 1, v29])), (a4, .inl (cT 2, 4096, .inr (.inl f30))), (a5, .inl (cT 2, 4096, .inr (.inl f32))), (a6, .inr (1, [.ref a7, v33, v34])), (a7, .inl (cT 0, 4096, .inl f35))] (fun A => va_Qv (fun _ : Unit => True) (fun _ t => ∃ (y6 : Int32) (y7 : Int32), xB D xcl cT A [(a0, .inr (0, [v18, v19, .ref a6, .ref a2, .ref b20, .ref b27, v21, v22])), (a1, .inr (2, [.ref a5, .int 1, .int 0])), (a2, .inl (cT 3, 8, .inr (.inr (.inr (.inr (va_up f25 x8.toNatClampNeg (some a1))))))), (a3, .inr (2, [.ref a4, .int 1, v29])), (a4, .inl (cT 2, 4096, .inr (.inl f30))), (a5, .inl (cT 2, 4096, .inr (.inl (vp_updL (vp_updL f32 0 0) 0 524293)))), (a6, .inr (1, [.ref a7, .int 2, .int 0])), (a7, .inl (cT 0, 4096, .inl (upd (upd f35 0 (vp_nar .byte y6)) 1 (vp_nar .byte y7))))] t) A) := by
  refine Met.ofW (cc := prog_1_method_9_code) (maxL := 4) (ret := none) (by decide) rfl ?_
  intro p e s m args below meth c s₁ B hml hv
  obtain ⟨rfl, hsz, hZ, hP, hK, hD0⟩ := hv
  have hx := B.exec
  have hb := B.bytes
  have hr := B.returns
  have hts := atoms_spec (ws := wyB_one) B.pre
  have htx := fun w h => hts w (List.mem_cons_of_mem _ h)
  have hown : s.vm.findClass "ValueBench" = some m.cls := findClass_of_methodNamed B.named
  have hlocks := B.notSynchronized
  subst hsz
  have hD := hD0.self (sz := s.heap.size)
  generalize hAe : va_A [(a0, .inr (0, [v18, v19, .ref a6, .ref a2, .ref b20, .ref a1, v21, v22])), (a1, .inr (2, [.ref a5, v23, v24])), (a2, .inl (cT 3, 8, .inr (.inr (.inr (.inr f25))))), (a3, .inr (2, [.ref a4, .int 1, v29])), (a4, .inl (cT 2, 4096, .inr (.inl f30))), (a5, .inl (cT 2, 4096, .inr (.inl f32))), (a6, .inr (1, [.ref a7, v33, v34])), (a7, .inl (cT 0, 4096, .inl f35))] s.heap.size = A at hD hZ ⊢
  have hA : ∀ q : Nat, s.heap.size ≤ q → A q := fun q h => by rw [← hAe]; exact Or.inr h
  have hS : va_S A s.heap s.heap [] := va_S.rf
  have hP : va_P D xcl [(a0, .inr (0, [v18, v19, .ref a6, .ref a2, .ref b20, .ref a1, v21, v22])), (a1, .inr (2, [.ref a5, v23, v24])), (a2, .inl (cT 3, 8, .inr (.inr (.inr (.inr f25))))), (a3, .inr (2, [.ref a4, .int 1, v29])), (a4, .inl (cT 2, 4096, .inr (.inl f30))), (a5, .inl (cT 2, 4096, .inr (.inl f32))), (a6, .inr (1, [.ref a7, v33, v34])), (a7, .inl (cT 0, 4096, .inl f35))] s.heap := hP
  have hl := lv_entry ([.ref a0, .int x8, .int 9, .int x13]) (n := 4) (Nat.le_of_ble_eq_true rfl)
  rw [lg_entry_eq]
  generalize (lg_sl ([.ref a0, .int x8, .int 9, .int x13]) ++ List.replicate (4 - (lg_sl ([.ref a0, .int x8, .int 9, .int x13])).length) Slot.unset).toArray = ls at hl ⊢
  have hl : lv_has ls 4 [(0, .ref a0), (1, .int x8), (2, .int 9), (3, .int x13)] := hl
  refine lv_iload_n hx hb dB_one_0 rfl (lv_at hl 1 rfl) ?_
  obtain ⟨hPc, hDc, hFc⟩ := xcut (wc := []) hP hD hS hA [] rfl rfl (by decide)
  refine va_calli (va_runS (As := [.int x8]) (rest := []) ⟨hx, hb, hml, hown, htx⟩ (cB_isRegister_0 l hl9 D cT aK aV s.heap.size x8 h9 h10 h11 h12) ⟨callB_of 1 htx (xw_goodC kw_2_18) rfl rfl rfl (htx _ kw_1_1) (htx _ kw_2_16) ⟨by decide, by decide, by decide +kernel⟩ ⟨Nat.le_of_ble_eq_true rfl, Nat.le_of_ble_eq_true rfl⟩, htx _ kw_2_17⟩ ⟨xPre_blind, (fun U hU hW => ⟨rfl, xPre_of hZ hS hFc hPc hDc hK U hU hW⟩)⟩ rfl rfl hl.1 rfl (lv_room (Nat.le_of_ble_eq_true rfl)) dB_one_1 ⟨Nat.le_of_ble_eq_true rfl, Nat.le_of_ble_eq_true rfl⟩) hS (fun q _ h => hFc q h) hFc (fun r1 u9 t H1 locs ht hvm hr9 hB hz1 hk1 hS => ?_)
  obtain ⟨hP1, hK1, hD1⟩ := hB
  rw [ht] at hP1
  obtain ⟨hP, hD⟩ := xjoin (W := [(a0, .inr (0, [v18, v19, .ref a6, .ref a2, .ref b20, .ref a1, v21, v22])), (a1, .inr (2, [.ref a5, v23, v24])), (a2, .inl (cT 3, 8, .inr (.inr (.inr (.inr f25))))), (a3, .inr (2, [.ref a4, .int 1, v29])), (a4, .inl (cT 2, 4096, .inr (.inl f30))), (a5, .inl (cT 2, 4096, .inr (.inl f32))), (a6, .inr (1, [.ref a7, v33, v34])), (a7, .inl (cT 0, 4096, .inl f35))]) hP hD [] [0, 1, 2, 3, 4, 5, 6, 7] 8 rfl rfl (by decide) (by decide) hk1 hFc hP1 hD1
  generalize H1 = H at hP hS ⊢
  rw [hr9]
  refine W.eq (g2 := F0 m 4 ls [.int 1]) rfl ?_
  refine lv_if_eq (tgt := 27) hx hb dB_one_4 (by decide) (fun h => ((by revert h; decide : False)).elim) (fun _ => ?_)
  refine lv_iload_n hx hb dB_one_7 rfl (lv_at hl 2 rfl) ?_
  refine lv_bipush (v := 13) hx hb dB_one_8 (by decide) ?_
  obtain ⟨hPc, hDc, hFc⟩ := xcut (wc := []) hP hD hS hA [] rfl rfl (by decide)
  refine va_calli (va_runS (As := [.int 9, .int 13]) (rest := []) ⟨hx, hb, hml, hown, htx⟩ (cB_isWithin_19 l hl9 D cT aK aV H.size) ⟨callB_of 2 htx (xw_goodC kw_1_218) rfl rfl rfl (htx _ kw_1_1) (htx _ kw_1_216) ⟨by decide, by decide, by decide +kernel⟩ ⟨Nat.le_of_ble_eq_true rfl, Nat.le_of_ble_eq_true rfl⟩, htx _ kw_1_217⟩ ⟨xPre_blind, (fun U hU hW => ⟨rfl, xPre_of hZ hS hFc hPc hDc hK U hU hW⟩)⟩ rfl rfl hl.1 rfl (lv_room (Nat.le_of_ble_eq_true rfl)) dB_one_10 ⟨Nat.le_of_ble_eq_true rfl, Nat.le_of_ble_eq_true rfl⟩) hS (fun q _ h => hFc q h) hFc (fun r2 u9 t H1 locs ht hvm hr9 hB hz1 hk1 hS => ?_)
  obtain ⟨hP1, hK1, hD1⟩ := hB
  rw [ht] at hP1
  obtain ⟨hP, hD⟩ := xjoin (W := [(a0, .inr (0, [v18, v19, .ref a6, .ref a2, .ref b20, .ref a1, v21, v22])), (a1, .inr (2, [.ref a5, v23, v24])), (a2, .inl (cT 3, 8, .inr (.inr (.inr (.inr f25))))), (a3, .inr (2, [.ref a4, .int 1, v29])), (a4, .inl (cT 2, 4096, .inr (.inl f30))), (a5, .inl (cT 2, 4096, .inr (.inl f32))), (a6, .inr (1, [.ref a7, v33, v34])), (a7, .inl (cT 0, 4096, .inl f35))]) hP hD [] [0, 1, 2, 3, 4, 5, 6, 7] 8 rfl rfl (by decide) (by decide) hk1 hFc hP1 hD1
  generalize H1 = H at hP hS ⊢
  rw [hr9]
  refine W.eq (g2 := F0 m 13 ls [.int 1]) rfl ?_
  refine lv_if_eq (tgt := 27) hx hb dB_one_13 (by decide) (fun h => ((by revert h; decide : False)).elim) (fun _ => ?_)
  refine lv_iload_n hx hb dB_one_16 rfl (lv_at hl 3 rfl) ?_
  obtain ⟨hPc, hDc, hFc⟩ := xcut (wc := []) hP hD hS hA [] rfl rfl (by decide)
  refine va_calli (va_runS (As := [.int x13]) (rest := []) ⟨hx, hb, hml, hown, htx⟩ (cB_isRegister_0 l hl9 D cT aK aV H.size x13 h14 h15 h16 h17) ⟨callB_of 1 htx (xw_goodC kw_2_18) rfl rfl rfl (htx _ kw_1_1) (htx _ kw_2_16) ⟨by decide, by decide, by decide +kernel⟩ ⟨Nat.le_of_ble_eq_true rfl, Nat.le_of_ble_eq_true rfl⟩, htx _ kw_2_17⟩ ⟨xPre_blind, (fun U hU hW => ⟨rfl, xPre_of hZ hS hFc hPc hDc hK U hU hW⟩)⟩ rfl rfl hl.1 rfl (lv_room (Nat.le_of_ble_eq_true rfl)) dB_one_17 ⟨Nat.le_of_ble_eq_true rfl, Nat.le_of_ble_eq_true rfl⟩) hS (fun q _ h => hFc q h) hFc (fun r3 u9 t H1 locs ht hvm hr9 hB hz1 hk1 hS => ?_)
  obtain ⟨hP1, hK1, hD1⟩ := hB
  rw [ht] at hP1
  obtain ⟨hP, hD⟩ := xjoin (W := [(a0, .inr (0, [v18, v19, .ref a6, .ref a2, .ref b20, .ref a1, v21, v22])), (a1, .inr (2, [.ref a5, v23, v24])), (a2, .inl (cT 3, 8, .inr (.inr (.inr (.inr f25))))), (a3, .inr (2, [.ref a4, .int 1, v29])), (a4, .inl (cT 2, 4096, .inr (.inl f30))), (a5, .inl (cT 2, 4096, .inr (.inl f32))), (a6, .inr (1, [.ref a7, v33, v34])), (a7, .inl (cT 0, 4096, .inl f35))]) hP hD [] [0, 1, 2, 3, 4, 5, 6, 7] 8 rfl rfl (by decide) (by decide) hk1 hFc hP1 hD1
  generalize H1 = H at hP hS ⊢
  rw [hr9]
  refine W.eq (g2 := F0 m 20 ls [.int 1]) rfl ?_
  refine lv_if_eq (tgt := 27) hx hb dB_one_20 (by decide) (fun h => ((by revert h; decide : False)).elim) (fun _ => ?_)
  refine lv_iconst (v := 1) hx hb dB_one_23 (by decide) ?_
  refine lv_goto (tgt := 28) hx hb dB_one_24 (by decide) ?_
  obtain ⟨hPc, hDc, hFc⟩ := xcut (wc := []) hP hD hS hA [] rfl rfl (by decide)
  refine va_callv (va_runS (As := [.int 1]) (rest := []) ⟨hx, hb, hml, hown, htx⟩ (cB_demand_0 l hl9 D cT aK aV H.size) ⟨callB_of 1 htx (xw_goodC kw_1_221) rfl rfl rfl (htx _ kw_1_1) (htx _ kw_1_219) ⟨by decide, by decide, by decide +kernel⟩ ⟨Nat.le_of_ble_eq_true rfl, Nat.le_of_ble_eq_true rfl⟩, htx _ kw_1_220⟩ ⟨xPre_blind, (fun U hU hW => ⟨rfl, xPre_of hZ hS hFc hPc hDc hK U hU hW⟩)⟩ rfl rfl hl.1 rfl (lv_room (Nat.le_of_ble_eq_true rfl)) dB_one_28 ⟨Nat.le_of_ble_eq_true rfl, Nat.le_of_ble_eq_true rfl⟩) hS (fun q _ h => hFc q h) hFc (fun u9 t H1 locs ht hvm hr9 hB hz1 hk1 hS => ?_)
  obtain ⟨hP1, hK1, hD1⟩ := hB
  rw [ht] at hP1
  obtain ⟨hP, hD⟩ := xjoin (W := [(a0, .inr (0, [v18, v19, .ref a6, .ref a2, .ref b20, .ref a1, v21, v22])), (a1, .inr (2, [.ref a5, v23, v24])), (a2, .inl (cT 3, 8, .inr (.inr (.inr (.inr f25))))), (a3, .inr (2, [.ref a4, .int 1, v29])), (a4, .inl (cT 2, 4096, .inr (.inl f30))), (a5, .inl (cT 2, 4096, .inr (.inl f32))), (a6, .inr (1, [.ref a7, v33, v34])), (a7, .inl (cT 0, 4096, .inl f35))]) hP hD [] [0, 1, 2, 3, 4, 5, 6, 7] 8 rfl rfl (by decide) (by decide) hk1 hFc hP1 hD1
  generalize H1 = H at hP hS ⊢
  refine lv_aload_n hx hb dB_one_31 rfl (lv_at hl 0 rfl) ?_
  refine va_get (D := D) (ci := 0) (v := .ref a1) (C := "ValueBench") (T := TB) (N := 8) hx hb htx inB hown hK hP 0 rfl rfl 5 (by decide) (htx _ kw_1_100) (fun _ h9 => h9) rfl dB_one_32 ?_
  obtain ⟨hPc, hDc, hFc⟩ := xcut (wc := [(a1, .inr (2, [.ref a5, v23, v24]))]) hP hD hS hA [1] rfl rfl (by decide)
  refine va_callv (va_runV (C := "ValueBench$Row") (As := []) (rest := []) ⟨hx, hb, hml, hown, htx⟩ (cR_clear_0 l hl9 D cT aK aV H.size a1 (.ref a5) v23 v24) ⟨callB_of 0 htx (xw_goodC kw_2_22) rfl rfl rfl (htx _ kw_1_4) (htx _ kw_2_19) ⟨by decide, by decide, by decide +kernel⟩ ⟨Nat.le_of_ble_eq_true rfl, Nat.le_of_ble_eq_true rfl⟩, (htx _ kw_2_20), (htx _ kw_2_21)⟩ ⟨xPre_blind, va_recv hK hP (ci := 2) rfl (q0 := 1) rfl, (fun U hU hW => ⟨rfl, xPre_of hZ hS hFc hPc hDc hK U hU hW⟩)⟩ rfl rfl hl.1 rfl (lv_room (Nat.le_of_ble_eq_true rfl)) dB_one_35 ⟨Nat.le_of_ble_eq_true rfl, Nat.le_of_ble_eq_true rfl⟩) hS (fun q _ h => hFc q h) hFc (fun u9 t H1 locs ht hvm hr9 hB hz1 hk1 hS => ?_)
  obtain ⟨hP1, hK1, hD1⟩ := hB
  rw [ht] at hP1
  obtain ⟨hP, hD⟩ := xjoin (W := [(a0, .inr (0, [v18, v19, .ref a6, .ref a2, .ref b20, .ref a1, v21, v22])), (a2, .inl (cT 3, 8, .inr (.inr (.inr (.inr f25))))), (a3, .inr (2, [.ref a4, .int 1, v29])), (a4, .inl (cT 2, 4096, .inr (.inl f30))), (a5, .inl (cT 2, 4096, .inr (.inl f32))), (a6, .inr (1, [.ref a7, v33, v34])), (a7, .inl (cT 0, 4096, .inl f35)), (a1, .inr (2, [.ref a5, .int 0, .int 0]))]) hP hD [1] [0, 2, 3, 4, 5, 6, 7] 7 rfl rfl (by decide) (by decide) hk1 hFc hP1 hD1
  generalize H1 = H at hP hS ⊢
  refine lv_aload_n hx hb dB_one_38 rfl (lv_at hl 0 rfl) ?_
  refine lv_iload_n hx hb dB_one_39 rfl (lv_at hl 2 rfl) ?_
  refine lv_aload_n hx hb dB_one_40 rfl (lv_at hl 0 rfl) ?_
  refine va_get (D := D) (ci := 0) (v := .ref a2) (C := "ValueBench") (T := TB) (N := 8) hx hb htx inB hown hK hP 0 rfl rfl 3 (by decide) (htx _ kw_1_98) (fun _ h9 => h9) rfl dB_one_41 ?_
  refine lv_iload_n hx hb dB_one_44 rfl (lv_at hl 3 rfl) ?_
  refine va_aldq hx hb hK hP 1 3 rfl rfl h17 dB_one_45 ?_
  refine W.eq (g2 := F0 m 46 ls [va_rf (f25 x13.toNatClampNeg), .int 9, .ref a0]) rfl ?_
  rw [h26]
  refine W.eq (g2 := F0 m 46 ls [.ref a3, .int 9, .ref a0]) rfl ?_
  refine lv_aload_n hx hb dB_one_46 rfl (lv_at hl 0 rfl) ?_
  refine va_get (D := D) (ci := 0) (v := .ref a6) (C := "ValueBench") (T := TB) (N := 8) hx hb htx inB hown hK hP 0 rfl rfl 2 (by decide) (htx _ kw_1_97) (fun _ h9 => h9) rfl dB_one_47 ?_
  refine lv_aload_n hx hb dB_one_50 rfl (lv_at hl 0 rfl) ?_
  refine va_get (D := D) (ci := 0) (v := .ref b20) (C := "ValueBench") (T := TB) (N := 8) hx hb htx inB hown hK hP 0 rfl rfl 4 (by decide) (htx _ kw_1_99) (fun _ h9 => h9) rfl dB_one_51 ?_
  refine lv_aload_n hx hb dB_one_54 rfl (lv_at hl 0 rfl) ?_
  refine va_get (D := D) (ci := 0) (v := .ref a1) (C := "ValueBench") (T := TB) (N := 8) hx hb htx inB hown hK hP 0 rfl rfl 5 (by decide) (htx _ kw_1_100) (fun _ h9 => h9) rfl dB_one_55 ?_
  obtain ⟨hPc, hDc, hFc⟩ := xcut (wc := [(a3, .inr (2, [.ref a4, .int 1, v29])), (a4, .inl (cT 2, 4096, .inr (.inl f30))), (a1, .inr (2, [.ref a5, .int 0, .int 0])), (a5, .inl (cT 2, 4096, .inr (.inl f32)))]) hP hD hS hA [2, 3, 7, 4] rfl rfl (by decide)
  refine va_calli (va_runS (As := [.int 9, .ref a3, .ref a6, .ref b20, .ref a1]) (rest := [.ref a0]) ⟨hx, hb, hml, hown, htx⟩ (cG_apply_9 l hl9 D cT aK aV H.size a3 a4 a1 a5 a6 b20 v29 f30 f32 (by first | rfl | exact h26 | exact h28 | exact h31)) ⟨callB_of 5 htx (xw_goodC kw_4_28) rfl rfl rfl (htx _ kw_1_26) (htx _ kw_4_26) ⟨by decide, by decide, by decide +kernel⟩ ⟨Nat.le_of_ble_eq_true rfl, Nat.le_of_ble_eq_true rfl⟩, htx _ kw_4_27⟩ ⟨xPre_blind, (fun U hU hW => ⟨rfl, xPre_of hZ hS hFc hPc hDc hK U hU hW⟩)⟩ rfl rfl hl.1 rfl (lv_room (Nat.le_of_ble_eq_true rfl)) dB_one_58 ⟨Nat.le_of_ble_eq_true rfl, Nat.le_of_ble_eq_true rfl⟩) hS (fun q _ h => hFc q h) hFc (fun r4 u9 t H1 locs ht hvm hr9 hB hz1 hk1 hS => ?_)
  obtain ⟨hP1, hK1, hD1⟩ := hB
  rw [ht] at hP1
  obtain ⟨hP, hD⟩ := xjoin (W := [(a0, .inr (0, [v18, v19, .ref a6, .ref a2, .ref b20, .ref a1, v21, v22])), (a2, .inl (cT 3, 8, .inr (.inr (.inr (.inr f25))))), (a6, .inr (1, [.ref a7, v33, v34])), (a7, .inl (cT 0, 4096, .inl f35)), (a3, .inr (2, [.ref a4, .int 1, v29])), (a4, .inl (cT 2, 4096, .inr (.inl f30))), (a1, .inr (2, [.ref a5, .int 1, .int 0])), (a5, .inl (cT 2, 4096, .inr (.inl (vp_updL (vp_updL f32 0 0) 0 524293))))]) hP hD [2, 3, 7, 4] [0, 1, 5, 6] 4 rfl rfl (by decide) (by decide) hk1 hFc hP1 hD1
  generalize H1 = H at hP hS ⊢
  rw [hr9]
  refine W.eq (g2 := F0 m 61 ls [.int 0, .ref a0]) rfl ?_
  obtain ⟨hPc, hDc, hFc⟩ := xcut (wc := []) hP hD hS hA [] rfl rfl (by decide)
  refine va_callv (va_runV (C := "ValueBench") (As := [.int 0]) (rest := []) ⟨hx, hb, hml, hown, htx⟩ (cB_demandDone_0 l hl9 D cT aK aV H.size a0) ⟨callB_of 1 htx (xw_goodC kw_3_222) rfl rfl rfl (htx _ kw_1_1) (htx _ kw_3_219) ⟨by decide, by decide, by decide +kernel⟩ ⟨Nat.le_of_ble_eq_true rfl, Nat.le_of_ble_eq_true rfl⟩, (htx _ kw_3_221), (htx _ kp_B_demandDone)⟩ ⟨xPre_blind, va_recv hK hP (ci := 0) rfl (q0 := 0) rfl, (fun U hU hW => ⟨rfl, xPre_of hZ hS hFc hPc hDc hK U hU hW⟩)⟩ rfl rfl hl.1 rfl (lv_room (Nat.le_of_ble_eq_true rfl)) dB_one_61 ⟨Nat.le_of_ble_eq_true rfl, Nat.le_of_ble_eq_true rfl⟩) hS (fun q _ h => hFc q h) hFc (fun u9 t H1 locs ht hvm hr9 hB hz1 hk1 hS => ?_)
  obtain ⟨hP1, hK1, hD1⟩ := hB
  rw [ht] at hP1
  obtain ⟨hP, hD⟩ := xjoin (W := [(a0, .inr (0, [v18, v19, .ref a6, .ref a2, .ref b20, .ref a1, v21, v22])), (a2, .inl (cT 3, 8, .inr (.inr (.inr (.inr f25))))), (a6, .inr (1, [.ref a7, v33, v34])), (a7, .inl (cT 0, 4096, .inl f35)), (a3, .inr (2, [.ref a4, .int 1, v29])), (a4, .inl (cT 2, 4096, .inr (.inl f30))), (a1, .inr (2, [.ref a5, .int 1, .int 0])), (a5, .inl (cT 2, 4096, .inr (.inl (vp_updL (vp_updL f32 0 0) 0 524293))))]) hP hD [] [0, 1, 2, 3, 4, 5, 6, 7] 8 rfl rfl (by decide) (by decide) hk1 hFc hP1 hD1
  generalize H1 = H at hP hS ⊢
  refine lv_aload_n hx hb dB_one_64 rfl (lv_at hl 0 rfl) ?_
  refine lv_iload_n hx hb dB_one_65 rfl (lv_at hl 1 rfl) ?_
  obtain ⟨hPc, hDc, hFc⟩ := xcut (wc := [(a0, .inr (0, [v18, v19, .ref a6, .ref a2, .ref b20, .ref a1, v21, v22])), (a6, .inr (1, [.ref a7, v33, v34])), (a1, .inr (2, [.ref a5, .int 1, .int 0])), (a5, .inl (cT 2, 4096, .inr (.inl (vp_updL (vp_updL f32 0 0) 0 524293)))), (a7, .inl (cT 0, 4096, .inl f35)), (a2, .inl (cT 3, 8, .inr (.inr (.inr (.inr f25)))))]) hP hD hS hA [0, 2, 6, 7, 3, 1] rfl rfl (by decide)
  refine va_calli (va_runV (C := "ValueBench") (As := [.int x8]) (rest := []) ⟨hx, hb, hml, hown, htx⟩ (cB_keepSpare_3 l hl9 D cT aK aV H.size a0 a6 a1 a5 a7 a2 x8 v18 v19 (.ref b20) v21 v22 v33 v34 (vp_updL (vp_updL f32 0 0) 0 524293) f35 f25 b27 h9 h10 h11 h12 (by first | rfl | exact h26 | exact h28 | exact h31) (by first | rfl | exact h26 | exact h28 | exact h31)) ⟨callB_of 1 htx (xw_goodC kw_3_17) rfl rfl rfl (htx _ kw_1_1) (htx _ kw_3_14) ⟨by decide, by decide, by decide +kernel⟩ ⟨Nat.le_of_ble_eq_true rfl, Nat.le_of_ble_eq_true rfl⟩, (htx _ kw_3_16), (htx _ kp_B_keepSpare)⟩ ⟨xPre_blind, va_recv hK hP (ci := 0) rfl (q0 := 0) rfl, (fun U hU hW => ⟨rfl, xPre_of hZ hS hFc hPc hDc hK U hU hW⟩)⟩ rfl rfl hl.1 rfl (lv_room (Nat.le_of_ble_eq_true rfl)) dB_one_66 ⟨Nat.le_of_ble_eq_true rfl, Nat.le_of_ble_eq_true rfl⟩) hS (fun q _ h => hFc q h) hFc (fun r5 u9 t H1 locs ht hvm hr9 hB hz1 hk1 hS => ?_)
  obtain ⟨y6, y7, hP1, hK1, hD1⟩ := hB
  rw [ht] at hP1
  obtain ⟨hP, hD⟩ := xjoin (W := [(a3, .inr (2, [.ref a4, .int 1, v29])), (a4, .inl (cT 2, 4096, .inr (.inl f30))), (a0, .inr (0, [v18, v19, .ref a6, .ref a2, .ref b20, .ref b27, v21, v22])), (a6, .inr (1, [.ref a7, .int 2, .int 0])), (a1, .inr (2, [.ref a5, .int 1, .int 0])), (a5, .inl (cT 2, 4096, .inr (.inl (vp_updL (vp_updL f32 0 0) 0 524293)))), (a7, .inl (cT 0, 4096, .inl (upd (upd f35 0 (vp_nar .byte y6)) 1 (vp_nar .byte y7)))), (a2, .inl (cT 3, 8, .inr (.inr (.inr (.inr (va_up f25 x8.toNatClampNeg (some a1)))))))]) hP hD [0, 2, 6, 7, 3, 1] [4, 5] 2 rfl rfl (by decide) (by decide) hk1 hFc hP1 hD1
  generalize H1 = H at hP hS ⊢
  rw [hr9]
  refine W.eq (g2 := F0 m 69 ls [.int 2]) rfl ?_
  refine lv_pop hx hb dB_one_69 rfl ?_
  obtain ⟨hP9, hD9⟩ := xsub (wc := [(a0, .inr (0, [v18, v19, .ref a6, .ref a2, .ref b20, .ref b27, v21, v22])), (a1, .inr (2, [.ref a5, .int 1, .int 0])), (a2, .inl (cT 3, 8, .inr (.inr (.inr (.inr (va_up f25 x8.toNatClampNeg (some a1))))))), (a3, .inr (2, [.ref a4, .int 1, v29])), (a4, .inl (cT 2, 4096, .inr (.inl f30))), (a5, .inl (cT 2, 4096, .inr (.inl (vp_updL (vp_updL f32 0 0) 0 524293)))), (a6, .inr (1, [.ref a7, .int 2, .int 0])), (a7, .inl (cT 0, 4096, .inl (upd (upd f35 0 (vp_nar .byte y6)) 1 (vp_nar .byte y7))))]) hP hD [2, 4, 7, 0, 1, 5, 3, 6] rfl rfl (by decide)
  refine W.widen (k := 0) (n := 0) (Nat.le_of_ble_eq_true rfl) (Nat.le_of_ble_eq_true rfl) ?_
  exact W.vret hx hb hr (fun t ht hW => ⟨⟨(), rfl, trivial, y6, y7, by rw [ht]; exact hP9, va_K.moved hW.alike hK, hD9⟩, hS.F ht⟩) hS.2.2 dB_one_70
set_option maxHeartbeats 400000000 in
set_option maxRecDepth 100000 in
theorem cL_one_9 (l : Launch) (hl9 : l.stackTraces = false) (D : va_G) (cT : Nat → ClassId) (aK aV : Nat → Nat) (sz : Nat) (a0 : Nat) (a1 : Nat) (a2 : Nat) (a3 : Nat) (a4 : Nat) (a5 : Nat) (a6 : Nat) (a7 : Nat) (x8 : Int32) (x13 : Int32) (v18 : Value) (v19 : Value) (b20 : Nat) (v21 : Value) (v22 : Value) (v23 : Value) (v24 : Value) (f25 : Nat → Option Nat) (b27 : Nat) (v29 : Value) (f30 : Nat → Int64) (f32 : Nat → Int64) (v33 : Value) (v34 : Value) (f35 : Nat → Int32) (h9 : ¬ x8 < 0) (h10 : ¬ 7 < x8) (h11 : x8 ≤ 7) (h12 : vp_in x8 8) (h14 : ¬ x13 < 0) (h15 : ¬ 7 < x13) (h16 : x13 ≤ 7) (h17 : vp_in x13 8) (h26 : f25 x13.toNatClampNeg = some a3) (h28 : f25 x8.toNatClampNeg = some b27) (h31 : f30 0 = 0) : xMet l yL_one wyL_one 6 0 0 137 D cT aK aV sz [.ref a0, .int x8, .int 9, .int x13] [(a0, .inr (0, [v18, v19, .ref a6, .ref a2, .ref b20, .ref a1, v21, v22])), (a1, .inr (2, [.ref a5, v23, v24])), (a2, .inl (cT 3, 8, .inr (.inr (.inr (.inr f25))))), (a3, .inr (2, [.ref a4, .int 1, v29])), (a4, .inl (cT 2, 4096, .inr (.inl f30))), (a5, .inl (cT 2, 4096, .inr (.inl f32))), (a6, .inr (1, [.ref a7, v33, v34])), (a7, .inl (cT 0, 4096, .inl f35))] (fun A => va_Qi (fun (r : Int32) (_ : Unit) => r = 0) (fun _ t => ∃ (y1 : Int32) (y2 : Int32), xB D xcl cT A [(a0, .inr (0, [v18, v19, .ref a6, .ref a2, .ref b20, .ref a1, v21, v22])), (a1, .inr (2, [.ref a5, .int 1, .int 0])), (a2, .inl (cT 3, 8, .inr (.inr (.inr (.inr (va_up f25 x8.toNatClampNeg (some a1))))))), (a3, .inr (2, [.ref a4, .int 1, v29])), (a4, .inl (cT 2, 4096, .inr (.inl f30))), (a5, .inl (cT 2, 4096, .inr (.inl (vp_updL (vp_updL f32 0 0) 0 524293)))), (a6, .inr (1, [.ref a7, .int 2, .int 0])), (a7, .inl (cT 0, 4096, .inl (upd (upd f35 0 (vp_nar .byte y1)) 1 (vp_nar .byte y2))))] t) A) := by
  refine va_MetW (cc := method_10_code) (maxL := 5) (ret := (some .int)) (hh := [(0, 7, 10, 19), (0, 7, 14, 33), (0, 7, 18, 13)]) (by decide) rfl ?_
  intro p e s m args below meth c s₁ B hml hv
  obtain ⟨rfl, hsz, hZ, hP, hK, hD0⟩ := hv
  have hx := B.exec
  have hb := B.bytes
  have hr := B.returns
  have hts := atoms_spec (ws := wyL_one) B.pre
  have htx := fun w h => hts w (List.mem_cons_of_mem _ h)
  have hown : s.vm.findClass "ValueBenchLaw" = some m.cls := findClass_of_methodNamed B.named
  have hlocks := B.notSynchronized
  subst hsz
  have hD := hD0.self (sz := s.heap.size)
  generalize hAe : va_A [(a0, .inr (0, [v18, v19, .ref a6, .ref a2, .ref b20, .ref a1, v21, v22])), (a1, .inr (2, [.ref a5, v23, v24])), (a2, .inl (cT 3, 8, .inr (.inr (.inr (.inr f25))))), (a3, .inr (2, [.ref a4, .int 1, v29])), (a4, .inl (cT 2, 4096, .inr (.inl f30))), (a5, .inl (cT 2, 4096, .inr (.inl f32))), (a6, .inr (1, [.ref a7, v33, v34])), (a7, .inl (cT 0, 4096, .inl f35))] s.heap.size = A at hD hZ ⊢
  have hA : ∀ q : Nat, s.heap.size ≤ q → A q := fun q h => by rw [← hAe]; exact Or.inr h
  have hS : va_S A s.heap s.heap [] := va_S.rf
  have hP : va_P D xcl [(a0, .inr (0, [v18, v19, .ref a6, .ref a2, .ref b20, .ref a1, v21, v22])), (a1, .inr (2, [.ref a5, v23, v24])), (a2, .inl (cT 3, 8, .inr (.inr (.inr (.inr f25))))), (a3, .inr (2, [.ref a4, .int 1, v29])), (a4, .inl (cT 2, 4096, .inr (.inl f30))), (a5, .inl (cT 2, 4096, .inr (.inl f32))), (a6, .inr (1, [.ref a7, v33, v34])), (a7, .inl (cT 0, 4096, .inl f35))] s.heap := hP
  have hl := lv_entry ([.ref a0, .int x8, .int 9, .int x13]) (n := 5) (Nat.le_of_ble_eq_true rfl)
  rw [lg_entry_eq]
  generalize (lg_sl ([.ref a0, .int x8, .int 9, .int x13]) ++ List.replicate (5 - (lg_sl ([.ref a0, .int x8, .int 9, .int x13])).length) Slot.unset).toArray = ls at hl ⊢
  have hl : lv_has ls 5 [(0, .ref a0), (1, .int x8), (2, .int 9), (3, .int x13)] := hl
  have htab := vx_table (x := yL_one) B (hts _ List.mem_cons_self)
  refine lv_aload_n hx hb dL_one_0 rfl (lv_at hl 0 rfl) ?_
  refine lv_iload_n hx hb dL_one_1 rfl (lv_at hl 1 rfl) ?_
  refine lv_iload_n hx hb dL_one_2 rfl (lv_at hl 2 rfl) ?_
  refine lv_iload_n hx hb dL_one_3 rfl (lv_at hl 3 rfl) ?_
  obtain ⟨hPc, hDc, hFc⟩ := xcut (wc := [(a0, .inr (0, [v18, v19, .ref a6, .ref a2, .ref b20, .ref a1, v21, v22])), (a1, .inr (2, [.ref a5, v23, v24])), (a2, .inl (cT 3, 8, .inr (.inr (.inr (.inr f25))))), (a3, .inr (2, [.ref a4, .int 1, v29])), (a4, .inl (cT 2, 4096, .inr (.inl f30))), (a5, .inl (cT 2, 4096, .inr (.inl f32))), (a6, .inr (1, [.ref a7, v33, v34])), (a7, .inl (cT 0, 4096, .inl f35))]) hP hD hS hA [0, 1, 2, 3, 4, 5, 6, 7] rfl rfl (by decide)
  refine va_callv (va_runV (C := "ValueBench") (As := [.int x8, .int 9, .int x13]) (rest := []) ⟨hx, hb, hml, hown, htx⟩ (cB_one_9 l hl9 D cT aK aV s.heap.size a0 a1 a2 a3 a4 a5 a6 a7 x8 x13 v18 v19 b20 v21 v22 v23 v24 f25 b27 v29 f30 f32 v33 v34 f35 h9 h10 h11 h12 h14 h15 h16 h17 (by first | rfl | exact h26 | exact h28 | exact h31) (by first | rfl | exact h26 | exact h28 | exact h31) (by first | rfl | exact h26 | exact h28 | exact h31)) ⟨callB_of 3 htx (xw_goodC kw_4_25) rfl rfl rfl (htx _ kw_1_1) (htx _ kw_4_22) ⟨by decide, by decide, by decide +kernel⟩ ⟨Nat.le_of_ble_eq_true rfl, Nat.le_of_ble_eq_true rfl⟩, (htx _ kw_4_23), (htx _ kw_4_24)⟩ ⟨xPre_blind, va_recv hK hP (ci := 0) rfl (q0 := 0) rfl, (fun U hU hW => ⟨rfl, xPre_of hZ hS hFc hPc hDc hK U hU hW⟩)⟩ rfl rfl hl.1 rfl (lv_room (Nat.le_of_ble_eq_true rfl)) dL_one_4 ⟨Nat.le_of_ble_eq_true rfl, Nat.le_of_ble_eq_true rfl⟩) hS (fun q _ h => hFc q h) hFc (fun u9 t H1 locs ht hvm hr9 hB hz1 hk1 hS => ?_)
  obtain ⟨y1, y2, hP1, hK1, hD1⟩ := hB
  rw [ht] at hP1
  obtain ⟨hP, hD⟩ := xjoin (W := [(a0, .inr (0, [v18, v19, .ref a6, .ref a2, .ref b20, .ref a1, v21, v22])), (a1, .inr (2, [.ref a5, .int 1, .int 0])), (a2, .inl (cT 3, 8, .inr (.inr (.inr (.inr (va_up f25 x8.toNatClampNeg (some a1))))))), (a3, .inr (2, [.ref a4, .int 1, v29])), (a4, .inl (cT 2, 4096, .inr (.inl f30))), (a5, .inl (cT 2, 4096, .inr (.inl (vp_updL (vp_updL f32 0 0) 0 524293)))), (a6, .inr (1, [.ref a7, .int 2, .int 0])), (a7, .inl (cT 0, 4096, .inl (upd (upd f35 0 (vp_nar .byte y1)) 1 (vp_nar .byte y2))))]) hP hD [0, 1, 2, 3, 4, 5, 6, 7] [] 0 rfl rfl (by decide) (by decide) hk1 hFc hP1 hD1
  generalize H1 = H at hP hS ⊢
  refine lv_goto (tgt := 22) hx hb dL_one_7 (by decide) ?_
  refine lv_iconst (v := 0) hx hb dL_one_22 (by decide) ?_
  obtain ⟨hP9, hD9⟩ := xsub (wc := [(a0, .inr (0, [v18, v19, .ref a6, .ref a2, .ref b20, .ref a1, v21, v22])), (a1, .inr (2, [.ref a5, .int 1, .int 0])), (a2, .inl (cT 3, 8, .inr (.inr (.inr (.inr (va_up f25 x8.toNatClampNeg (some a1))))))), (a3, .inr (2, [.ref a4, .int 1, v29])), (a4, .inl (cT 2, 4096, .inr (.inl f30))), (a5, .inl (cT 2, 4096, .inr (.inl (vp_updL (vp_updL f32 0 0) 0 524293)))), (a6, .inr (1, [.ref a7, .int 2, .int 0])), (a7, .inl (cT 0, 4096, .inl (upd (upd f35 0 (vp_nar .byte y1)) 1 (vp_nar .byte y2))))]) hP hD [0, 1, 2, 3, 4, 5, 6, 7] rfl rfl (by decide)
  refine W.widen (k := 0) (n := 0) (Nat.le_of_ble_eq_true rfl) (Nat.le_of_ble_eq_true rfl) ?_
  exact W.iret (v := 0) hx hb hr (fun t ht hW => ⟨⟨0, (), rfl, rfl, y1, y2, by rw [ht]; exact hP9, va_K.moved hW.alike hK, hD9⟩, hS.F ht⟩) hS.2.2 dL_one_23
set_option maxHeartbeats 400000000 in
set_option maxRecDepth 100000 in
theorem cB_isWithin_20 (l : Launch) (hl9 : l.stackTraces = false) (D : va_G) (cT : Nat → ClassId) (aK aV : Nat → Nat) (sz : Nat) : xMet l yB_isWithin wyB_isWithin 0 0 0 0 D cT aK aV sz [.int 10, .int 13] [] (fun A => va_Qi (fun (r : Int32) (_ : Unit) => r = 1) (fun _ t => xB D xcl cT A [] t) A) := by
  refine Met.ofW (cc := prog_1_method_15_code) (maxL := 2) (ret := (some .boolean)) (by decide) rfl ?_
  intro p e s m args below meth c s₁ B hml hv
  obtain ⟨rfl, hsz, hZ, hP, hK, hD0⟩ := hv
  have hx := B.exec
  have hb := B.bytes
  have hr := B.returns
  have hts := atoms_spec (ws := wyB_isWithin) B.pre
  have htx := fun w h => hts w (List.mem_cons_of_mem _ h)
  have hown : s.vm.findClass "ValueBench" = some m.cls := findClass_of_methodNamed B.named
  have hlocks := B.notSynchronized
  subst hsz
  have hD := hD0.self (sz := s.heap.size)
  generalize hAe : va_A [] s.heap.size = A at hD hZ ⊢
  have hA : ∀ q : Nat, s.heap.size ≤ q → A q := fun q h => by rw [← hAe]; exact Or.inr h
  have hS : va_S A s.heap s.heap [] := va_S.rf
  have hP : va_P D xcl [] s.heap := hP
  have hl := lv_entry ([.int 10, .int 13]) (n := 2) (Nat.le_of_ble_eq_true rfl)
  rw [lg_entry_eq]
  generalize (lg_sl ([.int 10, .int 13]) ++ List.replicate (2 - (lg_sl ([.int 10, .int 13])).length) Slot.unset).toArray = ls at hl ⊢
  have hl : lv_has ls 2 [(0, .int 10), (1, .int 13)] := hl
  refine lv_iload_n hx hb dB_isWithin_0 rfl (lv_at hl 0 rfl) ?_
  refine lv_if_lt (tgt := 13) hx hb dB_isWithin_1 (by decide) (fun h => ((by revert h; decide : False)).elim) (fun _ => ?_)
  refine lv_iload_n hx hb dB_isWithin_4 rfl (lv_at hl 0 rfl) ?_
  refine lv_iload_n hx hb dB_isWithin_5 rfl (lv_at hl 1 rfl) ?_
  refine lv_icmp_gt (tgt := 13) hx hb dB_isWithin_6 (by decide) (fun h => ((by revert h; decide : False)).elim) (fun _ => ?_)
  refine lv_iconst (v := 1) hx hb dB_isWithin_9 (by decide) ?_
  refine lv_goto (tgt := 14) hx hb dB_isWithin_10 (by decide) ?_
  obtain ⟨hP9, hD9⟩ := xsub (wc := []) hP hD [] rfl rfl (by decide)
  refine W.widen (k := 0) (n := 0) (Nat.le_of_ble_eq_true rfl) (Nat.le_of_ble_eq_true rfl) ?_
  exact W.zret (v := 1) hx hb hr rfl (fun t ht hW => ⟨⟨1, (), rfl, rfl, by rw [ht]; exact hP9, va_K.moved hW.alike hK, hD9⟩, hS.F ht⟩) hS.2.2 dB_isWithin_14
set_option maxHeartbeats 400000000 in
set_option maxRecDepth 100000 in
theorem cG_codes_0 (l : Launch) (hl9 : l.stackTraces = false) (D : va_G) (cT : Nat → ClassId) (aK aV : Nat → Nat) (sz : Nat) (a0 : Nat) (a1 : Nat) (b2 : Nat) (v3 : Value) (f4 : Nat → Int64) (h5 : f4 0 = 0) : xMet l yG_codes wyG_codes 2 0 0 43 D cT aK aV sz [.ref a0, .ref b2] [(a0, .inr (2, [.ref a1, .int 1, v3])), (a1, .inl (cT 2, 4096, .inr (.inl f4)))] (fun A => va_Qi (fun (r : Int32) (_ : Unit) => r = 1) (fun _ t => xB D xcl cT A [(a0, .inr (2, [.ref a1, .int 1, v3])), (a1, .inl (cT 2, 4096, .inr (.inl f4)))] t) A) := by
  refine Met.ofW (cc := prog_9_method_14_code) (maxL := 4) (ret := (some .int)) (by decide) rfl ?_
  intro p e s m args below meth c s₁ B hml hv
  obtain ⟨rfl, hsz, hZ, hP, hK, hD0⟩ := hv
  have hx := B.exec
  have hb := B.bytes
  have hr := B.returns
  have hts := atoms_spec (ws := wyG_codes) B.pre
  have htx := fun w h => hts w (List.mem_cons_of_mem _ h)
  have hown : s.vm.findClass "ValueBench$Singles" = some m.cls := findClass_of_methodNamed B.named
  have hlocks := B.notSynchronized
  subst hsz
  have hD := hD0.self (sz := s.heap.size)
  generalize hAe : va_A [(a0, .inr (2, [.ref a1, .int 1, v3])), (a1, .inl (cT 2, 4096, .inr (.inl f4)))] s.heap.size = A at hD hZ ⊢
  have hA : ∀ q : Nat, s.heap.size ≤ q → A q := fun q h => by rw [← hAe]; exact Or.inr h
  have hS : va_S A s.heap s.heap [] := va_S.rf
  have hP : va_P D xcl [(a0, .inr (2, [.ref a1, .int 1, v3])), (a1, .inl (cT 2, 4096, .inr (.inl f4)))] s.heap := hP
  have hl := lv_entry ([.ref a0, .ref b2]) (n := 4) (Nat.le_of_ble_eq_true rfl)
  rw [lg_entry_eq]
  generalize (lg_sl ([.ref a0, .ref b2]) ++ List.replicate (4 - (lg_sl ([.ref a0, .ref b2])).length) Slot.unset).toArray = ls at hl ⊢
  have hl : lv_has ls 4 [(0, .ref a0), (1, .ref b2)] := hl
  refine lv_aload_n hx hb dG_codes_0 rfl (lv_at hl 0 rfl) ?_
  refine lv_iconst (v := 0) hx hb dG_codes_1 (by decide) ?_
  refine lv_iconst (v := 4) hx hb dG_codes_2 (by decide) ?_
  obtain ⟨hPc, hDc, hFc⟩ := xcut (wc := [(a0, .inr (2, [.ref a1, .int 1, v3])), (a1, .inl (cT 2, 4096, .inr (.inl f4)))]) hP hD hS hA [0, 1] rfl rfl (by decide)
  refine va_calli (va_runV (C := "ValueBench$Row") (As := [.int 0, .int 4]) (rest := []) ⟨hx, hb, hml, hown, htx⟩ (cR_is_3 l hl9 D cT aK aV s.heap.size a0 a1 v3 f4 (by first | rfl | exact h5)) ⟨callB_of 2 htx (xw_goodC kw_3_75) rfl rfl rfl (htx _ kw_1_4) (htx _ kw_4_29) ⟨by decide, by decide, by decide +kernel⟩ ⟨Nat.le_of_ble_eq_true rfl, Nat.le_of_ble_eq_true rfl⟩, (htx _ kw_3_73), (htx _ kw_3_74)⟩ ⟨xPre_blind, va_recv hK hP (ci := 2) rfl (q0 := 0) rfl, (fun U hU hW => ⟨rfl, xPre_of hZ hS hFc hPc hDc hK U hU hW⟩)⟩ rfl rfl hl.1 rfl (lv_room (Nat.le_of_ble_eq_true rfl)) dG_codes_3 ⟨Nat.le_of_ble_eq_true rfl, Nat.le_of_ble_eq_true rfl⟩) hS (fun q _ h => hFc q h) hFc (fun r1 u9 t H1 locs ht hvm hr9 hB hz1 hk1 hS => ?_)
  obtain ⟨hP1, hK1, hD1⟩ := hB
  rw [ht] at hP1
  obtain ⟨hP, hD⟩ := xjoin (W := [(a0, .inr (2, [.ref a1, .int 1, v3])), (a1, .inl (cT 2, 4096, .inr (.inl f4)))]) hP hD [0, 1] [] 0 rfl rfl (by decide) (by decide) hk1 hFc hP1 hD1
  generalize H1 = H at hP hS ⊢
  rw [hr9]
  refine W.eq (g2 := F0 m 6 ls [.int 0]) rfl ?_
  refine lv_if_ne (tgt := 11) hx hb dG_codes_6 (by decide) (fun h => ((by revert h; decide : False)).elim) (fun _ => ?_)
  refine lv_iconst (v := 1) hx hb dG_codes_9 (by decide) ?_
  obtain ⟨hP9, hD9⟩ := xsub (wc := [(a0, .inr (2, [.ref a1, .int 1, v3])), (a1, .inl (cT 2, 4096, .inr (.inl f4)))]) hP hD [0, 1] rfl rfl (by decide)
  refine W.widen (k := 0) (n := 0) (Nat.le_of_ble_eq_true rfl) (Nat.le_of_ble_eq_true rfl) ?_
  exact W.iret (v := 1) hx hb hr (fun t ht hW => ⟨⟨1, (), rfl, rfl, by rw [ht]; exact hP9, va_K.moved hW.alike hK, hD9⟩, hS.F ht⟩) hS.2.2 dG_codes_10
set_option maxHeartbeats 400000000 in
set_option maxRecDepth 100000 in
theorem cG_apply_10 (l : Launch) (hl9 : l.stackTraces = false) (D : va_G) (cT : Nat → ClassId) (aK aV : Nat → Nat) (sz : Nat) (a0 : Nat) (a1 : Nat) (b2 : Nat) (b3 : Nat) (b4 : Nat) (v5 : Value) (f6 : Nat → Int64) (h7 : f6 0 = 0) : xMet l yG_apply wyG_apply 3 0 0 66 D cT aK aV sz [.int 10, .ref a0, .ref b2, .ref b3, .ref b4] [(a0, .inr (2, [.ref a1, .int 1, v5])), (a1, .inl (cT 2, 4096, .inr (.inl f6)))] (fun A => va_Qi (fun (r : Int32) (_ : Unit) => r = 1) (fun _ t => xB D xcl cT A [(a0, .inr (2, [.ref a1, .int 1, v5])), (a1, .inl (cT 2, 4096, .inr (.inl f6)))] t) A) := by
  refine Met.ofW (cc := prog_9_method_2_code) (maxL := 5) (ret := (some .int)) (by decide) rfl ?_
  intro p e s m args below meth c s₁ B hml hv
  obtain ⟨rfl, hsz, hZ, hP, hK, hD0⟩ := hv
  have hx := B.exec
  have hb := B.bytes
  have hr := B.returns
  have hts := atoms_spec (ws := wyG_apply) B.pre
  have htx := fun w h => hts w (List.mem_cons_of_mem _ h)
  have hown : s.vm.findClass "ValueBench$Singles" = some m.cls := findClass_of_methodNamed B.named
  have hlocks := B.notSynchronized
  subst hsz
  have hD := hD0.self (sz := s.heap.size)
  generalize hAe : va_A [(a0, .inr (2, [.ref a1, .int 1, v5])), (a1, .inl (cT 2, 4096, .inr (.inl f6)))] s.heap.size = A at hD hZ ⊢
  have hA : ∀ q : Nat, s.heap.size ≤ q → A q := fun q h => by rw [← hAe]; exact Or.inr h
  have hS : va_S A s.heap s.heap [] := va_S.rf
  have hP : va_P D xcl [(a0, .inr (2, [.ref a1, .int 1, v5])), (a1, .inl (cT 2, 4096, .inr (.inl f6)))] s.heap := hP
  have hl := lv_entry ([.int 10, .ref a0, .ref b2, .ref b3, .ref b4]) (n := 5) (Nat.le_of_ble_eq_true rfl)
  rw [lg_entry_eq]
  generalize (lg_sl ([.int 10, .ref a0, .ref b2, .ref b3, .ref b4]) ++ List.replicate (5 - (lg_sl ([.int 10, .ref a0, .ref b2, .ref b3, .ref b4])).length) Slot.unset).toArray = ls at hl ⊢
  have hl : lv_has ls 5 [(0, .int 10), (1, .ref a0), (2, .ref b2), (3, .ref b3), (4, .ref b4)] := hl
  refine lv_iload_n hx hb dG_apply_0 rfl (lv_at hl 0 rfl) ?_
  refine lv_tableIn (off := 217) (tgt := 218) hx hb dG_apply_1 (by decide) (by decide) (by decide) (by decide) ?_
  refine lv_aload_n hx hb dG_apply_218 rfl (lv_at hl 1 rfl) ?_
  refine lv_aload hx hb dG_apply_219 (lv_at hl 4 rfl) ?_
  obtain ⟨hPc, hDc, hFc⟩ := xcut (wc := [(a0, .inr (2, [.ref a1, .int 1, v5])), (a1, .inl (cT 2, 4096, .inr (.inl f6)))]) hP hD hS hA [0, 1] rfl rfl (by decide)
  refine va_calli (va_runS (As := [.ref a0, .ref b4]) (rest := []) ⟨hx, hb, hml, hown, htx⟩ (cG_codes_0 l hl9 D cT aK aV s.heap.size a0 a1 b4 v5 f6 (by first | rfl | exact h7)) ⟨callB_of 2 htx (xw_goodC kw_4_126) rfl rfl rfl (htx _ kw_1_26) (htx _ kw_4_124) ⟨by decide, by decide, by decide +kernel⟩ ⟨Nat.le_of_ble_eq_true rfl, Nat.le_of_ble_eq_true rfl⟩, htx _ kw_4_125⟩ ⟨xPre_blind, (fun U hU hW => ⟨rfl, xPre_of hZ hS hFc hPc hDc hK U hU hW⟩)⟩ rfl rfl hl.1 rfl (lv_room (Nat.le_of_ble_eq_true rfl)) dG_apply_221 ⟨Nat.le_of_ble_eq_true rfl, Nat.le_of_ble_eq_true rfl⟩) hS (fun q _ h => hFc q h) hFc (fun r1 u9 t H1 locs ht hvm hr9 hB hz1 hk1 hS => ?_)
  obtain ⟨hP1, hK1, hD1⟩ := hB
  rw [ht] at hP1
  obtain ⟨hP, hD⟩ := xjoin (W := [(a0, .inr (2, [.ref a1, .int 1, v5])), (a1, .inl (cT 2, 4096, .inr (.inl f6)))]) hP hD [0, 1] [] 0 rfl rfl (by decide) (by decide) hk1 hFc hP1 hD1
  generalize H1 = H at hP hS ⊢
  rw [hr9]
  refine W.eq (g2 := F0 m 224 ls [.int 1]) rfl ?_
  obtain ⟨hP9, hD9⟩ := xsub (wc := [(a0, .inr (2, [.ref a1, .int 1, v5])), (a1, .inl (cT 2, 4096, .inr (.inl f6)))]) hP hD [0, 1] rfl rfl (by decide)
  refine W.widen (k := 0) (n := 0) (Nat.le_of_ble_eq_true rfl) (Nat.le_of_ble_eq_true rfl) ?_
  exact W.iret (v := 1) hx hb hr (fun t ht hW => ⟨⟨1, (), rfl, rfl, by rw [ht]; exact hP9, va_K.moved hW.alike hK, hD9⟩, hS.F ht⟩) hS.2.2 dG_apply_224
set_option maxHeartbeats 400000000 in
set_option maxRecDepth 100000 in
theorem cB_one_10 (l : Launch) (hl9 : l.stackTraces = false) (D : va_G) (cT : Nat → ClassId) (aK aV : Nat → Nat) (sz : Nat) (a0 : Nat) (a1 : Nat) (a2 : Nat) (a3 : Nat) (a4 : Nat) (x5 : Int32) (x10 : Int32) (v15 : Value) (v16 : Value) (b17 : Nat) (b18 : Nat) (v19 : Value) (v20 : Value) (v21 : Value) (v22 : Value) (v23 : Value) (f24 : Nat → Option Nat) (v26 : Value) (f27 : Nat → Int64) (h6 : ¬ x5 < 0) (h7 : ¬ 7 < x5) (h8 : x5 ≤ 7) (h9 : vp_in x5 8) (h11 : ¬ x10 < 0) (h12 : ¬ 7 < x10) (h13 : x10 ≤ 7) (h14 : vp_in x10 8) (h25 : f24 x10.toNatClampNeg = some a3) (h28 : f27 0 = 0) : xMetX l yB_one wyB_one 7 1 6 121 D cT aK aV sz [.ref a0, .int x5, .int 10, .int x10] [(a0, .inr (0, [v15, v16, .ref b17, .ref a2, .ref b18, .ref a1, v19, v20])), (a1, .inr (2, [v21, v22, v23])), (a2, .inl (cT 3, 8, .inr (.inr (.inr (.inr f24))))), (a3, .inr (2, [.ref a4, .int 1, v26])), (a4, .inl (cT 2, 4096, .inr (.inl f27)))] "java/lang/ArithmeticException" (fun A t => xB D xcl cT A [(a0, .inr (0, [v15, v16, .ref b17, .ref a2, .ref b18, .ref a1, v19, .int 1])), (a1, .inr (2, [v21, .int 0, .int 0])), (a2, .inl (cT 3, 8, .inr (.inr (.inr (.inr f24))))), (a3, .inr (2, [.ref a4, .int 1, v26])), (a4, .inl (cT 2, 4096, .inr (.inl f27)))] t) := by
  refine vx_ofW (cc := prog_1_method_9_code) (maxL := 4) (ret := none) (by decide) rfl ?_
  intro p e s m args below meth c s₁ B hml hne hv
  obtain ⟨rfl, hsz, hZ, hP, hK, hD0⟩ := hv
  have hx := B.exec
  have hb := B.bytes
  have hr := B.returns
  have hts := atoms_spec (ws := wyB_one) B.pre
  have htx := fun w h => hts w (List.mem_cons_of_mem _ h)
  have hown : s.vm.findClass "ValueBench" = some m.cls := findClass_of_methodNamed B.named
  have hlocks := B.notSynchronized
  subst hsz
  have hD := hD0.self (sz := s.heap.size)
  generalize hAe : va_A [(a0, .inr (0, [v15, v16, .ref b17, .ref a2, .ref b18, .ref a1, v19, v20])), (a1, .inr (2, [v21, v22, v23])), (a2, .inl (cT 3, 8, .inr (.inr (.inr (.inr f24))))), (a3, .inr (2, [.ref a4, .int 1, v26])), (a4, .inl (cT 2, 4096, .inr (.inl f27)))] s.heap.size = A at hD hZ ⊢
  have hA : ∀ q : Nat, s.heap.size ≤ q → A q := fun q h => by rw [← hAe]; exact Or.inr h
  have hS : va_S A s.heap s.heap [] := va_S.rf
  have hP : va_P D xcl [(a0, .inr (0, [v15, v16, .ref b17, .ref a2, .ref b18, .ref a1, v19, v20])), (a1, .inr (2, [v21, v22, v23])), (a2, .inl (cT 3, 8, .inr (.inr (.inr (.inr f24))))), (a3, .inr (2, [.ref a4, .int 1, v26])), (a4, .inl (cT 2, 4096, .inr (.inl f27)))] s.heap := hP
  have hl := lv_entry ([.ref a0, .int x5, .int 10, .int x10]) (n := 4) (Nat.le_of_ble_eq_true rfl)
  rw [lg_entry_eq]
  generalize (lg_sl ([.ref a0, .int x5, .int 10, .int x10]) ++ List.replicate (4 - (lg_sl ([.ref a0, .int x5, .int 10, .int x10])).length) Slot.unset).toArray = ls at hl ⊢
  have hl : lv_has ls 4 [(0, .ref a0), (1, .int x5), (2, .int 10), (3, .int x10)] := hl
  refine lv_iload_n hx hb dB_one_0 rfl (lv_at hl 1 rfl) ?_
  obtain ⟨hPc, hDc, hFc⟩ := xcut (wc := []) hP hD hS hA [] rfl rfl (by decide)
  refine va_calli (va_runS (As := [.int x5]) (rest := []) ⟨hx, hb, hml, hown, htx⟩ (cB_isRegister_0 l hl9 D cT aK aV s.heap.size x5 h6 h7 h8 h9) ⟨callB_of 1 htx (xw_goodC kw_2_18) rfl rfl rfl (htx _ kw_1_1) (htx _ kw_2_16) ⟨by decide, by decide, by decide +kernel⟩ ⟨Nat.le_of_ble_eq_true rfl, Nat.le_of_ble_eq_true rfl⟩, htx _ kw_2_17⟩ ⟨xPre_blind, (fun U hU hW => ⟨rfl, xPre_of hZ hS hFc hPc hDc hK U hU hW⟩)⟩ rfl rfl hl.1 rfl (lv_room (Nat.le_of_ble_eq_true rfl)) dB_one_1 ⟨Nat.le_of_ble_eq_true rfl, Nat.le_of_ble_eq_true rfl⟩) hS (fun q _ h => hFc q h) hFc (fun r1 u9 t H1 locs ht hvm hr9 hB hz1 hk1 hS => ?_)
  obtain ⟨hP1, hK1, hD1⟩ := hB
  rw [ht] at hP1
  obtain ⟨hP, hD⟩ := xjoin (W := [(a0, .inr (0, [v15, v16, .ref b17, .ref a2, .ref b18, .ref a1, v19, v20])), (a1, .inr (2, [v21, v22, v23])), (a2, .inl (cT 3, 8, .inr (.inr (.inr (.inr f24))))), (a3, .inr (2, [.ref a4, .int 1, v26])), (a4, .inl (cT 2, 4096, .inr (.inl f27)))]) hP hD [] [0, 1, 2, 3, 4] 5 rfl rfl (by decide) (by decide) hk1 hFc hP1 hD1
  generalize H1 = H at hP hS ⊢
  rw [hr9]
  refine W.eq (g2 := F0 m 4 ls [.int 1]) rfl ?_
  refine lv_if_eq (tgt := 27) hx hb dB_one_4 (by decide) (fun h => ((by revert h; decide : False)).elim) (fun _ => ?_)
  refine lv_iload_n hx hb dB_one_7 rfl (lv_at hl 2 rfl) ?_
  refine lv_bipush (v := 13) hx hb dB_one_8 (by decide) ?_
  obtain ⟨hPc, hDc, hFc⟩ := xcut (wc := []) hP hD hS hA [] rfl rfl (by decide)
  refine va_calli (va_runS (As := [.int 10, .int 13]) (rest := []) ⟨hx, hb, hml, hown, htx⟩ (cB_isWithin_20 l hl9 D cT aK aV H.size) ⟨callB_of 2 htx (xw_goodC kw_1_218) rfl rfl rfl (htx _ kw_1_1) (htx _ kw_1_216) ⟨by decide, by decide, by decide +kernel⟩ ⟨Nat.le_of_ble_eq_true rfl, Nat.le_of_ble_eq_true rfl⟩, htx _ kw_1_217⟩ ⟨xPre_blind, (fun U hU hW => ⟨rfl, xPre_of hZ hS hFc hPc hDc hK U hU hW⟩)⟩ rfl rfl hl.1 rfl (lv_room (Nat.le_of_ble_eq_true rfl)) dB_one_10 ⟨Nat.le_of_ble_eq_true rfl, Nat.le_of_ble_eq_true rfl⟩) hS (fun q _ h => hFc q h) hFc (fun r2 u9 t H1 locs ht hvm hr9 hB hz1 hk1 hS => ?_)
  obtain ⟨hP1, hK1, hD1⟩ := hB
  rw [ht] at hP1
  obtain ⟨hP, hD⟩ := xjoin (W := [(a0, .inr (0, [v15, v16, .ref b17, .ref a2, .ref b18, .ref a1, v19, v20])), (a1, .inr (2, [v21, v22, v23])), (a2, .inl (cT 3, 8, .inr (.inr (.inr (.inr f24))))), (a3, .inr (2, [.ref a4, .int 1, v26])), (a4, .inl (cT 2, 4096, .inr (.inl f27)))]) hP hD [] [0, 1, 2, 3, 4] 5 rfl rfl (by decide) (by decide) hk1 hFc hP1 hD1
  generalize H1 = H at hP hS ⊢
  rw [hr9]
  refine W.eq (g2 := F0 m 13 ls [.int 1]) rfl ?_
  refine lv_if_eq (tgt := 27) hx hb dB_one_13 (by decide) (fun h => ((by revert h; decide : False)).elim) (fun _ => ?_)
  refine lv_iload_n hx hb dB_one_16 rfl (lv_at hl 3 rfl) ?_
  obtain ⟨hPc, hDc, hFc⟩ := xcut (wc := []) hP hD hS hA [] rfl rfl (by decide)
  refine va_calli (va_runS (As := [.int x10]) (rest := []) ⟨hx, hb, hml, hown, htx⟩ (cB_isRegister_0 l hl9 D cT aK aV H.size x10 h11 h12 h13 h14) ⟨callB_of 1 htx (xw_goodC kw_2_18) rfl rfl rfl (htx _ kw_1_1) (htx _ kw_2_16) ⟨by decide, by decide, by decide +kernel⟩ ⟨Nat.le_of_ble_eq_true rfl, Nat.le_of_ble_eq_true rfl⟩, htx _ kw_2_17⟩ ⟨xPre_blind, (fun U hU hW => ⟨rfl, xPre_of hZ hS hFc hPc hDc hK U hU hW⟩)⟩ rfl rfl hl.1 rfl (lv_room (Nat.le_of_ble_eq_true rfl)) dB_one_17 ⟨Nat.le_of_ble_eq_true rfl, Nat.le_of_ble_eq_true rfl⟩) hS (fun q _ h => hFc q h) hFc (fun r3 u9 t H1 locs ht hvm hr9 hB hz1 hk1 hS => ?_)
  obtain ⟨hP1, hK1, hD1⟩ := hB
  rw [ht] at hP1
  obtain ⟨hP, hD⟩ := xjoin (W := [(a0, .inr (0, [v15, v16, .ref b17, .ref a2, .ref b18, .ref a1, v19, v20])), (a1, .inr (2, [v21, v22, v23])), (a2, .inl (cT 3, 8, .inr (.inr (.inr (.inr f24))))), (a3, .inr (2, [.ref a4, .int 1, v26])), (a4, .inl (cT 2, 4096, .inr (.inl f27)))]) hP hD [] [0, 1, 2, 3, 4] 5 rfl rfl (by decide) (by decide) hk1 hFc hP1 hD1
  generalize H1 = H at hP hS ⊢
  rw [hr9]
  refine W.eq (g2 := F0 m 20 ls [.int 1]) rfl ?_
  refine lv_if_eq (tgt := 27) hx hb dB_one_20 (by decide) (fun h => ((by revert h; decide : False)).elim) (fun _ => ?_)
  refine lv_iconst (v := 1) hx hb dB_one_23 (by decide) ?_
  refine lv_goto (tgt := 28) hx hb dB_one_24 (by decide) ?_
  obtain ⟨hPc, hDc, hFc⟩ := xcut (wc := []) hP hD hS hA [] rfl rfl (by decide)
  refine va_callv (va_runS (As := [.int 1]) (rest := []) ⟨hx, hb, hml, hown, htx⟩ (cB_demand_0 l hl9 D cT aK aV H.size) ⟨callB_of 1 htx (xw_goodC kw_1_221) rfl rfl rfl (htx _ kw_1_1) (htx _ kw_1_219) ⟨by decide, by decide, by decide +kernel⟩ ⟨Nat.le_of_ble_eq_true rfl, Nat.le_of_ble_eq_true rfl⟩, htx _ kw_1_220⟩ ⟨xPre_blind, (fun U hU hW => ⟨rfl, xPre_of hZ hS hFc hPc hDc hK U hU hW⟩)⟩ rfl rfl hl.1 rfl (lv_room (Nat.le_of_ble_eq_true rfl)) dB_one_28 ⟨Nat.le_of_ble_eq_true rfl, Nat.le_of_ble_eq_true rfl⟩) hS (fun q _ h => hFc q h) hFc (fun u9 t H1 locs ht hvm hr9 hB hz1 hk1 hS => ?_)
  obtain ⟨hP1, hK1, hD1⟩ := hB
  rw [ht] at hP1
  obtain ⟨hP, hD⟩ := xjoin (W := [(a0, .inr (0, [v15, v16, .ref b17, .ref a2, .ref b18, .ref a1, v19, v20])), (a1, .inr (2, [v21, v22, v23])), (a2, .inl (cT 3, 8, .inr (.inr (.inr (.inr f24))))), (a3, .inr (2, [.ref a4, .int 1, v26])), (a4, .inl (cT 2, 4096, .inr (.inl f27)))]) hP hD [] [0, 1, 2, 3, 4] 5 rfl rfl (by decide) (by decide) hk1 hFc hP1 hD1
  generalize H1 = H at hP hS ⊢
  refine lv_aload_n hx hb dB_one_31 rfl (lv_at hl 0 rfl) ?_
  refine va_get (D := D) (ci := 0) (v := .ref a1) (C := "ValueBench") (T := TB) (N := 8) hx hb htx inB hown hK hP 0 rfl rfl 5 (by decide) (htx _ kw_1_100) (fun _ h9 => h9) rfl dB_one_32 ?_
  obtain ⟨hPc, hDc, hFc⟩ := xcut (wc := [(a1, .inr (2, [v21, v22, v23]))]) hP hD hS hA [1] rfl rfl (by decide)
  refine va_callv (va_runV (C := "ValueBench$Row") (As := []) (rest := []) ⟨hx, hb, hml, hown, htx⟩ (cR_clear_0 l hl9 D cT aK aV H.size a1 v21 v22 v23) ⟨callB_of 0 htx (xw_goodC kw_2_22) rfl rfl rfl (htx _ kw_1_4) (htx _ kw_2_19) ⟨by decide, by decide, by decide +kernel⟩ ⟨Nat.le_of_ble_eq_true rfl, Nat.le_of_ble_eq_true rfl⟩, (htx _ kw_2_20), (htx _ kw_2_21)⟩ ⟨xPre_blind, va_recv hK hP (ci := 2) rfl (q0 := 1) rfl, (fun U hU hW => ⟨rfl, xPre_of hZ hS hFc hPc hDc hK U hU hW⟩)⟩ rfl rfl hl.1 rfl (lv_room (Nat.le_of_ble_eq_true rfl)) dB_one_35 ⟨Nat.le_of_ble_eq_true rfl, Nat.le_of_ble_eq_true rfl⟩) hS (fun q _ h => hFc q h) hFc (fun u9 t H1 locs ht hvm hr9 hB hz1 hk1 hS => ?_)
  obtain ⟨hP1, hK1, hD1⟩ := hB
  rw [ht] at hP1
  obtain ⟨hP, hD⟩ := xjoin (W := [(a0, .inr (0, [v15, v16, .ref b17, .ref a2, .ref b18, .ref a1, v19, v20])), (a2, .inl (cT 3, 8, .inr (.inr (.inr (.inr f24))))), (a3, .inr (2, [.ref a4, .int 1, v26])), (a4, .inl (cT 2, 4096, .inr (.inl f27))), (a1, .inr (2, [v21, .int 0, .int 0]))]) hP hD [1] [0, 2, 3, 4] 4 rfl rfl (by decide) (by decide) hk1 hFc hP1 hD1
  generalize H1 = H at hP hS ⊢
  refine lv_aload_n hx hb dB_one_38 rfl (lv_at hl 0 rfl) ?_
  refine lv_iload_n hx hb dB_one_39 rfl (lv_at hl 2 rfl) ?_
  refine lv_aload_n hx hb dB_one_40 rfl (lv_at hl 0 rfl) ?_
  refine va_get (D := D) (ci := 0) (v := .ref a2) (C := "ValueBench") (T := TB) (N := 8) hx hb htx inB hown hK hP 0 rfl rfl 3 (by decide) (htx _ kw_1_98) (fun _ h9 => h9) rfl dB_one_41 ?_
  refine lv_iload_n hx hb dB_one_44 rfl (lv_at hl 3 rfl) ?_
  refine va_aldq hx hb hK hP 1 3 rfl rfl h14 dB_one_45 ?_
  refine W.eq (g2 := F0 m 46 ls [va_rf (f24 x10.toNatClampNeg), .int 10, .ref a0]) rfl ?_
  rw [h25]
  refine W.eq (g2 := F0 m 46 ls [.ref a3, .int 10, .ref a0]) rfl ?_
  refine lv_aload_n hx hb dB_one_46 rfl (lv_at hl 0 rfl) ?_
  refine va_get (D := D) (ci := 0) (v := .ref b17) (C := "ValueBench") (T := TB) (N := 8) hx hb htx inB hown hK hP 0 rfl rfl 2 (by decide) (htx _ kw_1_97) (fun _ h9 => h9) rfl dB_one_47 ?_
  refine lv_aload_n hx hb dB_one_50 rfl (lv_at hl 0 rfl) ?_
  refine va_get (D := D) (ci := 0) (v := .ref b18) (C := "ValueBench") (T := TB) (N := 8) hx hb htx inB hown hK hP 0 rfl rfl 4 (by decide) (htx _ kw_1_99) (fun _ h9 => h9) rfl dB_one_51 ?_
  refine lv_aload_n hx hb dB_one_54 rfl (lv_at hl 0 rfl) ?_
  refine va_get (D := D) (ci := 0) (v := .ref a1) (C := "ValueBench") (T := TB) (N := 8) hx hb htx inB hown hK hP 0 rfl rfl 5 (by decide) (htx _ kw_1_100) (fun _ h9 => h9) rfl dB_one_55 ?_
  obtain ⟨hPc, hDc, hFc⟩ := xcut (wc := [(a3, .inr (2, [.ref a4, .int 1, v26])), (a4, .inl (cT 2, 4096, .inr (.inl f27)))]) hP hD hS hA [2, 3] rfl rfl (by decide)
  refine va_calli (va_runS (As := [.int 10, .ref a3, .ref b17, .ref b18, .ref a1]) (rest := [.ref a0]) ⟨hx, hb, hml, hown, htx⟩ (cG_apply_10 l hl9 D cT aK aV H.size a3 a4 b17 b18 a1 v26 f27 (by first | rfl | exact h25 | exact h28)) ⟨callB_of 5 htx (xw_goodC kw_4_28) rfl rfl rfl (htx _ kw_1_26) (htx _ kw_4_26) ⟨by decide, by decide, by decide +kernel⟩ ⟨Nat.le_of_ble_eq_true rfl, Nat.le_of_ble_eq_true rfl⟩, htx _ kw_4_27⟩ ⟨xPre_blind, (fun U hU hW => ⟨rfl, xPre_of hZ hS hFc hPc hDc hK U hU hW⟩)⟩ rfl rfl hl.1 rfl (lv_room (Nat.le_of_ble_eq_true rfl)) dB_one_58 ⟨Nat.le_of_ble_eq_true rfl, Nat.le_of_ble_eq_true rfl⟩) hS (fun q _ h => hFc q h) hFc (fun r4 u9 t H1 locs ht hvm hr9 hB hz1 hk1 hS => ?_)
  obtain ⟨hP1, hK1, hD1⟩ := hB
  rw [ht] at hP1
  obtain ⟨hP, hD⟩ := xjoin (W := [(a0, .inr (0, [v15, v16, .ref b17, .ref a2, .ref b18, .ref a1, v19, v20])), (a2, .inl (cT 3, 8, .inr (.inr (.inr (.inr f24))))), (a1, .inr (2, [v21, .int 0, .int 0])), (a3, .inr (2, [.ref a4, .int 1, v26])), (a4, .inl (cT 2, 4096, .inr (.inl f27)))]) hP hD [2, 3] [0, 1, 4] 3 rfl rfl (by decide) (by decide) hk1 hFc hP1 hD1
  generalize H1 = H at hP hS ⊢
  rw [hr9]
  refine W.eq (g2 := F0 m 61 ls [.int 1, .ref a0]) rfl ?_
  obtain ⟨hPc, hDc, hFc⟩ := xcut (wc := [(a0, .inr (0, [v15, v16, .ref b17, .ref a2, .ref b18, .ref a1, v19, v20]))]) hP hD hS hA [0] rfl rfl (by decide)
  refine xx_thr (vx_runV (C := "ValueBench") (As := [.int 1]) (rest := []) ⟨hx, hb, hml, hown, htx⟩ (cB_demandDone_1 l hl9 D cT aK aV H.size a0 v15 v16 (.ref b17) (.ref a2) (.ref b18) (.ref a1) v19 v20) ⟨callB_of 1 htx (xw_goodC kw_3_222) rfl rfl rfl (htx _ kw_1_1) (htx _ kw_3_219) ⟨by decide, by decide, by decide +kernel⟩ ⟨Nat.le_of_ble_eq_true rfl, Nat.le_of_ble_eq_true rfl⟩, (htx _ kw_3_221), (htx _ kp_B_demandDone)⟩ ⟨xPre_blind, va_recv hK hP (ci := 0) rfl (q0 := 0) rfl, (fun U hU hW => ⟨rfl, xPre_of hZ hS hFc hPc hDc hK U hU hW⟩)⟩ rfl rfl hl.1 rfl (lv_room (Nat.le_of_ble_eq_true rfl)) dB_one_61 ⟨Nat.le_of_ble_eq_true rfl, Nat.le_of_ble_eq_true rfl⟩) hS hFc (fun q _ h => hFc q h) (fun E ce q9 u9 t H1 locs ht hvm _ hB hz1 hk1 hS hce hcv hcl => ?_)
  obtain ⟨rfl, hP1, hK1, hD1⟩ := hB
  rw [ht] at hP1
  obtain ⟨hP, hD⟩ := xjoin (W := [(a2, .inl (cT 3, 8, .inr (.inr (.inr (.inr f24))))), (a1, .inr (2, [v21, .int 0, .int 0])), (a3, .inr (2, [.ref a4, .int 1, v26])), (a4, .inl (cT 2, 4096, .inr (.inl f27))), (a0, .inr (0, [v15, v16, .ref b17, .ref a2, .ref b18, .ref a1, v19, .int 1]))]) hP hD [0] [1, 2, 3, 4] 4 rfl rfl (by decide) (by decide) hk1 hFc hP1 hD1
  generalize H1 = H at hP hS hce ⊢
  obtain ⟨hP9, hD9⟩ := xsub (wc := [(a0, .inr (0, [v15, v16, .ref b17, .ref a2, .ref b18, .ref a1, v19, .int 1])), (a1, .inr (2, [v21, .int 0, .int 0])), (a2, .inl (cT 3, 8, .inr (.inr (.inr (.inr f24))))), (a3, .inr (2, [.ref a4, .int 1, v26])), (a4, .inl (cT 2, 4096, .inr (.inl f27)))]) hP hD [4, 1, 0, 2, 3] rfl rfl (by decide)
  exact vx_out (E := "java/lang/ArithmeticException") (fun x h => (hne x h).elim) hlocks hce hcv hcl (fun t ht ha => ⟨(), trivial, ⟨rfl, by rw [ht]; exact hP9, va_K.moved ha hK, hD9⟩, hS.F ht⟩) hS.2.2 (Nat.le_of_ble_eq_true rfl) (Nat.le_of_ble_eq_true rfl)
set_option maxHeartbeats 400000000 in
set_option maxRecDepth 100000 in
theorem cL_one_10 (l : Launch) (hl9 : l.stackTraces = false) (D : va_G) (cT : Nat → ClassId) (aK aV : Nat → Nat) (sz : Nat) (a0 : Nat) (a1 : Nat) (a2 : Nat) (a3 : Nat) (a4 : Nat) (x5 : Int32) (x10 : Int32) (v15 : Value) (v16 : Value) (b17 : Nat) (b18 : Nat) (v19 : Value) (v20 : Value) (v21 : Value) (v22 : Value) (v23 : Value) (f24 : Nat → Option Nat) (v26 : Value) (f27 : Nat → Int64) (h6 : ¬ x5 < 0) (h7 : ¬ 7 < x5) (h8 : x5 ≤ 7) (h9 : vp_in x5 8) (h11 : ¬ x10 < 0) (h12 : ¬ 7 < x10) (h13 : x10 ≤ 7) (h14 : vp_in x10 8) (h25 : f24 x10.toNatClampNeg = some a3) (h28 : f27 0 = 0) : xMet l yL_one wyL_one 8 1 6 144 D cT aK aV sz [.ref a0, .int x5, .int 10, .int x10] [(a0, .inr (0, [v15, v16, .ref b17, .ref a2, .ref b18, .ref a1, v19, v20])), (a1, .inr (2, [v21, v22, v23])), (a2, .inl (cT 3, 8, .inr (.inr (.inr (.inr f24))))), (a3, .inr (2, [.ref a4, .int 1, v26])), (a4, .inl (cT 2, 4096, .inr (.inl f27)))] (fun A => va_Qi (fun (r : Int32) (_ : Unit) => r = 2) (fun _ t => xB D xcl cT A [(a0, .inr (0, [v15, v16, .ref b17, .ref a2, .ref b18, .ref a1, v19, .int 1])), (a1, .inr (2, [v21, .int 0, .int 0])), (a2, .inl (cT 3, 8, .inr (.inr (.inr (.inr f24))))), (a3, .inr (2, [.ref a4, .int 1, v26])), (a4, .inl (cT 2, 4096, .inr (.inl f27)))] t) A) := by
  refine va_MetW (cc := method_10_code) (maxL := 5) (ret := (some .int)) (hh := [(0, 7, 10, 19), (0, 7, 14, 33), (0, 7, 18, 13)]) (by decide) rfl ?_
  intro p e s m args below meth c s₁ B hml hv
  obtain ⟨rfl, hsz, hZ, hP, hK, hD0⟩ := hv
  have hx := B.exec
  have hb := B.bytes
  have hr := B.returns
  have hts := atoms_spec (ws := wyL_one) B.pre
  have htx := fun w h => hts w (List.mem_cons_of_mem _ h)
  have hown : s.vm.findClass "ValueBenchLaw" = some m.cls := findClass_of_methodNamed B.named
  have hlocks := B.notSynchronized
  subst hsz
  have hD := hD0.self (sz := s.heap.size)
  generalize hAe : va_A [(a0, .inr (0, [v15, v16, .ref b17, .ref a2, .ref b18, .ref a1, v19, v20])), (a1, .inr (2, [v21, v22, v23])), (a2, .inl (cT 3, 8, .inr (.inr (.inr (.inr f24))))), (a3, .inr (2, [.ref a4, .int 1, v26])), (a4, .inl (cT 2, 4096, .inr (.inl f27)))] s.heap.size = A at hD hZ ⊢
  have hA : ∀ q : Nat, s.heap.size ≤ q → A q := fun q h => by rw [← hAe]; exact Or.inr h
  have hS : va_S A s.heap s.heap [] := va_S.rf
  have hP : va_P D xcl [(a0, .inr (0, [v15, v16, .ref b17, .ref a2, .ref b18, .ref a1, v19, v20])), (a1, .inr (2, [v21, v22, v23])), (a2, .inl (cT 3, 8, .inr (.inr (.inr (.inr f24))))), (a3, .inr (2, [.ref a4, .int 1, v26])), (a4, .inl (cT 2, 4096, .inr (.inl f27)))] s.heap := hP
  have hl := lv_entry ([.ref a0, .int x5, .int 10, .int x10]) (n := 5) (Nat.le_of_ble_eq_true rfl)
  rw [lg_entry_eq]
  generalize (lg_sl ([.ref a0, .int x5, .int 10, .int x10]) ++ List.replicate (5 - (lg_sl ([.ref a0, .int x5, .int 10, .int x10])).length) Slot.unset).toArray = ls at hl ⊢
  have hl : lv_has ls 5 [(0, .ref a0), (1, .int x5), (2, .int 10), (3, .int x10)] := hl
  have htab := vx_table (x := yL_one) B (hts _ List.mem_cons_self)
  refine lv_aload_n hx hb dL_one_0 rfl (lv_at hl 0 rfl) ?_
  refine lv_iload_n hx hb dL_one_1 rfl (lv_at hl 1 rfl) ?_
  refine lv_iload_n hx hb dL_one_2 rfl (lv_at hl 2 rfl) ?_
  refine lv_iload_n hx hb dL_one_3 rfl (lv_at hl 3 rfl) ?_
  obtain ⟨hPc, hDc, hFc⟩ := xcut (wc := [(a0, .inr (0, [v15, v16, .ref b17, .ref a2, .ref b18, .ref a1, v19, v20])), (a1, .inr (2, [v21, v22, v23])), (a2, .inl (cT 3, 8, .inr (.inr (.inr (.inr f24))))), (a3, .inr (2, [.ref a4, .int 1, v26])), (a4, .inl (cT 2, 4096, .inr (.inl f27)))]) hP hD hS hA [0, 1, 2, 3, 4] rfl rfl (by decide)
  refine xx_thr (vx_runV (C := "ValueBench") (As := [.int x5, .int 10, .int x10]) (rest := []) ⟨hx, hb, hml, hown, htx⟩ (cB_one_10 l hl9 D cT aK aV s.heap.size a0 a1 a2 a3 a4 x5 x10 v15 v16 b17 b18 v19 v20 v21 v22 v23 f24 v26 f27 h6 h7 h8 h9 h11 h12 h13 h14 (by first | rfl | exact h25 | exact h28) (by first | rfl | exact h25 | exact h28)) ⟨callB_of 3 htx (xw_goodC kw_4_25) rfl rfl rfl (htx _ kw_1_1) (htx _ kw_4_22) ⟨by decide, by decide, by decide +kernel⟩ ⟨Nat.le_of_ble_eq_true rfl, Nat.le_of_ble_eq_true rfl⟩, (htx _ kw_4_23), (htx _ kw_4_24)⟩ ⟨xPre_blind, va_recv hK hP (ci := 0) rfl (q0 := 0) rfl, (fun U hU hW => ⟨rfl, xPre_of hZ hS hFc hPc hDc hK U hU hW⟩)⟩ rfl rfl hl.1 rfl (lv_room (Nat.le_of_ble_eq_true rfl)) dL_one_4 ⟨Nat.le_of_ble_eq_true rfl, Nat.le_of_ble_eq_true rfl⟩) hS hFc (fun q _ h => hFc q h) (fun E ce q9 u9 t H1 locs ht hvm _ hB hz1 hk1 hS hce hcv hcl => ?_)
  obtain ⟨rfl, hP1, hK1, hD1⟩ := hB
  rw [ht] at hP1
  obtain ⟨hP, hD⟩ := xjoin (W := [(a0, .inr (0, [v15, v16, .ref b17, .ref a2, .ref b18, .ref a1, v19, .int 1])), (a1, .inr (2, [v21, .int 0, .int 0])), (a2, .inl (cT 3, 8, .inr (.inr (.inr (.inr f24))))), (a3, .inr (2, [.ref a4, .int 1, v26])), (a4, .inl (cT 2, 4096, .inr (.inl f27)))]) hP hD [0, 1, 2, 3, 4] [] 0 rfl rfl (by decide) (by decide) hk1 hFc hP1 hD1
  generalize H1 = H at hP hS hce ⊢
  refine vx_catch (own := "ValueBenchLaw") (name := "java/lang/ArithmeticException") (E := "java/lang/ArithmeticException") hown [⟨0, 7, 10, 19⟩] ⟨0, 7, 14, 33⟩ [⟨0, 7, 18, 13⟩] (by rw [htab]; rfl) (by intro z hz; rcases List.mem_cons.mp hz with rfl | hz; (exact Or.inr ⟨by decide, "java/lang/IllegalArgumentException", htx _ kw_1_211, hZ.2.2.2.2.2.2.2.1 _ (List.mem_of_getElem? (i := 10) rfl)⟩); cases hz) (by decide) (by decide) (htx _ kw_3_98) ((hZ.2.2.2.2.2.1 _ (List.mem_of_getElem? (i := 3) rfl)).use rfl) hce hcv hcl ?_
  refine lv_astore (lv' := [(4, .ref q9), (0, .ref a0), (1, .int x5), (2, .int 10), (3, .int x10)]) hx hb dL_one_14 hl (by decide) rfl (fun ls hl => ?_)
  refine lv_iconst (v := 2) hx hb dL_one_16 (by decide) ?_
  obtain ⟨hP9, hD9⟩ := xsub (wc := [(a0, .inr (0, [v15, v16, .ref b17, .ref a2, .ref b18, .ref a1, v19, .int 1])), (a1, .inr (2, [v21, .int 0, .int 0])), (a2, .inl (cT 3, 8, .inr (.inr (.inr (.inr f24))))), (a3, .inr (2, [.ref a4, .int 1, v26])), (a4, .inl (cT 2, 4096, .inr (.inl f27)))]) hP hD [0, 1, 2, 3, 4] rfl rfl (by decide)
  refine W.widen (k := 1) (n := 6) (Nat.le_of_ble_eq_true rfl) (Nat.le_of_ble_eq_true rfl) ?_
  exact W.iret (v := 2) hx hb hr (fun t ht hW => ⟨⟨2, (), rfl, rfl, by rw [ht]; exact hP9, va_K.moved hW.alike hK, hD9⟩, hS.F ht⟩) hS.2.2 dL_one_17
set_option maxHeartbeats 400000000 in
set_option maxRecDepth 100000 in
theorem cB_isWithin_21 (l : Launch) (hl9 : l.stackTraces = false) (D : va_G) (cT : Nat → ClassId) (aK aV : Nat → Nat) (sz : Nat) : xMet l yB_isWithin wyB_isWithin 0 0 0 0 D cT aK aV sz [.int 11, .int 13] [] (fun A => va_Qi (fun (r : Int32) (_ : Unit) => r = 1) (fun _ t => xB D xcl cT A [] t) A) := by
  refine Met.ofW (cc := prog_1_method_15_code) (maxL := 2) (ret := (some .boolean)) (by decide) rfl ?_
  intro p e s m args below meth c s₁ B hml hv
  obtain ⟨rfl, hsz, hZ, hP, hK, hD0⟩ := hv
  have hx := B.exec
  have hb := B.bytes
  have hr := B.returns
  have hts := atoms_spec (ws := wyB_isWithin) B.pre
  have htx := fun w h => hts w (List.mem_cons_of_mem _ h)
  have hown : s.vm.findClass "ValueBench" = some m.cls := findClass_of_methodNamed B.named
  have hlocks := B.notSynchronized
  subst hsz
  have hD := hD0.self (sz := s.heap.size)
  generalize hAe : va_A [] s.heap.size = A at hD hZ ⊢
  have hA : ∀ q : Nat, s.heap.size ≤ q → A q := fun q h => by rw [← hAe]; exact Or.inr h
  have hS : va_S A s.heap s.heap [] := va_S.rf
  have hP : va_P D xcl [] s.heap := hP
  have hl := lv_entry ([.int 11, .int 13]) (n := 2) (Nat.le_of_ble_eq_true rfl)
  rw [lg_entry_eq]
  generalize (lg_sl ([.int 11, .int 13]) ++ List.replicate (2 - (lg_sl ([.int 11, .int 13])).length) Slot.unset).toArray = ls at hl ⊢
  have hl : lv_has ls 2 [(0, .int 11), (1, .int 13)] := hl
  refine lv_iload_n hx hb dB_isWithin_0 rfl (lv_at hl 0 rfl) ?_
  refine lv_if_lt (tgt := 13) hx hb dB_isWithin_1 (by decide) (fun h => ((by revert h; decide : False)).elim) (fun _ => ?_)
  refine lv_iload_n hx hb dB_isWithin_4 rfl (lv_at hl 0 rfl) ?_
  refine lv_iload_n hx hb dB_isWithin_5 rfl (lv_at hl 1 rfl) ?_
  refine lv_icmp_gt (tgt := 13) hx hb dB_isWithin_6 (by decide) (fun h => ((by revert h; decide : False)).elim) (fun _ => ?_)
  refine lv_iconst (v := 1) hx hb dB_isWithin_9 (by decide) ?_
  refine lv_goto (tgt := 14) hx hb dB_isWithin_10 (by decide) ?_
  obtain ⟨hP9, hD9⟩ := xsub (wc := []) hP hD [] rfl rfl (by decide)
  refine W.widen (k := 0) (n := 0) (Nat.le_of_ble_eq_true rfl) (Nat.le_of_ble_eq_true rfl) ?_
  exact W.zret (v := 1) hx hb hr rfl (fun t ht hW => ⟨⟨1, (), rfl, rfl, by rw [ht]; exact hP9, va_K.moved hW.alike hK, hD9⟩, hS.F ht⟩) hS.2.2 dB_isWithin_14
set_option maxHeartbeats 400000000 in
set_option maxRecDepth 100000 in
theorem cG_isOfNumbers_0 (l : Launch) (hl9 : l.stackTraces = false) (D : va_G) (cT : Nat → ClassId) (aK aV : Nat → Nat) (sz : Nat) (a0 : Nat) (a1 : Nat) (v2 : Value) (f3 : Nat → Int64) (h4 : f3 0 = 0) : xMet l yG_isOfNumbers wyG_isOfNumbers 2 0 0 43 D cT aK aV sz [.ref a0] [(a0, .inr (2, [.ref a1, .int 1, v2])), (a1, .inl (cT 2, 4096, .inr (.inl f3)))] (fun A => va_Qi (fun (r : Int32) (_ : Unit) => r = 0) (fun _ t => xB D xcl cT A [(a0, .inr (2, [.ref a1, .int 1, v2])), (a1, .inl (cT 2, 4096, .inr (.inl f3)))] t) A) := by
  refine Met.ofW (cc := prog_9_method_16_code) (maxL := 3) (ret := (some .boolean)) (by decide) rfl ?_
  intro p e s m args below meth c s₁ B hml hv
  obtain ⟨rfl, hsz, hZ, hP, hK, hD0⟩ := hv
  have hx := B.exec
  have hb := B.bytes
  have hr := B.returns
  have hts := atoms_spec (ws := wyG_isOfNumbers) B.pre
  have htx := fun w h => hts w (List.mem_cons_of_mem _ h)
  have hown : s.vm.findClass "ValueBench$Singles" = some m.cls := findClass_of_methodNamed B.named
  have hlocks := B.notSynchronized
  subst hsz
  have hD := hD0.self (sz := s.heap.size)
  generalize hAe : va_A [(a0, .inr (2, [.ref a1, .int 1, v2])), (a1, .inl (cT 2, 4096, .inr (.inl f3)))] s.heap.size = A at hD hZ ⊢
  have hA : ∀ q : Nat, s.heap.size ≤ q → A q := fun q h => by rw [← hAe]; exact Or.inr h
  have hS : va_S A s.heap s.heap [] := va_S.rf
  have hP : va_P D xcl [(a0, .inr (2, [.ref a1, .int 1, v2])), (a1, .inl (cT 2, 4096, .inr (.inl f3)))] s.heap := hP
  have hl := lv_entry ([.ref a0]) (n := 3) (Nat.le_of_ble_eq_true rfl)
  rw [lg_entry_eq]
  generalize (lg_sl ([.ref a0]) ++ List.replicate (3 - (lg_sl ([.ref a0])).length) Slot.unset).toArray = ls at hl ⊢
  have hl : lv_has ls 3 [(0, .ref a0)] := hl
  refine lv_aload_n hx hb dG_isOfNumbers_0 rfl (lv_at hl 0 rfl) ?_
  refine lv_iconst (v := 0) hx hb dG_isOfNumbers_1 (by decide) ?_
  refine lv_iconst (v := 5) hx hb dG_isOfNumbers_2 (by decide) ?_
  obtain ⟨hPc, hDc, hFc⟩ := xcut (wc := [(a0, .inr (2, [.ref a1, .int 1, v2])), (a1, .inl (cT 2, 4096, .inr (.inl f3)))]) hP hD hS hA [0, 1] rfl rfl (by decide)
  refine va_calli (va_runV (C := "ValueBench$Row") (As := [.int 0, .int 5]) (rest := []) ⟨hx, hb, hml, hown, htx⟩ (cR_is_2 l hl9 D cT aK aV s.heap.size a0 a1 v2 f3 (by first | rfl | exact h4)) ⟨callB_of 2 htx (xw_goodC kw_3_75) rfl rfl rfl (htx _ kw_1_4) (htx _ kw_4_29) ⟨by decide, by decide, by decide +kernel⟩ ⟨Nat.le_of_ble_eq_true rfl, Nat.le_of_ble_eq_true rfl⟩, (htx _ kw_3_73), (htx _ kw_3_74)⟩ ⟨xPre_blind, va_recv hK hP (ci := 2) rfl (q0 := 0) rfl, (fun U hU hW => ⟨rfl, xPre_of hZ hS hFc hPc hDc hK U hU hW⟩)⟩ rfl rfl hl.1 rfl (lv_room (Nat.le_of_ble_eq_true rfl)) dG_isOfNumbers_3 ⟨Nat.le_of_ble_eq_true rfl, Nat.le_of_ble_eq_true rfl⟩) hS (fun q _ h => hFc q h) hFc (fun r1 u9 t H1 locs ht hvm hr9 hB hz1 hk1 hS => ?_)
  obtain ⟨hP1, hK1, hD1⟩ := hB
  rw [ht] at hP1
  obtain ⟨hP, hD⟩ := xjoin (W := [(a0, .inr (2, [.ref a1, .int 1, v2])), (a1, .inl (cT 2, 4096, .inr (.inl f3)))]) hP hD [0, 1] [] 0 rfl rfl (by decide) (by decide) hk1 hFc hP1 hD1
  generalize H1 = H at hP hS ⊢
  rw [hr9]
  refine W.eq (g2 := F0 m 6 ls [.int 0]) rfl ?_
  refine lv_if_ne (tgt := 11) hx hb dG_isOfNumbers_6 (by decide) (fun h => ((by revert h; decide : False)).elim) (fun _ => ?_)
  refine lv_iconst (v := 0) hx hb dG_isOfNumbers_9 (by decide) ?_
  obtain ⟨hP9, hD9⟩ := xsub (wc := [(a0, .inr (2, [.ref a1, .int 1, v2])), (a1, .inl (cT 2, 4096, .inr (.inl f3)))]) hP hD [0, 1] rfl rfl (by decide)
  refine W.widen (k := 0) (n := 0) (Nat.le_of_ble_eq_true rfl) (Nat.le_of_ble_eq_true rfl) ?_
  exact W.zret (v := 0) hx hb hr rfl (fun t ht hW => ⟨⟨0, (), rfl, rfl, by rw [ht]; exact hP9, va_K.moved hW.alike hK, hD9⟩, hS.F ht⟩) hS.2.2 dG_isOfNumbers_10
set_option maxHeartbeats 400000000 in
set_option maxRecDepth 100000 in
theorem cG_ofCodes_0 (l : Launch) (hl9 : l.stackTraces = false) (D : va_G) (cT : Nat → ClassId) (aK aV : Nat → Nat) (sz : Nat) (a0 : Nat) (a1 : Nat) (b2 : Nat) (v3 : Value) (f4 : Nat → Int64) (h5 : f4 0 = 0) : xMet l yG_ofCodes wyG_ofCodes 3 0 0 65 D cT aK aV sz [.ref a0, .ref b2] [(a0, .inr (2, [.ref a1, .int 1, v3])), (a1, .inl (cT 2, 4096, .inr (.inl f4)))] (fun A => va_Qi (fun (r : Int32) (_ : Unit) => r = 1) (fun _ t => xB D xcl cT A [(a0, .inr (2, [.ref a1, .int 1, v3])), (a1, .inl (cT 2, 4096, .inr (.inl f4)))] t) A) := by
  refine Met.ofW (cc := prog_9_method_15_code) (maxL := 6) (ret := (some .int)) (by decide) rfl ?_
  intro p e s m args below meth c s₁ B hml hv
  obtain ⟨rfl, hsz, hZ, hP, hK, hD0⟩ := hv
  have hx := B.exec
  have hb := B.bytes
  have hr := B.returns
  have hts := atoms_spec (ws := wyG_ofCodes) B.pre
  have htx := fun w h => hts w (List.mem_cons_of_mem _ h)
  have hown : s.vm.findClass "ValueBench$Singles" = some m.cls := findClass_of_methodNamed B.named
  have hlocks := B.notSynchronized
  subst hsz
  have hD := hD0.self (sz := s.heap.size)
  generalize hAe : va_A [(a0, .inr (2, [.ref a1, .int 1, v3])), (a1, .inl (cT 2, 4096, .inr (.inl f4)))] s.heap.size = A at hD hZ ⊢
  have hA : ∀ q : Nat, s.heap.size ≤ q → A q := fun q h => by rw [← hAe]; exact Or.inr h
  have hS : va_S A s.heap s.heap [] := va_S.rf
  have hP : va_P D xcl [(a0, .inr (2, [.ref a1, .int 1, v3])), (a1, .inl (cT 2, 4096, .inr (.inl f4)))] s.heap := hP
  have hl := lv_entry ([.ref a0, .ref b2]) (n := 6) (Nat.le_of_ble_eq_true rfl)
  rw [lg_entry_eq]
  generalize (lg_sl ([.ref a0, .ref b2]) ++ List.replicate (6 - (lg_sl ([.ref a0, .ref b2])).length) Slot.unset).toArray = ls at hl ⊢
  have hl : lv_has ls 6 [(0, .ref a0), (1, .ref b2)] := hl
  refine lv_aload_n hx hb dG_ofCodes_0 rfl (lv_at hl 0 rfl) ?_
  obtain ⟨hPc, hDc, hFc⟩ := xcut (wc := [(a0, .inr (2, [.ref a1, .int 1, v3])), (a1, .inl (cT 2, 4096, .inr (.inl f4)))]) hP hD hS hA [0, 1] rfl rfl (by decide)
  refine va_calli (va_runS (As := [.ref a0]) (rest := []) ⟨hx, hb, hml, hown, htx⟩ (cG_isOfNumbers_0 l hl9 D cT aK aV s.heap.size a0 a1 v3 f4 (by first | rfl | exact h5)) ⟨callB_of 1 htx (xw_goodC kw_4_132) rfl rfl rfl (htx _ kw_1_26) (htx _ kw_4_130) ⟨by decide, by decide, by decide +kernel⟩ ⟨Nat.le_of_ble_eq_true rfl, Nat.le_of_ble_eq_true rfl⟩, htx _ kw_4_131⟩ ⟨xPre_blind, (fun U hU hW => ⟨rfl, xPre_of hZ hS hFc hPc hDc hK U hU hW⟩)⟩ rfl rfl hl.1 rfl (lv_room (Nat.le_of_ble_eq_true rfl)) dG_ofCodes_1 ⟨Nat.le_of_ble_eq_true rfl, Nat.le_of_ble_eq_true rfl⟩) hS (fun q _ h => hFc q h) hFc (fun r1 u9 t H1 locs ht hvm hr9 hB hz1 hk1 hS => ?_)
  obtain ⟨hP1, hK1, hD1⟩ := hB
  rw [ht] at hP1
  obtain ⟨hP, hD⟩ := xjoin (W := [(a0, .inr (2, [.ref a1, .int 1, v3])), (a1, .inl (cT 2, 4096, .inr (.inl f4)))]) hP hD [0, 1] [] 0 rfl rfl (by decide) (by decide) hk1 hFc hP1 hD1
  generalize H1 = H at hP hS ⊢
  rw [hr9]
  refine W.eq (g2 := F0 m 4 ls [.int 0]) rfl ?_
  refine lv_if_ne (tgt := 9) hx hb dG_ofCodes_4 (by decide) (fun h => ((by revert h; decide : False)).elim) (fun _ => ?_)
  refine lv_iconst (v := 1) hx hb dG_ofCodes_7 (by decide) ?_
  obtain ⟨hP9, hD9⟩ := xsub (wc := [(a0, .inr (2, [.ref a1, .int 1, v3])), (a1, .inl (cT 2, 4096, .inr (.inl f4)))]) hP hD [0, 1] rfl rfl (by decide)
  refine W.widen (k := 0) (n := 0) (Nat.le_of_ble_eq_true rfl) (Nat.le_of_ble_eq_true rfl) ?_
  exact W.iret (v := 1) hx hb hr (fun t ht hW => ⟨⟨1, (), rfl, rfl, by rw [ht]; exact hP9, va_K.moved hW.alike hK, hD9⟩, hS.F ht⟩) hS.2.2 dG_ofCodes_8
set_option maxHeartbeats 400000000 in
set_option maxRecDepth 100000 in
theorem cG_apply_11 (l : Launch) (hl9 : l.stackTraces = false) (D : va_G) (cT : Nat → ClassId) (aK aV : Nat → Nat) (sz : Nat) (a0 : Nat) (a1 : Nat) (b2 : Nat) (b3 : Nat) (b4 : Nat) (v5 : Value) (f6 : Nat → Int64) (h7 : f6 0 = 0) : xMet l yG_apply wyG_apply 4 0 0 90 D cT aK aV sz [.int 11, .ref a0, .ref b2, .ref b3, .ref b4] [(a0, .inr (2, [.ref a1, .int 1, v5])), (a1, .inl (cT 2, 4096, .inr (.inl f6)))] (fun A => va_Qi (fun (r : Int32) (_ : Unit) => r = 1) (fun _ t => xB D xcl cT A [(a0, .inr (2, [.ref a1, .int 1, v5])), (a1, .inl (cT 2, 4096, .inr (.inl f6)))] t) A) := by
  refine Met.ofW (cc := prog_9_method_2_code) (maxL := 5) (ret := (some .int)) (by decide) rfl ?_
  intro p e s m args below meth c s₁ B hml hv
  obtain ⟨rfl, hsz, hZ, hP, hK, hD0⟩ := hv
  have hx := B.exec
  have hb := B.bytes
  have hr := B.returns
  have hts := atoms_spec (ws := wyG_apply) B.pre
  have htx := fun w h => hts w (List.mem_cons_of_mem _ h)
  have hown : s.vm.findClass "ValueBench$Singles" = some m.cls := findClass_of_methodNamed B.named
  have hlocks := B.notSynchronized
  subst hsz
  have hD := hD0.self (sz := s.heap.size)
  generalize hAe : va_A [(a0, .inr (2, [.ref a1, .int 1, v5])), (a1, .inl (cT 2, 4096, .inr (.inl f6)))] s.heap.size = A at hD hZ ⊢
  have hA : ∀ q : Nat, s.heap.size ≤ q → A q := fun q h => by rw [← hAe]; exact Or.inr h
  have hS : va_S A s.heap s.heap [] := va_S.rf
  have hP : va_P D xcl [(a0, .inr (2, [.ref a1, .int 1, v5])), (a1, .inl (cT 2, 4096, .inr (.inl f6)))] s.heap := hP
  have hl := lv_entry ([.int 11, .ref a0, .ref b2, .ref b3, .ref b4]) (n := 5) (Nat.le_of_ble_eq_true rfl)
  rw [lg_entry_eq]
  generalize (lg_sl ([.int 11, .ref a0, .ref b2, .ref b3, .ref b4]) ++ List.replicate (5 - (lg_sl ([.int 11, .ref a0, .ref b2, .ref b3, .ref b4])).length) Slot.unset).toArray = ls at hl ⊢
  have hl : lv_has ls 5 [(0, .int 11), (1, .ref a0), (2, .ref b2), (3, .ref b3), (4, .ref b4)] := hl
  refine lv_iload_n hx hb dG_apply_0 rfl (lv_at hl 0 rfl) ?_
  refine lv_tableIn (off := 224) (tgt := 225) hx hb dG_apply_1 (by decide) (by decide) (by decide) (by decide) ?_
  refine lv_aload_n hx hb dG_apply_225 rfl (lv_at hl 1 rfl) ?_
  refine lv_aload hx hb dG_apply_226 (lv_at hl 4 rfl) ?_
  obtain ⟨hPc, hDc, hFc⟩ := xcut (wc := [(a0, .inr (2, [.ref a1, .int 1, v5])), (a1, .inl (cT 2, 4096, .inr (.inl f6)))]) hP hD hS hA [0, 1] rfl rfl (by decide)
  refine va_calli (va_runS (As := [.ref a0, .ref b4]) (rest := []) ⟨hx, hb, hml, hown, htx⟩ (cG_ofCodes_0 l hl9 D cT aK aV s.heap.size a0 a1 b4 v5 f6 (by first | rfl | exact h7)) ⟨callB_of 2 htx (xw_goodC kw_4_129) rfl rfl rfl (htx _ kw_1_26) (htx _ kw_4_127) ⟨by decide, by decide, by decide +kernel⟩ ⟨Nat.le_of_ble_eq_true rfl, Nat.le_of_ble_eq_true rfl⟩, htx _ kw_4_128⟩ ⟨xPre_blind, (fun U hU hW => ⟨rfl, xPre_of hZ hS hFc hPc hDc hK U hU hW⟩)⟩ rfl rfl hl.1 rfl (lv_room (Nat.le_of_ble_eq_true rfl)) dG_apply_228 ⟨Nat.le_of_ble_eq_true rfl, Nat.le_of_ble_eq_true rfl⟩) hS (fun q _ h => hFc q h) hFc (fun r1 u9 t H1 locs ht hvm hr9 hB hz1 hk1 hS => ?_)
  obtain ⟨hP1, hK1, hD1⟩ := hB
  rw [ht] at hP1
  obtain ⟨hP, hD⟩ := xjoin (W := [(a0, .inr (2, [.ref a1, .int 1, v5])), (a1, .inl (cT 2, 4096, .inr (.inl f6)))]) hP hD [0, 1] [] 0 rfl rfl (by decide) (by decide) hk1 hFc hP1 hD1
  generalize H1 = H at hP hS ⊢
  rw [hr9]
  refine W.eq (g2 := F0 m 231 ls [.int 1]) rfl ?_
  obtain ⟨hP9, hD9⟩ := xsub (wc := [(a0, .inr (2, [.ref a1, .int 1, v5])), (a1, .inl (cT 2, 4096, .inr (.inl f6)))]) hP hD [0, 1] rfl rfl (by decide)
  refine W.widen (k := 0) (n := 0) (Nat.le_of_ble_eq_true rfl) (Nat.le_of_ble_eq_true rfl) ?_
  exact W.iret (v := 1) hx hb hr (fun t ht hW => ⟨⟨1, (), rfl, rfl, by rw [ht]; exact hP9, va_K.moved hW.alike hK, hD9⟩, hS.F ht⟩) hS.2.2 dG_apply_231
set_option maxHeartbeats 400000000 in
set_option maxRecDepth 100000 in
theorem cB_one_11 (l : Launch) (hl9 : l.stackTraces = false) (D : va_G) (cT : Nat → ClassId) (aK aV : Nat → Nat) (sz : Nat) (a0 : Nat) (a1 : Nat) (a2 : Nat) (a3 : Nat) (a4 : Nat) (x5 : Int32) (x10 : Int32) (v15 : Value) (v16 : Value) (b17 : Nat) (b18 : Nat) (v19 : Value) (v20 : Value) (v21 : Value) (v22 : Value) (v23 : Value) (f24 : Nat → Option Nat) (v26 : Value) (f27 : Nat → Int64) (h6 : ¬ x5 < 0) (h7 : ¬ 7 < x5) (h8 : x5 ≤ 7) (h9 : vp_in x5 8) (h11 : ¬ x10 < 0) (h12 : ¬ 7 < x10) (h13 : x10 ≤ 7) (h14 : vp_in x10 8) (h25 : f24 x10.toNatClampNeg = some a3) (h28 : f27 0 = 0) : xMetX l yB_one wyB_one 7 1 6 121 D cT aK aV sz [.ref a0, .int x5, .int 11, .int x10] [(a0, .inr (0, [v15, v16, .ref b17, .ref a2, .ref b18, .ref a1, v19, v20])), (a1, .inr (2, [v21, v22, v23])), (a2, .inl (cT 3, 8, .inr (.inr (.inr (.inr f24))))), (a3, .inr (2, [.ref a4, .int 1, v26])), (a4, .inl (cT 2, 4096, .inr (.inl f27)))] "java/lang/ArithmeticException" (fun A t => xB D xcl cT A [(a0, .inr (0, [v15, v16, .ref b17, .ref a2, .ref b18, .ref a1, v19, .int 1])), (a1, .inr (2, [v21, .int 0, .int 0])), (a2, .inl (cT 3, 8, .inr (.inr (.inr (.inr f24))))), (a3, .inr (2, [.ref a4, .int 1, v26])), (a4, .inl (cT 2, 4096, .inr (.inl f27)))] t) := by
  refine vx_ofW (cc := prog_1_method_9_code) (maxL := 4) (ret := none) (by decide) rfl ?_
  intro p e s m args below meth c s₁ B hml hne hv
  obtain ⟨rfl, hsz, hZ, hP, hK, hD0⟩ := hv
  have hx := B.exec
  have hb := B.bytes
  have hr := B.returns
  have hts := atoms_spec (ws := wyB_one) B.pre
  have htx := fun w h => hts w (List.mem_cons_of_mem _ h)
  have hown : s.vm.findClass "ValueBench" = some m.cls := findClass_of_methodNamed B.named
  have hlocks := B.notSynchronized
  subst hsz
  have hD := hD0.self (sz := s.heap.size)
  generalize hAe : va_A [(a0, .inr (0, [v15, v16, .ref b17, .ref a2, .ref b18, .ref a1, v19, v20])), (a1, .inr (2, [v21, v22, v23])), (a2, .inl (cT 3, 8, .inr (.inr (.inr (.inr f24))))), (a3, .inr (2, [.ref a4, .int 1, v26])), (a4, .inl (cT 2, 4096, .inr (.inl f27)))] s.heap.size = A at hD hZ ⊢
  have hA : ∀ q : Nat, s.heap.size ≤ q → A q := fun q h => by rw [← hAe]; exact Or.inr h
  have hS : va_S A s.heap s.heap [] := va_S.rf
  have hP : va_P D xcl [(a0, .inr (0, [v15, v16, .ref b17, .ref a2, .ref b18, .ref a1, v19, v20])), (a1, .inr (2, [v21, v22, v23])), (a2, .inl (cT 3, 8, .inr (.inr (.inr (.inr f24))))), (a3, .inr (2, [.ref a4, .int 1, v26])), (a4, .inl (cT 2, 4096, .inr (.inl f27)))] s.heap := hP
  have hl := lv_entry ([.ref a0, .int x5, .int 11, .int x10]) (n := 4) (Nat.le_of_ble_eq_true rfl)
  rw [lg_entry_eq]
  generalize (lg_sl ([.ref a0, .int x5, .int 11, .int x10]) ++ List.replicate (4 - (lg_sl ([.ref a0, .int x5, .int 11, .int x10])).length) Slot.unset).toArray = ls at hl ⊢
  have hl : lv_has ls 4 [(0, .ref a0), (1, .int x5), (2, .int 11), (3, .int x10)] := hl
  refine lv_iload_n hx hb dB_one_0 rfl (lv_at hl 1 rfl) ?_
  obtain ⟨hPc, hDc, hFc⟩ := xcut (wc := []) hP hD hS hA [] rfl rfl (by decide)
  refine va_calli (va_runS (As := [.int x5]) (rest := []) ⟨hx, hb, hml, hown, htx⟩ (cB_isRegister_0 l hl9 D cT aK aV s.heap.size x5 h6 h7 h8 h9) ⟨callB_of 1 htx (xw_goodC kw_2_18) rfl rfl rfl (htx _ kw_1_1) (htx _ kw_2_16) ⟨by decide, by decide, by decide +kernel⟩ ⟨Nat.le_of_ble_eq_true rfl, Nat.le_of_ble_eq_true rfl⟩, htx _ kw_2_17⟩ ⟨xPre_blind, (fun U hU hW => ⟨rfl, xPre_of hZ hS hFc hPc hDc hK U hU hW⟩)⟩ rfl rfl hl.1 rfl (lv_room (Nat.le_of_ble_eq_true rfl)) dB_one_1 ⟨Nat.le_of_ble_eq_true rfl, Nat.le_of_ble_eq_true rfl⟩) hS (fun q _ h => hFc q h) hFc (fun r1 u9 t H1 locs ht hvm hr9 hB hz1 hk1 hS => ?_)
  obtain ⟨hP1, hK1, hD1⟩ := hB
  rw [ht] at hP1
  obtain ⟨hP, hD⟩ := xjoin (W := [(a0, .inr (0, [v15, v16, .ref b17, .ref a2, .ref b18, .ref a1, v19, v20])), (a1, .inr (2, [v21, v22, v23])), (a2, .inl (cT 3, 8, .inr (.inr (.inr (.inr f24))))), (a3, .inr (2, [.ref a4, .int 1, v26])), (a4, .inl (cT 2, 4096, .inr (.inl f27)))]) hP hD [] [0, 1, 2, 3, 4] 5 rfl rfl (by decide) (by decide) hk1 hFc hP1 hD1
  generalize H1 = H at hP hS ⊢
  rw [hr9]
  refine W.eq (g2 := F0 m 4 ls [.int 1]) rfl ?_
  refine lv_if_eq (tgt := 27) hx hb dB_one_4 (by decide) (fun h => ((by revert h; decide : False)).elim) (fun _ => ?_)
  refine lv_iload_n hx hb dB_one_7 rfl (lv_at hl 2 rfl) ?_
  refine lv_bipush (v := 13) hx hb dB_one_8 (by decide) ?_
  obtain ⟨hPc, hDc, hFc⟩ := xcut (wc := []) hP hD hS hA [] rfl rfl (by decide)
  refine va_calli (va_runS (As := [.int 11, .int 13]) (rest := []) ⟨hx, hb, hml, hown, htx⟩ (cB_isWithin_21 l hl9 D cT aK aV H.size) ⟨callB_of 2 htx (xw_goodC kw_1_218) rfl rfl rfl (htx _ kw_1_1) (htx _ kw_1_216) ⟨by decide, by decide, by decide +kernel⟩ ⟨Nat.le_of_ble_eq_true rfl, Nat.le_of_ble_eq_true rfl⟩, htx _ kw_1_217⟩ ⟨xPre_blind, (fun U hU hW => ⟨rfl, xPre_of hZ hS hFc hPc hDc hK U hU hW⟩)⟩ rfl rfl hl.1 rfl (lv_room (Nat.le_of_ble_eq_true rfl)) dB_one_10 ⟨Nat.le_of_ble_eq_true rfl, Nat.le_of_ble_eq_true rfl⟩) hS (fun q _ h => hFc q h) hFc (fun r2 u9 t H1 locs ht hvm hr9 hB hz1 hk1 hS => ?_)
  obtain ⟨hP1, hK1, hD1⟩ := hB
  rw [ht] at hP1
  obtain ⟨hP, hD⟩ := xjoin (W := [(a0, .inr (0, [v15, v16, .ref b17, .ref a2, .ref b18, .ref a1, v19, v20])), (a1, .inr (2, [v21, v22, v23])), (a2, .inl (cT 3, 8, .inr (.inr (.inr (.inr f24))))), (a3, .inr (2, [.ref a4, .int 1, v26])), (a4, .inl (cT 2, 4096, .inr (.inl f27)))]) hP hD [] [0, 1, 2, 3, 4] 5 rfl rfl (by decide) (by decide) hk1 hFc hP1 hD1
  generalize H1 = H at hP hS ⊢
  rw [hr9]
  refine W.eq (g2 := F0 m 13 ls [.int 1]) rfl ?_
  refine lv_if_eq (tgt := 27) hx hb dB_one_13 (by decide) (fun h => ((by revert h; decide : False)).elim) (fun _ => ?_)
  refine lv_iload_n hx hb dB_one_16 rfl (lv_at hl 3 rfl) ?_
  obtain ⟨hPc, hDc, hFc⟩ := xcut (wc := []) hP hD hS hA [] rfl rfl (by decide)
  refine va_calli (va_runS (As := [.int x10]) (rest := []) ⟨hx, hb, hml, hown, htx⟩ (cB_isRegister_0 l hl9 D cT aK aV H.size x10 h11 h12 h13 h14) ⟨callB_of 1 htx (xw_goodC kw_2_18) rfl rfl rfl (htx _ kw_1_1) (htx _ kw_2_16) ⟨by decide, by decide, by decide +kernel⟩ ⟨Nat.le_of_ble_eq_true rfl, Nat.le_of_ble_eq_true rfl⟩, htx _ kw_2_17⟩ ⟨xPre_blind, (fun U hU hW => ⟨rfl, xPre_of hZ hS hFc hPc hDc hK U hU hW⟩)⟩ rfl rfl hl.1 rfl (lv_room (Nat.le_of_ble_eq_true rfl)) dB_one_17 ⟨Nat.le_of_ble_eq_true rfl, Nat.le_of_ble_eq_true rfl⟩) hS (fun q _ h => hFc q h) hFc (fun r3 u9 t H1 locs ht hvm hr9 hB hz1 hk1 hS => ?_)
  obtain ⟨hP1, hK1, hD1⟩ := hB
  rw [ht] at hP1
  obtain ⟨hP, hD⟩ := xjoin (W := [(a0, .inr (0, [v15, v16, .ref b17, .ref a2, .ref b18, .ref a1, v19, v20])), (a1, .inr (2, [v21, v22, v23])), (a2, .inl (cT 3, 8, .inr (.inr (.inr (.inr f24))))), (a3, .inr (2, [.ref a4, .int 1, v26])), (a4, .inl (cT 2, 4096, .inr (.inl f27)))]) hP hD [] [0, 1, 2, 3, 4] 5 rfl rfl (by decide) (by decide) hk1 hFc hP1 hD1
  generalize H1 = H at hP hS ⊢
  rw [hr9]
  refine W.eq (g2 := F0 m 20 ls [.int 1]) rfl ?_
  refine lv_if_eq (tgt := 27) hx hb dB_one_20 (by decide) (fun h => ((by revert h; decide : False)).elim) (fun _ => ?_)
  refine lv_iconst (v := 1) hx hb dB_one_23 (by decide) ?_
  refine lv_goto (tgt := 28) hx hb dB_one_24 (by decide) ?_
  obtain ⟨hPc, hDc, hFc⟩ := xcut (wc := []) hP hD hS hA [] rfl rfl (by decide)
  refine va_callv (va_runS (As := [.int 1]) (rest := []) ⟨hx, hb, hml, hown, htx⟩ (cB_demand_0 l hl9 D cT aK aV H.size) ⟨callB_of 1 htx (xw_goodC kw_1_221) rfl rfl rfl (htx _ kw_1_1) (htx _ kw_1_219) ⟨by decide, by decide, by decide +kernel⟩ ⟨Nat.le_of_ble_eq_true rfl, Nat.le_of_ble_eq_true rfl⟩, htx _ kw_1_220⟩ ⟨xPre_blind, (fun U hU hW => ⟨rfl, xPre_of hZ hS hFc hPc hDc hK U hU hW⟩)⟩ rfl rfl hl.1 rfl (lv_room (Nat.le_of_ble_eq_true rfl)) dB_one_28 ⟨Nat.le_of_ble_eq_true rfl, Nat.le_of_ble_eq_true rfl⟩) hS (fun q _ h => hFc q h) hFc (fun u9 t H1 locs ht hvm hr9 hB hz1 hk1 hS => ?_)
  obtain ⟨hP1, hK1, hD1⟩ := hB
  rw [ht] at hP1
  obtain ⟨hP, hD⟩ := xjoin (W := [(a0, .inr (0, [v15, v16, .ref b17, .ref a2, .ref b18, .ref a1, v19, v20])), (a1, .inr (2, [v21, v22, v23])), (a2, .inl (cT 3, 8, .inr (.inr (.inr (.inr f24))))), (a3, .inr (2, [.ref a4, .int 1, v26])), (a4, .inl (cT 2, 4096, .inr (.inl f27)))]) hP hD [] [0, 1, 2, 3, 4] 5 rfl rfl (by decide) (by decide) hk1 hFc hP1 hD1
  generalize H1 = H at hP hS ⊢
  refine lv_aload_n hx hb dB_one_31 rfl (lv_at hl 0 rfl) ?_
  refine va_get (D := D) (ci := 0) (v := .ref a1) (C := "ValueBench") (T := TB) (N := 8) hx hb htx inB hown hK hP 0 rfl rfl 5 (by decide) (htx _ kw_1_100) (fun _ h9 => h9) rfl dB_one_32 ?_
  obtain ⟨hPc, hDc, hFc⟩ := xcut (wc := [(a1, .inr (2, [v21, v22, v23]))]) hP hD hS hA [1] rfl rfl (by decide)
  refine va_callv (va_runV (C := "ValueBench$Row") (As := []) (rest := []) ⟨hx, hb, hml, hown, htx⟩ (cR_clear_0 l hl9 D cT aK aV H.size a1 v21 v22 v23) ⟨callB_of 0 htx (xw_goodC kw_2_22) rfl rfl rfl (htx _ kw_1_4) (htx _ kw_2_19) ⟨by decide, by decide, by decide +kernel⟩ ⟨Nat.le_of_ble_eq_true rfl, Nat.le_of_ble_eq_true rfl⟩, (htx _ kw_2_20), (htx _ kw_2_21)⟩ ⟨xPre_blind, va_recv hK hP (ci := 2) rfl (q0 := 1) rfl, (fun U hU hW => ⟨rfl, xPre_of hZ hS hFc hPc hDc hK U hU hW⟩)⟩ rfl rfl hl.1 rfl (lv_room (Nat.le_of_ble_eq_true rfl)) dB_one_35 ⟨Nat.le_of_ble_eq_true rfl, Nat.le_of_ble_eq_true rfl⟩) hS (fun q _ h => hFc q h) hFc (fun u9 t H1 locs ht hvm hr9 hB hz1 hk1 hS => ?_)
  obtain ⟨hP1, hK1, hD1⟩ := hB
  rw [ht] at hP1
  obtain ⟨hP, hD⟩ := xjoin (W := [(a0, .inr (0, [v15, v16, .ref b17, .ref a2, .ref b18, .ref a1, v19, v20])), (a2, .inl (cT 3, 8, .inr (.inr (.inr (.inr f24))))), (a3, .inr (2, [.ref a4, .int 1, v26])), (a4, .inl (cT 2, 4096, .inr (.inl f27))), (a1, .inr (2, [v21, .int 0, .int 0]))]) hP hD [1] [0, 2, 3, 4] 4 rfl rfl (by decide) (by decide) hk1 hFc hP1 hD1
  generalize H1 = H at hP hS ⊢
  refine lv_aload_n hx hb dB_one_38 rfl (lv_at hl 0 rfl) ?_
  refine lv_iload_n hx hb dB_one_39 rfl (lv_at hl 2 rfl) ?_
  refine lv_aload_n hx hb dB_one_40 rfl (lv_at hl 0 rfl) ?_
  refine va_get (D := D) (ci := 0) (v := .ref a2) (C := "ValueBench") (T := TB) (N := 8) hx hb htx inB hown hK hP 0 rfl rfl 3 (by decide) (htx _ kw_1_98) (fun _ h9 => h9) rfl dB_one_41 ?_
  refine lv_iload_n hx hb dB_one_44 rfl (lv_at hl 3 rfl) ?_
  refine va_aldq hx hb hK hP 1 3 rfl rfl h14 dB_one_45 ?_
  refine W.eq (g2 := F0 m 46 ls [va_rf (f24 x10.toNatClampNeg), .int 11, .ref a0]) rfl ?_
  rw [h25]
  refine W.eq (g2 := F0 m 46 ls [.ref a3, .int 11, .ref a0]) rfl ?_
  refine lv_aload_n hx hb dB_one_46 rfl (lv_at hl 0 rfl) ?_
  refine va_get (D := D) (ci := 0) (v := .ref b17) (C := "ValueBench") (T := TB) (N := 8) hx hb htx inB hown hK hP 0 rfl rfl 2 (by decide) (htx _ kw_1_97) (fun _ h9 => h9) rfl dB_one_47 ?_
  refine lv_aload_n hx hb dB_one_50 rfl (lv_at hl 0 rfl) ?_
  refine va_get (D := D) (ci := 0) (v := .ref b18) (C := "ValueBench") (T := TB) (N := 8) hx hb htx inB hown hK hP 0 rfl rfl 4 (by decide) (htx _ kw_1_99) (fun _ h9 => h9) rfl dB_one_51 ?_
  refine lv_aload_n hx hb dB_one_54 rfl (lv_at hl 0 rfl) ?_
  refine va_get (D := D) (ci := 0) (v := .ref a1) (C := "ValueBench") (T := TB) (N := 8) hx hb htx inB hown hK hP 0 rfl rfl 5 (by decide) (htx _ kw_1_100) (fun _ h9 => h9) rfl dB_one_55 ?_
  obtain ⟨hPc, hDc, hFc⟩ := xcut (wc := [(a3, .inr (2, [.ref a4, .int 1, v26])), (a4, .inl (cT 2, 4096, .inr (.inl f27)))]) hP hD hS hA [2, 3] rfl rfl (by decide)
  refine va_calli (va_runS (As := [.int 11, .ref a3, .ref b17, .ref b18, .ref a1]) (rest := [.ref a0]) ⟨hx, hb, hml, hown, htx⟩ (cG_apply_11 l hl9 D cT aK aV H.size a3 a4 b17 b18 a1 v26 f27 (by first | rfl | exact h25 | exact h28)) ⟨callB_of 5 htx (xw_goodC kw_4_28) rfl rfl rfl (htx _ kw_1_26) (htx _ kw_4_26) ⟨by decide, by decide, by decide +kernel⟩ ⟨Nat.le_of_ble_eq_true rfl, Nat.le_of_ble_eq_true rfl⟩, htx _ kw_4_27⟩ ⟨xPre_blind, (fun U hU hW => ⟨rfl, xPre_of hZ hS hFc hPc hDc hK U hU hW⟩)⟩ rfl rfl hl.1 rfl (lv_room (Nat.le_of_ble_eq_true rfl)) dB_one_58 ⟨Nat.le_of_ble_eq_true rfl, Nat.le_of_ble_eq_true rfl⟩) hS (fun q _ h => hFc q h) hFc (fun r4 u9 t H1 locs ht hvm hr9 hB hz1 hk1 hS => ?_)
  obtain ⟨hP1, hK1, hD1⟩ := hB
  rw [ht] at hP1
  obtain ⟨hP, hD⟩ := xjoin (W := [(a0, .inr (0, [v15, v16, .ref b17, .ref a2, .ref b18, .ref a1, v19, v20])), (a2, .inl (cT 3, 8, .inr (.inr (.inr (.inr f24))))), (a1, .inr (2, [v21, .int 0, .int 0])), (a3, .inr (2, [.ref a4, .int 1, v26])), (a4, .inl (cT 2, 4096, .inr (.inl f27)))]) hP hD [2, 3] [0, 1, 4] 3 rfl rfl (by decide) (by decide) hk1 hFc hP1 hD1
  generalize H1 = H at hP hS ⊢
  rw [hr9]
  refine W.eq (g2 := F0 m 61 ls [.int 1, .ref a0]) rfl ?_
  obtain ⟨hPc, hDc, hFc⟩ := xcut (wc := [(a0, .inr (0, [v15, v16, .ref b17, .ref a2, .ref b18, .ref a1, v19, v20]))]) hP hD hS hA [0] rfl rfl (by decide)
  refine xx_thr (vx_runV (C := "ValueBench") (As := [.int 1]) (rest := []) ⟨hx, hb, hml, hown, htx⟩ (cB_demandDone_1 l hl9 D cT aK aV H.size a0 v15 v16 (.ref b17) (.ref a2) (.ref b18) (.ref a1) v19 v20) ⟨callB_of 1 htx (xw_goodC kw_3_222) rfl rfl rfl (htx _ kw_1_1) (htx _ kw_3_219) ⟨by decide, by decide, by decide +kernel⟩ ⟨Nat.le_of_ble_eq_true rfl, Nat.le_of_ble_eq_true rfl⟩, (htx _ kw_3_221), (htx _ kp_B_demandDone)⟩ ⟨xPre_blind, va_recv hK hP (ci := 0) rfl (q0 := 0) rfl, (fun U hU hW => ⟨rfl, xPre_of hZ hS hFc hPc hDc hK U hU hW⟩)⟩ rfl rfl hl.1 rfl (lv_room (Nat.le_of_ble_eq_true rfl)) dB_one_61 ⟨Nat.le_of_ble_eq_true rfl, Nat.le_of_ble_eq_true rfl⟩) hS hFc (fun q _ h => hFc q h) (fun E ce q9 u9 t H1 locs ht hvm _ hB hz1 hk1 hS hce hcv hcl => ?_)
  obtain ⟨rfl, hP1, hK1, hD1⟩ := hB
  rw [ht] at hP1
  obtain ⟨hP, hD⟩ := xjoin (W := [(a2, .inl (cT 3, 8, .inr (.inr (.inr (.inr f24))))), (a1, .inr (2, [v21, .int 0, .int 0])), (a3, .inr (2, [.ref a4, .int 1, v26])), (a4, .inl (cT 2, 4096, .inr (.inl f27))), (a0, .inr (0, [v15, v16, .ref b17, .ref a2, .ref b18, .ref a1, v19, .int 1]))]) hP hD [0] [1, 2, 3, 4] 4 rfl rfl (by decide) (by decide) hk1 hFc hP1 hD1
  generalize H1 = H at hP hS hce ⊢
  obtain ⟨hP9, hD9⟩ := xsub (wc := [(a0, .inr (0, [v15, v16, .ref b17, .ref a2, .ref b18, .ref a1, v19, .int 1])), (a1, .inr (2, [v21, .int 0, .int 0])), (a2, .inl (cT 3, 8, .inr (.inr (.inr (.inr f24))))), (a3, .inr (2, [.ref a4, .int 1, v26])), (a4, .inl (cT 2, 4096, .inr (.inl f27)))]) hP hD [4, 1, 0, 2, 3] rfl rfl (by decide)
  exact vx_out (E := "java/lang/ArithmeticException") (fun x h => (hne x h).elim) hlocks hce hcv hcl (fun t ht ha => ⟨(), trivial, ⟨rfl, by rw [ht]; exact hP9, va_K.moved ha hK, hD9⟩, hS.F ht⟩) hS.2.2 (Nat.le_of_ble_eq_true rfl) (Nat.le_of_ble_eq_true rfl)
