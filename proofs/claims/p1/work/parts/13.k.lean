set_option maxHeartbeats 400000000 in
set_option maxRecDepth 100000 in
theorem cP_write_2 (l : Launch) (hl9 : l.stackTraces = false) (D : va_G) (cT : Nat → ClassId) (aK aV : Nat → Nat) (sz : Nat) (a0 : Nat) (a1 : Nat) (a2 : Nat) (a3 : Nat) (x4 : Int32) (v5 : Value) (f6 : Nat → Int64) (v8 : Value) (f9 : Nat → Int32) (h7 : f6 0 = 2) : xMet l yP_write wyP_write 5 0 0 107 D cT aK aV sz [.ref a0, .int 0, .ref a2, .int x4] [(a0, .inr (2, [.ref a1, .int 1, v5])), (a1, .inl (cT 2, 4096, .inr (.inl f6))), (a2, .inr (1, [.ref a3, .int 0, v8])), (a3, .inl (cT 0, 4096, .inl f9))] (fun A => va_Qv (fun _ : Unit => True) (fun _ t => ∃ (y2 : Int32) (y3 : Int32) (y4 : Int32) (y5 : Int32), xB D xcl cT A [(a0, .inr (2, [.ref a1, .int 1, v5])), (a1, .inl (cT 2, 4096, .inr (.inl f6))), (a2, .inr (1, [.ref a3, .int 4, v8])), (a3, .inl (cT 0, 4096, .inl (upd (upd (upd (upd f9 0 (vp_nar .byte y2)) 1 (vp_nar .byte y3)) 2 (vp_nar .byte y4)) 3 (vp_nar .byte y5))))] t) A) := by
  refine Met.ofW (cc := prog_6_method_2_code) (maxL := 4) (ret := none) (by decide) rfl ?_
  intro p e s m args below meth c s₁ B hml hv
  obtain ⟨rfl, hsz, hZ, hP, hK, hD0⟩ := hv
  have hx := B.exec
  have hb := B.bytes
  have hr := B.returns
  have hts := atoms_spec (ws := wyP_write) B.pre
  have htx := fun w h => hts w (List.mem_cons_of_mem _ h)
  have hown : s.vm.findClass "ValueBench$Printer" = some m.cls := findClass_of_methodNamed B.named
  have hlocks := B.notSynchronized
  subst hsz
  have hD := hD0.self (sz := s.heap.size)
  generalize hAe : va_A [(a0, .inr (2, [.ref a1, .int 1, v5])), (a1, .inl (cT 2, 4096, .inr (.inl f6))), (a2, .inr (1, [.ref a3, .int 0, v8])), (a3, .inl (cT 0, 4096, .inl f9))] s.heap.size = A at hD hZ ⊢
  have hA : ∀ q : Nat, s.heap.size ≤ q → A q := fun q h => by rw [← hAe]; exact Or.inr h
  have hS : va_S A s.heap s.heap [] := va_S.rf
  have hP : va_P D xcl [(a0, .inr (2, [.ref a1, .int 1, v5])), (a1, .inl (cT 2, 4096, .inr (.inl f6))), (a2, .inr (1, [.ref a3, .int 0, v8])), (a3, .inl (cT 0, 4096, .inl f9))] s.heap := hP
  have hl := lv_entry ([.ref a0, .int 0, .ref a2, .int x4]) (n := 4) (Nat.le_of_ble_eq_true rfl)
  rw [lg_entry_eq]
  generalize (lg_sl ([.ref a0, .int 0, .ref a2, .int x4]) ++ List.replicate (4 - (lg_sl ([.ref a0, .int 0, .ref a2, .int x4])).length) Slot.unset).toArray = ls at hl ⊢
  have hl : lv_has ls 4 [(0, .ref a0), (1, .int 0), (2, .ref a2), (3, .int x4)] := hl
  refine lv_aload_n hx hb dP_write_0 rfl (lv_at hl 0 rfl) ?_
  refine lv_iload_n hx hb dP_write_1 rfl (lv_at hl 1 rfl) ?_
  obtain ⟨hPc, hDc, hFc⟩ := xcut (wc := [(a0, .inr (2, [.ref a1, .int 1, v5])), (a1, .inl (cT 2, 4096, .inr (.inl f6)))]) hP hD hS hA [0, 1] rfl rfl (by decide)
  refine va_calli (va_runV (C := "ValueBench$Row") (As := [.int 0]) (rest := []) ⟨hx, hb, hml, hown, htx⟩ (cR_kind_1 l hl9 D cT aK aV s.heap.size a0 a1 v5 f6 (by first | rfl | exact h7)) ⟨callB_of 1 htx (xw_goodC kw_3_24) rfl rfl rfl (htx _ kw_1_4) (htx _ kw_3_21) ⟨by decide, by decide, by decide +kernel⟩ ⟨Nat.le_of_ble_eq_true rfl, Nat.le_of_ble_eq_true rfl⟩, (htx _ kw_3_22), (htx _ kw_3_23)⟩ ⟨xPre_blind, va_recv hK hP (ci := 2) rfl (q0 := 0) rfl, (fun U hU hW => ⟨rfl, xPre_of hZ hS hFc hPc hDc hK U hU hW⟩)⟩ rfl rfl hl.1 rfl (lv_room (Nat.le_of_ble_eq_true rfl)) dP_write_2 ⟨Nat.le_of_ble_eq_true rfl, Nat.le_of_ble_eq_true rfl⟩) hS (fun q _ h => hFc q h) hFc (fun r1 u9 t H1 locs ht hvm hr9 hB hz1 hk1 hS => ?_)
  obtain ⟨hP1, hK1, hD1⟩ := hB
  rw [ht] at hP1
  obtain ⟨hP, hD⟩ := xjoin (W := [(a2, .inr (1, [.ref a3, .int 0, v8])), (a3, .inl (cT 0, 4096, .inl f9)), (a0, .inr (2, [.ref a1, .int 1, v5])), (a1, .inl (cT 2, 4096, .inr (.inl f6)))]) hP hD [0, 1] [2, 3] 2 rfl rfl (by decide) (by decide) hk1 hFc hP1 hD1
  generalize H1 = H at hP hS ⊢
  rw [hr9]
  refine W.eq (g2 := F0 m 5 ls [.int 2]) rfl ?_
  refine lv_tableIn (off := 53) (tgt := 58) hx hb dP_write_5 (by decide) (by decide) (by decide) (by decide) ?_
  refine lv_aload_n hx hb dP_write_58 rfl (lv_at hl 2 rfl) ?_
  refine va_ldcS (q := aK 12) hx hb hown (hZ.2.2.2.2.2.2.2.2.1 ("ValueBench$Printer", 25, "true", 12) (List.mem_of_getElem? (i := 12) rfl)) dP_write_59 ?_
  obtain ⟨hPc, hDc, hFc⟩ := xcut (wc := [(a2, .inr (1, [.ref a3, .int 0, v8])), (a3, .inl (cT 0, 4096, .inl f9))]) hP hD hS hA [0, 1] rfl rfl (by decide)
  refine va_callv (va_runV (C := "ValueBench$Text") (As := [.ref (aK 12)]) (rest := []) ⟨hx, hb, hml, hown, htx⟩ (cT_addWord_2 l hl9 D cT aK aV H.size a2 a3 v8 f9) ⟨callB_of 1 htx (xw_goodC kw_3_29) rfl rfl rfl (htx _ kw_1_2) (htx _ kw_3_26) ⟨by decide, by decide, by decide +kernel⟩ ⟨Nat.le_of_ble_eq_true rfl, Nat.le_of_ble_eq_true rfl⟩, (htx _ kw_3_27), (htx _ kw_3_28)⟩ ⟨xPre_blind, va_recv hK hP (ci := 1) rfl (q0 := 0) rfl, (fun U hU hW => ⟨rfl, xPre_of hZ hS hFc hPc hDc hK U hU hW⟩)⟩ rfl rfl hl.1 rfl (lv_room (Nat.le_of_ble_eq_true rfl)) dP_write_61 ⟨Nat.le_of_ble_eq_true rfl, Nat.le_of_ble_eq_true rfl⟩) hS (fun q _ h => hFc q h) hFc (fun u9 t H1 locs ht hvm hr9 hB hz1 hk1 hS => ?_)
  obtain ⟨y2, y3, y4, y5, hP1, hK1, hD1⟩ := hB
  rw [ht] at hP1
  obtain ⟨hP, hD⟩ := xjoin (W := [(a0, .inr (2, [.ref a1, .int 1, v5])), (a1, .inl (cT 2, 4096, .inr (.inl f6))), (a2, .inr (1, [.ref a3, .int 4, v8])), (a3, .inl (cT 0, 4096, .inl (upd (upd (upd (upd f9 0 (vp_nar .byte y2)) 1 (vp_nar .byte y3)) 2 (vp_nar .byte y4)) 3 (vp_nar .byte y5))))]) hP hD [0, 1] [2, 3] 2 rfl rfl (by decide) (by decide) hk1 hFc hP1 hD1
  generalize H1 = H at hP hS ⊢
  refine lv_goto (tgt := 95) hx hb dP_write_64 (by decide) ?_
  obtain ⟨hP9, hD9⟩ := xsub (wc := [(a0, .inr (2, [.ref a1, .int 1, v5])), (a1, .inl (cT 2, 4096, .inr (.inl f6))), (a2, .inr (1, [.ref a3, .int 4, v8])), (a3, .inl (cT 0, 4096, .inl (upd (upd (upd (upd f9 0 (vp_nar .byte y2)) 1 (vp_nar .byte y3)) 2 (vp_nar .byte y4)) 3 (vp_nar .byte y5))))]) hP hD [0, 1, 2, 3] rfl rfl (by decide)
  refine W.widen (k := 0) (n := 0) (Nat.le_of_ble_eq_true rfl) (Nat.le_of_ble_eq_true rfl) ?_
  exact W.vret hx hb hr (fun t ht hW => ⟨⟨(), rfl, trivial, y2, y3, y4, y5, by rw [ht]; exact hP9, va_K.moved hW.alike hK, hD9⟩, hS.F ht⟩) hS.2.2 dP_write_95
set_option maxHeartbeats 400000000 in
set_option maxRecDepth 100000 in
theorem cB_keepSpare_1 (l : Launch) (hl9 : l.stackTraces = false) (D : va_G) (cT : Nat → ClassId) (aK aV : Nat → Nat) (sz : Nat) (a0 : Nat) (a1 : Nat) (a2 : Nat) (a3 : Nat) (a4 : Nat) (a5 : Nat) (x6 : Int32) (v11 : Value) (v12 : Value) (v13 : Value) (v14 : Value) (v15 : Value) (v16 : Value) (v17 : Value) (f18 : Nat → Int64) (f20 : Nat → Int32) (f21 : Nat → Option Nat) (b22 : Nat) (h7 : ¬ x6 < 0) (h8 : ¬ 7 < x6) (h9 : x6 ≤ 7) (h10 : vp_in x6 8) (h19 : f18 0 = 2) (h23 : f21 x6.toNatClampNeg = some b22) : xMet l yB_keepSpare wyB_keepSpare 6 0 0 130 D cT aK aV sz [.ref a0, .int x6] [(a0, .inr (0, [v11, v12, .ref a1, .ref a5, v13, .ref a2, v14, v15])), (a1, .inr (1, [.ref a4, v16, v17])), (a2, .inr (2, [.ref a3, .int 1, .int 0])), (a3, .inl (cT 2, 4096, .inr (.inl f18))), (a4, .inl (cT 0, 4096, .inl f20)), (a5, .inl (cT 3, 8, .inr (.inr (.inr (.inr f21)))))] (fun A => va_Qi (fun (r : Int32) (_ : Unit) => r = 4) (fun _ t => ∃ (y1 : Int32) (y2 : Int32) (y3 : Int32) (y4 : Int32), xB D xcl cT A [(a0, .inr (0, [v11, v12, .ref a1, .ref a5, v13, .ref b22, v14, v15])), (a1, .inr (1, [.ref a4, .int 4, .int 0])), (a2, .inr (2, [.ref a3, .int 1, .int 0])), (a3, .inl (cT 2, 4096, .inr (.inl f18))), (a4, .inl (cT 0, 4096, .inl (upd (upd (upd (upd f20 0 (vp_nar .byte y1)) 1 (vp_nar .byte y2)) 2 (vp_nar .byte y3)) 3 (vp_nar .byte y4)))), (a5, .inl (cT 3, 8, .inr (.inr (.inr (.inr (va_up f21 x6.toNatClampNeg (some a2)))))))] t) A) := by
  refine Met.ofW (cc := prog_1_method_18_code) (maxL := 3) (ret := (some .int)) (by decide) rfl ?_
  intro p e s m args below meth c s₁ B hml hv
  obtain ⟨rfl, hsz, hZ, hP, hK, hD0⟩ := hv
  have hx := B.exec
  have hb := B.bytes
  have hr := B.returns
  have hts := atoms_spec (ws := wyB_keepSpare) B.pre
  have htx := fun w h => hts w (List.mem_cons_of_mem _ h)
  have hown : s.vm.findClass "ValueBench" = some m.cls := findClass_of_methodNamed B.named
  have hlocks := B.notSynchronized
  subst hsz
  have hD := hD0.self (sz := s.heap.size)
  generalize hAe : va_A [(a0, .inr (0, [v11, v12, .ref a1, .ref a5, v13, .ref a2, v14, v15])), (a1, .inr (1, [.ref a4, v16, v17])), (a2, .inr (2, [.ref a3, .int 1, .int 0])), (a3, .inl (cT 2, 4096, .inr (.inl f18))), (a4, .inl (cT 0, 4096, .inl f20)), (a5, .inl (cT 3, 8, .inr (.inr (.inr (.inr f21)))))] s.heap.size = A at hD hZ ⊢
  have hA : ∀ q : Nat, s.heap.size ≤ q → A q := fun q h => by rw [← hAe]; exact Or.inr h
  have hS : va_S A s.heap s.heap [] := va_S.rf
  have hP : va_P D xcl [(a0, .inr (0, [v11, v12, .ref a1, .ref a5, v13, .ref a2, v14, v15])), (a1, .inr (1, [.ref a4, v16, v17])), (a2, .inr (2, [.ref a3, .int 1, .int 0])), (a3, .inl (cT 2, 4096, .inr (.inl f18))), (a4, .inl (cT 0, 4096, .inl f20)), (a5, .inl (cT 3, 8, .inr (.inr (.inr (.inr f21)))))] s.heap := hP
  have hl := lv_entry ([.ref a0, .int x6]) (n := 3) (Nat.le_of_ble_eq_true rfl)
  rw [lg_entry_eq]
  generalize (lg_sl ([.ref a0, .int x6]) ++ List.replicate (3 - (lg_sl ([.ref a0, .int x6])).length) Slot.unset).toArray = ls at hl ⊢
  have hl : lv_has ls 3 [(0, .ref a0), (1, .int x6)] := hl
  refine lv_aload_n hx hb dB_keepSpare_0 rfl (lv_at hl 0 rfl) ?_
  refine va_get (D := D) (ci := 0) (v := .ref a1) (C := "ValueBench") (T := TB) (N := 8) hx hb htx inB hown hK hP 0 rfl rfl 2 (by decide) (htx _ kw_1_97) (fun _ h9 => h9) rfl dB_keepSpare_1 ?_
  obtain ⟨hPc, hDc, hFc⟩ := xcut (wc := [(a1, .inr (1, [.ref a4, v16, v17]))]) hP hD hS hA [1] rfl rfl (by decide)
  refine va_callv (va_runV (C := "ValueBench$Text") (As := []) (rest := []) ⟨hx, hb, hml, hown, htx⟩ (cT_clear_0 l hl9 D cT aK aV s.heap.size a1 (.ref a4) v16 v17) ⟨callB_of 0 htx (xw_goodC kw_2_237) rfl rfl rfl (htx _ kw_1_2) (htx _ kw_2_234) ⟨by decide, by decide, by decide +kernel⟩ ⟨Nat.le_of_ble_eq_true rfl, Nat.le_of_ble_eq_true rfl⟩, (htx _ kw_2_235), (htx _ kw_2_236)⟩ ⟨xPre_blind, va_recv hK hP (ci := 1) rfl (q0 := 1) rfl, (fun U hU hW => ⟨rfl, xPre_of hZ hS hFc hPc hDc hK U hU hW⟩)⟩ rfl rfl hl.1 rfl (lv_room (Nat.le_of_ble_eq_true rfl)) dB_keepSpare_4 ⟨Nat.le_of_ble_eq_true rfl, Nat.le_of_ble_eq_true rfl⟩) hS (fun q _ h => hFc q h) hFc (fun u9 t H1 locs ht hvm hr9 hB hz1 hk1 hS => ?_)
  obtain ⟨hP1, hK1, hD1⟩ := hB
  rw [ht] at hP1
  obtain ⟨hP, hD⟩ := xjoin (W := [(a0, .inr (0, [v11, v12, .ref a1, .ref a5, v13, .ref a2, v14, v15])), (a2, .inr (2, [.ref a3, .int 1, .int 0])), (a3, .inl (cT 2, 4096, .inr (.inl f18))), (a4, .inl (cT 0, 4096, .inl f20)), (a5, .inl (cT 3, 8, .inr (.inr (.inr (.inr f21))))), (a1, .inr (1, [.ref a4, .int 0, .int 0]))]) hP hD [1] [0, 2, 3, 4, 5] 5 rfl rfl (by decide) (by decide) hk1 hFc hP1 hD1
  generalize H1 = H at hP hS ⊢
  refine lv_aload_n hx hb dB_keepSpare_7 rfl (lv_at hl 0 rfl) ?_
  refine va_get (D := D) (ci := 0) (v := .ref a2) (C := "ValueBench") (T := TB) (N := 8) hx hb htx inB hown hK hP 0 rfl rfl 5 (by decide) (htx _ kw_1_100) (fun _ h9 => h9) rfl dB_keepSpare_8 ?_
  refine lv_iconst (v := 0) hx hb dB_keepSpare_11 (by decide) ?_
  refine lv_aload_n hx hb dB_keepSpare_12 rfl (lv_at hl 0 rfl) ?_
  refine va_get (D := D) (ci := 0) (v := .ref a1) (C := "ValueBench") (T := TB) (N := 8) hx hb htx inB hown hK hP 0 rfl rfl 2 (by decide) (htx _ kw_1_97) (fun _ h9 => h9) rfl dB_keepSpare_13 ?_
  refine lv_iconst (v := 0) hx hb dB_keepSpare_16 (by decide) ?_
  obtain ⟨hPc, hDc, hFc⟩ := xcut (wc := [(a2, .inr (2, [.ref a3, .int 1, .int 0])), (a3, .inl (cT 2, 4096, .inr (.inl f18))), (a1, .inr (1, [.ref a4, .int 0, .int 0])), (a4, .inl (cT 0, 4096, .inl f20))]) hP hD hS hA [1, 2, 5, 3] rfl rfl (by decide)
  refine va_callv (va_runS (As := [.ref a2, .int 0, .ref a1, .int 0]) (rest := []) ⟨hx, hb, hml, hown, htx⟩ (cP_write_2 l hl9 D cT aK aV H.size a2 a3 a1 a4 0 (.int 0) f18 (.int 0) f20 (by first | rfl | exact h19 | exact h23)) ⟨callB_of 4 htx (xw_goodC kw_3_20) rfl rfl rfl (htx _ kw_1_18) (htx _ kw_3_18) ⟨by decide, by decide, by decide +kernel⟩ ⟨Nat.le_of_ble_eq_true rfl, Nat.le_of_ble_eq_true rfl⟩, htx _ kw_3_19⟩ ⟨xPre_blind, (fun U hU hW => ⟨rfl, xPre_of hZ hS hFc hPc hDc hK U hU hW⟩)⟩ rfl rfl hl.1 rfl (lv_room (Nat.le_of_ble_eq_true rfl)) dB_keepSpare_17 ⟨Nat.le_of_ble_eq_true rfl, Nat.le_of_ble_eq_true rfl⟩) hS (fun q _ h => hFc q h) hFc (fun u9 t H1 locs ht hvm hr9 hB hz1 hk1 hS => ?_)
  obtain ⟨y1, y2, y3, y4, hP1, hK1, hD1⟩ := hB
  rw [ht] at hP1
  obtain ⟨hP, hD⟩ := xjoin (W := [(a0, .inr (0, [v11, v12, .ref a1, .ref a5, v13, .ref a2, v14, v15])), (a5, .inl (cT 3, 8, .inr (.inr (.inr (.inr f21))))), (a2, .inr (2, [.ref a3, .int 1, .int 0])), (a3, .inl (cT 2, 4096, .inr (.inl f18))), (a1, .inr (1, [.ref a4, .int 4, .int 0])), (a4, .inl (cT 0, 4096, .inl (upd (upd (upd (upd f20 0 (vp_nar .byte y1)) 1 (vp_nar .byte y2)) 2 (vp_nar .byte y3)) 3 (vp_nar .byte y4))))]) hP hD [1, 2, 5, 3] [0, 4] 2 rfl rfl (by decide) (by decide) hk1 hFc hP1 hD1
  generalize H1 = H at hP hS ⊢
  refine lv_aload_n hx hb dB_keepSpare_20 rfl (lv_at hl 0 rfl) ?_
  refine va_get (D := D) (ci := 0) (v := .ref a2) (C := "ValueBench") (T := TB) (N := 8) hx hb htx inB hown hK hP 0 rfl rfl 5 (by decide) (htx _ kw_1_100) (fun _ h9 => h9) rfl dB_keepSpare_21 ?_
  obtain ⟨hPc, hDc, hFc⟩ := xcut (wc := [(a2, .inr (2, [.ref a3, .int 1, .int 0]))]) hP hD hS hA [2] rfl rfl (by decide)
  refine va_calli (va_runV (C := "ValueBench$Row") (As := []) (rest := []) ⟨hx, hb, hml, hown, htx⟩ (cR_isOver_0 l hl9 D cT aK aV H.size a2 (.ref a3) (.int 1)) ⟨callB_of 0 htx (xw_goodC kw_3_82) rfl rfl rfl (htx _ kw_1_4) (htx _ kw_3_79) ⟨by decide, by decide, by decide +kernel⟩ ⟨Nat.le_of_ble_eq_true rfl, Nat.le_of_ble_eq_true rfl⟩, (htx _ kw_3_80), (htx _ kw_3_81)⟩ ⟨xPre_blind, va_recv hK hP (ci := 2) rfl (q0 := 2) rfl, (fun U hU hW => ⟨rfl, xPre_of hZ hS hFc hPc hDc hK U hU hW⟩)⟩ rfl rfl hl.1 rfl (lv_room (Nat.le_of_ble_eq_true rfl)) dB_keepSpare_24 ⟨Nat.le_of_ble_eq_true rfl, Nat.le_of_ble_eq_true rfl⟩) hS (fun q _ h => hFc q h) hFc (fun r5 u9 t H1 locs ht hvm hr9 hB hz1 hk1 hS => ?_)
  obtain ⟨hP1, hK1, hD1⟩ := hB
  rw [ht] at hP1
  obtain ⟨hP, hD⟩ := xjoin (W := [(a0, .inr (0, [v11, v12, .ref a1, .ref a5, v13, .ref a2, v14, v15])), (a5, .inl (cT 3, 8, .inr (.inr (.inr (.inr f21))))), (a3, .inl (cT 2, 4096, .inr (.inl f18))), (a1, .inr (1, [.ref a4, .int 4, .int 0])), (a4, .inl (cT 0, 4096, .inl (upd (upd (upd (upd f20 0 (vp_nar .byte y1)) 1 (vp_nar .byte y2)) 2 (vp_nar .byte y3)) 3 (vp_nar .byte y4)))), (a2, .inr (2, [.ref a3, .int 1, .int 0]))]) hP hD [2] [0, 1, 3, 4, 5] 5 rfl rfl (by decide) (by decide) hk1 hFc hP1 hD1
  generalize H1 = H at hP hS ⊢
  rw [hr9]
  refine W.eq (g2 := F0 m 27 ls [.int 0]) rfl ?_
  refine lv_if_ne (tgt := 40) hx hb dB_keepSpare_27 (by decide) (fun h => ((by revert h; decide : False)).elim) (fun _ => ?_)
  refine lv_aload_n hx hb dB_keepSpare_30 rfl (lv_at hl 0 rfl) ?_
  refine va_get (D := D) (ci := 0) (v := .ref a1) (C := "ValueBench") (T := TB) (N := 8) hx hb htx inB hown hK hP 0 rfl rfl 2 (by decide) (htx _ kw_1_97) (fun _ h9 => h9) rfl dB_keepSpare_31 ?_
  obtain ⟨hPc, hDc, hFc⟩ := xcut (wc := [(a1, .inr (1, [.ref a4, .int 4, .int 0]))]) hP hD hS hA [3] rfl rfl (by decide)
  refine va_calli (va_runV (C := "ValueBench$Text") (As := []) (rest := []) ⟨hx, hb, hml, hown, htx⟩ (cT_isOver_0 l hl9 D cT aK aV H.size a1 (.ref a4) (.int 4)) ⟨callB_of 0 htx (xw_goodC kw_3_86) rfl rfl rfl (htx _ kw_1_2) (htx _ kw_3_83) ⟨by decide, by decide, by decide +kernel⟩ ⟨Nat.le_of_ble_eq_true rfl, Nat.le_of_ble_eq_true rfl⟩, (htx _ kw_3_84), (htx _ kw_3_85)⟩ ⟨xPre_blind, va_recv hK hP (ci := 1) rfl (q0 := 3) rfl, (fun U hU hW => ⟨rfl, xPre_of hZ hS hFc hPc hDc hK U hU hW⟩)⟩ rfl rfl hl.1 rfl (lv_room (Nat.le_of_ble_eq_true rfl)) dB_keepSpare_34 ⟨Nat.le_of_ble_eq_true rfl, Nat.le_of_ble_eq_true rfl⟩) hS (fun q _ h => hFc q h) hFc (fun r6 u9 t H1 locs ht hvm hr9 hB hz1 hk1 hS => ?_)
  obtain ⟨hP1, hK1, hD1⟩ := hB
  rw [ht] at hP1
  obtain ⟨hP, hD⟩ := xjoin (W := [(a0, .inr (0, [v11, v12, .ref a1, .ref a5, v13, .ref a2, v14, v15])), (a5, .inl (cT 3, 8, .inr (.inr (.inr (.inr f21))))), (a3, .inl (cT 2, 4096, .inr (.inl f18))), (a4, .inl (cT 0, 4096, .inl (upd (upd (upd (upd f20 0 (vp_nar .byte y1)) 1 (vp_nar .byte y2)) 2 (vp_nar .byte y3)) 3 (vp_nar .byte y4)))), (a2, .inr (2, [.ref a3, .int 1, .int 0])), (a1, .inr (1, [.ref a4, .int 4, .int 0]))]) hP hD [3] [0, 1, 2, 4, 5] 5 rfl rfl (by decide) (by decide) hk1 hFc hP1 hD1
  generalize H1 = H at hP hS ⊢
  rw [hr9]
  refine W.eq (g2 := F0 m 37 ls [.int 0]) rfl ?_
  refine lv_if_eq (tgt := 50) hx hb dB_keepSpare_37 (by decide) (fun _ => ?_) (fun h => ((by revert h; decide : False)).elim)
  refine lv_aload_n hx hb dB_keepSpare_50 rfl (lv_at hl 0 rfl) ?_
  refine va_get (D := D) (ci := 0) (v := .ref a5) (C := "ValueBench") (T := TB) (N := 8) hx hb htx inB hown hK hP 0 rfl rfl 3 (by decide) (htx _ kw_1_98) (fun _ h9 => h9) rfl dB_keepSpare_51 ?_
  refine lv_iload_n hx hb dB_keepSpare_54 rfl (lv_at hl 1 rfl) ?_
  refine va_aldq hx hb hK hP 1 3 rfl rfl h10 dB_keepSpare_55 ?_
  refine W.eq (g2 := F0 m 56 ls [va_rf (f21 x6.toNatClampNeg)]) rfl ?_
  rw [h23]
  refine W.eq (g2 := F0 m 56 ls [.ref b22]) rfl ?_
  refine lv_astore_n (lv' := [(2, .ref b22), (0, .ref a0), (1, .int x6)]) hx hb dB_keepSpare_56 rfl hl (by decide) rfl (fun ls hl => ?_)
  refine lv_aload_n hx hb dB_keepSpare_57 rfl (lv_at hl 1 rfl) ?_
  refine va_get (D := D) (ci := 0) (v := .ref a5) (C := "ValueBench") (T := TB) (N := 8) hx hb htx inB hown hK hP 0 rfl rfl 3 (by decide) (htx _ kw_1_98) (fun _ h9 => h9) rfl dB_keepSpare_58 ?_
  refine lv_iload_n hx hb dB_keepSpare_61 rfl (lv_at hl 2 rfl) ?_
  refine lv_aload_n hx hb dB_keepSpare_62 rfl (lv_at hl 1 rfl) ?_
  refine va_get (D := D) (ci := 0) (v := .ref a2) (C := "ValueBench") (T := TB) (N := 8) hx hb htx inB hown hK hP 0 rfl rfl 5 (by decide) (htx _ kw_1_100) (fun _ h9 => h9) rfl dB_keepSpare_63 ?_
  refine va_astq (r := ("ValueBench$Row", TR, 3)) hx hb hK hP hD hS 1 3 4 2 rfl rfl rfl rfl h10 dB_keepSpare_66 (fun H locs hP hD hS => ?_)
  obtain ⟨hP, hD⟩ : xPD D xcl A [(a0, .inr (0, [v11, v12, .ref a1, .ref a5, v13, .ref a2, v14, v15])), (a5, .inl (cT 3, 8, .inr (.inr (.inr (.inr (va_up f21 x6.toNatClampNeg (some a2))))))), (a3, .inl (cT 2, 4096, .inr (.inl f18))), (a4, .inl (cT 0, 4096, .inl (upd (upd (upd (upd f20 0 (vp_nar .byte y1)) 1 (vp_nar .byte y2)) 2 (vp_nar .byte y3)) 3 (vp_nar .byte y4)))), (a2, .inr (2, [.ref a3, .int 1, .int 0])), (a1, .inr (1, [.ref a4, .int 4, .int 0]))] H := ⟨hP, hD⟩
  refine lv_aload_n hx hb dB_keepSpare_67 rfl (lv_at hl 1 rfl) ?_
  refine lv_aload_n hx hb dB_keepSpare_68 rfl (lv_at hl 0 rfl) ?_
  refine va_put (D := D) (ci := 0) (v := .ref b22) (ty := (.object "ValueBench$Row")) (C := "ValueBench") (T := TB) (N := 8) hx hb htx inB tyB tyB_ok nmB hown hK hP hD hS 0 rfl rfl 5 (by decide) (htx _ kw_1_100) (fun _ h9 => h9) rfl (by decide +kernel) rfl rfl (Nat.le_of_ble_eq_true rfl) dB_keepSpare_69 (fun H locs hP hD hS => ?_)
  obtain ⟨hP, hD⟩ : xPD D xcl A [(a0, .inr (0, [v11, v12, .ref a1, .ref a5, v13, .ref b22, v14, v15])), (a5, .inl (cT 3, 8, .inr (.inr (.inr (.inr (va_up f21 x6.toNatClampNeg (some a2))))))), (a3, .inl (cT 2, 4096, .inr (.inl f18))), (a4, .inl (cT 0, 4096, .inl (upd (upd (upd (upd f20 0 (vp_nar .byte y1)) 1 (vp_nar .byte y2)) 2 (vp_nar .byte y3)) 3 (vp_nar .byte y4)))), (a2, .inr (2, [.ref a3, .int 1, .int 0])), (a1, .inr (1, [.ref a4, .int 4, .int 0]))] H := ⟨hP, hD⟩
  refine lv_aload_n hx hb dB_keepSpare_72 rfl (lv_at hl 1 rfl) ?_
  refine va_get (D := D) (ci := 0) (v := .ref a1) (C := "ValueBench") (T := TB) (N := 8) hx hb htx inB hown hK hP 0 rfl rfl 2 (by decide) (htx _ kw_1_97) (fun _ h9 => h9) rfl dB_keepSpare_73 ?_
  obtain ⟨hPc, hDc, hFc⟩ := xcut (wc := [(a1, .inr (1, [.ref a4, .int 4, .int 0]))]) hP hD hS hA [5] rfl rfl (by decide)
  refine va_calli (va_runV (C := "ValueBench$Text") (As := []) (rest := []) ⟨hx, hb, hml, hown, htx⟩ (cT_size_2 l hl9 D cT aK aV H.size a1 (.ref a4) 4 (.int 0)) ⟨callB_of 0 htx (xw_goodC kw_1_131) rfl rfl rfl (htx _ kw_1_2) (htx _ kw_1_128) ⟨by decide, by decide, by decide +kernel⟩ ⟨Nat.le_of_ble_eq_true rfl, Nat.le_of_ble_eq_true rfl⟩, (htx _ kw_1_129), (htx _ kw_1_130)⟩ ⟨xPre_blind, va_recv hK hP (ci := 1) rfl (q0 := 5) rfl, (fun U hU hW => ⟨rfl, xPre_of hZ hS hFc hPc hDc hK U hU hW⟩)⟩ rfl rfl hl.1 rfl (lv_room (Nat.le_of_ble_eq_true rfl)) dB_keepSpare_76 ⟨Nat.le_of_ble_eq_true rfl, Nat.le_of_ble_eq_true rfl⟩) hS (fun q _ h => hFc q h) hFc (fun r7 u9 t H1 locs ht hvm hr9 hB hz1 hk1 hS => ?_)
  obtain ⟨hP1, hK1, hD1⟩ := hB
  rw [ht] at hP1
  obtain ⟨hP, hD⟩ := xjoin (W := [(a0, .inr (0, [v11, v12, .ref a1, .ref a5, v13, .ref b22, v14, v15])), (a5, .inl (cT 3, 8, .inr (.inr (.inr (.inr (va_up f21 x6.toNatClampNeg (some a2))))))), (a3, .inl (cT 2, 4096, .inr (.inl f18))), (a4, .inl (cT 0, 4096, .inl (upd (upd (upd (upd f20 0 (vp_nar .byte y1)) 1 (vp_nar .byte y2)) 2 (vp_nar .byte y3)) 3 (vp_nar .byte y4)))), (a2, .inr (2, [.ref a3, .int 1, .int 0])), (a1, .inr (1, [.ref a4, .int 4, .int 0]))]) hP hD [5] [0, 1, 2, 3, 4] 5 rfl rfl (by decide) (by decide) hk1 hFc hP1 hD1
  generalize H1 = H at hP hS ⊢
  rw [hr9]
  refine W.eq (g2 := F0 m 79 ls [.int 4]) rfl ?_
  obtain ⟨hP9, hD9⟩ := xsub (wc := [(a0, .inr (0, [v11, v12, .ref a1, .ref a5, v13, .ref b22, v14, v15])), (a1, .inr (1, [.ref a4, .int 4, .int 0])), (a2, .inr (2, [.ref a3, .int 1, .int 0])), (a3, .inl (cT 2, 4096, .inr (.inl f18))), (a4, .inl (cT 0, 4096, .inl (upd (upd (upd (upd f20 0 (vp_nar .byte y1)) 1 (vp_nar .byte y2)) 2 (vp_nar .byte y3)) 3 (vp_nar .byte y4)))), (a5, .inl (cT 3, 8, .inr (.inr (.inr (.inr (va_up f21 x6.toNatClampNeg (some a2)))))))]) hP hD [0, 5, 4, 2, 3, 1] rfl rfl (by decide)
  refine W.widen (k := 0) (n := 0) (Nat.le_of_ble_eq_true rfl) (Nat.le_of_ble_eq_true rfl) ?_
  exact W.iret (v := 4) hx hb hr (fun t ht hW => ⟨⟨4, (), rfl, rfl, y1, y2, y3, y4, by rw [ht]; exact hP9, va_K.moved hW.alike hK, hD9⟩, hS.F ht⟩) hS.2.2 dB_keepSpare_79
set_option maxHeartbeats 400000000 in
set_option maxRecDepth 100000 in
theorem cB_one_6 (l : Launch) (hl9 : l.stackTraces = false) (D : va_G) (cT : Nat → ClassId) (aK aV : Nat → Nat) (sz : Nat) (a0 : Nat) (a1 : Nat) (a2 : Nat) (a3 : Nat) (a4 : Nat) (a5 : Nat) (a6 : Nat) (a7 : Nat) (x8 : Int32) (x13 : Int32) (v18 : Value) (v19 : Value) (b20 : Nat) (v21 : Value) (v22 : Value) (v23 : Value) (v24 : Value) (f25 : Nat → Option Nat) (b27 : Nat) (v29 : Value) (f30 : Nat → Int64) (f32 : Nat → Int64) (v33 : Value) (v34 : Value) (f35 : Nat → Int32) (h9 : ¬ x8 < 0) (h10 : ¬ 7 < x8) (h11 : x8 ≤ 7) (h12 : vp_in x8 8) (h14 : ¬ x13 < 0) (h15 : ¬ 7 < x13) (h16 : x13 ≤ 7) (h17 : vp_in x13 8) (h26 : f25 x13.toNatClampNeg = some a3) (h28 : f25 x8.toNatClampNeg = some b27) (h31 : f30 0 = 0) : xMet l yB_one wyB_one 7 0 0 152 D cT aK aV sz [.ref a0, .int x8, .int 0, .int x13] [(a0, .inr (0, [v18, v19, .ref a6, .ref a2, .ref b20, .ref a1, v21, v22])), (a1, .inr (2, [.ref a5, v23, v24])), (a2, .inl (cT 3, 8, .inr (.inr (.inr (.inr f25))))), (a3, .inr (2, [.ref a4, .int 1, v29])), (a4, .inl (cT 2, 4096, .inr (.inl f30))), (a5, .inl (cT 2, 4096, .inr (.inl f32))), (a6, .inr (1, [.ref a7, v33, v34])), (a7, .inl (cT 0, 4096, .inl f35))] (fun A => va_Qv (fun _ : Unit => True) (fun _ t => ∃ (y6 : Int32) (y7 : Int32) (y8 : Int32) (y9 : Int32), xB D xcl cT A [(a0, .inr (0, [v18, v19, .ref a6, .ref a2, .ref b20, .ref b27, v21, v22])), (a1, .inr (2, [.ref a5, .int 1, .int 0])), (a2, .inl (cT 3, 8, .inr (.inr (.inr (.inr (va_up f25 x8.toNatClampNeg (some a1))))))), (a3, .inr (2, [.ref a4, .int 1, v29])), (a4, .inl (cT 2, 4096, .inr (.inl f30))), (a5, .inl (cT 2, 4096, .inr (.inl (vp_updL f32 0 2)))), (a6, .inr (1, [.ref a7, .int 4, .int 0])), (a7, .inl (cT 0, 4096, .inl (upd (upd (upd (upd f35 0 (vp_nar .byte y6)) 1 (vp_nar .byte y7)) 2 (vp_nar .byte y8)) 3 (vp_nar .byte y9))))] t) A) := by
  refine Met.ofW (cc := prog_1_method_9_code) (maxL := 4) (ret := none) (by decide) rfl ?_
  intro p e s m args below meth c s₁ B hml hv
  obtain ⟨rfl, hsz, hZ, hP, hK, hD0⟩ := hv
  have hx := B.exec
  have hb := B.bytes
  have hr := B.returns
  have hts := atoms_spec (ws := wyB_one) B.pre
  have htx := fun w h => hts w (List.mem_cons_of_mem _ h)
  have hown : s.vm.findClass "ValueBench" = some m.cls := findClass_of_methodNamed B.named
  have hlocks := B.notSynchronized
  subst hsz
  have hD := hD0.self (sz := s.heap.size)
  generalize hAe : va_A [(a0, .inr (0, [v18, v19, .ref a6, .ref a2, .ref b20, .ref a1, v21, v22])), (a1, .inr (2, [.ref a5, v23, v24])), (a2, .inl (cT 3, 8, .inr (.inr (.inr (.inr f25))))), (a3, .inr (2, [.ref a4, .int 1, v29])), (a4, .inl (cT 2, 4096, .inr (.inl f30))), (a5, .inl (cT 2, 4096, .inr (.inl f32))), (a6, .inr (1, [.ref a7, v33, v34])), (a7, .inl (cT 0, 4096, .inl f35))] s.heap.size = A at hD hZ ⊢
  have hA : ∀ q : Nat, s.heap.size ≤ q → A q := fun q h => by rw [← hAe]; exact Or.inr h
  have hS : va_S A s.heap s.heap [] := va_S.rf
  have hP : va_P D xcl [(a0, .inr (0, [v18, v19, .ref a6, .ref a2, .ref b20, .ref a1, v21, v22])), (a1, .inr (2, [.ref a5, v23, v24])), (a2, .inl (cT 3, 8, .inr (.inr (.inr (.inr f25))))), (a3, .inr (2, [.ref a4, .int 1, v29])), (a4, .inl (cT 2, 4096, .inr (.inl f30))), (a5, .inl (cT 2, 4096, .inr (.inl f32))), (a6, .inr (1, [.ref a7, v33, v34])), (a7, .inl (cT 0, 4096, .inl f35))] s.heap := hP
  have hl := lv_entry ([.ref a0, .int x8, .int 0, .int x13]) (n := 4) (Nat.le_of_ble_eq_true rfl)
  rw [lg_entry_eq]
  generalize (lg_sl ([.ref a0, .int x8, .int 0, .int x13]) ++ List.replicate (4 - (lg_sl ([.ref a0, .int x8, .int 0, .int x13])).length) Slot.unset).toArray = ls at hl ⊢
  have hl : lv_has ls 4 [(0, .ref a0), (1, .int x8), (2, .int 0), (3, .int x13)] := hl
  refine lv_iload_n hx hb dB_one_0 rfl (lv_at hl 1 rfl) ?_
  obtain ⟨hPc, hDc, hFc⟩ := xcut (wc := []) hP hD hS hA [] rfl rfl (by decide)
  refine va_calli (va_runS (As := [.int x8]) (rest := []) ⟨hx, hb, hml, hown, htx⟩ (cB_isRegister_2 l hl9 D cT aK aV s.heap.size x8 h9 h10 h11 h12) ⟨callB_of 1 htx (xw_goodC kw_2_18) rfl rfl rfl (htx _ kw_1_1) (htx _ kw_2_16) ⟨by decide, by decide, by decide +kernel⟩ ⟨Nat.le_of_ble_eq_true rfl, Nat.le_of_ble_eq_true rfl⟩, htx _ kw_2_17⟩ ⟨xPre_blind, (fun U hU hW => ⟨rfl, xPre_of hZ hS hFc hPc hDc hK U hU hW⟩)⟩ rfl rfl hl.1 rfl (lv_room (Nat.le_of_ble_eq_true rfl)) dB_one_1 ⟨Nat.le_of_ble_eq_true rfl, Nat.le_of_ble_eq_true rfl⟩) hS (fun q _ h => hFc q h) hFc (fun r1 u9 t H1 locs ht hvm hr9 hB hz1 hk1 hS => ?_)
  obtain ⟨hP1, hK1, hD1⟩ := hB
  rw [ht] at hP1
  obtain ⟨hP, hD⟩ := xjoin (W := [(a0, .inr (0, [v18, v19, .ref a6, .ref a2, .ref b20, .ref a1, v21, v22])), (a1, .inr (2, [.ref a5, v23, v24])), (a2, .inl (cT 3, 8, .inr (.inr (.inr (.inr f25))))), (a3, .inr (2, [.ref a4, .int 1, v29])), (a4, .inl (cT 2, 4096, .inr (.inl f30))), (a5, .inl (cT 2, 4096, .inr (.inl f32))), (a6, .inr (1, [.ref a7, v33, v34])), (a7, .inl (cT 0, 4096, .inl f35))]) hP hD [] [0, 1, 2, 3, 4, 5, 6, 7] 8 rfl rfl (by decide) (by decide) hk1 hFc hP1 hD1
  generalize H1 = H at hP hS ⊢
  rw [hr9]
  refine W.eq (g2 := F0 m 4 ls [.int 1]) rfl ?_
  refine lv_if_eq (tgt := 27) hx hb dB_one_4 (by decide) (fun h => ((by revert h; decide : False)).elim) (fun _ => ?_)
  refine lv_iload_n hx hb dB_one_7 rfl (lv_at hl 2 rfl) ?_
  refine lv_bipush (v := 13) hx hb dB_one_8 (by decide) ?_
  obtain ⟨hPc, hDc, hFc⟩ := xcut (wc := []) hP hD hS hA [] rfl rfl (by decide)
  refine va_calli (va_runS (As := [.int 0, .int 13]) (rest := []) ⟨hx, hb, hml, hown, htx⟩ (cB_isWithin_14 l hl9 D cT aK aV H.size) ⟨callB_of 2 htx (xw_goodC kw_1_218) rfl rfl rfl (htx _ kw_1_1) (htx _ kw_1_216) ⟨by decide, by decide, by decide +kernel⟩ ⟨Nat.le_of_ble_eq_true rfl, Nat.le_of_ble_eq_true rfl⟩, htx _ kw_1_217⟩ ⟨xPre_blind, (fun U hU hW => ⟨rfl, xPre_of hZ hS hFc hPc hDc hK U hU hW⟩)⟩ rfl rfl hl.1 rfl (lv_room (Nat.le_of_ble_eq_true rfl)) dB_one_10 ⟨Nat.le_of_ble_eq_true rfl, Nat.le_of_ble_eq_true rfl⟩) hS (fun q _ h => hFc q h) hFc (fun r2 u9 t H1 locs ht hvm hr9 hB hz1 hk1 hS => ?_)
  obtain ⟨hP1, hK1, hD1⟩ := hB
  rw [ht] at hP1
  obtain ⟨hP, hD⟩ := xjoin (W := [(a0, .inr (0, [v18, v19, .ref a6, .ref a2, .ref b20, .ref a1, v21, v22])), (a1, .inr (2, [.ref a5, v23, v24])), (a2, .inl (cT 3, 8, .inr (.inr (.inr (.inr f25))))), (a3, .inr (2, [.ref a4, .int 1, v29])), (a4, .inl (cT 2, 4096, .inr (.inl f30))), (a5, .inl (cT 2, 4096, .inr (.inl f32))), (a6, .inr (1, [.ref a7, v33, v34])), (a7, .inl (cT 0, 4096, .inl f35))]) hP hD [] [0, 1, 2, 3, 4, 5, 6, 7] 8 rfl rfl (by decide) (by decide) hk1 hFc hP1 hD1
  generalize H1 = H at hP hS ⊢
  rw [hr9]
  refine W.eq (g2 := F0 m 13 ls [.int 1]) rfl ?_
  refine lv_if_eq (tgt := 27) hx hb dB_one_13 (by decide) (fun h => ((by revert h; decide : False)).elim) (fun _ => ?_)
  refine lv_iload_n hx hb dB_one_16 rfl (lv_at hl 3 rfl) ?_
  obtain ⟨hPc, hDc, hFc⟩ := xcut (wc := []) hP hD hS hA [] rfl rfl (by decide)
  refine va_calli (va_runS (As := [.int x13]) (rest := []) ⟨hx, hb, hml, hown, htx⟩ (cB_isRegister_2 l hl9 D cT aK aV H.size x13 h14 h15 h16 h17) ⟨callB_of 1 htx (xw_goodC kw_2_18) rfl rfl rfl (htx _ kw_1_1) (htx _ kw_2_16) ⟨by decide, by decide, by decide +kernel⟩ ⟨Nat.le_of_ble_eq_true rfl, Nat.le_of_ble_eq_true rfl⟩, htx _ kw_2_17⟩ ⟨xPre_blind, (fun U hU hW => ⟨rfl, xPre_of hZ hS hFc hPc hDc hK U hU hW⟩)⟩ rfl rfl hl.1 rfl (lv_room (Nat.le_of_ble_eq_true rfl)) dB_one_17 ⟨Nat.le_of_ble_eq_true rfl, Nat.le_of_ble_eq_true rfl⟩) hS (fun q _ h => hFc q h) hFc (fun r3 u9 t H1 locs ht hvm hr9 hB hz1 hk1 hS => ?_)
  obtain ⟨hP1, hK1, hD1⟩ := hB
  rw [ht] at hP1
  obtain ⟨hP, hD⟩ := xjoin (W := [(a0, .inr (0, [v18, v19, .ref a6, .ref a2, .ref b20, .ref a1, v21, v22])), (a1, .inr (2, [.ref a5, v23, v24])), (a2, .inl (cT 3, 8, .inr (.inr (.inr (.inr f25))))), (a3, .inr (2, [.ref a4, .int 1, v29])), (a4, .inl (cT 2, 4096, .inr (.inl f30))), (a5, .inl (cT 2, 4096, .inr (.inl f32))), (a6, .inr (1, [.ref a7, v33, v34])), (a7, .inl (cT 0, 4096, .inl f35))]) hP hD [] [0, 1, 2, 3, 4, 5, 6, 7] 8 rfl rfl (by decide) (by decide) hk1 hFc hP1 hD1
  generalize H1 = H at hP hS ⊢
  rw [hr9]
  refine W.eq (g2 := F0 m 20 ls [.int 1]) rfl ?_
  refine lv_if_eq (tgt := 27) hx hb dB_one_20 (by decide) (fun h => ((by revert h; decide : False)).elim) (fun _ => ?_)
  refine lv_iconst (v := 1) hx hb dB_one_23 (by decide) ?_
  refine lv_goto (tgt := 28) hx hb dB_one_24 (by decide) ?_
  obtain ⟨hPc, hDc, hFc⟩ := xcut (wc := []) hP hD hS hA [] rfl rfl (by decide)
  refine va_callv (va_runS (As := [.int 1]) (rest := []) ⟨hx, hb, hml, hown, htx⟩ (cB_demand_1 l hl9 D cT aK aV H.size) ⟨callB_of 1 htx (xw_goodC kw_1_221) rfl rfl rfl (htx _ kw_1_1) (htx _ kw_1_219) ⟨by decide, by decide, by decide +kernel⟩ ⟨Nat.le_of_ble_eq_true rfl, Nat.le_of_ble_eq_true rfl⟩, htx _ kw_1_220⟩ ⟨xPre_blind, (fun U hU hW => ⟨rfl, xPre_of hZ hS hFc hPc hDc hK U hU hW⟩)⟩ rfl rfl hl.1 rfl (lv_room (Nat.le_of_ble_eq_true rfl)) dB_one_28 ⟨Nat.le_of_ble_eq_true rfl, Nat.le_of_ble_eq_true rfl⟩) hS (fun q _ h => hFc q h) hFc (fun u9 t H1 locs ht hvm hr9 hB hz1 hk1 hS => ?_)
  obtain ⟨hP1, hK1, hD1⟩ := hB
  rw [ht] at hP1
  obtain ⟨hP, hD⟩ := xjoin (W := [(a0, .inr (0, [v18, v19, .ref a6, .ref a2, .ref b20, .ref a1, v21, v22])), (a1, .inr (2, [.ref a5, v23, v24])), (a2, .inl (cT 3, 8, .inr (.inr (.inr (.inr f25))))), (a3, .inr (2, [.ref a4, .int 1, v29])), (a4, .inl (cT 2, 4096, .inr (.inl f30))), (a5, .inl (cT 2, 4096, .inr (.inl f32))), (a6, .inr (1, [.ref a7, v33, v34])), (a7, .inl (cT 0, 4096, .inl f35))]) hP hD [] [0, 1, 2, 3, 4, 5, 6, 7] 8 rfl rfl (by decide) (by decide) hk1 hFc hP1 hD1
  generalize H1 = H at hP hS ⊢
  refine lv_aload_n hx hb dB_one_31 rfl (lv_at hl 0 rfl) ?_
  refine va_get (D := D) (ci := 0) (v := .ref a1) (C := "ValueBench") (T := TB) (N := 8) hx hb htx inB hown hK hP 0 rfl rfl 5 (by decide) (htx _ kw_1_100) (fun _ h9 => h9) rfl dB_one_32 ?_
  obtain ⟨hPc, hDc, hFc⟩ := xcut (wc := [(a1, .inr (2, [.ref a5, v23, v24]))]) hP hD hS hA [1] rfl rfl (by decide)
  refine va_callv (va_runV (C := "ValueBench$Row") (As := []) (rest := []) ⟨hx, hb, hml, hown, htx⟩ (cR_clear_0 l hl9 D cT aK aV H.size a1 (.ref a5) v23 v24) ⟨callB_of 0 htx (xw_goodC kw_2_22) rfl rfl rfl (htx _ kw_1_4) (htx _ kw_2_19) ⟨by decide, by decide, by decide +kernel⟩ ⟨Nat.le_of_ble_eq_true rfl, Nat.le_of_ble_eq_true rfl⟩, (htx _ kw_2_20), (htx _ kw_2_21)⟩ ⟨xPre_blind, va_recv hK hP (ci := 2) rfl (q0 := 1) rfl, (fun U hU hW => ⟨rfl, xPre_of hZ hS hFc hPc hDc hK U hU hW⟩)⟩ rfl rfl hl.1 rfl (lv_room (Nat.le_of_ble_eq_true rfl)) dB_one_35 ⟨Nat.le_of_ble_eq_true rfl, Nat.le_of_ble_eq_true rfl⟩) hS (fun q _ h => hFc q h) hFc (fun u9 t H1 locs ht hvm hr9 hB hz1 hk1 hS => ?_)
  obtain ⟨hP1, hK1, hD1⟩ := hB
  rw [ht] at hP1
  obtain ⟨hP, hD⟩ := xjoin (W := [(a0, .inr (0, [v18, v19, .ref a6, .ref a2, .ref b20, .ref a1, v21, v22])), (a2, .inl (cT 3, 8, .inr (.inr (.inr (.inr f25))))), (a3, .inr (2, [.ref a4, .int 1, v29])), (a4, .inl (cT 2, 4096, .inr (.inl f30))), (a5, .inl (cT 2, 4096, .inr (.inl f32))), (a6, .inr (1, [.ref a7, v33, v34])), (a7, .inl (cT 0, 4096, .inl f35)), (a1, .inr (2, [.ref a5, .int 0, .int 0]))]) hP hD [1] [0, 2, 3, 4, 5, 6, 7] 7 rfl rfl (by decide) (by decide) hk1 hFc hP1 hD1
  generalize H1 = H at hP hS ⊢
  refine lv_aload_n hx hb dB_one_38 rfl (lv_at hl 0 rfl) ?_
  refine lv_iload_n hx hb dB_one_39 rfl (lv_at hl 2 rfl) ?_
  refine lv_aload_n hx hb dB_one_40 rfl (lv_at hl 0 rfl) ?_
  refine va_get (D := D) (ci := 0) (v := .ref a2) (C := "ValueBench") (T := TB) (N := 8) hx hb htx inB hown hK hP 0 rfl rfl 3 (by decide) (htx _ kw_1_98) (fun _ h9 => h9) rfl dB_one_41 ?_
  refine lv_iload_n hx hb dB_one_44 rfl (lv_at hl 3 rfl) ?_
  refine va_aldq hx hb hK hP 1 3 rfl rfl h17 dB_one_45 ?_
  refine W.eq (g2 := F0 m 46 ls [va_rf (f25 x13.toNatClampNeg), .int 0, .ref a0]) rfl ?_
  rw [h26]
  refine W.eq (g2 := F0 m 46 ls [.ref a3, .int 0, .ref a0]) rfl ?_
  refine lv_aload_n hx hb dB_one_46 rfl (lv_at hl 0 rfl) ?_
  refine va_get (D := D) (ci := 0) (v := .ref a6) (C := "ValueBench") (T := TB) (N := 8) hx hb htx inB hown hK hP 0 rfl rfl 2 (by decide) (htx _ kw_1_97) (fun _ h9 => h9) rfl dB_one_47 ?_
  refine lv_aload_n hx hb dB_one_50 rfl (lv_at hl 0 rfl) ?_
  refine va_get (D := D) (ci := 0) (v := .ref b20) (C := "ValueBench") (T := TB) (N := 8) hx hb htx inB hown hK hP 0 rfl rfl 4 (by decide) (htx _ kw_1_99) (fun _ h9 => h9) rfl dB_one_51 ?_
  refine lv_aload_n hx hb dB_one_54 rfl (lv_at hl 0 rfl) ?_
  refine va_get (D := D) (ci := 0) (v := .ref a1) (C := "ValueBench") (T := TB) (N := 8) hx hb htx inB hown hK hP 0 rfl rfl 5 (by decide) (htx _ kw_1_100) (fun _ h9 => h9) rfl dB_one_55 ?_
  obtain ⟨hPc, hDc, hFc⟩ := xcut (wc := [(a3, .inr (2, [.ref a4, .int 1, v29])), (a4, .inl (cT 2, 4096, .inr (.inl f30))), (a1, .inr (2, [.ref a5, .int 0, .int 0])), (a5, .inl (cT 2, 4096, .inr (.inl f32)))]) hP hD hS hA [2, 3, 7, 4] rfl rfl (by decide)
  refine va_calli (va_runS (As := [.int 0, .ref a3, .ref a6, .ref b20, .ref a1]) (rest := [.ref a0]) ⟨hx, hb, hml, hown, htx⟩ (cG_apply_0 l hl9 D cT aK aV H.size a3 a4 a1 a5 a6 b20 v29 f30 f32 (by first | rfl | exact h26 | exact h28 | exact h31)) ⟨callB_of 5 htx (xw_goodC kw_4_28) rfl rfl rfl (htx _ kw_1_26) (htx _ kw_4_26) ⟨by decide, by decide, by decide +kernel⟩ ⟨Nat.le_of_ble_eq_true rfl, Nat.le_of_ble_eq_true rfl⟩, htx _ kw_4_27⟩ ⟨xPre_blind, (fun U hU hW => ⟨rfl, xPre_of hZ hS hFc hPc hDc hK U hU hW⟩)⟩ rfl rfl hl.1 rfl (lv_room (Nat.le_of_ble_eq_true rfl)) dB_one_58 ⟨Nat.le_of_ble_eq_true rfl, Nat.le_of_ble_eq_true rfl⟩) hS (fun q _ h => hFc q h) hFc (fun r4 u9 t H1 locs ht hvm hr9 hB hz1 hk1 hS => ?_)
  obtain ⟨hP1, hK1, hD1⟩ := hB
  rw [ht] at hP1
  obtain ⟨hP, hD⟩ := xjoin (W := [(a0, .inr (0, [v18, v19, .ref a6, .ref a2, .ref b20, .ref a1, v21, v22])), (a2, .inl (cT 3, 8, .inr (.inr (.inr (.inr f25))))), (a6, .inr (1, [.ref a7, v33, v34])), (a7, .inl (cT 0, 4096, .inl f35)), (a3, .inr (2, [.ref a4, .int 1, v29])), (a4, .inl (cT 2, 4096, .inr (.inl f30))), (a1, .inr (2, [.ref a5, .int 1, .int 0])), (a5, .inl (cT 2, 4096, .inr (.inl (vp_updL f32 0 2))))]) hP hD [2, 3, 7, 4] [0, 1, 5, 6] 4 rfl rfl (by decide) (by decide) hk1 hFc hP1 hD1
  generalize H1 = H at hP hS ⊢
  rw [hr9]
  refine W.eq (g2 := F0 m 61 ls [.int 0, .ref a0]) rfl ?_
  obtain ⟨hPc, hDc, hFc⟩ := xcut (wc := []) hP hD hS hA [] rfl rfl (by decide)
  refine va_callv (va_runV (C := "ValueBench") (As := [.int 0]) (rest := []) ⟨hx, hb, hml, hown, htx⟩ (cB_demandDone_0 l hl9 D cT aK aV H.size a0) ⟨callB_of 1 htx (xw_goodC kw_3_222) rfl rfl rfl (htx _ kw_1_1) (htx _ kw_3_219) ⟨by decide, by decide, by decide +kernel⟩ ⟨Nat.le_of_ble_eq_true rfl, Nat.le_of_ble_eq_true rfl⟩, (htx _ kw_3_221), (htx _ kp_B_demandDone)⟩ ⟨xPre_blind, va_recv hK hP (ci := 0) rfl (q0 := 0) rfl, (fun U hU hW => ⟨rfl, xPre_of hZ hS hFc hPc hDc hK U hU hW⟩)⟩ rfl rfl hl.1 rfl (lv_room (Nat.le_of_ble_eq_true rfl)) dB_one_61 ⟨Nat.le_of_ble_eq_true rfl, Nat.le_of_ble_eq_true rfl⟩) hS (fun q _ h => hFc q h) hFc (fun u9 t H1 locs ht hvm hr9 hB hz1 hk1 hS => ?_)
  obtain ⟨hP1, hK1, hD1⟩ := hB
  rw [ht] at hP1
  obtain ⟨hP, hD⟩ := xjoin (W := [(a0, .inr (0, [v18, v19, .ref a6, .ref a2, .ref b20, .ref a1, v21, v22])), (a2, .inl (cT 3, 8, .inr (.inr (.inr (.inr f25))))), (a6, .inr (1, [.ref a7, v33, v34])), (a7, .inl (cT 0, 4096, .inl f35)), (a3, .inr (2, [.ref a4, .int 1, v29])), (a4, .inl (cT 2, 4096, .inr (.inl f30))), (a1, .inr (2, [.ref a5, .int 1, .int 0])), (a5, .inl (cT 2, 4096, .inr (.inl (vp_updL f32 0 2))))]) hP hD [] [0, 1, 2, 3, 4, 5, 6, 7] 8 rfl rfl (by decide) (by decide) hk1 hFc hP1 hD1
  generalize H1 = H at hP hS ⊢
  refine lv_aload_n hx hb dB_one_64 rfl (lv_at hl 0 rfl) ?_
  refine lv_iload_n hx hb dB_one_65 rfl (lv_at hl 1 rfl) ?_
  obtain ⟨hPc, hDc, hFc⟩ := xcut (wc := [(a0, .inr (0, [v18, v19, .ref a6, .ref a2, .ref b20, .ref a1, v21, v22])), (a6, .inr (1, [.ref a7, v33, v34])), (a1, .inr (2, [.ref a5, .int 1, .int 0])), (a5, .inl (cT 2, 4096, .inr (.inl (vp_updL f32 0 2)))), (a7, .inl (cT 0, 4096, .inl f35)), (a2, .inl (cT 3, 8, .inr (.inr (.inr (.inr f25)))))]) hP hD hS hA [0, 2, 6, 7, 3, 1] rfl rfl (by decide)
  refine va_calli (va_runV (C := "ValueBench") (As := [.int x8]) (rest := []) ⟨hx, hb, hml, hown, htx⟩ (cB_keepSpare_1 l hl9 D cT aK aV H.size a0 a6 a1 a5 a7 a2 x8 v18 v19 (.ref b20) v21 v22 v33 v34 (vp_updL f32 0 2) f35 f25 b27 h9 h10 h11 h12 (by first | rfl | exact h26 | exact h28 | exact h31) (by first | rfl | exact h26 | exact h28 | exact h31)) ⟨callB_of 1 htx (xw_goodC kw_3_17) rfl rfl rfl (htx _ kw_1_1) (htx _ kw_3_14) ⟨by decide, by decide, by decide +kernel⟩ ⟨Nat.le_of_ble_eq_true rfl, Nat.le_of_ble_eq_true rfl⟩, (htx _ kw_3_16), (htx _ kp_B_keepSpare)⟩ ⟨xPre_blind, va_recv hK hP (ci := 0) rfl (q0 := 0) rfl, (fun U hU hW => ⟨rfl, xPre_of hZ hS hFc hPc hDc hK U hU hW⟩)⟩ rfl rfl hl.1 rfl (lv_room (Nat.le_of_ble_eq_true rfl)) dB_one_66 ⟨Nat.le_of_ble_eq_true rfl, Nat.le_of_ble_eq_true rfl⟩) hS (fun q _ h => hFc q h) hFc (fun r5 u9 t H1 locs ht hvm hr9 hB hz1 hk1 hS => ?_)
  obtain ⟨y6, y7, y8, y9, hP1, hK1, hD1⟩ := hB
  rw [ht] at hP1
  obtain ⟨hP, hD⟩ := xjoin (W := [(a3, .inr (2, [.ref a4, .int 1, v29])), (a4, .inl (cT 2, 4096, .inr (.inl f30))), (a0, .inr (0, [v18, v19, .ref a6, .ref a2, .ref b20, .ref b27, v21, v22])), (a6, .inr (1, [.ref a7, .int 4, .int 0])), (a1, .inr (2, [.ref a5, .int 1, .int 0])), (a5, .inl (cT 2, 4096, .inr (.inl (vp_updL f32 0 2)))), (a7, .inl (cT 0, 4096, .inl (upd (upd (upd (upd f35 0 (vp_nar .byte y6)) 1 (vp_nar .byte y7)) 2 (vp_nar .byte y8)) 3 (vp_nar .byte y9)))), (a2, .inl (cT 3, 8, .inr (.inr (.inr (.inr (va_up f25 x8.toNatClampNeg (some a1)))))))]) hP hD [0, 2, 6, 7, 3, 1] [4, 5] 2 rfl rfl (by decide) (by decide) hk1 hFc hP1 hD1
  generalize H1 = H at hP hS ⊢
  rw [hr9]
  refine W.eq (g2 := F0 m 69 ls [.int 4]) rfl ?_
  refine lv_pop hx hb dB_one_69 rfl ?_
  obtain ⟨hP9, hD9⟩ := xsub (wc := [(a0, .inr (0, [v18, v19, .ref a6, .ref a2, .ref b20, .ref b27, v21, v22])), (a1, .inr (2, [.ref a5, .int 1, .int 0])), (a2, .inl (cT 3, 8, .inr (.inr (.inr (.inr (va_up f25 x8.toNatClampNeg (some a1))))))), (a3, .inr (2, [.ref a4, .int 1, v29])), (a4, .inl (cT 2, 4096, .inr (.inl f30))), (a5, .inl (cT 2, 4096, .inr (.inl (vp_updL f32 0 2)))), (a6, .inr (1, [.ref a7, .int 4, .int 0])), (a7, .inl (cT 0, 4096, .inl (upd (upd (upd (upd f35 0 (vp_nar .byte y6)) 1 (vp_nar .byte y7)) 2 (vp_nar .byte y8)) 3 (vp_nar .byte y9))))]) hP hD [2, 4, 7, 0, 1, 5, 3, 6] rfl rfl (by decide)
  refine W.widen (k := 0) (n := 0) (Nat.le_of_ble_eq_true rfl) (Nat.le_of_ble_eq_true rfl) ?_
  exact W.vret hx hb hr (fun t ht hW => ⟨⟨(), rfl, trivial, y6, y7, y8, y9, by rw [ht]; exact hP9, va_K.moved hW.alike hK, hD9⟩, hS.F ht⟩) hS.2.2 dB_one_70
set_option maxHeartbeats 400000000 in
set_option maxRecDepth 100000 in
theorem cL_one_6 (l : Launch) (hl9 : l.stackTraces = false) (D : va_G) (cT : Nat → ClassId) (aK aV : Nat → Nat) (sz : Nat) (a0 : Nat) (a1 : Nat) (a2 : Nat) (a3 : Nat) (a4 : Nat) (a5 : Nat) (a6 : Nat) (a7 : Nat) (x8 : Int32) (x13 : Int32) (v18 : Value) (v19 : Value) (b20 : Nat) (v21 : Value) (v22 : Value) (v23 : Value) (v24 : Value) (f25 : Nat → Option Nat) (b27 : Nat) (v29 : Value) (f30 : Nat → Int64) (f32 : Nat → Int64) (v33 : Value) (v34 : Value) (f35 : Nat → Int32) (h9 : ¬ x8 < 0) (h10 : ¬ 7 < x8) (h11 : x8 ≤ 7) (h12 : vp_in x8 8) (h14 : ¬ x13 < 0) (h15 : ¬ 7 < x13) (h16 : x13 ≤ 7) (h17 : vp_in x13 8) (h26 : f25 x13.toNatClampNeg = some a3) (h28 : f25 x8.toNatClampNeg = some b27) (h31 : f30 0 = 0) : xMet l yL_one wyL_one 8 0 0 175 D cT aK aV sz [.ref a0, .int x8, .int 0, .int x13] [(a0, .inr (0, [v18, v19, .ref a6, .ref a2, .ref b20, .ref a1, v21, v22])), (a1, .inr (2, [.ref a5, v23, v24])), (a2, .inl (cT 3, 8, .inr (.inr (.inr (.inr f25))))), (a3, .inr (2, [.ref a4, .int 1, v29])), (a4, .inl (cT 2, 4096, .inr (.inl f30))), (a5, .inl (cT 2, 4096, .inr (.inl f32))), (a6, .inr (1, [.ref a7, v33, v34])), (a7, .inl (cT 0, 4096, .inl f35))] (fun A => va_Qi (fun (r : Int32) (_ : Unit) => r = 0) (fun _ t => ∃ (y1 : Int32) (y2 : Int32) (y3 : Int32) (y4 : Int32), xB D xcl cT A [(a0, .inr (0, [v18, v19, .ref a6, .ref a2, .ref b20, .ref b27, v21, v22])), (a1, .inr (2, [.ref a5, .int 1, .int 0])), (a2, .inl (cT 3, 8, .inr (.inr (.inr (.inr (va_up f25 x8.toNatClampNeg (some a1))))))), (a3, .inr (2, [.ref a4, .int 1, v29])), (a4, .inl (cT 2, 4096, .inr (.inl f30))), (a5, .inl (cT 2, 4096, .inr (.inl (vp_updL f32 0 2)))), (a6, .inr (1, [.ref a7, .int 4, .int 0])), (a7, .inl (cT 0, 4096, .inl (upd (upd (upd (upd f35 0 (vp_nar .byte y1)) 1 (vp_nar .byte y2)) 2 (vp_nar .byte y3)) 3 (vp_nar .byte y4))))] t) A) := by
  refine va_MetW (cc := method_10_code) (maxL := 5) (ret := (some .int)) (hh := [(0, 7, 10, 19), (0, 7, 14, 33), (0, 7, 18, 13)]) (by decide) rfl ?_
  intro p e s m args below meth c s₁ B hml hv
  obtain ⟨rfl, hsz, hZ, hP, hK, hD0⟩ := hv
  have hx := B.exec
  have hb := B.bytes
  have hr := B.returns
  have hts := atoms_spec (ws := wyL_one) B.pre
  have htx := fun w h => hts w (List.mem_cons_of_mem _ h)
  have hown : s.vm.findClass "ValueBenchLaw" = some m.cls := findClass_of_methodNamed B.named
  have hlocks := B.notSynchronized
  subst hsz
  have hD := hD0.self (sz := s.heap.size)
  generalize hAe : va_A [(a0, .inr (0, [v18, v19, .ref a6, .ref a2, .ref b20, .ref a1, v21, v22])), (a1, .inr (2, [.ref a5, v23, v24])), (a2, .inl (cT 3, 8, .inr (.inr (.inr (.inr f25))))), (a3, .inr (2, [.ref a4, .int 1, v29])), (a4, .inl (cT 2, 4096, .inr (.inl f30))), (a5, .inl (cT 2, 4096, .inr (.inl f32))), (a6, .inr (1, [.ref a7, v33, v34])), (a7, .inl (cT 0, 4096, .inl f35))] s.heap.size = A at hD hZ ⊢
  have hA : ∀ q : Nat, s.heap.size ≤ q → A q := fun q h => by rw [← hAe]; exact Or.inr h
  have hS : va_S A s.heap s.heap [] := va_S.rf
  have hP : va_P D xcl [(a0, .inr (0, [v18, v19, .ref a6, .ref a2, .ref b20, .ref a1, v21, v22])), (a1, .inr (2, [.ref a5, v23, v24])), (a2, .inl (cT 3, 8, .inr (.inr (.inr (.inr f25))))), (a3, .inr (2, [.ref a4, .int 1, v29])), (a4, .inl (cT 2, 4096, .inr (.inl f30))), (a5, .inl (cT 2, 4096, .inr (.inl f32))), (a6, .inr (1, [.ref a7, v33, v34])), (a7, .inl (cT 0, 4096, .inl f35))] s.heap := hP
  have hl := lv_entry ([.ref a0, .int x8, .int 0, .int x13]) (n := 5) (Nat.le_of_ble_eq_true rfl)
  rw [lg_entry_eq]
  generalize (lg_sl ([.ref a0, .int x8, .int 0, .int x13]) ++ List.replicate (5 - (lg_sl ([.ref a0, .int x8, .int 0, .int x13])).length) Slot.unset).toArray = ls at hl ⊢
  have hl : lv_has ls 5 [(0, .ref a0), (1, .int x8), (2, .int 0), (3, .int x13)] := hl
  have htab := vx_table (x := yL_one) B (hts _ List.mem_cons_self)
  refine lv_aload_n hx hb dL_one_0 rfl (lv_at hl 0 rfl) ?_
  refine lv_iload_n hx hb dL_one_1 rfl (lv_at hl 1 rfl) ?_
  refine lv_iload_n hx hb dL_one_2 rfl (lv_at hl 2 rfl) ?_
  refine lv_iload_n hx hb dL_one_3 rfl (lv_at hl 3 rfl) ?_
  obtain ⟨hPc, hDc, hFc⟩ := xcut (wc := [(a0, .inr (0, [v18, v19, .ref a6, .ref a2, .ref b20, .ref a1, v21, v22])), (a1, .inr (2, [.ref a5, v23, v24])), (a2, .inl (cT 3, 8, .inr (.inr (.inr (.inr f25))))), (a3, .inr (2, [.ref a4, .int 1, v29])), (a4, .inl (cT 2, 4096, .inr (.inl f30))), (a5, .inl (cT 2, 4096, .inr (.inl f32))), (a6, .inr (1, [.ref a7, v33, v34])), (a7, .inl (cT 0, 4096, .inl f35))]) hP hD hS hA [0, 1, 2, 3, 4, 5, 6, 7] rfl rfl (by decide)
  refine va_callv (va_runV (C := "ValueBench") (As := [.int x8, .int 0, .int x13]) (rest := []) ⟨hx, hb, hml, hown, htx⟩ (cB_one_6 l hl9 D cT aK aV s.heap.size a0 a1 a2 a3 a4 a5 a6 a7 x8 x13 v18 v19 b20 v21 v22 v23 v24 f25 b27 v29 f30 f32 v33 v34 f35 h9 h10 h11 h12 h14 h15 h16 h17 (by first | rfl | exact h26 | exact h28 | exact h31) (by first | rfl | exact h26 | exact h28 | exact h31) (by first | rfl | exact h26 | exact h28 | exact h31)) ⟨callB_of 3 htx (xw_goodC kw_4_25) rfl rfl rfl (htx _ kw_1_1) (htx _ kw_4_22) ⟨by decide, by decide, by decide +kernel⟩ ⟨Nat.le_of_ble_eq_true rfl, Nat.le_of_ble_eq_true rfl⟩, (htx _ kw_4_23), (htx _ kw_4_24)⟩ ⟨xPre_blind, va_recv hK hP (ci := 0) rfl (q0 := 0) rfl, (fun U hU hW => ⟨rfl, xPre_of hZ hS hFc hPc hDc hK U hU hW⟩)⟩ rfl rfl hl.1 rfl (lv_room (Nat.le_of_ble_eq_true rfl)) dL_one_4 ⟨Nat.le_of_ble_eq_true rfl, Nat.le_of_ble_eq_true rfl⟩) hS (fun q _ h => hFc q h) hFc (fun u9 t H1 locs ht hvm hr9 hB hz1 hk1 hS => ?_)
  obtain ⟨y1, y2, y3, y4, hP1, hK1, hD1⟩ := hB
  rw [ht] at hP1
  obtain ⟨hP, hD⟩ := xjoin (W := [(a0, .inr (0, [v18, v19, .ref a6, .ref a2, .ref b20, .ref b27, v21, v22])), (a1, .inr (2, [.ref a5, .int 1, .int 0])), (a2, .inl (cT 3, 8, .inr (.inr (.inr (.inr (va_up f25 x8.toNatClampNeg (some a1))))))), (a3, .inr (2, [.ref a4, .int 1, v29])), (a4, .inl (cT 2, 4096, .inr (.inl f30))), (a5, .inl (cT 2, 4096, .inr (.inl (vp_updL f32 0 2)))), (a6, .inr (1, [.ref a7, .int 4, .int 0])), (a7, .inl (cT 0, 4096, .inl (upd (upd (upd (upd f35 0 (vp_nar .byte y1)) 1 (vp_nar .byte y2)) 2 (vp_nar .byte y3)) 3 (vp_nar .byte y4))))]) hP hD [0, 1, 2, 3, 4, 5, 6, 7] [] 0 rfl rfl (by decide) (by decide) hk1 hFc hP1 hD1
  generalize H1 = H at hP hS ⊢
  refine lv_goto (tgt := 22) hx hb dL_one_7 (by decide) ?_
  refine lv_iconst (v := 0) hx hb dL_one_22 (by decide) ?_
  obtain ⟨hP9, hD9⟩ := xsub (wc := [(a0, .inr (0, [v18, v19, .ref a6, .ref a2, .ref b20, .ref b27, v21, v22])), (a1, .inr (2, [.ref a5, .int 1, .int 0])), (a2, .inl (cT 3, 8, .inr (.inr (.inr (.inr (va_up f25 x8.toNatClampNeg (some a1))))))), (a3, .inr (2, [.ref a4, .int 1, v29])), (a4, .inl (cT 2, 4096, .inr (.inl f30))), (a5, .inl (cT 2, 4096, .inr (.inl (vp_updL f32 0 2)))), (a6, .inr (1, [.ref a7, .int 4, .int 0])), (a7, .inl (cT 0, 4096, .inl (upd (upd (upd (upd f35 0 (vp_nar .byte y1)) 1 (vp_nar .byte y2)) 2 (vp_nar .byte y3)) 3 (vp_nar .byte y4))))]) hP hD [0, 1, 2, 3, 4, 5, 6, 7] rfl rfl (by decide)
  refine W.widen (k := 0) (n := 0) (Nat.le_of_ble_eq_true rfl) (Nat.le_of_ble_eq_true rfl) ?_
  exact W.iret (v := 0) hx hb hr (fun t ht hW => ⟨⟨0, (), rfl, rfl, y1, y2, y3, y4, by rw [ht]; exact hP9, va_K.moved hW.alike hK, hD9⟩, hS.F ht⟩) hS.2.2 dL_one_23
set_option maxHeartbeats 400000000 in
set_option maxRecDepth 100000 in
theorem cM_isTrue_0 (l : Launch) (hl9 : l.stackTraces = false) (D : va_G) (cT : Nat → ClassId) (aK aV : Nat → Nat) (sz : Nat) (a0 : Nat) (b1 : Nat) (v2 : Value) (v3 : Value) (v4 : Value) (v5 : Value) (v6 : Value) : xMet l yM_isTrue wyM_isTrue 0 0 0 0 D cT aK aV sz [.ref b1, .ref a0] [(a0, .inr (6, [.int 0, v2, v3, v4, v5, v6]))] (fun A => va_Qi (fun (r : Int32) (_ : Unit) => r = 0) (fun _ t => xB D xcl cT A [(a0, .inr (6, [.int 0, v2, v3, v4, v5, v6]))] t) A) := by
  refine Met.ofW (cc := prog_13_method_65_code) (maxL := 2) (ret := (some .boolean)) (by decide) rfl ?_
  intro p e s m args below meth c s₁ B hml hv
  obtain ⟨rfl, hsz, hZ, hP, hK, hD0⟩ := hv
  have hx := B.exec
  have hb := B.bytes
  have hr := B.returns
  have hts := atoms_spec (ws := wyM_isTrue) B.pre
  have htx := fun w h => hts w (List.mem_cons_of_mem _ h)
  have hown : s.vm.findClass "ValueBenchModel" = some m.cls := findClass_of_methodNamed B.named
  have hlocks := B.notSynchronized
  subst hsz
  have hD := hD0.self (sz := s.heap.size)
  generalize hAe : va_A [(a0, .inr (6, [.int 0, v2, v3, v4, v5, v6]))] s.heap.size = A at hD hZ ⊢
  have hA : ∀ q : Nat, s.heap.size ≤ q → A q := fun q h => by rw [← hAe]; exact Or.inr h
  have hS : va_S A s.heap s.heap [] := va_S.rf
  have hP : va_P D xcl [(a0, .inr (6, [.int 0, v2, v3, v4, v5, v6]))] s.heap := hP
  have hl := lv_entry ([.ref b1, .ref a0]) (n := 2) (Nat.le_of_ble_eq_true rfl)
  rw [lg_entry_eq]
  generalize (lg_sl ([.ref b1, .ref a0]) ++ List.replicate (2 - (lg_sl ([.ref b1, .ref a0])).length) Slot.unset).toArray = ls at hl ⊢
  have hl : lv_has ls 2 [(0, .ref b1), (1, .ref a0)] := hl
  refine lv_aload_n hx hb dM_isTrue_0 rfl (lv_at hl 1 rfl) ?_
  refine va_getN (D := D) (ci := 6) (v := .int 0) (C := "ValueBenchModel$V") (T := TV) (N := 6) hx hb htx inV hown hK hP 0 rfl rfl 0 (by decide) ((hZ.1 (93, "kind", "I") (List.mem_of_getElem? (i := 0) rfl)).use rfl) (fun _ h9 => h9) rfl dM_isTrue_1 ?_
  refine lv_if_eq (tgt := 19) hx hb dM_isTrue_4 (by decide) (fun _ => ?_) (fun h => ((by revert h; decide : False)).elim)
  refine lv_iconst (v := 0) hx hb dM_isTrue_19 (by decide) ?_
  obtain ⟨hP9, hD9⟩ := xsub (wc := [(a0, .inr (6, [.int 0, v2, v3, v4, v5, v6]))]) hP hD [0] rfl rfl (by decide)
  refine W.widen (k := 0) (n := 0) (Nat.le_of_ble_eq_true rfl) (Nat.le_of_ble_eq_true rfl) ?_
  exact W.zret (v := 0) hx hb hr rfl (fun t ht hW => ⟨⟨0, (), rfl, rfl, by rw [ht]; exact hP9, va_K.moved hW.alike hK, hD9⟩, hS.F ht⟩) hS.2.2 dM_isTrue_20
set_option maxHeartbeats 400000000 in
set_option maxRecDepth 100000 in
theorem cM_fresh_3 (l : Launch) (hl9 : l.stackTraces = false) (D : va_G) (cT : Nat → ClassId) (aK aV : Nat → Nat) (sz : Nat) (a0 : Nat) (a1 : Nat) (v2 : Value) (v3 : Value) (v4 : Value) (v5 : Value) (v6 : Value) (v7 : Value) (v8 : Value) (v9 : Value) (v10 : Value) (v11 : Value) (v12 : Value) (v13 : Value) (v14 : Value) (v15 : Value) (v16 : Value) (v17 : Value) (v18 : Value) (v19 : Value) (v20 : Value) (v21 : Value) (v22 : Value) (v23 : Value) (v24 : Value) (v25 : Value) (v26 : Value) (v27 : Value) (v28 : Value) (v29 : Value) (v30 : Value) (v31 : Value) (f32 : Nat → Option Nat) (h33 : f32 1 = none) : xMet l yM_fresh wyM_fresh 2 1 6 32 D cT aK aV sz [.ref a0, .int 2] [(a0, .inr (5, [v2, .ref a1, .int 1, v3, v4, v5, v6, v7, v8, v9, v10, v11, v12, v13, v14, v15, v16, v17, v18, v19, v20, v21, v22, v23, v24, v25, v26, v27, v28, v29, v30, v31])), (a1, .inl (cT 4, 1024, .inr (.inr (.inr (.inr f32)))))] (fun A => va_Qr (fun _ : Unit => True) (fun _ q1 t => xB D xcl cT A [(a0, .inr (5, [v2, .ref a1, .int 2, v3, v4, v5, v6, v7, v8, v9, v10, v11, v12, v13, v14, v15, v16, v17, v18, v19, v20, v21, v22, v23, v24, v25, v26, v27, v28, v29, v30, v31])), (a1, .inl (cT 4, 1024, .inr (.inr (.inr (.inr (va_up f32 1 (some q1))))))), (q1, .inr (6, [.int 2, .long 0, .int 0, .int 0, .int 0, .int 1]))] t) A) := by
  refine Met.ofW (cc := prog_13_method_6_code) (maxL := 4) (ret := (some (.object "ValueBenchModel$V"))) (by decide) rfl ?_
  intro p e s m args below meth c s₁ B hml hv
  obtain ⟨rfl, hsz, hZ, hP, hK, hD0⟩ := hv
  have hx := B.exec
  have hb := B.bytes
  have hr := B.returns
  have hts := atoms_spec (ws := wyM_fresh) B.pre
  have htx := fun w h => hts w (List.mem_cons_of_mem _ h)
  have hown : s.vm.findClass "ValueBenchModel" = some m.cls := findClass_of_methodNamed B.named
  have hlocks := B.notSynchronized
  subst hsz
  have hD := hD0.self (sz := s.heap.size)
  generalize hAe : va_A [(a0, .inr (5, [v2, .ref a1, .int 1, v3, v4, v5, v6, v7, v8, v9, v10, v11, v12, v13, v14, v15, v16, v17, v18, v19, v20, v21, v22, v23, v24, v25, v26, v27, v28, v29, v30, v31])), (a1, .inl (cT 4, 1024, .inr (.inr (.inr (.inr f32)))))] s.heap.size = A at hD hZ ⊢
  have hA : ∀ q : Nat, s.heap.size ≤ q → A q := fun q h => by rw [← hAe]; exact Or.inr h
  have hS : va_S A s.heap s.heap [] := va_S.rf
  have hP : va_P D xcl [(a0, .inr (5, [v2, .ref a1, .int 1, v3, v4, v5, v6, v7, v8, v9, v10, v11, v12, v13, v14, v15, v16, v17, v18, v19, v20, v21, v22, v23, v24, v25, v26, v27, v28, v29, v30, v31])), (a1, .inl (cT 4, 1024, .inr (.inr (.inr (.inr f32)))))] s.heap := hP
  have hl := lv_entry ([.ref a0, .int 2]) (n := 4) (Nat.le_of_ble_eq_true rfl)
  rw [lg_entry_eq]
  generalize (lg_sl ([.ref a0, .int 2]) ++ List.replicate (4 - (lg_sl ([.ref a0, .int 2])).length) Slot.unset).toArray = ls at hl ⊢
  have hl : lv_has ls 4 [(0, .ref a0), (1, .int 2)] := hl
  refine lv_aload_n hx hb dM_fresh_0 rfl (lv_at hl 0 rfl) ?_
  refine va_get (D := D) (ci := 5) (v := .int 1) (C := "ValueBenchModel") (T := TM) (N := 32) hx hb htx inM hown hK hP 0 rfl rfl 2 (by decide) (htx _ kw_5_89) (fun _ h9 => h9) rfl dM_fresh_1 ?_
  refine lv_aload_n hx hb dM_fresh_4 rfl (lv_at hl 0 rfl) ?_
  refine va_get (D := D) (ci := 5) (v := .ref a1) (C := "ValueBenchModel") (T := TM) (N := 32) hx hb htx inM hown hK hP 0 rfl rfl 1 (by decide) (htx _ kw_5_88) (fun _ h9 => h9) rfl dM_fresh_5 ?_
  refine va_alen (v := 1024) hx hb hK hP 1 4 rfl rfl rfl dM_fresh_8 ?_
  refine lv_icmp_ne (tgt := 52) hx hb dM_fresh_9 (by decide) (fun _ => ?_) (fun h => ((by revert h; decide : False)).elim)
  refine lv_aload_n hx hb dM_fresh_52 rfl (lv_at hl 0 rfl) ?_
  refine va_get (D := D) (ci := 5) (v := .ref a1) (C := "ValueBenchModel") (T := TM) (N := 32) hx hb htx inM hown hK hP 0 rfl rfl 1 (by decide) (htx _ kw_5_88) (fun _ h9 => h9) rfl dM_fresh_53 ?_
  refine lv_aload_n hx hb dM_fresh_56 rfl (lv_at hl 0 rfl) ?_
  refine va_get (D := D) (ci := 5) (v := .int 1) (C := "ValueBenchModel") (T := TM) (N := 32) hx hb htx inM hown hK hP 0 rfl rfl 2 (by decide) (htx _ kw_5_89) (fun _ h9 => h9) rfl dM_fresh_57 ?_
  refine va_aldq hx hb hK hP 1 4 rfl rfl (show ¬ ((1 : Int32) < 0 ∨ 1024 ≤ (1 : Int32).toNatClampNeg) by decide) dM_fresh_60 ?_
  refine W.eq (g2 := F0 m 61 ls [va_rf (f32 1)]) rfl ?_
  rw [h33]
  refine W.eq (g2 := F0 m 61 ls [.null]) rfl ?_
  refine lv_ifnonnullN hx hb dM_fresh_61 ?_
  refine lv_aload_n hx hb dM_fresh_64 rfl (lv_at hl 0 rfl) ?_
  refine va_get (D := D) (ci := 5) (v := .ref a1) (C := "ValueBenchModel") (T := TM) (N := 32) hx hb htx inM hown hK hP 0 rfl rfl 1 (by decide) (htx _ kw_5_88) (fun _ h9 => h9) rfl dM_fresh_65 ?_
  refine lv_aload_n hx hb dM_fresh_68 rfl (lv_at hl 0 rfl) ?_
  refine va_get (D := D) (ci := 5) (v := .int 1) (C := "ValueBenchModel") (T := TM) (N := 32) hx hb htx inM hown hK hP 0 rfl rfl 2 (by decide) (htx _ kw_5_89) (fun _ h9 => h9) rfl dM_fresh_69 ?_
  refine va_new (ci := 6) (fs := [.int 0, .long 0, .int 0, .int 0, .int 0, .int 0]) (C := "ValueBenchModel$V") (T := TV) (N := 6) hx hb htx inV tyV tyV_ok hown (htx _ kw_5_80) (htx _ kw_6_17) (htx _ kw_1_19) hK hP hD hS hA rfl (by decide +kernel) (Nat.le_of_ble_eq_true rfl) (Nat.le_of_ble_eq_true rfl) dM_fresh_72 (fun q1 H hP hD hS => ?_)
  obtain ⟨hP, hD⟩ : xPD D xcl A [(a0, .inr (5, [v2, .ref a1, .int 1, v3, v4, v5, v6, v7, v8, v9, v10, v11, v12, v13, v14, v15, v16, v17, v18, v19, v20, v21, v22, v23, v24, v25, v26, v27, v28, v29, v30, v31])), (a1, .inl (cT 4, 1024, .inr (.inr (.inr (.inr f32))))), (q1, .inr (6, [.int 0, .long 0, .int 0, .int 0, .int 0, .int 0]))] H := ⟨hP, hD⟩
  refine lv_dup hx hb dM_fresh_75 rfl ?_
  obtain ⟨hPc, hDc, hFc⟩ := xcut (wc := []) hP hD hS hA [] rfl rfl (by decide)
  refine va_callv (va_runIN (As := []) (rest := [.ref q1, .int 1, .ref a1]) ⟨hx, hb, hml, hown, htx⟩ (cV_init_0 l hl9 D cT aK aV H.size q1) ⟨va_cnB (host := "ValueBenchModel") 0 htx (xw_goodC kw_6_20) rfl rfl rfl (hZ.2.1 ("ValueBenchModel", 92, yV_init) (List.mem_of_getElem? (i := 3) rfl)) (htx _ kw_1_19) ⟨by decide, by decide, by decide +kernel⟩ ⟨Nat.le_of_ble_eq_true rfl, Nat.le_of_ble_eq_true rfl⟩, rfl, (htx _ kw_6_19)⟩ ⟨xPre_blind, (fun U hU hW => ⟨rfl, xPre_of hZ hS hFc hPc hDc hK U hU hW⟩)⟩ rfl rfl hl.1 rfl (lv_room (Nat.le_of_ble_eq_true rfl)) dM_fresh_76 ⟨Nat.le_of_ble_eq_true rfl, Nat.le_of_ble_eq_true rfl⟩) hS (fun q _ h => hFc q h) hFc (fun u9 t H1 locs ht hvm hr9 hB hz1 hk1 hS => ?_)
  obtain ⟨hP1, hK1, hD1⟩ := hB
  rw [ht] at hP1
  obtain ⟨hP, hD⟩ := xjoin (W := [(a0, .inr (5, [v2, .ref a1, .int 1, v3, v4, v5, v6, v7, v8, v9, v10, v11, v12, v13, v14, v15, v16, v17, v18, v19, v20, v21, v22, v23, v24, v25, v26, v27, v28, v29, v30, v31])), (a1, .inl (cT 4, 1024, .inr (.inr (.inr (.inr f32))))), (q1, .inr (6, [.int 0, .long 0, .int 0, .int 0, .int 0, .int 0]))]) hP hD [] [0, 1, 2] 3 rfl rfl (by decide) (by decide) hk1 hFc hP1 hD1
  generalize H1 = H at hP hS ⊢
  refine va_astq (r := ("ValueBenchModel$V", TV, 6)) hx hb hK hP hD hS 1 4 2 6 rfl rfl rfl rfl (show ¬ ((1 : Int32) < 0 ∨ 1024 ≤ (1 : Int32).toNatClampNeg) by decide) dM_fresh_79 (fun H locs hP hD hS => ?_)
  obtain ⟨hP, hD⟩ : xPD D xcl A [(a0, .inr (5, [v2, .ref a1, .int 1, v3, v4, v5, v6, v7, v8, v9, v10, v11, v12, v13, v14, v15, v16, v17, v18, v19, v20, v21, v22, v23, v24, v25, v26, v27, v28, v29, v30, v31])), (a1, .inl (cT 4, 1024, .inr (.inr (.inr (.inr (va_up f32 1 (some q1))))))), (q1, .inr (6, [.int 0, .long 0, .int 0, .int 0, .int 0, .int 0]))] H := ⟨hP, hD⟩
  refine lv_aload_n hx hb dM_fresh_80 rfl (lv_at hl 0 rfl) ?_
  refine va_get (D := D) (ci := 5) (v := .ref a1) (C := "ValueBenchModel") (T := TM) (N := 32) hx hb htx inM hown hK hP 0 rfl rfl 1 (by decide) (htx _ kw_5_88) (fun _ h9 => h9) rfl dM_fresh_81 ?_
  refine lv_aload_n hx hb dM_fresh_84 rfl (lv_at hl 0 rfl) ?_
  refine va_get (D := D) (ci := 5) (v := .int 1) (C := "ValueBenchModel") (T := TM) (N := 32) hx hb htx inM hown hK hP 0 rfl rfl 2 (by decide) (htx _ kw_5_89) (fun _ h9 => h9) rfl dM_fresh_85 ?_
  refine va_aldq hx hb hK hP 1 4 rfl rfl (show ¬ ((1 : Int32) < 0 ∨ 1024 ≤ (1 : Int32).toNatClampNeg) by decide) dM_fresh_88 ?_
  refine W.eq (g2 := F0 m 89 ls [.ref q1]) rfl ?_
  refine lv_astore_n (lv' := [(2, .ref q1), (0, .ref a0), (1, .int 2)]) hx hb dM_fresh_89 rfl hl (by decide) rfl (fun ls hl => ?_)
  refine lv_aload_n hx hb dM_fresh_90 rfl (lv_at hl 1 rfl) ?_
  refine lv_dup hx hb dM_fresh_91 rfl ?_
  refine va_get (D := D) (ci := 5) (v := .int 1) (C := "ValueBenchModel") (T := TM) (N := 32) hx hb htx inM hown hK hP 0 rfl rfl 2 (by decide) (htx _ kw_5_89) (fun _ h9 => h9) rfl dM_fresh_92 ?_
  refine lv_iconst (v := 1) hx hb dM_fresh_95 (by decide) ?_
  refine lv_iadd hx hb dM_fresh_96 ?_
  refine W.eq (g2 := F0 m 97 ls [.int 2, .ref a0]) rfl ?_
  refine va_put (D := D) (ci := 5) (v := .int 2) (ty := .int) (C := "ValueBenchModel") (T := TM) (N := 32) hx hb htx inM tyM tyM_ok nmM hown hK hP hD hS 0 rfl rfl 2 (by decide) (htx _ kw_5_89) (fun _ h9 => h9) rfl (by decide +kernel) rfl rfl (Nat.le_of_ble_eq_true rfl) dM_fresh_97 (fun H locs hP hD hS => ?_)
  obtain ⟨hP, hD⟩ : xPD D xcl A [(a0, .inr (5, [v2, .ref a1, .int 2, v3, v4, v5, v6, v7, v8, v9, v10, v11, v12, v13, v14, v15, v16, v17, v18, v19, v20, v21, v22, v23, v24, v25, v26, v27, v28, v29, v30, v31])), (a1, .inl (cT 4, 1024, .inr (.inr (.inr (.inr (va_up f32 1 (some q1))))))), (q1, .inr (6, [.int 0, .long 0, .int 0, .int 0, .int 0, .int 0]))] H := ⟨hP, hD⟩
  refine lv_aload_n hx hb dM_fresh_100 rfl (lv_at hl 0 rfl) ?_
  refine lv_iload_n hx hb dM_fresh_101 rfl (lv_at hl 2 rfl) ?_
  refine va_putN (D := D) (ci := 6) (v := .int 2) (ty := .int) (C := "ValueBenchModel$V") (T := TV) (N := 6) hx hb htx inV tyV tyV_ok nmV hown hK hP hD hS 2 rfl rfl 0 (by decide) ((hZ.1 (93, "kind", "I") (List.mem_of_getElem? (i := 0) rfl)).use rfl) (fun _ h9 => h9) rfl (by decide +kernel) rfl rfl (Nat.le_of_ble_eq_true rfl) dM_fresh_102 (fun H locs hP hD hS => ?_)
  obtain ⟨hP, hD⟩ : xPD D xcl A [(a0, .inr (5, [v2, .ref a1, .int 2, v3, v4, v5, v6, v7, v8, v9, v10, v11, v12, v13, v14, v15, v16, v17, v18, v19, v20, v21, v22, v23, v24, v25, v26, v27, v28, v29, v30, v31])), (a1, .inl (cT 4, 1024, .inr (.inr (.inr (.inr (va_up f32 1 (some q1))))))), (q1, .inr (6, [.int 2, .long 0, .int 0, .int 0, .int 0, .int 0]))] H := ⟨hP, hD⟩
  refine lv_aload_n hx hb dM_fresh_105 rfl (lv_at hl 0 rfl) ?_
  refine lv_lconst (v := 0) hx hb dM_fresh_106 (by decide) ?_
  refine va_putN (D := D) (ci := 6) (v := .long 0) (ty := .long) (C := "ValueBenchModel$V") (T := TV) (N := 6) hx hb htx inV tyV tyV_ok nmV hown hK hP hD hS 2 rfl rfl 1 (by decide) ((hZ.1 (96, "n", "J") (List.mem_of_getElem? (i := 1) rfl)).use rfl) (fun _ h9 => h9) rfl (by decide +kernel) rfl rfl (Nat.le_of_ble_eq_true rfl) dM_fresh_107 (fun H locs hP hD hS => ?_)
  obtain ⟨hP, hD⟩ : xPD D xcl A [(a0, .inr (5, [v2, .ref a1, .int 2, v3, v4, v5, v6, v7, v8, v9, v10, v11, v12, v13, v14, v15, v16, v17, v18, v19, v20, v21, v22, v23, v24, v25, v26, v27, v28, v29, v30, v31])), (a1, .inl (cT 4, 1024, .inr (.inr (.inr (.inr (va_up f32 1 (some q1))))))), (q1, .inr (6, [.int 2, .long 0, .int 0, .int 0, .int 0, .int 0]))] H := ⟨hP, hD⟩
  refine lv_aload_n hx hb dM_fresh_110 rfl (lv_at hl 0 rfl) ?_
  refine lv_iconst (v := 0) hx hb dM_fresh_111 (by decide) ?_
  refine va_putN (D := D) (ci := 6) (v := .int 0) (ty := .int) (C := "ValueBenchModel$V") (T := TV) (N := 6) hx hb htx inV tyV tyV_ok nmV hown hK hP hD hS 2 rfl rfl 2 (by decide) ((hZ.1 (100, "off", "I") (List.mem_of_getElem? (i := 2) rfl)).use rfl) (fun _ h9 => h9) rfl (by decide +kernel) rfl rfl (Nat.le_of_ble_eq_true rfl) dM_fresh_112 (fun H locs hP hD hS => ?_)
  obtain ⟨hP, hD⟩ : xPD D xcl A [(a0, .inr (5, [v2, .ref a1, .int 2, v3, v4, v5, v6, v7, v8, v9, v10, v11, v12, v13, v14, v15, v16, v17, v18, v19, v20, v21, v22, v23, v24, v25, v26, v27, v28, v29, v30, v31])), (a1, .inl (cT 4, 1024, .inr (.inr (.inr (.inr (va_up f32 1 (some q1))))))), (q1, .inr (6, [.int 2, .long 0, .int 0, .int 0, .int 0, .int 0]))] H := ⟨hP, hD⟩
  refine lv_aload_n hx hb dM_fresh_115 rfl (lv_at hl 0 rfl) ?_
  refine lv_iconst (v := 0) hx hb dM_fresh_116 (by decide) ?_
  refine va_putN (D := D) (ci := 6) (v := .int 0) (ty := .int) (C := "ValueBenchModel$V") (T := TV) (N := 6) hx hb htx inV tyV tyV_ok nmV hown hK hP hD hS 2 rfl rfl 3 (by decide) ((hZ.1 (103, "count", "I") (List.mem_of_getElem? (i := 3) rfl)).use rfl) (fun _ h9 => h9) rfl (by decide +kernel) rfl rfl (Nat.le_of_ble_eq_true rfl) dM_fresh_117 (fun H locs hP hD hS => ?_)
  obtain ⟨hP, hD⟩ : xPD D xcl A [(a0, .inr (5, [v2, .ref a1, .int 2, v3, v4, v5, v6, v7, v8, v9, v10, v11, v12, v13, v14, v15, v16, v17, v18, v19, v20, v21, v22, v23, v24, v25, v26, v27, v28, v29, v30, v31])), (a1, .inl (cT 4, 1024, .inr (.inr (.inr (.inr (va_up f32 1 (some q1))))))), (q1, .inr (6, [.int 2, .long 0, .int 0, .int 0, .int 0, .int 0]))] H := ⟨hP, hD⟩
  refine lv_aload_n hx hb dM_fresh_120 rfl (lv_at hl 0 rfl) ?_
  refine lv_iconst (v := 0) hx hb dM_fresh_121 (by decide) ?_
  refine va_putN (D := D) (ci := 6) (v := .int 0) (ty := .int) (C := "ValueBenchModel$V") (T := TV) (N := 6) hx hb htx inV tyV tyV_ok nmV hown hK hP hD hS 2 rfl rfl 4 (by decide) ((hZ.1 (106, "depth", "I") (List.mem_of_getElem? (i := 4) rfl)).use rfl) (fun _ h9 => h9) rfl (by decide +kernel) rfl rfl (Nat.le_of_ble_eq_true rfl) dM_fresh_122 (fun H locs hP hD hS => ?_)
  obtain ⟨hP, hD⟩ : xPD D xcl A [(a0, .inr (5, [v2, .ref a1, .int 2, v3, v4, v5, v6, v7, v8, v9, v10, v11, v12, v13, v14, v15, v16, v17, v18, v19, v20, v21, v22, v23, v24, v25, v26, v27, v28, v29, v30, v31])), (a1, .inl (cT 4, 1024, .inr (.inr (.inr (.inr (va_up f32 1 (some q1))))))), (q1, .inr (6, [.int 2, .long 0, .int 0, .int 0, .int 0, .int 0]))] H := ⟨hP, hD⟩
  refine lv_aload_n hx hb dM_fresh_125 rfl (lv_at hl 0 rfl) ?_
  refine lv_iconst (v := 1) hx hb dM_fresh_126 (by decide) ?_
  refine va_putN (D := D) (ci := 6) (v := .int 1) (ty := .int) (C := "ValueBenchModel$V") (T := TV) (N := 6) hx hb htx inV tyV tyV_ok nmV hown hK hP hD hS 2 rfl rfl 5 (by decide) ((hZ.1 (109, "weight", "I") (List.mem_of_getElem? (i := 5) rfl)).use rfl) (fun _ h9 => h9) rfl (by decide +kernel) rfl rfl (Nat.le_of_ble_eq_true rfl) dM_fresh_127 (fun H locs hP hD hS => ?_)
  obtain ⟨hP, hD⟩ : xPD D xcl A [(a0, .inr (5, [v2, .ref a1, .int 2, v3, v4, v5, v6, v7, v8, v9, v10, v11, v12, v13, v14, v15, v16, v17, v18, v19, v20, v21, v22, v23, v24, v25, v26, v27, v28, v29, v30, v31])), (a1, .inl (cT 4, 1024, .inr (.inr (.inr (.inr (va_up f32 1 (some q1))))))), (q1, .inr (6, [.int 2, .long 0, .int 0, .int 0, .int 0, .int 1]))] H := ⟨hP, hD⟩
  refine lv_aload_n hx hb dM_fresh_130 rfl (lv_at hl 0 rfl) ?_
  obtain ⟨hP9, hD9⟩ := xsub (wc := [(a0, .inr (5, [v2, .ref a1, .int 2, v3, v4, v5, v6, v7, v8, v9, v10, v11, v12, v13, v14, v15, v16, v17, v18, v19, v20, v21, v22, v23, v24, v25, v26, v27, v28, v29, v30, v31])), (a1, .inl (cT 4, 1024, .inr (.inr (.inr (.inr (va_up f32 1 (some q1))))))), (q1, .inr (6, [.int 2, .long 0, .int 0, .int 0, .int 0, .int 1]))]) hP hD [0, 1, 2] rfl rfl (by decide)
  refine W.widen (k := 1) (n := 6) (Nat.le_of_ble_eq_true rfl) (Nat.le_of_ble_eq_true rfl) ?_
  exact W.aret hx hb hr (Or.inl ⟨_, rfl⟩) (Or.inr ⟨_, rfl⟩) (fun t ht hW => ⟨⟨(), q1, rfl, trivial, by rw [ht]; exact hP9, va_K.moved hW.alike hK, hD9⟩, hS.F ht⟩) hS.2.2 dM_fresh_131
set_option maxHeartbeats 400000000 in
set_option maxRecDepth 100000 in
theorem cM_truth_0 (l : Launch) (hl9 : l.stackTraces = false) (D : va_G) (cT : Nat → ClassId) (aK aV : Nat → Nat) (sz : Nat) (a0 : Nat) (a1 : Nat) (v2 : Value) (v3 : Value) (v4 : Value) (v5 : Value) (v6 : Value) (v7 : Value) (v8 : Value) (v9 : Value) (v10 : Value) (v11 : Value) (v12 : Value) (v13 : Value) (v14 : Value) (v15 : Value) (v16 : Value) (v17 : Value) (v18 : Value) (v19 : Value) (v20 : Value) (v21 : Value) (v22 : Value) (v23 : Value) (v24 : Value) (v25 : Value) (v26 : Value) (v27 : Value) (v28 : Value) (v29 : Value) (v30 : Value) (v31 : Value) (f32 : Nat → Option Nat) (h33 : f32 1 = none) : xMet l yM_truth wyM_truth 3 1 6 55 D cT aK aV sz [.ref a0, .int 1] [(a0, .inr (5, [v2, .ref a1, .int 1, v3, v4, v5, v6, v7, v8, v9, v10, v11, v12, v13, v14, v15, v16, v17, v18, v19, v20, v21, v22, v23, v24, v25, v26, v27, v28, v29, v30, v31])), (a1, .inl (cT 4, 1024, .inr (.inr (.inr (.inr f32)))))] (fun A => va_Qr (fun _ : Unit => True) (fun _ r1 t => xB D xcl cT A [(a0, .inr (5, [v2, .ref a1, .int 2, v3, v4, v5, v6, v7, v8, v9, v10, v11, v12, v13, v14, v15, v16, v17, v18, v19, v20, v21, v22, v23, v24, v25, v26, v27, v28, v29, v30, v31])), (a1, .inl (cT 4, 1024, .inr (.inr (.inr (.inr (va_up f32 1 (some r1))))))), (r1, .inr (6, [.int 2, .long 0, .int 0, .int 0, .int 0, .int 1]))] t) A) := by
  refine Met.ofW (cc := prog_13_method_8_code) (maxL := 2) (ret := (some (.object "ValueBenchModel$V"))) (by decide) rfl ?_
  intro p e s m args below meth c s₁ B hml hv
  obtain ⟨rfl, hsz, hZ, hP, hK, hD0⟩ := hv
  have hx := B.exec
  have hb := B.bytes
  have hr := B.returns
  have hts := atoms_spec (ws := wyM_truth) B.pre
  have htx := fun w h => hts w (List.mem_cons_of_mem _ h)
  have hown : s.vm.findClass "ValueBenchModel" = some m.cls := findClass_of_methodNamed B.named
  have hlocks := B.notSynchronized
  subst hsz
  have hD := hD0.self (sz := s.heap.size)
  generalize hAe : va_A [(a0, .inr (5, [v2, .ref a1, .int 1, v3, v4, v5, v6, v7, v8, v9, v10, v11, v12, v13, v14, v15, v16, v17, v18, v19, v20, v21, v22, v23, v24, v25, v26, v27, v28, v29, v30, v31])), (a1, .inl (cT 4, 1024, .inr (.inr (.inr (.inr f32)))))] s.heap.size = A at hD hZ ⊢
  have hA : ∀ q : Nat, s.heap.size ≤ q → A q := fun q h => by rw [← hAe]; exact Or.inr h
  have hS : va_S A s.heap s.heap [] := va_S.rf
  have hP : va_P D xcl [(a0, .inr (5, [v2, .ref a1, .int 1, v3, v4, v5, v6, v7, v8, v9, v10, v11, v12, v13, v14, v15, v16, v17, v18, v19, v20, v21, v22, v23, v24, v25, v26, v27, v28, v29, v30, v31])), (a1, .inl (cT 4, 1024, .inr (.inr (.inr (.inr f32)))))] s.heap := hP
  have hl := lv_entry ([.ref a0, .int 1]) (n := 2) (Nat.le_of_ble_eq_true rfl)
  rw [lg_entry_eq]
  generalize (lg_sl ([.ref a0, .int 1]) ++ List.replicate (2 - (lg_sl ([.ref a0, .int 1])).length) Slot.unset).toArray = ls at hl ⊢
  have hl : lv_has ls 2 [(0, .ref a0), (1, .int 1)] := hl
  refine lv_aload_n hx hb dM_truth_0 rfl (lv_at hl 0 rfl) ?_
  refine lv_iload_n hx hb dM_truth_1 rfl (lv_at hl 1 rfl) ?_
  refine lv_if_eq (tgt := 9) hx hb dM_truth_2 (by decide) (fun h => ((by revert h; decide : False)).elim) (fun _ => ?_)
  refine lv_iconst (v := 2) hx hb dM_truth_5 (by decide) ?_
  refine lv_goto (tgt := 10) hx hb dM_truth_6 (by decide) ?_
  obtain ⟨hPc, hDc, hFc⟩ := xcut (wc := [(a0, .inr (5, [v2, .ref a1, .int 1, v3, v4, v5, v6, v7, v8, v9, v10, v11, v12, v13, v14, v15, v16, v17, v18, v19, v20, v21, v22, v23, v24, v25, v26, v27, v28, v29, v30, v31])), (a1, .inl (cT 4, 1024, .inr (.inr (.inr (.inr f32)))))]) hP hD hS hA [0, 1] rfl rfl (by decide)
  refine va_callr (va_runV (C := "ValueBenchModel") (As := [.int 2]) (rest := []) ⟨hx, hb, hml, hown, htx⟩ (cM_fresh_3 l hl9 D cT aK aV s.heap.size a0 a1 v2 v3 v4 v5 v6 v7 v8 v9 v10 v11 v12 v13 v14 v15 v16 v17 v18 v19 v20 v21 v22 v23 v24 v25 v26 v27 v28 v29 v30 v31 f32 (by first | rfl | exact h33)) ⟨callB_of 1 htx (xw_goodC kw_6_16) rfl rfl rfl (htx _ kw_1_5) (htx _ kw_6_13) ⟨by decide, by decide, by decide +kernel⟩ ⟨Nat.le_of_ble_eq_true rfl, Nat.le_of_ble_eq_true rfl⟩, (htx _ kw_6_15), (htx _ kp_M_fresh)⟩ ⟨xPre_blind, va_recv hK hP (ci := 5) rfl (q0 := 0) rfl, (fun U hU hW => ⟨rfl, xPre_of hZ hS hFc hPc hDc hK U hU hW⟩)⟩ rfl rfl hl.1 rfl (lv_room (Nat.le_of_ble_eq_true rfl)) dM_truth_10 ⟨Nat.le_of_ble_eq_true rfl, Nat.le_of_ble_eq_true rfl⟩) hS (fun q _ h => hFc q h) hFc (fun u9 r1 t H1 locs ht hvm hr9 hB hz1 hk1 hS => ?_)
  obtain ⟨hP1, hK1, hD1⟩ := hB
  rw [ht] at hP1
  obtain ⟨hP, hD⟩ := xjoin (W := [(a0, .inr (5, [v2, .ref a1, .int 2, v3, v4, v5, v6, v7, v8, v9, v10, v11, v12, v13, v14, v15, v16, v17, v18, v19, v20, v21, v22, v23, v24, v25, v26, v27, v28, v29, v30, v31])), (a1, .inl (cT 4, 1024, .inr (.inr (.inr (.inr (va_up f32 1 (some r1))))))), (r1, .inr (6, [.int 2, .long 0, .int 0, .int 0, .int 0, .int 1]))]) hP hD [0, 1] [] 0 rfl rfl (by decide) (by decide) hk1 hFc hP1 hD1
  generalize H1 = H at hP hS ⊢
  refine W.eq (g2 := F0 m 13 ls [.ref r1]) rfl ?_
  obtain ⟨hP9, hD9⟩ := xsub (wc := [(a0, .inr (5, [v2, .ref a1, .int 2, v3, v4, v5, v6, v7, v8, v9, v10, v11, v12, v13, v14, v15, v16, v17, v18, v19, v20, v21, v22, v23, v24, v25, v26, v27, v28, v29, v30, v31])), (a1, .inl (cT 4, 1024, .inr (.inr (.inr (.inr (va_up f32 1 (some r1))))))), (r1, .inr (6, [.int 2, .long 0, .int 0, .int 0, .int 0, .int 1]))]) hP hD [0, 1, 2] rfl rfl (by decide)
  refine W.widen (k := 1) (n := 6) (Nat.le_of_ble_eq_true rfl) (Nat.le_of_ble_eq_true rfl) ?_
  exact W.aret hx hb hr (Or.inl ⟨_, rfl⟩) (Or.inr ⟨_, rfl⟩) (fun t ht hW => ⟨⟨(), r1, rfl, trivial, by rw [ht]; exact hP9, va_K.moved hW.alike hK, hD9⟩, hS.F ht⟩) hS.2.2 dM_truth_13
set_option maxHeartbeats 400000000 in
set_option maxRecDepth 100000 in
theorem cM_one1_0 (l : Launch) (hl9 : l.stackTraces = false) (D : va_G) (cT : Nat → ClassId) (aK aV : Nat → Nat) (sz : Nat) (a0 : Nat) (a1 : Nat) (a2 : Nat) (v3 : Value) (v4 : Value) (v5 : Value) (v6 : Value) (v7 : Value) (v8 : Value) (v9 : Value) (v10 : Value) (v11 : Value) (v12 : Value) (v13 : Value) (v14 : Value) (v15 : Value) (v16 : Value) (v17 : Value) (v18 : Value) (v19 : Value) (v20 : Value) (v21 : Value) (v22 : Value) (v23 : Value) (v24 : Value) (v25 : Value) (v26 : Value) (v27 : Value) (v28 : Value) (v29 : Value) (v30 : Value) (v31 : Value) (v32 : Value) (v33 : Value) (v34 : Value) (v35 : Value) (v36 : Value) (v37 : Value) (f38 : Nat → Option Nat) (h39 : f38 1 = none) : xMet l yM_one1 wyM_one1 4 1 6 76 D cT aK aV sz [.ref a0, .int 0, .ref a1] [(a0, .inr (5, [v3, .ref a2, .int 1, v4, v5, v6, v7, v8, v9, v10, v11, v12, v13, v14, v15, v16, v17, v18, v19, v20, v21, v22, v23, v24, v25, v26, v27, v28, v29, v30, v31, v32])), (a1, .inr (6, [.int 0, v33, v34, v35, v36, v37])), (a2, .inl (cT 4, 1024, .inr (.inr (.inr (.inr f38)))))] (fun A => va_Qr (fun _ : Unit => True) (fun _ r2 t => xB D xcl cT A [(a0, .inr (5, [v3, .ref a2, .int 2, v4, v5, v6, v7, v8, v9, v10, v11, v12, v13, v14, v15, v16, v17, v18, v19, v20, v21, v22, v23, v24, v25, v26, v27, v28, v29, v30, v31, v32])), (a1, .inr (6, [.int 0, v33, v34, v35, v36, v37])), (a2, .inl (cT 4, 1024, .inr (.inr (.inr (.inr (va_up f38 1 (some r2))))))), (r2, .inr (6, [.int 2, .long 0, .int 0, .int 0, .int 0, .int 1]))] t) A) := by
  refine Met.ofW (cc := prog_13_method_66_code) (maxL := 3) (ret := (some (.object "ValueBenchModel$V"))) (by decide) rfl ?_
  intro p e s m args below meth c s₁ B hml hv
  obtain ⟨rfl, hsz, hZ, hP, hK, hD0⟩ := hv
  have hx := B.exec
  have hb := B.bytes
  have hr := B.returns
  have hts := atoms_spec (ws := wyM_one1) B.pre
  have htx := fun w h => hts w (List.mem_cons_of_mem _ h)
  have hown : s.vm.findClass "ValueBenchModel" = some m.cls := findClass_of_methodNamed B.named
  have hlocks := B.notSynchronized
  subst hsz
  have hD := hD0.self (sz := s.heap.size)
  generalize hAe : va_A [(a0, .inr (5, [v3, .ref a2, .int 1, v4, v5, v6, v7, v8, v9, v10, v11, v12, v13, v14, v15, v16, v17, v18, v19, v20, v21, v22, v23, v24, v25, v26, v27, v28, v29, v30, v31, v32])), (a1, .inr (6, [.int 0, v33, v34, v35, v36, v37])), (a2, .inl (cT 4, 1024, .inr (.inr (.inr (.inr f38)))))] s.heap.size = A at hD hZ ⊢
  have hA : ∀ q : Nat, s.heap.size ≤ q → A q := fun q h => by rw [← hAe]; exact Or.inr h
  have hS : va_S A s.heap s.heap [] := va_S.rf
  have hP : va_P D xcl [(a0, .inr (5, [v3, .ref a2, .int 1, v4, v5, v6, v7, v8, v9, v10, v11, v12, v13, v14, v15, v16, v17, v18, v19, v20, v21, v22, v23, v24, v25, v26, v27, v28, v29, v30, v31, v32])), (a1, .inr (6, [.int 0, v33, v34, v35, v36, v37])), (a2, .inl (cT 4, 1024, .inr (.inr (.inr (.inr f38)))))] s.heap := hP
  have hl := lv_entry ([.ref a0, .int 0, .ref a1]) (n := 3) (Nat.le_of_ble_eq_true rfl)
  rw [lg_entry_eq]
  generalize (lg_sl ([.ref a0, .int 0, .ref a1]) ++ List.replicate (3 - (lg_sl ([.ref a0, .int 0, .ref a1])).length) Slot.unset).toArray = ls at hl ⊢
  have hl : lv_has ls 3 [(0, .ref a0), (1, .int 0), (2, .ref a1)] := hl
  refine lv_iload_n hx hb dM_one1_0 rfl (lv_at hl 1 rfl) ?_
  refine lv_tableIn (off := 67) (tgt := 68) hx hb dM_one1_1 (by decide) (by decide) (by decide) (by decide) ?_
  refine lv_aload_n hx hb dM_one1_68 rfl (lv_at hl 0 rfl) ?_
  refine lv_aload_n hx hb dM_one1_69 rfl (lv_at hl 0 rfl) ?_
  refine lv_aload_n hx hb dM_one1_70 rfl (lv_at hl 2 rfl) ?_
  obtain ⟨hPc, hDc, hFc⟩ := xcut (wc := [(a1, .inr (6, [.int 0, v33, v34, v35, v36, v37]))]) hP hD hS hA [1] rfl rfl (by decide)
  refine va_calli (va_runV (C := "ValueBenchModel") (As := [.ref a1]) (rest := [.ref a0]) ⟨hx, hb, hml, hown, htx⟩ (cM_isTrue_0 l hl9 D cT aK aV s.heap.size a1 a0 v33 v34 v35 v36 v37) ⟨callB_of 1 htx (xw_goodC kw_7_1) rfl rfl rfl (htx _ kw_1_5) (htx _ kw_6_238) ⟨by decide, by decide, by decide +kernel⟩ ⟨Nat.le_of_ble_eq_true rfl, Nat.le_of_ble_eq_true rfl⟩, (htx _ kw_7_0), (htx _ kp_M_isTrue)⟩ ⟨xPre_blind, va_recv hK hP (ci := 5) rfl (q0 := 0) rfl, (fun U hU hW => ⟨rfl, xPre_of hZ hS hFc hPc hDc hK U hU hW⟩)⟩ rfl rfl hl.1 rfl (lv_room (Nat.le_of_ble_eq_true rfl)) dM_one1_71 ⟨Nat.le_of_ble_eq_true rfl, Nat.le_of_ble_eq_true rfl⟩) hS (fun q _ h => hFc q h) hFc (fun r1 u9 t H1 locs ht hvm hr9 hB hz1 hk1 hS => ?_)
  obtain ⟨hP1, hK1, hD1⟩ := hB
  rw [ht] at hP1
  obtain ⟨hP, hD⟩ := xjoin (W := [(a0, .inr (5, [v3, .ref a2, .int 1, v4, v5, v6, v7, v8, v9, v10, v11, v12, v13, v14, v15, v16, v17, v18, v19, v20, v21, v22, v23, v24, v25, v26, v27, v28, v29, v30, v31, v32])), (a2, .inl (cT 4, 1024, .inr (.inr (.inr (.inr f38))))), (a1, .inr (6, [.int 0, v33, v34, v35, v36, v37]))]) hP hD [1] [0, 2] 2 rfl rfl (by decide) (by decide) hk1 hFc hP1 hD1
  generalize H1 = H at hP hS ⊢
  rw [hr9]
  refine W.eq (g2 := F0 m 74 ls [.int 0, .ref a0]) rfl ?_
  refine lv_if_ne (tgt := 81) hx hb dM_one1_74 (by decide) (fun h => ((by revert h; decide : False)).elim) (fun _ => ?_)
  refine lv_iconst (v := 1) hx hb dM_one1_77 (by decide) ?_
  refine lv_goto (tgt := 82) hx hb dM_one1_78 (by decide) ?_
  obtain ⟨hPc, hDc, hFc⟩ := xcut (wc := [(a0, .inr (5, [v3, .ref a2, .int 1, v4, v5, v6, v7, v8, v9, v10, v11, v12, v13, v14, v15, v16, v17, v18, v19, v20, v21, v22, v23, v24, v25, v26, v27, v28, v29, v30, v31, v32])), (a2, .inl (cT 4, 1024, .inr (.inr (.inr (.inr f38)))))]) hP hD hS hA [0, 1] rfl rfl (by decide)
  refine va_callr (va_runV (C := "ValueBenchModel") (As := [.int 1]) (rest := []) ⟨hx, hb, hml, hown, htx⟩ (cM_truth_0 l hl9 D cT aK aV H.size a0 a2 v3 v4 v5 v6 v7 v8 v9 v10 v11 v12 v13 v14 v15 v16 v17 v18 v19 v20 v21 v22 v23 v24 v25 v26 v27 v28 v29 v30 v31 v32 f38 (by first | rfl | exact h39)) ⟨callB_of 1 htx (xw_goodC kw_7_5) rfl rfl rfl (htx _ kw_1_5) (htx _ kw_7_2) ⟨by decide, by decide, by decide +kernel⟩ ⟨Nat.le_of_ble_eq_true rfl, Nat.le_of_ble_eq_true rfl⟩, (htx _ kw_7_4), (htx _ kp_M_truth)⟩ ⟨xPre_blind, va_recv hK hP (ci := 5) rfl (q0 := 0) rfl, (fun U hU hW => ⟨rfl, xPre_of hZ hS hFc hPc hDc hK U hU hW⟩)⟩ rfl rfl hl.1 rfl (lv_room (Nat.le_of_ble_eq_true rfl)) dM_one1_82 ⟨Nat.le_of_ble_eq_true rfl, Nat.le_of_ble_eq_true rfl⟩) hS (fun q _ h => hFc q h) hFc (fun u9 r2 t H1 locs ht hvm hr9 hB hz1 hk1 hS => ?_)
  obtain ⟨hP1, hK1, hD1⟩ := hB
  rw [ht] at hP1
  obtain ⟨hP, hD⟩ := xjoin (W := [(a1, .inr (6, [.int 0, v33, v34, v35, v36, v37])), (a0, .inr (5, [v3, .ref a2, .int 2, v4, v5, v6, v7, v8, v9, v10, v11, v12, v13, v14, v15, v16, v17, v18, v19, v20, v21, v22, v23, v24, v25, v26, v27, v28, v29, v30, v31, v32])), (a2, .inl (cT 4, 1024, .inr (.inr (.inr (.inr (va_up f38 1 (some r2))))))), (r2, .inr (6, [.int 2, .long 0, .int 0, .int 0, .int 0, .int 1]))]) hP hD [0, 1] [2] 1 rfl rfl (by decide) (by decide) hk1 hFc hP1 hD1
  generalize H1 = H at hP hS ⊢
  refine W.eq (g2 := F0 m 85 ls [.ref r2]) rfl ?_
  obtain ⟨hP9, hD9⟩ := xsub (wc := [(a0, .inr (5, [v3, .ref a2, .int 2, v4, v5, v6, v7, v8, v9, v10, v11, v12, v13, v14, v15, v16, v17, v18, v19, v20, v21, v22, v23, v24, v25, v26, v27, v28, v29, v30, v31, v32])), (a1, .inr (6, [.int 0, v33, v34, v35, v36, v37])), (a2, .inl (cT 4, 1024, .inr (.inr (.inr (.inr (va_up f38 1 (some r2))))))), (r2, .inr (6, [.int 2, .long 0, .int 0, .int 0, .int 0, .int 1]))]) hP hD [1, 0, 2, 3] rfl rfl (by decide)
  refine W.widen (k := 1) (n := 6) (Nat.le_of_ble_eq_true rfl) (Nat.le_of_ble_eq_true rfl) ?_
  exact W.aret hx hb hr (Or.inl ⟨_, rfl⟩) (Or.inr ⟨_, rfl⟩) (fun t ht hW => ⟨⟨(), r2, rfl, trivial, by rw [ht]; exact hP9, va_K.moved hW.alike hK, hD9⟩, hS.F ht⟩) hS.2.2 dM_one1_85
set_option maxHeartbeats 400000000 in
set_option maxRecDepth 100000 in
theorem cM_put1_1 (l : Launch) (hl9 : l.stackTraces = false) (D : va_G) (cT : Nat → ClassId) (aK aV : Nat → Nat) (sz : Nat) (a0 : Nat) (a1 : Nat) (v2 : Value) (v3 : Value) (v4 : Value) (v5 : Value) (v6 : Value) (v7 : Value) (v8 : Value) (v9 : Value) (v10 : Value) (v11 : Value) (v12 : Value) (v13 : Value) (v14 : Value) (v15 : Value) (v16 : Value) (v17 : Value) (v18 : Value) (v19 : Value) (v20 : Value) (v21 : Value) (v22 : Value) (v23 : Value) (v24 : Value) (v25 : Value) (v26 : Value) (v27 : Value) (v28 : Value) (v29 : Value) (v30 : Value) (f31 : Nat → Int32) : xMet l yM_put1 wyM_put1 4 0 0 85 D cT aK aV sz [.ref a0, .ref (aK 12)] [(a0, .inr (5, [v2, v3, v4, v5, v6, v7, v8, v9, v10, v11, v12, v13, v14, v15, v16, v17, v18, v19, v20, v21, v22, .ref a1, .int 0, .int 4096, v23, v24, v25, v26, v27, v28, v29, v30])), (a1, .inl (cT 0, 1024, .inl f31))] (fun A => va_Qv (fun _ : Unit => True) (fun _ t => ∃ (y3 : Int32) (y6 : Int32) (y9 : Int32) (y12 : Int32), xB D xcl cT A [(a0, .inr (5, [v2, v3, v4, v5, v6, v7, v8, v9, v10, v11, v12, v13, v14, v15, v16, v17, v18, v19, v20, v21, v22, .ref a1, .int 4, .int 4096, v23, v24, v25, v26, v27, v28, v29, v30])), (a1, .inl (cT 0, 1024, .inl (upd (upd (upd (upd f31 0 (vp_nar .byte y3)) 1 (vp_nar .byte y6)) 2 (vp_nar .byte y9)) 3 (vp_nar .byte y12))))] t) A) := by
  refine Met.ofW (cc := prog_13_method_42_code) (maxL := 3) (ret := none) (by decide) rfl ?_
  intro p e s m args below meth c s₁ B hml hv
  obtain ⟨rfl, hsz, hZ, hP, hK, hD0⟩ := hv
  have hx := B.exec
  have hb := B.bytes
  have hr := B.returns
  have hts := atoms_spec (ws := wyM_put1) B.pre
  have htx := fun w h => hts w (List.mem_cons_of_mem _ h)
  have hown : s.vm.findClass "ValueBenchModel" = some m.cls := findClass_of_methodNamed B.named
  have hlocks := B.notSynchronized
  subst hsz
  have hD := hD0.self (sz := s.heap.size)
  generalize hAe : va_A [(a0, .inr (5, [v2, v3, v4, v5, v6, v7, v8, v9, v10, v11, v12, v13, v14, v15, v16, v17, v18, v19, v20, v21, v22, .ref a1, .int 0, .int 4096, v23, v24, v25, v26, v27, v28, v29, v30])), (a1, .inl (cT 0, 1024, .inl f31))] s.heap.size = A at hD hZ ⊢
  have hA : ∀ q : Nat, s.heap.size ≤ q → A q := fun q h => by rw [← hAe]; exact Or.inr h
  have hS : va_S A s.heap s.heap [] := va_S.rf
  have hP : va_P D xcl [(a0, .inr (5, [v2, v3, v4, v5, v6, v7, v8, v9, v10, v11, v12, v13, v14, v15, v16, v17, v18, v19, v20, v21, v22, .ref a1, .int 0, .int 4096, v23, v24, v25, v26, v27, v28, v29, v30])), (a1, .inl (cT 0, 1024, .inl f31))] s.heap := hP
  have hl := lv_entry ([.ref a0, .ref (aK 12)]) (n := 3) (Nat.le_of_ble_eq_true rfl)
  rw [lg_entry_eq]
  generalize (lg_sl ([.ref a0, .ref (aK 12)]) ++ List.replicate (3 - (lg_sl ([.ref a0, .ref (aK 12)])).length) Slot.unset).toArray = ls at hl ⊢
  have hl : lv_has ls 3 [(0, .ref a0), (1, .ref (aK 12))] := hl
  refine lv_iconst (v := 0) hx hb dM_put1_0 (by decide) ?_
  refine lv_istore_n (lv' := [(2, .int 0), (0, .ref a0), (1, .ref (aK 12))]) hx hb dM_put1_1 rfl hl (by decide) rfl (fun ls hl => ?_)
  refine lv_iload_n hx hb dM_put1_2 rfl (lv_at hl 0 rfl) ?_
  refine lv_aload_n hx hb dM_put1_3 rfl (lv_at hl 2 rfl) ?_
  obtain ⟨hPc, hDc, hFc⟩ := xcut (wc := []) hP hD hS hA [] rfl rfl (by decide)
  refine va_calli (va_runV (C := "java/lang/String") (As := []) (rest := [.int 0]) ⟨hx, hb, hml, hown, htx⟩ (cJS_length_1 l hl9 D cT aK aV s.heap.size) ⟨callB_of 0 htx (xw_goodC kw_2_70) rfl rfl rfl (htx _ kw_1_6) (htx _ kw_5_238) ⟨by decide, by decide, by decide +kernel⟩ ⟨Nat.le_of_ble_eq_true rfl, Nat.le_of_ble_eq_true rfl⟩, (htx _ kw_2_68), (htx _ kw_2_69)⟩ ⟨xPre_blind, vk_recv hZ.2.2.2.2.2.2.2.2.2.1 (i := 12) (by decide) hS, (fun U hU hW => ⟨rfl, xPre_of hZ hS hFc hPc hDc hK U hU hW⟩)⟩ rfl rfl hl.1 rfl (lv_room (Nat.le_of_ble_eq_true rfl)) dM_put1_4 ⟨Nat.le_of_ble_eq_true rfl, Nat.le_of_ble_eq_true rfl⟩) hS (fun q _ h => hFc q h) hFc (fun r1 u9 t H1 locs ht hvm hr9 hB hz1 hk1 hS => ?_)
  obtain ⟨hP1, hK1, hD1⟩ := hB
  rw [ht] at hP1
  obtain ⟨hP, hD⟩ := xjoin (W := [(a0, .inr (5, [v2, v3, v4, v5, v6, v7, v8, v9, v10, v11, v12, v13, v14, v15, v16, v17, v18, v19, v20, v21, v22, .ref a1, .int 0, .int 4096, v23, v24, v25, v26, v27, v28, v29, v30])), (a1, .inl (cT 0, 1024, .inl f31))]) hP hD [] [0, 1] 2 rfl rfl (by decide) (by decide) hk1 hFc hP1 hD1
  generalize H1 = H at hP hS ⊢
  rw [hr9]
  refine W.eq (g2 := F0 m 7 ls [.int 4, .int 0]) rfl ?_
  refine lv_icmp_ge (tgt := 25) hx hb dM_put1_7 (by decide) (fun h => ((by revert h; decide : False)).elim) (fun _ => ?_)
  refine lv_aload_n hx hb dM_put1_10 rfl (lv_at hl 1 rfl) ?_
  refine lv_aload_n hx hb dM_put1_11 rfl (lv_at hl 2 rfl) ?_
  refine lv_iload_n hx hb dM_put1_12 rfl (lv_at hl 0 rfl) ?_
  obtain ⟨hPc, hDc, hFc⟩ := xcut (wc := []) hP hD hS hA [] rfl rfl (by decide)
  refine va_calli (va_runV (C := "java/lang/String") (As := [.int 0]) (rest := [.ref a0]) ⟨hx, hb, hml, hown, htx⟩ (cJS_charAt_4 l hl9 D cT aK aV H.size) ⟨callB_of 1 htx (xw_goodC kw_2_80) rfl rfl rfl (htx _ kw_1_6) (htx _ kw_5_86) ⟨by decide, by decide, by decide +kernel⟩ ⟨Nat.le_of_ble_eq_true rfl, Nat.le_of_ble_eq_true rfl⟩, (htx _ kw_2_78), (htx _ kw_2_79)⟩ ⟨xPre_blind, vk_recv hZ.2.2.2.2.2.2.2.2.2.1 (i := 12) (by decide) hS, (fun U hU hW => ⟨rfl, xPre_of hZ hS hFc hPc hDc hK U hU hW⟩)⟩ rfl rfl hl.1 rfl (lv_room (Nat.le_of_ble_eq_true rfl)) dM_put1_13 ⟨Nat.le_of_ble_eq_true rfl, Nat.le_of_ble_eq_true rfl⟩) hS (fun q _ h => hFc q h) hFc (fun r2 u9 t H1 locs ht hvm hr9 hB hz1 hk1 hS => ?_)
  obtain ⟨hP1, hK1, hD1⟩ := hB
  rw [ht] at hP1
  obtain ⟨hP, hD⟩ := xjoin (W := [(a0, .inr (5, [v2, v3, v4, v5, v6, v7, v8, v9, v10, v11, v12, v13, v14, v15, v16, v17, v18, v19, v20, v21, v22, .ref a1, .int 0, .int 4096, v23, v24, v25, v26, v27, v28, v29, v30])), (a1, .inl (cT 0, 1024, .inl f31))]) hP hD [] [0, 1] 2 rfl rfl (by decide) (by decide) hk1 hFc hP1 hD1
  generalize H1 = H at hP hS ⊢
  rw [hr9]
  refine W.eq (g2 := F0 m 16 ls [.int 116, .ref a0]) rfl ?_
  obtain ⟨hPc, hDc, hFc⟩ := xcut (wc := [(a0, .inr (5, [v2, v3, v4, v5, v6, v7, v8, v9, v10, v11, v12, v13, v14, v15, v16, v17, v18, v19, v20, v21, v22, .ref a1, .int 0, .int 4096, v23, v24, v25, v26, v27, v28, v29, v30])), (a1, .inl (cT 0, 1024, .inl f31))]) hP hD hS hA [0, 1] rfl rfl (by decide)
  refine va_callv (va_runV (C := "ValueBenchModel") (As := [.int 116]) (rest := []) ⟨hx, hb, hml, hown, htx⟩ (cM_put0_0 l hl9 D cT aK aV H.size a0 a1 116 v2 v3 v4 v5 v6 v7 v8 v9 v10 v11 v12 v13 v14 v15 v16 v17 v18 v19 v20 v21 v22 v23 v24 v25 v26 v27 v28 v29 v30 f31) ⟨callB_of 1 htx (xw_goodC kw_6_136) rfl rfl rfl (htx _ kw_1_5) (htx _ kw_6_133) ⟨by decide, by decide, by decide +kernel⟩ ⟨Nat.le_of_ble_eq_true rfl, Nat.le_of_ble_eq_true rfl⟩, (htx _ kw_6_135), (htx _ kp_M_put0)⟩ ⟨xPre_blind, va_recv hK hP (ci := 5) rfl (q0 := 0) rfl, (fun U hU hW => ⟨rfl, xPre_of hZ hS hFc hPc hDc hK U hU hW⟩)⟩ rfl rfl hl.1 rfl (lv_room (Nat.le_of_ble_eq_true rfl)) dM_put1_16 ⟨Nat.le_of_ble_eq_true rfl, Nat.le_of_ble_eq_true rfl⟩) hS (fun q _ h => hFc q h) hFc (fun u9 t H1 locs ht hvm hr9 hB hz1 hk1 hS => ?_)
  obtain ⟨y3, hP1, hK1, hD1⟩ := hB
  rw [ht] at hP1
  obtain ⟨hP, hD⟩ := xjoin (W := [(a0, .inr (5, [v2, v3, v4, v5, v6, v7, v8, v9, v10, v11, v12, v13, v14, v15, v16, v17, v18, v19, v20, v21, v22, .ref a1, .int 1, .int 4096, v23, v24, v25, v26, v27, v28, v29, v30])), (a1, .inl (cT 0, 1024, .inl (upd f31 0 (vp_nar .byte y3))))]) hP hD [0, 1] [] 0 rfl rfl (by decide) (by decide) hk1 hFc hP1 hD1
  generalize H1 = H at hP hS ⊢
  refine lv_iinc (v := 1) (lv' := [(2, .int 1), (0, .ref a0), (1, .ref (aK 12))]) hx hb dM_put1_19 hl (k := 0) rfl (by decide) (by decide) rfl (fun ls hl => ?_)
  refine lv_goto (tgt := 2) hx hb dM_put1_22 (by decide) ?_
  refine lv_iload_n hx hb dM_put1_2 rfl (lv_at hl 0 rfl) ?_
  refine lv_aload_n hx hb dM_put1_3 rfl (lv_at hl 2 rfl) ?_
  obtain ⟨hPc, hDc, hFc⟩ := xcut (wc := []) hP hD hS hA [] rfl rfl (by decide)
  refine va_calli (va_runV (C := "java/lang/String") (As := []) (rest := [.int 1]) ⟨hx, hb, hml, hown, htx⟩ (cJS_length_1 l hl9 D cT aK aV H.size) ⟨callB_of 0 htx (xw_goodC kw_2_70) rfl rfl rfl (htx _ kw_1_6) (htx _ kw_5_238) ⟨by decide, by decide, by decide +kernel⟩ ⟨Nat.le_of_ble_eq_true rfl, Nat.le_of_ble_eq_true rfl⟩, (htx _ kw_2_68), (htx _ kw_2_69)⟩ ⟨xPre_blind, vk_recv hZ.2.2.2.2.2.2.2.2.2.1 (i := 12) (by decide) hS, (fun U hU hW => ⟨rfl, xPre_of hZ hS hFc hPc hDc hK U hU hW⟩)⟩ rfl rfl hl.1 rfl (lv_room (Nat.le_of_ble_eq_true rfl)) dM_put1_4 ⟨Nat.le_of_ble_eq_true rfl, Nat.le_of_ble_eq_true rfl⟩) hS (fun q _ h => hFc q h) hFc (fun r4 u9 t H1 locs ht hvm hr9 hB hz1 hk1 hS => ?_)
  obtain ⟨hP1, hK1, hD1⟩ := hB
  rw [ht] at hP1
  obtain ⟨hP, hD⟩ := xjoin (W := [(a0, .inr (5, [v2, v3, v4, v5, v6, v7, v8, v9, v10, v11, v12, v13, v14, v15, v16, v17, v18, v19, v20, v21, v22, .ref a1, .int 1, .int 4096, v23, v24, v25, v26, v27, v28, v29, v30])), (a1, .inl (cT 0, 1024, .inl (upd f31 0 (vp_nar .byte y3))))]) hP hD [] [0, 1] 2 rfl rfl (by decide) (by decide) hk1 hFc hP1 hD1
  generalize H1 = H at hP hS ⊢
  rw [hr9]
  refine W.eq (g2 := F0 m 7 ls [.int 4, .int 1]) rfl ?_
  refine lv_icmp_ge (tgt := 25) hx hb dM_put1_7 (by decide) (fun h => ((by revert h; decide : False)).elim) (fun _ => ?_)
  refine lv_aload_n hx hb dM_put1_10 rfl (lv_at hl 1 rfl) ?_
  refine lv_aload_n hx hb dM_put1_11 rfl (lv_at hl 2 rfl) ?_
  refine lv_iload_n hx hb dM_put1_12 rfl (lv_at hl 0 rfl) ?_
  obtain ⟨hPc, hDc, hFc⟩ := xcut (wc := []) hP hD hS hA [] rfl rfl (by decide)
  refine va_calli (va_runV (C := "java/lang/String") (As := [.int 1]) (rest := [.ref a0]) ⟨hx, hb, hml, hown, htx⟩ (cJS_charAt_5 l hl9 D cT aK aV H.size) ⟨callB_of 1 htx (xw_goodC kw_2_80) rfl rfl rfl (htx _ kw_1_6) (htx _ kw_5_86) ⟨by decide, by decide, by decide +kernel⟩ ⟨Nat.le_of_ble_eq_true rfl, Nat.le_of_ble_eq_true rfl⟩, (htx _ kw_2_78), (htx _ kw_2_79)⟩ ⟨xPre_blind, vk_recv hZ.2.2.2.2.2.2.2.2.2.1 (i := 12) (by decide) hS, (fun U hU hW => ⟨rfl, xPre_of hZ hS hFc hPc hDc hK U hU hW⟩)⟩ rfl rfl hl.1 rfl (lv_room (Nat.le_of_ble_eq_true rfl)) dM_put1_13 ⟨Nat.le_of_ble_eq_true rfl, Nat.le_of_ble_eq_true rfl⟩) hS (fun q _ h => hFc q h) hFc (fun r5 u9 t H1 locs ht hvm hr9 hB hz1 hk1 hS => ?_)
  obtain ⟨hP1, hK1, hD1⟩ := hB
  rw [ht] at hP1
  obtain ⟨hP, hD⟩ := xjoin (W := [(a0, .inr (5, [v2, v3, v4, v5, v6, v7, v8, v9, v10, v11, v12, v13, v14, v15, v16, v17, v18, v19, v20, v21, v22, .ref a1, .int 1, .int 4096, v23, v24, v25, v26, v27, v28, v29, v30])), (a1, .inl (cT 0, 1024, .inl (upd f31 0 (vp_nar .byte y3))))]) hP hD [] [0, 1] 2 rfl rfl (by decide) (by decide) hk1 hFc hP1 hD1
  generalize H1 = H at hP hS ⊢
  rw [hr9]
  refine W.eq (g2 := F0 m 16 ls [.int 114, .ref a0]) rfl ?_
  obtain ⟨hPc, hDc, hFc⟩ := xcut (wc := [(a0, .inr (5, [v2, v3, v4, v5, v6, v7, v8, v9, v10, v11, v12, v13, v14, v15, v16, v17, v18, v19, v20, v21, v22, .ref a1, .int 1, .int 4096, v23, v24, v25, v26, v27, v28, v29, v30])), (a1, .inl (cT 0, 1024, .inl (upd f31 0 (vp_nar .byte y3))))]) hP hD hS hA [0, 1] rfl rfl (by decide)
  refine va_callv (va_runV (C := "ValueBenchModel") (As := [.int 114]) (rest := []) ⟨hx, hb, hml, hown, htx⟩ (cM_put0_1 l hl9 D cT aK aV H.size a0 a1 114 v2 v3 v4 v5 v6 v7 v8 v9 v10 v11 v12 v13 v14 v15 v16 v17 v18 v19 v20 v21 v22 v23 v24 v25 v26 v27 v28 v29 v30 (upd f31 0 (vp_nar .byte y3))) ⟨callB_of 1 htx (xw_goodC kw_6_136) rfl rfl rfl (htx _ kw_1_5) (htx _ kw_6_133) ⟨by decide, by decide, by decide +kernel⟩ ⟨Nat.le_of_ble_eq_true rfl, Nat.le_of_ble_eq_true rfl⟩, (htx _ kw_6_135), (htx _ kp_M_put0)⟩ ⟨xPre_blind, va_recv hK hP (ci := 5) rfl (q0 := 0) rfl, (fun U hU hW => ⟨rfl, xPre_of hZ hS hFc hPc hDc hK U hU hW⟩)⟩ rfl rfl hl.1 rfl (lv_room (Nat.le_of_ble_eq_true rfl)) dM_put1_16 ⟨Nat.le_of_ble_eq_true rfl, Nat.le_of_ble_eq_true rfl⟩) hS (fun q _ h => hFc q h) hFc (fun u9 t H1 locs ht hvm hr9 hB hz1 hk1 hS => ?_)
  obtain ⟨y6, hP1, hK1, hD1⟩ := hB
  rw [ht] at hP1
  obtain ⟨hP, hD⟩ := xjoin (W := [(a0, .inr (5, [v2, v3, v4, v5, v6, v7, v8, v9, v10, v11, v12, v13, v14, v15, v16, v17, v18, v19, v20, v21, v22, .ref a1, .int 2, .int 4096, v23, v24, v25, v26, v27, v28, v29, v30])), (a1, .inl (cT 0, 1024, .inl (upd (upd f31 0 (vp_nar .byte y3)) 1 (vp_nar .byte y6))))]) hP hD [0, 1] [] 0 rfl rfl (by decide) (by decide) hk1 hFc hP1 hD1
  generalize H1 = H at hP hS ⊢
  refine lv_iinc (v := 2) (lv' := [(2, .int 2), (0, .ref a0), (1, .ref (aK 12))]) hx hb dM_put1_19 hl (k := 0) rfl (by decide) (by decide) rfl (fun ls hl => ?_)
  refine lv_goto (tgt := 2) hx hb dM_put1_22 (by decide) ?_
  refine lv_iload_n hx hb dM_put1_2 rfl (lv_at hl 0 rfl) ?_
  refine lv_aload_n hx hb dM_put1_3 rfl (lv_at hl 2 rfl) ?_
  obtain ⟨hPc, hDc, hFc⟩ := xcut (wc := []) hP hD hS hA [] rfl rfl (by decide)
  refine va_calli (va_runV (C := "java/lang/String") (As := []) (rest := [.int 2]) ⟨hx, hb, hml, hown, htx⟩ (cJS_length_1 l hl9 D cT aK aV H.size) ⟨callB_of 0 htx (xw_goodC kw_2_70) rfl rfl rfl (htx _ kw_1_6) (htx _ kw_5_238) ⟨by decide, by decide, by decide +kernel⟩ ⟨Nat.le_of_ble_eq_true rfl, Nat.le_of_ble_eq_true rfl⟩, (htx _ kw_2_68), (htx _ kw_2_69)⟩ ⟨xPre_blind, vk_recv hZ.2.2.2.2.2.2.2.2.2.1 (i := 12) (by decide) hS, (fun U hU hW => ⟨rfl, xPre_of hZ hS hFc hPc hDc hK U hU hW⟩)⟩ rfl rfl hl.1 rfl (lv_room (Nat.le_of_ble_eq_true rfl)) dM_put1_4 ⟨Nat.le_of_ble_eq_true rfl, Nat.le_of_ble_eq_true rfl⟩) hS (fun q _ h => hFc q h) hFc (fun r7 u9 t H1 locs ht hvm hr9 hB hz1 hk1 hS => ?_)
  obtain ⟨hP1, hK1, hD1⟩ := hB
  rw [ht] at hP1
  obtain ⟨hP, hD⟩ := xjoin (W := [(a0, .inr (5, [v2, v3, v4, v5, v6, v7, v8, v9, v10, v11, v12, v13, v14, v15, v16, v17, v18, v19, v20, v21, v22, .ref a1, .int 2, .int 4096, v23, v24, v25, v26, v27, v28, v29, v30])), (a1, .inl (cT 0, 1024, .inl (upd (upd f31 0 (vp_nar .byte y3)) 1 (vp_nar .byte y6))))]) hP hD [] [0, 1] 2 rfl rfl (by decide) (by decide) hk1 hFc hP1 hD1
  generalize H1 = H at hP hS ⊢
  rw [hr9]
  refine W.eq (g2 := F0 m 7 ls [.int 4, .int 2]) rfl ?_
  refine lv_icmp_ge (tgt := 25) hx hb dM_put1_7 (by decide) (fun h => ((by revert h; decide : False)).elim) (fun _ => ?_)
  refine lv_aload_n hx hb dM_put1_10 rfl (lv_at hl 1 rfl) ?_
  refine lv_aload_n hx hb dM_put1_11 rfl (lv_at hl 2 rfl) ?_
  refine lv_iload_n hx hb dM_put1_12 rfl (lv_at hl 0 rfl) ?_
  obtain ⟨hPc, hDc, hFc⟩ := xcut (wc := []) hP hD hS hA [] rfl rfl (by decide)
  refine va_calli (va_runV (C := "java/lang/String") (As := [.int 2]) (rest := [.ref a0]) ⟨hx, hb, hml, hown, htx⟩ (cJS_charAt_6 l hl9 D cT aK aV H.size) ⟨callB_of 1 htx (xw_goodC kw_2_80) rfl rfl rfl (htx _ kw_1_6) (htx _ kw_5_86) ⟨by decide, by decide, by decide +kernel⟩ ⟨Nat.le_of_ble_eq_true rfl, Nat.le_of_ble_eq_true rfl⟩, (htx _ kw_2_78), (htx _ kw_2_79)⟩ ⟨xPre_blind, vk_recv hZ.2.2.2.2.2.2.2.2.2.1 (i := 12) (by decide) hS, (fun U hU hW => ⟨rfl, xPre_of hZ hS hFc hPc hDc hK U hU hW⟩)⟩ rfl rfl hl.1 rfl (lv_room (Nat.le_of_ble_eq_true rfl)) dM_put1_13 ⟨Nat.le_of_ble_eq_true rfl, Nat.le_of_ble_eq_true rfl⟩) hS (fun q _ h => hFc q h) hFc (fun r8 u9 t H1 locs ht hvm hr9 hB hz1 hk1 hS => ?_)
  obtain ⟨hP1, hK1, hD1⟩ := hB
  rw [ht] at hP1
  obtain ⟨hP, hD⟩ := xjoin (W := [(a0, .inr (5, [v2, v3, v4, v5, v6, v7, v8, v9, v10, v11, v12, v13, v14, v15, v16, v17, v18, v19, v20, v21, v22, .ref a1, .int 2, .int 4096, v23, v24, v25, v26, v27, v28, v29, v30])), (a1, .inl (cT 0, 1024, .inl (upd (upd f31 0 (vp_nar .byte y3)) 1 (vp_nar .byte y6))))]) hP hD [] [0, 1] 2 rfl rfl (by decide) (by decide) hk1 hFc hP1 hD1
  generalize H1 = H at hP hS ⊢
  rw [hr9]
  refine W.eq (g2 := F0 m 16 ls [.int 117, .ref a0]) rfl ?_
  obtain ⟨hPc, hDc, hFc⟩ := xcut (wc := [(a0, .inr (5, [v2, v3, v4, v5, v6, v7, v8, v9, v10, v11, v12, v13, v14, v15, v16, v17, v18, v19, v20, v21, v22, .ref a1, .int 2, .int 4096, v23, v24, v25, v26, v27, v28, v29, v30])), (a1, .inl (cT 0, 1024, .inl (upd (upd f31 0 (vp_nar .byte y3)) 1 (vp_nar .byte y6))))]) hP hD hS hA [0, 1] rfl rfl (by decide)
  refine va_callv (va_runV (C := "ValueBenchModel") (As := [.int 117]) (rest := []) ⟨hx, hb, hml, hown, htx⟩ (cM_put0_2 l hl9 D cT aK aV H.size a0 a1 117 v2 v3 v4 v5 v6 v7 v8 v9 v10 v11 v12 v13 v14 v15 v16 v17 v18 v19 v20 v21 v22 v23 v24 v25 v26 v27 v28 v29 v30 (upd (upd f31 0 (vp_nar .byte y3)) 1 (vp_nar .byte y6))) ⟨callB_of 1 htx (xw_goodC kw_6_136) rfl rfl rfl (htx _ kw_1_5) (htx _ kw_6_133) ⟨by decide, by decide, by decide +kernel⟩ ⟨Nat.le_of_ble_eq_true rfl, Nat.le_of_ble_eq_true rfl⟩, (htx _ kw_6_135), (htx _ kp_M_put0)⟩ ⟨xPre_blind, va_recv hK hP (ci := 5) rfl (q0 := 0) rfl, (fun U hU hW => ⟨rfl, xPre_of hZ hS hFc hPc hDc hK U hU hW⟩)⟩ rfl rfl hl.1 rfl (lv_room (Nat.le_of_ble_eq_true rfl)) dM_put1_16 ⟨Nat.le_of_ble_eq_true rfl, Nat.le_of_ble_eq_true rfl⟩) hS (fun q _ h => hFc q h) hFc (fun u9 t H1 locs ht hvm hr9 hB hz1 hk1 hS => ?_)
  obtain ⟨y9, hP1, hK1, hD1⟩ := hB
  rw [ht] at hP1
  obtain ⟨hP, hD⟩ := xjoin (W := [(a0, .inr (5, [v2, v3, v4, v5, v6, v7, v8, v9, v10, v11, v12, v13, v14, v15, v16, v17, v18, v19, v20, v21, v22, .ref a1, .int 3, .int 4096, v23, v24, v25, v26, v27, v28, v29, v30])), (a1, .inl (cT 0, 1024, .inl (upd (upd (upd f31 0 (vp_nar .byte y3)) 1 (vp_nar .byte y6)) 2 (vp_nar .byte y9))))]) hP hD [0, 1] [] 0 rfl rfl (by decide) (by decide) hk1 hFc hP1 hD1
  generalize H1 = H at hP hS ⊢
  refine lv_iinc (v := 3) (lv' := [(2, .int 3), (0, .ref a0), (1, .ref (aK 12))]) hx hb dM_put1_19 hl (k := 0) rfl (by decide) (by decide) rfl (fun ls hl => ?_)
  refine lv_goto (tgt := 2) hx hb dM_put1_22 (by decide) ?_
  refine lv_iload_n hx hb dM_put1_2 rfl (lv_at hl 0 rfl) ?_
  refine lv_aload_n hx hb dM_put1_3 rfl (lv_at hl 2 rfl) ?_
  obtain ⟨hPc, hDc, hFc⟩ := xcut (wc := []) hP hD hS hA [] rfl rfl (by decide)
  refine va_calli (va_runV (C := "java/lang/String") (As := []) (rest := [.int 3]) ⟨hx, hb, hml, hown, htx⟩ (cJS_length_1 l hl9 D cT aK aV H.size) ⟨callB_of 0 htx (xw_goodC kw_2_70) rfl rfl rfl (htx _ kw_1_6) (htx _ kw_5_238) ⟨by decide, by decide, by decide +kernel⟩ ⟨Nat.le_of_ble_eq_true rfl, Nat.le_of_ble_eq_true rfl⟩, (htx _ kw_2_68), (htx _ kw_2_69)⟩ ⟨xPre_blind, vk_recv hZ.2.2.2.2.2.2.2.2.2.1 (i := 12) (by decide) hS, (fun U hU hW => ⟨rfl, xPre_of hZ hS hFc hPc hDc hK U hU hW⟩)⟩ rfl rfl hl.1 rfl (lv_room (Nat.le_of_ble_eq_true rfl)) dM_put1_4 ⟨Nat.le_of_ble_eq_true rfl, Nat.le_of_ble_eq_true rfl⟩) hS (fun q _ h => hFc q h) hFc (fun r10 u9 t H1 locs ht hvm hr9 hB hz1 hk1 hS => ?_)
  obtain ⟨hP1, hK1, hD1⟩ := hB
  rw [ht] at hP1
  obtain ⟨hP, hD⟩ := xjoin (W := [(a0, .inr (5, [v2, v3, v4, v5, v6, v7, v8, v9, v10, v11, v12, v13, v14, v15, v16, v17, v18, v19, v20, v21, v22, .ref a1, .int 3, .int 4096, v23, v24, v25, v26, v27, v28, v29, v30])), (a1, .inl (cT 0, 1024, .inl (upd (upd (upd f31 0 (vp_nar .byte y3)) 1 (vp_nar .byte y6)) 2 (vp_nar .byte y9))))]) hP hD [] [0, 1] 2 rfl rfl (by decide) (by decide) hk1 hFc hP1 hD1
  generalize H1 = H at hP hS ⊢
  rw [hr9]
  refine W.eq (g2 := F0 m 7 ls [.int 4, .int 3]) rfl ?_
  refine lv_icmp_ge (tgt := 25) hx hb dM_put1_7 (by decide) (fun h => ((by revert h; decide : False)).elim) (fun _ => ?_)
  refine lv_aload_n hx hb dM_put1_10 rfl (lv_at hl 1 rfl) ?_
  refine lv_aload_n hx hb dM_put1_11 rfl (lv_at hl 2 rfl) ?_
  refine lv_iload_n hx hb dM_put1_12 rfl (lv_at hl 0 rfl) ?_
  obtain ⟨hPc, hDc, hFc⟩ := xcut (wc := []) hP hD hS hA [] rfl rfl (by decide)
  refine va_calli (va_runV (C := "java/lang/String") (As := [.int 3]) (rest := [.ref a0]) ⟨hx, hb, hml, hown, htx⟩ (cJS_charAt_7 l hl9 D cT aK aV H.size) ⟨callB_of 1 htx (xw_goodC kw_2_80) rfl rfl rfl (htx _ kw_1_6) (htx _ kw_5_86) ⟨by decide, by decide, by decide +kernel⟩ ⟨Nat.le_of_ble_eq_true rfl, Nat.le_of_ble_eq_true rfl⟩, (htx _ kw_2_78), (htx _ kw_2_79)⟩ ⟨xPre_blind, vk_recv hZ.2.2.2.2.2.2.2.2.2.1 (i := 12) (by decide) hS, (fun U hU hW => ⟨rfl, xPre_of hZ hS hFc hPc hDc hK U hU hW⟩)⟩ rfl rfl hl.1 rfl (lv_room (Nat.le_of_ble_eq_true rfl)) dM_put1_13 ⟨Nat.le_of_ble_eq_true rfl, Nat.le_of_ble_eq_true rfl⟩) hS (fun q _ h => hFc q h) hFc (fun r11 u9 t H1 locs ht hvm hr9 hB hz1 hk1 hS => ?_)
  obtain ⟨hP1, hK1, hD1⟩ := hB
  rw [ht] at hP1
  obtain ⟨hP, hD⟩ := xjoin (W := [(a0, .inr (5, [v2, v3, v4, v5, v6, v7, v8, v9, v10, v11, v12, v13, v14, v15, v16, v17, v18, v19, v20, v21, v22, .ref a1, .int 3, .int 4096, v23, v24, v25, v26, v27, v28, v29, v30])), (a1, .inl (cT 0, 1024, .inl (upd (upd (upd f31 0 (vp_nar .byte y3)) 1 (vp_nar .byte y6)) 2 (vp_nar .byte y9))))]) hP hD [] [0, 1] 2 rfl rfl (by decide) (by decide) hk1 hFc hP1 hD1
  generalize H1 = H at hP hS ⊢
  rw [hr9]
  refine W.eq (g2 := F0 m 16 ls [.int 101, .ref a0]) rfl ?_
  obtain ⟨hPc, hDc, hFc⟩ := xcut (wc := [(a0, .inr (5, [v2, v3, v4, v5, v6, v7, v8, v9, v10, v11, v12, v13, v14, v15, v16, v17, v18, v19, v20, v21, v22, .ref a1, .int 3, .int 4096, v23, v24, v25, v26, v27, v28, v29, v30])), (a1, .inl (cT 0, 1024, .inl (upd (upd (upd f31 0 (vp_nar .byte y3)) 1 (vp_nar .byte y6)) 2 (vp_nar .byte y9))))]) hP hD hS hA [0, 1] rfl rfl (by decide)
  refine va_callv (va_runV (C := "ValueBenchModel") (As := [.int 101]) (rest := []) ⟨hx, hb, hml, hown, htx⟩ (cM_put0_3 l hl9 D cT aK aV H.size a0 a1 101 v2 v3 v4 v5 v6 v7 v8 v9 v10 v11 v12 v13 v14 v15 v16 v17 v18 v19 v20 v21 v22 v23 v24 v25 v26 v27 v28 v29 v30 (upd (upd (upd f31 0 (vp_nar .byte y3)) 1 (vp_nar .byte y6)) 2 (vp_nar .byte y9))) ⟨callB_of 1 htx (xw_goodC kw_6_136) rfl rfl rfl (htx _ kw_1_5) (htx _ kw_6_133) ⟨by decide, by decide, by decide +kernel⟩ ⟨Nat.le_of_ble_eq_true rfl, Nat.le_of_ble_eq_true rfl⟩, (htx _ kw_6_135), (htx _ kp_M_put0)⟩ ⟨xPre_blind, va_recv hK hP (ci := 5) rfl (q0 := 0) rfl, (fun U hU hW => ⟨rfl, xPre_of hZ hS hFc hPc hDc hK U hU hW⟩)⟩ rfl rfl hl.1 rfl (lv_room (Nat.le_of_ble_eq_true rfl)) dM_put1_16 ⟨Nat.le_of_ble_eq_true rfl, Nat.le_of_ble_eq_true rfl⟩) hS (fun q _ h => hFc q h) hFc (fun u9 t H1 locs ht hvm hr9 hB hz1 hk1 hS => ?_)
  obtain ⟨y12, hP1, hK1, hD1⟩ := hB
  rw [ht] at hP1
  obtain ⟨hP, hD⟩ := xjoin (W := [(a0, .inr (5, [v2, v3, v4, v5, v6, v7, v8, v9, v10, v11, v12, v13, v14, v15, v16, v17, v18, v19, v20, v21, v22, .ref a1, .int 4, .int 4096, v23, v24, v25, v26, v27, v28, v29, v30])), (a1, .inl (cT 0, 1024, .inl (upd (upd (upd (upd f31 0 (vp_nar .byte y3)) 1 (vp_nar .byte y6)) 2 (vp_nar .byte y9)) 3 (vp_nar .byte y12))))]) hP hD [0, 1] [] 0 rfl rfl (by decide) (by decide) hk1 hFc hP1 hD1
  generalize H1 = H at hP hS ⊢
  refine lv_iinc (v := 4) (lv' := [(2, .int 4), (0, .ref a0), (1, .ref (aK 12))]) hx hb dM_put1_19 hl (k := 0) rfl (by decide) (by decide) rfl (fun ls hl => ?_)
  refine lv_goto (tgt := 2) hx hb dM_put1_22 (by decide) ?_
  refine lv_iload_n hx hb dM_put1_2 rfl (lv_at hl 0 rfl) ?_
  refine lv_aload_n hx hb dM_put1_3 rfl (lv_at hl 2 rfl) ?_
  obtain ⟨hPc, hDc, hFc⟩ := xcut (wc := []) hP hD hS hA [] rfl rfl (by decide)
  refine va_calli (va_runV (C := "java/lang/String") (As := []) (rest := [.int 4]) ⟨hx, hb, hml, hown, htx⟩ (cJS_length_1 l hl9 D cT aK aV H.size) ⟨callB_of 0 htx (xw_goodC kw_2_70) rfl rfl rfl (htx _ kw_1_6) (htx _ kw_5_238) ⟨by decide, by decide, by decide +kernel⟩ ⟨Nat.le_of_ble_eq_true rfl, Nat.le_of_ble_eq_true rfl⟩, (htx _ kw_2_68), (htx _ kw_2_69)⟩ ⟨xPre_blind, vk_recv hZ.2.2.2.2.2.2.2.2.2.1 (i := 12) (by decide) hS, (fun U hU hW => ⟨rfl, xPre_of hZ hS hFc hPc hDc hK U hU hW⟩)⟩ rfl rfl hl.1 rfl (lv_room (Nat.le_of_ble_eq_true rfl)) dM_put1_4 ⟨Nat.le_of_ble_eq_true rfl, Nat.le_of_ble_eq_true rfl⟩) hS (fun q _ h => hFc q h) hFc (fun r13 u9 t H1 locs ht hvm hr9 hB hz1 hk1 hS => ?_)
  obtain ⟨hP1, hK1, hD1⟩ := hB
  rw [ht] at hP1
  obtain ⟨hP, hD⟩ := xjoin (W := [(a0, .inr (5, [v2, v3, v4, v5, v6, v7, v8, v9, v10, v11, v12, v13, v14, v15, v16, v17, v18, v19, v20, v21, v22, .ref a1, .int 4, .int 4096, v23, v24, v25, v26, v27, v28, v29, v30])), (a1, .inl (cT 0, 1024, .inl (upd (upd (upd (upd f31 0 (vp_nar .byte y3)) 1 (vp_nar .byte y6)) 2 (vp_nar .byte y9)) 3 (vp_nar .byte y12))))]) hP hD [] [0, 1] 2 rfl rfl (by decide) (by decide) hk1 hFc hP1 hD1
  generalize H1 = H at hP hS ⊢
  rw [hr9]
  refine W.eq (g2 := F0 m 7 ls [.int 4, .int 4]) rfl ?_
  refine lv_icmp_ge (tgt := 25) hx hb dM_put1_7 (by decide) (fun _ => ?_) (fun h => ((by revert h; decide : False)).elim)
  obtain ⟨hP9, hD9⟩ := xsub (wc := [(a0, .inr (5, [v2, v3, v4, v5, v6, v7, v8, v9, v10, v11, v12, v13, v14, v15, v16, v17, v18, v19, v20, v21, v22, .ref a1, .int 4, .int 4096, v23, v24, v25, v26, v27, v28, v29, v30])), (a1, .inl (cT 0, 1024, .inl (upd (upd (upd (upd f31 0 (vp_nar .byte y3)) 1 (vp_nar .byte y6)) 2 (vp_nar .byte y9)) 3 (vp_nar .byte y12))))]) hP hD [0, 1] rfl rfl (by decide)
  refine W.widen (k := 0) (n := 0) (Nat.le_of_ble_eq_true rfl) (Nat.le_of_ble_eq_true rfl) ?_
  exact W.vret hx hb hr (fun t ht hW => ⟨⟨(), rfl, trivial, y3, y6, y9, y12, by rw [ht]; exact hP9, va_K.moved hW.alike hK, hD9⟩, hS.F ht⟩) hS.2.2 dM_put1_25
set_option maxHeartbeats 400000000 in
set_option maxRecDepth 100000 in
theorem cM_print1_1 (l : Launch) (hl9 : l.stackTraces = false) (D : va_G) (cT : Nat → ClassId) (aK aV : Nat → Nat) (sz : Nat) (a0 : Nat) (a1 : Nat) (a2 : Nat) (v3 : Value) (v4 : Value) (v5 : Value) (v6 : Value) (v7 : Value) (v8 : Value) (v9 : Value) (v10 : Value) (v11 : Value) (v12 : Value) (v13 : Value) (v14 : Value) (v15 : Value) (v16 : Value) (v17 : Value) (v18 : Value) (v19 : Value) (v20 : Value) (v21 : Value) (v22 : Value) (v23 : Value) (v24 : Value) (v25 : Value) (v26 : Value) (v27 : Value) (v28 : Value) (v29 : Value) (v30 : Value) (v31 : Value) (v32 : Value) (v33 : Value) (v34 : Value) (v35 : Value) (v36 : Value) (f37 : Nat → Int32) : xMet l yM_print1 wyM_print1 5 0 0 107 D cT aK aV sz [.ref a1, .ref a0] [(a0, .inr (6, [.int 2, v3, v4, v5, v6, v7])), (a1, .inr (5, [v8, v9, v10, v11, v12, v13, v14, v15, v16, v17, v18, v19, v20, v21, v22, v23, v24, v25, v26, v27, v28, .ref a2, .int 0, .int 4096, v29, v30, v31, v32, v33, v34, v35, v36])), (a2, .inl (cT 0, 1024, .inl f37))] (fun A => va_Qv (fun _ : Unit => True) (fun _ t => ∃ (y1 : Int32) (y2 : Int32) (y3 : Int32) (y4 : Int32), xB D xcl cT A [(a0, .inr (6, [.int 2, v3, v4, v5, v6, v7])), (a1, .inr (5, [v8, v9, v10, v11, v12, v13, v14, v15, v16, v17, v18, v19, v20, v21, v22, v23, v24, v25, v26, v27, v28, .ref a2, .int 4, .int 4096, v29, v30, v31, v32, v33, v34, v35, v36])), (a2, .inl (cT 0, 1024, .inl (upd (upd (upd (upd f37 0 (vp_nar .byte y1)) 1 (vp_nar .byte y2)) 2 (vp_nar .byte y3)) 3 (vp_nar .byte y4))))] t) A) := by
  refine Met.ofW (cc := prog_13_method_46_code) (maxL := 3) (ret := none) (by decide) rfl ?_
  intro p e s m args below meth c s₁ B hml hv
  obtain ⟨rfl, hsz, hZ, hP, hK, hD0⟩ := hv
  have hx := B.exec
  have hb := B.bytes
  have hr := B.returns
  have hts := atoms_spec (ws := wyM_print1) B.pre
  have htx := fun w h => hts w (List.mem_cons_of_mem _ h)
  have hown : s.vm.findClass "ValueBenchModel" = some m.cls := findClass_of_methodNamed B.named
  have hlocks := B.notSynchronized
  subst hsz
  have hD := hD0.self (sz := s.heap.size)
  generalize hAe : va_A [(a0, .inr (6, [.int 2, v3, v4, v5, v6, v7])), (a1, .inr (5, [v8, v9, v10, v11, v12, v13, v14, v15, v16, v17, v18, v19, v20, v21, v22, v23, v24, v25, v26, v27, v28, .ref a2, .int 0, .int 4096, v29, v30, v31, v32, v33, v34, v35, v36])), (a2, .inl (cT 0, 1024, .inl f37))] s.heap.size = A at hD hZ ⊢
  have hA : ∀ q : Nat, s.heap.size ≤ q → A q := fun q h => by rw [← hAe]; exact Or.inr h
  have hS : va_S A s.heap s.heap [] := va_S.rf
  have hP : va_P D xcl [(a0, .inr (6, [.int 2, v3, v4, v5, v6, v7])), (a1, .inr (5, [v8, v9, v10, v11, v12, v13, v14, v15, v16, v17, v18, v19, v20, v21, v22, v23, v24, v25, v26, v27, v28, .ref a2, .int 0, .int 4096, v29, v30, v31, v32, v33, v34, v35, v36])), (a2, .inl (cT 0, 1024, .inl f37))] s.heap := hP
  have hl := lv_entry ([.ref a1, .ref a0]) (n := 3) (Nat.le_of_ble_eq_true rfl)
  rw [lg_entry_eq]
  generalize (lg_sl ([.ref a1, .ref a0]) ++ List.replicate (3 - (lg_sl ([.ref a1, .ref a0])).length) Slot.unset).toArray = ls at hl ⊢
  have hl : lv_has ls 3 [(0, .ref a1), (1, .ref a0)] := hl
  refine lv_aload_n hx hb dM_print1_0 rfl (lv_at hl 1 rfl) ?_
  refine va_getN (D := D) (ci := 6) (v := .int 2) (C := "ValueBenchModel$V") (T := TV) (N := 6) hx hb htx inV hown hK hP 0 rfl rfl 0 (by decide) ((hZ.1 (93, "kind", "I") (List.mem_of_getElem? (i := 0) rfl)).use rfl) (fun _ h9 => h9) rfl dM_print1_1 ?_
  refine lv_tableIn (off := 50) (tgt := 54) hx hb dM_print1_4 (by decide) (by decide) (by decide) (by decide) ?_
  refine lv_aload_n hx hb dM_print1_54 rfl (lv_at hl 0 rfl) ?_
  refine va_ldcS (q := aK 12) hx hb hown (hZ.2.2.2.2.2.2.2.2.1 ("ValueBenchModel", 236, "true", 12) (List.mem_of_getElem? (i := 18) rfl)) dM_print1_55 ?_
  obtain ⟨hPc, hDc, hFc⟩ := xcut (wc := [(a1, .inr (5, [v8, v9, v10, v11, v12, v13, v14, v15, v16, v17, v18, v19, v20, v21, v22, v23, v24, v25, v26, v27, v28, .ref a2, .int 0, .int 4096, v29, v30, v31, v32, v33, v34, v35, v36])), (a2, .inl (cT 0, 1024, .inl f37))]) hP hD hS hA [1, 2] rfl rfl (by decide)
  refine va_callv (va_runV (C := "ValueBenchModel") (As := [.ref (aK 12)]) (rest := []) ⟨hx, hb, hml, hown, htx⟩ (cM_put1_1 l hl9 D cT aK aV s.heap.size a1 a2 v8 v9 v10 v11 v12 v13 v14 v15 v16 v17 v18 v19 v20 v21 v22 v23 v24 v25 v26 v27 v28 v29 v30 v31 v32 v33 v34 v35 v36 f37) ⟨callB_of 1 htx (xw_goodC kw_6_132) rfl rfl rfl (htx _ kw_1_5) (htx _ kw_6_129) ⟨by decide, by decide, by decide +kernel⟩ ⟨Nat.le_of_ble_eq_true rfl, Nat.le_of_ble_eq_true rfl⟩, (htx _ kw_6_131), (htx _ kp_M_put1)⟩ ⟨xPre_blind, va_recv hK hP (ci := 5) rfl (q0 := 1) rfl, (fun U hU hW => ⟨rfl, xPre_of hZ hS hFc hPc hDc hK U hU hW⟩)⟩ rfl rfl hl.1 rfl (lv_room (Nat.le_of_ble_eq_true rfl)) dM_print1_57 ⟨Nat.le_of_ble_eq_true rfl, Nat.le_of_ble_eq_true rfl⟩) hS (fun q _ h => hFc q h) hFc (fun u9 t H1 locs ht hvm hr9 hB hz1 hk1 hS => ?_)
  obtain ⟨y1, y2, y3, y4, hP1, hK1, hD1⟩ := hB
  rw [ht] at hP1
  obtain ⟨hP, hD⟩ := xjoin (W := [(a0, .inr (6, [.int 2, v3, v4, v5, v6, v7])), (a1, .inr (5, [v8, v9, v10, v11, v12, v13, v14, v15, v16, v17, v18, v19, v20, v21, v22, v23, v24, v25, v26, v27, v28, .ref a2, .int 4, .int 4096, v29, v30, v31, v32, v33, v34, v35, v36])), (a2, .inl (cT 0, 1024, .inl (upd (upd (upd (upd f37 0 (vp_nar .byte y1)) 1 (vp_nar .byte y2)) 2 (vp_nar .byte y3)) 3 (vp_nar .byte y4))))]) hP hD [1, 2] [0] 1 rfl rfl (by decide) (by decide) hk1 hFc hP1 hD1
  generalize H1 = H at hP hS ⊢
  obtain ⟨hP9, hD9⟩ := xsub (wc := [(a0, .inr (6, [.int 2, v3, v4, v5, v6, v7])), (a1, .inr (5, [v8, v9, v10, v11, v12, v13, v14, v15, v16, v17, v18, v19, v20, v21, v22, v23, v24, v25, v26, v27, v28, .ref a2, .int 4, .int 4096, v29, v30, v31, v32, v33, v34, v35, v36])), (a2, .inl (cT 0, 1024, .inl (upd (upd (upd (upd f37 0 (vp_nar .byte y1)) 1 (vp_nar .byte y2)) 2 (vp_nar .byte y3)) 3 (vp_nar .byte y4))))]) hP hD [0, 1, 2] rfl rfl (by decide)
  refine W.widen (k := 0) (n := 0) (Nat.le_of_ble_eq_true rfl) (Nat.le_of_ble_eq_true rfl) ?_
  exact W.vret hx hb hr (fun t ht hW => ⟨⟨(), rfl, trivial, y1, y2, y3, y4, by rw [ht]; exact hP9, va_K.moved hW.alike hK, hD9⟩, hS.F ht⟩) hS.2.2 dM_print1_60
set_option maxHeartbeats 400000000 in
set_option maxRecDepth 100000 in
theorem cM_store_1 (l : Launch) (hl9 : l.stackTraces = false) (D : va_G) (cT : Nat → ClassId) (aK aV : Nat → Nat) (sz : Nat) (a0 : Nat) (a1 : Nat) (a2 : Nat) (a3 : Nat) (a4 : Nat) (a5 : Nat) (x6 : Int32) (v11 : Value) (v12 : Value) (v13 : Value) (v14 : Value) (v15 : Value) (v16 : Value) (v17 : Value) (v18 : Value) (v19 : Value) (v20 : Value) (v21 : Value) (v22 : Value) (v23 : Value) (v24 : Value) (v25 : Value) (v26 : Value) (v27 : Value) (v28 : Value) (v29 : Value) (v30 : Value) (v31 : Value) (v32 : Value) (v33 : Value) (v34 : Value) (v35 : Value) (v36 : Value) (v37 : Value) (v38 : Value) (v39 : Value) (v40 : Value) (v41 : Value) (v42 : Value) (v43 : Value) (v44 : Value) (f45 : Nat → Int32) (f46 : Nat → Option Nat) (f48 : Nat → Int32) (f49 : Nat → Int32) (h7 : ¬ x6 < 0) (h8 : ¬ 7 < x6) (h9 : x6 ≤ 7) (h10 : vp_in x6 8) (h47 : f46 x6.toNatClampNeg = some a4) : xMet l yM_store wyM_store 6 0 0 129 D cT aK aV sz [.ref a0, .int x6, .ref a1] [(a0, .inr (5, [v11, v12, v13, v14, v15, v16, v17, v18, v19, v20, v21, v22, v23, v24, v25, v26, v27, v28, v29, v30, v31, .ref a2, v32, v33, .ref a3, .ref a5, v34, v35, v36, v37, v38, v39])), (a1, .inr (6, [.int 2, v40, v41, v42, v43, v44])), (a2, .inl (cT 0, 1024, .inl f45)), (a3, .inl (cT 5, 8, .inr (.inr (.inr (.inr f46))))), (a4, .inl (cT 0, 4096, .inl f48)), (a5, .inl (cT 1, 8, .inl f49))] (fun A => va_Qi (fun (r : Int32) (_ : Unit) => r = 4) (fun _ t => ∃ (y1 : Int32) (y2 : Int32) (y3 : Int32) (y4 : Int32), xB D xcl cT A [(a0, .inr (5, [v11, v12, v13, v14, v15, v16, v17, v18, v19, v20, v21, v22, v23, v24, v25, v26, v27, v28, v29, v30, v31, .ref a2, .int 4, .int 4096, .ref a3, .ref a5, v34, v35, v36, v37, v38, v39])), (a1, .inr (6, [.int 2, v40, v41, v42, v43, v44])), (a2, .inl (cT 0, 1024, .inl (upd (upd (upd (upd f45 0 (vp_nar .byte y1)) 1 (vp_nar .byte y2)) 2 (vp_nar .byte y3)) 3 (vp_nar .byte y4)))), (a3, .inl (cT 5, 8, .inr (.inr (.inr (.inr f46))))), (a4, .inl (cT 0, 4096, .inl (upd (upd (upd (upd f48 0 (vp_nar .byte (vp_nar .byte y1))) 1 (vp_nar .byte (vp_nar .byte y2))) 2 (vp_nar .byte (vp_nar .byte y3))) 3 (vp_nar .byte (vp_nar .byte y4))))), (a5, .inl (cT 1, 8, .inl (upd f49 x6.toNatClampNeg 4)))] t) A) := by
  refine Met.ofW (cc := prog_13_method_80_code) (maxL := 4) (ret := (some .int)) (by decide) rfl ?_
  intro p e s m args below meth c s₁ B hml hv
  obtain ⟨rfl, hsz, hZ, hP, hK, hD0⟩ := hv
  have hx := B.exec
  have hb := B.bytes
  have hr := B.returns
  have hts := atoms_spec (ws := wyM_store) B.pre
  have htx := fun w h => hts w (List.mem_cons_of_mem _ h)
  have hown : s.vm.findClass "ValueBenchModel" = some m.cls := findClass_of_methodNamed B.named
  have hlocks := B.notSynchronized
  subst hsz
  have hD := hD0.self (sz := s.heap.size)
  generalize hAe : va_A [(a0, .inr (5, [v11, v12, v13, v14, v15, v16, v17, v18, v19, v20, v21, v22, v23, v24, v25, v26, v27, v28, v29, v30, v31, .ref a2, v32, v33, .ref a3, .ref a5, v34, v35, v36, v37, v38, v39])), (a1, .inr (6, [.int 2, v40, v41, v42, v43, v44])), (a2, .inl (cT 0, 1024, .inl f45)), (a3, .inl (cT 5, 8, .inr (.inr (.inr (.inr f46))))), (a4, .inl (cT 0, 4096, .inl f48)), (a5, .inl (cT 1, 8, .inl f49))] s.heap.size = A at hD hZ ⊢
  have hA : ∀ q : Nat, s.heap.size ≤ q → A q := fun q h => by rw [← hAe]; exact Or.inr h
  have hS : va_S A s.heap s.heap [] := va_S.rf
  have hP : va_P D xcl [(a0, .inr (5, [v11, v12, v13, v14, v15, v16, v17, v18, v19, v20, v21, v22, v23, v24, v25, v26, v27, v28, v29, v30, v31, .ref a2, v32, v33, .ref a3, .ref a5, v34, v35, v36, v37, v38, v39])), (a1, .inr (6, [.int 2, v40, v41, v42, v43, v44])), (a2, .inl (cT 0, 1024, .inl f45)), (a3, .inl (cT 5, 8, .inr (.inr (.inr (.inr f46))))), (a4, .inl (cT 0, 4096, .inl f48)), (a5, .inl (cT 1, 8, .inl f49))] s.heap := hP
  have hl := lv_entry ([.ref a0, .int x6, .ref a1]) (n := 4) (Nat.le_of_ble_eq_true rfl)
  rw [lg_entry_eq]
  generalize (lg_sl ([.ref a0, .int x6, .ref a1]) ++ List.replicate (4 - (lg_sl ([.ref a0, .int x6, .ref a1])).length) Slot.unset).toArray = ls at hl ⊢
  have hl : lv_has ls 4 [(0, .ref a0), (1, .int x6), (2, .ref a1)] := hl
  refine lv_aload_n hx hb dM_store_0 rfl (lv_at hl 0 rfl) ?_
  refine lv_iconst (v := 0) hx hb dM_store_1 (by decide) ?_
  refine va_put (D := D) (ci := 5) (v := .int 0) (ty := .int) (C := "ValueBenchModel") (T := TM) (N := 32) hx hb htx inM tyM tyM_ok nmM hown hK hP hD hS 0 rfl rfl 22 (by decide) (htx _ kw_5_109) (fun _ h9 => h9) rfl (by decide +kernel) rfl rfl (Nat.le_of_ble_eq_true rfl) dM_store_2 (fun H locs hP hD hS => ?_)
  obtain ⟨hP, hD⟩ : xPD D xcl A [(a0, .inr (5, [v11, v12, v13, v14, v15, v16, v17, v18, v19, v20, v21, v22, v23, v24, v25, v26, v27, v28, v29, v30, v31, .ref a2, .int 0, v33, .ref a3, .ref a5, v34, v35, v36, v37, v38, v39])), (a1, .inr (6, [.int 2, v40, v41, v42, v43, v44])), (a2, .inl (cT 0, 1024, .inl f45)), (a3, .inl (cT 5, 8, .inr (.inr (.inr (.inr f46))))), (a4, .inl (cT 0, 4096, .inl f48)), (a5, .inl (cT 1, 8, .inl f49))] H := ⟨hP, hD⟩
  refine lv_aload_n hx hb dM_store_5 rfl (lv_at hl 0 rfl) ?_
  refine lv_sipush (v := 4096) hx hb dM_store_6 (by decide) ?_
  refine va_put (D := D) (ci := 5) (v := .int 4096) (ty := .int) (C := "ValueBenchModel") (T := TM) (N := 32) hx hb htx inM tyM tyM_ok nmM hown hK hP hD hS 0 rfl rfl 23 (by decide) (htx _ kw_5_110) (fun _ h9 => h9) rfl (by decide +kernel) rfl rfl (Nat.le_of_ble_eq_true rfl) dM_store_9 (fun H locs hP hD hS => ?_)
  obtain ⟨hP, hD⟩ : xPD D xcl A [(a0, .inr (5, [v11, v12, v13, v14, v15, v16, v17, v18, v19, v20, v21, v22, v23, v24, v25, v26, v27, v28, v29, v30, v31, .ref a2, .int 0, .int 4096, .ref a3, .ref a5, v34, v35, v36, v37, v38, v39])), (a1, .inr (6, [.int 2, v40, v41, v42, v43, v44])), (a2, .inl (cT 0, 1024, .inl f45)), (a3, .inl (cT 5, 8, .inr (.inr (.inr (.inr f46))))), (a4, .inl (cT 0, 4096, .inl f48)), (a5, .inl (cT 1, 8, .inl f49))] H := ⟨hP, hD⟩
  refine lv_aload_n hx hb dM_store_12 rfl (lv_at hl 0 rfl) ?_
  refine lv_aload_n hx hb dM_store_13 rfl (lv_at hl 2 rfl) ?_
  obtain ⟨hPc, hDc, hFc⟩ := xcut (wc := [(a1, .inr (6, [.int 2, v40, v41, v42, v43, v44])), (a0, .inr (5, [v11, v12, v13, v14, v15, v16, v17, v18, v19, v20, v21, v22, v23, v24, v25, v26, v27, v28, v29, v30, v31, .ref a2, .int 0, .int 4096, .ref a3, .ref a5, v34, v35, v36, v37, v38, v39])), (a2, .inl (cT 0, 1024, .inl f45))]) hP hD hS hA [1, 0, 2] rfl rfl (by decide)
  refine va_callv (va_runV (C := "ValueBenchModel") (As := [.ref a1]) (rest := []) ⟨hx, hb, hml, hown, htx⟩ (cM_print1_1 l hl9 D cT aK aV H.size a1 a0 a2 v40 v41 v42 v43 v44 v11 v12 v13 v14 v15 v16 v17 v18 v19 v20 v21 v22 v23 v24 v25 v26 v27 v28 v29 v30 v31 (.ref a3) (.ref a5) v34 v35 v36 v37 v38 v39 f45) ⟨callB_of 1 htx (xw_goodC kw_6_128) rfl rfl rfl (htx _ kw_1_5) (htx _ kw_6_125) ⟨by decide, by decide, by decide +kernel⟩ ⟨Nat.le_of_ble_eq_true rfl, Nat.le_of_ble_eq_true rfl⟩, (htx _ kw_6_127), (htx _ kp_M_print1)⟩ ⟨xPre_blind, va_recv hK hP (ci := 5) rfl (q0 := 0) rfl, (fun U hU hW => ⟨rfl, xPre_of hZ hS hFc hPc hDc hK U hU hW⟩)⟩ rfl rfl hl.1 rfl (lv_room (Nat.le_of_ble_eq_true rfl)) dM_store_14 ⟨Nat.le_of_ble_eq_true rfl, Nat.le_of_ble_eq_true rfl⟩) hS (fun q _ h => hFc q h) hFc (fun u9 t H1 locs ht hvm hr9 hB hz1 hk1 hS => ?_)
  obtain ⟨y1, y2, y3, y4, hP1, hK1, hD1⟩ := hB
  rw [ht] at hP1
  obtain ⟨hP, hD⟩ := xjoin (W := [(a3, .inl (cT 5, 8, .inr (.inr (.inr (.inr f46))))), (a4, .inl (cT 0, 4096, .inl f48)), (a5, .inl (cT 1, 8, .inl f49)), (a1, .inr (6, [.int 2, v40, v41, v42, v43, v44])), (a0, .inr (5, [v11, v12, v13, v14, v15, v16, v17, v18, v19, v20, v21, v22, v23, v24, v25, v26, v27, v28, v29, v30, v31, .ref a2, .int 4, .int 4096, .ref a3, .ref a5, v34, v35, v36, v37, v38, v39])), (a2, .inl (cT 0, 1024, .inl (upd (upd (upd (upd f45 0 (vp_nar .byte y1)) 1 (vp_nar .byte y2)) 2 (vp_nar .byte y3)) 3 (vp_nar .byte y4))))]) hP hD [1, 0, 2] [3, 4, 5] 3 rfl rfl (by decide) (by decide) hk1 hFc hP1 hD1
  generalize H1 = H at hP hS ⊢
  refine lv_iconst (v := 0) hx hb dM_store_17 (by decide) ?_
  refine lv_istore_n (lv' := [(3, .int 0), (0, .ref a0), (1, .int x6), (2, .ref a1)]) hx hb dM_store_18 rfl hl (by decide) rfl (fun ls hl => ?_)
  refine lv_iload_n hx hb dM_store_19 rfl (lv_at hl 0 rfl) ?_
  refine lv_aload_n hx hb dM_store_20 rfl (lv_at hl 1 rfl) ?_
  refine va_get (D := D) (ci := 5) (v := .int 4) (C := "ValueBenchModel") (T := TM) (N := 32) hx hb htx inM hown hK hP 4 rfl rfl 22 (by decide) (htx _ kw_5_109) (fun _ h9 => h9) rfl dM_store_21 ?_
  refine lv_icmp_ge (tgt := 47) hx hb dM_store_24 (by decide) (fun h => ((by revert h; decide : False)).elim) (fun _ => ?_)
  refine lv_aload_n hx hb dM_store_27 rfl (lv_at hl 1 rfl) ?_
  refine va_get (D := D) (ci := 5) (v := .ref a3) (C := "ValueBenchModel") (T := TM) (N := 32) hx hb htx inM hown hK hP 4 rfl rfl 24 (by decide) (htx _ kw_5_111) (fun _ h9 => h9) rfl dM_store_28 ?_
  refine lv_iload_n hx hb dM_store_31 rfl (lv_at hl 2 rfl) ?_
  refine xx_aldA hx hb hK hP 0 5 rfl rfl h10 dM_store_32 ?_
  refine W.eq (g2 := F0 m 33 ls [va_rf (f46 x6.toNatClampNeg)]) rfl ?_
  rw [h47]
  refine W.eq (g2 := F0 m 33 ls [.ref a4]) rfl ?_
  refine lv_iload_n hx hb dM_store_33 rfl (lv_at hl 0 rfl) ?_
  refine lv_aload_n hx hb dM_store_34 rfl (lv_at hl 1 rfl) ?_
  refine va_get (D := D) (ci := 5) (v := .ref a2) (C := "ValueBenchModel") (T := TM) (N := 32) hx hb htx inM hown hK hP 4 rfl rfl 21 (by decide) (htx _ kw_5_108) (fun _ h9 => h9) rfl dM_store_35 ?_
  refine lv_iload_n hx hb dM_store_38 rfl (lv_at hl 0 rfl) ?_
  refine va_bald hx hb hK hP 5 0 rfl rfl (show ¬ ((0 : Int32) < 0 ∨ 1024 ≤ (0 : Int32).toNatClampNeg) by decide) dM_store_39 ?_
  refine W.eq (g2 := F0 m 40 ls [.int (vp_nar .byte y1), .int 0, .ref a4]) rfl ?_
  refine va_bast hx hb hK hP hD hS 1 0 rfl rfl (show ¬ ((0 : Int32) < 0 ∨ 4096 ≤ (0 : Int32).toNatClampNeg) by decide) dM_store_40 (fun H locs hP hD hS => ?_)
  obtain ⟨hP, hD⟩ : xPD D xcl A [(a3, .inl (cT 5, 8, .inr (.inr (.inr (.inr f46))))), (a4, .inl (cT 0, 4096, .inl (upd f48 0 (vp_nar .byte (vp_nar .byte y1))))), (a5, .inl (cT 1, 8, .inl f49)), (a1, .inr (6, [.int 2, v40, v41, v42, v43, v44])), (a0, .inr (5, [v11, v12, v13, v14, v15, v16, v17, v18, v19, v20, v21, v22, v23, v24, v25, v26, v27, v28, v29, v30, v31, .ref a2, .int 4, .int 4096, .ref a3, .ref a5, v34, v35, v36, v37, v38, v39])), (a2, .inl (cT 0, 1024, .inl (upd (upd (upd (upd f45 0 (vp_nar .byte y1)) 1 (vp_nar .byte y2)) 2 (vp_nar .byte y3)) 3 (vp_nar .byte y4))))] H := ⟨hP, hD⟩
  refine lv_iinc (v := 1) (lv' := [(3, .int 1), (0, .ref a0), (1, .int x6), (2, .ref a1)]) hx hb dM_store_41 hl (k := 0) rfl (by decide) (by decide) rfl (fun ls hl => ?_)
  refine lv_goto (tgt := 19) hx hb dM_store_44 (by decide) ?_
  refine lv_iload_n hx hb dM_store_19 rfl (lv_at hl 0 rfl) ?_
  refine lv_aload_n hx hb dM_store_20 rfl (lv_at hl 1 rfl) ?_
  refine va_get (D := D) (ci := 5) (v := .int 4) (C := "ValueBenchModel") (T := TM) (N := 32) hx hb htx inM hown hK hP 4 rfl rfl 22 (by decide) (htx _ kw_5_109) (fun _ h9 => h9) rfl dM_store_21 ?_
  refine lv_icmp_ge (tgt := 47) hx hb dM_store_24 (by decide) (fun h => ((by revert h; decide : False)).elim) (fun _ => ?_)
  refine lv_aload_n hx hb dM_store_27 rfl (lv_at hl 1 rfl) ?_
  refine va_get (D := D) (ci := 5) (v := .ref a3) (C := "ValueBenchModel") (T := TM) (N := 32) hx hb htx inM hown hK hP 4 rfl rfl 24 (by decide) (htx _ kw_5_111) (fun _ h9 => h9) rfl dM_store_28 ?_
  refine lv_iload_n hx hb dM_store_31 rfl (lv_at hl 2 rfl) ?_
  refine xx_aldA hx hb hK hP 0 5 rfl rfl h10 dM_store_32 ?_
  refine W.eq (g2 := F0 m 33 ls [va_rf (f46 x6.toNatClampNeg)]) rfl ?_
  rw [h47]
  refine W.eq (g2 := F0 m 33 ls [.ref a4]) rfl ?_
  refine lv_iload_n hx hb dM_store_33 rfl (lv_at hl 0 rfl) ?_
  refine lv_aload_n hx hb dM_store_34 rfl (lv_at hl 1 rfl) ?_
  refine va_get (D := D) (ci := 5) (v := .ref a2) (C := "ValueBenchModel") (T := TM) (N := 32) hx hb htx inM hown hK hP 4 rfl rfl 21 (by decide) (htx _ kw_5_108) (fun _ h9 => h9) rfl dM_store_35 ?_
  refine lv_iload_n hx hb dM_store_38 rfl (lv_at hl 0 rfl) ?_
  refine va_bald hx hb hK hP 5 0 rfl rfl (show ¬ ((1 : Int32) < 0 ∨ 1024 ≤ (1 : Int32).toNatClampNeg) by decide) dM_store_39 ?_
  refine W.eq (g2 := F0 m 40 ls [.int (vp_nar .byte y2), .int 1, .ref a4]) rfl ?_
  refine va_bast hx hb hK hP hD hS 1 0 rfl rfl (show ¬ ((1 : Int32) < 0 ∨ 4096 ≤ (1 : Int32).toNatClampNeg) by decide) dM_store_40 (fun H locs hP hD hS => ?_)
  obtain ⟨hP, hD⟩ : xPD D xcl A [(a3, .inl (cT 5, 8, .inr (.inr (.inr (.inr f46))))), (a4, .inl (cT 0, 4096, .inl (upd (upd f48 0 (vp_nar .byte (vp_nar .byte y1))) 1 (vp_nar .byte (vp_nar .byte y2))))), (a5, .inl (cT 1, 8, .inl f49)), (a1, .inr (6, [.int 2, v40, v41, v42, v43, v44])), (a0, .inr (5, [v11, v12, v13, v14, v15, v16, v17, v18, v19, v20, v21, v22, v23, v24, v25, v26, v27, v28, v29, v30, v31, .ref a2, .int 4, .int 4096, .ref a3, .ref a5, v34, v35, v36, v37, v38, v39])), (a2, .inl (cT 0, 1024, .inl (upd (upd (upd (upd f45 0 (vp_nar .byte y1)) 1 (vp_nar .byte y2)) 2 (vp_nar .byte y3)) 3 (vp_nar .byte y4))))] H := ⟨hP, hD⟩
  refine lv_iinc (v := 2) (lv' := [(3, .int 2), (0, .ref a0), (1, .int x6), (2, .ref a1)]) hx hb dM_store_41 hl (k := 0) rfl (by decide) (by decide) rfl (fun ls hl => ?_)
  refine lv_goto (tgt := 19) hx hb dM_store_44 (by decide) ?_
  refine lv_iload_n hx hb dM_store_19 rfl (lv_at hl 0 rfl) ?_
  refine lv_aload_n hx hb dM_store_20 rfl (lv_at hl 1 rfl) ?_
  refine va_get (D := D) (ci := 5) (v := .int 4) (C := "ValueBenchModel") (T := TM) (N := 32) hx hb htx inM hown hK hP 4 rfl rfl 22 (by decide) (htx _ kw_5_109) (fun _ h9 => h9) rfl dM_store_21 ?_
  refine lv_icmp_ge (tgt := 47) hx hb dM_store_24 (by decide) (fun h => ((by revert h; decide : False)).elim) (fun _ => ?_)
  refine lv_aload_n hx hb dM_store_27 rfl (lv_at hl 1 rfl) ?_
  refine va_get (D := D) (ci := 5) (v := .ref a3) (C := "ValueBenchModel") (T := TM) (N := 32) hx hb htx inM hown hK hP 4 rfl rfl 24 (by decide) (htx _ kw_5_111) (fun _ h9 => h9) rfl dM_store_28 ?_
  refine lv_iload_n hx hb dM_store_31 rfl (lv_at hl 2 rfl) ?_
  refine xx_aldA hx hb hK hP 0 5 rfl rfl h10 dM_store_32 ?_
  refine W.eq (g2 := F0 m 33 ls [va_rf (f46 x6.toNatClampNeg)]) rfl ?_
  rw [h47]
  refine W.eq (g2 := F0 m 33 ls [.ref a4]) rfl ?_
  refine lv_iload_n hx hb dM_store_33 rfl (lv_at hl 0 rfl) ?_
  refine lv_aload_n hx hb dM_store_34 rfl (lv_at hl 1 rfl) ?_
  refine va_get (D := D) (ci := 5) (v := .ref a2) (C := "ValueBenchModel") (T := TM) (N := 32) hx hb htx inM hown hK hP 4 rfl rfl 21 (by decide) (htx _ kw_5_108) (fun _ h9 => h9) rfl dM_store_35 ?_
  refine lv_iload_n hx hb dM_store_38 rfl (lv_at hl 0 rfl) ?_
  refine va_bald hx hb hK hP 5 0 rfl rfl (show ¬ ((2 : Int32) < 0 ∨ 1024 ≤ (2 : Int32).toNatClampNeg) by decide) dM_store_39 ?_
  refine W.eq (g2 := F0 m 40 ls [.int (vp_nar .byte y3), .int 2, .ref a4]) rfl ?_
  refine va_bast hx hb hK hP hD hS 1 0 rfl rfl (show ¬ ((2 : Int32) < 0 ∨ 4096 ≤ (2 : Int32).toNatClampNeg) by decide) dM_store_40 (fun H locs hP hD hS => ?_)
  obtain ⟨hP, hD⟩ : xPD D xcl A [(a3, .inl (cT 5, 8, .inr (.inr (.inr (.inr f46))))), (a4, .inl (cT 0, 4096, .inl (upd (upd (upd f48 0 (vp_nar .byte (vp_nar .byte y1))) 1 (vp_nar .byte (vp_nar .byte y2))) 2 (vp_nar .byte (vp_nar .byte y3))))), (a5, .inl (cT 1, 8, .inl f49)), (a1, .inr (6, [.int 2, v40, v41, v42, v43, v44])), (a0, .inr (5, [v11, v12, v13, v14, v15, v16, v17, v18, v19, v20, v21, v22, v23, v24, v25, v26, v27, v28, v29, v30, v31, .ref a2, .int 4, .int 4096, .ref a3, .ref a5, v34, v35, v36, v37, v38, v39])), (a2, .inl (cT 0, 1024, .inl (upd (upd (upd (upd f45 0 (vp_nar .byte y1)) 1 (vp_nar .byte y2)) 2 (vp_nar .byte y3)) 3 (vp_nar .byte y4))))] H := ⟨hP, hD⟩
  refine lv_iinc (v := 3) (lv' := [(3, .int 3), (0, .ref a0), (1, .int x6), (2, .ref a1)]) hx hb dM_store_41 hl (k := 0) rfl (by decide) (by decide) rfl (fun ls hl => ?_)
  refine lv_goto (tgt := 19) hx hb dM_store_44 (by decide) ?_
  refine lv_iload_n hx hb dM_store_19 rfl (lv_at hl 0 rfl) ?_
  refine lv_aload_n hx hb dM_store_20 rfl (lv_at hl 1 rfl) ?_
  refine va_get (D := D) (ci := 5) (v := .int 4) (C := "ValueBenchModel") (T := TM) (N := 32) hx hb htx inM hown hK hP 4 rfl rfl 22 (by decide) (htx _ kw_5_109) (fun _ h9 => h9) rfl dM_store_21 ?_
  refine lv_icmp_ge (tgt := 47) hx hb dM_store_24 (by decide) (fun h => ((by revert h; decide : False)).elim) (fun _ => ?_)
  refine lv_aload_n hx hb dM_store_27 rfl (lv_at hl 1 rfl) ?_
  refine va_get (D := D) (ci := 5) (v := .ref a3) (C := "ValueBenchModel") (T := TM) (N := 32) hx hb htx inM hown hK hP 4 rfl rfl 24 (by decide) (htx _ kw_5_111) (fun _ h9 => h9) rfl dM_store_28 ?_
  refine lv_iload_n hx hb dM_store_31 rfl (lv_at hl 2 rfl) ?_
  refine xx_aldA hx hb hK hP 0 5 rfl rfl h10 dM_store_32 ?_
  refine W.eq (g2 := F0 m 33 ls [va_rf (f46 x6.toNatClampNeg)]) rfl ?_
  rw [h47]
  refine W.eq (g2 := F0 m 33 ls [.ref a4]) rfl ?_
  refine lv_iload_n hx hb dM_store_33 rfl (lv_at hl 0 rfl) ?_
  refine lv_aload_n hx hb dM_store_34 rfl (lv_at hl 1 rfl) ?_
  refine va_get (D := D) (ci := 5) (v := .ref a2) (C := "ValueBenchModel") (T := TM) (N := 32) hx hb htx inM hown hK hP 4 rfl rfl 21 (by decide) (htx _ kw_5_108) (fun _ h9 => h9) rfl dM_store_35 ?_
  refine lv_iload_n hx hb dM_store_38 rfl (lv_at hl 0 rfl) ?_
  refine va_bald hx hb hK hP 5 0 rfl rfl (show ¬ ((3 : Int32) < 0 ∨ 1024 ≤ (3 : Int32).toNatClampNeg) by decide) dM_store_39 ?_
  refine W.eq (g2 := F0 m 40 ls [.int (vp_nar .byte y4), .int 3, .ref a4]) rfl ?_
  refine va_bast hx hb hK hP hD hS 1 0 rfl rfl (show ¬ ((3 : Int32) < 0 ∨ 4096 ≤ (3 : Int32).toNatClampNeg) by decide) dM_store_40 (fun H locs hP hD hS => ?_)
  obtain ⟨hP, hD⟩ : xPD D xcl A [(a3, .inl (cT 5, 8, .inr (.inr (.inr (.inr f46))))), (a4, .inl (cT 0, 4096, .inl (upd (upd (upd (upd f48 0 (vp_nar .byte (vp_nar .byte y1))) 1 (vp_nar .byte (vp_nar .byte y2))) 2 (vp_nar .byte (vp_nar .byte y3))) 3 (vp_nar .byte (vp_nar .byte y4))))), (a5, .inl (cT 1, 8, .inl f49)), (a1, .inr (6, [.int 2, v40, v41, v42, v43, v44])), (a0, .inr (5, [v11, v12, v13, v14, v15, v16, v17, v18, v19, v20, v21, v22, v23, v24, v25, v26, v27, v28, v29, v30, v31, .ref a2, .int 4, .int 4096, .ref a3, .ref a5, v34, v35, v36, v37, v38, v39])), (a2, .inl (cT 0, 1024, .inl (upd (upd (upd (upd f45 0 (vp_nar .byte y1)) 1 (vp_nar .byte y2)) 2 (vp_nar .byte y3)) 3 (vp_nar .byte y4))))] H := ⟨hP, hD⟩
  refine lv_iinc (v := 4) (lv' := [(3, .int 4), (0, .ref a0), (1, .int x6), (2, .ref a1)]) hx hb dM_store_41 hl (k := 0) rfl (by decide) (by decide) rfl (fun ls hl => ?_)
  refine lv_goto (tgt := 19) hx hb dM_store_44 (by decide) ?_
  refine lv_iload_n hx hb dM_store_19 rfl (lv_at hl 0 rfl) ?_
  refine lv_aload_n hx hb dM_store_20 rfl (lv_at hl 1 rfl) ?_
  refine va_get (D := D) (ci := 5) (v := .int 4) (C := "ValueBenchModel") (T := TM) (N := 32) hx hb htx inM hown hK hP 4 rfl rfl 22 (by decide) (htx _ kw_5_109) (fun _ h9 => h9) rfl dM_store_21 ?_
  refine lv_icmp_ge (tgt := 47) hx hb dM_store_24 (by decide) (fun _ => ?_) (fun h => ((by revert h; decide : False)).elim)
  refine lv_aload_n hx hb dM_store_47 rfl (lv_at hl 1 rfl) ?_
  refine va_get (D := D) (ci := 5) (v := .ref a5) (C := "ValueBenchModel") (T := TM) (N := 32) hx hb htx inM hown hK hP 4 rfl rfl 25 (by decide) (htx _ kw_5_112) (fun _ h9 => h9) rfl dM_store_48 ?_
  refine lv_iload_n hx hb dM_store_51 rfl (lv_at hl 2 rfl) ?_
  refine lv_aload_n hx hb dM_store_52 rfl (lv_at hl 1 rfl) ?_
  refine va_get (D := D) (ci := 5) (v := .int 4) (C := "ValueBenchModel") (T := TM) (N := 32) hx hb htx inM hown hK hP 4 rfl rfl 22 (by decide) (htx _ kw_5_109) (fun _ h9 => h9) rfl dM_store_53 ?_
  refine va_iast hx hb hK hP hD hS 2 1 rfl rfl h10 dM_store_56 (fun H locs hP hD hS => ?_)
  obtain ⟨hP, hD⟩ : xPD D xcl A [(a3, .inl (cT 5, 8, .inr (.inr (.inr (.inr f46))))), (a4, .inl (cT 0, 4096, .inl (upd (upd (upd (upd f48 0 (vp_nar .byte (vp_nar .byte y1))) 1 (vp_nar .byte (vp_nar .byte y2))) 2 (vp_nar .byte (vp_nar .byte y3))) 3 (vp_nar .byte (vp_nar .byte y4))))), (a5, .inl (cT 1, 8, .inl (upd f49 x6.toNatClampNeg 4))), (a1, .inr (6, [.int 2, v40, v41, v42, v43, v44])), (a0, .inr (5, [v11, v12, v13, v14, v15, v16, v17, v18, v19, v20, v21, v22, v23, v24, v25, v26, v27, v28, v29, v30, v31, .ref a2, .int 4, .int 4096, .ref a3, .ref a5, v34, v35, v36, v37, v38, v39])), (a2, .inl (cT 0, 1024, .inl (upd (upd (upd (upd f45 0 (vp_nar .byte y1)) 1 (vp_nar .byte y2)) 2 (vp_nar .byte y3)) 3 (vp_nar .byte y4))))] H := ⟨hP, hD⟩
  refine lv_aload_n hx hb dM_store_57 rfl (lv_at hl 1 rfl) ?_
  refine va_get (D := D) (ci := 5) (v := .int 4) (C := "ValueBenchModel") (T := TM) (N := 32) hx hb htx inM hown hK hP 4 rfl rfl 22 (by decide) (htx _ kw_5_109) (fun _ h9 => h9) rfl dM_store_58 ?_
  obtain ⟨hP9, hD9⟩ := xsub (wc := [(a0, .inr (5, [v11, v12, v13, v14, v15, v16, v17, v18, v19, v20, v21, v22, v23, v24, v25, v26, v27, v28, v29, v30, v31, .ref a2, .int 4, .int 4096, .ref a3, .ref a5, v34, v35, v36, v37, v38, v39])), (a1, .inr (6, [.int 2, v40, v41, v42, v43, v44])), (a2, .inl (cT 0, 1024, .inl (upd (upd (upd (upd f45 0 (vp_nar .byte y1)) 1 (vp_nar .byte y2)) 2 (vp_nar .byte y3)) 3 (vp_nar .byte y4)))), (a3, .inl (cT 5, 8, .inr (.inr (.inr (.inr f46))))), (a4, .inl (cT 0, 4096, .inl (upd (upd (upd (upd f48 0 (vp_nar .byte (vp_nar .byte y1))) 1 (vp_nar .byte (vp_nar .byte y2))) 2 (vp_nar .byte (vp_nar .byte y3))) 3 (vp_nar .byte (vp_nar .byte y4))))), (a5, .inl (cT 1, 8, .inl (upd f49 x6.toNatClampNeg 4)))]) hP hD [4, 3, 5, 0, 1, 2] rfl rfl (by decide)
  refine W.widen (k := 0) (n := 0) (Nat.le_of_ble_eq_true rfl) (Nat.le_of_ble_eq_true rfl) ?_
  exact W.iret (v := 4) hx hb hr (fun t ht hW => ⟨⟨4, (), rfl, rfl, y1, y2, y3, y4, by rw [ht]; exact hP9, va_K.moved hW.alike hK, hD9⟩, hS.F ht⟩) hS.2.2 dM_store_61
set_option maxHeartbeats 400000000 in
set_option maxRecDepth 100000 in
theorem cM_finish_13 (l : Launch) (hl9 : l.stackTraces = false) (D : va_G) (cT : Nat → ClassId) (aK aV : Nat → Nat) (sz : Nat) (a0 : Nat) (a1 : Nat) (a2 : Nat) (a3 : Nat) (a4 : Nat) (a5 : Nat) (x6 : Int32) (x11 : Int32) (x16 : Int32) (v17 : Value) (v18 : Value) (v19 : Value) (v20 : Value) (v21 : Value) (v22 : Value) (v23 : Value) (v24 : Value) (v25 : Value) (v26 : Value) (v27 : Value) (v28 : Value) (v29 : Value) (v30 : Value) (v31 : Value) (v32 : Value) (v33 : Value) (v34 : Value) (v35 : Value) (v36 : Value) (v37 : Value) (v38 : Value) (v39 : Value) (v40 : Value) (v41 : Value) (v42 : Value) (v43 : Value) (f44 : Nat → Option Nat) (f47 : Nat → Int32) (f49 : Nat → Int32) (f54 : Nat → Option Nat) (f57 : Nat → Int32) (h7 : ¬ x6 < 0) (h8 : ¬ 7 < x6) (h9 : x6 ≤ 7) (h10 : vp_in x6 8) (h12 : ¬ x11 < 0) (h13 : ¬ 7 < x11) (h14 : x11 ≤ 7) (h15 : vp_in x11 8) (h45 : f44 x11.toNatClampNeg = some a3) (h46 : f44 x6.toNatClampNeg = some a3) (h48 : f47 x11.toNatClampNeg = 4) (h50 : f49 0 = 110) (h51 : f49 1 = 117) (h52 : f49 2 = 108) (h53 : f49 3 = 108) (h55 : f54 0 = none) (h56 : f54 1 = none) : xMet l yM_finish wyM_finish 8 2 12 175 D cT aK aV sz [.ref a0, .int x6, .int 1, .int 0, .int x11, .int x16] [(a0, .inr (5, [v17, .ref a4, .int 0, v18, v19, v20, v21, v22, v23, v24, v25, v26, v27, v28, v29, v30, v31, v32, v33, v34, v35, .ref a5, v36, v37, .ref a1, .ref a2, v38, v39, v40, v41, v42, v43])), (a1, .inl (cT 5, 8, .inr (.inr (.inr (.inr f44))))), (a2, .inl (cT 1, 8, .inl f47)), (a3, .inl (cT 0, 4096, .inl f49)), (a4, .inl (cT 4, 1024, .inr (.inr (.inr (.inr f54))))), (a5, .inl (cT 0, 1024, .inl f57))] (fun A => va_Qv (fun _ : Unit => True) (fun _ t => ∃ (r1 : Nat) (r2 : Nat) (y4 : Int32) (y5 : Int32) (y6 : Int32) (y7 : Int32), xB D xcl cT A [(a0, .inr (5, [v17, .ref a4, .int 2, v18, v19, v20, v21, v22, v23, v24, v25, v26, v27, v28, v29, .ref a3, .int 4, .int 4, .int 0, .int 100, v35, .ref a5, .int 4, .int 4096, .ref a1, .ref a2, v38, v39, v40, v41, v42, v43])), (a1, .inl (cT 5, 8, .inr (.inr (.inr (.inr f44))))), (a2, .inl (cT 1, 8, .inl (upd f47 x6.toNatClampNeg 4))), (a3, .inl (cT 0, 4096, .inl (upd (upd (upd (upd f49 0 (vp_nar .byte (vp_nar .byte y4))) 1 (vp_nar .byte (vp_nar .byte y5))) 2 (vp_nar .byte (vp_nar .byte y6))) 3 (vp_nar .byte (vp_nar .byte y7))))), (a4, .inl (cT 4, 1024, .inr (.inr (.inr (.inr (va_up (va_up f54 0 (some r1)) 1 (some r2))))))), (a5, .inl (cT 0, 1024, .inl (upd (upd (upd (upd f57 0 (vp_nar .byte y4)) 1 (vp_nar .byte y5)) 2 (vp_nar .byte y6)) 3 (vp_nar .byte y7)))), (r1, .inr (6, [.int 0, .long 0, .int 0, .int 0, .int 0, .int 1])), (r2, .inr (6, [.int 2, .long 0, .int 0, .int 0, .int 0, .int 1]))] t) A) := by
  refine va_MetW (cc := prog_13_method_90_code) (maxL := 10) (ret := none) (hh := [(0, 128, 131, 83), (0, 128, 149, 86)]) (by decide) rfl ?_
  intro p e s m args below meth c s₁ B hml hv
  obtain ⟨rfl, hsz, hZ, hP, hK, hD0⟩ := hv
  have hx := B.exec
  have hb := B.bytes
  have hr := B.returns
  have hts := atoms_spec (ws := wyM_finish) B.pre
  have htx := fun w h => hts w (List.mem_cons_of_mem _ h)
  have hown : s.vm.findClass "ValueBenchModel" = some m.cls := findClass_of_methodNamed B.named
  have hlocks := B.notSynchronized
  subst hsz
  have hD := hD0.self (sz := s.heap.size)
  generalize hAe : va_A [(a0, .inr (5, [v17, .ref a4, .int 0, v18, v19, v20, v21, v22, v23, v24, v25, v26, v27, v28, v29, v30, v31, v32, v33, v34, v35, .ref a5, v36, v37, .ref a1, .ref a2, v38, v39, v40, v41, v42, v43])), (a1, .inl (cT 5, 8, .inr (.inr (.inr (.inr f44))))), (a2, .inl (cT 1, 8, .inl f47)), (a3, .inl (cT 0, 4096, .inl f49)), (a4, .inl (cT 4, 1024, .inr (.inr (.inr (.inr f54))))), (a5, .inl (cT 0, 1024, .inl f57))] s.heap.size = A at hD hZ ⊢
  have hA : ∀ q : Nat, s.heap.size ≤ q → A q := fun q h => by rw [← hAe]; exact Or.inr h
  have hS : va_S A s.heap s.heap [] := va_S.rf
  have hP : va_P D xcl [(a0, .inr (5, [v17, .ref a4, .int 0, v18, v19, v20, v21, v22, v23, v24, v25, v26, v27, v28, v29, v30, v31, v32, v33, v34, v35, .ref a5, v36, v37, .ref a1, .ref a2, v38, v39, v40, v41, v42, v43])), (a1, .inl (cT 5, 8, .inr (.inr (.inr (.inr f44))))), (a2, .inl (cT 1, 8, .inl f47)), (a3, .inl (cT 0, 4096, .inl f49)), (a4, .inl (cT 4, 1024, .inr (.inr (.inr (.inr f54))))), (a5, .inl (cT 0, 1024, .inl f57))] s.heap := hP
  have hl := lv_entry ([.ref a0, .int x6, .int 1, .int 0, .int x11, .int x16]) (n := 10) (Nat.le_of_ble_eq_true rfl)
  rw [lg_entry_eq]
  generalize (lg_sl ([.ref a0, .int x6, .int 1, .int 0, .int x11, .int x16]) ++ List.replicate (10 - (lg_sl ([.ref a0, .int x6, .int 1, .int 0, .int x11, .int x16])).length) Slot.unset).toArray = ls at hl ⊢
  have hl : lv_has ls 10 [(0, .ref a0), (1, .int x6), (2, .int 1), (3, .int 0), (4, .int x11), (5, .int x16)] := hl
  have htab := vx_table (x := yM_finish) B (hts _ List.mem_cons_self)
  refine lv_aload_n hx hb dM_finish_0 rfl (lv_at hl 0 rfl) ?_
  refine lv_iload hx hb dM_finish_1 (lv_at hl 4 rfl) ?_
  obtain ⟨hPc, hDc, hFc⟩ := xcut (wc := [(a0, .inr (5, [v17, .ref a4, .int 0, v18, v19, v20, v21, v22, v23, v24, v25, v26, v27, v28, v29, v30, v31, v32, v33, v34, v35, .ref a5, v36, v37, .ref a1, .ref a2, v38, v39, v40, v41, v42, v43])), (a1, .inl (cT 5, 8, .inr (.inr (.inr (.inr f44))))), (a2, .inl (cT 1, 8, .inl f47)), (a3, .inl (cT 0, 4096, .inl f49)), (a4, .inl (cT 4, 1024, .inr (.inr (.inr (.inr f54)))))]) hP hD hS hA [0, 1, 2, 3, 4] rfl rfl (by decide)
  refine va_callr (va_runV (C := "ValueBenchModel") (As := [.int x11]) (rest := []) ⟨hx, hb, hml, hown, htx⟩ (cM_register_0 l hl9 D cT aK aV s.heap.size a0 a1 a2 a3 a4 x11 v17 v18 v19 v20 v21 v22 v23 v24 v25 v26 v27 v28 v29 v30 v31 v32 v33 v34 v35 (.ref a5) v36 v37 v38 v39 v40 v41 v42 v43 f44 f47 f49 f54 h12 h13 h14 h15 (by first | rfl | exact h45 | exact h46 | exact h48 | exact h50 | exact h51 | exact h52 | exact h53 | exact h55 | exact h56) (by first | rfl | exact h45 | exact h46 | exact h48 | exact h50 | exact h51 | exact h52 | exact h53 | exact h55 | exact h56) (by first | rfl | exact h45 | exact h46 | exact h48 | exact h50 | exact h51 | exact h52 | exact h53 | exact h55 | exact h56) (by first | rfl | exact h45 | exact h46 | exact h48 | exact h50 | exact h51 | exact h52 | exact h53 | exact h55 | exact h56) (by first | rfl | exact h45 | exact h46 | exact h48 | exact h50 | exact h51 | exact h52 | exact h53 | exact h55 | exact h56) (by first | rfl | exact h45 | exact h46 | exact h48 | exact h50 | exact h51 | exact h52 | exact h53 | exact h55 | exact h56) (by first | rfl | exact h45 | exact h46 | exact h48 | exact h50 | exact h51 | exact h52 | exact h53 | exact h55 | exact h56)) ⟨callB_of 1 htx (xw_goodC kw_6_170) rfl rfl rfl (htx _ kw_1_5) (htx _ kw_6_167) ⟨by decide, by decide, by decide +kernel⟩ ⟨Nat.le_of_ble_eq_true rfl, Nat.le_of_ble_eq_true rfl⟩, (htx _ kw_6_169), (htx _ kp_M_register)⟩ ⟨xPre_blind, va_recv hK hP (ci := 5) rfl (q0 := 0) rfl, (fun U hU hW => ⟨rfl, xPre_of hZ hS hFc hPc hDc hK U hU hW⟩)⟩ rfl rfl hl.1 rfl (lv_room (Nat.le_of_ble_eq_true rfl)) dM_finish_3 ⟨Nat.le_of_ble_eq_true rfl, Nat.le_of_ble_eq_true rfl⟩) hS (fun q _ h => hFc q h) hFc (fun u9 r1 t H1 locs ht hvm hr9 hB hz1 hk1 hS => ?_)
  obtain ⟨hP1, hK1, hD1⟩ := hB
  rw [ht] at hP1
  obtain ⟨hP, hD⟩ := xjoin (W := [(a5, .inl (cT 0, 1024, .inl f57)), (a0, .inr (5, [v17, .ref a4, .int 1, v18, v19, v20, v21, v22, v23, v24, v25, v26, v27, v28, v29, .ref a3, .int 4, .int 4, .int 0, .int 100, v35, .ref a5, v36, v37, .ref a1, .ref a2, v38, v39, v40, v41, v42, v43])), (a1, .inl (cT 5, 8, .inr (.inr (.inr (.inr f44))))), (a2, .inl (cT 1, 8, .inl f47)), (a3, .inl (cT 0, 4096, .inl f49)), (a4, .inl (cT 4, 1024, .inr (.inr (.inr (.inr (va_up f54 0 (some r1))))))), (r1, .inr (6, [.int 0, .long 0, .int 0, .int 0, .int 0, .int 1]))]) hP hD [0, 1, 2, 3, 4] [5] 1 rfl rfl (by decide) (by decide) hk1 hFc hP1 hD1
  generalize H1 = H at hP hS ⊢
  refine W.eq (g2 := F0 m 6 ls [.ref r1]) rfl ?_
  refine lv_astore (lv' := [(6, .ref r1), (0, .ref a0), (1, .int x6), (2, .int 1), (3, .int 0), (4, .int x11), (5, .int x16)]) hx hb dM_finish_6 hl (by decide) rfl (fun ls hl => ?_)
  refine lv_iload_n hx hb dM_finish_8 rfl (lv_at hl 3 rfl) ?_
  refine lv_iconst (v := 1) hx hb dM_finish_9 (by decide) ?_
  refine lv_icmp_ne (tgt := 17) hx hb dM_finish_10 (by decide) (fun h => ((by revert h; decide : False)).elim) (fun _ => ?_)
  refine lv_null hx hb dM_finish_13 ?_
  refine lv_goto (tgt := 23) hx hb dM_finish_14 (by decide) ?_
  refine lv_astoreN (lv' := [(7, .null), (6, .ref r1), (0, .ref a0), (1, .int x6), (2, .int 1), (3, .int 0), (4, .int x11), (5, .int x16)]) hx hb dM_finish_23 hl (by decide) rfl (fun ls hl => ?_)
  refine lv_iload_n hx hb dM_finish_25 rfl (lv_at hl 4 rfl) ?_
  refine lv_if_ne (tgt := 43) hx hb dM_finish_26 (by decide) (fun _ => ?_) (fun h => ((by revert h; decide : False)).elim)
  refine lv_iload_n hx hb dM_finish_43 rfl (lv_at hl 4 rfl) ?_
  refine lv_iconst (v := 1) hx hb dM_finish_44 (by decide) ?_
  refine lv_icmp_ne (tgt := 60) hx hb dM_finish_45 (by decide) (fun h => ((by revert h; decide : False)).elim) (fun _ => ?_)
  refine lv_aload_n hx hb dM_finish_48 rfl (lv_at hl 2 rfl) ?_
  refine lv_iload_n hx hb dM_finish_49 rfl (lv_at hl 5 rfl) ?_
  refine lv_aload hx hb dM_finish_50 (lv_at hl 1 rfl) ?_
  obtain ⟨hPc, hDc, hFc⟩ := xcut (wc := [(a0, .inr (5, [v17, .ref a4, .int 1, v18, v19, v20, v21, v22, v23, v24, v25, v26, v27, v28, v29, .ref a3, .int 4, .int 4, .int 0, .int 100, v35, .ref a5, v36, v37, .ref a1, .ref a2, v38, v39, v40, v41, v42, v43])), (r1, .inr (6, [.int 0, .long 0, .int 0, .int 0, .int 0, .int 1])), (a4, .inl (cT 4, 1024, .inr (.inr (.inr (.inr (va_up f54 0 (some r1)))))))]) hP hD hS hA [1, 6, 5] rfl rfl (by decide)
  refine va_callr (va_runV (C := "ValueBenchModel") (As := [.int 0, .ref r1]) (rest := []) ⟨hx, hb, hml, hown, htx⟩ (cM_one1_0 l hl9 D cT aK aV H.size a0 r1 a4 v17 v18 v19 v20 v21 v22 v23 v24 v25 v26 v27 v28 v29 (.ref a3) (.int 4) (.int 4) (.int 0) (.int 100) v35 (.ref a5) v36 v37 (.ref a1) (.ref a2) v38 v39 v40 v41 v42 v43 (.long 0) (.int 0) (.int 0) (.int 0) (.int 1) (va_up f54 0 (some r1)) (by first | rfl | exact h45 | exact h46 | exact h48 | exact h50 | exact h51 | exact h52 | exact h53 | exact h56)) ⟨callB_of 2 htx (xw_goodC kw_6_237) rfl rfl rfl (htx _ kw_1_5) (htx _ kw_6_234) ⟨by decide, by decide, by decide +kernel⟩ ⟨Nat.le_of_ble_eq_true rfl, Nat.le_of_ble_eq_true rfl⟩, (htx _ kw_6_236), (htx _ kp_M_one1)⟩ ⟨xPre_blind, va_recv hK hP (ci := 5) rfl (q0 := 1) rfl, (fun U hU hW => ⟨rfl, xPre_of hZ hS hFc hPc hDc hK U hU hW⟩)⟩ rfl rfl hl.1 rfl (lv_room (Nat.le_of_ble_eq_true rfl)) dM_finish_52 ⟨Nat.le_of_ble_eq_true rfl, Nat.le_of_ble_eq_true rfl⟩) hS (fun q _ h => hFc q h) hFc (fun u9 r2 t H1 locs ht hvm hr9 hB hz1 hk1 hS => ?_)
  obtain ⟨hP1, hK1, hD1⟩ := hB
  rw [ht] at hP1
  obtain ⟨hP, hD⟩ := xjoin (W := [(a5, .inl (cT 0, 1024, .inl f57)), (a1, .inl (cT 5, 8, .inr (.inr (.inr (.inr f44))))), (a2, .inl (cT 1, 8, .inl f47)), (a3, .inl (cT 0, 4096, .inl f49)), (a0, .inr (5, [v17, .ref a4, .int 2, v18, v19, v20, v21, v22, v23, v24, v25, v26, v27, v28, v29, .ref a3, .int 4, .int 4, .int 0, .int 100, v35, .ref a5, v36, v37, .ref a1, .ref a2, v38, v39, v40, v41, v42, v43])), (r1, .inr (6, [.int 0, .long 0, .int 0, .int 0, .int 0, .int 1])), (a4, .inl (cT 4, 1024, .inr (.inr (.inr (.inr (va_up (va_up f54 0 (some r1)) 1 (some r2))))))), (r2, .inr (6, [.int 2, .long 0, .int 0, .int 0, .int 0, .int 1]))]) hP hD [1, 6, 5] [0, 2, 3, 4] 4 rfl rfl (by decide) (by decide) hk1 hFc hP1 hD1
  generalize H1 = H at hP hS ⊢
  refine W.eq (g2 := F0 m 55 ls [.ref r2]) rfl ?_
  refine lv_astore (lv' := [(8, .ref r2), (7, .null), (6, .ref r1), (0, .ref a0), (1, .int x6), (2, .int 1), (3, .int 0), (4, .int x11), (5, .int x16)]) hx hb dM_finish_55 hl (by decide) rfl (fun ls hl => ?_)
  refine lv_goto (tgt := 119) hx hb dM_finish_57 (by decide) ?_
  refine lv_aload_n hx hb dM_finish_119 rfl (lv_at hl 3 rfl) ?_
  refine lv_iload_n hx hb dM_finish_120 rfl (lv_at hl 4 rfl) ?_
  refine lv_aload hx hb dM_finish_121 (lv_at hl 0 rfl) ?_
  obtain ⟨hPc, hDc, hFc⟩ := xcut (wc := [(a0, .inr (5, [v17, .ref a4, .int 2, v18, v19, v20, v21, v22, v23, v24, v25, v26, v27, v28, v29, .ref a3, .int 4, .int 4, .int 0, .int 100, v35, .ref a5, v36, v37, .ref a1, .ref a2, v38, v39, v40, v41, v42, v43])), (r2, .inr (6, [.int 2, .long 0, .int 0, .int 0, .int 0, .int 1])), (a5, .inl (cT 0, 1024, .inl f57)), (a1, .inl (cT 5, 8, .inr (.inr (.inr (.inr f44))))), (a3, .inl (cT 0, 4096, .inl f49)), (a2, .inl (cT 1, 8, .inl f47))]) hP hD hS hA [4, 7, 0, 1, 3, 2] rfl rfl (by decide)
  refine va_calli (va_runV (C := "ValueBenchModel") (As := [.int x6, .ref r2]) (rest := []) ⟨hx, hb, hml, hown, htx⟩ (cM_store_1 l hl9 D cT aK aV H.size a0 r2 a5 a1 a3 a2 x6 v17 (.ref a4) (.int 2) v18 v19 v20 v21 v22 v23 v24 v25 v26 v27 v28 v29 (.ref a3) (.int 4) (.int 4) (.int 0) (.int 100) v35 v36 v37 v38 v39 v40 v41 v42 v43 (.long 0) (.int 0) (.int 0) (.int 0) (.int 1) f57 f44 f49 f47 h7 h8 h9 h10 (by first | rfl | exact h45 | exact h46 | exact h48 | exact h50 | exact h51 | exact h52 | exact h53)) ⟨callB_of 2 htx (xw_goodC kw_6_124) rfl rfl rfl (htx _ kw_1_5) (htx _ kw_6_121) ⟨by decide, by decide, by decide +kernel⟩ ⟨Nat.le_of_ble_eq_true rfl, Nat.le_of_ble_eq_true rfl⟩, (htx _ kw_6_123), (htx _ kp_M_store)⟩ ⟨xPre_blind, va_recv hK hP (ci := 5) rfl (q0 := 4) rfl, (fun U hU hW => ⟨rfl, xPre_of hZ hS hFc hPc hDc hK U hU hW⟩)⟩ rfl rfl hl.1 rfl (lv_room (Nat.le_of_ble_eq_true rfl)) dM_finish_123 ⟨Nat.le_of_ble_eq_true rfl, Nat.le_of_ble_eq_true rfl⟩) hS (fun q _ h => hFc q h) hFc (fun r3 u9 t H1 locs ht hvm hr9 hB hz1 hk1 hS => ?_)
  obtain ⟨y4, y5, y6, y7, hP1, hK1, hD1⟩ := hB
  rw [ht] at hP1
  obtain ⟨hP, hD⟩ := xjoin (W := [(r1, .inr (6, [.int 0, .long 0, .int 0, .int 0, .int 0, .int 1])), (a4, .inl (cT 4, 1024, .inr (.inr (.inr (.inr (va_up (va_up f54 0 (some r1)) 1 (some r2))))))), (a0, .inr (5, [v17, .ref a4, .int 2, v18, v19, v20, v21, v22, v23, v24, v25, v26, v27, v28, v29, .ref a3, .int 4, .int 4, .int 0, .int 100, v35, .ref a5, .int 4, .int 4096, .ref a1, .ref a2, v38, v39, v40, v41, v42, v43])), (r2, .inr (6, [.int 2, .long 0, .int 0, .int 0, .int 0, .int 1])), (a5, .inl (cT 0, 1024, .inl (upd (upd (upd (upd f57 0 (vp_nar .byte y4)) 1 (vp_nar .byte y5)) 2 (vp_nar .byte y6)) 3 (vp_nar .byte y7)))), (a1, .inl (cT 5, 8, .inr (.inr (.inr (.inr f44))))), (a3, .inl (cT 0, 4096, .inl (upd (upd (upd (upd f49 0 (vp_nar .byte (vp_nar .byte y4))) 1 (vp_nar .byte (vp_nar .byte y5))) 2 (vp_nar .byte (vp_nar .byte y6))) 3 (vp_nar .byte (vp_nar .byte y7))))), (a2, .inl (cT 1, 8, .inl (upd f47 x6.toNatClampNeg 4)))]) hP hD [4, 7, 0, 1, 3, 2] [5, 6] 2 rfl rfl (by decide) (by decide) hk1 hFc hP1 hD1
  generalize H1 = H at hP hS ⊢
  rw [hr9]
  refine W.eq (g2 := F0 m 126 ls [.int 4]) rfl ?_
  refine lv_istore (lv' := [(9, .int 4), (8, .ref r2), (7, .null), (6, .ref r1), (0, .ref a0), (1, .int x6), (2, .int 1), (3, .int 0), (4, .int x11), (5, .int x16)]) hx hb dM_finish_126 hl (by decide) rfl (fun ls hl => ?_)
  refine lv_goto (tgt := 156) hx hb dM_finish_128 (by decide) ?_
  obtain ⟨hP9, hD9⟩ := xsub (wc := [(a0, .inr (5, [v17, .ref a4, .int 2, v18, v19, v20, v21, v22, v23, v24, v25, v26, v27, v28, v29, .ref a3, .int 4, .int 4, .int 0, .int 100, v35, .ref a5, .int 4, .int 4096, .ref a1, .ref a2, v38, v39, v40, v41, v42, v43])), (a1, .inl (cT 5, 8, .inr (.inr (.inr (.inr f44))))), (a2, .inl (cT 1, 8, .inl (upd f47 x6.toNatClampNeg 4))), (a3, .inl (cT 0, 4096, .inl (upd (upd (upd (upd f49 0 (vp_nar .byte (vp_nar .byte y4))) 1 (vp_nar .byte (vp_nar .byte y5))) 2 (vp_nar .byte (vp_nar .byte y6))) 3 (vp_nar .byte (vp_nar .byte y7))))), (a4, .inl (cT 4, 1024, .inr (.inr (.inr (.inr (va_up (va_up f54 0 (some r1)) 1 (some r2))))))), (a5, .inl (cT 0, 1024, .inl (upd (upd (upd (upd f57 0 (vp_nar .byte y4)) 1 (vp_nar .byte y5)) 2 (vp_nar .byte y6)) 3 (vp_nar .byte y7)))), (r1, .inr (6, [.int 0, .long 0, .int 0, .int 0, .int 0, .int 1])), (r2, .inr (6, [.int 2, .long 0, .int 0, .int 0, .int 0, .int 1]))]) hP hD [2, 5, 7, 6, 1, 4, 0, 3] rfl rfl (by decide)
  refine W.widen (k := 2) (n := 12) (Nat.le_of_ble_eq_true rfl) (Nat.le_of_ble_eq_true rfl) ?_
  exact W.vret hx hb hr (fun t ht hW => ⟨⟨(), rfl, trivial, r1, r2, y4, y5, y6, y7, by rw [ht]; exact hP9, va_K.moved hW.alike hK, hD9⟩, hS.F ht⟩) hS.2.2 dM_finish_156
set_option maxHeartbeats 400000000 in
set_option maxRecDepth 100000 in
theorem cM_one0_6 (l : Launch) (hl9 : l.stackTraces = false) (D : va_G) (cT : Nat → ClassId) (aK aV : Nat → Nat) (sz : Nat) (a0 : Nat) (a1 : Nat) (a2 : Nat) (a3 : Nat) (a4 : Nat) (a5 : Nat) (x6 : Int32) (x11 : Int32) (v16 : Value) (v17 : Value) (v18 : Value) (v19 : Value) (v20 : Value) (v21 : Value) (v22 : Value) (v23 : Value) (v24 : Value) (v25 : Value) (v26 : Value) (v27 : Value) (v28 : Value) (v29 : Value) (v30 : Value) (v31 : Value) (v32 : Value) (v33 : Value) (v34 : Value) (v35 : Value) (v36 : Value) (v37 : Value) (v38 : Value) (v39 : Value) (v40 : Value) (v41 : Value) (v42 : Value) (v43 : Value) (f44 : Nat → Option Nat) (f47 : Nat → Int32) (f49 : Nat → Int32) (f54 : Nat → Option Nat) (f57 : Nat → Int32) (h7 : ¬ x6 < 0) (h8 : ¬ 7 < x6) (h9 : x6 ≤ 7) (h10 : vp_in x6 8) (h12 : ¬ x11 < 0) (h13 : ¬ 7 < x11) (h14 : x11 ≤ 7) (h15 : vp_in x11 8) (h45 : f44 x11.toNatClampNeg = some a3) (h46 : f44 x6.toNatClampNeg = some a3) (h48 : f47 x11.toNatClampNeg = 4) (h50 : f49 0 = 110) (h51 : f49 1 = 117) (h52 : f49 2 = 108) (h53 : f49 3 = 108) (h55 : f54 0 = none) (h56 : f54 1 = none) : xMet l yM_one0 wyM_one0 9 2 12 204 D cT aK aV sz [.ref a0, .int x6, .int 0, .int x11] [(a0, .inr (5, [v16, .ref a4, v17, v18, v19, v20, v21, v22, v23, v24, v25, v26, v27, v28, v29, v30, v31, v32, v33, v34, v35, .ref a5, v36, v37, .ref a1, .ref a2, v38, v39, v40, v41, v42, v43])), (a1, .inl (cT 5, 8, .inr (.inr (.inr (.inr f44))))), (a2, .inl (cT 1, 8, .inl f47)), (a3, .inl (cT 0, 4096, .inl f49)), (a4, .inl (cT 4, 1024, .inr (.inr (.inr (.inr f54))))), (a5, .inl (cT 0, 1024, .inl f57))] (fun A => va_Qv (fun _ : Unit => True) (fun _ t => ∃ (q3 : Nat) (q4 : Nat) (y5 : Int32) (y6 : Int32) (y7 : Int32) (y8 : Int32), xB D xcl cT A [(a0, .inr (5, [.int 0, .ref a4, .int 2, v18, .int 0, v20, v21, .int 0, v23, .int 0, v25, v26, .int 0, v28, v29, .ref a3, .int 4, .int 4, .int 0, .int 100, v35, .ref a5, .int 4, .int 4096, .ref a1, .ref a2, v38, v39, v40, v41, v42, v43])), (a1, .inl (cT 5, 8, .inr (.inr (.inr (.inr f44))))), (a2, .inl (cT 1, 8, .inl (upd f47 x6.toNatClampNeg 4))), (a3, .inl (cT 0, 4096, .inl (upd (upd (upd (upd f49 0 (vp_nar .byte (vp_nar .byte y5))) 1 (vp_nar .byte (vp_nar .byte y6))) 2 (vp_nar .byte (vp_nar .byte y7))) 3 (vp_nar .byte (vp_nar .byte y8))))), (a4, .inl (cT 4, 1024, .inr (.inr (.inr (.inr (va_up (va_up f54 0 (some q3)) 1 (some q4))))))), (a5, .inl (cT 0, 1024, .inl (upd (upd (upd (upd f57 0 (vp_nar .byte y5)) 1 (vp_nar .byte y6)) 2 (vp_nar .byte y7)) 3 (vp_nar .byte y8)))), (q3, .inr (6, [.int 0, .long 0, .int 0, .int 0, .int 0, .int 1])), (q4, .inr (6, [.int 2, .long 0, .int 0, .int 0, .int 0, .int 1]))] t) A) := by
  refine Met.ofW (cc := prog_13_method_92_code) (maxL := 4) (ret := none) (by decide) rfl ?_
  intro p e s m args below meth c s₁ B hml hv
  obtain ⟨rfl, hsz, hZ, hP, hK, hD0⟩ := hv
  have hx := B.exec
  have hb := B.bytes
  have hr := B.returns
  have hts := atoms_spec (ws := wyM_one0) B.pre
  have htx := fun w h => hts w (List.mem_cons_of_mem _ h)
  have hown : s.vm.findClass "ValueBenchModel" = some m.cls := findClass_of_methodNamed B.named
  have hlocks := B.notSynchronized
  subst hsz
  have hD := hD0.self (sz := s.heap.size)
  generalize hAe : va_A [(a0, .inr (5, [v16, .ref a4, v17, v18, v19, v20, v21, v22, v23, v24, v25, v26, v27, v28, v29, v30, v31, v32, v33, v34, v35, .ref a5, v36, v37, .ref a1, .ref a2, v38, v39, v40, v41, v42, v43])), (a1, .inl (cT 5, 8, .inr (.inr (.inr (.inr f44))))), (a2, .inl (cT 1, 8, .inl f47)), (a3, .inl (cT 0, 4096, .inl f49)), (a4, .inl (cT 4, 1024, .inr (.inr (.inr (.inr f54))))), (a5, .inl (cT 0, 1024, .inl f57))] s.heap.size = A at hD hZ ⊢
  have hA : ∀ q : Nat, s.heap.size ≤ q → A q := fun q h => by rw [← hAe]; exact Or.inr h
  have hS : va_S A s.heap s.heap [] := va_S.rf
  have hP : va_P D xcl [(a0, .inr (5, [v16, .ref a4, v17, v18, v19, v20, v21, v22, v23, v24, v25, v26, v27, v28, v29, v30, v31, v32, v33, v34, v35, .ref a5, v36, v37, .ref a1, .ref a2, v38, v39, v40, v41, v42, v43])), (a1, .inl (cT 5, 8, .inr (.inr (.inr (.inr f44))))), (a2, .inl (cT 1, 8, .inl f47)), (a3, .inl (cT 0, 4096, .inl f49)), (a4, .inl (cT 4, 1024, .inr (.inr (.inr (.inr f54))))), (a5, .inl (cT 0, 1024, .inl f57))] s.heap := hP
  have hl := lv_entry ([.ref a0, .int x6, .int 0, .int x11]) (n := 4) (Nat.le_of_ble_eq_true rfl)
  rw [lg_entry_eq]
  generalize (lg_sl ([.ref a0, .int x6, .int 0, .int x11]) ++ List.replicate (4 - (lg_sl ([.ref a0, .int x6, .int 0, .int x11])).length) Slot.unset).toArray = ls at hl ⊢
  have hl : lv_has ls 4 [(0, .ref a0), (1, .int x6), (2, .int 0), (3, .int x11)] := hl
  refine lv_aload_n hx hb dM_one0_0 rfl (lv_at hl 0 rfl) ?_
  obtain ⟨hPc, hDc, hFc⟩ := xcut (wc := [(a0, .inr (5, [v16, .ref a4, v17, v18, v19, v20, v21, v22, v23, v24, v25, v26, v27, v28, v29, v30, v31, v32, v33, v34, v35, .ref a5, v36, v37, .ref a1, .ref a2, v38, v39, v40, v41, v42, v43]))]) hP hD hS hA [0] rfl rfl (by decide)
  refine va_callv (va_runV (C := "ValueBenchModel") (As := []) (rest := []) ⟨hx, hb, hml, hown, htx⟩ (cM_begin_0 l hl9 D cT aK aV s.heap.size a0 v16 (.ref a4) v17 v18 v19 v20 v21 v22 v23 v24 v25 v26 v27 v28 v29 v30 v31 v32 v33 v34 v35 (.ref a5) v36 v37 (.ref a1) (.ref a2) v38 v39 v40 v41 v42 v43) ⟨callB_of 0 htx (xw_goodC kw_5_209) rfl rfl rfl (htx _ kw_1_5) (htx _ kw_5_206) ⟨by decide, by decide, by decide +kernel⟩ ⟨Nat.le_of_ble_eq_true rfl, Nat.le_of_ble_eq_true rfl⟩, (htx _ kw_5_208), (htx _ kp_M_begin)⟩ ⟨xPre_blind, va_recv hK hP (ci := 5) rfl (q0 := 0) rfl, (fun U hU hW => ⟨rfl, xPre_of hZ hS hFc hPc hDc hK U hU hW⟩)⟩ rfl rfl hl.1 rfl (lv_room (Nat.le_of_ble_eq_true rfl)) dM_one0_1 ⟨Nat.le_of_ble_eq_true rfl, Nat.le_of_ble_eq_true rfl⟩) hS (fun q _ h => hFc q h) hFc (fun u9 t H1 locs ht hvm hr9 hB hz1 hk1 hS => ?_)
  obtain ⟨hP1, hK1, hD1⟩ := hB
  rw [ht] at hP1
  obtain ⟨hP, hD⟩ := xjoin (W := [(a1, .inl (cT 5, 8, .inr (.inr (.inr (.inr f44))))), (a2, .inl (cT 1, 8, .inl f47)), (a3, .inl (cT 0, 4096, .inl f49)), (a4, .inl (cT 4, 1024, .inr (.inr (.inr (.inr f54))))), (a5, .inl (cT 0, 1024, .inl f57)), (a0, .inr (5, [.int 0, .ref a4, .int 0, v18, .int 0, v20, v21, .int 0, v23, .int 0, v25, v26, .int 0, v28, v29, v30, v31, v32, v33, v34, v35, .ref a5, .int 0, .int 1000000000, .ref a1, .ref a2, v38, v39, v40, v41, v42, v43]))]) hP hD [0] [1, 2, 3, 4, 5] 5 rfl rfl (by decide) (by decide) hk1 hFc hP1 hD1
  generalize H1 = H at hP hS ⊢
  refine lv_aload_n hx hb dM_one0_4 rfl (lv_at hl 0 rfl) ?_
  refine lv_iload_n hx hb dM_one0_5 rfl (lv_at hl 1 rfl) ?_
  obtain ⟨hPc, hDc, hFc⟩ := xcut (wc := []) hP hD hS hA [] rfl rfl (by decide)
  refine va_calli (va_runV (C := "ValueBenchModel") (As := [.int x6]) (rest := []) ⟨hx, hb, hml, hown, htx⟩ (cM_out_2 l hl9 D cT aK aV H.size a0 x6 h7 h8 h9 h10) ⟨callB_of 1 htx (xw_goodC kw_5_217) rfl rfl rfl (htx _ kw_1_5) (htx _ kw_5_214) ⟨by decide, by decide, by decide +kernel⟩ ⟨Nat.le_of_ble_eq_true rfl, Nat.le_of_ble_eq_true rfl⟩, (htx _ kw_5_216), (htx _ kp_M_out)⟩ ⟨xPre_blind, va_recv hK hP (ci := 5) rfl (q0 := 5) rfl, (fun U hU hW => ⟨rfl, xPre_of hZ hS hFc hPc hDc hK U hU hW⟩)⟩ rfl rfl hl.1 rfl (lv_room (Nat.le_of_ble_eq_true rfl)) dM_one0_6 ⟨Nat.le_of_ble_eq_true rfl, Nat.le_of_ble_eq_true rfl⟩) hS (fun q _ h => hFc q h) hFc (fun r1 u9 t H1 locs ht hvm hr9 hB hz1 hk1 hS => ?_)
  obtain ⟨hP1, hK1, hD1⟩ := hB
  rw [ht] at hP1
  obtain ⟨hP, hD⟩ := xjoin (W := [(a1, .inl (cT 5, 8, .inr (.inr (.inr (.inr f44))))), (a2, .inl (cT 1, 8, .inl f47)), (a3, .inl (cT 0, 4096, .inl f49)), (a4, .inl (cT 4, 1024, .inr (.inr (.inr (.inr f54))))), (a5, .inl (cT 0, 1024, .inl f57)), (a0, .inr (5, [.int 0, .ref a4, .int 0, v18, .int 0, v20, v21, .int 0, v23, .int 0, v25, v26, .int 0, v28, v29, v30, v31, v32, v33, v34, v35, .ref a5, .int 0, .int 1000000000, .ref a1, .ref a2, v38, v39, v40, v41, v42, v43]))]) hP hD [] [0, 1, 2, 3, 4, 5] 6 rfl rfl (by decide) (by decide) hk1 hFc hP1 hD1
  generalize H1 = H at hP hS ⊢
  rw [hr9]
  refine W.eq (g2 := F0 m 9 ls [.int 0]) rfl ?_
  refine lv_if_ne (tgt := 30) hx hb dM_one0_9 (by decide) (fun h => ((by revert h; decide : False)).elim) (fun _ => ?_)
  refine lv_iload_n hx hb dM_one0_12 rfl (lv_at hl 2 rfl) ?_
  refine lv_if_lt (tgt := 30) hx hb dM_one0_13 (by decide) (fun h => ((by revert h; decide : False)).elim) (fun _ => ?_)
  refine lv_iload_n hx hb dM_one0_16 rfl (lv_at hl 2 rfl) ?_
  refine lv_bipush (v := 13) hx hb dM_one0_17 (by decide) ?_
  refine lv_icmp_gt (tgt := 30) hx hb dM_one0_19 (by decide) (fun h => ((by revert h; decide : False)).elim) (fun _ => ?_)
  refine lv_aload_n hx hb dM_one0_22 rfl (lv_at hl 0 rfl) ?_
  refine lv_iload_n hx hb dM_one0_23 rfl (lv_at hl 3 rfl) ?_
  obtain ⟨hPc, hDc, hFc⟩ := xcut (wc := []) hP hD hS hA [] rfl rfl (by decide)
  refine va_calli (va_runV (C := "ValueBenchModel") (As := [.int x11]) (rest := []) ⟨hx, hb, hml, hown, htx⟩ (cM_out_2 l hl9 D cT aK aV H.size a0 x11 h12 h13 h14 h15) ⟨callB_of 1 htx (xw_goodC kw_5_217) rfl rfl rfl (htx _ kw_1_5) (htx _ kw_5_214) ⟨by decide, by decide, by decide +kernel⟩ ⟨Nat.le_of_ble_eq_true rfl, Nat.le_of_ble_eq_true rfl⟩, (htx _ kw_5_216), (htx _ kp_M_out)⟩ ⟨xPre_blind, va_recv hK hP (ci := 5) rfl (q0 := 5) rfl, (fun U hU hW => ⟨rfl, xPre_of hZ hS hFc hPc hDc hK U hU hW⟩)⟩ rfl rfl hl.1 rfl (lv_room (Nat.le_of_ble_eq_true rfl)) dM_one0_24 ⟨Nat.le_of_ble_eq_true rfl, Nat.le_of_ble_eq_true rfl⟩) hS (fun q _ h => hFc q h) hFc (fun r2 u9 t H1 locs ht hvm hr9 hB hz1 hk1 hS => ?_)
  obtain ⟨hP1, hK1, hD1⟩ := hB
  rw [ht] at hP1
  obtain ⟨hP, hD⟩ := xjoin (W := [(a1, .inl (cT 5, 8, .inr (.inr (.inr (.inr f44))))), (a2, .inl (cT 1, 8, .inl f47)), (a3, .inl (cT 0, 4096, .inl f49)), (a4, .inl (cT 4, 1024, .inr (.inr (.inr (.inr f54))))), (a5, .inl (cT 0, 1024, .inl f57)), (a0, .inr (5, [.int 0, .ref a4, .int 0, v18, .int 0, v20, v21, .int 0, v23, .int 0, v25, v26, .int 0, v28, v29, v30, v31, v32, v33, v34, v35, .ref a5, .int 0, .int 1000000000, .ref a1, .ref a2, v38, v39, v40, v41, v42, v43]))]) hP hD [] [0, 1, 2, 3, 4, 5] 6 rfl rfl (by decide) (by decide) hk1 hFc hP1 hD1
  generalize H1 = H at hP hS ⊢
  rw [hr9]
  refine W.eq (g2 := F0 m 27 ls [.int 0]) rfl ?_
  refine lv_if_eq (tgt := 38) hx hb dM_one0_27 (by decide) (fun _ => ?_) (fun h => ((by revert h; decide : False)).elim)
  refine lv_aload_n hx hb dM_one0_38 rfl (lv_at hl 0 rfl) ?_
  refine lv_iload_n hx hb dM_one0_39 rfl (lv_at hl 1 rfl) ?_
  refine lv_iconst (v := 1) hx hb dM_one0_40 (by decide) ?_
  refine lv_iload_n hx hb dM_one0_41 rfl (lv_at hl 2 rfl) ?_
  refine lv_iload_n hx hb dM_one0_42 rfl (lv_at hl 3 rfl) ?_
  refine lv_iload_n hx hb dM_one0_43 rfl (lv_at hl 3 rfl) ?_
  obtain ⟨hPc, hDc, hFc⟩ := xcut (wc := [(a0, .inr (5, [.int 0, .ref a4, .int 0, v18, .int 0, v20, v21, .int 0, v23, .int 0, v25, v26, .int 0, v28, v29, v30, v31, v32, v33, v34, v35, .ref a5, .int 0, .int 1000000000, .ref a1, .ref a2, v38, v39, v40, v41, v42, v43])), (a1, .inl (cT 5, 8, .inr (.inr (.inr (.inr f44))))), (a2, .inl (cT 1, 8, .inl f47)), (a3, .inl (cT 0, 4096, .inl f49)), (a4, .inl (cT 4, 1024, .inr (.inr (.inr (.inr f54))))), (a5, .inl (cT 0, 1024, .inl f57))]) hP hD hS hA [5, 0, 1, 2, 3, 4] rfl rfl (by decide)
  refine va_callv (vx_runVW (C := "ValueBenchModel") (As := [.int x6, .int 1, .int 0, .int x11, .int x11]) (rest := []) ⟨hx, hb, hml, hown, htx⟩ (cM_finish_13 l hl9 D cT aK aV H.size a0 a1 a2 a3 a4 a5 x6 x11 x11 (.int 0) v18 (.int 0) v20 v21 (.int 0) v23 (.int 0) v25 v26 (.int 0) v28 v29 v30 v31 v32 v33 v34 v35 (.int 0) (.int 1000000000) v38 v39 v40 v41 v42 v43 f44 f47 f49 f54 f57 h7 h8 h9 h10 h12 h13 h14 h15 (by first | rfl | exact h45 | exact h46 | exact h48 | exact h50 | exact h51 | exact h52 | exact h53 | exact h55 | exact h56) (by first | rfl | exact h45 | exact h46 | exact h48 | exact h50 | exact h51 | exact h52 | exact h53 | exact h55 | exact h56) (by first | rfl | exact h45 | exact h46 | exact h48 | exact h50 | exact h51 | exact h52 | exact h53 | exact h55 | exact h56) (by first | rfl | exact h45 | exact h46 | exact h48 | exact h50 | exact h51 | exact h52 | exact h53 | exact h55 | exact h56) (by first | rfl | exact h45 | exact h46 | exact h48 | exact h50 | exact h51 | exact h52 | exact h53 | exact h55 | exact h56) (by first | rfl | exact h45 | exact h46 | exact h48 | exact h50 | exact h51 | exact h52 | exact h53 | exact h55 | exact h56) (by first | rfl | exact h45 | exact h46 | exact h48 | exact h50 | exact h51 | exact h52 | exact h53 | exact h55 | exact h56) (by first | rfl | exact h45 | exact h46 | exact h48 | exact h50 | exact h51 | exact h52 | exact h53 | exact h55 | exact h56) (by first | rfl | exact h45 | exact h46 | exact h48 | exact h50 | exact h51 | exact h52 | exact h53 | exact h55 | exact h56)) (xcVW 5 htx (xw_goodC kw_6_195) rfl rfl rfl (htx _ kw_1_5) (htx _ kw_6_192) ⟨by decide, by decide, by decide +kernel⟩ ⟨Nat.le_of_ble_eq_true rfl, Nat.le_of_ble_eq_true rfl⟩ (htx _ kw_6_194) (htx _ kp_M_finish)) ⟨xPre_blind, va_recv hK hP (ci := 5) rfl (q0 := 5) rfl, (fun U hU hW => ⟨rfl, xPre_of hZ hS hFc hPc hDc hK U hU hW⟩)⟩ rfl rfl hl.1 rfl (lv_room (Nat.le_of_ble_eq_true rfl)) dM_one0_44 ⟨Nat.le_of_ble_eq_true rfl, Nat.le_of_ble_eq_true rfl⟩) hS (fun q _ h => hFc q h) hFc (fun u9 t H1 locs ht hvm hr9 hB hz1 hk1 hS => ?_)
  obtain ⟨q3, q4, y5, y6, y7, y8, hP1, hK1, hD1⟩ := hB
  rw [ht] at hP1
  obtain ⟨hP, hD⟩ := xjoin (W := [(a0, .inr (5, [.int 0, .ref a4, .int 2, v18, .int 0, v20, v21, .int 0, v23, .int 0, v25, v26, .int 0, v28, v29, .ref a3, .int 4, .int 4, .int 0, .int 100, v35, .ref a5, .int 4, .int 4096, .ref a1, .ref a2, v38, v39, v40, v41, v42, v43])), (a1, .inl (cT 5, 8, .inr (.inr (.inr (.inr f44))))), (a2, .inl (cT 1, 8, .inl (upd f47 x6.toNatClampNeg 4))), (a3, .inl (cT 0, 4096, .inl (upd (upd (upd (upd f49 0 (vp_nar .byte (vp_nar .byte y5))) 1 (vp_nar .byte (vp_nar .byte y6))) 2 (vp_nar .byte (vp_nar .byte y7))) 3 (vp_nar .byte (vp_nar .byte y8))))), (a4, .inl (cT 4, 1024, .inr (.inr (.inr (.inr (va_up (va_up f54 0 (some q3)) 1 (some q4))))))), (a5, .inl (cT 0, 1024, .inl (upd (upd (upd (upd f57 0 (vp_nar .byte y5)) 1 (vp_nar .byte y6)) 2 (vp_nar .byte y7)) 3 (vp_nar .byte y8)))), (q3, .inr (6, [.int 0, .long 0, .int 0, .int 0, .int 0, .int 1])), (q4, .inr (6, [.int 2, .long 0, .int 0, .int 0, .int 0, .int 1]))]) hP hD [5, 0, 1, 2, 3, 4] [] 0 rfl rfl (by decide) (by decide) hk1 hFc hP1 hD1
  generalize H1 = H at hP hS ⊢
  obtain ⟨hP9, hD9⟩ := xsub (wc := [(a0, .inr (5, [.int 0, .ref a4, .int 2, v18, .int 0, v20, v21, .int 0, v23, .int 0, v25, v26, .int 0, v28, v29, .ref a3, .int 4, .int 4, .int 0, .int 100, v35, .ref a5, .int 4, .int 4096, .ref a1, .ref a2, v38, v39, v40, v41, v42, v43])), (a1, .inl (cT 5, 8, .inr (.inr (.inr (.inr f44))))), (a2, .inl (cT 1, 8, .inl (upd f47 x6.toNatClampNeg 4))), (a3, .inl (cT 0, 4096, .inl (upd (upd (upd (upd f49 0 (vp_nar .byte (vp_nar .byte y5))) 1 (vp_nar .byte (vp_nar .byte y6))) 2 (vp_nar .byte (vp_nar .byte y7))) 3 (vp_nar .byte (vp_nar .byte y8))))), (a4, .inl (cT 4, 1024, .inr (.inr (.inr (.inr (va_up (va_up f54 0 (some q3)) 1 (some q4))))))), (a5, .inl (cT 0, 1024, .inl (upd (upd (upd (upd f57 0 (vp_nar .byte y5)) 1 (vp_nar .byte y6)) 2 (vp_nar .byte y7)) 3 (vp_nar .byte y8)))), (q3, .inr (6, [.int 0, .long 0, .int 0, .int 0, .int 0, .int 1])), (q4, .inr (6, [.int 2, .long 0, .int 0, .int 0, .int 0, .int 1]))]) hP hD [0, 1, 2, 3, 4, 5, 6, 7] rfl rfl (by decide)
  refine W.widen (k := 2) (n := 12) (Nat.le_of_ble_eq_true rfl) (Nat.le_of_ble_eq_true rfl) ?_
  exact W.vret hx hb hr (fun t ht hW => ⟨⟨(), rfl, trivial, q3, q4, y5, y6, y7, y8, by rw [ht]; exact hP9, va_K.moved hW.alike hK, hD9⟩, hS.F ht⟩) hS.2.2 dM_one0_47
set_option maxHeartbeats 400000000 in
set_option maxRecDepth 100000 in
theorem cM_finish_14 (l : Launch) (hl9 : l.stackTraces = false) (D : va_G) (cT : Nat → ClassId) (aK aV : Nat → Nat) (sz : Nat) (a0 : Nat) (a1 : Nat) (a2 : Nat) (a3 : Nat) (a4 : Nat) (a5 : Nat) (a6 : Nat) (x7 : Int32) (x12 : Int32) (x17 : Int32) (v18 : Value) (v19 : Value) (v20 : Value) (v21 : Value) (v22 : Value) (v23 : Value) (v24 : Value) (v25 : Value) (v26 : Value) (v27 : Value) (v28 : Value) (v29 : Value) (v30 : Value) (v31 : Value) (v32 : Value) (v33 : Value) (v34 : Value) (v35 : Value) (v36 : Value) (v37 : Value) (v38 : Value) (v39 : Value) (v40 : Value) (v41 : Value) (v42 : Value) (v43 : Value) (v44 : Value) (f45 : Nat → Option Nat) (f48 : Nat → Int32) (f50 : Nat → Int32) (f55 : Nat → Option Nat) (f58 : Nat → Int32) (f59 : Nat → Int32) (h8 : ¬ x7 < 0) (h9 : ¬ 7 < x7) (h10 : x7 ≤ 7) (h11 : vp_in x7 8) (h13 : ¬ x12 < 0) (h14 : ¬ 7 < x12) (h15 : x12 ≤ 7) (h16 : vp_in x12 8) (h46 : f45 x12.toNatClampNeg = some a3) (h47 : f45 x7.toNatClampNeg = some a6) (h49 : f48 x12.toNatClampNeg = 4) (h51 : f50 0 = 110) (h52 : f50 1 = 117) (h53 : f50 2 = 108) (h54 : f50 3 = 108) (h56 : f55 0 = none) (h57 : f55 1 = none) : xMet l yM_finish wyM_finish 8 2 12 175 D cT aK aV sz [.ref a0, .int x7, .int 1, .int 0, .int x12, .int x17] [(a0, .inr (5, [v18, .ref a4, .int 0, v19, v20, v21, v22, v23, v24, v25, v26, v27, v28, v29, v30, v31, v32, v33, v34, v35, v36, .ref a5, v37, v38, .ref a1, .ref a2, v39, v40, v41, v42, v43, v44])), (a1, .inl (cT 5, 8, .inr (.inr (.inr (.inr f45))))), (a2, .inl (cT 1, 8, .inl f48)), (a3, .inl (cT 0, 4096, .inl f50)), (a4, .inl (cT 4, 1024, .inr (.inr (.inr (.inr f55))))), (a5, .inl (cT 0, 1024, .inl f58)), (a6, .inl (cT 0, 4096, .inl f59))] (fun A => va_Qv (fun _ : Unit => True) (fun _ t => ∃ (r1 : Nat) (r2 : Nat) (y4 : Int32) (y5 : Int32) (y6 : Int32) (y7 : Int32), xB D xcl cT A [(a0, .inr (5, [v18, .ref a4, .int 2, v19, v20, v21, v22, v23, v24, v25, v26, v27, v28, v29, v30, .ref a3, .int 4, .int 4, .int 0, .int 100, v36, .ref a5, .int 4, .int 4096, .ref a1, .ref a2, v39, v40, v41, v42, v43, v44])), (a1, .inl (cT 5, 8, .inr (.inr (.inr (.inr f45))))), (a2, .inl (cT 1, 8, .inl (upd f48 x7.toNatClampNeg 4))), (a3, .inl (cT 0, 4096, .inl f50)), (a4, .inl (cT 4, 1024, .inr (.inr (.inr (.inr (va_up (va_up f55 0 (some r1)) 1 (some r2))))))), (a5, .inl (cT 0, 1024, .inl (upd (upd (upd (upd f58 0 (vp_nar .byte y4)) 1 (vp_nar .byte y5)) 2 (vp_nar .byte y6)) 3 (vp_nar .byte y7)))), (a6, .inl (cT 0, 4096, .inl (upd (upd (upd (upd f59 0 (vp_nar .byte (vp_nar .byte y4))) 1 (vp_nar .byte (vp_nar .byte y5))) 2 (vp_nar .byte (vp_nar .byte y6))) 3 (vp_nar .byte (vp_nar .byte y7))))), (r1, .inr (6, [.int 0, .long 0, .int 0, .int 0, .int 0, .int 1])), (r2, .inr (6, [.int 2, .long 0, .int 0, .int 0, .int 0, .int 1]))] t) A) := by
  refine va_MetW (cc := prog_13_method_90_code) (maxL := 10) (ret := none) (hh := [(0, 128, 131, 83), (0, 128, 149, 86)]) (by decide) rfl ?_
  intro p e s m args below meth c s₁ B hml hv
  obtain ⟨rfl, hsz, hZ, hP, hK, hD0⟩ := hv
  have hx := B.exec
  have hb := B.bytes
  have hr := B.returns
  have hts := atoms_spec (ws := wyM_finish) B.pre
  have htx := fun w h => hts w (List.mem_cons_of_mem _ h)
  have hown : s.vm.findClass "ValueBenchModel" = some m.cls := findClass_of_methodNamed B.named
  have hlocks := B.notSynchronized
  subst hsz
  have hD := hD0.self (sz := s.heap.size)
  generalize hAe : va_A [(a0, .inr (5, [v18, .ref a4, .int 0, v19, v20, v21, v22, v23, v24, v25, v26, v27, v28, v29, v30, v31, v32, v33, v34, v35, v36, .ref a5, v37, v38, .ref a1, .ref a2, v39, v40, v41, v42, v43, v44])), (a1, .inl (cT 5, 8, .inr (.inr (.inr (.inr f45))))), (a2, .inl (cT 1, 8, .inl f48)), (a3, .inl (cT 0, 4096, .inl f50)), (a4, .inl (cT 4, 1024, .inr (.inr (.inr (.inr f55))))), (a5, .inl (cT 0, 1024, .inl f58)), (a6, .inl (cT 0, 4096, .inl f59))] s.heap.size = A at hD hZ ⊢
  have hA : ∀ q : Nat, s.heap.size ≤ q → A q := fun q h => by rw [← hAe]; exact Or.inr h
  have hS : va_S A s.heap s.heap [] := va_S.rf
  have hP : va_P D xcl [(a0, .inr (5, [v18, .ref a4, .int 0, v19, v20, v21, v22, v23, v24, v25, v26, v27, v28, v29, v30, v31, v32, v33, v34, v35, v36, .ref a5, v37, v38, .ref a1, .ref a2, v39, v40, v41, v42, v43, v44])), (a1, .inl (cT 5, 8, .inr (.inr (.inr (.inr f45))))), (a2, .inl (cT 1, 8, .inl f48)), (a3, .inl (cT 0, 4096, .inl f50)), (a4, .inl (cT 4, 1024, .inr (.inr (.inr (.inr f55))))), (a5, .inl (cT 0, 1024, .inl f58)), (a6, .inl (cT 0, 4096, .inl f59))] s.heap := hP
  have hl := lv_entry ([.ref a0, .int x7, .int 1, .int 0, .int x12, .int x17]) (n := 10) (Nat.le_of_ble_eq_true rfl)
  rw [lg_entry_eq]
  generalize (lg_sl ([.ref a0, .int x7, .int 1, .int 0, .int x12, .int x17]) ++ List.replicate (10 - (lg_sl ([.ref a0, .int x7, .int 1, .int 0, .int x12, .int x17])).length) Slot.unset).toArray = ls at hl ⊢
  have hl : lv_has ls 10 [(0, .ref a0), (1, .int x7), (2, .int 1), (3, .int 0), (4, .int x12), (5, .int x17)] := hl
  have htab := vx_table (x := yM_finish) B (hts _ List.mem_cons_self)
  refine lv_aload_n hx hb dM_finish_0 rfl (lv_at hl 0 rfl) ?_
  refine lv_iload hx hb dM_finish_1 (lv_at hl 4 rfl) ?_
  obtain ⟨hPc, hDc, hFc⟩ := xcut (wc := [(a0, .inr (5, [v18, .ref a4, .int 0, v19, v20, v21, v22, v23, v24, v25, v26, v27, v28, v29, v30, v31, v32, v33, v34, v35, v36, .ref a5, v37, v38, .ref a1, .ref a2, v39, v40, v41, v42, v43, v44])), (a1, .inl (cT 5, 8, .inr (.inr (.inr (.inr f45))))), (a2, .inl (cT 1, 8, .inl f48)), (a3, .inl (cT 0, 4096, .inl f50)), (a4, .inl (cT 4, 1024, .inr (.inr (.inr (.inr f55)))))]) hP hD hS hA [0, 1, 2, 3, 4] rfl rfl (by decide)
  refine va_callr (va_runV (C := "ValueBenchModel") (As := [.int x12]) (rest := []) ⟨hx, hb, hml, hown, htx⟩ (cM_register_0 l hl9 D cT aK aV s.heap.size a0 a1 a2 a3 a4 x12 v18 v19 v20 v21 v22 v23 v24 v25 v26 v27 v28 v29 v30 v31 v32 v33 v34 v35 v36 (.ref a5) v37 v38 v39 v40 v41 v42 v43 v44 f45 f48 f50 f55 h13 h14 h15 h16 (by first | rfl | exact h46 | exact h47 | exact h49 | exact h51 | exact h52 | exact h53 | exact h54 | exact h56 | exact h57) (by first | rfl | exact h46 | exact h47 | exact h49 | exact h51 | exact h52 | exact h53 | exact h54 | exact h56 | exact h57) (by first | rfl | exact h46 | exact h47 | exact h49 | exact h51 | exact h52 | exact h53 | exact h54 | exact h56 | exact h57) (by first | rfl | exact h46 | exact h47 | exact h49 | exact h51 | exact h52 | exact h53 | exact h54 | exact h56 | exact h57) (by first | rfl | exact h46 | exact h47 | exact h49 | exact h51 | exact h52 | exact h53 | exact h54 | exact h56 | exact h57) (by first | rfl | exact h46 | exact h47 | exact h49 | exact h51 | exact h52 | exact h53 | exact h54 | exact h56 | exact h57) (by first | rfl | exact h46 | exact h47 | exact h49 | exact h51 | exact h52 | exact h53 | exact h54 | exact h56 | exact h57)) ⟨callB_of 1 htx (xw_goodC kw_6_170) rfl rfl rfl (htx _ kw_1_5) (htx _ kw_6_167) ⟨by decide, by decide, by decide +kernel⟩ ⟨Nat.le_of_ble_eq_true rfl, Nat.le_of_ble_eq_true rfl⟩, (htx _ kw_6_169), (htx _ kp_M_register)⟩ ⟨xPre_blind, va_recv hK hP (ci := 5) rfl (q0 := 0) rfl, (fun U hU hW => ⟨rfl, xPre_of hZ hS hFc hPc hDc hK U hU hW⟩)⟩ rfl rfl hl.1 rfl (lv_room (Nat.le_of_ble_eq_true rfl)) dM_finish_3 ⟨Nat.le_of_ble_eq_true rfl, Nat.le_of_ble_eq_true rfl⟩) hS (fun q _ h => hFc q h) hFc (fun u9 r1 t H1 locs ht hvm hr9 hB hz1 hk1 hS => ?_)
  obtain ⟨hP1, hK1, hD1⟩ := hB
  rw [ht] at hP1
  obtain ⟨hP, hD⟩ := xjoin (W := [(a5, .inl (cT 0, 1024, .inl f58)), (a6, .inl (cT 0, 4096, .inl f59)), (a0, .inr (5, [v18, .ref a4, .int 1, v19, v20, v21, v22, v23, v24, v25, v26, v27, v28, v29, v30, .ref a3, .int 4, .int 4, .int 0, .int 100, v36, .ref a5, v37, v38, .ref a1, .ref a2, v39, v40, v41, v42, v43, v44])), (a1, .inl (cT 5, 8, .inr (.inr (.inr (.inr f45))))), (a2, .inl (cT 1, 8, .inl f48)), (a3, .inl (cT 0, 4096, .inl f50)), (a4, .inl (cT 4, 1024, .inr (.inr (.inr (.inr (va_up f55 0 (some r1))))))), (r1, .inr (6, [.int 0, .long 0, .int 0, .int 0, .int 0, .int 1]))]) hP hD [0, 1, 2, 3, 4] [5, 6] 2 rfl rfl (by decide) (by decide) hk1 hFc hP1 hD1
  generalize H1 = H at hP hS ⊢
  refine W.eq (g2 := F0 m 6 ls [.ref r1]) rfl ?_
  refine lv_astore (lv' := [(6, .ref r1), (0, .ref a0), (1, .int x7), (2, .int 1), (3, .int 0), (4, .int x12), (5, .int x17)]) hx hb dM_finish_6 hl (by decide) rfl (fun ls hl => ?_)
  refine lv_iload_n hx hb dM_finish_8 rfl (lv_at hl 3 rfl) ?_
  refine lv_iconst (v := 1) hx hb dM_finish_9 (by decide) ?_
  refine lv_icmp_ne (tgt := 17) hx hb dM_finish_10 (by decide) (fun h => ((by revert h; decide : False)).elim) (fun _ => ?_)
  refine lv_null hx hb dM_finish_13 ?_
  refine lv_goto (tgt := 23) hx hb dM_finish_14 (by decide) ?_
  refine lv_astoreN (lv' := [(7, .null), (6, .ref r1), (0, .ref a0), (1, .int x7), (2, .int 1), (3, .int 0), (4, .int x12), (5, .int x17)]) hx hb dM_finish_23 hl (by decide) rfl (fun ls hl => ?_)
  refine lv_iload_n hx hb dM_finish_25 rfl (lv_at hl 4 rfl) ?_
  refine lv_if_ne (tgt := 43) hx hb dM_finish_26 (by decide) (fun _ => ?_) (fun h => ((by revert h; decide : False)).elim)
  refine lv_iload_n hx hb dM_finish_43 rfl (lv_at hl 4 rfl) ?_
  refine lv_iconst (v := 1) hx hb dM_finish_44 (by decide) ?_
  refine lv_icmp_ne (tgt := 60) hx hb dM_finish_45 (by decide) (fun h => ((by revert h; decide : False)).elim) (fun _ => ?_)
  refine lv_aload_n hx hb dM_finish_48 rfl (lv_at hl 2 rfl) ?_
  refine lv_iload_n hx hb dM_finish_49 rfl (lv_at hl 5 rfl) ?_
  refine lv_aload hx hb dM_finish_50 (lv_at hl 1 rfl) ?_
  obtain ⟨hPc, hDc, hFc⟩ := xcut (wc := [(a0, .inr (5, [v18, .ref a4, .int 1, v19, v20, v21, v22, v23, v24, v25, v26, v27, v28, v29, v30, .ref a3, .int 4, .int 4, .int 0, .int 100, v36, .ref a5, v37, v38, .ref a1, .ref a2, v39, v40, v41, v42, v43, v44])), (r1, .inr (6, [.int 0, .long 0, .int 0, .int 0, .int 0, .int 1])), (a4, .inl (cT 4, 1024, .inr (.inr (.inr (.inr (va_up f55 0 (some r1)))))))]) hP hD hS hA [2, 7, 6] rfl rfl (by decide)
  refine va_callr (va_runV (C := "ValueBenchModel") (As := [.int 0, .ref r1]) (rest := []) ⟨hx, hb, hml, hown, htx⟩ (cM_one1_0 l hl9 D cT aK aV H.size a0 r1 a4 v18 v19 v20 v21 v22 v23 v24 v25 v26 v27 v28 v29 v30 (.ref a3) (.int 4) (.int 4) (.int 0) (.int 100) v36 (.ref a5) v37 v38 (.ref a1) (.ref a2) v39 v40 v41 v42 v43 v44 (.long 0) (.int 0) (.int 0) (.int 0) (.int 1) (va_up f55 0 (some r1)) (by first | rfl | exact h46 | exact h47 | exact h49 | exact h51 | exact h52 | exact h53 | exact h54 | exact h57)) ⟨callB_of 2 htx (xw_goodC kw_6_237) rfl rfl rfl (htx _ kw_1_5) (htx _ kw_6_234) ⟨by decide, by decide, by decide +kernel⟩ ⟨Nat.le_of_ble_eq_true rfl, Nat.le_of_ble_eq_true rfl⟩, (htx _ kw_6_236), (htx _ kp_M_one1)⟩ ⟨xPre_blind, va_recv hK hP (ci := 5) rfl (q0 := 2) rfl, (fun U hU hW => ⟨rfl, xPre_of hZ hS hFc hPc hDc hK U hU hW⟩)⟩ rfl rfl hl.1 rfl (lv_room (Nat.le_of_ble_eq_true rfl)) dM_finish_52 ⟨Nat.le_of_ble_eq_true rfl, Nat.le_of_ble_eq_true rfl⟩) hS (fun q _ h => hFc q h) hFc (fun u9 r2 t H1 locs ht hvm hr9 hB hz1 hk1 hS => ?_)
  obtain ⟨hP1, hK1, hD1⟩ := hB
  rw [ht] at hP1
  obtain ⟨hP, hD⟩ := xjoin (W := [(a5, .inl (cT 0, 1024, .inl f58)), (a6, .inl (cT 0, 4096, .inl f59)), (a1, .inl (cT 5, 8, .inr (.inr (.inr (.inr f45))))), (a2, .inl (cT 1, 8, .inl f48)), (a3, .inl (cT 0, 4096, .inl f50)), (a0, .inr (5, [v18, .ref a4, .int 2, v19, v20, v21, v22, v23, v24, v25, v26, v27, v28, v29, v30, .ref a3, .int 4, .int 4, .int 0, .int 100, v36, .ref a5, v37, v38, .ref a1, .ref a2, v39, v40, v41, v42, v43, v44])), (r1, .inr (6, [.int 0, .long 0, .int 0, .int 0, .int 0, .int 1])), (a4, .inl (cT 4, 1024, .inr (.inr (.inr (.inr (va_up (va_up f55 0 (some r1)) 1 (some r2))))))), (r2, .inr (6, [.int 2, .long 0, .int 0, .int 0, .int 0, .int 1]))]) hP hD [2, 7, 6] [0, 1, 3, 4, 5] 5 rfl rfl (by decide) (by decide) hk1 hFc hP1 hD1
  generalize H1 = H at hP hS ⊢
  refine W.eq (g2 := F0 m 55 ls [.ref r2]) rfl ?_
  refine lv_astore (lv' := [(8, .ref r2), (7, .null), (6, .ref r1), (0, .ref a0), (1, .int x7), (2, .int 1), (3, .int 0), (4, .int x12), (5, .int x17)]) hx hb dM_finish_55 hl (by decide) rfl (fun ls hl => ?_)
  refine lv_goto (tgt := 119) hx hb dM_finish_57 (by decide) ?_
  refine lv_aload_n hx hb dM_finish_119 rfl (lv_at hl 3 rfl) ?_
  refine lv_iload_n hx hb dM_finish_120 rfl (lv_at hl 4 rfl) ?_
  refine lv_aload hx hb dM_finish_121 (lv_at hl 0 rfl) ?_
  obtain ⟨hPc, hDc, hFc⟩ := xcut (wc := [(a0, .inr (5, [v18, .ref a4, .int 2, v19, v20, v21, v22, v23, v24, v25, v26, v27, v28, v29, v30, .ref a3, .int 4, .int 4, .int 0, .int 100, v36, .ref a5, v37, v38, .ref a1, .ref a2, v39, v40, v41, v42, v43, v44])), (r2, .inr (6, [.int 2, .long 0, .int 0, .int 0, .int 0, .int 1])), (a5, .inl (cT 0, 1024, .inl f58)), (a1, .inl (cT 5, 8, .inr (.inr (.inr (.inr f45))))), (a6, .inl (cT 0, 4096, .inl f59)), (a2, .inl (cT 1, 8, .inl f48))]) hP hD hS hA [5, 8, 0, 2, 1, 3] rfl rfl (by decide)
  refine va_calli (va_runV (C := "ValueBenchModel") (As := [.int x7, .ref r2]) (rest := []) ⟨hx, hb, hml, hown, htx⟩ (cM_store_1 l hl9 D cT aK aV H.size a0 r2 a5 a1 a6 a2 x7 v18 (.ref a4) (.int 2) v19 v20 v21 v22 v23 v24 v25 v26 v27 v28 v29 v30 (.ref a3) (.int 4) (.int 4) (.int 0) (.int 100) v36 v37 v38 v39 v40 v41 v42 v43 v44 (.long 0) (.int 0) (.int 0) (.int 0) (.int 1) f58 f45 f59 f48 h8 h9 h10 h11 (by first | rfl | exact h46 | exact h47 | exact h49 | exact h51 | exact h52 | exact h53 | exact h54)) ⟨callB_of 2 htx (xw_goodC kw_6_124) rfl rfl rfl (htx _ kw_1_5) (htx _ kw_6_121) ⟨by decide, by decide, by decide +kernel⟩ ⟨Nat.le_of_ble_eq_true rfl, Nat.le_of_ble_eq_true rfl⟩, (htx _ kw_6_123), (htx _ kp_M_store)⟩ ⟨xPre_blind, va_recv hK hP (ci := 5) rfl (q0 := 5) rfl, (fun U hU hW => ⟨rfl, xPre_of hZ hS hFc hPc hDc hK U hU hW⟩)⟩ rfl rfl hl.1 rfl (lv_room (Nat.le_of_ble_eq_true rfl)) dM_finish_123 ⟨Nat.le_of_ble_eq_true rfl, Nat.le_of_ble_eq_true rfl⟩) hS (fun q _ h => hFc q h) hFc (fun r3 u9 t H1 locs ht hvm hr9 hB hz1 hk1 hS => ?_)
  obtain ⟨y4, y5, y6, y7, hP1, hK1, hD1⟩ := hB
  rw [ht] at hP1
  obtain ⟨hP, hD⟩ := xjoin (W := [(a3, .inl (cT 0, 4096, .inl f50)), (r1, .inr (6, [.int 0, .long 0, .int 0, .int 0, .int 0, .int 1])), (a4, .inl (cT 4, 1024, .inr (.inr (.inr (.inr (va_up (va_up f55 0 (some r1)) 1 (some r2))))))), (a0, .inr (5, [v18, .ref a4, .int 2, v19, v20, v21, v22, v23, v24, v25, v26, v27, v28, v29, v30, .ref a3, .int 4, .int 4, .int 0, .int 100, v36, .ref a5, .int 4, .int 4096, .ref a1, .ref a2, v39, v40, v41, v42, v43, v44])), (r2, .inr (6, [.int 2, .long 0, .int 0, .int 0, .int 0, .int 1])), (a5, .inl (cT 0, 1024, .inl (upd (upd (upd (upd f58 0 (vp_nar .byte y4)) 1 (vp_nar .byte y5)) 2 (vp_nar .byte y6)) 3 (vp_nar .byte y7)))), (a1, .inl (cT 5, 8, .inr (.inr (.inr (.inr f45))))), (a6, .inl (cT 0, 4096, .inl (upd (upd (upd (upd f59 0 (vp_nar .byte (vp_nar .byte y4))) 1 (vp_nar .byte (vp_nar .byte y5))) 2 (vp_nar .byte (vp_nar .byte y6))) 3 (vp_nar .byte (vp_nar .byte y7))))), (a2, .inl (cT 1, 8, .inl (upd f48 x7.toNatClampNeg 4)))]) hP hD [5, 8, 0, 2, 1, 3] [4, 6, 7] 3 rfl rfl (by decide) (by decide) hk1 hFc hP1 hD1
  generalize H1 = H at hP hS ⊢
  rw [hr9]
  refine W.eq (g2 := F0 m 126 ls [.int 4]) rfl ?_
  refine lv_istore (lv' := [(9, .int 4), (8, .ref r2), (7, .null), (6, .ref r1), (0, .ref a0), (1, .int x7), (2, .int 1), (3, .int 0), (4, .int x12), (5, .int x17)]) hx hb dM_finish_126 hl (by decide) rfl (fun ls hl => ?_)
  refine lv_goto (tgt := 156) hx hb dM_finish_128 (by decide) ?_
  obtain ⟨hP9, hD9⟩ := xsub (wc := [(a0, .inr (5, [v18, .ref a4, .int 2, v19, v20, v21, v22, v23, v24, v25, v26, v27, v28, v29, v30, .ref a3, .int 4, .int 4, .int 0, .int 100, v36, .ref a5, .int 4, .int 4096, .ref a1, .ref a2, v39, v40, v41, v42, v43, v44])), (a1, .inl (cT 5, 8, .inr (.inr (.inr (.inr f45))))), (a2, .inl (cT 1, 8, .inl (upd f48 x7.toNatClampNeg 4))), (a3, .inl (cT 0, 4096, .inl f50)), (a4, .inl (cT 4, 1024, .inr (.inr (.inr (.inr (va_up (va_up f55 0 (some r1)) 1 (some r2))))))), (a5, .inl (cT 0, 1024, .inl (upd (upd (upd (upd f58 0 (vp_nar .byte y4)) 1 (vp_nar .byte y5)) 2 (vp_nar .byte y6)) 3 (vp_nar .byte y7)))), (a6, .inl (cT 0, 4096, .inl (upd (upd (upd (upd f59 0 (vp_nar .byte (vp_nar .byte y4))) 1 (vp_nar .byte (vp_nar .byte y5))) 2 (vp_nar .byte (vp_nar .byte y6))) 3 (vp_nar .byte (vp_nar .byte y7))))), (r1, .inr (6, [.int 0, .long 0, .int 0, .int 0, .int 0, .int 1])), (r2, .inr (6, [.int 2, .long 0, .int 0, .int 0, .int 0, .int 1]))]) hP hD [3, 6, 8, 0, 2, 5, 7, 1, 4] rfl rfl (by decide)
  refine W.widen (k := 2) (n := 12) (Nat.le_of_ble_eq_true rfl) (Nat.le_of_ble_eq_true rfl) ?_
  exact W.vret hx hb hr (fun t ht hW => ⟨⟨(), rfl, trivial, r1, r2, y4, y5, y6, y7, by rw [ht]; exact hP9, va_K.moved hW.alike hK, hD9⟩, hS.F ht⟩) hS.2.2 dM_finish_156
set_option maxHeartbeats 400000000 in
set_option maxRecDepth 100000 in
theorem cM_one0_7 (l : Launch) (hl9 : l.stackTraces = false) (D : va_G) (cT : Nat → ClassId) (aK aV : Nat → Nat) (sz : Nat) (a0 : Nat) (a1 : Nat) (a2 : Nat) (a3 : Nat) (a4 : Nat) (a5 : Nat) (a6 : Nat) (x7 : Int32) (x12 : Int32) (v17 : Value) (v18 : Value) (v19 : Value) (v20 : Value) (v21 : Value) (v22 : Value) (v23 : Value) (v24 : Value) (v25 : Value) (v26 : Value) (v27 : Value) (v28 : Value) (v29 : Value) (v30 : Value) (v31 : Value) (v32 : Value) (v33 : Value) (v34 : Value) (v35 : Value) (v36 : Value) (v37 : Value) (v38 : Value) (v39 : Value) (v40 : Value) (v41 : Value) (v42 : Value) (v43 : Value) (v44 : Value) (f45 : Nat → Option Nat) (f48 : Nat → Int32) (f50 : Nat → Int32) (f55 : Nat → Option Nat) (f58 : Nat → Int32) (f59 : Nat → Int32) (h8 : ¬ x7 < 0) (h9 : ¬ 7 < x7) (h10 : x7 ≤ 7) (h11 : vp_in x7 8) (h13 : ¬ x12 < 0) (h14 : ¬ 7 < x12) (h15 : x12 ≤ 7) (h16 : vp_in x12 8) (h46 : f45 x12.toNatClampNeg = some a3) (h47 : f45 x7.toNatClampNeg = some a6) (h49 : f48 x12.toNatClampNeg = 4) (h51 : f50 0 = 110) (h52 : f50 1 = 117) (h53 : f50 2 = 108) (h54 : f50 3 = 108) (h56 : f55 0 = none) (h57 : f55 1 = none) : xMet l yM_one0 wyM_one0 9 2 12 204 D cT aK aV sz [.ref a0, .int x7, .int 0, .int x12] [(a0, .inr (5, [v17, .ref a4, v18, v19, v20, v21, v22, v23, v24, v25, v26, v27, v28, v29, v30, v31, v32, v33, v34, v35, v36, .ref a5, v37, v38, .ref a1, .ref a2, v39, v40, v41, v42, v43, v44])), (a1, .inl (cT 5, 8, .inr (.inr (.inr (.inr f45))))), (a2, .inl (cT 1, 8, .inl f48)), (a3, .inl (cT 0, 4096, .inl f50)), (a4, .inl (cT 4, 1024, .inr (.inr (.inr (.inr f55))))), (a5, .inl (cT 0, 1024, .inl f58)), (a6, .inl (cT 0, 4096, .inl f59))] (fun A => va_Qv (fun _ : Unit => True) (fun _ t => ∃ (q3 : Nat) (q4 : Nat) (y5 : Int32) (y6 : Int32) (y7 : Int32) (y8 : Int32), xB D xcl cT A [(a0, .inr (5, [.int 0, .ref a4, .int 2, v19, .int 0, v21, v22, .int 0, v24, .int 0, v26, v27, .int 0, v29, v30, .ref a3, .int 4, .int 4, .int 0, .int 100, v36, .ref a5, .int 4, .int 4096, .ref a1, .ref a2, v39, v40, v41, v42, v43, v44])), (a1, .inl (cT 5, 8, .inr (.inr (.inr (.inr f45))))), (a2, .inl (cT 1, 8, .inl (upd f48 x7.toNatClampNeg 4))), (a3, .inl (cT 0, 4096, .inl f50)), (a4, .inl (cT 4, 1024, .inr (.inr (.inr (.inr (va_up (va_up f55 0 (some q3)) 1 (some q4))))))), (a5, .inl (cT 0, 1024, .inl (upd (upd (upd (upd f58 0 (vp_nar .byte y5)) 1 (vp_nar .byte y6)) 2 (vp_nar .byte y7)) 3 (vp_nar .byte y8)))), (a6, .inl (cT 0, 4096, .inl (upd (upd (upd (upd f59 0 (vp_nar .byte (vp_nar .byte y5))) 1 (vp_nar .byte (vp_nar .byte y6))) 2 (vp_nar .byte (vp_nar .byte y7))) 3 (vp_nar .byte (vp_nar .byte y8))))), (q3, .inr (6, [.int 0, .long 0, .int 0, .int 0, .int 0, .int 1])), (q4, .inr (6, [.int 2, .long 0, .int 0, .int 0, .int 0, .int 1]))] t) A) := by
  refine Met.ofW (cc := prog_13_method_92_code) (maxL := 4) (ret := none) (by decide) rfl ?_
  intro p e s m args below meth c s₁ B hml hv
  obtain ⟨rfl, hsz, hZ, hP, hK, hD0⟩ := hv
  have hx := B.exec
  have hb := B.bytes
  have hr := B.returns
  have hts := atoms_spec (ws := wyM_one0) B.pre
  have htx := fun w h => hts w (List.mem_cons_of_mem _ h)
  have hown : s.vm.findClass "ValueBenchModel" = some m.cls := findClass_of_methodNamed B.named
  have hlocks := B.notSynchronized
  subst hsz
  have hD := hD0.self (sz := s.heap.size)
  generalize hAe : va_A [(a0, .inr (5, [v17, .ref a4, v18, v19, v20, v21, v22, v23, v24, v25, v26, v27, v28, v29, v30, v31, v32, v33, v34, v35, v36, .ref a5, v37, v38, .ref a1, .ref a2, v39, v40, v41, v42, v43, v44])), (a1, .inl (cT 5, 8, .inr (.inr (.inr (.inr f45))))), (a2, .inl (cT 1, 8, .inl f48)), (a3, .inl (cT 0, 4096, .inl f50)), (a4, .inl (cT 4, 1024, .inr (.inr (.inr (.inr f55))))), (a5, .inl (cT 0, 1024, .inl f58)), (a6, .inl (cT 0, 4096, .inl f59))] s.heap.size = A at hD hZ ⊢
  have hA : ∀ q : Nat, s.heap.size ≤ q → A q := fun q h => by rw [← hAe]; exact Or.inr h
  have hS : va_S A s.heap s.heap [] := va_S.rf
  have hP : va_P D xcl [(a0, .inr (5, [v17, .ref a4, v18, v19, v20, v21, v22, v23, v24, v25, v26, v27, v28, v29, v30, v31, v32, v33, v34, v35, v36, .ref a5, v37, v38, .ref a1, .ref a2, v39, v40, v41, v42, v43, v44])), (a1, .inl (cT 5, 8, .inr (.inr (.inr (.inr f45))))), (a2, .inl (cT 1, 8, .inl f48)), (a3, .inl (cT 0, 4096, .inl f50)), (a4, .inl (cT 4, 1024, .inr (.inr (.inr (.inr f55))))), (a5, .inl (cT 0, 1024, .inl f58)), (a6, .inl (cT 0, 4096, .inl f59))] s.heap := hP
  have hl := lv_entry ([.ref a0, .int x7, .int 0, .int x12]) (n := 4) (Nat.le_of_ble_eq_true rfl)
  rw [lg_entry_eq]
  generalize (lg_sl ([.ref a0, .int x7, .int 0, .int x12]) ++ List.replicate (4 - (lg_sl ([.ref a0, .int x7, .int 0, .int x12])).length) Slot.unset).toArray = ls at hl ⊢
  have hl : lv_has ls 4 [(0, .ref a0), (1, .int x7), (2, .int 0), (3, .int x12)] := hl
  refine lv_aload_n hx hb dM_one0_0 rfl (lv_at hl 0 rfl) ?_
  obtain ⟨hPc, hDc, hFc⟩ := xcut (wc := [(a0, .inr (5, [v17, .ref a4, v18, v19, v20, v21, v22, v23, v24, v25, v26, v27, v28, v29, v30, v31, v32, v33, v34, v35, v36, .ref a5, v37, v38, .ref a1, .ref a2, v39, v40, v41, v42, v43, v44]))]) hP hD hS hA [0] rfl rfl (by decide)
  refine va_callv (va_runV (C := "ValueBenchModel") (As := []) (rest := []) ⟨hx, hb, hml, hown, htx⟩ (cM_begin_0 l hl9 D cT aK aV s.heap.size a0 v17 (.ref a4) v18 v19 v20 v21 v22 v23 v24 v25 v26 v27 v28 v29 v30 v31 v32 v33 v34 v35 v36 (.ref a5) v37 v38 (.ref a1) (.ref a2) v39 v40 v41 v42 v43 v44) ⟨callB_of 0 htx (xw_goodC kw_5_209) rfl rfl rfl (htx _ kw_1_5) (htx _ kw_5_206) ⟨by decide, by decide, by decide +kernel⟩ ⟨Nat.le_of_ble_eq_true rfl, Nat.le_of_ble_eq_true rfl⟩, (htx _ kw_5_208), (htx _ kp_M_begin)⟩ ⟨xPre_blind, va_recv hK hP (ci := 5) rfl (q0 := 0) rfl, (fun U hU hW => ⟨rfl, xPre_of hZ hS hFc hPc hDc hK U hU hW⟩)⟩ rfl rfl hl.1 rfl (lv_room (Nat.le_of_ble_eq_true rfl)) dM_one0_1 ⟨Nat.le_of_ble_eq_true rfl, Nat.le_of_ble_eq_true rfl⟩) hS (fun q _ h => hFc q h) hFc (fun u9 t H1 locs ht hvm hr9 hB hz1 hk1 hS => ?_)
  obtain ⟨hP1, hK1, hD1⟩ := hB
  rw [ht] at hP1
  obtain ⟨hP, hD⟩ := xjoin (W := [(a1, .inl (cT 5, 8, .inr (.inr (.inr (.inr f45))))), (a2, .inl (cT 1, 8, .inl f48)), (a3, .inl (cT 0, 4096, .inl f50)), (a4, .inl (cT 4, 1024, .inr (.inr (.inr (.inr f55))))), (a5, .inl (cT 0, 1024, .inl f58)), (a6, .inl (cT 0, 4096, .inl f59)), (a0, .inr (5, [.int 0, .ref a4, .int 0, v19, .int 0, v21, v22, .int 0, v24, .int 0, v26, v27, .int 0, v29, v30, v31, v32, v33, v34, v35, v36, .ref a5, .int 0, .int 1000000000, .ref a1, .ref a2, v39, v40, v41, v42, v43, v44]))]) hP hD [0] [1, 2, 3, 4, 5, 6] 6 rfl rfl (by decide) (by decide) hk1 hFc hP1 hD1
  generalize H1 = H at hP hS ⊢
  refine lv_aload_n hx hb dM_one0_4 rfl (lv_at hl 0 rfl) ?_
  refine lv_iload_n hx hb dM_one0_5 rfl (lv_at hl 1 rfl) ?_
  obtain ⟨hPc, hDc, hFc⟩ := xcut (wc := []) hP hD hS hA [] rfl rfl (by decide)
  refine va_calli (va_runV (C := "ValueBenchModel") (As := [.int x7]) (rest := []) ⟨hx, hb, hml, hown, htx⟩ (cM_out_2 l hl9 D cT aK aV H.size a0 x7 h8 h9 h10 h11) ⟨callB_of 1 htx (xw_goodC kw_5_217) rfl rfl rfl (htx _ kw_1_5) (htx _ kw_5_214) ⟨by decide, by decide, by decide +kernel⟩ ⟨Nat.le_of_ble_eq_true rfl, Nat.le_of_ble_eq_true rfl⟩, (htx _ kw_5_216), (htx _ kp_M_out)⟩ ⟨xPre_blind, va_recv hK hP (ci := 5) rfl (q0 := 6) rfl, (fun U hU hW => ⟨rfl, xPre_of hZ hS hFc hPc hDc hK U hU hW⟩)⟩ rfl rfl hl.1 rfl (lv_room (Nat.le_of_ble_eq_true rfl)) dM_one0_6 ⟨Nat.le_of_ble_eq_true rfl, Nat.le_of_ble_eq_true rfl⟩) hS (fun q _ h => hFc q h) hFc (fun r1 u9 t H1 locs ht hvm hr9 hB hz1 hk1 hS => ?_)
  obtain ⟨hP1, hK1, hD1⟩ := hB
  rw [ht] at hP1
  obtain ⟨hP, hD⟩ := xjoin (W := [(a1, .inl (cT 5, 8, .inr (.inr (.inr (.inr f45))))), (a2, .inl (cT 1, 8, .inl f48)), (a3, .inl (cT 0, 4096, .inl f50)), (a4, .inl (cT 4, 1024, .inr (.inr (.inr (.inr f55))))), (a5, .inl (cT 0, 1024, .inl f58)), (a6, .inl (cT 0, 4096, .inl f59)), (a0, .inr (5, [.int 0, .ref a4, .int 0, v19, .int 0, v21, v22, .int 0, v24, .int 0, v26, v27, .int 0, v29, v30, v31, v32, v33, v34, v35, v36, .ref a5, .int 0, .int 1000000000, .ref a1, .ref a2, v39, v40, v41, v42, v43, v44]))]) hP hD [] [0, 1, 2, 3, 4, 5, 6] 7 rfl rfl (by decide) (by decide) hk1 hFc hP1 hD1
  generalize H1 = H at hP hS ⊢
  rw [hr9]
  refine W.eq (g2 := F0 m 9 ls [.int 0]) rfl ?_
  refine lv_if_ne (tgt := 30) hx hb dM_one0_9 (by decide) (fun h => ((by revert h; decide : False)).elim) (fun _ => ?_)
  refine lv_iload_n hx hb dM_one0_12 rfl (lv_at hl 2 rfl) ?_
  refine lv_if_lt (tgt := 30) hx hb dM_one0_13 (by decide) (fun h => ((by revert h; decide : False)).elim) (fun _ => ?_)
  refine lv_iload_n hx hb dM_one0_16 rfl (lv_at hl 2 rfl) ?_
  refine lv_bipush (v := 13) hx hb dM_one0_17 (by decide) ?_
  refine lv_icmp_gt (tgt := 30) hx hb dM_one0_19 (by decide) (fun h => ((by revert h; decide : False)).elim) (fun _ => ?_)
  refine lv_aload_n hx hb dM_one0_22 rfl (lv_at hl 0 rfl) ?_
  refine lv_iload_n hx hb dM_one0_23 rfl (lv_at hl 3 rfl) ?_
  obtain ⟨hPc, hDc, hFc⟩ := xcut (wc := []) hP hD hS hA [] rfl rfl (by decide)
  refine va_calli (va_runV (C := "ValueBenchModel") (As := [.int x12]) (rest := []) ⟨hx, hb, hml, hown, htx⟩ (cM_out_2 l hl9 D cT aK aV H.size a0 x12 h13 h14 h15 h16) ⟨callB_of 1 htx (xw_goodC kw_5_217) rfl rfl rfl (htx _ kw_1_5) (htx _ kw_5_214) ⟨by decide, by decide, by decide +kernel⟩ ⟨Nat.le_of_ble_eq_true rfl, Nat.le_of_ble_eq_true rfl⟩, (htx _ kw_5_216), (htx _ kp_M_out)⟩ ⟨xPre_blind, va_recv hK hP (ci := 5) rfl (q0 := 6) rfl, (fun U hU hW => ⟨rfl, xPre_of hZ hS hFc hPc hDc hK U hU hW⟩)⟩ rfl rfl hl.1 rfl (lv_room (Nat.le_of_ble_eq_true rfl)) dM_one0_24 ⟨Nat.le_of_ble_eq_true rfl, Nat.le_of_ble_eq_true rfl⟩) hS (fun q _ h => hFc q h) hFc (fun r2 u9 t H1 locs ht hvm hr9 hB hz1 hk1 hS => ?_)
  obtain ⟨hP1, hK1, hD1⟩ := hB
  rw [ht] at hP1
  obtain ⟨hP, hD⟩ := xjoin (W := [(a1, .inl (cT 5, 8, .inr (.inr (.inr (.inr f45))))), (a2, .inl (cT 1, 8, .inl f48)), (a3, .inl (cT 0, 4096, .inl f50)), (a4, .inl (cT 4, 1024, .inr (.inr (.inr (.inr f55))))), (a5, .inl (cT 0, 1024, .inl f58)), (a6, .inl (cT 0, 4096, .inl f59)), (a0, .inr (5, [.int 0, .ref a4, .int 0, v19, .int 0, v21, v22, .int 0, v24, .int 0, v26, v27, .int 0, v29, v30, v31, v32, v33, v34, v35, v36, .ref a5, .int 0, .int 1000000000, .ref a1, .ref a2, v39, v40, v41, v42, v43, v44]))]) hP hD [] [0, 1, 2, 3, 4, 5, 6] 7 rfl rfl (by decide) (by decide) hk1 hFc hP1 hD1
  generalize H1 = H at hP hS ⊢
  rw [hr9]
  refine W.eq (g2 := F0 m 27 ls [.int 0]) rfl ?_
  refine lv_if_eq (tgt := 38) hx hb dM_one0_27 (by decide) (fun _ => ?_) (fun h => ((by revert h; decide : False)).elim)
  refine lv_aload_n hx hb dM_one0_38 rfl (lv_at hl 0 rfl) ?_
  refine lv_iload_n hx hb dM_one0_39 rfl (lv_at hl 1 rfl) ?_
  refine lv_iconst (v := 1) hx hb dM_one0_40 (by decide) ?_
  refine lv_iload_n hx hb dM_one0_41 rfl (lv_at hl 2 rfl) ?_
  refine lv_iload_n hx hb dM_one0_42 rfl (lv_at hl 3 rfl) ?_
  refine lv_iload_n hx hb dM_one0_43 rfl (lv_at hl 3 rfl) ?_
  obtain ⟨hPc, hDc, hFc⟩ := xcut (wc := [(a0, .inr (5, [.int 0, .ref a4, .int 0, v19, .int 0, v21, v22, .int 0, v24, .int 0, v26, v27, .int 0, v29, v30, v31, v32, v33, v34, v35, v36, .ref a5, .int 0, .int 1000000000, .ref a1, .ref a2, v39, v40, v41, v42, v43, v44])), (a1, .inl (cT 5, 8, .inr (.inr (.inr (.inr f45))))), (a2, .inl (cT 1, 8, .inl f48)), (a3, .inl (cT 0, 4096, .inl f50)), (a4, .inl (cT 4, 1024, .inr (.inr (.inr (.inr f55))))), (a5, .inl (cT 0, 1024, .inl f58)), (a6, .inl (cT 0, 4096, .inl f59))]) hP hD hS hA [6, 0, 1, 2, 3, 4, 5] rfl rfl (by decide)
  refine va_callv (vx_runVW (C := "ValueBenchModel") (As := [.int x7, .int 1, .int 0, .int x12, .int x12]) (rest := []) ⟨hx, hb, hml, hown, htx⟩ (cM_finish_14 l hl9 D cT aK aV H.size a0 a1 a2 a3 a4 a5 a6 x7 x12 x12 (.int 0) v19 (.int 0) v21 v22 (.int 0) v24 (.int 0) v26 v27 (.int 0) v29 v30 v31 v32 v33 v34 v35 v36 (.int 0) (.int 1000000000) v39 v40 v41 v42 v43 v44 f45 f48 f50 f55 f58 f59 h8 h9 h10 h11 h13 h14 h15 h16 (by first | rfl | exact h46 | exact h47 | exact h49 | exact h51 | exact h52 | exact h53 | exact h54 | exact h56 | exact h57) (by first | rfl | exact h46 | exact h47 | exact h49 | exact h51 | exact h52 | exact h53 | exact h54 | exact h56 | exact h57) (by first | rfl | exact h46 | exact h47 | exact h49 | exact h51 | exact h52 | exact h53 | exact h54 | exact h56 | exact h57) (by first | rfl | exact h46 | exact h47 | exact h49 | exact h51 | exact h52 | exact h53 | exact h54 | exact h56 | exact h57) (by first | rfl | exact h46 | exact h47 | exact h49 | exact h51 | exact h52 | exact h53 | exact h54 | exact h56 | exact h57) (by first | rfl | exact h46 | exact h47 | exact h49 | exact h51 | exact h52 | exact h53 | exact h54 | exact h56 | exact h57) (by first | rfl | exact h46 | exact h47 | exact h49 | exact h51 | exact h52 | exact h53 | exact h54 | exact h56 | exact h57) (by first | rfl | exact h46 | exact h47 | exact h49 | exact h51 | exact h52 | exact h53 | exact h54 | exact h56 | exact h57) (by first | rfl | exact h46 | exact h47 | exact h49 | exact h51 | exact h52 | exact h53 | exact h54 | exact h56 | exact h57)) (xcVW 5 htx (xw_goodC kw_6_195) rfl rfl rfl (htx _ kw_1_5) (htx _ kw_6_192) ⟨by decide, by decide, by decide +kernel⟩ ⟨Nat.le_of_ble_eq_true rfl, Nat.le_of_ble_eq_true rfl⟩ (htx _ kw_6_194) (htx _ kp_M_finish)) ⟨xPre_blind, va_recv hK hP (ci := 5) rfl (q0 := 6) rfl, (fun U hU hW => ⟨rfl, xPre_of hZ hS hFc hPc hDc hK U hU hW⟩)⟩ rfl rfl hl.1 rfl (lv_room (Nat.le_of_ble_eq_true rfl)) dM_one0_44 ⟨Nat.le_of_ble_eq_true rfl, Nat.le_of_ble_eq_true rfl⟩) hS (fun q _ h => hFc q h) hFc (fun u9 t H1 locs ht hvm hr9 hB hz1 hk1 hS => ?_)
  obtain ⟨q3, q4, y5, y6, y7, y8, hP1, hK1, hD1⟩ := hB
  rw [ht] at hP1
  obtain ⟨hP, hD⟩ := xjoin (W := [(a0, .inr (5, [.int 0, .ref a4, .int 2, v19, .int 0, v21, v22, .int 0, v24, .int 0, v26, v27, .int 0, v29, v30, .ref a3, .int 4, .int 4, .int 0, .int 100, v36, .ref a5, .int 4, .int 4096, .ref a1, .ref a2, v39, v40, v41, v42, v43, v44])), (a1, .inl (cT 5, 8, .inr (.inr (.inr (.inr f45))))), (a2, .inl (cT 1, 8, .inl (upd f48 x7.toNatClampNeg 4))), (a3, .inl (cT 0, 4096, .inl f50)), (a4, .inl (cT 4, 1024, .inr (.inr (.inr (.inr (va_up (va_up f55 0 (some q3)) 1 (some q4))))))), (a5, .inl (cT 0, 1024, .inl (upd (upd (upd (upd f58 0 (vp_nar .byte y5)) 1 (vp_nar .byte y6)) 2 (vp_nar .byte y7)) 3 (vp_nar .byte y8)))), (a6, .inl (cT 0, 4096, .inl (upd (upd (upd (upd f59 0 (vp_nar .byte (vp_nar .byte y5))) 1 (vp_nar .byte (vp_nar .byte y6))) 2 (vp_nar .byte (vp_nar .byte y7))) 3 (vp_nar .byte (vp_nar .byte y8))))), (q3, .inr (6, [.int 0, .long 0, .int 0, .int 0, .int 0, .int 1])), (q4, .inr (6, [.int 2, .long 0, .int 0, .int 0, .int 0, .int 1]))]) hP hD [6, 0, 1, 2, 3, 4, 5] [] 0 rfl rfl (by decide) (by decide) hk1 hFc hP1 hD1
  generalize H1 = H at hP hS ⊢
  obtain ⟨hP9, hD9⟩ := xsub (wc := [(a0, .inr (5, [.int 0, .ref a4, .int 2, v19, .int 0, v21, v22, .int 0, v24, .int 0, v26, v27, .int 0, v29, v30, .ref a3, .int 4, .int 4, .int 0, .int 100, v36, .ref a5, .int 4, .int 4096, .ref a1, .ref a2, v39, v40, v41, v42, v43, v44])), (a1, .inl (cT 5, 8, .inr (.inr (.inr (.inr f45))))), (a2, .inl (cT 1, 8, .inl (upd f48 x7.toNatClampNeg 4))), (a3, .inl (cT 0, 4096, .inl f50)), (a4, .inl (cT 4, 1024, .inr (.inr (.inr (.inr (va_up (va_up f55 0 (some q3)) 1 (some q4))))))), (a5, .inl (cT 0, 1024, .inl (upd (upd (upd (upd f58 0 (vp_nar .byte y5)) 1 (vp_nar .byte y6)) 2 (vp_nar .byte y7)) 3 (vp_nar .byte y8)))), (a6, .inl (cT 0, 4096, .inl (upd (upd (upd (upd f59 0 (vp_nar .byte (vp_nar .byte y5))) 1 (vp_nar .byte (vp_nar .byte y6))) 2 (vp_nar .byte (vp_nar .byte y7))) 3 (vp_nar .byte (vp_nar .byte y8))))), (q3, .inr (6, [.int 0, .long 0, .int 0, .int 0, .int 0, .int 1])), (q4, .inr (6, [.int 2, .long 0, .int 0, .int 0, .int 0, .int 1]))]) hP hD [0, 1, 2, 3, 4, 5, 6, 7, 8] rfl rfl (by decide)
  refine W.widen (k := 2) (n := 12) (Nat.le_of_ble_eq_true rfl) (Nat.le_of_ble_eq_true rfl) ?_
  exact W.vret hx hb hr (fun t ht hW => ⟨⟨(), rfl, trivial, q3, q4, y5, y6, y7, y8, by rw [ht]; exact hP9, va_K.moved hW.alike hK, hD9⟩, hS.F ht⟩) hS.2.2 dM_one0_47
set_option maxHeartbeats 400000000 in
set_option maxRecDepth 100000 in
theorem cB_isWithin_15 (l : Launch) (hl9 : l.stackTraces = false) (D : va_G) (cT : Nat → ClassId) (aK aV : Nat → Nat) (sz : Nat) : xMet l yB_isWithin wyB_isWithin 0 0 0 0 D cT aK aV sz [.int 1, .int 13] [] (fun A => va_Qi (fun (r : Int32) (_ : Unit) => r = 1) (fun _ t => xB D xcl cT A [] t) A) := by
  refine Met.ofW (cc := prog_1_method_15_code) (maxL := 2) (ret := (some .boolean)) (by decide) rfl ?_
  intro p e s m args below meth c s₁ B hml hv
  obtain ⟨rfl, hsz, hZ, hP, hK, hD0⟩ := hv
  have hx := B.exec
  have hb := B.bytes
  have hr := B.returns
  have hts := atoms_spec (ws := wyB_isWithin) B.pre
  have htx := fun w h => hts w (List.mem_cons_of_mem _ h)
  have hown : s.vm.findClass "ValueBench" = some m.cls := findClass_of_methodNamed B.named
  have hlocks := B.notSynchronized
  subst hsz
  have hD := hD0.self (sz := s.heap.size)
  generalize hAe : va_A [] s.heap.size = A at hD hZ ⊢
  have hA : ∀ q : Nat, s.heap.size ≤ q → A q := fun q h => by rw [← hAe]; exact Or.inr h
  have hS : va_S A s.heap s.heap [] := va_S.rf
  have hP : va_P D xcl [] s.heap := hP
  have hl := lv_entry ([.int 1, .int 13]) (n := 2) (Nat.le_of_ble_eq_true rfl)
  rw [lg_entry_eq]
  generalize (lg_sl ([.int 1, .int 13]) ++ List.replicate (2 - (lg_sl ([.int 1, .int 13])).length) Slot.unset).toArray = ls at hl ⊢
  have hl : lv_has ls 2 [(0, .int 1), (1, .int 13)] := hl
  refine lv_iload_n hx hb dB_isWithin_0 rfl (lv_at hl 0 rfl) ?_
  refine lv_if_lt (tgt := 13) hx hb dB_isWithin_1 (by decide) (fun h => ((by revert h; decide : False)).elim) (fun _ => ?_)
  refine lv_iload_n hx hb dB_isWithin_4 rfl (lv_at hl 0 rfl) ?_
  refine lv_iload_n hx hb dB_isWithin_5 rfl (lv_at hl 1 rfl) ?_
  refine lv_icmp_gt (tgt := 13) hx hb dB_isWithin_6 (by decide) (fun h => ((by revert h; decide : False)).elim) (fun _ => ?_)
  refine lv_iconst (v := 1) hx hb dB_isWithin_9 (by decide) ?_
  refine lv_goto (tgt := 14) hx hb dB_isWithin_10 (by decide) ?_
  obtain ⟨hP9, hD9⟩ := xsub (wc := []) hP hD [] rfl rfl (by decide)
  refine W.widen (k := 0) (n := 0) (Nat.le_of_ble_eq_true rfl) (Nat.le_of_ble_eq_true rfl) ?_
  exact W.zret (v := 1) hx hb hr rfl (fun t ht hW => ⟨⟨1, (), rfl, rfl, by rw [ht]; exact hP9, va_K.moved hW.alike hK, hD9⟩, hS.F ht⟩) hS.2.2 dB_isWithin_14
set_option maxHeartbeats 400000000 in
set_option maxRecDepth 100000 in
theorem cR_put_1 (l : Launch) (hl9 : l.stackTraces = false) (D : va_G) (cT : Nat → ClassId) (aK aV : Nat → Nat) (sz : Nat) (a0 : Nat) (a1 : Nat) (f2 : Nat → Int64) : xMet l yR_put wyR_put 0 0 0 0 D cT aK aV sz [.ref a0, .long 3] [(a0, .inr (2, [.ref a1, .int 0, .int 0])), (a1, .inl (cT 2, 4096, .inr (.inl f2)))] (fun A => va_Qv (fun _ : Unit => True) (fun _ t => xB D xcl cT A [(a0, .inr (2, [.ref a1, .int 1, .int 0])), (a1, .inl (cT 2, 4096, .inr (.inl (vp_updL f2 0 3))))] t) A) := by
  refine Met.ofW (cc := prog_8_method_16_code) (maxL := 3) (ret := none) (by decide) rfl ?_
  intro p e s m args below meth c s₁ B hml hv
  obtain ⟨rfl, hsz, hZ, hP, hK, hD0⟩ := hv
  have hx := B.exec
  have hb := B.bytes
  have hr := B.returns
  have hts := atoms_spec (ws := wyR_put) B.pre
  have htx := fun w h => hts w (List.mem_cons_of_mem _ h)
  have hown : s.vm.findClass "ValueBench$Row" = some m.cls := findClass_of_methodNamed B.named
  have hlocks := B.notSynchronized
  subst hsz
  have hD := hD0.self (sz := s.heap.size)
  generalize hAe : va_A [(a0, .inr (2, [.ref a1, .int 0, .int 0])), (a1, .inl (cT 2, 4096, .inr (.inl f2)))] s.heap.size = A at hD hZ ⊢
  have hA : ∀ q : Nat, s.heap.size ≤ q → A q := fun q h => by rw [← hAe]; exact Or.inr h
  have hS : va_S A s.heap s.heap [] := va_S.rf
  have hP : va_P D xcl [(a0, .inr (2, [.ref a1, .int 0, .int 0])), (a1, .inl (cT 2, 4096, .inr (.inl f2)))] s.heap := hP
  have hl := lv_entry ([.ref a0, .long 3]) (n := 3) (Nat.le_of_ble_eq_true rfl)
  rw [lg_entry_eq]
  generalize (lg_sl ([.ref a0, .long 3]) ++ List.replicate (3 - (lg_sl ([.ref a0, .long 3])).length) Slot.unset).toArray = ls at hl ⊢
  have hl : lv_has ls 3 [(0, .ref a0), (1, .long 3)] := hl
  refine lv_aload_n hx hb dR_put_0 rfl (lv_at hl 0 rfl) ?_
  refine va_get (D := D) (ci := 2) (v := .int 0) (C := "ValueBench$Row") (T := TR) (N := 3) hx hb htx inR hown hK hP 0 rfl rfl 2 (by decide) (htx _ kw_1_86) (fun _ h9 => h9) rfl dR_put_1 ?_
  refine lv_if_ne (tgt := 17) hx hb dR_put_4 (by decide) (fun h => ((by revert h; decide : False)).elim) (fun _ => ?_)
  refine lv_aload_n hx hb dR_put_7 rfl (lv_at hl 0 rfl) ?_
  refine va_get (D := D) (ci := 2) (v := .int 0) (C := "ValueBench$Row") (T := TR) (N := 3) hx hb htx inR hown hK hP 0 rfl rfl 1 (by decide) (htx _ kw_1_85) (fun _ h9 => h9) rfl dR_put_8 ?_
  refine lv_sipush (v := 4096) hx hb dR_put_11 (by decide) ?_
  refine lv_icmp_lt (tgt := 23) hx hb dR_put_14 (by decide) (fun _ => ?_) (fun h => ((by revert h; decide : False)).elim)
  refine lv_aload_n hx hb dR_put_23 rfl (lv_at hl 0 rfl) ?_
  refine va_get (D := D) (ci := 2) (v := .ref a1) (C := "ValueBench$Row") (T := TR) (N := 3) hx hb htx inR hown hK hP 0 rfl rfl 0 (by decide) (htx _ kw_1_84) (fun _ h9 => h9) rfl dR_put_24 ?_
  refine lv_aload_n hx hb dR_put_27 rfl (lv_at hl 0 rfl) ?_
  refine va_get (D := D) (ci := 2) (v := .int 0) (C := "ValueBench$Row") (T := TR) (N := 3) hx hb htx inR hown hK hP 0 rfl rfl 1 (by decide) (htx _ kw_1_85) (fun _ h9 => h9) rfl dR_put_28 ?_
  refine lv_lload_n hx hb dR_put_31 rfl (lv_at hl 1 rfl) ?_
  refine va_last hx hb hK hP hD hS 1 2 rfl rfl (show ¬ ((0 : Int32) < 0 ∨ 4096 ≤ (0 : Int32).toNatClampNeg) by decide) dR_put_32 (fun H locs hP hD hS => ?_)
  obtain ⟨hP, hD⟩ : xPD D xcl A [(a0, .inr (2, [.ref a1, .int 0, .int 0])), (a1, .inl (cT 2, 4096, .inr (.inl (vp_updL f2 0 3))))] H := ⟨hP, hD⟩
  refine lv_aload_n hx hb dR_put_33 rfl (lv_at hl 0 rfl) ?_
  refine lv_dup hx hb dR_put_34 rfl ?_
  refine va_get (D := D) (ci := 2) (v := .int 0) (C := "ValueBench$Row") (T := TR) (N := 3) hx hb htx inR hown hK hP 0 rfl rfl 1 (by decide) (htx _ kw_1_85) (fun _ h9 => h9) rfl dR_put_35 ?_
  refine lv_iconst (v := 1) hx hb dR_put_38 (by decide) ?_
  refine lv_iadd hx hb dR_put_39 ?_
  refine W.eq (g2 := F0 m 40 ls [.int 1, .ref a0]) rfl ?_
  refine va_put (D := D) (ci := 2) (v := .int 1) (ty := .int) (C := "ValueBench$Row") (T := TR) (N := 3) hx hb htx inR tyR tyR_ok nmR hown hK hP hD hS 0 rfl rfl 1 (by decide) (htx _ kw_1_85) (fun _ h9 => h9) rfl (by decide +kernel) rfl rfl (Nat.le_of_ble_eq_true rfl) dR_put_40 (fun H locs hP hD hS => ?_)
  obtain ⟨hP, hD⟩ : xPD D xcl A [(a0, .inr (2, [.ref a1, .int 1, .int 0])), (a1, .inl (cT 2, 4096, .inr (.inl (vp_updL f2 0 3))))] H := ⟨hP, hD⟩
  obtain ⟨hP9, hD9⟩ := xsub (wc := [(a0, .inr (2, [.ref a1, .int 1, .int 0])), (a1, .inl (cT 2, 4096, .inr (.inl (vp_updL f2 0 3))))]) hP hD [0, 1] rfl rfl (by decide)
  refine W.widen (k := 0) (n := 0) (Nat.le_of_ble_eq_true rfl) (Nat.le_of_ble_eq_true rfl) ?_
  exact W.vret hx hb hr (fun t ht hW => ⟨⟨(), rfl, trivial, by rw [ht]; exact hP9, va_K.moved hW.alike hK, hD9⟩, hS.F ht⟩) hS.2.2 dR_put_43
set_option maxHeartbeats 400000000 in
set_option maxRecDepth 100000 in
theorem cR_putNumber_0 (l : Launch) (hl9 : l.stackTraces = false) (D : va_G) (cT : Nat → ClassId) (aK aV : Nat → Nat) (sz : Nat) (a0 : Nat) (a1 : Nat) (f2 : Nat → Int64) : xMet l yR_putNumber wyR_putNumber 1 0 0 22 D cT aK aV sz [.ref a0, .long 0] [(a0, .inr (2, [.ref a1, .int 0, .int 0])), (a1, .inl (cT 2, 4096, .inr (.inl f2)))] (fun A => va_Qv (fun _ : Unit => True) (fun _ t => xB D xcl cT A [(a0, .inr (2, [.ref a1, .int 1, .int 0])), (a1, .inl (cT 2, 4096, .inr (.inl (vp_updL f2 0 3))))] t) A) := by
  refine Met.ofW (cc := prog_8_method_17_code) (maxL := 3) (ret := none) (by decide) rfl ?_
  intro p e s m args below meth c s₁ B hml hv
  obtain ⟨rfl, hsz, hZ, hP, hK, hD0⟩ := hv
  have hx := B.exec
  have hb := B.bytes
  have hr := B.returns
  have hts := atoms_spec (ws := wyR_putNumber) B.pre
  have htx := fun w h => hts w (List.mem_cons_of_mem _ h)
  have hown : s.vm.findClass "ValueBench$Row" = some m.cls := findClass_of_methodNamed B.named
  have hlocks := B.notSynchronized
  subst hsz
  have hD := hD0.self (sz := s.heap.size)
  generalize hAe : va_A [(a0, .inr (2, [.ref a1, .int 0, .int 0])), (a1, .inl (cT 2, 4096, .inr (.inl f2)))] s.heap.size = A at hD hZ ⊢
  have hA : ∀ q : Nat, s.heap.size ≤ q → A q := fun q h => by rw [← hAe]; exact Or.inr h
  have hS : va_S A s.heap s.heap [] := va_S.rf
  have hP : va_P D xcl [(a0, .inr (2, [.ref a1, .int 0, .int 0])), (a1, .inl (cT 2, 4096, .inr (.inl f2)))] s.heap := hP
  have hl := lv_entry ([.ref a0, .long 0]) (n := 3) (Nat.le_of_ble_eq_true rfl)
  rw [lg_entry_eq]
  generalize (lg_sl ([.ref a0, .long 0]) ++ List.replicate (3 - (lg_sl ([.ref a0, .long 0])).length) Slot.unset).toArray = ls at hl ⊢
  have hl : lv_has ls 3 [(0, .ref a0), (1, .long 0)] := hl
  refine lv_aload_n hx hb dR_putNumber_0 rfl (lv_at hl 0 rfl) ?_
  refine lv_lload_n hx hb dR_putNumber_1 rfl (lv_at hl 1 rfl) ?_
  refine lv_iconst (v := 3) hx hb dR_putNumber_2 (by decide) ?_
  refine lv_lshl hx hb dR_putNumber_3 rfl ?_
  refine W.eq (g2 := F0 m 4 ls [.long 0, .ref a0]) rfl ?_
  refine lv_ldc2 hx hb hown (htx _ kw_2_229) dR_putNumber_4 ?_
  refine lv_lor hx hb dR_putNumber_7 ?_
  refine W.eq (g2 := F0 m 8 ls [.long 3, .ref a0]) rfl ?_
  obtain ⟨hPc, hDc, hFc⟩ := xcut (wc := [(a0, .inr (2, [.ref a1, .int 0, .int 0])), (a1, .inl (cT 2, 4096, .inr (.inl f2)))]) hP hD hS hA [0, 1] rfl rfl (by decide)
  refine va_callv (va_runV (C := "ValueBench$Row") (As := [.long 3]) (rest := []) ⟨hx, hb, hml, hown, htx⟩ (cR_put_1 l hl9 D cT aK aV s.heap.size a0 a1 f2) ⟨callB_of 1 htx (xw_goodC kw_2_126) rfl rfl rfl (htx _ kw_1_4) (htx _ kw_2_137) ⟨by decide, by decide, by decide +kernel⟩ ⟨Nat.le_of_ble_eq_true rfl, Nat.le_of_ble_eq_true rfl⟩, (htx _ kw_2_124), (htx _ kw_2_125)⟩ ⟨xPre_blind, va_recv hK hP (ci := 2) rfl (q0 := 0) rfl, (fun U hU hW => ⟨rfl, xPre_of hZ hS hFc hPc hDc hK U hU hW⟩)⟩ rfl rfl hl.1 rfl (lv_room (Nat.le_of_ble_eq_true rfl)) dR_putNumber_8 ⟨Nat.le_of_ble_eq_true rfl, Nat.le_of_ble_eq_true rfl⟩) hS (fun q _ h => hFc q h) hFc (fun u9 t H1 locs ht hvm hr9 hB hz1 hk1 hS => ?_)
  obtain ⟨hP1, hK1, hD1⟩ := hB
  rw [ht] at hP1
  obtain ⟨hP, hD⟩ := xjoin (W := [(a0, .inr (2, [.ref a1, .int 1, .int 0])), (a1, .inl (cT 2, 4096, .inr (.inl (vp_updL f2 0 3))))]) hP hD [0, 1] [] 0 rfl rfl (by decide) (by decide) hk1 hFc hP1 hD1
  generalize H1 = H at hP hS ⊢
  obtain ⟨hP9, hD9⟩ := xsub (wc := [(a0, .inr (2, [.ref a1, .int 1, .int 0])), (a1, .inl (cT 2, 4096, .inr (.inl (vp_updL f2 0 3))))]) hP hD [0, 1] rfl rfl (by decide)
  refine W.widen (k := 0) (n := 0) (Nat.le_of_ble_eq_true rfl) (Nat.le_of_ble_eq_true rfl) ?_
  exact W.vret hx hb hr (fun t ht hW => ⟨⟨(), rfl, trivial, by rw [ht]; exact hP9, va_K.moved hW.alike hK, hD9⟩, hS.F ht⟩) hS.2.2 dR_putNumber_11
set_option maxHeartbeats 400000000 in
set_option maxRecDepth 100000 in
theorem cG_length_0 (l : Launch) (hl9 : l.stackTraces = false) (D : va_G) (cT : Nat → ClassId) (aK aV : Nat → Nat) (sz : Nat) (a0 : Nat) (a1 : Nat) (a2 : Nat) (a3 : Nat) (v4 : Value) (f5 : Nat → Int64) (f7 : Nat → Int64) (h6 : f5 0 = 0) : xMet l yG_length wyG_length 2 0 0 44 D cT aK aV sz [.ref a0, .ref a2] [(a0, .inr (2, [.ref a1, .int 1, v4])), (a1, .inl (cT 2, 4096, .inr (.inl f5))), (a2, .inr (2, [.ref a3, .int 0, .int 0])), (a3, .inl (cT 2, 4096, .inr (.inl f7)))] (fun A => va_Qi (fun (r : Int32) (_ : Unit) => r = 0) (fun _ t => xB D xcl cT A [(a0, .inr (2, [.ref a1, .int 1, v4])), (a1, .inl (cT 2, 4096, .inr (.inl f5))), (a2, .inr (2, [.ref a3, .int 1, .int 0])), (a3, .inl (cT 2, 4096, .inr (.inl (vp_updL f7 0 3))))] t) A) := by
  refine Met.ofW (cc := prog_9_method_4_code) (maxL := 2) (ret := (some .int)) (by decide) rfl ?_
  intro p e s m args below meth c s₁ B hml hv
  obtain ⟨rfl, hsz, hZ, hP, hK, hD0⟩ := hv
  have hx := B.exec
  have hb := B.bytes
  have hr := B.returns
  have hts := atoms_spec (ws := wyG_length) B.pre
  have htx := fun w h => hts w (List.mem_cons_of_mem _ h)
  have hown : s.vm.findClass "ValueBench$Singles" = some m.cls := findClass_of_methodNamed B.named
  have hlocks := B.notSynchronized
  subst hsz
  have hD := hD0.self (sz := s.heap.size)
  generalize hAe : va_A [(a0, .inr (2, [.ref a1, .int 1, v4])), (a1, .inl (cT 2, 4096, .inr (.inl f5))), (a2, .inr (2, [.ref a3, .int 0, .int 0])), (a3, .inl (cT 2, 4096, .inr (.inl f7)))] s.heap.size = A at hD hZ ⊢
  have hA : ∀ q : Nat, s.heap.size ≤ q → A q := fun q h => by rw [← hAe]; exact Or.inr h
  have hS : va_S A s.heap s.heap [] := va_S.rf
  have hP : va_P D xcl [(a0, .inr (2, [.ref a1, .int 1, v4])), (a1, .inl (cT 2, 4096, .inr (.inl f5))), (a2, .inr (2, [.ref a3, .int 0, .int 0])), (a3, .inl (cT 2, 4096, .inr (.inl f7)))] s.heap := hP
  have hl := lv_entry ([.ref a0, .ref a2]) (n := 2) (Nat.le_of_ble_eq_true rfl)
  rw [lg_entry_eq]
  generalize (lg_sl ([.ref a0, .ref a2]) ++ List.replicate (2 - (lg_sl ([.ref a0, .ref a2])).length) Slot.unset).toArray = ls at hl ⊢
  have hl : lv_has ls 2 [(0, .ref a0), (1, .ref a2)] := hl
  refine lv_aload_n hx hb dG_length_0 rfl (lv_at hl 0 rfl) ?_
  refine lv_iconst (v := 0) hx hb dG_length_1 (by decide) ?_
  obtain ⟨hPc, hDc, hFc⟩ := xcut (wc := [(a0, .inr (2, [.ref a1, .int 1, v4])), (a1, .inl (cT 2, 4096, .inr (.inl f5)))]) hP hD hS hA [0, 1] rfl rfl (by decide)
  refine va_calli (va_runV (C := "ValueBench$Row") (As := [.int 0]) (rest := []) ⟨hx, hb, hml, hown, htx⟩ (cR_kind_0 l hl9 D cT aK aV s.heap.size a0 a1 v4 f5 (by first | rfl | exact h6)) ⟨callB_of 1 htx (xw_goodC kw_3_24) rfl rfl rfl (htx _ kw_1_4) (htx _ kw_4_38) ⟨by decide, by decide, by decide +kernel⟩ ⟨Nat.le_of_ble_eq_true rfl, Nat.le_of_ble_eq_true rfl⟩, (htx _ kw_3_22), (htx _ kw_3_23)⟩ ⟨xPre_blind, va_recv hK hP (ci := 2) rfl (q0 := 0) rfl, (fun U hU hW => ⟨rfl, xPre_of hZ hS hFc hPc hDc hK U hU hW⟩)⟩ rfl rfl hl.1 rfl (lv_room (Nat.le_of_ble_eq_true rfl)) dG_length_2 ⟨Nat.le_of_ble_eq_true rfl, Nat.le_of_ble_eq_true rfl⟩) hS (fun q _ h => hFc q h) hFc (fun r1 u9 t H1 locs ht hvm hr9 hB hz1 hk1 hS => ?_)
  obtain ⟨hP1, hK1, hD1⟩ := hB
  rw [ht] at hP1
  obtain ⟨hP, hD⟩ := xjoin (W := [(a2, .inr (2, [.ref a3, .int 0, .int 0])), (a3, .inl (cT 2, 4096, .inr (.inl f7))), (a0, .inr (2, [.ref a1, .int 1, v4])), (a1, .inl (cT 2, 4096, .inr (.inl f5)))]) hP hD [0, 1] [2, 3] 2 rfl rfl (by decide) (by decide) hk1 hFc hP1 hD1
  generalize H1 = H at hP hS ⊢
  rw [hr9]
  refine W.eq (g2 := F0 m 5 ls [.int 0]) rfl ?_
  refine lv_tableIn (off := 33) (tgt := 38) hx hb dG_length_5 (by decide) (by decide) (by decide) (by decide) ?_
  refine lv_aload_n hx hb dG_length_38 rfl (lv_at hl 1 rfl) ?_
  refine lv_lconst (v := 0) hx hb dG_length_39 (by decide) ?_
  obtain ⟨hPc, hDc, hFc⟩ := xcut (wc := [(a2, .inr (2, [.ref a3, .int 0, .int 0])), (a3, .inl (cT 2, 4096, .inr (.inl f7)))]) hP hD hS hA [0, 1] rfl rfl (by decide)
  refine va_callv (va_runV (C := "ValueBench$Row") (As := [.long 0]) (rest := []) ⟨hx, hb, hml, hown, htx⟩ (cR_putNumber_0 l hl9 D cT aK aV H.size a2 a3 f7) ⟨callB_of 1 htx (xw_goodC kw_2_228) rfl rfl rfl (htx _ kw_1_4) (htx _ kw_4_39) ⟨by decide, by decide, by decide +kernel⟩ ⟨Nat.le_of_ble_eq_true rfl, Nat.le_of_ble_eq_true rfl⟩, (htx _ kw_2_226), (htx _ kw_2_227)⟩ ⟨xPre_blind, va_recv hK hP (ci := 2) rfl (q0 := 0) rfl, (fun U hU hW => ⟨rfl, xPre_of hZ hS hFc hPc hDc hK U hU hW⟩)⟩ rfl rfl hl.1 rfl (lv_room (Nat.le_of_ble_eq_true rfl)) dG_length_40 ⟨Nat.le_of_ble_eq_true rfl, Nat.le_of_ble_eq_true rfl⟩) hS (fun q _ h => hFc q h) hFc (fun u9 t H1 locs ht hvm hr9 hB hz1 hk1 hS => ?_)
  obtain ⟨hP1, hK1, hD1⟩ := hB
  rw [ht] at hP1
  obtain ⟨hP, hD⟩ := xjoin (W := [(a0, .inr (2, [.ref a1, .int 1, v4])), (a1, .inl (cT 2, 4096, .inr (.inl f5))), (a2, .inr (2, [.ref a3, .int 1, .int 0])), (a3, .inl (cT 2, 4096, .inr (.inl (vp_updL f7 0 3))))]) hP hD [0, 1] [2, 3] 2 rfl rfl (by decide) (by decide) hk1 hFc hP1 hD1
  generalize H1 = H at hP hS ⊢
  refine lv_iconst (v := 0) hx hb dG_length_43 (by decide) ?_
  obtain ⟨hP9, hD9⟩ := xsub (wc := [(a0, .inr (2, [.ref a1, .int 1, v4])), (a1, .inl (cT 2, 4096, .inr (.inl f5))), (a2, .inr (2, [.ref a3, .int 1, .int 0])), (a3, .inl (cT 2, 4096, .inr (.inl (vp_updL f7 0 3))))]) hP hD [0, 1, 2, 3] rfl rfl (by decide)
  refine W.widen (k := 0) (n := 0) (Nat.le_of_ble_eq_true rfl) (Nat.le_of_ble_eq_true rfl) ?_
  exact W.iret (v := 0) hx hb hr (fun t ht hW => ⟨⟨0, (), rfl, rfl, by rw [ht]; exact hP9, va_K.moved hW.alike hK, hD9⟩, hS.F ht⟩) hS.2.2 dG_length_44
set_option maxHeartbeats 400000000 in
set_option maxRecDepth 100000 in
theorem cG_apply_1 (l : Launch) (hl9 : l.stackTraces = false) (D : va_G) (cT : Nat → ClassId) (aK aV : Nat → Nat) (sz : Nat) (a0 : Nat) (a1 : Nat) (a2 : Nat) (a3 : Nat) (b4 : Nat) (b5 : Nat) (v6 : Value) (f7 : Nat → Int64) (f9 : Nat → Int64) (h8 : f7 0 = 0) : xMet l yG_apply wyG_apply 3 0 0 65 D cT aK aV sz [.int 1, .ref a0, .ref b4, .ref b5, .ref a2] [(a0, .inr (2, [.ref a1, .int 1, v6])), (a1, .inl (cT 2, 4096, .inr (.inl f7))), (a2, .inr (2, [.ref a3, .int 0, .int 0])), (a3, .inl (cT 2, 4096, .inr (.inl f9)))] (fun A => va_Qi (fun (r : Int32) (_ : Unit) => r = 0) (fun _ t => xB D xcl cT A [(a0, .inr (2, [.ref a1, .int 1, v6])), (a1, .inl (cT 2, 4096, .inr (.inl f7))), (a2, .inr (2, [.ref a3, .int 1, .int 0])), (a3, .inl (cT 2, 4096, .inr (.inl (vp_updL f9 0 3))))] t) A) := by
  refine Met.ofW (cc := prog_9_method_2_code) (maxL := 5) (ret := (some .int)) (by decide) rfl ?_
  intro p e s m args below meth c s₁ B hml hv
  obtain ⟨rfl, hsz, hZ, hP, hK, hD0⟩ := hv
  have hx := B.exec
  have hb := B.bytes
  have hr := B.returns
  have hts := atoms_spec (ws := wyG_apply) B.pre
  have htx := fun w h => hts w (List.mem_cons_of_mem _ h)
  have hown : s.vm.findClass "ValueBench$Singles" = some m.cls := findClass_of_methodNamed B.named
  have hlocks := B.notSynchronized
  subst hsz
  have hD := hD0.self (sz := s.heap.size)
  generalize hAe : va_A [(a0, .inr (2, [.ref a1, .int 1, v6])), (a1, .inl (cT 2, 4096, .inr (.inl f7))), (a2, .inr (2, [.ref a3, .int 0, .int 0])), (a3, .inl (cT 2, 4096, .inr (.inl f9)))] s.heap.size = A at hD hZ ⊢
  have hA : ∀ q : Nat, s.heap.size ≤ q → A q := fun q h => by rw [← hAe]; exact Or.inr h
  have hS : va_S A s.heap s.heap [] := va_S.rf
  have hP : va_P D xcl [(a0, .inr (2, [.ref a1, .int 1, v6])), (a1, .inl (cT 2, 4096, .inr (.inl f7))), (a2, .inr (2, [.ref a3, .int 0, .int 0])), (a3, .inl (cT 2, 4096, .inr (.inl f9)))] s.heap := hP
  have hl := lv_entry ([.int 1, .ref a0, .ref b4, .ref b5, .ref a2]) (n := 5) (Nat.le_of_ble_eq_true rfl)
  rw [lg_entry_eq]
  generalize (lg_sl ([.int 1, .ref a0, .ref b4, .ref b5, .ref a2]) ++ List.replicate (5 - (lg_sl ([.int 1, .ref a0, .ref b4, .ref b5, .ref a2])).length) Slot.unset).toArray = ls at hl ⊢
  have hl : lv_has ls 5 [(0, .int 1), (1, .ref a0), (2, .ref b4), (3, .ref b5), (4, .ref a2)] := hl
  refine lv_iload_n hx hb dG_apply_0 rfl (lv_at hl 0 rfl) ?_
  refine lv_tableIn (off := 97) (tgt := 98) hx hb dG_apply_1 (by decide) (by decide) (by decide) (by decide) ?_
  refine lv_aload_n hx hb dG_apply_98 rfl (lv_at hl 1 rfl) ?_
  refine lv_aload hx hb dG_apply_99 (lv_at hl 4 rfl) ?_
  obtain ⟨hPc, hDc, hFc⟩ := xcut (wc := [(a0, .inr (2, [.ref a1, .int 1, v6])), (a1, .inl (cT 2, 4096, .inr (.inl f7))), (a2, .inr (2, [.ref a3, .int 0, .int 0])), (a3, .inl (cT 2, 4096, .inr (.inl f9)))]) hP hD hS hA [0, 1, 2, 3] rfl rfl (by decide)
  refine va_calli (va_runS (As := [.ref a0, .ref a2]) (rest := []) ⟨hx, hb, hml, hown, htx⟩ (cG_length_0 l hl9 D cT aK aV s.heap.size a0 a1 a2 a3 v6 f7 f9 (by first | rfl | exact h8)) ⟨callB_of 2 htx (xw_goodC kw_4_37) rfl rfl rfl (htx _ kw_1_26) (htx _ kw_4_35) ⟨by decide, by decide, by decide +kernel⟩ ⟨Nat.le_of_ble_eq_true rfl, Nat.le_of_ble_eq_true rfl⟩, htx _ kw_4_36⟩ ⟨xPre_blind, (fun U hU hW => ⟨rfl, xPre_of hZ hS hFc hPc hDc hK U hU hW⟩)⟩ rfl rfl hl.1 rfl (lv_room (Nat.le_of_ble_eq_true rfl)) dG_apply_101 ⟨Nat.le_of_ble_eq_true rfl, Nat.le_of_ble_eq_true rfl⟩) hS (fun q _ h => hFc q h) hFc (fun r1 u9 t H1 locs ht hvm hr9 hB hz1 hk1 hS => ?_)
  obtain ⟨hP1, hK1, hD1⟩ := hB
  rw [ht] at hP1
  obtain ⟨hP, hD⟩ := xjoin (W := [(a0, .inr (2, [.ref a1, .int 1, v6])), (a1, .inl (cT 2, 4096, .inr (.inl f7))), (a2, .inr (2, [.ref a3, .int 1, .int 0])), (a3, .inl (cT 2, 4096, .inr (.inl (vp_updL f9 0 3))))]) hP hD [0, 1, 2, 3] [] 0 rfl rfl (by decide) (by decide) hk1 hFc hP1 hD1
  generalize H1 = H at hP hS ⊢
  rw [hr9]
  refine W.eq (g2 := F0 m 104 ls [.int 0]) rfl ?_
  obtain ⟨hP9, hD9⟩ := xsub (wc := [(a0, .inr (2, [.ref a1, .int 1, v6])), (a1, .inl (cT 2, 4096, .inr (.inl f7))), (a2, .inr (2, [.ref a3, .int 1, .int 0])), (a3, .inl (cT 2, 4096, .inr (.inl (vp_updL f9 0 3))))]) hP hD [0, 1, 2, 3] rfl rfl (by decide)
  refine W.widen (k := 0) (n := 0) (Nat.le_of_ble_eq_true rfl) (Nat.le_of_ble_eq_true rfl) ?_
  exact W.iret (v := 0) hx hb hr (fun t ht hW => ⟨⟨0, (), rfl, rfl, by rw [ht]; exact hP9, va_K.moved hW.alike hK, hD9⟩, hS.F ht⟩) hS.2.2 dG_apply_104
set_option maxHeartbeats 400000000 in
set_option maxRecDepth 100000 in
theorem cR_kind_2 (l : Launch) (hl9 : l.stackTraces = false) (D : va_G) (cT : Nat → ClassId) (aK aV : Nat → Nat) (sz : Nat) (a0 : Nat) (a1 : Nat) (v2 : Value) (f3 : Nat → Int64) (h4 : f3 0 = 3) : xMet l yR_kind wyR_kind 0 0 0 0 D cT aK aV sz [.ref a0, .int 0] [(a0, .inr (2, [.ref a1, .int 1, v2])), (a1, .inl (cT 2, 4096, .inr (.inl f3)))] (fun A => va_Qi (fun (r : Int32) (_ : Unit) => r = 3) (fun _ t => xB D xcl cT A [(a0, .inr (2, [.ref a1, .int 1, v2])), (a1, .inl (cT 2, 4096, .inr (.inl f3)))] t) A) := by
  refine Met.ofW (cc := prog_8_method_6_code) (maxL := 2) (ret := (some .int)) (by decide) rfl ?_
  intro p e s m args below meth c s₁ B hml hv
  obtain ⟨rfl, hsz, hZ, hP, hK, hD0⟩ := hv
  have hx := B.exec
  have hb := B.bytes
  have hr := B.returns
  have hts := atoms_spec (ws := wyR_kind) B.pre
  have htx := fun w h => hts w (List.mem_cons_of_mem _ h)
  have hown : s.vm.findClass "ValueBench$Row" = some m.cls := findClass_of_methodNamed B.named
  have hlocks := B.notSynchronized
  subst hsz
  have hD := hD0.self (sz := s.heap.size)
  generalize hAe : va_A [(a0, .inr (2, [.ref a1, .int 1, v2])), (a1, .inl (cT 2, 4096, .inr (.inl f3)))] s.heap.size = A at hD hZ ⊢
  have hA : ∀ q : Nat, s.heap.size ≤ q → A q := fun q h => by rw [← hAe]; exact Or.inr h
  have hS : va_S A s.heap s.heap [] := va_S.rf
  have hP : va_P D xcl [(a0, .inr (2, [.ref a1, .int 1, v2])), (a1, .inl (cT 2, 4096, .inr (.inl f3)))] s.heap := hP
  have hl := lv_entry ([.ref a0, .int 0]) (n := 2) (Nat.le_of_ble_eq_true rfl)
  rw [lg_entry_eq]
  generalize (lg_sl ([.ref a0, .int 0]) ++ List.replicate (2 - (lg_sl ([.ref a0, .int 0])).length) Slot.unset).toArray = ls at hl ⊢
  have hl : lv_has ls 2 [(0, .ref a0), (1, .int 0)] := hl
  refine lv_iload_n hx hb dR_kind_0 rfl (lv_at hl 1 rfl) ?_
  refine lv_if_lt (tgt := 25) hx hb dR_kind_1 (by decide) (fun h => ((by revert h; decide : False)).elim) (fun _ => ?_)
  refine lv_iload_n hx hb dR_kind_4 rfl (lv_at hl 1 rfl) ?_
  refine lv_aload_n hx hb dR_kind_5 rfl (lv_at hl 0 rfl) ?_
  refine va_get (D := D) (ci := 2) (v := .int 1) (C := "ValueBench$Row") (T := TR) (N := 3) hx hb htx inR hown hK hP 0 rfl rfl 1 (by decide) (htx _ kw_1_85) (fun _ h9 => h9) rfl dR_kind_6 ?_
  refine lv_icmp_ge (tgt := 25) hx hb dR_kind_9 (by decide) (fun h => ((by revert h; decide : False)).elim) (fun _ => ?_)
  refine lv_aload_n hx hb dR_kind_12 rfl (lv_at hl 0 rfl) ?_
  refine va_get (D := D) (ci := 2) (v := .ref a1) (C := "ValueBench$Row") (T := TR) (N := 3) hx hb htx inR hown hK hP 0 rfl rfl 0 (by decide) (htx _ kw_1_84) (fun _ h9 => h9) rfl dR_kind_13 ?_
  refine lv_iload_n hx hb dR_kind_16 rfl (lv_at hl 1 rfl) ?_
  refine va_lald hx hb hK hP 1 2 rfl rfl (show ¬ ((0 : Int32) < 0 ∨ 4096 ≤ (0 : Int32).toNatClampNeg) by decide) dR_kind_17 ?_
  refine W.eq (g2 := F0 m 18 ls [.long (f3 0)]) rfl ?_
  rw [h4]
  refine W.eq (g2 := F0 m 18 ls [.long 3]) rfl ?_
  refine lv_l2i hx hb dR_kind_18 rfl ?_
  refine W.eq (g2 := F0 m 19 ls [.int 3]) rfl ?_
  refine lv_bipush (v := 7) hx hb dR_kind_19 (by decide) ?_
  refine lv_iand hx hb dR_kind_21 ?_
  refine W.eq (g2 := F0 m 22 ls [.int 3]) rfl ?_
  refine lv_goto (tgt := 26) hx hb dR_kind_22 (by decide) ?_
  obtain ⟨hP9, hD9⟩ := xsub (wc := [(a0, .inr (2, [.ref a1, .int 1, v2])), (a1, .inl (cT 2, 4096, .inr (.inl f3)))]) hP hD [0, 1] rfl rfl (by decide)
  refine W.widen (k := 0) (n := 0) (Nat.le_of_ble_eq_true rfl) (Nat.le_of_ble_eq_true rfl) ?_
  exact W.iret (v := 3) hx hb hr (fun t ht hW => ⟨⟨3, (), rfl, rfl, by rw [ht]; exact hP9, va_K.moved hW.alike hK, hD9⟩, hS.F ht⟩) hS.2.2 dR_kind_26
set_option maxHeartbeats 400000000 in
set_option maxRecDepth 100000 in
theorem cR_number_0 (l : Launch) (hl9 : l.stackTraces = false) (D : va_G) (cT : Nat → ClassId) (aK aV : Nat → Nat) (sz : Nat) (a0 : Nat) (a1 : Nat) (v2 : Value) (f3 : Nat → Int64) (h4 : f3 0 = 3) : xMet l yR_number wyR_number 0 0 0 0 D cT aK aV sz [.ref a0, .int 0] [(a0, .inr (2, [.ref a1, .int 1, v2])), (a1, .inl (cT 2, 4096, .inr (.inl f3)))] (fun A => va_Ql (fun (r : Int64) (_ : Unit) => r = 0) (fun _ t => xB D xcl cT A [(a0, .inr (2, [.ref a1, .int 1, v2])), (a1, .inl (cT 2, 4096, .inr (.inl f3)))] t) A) := by
  refine Met.ofW (cc := prog_8_method_8_code) (maxL := 2) (ret := (some .long)) (by decide) rfl ?_
  intro p e s m args below meth c s₁ B hml hv
  obtain ⟨rfl, hsz, hZ, hP, hK, hD0⟩ := hv
  have hx := B.exec
  have hb := B.bytes
  have hr := B.returns
  have hts := atoms_spec (ws := wyR_number) B.pre
  have htx := fun w h => hts w (List.mem_cons_of_mem _ h)
  have hown : s.vm.findClass "ValueBench$Row" = some m.cls := findClass_of_methodNamed B.named
  have hlocks := B.notSynchronized
  subst hsz
  have hD := hD0.self (sz := s.heap.size)
  generalize hAe : va_A [(a0, .inr (2, [.ref a1, .int 1, v2])), (a1, .inl (cT 2, 4096, .inr (.inl f3)))] s.heap.size = A at hD hZ ⊢
  have hA : ∀ q : Nat, s.heap.size ≤ q → A q := fun q h => by rw [← hAe]; exact Or.inr h
  have hS : va_S A s.heap s.heap [] := va_S.rf
  have hP : va_P D xcl [(a0, .inr (2, [.ref a1, .int 1, v2])), (a1, .inl (cT 2, 4096, .inr (.inl f3)))] s.heap := hP
  have hl := lv_entry ([.ref a0, .int 0]) (n := 2) (Nat.le_of_ble_eq_true rfl)
  rw [lg_entry_eq]
  generalize (lg_sl ([.ref a0, .int 0]) ++ List.replicate (2 - (lg_sl ([.ref a0, .int 0])).length) Slot.unset).toArray = ls at hl ⊢
  have hl : lv_has ls 2 [(0, .ref a0), (1, .int 0)] := hl
  refine lv_iload_n hx hb dR_number_0 rfl (lv_at hl 1 rfl) ?_
  refine lv_if_lt (tgt := 23) hx hb dR_number_1 (by decide) (fun h => ((by revert h; decide : False)).elim) (fun _ => ?_)
  refine lv_iload_n hx hb dR_number_4 rfl (lv_at hl 1 rfl) ?_
  refine lv_aload_n hx hb dR_number_5 rfl (lv_at hl 0 rfl) ?_
  refine va_get (D := D) (ci := 2) (v := .int 1) (C := "ValueBench$Row") (T := TR) (N := 3) hx hb htx inR hown hK hP 0 rfl rfl 1 (by decide) (htx _ kw_1_85) (fun _ h9 => h9) rfl dR_number_6 ?_
  refine lv_icmp_ge (tgt := 23) hx hb dR_number_9 (by decide) (fun h => ((by revert h; decide : False)).elim) (fun _ => ?_)
  refine lv_aload_n hx hb dR_number_12 rfl (lv_at hl 0 rfl) ?_
  refine va_get (D := D) (ci := 2) (v := .ref a1) (C := "ValueBench$Row") (T := TR) (N := 3) hx hb htx inR hown hK hP 0 rfl rfl 0 (by decide) (htx _ kw_1_84) (fun _ h9 => h9) rfl dR_number_13 ?_
  refine lv_iload_n hx hb dR_number_16 rfl (lv_at hl 1 rfl) ?_
  refine va_lald hx hb hK hP 1 2 rfl rfl (show ¬ ((0 : Int32) < 0 ∨ 4096 ≤ (0 : Int32).toNatClampNeg) by decide) dR_number_17 ?_
  refine W.eq (g2 := F0 m 18 ls [.long (f3 0)]) rfl ?_
  rw [h4]
  refine W.eq (g2 := F0 m 18 ls [.long 3]) rfl ?_
  refine lv_iconst (v := 3) hx hb dR_number_18 (by decide) ?_
  refine lv_lshr hx hb dR_number_19 rfl ?_
  refine W.eq (g2 := F0 m 20 ls [.long 0]) rfl ?_
  refine lv_goto (tgt := 24) hx hb dR_number_20 (by decide) ?_
  obtain ⟨hP9, hD9⟩ := xsub (wc := [(a0, .inr (2, [.ref a1, .int 1, v2])), (a1, .inl (cT 2, 4096, .inr (.inl f3)))]) hP hD [0, 1] rfl rfl (by decide)
  refine W.widen (k := 0) (n := 0) (Nat.le_of_ble_eq_true rfl) (Nat.le_of_ble_eq_true rfl) ?_
  exact W.lret (v := 0) hx hb hr (fun t ht hW => ⟨⟨0, (), rfl, rfl, by rw [ht]; exact hP9, va_K.moved hW.alike hK, hD9⟩, hS.F ht⟩) hS.2.2 dR_number_24
set_option maxHeartbeats 400000000 in
set_option maxRecDepth 100000 in
theorem cT_add_21 (l : Launch) (hl9 : l.stackTraces = false) (D : va_G) (cT : Nat → ClassId) (aK aV : Nat → Nat) (sz : Nat) (a0 : Nat) (a1 : Nat) (x2 : Int32) (v3 : Value) (f4 : Nat → Int32) : xMet l yT_add wyT_add 0 0 0 0 D cT aK aV sz [.ref a0, .int x2] [(a0, .inr (1, [.ref a1, .int 0, v3])), (a1, .inl (cT 0, 4096, .inl f4))] (fun A => va_Qv (fun _ : Unit => True) (fun _ t => ∃ (y1 : Int32), xB D xcl cT A [(a0, .inr (1, [.ref a1, .int 1, v3])), (a1, .inl (cT 0, 4096, .inl (upd f4 0 (vp_nar .byte y1))))] t) A) := by
  refine Met.ofW (cc := prog_11_method_8_code) (maxL := 2) (ret := none) (by decide) rfl ?_
  intro p e s m args below meth c s₁ B hml hv
  obtain ⟨rfl, hsz, hZ, hP, hK, hD0⟩ := hv
  have hx := B.exec
  have hb := B.bytes
  have hr := B.returns
  have hts := atoms_spec (ws := wyT_add) B.pre
  have htx := fun w h => hts w (List.mem_cons_of_mem _ h)
  have hown : s.vm.findClass "ValueBench$Text" = some m.cls := findClass_of_methodNamed B.named
  have hlocks := B.notSynchronized
  subst hsz
  have hD := hD0.self (sz := s.heap.size)
  generalize hAe : va_A [(a0, .inr (1, [.ref a1, .int 0, v3])), (a1, .inl (cT 0, 4096, .inl f4))] s.heap.size = A at hD hZ ⊢
  have hA : ∀ q : Nat, s.heap.size ≤ q → A q := fun q h => by rw [← hAe]; exact Or.inr h
  have hS : va_S A s.heap s.heap [] := va_S.rf
  have hP : va_P D xcl [(a0, .inr (1, [.ref a1, .int 0, v3])), (a1, .inl (cT 0, 4096, .inl f4))] s.heap := hP
  have hl := lv_entry ([.ref a0, .int x2]) (n := 2) (Nat.le_of_ble_eq_true rfl)
  rw [lg_entry_eq]
  generalize (lg_sl ([.ref a0, .int x2]) ++ List.replicate (2 - (lg_sl ([.ref a0, .int x2])).length) Slot.unset).toArray = ls at hl ⊢
  have hl : lv_has ls 2 [(0, .ref a0), (1, .int x2)] := hl
  refine lv_aload_n hx hb dT_add_0 rfl (lv_at hl 0 rfl) ?_
  refine va_get (D := D) (ci := 1) (v := .int 0) (C := "ValueBench$Text") (T := TT) (N := 3) hx hb htx inT hown hK hP 0 rfl rfl 1 (by decide) (htx _ kw_1_44) (fun _ h9 => h9) rfl dT_add_1 ?_
  refine lv_sipush (v := 4096) hx hb dT_add_4 (by decide) ?_
  refine lv_icmp_lt (tgt := 16) hx hb dT_add_7 (by decide) (fun _ => ?_) (fun h => ((by revert h; decide : False)).elim)
  refine lv_aload_n hx hb dT_add_16 rfl (lv_at hl 0 rfl) ?_
  refine va_get (D := D) (ci := 1) (v := .ref a1) (C := "ValueBench$Text") (T := TT) (N := 3) hx hb htx inT hown hK hP 0 rfl rfl 0 (by decide) (htx _ kw_1_43) (fun _ h9 => h9) rfl dT_add_17 ?_
  refine lv_aload_n hx hb dT_add_20 rfl (lv_at hl 0 rfl) ?_
  refine va_get (D := D) (ci := 1) (v := .int 0) (C := "ValueBench$Text") (T := TT) (N := 3) hx hb htx inT hown hK hP 0 rfl rfl 1 (by decide) (htx _ kw_1_44) (fun _ h9 => h9) rfl dT_add_21 ?_
  refine lv_iload_n hx hb dT_add_24 rfl (lv_at hl 1 rfl) ?_
  refine lv_i2b hx hb dT_add_25 rfl ?_
  refine lv_topi (fun y1 ey1 => ?_)
  refine va_bast hx hb hK hP hD hS 1 0 rfl rfl (show ¬ ((0 : Int32) < 0 ∨ 4096 ≤ (0 : Int32).toNatClampNeg) by decide) dT_add_26 (fun H locs hP hD hS => ?_)
  obtain ⟨hP, hD⟩ : xPD D xcl A [(a0, .inr (1, [.ref a1, .int 0, v3])), (a1, .inl (cT 0, 4096, .inl (upd f4 0 (vp_nar .byte y1))))] H := ⟨hP, hD⟩
  refine lv_aload_n hx hb dT_add_27 rfl (lv_at hl 0 rfl) ?_
  refine lv_dup hx hb dT_add_28 rfl ?_
  refine va_get (D := D) (ci := 1) (v := .int 0) (C := "ValueBench$Text") (T := TT) (N := 3) hx hb htx inT hown hK hP 0 rfl rfl 1 (by decide) (htx _ kw_1_44) (fun _ h9 => h9) rfl dT_add_29 ?_
  refine lv_iconst (v := 1) hx hb dT_add_32 (by decide) ?_
  refine lv_iadd hx hb dT_add_33 ?_
  refine W.eq (g2 := F0 m 34 ls [.int 1, .ref a0]) rfl ?_
  refine va_put (D := D) (ci := 1) (v := .int 1) (ty := .int) (C := "ValueBench$Text") (T := TT) (N := 3) hx hb htx inT tyT tyT_ok nmT hown hK hP hD hS 0 rfl rfl 1 (by decide) (htx _ kw_1_44) (fun _ h9 => h9) rfl (by decide +kernel) rfl rfl (Nat.le_of_ble_eq_true rfl) dT_add_34 (fun H locs hP hD hS => ?_)
  obtain ⟨hP, hD⟩ : xPD D xcl A [(a0, .inr (1, [.ref a1, .int 1, v3])), (a1, .inl (cT 0, 4096, .inl (upd f4 0 (vp_nar .byte y1))))] H := ⟨hP, hD⟩
  obtain ⟨hP9, hD9⟩ := xsub (wc := [(a0, .inr (1, [.ref a1, .int 1, v3])), (a1, .inl (cT 0, 4096, .inl (upd f4 0 (vp_nar .byte y1))))]) hP hD [0, 1] rfl rfl (by decide)
  refine W.widen (k := 0) (n := 0) (Nat.le_of_ble_eq_true rfl) (Nat.le_of_ble_eq_true rfl) ?_
  exact W.vret hx hb hr (fun t ht hW => ⟨⟨(), rfl, trivial, y1, by rw [ht]; exact hP9, va_K.moved hW.alike hK, hD9⟩, hS.F ht⟩) hS.2.2 dT_add_37
set_option maxHeartbeats 400000000 in
set_option maxRecDepth 100000 in
theorem cT_addNumber_0 (l : Launch) (hl9 : l.stackTraces = false) (D : va_G) (cT : Nat → ClassId) (aK aV : Nat → Nat) (sz : Nat) (a0 : Nat) (a1 : Nat) (v2 : Value) (f3 : Nat → Int32) : xMet l yT_addNumber wyT_addNumber 1 0 0 40 D cT aK aV sz [.ref a0, .long 0] [(a0, .inr (1, [.ref a1, .int 0, v2])), (a1, .inl (cT 0, 4096, .inl f3))] (fun A => va_Qv (fun _ : Unit => True) (fun _ t => ∃ (y1 : Int32), xB D xcl cT A [(a0, .inr (1, [.ref a1, .int 1, v2])), (a1, .inl (cT 0, 4096, .inl (upd f3 0 (vp_nar .byte y1))))] t) A) := by
  refine Met.ofW (cc := prog_11_method_12_code) (maxL := 7) (ret := none) (by decide) rfl ?_
  intro p e s m args below meth c s₁ B hml hv
  obtain ⟨rfl, hsz, hZ, hP, hK, hD0⟩ := hv
  have hx := B.exec
  have hb := B.bytes
  have hr := B.returns
  have hts := atoms_spec (ws := wyT_addNumber) B.pre
  have htx := fun w h => hts w (List.mem_cons_of_mem _ h)
  have hown : s.vm.findClass "ValueBench$Text" = some m.cls := findClass_of_methodNamed B.named
  have hlocks := B.notSynchronized
  subst hsz
  have hD := hD0.self (sz := s.heap.size)
  generalize hAe : va_A [(a0, .inr (1, [.ref a1, .int 0, v2])), (a1, .inl (cT 0, 4096, .inl f3))] s.heap.size = A at hD hZ ⊢
  have hA : ∀ q : Nat, s.heap.size ≤ q → A q := fun q h => by rw [← hAe]; exact Or.inr h
  have hS : va_S A s.heap s.heap [] := va_S.rf
  have hP : va_P D xcl [(a0, .inr (1, [.ref a1, .int 0, v2])), (a1, .inl (cT 0, 4096, .inl f3))] s.heap := hP
  have hl := lv_entry ([.ref a0, .long 0]) (n := 7) (Nat.le_of_ble_eq_true rfl)
  rw [lg_entry_eq]
  generalize (lg_sl ([.ref a0, .long 0]) ++ List.replicate (7 - (lg_sl ([.ref a0, .long 0])).length) Slot.unset).toArray = ls at hl ⊢
  have hl : lv_has ls 7 [(0, .ref a0), (1, .long 0)] := hl
  refine lv_lload_n hx hb dT_addNumber_0 rfl (lv_at hl 1 rfl) ?_
  refine lv_lconst (v := 0) hx hb dT_addNumber_1 (by decide) ?_
  refine W.lcmp hx hb dT_addNumber_2 ?_
  refine W.eq (g2 := F0 m 3 ls [.int 0]) rfl ?_
  refine lv_if_ge (tgt := 12) hx hb dT_addNumber_3 (by decide) (fun _ => ?_) (fun h => ((by revert h; decide : False)).elim)
  refine lv_lload_n hx hb dT_addNumber_12 rfl (lv_at hl 1 rfl) ?_
  refine va_mabs_long hx hb (hml.trans hl.1.symm) hown (htx _ kw_3_42) (htx _ kw_3_43) (htx _ kw_1_15) (htx _ kw_3_44) (Nat.le_of_ble_eq_true rfl) (Nat.le_of_ble_eq_true rfl) (Nat.le_of_ble_eq_true rfl) (Nat.le_of_ble_eq_true rfl) dT_addNumber_13 ?_
  refine W.eq (g2 := F0 m 16 ls [.long 0]) rfl ?_
  refine lv_lstore_n (lv' := [(3, .long 0), (0, .ref a0), (1, .long 0)]) hx hb dT_addNumber_16 rfl hl (by decide) rfl (fun ls hl => ?_)
  refine lv_lconst (v := 1) hx hb dT_addNumber_17 (by decide) ?_
  refine lv_lstore (lv' := [(5, .long 1), (3, .long 0), (0, .ref a0), (1, .long 0)]) hx hb dT_addNumber_18 hl (by decide) rfl (fun ls hl => ?_)
  refine lv_lload hx hb dT_addNumber_20 (lv_at hl 0 rfl) ?_
  refine lv_ldc2 hx hb hown (htx _ kw_3_45) dT_addNumber_22 ?_
  refine W.lcmp hx hb dT_addNumber_25 ?_
  refine W.eq (g2 := F0 m 26 ls [.int (-1)]) rfl ?_
  refine lv_if_gt (tgt := 51) hx hb dT_addNumber_26 (by decide) (fun h => ((by revert h; decide : False)).elim) (fun _ => ?_)
  refine lv_lload_n hx hb dT_addNumber_29 rfl (lv_at hl 1 rfl) ?_
  refine lv_lload hx hb dT_addNumber_30 (lv_at hl 0 rfl) ?_
  refine lv_ldiv hx hb dT_addNumber_32 (by decide) ?_
  refine W.eq (g2 := F0 m 33 ls [.long 0]) rfl ?_
  refine lv_ldc2 hx hb hown (htx _ kw_3_46) dT_addNumber_33 ?_
  refine W.lcmp hx hb dT_addNumber_36 ?_
  refine W.eq (g2 := F0 m 37 ls [.int (-1)]) rfl ?_
  refine lv_if_lt (tgt := 51) hx hb dT_addNumber_37 (by decide) (fun _ => ?_) (fun h => ((by revert h; decide : False)).elim)
  refine lv_lload hx hb dT_addNumber_51 (lv_at hl 0 rfl) ?_
  refine lv_lconst (v := 0) hx hb dT_addNumber_53 (by decide) ?_
  refine W.lcmp hx hb dT_addNumber_54 ?_
  refine W.eq (g2 := F0 m 55 ls [.int 1]) rfl ?_
  refine lv_if_le (tgt := 86) hx hb dT_addNumber_55 (by decide) (fun h => ((by revert h; decide : False)).elim) (fun _ => ?_)
  refine lv_aload_n hx hb dT_addNumber_58 rfl (lv_at hl 2 rfl) ?_
  refine lv_ldc2 hx hb hown (htx _ kw_3_47) dT_addNumber_59 ?_
  refine lv_lload_n hx hb dT_addNumber_62 rfl (lv_at hl 1 rfl) ?_
  refine lv_lload hx hb dT_addNumber_63 (lv_at hl 0 rfl) ?_
  refine lv_ldiv hx hb dT_addNumber_65 (by decide) ?_
  refine W.eq (g2 := F0 m 66 ls [.long 0, .long 48, .ref a0]) rfl ?_
  refine lv_ldc2 hx hb hown (htx _ kw_3_46) dT_addNumber_66 ?_
  refine lv_lrem hx hb dT_addNumber_69 (by decide) ?_
  refine W.eq (g2 := F0 m 70 ls [.long 0, .long 48, .ref a0]) rfl ?_
  refine lv_ladd hx hb dT_addNumber_70 ?_
  refine W.eq (g2 := F0 m 71 ls [.long 48, .ref a0]) rfl ?_
  refine lv_l2i hx hb dT_addNumber_71 rfl ?_
  refine W.eq (g2 := F0 m 72 ls [.int 48, .ref a0]) rfl ?_
  obtain ⟨hPc, hDc, hFc⟩ := xcut (wc := [(a0, .inr (1, [.ref a1, .int 0, v2])), (a1, .inl (cT 0, 4096, .inl f3))]) hP hD hS hA [0, 1] rfl rfl (by decide)
  refine va_callv (va_runV (C := "ValueBench$Text") (As := [.int 48]) (rest := []) ⟨hx, hb, hml, hown, htx⟩ (cT_add_21 l hl9 D cT aK aV s.heap.size a0 a1 48 v2 f3) ⟨callB_of 1 htx (xw_goodC kw_1_207) rfl rfl rfl (htx _ kw_1_2) (htx _ kw_1_204) ⟨by decide, by decide, by decide +kernel⟩ ⟨Nat.le_of_ble_eq_true rfl, Nat.le_of_ble_eq_true rfl⟩, (htx _ kw_1_205), (htx _ kw_1_206)⟩ ⟨xPre_blind, va_recv hK hP (ci := 1) rfl (q0 := 0) rfl, (fun U hU hW => ⟨rfl, xPre_of hZ hS hFc hPc hDc hK U hU hW⟩)⟩ rfl rfl hl.1 rfl (lv_room (Nat.le_of_ble_eq_true rfl)) dT_addNumber_72 ⟨Nat.le_of_ble_eq_true rfl, Nat.le_of_ble_eq_true rfl⟩) hS (fun q _ h => hFc q h) hFc (fun u9 t H1 locs ht hvm hr9 hB hz1 hk1 hS => ?_)
  obtain ⟨y1, hP1, hK1, hD1⟩ := hB
  rw [ht] at hP1
  obtain ⟨hP, hD⟩ := xjoin (W := [(a0, .inr (1, [.ref a1, .int 1, v2])), (a1, .inl (cT 0, 4096, .inl (upd f3 0 (vp_nar .byte y1))))]) hP hD [0, 1] [] 0 rfl rfl (by decide) (by decide) hk1 hFc hP1 hD1
  generalize H1 = H at hP hS ⊢
  refine lv_lload hx hb dT_addNumber_75 (lv_at hl 0 rfl) ?_
  refine lv_ldc2 hx hb hown (htx _ kw_3_46) dT_addNumber_77 ?_
  refine lv_ldiv hx hb dT_addNumber_80 (by decide) ?_
  refine W.eq (g2 := F0 m 81 ls [.long 0]) rfl ?_
  refine lv_lstore (lv' := [(5, .long 0), (3, .long 0), (0, .ref a0), (1, .long 0)]) hx hb dT_addNumber_81 hl (by decide) rfl (fun ls hl => ?_)
  refine lv_goto (tgt := 51) hx hb dT_addNumber_83 (by decide) ?_
  refine lv_lload hx hb dT_addNumber_51 (lv_at hl 0 rfl) ?_
  refine lv_lconst (v := 0) hx hb dT_addNumber_53 (by decide) ?_
  refine W.lcmp hx hb dT_addNumber_54 ?_
  refine W.eq (g2 := F0 m 55 ls [.int 0]) rfl ?_
  refine lv_if_le (tgt := 86) hx hb dT_addNumber_55 (by decide) (fun _ => ?_) (fun h => ((by revert h; decide : False)).elim)
  obtain ⟨hP9, hD9⟩ := xsub (wc := [(a0, .inr (1, [.ref a1, .int 1, v2])), (a1, .inl (cT 0, 4096, .inl (upd f3 0 (vp_nar .byte y1))))]) hP hD [0, 1] rfl rfl (by decide)
  refine W.widen (k := 0) (n := 0) (Nat.le_of_ble_eq_true rfl) (Nat.le_of_ble_eq_true rfl) ?_
  exact W.vret hx hb hr (fun t ht hW => ⟨⟨(), rfl, trivial, y1, by rw [ht]; exact hP9, va_K.moved hW.alike hK, hD9⟩, hS.F ht⟩) hS.2.2 dT_addNumber_86
set_option maxHeartbeats 400000000 in
set_option maxRecDepth 100000 in
theorem cP_write_3 (l : Launch) (hl9 : l.stackTraces = false) (D : va_G) (cT : Nat → ClassId) (aK aV : Nat → Nat) (sz : Nat) (a0 : Nat) (a1 : Nat) (a2 : Nat) (a3 : Nat) (x4 : Int32) (v5 : Value) (f6 : Nat → Int64) (v8 : Value) (f9 : Nat → Int32) (h7 : f6 0 = 3) : xMet l yP_write wyP_write 2 0 0 66 D cT aK aV sz [.ref a0, .int 0, .ref a2, .int x4] [(a0, .inr (2, [.ref a1, .int 1, v5])), (a1, .inl (cT 2, 4096, .inr (.inl f6))), (a2, .inr (1, [.ref a3, .int 0, v8])), (a3, .inl (cT 0, 4096, .inl f9))] (fun A => va_Qv (fun _ : Unit => True) (fun _ t => ∃ (y3 : Int32), xB D xcl cT A [(a0, .inr (2, [.ref a1, .int 1, v5])), (a1, .inl (cT 2, 4096, .inr (.inl f6))), (a2, .inr (1, [.ref a3, .int 1, v8])), (a3, .inl (cT 0, 4096, .inl (upd f9 0 (vp_nar .byte y3))))] t) A) := by
  refine Met.ofW (cc := prog_6_method_2_code) (maxL := 4) (ret := none) (by decide) rfl ?_
  intro p e s m args below meth c s₁ B hml hv
  obtain ⟨rfl, hsz, hZ, hP, hK, hD0⟩ := hv
  have hx := B.exec
  have hb := B.bytes
  have hr := B.returns
  have hts := atoms_spec (ws := wyP_write) B.pre
  have htx := fun w h => hts w (List.mem_cons_of_mem _ h)
  have hown : s.vm.findClass "ValueBench$Printer" = some m.cls := findClass_of_methodNamed B.named
  have hlocks := B.notSynchronized
  subst hsz
  have hD := hD0.self (sz := s.heap.size)
  generalize hAe : va_A [(a0, .inr (2, [.ref a1, .int 1, v5])), (a1, .inl (cT 2, 4096, .inr (.inl f6))), (a2, .inr (1, [.ref a3, .int 0, v8])), (a3, .inl (cT 0, 4096, .inl f9))] s.heap.size = A at hD hZ ⊢
  have hA : ∀ q : Nat, s.heap.size ≤ q → A q := fun q h => by rw [← hAe]; exact Or.inr h
  have hS : va_S A s.heap s.heap [] := va_S.rf
  have hP : va_P D xcl [(a0, .inr (2, [.ref a1, .int 1, v5])), (a1, .inl (cT 2, 4096, .inr (.inl f6))), (a2, .inr (1, [.ref a3, .int 0, v8])), (a3, .inl (cT 0, 4096, .inl f9))] s.heap := hP
  have hl := lv_entry ([.ref a0, .int 0, .ref a2, .int x4]) (n := 4) (Nat.le_of_ble_eq_true rfl)
  rw [lg_entry_eq]
  generalize (lg_sl ([.ref a0, .int 0, .ref a2, .int x4]) ++ List.replicate (4 - (lg_sl ([.ref a0, .int 0, .ref a2, .int x4])).length) Slot.unset).toArray = ls at hl ⊢
  have hl : lv_has ls 4 [(0, .ref a0), (1, .int 0), (2, .ref a2), (3, .int x4)] := hl
  refine lv_aload_n hx hb dP_write_0 rfl (lv_at hl 0 rfl) ?_
  refine lv_iload_n hx hb dP_write_1 rfl (lv_at hl 1 rfl) ?_
  obtain ⟨hPc, hDc, hFc⟩ := xcut (wc := [(a0, .inr (2, [.ref a1, .int 1, v5])), (a1, .inl (cT 2, 4096, .inr (.inl f6)))]) hP hD hS hA [0, 1] rfl rfl (by decide)
  refine va_calli (va_runV (C := "ValueBench$Row") (As := [.int 0]) (rest := []) ⟨hx, hb, hml, hown, htx⟩ (cR_kind_2 l hl9 D cT aK aV s.heap.size a0 a1 v5 f6 (by first | rfl | exact h7)) ⟨callB_of 1 htx (xw_goodC kw_3_24) rfl rfl rfl (htx _ kw_1_4) (htx _ kw_3_21) ⟨by decide, by decide, by decide +kernel⟩ ⟨Nat.le_of_ble_eq_true rfl, Nat.le_of_ble_eq_true rfl⟩, (htx _ kw_3_22), (htx _ kw_3_23)⟩ ⟨xPre_blind, va_recv hK hP (ci := 2) rfl (q0 := 0) rfl, (fun U hU hW => ⟨rfl, xPre_of hZ hS hFc hPc hDc hK U hU hW⟩)⟩ rfl rfl hl.1 rfl (lv_room (Nat.le_of_ble_eq_true rfl)) dP_write_2 ⟨Nat.le_of_ble_eq_true rfl, Nat.le_of_ble_eq_true rfl⟩) hS (fun q _ h => hFc q h) hFc (fun r1 u9 t H1 locs ht hvm hr9 hB hz1 hk1 hS => ?_)
  obtain ⟨hP1, hK1, hD1⟩ := hB
  rw [ht] at hP1
  obtain ⟨hP, hD⟩ := xjoin (W := [(a2, .inr (1, [.ref a3, .int 0, v8])), (a3, .inl (cT 0, 4096, .inl f9)), (a0, .inr (2, [.ref a1, .int 1, v5])), (a1, .inl (cT 2, 4096, .inr (.inl f6)))]) hP hD [0, 1] [2, 3] 2 rfl rfl (by decide) (by decide) hk1 hFc hP1 hD1
  generalize H1 = H at hP hS ⊢
  rw [hr9]
  refine W.eq (g2 := F0 m 5 ls [.int 3]) rfl ?_
  refine lv_tableIn (off := 62) (tgt := 67) hx hb dP_write_5 (by decide) (by decide) (by decide) (by decide) ?_
  refine lv_aload_n hx hb dP_write_67 rfl (lv_at hl 2 rfl) ?_
  refine lv_aload_n hx hb dP_write_68 rfl (lv_at hl 0 rfl) ?_
  refine lv_iload_n hx hb dP_write_69 rfl (lv_at hl 1 rfl) ?_
  obtain ⟨hPc, hDc, hFc⟩ := xcut (wc := [(a0, .inr (2, [.ref a1, .int 1, v5])), (a1, .inl (cT 2, 4096, .inr (.inl f6)))]) hP hD hS hA [2, 3] rfl rfl (by decide)
  refine va_calll (va_runV (C := "ValueBench$Row") (As := [.int 0]) (rest := [.ref a2]) ⟨hx, hb, hml, hown, htx⟩ (cR_number_0 l hl9 D cT aK aV H.size a0 a1 v5 f6 (by first | rfl | exact h7)) ⟨callB_of 1 htx (xw_goodC kw_3_37) rfl rfl rfl (htx _ kw_1_4) (htx _ kw_3_34) ⟨by decide, by decide, by decide +kernel⟩ ⟨Nat.le_of_ble_eq_true rfl, Nat.le_of_ble_eq_true rfl⟩, (htx _ kw_3_35), (htx _ kw_3_36)⟩ ⟨xPre_blind, va_recv hK hP (ci := 2) rfl (q0 := 2) rfl, (fun U hU hW => ⟨rfl, xPre_of hZ hS hFc hPc hDc hK U hU hW⟩)⟩ rfl rfl hl.1 rfl (lv_room (Nat.le_of_ble_eq_true rfl)) dP_write_70 ⟨Nat.le_of_ble_eq_true rfl, Nat.le_of_ble_eq_true rfl⟩) hS (fun q _ h => hFc q h) hFc (fun r2 u9 t H1 locs ht hvm hr9 hB hz1 hk1 hS => ?_)
  obtain ⟨hP1, hK1, hD1⟩ := hB
  rw [ht] at hP1
  obtain ⟨hP, hD⟩ := xjoin (W := [(a2, .inr (1, [.ref a3, .int 0, v8])), (a3, .inl (cT 0, 4096, .inl f9)), (a0, .inr (2, [.ref a1, .int 1, v5])), (a1, .inl (cT 2, 4096, .inr (.inl f6)))]) hP hD [2, 3] [0, 1] 2 rfl rfl (by decide) (by decide) hk1 hFc hP1 hD1
  generalize H1 = H at hP hS ⊢
  rw [hr9]
  refine W.eq (g2 := F0 m 73 ls [.long 0, .ref a2]) rfl ?_
  obtain ⟨hPc, hDc, hFc⟩ := xcut (wc := [(a2, .inr (1, [.ref a3, .int 0, v8])), (a3, .inl (cT 0, 4096, .inl f9))]) hP hD hS hA [0, 1] rfl rfl (by decide)
  refine va_callv (va_runV (C := "ValueBench$Text") (As := [.long 0]) (rest := []) ⟨hx, hb, hml, hown, htx⟩ (cT_addNumber_0 l hl9 D cT aK aV H.size a2 a3 v8 f9) ⟨callB_of 1 htx (xw_goodC kw_3_41) rfl rfl rfl (htx _ kw_1_2) (htx _ kw_3_38) ⟨by decide, by decide, by decide +kernel⟩ ⟨Nat.le_of_ble_eq_true rfl, Nat.le_of_ble_eq_true rfl⟩, (htx _ kw_3_39), (htx _ kw_3_40)⟩ ⟨xPre_blind, va_recv hK hP (ci := 1) rfl (q0 := 0) rfl, (fun U hU hW => ⟨rfl, xPre_of hZ hS hFc hPc hDc hK U hU hW⟩)⟩ rfl rfl hl.1 rfl (lv_room (Nat.le_of_ble_eq_true rfl)) dP_write_73 ⟨Nat.le_of_ble_eq_true rfl, Nat.le_of_ble_eq_true rfl⟩) hS (fun q _ h => hFc q h) hFc (fun u9 t H1 locs ht hvm hr9 hB hz1 hk1 hS => ?_)
  obtain ⟨y3, hP1, hK1, hD1⟩ := hB
  rw [ht] at hP1
  obtain ⟨hP, hD⟩ := xjoin (W := [(a0, .inr (2, [.ref a1, .int 1, v5])), (a1, .inl (cT 2, 4096, .inr (.inl f6))), (a2, .inr (1, [.ref a3, .int 1, v8])), (a3, .inl (cT 0, 4096, .inl (upd f9 0 (vp_nar .byte y3))))]) hP hD [0, 1] [2, 3] 2 rfl rfl (by decide) (by decide) hk1 hFc hP1 hD1
  generalize H1 = H at hP hS ⊢
  refine lv_goto (tgt := 95) hx hb dP_write_76 (by decide) ?_
  obtain ⟨hP9, hD9⟩ := xsub (wc := [(a0, .inr (2, [.ref a1, .int 1, v5])), (a1, .inl (cT 2, 4096, .inr (.inl f6))), (a2, .inr (1, [.ref a3, .int 1, v8])), (a3, .inl (cT 0, 4096, .inl (upd f9 0 (vp_nar .byte y3))))]) hP hD [0, 1, 2, 3] rfl rfl (by decide)
  refine W.widen (k := 0) (n := 0) (Nat.le_of_ble_eq_true rfl) (Nat.le_of_ble_eq_true rfl) ?_
  exact W.vret hx hb hr (fun t ht hW => ⟨⟨(), rfl, trivial, y3, by rw [ht]; exact hP9, va_K.moved hW.alike hK, hD9⟩, hS.F ht⟩) hS.2.2 dP_write_95
set_option maxHeartbeats 400000000 in
set_option maxRecDepth 100000 in
theorem cB_keepSpare_2 (l : Launch) (hl9 : l.stackTraces = false) (D : va_G) (cT : Nat → ClassId) (aK aV : Nat → Nat) (sz : Nat) (a0 : Nat) (a1 : Nat) (a2 : Nat) (a3 : Nat) (a4 : Nat) (a5 : Nat) (x6 : Int32) (v11 : Value) (v12 : Value) (v13 : Value) (v14 : Value) (v15 : Value) (v16 : Value) (v17 : Value) (f18 : Nat → Int64) (f20 : Nat → Int32) (f21 : Nat → Option Nat) (b22 : Nat) (h7 : ¬ x6 < 0) (h8 : ¬ 7 < x6) (h9 : x6 ≤ 7) (h10 : vp_in x6 8) (h19 : f18 0 = 3) (h23 : f21 x6.toNatClampNeg = some b22) : xMet l yB_keepSpare wyB_keepSpare 3 0 0 89 D cT aK aV sz [.ref a0, .int x6] [(a0, .inr (0, [v11, v12, .ref a1, .ref a5, v13, .ref a2, v14, v15])), (a1, .inr (1, [.ref a4, v16, v17])), (a2, .inr (2, [.ref a3, .int 1, .int 0])), (a3, .inl (cT 2, 4096, .inr (.inl f18))), (a4, .inl (cT 0, 4096, .inl f20)), (a5, .inl (cT 3, 8, .inr (.inr (.inr (.inr f21)))))] (fun A => va_Qi (fun (r : Int32) (_ : Unit) => r = 1) (fun _ t => ∃ (y1 : Int32), xB D xcl cT A [(a0, .inr (0, [v11, v12, .ref a1, .ref a5, v13, .ref b22, v14, v15])), (a1, .inr (1, [.ref a4, .int 1, .int 0])), (a2, .inr (2, [.ref a3, .int 1, .int 0])), (a3, .inl (cT 2, 4096, .inr (.inl f18))), (a4, .inl (cT 0, 4096, .inl (upd f20 0 (vp_nar .byte y1)))), (a5, .inl (cT 3, 8, .inr (.inr (.inr (.inr (va_up f21 x6.toNatClampNeg (some a2)))))))] t) A) := by
  refine Met.ofW (cc := prog_1_method_18_code) (maxL := 3) (ret := (some .int)) (by decide) rfl ?_
  intro p e s m args below meth c s₁ B hml hv
  obtain ⟨rfl, hsz, hZ, hP, hK, hD0⟩ := hv
  have hx := B.exec
  have hb := B.bytes
  have hr := B.returns
  have hts := atoms_spec (ws := wyB_keepSpare) B.pre
  have htx := fun w h => hts w (List.mem_cons_of_mem _ h)
  have hown : s.vm.findClass "ValueBench" = some m.cls := findClass_of_methodNamed B.named
  have hlocks := B.notSynchronized
  subst hsz
  have hD := hD0.self (sz := s.heap.size)
  generalize hAe : va_A [(a0, .inr (0, [v11, v12, .ref a1, .ref a5, v13, .ref a2, v14, v15])), (a1, .inr (1, [.ref a4, v16, v17])), (a2, .inr (2, [.ref a3, .int 1, .int 0])), (a3, .inl (cT 2, 4096, .inr (.inl f18))), (a4, .inl (cT 0, 4096, .inl f20)), (a5, .inl (cT 3, 8, .inr (.inr (.inr (.inr f21)))))] s.heap.size = A at hD hZ ⊢
  have hA : ∀ q : Nat, s.heap.size ≤ q → A q := fun q h => by rw [← hAe]; exact Or.inr h
  have hS : va_S A s.heap s.heap [] := va_S.rf
  have hP : va_P D xcl [(a0, .inr (0, [v11, v12, .ref a1, .ref a5, v13, .ref a2, v14, v15])), (a1, .inr (1, [.ref a4, v16, v17])), (a2, .inr (2, [.ref a3, .int 1, .int 0])), (a3, .inl (cT 2, 4096, .inr (.inl f18))), (a4, .inl (cT 0, 4096, .inl f20)), (a5, .inl (cT 3, 8, .inr (.inr (.inr (.inr f21)))))] s.heap := hP
  have hl := lv_entry ([.ref a0, .int x6]) (n := 3) (Nat.le_of_ble_eq_true rfl)
  rw [lg_entry_eq]
  generalize (lg_sl ([.ref a0, .int x6]) ++ List.replicate (3 - (lg_sl ([.ref a0, .int x6])).length) Slot.unset).toArray = ls at hl ⊢
  have hl : lv_has ls 3 [(0, .ref a0), (1, .int x6)] := hl
  refine lv_aload_n hx hb dB_keepSpare_0 rfl (lv_at hl 0 rfl) ?_
  refine va_get (D := D) (ci := 0) (v := .ref a1) (C := "ValueBench") (T := TB) (N := 8) hx hb htx inB hown hK hP 0 rfl rfl 2 (by decide) (htx _ kw_1_97) (fun _ h9 => h9) rfl dB_keepSpare_1 ?_
  obtain ⟨hPc, hDc, hFc⟩ := xcut (wc := [(a1, .inr (1, [.ref a4, v16, v17]))]) hP hD hS hA [1] rfl rfl (by decide)
  refine va_callv (va_runV (C := "ValueBench$Text") (As := []) (rest := []) ⟨hx, hb, hml, hown, htx⟩ (cT_clear_0 l hl9 D cT aK aV s.heap.size a1 (.ref a4) v16 v17) ⟨callB_of 0 htx (xw_goodC kw_2_237) rfl rfl rfl (htx _ kw_1_2) (htx _ kw_2_234) ⟨by decide, by decide, by decide +kernel⟩ ⟨Nat.le_of_ble_eq_true rfl, Nat.le_of_ble_eq_true rfl⟩, (htx _ kw_2_235), (htx _ kw_2_236)⟩ ⟨xPre_blind, va_recv hK hP (ci := 1) rfl (q0 := 1) rfl, (fun U hU hW => ⟨rfl, xPre_of hZ hS hFc hPc hDc hK U hU hW⟩)⟩ rfl rfl hl.1 rfl (lv_room (Nat.le_of_ble_eq_true rfl)) dB_keepSpare_4 ⟨Nat.le_of_ble_eq_true rfl, Nat.le_of_ble_eq_true rfl⟩) hS (fun q _ h => hFc q h) hFc (fun u9 t H1 locs ht hvm hr9 hB hz1 hk1 hS => ?_)
  obtain ⟨hP1, hK1, hD1⟩ := hB
  rw [ht] at hP1
  obtain ⟨hP, hD⟩ := xjoin (W := [(a0, .inr (0, [v11, v12, .ref a1, .ref a5, v13, .ref a2, v14, v15])), (a2, .inr (2, [.ref a3, .int 1, .int 0])), (a3, .inl (cT 2, 4096, .inr (.inl f18))), (a4, .inl (cT 0, 4096, .inl f20)), (a5, .inl (cT 3, 8, .inr (.inr (.inr (.inr f21))))), (a1, .inr (1, [.ref a4, .int 0, .int 0]))]) hP hD [1] [0, 2, 3, 4, 5] 5 rfl rfl (by decide) (by decide) hk1 hFc hP1 hD1
  generalize H1 = H at hP hS ⊢
  refine lv_aload_n hx hb dB_keepSpare_7 rfl (lv_at hl 0 rfl) ?_
  refine va_get (D := D) (ci := 0) (v := .ref a2) (C := "ValueBench") (T := TB) (N := 8) hx hb htx inB hown hK hP 0 rfl rfl 5 (by decide) (htx _ kw_1_100) (fun _ h9 => h9) rfl dB_keepSpare_8 ?_
  refine lv_iconst (v := 0) hx hb dB_keepSpare_11 (by decide) ?_
  refine lv_aload_n hx hb dB_keepSpare_12 rfl (lv_at hl 0 rfl) ?_
  refine va_get (D := D) (ci := 0) (v := .ref a1) (C := "ValueBench") (T := TB) (N := 8) hx hb htx inB hown hK hP 0 rfl rfl 2 (by decide) (htx _ kw_1_97) (fun _ h9 => h9) rfl dB_keepSpare_13 ?_
  refine lv_iconst (v := 0) hx hb dB_keepSpare_16 (by decide) ?_
  obtain ⟨hPc, hDc, hFc⟩ := xcut (wc := [(a2, .inr (2, [.ref a3, .int 1, .int 0])), (a3, .inl (cT 2, 4096, .inr (.inl f18))), (a1, .inr (1, [.ref a4, .int 0, .int 0])), (a4, .inl (cT 0, 4096, .inl f20))]) hP hD hS hA [1, 2, 5, 3] rfl rfl (by decide)
  refine va_callv (va_runS (As := [.ref a2, .int 0, .ref a1, .int 0]) (rest := []) ⟨hx, hb, hml, hown, htx⟩ (cP_write_3 l hl9 D cT aK aV H.size a2 a3 a1 a4 0 (.int 0) f18 (.int 0) f20 (by first | rfl | exact h19 | exact h23)) ⟨callB_of 4 htx (xw_goodC kw_3_20) rfl rfl rfl (htx _ kw_1_18) (htx _ kw_3_18) ⟨by decide, by decide, by decide +kernel⟩ ⟨Nat.le_of_ble_eq_true rfl, Nat.le_of_ble_eq_true rfl⟩, htx _ kw_3_19⟩ ⟨xPre_blind, (fun U hU hW => ⟨rfl, xPre_of hZ hS hFc hPc hDc hK U hU hW⟩)⟩ rfl rfl hl.1 rfl (lv_room (Nat.le_of_ble_eq_true rfl)) dB_keepSpare_17 ⟨Nat.le_of_ble_eq_true rfl, Nat.le_of_ble_eq_true rfl⟩) hS (fun q _ h => hFc q h) hFc (fun u9 t H1 locs ht hvm hr9 hB hz1 hk1 hS => ?_)
  obtain ⟨y1, hP1, hK1, hD1⟩ := hB
  rw [ht] at hP1
  obtain ⟨hP, hD⟩ := xjoin (W := [(a0, .inr (0, [v11, v12, .ref a1, .ref a5, v13, .ref a2, v14, v15])), (a5, .inl (cT 3, 8, .inr (.inr (.inr (.inr f21))))), (a2, .inr (2, [.ref a3, .int 1, .int 0])), (a3, .inl (cT 2, 4096, .inr (.inl f18))), (a1, .inr (1, [.ref a4, .int 1, .int 0])), (a4, .inl (cT 0, 4096, .inl (upd f20 0 (vp_nar .byte y1))))]) hP hD [1, 2, 5, 3] [0, 4] 2 rfl rfl (by decide) (by decide) hk1 hFc hP1 hD1
  generalize H1 = H at hP hS ⊢
  refine lv_aload_n hx hb dB_keepSpare_20 rfl (lv_at hl 0 rfl) ?_
  refine va_get (D := D) (ci := 0) (v := .ref a2) (C := "ValueBench") (T := TB) (N := 8) hx hb htx inB hown hK hP 0 rfl rfl 5 (by decide) (htx _ kw_1_100) (fun _ h9 => h9) rfl dB_keepSpare_21 ?_
  obtain ⟨hPc, hDc, hFc⟩ := xcut (wc := [(a2, .inr (2, [.ref a3, .int 1, .int 0]))]) hP hD hS hA [2] rfl rfl (by decide)
  refine va_calli (va_runV (C := "ValueBench$Row") (As := []) (rest := []) ⟨hx, hb, hml, hown, htx⟩ (cR_isOver_0 l hl9 D cT aK aV H.size a2 (.ref a3) (.int 1)) ⟨callB_of 0 htx (xw_goodC kw_3_82) rfl rfl rfl (htx _ kw_1_4) (htx _ kw_3_79) ⟨by decide, by decide, by decide +kernel⟩ ⟨Nat.le_of_ble_eq_true rfl, Nat.le_of_ble_eq_true rfl⟩, (htx _ kw_3_80), (htx _ kw_3_81)⟩ ⟨xPre_blind, va_recv hK hP (ci := 2) rfl (q0 := 2) rfl, (fun U hU hW => ⟨rfl, xPre_of hZ hS hFc hPc hDc hK U hU hW⟩)⟩ rfl rfl hl.1 rfl (lv_room (Nat.le_of_ble_eq_true rfl)) dB_keepSpare_24 ⟨Nat.le_of_ble_eq_true rfl, Nat.le_of_ble_eq_true rfl⟩) hS (fun q _ h => hFc q h) hFc (fun r2 u9 t H1 locs ht hvm hr9 hB hz1 hk1 hS => ?_)
  obtain ⟨hP1, hK1, hD1⟩ := hB
  rw [ht] at hP1
  obtain ⟨hP, hD⟩ := xjoin (W := [(a0, .inr (0, [v11, v12, .ref a1, .ref a5, v13, .ref a2, v14, v15])), (a5, .inl (cT 3, 8, .inr (.inr (.inr (.inr f21))))), (a3, .inl (cT 2, 4096, .inr (.inl f18))), (a1, .inr (1, [.ref a4, .int 1, .int 0])), (a4, .inl (cT 0, 4096, .inl (upd f20 0 (vp_nar .byte y1)))), (a2, .inr (2, [.ref a3, .int 1, .int 0]))]) hP hD [2] [0, 1, 3, 4, 5] 5 rfl rfl (by decide) (by decide) hk1 hFc hP1 hD1
  generalize H1 = H at hP hS ⊢
  rw [hr9]
  refine W.eq (g2 := F0 m 27 ls [.int 0]) rfl ?_
  refine lv_if_ne (tgt := 40) hx hb dB_keepSpare_27 (by decide) (fun h => ((by revert h; decide : False)).elim) (fun _ => ?_)
  refine lv_aload_n hx hb dB_keepSpare_30 rfl (lv_at hl 0 rfl) ?_
  refine va_get (D := D) (ci := 0) (v := .ref a1) (C := "ValueBench") (T := TB) (N := 8) hx hb htx inB hown hK hP 0 rfl rfl 2 (by decide) (htx _ kw_1_97) (fun _ h9 => h9) rfl dB_keepSpare_31 ?_
  obtain ⟨hPc, hDc, hFc⟩ := xcut (wc := [(a1, .inr (1, [.ref a4, .int 1, .int 0]))]) hP hD hS hA [3] rfl rfl (by decide)
  refine va_calli (va_runV (C := "ValueBench$Text") (As := []) (rest := []) ⟨hx, hb, hml, hown, htx⟩ (cT_isOver_0 l hl9 D cT aK aV H.size a1 (.ref a4) (.int 1)) ⟨callB_of 0 htx (xw_goodC kw_3_86) rfl rfl rfl (htx _ kw_1_2) (htx _ kw_3_83) ⟨by decide, by decide, by decide +kernel⟩ ⟨Nat.le_of_ble_eq_true rfl, Nat.le_of_ble_eq_true rfl⟩, (htx _ kw_3_84), (htx _ kw_3_85)⟩ ⟨xPre_blind, va_recv hK hP (ci := 1) rfl (q0 := 3) rfl, (fun U hU hW => ⟨rfl, xPre_of hZ hS hFc hPc hDc hK U hU hW⟩)⟩ rfl rfl hl.1 rfl (lv_room (Nat.le_of_ble_eq_true rfl)) dB_keepSpare_34 ⟨Nat.le_of_ble_eq_true rfl, Nat.le_of_ble_eq_true rfl⟩) hS (fun q _ h => hFc q h) hFc (fun r3 u9 t H1 locs ht hvm hr9 hB hz1 hk1 hS => ?_)
  obtain ⟨hP1, hK1, hD1⟩ := hB
  rw [ht] at hP1
  obtain ⟨hP, hD⟩ := xjoin (W := [(a0, .inr (0, [v11, v12, .ref a1, .ref a5, v13, .ref a2, v14, v15])), (a5, .inl (cT 3, 8, .inr (.inr (.inr (.inr f21))))), (a3, .inl (cT 2, 4096, .inr (.inl f18))), (a4, .inl (cT 0, 4096, .inl (upd f20 0 (vp_nar .byte y1)))), (a2, .inr (2, [.ref a3, .int 1, .int 0])), (a1, .inr (1, [.ref a4, .int 1, .int 0]))]) hP hD [3] [0, 1, 2, 4, 5] 5 rfl rfl (by decide) (by decide) hk1 hFc hP1 hD1
  generalize H1 = H at hP hS ⊢
  rw [hr9]
  refine W.eq (g2 := F0 m 37 ls [.int 0]) rfl ?_
  refine lv_if_eq (tgt := 50) hx hb dB_keepSpare_37 (by decide) (fun _ => ?_) (fun h => ((by revert h; decide : False)).elim)
  refine lv_aload_n hx hb dB_keepSpare_50 rfl (lv_at hl 0 rfl) ?_
  refine va_get (D := D) (ci := 0) (v := .ref a5) (C := "ValueBench") (T := TB) (N := 8) hx hb htx inB hown hK hP 0 rfl rfl 3 (by decide) (htx _ kw_1_98) (fun _ h9 => h9) rfl dB_keepSpare_51 ?_
  refine lv_iload_n hx hb dB_keepSpare_54 rfl (lv_at hl 1 rfl) ?_
  refine va_aldq hx hb hK hP 1 3 rfl rfl h10 dB_keepSpare_55 ?_
  refine W.eq (g2 := F0 m 56 ls [va_rf (f21 x6.toNatClampNeg)]) rfl ?_
  rw [h23]
  refine W.eq (g2 := F0 m 56 ls [.ref b22]) rfl ?_
  refine lv_astore_n (lv' := [(2, .ref b22), (0, .ref a0), (1, .int x6)]) hx hb dB_keepSpare_56 rfl hl (by decide) rfl (fun ls hl => ?_)
  refine lv_aload_n hx hb dB_keepSpare_57 rfl (lv_at hl 1 rfl) ?_
  refine va_get (D := D) (ci := 0) (v := .ref a5) (C := "ValueBench") (T := TB) (N := 8) hx hb htx inB hown hK hP 0 rfl rfl 3 (by decide) (htx _ kw_1_98) (fun _ h9 => h9) rfl dB_keepSpare_58 ?_
  refine lv_iload_n hx hb dB_keepSpare_61 rfl (lv_at hl 2 rfl) ?_
  refine lv_aload_n hx hb dB_keepSpare_62 rfl (lv_at hl 1 rfl) ?_
  refine va_get (D := D) (ci := 0) (v := .ref a2) (C := "ValueBench") (T := TB) (N := 8) hx hb htx inB hown hK hP 0 rfl rfl 5 (by decide) (htx _ kw_1_100) (fun _ h9 => h9) rfl dB_keepSpare_63 ?_
  refine va_astq (r := ("ValueBench$Row", TR, 3)) hx hb hK hP hD hS 1 3 4 2 rfl rfl rfl rfl h10 dB_keepSpare_66 (fun H locs hP hD hS => ?_)
  obtain ⟨hP, hD⟩ : xPD D xcl A [(a0, .inr (0, [v11, v12, .ref a1, .ref a5, v13, .ref a2, v14, v15])), (a5, .inl (cT 3, 8, .inr (.inr (.inr (.inr (va_up f21 x6.toNatClampNeg (some a2))))))), (a3, .inl (cT 2, 4096, .inr (.inl f18))), (a4, .inl (cT 0, 4096, .inl (upd f20 0 (vp_nar .byte y1)))), (a2, .inr (2, [.ref a3, .int 1, .int 0])), (a1, .inr (1, [.ref a4, .int 1, .int 0]))] H := ⟨hP, hD⟩
  refine lv_aload_n hx hb dB_keepSpare_67 rfl (lv_at hl 1 rfl) ?_
  refine lv_aload_n hx hb dB_keepSpare_68 rfl (lv_at hl 0 rfl) ?_
  refine va_put (D := D) (ci := 0) (v := .ref b22) (ty := (.object "ValueBench$Row")) (C := "ValueBench") (T := TB) (N := 8) hx hb htx inB tyB tyB_ok nmB hown hK hP hD hS 0 rfl rfl 5 (by decide) (htx _ kw_1_100) (fun _ h9 => h9) rfl (by decide +kernel) rfl rfl (Nat.le_of_ble_eq_true rfl) dB_keepSpare_69 (fun H locs hP hD hS => ?_)
  obtain ⟨hP, hD⟩ : xPD D xcl A [(a0, .inr (0, [v11, v12, .ref a1, .ref a5, v13, .ref b22, v14, v15])), (a5, .inl (cT 3, 8, .inr (.inr (.inr (.inr (va_up f21 x6.toNatClampNeg (some a2))))))), (a3, .inl (cT 2, 4096, .inr (.inl f18))), (a4, .inl (cT 0, 4096, .inl (upd f20 0 (vp_nar .byte y1)))), (a2, .inr (2, [.ref a3, .int 1, .int 0])), (a1, .inr (1, [.ref a4, .int 1, .int 0]))] H := ⟨hP, hD⟩
  refine lv_aload_n hx hb dB_keepSpare_72 rfl (lv_at hl 1 rfl) ?_
  refine va_get (D := D) (ci := 0) (v := .ref a1) (C := "ValueBench") (T := TB) (N := 8) hx hb htx inB hown hK hP 0 rfl rfl 2 (by decide) (htx _ kw_1_97) (fun _ h9 => h9) rfl dB_keepSpare_73 ?_
  obtain ⟨hPc, hDc, hFc⟩ := xcut (wc := [(a1, .inr (1, [.ref a4, .int 1, .int 0]))]) hP hD hS hA [5] rfl rfl (by decide)
  refine va_calli (va_runV (C := "ValueBench$Text") (As := []) (rest := []) ⟨hx, hb, hml, hown, htx⟩ (cT_size_2 l hl9 D cT aK aV H.size a1 (.ref a4) 1 (.int 0)) ⟨callB_of 0 htx (xw_goodC kw_1_131) rfl rfl rfl (htx _ kw_1_2) (htx _ kw_1_128) ⟨by decide, by decide, by decide +kernel⟩ ⟨Nat.le_of_ble_eq_true rfl, Nat.le_of_ble_eq_true rfl⟩, (htx _ kw_1_129), (htx _ kw_1_130)⟩ ⟨xPre_blind, va_recv hK hP (ci := 1) rfl (q0 := 5) rfl, (fun U hU hW => ⟨rfl, xPre_of hZ hS hFc hPc hDc hK U hU hW⟩)⟩ rfl rfl hl.1 rfl (lv_room (Nat.le_of_ble_eq_true rfl)) dB_keepSpare_76 ⟨Nat.le_of_ble_eq_true rfl, Nat.le_of_ble_eq_true rfl⟩) hS (fun q _ h => hFc q h) hFc (fun r4 u9 t H1 locs ht hvm hr9 hB hz1 hk1 hS => ?_)
  obtain ⟨hP1, hK1, hD1⟩ := hB
  rw [ht] at hP1
  obtain ⟨hP, hD⟩ := xjoin (W := [(a0, .inr (0, [v11, v12, .ref a1, .ref a5, v13, .ref b22, v14, v15])), (a5, .inl (cT 3, 8, .inr (.inr (.inr (.inr (va_up f21 x6.toNatClampNeg (some a2))))))), (a3, .inl (cT 2, 4096, .inr (.inl f18))), (a4, .inl (cT 0, 4096, .inl (upd f20 0 (vp_nar .byte y1)))), (a2, .inr (2, [.ref a3, .int 1, .int 0])), (a1, .inr (1, [.ref a4, .int 1, .int 0]))]) hP hD [5] [0, 1, 2, 3, 4] 5 rfl rfl (by decide) (by decide) hk1 hFc hP1 hD1
  generalize H1 = H at hP hS ⊢
  rw [hr9]
  refine W.eq (g2 := F0 m 79 ls [.int 1]) rfl ?_
  obtain ⟨hP9, hD9⟩ := xsub (wc := [(a0, .inr (0, [v11, v12, .ref a1, .ref a5, v13, .ref b22, v14, v15])), (a1, .inr (1, [.ref a4, .int 1, .int 0])), (a2, .inr (2, [.ref a3, .int 1, .int 0])), (a3, .inl (cT 2, 4096, .inr (.inl f18))), (a4, .inl (cT 0, 4096, .inl (upd f20 0 (vp_nar .byte y1)))), (a5, .inl (cT 3, 8, .inr (.inr (.inr (.inr (va_up f21 x6.toNatClampNeg (some a2)))))))]) hP hD [0, 5, 4, 2, 3, 1] rfl rfl (by decide)
  refine W.widen (k := 0) (n := 0) (Nat.le_of_ble_eq_true rfl) (Nat.le_of_ble_eq_true rfl) ?_
  exact W.iret (v := 1) hx hb hr (fun t ht hW => ⟨⟨1, (), rfl, rfl, y1, by rw [ht]; exact hP9, va_K.moved hW.alike hK, hD9⟩, hS.F ht⟩) hS.2.2 dB_keepSpare_79
set_option maxHeartbeats 400000000 in
set_option maxRecDepth 100000 in
theorem cB_one_7 (l : Launch) (hl9 : l.stackTraces = false) (D : va_G) (cT : Nat → ClassId) (aK aV : Nat → Nat) (sz : Nat) (a0 : Nat) (a1 : Nat) (a2 : Nat) (a3 : Nat) (a4 : Nat) (a5 : Nat) (a6 : Nat) (a7 : Nat) (x8 : Int32) (x13 : Int32) (v18 : Value) (v19 : Value) (b20 : Nat) (v21 : Value) (v22 : Value) (v23 : Value) (v24 : Value) (f25 : Nat → Option Nat) (b27 : Nat) (v29 : Value) (f30 : Nat → Int64) (f32 : Nat → Int64) (v33 : Value) (v34 : Value) (f35 : Nat → Int32) (h9 : ¬ x8 < 0) (h10 : ¬ 7 < x8) (h11 : x8 ≤ 7) (h12 : vp_in x8 8) (h14 : ¬ x13 < 0) (h15 : ¬ 7 < x13) (h16 : x13 ≤ 7) (h17 : vp_in x13 8) (h26 : f25 x13.toNatClampNeg = some a3) (h28 : f25 x8.toNatClampNeg = some b27) (h31 : f30 0 = 0) : xMet l yB_one wyB_one 4 0 0 111 D cT aK aV sz [.ref a0, .int x8, .int 1, .int x13] [(a0, .inr (0, [v18, v19, .ref a6, .ref a2, .ref b20, .ref a1, v21, v22])), (a1, .inr (2, [.ref a5, v23, v24])), (a2, .inl (cT 3, 8, .inr (.inr (.inr (.inr f25))))), (a3, .inr (2, [.ref a4, .int 1, v29])), (a4, .inl (cT 2, 4096, .inr (.inl f30))), (a5, .inl (cT 2, 4096, .inr (.inl f32))), (a6, .inr (1, [.ref a7, v33, v34])), (a7, .inl (cT 0, 4096, .inl f35))] (fun A => va_Qv (fun _ : Unit => True) (fun _ t => ∃ (y6 : Int32), xB D xcl cT A [(a0, .inr (0, [v18, v19, .ref a6, .ref a2, .ref b20, .ref b27, v21, v22])), (a1, .inr (2, [.ref a5, .int 1, .int 0])), (a2, .inl (cT 3, 8, .inr (.inr (.inr (.inr (va_up f25 x8.toNatClampNeg (some a1))))))), (a3, .inr (2, [.ref a4, .int 1, v29])), (a4, .inl (cT 2, 4096, .inr (.inl f30))), (a5, .inl (cT 2, 4096, .inr (.inl (vp_updL f32 0 3)))), (a6, .inr (1, [.ref a7, .int 1, .int 0])), (a7, .inl (cT 0, 4096, .inl (upd f35 0 (vp_nar .byte y6))))] t) A) := by
  refine Met.ofW (cc := prog_1_method_9_code) (maxL := 4) (ret := none) (by decide) rfl ?_
  intro p e s m args below meth c s₁ B hml hv
  obtain ⟨rfl, hsz, hZ, hP, hK, hD0⟩ := hv
  have hx := B.exec
  have hb := B.bytes
  have hr := B.returns
  have hts := atoms_spec (ws := wyB_one) B.pre
  have htx := fun w h => hts w (List.mem_cons_of_mem _ h)
  have hown : s.vm.findClass "ValueBench" = some m.cls := findClass_of_methodNamed B.named
  have hlocks := B.notSynchronized
  subst hsz
  have hD := hD0.self (sz := s.heap.size)
  generalize hAe : va_A [(a0, .inr (0, [v18, v19, .ref a6, .ref a2, .ref b20, .ref a1, v21, v22])), (a1, .inr (2, [.ref a5, v23, v24])), (a2, .inl (cT 3, 8, .inr (.inr (.inr (.inr f25))))), (a3, .inr (2, [.ref a4, .int 1, v29])), (a4, .inl (cT 2, 4096, .inr (.inl f30))), (a5, .inl (cT 2, 4096, .inr (.inl f32))), (a6, .inr (1, [.ref a7, v33, v34])), (a7, .inl (cT 0, 4096, .inl f35))] s.heap.size = A at hD hZ ⊢
  have hA : ∀ q : Nat, s.heap.size ≤ q → A q := fun q h => by rw [← hAe]; exact Or.inr h
  have hS : va_S A s.heap s.heap [] := va_S.rf
  have hP : va_P D xcl [(a0, .inr (0, [v18, v19, .ref a6, .ref a2, .ref b20, .ref a1, v21, v22])), (a1, .inr (2, [.ref a5, v23, v24])), (a2, .inl (cT 3, 8, .inr (.inr (.inr (.inr f25))))), (a3, .inr (2, [.ref a4, .int 1, v29])), (a4, .inl (cT 2, 4096, .inr (.inl f30))), (a5, .inl (cT 2, 4096, .inr (.inl f32))), (a6, .inr (1, [.ref a7, v33, v34])), (a7, .inl (cT 0, 4096, .inl f35))] s.heap := hP
  have hl := lv_entry ([.ref a0, .int x8, .int 1, .int x13]) (n := 4) (Nat.le_of_ble_eq_true rfl)
  rw [lg_entry_eq]
  generalize (lg_sl ([.ref a0, .int x8, .int 1, .int x13]) ++ List.replicate (4 - (lg_sl ([.ref a0, .int x8, .int 1, .int x13])).length) Slot.unset).toArray = ls at hl ⊢
  have hl : lv_has ls 4 [(0, .ref a0), (1, .int x8), (2, .int 1), (3, .int x13)] := hl
  refine lv_iload_n hx hb dB_one_0 rfl (lv_at hl 1 rfl) ?_
  obtain ⟨hPc, hDc, hFc⟩ := xcut (wc := []) hP hD hS hA [] rfl rfl (by decide)
  refine va_calli (va_runS (As := [.int x8]) (rest := []) ⟨hx, hb, hml, hown, htx⟩ (cB_isRegister_2 l hl9 D cT aK aV s.heap.size x8 h9 h10 h11 h12) ⟨callB_of 1 htx (xw_goodC kw_2_18) rfl rfl rfl (htx _ kw_1_1) (htx _ kw_2_16) ⟨by decide, by decide, by decide +kernel⟩ ⟨Nat.le_of_ble_eq_true rfl, Nat.le_of_ble_eq_true rfl⟩, htx _ kw_2_17⟩ ⟨xPre_blind, (fun U hU hW => ⟨rfl, xPre_of hZ hS hFc hPc hDc hK U hU hW⟩)⟩ rfl rfl hl.1 rfl (lv_room (Nat.le_of_ble_eq_true rfl)) dB_one_1 ⟨Nat.le_of_ble_eq_true rfl, Nat.le_of_ble_eq_true rfl⟩) hS (fun q _ h => hFc q h) hFc (fun r1 u9 t H1 locs ht hvm hr9 hB hz1 hk1 hS => ?_)
  obtain ⟨hP1, hK1, hD1⟩ := hB
  rw [ht] at hP1
  obtain ⟨hP, hD⟩ := xjoin (W := [(a0, .inr (0, [v18, v19, .ref a6, .ref a2, .ref b20, .ref a1, v21, v22])), (a1, .inr (2, [.ref a5, v23, v24])), (a2, .inl (cT 3, 8, .inr (.inr (.inr (.inr f25))))), (a3, .inr (2, [.ref a4, .int 1, v29])), (a4, .inl (cT 2, 4096, .inr (.inl f30))), (a5, .inl (cT 2, 4096, .inr (.inl f32))), (a6, .inr (1, [.ref a7, v33, v34])), (a7, .inl (cT 0, 4096, .inl f35))]) hP hD [] [0, 1, 2, 3, 4, 5, 6, 7] 8 rfl rfl (by decide) (by decide) hk1 hFc hP1 hD1
  generalize H1 = H at hP hS ⊢
  rw [hr9]
  refine W.eq (g2 := F0 m 4 ls [.int 1]) rfl ?_
  refine lv_if_eq (tgt := 27) hx hb dB_one_4 (by decide) (fun h => ((by revert h; decide : False)).elim) (fun _ => ?_)
  refine lv_iload_n hx hb dB_one_7 rfl (lv_at hl 2 rfl) ?_
  refine lv_bipush (v := 13) hx hb dB_one_8 (by decide) ?_
  obtain ⟨hPc, hDc, hFc⟩ := xcut (wc := []) hP hD hS hA [] rfl rfl (by decide)
  refine va_calli (va_runS (As := [.int 1, .int 13]) (rest := []) ⟨hx, hb, hml, hown, htx⟩ (cB_isWithin_15 l hl9 D cT aK aV H.size) ⟨callB_of 2 htx (xw_goodC kw_1_218) rfl rfl rfl (htx _ kw_1_1) (htx _ kw_1_216) ⟨by decide, by decide, by decide +kernel⟩ ⟨Nat.le_of_ble_eq_true rfl, Nat.le_of_ble_eq_true rfl⟩, htx _ kw_1_217⟩ ⟨xPre_blind, (fun U hU hW => ⟨rfl, xPre_of hZ hS hFc hPc hDc hK U hU hW⟩)⟩ rfl rfl hl.1 rfl (lv_room (Nat.le_of_ble_eq_true rfl)) dB_one_10 ⟨Nat.le_of_ble_eq_true rfl, Nat.le_of_ble_eq_true rfl⟩) hS (fun q _ h => hFc q h) hFc (fun r2 u9 t H1 locs ht hvm hr9 hB hz1 hk1 hS => ?_)
  obtain ⟨hP1, hK1, hD1⟩ := hB
  rw [ht] at hP1
  obtain ⟨hP, hD⟩ := xjoin (W := [(a0, .inr (0, [v18, v19, .ref a6, .ref a2, .ref b20, .ref a1, v21, v22])), (a1, .inr (2, [.ref a5, v23, v24])), (a2, .inl (cT 3, 8, .inr (.inr (.inr (.inr f25))))), (a3, .inr (2, [.ref a4, .int 1, v29])), (a4, .inl (cT 2, 4096, .inr (.inl f30))), (a5, .inl (cT 2, 4096, .inr (.inl f32))), (a6, .inr (1, [.ref a7, v33, v34])), (a7, .inl (cT 0, 4096, .inl f35))]) hP hD [] [0, 1, 2, 3, 4, 5, 6, 7] 8 rfl rfl (by decide) (by decide) hk1 hFc hP1 hD1
  generalize H1 = H at hP hS ⊢
  rw [hr9]
  refine W.eq (g2 := F0 m 13 ls [.int 1]) rfl ?_
  refine lv_if_eq (tgt := 27) hx hb dB_one_13 (by decide) (fun h => ((by revert h; decide : False)).elim) (fun _ => ?_)
  refine lv_iload_n hx hb dB_one_16 rfl (lv_at hl 3 rfl) ?_
  obtain ⟨hPc, hDc, hFc⟩ := xcut (wc := []) hP hD hS hA [] rfl rfl (by decide)
  refine va_calli (va_runS (As := [.int x13]) (rest := []) ⟨hx, hb, hml, hown, htx⟩ (cB_isRegister_2 l hl9 D cT aK aV H.size x13 h14 h15 h16 h17) ⟨callB_of 1 htx (xw_goodC kw_2_18) rfl rfl rfl (htx _ kw_1_1) (htx _ kw_2_16) ⟨by decide, by decide, by decide +kernel⟩ ⟨Nat.le_of_ble_eq_true rfl, Nat.le_of_ble_eq_true rfl⟩, htx _ kw_2_17⟩ ⟨xPre_blind, (fun U hU hW => ⟨rfl, xPre_of hZ hS hFc hPc hDc hK U hU hW⟩)⟩ rfl rfl hl.1 rfl (lv_room (Nat.le_of_ble_eq_true rfl)) dB_one_17 ⟨Nat.le_of_ble_eq_true rfl, Nat.le_of_ble_eq_true rfl⟩) hS (fun q _ h => hFc q h) hFc (fun r3 u9 t H1 locs ht hvm hr9 hB hz1 hk1 hS => ?_)
  obtain ⟨hP1, hK1, hD1⟩ := hB
  rw [ht] at hP1
  obtain ⟨hP, hD⟩ := xjoin (W := [(a0, .inr (0, [v18, v19, .ref a6, .ref a2, .ref b20, .ref a1, v21, v22])), (a1, .inr (2, [.ref a5, v23, v24])), (a2, .inl (cT 3, 8, .inr (.inr (.inr (.inr f25))))), (a3, .inr (2, [.ref a4, .int 1, v29])), (a4, .inl (cT 2, 4096, .inr (.inl f30))), (a5, .inl (cT 2, 4096, .inr (.inl f32))), (a6, .inr (1, [.ref a7, v33, v34])), (a7, .inl (cT 0, 4096, .inl f35))]) hP hD [] [0, 1, 2, 3, 4, 5, 6, 7] 8 rfl rfl (by decide) (by decide) hk1 hFc hP1 hD1
  generalize H1 = H at hP hS ⊢
  rw [hr9]
  refine W.eq (g2 := F0 m 20 ls [.int 1]) rfl ?_
  refine lv_if_eq (tgt := 27) hx hb dB_one_20 (by decide) (fun h => ((by revert h; decide : False)).elim) (fun _ => ?_)
  refine lv_iconst (v := 1) hx hb dB_one_23 (by decide) ?_
  refine lv_goto (tgt := 28) hx hb dB_one_24 (by decide) ?_
  obtain ⟨hPc, hDc, hFc⟩ := xcut (wc := []) hP hD hS hA [] rfl rfl (by decide)
  refine va_callv (va_runS (As := [.int 1]) (rest := []) ⟨hx, hb, hml, hown, htx⟩ (cB_demand_1 l hl9 D cT aK aV H.size) ⟨callB_of 1 htx (xw_goodC kw_1_221) rfl rfl rfl (htx _ kw_1_1) (htx _ kw_1_219) ⟨by decide, by decide, by decide +kernel⟩ ⟨Nat.le_of_ble_eq_true rfl, Nat.le_of_ble_eq_true rfl⟩, htx _ kw_1_220⟩ ⟨xPre_blind, (fun U hU hW => ⟨rfl, xPre_of hZ hS hFc hPc hDc hK U hU hW⟩)⟩ rfl rfl hl.1 rfl (lv_room (Nat.le_of_ble_eq_true rfl)) dB_one_28 ⟨Nat.le_of_ble_eq_true rfl, Nat.le_of_ble_eq_true rfl⟩) hS (fun q _ h => hFc q h) hFc (fun u9 t H1 locs ht hvm hr9 hB hz1 hk1 hS => ?_)
  obtain ⟨hP1, hK1, hD1⟩ := hB
  rw [ht] at hP1
  obtain ⟨hP, hD⟩ := xjoin (W := [(a0, .inr (0, [v18, v19, .ref a6, .ref a2, .ref b20, .ref a1, v21, v22])), (a1, .inr (2, [.ref a5, v23, v24])), (a2, .inl (cT 3, 8, .inr (.inr (.inr (.inr f25))))), (a3, .inr (2, [.ref a4, .int 1, v29])), (a4, .inl (cT 2, 4096, .inr (.inl f30))), (a5, .inl (cT 2, 4096, .inr (.inl f32))), (a6, .inr (1, [.ref a7, v33, v34])), (a7, .inl (cT 0, 4096, .inl f35))]) hP hD [] [0, 1, 2, 3, 4, 5, 6, 7] 8 rfl rfl (by decide) (by decide) hk1 hFc hP1 hD1
  generalize H1 = H at hP hS ⊢
  refine lv_aload_n hx hb dB_one_31 rfl (lv_at hl 0 rfl) ?_
  refine va_get (D := D) (ci := 0) (v := .ref a1) (C := "ValueBench") (T := TB) (N := 8) hx hb htx inB hown hK hP 0 rfl rfl 5 (by decide) (htx _ kw_1_100) (fun _ h9 => h9) rfl dB_one_32 ?_
  obtain ⟨hPc, hDc, hFc⟩ := xcut (wc := [(a1, .inr (2, [.ref a5, v23, v24]))]) hP hD hS hA [1] rfl rfl (by decide)
  refine va_callv (va_runV (C := "ValueBench$Row") (As := []) (rest := []) ⟨hx, hb, hml, hown, htx⟩ (cR_clear_0 l hl9 D cT aK aV H.size a1 (.ref a5) v23 v24) ⟨callB_of 0 htx (xw_goodC kw_2_22) rfl rfl rfl (htx _ kw_1_4) (htx _ kw_2_19) ⟨by decide, by decide, by decide +kernel⟩ ⟨Nat.le_of_ble_eq_true rfl, Nat.le_of_ble_eq_true rfl⟩, (htx _ kw_2_20), (htx _ kw_2_21)⟩ ⟨xPre_blind, va_recv hK hP (ci := 2) rfl (q0 := 1) rfl, (fun U hU hW => ⟨rfl, xPre_of hZ hS hFc hPc hDc hK U hU hW⟩)⟩ rfl rfl hl.1 rfl (lv_room (Nat.le_of_ble_eq_true rfl)) dB_one_35 ⟨Nat.le_of_ble_eq_true rfl, Nat.le_of_ble_eq_true rfl⟩) hS (fun q _ h => hFc q h) hFc (fun u9 t H1 locs ht hvm hr9 hB hz1 hk1 hS => ?_)
  obtain ⟨hP1, hK1, hD1⟩ := hB
  rw [ht] at hP1
  obtain ⟨hP, hD⟩ := xjoin (W := [(a0, .inr (0, [v18, v19, .ref a6, .ref a2, .ref b20, .ref a1, v21, v22])), (a2, .inl (cT 3, 8, .inr (.inr (.inr (.inr f25))))), (a3, .inr (2, [.ref a4, .int 1, v29])), (a4, .inl (cT 2, 4096, .inr (.inl f30))), (a5, .inl (cT 2, 4096, .inr (.inl f32))), (a6, .inr (1, [.ref a7, v33, v34])), (a7, .inl (cT 0, 4096, .inl f35)), (a1, .inr (2, [.ref a5, .int 0, .int 0]))]) hP hD [1] [0, 2, 3, 4, 5, 6, 7] 7 rfl rfl (by decide) (by decide) hk1 hFc hP1 hD1
  generalize H1 = H at hP hS ⊢
  refine lv_aload_n hx hb dB_one_38 rfl (lv_at hl 0 rfl) ?_
  refine lv_iload_n hx hb dB_one_39 rfl (lv_at hl 2 rfl) ?_
  refine lv_aload_n hx hb dB_one_40 rfl (lv_at hl 0 rfl) ?_
  refine va_get (D := D) (ci := 0) (v := .ref a2) (C := "ValueBench") (T := TB) (N := 8) hx hb htx inB hown hK hP 0 rfl rfl 3 (by decide) (htx _ kw_1_98) (fun _ h9 => h9) rfl dB_one_41 ?_
  refine lv_iload_n hx hb dB_one_44 rfl (lv_at hl 3 rfl) ?_
  refine va_aldq hx hb hK hP 1 3 rfl rfl h17 dB_one_45 ?_
  refine W.eq (g2 := F0 m 46 ls [va_rf (f25 x13.toNatClampNeg), .int 1, .ref a0]) rfl ?_
  rw [h26]
  refine W.eq (g2 := F0 m 46 ls [.ref a3, .int 1, .ref a0]) rfl ?_
  refine lv_aload_n hx hb dB_one_46 rfl (lv_at hl 0 rfl) ?_
  refine va_get (D := D) (ci := 0) (v := .ref a6) (C := "ValueBench") (T := TB) (N := 8) hx hb htx inB hown hK hP 0 rfl rfl 2 (by decide) (htx _ kw_1_97) (fun _ h9 => h9) rfl dB_one_47 ?_
  refine lv_aload_n hx hb dB_one_50 rfl (lv_at hl 0 rfl) ?_
  refine va_get (D := D) (ci := 0) (v := .ref b20) (C := "ValueBench") (T := TB) (N := 8) hx hb htx inB hown hK hP 0 rfl rfl 4 (by decide) (htx _ kw_1_99) (fun _ h9 => h9) rfl dB_one_51 ?_
  refine lv_aload_n hx hb dB_one_54 rfl (lv_at hl 0 rfl) ?_
  refine va_get (D := D) (ci := 0) (v := .ref a1) (C := "ValueBench") (T := TB) (N := 8) hx hb htx inB hown hK hP 0 rfl rfl 5 (by decide) (htx _ kw_1_100) (fun _ h9 => h9) rfl dB_one_55 ?_
  obtain ⟨hPc, hDc, hFc⟩ := xcut (wc := [(a3, .inr (2, [.ref a4, .int 1, v29])), (a4, .inl (cT 2, 4096, .inr (.inl f30))), (a1, .inr (2, [.ref a5, .int 0, .int 0])), (a5, .inl (cT 2, 4096, .inr (.inl f32)))]) hP hD hS hA [2, 3, 7, 4] rfl rfl (by decide)
  refine va_calli (va_runS (As := [.int 1, .ref a3, .ref a6, .ref b20, .ref a1]) (rest := [.ref a0]) ⟨hx, hb, hml, hown, htx⟩ (cG_apply_1 l hl9 D cT aK aV H.size a3 a4 a1 a5 a6 b20 v29 f30 f32 (by first | rfl | exact h26 | exact h28 | exact h31)) ⟨callB_of 5 htx (xw_goodC kw_4_28) rfl rfl rfl (htx _ kw_1_26) (htx _ kw_4_26) ⟨by decide, by decide, by decide +kernel⟩ ⟨Nat.le_of_ble_eq_true rfl, Nat.le_of_ble_eq_true rfl⟩, htx _ kw_4_27⟩ ⟨xPre_blind, (fun U hU hW => ⟨rfl, xPre_of hZ hS hFc hPc hDc hK U hU hW⟩)⟩ rfl rfl hl.1 rfl (lv_room (Nat.le_of_ble_eq_true rfl)) dB_one_58 ⟨Nat.le_of_ble_eq_true rfl, Nat.le_of_ble_eq_true rfl⟩) hS (fun q _ h => hFc q h) hFc (fun r4 u9 t H1 locs ht hvm hr9 hB hz1 hk1 hS => ?_)
  obtain ⟨hP1, hK1, hD1⟩ := hB
  rw [ht] at hP1
  obtain ⟨hP, hD⟩ := xjoin (W := [(a0, .inr (0, [v18, v19, .ref a6, .ref a2, .ref b20, .ref a1, v21, v22])), (a2, .inl (cT 3, 8, .inr (.inr (.inr (.inr f25))))), (a6, .inr (1, [.ref a7, v33, v34])), (a7, .inl (cT 0, 4096, .inl f35)), (a3, .inr (2, [.ref a4, .int 1, v29])), (a4, .inl (cT 2, 4096, .inr (.inl f30))), (a1, .inr (2, [.ref a5, .int 1, .int 0])), (a5, .inl (cT 2, 4096, .inr (.inl (vp_updL f32 0 3))))]) hP hD [2, 3, 7, 4] [0, 1, 5, 6] 4 rfl rfl (by decide) (by decide) hk1 hFc hP1 hD1
  generalize H1 = H at hP hS ⊢
  rw [hr9]
  refine W.eq (g2 := F0 m 61 ls [.int 0, .ref a0]) rfl ?_
  obtain ⟨hPc, hDc, hFc⟩ := xcut (wc := []) hP hD hS hA [] rfl rfl (by decide)
  refine va_callv (va_runV (C := "ValueBench") (As := [.int 0]) (rest := []) ⟨hx, hb, hml, hown, htx⟩ (cB_demandDone_0 l hl9 D cT aK aV H.size a0) ⟨callB_of 1 htx (xw_goodC kw_3_222) rfl rfl rfl (htx _ kw_1_1) (htx _ kw_3_219) ⟨by decide, by decide, by decide +kernel⟩ ⟨Nat.le_of_ble_eq_true rfl, Nat.le_of_ble_eq_true rfl⟩, (htx _ kw_3_221), (htx _ kp_B_demandDone)⟩ ⟨xPre_blind, va_recv hK hP (ci := 0) rfl (q0 := 0) rfl, (fun U hU hW => ⟨rfl, xPre_of hZ hS hFc hPc hDc hK U hU hW⟩)⟩ rfl rfl hl.1 rfl (lv_room (Nat.le_of_ble_eq_true rfl)) dB_one_61 ⟨Nat.le_of_ble_eq_true rfl, Nat.le_of_ble_eq_true rfl⟩) hS (fun q _ h => hFc q h) hFc (fun u9 t H1 locs ht hvm hr9 hB hz1 hk1 hS => ?_)
  obtain ⟨hP1, hK1, hD1⟩ := hB
  rw [ht] at hP1
  obtain ⟨hP, hD⟩ := xjoin (W := [(a0, .inr (0, [v18, v19, .ref a6, .ref a2, .ref b20, .ref a1, v21, v22])), (a2, .inl (cT 3, 8, .inr (.inr (.inr (.inr f25))))), (a6, .inr (1, [.ref a7, v33, v34])), (a7, .inl (cT 0, 4096, .inl f35)), (a3, .inr (2, [.ref a4, .int 1, v29])), (a4, .inl (cT 2, 4096, .inr (.inl f30))), (a1, .inr (2, [.ref a5, .int 1, .int 0])), (a5, .inl (cT 2, 4096, .inr (.inl (vp_updL f32 0 3))))]) hP hD [] [0, 1, 2, 3, 4, 5, 6, 7] 8 rfl rfl (by decide) (by decide) hk1 hFc hP1 hD1
  generalize H1 = H at hP hS ⊢
  refine lv_aload_n hx hb dB_one_64 rfl (lv_at hl 0 rfl) ?_
  refine lv_iload_n hx hb dB_one_65 rfl (lv_at hl 1 rfl) ?_
  obtain ⟨hPc, hDc, hFc⟩ := xcut (wc := [(a0, .inr (0, [v18, v19, .ref a6, .ref a2, .ref b20, .ref a1, v21, v22])), (a6, .inr (1, [.ref a7, v33, v34])), (a1, .inr (2, [.ref a5, .int 1, .int 0])), (a5, .inl (cT 2, 4096, .inr (.inl (vp_updL f32 0 3)))), (a7, .inl (cT 0, 4096, .inl f35)), (a2, .inl (cT 3, 8, .inr (.inr (.inr (.inr f25)))))]) hP hD hS hA [0, 2, 6, 7, 3, 1] rfl rfl (by decide)
  refine va_calli (va_runV (C := "ValueBench") (As := [.int x8]) (rest := []) ⟨hx, hb, hml, hown, htx⟩ (cB_keepSpare_2 l hl9 D cT aK aV H.size a0 a6 a1 a5 a7 a2 x8 v18 v19 (.ref b20) v21 v22 v33 v34 (vp_updL f32 0 3) f35 f25 b27 h9 h10 h11 h12 (by first | rfl | exact h26 | exact h28 | exact h31) (by first | rfl | exact h26 | exact h28 | exact h31)) ⟨callB_of 1 htx (xw_goodC kw_3_17) rfl rfl rfl (htx _ kw_1_1) (htx _ kw_3_14) ⟨by decide, by decide, by decide +kernel⟩ ⟨Nat.le_of_ble_eq_true rfl, Nat.le_of_ble_eq_true rfl⟩, (htx _ kw_3_16), (htx _ kp_B_keepSpare)⟩ ⟨xPre_blind, va_recv hK hP (ci := 0) rfl (q0 := 0) rfl, (fun U hU hW => ⟨rfl, xPre_of hZ hS hFc hPc hDc hK U hU hW⟩)⟩ rfl rfl hl.1 rfl (lv_room (Nat.le_of_ble_eq_true rfl)) dB_one_66 ⟨Nat.le_of_ble_eq_true rfl, Nat.le_of_ble_eq_true rfl⟩) hS (fun q _ h => hFc q h) hFc (fun r5 u9 t H1 locs ht hvm hr9 hB hz1 hk1 hS => ?_)
  obtain ⟨y6, hP1, hK1, hD1⟩ := hB
  rw [ht] at hP1
  obtain ⟨hP, hD⟩ := xjoin (W := [(a3, .inr (2, [.ref a4, .int 1, v29])), (a4, .inl (cT 2, 4096, .inr (.inl f30))), (a0, .inr (0, [v18, v19, .ref a6, .ref a2, .ref b20, .ref b27, v21, v22])), (a6, .inr (1, [.ref a7, .int 1, .int 0])), (a1, .inr (2, [.ref a5, .int 1, .int 0])), (a5, .inl (cT 2, 4096, .inr (.inl (vp_updL f32 0 3)))), (a7, .inl (cT 0, 4096, .inl (upd f35 0 (vp_nar .byte y6)))), (a2, .inl (cT 3, 8, .inr (.inr (.inr (.inr (va_up f25 x8.toNatClampNeg (some a1)))))))]) hP hD [0, 2, 6, 7, 3, 1] [4, 5] 2 rfl rfl (by decide) (by decide) hk1 hFc hP1 hD1
  generalize H1 = H at hP hS ⊢
  rw [hr9]
  refine W.eq (g2 := F0 m 69 ls [.int 1]) rfl ?_
  refine lv_pop hx hb dB_one_69 rfl ?_
  obtain ⟨hP9, hD9⟩ := xsub (wc := [(a0, .inr (0, [v18, v19, .ref a6, .ref a2, .ref b20, .ref b27, v21, v22])), (a1, .inr (2, [.ref a5, .int 1, .int 0])), (a2, .inl (cT 3, 8, .inr (.inr (.inr (.inr (va_up f25 x8.toNatClampNeg (some a1))))))), (a3, .inr (2, [.ref a4, .int 1, v29])), (a4, .inl (cT 2, 4096, .inr (.inl f30))), (a5, .inl (cT 2, 4096, .inr (.inl (vp_updL f32 0 3)))), (a6, .inr (1, [.ref a7, .int 1, .int 0])), (a7, .inl (cT 0, 4096, .inl (upd f35 0 (vp_nar .byte y6))))]) hP hD [2, 4, 7, 0, 1, 5, 3, 6] rfl rfl (by decide)
  refine W.widen (k := 0) (n := 0) (Nat.le_of_ble_eq_true rfl) (Nat.le_of_ble_eq_true rfl) ?_
  exact W.vret hx hb hr (fun t ht hW => ⟨⟨(), rfl, trivial, y6, by rw [ht]; exact hP9, va_K.moved hW.alike hK, hD9⟩, hS.F ht⟩) hS.2.2 dB_one_70
set_option maxHeartbeats 400000000 in
set_option maxRecDepth 100000 in
theorem cL_one_7 (l : Launch) (hl9 : l.stackTraces = false) (D : va_G) (cT : Nat → ClassId) (aK aV : Nat → Nat) (sz : Nat) (a0 : Nat) (a1 : Nat) (a2 : Nat) (a3 : Nat) (a4 : Nat) (a5 : Nat) (a6 : Nat) (a7 : Nat) (x8 : Int32) (x13 : Int32) (v18 : Value) (v19 : Value) (b20 : Nat) (v21 : Value) (v22 : Value) (v23 : Value) (v24 : Value) (f25 : Nat → Option Nat) (b27 : Nat) (v29 : Value) (f30 : Nat → Int64) (f32 : Nat → Int64) (v33 : Value) (v34 : Value) (f35 : Nat → Int32) (h9 : ¬ x8 < 0) (h10 : ¬ 7 < x8) (h11 : x8 ≤ 7) (h12 : vp_in x8 8) (h14 : ¬ x13 < 0) (h15 : ¬ 7 < x13) (h16 : x13 ≤ 7) (h17 : vp_in x13 8) (h26 : f25 x13.toNatClampNeg = some a3) (h28 : f25 x8.toNatClampNeg = some b27) (h31 : f30 0 = 0) : xMet l yL_one wyL_one 5 0 0 134 D cT aK aV sz [.ref a0, .int x8, .int 1, .int x13] [(a0, .inr (0, [v18, v19, .ref a6, .ref a2, .ref b20, .ref a1, v21, v22])), (a1, .inr (2, [.ref a5, v23, v24])), (a2, .inl (cT 3, 8, .inr (.inr (.inr (.inr f25))))), (a3, .inr (2, [.ref a4, .int 1, v29])), (a4, .inl (cT 2, 4096, .inr (.inl f30))), (a5, .inl (cT 2, 4096, .inr (.inl f32))), (a6, .inr (1, [.ref a7, v33, v34])), (a7, .inl (cT 0, 4096, .inl f35))] (fun A => va_Qi (fun (r : Int32) (_ : Unit) => r = 0) (fun _ t => ∃ (y1 : Int32), xB D xcl cT A [(a0, .inr (0, [v18, v19, .ref a6, .ref a2, .ref b20, .ref b27, v21, v22])), (a1, .inr (2, [.ref a5, .int 1, .int 0])), (a2, .inl (cT 3, 8, .inr (.inr (.inr (.inr (va_up f25 x8.toNatClampNeg (some a1))))))), (a3, .inr (2, [.ref a4, .int 1, v29])), (a4, .inl (cT 2, 4096, .inr (.inl f30))), (a5, .inl (cT 2, 4096, .inr (.inl (vp_updL f32 0 3)))), (a6, .inr (1, [.ref a7, .int 1, .int 0])), (a7, .inl (cT 0, 4096, .inl (upd f35 0 (vp_nar .byte y1))))] t) A) := by
  refine va_MetW (cc := method_10_code) (maxL := 5) (ret := (some .int)) (hh := [(0, 7, 10, 19), (0, 7, 14, 33), (0, 7, 18, 13)]) (by decide) rfl ?_
  intro p e s m args below meth c s₁ B hml hv
  obtain ⟨rfl, hsz, hZ, hP, hK, hD0⟩ := hv
  have hx := B.exec
  have hb := B.bytes
  have hr := B.returns
  have hts := atoms_spec (ws := wyL_one) B.pre
  have htx := fun w h => hts w (List.mem_cons_of_mem _ h)
  have hown : s.vm.findClass "ValueBenchLaw" = some m.cls := findClass_of_methodNamed B.named
  have hlocks := B.notSynchronized
  subst hsz
  have hD := hD0.self (sz := s.heap.size)
  generalize hAe : va_A [(a0, .inr (0, [v18, v19, .ref a6, .ref a2, .ref b20, .ref a1, v21, v22])), (a1, .inr (2, [.ref a5, v23, v24])), (a2, .inl (cT 3, 8, .inr (.inr (.inr (.inr f25))))), (a3, .inr (2, [.ref a4, .int 1, v29])), (a4, .inl (cT 2, 4096, .inr (.inl f30))), (a5, .inl (cT 2, 4096, .inr (.inl f32))), (a6, .inr (1, [.ref a7, v33, v34])), (a7, .inl (cT 0, 4096, .inl f35))] s.heap.size = A at hD hZ ⊢
  have hA : ∀ q : Nat, s.heap.size ≤ q → A q := fun q h => by rw [← hAe]; exact Or.inr h
  have hS : va_S A s.heap s.heap [] := va_S.rf
  have hP : va_P D xcl [(a0, .inr (0, [v18, v19, .ref a6, .ref a2, .ref b20, .ref a1, v21, v22])), (a1, .inr (2, [.ref a5, v23, v24])), (a2, .inl (cT 3, 8, .inr (.inr (.inr (.inr f25))))), (a3, .inr (2, [.ref a4, .int 1, v29])), (a4, .inl (cT 2, 4096, .inr (.inl f30))), (a5, .inl (cT 2, 4096, .inr (.inl f32))), (a6, .inr (1, [.ref a7, v33, v34])), (a7, .inl (cT 0, 4096, .inl f35))] s.heap := hP
  have hl := lv_entry ([.ref a0, .int x8, .int 1, .int x13]) (n := 5) (Nat.le_of_ble_eq_true rfl)
  rw [lg_entry_eq]
  generalize (lg_sl ([.ref a0, .int x8, .int 1, .int x13]) ++ List.replicate (5 - (lg_sl ([.ref a0, .int x8, .int 1, .int x13])).length) Slot.unset).toArray = ls at hl ⊢
  have hl : lv_has ls 5 [(0, .ref a0), (1, .int x8), (2, .int 1), (3, .int x13)] := hl
  have htab := vx_table (x := yL_one) B (hts _ List.mem_cons_self)
  refine lv_aload_n hx hb dL_one_0 rfl (lv_at hl 0 rfl) ?_
  refine lv_iload_n hx hb dL_one_1 rfl (lv_at hl 1 rfl) ?_
  refine lv_iload_n hx hb dL_one_2 rfl (lv_at hl 2 rfl) ?_
  refine lv_iload_n hx hb dL_one_3 rfl (lv_at hl 3 rfl) ?_
  obtain ⟨hPc, hDc, hFc⟩ := xcut (wc := [(a0, .inr (0, [v18, v19, .ref a6, .ref a2, .ref b20, .ref a1, v21, v22])), (a1, .inr (2, [.ref a5, v23, v24])), (a2, .inl (cT 3, 8, .inr (.inr (.inr (.inr f25))))), (a3, .inr (2, [.ref a4, .int 1, v29])), (a4, .inl (cT 2, 4096, .inr (.inl f30))), (a5, .inl (cT 2, 4096, .inr (.inl f32))), (a6, .inr (1, [.ref a7, v33, v34])), (a7, .inl (cT 0, 4096, .inl f35))]) hP hD hS hA [0, 1, 2, 3, 4, 5, 6, 7] rfl rfl (by decide)
  refine va_callv (va_runV (C := "ValueBench") (As := [.int x8, .int 1, .int x13]) (rest := []) ⟨hx, hb, hml, hown, htx⟩ (cB_one_7 l hl9 D cT aK aV s.heap.size a0 a1 a2 a3 a4 a5 a6 a7 x8 x13 v18 v19 b20 v21 v22 v23 v24 f25 b27 v29 f30 f32 v33 v34 f35 h9 h10 h11 h12 h14 h15 h16 h17 (by first | rfl | exact h26 | exact h28 | exact h31) (by first | rfl | exact h26 | exact h28 | exact h31) (by first | rfl | exact h26 | exact h28 | exact h31)) ⟨callB_of 3 htx (xw_goodC kw_4_25) rfl rfl rfl (htx _ kw_1_1) (htx _ kw_4_22) ⟨by decide, by decide, by decide +kernel⟩ ⟨Nat.le_of_ble_eq_true rfl, Nat.le_of_ble_eq_true rfl⟩, (htx _ kw_4_23), (htx _ kw_4_24)⟩ ⟨xPre_blind, va_recv hK hP (ci := 0) rfl (q0 := 0) rfl, (fun U hU hW => ⟨rfl, xPre_of hZ hS hFc hPc hDc hK U hU hW⟩)⟩ rfl rfl hl.1 rfl (lv_room (Nat.le_of_ble_eq_true rfl)) dL_one_4 ⟨Nat.le_of_ble_eq_true rfl, Nat.le_of_ble_eq_true rfl⟩) hS (fun q _ h => hFc q h) hFc (fun u9 t H1 locs ht hvm hr9 hB hz1 hk1 hS => ?_)
  obtain ⟨y1, hP1, hK1, hD1⟩ := hB
  rw [ht] at hP1
  obtain ⟨hP, hD⟩ := xjoin (W := [(a0, .inr (0, [v18, v19, .ref a6, .ref a2, .ref b20, .ref b27, v21, v22])), (a1, .inr (2, [.ref a5, .int 1, .int 0])), (a2, .inl (cT 3, 8, .inr (.inr (.inr (.inr (va_up f25 x8.toNatClampNeg (some a1))))))), (a3, .inr (2, [.ref a4, .int 1, v29])), (a4, .inl (cT 2, 4096, .inr (.inl f30))), (a5, .inl (cT 2, 4096, .inr (.inl (vp_updL f32 0 3)))), (a6, .inr (1, [.ref a7, .int 1, .int 0])), (a7, .inl (cT 0, 4096, .inl (upd f35 0 (vp_nar .byte y1))))]) hP hD [0, 1, 2, 3, 4, 5, 6, 7] [] 0 rfl rfl (by decide) (by decide) hk1 hFc hP1 hD1
  generalize H1 = H at hP hS ⊢
  refine lv_goto (tgt := 22) hx hb dL_one_7 (by decide) ?_
  refine lv_iconst (v := 0) hx hb dL_one_22 (by decide) ?_
  obtain ⟨hP9, hD9⟩ := xsub (wc := [(a0, .inr (0, [v18, v19, .ref a6, .ref a2, .ref b20, .ref b27, v21, v22])), (a1, .inr (2, [.ref a5, .int 1, .int 0])), (a2, .inl (cT 3, 8, .inr (.inr (.inr (.inr (va_up f25 x8.toNatClampNeg (some a1))))))), (a3, .inr (2, [.ref a4, .int 1, v29])), (a4, .inl (cT 2, 4096, .inr (.inl f30))), (a5, .inl (cT 2, 4096, .inr (.inl (vp_updL f32 0 3)))), (a6, .inr (1, [.ref a7, .int 1, .int 0])), (a7, .inl (cT 0, 4096, .inl (upd f35 0 (vp_nar .byte y1))))]) hP hD [0, 1, 2, 3, 4, 5, 6, 7] rfl rfl (by decide)
  refine W.widen (k := 0) (n := 0) (Nat.le_of_ble_eq_true rfl) (Nat.le_of_ble_eq_true rfl) ?_
  exact W.iret (v := 0) hx hb hr (fun t ht hW => ⟨⟨0, (), rfl, rfl, y1, by rw [ht]; exact hP9, va_K.moved hW.alike hK, hD9⟩, hS.F ht⟩) hS.2.2 dL_one_23
set_option maxHeartbeats 400000000 in
set_option maxRecDepth 100000 in
theorem cM_fresh_4 (l : Launch) (hl9 : l.stackTraces = false) (D : va_G) (cT : Nat → ClassId) (aK aV : Nat → Nat) (sz : Nat) (a0 : Nat) (a1 : Nat) (v2 : Value) (v3 : Value) (v4 : Value) (v5 : Value) (v6 : Value) (v7 : Value) (v8 : Value) (v9 : Value) (v10 : Value) (v11 : Value) (v12 : Value) (v13 : Value) (v14 : Value) (v15 : Value) (v16 : Value) (v17 : Value) (v18 : Value) (v19 : Value) (v20 : Value) (v21 : Value) (v22 : Value) (v23 : Value) (v24 : Value) (v25 : Value) (v26 : Value) (v27 : Value) (v28 : Value) (v29 : Value) (v30 : Value) (v31 : Value) (f32 : Nat → Option Nat) (h33 : f32 1 = none) : xMet l yM_fresh wyM_fresh 2 1 6 32 D cT aK aV sz [.ref a0, .int 3] [(a0, .inr (5, [v2, .ref a1, .int 1, v3, v4, v5, v6, v7, v8, v9, v10, v11, v12, v13, v14, v15, v16, v17, v18, v19, v20, v21, v22, v23, v24, v25, v26, v27, v28, v29, v30, v31])), (a1, .inl (cT 4, 1024, .inr (.inr (.inr (.inr f32)))))] (fun A => va_Qr (fun _ : Unit => True) (fun _ q1 t => xB D xcl cT A [(a0, .inr (5, [v2, .ref a1, .int 2, v3, v4, v5, v6, v7, v8, v9, v10, v11, v12, v13, v14, v15, v16, v17, v18, v19, v20, v21, v22, v23, v24, v25, v26, v27, v28, v29, v30, v31])), (a1, .inl (cT 4, 1024, .inr (.inr (.inr (.inr (va_up f32 1 (some q1))))))), (q1, .inr (6, [.int 3, .long 0, .int 0, .int 0, .int 0, .int 1]))] t) A) := by
  refine Met.ofW (cc := prog_13_method_6_code) (maxL := 4) (ret := (some (.object "ValueBenchModel$V"))) (by decide) rfl ?_
  intro p e s m args below meth c s₁ B hml hv
  obtain ⟨rfl, hsz, hZ, hP, hK, hD0⟩ := hv
  have hx := B.exec
  have hb := B.bytes
  have hr := B.returns
  have hts := atoms_spec (ws := wyM_fresh) B.pre
  have htx := fun w h => hts w (List.mem_cons_of_mem _ h)
  have hown : s.vm.findClass "ValueBenchModel" = some m.cls := findClass_of_methodNamed B.named
  have hlocks := B.notSynchronized
  subst hsz
  have hD := hD0.self (sz := s.heap.size)
  generalize hAe : va_A [(a0, .inr (5, [v2, .ref a1, .int 1, v3, v4, v5, v6, v7, v8, v9, v10, v11, v12, v13, v14, v15, v16, v17, v18, v19, v20, v21, v22, v23, v24, v25, v26, v27, v28, v29, v30, v31])), (a1, .inl (cT 4, 1024, .inr (.inr (.inr (.inr f32)))))] s.heap.size = A at hD hZ ⊢
  have hA : ∀ q : Nat, s.heap.size ≤ q → A q := fun q h => by rw [← hAe]; exact Or.inr h
  have hS : va_S A s.heap s.heap [] := va_S.rf
  have hP : va_P D xcl [(a0, .inr (5, [v2, .ref a1, .int 1, v3, v4, v5, v6, v7, v8, v9, v10, v11, v12, v13, v14, v15, v16, v17, v18, v19, v20, v21, v22, v23, v24, v25, v26, v27, v28, v29, v30, v31])), (a1, .inl (cT 4, 1024, .inr (.inr (.inr (.inr f32)))))] s.heap := hP
  have hl := lv_entry ([.ref a0, .int 3]) (n := 4) (Nat.le_of_ble_eq_true rfl)
  rw [lg_entry_eq]
  generalize (lg_sl ([.ref a0, .int 3]) ++ List.replicate (4 - (lg_sl ([.ref a0, .int 3])).length) Slot.unset).toArray = ls at hl ⊢
  have hl : lv_has ls 4 [(0, .ref a0), (1, .int 3)] := hl
  refine lv_aload_n hx hb dM_fresh_0 rfl (lv_at hl 0 rfl) ?_
  refine va_get (D := D) (ci := 5) (v := .int 1) (C := "ValueBenchModel") (T := TM) (N := 32) hx hb htx inM hown hK hP 0 rfl rfl 2 (by decide) (htx _ kw_5_89) (fun _ h9 => h9) rfl dM_fresh_1 ?_
  refine lv_aload_n hx hb dM_fresh_4 rfl (lv_at hl 0 rfl) ?_
  refine va_get (D := D) (ci := 5) (v := .ref a1) (C := "ValueBenchModel") (T := TM) (N := 32) hx hb htx inM hown hK hP 0 rfl rfl 1 (by decide) (htx _ kw_5_88) (fun _ h9 => h9) rfl dM_fresh_5 ?_
  refine va_alen (v := 1024) hx hb hK hP 1 4 rfl rfl rfl dM_fresh_8 ?_
  refine lv_icmp_ne (tgt := 52) hx hb dM_fresh_9 (by decide) (fun _ => ?_) (fun h => ((by revert h; decide : False)).elim)
  refine lv_aload_n hx hb dM_fresh_52 rfl (lv_at hl 0 rfl) ?_
  refine va_get (D := D) (ci := 5) (v := .ref a1) (C := "ValueBenchModel") (T := TM) (N := 32) hx hb htx inM hown hK hP 0 rfl rfl 1 (by decide) (htx _ kw_5_88) (fun _ h9 => h9) rfl dM_fresh_53 ?_
  refine lv_aload_n hx hb dM_fresh_56 rfl (lv_at hl 0 rfl) ?_
  refine va_get (D := D) (ci := 5) (v := .int 1) (C := "ValueBenchModel") (T := TM) (N := 32) hx hb htx inM hown hK hP 0 rfl rfl 2 (by decide) (htx _ kw_5_89) (fun _ h9 => h9) rfl dM_fresh_57 ?_
  refine va_aldq hx hb hK hP 1 4 rfl rfl (show ¬ ((1 : Int32) < 0 ∨ 1024 ≤ (1 : Int32).toNatClampNeg) by decide) dM_fresh_60 ?_
  refine W.eq (g2 := F0 m 61 ls [va_rf (f32 1)]) rfl ?_
  rw [h33]
  refine W.eq (g2 := F0 m 61 ls [.null]) rfl ?_
  refine lv_ifnonnullN hx hb dM_fresh_61 ?_
  refine lv_aload_n hx hb dM_fresh_64 rfl (lv_at hl 0 rfl) ?_
  refine va_get (D := D) (ci := 5) (v := .ref a1) (C := "ValueBenchModel") (T := TM) (N := 32) hx hb htx inM hown hK hP 0 rfl rfl 1 (by decide) (htx _ kw_5_88) (fun _ h9 => h9) rfl dM_fresh_65 ?_
  refine lv_aload_n hx hb dM_fresh_68 rfl (lv_at hl 0 rfl) ?_
  refine va_get (D := D) (ci := 5) (v := .int 1) (C := "ValueBenchModel") (T := TM) (N := 32) hx hb htx inM hown hK hP 0 rfl rfl 2 (by decide) (htx _ kw_5_89) (fun _ h9 => h9) rfl dM_fresh_69 ?_
  refine va_new (ci := 6) (fs := [.int 0, .long 0, .int 0, .int 0, .int 0, .int 0]) (C := "ValueBenchModel$V") (T := TV) (N := 6) hx hb htx inV tyV tyV_ok hown (htx _ kw_5_80) (htx _ kw_6_17) (htx _ kw_1_19) hK hP hD hS hA rfl (by decide +kernel) (Nat.le_of_ble_eq_true rfl) (Nat.le_of_ble_eq_true rfl) dM_fresh_72 (fun q1 H hP hD hS => ?_)
  obtain ⟨hP, hD⟩ : xPD D xcl A [(a0, .inr (5, [v2, .ref a1, .int 1, v3, v4, v5, v6, v7, v8, v9, v10, v11, v12, v13, v14, v15, v16, v17, v18, v19, v20, v21, v22, v23, v24, v25, v26, v27, v28, v29, v30, v31])), (a1, .inl (cT 4, 1024, .inr (.inr (.inr (.inr f32))))), (q1, .inr (6, [.int 0, .long 0, .int 0, .int 0, .int 0, .int 0]))] H := ⟨hP, hD⟩
  refine lv_dup hx hb dM_fresh_75 rfl ?_
  obtain ⟨hPc, hDc, hFc⟩ := xcut (wc := []) hP hD hS hA [] rfl rfl (by decide)
  refine va_callv (va_runIN (As := []) (rest := [.ref q1, .int 1, .ref a1]) ⟨hx, hb, hml, hown, htx⟩ (cV_init_0 l hl9 D cT aK aV H.size q1) ⟨va_cnB (host := "ValueBenchModel") 0 htx (xw_goodC kw_6_20) rfl rfl rfl (hZ.2.1 ("ValueBenchModel", 92, yV_init) (List.mem_of_getElem? (i := 3) rfl)) (htx _ kw_1_19) ⟨by decide, by decide, by decide +kernel⟩ ⟨Nat.le_of_ble_eq_true rfl, Nat.le_of_ble_eq_true rfl⟩, rfl, (htx _ kw_6_19)⟩ ⟨xPre_blind, (fun U hU hW => ⟨rfl, xPre_of hZ hS hFc hPc hDc hK U hU hW⟩)⟩ rfl rfl hl.1 rfl (lv_room (Nat.le_of_ble_eq_true rfl)) dM_fresh_76 ⟨Nat.le_of_ble_eq_true rfl, Nat.le_of_ble_eq_true rfl⟩) hS (fun q _ h => hFc q h) hFc (fun u9 t H1 locs ht hvm hr9 hB hz1 hk1 hS => ?_)
  obtain ⟨hP1, hK1, hD1⟩ := hB
  rw [ht] at hP1
  obtain ⟨hP, hD⟩ := xjoin (W := [(a0, .inr (5, [v2, .ref a1, .int 1, v3, v4, v5, v6, v7, v8, v9, v10, v11, v12, v13, v14, v15, v16, v17, v18, v19, v20, v21, v22, v23, v24, v25, v26, v27, v28, v29, v30, v31])), (a1, .inl (cT 4, 1024, .inr (.inr (.inr (.inr f32))))), (q1, .inr (6, [.int 0, .long 0, .int 0, .int 0, .int 0, .int 0]))]) hP hD [] [0, 1, 2] 3 rfl rfl (by decide) (by decide) hk1 hFc hP1 hD1
  generalize H1 = H at hP hS ⊢
  refine va_astq (r := ("ValueBenchModel$V", TV, 6)) hx hb hK hP hD hS 1 4 2 6 rfl rfl rfl rfl (show ¬ ((1 : Int32) < 0 ∨ 1024 ≤ (1 : Int32).toNatClampNeg) by decide) dM_fresh_79 (fun H locs hP hD hS => ?_)
  obtain ⟨hP, hD⟩ : xPD D xcl A [(a0, .inr (5, [v2, .ref a1, .int 1, v3, v4, v5, v6, v7, v8, v9, v10, v11, v12, v13, v14, v15, v16, v17, v18, v19, v20, v21, v22, v23, v24, v25, v26, v27, v28, v29, v30, v31])), (a1, .inl (cT 4, 1024, .inr (.inr (.inr (.inr (va_up f32 1 (some q1))))))), (q1, .inr (6, [.int 0, .long 0, .int 0, .int 0, .int 0, .int 0]))] H := ⟨hP, hD⟩
  refine lv_aload_n hx hb dM_fresh_80 rfl (lv_at hl 0 rfl) ?_
  refine va_get (D := D) (ci := 5) (v := .ref a1) (C := "ValueBenchModel") (T := TM) (N := 32) hx hb htx inM hown hK hP 0 rfl rfl 1 (by decide) (htx _ kw_5_88) (fun _ h9 => h9) rfl dM_fresh_81 ?_
  refine lv_aload_n hx hb dM_fresh_84 rfl (lv_at hl 0 rfl) ?_
  refine va_get (D := D) (ci := 5) (v := .int 1) (C := "ValueBenchModel") (T := TM) (N := 32) hx hb htx inM hown hK hP 0 rfl rfl 2 (by decide) (htx _ kw_5_89) (fun _ h9 => h9) rfl dM_fresh_85 ?_
  refine va_aldq hx hb hK hP 1 4 rfl rfl (show ¬ ((1 : Int32) < 0 ∨ 1024 ≤ (1 : Int32).toNatClampNeg) by decide) dM_fresh_88 ?_
  refine W.eq (g2 := F0 m 89 ls [.ref q1]) rfl ?_
  refine lv_astore_n (lv' := [(2, .ref q1), (0, .ref a0), (1, .int 3)]) hx hb dM_fresh_89 rfl hl (by decide) rfl (fun ls hl => ?_)
  refine lv_aload_n hx hb dM_fresh_90 rfl (lv_at hl 1 rfl) ?_
  refine lv_dup hx hb dM_fresh_91 rfl ?_
  refine va_get (D := D) (ci := 5) (v := .int 1) (C := "ValueBenchModel") (T := TM) (N := 32) hx hb htx inM hown hK hP 0 rfl rfl 2 (by decide) (htx _ kw_5_89) (fun _ h9 => h9) rfl dM_fresh_92 ?_
  refine lv_iconst (v := 1) hx hb dM_fresh_95 (by decide) ?_
  refine lv_iadd hx hb dM_fresh_96 ?_
  refine W.eq (g2 := F0 m 97 ls [.int 2, .ref a0]) rfl ?_
  refine va_put (D := D) (ci := 5) (v := .int 2) (ty := .int) (C := "ValueBenchModel") (T := TM) (N := 32) hx hb htx inM tyM tyM_ok nmM hown hK hP hD hS 0 rfl rfl 2 (by decide) (htx _ kw_5_89) (fun _ h9 => h9) rfl (by decide +kernel) rfl rfl (Nat.le_of_ble_eq_true rfl) dM_fresh_97 (fun H locs hP hD hS => ?_)
  obtain ⟨hP, hD⟩ : xPD D xcl A [(a0, .inr (5, [v2, .ref a1, .int 2, v3, v4, v5, v6, v7, v8, v9, v10, v11, v12, v13, v14, v15, v16, v17, v18, v19, v20, v21, v22, v23, v24, v25, v26, v27, v28, v29, v30, v31])), (a1, .inl (cT 4, 1024, .inr (.inr (.inr (.inr (va_up f32 1 (some q1))))))), (q1, .inr (6, [.int 0, .long 0, .int 0, .int 0, .int 0, .int 0]))] H := ⟨hP, hD⟩
  refine lv_aload_n hx hb dM_fresh_100 rfl (lv_at hl 0 rfl) ?_
  refine lv_iload_n hx hb dM_fresh_101 rfl (lv_at hl 2 rfl) ?_
  refine va_putN (D := D) (ci := 6) (v := .int 3) (ty := .int) (C := "ValueBenchModel$V") (T := TV) (N := 6) hx hb htx inV tyV tyV_ok nmV hown hK hP hD hS 2 rfl rfl 0 (by decide) ((hZ.1 (93, "kind", "I") (List.mem_of_getElem? (i := 0) rfl)).use rfl) (fun _ h9 => h9) rfl (by decide +kernel) rfl rfl (Nat.le_of_ble_eq_true rfl) dM_fresh_102 (fun H locs hP hD hS => ?_)
  obtain ⟨hP, hD⟩ : xPD D xcl A [(a0, .inr (5, [v2, .ref a1, .int 2, v3, v4, v5, v6, v7, v8, v9, v10, v11, v12, v13, v14, v15, v16, v17, v18, v19, v20, v21, v22, v23, v24, v25, v26, v27, v28, v29, v30, v31])), (a1, .inl (cT 4, 1024, .inr (.inr (.inr (.inr (va_up f32 1 (some q1))))))), (q1, .inr (6, [.int 3, .long 0, .int 0, .int 0, .int 0, .int 0]))] H := ⟨hP, hD⟩
  refine lv_aload_n hx hb dM_fresh_105 rfl (lv_at hl 0 rfl) ?_
  refine lv_lconst (v := 0) hx hb dM_fresh_106 (by decide) ?_
  refine va_putN (D := D) (ci := 6) (v := .long 0) (ty := .long) (C := "ValueBenchModel$V") (T := TV) (N := 6) hx hb htx inV tyV tyV_ok nmV hown hK hP hD hS 2 rfl rfl 1 (by decide) ((hZ.1 (96, "n", "J") (List.mem_of_getElem? (i := 1) rfl)).use rfl) (fun _ h9 => h9) rfl (by decide +kernel) rfl rfl (Nat.le_of_ble_eq_true rfl) dM_fresh_107 (fun H locs hP hD hS => ?_)
  obtain ⟨hP, hD⟩ : xPD D xcl A [(a0, .inr (5, [v2, .ref a1, .int 2, v3, v4, v5, v6, v7, v8, v9, v10, v11, v12, v13, v14, v15, v16, v17, v18, v19, v20, v21, v22, v23, v24, v25, v26, v27, v28, v29, v30, v31])), (a1, .inl (cT 4, 1024, .inr (.inr (.inr (.inr (va_up f32 1 (some q1))))))), (q1, .inr (6, [.int 3, .long 0, .int 0, .int 0, .int 0, .int 0]))] H := ⟨hP, hD⟩
  refine lv_aload_n hx hb dM_fresh_110 rfl (lv_at hl 0 rfl) ?_
  refine lv_iconst (v := 0) hx hb dM_fresh_111 (by decide) ?_
  refine va_putN (D := D) (ci := 6) (v := .int 0) (ty := .int) (C := "ValueBenchModel$V") (T := TV) (N := 6) hx hb htx inV tyV tyV_ok nmV hown hK hP hD hS 2 rfl rfl 2 (by decide) ((hZ.1 (100, "off", "I") (List.mem_of_getElem? (i := 2) rfl)).use rfl) (fun _ h9 => h9) rfl (by decide +kernel) rfl rfl (Nat.le_of_ble_eq_true rfl) dM_fresh_112 (fun H locs hP hD hS => ?_)
  obtain ⟨hP, hD⟩ : xPD D xcl A [(a0, .inr (5, [v2, .ref a1, .int 2, v3, v4, v5, v6, v7, v8, v9, v10, v11, v12, v13, v14, v15, v16, v17, v18, v19, v20, v21, v22, v23, v24, v25, v26, v27, v28, v29, v30, v31])), (a1, .inl (cT 4, 1024, .inr (.inr (.inr (.inr (va_up f32 1 (some q1))))))), (q1, .inr (6, [.int 3, .long 0, .int 0, .int 0, .int 0, .int 0]))] H := ⟨hP, hD⟩
  refine lv_aload_n hx hb dM_fresh_115 rfl (lv_at hl 0 rfl) ?_
  refine lv_iconst (v := 0) hx hb dM_fresh_116 (by decide) ?_
  refine va_putN (D := D) (ci := 6) (v := .int 0) (ty := .int) (C := "ValueBenchModel$V") (T := TV) (N := 6) hx hb htx inV tyV tyV_ok nmV hown hK hP hD hS 2 rfl rfl 3 (by decide) ((hZ.1 (103, "count", "I") (List.mem_of_getElem? (i := 3) rfl)).use rfl) (fun _ h9 => h9) rfl (by decide +kernel) rfl rfl (Nat.le_of_ble_eq_true rfl) dM_fresh_117 (fun H locs hP hD hS => ?_)
  obtain ⟨hP, hD⟩ : xPD D xcl A [(a0, .inr (5, [v2, .ref a1, .int 2, v3, v4, v5, v6, v7, v8, v9, v10, v11, v12, v13, v14, v15, v16, v17, v18, v19, v20, v21, v22, v23, v24, v25, v26, v27, v28, v29, v30, v31])), (a1, .inl (cT 4, 1024, .inr (.inr (.inr (.inr (va_up f32 1 (some q1))))))), (q1, .inr (6, [.int 3, .long 0, .int 0, .int 0, .int 0, .int 0]))] H := ⟨hP, hD⟩
  refine lv_aload_n hx hb dM_fresh_120 rfl (lv_at hl 0 rfl) ?_
  refine lv_iconst (v := 0) hx hb dM_fresh_121 (by decide) ?_
  refine va_putN (D := D) (ci := 6) (v := .int 0) (ty := .int) (C := "ValueBenchModel$V") (T := TV) (N := 6) hx hb htx inV tyV tyV_ok nmV hown hK hP hD hS 2 rfl rfl 4 (by decide) ((hZ.1 (106, "depth", "I") (List.mem_of_getElem? (i := 4) rfl)).use rfl) (fun _ h9 => h9) rfl (by decide +kernel) rfl rfl (Nat.le_of_ble_eq_true rfl) dM_fresh_122 (fun H locs hP hD hS => ?_)
  obtain ⟨hP, hD⟩ : xPD D xcl A [(a0, .inr (5, [v2, .ref a1, .int 2, v3, v4, v5, v6, v7, v8, v9, v10, v11, v12, v13, v14, v15, v16, v17, v18, v19, v20, v21, v22, v23, v24, v25, v26, v27, v28, v29, v30, v31])), (a1, .inl (cT 4, 1024, .inr (.inr (.inr (.inr (va_up f32 1 (some q1))))))), (q1, .inr (6, [.int 3, .long 0, .int 0, .int 0, .int 0, .int 0]))] H := ⟨hP, hD⟩
  refine lv_aload_n hx hb dM_fresh_125 rfl (lv_at hl 0 rfl) ?_
  refine lv_iconst (v := 1) hx hb dM_fresh_126 (by decide) ?_
  refine va_putN (D := D) (ci := 6) (v := .int 1) (ty := .int) (C := "ValueBenchModel$V") (T := TV) (N := 6) hx hb htx inV tyV tyV_ok nmV hown hK hP hD hS 2 rfl rfl 5 (by decide) ((hZ.1 (109, "weight", "I") (List.mem_of_getElem? (i := 5) rfl)).use rfl) (fun _ h9 => h9) rfl (by decide +kernel) rfl rfl (Nat.le_of_ble_eq_true rfl) dM_fresh_127 (fun H locs hP hD hS => ?_)
  obtain ⟨hP, hD⟩ : xPD D xcl A [(a0, .inr (5, [v2, .ref a1, .int 2, v3, v4, v5, v6, v7, v8, v9, v10, v11, v12, v13, v14, v15, v16, v17, v18, v19, v20, v21, v22, v23, v24, v25, v26, v27, v28, v29, v30, v31])), (a1, .inl (cT 4, 1024, .inr (.inr (.inr (.inr (va_up f32 1 (some q1))))))), (q1, .inr (6, [.int 3, .long 0, .int 0, .int 0, .int 0, .int 1]))] H := ⟨hP, hD⟩
  refine lv_aload_n hx hb dM_fresh_130 rfl (lv_at hl 0 rfl) ?_
  obtain ⟨hP9, hD9⟩ := xsub (wc := [(a0, .inr (5, [v2, .ref a1, .int 2, v3, v4, v5, v6, v7, v8, v9, v10, v11, v12, v13, v14, v15, v16, v17, v18, v19, v20, v21, v22, v23, v24, v25, v26, v27, v28, v29, v30, v31])), (a1, .inl (cT 4, 1024, .inr (.inr (.inr (.inr (va_up f32 1 (some q1))))))), (q1, .inr (6, [.int 3, .long 0, .int 0, .int 0, .int 0, .int 1]))]) hP hD [0, 1, 2] rfl rfl (by decide)
  refine W.widen (k := 1) (n := 6) (Nat.le_of_ble_eq_true rfl) (Nat.le_of_ble_eq_true rfl) ?_
  exact W.aret hx hb hr (Or.inl ⟨_, rfl⟩) (Or.inr ⟨_, rfl⟩) (fun t ht hW => ⟨⟨(), q1, rfl, trivial, by rw [ht]; exact hP9, va_K.moved hW.alike hK, hD9⟩, hS.F ht⟩) hS.2.2 dM_fresh_131
set_option maxHeartbeats 400000000 in
set_option maxRecDepth 100000 in
theorem cM_number_0 (l : Launch) (hl9 : l.stackTraces = false) (D : va_G) (cT : Nat → ClassId) (aK aV : Nat → Nat) (sz : Nat) (a0 : Nat) (a1 : Nat) (v2 : Value) (v3 : Value) (v4 : Value) (v5 : Value) (v6 : Value) (v7 : Value) (v8 : Value) (v9 : Value) (v10 : Value) (v11 : Value) (v12 : Value) (v13 : Value) (v14 : Value) (v15 : Value) (v16 : Value) (v17 : Value) (v18 : Value) (v19 : Value) (v20 : Value) (v21 : Value) (v22 : Value) (v23 : Value) (v24 : Value) (v25 : Value) (v26 : Value) (v27 : Value) (v28 : Value) (v29 : Value) (v30 : Value) (v31 : Value) (f32 : Nat → Option Nat) (h33 : f32 1 = none) : xMet l yM_number wyM_number 3 1 6 55 D cT aK aV sz [.ref a0, .long 0] [(a0, .inr (5, [v2, .ref a1, .int 1, v3, v4, v5, v6, v7, v8, v9, v10, v11, v12, v13, v14, v15, v16, v17, v18, v19, v20, v21, v22, v23, v24, v25, v26, v27, v28, v29, v30, v31])), (a1, .inl (cT 4, 1024, .inr (.inr (.inr (.inr f32)))))] (fun A => va_Qr (fun _ : Unit => True) (fun _ r1 t => xB D xcl cT A [(a0, .inr (5, [v2, .ref a1, .int 2, v3, v4, v5, v6, v7, v8, v9, v10, v11, v12, v13, v14, v15, v16, v17, v18, v19, v20, v21, v22, v23, v24, v25, v26, v27, v28, v29, v30, v31])), (a1, .inl (cT 4, 1024, .inr (.inr (.inr (.inr (va_up f32 1 (some r1))))))), (r1, .inr (6, [.int 3, .long 0, .int 0, .int 0, .int 0, .int 1]))] t) A) := by
  refine Met.ofW (cc := prog_13_method_7_code) (maxL := 4) (ret := (some (.object "ValueBenchModel$V"))) (by decide) rfl ?_
  intro p e s m args below meth c s₁ B hml hv
  obtain ⟨rfl, hsz, hZ, hP, hK, hD0⟩ := hv
  have hx := B.exec
  have hb := B.bytes
  have hr := B.returns
  have hts := atoms_spec (ws := wyM_number) B.pre
  have htx := fun w h => hts w (List.mem_cons_of_mem _ h)
  have hown : s.vm.findClass "ValueBenchModel" = some m.cls := findClass_of_methodNamed B.named
  have hlocks := B.notSynchronized
  subst hsz
  have hD := hD0.self (sz := s.heap.size)
  generalize hAe : va_A [(a0, .inr (5, [v2, .ref a1, .int 1, v3, v4, v5, v6, v7, v8, v9, v10, v11, v12, v13, v14, v15, v16, v17, v18, v19, v20, v21, v22, v23, v24, v25, v26, v27, v28, v29, v30, v31])), (a1, .inl (cT 4, 1024, .inr (.inr (.inr (.inr f32)))))] s.heap.size = A at hD hZ ⊢
  have hA : ∀ q : Nat, s.heap.size ≤ q → A q := fun q h => by rw [← hAe]; exact Or.inr h
  have hS : va_S A s.heap s.heap [] := va_S.rf
  have hP : va_P D xcl [(a0, .inr (5, [v2, .ref a1, .int 1, v3, v4, v5, v6, v7, v8, v9, v10, v11, v12, v13, v14, v15, v16, v17, v18, v19, v20, v21, v22, v23, v24, v25, v26, v27, v28, v29, v30, v31])), (a1, .inl (cT 4, 1024, .inr (.inr (.inr (.inr f32)))))] s.heap := hP
  have hl := lv_entry ([.ref a0, .long 0]) (n := 4) (Nat.le_of_ble_eq_true rfl)
  rw [lg_entry_eq]
  generalize (lg_sl ([.ref a0, .long 0]) ++ List.replicate (4 - (lg_sl ([.ref a0, .long 0])).length) Slot.unset).toArray = ls at hl ⊢
  have hl : lv_has ls 4 [(0, .ref a0), (1, .long 0)] := hl
  refine lv_lload_n hx hb dM_number_0 rfl (lv_at hl 1 rfl) ?_
  refine lv_ldc2 hx hb hown (htx _ kw_6_84) dM_number_1 ?_
  refine W.lcmp hx hb dM_number_4 ?_
  refine W.eq (g2 := F0 m 5 ls [.int (-1)]) rfl ?_
  refine lv_if_gt (tgt := 16) hx hb dM_number_5 (by decide) (fun h => ((by revert h; decide : False)).elim) (fun _ => ?_)
  refine lv_lload_n hx hb dM_number_8 rfl (lv_at hl 1 rfl) ?_
  refine lv_ldc2 hx hb hown (htx _ kw_6_89) dM_number_9 ?_
  refine W.lcmp hx hb dM_number_12 ?_
  refine W.eq (g2 := F0 m 13 ls [.int 1]) rfl ?_
  refine lv_if_ge (tgt := 22) hx hb dM_number_13 (by decide) (fun _ => ?_) (fun h => ((by revert h; decide : False)).elim)
  refine lv_aload_n hx hb dM_number_22 rfl (lv_at hl 0 rfl) ?_
  refine lv_iconst (v := 3) hx hb dM_number_23 (by decide) ?_
  obtain ⟨hPc, hDc, hFc⟩ := xcut (wc := [(a0, .inr (5, [v2, .ref a1, .int 1, v3, v4, v5, v6, v7, v8, v9, v10, v11, v12, v13, v14, v15, v16, v17, v18, v19, v20, v21, v22, v23, v24, v25, v26, v27, v28, v29, v30, v31])), (a1, .inl (cT 4, 1024, .inr (.inr (.inr (.inr f32)))))]) hP hD hS hA [0, 1] rfl rfl (by decide)
  refine va_callr (va_runV (C := "ValueBenchModel") (As := [.int 3]) (rest := []) ⟨hx, hb, hml, hown, htx⟩ (cM_fresh_4 l hl9 D cT aK aV s.heap.size a0 a1 v2 v3 v4 v5 v6 v7 v8 v9 v10 v11 v12 v13 v14 v15 v16 v17 v18 v19 v20 v21 v22 v23 v24 v25 v26 v27 v28 v29 v30 v31 f32 (by first | rfl | exact h33)) ⟨callB_of 1 htx (xw_goodC kw_6_16) rfl rfl rfl (htx _ kw_1_5) (htx _ kw_6_13) ⟨by decide, by decide, by decide +kernel⟩ ⟨Nat.le_of_ble_eq_true rfl, Nat.le_of_ble_eq_true rfl⟩, (htx _ kw_6_15), (htx _ kp_M_fresh)⟩ ⟨xPre_blind, va_recv hK hP (ci := 5) rfl (q0 := 0) rfl, (fun U hU hW => ⟨rfl, xPre_of hZ hS hFc hPc hDc hK U hU hW⟩)⟩ rfl rfl hl.1 rfl (lv_room (Nat.le_of_ble_eq_true rfl)) dM_number_24 ⟨Nat.le_of_ble_eq_true rfl, Nat.le_of_ble_eq_true rfl⟩) hS (fun q _ h => hFc q h) hFc (fun u9 r1 t H1 locs ht hvm hr9 hB hz1 hk1 hS => ?_)
  obtain ⟨hP1, hK1, hD1⟩ := hB
  rw [ht] at hP1
  obtain ⟨hP, hD⟩ := xjoin (W := [(a0, .inr (5, [v2, .ref a1, .int 2, v3, v4, v5, v6, v7, v8, v9, v10, v11, v12, v13, v14, v15, v16, v17, v18, v19, v20, v21, v22, v23, v24, v25, v26, v27, v28, v29, v30, v31])), (a1, .inl (cT 4, 1024, .inr (.inr (.inr (.inr (va_up f32 1 (some r1))))))), (r1, .inr (6, [.int 3, .long 0, .int 0, .int 0, .int 0, .int 1]))]) hP hD [0, 1] [] 0 rfl rfl (by decide) (by decide) hk1 hFc hP1 hD1
  generalize H1 = H at hP hS ⊢
  refine W.eq (g2 := F0 m 27 ls [.ref r1]) rfl ?_
  refine lv_astore_n (lv' := [(3, .ref r1), (0, .ref a0), (1, .long 0)]) hx hb dM_number_27 rfl hl (by decide) rfl (fun ls hl => ?_)
  refine lv_aload_n hx hb dM_number_28 rfl (lv_at hl 0 rfl) ?_
  refine lv_lload_n hx hb dM_number_29 rfl (lv_at hl 2 rfl) ?_
  refine va_putN (D := D) (ci := 6) (v := .long 0) (ty := .long) (C := "ValueBenchModel$V") (T := TV) (N := 6) hx hb htx inV tyV tyV_ok nmV hown hK hP hD hS 2 rfl rfl 1 (by decide) ((hZ.1 (96, "n", "J") (List.mem_of_getElem? (i := 1) rfl)).use rfl) (fun _ h9 => h9) rfl (by decide +kernel) rfl rfl (Nat.le_of_ble_eq_true rfl) dM_number_30 (fun H locs hP hD hS => ?_)
  obtain ⟨hP, hD⟩ : xPD D xcl A [(a0, .inr (5, [v2, .ref a1, .int 2, v3, v4, v5, v6, v7, v8, v9, v10, v11, v12, v13, v14, v15, v16, v17, v18, v19, v20, v21, v22, v23, v24, v25, v26, v27, v28, v29, v30, v31])), (a1, .inl (cT 4, 1024, .inr (.inr (.inr (.inr (va_up f32 1 (some r1))))))), (r1, .inr (6, [.int 3, .long 0, .int 0, .int 0, .int 0, .int 1]))] H := ⟨hP, hD⟩
  refine lv_aload_n hx hb dM_number_33 rfl (lv_at hl 0 rfl) ?_
  obtain ⟨hP9, hD9⟩ := xsub (wc := [(a0, .inr (5, [v2, .ref a1, .int 2, v3, v4, v5, v6, v7, v8, v9, v10, v11, v12, v13, v14, v15, v16, v17, v18, v19, v20, v21, v22, v23, v24, v25, v26, v27, v28, v29, v30, v31])), (a1, .inl (cT 4, 1024, .inr (.inr (.inr (.inr (va_up f32 1 (some r1))))))), (r1, .inr (6, [.int 3, .long 0, .int 0, .int 0, .int 0, .int 1]))]) hP hD [0, 1, 2] rfl rfl (by decide)
  refine W.widen (k := 1) (n := 6) (Nat.le_of_ble_eq_true rfl) (Nat.le_of_ble_eq_true rfl) ?_
  exact W.aret hx hb hr (Or.inl ⟨_, rfl⟩) (Or.inr ⟨_, rfl⟩) (fun t ht hW => ⟨⟨(), r1, rfl, trivial, by rw [ht]; exact hP9, va_K.moved hW.alike hK, hD9⟩, hS.F ht⟩) hS.2.2 dM_number_34
set_option maxHeartbeats 400000000 in
set_option maxRecDepth 100000 in
theorem cM_length_0 (l : Launch) (hl9 : l.stackTraces = false) (D : va_G) (cT : Nat → ClassId) (aK aV : Nat → Nat) (sz : Nat) (a0 : Nat) (a1 : Nat) (a2 : Nat) (v3 : Value) (v4 : Value) (v5 : Value) (v6 : Value) (v7 : Value) (v8 : Value) (v9 : Value) (v10 : Value) (v11 : Value) (v12 : Value) (v13 : Value) (v14 : Value) (v15 : Value) (v16 : Value) (v17 : Value) (v18 : Value) (v19 : Value) (v20 : Value) (v21 : Value) (v22 : Value) (v23 : Value) (v24 : Value) (v25 : Value) (v26 : Value) (v27 : Value) (v28 : Value) (v29 : Value) (v30 : Value) (v31 : Value) (v32 : Value) (v33 : Value) (v34 : Value) (v35 : Value) (v36 : Value) (v37 : Value) (f38 : Nat → Option Nat) (h39 : f38 1 = none) : xMet l yM_length wyM_length 4 1 6 78 D cT aK aV sz [.ref a1, .ref a0] [(a0, .inr (6, [.int 0, v3, v4, v5, v6, v7])), (a1, .inr (5, [v8, .ref a2, .int 1, v9, v10, v11, v12, v13, v14, v15, v16, v17, v18, v19, v20, v21, v22, v23, v24, v25, v26, v27, v28, v29, v30, v31, v32, v33, v34, v35, v36, v37])), (a2, .inl (cT 4, 1024, .inr (.inr (.inr (.inr f38)))))] (fun A => va_Qr (fun _ : Unit => True) (fun _ r1 t => xB D xcl cT A [(a0, .inr (6, [.int 0, v3, v4, v5, v6, v7])), (a1, .inr (5, [v8, .ref a2, .int 2, v9, v10, v11, v12, v13, v14, v15, v16, v17, v18, v19, v20, v21, v22, v23, v24, v25, v26, v27, v28, v29, v30, v31, v32, v33, v34, v35, v36, v37])), (a2, .inl (cT 4, 1024, .inr (.inr (.inr (.inr (va_up f38 1 (some r1))))))), (r1, .inr (6, [.int 3, .long 0, .int 0, .int 0, .int 0, .int 1]))] t) A) := by
  refine Met.ofW (cc := prog_13_method_57_code) (maxL := 2) (ret := (some (.object "ValueBenchModel$V"))) (by decide) rfl ?_
  intro p e s m args below meth c s₁ B hml hv
  obtain ⟨rfl, hsz, hZ, hP, hK, hD0⟩ := hv
  have hx := B.exec
  have hb := B.bytes
  have hr := B.returns
  have hts := atoms_spec (ws := wyM_length) B.pre
  have htx := fun w h => hts w (List.mem_cons_of_mem _ h)
  have hown : s.vm.findClass "ValueBenchModel" = some m.cls := findClass_of_methodNamed B.named
  have hlocks := B.notSynchronized
  subst hsz
  have hD := hD0.self (sz := s.heap.size)
  generalize hAe : va_A [(a0, .inr (6, [.int 0, v3, v4, v5, v6, v7])), (a1, .inr (5, [v8, .ref a2, .int 1, v9, v10, v11, v12, v13, v14, v15, v16, v17, v18, v19, v20, v21, v22, v23, v24, v25, v26, v27, v28, v29, v30, v31, v32, v33, v34, v35, v36, v37])), (a2, .inl (cT 4, 1024, .inr (.inr (.inr (.inr f38)))))] s.heap.size = A at hD hZ ⊢
  have hA : ∀ q : Nat, s.heap.size ≤ q → A q := fun q h => by rw [← hAe]; exact Or.inr h
  have hS : va_S A s.heap s.heap [] := va_S.rf
  have hP : va_P D xcl [(a0, .inr (6, [.int 0, v3, v4, v5, v6, v7])), (a1, .inr (5, [v8, .ref a2, .int 1, v9, v10, v11, v12, v13, v14, v15, v16, v17, v18, v19, v20, v21, v22, v23, v24, v25, v26, v27, v28, v29, v30, v31, v32, v33, v34, v35, v36, v37])), (a2, .inl (cT 4, 1024, .inr (.inr (.inr (.inr f38)))))] s.heap := hP
  have hl := lv_entry ([.ref a1, .ref a0]) (n := 2) (Nat.le_of_ble_eq_true rfl)
  rw [lg_entry_eq]
  generalize (lg_sl ([.ref a1, .ref a0]) ++ List.replicate (2 - (lg_sl ([.ref a1, .ref a0])).length) Slot.unset).toArray = ls at hl ⊢
  have hl : lv_has ls 2 [(0, .ref a1), (1, .ref a0)] := hl
  refine lv_aload_n hx hb dM_length_0 rfl (lv_at hl 1 rfl) ?_
  refine va_getN (D := D) (ci := 6) (v := .int 0) (C := "ValueBenchModel$V") (T := TV) (N := 6) hx hb htx inV hown hK hP 0 rfl rfl 0 (by decide) ((hZ.1 (93, "kind", "I") (List.mem_of_getElem? (i := 0) rfl)).use rfl) (fun _ h9 => h9) rfl dM_length_1 ?_
  refine lv_iconst (v := 1) hx hb dM_length_4 (by decide) ?_
  refine lv_icmp_eq (tgt := 16) hx hb dM_length_5 (by decide) (fun h => ((by revert h; decide : False)).elim) (fun _ => ?_)
  refine lv_aload_n hx hb dM_length_8 rfl (lv_at hl 1 rfl) ?_
  refine va_getN (D := D) (ci := 6) (v := .int 0) (C := "ValueBenchModel$V") (T := TV) (N := 6) hx hb htx inV hown hK hP 0 rfl rfl 0 (by decide) ((hZ.1 (93, "kind", "I") (List.mem_of_getElem? (i := 0) rfl)).use rfl) (fun _ h9 => h9) rfl dM_length_9 ?_
  refine lv_iconst (v := 2) hx hb dM_length_12 (by decide) ?_
  refine lv_icmp_ne (tgt := 22) hx hb dM_length_13 (by decide) (fun _ => ?_) (fun h => ((by revert h; decide : False)).elim)
  refine lv_aload_n hx hb dM_length_22 rfl (lv_at hl 0 rfl) ?_
  refine lv_aload_n hx hb dM_length_23 rfl (lv_at hl 1 rfl) ?_
  refine va_getN (D := D) (ci := 6) (v := .int 0) (C := "ValueBenchModel$V") (T := TV) (N := 6) hx hb htx inV hown hK hP 0 rfl rfl 0 (by decide) ((hZ.1 (93, "kind", "I") (List.mem_of_getElem? (i := 0) rfl)).use rfl) (fun _ h9 => h9) rfl dM_length_24 ?_
  refine lv_if_ne (tgt := 34) hx hb dM_length_27 (by decide) (fun h => ((by revert h; decide : False)).elim) (fun _ => ?_)
  refine lv_lconst (v := 0) hx hb dM_length_30 (by decide) ?_
  refine lv_goto (tgt := 57) hx hb dM_length_31 (by decide) ?_
  obtain ⟨hPc, hDc, hFc⟩ := xcut (wc := [(a1, .inr (5, [v8, .ref a2, .int 1, v9, v10, v11, v12, v13, v14, v15, v16, v17, v18, v19, v20, v21, v22, v23, v24, v25, v26, v27, v28, v29, v30, v31, v32, v33, v34, v35, v36, v37])), (a2, .inl (cT 4, 1024, .inr (.inr (.inr (.inr f38)))))]) hP hD hS hA [1, 2] rfl rfl (by decide)
  refine va_callr (va_runV (C := "ValueBenchModel") (As := [.long 0]) (rest := []) ⟨hx, hb, hml, hown, htx⟩ (cM_number_0 l hl9 D cT aK aV s.heap.size a1 a2 v8 v9 v10 v11 v12 v13 v14 v15 v16 v17 v18 v19 v20 v21 v22 v23 v24 v25 v26 v27 v28 v29 v30 v31 v32 v33 v34 v35 v36 v37 f38 (by first | rfl | exact h39)) ⟨callB_of 1 htx (xw_goodC kw_6_88) rfl rfl rfl (htx _ kw_1_5) (htx _ kw_6_85) ⟨by decide, by decide, by decide +kernel⟩ ⟨Nat.le_of_ble_eq_true rfl, Nat.le_of_ble_eq_true rfl⟩, (htx _ kw_6_87), (htx _ kp_M_number)⟩ ⟨xPre_blind, va_recv hK hP (ci := 5) rfl (q0 := 1) rfl, (fun U hU hW => ⟨rfl, xPre_of hZ hS hFc hPc hDc hK U hU hW⟩)⟩ rfl rfl hl.1 rfl (lv_room (Nat.le_of_ble_eq_true rfl)) dM_length_57 ⟨Nat.le_of_ble_eq_true rfl, Nat.le_of_ble_eq_true rfl⟩) hS (fun q _ h => hFc q h) hFc (fun u9 r1 t H1 locs ht hvm hr9 hB hz1 hk1 hS => ?_)
  obtain ⟨hP1, hK1, hD1⟩ := hB
  rw [ht] at hP1
  obtain ⟨hP, hD⟩ := xjoin (W := [(a0, .inr (6, [.int 0, v3, v4, v5, v6, v7])), (a1, .inr (5, [v8, .ref a2, .int 2, v9, v10, v11, v12, v13, v14, v15, v16, v17, v18, v19, v20, v21, v22, v23, v24, v25, v26, v27, v28, v29, v30, v31, v32, v33, v34, v35, v36, v37])), (a2, .inl (cT 4, 1024, .inr (.inr (.inr (.inr (va_up f38 1 (some r1))))))), (r1, .inr (6, [.int 3, .long 0, .int 0, .int 0, .int 0, .int 1]))]) hP hD [1, 2] [0] 1 rfl rfl (by decide) (by decide) hk1 hFc hP1 hD1
  generalize H1 = H at hP hS ⊢
  refine W.eq (g2 := F0 m 60 ls [.ref r1]) rfl ?_
  obtain ⟨hP9, hD9⟩ := xsub (wc := [(a0, .inr (6, [.int 0, v3, v4, v5, v6, v7])), (a1, .inr (5, [v8, .ref a2, .int 2, v9, v10, v11, v12, v13, v14, v15, v16, v17, v18, v19, v20, v21, v22, v23, v24, v25, v26, v27, v28, v29, v30, v31, v32, v33, v34, v35, v36, v37])), (a2, .inl (cT 4, 1024, .inr (.inr (.inr (.inr (va_up f38 1 (some r1))))))), (r1, .inr (6, [.int 3, .long 0, .int 0, .int 0, .int 0, .int 1]))]) hP hD [0, 1, 2, 3] rfl rfl (by decide)
  refine W.widen (k := 1) (n := 6) (Nat.le_of_ble_eq_true rfl) (Nat.le_of_ble_eq_true rfl) ?_
  exact W.aret hx hb hr (Or.inl ⟨_, rfl⟩) (Or.inr ⟨_, rfl⟩) (fun t ht hW => ⟨⟨(), r1, rfl, trivial, by rw [ht]; exact hP9, va_K.moved hW.alike hK, hD9⟩, hS.F ht⟩) hS.2.2 dM_length_60
set_option maxHeartbeats 400000000 in
set_option maxRecDepth 100000 in
theorem cM_one1_1 (l : Launch) (hl9 : l.stackTraces = false) (D : va_G) (cT : Nat → ClassId) (aK aV : Nat → Nat) (sz : Nat) (a0 : Nat) (a1 : Nat) (a2 : Nat) (v3 : Value) (v4 : Value) (v5 : Value) (v6 : Value) (v7 : Value) (v8 : Value) (v9 : Value) (v10 : Value) (v11 : Value) (v12 : Value) (v13 : Value) (v14 : Value) (v15 : Value) (v16 : Value) (v17 : Value) (v18 : Value) (v19 : Value) (v20 : Value) (v21 : Value) (v22 : Value) (v23 : Value) (v24 : Value) (v25 : Value) (v26 : Value) (v27 : Value) (v28 : Value) (v29 : Value) (v30 : Value) (v31 : Value) (v32 : Value) (v33 : Value) (v34 : Value) (v35 : Value) (v36 : Value) (v37 : Value) (f38 : Nat → Option Nat) (h39 : f38 1 = none) : xMet l yM_one1 wyM_one1 5 1 6 99 D cT aK aV sz [.ref a0, .int 1, .ref a1] [(a0, .inr (5, [v3, .ref a2, .int 1, v4, v5, v6, v7, v8, v9, v10, v11, v12, v13, v14, v15, v16, v17, v18, v19, v20, v21, v22, v23, v24, v25, v26, v27, v28, v29, v30, v31, v32])), (a1, .inr (6, [.int 0, v33, v34, v35, v36, v37])), (a2, .inl (cT 4, 1024, .inr (.inr (.inr (.inr f38)))))] (fun A => va_Qr (fun _ : Unit => True) (fun _ r1 t => xB D xcl cT A [(a0, .inr (5, [v3, .ref a2, .int 2, v4, v5, v6, v7, v8, v9, v10, v11, v12, v13, v14, v15, v16, v17, v18, v19, v20, v21, v22, v23, v24, v25, v26, v27, v28, v29, v30, v31, v32])), (a1, .inr (6, [.int 0, v33, v34, v35, v36, v37])), (a2, .inl (cT 4, 1024, .inr (.inr (.inr (.inr (va_up f38 1 (some r1))))))), (r1, .inr (6, [.int 3, .long 0, .int 0, .int 0, .int 0, .int 1]))] t) A) := by
  refine Met.ofW (cc := prog_13_method_66_code) (maxL := 3) (ret := (some (.object "ValueBenchModel$V"))) (by decide) rfl ?_
  intro p e s m args below meth c s₁ B hml hv
  obtain ⟨rfl, hsz, hZ, hP, hK, hD0⟩ := hv
  have hx := B.exec
  have hb := B.bytes
  have hr := B.returns
  have hts := atoms_spec (ws := wyM_one1) B.pre
  have htx := fun w h => hts w (List.mem_cons_of_mem _ h)
  have hown : s.vm.findClass "ValueBenchModel" = some m.cls := findClass_of_methodNamed B.named
  have hlocks := B.notSynchronized
  subst hsz
  have hD := hD0.self (sz := s.heap.size)
  generalize hAe : va_A [(a0, .inr (5, [v3, .ref a2, .int 1, v4, v5, v6, v7, v8, v9, v10, v11, v12, v13, v14, v15, v16, v17, v18, v19, v20, v21, v22, v23, v24, v25, v26, v27, v28, v29, v30, v31, v32])), (a1, .inr (6, [.int 0, v33, v34, v35, v36, v37])), (a2, .inl (cT 4, 1024, .inr (.inr (.inr (.inr f38)))))] s.heap.size = A at hD hZ ⊢
  have hA : ∀ q : Nat, s.heap.size ≤ q → A q := fun q h => by rw [← hAe]; exact Or.inr h
  have hS : va_S A s.heap s.heap [] := va_S.rf
  have hP : va_P D xcl [(a0, .inr (5, [v3, .ref a2, .int 1, v4, v5, v6, v7, v8, v9, v10, v11, v12, v13, v14, v15, v16, v17, v18, v19, v20, v21, v22, v23, v24, v25, v26, v27, v28, v29, v30, v31, v32])), (a1, .inr (6, [.int 0, v33, v34, v35, v36, v37])), (a2, .inl (cT 4, 1024, .inr (.inr (.inr (.inr f38)))))] s.heap := hP
  have hl := lv_entry ([.ref a0, .int 1, .ref a1]) (n := 3) (Nat.le_of_ble_eq_true rfl)
  rw [lg_entry_eq]
  generalize (lg_sl ([.ref a0, .int 1, .ref a1]) ++ List.replicate (3 - (lg_sl ([.ref a0, .int 1, .ref a1])).length) Slot.unset).toArray = ls at hl ⊢
  have hl : lv_has ls 3 [(0, .ref a0), (1, .int 1), (2, .ref a1)] := hl
  refine lv_iload_n hx hb dM_one1_0 rfl (lv_at hl 1 rfl) ?_
  refine lv_tableIn (off := 85) (tgt := 86) hx hb dM_one1_1 (by decide) (by decide) (by decide) (by decide) ?_
  refine lv_aload_n hx hb dM_one1_86 rfl (lv_at hl 0 rfl) ?_
  refine lv_aload_n hx hb dM_one1_87 rfl (lv_at hl 2 rfl) ?_
  obtain ⟨hPc, hDc, hFc⟩ := xcut (wc := [(a1, .inr (6, [.int 0, v33, v34, v35, v36, v37])), (a0, .inr (5, [v3, .ref a2, .int 1, v4, v5, v6, v7, v8, v9, v10, v11, v12, v13, v14, v15, v16, v17, v18, v19, v20, v21, v22, v23, v24, v25, v26, v27, v28, v29, v30, v31, v32])), (a2, .inl (cT 4, 1024, .inr (.inr (.inr (.inr f38)))))]) hP hD hS hA [1, 0, 2] rfl rfl (by decide)
  refine va_callr (va_runV (C := "ValueBenchModel") (As := [.ref a1]) (rest := []) ⟨hx, hb, hml, hown, htx⟩ (cM_length_0 l hl9 D cT aK aV s.heap.size a1 a0 a2 v33 v34 v35 v36 v37 v3 v4 v5 v6 v7 v8 v9 v10 v11 v12 v13 v14 v15 v16 v17 v18 v19 v20 v21 v22 v23 v24 v25 v26 v27 v28 v29 v30 v31 v32 f38 (by first | rfl | exact h39)) ⟨callB_of 1 htx (xw_goodC kw_7_9) rfl rfl rfl (htx _ kw_1_5) (htx _ kw_7_6) ⟨by decide, by decide, by decide +kernel⟩ ⟨Nat.le_of_ble_eq_true rfl, Nat.le_of_ble_eq_true rfl⟩, (htx _ kw_7_8), (htx _ kp_M_length)⟩ ⟨xPre_blind, va_recv hK hP (ci := 5) rfl (q0 := 0) rfl, (fun U hU hW => ⟨rfl, xPre_of hZ hS hFc hPc hDc hK U hU hW⟩)⟩ rfl rfl hl.1 rfl (lv_room (Nat.le_of_ble_eq_true rfl)) dM_one1_88 ⟨Nat.le_of_ble_eq_true rfl, Nat.le_of_ble_eq_true rfl⟩) hS (fun q _ h => hFc q h) hFc (fun u9 r1 t H1 locs ht hvm hr9 hB hz1 hk1 hS => ?_)
  obtain ⟨hP1, hK1, hD1⟩ := hB
  rw [ht] at hP1
  obtain ⟨hP, hD⟩ := xjoin (W := [(a1, .inr (6, [.int 0, v33, v34, v35, v36, v37])), (a0, .inr (5, [v3, .ref a2, .int 2, v4, v5, v6, v7, v8, v9, v10, v11, v12, v13, v14, v15, v16, v17, v18, v19, v20, v21, v22, v23, v24, v25, v26, v27, v28, v29, v30, v31, v32])), (a2, .inl (cT 4, 1024, .inr (.inr (.inr (.inr (va_up f38 1 (some r1))))))), (r1, .inr (6, [.int 3, .long 0, .int 0, .int 0, .int 0, .int 1]))]) hP hD [1, 0, 2] [] 0 rfl rfl (by decide) (by decide) hk1 hFc hP1 hD1
  generalize H1 = H at hP hS ⊢
  refine W.eq (g2 := F0 m 91 ls [.ref r1]) rfl ?_
  obtain ⟨hP9, hD9⟩ := xsub (wc := [(a0, .inr (5, [v3, .ref a2, .int 2, v4, v5, v6, v7, v8, v9, v10, v11, v12, v13, v14, v15, v16, v17, v18, v19, v20, v21, v22, v23, v24, v25, v26, v27, v28, v29, v30, v31, v32])), (a1, .inr (6, [.int 0, v33, v34, v35, v36, v37])), (a2, .inl (cT 4, 1024, .inr (.inr (.inr (.inr (va_up f38 1 (some r1))))))), (r1, .inr (6, [.int 3, .long 0, .int 0, .int 0, .int 0, .int 1]))]) hP hD [1, 0, 2, 3] rfl rfl (by decide)
  refine W.widen (k := 1) (n := 6) (Nat.le_of_ble_eq_true rfl) (Nat.le_of_ble_eq_true rfl) ?_
  exact W.aret hx hb hr (Or.inl ⟨_, rfl⟩) (Or.inr ⟨_, rfl⟩) (fun t ht hW => ⟨⟨(), r1, rfl, trivial, by rw [ht]; exact hP9, va_K.moved hW.alike hK, hD9⟩, hS.F ht⟩) hS.2.2 dM_one1_91
set_option maxHeartbeats 400000000 in
set_option maxRecDepth 100000 in
theorem cM_putNumber_0 (l : Launch) (hl9 : l.stackTraces = false) (D : va_G) (cT : Nat → ClassId) (aK aV : Nat → Nat) (sz : Nat) (a0 : Nat) (a1 : Nat) (v2 : Value) (v3 : Value) (v4 : Value) (v5 : Value) (v6 : Value) (v7 : Value) (v8 : Value) (v9 : Value) (v10 : Value) (v11 : Value) (v12 : Value) (v13 : Value) (v14 : Value) (v15 : Value) (v16 : Value) (v17 : Value) (v18 : Value) (v19 : Value) (v20 : Value) (v21 : Value) (v22 : Value) (v23 : Value) (v24 : Value) (v25 : Value) (v26 : Value) (v27 : Value) (v28 : Value) (v29 : Value) (v30 : Value) (f31 : Nat → Int32) : xMet l yM_putNumber wyM_putNumber 1 0 0 23 D cT aK aV sz [.ref a0, .long 0] [(a0, .inr (5, [v2, v3, v4, v5, v6, v7, v8, v9, v10, v11, v12, v13, v14, v15, v16, v17, v18, v19, v20, v21, v22, .ref a1, .int 0, .int 4096, v23, v24, v25, v26, v27, v28, v29, v30])), (a1, .inl (cT 0, 1024, .inl f31))] (fun A => va_Qv (fun _ : Unit => True) (fun _ t => ∃ (y1 : Int32), xB D xcl cT A [(a0, .inr (5, [v2, v3, v4, v5, v6, v7, v8, v9, v10, v11, v12, v13, v14, v15, v16, v17, v18, v19, v20, v21, v22, .ref a1, .int 1, .int 4096, v23, v24, v25, v26, v27, v28, v29, v30])), (a1, .inl (cT 0, 1024, .inl (upd f31 0 (vp_nar .byte y1))))] t) A) := by
  refine Met.ofW (cc := prog_13_method_43_code) (maxL := 7) (ret := none) (by decide) rfl ?_
  intro p e s m args below meth c s₁ B hml hv
  obtain ⟨rfl, hsz, hZ, hP, hK, hD0⟩ := hv
  have hx := B.exec
  have hb := B.bytes
  have hr := B.returns
  have hts := atoms_spec (ws := wyM_putNumber) B.pre
  have htx := fun w h => hts w (List.mem_cons_of_mem _ h)
  have hown : s.vm.findClass "ValueBenchModel" = some m.cls := findClass_of_methodNamed B.named
  have hlocks := B.notSynchronized
  subst hsz
  have hD := hD0.self (sz := s.heap.size)
  generalize hAe : va_A [(a0, .inr (5, [v2, v3, v4, v5, v6, v7, v8, v9, v10, v11, v12, v13, v14, v15, v16, v17, v18, v19, v20, v21, v22, .ref a1, .int 0, .int 4096, v23, v24, v25, v26, v27, v28, v29, v30])), (a1, .inl (cT 0, 1024, .inl f31))] s.heap.size = A at hD hZ ⊢
  have hA : ∀ q : Nat, s.heap.size ≤ q → A q := fun q h => by rw [← hAe]; exact Or.inr h
  have hS : va_S A s.heap s.heap [] := va_S.rf
  have hP : va_P D xcl [(a0, .inr (5, [v2, v3, v4, v5, v6, v7, v8, v9, v10, v11, v12, v13, v14, v15, v16, v17, v18, v19, v20, v21, v22, .ref a1, .int 0, .int 4096, v23, v24, v25, v26, v27, v28, v29, v30])), (a1, .inl (cT 0, 1024, .inl f31))] s.heap := hP
  have hl := lv_entry ([.ref a0, .long 0]) (n := 7) (Nat.le_of_ble_eq_true rfl)
  rw [lg_entry_eq]
  generalize (lg_sl ([.ref a0, .long 0]) ++ List.replicate (7 - (lg_sl ([.ref a0, .long 0])).length) Slot.unset).toArray = ls at hl ⊢
  have hl : lv_has ls 7 [(0, .ref a0), (1, .long 0)] := hl
  refine lv_lload_n hx hb dM_putNumber_0 rfl (lv_at hl 1 rfl) ?_
  refine lv_lconst (v := 0) hx hb dM_putNumber_1 (by decide) ?_
  refine W.lcmp hx hb dM_putNumber_2 ?_
  refine W.eq (g2 := F0 m 3 ls [.int 0]) rfl ?_
  refine lv_if_ge (tgt := 12) hx hb dM_putNumber_3 (by decide) (fun _ => ?_) (fun h => ((by revert h; decide : False)).elim)
  refine lv_lload_n hx hb dM_putNumber_12 rfl (lv_at hl 1 rfl) ?_
  refine lv_lconst (v := 0) hx hb dM_putNumber_13 (by decide) ?_
  refine W.lcmp hx hb dM_putNumber_14 ?_
  refine W.eq (g2 := F0 m 15 ls [.int 0]) rfl ?_
  refine lv_if_ge (tgt := 23) hx hb dM_putNumber_15 (by decide) (fun _ => ?_) (fun h => ((by revert h; decide : False)).elim)
  refine lv_lload_n hx hb dM_putNumber_23 rfl (lv_at hl 1 rfl) ?_
  refine lv_lstore_n (lv' := [(3, .long 0), (0, .ref a0), (1, .long 0)]) hx hb dM_putNumber_24 rfl hl (by decide) rfl (fun ls hl => ?_)
  refine lv_lconst (v := 1) hx hb dM_putNumber_25 (by decide) ?_
  refine lv_lstore (lv' := [(5, .long 1), (3, .long 0), (0, .ref a0), (1, .long 0)]) hx hb dM_putNumber_26 hl (by decide) rfl (fun ls hl => ?_)
  refine lv_lload_n hx hb dM_putNumber_28 rfl (lv_at hl 1 rfl) ?_
  refine lv_lload hx hb dM_putNumber_29 (lv_at hl 0 rfl) ?_
  refine lv_ldiv hx hb dM_putNumber_31 (by decide) ?_
  refine W.eq (g2 := F0 m 32 ls [.long 0]) rfl ?_
  refine lv_ldc2 hx hb hown (htx _ kw_6_141) dM_putNumber_32 ?_
  refine W.lcmp hx hb dM_putNumber_35 ?_
  refine W.eq (g2 := F0 m 36 ls [.int (-1)]) rfl ?_
  refine lv_if_le (tgt := 50) hx hb dM_putNumber_36 (by decide) (fun _ => ?_) (fun h => ((by revert h; decide : False)).elim)
  refine lv_lload hx hb dM_putNumber_50 (lv_at hl 0 rfl) ?_
  refine lv_lconst (v := 0) hx hb dM_putNumber_52 (by decide) ?_
  refine W.lcmp hx hb dM_putNumber_53 ?_
  refine W.eq (g2 := F0 m 54 ls [.int 1]) rfl ?_
  refine lv_if_le (tgt := 85) hx hb dM_putNumber_54 (by decide) (fun h => ((by revert h; decide : False)).elim) (fun _ => ?_)
  refine lv_aload_n hx hb dM_putNumber_57 rfl (lv_at hl 2 rfl) ?_
  refine lv_ldc2 hx hb hown (htx _ kw_6_79) dM_putNumber_58 ?_
  refine lv_lload_n hx hb dM_putNumber_61 rfl (lv_at hl 1 rfl) ?_
  refine lv_lload hx hb dM_putNumber_62 (lv_at hl 0 rfl) ?_
  refine lv_ldiv hx hb dM_putNumber_64 (by decide) ?_
  refine W.eq (g2 := F0 m 65 ls [.long 0, .long 48, .ref a0]) rfl ?_
  refine lv_ldc2 hx hb hown (htx _ kw_6_78) dM_putNumber_65 ?_
  refine lv_lrem hx hb dM_putNumber_68 (by decide) ?_
  refine W.eq (g2 := F0 m 69 ls [.long 0, .long 48, .ref a0]) rfl ?_
  refine lv_ladd hx hb dM_putNumber_69 ?_
  refine W.eq (g2 := F0 m 70 ls [.long 48, .ref a0]) rfl ?_
  refine lv_l2i hx hb dM_putNumber_70 rfl ?_
  refine W.eq (g2 := F0 m 71 ls [.int 48, .ref a0]) rfl ?_
  obtain ⟨hPc, hDc, hFc⟩ := xcut (wc := [(a0, .inr (5, [v2, v3, v4, v5, v6, v7, v8, v9, v10, v11, v12, v13, v14, v15, v16, v17, v18, v19, v20, v21, v22, .ref a1, .int 0, .int 4096, v23, v24, v25, v26, v27, v28, v29, v30])), (a1, .inl (cT 0, 1024, .inl f31))]) hP hD hS hA [0, 1] rfl rfl (by decide)
  refine va_callv (va_runV (C := "ValueBenchModel") (As := [.int 48]) (rest := []) ⟨hx, hb, hml, hown, htx⟩ (cM_put0_0 l hl9 D cT aK aV s.heap.size a0 a1 48 v2 v3 v4 v5 v6 v7 v8 v9 v10 v11 v12 v13 v14 v15 v16 v17 v18 v19 v20 v21 v22 v23 v24 v25 v26 v27 v28 v29 v30 f31) ⟨callB_of 1 htx (xw_goodC kw_6_136) rfl rfl rfl (htx _ kw_1_5) (htx _ kw_6_133) ⟨by decide, by decide, by decide +kernel⟩ ⟨Nat.le_of_ble_eq_true rfl, Nat.le_of_ble_eq_true rfl⟩, (htx _ kw_6_135), (htx _ kp_M_put0)⟩ ⟨xPre_blind, va_recv hK hP (ci := 5) rfl (q0 := 0) rfl, (fun U hU hW => ⟨rfl, xPre_of hZ hS hFc hPc hDc hK U hU hW⟩)⟩ rfl rfl hl.1 rfl (lv_room (Nat.le_of_ble_eq_true rfl)) dM_putNumber_71 ⟨Nat.le_of_ble_eq_true rfl, Nat.le_of_ble_eq_true rfl⟩) hS (fun q _ h => hFc q h) hFc (fun u9 t H1 locs ht hvm hr9 hB hz1 hk1 hS => ?_)
  obtain ⟨y1, hP1, hK1, hD1⟩ := hB
  rw [ht] at hP1
  obtain ⟨hP, hD⟩ := xjoin (W := [(a0, .inr (5, [v2, v3, v4, v5, v6, v7, v8, v9, v10, v11, v12, v13, v14, v15, v16, v17, v18, v19, v20, v21, v22, .ref a1, .int 1, .int 4096, v23, v24, v25, v26, v27, v28, v29, v30])), (a1, .inl (cT 0, 1024, .inl (upd f31 0 (vp_nar .byte y1))))]) hP hD [0, 1] [] 0 rfl rfl (by decide) (by decide) hk1 hFc hP1 hD1
  generalize H1 = H at hP hS ⊢
  refine lv_lload hx hb dM_putNumber_74 (lv_at hl 0 rfl) ?_
  refine lv_ldc2 hx hb hown (htx _ kw_6_78) dM_putNumber_76 ?_
  refine lv_ldiv hx hb dM_putNumber_79 (by decide) ?_
  refine W.eq (g2 := F0 m 80 ls [.long 0]) rfl ?_
  refine lv_lstore (lv' := [(5, .long 0), (3, .long 0), (0, .ref a0), (1, .long 0)]) hx hb dM_putNumber_80 hl (by decide) rfl (fun ls hl => ?_)
  refine lv_goto (tgt := 50) hx hb dM_putNumber_82 (by decide) ?_
  refine lv_lload hx hb dM_putNumber_50 (lv_at hl 0 rfl) ?_
  refine lv_lconst (v := 0) hx hb dM_putNumber_52 (by decide) ?_
  refine W.lcmp hx hb dM_putNumber_53 ?_
  refine W.eq (g2 := F0 m 54 ls [.int 0]) rfl ?_
  refine lv_if_le (tgt := 85) hx hb dM_putNumber_54 (by decide) (fun _ => ?_) (fun h => ((by revert h; decide : False)).elim)
  obtain ⟨hP9, hD9⟩ := xsub (wc := [(a0, .inr (5, [v2, v3, v4, v5, v6, v7, v8, v9, v10, v11, v12, v13, v14, v15, v16, v17, v18, v19, v20, v21, v22, .ref a1, .int 1, .int 4096, v23, v24, v25, v26, v27, v28, v29, v30])), (a1, .inl (cT 0, 1024, .inl (upd f31 0 (vp_nar .byte y1))))]) hP hD [0, 1] rfl rfl (by decide)
  refine W.widen (k := 0) (n := 0) (Nat.le_of_ble_eq_true rfl) (Nat.le_of_ble_eq_true rfl) ?_
  exact W.vret hx hb hr (fun t ht hW => ⟨⟨(), rfl, trivial, y1, by rw [ht]; exact hP9, va_K.moved hW.alike hK, hD9⟩, hS.F ht⟩) hS.2.2 dM_putNumber_85
set_option maxHeartbeats 400000000 in
set_option maxRecDepth 100000 in
theorem cM_print1_2 (l : Launch) (hl9 : l.stackTraces = false) (D : va_G) (cT : Nat → ClassId) (aK aV : Nat → Nat) (sz : Nat) (a0 : Nat) (a1 : Nat) (a2 : Nat) (v3 : Value) (v4 : Value) (v5 : Value) (v6 : Value) (v7 : Value) (v8 : Value) (v9 : Value) (v10 : Value) (v11 : Value) (v12 : Value) (v13 : Value) (v14 : Value) (v15 : Value) (v16 : Value) (v17 : Value) (v18 : Value) (v19 : Value) (v20 : Value) (v21 : Value) (v22 : Value) (v23 : Value) (v24 : Value) (v25 : Value) (v26 : Value) (v27 : Value) (v28 : Value) (v29 : Value) (v30 : Value) (v31 : Value) (v32 : Value) (v33 : Value) (v34 : Value) (v35 : Value) (f36 : Nat → Int32) : xMet l yM_print1 wyM_print1 2 0 0 49 D cT aK aV sz [.ref a1, .ref a0] [(a0, .inr (6, [.int 3, .long 0, v3, v4, v5, v6])), (a1, .inr (5, [v7, v8, v9, v10, v11, v12, v13, v14, v15, v16, v17, v18, v19, v20, v21, v22, v23, v24, v25, v26, v27, .ref a2, .int 0, .int 4096, v28, v29, v30, v31, v32, v33, v34, v35])), (a2, .inl (cT 0, 1024, .inl f36))] (fun A => va_Qv (fun _ : Unit => True) (fun _ t => ∃ (y1 : Int32), xB D xcl cT A [(a0, .inr (6, [.int 3, .long 0, v3, v4, v5, v6])), (a1, .inr (5, [v7, v8, v9, v10, v11, v12, v13, v14, v15, v16, v17, v18, v19, v20, v21, v22, v23, v24, v25, v26, v27, .ref a2, .int 1, .int 4096, v28, v29, v30, v31, v32, v33, v34, v35])), (a2, .inl (cT 0, 1024, .inl (upd f36 0 (vp_nar .byte y1))))] t) A) := by
  refine Met.ofW (cc := prog_13_method_46_code) (maxL := 3) (ret := none) (by decide) rfl ?_
  intro p e s m args below meth c s₁ B hml hv
  obtain ⟨rfl, hsz, hZ, hP, hK, hD0⟩ := hv
  have hx := B.exec
  have hb := B.bytes
  have hr := B.returns
  have hts := atoms_spec (ws := wyM_print1) B.pre
  have htx := fun w h => hts w (List.mem_cons_of_mem _ h)
  have hown : s.vm.findClass "ValueBenchModel" = some m.cls := findClass_of_methodNamed B.named
  have hlocks := B.notSynchronized
  subst hsz
  have hD := hD0.self (sz := s.heap.size)
  generalize hAe : va_A [(a0, .inr (6, [.int 3, .long 0, v3, v4, v5, v6])), (a1, .inr (5, [v7, v8, v9, v10, v11, v12, v13, v14, v15, v16, v17, v18, v19, v20, v21, v22, v23, v24, v25, v26, v27, .ref a2, .int 0, .int 4096, v28, v29, v30, v31, v32, v33, v34, v35])), (a2, .inl (cT 0, 1024, .inl f36))] s.heap.size = A at hD hZ ⊢
  have hA : ∀ q : Nat, s.heap.size ≤ q → A q := fun q h => by rw [← hAe]; exact Or.inr h
  have hS : va_S A s.heap s.heap [] := va_S.rf
  have hP : va_P D xcl [(a0, .inr (6, [.int 3, .long 0, v3, v4, v5, v6])), (a1, .inr (5, [v7, v8, v9, v10, v11, v12, v13, v14, v15, v16, v17, v18, v19, v20, v21, v22, v23, v24, v25, v26, v27, .ref a2, .int 0, .int 4096, v28, v29, v30, v31, v32, v33, v34, v35])), (a2, .inl (cT 0, 1024, .inl f36))] s.heap := hP
  have hl := lv_entry ([.ref a1, .ref a0]) (n := 3) (Nat.le_of_ble_eq_true rfl)
  rw [lg_entry_eq]
  generalize (lg_sl ([.ref a1, .ref a0]) ++ List.replicate (3 - (lg_sl ([.ref a1, .ref a0])).length) Slot.unset).toArray = ls at hl ⊢
  have hl : lv_has ls 3 [(0, .ref a1), (1, .ref a0)] := hl
  refine lv_aload_n hx hb dM_print1_0 rfl (lv_at hl 1 rfl) ?_
  refine va_getN (D := D) (ci := 6) (v := .int 3) (C := "ValueBenchModel$V") (T := TV) (N := 6) hx hb htx inV hown hK hP 0 rfl rfl 0 (by decide) ((hZ.1 (93, "kind", "I") (List.mem_of_getElem? (i := 0) rfl)).use rfl) (fun _ h9 => h9) rfl dM_print1_1 ?_
  refine lv_tableIn (off := 57) (tgt := 61) hx hb dM_print1_4 (by decide) (by decide) (by decide) (by decide) ?_
  refine lv_aload_n hx hb dM_print1_61 rfl (lv_at hl 0 rfl) ?_
  refine lv_aload_n hx hb dM_print1_62 rfl (lv_at hl 1 rfl) ?_
  refine va_getN (D := D) (ci := 6) (v := .long 0) (C := "ValueBenchModel$V") (T := TV) (N := 6) hx hb htx inV hown hK hP 0 rfl rfl 1 (by decide) ((hZ.1 (96, "n", "J") (List.mem_of_getElem? (i := 1) rfl)).use rfl) (fun _ h9 => h9) rfl dM_print1_63 ?_
  obtain ⟨hPc, hDc, hFc⟩ := xcut (wc := [(a1, .inr (5, [v7, v8, v9, v10, v11, v12, v13, v14, v15, v16, v17, v18, v19, v20, v21, v22, v23, v24, v25, v26, v27, .ref a2, .int 0, .int 4096, v28, v29, v30, v31, v32, v33, v34, v35])), (a2, .inl (cT 0, 1024, .inl f36))]) hP hD hS hA [1, 2] rfl rfl (by decide)
  refine va_callv (va_runV (C := "ValueBenchModel") (As := [.long 0]) (rest := []) ⟨hx, hb, hml, hown, htx⟩ (cM_putNumber_0 l hl9 D cT aK aV s.heap.size a1 a2 v7 v8 v9 v10 v11 v12 v13 v14 v15 v16 v17 v18 v19 v20 v21 v22 v23 v24 v25 v26 v27 v28 v29 v30 v31 v32 v33 v34 v35 f36) ⟨callB_of 1 htx (xw_goodC kw_6_140) rfl rfl rfl (htx _ kw_1_5) (htx _ kw_6_137) ⟨by decide, by decide, by decide +kernel⟩ ⟨Nat.le_of_ble_eq_true rfl, Nat.le_of_ble_eq_true rfl⟩, (htx _ kw_6_139), (htx _ kp_M_putNumber)⟩ ⟨xPre_blind, va_recv hK hP (ci := 5) rfl (q0 := 1) rfl, (fun U hU hW => ⟨rfl, xPre_of hZ hS hFc hPc hDc hK U hU hW⟩)⟩ rfl rfl hl.1 rfl (lv_room (Nat.le_of_ble_eq_true rfl)) dM_print1_66 ⟨Nat.le_of_ble_eq_true rfl, Nat.le_of_ble_eq_true rfl⟩) hS (fun q _ h => hFc q h) hFc (fun u9 t H1 locs ht hvm hr9 hB hz1 hk1 hS => ?_)
  obtain ⟨y1, hP1, hK1, hD1⟩ := hB
  rw [ht] at hP1
  obtain ⟨hP, hD⟩ := xjoin (W := [(a0, .inr (6, [.int 3, .long 0, v3, v4, v5, v6])), (a1, .inr (5, [v7, v8, v9, v10, v11, v12, v13, v14, v15, v16, v17, v18, v19, v20, v21, v22, v23, v24, v25, v26, v27, .ref a2, .int 1, .int 4096, v28, v29, v30, v31, v32, v33, v34, v35])), (a2, .inl (cT 0, 1024, .inl (upd f36 0 (vp_nar .byte y1))))]) hP hD [1, 2] [0] 1 rfl rfl (by decide) (by decide) hk1 hFc hP1 hD1
  generalize H1 = H at hP hS ⊢
  obtain ⟨hP9, hD9⟩ := xsub (wc := [(a0, .inr (6, [.int 3, .long 0, v3, v4, v5, v6])), (a1, .inr (5, [v7, v8, v9, v10, v11, v12, v13, v14, v15, v16, v17, v18, v19, v20, v21, v22, v23, v24, v25, v26, v27, .ref a2, .int 1, .int 4096, v28, v29, v30, v31, v32, v33, v34, v35])), (a2, .inl (cT 0, 1024, .inl (upd f36 0 (vp_nar .byte y1))))]) hP hD [0, 1, 2] rfl rfl (by decide)
  refine W.widen (k := 0) (n := 0) (Nat.le_of_ble_eq_true rfl) (Nat.le_of_ble_eq_true rfl) ?_
  exact W.vret hx hb hr (fun t ht hW => ⟨⟨(), rfl, trivial, y1, by rw [ht]; exact hP9, va_K.moved hW.alike hK, hD9⟩, hS.F ht⟩) hS.2.2 dM_print1_69
set_option maxHeartbeats 400000000 in
set_option maxRecDepth 100000 in
theorem cM_store_2 (l : Launch) (hl9 : l.stackTraces = false) (D : va_G) (cT : Nat → ClassId) (aK aV : Nat → Nat) (sz : Nat) (a0 : Nat) (a1 : Nat) (a2 : Nat) (a3 : Nat) (a4 : Nat) (a5 : Nat) (x6 : Int32) (v11 : Value) (v12 : Value) (v13 : Value) (v14 : Value) (v15 : Value) (v16 : Value) (v17 : Value) (v18 : Value) (v19 : Value) (v20 : Value) (v21 : Value) (v22 : Value) (v23 : Value) (v24 : Value) (v25 : Value) (v26 : Value) (v27 : Value) (v28 : Value) (v29 : Value) (v30 : Value) (v31 : Value) (v32 : Value) (v33 : Value) (v34 : Value) (v35 : Value) (v36 : Value) (v37 : Value) (v38 : Value) (v39 : Value) (v40 : Value) (v41 : Value) (v42 : Value) (v43 : Value) (f44 : Nat → Int32) (f45 : Nat → Option Nat) (f47 : Nat → Int32) (f48 : Nat → Int32) (h7 : ¬ x6 < 0) (h8 : ¬ 7 < x6) (h9 : x6 ≤ 7) (h10 : vp_in x6 8) (h46 : f45 x6.toNatClampNeg = some a4) : xMet l yM_store wyM_store 3 0 0 71 D cT aK aV sz [.ref a0, .int x6, .ref a1] [(a0, .inr (5, [v11, v12, v13, v14, v15, v16, v17, v18, v19, v20, v21, v22, v23, v24, v25, v26, v27, v28, v29, v30, v31, .ref a2, v32, v33, .ref a3, .ref a5, v34, v35, v36, v37, v38, v39])), (a1, .inr (6, [.int 3, .long 0, v40, v41, v42, v43])), (a2, .inl (cT 0, 1024, .inl f44)), (a3, .inl (cT 5, 8, .inr (.inr (.inr (.inr f45))))), (a4, .inl (cT 0, 4096, .inl f47)), (a5, .inl (cT 1, 8, .inl f48))] (fun A => va_Qi (fun (r : Int32) (_ : Unit) => r = 1) (fun _ t => ∃ (y1 : Int32), xB D xcl cT A [(a0, .inr (5, [v11, v12, v13, v14, v15, v16, v17, v18, v19, v20, v21, v22, v23, v24, v25, v26, v27, v28, v29, v30, v31, .ref a2, .int 1, .int 4096, .ref a3, .ref a5, v34, v35, v36, v37, v38, v39])), (a1, .inr (6, [.int 3, .long 0, v40, v41, v42, v43])), (a2, .inl (cT 0, 1024, .inl (upd f44 0 (vp_nar .byte y1)))), (a3, .inl (cT 5, 8, .inr (.inr (.inr (.inr f45))))), (a4, .inl (cT 0, 4096, .inl (upd f47 0 (vp_nar .byte (vp_nar .byte y1))))), (a5, .inl (cT 1, 8, .inl (upd f48 x6.toNatClampNeg 1)))] t) A) := by
  refine Met.ofW (cc := prog_13_method_80_code) (maxL := 4) (ret := (some .int)) (by decide) rfl ?_
  intro p e s m args below meth c s₁ B hml hv
  obtain ⟨rfl, hsz, hZ, hP, hK, hD0⟩ := hv
  have hx := B.exec
  have hb := B.bytes
  have hr := B.returns
  have hts := atoms_spec (ws := wyM_store) B.pre
  have htx := fun w h => hts w (List.mem_cons_of_mem _ h)
  have hown : s.vm.findClass "ValueBenchModel" = some m.cls := findClass_of_methodNamed B.named
  have hlocks := B.notSynchronized
  subst hsz
  have hD := hD0.self (sz := s.heap.size)
  generalize hAe : va_A [(a0, .inr (5, [v11, v12, v13, v14, v15, v16, v17, v18, v19, v20, v21, v22, v23, v24, v25, v26, v27, v28, v29, v30, v31, .ref a2, v32, v33, .ref a3, .ref a5, v34, v35, v36, v37, v38, v39])), (a1, .inr (6, [.int 3, .long 0, v40, v41, v42, v43])), (a2, .inl (cT 0, 1024, .inl f44)), (a3, .inl (cT 5, 8, .inr (.inr (.inr (.inr f45))))), (a4, .inl (cT 0, 4096, .inl f47)), (a5, .inl (cT 1, 8, .inl f48))] s.heap.size = A at hD hZ ⊢
  have hA : ∀ q : Nat, s.heap.size ≤ q → A q := fun q h => by rw [← hAe]; exact Or.inr h
  have hS : va_S A s.heap s.heap [] := va_S.rf
  have hP : va_P D xcl [(a0, .inr (5, [v11, v12, v13, v14, v15, v16, v17, v18, v19, v20, v21, v22, v23, v24, v25, v26, v27, v28, v29, v30, v31, .ref a2, v32, v33, .ref a3, .ref a5, v34, v35, v36, v37, v38, v39])), (a1, .inr (6, [.int 3, .long 0, v40, v41, v42, v43])), (a2, .inl (cT 0, 1024, .inl f44)), (a3, .inl (cT 5, 8, .inr (.inr (.inr (.inr f45))))), (a4, .inl (cT 0, 4096, .inl f47)), (a5, .inl (cT 1, 8, .inl f48))] s.heap := hP
  have hl := lv_entry ([.ref a0, .int x6, .ref a1]) (n := 4) (Nat.le_of_ble_eq_true rfl)
  rw [lg_entry_eq]
  generalize (lg_sl ([.ref a0, .int x6, .ref a1]) ++ List.replicate (4 - (lg_sl ([.ref a0, .int x6, .ref a1])).length) Slot.unset).toArray = ls at hl ⊢
  have hl : lv_has ls 4 [(0, .ref a0), (1, .int x6), (2, .ref a1)] := hl
  refine lv_aload_n hx hb dM_store_0 rfl (lv_at hl 0 rfl) ?_
  refine lv_iconst (v := 0) hx hb dM_store_1 (by decide) ?_
  refine va_put (D := D) (ci := 5) (v := .int 0) (ty := .int) (C := "ValueBenchModel") (T := TM) (N := 32) hx hb htx inM tyM tyM_ok nmM hown hK hP hD hS 0 rfl rfl 22 (by decide) (htx _ kw_5_109) (fun _ h9 => h9) rfl (by decide +kernel) rfl rfl (Nat.le_of_ble_eq_true rfl) dM_store_2 (fun H locs hP hD hS => ?_)
  obtain ⟨hP, hD⟩ : xPD D xcl A [(a0, .inr (5, [v11, v12, v13, v14, v15, v16, v17, v18, v19, v20, v21, v22, v23, v24, v25, v26, v27, v28, v29, v30, v31, .ref a2, .int 0, v33, .ref a3, .ref a5, v34, v35, v36, v37, v38, v39])), (a1, .inr (6, [.int 3, .long 0, v40, v41, v42, v43])), (a2, .inl (cT 0, 1024, .inl f44)), (a3, .inl (cT 5, 8, .inr (.inr (.inr (.inr f45))))), (a4, .inl (cT 0, 4096, .inl f47)), (a5, .inl (cT 1, 8, .inl f48))] H := ⟨hP, hD⟩
  refine lv_aload_n hx hb dM_store_5 rfl (lv_at hl 0 rfl) ?_
  refine lv_sipush (v := 4096) hx hb dM_store_6 (by decide) ?_
  refine va_put (D := D) (ci := 5) (v := .int 4096) (ty := .int) (C := "ValueBenchModel") (T := TM) (N := 32) hx hb htx inM tyM tyM_ok nmM hown hK hP hD hS 0 rfl rfl 23 (by decide) (htx _ kw_5_110) (fun _ h9 => h9) rfl (by decide +kernel) rfl rfl (Nat.le_of_ble_eq_true rfl) dM_store_9 (fun H locs hP hD hS => ?_)
  obtain ⟨hP, hD⟩ : xPD D xcl A [(a0, .inr (5, [v11, v12, v13, v14, v15, v16, v17, v18, v19, v20, v21, v22, v23, v24, v25, v26, v27, v28, v29, v30, v31, .ref a2, .int 0, .int 4096, .ref a3, .ref a5, v34, v35, v36, v37, v38, v39])), (a1, .inr (6, [.int 3, .long 0, v40, v41, v42, v43])), (a2, .inl (cT 0, 1024, .inl f44)), (a3, .inl (cT 5, 8, .inr (.inr (.inr (.inr f45))))), (a4, .inl (cT 0, 4096, .inl f47)), (a5, .inl (cT 1, 8, .inl f48))] H := ⟨hP, hD⟩
  refine lv_aload_n hx hb dM_store_12 rfl (lv_at hl 0 rfl) ?_
  refine lv_aload_n hx hb dM_store_13 rfl (lv_at hl 2 rfl) ?_
  obtain ⟨hPc, hDc, hFc⟩ := xcut (wc := [(a1, .inr (6, [.int 3, .long 0, v40, v41, v42, v43])), (a0, .inr (5, [v11, v12, v13, v14, v15, v16, v17, v18, v19, v20, v21, v22, v23, v24, v25, v26, v27, v28, v29, v30, v31, .ref a2, .int 0, .int 4096, .ref a3, .ref a5, v34, v35, v36, v37, v38, v39])), (a2, .inl (cT 0, 1024, .inl f44))]) hP hD hS hA [1, 0, 2] rfl rfl (by decide)
  refine va_callv (va_runV (C := "ValueBenchModel") (As := [.ref a1]) (rest := []) ⟨hx, hb, hml, hown, htx⟩ (cM_print1_2 l hl9 D cT aK aV H.size a1 a0 a2 v40 v41 v42 v43 v11 v12 v13 v14 v15 v16 v17 v18 v19 v20 v21 v22 v23 v24 v25 v26 v27 v28 v29 v30 v31 (.ref a3) (.ref a5) v34 v35 v36 v37 v38 v39 f44) ⟨callB_of 1 htx (xw_goodC kw_6_128) rfl rfl rfl (htx _ kw_1_5) (htx _ kw_6_125) ⟨by decide, by decide, by decide +kernel⟩ ⟨Nat.le_of_ble_eq_true rfl, Nat.le_of_ble_eq_true rfl⟩, (htx _ kw_6_127), (htx _ kp_M_print1)⟩ ⟨xPre_blind, va_recv hK hP (ci := 5) rfl (q0 := 0) rfl, (fun U hU hW => ⟨rfl, xPre_of hZ hS hFc hPc hDc hK U hU hW⟩)⟩ rfl rfl hl.1 rfl (lv_room (Nat.le_of_ble_eq_true rfl)) dM_store_14 ⟨Nat.le_of_ble_eq_true rfl, Nat.le_of_ble_eq_true rfl⟩) hS (fun q _ h => hFc q h) hFc (fun u9 t H1 locs ht hvm hr9 hB hz1 hk1 hS => ?_)
  obtain ⟨y1, hP1, hK1, hD1⟩ := hB
  rw [ht] at hP1
  obtain ⟨hP, hD⟩ := xjoin (W := [(a3, .inl (cT 5, 8, .inr (.inr (.inr (.inr f45))))), (a4, .inl (cT 0, 4096, .inl f47)), (a5, .inl (cT 1, 8, .inl f48)), (a1, .inr (6, [.int 3, .long 0, v40, v41, v42, v43])), (a0, .inr (5, [v11, v12, v13, v14, v15, v16, v17, v18, v19, v20, v21, v22, v23, v24, v25, v26, v27, v28, v29, v30, v31, .ref a2, .int 1, .int 4096, .ref a3, .ref a5, v34, v35, v36, v37, v38, v39])), (a2, .inl (cT 0, 1024, .inl (upd f44 0 (vp_nar .byte y1))))]) hP hD [1, 0, 2] [3, 4, 5] 3 rfl rfl (by decide) (by decide) hk1 hFc hP1 hD1
  generalize H1 = H at hP hS ⊢
  refine lv_iconst (v := 0) hx hb dM_store_17 (by decide) ?_
  refine lv_istore_n (lv' := [(3, .int 0), (0, .ref a0), (1, .int x6), (2, .ref a1)]) hx hb dM_store_18 rfl hl (by decide) rfl (fun ls hl => ?_)
  refine lv_iload_n hx hb dM_store_19 rfl (lv_at hl 0 rfl) ?_
  refine lv_aload_n hx hb dM_store_20 rfl (lv_at hl 1 rfl) ?_
  refine va_get (D := D) (ci := 5) (v := .int 1) (C := "ValueBenchModel") (T := TM) (N := 32) hx hb htx inM hown hK hP 4 rfl rfl 22 (by decide) (htx _ kw_5_109) (fun _ h9 => h9) rfl dM_store_21 ?_
  refine lv_icmp_ge (tgt := 47) hx hb dM_store_24 (by decide) (fun h => ((by revert h; decide : False)).elim) (fun _ => ?_)
  refine lv_aload_n hx hb dM_store_27 rfl (lv_at hl 1 rfl) ?_
  refine va_get (D := D) (ci := 5) (v := .ref a3) (C := "ValueBenchModel") (T := TM) (N := 32) hx hb htx inM hown hK hP 4 rfl rfl 24 (by decide) (htx _ kw_5_111) (fun _ h9 => h9) rfl dM_store_28 ?_
  refine lv_iload_n hx hb dM_store_31 rfl (lv_at hl 2 rfl) ?_
  refine xx_aldA hx hb hK hP 0 5 rfl rfl h10 dM_store_32 ?_
  refine W.eq (g2 := F0 m 33 ls [va_rf (f45 x6.toNatClampNeg)]) rfl ?_
  rw [h46]
  refine W.eq (g2 := F0 m 33 ls [.ref a4]) rfl ?_
  refine lv_iload_n hx hb dM_store_33 rfl (lv_at hl 0 rfl) ?_
  refine lv_aload_n hx hb dM_store_34 rfl (lv_at hl 1 rfl) ?_
  refine va_get (D := D) (ci := 5) (v := .ref a2) (C := "ValueBenchModel") (T := TM) (N := 32) hx hb htx inM hown hK hP 4 rfl rfl 21 (by decide) (htx _ kw_5_108) (fun _ h9 => h9) rfl dM_store_35 ?_
  refine lv_iload_n hx hb dM_store_38 rfl (lv_at hl 0 rfl) ?_
  refine va_bald hx hb hK hP 5 0 rfl rfl (show ¬ ((0 : Int32) < 0 ∨ 1024 ≤ (0 : Int32).toNatClampNeg) by decide) dM_store_39 ?_
  refine W.eq (g2 := F0 m 40 ls [.int (vp_nar .byte y1), .int 0, .ref a4]) rfl ?_
  refine va_bast hx hb hK hP hD hS 1 0 rfl rfl (show ¬ ((0 : Int32) < 0 ∨ 4096 ≤ (0 : Int32).toNatClampNeg) by decide) dM_store_40 (fun H locs hP hD hS => ?_)
  obtain ⟨hP, hD⟩ : xPD D xcl A [(a3, .inl (cT 5, 8, .inr (.inr (.inr (.inr f45))))), (a4, .inl (cT 0, 4096, .inl (upd f47 0 (vp_nar .byte (vp_nar .byte y1))))), (a5, .inl (cT 1, 8, .inl f48)), (a1, .inr (6, [.int 3, .long 0, v40, v41, v42, v43])), (a0, .inr (5, [v11, v12, v13, v14, v15, v16, v17, v18, v19, v20, v21, v22, v23, v24, v25, v26, v27, v28, v29, v30, v31, .ref a2, .int 1, .int 4096, .ref a3, .ref a5, v34, v35, v36, v37, v38, v39])), (a2, .inl (cT 0, 1024, .inl (upd f44 0 (vp_nar .byte y1))))] H := ⟨hP, hD⟩
  refine lv_iinc (v := 1) (lv' := [(3, .int 1), (0, .ref a0), (1, .int x6), (2, .ref a1)]) hx hb dM_store_41 hl (k := 0) rfl (by decide) (by decide) rfl (fun ls hl => ?_)
  refine lv_goto (tgt := 19) hx hb dM_store_44 (by decide) ?_
  refine lv_iload_n hx hb dM_store_19 rfl (lv_at hl 0 rfl) ?_
  refine lv_aload_n hx hb dM_store_20 rfl (lv_at hl 1 rfl) ?_
  refine va_get (D := D) (ci := 5) (v := .int 1) (C := "ValueBenchModel") (T := TM) (N := 32) hx hb htx inM hown hK hP 4 rfl rfl 22 (by decide) (htx _ kw_5_109) (fun _ h9 => h9) rfl dM_store_21 ?_
  refine lv_icmp_ge (tgt := 47) hx hb dM_store_24 (by decide) (fun _ => ?_) (fun h => ((by revert h; decide : False)).elim)
  refine lv_aload_n hx hb dM_store_47 rfl (lv_at hl 1 rfl) ?_
  refine va_get (D := D) (ci := 5) (v := .ref a5) (C := "ValueBenchModel") (T := TM) (N := 32) hx hb htx inM hown hK hP 4 rfl rfl 25 (by decide) (htx _ kw_5_112) (fun _ h9 => h9) rfl dM_store_48 ?_
  refine lv_iload_n hx hb dM_store_51 rfl (lv_at hl 2 rfl) ?_
  refine lv_aload_n hx hb dM_store_52 rfl (lv_at hl 1 rfl) ?_
  refine va_get (D := D) (ci := 5) (v := .int 1) (C := "ValueBenchModel") (T := TM) (N := 32) hx hb htx inM hown hK hP 4 rfl rfl 22 (by decide) (htx _ kw_5_109) (fun _ h9 => h9) rfl dM_store_53 ?_
  refine va_iast hx hb hK hP hD hS 2 1 rfl rfl h10 dM_store_56 (fun H locs hP hD hS => ?_)
  obtain ⟨hP, hD⟩ : xPD D xcl A [(a3, .inl (cT 5, 8, .inr (.inr (.inr (.inr f45))))), (a4, .inl (cT 0, 4096, .inl (upd f47 0 (vp_nar .byte (vp_nar .byte y1))))), (a5, .inl (cT 1, 8, .inl (upd f48 x6.toNatClampNeg 1))), (a1, .inr (6, [.int 3, .long 0, v40, v41, v42, v43])), (a0, .inr (5, [v11, v12, v13, v14, v15, v16, v17, v18, v19, v20, v21, v22, v23, v24, v25, v26, v27, v28, v29, v30, v31, .ref a2, .int 1, .int 4096, .ref a3, .ref a5, v34, v35, v36, v37, v38, v39])), (a2, .inl (cT 0, 1024, .inl (upd f44 0 (vp_nar .byte y1))))] H := ⟨hP, hD⟩
  refine lv_aload_n hx hb dM_store_57 rfl (lv_at hl 1 rfl) ?_
  refine va_get (D := D) (ci := 5) (v := .int 1) (C := "ValueBenchModel") (T := TM) (N := 32) hx hb htx inM hown hK hP 4 rfl rfl 22 (by decide) (htx _ kw_5_109) (fun _ h9 => h9) rfl dM_store_58 ?_
  obtain ⟨hP9, hD9⟩ := xsub (wc := [(a0, .inr (5, [v11, v12, v13, v14, v15, v16, v17, v18, v19, v20, v21, v22, v23, v24, v25, v26, v27, v28, v29, v30, v31, .ref a2, .int 1, .int 4096, .ref a3, .ref a5, v34, v35, v36, v37, v38, v39])), (a1, .inr (6, [.int 3, .long 0, v40, v41, v42, v43])), (a2, .inl (cT 0, 1024, .inl (upd f44 0 (vp_nar .byte y1)))), (a3, .inl (cT 5, 8, .inr (.inr (.inr (.inr f45))))), (a4, .inl (cT 0, 4096, .inl (upd f47 0 (vp_nar .byte (vp_nar .byte y1))))), (a5, .inl (cT 1, 8, .inl (upd f48 x6.toNatClampNeg 1)))]) hP hD [4, 3, 5, 0, 1, 2] rfl rfl (by decide)
  refine W.widen (k := 0) (n := 0) (Nat.le_of_ble_eq_true rfl) (Nat.le_of_ble_eq_true rfl) ?_
  exact W.iret (v := 1) hx hb hr (fun t ht hW => ⟨⟨1, (), rfl, rfl, y1, by rw [ht]; exact hP9, va_K.moved hW.alike hK, hD9⟩, hS.F ht⟩) hS.2.2 dM_store_61
set_option maxHeartbeats 400000000 in
set_option maxRecDepth 100000 in
theorem cM_finish_15 (l : Launch) (hl9 : l.stackTraces = false) (D : va_G) (cT : Nat → ClassId) (aK aV : Nat → Nat) (sz : Nat) (a0 : Nat) (a1 : Nat) (a2 : Nat) (a3 : Nat) (a4 : Nat) (a5 : Nat) (x6 : Int32) (x11 : Int32) (x16 : Int32) (v17 : Value) (v18 : Value) (v19 : Value) (v20 : Value) (v21 : Value) (v22 : Value) (v23 : Value) (v24 : Value) (v25 : Value) (v26 : Value) (v27 : Value) (v28 : Value) (v29 : Value) (v30 : Value) (v31 : Value) (v32 : Value) (v33 : Value) (v34 : Value) (v35 : Value) (v36 : Value) (v37 : Value) (v38 : Value) (v39 : Value) (v40 : Value) (v41 : Value) (v42 : Value) (v43 : Value) (f44 : Nat → Option Nat) (f47 : Nat → Int32) (f49 : Nat → Int32) (f54 : Nat → Option Nat) (f57 : Nat → Int32) (h7 : ¬ x6 < 0) (h8 : ¬ 7 < x6) (h9 : x6 ≤ 7) (h10 : vp_in x6 8) (h12 : ¬ x11 < 0) (h13 : ¬ 7 < x11) (h14 : x11 ≤ 7) (h15 : vp_in x11 8) (h45 : f44 x11.toNatClampNeg = some a3) (h46 : f44 x6.toNatClampNeg = some a3) (h48 : f47 x11.toNatClampNeg = 4) (h50 : f49 0 = 110) (h51 : f49 1 = 117) (h52 : f49 2 = 108) (h53 : f49 3 = 108) (h55 : f54 0 = none) (h56 : f54 1 = none) : xMet l yM_finish wyM_finish 8 2 12 175 D cT aK aV sz [.ref a0, .int x6, .int 1, .int 1, .int x11, .int x16] [(a0, .inr (5, [v17, .ref a4, .int 0, v18, v19, v20, v21, v22, v23, v24, v25, v26, v27, v28, v29, v30, v31, v32, v33, v34, v35, .ref a5, v36, v37, .ref a1, .ref a2, v38, v39, v40, v41, v42, v43])), (a1, .inl (cT 5, 8, .inr (.inr (.inr (.inr f44))))), (a2, .inl (cT 1, 8, .inl f47)), (a3, .inl (cT 0, 4096, .inl f49)), (a4, .inl (cT 4, 1024, .inr (.inr (.inr (.inr f54))))), (a5, .inl (cT 0, 1024, .inl f57))] (fun A => va_Qv (fun _ : Unit => True) (fun _ t => ∃ (r1 : Nat) (r2 : Nat) (y4 : Int32), xB D xcl cT A [(a0, .inr (5, [v17, .ref a4, .int 2, v18, v19, v20, v21, v22, v23, v24, v25, v26, v27, v28, v29, .ref a3, .int 4, .int 4, .int 0, .int 100, v35, .ref a5, .int 1, .int 4096, .ref a1, .ref a2, v38, v39, v40, v41, v42, v43])), (a1, .inl (cT 5, 8, .inr (.inr (.inr (.inr f44))))), (a2, .inl (cT 1, 8, .inl (upd f47 x6.toNatClampNeg 1))), (a3, .inl (cT 0, 4096, .inl (upd f49 0 (vp_nar .byte (vp_nar .byte y4))))), (a4, .inl (cT 4, 1024, .inr (.inr (.inr (.inr (va_up (va_up f54 0 (some r1)) 1 (some r2))))))), (a5, .inl (cT 0, 1024, .inl (upd f57 0 (vp_nar .byte y4)))), (r1, .inr (6, [.int 0, .long 0, .int 0, .int 0, .int 0, .int 1])), (r2, .inr (6, [.int 3, .long 0, .int 0, .int 0, .int 0, .int 1]))] t) A) := by
  refine va_MetW (cc := prog_13_method_90_code) (maxL := 10) (ret := none) (hh := [(0, 128, 131, 83), (0, 128, 149, 86)]) (by decide) rfl ?_
  intro p e s m args below meth c s₁ B hml hv
  obtain ⟨rfl, hsz, hZ, hP, hK, hD0⟩ := hv
  have hx := B.exec
  have hb := B.bytes
  have hr := B.returns
  have hts := atoms_spec (ws := wyM_finish) B.pre
  have htx := fun w h => hts w (List.mem_cons_of_mem _ h)
  have hown : s.vm.findClass "ValueBenchModel" = some m.cls := findClass_of_methodNamed B.named
  have hlocks := B.notSynchronized
  subst hsz
  have hD := hD0.self (sz := s.heap.size)
  generalize hAe : va_A [(a0, .inr (5, [v17, .ref a4, .int 0, v18, v19, v20, v21, v22, v23, v24, v25, v26, v27, v28, v29, v30, v31, v32, v33, v34, v35, .ref a5, v36, v37, .ref a1, .ref a2, v38, v39, v40, v41, v42, v43])), (a1, .inl (cT 5, 8, .inr (.inr (.inr (.inr f44))))), (a2, .inl (cT 1, 8, .inl f47)), (a3, .inl (cT 0, 4096, .inl f49)), (a4, .inl (cT 4, 1024, .inr (.inr (.inr (.inr f54))))), (a5, .inl (cT 0, 1024, .inl f57))] s.heap.size = A at hD hZ ⊢
  have hA : ∀ q : Nat, s.heap.size ≤ q → A q := fun q h => by rw [← hAe]; exact Or.inr h
  have hS : va_S A s.heap s.heap [] := va_S.rf
  have hP : va_P D xcl [(a0, .inr (5, [v17, .ref a4, .int 0, v18, v19, v20, v21, v22, v23, v24, v25, v26, v27, v28, v29, v30, v31, v32, v33, v34, v35, .ref a5, v36, v37, .ref a1, .ref a2, v38, v39, v40, v41, v42, v43])), (a1, .inl (cT 5, 8, .inr (.inr (.inr (.inr f44))))), (a2, .inl (cT 1, 8, .inl f47)), (a3, .inl (cT 0, 4096, .inl f49)), (a4, .inl (cT 4, 1024, .inr (.inr (.inr (.inr f54))))), (a5, .inl (cT 0, 1024, .inl f57))] s.heap := hP
  have hl := lv_entry ([.ref a0, .int x6, .int 1, .int 1, .int x11, .int x16]) (n := 10) (Nat.le_of_ble_eq_true rfl)
  rw [lg_entry_eq]
  generalize (lg_sl ([.ref a0, .int x6, .int 1, .int 1, .int x11, .int x16]) ++ List.replicate (10 - (lg_sl ([.ref a0, .int x6, .int 1, .int 1, .int x11, .int x16])).length) Slot.unset).toArray = ls at hl ⊢
  have hl : lv_has ls 10 [(0, .ref a0), (1, .int x6), (2, .int 1), (3, .int 1), (4, .int x11), (5, .int x16)] := hl
  have htab := vx_table (x := yM_finish) B (hts _ List.mem_cons_self)
  refine lv_aload_n hx hb dM_finish_0 rfl (lv_at hl 0 rfl) ?_
  refine lv_iload hx hb dM_finish_1 (lv_at hl 4 rfl) ?_
  obtain ⟨hPc, hDc, hFc⟩ := xcut (wc := [(a0, .inr (5, [v17, .ref a4, .int 0, v18, v19, v20, v21, v22, v23, v24, v25, v26, v27, v28, v29, v30, v31, v32, v33, v34, v35, .ref a5, v36, v37, .ref a1, .ref a2, v38, v39, v40, v41, v42, v43])), (a1, .inl (cT 5, 8, .inr (.inr (.inr (.inr f44))))), (a2, .inl (cT 1, 8, .inl f47)), (a3, .inl (cT 0, 4096, .inl f49)), (a4, .inl (cT 4, 1024, .inr (.inr (.inr (.inr f54)))))]) hP hD hS hA [0, 1, 2, 3, 4] rfl rfl (by decide)
  refine va_callr (va_runV (C := "ValueBenchModel") (As := [.int x11]) (rest := []) ⟨hx, hb, hml, hown, htx⟩ (cM_register_0 l hl9 D cT aK aV s.heap.size a0 a1 a2 a3 a4 x11 v17 v18 v19 v20 v21 v22 v23 v24 v25 v26 v27 v28 v29 v30 v31 v32 v33 v34 v35 (.ref a5) v36 v37 v38 v39 v40 v41 v42 v43 f44 f47 f49 f54 h12 h13 h14 h15 (by first | rfl | exact h45 | exact h46 | exact h48 | exact h50 | exact h51 | exact h52 | exact h53 | exact h55 | exact h56) (by first | rfl | exact h45 | exact h46 | exact h48 | exact h50 | exact h51 | exact h52 | exact h53 | exact h55 | exact h56) (by first | rfl | exact h45 | exact h46 | exact h48 | exact h50 | exact h51 | exact h52 | exact h53 | exact h55 | exact h56) (by first | rfl | exact h45 | exact h46 | exact h48 | exact h50 | exact h51 | exact h52 | exact h53 | exact h55 | exact h56) (by first | rfl | exact h45 | exact h46 | exact h48 | exact h50 | exact h51 | exact h52 | exact h53 | exact h55 | exact h56) (by first | rfl | exact h45 | exact h46 | exact h48 | exact h50 | exact h51 | exact h52 | exact h53 | exact h55 | exact h56) (by first | rfl | exact h45 | exact h46 | exact h48 | exact h50 | exact h51 | exact h52 | exact h53 | exact h55 | exact h56)) ⟨callB_of 1 htx (xw_goodC kw_6_170) rfl rfl rfl (htx _ kw_1_5) (htx _ kw_6_167) ⟨by decide, by decide, by decide +kernel⟩ ⟨Nat.le_of_ble_eq_true rfl, Nat.le_of_ble_eq_true rfl⟩, (htx _ kw_6_169), (htx _ kp_M_register)⟩ ⟨xPre_blind, va_recv hK hP (ci := 5) rfl (q0 := 0) rfl, (fun U hU hW => ⟨rfl, xPre_of hZ hS hFc hPc hDc hK U hU hW⟩)⟩ rfl rfl hl.1 rfl (lv_room (Nat.le_of_ble_eq_true rfl)) dM_finish_3 ⟨Nat.le_of_ble_eq_true rfl, Nat.le_of_ble_eq_true rfl⟩) hS (fun q _ h => hFc q h) hFc (fun u9 r1 t H1 locs ht hvm hr9 hB hz1 hk1 hS => ?_)
  obtain ⟨hP1, hK1, hD1⟩ := hB
  rw [ht] at hP1
  obtain ⟨hP, hD⟩ := xjoin (W := [(a5, .inl (cT 0, 1024, .inl f57)), (a0, .inr (5, [v17, .ref a4, .int 1, v18, v19, v20, v21, v22, v23, v24, v25, v26, v27, v28, v29, .ref a3, .int 4, .int 4, .int 0, .int 100, v35, .ref a5, v36, v37, .ref a1, .ref a2, v38, v39, v40, v41, v42, v43])), (a1, .inl (cT 5, 8, .inr (.inr (.inr (.inr f44))))), (a2, .inl (cT 1, 8, .inl f47)), (a3, .inl (cT 0, 4096, .inl f49)), (a4, .inl (cT 4, 1024, .inr (.inr (.inr (.inr (va_up f54 0 (some r1))))))), (r1, .inr (6, [.int 0, .long 0, .int 0, .int 0, .int 0, .int 1]))]) hP hD [0, 1, 2, 3, 4] [5] 1 rfl rfl (by decide) (by decide) hk1 hFc hP1 hD1
  generalize H1 = H at hP hS ⊢
  refine W.eq (g2 := F0 m 6 ls [.ref r1]) rfl ?_
  refine lv_astore (lv' := [(6, .ref r1), (0, .ref a0), (1, .int x6), (2, .int 1), (3, .int 1), (4, .int x11), (5, .int x16)]) hx hb dM_finish_6 hl (by decide) rfl (fun ls hl => ?_)
  refine lv_iload_n hx hb dM_finish_8 rfl (lv_at hl 3 rfl) ?_
  refine lv_iconst (v := 1) hx hb dM_finish_9 (by decide) ?_
  refine lv_icmp_ne (tgt := 17) hx hb dM_finish_10 (by decide) (fun h => ((by revert h; decide : False)).elim) (fun _ => ?_)
  refine lv_null hx hb dM_finish_13 ?_
  refine lv_goto (tgt := 23) hx hb dM_finish_14 (by decide) ?_
  refine lv_astoreN (lv' := [(7, .null), (6, .ref r1), (0, .ref a0), (1, .int x6), (2, .int 1), (3, .int 1), (4, .int x11), (5, .int x16)]) hx hb dM_finish_23 hl (by decide) rfl (fun ls hl => ?_)
  refine lv_iload_n hx hb dM_finish_25 rfl (lv_at hl 4 rfl) ?_
  refine lv_if_ne (tgt := 43) hx hb dM_finish_26 (by decide) (fun _ => ?_) (fun h => ((by revert h; decide : False)).elim)
  refine lv_iload_n hx hb dM_finish_43 rfl (lv_at hl 4 rfl) ?_
  refine lv_iconst (v := 1) hx hb dM_finish_44 (by decide) ?_
  refine lv_icmp_ne (tgt := 60) hx hb dM_finish_45 (by decide) (fun h => ((by revert h; decide : False)).elim) (fun _ => ?_)
  refine lv_aload_n hx hb dM_finish_48 rfl (lv_at hl 2 rfl) ?_
  refine lv_iload_n hx hb dM_finish_49 rfl (lv_at hl 5 rfl) ?_
  refine lv_aload hx hb dM_finish_50 (lv_at hl 1 rfl) ?_
  obtain ⟨hPc, hDc, hFc⟩ := xcut (wc := [(a0, .inr (5, [v17, .ref a4, .int 1, v18, v19, v20, v21, v22, v23, v24, v25, v26, v27, v28, v29, .ref a3, .int 4, .int 4, .int 0, .int 100, v35, .ref a5, v36, v37, .ref a1, .ref a2, v38, v39, v40, v41, v42, v43])), (r1, .inr (6, [.int 0, .long 0, .int 0, .int 0, .int 0, .int 1])), (a4, .inl (cT 4, 1024, .inr (.inr (.inr (.inr (va_up f54 0 (some r1)))))))]) hP hD hS hA [1, 6, 5] rfl rfl (by decide)
  refine va_callr (va_runV (C := "ValueBenchModel") (As := [.int 1, .ref r1]) (rest := []) ⟨hx, hb, hml, hown, htx⟩ (cM_one1_1 l hl9 D cT aK aV H.size a0 r1 a4 v17 v18 v19 v20 v21 v22 v23 v24 v25 v26 v27 v28 v29 (.ref a3) (.int 4) (.int 4) (.int 0) (.int 100) v35 (.ref a5) v36 v37 (.ref a1) (.ref a2) v38 v39 v40 v41 v42 v43 (.long 0) (.int 0) (.int 0) (.int 0) (.int 1) (va_up f54 0 (some r1)) (by first | rfl | exact h45 | exact h46 | exact h48 | exact h50 | exact h51 | exact h52 | exact h53 | exact h56)) ⟨callB_of 2 htx (xw_goodC kw_6_237) rfl rfl rfl (htx _ kw_1_5) (htx _ kw_6_234) ⟨by decide, by decide, by decide +kernel⟩ ⟨Nat.le_of_ble_eq_true rfl, Nat.le_of_ble_eq_true rfl⟩, (htx _ kw_6_236), (htx _ kp_M_one1)⟩ ⟨xPre_blind, va_recv hK hP (ci := 5) rfl (q0 := 1) rfl, (fun U hU hW => ⟨rfl, xPre_of hZ hS hFc hPc hDc hK U hU hW⟩)⟩ rfl rfl hl.1 rfl (lv_room (Nat.le_of_ble_eq_true rfl)) dM_finish_52 ⟨Nat.le_of_ble_eq_true rfl, Nat.le_of_ble_eq_true rfl⟩) hS (fun q _ h => hFc q h) hFc (fun u9 r2 t H1 locs ht hvm hr9 hB hz1 hk1 hS => ?_)
  obtain ⟨hP1, hK1, hD1⟩ := hB
  rw [ht] at hP1
  obtain ⟨hP, hD⟩ := xjoin (W := [(a5, .inl (cT 0, 1024, .inl f57)), (a1, .inl (cT 5, 8, .inr (.inr (.inr (.inr f44))))), (a2, .inl (cT 1, 8, .inl f47)), (a3, .inl (cT 0, 4096, .inl f49)), (a0, .inr (5, [v17, .ref a4, .int 2, v18, v19, v20, v21, v22, v23, v24, v25, v26, v27, v28, v29, .ref a3, .int 4, .int 4, .int 0, .int 100, v35, .ref a5, v36, v37, .ref a1, .ref a2, v38, v39, v40, v41, v42, v43])), (r1, .inr (6, [.int 0, .long 0, .int 0, .int 0, .int 0, .int 1])), (a4, .inl (cT 4, 1024, .inr (.inr (.inr (.inr (va_up (va_up f54 0 (some r1)) 1 (some r2))))))), (r2, .inr (6, [.int 3, .long 0, .int 0, .int 0, .int 0, .int 1]))]) hP hD [1, 6, 5] [0, 2, 3, 4] 4 rfl rfl (by decide) (by decide) hk1 hFc hP1 hD1
  generalize H1 = H at hP hS ⊢
  refine W.eq (g2 := F0 m 55 ls [.ref r2]) rfl ?_
  refine lv_astore (lv' := [(8, .ref r2), (7, .null), (6, .ref r1), (0, .ref a0), (1, .int x6), (2, .int 1), (3, .int 1), (4, .int x11), (5, .int x16)]) hx hb dM_finish_55 hl (by decide) rfl (fun ls hl => ?_)
  refine lv_goto (tgt := 119) hx hb dM_finish_57 (by decide) ?_
  refine lv_aload_n hx hb dM_finish_119 rfl (lv_at hl 3 rfl) ?_
  refine lv_iload_n hx hb dM_finish_120 rfl (lv_at hl 4 rfl) ?_
  refine lv_aload hx hb dM_finish_121 (lv_at hl 0 rfl) ?_
  obtain ⟨hPc, hDc, hFc⟩ := xcut (wc := [(a0, .inr (5, [v17, .ref a4, .int 2, v18, v19, v20, v21, v22, v23, v24, v25, v26, v27, v28, v29, .ref a3, .int 4, .int 4, .int 0, .int 100, v35, .ref a5, v36, v37, .ref a1, .ref a2, v38, v39, v40, v41, v42, v43])), (r2, .inr (6, [.int 3, .long 0, .int 0, .int 0, .int 0, .int 1])), (a5, .inl (cT 0, 1024, .inl f57)), (a1, .inl (cT 5, 8, .inr (.inr (.inr (.inr f44))))), (a3, .inl (cT 0, 4096, .inl f49)), (a2, .inl (cT 1, 8, .inl f47))]) hP hD hS hA [4, 7, 0, 1, 3, 2] rfl rfl (by decide)
  refine va_calli (va_runV (C := "ValueBenchModel") (As := [.int x6, .ref r2]) (rest := []) ⟨hx, hb, hml, hown, htx⟩ (cM_store_2 l hl9 D cT aK aV H.size a0 r2 a5 a1 a3 a2 x6 v17 (.ref a4) (.int 2) v18 v19 v20 v21 v22 v23 v24 v25 v26 v27 v28 v29 (.ref a3) (.int 4) (.int 4) (.int 0) (.int 100) v35 v36 v37 v38 v39 v40 v41 v42 v43 (.int 0) (.int 0) (.int 0) (.int 1) f57 f44 f49 f47 h7 h8 h9 h10 (by first | rfl | exact h45 | exact h46 | exact h48 | exact h50 | exact h51 | exact h52 | exact h53)) ⟨callB_of 2 htx (xw_goodC kw_6_124) rfl rfl rfl (htx _ kw_1_5) (htx _ kw_6_121) ⟨by decide, by decide, by decide +kernel⟩ ⟨Nat.le_of_ble_eq_true rfl, Nat.le_of_ble_eq_true rfl⟩, (htx _ kw_6_123), (htx _ kp_M_store)⟩ ⟨xPre_blind, va_recv hK hP (ci := 5) rfl (q0 := 4) rfl, (fun U hU hW => ⟨rfl, xPre_of hZ hS hFc hPc hDc hK U hU hW⟩)⟩ rfl rfl hl.1 rfl (lv_room (Nat.le_of_ble_eq_true rfl)) dM_finish_123 ⟨Nat.le_of_ble_eq_true rfl, Nat.le_of_ble_eq_true rfl⟩) hS (fun q _ h => hFc q h) hFc (fun r3 u9 t H1 locs ht hvm hr9 hB hz1 hk1 hS => ?_)
  obtain ⟨y4, hP1, hK1, hD1⟩ := hB
  rw [ht] at hP1
  obtain ⟨hP, hD⟩ := xjoin (W := [(r1, .inr (6, [.int 0, .long 0, .int 0, .int 0, .int 0, .int 1])), (a4, .inl (cT 4, 1024, .inr (.inr (.inr (.inr (va_up (va_up f54 0 (some r1)) 1 (some r2))))))), (a0, .inr (5, [v17, .ref a4, .int 2, v18, v19, v20, v21, v22, v23, v24, v25, v26, v27, v28, v29, .ref a3, .int 4, .int 4, .int 0, .int 100, v35, .ref a5, .int 1, .int 4096, .ref a1, .ref a2, v38, v39, v40, v41, v42, v43])), (r2, .inr (6, [.int 3, .long 0, .int 0, .int 0, .int 0, .int 1])), (a5, .inl (cT 0, 1024, .inl (upd f57 0 (vp_nar .byte y4)))), (a1, .inl (cT 5, 8, .inr (.inr (.inr (.inr f44))))), (a3, .inl (cT 0, 4096, .inl (upd f49 0 (vp_nar .byte (vp_nar .byte y4))))), (a2, .inl (cT 1, 8, .inl (upd f47 x6.toNatClampNeg 1)))]) hP hD [4, 7, 0, 1, 3, 2] [5, 6] 2 rfl rfl (by decide) (by decide) hk1 hFc hP1 hD1
  generalize H1 = H at hP hS ⊢
  rw [hr9]
  refine W.eq (g2 := F0 m 126 ls [.int 1]) rfl ?_
  refine lv_istore (lv' := [(9, .int 1), (8, .ref r2), (7, .null), (6, .ref r1), (0, .ref a0), (1, .int x6), (2, .int 1), (3, .int 1), (4, .int x11), (5, .int x16)]) hx hb dM_finish_126 hl (by decide) rfl (fun ls hl => ?_)
  refine lv_goto (tgt := 156) hx hb dM_finish_128 (by decide) ?_
  obtain ⟨hP9, hD9⟩ := xsub (wc := [(a0, .inr (5, [v17, .ref a4, .int 2, v18, v19, v20, v21, v22, v23, v24, v25, v26, v27, v28, v29, .ref a3, .int 4, .int 4, .int 0, .int 100, v35, .ref a5, .int 1, .int 4096, .ref a1, .ref a2, v38, v39, v40, v41, v42, v43])), (a1, .inl (cT 5, 8, .inr (.inr (.inr (.inr f44))))), (a2, .inl (cT 1, 8, .inl (upd f47 x6.toNatClampNeg 1))), (a3, .inl (cT 0, 4096, .inl (upd f49 0 (vp_nar .byte (vp_nar .byte y4))))), (a4, .inl (cT 4, 1024, .inr (.inr (.inr (.inr (va_up (va_up f54 0 (some r1)) 1 (some r2))))))), (a5, .inl (cT 0, 1024, .inl (upd f57 0 (vp_nar .byte y4)))), (r1, .inr (6, [.int 0, .long 0, .int 0, .int 0, .int 0, .int 1])), (r2, .inr (6, [.int 3, .long 0, .int 0, .int 0, .int 0, .int 1]))]) hP hD [2, 5, 7, 6, 1, 4, 0, 3] rfl rfl (by decide)
  refine W.widen (k := 2) (n := 12) (Nat.le_of_ble_eq_true rfl) (Nat.le_of_ble_eq_true rfl) ?_
  exact W.vret hx hb hr (fun t ht hW => ⟨⟨(), rfl, trivial, r1, r2, y4, by rw [ht]; exact hP9, va_K.moved hW.alike hK, hD9⟩, hS.F ht⟩) hS.2.2 dM_finish_156
set_option maxHeartbeats 400000000 in
set_option maxRecDepth 100000 in
theorem cM_one0_8 (l : Launch) (hl9 : l.stackTraces = false) (D : va_G) (cT : Nat → ClassId) (aK aV : Nat → Nat) (sz : Nat) (a0 : Nat) (a1 : Nat) (a2 : Nat) (a3 : Nat) (a4 : Nat) (a5 : Nat) (x6 : Int32) (x11 : Int32) (v16 : Value) (v17 : Value) (v18 : Value) (v19 : Value) (v20 : Value) (v21 : Value) (v22 : Value) (v23 : Value) (v24 : Value) (v25 : Value) (v26 : Value) (v27 : Value) (v28 : Value) (v29 : Value) (v30 : Value) (v31 : Value) (v32 : Value) (v33 : Value) (v34 : Value) (v35 : Value) (v36 : Value) (v37 : Value) (v38 : Value) (v39 : Value) (v40 : Value) (v41 : Value) (v42 : Value) (v43 : Value) (f44 : Nat → Option Nat) (f47 : Nat → Int32) (f49 : Nat → Int32) (f54 : Nat → Option Nat) (f57 : Nat → Int32) (h7 : ¬ x6 < 0) (h8 : ¬ 7 < x6) (h9 : x6 ≤ 7) (h10 : vp_in x6 8) (h12 : ¬ x11 < 0) (h13 : ¬ 7 < x11) (h14 : x11 ≤ 7) (h15 : vp_in x11 8) (h45 : f44 x11.toNatClampNeg = some a3) (h46 : f44 x6.toNatClampNeg = some a3) (h48 : f47 x11.toNatClampNeg = 4) (h50 : f49 0 = 110) (h51 : f49 1 = 117) (h52 : f49 2 = 108) (h53 : f49 3 = 108) (h55 : f54 0 = none) (h56 : f54 1 = none) : xMet l yM_one0 wyM_one0 9 2 12 204 D cT aK aV sz [.ref a0, .int x6, .int 1, .int x11] [(a0, .inr (5, [v16, .ref a4, v17, v18, v19, v20, v21, v22, v23, v24, v25, v26, v27, v28, v29, v30, v31, v32, v33, v34, v35, .ref a5, v36, v37, .ref a1, .ref a2, v38, v39, v40, v41, v42, v43])), (a1, .inl (cT 5, 8, .inr (.inr (.inr (.inr f44))))), (a2, .inl (cT 1, 8, .inl f47)), (a3, .inl (cT 0, 4096, .inl f49)), (a4, .inl (cT 4, 1024, .inr (.inr (.inr (.inr f54))))), (a5, .inl (cT 0, 1024, .inl f57))] (fun A => va_Qv (fun _ : Unit => True) (fun _ t => ∃ (q3 : Nat) (q4 : Nat) (y5 : Int32), xB D xcl cT A [(a0, .inr (5, [.int 0, .ref a4, .int 2, v18, .int 0, v20, v21, .int 0, v23, .int 0, v25, v26, .int 0, v28, v29, .ref a3, .int 4, .int 4, .int 0, .int 100, v35, .ref a5, .int 1, .int 4096, .ref a1, .ref a2, v38, v39, v40, v41, v42, v43])), (a1, .inl (cT 5, 8, .inr (.inr (.inr (.inr f44))))), (a2, .inl (cT 1, 8, .inl (upd f47 x6.toNatClampNeg 1))), (a3, .inl (cT 0, 4096, .inl (upd f49 0 (vp_nar .byte (vp_nar .byte y5))))), (a4, .inl (cT 4, 1024, .inr (.inr (.inr (.inr (va_up (va_up f54 0 (some q3)) 1 (some q4))))))), (a5, .inl (cT 0, 1024, .inl (upd f57 0 (vp_nar .byte y5)))), (q3, .inr (6, [.int 0, .long 0, .int 0, .int 0, .int 0, .int 1])), (q4, .inr (6, [.int 3, .long 0, .int 0, .int 0, .int 0, .int 1]))] t) A) := by
  refine Met.ofW (cc := prog_13_method_92_code) (maxL := 4) (ret := none) (by decide) rfl ?_
  intro p e s m args below meth c s₁ B hml hv
  obtain ⟨rfl, hsz, hZ, hP, hK, hD0⟩ := hv
  have hx := B.exec
  have hb := B.bytes
  have hr := B.returns
  have hts := atoms_spec (ws := wyM_one0) B.pre
  have htx := fun w h => hts w (List.mem_cons_of_mem _ h)
  have hown : s.vm.findClass "ValueBenchModel" = some m.cls := findClass_of_methodNamed B.named
  have hlocks := B.notSynchronized
  subst hsz
  have hD := hD0.self (sz := s.heap.size)
  generalize hAe : va_A [(a0, .inr (5, [v16, .ref a4, v17, v18, v19, v20, v21, v22, v23, v24, v25, v26, v27, v28, v29, v30, v31, v32, v33, v34, v35, .ref a5, v36, v37, .ref a1, .ref a2, v38, v39, v40, v41, v42, v43])), (a1, .inl (cT 5, 8, .inr (.inr (.inr (.inr f44))))), (a2, .inl (cT 1, 8, .inl f47)), (a3, .inl (cT 0, 4096, .inl f49)), (a4, .inl (cT 4, 1024, .inr (.inr (.inr (.inr f54))))), (a5, .inl (cT 0, 1024, .inl f57))] s.heap.size = A at hD hZ ⊢
  have hA : ∀ q : Nat, s.heap.size ≤ q → A q := fun q h => by rw [← hAe]; exact Or.inr h
  have hS : va_S A s.heap s.heap [] := va_S.rf
  have hP : va_P D xcl [(a0, .inr (5, [v16, .ref a4, v17, v18, v19, v20, v21, v22, v23, v24, v25, v26, v27, v28, v29, v30, v31, v32, v33, v34, v35, .ref a5, v36, v37, .ref a1, .ref a2, v38, v39, v40, v41, v42, v43])), (a1, .inl (cT 5, 8, .inr (.inr (.inr (.inr f44))))), (a2, .inl (cT 1, 8, .inl f47)), (a3, .inl (cT 0, 4096, .inl f49)), (a4, .inl (cT 4, 1024, .inr (.inr (.inr (.inr f54))))), (a5, .inl (cT 0, 1024, .inl f57))] s.heap := hP
  have hl := lv_entry ([.ref a0, .int x6, .int 1, .int x11]) (n := 4) (Nat.le_of_ble_eq_true rfl)
  rw [lg_entry_eq]
  generalize (lg_sl ([.ref a0, .int x6, .int 1, .int x11]) ++ List.replicate (4 - (lg_sl ([.ref a0, .int x6, .int 1, .int x11])).length) Slot.unset).toArray = ls at hl ⊢
  have hl : lv_has ls 4 [(0, .ref a0), (1, .int x6), (2, .int 1), (3, .int x11)] := hl
  refine lv_aload_n hx hb dM_one0_0 rfl (lv_at hl 0 rfl) ?_
  obtain ⟨hPc, hDc, hFc⟩ := xcut (wc := [(a0, .inr (5, [v16, .ref a4, v17, v18, v19, v20, v21, v22, v23, v24, v25, v26, v27, v28, v29, v30, v31, v32, v33, v34, v35, .ref a5, v36, v37, .ref a1, .ref a2, v38, v39, v40, v41, v42, v43]))]) hP hD hS hA [0] rfl rfl (by decide)
  refine va_callv (va_runV (C := "ValueBenchModel") (As := []) (rest := []) ⟨hx, hb, hml, hown, htx⟩ (cM_begin_0 l hl9 D cT aK aV s.heap.size a0 v16 (.ref a4) v17 v18 v19 v20 v21 v22 v23 v24 v25 v26 v27 v28 v29 v30 v31 v32 v33 v34 v35 (.ref a5) v36 v37 (.ref a1) (.ref a2) v38 v39 v40 v41 v42 v43) ⟨callB_of 0 htx (xw_goodC kw_5_209) rfl rfl rfl (htx _ kw_1_5) (htx _ kw_5_206) ⟨by decide, by decide, by decide +kernel⟩ ⟨Nat.le_of_ble_eq_true rfl, Nat.le_of_ble_eq_true rfl⟩, (htx _ kw_5_208), (htx _ kp_M_begin)⟩ ⟨xPre_blind, va_recv hK hP (ci := 5) rfl (q0 := 0) rfl, (fun U hU hW => ⟨rfl, xPre_of hZ hS hFc hPc hDc hK U hU hW⟩)⟩ rfl rfl hl.1 rfl (lv_room (Nat.le_of_ble_eq_true rfl)) dM_one0_1 ⟨Nat.le_of_ble_eq_true rfl, Nat.le_of_ble_eq_true rfl⟩) hS (fun q _ h => hFc q h) hFc (fun u9 t H1 locs ht hvm hr9 hB hz1 hk1 hS => ?_)
  obtain ⟨hP1, hK1, hD1⟩ := hB
  rw [ht] at hP1
  obtain ⟨hP, hD⟩ := xjoin (W := [(a1, .inl (cT 5, 8, .inr (.inr (.inr (.inr f44))))), (a2, .inl (cT 1, 8, .inl f47)), (a3, .inl (cT 0, 4096, .inl f49)), (a4, .inl (cT 4, 1024, .inr (.inr (.inr (.inr f54))))), (a5, .inl (cT 0, 1024, .inl f57)), (a0, .inr (5, [.int 0, .ref a4, .int 0, v18, .int 0, v20, v21, .int 0, v23, .int 0, v25, v26, .int 0, v28, v29, v30, v31, v32, v33, v34, v35, .ref a5, .int 0, .int 1000000000, .ref a1, .ref a2, v38, v39, v40, v41, v42, v43]))]) hP hD [0] [1, 2, 3, 4, 5] 5 rfl rfl (by decide) (by decide) hk1 hFc hP1 hD1
  generalize H1 = H at hP hS ⊢
  refine lv_aload_n hx hb dM_one0_4 rfl (lv_at hl 0 rfl) ?_
  refine lv_iload_n hx hb dM_one0_5 rfl (lv_at hl 1 rfl) ?_
  obtain ⟨hPc, hDc, hFc⟩ := xcut (wc := []) hP hD hS hA [] rfl rfl (by decide)
  refine va_calli (va_runV (C := "ValueBenchModel") (As := [.int x6]) (rest := []) ⟨hx, hb, hml, hown, htx⟩ (cM_out_2 l hl9 D cT aK aV H.size a0 x6 h7 h8 h9 h10) ⟨callB_of 1 htx (xw_goodC kw_5_217) rfl rfl rfl (htx _ kw_1_5) (htx _ kw_5_214) ⟨by decide, by decide, by decide +kernel⟩ ⟨Nat.le_of_ble_eq_true rfl, Nat.le_of_ble_eq_true rfl⟩, (htx _ kw_5_216), (htx _ kp_M_out)⟩ ⟨xPre_blind, va_recv hK hP (ci := 5) rfl (q0 := 5) rfl, (fun U hU hW => ⟨rfl, xPre_of hZ hS hFc hPc hDc hK U hU hW⟩)⟩ rfl rfl hl.1 rfl (lv_room (Nat.le_of_ble_eq_true rfl)) dM_one0_6 ⟨Nat.le_of_ble_eq_true rfl, Nat.le_of_ble_eq_true rfl⟩) hS (fun q _ h => hFc q h) hFc (fun r1 u9 t H1 locs ht hvm hr9 hB hz1 hk1 hS => ?_)
  obtain ⟨hP1, hK1, hD1⟩ := hB
  rw [ht] at hP1
  obtain ⟨hP, hD⟩ := xjoin (W := [(a1, .inl (cT 5, 8, .inr (.inr (.inr (.inr f44))))), (a2, .inl (cT 1, 8, .inl f47)), (a3, .inl (cT 0, 4096, .inl f49)), (a4, .inl (cT 4, 1024, .inr (.inr (.inr (.inr f54))))), (a5, .inl (cT 0, 1024, .inl f57)), (a0, .inr (5, [.int 0, .ref a4, .int 0, v18, .int 0, v20, v21, .int 0, v23, .int 0, v25, v26, .int 0, v28, v29, v30, v31, v32, v33, v34, v35, .ref a5, .int 0, .int 1000000000, .ref a1, .ref a2, v38, v39, v40, v41, v42, v43]))]) hP hD [] [0, 1, 2, 3, 4, 5] 6 rfl rfl (by decide) (by decide) hk1 hFc hP1 hD1
  generalize H1 = H at hP hS ⊢
  rw [hr9]
  refine W.eq (g2 := F0 m 9 ls [.int 0]) rfl ?_
  refine lv_if_ne (tgt := 30) hx hb dM_one0_9 (by decide) (fun h => ((by revert h; decide : False)).elim) (fun _ => ?_)
  refine lv_iload_n hx hb dM_one0_12 rfl (lv_at hl 2 rfl) ?_
  refine lv_if_lt (tgt := 30) hx hb dM_one0_13 (by decide) (fun h => ((by revert h; decide : False)).elim) (fun _ => ?_)
  refine lv_iload_n hx hb dM_one0_16 rfl (lv_at hl 2 rfl) ?_
  refine lv_bipush (v := 13) hx hb dM_one0_17 (by decide) ?_
  refine lv_icmp_gt (tgt := 30) hx hb dM_one0_19 (by decide) (fun h => ((by revert h; decide : False)).elim) (fun _ => ?_)
  refine lv_aload_n hx hb dM_one0_22 rfl (lv_at hl 0 rfl) ?_
  refine lv_iload_n hx hb dM_one0_23 rfl (lv_at hl 3 rfl) ?_
  obtain ⟨hPc, hDc, hFc⟩ := xcut (wc := []) hP hD hS hA [] rfl rfl (by decide)
  refine va_calli (va_runV (C := "ValueBenchModel") (As := [.int x11]) (rest := []) ⟨hx, hb, hml, hown, htx⟩ (cM_out_2 l hl9 D cT aK aV H.size a0 x11 h12 h13 h14 h15) ⟨callB_of 1 htx (xw_goodC kw_5_217) rfl rfl rfl (htx _ kw_1_5) (htx _ kw_5_214) ⟨by decide, by decide, by decide +kernel⟩ ⟨Nat.le_of_ble_eq_true rfl, Nat.le_of_ble_eq_true rfl⟩, (htx _ kw_5_216), (htx _ kp_M_out)⟩ ⟨xPre_blind, va_recv hK hP (ci := 5) rfl (q0 := 5) rfl, (fun U hU hW => ⟨rfl, xPre_of hZ hS hFc hPc hDc hK U hU hW⟩)⟩ rfl rfl hl.1 rfl (lv_room (Nat.le_of_ble_eq_true rfl)) dM_one0_24 ⟨Nat.le_of_ble_eq_true rfl, Nat.le_of_ble_eq_true rfl⟩) hS (fun q _ h => hFc q h) hFc (fun r2 u9 t H1 locs ht hvm hr9 hB hz1 hk1 hS => ?_)
  obtain ⟨hP1, hK1, hD1⟩ := hB
  rw [ht] at hP1
  obtain ⟨hP, hD⟩ := xjoin (W := [(a1, .inl (cT 5, 8, .inr (.inr (.inr (.inr f44))))), (a2, .inl (cT 1, 8, .inl f47)), (a3, .inl (cT 0, 4096, .inl f49)), (a4, .inl (cT 4, 1024, .inr (.inr (.inr (.inr f54))))), (a5, .inl (cT 0, 1024, .inl f57)), (a0, .inr (5, [.int 0, .ref a4, .int 0, v18, .int 0, v20, v21, .int 0, v23, .int 0, v25, v26, .int 0, v28, v29, v30, v31, v32, v33, v34, v35, .ref a5, .int 0, .int 1000000000, .ref a1, .ref a2, v38, v39, v40, v41, v42, v43]))]) hP hD [] [0, 1, 2, 3, 4, 5] 6 rfl rfl (by decide) (by decide) hk1 hFc hP1 hD1
  generalize H1 = H at hP hS ⊢
  rw [hr9]
  refine W.eq (g2 := F0 m 27 ls [.int 0]) rfl ?_
  refine lv_if_eq (tgt := 38) hx hb dM_one0_27 (by decide) (fun _ => ?_) (fun h => ((by revert h; decide : False)).elim)
  refine lv_aload_n hx hb dM_one0_38 rfl (lv_at hl 0 rfl) ?_
  refine lv_iload_n hx hb dM_one0_39 rfl (lv_at hl 1 rfl) ?_
  refine lv_iconst (v := 1) hx hb dM_one0_40 (by decide) ?_
  refine lv_iload_n hx hb dM_one0_41 rfl (lv_at hl 2 rfl) ?_
  refine lv_iload_n hx hb dM_one0_42 rfl (lv_at hl 3 rfl) ?_
  refine lv_iload_n hx hb dM_one0_43 rfl (lv_at hl 3 rfl) ?_
  obtain ⟨hPc, hDc, hFc⟩ := xcut (wc := [(a0, .inr (5, [.int 0, .ref a4, .int 0, v18, .int 0, v20, v21, .int 0, v23, .int 0, v25, v26, .int 0, v28, v29, v30, v31, v32, v33, v34, v35, .ref a5, .int 0, .int 1000000000, .ref a1, .ref a2, v38, v39, v40, v41, v42, v43])), (a1, .inl (cT 5, 8, .inr (.inr (.inr (.inr f44))))), (a2, .inl (cT 1, 8, .inl f47)), (a3, .inl (cT 0, 4096, .inl f49)), (a4, .inl (cT 4, 1024, .inr (.inr (.inr (.inr f54))))), (a5, .inl (cT 0, 1024, .inl f57))]) hP hD hS hA [5, 0, 1, 2, 3, 4] rfl rfl (by decide)
  refine va_callv (vx_runVW (C := "ValueBenchModel") (As := [.int x6, .int 1, .int 1, .int x11, .int x11]) (rest := []) ⟨hx, hb, hml, hown, htx⟩ (cM_finish_15 l hl9 D cT aK aV H.size a0 a1 a2 a3 a4 a5 x6 x11 x11 (.int 0) v18 (.int 0) v20 v21 (.int 0) v23 (.int 0) v25 v26 (.int 0) v28 v29 v30 v31 v32 v33 v34 v35 (.int 0) (.int 1000000000) v38 v39 v40 v41 v42 v43 f44 f47 f49 f54 f57 h7 h8 h9 h10 h12 h13 h14 h15 (by first | rfl | exact h45 | exact h46 | exact h48 | exact h50 | exact h51 | exact h52 | exact h53 | exact h55 | exact h56) (by first | rfl | exact h45 | exact h46 | exact h48 | exact h50 | exact h51 | exact h52 | exact h53 | exact h55 | exact h56) (by first | rfl | exact h45 | exact h46 | exact h48 | exact h50 | exact h51 | exact h52 | exact h53 | exact h55 | exact h56) (by first | rfl | exact h45 | exact h46 | exact h48 | exact h50 | exact h51 | exact h52 | exact h53 | exact h55 | exact h56) (by first | rfl | exact h45 | exact h46 | exact h48 | exact h50 | exact h51 | exact h52 | exact h53 | exact h55 | exact h56) (by first | rfl | exact h45 | exact h46 | exact h48 | exact h50 | exact h51 | exact h52 | exact h53 | exact h55 | exact h56) (by first | rfl | exact h45 | exact h46 | exact h48 | exact h50 | exact h51 | exact h52 | exact h53 | exact h55 | exact h56) (by first | rfl | exact h45 | exact h46 | exact h48 | exact h50 | exact h51 | exact h52 | exact h53 | exact h55 | exact h56) (by first | rfl | exact h45 | exact h46 | exact h48 | exact h50 | exact h51 | exact h52 | exact h53 | exact h55 | exact h56)) (xcVW 5 htx (xw_goodC kw_6_195) rfl rfl rfl (htx _ kw_1_5) (htx _ kw_6_192) ⟨by decide, by decide, by decide +kernel⟩ ⟨Nat.le_of_ble_eq_true rfl, Nat.le_of_ble_eq_true rfl⟩ (htx _ kw_6_194) (htx _ kp_M_finish)) ⟨xPre_blind, va_recv hK hP (ci := 5) rfl (q0 := 5) rfl, (fun U hU hW => ⟨rfl, xPre_of hZ hS hFc hPc hDc hK U hU hW⟩)⟩ rfl rfl hl.1 rfl (lv_room (Nat.le_of_ble_eq_true rfl)) dM_one0_44 ⟨Nat.le_of_ble_eq_true rfl, Nat.le_of_ble_eq_true rfl⟩) hS (fun q _ h => hFc q h) hFc (fun u9 t H1 locs ht hvm hr9 hB hz1 hk1 hS => ?_)
  obtain ⟨q3, q4, y5, hP1, hK1, hD1⟩ := hB
  rw [ht] at hP1
  obtain ⟨hP, hD⟩ := xjoin (W := [(a0, .inr (5, [.int 0, .ref a4, .int 2, v18, .int 0, v20, v21, .int 0, v23, .int 0, v25, v26, .int 0, v28, v29, .ref a3, .int 4, .int 4, .int 0, .int 100, v35, .ref a5, .int 1, .int 4096, .ref a1, .ref a2, v38, v39, v40, v41, v42, v43])), (a1, .inl (cT 5, 8, .inr (.inr (.inr (.inr f44))))), (a2, .inl (cT 1, 8, .inl (upd f47 x6.toNatClampNeg 1))), (a3, .inl (cT 0, 4096, .inl (upd f49 0 (vp_nar .byte (vp_nar .byte y5))))), (a4, .inl (cT 4, 1024, .inr (.inr (.inr (.inr (va_up (va_up f54 0 (some q3)) 1 (some q4))))))), (a5, .inl (cT 0, 1024, .inl (upd f57 0 (vp_nar .byte y5)))), (q3, .inr (6, [.int 0, .long 0, .int 0, .int 0, .int 0, .int 1])), (q4, .inr (6, [.int 3, .long 0, .int 0, .int 0, .int 0, .int 1]))]) hP hD [5, 0, 1, 2, 3, 4] [] 0 rfl rfl (by decide) (by decide) hk1 hFc hP1 hD1
  generalize H1 = H at hP hS ⊢
  obtain ⟨hP9, hD9⟩ := xsub (wc := [(a0, .inr (5, [.int 0, .ref a4, .int 2, v18, .int 0, v20, v21, .int 0, v23, .int 0, v25, v26, .int 0, v28, v29, .ref a3, .int 4, .int 4, .int 0, .int 100, v35, .ref a5, .int 1, .int 4096, .ref a1, .ref a2, v38, v39, v40, v41, v42, v43])), (a1, .inl (cT 5, 8, .inr (.inr (.inr (.inr f44))))), (a2, .inl (cT 1, 8, .inl (upd f47 x6.toNatClampNeg 1))), (a3, .inl (cT 0, 4096, .inl (upd f49 0 (vp_nar .byte (vp_nar .byte y5))))), (a4, .inl (cT 4, 1024, .inr (.inr (.inr (.inr (va_up (va_up f54 0 (some q3)) 1 (some q4))))))), (a5, .inl (cT 0, 1024, .inl (upd f57 0 (vp_nar .byte y5)))), (q3, .inr (6, [.int 0, .long 0, .int 0, .int 0, .int 0, .int 1])), (q4, .inr (6, [.int 3, .long 0, .int 0, .int 0, .int 0, .int 1]))]) hP hD [0, 1, 2, 3, 4, 5, 6, 7] rfl rfl (by decide)
  refine W.widen (k := 2) (n := 12) (Nat.le_of_ble_eq_true rfl) (Nat.le_of_ble_eq_true rfl) ?_
  exact W.vret hx hb hr (fun t ht hW => ⟨⟨(), rfl, trivial, q3, q4, y5, by rw [ht]; exact hP9, va_K.moved hW.alike hK, hD9⟩, hS.F ht⟩) hS.2.2 dM_one0_47
set_option maxHeartbeats 400000000 in
set_option maxRecDepth 100000 in
theorem cM_finish_16 (l : Launch) (hl9 : l.stackTraces = false) (D : va_G) (cT : Nat → ClassId) (aK aV : Nat → Nat) (sz : Nat) (a0 : Nat) (a1 : Nat) (a2 : Nat) (a3 : Nat) (a4 : Nat) (a5 : Nat) (a6 : Nat) (x7 : Int32) (x12 : Int32) (x17 : Int32) (v18 : Value) (v19 : Value) (v20 : Value) (v21 : Value) (v22 : Value) (v23 : Value) (v24 : Value) (v25 : Value) (v26 : Value) (v27 : Value) (v28 : Value) (v29 : Value) (v30 : Value) (v31 : Value) (v32 : Value) (v33 : Value) (v34 : Value) (v35 : Value) (v36 : Value) (v37 : Value) (v38 : Value) (v39 : Value) (v40 : Value) (v41 : Value) (v42 : Value) (v43 : Value) (v44 : Value) (f45 : Nat → Option Nat) (f48 : Nat → Int32) (f50 : Nat → Int32) (f55 : Nat → Option Nat) (f58 : Nat → Int32) (f59 : Nat → Int32) (h8 : ¬ x7 < 0) (h9 : ¬ 7 < x7) (h10 : x7 ≤ 7) (h11 : vp_in x7 8) (h13 : ¬ x12 < 0) (h14 : ¬ 7 < x12) (h15 : x12 ≤ 7) (h16 : vp_in x12 8) (h46 : f45 x12.toNatClampNeg = some a3) (h47 : f45 x7.toNatClampNeg = some a6) (h49 : f48 x12.toNatClampNeg = 4) (h51 : f50 0 = 110) (h52 : f50 1 = 117) (h53 : f50 2 = 108) (h54 : f50 3 = 108) (h56 : f55 0 = none) (h57 : f55 1 = none) : xMet l yM_finish wyM_finish 8 2 12 175 D cT aK aV sz [.ref a0, .int x7, .int 1, .int 1, .int x12, .int x17] [(a0, .inr (5, [v18, .ref a4, .int 0, v19, v20, v21, v22, v23, v24, v25, v26, v27, v28, v29, v30, v31, v32, v33, v34, v35, v36, .ref a5, v37, v38, .ref a1, .ref a2, v39, v40, v41, v42, v43, v44])), (a1, .inl (cT 5, 8, .inr (.inr (.inr (.inr f45))))), (a2, .inl (cT 1, 8, .inl f48)), (a3, .inl (cT 0, 4096, .inl f50)), (a4, .inl (cT 4, 1024, .inr (.inr (.inr (.inr f55))))), (a5, .inl (cT 0, 1024, .inl f58)), (a6, .inl (cT 0, 4096, .inl f59))] (fun A => va_Qv (fun _ : Unit => True) (fun _ t => ∃ (r1 : Nat) (r2 : Nat) (y4 : Int32), xB D xcl cT A [(a0, .inr (5, [v18, .ref a4, .int 2, v19, v20, v21, v22, v23, v24, v25, v26, v27, v28, v29, v30, .ref a3, .int 4, .int 4, .int 0, .int 100, v36, .ref a5, .int 1, .int 4096, .ref a1, .ref a2, v39, v40, v41, v42, v43, v44])), (a1, .inl (cT 5, 8, .inr (.inr (.inr (.inr f45))))), (a2, .inl (cT 1, 8, .inl (upd f48 x7.toNatClampNeg 1))), (a3, .inl (cT 0, 4096, .inl f50)), (a4, .inl (cT 4, 1024, .inr (.inr (.inr (.inr (va_up (va_up f55 0 (some r1)) 1 (some r2))))))), (a5, .inl (cT 0, 1024, .inl (upd f58 0 (vp_nar .byte y4)))), (a6, .inl (cT 0, 4096, .inl (upd f59 0 (vp_nar .byte (vp_nar .byte y4))))), (r1, .inr (6, [.int 0, .long 0, .int 0, .int 0, .int 0, .int 1])), (r2, .inr (6, [.int 3, .long 0, .int 0, .int 0, .int 0, .int 1]))] t) A) := by
  refine va_MetW (cc := prog_13_method_90_code) (maxL := 10) (ret := none) (hh := [(0, 128, 131, 83), (0, 128, 149, 86)]) (by decide) rfl ?_
  intro p e s m args below meth c s₁ B hml hv
  obtain ⟨rfl, hsz, hZ, hP, hK, hD0⟩ := hv
  have hx := B.exec
  have hb := B.bytes
  have hr := B.returns
  have hts := atoms_spec (ws := wyM_finish) B.pre
  have htx := fun w h => hts w (List.mem_cons_of_mem _ h)
  have hown : s.vm.findClass "ValueBenchModel" = some m.cls := findClass_of_methodNamed B.named
  have hlocks := B.notSynchronized
  subst hsz
  have hD := hD0.self (sz := s.heap.size)
  generalize hAe : va_A [(a0, .inr (5, [v18, .ref a4, .int 0, v19, v20, v21, v22, v23, v24, v25, v26, v27, v28, v29, v30, v31, v32, v33, v34, v35, v36, .ref a5, v37, v38, .ref a1, .ref a2, v39, v40, v41, v42, v43, v44])), (a1, .inl (cT 5, 8, .inr (.inr (.inr (.inr f45))))), (a2, .inl (cT 1, 8, .inl f48)), (a3, .inl (cT 0, 4096, .inl f50)), (a4, .inl (cT 4, 1024, .inr (.inr (.inr (.inr f55))))), (a5, .inl (cT 0, 1024, .inl f58)), (a6, .inl (cT 0, 4096, .inl f59))] s.heap.size = A at hD hZ ⊢
  have hA : ∀ q : Nat, s.heap.size ≤ q → A q := fun q h => by rw [← hAe]; exact Or.inr h
  have hS : va_S A s.heap s.heap [] := va_S.rf
  have hP : va_P D xcl [(a0, .inr (5, [v18, .ref a4, .int 0, v19, v20, v21, v22, v23, v24, v25, v26, v27, v28, v29, v30, v31, v32, v33, v34, v35, v36, .ref a5, v37, v38, .ref a1, .ref a2, v39, v40, v41, v42, v43, v44])), (a1, .inl (cT 5, 8, .inr (.inr (.inr (.inr f45))))), (a2, .inl (cT 1, 8, .inl f48)), (a3, .inl (cT 0, 4096, .inl f50)), (a4, .inl (cT 4, 1024, .inr (.inr (.inr (.inr f55))))), (a5, .inl (cT 0, 1024, .inl f58)), (a6, .inl (cT 0, 4096, .inl f59))] s.heap := hP
  have hl := lv_entry ([.ref a0, .int x7, .int 1, .int 1, .int x12, .int x17]) (n := 10) (Nat.le_of_ble_eq_true rfl)
  rw [lg_entry_eq]
  generalize (lg_sl ([.ref a0, .int x7, .int 1, .int 1, .int x12, .int x17]) ++ List.replicate (10 - (lg_sl ([.ref a0, .int x7, .int 1, .int 1, .int x12, .int x17])).length) Slot.unset).toArray = ls at hl ⊢
  have hl : lv_has ls 10 [(0, .ref a0), (1, .int x7), (2, .int 1), (3, .int 1), (4, .int x12), (5, .int x17)] := hl
  have htab := vx_table (x := yM_finish) B (hts _ List.mem_cons_self)
  refine lv_aload_n hx hb dM_finish_0 rfl (lv_at hl 0 rfl) ?_
  refine lv_iload hx hb dM_finish_1 (lv_at hl 4 rfl) ?_
  obtain ⟨hPc, hDc, hFc⟩ := xcut (wc := [(a0, .inr (5, [v18, .ref a4, .int 0, v19, v20, v21, v22, v23, v24, v25, v26, v27, v28, v29, v30, v31, v32, v33, v34, v35, v36, .ref a5, v37, v38, .ref a1, .ref a2, v39, v40, v41, v42, v43, v44])), (a1, .inl (cT 5, 8, .inr (.inr (.inr (.inr f45))))), (a2, .inl (cT 1, 8, .inl f48)), (a3, .inl (cT 0, 4096, .inl f50)), (a4, .inl (cT 4, 1024, .inr (.inr (.inr (.inr f55)))))]) hP hD hS hA [0, 1, 2, 3, 4] rfl rfl (by decide)
  refine va_callr (va_runV (C := "ValueBenchModel") (As := [.int x12]) (rest := []) ⟨hx, hb, hml, hown, htx⟩ (cM_register_0 l hl9 D cT aK aV s.heap.size a0 a1 a2 a3 a4 x12 v18 v19 v20 v21 v22 v23 v24 v25 v26 v27 v28 v29 v30 v31 v32 v33 v34 v35 v36 (.ref a5) v37 v38 v39 v40 v41 v42 v43 v44 f45 f48 f50 f55 h13 h14 h15 h16 (by first | rfl | exact h46 | exact h47 | exact h49 | exact h51 | exact h52 | exact h53 | exact h54 | exact h56 | exact h57) (by first | rfl | exact h46 | exact h47 | exact h49 | exact h51 | exact h52 | exact h53 | exact h54 | exact h56 | exact h57) (by first | rfl | exact h46 | exact h47 | exact h49 | exact h51 | exact h52 | exact h53 | exact h54 | exact h56 | exact h57) (by first | rfl | exact h46 | exact h47 | exact h49 | exact h51 | exact h52 | exact h53 | exact h54 | exact h56 | exact h57) (by first | rfl | exact h46 | exact h47 | exact h49 | exact h51 | exact h52 | exact h53 | exact h54 | exact h56 | exact h57) (by first | rfl | exact h46 | exact h47 | exact h49 | exact h51 | exact h52 | exact h53 | exact h54 | exact h56 | exact h57) (by first | rfl | exact h46 | exact h47 | exact h49 | exact h51 | exact h52 | exact h53 | exact h54 | exact h56 | exact h57)) ⟨callB_of 1 htx (xw_goodC kw_6_170) rfl rfl rfl (htx _ kw_1_5) (htx _ kw_6_167) ⟨by decide, by decide, by decide +kernel⟩ ⟨Nat.le_of_ble_eq_true rfl, Nat.le_of_ble_eq_true rfl⟩, (htx _ kw_6_169), (htx _ kp_M_register)⟩ ⟨xPre_blind, va_recv hK hP (ci := 5) rfl (q0 := 0) rfl, (fun U hU hW => ⟨rfl, xPre_of hZ hS hFc hPc hDc hK U hU hW⟩)⟩ rfl rfl hl.1 rfl (lv_room (Nat.le_of_ble_eq_true rfl)) dM_finish_3 ⟨Nat.le_of_ble_eq_true rfl, Nat.le_of_ble_eq_true rfl⟩) hS (fun q _ h => hFc q h) hFc (fun u9 r1 t H1 locs ht hvm hr9 hB hz1 hk1 hS => ?_)
  obtain ⟨hP1, hK1, hD1⟩ := hB
  rw [ht] at hP1
  obtain ⟨hP, hD⟩ := xjoin (W := [(a5, .inl (cT 0, 1024, .inl f58)), (a6, .inl (cT 0, 4096, .inl f59)), (a0, .inr (5, [v18, .ref a4, .int 1, v19, v20, v21, v22, v23, v24, v25, v26, v27, v28, v29, v30, .ref a3, .int 4, .int 4, .int 0, .int 100, v36, .ref a5, v37, v38, .ref a1, .ref a2, v39, v40, v41, v42, v43, v44])), (a1, .inl (cT 5, 8, .inr (.inr (.inr (.inr f45))))), (a2, .inl (cT 1, 8, .inl f48)), (a3, .inl (cT 0, 4096, .inl f50)), (a4, .inl (cT 4, 1024, .inr (.inr (.inr (.inr (va_up f55 0 (some r1))))))), (r1, .inr (6, [.int 0, .long 0, .int 0, .int 0, .int 0, .int 1]))]) hP hD [0, 1, 2, 3, 4] [5, 6] 2 rfl rfl (by decide) (by decide) hk1 hFc hP1 hD1
  generalize H1 = H at hP hS ⊢
  refine W.eq (g2 := F0 m 6 ls [.ref r1]) rfl ?_
  refine lv_astore (lv' := [(6, .ref r1), (0, .ref a0), (1, .int x7), (2, .int 1), (3, .int 1), (4, .int x12), (5, .int x17)]) hx hb dM_finish_6 hl (by decide) rfl (fun ls hl => ?_)
  refine lv_iload_n hx hb dM_finish_8 rfl (lv_at hl 3 rfl) ?_
  refine lv_iconst (v := 1) hx hb dM_finish_9 (by decide) ?_
  refine lv_icmp_ne (tgt := 17) hx hb dM_finish_10 (by decide) (fun h => ((by revert h; decide : False)).elim) (fun _ => ?_)
  refine lv_null hx hb dM_finish_13 ?_
  refine lv_goto (tgt := 23) hx hb dM_finish_14 (by decide) ?_
  refine lv_astoreN (lv' := [(7, .null), (6, .ref r1), (0, .ref a0), (1, .int x7), (2, .int 1), (3, .int 1), (4, .int x12), (5, .int x17)]) hx hb dM_finish_23 hl (by decide) rfl (fun ls hl => ?_)
  refine lv_iload_n hx hb dM_finish_25 rfl (lv_at hl 4 rfl) ?_
  refine lv_if_ne (tgt := 43) hx hb dM_finish_26 (by decide) (fun _ => ?_) (fun h => ((by revert h; decide : False)).elim)
  refine lv_iload_n hx hb dM_finish_43 rfl (lv_at hl 4 rfl) ?_
  refine lv_iconst (v := 1) hx hb dM_finish_44 (by decide) ?_
  refine lv_icmp_ne (tgt := 60) hx hb dM_finish_45 (by decide) (fun h => ((by revert h; decide : False)).elim) (fun _ => ?_)
  refine lv_aload_n hx hb dM_finish_48 rfl (lv_at hl 2 rfl) ?_
  refine lv_iload_n hx hb dM_finish_49 rfl (lv_at hl 5 rfl) ?_
  refine lv_aload hx hb dM_finish_50 (lv_at hl 1 rfl) ?_
  obtain ⟨hPc, hDc, hFc⟩ := xcut (wc := [(a0, .inr (5, [v18, .ref a4, .int 1, v19, v20, v21, v22, v23, v24, v25, v26, v27, v28, v29, v30, .ref a3, .int 4, .int 4, .int 0, .int 100, v36, .ref a5, v37, v38, .ref a1, .ref a2, v39, v40, v41, v42, v43, v44])), (r1, .inr (6, [.int 0, .long 0, .int 0, .int 0, .int 0, .int 1])), (a4, .inl (cT 4, 1024, .inr (.inr (.inr (.inr (va_up f55 0 (some r1)))))))]) hP hD hS hA [2, 7, 6] rfl rfl (by decide)
  refine va_callr (va_runV (C := "ValueBenchModel") (As := [.int 1, .ref r1]) (rest := []) ⟨hx, hb, hml, hown, htx⟩ (cM_one1_1 l hl9 D cT aK aV H.size a0 r1 a4 v18 v19 v20 v21 v22 v23 v24 v25 v26 v27 v28 v29 v30 (.ref a3) (.int 4) (.int 4) (.int 0) (.int 100) v36 (.ref a5) v37 v38 (.ref a1) (.ref a2) v39 v40 v41 v42 v43 v44 (.long 0) (.int 0) (.int 0) (.int 0) (.int 1) (va_up f55 0 (some r1)) (by first | rfl | exact h46 | exact h47 | exact h49 | exact h51 | exact h52 | exact h53 | exact h54 | exact h57)) ⟨callB_of 2 htx (xw_goodC kw_6_237) rfl rfl rfl (htx _ kw_1_5) (htx _ kw_6_234) ⟨by decide, by decide, by decide +kernel⟩ ⟨Nat.le_of_ble_eq_true rfl, Nat.le_of_ble_eq_true rfl⟩, (htx _ kw_6_236), (htx _ kp_M_one1)⟩ ⟨xPre_blind, va_recv hK hP (ci := 5) rfl (q0 := 2) rfl, (fun U hU hW => ⟨rfl, xPre_of hZ hS hFc hPc hDc hK U hU hW⟩)⟩ rfl rfl hl.1 rfl (lv_room (Nat.le_of_ble_eq_true rfl)) dM_finish_52 ⟨Nat.le_of_ble_eq_true rfl, Nat.le_of_ble_eq_true rfl⟩) hS (fun q _ h => hFc q h) hFc (fun u9 r2 t H1 locs ht hvm hr9 hB hz1 hk1 hS => ?_)
  obtain ⟨hP1, hK1, hD1⟩ := hB
  rw [ht] at hP1
  obtain ⟨hP, hD⟩ := xjoin (W := [(a5, .inl (cT 0, 1024, .inl f58)), (a6, .inl (cT 0, 4096, .inl f59)), (a1, .inl (cT 5, 8, .inr (.inr (.inr (.inr f45))))), (a2, .inl (cT 1, 8, .inl f48)), (a3, .inl (cT 0, 4096, .inl f50)), (a0, .inr (5, [v18, .ref a4, .int 2, v19, v20, v21, v22, v23, v24, v25, v26, v27, v28, v29, v30, .ref a3, .int 4, .int 4, .int 0, .int 100, v36, .ref a5, v37, v38, .ref a1, .ref a2, v39, v40, v41, v42, v43, v44])), (r1, .inr (6, [.int 0, .long 0, .int 0, .int 0, .int 0, .int 1])), (a4, .inl (cT 4, 1024, .inr (.inr (.inr (.inr (va_up (va_up f55 0 (some r1)) 1 (some r2))))))), (r2, .inr (6, [.int 3, .long 0, .int 0, .int 0, .int 0, .int 1]))]) hP hD [2, 7, 6] [0, 1, 3, 4, 5] 5 rfl rfl (by decide) (by decide) hk1 hFc hP1 hD1
  generalize H1 = H at hP hS ⊢
  refine W.eq (g2 := F0 m 55 ls [.ref r2]) rfl ?_
  refine lv_astore (lv' := [(8, .ref r2), (7, .null), (6, .ref r1), (0, .ref a0), (1, .int x7), (2, .int 1), (3, .int 1), (4, .int x12), (5, .int x17)]) hx hb dM_finish_55 hl (by decide) rfl (fun ls hl => ?_)
  refine lv_goto (tgt := 119) hx hb dM_finish_57 (by decide) ?_
  refine lv_aload_n hx hb dM_finish_119 rfl (lv_at hl 3 rfl) ?_
  refine lv_iload_n hx hb dM_finish_120 rfl (lv_at hl 4 rfl) ?_
  refine lv_aload hx hb dM_finish_121 (lv_at hl 0 rfl) ?_
  obtain ⟨hPc, hDc, hFc⟩ := xcut (wc := [(a0, .inr (5, [v18, .ref a4, .int 2, v19, v20, v21, v22, v23, v24, v25, v26, v27, v28, v29, v30, .ref a3, .int 4, .int 4, .int 0, .int 100, v36, .ref a5, v37, v38, .ref a1, .ref a2, v39, v40, v41, v42, v43, v44])), (r2, .inr (6, [.int 3, .long 0, .int 0, .int 0, .int 0, .int 1])), (a5, .inl (cT 0, 1024, .inl f58)), (a1, .inl (cT 5, 8, .inr (.inr (.inr (.inr f45))))), (a6, .inl (cT 0, 4096, .inl f59)), (a2, .inl (cT 1, 8, .inl f48))]) hP hD hS hA [5, 8, 0, 2, 1, 3] rfl rfl (by decide)
  refine va_calli (va_runV (C := "ValueBenchModel") (As := [.int x7, .ref r2]) (rest := []) ⟨hx, hb, hml, hown, htx⟩ (cM_store_2 l hl9 D cT aK aV H.size a0 r2 a5 a1 a6 a2 x7 v18 (.ref a4) (.int 2) v19 v20 v21 v22 v23 v24 v25 v26 v27 v28 v29 v30 (.ref a3) (.int 4) (.int 4) (.int 0) (.int 100) v36 v37 v38 v39 v40 v41 v42 v43 v44 (.int 0) (.int 0) (.int 0) (.int 1) f58 f45 f59 f48 h8 h9 h10 h11 (by first | rfl | exact h46 | exact h47 | exact h49 | exact h51 | exact h52 | exact h53 | exact h54)) ⟨callB_of 2 htx (xw_goodC kw_6_124) rfl rfl rfl (htx _ kw_1_5) (htx _ kw_6_121) ⟨by decide, by decide, by decide +kernel⟩ ⟨Nat.le_of_ble_eq_true rfl, Nat.le_of_ble_eq_true rfl⟩, (htx _ kw_6_123), (htx _ kp_M_store)⟩ ⟨xPre_blind, va_recv hK hP (ci := 5) rfl (q0 := 5) rfl, (fun U hU hW => ⟨rfl, xPre_of hZ hS hFc hPc hDc hK U hU hW⟩)⟩ rfl rfl hl.1 rfl (lv_room (Nat.le_of_ble_eq_true rfl)) dM_finish_123 ⟨Nat.le_of_ble_eq_true rfl, Nat.le_of_ble_eq_true rfl⟩) hS (fun q _ h => hFc q h) hFc (fun r3 u9 t H1 locs ht hvm hr9 hB hz1 hk1 hS => ?_)
  obtain ⟨y4, hP1, hK1, hD1⟩ := hB
  rw [ht] at hP1
  obtain ⟨hP, hD⟩ := xjoin (W := [(a3, .inl (cT 0, 4096, .inl f50)), (r1, .inr (6, [.int 0, .long 0, .int 0, .int 0, .int 0, .int 1])), (a4, .inl (cT 4, 1024, .inr (.inr (.inr (.inr (va_up (va_up f55 0 (some r1)) 1 (some r2))))))), (a0, .inr (5, [v18, .ref a4, .int 2, v19, v20, v21, v22, v23, v24, v25, v26, v27, v28, v29, v30, .ref a3, .int 4, .int 4, .int 0, .int 100, v36, .ref a5, .int 1, .int 4096, .ref a1, .ref a2, v39, v40, v41, v42, v43, v44])), (r2, .inr (6, [.int 3, .long 0, .int 0, .int 0, .int 0, .int 1])), (a5, .inl (cT 0, 1024, .inl (upd f58 0 (vp_nar .byte y4)))), (a1, .inl (cT 5, 8, .inr (.inr (.inr (.inr f45))))), (a6, .inl (cT 0, 4096, .inl (upd f59 0 (vp_nar .byte (vp_nar .byte y4))))), (a2, .inl (cT 1, 8, .inl (upd f48 x7.toNatClampNeg 1)))]) hP hD [5, 8, 0, 2, 1, 3] [4, 6, 7] 3 rfl rfl (by decide) (by decide) hk1 hFc hP1 hD1
  generalize H1 = H at hP hS ⊢
  rw [hr9]
  refine W.eq (g2 := F0 m 126 ls [.int 1]) rfl ?_
  refine lv_istore (lv' := [(9, .int 1), (8, .ref r2), (7, .null), (6, .ref r1), (0, .ref a0), (1, .int x7), (2, .int 1), (3, .int 1), (4, .int x12), (5, .int x17)]) hx hb dM_finish_126 hl (by decide) rfl (fun ls hl => ?_)
  refine lv_goto (tgt := 156) hx hb dM_finish_128 (by decide) ?_
  obtain ⟨hP9, hD9⟩ := xsub (wc := [(a0, .inr (5, [v18, .ref a4, .int 2, v19, v20, v21, v22, v23, v24, v25, v26, v27, v28, v29, v30, .ref a3, .int 4, .int 4, .int 0, .int 100, v36, .ref a5, .int 1, .int 4096, .ref a1, .ref a2, v39, v40, v41, v42, v43, v44])), (a1, .inl (cT 5, 8, .inr (.inr (.inr (.inr f45))))), (a2, .inl (cT 1, 8, .inl (upd f48 x7.toNatClampNeg 1))), (a3, .inl (cT 0, 4096, .inl f50)), (a4, .inl (cT 4, 1024, .inr (.inr (.inr (.inr (va_up (va_up f55 0 (some r1)) 1 (some r2))))))), (a5, .inl (cT 0, 1024, .inl (upd f58 0 (vp_nar .byte y4)))), (a6, .inl (cT 0, 4096, .inl (upd f59 0 (vp_nar .byte (vp_nar .byte y4))))), (r1, .inr (6, [.int 0, .long 0, .int 0, .int 0, .int 0, .int 1])), (r2, .inr (6, [.int 3, .long 0, .int 0, .int 0, .int 0, .int 1]))]) hP hD [3, 6, 8, 0, 2, 5, 7, 1, 4] rfl rfl (by decide)
  refine W.widen (k := 2) (n := 12) (Nat.le_of_ble_eq_true rfl) (Nat.le_of_ble_eq_true rfl) ?_
  exact W.vret hx hb hr (fun t ht hW => ⟨⟨(), rfl, trivial, r1, r2, y4, by rw [ht]; exact hP9, va_K.moved hW.alike hK, hD9⟩, hS.F ht⟩) hS.2.2 dM_finish_156
