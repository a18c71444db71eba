set_option maxHeartbeats 400000000 in
set_option maxRecDepth 100000 in
theorem cL_one_11 (l : Launch) (hl9 : l.stackTraces = false) (D : va_G) (cT : Nat → ClassId) (aK aV : Nat → Nat) (sz : Nat) (a0 : Nat) (a1 : Nat) (a2 : Nat) (a3 : Nat) (a4 : Nat) (x5 : Int32) (x10 : Int32) (v15 : Value) (v16 : Value) (b17 : Nat) (b18 : Nat) (v19 : Value) (v20 : Value) (v21 : Value) (v22 : Value) (v23 : Value) (f24 : Nat → Option Nat) (v26 : Value) (f27 : Nat → Int64) (h6 : ¬ x5 < 0) (h7 : ¬ 7 < x5) (h8 : x5 ≤ 7) (h9 : vp_in x5 8) (h11 : ¬ x10 < 0) (h12 : ¬ 7 < x10) (h13 : x10 ≤ 7) (h14 : vp_in x10 8) (h25 : f24 x10.toNatClampNeg = some a3) (h28 : f27 0 = 0) : xMet l yL_one wyL_one 8 1 6 144 D cT aK aV sz [.ref a0, .int x5, .int 11, .int x10] [(a0, .inr (0, [v15, v16, .ref b17, .ref a2, .ref b18, .ref a1, v19, v20])), (a1, .inr (2, [v21, v22, v23])), (a2, .inl (cT 3, 8, .inr (.inr (.inr (.inr f24))))), (a3, .inr (2, [.ref a4, .int 1, v26])), (a4, .inl (cT 2, 4096, .inr (.inl f27)))] (fun A => va_Qi (fun (r : Int32) (_ : Unit) => r = 2) (fun _ t => xB D xcl cT A [(a0, .inr (0, [v15, v16, .ref b17, .ref a2, .ref b18, .ref a1, v19, .int 1])), (a1, .inr (2, [v21, .int 0, .int 0])), (a2, .inl (cT 3, 8, .inr (.inr (.inr (.inr f24))))), (a3, .inr (2, [.ref a4, .int 1, v26])), (a4, .inl (cT 2, 4096, .inr (.inl f27)))] t) A) := by
  refine va_MetW (cc := method_10_code) (maxL := 5) (ret := (some .int)) (hh := [(0, 7, 10, 19), (0, 7, 14, 33), (0, 7, 18, 13)]) (by decide) rfl ?_
  intro p e s m args below meth c s₁ B hml hv
  obtain ⟨rfl, hsz, hZ, hP, hK, hD0⟩ := hv
  have hx := B.exec
  have hb := B.bytes
  have hr := B.returns
  have hts := atoms_spec (ws := wyL_one) B.pre
  have htx := fun w h => hts w (List.mem_cons_of_mem _ h)
  have hown : s.vm.findClass "ValueBenchLaw" = some m.cls := findClass_of_methodNamed B.named
  have hlocks := B.notSynchronized
  subst hsz
  have hD := hD0.self (sz := s.heap.size)
  generalize hAe : va_A [(a0, .inr (0, [v15, v16, .ref b17, .ref a2, .ref b18, .ref a1, v19, v20])), (a1, .inr (2, [v21, v22, v23])), (a2, .inl (cT 3, 8, .inr (.inr (.inr (.inr f24))))), (a3, .inr (2, [.ref a4, .int 1, v26])), (a4, .inl (cT 2, 4096, .inr (.inl f27)))] s.heap.size = A at hD hZ ⊢
  have hA : ∀ q : Nat, s.heap.size ≤ q → A q := fun q h => by rw [← hAe]; exact Or.inr h
  have hS : va_S A s.heap s.heap [] := va_S.rf
  have hP : va_P D xcl [(a0, .inr (0, [v15, v16, .ref b17, .ref a2, .ref b18, .ref a1, v19, v20])), (a1, .inr (2, [v21, v22, v23])), (a2, .inl (cT 3, 8, .inr (.inr (.inr (.inr f24))))), (a3, .inr (2, [.ref a4, .int 1, v26])), (a4, .inl (cT 2, 4096, .inr (.inl f27)))] s.heap := hP
  have hl := lv_entry ([.ref a0, .int x5, .int 11, .int x10]) (n := 5) (Nat.le_of_ble_eq_true rfl)
  rw [lg_entry_eq]
  generalize (lg_sl ([.ref a0, .int x5, .int 11, .int x10]) ++ List.replicate (5 - (lg_sl ([.ref a0, .int x5, .int 11, .int x10])).length) Slot.unset).toArray = ls at hl ⊢
  have hl : lv_has ls 5 [(0, .ref a0), (1, .int x5), (2, .int 11), (3, .int x10)] := hl
  have htab := vx_table (x := yL_one) B (hts _ List.mem_cons_self)
  refine lv_aload_n hx hb dL_one_0 rfl (lv_at hl 0 rfl) ?_
  refine lv_iload_n hx hb dL_one_1 rfl (lv_at hl 1 rfl) ?_
  refine lv_iload_n hx hb dL_one_2 rfl (lv_at hl 2 rfl) ?_
  refine lv_iload_n hx hb dL_one_3 rfl (lv_at hl 3 rfl) ?_
  obtain ⟨hPc, hDc, hFc⟩ := xcut (wc := [(a0, .inr (0, [v15, v16, .ref b17, .ref a2, .ref b18, .ref a1, v19, v20])), (a1, .inr (2, [v21, v22, v23])), (a2, .inl (cT 3, 8, .inr (.inr (.inr (.inr f24))))), (a3, .inr (2, [.ref a4, .int 1, v26])), (a4, .inl (cT 2, 4096, .inr (.inl f27)))]) hP hD hS hA [0, 1, 2, 3, 4] rfl rfl (by decide)
  refine xx_thr (vx_runV (C := "ValueBench") (As := [.int x5, .int 11, .int x10]) (rest := []) ⟨hx, hb, hml, hown, htx⟩ (cB_one_11 l hl9 D cT aK aV s.heap.size a0 a1 a2 a3 a4 x5 x10 v15 v16 b17 b18 v19 v20 v21 v22 v23 f24 v26 f27 h6 h7 h8 h9 h11 h12 h13 h14 (by first | rfl | exact h25 | exact h28) (by first | rfl | exact h25 | exact h28)) ⟨callB_of 3 htx (xw_goodC kw_4_25) rfl rfl rfl (htx _ kw_1_1) (htx _ kw_4_22) ⟨by decide, by decide, by decide +kernel⟩ ⟨Nat.le_of_ble_eq_true rfl, Nat.le_of_ble_eq_true rfl⟩, (htx _ kw_4_23), (htx _ kw_4_24)⟩ ⟨xPre_blind, va_recv hK hP (ci := 0) rfl (q0 := 0) rfl, (fun U hU hW => ⟨rfl, xPre_of hZ hS hFc hPc hDc hK U hU hW⟩)⟩ rfl rfl hl.1 rfl (lv_room (Nat.le_of_ble_eq_true rfl)) dL_one_4 ⟨Nat.le_of_ble_eq_true rfl, Nat.le_of_ble_eq_true rfl⟩) hS hFc (fun q _ h => hFc q h) (fun E ce q9 u9 t H1 locs ht hvm _ hB hz1 hk1 hS hce hcv hcl => ?_)
  obtain ⟨rfl, hP1, hK1, hD1⟩ := hB
  rw [ht] at hP1
  obtain ⟨hP, hD⟩ := xjoin (W := [(a0, .inr (0, [v15, v16, .ref b17, .ref a2, .ref b18, .ref a1, v19, .int 1])), (a1, .inr (2, [v21, .int 0, .int 0])), (a2, .inl (cT 3, 8, .inr (.inr (.inr (.inr f24))))), (a3, .inr (2, [.ref a4, .int 1, v26])), (a4, .inl (cT 2, 4096, .inr (.inl f27)))]) hP hD [0, 1, 2, 3, 4] [] 0 rfl rfl (by decide) (by decide) hk1 hFc hP1 hD1
  generalize H1 = H at hP hS hce ⊢
  refine vx_catch (own := "ValueBenchLaw") (name := "java/lang/ArithmeticException") (E := "java/lang/ArithmeticException") hown [⟨0, 7, 10, 19⟩] ⟨0, 7, 14, 33⟩ [⟨0, 7, 18, 13⟩] (by rw [htab]; rfl) (by intro z hz; rcases List.mem_cons.mp hz with rfl | hz; (exact Or.inr ⟨by decide, "java/lang/IllegalArgumentException", htx _ kw_1_211, hZ.2.2.2.2.2.2.2.1 _ (List.mem_of_getElem? (i := 10) rfl)⟩); cases hz) (by decide) (by decide) (htx _ kw_3_98) ((hZ.2.2.2.2.2.1 _ (List.mem_of_getElem? (i := 3) rfl)).use rfl) hce hcv hcl ?_
  refine lv_astore (lv' := [(4, .ref q9), (0, .ref a0), (1, .int x5), (2, .int 11), (3, .int x10)]) hx hb dL_one_14 hl (by decide) rfl (fun ls hl => ?_)
  refine lv_iconst (v := 2) hx hb dL_one_16 (by decide) ?_
  obtain ⟨hP9, hD9⟩ := xsub (wc := [(a0, .inr (0, [v15, v16, .ref b17, .ref a2, .ref b18, .ref a1, v19, .int 1])), (a1, .inr (2, [v21, .int 0, .int 0])), (a2, .inl (cT 3, 8, .inr (.inr (.inr (.inr f24))))), (a3, .inr (2, [.ref a4, .int 1, v26])), (a4, .inl (cT 2, 4096, .inr (.inl f27)))]) hP hD [0, 1, 2, 3, 4] rfl rfl (by decide)
  refine W.widen (k := 1) (n := 6) (Nat.le_of_ble_eq_true rfl) (Nat.le_of_ble_eq_true rfl) ?_
  exact W.iret (v := 2) hx hb hr (fun t ht hW => ⟨⟨2, (), rfl, rfl, by rw [ht]; exact hP9, va_K.moved hW.alike hK, hD9⟩, hS.F ht⟩) hS.2.2 dL_one_17
set_option maxHeartbeats 400000000 in
set_option maxRecDepth 100000 in
theorem cB_isWithin_22 (l : Launch) (hl9 : l.stackTraces = false) (D : va_G) (cT : Nat → ClassId) (aK aV : Nat → Nat) (sz : Nat) : xMet l yB_isWithin wyB_isWithin 0 0 0 0 D cT aK aV sz [.int 12, .int 13] [] (fun A => va_Qi (fun (r : Int32) (_ : Unit) => r = 1) (fun _ t => xB D xcl cT A [] t) A) := by
  refine Met.ofW (cc := prog_1_method_15_code) (maxL := 2) (ret := (some .boolean)) (by decide) rfl ?_
  intro p e s m args below meth c s₁ B hml hv
  obtain ⟨rfl, hsz, hZ, hP, hK, hD0⟩ := hv
  have hx := B.exec
  have hb := B.bytes
  have hr := B.returns
  have hts := atoms_spec (ws := wyB_isWithin) B.pre
  have htx := fun w h => hts w (List.mem_cons_of_mem _ h)
  have hown : s.vm.findClass "ValueBench" = some m.cls := findClass_of_methodNamed B.named
  have hlocks := B.notSynchronized
  subst hsz
  have hD := hD0.self (sz := s.heap.size)
  generalize hAe : va_A [] s.heap.size = A at hD hZ ⊢
  have hA : ∀ q : Nat, s.heap.size ≤ q → A q := fun q h => by rw [← hAe]; exact Or.inr h
  have hS : va_S A s.heap s.heap [] := va_S.rf
  have hP : va_P D xcl [] s.heap := hP
  have hl := lv_entry ([.int 12, .int 13]) (n := 2) (Nat.le_of_ble_eq_true rfl)
  rw [lg_entry_eq]
  generalize (lg_sl ([.int 12, .int 13]) ++ List.replicate (2 - (lg_sl ([.int 12, .int 13])).length) Slot.unset).toArray = ls at hl ⊢
  have hl : lv_has ls 2 [(0, .int 12), (1, .int 13)] := hl
  refine lv_iload_n hx hb dB_isWithin_0 rfl (lv_at hl 0 rfl) ?_
  refine lv_if_lt (tgt := 13) hx hb dB_isWithin_1 (by decide) (fun h => ((by revert h; decide : False)).elim) (fun _ => ?_)
  refine lv_iload_n hx hb dB_isWithin_4 rfl (lv_at hl 0 rfl) ?_
  refine lv_iload_n hx hb dB_isWithin_5 rfl (lv_at hl 1 rfl) ?_
  refine lv_icmp_gt (tgt := 13) hx hb dB_isWithin_6 (by decide) (fun h => ((by revert h; decide : False)).elim) (fun _ => ?_)
  refine lv_iconst (v := 1) hx hb dB_isWithin_9 (by decide) ?_
  refine lv_goto (tgt := 14) hx hb dB_isWithin_10 (by decide) ?_
  obtain ⟨hP9, hD9⟩ := xsub (wc := []) hP hD [] rfl rfl (by decide)
  refine W.widen (k := 0) (n := 0) (Nat.le_of_ble_eq_true rfl) (Nat.le_of_ble_eq_true rfl) ?_
  exact W.zret (v := 1) hx hb hr rfl (fun t ht hW => ⟨⟨1, (), rfl, rfl, by rw [ht]; exact hP9, va_K.moved hW.alike hK, hD9⟩, hS.F ht⟩) hS.2.2 dB_isWithin_14
set_option maxHeartbeats 400000000 in
set_option maxRecDepth 100000 in
theorem cG_inCase_0 (l : Launch) (hl9 : l.stackTraces = false) (D : va_G) (cT : Nat → ClassId) (aK aV : Nat → Nat) (sz : Nat) (a0 : Nat) (a1 : Nat) (x2 : Int32) (x3 : Int32) (b4 : Nat) (v5 : Value) (f6 : Nat → Int64) (h7 : f6 0 = 0) : xMet l yG_inCase wyG_inCase 2 0 0 43 D cT aK aV sz [.ref a0, .int x2, .int x3, .ref b4] [(a0, .inr (2, [.ref a1, .int 1, v5])), (a1, .inl (cT 2, 4096, .inr (.inl f6)))] (fun A => va_Qi (fun (r : Int32) (_ : Unit) => r = 1) (fun _ t => xB D xcl cT A [(a0, .inr (2, [.ref a1, .int 1, v5])), (a1, .inl (cT 2, 4096, .inr (.inl f6)))] t) A) := by
  refine Met.ofW (cc := prog_9_method_17_code) (maxL := 8) (ret := (some .int)) (by decide) rfl ?_
  intro p e s m args below meth c s₁ B hml hv
  obtain ⟨rfl, hsz, hZ, hP, hK, hD0⟩ := hv
  have hx := B.exec
  have hb := B.bytes
  have hr := B.returns
  have hts := atoms_spec (ws := wyG_inCase) B.pre
  have htx := fun w h => hts w (List.mem_cons_of_mem _ h)
  have hown : s.vm.findClass "ValueBench$Singles" = some m.cls := findClass_of_methodNamed B.named
  have hlocks := B.notSynchronized
  subst hsz
  have hD := hD0.self (sz := s.heap.size)
  generalize hAe : va_A [(a0, .inr (2, [.ref a1, .int 1, v5])), (a1, .inl (cT 2, 4096, .inr (.inl f6)))] s.heap.size = A at hD hZ ⊢
  have hA : ∀ q : Nat, s.heap.size ≤ q → A q := fun q h => by rw [← hAe]; exact Or.inr h
  have hS : va_S A s.heap s.heap [] := va_S.rf
  have hP : va_P D xcl [(a0, .inr (2, [.ref a1, .int 1, v5])), (a1, .inl (cT 2, 4096, .inr (.inl f6)))] s.heap := hP
  have hl := lv_entry ([.ref a0, .int x2, .int x3, .ref b4]) (n := 8) (Nat.le_of_ble_eq_true rfl)
  rw [lg_entry_eq]
  generalize (lg_sl ([.ref a0, .int x2, .int x3, .ref b4]) ++ List.replicate (8 - (lg_sl ([.ref a0, .int x2, .int x3, .ref b4])).length) Slot.unset).toArray = ls at hl ⊢
  have hl : lv_has ls 8 [(0, .ref a0), (1, .int x2), (2, .int x3), (3, .ref b4)] := hl
  refine lv_aload_n hx hb dG_inCase_0 rfl (lv_at hl 0 rfl) ?_
  refine lv_iconst (v := 0) hx hb dG_inCase_1 (by decide) ?_
  refine lv_iconst (v := 4) hx hb dG_inCase_2 (by decide) ?_
  obtain ⟨hPc, hDc, hFc⟩ := xcut (wc := [(a0, .inr (2, [.ref a1, .int 1, v5])), (a1, .inl (cT 2, 4096, .inr (.inl f6)))]) hP hD hS hA [0, 1] rfl rfl (by decide)
  refine va_calli (va_runV (C := "ValueBench$Row") (As := [.int 0, .int 4]) (rest := []) ⟨hx, hb, hml, hown, htx⟩ (cR_is_3 l hl9 D cT aK aV s.heap.size a0 a1 v5 f6 (by first | rfl | exact h7)) ⟨callB_of 2 htx (xw_goodC kw_3_75) rfl rfl rfl (htx _ kw_1_4) (htx _ kw_4_29) ⟨by decide, by decide, by decide +kernel⟩ ⟨Nat.le_of_ble_eq_true rfl, Nat.le_of_ble_eq_true rfl⟩, (htx _ kw_3_73), (htx _ kw_3_74)⟩ ⟨xPre_blind, va_recv hK hP (ci := 2) rfl (q0 := 0) rfl, (fun U hU hW => ⟨rfl, xPre_of hZ hS hFc hPc hDc hK U hU hW⟩)⟩ rfl rfl hl.1 rfl (lv_room (Nat.le_of_ble_eq_true rfl)) dG_inCase_3 ⟨Nat.le_of_ble_eq_true rfl, Nat.le_of_ble_eq_true rfl⟩) hS (fun q _ h => hFc q h) hFc (fun r1 u9 t H1 locs ht hvm hr9 hB hz1 hk1 hS => ?_)
  obtain ⟨hP1, hK1, hD1⟩ := hB
  rw [ht] at hP1
  obtain ⟨hP, hD⟩ := xjoin (W := [(a0, .inr (2, [.ref a1, .int 1, v5])), (a1, .inl (cT 2, 4096, .inr (.inl f6)))]) hP hD [0, 1] [] 0 rfl rfl (by decide) (by decide) hk1 hFc hP1 hD1
  generalize H1 = H at hP hS ⊢
  rw [hr9]
  refine W.eq (g2 := F0 m 6 ls [.int 0]) rfl ?_
  refine lv_if_ne (tgt := 11) hx hb dG_inCase_6 (by decide) (fun h => ((by revert h; decide : False)).elim) (fun _ => ?_)
  refine lv_iconst (v := 1) hx hb dG_inCase_9 (by decide) ?_
  obtain ⟨hP9, hD9⟩ := xsub (wc := [(a0, .inr (2, [.ref a1, .int 1, v5])), (a1, .inl (cT 2, 4096, .inr (.inl f6)))]) hP hD [0, 1] rfl rfl (by decide)
  refine W.widen (k := 0) (n := 0) (Nat.le_of_ble_eq_true rfl) (Nat.le_of_ble_eq_true rfl) ?_
  exact W.iret (v := 1) hx hb hr (fun t ht hW => ⟨⟨1, (), rfl, rfl, by rw [ht]; exact hP9, va_K.moved hW.alike hK, hD9⟩, hS.F ht⟩) hS.2.2 dG_inCase_10
set_option maxHeartbeats 400000000 in
set_option maxRecDepth 100000 in
theorem cG_apply_12 (l : Launch) (hl9 : l.stackTraces = false) (D : va_G) (cT : Nat → ClassId) (aK aV : Nat → Nat) (sz : Nat) (a0 : Nat) (a1 : Nat) (b2 : Nat) (b3 : Nat) (b4 : Nat) (v5 : Value) (f6 : Nat → Int64) (h7 : f6 0 = 0) : xMet l yG_apply wyG_apply 3 0 0 70 D cT aK aV sz [.int 12, .ref a0, .ref b2, .ref b3, .ref b4] [(a0, .inr (2, [.ref a1, .int 1, v5])), (a1, .inl (cT 2, 4096, .inr (.inl f6)))] (fun A => va_Qi (fun (r : Int32) (_ : Unit) => r = 1) (fun _ t => xB D xcl cT A [(a0, .inr (2, [.ref a1, .int 1, v5])), (a1, .inl (cT 2, 4096, .inr (.inl f6)))] t) A) := by
  refine Met.ofW (cc := prog_9_method_2_code) (maxL := 5) (ret := (some .int)) (by decide) rfl ?_
  intro p e s m args below meth c s₁ B hml hv
  obtain ⟨rfl, hsz, hZ, hP, hK, hD0⟩ := hv
  have hx := B.exec
  have hb := B.bytes
  have hr := B.returns
  have hts := atoms_spec (ws := wyG_apply) B.pre
  have htx := fun w h => hts w (List.mem_cons_of_mem _ h)
  have hown : s.vm.findClass "ValueBench$Singles" = some m.cls := findClass_of_methodNamed B.named
  have hlocks := B.notSynchronized
  subst hsz
  have hD := hD0.self (sz := s.heap.size)
  generalize hAe : va_A [(a0, .inr (2, [.ref a1, .int 1, v5])), (a1, .inl (cT 2, 4096, .inr (.inl f6)))] s.heap.size = A at hD hZ ⊢
  have hA : ∀ q : Nat, s.heap.size ≤ q → A q := fun q h => by rw [← hAe]; exact Or.inr h
  have hS : va_S A s.heap s.heap [] := va_S.rf
  have hP : va_P D xcl [(a0, .inr (2, [.ref a1, .int 1, v5])), (a1, .inl (cT 2, 4096, .inr (.inl f6)))] s.heap := hP
  have hl := lv_entry ([.int 12, .ref a0, .ref b2, .ref b3, .ref b4]) (n := 5) (Nat.le_of_ble_eq_true rfl)
  rw [lg_entry_eq]
  generalize (lg_sl ([.int 12, .ref a0, .ref b2, .ref b3, .ref b4]) ++ List.replicate (5 - (lg_sl ([.int 12, .ref a0, .ref b2, .ref b3, .ref b4])).length) Slot.unset).toArray = ls at hl ⊢
  have hl : lv_has ls 5 [(0, .int 12), (1, .ref a0), (2, .ref b2), (3, .ref b3), (4, .ref b4)] := hl
  refine lv_iload_n hx hb dG_apply_0 rfl (lv_at hl 0 rfl) ?_
  refine lv_tableIn (off := 231) (tgt := 232) hx hb dG_apply_1 (by decide) (by decide) (by decide) (by decide) ?_
  refine lv_aload_n hx hb dG_apply_232 rfl (lv_at hl 1 rfl) ?_
  refine lv_bipush (v := 65) hx hb dG_apply_233 (by decide) ?_
  refine lv_bipush (v := 32) hx hb dG_apply_235 (by decide) ?_
  refine lv_aload hx hb dG_apply_237 (lv_at hl 4 rfl) ?_
  obtain ⟨hPc, hDc, hFc⟩ := xcut (wc := [(a0, .inr (2, [.ref a1, .int 1, v5])), (a1, .inl (cT 2, 4096, .inr (.inl f6)))]) hP hD hS hA [0, 1] rfl rfl (by decide)
  refine va_calli (va_runS (As := [.ref a0, .int 65, .int 32, .ref b4]) (rest := []) ⟨hx, hb, hml, hown, htx⟩ (cG_inCase_0 l hl9 D cT aK aV s.heap.size a0 a1 65 32 b4 v5 f6 (by first | rfl | exact h7)) ⟨callB_of 4 htx (xw_goodC kw_4_136) rfl rfl rfl (htx _ kw_1_26) (htx _ kw_4_134) ⟨by decide, by decide, by decide +kernel⟩ ⟨Nat.le_of_ble_eq_true rfl, Nat.le_of_ble_eq_true rfl⟩, htx _ kw_4_135⟩ ⟨xPre_blind, (fun U hU hW => ⟨rfl, xPre_of hZ hS hFc hPc hDc hK U hU hW⟩)⟩ rfl rfl hl.1 rfl (lv_room (Nat.le_of_ble_eq_true rfl)) dG_apply_239 ⟨Nat.le_of_ble_eq_true rfl, Nat.le_of_ble_eq_true rfl⟩) hS (fun q _ h => hFc q h) hFc (fun r1 u9 t H1 locs ht hvm hr9 hB hz1 hk1 hS => ?_)
  obtain ⟨hP1, hK1, hD1⟩ := hB
  rw [ht] at hP1
  obtain ⟨hP, hD⟩ := xjoin (W := [(a0, .inr (2, [.ref a1, .int 1, v5])), (a1, .inl (cT 2, 4096, .inr (.inl f6)))]) hP hD [0, 1] [] 0 rfl rfl (by decide) (by decide) hk1 hFc hP1 hD1
  generalize H1 = H at hP hS ⊢
  rw [hr9]
  refine W.eq (g2 := F0 m 242 ls [.int 1]) rfl ?_
  obtain ⟨hP9, hD9⟩ := xsub (wc := [(a0, .inr (2, [.ref a1, .int 1, v5])), (a1, .inl (cT 2, 4096, .inr (.inl f6)))]) hP hD [0, 1] rfl rfl (by decide)
  refine W.widen (k := 0) (n := 0) (Nat.le_of_ble_eq_true rfl) (Nat.le_of_ble_eq_true rfl) ?_
  exact W.iret (v := 1) hx hb hr (fun t ht hW => ⟨⟨1, (), rfl, rfl, by rw [ht]; exact hP9, va_K.moved hW.alike hK, hD9⟩, hS.F ht⟩) hS.2.2 dG_apply_242
set_option maxHeartbeats 400000000 in
set_option maxRecDepth 100000 in
theorem cB_one_12 (l : Launch) (hl9 : l.stackTraces = false) (D : va_G) (cT : Nat → ClassId) (aK aV : Nat → Nat) (sz : Nat) (a0 : Nat) (a1 : Nat) (a2 : Nat) (a3 : Nat) (a4 : Nat) (x5 : Int32) (x10 : Int32) (v15 : Value) (v16 : Value) (b17 : Nat) (b18 : Nat) (v19 : Value) (v20 : Value) (v21 : Value) (v22 : Value) (v23 : Value) (f24 : Nat → Option Nat) (v26 : Value) (f27 : Nat → Int64) (h6 : ¬ x5 < 0) (h7 : ¬ 7 < x5) (h8 : x5 ≤ 7) (h9 : vp_in x5 8) (h11 : ¬ x10 < 0) (h12 : ¬ 7 < x10) (h13 : x10 ≤ 7) (h14 : vp_in x10 8) (h25 : f24 x10.toNatClampNeg = some a3) (h28 : f27 0 = 0) : xMetX l yB_one wyB_one 7 1 6 121 D cT aK aV sz [.ref a0, .int x5, .int 12, .int x10] [(a0, .inr (0, [v15, v16, .ref b17, .ref a2, .ref b18, .ref a1, v19, v20])), (a1, .inr (2, [v21, v22, v23])), (a2, .inl (cT 3, 8, .inr (.inr (.inr (.inr f24))))), (a3, .inr (2, [.ref a4, .int 1, v26])), (a4, .inl (cT 2, 4096, .inr (.inl f27)))] "java/lang/ArithmeticException" (fun A t => xB D xcl cT A [(a0, .inr (0, [v15, v16, .ref b17, .ref a2, .ref b18, .ref a1, v19, .int 1])), (a1, .inr (2, [v21, .int 0, .int 0])), (a2, .inl (cT 3, 8, .inr (.inr (.inr (.inr f24))))), (a3, .inr (2, [.ref a4, .int 1, v26])), (a4, .inl (cT 2, 4096, .inr (.inl f27)))] t) := by
  refine vx_ofW (cc := prog_1_method_9_code) (maxL := 4) (ret := none) (by decide) rfl ?_
  intro p e s m args below meth c s₁ B hml hne hv
  obtain ⟨rfl, hsz, hZ, hP, hK, hD0⟩ := hv
  have hx := B.exec
  have hb := B.bytes
  have hr := B.returns
  have hts := atoms_spec (ws := wyB_one) B.pre
  have htx := fun w h => hts w (List.mem_cons_of_mem _ h)
  have hown : s.vm.findClass "ValueBench" = some m.cls := findClass_of_methodNamed B.named
  have hlocks := B.notSynchronized
  subst hsz
  have hD := hD0.self (sz := s.heap.size)
  generalize hAe : va_A [(a0, .inr (0, [v15, v16, .ref b17, .ref a2, .ref b18, .ref a1, v19, v20])), (a1, .inr (2, [v21, v22, v23])), (a2, .inl (cT 3, 8, .inr (.inr (.inr (.inr f24))))), (a3, .inr (2, [.ref a4, .int 1, v26])), (a4, .inl (cT 2, 4096, .inr (.inl f27)))] s.heap.size = A at hD hZ ⊢
  have hA : ∀ q : Nat, s.heap.size ≤ q → A q := fun q h => by rw [← hAe]; exact Or.inr h
  have hS : va_S A s.heap s.heap [] := va_S.rf
  have hP : va_P D xcl [(a0, .inr (0, [v15, v16, .ref b17, .ref a2, .ref b18, .ref a1, v19, v20])), (a1, .inr (2, [v21, v22, v23])), (a2, .inl (cT 3, 8, .inr (.inr (.inr (.inr f24))))), (a3, .inr (2, [.ref a4, .int 1, v26])), (a4, .inl (cT 2, 4096, .inr (.inl f27)))] s.heap := hP
  have hl := lv_entry ([.ref a0, .int x5, .int 12, .int x10]) (n := 4) (Nat.le_of_ble_eq_true rfl)
  rw [lg_entry_eq]
  generalize (lg_sl ([.ref a0, .int x5, .int 12, .int x10]) ++ List.replicate (4 - (lg_sl ([.ref a0, .int x5, .int 12, .int x10])).length) Slot.unset).toArray = ls at hl ⊢
  have hl : lv_has ls 4 [(0, .ref a0), (1, .int x5), (2, .int 12), (3, .int x10)] := hl
  refine lv_iload_n hx hb dB_one_0 rfl (lv_at hl 1 rfl) ?_
  obtain ⟨hPc, hDc, hFc⟩ := xcut (wc := []) hP hD hS hA [] rfl rfl (by decide)
  refine va_calli (va_runS (As := [.int x5]) (rest := []) ⟨hx, hb, hml, hown, htx⟩ (cB_isRegister_0 l hl9 D cT aK aV s.heap.size x5 h6 h7 h8 h9) ⟨callB_of 1 htx (xw_goodC kw_2_18) rfl rfl rfl (htx _ kw_1_1) (htx _ kw_2_16) ⟨by decide, by decide, by decide +kernel⟩ ⟨Nat.le_of_ble_eq_true rfl, Nat.le_of_ble_eq_true rfl⟩, htx _ kw_2_17⟩ ⟨xPre_blind, (fun U hU hW => ⟨rfl, xPre_of hZ hS hFc hPc hDc hK U hU hW⟩)⟩ rfl rfl hl.1 rfl (lv_room (Nat.le_of_ble_eq_true rfl)) dB_one_1 ⟨Nat.le_of_ble_eq_true rfl, Nat.le_of_ble_eq_true rfl⟩) hS (fun q _ h => hFc q h) hFc (fun r1 u9 t H1 locs ht hvm hr9 hB hz1 hk1 hS => ?_)
  obtain ⟨hP1, hK1, hD1⟩ := hB
  rw [ht] at hP1
  obtain ⟨hP, hD⟩ := xjoin (W := [(a0, .inr (0, [v15, v16, .ref b17, .ref a2, .ref b18, .ref a1, v19, v20])), (a1, .inr (2, [v21, v22, v23])), (a2, .inl (cT 3, 8, .inr (.inr (.inr (.inr f24))))), (a3, .inr (2, [.ref a4, .int 1, v26])), (a4, .inl (cT 2, 4096, .inr (.inl f27)))]) hP hD [] [0, 1, 2, 3, 4] 5 rfl rfl (by decide) (by decide) hk1 hFc hP1 hD1
  generalize H1 = H at hP hS ⊢
  rw [hr9]
  refine W.eq (g2 := F0 m 4 ls [.int 1]) rfl ?_
  refine lv_if_eq (tgt := 27) hx hb dB_one_4 (by decide) (fun h => ((by revert h; decide : False)).elim) (fun _ => ?_)
  refine lv_iload_n hx hb dB_one_7 rfl (lv_at hl 2 rfl) ?_
  refine lv_bipush (v := 13) hx hb dB_one_8 (by decide) ?_
  obtain ⟨hPc, hDc, hFc⟩ := xcut (wc := []) hP hD hS hA [] rfl rfl (by decide)
  refine va_calli (va_runS (As := [.int 12, .int 13]) (rest := []) ⟨hx, hb, hml, hown, htx⟩ (cB_isWithin_22 l hl9 D cT aK aV H.size) ⟨callB_of 2 htx (xw_goodC kw_1_218) rfl rfl rfl (htx _ kw_1_1) (htx _ kw_1_216) ⟨by decide, by decide, by decide +kernel⟩ ⟨Nat.le_of_ble_eq_true rfl, Nat.le_of_ble_eq_true rfl⟩, htx _ kw_1_217⟩ ⟨xPre_blind, (fun U hU hW => ⟨rfl, xPre_of hZ hS hFc hPc hDc hK U hU hW⟩)⟩ rfl rfl hl.1 rfl (lv_room (Nat.le_of_ble_eq_true rfl)) dB_one_10 ⟨Nat.le_of_ble_eq_true rfl, Nat.le_of_ble_eq_true rfl⟩) hS (fun q _ h => hFc q h) hFc (fun r2 u9 t H1 locs ht hvm hr9 hB hz1 hk1 hS => ?_)
  obtain ⟨hP1, hK1, hD1⟩ := hB
  rw [ht] at hP1
  obtain ⟨hP, hD⟩ := xjoin (W := [(a0, .inr (0, [v15, v16, .ref b17, .ref a2, .ref b18, .ref a1, v19, v20])), (a1, .inr (2, [v21, v22, v23])), (a2, .inl (cT 3, 8, .inr (.inr (.inr (.inr f24))))), (a3, .inr (2, [.ref a4, .int 1, v26])), (a4, .inl (cT 2, 4096, .inr (.inl f27)))]) hP hD [] [0, 1, 2, 3, 4] 5 rfl rfl (by decide) (by decide) hk1 hFc hP1 hD1
  generalize H1 = H at hP hS ⊢
  rw [hr9]
  refine W.eq (g2 := F0 m 13 ls [.int 1]) rfl ?_
  refine lv_if_eq (tgt := 27) hx hb dB_one_13 (by decide) (fun h => ((by revert h; decide : False)).elim) (fun _ => ?_)
  refine lv_iload_n hx hb dB_one_16 rfl (lv_at hl 3 rfl) ?_
  obtain ⟨hPc, hDc, hFc⟩ := xcut (wc := []) hP hD hS hA [] rfl rfl (by decide)
  refine va_calli (va_runS (As := [.int x10]) (rest := []) ⟨hx, hb, hml, hown, htx⟩ (cB_isRegister_0 l hl9 D cT aK aV H.size x10 h11 h12 h13 h14) ⟨callB_of 1 htx (xw_goodC kw_2_18) rfl rfl rfl (htx _ kw_1_1) (htx _ kw_2_16) ⟨by decide, by decide, by decide +kernel⟩ ⟨Nat.le_of_ble_eq_true rfl, Nat.le_of_ble_eq_true rfl⟩, htx _ kw_2_17⟩ ⟨xPre_blind, (fun U hU hW => ⟨rfl, xPre_of hZ hS hFc hPc hDc hK U hU hW⟩)⟩ rfl rfl hl.1 rfl (lv_room (Nat.le_of_ble_eq_true rfl)) dB_one_17 ⟨Nat.le_of_ble_eq_true rfl, Nat.le_of_ble_eq_true rfl⟩) hS (fun q _ h => hFc q h) hFc (fun r3 u9 t H1 locs ht hvm hr9 hB hz1 hk1 hS => ?_)
  obtain ⟨hP1, hK1, hD1⟩ := hB
  rw [ht] at hP1
  obtain ⟨hP, hD⟩ := xjoin (W := [(a0, .inr (0, [v15, v16, .ref b17, .ref a2, .ref b18, .ref a1, v19, v20])), (a1, .inr (2, [v21, v22, v23])), (a2, .inl (cT 3, 8, .inr (.inr (.inr (.inr f24))))), (a3, .inr (2, [.ref a4, .int 1, v26])), (a4, .inl (cT 2, 4096, .inr (.inl f27)))]) hP hD [] [0, 1, 2, 3, 4] 5 rfl rfl (by decide) (by decide) hk1 hFc hP1 hD1
  generalize H1 = H at hP hS ⊢
  rw [hr9]
  refine W.eq (g2 := F0 m 20 ls [.int 1]) rfl ?_
  refine lv_if_eq (tgt := 27) hx hb dB_one_20 (by decide) (fun h => ((by revert h; decide : False)).elim) (fun _ => ?_)
  refine lv_iconst (v := 1) hx hb dB_one_23 (by decide) ?_
  refine lv_goto (tgt := 28) hx hb dB_one_24 (by decide) ?_
  obtain ⟨hPc, hDc, hFc⟩ := xcut (wc := []) hP hD hS hA [] rfl rfl (by decide)
  refine va_callv (va_runS (As := [.int 1]) (rest := []) ⟨hx, hb, hml, hown, htx⟩ (cB_demand_0 l hl9 D cT aK aV H.size) ⟨callB_of 1 htx (xw_goodC kw_1_221) rfl rfl rfl (htx _ kw_1_1) (htx _ kw_1_219) ⟨by decide, by decide, by decide +kernel⟩ ⟨Nat.le_of_ble_eq_true rfl, Nat.le_of_ble_eq_true rfl⟩, htx _ kw_1_220⟩ ⟨xPre_blind, (fun U hU hW => ⟨rfl, xPre_of hZ hS hFc hPc hDc hK U hU hW⟩)⟩ rfl rfl hl.1 rfl (lv_room (Nat.le_of_ble_eq_true rfl)) dB_one_28 ⟨Nat.le_of_ble_eq_true rfl, Nat.le_of_ble_eq_true rfl⟩) hS (fun q _ h => hFc q h) hFc (fun u9 t H1 locs ht hvm hr9 hB hz1 hk1 hS => ?_)
  obtain ⟨hP1, hK1, hD1⟩ := hB
  rw [ht] at hP1
  obtain ⟨hP, hD⟩ := xjoin (W := [(a0, .inr (0, [v15, v16, .ref b17, .ref a2, .ref b18, .ref a1, v19, v20])), (a1, .inr (2, [v21, v22, v23])), (a2, .inl (cT 3, 8, .inr (.inr (.inr (.inr f24))))), (a3, .inr (2, [.ref a4, .int 1, v26])), (a4, .inl (cT 2, 4096, .inr (.inl f27)))]) hP hD [] [0, 1, 2, 3, 4] 5 rfl rfl (by decide) (by decide) hk1 hFc hP1 hD1
  generalize H1 = H at hP hS ⊢
  refine lv_aload_n hx hb dB_one_31 rfl (lv_at hl 0 rfl) ?_
  refine va_get (D := D) (ci := 0) (v := .ref a1) (C := "ValueBench") (T := TB) (N := 8) hx hb htx inB hown hK hP 0 rfl rfl 5 (by decide) (htx _ kw_1_100) (fun _ h9 => h9) rfl dB_one_32 ?_
  obtain ⟨hPc, hDc, hFc⟩ := xcut (wc := [(a1, .inr (2, [v21, v22, v23]))]) hP hD hS hA [1] rfl rfl (by decide)
  refine va_callv (va_runV (C := "ValueBench$Row") (As := []) (rest := []) ⟨hx, hb, hml, hown, htx⟩ (cR_clear_0 l hl9 D cT aK aV H.size a1 v21 v22 v23) ⟨callB_of 0 htx (xw_goodC kw_2_22) rfl rfl rfl (htx _ kw_1_4) (htx _ kw_2_19) ⟨by decide, by decide, by decide +kernel⟩ ⟨Nat.le_of_ble_eq_true rfl, Nat.le_of_ble_eq_true rfl⟩, (htx _ kw_2_20), (htx _ kw_2_21)⟩ ⟨xPre_blind, va_recv hK hP (ci := 2) rfl (q0 := 1) rfl, (fun U hU hW => ⟨rfl, xPre_of hZ hS hFc hPc hDc hK U hU hW⟩)⟩ rfl rfl hl.1 rfl (lv_room (Nat.le_of_ble_eq_true rfl)) dB_one_35 ⟨Nat.le_of_ble_eq_true rfl, Nat.le_of_ble_eq_true rfl⟩) hS (fun q _ h => hFc q h) hFc (fun u9 t H1 locs ht hvm hr9 hB hz1 hk1 hS => ?_)
  obtain ⟨hP1, hK1, hD1⟩ := hB
  rw [ht] at hP1
  obtain ⟨hP, hD⟩ := xjoin (W := [(a0, .inr (0, [v15, v16, .ref b17, .ref a2, .ref b18, .ref a1, v19, v20])), (a2, .inl (cT 3, 8, .inr (.inr (.inr (.inr f24))))), (a3, .inr (2, [.ref a4, .int 1, v26])), (a4, .inl (cT 2, 4096, .inr (.inl f27))), (a1, .inr (2, [v21, .int 0, .int 0]))]) hP hD [1] [0, 2, 3, 4] 4 rfl rfl (by decide) (by decide) hk1 hFc hP1 hD1
  generalize H1 = H at hP hS ⊢
  refine lv_aload_n hx hb dB_one_38 rfl (lv_at hl 0 rfl) ?_
  refine lv_iload_n hx hb dB_one_39 rfl (lv_at hl 2 rfl) ?_
  refine lv_aload_n hx hb dB_one_40 rfl (lv_at hl 0 rfl) ?_
  refine va_get (D := D) (ci := 0) (v := .ref a2) (C := "ValueBench") (T := TB) (N := 8) hx hb htx inB hown hK hP 0 rfl rfl 3 (by decide) (htx _ kw_1_98) (fun _ h9 => h9) rfl dB_one_41 ?_
  refine lv_iload_n hx hb dB_one_44 rfl (lv_at hl 3 rfl) ?_
  refine va_aldq hx hb hK hP 1 3 rfl rfl h14 dB_one_45 ?_
  refine W.eq (g2 := F0 m 46 ls [va_rf (f24 x10.toNatClampNeg), .int 12, .ref a0]) rfl ?_
  rw [h25]
  refine W.eq (g2 := F0 m 46 ls [.ref a3, .int 12, .ref a0]) rfl ?_
  refine lv_aload_n hx hb dB_one_46 rfl (lv_at hl 0 rfl) ?_
  refine va_get (D := D) (ci := 0) (v := .ref b17) (C := "ValueBench") (T := TB) (N := 8) hx hb htx inB hown hK hP 0 rfl rfl 2 (by decide) (htx _ kw_1_97) (fun _ h9 => h9) rfl dB_one_47 ?_
  refine lv_aload_n hx hb dB_one_50 rfl (lv_at hl 0 rfl) ?_
  refine va_get (D := D) (ci := 0) (v := .ref b18) (C := "ValueBench") (T := TB) (N := 8) hx hb htx inB hown hK hP 0 rfl rfl 4 (by decide) (htx _ kw_1_99) (fun _ h9 => h9) rfl dB_one_51 ?_
  refine lv_aload_n hx hb dB_one_54 rfl (lv_at hl 0 rfl) ?_
  refine va_get (D := D) (ci := 0) (v := .ref a1) (C := "ValueBench") (T := TB) (N := 8) hx hb htx inB hown hK hP 0 rfl rfl 5 (by decide) (htx _ kw_1_100) (fun _ h9 => h9) rfl dB_one_55 ?_
  obtain ⟨hPc, hDc, hFc⟩ := xcut (wc := [(a3, .inr (2, [.ref a4, .int 1, v26])), (a4, .inl (cT 2, 4096, .inr (.inl f27)))]) hP hD hS hA [2, 3] rfl rfl (by decide)
  refine va_calli (va_runS (As := [.int 12, .ref a3, .ref b17, .ref b18, .ref a1]) (rest := [.ref a0]) ⟨hx, hb, hml, hown, htx⟩ (cG_apply_12 l hl9 D cT aK aV H.size a3 a4 b17 b18 a1 v26 f27 (by first | rfl | exact h25 | exact h28)) ⟨callB_of 5 htx (xw_goodC kw_4_28) rfl rfl rfl (htx _ kw_1_26) (htx _ kw_4_26) ⟨by decide, by decide, by decide +kernel⟩ ⟨Nat.le_of_ble_eq_true rfl, Nat.le_of_ble_eq_true rfl⟩, htx _ kw_4_27⟩ ⟨xPre_blind, (fun U hU hW => ⟨rfl, xPre_of hZ hS hFc hPc hDc hK U hU hW⟩)⟩ rfl rfl hl.1 rfl (lv_room (Nat.le_of_ble_eq_true rfl)) dB_one_58 ⟨Nat.le_of_ble_eq_true rfl, Nat.le_of_ble_eq_true rfl⟩) hS (fun q _ h => hFc q h) hFc (fun r4 u9 t H1 locs ht hvm hr9 hB hz1 hk1 hS => ?_)
  obtain ⟨hP1, hK1, hD1⟩ := hB
  rw [ht] at hP1
  obtain ⟨hP, hD⟩ := xjoin (W := [(a0, .inr (0, [v15, v16, .ref b17, .ref a2, .ref b18, .ref a1, v19, v20])), (a2, .inl (cT 3, 8, .inr (.inr (.inr (.inr f24))))), (a1, .inr (2, [v21, .int 0, .int 0])), (a3, .inr (2, [.ref a4, .int 1, v26])), (a4, .inl (cT 2, 4096, .inr (.inl f27)))]) hP hD [2, 3] [0, 1, 4] 3 rfl rfl (by decide) (by decide) hk1 hFc hP1 hD1
  generalize H1 = H at hP hS ⊢
  rw [hr9]
  refine W.eq (g2 := F0 m 61 ls [.int 1, .ref a0]) rfl ?_
  obtain ⟨hPc, hDc, hFc⟩ := xcut (wc := [(a0, .inr (0, [v15, v16, .ref b17, .ref a2, .ref b18, .ref a1, v19, v20]))]) hP hD hS hA [0] rfl rfl (by decide)
  refine xx_thr (vx_runV (C := "ValueBench") (As := [.int 1]) (rest := []) ⟨hx, hb, hml, hown, htx⟩ (cB_demandDone_1 l hl9 D cT aK aV H.size a0 v15 v16 (.ref b17) (.ref a2) (.ref b18) (.ref a1) v19 v20) ⟨callB_of 1 htx (xw_goodC kw_3_222) rfl rfl rfl (htx _ kw_1_1) (htx _ kw_3_219) ⟨by decide, by decide, by decide +kernel⟩ ⟨Nat.le_of_ble_eq_true rfl, Nat.le_of_ble_eq_true rfl⟩, (htx _ kw_3_221), (htx _ kp_B_demandDone)⟩ ⟨xPre_blind, va_recv hK hP (ci := 0) rfl (q0 := 0) rfl, (fun U hU hW => ⟨rfl, xPre_of hZ hS hFc hPc hDc hK U hU hW⟩)⟩ rfl rfl hl.1 rfl (lv_room (Nat.le_of_ble_eq_true rfl)) dB_one_61 ⟨Nat.le_of_ble_eq_true rfl, Nat.le_of_ble_eq_true rfl⟩) hS hFc (fun q _ h => hFc q h) (fun E ce q9 u9 t H1 locs ht hvm _ hB hz1 hk1 hS hce hcv hcl => ?_)
  obtain ⟨rfl, hP1, hK1, hD1⟩ := hB
  rw [ht] at hP1
  obtain ⟨hP, hD⟩ := xjoin (W := [(a2, .inl (cT 3, 8, .inr (.inr (.inr (.inr f24))))), (a1, .inr (2, [v21, .int 0, .int 0])), (a3, .inr (2, [.ref a4, .int 1, v26])), (a4, .inl (cT 2, 4096, .inr (.inl f27))), (a0, .inr (0, [v15, v16, .ref b17, .ref a2, .ref b18, .ref a1, v19, .int 1]))]) hP hD [0] [1, 2, 3, 4] 4 rfl rfl (by decide) (by decide) hk1 hFc hP1 hD1
  generalize H1 = H at hP hS hce ⊢
  obtain ⟨hP9, hD9⟩ := xsub (wc := [(a0, .inr (0, [v15, v16, .ref b17, .ref a2, .ref b18, .ref a1, v19, .int 1])), (a1, .inr (2, [v21, .int 0, .int 0])), (a2, .inl (cT 3, 8, .inr (.inr (.inr (.inr f24))))), (a3, .inr (2, [.ref a4, .int 1, v26])), (a4, .inl (cT 2, 4096, .inr (.inl f27)))]) hP hD [4, 1, 0, 2, 3] rfl rfl (by decide)
  exact vx_out (E := "java/lang/ArithmeticException") (fun x h => (hne x h).elim) hlocks hce hcv hcl (fun t ht ha => ⟨(), trivial, ⟨rfl, by rw [ht]; exact hP9, va_K.moved ha hK, hD9⟩, hS.F ht⟩) hS.2.2 (Nat.le_of_ble_eq_true rfl) (Nat.le_of_ble_eq_true rfl)
set_option maxHeartbeats 400000000 in
set_option maxRecDepth 100000 in
theorem cL_one_12 (l : Launch) (hl9 : l.stackTraces = false) (D : va_G) (cT : Nat → ClassId) (aK aV : Nat → Nat) (sz : Nat) (a0 : Nat) (a1 : Nat) (a2 : Nat) (a3 : Nat) (a4 : Nat) (x5 : Int32) (x10 : Int32) (v15 : Value) (v16 : Value) (b17 : Nat) (b18 : Nat) (v19 : Value) (v20 : Value) (v21 : Value) (v22 : Value) (v23 : Value) (f24 : Nat → Option Nat) (v26 : Value) (f27 : Nat → Int64) (h6 : ¬ x5 < 0) (h7 : ¬ 7 < x5) (h8 : x5 ≤ 7) (h9 : vp_in x5 8) (h11 : ¬ x10 < 0) (h12 : ¬ 7 < x10) (h13 : x10 ≤ 7) (h14 : vp_in x10 8) (h25 : f24 x10.toNatClampNeg = some a3) (h28 : f27 0 = 0) : xMet l yL_one wyL_one 8 1 6 144 D cT aK aV sz [.ref a0, .int x5, .int 12, .int x10] [(a0, .inr (0, [v15, v16, .ref b17, .ref a2, .ref b18, .ref a1, v19, v20])), (a1, .inr (2, [v21, v22, v23])), (a2, .inl (cT 3, 8, .inr (.inr (.inr (.inr f24))))), (a3, .inr (2, [.ref a4, .int 1, v26])), (a4, .inl (cT 2, 4096, .inr (.inl f27)))] (fun A => va_Qi (fun (r : Int32) (_ : Unit) => r = 2) (fun _ t => xB D xcl cT A [(a0, .inr (0, [v15, v16, .ref b17, .ref a2, .ref b18, .ref a1, v19, .int 1])), (a1, .inr (2, [v21, .int 0, .int 0])), (a2, .inl (cT 3, 8, .inr (.inr (.inr (.inr f24))))), (a3, .inr (2, [.ref a4, .int 1, v26])), (a4, .inl (cT 2, 4096, .inr (.inl f27)))] t) A) := by
  refine va_MetW (cc := method_10_code) (maxL := 5) (ret := (some .int)) (hh := [(0, 7, 10, 19), (0, 7, 14, 33), (0, 7, 18, 13)]) (by decide) rfl ?_
  intro p e s m args below meth c s₁ B hml hv
  obtain ⟨rfl, hsz, hZ, hP, hK, hD0⟩ := hv
  have hx := B.exec
  have hb := B.bytes
  have hr := B.returns
  have hts := atoms_spec (ws := wyL_one) B.pre
  have htx := fun w h => hts w (List.mem_cons_of_mem _ h)
  have hown : s.vm.findClass "ValueBenchLaw" = some m.cls := findClass_of_methodNamed B.named
  have hlocks := B.notSynchronized
  subst hsz
  have hD := hD0.self (sz := s.heap.size)
  generalize hAe : va_A [(a0, .inr (0, [v15, v16, .ref b17, .ref a2, .ref b18, .ref a1, v19, v20])), (a1, .inr (2, [v21, v22, v23])), (a2, .inl (cT 3, 8, .inr (.inr (.inr (.inr f24))))), (a3, .inr (2, [.ref a4, .int 1, v26])), (a4, .inl (cT 2, 4096, .inr (.inl f27)))] s.heap.size = A at hD hZ ⊢
  have hA : ∀ q : Nat, s.heap.size ≤ q → A q := fun q h => by rw [← hAe]; exact Or.inr h
  have hS : va_S A s.heap s.heap [] := va_S.rf
  have hP : va_P D xcl [(a0, .inr (0, [v15, v16, .ref b17, .ref a2, .ref b18, .ref a1, v19, v20])), (a1, .inr (2, [v21, v22, v23])), (a2, .inl (cT 3, 8, .inr (.inr (.inr (.inr f24))))), (a3, .inr (2, [.ref a4, .int 1, v26])), (a4, .inl (cT 2, 4096, .inr (.inl f27)))] s.heap := hP
  have hl := lv_entry ([.ref a0, .int x5, .int 12, .int x10]) (n := 5) (Nat.le_of_ble_eq_true rfl)
  rw [lg_entry_eq]
  generalize (lg_sl ([.ref a0, .int x5, .int 12, .int x10]) ++ List.replicate (5 - (lg_sl ([.ref a0, .int x5, .int 12, .int x10])).length) Slot.unset).toArray = ls at hl ⊢
  have hl : lv_has ls 5 [(0, .ref a0), (1, .int x5), (2, .int 12), (3, .int x10)] := hl
  have htab := vx_table (x := yL_one) B (hts _ List.mem_cons_self)
  refine lv_aload_n hx hb dL_one_0 rfl (lv_at hl 0 rfl) ?_
  refine lv_iload_n hx hb dL_one_1 rfl (lv_at hl 1 rfl) ?_
  refine lv_iload_n hx hb dL_one_2 rfl (lv_at hl 2 rfl) ?_
  refine lv_iload_n hx hb dL_one_3 rfl (lv_at hl 3 rfl) ?_
  obtain ⟨hPc, hDc, hFc⟩ := xcut (wc := [(a0, .inr (0, [v15, v16, .ref b17, .ref a2, .ref b18, .ref a1, v19, v20])), (a1, .inr (2, [v21, v22, v23])), (a2, .inl (cT 3, 8, .inr (.inr (.inr (.inr f24))))), (a3, .inr (2, [.ref a4, .int 1, v26])), (a4, .inl (cT 2, 4096, .inr (.inl f27)))]) hP hD hS hA [0, 1, 2, 3, 4] rfl rfl (by decide)
  refine xx_thr (vx_runV (C := "ValueBench") (As := [.int x5, .int 12, .int x10]) (rest := []) ⟨hx, hb, hml, hown, htx⟩ (cB_one_12 l hl9 D cT aK aV s.heap.size a0 a1 a2 a3 a4 x5 x10 v15 v16 b17 b18 v19 v20 v21 v22 v23 f24 v26 f27 h6 h7 h8 h9 h11 h12 h13 h14 (by first | rfl | exact h25 | exact h28) (by first | rfl | exact h25 | exact h28)) ⟨callB_of 3 htx (xw_goodC kw_4_25) rfl rfl rfl (htx _ kw_1_1) (htx _ kw_4_22) ⟨by decide, by decide, by decide +kernel⟩ ⟨Nat.le_of_ble_eq_true rfl, Nat.le_of_ble_eq_true rfl⟩, (htx _ kw_4_23), (htx _ kw_4_24)⟩ ⟨xPre_blind, va_recv hK hP (ci := 0) rfl (q0 := 0) rfl, (fun U hU hW => ⟨rfl, xPre_of hZ hS hFc hPc hDc hK U hU hW⟩)⟩ rfl rfl hl.1 rfl (lv_room (Nat.le_of_ble_eq_true rfl)) dL_one_4 ⟨Nat.le_of_ble_eq_true rfl, Nat.le_of_ble_eq_true rfl⟩) hS hFc (fun q _ h => hFc q h) (fun E ce q9 u9 t H1 locs ht hvm _ hB hz1 hk1 hS hce hcv hcl => ?_)
  obtain ⟨rfl, hP1, hK1, hD1⟩ := hB
  rw [ht] at hP1
  obtain ⟨hP, hD⟩ := xjoin (W := [(a0, .inr (0, [v15, v16, .ref b17, .ref a2, .ref b18, .ref a1, v19, .int 1])), (a1, .inr (2, [v21, .int 0, .int 0])), (a2, .inl (cT 3, 8, .inr (.inr (.inr (.inr f24))))), (a3, .inr (2, [.ref a4, .int 1, v26])), (a4, .inl (cT 2, 4096, .inr (.inl f27)))]) hP hD [0, 1, 2, 3, 4] [] 0 rfl rfl (by decide) (by decide) hk1 hFc hP1 hD1
  generalize H1 = H at hP hS hce ⊢
  refine vx_catch (own := "ValueBenchLaw") (name := "java/lang/ArithmeticException") (E := "java/lang/ArithmeticException") hown [⟨0, 7, 10, 19⟩] ⟨0, 7, 14, 33⟩ [⟨0, 7, 18, 13⟩] (by rw [htab]; rfl) (by intro z hz; rcases List.mem_cons.mp hz with rfl | hz; (exact Or.inr ⟨by decide, "java/lang/IllegalArgumentException", htx _ kw_1_211, hZ.2.2.2.2.2.2.2.1 _ (List.mem_of_getElem? (i := 10) rfl)⟩); cases hz) (by decide) (by decide) (htx _ kw_3_98) ((hZ.2.2.2.2.2.1 _ (List.mem_of_getElem? (i := 3) rfl)).use rfl) hce hcv hcl ?_
  refine lv_astore (lv' := [(4, .ref q9), (0, .ref a0), (1, .int x5), (2, .int 12), (3, .int x10)]) hx hb dL_one_14 hl (by decide) rfl (fun ls hl => ?_)
  refine lv_iconst (v := 2) hx hb dL_one_16 (by decide) ?_
  obtain ⟨hP9, hD9⟩ := xsub (wc := [(a0, .inr (0, [v15, v16, .ref b17, .ref a2, .ref b18, .ref a1, v19, .int 1])), (a1, .inr (2, [v21, .int 0, .int 0])), (a2, .inl (cT 3, 8, .inr (.inr (.inr (.inr f24))))), (a3, .inr (2, [.ref a4, .int 1, v26])), (a4, .inl (cT 2, 4096, .inr (.inl f27)))]) hP hD [0, 1, 2, 3, 4] rfl rfl (by decide)
  refine W.widen (k := 1) (n := 6) (Nat.le_of_ble_eq_true rfl) (Nat.le_of_ble_eq_true rfl) ?_
  exact W.iret (v := 2) hx hb hr (fun t ht hW => ⟨⟨2, (), rfl, rfl, by rw [ht]; exact hP9, va_K.moved hW.alike hK, hD9⟩, hS.F ht⟩) hS.2.2 dL_one_17
set_option maxHeartbeats 400000000 in
set_option maxRecDepth 100000 in
theorem cB_isWithin_23 (l : Launch) (hl9 : l.stackTraces = false) (D : va_G) (cT : Nat → ClassId) (aK aV : Nat → Nat) (sz : Nat) : xMet l yB_isWithin wyB_isWithin 0 0 0 0 D cT aK aV sz [.int 13, .int 13] [] (fun A => va_Qi (fun (r : Int32) (_ : Unit) => r = 1) (fun _ t => xB D xcl cT A [] t) A) := by
  refine Met.ofW (cc := prog_1_method_15_code) (maxL := 2) (ret := (some .boolean)) (by decide) rfl ?_
  intro p e s m args below meth c s₁ B hml hv
  obtain ⟨rfl, hsz, hZ, hP, hK, hD0⟩ := hv
  have hx := B.exec
  have hb := B.bytes
  have hr := B.returns
  have hts := atoms_spec (ws := wyB_isWithin) B.pre
  have htx := fun w h => hts w (List.mem_cons_of_mem _ h)
  have hown : s.vm.findClass "ValueBench" = some m.cls := findClass_of_methodNamed B.named
  have hlocks := B.notSynchronized
  subst hsz
  have hD := hD0.self (sz := s.heap.size)
  generalize hAe : va_A [] s.heap.size = A at hD hZ ⊢
  have hA : ∀ q : Nat, s.heap.size ≤ q → A q := fun q h => by rw [← hAe]; exact Or.inr h
  have hS : va_S A s.heap s.heap [] := va_S.rf
  have hP : va_P D xcl [] s.heap := hP
  have hl := lv_entry ([.int 13, .int 13]) (n := 2) (Nat.le_of_ble_eq_true rfl)
  rw [lg_entry_eq]
  generalize (lg_sl ([.int 13, .int 13]) ++ List.replicate (2 - (lg_sl ([.int 13, .int 13])).length) Slot.unset).toArray = ls at hl ⊢
  have hl : lv_has ls 2 [(0, .int 13), (1, .int 13)] := hl
  refine lv_iload_n hx hb dB_isWithin_0 rfl (lv_at hl 0 rfl) ?_
  refine lv_if_lt (tgt := 13) hx hb dB_isWithin_1 (by decide) (fun h => ((by revert h; decide : False)).elim) (fun _ => ?_)
  refine lv_iload_n hx hb dB_isWithin_4 rfl (lv_at hl 0 rfl) ?_
  refine lv_iload_n hx hb dB_isWithin_5 rfl (lv_at hl 1 rfl) ?_
  refine lv_icmp_gt (tgt := 13) hx hb dB_isWithin_6 (by decide) (fun h => ((by revert h; decide : False)).elim) (fun _ => ?_)
  refine lv_iconst (v := 1) hx hb dB_isWithin_9 (by decide) ?_
  refine lv_goto (tgt := 14) hx hb dB_isWithin_10 (by decide) ?_
  obtain ⟨hP9, hD9⟩ := xsub (wc := []) hP hD [] rfl rfl (by decide)
  refine W.widen (k := 0) (n := 0) (Nat.le_of_ble_eq_true rfl) (Nat.le_of_ble_eq_true rfl) ?_
  exact W.zret (v := 1) hx hb hr rfl (fun t ht hW => ⟨⟨1, (), rfl, rfl, by rw [ht]; exact hP9, va_K.moved hW.alike hK, hD9⟩, hS.F ht⟩) hS.2.2 dB_isWithin_14
set_option maxHeartbeats 400000000 in
set_option maxRecDepth 100000 in
theorem cG_apply_13 (l : Launch) (hl9 : l.stackTraces = false) (D : va_G) (cT : Nat → ClassId) (aK aV : Nat → Nat) (sz : Nat) (a0 : Nat) (a1 : Nat) (b2 : Nat) (b3 : Nat) (b4 : Nat) (v5 : Value) (f6 : Nat → Int64) (h7 : f6 0 = 0) : xMet l yG_apply wyG_apply 3 0 0 70 D cT aK aV sz [.int 13, .ref a0, .ref b2, .ref b3, .ref b4] [(a0, .inr (2, [.ref a1, .int 1, v5])), (a1, .inl (cT 2, 4096, .inr (.inl f6)))] (fun A => va_Qi (fun (r : Int32) (_ : Unit) => r = 1) (fun _ t => xB D xcl cT A [(a0, .inr (2, [.ref a1, .int 1, v5])), (a1, .inl (cT 2, 4096, .inr (.inl f6)))] t) A) := by
  refine Met.ofW (cc := prog_9_method_2_code) (maxL := 5) (ret := (some .int)) (by decide) rfl ?_
  intro p e s m args below meth c s₁ B hml hv
  obtain ⟨rfl, hsz, hZ, hP, hK, hD0⟩ := hv
  have hx := B.exec
  have hb := B.bytes
  have hr := B.returns
  have hts := atoms_spec (ws := wyG_apply) B.pre
  have htx := fun w h => hts w (List.mem_cons_of_mem _ h)
  have hown : s.vm.findClass "ValueBench$Singles" = some m.cls := findClass_of_methodNamed B.named
  have hlocks := B.notSynchronized
  subst hsz
  have hD := hD0.self (sz := s.heap.size)
  generalize hAe : va_A [(a0, .inr (2, [.ref a1, .int 1, v5])), (a1, .inl (cT 2, 4096, .inr (.inl f6)))] s.heap.size = A at hD hZ ⊢
  have hA : ∀ q : Nat, s.heap.size ≤ q → A q := fun q h => by rw [← hAe]; exact Or.inr h
  have hS : va_S A s.heap s.heap [] := va_S.rf
  have hP : va_P D xcl [(a0, .inr (2, [.ref a1, .int 1, v5])), (a1, .inl (cT 2, 4096, .inr (.inl f6)))] s.heap := hP
  have hl := lv_entry ([.int 13, .ref a0, .ref b2, .ref b3, .ref b4]) (n := 5) (Nat.le_of_ble_eq_true rfl)
  rw [lg_entry_eq]
  generalize (lg_sl ([.int 13, .ref a0, .ref b2, .ref b3, .ref b4]) ++ List.replicate (5 - (lg_sl ([.int 13, .ref a0, .ref b2, .ref b3, .ref b4])).length) Slot.unset).toArray = ls at hl ⊢
  have hl : lv_has ls 5 [(0, .int 13), (1, .ref a0), (2, .ref b2), (3, .ref b3), (4, .ref b4)] := hl
  refine lv_iload_n hx hb dG_apply_0 rfl (lv_at hl 0 rfl) ?_
  refine lv_tableOut (tgt := 243) hx hb dG_apply_1 (by decide) (by decide) ?_
  refine lv_aload_n hx hb dG_apply_243 rfl (lv_at hl 1 rfl) ?_
  refine lv_bipush (v := 97) hx hb dG_apply_244 (by decide) ?_
  refine lv_bipush (v := (-32)) hx hb dG_apply_246 (by decide) ?_
  refine lv_aload hx hb dG_apply_248 (lv_at hl 4 rfl) ?_
  obtain ⟨hPc, hDc, hFc⟩ := xcut (wc := [(a0, .inr (2, [.ref a1, .int 1, v5])), (a1, .inl (cT 2, 4096, .inr (.inl f6)))]) hP hD hS hA [0, 1] rfl rfl (by decide)
  refine va_calli (va_runS (As := [.ref a0, .int 97, .int (-32), .ref b4]) (rest := []) ⟨hx, hb, hml, hown, htx⟩ (cG_inCase_0 l hl9 D cT aK aV s.heap.size a0 a1 97 (-32) b4 v5 f6 (by first | rfl | exact h7)) ⟨callB_of 4 htx (xw_goodC kw_4_136) rfl rfl rfl (htx _ kw_1_26) (htx _ kw_4_134) ⟨by decide, by decide, by decide +kernel⟩ ⟨Nat.le_of_ble_eq_true rfl, Nat.le_of_ble_eq_true rfl⟩, htx _ kw_4_135⟩ ⟨xPre_blind, (fun U hU hW => ⟨rfl, xPre_of hZ hS hFc hPc hDc hK U hU hW⟩)⟩ rfl rfl hl.1 rfl (lv_room (Nat.le_of_ble_eq_true rfl)) dG_apply_250 ⟨Nat.le_of_ble_eq_true rfl, Nat.le_of_ble_eq_true rfl⟩) hS (fun q _ h => hFc q h) hFc (fun r1 u9 t H1 locs ht hvm hr9 hB hz1 hk1 hS => ?_)
  obtain ⟨hP1, hK1, hD1⟩ := hB
  rw [ht] at hP1
  obtain ⟨hP, hD⟩ := xjoin (W := [(a0, .inr (2, [.ref a1, .int 1, v5])), (a1, .inl (cT 2, 4096, .inr (.inl f6)))]) hP hD [0, 1] [] 0 rfl rfl (by decide) (by decide) hk1 hFc hP1 hD1
  generalize H1 = H at hP hS ⊢
  rw [hr9]
  refine W.eq (g2 := F0 m 253 ls [.int 1]) rfl ?_
  obtain ⟨hP9, hD9⟩ := xsub (wc := [(a0, .inr (2, [.ref a1, .int 1, v5])), (a1, .inl (cT 2, 4096, .inr (.inl f6)))]) hP hD [0, 1] rfl rfl (by decide)
  refine W.widen (k := 0) (n := 0) (Nat.le_of_ble_eq_true rfl) (Nat.le_of_ble_eq_true rfl) ?_
  exact W.iret (v := 1) hx hb hr (fun t ht hW => ⟨⟨1, (), rfl, rfl, by rw [ht]; exact hP9, va_K.moved hW.alike hK, hD9⟩, hS.F ht⟩) hS.2.2 dG_apply_253
set_option maxHeartbeats 400000000 in
set_option maxRecDepth 100000 in
theorem cB_one_13 (l : Launch) (hl9 : l.stackTraces = false) (D : va_G) (cT : Nat → ClassId) (aK aV : Nat → Nat) (sz : Nat) (a0 : Nat) (a1 : Nat) (a2 : Nat) (a3 : Nat) (a4 : Nat) (x5 : Int32) (x10 : Int32) (v15 : Value) (v16 : Value) (b17 : Nat) (b18 : Nat) (v19 : Value) (v20 : Value) (v21 : Value) (v22 : Value) (v23 : Value) (f24 : Nat → Option Nat) (v26 : Value) (f27 : Nat → Int64) (h6 : ¬ x5 < 0) (h7 : ¬ 7 < x5) (h8 : x5 ≤ 7) (h9 : vp_in x5 8) (h11 : ¬ x10 < 0) (h12 : ¬ 7 < x10) (h13 : x10 ≤ 7) (h14 : vp_in x10 8) (h25 : f24 x10.toNatClampNeg = some a3) (h28 : f27 0 = 0) : xMetX l yB_one wyB_one 7 1 6 121 D cT aK aV sz [.ref a0, .int x5, .int 13, .int x10] [(a0, .inr (0, [v15, v16, .ref b17, .ref a2, .ref b18, .ref a1, v19, v20])), (a1, .inr (2, [v21, v22, v23])), (a2, .inl (cT 3, 8, .inr (.inr (.inr (.inr f24))))), (a3, .inr (2, [.ref a4, .int 1, v26])), (a4, .inl (cT 2, 4096, .inr (.inl f27)))] "java/lang/ArithmeticException" (fun A t => xB D xcl cT A [(a0, .inr (0, [v15, v16, .ref b17, .ref a2, .ref b18, .ref a1, v19, .int 1])), (a1, .inr (2, [v21, .int 0, .int 0])), (a2, .inl (cT 3, 8, .inr (.inr (.inr (.inr f24))))), (a3, .inr (2, [.ref a4, .int 1, v26])), (a4, .inl (cT 2, 4096, .inr (.inl f27)))] t) := by
  refine vx_ofW (cc := prog_1_method_9_code) (maxL := 4) (ret := none) (by decide) rfl ?_
  intro p e s m args below meth c s₁ B hml hne hv
  obtain ⟨rfl, hsz, hZ, hP, hK, hD0⟩ := hv
  have hx := B.exec
  have hb := B.bytes
  have hr := B.returns
  have hts := atoms_spec (ws := wyB_one) B.pre
  have htx := fun w h => hts w (List.mem_cons_of_mem _ h)
  have hown : s.vm.findClass "ValueBench" = some m.cls := findClass_of_methodNamed B.named
  have hlocks := B.notSynchronized
  subst hsz
  have hD := hD0.self (sz := s.heap.size)
  generalize hAe : va_A [(a0, .inr (0, [v15, v16, .ref b17, .ref a2, .ref b18, .ref a1, v19, v20])), (a1, .inr (2, [v21, v22, v23])), (a2, .inl (cT 3, 8, .inr (.inr (.inr (.inr f24))))), (a3, .inr (2, [.ref a4, .int 1, v26])), (a4, .inl (cT 2, 4096, .inr (.inl f27)))] s.heap.size = A at hD hZ ⊢
  have hA : ∀ q : Nat, s.heap.size ≤ q → A q := fun q h => by rw [← hAe]; exact Or.inr h
  have hS : va_S A s.heap s.heap [] := va_S.rf
  have hP : va_P D xcl [(a0, .inr (0, [v15, v16, .ref b17, .ref a2, .ref b18, .ref a1, v19, v20])), (a1, .inr (2, [v21, v22, v23])), (a2, .inl (cT 3, 8, .inr (.inr (.inr (.inr f24))))), (a3, .inr (2, [.ref a4, .int 1, v26])), (a4, .inl (cT 2, 4096, .inr (.inl f27)))] s.heap := hP
  have hl := lv_entry ([.ref a0, .int x5, .int 13, .int x10]) (n := 4) (Nat.le_of_ble_eq_true rfl)
  rw [lg_entry_eq]
  generalize (lg_sl ([.ref a0, .int x5, .int 13, .int x10]) ++ List.replicate (4 - (lg_sl ([.ref a0, .int x5, .int 13, .int x10])).length) Slot.unset).toArray = ls at hl ⊢
  have hl : lv_has ls 4 [(0, .ref a0), (1, .int x5), (2, .int 13), (3, .int x10)] := hl
  refine lv_iload_n hx hb dB_one_0 rfl (lv_at hl 1 rfl) ?_
  obtain ⟨hPc, hDc, hFc⟩ := xcut (wc := []) hP hD hS hA [] rfl rfl (by decide)
  refine va_calli (va_runS (As := [.int x5]) (rest := []) ⟨hx, hb, hml, hown, htx⟩ (cB_isRegister_0 l hl9 D cT aK aV s.heap.size x5 h6 h7 h8 h9) ⟨callB_of 1 htx (xw_goodC kw_2_18) rfl rfl rfl (htx _ kw_1_1) (htx _ kw_2_16) ⟨by decide, by decide, by decide +kernel⟩ ⟨Nat.le_of_ble_eq_true rfl, Nat.le_of_ble_eq_true rfl⟩, htx _ kw_2_17⟩ ⟨xPre_blind, (fun U hU hW => ⟨rfl, xPre_of hZ hS hFc hPc hDc hK U hU hW⟩)⟩ rfl rfl hl.1 rfl (lv_room (Nat.le_of_ble_eq_true rfl)) dB_one_1 ⟨Nat.le_of_ble_eq_true rfl, Nat.le_of_ble_eq_true rfl⟩) hS (fun q _ h => hFc q h) hFc (fun r1 u9 t H1 locs ht hvm hr9 hB hz1 hk1 hS => ?_)
  obtain ⟨hP1, hK1, hD1⟩ := hB
  rw [ht] at hP1
  obtain ⟨hP, hD⟩ := xjoin (W := [(a0, .inr (0, [v15, v16, .ref b17, .ref a2, .ref b18, .ref a1, v19, v20])), (a1, .inr (2, [v21, v22, v23])), (a2, .inl (cT 3, 8, .inr (.inr (.inr (.inr f24))))), (a3, .inr (2, [.ref a4, .int 1, v26])), (a4, .inl (cT 2, 4096, .inr (.inl f27)))]) hP hD [] [0, 1, 2, 3, 4] 5 rfl rfl (by decide) (by decide) hk1 hFc hP1 hD1
  generalize H1 = H at hP hS ⊢
  rw [hr9]
  refine W.eq (g2 := F0 m 4 ls [.int 1]) rfl ?_
  refine lv_if_eq (tgt := 27) hx hb dB_one_4 (by decide) (fun h => ((by revert h; decide : False)).elim) (fun _ => ?_)
  refine lv_iload_n hx hb dB_one_7 rfl (lv_at hl 2 rfl) ?_
  refine lv_bipush (v := 13) hx hb dB_one_8 (by decide) ?_
  obtain ⟨hPc, hDc, hFc⟩ := xcut (wc := []) hP hD hS hA [] rfl rfl (by decide)
  refine va_calli (va_runS (As := [.int 13, .int 13]) (rest := []) ⟨hx, hb, hml, hown, htx⟩ (cB_isWithin_23 l hl9 D cT aK aV H.size) ⟨callB_of 2 htx (xw_goodC kw_1_218) rfl rfl rfl (htx _ kw_1_1) (htx _ kw_1_216) ⟨by decide, by decide, by decide +kernel⟩ ⟨Nat.le_of_ble_eq_true rfl, Nat.le_of_ble_eq_true rfl⟩, htx _ kw_1_217⟩ ⟨xPre_blind, (fun U hU hW => ⟨rfl, xPre_of hZ hS hFc hPc hDc hK U hU hW⟩)⟩ rfl rfl hl.1 rfl (lv_room (Nat.le_of_ble_eq_true rfl)) dB_one_10 ⟨Nat.le_of_ble_eq_true rfl, Nat.le_of_ble_eq_true rfl⟩) hS (fun q _ h => hFc q h) hFc (fun r2 u9 t H1 locs ht hvm hr9 hB hz1 hk1 hS => ?_)
  obtain ⟨hP1, hK1, hD1⟩ := hB
  rw [ht] at hP1
  obtain ⟨hP, hD⟩ := xjoin (W := [(a0, .inr (0, [v15, v16, .ref b17, .ref a2, .ref b18, .ref a1, v19, v20])), (a1, .inr (2, [v21, v22, v23])), (a2, .inl (cT 3, 8, .inr (.inr (.inr (.inr f24))))), (a3, .inr (2, [.ref a4, .int 1, v26])), (a4, .inl (cT 2, 4096, .inr (.inl f27)))]) hP hD [] [0, 1, 2, 3, 4] 5 rfl rfl (by decide) (by decide) hk1 hFc hP1 hD1
  generalize H1 = H at hP hS ⊢
  rw [hr9]
  refine W.eq (g2 := F0 m 13 ls [.int 1]) rfl ?_
  refine lv_if_eq (tgt := 27) hx hb dB_one_13 (by decide) (fun h => ((by revert h; decide : False)).elim) (fun _ => ?_)
  refine lv_iload_n hx hb dB_one_16 rfl (lv_at hl 3 rfl) ?_
  obtain ⟨hPc, hDc, hFc⟩ := xcut (wc := []) hP hD hS hA [] rfl rfl (by decide)
  refine va_calli (va_runS (As := [.int x10]) (rest := []) ⟨hx, hb, hml, hown, htx⟩ (cB_isRegister_0 l hl9 D cT aK aV H.size x10 h11 h12 h13 h14) ⟨callB_of 1 htx (xw_goodC kw_2_18) rfl rfl rfl (htx _ kw_1_1) (htx _ kw_2_16) ⟨by decide, by decide, by decide +kernel⟩ ⟨Nat.le_of_ble_eq_true rfl, Nat.le_of_ble_eq_true rfl⟩, htx _ kw_2_17⟩ ⟨xPre_blind, (fun U hU hW => ⟨rfl, xPre_of hZ hS hFc hPc hDc hK U hU hW⟩)⟩ rfl rfl hl.1 rfl (lv_room (Nat.le_of_ble_eq_true rfl)) dB_one_17 ⟨Nat.le_of_ble_eq_true rfl, Nat.le_of_ble_eq_true rfl⟩) hS (fun q _ h => hFc q h) hFc (fun r3 u9 t H1 locs ht hvm hr9 hB hz1 hk1 hS => ?_)
  obtain ⟨hP1, hK1, hD1⟩ := hB
  rw [ht] at hP1
  obtain ⟨hP, hD⟩ := xjoin (W := [(a0, .inr (0, [v15, v16, .ref b17, .ref a2, .ref b18, .ref a1, v19, v20])), (a1, .inr (2, [v21, v22, v23])), (a2, .inl (cT 3, 8, .inr (.inr (.inr (.inr f24))))), (a3, .inr (2, [.ref a4, .int 1, v26])), (a4, .inl (cT 2, 4096, .inr (.inl f27)))]) hP hD [] [0, 1, 2, 3, 4] 5 rfl rfl (by decide) (by decide) hk1 hFc hP1 hD1
  generalize H1 = H at hP hS ⊢
  rw [hr9]
  refine W.eq (g2 := F0 m 20 ls [.int 1]) rfl ?_
  refine lv_if_eq (tgt := 27) hx hb dB_one_20 (by decide) (fun h => ((by revert h; decide : False)).elim) (fun _ => ?_)
  refine lv_iconst (v := 1) hx hb dB_one_23 (by decide) ?_
  refine lv_goto (tgt := 28) hx hb dB_one_24 (by decide) ?_
  obtain ⟨hPc, hDc, hFc⟩ := xcut (wc := []) hP hD hS hA [] rfl rfl (by decide)
  refine va_callv (va_runS (As := [.int 1]) (rest := []) ⟨hx, hb, hml, hown, htx⟩ (cB_demand_0 l hl9 D cT aK aV H.size) ⟨callB_of 1 htx (xw_goodC kw_1_221) rfl rfl rfl (htx _ kw_1_1) (htx _ kw_1_219) ⟨by decide, by decide, by decide +kernel⟩ ⟨Nat.le_of_ble_eq_true rfl, Nat.le_of_ble_eq_true rfl⟩, htx _ kw_1_220⟩ ⟨xPre_blind, (fun U hU hW => ⟨rfl, xPre_of hZ hS hFc hPc hDc hK U hU hW⟩)⟩ rfl rfl hl.1 rfl (lv_room (Nat.le_of_ble_eq_true rfl)) dB_one_28 ⟨Nat.le_of_ble_eq_true rfl, Nat.le_of_ble_eq_true rfl⟩) hS (fun q _ h => hFc q h) hFc (fun u9 t H1 locs ht hvm hr9 hB hz1 hk1 hS => ?_)
  obtain ⟨hP1, hK1, hD1⟩ := hB
  rw [ht] at hP1
  obtain ⟨hP, hD⟩ := xjoin (W := [(a0, .inr (0, [v15, v16, .ref b17, .ref a2, .ref b18, .ref a1, v19, v20])), (a1, .inr (2, [v21, v22, v23])), (a2, .inl (cT 3, 8, .inr (.inr (.inr (.inr f24))))), (a3, .inr (2, [.ref a4, .int 1, v26])), (a4, .inl (cT 2, 4096, .inr (.inl f27)))]) hP hD [] [0, 1, 2, 3, 4] 5 rfl rfl (by decide) (by decide) hk1 hFc hP1 hD1
  generalize H1 = H at hP hS ⊢
  refine lv_aload_n hx hb dB_one_31 rfl (lv_at hl 0 rfl) ?_
  refine va_get (D := D) (ci := 0) (v := .ref a1) (C := "ValueBench") (T := TB) (N := 8) hx hb htx inB hown hK hP 0 rfl rfl 5 (by decide) (htx _ kw_1_100) (fun _ h9 => h9) rfl dB_one_32 ?_
  obtain ⟨hPc, hDc, hFc⟩ := xcut (wc := [(a1, .inr (2, [v21, v22, v23]))]) hP hD hS hA [1] rfl rfl (by decide)
  refine va_callv (va_runV (C := "ValueBench$Row") (As := []) (rest := []) ⟨hx, hb, hml, hown, htx⟩ (cR_clear_0 l hl9 D cT aK aV H.size a1 v21 v22 v23) ⟨callB_of 0 htx (xw_goodC kw_2_22) rfl rfl rfl (htx _ kw_1_4) (htx _ kw_2_19) ⟨by decide, by decide, by decide +kernel⟩ ⟨Nat.le_of_ble_eq_true rfl, Nat.le_of_ble_eq_true rfl⟩, (htx _ kw_2_20), (htx _ kw_2_21)⟩ ⟨xPre_blind, va_recv hK hP (ci := 2) rfl (q0 := 1) rfl, (fun U hU hW => ⟨rfl, xPre_of hZ hS hFc hPc hDc hK U hU hW⟩)⟩ rfl rfl hl.1 rfl (lv_room (Nat.le_of_ble_eq_true rfl)) dB_one_35 ⟨Nat.le_of_ble_eq_true rfl, Nat.le_of_ble_eq_true rfl⟩) hS (fun q _ h => hFc q h) hFc (fun u9 t H1 locs ht hvm hr9 hB hz1 hk1 hS => ?_)
  obtain ⟨hP1, hK1, hD1⟩ := hB
  rw [ht] at hP1
  obtain ⟨hP, hD⟩ := xjoin (W := [(a0, .inr (0, [v15, v16, .ref b17, .ref a2, .ref b18, .ref a1, v19, v20])), (a2, .inl (cT 3, 8, .inr (.inr (.inr (.inr f24))))), (a3, .inr (2, [.ref a4, .int 1, v26])), (a4, .inl (cT 2, 4096, .inr (.inl f27))), (a1, .inr (2, [v21, .int 0, .int 0]))]) hP hD [1] [0, 2, 3, 4] 4 rfl rfl (by decide) (by decide) hk1 hFc hP1 hD1
  generalize H1 = H at hP hS ⊢
  refine lv_aload_n hx hb dB_one_38 rfl (lv_at hl 0 rfl) ?_
  refine lv_iload_n hx hb dB_one_39 rfl (lv_at hl 2 rfl) ?_
  refine lv_aload_n hx hb dB_one_40 rfl (lv_at hl 0 rfl) ?_
  refine va_get (D := D) (ci := 0) (v := .ref a2) (C := "ValueBench") (T := TB) (N := 8) hx hb htx inB hown hK hP 0 rfl rfl 3 (by decide) (htx _ kw_1_98) (fun _ h9 => h9) rfl dB_one_41 ?_
  refine lv_iload_n hx hb dB_one_44 rfl (lv_at hl 3 rfl) ?_
  refine va_aldq hx hb hK hP 1 3 rfl rfl h14 dB_one_45 ?_
  refine W.eq (g2 := F0 m 46 ls [va_rf (f24 x10.toNatClampNeg), .int 13, .ref a0]) rfl ?_
  rw [h25]
  refine W.eq (g2 := F0 m 46 ls [.ref a3, .int 13, .ref a0]) rfl ?_
  refine lv_aload_n hx hb dB_one_46 rfl (lv_at hl 0 rfl) ?_
  refine va_get (D := D) (ci := 0) (v := .ref b17) (C := "ValueBench") (T := TB) (N := 8) hx hb htx inB hown hK hP 0 rfl rfl 2 (by decide) (htx _ kw_1_97) (fun _ h9 => h9) rfl dB_one_47 ?_
  refine lv_aload_n hx hb dB_one_50 rfl (lv_at hl 0 rfl) ?_
  refine va_get (D := D) (ci := 0) (v := .ref b18) (C := "ValueBench") (T := TB) (N := 8) hx hb htx inB hown hK hP 0 rfl rfl 4 (by decide) (htx _ kw_1_99) (fun _ h9 => h9) rfl dB_one_51 ?_
  refine lv_aload_n hx hb dB_one_54 rfl (lv_at hl 0 rfl) ?_
  refine va_get (D := D) (ci := 0) (v := .ref a1) (C := "ValueBench") (T := TB) (N := 8) hx hb htx inB hown hK hP 0 rfl rfl 5 (by decide) (htx _ kw_1_100) (fun _ h9 => h9) rfl dB_one_55 ?_
  obtain ⟨hPc, hDc, hFc⟩ := xcut (wc := [(a3, .inr (2, [.ref a4, .int 1, v26])), (a4, .inl (cT 2, 4096, .inr (.inl f27)))]) hP hD hS hA [2, 3] rfl rfl (by decide)
  refine va_calli (va_runS (As := [.int 13, .ref a3, .ref b17, .ref b18, .ref a1]) (rest := [.ref a0]) ⟨hx, hb, hml, hown, htx⟩ (cG_apply_13 l hl9 D cT aK aV H.size a3 a4 b17 b18 a1 v26 f27 (by first | rfl | exact h25 | exact h28)) ⟨callB_of 5 htx (xw_goodC kw_4_28) rfl rfl rfl (htx _ kw_1_26) (htx _ kw_4_26) ⟨by decide, by decide, by decide +kernel⟩ ⟨Nat.le_of_ble_eq_true rfl, Nat.le_of_ble_eq_true rfl⟩, htx _ kw_4_27⟩ ⟨xPre_blind, (fun U hU hW => ⟨rfl, xPre_of hZ hS hFc hPc hDc hK U hU hW⟩)⟩ rfl rfl hl.1 rfl (lv_room (Nat.le_of_ble_eq_true rfl)) dB_one_58 ⟨Nat.le_of_ble_eq_true rfl, Nat.le_of_ble_eq_true rfl⟩) hS (fun q _ h => hFc q h) hFc (fun r4 u9 t H1 locs ht hvm hr9 hB hz1 hk1 hS => ?_)
  obtain ⟨hP1, hK1, hD1⟩ := hB
  rw [ht] at hP1
  obtain ⟨hP, hD⟩ := xjoin (W := [(a0, .inr (0, [v15, v16, .ref b17, .ref a2, .ref b18, .ref a1, v19, v20])), (a2, .inl (cT 3, 8, .inr (.inr (.inr (.inr f24))))), (a1, .inr (2, [v21, .int 0, .int 0])), (a3, .inr (2, [.ref a4, .int 1, v26])), (a4, .inl (cT 2, 4096, .inr (.inl f27)))]) hP hD [2, 3] [0, 1, 4] 3 rfl rfl (by decide) (by decide) hk1 hFc hP1 hD1
  generalize H1 = H at hP hS ⊢
  rw [hr9]
  refine W.eq (g2 := F0 m 61 ls [.int 1, .ref a0]) rfl ?_
  obtain ⟨hPc, hDc, hFc⟩ := xcut (wc := [(a0, .inr (0, [v15, v16, .ref b17, .ref a2, .ref b18, .ref a1, v19, v20]))]) hP hD hS hA [0] rfl rfl (by decide)
  refine xx_thr (vx_runV (C := "ValueBench") (As := [.int 1]) (rest := []) ⟨hx, hb, hml, hown, htx⟩ (cB_demandDone_1 l hl9 D cT aK aV H.size a0 v15 v16 (.ref b17) (.ref a2) (.ref b18) (.ref a1) v19 v20) ⟨callB_of 1 htx (xw_goodC kw_3_222) rfl rfl rfl (htx _ kw_1_1) (htx _ kw_3_219) ⟨by decide, by decide, by decide +kernel⟩ ⟨Nat.le_of_ble_eq_true rfl, Nat.le_of_ble_eq_true rfl⟩, (htx _ kw_3_221), (htx _ kp_B_demandDone)⟩ ⟨xPre_blind, va_recv hK hP (ci := 0) rfl (q0 := 0) rfl, (fun U hU hW => ⟨rfl, xPre_of hZ hS hFc hPc hDc hK U hU hW⟩)⟩ rfl rfl hl.1 rfl (lv_room (Nat.le_of_ble_eq_true rfl)) dB_one_61 ⟨Nat.le_of_ble_eq_true rfl, Nat.le_of_ble_eq_true rfl⟩) hS hFc (fun q _ h => hFc q h) (fun E ce q9 u9 t H1 locs ht hvm _ hB hz1 hk1 hS hce hcv hcl => ?_)
  obtain ⟨rfl, hP1, hK1, hD1⟩ := hB
  rw [ht] at hP1
  obtain ⟨hP, hD⟩ := xjoin (W := [(a2, .inl (cT 3, 8, .inr (.inr (.inr (.inr f24))))), (a1, .inr (2, [v21, .int 0, .int 0])), (a3, .inr (2, [.ref a4, .int 1, v26])), (a4, .inl (cT 2, 4096, .inr (.inl f27))), (a0, .inr (0, [v15, v16, .ref b17, .ref a2, .ref b18, .ref a1, v19, .int 1]))]) hP hD [0] [1, 2, 3, 4] 4 rfl rfl (by decide) (by decide) hk1 hFc hP1 hD1
  generalize H1 = H at hP hS hce ⊢
  obtain ⟨hP9, hD9⟩ := xsub (wc := [(a0, .inr (0, [v15, v16, .ref b17, .ref a2, .ref b18, .ref a1, v19, .int 1])), (a1, .inr (2, [v21, .int 0, .int 0])), (a2, .inl (cT 3, 8, .inr (.inr (.inr (.inr f24))))), (a3, .inr (2, [.ref a4, .int 1, v26])), (a4, .inl (cT 2, 4096, .inr (.inl f27)))]) hP hD [4, 1, 0, 2, 3] rfl rfl (by decide)
  exact vx_out (E := "java/lang/ArithmeticException") (fun x h => (hne x h).elim) hlocks hce hcv hcl (fun t ht ha => ⟨(), trivial, ⟨rfl, by rw [ht]; exact hP9, va_K.moved ha hK, hD9⟩, hS.F ht⟩) hS.2.2 (Nat.le_of_ble_eq_true rfl) (Nat.le_of_ble_eq_true rfl)
set_option maxHeartbeats 400000000 in
set_option maxRecDepth 100000 in
theorem cL_one_13 (l : Launch) (hl9 : l.stackTraces = false) (D : va_G) (cT : Nat → ClassId) (aK aV : Nat → Nat) (sz : Nat) (a0 : Nat) (a1 : Nat) (a2 : Nat) (a3 : Nat) (a4 : Nat) (x5 : Int32) (x10 : Int32) (v15 : Value) (v16 : Value) (b17 : Nat) (b18 : Nat) (v19 : Value) (v20 : Value) (v21 : Value) (v22 : Value) (v23 : Value) (f24 : Nat → Option Nat) (v26 : Value) (f27 : Nat → Int64) (h6 : ¬ x5 < 0) (h7 : ¬ 7 < x5) (h8 : x5 ≤ 7) (h9 : vp_in x5 8) (h11 : ¬ x10 < 0) (h12 : ¬ 7 < x10) (h13 : x10 ≤ 7) (h14 : vp_in x10 8) (h25 : f24 x10.toNatClampNeg = some a3) (h28 : f27 0 = 0) : xMet l yL_one wyL_one 8 1 6 144 D cT aK aV sz [.ref a0, .int x5, .int 13, .int x10] [(a0, .inr (0, [v15, v16, .ref b17, .ref a2, .ref b18, .ref a1, v19, v20])), (a1, .inr (2, [v21, v22, v23])), (a2, .inl (cT 3, 8, .inr (.inr (.inr (.inr f24))))), (a3, .inr (2, [.ref a4, .int 1, v26])), (a4, .inl (cT 2, 4096, .inr (.inl f27)))] (fun A => va_Qi (fun (r : Int32) (_ : Unit) => r = 2) (fun _ t => xB D xcl cT A [(a0, .inr (0, [v15, v16, .ref b17, .ref a2, .ref b18, .ref a1, v19, .int 1])), (a1, .inr (2, [v21, .int 0, .int 0])), (a2, .inl (cT 3, 8, .inr (.inr (.inr (.inr f24))))), (a3, .inr (2, [.ref a4, .int 1, v26])), (a4, .inl (cT 2, 4096, .inr (.inl f27)))] t) A) := by
  refine va_MetW (cc := method_10_code) (maxL := 5) (ret := (some .int)) (hh := [(0, 7, 10, 19), (0, 7, 14, 33), (0, 7, 18, 13)]) (by decide) rfl ?_
  intro p e s m args below meth c s₁ B hml hv
  obtain ⟨rfl, hsz, hZ, hP, hK, hD0⟩ := hv
  have hx := B.exec
  have hb := B.bytes
  have hr := B.returns
  have hts := atoms_spec (ws := wyL_one) B.pre
  have htx := fun w h => hts w (List.mem_cons_of_mem _ h)
  have hown : s.vm.findClass "ValueBenchLaw" = some m.cls := findClass_of_methodNamed B.named
  have hlocks := B.notSynchronized
  subst hsz
  have hD := hD0.self (sz := s.heap.size)
  generalize hAe : va_A [(a0, .inr (0, [v15, v16, .ref b17, .ref a2, .ref b18, .ref a1, v19, v20])), (a1, .inr (2, [v21, v22, v23])), (a2, .inl (cT 3, 8, .inr (.inr (.inr (.inr f24))))), (a3, .inr (2, [.ref a4, .int 1, v26])), (a4, .inl (cT 2, 4096, .inr (.inl f27)))] s.heap.size = A at hD hZ ⊢
  have hA : ∀ q : Nat, s.heap.size ≤ q → A q := fun q h => by rw [← hAe]; exact Or.inr h
  have hS : va_S A s.heap s.heap [] := va_S.rf
  have hP : va_P D xcl [(a0, .inr (0, [v15, v16, .ref b17, .ref a2, .ref b18, .ref a1, v19, v20])), (a1, .inr (2, [v21, v22, v23])), (a2, .inl (cT 3, 8, .inr (.inr (.inr (.inr f24))))), (a3, .inr (2, [.ref a4, .int 1, v26])), (a4, .inl (cT 2, 4096, .inr (.inl f27)))] s.heap := hP
  have hl := lv_entry ([.ref a0, .int x5, .int 13, .int x10]) (n := 5) (Nat.le_of_ble_eq_true rfl)
  rw [lg_entry_eq]
  generalize (lg_sl ([.ref a0, .int x5, .int 13, .int x10]) ++ List.replicate (5 - (lg_sl ([.ref a0, .int x5, .int 13, .int x10])).length) Slot.unset).toArray = ls at hl ⊢
  have hl : lv_has ls 5 [(0, .ref a0), (1, .int x5), (2, .int 13), (3, .int x10)] := hl
  have htab := vx_table (x := yL_one) B (hts _ List.mem_cons_self)
  refine lv_aload_n hx hb dL_one_0 rfl (lv_at hl 0 rfl) ?_
  refine lv_iload_n hx hb dL_one_1 rfl (lv_at hl 1 rfl) ?_
  refine lv_iload_n hx hb dL_one_2 rfl (lv_at hl 2 rfl) ?_
  refine lv_iload_n hx hb dL_one_3 rfl (lv_at hl 3 rfl) ?_
  obtain ⟨hPc, hDc, hFc⟩ := xcut (wc := [(a0, .inr (0, [v15, v16, .ref b17, .ref a2, .ref b18, .ref a1, v19, v20])), (a1, .inr (2, [v21, v22, v23])), (a2, .inl (cT 3, 8, .inr (.inr (.inr (.inr f24))))), (a3, .inr (2, [.ref a4, .int 1, v26])), (a4, .inl (cT 2, 4096, .inr (.inl f27)))]) hP hD hS hA [0, 1, 2, 3, 4] rfl rfl (by decide)
  refine xx_thr (vx_runV (C := "ValueBench") (As := [.int x5, .int 13, .int x10]) (rest := []) ⟨hx, hb, hml, hown, htx⟩ (cB_one_13 l hl9 D cT aK aV s.heap.size a0 a1 a2 a3 a4 x5 x10 v15 v16 b17 b18 v19 v20 v21 v22 v23 f24 v26 f27 h6 h7 h8 h9 h11 h12 h13 h14 (by first | rfl | exact h25 | exact h28) (by first | rfl | exact h25 | exact h28)) ⟨callB_of 3 htx (xw_goodC kw_4_25) rfl rfl rfl (htx _ kw_1_1) (htx _ kw_4_22) ⟨by decide, by decide, by decide +kernel⟩ ⟨Nat.le_of_ble_eq_true rfl, Nat.le_of_ble_eq_true rfl⟩, (htx _ kw_4_23), (htx _ kw_4_24)⟩ ⟨xPre_blind, va_recv hK hP (ci := 0) rfl (q0 := 0) rfl, (fun U hU hW => ⟨rfl, xPre_of hZ hS hFc hPc hDc hK U hU hW⟩)⟩ rfl rfl hl.1 rfl (lv_room (Nat.le_of_ble_eq_true rfl)) dL_one_4 ⟨Nat.le_of_ble_eq_true rfl, Nat.le_of_ble_eq_true rfl⟩) hS hFc (fun q _ h => hFc q h) (fun E ce q9 u9 t H1 locs ht hvm _ hB hz1 hk1 hS hce hcv hcl => ?_)
  obtain ⟨rfl, hP1, hK1, hD1⟩ := hB
  rw [ht] at hP1
  obtain ⟨hP, hD⟩ := xjoin (W := [(a0, .inr (0, [v15, v16, .ref b17, .ref a2, .ref b18, .ref a1, v19, .int 1])), (a1, .inr (2, [v21, .int 0, .int 0])), (a2, .inl (cT 3, 8, .inr (.inr (.inr (.inr f24))))), (a3, .inr (2, [.ref a4, .int 1, v26])), (a4, .inl (cT 2, 4096, .inr (.inl f27)))]) hP hD [0, 1, 2, 3, 4] [] 0 rfl rfl (by decide) (by decide) hk1 hFc hP1 hD1
  generalize H1 = H at hP hS hce ⊢
  refine vx_catch (own := "ValueBenchLaw") (name := "java/lang/ArithmeticException") (E := "java/lang/ArithmeticException") hown [⟨0, 7, 10, 19⟩] ⟨0, 7, 14, 33⟩ [⟨0, 7, 18, 13⟩] (by rw [htab]; rfl) (by intro z hz; rcases List.mem_cons.mp hz with rfl | hz; (exact Or.inr ⟨by decide, "java/lang/IllegalArgumentException", htx _ kw_1_211, hZ.2.2.2.2.2.2.2.1 _ (List.mem_of_getElem? (i := 10) rfl)⟩); cases hz) (by decide) (by decide) (htx _ kw_3_98) ((hZ.2.2.2.2.2.1 _ (List.mem_of_getElem? (i := 3) rfl)).use rfl) hce hcv hcl ?_
  refine lv_astore (lv' := [(4, .ref q9), (0, .ref a0), (1, .int x5), (2, .int 13), (3, .int x10)]) hx hb dL_one_14 hl (by decide) rfl (fun ls hl => ?_)
  refine lv_iconst (v := 2) hx hb dL_one_16 (by decide) ?_
  obtain ⟨hP9, hD9⟩ := xsub (wc := [(a0, .inr (0, [v15, v16, .ref b17, .ref a2, .ref b18, .ref a1, v19, .int 1])), (a1, .inr (2, [v21, .int 0, .int 0])), (a2, .inl (cT 3, 8, .inr (.inr (.inr (.inr f24))))), (a3, .inr (2, [.ref a4, .int 1, v26])), (a4, .inl (cT 2, 4096, .inr (.inl f27)))]) hP hD [0, 1, 2, 3, 4] rfl rfl (by decide)
  refine W.widen (k := 1) (n := 6) (Nat.le_of_ble_eq_true rfl) (Nat.le_of_ble_eq_true rfl) ?_
  exact W.iret (v := 2) hx hb hr (fun t ht hW => ⟨⟨2, (), rfl, rfl, by rw [ht]; exact hP9, va_K.moved hW.alike hK, hD9⟩, hS.F ht⟩) hS.2.2 dL_one_17
set_option maxHeartbeats 400000000 in
set_option maxRecDepth 100000 in
theorem cB_isWithin_24 (l : Launch) (hl9 : l.stackTraces = false) (D : va_G) (cT : Nat → ClassId) (aK aV : Nat → Nat) (sz : Nat) : xMet l yB_isWithin wyB_isWithin 0 0 0 0 D cT aK aV sz [.int 0, .int 4] [] (fun A => va_Qi (fun (r : Int32) (_ : Unit) => r = 1) (fun _ t => xB D xcl cT A [] t) A) := by
  refine Met.ofW (cc := prog_1_method_15_code) (maxL := 2) (ret := (some .boolean)) (by decide) rfl ?_
  intro p e s m args below meth c s₁ B hml hv
  obtain ⟨rfl, hsz, hZ, hP, hK, hD0⟩ := hv
  have hx := B.exec
  have hb := B.bytes
  have hr := B.returns
  have hts := atoms_spec (ws := wyB_isWithin) B.pre
  have htx := fun w h => hts w (List.mem_cons_of_mem _ h)
  have hown : s.vm.findClass "ValueBench" = some m.cls := findClass_of_methodNamed B.named
  have hlocks := B.notSynchronized
  subst hsz
  have hD := hD0.self (sz := s.heap.size)
  generalize hAe : va_A [] s.heap.size = A at hD hZ ⊢
  have hA : ∀ q : Nat, s.heap.size ≤ q → A q := fun q h => by rw [← hAe]; exact Or.inr h
  have hS : va_S A s.heap s.heap [] := va_S.rf
  have hP : va_P D xcl [] s.heap := hP
  have hl := lv_entry ([.int 0, .int 4]) (n := 2) (Nat.le_of_ble_eq_true rfl)
  rw [lg_entry_eq]
  generalize (lg_sl ([.int 0, .int 4]) ++ List.replicate (2 - (lg_sl ([.int 0, .int 4])).length) Slot.unset).toArray = ls at hl ⊢
  have hl : lv_has ls 2 [(0, .int 0), (1, .int 4)] := hl
  refine lv_iload_n hx hb dB_isWithin_0 rfl (lv_at hl 0 rfl) ?_
  refine lv_if_lt (tgt := 13) hx hb dB_isWithin_1 (by decide) (fun h => ((by revert h; decide : False)).elim) (fun _ => ?_)
  refine lv_iload_n hx hb dB_isWithin_4 rfl (lv_at hl 0 rfl) ?_
  refine lv_iload_n hx hb dB_isWithin_5 rfl (lv_at hl 1 rfl) ?_
  refine lv_icmp_gt (tgt := 13) hx hb dB_isWithin_6 (by decide) (fun h => ((by revert h; decide : False)).elim) (fun _ => ?_)
  refine lv_iconst (v := 1) hx hb dB_isWithin_9 (by decide) ?_
  refine lv_goto (tgt := 14) hx hb dB_isWithin_10 (by decide) ?_
  obtain ⟨hP9, hD9⟩ := xsub (wc := []) hP hD [] rfl rfl (by decide)
  refine W.widen (k := 0) (n := 0) (Nat.le_of_ble_eq_true rfl) (Nat.le_of_ble_eq_true rfl) ?_
  exact W.zret (v := 1) hx hb hr rfl (fun t ht hW => ⟨⟨1, (), rfl, rfl, by rw [ht]; exact hP9, va_K.moved hW.alike hK, hD9⟩, hS.F ht⟩) hS.2.2 dB_isWithin_14
set_option maxHeartbeats 400000000 in
set_option maxRecDepth 100000 in
theorem cR_after_0 (l : Launch) (hl9 : l.stackTraces = false) (D : va_G) (cT : Nat → ClassId) (aK aV : Nat → Nat) (sz : Nat) (a0 : Nat) (a1 : Nat) (v2 : Value) (f3 : Nat → Int64) (h4 : f3 0 = 0) : xMet l yR_after wyR_after 0 0 0 0 D cT aK aV sz [.ref a0, .int 0] [(a0, .inr (2, [.ref a1, .int 1, v2])), (a1, .inl (cT 2, 4096, .inr (.inl f3)))] (fun A => va_Qi (fun (r : Int32) (_ : Unit) => r = 1) (fun _ t => xB D xcl cT A [(a0, .inr (2, [.ref a1, .int 1, v2])), (a1, .inl (cT 2, 4096, .inr (.inl f3)))] t) A) := by
  refine Met.ofW (cc := prog_8_method_11_code) (maxL := 2) (ret := (some .int)) (by decide) rfl ?_
  intro p e s m args below meth c s₁ B hml hv
  obtain ⟨rfl, hsz, hZ, hP, hK, hD0⟩ := hv
  have hx := B.exec
  have hb := B.bytes
  have hr := B.returns
  have hts := atoms_spec (ws := wyR_after) B.pre
  have htx := fun w h => hts w (List.mem_cons_of_mem _ h)
  have hown : s.vm.findClass "ValueBench$Row" = some m.cls := findClass_of_methodNamed B.named
  have hlocks := B.notSynchronized
  subst hsz
  have hD := hD0.self (sz := s.heap.size)
  generalize hAe : va_A [(a0, .inr (2, [.ref a1, .int 1, v2])), (a1, .inl (cT 2, 4096, .inr (.inl f3)))] s.heap.size = A at hD hZ ⊢
  have hA : ∀ q : Nat, s.heap.size ≤ q → A q := fun q h => by rw [← hAe]; exact Or.inr h
  have hS : va_S A s.heap s.heap [] := va_S.rf
  have hP : va_P D xcl [(a0, .inr (2, [.ref a1, .int 1, v2])), (a1, .inl (cT 2, 4096, .inr (.inl f3)))] s.heap := hP
  have hl := lv_entry ([.ref a0, .int 0]) (n := 2) (Nat.le_of_ble_eq_true rfl)
  rw [lg_entry_eq]
  generalize (lg_sl ([.ref a0, .int 0]) ++ List.replicate (2 - (lg_sl ([.ref a0, .int 0])).length) Slot.unset).toArray = ls at hl ⊢
  have hl : lv_has ls 2 [(0, .ref a0), (1, .int 0)] := hl
  refine lv_iload_n hx hb dR_after_0 rfl (lv_at hl 1 rfl) ?_
  refine lv_if_lt (tgt := 29) hx hb dR_after_1 (by decide) (fun h => ((by revert h; decide : False)).elim) (fun _ => ?_)
  refine lv_iload_n hx hb dR_after_4 rfl (lv_at hl 1 rfl) ?_
  refine lv_aload_n hx hb dR_after_5 rfl (lv_at hl 0 rfl) ?_
  refine va_get (D := D) (ci := 2) (v := .int 1) (C := "ValueBench$Row") (T := TR) (N := 3) hx hb htx inR hown hK hP 0 rfl rfl 1 (by decide) (htx _ kw_1_85) (fun _ h9 => h9) rfl dR_after_6 ?_
  refine lv_icmp_ge (tgt := 29) hx hb dR_after_9 (by decide) (fun h => ((by revert h; decide : False)).elim) (fun _ => ?_)
  refine lv_aload_n hx hb dR_after_12 rfl (lv_at hl 0 rfl) ?_
  refine va_get (D := D) (ci := 2) (v := .ref a1) (C := "ValueBench$Row") (T := TR) (N := 3) hx hb htx inR hown hK hP 0 rfl rfl 0 (by decide) (htx _ kw_1_84) (fun _ h9 => h9) rfl dR_after_13 ?_
  refine lv_iload_n hx hb dR_after_16 rfl (lv_at hl 1 rfl) ?_
  refine va_lald hx hb hK hP 1 2 rfl rfl (show ¬ ((0 : Int32) < 0 ∨ 4096 ≤ (0 : Int32).toNatClampNeg) by decide) dR_after_17 ?_
  refine W.eq (g2 := F0 m 18 ls [.long (f3 0)]) rfl ?_
  rw [h4]
  refine W.eq (g2 := F0 m 18 ls [.long 0]) rfl ?_
  refine lv_ldc2 hx hb hown (htx _ kw_2_197) dR_after_18 ?_
  refine lv_land hx hb dR_after_21 ?_
  refine W.eq (g2 := F0 m 22 ls [.long 0]) rfl ?_
  refine lv_ldc2 hx hb hown (htx _ kw_2_198) dR_after_22 ?_
  refine W.lcmp hx hb dR_after_25 ?_
  refine W.eq (g2 := F0 m 26 ls [.int (-1)]) rfl ?_
  refine lv_if_ge (tgt := 33) hx hb dR_after_26 (by decide) (fun h => ((by revert h; decide : False)).elim) (fun _ => ?_)
  refine lv_iload_n hx hb dR_after_29 rfl (lv_at hl 1 rfl) ?_
  refine lv_iconst (v := 1) hx hb dR_after_30 (by decide) ?_
  refine lv_iadd hx hb dR_after_31 ?_
  refine W.eq (g2 := F0 m 32 ls [.int 1]) rfl ?_
  obtain ⟨hP9, hD9⟩ := xsub (wc := [(a0, .inr (2, [.ref a1, .int 1, v2])), (a1, .inl (cT 2, 4096, .inr (.inl f3)))]) hP hD [0, 1] rfl rfl (by decide)
  refine W.widen (k := 0) (n := 0) (Nat.le_of_ble_eq_true rfl) (Nat.le_of_ble_eq_true rfl) ?_
  exact W.iret (v := 1) hx hb hr (fun t ht hW => ⟨⟨1, (), rfl, rfl, by rw [ht]; exact hP9, va_K.moved hW.alike hK, hD9⟩, hS.F ht⟩) hS.2.2 dR_after_32
set_option maxHeartbeats 400000000 in
set_option maxRecDepth 100000 in
theorem cR_putCells_0 (l : Launch) (hl9 : l.stackTraces = false) (D : va_G) (cT : Nat → ClassId) (aK aV : Nat → Nat) (sz : Nat) (a0 : Nat) (a1 : Nat) (a2 : Nat) (a3 : Nat) (v4 : Value) (f5 : Nat → Int64) (f7 : Nat → Int64) (h6 : f5 0 = 0) : xMet l yR_putCells wyR_putCells 1 0 0 60 D cT aK aV sz [.ref a0, .ref a1, .int 0, .int 1] [(a0, .inr (2, [.ref a3, .int 0, .int 0])), (a1, .inr (2, [.ref a2, .int 1, v4])), (a2, .inl (cT 2, 4096, .inr (.inl f5))), (a3, .inl (cT 2, 4096, .inr (.inl f7)))] (fun A => va_Qv (fun _ : Unit => True) (fun _ t => xB D xcl cT A [(a0, .inr (2, [.ref a3, .int 1, .int 0])), (a1, .inr (2, [.ref a2, .int 1, v4])), (a2, .inl (cT 2, 4096, .inr (.inl f5))), (a3, .inl (cT 2, 4096, .inr (.inl (vp_updL f7 0 0))))] t) A) := by
  refine Met.ofW (cc := prog_8_method_24_code) (maxL := 4) (ret := none) (by decide) rfl ?_
  intro p e s m args below meth c s₁ B hml hv
  obtain ⟨rfl, hsz, hZ, hP, hK, hD0⟩ := hv
  have hx := B.exec
  have hb := B.bytes
  have hr := B.returns
  have hts := atoms_spec (ws := wyR_putCells) B.pre
  have htx := fun w h => hts w (List.mem_cons_of_mem _ h)
  have hown : s.vm.findClass "ValueBench$Row" = some m.cls := findClass_of_methodNamed B.named
  have hlocks := B.notSynchronized
  subst hsz
  have hD := hD0.self (sz := s.heap.size)
  generalize hAe : va_A [(a0, .inr (2, [.ref a3, .int 0, .int 0])), (a1, .inr (2, [.ref a2, .int 1, v4])), (a2, .inl (cT 2, 4096, .inr (.inl f5))), (a3, .inl (cT 2, 4096, .inr (.inl f7)))] s.heap.size = A at hD hZ ⊢
  have hA : ∀ q : Nat, s.heap.size ≤ q → A q := fun q h => by rw [← hAe]; exact Or.inr h
  have hS : va_S A s.heap s.heap [] := va_S.rf
  have hP : va_P D xcl [(a0, .inr (2, [.ref a3, .int 0, .int 0])), (a1, .inr (2, [.ref a2, .int 1, v4])), (a2, .inl (cT 2, 4096, .inr (.inl f5))), (a3, .inl (cT 2, 4096, .inr (.inl f7)))] s.heap := hP
  have hl := lv_entry ([.ref a0, .ref a1, .int 0, .int 1]) (n := 4) (Nat.le_of_ble_eq_true rfl)
  rw [lg_entry_eq]
  generalize (lg_sl ([.ref a0, .ref a1, .int 0, .int 1]) ++ List.replicate (4 - (lg_sl ([.ref a0, .ref a1, .int 0, .int 1])).length) Slot.unset).toArray = ls at hl ⊢
  have hl : lv_has ls 4 [(0, .ref a0), (1, .ref a1), (2, .int 0), (3, .int 1)] := hl
  refine lv_aload_n hx hb dR_putCells_0 rfl (lv_at hl 0 rfl) ?_
  refine va_get (D := D) (ci := 2) (v := .int 0) (C := "ValueBench$Row") (T := TR) (N := 3) hx hb htx inR hown hK hP 0 rfl rfl 2 (by decide) (htx _ kw_1_86) (fun _ h9 => h9) rfl dR_putCells_1 ?_
  refine lv_if_ne (tgt := 37) hx hb dR_putCells_4 (by decide) (fun h => ((by revert h; decide : False)).elim) (fun _ => ?_)
  refine lv_iload_n hx hb dR_putCells_7 rfl (lv_at hl 2 rfl) ?_
  refine lv_if_lt (tgt := 37) hx hb dR_putCells_8 (by decide) (fun h => ((by revert h; decide : False)).elim) (fun _ => ?_)
  refine lv_iload_n hx hb dR_putCells_11 rfl (lv_at hl 3 rfl) ?_
  refine lv_if_lt (tgt := 37) hx hb dR_putCells_12 (by decide) (fun h => ((by revert h; decide : False)).elim) (fun _ => ?_)
  refine lv_iload_n hx hb dR_putCells_15 rfl (lv_at hl 2 rfl) ?_
  refine lv_iload_n hx hb dR_putCells_16 rfl (lv_at hl 3 rfl) ?_
  refine lv_iadd hx hb dR_putCells_17 ?_
  refine W.eq (g2 := F0 m 18 ls [.int 1]) rfl ?_
  refine lv_aload_n hx hb dR_putCells_18 rfl (lv_at hl 1 rfl) ?_
  refine va_get (D := D) (ci := 2) (v := .int 1) (C := "ValueBench$Row") (T := TR) (N := 3) hx hb htx inR hown hK hP 1 rfl rfl 1 (by decide) (htx _ kw_1_85) (fun _ h9 => h9) rfl dR_putCells_19 ?_
  refine lv_icmp_gt (tgt := 37) hx hb dR_putCells_22 (by decide) (fun h => ((by revert h; decide : False)).elim) (fun _ => ?_)
  refine lv_aload_n hx hb dR_putCells_25 rfl (lv_at hl 0 rfl) ?_
  refine va_get (D := D) (ci := 2) (v := .int 0) (C := "ValueBench$Row") (T := TR) (N := 3) hx hb htx inR hown hK hP 0 rfl rfl 1 (by decide) (htx _ kw_1_85) (fun _ h9 => h9) rfl dR_putCells_26 ?_
  refine lv_iload_n hx hb dR_putCells_29 rfl (lv_at hl 3 rfl) ?_
  refine lv_iadd hx hb dR_putCells_30 ?_
  refine W.eq (g2 := F0 m 31 ls [.int 1]) rfl ?_
  refine lv_sipush (v := 4096) hx hb dR_putCells_31 (by decide) ?_
  refine lv_icmp_le (tgt := 43) hx hb dR_putCells_34 (by decide) (fun _ => ?_) (fun h => ((by revert h; decide : False)).elim)
  refine lv_aload_n hx hb dR_putCells_43 rfl (lv_at hl 1 rfl) ?_
  refine va_get (D := D) (ci := 2) (v := .ref a2) (C := "ValueBench$Row") (T := TR) (N := 3) hx hb htx inR hown hK hP 1 rfl rfl 0 (by decide) (htx _ kw_1_84) (fun _ h9 => h9) rfl dR_putCells_44 ?_
  refine lv_iload_n hx hb dR_putCells_47 rfl (lv_at hl 2 rfl) ?_
  refine lv_aload_n hx hb dR_putCells_48 rfl (lv_at hl 0 rfl) ?_
  refine va_get (D := D) (ci := 2) (v := .ref a3) (C := "ValueBench$Row") (T := TR) (N := 3) hx hb htx inR hown hK hP 0 rfl rfl 0 (by decide) (htx _ kw_1_84) (fun _ h9 => h9) rfl dR_putCells_49 ?_
  refine lv_aload_n hx hb dR_putCells_52 rfl (lv_at hl 0 rfl) ?_
  refine va_get (D := D) (ci := 2) (v := .int 0) (C := "ValueBench$Row") (T := TR) (N := 3) hx hb htx inR hown hK hP 0 rfl rfl 1 (by decide) (htx _ kw_1_85) (fun _ h9 => h9) rfl dR_putCells_53 ?_
  refine lv_iload_n hx hb dR_putCells_56 rfl (lv_at hl 3 rfl) ?_
  refine va_copyl (ty := .long) hx hb (hml.trans hl.1.symm) hown (htx _ kw_3_131) (htx _ kw_3_133) (htx _ kw_3_132) (htx _ kw_1_22) hK hP hD hS 2 3 2 2 rfl rfl rfl rfl rfl (by decide) (by decide) (by decide) (by decide) (by decide) (fun _ _ => rfl) (Nat.le_of_ble_eq_true rfl) (Nat.le_of_ble_eq_true rfl) dR_putCells_57 (fun H locs hP hD hS => ?_)
  have ecp : va_cpy f5 f7 0 0 1 = vp_updL f7 0 0 := by funext j; simp only [va_cpy, vp_updL]; split <;> split <;> first | (simp_all; done) | omega | (rename_i u1 u2; obtain rfl : j = 0 := by omega; first | rfl | assumption | simp_all)
  try simp only [show (0 : Int32).toNatClampNeg = 0 from rfl, show (1 : Int32).toNatClampNeg = 1 from rfl, ecp] at hP hD
  obtain ⟨hP, hD⟩ : xPD D xcl A [(a0, .inr (2, [.ref a3, .int 0, .int 0])), (a1, .inr (2, [.ref a2, .int 1, v4])), (a2, .inl (cT 2, 4096, .inr (.inl f5))), (a3, .inl (cT 2, 4096, .inr (.inl (vp_updL f7 0 0))))] H := ⟨hP, hD⟩
  refine lv_aload_n hx hb dR_putCells_60 rfl (lv_at hl 0 rfl) ?_
  refine lv_dup hx hb dR_putCells_61 rfl ?_
  refine va_get (D := D) (ci := 2) (v := .int 0) (C := "ValueBench$Row") (T := TR) (N := 3) hx hb htx inR hown hK hP 0 rfl rfl 1 (by decide) (htx _ kw_1_85) (fun _ h9 => h9) rfl dR_putCells_62 ?_
  refine lv_iload_n hx hb dR_putCells_65 rfl (lv_at hl 3 rfl) ?_
  refine lv_iadd hx hb dR_putCells_66 ?_
  refine W.eq (g2 := F0 m 67 ls [.int 1, .ref a0]) rfl ?_
  refine va_put (D := D) (ci := 2) (v := .int 1) (ty := .int) (C := "ValueBench$Row") (T := TR) (N := 3) hx hb htx inR tyR tyR_ok nmR hown hK hP hD hS 0 rfl rfl 1 (by decide) (htx _ kw_1_85) (fun _ h9 => h9) rfl (by decide +kernel) rfl rfl (Nat.le_of_ble_eq_true rfl) dR_putCells_67 (fun H locs hP hD hS => ?_)
  obtain ⟨hP, hD⟩ : xPD D xcl A [(a0, .inr (2, [.ref a3, .int 1, .int 0])), (a1, .inr (2, [.ref a2, .int 1, v4])), (a2, .inl (cT 2, 4096, .inr (.inl f5))), (a3, .inl (cT 2, 4096, .inr (.inl (vp_updL f7 0 0))))] H := ⟨hP, hD⟩
  obtain ⟨hP9, hD9⟩ := xsub (wc := [(a0, .inr (2, [.ref a3, .int 1, .int 0])), (a1, .inr (2, [.ref a2, .int 1, v4])), (a2, .inl (cT 2, 4096, .inr (.inl f5))), (a3, .inl (cT 2, 4096, .inr (.inl (vp_updL f7 0 0))))]) hP hD [0, 1, 2, 3] rfl rfl (by decide)
  refine W.widen (k := 0) (n := 0) (Nat.le_of_ble_eq_true rfl) (Nat.le_of_ble_eq_true rfl) ?_
  exact W.vret hx hb hr (fun t ht hW => ⟨⟨(), rfl, trivial, by rw [ht]; exact hP9, va_K.moved hW.alike hK, hD9⟩, hS.F ht⟩) hS.2.2 dR_putCells_70
set_option maxHeartbeats 400000000 in
set_option maxRecDepth 100000 in
theorem cR_putCopy_0 (l : Launch) (hl9 : l.stackTraces = false) (D : va_G) (cT : Nat → ClassId) (aK aV : Nat → Nat) (sz : Nat) (a0 : Nat) (a1 : Nat) (a2 : Nat) (a3 : Nat) (v4 : Value) (f5 : Nat → Int64) (f7 : Nat → Int64) (h6 : f5 0 = 0) : xMet l yR_putCopy wyR_putCopy 2 0 0 83 D cT aK aV sz [.ref a2, .ref a0, .int 0] [(a0, .inr (2, [.ref a1, .int 1, v4])), (a1, .inl (cT 2, 4096, .inr (.inl f5))), (a2, .inr (2, [.ref a3, .int 0, .int 0])), (a3, .inl (cT 2, 4096, .inr (.inl f7)))] (fun A => va_Qv (fun _ : Unit => True) (fun _ t => xB D xcl cT A [(a0, .inr (2, [.ref a1, .int 1, v4])), (a1, .inl (cT 2, 4096, .inr (.inl f5))), (a2, .inr (2, [.ref a3, .int 1, .int 0])), (a3, .inl (cT 2, 4096, .inr (.inl (vp_updL f7 0 0))))] t) A) := by
  refine Met.ofW (cc := prog_8_method_22_code) (maxL := 3) (ret := none) (by decide) rfl ?_
  intro p e s m args below meth c s₁ B hml hv
  obtain ⟨rfl, hsz, hZ, hP, hK, hD0⟩ := hv
  have hx := B.exec
  have hb := B.bytes
  have hr := B.returns
  have hts := atoms_spec (ws := wyR_putCopy) B.pre
  have htx := fun w h => hts w (List.mem_cons_of_mem _ h)
  have hown : s.vm.findClass "ValueBench$Row" = some m.cls := findClass_of_methodNamed B.named
  have hlocks := B.notSynchronized
  subst hsz
  have hD := hD0.self (sz := s.heap.size)
  generalize hAe : va_A [(a0, .inr (2, [.ref a1, .int 1, v4])), (a1, .inl (cT 2, 4096, .inr (.inl f5))), (a2, .inr (2, [.ref a3, .int 0, .int 0])), (a3, .inl (cT 2, 4096, .inr (.inl f7)))] s.heap.size = A at hD hZ ⊢
  have hA : ∀ q : Nat, s.heap.size ≤ q → A q := fun q h => by rw [← hAe]; exact Or.inr h
  have hS : va_S A s.heap s.heap [] := va_S.rf
  have hP : va_P D xcl [(a0, .inr (2, [.ref a1, .int 1, v4])), (a1, .inl (cT 2, 4096, .inr (.inl f5))), (a2, .inr (2, [.ref a3, .int 0, .int 0])), (a3, .inl (cT 2, 4096, .inr (.inl f7)))] s.heap := hP
  have hl := lv_entry ([.ref a2, .ref a0, .int 0]) (n := 3) (Nat.le_of_ble_eq_true rfl)
  rw [lg_entry_eq]
  generalize (lg_sl ([.ref a2, .ref a0, .int 0]) ++ List.replicate (3 - (lg_sl ([.ref a2, .ref a0, .int 0])).length) Slot.unset).toArray = ls at hl ⊢
  have hl : lv_has ls 3 [(0, .ref a2), (1, .ref a0), (2, .int 0)] := hl
  refine lv_aload_n hx hb dR_putCopy_0 rfl (lv_at hl 0 rfl) ?_
  refine lv_aload_n hx hb dR_putCopy_1 rfl (lv_at hl 1 rfl) ?_
  refine lv_iload_n hx hb dR_putCopy_2 rfl (lv_at hl 2 rfl) ?_
  refine lv_aload_n hx hb dR_putCopy_3 rfl (lv_at hl 1 rfl) ?_
  refine lv_iload_n hx hb dR_putCopy_4 rfl (lv_at hl 2 rfl) ?_
  obtain ⟨hPc, hDc, hFc⟩ := xcut (wc := [(a0, .inr (2, [.ref a1, .int 1, v4])), (a1, .inl (cT 2, 4096, .inr (.inl f5)))]) hP hD hS hA [0, 1] rfl rfl (by decide)
  refine va_calli (va_runV (C := "ValueBench$Row") (As := [.int 0]) (rest := [.int 0, .ref a0, .ref a2]) ⟨hx, hb, hml, hown, htx⟩ (cR_after_0 l hl9 D cT aK aV s.heap.size a0 a1 v4 f5 (by first | rfl | exact h6)) ⟨callB_of 1 htx (xw_goodC kw_2_196) rfl rfl rfl (htx _ kw_1_4) (htx _ kw_2_193) ⟨by decide, by decide, by decide +kernel⟩ ⟨Nat.le_of_ble_eq_true rfl, Nat.le_of_ble_eq_true rfl⟩, (htx _ kw_2_194), (htx _ kw_2_195)⟩ ⟨xPre_blind, va_recv hK hP (ci := 2) rfl (q0 := 0) rfl, (fun U hU hW => ⟨rfl, xPre_of hZ hS hFc hPc hDc hK U hU hW⟩)⟩ rfl rfl hl.1 rfl (lv_room (Nat.le_of_ble_eq_true rfl)) dR_putCopy_5 ⟨Nat.le_of_ble_eq_true rfl, Nat.le_of_ble_eq_true rfl⟩) hS (fun q _ h => hFc q h) hFc (fun r1 u9 t H1 locs ht hvm hr9 hB hz1 hk1 hS => ?_)
  obtain ⟨hP1, hK1, hD1⟩ := hB
  rw [ht] at hP1
  obtain ⟨hP, hD⟩ := xjoin (W := [(a2, .inr (2, [.ref a3, .int 0, .int 0])), (a3, .inl (cT 2, 4096, .inr (.inl f7))), (a0, .inr (2, [.ref a1, .int 1, v4])), (a1, .inl (cT 2, 4096, .inr (.inl f5)))]) hP hD [0, 1] [2, 3] 2 rfl rfl (by decide) (by decide) hk1 hFc hP1 hD1
  generalize H1 = H at hP hS ⊢
  rw [hr9]
  refine W.eq (g2 := F0 m 8 ls [.int 1, .int 0, .ref a0, .ref a2]) rfl ?_
  refine lv_iload_n hx hb dR_putCopy_8 rfl (lv_at hl 2 rfl) ?_
  refine lv_isub hx hb dR_putCopy_9 ?_
  refine W.eq (g2 := F0 m 10 ls [.int 1, .int 0, .ref a0, .ref a2]) rfl ?_
  obtain ⟨hPc, hDc, hFc⟩ := xcut (wc := [(a2, .inr (2, [.ref a3, .int 0, .int 0])), (a0, .inr (2, [.ref a1, .int 1, v4])), (a1, .inl (cT 2, 4096, .inr (.inl f5))), (a3, .inl (cT 2, 4096, .inr (.inl f7)))]) hP hD hS hA [0, 2, 3, 1] rfl rfl (by decide)
  refine va_callv (va_runV (C := "ValueBench$Row") (As := [.ref a0, .int 0, .int 1]) (rest := []) ⟨hx, hb, hml, hown, htx⟩ (cR_putCells_0 l hl9 D cT aK aV H.size a2 a0 a1 a3 v4 f5 f7 (by first | rfl | exact h6)) ⟨callB_of 3 htx (xw_goodC kw_3_130) rfl rfl rfl (htx _ kw_1_4) (htx _ kw_3_127) ⟨by decide, by decide, by decide +kernel⟩ ⟨Nat.le_of_ble_eq_true rfl, Nat.le_of_ble_eq_true rfl⟩, (htx _ kw_3_129), (htx _ kp_R_putCells)⟩ ⟨xPre_blind, va_recv hK hP (ci := 2) rfl (q0 := 0) rfl, (fun U hU hW => ⟨rfl, xPre_of hZ hS hFc hPc hDc hK U hU hW⟩)⟩ rfl rfl hl.1 rfl (lv_room (Nat.le_of_ble_eq_true rfl)) dR_putCopy_10 ⟨Nat.le_of_ble_eq_true rfl, Nat.le_of_ble_eq_true rfl⟩) hS (fun q _ h => hFc q h) hFc (fun u9 t H1 locs ht hvm hr9 hB hz1 hk1 hS => ?_)
  obtain ⟨hP1, hK1, hD1⟩ := hB
  rw [ht] at hP1
  obtain ⟨hP, hD⟩ := xjoin (W := [(a2, .inr (2, [.ref a3, .int 1, .int 0])), (a0, .inr (2, [.ref a1, .int 1, v4])), (a1, .inl (cT 2, 4096, .inr (.inl f5))), (a3, .inl (cT 2, 4096, .inr (.inl (vp_updL f7 0 0))))]) hP hD [0, 2, 3, 1] [] 0 rfl rfl (by decide) (by decide) hk1 hFc hP1 hD1
  generalize H1 = H at hP hS ⊢
  obtain ⟨hP9, hD9⟩ := xsub (wc := [(a0, .inr (2, [.ref a1, .int 1, v4])), (a1, .inl (cT 2, 4096, .inr (.inl f5))), (a2, .inr (2, [.ref a3, .int 1, .int 0])), (a3, .inl (cT 2, 4096, .inr (.inl (vp_updL f7 0 0))))]) hP hD [1, 2, 0, 3] rfl rfl (by decide)
  refine W.widen (k := 0) (n := 0) (Nat.le_of_ble_eq_true rfl) (Nat.le_of_ble_eq_true rfl) ?_
  exact W.vret hx hb hr (fun t ht hW => ⟨⟨(), rfl, trivial, by rw [ht]; exact hP9, va_K.moved hW.alike hK, hD9⟩, hS.F ht⟩) hS.2.2 dR_putCopy_13
set_option maxHeartbeats 400000000 in
set_option maxRecDepth 100000 in
theorem cA_plus_0 (l : Launch) (hl9 : l.stackTraces = false) (D : va_G) (cT : Nat → ClassId) (aK aV : Nat → Nat) (sz : Nat) (a0 : Nat) (a1 : Nat) (a2 : Nat) (a3 : Nat) (a4 : Nat) (a5 : Nat) (v6 : Value) (f7 : Nat → Int64) (v9 : Value) (f10 : Nat → Int64) (f12 : Nat → Int64) (h8 : f7 0 = 0) (h11 : f10 0 = 0) : xMet l yA_plus wyA_plus 3 0 0 105 D cT aK aV sz [.ref a0, .ref a3, .ref a2] [(a0, .inr (2, [.ref a1, .int 1, v6])), (a1, .inl (cT 2, 4096, .inr (.inl f7))), (a2, .inr (2, [.ref a5, .int 0, .int 0])), (a3, .inr (2, [.ref a4, .int 1, v9])), (a4, .inl (cT 2, 4096, .inr (.inl f10))), (a5, .inl (cT 2, 4096, .inr (.inl f12)))] (fun A => va_Qi (fun (r : Int32) (_ : Unit) => r = 0) (fun _ t => xB D xcl cT A [(a0, .inr (2, [.ref a1, .int 1, v6])), (a1, .inl (cT 2, 4096, .inr (.inl f7))), (a2, .inr (2, [.ref a5, .int 1, .int 0])), (a3, .inr (2, [.ref a4, .int 1, v9])), (a4, .inl (cT 2, 4096, .inr (.inl f10))), (a5, .inl (cT 2, 4096, .inr (.inl (vp_updL f12 0 0))))] t) A) := by
  refine Met.ofW (cc := prog_3_method_6_code) (maxL := 3) (ret := (some .int)) (by decide) rfl ?_
  intro p e s m args below meth c s₁ B hml hv
  obtain ⟨rfl, hsz, hZ, hP, hK, hD0⟩ := hv
  have hx := B.exec
  have hb := B.bytes
  have hr := B.returns
  have hts := atoms_spec (ws := wyA_plus) B.pre
  have htx := fun w h => hts w (List.mem_cons_of_mem _ h)
  have hown : s.vm.findClass "ValueBench$Operators" = some m.cls := findClass_of_methodNamed B.named
  have hlocks := B.notSynchronized
  subst hsz
  have hD := hD0.self (sz := s.heap.size)
  generalize hAe : va_A [(a0, .inr (2, [.ref a1, .int 1, v6])), (a1, .inl (cT 2, 4096, .inr (.inl f7))), (a2, .inr (2, [.ref a5, .int 0, .int 0])), (a3, .inr (2, [.ref a4, .int 1, v9])), (a4, .inl (cT 2, 4096, .inr (.inl f10))), (a5, .inl (cT 2, 4096, .inr (.inl f12)))] s.heap.size = A at hD hZ ⊢
  have hA : ∀ q : Nat, s.heap.size ≤ q → A q := fun q h => by rw [← hAe]; exact Or.inr h
  have hS : va_S A s.heap s.heap [] := va_S.rf
  have hP : va_P D xcl [(a0, .inr (2, [.ref a1, .int 1, v6])), (a1, .inl (cT 2, 4096, .inr (.inl f7))), (a2, .inr (2, [.ref a5, .int 0, .int 0])), (a3, .inr (2, [.ref a4, .int 1, v9])), (a4, .inl (cT 2, 4096, .inr (.inl f10))), (a5, .inl (cT 2, 4096, .inr (.inl f12)))] s.heap := hP
  have hl := lv_entry ([.ref a0, .ref a3, .ref a2]) (n := 3) (Nat.le_of_ble_eq_true rfl)
  rw [lg_entry_eq]
  generalize (lg_sl ([.ref a0, .ref a3, .ref a2]) ++ List.replicate (3 - (lg_sl ([.ref a0, .ref a3, .ref a2])).length) Slot.unset).toArray = ls at hl ⊢
  have hl : lv_has ls 3 [(0, .ref a0), (1, .ref a3), (2, .ref a2)] := hl
  refine lv_aload_n hx hb dA_plus_0 rfl (lv_at hl 0 rfl) ?_
  refine lv_iconst (v := 0) hx hb dA_plus_1 (by decide) ?_
  refine lv_iconst (v := 0) hx hb dA_plus_2 (by decide) ?_
  obtain ⟨hPc, hDc, hFc⟩ := xcut (wc := [(a0, .inr (2, [.ref a1, .int 1, v6])), (a1, .inl (cT 2, 4096, .inr (.inl f7)))]) hP hD hS hA [0, 1] rfl rfl (by decide)
  refine va_calli (va_runV (C := "ValueBench$Row") (As := [.int 0, .int 0]) (rest := []) ⟨hx, hb, hml, hown, htx⟩ (cR_is_0 l hl9 D cT aK aV s.heap.size a0 a1 v6 f7 (by first | rfl | exact h8 | exact h11)) ⟨callB_of 2 htx (xw_goodC kw_3_75) rfl rfl rfl (htx _ kw_1_4) (htx _ kw_3_106) ⟨by decide, by decide, by decide +kernel⟩ ⟨Nat.le_of_ble_eq_true rfl, Nat.le_of_ble_eq_true rfl⟩, (htx _ kw_3_73), (htx _ kw_3_74)⟩ ⟨xPre_blind, va_recv hK hP (ci := 2) rfl (q0 := 0) rfl, (fun U hU hW => ⟨rfl, xPre_of hZ hS hFc hPc hDc hK U hU hW⟩)⟩ rfl rfl hl.1 rfl (lv_room (Nat.le_of_ble_eq_true rfl)) dA_plus_3 ⟨Nat.le_of_ble_eq_true rfl, Nat.le_of_ble_eq_true rfl⟩) hS (fun q _ h => hFc q h) hFc (fun r1 u9 t H1 locs ht hvm hr9 hB hz1 hk1 hS => ?_)
  obtain ⟨hP1, hK1, hD1⟩ := hB
  rw [ht] at hP1
  obtain ⟨hP, hD⟩ := xjoin (W := [(a2, .inr (2, [.ref a5, .int 0, .int 0])), (a3, .inr (2, [.ref a4, .int 1, v9])), (a4, .inl (cT 2, 4096, .inr (.inl f10))), (a5, .inl (cT 2, 4096, .inr (.inl f12))), (a0, .inr (2, [.ref a1, .int 1, v6])), (a1, .inl (cT 2, 4096, .inr (.inl f7)))]) hP hD [0, 1] [2, 3, 4, 5] 4 rfl rfl (by decide) (by decide) hk1 hFc hP1 hD1
  generalize H1 = H at hP hS ⊢
  rw [hr9]
  refine W.eq (g2 := F0 m 6 ls [.int 1]) rfl ?_
  refine lv_if_ne (tgt := 18) hx hb dA_plus_6 (by decide) (fun _ => ?_) (fun h => ((by revert h; decide : False)).elim)
  refine lv_aload_n hx hb dA_plus_18 rfl (lv_at hl 2 rfl) ?_
  refine lv_aload_n hx hb dA_plus_19 rfl (lv_at hl 0 rfl) ?_
  refine lv_iconst (v := 0) hx hb dA_plus_20 (by decide) ?_
  refine lv_iconst (v := 0) hx hb dA_plus_21 (by decide) ?_
  obtain ⟨hPc, hDc, hFc⟩ := xcut (wc := [(a0, .inr (2, [.ref a1, .int 1, v6])), (a1, .inl (cT 2, 4096, .inr (.inl f7)))]) hP hD hS hA [4, 5] rfl rfl (by decide)
  refine va_calli (va_runV (C := "ValueBench$Row") (As := [.int 0, .int 0]) (rest := [.ref a2]) ⟨hx, hb, hml, hown, htx⟩ (cR_is_0 l hl9 D cT aK aV H.size a0 a1 v6 f7 (by first | rfl | exact h8 | exact h11)) ⟨callB_of 2 htx (xw_goodC kw_3_75) rfl rfl rfl (htx _ kw_1_4) (htx _ kw_3_106) ⟨by decide, by decide, by decide +kernel⟩ ⟨Nat.le_of_ble_eq_true rfl, Nat.le_of_ble_eq_true rfl⟩, (htx _ kw_3_73), (htx _ kw_3_74)⟩ ⟨xPre_blind, va_recv hK hP (ci := 2) rfl (q0 := 4) rfl, (fun U hU hW => ⟨rfl, xPre_of hZ hS hFc hPc hDc hK U hU hW⟩)⟩ rfl rfl hl.1 rfl (lv_room (Nat.le_of_ble_eq_true rfl)) dA_plus_22 ⟨Nat.le_of_ble_eq_true rfl, Nat.le_of_ble_eq_true rfl⟩) hS (fun q _ h => hFc q h) hFc (fun r2 u9 t H1 locs ht hvm hr9 hB hz1 hk1 hS => ?_)
  obtain ⟨hP1, hK1, hD1⟩ := hB
  rw [ht] at hP1
  obtain ⟨hP, hD⟩ := xjoin (W := [(a2, .inr (2, [.ref a5, .int 0, .int 0])), (a3, .inr (2, [.ref a4, .int 1, v9])), (a4, .inl (cT 2, 4096, .inr (.inl f10))), (a5, .inl (cT 2, 4096, .inr (.inl f12))), (a0, .inr (2, [.ref a1, .int 1, v6])), (a1, .inl (cT 2, 4096, .inr (.inl f7)))]) hP hD [4, 5] [0, 1, 2, 3] 4 rfl rfl (by decide) (by decide) hk1 hFc hP1 hD1
  generalize H1 = H at hP hS ⊢
  rw [hr9]
  refine W.eq (g2 := F0 m 25 ls [.int 1, .ref a2]) rfl ?_
  refine lv_if_eq (tgt := 32) hx hb dA_plus_25 (by decide) (fun h => ((by revert h; decide : False)).elim) (fun _ => ?_)
  refine lv_aload_n hx hb dA_plus_28 rfl (lv_at hl 1 rfl) ?_
  refine lv_goto (tgt := 33) hx hb dA_plus_29 (by decide) ?_
  refine lv_iconst (v := 0) hx hb dA_plus_33 (by decide) ?_
  obtain ⟨hPc, hDc, hFc⟩ := xcut (wc := [(a3, .inr (2, [.ref a4, .int 1, v9])), (a4, .inl (cT 2, 4096, .inr (.inl f10))), (a2, .inr (2, [.ref a5, .int 0, .int 0])), (a5, .inl (cT 2, 4096, .inr (.inl f12)))]) hP hD hS hA [1, 2, 0, 3] rfl rfl (by decide)
  refine va_callv (va_runV (C := "ValueBench$Row") (As := [.ref a3, .int 0]) (rest := []) ⟨hx, hb, hml, hown, htx⟩ (cR_putCopy_0 l hl9 D cT aK aV H.size a3 a4 a2 a5 v9 f10 f12 (by first | rfl | exact h8 | exact h11)) ⟨callB_of 2 htx (xw_goodC kw_3_126) rfl rfl rfl (htx _ kw_1_4) (htx _ kw_3_123) ⟨by decide, by decide, by decide +kernel⟩ ⟨Nat.le_of_ble_eq_true rfl, Nat.le_of_ble_eq_true rfl⟩, (htx _ kw_3_124), (htx _ kw_3_125)⟩ ⟨xPre_blind, va_recv hK hP (ci := 2) rfl (q0 := 0) rfl, (fun U hU hW => ⟨rfl, xPre_of hZ hS hFc hPc hDc hK U hU hW⟩)⟩ rfl rfl hl.1 rfl (lv_room (Nat.le_of_ble_eq_true rfl)) dA_plus_34 ⟨Nat.le_of_ble_eq_true rfl, Nat.le_of_ble_eq_true rfl⟩) hS (fun q _ h => hFc q h) hFc (fun u9 t H1 locs ht hvm hr9 hB hz1 hk1 hS => ?_)
  obtain ⟨hP1, hK1, hD1⟩ := hB
  rw [ht] at hP1
  obtain ⟨hP, hD⟩ := xjoin (W := [(a0, .inr (2, [.ref a1, .int 1, v6])), (a1, .inl (cT 2, 4096, .inr (.inl f7))), (a3, .inr (2, [.ref a4, .int 1, v9])), (a4, .inl (cT 2, 4096, .inr (.inl f10))), (a2, .inr (2, [.ref a5, .int 1, .int 0])), (a5, .inl (cT 2, 4096, .inr (.inl (vp_updL f12 0 0))))]) hP hD [1, 2, 0, 3] [4, 5] 2 rfl rfl (by decide) (by decide) hk1 hFc hP1 hD1
  generalize H1 = H at hP hS ⊢
  refine lv_iconst (v := 0) hx hb dA_plus_37 (by decide) ?_
  obtain ⟨hP9, hD9⟩ := xsub (wc := [(a0, .inr (2, [.ref a1, .int 1, v6])), (a1, .inl (cT 2, 4096, .inr (.inl f7))), (a2, .inr (2, [.ref a5, .int 1, .int 0])), (a3, .inr (2, [.ref a4, .int 1, v9])), (a4, .inl (cT 2, 4096, .inr (.inl f10))), (a5, .inl (cT 2, 4096, .inr (.inl (vp_updL f12 0 0))))]) hP hD [0, 1, 4, 2, 3, 5] rfl rfl (by decide)
  refine W.widen (k := 0) (n := 0) (Nat.le_of_ble_eq_true rfl) (Nat.le_of_ble_eq_true rfl) ?_
  exact W.iret (v := 0) hx hb hr (fun t ht hW => ⟨⟨0, (), rfl, rfl, by rw [ht]; exact hP9, va_K.moved hW.alike hK, hD9⟩, hS.F ht⟩) hS.2.2 dA_plus_38
set_option maxHeartbeats 400000000 in
set_option maxRecDepth 100000 in
theorem cA_apply_0 (l : Launch) (hl9 : l.stackTraces = false) (D : va_G) (cT : Nat → ClassId) (aK aV : Nat → Nat) (sz : Nat) (a0 : Nat) (a1 : Nat) (a2 : Nat) (a3 : Nat) (a4 : Nat) (a5 : Nat) (v6 : Value) (f7 : Nat → Int64) (v9 : Value) (f10 : Nat → Int64) (f12 : Nat → Int64) (h8 : f7 0 = 0) (h11 : f10 0 = 0) : xMet l yA_apply wyA_apply 4 0 0 127 D cT aK aV sz [.int 0, .ref a0, .ref a3, .ref a2] [(a0, .inr (2, [.ref a1, .int 1, v6])), (a1, .inl (cT 2, 4096, .inr (.inl f7))), (a2, .inr (2, [.ref a5, .int 0, .int 0])), (a3, .inr (2, [.ref a4, .int 1, v9])), (a4, .inl (cT 2, 4096, .inr (.inl f10))), (a5, .inl (cT 2, 4096, .inr (.inl f12)))] (fun A => va_Qi (fun (r : Int32) (_ : Unit) => r = 0) (fun _ t => xB D xcl cT A [(a0, .inr (2, [.ref a1, .int 1, v6])), (a1, .inl (cT 2, 4096, .inr (.inl f7))), (a2, .inr (2, [.ref a5, .int 1, .int 0])), (a3, .inr (2, [.ref a4, .int 1, v9])), (a4, .inl (cT 2, 4096, .inr (.inl f10))), (a5, .inl (cT 2, 4096, .inr (.inl (vp_updL f12 0 0))))] t) A) := by
  refine Met.ofW (cc := prog_3_method_2_code) (maxL := 4) (ret := (some .int)) (by decide) rfl ?_
  intro p e s m args below meth c s₁ B hml hv
  obtain ⟨rfl, hsz, hZ, hP, hK, hD0⟩ := hv
  have hx := B.exec
  have hb := B.bytes
  have hr := B.returns
  have hts := atoms_spec (ws := wyA_apply) B.pre
  have htx := fun w h => hts w (List.mem_cons_of_mem _ h)
  have hown : s.vm.findClass "ValueBench$Operators" = some m.cls := findClass_of_methodNamed B.named
  have hlocks := B.notSynchronized
  subst hsz
  have hD := hD0.self (sz := s.heap.size)
  generalize hAe : va_A [(a0, .inr (2, [.ref a1, .int 1, v6])), (a1, .inl (cT 2, 4096, .inr (.inl f7))), (a2, .inr (2, [.ref a5, .int 0, .int 0])), (a3, .inr (2, [.ref a4, .int 1, v9])), (a4, .inl (cT 2, 4096, .inr (.inl f10))), (a5, .inl (cT 2, 4096, .inr (.inl f12)))] s.heap.size = A at hD hZ ⊢
  have hA : ∀ q : Nat, s.heap.size ≤ q → A q := fun q h => by rw [← hAe]; exact Or.inr h
  have hS : va_S A s.heap s.heap [] := va_S.rf
  have hP : va_P D xcl [(a0, .inr (2, [.ref a1, .int 1, v6])), (a1, .inl (cT 2, 4096, .inr (.inl f7))), (a2, .inr (2, [.ref a5, .int 0, .int 0])), (a3, .inr (2, [.ref a4, .int 1, v9])), (a4, .inl (cT 2, 4096, .inr (.inl f10))), (a5, .inl (cT 2, 4096, .inr (.inl f12)))] s.heap := hP
  have hl := lv_entry ([.int 0, .ref a0, .ref a3, .ref a2]) (n := 4) (Nat.le_of_ble_eq_true rfl)
  rw [lg_entry_eq]
  generalize (lg_sl ([.int 0, .ref a0, .ref a3, .ref a2]) ++ List.replicate (4 - (lg_sl ([.int 0, .ref a0, .ref a3, .ref a2])).length) Slot.unset).toArray = ls at hl ⊢
  have hl : lv_has ls 4 [(0, .int 0), (1, .ref a0), (2, .ref a3), (3, .ref a2)] := hl
  refine lv_aload_n hx hb dA_apply_0 rfl (lv_at hl 1 rfl) ?_
  refine lv_iconst (v := 0) hx hb dA_apply_1 (by decide) ?_
  refine lv_iconst (v := 3) hx hb dA_apply_2 (by decide) ?_
  obtain ⟨hPc, hDc, hFc⟩ := xcut (wc := [(a0, .inr (2, [.ref a1, .int 1, v6])), (a1, .inl (cT 2, 4096, .inr (.inl f7)))]) hP hD hS hA [0, 1] rfl rfl (by decide)
  refine va_calli (va_runV (C := "ValueBench$Row") (As := [.int 0, .int 3]) (rest := []) ⟨hx, hb, hml, hown, htx⟩ (cR_is_4 l hl9 D cT aK aV s.heap.size a0 a1 v6 f7 (by first | rfl | exact h8 | exact h11)) ⟨callB_of 2 htx (xw_goodC kw_3_75) rfl rfl rfl (htx _ kw_1_4) (htx _ kw_3_106) ⟨by decide, by decide, by decide +kernel⟩ ⟨Nat.le_of_ble_eq_true rfl, Nat.le_of_ble_eq_true rfl⟩, (htx _ kw_3_73), (htx _ kw_3_74)⟩ ⟨xPre_blind, va_recv hK hP (ci := 2) rfl (q0 := 0) rfl, (fun U hU hW => ⟨rfl, xPre_of hZ hS hFc hPc hDc hK U hU hW⟩)⟩ rfl rfl hl.1 rfl (lv_room (Nat.le_of_ble_eq_true rfl)) dA_apply_3 ⟨Nat.le_of_ble_eq_true rfl, Nat.le_of_ble_eq_true rfl⟩) hS (fun q _ h => hFc q h) hFc (fun r1 u9 t H1 locs ht hvm hr9 hB hz1 hk1 hS => ?_)
  obtain ⟨hP1, hK1, hD1⟩ := hB
  rw [ht] at hP1
  obtain ⟨hP, hD⟩ := xjoin (W := [(a2, .inr (2, [.ref a5, .int 0, .int 0])), (a3, .inr (2, [.ref a4, .int 1, v9])), (a4, .inl (cT 2, 4096, .inr (.inl f10))), (a5, .inl (cT 2, 4096, .inr (.inl f12))), (a0, .inr (2, [.ref a1, .int 1, v6])), (a1, .inl (cT 2, 4096, .inr (.inl f7)))]) hP hD [0, 1] [2, 3, 4, 5] 4 rfl rfl (by decide) (by decide) hk1 hFc hP1 hD1
  generalize H1 = H at hP hS ⊢
  rw [hr9]
  refine W.eq (g2 := F0 m 6 ls [.int 0]) rfl ?_
  refine lv_if_eq (tgt := 34) hx hb dA_apply_6 (by decide) (fun _ => ?_) (fun h => ((by revert h; decide : False)).elim)
  refine lv_iload_n hx hb dA_apply_34 rfl (lv_at hl 0 rfl) ?_
  refine lv_tableIn (off := 29) (tgt := 64) hx hb dA_apply_35 (by decide) (by decide) (by decide) (by decide) ?_
  refine lv_aload_n hx hb dA_apply_64 rfl (lv_at hl 1 rfl) ?_
  refine lv_aload_n hx hb dA_apply_65 rfl (lv_at hl 2 rfl) ?_
  refine lv_aload_n hx hb dA_apply_66 rfl (lv_at hl 3 rfl) ?_
  obtain ⟨hPc, hDc, hFc⟩ := xcut (wc := [(a0, .inr (2, [.ref a1, .int 1, v6])), (a1, .inl (cT 2, 4096, .inr (.inl f7))), (a2, .inr (2, [.ref a5, .int 0, .int 0])), (a3, .inr (2, [.ref a4, .int 1, v9])), (a4, .inl (cT 2, 4096, .inr (.inl f10))), (a5, .inl (cT 2, 4096, .inr (.inl f12)))]) hP hD hS hA [4, 5, 0, 1, 2, 3] rfl rfl (by decide)
  refine va_calli (va_runS (As := [.ref a0, .ref a3, .ref a2]) (rest := []) ⟨hx, hb, hml, hown, htx⟩ (cA_plus_0 l hl9 D cT aK aV H.size a0 a1 a2 a3 a4 a5 v6 f7 v9 f10 f12 (by first | rfl | exact h8 | exact h11) (by first | rfl | exact h8 | exact h11)) ⟨callB_of 3 htx (xw_goodC kw_3_122) rfl rfl rfl (htx _ kw_1_21) (htx _ kw_3_120) ⟨by decide, by decide, by decide +kernel⟩ ⟨Nat.le_of_ble_eq_true rfl, Nat.le_of_ble_eq_true rfl⟩, htx _ kw_3_121⟩ ⟨xPre_blind, (fun U hU hW => ⟨rfl, xPre_of hZ hS hFc hPc hDc hK U hU hW⟩)⟩ rfl rfl hl.1 rfl (lv_room (Nat.le_of_ble_eq_true rfl)) dA_apply_67 ⟨Nat.le_of_ble_eq_true rfl, Nat.le_of_ble_eq_true rfl⟩) hS (fun q _ h => hFc q h) hFc (fun r2 u9 t H1 locs ht hvm hr9 hB hz1 hk1 hS => ?_)
  obtain ⟨hP1, hK1, hD1⟩ := hB
  rw [ht] at hP1
  obtain ⟨hP, hD⟩ := xjoin (W := [(a0, .inr (2, [.ref a1, .int 1, v6])), (a1, .inl (cT 2, 4096, .inr (.inl f7))), (a2, .inr (2, [.ref a5, .int 1, .int 0])), (a3, .inr (2, [.ref a4, .int 1, v9])), (a4, .inl (cT 2, 4096, .inr (.inl f10))), (a5, .inl (cT 2, 4096, .inr (.inl (vp_updL f12 0 0))))]) hP hD [4, 5, 0, 1, 2, 3] [] 0 rfl rfl (by decide) (by decide) hk1 hFc hP1 hD1
  generalize H1 = H at hP hS ⊢
  rw [hr9]
  refine W.eq (g2 := F0 m 70 ls [.int 0]) rfl ?_
  obtain ⟨hP9, hD9⟩ := xsub (wc := [(a0, .inr (2, [.ref a1, .int 1, v6])), (a1, .inl (cT 2, 4096, .inr (.inl f7))), (a2, .inr (2, [.ref a5, .int 1, .int 0])), (a3, .inr (2, [.ref a4, .int 1, v9])), (a4, .inl (cT 2, 4096, .inr (.inl f10))), (a5, .inl (cT 2, 4096, .inr (.inl (vp_updL f12 0 0))))]) hP hD [0, 1, 2, 3, 4, 5] rfl rfl (by decide)
  refine W.widen (k := 0) (n := 0) (Nat.le_of_ble_eq_true rfl) (Nat.le_of_ble_eq_true rfl) ?_
  exact W.iret (v := 0) hx hb hr (fun t ht hW => ⟨⟨0, (), rfl, rfl, by rw [ht]; exact hP9, va_K.moved hW.alike hK, hD9⟩, hS.F ht⟩) hS.2.2 dA_apply_70
set_option maxHeartbeats 400000000 in
set_option maxRecDepth 100000 in
theorem cT_addWord_3 (l : Launch) (hl9 : l.stackTraces = false) (D : va_G) (cT : Nat → ClassId) (aK aV : Nat → Nat) (sz : Nat) (a0 : Nat) (a1 : Nat) (v2 : Value) (f3 : Nat → Int32) : xMet l yT_addWord wyT_addWord 4 0 0 85 D cT aK aV sz [.ref a0, .ref (aK 10)] [(a0, .inr (1, [.ref a1, .int 0, v2])), (a1, .inl (cT 0, 4096, .inl f3))] (fun A => va_Qv (fun _ : Unit => True) (fun _ t => ∃ (y3 : Int32) (y6 : Int32) (y9 : Int32) (y12 : Int32), xB D xcl cT A [(a0, .inr (1, [.ref a1, .int 4, v2])), (a1, .inl (cT 0, 4096, .inl (upd (upd (upd (upd f3 0 (vp_nar .byte y3)) 1 (vp_nar .byte y6)) 2 (vp_nar .byte y9)) 3 (vp_nar .byte y12))))] t) A) := by
  refine Met.ofW (cc := prog_11_method_10_code) (maxL := 3) (ret := none) (by decide) rfl ?_
  intro p e s m args below meth c s₁ B hml hv
  obtain ⟨rfl, hsz, hZ, hP, hK, hD0⟩ := hv
  have hx := B.exec
  have hb := B.bytes
  have hr := B.returns
  have hts := atoms_spec (ws := wyT_addWord) B.pre
  have htx := fun w h => hts w (List.mem_cons_of_mem _ h)
  have hown : s.vm.findClass "ValueBench$Text" = some m.cls := findClass_of_methodNamed B.named
  have hlocks := B.notSynchronized
  subst hsz
  have hD := hD0.self (sz := s.heap.size)
  generalize hAe : va_A [(a0, .inr (1, [.ref a1, .int 0, v2])), (a1, .inl (cT 0, 4096, .inl f3))] s.heap.size = A at hD hZ ⊢
  have hA : ∀ q : Nat, s.heap.size ≤ q → A q := fun q h => by rw [← hAe]; exact Or.inr h
  have hS : va_S A s.heap s.heap [] := va_S.rf
  have hP : va_P D xcl [(a0, .inr (1, [.ref a1, .int 0, v2])), (a1, .inl (cT 0, 4096, .inl f3))] s.heap := hP
  have hl := lv_entry ([.ref a0, .ref (aK 10)]) (n := 3) (Nat.le_of_ble_eq_true rfl)
  rw [lg_entry_eq]
  generalize (lg_sl ([.ref a0, .ref (aK 10)]) ++ List.replicate (3 - (lg_sl ([.ref a0, .ref (aK 10)])).length) Slot.unset).toArray = ls at hl ⊢
  have hl : lv_has ls 3 [(0, .ref a0), (1, .ref (aK 10))] := hl
  refine lv_iconst (v := 0) hx hb dT_addWord_0 (by decide) ?_
  refine lv_istore_n (lv' := [(2, .int 0), (0, .ref a0), (1, .ref (aK 10))]) hx hb dT_addWord_1 rfl hl (by decide) rfl (fun ls hl => ?_)
  refine lv_iload_n hx hb dT_addWord_2 rfl (lv_at hl 0 rfl) ?_
  refine lv_aload_n hx hb dT_addWord_3 rfl (lv_at hl 2 rfl) ?_
  obtain ⟨hPc, hDc, hFc⟩ := xcut (wc := []) hP hD hS hA [] rfl rfl (by decide)
  refine va_calli (va_runV (C := "java/lang/String") (As := []) (rest := [.int 0]) ⟨hx, hb, hml, hown, htx⟩ (cJS_length_0 l hl9 D cT aK aV s.heap.size) ⟨callB_of 0 htx (xw_goodC kw_2_70) rfl rfl rfl (htx _ kw_1_6) (htx _ kw_3_30) ⟨by decide, by decide, by decide +kernel⟩ ⟨Nat.le_of_ble_eq_true rfl, Nat.le_of_ble_eq_true rfl⟩, (htx _ kw_2_68), (htx _ kw_2_69)⟩ ⟨xPre_blind, vk_recv hZ.2.2.2.2.2.2.2.2.2.1 (i := 10) (by decide) hS, (fun U hU hW => ⟨rfl, xPre_of hZ hS hFc hPc hDc hK U hU hW⟩)⟩ rfl rfl hl.1 rfl (lv_room (Nat.le_of_ble_eq_true rfl)) dT_addWord_4 ⟨Nat.le_of_ble_eq_true rfl, Nat.le_of_ble_eq_true rfl⟩) hS (fun q _ h => hFc q h) hFc (fun r1 u9 t H1 locs ht hvm hr9 hB hz1 hk1 hS => ?_)
  obtain ⟨hP1, hK1, hD1⟩ := hB
  rw [ht] at hP1
  obtain ⟨hP, hD⟩ := xjoin (W := [(a0, .inr (1, [.ref a1, .int 0, v2])), (a1, .inl (cT 0, 4096, .inl f3))]) hP hD [] [0, 1] 2 rfl rfl (by decide) (by decide) hk1 hFc hP1 hD1
  generalize H1 = H at hP hS ⊢
  rw [hr9]
  refine W.eq (g2 := F0 m 7 ls [.int 4, .int 0]) rfl ?_
  refine lv_icmp_ge (tgt := 25) hx hb dT_addWord_7 (by decide) (fun h => ((by revert h; decide : False)).elim) (fun _ => ?_)
  refine lv_aload_n hx hb dT_addWord_10 rfl (lv_at hl 1 rfl) ?_
  refine lv_aload_n hx hb dT_addWord_11 rfl (lv_at hl 2 rfl) ?_
  refine lv_iload_n hx hb dT_addWord_12 rfl (lv_at hl 0 rfl) ?_
  obtain ⟨hPc, hDc, hFc⟩ := xcut (wc := []) hP hD hS hA [] rfl rfl (by decide)
  refine va_calli (va_runV (C := "java/lang/String") (As := [.int 0]) (rest := [.ref a0]) ⟨hx, hb, hml, hown, htx⟩ (cJS_charAt_0 l hl9 D cT aK aV H.size) ⟨callB_of 1 htx (xw_goodC kw_2_80) rfl rfl rfl (htx _ kw_1_6) (htx _ kw_3_31) ⟨by decide, by decide, by decide +kernel⟩ ⟨Nat.le_of_ble_eq_true rfl, Nat.le_of_ble_eq_true rfl⟩, (htx _ kw_2_78), (htx _ kw_2_79)⟩ ⟨xPre_blind, vk_recv hZ.2.2.2.2.2.2.2.2.2.1 (i := 10) (by decide) hS, (fun U hU hW => ⟨rfl, xPre_of hZ hS hFc hPc hDc hK U hU hW⟩)⟩ rfl rfl hl.1 rfl (lv_room (Nat.le_of_ble_eq_true rfl)) dT_addWord_13 ⟨Nat.le_of_ble_eq_true rfl, Nat.le_of_ble_eq_true rfl⟩) hS (fun q _ h => hFc q h) hFc (fun r2 u9 t H1 locs ht hvm hr9 hB hz1 hk1 hS => ?_)
  obtain ⟨hP1, hK1, hD1⟩ := hB
  rw [ht] at hP1
  obtain ⟨hP, hD⟩ := xjoin (W := [(a0, .inr (1, [.ref a1, .int 0, v2])), (a1, .inl (cT 0, 4096, .inl f3))]) hP hD [] [0, 1] 2 rfl rfl (by decide) (by decide) hk1 hFc hP1 hD1
  generalize H1 = H at hP hS ⊢
  rw [hr9]
  refine W.eq (g2 := F0 m 16 ls [.int 110, .ref a0]) rfl ?_
  obtain ⟨hPc, hDc, hFc⟩ := xcut (wc := [(a0, .inr (1, [.ref a1, .int 0, v2])), (a1, .inl (cT 0, 4096, .inl f3))]) hP hD hS hA [0, 1] rfl rfl (by decide)
  refine va_callv (va_runV (C := "ValueBench$Text") (As := [.int 110]) (rest := []) ⟨hx, hb, hml, hown, htx⟩ (cT_add_0 l hl9 D cT aK aV H.size a0 a1 110 v2 f3) ⟨callB_of 1 htx (xw_goodC kw_1_207) rfl rfl rfl (htx _ kw_1_2) (htx _ kw_1_204) ⟨by decide, by decide, by decide +kernel⟩ ⟨Nat.le_of_ble_eq_true rfl, Nat.le_of_ble_eq_true rfl⟩, (htx _ kw_1_205), (htx _ kw_1_206)⟩ ⟨xPre_blind, va_recv hK hP (ci := 1) rfl (q0 := 0) rfl, (fun U hU hW => ⟨rfl, xPre_of hZ hS hFc hPc hDc hK U hU hW⟩)⟩ rfl rfl hl.1 rfl (lv_room (Nat.le_of_ble_eq_true rfl)) dT_addWord_16 ⟨Nat.le_of_ble_eq_true rfl, Nat.le_of_ble_eq_true rfl⟩) hS (fun q _ h => hFc q h) hFc (fun u9 t H1 locs ht hvm hr9 hB hz1 hk1 hS => ?_)
  obtain ⟨y3, hP1, hK1, hD1⟩ := hB
  rw [ht] at hP1
  obtain ⟨hP, hD⟩ := xjoin (W := [(a0, .inr (1, [.ref a1, .int 1, v2])), (a1, .inl (cT 0, 4096, .inl (upd f3 0 (vp_nar .byte y3))))]) hP hD [0, 1] [] 0 rfl rfl (by decide) (by decide) hk1 hFc hP1 hD1
  generalize H1 = H at hP hS ⊢
  refine lv_iinc (v := 1) (lv' := [(2, .int 1), (0, .ref a0), (1, .ref (aK 10))]) hx hb dT_addWord_19 hl (k := 0) rfl (by decide) (by decide) rfl (fun ls hl => ?_)
  refine lv_goto (tgt := 2) hx hb dT_addWord_22 (by decide) ?_
  refine lv_iload_n hx hb dT_addWord_2 rfl (lv_at hl 0 rfl) ?_
  refine lv_aload_n hx hb dT_addWord_3 rfl (lv_at hl 2 rfl) ?_
  obtain ⟨hPc, hDc, hFc⟩ := xcut (wc := []) hP hD hS hA [] rfl rfl (by decide)
  refine va_calli (va_runV (C := "java/lang/String") (As := []) (rest := [.int 1]) ⟨hx, hb, hml, hown, htx⟩ (cJS_length_0 l hl9 D cT aK aV H.size) ⟨callB_of 0 htx (xw_goodC kw_2_70) rfl rfl rfl (htx _ kw_1_6) (htx _ kw_3_30) ⟨by decide, by decide, by decide +kernel⟩ ⟨Nat.le_of_ble_eq_true rfl, Nat.le_of_ble_eq_true rfl⟩, (htx _ kw_2_68), (htx _ kw_2_69)⟩ ⟨xPre_blind, vk_recv hZ.2.2.2.2.2.2.2.2.2.1 (i := 10) (by decide) hS, (fun U hU hW => ⟨rfl, xPre_of hZ hS hFc hPc hDc hK U hU hW⟩)⟩ rfl rfl hl.1 rfl (lv_room (Nat.le_of_ble_eq_true rfl)) dT_addWord_4 ⟨Nat.le_of_ble_eq_true rfl, Nat.le_of_ble_eq_true rfl⟩) hS (fun q _ h => hFc q h) hFc (fun r4 u9 t H1 locs ht hvm hr9 hB hz1 hk1 hS => ?_)
  obtain ⟨hP1, hK1, hD1⟩ := hB
  rw [ht] at hP1
  obtain ⟨hP, hD⟩ := xjoin (W := [(a0, .inr (1, [.ref a1, .int 1, v2])), (a1, .inl (cT 0, 4096, .inl (upd f3 0 (vp_nar .byte y3))))]) hP hD [] [0, 1] 2 rfl rfl (by decide) (by decide) hk1 hFc hP1 hD1
  generalize H1 = H at hP hS ⊢
  rw [hr9]
  refine W.eq (g2 := F0 m 7 ls [.int 4, .int 1]) rfl ?_
  refine lv_icmp_ge (tgt := 25) hx hb dT_addWord_7 (by decide) (fun h => ((by revert h; decide : False)).elim) (fun _ => ?_)
  refine lv_aload_n hx hb dT_addWord_10 rfl (lv_at hl 1 rfl) ?_
  refine lv_aload_n hx hb dT_addWord_11 rfl (lv_at hl 2 rfl) ?_
  refine lv_iload_n hx hb dT_addWord_12 rfl (lv_at hl 0 rfl) ?_
  obtain ⟨hPc, hDc, hFc⟩ := xcut (wc := []) hP hD hS hA [] rfl rfl (by decide)
  refine va_calli (va_runV (C := "java/lang/String") (As := [.int 1]) (rest := [.ref a0]) ⟨hx, hb, hml, hown, htx⟩ (cJS_charAt_1 l hl9 D cT aK aV H.size) ⟨callB_of 1 htx (xw_goodC kw_2_80) rfl rfl rfl (htx _ kw_1_6) (htx _ kw_3_31) ⟨by decide, by decide, by decide +kernel⟩ ⟨Nat.le_of_ble_eq_true rfl, Nat.le_of_ble_eq_true rfl⟩, (htx _ kw_2_78), (htx _ kw_2_79)⟩ ⟨xPre_blind, vk_recv hZ.2.2.2.2.2.2.2.2.2.1 (i := 10) (by decide) hS, (fun U hU hW => ⟨rfl, xPre_of hZ hS hFc hPc hDc hK U hU hW⟩)⟩ rfl rfl hl.1 rfl (lv_room (Nat.le_of_ble_eq_true rfl)) dT_addWord_13 ⟨Nat.le_of_ble_eq_true rfl, Nat.le_of_ble_eq_true rfl⟩) hS (fun q _ h => hFc q h) hFc (fun r5 u9 t H1 locs ht hvm hr9 hB hz1 hk1 hS => ?_)
  obtain ⟨hP1, hK1, hD1⟩ := hB
  rw [ht] at hP1
  obtain ⟨hP, hD⟩ := xjoin (W := [(a0, .inr (1, [.ref a1, .int 1, v2])), (a1, .inl (cT 0, 4096, .inl (upd f3 0 (vp_nar .byte y3))))]) hP hD [] [0, 1] 2 rfl rfl (by decide) (by decide) hk1 hFc hP1 hD1
  generalize H1 = H at hP hS ⊢
  rw [hr9]
  refine W.eq (g2 := F0 m 16 ls [.int 117, .ref a0]) rfl ?_
  obtain ⟨hPc, hDc, hFc⟩ := xcut (wc := [(a0, .inr (1, [.ref a1, .int 1, v2])), (a1, .inl (cT 0, 4096, .inl (upd f3 0 (vp_nar .byte y3))))]) hP hD hS hA [0, 1] rfl rfl (by decide)
  refine va_callv (va_runV (C := "ValueBench$Text") (As := [.int 117]) (rest := []) ⟨hx, hb, hml, hown, htx⟩ (cT_add_1 l hl9 D cT aK aV H.size a0 a1 117 v2 (upd f3 0 (vp_nar .byte y3))) ⟨callB_of 1 htx (xw_goodC kw_1_207) rfl rfl rfl (htx _ kw_1_2) (htx _ kw_1_204) ⟨by decide, by decide, by decide +kernel⟩ ⟨Nat.le_of_ble_eq_true rfl, Nat.le_of_ble_eq_true rfl⟩, (htx _ kw_1_205), (htx _ kw_1_206)⟩ ⟨xPre_blind, va_recv hK hP (ci := 1) rfl (q0 := 0) rfl, (fun U hU hW => ⟨rfl, xPre_of hZ hS hFc hPc hDc hK U hU hW⟩)⟩ rfl rfl hl.1 rfl (lv_room (Nat.le_of_ble_eq_true rfl)) dT_addWord_16 ⟨Nat.le_of_ble_eq_true rfl, Nat.le_of_ble_eq_true rfl⟩) hS (fun q _ h => hFc q h) hFc (fun u9 t H1 locs ht hvm hr9 hB hz1 hk1 hS => ?_)
  obtain ⟨y6, hP1, hK1, hD1⟩ := hB
  rw [ht] at hP1
  obtain ⟨hP, hD⟩ := xjoin (W := [(a0, .inr (1, [.ref a1, .int 2, v2])), (a1, .inl (cT 0, 4096, .inl (upd (upd f3 0 (vp_nar .byte y3)) 1 (vp_nar .byte y6))))]) hP hD [0, 1] [] 0 rfl rfl (by decide) (by decide) hk1 hFc hP1 hD1
  generalize H1 = H at hP hS ⊢
  refine lv_iinc (v := 2) (lv' := [(2, .int 2), (0, .ref a0), (1, .ref (aK 10))]) hx hb dT_addWord_19 hl (k := 0) rfl (by decide) (by decide) rfl (fun ls hl => ?_)
  refine lv_goto (tgt := 2) hx hb dT_addWord_22 (by decide) ?_
  refine lv_iload_n hx hb dT_addWord_2 rfl (lv_at hl 0 rfl) ?_
  refine lv_aload_n hx hb dT_addWord_3 rfl (lv_at hl 2 rfl) ?_
  obtain ⟨hPc, hDc, hFc⟩ := xcut (wc := []) hP hD hS hA [] rfl rfl (by decide)
  refine va_calli (va_runV (C := "java/lang/String") (As := []) (rest := [.int 2]) ⟨hx, hb, hml, hown, htx⟩ (cJS_length_0 l hl9 D cT aK aV H.size) ⟨callB_of 0 htx (xw_goodC kw_2_70) rfl rfl rfl (htx _ kw_1_6) (htx _ kw_3_30) ⟨by decide, by decide, by decide +kernel⟩ ⟨Nat.le_of_ble_eq_true rfl, Nat.le_of_ble_eq_true rfl⟩, (htx _ kw_2_68), (htx _ kw_2_69)⟩ ⟨xPre_blind, vk_recv hZ.2.2.2.2.2.2.2.2.2.1 (i := 10) (by decide) hS, (fun U hU hW => ⟨rfl, xPre_of hZ hS hFc hPc hDc hK U hU hW⟩)⟩ rfl rfl hl.1 rfl (lv_room (Nat.le_of_ble_eq_true rfl)) dT_addWord_4 ⟨Nat.le_of_ble_eq_true rfl, Nat.le_of_ble_eq_true rfl⟩) hS (fun q _ h => hFc q h) hFc (fun r7 u9 t H1 locs ht hvm hr9 hB hz1 hk1 hS => ?_)
  obtain ⟨hP1, hK1, hD1⟩ := hB
  rw [ht] at hP1
  obtain ⟨hP, hD⟩ := xjoin (W := [(a0, .inr (1, [.ref a1, .int 2, v2])), (a1, .inl (cT 0, 4096, .inl (upd (upd f3 0 (vp_nar .byte y3)) 1 (vp_nar .byte y6))))]) hP hD [] [0, 1] 2 rfl rfl (by decide) (by decide) hk1 hFc hP1 hD1
  generalize H1 = H at hP hS ⊢
  rw [hr9]
  refine W.eq (g2 := F0 m 7 ls [.int 4, .int 2]) rfl ?_
  refine lv_icmp_ge (tgt := 25) hx hb dT_addWord_7 (by decide) (fun h => ((by revert h; decide : False)).elim) (fun _ => ?_)
  refine lv_aload_n hx hb dT_addWord_10 rfl (lv_at hl 1 rfl) ?_
  refine lv_aload_n hx hb dT_addWord_11 rfl (lv_at hl 2 rfl) ?_
  refine lv_iload_n hx hb dT_addWord_12 rfl (lv_at hl 0 rfl) ?_
  obtain ⟨hPc, hDc, hFc⟩ := xcut (wc := []) hP hD hS hA [] rfl rfl (by decide)
  refine va_calli (va_runV (C := "java/lang/String") (As := [.int 2]) (rest := [.ref a0]) ⟨hx, hb, hml, hown, htx⟩ (cJS_charAt_2 l hl9 D cT aK aV H.size) ⟨callB_of 1 htx (xw_goodC kw_2_80) rfl rfl rfl (htx _ kw_1_6) (htx _ kw_3_31) ⟨by decide, by decide, by decide +kernel⟩ ⟨Nat.le_of_ble_eq_true rfl, Nat.le_of_ble_eq_true rfl⟩, (htx _ kw_2_78), (htx _ kw_2_79)⟩ ⟨xPre_blind, vk_recv hZ.2.2.2.2.2.2.2.2.2.1 (i := 10) (by decide) hS, (fun U hU hW => ⟨rfl, xPre_of hZ hS hFc hPc hDc hK U hU hW⟩)⟩ rfl rfl hl.1 rfl (lv_room (Nat.le_of_ble_eq_true rfl)) dT_addWord_13 ⟨Nat.le_of_ble_eq_true rfl, Nat.le_of_ble_eq_true rfl⟩) hS (fun q _ h => hFc q h) hFc (fun r8 u9 t H1 locs ht hvm hr9 hB hz1 hk1 hS => ?_)
  obtain ⟨hP1, hK1, hD1⟩ := hB
  rw [ht] at hP1
  obtain ⟨hP, hD⟩ := xjoin (W := [(a0, .inr (1, [.ref a1, .int 2, v2])), (a1, .inl (cT 0, 4096, .inl (upd (upd f3 0 (vp_nar .byte y3)) 1 (vp_nar .byte y6))))]) hP hD [] [0, 1] 2 rfl rfl (by decide) (by decide) hk1 hFc hP1 hD1
  generalize H1 = H at hP hS ⊢
  rw [hr9]
  refine W.eq (g2 := F0 m 16 ls [.int 108, .ref a0]) rfl ?_
  obtain ⟨hPc, hDc, hFc⟩ := xcut (wc := [(a0, .inr (1, [.ref a1, .int 2, v2])), (a1, .inl (cT 0, 4096, .inl (upd (upd f3 0 (vp_nar .byte y3)) 1 (vp_nar .byte y6))))]) hP hD hS hA [0, 1] rfl rfl (by decide)
  refine va_callv (va_runV (C := "ValueBench$Text") (As := [.int 108]) (rest := []) ⟨hx, hb, hml, hown, htx⟩ (cT_add_2 l hl9 D cT aK aV H.size a0 a1 108 v2 (upd (upd f3 0 (vp_nar .byte y3)) 1 (vp_nar .byte y6))) ⟨callB_of 1 htx (xw_goodC kw_1_207) rfl rfl rfl (htx _ kw_1_2) (htx _ kw_1_204) ⟨by decide, by decide, by decide +kernel⟩ ⟨Nat.le_of_ble_eq_true rfl, Nat.le_of_ble_eq_true rfl⟩, (htx _ kw_1_205), (htx _ kw_1_206)⟩ ⟨xPre_blind, va_recv hK hP (ci := 1) rfl (q0 := 0) rfl, (fun U hU hW => ⟨rfl, xPre_of hZ hS hFc hPc hDc hK U hU hW⟩)⟩ rfl rfl hl.1 rfl (lv_room (Nat.le_of_ble_eq_true rfl)) dT_addWord_16 ⟨Nat.le_of_ble_eq_true rfl, Nat.le_of_ble_eq_true rfl⟩) hS (fun q _ h => hFc q h) hFc (fun u9 t H1 locs ht hvm hr9 hB hz1 hk1 hS => ?_)
  obtain ⟨y9, hP1, hK1, hD1⟩ := hB
  rw [ht] at hP1
  obtain ⟨hP, hD⟩ := xjoin (W := [(a0, .inr (1, [.ref a1, .int 3, v2])), (a1, .inl (cT 0, 4096, .inl (upd (upd (upd f3 0 (vp_nar .byte y3)) 1 (vp_nar .byte y6)) 2 (vp_nar .byte y9))))]) hP hD [0, 1] [] 0 rfl rfl (by decide) (by decide) hk1 hFc hP1 hD1
  generalize H1 = H at hP hS ⊢
  refine lv_iinc (v := 3) (lv' := [(2, .int 3), (0, .ref a0), (1, .ref (aK 10))]) hx hb dT_addWord_19 hl (k := 0) rfl (by decide) (by decide) rfl (fun ls hl => ?_)
  refine lv_goto (tgt := 2) hx hb dT_addWord_22 (by decide) ?_
  refine lv_iload_n hx hb dT_addWord_2 rfl (lv_at hl 0 rfl) ?_
  refine lv_aload_n hx hb dT_addWord_3 rfl (lv_at hl 2 rfl) ?_
  obtain ⟨hPc, hDc, hFc⟩ := xcut (wc := []) hP hD hS hA [] rfl rfl (by decide)
  refine va_calli (va_runV (C := "java/lang/String") (As := []) (rest := [.int 3]) ⟨hx, hb, hml, hown, htx⟩ (cJS_length_0 l hl9 D cT aK aV H.size) ⟨callB_of 0 htx (xw_goodC kw_2_70) rfl rfl rfl (htx _ kw_1_6) (htx _ kw_3_30) ⟨by decide, by decide, by decide +kernel⟩ ⟨Nat.le_of_ble_eq_true rfl, Nat.le_of_ble_eq_true rfl⟩, (htx _ kw_2_68), (htx _ kw_2_69)⟩ ⟨xPre_blind, vk_recv hZ.2.2.2.2.2.2.2.2.2.1 (i := 10) (by decide) hS, (fun U hU hW => ⟨rfl, xPre_of hZ hS hFc hPc hDc hK U hU hW⟩)⟩ rfl rfl hl.1 rfl (lv_room (Nat.le_of_ble_eq_true rfl)) dT_addWord_4 ⟨Nat.le_of_ble_eq_true rfl, Nat.le_of_ble_eq_true rfl⟩) hS (fun q _ h => hFc q h) hFc (fun r10 u9 t H1 locs ht hvm hr9 hB hz1 hk1 hS => ?_)
  obtain ⟨hP1, hK1, hD1⟩ := hB
  rw [ht] at hP1
  obtain ⟨hP, hD⟩ := xjoin (W := [(a0, .inr (1, [.ref a1, .int 3, v2])), (a1, .inl (cT 0, 4096, .inl (upd (upd (upd f3 0 (vp_nar .byte y3)) 1 (vp_nar .byte y6)) 2 (vp_nar .byte y9))))]) hP hD [] [0, 1] 2 rfl rfl (by decide) (by decide) hk1 hFc hP1 hD1
  generalize H1 = H at hP hS ⊢
  rw [hr9]
  refine W.eq (g2 := F0 m 7 ls [.int 4, .int 3]) rfl ?_
  refine lv_icmp_ge (tgt := 25) hx hb dT_addWord_7 (by decide) (fun h => ((by revert h; decide : False)).elim) (fun _ => ?_)
  refine lv_aload_n hx hb dT_addWord_10 rfl (lv_at hl 1 rfl) ?_
  refine lv_aload_n hx hb dT_addWord_11 rfl (lv_at hl 2 rfl) ?_
  refine lv_iload_n hx hb dT_addWord_12 rfl (lv_at hl 0 rfl) ?_
  obtain ⟨hPc, hDc, hFc⟩ := xcut (wc := []) hP hD hS hA [] rfl rfl (by decide)
  refine va_calli (va_runV (C := "java/lang/String") (As := [.int 3]) (rest := [.ref a0]) ⟨hx, hb, hml, hown, htx⟩ (cJS_charAt_3 l hl9 D cT aK aV H.size) ⟨callB_of 1 htx (xw_goodC kw_2_80) rfl rfl rfl (htx _ kw_1_6) (htx _ kw_3_31) ⟨by decide, by decide, by decide +kernel⟩ ⟨Nat.le_of_ble_eq_true rfl, Nat.le_of_ble_eq_true rfl⟩, (htx _ kw_2_78), (htx _ kw_2_79)⟩ ⟨xPre_blind, vk_recv hZ.2.2.2.2.2.2.2.2.2.1 (i := 10) (by decide) hS, (fun U hU hW => ⟨rfl, xPre_of hZ hS hFc hPc hDc hK U hU hW⟩)⟩ rfl rfl hl.1 rfl (lv_room (Nat.le_of_ble_eq_true rfl)) dT_addWord_13 ⟨Nat.le_of_ble_eq_true rfl, Nat.le_of_ble_eq_true rfl⟩) hS (fun q _ h => hFc q h) hFc (fun r11 u9 t H1 locs ht hvm hr9 hB hz1 hk1 hS => ?_)
  obtain ⟨hP1, hK1, hD1⟩ := hB
  rw [ht] at hP1
  obtain ⟨hP, hD⟩ := xjoin (W := [(a0, .inr (1, [.ref a1, .int 3, v2])), (a1, .inl (cT 0, 4096, .inl (upd (upd (upd f3 0 (vp_nar .byte y3)) 1 (vp_nar .byte y6)) 2 (vp_nar .byte y9))))]) hP hD [] [0, 1] 2 rfl rfl (by decide) (by decide) hk1 hFc hP1 hD1
  generalize H1 = H at hP hS ⊢
  rw [hr9]
  refine W.eq (g2 := F0 m 16 ls [.int 108, .ref a0]) rfl ?_
  obtain ⟨hPc, hDc, hFc⟩ := xcut (wc := [(a0, .inr (1, [.ref a1, .int 3, v2])), (a1, .inl (cT 0, 4096, .inl (upd (upd (upd f3 0 (vp_nar .byte y3)) 1 (vp_nar .byte y6)) 2 (vp_nar .byte y9))))]) hP hD hS hA [0, 1] rfl rfl (by decide)
  refine va_callv (va_runV (C := "ValueBench$Text") (As := [.int 108]) (rest := []) ⟨hx, hb, hml, hown, htx⟩ (cT_add_20 l hl9 D cT aK aV H.size a0 a1 108 v2 (upd (upd (upd f3 0 (vp_nar .byte y3)) 1 (vp_nar .byte y6)) 2 (vp_nar .byte y9))) ⟨callB_of 1 htx (xw_goodC kw_1_207) rfl rfl rfl (htx _ kw_1_2) (htx _ kw_1_204) ⟨by decide, by decide, by decide +kernel⟩ ⟨Nat.le_of_ble_eq_true rfl, Nat.le_of_ble_eq_true rfl⟩, (htx _ kw_1_205), (htx _ kw_1_206)⟩ ⟨xPre_blind, va_recv hK hP (ci := 1) rfl (q0 := 0) rfl, (fun U hU hW => ⟨rfl, xPre_of hZ hS hFc hPc hDc hK U hU hW⟩)⟩ rfl rfl hl.1 rfl (lv_room (Nat.le_of_ble_eq_true rfl)) dT_addWord_16 ⟨Nat.le_of_ble_eq_true rfl, Nat.le_of_ble_eq_true rfl⟩) hS (fun q _ h => hFc q h) hFc (fun u9 t H1 locs ht hvm hr9 hB hz1 hk1 hS => ?_)
  obtain ⟨y12, hP1, hK1, hD1⟩ := hB
  rw [ht] at hP1
  obtain ⟨hP, hD⟩ := xjoin (W := [(a0, .inr (1, [.ref a1, .int 4, v2])), (a1, .inl (cT 0, 4096, .inl (upd (upd (upd (upd f3 0 (vp_nar .byte y3)) 1 (vp_nar .byte y6)) 2 (vp_nar .byte y9)) 3 (vp_nar .byte y12))))]) hP hD [0, 1] [] 0 rfl rfl (by decide) (by decide) hk1 hFc hP1 hD1
  generalize H1 = H at hP hS ⊢
  refine lv_iinc (v := 4) (lv' := [(2, .int 4), (0, .ref a0), (1, .ref (aK 10))]) hx hb dT_addWord_19 hl (k := 0) rfl (by decide) (by decide) rfl (fun ls hl => ?_)
  refine lv_goto (tgt := 2) hx hb dT_addWord_22 (by decide) ?_
  refine lv_iload_n hx hb dT_addWord_2 rfl (lv_at hl 0 rfl) ?_
  refine lv_aload_n hx hb dT_addWord_3 rfl (lv_at hl 2 rfl) ?_
  obtain ⟨hPc, hDc, hFc⟩ := xcut (wc := []) hP hD hS hA [] rfl rfl (by decide)
  refine va_calli (va_runV (C := "java/lang/String") (As := []) (rest := [.int 4]) ⟨hx, hb, hml, hown, htx⟩ (cJS_length_0 l hl9 D cT aK aV H.size) ⟨callB_of 0 htx (xw_goodC kw_2_70) rfl rfl rfl (htx _ kw_1_6) (htx _ kw_3_30) ⟨by decide, by decide, by decide +kernel⟩ ⟨Nat.le_of_ble_eq_true rfl, Nat.le_of_ble_eq_true rfl⟩, (htx _ kw_2_68), (htx _ kw_2_69)⟩ ⟨xPre_blind, vk_recv hZ.2.2.2.2.2.2.2.2.2.1 (i := 10) (by decide) hS, (fun U hU hW => ⟨rfl, xPre_of hZ hS hFc hPc hDc hK U hU hW⟩)⟩ rfl rfl hl.1 rfl (lv_room (Nat.le_of_ble_eq_true rfl)) dT_addWord_4 ⟨Nat.le_of_ble_eq_true rfl, Nat.le_of_ble_eq_true rfl⟩) hS (fun q _ h => hFc q h) hFc (fun r13 u9 t H1 locs ht hvm hr9 hB hz1 hk1 hS => ?_)
  obtain ⟨hP1, hK1, hD1⟩ := hB
  rw [ht] at hP1
  obtain ⟨hP, hD⟩ := xjoin (W := [(a0, .inr (1, [.ref a1, .int 4, v2])), (a1, .inl (cT 0, 4096, .inl (upd (upd (upd (upd f3 0 (vp_nar .byte y3)) 1 (vp_nar .byte y6)) 2 (vp_nar .byte y9)) 3 (vp_nar .byte y12))))]) hP hD [] [0, 1] 2 rfl rfl (by decide) (by decide) hk1 hFc hP1 hD1
  generalize H1 = H at hP hS ⊢
  rw [hr9]
  refine W.eq (g2 := F0 m 7 ls [.int 4, .int 4]) rfl ?_
  refine lv_icmp_ge (tgt := 25) hx hb dT_addWord_7 (by decide) (fun _ => ?_) (fun h => ((by revert h; decide : False)).elim)
  obtain ⟨hP9, hD9⟩ := xsub (wc := [(a0, .inr (1, [.ref a1, .int 4, v2])), (a1, .inl (cT 0, 4096, .inl (upd (upd (upd (upd f3 0 (vp_nar .byte y3)) 1 (vp_nar .byte y6)) 2 (vp_nar .byte y9)) 3 (vp_nar .byte y12))))]) hP hD [0, 1] rfl rfl (by decide)
  refine W.widen (k := 0) (n := 0) (Nat.le_of_ble_eq_true rfl) (Nat.le_of_ble_eq_true rfl) ?_
  exact W.vret hx hb hr (fun t ht hW => ⟨⟨(), rfl, trivial, y3, y6, y9, y12, by rw [ht]; exact hP9, va_K.moved hW.alike hK, hD9⟩, hS.F ht⟩) hS.2.2 dT_addWord_25
set_option maxHeartbeats 400000000 in
set_option maxRecDepth 100000 in
theorem cP_write_6 (l : Launch) (hl9 : l.stackTraces = false) (D : va_G) (cT : Nat → ClassId) (aK aV : Nat → Nat) (sz : Nat) (a0 : Nat) (a1 : Nat) (a2 : Nat) (a3 : Nat) (x4 : Int32) (v5 : Value) (f6 : Nat → Int64) (v8 : Value) (f9 : Nat → Int32) (h7 : f6 0 = 0) : xMet l yP_write wyP_write 5 0 0 107 D cT aK aV sz [.ref a0, .int 0, .ref a2, .int x4] [(a0, .inr (2, [.ref a1, .int 1, v5])), (a1, .inl (cT 2, 4096, .inr (.inl f6))), (a2, .inr (1, [.ref a3, .int 0, v8])), (a3, .inl (cT 0, 4096, .inl f9))] (fun A => va_Qv (fun _ : Unit => True) (fun _ t => ∃ (y2 : Int32) (y3 : Int32) (y4 : Int32) (y5 : Int32), xB D xcl cT A [(a0, .inr (2, [.ref a1, .int 1, v5])), (a1, .inl (cT 2, 4096, .inr (.inl f6))), (a2, .inr (1, [.ref a3, .int 4, v8])), (a3, .inl (cT 0, 4096, .inl (upd (upd (upd (upd f9 0 (vp_nar .byte y2)) 1 (vp_nar .byte y3)) 2 (vp_nar .byte y4)) 3 (vp_nar .byte y5))))] t) A) := by
  refine Met.ofW (cc := prog_6_method_2_code) (maxL := 4) (ret := none) (by decide) rfl ?_
  intro p e s m args below meth c s₁ B hml hv
  obtain ⟨rfl, hsz, hZ, hP, hK, hD0⟩ := hv
  have hx := B.exec
  have hb := B.bytes
  have hr := B.returns
  have hts := atoms_spec (ws := wyP_write) B.pre
  have htx := fun w h => hts w (List.mem_cons_of_mem _ h)
  have hown : s.vm.findClass "ValueBench$Printer" = some m.cls := findClass_of_methodNamed B.named
  have hlocks := B.notSynchronized
  subst hsz
  have hD := hD0.self (sz := s.heap.size)
  generalize hAe : va_A [(a0, .inr (2, [.ref a1, .int 1, v5])), (a1, .inl (cT 2, 4096, .inr (.inl f6))), (a2, .inr (1, [.ref a3, .int 0, v8])), (a3, .inl (cT 0, 4096, .inl f9))] s.heap.size = A at hD hZ ⊢
  have hA : ∀ q : Nat, s.heap.size ≤ q → A q := fun q h => by rw [← hAe]; exact Or.inr h
  have hS : va_S A s.heap s.heap [] := va_S.rf
  have hP : va_P D xcl [(a0, .inr (2, [.ref a1, .int 1, v5])), (a1, .inl (cT 2, 4096, .inr (.inl f6))), (a2, .inr (1, [.ref a3, .int 0, v8])), (a3, .inl (cT 0, 4096, .inl f9))] s.heap := hP
  have hl := lv_entry ([.ref a0, .int 0, .ref a2, .int x4]) (n := 4) (Nat.le_of_ble_eq_true rfl)
  rw [lg_entry_eq]
  generalize (lg_sl ([.ref a0, .int 0, .ref a2, .int x4]) ++ List.replicate (4 - (lg_sl ([.ref a0, .int 0, .ref a2, .int x4])).length) Slot.unset).toArray = ls at hl ⊢
  have hl : lv_has ls 4 [(0, .ref a0), (1, .int 0), (2, .ref a2), (3, .int x4)] := hl
  refine lv_aload_n hx hb dP_write_0 rfl (lv_at hl 0 rfl) ?_
  refine lv_iload_n hx hb dP_write_1 rfl (lv_at hl 1 rfl) ?_
  obtain ⟨hPc, hDc, hFc⟩ := xcut (wc := [(a0, .inr (2, [.ref a1, .int 1, v5])), (a1, .inl (cT 2, 4096, .inr (.inl f6)))]) hP hD hS hA [0, 1] rfl rfl (by decide)
  refine va_calli (va_runV (C := "ValueBench$Row") (As := [.int 0]) (rest := []) ⟨hx, hb, hml, hown, htx⟩ (cR_kind_0 l hl9 D cT aK aV s.heap.size a0 a1 v5 f6 (by first | rfl | exact h7)) ⟨callB_of 1 htx (xw_goodC kw_3_24) rfl rfl rfl (htx _ kw_1_4) (htx _ kw_3_21) ⟨by decide, by decide, by decide +kernel⟩ ⟨Nat.le_of_ble_eq_true rfl, Nat.le_of_ble_eq_true rfl⟩, (htx _ kw_3_22), (htx _ kw_3_23)⟩ ⟨xPre_blind, va_recv hK hP (ci := 2) rfl (q0 := 0) rfl, (fun U hU hW => ⟨rfl, xPre_of hZ hS hFc hPc hDc hK U hU hW⟩)⟩ rfl rfl hl.1 rfl (lv_room (Nat.le_of_ble_eq_true rfl)) dP_write_2 ⟨Nat.le_of_ble_eq_true rfl, Nat.le_of_ble_eq_true rfl⟩) hS (fun q _ h => hFc q h) hFc (fun r1 u9 t H1 locs ht hvm hr9 hB hz1 hk1 hS => ?_)
  obtain ⟨hP1, hK1, hD1⟩ := hB
  rw [ht] at hP1
  obtain ⟨hP, hD⟩ := xjoin (W := [(a2, .inr (1, [.ref a3, .int 0, v8])), (a3, .inl (cT 0, 4096, .inl f9)), (a0, .inr (2, [.ref a1, .int 1, v5])), (a1, .inl (cT 2, 4096, .inr (.inl f6)))]) hP hD [0, 1] [2, 3] 2 rfl rfl (by decide) (by decide) hk1 hFc hP1 hD1
  generalize H1 = H at hP hS ⊢
  rw [hr9]
  refine W.eq (g2 := F0 m 5 ls [.int 0]) rfl ?_
  refine lv_tableIn (off := 35) (tgt := 40) hx hb dP_write_5 (by decide) (by decide) (by decide) (by decide) ?_
  refine lv_aload_n hx hb dP_write_40 rfl (lv_at hl 2 rfl) ?_
  refine va_ldcS (q := aK 10) hx hb hown (hZ.2.2.2.2.2.2.2.2.1 _ (List.mem_of_getElem? (i := 10) rfl)) dP_write_41 ?_
  obtain ⟨hPc, hDc, hFc⟩ := xcut (wc := [(a2, .inr (1, [.ref a3, .int 0, v8])), (a3, .inl (cT 0, 4096, .inl f9))]) hP hD hS hA [0, 1] rfl rfl (by decide)
  refine va_callv (va_runV (C := "ValueBench$Text") (As := [.ref (aK 10)]) (rest := []) ⟨hx, hb, hml, hown, htx⟩ (cT_addWord_3 l hl9 D cT aK aV H.size a2 a3 v8 f9) ⟨callB_of 1 htx (xw_goodC kw_3_29) rfl rfl rfl (htx _ kw_1_2) (htx _ kw_3_26) ⟨by decide, by decide, by decide +kernel⟩ ⟨Nat.le_of_ble_eq_true rfl, Nat.le_of_ble_eq_true rfl⟩, (htx _ kw_3_27), (htx _ kw_3_28)⟩ ⟨xPre_blind, va_recv hK hP (ci := 1) rfl (q0 := 0) rfl, (fun U hU hW => ⟨rfl, xPre_of hZ hS hFc hPc hDc hK U hU hW⟩)⟩ rfl rfl hl.1 rfl (lv_room (Nat.le_of_ble_eq_true rfl)) dP_write_43 ⟨Nat.le_of_ble_eq_true rfl, Nat.le_of_ble_eq_true rfl⟩) hS (fun q _ h => hFc q h) hFc (fun u9 t H1 locs ht hvm hr9 hB hz1 hk1 hS => ?_)
  obtain ⟨y2, y3, y4, y5, hP1, hK1, hD1⟩ := hB
  rw [ht] at hP1
  obtain ⟨hP, hD⟩ := xjoin (W := [(a0, .inr (2, [.ref a1, .int 1, v5])), (a1, .inl (cT 2, 4096, .inr (.inl f6))), (a2, .inr (1, [.ref a3, .int 4, v8])), (a3, .inl (cT 0, 4096, .inl (upd (upd (upd (upd f9 0 (vp_nar .byte y2)) 1 (vp_nar .byte y3)) 2 (vp_nar .byte y4)) 3 (vp_nar .byte y5))))]) hP hD [0, 1] [2, 3] 2 rfl rfl (by decide) (by decide) hk1 hFc hP1 hD1
  generalize H1 = H at hP hS ⊢
  refine lv_goto (tgt := 95) hx hb dP_write_46 (by decide) ?_
  obtain ⟨hP9, hD9⟩ := xsub (wc := [(a0, .inr (2, [.ref a1, .int 1, v5])), (a1, .inl (cT 2, 4096, .inr (.inl f6))), (a2, .inr (1, [.ref a3, .int 4, v8])), (a3, .inl (cT 0, 4096, .inl (upd (upd (upd (upd f9 0 (vp_nar .byte y2)) 1 (vp_nar .byte y3)) 2 (vp_nar .byte y4)) 3 (vp_nar .byte y5))))]) hP hD [0, 1, 2, 3] rfl rfl (by decide)
  refine W.widen (k := 0) (n := 0) (Nat.le_of_ble_eq_true rfl) (Nat.le_of_ble_eq_true rfl) ?_
  exact W.vret hx hb hr (fun t ht hW => ⟨⟨(), rfl, trivial, y2, y3, y4, y5, by rw [ht]; exact hP9, va_K.moved hW.alike hK, hD9⟩, hS.F ht⟩) hS.2.2 dP_write_95
set_option maxHeartbeats 400000000 in
set_option maxRecDepth 100000 in
theorem cB_keepSpare_4 (l : Launch) (hl9 : l.stackTraces = false) (D : va_G) (cT : Nat → ClassId) (aK aV : Nat → Nat) (sz : Nat) (a0 : Nat) (a1 : Nat) (a2 : Nat) (a3 : Nat) (a4 : Nat) (a5 : Nat) (x6 : Int32) (v11 : Value) (v12 : Value) (v13 : Value) (v14 : Value) (v15 : Value) (v16 : Value) (v17 : Value) (f18 : Nat → Int64) (f20 : Nat → Int32) (f21 : Nat → Option Nat) (b22 : Nat) (h7 : ¬ x6 < 0) (h8 : ¬ 7 < x6) (h9 : x6 ≤ 7) (h10 : vp_in x6 8) (h19 : f18 0 = 0) (h23 : f21 x6.toNatClampNeg = some b22) : xMet l yB_keepSpare wyB_keepSpare 6 0 0 130 D cT aK aV sz [.ref a0, .int x6] [(a0, .inr (0, [v11, v12, .ref a1, .ref a5, v13, .ref a2, v14, v15])), (a1, .inr (1, [.ref a4, v16, v17])), (a2, .inr (2, [.ref a3, .int 1, .int 0])), (a3, .inl (cT 2, 4096, .inr (.inl f18))), (a4, .inl (cT 0, 4096, .inl f20)), (a5, .inl (cT 3, 8, .inr (.inr (.inr (.inr f21)))))] (fun A => va_Qi (fun (r : Int32) (_ : Unit) => r = 4) (fun _ t => ∃ (y1 : Int32) (y2 : Int32) (y3 : Int32) (y4 : Int32), xB D xcl cT A [(a0, .inr (0, [v11, v12, .ref a1, .ref a5, v13, .ref b22, v14, v15])), (a1, .inr (1, [.ref a4, .int 4, .int 0])), (a2, .inr (2, [.ref a3, .int 1, .int 0])), (a3, .inl (cT 2, 4096, .inr (.inl f18))), (a4, .inl (cT 0, 4096, .inl (upd (upd (upd (upd f20 0 (vp_nar .byte y1)) 1 (vp_nar .byte y2)) 2 (vp_nar .byte y3)) 3 (vp_nar .byte y4)))), (a5, .inl (cT 3, 8, .inr (.inr (.inr (.inr (va_up f21 x6.toNatClampNeg (some a2)))))))] t) A) := by
  refine Met.ofW (cc := prog_1_method_18_code) (maxL := 3) (ret := (some .int)) (by decide) rfl ?_
  intro p e s m args below meth c s₁ B hml hv
  obtain ⟨rfl, hsz, hZ, hP, hK, hD0⟩ := hv
  have hx := B.exec
  have hb := B.bytes
  have hr := B.returns
  have hts := atoms_spec (ws := wyB_keepSpare) B.pre
  have htx := fun w h => hts w (List.mem_cons_of_mem _ h)
  have hown : s.vm.findClass "ValueBench" = some m.cls := findClass_of_methodNamed B.named
  have hlocks := B.notSynchronized
  subst hsz
  have hD := hD0.self (sz := s.heap.size)
  generalize hAe : va_A [(a0, .inr (0, [v11, v12, .ref a1, .ref a5, v13, .ref a2, v14, v15])), (a1, .inr (1, [.ref a4, v16, v17])), (a2, .inr (2, [.ref a3, .int 1, .int 0])), (a3, .inl (cT 2, 4096, .inr (.inl f18))), (a4, .inl (cT 0, 4096, .inl f20)), (a5, .inl (cT 3, 8, .inr (.inr (.inr (.inr f21)))))] s.heap.size = A at hD hZ ⊢
  have hA : ∀ q : Nat, s.heap.size ≤ q → A q := fun q h => by rw [← hAe]; exact Or.inr h
  have hS : va_S A s.heap s.heap [] := va_S.rf
  have hP : va_P D xcl [(a0, .inr (0, [v11, v12, .ref a1, .ref a5, v13, .ref a2, v14, v15])), (a1, .inr (1, [.ref a4, v16, v17])), (a2, .inr (2, [.ref a3, .int 1, .int 0])), (a3, .inl (cT 2, 4096, .inr (.inl f18))), (a4, .inl (cT 0, 4096, .inl f20)), (a5, .inl (cT 3, 8, .inr (.inr (.inr (.inr f21)))))] s.heap := hP
  have hl := lv_entry ([.ref a0, .int x6]) (n := 3) (Nat.le_of_ble_eq_true rfl)
  rw [lg_entry_eq]
  generalize (lg_sl ([.ref a0, .int x6]) ++ List.replicate (3 - (lg_sl ([.ref a0, .int x6])).length) Slot.unset).toArray = ls at hl ⊢
  have hl : lv_has ls 3 [(0, .ref a0), (1, .int x6)] := hl
  refine lv_aload_n hx hb dB_keepSpare_0 rfl (lv_at hl 0 rfl) ?_
  refine va_get (D := D) (ci := 0) (v := .ref a1) (C := "ValueBench") (T := TB) (N := 8) hx hb htx inB hown hK hP 0 rfl rfl 2 (by decide) (htx _ kw_1_97) (fun _ h9 => h9) rfl dB_keepSpare_1 ?_
  obtain ⟨hPc, hDc, hFc⟩ := xcut (wc := [(a1, .inr (1, [.ref a4, v16, v17]))]) hP hD hS hA [1] rfl rfl (by decide)
  refine va_callv (va_runV (C := "ValueBench$Text") (As := []) (rest := []) ⟨hx, hb, hml, hown, htx⟩ (cT_clear_0 l hl9 D cT aK aV s.heap.size a1 (.ref a4) v16 v17) ⟨callB_of 0 htx (xw_goodC kw_2_237) rfl rfl rfl (htx _ kw_1_2) (htx _ kw_2_234) ⟨by decide, by decide, by decide +kernel⟩ ⟨Nat.le_of_ble_eq_true rfl, Nat.le_of_ble_eq_true rfl⟩, (htx _ kw_2_235), (htx _ kw_2_236)⟩ ⟨xPre_blind, va_recv hK hP (ci := 1) rfl (q0 := 1) rfl, (fun U hU hW => ⟨rfl, xPre_of hZ hS hFc hPc hDc hK U hU hW⟩)⟩ rfl rfl hl.1 rfl (lv_room (Nat.le_of_ble_eq_true rfl)) dB_keepSpare_4 ⟨Nat.le_of_ble_eq_true rfl, Nat.le_of_ble_eq_true rfl⟩) hS (fun q _ h => hFc q h) hFc (fun u9 t H1 locs ht hvm hr9 hB hz1 hk1 hS => ?_)
  obtain ⟨hP1, hK1, hD1⟩ := hB
  rw [ht] at hP1
  obtain ⟨hP, hD⟩ := xjoin (W := [(a0, .inr (0, [v11, v12, .ref a1, .ref a5, v13, .ref a2, v14, v15])), (a2, .inr (2, [.ref a3, .int 1, .int 0])), (a3, .inl (cT 2, 4096, .inr (.inl f18))), (a4, .inl (cT 0, 4096, .inl f20)), (a5, .inl (cT 3, 8, .inr (.inr (.inr (.inr f21))))), (a1, .inr (1, [.ref a4, .int 0, .int 0]))]) hP hD [1] [0, 2, 3, 4, 5] 5 rfl rfl (by decide) (by decide) hk1 hFc hP1 hD1
  generalize H1 = H at hP hS ⊢
  refine lv_aload_n hx hb dB_keepSpare_7 rfl (lv_at hl 0 rfl) ?_
  refine va_get (D := D) (ci := 0) (v := .ref a2) (C := "ValueBench") (T := TB) (N := 8) hx hb htx inB hown hK hP 0 rfl rfl 5 (by decide) (htx _ kw_1_100) (fun _ h9 => h9) rfl dB_keepSpare_8 ?_
  refine lv_iconst (v := 0) hx hb dB_keepSpare_11 (by decide) ?_
  refine lv_aload_n hx hb dB_keepSpare_12 rfl (lv_at hl 0 rfl) ?_
  refine va_get (D := D) (ci := 0) (v := .ref a1) (C := "ValueBench") (T := TB) (N := 8) hx hb htx inB hown hK hP 0 rfl rfl 2 (by decide) (htx _ kw_1_97) (fun _ h9 => h9) rfl dB_keepSpare_13 ?_
  refine lv_iconst (v := 0) hx hb dB_keepSpare_16 (by decide) ?_
  obtain ⟨hPc, hDc, hFc⟩ := xcut (wc := [(a2, .inr (2, [.ref a3, .int 1, .int 0])), (a3, .inl (cT 2, 4096, .inr (.inl f18))), (a1, .inr (1, [.ref a4, .int 0, .int 0])), (a4, .inl (cT 0, 4096, .inl f20))]) hP hD hS hA [1, 2, 5, 3] rfl rfl (by decide)
  refine va_callv (va_runS (As := [.ref a2, .int 0, .ref a1, .int 0]) (rest := []) ⟨hx, hb, hml, hown, htx⟩ (cP_write_6 l hl9 D cT aK aV H.size a2 a3 a1 a4 0 (.int 0) f18 (.int 0) f20 (by first | rfl | exact h19 | exact h23)) ⟨callB_of 4 htx (xw_goodC kw_3_20) rfl rfl rfl (htx _ kw_1_18) (htx _ kw_3_18) ⟨by decide, by decide, by decide +kernel⟩ ⟨Nat.le_of_ble_eq_true rfl, Nat.le_of_ble_eq_true rfl⟩, htx _ kw_3_19⟩ ⟨xPre_blind, (fun U hU hW => ⟨rfl, xPre_of hZ hS hFc hPc hDc hK U hU hW⟩)⟩ rfl rfl hl.1 rfl (lv_room (Nat.le_of_ble_eq_true rfl)) dB_keepSpare_17 ⟨Nat.le_of_ble_eq_true rfl, Nat.le_of_ble_eq_true rfl⟩) hS (fun q _ h => hFc q h) hFc (fun u9 t H1 locs ht hvm hr9 hB hz1 hk1 hS => ?_)
  obtain ⟨y1, y2, y3, y4, hP1, hK1, hD1⟩ := hB
  rw [ht] at hP1
  obtain ⟨hP, hD⟩ := xjoin (W := [(a0, .inr (0, [v11, v12, .ref a1, .ref a5, v13, .ref a2, v14, v15])), (a5, .inl (cT 3, 8, .inr (.inr (.inr (.inr f21))))), (a2, .inr (2, [.ref a3, .int 1, .int 0])), (a3, .inl (cT 2, 4096, .inr (.inl f18))), (a1, .inr (1, [.ref a4, .int 4, .int 0])), (a4, .inl (cT 0, 4096, .inl (upd (upd (upd (upd f20 0 (vp_nar .byte y1)) 1 (vp_nar .byte y2)) 2 (vp_nar .byte y3)) 3 (vp_nar .byte y4))))]) hP hD [1, 2, 5, 3] [0, 4] 2 rfl rfl (by decide) (by decide) hk1 hFc hP1 hD1
  generalize H1 = H at hP hS ⊢
  refine lv_aload_n hx hb dB_keepSpare_20 rfl (lv_at hl 0 rfl) ?_
  refine va_get (D := D) (ci := 0) (v := .ref a2) (C := "ValueBench") (T := TB) (N := 8) hx hb htx inB hown hK hP 0 rfl rfl 5 (by decide) (htx _ kw_1_100) (fun _ h9 => h9) rfl dB_keepSpare_21 ?_
  obtain ⟨hPc, hDc, hFc⟩ := xcut (wc := [(a2, .inr (2, [.ref a3, .int 1, .int 0]))]) hP hD hS hA [2] rfl rfl (by decide)
  refine va_calli (va_runV (C := "ValueBench$Row") (As := []) (rest := []) ⟨hx, hb, hml, hown, htx⟩ (cR_isOver_0 l hl9 D cT aK aV H.size a2 (.ref a3) (.int 1)) ⟨callB_of 0 htx (xw_goodC kw_3_82) rfl rfl rfl (htx _ kw_1_4) (htx _ kw_3_79) ⟨by decide, by decide, by decide +kernel⟩ ⟨Nat.le_of_ble_eq_true rfl, Nat.le_of_ble_eq_true rfl⟩, (htx _ kw_3_80), (htx _ kw_3_81)⟩ ⟨xPre_blind, va_recv hK hP (ci := 2) rfl (q0 := 2) rfl, (fun U hU hW => ⟨rfl, xPre_of hZ hS hFc hPc hDc hK U hU hW⟩)⟩ rfl rfl hl.1 rfl (lv_room (Nat.le_of_ble_eq_true rfl)) dB_keepSpare_24 ⟨Nat.le_of_ble_eq_true rfl, Nat.le_of_ble_eq_true rfl⟩) hS (fun q _ h => hFc q h) hFc (fun r5 u9 t H1 locs ht hvm hr9 hB hz1 hk1 hS => ?_)
  obtain ⟨hP1, hK1, hD1⟩ := hB
  rw [ht] at hP1
  obtain ⟨hP, hD⟩ := xjoin (W := [(a0, .inr (0, [v11, v12, .ref a1, .ref a5, v13, .ref a2, v14, v15])), (a5, .inl (cT 3, 8, .inr (.inr (.inr (.inr f21))))), (a3, .inl (cT 2, 4096, .inr (.inl f18))), (a1, .inr (1, [.ref a4, .int 4, .int 0])), (a4, .inl (cT 0, 4096, .inl (upd (upd (upd (upd f20 0 (vp_nar .byte y1)) 1 (vp_nar .byte y2)) 2 (vp_nar .byte y3)) 3 (vp_nar .byte y4)))), (a2, .inr (2, [.ref a3, .int 1, .int 0]))]) hP hD [2] [0, 1, 3, 4, 5] 5 rfl rfl (by decide) (by decide) hk1 hFc hP1 hD1
  generalize H1 = H at hP hS ⊢
  rw [hr9]
  refine W.eq (g2 := F0 m 27 ls [.int 0]) rfl ?_
  refine lv_if_ne (tgt := 40) hx hb dB_keepSpare_27 (by decide) (fun h => ((by revert h; decide : False)).elim) (fun _ => ?_)
  refine lv_aload_n hx hb dB_keepSpare_30 rfl (lv_at hl 0 rfl) ?_
  refine va_get (D := D) (ci := 0) (v := .ref a1) (C := "ValueBench") (T := TB) (N := 8) hx hb htx inB hown hK hP 0 rfl rfl 2 (by decide) (htx _ kw_1_97) (fun _ h9 => h9) rfl dB_keepSpare_31 ?_
  obtain ⟨hPc, hDc, hFc⟩ := xcut (wc := [(a1, .inr (1, [.ref a4, .int 4, .int 0]))]) hP hD hS hA [3] rfl rfl (by decide)
  refine va_calli (va_runV (C := "ValueBench$Text") (As := []) (rest := []) ⟨hx, hb, hml, hown, htx⟩ (cT_isOver_0 l hl9 D cT aK aV H.size a1 (.ref a4) (.int 4)) ⟨callB_of 0 htx (xw_goodC kw_3_86) rfl rfl rfl (htx _ kw_1_2) (htx _ kw_3_83) ⟨by decide, by decide, by decide +kernel⟩ ⟨Nat.le_of_ble_eq_true rfl, Nat.le_of_ble_eq_true rfl⟩, (htx _ kw_3_84), (htx _ kw_3_85)⟩ ⟨xPre_blind, va_recv hK hP (ci := 1) rfl (q0 := 3) rfl, (fun U hU hW => ⟨rfl, xPre_of hZ hS hFc hPc hDc hK U hU hW⟩)⟩ rfl rfl hl.1 rfl (lv_room (Nat.le_of_ble_eq_true rfl)) dB_keepSpare_34 ⟨Nat.le_of_ble_eq_true rfl, Nat.le_of_ble_eq_true rfl⟩) hS (fun q _ h => hFc q h) hFc (fun r6 u9 t H1 locs ht hvm hr9 hB hz1 hk1 hS => ?_)
  obtain ⟨hP1, hK1, hD1⟩ := hB
  rw [ht] at hP1
  obtain ⟨hP, hD⟩ := xjoin (W := [(a0, .inr (0, [v11, v12, .ref a1, .ref a5, v13, .ref a2, v14, v15])), (a5, .inl (cT 3, 8, .inr (.inr (.inr (.inr f21))))), (a3, .inl (cT 2, 4096, .inr (.inl f18))), (a4, .inl (cT 0, 4096, .inl (upd (upd (upd (upd f20 0 (vp_nar .byte y1)) 1 (vp_nar .byte y2)) 2 (vp_nar .byte y3)) 3 (vp_nar .byte y4)))), (a2, .inr (2, [.ref a3, .int 1, .int 0])), (a1, .inr (1, [.ref a4, .int 4, .int 0]))]) hP hD [3] [0, 1, 2, 4, 5] 5 rfl rfl (by decide) (by decide) hk1 hFc hP1 hD1
  generalize H1 = H at hP hS ⊢
  rw [hr9]
  refine W.eq (g2 := F0 m 37 ls [.int 0]) rfl ?_
  refine lv_if_eq (tgt := 50) hx hb dB_keepSpare_37 (by decide) (fun _ => ?_) (fun h => ((by revert h; decide : False)).elim)
  refine lv_aload_n hx hb dB_keepSpare_50 rfl (lv_at hl 0 rfl) ?_
  refine va_get (D := D) (ci := 0) (v := .ref a5) (C := "ValueBench") (T := TB) (N := 8) hx hb htx inB hown hK hP 0 rfl rfl 3 (by decide) (htx _ kw_1_98) (fun _ h9 => h9) rfl dB_keepSpare_51 ?_
  refine lv_iload_n hx hb dB_keepSpare_54 rfl (lv_at hl 1 rfl) ?_
  refine va_aldq hx hb hK hP 1 3 rfl rfl h10 dB_keepSpare_55 ?_
  refine W.eq (g2 := F0 m 56 ls [va_rf (f21 x6.toNatClampNeg)]) rfl ?_
  rw [h23]
  refine W.eq (g2 := F0 m 56 ls [.ref b22]) rfl ?_
  refine lv_astore_n (lv' := [(2, .ref b22), (0, .ref a0), (1, .int x6)]) hx hb dB_keepSpare_56 rfl hl (by decide) rfl (fun ls hl => ?_)
  refine lv_aload_n hx hb dB_keepSpare_57 rfl (lv_at hl 1 rfl) ?_
  refine va_get (D := D) (ci := 0) (v := .ref a5) (C := "ValueBench") (T := TB) (N := 8) hx hb htx inB hown hK hP 0 rfl rfl 3 (by decide) (htx _ kw_1_98) (fun _ h9 => h9) rfl dB_keepSpare_58 ?_
  refine lv_iload_n hx hb dB_keepSpare_61 rfl (lv_at hl 2 rfl) ?_
  refine lv_aload_n hx hb dB_keepSpare_62 rfl (lv_at hl 1 rfl) ?_
  refine va_get (D := D) (ci := 0) (v := .ref a2) (C := "ValueBench") (T := TB) (N := 8) hx hb htx inB hown hK hP 0 rfl rfl 5 (by decide) (htx _ kw_1_100) (fun _ h9 => h9) rfl dB_keepSpare_63 ?_
  refine va_astq (r := ("ValueBench$Row", TR, 3)) hx hb hK hP hD hS 1 3 4 2 rfl rfl rfl rfl h10 dB_keepSpare_66 (fun H locs hP hD hS => ?_)
  obtain ⟨hP, hD⟩ : xPD D xcl A [(a0, .inr (0, [v11, v12, .ref a1, .ref a5, v13, .ref a2, v14, v15])), (a5, .inl (cT 3, 8, .inr (.inr (.inr (.inr (va_up f21 x6.toNatClampNeg (some a2))))))), (a3, .inl (cT 2, 4096, .inr (.inl f18))), (a4, .inl (cT 0, 4096, .inl (upd (upd (upd (upd f20 0 (vp_nar .byte y1)) 1 (vp_nar .byte y2)) 2 (vp_nar .byte y3)) 3 (vp_nar .byte y4)))), (a2, .inr (2, [.ref a3, .int 1, .int 0])), (a1, .inr (1, [.ref a4, .int 4, .int 0]))] H := ⟨hP, hD⟩
  refine lv_aload_n hx hb dB_keepSpare_67 rfl (lv_at hl 1 rfl) ?_
  refine lv_aload_n hx hb dB_keepSpare_68 rfl (lv_at hl 0 rfl) ?_
  refine va_put (D := D) (ci := 0) (v := .ref b22) (ty := (.object "ValueBench$Row")) (C := "ValueBench") (T := TB) (N := 8) hx hb htx inB tyB tyB_ok nmB hown hK hP hD hS 0 rfl rfl 5 (by decide) (htx _ kw_1_100) (fun _ h9 => h9) rfl (by decide +kernel) rfl rfl (Nat.le_of_ble_eq_true rfl) dB_keepSpare_69 (fun H locs hP hD hS => ?_)
  obtain ⟨hP, hD⟩ : xPD D xcl A [(a0, .inr (0, [v11, v12, .ref a1, .ref a5, v13, .ref b22, v14, v15])), (a5, .inl (cT 3, 8, .inr (.inr (.inr (.inr (va_up f21 x6.toNatClampNeg (some a2))))))), (a3, .inl (cT 2, 4096, .inr (.inl f18))), (a4, .inl (cT 0, 4096, .inl (upd (upd (upd (upd f20 0 (vp_nar .byte y1)) 1 (vp_nar .byte y2)) 2 (vp_nar .byte y3)) 3 (vp_nar .byte y4)))), (a2, .inr (2, [.ref a3, .int 1, .int 0])), (a1, .inr (1, [.ref a4, .int 4, .int 0]))] H := ⟨hP, hD⟩
  refine lv_aload_n hx hb dB_keepSpare_72 rfl (lv_at hl 1 rfl) ?_
  refine va_get (D := D) (ci := 0) (v := .ref a1) (C := "ValueBench") (T := TB) (N := 8) hx hb htx inB hown hK hP 0 rfl rfl 2 (by decide) (htx _ kw_1_97) (fun _ h9 => h9) rfl dB_keepSpare_73 ?_
  obtain ⟨hPc, hDc, hFc⟩ := xcut (wc := [(a1, .inr (1, [.ref a4, .int 4, .int 0]))]) hP hD hS hA [5] rfl rfl (by decide)
  refine va_calli (va_runV (C := "ValueBench$Text") (As := []) (rest := []) ⟨hx, hb, hml, hown, htx⟩ (cT_size_2 l hl9 D cT aK aV H.size a1 (.ref a4) 4 (.int 0)) ⟨callB_of 0 htx (xw_goodC kw_1_131) rfl rfl rfl (htx _ kw_1_2) (htx _ kw_1_128) ⟨by decide, by decide, by decide +kernel⟩ ⟨Nat.le_of_ble_eq_true rfl, Nat.le_of_ble_eq_true rfl⟩, (htx _ kw_1_129), (htx _ kw_1_130)⟩ ⟨xPre_blind, va_recv hK hP (ci := 1) rfl (q0 := 5) rfl, (fun U hU hW => ⟨rfl, xPre_of hZ hS hFc hPc hDc hK U hU hW⟩)⟩ rfl rfl hl.1 rfl (lv_room (Nat.le_of_ble_eq_true rfl)) dB_keepSpare_76 ⟨Nat.le_of_ble_eq_true rfl, Nat.le_of_ble_eq_true rfl⟩) hS (fun q _ h => hFc q h) hFc (fun r7 u9 t H1 locs ht hvm hr9 hB hz1 hk1 hS => ?_)
  obtain ⟨hP1, hK1, hD1⟩ := hB
  rw [ht] at hP1
  obtain ⟨hP, hD⟩ := xjoin (W := [(a0, .inr (0, [v11, v12, .ref a1, .ref a5, v13, .ref b22, v14, v15])), (a5, .inl (cT 3, 8, .inr (.inr (.inr (.inr (va_up f21 x6.toNatClampNeg (some a2))))))), (a3, .inl (cT 2, 4096, .inr (.inl f18))), (a4, .inl (cT 0, 4096, .inl (upd (upd (upd (upd f20 0 (vp_nar .byte y1)) 1 (vp_nar .byte y2)) 2 (vp_nar .byte y3)) 3 (vp_nar .byte y4)))), (a2, .inr (2, [.ref a3, .int 1, .int 0])), (a1, .inr (1, [.ref a4, .int 4, .int 0]))]) hP hD [5] [0, 1, 2, 3, 4] 5 rfl rfl (by decide) (by decide) hk1 hFc hP1 hD1
  generalize H1 = H at hP hS ⊢
  rw [hr9]
  refine W.eq (g2 := F0 m 79 ls [.int 4]) rfl ?_
  obtain ⟨hP9, hD9⟩ := xsub (wc := [(a0, .inr (0, [v11, v12, .ref a1, .ref a5, v13, .ref b22, v14, v15])), (a1, .inr (1, [.ref a4, .int 4, .int 0])), (a2, .inr (2, [.ref a3, .int 1, .int 0])), (a3, .inl (cT 2, 4096, .inr (.inl f18))), (a4, .inl (cT 0, 4096, .inl (upd (upd (upd (upd f20 0 (vp_nar .byte y1)) 1 (vp_nar .byte y2)) 2 (vp_nar .byte y3)) 3 (vp_nar .byte y4)))), (a5, .inl (cT 3, 8, .inr (.inr (.inr (.inr (va_up f21 x6.toNatClampNeg (some a2)))))))]) hP hD [0, 5, 4, 2, 3, 1] rfl rfl (by decide)
  refine W.widen (k := 0) (n := 0) (Nat.le_of_ble_eq_true rfl) (Nat.le_of_ble_eq_true rfl) ?_
  exact W.iret (v := 4) hx hb hr (fun t ht hW => ⟨⟨4, (), rfl, rfl, y1, y2, y3, y4, by rw [ht]; exact hP9, va_K.moved hW.alike hK, hD9⟩, hS.F ht⟩) hS.2.2 dB_keepSpare_79
set_option maxHeartbeats 400000000 in
set_option maxRecDepth 100000 in
theorem cB_binary_0 (l : Launch) (hl9 : l.stackTraces = false) (D : va_G) (cT : Nat → ClassId) (aK aV : Nat → Nat) (sz : Nat) (a0 : Nat) (a1 : Nat) (a2 : Nat) (a3 : Nat) (a4 : Nat) (a5 : Nat) (a6 : Nat) (a7 : Nat) (a8 : Nat) (a9 : Nat) (x10 : Int32) (x15 : Int32) (x20 : Int32) (v25 : Value) (v26 : Value) (v27 : Value) (v28 : Value) (v29 : Value) (v30 : Value) (v31 : Value) (f32 : Nat → Option Nat) (b35 : Nat) (v37 : Value) (f38 : Nat → Int64) (v40 : Value) (f41 : Nat → Int64) (f43 : Nat → Int64) (v44 : Value) (v45 : Value) (f46 : Nat → Int32) (h11 : ¬ x10 < 0) (h12 : ¬ 7 < x10) (h13 : x10 ≤ 7) (h14 : vp_in x10 8) (h16 : ¬ x15 < 0) (h17 : ¬ 7 < x15) (h18 : x15 ≤ 7) (h19 : vp_in x15 8) (h21 : ¬ x20 < 0) (h22 : ¬ 7 < x20) (h23 : x20 ≤ 7) (h24 : vp_in x20 8) (h33 : f32 x15.toNatClampNeg = some a3) (h34 : f32 x20.toNatClampNeg = some a5) (h36 : f32 x10.toNatClampNeg = some b35) (h39 : f38 0 = 0) (h42 : f41 0 = 0) : xMet l yB_binary wyB_binary 7 0 0 152 D cT aK aV sz [.ref a0, .int x10, .int 0, .int x15, .int x20] [(a0, .inr (0, [v25, v26, .ref a8, .ref a2, v27, .ref a1, v28, v29])), (a1, .inr (2, [.ref a7, v30, v31])), (a2, .inl (cT 3, 8, .inr (.inr (.inr (.inr f32))))), (a3, .inr (2, [.ref a4, .int 1, v37])), (a4, .inl (cT 2, 4096, .inr (.inl f38))), (a5, .inr (2, [.ref a6, .int 1, v40])), (a6, .inl (cT 2, 4096, .inr (.inl f41))), (a7, .inl (cT 2, 4096, .inr (.inl f43))), (a8, .inr (1, [.ref a9, v44, v45])), (a9, .inl (cT 0, 4096, .inl f46))] (fun A => va_Qv (fun _ : Unit => True) (fun _ t => ∃ (y7 : Int32) (y8 : Int32) (y9 : Int32) (y10 : Int32), xB D xcl cT A [(a0, .inr (0, [v25, v26, .ref a8, .ref a2, v27, .ref b35, v28, v29])), (a1, .inr (2, [.ref a7, .int 1, .int 0])), (a2, .inl (cT 3, 8, .inr (.inr (.inr (.inr (va_up f32 x10.toNatClampNeg (some a1))))))), (a3, .inr (2, [.ref a4, .int 1, v37])), (a4, .inl (cT 2, 4096, .inr (.inl f38))), (a5, .inr (2, [.ref a6, .int 1, v40])), (a6, .inl (cT 2, 4096, .inr (.inl f41))), (a7, .inl (cT 2, 4096, .inr (.inl (vp_updL f43 0 0)))), (a8, .inr (1, [.ref a9, .int 4, .int 0])), (a9, .inl (cT 0, 4096, .inl (upd (upd (upd (upd f46 0 (vp_nar .byte y7)) 1 (vp_nar .byte y8)) 2 (vp_nar .byte y9)) 3 (vp_nar .byte y10))))] t) A) := by
  refine Met.ofW (cc := prog_1_method_6_code) (maxL := 5) (ret := none) (by decide) rfl ?_
  intro p e s m args below meth c s₁ B hml hv
  obtain ⟨rfl, hsz, hZ, hP, hK, hD0⟩ := hv
  have hx := B.exec
  have hb := B.bytes
  have hr := B.returns
  have hts := atoms_spec (ws := wyB_binary) B.pre
  have htx := fun w h => hts w (List.mem_cons_of_mem _ h)
  have hown : s.vm.findClass "ValueBench" = some m.cls := findClass_of_methodNamed B.named
  have hlocks := B.notSynchronized
  subst hsz
  have hD := hD0.self (sz := s.heap.size)
  generalize hAe : va_A [(a0, .inr (0, [v25, v26, .ref a8, .ref a2, v27, .ref a1, v28, v29])), (a1, .inr (2, [.ref a7, v30, v31])), (a2, .inl (cT 3, 8, .inr (.inr (.inr (.inr f32))))), (a3, .inr (2, [.ref a4, .int 1, v37])), (a4, .inl (cT 2, 4096, .inr (.inl f38))), (a5, .inr (2, [.ref a6, .int 1, v40])), (a6, .inl (cT 2, 4096, .inr (.inl f41))), (a7, .inl (cT 2, 4096, .inr (.inl f43))), (a8, .inr (1, [.ref a9, v44, v45])), (a9, .inl (cT 0, 4096, .inl f46))] s.heap.size = A at hD hZ ⊢
  have hA : ∀ q : Nat, s.heap.size ≤ q → A q := fun q h => by rw [← hAe]; exact Or.inr h
  have hS : va_S A s.heap s.heap [] := va_S.rf
  have hP : va_P D xcl [(a0, .inr (0, [v25, v26, .ref a8, .ref a2, v27, .ref a1, v28, v29])), (a1, .inr (2, [.ref a7, v30, v31])), (a2, .inl (cT 3, 8, .inr (.inr (.inr (.inr f32))))), (a3, .inr (2, [.ref a4, .int 1, v37])), (a4, .inl (cT 2, 4096, .inr (.inl f38))), (a5, .inr (2, [.ref a6, .int 1, v40])), (a6, .inl (cT 2, 4096, .inr (.inl f41))), (a7, .inl (cT 2, 4096, .inr (.inl f43))), (a8, .inr (1, [.ref a9, v44, v45])), (a9, .inl (cT 0, 4096, .inl f46))] s.heap := hP
  have hl := lv_entry ([.ref a0, .int x10, .int 0, .int x15, .int x20]) (n := 5) (Nat.le_of_ble_eq_true rfl)
  rw [lg_entry_eq]
  generalize (lg_sl ([.ref a0, .int x10, .int 0, .int x15, .int x20]) ++ List.replicate (5 - (lg_sl ([.ref a0, .int x10, .int 0, .int x15, .int x20])).length) Slot.unset).toArray = ls at hl ⊢
  have hl : lv_has ls 5 [(0, .ref a0), (1, .int x10), (2, .int 0), (3, .int x15), (4, .int x20)] := hl
  refine lv_iload_n hx hb dB_binary_0 rfl (lv_at hl 1 rfl) ?_
  obtain ⟨hPc, hDc, hFc⟩ := xcut (wc := []) hP hD hS hA [] rfl rfl (by decide)
  refine va_calli (va_runS (As := [.int x10]) (rest := []) ⟨hx, hb, hml, hown, htx⟩ (cB_isRegister_0 l hl9 D cT aK aV s.heap.size x10 h11 h12 h13 h14) ⟨callB_of 1 htx (xw_goodC kw_2_18) rfl rfl rfl (htx _ kw_1_1) (htx _ kw_2_16) ⟨by decide, by decide, by decide +kernel⟩ ⟨Nat.le_of_ble_eq_true rfl, Nat.le_of_ble_eq_true rfl⟩, htx _ kw_2_17⟩ ⟨xPre_blind, (fun U hU hW => ⟨rfl, xPre_of hZ hS hFc hPc hDc hK U hU hW⟩)⟩ rfl rfl hl.1 rfl (lv_room (Nat.le_of_ble_eq_true rfl)) dB_binary_1 ⟨Nat.le_of_ble_eq_true rfl, Nat.le_of_ble_eq_true rfl⟩) hS (fun q _ h => hFc q h) hFc (fun r1 u9 t H1 locs ht hvm hr9 hB hz1 hk1 hS => ?_)
  obtain ⟨hP1, hK1, hD1⟩ := hB
  rw [ht] at hP1
  obtain ⟨hP, hD⟩ := xjoin (W := [(a0, .inr (0, [v25, v26, .ref a8, .ref a2, v27, .ref a1, v28, v29])), (a1, .inr (2, [.ref a7, v30, v31])), (a2, .inl (cT 3, 8, .inr (.inr (.inr (.inr f32))))), (a3, .inr (2, [.ref a4, .int 1, v37])), (a4, .inl (cT 2, 4096, .inr (.inl f38))), (a5, .inr (2, [.ref a6, .int 1, v40])), (a6, .inl (cT 2, 4096, .inr (.inl f41))), (a7, .inl (cT 2, 4096, .inr (.inl f43))), (a8, .inr (1, [.ref a9, v44, v45])), (a9, .inl (cT 0, 4096, .inl f46))]) hP hD [] [0, 1, 2, 3, 4, 5, 6, 7, 8, 9] 10 rfl rfl (by decide) (by decide) hk1 hFc hP1 hD1
  generalize H1 = H at hP hS ⊢
  rw [hr9]
  refine W.eq (g2 := F0 m 4 ls [.int 1]) rfl ?_
  refine lv_if_eq (tgt := 34) hx hb dB_binary_4 (by decide) (fun h => ((by revert h; decide : False)).elim) (fun _ => ?_)
  refine lv_iload_n hx hb dB_binary_7 rfl (lv_at hl 2 rfl) ?_
  refine lv_iconst (v := 4) hx hb dB_binary_8 (by decide) ?_
  obtain ⟨hPc, hDc, hFc⟩ := xcut (wc := []) hP hD hS hA [] rfl rfl (by decide)
  refine va_calli (va_runS (As := [.int 0, .int 4]) (rest := []) ⟨hx, hb, hml, hown, htx⟩ (cB_isWithin_24 l hl9 D cT aK aV H.size) ⟨callB_of 2 htx (xw_goodC kw_1_218) rfl rfl rfl (htx _ kw_1_1) (htx _ kw_1_216) ⟨by decide, by decide, by decide +kernel⟩ ⟨Nat.le_of_ble_eq_true rfl, Nat.le_of_ble_eq_true rfl⟩, htx _ kw_1_217⟩ ⟨xPre_blind, (fun U hU hW => ⟨rfl, xPre_of hZ hS hFc hPc hDc hK U hU hW⟩)⟩ rfl rfl hl.1 rfl (lv_room (Nat.le_of_ble_eq_true rfl)) dB_binary_9 ⟨Nat.le_of_ble_eq_true rfl, Nat.le_of_ble_eq_true rfl⟩) hS (fun q _ h => hFc q h) hFc (fun r2 u9 t H1 locs ht hvm hr9 hB hz1 hk1 hS => ?_)
  obtain ⟨hP1, hK1, hD1⟩ := hB
  rw [ht] at hP1
  obtain ⟨hP, hD⟩ := xjoin (W := [(a0, .inr (0, [v25, v26, .ref a8, .ref a2, v27, .ref a1, v28, v29])), (a1, .inr (2, [.ref a7, v30, v31])), (a2, .inl (cT 3, 8, .inr (.inr (.inr (.inr f32))))), (a3, .inr (2, [.ref a4, .int 1, v37])), (a4, .inl (cT 2, 4096, .inr (.inl f38))), (a5, .inr (2, [.ref a6, .int 1, v40])), (a6, .inl (cT 2, 4096, .inr (.inl f41))), (a7, .inl (cT 2, 4096, .inr (.inl f43))), (a8, .inr (1, [.ref a9, v44, v45])), (a9, .inl (cT 0, 4096, .inl f46))]) hP hD [] [0, 1, 2, 3, 4, 5, 6, 7, 8, 9] 10 rfl rfl (by decide) (by decide) hk1 hFc hP1 hD1
  generalize H1 = H at hP hS ⊢
  rw [hr9]
  refine W.eq (g2 := F0 m 12 ls [.int 1]) rfl ?_
  refine lv_if_eq (tgt := 34) hx hb dB_binary_12 (by decide) (fun h => ((by revert h; decide : False)).elim) (fun _ => ?_)
  refine lv_iload_n hx hb dB_binary_15 rfl (lv_at hl 3 rfl) ?_
  obtain ⟨hPc, hDc, hFc⟩ := xcut (wc := []) hP hD hS hA [] rfl rfl (by decide)
  refine va_calli (va_runS (As := [.int x15]) (rest := []) ⟨hx, hb, hml, hown, htx⟩ (cB_isRegister_0 l hl9 D cT aK aV H.size x15 h16 h17 h18 h19) ⟨callB_of 1 htx (xw_goodC kw_2_18) rfl rfl rfl (htx _ kw_1_1) (htx _ kw_2_16) ⟨by decide, by decide, by decide +kernel⟩ ⟨Nat.le_of_ble_eq_true rfl, Nat.le_of_ble_eq_true rfl⟩, htx _ kw_2_17⟩ ⟨xPre_blind, (fun U hU hW => ⟨rfl, xPre_of hZ hS hFc hPc hDc hK U hU hW⟩)⟩ rfl rfl hl.1 rfl (lv_room (Nat.le_of_ble_eq_true rfl)) dB_binary_16 ⟨Nat.le_of_ble_eq_true rfl, Nat.le_of_ble_eq_true rfl⟩) hS (fun q _ h => hFc q h) hFc (fun r3 u9 t H1 locs ht hvm hr9 hB hz1 hk1 hS => ?_)
  obtain ⟨hP1, hK1, hD1⟩ := hB
  rw [ht] at hP1
  obtain ⟨hP, hD⟩ := xjoin (W := [(a0, .inr (0, [v25, v26, .ref a8, .ref a2, v27, .ref a1, v28, v29])), (a1, .inr (2, [.ref a7, v30, v31])), (a2, .inl (cT 3, 8, .inr (.inr (.inr (.inr f32))))), (a3, .inr (2, [.ref a4, .int 1, v37])), (a4, .inl (cT 2, 4096, .inr (.inl f38))), (a5, .inr (2, [.ref a6, .int 1, v40])), (a6, .inl (cT 2, 4096, .inr (.inl f41))), (a7, .inl (cT 2, 4096, .inr (.inl f43))), (a8, .inr (1, [.ref a9, v44, v45])), (a9, .inl (cT 0, 4096, .inl f46))]) hP hD [] [0, 1, 2, 3, 4, 5, 6, 7, 8, 9] 10 rfl rfl (by decide) (by decide) hk1 hFc hP1 hD1
  generalize H1 = H at hP hS ⊢
  rw [hr9]
  refine W.eq (g2 := F0 m 19 ls [.int 1]) rfl ?_
  refine lv_if_eq (tgt := 34) hx hb dB_binary_19 (by decide) (fun h => ((by revert h; decide : False)).elim) (fun _ => ?_)
  refine lv_iload hx hb dB_binary_22 (lv_at hl 4 rfl) ?_
  obtain ⟨hPc, hDc, hFc⟩ := xcut (wc := []) hP hD hS hA [] rfl rfl (by decide)
  refine va_calli (va_runS (As := [.int x20]) (rest := []) ⟨hx, hb, hml, hown, htx⟩ (cB_isRegister_0 l hl9 D cT aK aV H.size x20 h21 h22 h23 h24) ⟨callB_of 1 htx (xw_goodC kw_2_18) rfl rfl rfl (htx _ kw_1_1) (htx _ kw_2_16) ⟨by decide, by decide, by decide +kernel⟩ ⟨Nat.le_of_ble_eq_true rfl, Nat.le_of_ble_eq_true rfl⟩, htx _ kw_2_17⟩ ⟨xPre_blind, (fun U hU hW => ⟨rfl, xPre_of hZ hS hFc hPc hDc hK U hU hW⟩)⟩ rfl rfl hl.1 rfl (lv_room (Nat.le_of_ble_eq_true rfl)) dB_binary_24 ⟨Nat.le_of_ble_eq_true rfl, Nat.le_of_ble_eq_true rfl⟩) hS (fun q _ h => hFc q h) hFc (fun r4 u9 t H1 locs ht hvm hr9 hB hz1 hk1 hS => ?_)
  obtain ⟨hP1, hK1, hD1⟩ := hB
  rw [ht] at hP1
  obtain ⟨hP, hD⟩ := xjoin (W := [(a0, .inr (0, [v25, v26, .ref a8, .ref a2, v27, .ref a1, v28, v29])), (a1, .inr (2, [.ref a7, v30, v31])), (a2, .inl (cT 3, 8, .inr (.inr (.inr (.inr f32))))), (a3, .inr (2, [.ref a4, .int 1, v37])), (a4, .inl (cT 2, 4096, .inr (.inl f38))), (a5, .inr (2, [.ref a6, .int 1, v40])), (a6, .inl (cT 2, 4096, .inr (.inl f41))), (a7, .inl (cT 2, 4096, .inr (.inl f43))), (a8, .inr (1, [.ref a9, v44, v45])), (a9, .inl (cT 0, 4096, .inl f46))]) hP hD [] [0, 1, 2, 3, 4, 5, 6, 7, 8, 9] 10 rfl rfl (by decide) (by decide) hk1 hFc hP1 hD1
  generalize H1 = H at hP hS ⊢
  rw [hr9]
  refine W.eq (g2 := F0 m 27 ls [.int 1]) rfl ?_
  refine lv_if_eq (tgt := 34) hx hb dB_binary_27 (by decide) (fun h => ((by revert h; decide : False)).elim) (fun _ => ?_)
  refine lv_iconst (v := 1) hx hb dB_binary_30 (by decide) ?_
  refine lv_goto (tgt := 35) hx hb dB_binary_31 (by decide) ?_
  obtain ⟨hPc, hDc, hFc⟩ := xcut (wc := []) hP hD hS hA [] rfl rfl (by decide)
  refine va_callv (va_runS (As := [.int 1]) (rest := []) ⟨hx, hb, hml, hown, htx⟩ (cB_demand_0 l hl9 D cT aK aV H.size) ⟨callB_of 1 htx (xw_goodC kw_1_221) rfl rfl rfl (htx _ kw_1_1) (htx _ kw_1_219) ⟨by decide, by decide, by decide +kernel⟩ ⟨Nat.le_of_ble_eq_true rfl, Nat.le_of_ble_eq_true rfl⟩, htx _ kw_1_220⟩ ⟨xPre_blind, (fun U hU hW => ⟨rfl, xPre_of hZ hS hFc hPc hDc hK U hU hW⟩)⟩ rfl rfl hl.1 rfl (lv_room (Nat.le_of_ble_eq_true rfl)) dB_binary_35 ⟨Nat.le_of_ble_eq_true rfl, Nat.le_of_ble_eq_true rfl⟩) hS (fun q _ h => hFc q h) hFc (fun u9 t H1 locs ht hvm hr9 hB hz1 hk1 hS => ?_)
  obtain ⟨hP1, hK1, hD1⟩ := hB
  rw [ht] at hP1
  obtain ⟨hP, hD⟩ := xjoin (W := [(a0, .inr (0, [v25, v26, .ref a8, .ref a2, v27, .ref a1, v28, v29])), (a1, .inr (2, [.ref a7, v30, v31])), (a2, .inl (cT 3, 8, .inr (.inr (.inr (.inr f32))))), (a3, .inr (2, [.ref a4, .int 1, v37])), (a4, .inl (cT 2, 4096, .inr (.inl f38))), (a5, .inr (2, [.ref a6, .int 1, v40])), (a6, .inl (cT 2, 4096, .inr (.inl f41))), (a7, .inl (cT 2, 4096, .inr (.inl f43))), (a8, .inr (1, [.ref a9, v44, v45])), (a9, .inl (cT 0, 4096, .inl f46))]) hP hD [] [0, 1, 2, 3, 4, 5, 6, 7, 8, 9] 10 rfl rfl (by decide) (by decide) hk1 hFc hP1 hD1
  generalize H1 = H at hP hS ⊢
  refine lv_aload_n hx hb dB_binary_38 rfl (lv_at hl 0 rfl) ?_
  refine va_get (D := D) (ci := 0) (v := .ref a1) (C := "ValueBench") (T := TB) (N := 8) hx hb htx inB hown hK hP 0 rfl rfl 5 (by decide) (htx _ kw_1_100) (fun _ h9 => h9) rfl dB_binary_39 ?_
  obtain ⟨hPc, hDc, hFc⟩ := xcut (wc := [(a1, .inr (2, [.ref a7, v30, v31]))]) hP hD hS hA [1] rfl rfl (by decide)
  refine va_callv (va_runV (C := "ValueBench$Row") (As := []) (rest := []) ⟨hx, hb, hml, hown, htx⟩ (cR_clear_0 l hl9 D cT aK aV H.size a1 (.ref a7) v30 v31) ⟨callB_of 0 htx (xw_goodC kw_2_22) rfl rfl rfl (htx _ kw_1_4) (htx _ kw_2_19) ⟨by decide, by decide, by decide +kernel⟩ ⟨Nat.le_of_ble_eq_true rfl, Nat.le_of_ble_eq_true rfl⟩, (htx _ kw_2_20), (htx _ kw_2_21)⟩ ⟨xPre_blind, va_recv hK hP (ci := 2) rfl (q0 := 1) rfl, (fun U hU hW => ⟨rfl, xPre_of hZ hS hFc hPc hDc hK U hU hW⟩)⟩ rfl rfl hl.1 rfl (lv_room (Nat.le_of_ble_eq_true rfl)) dB_binary_42 ⟨Nat.le_of_ble_eq_true rfl, Nat.le_of_ble_eq_true rfl⟩) hS (fun q _ h => hFc q h) hFc (fun u9 t H1 locs ht hvm hr9 hB hz1 hk1 hS => ?_)
  obtain ⟨hP1, hK1, hD1⟩ := hB
  rw [ht] at hP1
  obtain ⟨hP, hD⟩ := xjoin (W := [(a0, .inr (0, [v25, v26, .ref a8, .ref a2, v27, .ref a1, v28, v29])), (a2, .inl (cT 3, 8, .inr (.inr (.inr (.inr f32))))), (a3, .inr (2, [.ref a4, .int 1, v37])), (a4, .inl (cT 2, 4096, .inr (.inl f38))), (a5, .inr (2, [.ref a6, .int 1, v40])), (a6, .inl (cT 2, 4096, .inr (.inl f41))), (a7, .inl (cT 2, 4096, .inr (.inl f43))), (a8, .inr (1, [.ref a9, v44, v45])), (a9, .inl (cT 0, 4096, .inl f46)), (a1, .inr (2, [.ref a7, .int 0, .int 0]))]) hP hD [1] [0, 2, 3, 4, 5, 6, 7, 8, 9] 9 rfl rfl (by decide) (by decide) hk1 hFc hP1 hD1
  generalize H1 = H at hP hS ⊢
  refine lv_aload_n hx hb dB_binary_45 rfl (lv_at hl 0 rfl) ?_
  refine lv_iload_n hx hb dB_binary_46 rfl (lv_at hl 2 rfl) ?_
  refine lv_aload_n hx hb dB_binary_47 rfl (lv_at hl 0 rfl) ?_
  refine va_get (D := D) (ci := 0) (v := .ref a2) (C := "ValueBench") (T := TB) (N := 8) hx hb htx inB hown hK hP 0 rfl rfl 3 (by decide) (htx _ kw_1_98) (fun _ h9 => h9) rfl dB_binary_48 ?_
  refine lv_iload_n hx hb dB_binary_51 rfl (lv_at hl 3 rfl) ?_
  refine va_aldq hx hb hK hP 1 3 rfl rfl h19 dB_binary_52 ?_
  refine W.eq (g2 := F0 m 53 ls [va_rf (f32 x15.toNatClampNeg), .int 0, .ref a0]) rfl ?_
  rw [h33]
  refine W.eq (g2 := F0 m 53 ls [.ref a3, .int 0, .ref a0]) rfl ?_
  refine lv_aload_n hx hb dB_binary_53 rfl (lv_at hl 0 rfl) ?_
  refine va_get (D := D) (ci := 0) (v := .ref a2) (C := "ValueBench") (T := TB) (N := 8) hx hb htx inB hown hK hP 0 rfl rfl 3 (by decide) (htx _ kw_1_98) (fun _ h9 => h9) rfl dB_binary_54 ?_
  refine lv_iload hx hb dB_binary_57 (lv_at hl 4 rfl) ?_
  refine va_aldq hx hb hK hP 1 3 rfl rfl h24 dB_binary_59 ?_
  refine W.eq (g2 := F0 m 60 ls [va_rf (f32 x20.toNatClampNeg), .ref a3, .int 0, .ref a0]) rfl ?_
  rw [h34]
  refine W.eq (g2 := F0 m 60 ls [.ref a5, .ref a3, .int 0, .ref a0]) rfl ?_
  refine lv_aload_n hx hb dB_binary_60 rfl (lv_at hl 0 rfl) ?_
  refine va_get (D := D) (ci := 0) (v := .ref a1) (C := "ValueBench") (T := TB) (N := 8) hx hb htx inB hown hK hP 0 rfl rfl 5 (by decide) (htx _ kw_1_100) (fun _ h9 => h9) rfl dB_binary_61 ?_
  obtain ⟨hPc, hDc, hFc⟩ := xcut (wc := [(a3, .inr (2, [.ref a4, .int 1, v37])), (a4, .inl (cT 2, 4096, .inr (.inl f38))), (a1, .inr (2, [.ref a7, .int 0, .int 0])), (a5, .inr (2, [.ref a6, .int 1, v40])), (a6, .inl (cT 2, 4096, .inr (.inl f41))), (a7, .inl (cT 2, 4096, .inr (.inl f43)))]) hP hD hS hA [2, 3, 9, 4, 5, 6] rfl rfl (by decide)
  refine va_calli (va_runS (As := [.int 0, .ref a3, .ref a5, .ref a1]) (rest := [.ref a0]) ⟨hx, hb, hml, hown, htx⟩ (cA_apply_0 l hl9 D cT aK aV H.size a3 a4 a1 a5 a6 a7 v37 f38 v40 f41 f43 (by first | rfl | exact h33 | exact h34 | exact h36 | exact h39 | exact h42) (by first | rfl | exact h33 | exact h34 | exact h36 | exact h39 | exact h42)) ⟨callB_of 4 htx (xw_goodC kw_3_105) rfl rfl rfl (htx _ kw_1_21) (htx _ kw_3_103) ⟨by decide, by decide, by decide +kernel⟩ ⟨Nat.le_of_ble_eq_true rfl, Nat.le_of_ble_eq_true rfl⟩, htx _ kw_3_104⟩ ⟨xPre_blind, (fun U hU hW => ⟨rfl, xPre_of hZ hS hFc hPc hDc hK U hU hW⟩)⟩ rfl rfl hl.1 rfl (lv_room (Nat.le_of_ble_eq_true rfl)) dB_binary_64 ⟨Nat.le_of_ble_eq_true rfl, Nat.le_of_ble_eq_true rfl⟩) hS (fun q _ h => hFc q h) hFc (fun r5 u9 t H1 locs ht hvm hr9 hB hz1 hk1 hS => ?_)
  obtain ⟨hP1, hK1, hD1⟩ := hB
  rw [ht] at hP1
  obtain ⟨hP, hD⟩ := xjoin (W := [(a0, .inr (0, [v25, v26, .ref a8, .ref a2, v27, .ref a1, v28, v29])), (a2, .inl (cT 3, 8, .inr (.inr (.inr (.inr f32))))), (a8, .inr (1, [.ref a9, v44, v45])), (a9, .inl (cT 0, 4096, .inl f46)), (a3, .inr (2, [.ref a4, .int 1, v37])), (a4, .inl (cT 2, 4096, .inr (.inl f38))), (a1, .inr (2, [.ref a7, .int 1, .int 0])), (a5, .inr (2, [.ref a6, .int 1, v40])), (a6, .inl (cT 2, 4096, .inr (.inl f41))), (a7, .inl (cT 2, 4096, .inr (.inl (vp_updL f43 0 0))))]) hP hD [2, 3, 9, 4, 5, 6] [0, 1, 7, 8] 4 rfl rfl (by decide) (by decide) hk1 hFc hP1 hD1
  generalize H1 = H at hP hS ⊢
  rw [hr9]
  refine W.eq (g2 := F0 m 67 ls [.int 0, .ref a0]) rfl ?_
  obtain ⟨hPc, hDc, hFc⟩ := xcut (wc := []) hP hD hS hA [] rfl rfl (by decide)
  refine va_callv (va_runV (C := "ValueBench") (As := [.int 0]) (rest := []) ⟨hx, hb, hml, hown, htx⟩ (cB_demandDone_0 l hl9 D cT aK aV H.size a0) ⟨callB_of 1 htx (xw_goodC kw_3_222) rfl rfl rfl (htx _ kw_1_1) (htx _ kw_3_219) ⟨by decide, by decide, by decide +kernel⟩ ⟨Nat.le_of_ble_eq_true rfl, Nat.le_of_ble_eq_true rfl⟩, (htx _ kw_3_221), (htx _ kp_B_demandDone)⟩ ⟨xPre_blind, va_recv hK hP (ci := 0) rfl (q0 := 0) rfl, (fun U hU hW => ⟨rfl, xPre_of hZ hS hFc hPc hDc hK U hU hW⟩)⟩ rfl rfl hl.1 rfl (lv_room (Nat.le_of_ble_eq_true rfl)) dB_binary_67 ⟨Nat.le_of_ble_eq_true rfl, Nat.le_of_ble_eq_true rfl⟩) hS (fun q _ h => hFc q h) hFc (fun u9 t H1 locs ht hvm hr9 hB hz1 hk1 hS => ?_)
  obtain ⟨hP1, hK1, hD1⟩ := hB
  rw [ht] at hP1
  obtain ⟨hP, hD⟩ := xjoin (W := [(a0, .inr (0, [v25, v26, .ref a8, .ref a2, v27, .ref a1, v28, v29])), (a2, .inl (cT 3, 8, .inr (.inr (.inr (.inr f32))))), (a8, .inr (1, [.ref a9, v44, v45])), (a9, .inl (cT 0, 4096, .inl f46)), (a3, .inr (2, [.ref a4, .int 1, v37])), (a4, .inl (cT 2, 4096, .inr (.inl f38))), (a1, .inr (2, [.ref a7, .int 1, .int 0])), (a5, .inr (2, [.ref a6, .int 1, v40])), (a6, .inl (cT 2, 4096, .inr (.inl f41))), (a7, .inl (cT 2, 4096, .inr (.inl (vp_updL f43 0 0))))]) hP hD [] [0, 1, 2, 3, 4, 5, 6, 7, 8, 9] 10 rfl rfl (by decide) (by decide) hk1 hFc hP1 hD1
  generalize H1 = H at hP hS ⊢
  refine lv_aload_n hx hb dB_binary_70 rfl (lv_at hl 0 rfl) ?_
  refine lv_iload_n hx hb dB_binary_71 rfl (lv_at hl 1 rfl) ?_
  obtain ⟨hPc, hDc, hFc⟩ := xcut (wc := [(a0, .inr (0, [v25, v26, .ref a8, .ref a2, v27, .ref a1, v28, v29])), (a8, .inr (1, [.ref a9, v44, v45])), (a1, .inr (2, [.ref a7, .int 1, .int 0])), (a7, .inl (cT 2, 4096, .inr (.inl (vp_updL f43 0 0)))), (a9, .inl (cT 0, 4096, .inl f46)), (a2, .inl (cT 3, 8, .inr (.inr (.inr (.inr f32)))))]) hP hD hS hA [0, 2, 6, 9, 3, 1] rfl rfl (by decide)
  refine va_calli (va_runV (C := "ValueBench") (As := [.int x10]) (rest := []) ⟨hx, hb, hml, hown, htx⟩ (cB_keepSpare_4 l hl9 D cT aK aV H.size a0 a8 a1 a7 a9 a2 x10 v25 v26 v27 v28 v29 v44 v45 (vp_updL f43 0 0) f46 f32 b35 h11 h12 h13 h14 (by first | rfl | exact h33 | exact h34 | exact h36 | exact h39 | exact h42) (by first | rfl | exact h33 | exact h34 | exact h36 | exact h39 | exact h42)) ⟨callB_of 1 htx (xw_goodC kw_3_17) rfl rfl rfl (htx _ kw_1_1) (htx _ kw_3_14) ⟨by decide, by decide, by decide +kernel⟩ ⟨Nat.le_of_ble_eq_true rfl, Nat.le_of_ble_eq_true rfl⟩, (htx _ kw_3_16), (htx _ kp_B_keepSpare)⟩ ⟨xPre_blind, va_recv hK hP (ci := 0) rfl (q0 := 0) rfl, (fun U hU hW => ⟨rfl, xPre_of hZ hS hFc hPc hDc hK U hU hW⟩)⟩ rfl rfl hl.1 rfl (lv_room (Nat.le_of_ble_eq_true rfl)) dB_binary_72 ⟨Nat.le_of_ble_eq_true rfl, Nat.le_of_ble_eq_true rfl⟩) hS (fun q _ h => hFc q h) hFc (fun r6 u9 t H1 locs ht hvm hr9 hB hz1 hk1 hS => ?_)
  obtain ⟨y7, y8, y9, y10, hP1, hK1, hD1⟩ := hB
  rw [ht] at hP1
  obtain ⟨hP, hD⟩ := xjoin (W := [(a3, .inr (2, [.ref a4, .int 1, v37])), (a4, .inl (cT 2, 4096, .inr (.inl f38))), (a5, .inr (2, [.ref a6, .int 1, v40])), (a6, .inl (cT 2, 4096, .inr (.inl f41))), (a0, .inr (0, [v25, v26, .ref a8, .ref a2, v27, .ref b35, v28, v29])), (a8, .inr (1, [.ref a9, .int 4, .int 0])), (a1, .inr (2, [.ref a7, .int 1, .int 0])), (a7, .inl (cT 2, 4096, .inr (.inl (vp_updL f43 0 0)))), (a9, .inl (cT 0, 4096, .inl (upd (upd (upd (upd f46 0 (vp_nar .byte y7)) 1 (vp_nar .byte y8)) 2 (vp_nar .byte y9)) 3 (vp_nar .byte y10)))), (a2, .inl (cT 3, 8, .inr (.inr (.inr (.inr (va_up f32 x10.toNatClampNeg (some a1)))))))]) hP hD [0, 2, 6, 9, 3, 1] [4, 5, 7, 8] 4 rfl rfl (by decide) (by decide) hk1 hFc hP1 hD1
  generalize H1 = H at hP hS ⊢
  rw [hr9]
  refine W.eq (g2 := F0 m 75 ls [.int 4]) rfl ?_
  refine lv_pop hx hb dB_binary_75 rfl ?_
  obtain ⟨hP9, hD9⟩ := xsub (wc := [(a0, .inr (0, [v25, v26, .ref a8, .ref a2, v27, .ref b35, v28, v29])), (a1, .inr (2, [.ref a7, .int 1, .int 0])), (a2, .inl (cT 3, 8, .inr (.inr (.inr (.inr (va_up f32 x10.toNatClampNeg (some a1))))))), (a3, .inr (2, [.ref a4, .int 1, v37])), (a4, .inl (cT 2, 4096, .inr (.inl f38))), (a5, .inr (2, [.ref a6, .int 1, v40])), (a6, .inl (cT 2, 4096, .inr (.inl f41))), (a7, .inl (cT 2, 4096, .inr (.inl (vp_updL f43 0 0)))), (a8, .inr (1, [.ref a9, .int 4, .int 0])), (a9, .inl (cT 0, 4096, .inl (upd (upd (upd (upd f46 0 (vp_nar .byte y7)) 1 (vp_nar .byte y8)) 2 (vp_nar .byte y9)) 3 (vp_nar .byte y10))))]) hP hD [4, 6, 9, 0, 1, 2, 3, 7, 5, 8] rfl rfl (by decide)
  refine W.widen (k := 0) (n := 0) (Nat.le_of_ble_eq_true rfl) (Nat.le_of_ble_eq_true rfl) ?_
  exact W.vret hx hb hr (fun t ht hW => ⟨⟨(), rfl, trivial, y7, y8, y9, y10, by rw [ht]; exact hP9, va_K.moved hW.alike hK, hD9⟩, hS.F ht⟩) hS.2.2 dB_binary_76
set_option maxHeartbeats 400000000 in
set_option maxRecDepth 100000 in
theorem cL_binary_0 (l : Launch) (hl9 : l.stackTraces = false) (D : va_G) (cT : Nat → ClassId) (aK aV : Nat → Nat) (sz : Nat) (a0 : Nat) (a1 : Nat) (a2 : Nat) (a3 : Nat) (a4 : Nat) (a5 : Nat) (a6 : Nat) (a7 : Nat) (a8 : Nat) (a9 : Nat) (x10 : Int32) (x15 : Int32) (x20 : Int32) (v25 : Value) (v26 : Value) (v27 : Value) (v28 : Value) (v29 : Value) (v30 : Value) (v31 : Value) (f32 : Nat → Option Nat) (b35 : Nat) (v37 : Value) (f38 : Nat → Int64) (v40 : Value) (f41 : Nat → Int64) (f43 : Nat → Int64) (v44 : Value) (v45 : Value) (f46 : Nat → Int32) (h11 : ¬ x10 < 0) (h12 : ¬ 7 < x10) (h13 : x10 ≤ 7) (h14 : vp_in x10 8) (h16 : ¬ x15 < 0) (h17 : ¬ 7 < x15) (h18 : x15 ≤ 7) (h19 : vp_in x15 8) (h21 : ¬ x20 < 0) (h22 : ¬ 7 < x20) (h23 : x20 ≤ 7) (h24 : vp_in x20 8) (h33 : f32 x15.toNatClampNeg = some a3) (h34 : f32 x20.toNatClampNeg = some a5) (h36 : f32 x10.toNatClampNeg = some b35) (h39 : f38 0 = 0) (h42 : f41 0 = 0) : xMet l yL_binary wyL_binary 8 0 0 176 D cT aK aV sz [.ref a0, .int x10, .int 0, .int x15, .int x20] [(a0, .inr (0, [v25, v26, .ref a8, .ref a2, v27, .ref a1, v28, v29])), (a1, .inr (2, [.ref a7, v30, v31])), (a2, .inl (cT 3, 8, .inr (.inr (.inr (.inr f32))))), (a3, .inr (2, [.ref a4, .int 1, v37])), (a4, .inl (cT 2, 4096, .inr (.inl f38))), (a5, .inr (2, [.ref a6, .int 1, v40])), (a6, .inl (cT 2, 4096, .inr (.inl f41))), (a7, .inl (cT 2, 4096, .inr (.inl f43))), (a8, .inr (1, [.ref a9, v44, v45])), (a9, .inl (cT 0, 4096, .inl f46))] (fun A => va_Qi (fun (r : Int32) (_ : Unit) => r = 0) (fun _ t => ∃ (y1 : Int32) (y2 : Int32) (y3 : Int32) (y4 : Int32), xB D xcl cT A [(a0, .inr (0, [v25, v26, .ref a8, .ref a2, v27, .ref a1, v28, v29])), (a1, .inr (2, [.ref a7, .int 1, .int 0])), (a2, .inl (cT 3, 8, .inr (.inr (.inr (.inr (va_up f32 x10.toNatClampNeg (some a1))))))), (a3, .inr (2, [.ref a4, .int 1, v37])), (a4, .inl (cT 2, 4096, .inr (.inl f38))), (a5, .inr (2, [.ref a6, .int 1, v40])), (a6, .inl (cT 2, 4096, .inr (.inl f41))), (a7, .inl (cT 2, 4096, .inr (.inl (vp_updL f43 0 0)))), (a8, .inr (1, [.ref a9, .int 4, .int 0])), (a9, .inl (cT 0, 4096, .inl (upd (upd (upd (upd f46 0 (vp_nar .byte y1)) 1 (vp_nar .byte y2)) 2 (vp_nar .byte y3)) 3 (vp_nar .byte y4))))] t) A) := by
  refine va_MetW (cc := method_7_code) (maxL := 6) (ret := (some .int)) (hh := [(0, 9, 12, 19), (0, 9, 16, 33), (0, 9, 20, 13)]) (by decide) rfl ?_
  intro p e s m args below meth c s₁ B hml hv
  obtain ⟨rfl, hsz, hZ, hP, hK, hD0⟩ := hv
  have hx := B.exec
  have hb := B.bytes
  have hr := B.returns
  have hts := atoms_spec (ws := wyL_binary) B.pre
  have htx := fun w h => hts w (List.mem_cons_of_mem _ h)
  have hown : s.vm.findClass "ValueBenchLaw" = some m.cls := findClass_of_methodNamed B.named
  have hlocks := B.notSynchronized
  subst hsz
  have hD := hD0.self (sz := s.heap.size)
  generalize hAe : va_A [(a0, .inr (0, [v25, v26, .ref a8, .ref a2, v27, .ref a1, v28, v29])), (a1, .inr (2, [.ref a7, v30, v31])), (a2, .inl (cT 3, 8, .inr (.inr (.inr (.inr f32))))), (a3, .inr (2, [.ref a4, .int 1, v37])), (a4, .inl (cT 2, 4096, .inr (.inl f38))), (a5, .inr (2, [.ref a6, .int 1, v40])), (a6, .inl (cT 2, 4096, .inr (.inl f41))), (a7, .inl (cT 2, 4096, .inr (.inl f43))), (a8, .inr (1, [.ref a9, v44, v45])), (a9, .inl (cT 0, 4096, .inl f46))] s.heap.size = A at hD hZ ⊢
  have hA : ∀ q : Nat, s.heap.size ≤ q → A q := fun q h => by rw [← hAe]; exact Or.inr h
  have hS : va_S A s.heap s.heap [] := va_S.rf
  have hP : va_P D xcl [(a0, .inr (0, [v25, v26, .ref a8, .ref a2, v27, .ref a1, v28, v29])), (a1, .inr (2, [.ref a7, v30, v31])), (a2, .inl (cT 3, 8, .inr (.inr (.inr (.inr f32))))), (a3, .inr (2, [.ref a4, .int 1, v37])), (a4, .inl (cT 2, 4096, .inr (.inl f38))), (a5, .inr (2, [.ref a6, .int 1, v40])), (a6, .inl (cT 2, 4096, .inr (.inl f41))), (a7, .inl (cT 2, 4096, .inr (.inl f43))), (a8, .inr (1, [.ref a9, v44, v45])), (a9, .inl (cT 0, 4096, .inl f46))] s.heap := hP
  have hl := lv_entry ([.ref a0, .int x10, .int 0, .int x15, .int x20]) (n := 6) (Nat.le_of_ble_eq_true rfl)
  rw [lg_entry_eq]
  generalize (lg_sl ([.ref a0, .int x10, .int 0, .int x15, .int x20]) ++ List.replicate (6 - (lg_sl ([.ref a0, .int x10, .int 0, .int x15, .int x20])).length) Slot.unset).toArray = ls at hl ⊢
  have hl : lv_has ls 6 [(0, .ref a0), (1, .int x10), (2, .int 0), (3, .int x15), (4, .int x20)] := hl
  have htab := vx_table (x := yL_binary) B (hts _ List.mem_cons_self)
  refine lv_aload_n hx hb dL_binary_0 rfl (lv_at hl 0 rfl) ?_
  refine lv_iload_n hx hb dL_binary_1 rfl (lv_at hl 1 rfl) ?_
  refine lv_iload_n hx hb dL_binary_2 rfl (lv_at hl 2 rfl) ?_
  refine lv_iload_n hx hb dL_binary_3 rfl (lv_at hl 3 rfl) ?_
  refine lv_iload hx hb dL_binary_4 (lv_at hl 4 rfl) ?_
  obtain ⟨hPc, hDc, hFc⟩ := xcut (wc := [(a0, .inr (0, [v25, v26, .ref a8, .ref a2, v27, .ref a1, v28, v29])), (a1, .inr (2, [.ref a7, v30, v31])), (a2, .inl (cT 3, 8, .inr (.inr (.inr (.inr f32))))), (a3, .inr (2, [.ref a4, .int 1, v37])), (a4, .inl (cT 2, 4096, .inr (.inl f38))), (a5, .inr (2, [.ref a6, .int 1, v40])), (a6, .inl (cT 2, 4096, .inr (.inl f41))), (a7, .inl (cT 2, 4096, .inr (.inl f43))), (a8, .inr (1, [.ref a9, v44, v45])), (a9, .inl (cT 0, 4096, .inl f46))]) hP hD hS hA [0, 1, 2, 3, 4, 5, 6, 7, 8, 9] rfl rfl (by decide)
  refine va_callv (va_runV (C := "ValueBench") (As := [.int x10, .int 0, .int x15, .int x20]) (rest := []) ⟨hx, hb, hml, hown, htx⟩ (cB_binary_0 l hl9 D cT aK aV s.heap.size a0 a1 a2 a3 a4 a5 a6 a7 a8 a9 x10 x15 x20 v25 v26 v27 v28 v29 v30 v31 f32 b35 v37 f38 v40 f41 f43 v44 v45 f46 h11 h12 h13 h14 h16 h17 h18 h19 h21 h22 h23 h24 (by first | rfl | exact h33 | exact h34 | exact h36 | exact h39 | exact h42) (by first | rfl | exact h33 | exact h34 | exact h36 | exact h39 | exact h42) (by first | rfl | exact h33 | exact h34 | exact h36 | exact h39 | exact h42) (by first | rfl | exact h33 | exact h34 | exact h36 | exact h39 | exact h42) (by first | rfl | exact h33 | exact h34 | exact h36 | exact h39 | exact h42)) ⟨callB_of 4 htx (xw_goodC kw_3_102) rfl rfl rfl (htx _ kw_1_1) (htx _ kw_3_99) ⟨by decide, by decide, by decide +kernel⟩ ⟨Nat.le_of_ble_eq_true rfl, Nat.le_of_ble_eq_true rfl⟩, (htx _ kw_3_100), (htx _ kw_3_101)⟩ ⟨xPre_blind, va_recv hK hP (ci := 0) rfl (q0 := 0) rfl, (fun U hU hW => ⟨rfl, xPre_of hZ hS hFc hPc hDc hK U hU hW⟩)⟩ rfl rfl hl.1 rfl (lv_room (Nat.le_of_ble_eq_true rfl)) dL_binary_6 ⟨Nat.le_of_ble_eq_true rfl, Nat.le_of_ble_eq_true rfl⟩) hS (fun q _ h => hFc q h) hFc (fun u9 t H1 locs ht hvm hr9 hB hz1 hk1 hS => ?_)
  obtain ⟨y1, y2, y3, y4, hP1, hK1, hD1⟩ := hB
  rw [ht] at hP1
  obtain ⟨hP, hD⟩ := xjoin (W := [(a0, .inr (0, [v25, v26, .ref a8, .ref a2, v27, .ref a1, v28, v29])), (a1, .inr (2, [.ref a7, .int 1, .int 0])), (a2, .inl (cT 3, 8, .inr (.inr (.inr (.inr (va_up f32 x10.toNatClampNeg (some a1))))))), (a3, .inr (2, [.ref a4, .int 1, v37])), (a4, .inl (cT 2, 4096, .inr (.inl f38))), (a5, .inr (2, [.ref a6, .int 1, v40])), (a6, .inl (cT 2, 4096, .inr (.inl f41))), (a7, .inl (cT 2, 4096, .inr (.inl (vp_updL f43 0 0)))), (a8, .inr (1, [.ref a9, .int 4, .int 0])), (a9, .inl (cT 0, 4096, .inl (upd (upd (upd (upd f46 0 (vp_nar .byte y1)) 1 (vp_nar .byte y2)) 2 (vp_nar .byte y3)) 3 (vp_nar .byte y4))))]) hP hD [0, 1, 2, 3, 4, 5, 6, 7, 8, 9] [] 0 rfl rfl (by decide) (by decide) hk1 hFc hP1 hD1
  generalize H1 = H at hP hS ⊢
  refine lv_goto (tgt := 24) hx hb dL_binary_9 (by decide) ?_
  refine lv_iconst (v := 0) hx hb dL_binary_24 (by decide) ?_
  obtain ⟨hP9, hD9⟩ := xsub (wc := [(a0, .inr (0, [v25, v26, .ref a8, .ref a2, v27, .ref a1, v28, v29])), (a1, .inr (2, [.ref a7, .int 1, .int 0])), (a2, .inl (cT 3, 8, .inr (.inr (.inr (.inr (va_up f32 x10.toNatClampNeg (some a1))))))), (a3, .inr (2, [.ref a4, .int 1, v37])), (a4, .inl (cT 2, 4096, .inr (.inl f38))), (a5, .inr (2, [.ref a6, .int 1, v40])), (a6, .inl (cT 2, 4096, .inr (.inl f41))), (a7, .inl (cT 2, 4096, .inr (.inl (vp_updL f43 0 0)))), (a8, .inr (1, [.ref a9, .int 4, .int 0])), (a9, .inl (cT 0, 4096, .inl (upd (upd (upd (upd f46 0 (vp_nar .byte y1)) 1 (vp_nar .byte y2)) 2 (vp_nar .byte y3)) 3 (vp_nar .byte y4))))]) hP hD [0, 1, 2, 3, 4, 5, 6, 7, 8, 9] rfl rfl (by decide)
  refine W.widen (k := 0) (n := 0) (Nat.le_of_ble_eq_true rfl) (Nat.le_of_ble_eq_true rfl) ?_
  exact W.iret (v := 0) hx hb hr (fun t ht hW => ⟨⟨0, (), rfl, rfl, y1, y2, y3, y4, by rw [ht]; exact hP9, va_K.moved hW.alike hK, hD9⟩, hS.F ht⟩) hS.2.2 dL_binary_25
set_option maxHeartbeats 400000000 in
set_option maxRecDepth 100000 in
theorem cA_plus_1 (l : Launch) (hl9 : l.stackTraces = false) (D : va_G) (cT : Nat → ClassId) (aK aV : Nat → Nat) (sz : Nat) (a0 : Nat) (a1 : Nat) (a2 : Nat) (a3 : Nat) (v4 : Value) (f5 : Nat → Int64) (f7 : Nat → Int64) (h6 : f5 0 = 0) : xMet l yA_plus wyA_plus 3 0 0 105 D cT aK aV sz [.ref a0, .ref a0, .ref a2] [(a0, .inr (2, [.ref a1, .int 1, v4])), (a1, .inl (cT 2, 4096, .inr (.inl f5))), (a2, .inr (2, [.ref a3, .int 0, .int 0])), (a3, .inl (cT 2, 4096, .inr (.inl f7)))] (fun A => va_Qi (fun (r : Int32) (_ : Unit) => r = 0) (fun _ t => xB D xcl cT A [(a0, .inr (2, [.ref a1, .int 1, v4])), (a1, .inl (cT 2, 4096, .inr (.inl f5))), (a2, .inr (2, [.ref a3, .int 1, .int 0])), (a3, .inl (cT 2, 4096, .inr (.inl (vp_updL f7 0 0))))] t) A) := by
  refine Met.ofW (cc := prog_3_method_6_code) (maxL := 3) (ret := (some .int)) (by decide) rfl ?_
  intro p e s m args below meth c s₁ B hml hv
  obtain ⟨rfl, hsz, hZ, hP, hK, hD0⟩ := hv
  have hx := B.exec
  have hb := B.bytes
  have hr := B.returns
  have hts := atoms_spec (ws := wyA_plus) B.pre
  have htx := fun w h => hts w (List.mem_cons_of_mem _ h)
  have hown : s.vm.findClass "ValueBench$Operators" = some m.cls := findClass_of_methodNamed B.named
  have hlocks := B.notSynchronized
  subst hsz
  have hD := hD0.self (sz := s.heap.size)
  generalize hAe : va_A [(a0, .inr (2, [.ref a1, .int 1, v4])), (a1, .inl (cT 2, 4096, .inr (.inl f5))), (a2, .inr (2, [.ref a3, .int 0, .int 0])), (a3, .inl (cT 2, 4096, .inr (.inl f7)))] s.heap.size = A at hD hZ ⊢
  have hA : ∀ q : Nat, s.heap.size ≤ q → A q := fun q h => by rw [← hAe]; exact Or.inr h
  have hS : va_S A s.heap s.heap [] := va_S.rf
  have hP : va_P D xcl [(a0, .inr (2, [.ref a1, .int 1, v4])), (a1, .inl (cT 2, 4096, .inr (.inl f5))), (a2, .inr (2, [.ref a3, .int 0, .int 0])), (a3, .inl (cT 2, 4096, .inr (.inl f7)))] s.heap := hP
  have hl := lv_entry ([.ref a0, .ref a0, .ref a2]) (n := 3) (Nat.le_of_ble_eq_true rfl)
  rw [lg_entry_eq]
  generalize (lg_sl ([.ref a0, .ref a0, .ref a2]) ++ List.replicate (3 - (lg_sl ([.ref a0, .ref a0, .ref a2])).length) Slot.unset).toArray = ls at hl ⊢
  have hl : lv_has ls 3 [(0, .ref a0), (1, .ref a0), (2, .ref a2)] := hl
  refine lv_aload_n hx hb dA_plus_0 rfl (lv_at hl 0 rfl) ?_
  refine lv_iconst (v := 0) hx hb dA_plus_1 (by decide) ?_
  refine lv_iconst (v := 0) hx hb dA_plus_2 (by decide) ?_
  obtain ⟨hPc, hDc, hFc⟩ := xcut (wc := [(a0, .inr (2, [.ref a1, .int 1, v4])), (a1, .inl (cT 2, 4096, .inr (.inl f5)))]) hP hD hS hA [0, 1] rfl rfl (by decide)
  refine va_calli (va_runV (C := "ValueBench$Row") (As := [.int 0, .int 0]) (rest := []) ⟨hx, hb, hml, hown, htx⟩ (cR_is_0 l hl9 D cT aK aV s.heap.size a0 a1 v4 f5 (by first | rfl | exact h6)) ⟨callB_of 2 htx (xw_goodC kw_3_75) rfl rfl rfl (htx _ kw_1_4) (htx _ kw_3_106) ⟨by decide, by decide, by decide +kernel⟩ ⟨Nat.le_of_ble_eq_true rfl, Nat.le_of_ble_eq_true rfl⟩, (htx _ kw_3_73), (htx _ kw_3_74)⟩ ⟨xPre_blind, va_recv hK hP (ci := 2) rfl (q0 := 0) rfl, (fun U hU hW => ⟨rfl, xPre_of hZ hS hFc hPc hDc hK U hU hW⟩)⟩ rfl rfl hl.1 rfl (lv_room (Nat.le_of_ble_eq_true rfl)) dA_plus_3 ⟨Nat.le_of_ble_eq_true rfl, Nat.le_of_ble_eq_true rfl⟩) hS (fun q _ h => hFc q h) hFc (fun r1 u9 t H1 locs ht hvm hr9 hB hz1 hk1 hS => ?_)
  obtain ⟨hP1, hK1, hD1⟩ := hB
  rw [ht] at hP1
  obtain ⟨hP, hD⟩ := xjoin (W := [(a2, .inr (2, [.ref a3, .int 0, .int 0])), (a3, .inl (cT 2, 4096, .inr (.inl f7))), (a0, .inr (2, [.ref a1, .int 1, v4])), (a1, .inl (cT 2, 4096, .inr (.inl f5)))]) hP hD [0, 1] [2, 3] 2 rfl rfl (by decide) (by decide) hk1 hFc hP1 hD1
  generalize H1 = H at hP hS ⊢
  rw [hr9]
  refine W.eq (g2 := F0 m 6 ls [.int 1]) rfl ?_
  refine lv_if_ne (tgt := 18) hx hb dA_plus_6 (by decide) (fun _ => ?_) (fun h => ((by revert h; decide : False)).elim)
  refine lv_aload_n hx hb dA_plus_18 rfl (lv_at hl 2 rfl) ?_
  refine lv_aload_n hx hb dA_plus_19 rfl (lv_at hl 0 rfl) ?_
  refine lv_iconst (v := 0) hx hb dA_plus_20 (by decide) ?_
  refine lv_iconst (v := 0) hx hb dA_plus_21 (by decide) ?_
  obtain ⟨hPc, hDc, hFc⟩ := xcut (wc := [(a0, .inr (2, [.ref a1, .int 1, v4])), (a1, .inl (cT 2, 4096, .inr (.inl f5)))]) hP hD hS hA [2, 3] rfl rfl (by decide)
  refine va_calli (va_runV (C := "ValueBench$Row") (As := [.int 0, .int 0]) (rest := [.ref a2]) ⟨hx, hb, hml, hown, htx⟩ (cR_is_0 l hl9 D cT aK aV H.size a0 a1 v4 f5 (by first | rfl | exact h6)) ⟨callB_of 2 htx (xw_goodC kw_3_75) rfl rfl rfl (htx _ kw_1_4) (htx _ kw_3_106) ⟨by decide, by decide, by decide +kernel⟩ ⟨Nat.le_of_ble_eq_true rfl, Nat.le_of_ble_eq_true rfl⟩, (htx _ kw_3_73), (htx _ kw_3_74)⟩ ⟨xPre_blind, va_recv hK hP (ci := 2) rfl (q0 := 2) rfl, (fun U hU hW => ⟨rfl, xPre_of hZ hS hFc hPc hDc hK U hU hW⟩)⟩ rfl rfl hl.1 rfl (lv_room (Nat.le_of_ble_eq_true rfl)) dA_plus_22 ⟨Nat.le_of_ble_eq_true rfl, Nat.le_of_ble_eq_true rfl⟩) hS (fun q _ h => hFc q h) hFc (fun r2 u9 t H1 locs ht hvm hr9 hB hz1 hk1 hS => ?_)
  obtain ⟨hP1, hK1, hD1⟩ := hB
  rw [ht] at hP1
  obtain ⟨hP, hD⟩ := xjoin (W := [(a2, .inr (2, [.ref a3, .int 0, .int 0])), (a3, .inl (cT 2, 4096, .inr (.inl f7))), (a0, .inr (2, [.ref a1, .int 1, v4])), (a1, .inl (cT 2, 4096, .inr (.inl f5)))]) hP hD [2, 3] [0, 1] 2 rfl rfl (by decide) (by decide) hk1 hFc hP1 hD1
  generalize H1 = H at hP hS ⊢
  rw [hr9]
  refine W.eq (g2 := F0 m 25 ls [.int 1, .ref a2]) rfl ?_
  refine lv_if_eq (tgt := 32) hx hb dA_plus_25 (by decide) (fun h => ((by revert h; decide : False)).elim) (fun _ => ?_)
  refine lv_aload_n hx hb dA_plus_28 rfl (lv_at hl 1 rfl) ?_
  refine lv_goto (tgt := 33) hx hb dA_plus_29 (by decide) ?_
  refine lv_iconst (v := 0) hx hb dA_plus_33 (by decide) ?_
  obtain ⟨hPc, hDc, hFc⟩ := xcut (wc := [(a0, .inr (2, [.ref a1, .int 1, v4])), (a1, .inl (cT 2, 4096, .inr (.inl f5))), (a2, .inr (2, [.ref a3, .int 0, .int 0])), (a3, .inl (cT 2, 4096, .inr (.inl f7)))]) hP hD hS hA [2, 3, 0, 1] rfl rfl (by decide)
  refine va_callv (va_runV (C := "ValueBench$Row") (As := [.ref a0, .int 0]) (rest := []) ⟨hx, hb, hml, hown, htx⟩ (cR_putCopy_0 l hl9 D cT aK aV H.size a0 a1 a2 a3 v4 f5 f7 (by first | rfl | exact h6)) ⟨callB_of 2 htx (xw_goodC kw_3_126) rfl rfl rfl (htx _ kw_1_4) (htx _ kw_3_123) ⟨by decide, by decide, by decide +kernel⟩ ⟨Nat.le_of_ble_eq_true rfl, Nat.le_of_ble_eq_true rfl⟩, (htx _ kw_3_124), (htx _ kw_3_125)⟩ ⟨xPre_blind, va_recv hK hP (ci := 2) rfl (q0 := 0) rfl, (fun U hU hW => ⟨rfl, xPre_of hZ hS hFc hPc hDc hK U hU hW⟩)⟩ rfl rfl hl.1 rfl (lv_room (Nat.le_of_ble_eq_true rfl)) dA_plus_34 ⟨Nat.le_of_ble_eq_true rfl, Nat.le_of_ble_eq_true rfl⟩) hS (fun q _ h => hFc q h) hFc (fun u9 t H1 locs ht hvm hr9 hB hz1 hk1 hS => ?_)
  obtain ⟨hP1, hK1, hD1⟩ := hB
  rw [ht] at hP1
  obtain ⟨hP, hD⟩ := xjoin (W := [(a0, .inr (2, [.ref a1, .int 1, v4])), (a1, .inl (cT 2, 4096, .inr (.inl f5))), (a2, .inr (2, [.ref a3, .int 1, .int 0])), (a3, .inl (cT 2, 4096, .inr (.inl (vp_updL f7 0 0))))]) hP hD [2, 3, 0, 1] [] 0 rfl rfl (by decide) (by decide) hk1 hFc hP1 hD1
  generalize H1 = H at hP hS ⊢
  refine lv_iconst (v := 0) hx hb dA_plus_37 (by decide) ?_
  obtain ⟨hP9, hD9⟩ := xsub (wc := [(a0, .inr (2, [.ref a1, .int 1, v4])), (a1, .inl (cT 2, 4096, .inr (.inl f5))), (a2, .inr (2, [.ref a3, .int 1, .int 0])), (a3, .inl (cT 2, 4096, .inr (.inl (vp_updL f7 0 0))))]) hP hD [0, 1, 2, 3] rfl rfl (by decide)
  refine W.widen (k := 0) (n := 0) (Nat.le_of_ble_eq_true rfl) (Nat.le_of_ble_eq_true rfl) ?_
  exact W.iret (v := 0) hx hb hr (fun t ht hW => ⟨⟨0, (), rfl, rfl, by rw [ht]; exact hP9, va_K.moved hW.alike hK, hD9⟩, hS.F ht⟩) hS.2.2 dA_plus_38
set_option maxHeartbeats 400000000 in
set_option maxRecDepth 100000 in
theorem cA_apply_1 (l : Launch) (hl9 : l.stackTraces = false) (D : va_G) (cT : Nat → ClassId) (aK aV : Nat → Nat) (sz : Nat) (a0 : Nat) (a1 : Nat) (a2 : Nat) (a3 : Nat) (v4 : Value) (f5 : Nat → Int64) (f7 : Nat → Int64) (h6 : f5 0 = 0) : xMet l yA_apply wyA_apply 4 0 0 127 D cT aK aV sz [.int 0, .ref a0, .ref a0, .ref a2] [(a0, .inr (2, [.ref a1, .int 1, v4])), (a1, .inl (cT 2, 4096, .inr (.inl f5))), (a2, .inr (2, [.ref a3, .int 0, .int 0])), (a3, .inl (cT 2, 4096, .inr (.inl f7)))] (fun A => va_Qi (fun (r : Int32) (_ : Unit) => r = 0) (fun _ t => xB D xcl cT A [(a0, .inr (2, [.ref a1, .int 1, v4])), (a1, .inl (cT 2, 4096, .inr (.inl f5))), (a2, .inr (2, [.ref a3, .int 1, .int 0])), (a3, .inl (cT 2, 4096, .inr (.inl (vp_updL f7 0 0))))] t) A) := by
  refine Met.ofW (cc := prog_3_method_2_code) (maxL := 4) (ret := (some .int)) (by decide) rfl ?_
  intro p e s m args below meth c s₁ B hml hv
  obtain ⟨rfl, hsz, hZ, hP, hK, hD0⟩ := hv
  have hx := B.exec
  have hb := B.bytes
  have hr := B.returns
  have hts := atoms_spec (ws := wyA_apply) B.pre
  have htx := fun w h => hts w (List.mem_cons_of_mem _ h)
  have hown : s.vm.findClass "ValueBench$Operators" = some m.cls := findClass_of_methodNamed B.named
  have hlocks := B.notSynchronized
  subst hsz
  have hD := hD0.self (sz := s.heap.size)
  generalize hAe : va_A [(a0, .inr (2, [.ref a1, .int 1, v4])), (a1, .inl (cT 2, 4096, .inr (.inl f5))), (a2, .inr (2, [.ref a3, .int 0, .int 0])), (a3, .inl (cT 2, 4096, .inr (.inl f7)))] s.heap.size = A at hD hZ ⊢
  have hA : ∀ q : Nat, s.heap.size ≤ q → A q := fun q h => by rw [← hAe]; exact Or.inr h
  have hS : va_S A s.heap s.heap [] := va_S.rf
  have hP : va_P D xcl [(a0, .inr (2, [.ref a1, .int 1, v4])), (a1, .inl (cT 2, 4096, .inr (.inl f5))), (a2, .inr (2, [.ref a3, .int 0, .int 0])), (a3, .inl (cT 2, 4096, .inr (.inl f7)))] s.heap := hP
  have hl := lv_entry ([.int 0, .ref a0, .ref a0, .ref a2]) (n := 4) (Nat.le_of_ble_eq_true rfl)
  rw [lg_entry_eq]
  generalize (lg_sl ([.int 0, .ref a0, .ref a0, .ref a2]) ++ List.replicate (4 - (lg_sl ([.int 0, .ref a0, .ref a0, .ref a2])).length) Slot.unset).toArray = ls at hl ⊢
  have hl : lv_has ls 4 [(0, .int 0), (1, .ref a0), (2, .ref a0), (3, .ref a2)] := hl
  refine lv_aload_n hx hb dA_apply_0 rfl (lv_at hl 1 rfl) ?_
  refine lv_iconst (v := 0) hx hb dA_apply_1 (by decide) ?_
  refine lv_iconst (v := 3) hx hb dA_apply_2 (by decide) ?_
  obtain ⟨hPc, hDc, hFc⟩ := xcut (wc := [(a0, .inr (2, [.ref a1, .int 1, v4])), (a1, .inl (cT 2, 4096, .inr (.inl f5)))]) hP hD hS hA [0, 1] rfl rfl (by decide)
  refine va_calli (va_runV (C := "ValueBench$Row") (As := [.int 0, .int 3]) (rest := []) ⟨hx, hb, hml, hown, htx⟩ (cR_is_4 l hl9 D cT aK aV s.heap.size a0 a1 v4 f5 (by first | rfl | exact h6)) ⟨callB_of 2 htx (xw_goodC kw_3_75) rfl rfl rfl (htx _ kw_1_4) (htx _ kw_3_106) ⟨by decide, by decide, by decide +kernel⟩ ⟨Nat.le_of_ble_eq_true rfl, Nat.le_of_ble_eq_true rfl⟩, (htx _ kw_3_73), (htx _ kw_3_74)⟩ ⟨xPre_blind, va_recv hK hP (ci := 2) rfl (q0 := 0) rfl, (fun U hU hW => ⟨rfl, xPre_of hZ hS hFc hPc hDc hK U hU hW⟩)⟩ rfl rfl hl.1 rfl (lv_room (Nat.le_of_ble_eq_true rfl)) dA_apply_3 ⟨Nat.le_of_ble_eq_true rfl, Nat.le_of_ble_eq_true rfl⟩) hS (fun q _ h => hFc q h) hFc (fun r1 u9 t H1 locs ht hvm hr9 hB hz1 hk1 hS => ?_)
  obtain ⟨hP1, hK1, hD1⟩ := hB
  rw [ht] at hP1
  obtain ⟨hP, hD⟩ := xjoin (W := [(a2, .inr (2, [.ref a3, .int 0, .int 0])), (a3, .inl (cT 2, 4096, .inr (.inl f7))), (a0, .inr (2, [.ref a1, .int 1, v4])), (a1, .inl (cT 2, 4096, .inr (.inl f5)))]) hP hD [0, 1] [2, 3] 2 rfl rfl (by decide) (by decide) hk1 hFc hP1 hD1
  generalize H1 = H at hP hS ⊢
  rw [hr9]
  refine W.eq (g2 := F0 m 6 ls [.int 0]) rfl ?_
  refine lv_if_eq (tgt := 34) hx hb dA_apply_6 (by decide) (fun _ => ?_) (fun h => ((by revert h; decide : False)).elim)
  refine lv_iload_n hx hb dA_apply_34 rfl (lv_at hl 0 rfl) ?_
  refine lv_tableIn (off := 29) (tgt := 64) hx hb dA_apply_35 (by decide) (by decide) (by decide) (by decide) ?_
  refine lv_aload_n hx hb dA_apply_64 rfl (lv_at hl 1 rfl) ?_
  refine lv_aload_n hx hb dA_apply_65 rfl (lv_at hl 2 rfl) ?_
  refine lv_aload_n hx hb dA_apply_66 rfl (lv_at hl 3 rfl) ?_
  obtain ⟨hPc, hDc, hFc⟩ := xcut (wc := [(a0, .inr (2, [.ref a1, .int 1, v4])), (a1, .inl (cT 2, 4096, .inr (.inl f5))), (a2, .inr (2, [.ref a3, .int 0, .int 0])), (a3, .inl (cT 2, 4096, .inr (.inl f7)))]) hP hD hS hA [2, 3, 0, 1] rfl rfl (by decide)
  refine va_calli (va_runS (As := [.ref a0, .ref a0, .ref a2]) (rest := []) ⟨hx, hb, hml, hown, htx⟩ (cA_plus_1 l hl9 D cT aK aV H.size a0 a1 a2 a3 v4 f5 f7 (by first | rfl | exact h6)) ⟨callB_of 3 htx (xw_goodC kw_3_122) rfl rfl rfl (htx _ kw_1_21) (htx _ kw_3_120) ⟨by decide, by decide, by decide +kernel⟩ ⟨Nat.le_of_ble_eq_true rfl, Nat.le_of_ble_eq_true rfl⟩, htx _ kw_3_121⟩ ⟨xPre_blind, (fun U hU hW => ⟨rfl, xPre_of hZ hS hFc hPc hDc hK U hU hW⟩)⟩ rfl rfl hl.1 rfl (lv_room (Nat.le_of_ble_eq_true rfl)) dA_apply_67 ⟨Nat.le_of_ble_eq_true rfl, Nat.le_of_ble_eq_true rfl⟩) hS (fun q _ h => hFc q h) hFc (fun r2 u9 t H1 locs ht hvm hr9 hB hz1 hk1 hS => ?_)
  obtain ⟨hP1, hK1, hD1⟩ := hB
  rw [ht] at hP1
  obtain ⟨hP, hD⟩ := xjoin (W := [(a0, .inr (2, [.ref a1, .int 1, v4])), (a1, .inl (cT 2, 4096, .inr (.inl f5))), (a2, .inr (2, [.ref a3, .int 1, .int 0])), (a3, .inl (cT 2, 4096, .inr (.inl (vp_updL f7 0 0))))]) hP hD [2, 3, 0, 1] [] 0 rfl rfl (by decide) (by decide) hk1 hFc hP1 hD1
  generalize H1 = H at hP hS ⊢
  rw [hr9]
  refine W.eq (g2 := F0 m 70 ls [.int 0]) rfl ?_
  obtain ⟨hP9, hD9⟩ := xsub (wc := [(a0, .inr (2, [.ref a1, .int 1, v4])), (a1, .inl (cT 2, 4096, .inr (.inl f5))), (a2, .inr (2, [.ref a3, .int 1, .int 0])), (a3, .inl (cT 2, 4096, .inr (.inl (vp_updL f7 0 0))))]) hP hD [0, 1, 2, 3] rfl rfl (by decide)
  refine W.widen (k := 0) (n := 0) (Nat.le_of_ble_eq_true rfl) (Nat.le_of_ble_eq_true rfl) ?_
  exact W.iret (v := 0) hx hb hr (fun t ht hW => ⟨⟨0, (), rfl, rfl, by rw [ht]; exact hP9, va_K.moved hW.alike hK, hD9⟩, hS.F ht⟩) hS.2.2 dA_apply_70
set_option maxHeartbeats 400000000 in
set_option maxRecDepth 100000 in
theorem cB_binary_1 (l : Launch) (hl9 : l.stackTraces = false) (D : va_G) (cT : Nat → ClassId) (aK aV : Nat → Nat) (sz : Nat) (a0 : Nat) (a1 : Nat) (a2 : Nat) (a3 : Nat) (a4 : Nat) (a5 : Nat) (a6 : Nat) (a7 : Nat) (x8 : Int32) (x13 : Int32) (x18 : Int32) (v23 : Value) (v24 : Value) (v25 : Value) (v26 : Value) (v27 : Value) (v28 : Value) (v29 : Value) (f30 : Nat → Option Nat) (b33 : Nat) (v35 : Value) (f36 : Nat → Int64) (f38 : Nat → Int64) (v39 : Value) (v40 : Value) (f41 : Nat → Int32) (h9 : ¬ x8 < 0) (h10 : ¬ 7 < x8) (h11 : x8 ≤ 7) (h12 : vp_in x8 8) (h14 : ¬ x13 < 0) (h15 : ¬ 7 < x13) (h16 : x13 ≤ 7) (h17 : vp_in x13 8) (h19 : ¬ x18 < 0) (h20 : ¬ 7 < x18) (h21 : x18 ≤ 7) (h22 : vp_in x18 8) (h31 : f30 x13.toNatClampNeg = some a3) (h32 : f30 x18.toNatClampNeg = some a3) (h34 : f30 x8.toNatClampNeg = some b33) (h37 : f36 0 = 0) : xMet l yB_binary wyB_binary 7 0 0 152 D cT aK aV sz [.ref a0, .int x8, .int 0, .int x13, .int x18] [(a0, .inr (0, [v23, v24, .ref a6, .ref a2, v25, .ref a1, v26, v27])), (a1, .inr (2, [.ref a5, v28, v29])), (a2, .inl (cT 3, 8, .inr (.inr (.inr (.inr f30))))), (a3, .inr (2, [.ref a4, .int 1, v35])), (a4, .inl (cT 2, 4096, .inr (.inl f36))), (a5, .inl (cT 2, 4096, .inr (.inl f38))), (a6, .inr (1, [.ref a7, v39, v40])), (a7, .inl (cT 0, 4096, .inl f41))] (fun A => va_Qv (fun _ : Unit => True) (fun _ t => ∃ (y7 : Int32) (y8 : Int32) (y9 : Int32) (y10 : Int32), xB D xcl cT A [(a0, .inr (0, [v23, v24, .ref a6, .ref a2, v25, .ref b33, v26, v27])), (a1, .inr (2, [.ref a5, .int 1, .int 0])), (a2, .inl (cT 3, 8, .inr (.inr (.inr (.inr (va_up f30 x8.toNatClampNeg (some a1))))))), (a3, .inr (2, [.ref a4, .int 1, v35])), (a4, .inl (cT 2, 4096, .inr (.inl f36))), (a5, .inl (cT 2, 4096, .inr (.inl (vp_updL f38 0 0)))), (a6, .inr (1, [.ref a7, .int 4, .int 0])), (a7, .inl (cT 0, 4096, .inl (upd (upd (upd (upd f41 0 (vp_nar .byte y7)) 1 (vp_nar .byte y8)) 2 (vp_nar .byte y9)) 3 (vp_nar .byte y10))))] t) A) := by
  refine Met.ofW (cc := prog_1_method_6_code) (maxL := 5) (ret := none) (by decide) rfl ?_
  intro p e s m args below meth c s₁ B hml hv
  obtain ⟨rfl, hsz, hZ, hP, hK, hD0⟩ := hv
  have hx := B.exec
  have hb := B.bytes
  have hr := B.returns
  have hts := atoms_spec (ws := wyB_binary) B.pre
  have htx := fun w h => hts w (List.mem_cons_of_mem _ h)
  have hown : s.vm.findClass "ValueBench" = some m.cls := findClass_of_methodNamed B.named
  have hlocks := B.notSynchronized
  subst hsz
  have hD := hD0.self (sz := s.heap.size)
  generalize hAe : va_A [(a0, .inr (0, [v23, v24, .ref a6, .ref a2, v25, .ref a1, v26, v27])), (a1, .inr (2, [.ref a5, v28, v29])), (a2, .inl (cT 3, 8, .inr (.inr (.inr (.inr f30))))), (a3, .inr (2, [.ref a4, .int 1, v35])), (a4, .inl (cT 2, 4096, .inr (.inl f36))), (a5, .inl (cT 2, 4096, .inr (.inl f38))), (a6, .inr (1, [.ref a7, v39, v40])), (a7, .inl (cT 0, 4096, .inl f41))] s.heap.size = A at hD hZ ⊢
  have hA : ∀ q : Nat, s.heap.size ≤ q → A q := fun q h => by rw [← hAe]; exact Or.inr h
  have hS : va_S A s.heap s.heap [] := va_S.rf
  have hP : va_P D xcl [(a0, .inr (0, [v23, v24, .ref a6, .ref a2, v25, .ref a1, v26, v27])), (a1, .inr (2, [.ref a5, v28, v29])), (a2, .inl (cT 3, 8, .inr (.inr (.inr (.inr f30))))), (a3, .inr (2, [.ref a4, .int 1, v35])), (a4, .inl (cT 2, 4096, .inr (.inl f36))), (a5, .inl (cT 2, 4096, .inr (.inl f38))), (a6, .inr (1, [.ref a7, v39, v40])), (a7, .inl (cT 0, 4096, .inl f41))] s.heap := hP
  have hl := lv_entry ([.ref a0, .int x8, .int 0, .int x13, .int x18]) (n := 5) (Nat.le_of_ble_eq_true rfl)
  rw [lg_entry_eq]
  generalize (lg_sl ([.ref a0, .int x8, .int 0, .int x13, .int x18]) ++ List.replicate (5 - (lg_sl ([.ref a0, .int x8, .int 0, .int x13, .int x18])).length) Slot.unset).toArray = ls at hl ⊢
  have hl : lv_has ls 5 [(0, .ref a0), (1, .int x8), (2, .int 0), (3, .int x13), (4, .int x18)] := hl
  refine lv_iload_n hx hb dB_binary_0 rfl (lv_at hl 1 rfl) ?_
  obtain ⟨hPc, hDc, hFc⟩ := xcut (wc := []) hP hD hS hA [] rfl rfl (by decide)
  refine va_calli (va_runS (As := [.int x8]) (rest := []) ⟨hx, hb, hml, hown, htx⟩ (cB_isRegister_0 l hl9 D cT aK aV s.heap.size x8 h9 h10 h11 h12) ⟨callB_of 1 htx (xw_goodC kw_2_18) rfl rfl rfl (htx _ kw_1_1) (htx _ kw_2_16) ⟨by decide, by decide, by decide +kernel⟩ ⟨Nat.le_of_ble_eq_true rfl, Nat.le_of_ble_eq_true rfl⟩, htx _ kw_2_17⟩ ⟨xPre_blind, (fun U hU hW => ⟨rfl, xPre_of hZ hS hFc hPc hDc hK U hU hW⟩)⟩ rfl rfl hl.1 rfl (lv_room (Nat.le_of_ble_eq_true rfl)) dB_binary_1 ⟨Nat.le_of_ble_eq_true rfl, Nat.le_of_ble_eq_true rfl⟩) hS (fun q _ h => hFc q h) hFc (fun r1 u9 t H1 locs ht hvm hr9 hB hz1 hk1 hS => ?_)
  obtain ⟨hP1, hK1, hD1⟩ := hB
  rw [ht] at hP1
  obtain ⟨hP, hD⟩ := xjoin (W := [(a0, .inr (0, [v23, v24, .ref a6, .ref a2, v25, .ref a1, v26, v27])), (a1, .inr (2, [.ref a5, v28, v29])), (a2, .inl (cT 3, 8, .inr (.inr (.inr (.inr f30))))), (a3, .inr (2, [.ref a4, .int 1, v35])), (a4, .inl (cT 2, 4096, .inr (.inl f36))), (a5, .inl (cT 2, 4096, .inr (.inl f38))), (a6, .inr (1, [.ref a7, v39, v40])), (a7, .inl (cT 0, 4096, .inl f41))]) hP hD [] [0, 1, 2, 3, 4, 5, 6, 7] 8 rfl rfl (by decide) (by decide) hk1 hFc hP1 hD1
  generalize H1 = H at hP hS ⊢
  rw [hr9]
  refine W.eq (g2 := F0 m 4 ls [.int 1]) rfl ?_
  refine lv_if_eq (tgt := 34) hx hb dB_binary_4 (by decide) (fun h => ((by revert h; decide : False)).elim) (fun _ => ?_)
  refine lv_iload_n hx hb dB_binary_7 rfl (lv_at hl 2 rfl) ?_
  refine lv_iconst (v := 4) hx hb dB_binary_8 (by decide) ?_
  obtain ⟨hPc, hDc, hFc⟩ := xcut (wc := []) hP hD hS hA [] rfl rfl (by decide)
  refine va_calli (va_runS (As := [.int 0, .int 4]) (rest := []) ⟨hx, hb, hml, hown, htx⟩ (cB_isWithin_24 l hl9 D cT aK aV H.size) ⟨callB_of 2 htx (xw_goodC kw_1_218) rfl rfl rfl (htx _ kw_1_1) (htx _ kw_1_216) ⟨by decide, by decide, by decide +kernel⟩ ⟨Nat.le_of_ble_eq_true rfl, Nat.le_of_ble_eq_true rfl⟩, htx _ kw_1_217⟩ ⟨xPre_blind, (fun U hU hW => ⟨rfl, xPre_of hZ hS hFc hPc hDc hK U hU hW⟩)⟩ rfl rfl hl.1 rfl (lv_room (Nat.le_of_ble_eq_true rfl)) dB_binary_9 ⟨Nat.le_of_ble_eq_true rfl, Nat.le_of_ble_eq_true rfl⟩) hS (fun q _ h => hFc q h) hFc (fun r2 u9 t H1 locs ht hvm hr9 hB hz1 hk1 hS => ?_)
  obtain ⟨hP1, hK1, hD1⟩ := hB
  rw [ht] at hP1
  obtain ⟨hP, hD⟩ := xjoin (W := [(a0, .inr (0, [v23, v24, .ref a6, .ref a2, v25, .ref a1, v26, v27])), (a1, .inr (2, [.ref a5, v28, v29])), (a2, .inl (cT 3, 8, .inr (.inr (.inr (.inr f30))))), (a3, .inr (2, [.ref a4, .int 1, v35])), (a4, .inl (cT 2, 4096, .inr (.inl f36))), (a5, .inl (cT 2, 4096, .inr (.inl f38))), (a6, .inr (1, [.ref a7, v39, v40])), (a7, .inl (cT 0, 4096, .inl f41))]) hP hD [] [0, 1, 2, 3, 4, 5, 6, 7] 8 rfl rfl (by decide) (by decide) hk1 hFc hP1 hD1
  generalize H1 = H at hP hS ⊢
  rw [hr9]
  refine W.eq (g2 := F0 m 12 ls [.int 1]) rfl ?_
  refine lv_if_eq (tgt := 34) hx hb dB_binary_12 (by decide) (fun h => ((by revert h; decide : False)).elim) (fun _ => ?_)
  refine lv_iload_n hx hb dB_binary_15 rfl (lv_at hl 3 rfl) ?_
  obtain ⟨hPc, hDc, hFc⟩ := xcut (wc := []) hP hD hS hA [] rfl rfl (by decide)
  refine va_calli (va_runS (As := [.int x13]) (rest := []) ⟨hx, hb, hml, hown, htx⟩ (cB_isRegister_0 l hl9 D cT aK aV H.size x13 h14 h15 h16 h17) ⟨callB_of 1 htx (xw_goodC kw_2_18) rfl rfl rfl (htx _ kw_1_1) (htx _ kw_2_16) ⟨by decide, by decide, by decide +kernel⟩ ⟨Nat.le_of_ble_eq_true rfl, Nat.le_of_ble_eq_true rfl⟩, htx _ kw_2_17⟩ ⟨xPre_blind, (fun U hU hW => ⟨rfl, xPre_of hZ hS hFc hPc hDc hK U hU hW⟩)⟩ rfl rfl hl.1 rfl (lv_room (Nat.le_of_ble_eq_true rfl)) dB_binary_16 ⟨Nat.le_of_ble_eq_true rfl, Nat.le_of_ble_eq_true rfl⟩) hS (fun q _ h => hFc q h) hFc (fun r3 u9 t H1 locs ht hvm hr9 hB hz1 hk1 hS => ?_)
  obtain ⟨hP1, hK1, hD1⟩ := hB
  rw [ht] at hP1
  obtain ⟨hP, hD⟩ := xjoin (W := [(a0, .inr (0, [v23, v24, .ref a6, .ref a2, v25, .ref a1, v26, v27])), (a1, .inr (2, [.ref a5, v28, v29])), (a2, .inl (cT 3, 8, .inr (.inr (.inr (.inr f30))))), (a3, .inr (2, [.ref a4, .int 1, v35])), (a4, .inl (cT 2, 4096, .inr (.inl f36))), (a5, .inl (cT 2, 4096, .inr (.inl f38))), (a6, .inr (1, [.ref a7, v39, v40])), (a7, .inl (cT 0, 4096, .inl f41))]) hP hD [] [0, 1, 2, 3, 4, 5, 6, 7] 8 rfl rfl (by decide) (by decide) hk1 hFc hP1 hD1
  generalize H1 = H at hP hS ⊢
  rw [hr9]
  refine W.eq (g2 := F0 m 19 ls [.int 1]) rfl ?_
  refine lv_if_eq (tgt := 34) hx hb dB_binary_19 (by decide) (fun h => ((by revert h; decide : False)).elim) (fun _ => ?_)
  refine lv_iload hx hb dB_binary_22 (lv_at hl 4 rfl) ?_
  obtain ⟨hPc, hDc, hFc⟩ := xcut (wc := []) hP hD hS hA [] rfl rfl (by decide)
  refine va_calli (va_runS (As := [.int x18]) (rest := []) ⟨hx, hb, hml, hown, htx⟩ (cB_isRegister_0 l hl9 D cT aK aV H.size x18 h19 h20 h21 h22) ⟨callB_of 1 htx (xw_goodC kw_2_18) rfl rfl rfl (htx _ kw_1_1) (htx _ kw_2_16) ⟨by decide, by decide, by decide +kernel⟩ ⟨Nat.le_of_ble_eq_true rfl, Nat.le_of_ble_eq_true rfl⟩, htx _ kw_2_17⟩ ⟨xPre_blind, (fun U hU hW => ⟨rfl, xPre_of hZ hS hFc hPc hDc hK U hU hW⟩)⟩ rfl rfl hl.1 rfl (lv_room (Nat.le_of_ble_eq_true rfl)) dB_binary_24 ⟨Nat.le_of_ble_eq_true rfl, Nat.le_of_ble_eq_true rfl⟩) hS (fun q _ h => hFc q h) hFc (fun r4 u9 t H1 locs ht hvm hr9 hB hz1 hk1 hS => ?_)
  obtain ⟨hP1, hK1, hD1⟩ := hB
  rw [ht] at hP1
  obtain ⟨hP, hD⟩ := xjoin (W := [(a0, .inr (0, [v23, v24, .ref a6, .ref a2, v25, .ref a1, v26, v27])), (a1, .inr (2, [.ref a5, v28, v29])), (a2, .inl (cT 3, 8, .inr (.inr (.inr (.inr f30))))), (a3, .inr (2, [.ref a4, .int 1, v35])), (a4, .inl (cT 2, 4096, .inr (.inl f36))), (a5, .inl (cT 2, 4096, .inr (.inl f38))), (a6, .inr (1, [.ref a7, v39, v40])), (a7, .inl (cT 0, 4096, .inl f41))]) hP hD [] [0, 1, 2, 3, 4, 5, 6, 7] 8 rfl rfl (by decide) (by decide) hk1 hFc hP1 hD1
  generalize H1 = H at hP hS ⊢
  rw [hr9]
  refine W.eq (g2 := F0 m 27 ls [.int 1]) rfl ?_
  refine lv_if_eq (tgt := 34) hx hb dB_binary_27 (by decide) (fun h => ((by revert h; decide : False)).elim) (fun _ => ?_)
  refine lv_iconst (v := 1) hx hb dB_binary_30 (by decide) ?_
  refine lv_goto (tgt := 35) hx hb dB_binary_31 (by decide) ?_
  obtain ⟨hPc, hDc, hFc⟩ := xcut (wc := []) hP hD hS hA [] rfl rfl (by decide)
  refine va_callv (va_runS (As := [.int 1]) (rest := []) ⟨hx, hb, hml, hown, htx⟩ (cB_demand_0 l hl9 D cT aK aV H.size) ⟨callB_of 1 htx (xw_goodC kw_1_221) rfl rfl rfl (htx _ kw_1_1) (htx _ kw_1_219) ⟨by decide, by decide, by decide +kernel⟩ ⟨Nat.le_of_ble_eq_true rfl, Nat.le_of_ble_eq_true rfl⟩, htx _ kw_1_220⟩ ⟨xPre_blind, (fun U hU hW => ⟨rfl, xPre_of hZ hS hFc hPc hDc hK U hU hW⟩)⟩ rfl rfl hl.1 rfl (lv_room (Nat.le_of_ble_eq_true rfl)) dB_binary_35 ⟨Nat.le_of_ble_eq_true rfl, Nat.le_of_ble_eq_true rfl⟩) hS (fun q _ h => hFc q h) hFc (fun u9 t H1 locs ht hvm hr9 hB hz1 hk1 hS => ?_)
  obtain ⟨hP1, hK1, hD1⟩ := hB
  rw [ht] at hP1
  obtain ⟨hP, hD⟩ := xjoin (W := [(a0, .inr (0, [v23, v24, .ref a6, .ref a2, v25, .ref a1, v26, v27])), (a1, .inr (2, [.ref a5, v28, v29])), (a2, .inl (cT 3, 8, .inr (.inr (.inr (.inr f30))))), (a3, .inr (2, [.ref a4, .int 1, v35])), (a4, .inl (cT 2, 4096, .inr (.inl f36))), (a5, .inl (cT 2, 4096, .inr (.inl f38))), (a6, .inr (1, [.ref a7, v39, v40])), (a7, .inl (cT 0, 4096, .inl f41))]) hP hD [] [0, 1, 2, 3, 4, 5, 6, 7] 8 rfl rfl (by decide) (by decide) hk1 hFc hP1 hD1
  generalize H1 = H at hP hS ⊢
  refine lv_aload_n hx hb dB_binary_38 rfl (lv_at hl 0 rfl) ?_
  refine va_get (D := D) (ci := 0) (v := .ref a1) (C := "ValueBench") (T := TB) (N := 8) hx hb htx inB hown hK hP 0 rfl rfl 5 (by decide) (htx _ kw_1_100) (fun _ h9 => h9) rfl dB_binary_39 ?_
  obtain ⟨hPc, hDc, hFc⟩ := xcut (wc := [(a1, .inr (2, [.ref a5, v28, v29]))]) hP hD hS hA [1] rfl rfl (by decide)
  refine va_callv (va_runV (C := "ValueBench$Row") (As := []) (rest := []) ⟨hx, hb, hml, hown, htx⟩ (cR_clear_0 l hl9 D cT aK aV H.size a1 (.ref a5) v28 v29) ⟨callB_of 0 htx (xw_goodC kw_2_22) rfl rfl rfl (htx _ kw_1_4) (htx _ kw_2_19) ⟨by decide, by decide, by decide +kernel⟩ ⟨Nat.le_of_ble_eq_true rfl, Nat.le_of_ble_eq_true rfl⟩, (htx _ kw_2_20), (htx _ kw_2_21)⟩ ⟨xPre_blind, va_recv hK hP (ci := 2) rfl (q0 := 1) rfl, (fun U hU hW => ⟨rfl, xPre_of hZ hS hFc hPc hDc hK U hU hW⟩)⟩ rfl rfl hl.1 rfl (lv_room (Nat.le_of_ble_eq_true rfl)) dB_binary_42 ⟨Nat.le_of_ble_eq_true rfl, Nat.le_of_ble_eq_true rfl⟩) hS (fun q _ h => hFc q h) hFc (fun u9 t H1 locs ht hvm hr9 hB hz1 hk1 hS => ?_)
  obtain ⟨hP1, hK1, hD1⟩ := hB
  rw [ht] at hP1
  obtain ⟨hP, hD⟩ := xjoin (W := [(a0, .inr (0, [v23, v24, .ref a6, .ref a2, v25, .ref a1, v26, v27])), (a2, .inl (cT 3, 8, .inr (.inr (.inr (.inr f30))))), (a3, .inr (2, [.ref a4, .int 1, v35])), (a4, .inl (cT 2, 4096, .inr (.inl f36))), (a5, .inl (cT 2, 4096, .inr (.inl f38))), (a6, .inr (1, [.ref a7, v39, v40])), (a7, .inl (cT 0, 4096, .inl f41)), (a1, .inr (2, [.ref a5, .int 0, .int 0]))]) hP hD [1] [0, 2, 3, 4, 5, 6, 7] 7 rfl rfl (by decide) (by decide) hk1 hFc hP1 hD1
  generalize H1 = H at hP hS ⊢
  refine lv_aload_n hx hb dB_binary_45 rfl (lv_at hl 0 rfl) ?_
  refine lv_iload_n hx hb dB_binary_46 rfl (lv_at hl 2 rfl) ?_
  refine lv_aload_n hx hb dB_binary_47 rfl (lv_at hl 0 rfl) ?_
  refine va_get (D := D) (ci := 0) (v := .ref a2) (C := "ValueBench") (T := TB) (N := 8) hx hb htx inB hown hK hP 0 rfl rfl 3 (by decide) (htx _ kw_1_98) (fun _ h9 => h9) rfl dB_binary_48 ?_
  refine lv_iload_n hx hb dB_binary_51 rfl (lv_at hl 3 rfl) ?_
  refine va_aldq hx hb hK hP 1 3 rfl rfl h17 dB_binary_52 ?_
  refine W.eq (g2 := F0 m 53 ls [va_rf (f30 x13.toNatClampNeg), .int 0, .ref a0]) rfl ?_
  rw [h31]
  refine W.eq (g2 := F0 m 53 ls [.ref a3, .int 0, .ref a0]) rfl ?_
  refine lv_aload_n hx hb dB_binary_53 rfl (lv_at hl 0 rfl) ?_
  refine va_get (D := D) (ci := 0) (v := .ref a2) (C := "ValueBench") (T := TB) (N := 8) hx hb htx inB hown hK hP 0 rfl rfl 3 (by decide) (htx _ kw_1_98) (fun _ h9 => h9) rfl dB_binary_54 ?_
  refine lv_iload hx hb dB_binary_57 (lv_at hl 4 rfl) ?_
  refine va_aldq hx hb hK hP 1 3 rfl rfl h22 dB_binary_59 ?_
  refine W.eq (g2 := F0 m 60 ls [va_rf (f30 x18.toNatClampNeg), .ref a3, .int 0, .ref a0]) rfl ?_
  rw [h32]
  refine W.eq (g2 := F0 m 60 ls [.ref a3, .ref a3, .int 0, .ref a0]) rfl ?_
  refine lv_aload_n hx hb dB_binary_60 rfl (lv_at hl 0 rfl) ?_
  refine va_get (D := D) (ci := 0) (v := .ref a1) (C := "ValueBench") (T := TB) (N := 8) hx hb htx inB hown hK hP 0 rfl rfl 5 (by decide) (htx _ kw_1_100) (fun _ h9 => h9) rfl dB_binary_61 ?_
  obtain ⟨hPc, hDc, hFc⟩ := xcut (wc := [(a3, .inr (2, [.ref a4, .int 1, v35])), (a4, .inl (cT 2, 4096, .inr (.inl f36))), (a1, .inr (2, [.ref a5, .int 0, .int 0])), (a5, .inl (cT 2, 4096, .inr (.inl f38)))]) hP hD hS hA [2, 3, 7, 4] rfl rfl (by decide)
  refine va_calli (va_runS (As := [.int 0, .ref a3, .ref a3, .ref a1]) (rest := [.ref a0]) ⟨hx, hb, hml, hown, htx⟩ (cA_apply_1 l hl9 D cT aK aV H.size a3 a4 a1 a5 v35 f36 f38 (by first | rfl | exact h31 | exact h32 | exact h34 | exact h37)) ⟨callB_of 4 htx (xw_goodC kw_3_105) rfl rfl rfl (htx _ kw_1_21) (htx _ kw_3_103) ⟨by decide, by decide, by decide +kernel⟩ ⟨Nat.le_of_ble_eq_true rfl, Nat.le_of_ble_eq_true rfl⟩, htx _ kw_3_104⟩ ⟨xPre_blind, (fun U hU hW => ⟨rfl, xPre_of hZ hS hFc hPc hDc hK U hU hW⟩)⟩ rfl rfl hl.1 rfl (lv_room (Nat.le_of_ble_eq_true rfl)) dB_binary_64 ⟨Nat.le_of_ble_eq_true rfl, Nat.le_of_ble_eq_true rfl⟩) hS (fun q _ h => hFc q h) hFc (fun r5 u9 t H1 locs ht hvm hr9 hB hz1 hk1 hS => ?_)
  obtain ⟨hP1, hK1, hD1⟩ := hB
  rw [ht] at hP1
  obtain ⟨hP, hD⟩ := xjoin (W := [(a0, .inr (0, [v23, v24, .ref a6, .ref a2, v25, .ref a1, v26, v27])), (a2, .inl (cT 3, 8, .inr (.inr (.inr (.inr f30))))), (a6, .inr (1, [.ref a7, v39, v40])), (a7, .inl (cT 0, 4096, .inl f41)), (a3, .inr (2, [.ref a4, .int 1, v35])), (a4, .inl (cT 2, 4096, .inr (.inl f36))), (a1, .inr (2, [.ref a5, .int 1, .int 0])), (a5, .inl (cT 2, 4096, .inr (.inl (vp_updL f38 0 0))))]) hP hD [2, 3, 7, 4] [0, 1, 5, 6] 4 rfl rfl (by decide) (by decide) hk1 hFc hP1 hD1
  generalize H1 = H at hP hS ⊢
  rw [hr9]
  refine W.eq (g2 := F0 m 67 ls [.int 0, .ref a0]) rfl ?_
  obtain ⟨hPc, hDc, hFc⟩ := xcut (wc := []) hP hD hS hA [] rfl rfl (by decide)
  refine va_callv (va_runV (C := "ValueBench") (As := [.int 0]) (rest := []) ⟨hx, hb, hml, hown, htx⟩ (cB_demandDone_0 l hl9 D cT aK aV H.size a0) ⟨callB_of 1 htx (xw_goodC kw_3_222) rfl rfl rfl (htx _ kw_1_1) (htx _ kw_3_219) ⟨by decide, by decide, by decide +kernel⟩ ⟨Nat.le_of_ble_eq_true rfl, Nat.le_of_ble_eq_true rfl⟩, (htx _ kw_3_221), (htx _ kp_B_demandDone)⟩ ⟨xPre_blind, va_recv hK hP (ci := 0) rfl (q0 := 0) rfl, (fun U hU hW => ⟨rfl, xPre_of hZ hS hFc hPc hDc hK U hU hW⟩)⟩ rfl rfl hl.1 rfl (lv_room (Nat.le_of_ble_eq_true rfl)) dB_binary_67 ⟨Nat.le_of_ble_eq_true rfl, Nat.le_of_ble_eq_true rfl⟩) hS (fun q _ h => hFc q h) hFc (fun u9 t H1 locs ht hvm hr9 hB hz1 hk1 hS => ?_)
  obtain ⟨hP1, hK1, hD1⟩ := hB
  rw [ht] at hP1
  obtain ⟨hP, hD⟩ := xjoin (W := [(a0, .inr (0, [v23, v24, .ref a6, .ref a2, v25, .ref a1, v26, v27])), (a2, .inl (cT 3, 8, .inr (.inr (.inr (.inr f30))))), (a6, .inr (1, [.ref a7, v39, v40])), (a7, .inl (cT 0, 4096, .inl f41)), (a3, .inr (2, [.ref a4, .int 1, v35])), (a4, .inl (cT 2, 4096, .inr (.inl f36))), (a1, .inr (2, [.ref a5, .int 1, .int 0])), (a5, .inl (cT 2, 4096, .inr (.inl (vp_updL f38 0 0))))]) hP hD [] [0, 1, 2, 3, 4, 5, 6, 7] 8 rfl rfl (by decide) (by decide) hk1 hFc hP1 hD1
  generalize H1 = H at hP hS ⊢
  refine lv_aload_n hx hb dB_binary_70 rfl (lv_at hl 0 rfl) ?_
  refine lv_iload_n hx hb dB_binary_71 rfl (lv_at hl 1 rfl) ?_
  obtain ⟨hPc, hDc, hFc⟩ := xcut (wc := [(a0, .inr (0, [v23, v24, .ref a6, .ref a2, v25, .ref a1, v26, v27])), (a6, .inr (1, [.ref a7, v39, v40])), (a1, .inr (2, [.ref a5, .int 1, .int 0])), (a5, .inl (cT 2, 4096, .inr (.inl (vp_updL f38 0 0)))), (a7, .inl (cT 0, 4096, .inl f41)), (a2, .inl (cT 3, 8, .inr (.inr (.inr (.inr f30)))))]) hP hD hS hA [0, 2, 6, 7, 3, 1] rfl rfl (by decide)
  refine va_calli (va_runV (C := "ValueBench") (As := [.int x8]) (rest := []) ⟨hx, hb, hml, hown, htx⟩ (cB_keepSpare_4 l hl9 D cT aK aV H.size a0 a6 a1 a5 a7 a2 x8 v23 v24 v25 v26 v27 v39 v40 (vp_updL f38 0 0) f41 f30 b33 h9 h10 h11 h12 (by first | rfl | exact h31 | exact h32 | exact h34 | exact h37) (by first | rfl | exact h31 | exact h32 | exact h34 | exact h37)) ⟨callB_of 1 htx (xw_goodC kw_3_17) rfl rfl rfl (htx _ kw_1_1) (htx _ kw_3_14) ⟨by decide, by decide, by decide +kernel⟩ ⟨Nat.le_of_ble_eq_true rfl, Nat.le_of_ble_eq_true rfl⟩, (htx _ kw_3_16), (htx _ kp_B_keepSpare)⟩ ⟨xPre_blind, va_recv hK hP (ci := 0) rfl (q0 := 0) rfl, (fun U hU hW => ⟨rfl, xPre_of hZ hS hFc hPc hDc hK U hU hW⟩)⟩ rfl rfl hl.1 rfl (lv_room (Nat.le_of_ble_eq_true rfl)) dB_binary_72 ⟨Nat.le_of_ble_eq_true rfl, Nat.le_of_ble_eq_true rfl⟩) hS (fun q _ h => hFc q h) hFc (fun r6 u9 t H1 locs ht hvm hr9 hB hz1 hk1 hS => ?_)
  obtain ⟨y7, y8, y9, y10, hP1, hK1, hD1⟩ := hB
  rw [ht] at hP1
  obtain ⟨hP, hD⟩ := xjoin (W := [(a3, .inr (2, [.ref a4, .int 1, v35])), (a4, .inl (cT 2, 4096, .inr (.inl f36))), (a0, .inr (0, [v23, v24, .ref a6, .ref a2, v25, .ref b33, v26, v27])), (a6, .inr (1, [.ref a7, .int 4, .int 0])), (a1, .inr (2, [.ref a5, .int 1, .int 0])), (a5, .inl (cT 2, 4096, .inr (.inl (vp_updL f38 0 0)))), (a7, .inl (cT 0, 4096, .inl (upd (upd (upd (upd f41 0 (vp_nar .byte y7)) 1 (vp_nar .byte y8)) 2 (vp_nar .byte y9)) 3 (vp_nar .byte y10)))), (a2, .inl (cT 3, 8, .inr (.inr (.inr (.inr (va_up f30 x8.toNatClampNeg (some a1)))))))]) hP hD [0, 2, 6, 7, 3, 1] [4, 5] 2 rfl rfl (by decide) (by decide) hk1 hFc hP1 hD1
  generalize H1 = H at hP hS ⊢
  rw [hr9]
  refine W.eq (g2 := F0 m 75 ls [.int 4]) rfl ?_
  refine lv_pop hx hb dB_binary_75 rfl ?_
  obtain ⟨hP9, hD9⟩ := xsub (wc := [(a0, .inr (0, [v23, v24, .ref a6, .ref a2, v25, .ref b33, v26, v27])), (a1, .inr (2, [.ref a5, .int 1, .int 0])), (a2, .inl (cT 3, 8, .inr (.inr (.inr (.inr (va_up f30 x8.toNatClampNeg (some a1))))))), (a3, .inr (2, [.ref a4, .int 1, v35])), (a4, .inl (cT 2, 4096, .inr (.inl f36))), (a5, .inl (cT 2, 4096, .inr (.inl (vp_updL f38 0 0)))), (a6, .inr (1, [.ref a7, .int 4, .int 0])), (a7, .inl (cT 0, 4096, .inl (upd (upd (upd (upd f41 0 (vp_nar .byte y7)) 1 (vp_nar .byte y8)) 2 (vp_nar .byte y9)) 3 (vp_nar .byte y10))))]) hP hD [2, 4, 7, 0, 1, 5, 3, 6] rfl rfl (by decide)
  refine W.widen (k := 0) (n := 0) (Nat.le_of_ble_eq_true rfl) (Nat.le_of_ble_eq_true rfl) ?_
  exact W.vret hx hb hr (fun t ht hW => ⟨⟨(), rfl, trivial, y7, y8, y9, y10, by rw [ht]; exact hP9, va_K.moved hW.alike hK, hD9⟩, hS.F ht⟩) hS.2.2 dB_binary_76
set_option maxHeartbeats 400000000 in
set_option maxRecDepth 100000 in
theorem cL_binary_1 (l : Launch) (hl9 : l.stackTraces = false) (D : va_G) (cT : Nat → ClassId) (aK aV : Nat → Nat) (sz : Nat) (a0 : Nat) (a1 : Nat) (a2 : Nat) (a3 : Nat) (a4 : Nat) (a5 : Nat) (a6 : Nat) (a7 : Nat) (x8 : Int32) (x13 : Int32) (x18 : Int32) (v23 : Value) (v24 : Value) (v25 : Value) (v26 : Value) (v27 : Value) (v28 : Value) (v29 : Value) (f30 : Nat → Option Nat) (b33 : Nat) (v35 : Value) (f36 : Nat → Int64) (f38 : Nat → Int64) (v39 : Value) (v40 : Value) (f41 : Nat → Int32) (h9 : ¬ x8 < 0) (h10 : ¬ 7 < x8) (h11 : x8 ≤ 7) (h12 : vp_in x8 8) (h14 : ¬ x13 < 0) (h15 : ¬ 7 < x13) (h16 : x13 ≤ 7) (h17 : vp_in x13 8) (h19 : ¬ x18 < 0) (h20 : ¬ 7 < x18) (h21 : x18 ≤ 7) (h22 : vp_in x18 8) (h31 : f30 x13.toNatClampNeg = some a3) (h32 : f30 x18.toNatClampNeg = some a3) (h34 : f30 x8.toNatClampNeg = some b33) (h37 : f36 0 = 0) : xMet l yL_binary wyL_binary 8 0 0 176 D cT aK aV sz [.ref a0, .int x8, .int 0, .int x13, .int x18] [(a0, .inr (0, [v23, v24, .ref a6, .ref a2, v25, .ref a1, v26, v27])), (a1, .inr (2, [.ref a5, v28, v29])), (a2, .inl (cT 3, 8, .inr (.inr (.inr (.inr f30))))), (a3, .inr (2, [.ref a4, .int 1, v35])), (a4, .inl (cT 2, 4096, .inr (.inl f36))), (a5, .inl (cT 2, 4096, .inr (.inl f38))), (a6, .inr (1, [.ref a7, v39, v40])), (a7, .inl (cT 0, 4096, .inl f41))] (fun A => va_Qi (fun (r : Int32) (_ : Unit) => r = 0) (fun _ t => ∃ (y1 : Int32) (y2 : Int32) (y3 : Int32) (y4 : Int32), xB D xcl cT A [(a0, .inr (0, [v23, v24, .ref a6, .ref a2, v25, .ref a1, v26, v27])), (a1, .inr (2, [.ref a5, .int 1, .int 0])), (a2, .inl (cT 3, 8, .inr (.inr (.inr (.inr (va_up f30 x8.toNatClampNeg (some a1))))))), (a3, .inr (2, [.ref a4, .int 1, v35])), (a4, .inl (cT 2, 4096, .inr (.inl f36))), (a5, .inl (cT 2, 4096, .inr (.inl (vp_updL f38 0 0)))), (a6, .inr (1, [.ref a7, .int 4, .int 0])), (a7, .inl (cT 0, 4096, .inl (upd (upd (upd (upd f41 0 (vp_nar .byte y1)) 1 (vp_nar .byte y2)) 2 (vp_nar .byte y3)) 3 (vp_nar .byte y4))))] t) A) := by
  refine va_MetW (cc := method_7_code) (maxL := 6) (ret := (some .int)) (hh := [(0, 9, 12, 19), (0, 9, 16, 33), (0, 9, 20, 13)]) (by decide) rfl ?_
  intro p e s m args below meth c s₁ B hml hv
  obtain ⟨rfl, hsz, hZ, hP, hK, hD0⟩ := hv
  have hx := B.exec
  have hb := B.bytes
  have hr := B.returns
  have hts := atoms_spec (ws := wyL_binary) B.pre
  have htx := fun w h => hts w (List.mem_cons_of_mem _ h)
  have hown : s.vm.findClass "ValueBenchLaw" = some m.cls := findClass_of_methodNamed B.named
  have hlocks := B.notSynchronized
  subst hsz
  have hD := hD0.self (sz := s.heap.size)
  generalize hAe : va_A [(a0, .inr (0, [v23, v24, .ref a6, .ref a2, v25, .ref a1, v26, v27])), (a1, .inr (2, [.ref a5, v28, v29])), (a2, .inl (cT 3, 8, .inr (.inr (.inr (.inr f30))))), (a3, .inr (2, [.ref a4, .int 1, v35])), (a4, .inl (cT 2, 4096, .inr (.inl f36))), (a5, .inl (cT 2, 4096, .inr (.inl f38))), (a6, .inr (1, [.ref a7, v39, v40])), (a7, .inl (cT 0, 4096, .inl f41))] s.heap.size = A at hD hZ ⊢
  have hA : ∀ q : Nat, s.heap.size ≤ q → A q := fun q h => by rw [← hAe]; exact Or.inr h
  have hS : va_S A s.heap s.heap [] := va_S.rf
  have hP : va_P D xcl [(a0, .inr (0, [v23, v24, .ref a6, .ref a2, v25, .ref a1, v26, v27])), (a1, .inr (2, [.ref a5, v28, v29])), (a2, .inl (cT 3, 8, .inr (.inr (.inr (.inr f30))))), (a3, .inr (2, [.ref a4, .int 1, v35])), (a4, .inl (cT 2, 4096, .inr (.inl f36))), (a5, .inl (cT 2, 4096, .inr (.inl f38))), (a6, .inr (1, [.ref a7, v39, v40])), (a7, .inl (cT 0, 4096, .inl f41))] s.heap := hP
  have hl := lv_entry ([.ref a0, .int x8, .int 0, .int x13, .int x18]) (n := 6) (Nat.le_of_ble_eq_true rfl)
  rw [lg_entry_eq]
  generalize (lg_sl ([.ref a0, .int x8, .int 0, .int x13, .int x18]) ++ List.replicate (6 - (lg_sl ([.ref a0, .int x8, .int 0, .int x13, .int x18])).length) Slot.unset).toArray = ls at hl ⊢
  have hl : lv_has ls 6 [(0, .ref a0), (1, .int x8), (2, .int 0), (3, .int x13), (4, .int x18)] := hl
  have htab := vx_table (x := yL_binary) B (hts _ List.mem_cons_self)
  refine lv_aload_n hx hb dL_binary_0 rfl (lv_at hl 0 rfl) ?_
  refine lv_iload_n hx hb dL_binary_1 rfl (lv_at hl 1 rfl) ?_
  refine lv_iload_n hx hb dL_binary_2 rfl (lv_at hl 2 rfl) ?_
  refine lv_iload_n hx hb dL_binary_3 rfl (lv_at hl 3 rfl) ?_
  refine lv_iload hx hb dL_binary_4 (lv_at hl 4 rfl) ?_
  obtain ⟨hPc, hDc, hFc⟩ := xcut (wc := [(a0, .inr (0, [v23, v24, .ref a6, .ref a2, v25, .ref a1, v26, v27])), (a1, .inr (2, [.ref a5, v28, v29])), (a2, .inl (cT 3, 8, .inr (.inr (.inr (.inr f30))))), (a3, .inr (2, [.ref a4, .int 1, v35])), (a4, .inl (cT 2, 4096, .inr (.inl f36))), (a5, .inl (cT 2, 4096, .inr (.inl f38))), (a6, .inr (1, [.ref a7, v39, v40])), (a7, .inl (cT 0, 4096, .inl f41))]) hP hD hS hA [0, 1, 2, 3, 4, 5, 6, 7] rfl rfl (by decide)
  refine va_callv (va_runV (C := "ValueBench") (As := [.int x8, .int 0, .int x13, .int x18]) (rest := []) ⟨hx, hb, hml, hown, htx⟩ (cB_binary_1 l hl9 D cT aK aV s.heap.size a0 a1 a2 a3 a4 a5 a6 a7 x8 x13 x18 v23 v24 v25 v26 v27 v28 v29 f30 b33 v35 f36 f38 v39 v40 f41 h9 h10 h11 h12 h14 h15 h16 h17 h19 h20 h21 h22 (by first | rfl | exact h31 | exact h32 | exact h34 | exact h37) (by first | rfl | exact h31 | exact h32 | exact h34 | exact h37) (by first | rfl | exact h31 | exact h32 | exact h34 | exact h37) (by first | rfl | exact h31 | exact h32 | exact h34 | exact h37)) ⟨callB_of 4 htx (xw_goodC kw_3_102) rfl rfl rfl (htx _ kw_1_1) (htx _ kw_3_99) ⟨by decide, by decide, by decide +kernel⟩ ⟨Nat.le_of_ble_eq_true rfl, Nat.le_of_ble_eq_true rfl⟩, (htx _ kw_3_100), (htx _ kw_3_101)⟩ ⟨xPre_blind, va_recv hK hP (ci := 0) rfl (q0 := 0) rfl, (fun U hU hW => ⟨rfl, xPre_of hZ hS hFc hPc hDc hK U hU hW⟩)⟩ rfl rfl hl.1 rfl (lv_room (Nat.le_of_ble_eq_true rfl)) dL_binary_6 ⟨Nat.le_of_ble_eq_true rfl, Nat.le_of_ble_eq_true rfl⟩) hS (fun q _ h => hFc q h) hFc (fun u9 t H1 locs ht hvm hr9 hB hz1 hk1 hS => ?_)
  obtain ⟨y1, y2, y3, y4, hP1, hK1, hD1⟩ := hB
  rw [ht] at hP1
  obtain ⟨hP, hD⟩ := xjoin (W := [(a0, .inr (0, [v23, v24, .ref a6, .ref a2, v25, .ref a1, v26, v27])), (a1, .inr (2, [.ref a5, .int 1, .int 0])), (a2, .inl (cT 3, 8, .inr (.inr (.inr (.inr (va_up f30 x8.toNatClampNeg (some a1))))))), (a3, .inr (2, [.ref a4, .int 1, v35])), (a4, .inl (cT 2, 4096, .inr (.inl f36))), (a5, .inl (cT 2, 4096, .inr (.inl (vp_updL f38 0 0)))), (a6, .inr (1, [.ref a7, .int 4, .int 0])), (a7, .inl (cT 0, 4096, .inl (upd (upd (upd (upd f41 0 (vp_nar .byte y1)) 1 (vp_nar .byte y2)) 2 (vp_nar .byte y3)) 3 (vp_nar .byte y4))))]) hP hD [0, 1, 2, 3, 4, 5, 6, 7] [] 0 rfl rfl (by decide) (by decide) hk1 hFc hP1 hD1
  generalize H1 = H at hP hS ⊢
  refine lv_goto (tgt := 24) hx hb dL_binary_9 (by decide) ?_
  refine lv_iconst (v := 0) hx hb dL_binary_24 (by decide) ?_
  obtain ⟨hP9, hD9⟩ := xsub (wc := [(a0, .inr (0, [v23, v24, .ref a6, .ref a2, v25, .ref a1, v26, v27])), (a1, .inr (2, [.ref a5, .int 1, .int 0])), (a2, .inl (cT 3, 8, .inr (.inr (.inr (.inr (va_up f30 x8.toNatClampNeg (some a1))))))), (a3, .inr (2, [.ref a4, .int 1, v35])), (a4, .inl (cT 2, 4096, .inr (.inl f36))), (a5, .inl (cT 2, 4096, .inr (.inl (vp_updL f38 0 0)))), (a6, .inr (1, [.ref a7, .int 4, .int 0])), (a7, .inl (cT 0, 4096, .inl (upd (upd (upd (upd f41 0 (vp_nar .byte y1)) 1 (vp_nar .byte y2)) 2 (vp_nar .byte y3)) 3 (vp_nar .byte y4))))]) hP hD [0, 1, 2, 3, 4, 5, 6, 7] rfl rfl (by decide)
  refine W.widen (k := 0) (n := 0) (Nat.le_of_ble_eq_true rfl) (Nat.le_of_ble_eq_true rfl) ?_
  exact W.iret (v := 0) hx hb hr (fun t ht hW => ⟨⟨0, (), rfl, rfl, y1, y2, y3, y4, by rw [ht]; exact hP9, va_K.moved hW.alike hK, hD9⟩, hS.F ht⟩) hS.2.2 dL_binary_25
set_option maxHeartbeats 400000000 in
set_option maxRecDepth 100000 in
theorem cB_isWithin_25 (l : Launch) (hl9 : l.stackTraces = false) (D : va_G) (cT : Nat → ClassId) (aK aV : Nat → Nat) (sz : Nat) : xMet l yB_isWithin wyB_isWithin 0 0 0 0 D cT aK aV sz [.int 1, .int 4] [] (fun A => va_Qi (fun (r : Int32) (_ : Unit) => r = 1) (fun _ t => xB D xcl cT A [] t) A) := by
  refine Met.ofW (cc := prog_1_method_15_code) (maxL := 2) (ret := (some .boolean)) (by decide) rfl ?_
  intro p e s m args below meth c s₁ B hml hv
  obtain ⟨rfl, hsz, hZ, hP, hK, hD0⟩ := hv
  have hx := B.exec
  have hb := B.bytes
  have hr := B.returns
  have hts := atoms_spec (ws := wyB_isWithin) B.pre
  have htx := fun w h => hts w (List.mem_cons_of_mem _ h)
  have hown : s.vm.findClass "ValueBench" = some m.cls := findClass_of_methodNamed B.named
  have hlocks := B.notSynchronized
  subst hsz
  have hD := hD0.self (sz := s.heap.size)
  generalize hAe : va_A [] s.heap.size = A at hD hZ ⊢
  have hA : ∀ q : Nat, s.heap.size ≤ q → A q := fun q h => by rw [← hAe]; exact Or.inr h
  have hS : va_S A s.heap s.heap [] := va_S.rf
  have hP : va_P D xcl [] s.heap := hP
  have hl := lv_entry ([.int 1, .int 4]) (n := 2) (Nat.le_of_ble_eq_true rfl)
  rw [lg_entry_eq]
  generalize (lg_sl ([.int 1, .int 4]) ++ List.replicate (2 - (lg_sl ([.int 1, .int 4])).length) Slot.unset).toArray = ls at hl ⊢
  have hl : lv_has ls 2 [(0, .int 1), (1, .int 4)] := hl
  refine lv_iload_n hx hb dB_isWithin_0 rfl (lv_at hl 0 rfl) ?_
  refine lv_if_lt (tgt := 13) hx hb dB_isWithin_1 (by decide) (fun h => ((by revert h; decide : False)).elim) (fun _ => ?_)
  refine lv_iload_n hx hb dB_isWithin_4 rfl (lv_at hl 0 rfl) ?_
  refine lv_iload_n hx hb dB_isWithin_5 rfl (lv_at hl 1 rfl) ?_
  refine lv_icmp_gt (tgt := 13) hx hb dB_isWithin_6 (by decide) (fun h => ((by revert h; decide : False)).elim) (fun _ => ?_)
  refine lv_iconst (v := 1) hx hb dB_isWithin_9 (by decide) ?_
  refine lv_goto (tgt := 14) hx hb dB_isWithin_10 (by decide) ?_
  obtain ⟨hP9, hD9⟩ := xsub (wc := []) hP hD [] rfl rfl (by decide)
  refine W.widen (k := 0) (n := 0) (Nat.le_of_ble_eq_true rfl) (Nat.le_of_ble_eq_true rfl) ?_
  exact W.zret (v := 1) hx hb hr rfl (fun t ht hW => ⟨⟨1, (), rfl, rfl, by rw [ht]; exact hP9, va_K.moved hW.alike hK, hD9⟩, hS.F ht⟩) hS.2.2 dB_isWithin_14
set_option maxHeartbeats 400000000 in
set_option maxRecDepth 100000 in
theorem cA_minus_0 (l : Launch) (hl9 : l.stackTraces = false) (D : va_G) (cT : Nat → ClassId) (aK aV : Nat → Nat) (sz : Nat) (a0 : Nat) (a1 : Nat) (b2 : Nat) (b3 : Nat) (v4 : Value) (f5 : Nat → Int64) (h6 : f5 0 = 0) : xMet l yA_minus wyA_minus 2 0 0 43 D cT aK aV sz [.ref a0, .ref b2, .ref b3] [(a0, .inr (2, [.ref a1, .int 1, v4])), (a1, .inl (cT 2, 4096, .inr (.inl f5)))] (fun A => va_Qi (fun (r : Int32) (_ : Unit) => r = 1) (fun _ t => xB D xcl cT A [(a0, .inr (2, [.ref a1, .int 1, v4])), (a1, .inl (cT 2, 4096, .inr (.inl f5)))] t) A) := by
  refine Met.ofW (cc := prog_3_method_10_code) (maxL := 7) (ret := (some .int)) (by decide) rfl ?_
  intro p e s m args below meth c s₁ B hml hv
  obtain ⟨rfl, hsz, hZ, hP, hK, hD0⟩ := hv
  have hx := B.exec
  have hb := B.bytes
  have hr := B.returns
  have hts := atoms_spec (ws := wyA_minus) B.pre
  have htx := fun w h => hts w (List.mem_cons_of_mem _ h)
  have hown : s.vm.findClass "ValueBench$Operators" = some m.cls := findClass_of_methodNamed B.named
  have hlocks := B.notSynchronized
  subst hsz
  have hD := hD0.self (sz := s.heap.size)
  generalize hAe : va_A [(a0, .inr (2, [.ref a1, .int 1, v4])), (a1, .inl (cT 2, 4096, .inr (.inl f5)))] s.heap.size = A at hD hZ ⊢
  have hA : ∀ q : Nat, s.heap.size ≤ q → A q := fun q h => by rw [← hAe]; exact Or.inr h
  have hS : va_S A s.heap s.heap [] := va_S.rf
  have hP : va_P D xcl [(a0, .inr (2, [.ref a1, .int 1, v4])), (a1, .inl (cT 2, 4096, .inr (.inl f5)))] s.heap := hP
  have hl := lv_entry ([.ref a0, .ref b2, .ref b3]) (n := 7) (Nat.le_of_ble_eq_true rfl)
  rw [lg_entry_eq]
  generalize (lg_sl ([.ref a0, .ref b2, .ref b3]) ++ List.replicate (7 - (lg_sl ([.ref a0, .ref b2, .ref b3])).length) Slot.unset).toArray = ls at hl ⊢
  have hl : lv_has ls 7 [(0, .ref a0), (1, .ref b2), (2, .ref b3)] := hl
  refine lv_aload_n hx hb dA_minus_0 rfl (lv_at hl 0 rfl) ?_
  refine lv_iconst (v := 0) hx hb dA_minus_1 (by decide) ?_
  refine lv_iconst (v := 5) hx hb dA_minus_2 (by decide) ?_
  obtain ⟨hPc, hDc, hFc⟩ := xcut (wc := [(a0, .inr (2, [.ref a1, .int 1, v4])), (a1, .inl (cT 2, 4096, .inr (.inl f5)))]) hP hD hS hA [0, 1] rfl rfl (by decide)
  refine va_calli (va_runV (C := "ValueBench$Row") (As := [.int 0, .int 5]) (rest := []) ⟨hx, hb, hml, hown, htx⟩ (cR_is_2 l hl9 D cT aK aV s.heap.size a0 a1 v4 f5 (by first | rfl | exact h6)) ⟨callB_of 2 htx (xw_goodC kw_3_75) rfl rfl rfl (htx _ kw_1_4) (htx _ kw_3_106) ⟨by decide, by decide, by decide +kernel⟩ ⟨Nat.le_of_ble_eq_true rfl, Nat.le_of_ble_eq_true rfl⟩, (htx _ kw_3_73), (htx _ kw_3_74)⟩ ⟨xPre_blind, va_recv hK hP (ci := 2) rfl (q0 := 0) rfl, (fun U hU hW => ⟨rfl, xPre_of hZ hS hFc hPc hDc hK U hU hW⟩)⟩ rfl rfl hl.1 rfl (lv_room (Nat.le_of_ble_eq_true rfl)) dA_minus_3 ⟨Nat.le_of_ble_eq_true rfl, Nat.le_of_ble_eq_true rfl⟩) hS (fun q _ h => hFc q h) hFc (fun r1 u9 t H1 locs ht hvm hr9 hB hz1 hk1 hS => ?_)
  obtain ⟨hP1, hK1, hD1⟩ := hB
  rw [ht] at hP1
  obtain ⟨hP, hD⟩ := xjoin (W := [(a0, .inr (2, [.ref a1, .int 1, v4])), (a1, .inl (cT 2, 4096, .inr (.inl f5)))]) hP hD [0, 1] [] 0 rfl rfl (by decide) (by decide) hk1 hFc hP1 hD1
  generalize H1 = H at hP hS ⊢
  rw [hr9]
  refine W.eq (g2 := F0 m 6 ls [.int 0]) rfl ?_
  refine lv_if_eq (tgt := 18) hx hb dA_minus_6 (by decide) (fun _ => ?_) (fun h => ((by revert h; decide : False)).elim)
  refine lv_iconst (v := 1) hx hb dA_minus_18 (by decide) ?_
  obtain ⟨hP9, hD9⟩ := xsub (wc := [(a0, .inr (2, [.ref a1, .int 1, v4])), (a1, .inl (cT 2, 4096, .inr (.inl f5)))]) hP hD [0, 1] rfl rfl (by decide)
  refine W.widen (k := 0) (n := 0) (Nat.le_of_ble_eq_true rfl) (Nat.le_of_ble_eq_true rfl) ?_
  exact W.iret (v := 1) hx hb hr (fun t ht hW => ⟨⟨1, (), rfl, rfl, by rw [ht]; exact hP9, va_K.moved hW.alike hK, hD9⟩, hS.F ht⟩) hS.2.2 dA_minus_19
set_option maxHeartbeats 400000000 in
set_option maxRecDepth 100000 in
theorem cA_apply_2 (l : Launch) (hl9 : l.stackTraces = false) (D : va_G) (cT : Nat → ClassId) (aK aV : Nat → Nat) (sz : Nat) (a0 : Nat) (a1 : Nat) (b2 : Nat) (b3 : Nat) (v4 : Value) (f5 : Nat → Int64) (h6 : f5 0 = 0) : xMet l yA_apply wyA_apply 3 0 0 69 D cT aK aV sz [.int 1, .ref a0, .ref b2, .ref b3] [(a0, .inr (2, [.ref a1, .int 1, v4])), (a1, .inl (cT 2, 4096, .inr (.inl f5)))] (fun A => va_Qi (fun (r : Int32) (_ : Unit) => r = 1) (fun _ t => xB D xcl cT A [(a0, .inr (2, [.ref a1, .int 1, v4])), (a1, .inl (cT 2, 4096, .inr (.inl f5)))] t) A) := by
  refine Met.ofW (cc := prog_3_method_2_code) (maxL := 4) (ret := (some .int)) (by decide) rfl ?_
  intro p e s m args below meth c s₁ B hml hv
  obtain ⟨rfl, hsz, hZ, hP, hK, hD0⟩ := hv
  have hx := B.exec
  have hb := B.bytes
  have hr := B.returns
  have hts := atoms_spec (ws := wyA_apply) B.pre
  have htx := fun w h => hts w (List.mem_cons_of_mem _ h)
  have hown : s.vm.findClass "ValueBench$Operators" = some m.cls := findClass_of_methodNamed B.named
  have hlocks := B.notSynchronized
  subst hsz
  have hD := hD0.self (sz := s.heap.size)
  generalize hAe : va_A [(a0, .inr (2, [.ref a1, .int 1, v4])), (a1, .inl (cT 2, 4096, .inr (.inl f5)))] s.heap.size = A at hD hZ ⊢
  have hA : ∀ q : Nat, s.heap.size ≤ q → A q := fun q h => by rw [← hAe]; exact Or.inr h
  have hS : va_S A s.heap s.heap [] := va_S.rf
  have hP : va_P D xcl [(a0, .inr (2, [.ref a1, .int 1, v4])), (a1, .inl (cT 2, 4096, .inr (.inl f5)))] s.heap := hP
  have hl := lv_entry ([.int 1, .ref a0, .ref b2, .ref b3]) (n := 4) (Nat.le_of_ble_eq_true rfl)
  rw [lg_entry_eq]
  generalize (lg_sl ([.int 1, .ref a0, .ref b2, .ref b3]) ++ List.replicate (4 - (lg_sl ([.int 1, .ref a0, .ref b2, .ref b3])).length) Slot.unset).toArray = ls at hl ⊢
  have hl : lv_has ls 4 [(0, .int 1), (1, .ref a0), (2, .ref b2), (3, .ref b3)] := hl
  refine lv_aload_n hx hb dA_apply_0 rfl (lv_at hl 1 rfl) ?_
  refine lv_iconst (v := 0) hx hb dA_apply_1 (by decide) ?_
  refine lv_iconst (v := 3) hx hb dA_apply_2 (by decide) ?_
  obtain ⟨hPc, hDc, hFc⟩ := xcut (wc := [(a0, .inr (2, [.ref a1, .int 1, v4])), (a1, .inl (cT 2, 4096, .inr (.inl f5)))]) hP hD hS hA [0, 1] rfl rfl (by decide)
  refine va_calli (va_runV (C := "ValueBench$Row") (As := [.int 0, .int 3]) (rest := []) ⟨hx, hb, hml, hown, htx⟩ (cR_is_4 l hl9 D cT aK aV s.heap.size a0 a1 v4 f5 (by first | rfl | exact h6)) ⟨callB_of 2 htx (xw_goodC kw_3_75) rfl rfl rfl (htx _ kw_1_4) (htx _ kw_3_106) ⟨by decide, by decide, by decide +kernel⟩ ⟨Nat.le_of_ble_eq_true rfl, Nat.le_of_ble_eq_true rfl⟩, (htx _ kw_3_73), (htx _ kw_3_74)⟩ ⟨xPre_blind, va_recv hK hP (ci := 2) rfl (q0 := 0) rfl, (fun U hU hW => ⟨rfl, xPre_of hZ hS hFc hPc hDc hK U hU hW⟩)⟩ rfl rfl hl.1 rfl (lv_room (Nat.le_of_ble_eq_true rfl)) dA_apply_3 ⟨Nat.le_of_ble_eq_true rfl, Nat.le_of_ble_eq_true rfl⟩) hS (fun q _ h => hFc q h) hFc (fun r1 u9 t H1 locs ht hvm hr9 hB hz1 hk1 hS => ?_)
  obtain ⟨hP1, hK1, hD1⟩ := hB
  rw [ht] at hP1
  obtain ⟨hP, hD⟩ := xjoin (W := [(a0, .inr (2, [.ref a1, .int 1, v4])), (a1, .inl (cT 2, 4096, .inr (.inl f5)))]) hP hD [0, 1] [] 0 rfl rfl (by decide) (by decide) hk1 hFc hP1 hD1
  generalize H1 = H at hP hS ⊢
  rw [hr9]
  refine W.eq (g2 := F0 m 6 ls [.int 0]) rfl ?_
  refine lv_if_eq (tgt := 34) hx hb dA_apply_6 (by decide) (fun _ => ?_) (fun h => ((by revert h; decide : False)).elim)
  refine lv_iload_n hx hb dA_apply_34 rfl (lv_at hl 0 rfl) ?_
  refine lv_tableIn (off := 36) (tgt := 71) hx hb dA_apply_35 (by decide) (by decide) (by decide) (by decide) ?_
  refine lv_aload_n hx hb dA_apply_71 rfl (lv_at hl 1 rfl) ?_
  refine lv_aload_n hx hb dA_apply_72 rfl (lv_at hl 2 rfl) ?_
  refine lv_aload_n hx hb dA_apply_73 rfl (lv_at hl 3 rfl) ?_
  obtain ⟨hPc, hDc, hFc⟩ := xcut (wc := [(a0, .inr (2, [.ref a1, .int 1, v4])), (a1, .inl (cT 2, 4096, .inr (.inl f5)))]) hP hD hS hA [0, 1] rfl rfl (by decide)
  refine va_calli (va_runS (As := [.ref a0, .ref b2, .ref b3]) (rest := []) ⟨hx, hb, hml, hown, htx⟩ (cA_minus_0 l hl9 D cT aK aV H.size a0 a1 b2 b3 v4 f5 (by first | rfl | exact h6)) ⟨callB_of 3 htx (xw_goodC kw_3_155) rfl rfl rfl (htx _ kw_1_21) (htx _ kw_3_153) ⟨by decide, by decide, by decide +kernel⟩ ⟨Nat.le_of_ble_eq_true rfl, Nat.le_of_ble_eq_true rfl⟩, htx _ kw_3_154⟩ ⟨xPre_blind, (fun U hU hW => ⟨rfl, xPre_of hZ hS hFc hPc hDc hK U hU hW⟩)⟩ rfl rfl hl.1 rfl (lv_room (Nat.le_of_ble_eq_true rfl)) dA_apply_74 ⟨Nat.le_of_ble_eq_true rfl, Nat.le_of_ble_eq_true rfl⟩) hS (fun q _ h => hFc q h) hFc (fun r2 u9 t H1 locs ht hvm hr9 hB hz1 hk1 hS => ?_)
  obtain ⟨hP1, hK1, hD1⟩ := hB
  rw [ht] at hP1
  obtain ⟨hP, hD⟩ := xjoin (W := [(a0, .inr (2, [.ref a1, .int 1, v4])), (a1, .inl (cT 2, 4096, .inr (.inl f5)))]) hP hD [0, 1] [] 0 rfl rfl (by decide) (by decide) hk1 hFc hP1 hD1
  generalize H1 = H at hP hS ⊢
  rw [hr9]
  refine W.eq (g2 := F0 m 77 ls [.int 1]) rfl ?_
  obtain ⟨hP9, hD9⟩ := xsub (wc := [(a0, .inr (2, [.ref a1, .int 1, v4])), (a1, .inl (cT 2, 4096, .inr (.inl f5)))]) hP hD [0, 1] rfl rfl (by decide)
  refine W.widen (k := 0) (n := 0) (Nat.le_of_ble_eq_true rfl) (Nat.le_of_ble_eq_true rfl) ?_
  exact W.iret (v := 1) hx hb hr (fun t ht hW => ⟨⟨1, (), rfl, rfl, by rw [ht]; exact hP9, va_K.moved hW.alike hK, hD9⟩, hS.F ht⟩) hS.2.2 dA_apply_77
set_option maxHeartbeats 400000000 in
set_option maxRecDepth 100000 in
theorem cB_binary_2 (l : Launch) (hl9 : l.stackTraces = false) (D : va_G) (cT : Nat → ClassId) (aK aV : Nat → Nat) (sz : Nat) (a0 : Nat) (a1 : Nat) (a2 : Nat) (a3 : Nat) (a4 : Nat) (x5 : Int32) (x10 : Int32) (x15 : Int32) (v20 : Value) (v21 : Value) (v22 : Value) (v23 : Value) (v24 : Value) (v25 : Value) (v26 : Value) (v27 : Value) (v28 : Value) (f29 : Nat → Option Nat) (b31 : Nat) (v33 : Value) (f34 : Nat → Int64) (h6 : ¬ x5 < 0) (h7 : ¬ 7 < x5) (h8 : x5 ≤ 7) (h9 : vp_in x5 8) (h11 : ¬ x10 < 0) (h12 : ¬ 7 < x10) (h13 : x10 ≤ 7) (h14 : vp_in x10 8) (h16 : ¬ x15 < 0) (h17 : ¬ 7 < x15) (h18 : x15 ≤ 7) (h19 : vp_in x15 8) (h30 : f29 x10.toNatClampNeg = some a3) (h32 : f29 x15.toNatClampNeg = some b31) (h35 : f34 0 = 0) : xMetX l yB_binary wyB_binary 7 1 6 121 D cT aK aV sz [.ref a0, .int x5, .int 1, .int x10, .int x15] [(a0, .inr (0, [v20, v21, v22, .ref a2, v23, .ref a1, v24, v25])), (a1, .inr (2, [v26, v27, v28])), (a2, .inl (cT 3, 8, .inr (.inr (.inr (.inr f29))))), (a3, .inr (2, [.ref a4, .int 1, v33])), (a4, .inl (cT 2, 4096, .inr (.inl f34)))] "java/lang/ArithmeticException" (fun A t => xB D xcl cT A [(a0, .inr (0, [v20, v21, v22, .ref a2, v23, .ref a1, v24, .int 1])), (a1, .inr (2, [v26, .int 0, .int 0])), (a2, .inl (cT 3, 8, .inr (.inr (.inr (.inr f29))))), (a3, .inr (2, [.ref a4, .int 1, v33])), (a4, .inl (cT 2, 4096, .inr (.inl f34)))] t) := by
  refine vx_ofW (cc := prog_1_method_6_code) (maxL := 5) (ret := none) (by decide) rfl ?_
  intro p e s m args below meth c s₁ B hml hne hv
  obtain ⟨rfl, hsz, hZ, hP, hK, hD0⟩ := hv
  have hx := B.exec
  have hb := B.bytes
  have hr := B.returns
  have hts := atoms_spec (ws := wyB_binary) B.pre
  have htx := fun w h => hts w (List.mem_cons_of_mem _ h)
  have hown : s.vm.findClass "ValueBench" = some m.cls := findClass_of_methodNamed B.named
  have hlocks := B.notSynchronized
  subst hsz
  have hD := hD0.self (sz := s.heap.size)
  generalize hAe : va_A [(a0, .inr (0, [v20, v21, v22, .ref a2, v23, .ref a1, v24, v25])), (a1, .inr (2, [v26, v27, v28])), (a2, .inl (cT 3, 8, .inr (.inr (.inr (.inr f29))))), (a3, .inr (2, [.ref a4, .int 1, v33])), (a4, .inl (cT 2, 4096, .inr (.inl f34)))] s.heap.size = A at hD hZ ⊢
  have hA : ∀ q : Nat, s.heap.size ≤ q → A q := fun q h => by rw [← hAe]; exact Or.inr h
  have hS : va_S A s.heap s.heap [] := va_S.rf
  have hP : va_P D xcl [(a0, .inr (0, [v20, v21, v22, .ref a2, v23, .ref a1, v24, v25])), (a1, .inr (2, [v26, v27, v28])), (a2, .inl (cT 3, 8, .inr (.inr (.inr (.inr f29))))), (a3, .inr (2, [.ref a4, .int 1, v33])), (a4, .inl (cT 2, 4096, .inr (.inl f34)))] s.heap := hP
  have hl := lv_entry ([.ref a0, .int x5, .int 1, .int x10, .int x15]) (n := 5) (Nat.le_of_ble_eq_true rfl)
  rw [lg_entry_eq]
  generalize (lg_sl ([.ref a0, .int x5, .int 1, .int x10, .int x15]) ++ List.replicate (5 - (lg_sl ([.ref a0, .int x5, .int 1, .int x10, .int x15])).length) Slot.unset).toArray = ls at hl ⊢
  have hl : lv_has ls 5 [(0, .ref a0), (1, .int x5), (2, .int 1), (3, .int x10), (4, .int x15)] := hl
  refine lv_iload_n hx hb dB_binary_0 rfl (lv_at hl 1 rfl) ?_
  obtain ⟨hPc, hDc, hFc⟩ := xcut (wc := []) hP hD hS hA [] rfl rfl (by decide)
  refine va_calli (va_runS (As := [.int x5]) (rest := []) ⟨hx, hb, hml, hown, htx⟩ (cB_isRegister_0 l hl9 D cT aK aV s.heap.size x5 h6 h7 h8 h9) ⟨callB_of 1 htx (xw_goodC kw_2_18) rfl rfl rfl (htx _ kw_1_1) (htx _ kw_2_16) ⟨by decide, by decide, by decide +kernel⟩ ⟨Nat.le_of_ble_eq_true rfl, Nat.le_of_ble_eq_true rfl⟩, htx _ kw_2_17⟩ ⟨xPre_blind, (fun U hU hW => ⟨rfl, xPre_of hZ hS hFc hPc hDc hK U hU hW⟩)⟩ rfl rfl hl.1 rfl (lv_room (Nat.le_of_ble_eq_true rfl)) dB_binary_1 ⟨Nat.le_of_ble_eq_true rfl, Nat.le_of_ble_eq_true rfl⟩) hS (fun q _ h => hFc q h) hFc (fun r1 u9 t H1 locs ht hvm hr9 hB hz1 hk1 hS => ?_)
  obtain ⟨hP1, hK1, hD1⟩ := hB
  rw [ht] at hP1
  obtain ⟨hP, hD⟩ := xjoin (W := [(a0, .inr (0, [v20, v21, v22, .ref a2, v23, .ref a1, v24, v25])), (a1, .inr (2, [v26, v27, v28])), (a2, .inl (cT 3, 8, .inr (.inr (.inr (.inr f29))))), (a3, .inr (2, [.ref a4, .int 1, v33])), (a4, .inl (cT 2, 4096, .inr (.inl f34)))]) hP hD [] [0, 1, 2, 3, 4] 5 rfl rfl (by decide) (by decide) hk1 hFc hP1 hD1
  generalize H1 = H at hP hS ⊢
  rw [hr9]
  refine W.eq (g2 := F0 m 4 ls [.int 1]) rfl ?_
  refine lv_if_eq (tgt := 34) hx hb dB_binary_4 (by decide) (fun h => ((by revert h; decide : False)).elim) (fun _ => ?_)
  refine lv_iload_n hx hb dB_binary_7 rfl (lv_at hl 2 rfl) ?_
  refine lv_iconst (v := 4) hx hb dB_binary_8 (by decide) ?_
  obtain ⟨hPc, hDc, hFc⟩ := xcut (wc := []) hP hD hS hA [] rfl rfl (by decide)
  refine va_calli (va_runS (As := [.int 1, .int 4]) (rest := []) ⟨hx, hb, hml, hown, htx⟩ (cB_isWithin_25 l hl9 D cT aK aV H.size) ⟨callB_of 2 htx (xw_goodC kw_1_218) rfl rfl rfl (htx _ kw_1_1) (htx _ kw_1_216) ⟨by decide, by decide, by decide +kernel⟩ ⟨Nat.le_of_ble_eq_true rfl, Nat.le_of_ble_eq_true rfl⟩, htx _ kw_1_217⟩ ⟨xPre_blind, (fun U hU hW => ⟨rfl, xPre_of hZ hS hFc hPc hDc hK U hU hW⟩)⟩ rfl rfl hl.1 rfl (lv_room (Nat.le_of_ble_eq_true rfl)) dB_binary_9 ⟨Nat.le_of_ble_eq_true rfl, Nat.le_of_ble_eq_true rfl⟩) hS (fun q _ h => hFc q h) hFc (fun r2 u9 t H1 locs ht hvm hr9 hB hz1 hk1 hS => ?_)
  obtain ⟨hP1, hK1, hD1⟩ := hB
  rw [ht] at hP1
  obtain ⟨hP, hD⟩ := xjoin (W := [(a0, .inr (0, [v20, v21, v22, .ref a2, v23, .ref a1, v24, v25])), (a1, .inr (2, [v26, v27, v28])), (a2, .inl (cT 3, 8, .inr (.inr (.inr (.inr f29))))), (a3, .inr (2, [.ref a4, .int 1, v33])), (a4, .inl (cT 2, 4096, .inr (.inl f34)))]) hP hD [] [0, 1, 2, 3, 4] 5 rfl rfl (by decide) (by decide) hk1 hFc hP1 hD1
  generalize H1 = H at hP hS ⊢
  rw [hr9]
  refine W.eq (g2 := F0 m 12 ls [.int 1]) rfl ?_
  refine lv_if_eq (tgt := 34) hx hb dB_binary_12 (by decide) (fun h => ((by revert h; decide : False)).elim) (fun _ => ?_)
  refine lv_iload_n hx hb dB_binary_15 rfl (lv_at hl 3 rfl) ?_
  obtain ⟨hPc, hDc, hFc⟩ := xcut (wc := []) hP hD hS hA [] rfl rfl (by decide)
  refine va_calli (va_runS (As := [.int x10]) (rest := []) ⟨hx, hb, hml, hown, htx⟩ (cB_isRegister_0 l hl9 D cT aK aV H.size x10 h11 h12 h13 h14) ⟨callB_of 1 htx (xw_goodC kw_2_18) rfl rfl rfl (htx _ kw_1_1) (htx _ kw_2_16) ⟨by decide, by decide, by decide +kernel⟩ ⟨Nat.le_of_ble_eq_true rfl, Nat.le_of_ble_eq_true rfl⟩, htx _ kw_2_17⟩ ⟨xPre_blind, (fun U hU hW => ⟨rfl, xPre_of hZ hS hFc hPc hDc hK U hU hW⟩)⟩ rfl rfl hl.1 rfl (lv_room (Nat.le_of_ble_eq_true rfl)) dB_binary_16 ⟨Nat.le_of_ble_eq_true rfl, Nat.le_of_ble_eq_true rfl⟩) hS (fun q _ h => hFc q h) hFc (fun r3 u9 t H1 locs ht hvm hr9 hB hz1 hk1 hS => ?_)
  obtain ⟨hP1, hK1, hD1⟩ := hB
  rw [ht] at hP1
  obtain ⟨hP, hD⟩ := xjoin (W := [(a0, .inr (0, [v20, v21, v22, .ref a2, v23, .ref a1, v24, v25])), (a1, .inr (2, [v26, v27, v28])), (a2, .inl (cT 3, 8, .inr (.inr (.inr (.inr f29))))), (a3, .inr (2, [.ref a4, .int 1, v33])), (a4, .inl (cT 2, 4096, .inr (.inl f34)))]) hP hD [] [0, 1, 2, 3, 4] 5 rfl rfl (by decide) (by decide) hk1 hFc hP1 hD1
  generalize H1 = H at hP hS ⊢
  rw [hr9]
  refine W.eq (g2 := F0 m 19 ls [.int 1]) rfl ?_
  refine lv_if_eq (tgt := 34) hx hb dB_binary_19 (by decide) (fun h => ((by revert h; decide : False)).elim) (fun _ => ?_)
  refine lv_iload hx hb dB_binary_22 (lv_at hl 4 rfl) ?_
  obtain ⟨hPc, hDc, hFc⟩ := xcut (wc := []) hP hD hS hA [] rfl rfl (by decide)
  refine va_calli (va_runS (As := [.int x15]) (rest := []) ⟨hx, hb, hml, hown, htx⟩ (cB_isRegister_0 l hl9 D cT aK aV H.size x15 h16 h17 h18 h19) ⟨callB_of 1 htx (xw_goodC kw_2_18) rfl rfl rfl (htx _ kw_1_1) (htx _ kw_2_16) ⟨by decide, by decide, by decide +kernel⟩ ⟨Nat.le_of_ble_eq_true rfl, Nat.le_of_ble_eq_true rfl⟩, htx _ kw_2_17⟩ ⟨xPre_blind, (fun U hU hW => ⟨rfl, xPre_of hZ hS hFc hPc hDc hK U hU hW⟩)⟩ rfl rfl hl.1 rfl (lv_room (Nat.le_of_ble_eq_true rfl)) dB_binary_24 ⟨Nat.le_of_ble_eq_true rfl, Nat.le_of_ble_eq_true rfl⟩) hS (fun q _ h => hFc q h) hFc (fun r4 u9 t H1 locs ht hvm hr9 hB hz1 hk1 hS => ?_)
  obtain ⟨hP1, hK1, hD1⟩ := hB
  rw [ht] at hP1
  obtain ⟨hP, hD⟩ := xjoin (W := [(a0, .inr (0, [v20, v21, v22, .ref a2, v23, .ref a1, v24, v25])), (a1, .inr (2, [v26, v27, v28])), (a2, .inl (cT 3, 8, .inr (.inr (.inr (.inr f29))))), (a3, .inr (2, [.ref a4, .int 1, v33])), (a4, .inl (cT 2, 4096, .inr (.inl f34)))]) hP hD [] [0, 1, 2, 3, 4] 5 rfl rfl (by decide) (by decide) hk1 hFc hP1 hD1
  generalize H1 = H at hP hS ⊢
  rw [hr9]
  refine W.eq (g2 := F0 m 27 ls [.int 1]) rfl ?_
  refine lv_if_eq (tgt := 34) hx hb dB_binary_27 (by decide) (fun h => ((by revert h; decide : False)).elim) (fun _ => ?_)
  refine lv_iconst (v := 1) hx hb dB_binary_30 (by decide) ?_
  refine lv_goto (tgt := 35) hx hb dB_binary_31 (by decide) ?_
  obtain ⟨hPc, hDc, hFc⟩ := xcut (wc := []) hP hD hS hA [] rfl rfl (by decide)
  refine va_callv (va_runS (As := [.int 1]) (rest := []) ⟨hx, hb, hml, hown, htx⟩ (cB_demand_0 l hl9 D cT aK aV H.size) ⟨callB_of 1 htx (xw_goodC kw_1_221) rfl rfl rfl (htx _ kw_1_1) (htx _ kw_1_219) ⟨by decide, by decide, by decide +kernel⟩ ⟨Nat.le_of_ble_eq_true rfl, Nat.le_of_ble_eq_true rfl⟩, htx _ kw_1_220⟩ ⟨xPre_blind, (fun U hU hW => ⟨rfl, xPre_of hZ hS hFc hPc hDc hK U hU hW⟩)⟩ rfl rfl hl.1 rfl (lv_room (Nat.le_of_ble_eq_true rfl)) dB_binary_35 ⟨Nat.le_of_ble_eq_true rfl, Nat.le_of_ble_eq_true rfl⟩) hS (fun q _ h => hFc q h) hFc (fun u9 t H1 locs ht hvm hr9 hB hz1 hk1 hS => ?_)
  obtain ⟨hP1, hK1, hD1⟩ := hB
  rw [ht] at hP1
  obtain ⟨hP, hD⟩ := xjoin (W := [(a0, .inr (0, [v20, v21, v22, .ref a2, v23, .ref a1, v24, v25])), (a1, .inr (2, [v26, v27, v28])), (a2, .inl (cT 3, 8, .inr (.inr (.inr (.inr f29))))), (a3, .inr (2, [.ref a4, .int 1, v33])), (a4, .inl (cT 2, 4096, .inr (.inl f34)))]) hP hD [] [0, 1, 2, 3, 4] 5 rfl rfl (by decide) (by decide) hk1 hFc hP1 hD1
  generalize H1 = H at hP hS ⊢
  refine lv_aload_n hx hb dB_binary_38 rfl (lv_at hl 0 rfl) ?_
  refine va_get (D := D) (ci := 0) (v := .ref a1) (C := "ValueBench") (T := TB) (N := 8) hx hb htx inB hown hK hP 0 rfl rfl 5 (by decide) (htx _ kw_1_100) (fun _ h9 => h9) rfl dB_binary_39 ?_
  obtain ⟨hPc, hDc, hFc⟩ := xcut (wc := [(a1, .inr (2, [v26, v27, v28]))]) hP hD hS hA [1] rfl rfl (by decide)
  refine va_callv (va_runV (C := "ValueBench$Row") (As := []) (rest := []) ⟨hx, hb, hml, hown, htx⟩ (cR_clear_0 l hl9 D cT aK aV H.size a1 v26 v27 v28) ⟨callB_of 0 htx (xw_goodC kw_2_22) rfl rfl rfl (htx _ kw_1_4) (htx _ kw_2_19) ⟨by decide, by decide, by decide +kernel⟩ ⟨Nat.le_of_ble_eq_true rfl, Nat.le_of_ble_eq_true rfl⟩, (htx _ kw_2_20), (htx _ kw_2_21)⟩ ⟨xPre_blind, va_recv hK hP (ci := 2) rfl (q0 := 1) rfl, (fun U hU hW => ⟨rfl, xPre_of hZ hS hFc hPc hDc hK U hU hW⟩)⟩ rfl rfl hl.1 rfl (lv_room (Nat.le_of_ble_eq_true rfl)) dB_binary_42 ⟨Nat.le_of_ble_eq_true rfl, Nat.le_of_ble_eq_true rfl⟩) hS (fun q _ h => hFc q h) hFc (fun u9 t H1 locs ht hvm hr9 hB hz1 hk1 hS => ?_)
  obtain ⟨hP1, hK1, hD1⟩ := hB
  rw [ht] at hP1
  obtain ⟨hP, hD⟩ := xjoin (W := [(a0, .inr (0, [v20, v21, v22, .ref a2, v23, .ref a1, v24, v25])), (a2, .inl (cT 3, 8, .inr (.inr (.inr (.inr f29))))), (a3, .inr (2, [.ref a4, .int 1, v33])), (a4, .inl (cT 2, 4096, .inr (.inl f34))), (a1, .inr (2, [v26, .int 0, .int 0]))]) hP hD [1] [0, 2, 3, 4] 4 rfl rfl (by decide) (by decide) hk1 hFc hP1 hD1
  generalize H1 = H at hP hS ⊢
  refine lv_aload_n hx hb dB_binary_45 rfl (lv_at hl 0 rfl) ?_
  refine lv_iload_n hx hb dB_binary_46 rfl (lv_at hl 2 rfl) ?_
  refine lv_aload_n hx hb dB_binary_47 rfl (lv_at hl 0 rfl) ?_
  refine va_get (D := D) (ci := 0) (v := .ref a2) (C := "ValueBench") (T := TB) (N := 8) hx hb htx inB hown hK hP 0 rfl rfl 3 (by decide) (htx _ kw_1_98) (fun _ h9 => h9) rfl dB_binary_48 ?_
  refine lv_iload_n hx hb dB_binary_51 rfl (lv_at hl 3 rfl) ?_
  refine va_aldq hx hb hK hP 1 3 rfl rfl h14 dB_binary_52 ?_
  refine W.eq (g2 := F0 m 53 ls [va_rf (f29 x10.toNatClampNeg), .int 1, .ref a0]) rfl ?_
  rw [h30]
  refine W.eq (g2 := F0 m 53 ls [.ref a3, .int 1, .ref a0]) rfl ?_
  refine lv_aload_n hx hb dB_binary_53 rfl (lv_at hl 0 rfl) ?_
  refine va_get (D := D) (ci := 0) (v := .ref a2) (C := "ValueBench") (T := TB) (N := 8) hx hb htx inB hown hK hP 0 rfl rfl 3 (by decide) (htx _ kw_1_98) (fun _ h9 => h9) rfl dB_binary_54 ?_
  refine lv_iload hx hb dB_binary_57 (lv_at hl 4 rfl) ?_
  refine va_aldq hx hb hK hP 1 3 rfl rfl h19 dB_binary_59 ?_
  refine W.eq (g2 := F0 m 60 ls [va_rf (f29 x15.toNatClampNeg), .ref a3, .int 1, .ref a0]) rfl ?_
  rw [h32]
  refine W.eq (g2 := F0 m 60 ls [.ref b31, .ref a3, .int 1, .ref a0]) rfl ?_
  refine lv_aload_n hx hb dB_binary_60 rfl (lv_at hl 0 rfl) ?_
  refine va_get (D := D) (ci := 0) (v := .ref a1) (C := "ValueBench") (T := TB) (N := 8) hx hb htx inB hown hK hP 0 rfl rfl 5 (by decide) (htx _ kw_1_100) (fun _ h9 => h9) rfl dB_binary_61 ?_
  obtain ⟨hPc, hDc, hFc⟩ := xcut (wc := [(a3, .inr (2, [.ref a4, .int 1, v33])), (a4, .inl (cT 2, 4096, .inr (.inl f34)))]) hP hD hS hA [2, 3] rfl rfl (by decide)
  refine va_calli (va_runS (As := [.int 1, .ref a3, .ref b31, .ref a1]) (rest := [.ref a0]) ⟨hx, hb, hml, hown, htx⟩ (cA_apply_2 l hl9 D cT aK aV H.size a3 a4 b31 a1 v33 f34 (by first | rfl | exact h30 | exact h32 | exact h35)) ⟨callB_of 4 htx (xw_goodC kw_3_105) rfl rfl rfl (htx _ kw_1_21) (htx _ kw_3_103) ⟨by decide, by decide, by decide +kernel⟩ ⟨Nat.le_of_ble_eq_true rfl, Nat.le_of_ble_eq_true rfl⟩, htx _ kw_3_104⟩ ⟨xPre_blind, (fun U hU hW => ⟨rfl, xPre_of hZ hS hFc hPc hDc hK U hU hW⟩)⟩ rfl rfl hl.1 rfl (lv_room (Nat.le_of_ble_eq_true rfl)) dB_binary_64 ⟨Nat.le_of_ble_eq_true rfl, Nat.le_of_ble_eq_true rfl⟩) hS (fun q _ h => hFc q h) hFc (fun r5 u9 t H1 locs ht hvm hr9 hB hz1 hk1 hS => ?_)
  obtain ⟨hP1, hK1, hD1⟩ := hB
  rw [ht] at hP1
  obtain ⟨hP, hD⟩ := xjoin (W := [(a0, .inr (0, [v20, v21, v22, .ref a2, v23, .ref a1, v24, v25])), (a2, .inl (cT 3, 8, .inr (.inr (.inr (.inr f29))))), (a1, .inr (2, [v26, .int 0, .int 0])), (a3, .inr (2, [.ref a4, .int 1, v33])), (a4, .inl (cT 2, 4096, .inr (.inl f34)))]) hP hD [2, 3] [0, 1, 4] 3 rfl rfl (by decide) (by decide) hk1 hFc hP1 hD1
  generalize H1 = H at hP hS ⊢
  rw [hr9]
  refine W.eq (g2 := F0 m 67 ls [.int 1, .ref a0]) rfl ?_
  obtain ⟨hPc, hDc, hFc⟩ := xcut (wc := [(a0, .inr (0, [v20, v21, v22, .ref a2, v23, .ref a1, v24, v25]))]) hP hD hS hA [0] rfl rfl (by decide)
  refine xx_thr (vx_runV (C := "ValueBench") (As := [.int 1]) (rest := []) ⟨hx, hb, hml, hown, htx⟩ (cB_demandDone_1 l hl9 D cT aK aV H.size a0 v20 v21 v22 (.ref a2) v23 (.ref a1) v24 v25) ⟨callB_of 1 htx (xw_goodC kw_3_222) rfl rfl rfl (htx _ kw_1_1) (htx _ kw_3_219) ⟨by decide, by decide, by decide +kernel⟩ ⟨Nat.le_of_ble_eq_true rfl, Nat.le_of_ble_eq_true rfl⟩, (htx _ kw_3_221), (htx _ kp_B_demandDone)⟩ ⟨xPre_blind, va_recv hK hP (ci := 0) rfl (q0 := 0) rfl, (fun U hU hW => ⟨rfl, xPre_of hZ hS hFc hPc hDc hK U hU hW⟩)⟩ rfl rfl hl.1 rfl (lv_room (Nat.le_of_ble_eq_true rfl)) dB_binary_67 ⟨Nat.le_of_ble_eq_true rfl, Nat.le_of_ble_eq_true rfl⟩) hS hFc (fun q _ h => hFc q h) (fun E ce q9 u9 t H1 locs ht hvm _ hB hz1 hk1 hS hce hcv hcl => ?_)
  obtain ⟨rfl, hP1, hK1, hD1⟩ := hB
  rw [ht] at hP1
  obtain ⟨hP, hD⟩ := xjoin (W := [(a2, .inl (cT 3, 8, .inr (.inr (.inr (.inr f29))))), (a1, .inr (2, [v26, .int 0, .int 0])), (a3, .inr (2, [.ref a4, .int 1, v33])), (a4, .inl (cT 2, 4096, .inr (.inl f34))), (a0, .inr (0, [v20, v21, v22, .ref a2, v23, .ref a1, v24, .int 1]))]) hP hD [0] [1, 2, 3, 4] 4 rfl rfl (by decide) (by decide) hk1 hFc hP1 hD1
  generalize H1 = H at hP hS hce ⊢
  obtain ⟨hP9, hD9⟩ := xsub (wc := [(a0, .inr (0, [v20, v21, v22, .ref a2, v23, .ref a1, v24, .int 1])), (a1, .inr (2, [v26, .int 0, .int 0])), (a2, .inl (cT 3, 8, .inr (.inr (.inr (.inr f29))))), (a3, .inr (2, [.ref a4, .int 1, v33])), (a4, .inl (cT 2, 4096, .inr (.inl f34)))]) hP hD [4, 1, 0, 2, 3] rfl rfl (by decide)
  exact vx_out (E := "java/lang/ArithmeticException") (fun x h => (hne x h).elim) hlocks hce hcv hcl (fun t ht ha => ⟨(), trivial, ⟨rfl, by rw [ht]; exact hP9, va_K.moved ha hK, hD9⟩, hS.F ht⟩) hS.2.2 (Nat.le_of_ble_eq_true rfl) (Nat.le_of_ble_eq_true rfl)
set_option maxHeartbeats 400000000 in
set_option maxRecDepth 100000 in
theorem cL_binary_2 (l : Launch) (hl9 : l.stackTraces = false) (D : va_G) (cT : Nat → ClassId) (aK aV : Nat → Nat) (sz : Nat) (a0 : Nat) (a1 : Nat) (a2 : Nat) (a3 : Nat) (a4 : Nat) (x5 : Int32) (x10 : Int32) (x15 : Int32) (v20 : Value) (v21 : Value) (v22 : Value) (v23 : Value) (v24 : Value) (v25 : Value) (v26 : Value) (v27 : Value) (v28 : Value) (f29 : Nat → Option Nat) (b31 : Nat) (v33 : Value) (f34 : Nat → Int64) (h6 : ¬ x5 < 0) (h7 : ¬ 7 < x5) (h8 : x5 ≤ 7) (h9 : vp_in x5 8) (h11 : ¬ x10 < 0) (h12 : ¬ 7 < x10) (h13 : x10 ≤ 7) (h14 : vp_in x10 8) (h16 : ¬ x15 < 0) (h17 : ¬ 7 < x15) (h18 : x15 ≤ 7) (h19 : vp_in x15 8) (h30 : f29 x10.toNatClampNeg = some a3) (h32 : f29 x15.toNatClampNeg = some b31) (h35 : f34 0 = 0) : xMet l yL_binary wyL_binary 8 1 6 145 D cT aK aV sz [.ref a0, .int x5, .int 1, .int x10, .int x15] [(a0, .inr (0, [v20, v21, v22, .ref a2, v23, .ref a1, v24, v25])), (a1, .inr (2, [v26, v27, v28])), (a2, .inl (cT 3, 8, .inr (.inr (.inr (.inr f29))))), (a3, .inr (2, [.ref a4, .int 1, v33])), (a4, .inl (cT 2, 4096, .inr (.inl f34)))] (fun A => va_Qi (fun (r : Int32) (_ : Unit) => r = 2) (fun _ t => xB D xcl cT A [(a0, .inr (0, [v20, v21, v22, .ref a2, v23, .ref a1, v24, .int 1])), (a1, .inr (2, [v26, .int 0, .int 0])), (a2, .inl (cT 3, 8, .inr (.inr (.inr (.inr f29))))), (a3, .inr (2, [.ref a4, .int 1, v33])), (a4, .inl (cT 2, 4096, .inr (.inl f34)))] t) A) := by
  refine va_MetW (cc := method_7_code) (maxL := 6) (ret := (some .int)) (hh := [(0, 9, 12, 19), (0, 9, 16, 33), (0, 9, 20, 13)]) (by decide) rfl ?_
  intro p e s m args below meth c s₁ B hml hv
  obtain ⟨rfl, hsz, hZ, hP, hK, hD0⟩ := hv
  have hx := B.exec
  have hb := B.bytes
  have hr := B.returns
  have hts := atoms_spec (ws := wyL_binary) B.pre
  have htx := fun w h => hts w (List.mem_cons_of_mem _ h)
  have hown : s.vm.findClass "ValueBenchLaw" = some m.cls := findClass_of_methodNamed B.named
  have hlocks := B.notSynchronized
  subst hsz
  have hD := hD0.self (sz := s.heap.size)
  generalize hAe : va_A [(a0, .inr (0, [v20, v21, v22, .ref a2, v23, .ref a1, v24, v25])), (a1, .inr (2, [v26, v27, v28])), (a2, .inl (cT 3, 8, .inr (.inr (.inr (.inr f29))))), (a3, .inr (2, [.ref a4, .int 1, v33])), (a4, .inl (cT 2, 4096, .inr (.inl f34)))] s.heap.size = A at hD hZ ⊢
  have hA : ∀ q : Nat, s.heap.size ≤ q → A q := fun q h => by rw [← hAe]; exact Or.inr h
  have hS : va_S A s.heap s.heap [] := va_S.rf
  have hP : va_P D xcl [(a0, .inr (0, [v20, v21, v22, .ref a2, v23, .ref a1, v24, v25])), (a1, .inr (2, [v26, v27, v28])), (a2, .inl (cT 3, 8, .inr (.inr (.inr (.inr f29))))), (a3, .inr (2, [.ref a4, .int 1, v33])), (a4, .inl (cT 2, 4096, .inr (.inl f34)))] s.heap := hP
  have hl := lv_entry ([.ref a0, .int x5, .int 1, .int x10, .int x15]) (n := 6) (Nat.le_of_ble_eq_true rfl)
  rw [lg_entry_eq]
  generalize (lg_sl ([.ref a0, .int x5, .int 1, .int x10, .int x15]) ++ List.replicate (6 - (lg_sl ([.ref a0, .int x5, .int 1, .int x10, .int x15])).length) Slot.unset).toArray = ls at hl ⊢
  have hl : lv_has ls 6 [(0, .ref a0), (1, .int x5), (2, .int 1), (3, .int x10), (4, .int x15)] := hl
  have htab := vx_table (x := yL_binary) B (hts _ List.mem_cons_self)
  refine lv_aload_n hx hb dL_binary_0 rfl (lv_at hl 0 rfl) ?_
  refine lv_iload_n hx hb dL_binary_1 rfl (lv_at hl 1 rfl) ?_
  refine lv_iload_n hx hb dL_binary_2 rfl (lv_at hl 2 rfl) ?_
  refine lv_iload_n hx hb dL_binary_3 rfl (lv_at hl 3 rfl) ?_
  refine lv_iload hx hb dL_binary_4 (lv_at hl 4 rfl) ?_
  obtain ⟨hPc, hDc, hFc⟩ := xcut (wc := [(a0, .inr (0, [v20, v21, v22, .ref a2, v23, .ref a1, v24, v25])), (a1, .inr (2, [v26, v27, v28])), (a2, .inl (cT 3, 8, .inr (.inr (.inr (.inr f29))))), (a3, .inr (2, [.ref a4, .int 1, v33])), (a4, .inl (cT 2, 4096, .inr (.inl f34)))]) hP hD hS hA [0, 1, 2, 3, 4] rfl rfl (by decide)
  refine xx_thr (vx_runV (C := "ValueBench") (As := [.int x5, .int 1, .int x10, .int x15]) (rest := []) ⟨hx, hb, hml, hown, htx⟩ (cB_binary_2 l hl9 D cT aK aV s.heap.size a0 a1 a2 a3 a4 x5 x10 x15 v20 v21 v22 v23 v24 v25 v26 v27 v28 f29 b31 v33 f34 h6 h7 h8 h9 h11 h12 h13 h14 h16 h17 h18 h19 (by first | rfl | exact h30 | exact h32 | exact h35) (by first | rfl | exact h30 | exact h32 | exact h35) (by first | rfl | exact h30 | exact h32 | exact h35)) ⟨callB_of 4 htx (xw_goodC kw_3_102) rfl rfl rfl (htx _ kw_1_1) (htx _ kw_3_99) ⟨by decide, by decide, by decide +kernel⟩ ⟨Nat.le_of_ble_eq_true rfl, Nat.le_of_ble_eq_true rfl⟩, (htx _ kw_3_100), (htx _ kw_3_101)⟩ ⟨xPre_blind, va_recv hK hP (ci := 0) rfl (q0 := 0) rfl, (fun U hU hW => ⟨rfl, xPre_of hZ hS hFc hPc hDc hK U hU hW⟩)⟩ rfl rfl hl.1 rfl (lv_room (Nat.le_of_ble_eq_true rfl)) dL_binary_6 ⟨Nat.le_of_ble_eq_true rfl, Nat.le_of_ble_eq_true rfl⟩) hS hFc (fun q _ h => hFc q h) (fun E ce q9 u9 t H1 locs ht hvm _ hB hz1 hk1 hS hce hcv hcl => ?_)
  obtain ⟨rfl, hP1, hK1, hD1⟩ := hB
  rw [ht] at hP1
  obtain ⟨hP, hD⟩ := xjoin (W := [(a0, .inr (0, [v20, v21, v22, .ref a2, v23, .ref a1, v24, .int 1])), (a1, .inr (2, [v26, .int 0, .int 0])), (a2, .inl (cT 3, 8, .inr (.inr (.inr (.inr f29))))), (a3, .inr (2, [.ref a4, .int 1, v33])), (a4, .inl (cT 2, 4096, .inr (.inl f34)))]) hP hD [0, 1, 2, 3, 4] [] 0 rfl rfl (by decide) (by decide) hk1 hFc hP1 hD1
  generalize H1 = H at hP hS hce ⊢
  refine vx_catch (own := "ValueBenchLaw") (name := "java/lang/ArithmeticException") (E := "java/lang/ArithmeticException") hown [⟨0, 9, 12, 19⟩] ⟨0, 9, 16, 33⟩ [⟨0, 9, 20, 13⟩] (by rw [htab]; rfl) (by intro z hz; rcases List.mem_cons.mp hz with rfl | hz; (exact Or.inr ⟨by decide, "java/lang/IllegalArgumentException", htx _ kw_1_211, hZ.2.2.2.2.2.2.2.1 _ (List.mem_of_getElem? (i := 10) rfl)⟩); cases hz) (by decide) (by decide) (htx _ kw_3_98) ((hZ.2.2.2.2.2.1 _ (List.mem_of_getElem? (i := 3) rfl)).use rfl) hce hcv hcl ?_
  refine lv_astore (lv' := [(5, .ref q9), (0, .ref a0), (1, .int x5), (2, .int 1), (3, .int x10), (4, .int x15)]) hx hb dL_binary_16 hl (by decide) rfl (fun ls hl => ?_)
  refine lv_iconst (v := 2) hx hb dL_binary_18 (by decide) ?_
  obtain ⟨hP9, hD9⟩ := xsub (wc := [(a0, .inr (0, [v20, v21, v22, .ref a2, v23, .ref a1, v24, .int 1])), (a1, .inr (2, [v26, .int 0, .int 0])), (a2, .inl (cT 3, 8, .inr (.inr (.inr (.inr f29))))), (a3, .inr (2, [.ref a4, .int 1, v33])), (a4, .inl (cT 2, 4096, .inr (.inl f34)))]) hP hD [0, 1, 2, 3, 4] rfl rfl (by decide)
  refine W.widen (k := 1) (n := 6) (Nat.le_of_ble_eq_true rfl) (Nat.le_of_ble_eq_true rfl) ?_
  exact W.iret (v := 2) hx hb hr (fun t ht hW => ⟨⟨2, (), rfl, rfl, by rw [ht]; exact hP9, va_K.moved hW.alike hK, hD9⟩, hS.F ht⟩) hS.2.2 dL_binary_19
set_option maxHeartbeats 400000000 in
set_option maxRecDepth 100000 in
theorem cA_minus_1 (l : Launch) (hl9 : l.stackTraces = false) (D : va_G) (cT : Nat → ClassId) (aK aV : Nat → Nat) (sz : Nat) (a0 : Nat) (a1 : Nat) (b2 : Nat) (v3 : Value) (f4 : Nat → Int64) (h5 : f4 0 = 0) : xMet l yA_minus wyA_minus 2 0 0 43 D cT aK aV sz [.ref a0, .ref a0, .ref b2] [(a0, .inr (2, [.ref a1, .int 1, v3])), (a1, .inl (cT 2, 4096, .inr (.inl f4)))] (fun A => va_Qi (fun (r : Int32) (_ : Unit) => r = 1) (fun _ t => xB D xcl cT A [(a0, .inr (2, [.ref a1, .int 1, v3])), (a1, .inl (cT 2, 4096, .inr (.inl f4)))] t) A) := by
  refine Met.ofW (cc := prog_3_method_10_code) (maxL := 7) (ret := (some .int)) (by decide) rfl ?_
  intro p e s m args below meth c s₁ B hml hv
  obtain ⟨rfl, hsz, hZ, hP, hK, hD0⟩ := hv
  have hx := B.exec
  have hb := B.bytes
  have hr := B.returns
  have hts := atoms_spec (ws := wyA_minus) B.pre
  have htx := fun w h => hts w (List.mem_cons_of_mem _ h)
  have hown : s.vm.findClass "ValueBench$Operators" = some m.cls := findClass_of_methodNamed B.named
  have hlocks := B.notSynchronized
  subst hsz
  have hD := hD0.self (sz := s.heap.size)
  generalize hAe : va_A [(a0, .inr (2, [.ref a1, .int 1, v3])), (a1, .inl (cT 2, 4096, .inr (.inl f4)))] s.heap.size = A at hD hZ ⊢
  have hA : ∀ q : Nat, s.heap.size ≤ q → A q := fun q h => by rw [← hAe]; exact Or.inr h
  have hS : va_S A s.heap s.heap [] := va_S.rf
  have hP : va_P D xcl [(a0, .inr (2, [.ref a1, .int 1, v3])), (a1, .inl (cT 2, 4096, .inr (.inl f4)))] s.heap := hP
  have hl := lv_entry ([.ref a0, .ref a0, .ref b2]) (n := 7) (Nat.le_of_ble_eq_true rfl)
  rw [lg_entry_eq]
  generalize (lg_sl ([.ref a0, .ref a0, .ref b2]) ++ List.replicate (7 - (lg_sl ([.ref a0, .ref a0, .ref b2])).length) Slot.unset).toArray = ls at hl ⊢
  have hl : lv_has ls 7 [(0, .ref a0), (1, .ref a0), (2, .ref b2)] := hl
  refine lv_aload_n hx hb dA_minus_0 rfl (lv_at hl 0 rfl) ?_
  refine lv_iconst (v := 0) hx hb dA_minus_1 (by decide) ?_
  refine lv_iconst (v := 5) hx hb dA_minus_2 (by decide) ?_
  obtain ⟨hPc, hDc, hFc⟩ := xcut (wc := [(a0, .inr (2, [.ref a1, .int 1, v3])), (a1, .inl (cT 2, 4096, .inr (.inl f4)))]) hP hD hS hA [0, 1] rfl rfl (by decide)
  refine va_calli (va_runV (C := "ValueBench$Row") (As := [.int 0, .int 5]) (rest := []) ⟨hx, hb, hml, hown, htx⟩ (cR_is_2 l hl9 D cT aK aV s.heap.size a0 a1 v3 f4 (by first | rfl | exact h5)) ⟨callB_of 2 htx (xw_goodC kw_3_75) rfl rfl rfl (htx _ kw_1_4) (htx _ kw_3_106) ⟨by decide, by decide, by decide +kernel⟩ ⟨Nat.le_of_ble_eq_true rfl, Nat.le_of_ble_eq_true rfl⟩, (htx _ kw_3_73), (htx _ kw_3_74)⟩ ⟨xPre_blind, va_recv hK hP (ci := 2) rfl (q0 := 0) rfl, (fun U hU hW => ⟨rfl, xPre_of hZ hS hFc hPc hDc hK U hU hW⟩)⟩ rfl rfl hl.1 rfl (lv_room (Nat.le_of_ble_eq_true rfl)) dA_minus_3 ⟨Nat.le_of_ble_eq_true rfl, Nat.le_of_ble_eq_true rfl⟩) hS (fun q _ h => hFc q h) hFc (fun r1 u9 t H1 locs ht hvm hr9 hB hz1 hk1 hS => ?_)
  obtain ⟨hP1, hK1, hD1⟩ := hB
  rw [ht] at hP1
  obtain ⟨hP, hD⟩ := xjoin (W := [(a0, .inr (2, [.ref a1, .int 1, v3])), (a1, .inl (cT 2, 4096, .inr (.inl f4)))]) hP hD [0, 1] [] 0 rfl rfl (by decide) (by decide) hk1 hFc hP1 hD1
  generalize H1 = H at hP hS ⊢
  rw [hr9]
  refine W.eq (g2 := F0 m 6 ls [.int 0]) rfl ?_
  refine lv_if_eq (tgt := 18) hx hb dA_minus_6 (by decide) (fun _ => ?_) (fun h => ((by revert h; decide : False)).elim)
  refine lv_iconst (v := 1) hx hb dA_minus_18 (by decide) ?_
  obtain ⟨hP9, hD9⟩ := xsub (wc := [(a0, .inr (2, [.ref a1, .int 1, v3])), (a1, .inl (cT 2, 4096, .inr (.inl f4)))]) hP hD [0, 1] rfl rfl (by decide)
  refine W.widen (k := 0) (n := 0) (Nat.le_of_ble_eq_true rfl) (Nat.le_of_ble_eq_true rfl) ?_
  exact W.iret (v := 1) hx hb hr (fun t ht hW => ⟨⟨1, (), rfl, rfl, by rw [ht]; exact hP9, va_K.moved hW.alike hK, hD9⟩, hS.F ht⟩) hS.2.2 dA_minus_19
set_option maxHeartbeats 400000000 in
set_option maxRecDepth 100000 in
theorem cA_apply_3 (l : Launch) (hl9 : l.stackTraces = false) (D : va_G) (cT : Nat → ClassId) (aK aV : Nat → Nat) (sz : Nat) (a0 : Nat) (a1 : Nat) (b2 : Nat) (v3 : Value) (f4 : Nat → Int64) (h5 : f4 0 = 0) : xMet l yA_apply wyA_apply 3 0 0 69 D cT aK aV sz [.int 1, .ref a0, .ref a0, .ref b2] [(a0, .inr (2, [.ref a1, .int 1, v3])), (a1, .inl (cT 2, 4096, .inr (.inl f4)))] (fun A => va_Qi (fun (r : Int32) (_ : Unit) => r = 1) (fun _ t => xB D xcl cT A [(a0, .inr (2, [.ref a1, .int 1, v3])), (a1, .inl (cT 2, 4096, .inr (.inl f4)))] t) A) := by
  refine Met.ofW (cc := prog_3_method_2_code) (maxL := 4) (ret := (some .int)) (by decide) rfl ?_
  intro p e s m args below meth c s₁ B hml hv
  obtain ⟨rfl, hsz, hZ, hP, hK, hD0⟩ := hv
  have hx := B.exec
  have hb := B.bytes
  have hr := B.returns
  have hts := atoms_spec (ws := wyA_apply) B.pre
  have htx := fun w h => hts w (List.mem_cons_of_mem _ h)
  have hown : s.vm.findClass "ValueBench$Operators" = some m.cls := findClass_of_methodNamed B.named
  have hlocks := B.notSynchronized
  subst hsz
  have hD := hD0.self (sz := s.heap.size)
  generalize hAe : va_A [(a0, .inr (2, [.ref a1, .int 1, v3])), (a1, .inl (cT 2, 4096, .inr (.inl f4)))] s.heap.size = A at hD hZ ⊢
  have hA : ∀ q : Nat, s.heap.size ≤ q → A q := fun q h => by rw [← hAe]; exact Or.inr h
  have hS : va_S A s.heap s.heap [] := va_S.rf
  have hP : va_P D xcl [(a0, .inr (2, [.ref a1, .int 1, v3])), (a1, .inl (cT 2, 4096, .inr (.inl f4)))] s.heap := hP
  have hl := lv_entry ([.int 1, .ref a0, .ref a0, .ref b2]) (n := 4) (Nat.le_of_ble_eq_true rfl)
  rw [lg_entry_eq]
  generalize (lg_sl ([.int 1, .ref a0, .ref a0, .ref b2]) ++ List.replicate (4 - (lg_sl ([.int 1, .ref a0, .ref a0, .ref b2])).length) Slot.unset).toArray = ls at hl ⊢
  have hl : lv_has ls 4 [(0, .int 1), (1, .ref a0), (2, .ref a0), (3, .ref b2)] := hl
  refine lv_aload_n hx hb dA_apply_0 rfl (lv_at hl 1 rfl) ?_
  refine lv_iconst (v := 0) hx hb dA_apply_1 (by decide) ?_
  refine lv_iconst (v := 3) hx hb dA_apply_2 (by decide) ?_
  obtain ⟨hPc, hDc, hFc⟩ := xcut (wc := [(a0, .inr (2, [.ref a1, .int 1, v3])), (a1, .inl (cT 2, 4096, .inr (.inl f4)))]) hP hD hS hA [0, 1] rfl rfl (by decide)
  refine va_calli (va_runV (C := "ValueBench$Row") (As := [.int 0, .int 3]) (rest := []) ⟨hx, hb, hml, hown, htx⟩ (cR_is_4 l hl9 D cT aK aV s.heap.size a0 a1 v3 f4 (by first | rfl | exact h5)) ⟨callB_of 2 htx (xw_goodC kw_3_75) rfl rfl rfl (htx _ kw_1_4) (htx _ kw_3_106) ⟨by decide, by decide, by decide +kernel⟩ ⟨Nat.le_of_ble_eq_true rfl, Nat.le_of_ble_eq_true rfl⟩, (htx _ kw_3_73), (htx _ kw_3_74)⟩ ⟨xPre_blind, va_recv hK hP (ci := 2) rfl (q0 := 0) rfl, (fun U hU hW => ⟨rfl, xPre_of hZ hS hFc hPc hDc hK U hU hW⟩)⟩ rfl rfl hl.1 rfl (lv_room (Nat.le_of_ble_eq_true rfl)) dA_apply_3 ⟨Nat.le_of_ble_eq_true rfl, Nat.le_of_ble_eq_true rfl⟩) hS (fun q _ h => hFc q h) hFc (fun r1 u9 t H1 locs ht hvm hr9 hB hz1 hk1 hS => ?_)
  obtain ⟨hP1, hK1, hD1⟩ := hB
  rw [ht] at hP1
  obtain ⟨hP, hD⟩ := xjoin (W := [(a0, .inr (2, [.ref a1, .int 1, v3])), (a1, .inl (cT 2, 4096, .inr (.inl f4)))]) hP hD [0, 1] [] 0 rfl rfl (by decide) (by decide) hk1 hFc hP1 hD1
  generalize H1 = H at hP hS ⊢
  rw [hr9]
  refine W.eq (g2 := F0 m 6 ls [.int 0]) rfl ?_
  refine lv_if_eq (tgt := 34) hx hb dA_apply_6 (by decide) (fun _ => ?_) (fun h => ((by revert h; decide : False)).elim)
  refine lv_iload_n hx hb dA_apply_34 rfl (lv_at hl 0 rfl) ?_
  refine lv_tableIn (off := 36) (tgt := 71) hx hb dA_apply_35 (by decide) (by decide) (by decide) (by decide) ?_
  refine lv_aload_n hx hb dA_apply_71 rfl (lv_at hl 1 rfl) ?_
  refine lv_aload_n hx hb dA_apply_72 rfl (lv_at hl 2 rfl) ?_
  refine lv_aload_n hx hb dA_apply_73 rfl (lv_at hl 3 rfl) ?_
  obtain ⟨hPc, hDc, hFc⟩ := xcut (wc := [(a0, .inr (2, [.ref a1, .int 1, v3])), (a1, .inl (cT 2, 4096, .inr (.inl f4)))]) hP hD hS hA [0, 1] rfl rfl (by decide)
  refine va_calli (va_runS (As := [.ref a0, .ref a0, .ref b2]) (rest := []) ⟨hx, hb, hml, hown, htx⟩ (cA_minus_1 l hl9 D cT aK aV H.size a0 a1 b2 v3 f4 (by first | rfl | exact h5)) ⟨callB_of 3 htx (xw_goodC kw_3_155) rfl rfl rfl (htx _ kw_1_21) (htx _ kw_3_153) ⟨by decide, by decide, by decide +kernel⟩ ⟨Nat.le_of_ble_eq_true rfl, Nat.le_of_ble_eq_true rfl⟩, htx _ kw_3_154⟩ ⟨xPre_blind, (fun U hU hW => ⟨rfl, xPre_of hZ hS hFc hPc hDc hK U hU hW⟩)⟩ rfl rfl hl.1 rfl (lv_room (Nat.le_of_ble_eq_true rfl)) dA_apply_74 ⟨Nat.le_of_ble_eq_true rfl, Nat.le_of_ble_eq_true rfl⟩) hS (fun q _ h => hFc q h) hFc (fun r2 u9 t H1 locs ht hvm hr9 hB hz1 hk1 hS => ?_)
  obtain ⟨hP1, hK1, hD1⟩ := hB
  rw [ht] at hP1
  obtain ⟨hP, hD⟩ := xjoin (W := [(a0, .inr (2, [.ref a1, .int 1, v3])), (a1, .inl (cT 2, 4096, .inr (.inl f4)))]) hP hD [0, 1] [] 0 rfl rfl (by decide) (by decide) hk1 hFc hP1 hD1
  generalize H1 = H at hP hS ⊢
  rw [hr9]
  refine W.eq (g2 := F0 m 77 ls [.int 1]) rfl ?_
  obtain ⟨hP9, hD9⟩ := xsub (wc := [(a0, .inr (2, [.ref a1, .int 1, v3])), (a1, .inl (cT 2, 4096, .inr (.inl f4)))]) hP hD [0, 1] rfl rfl (by decide)
  refine W.widen (k := 0) (n := 0) (Nat.le_of_ble_eq_true rfl) (Nat.le_of_ble_eq_true rfl) ?_
  exact W.iret (v := 1) hx hb hr (fun t ht hW => ⟨⟨1, (), rfl, rfl, by rw [ht]; exact hP9, va_K.moved hW.alike hK, hD9⟩, hS.F ht⟩) hS.2.2 dA_apply_77
set_option maxHeartbeats 400000000 in
set_option maxRecDepth 100000 in
theorem cB_binary_3 (l : Launch) (hl9 : l.stackTraces = false) (D : va_G) (cT : Nat → ClassId) (aK aV : Nat → Nat) (sz : Nat) (a0 : Nat) (a1 : Nat) (a2 : Nat) (a3 : Nat) (a4 : Nat) (x5 : Int32) (x10 : Int32) (x15 : Int32) (v20 : Value) (v21 : Value) (v22 : Value) (v23 : Value) (v24 : Value) (v25 : Value) (v26 : Value) (v27 : Value) (v28 : Value) (f29 : Nat → Option Nat) (v32 : Value) (f33 : Nat → Int64) (h6 : ¬ x5 < 0) (h7 : ¬ 7 < x5) (h8 : x5 ≤ 7) (h9 : vp_in x5 8) (h11 : ¬ x10 < 0) (h12 : ¬ 7 < x10) (h13 : x10 ≤ 7) (h14 : vp_in x10 8) (h16 : ¬ x15 < 0) (h17 : ¬ 7 < x15) (h18 : x15 ≤ 7) (h19 : vp_in x15 8) (h30 : f29 x10.toNatClampNeg = some a3) (h31 : f29 x15.toNatClampNeg = some a3) (h34 : f33 0 = 0) : xMetX l yB_binary wyB_binary 7 1 6 121 D cT aK aV sz [.ref a0, .int x5, .int 1, .int x10, .int x15] [(a0, .inr (0, [v20, v21, v22, .ref a2, v23, .ref a1, v24, v25])), (a1, .inr (2, [v26, v27, v28])), (a2, .inl (cT 3, 8, .inr (.inr (.inr (.inr f29))))), (a3, .inr (2, [.ref a4, .int 1, v32])), (a4, .inl (cT 2, 4096, .inr (.inl f33)))] "java/lang/ArithmeticException" (fun A t => xB D xcl cT A [(a0, .inr (0, [v20, v21, v22, .ref a2, v23, .ref a1, v24, .int 1])), (a1, .inr (2, [v26, .int 0, .int 0])), (a2, .inl (cT 3, 8, .inr (.inr (.inr (.inr f29))))), (a3, .inr (2, [.ref a4, .int 1, v32])), (a4, .inl (cT 2, 4096, .inr (.inl f33)))] t) := by
  refine vx_ofW (cc := prog_1_method_6_code) (maxL := 5) (ret := none) (by decide) rfl ?_
  intro p e s m args below meth c s₁ B hml hne hv
  obtain ⟨rfl, hsz, hZ, hP, hK, hD0⟩ := hv
  have hx := B.exec
  have hb := B.bytes
  have hr := B.returns
  have hts := atoms_spec (ws := wyB_binary) B.pre
  have htx := fun w h => hts w (List.mem_cons_of_mem _ h)
  have hown : s.vm.findClass "ValueBench" = some m.cls := findClass_of_methodNamed B.named
  have hlocks := B.notSynchronized
  subst hsz
  have hD := hD0.self (sz := s.heap.size)
  generalize hAe : va_A [(a0, .inr (0, [v20, v21, v22, .ref a2, v23, .ref a1, v24, v25])), (a1, .inr (2, [v26, v27, v28])), (a2, .inl (cT 3, 8, .inr (.inr (.inr (.inr f29))))), (a3, .inr (2, [.ref a4, .int 1, v32])), (a4, .inl (cT 2, 4096, .inr (.inl f33)))] s.heap.size = A at hD hZ ⊢
  have hA : ∀ q : Nat, s.heap.size ≤ q → A q := fun q h => by rw [← hAe]; exact Or.inr h
  have hS : va_S A s.heap s.heap [] := va_S.rf
  have hP : va_P D xcl [(a0, .inr (0, [v20, v21, v22, .ref a2, v23, .ref a1, v24, v25])), (a1, .inr (2, [v26, v27, v28])), (a2, .inl (cT 3, 8, .inr (.inr (.inr (.inr f29))))), (a3, .inr (2, [.ref a4, .int 1, v32])), (a4, .inl (cT 2, 4096, .inr (.inl f33)))] s.heap := hP
  have hl := lv_entry ([.ref a0, .int x5, .int 1, .int x10, .int x15]) (n := 5) (Nat.le_of_ble_eq_true rfl)
  rw [lg_entry_eq]
  generalize (lg_sl ([.ref a0, .int x5, .int 1, .int x10, .int x15]) ++ List.replicate (5 - (lg_sl ([.ref a0, .int x5, .int 1, .int x10, .int x15])).length) Slot.unset).toArray = ls at hl ⊢
  have hl : lv_has ls 5 [(0, .ref a0), (1, .int x5), (2, .int 1), (3, .int x10), (4, .int x15)] := hl
  refine lv_iload_n hx hb dB_binary_0 rfl (lv_at hl 1 rfl) ?_
  obtain ⟨hPc, hDc, hFc⟩ := xcut (wc := []) hP hD hS hA [] rfl rfl (by decide)
  refine va_calli (va_runS (As := [.int x5]) (rest := []) ⟨hx, hb, hml, hown, htx⟩ (cB_isRegister_0 l hl9 D cT aK aV s.heap.size x5 h6 h7 h8 h9) ⟨callB_of 1 htx (xw_goodC kw_2_18) rfl rfl rfl (htx _ kw_1_1) (htx _ kw_2_16) ⟨by decide, by decide, by decide +kernel⟩ ⟨Nat.le_of_ble_eq_true rfl, Nat.le_of_ble_eq_true rfl⟩, htx _ kw_2_17⟩ ⟨xPre_blind, (fun U hU hW => ⟨rfl, xPre_of hZ hS hFc hPc hDc hK U hU hW⟩)⟩ rfl rfl hl.1 rfl (lv_room (Nat.le_of_ble_eq_true rfl)) dB_binary_1 ⟨Nat.le_of_ble_eq_true rfl, Nat.le_of_ble_eq_true rfl⟩) hS (fun q _ h => hFc q h) hFc (fun r1 u9 t H1 locs ht hvm hr9 hB hz1 hk1 hS => ?_)
  obtain ⟨hP1, hK1, hD1⟩ := hB
  rw [ht] at hP1
  obtain ⟨hP, hD⟩ := xjoin (W := [(a0, .inr (0, [v20, v21, v22, .ref a2, v23, .ref a1, v24, v25])), (a1, .inr (2, [v26, v27, v28])), (a2, .inl (cT 3, 8, .inr (.inr (.inr (.inr f29))))), (a3, .inr (2, [.ref a4, .int 1, v32])), (a4, .inl (cT 2, 4096, .inr (.inl f33)))]) hP hD [] [0, 1, 2, 3, 4] 5 rfl rfl (by decide) (by decide) hk1 hFc hP1 hD1
  generalize H1 = H at hP hS ⊢
  rw [hr9]
  refine W.eq (g2 := F0 m 4 ls [.int 1]) rfl ?_
  refine lv_if_eq (tgt := 34) hx hb dB_binary_4 (by decide) (fun h => ((by revert h; decide : False)).elim) (fun _ => ?_)
  refine lv_iload_n hx hb dB_binary_7 rfl (lv_at hl 2 rfl) ?_
  refine lv_iconst (v := 4) hx hb dB_binary_8 (by decide) ?_
  obtain ⟨hPc, hDc, hFc⟩ := xcut (wc := []) hP hD hS hA [] rfl rfl (by decide)
  refine va_calli (va_runS (As := [.int 1, .int 4]) (rest := []) ⟨hx, hb, hml, hown, htx⟩ (cB_isWithin_25 l hl9 D cT aK aV H.size) ⟨callB_of 2 htx (xw_goodC kw_1_218) rfl rfl rfl (htx _ kw_1_1) (htx _ kw_1_216) ⟨by decide, by decide, by decide +kernel⟩ ⟨Nat.le_of_ble_eq_true rfl, Nat.le_of_ble_eq_true rfl⟩, htx _ kw_1_217⟩ ⟨xPre_blind, (fun U hU hW => ⟨rfl, xPre_of hZ hS hFc hPc hDc hK U hU hW⟩)⟩ rfl rfl hl.1 rfl (lv_room (Nat.le_of_ble_eq_true rfl)) dB_binary_9 ⟨Nat.le_of_ble_eq_true rfl, Nat.le_of_ble_eq_true rfl⟩) hS (fun q _ h => hFc q h) hFc (fun r2 u9 t H1 locs ht hvm hr9 hB hz1 hk1 hS => ?_)
  obtain ⟨hP1, hK1, hD1⟩ := hB
  rw [ht] at hP1
  obtain ⟨hP, hD⟩ := xjoin (W := [(a0, .inr (0, [v20, v21, v22, .ref a2, v23, .ref a1, v24, v25])), (a1, .inr (2, [v26, v27, v28])), (a2, .inl (cT 3, 8, .inr (.inr (.inr (.inr f29))))), (a3, .inr (2, [.ref a4, .int 1, v32])), (a4, .inl (cT 2, 4096, .inr (.inl f33)))]) hP hD [] [0, 1, 2, 3, 4] 5 rfl rfl (by decide) (by decide) hk1 hFc hP1 hD1
  generalize H1 = H at hP hS ⊢
  rw [hr9]
  refine W.eq (g2 := F0 m 12 ls [.int 1]) rfl ?_
  refine lv_if_eq (tgt := 34) hx hb dB_binary_12 (by decide) (fun h => ((by revert h; decide : False)).elim) (fun _ => ?_)
  refine lv_iload_n hx hb dB_binary_15 rfl (lv_at hl 3 rfl) ?_
  obtain ⟨hPc, hDc, hFc⟩ := xcut (wc := []) hP hD hS hA [] rfl rfl (by decide)
  refine va_calli (va_runS (As := [.int x10]) (rest := []) ⟨hx, hb, hml, hown, htx⟩ (cB_isRegister_0 l hl9 D cT aK aV H.size x10 h11 h12 h13 h14) ⟨callB_of 1 htx (xw_goodC kw_2_18) rfl rfl rfl (htx _ kw_1_1) (htx _ kw_2_16) ⟨by decide, by decide, by decide +kernel⟩ ⟨Nat.le_of_ble_eq_true rfl, Nat.le_of_ble_eq_true rfl⟩, htx _ kw_2_17⟩ ⟨xPre_blind, (fun U hU hW => ⟨rfl, xPre_of hZ hS hFc hPc hDc hK U hU hW⟩)⟩ rfl rfl hl.1 rfl (lv_room (Nat.le_of_ble_eq_true rfl)) dB_binary_16 ⟨Nat.le_of_ble_eq_true rfl, Nat.le_of_ble_eq_true rfl⟩) hS (fun q _ h => hFc q h) hFc (fun r3 u9 t H1 locs ht hvm hr9 hB hz1 hk1 hS => ?_)
  obtain ⟨hP1, hK1, hD1⟩ := hB
  rw [ht] at hP1
  obtain ⟨hP, hD⟩ := xjoin (W := [(a0, .inr (0, [v20, v21, v22, .ref a2, v23, .ref a1, v24, v25])), (a1, .inr (2, [v26, v27, v28])), (a2, .inl (cT 3, 8, .inr (.inr (.inr (.inr f29))))), (a3, .inr (2, [.ref a4, .int 1, v32])), (a4, .inl (cT 2, 4096, .inr (.inl f33)))]) hP hD [] [0, 1, 2, 3, 4] 5 rfl rfl (by decide) (by decide) hk1 hFc hP1 hD1
  generalize H1 = H at hP hS ⊢
  rw [hr9]
  refine W.eq (g2 := F0 m 19 ls [.int 1]) rfl ?_
  refine lv_if_eq (tgt := 34) hx hb dB_binary_19 (by decide) (fun h => ((by revert h; decide : False)).elim) (fun _ => ?_)
  refine lv_iload hx hb dB_binary_22 (lv_at hl 4 rfl) ?_
  obtain ⟨hPc, hDc, hFc⟩ := xcut (wc := []) hP hD hS hA [] rfl rfl (by decide)
  refine va_calli (va_runS (As := [.int x15]) (rest := []) ⟨hx, hb, hml, hown, htx⟩ (cB_isRegister_0 l hl9 D cT aK aV H.size x15 h16 h17 h18 h19) ⟨callB_of 1 htx (xw_goodC kw_2_18) rfl rfl rfl (htx _ kw_1_1) (htx _ kw_2_16) ⟨by decide, by decide, by decide +kernel⟩ ⟨Nat.le_of_ble_eq_true rfl, Nat.le_of_ble_eq_true rfl⟩, htx _ kw_2_17⟩ ⟨xPre_blind, (fun U hU hW => ⟨rfl, xPre_of hZ hS hFc hPc hDc hK U hU hW⟩)⟩ rfl rfl hl.1 rfl (lv_room (Nat.le_of_ble_eq_true rfl)) dB_binary_24 ⟨Nat.le_of_ble_eq_true rfl, Nat.le_of_ble_eq_true rfl⟩) hS (fun q _ h => hFc q h) hFc (fun r4 u9 t H1 locs ht hvm hr9 hB hz1 hk1 hS => ?_)
  obtain ⟨hP1, hK1, hD1⟩ := hB
  rw [ht] at hP1
  obtain ⟨hP, hD⟩ := xjoin (W := [(a0, .inr (0, [v20, v21, v22, .ref a2, v23, .ref a1, v24, v25])), (a1, .inr (2, [v26, v27, v28])), (a2, .inl (cT 3, 8, .inr (.inr (.inr (.inr f29))))), (a3, .inr (2, [.ref a4, .int 1, v32])), (a4, .inl (cT 2, 4096, .inr (.inl f33)))]) hP hD [] [0, 1, 2, 3, 4] 5 rfl rfl (by decide) (by decide) hk1 hFc hP1 hD1
  generalize H1 = H at hP hS ⊢
  rw [hr9]
  refine W.eq (g2 := F0 m 27 ls [.int 1]) rfl ?_
  refine lv_if_eq (tgt := 34) hx hb dB_binary_27 (by decide) (fun h => ((by revert h; decide : False)).elim) (fun _ => ?_)
  refine lv_iconst (v := 1) hx hb dB_binary_30 (by decide) ?_
  refine lv_goto (tgt := 35) hx hb dB_binary_31 (by decide) ?_
  obtain ⟨hPc, hDc, hFc⟩ := xcut (wc := []) hP hD hS hA [] rfl rfl (by decide)
  refine va_callv (va_runS (As := [.int 1]) (rest := []) ⟨hx, hb, hml, hown, htx⟩ (cB_demand_0 l hl9 D cT aK aV H.size) ⟨callB_of 1 htx (xw_goodC kw_1_221) rfl rfl rfl (htx _ kw_1_1) (htx _ kw_1_219) ⟨by decide, by decide, by decide +kernel⟩ ⟨Nat.le_of_ble_eq_true rfl, Nat.le_of_ble_eq_true rfl⟩, htx _ kw_1_220⟩ ⟨xPre_blind, (fun U hU hW => ⟨rfl, xPre_of hZ hS hFc hPc hDc hK U hU hW⟩)⟩ rfl rfl hl.1 rfl (lv_room (Nat.le_of_ble_eq_true rfl)) dB_binary_35 ⟨Nat.le_of_ble_eq_true rfl, Nat.le_of_ble_eq_true rfl⟩) hS (fun q _ h => hFc q h) hFc (fun u9 t H1 locs ht hvm hr9 hB hz1 hk1 hS => ?_)
  obtain ⟨hP1, hK1, hD1⟩ := hB
  rw [ht] at hP1
  obtain ⟨hP, hD⟩ := xjoin (W := [(a0, .inr (0, [v20, v21, v22, .ref a2, v23, .ref a1, v24, v25])), (a1, .inr (2, [v26, v27, v28])), (a2, .inl (cT 3, 8, .inr (.inr (.inr (.inr f29))))), (a3, .inr (2, [.ref a4, .int 1, v32])), (a4, .inl (cT 2, 4096, .inr (.inl f33)))]) hP hD [] [0, 1, 2, 3, 4] 5 rfl rfl (by decide) (by decide) hk1 hFc hP1 hD1
  generalize H1 = H at hP hS ⊢
  refine lv_aload_n hx hb dB_binary_38 rfl (lv_at hl 0 rfl) ?_
  refine va_get (D := D) (ci := 0) (v := .ref a1) (C := "ValueBench") (T := TB) (N := 8) hx hb htx inB hown hK hP 0 rfl rfl 5 (by decide) (htx _ kw_1_100) (fun _ h9 => h9) rfl dB_binary_39 ?_
  obtain ⟨hPc, hDc, hFc⟩ := xcut (wc := [(a1, .inr (2, [v26, v27, v28]))]) hP hD hS hA [1] rfl rfl (by decide)
  refine va_callv (va_runV (C := "ValueBench$Row") (As := []) (rest := []) ⟨hx, hb, hml, hown, htx⟩ (cR_clear_0 l hl9 D cT aK aV H.size a1 v26 v27 v28) ⟨callB_of 0 htx (xw_goodC kw_2_22) rfl rfl rfl (htx _ kw_1_4) (htx _ kw_2_19) ⟨by decide, by decide, by decide +kernel⟩ ⟨Nat.le_of_ble_eq_true rfl, Nat.le_of_ble_eq_true rfl⟩, (htx _ kw_2_20), (htx _ kw_2_21)⟩ ⟨xPre_blind, va_recv hK hP (ci := 2) rfl (q0 := 1) rfl, (fun U hU hW => ⟨rfl, xPre_of hZ hS hFc hPc hDc hK U hU hW⟩)⟩ rfl rfl hl.1 rfl (lv_room (Nat.le_of_ble_eq_true rfl)) dB_binary_42 ⟨Nat.le_of_ble_eq_true rfl, Nat.le_of_ble_eq_true rfl⟩) hS (fun q _ h => hFc q h) hFc (fun u9 t H1 locs ht hvm hr9 hB hz1 hk1 hS => ?_)
  obtain ⟨hP1, hK1, hD1⟩ := hB
  rw [ht] at hP1
  obtain ⟨hP, hD⟩ := xjoin (W := [(a0, .inr (0, [v20, v21, v22, .ref a2, v23, .ref a1, v24, v25])), (a2, .inl (cT 3, 8, .inr (.inr (.inr (.inr f29))))), (a3, .inr (2, [.ref a4, .int 1, v32])), (a4, .inl (cT 2, 4096, .inr (.inl f33))), (a1, .inr (2, [v26, .int 0, .int 0]))]) hP hD [1] [0, 2, 3, 4] 4 rfl rfl (by decide) (by decide) hk1 hFc hP1 hD1
  generalize H1 = H at hP hS ⊢
  refine lv_aload_n hx hb dB_binary_45 rfl (lv_at hl 0 rfl) ?_
  refine lv_iload_n hx hb dB_binary_46 rfl (lv_at hl 2 rfl) ?_
  refine lv_aload_n hx hb dB_binary_47 rfl (lv_at hl 0 rfl) ?_
  refine va_get (D := D) (ci := 0) (v := .ref a2) (C := "ValueBench") (T := TB) (N := 8) hx hb htx inB hown hK hP 0 rfl rfl 3 (by decide) (htx _ kw_1_98) (fun _ h9 => h9) rfl dB_binary_48 ?_
  refine lv_iload_n hx hb dB_binary_51 rfl (lv_at hl 3 rfl) ?_
  refine va_aldq hx hb hK hP 1 3 rfl rfl h14 dB_binary_52 ?_
  refine W.eq (g2 := F0 m 53 ls [va_rf (f29 x10.toNatClampNeg), .int 1, .ref a0]) rfl ?_
  rw [h30]
  refine W.eq (g2 := F0 m 53 ls [.ref a3, .int 1, .ref a0]) rfl ?_
  refine lv_aload_n hx hb dB_binary_53 rfl (lv_at hl 0 rfl) ?_
  refine va_get (D := D) (ci := 0) (v := .ref a2) (C := "ValueBench") (T := TB) (N := 8) hx hb htx inB hown hK hP 0 rfl rfl 3 (by decide) (htx _ kw_1_98) (fun _ h9 => h9) rfl dB_binary_54 ?_
  refine lv_iload hx hb dB_binary_57 (lv_at hl 4 rfl) ?_
  refine va_aldq hx hb hK hP 1 3 rfl rfl h19 dB_binary_59 ?_
  refine W.eq (g2 := F0 m 60 ls [va_rf (f29 x15.toNatClampNeg), .ref a3, .int 1, .ref a0]) rfl ?_
  rw [h31]
  refine W.eq (g2 := F0 m 60 ls [.ref a3, .ref a3, .int 1, .ref a0]) rfl ?_
  refine lv_aload_n hx hb dB_binary_60 rfl (lv_at hl 0 rfl) ?_
  refine va_get (D := D) (ci := 0) (v := .ref a1) (C := "ValueBench") (T := TB) (N := 8) hx hb htx inB hown hK hP 0 rfl rfl 5 (by decide) (htx _ kw_1_100) (fun _ h9 => h9) rfl dB_binary_61 ?_
  obtain ⟨hPc, hDc, hFc⟩ := xcut (wc := [(a3, .inr (2, [.ref a4, .int 1, v32])), (a4, .inl (cT 2, 4096, .inr (.inl f33)))]) hP hD hS hA [2, 3] rfl rfl (by decide)
  refine va_calli (va_runS (As := [.int 1, .ref a3, .ref a3, .ref a1]) (rest := [.ref a0]) ⟨hx, hb, hml, hown, htx⟩ (cA_apply_3 l hl9 D cT aK aV H.size a3 a4 a1 v32 f33 (by first | rfl | exact h30 | exact h31 | exact h34)) ⟨callB_of 4 htx (xw_goodC kw_3_105) rfl rfl rfl (htx _ kw_1_21) (htx _ kw_3_103) ⟨by decide, by decide, by decide +kernel⟩ ⟨Nat.le_of_ble_eq_true rfl, Nat.le_of_ble_eq_true rfl⟩, htx _ kw_3_104⟩ ⟨xPre_blind, (fun U hU hW => ⟨rfl, xPre_of hZ hS hFc hPc hDc hK U hU hW⟩)⟩ rfl rfl hl.1 rfl (lv_room (Nat.le_of_ble_eq_true rfl)) dB_binary_64 ⟨Nat.le_of_ble_eq_true rfl, Nat.le_of_ble_eq_true rfl⟩) hS (fun q _ h => hFc q h) hFc (fun r5 u9 t H1 locs ht hvm hr9 hB hz1 hk1 hS => ?_)
  obtain ⟨hP1, hK1, hD1⟩ := hB
  rw [ht] at hP1
  obtain ⟨hP, hD⟩ := xjoin (W := [(a0, .inr (0, [v20, v21, v22, .ref a2, v23, .ref a1, v24, v25])), (a2, .inl (cT 3, 8, .inr (.inr (.inr (.inr f29))))), (a1, .inr (2, [v26, .int 0, .int 0])), (a3, .inr (2, [.ref a4, .int 1, v32])), (a4, .inl (cT 2, 4096, .inr (.inl f33)))]) hP hD [2, 3] [0, 1, 4] 3 rfl rfl (by decide) (by decide) hk1 hFc hP1 hD1
  generalize H1 = H at hP hS ⊢
  rw [hr9]
  refine W.eq (g2 := F0 m 67 ls [.int 1, .ref a0]) rfl ?_
  obtain ⟨hPc, hDc, hFc⟩ := xcut (wc := [(a0, .inr (0, [v20, v21, v22, .ref a2, v23, .ref a1, v24, v25]))]) hP hD hS hA [0] rfl rfl (by decide)
  refine xx_thr (vx_runV (C := "ValueBench") (As := [.int 1]) (rest := []) ⟨hx, hb, hml, hown, htx⟩ (cB_demandDone_1 l hl9 D cT aK aV H.size a0 v20 v21 v22 (.ref a2) v23 (.ref a1) v24 v25) ⟨callB_of 1 htx (xw_goodC kw_3_222) rfl rfl rfl (htx _ kw_1_1) (htx _ kw_3_219) ⟨by decide, by decide, by decide +kernel⟩ ⟨Nat.le_of_ble_eq_true rfl, Nat.le_of_ble_eq_true rfl⟩, (htx _ kw_3_221), (htx _ kp_B_demandDone)⟩ ⟨xPre_blind, va_recv hK hP (ci := 0) rfl (q0 := 0) rfl, (fun U hU hW => ⟨rfl, xPre_of hZ hS hFc hPc hDc hK U hU hW⟩)⟩ rfl rfl hl.1 rfl (lv_room (Nat.le_of_ble_eq_true rfl)) dB_binary_67 ⟨Nat.le_of_ble_eq_true rfl, Nat.le_of_ble_eq_true rfl⟩) hS hFc (fun q _ h => hFc q h) (fun E ce q9 u9 t H1 locs ht hvm _ hB hz1 hk1 hS hce hcv hcl => ?_)
  obtain ⟨rfl, hP1, hK1, hD1⟩ := hB
  rw [ht] at hP1
  obtain ⟨hP, hD⟩ := xjoin (W := [(a2, .inl (cT 3, 8, .inr (.inr (.inr (.inr f29))))), (a1, .inr (2, [v26, .int 0, .int 0])), (a3, .inr (2, [.ref a4, .int 1, v32])), (a4, .inl (cT 2, 4096, .inr (.inl f33))), (a0, .inr (0, [v20, v21, v22, .ref a2, v23, .ref a1, v24, .int 1]))]) hP hD [0] [1, 2, 3, 4] 4 rfl rfl (by decide) (by decide) hk1 hFc hP1 hD1
  generalize H1 = H at hP hS hce ⊢
  obtain ⟨hP9, hD9⟩ := xsub (wc := [(a0, .inr (0, [v20, v21, v22, .ref a2, v23, .ref a1, v24, .int 1])), (a1, .inr (2, [v26, .int 0, .int 0])), (a2, .inl (cT 3, 8, .inr (.inr (.inr (.inr f29))))), (a3, .inr (2, [.ref a4, .int 1, v32])), (a4, .inl (cT 2, 4096, .inr (.inl f33)))]) hP hD [4, 1, 0, 2, 3] rfl rfl (by decide)
  exact vx_out (E := "java/lang/ArithmeticException") (fun x h => (hne x h).elim) hlocks hce hcv hcl (fun t ht ha => ⟨(), trivial, ⟨rfl, by rw [ht]; exact hP9, va_K.moved ha hK, hD9⟩, hS.F ht⟩) hS.2.2 (Nat.le_of_ble_eq_true rfl) (Nat.le_of_ble_eq_true rfl)
set_option maxHeartbeats 400000000 in
set_option maxRecDepth 100000 in
theorem cL_binary_3 (l : Launch) (hl9 : l.stackTraces = false) (D : va_G) (cT : Nat → ClassId) (aK aV : Nat → Nat) (sz : Nat) (a0 : Nat) (a1 : Nat) (a2 : Nat) (a3 : Nat) (a4 : Nat) (x5 : Int32) (x10 : Int32) (x15 : Int32) (v20 : Value) (v21 : Value) (v22 : Value) (v23 : Value) (v24 : Value) (v25 : Value) (v26 : Value) (v27 : Value) (v28 : Value) (f29 : Nat → Option Nat) (v32 : Value) (f33 : Nat → Int64) (h6 : ¬ x5 < 0) (h7 : ¬ 7 < x5) (h8 : x5 ≤ 7) (h9 : vp_in x5 8) (h11 : ¬ x10 < 0) (h12 : ¬ 7 < x10) (h13 : x10 ≤ 7) (h14 : vp_in x10 8) (h16 : ¬ x15 < 0) (h17 : ¬ 7 < x15) (h18 : x15 ≤ 7) (h19 : vp_in x15 8) (h30 : f29 x10.toNatClampNeg = some a3) (h31 : f29 x15.toNatClampNeg = some a3) (h34 : f33 0 = 0) : xMet l yL_binary wyL_binary 8 1 6 145 D cT aK aV sz [.ref a0, .int x5, .int 1, .int x10, .int x15] [(a0, .inr (0, [v20, v21, v22, .ref a2, v23, .ref a1, v24, v25])), (a1, .inr (2, [v26, v27, v28])), (a2, .inl (cT 3, 8, .inr (.inr (.inr (.inr f29))))), (a3, .inr (2, [.ref a4, .int 1, v32])), (a4, .inl (cT 2, 4096, .inr (.inl f33)))] (fun A => va_Qi (fun (r : Int32) (_ : Unit) => r = 2) (fun _ t => xB D xcl cT A [(a0, .inr (0, [v20, v21, v22, .ref a2, v23, .ref a1, v24, .int 1])), (a1, .inr (2, [v26, .int 0, .int 0])), (a2, .inl (cT 3, 8, .inr (.inr (.inr (.inr f29))))), (a3, .inr (2, [.ref a4, .int 1, v32])), (a4, .inl (cT 2, 4096, .inr (.inl f33)))] t) A) := by
  refine va_MetW (cc := method_7_code) (maxL := 6) (ret := (some .int)) (hh := [(0, 9, 12, 19), (0, 9, 16, 33), (0, 9, 20, 13)]) (by decide) rfl ?_
  intro p e s m args below meth c s₁ B hml hv
  obtain ⟨rfl, hsz, hZ, hP, hK, hD0⟩ := hv
  have hx := B.exec
  have hb := B.bytes
  have hr := B.returns
  have hts := atoms_spec (ws := wyL_binary) B.pre
  have htx := fun w h => hts w (List.mem_cons_of_mem _ h)
  have hown : s.vm.findClass "ValueBenchLaw" = some m.cls := findClass_of_methodNamed B.named
  have hlocks := B.notSynchronized
  subst hsz
  have hD := hD0.self (sz := s.heap.size)
  generalize hAe : va_A [(a0, .inr (0, [v20, v21, v22, .ref a2, v23, .ref a1, v24, v25])), (a1, .inr (2, [v26, v27, v28])), (a2, .inl (cT 3, 8, .inr (.inr (.inr (.inr f29))))), (a3, .inr (2, [.ref a4, .int 1, v32])), (a4, .inl (cT 2, 4096, .inr (.inl f33)))] s.heap.size = A at hD hZ ⊢
  have hA : ∀ q : Nat, s.heap.size ≤ q → A q := fun q h => by rw [← hAe]; exact Or.inr h
  have hS : va_S A s.heap s.heap [] := va_S.rf
  have hP : va_P D xcl [(a0, .inr (0, [v20, v21, v22, .ref a2, v23, .ref a1, v24, v25])), (a1, .inr (2, [v26, v27, v28])), (a2, .inl (cT 3, 8, .inr (.inr (.inr (.inr f29))))), (a3, .inr (2, [.ref a4, .int 1, v32])), (a4, .inl (cT 2, 4096, .inr (.inl f33)))] s.heap := hP
  have hl := lv_entry ([.ref a0, .int x5, .int 1, .int x10, .int x15]) (n := 6) (Nat.le_of_ble_eq_true rfl)
  rw [lg_entry_eq]
  generalize (lg_sl ([.ref a0, .int x5, .int 1, .int x10, .int x15]) ++ List.replicate (6 - (lg_sl ([.ref a0, .int x5, .int 1, .int x10, .int x15])).length) Slot.unset).toArray = ls at hl ⊢
  have hl : lv_has ls 6 [(0, .ref a0), (1, .int x5), (2, .int 1), (3, .int x10), (4, .int x15)] := hl
  have htab := vx_table (x := yL_binary) B (hts _ List.mem_cons_self)
  refine lv_aload_n hx hb dL_binary_0 rfl (lv_at hl 0 rfl) ?_
  refine lv_iload_n hx hb dL_binary_1 rfl (lv_at hl 1 rfl) ?_
  refine lv_iload_n hx hb dL_binary_2 rfl (lv_at hl 2 rfl) ?_
  refine lv_iload_n hx hb dL_binary_3 rfl (lv_at hl 3 rfl) ?_
  refine lv_iload hx hb dL_binary_4 (lv_at hl 4 rfl) ?_
  obtain ⟨hPc, hDc, hFc⟩ := xcut (wc := [(a0, .inr (0, [v20, v21, v22, .ref a2, v23, .ref a1, v24, v25])), (a1, .inr (2, [v26, v27, v28])), (a2, .inl (cT 3, 8, .inr (.inr (.inr (.inr f29))))), (a3, .inr (2, [.ref a4, .int 1, v32])), (a4, .inl (cT 2, 4096, .inr (.inl f33)))]) hP hD hS hA [0, 1, 2, 3, 4] rfl rfl (by decide)
  refine xx_thr (vx_runV (C := "ValueBench") (As := [.int x5, .int 1, .int x10, .int x15]) (rest := []) ⟨hx, hb, hml, hown, htx⟩ (cB_binary_3 l hl9 D cT aK aV s.heap.size a0 a1 a2 a3 a4 x5 x10 x15 v20 v21 v22 v23 v24 v25 v26 v27 v28 f29 v32 f33 h6 h7 h8 h9 h11 h12 h13 h14 h16 h17 h18 h19 (by first | rfl | exact h30 | exact h31 | exact h34) (by first | rfl | exact h30 | exact h31 | exact h34) (by first | rfl | exact h30 | exact h31 | exact h34)) ⟨callB_of 4 htx (xw_goodC kw_3_102) rfl rfl rfl (htx _ kw_1_1) (htx _ kw_3_99) ⟨by decide, by decide, by decide +kernel⟩ ⟨Nat.le_of_ble_eq_true rfl, Nat.le_of_ble_eq_true rfl⟩, (htx _ kw_3_100), (htx _ kw_3_101)⟩ ⟨xPre_blind, va_recv hK hP (ci := 0) rfl (q0 := 0) rfl, (fun U hU hW => ⟨rfl, xPre_of hZ hS hFc hPc hDc hK U hU hW⟩)⟩ rfl rfl hl.1 rfl (lv_room (Nat.le_of_ble_eq_true rfl)) dL_binary_6 ⟨Nat.le_of_ble_eq_true rfl, Nat.le_of_ble_eq_true rfl⟩) hS hFc (fun q _ h => hFc q h) (fun E ce q9 u9 t H1 locs ht hvm _ hB hz1 hk1 hS hce hcv hcl => ?_)
  obtain ⟨rfl, hP1, hK1, hD1⟩ := hB
  rw [ht] at hP1
  obtain ⟨hP, hD⟩ := xjoin (W := [(a0, .inr (0, [v20, v21, v22, .ref a2, v23, .ref a1, v24, .int 1])), (a1, .inr (2, [v26, .int 0, .int 0])), (a2, .inl (cT 3, 8, .inr (.inr (.inr (.inr f29))))), (a3, .inr (2, [.ref a4, .int 1, v32])), (a4, .inl (cT 2, 4096, .inr (.inl f33)))]) hP hD [0, 1, 2, 3, 4] [] 0 rfl rfl (by decide) (by decide) hk1 hFc hP1 hD1
  generalize H1 = H at hP hS hce ⊢
  refine vx_catch (own := "ValueBenchLaw") (name := "java/lang/ArithmeticException") (E := "java/lang/ArithmeticException") hown [⟨0, 9, 12, 19⟩] ⟨0, 9, 16, 33⟩ [⟨0, 9, 20, 13⟩] (by rw [htab]; rfl) (by intro z hz; rcases List.mem_cons.mp hz with rfl | hz; (exact Or.inr ⟨by decide, "java/lang/IllegalArgumentException", htx _ kw_1_211, hZ.2.2.2.2.2.2.2.1 _ (List.mem_of_getElem? (i := 10) rfl)⟩); cases hz) (by decide) (by decide) (htx _ kw_3_98) ((hZ.2.2.2.2.2.1 _ (List.mem_of_getElem? (i := 3) rfl)).use rfl) hce hcv hcl ?_
  refine lv_astore (lv' := [(5, .ref q9), (0, .ref a0), (1, .int x5), (2, .int 1), (3, .int x10), (4, .int x15)]) hx hb dL_binary_16 hl (by decide) rfl (fun ls hl => ?_)
  refine lv_iconst (v := 2) hx hb dL_binary_18 (by decide) ?_
  obtain ⟨hP9, hD9⟩ := xsub (wc := [(a0, .inr (0, [v20, v21, v22, .ref a2, v23, .ref a1, v24, .int 1])), (a1, .inr (2, [v26, .int 0, .int 0])), (a2, .inl (cT 3, 8, .inr (.inr (.inr (.inr f29))))), (a3, .inr (2, [.ref a4, .int 1, v32])), (a4, .inl (cT 2, 4096, .inr (.inl f33)))]) hP hD [0, 1, 2, 3, 4] rfl rfl (by decide)
  refine W.widen (k := 1) (n := 6) (Nat.le_of_ble_eq_true rfl) (Nat.le_of_ble_eq_true rfl) ?_
  exact W.iret (v := 2) hx hb hr (fun t ht hW => ⟨⟨2, (), rfl, rfl, by rw [ht]; exact hP9, va_K.moved hW.alike hK, hD9⟩, hS.F ht⟩) hS.2.2 dL_binary_19
set_option maxHeartbeats 400000000 in
set_option maxRecDepth 100000 in
theorem cB_isWithin_26 (l : Launch) (hl9 : l.stackTraces = false) (D : va_G) (cT : Nat → ClassId) (aK aV : Nat → Nat) (sz : Nat) : xMet l yB_isWithin wyB_isWithin 0 0 0 0 D cT aK aV sz [.int 2, .int 4] [] (fun A => va_Qi (fun (r : Int32) (_ : Unit) => r = 1) (fun _ t => xB D xcl cT A [] t) A) := by
  refine Met.ofW (cc := prog_1_method_15_code) (maxL := 2) (ret := (some .boolean)) (by decide) rfl ?_
  intro p e s m args below meth c s₁ B hml hv
  obtain ⟨rfl, hsz, hZ, hP, hK, hD0⟩ := hv
  have hx := B.exec
  have hb := B.bytes
  have hr := B.returns
  have hts := atoms_spec (ws := wyB_isWithin) B.pre
  have htx := fun w h => hts w (List.mem_cons_of_mem _ h)
  have hown : s.vm.findClass "ValueBench" = some m.cls := findClass_of_methodNamed B.named
  have hlocks := B.notSynchronized
  subst hsz
  have hD := hD0.self (sz := s.heap.size)
  generalize hAe : va_A [] s.heap.size = A at hD hZ ⊢
  have hA : ∀ q : Nat, s.heap.size ≤ q → A q := fun q h => by rw [← hAe]; exact Or.inr h
  have hS : va_S A s.heap s.heap [] := va_S.rf
  have hP : va_P D xcl [] s.heap := hP
  have hl := lv_entry ([.int 2, .int 4]) (n := 2) (Nat.le_of_ble_eq_true rfl)
  rw [lg_entry_eq]
  generalize (lg_sl ([.int 2, .int 4]) ++ List.replicate (2 - (lg_sl ([.int 2, .int 4])).length) Slot.unset).toArray = ls at hl ⊢
  have hl : lv_has ls 2 [(0, .int 2), (1, .int 4)] := hl
  refine lv_iload_n hx hb dB_isWithin_0 rfl (lv_at hl 0 rfl) ?_
  refine lv_if_lt (tgt := 13) hx hb dB_isWithin_1 (by decide) (fun h => ((by revert h; decide : False)).elim) (fun _ => ?_)
  refine lv_iload_n hx hb dB_isWithin_4 rfl (lv_at hl 0 rfl) ?_
  refine lv_iload_n hx hb dB_isWithin_5 rfl (lv_at hl 1 rfl) ?_
  refine lv_icmp_gt (tgt := 13) hx hb dB_isWithin_6 (by decide) (fun h => ((by revert h; decide : False)).elim) (fun _ => ?_)
  refine lv_iconst (v := 1) hx hb dB_isWithin_9 (by decide) ?_
  refine lv_goto (tgt := 14) hx hb dB_isWithin_10 (by decide) ?_
  obtain ⟨hP9, hD9⟩ := xsub (wc := []) hP hD [] rfl rfl (by decide)
  refine W.widen (k := 0) (n := 0) (Nat.le_of_ble_eq_true rfl) (Nat.le_of_ble_eq_true rfl) ?_
  exact W.zret (v := 1) hx hb hr rfl (fun t ht hW => ⟨⟨1, (), rfl, rfl, by rw [ht]; exact hP9, va_K.moved hW.alike hK, hD9⟩, hS.F ht⟩) hS.2.2 dB_isWithin_14
set_option maxHeartbeats 400000000 in
set_option maxRecDepth 100000 in
theorem cA_times_0 (l : Launch) (hl9 : l.stackTraces = false) (D : va_G) (cT : Nat → ClassId) (aK aV : Nat → Nat) (sz : Nat) (a0 : Nat) (a1 : Nat) (b2 : Nat) (b3 : Nat) (v4 : Value) (f5 : Nat → Int64) (h6 : f5 0 = 0) : xMet l yA_times wyA_times 2 0 0 43 D cT aK aV sz [.ref a0, .ref b2, .ref b3] [(a0, .inr (2, [.ref a1, .int 1, v4])), (a1, .inl (cT 2, 4096, .inr (.inl f5)))] (fun A => va_Qi (fun (r : Int32) (_ : Unit) => r = 1) (fun _ t => xB D xcl cT A [(a0, .inr (2, [.ref a1, .int 1, v4])), (a1, .inl (cT 2, 4096, .inr (.inl f5)))] t) A) := by
  refine Met.ofW (cc := prog_3_method_12_code) (maxL := 3) (ret := (some .int)) (by decide) rfl ?_
  intro p e s m args below meth c s₁ B hml hv
  obtain ⟨rfl, hsz, hZ, hP, hK, hD0⟩ := hv
  have hx := B.exec
  have hb := B.bytes
  have hr := B.returns
  have hts := atoms_spec (ws := wyA_times) B.pre
  have htx := fun w h => hts w (List.mem_cons_of_mem _ h)
  have hown : s.vm.findClass "ValueBench$Operators" = some m.cls := findClass_of_methodNamed B.named
  have hlocks := B.notSynchronized
  subst hsz
  have hD := hD0.self (sz := s.heap.size)
  generalize hAe : va_A [(a0, .inr (2, [.ref a1, .int 1, v4])), (a1, .inl (cT 2, 4096, .inr (.inl f5)))] s.heap.size = A at hD hZ ⊢
  have hA : ∀ q : Nat, s.heap.size ≤ q → A q := fun q h => by rw [← hAe]; exact Or.inr h
  have hS : va_S A s.heap s.heap [] := va_S.rf
  have hP : va_P D xcl [(a0, .inr (2, [.ref a1, .int 1, v4])), (a1, .inl (cT 2, 4096, .inr (.inl f5)))] s.heap := hP
  have hl := lv_entry ([.ref a0, .ref b2, .ref b3]) (n := 3) (Nat.le_of_ble_eq_true rfl)
  rw [lg_entry_eq]
  generalize (lg_sl ([.ref a0, .ref b2, .ref b3]) ++ List.replicate (3 - (lg_sl ([.ref a0, .ref b2, .ref b3])).length) Slot.unset).toArray = ls at hl ⊢
  have hl : lv_has ls 3 [(0, .ref a0), (1, .ref b2), (2, .ref b3)] := hl
  refine lv_aload_n hx hb dA_times_0 rfl (lv_at hl 0 rfl) ?_
  refine lv_iconst (v := 0) hx hb dA_times_1 (by decide) ?_
  refine lv_bipush (v := 6) hx hb dA_times_2 (by decide) ?_
  obtain ⟨hPc, hDc, hFc⟩ := xcut (wc := [(a0, .inr (2, [.ref a1, .int 1, v4])), (a1, .inl (cT 2, 4096, .inr (.inl f5)))]) hP hD hS hA [0, 1] rfl rfl (by decide)
  refine va_calli (va_runV (C := "ValueBench$Row") (As := [.int 0, .int 6]) (rest := []) ⟨hx, hb, hml, hown, htx⟩ (cR_is_1 l hl9 D cT aK aV s.heap.size a0 a1 v4 f5 (by first | rfl | exact h6)) ⟨callB_of 2 htx (xw_goodC kw_3_75) rfl rfl rfl (htx _ kw_1_4) (htx _ kw_3_106) ⟨by decide, by decide, by decide +kernel⟩ ⟨Nat.le_of_ble_eq_true rfl, Nat.le_of_ble_eq_true rfl⟩, (htx _ kw_3_73), (htx _ kw_3_74)⟩ ⟨xPre_blind, va_recv hK hP (ci := 2) rfl (q0 := 0) rfl, (fun U hU hW => ⟨rfl, xPre_of hZ hS hFc hPc hDc hK U hU hW⟩)⟩ rfl rfl hl.1 rfl (lv_room (Nat.le_of_ble_eq_true rfl)) dA_times_4 ⟨Nat.le_of_ble_eq_true rfl, Nat.le_of_ble_eq_true rfl⟩) hS (fun q _ h => hFc q h) hFc (fun r1 u9 t H1 locs ht hvm hr9 hB hz1 hk1 hS => ?_)
  obtain ⟨hP1, hK1, hD1⟩ := hB
  rw [ht] at hP1
  obtain ⟨hP, hD⟩ := xjoin (W := [(a0, .inr (2, [.ref a1, .int 1, v4])), (a1, .inl (cT 2, 4096, .inr (.inl f5)))]) hP hD [0, 1] [] 0 rfl rfl (by decide) (by decide) hk1 hFc hP1 hD1
  generalize H1 = H at hP hS ⊢
  rw [hr9]
  refine W.eq (g2 := F0 m 7 ls [.int 0]) rfl ?_
  refine lv_if_eq (tgt := 32) hx hb dA_times_7 (by decide) (fun _ => ?_) (fun h => ((by revert h; decide : False)).elim)
  refine lv_aload_n hx hb dA_times_32 rfl (lv_at hl 0 rfl) ?_
  refine lv_iconst (v := 0) hx hb dA_times_33 (by decide) ?_
  refine lv_iconst (v := 4) hx hb dA_times_34 (by decide) ?_
  obtain ⟨hPc, hDc, hFc⟩ := xcut (wc := [(a0, .inr (2, [.ref a1, .int 1, v4])), (a1, .inl (cT 2, 4096, .inr (.inl f5)))]) hP hD hS hA [0, 1] rfl rfl (by decide)
  refine va_calli (va_runV (C := "ValueBench$Row") (As := [.int 0, .int 4]) (rest := []) ⟨hx, hb, hml, hown, htx⟩ (cR_is_3 l hl9 D cT aK aV H.size a0 a1 v4 f5 (by first | rfl | exact h6)) ⟨callB_of 2 htx (xw_goodC kw_3_75) rfl rfl rfl (htx _ kw_1_4) (htx _ kw_3_106) ⟨by decide, by decide, by decide +kernel⟩ ⟨Nat.le_of_ble_eq_true rfl, Nat.le_of_ble_eq_true rfl⟩, (htx _ kw_3_73), (htx _ kw_3_74)⟩ ⟨xPre_blind, va_recv hK hP (ci := 2) rfl (q0 := 0) rfl, (fun U hU hW => ⟨rfl, xPre_of hZ hS hFc hPc hDc hK U hU hW⟩)⟩ rfl rfl hl.1 rfl (lv_room (Nat.le_of_ble_eq_true rfl)) dA_times_35 ⟨Nat.le_of_ble_eq_true rfl, Nat.le_of_ble_eq_true rfl⟩) hS (fun q _ h => hFc q h) hFc (fun r2 u9 t H1 locs ht hvm hr9 hB hz1 hk1 hS => ?_)
  obtain ⟨hP1, hK1, hD1⟩ := hB
  rw [ht] at hP1
  obtain ⟨hP, hD⟩ := xjoin (W := [(a0, .inr (2, [.ref a1, .int 1, v4])), (a1, .inl (cT 2, 4096, .inr (.inl f5)))]) hP hD [0, 1] [] 0 rfl rfl (by decide) (by decide) hk1 hFc hP1 hD1
  generalize H1 = H at hP hS ⊢
  rw [hr9]
  refine W.eq (g2 := F0 m 38 ls [.int 0]) rfl ?_
  refine lv_if_eq (tgt := 62) hx hb dA_times_38 (by decide) (fun _ => ?_) (fun h => ((by revert h; decide : False)).elim)
  refine lv_aload_n hx hb dA_times_62 rfl (lv_at hl 0 rfl) ?_
  refine lv_iconst (v := 0) hx hb dA_times_63 (by decide) ?_
  refine lv_iconst (v := 3) hx hb dA_times_64 (by decide) ?_
  obtain ⟨hPc, hDc, hFc⟩ := xcut (wc := [(a0, .inr (2, [.ref a1, .int 1, v4])), (a1, .inl (cT 2, 4096, .inr (.inl f5)))]) hP hD hS hA [0, 1] rfl rfl (by decide)
  refine va_calli (va_runV (C := "ValueBench$Row") (As := [.int 0, .int 3]) (rest := []) ⟨hx, hb, hml, hown, htx⟩ (cR_is_4 l hl9 D cT aK aV H.size a0 a1 v4 f5 (by first | rfl | exact h6)) ⟨callB_of 2 htx (xw_goodC kw_3_75) rfl rfl rfl (htx _ kw_1_4) (htx _ kw_3_106) ⟨by decide, by decide, by decide +kernel⟩ ⟨Nat.le_of_ble_eq_true rfl, Nat.le_of_ble_eq_true rfl⟩, (htx _ kw_3_73), (htx _ kw_3_74)⟩ ⟨xPre_blind, va_recv hK hP (ci := 2) rfl (q0 := 0) rfl, (fun U hU hW => ⟨rfl, xPre_of hZ hS hFc hPc hDc hK U hU hW⟩)⟩ rfl rfl hl.1 rfl (lv_room (Nat.le_of_ble_eq_true rfl)) dA_times_65 ⟨Nat.le_of_ble_eq_true rfl, Nat.le_of_ble_eq_true rfl⟩) hS (fun q _ h => hFc q h) hFc (fun r3 u9 t H1 locs ht hvm hr9 hB hz1 hk1 hS => ?_)
  obtain ⟨hP1, hK1, hD1⟩ := hB
  rw [ht] at hP1
  obtain ⟨hP, hD⟩ := xjoin (W := [(a0, .inr (2, [.ref a1, .int 1, v4])), (a1, .inl (cT 2, 4096, .inr (.inl f5)))]) hP hD [0, 1] [] 0 rfl rfl (by decide) (by decide) hk1 hFc hP1 hD1
  generalize H1 = H at hP hS ⊢
  rw [hr9]
  refine W.eq (g2 := F0 m 68 ls [.int 0]) rfl ?_
  refine lv_if_eq (tgt := 92) hx hb dA_times_68 (by decide) (fun _ => ?_) (fun h => ((by revert h; decide : False)).elim)
  refine lv_iconst (v := 1) hx hb dA_times_92 (by decide) ?_
  obtain ⟨hP9, hD9⟩ := xsub (wc := [(a0, .inr (2, [.ref a1, .int 1, v4])), (a1, .inl (cT 2, 4096, .inr (.inl f5)))]) hP hD [0, 1] rfl rfl (by decide)
  refine W.widen (k := 0) (n := 0) (Nat.le_of_ble_eq_true rfl) (Nat.le_of_ble_eq_true rfl) ?_
  exact W.iret (v := 1) hx hb hr (fun t ht hW => ⟨⟨1, (), rfl, rfl, by rw [ht]; exact hP9, va_K.moved hW.alike hK, hD9⟩, hS.F ht⟩) hS.2.2 dA_times_93
set_option maxHeartbeats 400000000 in
set_option maxRecDepth 100000 in
theorem cA_apply_4 (l : Launch) (hl9 : l.stackTraces = false) (D : va_G) (cT : Nat → ClassId) (aK aV : Nat → Nat) (sz : Nat) (a0 : Nat) (a1 : Nat) (b2 : Nat) (b3 : Nat) (v4 : Value) (f5 : Nat → Int64) (h6 : f5 0 = 0) : xMet l yA_apply wyA_apply 3 0 0 65 D cT aK aV sz [.int 2, .ref a0, .ref b2, .ref b3] [(a0, .inr (2, [.ref a1, .int 1, v4])), (a1, .inl (cT 2, 4096, .inr (.inl f5)))] (fun A => va_Qi (fun (r : Int32) (_ : Unit) => r = 1) (fun _ t => xB D xcl cT A [(a0, .inr (2, [.ref a1, .int 1, v4])), (a1, .inl (cT 2, 4096, .inr (.inl f5)))] t) A) := by
  refine Met.ofW (cc := prog_3_method_2_code) (maxL := 4) (ret := (some .int)) (by decide) rfl ?_
  intro p e s m args below meth c s₁ B hml hv
  obtain ⟨rfl, hsz, hZ, hP, hK, hD0⟩ := hv
  have hx := B.exec
  have hb := B.bytes
  have hr := B.returns
  have hts := atoms_spec (ws := wyA_apply) B.pre
  have htx := fun w h => hts w (List.mem_cons_of_mem _ h)
  have hown : s.vm.findClass "ValueBench$Operators" = some m.cls := findClass_of_methodNamed B.named
  have hlocks := B.notSynchronized
  subst hsz
  have hD := hD0.self (sz := s.heap.size)
  generalize hAe : va_A [(a0, .inr (2, [.ref a1, .int 1, v4])), (a1, .inl (cT 2, 4096, .inr (.inl f5)))] s.heap.size = A at hD hZ ⊢
  have hA : ∀ q : Nat, s.heap.size ≤ q → A q := fun q h => by rw [← hAe]; exact Or.inr h
  have hS : va_S A s.heap s.heap [] := va_S.rf
  have hP : va_P D xcl [(a0, .inr (2, [.ref a1, .int 1, v4])), (a1, .inl (cT 2, 4096, .inr (.inl f5)))] s.heap := hP
  have hl := lv_entry ([.int 2, .ref a0, .ref b2, .ref b3]) (n := 4) (Nat.le_of_ble_eq_true rfl)
  rw [lg_entry_eq]
  generalize (lg_sl ([.int 2, .ref a0, .ref b2, .ref b3]) ++ List.replicate (4 - (lg_sl ([.int 2, .ref a0, .ref b2, .ref b3])).length) Slot.unset).toArray = ls at hl ⊢
  have hl : lv_has ls 4 [(0, .int 2), (1, .ref a0), (2, .ref b2), (3, .ref b3)] := hl
  refine lv_aload_n hx hb dA_apply_0 rfl (lv_at hl 1 rfl) ?_
  refine lv_iconst (v := 0) hx hb dA_apply_1 (by decide) ?_
  refine lv_iconst (v := 3) hx hb dA_apply_2 (by decide) ?_
  obtain ⟨hPc, hDc, hFc⟩ := xcut (wc := [(a0, .inr (2, [.ref a1, .int 1, v4])), (a1, .inl (cT 2, 4096, .inr (.inl f5)))]) hP hD hS hA [0, 1] rfl rfl (by decide)
  refine va_calli (va_runV (C := "ValueBench$Row") (As := [.int 0, .int 3]) (rest := []) ⟨hx, hb, hml, hown, htx⟩ (cR_is_4 l hl9 D cT aK aV s.heap.size a0 a1 v4 f5 (by first | rfl | exact h6)) ⟨callB_of 2 htx (xw_goodC kw_3_75) rfl rfl rfl (htx _ kw_1_4) (htx _ kw_3_106) ⟨by decide, by decide, by decide +kernel⟩ ⟨Nat.le_of_ble_eq_true rfl, Nat.le_of_ble_eq_true rfl⟩, (htx _ kw_3_73), (htx _ kw_3_74)⟩ ⟨xPre_blind, va_recv hK hP (ci := 2) rfl (q0 := 0) rfl, (fun U hU hW => ⟨rfl, xPre_of hZ hS hFc hPc hDc hK U hU hW⟩)⟩ rfl rfl hl.1 rfl (lv_room (Nat.le_of_ble_eq_true rfl)) dA_apply_3 ⟨Nat.le_of_ble_eq_true rfl, Nat.le_of_ble_eq_true rfl⟩) hS (fun q _ h => hFc q h) hFc (fun r1 u9 t H1 locs ht hvm hr9 hB hz1 hk1 hS => ?_)
  obtain ⟨hP1, hK1, hD1⟩ := hB
  rw [ht] at hP1
  obtain ⟨hP, hD⟩ := xjoin (W := [(a0, .inr (2, [.ref a1, .int 1, v4])), (a1, .inl (cT 2, 4096, .inr (.inl f5)))]) hP hD [0, 1] [] 0 rfl rfl (by decide) (by decide) hk1 hFc hP1 hD1
  generalize H1 = H at hP hS ⊢
  rw [hr9]
  refine W.eq (g2 := F0 m 6 ls [.int 0]) rfl ?_
  refine lv_if_eq (tgt := 34) hx hb dA_apply_6 (by decide) (fun _ => ?_) (fun h => ((by revert h; decide : False)).elim)
  refine lv_iload_n hx hb dA_apply_34 rfl (lv_at hl 0 rfl) ?_
  refine lv_tableIn (off := 43) (tgt := 78) hx hb dA_apply_35 (by decide) (by decide) (by decide) (by decide) ?_
  refine lv_aload_n hx hb dA_apply_78 rfl (lv_at hl 1 rfl) ?_
  refine lv_aload_n hx hb dA_apply_79 rfl (lv_at hl 2 rfl) ?_
  refine lv_aload_n hx hb dA_apply_80 rfl (lv_at hl 3 rfl) ?_
  obtain ⟨hPc, hDc, hFc⟩ := xcut (wc := [(a0, .inr (2, [.ref a1, .int 1, v4])), (a1, .inl (cT 2, 4096, .inr (.inl f5)))]) hP hD hS hA [0, 1] rfl rfl (by decide)
  refine va_calli (va_runS (As := [.ref a0, .ref b2, .ref b3]) (rest := []) ⟨hx, hb, hml, hown, htx⟩ (cA_times_0 l hl9 D cT aK aV H.size a0 a1 b2 b3 v4 f5 (by first | rfl | exact h6)) ⟨callB_of 3 htx (xw_goodC kw_3_189) rfl rfl rfl (htx _ kw_1_21) (htx _ kw_3_187) ⟨by decide, by decide, by decide +kernel⟩ ⟨Nat.le_of_ble_eq_true rfl, Nat.le_of_ble_eq_true rfl⟩, htx _ kw_3_188⟩ ⟨xPre_blind, (fun U hU hW => ⟨rfl, xPre_of hZ hS hFc hPc hDc hK U hU hW⟩)⟩ rfl rfl hl.1 rfl (lv_room (Nat.le_of_ble_eq_true rfl)) dA_apply_81 ⟨Nat.le_of_ble_eq_true rfl, Nat.le_of_ble_eq_true rfl⟩) hS (fun q _ h => hFc q h) hFc (fun r2 u9 t H1 locs ht hvm hr9 hB hz1 hk1 hS => ?_)
  obtain ⟨hP1, hK1, hD1⟩ := hB
  rw [ht] at hP1
  obtain ⟨hP, hD⟩ := xjoin (W := [(a0, .inr (2, [.ref a1, .int 1, v4])), (a1, .inl (cT 2, 4096, .inr (.inl f5)))]) hP hD [0, 1] [] 0 rfl rfl (by decide) (by decide) hk1 hFc hP1 hD1
  generalize H1 = H at hP hS ⊢
  rw [hr9]
  refine W.eq (g2 := F0 m 84 ls [.int 1]) rfl ?_
  obtain ⟨hP9, hD9⟩ := xsub (wc := [(a0, .inr (2, [.ref a1, .int 1, v4])), (a1, .inl (cT 2, 4096, .inr (.inl f5)))]) hP hD [0, 1] rfl rfl (by decide)
  refine W.widen (k := 0) (n := 0) (Nat.le_of_ble_eq_true rfl) (Nat.le_of_ble_eq_true rfl) ?_
  exact W.iret (v := 1) hx hb hr (fun t ht hW => ⟨⟨1, (), rfl, rfl, by rw [ht]; exact hP9, va_K.moved hW.alike hK, hD9⟩, hS.F ht⟩) hS.2.2 dA_apply_84
set_option maxHeartbeats 400000000 in
set_option maxRecDepth 100000 in
theorem cB_binary_4 (l : Launch) (hl9 : l.stackTraces = false) (D : va_G) (cT : Nat → ClassId) (aK aV : Nat → Nat) (sz : Nat) (a0 : Nat) (a1 : Nat) (a2 : Nat) (a3 : Nat) (a4 : Nat) (x5 : Int32) (x10 : Int32) (x15 : Int32) (v20 : Value) (v21 : Value) (v22 : Value) (v23 : Value) (v24 : Value) (v25 : Value) (v26 : Value) (v27 : Value) (v28 : Value) (f29 : Nat → Option Nat) (b31 : Nat) (v33 : Value) (f34 : Nat → Int64) (h6 : ¬ x5 < 0) (h7 : ¬ 7 < x5) (h8 : x5 ≤ 7) (h9 : vp_in x5 8) (h11 : ¬ x10 < 0) (h12 : ¬ 7 < x10) (h13 : x10 ≤ 7) (h14 : vp_in x10 8) (h16 : ¬ x15 < 0) (h17 : ¬ 7 < x15) (h18 : x15 ≤ 7) (h19 : vp_in x15 8) (h30 : f29 x10.toNatClampNeg = some a3) (h32 : f29 x15.toNatClampNeg = some b31) (h35 : f34 0 = 0) : xMetX l yB_binary wyB_binary 7 1 6 121 D cT aK aV sz [.ref a0, .int x5, .int 2, .int x10, .int x15] [(a0, .inr (0, [v20, v21, v22, .ref a2, v23, .ref a1, v24, v25])), (a1, .inr (2, [v26, v27, v28])), (a2, .inl (cT 3, 8, .inr (.inr (.inr (.inr f29))))), (a3, .inr (2, [.ref a4, .int 1, v33])), (a4, .inl (cT 2, 4096, .inr (.inl f34)))] "java/lang/ArithmeticException" (fun A t => xB D xcl cT A [(a0, .inr (0, [v20, v21, v22, .ref a2, v23, .ref a1, v24, .int 1])), (a1, .inr (2, [v26, .int 0, .int 0])), (a2, .inl (cT 3, 8, .inr (.inr (.inr (.inr f29))))), (a3, .inr (2, [.ref a4, .int 1, v33])), (a4, .inl (cT 2, 4096, .inr (.inl f34)))] t) := by
  refine vx_ofW (cc := prog_1_method_6_code) (maxL := 5) (ret := none) (by decide) rfl ?_
  intro p e s m args below meth c s₁ B hml hne hv
  obtain ⟨rfl, hsz, hZ, hP, hK, hD0⟩ := hv
  have hx := B.exec
  have hb := B.bytes
  have hr := B.returns
  have hts := atoms_spec (ws := wyB_binary) B.pre
  have htx := fun w h => hts w (List.mem_cons_of_mem _ h)
  have hown : s.vm.findClass "ValueBench" = some m.cls := findClass_of_methodNamed B.named
  have hlocks := B.notSynchronized
  subst hsz
  have hD := hD0.self (sz := s.heap.size)
  generalize hAe : va_A [(a0, .inr (0, [v20, v21, v22, .ref a2, v23, .ref a1, v24, v25])), (a1, .inr (2, [v26, v27, v28])), (a2, .inl (cT 3, 8, .inr (.inr (.inr (.inr f29))))), (a3, .inr (2, [.ref a4, .int 1, v33])), (a4, .inl (cT 2, 4096, .inr (.inl f34)))] s.heap.size = A at hD hZ ⊢
  have hA : ∀ q : Nat, s.heap.size ≤ q → A q := fun q h => by rw [← hAe]; exact Or.inr h
  have hS : va_S A s.heap s.heap [] := va_S.rf
  have hP : va_P D xcl [(a0, .inr (0, [v20, v21, v22, .ref a2, v23, .ref a1, v24, v25])), (a1, .inr (2, [v26, v27, v28])), (a2, .inl (cT 3, 8, .inr (.inr (.inr (.inr f29))))), (a3, .inr (2, [.ref a4, .int 1, v33])), (a4, .inl (cT 2, 4096, .inr (.inl f34)))] s.heap := hP
  have hl := lv_entry ([.ref a0, .int x5, .int 2, .int x10, .int x15]) (n := 5) (Nat.le_of_ble_eq_true rfl)
  rw [lg_entry_eq]
  generalize (lg_sl ([.ref a0, .int x5, .int 2, .int x10, .int x15]) ++ List.replicate (5 - (lg_sl ([.ref a0, .int x5, .int 2, .int x10, .int x15])).length) Slot.unset).toArray = ls at hl ⊢
  have hl : lv_has ls 5 [(0, .ref a0), (1, .int x5), (2, .int 2), (3, .int x10), (4, .int x15)] := hl
  refine lv_iload_n hx hb dB_binary_0 rfl (lv_at hl 1 rfl) ?_
  obtain ⟨hPc, hDc, hFc⟩ := xcut (wc := []) hP hD hS hA [] rfl rfl (by decide)
  refine va_calli (va_runS (As := [.int x5]) (rest := []) ⟨hx, hb, hml, hown, htx⟩ (cB_isRegister_0 l hl9 D cT aK aV s.heap.size x5 h6 h7 h8 h9) ⟨callB_of 1 htx (xw_goodC kw_2_18) rfl rfl rfl (htx _ kw_1_1) (htx _ kw_2_16) ⟨by decide, by decide, by decide +kernel⟩ ⟨Nat.le_of_ble_eq_true rfl, Nat.le_of_ble_eq_true rfl⟩, htx _ kw_2_17⟩ ⟨xPre_blind, (fun U hU hW => ⟨rfl, xPre_of hZ hS hFc hPc hDc hK U hU hW⟩)⟩ rfl rfl hl.1 rfl (lv_room (Nat.le_of_ble_eq_true rfl)) dB_binary_1 ⟨Nat.le_of_ble_eq_true rfl, Nat.le_of_ble_eq_true rfl⟩) hS (fun q _ h => hFc q h) hFc (fun r1 u9 t H1 locs ht hvm hr9 hB hz1 hk1 hS => ?_)
  obtain ⟨hP1, hK1, hD1⟩ := hB
  rw [ht] at hP1
  obtain ⟨hP, hD⟩ := xjoin (W := [(a0, .inr (0, [v20, v21, v22, .ref a2, v23, .ref a1, v24, v25])), (a1, .inr (2, [v26, v27, v28])), (a2, .inl (cT 3, 8, .inr (.inr (.inr (.inr f29))))), (a3, .inr (2, [.ref a4, .int 1, v33])), (a4, .inl (cT 2, 4096, .inr (.inl f34)))]) hP hD [] [0, 1, 2, 3, 4] 5 rfl rfl (by decide) (by decide) hk1 hFc hP1 hD1
  generalize H1 = H at hP hS ⊢
  rw [hr9]
  refine W.eq (g2 := F0 m 4 ls [.int 1]) rfl ?_
  refine lv_if_eq (tgt := 34) hx hb dB_binary_4 (by decide) (fun h => ((by revert h; decide : False)).elim) (fun _ => ?_)
  refine lv_iload_n hx hb dB_binary_7 rfl (lv_at hl 2 rfl) ?_
  refine lv_iconst (v := 4) hx hb dB_binary_8 (by decide) ?_
  obtain ⟨hPc, hDc, hFc⟩ := xcut (wc := []) hP hD hS hA [] rfl rfl (by decide)
  refine va_calli (va_runS (As := [.int 2, .int 4]) (rest := []) ⟨hx, hb, hml, hown, htx⟩ (cB_isWithin_26 l hl9 D cT aK aV H.size) ⟨callB_of 2 htx (xw_goodC kw_1_218) rfl rfl rfl (htx _ kw_1_1) (htx _ kw_1_216) ⟨by decide, by decide, by decide +kernel⟩ ⟨Nat.le_of_ble_eq_true rfl, Nat.le_of_ble_eq_true rfl⟩, htx _ kw_1_217⟩ ⟨xPre_blind, (fun U hU hW => ⟨rfl, xPre_of hZ hS hFc hPc hDc hK U hU hW⟩)⟩ rfl rfl hl.1 rfl (lv_room (Nat.le_of_ble_eq_true rfl)) dB_binary_9 ⟨Nat.le_of_ble_eq_true rfl, Nat.le_of_ble_eq_true rfl⟩) hS (fun q _ h => hFc q h) hFc (fun r2 u9 t H1 locs ht hvm hr9 hB hz1 hk1 hS => ?_)
  obtain ⟨hP1, hK1, hD1⟩ := hB
  rw [ht] at hP1
  obtain ⟨hP, hD⟩ := xjoin (W := [(a0, .inr (0, [v20, v21, v22, .ref a2, v23, .ref a1, v24, v25])), (a1, .inr (2, [v26, v27, v28])), (a2, .inl (cT 3, 8, .inr (.inr (.inr (.inr f29))))), (a3, .inr (2, [.ref a4, .int 1, v33])), (a4, .inl (cT 2, 4096, .inr (.inl f34)))]) hP hD [] [0, 1, 2, 3, 4] 5 rfl rfl (by decide) (by decide) hk1 hFc hP1 hD1
  generalize H1 = H at hP hS ⊢
  rw [hr9]
  refine W.eq (g2 := F0 m 12 ls [.int 1]) rfl ?_
  refine lv_if_eq (tgt := 34) hx hb dB_binary_12 (by decide) (fun h => ((by revert h; decide : False)).elim) (fun _ => ?_)
  refine lv_iload_n hx hb dB_binary_15 rfl (lv_at hl 3 rfl) ?_
  obtain ⟨hPc, hDc, hFc⟩ := xcut (wc := []) hP hD hS hA [] rfl rfl (by decide)
  refine va_calli (va_runS (As := [.int x10]) (rest := []) ⟨hx, hb, hml, hown, htx⟩ (cB_isRegister_0 l hl9 D cT aK aV H.size x10 h11 h12 h13 h14) ⟨callB_of 1 htx (xw_goodC kw_2_18) rfl rfl rfl (htx _ kw_1_1) (htx _ kw_2_16) ⟨by decide, by decide, by decide +kernel⟩ ⟨Nat.le_of_ble_eq_true rfl, Nat.le_of_ble_eq_true rfl⟩, htx _ kw_2_17⟩ ⟨xPre_blind, (fun U hU hW => ⟨rfl, xPre_of hZ hS hFc hPc hDc hK U hU hW⟩)⟩ rfl rfl hl.1 rfl (lv_room (Nat.le_of_ble_eq_true rfl)) dB_binary_16 ⟨Nat.le_of_ble_eq_true rfl, Nat.le_of_ble_eq_true rfl⟩) hS (fun q _ h => hFc q h) hFc (fun r3 u9 t H1 locs ht hvm hr9 hB hz1 hk1 hS => ?_)
  obtain ⟨hP1, hK1, hD1⟩ := hB
  rw [ht] at hP1
  obtain ⟨hP, hD⟩ := xjoin (W := [(a0, .inr (0, [v20, v21, v22, .ref a2, v23, .ref a1, v24, v25])), (a1, .inr (2, [v26, v27, v28])), (a2, .inl (cT 3, 8, .inr (.inr (.inr (.inr f29))))), (a3, .inr (2, [.ref a4, .int 1, v33])), (a4, .inl (cT 2, 4096, .inr (.inl f34)))]) hP hD [] [0, 1, 2, 3, 4] 5 rfl rfl (by decide) (by decide) hk1 hFc hP1 hD1
  generalize H1 = H at hP hS ⊢
  rw [hr9]
  refine W.eq (g2 := F0 m 19 ls [.int 1]) rfl ?_
  refine lv_if_eq (tgt := 34) hx hb dB_binary_19 (by decide) (fun h => ((by revert h; decide : False)).elim) (fun _ => ?_)
  refine lv_iload hx hb dB_binary_22 (lv_at hl 4 rfl) ?_
  obtain ⟨hPc, hDc, hFc⟩ := xcut (wc := []) hP hD hS hA [] rfl rfl (by decide)
  refine va_calli (va_runS (As := [.int x15]) (rest := []) ⟨hx, hb, hml, hown, htx⟩ (cB_isRegister_0 l hl9 D cT aK aV H.size x15 h16 h17 h18 h19) ⟨callB_of 1 htx (xw_goodC kw_2_18) rfl rfl rfl (htx _ kw_1_1) (htx _ kw_2_16) ⟨by decide, by decide, by decide +kernel⟩ ⟨Nat.le_of_ble_eq_true rfl, Nat.le_of_ble_eq_true rfl⟩, htx _ kw_2_17⟩ ⟨xPre_blind, (fun U hU hW => ⟨rfl, xPre_of hZ hS hFc hPc hDc hK U hU hW⟩)⟩ rfl rfl hl.1 rfl (lv_room (Nat.le_of_ble_eq_true rfl)) dB_binary_24 ⟨Nat.le_of_ble_eq_true rfl, Nat.le_of_ble_eq_true rfl⟩) hS (fun q _ h => hFc q h) hFc (fun r4 u9 t H1 locs ht hvm hr9 hB hz1 hk1 hS => ?_)
  obtain ⟨hP1, hK1, hD1⟩ := hB
  rw [ht] at hP1
  obtain ⟨hP, hD⟩ := xjoin (W := [(a0, .inr (0, [v20, v21, v22, .ref a2, v23, .ref a1, v24, v25])), (a1, .inr (2, [v26, v27, v28])), (a2, .inl (cT 3, 8, .inr (.inr (.inr (.inr f29))))), (a3, .inr (2, [.ref a4, .int 1, v33])), (a4, .inl (cT 2, 4096, .inr (.inl f34)))]) hP hD [] [0, 1, 2, 3, 4] 5 rfl rfl (by decide) (by decide) hk1 hFc hP1 hD1
  generalize H1 = H at hP hS ⊢
  rw [hr9]
  refine W.eq (g2 := F0 m 27 ls [.int 1]) rfl ?_
  refine lv_if_eq (tgt := 34) hx hb dB_binary_27 (by decide) (fun h => ((by revert h; decide : False)).elim) (fun _ => ?_)
  refine lv_iconst (v := 1) hx hb dB_binary_30 (by decide) ?_
  refine lv_goto (tgt := 35) hx hb dB_binary_31 (by decide) ?_
  obtain ⟨hPc, hDc, hFc⟩ := xcut (wc := []) hP hD hS hA [] rfl rfl (by decide)
  refine va_callv (va_runS (As := [.int 1]) (rest := []) ⟨hx, hb, hml, hown, htx⟩ (cB_demand_0 l hl9 D cT aK aV H.size) ⟨callB_of 1 htx (xw_goodC kw_1_221) rfl rfl rfl (htx _ kw_1_1) (htx _ kw_1_219) ⟨by decide, by decide, by decide +kernel⟩ ⟨Nat.le_of_ble_eq_true rfl, Nat.le_of_ble_eq_true rfl⟩, htx _ kw_1_220⟩ ⟨xPre_blind, (fun U hU hW => ⟨rfl, xPre_of hZ hS hFc hPc hDc hK U hU hW⟩)⟩ rfl rfl hl.1 rfl (lv_room (Nat.le_of_ble_eq_true rfl)) dB_binary_35 ⟨Nat.le_of_ble_eq_true rfl, Nat.le_of_ble_eq_true rfl⟩) hS (fun q _ h => hFc q h) hFc (fun u9 t H1 locs ht hvm hr9 hB hz1 hk1 hS => ?_)
  obtain ⟨hP1, hK1, hD1⟩ := hB
  rw [ht] at hP1
  obtain ⟨hP, hD⟩ := xjoin (W := [(a0, .inr (0, [v20, v21, v22, .ref a2, v23, .ref a1, v24, v25])), (a1, .inr (2, [v26, v27, v28])), (a2, .inl (cT 3, 8, .inr (.inr (.inr (.inr f29))))), (a3, .inr (2, [.ref a4, .int 1, v33])), (a4, .inl (cT 2, 4096, .inr (.inl f34)))]) hP hD [] [0, 1, 2, 3, 4] 5 rfl rfl (by decide) (by decide) hk1 hFc hP1 hD1
  generalize H1 = H at hP hS ⊢
  refine lv_aload_n hx hb dB_binary_38 rfl (lv_at hl 0 rfl) ?_
  refine va_get (D := D) (ci := 0) (v := .ref a1) (C := "ValueBench") (T := TB) (N := 8) hx hb htx inB hown hK hP 0 rfl rfl 5 (by decide) (htx _ kw_1_100) (fun _ h9 => h9) rfl dB_binary_39 ?_
  obtain ⟨hPc, hDc, hFc⟩ := xcut (wc := [(a1, .inr (2, [v26, v27, v28]))]) hP hD hS hA [1] rfl rfl (by decide)
  refine va_callv (va_runV (C := "ValueBench$Row") (As := []) (rest := []) ⟨hx, hb, hml, hown, htx⟩ (cR_clear_0 l hl9 D cT aK aV H.size a1 v26 v27 v28) ⟨callB_of 0 htx (xw_goodC kw_2_22) rfl rfl rfl (htx _ kw_1_4) (htx _ kw_2_19) ⟨by decide, by decide, by decide +kernel⟩ ⟨Nat.le_of_ble_eq_true rfl, Nat.le_of_ble_eq_true rfl⟩, (htx _ kw_2_20), (htx _ kw_2_21)⟩ ⟨xPre_blind, va_recv hK hP (ci := 2) rfl (q0 := 1) rfl, (fun U hU hW => ⟨rfl, xPre_of hZ hS hFc hPc hDc hK U hU hW⟩)⟩ rfl rfl hl.1 rfl (lv_room (Nat.le_of_ble_eq_true rfl)) dB_binary_42 ⟨Nat.le_of_ble_eq_true rfl, Nat.le_of_ble_eq_true rfl⟩) hS (fun q _ h => hFc q h) hFc (fun u9 t H1 locs ht hvm hr9 hB hz1 hk1 hS => ?_)
  obtain ⟨hP1, hK1, hD1⟩ := hB
  rw [ht] at hP1
  obtain ⟨hP, hD⟩ := xjoin (W := [(a0, .inr (0, [v20, v21, v22, .ref a2, v23, .ref a1, v24, v25])), (a2, .inl (cT 3, 8, .inr (.inr (.inr (.inr f29))))), (a3, .inr (2, [.ref a4, .int 1, v33])), (a4, .inl (cT 2, 4096, .inr (.inl f34))), (a1, .inr (2, [v26, .int 0, .int 0]))]) hP hD [1] [0, 2, 3, 4] 4 rfl rfl (by decide) (by decide) hk1 hFc hP1 hD1
  generalize H1 = H at hP hS ⊢
  refine lv_aload_n hx hb dB_binary_45 rfl (lv_at hl 0 rfl) ?_
  refine lv_iload_n hx hb dB_binary_46 rfl (lv_at hl 2 rfl) ?_
  refine lv_aload_n hx hb dB_binary_47 rfl (lv_at hl 0 rfl) ?_
  refine va_get (D := D) (ci := 0) (v := .ref a2) (C := "ValueBench") (T := TB) (N := 8) hx hb htx inB hown hK hP 0 rfl rfl 3 (by decide) (htx _ kw_1_98) (fun _ h9 => h9) rfl dB_binary_48 ?_
  refine lv_iload_n hx hb dB_binary_51 rfl (lv_at hl 3 rfl) ?_
  refine va_aldq hx hb hK hP 1 3 rfl rfl h14 dB_binary_52 ?_
  refine W.eq (g2 := F0 m 53 ls [va_rf (f29 x10.toNatClampNeg), .int 2, .ref a0]) rfl ?_
  rw [h30]
  refine W.eq (g2 := F0 m 53 ls [.ref a3, .int 2, .ref a0]) rfl ?_
  refine lv_aload_n hx hb dB_binary_53 rfl (lv_at hl 0 rfl) ?_
  refine va_get (D := D) (ci := 0) (v := .ref a2) (C := "ValueBench") (T := TB) (N := 8) hx hb htx inB hown hK hP 0 rfl rfl 3 (by decide) (htx _ kw_1_98) (fun _ h9 => h9) rfl dB_binary_54 ?_
  refine lv_iload hx hb dB_binary_57 (lv_at hl 4 rfl) ?_
  refine va_aldq hx hb hK hP 1 3 rfl rfl h19 dB_binary_59 ?_
  refine W.eq (g2 := F0 m 60 ls [va_rf (f29 x15.toNatClampNeg), .ref a3, .int 2, .ref a0]) rfl ?_
  rw [h32]
  refine W.eq (g2 := F0 m 60 ls [.ref b31, .ref a3, .int 2, .ref a0]) rfl ?_
  refine lv_aload_n hx hb dB_binary_60 rfl (lv_at hl 0 rfl) ?_
  refine va_get (D := D) (ci := 0) (v := .ref a1) (C := "ValueBench") (T := TB) (N := 8) hx hb htx inB hown hK hP 0 rfl rfl 5 (by decide) (htx _ kw_1_100) (fun _ h9 => h9) rfl dB_binary_61 ?_
  obtain ⟨hPc, hDc, hFc⟩ := xcut (wc := [(a3, .inr (2, [.ref a4, .int 1, v33])), (a4, .inl (cT 2, 4096, .inr (.inl f34)))]) hP hD hS hA [2, 3] rfl rfl (by decide)
  refine va_calli (va_runS (As := [.int 2, .ref a3, .ref b31, .ref a1]) (rest := [.ref a0]) ⟨hx, hb, hml, hown, htx⟩ (cA_apply_4 l hl9 D cT aK aV H.size a3 a4 b31 a1 v33 f34 (by first | rfl | exact h30 | exact h32 | exact h35)) ⟨callB_of 4 htx (xw_goodC kw_3_105) rfl rfl rfl (htx _ kw_1_21) (htx _ kw_3_103) ⟨by decide, by decide, by decide +kernel⟩ ⟨Nat.le_of_ble_eq_true rfl, Nat.le_of_ble_eq_true rfl⟩, htx _ kw_3_104⟩ ⟨xPre_blind, (fun U hU hW => ⟨rfl, xPre_of hZ hS hFc hPc hDc hK U hU hW⟩)⟩ rfl rfl hl.1 rfl (lv_room (Nat.le_of_ble_eq_true rfl)) dB_binary_64 ⟨Nat.le_of_ble_eq_true rfl, Nat.le_of_ble_eq_true rfl⟩) hS (fun q _ h => hFc q h) hFc (fun r5 u9 t H1 locs ht hvm hr9 hB hz1 hk1 hS => ?_)
  obtain ⟨hP1, hK1, hD1⟩ := hB
  rw [ht] at hP1
  obtain ⟨hP, hD⟩ := xjoin (W := [(a0, .inr (0, [v20, v21, v22, .ref a2, v23, .ref a1, v24, v25])), (a2, .inl (cT 3, 8, .inr (.inr (.inr (.inr f29))))), (a1, .inr (2, [v26, .int 0, .int 0])), (a3, .inr (2, [.ref a4, .int 1, v33])), (a4, .inl (cT 2, 4096, .inr (.inl f34)))]) hP hD [2, 3] [0, 1, 4] 3 rfl rfl (by decide) (by decide) hk1 hFc hP1 hD1
  generalize H1 = H at hP hS ⊢
  rw [hr9]
  refine W.eq (g2 := F0 m 67 ls [.int 1, .ref a0]) rfl ?_
  obtain ⟨hPc, hDc, hFc⟩ := xcut (wc := [(a0, .inr (0, [v20, v21, v22, .ref a2, v23, .ref a1, v24, v25]))]) hP hD hS hA [0] rfl rfl (by decide)
  refine xx_thr (vx_runV (C := "ValueBench") (As := [.int 1]) (rest := []) ⟨hx, hb, hml, hown, htx⟩ (cB_demandDone_1 l hl9 D cT aK aV H.size a0 v20 v21 v22 (.ref a2) v23 (.ref a1) v24 v25) ⟨callB_of 1 htx (xw_goodC kw_3_222) rfl rfl rfl (htx _ kw_1_1) (htx _ kw_3_219) ⟨by decide, by decide, by decide +kernel⟩ ⟨Nat.le_of_ble_eq_true rfl, Nat.le_of_ble_eq_true rfl⟩, (htx _ kw_3_221), (htx _ kp_B_demandDone)⟩ ⟨xPre_blind, va_recv hK hP (ci := 0) rfl (q0 := 0) rfl, (fun U hU hW => ⟨rfl, xPre_of hZ hS hFc hPc hDc hK U hU hW⟩)⟩ rfl rfl hl.1 rfl (lv_room (Nat.le_of_ble_eq_true rfl)) dB_binary_67 ⟨Nat.le_of_ble_eq_true rfl, Nat.le_of_ble_eq_true rfl⟩) hS hFc (fun q _ h => hFc q h) (fun E ce q9 u9 t H1 locs ht hvm _ hB hz1 hk1 hS hce hcv hcl => ?_)
  obtain ⟨rfl, hP1, hK1, hD1⟩ := hB
  rw [ht] at hP1
  obtain ⟨hP, hD⟩ := xjoin (W := [(a2, .inl (cT 3, 8, .inr (.inr (.inr (.inr f29))))), (a1, .inr (2, [v26, .int 0, .int 0])), (a3, .inr (2, [.ref a4, .int 1, v33])), (a4, .inl (cT 2, 4096, .inr (.inl f34))), (a0, .inr (0, [v20, v21, v22, .ref a2, v23, .ref a1, v24, .int 1]))]) hP hD [0] [1, 2, 3, 4] 4 rfl rfl (by decide) (by decide) hk1 hFc hP1 hD1
  generalize H1 = H at hP hS hce ⊢
  obtain ⟨hP9, hD9⟩ := xsub (wc := [(a0, .inr (0, [v20, v21, v22, .ref a2, v23, .ref a1, v24, .int 1])), (a1, .inr (2, [v26, .int 0, .int 0])), (a2, .inl (cT 3, 8, .inr (.inr (.inr (.inr f29))))), (a3, .inr (2, [.ref a4, .int 1, v33])), (a4, .inl (cT 2, 4096, .inr (.inl f34)))]) hP hD [4, 1, 0, 2, 3] rfl rfl (by decide)
  exact vx_out (E := "java/lang/ArithmeticException") (fun x h => (hne x h).elim) hlocks hce hcv hcl (fun t ht ha => ⟨(), trivial, ⟨rfl, by rw [ht]; exact hP9, va_K.moved ha hK, hD9⟩, hS.F ht⟩) hS.2.2 (Nat.le_of_ble_eq_true rfl) (Nat.le_of_ble_eq_true rfl)
set_option maxHeartbeats 400000000 in
set_option maxRecDepth 100000 in
theorem cL_binary_4 (l : Launch) (hl9 : l.stackTraces = false) (D : va_G) (cT : Nat → ClassId) (aK aV : Nat → Nat) (sz : Nat) (a0 : Nat) (a1 : Nat) (a2 : Nat) (a3 : Nat) (a4 : Nat) (x5 : Int32) (x10 : Int32) (x15 : Int32) (v20 : Value) (v21 : Value) (v22 : Value) (v23 : Value) (v24 : Value) (v25 : Value) (v26 : Value) (v27 : Value) (v28 : Value) (f29 : Nat → Option Nat) (b31 : Nat) (v33 : Value) (f34 : Nat → Int64) (h6 : ¬ x5 < 0) (h7 : ¬ 7 < x5) (h8 : x5 ≤ 7) (h9 : vp_in x5 8) (h11 : ¬ x10 < 0) (h12 : ¬ 7 < x10) (h13 : x10 ≤ 7) (h14 : vp_in x10 8) (h16 : ¬ x15 < 0) (h17 : ¬ 7 < x15) (h18 : x15 ≤ 7) (h19 : vp_in x15 8) (h30 : f29 x10.toNatClampNeg = some a3) (h32 : f29 x15.toNatClampNeg = some b31) (h35 : f34 0 = 0) : xMet l yL_binary wyL_binary 8 1 6 145 D cT aK aV sz [.ref a0, .int x5, .int 2, .int x10, .int x15] [(a0, .inr (0, [v20, v21, v22, .ref a2, v23, .ref a1, v24, v25])), (a1, .inr (2, [v26, v27, v28])), (a2, .inl (cT 3, 8, .inr (.inr (.inr (.inr f29))))), (a3, .inr (2, [.ref a4, .int 1, v33])), (a4, .inl (cT 2, 4096, .inr (.inl f34)))] (fun A => va_Qi (fun (r : Int32) (_ : Unit) => r = 2) (fun _ t => xB D xcl cT A [(a0, .inr (0, [v20, v21, v22, .ref a2, v23, .ref a1, v24, .int 1])), (a1, .inr (2, [v26, .int 0, .int 0])), (a2, .inl (cT 3, 8, .inr (.inr (.inr (.inr f29))))), (a3, .inr (2, [.ref a4, .int 1, v33])), (a4, .inl (cT 2, 4096, .inr (.inl f34)))] t) A) := by
  refine va_MetW (cc := method_7_code) (maxL := 6) (ret := (some .int)) (hh := [(0, 9, 12, 19), (0, 9, 16, 33), (0, 9, 20, 13)]) (by decide) rfl ?_
  intro p e s m args below meth c s₁ B hml hv
  obtain ⟨rfl, hsz, hZ, hP, hK, hD0⟩ := hv
  have hx := B.exec
  have hb := B.bytes
  have hr := B.returns
  have hts := atoms_spec (ws := wyL_binary) B.pre
  have htx := fun w h => hts w (List.mem_cons_of_mem _ h)
  have hown : s.vm.findClass "ValueBenchLaw" = some m.cls := findClass_of_methodNamed B.named
  have hlocks := B.notSynchronized
  subst hsz
  have hD := hD0.self (sz := s.heap.size)
  generalize hAe : va_A [(a0, .inr (0, [v20, v21, v22, .ref a2, v23, .ref a1, v24, v25])), (a1, .inr (2, [v26, v27, v28])), (a2, .inl (cT 3, 8, .inr (.inr (.inr (.inr f29))))), (a3, .inr (2, [.ref a4, .int 1, v33])), (a4, .inl (cT 2, 4096, .inr (.inl f34)))] s.heap.size = A at hD hZ ⊢
  have hA : ∀ q : Nat, s.heap.size ≤ q → A q := fun q h => by rw [← hAe]; exact Or.inr h
  have hS : va_S A s.heap s.heap [] := va_S.rf
  have hP : va_P D xcl [(a0, .inr (0, [v20, v21, v22, .ref a2, v23, .ref a1, v24, v25])), (a1, .inr (2, [v26, v27, v28])), (a2, .inl (cT 3, 8, .inr (.inr (.inr (.inr f29))))), (a3, .inr (2, [.ref a4, .int 1, v33])), (a4, .inl (cT 2, 4096, .inr (.inl f34)))] s.heap := hP
  have hl := lv_entry ([.ref a0, .int x5, .int 2, .int x10, .int x15]) (n := 6) (Nat.le_of_ble_eq_true rfl)
  rw [lg_entry_eq]
  generalize (lg_sl ([.ref a0, .int x5, .int 2, .int x10, .int x15]) ++ List.replicate (6 - (lg_sl ([.ref a0, .int x5, .int 2, .int x10, .int x15])).length) Slot.unset).toArray = ls at hl ⊢
  have hl : lv_has ls 6 [(0, .ref a0), (1, .int x5), (2, .int 2), (3, .int x10), (4, .int x15)] := hl
  have htab := vx_table (x := yL_binary) B (hts _ List.mem_cons_self)
  refine lv_aload_n hx hb dL_binary_0 rfl (lv_at hl 0 rfl) ?_
  refine lv_iload_n hx hb dL_binary_1 rfl (lv_at hl 1 rfl) ?_
  refine lv_iload_n hx hb dL_binary_2 rfl (lv_at hl 2 rfl) ?_
  refine lv_iload_n hx hb dL_binary_3 rfl (lv_at hl 3 rfl) ?_
  refine lv_iload hx hb dL_binary_4 (lv_at hl 4 rfl) ?_
  obtain ⟨hPc, hDc, hFc⟩ := xcut (wc := [(a0, .inr (0, [v20, v21, v22, .ref a2, v23, .ref a1, v24, v25])), (a1, .inr (2, [v26, v27, v28])), (a2, .inl (cT 3, 8, .inr (.inr (.inr (.inr f29))))), (a3, .inr (2, [.ref a4, .int 1, v33])), (a4, .inl (cT 2, 4096, .inr (.inl f34)))]) hP hD hS hA [0, 1, 2, 3, 4] rfl rfl (by decide)
  refine xx_thr (vx_runV (C := "ValueBench") (As := [.int x5, .int 2, .int x10, .int x15]) (rest := []) ⟨hx, hb, hml, hown, htx⟩ (cB_binary_4 l hl9 D cT aK aV s.heap.size a0 a1 a2 a3 a4 x5 x10 x15 v20 v21 v22 v23 v24 v25 v26 v27 v28 f29 b31 v33 f34 h6 h7 h8 h9 h11 h12 h13 h14 h16 h17 h18 h19 (by first | rfl | exact h30 | exact h32 | exact h35) (by first | rfl | exact h30 | exact h32 | exact h35) (by first | rfl | exact h30 | exact h32 | exact h35)) ⟨callB_of 4 htx (xw_goodC kw_3_102) rfl rfl rfl (htx _ kw_1_1) (htx _ kw_3_99) ⟨by decide, by decide, by decide +kernel⟩ ⟨Nat.le_of_ble_eq_true rfl, Nat.le_of_ble_eq_true rfl⟩, (htx _ kw_3_100), (htx _ kw_3_101)⟩ ⟨xPre_blind, va_recv hK hP (ci := 0) rfl (q0 := 0) rfl, (fun U hU hW => ⟨rfl, xPre_of hZ hS hFc hPc hDc hK U hU hW⟩)⟩ rfl rfl hl.1 rfl (lv_room (Nat.le_of_ble_eq_true rfl)) dL_binary_6 ⟨Nat.le_of_ble_eq_true rfl, Nat.le_of_ble_eq_true rfl⟩) hS hFc (fun q _ h => hFc q h) (fun E ce q9 u9 t H1 locs ht hvm _ hB hz1 hk1 hS hce hcv hcl => ?_)
  obtain ⟨rfl, hP1, hK1, hD1⟩ := hB
  rw [ht] at hP1
  obtain ⟨hP, hD⟩ := xjoin (W := [(a0, .inr (0, [v20, v21, v22, .ref a2, v23, .ref a1, v24, .int 1])), (a1, .inr (2, [v26, .int 0, .int 0])), (a2, .inl (cT 3, 8, .inr (.inr (.inr (.inr f29))))), (a3, .inr (2, [.ref a4, .int 1, v33])), (a4, .inl (cT 2, 4096, .inr (.inl f34)))]) hP hD [0, 1, 2, 3, 4] [] 0 rfl rfl (by decide) (by decide) hk1 hFc hP1 hD1
  generalize H1 = H at hP hS hce ⊢
  refine vx_catch (own := "ValueBenchLaw") (name := "java/lang/ArithmeticException") (E := "java/lang/ArithmeticException") hown [⟨0, 9, 12, 19⟩] ⟨0, 9, 16, 33⟩ [⟨0, 9, 20, 13⟩] (by rw [htab]; rfl) (by intro z hz; rcases List.mem_cons.mp hz with rfl | hz; (exact Or.inr ⟨by decide, "java/lang/IllegalArgumentException", htx _ kw_1_211, hZ.2.2.2.2.2.2.2.1 _ (List.mem_of_getElem? (i := 10) rfl)⟩); cases hz) (by decide) (by decide) (htx _ kw_3_98) ((hZ.2.2.2.2.2.1 _ (List.mem_of_getElem? (i := 3) rfl)).use rfl) hce hcv hcl ?_
  refine lv_astore (lv' := [(5, .ref q9), (0, .ref a0), (1, .int x5), (2, .int 2), (3, .int x10), (4, .int x15)]) hx hb dL_binary_16 hl (by decide) rfl (fun ls hl => ?_)
  refine lv_iconst (v := 2) hx hb dL_binary_18 (by decide) ?_
  obtain ⟨hP9, hD9⟩ := xsub (wc := [(a0, .inr (0, [v20, v21, v22, .ref a2, v23, .ref a1, v24, .int 1])), (a1, .inr (2, [v26, .int 0, .int 0])), (a2, .inl (cT 3, 8, .inr (.inr (.inr (.inr f29))))), (a3, .inr (2, [.ref a4, .int 1, v33])), (a4, .inl (cT 2, 4096, .inr (.inl f34)))]) hP hD [0, 1, 2, 3, 4] rfl rfl (by decide)
  refine W.widen (k := 1) (n := 6) (Nat.le_of_ble_eq_true rfl) (Nat.le_of_ble_eq_true rfl) ?_
  exact W.iret (v := 2) hx hb hr (fun t ht hW => ⟨⟨2, (), rfl, rfl, by rw [ht]; exact hP9, va_K.moved hW.alike hK, hD9⟩, hS.F ht⟩) hS.2.2 dL_binary_19
set_option maxHeartbeats 400000000 in
set_option maxRecDepth 100000 in
theorem cA_times_1 (l : Launch) (hl9 : l.stackTraces = false) (D : va_G) (cT : Nat → ClassId) (aK aV : Nat → Nat) (sz : Nat) (a0 : Nat) (a1 : Nat) (b2 : Nat) (v3 : Value) (f4 : Nat → Int64) (h5 : f4 0 = 0) : xMet l yA_times wyA_times 2 0 0 43 D cT aK aV sz [.ref a0, .ref a0, .ref b2] [(a0, .inr (2, [.ref a1, .int 1, v3])), (a1, .inl (cT 2, 4096, .inr (.inl f4)))] (fun A => va_Qi (fun (r : Int32) (_ : Unit) => r = 1) (fun _ t => xB D xcl cT A [(a0, .inr (2, [.ref a1, .int 1, v3])), (a1, .inl (cT 2, 4096, .inr (.inl f4)))] t) A) := by
  refine Met.ofW (cc := prog_3_method_12_code) (maxL := 3) (ret := (some .int)) (by decide) rfl ?_
  intro p e s m args below meth c s₁ B hml hv
  obtain ⟨rfl, hsz, hZ, hP, hK, hD0⟩ := hv
  have hx := B.exec
  have hb := B.bytes
  have hr := B.returns
  have hts := atoms_spec (ws := wyA_times) B.pre
  have htx := fun w h => hts w (List.mem_cons_of_mem _ h)
  have hown : s.vm.findClass "ValueBench$Operators" = some m.cls := findClass_of_methodNamed B.named
  have hlocks := B.notSynchronized
  subst hsz
  have hD := hD0.self (sz := s.heap.size)
  generalize hAe : va_A [(a0, .inr (2, [.ref a1, .int 1, v3])), (a1, .inl (cT 2, 4096, .inr (.inl f4)))] s.heap.size = A at hD hZ ⊢
  have hA : ∀ q : Nat, s.heap.size ≤ q → A q := fun q h => by rw [← hAe]; exact Or.inr h
  have hS : va_S A s.heap s.heap [] := va_S.rf
  have hP : va_P D xcl [(a0, .inr (2, [.ref a1, .int 1, v3])), (a1, .inl (cT 2, 4096, .inr (.inl f4)))] s.heap := hP
  have hl := lv_entry ([.ref a0, .ref a0, .ref b2]) (n := 3) (Nat.le_of_ble_eq_true rfl)
  rw [lg_entry_eq]
  generalize (lg_sl ([.ref a0, .ref a0, .ref b2]) ++ List.replicate (3 - (lg_sl ([.ref a0, .ref a0, .ref b2])).length) Slot.unset).toArray = ls at hl ⊢
  have hl : lv_has ls 3 [(0, .ref a0), (1, .ref a0), (2, .ref b2)] := hl
  refine lv_aload_n hx hb dA_times_0 rfl (lv_at hl 0 rfl) ?_
  refine lv_iconst (v := 0) hx hb dA_times_1 (by decide) ?_
  refine lv_bipush (v := 6) hx hb dA_times_2 (by decide) ?_
  obtain ⟨hPc, hDc, hFc⟩ := xcut (wc := [(a0, .inr (2, [.ref a1, .int 1, v3])), (a1, .inl (cT 2, 4096, .inr (.inl f4)))]) hP hD hS hA [0, 1] rfl rfl (by decide)
  refine va_calli (va_runV (C := "ValueBench$Row") (As := [.int 0, .int 6]) (rest := []) ⟨hx, hb, hml, hown, htx⟩ (cR_is_1 l hl9 D cT aK aV s.heap.size a0 a1 v3 f4 (by first | rfl | exact h5)) ⟨callB_of 2 htx (xw_goodC kw_3_75) rfl rfl rfl (htx _ kw_1_4) (htx _ kw_3_106) ⟨by decide, by decide, by decide +kernel⟩ ⟨Nat.le_of_ble_eq_true rfl, Nat.le_of_ble_eq_true rfl⟩, (htx _ kw_3_73), (htx _ kw_3_74)⟩ ⟨xPre_blind, va_recv hK hP (ci := 2) rfl (q0 := 0) rfl, (fun U hU hW => ⟨rfl, xPre_of hZ hS hFc hPc hDc hK U hU hW⟩)⟩ rfl rfl hl.1 rfl (lv_room (Nat.le_of_ble_eq_true rfl)) dA_times_4 ⟨Nat.le_of_ble_eq_true rfl, Nat.le_of_ble_eq_true rfl⟩) hS (fun q _ h => hFc q h) hFc (fun r1 u9 t H1 locs ht hvm hr9 hB hz1 hk1 hS => ?_)
  obtain ⟨hP1, hK1, hD1⟩ := hB
  rw [ht] at hP1
  obtain ⟨hP, hD⟩ := xjoin (W := [(a0, .inr (2, [.ref a1, .int 1, v3])), (a1, .inl (cT 2, 4096, .inr (.inl f4)))]) hP hD [0, 1] [] 0 rfl rfl (by decide) (by decide) hk1 hFc hP1 hD1
  generalize H1 = H at hP hS ⊢
  rw [hr9]
  refine W.eq (g2 := F0 m 7 ls [.int 0]) rfl ?_
  refine lv_if_eq (tgt := 32) hx hb dA_times_7 (by decide) (fun _ => ?_) (fun h => ((by revert h; decide : False)).elim)
  refine lv_aload_n hx hb dA_times_32 rfl (lv_at hl 0 rfl) ?_
  refine lv_iconst (v := 0) hx hb dA_times_33 (by decide) ?_
  refine lv_iconst (v := 4) hx hb dA_times_34 (by decide) ?_
  obtain ⟨hPc, hDc, hFc⟩ := xcut (wc := [(a0, .inr (2, [.ref a1, .int 1, v3])), (a1, .inl (cT 2, 4096, .inr (.inl f4)))]) hP hD hS hA [0, 1] rfl rfl (by decide)
  refine va_calli (va_runV (C := "ValueBench$Row") (As := [.int 0, .int 4]) (rest := []) ⟨hx, hb, hml, hown, htx⟩ (cR_is_3 l hl9 D cT aK aV H.size a0 a1 v3 f4 (by first | rfl | exact h5)) ⟨callB_of 2 htx (xw_goodC kw_3_75) rfl rfl rfl (htx _ kw_1_4) (htx _ kw_3_106) ⟨by decide, by decide, by decide +kernel⟩ ⟨Nat.le_of_ble_eq_true rfl, Nat.le_of_ble_eq_true rfl⟩, (htx _ kw_3_73), (htx _ kw_3_74)⟩ ⟨xPre_blind, va_recv hK hP (ci := 2) rfl (q0 := 0) rfl, (fun U hU hW => ⟨rfl, xPre_of hZ hS hFc hPc hDc hK U hU hW⟩)⟩ rfl rfl hl.1 rfl (lv_room (Nat.le_of_ble_eq_true rfl)) dA_times_35 ⟨Nat.le_of_ble_eq_true rfl, Nat.le_of_ble_eq_true rfl⟩) hS (fun q _ h => hFc q h) hFc (fun r2 u9 t H1 locs ht hvm hr9 hB hz1 hk1 hS => ?_)
  obtain ⟨hP1, hK1, hD1⟩ := hB
  rw [ht] at hP1
  obtain ⟨hP, hD⟩ := xjoin (W := [(a0, .inr (2, [.ref a1, .int 1, v3])), (a1, .inl (cT 2, 4096, .inr (.inl f4)))]) hP hD [0, 1] [] 0 rfl rfl (by decide) (by decide) hk1 hFc hP1 hD1
  generalize H1 = H at hP hS ⊢
  rw [hr9]
  refine W.eq (g2 := F0 m 38 ls [.int 0]) rfl ?_
  refine lv_if_eq (tgt := 62) hx hb dA_times_38 (by decide) (fun _ => ?_) (fun h => ((by revert h; decide : False)).elim)
  refine lv_aload_n hx hb dA_times_62 rfl (lv_at hl 0 rfl) ?_
  refine lv_iconst (v := 0) hx hb dA_times_63 (by decide) ?_
  refine lv_iconst (v := 3) hx hb dA_times_64 (by decide) ?_
  obtain ⟨hPc, hDc, hFc⟩ := xcut (wc := [(a0, .inr (2, [.ref a1, .int 1, v3])), (a1, .inl (cT 2, 4096, .inr (.inl f4)))]) hP hD hS hA [0, 1] rfl rfl (by decide)
  refine va_calli (va_runV (C := "ValueBench$Row") (As := [.int 0, .int 3]) (rest := []) ⟨hx, hb, hml, hown, htx⟩ (cR_is_4 l hl9 D cT aK aV H.size a0 a1 v3 f4 (by first | rfl | exact h5)) ⟨callB_of 2 htx (xw_goodC kw_3_75) rfl rfl rfl (htx _ kw_1_4) (htx _ kw_3_106) ⟨by decide, by decide, by decide +kernel⟩ ⟨Nat.le_of_ble_eq_true rfl, Nat.le_of_ble_eq_true rfl⟩, (htx _ kw_3_73), (htx _ kw_3_74)⟩ ⟨xPre_blind, va_recv hK hP (ci := 2) rfl (q0 := 0) rfl, (fun U hU hW => ⟨rfl, xPre_of hZ hS hFc hPc hDc hK U hU hW⟩)⟩ rfl rfl hl.1 rfl (lv_room (Nat.le_of_ble_eq_true rfl)) dA_times_65 ⟨Nat.le_of_ble_eq_true rfl, Nat.le_of_ble_eq_true rfl⟩) hS (fun q _ h => hFc q h) hFc (fun r3 u9 t H1 locs ht hvm hr9 hB hz1 hk1 hS => ?_)
  obtain ⟨hP1, hK1, hD1⟩ := hB
  rw [ht] at hP1
  obtain ⟨hP, hD⟩ := xjoin (W := [(a0, .inr (2, [.ref a1, .int 1, v3])), (a1, .inl (cT 2, 4096, .inr (.inl f4)))]) hP hD [0, 1] [] 0 rfl rfl (by decide) (by decide) hk1 hFc hP1 hD1
  generalize H1 = H at hP hS ⊢
  rw [hr9]
  refine W.eq (g2 := F0 m 68 ls [.int 0]) rfl ?_
  refine lv_if_eq (tgt := 92) hx hb dA_times_68 (by decide) (fun _ => ?_) (fun h => ((by revert h; decide : False)).elim)
  refine lv_iconst (v := 1) hx hb dA_times_92 (by decide) ?_
  obtain ⟨hP9, hD9⟩ := xsub (wc := [(a0, .inr (2, [.ref a1, .int 1, v3])), (a1, .inl (cT 2, 4096, .inr (.inl f4)))]) hP hD [0, 1] rfl rfl (by decide)
  refine W.widen (k := 0) (n := 0) (Nat.le_of_ble_eq_true rfl) (Nat.le_of_ble_eq_true rfl) ?_
  exact W.iret (v := 1) hx hb hr (fun t ht hW => ⟨⟨1, (), rfl, rfl, by rw [ht]; exact hP9, va_K.moved hW.alike hK, hD9⟩, hS.F ht⟩) hS.2.2 dA_times_93
set_option maxHeartbeats 400000000 in
set_option maxRecDepth 100000 in
theorem cA_apply_5 (l : Launch) (hl9 : l.stackTraces = false) (D : va_G) (cT : Nat → ClassId) (aK aV : Nat → Nat) (sz : Nat) (a0 : Nat) (a1 : Nat) (b2 : Nat) (v3 : Value) (f4 : Nat → Int64) (h5 : f4 0 = 0) : xMet l yA_apply wyA_apply 3 0 0 65 D cT aK aV sz [.int 2, .ref a0, .ref a0, .ref b2] [(a0, .inr (2, [.ref a1, .int 1, v3])), (a1, .inl (cT 2, 4096, .inr (.inl f4)))] (fun A => va_Qi (fun (r : Int32) (_ : Unit) => r = 1) (fun _ t => xB D xcl cT A [(a0, .inr (2, [.ref a1, .int 1, v3])), (a1, .inl (cT 2, 4096, .inr (.inl f4)))] t) A) := by
  refine Met.ofW (cc := prog_3_method_2_code) (maxL := 4) (ret := (some .int)) (by decide) rfl ?_
  intro p e s m args below meth c s₁ B hml hv
  obtain ⟨rfl, hsz, hZ, hP, hK, hD0⟩ := hv
  have hx := B.exec
  have hb := B.bytes
  have hr := B.returns
  have hts := atoms_spec (ws := wyA_apply) B.pre
  have htx := fun w h => hts w (List.mem_cons_of_mem _ h)
  have hown : s.vm.findClass "ValueBench$Operators" = some m.cls := findClass_of_methodNamed B.named
  have hlocks := B.notSynchronized
  subst hsz
  have hD := hD0.self (sz := s.heap.size)
  generalize hAe : va_A [(a0, .inr (2, [.ref a1, .int 1, v3])), (a1, .inl (cT 2, 4096, .inr (.inl f4)))] s.heap.size = A at hD hZ ⊢
  have hA : ∀ q : Nat, s.heap.size ≤ q → A q := fun q h => by rw [← hAe]; exact Or.inr h
  have hS : va_S A s.heap s.heap [] := va_S.rf
  have hP : va_P D xcl [(a0, .inr (2, [.ref a1, .int 1, v3])), (a1, .inl (cT 2, 4096, .inr (.inl f4)))] s.heap := hP
  have hl := lv_entry ([.int 2, .ref a0, .ref a0, .ref b2]) (n := 4) (Nat.le_of_ble_eq_true rfl)
  rw [lg_entry_eq]
  generalize (lg_sl ([.int 2, .ref a0, .ref a0, .ref b2]) ++ List.replicate (4 - (lg_sl ([.int 2, .ref a0, .ref a0, .ref b2])).length) Slot.unset).toArray = ls at hl ⊢
  have hl : lv_has ls 4 [(0, .int 2), (1, .ref a0), (2, .ref a0), (3, .ref b2)] := hl
  refine lv_aload_n hx hb dA_apply_0 rfl (lv_at hl 1 rfl) ?_
  refine lv_iconst (v := 0) hx hb dA_apply_1 (by decide) ?_
  refine lv_iconst (v := 3) hx hb dA_apply_2 (by decide) ?_
  obtain ⟨hPc, hDc, hFc⟩ := xcut (wc := [(a0, .inr (2, [.ref a1, .int 1, v3])), (a1, .inl (cT 2, 4096, .inr (.inl f4)))]) hP hD hS hA [0, 1] rfl rfl (by decide)
  refine va_calli (va_runV (C := "ValueBench$Row") (As := [.int 0, .int 3]) (rest := []) ⟨hx, hb, hml, hown, htx⟩ (cR_is_4 l hl9 D cT aK aV s.heap.size a0 a1 v3 f4 (by first | rfl | exact h5)) ⟨callB_of 2 htx (xw_goodC kw_3_75) rfl rfl rfl (htx _ kw_1_4) (htx _ kw_3_106) ⟨by decide, by decide, by decide +kernel⟩ ⟨Nat.le_of_ble_eq_true rfl, Nat.le_of_ble_eq_true rfl⟩, (htx _ kw_3_73), (htx _ kw_3_74)⟩ ⟨xPre_blind, va_recv hK hP (ci := 2) rfl (q0 := 0) rfl, (fun U hU hW => ⟨rfl, xPre_of hZ hS hFc hPc hDc hK U hU hW⟩)⟩ rfl rfl hl.1 rfl (lv_room (Nat.le_of_ble_eq_true rfl)) dA_apply_3 ⟨Nat.le_of_ble_eq_true rfl, Nat.le_of_ble_eq_true rfl⟩) hS (fun q _ h => hFc q h) hFc (fun r1 u9 t H1 locs ht hvm hr9 hB hz1 hk1 hS => ?_)
  obtain ⟨hP1, hK1, hD1⟩ := hB
  rw [ht] at hP1
  obtain ⟨hP, hD⟩ := xjoin (W := [(a0, .inr (2, [.ref a1, .int 1, v3])), (a1, .inl (cT 2, 4096, .inr (.inl f4)))]) hP hD [0, 1] [] 0 rfl rfl (by decide) (by decide) hk1 hFc hP1 hD1
  generalize H1 = H at hP hS ⊢
  rw [hr9]
  refine W.eq (g2 := F0 m 6 ls [.int 0]) rfl ?_
  refine lv_if_eq (tgt := 34) hx hb dA_apply_6 (by decide) (fun _ => ?_) (fun h => ((by revert h; decide : False)).elim)
  refine lv_iload_n hx hb dA_apply_34 rfl (lv_at hl 0 rfl) ?_
  refine lv_tableIn (off := 43) (tgt := 78) hx hb dA_apply_35 (by decide) (by decide) (by decide) (by decide) ?_
  refine lv_aload_n hx hb dA_apply_78 rfl (lv_at hl 1 rfl) ?_
  refine lv_aload_n hx hb dA_apply_79 rfl (lv_at hl 2 rfl) ?_
  refine lv_aload_n hx hb dA_apply_80 rfl (lv_at hl 3 rfl) ?_
  obtain ⟨hPc, hDc, hFc⟩ := xcut (wc := [(a0, .inr (2, [.ref a1, .int 1, v3])), (a1, .inl (cT 2, 4096, .inr (.inl f4)))]) hP hD hS hA [0, 1] rfl rfl (by decide)
  refine va_calli (va_runS (As := [.ref a0, .ref a0, .ref b2]) (rest := []) ⟨hx, hb, hml, hown, htx⟩ (cA_times_1 l hl9 D cT aK aV H.size a0 a1 b2 v3 f4 (by first | rfl | exact h5)) ⟨callB_of 3 htx (xw_goodC kw_3_189) rfl rfl rfl (htx _ kw_1_21) (htx _ kw_3_187) ⟨by decide, by decide, by decide +kernel⟩ ⟨Nat.le_of_ble_eq_true rfl, Nat.le_of_ble_eq_true rfl⟩, htx _ kw_3_188⟩ ⟨xPre_blind, (fun U hU hW => ⟨rfl, xPre_of hZ hS hFc hPc hDc hK U hU hW⟩)⟩ rfl rfl hl.1 rfl (lv_room (Nat.le_of_ble_eq_true rfl)) dA_apply_81 ⟨Nat.le_of_ble_eq_true rfl, Nat.le_of_ble_eq_true rfl⟩) hS (fun q _ h => hFc q h) hFc (fun r2 u9 t H1 locs ht hvm hr9 hB hz1 hk1 hS => ?_)
  obtain ⟨hP1, hK1, hD1⟩ := hB
  rw [ht] at hP1
  obtain ⟨hP, hD⟩ := xjoin (W := [(a0, .inr (2, [.ref a1, .int 1, v3])), (a1, .inl (cT 2, 4096, .inr (.inl f4)))]) hP hD [0, 1] [] 0 rfl rfl (by decide) (by decide) hk1 hFc hP1 hD1
  generalize H1 = H at hP hS ⊢
  rw [hr9]
  refine W.eq (g2 := F0 m 84 ls [.int 1]) rfl ?_
  obtain ⟨hP9, hD9⟩ := xsub (wc := [(a0, .inr (2, [.ref a1, .int 1, v3])), (a1, .inl (cT 2, 4096, .inr (.inl f4)))]) hP hD [0, 1] rfl rfl (by decide)
  refine W.widen (k := 0) (n := 0) (Nat.le_of_ble_eq_true rfl) (Nat.le_of_ble_eq_true rfl) ?_
  exact W.iret (v := 1) hx hb hr (fun t ht hW => ⟨⟨1, (), rfl, rfl, by rw [ht]; exact hP9, va_K.moved hW.alike hK, hD9⟩, hS.F ht⟩) hS.2.2 dA_apply_84
