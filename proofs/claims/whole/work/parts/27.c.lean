set_option maxHeartbeats 400000000 in
set_option maxRecDepth 100000 in
theorem cL_one_16 (l : Launch) (hl9 : l.stackTraces = false) (D : va_G) (cT : Nat → ClassId) (aK aV : Nat → Nat) (sz : Nat) (a0 : Nat) (x1 : Int32) (x6 : Int32) (x10 : Int32) (v12 : Value) (v13 : Value) (v14 : Value) (v15 : Value) (v16 : Value) (v17 : Value) (v18 : Value) (v19 : Value) (h2 : ¬ x1 < 0) (h3 : ¬ 7 < x1) (h4 : x1 ≤ 7) (h5 : vp_in x1 8) (h7 : ¬ x6 < 0) (h8 : ¬ 13 < x6) (h9 : x6 ≤ 13) (h11 : x10 < 0) : xMet l yL_one wyL_one 8 1 6 143 D cT aK aV sz [.ref a0, .int x1, .int x6, .int x10] [(a0, .inr (0, [v12, v13, v14, v15, v16, v17, v18, v19]))] (fun A => va_Qi (fun (r : Int32) (_ : Unit) => r = 1) (fun _ t => xB D xcl cT A [(a0, .inr (0, [v12, v13, v14, v15, v16, v17, v18, v19]))] t) A) := by
  refine va_MetW (cc := method_10_code) (maxL := 5) (ret := (some .int)) (hh := [(0, 7, 10, 19), (0, 7, 14, 33), (0, 7, 18, 13)]) (by decide) rfl ?_
  intro p e s m args below meth c s₁ B hml hv
  obtain ⟨rfl, hsz, hZ, hP, hK, hD0⟩ := hv
  have hx := B.exec
  have hb := B.bytes
  have hr := B.returns
  have hts := atoms_spec (ws := wyL_one) B.pre
  have htx := fun w h => hts w (List.mem_cons_of_mem _ h)
  have hown : s.vm.findClass "ValueBenchLaw" = some m.cls := findClass_of_methodNamed B.named
  have hlocks := B.notSynchronized
  subst hsz
  have hD := hD0.self (sz := s.heap.size)
  generalize hAe : va_A [(a0, .inr (0, [v12, v13, v14, v15, v16, v17, v18, v19]))] s.heap.size = A at hD hZ ⊢
  have hA : ∀ q : Nat, s.heap.size ≤ q → A q := fun q h => by rw [← hAe]; exact Or.inr h
  have hS : va_S A s.heap s.heap [] := va_S.rf
  have hP : va_P D xcl [(a0, .inr (0, [v12, v13, v14, v15, v16, v17, v18, v19]))] s.heap := hP
  have hl := lv_entry ([.ref a0, .int x1, .int x6, .int x10]) (n := 5) (Nat.le_of_ble_eq_true rfl)
  rw [lg_entry_eq]
  generalize (lg_sl ([.ref a0, .int x1, .int x6, .int x10]) ++ List.replicate (5 - (lg_sl ([.ref a0, .int x1, .int x6, .int x10])).length) Slot.unset).toArray = ls at hl ⊢
  have hl : lv_has ls 5 [(0, .ref a0), (1, .int x1), (2, .int x6), (3, .int x10)] := hl
  have htab := vx_table (x := yL_one) B (hts _ List.mem_cons_self)
  refine lv_aload_n hx hb dL_one_0 rfl (lv_at hl 0 rfl) ?_
  refine lv_iload_n hx hb dL_one_1 rfl (lv_at hl 1 rfl) ?_
  refine lv_iload_n hx hb dL_one_2 rfl (lv_at hl 2 rfl) ?_
  refine lv_iload_n hx hb dL_one_3 rfl (lv_at hl 3 rfl) ?_
  obtain ⟨hPc, hDc, hFc⟩ := xcut (wc := []) hP hD hS hA [] rfl rfl (by decide)
  refine xx_thr (vx_runV (C := "ValueBench") (As := [.int x1, .int x6, .int x10]) (rest := []) ⟨hx, hb, hml, hown, htx⟩ (cB_one_16 l hl9 D cT aK aV s.heap.size a0 x1 x6 x10 h2 h3 h4 h5 h7 h8 h9 h11) ⟨callB_of 3 htx (xw_goodC kw_4_25) rfl rfl rfl (htx _ kw_1_1) (htx _ kw_4_22) ⟨by decide, by decide, by decide +kernel⟩ ⟨Nat.le_of_ble_eq_true rfl, Nat.le_of_ble_eq_true rfl⟩, (htx _ kw_4_23), (htx _ kw_4_24)⟩ ⟨xPre_blind, va_recv hK hP (ci := 0) rfl (q0 := 0) rfl, (fun U hU hW => ⟨rfl, xPre_of hZ hS hFc hPc hDc hK U hU hW⟩)⟩ rfl rfl hl.1 rfl (lv_room (Nat.le_of_ble_eq_true rfl)) dL_one_4 ⟨Nat.le_of_ble_eq_true rfl, Nat.le_of_ble_eq_true rfl⟩) hS hFc (fun q _ h => hFc q h) (fun E ce q9 u9 t H1 locs ht hvm _ hB hz1 hk1 hS hce hcv hcl => ?_)
  obtain ⟨rfl, hP1, hK1, hD1⟩ := hB
  rw [ht] at hP1
  obtain ⟨hP, hD⟩ := xjoin (W := [(a0, .inr (0, [v12, v13, v14, v15, v16, v17, v18, v19]))]) hP hD [] [0] 1 rfl rfl (by decide) (by decide) hk1 hFc hP1 hD1
  generalize H1 = H at hP hS hce ⊢
  refine vx_catch (own := "ValueBenchLaw") (name := "java/lang/IllegalArgumentException") (E := "java/lang/IllegalArgumentException") hown [] ⟨0, 7, 10, 19⟩ [⟨0, 7, 14, 33⟩, ⟨0, 7, 18, 13⟩] (by rw [htab]; rfl) (fun z hz => nomatch hz) (by decide) (by decide) (htx _ kw_1_211) ((hZ.2.2.2.2.2.1 _ (List.mem_of_getElem? (i := 1) rfl)).use rfl) hce hcv hcl ?_
  refine lv_astore (lv' := [(4, .ref q9), (0, .ref a0), (1, .int x1), (2, .int x6), (3, .int x10)]) hx hb dL_one_10 hl (by decide) rfl (fun ls hl => ?_)
  refine lv_iconst (v := 1) hx hb dL_one_12 (by decide) ?_
  obtain ⟨hP9, hD9⟩ := xsub (wc := [(a0, .inr (0, [v12, v13, v14, v15, v16, v17, v18, v19]))]) hP hD [0] rfl rfl (by decide)
  refine W.widen (k := 1) (n := 6) (Nat.le_of_ble_eq_true rfl) (Nat.le_of_ble_eq_true rfl) ?_
  exact W.iret (v := 1) hx hb hr (fun t ht hW => ⟨⟨1, (), rfl, rfl, by rw [ht]; exact hP9, va_K.moved hW.alike hK, hD9⟩, hS.F ht⟩) hS.2.2 dL_one_13
set_option maxHeartbeats 400000000 in
set_option maxRecDepth 100000 in
theorem cB_binary_14 (l : Launch) (hl9 : l.stackTraces = false) (D : va_G) (cT : Nat → ClassId) (aK aV : Nat → Nat) (sz : Nat) (b0 : Nat) (x1 : Int32) (x5 : Int32) (x6 : Int32) (x7 : Int32) (h2 : ¬ x1 < 0) (h3 : 7 < x1) (h4 : ¬ x1 ≤ 7) : xMetX l yB_binary wyB_binary 7 1 6 120 D cT aK aV sz [.ref b0, .int x1, .int x5, .int x6, .int x7] [] "java/lang/IllegalArgumentException" (fun A t => xB D xcl cT A [] t) := by
  refine vx_ofW (cc := prog_1_method_6_code) (maxL := 5) (ret := none) (by decide) rfl ?_
  intro p e s m args below meth c s₁ B hml hne hv
  obtain ⟨rfl, hsz, hZ, hP, hK, hD0⟩ := hv
  have hx := B.exec
  have hb := B.bytes
  have hr := B.returns
  have hts := atoms_spec (ws := wyB_binary) B.pre
  have htx := fun w h => hts w (List.mem_cons_of_mem _ h)
  have hown : s.vm.findClass "ValueBench" = some m.cls := findClass_of_methodNamed B.named
  have hlocks := B.notSynchronized
  subst hsz
  have hD := hD0.self (sz := s.heap.size)
  generalize hAe : va_A [] s.heap.size = A at hD hZ ⊢
  have hA : ∀ q : Nat, s.heap.size ≤ q → A q := fun q h => by rw [← hAe]; exact Or.inr h
  have hS : va_S A s.heap s.heap [] := va_S.rf
  have hP : va_P D xcl [] s.heap := hP
  have hl := lv_entry ([.ref b0, .int x1, .int x5, .int x6, .int x7]) (n := 5) (Nat.le_of_ble_eq_true rfl)
  rw [lg_entry_eq]
  generalize (lg_sl ([.ref b0, .int x1, .int x5, .int x6, .int x7]) ++ List.replicate (5 - (lg_sl ([.ref b0, .int x1, .int x5, .int x6, .int x7])).length) Slot.unset).toArray = ls at hl ⊢
  have hl : lv_has ls 5 [(0, .ref b0), (1, .int x1), (2, .int x5), (3, .int x6), (4, .int x7)] := hl
  refine lv_iload_n hx hb dB_binary_0 rfl (lv_at hl 1 rfl) ?_
  obtain ⟨hPc, hDc, hFc⟩ := xcut (wc := []) hP hD hS hA [] rfl rfl (by decide)
  refine va_calli (va_runS (As := [.int x1]) (rest := []) ⟨hx, hb, hml, hown, htx⟩ (cB_isRegister_2 l hl9 D cT aK aV s.heap.size x1 h2 h3 h4) ⟨callB_of 1 htx (xw_goodC kw_2_18) rfl rfl rfl (htx _ kw_1_1) (htx _ kw_2_16) ⟨by decide, by decide, by decide +kernel⟩ ⟨Nat.le_of_ble_eq_true rfl, Nat.le_of_ble_eq_true rfl⟩, htx _ kw_2_17⟩ ⟨xPre_blind, (fun U hU hW => ⟨rfl, xPre_of hZ hS hFc hPc hDc hK U hU hW⟩)⟩ rfl rfl hl.1 rfl (lv_room (Nat.le_of_ble_eq_true rfl)) dB_binary_1 ⟨Nat.le_of_ble_eq_true rfl, Nat.le_of_ble_eq_true rfl⟩) hS (fun q _ h => hFc q h) hFc (fun r1 u9 t H1 locs ht hvm hr9 hB hz1 hk1 hS => ?_)
  obtain ⟨hP1, hK1, hD1⟩ := hB
  rw [ht] at hP1
  obtain ⟨hP, hD⟩ := xjoin (W := []) hP hD [] [] 0 rfl rfl (by decide) (by decide) hk1 hFc hP1 hD1
  generalize H1 = H at hP hS ⊢
  rw [hr9]
  refine W.eq (g2 := F0 m 4 ls [.int 0]) rfl ?_
  refine lv_if_eq (tgt := 34) hx hb dB_binary_4 (by decide) (fun _ => ?_) (fun h => ((by revert h; decide : False)).elim)
  refine lv_iconst (v := 0) hx hb dB_binary_34 (by decide) ?_
  obtain ⟨hPc, hDc, hFc⟩ := xcut (wc := []) hP hD hS hA [] rfl rfl (by decide)
  refine xx_thr (vx_runS (As := [.int 0]) (rest := []) ⟨hx, hb, hml, hown, htx⟩ (cB_demand_1 l hl9 D cT aK aV H.size) ⟨callB_of 1 htx (xw_goodC kw_1_221) rfl rfl rfl (htx _ kw_1_1) (htx _ kw_1_219) ⟨by decide, by decide, by decide +kernel⟩ ⟨Nat.le_of_ble_eq_true rfl, Nat.le_of_ble_eq_true rfl⟩, htx _ kw_1_220⟩ ⟨xPre_blind, (fun U hU hW => ⟨rfl, xPre_of hZ hS hFc hPc hDc hK U hU hW⟩)⟩ rfl rfl hl.1 rfl (lv_room (Nat.le_of_ble_eq_true rfl)) dB_binary_35 ⟨Nat.le_of_ble_eq_true rfl, Nat.le_of_ble_eq_true rfl⟩) hS hFc (fun q _ h => hFc q h) (fun E ce q9 u9 t H1 locs ht hvm _ hB hz1 hk1 hS hce hcv hcl => ?_)
  obtain ⟨rfl, hP1, hK1, hD1⟩ := hB
  rw [ht] at hP1
  obtain ⟨hP, hD⟩ := xjoin (W := []) hP hD [] [] 0 rfl rfl (by decide) (by decide) hk1 hFc hP1 hD1
  generalize H1 = H at hP hS hce ⊢
  obtain ⟨hP9, hD9⟩ := xsub (wc := []) hP hD [] rfl rfl (by decide)
  exact vx_out (E := "java/lang/IllegalArgumentException") (fun x h => (hne x h).elim) hlocks hce hcv hcl (fun t ht ha => ⟨(), trivial, ⟨rfl, by rw [ht]; exact hP9, va_K.moved ha hK, hD9⟩, hS.F ht⟩) hS.2.2 (Nat.le_of_ble_eq_true rfl) (Nat.le_of_ble_eq_true rfl)
set_option maxHeartbeats 400000000 in
set_option maxRecDepth 100000 in
theorem cL_binary_14 (l : Launch) (hl9 : l.stackTraces = false) (D : va_G) (cT : Nat → ClassId) (aK aV : Nat → Nat) (sz : Nat) (a0 : Nat) (x1 : Int32) (x5 : Int32) (x6 : Int32) (x7 : Int32) (v8 : Value) (v9 : Value) (v10 : Value) (v11 : Value) (v12 : Value) (v13 : Value) (v14 : Value) (v15 : Value) (h2 : ¬ x1 < 0) (h3 : 7 < x1) (h4 : ¬ x1 ≤ 7) : xMet l yL_binary wyL_binary 8 1 6 144 D cT aK aV sz [.ref a0, .int x1, .int x5, .int x6, .int x7] [(a0, .inr (0, [v8, v9, v10, v11, v12, v13, v14, v15]))] (fun A => va_Qi (fun (r : Int32) (_ : Unit) => r = 1) (fun _ t => xB D xcl cT A [(a0, .inr (0, [v8, v9, v10, v11, v12, v13, v14, v15]))] t) A) := by
  refine va_MetW (cc := method_7_code) (maxL := 6) (ret := (some .int)) (hh := [(0, 9, 12, 19), (0, 9, 16, 33), (0, 9, 20, 13)]) (by decide) rfl ?_
  intro p e s m args below meth c s₁ B hml hv
  obtain ⟨rfl, hsz, hZ, hP, hK, hD0⟩ := hv
  have hx := B.exec
  have hb := B.bytes
  have hr := B.returns
  have hts := atoms_spec (ws := wyL_binary) B.pre
  have htx := fun w h => hts w (List.mem_cons_of_mem _ h)
  have hown : s.vm.findClass "ValueBenchLaw" = some m.cls := findClass_of_methodNamed B.named
  have hlocks := B.notSynchronized
  subst hsz
  have hD := hD0.self (sz := s.heap.size)
  generalize hAe : va_A [(a0, .inr (0, [v8, v9, v10, v11, v12, v13, v14, v15]))] s.heap.size = A at hD hZ ⊢
  have hA : ∀ q : Nat, s.heap.size ≤ q → A q := fun q h => by rw [← hAe]; exact Or.inr h
  have hS : va_S A s.heap s.heap [] := va_S.rf
  have hP : va_P D xcl [(a0, .inr (0, [v8, v9, v10, v11, v12, v13, v14, v15]))] s.heap := hP
  have hl := lv_entry ([.ref a0, .int x1, .int x5, .int x6, .int x7]) (n := 6) (Nat.le_of_ble_eq_true rfl)
  rw [lg_entry_eq]
  generalize (lg_sl ([.ref a0, .int x1, .int x5, .int x6, .int x7]) ++ List.replicate (6 - (lg_sl ([.ref a0, .int x1, .int x5, .int x6, .int x7])).length) Slot.unset).toArray = ls at hl ⊢
  have hl : lv_has ls 6 [(0, .ref a0), (1, .int x1), (2, .int x5), (3, .int x6), (4, .int x7)] := hl
  have htab := vx_table (x := yL_binary) B (hts _ List.mem_cons_self)
  refine lv_aload_n hx hb dL_binary_0 rfl (lv_at hl 0 rfl) ?_
  refine lv_iload_n hx hb dL_binary_1 rfl (lv_at hl 1 rfl) ?_
  refine lv_iload_n hx hb dL_binary_2 rfl (lv_at hl 2 rfl) ?_
  refine lv_iload_n hx hb dL_binary_3 rfl (lv_at hl 3 rfl) ?_
  refine lv_iload hx hb dL_binary_4 (lv_at hl 4 rfl) ?_
  obtain ⟨hPc, hDc, hFc⟩ := xcut (wc := []) hP hD hS hA [] rfl rfl (by decide)
  refine xx_thr (vx_runV (C := "ValueBench") (As := [.int x1, .int x5, .int x6, .int x7]) (rest := []) ⟨hx, hb, hml, hown, htx⟩ (cB_binary_14 l hl9 D cT aK aV s.heap.size a0 x1 x5 x6 x7 h2 h3 h4) ⟨callB_of 4 htx (xw_goodC kw_3_102) rfl rfl rfl (htx _ kw_1_1) (htx _ kw_3_99) ⟨by decide, by decide, by decide +kernel⟩ ⟨Nat.le_of_ble_eq_true rfl, Nat.le_of_ble_eq_true rfl⟩, (htx _ kw_3_100), (htx _ kw_3_101)⟩ ⟨xPre_blind, va_recv hK hP (ci := 0) rfl (q0 := 0) rfl, (fun U hU hW => ⟨rfl, xPre_of hZ hS hFc hPc hDc hK U hU hW⟩)⟩ rfl rfl hl.1 rfl (lv_room (Nat.le_of_ble_eq_true rfl)) dL_binary_6 ⟨Nat.le_of_ble_eq_true rfl, Nat.le_of_ble_eq_true rfl⟩) hS hFc (fun q _ h => hFc q h) (fun E ce q9 u9 t H1 locs ht hvm _ hB hz1 hk1 hS hce hcv hcl => ?_)
  obtain ⟨rfl, hP1, hK1, hD1⟩ := hB
  rw [ht] at hP1
  obtain ⟨hP, hD⟩ := xjoin (W := [(a0, .inr (0, [v8, v9, v10, v11, v12, v13, v14, v15]))]) hP hD [] [0] 1 rfl rfl (by decide) (by decide) hk1 hFc hP1 hD1
  generalize H1 = H at hP hS hce ⊢
  refine vx_catch (own := "ValueBenchLaw") (name := "java/lang/IllegalArgumentException") (E := "java/lang/IllegalArgumentException") hown [] ⟨0, 9, 12, 19⟩ [⟨0, 9, 16, 33⟩, ⟨0, 9, 20, 13⟩] (by rw [htab]; rfl) (fun z hz => nomatch hz) (by decide) (by decide) (htx _ kw_1_211) ((hZ.2.2.2.2.2.1 _ (List.mem_of_getElem? (i := 1) rfl)).use rfl) hce hcv hcl ?_
  refine lv_astore (lv' := [(5, .ref q9), (0, .ref a0), (1, .int x1), (2, .int x5), (3, .int x6), (4, .int x7)]) hx hb dL_binary_12 hl (by decide) rfl (fun ls hl => ?_)
  refine lv_iconst (v := 1) hx hb dL_binary_14 (by decide) ?_
  obtain ⟨hP9, hD9⟩ := xsub (wc := [(a0, .inr (0, [v8, v9, v10, v11, v12, v13, v14, v15]))]) hP hD [0] rfl rfl (by decide)
  refine W.widen (k := 1) (n := 6) (Nat.le_of_ble_eq_true rfl) (Nat.le_of_ble_eq_true rfl) ?_
  exact W.iret (v := 1) hx hb hr (fun t ht hW => ⟨⟨1, (), rfl, rfl, by rw [ht]; exact hP9, va_K.moved hW.alike hK, hD9⟩, hS.F ht⟩) hS.2.2 dL_binary_15
set_option maxHeartbeats 400000000 in
set_option maxRecDepth 100000 in
theorem cB_isWithin_42 (l : Launch) (hl9 : l.stackTraces = false) (D : va_G) (cT : Nat → ClassId) (aK aV : Nat → Nat) (sz : Nat) (x0 : Int32) (h1 : ¬ x0 < 0) (h2 : 4 < x0) (h3 : ¬ x0 ≤ 4) : xMet l yB_isWithin wyB_isWithin 0 0 0 0 D cT aK aV sz [.int x0, .int 4] [] (fun A => va_Qi (fun (r : Int32) (_ : Unit) => r = 0) (fun _ t => xB D xcl cT A [] t) A) := by
  refine Met.ofW (cc := prog_1_method_15_code) (maxL := 2) (ret := (some .boolean)) (by decide) rfl ?_
  intro p e s m args below meth c s₁ B hml hv
  obtain ⟨rfl, hsz, hZ, hP, hK, hD0⟩ := hv
  have hx := B.exec
  have hb := B.bytes
  have hr := B.returns
  have hts := atoms_spec (ws := wyB_isWithin) B.pre
  have htx := fun w h => hts w (List.mem_cons_of_mem _ h)
  have hown : s.vm.findClass "ValueBench" = some m.cls := findClass_of_methodNamed B.named
  have hlocks := B.notSynchronized
  subst hsz
  have hD := hD0.self (sz := s.heap.size)
  generalize hAe : va_A [] s.heap.size = A at hD hZ ⊢
  have hA : ∀ q : Nat, s.heap.size ≤ q → A q := fun q h => by rw [← hAe]; exact Or.inr h
  have hS : va_S A s.heap s.heap [] := va_S.rf
  have hP : va_P D xcl [] s.heap := hP
  have hl := lv_entry ([.int x0, .int 4]) (n := 2) (Nat.le_of_ble_eq_true rfl)
  rw [lg_entry_eq]
  generalize (lg_sl ([.int x0, .int 4]) ++ List.replicate (2 - (lg_sl ([.int x0, .int 4])).length) Slot.unset).toArray = ls at hl ⊢
  have hl : lv_has ls 2 [(0, .int x0), (1, .int 4)] := hl
  refine lv_iload_n hx hb dB_isWithin_0 rfl (lv_at hl 0 rfl) ?_
  refine lv_if_lt (tgt := 13) hx hb dB_isWithin_1 (by decide) (fun h => by first | exact absurd h h1 | exact absurd h h2 | exact absurd h h3 | exact absurd h1 h | exact absurd h2 h | exact absurd h3 h) (fun _ => ?_)
  refine lv_iload_n hx hb dB_isWithin_4 rfl (lv_at hl 0 rfl) ?_
  refine lv_iload_n hx hb dB_isWithin_5 rfl (lv_at hl 1 rfl) ?_
  refine lv_icmp_gt (tgt := 13) hx hb dB_isWithin_6 (by decide) (fun _ => ?_) (fun h => by first | exact absurd h h1 | exact absurd h h2 | exact absurd h h3 | exact absurd h1 h | exact absurd h2 h | exact absurd h3 h)
  refine lv_iconst (v := 0) hx hb dB_isWithin_13 (by decide) ?_
  obtain ⟨hP9, hD9⟩ := xsub (wc := []) hP hD [] rfl rfl (by decide)
  refine W.widen (k := 0) (n := 0) (Nat.le_of_ble_eq_true rfl) (Nat.le_of_ble_eq_true rfl) ?_
  exact W.zret (v := 0) hx hb hr rfl (fun t ht hW => ⟨⟨0, (), rfl, rfl, by rw [ht]; exact hP9, va_K.moved hW.alike hK, hD9⟩, hS.F ht⟩) hS.2.2 dB_isWithin_14
set_option maxHeartbeats 400000000 in
set_option maxRecDepth 100000 in
theorem cB_binary_15 (l : Launch) (hl9 : l.stackTraces = false) (D : va_G) (cT : Nat → ClassId) (aK aV : Nat → Nat) (sz : Nat) (b0 : Nat) (x1 : Int32) (x6 : Int32) (x10 : Int32) (x11 : Int32) (h2 : ¬ x1 < 0) (h3 : ¬ 7 < x1) (h4 : x1 ≤ 7) (h5 : vp_in x1 8) (h7 : ¬ x6 < 0) (h8 : 4 < x6) (h9 : ¬ x6 ≤ 4) : xMetX l yB_binary wyB_binary 7 1 6 120 D cT aK aV sz [.ref b0, .int x1, .int x6, .int x10, .int x11] [] "java/lang/IllegalArgumentException" (fun A t => xB D xcl cT A [] t) := by
  refine vx_ofW (cc := prog_1_method_6_code) (maxL := 5) (ret := none) (by decide) rfl ?_
  intro p e s m args below meth c s₁ B hml hne hv
  obtain ⟨rfl, hsz, hZ, hP, hK, hD0⟩ := hv
  have hx := B.exec
  have hb := B.bytes
  have hr := B.returns
  have hts := atoms_spec (ws := wyB_binary) B.pre
  have htx := fun w h => hts w (List.mem_cons_of_mem _ h)
  have hown : s.vm.findClass "ValueBench" = some m.cls := findClass_of_methodNamed B.named
  have hlocks := B.notSynchronized
  subst hsz
  have hD := hD0.self (sz := s.heap.size)
  generalize hAe : va_A [] s.heap.size = A at hD hZ ⊢
  have hA : ∀ q : Nat, s.heap.size ≤ q → A q := fun q h => by rw [← hAe]; exact Or.inr h
  have hS : va_S A s.heap s.heap [] := va_S.rf
  have hP : va_P D xcl [] s.heap := hP
  have hl := lv_entry ([.ref b0, .int x1, .int x6, .int x10, .int x11]) (n := 5) (Nat.le_of_ble_eq_true rfl)
  rw [lg_entry_eq]
  generalize (lg_sl ([.ref b0, .int x1, .int x6, .int x10, .int x11]) ++ List.replicate (5 - (lg_sl ([.ref b0, .int x1, .int x6, .int x10, .int x11])).length) Slot.unset).toArray = ls at hl ⊢
  have hl : lv_has ls 5 [(0, .ref b0), (1, .int x1), (2, .int x6), (3, .int x10), (4, .int x11)] := hl
  refine lv_iload_n hx hb dB_binary_0 rfl (lv_at hl 1 rfl) ?_
  obtain ⟨hPc, hDc, hFc⟩ := xcut (wc := []) hP hD hS hA [] rfl rfl (by decide)
  refine va_calli (va_runS (As := [.int x1]) (rest := []) ⟨hx, hb, hml, hown, htx⟩ (cB_isRegister_0 l hl9 D cT aK aV s.heap.size x1 h2 h3 h4 h5) ⟨callB_of 1 htx (xw_goodC kw_2_18) rfl rfl rfl (htx _ kw_1_1) (htx _ kw_2_16) ⟨by decide, by decide, by decide +kernel⟩ ⟨Nat.le_of_ble_eq_true rfl, Nat.le_of_ble_eq_true rfl⟩, htx _ kw_2_17⟩ ⟨xPre_blind, (fun U hU hW => ⟨rfl, xPre_of hZ hS hFc hPc hDc hK U hU hW⟩)⟩ rfl rfl hl.1 rfl (lv_room (Nat.le_of_ble_eq_true rfl)) dB_binary_1 ⟨Nat.le_of_ble_eq_true rfl, Nat.le_of_ble_eq_true rfl⟩) hS (fun q _ h => hFc q h) hFc (fun r1 u9 t H1 locs ht hvm hr9 hB hz1 hk1 hS => ?_)
  obtain ⟨hP1, hK1, hD1⟩ := hB
  rw [ht] at hP1
  obtain ⟨hP, hD⟩ := xjoin (W := []) hP hD [] [] 0 rfl rfl (by decide) (by decide) hk1 hFc hP1 hD1
  generalize H1 = H at hP hS ⊢
  rw [hr9]
  refine W.eq (g2 := F0 m 4 ls [.int 1]) rfl ?_
  refine lv_if_eq (tgt := 34) hx hb dB_binary_4 (by decide) (fun h => ((by revert h; decide : False)).elim) (fun _ => ?_)
  refine lv_iload_n hx hb dB_binary_7 rfl (lv_at hl 2 rfl) ?_
  refine lv_iconst (v := 4) hx hb dB_binary_8 (by decide) ?_
  obtain ⟨hPc, hDc, hFc⟩ := xcut (wc := []) hP hD hS hA [] rfl rfl (by decide)
  refine va_calli (va_runS (As := [.int x6, .int 4]) (rest := []) ⟨hx, hb, hml, hown, htx⟩ (cB_isWithin_42 l hl9 D cT aK aV H.size x6 h7 h8 h9) ⟨callB_of 2 htx (xw_goodC kw_1_218) rfl rfl rfl (htx _ kw_1_1) (htx _ kw_1_216) ⟨by decide, by decide, by decide +kernel⟩ ⟨Nat.le_of_ble_eq_true rfl, Nat.le_of_ble_eq_true rfl⟩, htx _ kw_1_217⟩ ⟨xPre_blind, (fun U hU hW => ⟨rfl, xPre_of hZ hS hFc hPc hDc hK U hU hW⟩)⟩ rfl rfl hl.1 rfl (lv_room (Nat.le_of_ble_eq_true rfl)) dB_binary_9 ⟨Nat.le_of_ble_eq_true rfl, Nat.le_of_ble_eq_true rfl⟩) hS (fun q _ h => hFc q h) hFc (fun r2 u9 t H1 locs ht hvm hr9 hB hz1 hk1 hS => ?_)
  obtain ⟨hP1, hK1, hD1⟩ := hB
  rw [ht] at hP1
  obtain ⟨hP, hD⟩ := xjoin (W := []) hP hD [] [] 0 rfl rfl (by decide) (by decide) hk1 hFc hP1 hD1
  generalize H1 = H at hP hS ⊢
  rw [hr9]
  refine W.eq (g2 := F0 m 12 ls [.int 0]) rfl ?_
  refine lv_if_eq (tgt := 34) hx hb dB_binary_12 (by decide) (fun _ => ?_) (fun h => ((by revert h; decide : False)).elim)
  refine lv_iconst (v := 0) hx hb dB_binary_34 (by decide) ?_
  obtain ⟨hPc, hDc, hFc⟩ := xcut (wc := []) hP hD hS hA [] rfl rfl (by decide)
  refine xx_thr (vx_runS (As := [.int 0]) (rest := []) ⟨hx, hb, hml, hown, htx⟩ (cB_demand_1 l hl9 D cT aK aV H.size) ⟨callB_of 1 htx (xw_goodC kw_1_221) rfl rfl rfl (htx _ kw_1_1) (htx _ kw_1_219) ⟨by decide, by decide, by decide +kernel⟩ ⟨Nat.le_of_ble_eq_true rfl, Nat.le_of_ble_eq_true rfl⟩, htx _ kw_1_220⟩ ⟨xPre_blind, (fun U hU hW => ⟨rfl, xPre_of hZ hS hFc hPc hDc hK U hU hW⟩)⟩ rfl rfl hl.1 rfl (lv_room (Nat.le_of_ble_eq_true rfl)) dB_binary_35 ⟨Nat.le_of_ble_eq_true rfl, Nat.le_of_ble_eq_true rfl⟩) hS hFc (fun q _ h => hFc q h) (fun E ce q9 u9 t H1 locs ht hvm _ hB hz1 hk1 hS hce hcv hcl => ?_)
  obtain ⟨rfl, hP1, hK1, hD1⟩ := hB
  rw [ht] at hP1
  obtain ⟨hP, hD⟩ := xjoin (W := []) hP hD [] [] 0 rfl rfl (by decide) (by decide) hk1 hFc hP1 hD1
  generalize H1 = H at hP hS hce ⊢
  obtain ⟨hP9, hD9⟩ := xsub (wc := []) hP hD [] rfl rfl (by decide)
  exact vx_out (E := "java/lang/IllegalArgumentException") (fun x h => (hne x h).elim) hlocks hce hcv hcl (fun t ht ha => ⟨(), trivial, ⟨rfl, by rw [ht]; exact hP9, va_K.moved ha hK, hD9⟩, hS.F ht⟩) hS.2.2 (Nat.le_of_ble_eq_true rfl) (Nat.le_of_ble_eq_true rfl)
set_option maxHeartbeats 400000000 in
set_option maxRecDepth 100000 in
theorem cL_binary_15 (l : Launch) (hl9 : l.stackTraces = false) (D : va_G) (cT : Nat → ClassId) (aK aV : Nat → Nat) (sz : Nat) (a0 : Nat) (x1 : Int32) (x6 : Int32) (x10 : Int32) (x11 : Int32) (v12 : Value) (v13 : Value) (v14 : Value) (v15 : Value) (v16 : Value) (v17 : Value) (v18 : Value) (v19 : Value) (h2 : ¬ x1 < 0) (h3 : ¬ 7 < x1) (h4 : x1 ≤ 7) (h5 : vp_in x1 8) (h7 : ¬ x6 < 0) (h8 : 4 < x6) (h9 : ¬ x6 ≤ 4) : xMet l yL_binary wyL_binary 8 1 6 144 D cT aK aV sz [.ref a0, .int x1, .int x6, .int x10, .int x11] [(a0, .inr (0, [v12, v13, v14, v15, v16, v17, v18, v19]))] (fun A => va_Qi (fun (r : Int32) (_ : Unit) => r = 1) (fun _ t => xB D xcl cT A [(a0, .inr (0, [v12, v13, v14, v15, v16, v17, v18, v19]))] t) A) := by
  refine va_MetW (cc := method_7_code) (maxL := 6) (ret := (some .int)) (hh := [(0, 9, 12, 19), (0, 9, 16, 33), (0, 9, 20, 13)]) (by decide) rfl ?_
  intro p e s m args below meth c s₁ B hml hv
  obtain ⟨rfl, hsz, hZ, hP, hK, hD0⟩ := hv
  have hx := B.exec
  have hb := B.bytes
  have hr := B.returns
  have hts := atoms_spec (ws := wyL_binary) B.pre
  have htx := fun w h => hts w (List.mem_cons_of_mem _ h)
  have hown : s.vm.findClass "ValueBenchLaw" = some m.cls := findClass_of_methodNamed B.named
  have hlocks := B.notSynchronized
  subst hsz
  have hD := hD0.self (sz := s.heap.size)
  generalize hAe : va_A [(a0, .inr (0, [v12, v13, v14, v15, v16, v17, v18, v19]))] s.heap.size = A at hD hZ ⊢
  have hA : ∀ q : Nat, s.heap.size ≤ q → A q := fun q h => by rw [← hAe]; exact Or.inr h
  have hS : va_S A s.heap s.heap [] := va_S.rf
  have hP : va_P D xcl [(a0, .inr (0, [v12, v13, v14, v15, v16, v17, v18, v19]))] s.heap := hP
  have hl := lv_entry ([.ref a0, .int x1, .int x6, .int x10, .int x11]) (n := 6) (Nat.le_of_ble_eq_true rfl)
  rw [lg_entry_eq]
  generalize (lg_sl ([.ref a0, .int x1, .int x6, .int x10, .int x11]) ++ List.replicate (6 - (lg_sl ([.ref a0, .int x1, .int x6, .int x10, .int x11])).length) Slot.unset).toArray = ls at hl ⊢
  have hl : lv_has ls 6 [(0, .ref a0), (1, .int x1), (2, .int x6), (3, .int x10), (4, .int x11)] := hl
  have htab := vx_table (x := yL_binary) B (hts _ List.mem_cons_self)
  refine lv_aload_n hx hb dL_binary_0 rfl (lv_at hl 0 rfl) ?_
  refine lv_iload_n hx hb dL_binary_1 rfl (lv_at hl 1 rfl) ?_
  refine lv_iload_n hx hb dL_binary_2 rfl (lv_at hl 2 rfl) ?_
  refine lv_iload_n hx hb dL_binary_3 rfl (lv_at hl 3 rfl) ?_
  refine lv_iload hx hb dL_binary_4 (lv_at hl 4 rfl) ?_
  obtain ⟨hPc, hDc, hFc⟩ := xcut (wc := []) hP hD hS hA [] rfl rfl (by decide)
  refine xx_thr (vx_runV (C := "ValueBench") (As := [.int x1, .int x6, .int x10, .int x11]) (rest := []) ⟨hx, hb, hml, hown, htx⟩ (cB_binary_15 l hl9 D cT aK aV s.heap.size a0 x1 x6 x10 x11 h2 h3 h4 h5 h7 h8 h9) ⟨callB_of 4 htx (xw_goodC kw_3_102) rfl rfl rfl (htx _ kw_1_1) (htx _ kw_3_99) ⟨by decide, by decide, by decide +kernel⟩ ⟨Nat.le_of_ble_eq_true rfl, Nat.le_of_ble_eq_true rfl⟩, (htx _ kw_3_100), (htx _ kw_3_101)⟩ ⟨xPre_blind, va_recv hK hP (ci := 0) rfl (q0 := 0) rfl, (fun U hU hW => ⟨rfl, xPre_of hZ hS hFc hPc hDc hK U hU hW⟩)⟩ rfl rfl hl.1 rfl (lv_room (Nat.le_of_ble_eq_true rfl)) dL_binary_6 ⟨Nat.le_of_ble_eq_true rfl, Nat.le_of_ble_eq_true rfl⟩) hS hFc (fun q _ h => hFc q h) (fun E ce q9 u9 t H1 locs ht hvm _ hB hz1 hk1 hS hce hcv hcl => ?_)
  obtain ⟨rfl, hP1, hK1, hD1⟩ := hB
  rw [ht] at hP1
  obtain ⟨hP, hD⟩ := xjoin (W := [(a0, .inr (0, [v12, v13, v14, v15, v16, v17, v18, v19]))]) hP hD [] [0] 1 rfl rfl (by decide) (by decide) hk1 hFc hP1 hD1
  generalize H1 = H at hP hS hce ⊢
  refine vx_catch (own := "ValueBenchLaw") (name := "java/lang/IllegalArgumentException") (E := "java/lang/IllegalArgumentException") hown [] ⟨0, 9, 12, 19⟩ [⟨0, 9, 16, 33⟩, ⟨0, 9, 20, 13⟩] (by rw [htab]; rfl) (fun z hz => nomatch hz) (by decide) (by decide) (htx _ kw_1_211) ((hZ.2.2.2.2.2.1 _ (List.mem_of_getElem? (i := 1) rfl)).use rfl) hce hcv hcl ?_
  refine lv_astore (lv' := [(5, .ref q9), (0, .ref a0), (1, .int x1), (2, .int x6), (3, .int x10), (4, .int x11)]) hx hb dL_binary_12 hl (by decide) rfl (fun ls hl => ?_)
  refine lv_iconst (v := 1) hx hb dL_binary_14 (by decide) ?_
  obtain ⟨hP9, hD9⟩ := xsub (wc := [(a0, .inr (0, [v12, v13, v14, v15, v16, v17, v18, v19]))]) hP hD [0] rfl rfl (by decide)
  refine W.widen (k := 1) (n := 6) (Nat.le_of_ble_eq_true rfl) (Nat.le_of_ble_eq_true rfl) ?_
  exact W.iret (v := 1) hx hb hr (fun t ht hW => ⟨⟨1, (), rfl, rfl, by rw [ht]; exact hP9, va_K.moved hW.alike hK, hD9⟩, hS.F ht⟩) hS.2.2 dL_binary_15
set_option maxHeartbeats 400000000 in
set_option maxRecDepth 100000 in
theorem cB_binary_16 (l : Launch) (hl9 : l.stackTraces = false) (D : va_G) (cT : Nat → ClassId) (aK aV : Nat → Nat) (sz : Nat) (b0 : Nat) (x1 : Int32) (x6 : Int32) (x10 : Int32) (x14 : Int32) (h2 : ¬ x1 < 0) (h3 : ¬ 7 < x1) (h4 : x1 ≤ 7) (h5 : vp_in x1 8) (h7 : ¬ x6 < 0) (h8 : ¬ 4 < x6) (h9 : x6 ≤ 4) (h11 : ¬ x10 < 0) (h12 : 7 < x10) (h13 : ¬ x10 ≤ 7) : xMetX l yB_binary wyB_binary 7 1 6 120 D cT aK aV sz [.ref b0, .int x1, .int x6, .int x10, .int x14] [] "java/lang/IllegalArgumentException" (fun A t => xB D xcl cT A [] t) := by
  refine vx_ofW (cc := prog_1_method_6_code) (maxL := 5) (ret := none) (by decide) rfl ?_
  intro p e s m args below meth c s₁ B hml hne hv
  obtain ⟨rfl, hsz, hZ, hP, hK, hD0⟩ := hv
  have hx := B.exec
  have hb := B.bytes
  have hr := B.returns
  have hts := atoms_spec (ws := wyB_binary) B.pre
  have htx := fun w h => hts w (List.mem_cons_of_mem _ h)
  have hown : s.vm.findClass "ValueBench" = some m.cls := findClass_of_methodNamed B.named
  have hlocks := B.notSynchronized
  subst hsz
  have hD := hD0.self (sz := s.heap.size)
  generalize hAe : va_A [] s.heap.size = A at hD hZ ⊢
  have hA : ∀ q : Nat, s.heap.size ≤ q → A q := fun q h => by rw [← hAe]; exact Or.inr h
  have hS : va_S A s.heap s.heap [] := va_S.rf
  have hP : va_P D xcl [] s.heap := hP
  have hl := lv_entry ([.ref b0, .int x1, .int x6, .int x10, .int x14]) (n := 5) (Nat.le_of_ble_eq_true rfl)
  rw [lg_entry_eq]
  generalize (lg_sl ([.ref b0, .int x1, .int x6, .int x10, .int x14]) ++ List.replicate (5 - (lg_sl ([.ref b0, .int x1, .int x6, .int x10, .int x14])).length) Slot.unset).toArray = ls at hl ⊢
  have hl : lv_has ls 5 [(0, .ref b0), (1, .int x1), (2, .int x6), (3, .int x10), (4, .int x14)] := hl
  refine lv_iload_n hx hb dB_binary_0 rfl (lv_at hl 1 rfl) ?_
  obtain ⟨hPc, hDc, hFc⟩ := xcut (wc := []) hP hD hS hA [] rfl rfl (by decide)
  refine va_calli (va_runS (As := [.int x1]) (rest := []) ⟨hx, hb, hml, hown, htx⟩ (cB_isRegister_0 l hl9 D cT aK aV s.heap.size x1 h2 h3 h4 h5) ⟨callB_of 1 htx (xw_goodC kw_2_18) rfl rfl rfl (htx _ kw_1_1) (htx _ kw_2_16) ⟨by decide, by decide, by decide +kernel⟩ ⟨Nat.le_of_ble_eq_true rfl, Nat.le_of_ble_eq_true rfl⟩, htx _ kw_2_17⟩ ⟨xPre_blind, (fun U hU hW => ⟨rfl, xPre_of hZ hS hFc hPc hDc hK U hU hW⟩)⟩ rfl rfl hl.1 rfl (lv_room (Nat.le_of_ble_eq_true rfl)) dB_binary_1 ⟨Nat.le_of_ble_eq_true rfl, Nat.le_of_ble_eq_true rfl⟩) hS (fun q _ h => hFc q h) hFc (fun r1 u9 t H1 locs ht hvm hr9 hB hz1 hk1 hS => ?_)
  obtain ⟨hP1, hK1, hD1⟩ := hB
  rw [ht] at hP1
  obtain ⟨hP, hD⟩ := xjoin (W := []) hP hD [] [] 0 rfl rfl (by decide) (by decide) hk1 hFc hP1 hD1
  generalize H1 = H at hP hS ⊢
  rw [hr9]
  refine W.eq (g2 := F0 m 4 ls [.int 1]) rfl ?_
  refine lv_if_eq (tgt := 34) hx hb dB_binary_4 (by decide) (fun h => ((by revert h; decide : False)).elim) (fun _ => ?_)
  refine lv_iload_n hx hb dB_binary_7 rfl (lv_at hl 2 rfl) ?_
  refine lv_iconst (v := 4) hx hb dB_binary_8 (by decide) ?_
  obtain ⟨hPc, hDc, hFc⟩ := xcut (wc := []) hP hD hS hA [] rfl rfl (by decide)
  refine va_calli (va_runS (As := [.int x6, .int 4]) (rest := []) ⟨hx, hb, hml, hown, htx⟩ (cB_isWithin_39 l hl9 D cT aK aV H.size x6 h7 h8 h9) ⟨callB_of 2 htx (xw_goodC kw_1_218) rfl rfl rfl (htx _ kw_1_1) (htx _ kw_1_216) ⟨by decide, by decide, by decide +kernel⟩ ⟨Nat.le_of_ble_eq_true rfl, Nat.le_of_ble_eq_true rfl⟩, htx _ kw_1_217⟩ ⟨xPre_blind, (fun U hU hW => ⟨rfl, xPre_of hZ hS hFc hPc hDc hK U hU hW⟩)⟩ rfl rfl hl.1 rfl (lv_room (Nat.le_of_ble_eq_true rfl)) dB_binary_9 ⟨Nat.le_of_ble_eq_true rfl, Nat.le_of_ble_eq_true rfl⟩) hS (fun q _ h => hFc q h) hFc (fun r2 u9 t H1 locs ht hvm hr9 hB hz1 hk1 hS => ?_)
  obtain ⟨hP1, hK1, hD1⟩ := hB
  rw [ht] at hP1
  obtain ⟨hP, hD⟩ := xjoin (W := []) hP hD [] [] 0 rfl rfl (by decide) (by decide) hk1 hFc hP1 hD1
  generalize H1 = H at hP hS ⊢
  rw [hr9]
  refine W.eq (g2 := F0 m 12 ls [.int 1]) rfl ?_
  refine lv_if_eq (tgt := 34) hx hb dB_binary_12 (by decide) (fun h => ((by revert h; decide : False)).elim) (fun _ => ?_)
  refine lv_iload_n hx hb dB_binary_15 rfl (lv_at hl 3 rfl) ?_
  obtain ⟨hPc, hDc, hFc⟩ := xcut (wc := []) hP hD hS hA [] rfl rfl (by decide)
  refine va_calli (va_runS (As := [.int x10]) (rest := []) ⟨hx, hb, hml, hown, htx⟩ (cB_isRegister_2 l hl9 D cT aK aV H.size x10 h11 h12 h13) ⟨callB_of 1 htx (xw_goodC kw_2_18) rfl rfl rfl (htx _ kw_1_1) (htx _ kw_2_16) ⟨by decide, by decide, by decide +kernel⟩ ⟨Nat.le_of_ble_eq_true rfl, Nat.le_of_ble_eq_true rfl⟩, htx _ kw_2_17⟩ ⟨xPre_blind, (fun U hU hW => ⟨rfl, xPre_of hZ hS hFc hPc hDc hK U hU hW⟩)⟩ rfl rfl hl.1 rfl (lv_room (Nat.le_of_ble_eq_true rfl)) dB_binary_16 ⟨Nat.le_of_ble_eq_true rfl, Nat.le_of_ble_eq_true rfl⟩) hS (fun q _ h => hFc q h) hFc (fun r3 u9 t H1 locs ht hvm hr9 hB hz1 hk1 hS => ?_)
  obtain ⟨hP1, hK1, hD1⟩ := hB
  rw [ht] at hP1
  obtain ⟨hP, hD⟩ := xjoin (W := []) hP hD [] [] 0 rfl rfl (by decide) (by decide) hk1 hFc hP1 hD1
  generalize H1 = H at hP hS ⊢
  rw [hr9]
  refine W.eq (g2 := F0 m 19 ls [.int 0]) rfl ?_
  refine lv_if_eq (tgt := 34) hx hb dB_binary_19 (by decide) (fun _ => ?_) (fun h => ((by revert h; decide : False)).elim)
  refine lv_iconst (v := 0) hx hb dB_binary_34 (by decide) ?_
  obtain ⟨hPc, hDc, hFc⟩ := xcut (wc := []) hP hD hS hA [] rfl rfl (by decide)
  refine xx_thr (vx_runS (As := [.int 0]) (rest := []) ⟨hx, hb, hml, hown, htx⟩ (cB_demand_1 l hl9 D cT aK aV H.size) ⟨callB_of 1 htx (xw_goodC kw_1_221) rfl rfl rfl (htx _ kw_1_1) (htx _ kw_1_219) ⟨by decide, by decide, by decide +kernel⟩ ⟨Nat.le_of_ble_eq_true rfl, Nat.le_of_ble_eq_true rfl⟩, htx _ kw_1_220⟩ ⟨xPre_blind, (fun U hU hW => ⟨rfl, xPre_of hZ hS hFc hPc hDc hK U hU hW⟩)⟩ rfl rfl hl.1 rfl (lv_room (Nat.le_of_ble_eq_true rfl)) dB_binary_35 ⟨Nat.le_of_ble_eq_true rfl, Nat.le_of_ble_eq_true rfl⟩) hS hFc (fun q _ h => hFc q h) (fun E ce q9 u9 t H1 locs ht hvm _ hB hz1 hk1 hS hce hcv hcl => ?_)
  obtain ⟨rfl, hP1, hK1, hD1⟩ := hB
  rw [ht] at hP1
  obtain ⟨hP, hD⟩ := xjoin (W := []) hP hD [] [] 0 rfl rfl (by decide) (by decide) hk1 hFc hP1 hD1
  generalize H1 = H at hP hS hce ⊢
  obtain ⟨hP9, hD9⟩ := xsub (wc := []) hP hD [] rfl rfl (by decide)
  exact vx_out (E := "java/lang/IllegalArgumentException") (fun x h => (hne x h).elim) hlocks hce hcv hcl (fun t ht ha => ⟨(), trivial, ⟨rfl, by rw [ht]; exact hP9, va_K.moved ha hK, hD9⟩, hS.F ht⟩) hS.2.2 (Nat.le_of_ble_eq_true rfl) (Nat.le_of_ble_eq_true rfl)
set_option maxHeartbeats 400000000 in
set_option maxRecDepth 100000 in
theorem cL_binary_16 (l : Launch) (hl9 : l.stackTraces = false) (D : va_G) (cT : Nat → ClassId) (aK aV : Nat → Nat) (sz : Nat) (a0 : Nat) (x1 : Int32) (x6 : Int32) (x10 : Int32) (x14 : Int32) (v15 : Value) (v16 : Value) (v17 : Value) (v18 : Value) (v19 : Value) (v20 : Value) (v21 : Value) (v22 : Value) (h2 : ¬ x1 < 0) (h3 : ¬ 7 < x1) (h4 : x1 ≤ 7) (h5 : vp_in x1 8) (h7 : ¬ x6 < 0) (h8 : ¬ 4 < x6) (h9 : x6 ≤ 4) (h11 : ¬ x10 < 0) (h12 : 7 < x10) (h13 : ¬ x10 ≤ 7) : xMet l yL_binary wyL_binary 8 1 6 144 D cT aK aV sz [.ref a0, .int x1, .int x6, .int x10, .int x14] [(a0, .inr (0, [v15, v16, v17, v18, v19, v20, v21, v22]))] (fun A => va_Qi (fun (r : Int32) (_ : Unit) => r = 1) (fun _ t => xB D xcl cT A [(a0, .inr (0, [v15, v16, v17, v18, v19, v20, v21, v22]))] t) A) := by
  refine va_MetW (cc := method_7_code) (maxL := 6) (ret := (some .int)) (hh := [(0, 9, 12, 19), (0, 9, 16, 33), (0, 9, 20, 13)]) (by decide) rfl ?_
  intro p e s m args below meth c s₁ B hml hv
  obtain ⟨rfl, hsz, hZ, hP, hK, hD0⟩ := hv
  have hx := B.exec
  have hb := B.bytes
  have hr := B.returns
  have hts := atoms_spec (ws := wyL_binary) B.pre
  have htx := fun w h => hts w (List.mem_cons_of_mem _ h)
  have hown : s.vm.findClass "ValueBenchLaw" = some m.cls := findClass_of_methodNamed B.named
  have hlocks := B.notSynchronized
  subst hsz
  have hD := hD0.self (sz := s.heap.size)
  generalize hAe : va_A [(a0, .inr (0, [v15, v16, v17, v18, v19, v20, v21, v22]))] s.heap.size = A at hD hZ ⊢
  have hA : ∀ q : Nat, s.heap.size ≤ q → A q := fun q h => by rw [← hAe]; exact Or.inr h
  have hS : va_S A s.heap s.heap [] := va_S.rf
  have hP : va_P D xcl [(a0, .inr (0, [v15, v16, v17, v18, v19, v20, v21, v22]))] s.heap := hP
  have hl := lv_entry ([.ref a0, .int x1, .int x6, .int x10, .int x14]) (n := 6) (Nat.le_of_ble_eq_true rfl)
  rw [lg_entry_eq]
  generalize (lg_sl ([.ref a0, .int x1, .int x6, .int x10, .int x14]) ++ List.replicate (6 - (lg_sl ([.ref a0, .int x1, .int x6, .int x10, .int x14])).length) Slot.unset).toArray = ls at hl ⊢
  have hl : lv_has ls 6 [(0, .ref a0), (1, .int x1), (2, .int x6), (3, .int x10), (4, .int x14)] := hl
  have htab := vx_table (x := yL_binary) B (hts _ List.mem_cons_self)
  refine lv_aload_n hx hb dL_binary_0 rfl (lv_at hl 0 rfl) ?_
  refine lv_iload_n hx hb dL_binary_1 rfl (lv_at hl 1 rfl) ?_
  refine lv_iload_n hx hb dL_binary_2 rfl (lv_at hl 2 rfl) ?_
  refine lv_iload_n hx hb dL_binary_3 rfl (lv_at hl 3 rfl) ?_
  refine lv_iload hx hb dL_binary_4 (lv_at hl 4 rfl) ?_
  obtain ⟨hPc, hDc, hFc⟩ := xcut (wc := []) hP hD hS hA [] rfl rfl (by decide)
  refine xx_thr (vx_runV (C := "ValueBench") (As := [.int x1, .int x6, .int x10, .int x14]) (rest := []) ⟨hx, hb, hml, hown, htx⟩ (cB_binary_16 l hl9 D cT aK aV s.heap.size a0 x1 x6 x10 x14 h2 h3 h4 h5 h7 h8 h9 h11 h12 h13) ⟨callB_of 4 htx (xw_goodC kw_3_102) rfl rfl rfl (htx _ kw_1_1) (htx _ kw_3_99) ⟨by decide, by decide, by decide +kernel⟩ ⟨Nat.le_of_ble_eq_true rfl, Nat.le_of_ble_eq_true rfl⟩, (htx _ kw_3_100), (htx _ kw_3_101)⟩ ⟨xPre_blind, va_recv hK hP (ci := 0) rfl (q0 := 0) rfl, (fun U hU hW => ⟨rfl, xPre_of hZ hS hFc hPc hDc hK U hU hW⟩)⟩ rfl rfl hl.1 rfl (lv_room (Nat.le_of_ble_eq_true rfl)) dL_binary_6 ⟨Nat.le_of_ble_eq_true rfl, Nat.le_of_ble_eq_true rfl⟩) hS hFc (fun q _ h => hFc q h) (fun E ce q9 u9 t H1 locs ht hvm _ hB hz1 hk1 hS hce hcv hcl => ?_)
  obtain ⟨rfl, hP1, hK1, hD1⟩ := hB
  rw [ht] at hP1
  obtain ⟨hP, hD⟩ := xjoin (W := [(a0, .inr (0, [v15, v16, v17, v18, v19, v20, v21, v22]))]) hP hD [] [0] 1 rfl rfl (by decide) (by decide) hk1 hFc hP1 hD1
  generalize H1 = H at hP hS hce ⊢
  refine vx_catch (own := "ValueBenchLaw") (name := "java/lang/IllegalArgumentException") (E := "java/lang/IllegalArgumentException") hown [] ⟨0, 9, 12, 19⟩ [⟨0, 9, 16, 33⟩, ⟨0, 9, 20, 13⟩] (by rw [htab]; rfl) (fun z hz => nomatch hz) (by decide) (by decide) (htx _ kw_1_211) ((hZ.2.2.2.2.2.1 _ (List.mem_of_getElem? (i := 1) rfl)).use rfl) hce hcv hcl ?_
  refine lv_astore (lv' := [(5, .ref q9), (0, .ref a0), (1, .int x1), (2, .int x6), (3, .int x10), (4, .int x14)]) hx hb dL_binary_12 hl (by decide) rfl (fun ls hl => ?_)
  refine lv_iconst (v := 1) hx hb dL_binary_14 (by decide) ?_
  obtain ⟨hP9, hD9⟩ := xsub (wc := [(a0, .inr (0, [v15, v16, v17, v18, v19, v20, v21, v22]))]) hP hD [0] rfl rfl (by decide)
  refine W.widen (k := 1) (n := 6) (Nat.le_of_ble_eq_true rfl) (Nat.le_of_ble_eq_true rfl) ?_
  exact W.iret (v := 1) hx hb hr (fun t ht hW => ⟨⟨1, (), rfl, rfl, by rw [ht]; exact hP9, va_K.moved hW.alike hK, hD9⟩, hS.F ht⟩) hS.2.2 dL_binary_15
set_option maxHeartbeats 400000000 in
set_option maxRecDepth 100000 in
theorem cB_binary_17 (l : Launch) (hl9 : l.stackTraces = false) (D : va_G) (cT : Nat → ClassId) (aK aV : Nat → Nat) (sz : Nat) (b0 : Nat) (x1 : Int32) (x6 : Int32) (x10 : Int32) (x15 : Int32) (h2 : ¬ x1 < 0) (h3 : ¬ 7 < x1) (h4 : x1 ≤ 7) (h5 : vp_in x1 8) (h7 : ¬ x6 < 0) (h8 : ¬ 4 < x6) (h9 : x6 ≤ 4) (h11 : ¬ x10 < 0) (h12 : ¬ 7 < x10) (h13 : x10 ≤ 7) (h14 : vp_in x10 8) (h16 : ¬ x15 < 0) (h17 : 7 < x15) (h18 : ¬ x15 ≤ 7) : xMetX l yB_binary wyB_binary 7 1 6 120 D cT aK aV sz [.ref b0, .int x1, .int x6, .int x10, .int x15] [] "java/lang/IllegalArgumentException" (fun A t => xB D xcl cT A [] t) := by
  refine vx_ofW (cc := prog_1_method_6_code) (maxL := 5) (ret := none) (by decide) rfl ?_
  intro p e s m args below meth c s₁ B hml hne hv
  obtain ⟨rfl, hsz, hZ, hP, hK, hD0⟩ := hv
  have hx := B.exec
  have hb := B.bytes
  have hr := B.returns
  have hts := atoms_spec (ws := wyB_binary) B.pre
  have htx := fun w h => hts w (List.mem_cons_of_mem _ h)
  have hown : s.vm.findClass "ValueBench" = some m.cls := findClass_of_methodNamed B.named
  have hlocks := B.notSynchronized
  subst hsz
  have hD := hD0.self (sz := s.heap.size)
  generalize hAe : va_A [] s.heap.size = A at hD hZ ⊢
  have hA : ∀ q : Nat, s.heap.size ≤ q → A q := fun q h => by rw [← hAe]; exact Or.inr h
  have hS : va_S A s.heap s.heap [] := va_S.rf
  have hP : va_P D xcl [] s.heap := hP
  have hl := lv_entry ([.ref b0, .int x1, .int x6, .int x10, .int x15]) (n := 5) (Nat.le_of_ble_eq_true rfl)
  rw [lg_entry_eq]
  generalize (lg_sl ([.ref b0, .int x1, .int x6, .int x10, .int x15]) ++ List.replicate (5 - (lg_sl ([.ref b0, .int x1, .int x6, .int x10, .int x15])).length) Slot.unset).toArray = ls at hl ⊢
  have hl : lv_has ls 5 [(0, .ref b0), (1, .int x1), (2, .int x6), (3, .int x10), (4, .int x15)] := hl
  refine lv_iload_n hx hb dB_binary_0 rfl (lv_at hl 1 rfl) ?_
  obtain ⟨hPc, hDc, hFc⟩ := xcut (wc := []) hP hD hS hA [] rfl rfl (by decide)
  refine va_calli (va_runS (As := [.int x1]) (rest := []) ⟨hx, hb, hml, hown, htx⟩ (cB_isRegister_0 l hl9 D cT aK aV s.heap.size x1 h2 h3 h4 h5) ⟨callB_of 1 htx (xw_goodC kw_2_18) rfl rfl rfl (htx _ kw_1_1) (htx _ kw_2_16) ⟨by decide, by decide, by decide +kernel⟩ ⟨Nat.le_of_ble_eq_true rfl, Nat.le_of_ble_eq_true rfl⟩, htx _ kw_2_17⟩ ⟨xPre_blind, (fun U hU hW => ⟨rfl, xPre_of hZ hS hFc hPc hDc hK U hU hW⟩)⟩ rfl rfl hl.1 rfl (lv_room (Nat.le_of_ble_eq_true rfl)) dB_binary_1 ⟨Nat.le_of_ble_eq_true rfl, Nat.le_of_ble_eq_true rfl⟩) hS (fun q _ h => hFc q h) hFc (fun r1 u9 t H1 locs ht hvm hr9 hB hz1 hk1 hS => ?_)
  obtain ⟨hP1, hK1, hD1⟩ := hB
  rw [ht] at hP1
  obtain ⟨hP, hD⟩ := xjoin (W := []) hP hD [] [] 0 rfl rfl (by decide) (by decide) hk1 hFc hP1 hD1
  generalize H1 = H at hP hS ⊢
  rw [hr9]
  refine W.eq (g2 := F0 m 4 ls [.int 1]) rfl ?_
  refine lv_if_eq (tgt := 34) hx hb dB_binary_4 (by decide) (fun h => ((by revert h; decide : False)).elim) (fun _ => ?_)
  refine lv_iload_n hx hb dB_binary_7 rfl (lv_at hl 2 rfl) ?_
  refine lv_iconst (v := 4) hx hb dB_binary_8 (by decide) ?_
  obtain ⟨hPc, hDc, hFc⟩ := xcut (wc := []) hP hD hS hA [] rfl rfl (by decide)
  refine va_calli (va_runS (As := [.int x6, .int 4]) (rest := []) ⟨hx, hb, hml, hown, htx⟩ (cB_isWithin_39 l hl9 D cT aK aV H.size x6 h7 h8 h9) ⟨callB_of 2 htx (xw_goodC kw_1_218) rfl rfl rfl (htx _ kw_1_1) (htx _ kw_1_216) ⟨by decide, by decide, by decide +kernel⟩ ⟨Nat.le_of_ble_eq_true rfl, Nat.le_of_ble_eq_true rfl⟩, htx _ kw_1_217⟩ ⟨xPre_blind, (fun U hU hW => ⟨rfl, xPre_of hZ hS hFc hPc hDc hK U hU hW⟩)⟩ rfl rfl hl.1 rfl (lv_room (Nat.le_of_ble_eq_true rfl)) dB_binary_9 ⟨Nat.le_of_ble_eq_true rfl, Nat.le_of_ble_eq_true rfl⟩) hS (fun q _ h => hFc q h) hFc (fun r2 u9 t H1 locs ht hvm hr9 hB hz1 hk1 hS => ?_)
  obtain ⟨hP1, hK1, hD1⟩ := hB
  rw [ht] at hP1
  obtain ⟨hP, hD⟩ := xjoin (W := []) hP hD [] [] 0 rfl rfl (by decide) (by decide) hk1 hFc hP1 hD1
  generalize H1 = H at hP hS ⊢
  rw [hr9]
  refine W.eq (g2 := F0 m 12 ls [.int 1]) rfl ?_
  refine lv_if_eq (tgt := 34) hx hb dB_binary_12 (by decide) (fun h => ((by revert h; decide : False)).elim) (fun _ => ?_)
  refine lv_iload_n hx hb dB_binary_15 rfl (lv_at hl 3 rfl) ?_
  obtain ⟨hPc, hDc, hFc⟩ := xcut (wc := []) hP hD hS hA [] rfl rfl (by decide)
  refine va_calli (va_runS (As := [.int x10]) (rest := []) ⟨hx, hb, hml, hown, htx⟩ (cB_isRegister_0 l hl9 D cT aK aV H.size x10 h11 h12 h13 h14) ⟨callB_of 1 htx (xw_goodC kw_2_18) rfl rfl rfl (htx _ kw_1_1) (htx _ kw_2_16) ⟨by decide, by decide, by decide +kernel⟩ ⟨Nat.le_of_ble_eq_true rfl, Nat.le_of_ble_eq_true rfl⟩, htx _ kw_2_17⟩ ⟨xPre_blind, (fun U hU hW => ⟨rfl, xPre_of hZ hS hFc hPc hDc hK U hU hW⟩)⟩ rfl rfl hl.1 rfl (lv_room (Nat.le_of_ble_eq_true rfl)) dB_binary_16 ⟨Nat.le_of_ble_eq_true rfl, Nat.le_of_ble_eq_true rfl⟩) hS (fun q _ h => hFc q h) hFc (fun r3 u9 t H1 locs ht hvm hr9 hB hz1 hk1 hS => ?_)
  obtain ⟨hP1, hK1, hD1⟩ := hB
  rw [ht] at hP1
  obtain ⟨hP, hD⟩ := xjoin (W := []) hP hD [] [] 0 rfl rfl (by decide) (by decide) hk1 hFc hP1 hD1
  generalize H1 = H at hP hS ⊢
  rw [hr9]
  refine W.eq (g2 := F0 m 19 ls [.int 1]) rfl ?_
  refine lv_if_eq (tgt := 34) hx hb dB_binary_19 (by decide) (fun h => ((by revert h; decide : False)).elim) (fun _ => ?_)
  refine lv_iload hx hb dB_binary_22 (lv_at hl 4 rfl) ?_
  obtain ⟨hPc, hDc, hFc⟩ := xcut (wc := []) hP hD hS hA [] rfl rfl (by decide)
  refine va_calli (va_runS (As := [.int x15]) (rest := []) ⟨hx, hb, hml, hown, htx⟩ (cB_isRegister_2 l hl9 D cT aK aV H.size x15 h16 h17 h18) ⟨callB_of 1 htx (xw_goodC kw_2_18) rfl rfl rfl (htx _ kw_1_1) (htx _ kw_2_16) ⟨by decide, by decide, by decide +kernel⟩ ⟨Nat.le_of_ble_eq_true rfl, Nat.le_of_ble_eq_true rfl⟩, htx _ kw_2_17⟩ ⟨xPre_blind, (fun U hU hW => ⟨rfl, xPre_of hZ hS hFc hPc hDc hK U hU hW⟩)⟩ rfl rfl hl.1 rfl (lv_room (Nat.le_of_ble_eq_true rfl)) dB_binary_24 ⟨Nat.le_of_ble_eq_true rfl, Nat.le_of_ble_eq_true rfl⟩) hS (fun q _ h => hFc q h) hFc (fun r4 u9 t H1 locs ht hvm hr9 hB hz1 hk1 hS => ?_)
  obtain ⟨hP1, hK1, hD1⟩ := hB
  rw [ht] at hP1
  obtain ⟨hP, hD⟩ := xjoin (W := []) hP hD [] [] 0 rfl rfl (by decide) (by decide) hk1 hFc hP1 hD1
  generalize H1 = H at hP hS ⊢
  rw [hr9]
  refine W.eq (g2 := F0 m 27 ls [.int 0]) rfl ?_
  refine lv_if_eq (tgt := 34) hx hb dB_binary_27 (by decide) (fun _ => ?_) (fun h => ((by revert h; decide : False)).elim)
  refine lv_iconst (v := 0) hx hb dB_binary_34 (by decide) ?_
  obtain ⟨hPc, hDc, hFc⟩ := xcut (wc := []) hP hD hS hA [] rfl rfl (by decide)
  refine xx_thr (vx_runS (As := [.int 0]) (rest := []) ⟨hx, hb, hml, hown, htx⟩ (cB_demand_1 l hl9 D cT aK aV H.size) ⟨callB_of 1 htx (xw_goodC kw_1_221) rfl rfl rfl (htx _ kw_1_1) (htx _ kw_1_219) ⟨by decide, by decide, by decide +kernel⟩ ⟨Nat.le_of_ble_eq_true rfl, Nat.le_of_ble_eq_true rfl⟩, htx _ kw_1_220⟩ ⟨xPre_blind, (fun U hU hW => ⟨rfl, xPre_of hZ hS hFc hPc hDc hK U hU hW⟩)⟩ rfl rfl hl.1 rfl (lv_room (Nat.le_of_ble_eq_true rfl)) dB_binary_35 ⟨Nat.le_of_ble_eq_true rfl, Nat.le_of_ble_eq_true rfl⟩) hS hFc (fun q _ h => hFc q h) (fun E ce q9 u9 t H1 locs ht hvm _ hB hz1 hk1 hS hce hcv hcl => ?_)
  obtain ⟨rfl, hP1, hK1, hD1⟩ := hB
  rw [ht] at hP1
  obtain ⟨hP, hD⟩ := xjoin (W := []) hP hD [] [] 0 rfl rfl (by decide) (by decide) hk1 hFc hP1 hD1
  generalize H1 = H at hP hS hce ⊢
  obtain ⟨hP9, hD9⟩ := xsub (wc := []) hP hD [] rfl rfl (by decide)
  exact vx_out (E := "java/lang/IllegalArgumentException") (fun x h => (hne x h).elim) hlocks hce hcv hcl (fun t ht ha => ⟨(), trivial, ⟨rfl, by rw [ht]; exact hP9, va_K.moved ha hK, hD9⟩, hS.F ht⟩) hS.2.2 (Nat.le_of_ble_eq_true rfl) (Nat.le_of_ble_eq_true rfl)
set_option maxHeartbeats 400000000 in
set_option maxRecDepth 100000 in
theorem cL_binary_17 (l : Launch) (hl9 : l.stackTraces = false) (D : va_G) (cT : Nat → ClassId) (aK aV : Nat → Nat) (sz : Nat) (a0 : Nat) (x1 : Int32) (x6 : Int32) (x10 : Int32) (x15 : Int32) (v19 : Value) (v20 : Value) (v21 : Value) (v22 : Value) (v23 : Value) (v24 : Value) (v25 : Value) (v26 : Value) (h2 : ¬ x1 < 0) (h3 : ¬ 7 < x1) (h4 : x1 ≤ 7) (h5 : vp_in x1 8) (h7 : ¬ x6 < 0) (h8 : ¬ 4 < x6) (h9 : x6 ≤ 4) (h11 : ¬ x10 < 0) (h12 : ¬ 7 < x10) (h13 : x10 ≤ 7) (h14 : vp_in x10 8) (h16 : ¬ x15 < 0) (h17 : 7 < x15) (h18 : ¬ x15 ≤ 7) : xMet l yL_binary wyL_binary 8 1 6 144 D cT aK aV sz [.ref a0, .int x1, .int x6, .int x10, .int x15] [(a0, .inr (0, [v19, v20, v21, v22, v23, v24, v25, v26]))] (fun A => va_Qi (fun (r : Int32) (_ : Unit) => r = 1) (fun _ t => xB D xcl cT A [(a0, .inr (0, [v19, v20, v21, v22, v23, v24, v25, v26]))] t) A) := by
  refine va_MetW (cc := method_7_code) (maxL := 6) (ret := (some .int)) (hh := [(0, 9, 12, 19), (0, 9, 16, 33), (0, 9, 20, 13)]) (by decide) rfl ?_
  intro p e s m args below meth c s₁ B hml hv
  obtain ⟨rfl, hsz, hZ, hP, hK, hD0⟩ := hv
  have hx := B.exec
  have hb := B.bytes
  have hr := B.returns
  have hts := atoms_spec (ws := wyL_binary) B.pre
  have htx := fun w h => hts w (List.mem_cons_of_mem _ h)
  have hown : s.vm.findClass "ValueBenchLaw" = some m.cls := findClass_of_methodNamed B.named
  have hlocks := B.notSynchronized
  subst hsz
  have hD := hD0.self (sz := s.heap.size)
  generalize hAe : va_A [(a0, .inr (0, [v19, v20, v21, v22, v23, v24, v25, v26]))] s.heap.size = A at hD hZ ⊢
  have hA : ∀ q : Nat, s.heap.size ≤ q → A q := fun q h => by rw [← hAe]; exact Or.inr h
  have hS : va_S A s.heap s.heap [] := va_S.rf
  have hP : va_P D xcl [(a0, .inr (0, [v19, v20, v21, v22, v23, v24, v25, v26]))] s.heap := hP
  have hl := lv_entry ([.ref a0, .int x1, .int x6, .int x10, .int x15]) (n := 6) (Nat.le_of_ble_eq_true rfl)
  rw [lg_entry_eq]
  generalize (lg_sl ([.ref a0, .int x1, .int x6, .int x10, .int x15]) ++ List.replicate (6 - (lg_sl ([.ref a0, .int x1, .int x6, .int x10, .int x15])).length) Slot.unset).toArray = ls at hl ⊢
  have hl : lv_has ls 6 [(0, .ref a0), (1, .int x1), (2, .int x6), (3, .int x10), (4, .int x15)] := hl
  have htab := vx_table (x := yL_binary) B (hts _ List.mem_cons_self)
  refine lv_aload_n hx hb dL_binary_0 rfl (lv_at hl 0 rfl) ?_
  refine lv_iload_n hx hb dL_binary_1 rfl (lv_at hl 1 rfl) ?_
  refine lv_iload_n hx hb dL_binary_2 rfl (lv_at hl 2 rfl) ?_
  refine lv_iload_n hx hb dL_binary_3 rfl (lv_at hl 3 rfl) ?_
  refine lv_iload hx hb dL_binary_4 (lv_at hl 4 rfl) ?_
  obtain ⟨hPc, hDc, hFc⟩ := xcut (wc := []) hP hD hS hA [] rfl rfl (by decide)
  refine xx_thr (vx_runV (C := "ValueBench") (As := [.int x1, .int x6, .int x10, .int x15]) (rest := []) ⟨hx, hb, hml, hown, htx⟩ (cB_binary_17 l hl9 D cT aK aV s.heap.size a0 x1 x6 x10 x15 h2 h3 h4 h5 h7 h8 h9 h11 h12 h13 h14 h16 h17 h18) ⟨callB_of 4 htx (xw_goodC kw_3_102) rfl rfl rfl (htx _ kw_1_1) (htx _ kw_3_99) ⟨by decide, by decide, by decide +kernel⟩ ⟨Nat.le_of_ble_eq_true rfl, Nat.le_of_ble_eq_true rfl⟩, (htx _ kw_3_100), (htx _ kw_3_101)⟩ ⟨xPre_blind, va_recv hK hP (ci := 0) rfl (q0 := 0) rfl, (fun U hU hW => ⟨rfl, xPre_of hZ hS hFc hPc hDc hK U hU hW⟩)⟩ rfl rfl hl.1 rfl (lv_room (Nat.le_of_ble_eq_true rfl)) dL_binary_6 ⟨Nat.le_of_ble_eq_true rfl, Nat.le_of_ble_eq_true rfl⟩) hS hFc (fun q _ h => hFc q h) (fun E ce q9 u9 t H1 locs ht hvm _ hB hz1 hk1 hS hce hcv hcl => ?_)
  obtain ⟨rfl, hP1, hK1, hD1⟩ := hB
  rw [ht] at hP1
  obtain ⟨hP, hD⟩ := xjoin (W := [(a0, .inr (0, [v19, v20, v21, v22, v23, v24, v25, v26]))]) hP hD [] [0] 1 rfl rfl (by decide) (by decide) hk1 hFc hP1 hD1
  generalize H1 = H at hP hS hce ⊢
  refine vx_catch (own := "ValueBenchLaw") (name := "java/lang/IllegalArgumentException") (E := "java/lang/IllegalArgumentException") hown [] ⟨0, 9, 12, 19⟩ [⟨0, 9, 16, 33⟩, ⟨0, 9, 20, 13⟩] (by rw [htab]; rfl) (fun z hz => nomatch hz) (by decide) (by decide) (htx _ kw_1_211) ((hZ.2.2.2.2.2.1 _ (List.mem_of_getElem? (i := 1) rfl)).use rfl) hce hcv hcl ?_
  refine lv_astore (lv' := [(5, .ref q9), (0, .ref a0), (1, .int x1), (2, .int x6), (3, .int x10), (4, .int x15)]) hx hb dL_binary_12 hl (by decide) rfl (fun ls hl => ?_)
  refine lv_iconst (v := 1) hx hb dL_binary_14 (by decide) ?_
  obtain ⟨hP9, hD9⟩ := xsub (wc := [(a0, .inr (0, [v19, v20, v21, v22, v23, v24, v25, v26]))]) hP hD [0] rfl rfl (by decide)
  refine W.widen (k := 1) (n := 6) (Nat.le_of_ble_eq_true rfl) (Nat.le_of_ble_eq_true rfl) ?_
  exact W.iret (v := 1) hx hb hr (fun t ht hW => ⟨⟨1, (), rfl, rfl, by rw [ht]; exact hP9, va_K.moved hW.alike hK, hD9⟩, hS.F ht⟩) hS.2.2 dL_binary_15
set_option maxHeartbeats 400000000 in
set_option maxRecDepth 100000 in
theorem cB_two_24 (l : Launch) (hl9 : l.stackTraces = false) (D : va_G) (cT : Nat → ClassId) (aK aV : Nat → Nat) (sz : Nat) (b0 : Nat) (x1 : Int32) (x5 : Int32) (x6 : Int32) (x7 : Int32) (h2 : ¬ x1 < 0) (h3 : 7 < x1) (h4 : ¬ x1 ≤ 7) : xMetX l yB_two wyB_two 7 1 6 120 D cT aK aV sz [.ref b0, .int x1, .int x5, .int x6, .int x7] [] "java/lang/IllegalArgumentException" (fun A t => xB D xcl cT A [] t) := by
  refine vx_ofW (cc := prog_1_method_10_code) (maxL := 5) (ret := none) (by decide) rfl ?_
  intro p e s m args below meth c s₁ B hml hne hv
  obtain ⟨rfl, hsz, hZ, hP, hK, hD0⟩ := hv
  have hx := B.exec
  have hb := B.bytes
  have hr := B.returns
  have hts := atoms_spec (ws := wyB_two) B.pre
  have htx := fun w h => hts w (List.mem_cons_of_mem _ h)
  have hown : s.vm.findClass "ValueBench" = some m.cls := findClass_of_methodNamed B.named
  have hlocks := B.notSynchronized
  subst hsz
  have hD := hD0.self (sz := s.heap.size)
  generalize hAe : va_A [] s.heap.size = A at hD hZ ⊢
  have hA : ∀ q : Nat, s.heap.size ≤ q → A q := fun q h => by rw [← hAe]; exact Or.inr h
  have hS : va_S A s.heap s.heap [] := va_S.rf
  have hP : va_P D xcl [] s.heap := hP
  have hl := lv_entry ([.ref b0, .int x1, .int x5, .int x6, .int x7]) (n := 5) (Nat.le_of_ble_eq_true rfl)
  rw [lg_entry_eq]
  generalize (lg_sl ([.ref b0, .int x1, .int x5, .int x6, .int x7]) ++ List.replicate (5 - (lg_sl ([.ref b0, .int x1, .int x5, .int x6, .int x7])).length) Slot.unset).toArray = ls at hl ⊢
  have hl : lv_has ls 5 [(0, .ref b0), (1, .int x1), (2, .int x5), (3, .int x6), (4, .int x7)] := hl
  refine lv_iload_n hx hb dB_two_0 rfl (lv_at hl 1 rfl) ?_
  obtain ⟨hPc, hDc, hFc⟩ := xcut (wc := []) hP hD hS hA [] rfl rfl (by decide)
  refine va_calli (va_runS (As := [.int x1]) (rest := []) ⟨hx, hb, hml, hown, htx⟩ (cB_isRegister_2 l hl9 D cT aK aV s.heap.size x1 h2 h3 h4) ⟨callB_of 1 htx (xw_goodC kw_2_18) rfl rfl rfl (htx _ kw_1_1) (htx _ kw_2_16) ⟨by decide, by decide, by decide +kernel⟩ ⟨Nat.le_of_ble_eq_true rfl, Nat.le_of_ble_eq_true rfl⟩, htx _ kw_2_17⟩ ⟨xPre_blind, (fun U hU hW => ⟨rfl, xPre_of hZ hS hFc hPc hDc hK U hU hW⟩)⟩ rfl rfl hl.1 rfl (lv_room (Nat.le_of_ble_eq_true rfl)) dB_two_1 ⟨Nat.le_of_ble_eq_true rfl, Nat.le_of_ble_eq_true rfl⟩) hS (fun q _ h => hFc q h) hFc (fun r1 u9 t H1 locs ht hvm hr9 hB hz1 hk1 hS => ?_)
  obtain ⟨hP1, hK1, hD1⟩ := hB
  rw [ht] at hP1
  obtain ⟨hP, hD⟩ := xjoin (W := []) hP hD [] [] 0 rfl rfl (by decide) (by decide) hk1 hFc hP1 hD1
  generalize H1 = H at hP hS ⊢
  rw [hr9]
  refine W.eq (g2 := F0 m 4 ls [.int 0]) rfl ?_
  refine lv_if_eq (tgt := 35) hx hb dB_two_4 (by decide) (fun _ => ?_) (fun h => ((by revert h; decide : False)).elim)
  refine lv_iconst (v := 0) hx hb dB_two_35 (by decide) ?_
  obtain ⟨hPc, hDc, hFc⟩ := xcut (wc := []) hP hD hS hA [] rfl rfl (by decide)
  refine xx_thr (vx_runS (As := [.int 0]) (rest := []) ⟨hx, hb, hml, hown, htx⟩ (cB_demand_1 l hl9 D cT aK aV H.size) ⟨callB_of 1 htx (xw_goodC kw_1_221) rfl rfl rfl (htx _ kw_1_1) (htx _ kw_1_219) ⟨by decide, by decide, by decide +kernel⟩ ⟨Nat.le_of_ble_eq_true rfl, Nat.le_of_ble_eq_true rfl⟩, htx _ kw_1_220⟩ ⟨xPre_blind, (fun U hU hW => ⟨rfl, xPre_of hZ hS hFc hPc hDc hK U hU hW⟩)⟩ rfl rfl hl.1 rfl (lv_room (Nat.le_of_ble_eq_true rfl)) dB_two_36 ⟨Nat.le_of_ble_eq_true rfl, Nat.le_of_ble_eq_true rfl⟩) hS hFc (fun q _ h => hFc q h) (fun E ce q9 u9 t H1 locs ht hvm _ hB hz1 hk1 hS hce hcv hcl => ?_)
  obtain ⟨rfl, hP1, hK1, hD1⟩ := hB
  rw [ht] at hP1
  obtain ⟨hP, hD⟩ := xjoin (W := []) hP hD [] [] 0 rfl rfl (by decide) (by decide) hk1 hFc hP1 hD1
  generalize H1 = H at hP hS hce ⊢
  obtain ⟨hP9, hD9⟩ := xsub (wc := []) hP hD [] rfl rfl (by decide)
  exact vx_out (E := "java/lang/IllegalArgumentException") (fun x h => (hne x h).elim) hlocks hce hcv hcl (fun t ht ha => ⟨(), trivial, ⟨rfl, by rw [ht]; exact hP9, va_K.moved ha hK, hD9⟩, hS.F ht⟩) hS.2.2 (Nat.le_of_ble_eq_true rfl) (Nat.le_of_ble_eq_true rfl)
set_option maxHeartbeats 400000000 in
set_option maxRecDepth 100000 in
theorem cL_two_24 (l : Launch) (hl9 : l.stackTraces = false) (D : va_G) (cT : Nat → ClassId) (aK aV : Nat → Nat) (sz : Nat) (a0 : Nat) (x1 : Int32) (x5 : Int32) (x6 : Int32) (x7 : Int32) (v8 : Value) (v9 : Value) (v10 : Value) (v11 : Value) (v12 : Value) (v13 : Value) (v14 : Value) (v15 : Value) (h2 : ¬ x1 < 0) (h3 : 7 < x1) (h4 : ¬ x1 ≤ 7) : xMet l yL_two wyL_two 8 1 6 144 D cT aK aV sz [.ref a0, .int x1, .int x5, .int x6, .int x7] [(a0, .inr (0, [v8, v9, v10, v11, v12, v13, v14, v15]))] (fun A => va_Qi (fun (r : Int32) (_ : Unit) => r = 1) (fun _ t => xB D xcl cT A [(a0, .inr (0, [v8, v9, v10, v11, v12, v13, v14, v15]))] t) A) := by
  refine va_MetW (cc := method_11_code) (maxL := 6) (ret := (some .int)) (hh := [(0, 9, 12, 19), (0, 9, 16, 33), (0, 9, 20, 13)]) (by decide) rfl ?_
  intro p e s m args below meth c s₁ B hml hv
  obtain ⟨rfl, hsz, hZ, hP, hK, hD0⟩ := hv
  have hx := B.exec
  have hb := B.bytes
  have hr := B.returns
  have hts := atoms_spec (ws := wyL_two) B.pre
  have htx := fun w h => hts w (List.mem_cons_of_mem _ h)
  have hown : s.vm.findClass "ValueBenchLaw" = some m.cls := findClass_of_methodNamed B.named
  have hlocks := B.notSynchronized
  subst hsz
  have hD := hD0.self (sz := s.heap.size)
  generalize hAe : va_A [(a0, .inr (0, [v8, v9, v10, v11, v12, v13, v14, v15]))] s.heap.size = A at hD hZ ⊢
  have hA : ∀ q : Nat, s.heap.size ≤ q → A q := fun q h => by rw [← hAe]; exact Or.inr h
  have hS : va_S A s.heap s.heap [] := va_S.rf
  have hP : va_P D xcl [(a0, .inr (0, [v8, v9, v10, v11, v12, v13, v14, v15]))] s.heap := hP
  have hl := lv_entry ([.ref a0, .int x1, .int x5, .int x6, .int x7]) (n := 6) (Nat.le_of_ble_eq_true rfl)
  rw [lg_entry_eq]
  generalize (lg_sl ([.ref a0, .int x1, .int x5, .int x6, .int x7]) ++ List.replicate (6 - (lg_sl ([.ref a0, .int x1, .int x5, .int x6, .int x7])).length) Slot.unset).toArray = ls at hl ⊢
  have hl : lv_has ls 6 [(0, .ref a0), (1, .int x1), (2, .int x5), (3, .int x6), (4, .int x7)] := hl
  have htab := vx_table (x := yL_two) B (hts _ List.mem_cons_self)
  refine lv_aload_n hx hb dL_two_0 rfl (lv_at hl 0 rfl) ?_
  refine lv_iload_n hx hb dL_two_1 rfl (lv_at hl 1 rfl) ?_
  refine lv_iload_n hx hb dL_two_2 rfl (lv_at hl 2 rfl) ?_
  refine lv_iload_n hx hb dL_two_3 rfl (lv_at hl 3 rfl) ?_
  refine lv_iload hx hb dL_two_4 (lv_at hl 4 rfl) ?_
  obtain ⟨hPc, hDc, hFc⟩ := xcut (wc := []) hP hD hS hA [] rfl rfl (by decide)
  refine xx_thr (vx_runV (C := "ValueBench") (As := [.int x1, .int x5, .int x6, .int x7]) (rest := []) ⟨hx, hb, hml, hown, htx⟩ (cB_two_24 l hl9 D cT aK aV s.heap.size a0 x1 x5 x6 x7 h2 h3 h4) ⟨callB_of 4 htx (xw_goodC kw_4_143) rfl rfl rfl (htx _ kw_1_1) (htx _ kw_4_140) ⟨by decide, by decide, by decide +kernel⟩ ⟨Nat.le_of_ble_eq_true rfl, Nat.le_of_ble_eq_true rfl⟩, (htx _ kw_4_141), (htx _ kw_4_142)⟩ ⟨xPre_blind, va_recv hK hP (ci := 0) rfl (q0 := 0) rfl, (fun U hU hW => ⟨rfl, xPre_of hZ hS hFc hPc hDc hK U hU hW⟩)⟩ rfl rfl hl.1 rfl (lv_room (Nat.le_of_ble_eq_true rfl)) dL_two_6 ⟨Nat.le_of_ble_eq_true rfl, Nat.le_of_ble_eq_true rfl⟩) hS hFc (fun q _ h => hFc q h) (fun E ce q9 u9 t H1 locs ht hvm _ hB hz1 hk1 hS hce hcv hcl => ?_)
  obtain ⟨rfl, hP1, hK1, hD1⟩ := hB
  rw [ht] at hP1
  obtain ⟨hP, hD⟩ := xjoin (W := [(a0, .inr (0, [v8, v9, v10, v11, v12, v13, v14, v15]))]) hP hD [] [0] 1 rfl rfl (by decide) (by decide) hk1 hFc hP1 hD1
  generalize H1 = H at hP hS hce ⊢
  refine vx_catch (own := "ValueBenchLaw") (name := "java/lang/IllegalArgumentException") (E := "java/lang/IllegalArgumentException") hown [] ⟨0, 9, 12, 19⟩ [⟨0, 9, 16, 33⟩, ⟨0, 9, 20, 13⟩] (by rw [htab]; rfl) (fun z hz => nomatch hz) (by decide) (by decide) (htx _ kw_1_211) ((hZ.2.2.2.2.2.1 _ (List.mem_of_getElem? (i := 1) rfl)).use rfl) hce hcv hcl ?_
  refine lv_astore (lv' := [(5, .ref q9), (0, .ref a0), (1, .int x1), (2, .int x5), (3, .int x6), (4, .int x7)]) hx hb dL_two_12 hl (by decide) rfl (fun ls hl => ?_)
  refine lv_iconst (v := 1) hx hb dL_two_14 (by decide) ?_
  obtain ⟨hP9, hD9⟩ := xsub (wc := [(a0, .inr (0, [v8, v9, v10, v11, v12, v13, v14, v15]))]) hP hD [0] rfl rfl (by decide)
  refine W.widen (k := 1) (n := 6) (Nat.le_of_ble_eq_true rfl) (Nat.le_of_ble_eq_true rfl) ?_
  exact W.iret (v := 1) hx hb hr (fun t ht hW => ⟨⟨1, (), rfl, rfl, by rw [ht]; exact hP9, va_K.moved hW.alike hK, hD9⟩, hS.F ht⟩) hS.2.2 dL_two_15
set_option maxHeartbeats 400000000 in
set_option maxRecDepth 100000 in
theorem cB_isWithin_43 (l : Launch) (hl9 : l.stackTraces = false) (D : va_G) (cT : Nat → ClassId) (aK aV : Nat → Nat) (sz : Nat) (x0 : Int32) (h1 : ¬ x0 < 0) (h2 : 9 < x0) (h3 : ¬ x0 ≤ 9) : xMet l yB_isWithin wyB_isWithin 0 0 0 0 D cT aK aV sz [.int x0, .int 9] [] (fun A => va_Qi (fun (r : Int32) (_ : Unit) => r = 0) (fun _ t => xB D xcl cT A [] t) A) := by
  refine Met.ofW (cc := prog_1_method_15_code) (maxL := 2) (ret := (some .boolean)) (by decide) rfl ?_
  intro p e s m args below meth c s₁ B hml hv
  obtain ⟨rfl, hsz, hZ, hP, hK, hD0⟩ := hv
  have hx := B.exec
  have hb := B.bytes
  have hr := B.returns
  have hts := atoms_spec (ws := wyB_isWithin) B.pre
  have htx := fun w h => hts w (List.mem_cons_of_mem _ h)
  have hown : s.vm.findClass "ValueBench" = some m.cls := findClass_of_methodNamed B.named
  have hlocks := B.notSynchronized
  subst hsz
  have hD := hD0.self (sz := s.heap.size)
  generalize hAe : va_A [] s.heap.size = A at hD hZ ⊢
  have hA : ∀ q : Nat, s.heap.size ≤ q → A q := fun q h => by rw [← hAe]; exact Or.inr h
  have hS : va_S A s.heap s.heap [] := va_S.rf
  have hP : va_P D xcl [] s.heap := hP
  have hl := lv_entry ([.int x0, .int 9]) (n := 2) (Nat.le_of_ble_eq_true rfl)
  rw [lg_entry_eq]
  generalize (lg_sl ([.int x0, .int 9]) ++ List.replicate (2 - (lg_sl ([.int x0, .int 9])).length) Slot.unset).toArray = ls at hl ⊢
  have hl : lv_has ls 2 [(0, .int x0), (1, .int 9)] := hl
  refine lv_iload_n hx hb dB_isWithin_0 rfl (lv_at hl 0 rfl) ?_
  refine lv_if_lt (tgt := 13) hx hb dB_isWithin_1 (by decide) (fun h => by first | exact absurd h h1 | exact absurd h h2 | exact absurd h h3 | exact absurd h1 h | exact absurd h2 h | exact absurd h3 h) (fun _ => ?_)
  refine lv_iload_n hx hb dB_isWithin_4 rfl (lv_at hl 0 rfl) ?_
  refine lv_iload_n hx hb dB_isWithin_5 rfl (lv_at hl 1 rfl) ?_
  refine lv_icmp_gt (tgt := 13) hx hb dB_isWithin_6 (by decide) (fun _ => ?_) (fun h => by first | exact absurd h h1 | exact absurd h h2 | exact absurd h h3 | exact absurd h1 h | exact absurd h2 h | exact absurd h3 h)
  refine lv_iconst (v := 0) hx hb dB_isWithin_13 (by decide) ?_
  obtain ⟨hP9, hD9⟩ := xsub (wc := []) hP hD [] rfl rfl (by decide)
  refine W.widen (k := 0) (n := 0) (Nat.le_of_ble_eq_true rfl) (Nat.le_of_ble_eq_true rfl) ?_
  exact W.zret (v := 0) hx hb hr rfl (fun t ht hW => ⟨⟨0, (), rfl, rfl, by rw [ht]; exact hP9, va_K.moved hW.alike hK, hD9⟩, hS.F ht⟩) hS.2.2 dB_isWithin_14
set_option maxHeartbeats 400000000 in
set_option maxRecDepth 100000 in
theorem cB_two_25 (l : Launch) (hl9 : l.stackTraces = false) (D : va_G) (cT : Nat → ClassId) (aK aV : Nat → Nat) (sz : Nat) (b0 : Nat) (x1 : Int32) (x6 : Int32) (x10 : Int32) (x11 : Int32) (h2 : ¬ x1 < 0) (h3 : ¬ 7 < x1) (h4 : x1 ≤ 7) (h5 : vp_in x1 8) (h7 : ¬ x6 < 0) (h8 : 9 < x6) (h9 : ¬ x6 ≤ 9) : xMetX l yB_two wyB_two 7 1 6 120 D cT aK aV sz [.ref b0, .int x1, .int x6, .int x10, .int x11] [] "java/lang/IllegalArgumentException" (fun A t => xB D xcl cT A [] t) := by
  refine vx_ofW (cc := prog_1_method_10_code) (maxL := 5) (ret := none) (by decide) rfl ?_
  intro p e s m args below meth c s₁ B hml hne hv
  obtain ⟨rfl, hsz, hZ, hP, hK, hD0⟩ := hv
  have hx := B.exec
  have hb := B.bytes
  have hr := B.returns
  have hts := atoms_spec (ws := wyB_two) B.pre
  have htx := fun w h => hts w (List.mem_cons_of_mem _ h)
  have hown : s.vm.findClass "ValueBench" = some m.cls := findClass_of_methodNamed B.named
  have hlocks := B.notSynchronized
  subst hsz
  have hD := hD0.self (sz := s.heap.size)
  generalize hAe : va_A [] s.heap.size = A at hD hZ ⊢
  have hA : ∀ q : Nat, s.heap.size ≤ q → A q := fun q h => by rw [← hAe]; exact Or.inr h
  have hS : va_S A s.heap s.heap [] := va_S.rf
  have hP : va_P D xcl [] s.heap := hP
  have hl := lv_entry ([.ref b0, .int x1, .int x6, .int x10, .int x11]) (n := 5) (Nat.le_of_ble_eq_true rfl)
  rw [lg_entry_eq]
  generalize (lg_sl ([.ref b0, .int x1, .int x6, .int x10, .int x11]) ++ List.replicate (5 - (lg_sl ([.ref b0, .int x1, .int x6, .int x10, .int x11])).length) Slot.unset).toArray = ls at hl ⊢
  have hl : lv_has ls 5 [(0, .ref b0), (1, .int x1), (2, .int x6), (3, .int x10), (4, .int x11)] := hl
  refine lv_iload_n hx hb dB_two_0 rfl (lv_at hl 1 rfl) ?_
  obtain ⟨hPc, hDc, hFc⟩ := xcut (wc := []) hP hD hS hA [] rfl rfl (by decide)
  refine va_calli (va_runS (As := [.int x1]) (rest := []) ⟨hx, hb, hml, hown, htx⟩ (cB_isRegister_0 l hl9 D cT aK aV s.heap.size x1 h2 h3 h4 h5) ⟨callB_of 1 htx (xw_goodC kw_2_18) rfl rfl rfl (htx _ kw_1_1) (htx _ kw_2_16) ⟨by decide, by decide, by decide +kernel⟩ ⟨Nat.le_of_ble_eq_true rfl, Nat.le_of_ble_eq_true rfl⟩, htx _ kw_2_17⟩ ⟨xPre_blind, (fun U hU hW => ⟨rfl, xPre_of hZ hS hFc hPc hDc hK U hU hW⟩)⟩ rfl rfl hl.1 rfl (lv_room (Nat.le_of_ble_eq_true rfl)) dB_two_1 ⟨Nat.le_of_ble_eq_true rfl, Nat.le_of_ble_eq_true rfl⟩) hS (fun q _ h => hFc q h) hFc (fun r1 u9 t H1 locs ht hvm hr9 hB hz1 hk1 hS => ?_)
  obtain ⟨hP1, hK1, hD1⟩ := hB
  rw [ht] at hP1
  obtain ⟨hP, hD⟩ := xjoin (W := []) hP hD [] [] 0 rfl rfl (by decide) (by decide) hk1 hFc hP1 hD1
  generalize H1 = H at hP hS ⊢
  rw [hr9]
  refine W.eq (g2 := F0 m 4 ls [.int 1]) rfl ?_
  refine lv_if_eq (tgt := 35) hx hb dB_two_4 (by decide) (fun h => ((by revert h; decide : False)).elim) (fun _ => ?_)
  refine lv_iload_n hx hb dB_two_7 rfl (lv_at hl 2 rfl) ?_
  refine lv_bipush (v := 9) hx hb dB_two_8 (by decide) ?_
  obtain ⟨hPc, hDc, hFc⟩ := xcut (wc := []) hP hD hS hA [] rfl rfl (by decide)
  refine va_calli (va_runS (As := [.int x6, .int 9]) (rest := []) ⟨hx, hb, hml, hown, htx⟩ (cB_isWithin_43 l hl9 D cT aK aV H.size x6 h7 h8 h9) ⟨callB_of 2 htx (xw_goodC kw_1_218) rfl rfl rfl (htx _ kw_1_1) (htx _ kw_1_216) ⟨by decide, by decide, by decide +kernel⟩ ⟨Nat.le_of_ble_eq_true rfl, Nat.le_of_ble_eq_true rfl⟩, htx _ kw_1_217⟩ ⟨xPre_blind, (fun U hU hW => ⟨rfl, xPre_of hZ hS hFc hPc hDc hK U hU hW⟩)⟩ rfl rfl hl.1 rfl (lv_room (Nat.le_of_ble_eq_true rfl)) dB_two_10 ⟨Nat.le_of_ble_eq_true rfl, Nat.le_of_ble_eq_true rfl⟩) hS (fun q _ h => hFc q h) hFc (fun r2 u9 t H1 locs ht hvm hr9 hB hz1 hk1 hS => ?_)
  obtain ⟨hP1, hK1, hD1⟩ := hB
  rw [ht] at hP1
  obtain ⟨hP, hD⟩ := xjoin (W := []) hP hD [] [] 0 rfl rfl (by decide) (by decide) hk1 hFc hP1 hD1
  generalize H1 = H at hP hS ⊢
  rw [hr9]
  refine W.eq (g2 := F0 m 13 ls [.int 0]) rfl ?_
  refine lv_if_eq (tgt := 35) hx hb dB_two_13 (by decide) (fun _ => ?_) (fun h => ((by revert h; decide : False)).elim)
  refine lv_iconst (v := 0) hx hb dB_two_35 (by decide) ?_
  obtain ⟨hPc, hDc, hFc⟩ := xcut (wc := []) hP hD hS hA [] rfl rfl (by decide)
  refine xx_thr (vx_runS (As := [.int 0]) (rest := []) ⟨hx, hb, hml, hown, htx⟩ (cB_demand_1 l hl9 D cT aK aV H.size) ⟨callB_of 1 htx (xw_goodC kw_1_221) rfl rfl rfl (htx _ kw_1_1) (htx _ kw_1_219) ⟨by decide, by decide, by decide +kernel⟩ ⟨Nat.le_of_ble_eq_true rfl, Nat.le_of_ble_eq_true rfl⟩, htx _ kw_1_220⟩ ⟨xPre_blind, (fun U hU hW => ⟨rfl, xPre_of hZ hS hFc hPc hDc hK U hU hW⟩)⟩ rfl rfl hl.1 rfl (lv_room (Nat.le_of_ble_eq_true rfl)) dB_two_36 ⟨Nat.le_of_ble_eq_true rfl, Nat.le_of_ble_eq_true rfl⟩) hS hFc (fun q _ h => hFc q h) (fun E ce q9 u9 t H1 locs ht hvm _ hB hz1 hk1 hS hce hcv hcl => ?_)
  obtain ⟨rfl, hP1, hK1, hD1⟩ := hB
  rw [ht] at hP1
  obtain ⟨hP, hD⟩ := xjoin (W := []) hP hD [] [] 0 rfl rfl (by decide) (by decide) hk1 hFc hP1 hD1
  generalize H1 = H at hP hS hce ⊢
  obtain ⟨hP9, hD9⟩ := xsub (wc := []) hP hD [] rfl rfl (by decide)
  exact vx_out (E := "java/lang/IllegalArgumentException") (fun x h => (hne x h).elim) hlocks hce hcv hcl (fun t ht ha => ⟨(), trivial, ⟨rfl, by rw [ht]; exact hP9, va_K.moved ha hK, hD9⟩, hS.F ht⟩) hS.2.2 (Nat.le_of_ble_eq_true rfl) (Nat.le_of_ble_eq_true rfl)
set_option maxHeartbeats 400000000 in
set_option maxRecDepth 100000 in
theorem cL_two_25 (l : Launch) (hl9 : l.stackTraces = false) (D : va_G) (cT : Nat → ClassId) (aK aV : Nat → Nat) (sz : Nat) (a0 : Nat) (x1 : Int32) (x6 : Int32) (x10 : Int32) (x11 : Int32) (v12 : Value) (v13 : Value) (v14 : Value) (v15 : Value) (v16 : Value) (v17 : Value) (v18 : Value) (v19 : Value) (h2 : ¬ x1 < 0) (h3 : ¬ 7 < x1) (h4 : x1 ≤ 7) (h5 : vp_in x1 8) (h7 : ¬ x6 < 0) (h8 : 9 < x6) (h9 : ¬ x6 ≤ 9) : xMet l yL_two wyL_two 8 1 6 144 D cT aK aV sz [.ref a0, .int x1, .int x6, .int x10, .int x11] [(a0, .inr (0, [v12, v13, v14, v15, v16, v17, v18, v19]))] (fun A => va_Qi (fun (r : Int32) (_ : Unit) => r = 1) (fun _ t => xB D xcl cT A [(a0, .inr (0, [v12, v13, v14, v15, v16, v17, v18, v19]))] t) A) := by
  refine va_MetW (cc := method_11_code) (maxL := 6) (ret := (some .int)) (hh := [(0, 9, 12, 19), (0, 9, 16, 33), (0, 9, 20, 13)]) (by decide) rfl ?_
  intro p e s m args below meth c s₁ B hml hv
  obtain ⟨rfl, hsz, hZ, hP, hK, hD0⟩ := hv
  have hx := B.exec
  have hb := B.bytes
  have hr := B.returns
  have hts := atoms_spec (ws := wyL_two) B.pre
  have htx := fun w h => hts w (List.mem_cons_of_mem _ h)
  have hown : s.vm.findClass "ValueBenchLaw" = some m.cls := findClass_of_methodNamed B.named
  have hlocks := B.notSynchronized
  subst hsz
  have hD := hD0.self (sz := s.heap.size)
  generalize hAe : va_A [(a0, .inr (0, [v12, v13, v14, v15, v16, v17, v18, v19]))] s.heap.size = A at hD hZ ⊢
  have hA : ∀ q : Nat, s.heap.size ≤ q → A q := fun q h => by rw [← hAe]; exact Or.inr h
  have hS : va_S A s.heap s.heap [] := va_S.rf
  have hP : va_P D xcl [(a0, .inr (0, [v12, v13, v14, v15, v16, v17, v18, v19]))] s.heap := hP
  have hl := lv_entry ([.ref a0, .int x1, .int x6, .int x10, .int x11]) (n := 6) (Nat.le_of_ble_eq_true rfl)
  rw [lg_entry_eq]
  generalize (lg_sl ([.ref a0, .int x1, .int x6, .int x10, .int x11]) ++ List.replicate (6 - (lg_sl ([.ref a0, .int x1, .int x6, .int x10, .int x11])).length) Slot.unset).toArray = ls at hl ⊢
  have hl : lv_has ls 6 [(0, .ref a0), (1, .int x1), (2, .int x6), (3, .int x10), (4, .int x11)] := hl
  have htab := vx_table (x := yL_two) B (hts _ List.mem_cons_self)
  refine lv_aload_n hx hb dL_two_0 rfl (lv_at hl 0 rfl) ?_
  refine lv_iload_n hx hb dL_two_1 rfl (lv_at hl 1 rfl) ?_
  refine lv_iload_n hx hb dL_two_2 rfl (lv_at hl 2 rfl) ?_
  refine lv_iload_n hx hb dL_two_3 rfl (lv_at hl 3 rfl) ?_
  refine lv_iload hx hb dL_two_4 (lv_at hl 4 rfl) ?_
  obtain ⟨hPc, hDc, hFc⟩ := xcut (wc := []) hP hD hS hA [] rfl rfl (by decide)
  refine xx_thr (vx_runV (C := "ValueBench") (As := [.int x1, .int x6, .int x10, .int x11]) (rest := []) ⟨hx, hb, hml, hown, htx⟩ (cB_two_25 l hl9 D cT aK aV s.heap.size a0 x1 x6 x10 x11 h2 h3 h4 h5 h7 h8 h9) ⟨callB_of 4 htx (xw_goodC kw_4_143) rfl rfl rfl (htx _ kw_1_1) (htx _ kw_4_140) ⟨by decide, by decide, by decide +kernel⟩ ⟨Nat.le_of_ble_eq_true rfl, Nat.le_of_ble_eq_true rfl⟩, (htx _ kw_4_141), (htx _ kw_4_142)⟩ ⟨xPre_blind, va_recv hK hP (ci := 0) rfl (q0 := 0) rfl, (fun U hU hW => ⟨rfl, xPre_of hZ hS hFc hPc hDc hK U hU hW⟩)⟩ rfl rfl hl.1 rfl (lv_room (Nat.le_of_ble_eq_true rfl)) dL_two_6 ⟨Nat.le_of_ble_eq_true rfl, Nat.le_of_ble_eq_true rfl⟩) hS hFc (fun q _ h => hFc q h) (fun E ce q9 u9 t H1 locs ht hvm _ hB hz1 hk1 hS hce hcv hcl => ?_)
  obtain ⟨rfl, hP1, hK1, hD1⟩ := hB
  rw [ht] at hP1
  obtain ⟨hP, hD⟩ := xjoin (W := [(a0, .inr (0, [v12, v13, v14, v15, v16, v17, v18, v19]))]) hP hD [] [0] 1 rfl rfl (by decide) (by decide) hk1 hFc hP1 hD1
  generalize H1 = H at hP hS hce ⊢
  refine vx_catch (own := "ValueBenchLaw") (name := "java/lang/IllegalArgumentException") (E := "java/lang/IllegalArgumentException") hown [] ⟨0, 9, 12, 19⟩ [⟨0, 9, 16, 33⟩, ⟨0, 9, 20, 13⟩] (by rw [htab]; rfl) (fun z hz => nomatch hz) (by decide) (by decide) (htx _ kw_1_211) ((hZ.2.2.2.2.2.1 _ (List.mem_of_getElem? (i := 1) rfl)).use rfl) hce hcv hcl ?_
  refine lv_astore (lv' := [(5, .ref q9), (0, .ref a0), (1, .int x1), (2, .int x6), (3, .int x10), (4, .int x11)]) hx hb dL_two_12 hl (by decide) rfl (fun ls hl => ?_)
  refine lv_iconst (v := 1) hx hb dL_two_14 (by decide) ?_
  obtain ⟨hP9, hD9⟩ := xsub (wc := [(a0, .inr (0, [v12, v13, v14, v15, v16, v17, v18, v19]))]) hP hD [0] rfl rfl (by decide)
  refine W.widen (k := 1) (n := 6) (Nat.le_of_ble_eq_true rfl) (Nat.le_of_ble_eq_true rfl) ?_
  exact W.iret (v := 1) hx hb hr (fun t ht hW => ⟨⟨1, (), rfl, rfl, by rw [ht]; exact hP9, va_K.moved hW.alike hK, hD9⟩, hS.F ht⟩) hS.2.2 dL_two_15
set_option maxHeartbeats 400000000 in
set_option maxRecDepth 100000 in
theorem cB_two_26 (l : Launch) (hl9 : l.stackTraces = false) (D : va_G) (cT : Nat → ClassId) (aK aV : Nat → Nat) (sz : Nat) (b0 : Nat) (x1 : Int32) (x6 : Int32) (x10 : Int32) (x14 : Int32) (h2 : ¬ x1 < 0) (h3 : ¬ 7 < x1) (h4 : x1 ≤ 7) (h5 : vp_in x1 8) (h7 : ¬ x6 < 0) (h8 : ¬ 9 < x6) (h9 : x6 ≤ 9) (h11 : ¬ x10 < 0) (h12 : 7 < x10) (h13 : ¬ x10 ≤ 7) : xMetX l yB_two wyB_two 7 1 6 120 D cT aK aV sz [.ref b0, .int x1, .int x6, .int x10, .int x14] [] "java/lang/IllegalArgumentException" (fun A t => xB D xcl cT A [] t) := by
  refine vx_ofW (cc := prog_1_method_10_code) (maxL := 5) (ret := none) (by decide) rfl ?_
  intro p e s m args below meth c s₁ B hml hne hv
  obtain ⟨rfl, hsz, hZ, hP, hK, hD0⟩ := hv
  have hx := B.exec
  have hb := B.bytes
  have hr := B.returns
  have hts := atoms_spec (ws := wyB_two) B.pre
  have htx := fun w h => hts w (List.mem_cons_of_mem _ h)
  have hown : s.vm.findClass "ValueBench" = some m.cls := findClass_of_methodNamed B.named
  have hlocks := B.notSynchronized
  subst hsz
  have hD := hD0.self (sz := s.heap.size)
  generalize hAe : va_A [] s.heap.size = A at hD hZ ⊢
  have hA : ∀ q : Nat, s.heap.size ≤ q → A q := fun q h => by rw [← hAe]; exact Or.inr h
  have hS : va_S A s.heap s.heap [] := va_S.rf
  have hP : va_P D xcl [] s.heap := hP
  have hl := lv_entry ([.ref b0, .int x1, .int x6, .int x10, .int x14]) (n := 5) (Nat.le_of_ble_eq_true rfl)
  rw [lg_entry_eq]
  generalize (lg_sl ([.ref b0, .int x1, .int x6, .int x10, .int x14]) ++ List.replicate (5 - (lg_sl ([.ref b0, .int x1, .int x6, .int x10, .int x14])).length) Slot.unset).toArray = ls at hl ⊢
  have hl : lv_has ls 5 [(0, .ref b0), (1, .int x1), (2, .int x6), (3, .int x10), (4, .int x14)] := hl
  refine lv_iload_n hx hb dB_two_0 rfl (lv_at hl 1 rfl) ?_
  obtain ⟨hPc, hDc, hFc⟩ := xcut (wc := []) hP hD hS hA [] rfl rfl (by decide)
  refine va_calli (va_runS (As := [.int x1]) (rest := []) ⟨hx, hb, hml, hown, htx⟩ (cB_isRegister_0 l hl9 D cT aK aV s.heap.size x1 h2 h3 h4 h5) ⟨callB_of 1 htx (xw_goodC kw_2_18) rfl rfl rfl (htx _ kw_1_1) (htx _ kw_2_16) ⟨by decide, by decide, by decide +kernel⟩ ⟨Nat.le_of_ble_eq_true rfl, Nat.le_of_ble_eq_true rfl⟩, htx _ kw_2_17⟩ ⟨xPre_blind, (fun U hU hW => ⟨rfl, xPre_of hZ hS hFc hPc hDc hK U hU hW⟩)⟩ rfl rfl hl.1 rfl (lv_room (Nat.le_of_ble_eq_true rfl)) dB_two_1 ⟨Nat.le_of_ble_eq_true rfl, Nat.le_of_ble_eq_true rfl⟩) hS (fun q _ h => hFc q h) hFc (fun r1 u9 t H1 locs ht hvm hr9 hB hz1 hk1 hS => ?_)
  obtain ⟨hP1, hK1, hD1⟩ := hB
  rw [ht] at hP1
  obtain ⟨hP, hD⟩ := xjoin (W := []) hP hD [] [] 0 rfl rfl (by decide) (by decide) hk1 hFc hP1 hD1
  generalize H1 = H at hP hS ⊢
  rw [hr9]
  refine W.eq (g2 := F0 m 4 ls [.int 1]) rfl ?_
  refine lv_if_eq (tgt := 35) hx hb dB_two_4 (by decide) (fun h => ((by revert h; decide : False)).elim) (fun _ => ?_)
  refine lv_iload_n hx hb dB_two_7 rfl (lv_at hl 2 rfl) ?_
  refine lv_bipush (v := 9) hx hb dB_two_8 (by decide) ?_
  obtain ⟨hPc, hDc, hFc⟩ := xcut (wc := []) hP hD hS hA [] rfl rfl (by decide)
  refine va_calli (va_runS (As := [.int x6, .int 9]) (rest := []) ⟨hx, hb, hml, hown, htx⟩ (cB_isWithin_40 l hl9 D cT aK aV H.size x6 h7 h8 h9) ⟨callB_of 2 htx (xw_goodC kw_1_218) rfl rfl rfl (htx _ kw_1_1) (htx _ kw_1_216) ⟨by decide, by decide, by decide +kernel⟩ ⟨Nat.le_of_ble_eq_true rfl, Nat.le_of_ble_eq_true rfl⟩, htx _ kw_1_217⟩ ⟨xPre_blind, (fun U hU hW => ⟨rfl, xPre_of hZ hS hFc hPc hDc hK U hU hW⟩)⟩ rfl rfl hl.1 rfl (lv_room (Nat.le_of_ble_eq_true rfl)) dB_two_10 ⟨Nat.le_of_ble_eq_true rfl, Nat.le_of_ble_eq_true rfl⟩) hS (fun q _ h => hFc q h) hFc (fun r2 u9 t H1 locs ht hvm hr9 hB hz1 hk1 hS => ?_)
  obtain ⟨hP1, hK1, hD1⟩ := hB
  rw [ht] at hP1
  obtain ⟨hP, hD⟩ := xjoin (W := []) hP hD [] [] 0 rfl rfl (by decide) (by decide) hk1 hFc hP1 hD1
  generalize H1 = H at hP hS ⊢
  rw [hr9]
  refine W.eq (g2 := F0 m 13 ls [.int 1]) rfl ?_
  refine lv_if_eq (tgt := 35) hx hb dB_two_13 (by decide) (fun h => ((by revert h; decide : False)).elim) (fun _ => ?_)
  refine lv_iload_n hx hb dB_two_16 rfl (lv_at hl 3 rfl) ?_
  obtain ⟨hPc, hDc, hFc⟩ := xcut (wc := []) hP hD hS hA [] rfl rfl (by decide)
  refine va_calli (va_runS (As := [.int x10]) (rest := []) ⟨hx, hb, hml, hown, htx⟩ (cB_isRegister_2 l hl9 D cT aK aV H.size x10 h11 h12 h13) ⟨callB_of 1 htx (xw_goodC kw_2_18) rfl rfl rfl (htx _ kw_1_1) (htx _ kw_2_16) ⟨by decide, by decide, by decide +kernel⟩ ⟨Nat.le_of_ble_eq_true rfl, Nat.le_of_ble_eq_true rfl⟩, htx _ kw_2_17⟩ ⟨xPre_blind, (fun U hU hW => ⟨rfl, xPre_of hZ hS hFc hPc hDc hK U hU hW⟩)⟩ rfl rfl hl.1 rfl (lv_room (Nat.le_of_ble_eq_true rfl)) dB_two_17 ⟨Nat.le_of_ble_eq_true rfl, Nat.le_of_ble_eq_true rfl⟩) hS (fun q _ h => hFc q h) hFc (fun r3 u9 t H1 locs ht hvm hr9 hB hz1 hk1 hS => ?_)
  obtain ⟨hP1, hK1, hD1⟩ := hB
  rw [ht] at hP1
  obtain ⟨hP, hD⟩ := xjoin (W := []) hP hD [] [] 0 rfl rfl (by decide) (by decide) hk1 hFc hP1 hD1
  generalize H1 = H at hP hS ⊢
  rw [hr9]
  refine W.eq (g2 := F0 m 20 ls [.int 0]) rfl ?_
  refine lv_if_eq (tgt := 35) hx hb dB_two_20 (by decide) (fun _ => ?_) (fun h => ((by revert h; decide : False)).elim)
  refine lv_iconst (v := 0) hx hb dB_two_35 (by decide) ?_
  obtain ⟨hPc, hDc, hFc⟩ := xcut (wc := []) hP hD hS hA [] rfl rfl (by decide)
  refine xx_thr (vx_runS (As := [.int 0]) (rest := []) ⟨hx, hb, hml, hown, htx⟩ (cB_demand_1 l hl9 D cT aK aV H.size) ⟨callB_of 1 htx (xw_goodC kw_1_221) rfl rfl rfl (htx _ kw_1_1) (htx _ kw_1_219) ⟨by decide, by decide, by decide +kernel⟩ ⟨Nat.le_of_ble_eq_true rfl, Nat.le_of_ble_eq_true rfl⟩, htx _ kw_1_220⟩ ⟨xPre_blind, (fun U hU hW => ⟨rfl, xPre_of hZ hS hFc hPc hDc hK U hU hW⟩)⟩ rfl rfl hl.1 rfl (lv_room (Nat.le_of_ble_eq_true rfl)) dB_two_36 ⟨Nat.le_of_ble_eq_true rfl, Nat.le_of_ble_eq_true rfl⟩) hS hFc (fun q _ h => hFc q h) (fun E ce q9 u9 t H1 locs ht hvm _ hB hz1 hk1 hS hce hcv hcl => ?_)
  obtain ⟨rfl, hP1, hK1, hD1⟩ := hB
  rw [ht] at hP1
  obtain ⟨hP, hD⟩ := xjoin (W := []) hP hD [] [] 0 rfl rfl (by decide) (by decide) hk1 hFc hP1 hD1
  generalize H1 = H at hP hS hce ⊢
  obtain ⟨hP9, hD9⟩ := xsub (wc := []) hP hD [] rfl rfl (by decide)
  exact vx_out (E := "java/lang/IllegalArgumentException") (fun x h => (hne x h).elim) hlocks hce hcv hcl (fun t ht ha => ⟨(), trivial, ⟨rfl, by rw [ht]; exact hP9, va_K.moved ha hK, hD9⟩, hS.F ht⟩) hS.2.2 (Nat.le_of_ble_eq_true rfl) (Nat.le_of_ble_eq_true rfl)
set_option maxHeartbeats 400000000 in
set_option maxRecDepth 100000 in
theorem cL_two_26 (l : Launch) (hl9 : l.stackTraces = false) (D : va_G) (cT : Nat → ClassId) (aK aV : Nat → Nat) (sz : Nat) (a0 : Nat) (x1 : Int32) (x6 : Int32) (x10 : Int32) (x14 : Int32) (v15 : Value) (v16 : Value) (v17 : Value) (v18 : Value) (v19 : Value) (v20 : Value) (v21 : Value) (v22 : Value) (h2 : ¬ x1 < 0) (h3 : ¬ 7 < x1) (h4 : x1 ≤ 7) (h5 : vp_in x1 8) (h7 : ¬ x6 < 0) (h8 : ¬ 9 < x6) (h9 : x6 ≤ 9) (h11 : ¬ x10 < 0) (h12 : 7 < x10) (h13 : ¬ x10 ≤ 7) : xMet l yL_two wyL_two 8 1 6 144 D cT aK aV sz [.ref a0, .int x1, .int x6, .int x10, .int x14] [(a0, .inr (0, [v15, v16, v17, v18, v19, v20, v21, v22]))] (fun A => va_Qi (fun (r : Int32) (_ : Unit) => r = 1) (fun _ t => xB D xcl cT A [(a0, .inr (0, [v15, v16, v17, v18, v19, v20, v21, v22]))] t) A) := by
  refine va_MetW (cc := method_11_code) (maxL := 6) (ret := (some .int)) (hh := [(0, 9, 12, 19), (0, 9, 16, 33), (0, 9, 20, 13)]) (by decide) rfl ?_
  intro p e s m args below meth c s₁ B hml hv
  obtain ⟨rfl, hsz, hZ, hP, hK, hD0⟩ := hv
  have hx := B.exec
  have hb := B.bytes
  have hr := B.returns
  have hts := atoms_spec (ws := wyL_two) B.pre
  have htx := fun w h => hts w (List.mem_cons_of_mem _ h)
  have hown : s.vm.findClass "ValueBenchLaw" = some m.cls := findClass_of_methodNamed B.named
  have hlocks := B.notSynchronized
  subst hsz
  have hD := hD0.self (sz := s.heap.size)
  generalize hAe : va_A [(a0, .inr (0, [v15, v16, v17, v18, v19, v20, v21, v22]))] s.heap.size = A at hD hZ ⊢
  have hA : ∀ q : Nat, s.heap.size ≤ q → A q := fun q h => by rw [← hAe]; exact Or.inr h
  have hS : va_S A s.heap s.heap [] := va_S.rf
  have hP : va_P D xcl [(a0, .inr (0, [v15, v16, v17, v18, v19, v20, v21, v22]))] s.heap := hP
  have hl := lv_entry ([.ref a0, .int x1, .int x6, .int x10, .int x14]) (n := 6) (Nat.le_of_ble_eq_true rfl)
  rw [lg_entry_eq]
  generalize (lg_sl ([.ref a0, .int x1, .int x6, .int x10, .int x14]) ++ List.replicate (6 - (lg_sl ([.ref a0, .int x1, .int x6, .int x10, .int x14])).length) Slot.unset).toArray = ls at hl ⊢
  have hl : lv_has ls 6 [(0, .ref a0), (1, .int x1), (2, .int x6), (3, .int x10), (4, .int x14)] := hl
  have htab := vx_table (x := yL_two) B (hts _ List.mem_cons_self)
  refine lv_aload_n hx hb dL_two_0 rfl (lv_at hl 0 rfl) ?_
  refine lv_iload_n hx hb dL_two_1 rfl (lv_at hl 1 rfl) ?_
  refine lv_iload_n hx hb dL_two_2 rfl (lv_at hl 2 rfl) ?_
  refine lv_iload_n hx hb dL_two_3 rfl (lv_at hl 3 rfl) ?_
  refine lv_iload hx hb dL_two_4 (lv_at hl 4 rfl) ?_
  obtain ⟨hPc, hDc, hFc⟩ := xcut (wc := []) hP hD hS hA [] rfl rfl (by decide)
  refine xx_thr (vx_runV (C := "ValueBench") (As := [.int x1, .int x6, .int x10, .int x14]) (rest := []) ⟨hx, hb, hml, hown, htx⟩ (cB_two_26 l hl9 D cT aK aV s.heap.size a0 x1 x6 x10 x14 h2 h3 h4 h5 h7 h8 h9 h11 h12 h13) ⟨callB_of 4 htx (xw_goodC kw_4_143) rfl rfl rfl (htx _ kw_1_1) (htx _ kw_4_140) ⟨by decide, by decide, by decide +kernel⟩ ⟨Nat.le_of_ble_eq_true rfl, Nat.le_of_ble_eq_true rfl⟩, (htx _ kw_4_141), (htx _ kw_4_142)⟩ ⟨xPre_blind, va_recv hK hP (ci := 0) rfl (q0 := 0) rfl, (fun U hU hW => ⟨rfl, xPre_of hZ hS hFc hPc hDc hK U hU hW⟩)⟩ rfl rfl hl.1 rfl (lv_room (Nat.le_of_ble_eq_true rfl)) dL_two_6 ⟨Nat.le_of_ble_eq_true rfl, Nat.le_of_ble_eq_true rfl⟩) hS hFc (fun q _ h => hFc q h) (fun E ce q9 u9 t H1 locs ht hvm _ hB hz1 hk1 hS hce hcv hcl => ?_)
  obtain ⟨rfl, hP1, hK1, hD1⟩ := hB
  rw [ht] at hP1
  obtain ⟨hP, hD⟩ := xjoin (W := [(a0, .inr (0, [v15, v16, v17, v18, v19, v20, v21, v22]))]) hP hD [] [0] 1 rfl rfl (by decide) (by decide) hk1 hFc hP1 hD1
  generalize H1 = H at hP hS hce ⊢
  refine vx_catch (own := "ValueBenchLaw") (name := "java/lang/IllegalArgumentException") (E := "java/lang/IllegalArgumentException") hown [] ⟨0, 9, 12, 19⟩ [⟨0, 9, 16, 33⟩, ⟨0, 9, 20, 13⟩] (by rw [htab]; rfl) (fun z hz => nomatch hz) (by decide) (by decide) (htx _ kw_1_211) ((hZ.2.2.2.2.2.1 _ (List.mem_of_getElem? (i := 1) rfl)).use rfl) hce hcv hcl ?_
  refine lv_astore (lv' := [(5, .ref q9), (0, .ref a0), (1, .int x1), (2, .int x6), (3, .int x10), (4, .int x14)]) hx hb dL_two_12 hl (by decide) rfl (fun ls hl => ?_)
  refine lv_iconst (v := 1) hx hb dL_two_14 (by decide) ?_
  obtain ⟨hP9, hD9⟩ := xsub (wc := [(a0, .inr (0, [v15, v16, v17, v18, v19, v20, v21, v22]))]) hP hD [0] rfl rfl (by decide)
  refine W.widen (k := 1) (n := 6) (Nat.le_of_ble_eq_true rfl) (Nat.le_of_ble_eq_true rfl) ?_
  exact W.iret (v := 1) hx hb hr (fun t ht hW => ⟨⟨1, (), rfl, rfl, by rw [ht]; exact hP9, va_K.moved hW.alike hK, hD9⟩, hS.F ht⟩) hS.2.2 dL_two_15
set_option maxHeartbeats 400000000 in
set_option maxRecDepth 100000 in
theorem cB_two_27 (l : Launch) (hl9 : l.stackTraces = false) (D : va_G) (cT : Nat → ClassId) (aK aV : Nat → Nat) (sz : Nat) (b0 : Nat) (x1 : Int32) (x6 : Int32) (x10 : Int32) (x15 : Int32) (h2 : ¬ x1 < 0) (h3 : ¬ 7 < x1) (h4 : x1 ≤ 7) (h5 : vp_in x1 8) (h7 : ¬ x6 < 0) (h8 : ¬ 9 < x6) (h9 : x6 ≤ 9) (h11 : ¬ x10 < 0) (h12 : ¬ 7 < x10) (h13 : x10 ≤ 7) (h14 : vp_in x10 8) (h16 : ¬ x15 < 0) (h17 : 7 < x15) (h18 : ¬ x15 ≤ 7) : xMetX l yB_two wyB_two 7 1 6 120 D cT aK aV sz [.ref b0, .int x1, .int x6, .int x10, .int x15] [] "java/lang/IllegalArgumentException" (fun A t => xB D xcl cT A [] t) := by
  refine vx_ofW (cc := prog_1_method_10_code) (maxL := 5) (ret := none) (by decide) rfl ?_
  intro p e s m args below meth c s₁ B hml hne hv
  obtain ⟨rfl, hsz, hZ, hP, hK, hD0⟩ := hv
  have hx := B.exec
  have hb := B.bytes
  have hr := B.returns
  have hts := atoms_spec (ws := wyB_two) B.pre
  have htx := fun w h => hts w (List.mem_cons_of_mem _ h)
  have hown : s.vm.findClass "ValueBench" = some m.cls := findClass_of_methodNamed B.named
  have hlocks := B.notSynchronized
  subst hsz
  have hD := hD0.self (sz := s.heap.size)
  generalize hAe : va_A [] s.heap.size = A at hD hZ ⊢
  have hA : ∀ q : Nat, s.heap.size ≤ q → A q := fun q h => by rw [← hAe]; exact Or.inr h
  have hS : va_S A s.heap s.heap [] := va_S.rf
  have hP : va_P D xcl [] s.heap := hP
  have hl := lv_entry ([.ref b0, .int x1, .int x6, .int x10, .int x15]) (n := 5) (Nat.le_of_ble_eq_true rfl)
  rw [lg_entry_eq]
  generalize (lg_sl ([.ref b0, .int x1, .int x6, .int x10, .int x15]) ++ List.replicate (5 - (lg_sl ([.ref b0, .int x1, .int x6, .int x10, .int x15])).length) Slot.unset).toArray = ls at hl ⊢
  have hl : lv_has ls 5 [(0, .ref b0), (1, .int x1), (2, .int x6), (3, .int x10), (4, .int x15)] := hl
  refine lv_iload_n hx hb dB_two_0 rfl (lv_at hl 1 rfl) ?_
  obtain ⟨hPc, hDc, hFc⟩ := xcut (wc := []) hP hD hS hA [] rfl rfl (by decide)
  refine va_calli (va_runS (As := [.int x1]) (rest := []) ⟨hx, hb, hml, hown, htx⟩ (cB_isRegister_0 l hl9 D cT aK aV s.heap.size x1 h2 h3 h4 h5) ⟨callB_of 1 htx (xw_goodC kw_2_18) rfl rfl rfl (htx _ kw_1_1) (htx _ kw_2_16) ⟨by decide, by decide, by decide +kernel⟩ ⟨Nat.le_of_ble_eq_true rfl, Nat.le_of_ble_eq_true rfl⟩, htx _ kw_2_17⟩ ⟨xPre_blind, (fun U hU hW => ⟨rfl, xPre_of hZ hS hFc hPc hDc hK U hU hW⟩)⟩ rfl rfl hl.1 rfl (lv_room (Nat.le_of_ble_eq_true rfl)) dB_two_1 ⟨Nat.le_of_ble_eq_true rfl, Nat.le_of_ble_eq_true rfl⟩) hS (fun q _ h => hFc q h) hFc (fun r1 u9 t H1 locs ht hvm hr9 hB hz1 hk1 hS => ?_)
  obtain ⟨hP1, hK1, hD1⟩ := hB
  rw [ht] at hP1
  obtain ⟨hP, hD⟩ := xjoin (W := []) hP hD [] [] 0 rfl rfl (by decide) (by decide) hk1 hFc hP1 hD1
  generalize H1 = H at hP hS ⊢
  rw [hr9]
  refine W.eq (g2 := F0 m 4 ls [.int 1]) rfl ?_
  refine lv_if_eq (tgt := 35) hx hb dB_two_4 (by decide) (fun h => ((by revert h; decide : False)).elim) (fun _ => ?_)
  refine lv_iload_n hx hb dB_two_7 rfl (lv_at hl 2 rfl) ?_
  refine lv_bipush (v := 9) hx hb dB_two_8 (by decide) ?_
  obtain ⟨hPc, hDc, hFc⟩ := xcut (wc := []) hP hD hS hA [] rfl rfl (by decide)
  refine va_calli (va_runS (As := [.int x6, .int 9]) (rest := []) ⟨hx, hb, hml, hown, htx⟩ (cB_isWithin_40 l hl9 D cT aK aV H.size x6 h7 h8 h9) ⟨callB_of 2 htx (xw_goodC kw_1_218) rfl rfl rfl (htx _ kw_1_1) (htx _ kw_1_216) ⟨by decide, by decide, by decide +kernel⟩ ⟨Nat.le_of_ble_eq_true rfl, Nat.le_of_ble_eq_true rfl⟩, htx _ kw_1_217⟩ ⟨xPre_blind, (fun U hU hW => ⟨rfl, xPre_of hZ hS hFc hPc hDc hK U hU hW⟩)⟩ rfl rfl hl.1 rfl (lv_room (Nat.le_of_ble_eq_true rfl)) dB_two_10 ⟨Nat.le_of_ble_eq_true rfl, Nat.le_of_ble_eq_true rfl⟩) hS (fun q _ h => hFc q h) hFc (fun r2 u9 t H1 locs ht hvm hr9 hB hz1 hk1 hS => ?_)
  obtain ⟨hP1, hK1, hD1⟩ := hB
  rw [ht] at hP1
  obtain ⟨hP, hD⟩ := xjoin (W := []) hP hD [] [] 0 rfl rfl (by decide) (by decide) hk1 hFc hP1 hD1
  generalize H1 = H at hP hS ⊢
  rw [hr9]
  refine W.eq (g2 := F0 m 13 ls [.int 1]) rfl ?_
  refine lv_if_eq (tgt := 35) hx hb dB_two_13 (by decide) (fun h => ((by revert h; decide : False)).elim) (fun _ => ?_)
  refine lv_iload_n hx hb dB_two_16 rfl (lv_at hl 3 rfl) ?_
  obtain ⟨hPc, hDc, hFc⟩ := xcut (wc := []) hP hD hS hA [] rfl rfl (by decide)
  refine va_calli (va_runS (As := [.int x10]) (rest := []) ⟨hx, hb, hml, hown, htx⟩ (cB_isRegister_0 l hl9 D cT aK aV H.size x10 h11 h12 h13 h14) ⟨callB_of 1 htx (xw_goodC kw_2_18) rfl rfl rfl (htx _ kw_1_1) (htx _ kw_2_16) ⟨by decide, by decide, by decide +kernel⟩ ⟨Nat.le_of_ble_eq_true rfl, Nat.le_of_ble_eq_true rfl⟩, htx _ kw_2_17⟩ ⟨xPre_blind, (fun U hU hW => ⟨rfl, xPre_of hZ hS hFc hPc hDc hK U hU hW⟩)⟩ rfl rfl hl.1 rfl (lv_room (Nat.le_of_ble_eq_true rfl)) dB_two_17 ⟨Nat.le_of_ble_eq_true rfl, Nat.le_of_ble_eq_true rfl⟩) hS (fun q _ h => hFc q h) hFc (fun r3 u9 t H1 locs ht hvm hr9 hB hz1 hk1 hS => ?_)
  obtain ⟨hP1, hK1, hD1⟩ := hB
  rw [ht] at hP1
  obtain ⟨hP, hD⟩ := xjoin (W := []) hP hD [] [] 0 rfl rfl (by decide) (by decide) hk1 hFc hP1 hD1
  generalize H1 = H at hP hS ⊢
  rw [hr9]
  refine W.eq (g2 := F0 m 20 ls [.int 1]) rfl ?_
  refine lv_if_eq (tgt := 35) hx hb dB_two_20 (by decide) (fun h => ((by revert h; decide : False)).elim) (fun _ => ?_)
  refine lv_iload hx hb dB_two_23 (lv_at hl 4 rfl) ?_
  obtain ⟨hPc, hDc, hFc⟩ := xcut (wc := []) hP hD hS hA [] rfl rfl (by decide)
  refine va_calli (va_runS (As := [.int x15]) (rest := []) ⟨hx, hb, hml, hown, htx⟩ (cB_isRegister_2 l hl9 D cT aK aV H.size x15 h16 h17 h18) ⟨callB_of 1 htx (xw_goodC kw_2_18) rfl rfl rfl (htx _ kw_1_1) (htx _ kw_2_16) ⟨by decide, by decide, by decide +kernel⟩ ⟨Nat.le_of_ble_eq_true rfl, Nat.le_of_ble_eq_true rfl⟩, htx _ kw_2_17⟩ ⟨xPre_blind, (fun U hU hW => ⟨rfl, xPre_of hZ hS hFc hPc hDc hK U hU hW⟩)⟩ rfl rfl hl.1 rfl (lv_room (Nat.le_of_ble_eq_true rfl)) dB_two_25 ⟨Nat.le_of_ble_eq_true rfl, Nat.le_of_ble_eq_true rfl⟩) hS (fun q _ h => hFc q h) hFc (fun r4 u9 t H1 locs ht hvm hr9 hB hz1 hk1 hS => ?_)
  obtain ⟨hP1, hK1, hD1⟩ := hB
  rw [ht] at hP1
  obtain ⟨hP, hD⟩ := xjoin (W := []) hP hD [] [] 0 rfl rfl (by decide) (by decide) hk1 hFc hP1 hD1
  generalize H1 = H at hP hS ⊢
  rw [hr9]
  refine W.eq (g2 := F0 m 28 ls [.int 0]) rfl ?_
  refine lv_if_eq (tgt := 35) hx hb dB_two_28 (by decide) (fun _ => ?_) (fun h => ((by revert h; decide : False)).elim)
  refine lv_iconst (v := 0) hx hb dB_two_35 (by decide) ?_
  obtain ⟨hPc, hDc, hFc⟩ := xcut (wc := []) hP hD hS hA [] rfl rfl (by decide)
  refine xx_thr (vx_runS (As := [.int 0]) (rest := []) ⟨hx, hb, hml, hown, htx⟩ (cB_demand_1 l hl9 D cT aK aV H.size) ⟨callB_of 1 htx (xw_goodC kw_1_221) rfl rfl rfl (htx _ kw_1_1) (htx _ kw_1_219) ⟨by decide, by decide, by decide +kernel⟩ ⟨Nat.le_of_ble_eq_true rfl, Nat.le_of_ble_eq_true rfl⟩, htx _ kw_1_220⟩ ⟨xPre_blind, (fun U hU hW => ⟨rfl, xPre_of hZ hS hFc hPc hDc hK U hU hW⟩)⟩ rfl rfl hl.1 rfl (lv_room (Nat.le_of_ble_eq_true rfl)) dB_two_36 ⟨Nat.le_of_ble_eq_true rfl, Nat.le_of_ble_eq_true rfl⟩) hS hFc (fun q _ h => hFc q h) (fun E ce q9 u9 t H1 locs ht hvm _ hB hz1 hk1 hS hce hcv hcl => ?_)
  obtain ⟨rfl, hP1, hK1, hD1⟩ := hB
  rw [ht] at hP1
  obtain ⟨hP, hD⟩ := xjoin (W := []) hP hD [] [] 0 rfl rfl (by decide) (by decide) hk1 hFc hP1 hD1
  generalize H1 = H at hP hS hce ⊢
  obtain ⟨hP9, hD9⟩ := xsub (wc := []) hP hD [] rfl rfl (by decide)
  exact vx_out (E := "java/lang/IllegalArgumentException") (fun x h => (hne x h).elim) hlocks hce hcv hcl (fun t ht ha => ⟨(), trivial, ⟨rfl, by rw [ht]; exact hP9, va_K.moved ha hK, hD9⟩, hS.F ht⟩) hS.2.2 (Nat.le_of_ble_eq_true rfl) (Nat.le_of_ble_eq_true rfl)
set_option maxHeartbeats 400000000 in
set_option maxRecDepth 100000 in
theorem cL_two_27 (l : Launch) (hl9 : l.stackTraces = false) (D : va_G) (cT : Nat → ClassId) (aK aV : Nat → Nat) (sz : Nat) (a0 : Nat) (x1 : Int32) (x6 : Int32) (x10 : Int32) (x15 : Int32) (v19 : Value) (v20 : Value) (v21 : Value) (v22 : Value) (v23 : Value) (v24 : Value) (v25 : Value) (v26 : Value) (h2 : ¬ x1 < 0) (h3 : ¬ 7 < x1) (h4 : x1 ≤ 7) (h5 : vp_in x1 8) (h7 : ¬ x6 < 0) (h8 : ¬ 9 < x6) (h9 : x6 ≤ 9) (h11 : ¬ x10 < 0) (h12 : ¬ 7 < x10) (h13 : x10 ≤ 7) (h14 : vp_in x10 8) (h16 : ¬ x15 < 0) (h17 : 7 < x15) (h18 : ¬ x15 ≤ 7) : xMet l yL_two wyL_two 8 1 6 144 D cT aK aV sz [.ref a0, .int x1, .int x6, .int x10, .int x15] [(a0, .inr (0, [v19, v20, v21, v22, v23, v24, v25, v26]))] (fun A => va_Qi (fun (r : Int32) (_ : Unit) => r = 1) (fun _ t => xB D xcl cT A [(a0, .inr (0, [v19, v20, v21, v22, v23, v24, v25, v26]))] t) A) := by
  refine va_MetW (cc := method_11_code) (maxL := 6) (ret := (some .int)) (hh := [(0, 9, 12, 19), (0, 9, 16, 33), (0, 9, 20, 13)]) (by decide) rfl ?_
  intro p e s m args below meth c s₁ B hml hv
  obtain ⟨rfl, hsz, hZ, hP, hK, hD0⟩ := hv
  have hx := B.exec
  have hb := B.bytes
  have hr := B.returns
  have hts := atoms_spec (ws := wyL_two) B.pre
  have htx := fun w h => hts w (List.mem_cons_of_mem _ h)
  have hown : s.vm.findClass "ValueBenchLaw" = some m.cls := findClass_of_methodNamed B.named
  have hlocks := B.notSynchronized
  subst hsz
  have hD := hD0.self (sz := s.heap.size)
  generalize hAe : va_A [(a0, .inr (0, [v19, v20, v21, v22, v23, v24, v25, v26]))] s.heap.size = A at hD hZ ⊢
  have hA : ∀ q : Nat, s.heap.size ≤ q → A q := fun q h => by rw [← hAe]; exact Or.inr h
  have hS : va_S A s.heap s.heap [] := va_S.rf
  have hP : va_P D xcl [(a0, .inr (0, [v19, v20, v21, v22, v23, v24, v25, v26]))] s.heap := hP
  have hl := lv_entry ([.ref a0, .int x1, .int x6, .int x10, .int x15]) (n := 6) (Nat.le_of_ble_eq_true rfl)
  rw [lg_entry_eq]
  generalize (lg_sl ([.ref a0, .int x1, .int x6, .int x10, .int x15]) ++ List.replicate (6 - (lg_sl ([.ref a0, .int x1, .int x6, .int x10, .int x15])).length) Slot.unset).toArray = ls at hl ⊢
  have hl : lv_has ls 6 [(0, .ref a0), (1, .int x1), (2, .int x6), (3, .int x10), (4, .int x15)] := hl
  have htab := vx_table (x := yL_two) B (hts _ List.mem_cons_self)
  refine lv_aload_n hx hb dL_two_0 rfl (lv_at hl 0 rfl) ?_
  refine lv_iload_n hx hb dL_two_1 rfl (lv_at hl 1 rfl) ?_
  refine lv_iload_n hx hb dL_two_2 rfl (lv_at hl 2 rfl) ?_
  refine lv_iload_n hx hb dL_two_3 rfl (lv_at hl 3 rfl) ?_
  refine lv_iload hx hb dL_two_4 (lv_at hl 4 rfl) ?_
  obtain ⟨hPc, hDc, hFc⟩ := xcut (wc := []) hP hD hS hA [] rfl rfl (by decide)
  refine xx_thr (vx_runV (C := "ValueBench") (As := [.int x1, .int x6, .int x10, .int x15]) (rest := []) ⟨hx, hb, hml, hown, htx⟩ (cB_two_27 l hl9 D cT aK aV s.heap.size a0 x1 x6 x10 x15 h2 h3 h4 h5 h7 h8 h9 h11 h12 h13 h14 h16 h17 h18) ⟨callB_of 4 htx (xw_goodC kw_4_143) rfl rfl rfl (htx _ kw_1_1) (htx _ kw_4_140) ⟨by decide, by decide, by decide +kernel⟩ ⟨Nat.le_of_ble_eq_true rfl, Nat.le_of_ble_eq_true rfl⟩, (htx _ kw_4_141), (htx _ kw_4_142)⟩ ⟨xPre_blind, va_recv hK hP (ci := 0) rfl (q0 := 0) rfl, (fun U hU hW => ⟨rfl, xPre_of hZ hS hFc hPc hDc hK U hU hW⟩)⟩ rfl rfl hl.1 rfl (lv_room (Nat.le_of_ble_eq_true rfl)) dL_two_6 ⟨Nat.le_of_ble_eq_true rfl, Nat.le_of_ble_eq_true rfl⟩) hS hFc (fun q _ h => hFc q h) (fun E ce q9 u9 t H1 locs ht hvm _ hB hz1 hk1 hS hce hcv hcl => ?_)
  obtain ⟨rfl, hP1, hK1, hD1⟩ := hB
  rw [ht] at hP1
  obtain ⟨hP, hD⟩ := xjoin (W := [(a0, .inr (0, [v19, v20, v21, v22, v23, v24, v25, v26]))]) hP hD [] [0] 1 rfl rfl (by decide) (by decide) hk1 hFc hP1 hD1
  generalize H1 = H at hP hS hce ⊢
  refine vx_catch (own := "ValueBenchLaw") (name := "java/lang/IllegalArgumentException") (E := "java/lang/IllegalArgumentException") hown [] ⟨0, 9, 12, 19⟩ [⟨0, 9, 16, 33⟩, ⟨0, 9, 20, 13⟩] (by rw [htab]; rfl) (fun z hz => nomatch hz) (by decide) (by decide) (htx _ kw_1_211) ((hZ.2.2.2.2.2.1 _ (List.mem_of_getElem? (i := 1) rfl)).use rfl) hce hcv hcl ?_
  refine lv_astore (lv' := [(5, .ref q9), (0, .ref a0), (1, .int x1), (2, .int x6), (3, .int x10), (4, .int x15)]) hx hb dL_two_12 hl (by decide) rfl (fun ls hl => ?_)
  refine lv_iconst (v := 1) hx hb dL_two_14 (by decide) ?_
  obtain ⟨hP9, hD9⟩ := xsub (wc := [(a0, .inr (0, [v19, v20, v21, v22, v23, v24, v25, v26]))]) hP hD [0] rfl rfl (by decide)
  refine W.widen (k := 1) (n := 6) (Nat.le_of_ble_eq_true rfl) (Nat.le_of_ble_eq_true rfl) ?_
  exact W.iret (v := 1) hx hb hr (fun t ht hW => ⟨⟨1, (), rfl, rfl, by rw [ht]; exact hP9, va_K.moved hW.alike hK, hD9⟩, hS.F ht⟩) hS.2.2 dL_two_15
set_option maxHeartbeats 400000000 in
set_option maxRecDepth 100000 in
theorem cB_sort_14 (l : Launch) (hl9 : l.stackTraces = false) (D : va_G) (cT : Nat → ClassId) (aK aV : Nat → Nat) (sz : Nat) (b0 : Nat) (x1 : Int32) (x5 : Int32) (x6 : Int32) (x7 : Int32) (h2 : ¬ x1 < 0) (h3 : 7 < x1) (h4 : ¬ x1 ≤ 7) : xMetX l yB_sort wyB_sort 7 1 6 120 D cT aK aV sz [.ref b0, .int x1, .int x5, .int x6, .int x7] [] "java/lang/IllegalArgumentException" (fun A t => xB D xcl cT A [] t) := by
  refine vx_ofW (cc := prog_1_method_11_code) (maxL := 5) (ret := none) (by decide) rfl ?_
  intro p e s m args below meth c s₁ B hml hne hv
  obtain ⟨rfl, hsz, hZ, hP, hK, hD0⟩ := hv
  have hx := B.exec
  have hb := B.bytes
  have hr := B.returns
  have hts := atoms_spec (ws := wyB_sort) B.pre
  have htx := fun w h => hts w (List.mem_cons_of_mem _ h)
  have hown : s.vm.findClass "ValueBench" = some m.cls := findClass_of_methodNamed B.named
  have hlocks := B.notSynchronized
  subst hsz
  have hD := hD0.self (sz := s.heap.size)
  generalize hAe : va_A [] s.heap.size = A at hD hZ ⊢
  have hA : ∀ q : Nat, s.heap.size ≤ q → A q := fun q h => by rw [← hAe]; exact Or.inr h
  have hS : va_S A s.heap s.heap [] := va_S.rf
  have hP : va_P D xcl [] s.heap := hP
  have hl := lv_entry ([.ref b0, .int x1, .int x5, .int x6, .int x7]) (n := 5) (Nat.le_of_ble_eq_true rfl)
  rw [lg_entry_eq]
  generalize (lg_sl ([.ref b0, .int x1, .int x5, .int x6, .int x7]) ++ List.replicate (5 - (lg_sl ([.ref b0, .int x1, .int x5, .int x6, .int x7])).length) Slot.unset).toArray = ls at hl ⊢
  have hl : lv_has ls 5 [(0, .ref b0), (1, .int x1), (2, .int x5), (3, .int x6), (4, .int x7)] := hl
  refine lv_iload_n hx hb dB_sort_0 rfl (lv_at hl 1 rfl) ?_
  obtain ⟨hPc, hDc, hFc⟩ := xcut (wc := []) hP hD hS hA [] rfl rfl (by decide)
  refine va_calli (va_runS (As := [.int x1]) (rest := []) ⟨hx, hb, hml, hown, htx⟩ (cB_isRegister_2 l hl9 D cT aK aV s.heap.size x1 h2 h3 h4) ⟨callB_of 1 htx (xw_goodC kw_2_18) rfl rfl rfl (htx _ kw_1_1) (htx _ kw_2_16) ⟨by decide, by decide, by decide +kernel⟩ ⟨Nat.le_of_ble_eq_true rfl, Nat.le_of_ble_eq_true rfl⟩, htx _ kw_2_17⟩ ⟨xPre_blind, (fun U hU hW => ⟨rfl, xPre_of hZ hS hFc hPc hDc hK U hU hW⟩)⟩ rfl rfl hl.1 rfl (lv_room (Nat.le_of_ble_eq_true rfl)) dB_sort_1 ⟨Nat.le_of_ble_eq_true rfl, Nat.le_of_ble_eq_true rfl⟩) hS (fun q _ h => hFc q h) hFc (fun r1 u9 t H1 locs ht hvm hr9 hB hz1 hk1 hS => ?_)
  obtain ⟨hP1, hK1, hD1⟩ := hB
  rw [ht] at hP1
  obtain ⟨hP, hD⟩ := xjoin (W := []) hP hD [] [] 0 rfl rfl (by decide) (by decide) hk1 hFc hP1 hD1
  generalize H1 = H at hP hS ⊢
  rw [hr9]
  refine W.eq (g2 := F0 m 4 ls [.int 0]) rfl ?_
  refine lv_if_eq (tgt := 34) hx hb dB_sort_4 (by decide) (fun _ => ?_) (fun h => ((by revert h; decide : False)).elim)
  refine lv_iconst (v := 0) hx hb dB_sort_34 (by decide) ?_
  obtain ⟨hPc, hDc, hFc⟩ := xcut (wc := []) hP hD hS hA [] rfl rfl (by decide)
  refine xx_thr (vx_runS (As := [.int 0]) (rest := []) ⟨hx, hb, hml, hown, htx⟩ (cB_demand_1 l hl9 D cT aK aV H.size) ⟨callB_of 1 htx (xw_goodC kw_1_221) rfl rfl rfl (htx _ kw_1_1) (htx _ kw_1_219) ⟨by decide, by decide, by decide +kernel⟩ ⟨Nat.le_of_ble_eq_true rfl, Nat.le_of_ble_eq_true rfl⟩, htx _ kw_1_220⟩ ⟨xPre_blind, (fun U hU hW => ⟨rfl, xPre_of hZ hS hFc hPc hDc hK U hU hW⟩)⟩ rfl rfl hl.1 rfl (lv_room (Nat.le_of_ble_eq_true rfl)) dB_sort_35 ⟨Nat.le_of_ble_eq_true rfl, Nat.le_of_ble_eq_true rfl⟩) hS hFc (fun q _ h => hFc q h) (fun E ce q9 u9 t H1 locs ht hvm _ hB hz1 hk1 hS hce hcv hcl => ?_)
  obtain ⟨rfl, hP1, hK1, hD1⟩ := hB
  rw [ht] at hP1
  obtain ⟨hP, hD⟩ := xjoin (W := []) hP hD [] [] 0 rfl rfl (by decide) (by decide) hk1 hFc hP1 hD1
  generalize H1 = H at hP hS hce ⊢
  obtain ⟨hP9, hD9⟩ := xsub (wc := []) hP hD [] rfl rfl (by decide)
  exact vx_out (E := "java/lang/IllegalArgumentException") (fun x h => (hne x h).elim) hlocks hce hcv hcl (fun t ht ha => ⟨(), trivial, ⟨rfl, by rw [ht]; exact hP9, va_K.moved ha hK, hD9⟩, hS.F ht⟩) hS.2.2 (Nat.le_of_ble_eq_true rfl) (Nat.le_of_ble_eq_true rfl)
set_option maxHeartbeats 400000000 in
set_option maxRecDepth 100000 in
theorem cL_sort_14 (l : Launch) (hl9 : l.stackTraces = false) (D : va_G) (cT : Nat → ClassId) (aK aV : Nat → Nat) (sz : Nat) (a0 : Nat) (x1 : Int32) (x5 : Int32) (x6 : Int32) (x7 : Int32) (v8 : Value) (v9 : Value) (v10 : Value) (v11 : Value) (v12 : Value) (v13 : Value) (v14 : Value) (v15 : Value) (h2 : ¬ x1 < 0) (h3 : 7 < x1) (h4 : ¬ x1 ≤ 7) : xMet l yL_sort wyL_sort 8 1 6 144 D cT aK aV sz [.ref a0, .int x1, .int x5, .int x6, .int x7] [(a0, .inr (0, [v8, v9, v10, v11, v12, v13, v14, v15]))] (fun A => va_Qi (fun (r : Int32) (_ : Unit) => r = 1) (fun _ t => xB D xcl cT A [(a0, .inr (0, [v8, v9, v10, v11, v12, v13, v14, v15]))] t) A) := by
  refine va_MetW (cc := method_12_code) (maxL := 6) (ret := (some .int)) (hh := [(0, 9, 12, 19), (0, 9, 16, 33), (0, 9, 20, 13)]) (by decide) rfl ?_
  intro p e s m args below meth c s₁ B hml hv
  obtain ⟨rfl, hsz, hZ, hP, hK, hD0⟩ := hv
  have hx := B.exec
  have hb := B.bytes
  have hr := B.returns
  have hts := atoms_spec (ws := wyL_sort) B.pre
  have htx := fun w h => hts w (List.mem_cons_of_mem _ h)
  have hown : s.vm.findClass "ValueBenchLaw" = some m.cls := findClass_of_methodNamed B.named
  have hlocks := B.notSynchronized
  subst hsz
  have hD := hD0.self (sz := s.heap.size)
  generalize hAe : va_A [(a0, .inr (0, [v8, v9, v10, v11, v12, v13, v14, v15]))] s.heap.size = A at hD hZ ⊢
  have hA : ∀ q : Nat, s.heap.size ≤ q → A q := fun q h => by rw [← hAe]; exact Or.inr h
  have hS : va_S A s.heap s.heap [] := va_S.rf
  have hP : va_P D xcl [(a0, .inr (0, [v8, v9, v10, v11, v12, v13, v14, v15]))] s.heap := hP
  have hl := lv_entry ([.ref a0, .int x1, .int x5, .int x6, .int x7]) (n := 6) (Nat.le_of_ble_eq_true rfl)
  rw [lg_entry_eq]
  generalize (lg_sl ([.ref a0, .int x1, .int x5, .int x6, .int x7]) ++ List.replicate (6 - (lg_sl ([.ref a0, .int x1, .int x5, .int x6, .int x7])).length) Slot.unset).toArray = ls at hl ⊢
  have hl : lv_has ls 6 [(0, .ref a0), (1, .int x1), (2, .int x5), (3, .int x6), (4, .int x7)] := hl
  have htab := vx_table (x := yL_sort) B (hts _ List.mem_cons_self)
  refine lv_aload_n hx hb dL_sort_0 rfl (lv_at hl 0 rfl) ?_
  refine lv_iload_n hx hb dL_sort_1 rfl (lv_at hl 1 rfl) ?_
  refine lv_iload_n hx hb dL_sort_2 rfl (lv_at hl 2 rfl) ?_
  refine lv_iload_n hx hb dL_sort_3 rfl (lv_at hl 3 rfl) ?_
  refine lv_iload hx hb dL_sort_4 (lv_at hl 4 rfl) ?_
  obtain ⟨hPc, hDc, hFc⟩ := xcut (wc := []) hP hD hS hA [] rfl rfl (by decide)
  refine xx_thr (vx_runV (C := "ValueBench") (As := [.int x1, .int x5, .int x6, .int x7]) (rest := []) ⟨hx, hb, hml, hown, htx⟩ (cB_sort_14 l hl9 D cT aK aV s.heap.size a0 x1 x5 x6 x7 h2 h3 h4) ⟨callB_of 4 htx (xw_goodC kw_5_18) rfl rfl rfl (htx _ kw_1_1) (htx _ kw_5_15) ⟨by decide, by decide, by decide +kernel⟩ ⟨Nat.le_of_ble_eq_true rfl, Nat.le_of_ble_eq_true rfl⟩, (htx _ kw_5_16), (htx _ kw_5_17)⟩ ⟨xPre_blind, va_recv hK hP (ci := 0) rfl (q0 := 0) rfl, (fun U hU hW => ⟨rfl, xPre_of hZ hS hFc hPc hDc hK U hU hW⟩)⟩ rfl rfl hl.1 rfl (lv_room (Nat.le_of_ble_eq_true rfl)) dL_sort_6 ⟨Nat.le_of_ble_eq_true rfl, Nat.le_of_ble_eq_true rfl⟩) hS hFc (fun q _ h => hFc q h) (fun E ce q9 u9 t H1 locs ht hvm _ hB hz1 hk1 hS hce hcv hcl => ?_)
  obtain ⟨rfl, hP1, hK1, hD1⟩ := hB
  rw [ht] at hP1
  obtain ⟨hP, hD⟩ := xjoin (W := [(a0, .inr (0, [v8, v9, v10, v11, v12, v13, v14, v15]))]) hP hD [] [0] 1 rfl rfl (by decide) (by decide) hk1 hFc hP1 hD1
  generalize H1 = H at hP hS hce ⊢
  refine vx_catch (own := "ValueBenchLaw") (name := "java/lang/IllegalArgumentException") (E := "java/lang/IllegalArgumentException") hown [] ⟨0, 9, 12, 19⟩ [⟨0, 9, 16, 33⟩, ⟨0, 9, 20, 13⟩] (by rw [htab]; rfl) (fun z hz => nomatch hz) (by decide) (by decide) (htx _ kw_1_211) ((hZ.2.2.2.2.2.1 _ (List.mem_of_getElem? (i := 1) rfl)).use rfl) hce hcv hcl ?_
  refine lv_astore (lv' := [(5, .ref q9), (0, .ref a0), (1, .int x1), (2, .int x5), (3, .int x6), (4, .int x7)]) hx hb dL_sort_12 hl (by decide) rfl (fun ls hl => ?_)
  refine lv_iconst (v := 1) hx hb dL_sort_14 (by decide) ?_
  obtain ⟨hP9, hD9⟩ := xsub (wc := [(a0, .inr (0, [v8, v9, v10, v11, v12, v13, v14, v15]))]) hP hD [0] rfl rfl (by decide)
  refine W.widen (k := 1) (n := 6) (Nat.le_of_ble_eq_true rfl) (Nat.le_of_ble_eq_true rfl) ?_
  exact W.iret (v := 1) hx hb hr (fun t ht hW => ⟨⟨1, (), rfl, rfl, by rw [ht]; exact hP9, va_K.moved hW.alike hK, hD9⟩, hS.F ht⟩) hS.2.2 dL_sort_15
set_option maxHeartbeats 400000000 in
set_option maxRecDepth 100000 in
theorem cB_sort_15 (l : Launch) (hl9 : l.stackTraces = false) (D : va_G) (cT : Nat → ClassId) (aK aV : Nat → Nat) (sz : Nat) (b0 : Nat) (x1 : Int32) (x6 : Int32) (x10 : Int32) (x11 : Int32) (h2 : ¬ x1 < 0) (h3 : ¬ 7 < x1) (h4 : x1 ≤ 7) (h5 : vp_in x1 8) (h7 : ¬ x6 < 0) (h8 : 4 < x6) (h9 : ¬ x6 ≤ 4) : xMetX l yB_sort wyB_sort 7 1 6 120 D cT aK aV sz [.ref b0, .int x1, .int x6, .int x10, .int x11] [] "java/lang/IllegalArgumentException" (fun A t => xB D xcl cT A [] t) := by
  refine vx_ofW (cc := prog_1_method_11_code) (maxL := 5) (ret := none) (by decide) rfl ?_
  intro p e s m args below meth c s₁ B hml hne hv
  obtain ⟨rfl, hsz, hZ, hP, hK, hD0⟩ := hv
  have hx := B.exec
  have hb := B.bytes
  have hr := B.returns
  have hts := atoms_spec (ws := wyB_sort) B.pre
  have htx := fun w h => hts w (List.mem_cons_of_mem _ h)
  have hown : s.vm.findClass "ValueBench" = some m.cls := findClass_of_methodNamed B.named
  have hlocks := B.notSynchronized
  subst hsz
  have hD := hD0.self (sz := s.heap.size)
  generalize hAe : va_A [] s.heap.size = A at hD hZ ⊢
  have hA : ∀ q : Nat, s.heap.size ≤ q → A q := fun q h => by rw [← hAe]; exact Or.inr h
  have hS : va_S A s.heap s.heap [] := va_S.rf
  have hP : va_P D xcl [] s.heap := hP
  have hl := lv_entry ([.ref b0, .int x1, .int x6, .int x10, .int x11]) (n := 5) (Nat.le_of_ble_eq_true rfl)
  rw [lg_entry_eq]
  generalize (lg_sl ([.ref b0, .int x1, .int x6, .int x10, .int x11]) ++ List.replicate (5 - (lg_sl ([.ref b0, .int x1, .int x6, .int x10, .int x11])).length) Slot.unset).toArray = ls at hl ⊢
  have hl : lv_has ls 5 [(0, .ref b0), (1, .int x1), (2, .int x6), (3, .int x10), (4, .int x11)] := hl
  refine lv_iload_n hx hb dB_sort_0 rfl (lv_at hl 1 rfl) ?_
  obtain ⟨hPc, hDc, hFc⟩ := xcut (wc := []) hP hD hS hA [] rfl rfl (by decide)
  refine va_calli (va_runS (As := [.int x1]) (rest := []) ⟨hx, hb, hml, hown, htx⟩ (cB_isRegister_0 l hl9 D cT aK aV s.heap.size x1 h2 h3 h4 h5) ⟨callB_of 1 htx (xw_goodC kw_2_18) rfl rfl rfl (htx _ kw_1_1) (htx _ kw_2_16) ⟨by decide, by decide, by decide +kernel⟩ ⟨Nat.le_of_ble_eq_true rfl, Nat.le_of_ble_eq_true rfl⟩, htx _ kw_2_17⟩ ⟨xPre_blind, (fun U hU hW => ⟨rfl, xPre_of hZ hS hFc hPc hDc hK U hU hW⟩)⟩ rfl rfl hl.1 rfl (lv_room (Nat.le_of_ble_eq_true rfl)) dB_sort_1 ⟨Nat.le_of_ble_eq_true rfl, Nat.le_of_ble_eq_true rfl⟩) hS (fun q _ h => hFc q h) hFc (fun r1 u9 t H1 locs ht hvm hr9 hB hz1 hk1 hS => ?_)
  obtain ⟨hP1, hK1, hD1⟩ := hB
  rw [ht] at hP1
  obtain ⟨hP, hD⟩ := xjoin (W := []) hP hD [] [] 0 rfl rfl (by decide) (by decide) hk1 hFc hP1 hD1
  generalize H1 = H at hP hS ⊢
  rw [hr9]
  refine W.eq (g2 := F0 m 4 ls [.int 1]) rfl ?_
  refine lv_if_eq (tgt := 34) hx hb dB_sort_4 (by decide) (fun h => ((by revert h; decide : False)).elim) (fun _ => ?_)
  refine lv_iload_n hx hb dB_sort_7 rfl (lv_at hl 2 rfl) ?_
  refine lv_iconst (v := 4) hx hb dB_sort_8 (by decide) ?_
  obtain ⟨hPc, hDc, hFc⟩ := xcut (wc := []) hP hD hS hA [] rfl rfl (by decide)
  refine va_calli (va_runS (As := [.int x6, .int 4]) (rest := []) ⟨hx, hb, hml, hown, htx⟩ (cB_isWithin_42 l hl9 D cT aK aV H.size x6 h7 h8 h9) ⟨callB_of 2 htx (xw_goodC kw_1_218) rfl rfl rfl (htx _ kw_1_1) (htx _ kw_1_216) ⟨by decide, by decide, by decide +kernel⟩ ⟨Nat.le_of_ble_eq_true rfl, Nat.le_of_ble_eq_true rfl⟩, htx _ kw_1_217⟩ ⟨xPre_blind, (fun U hU hW => ⟨rfl, xPre_of hZ hS hFc hPc hDc hK U hU hW⟩)⟩ rfl rfl hl.1 rfl (lv_room (Nat.le_of_ble_eq_true rfl)) dB_sort_9 ⟨Nat.le_of_ble_eq_true rfl, Nat.le_of_ble_eq_true rfl⟩) hS (fun q _ h => hFc q h) hFc (fun r2 u9 t H1 locs ht hvm hr9 hB hz1 hk1 hS => ?_)
  obtain ⟨hP1, hK1, hD1⟩ := hB
  rw [ht] at hP1
  obtain ⟨hP, hD⟩ := xjoin (W := []) hP hD [] [] 0 rfl rfl (by decide) (by decide) hk1 hFc hP1 hD1
  generalize H1 = H at hP hS ⊢
  rw [hr9]
  refine W.eq (g2 := F0 m 12 ls [.int 0]) rfl ?_
  refine lv_if_eq (tgt := 34) hx hb dB_sort_12 (by decide) (fun _ => ?_) (fun h => ((by revert h; decide : False)).elim)
  refine lv_iconst (v := 0) hx hb dB_sort_34 (by decide) ?_
  obtain ⟨hPc, hDc, hFc⟩ := xcut (wc := []) hP hD hS hA [] rfl rfl (by decide)
  refine xx_thr (vx_runS (As := [.int 0]) (rest := []) ⟨hx, hb, hml, hown, htx⟩ (cB_demand_1 l hl9 D cT aK aV H.size) ⟨callB_of 1 htx (xw_goodC kw_1_221) rfl rfl rfl (htx _ kw_1_1) (htx _ kw_1_219) ⟨by decide, by decide, by decide +kernel⟩ ⟨Nat.le_of_ble_eq_true rfl, Nat.le_of_ble_eq_true rfl⟩, htx _ kw_1_220⟩ ⟨xPre_blind, (fun U hU hW => ⟨rfl, xPre_of hZ hS hFc hPc hDc hK U hU hW⟩)⟩ rfl rfl hl.1 rfl (lv_room (Nat.le_of_ble_eq_true rfl)) dB_sort_35 ⟨Nat.le_of_ble_eq_true rfl, Nat.le_of_ble_eq_true rfl⟩) hS hFc (fun q _ h => hFc q h) (fun E ce q9 u9 t H1 locs ht hvm _ hB hz1 hk1 hS hce hcv hcl => ?_)
  obtain ⟨rfl, hP1, hK1, hD1⟩ := hB
  rw [ht] at hP1
  obtain ⟨hP, hD⟩ := xjoin (W := []) hP hD [] [] 0 rfl rfl (by decide) (by decide) hk1 hFc hP1 hD1
  generalize H1 = H at hP hS hce ⊢
  obtain ⟨hP9, hD9⟩ := xsub (wc := []) hP hD [] rfl rfl (by decide)
  exact vx_out (E := "java/lang/IllegalArgumentException") (fun x h => (hne x h).elim) hlocks hce hcv hcl (fun t ht ha => ⟨(), trivial, ⟨rfl, by rw [ht]; exact hP9, va_K.moved ha hK, hD9⟩, hS.F ht⟩) hS.2.2 (Nat.le_of_ble_eq_true rfl) (Nat.le_of_ble_eq_true rfl)
set_option maxHeartbeats 400000000 in
set_option maxRecDepth 100000 in
theorem cL_sort_15 (l : Launch) (hl9 : l.stackTraces = false) (D : va_G) (cT : Nat → ClassId) (aK aV : Nat → Nat) (sz : Nat) (a0 : Nat) (x1 : Int32) (x6 : Int32) (x10 : Int32) (x11 : Int32) (v12 : Value) (v13 : Value) (v14 : Value) (v15 : Value) (v16 : Value) (v17 : Value) (v18 : Value) (v19 : Value) (h2 : ¬ x1 < 0) (h3 : ¬ 7 < x1) (h4 : x1 ≤ 7) (h5 : vp_in x1 8) (h7 : ¬ x6 < 0) (h8 : 4 < x6) (h9 : ¬ x6 ≤ 4) : xMet l yL_sort wyL_sort 8 1 6 144 D cT aK aV sz [.ref a0, .int x1, .int x6, .int x10, .int x11] [(a0, .inr (0, [v12, v13, v14, v15, v16, v17, v18, v19]))] (fun A => va_Qi (fun (r : Int32) (_ : Unit) => r = 1) (fun _ t => xB D xcl cT A [(a0, .inr (0, [v12, v13, v14, v15, v16, v17, v18, v19]))] t) A) := by
  refine va_MetW (cc := method_12_code) (maxL := 6) (ret := (some .int)) (hh := [(0, 9, 12, 19), (0, 9, 16, 33), (0, 9, 20, 13)]) (by decide) rfl ?_
  intro p e s m args below meth c s₁ B hml hv
  obtain ⟨rfl, hsz, hZ, hP, hK, hD0⟩ := hv
  have hx := B.exec
  have hb := B.bytes
  have hr := B.returns
  have hts := atoms_spec (ws := wyL_sort) B.pre
  have htx := fun w h => hts w (List.mem_cons_of_mem _ h)
  have hown : s.vm.findClass "ValueBenchLaw" = some m.cls := findClass_of_methodNamed B.named
  have hlocks := B.notSynchronized
  subst hsz
  have hD := hD0.self (sz := s.heap.size)
  generalize hAe : va_A [(a0, .inr (0, [v12, v13, v14, v15, v16, v17, v18, v19]))] s.heap.size = A at hD hZ ⊢
  have hA : ∀ q : Nat, s.heap.size ≤ q → A q := fun q h => by rw [← hAe]; exact Or.inr h
  have hS : va_S A s.heap s.heap [] := va_S.rf
  have hP : va_P D xcl [(a0, .inr (0, [v12, v13, v14, v15, v16, v17, v18, v19]))] s.heap := hP
  have hl := lv_entry ([.ref a0, .int x1, .int x6, .int x10, .int x11]) (n := 6) (Nat.le_of_ble_eq_true rfl)
  rw [lg_entry_eq]
  generalize (lg_sl ([.ref a0, .int x1, .int x6, .int x10, .int x11]) ++ List.replicate (6 - (lg_sl ([.ref a0, .int x1, .int x6, .int x10, .int x11])).length) Slot.unset).toArray = ls at hl ⊢
  have hl : lv_has ls 6 [(0, .ref a0), (1, .int x1), (2, .int x6), (3, .int x10), (4, .int x11)] := hl
  have htab := vx_table (x := yL_sort) B (hts _ List.mem_cons_self)
  refine lv_aload_n hx hb dL_sort_0 rfl (lv_at hl 0 rfl) ?_
  refine lv_iload_n hx hb dL_sort_1 rfl (lv_at hl 1 rfl) ?_
  refine lv_iload_n hx hb dL_sort_2 rfl (lv_at hl 2 rfl) ?_
  refine lv_iload_n hx hb dL_sort_3 rfl (lv_at hl 3 rfl) ?_
  refine lv_iload hx hb dL_sort_4 (lv_at hl 4 rfl) ?_
  obtain ⟨hPc, hDc, hFc⟩ := xcut (wc := []) hP hD hS hA [] rfl rfl (by decide)
  refine xx_thr (vx_runV (C := "ValueBench") (As := [.int x1, .int x6, .int x10, .int x11]) (rest := []) ⟨hx, hb, hml, hown, htx⟩ (cB_sort_15 l hl9 D cT aK aV s.heap.size a0 x1 x6 x10 x11 h2 h3 h4 h5 h7 h8 h9) ⟨callB_of 4 htx (xw_goodC kw_5_18) rfl rfl rfl (htx _ kw_1_1) (htx _ kw_5_15) ⟨by decide, by decide, by decide +kernel⟩ ⟨Nat.le_of_ble_eq_true rfl, Nat.le_of_ble_eq_true rfl⟩, (htx _ kw_5_16), (htx _ kw_5_17)⟩ ⟨xPre_blind, va_recv hK hP (ci := 0) rfl (q0 := 0) rfl, (fun U hU hW => ⟨rfl, xPre_of hZ hS hFc hPc hDc hK U hU hW⟩)⟩ rfl rfl hl.1 rfl (lv_room (Nat.le_of_ble_eq_true rfl)) dL_sort_6 ⟨Nat.le_of_ble_eq_true rfl, Nat.le_of_ble_eq_true rfl⟩) hS hFc (fun q _ h => hFc q h) (fun E ce q9 u9 t H1 locs ht hvm _ hB hz1 hk1 hS hce hcv hcl => ?_)
  obtain ⟨rfl, hP1, hK1, hD1⟩ := hB
  rw [ht] at hP1
  obtain ⟨hP, hD⟩ := xjoin (W := [(a0, .inr (0, [v12, v13, v14, v15, v16, v17, v18, v19]))]) hP hD [] [0] 1 rfl rfl (by decide) (by decide) hk1 hFc hP1 hD1
  generalize H1 = H at hP hS hce ⊢
  refine vx_catch (own := "ValueBenchLaw") (name := "java/lang/IllegalArgumentException") (E := "java/lang/IllegalArgumentException") hown [] ⟨0, 9, 12, 19⟩ [⟨0, 9, 16, 33⟩, ⟨0, 9, 20, 13⟩] (by rw [htab]; rfl) (fun z hz => nomatch hz) (by decide) (by decide) (htx _ kw_1_211) ((hZ.2.2.2.2.2.1 _ (List.mem_of_getElem? (i := 1) rfl)).use rfl) hce hcv hcl ?_
  refine lv_astore (lv' := [(5, .ref q9), (0, .ref a0), (1, .int x1), (2, .int x6), (3, .int x10), (4, .int x11)]) hx hb dL_sort_12 hl (by decide) rfl (fun ls hl => ?_)
  refine lv_iconst (v := 1) hx hb dL_sort_14 (by decide) ?_
  obtain ⟨hP9, hD9⟩ := xsub (wc := [(a0, .inr (0, [v12, v13, v14, v15, v16, v17, v18, v19]))]) hP hD [0] rfl rfl (by decide)
  refine W.widen (k := 1) (n := 6) (Nat.le_of_ble_eq_true rfl) (Nat.le_of_ble_eq_true rfl) ?_
  exact W.iret (v := 1) hx hb hr (fun t ht hW => ⟨⟨1, (), rfl, rfl, by rw [ht]; exact hP9, va_K.moved hW.alike hK, hD9⟩, hS.F ht⟩) hS.2.2 dL_sort_15
set_option maxHeartbeats 400000000 in
set_option maxRecDepth 100000 in
theorem cB_sort_16 (l : Launch) (hl9 : l.stackTraces = false) (D : va_G) (cT : Nat → ClassId) (aK aV : Nat → Nat) (sz : Nat) (b0 : Nat) (x1 : Int32) (x6 : Int32) (x10 : Int32) (x14 : Int32) (h2 : ¬ x1 < 0) (h3 : ¬ 7 < x1) (h4 : x1 ≤ 7) (h5 : vp_in x1 8) (h7 : ¬ x6 < 0) (h8 : ¬ 4 < x6) (h9 : x6 ≤ 4) (h11 : ¬ x10 < 0) (h12 : 7 < x10) (h13 : ¬ x10 ≤ 7) : xMetX l yB_sort wyB_sort 7 1 6 120 D cT aK aV sz [.ref b0, .int x1, .int x6, .int x10, .int x14] [] "java/lang/IllegalArgumentException" (fun A t => xB D xcl cT A [] t) := by
  refine vx_ofW (cc := prog_1_method_11_code) (maxL := 5) (ret := none) (by decide) rfl ?_
  intro p e s m args below meth c s₁ B hml hne hv
  obtain ⟨rfl, hsz, hZ, hP, hK, hD0⟩ := hv
  have hx := B.exec
  have hb := B.bytes
  have hr := B.returns
  have hts := atoms_spec (ws := wyB_sort) B.pre
  have htx := fun w h => hts w (List.mem_cons_of_mem _ h)
  have hown : s.vm.findClass "ValueBench" = some m.cls := findClass_of_methodNamed B.named
  have hlocks := B.notSynchronized
  subst hsz
  have hD := hD0.self (sz := s.heap.size)
  generalize hAe : va_A [] s.heap.size = A at hD hZ ⊢
  have hA : ∀ q : Nat, s.heap.size ≤ q → A q := fun q h => by rw [← hAe]; exact Or.inr h
  have hS : va_S A s.heap s.heap [] := va_S.rf
  have hP : va_P D xcl [] s.heap := hP
  have hl := lv_entry ([.ref b0, .int x1, .int x6, .int x10, .int x14]) (n := 5) (Nat.le_of_ble_eq_true rfl)
  rw [lg_entry_eq]
  generalize (lg_sl ([.ref b0, .int x1, .int x6, .int x10, .int x14]) ++ List.replicate (5 - (lg_sl ([.ref b0, .int x1, .int x6, .int x10, .int x14])).length) Slot.unset).toArray = ls at hl ⊢
  have hl : lv_has ls 5 [(0, .ref b0), (1, .int x1), (2, .int x6), (3, .int x10), (4, .int x14)] := hl
  refine lv_iload_n hx hb dB_sort_0 rfl (lv_at hl 1 rfl) ?_
  obtain ⟨hPc, hDc, hFc⟩ := xcut (wc := []) hP hD hS hA [] rfl rfl (by decide)
  refine va_calli (va_runS (As := [.int x1]) (rest := []) ⟨hx, hb, hml, hown, htx⟩ (cB_isRegister_0 l hl9 D cT aK aV s.heap.size x1 h2 h3 h4 h5) ⟨callB_of 1 htx (xw_goodC kw_2_18) rfl rfl rfl (htx _ kw_1_1) (htx _ kw_2_16) ⟨by decide, by decide, by decide +kernel⟩ ⟨Nat.le_of_ble_eq_true rfl, Nat.le_of_ble_eq_true rfl⟩, htx _ kw_2_17⟩ ⟨xPre_blind, (fun U hU hW => ⟨rfl, xPre_of hZ hS hFc hPc hDc hK U hU hW⟩)⟩ rfl rfl hl.1 rfl (lv_room (Nat.le_of_ble_eq_true rfl)) dB_sort_1 ⟨Nat.le_of_ble_eq_true rfl, Nat.le_of_ble_eq_true rfl⟩) hS (fun q _ h => hFc q h) hFc (fun r1 u9 t H1 locs ht hvm hr9 hB hz1 hk1 hS => ?_)
  obtain ⟨hP1, hK1, hD1⟩ := hB
  rw [ht] at hP1
  obtain ⟨hP, hD⟩ := xjoin (W := []) hP hD [] [] 0 rfl rfl (by decide) (by decide) hk1 hFc hP1 hD1
  generalize H1 = H at hP hS ⊢
  rw [hr9]
  refine W.eq (g2 := F0 m 4 ls [.int 1]) rfl ?_
  refine lv_if_eq (tgt := 34) hx hb dB_sort_4 (by decide) (fun h => ((by revert h; decide : False)).elim) (fun _ => ?_)
  refine lv_iload_n hx hb dB_sort_7 rfl (lv_at hl 2 rfl) ?_
  refine lv_iconst (v := 4) hx hb dB_sort_8 (by decide) ?_
  obtain ⟨hPc, hDc, hFc⟩ := xcut (wc := []) hP hD hS hA [] rfl rfl (by decide)
  refine va_calli (va_runS (As := [.int x6, .int 4]) (rest := []) ⟨hx, hb, hml, hown, htx⟩ (cB_isWithin_39 l hl9 D cT aK aV H.size x6 h7 h8 h9) ⟨callB_of 2 htx (xw_goodC kw_1_218) rfl rfl rfl (htx _ kw_1_1) (htx _ kw_1_216) ⟨by decide, by decide, by decide +kernel⟩ ⟨Nat.le_of_ble_eq_true rfl, Nat.le_of_ble_eq_true rfl⟩, htx _ kw_1_217⟩ ⟨xPre_blind, (fun U hU hW => ⟨rfl, xPre_of hZ hS hFc hPc hDc hK U hU hW⟩)⟩ rfl rfl hl.1 rfl (lv_room (Nat.le_of_ble_eq_true rfl)) dB_sort_9 ⟨Nat.le_of_ble_eq_true rfl, Nat.le_of_ble_eq_true rfl⟩) hS (fun q _ h => hFc q h) hFc (fun r2 u9 t H1 locs ht hvm hr9 hB hz1 hk1 hS => ?_)
  obtain ⟨hP1, hK1, hD1⟩ := hB
  rw [ht] at hP1
  obtain ⟨hP, hD⟩ := xjoin (W := []) hP hD [] [] 0 rfl rfl (by decide) (by decide) hk1 hFc hP1 hD1
  generalize H1 = H at hP hS ⊢
  rw [hr9]
  refine W.eq (g2 := F0 m 12 ls [.int 1]) rfl ?_
  refine lv_if_eq (tgt := 34) hx hb dB_sort_12 (by decide) (fun h => ((by revert h; decide : False)).elim) (fun _ => ?_)
  refine lv_iload_n hx hb dB_sort_15 rfl (lv_at hl 3 rfl) ?_
  obtain ⟨hPc, hDc, hFc⟩ := xcut (wc := []) hP hD hS hA [] rfl rfl (by decide)
  refine va_calli (va_runS (As := [.int x10]) (rest := []) ⟨hx, hb, hml, hown, htx⟩ (cB_isRegister_2 l hl9 D cT aK aV H.size x10 h11 h12 h13) ⟨callB_of 1 htx (xw_goodC kw_2_18) rfl rfl rfl (htx _ kw_1_1) (htx _ kw_2_16) ⟨by decide, by decide, by decide +kernel⟩ ⟨Nat.le_of_ble_eq_true rfl, Nat.le_of_ble_eq_true rfl⟩, htx _ kw_2_17⟩ ⟨xPre_blind, (fun U hU hW => ⟨rfl, xPre_of hZ hS hFc hPc hDc hK U hU hW⟩)⟩ rfl rfl hl.1 rfl (lv_room (Nat.le_of_ble_eq_true rfl)) dB_sort_16 ⟨Nat.le_of_ble_eq_true rfl, Nat.le_of_ble_eq_true rfl⟩) hS (fun q _ h => hFc q h) hFc (fun r3 u9 t H1 locs ht hvm hr9 hB hz1 hk1 hS => ?_)
  obtain ⟨hP1, hK1, hD1⟩ := hB
  rw [ht] at hP1
  obtain ⟨hP, hD⟩ := xjoin (W := []) hP hD [] [] 0 rfl rfl (by decide) (by decide) hk1 hFc hP1 hD1
  generalize H1 = H at hP hS ⊢
  rw [hr9]
  refine W.eq (g2 := F0 m 19 ls [.int 0]) rfl ?_
  refine lv_if_eq (tgt := 34) hx hb dB_sort_19 (by decide) (fun _ => ?_) (fun h => ((by revert h; decide : False)).elim)
  refine lv_iconst (v := 0) hx hb dB_sort_34 (by decide) ?_
  obtain ⟨hPc, hDc, hFc⟩ := xcut (wc := []) hP hD hS hA [] rfl rfl (by decide)
  refine xx_thr (vx_runS (As := [.int 0]) (rest := []) ⟨hx, hb, hml, hown, htx⟩ (cB_demand_1 l hl9 D cT aK aV H.size) ⟨callB_of 1 htx (xw_goodC kw_1_221) rfl rfl rfl (htx _ kw_1_1) (htx _ kw_1_219) ⟨by decide, by decide, by decide +kernel⟩ ⟨Nat.le_of_ble_eq_true rfl, Nat.le_of_ble_eq_true rfl⟩, htx _ kw_1_220⟩ ⟨xPre_blind, (fun U hU hW => ⟨rfl, xPre_of hZ hS hFc hPc hDc hK U hU hW⟩)⟩ rfl rfl hl.1 rfl (lv_room (Nat.le_of_ble_eq_true rfl)) dB_sort_35 ⟨Nat.le_of_ble_eq_true rfl, Nat.le_of_ble_eq_true rfl⟩) hS hFc (fun q _ h => hFc q h) (fun E ce q9 u9 t H1 locs ht hvm _ hB hz1 hk1 hS hce hcv hcl => ?_)
  obtain ⟨rfl, hP1, hK1, hD1⟩ := hB
  rw [ht] at hP1
  obtain ⟨hP, hD⟩ := xjoin (W := []) hP hD [] [] 0 rfl rfl (by decide) (by decide) hk1 hFc hP1 hD1
  generalize H1 = H at hP hS hce ⊢
  obtain ⟨hP9, hD9⟩ := xsub (wc := []) hP hD [] rfl rfl (by decide)
  exact vx_out (E := "java/lang/IllegalArgumentException") (fun x h => (hne x h).elim) hlocks hce hcv hcl (fun t ht ha => ⟨(), trivial, ⟨rfl, by rw [ht]; exact hP9, va_K.moved ha hK, hD9⟩, hS.F ht⟩) hS.2.2 (Nat.le_of_ble_eq_true rfl) (Nat.le_of_ble_eq_true rfl)
set_option maxHeartbeats 400000000 in
set_option maxRecDepth 100000 in
theorem cL_sort_16 (l : Launch) (hl9 : l.stackTraces = false) (D : va_G) (cT : Nat → ClassId) (aK aV : Nat → Nat) (sz : Nat) (a0 : Nat) (x1 : Int32) (x6 : Int32) (x10 : Int32) (x14 : Int32) (v15 : Value) (v16 : Value) (v17 : Value) (v18 : Value) (v19 : Value) (v20 : Value) (v21 : Value) (v22 : Value) (h2 : ¬ x1 < 0) (h3 : ¬ 7 < x1) (h4 : x1 ≤ 7) (h5 : vp_in x1 8) (h7 : ¬ x6 < 0) (h8 : ¬ 4 < x6) (h9 : x6 ≤ 4) (h11 : ¬ x10 < 0) (h12 : 7 < x10) (h13 : ¬ x10 ≤ 7) : xMet l yL_sort wyL_sort 8 1 6 144 D cT aK aV sz [.ref a0, .int x1, .int x6, .int x10, .int x14] [(a0, .inr (0, [v15, v16, v17, v18, v19, v20, v21, v22]))] (fun A => va_Qi (fun (r : Int32) (_ : Unit) => r = 1) (fun _ t => xB D xcl cT A [(a0, .inr (0, [v15, v16, v17, v18, v19, v20, v21, v22]))] t) A) := by
  refine va_MetW (cc := method_12_code) (maxL := 6) (ret := (some .int)) (hh := [(0, 9, 12, 19), (0, 9, 16, 33), (0, 9, 20, 13)]) (by decide) rfl ?_
  intro p e s m args below meth c s₁ B hml hv
  obtain ⟨rfl, hsz, hZ, hP, hK, hD0⟩ := hv
  have hx := B.exec
  have hb := B.bytes
  have hr := B.returns
  have hts := atoms_spec (ws := wyL_sort) B.pre
  have htx := fun w h => hts w (List.mem_cons_of_mem _ h)
  have hown : s.vm.findClass "ValueBenchLaw" = some m.cls := findClass_of_methodNamed B.named
  have hlocks := B.notSynchronized
  subst hsz
  have hD := hD0.self (sz := s.heap.size)
  generalize hAe : va_A [(a0, .inr (0, [v15, v16, v17, v18, v19, v20, v21, v22]))] s.heap.size = A at hD hZ ⊢
  have hA : ∀ q : Nat, s.heap.size ≤ q → A q := fun q h => by rw [← hAe]; exact Or.inr h
  have hS : va_S A s.heap s.heap [] := va_S.rf
  have hP : va_P D xcl [(a0, .inr (0, [v15, v16, v17, v18, v19, v20, v21, v22]))] s.heap := hP
  have hl := lv_entry ([.ref a0, .int x1, .int x6, .int x10, .int x14]) (n := 6) (Nat.le_of_ble_eq_true rfl)
  rw [lg_entry_eq]
  generalize (lg_sl ([.ref a0, .int x1, .int x6, .int x10, .int x14]) ++ List.replicate (6 - (lg_sl ([.ref a0, .int x1, .int x6, .int x10, .int x14])).length) Slot.unset).toArray = ls at hl ⊢
  have hl : lv_has ls 6 [(0, .ref a0), (1, .int x1), (2, .int x6), (3, .int x10), (4, .int x14)] := hl
  have htab := vx_table (x := yL_sort) B (hts _ List.mem_cons_self)
  refine lv_aload_n hx hb dL_sort_0 rfl (lv_at hl 0 rfl) ?_
  refine lv_iload_n hx hb dL_sort_1 rfl (lv_at hl 1 rfl) ?_
  refine lv_iload_n hx hb dL_sort_2 rfl (lv_at hl 2 rfl) ?_
  refine lv_iload_n hx hb dL_sort_3 rfl (lv_at hl 3 rfl) ?_
  refine lv_iload hx hb dL_sort_4 (lv_at hl 4 rfl) ?_
  obtain ⟨hPc, hDc, hFc⟩ := xcut (wc := []) hP hD hS hA [] rfl rfl (by decide)
  refine xx_thr (vx_runV (C := "ValueBench") (As := [.int x1, .int x6, .int x10, .int x14]) (rest := []) ⟨hx, hb, hml, hown, htx⟩ (cB_sort_16 l hl9 D cT aK aV s.heap.size a0 x1 x6 x10 x14 h2 h3 h4 h5 h7 h8 h9 h11 h12 h13) ⟨callB_of 4 htx (xw_goodC kw_5_18) rfl rfl rfl (htx _ kw_1_1) (htx _ kw_5_15) ⟨by decide, by decide, by decide +kernel⟩ ⟨Nat.le_of_ble_eq_true rfl, Nat.le_of_ble_eq_true rfl⟩, (htx _ kw_5_16), (htx _ kw_5_17)⟩ ⟨xPre_blind, va_recv hK hP (ci := 0) rfl (q0 := 0) rfl, (fun U hU hW => ⟨rfl, xPre_of hZ hS hFc hPc hDc hK U hU hW⟩)⟩ rfl rfl hl.1 rfl (lv_room (Nat.le_of_ble_eq_true rfl)) dL_sort_6 ⟨Nat.le_of_ble_eq_true rfl, Nat.le_of_ble_eq_true rfl⟩) hS hFc (fun q _ h => hFc q h) (fun E ce q9 u9 t H1 locs ht hvm _ hB hz1 hk1 hS hce hcv hcl => ?_)
  obtain ⟨rfl, hP1, hK1, hD1⟩ := hB
  rw [ht] at hP1
  obtain ⟨hP, hD⟩ := xjoin (W := [(a0, .inr (0, [v15, v16, v17, v18, v19, v20, v21, v22]))]) hP hD [] [0] 1 rfl rfl (by decide) (by decide) hk1 hFc hP1 hD1
  generalize H1 = H at hP hS hce ⊢
  refine vx_catch (own := "ValueBenchLaw") (name := "java/lang/IllegalArgumentException") (E := "java/lang/IllegalArgumentException") hown [] ⟨0, 9, 12, 19⟩ [⟨0, 9, 16, 33⟩, ⟨0, 9, 20, 13⟩] (by rw [htab]; rfl) (fun z hz => nomatch hz) (by decide) (by decide) (htx _ kw_1_211) ((hZ.2.2.2.2.2.1 _ (List.mem_of_getElem? (i := 1) rfl)).use rfl) hce hcv hcl ?_
  refine lv_astore (lv' := [(5, .ref q9), (0, .ref a0), (1, .int x1), (2, .int x6), (3, .int x10), (4, .int x14)]) hx hb dL_sort_12 hl (by decide) rfl (fun ls hl => ?_)
  refine lv_iconst (v := 1) hx hb dL_sort_14 (by decide) ?_
  obtain ⟨hP9, hD9⟩ := xsub (wc := [(a0, .inr (0, [v15, v16, v17, v18, v19, v20, v21, v22]))]) hP hD [0] rfl rfl (by decide)
  refine W.widen (k := 1) (n := 6) (Nat.le_of_ble_eq_true rfl) (Nat.le_of_ble_eq_true rfl) ?_
  exact W.iret (v := 1) hx hb hr (fun t ht hW => ⟨⟨1, (), rfl, rfl, by rw [ht]; exact hP9, va_K.moved hW.alike hK, hD9⟩, hS.F ht⟩) hS.2.2 dL_sort_15
set_option maxHeartbeats 400000000 in
set_option maxRecDepth 100000 in
theorem cB_sort_17 (l : Launch) (hl9 : l.stackTraces = false) (D : va_G) (cT : Nat → ClassId) (aK aV : Nat → Nat) (sz : Nat) (b0 : Nat) (x1 : Int32) (x6 : Int32) (x10 : Int32) (x15 : Int32) (h2 : ¬ x1 < 0) (h3 : ¬ 7 < x1) (h4 : x1 ≤ 7) (h5 : vp_in x1 8) (h7 : ¬ x6 < 0) (h8 : ¬ 4 < x6) (h9 : x6 ≤ 4) (h11 : ¬ x10 < 0) (h12 : ¬ 7 < x10) (h13 : x10 ≤ 7) (h14 : vp_in x10 8) (h16 : ¬ x15 < 0) (h17 : 7 < x15) (h18 : ¬ x15 ≤ 7) : xMetX l yB_sort wyB_sort 7 1 6 120 D cT aK aV sz [.ref b0, .int x1, .int x6, .int x10, .int x15] [] "java/lang/IllegalArgumentException" (fun A t => xB D xcl cT A [] t) := by
  refine vx_ofW (cc := prog_1_method_11_code) (maxL := 5) (ret := none) (by decide) rfl ?_
  intro p e s m args below meth c s₁ B hml hne hv
  obtain ⟨rfl, hsz, hZ, hP, hK, hD0⟩ := hv
  have hx := B.exec
  have hb := B.bytes
  have hr := B.returns
  have hts := atoms_spec (ws := wyB_sort) B.pre
  have htx := fun w h => hts w (List.mem_cons_of_mem _ h)
  have hown : s.vm.findClass "ValueBench" = some m.cls := findClass_of_methodNamed B.named
  have hlocks := B.notSynchronized
  subst hsz
  have hD := hD0.self (sz := s.heap.size)
  generalize hAe : va_A [] s.heap.size = A at hD hZ ⊢
  have hA : ∀ q : Nat, s.heap.size ≤ q → A q := fun q h => by rw [← hAe]; exact Or.inr h
  have hS : va_S A s.heap s.heap [] := va_S.rf
  have hP : va_P D xcl [] s.heap := hP
  have hl := lv_entry ([.ref b0, .int x1, .int x6, .int x10, .int x15]) (n := 5) (Nat.le_of_ble_eq_true rfl)
  rw [lg_entry_eq]
  generalize (lg_sl ([.ref b0, .int x1, .int x6, .int x10, .int x15]) ++ List.replicate (5 - (lg_sl ([.ref b0, .int x1, .int x6, .int x10, .int x15])).length) Slot.unset).toArray = ls at hl ⊢
  have hl : lv_has ls 5 [(0, .ref b0), (1, .int x1), (2, .int x6), (3, .int x10), (4, .int x15)] := hl
  refine lv_iload_n hx hb dB_sort_0 rfl (lv_at hl 1 rfl) ?_
  obtain ⟨hPc, hDc, hFc⟩ := xcut (wc := []) hP hD hS hA [] rfl rfl (by decide)
  refine va_calli (va_runS (As := [.int x1]) (rest := []) ⟨hx, hb, hml, hown, htx⟩ (cB_isRegister_0 l hl9 D cT aK aV s.heap.size x1 h2 h3 h4 h5) ⟨callB_of 1 htx (xw_goodC kw_2_18) rfl rfl rfl (htx _ kw_1_1) (htx _ kw_2_16) ⟨by decide, by decide, by decide +kernel⟩ ⟨Nat.le_of_ble_eq_true rfl, Nat.le_of_ble_eq_true rfl⟩, htx _ kw_2_17⟩ ⟨xPre_blind, (fun U hU hW => ⟨rfl, xPre_of hZ hS hFc hPc hDc hK U hU hW⟩)⟩ rfl rfl hl.1 rfl (lv_room (Nat.le_of_ble_eq_true rfl)) dB_sort_1 ⟨Nat.le_of_ble_eq_true rfl, Nat.le_of_ble_eq_true rfl⟩) hS (fun q _ h => hFc q h) hFc (fun r1 u9 t H1 locs ht hvm hr9 hB hz1 hk1 hS => ?_)
  obtain ⟨hP1, hK1, hD1⟩ := hB
  rw [ht] at hP1
  obtain ⟨hP, hD⟩ := xjoin (W := []) hP hD [] [] 0 rfl rfl (by decide) (by decide) hk1 hFc hP1 hD1
  generalize H1 = H at hP hS ⊢
  rw [hr9]
  refine W.eq (g2 := F0 m 4 ls [.int 1]) rfl ?_
  refine lv_if_eq (tgt := 34) hx hb dB_sort_4 (by decide) (fun h => ((by revert h; decide : False)).elim) (fun _ => ?_)
  refine lv_iload_n hx hb dB_sort_7 rfl (lv_at hl 2 rfl) ?_
  refine lv_iconst (v := 4) hx hb dB_sort_8 (by decide) ?_
  obtain ⟨hPc, hDc, hFc⟩ := xcut (wc := []) hP hD hS hA [] rfl rfl (by decide)
  refine va_calli (va_runS (As := [.int x6, .int 4]) (rest := []) ⟨hx, hb, hml, hown, htx⟩ (cB_isWithin_39 l hl9 D cT aK aV H.size x6 h7 h8 h9) ⟨callB_of 2 htx (xw_goodC kw_1_218) rfl rfl rfl (htx _ kw_1_1) (htx _ kw_1_216) ⟨by decide, by decide, by decide +kernel⟩ ⟨Nat.le_of_ble_eq_true rfl, Nat.le_of_ble_eq_true rfl⟩, htx _ kw_1_217⟩ ⟨xPre_blind, (fun U hU hW => ⟨rfl, xPre_of hZ hS hFc hPc hDc hK U hU hW⟩)⟩ rfl rfl hl.1 rfl (lv_room (Nat.le_of_ble_eq_true rfl)) dB_sort_9 ⟨Nat.le_of_ble_eq_true rfl, Nat.le_of_ble_eq_true rfl⟩) hS (fun q _ h => hFc q h) hFc (fun r2 u9 t H1 locs ht hvm hr9 hB hz1 hk1 hS => ?_)
  obtain ⟨hP1, hK1, hD1⟩ := hB
  rw [ht] at hP1
  obtain ⟨hP, hD⟩ := xjoin (W := []) hP hD [] [] 0 rfl rfl (by decide) (by decide) hk1 hFc hP1 hD1
  generalize H1 = H at hP hS ⊢
  rw [hr9]
  refine W.eq (g2 := F0 m 12 ls [.int 1]) rfl ?_
  refine lv_if_eq (tgt := 34) hx hb dB_sort_12 (by decide) (fun h => ((by revert h; decide : False)).elim) (fun _ => ?_)
  refine lv_iload_n hx hb dB_sort_15 rfl (lv_at hl 3 rfl) ?_
  obtain ⟨hPc, hDc, hFc⟩ := xcut (wc := []) hP hD hS hA [] rfl rfl (by decide)
  refine va_calli (va_runS (As := [.int x10]) (rest := []) ⟨hx, hb, hml, hown, htx⟩ (cB_isRegister_0 l hl9 D cT aK aV H.size x10 h11 h12 h13 h14) ⟨callB_of 1 htx (xw_goodC kw_2_18) rfl rfl rfl (htx _ kw_1_1) (htx _ kw_2_16) ⟨by decide, by decide, by decide +kernel⟩ ⟨Nat.le_of_ble_eq_true rfl, Nat.le_of_ble_eq_true rfl⟩, htx _ kw_2_17⟩ ⟨xPre_blind, (fun U hU hW => ⟨rfl, xPre_of hZ hS hFc hPc hDc hK U hU hW⟩)⟩ rfl rfl hl.1 rfl (lv_room (Nat.le_of_ble_eq_true rfl)) dB_sort_16 ⟨Nat.le_of_ble_eq_true rfl, Nat.le_of_ble_eq_true rfl⟩) hS (fun q _ h => hFc q h) hFc (fun r3 u9 t H1 locs ht hvm hr9 hB hz1 hk1 hS => ?_)
  obtain ⟨hP1, hK1, hD1⟩ := hB
  rw [ht] at hP1
  obtain ⟨hP, hD⟩ := xjoin (W := []) hP hD [] [] 0 rfl rfl (by decide) (by decide) hk1 hFc hP1 hD1
  generalize H1 = H at hP hS ⊢
  rw [hr9]
  refine W.eq (g2 := F0 m 19 ls [.int 1]) rfl ?_
  refine lv_if_eq (tgt := 34) hx hb dB_sort_19 (by decide) (fun h => ((by revert h; decide : False)).elim) (fun _ => ?_)
  refine lv_iload hx hb dB_sort_22 (lv_at hl 4 rfl) ?_
  obtain ⟨hPc, hDc, hFc⟩ := xcut (wc := []) hP hD hS hA [] rfl rfl (by decide)
  refine va_calli (va_runS (As := [.int x15]) (rest := []) ⟨hx, hb, hml, hown, htx⟩ (cB_isRegister_2 l hl9 D cT aK aV H.size x15 h16 h17 h18) ⟨callB_of 1 htx (xw_goodC kw_2_18) rfl rfl rfl (htx _ kw_1_1) (htx _ kw_2_16) ⟨by decide, by decide, by decide +kernel⟩ ⟨Nat.le_of_ble_eq_true rfl, Nat.le_of_ble_eq_true rfl⟩, htx _ kw_2_17⟩ ⟨xPre_blind, (fun U hU hW => ⟨rfl, xPre_of hZ hS hFc hPc hDc hK U hU hW⟩)⟩ rfl rfl hl.1 rfl (lv_room (Nat.le_of_ble_eq_true rfl)) dB_sort_24 ⟨Nat.le_of_ble_eq_true rfl, Nat.le_of_ble_eq_true rfl⟩) hS (fun q _ h => hFc q h) hFc (fun r4 u9 t H1 locs ht hvm hr9 hB hz1 hk1 hS => ?_)
  obtain ⟨hP1, hK1, hD1⟩ := hB
  rw [ht] at hP1
  obtain ⟨hP, hD⟩ := xjoin (W := []) hP hD [] [] 0 rfl rfl (by decide) (by decide) hk1 hFc hP1 hD1
  generalize H1 = H at hP hS ⊢
  rw [hr9]
  refine W.eq (g2 := F0 m 27 ls [.int 0]) rfl ?_
  refine lv_if_eq (tgt := 34) hx hb dB_sort_27 (by decide) (fun _ => ?_) (fun h => ((by revert h; decide : False)).elim)
  refine lv_iconst (v := 0) hx hb dB_sort_34 (by decide) ?_
  obtain ⟨hPc, hDc, hFc⟩ := xcut (wc := []) hP hD hS hA [] rfl rfl (by decide)
  refine xx_thr (vx_runS (As := [.int 0]) (rest := []) ⟨hx, hb, hml, hown, htx⟩ (cB_demand_1 l hl9 D cT aK aV H.size) ⟨callB_of 1 htx (xw_goodC kw_1_221) rfl rfl rfl (htx _ kw_1_1) (htx _ kw_1_219) ⟨by decide, by decide, by decide +kernel⟩ ⟨Nat.le_of_ble_eq_true rfl, Nat.le_of_ble_eq_true rfl⟩, htx _ kw_1_220⟩ ⟨xPre_blind, (fun U hU hW => ⟨rfl, xPre_of hZ hS hFc hPc hDc hK U hU hW⟩)⟩ rfl rfl hl.1 rfl (lv_room (Nat.le_of_ble_eq_true rfl)) dB_sort_35 ⟨Nat.le_of_ble_eq_true rfl, Nat.le_of_ble_eq_true rfl⟩) hS hFc (fun q _ h => hFc q h) (fun E ce q9 u9 t H1 locs ht hvm _ hB hz1 hk1 hS hce hcv hcl => ?_)
  obtain ⟨rfl, hP1, hK1, hD1⟩ := hB
  rw [ht] at hP1
  obtain ⟨hP, hD⟩ := xjoin (W := []) hP hD [] [] 0 rfl rfl (by decide) (by decide) hk1 hFc hP1 hD1
  generalize H1 = H at hP hS hce ⊢
  obtain ⟨hP9, hD9⟩ := xsub (wc := []) hP hD [] rfl rfl (by decide)
  exact vx_out (E := "java/lang/IllegalArgumentException") (fun x h => (hne x h).elim) hlocks hce hcv hcl (fun t ht ha => ⟨(), trivial, ⟨rfl, by rw [ht]; exact hP9, va_K.moved ha hK, hD9⟩, hS.F ht⟩) hS.2.2 (Nat.le_of_ble_eq_true rfl) (Nat.le_of_ble_eq_true rfl)
set_option maxHeartbeats 400000000 in
set_option maxRecDepth 100000 in
theorem cL_sort_17 (l : Launch) (hl9 : l.stackTraces = false) (D : va_G) (cT : Nat → ClassId) (aK aV : Nat → Nat) (sz : Nat) (a0 : Nat) (x1 : Int32) (x6 : Int32) (x10 : Int32) (x15 : Int32) (v19 : Value) (v20 : Value) (v21 : Value) (v22 : Value) (v23 : Value) (v24 : Value) (v25 : Value) (v26 : Value) (h2 : ¬ x1 < 0) (h3 : ¬ 7 < x1) (h4 : x1 ≤ 7) (h5 : vp_in x1 8) (h7 : ¬ x6 < 0) (h8 : ¬ 4 < x6) (h9 : x6 ≤ 4) (h11 : ¬ x10 < 0) (h12 : ¬ 7 < x10) (h13 : x10 ≤ 7) (h14 : vp_in x10 8) (h16 : ¬ x15 < 0) (h17 : 7 < x15) (h18 : ¬ x15 ≤ 7) : xMet l yL_sort wyL_sort 8 1 6 144 D cT aK aV sz [.ref a0, .int x1, .int x6, .int x10, .int x15] [(a0, .inr (0, [v19, v20, v21, v22, v23, v24, v25, v26]))] (fun A => va_Qi (fun (r : Int32) (_ : Unit) => r = 1) (fun _ t => xB D xcl cT A [(a0, .inr (0, [v19, v20, v21, v22, v23, v24, v25, v26]))] t) A) := by
  refine va_MetW (cc := method_12_code) (maxL := 6) (ret := (some .int)) (hh := [(0, 9, 12, 19), (0, 9, 16, 33), (0, 9, 20, 13)]) (by decide) rfl ?_
  intro p e s m args below meth c s₁ B hml hv
  obtain ⟨rfl, hsz, hZ, hP, hK, hD0⟩ := hv
  have hx := B.exec
  have hb := B.bytes
  have hr := B.returns
  have hts := atoms_spec (ws := wyL_sort) B.pre
  have htx := fun w h => hts w (List.mem_cons_of_mem _ h)
  have hown : s.vm.findClass "ValueBenchLaw" = some m.cls := findClass_of_methodNamed B.named
  have hlocks := B.notSynchronized
  subst hsz
  have hD := hD0.self (sz := s.heap.size)
  generalize hAe : va_A [(a0, .inr (0, [v19, v20, v21, v22, v23, v24, v25, v26]))] s.heap.size = A at hD hZ ⊢
  have hA : ∀ q : Nat, s.heap.size ≤ q → A q := fun q h => by rw [← hAe]; exact Or.inr h
  have hS : va_S A s.heap s.heap [] := va_S.rf
  have hP : va_P D xcl [(a0, .inr (0, [v19, v20, v21, v22, v23, v24, v25, v26]))] s.heap := hP
  have hl := lv_entry ([.ref a0, .int x1, .int x6, .int x10, .int x15]) (n := 6) (Nat.le_of_ble_eq_true rfl)
  rw [lg_entry_eq]
  generalize (lg_sl ([.ref a0, .int x1, .int x6, .int x10, .int x15]) ++ List.replicate (6 - (lg_sl ([.ref a0, .int x1, .int x6, .int x10, .int x15])).length) Slot.unset).toArray = ls at hl ⊢
  have hl : lv_has ls 6 [(0, .ref a0), (1, .int x1), (2, .int x6), (3, .int x10), (4, .int x15)] := hl
  have htab := vx_table (x := yL_sort) B (hts _ List.mem_cons_self)
  refine lv_aload_n hx hb dL_sort_0 rfl (lv_at hl 0 rfl) ?_
  refine lv_iload_n hx hb dL_sort_1 rfl (lv_at hl 1 rfl) ?_
  refine lv_iload_n hx hb dL_sort_2 rfl (lv_at hl 2 rfl) ?_
  refine lv_iload_n hx hb dL_sort_3 rfl (lv_at hl 3 rfl) ?_
  refine lv_iload hx hb dL_sort_4 (lv_at hl 4 rfl) ?_
  obtain ⟨hPc, hDc, hFc⟩ := xcut (wc := []) hP hD hS hA [] rfl rfl (by decide)
  refine xx_thr (vx_runV (C := "ValueBench") (As := [.int x1, .int x6, .int x10, .int x15]) (rest := []) ⟨hx, hb, hml, hown, htx⟩ (cB_sort_17 l hl9 D cT aK aV s.heap.size a0 x1 x6 x10 x15 h2 h3 h4 h5 h7 h8 h9 h11 h12 h13 h14 h16 h17 h18) ⟨callB_of 4 htx (xw_goodC kw_5_18) rfl rfl rfl (htx _ kw_1_1) (htx _ kw_5_15) ⟨by decide, by decide, by decide +kernel⟩ ⟨Nat.le_of_ble_eq_true rfl, Nat.le_of_ble_eq_true rfl⟩, (htx _ kw_5_16), (htx _ kw_5_17)⟩ ⟨xPre_blind, va_recv hK hP (ci := 0) rfl (q0 := 0) rfl, (fun U hU hW => ⟨rfl, xPre_of hZ hS hFc hPc hDc hK U hU hW⟩)⟩ rfl rfl hl.1 rfl (lv_room (Nat.le_of_ble_eq_true rfl)) dL_sort_6 ⟨Nat.le_of_ble_eq_true rfl, Nat.le_of_ble_eq_true rfl⟩) hS hFc (fun q _ h => hFc q h) (fun E ce q9 u9 t H1 locs ht hvm _ hB hz1 hk1 hS hce hcv hcl => ?_)
  obtain ⟨rfl, hP1, hK1, hD1⟩ := hB
  rw [ht] at hP1
  obtain ⟨hP, hD⟩ := xjoin (W := [(a0, .inr (0, [v19, v20, v21, v22, v23, v24, v25, v26]))]) hP hD [] [0] 1 rfl rfl (by decide) (by decide) hk1 hFc hP1 hD1
  generalize H1 = H at hP hS hce ⊢
  refine vx_catch (own := "ValueBenchLaw") (name := "java/lang/IllegalArgumentException") (E := "java/lang/IllegalArgumentException") hown [] ⟨0, 9, 12, 19⟩ [⟨0, 9, 16, 33⟩, ⟨0, 9, 20, 13⟩] (by rw [htab]; rfl) (fun z hz => nomatch hz) (by decide) (by decide) (htx _ kw_1_211) ((hZ.2.2.2.2.2.1 _ (List.mem_of_getElem? (i := 1) rfl)).use rfl) hce hcv hcl ?_
  refine lv_astore (lv' := [(5, .ref q9), (0, .ref a0), (1, .int x1), (2, .int x6), (3, .int x10), (4, .int x15)]) hx hb dL_sort_12 hl (by decide) rfl (fun ls hl => ?_)
  refine lv_iconst (v := 1) hx hb dL_sort_14 (by decide) ?_
  obtain ⟨hP9, hD9⟩ := xsub (wc := [(a0, .inr (0, [v19, v20, v21, v22, v23, v24, v25, v26]))]) hP hD [0] rfl rfl (by decide)
  refine W.widen (k := 1) (n := 6) (Nat.le_of_ble_eq_true rfl) (Nat.le_of_ble_eq_true rfl) ?_
  exact W.iret (v := 1) hx hb hr (fun t ht hW => ⟨⟨1, (), rfl, rfl, by rw [ht]; exact hP9, va_K.moved hW.alike hK, hD9⟩, hS.F ht⟩) hS.2.2 dL_sort_15
set_option maxHeartbeats 400000000 in
set_option maxRecDepth 100000 in
theorem cB_one_17 (l : Launch) (hl9 : l.stackTraces = false) (D : va_G) (cT : Nat → ClassId) (aK aV : Nat → Nat) (sz : Nat) (b0 : Nat) (x1 : Int32) (x5 : Int32) (x6 : Int32) (h2 : ¬ x1 < 0) (h3 : 7 < x1) (h4 : ¬ x1 ≤ 7) : xMetX l yB_one wyB_one 7 1 6 120 D cT aK aV sz [.ref b0, .int x1, .int x5, .int x6] [] "java/lang/IllegalArgumentException" (fun A t => xB D xcl cT A [] t) := by
  refine vx_ofW (cc := prog_1_method_9_code) (maxL := 4) (ret := none) (by decide) rfl ?_
  intro p e s m args below meth c s₁ B hml hne hv
  obtain ⟨rfl, hsz, hZ, hP, hK, hD0⟩ := hv
  have hx := B.exec
  have hb := B.bytes
  have hr := B.returns
  have hts := atoms_spec (ws := wyB_one) B.pre
  have htx := fun w h => hts w (List.mem_cons_of_mem _ h)
  have hown : s.vm.findClass "ValueBench" = some m.cls := findClass_of_methodNamed B.named
  have hlocks := B.notSynchronized
  subst hsz
  have hD := hD0.self (sz := s.heap.size)
  generalize hAe : va_A [] s.heap.size = A at hD hZ ⊢
  have hA : ∀ q : Nat, s.heap.size ≤ q → A q := fun q h => by rw [← hAe]; exact Or.inr h
  have hS : va_S A s.heap s.heap [] := va_S.rf
  have hP : va_P D xcl [] s.heap := hP
  have hl := lv_entry ([.ref b0, .int x1, .int x5, .int x6]) (n := 4) (Nat.le_of_ble_eq_true rfl)
  rw [lg_entry_eq]
  generalize (lg_sl ([.ref b0, .int x1, .int x5, .int x6]) ++ List.replicate (4 - (lg_sl ([.ref b0, .int x1, .int x5, .int x6])).length) Slot.unset).toArray = ls at hl ⊢
  have hl : lv_has ls 4 [(0, .ref b0), (1, .int x1), (2, .int x5), (3, .int x6)] := hl
  refine lv_iload_n hx hb dB_one_0 rfl (lv_at hl 1 rfl) ?_
  obtain ⟨hPc, hDc, hFc⟩ := xcut (wc := []) hP hD hS hA [] rfl rfl (by decide)
  refine va_calli (va_runS (As := [.int x1]) (rest := []) ⟨hx, hb, hml, hown, htx⟩ (cB_isRegister_2 l hl9 D cT aK aV s.heap.size x1 h2 h3 h4) ⟨callB_of 1 htx (xw_goodC kw_2_18) rfl rfl rfl (htx _ kw_1_1) (htx _ kw_2_16) ⟨by decide, by decide, by decide +kernel⟩ ⟨Nat.le_of_ble_eq_true rfl, Nat.le_of_ble_eq_true rfl⟩, htx _ kw_2_17⟩ ⟨xPre_blind, (fun U hU hW => ⟨rfl, xPre_of hZ hS hFc hPc hDc hK U hU hW⟩)⟩ rfl rfl hl.1 rfl (lv_room (Nat.le_of_ble_eq_true rfl)) dB_one_1 ⟨Nat.le_of_ble_eq_true rfl, Nat.le_of_ble_eq_true rfl⟩) hS (fun q _ h => hFc q h) hFc (fun r1 u9 t H1 locs ht hvm hr9 hB hz1 hk1 hS => ?_)
  obtain ⟨hP1, hK1, hD1⟩ := hB
  rw [ht] at hP1
  obtain ⟨hP, hD⟩ := xjoin (W := []) hP hD [] [] 0 rfl rfl (by decide) (by decide) hk1 hFc hP1 hD1
  generalize H1 = H at hP hS ⊢
  rw [hr9]
  refine W.eq (g2 := F0 m 4 ls [.int 0]) rfl ?_
  refine lv_if_eq (tgt := 27) hx hb dB_one_4 (by decide) (fun _ => ?_) (fun h => ((by revert h; decide : False)).elim)
  refine lv_iconst (v := 0) hx hb dB_one_27 (by decide) ?_
  obtain ⟨hPc, hDc, hFc⟩ := xcut (wc := []) hP hD hS hA [] rfl rfl (by decide)
  refine xx_thr (vx_runS (As := [.int 0]) (rest := []) ⟨hx, hb, hml, hown, htx⟩ (cB_demand_1 l hl9 D cT aK aV H.size) ⟨callB_of 1 htx (xw_goodC kw_1_221) rfl rfl rfl (htx _ kw_1_1) (htx _ kw_1_219) ⟨by decide, by decide, by decide +kernel⟩ ⟨Nat.le_of_ble_eq_true rfl, Nat.le_of_ble_eq_true rfl⟩, htx _ kw_1_220⟩ ⟨xPre_blind, (fun U hU hW => ⟨rfl, xPre_of hZ hS hFc hPc hDc hK U hU hW⟩)⟩ rfl rfl hl.1 rfl (lv_room (Nat.le_of_ble_eq_true rfl)) dB_one_28 ⟨Nat.le_of_ble_eq_true rfl, Nat.le_of_ble_eq_true rfl⟩) hS hFc (fun q _ h => hFc q h) (fun E ce q9 u9 t H1 locs ht hvm _ hB hz1 hk1 hS hce hcv hcl => ?_)
  obtain ⟨rfl, hP1, hK1, hD1⟩ := hB
  rw [ht] at hP1
  obtain ⟨hP, hD⟩ := xjoin (W := []) hP hD [] [] 0 rfl rfl (by decide) (by decide) hk1 hFc hP1 hD1
  generalize H1 = H at hP hS hce ⊢
  obtain ⟨hP9, hD9⟩ := xsub (wc := []) hP hD [] rfl rfl (by decide)
  exact vx_out (E := "java/lang/IllegalArgumentException") (fun x h => (hne x h).elim) hlocks hce hcv hcl (fun t ht ha => ⟨(), trivial, ⟨rfl, by rw [ht]; exact hP9, va_K.moved ha hK, hD9⟩, hS.F ht⟩) hS.2.2 (Nat.le_of_ble_eq_true rfl) (Nat.le_of_ble_eq_true rfl)
set_option maxHeartbeats 400000000 in
set_option maxRecDepth 100000 in
theorem cL_one_17 (l : Launch) (hl9 : l.stackTraces = false) (D : va_G) (cT : Nat → ClassId) (aK aV : Nat → Nat) (sz : Nat) (a0 : Nat) (x1 : Int32) (x5 : Int32) (x6 : Int32) (v7 : Value) (v8 : Value) (v9 : Value) (v10 : Value) (v11 : Value) (v12 : Value) (v13 : Value) (v14 : Value) (h2 : ¬ x1 < 0) (h3 : 7 < x1) (h4 : ¬ x1 ≤ 7) : xMet l yL_one wyL_one 8 1 6 143 D cT aK aV sz [.ref a0, .int x1, .int x5, .int x6] [(a0, .inr (0, [v7, v8, v9, v10, v11, v12, v13, v14]))] (fun A => va_Qi (fun (r : Int32) (_ : Unit) => r = 1) (fun _ t => xB D xcl cT A [(a0, .inr (0, [v7, v8, v9, v10, v11, v12, v13, v14]))] t) A) := by
  refine va_MetW (cc := method_10_code) (maxL := 5) (ret := (some .int)) (hh := [(0, 7, 10, 19), (0, 7, 14, 33), (0, 7, 18, 13)]) (by decide) rfl ?_
  intro p e s m args below meth c s₁ B hml hv
  obtain ⟨rfl, hsz, hZ, hP, hK, hD0⟩ := hv
  have hx := B.exec
  have hb := B.bytes
  have hr := B.returns
  have hts := atoms_spec (ws := wyL_one) B.pre
  have htx := fun w h => hts w (List.mem_cons_of_mem _ h)
  have hown : s.vm.findClass "ValueBenchLaw" = some m.cls := findClass_of_methodNamed B.named
  have hlocks := B.notSynchronized
  subst hsz
  have hD := hD0.self (sz := s.heap.size)
  generalize hAe : va_A [(a0, .inr (0, [v7, v8, v9, v10, v11, v12, v13, v14]))] s.heap.size = A at hD hZ ⊢
  have hA : ∀ q : Nat, s.heap.size ≤ q → A q := fun q h => by rw [← hAe]; exact Or.inr h
  have hS : va_S A s.heap s.heap [] := va_S.rf
  have hP : va_P D xcl [(a0, .inr (0, [v7, v8, v9, v10, v11, v12, v13, v14]))] s.heap := hP
  have hl := lv_entry ([.ref a0, .int x1, .int x5, .int x6]) (n := 5) (Nat.le_of_ble_eq_true rfl)
  rw [lg_entry_eq]
  generalize (lg_sl ([.ref a0, .int x1, .int x5, .int x6]) ++ List.replicate (5 - (lg_sl ([.ref a0, .int x1, .int x5, .int x6])).length) Slot.unset).toArray = ls at hl ⊢
  have hl : lv_has ls 5 [(0, .ref a0), (1, .int x1), (2, .int x5), (3, .int x6)] := hl
  have htab := vx_table (x := yL_one) B (hts _ List.mem_cons_self)
  refine lv_aload_n hx hb dL_one_0 rfl (lv_at hl 0 rfl) ?_
  refine lv_iload_n hx hb dL_one_1 rfl (lv_at hl 1 rfl) ?_
  refine lv_iload_n hx hb dL_one_2 rfl (lv_at hl 2 rfl) ?_
  refine lv_iload_n hx hb dL_one_3 rfl (lv_at hl 3 rfl) ?_
  obtain ⟨hPc, hDc, hFc⟩ := xcut (wc := []) hP hD hS hA [] rfl rfl (by decide)
  refine xx_thr (vx_runV (C := "ValueBench") (As := [.int x1, .int x5, .int x6]) (rest := []) ⟨hx, hb, hml, hown, htx⟩ (cB_one_17 l hl9 D cT aK aV s.heap.size a0 x1 x5 x6 h2 h3 h4) ⟨callB_of 3 htx (xw_goodC kw_4_25) rfl rfl rfl (htx _ kw_1_1) (htx _ kw_4_22) ⟨by decide, by decide, by decide +kernel⟩ ⟨Nat.le_of_ble_eq_true rfl, Nat.le_of_ble_eq_true rfl⟩, (htx _ kw_4_23), (htx _ kw_4_24)⟩ ⟨xPre_blind, va_recv hK hP (ci := 0) rfl (q0 := 0) rfl, (fun U hU hW => ⟨rfl, xPre_of hZ hS hFc hPc hDc hK U hU hW⟩)⟩ rfl rfl hl.1 rfl (lv_room (Nat.le_of_ble_eq_true rfl)) dL_one_4 ⟨Nat.le_of_ble_eq_true rfl, Nat.le_of_ble_eq_true rfl⟩) hS hFc (fun q _ h => hFc q h) (fun E ce q9 u9 t H1 locs ht hvm _ hB hz1 hk1 hS hce hcv hcl => ?_)
  obtain ⟨rfl, hP1, hK1, hD1⟩ := hB
  rw [ht] at hP1
  obtain ⟨hP, hD⟩ := xjoin (W := [(a0, .inr (0, [v7, v8, v9, v10, v11, v12, v13, v14]))]) hP hD [] [0] 1 rfl rfl (by decide) (by decide) hk1 hFc hP1 hD1
  generalize H1 = H at hP hS hce ⊢
  refine vx_catch (own := "ValueBenchLaw") (name := "java/lang/IllegalArgumentException") (E := "java/lang/IllegalArgumentException") hown [] ⟨0, 7, 10, 19⟩ [⟨0, 7, 14, 33⟩, ⟨0, 7, 18, 13⟩] (by rw [htab]; rfl) (fun z hz => nomatch hz) (by decide) (by decide) (htx _ kw_1_211) ((hZ.2.2.2.2.2.1 _ (List.mem_of_getElem? (i := 1) rfl)).use rfl) hce hcv hcl ?_
  refine lv_astore (lv' := [(4, .ref q9), (0, .ref a0), (1, .int x1), (2, .int x5), (3, .int x6)]) hx hb dL_one_10 hl (by decide) rfl (fun ls hl => ?_)
  refine lv_iconst (v := 1) hx hb dL_one_12 (by decide) ?_
  obtain ⟨hP9, hD9⟩ := xsub (wc := [(a0, .inr (0, [v7, v8, v9, v10, v11, v12, v13, v14]))]) hP hD [0] rfl rfl (by decide)
  refine W.widen (k := 1) (n := 6) (Nat.le_of_ble_eq_true rfl) (Nat.le_of_ble_eq_true rfl) ?_
  exact W.iret (v := 1) hx hb hr (fun t ht hW => ⟨⟨1, (), rfl, rfl, by rw [ht]; exact hP9, va_K.moved hW.alike hK, hD9⟩, hS.F ht⟩) hS.2.2 dL_one_13
set_option maxHeartbeats 400000000 in
set_option maxRecDepth 100000 in
theorem cB_isWithin_44 (l : Launch) (hl9 : l.stackTraces = false) (D : va_G) (cT : Nat → ClassId) (aK aV : Nat → Nat) (sz : Nat) (x0 : Int32) (h1 : ¬ x0 < 0) (h2 : 13 < x0) (h3 : ¬ x0 ≤ 13) : xMet l yB_isWithin wyB_isWithin 0 0 0 0 D cT aK aV sz [.int x0, .int 13] [] (fun A => va_Qi (fun (r : Int32) (_ : Unit) => r = 0) (fun _ t => xB D xcl cT A [] t) A) := by
  refine Met.ofW (cc := prog_1_method_15_code) (maxL := 2) (ret := (some .boolean)) (by decide) rfl ?_
  intro p e s m args below meth c s₁ B hml hv
  obtain ⟨rfl, hsz, hZ, hP, hK, hD0⟩ := hv
  have hx := B.exec
  have hb := B.bytes
  have hr := B.returns
  have hts := atoms_spec (ws := wyB_isWithin) B.pre
  have htx := fun w h => hts w (List.mem_cons_of_mem _ h)
  have hown : s.vm.findClass "ValueBench" = some m.cls := findClass_of_methodNamed B.named
  have hlocks := B.notSynchronized
  subst hsz
  have hD := hD0.self (sz := s.heap.size)
  generalize hAe : va_A [] s.heap.size = A at hD hZ ⊢
  have hA : ∀ q : Nat, s.heap.size ≤ q → A q := fun q h => by rw [← hAe]; exact Or.inr h
  have hS : va_S A s.heap s.heap [] := va_S.rf
  have hP : va_P D xcl [] s.heap := hP
  have hl := lv_entry ([.int x0, .int 13]) (n := 2) (Nat.le_of_ble_eq_true rfl)
  rw [lg_entry_eq]
  generalize (lg_sl ([.int x0, .int 13]) ++ List.replicate (2 - (lg_sl ([.int x0, .int 13])).length) Slot.unset).toArray = ls at hl ⊢
  have hl : lv_has ls 2 [(0, .int x0), (1, .int 13)] := hl
  refine lv_iload_n hx hb dB_isWithin_0 rfl (lv_at hl 0 rfl) ?_
  refine lv_if_lt (tgt := 13) hx hb dB_isWithin_1 (by decide) (fun h => by first | exact absurd h h1 | exact absurd h h2 | exact absurd h h3 | exact absurd h1 h | exact absurd h2 h | exact absurd h3 h) (fun _ => ?_)
  refine lv_iload_n hx hb dB_isWithin_4 rfl (lv_at hl 0 rfl) ?_
  refine lv_iload_n hx hb dB_isWithin_5 rfl (lv_at hl 1 rfl) ?_
  refine lv_icmp_gt (tgt := 13) hx hb dB_isWithin_6 (by decide) (fun _ => ?_) (fun h => by first | exact absurd h h1 | exact absurd h h2 | exact absurd h h3 | exact absurd h1 h | exact absurd h2 h | exact absurd h3 h)
  refine lv_iconst (v := 0) hx hb dB_isWithin_13 (by decide) ?_
  obtain ⟨hP9, hD9⟩ := xsub (wc := []) hP hD [] rfl rfl (by decide)
  refine W.widen (k := 0) (n := 0) (Nat.le_of_ble_eq_true rfl) (Nat.le_of_ble_eq_true rfl) ?_
  exact W.zret (v := 0) hx hb hr rfl (fun t ht hW => ⟨⟨0, (), rfl, rfl, by rw [ht]; exact hP9, va_K.moved hW.alike hK, hD9⟩, hS.F ht⟩) hS.2.2 dB_isWithin_14
set_option maxHeartbeats 400000000 in
set_option maxRecDepth 100000 in
theorem cB_one_18 (l : Launch) (hl9 : l.stackTraces = false) (D : va_G) (cT : Nat → ClassId) (aK aV : Nat → Nat) (sz : Nat) (b0 : Nat) (x1 : Int32) (x6 : Int32) (x10 : Int32) (h2 : ¬ x1 < 0) (h3 : ¬ 7 < x1) (h4 : x1 ≤ 7) (h5 : vp_in x1 8) (h7 : ¬ x6 < 0) (h8 : 13 < x6) (h9 : ¬ x6 ≤ 13) : xMetX l yB_one wyB_one 7 1 6 120 D cT aK aV sz [.ref b0, .int x1, .int x6, .int x10] [] "java/lang/IllegalArgumentException" (fun A t => xB D xcl cT A [] t) := by
  refine vx_ofW (cc := prog_1_method_9_code) (maxL := 4) (ret := none) (by decide) rfl ?_
  intro p e s m args below meth c s₁ B hml hne hv
  obtain ⟨rfl, hsz, hZ, hP, hK, hD0⟩ := hv
  have hx := B.exec
  have hb := B.bytes
  have hr := B.returns
  have hts := atoms_spec (ws := wyB_one) B.pre
  have htx := fun w h => hts w (List.mem_cons_of_mem _ h)
  have hown : s.vm.findClass "ValueBench" = some m.cls := findClass_of_methodNamed B.named
  have hlocks := B.notSynchronized
  subst hsz
  have hD := hD0.self (sz := s.heap.size)
  generalize hAe : va_A [] s.heap.size = A at hD hZ ⊢
  have hA : ∀ q : Nat, s.heap.size ≤ q → A q := fun q h => by rw [← hAe]; exact Or.inr h
  have hS : va_S A s.heap s.heap [] := va_S.rf
  have hP : va_P D xcl [] s.heap := hP
  have hl := lv_entry ([.ref b0, .int x1, .int x6, .int x10]) (n := 4) (Nat.le_of_ble_eq_true rfl)
  rw [lg_entry_eq]
  generalize (lg_sl ([.ref b0, .int x1, .int x6, .int x10]) ++ List.replicate (4 - (lg_sl ([.ref b0, .int x1, .int x6, .int x10])).length) Slot.unset).toArray = ls at hl ⊢
  have hl : lv_has ls 4 [(0, .ref b0), (1, .int x1), (2, .int x6), (3, .int x10)] := hl
  refine lv_iload_n hx hb dB_one_0 rfl (lv_at hl 1 rfl) ?_
  obtain ⟨hPc, hDc, hFc⟩ := xcut (wc := []) hP hD hS hA [] rfl rfl (by decide)
  refine va_calli (va_runS (As := [.int x1]) (rest := []) ⟨hx, hb, hml, hown, htx⟩ (cB_isRegister_0 l hl9 D cT aK aV s.heap.size x1 h2 h3 h4 h5) ⟨callB_of 1 htx (xw_goodC kw_2_18) rfl rfl rfl (htx _ kw_1_1) (htx _ kw_2_16) ⟨by decide, by decide, by decide +kernel⟩ ⟨Nat.le_of_ble_eq_true rfl, Nat.le_of_ble_eq_true rfl⟩, htx _ kw_2_17⟩ ⟨xPre_blind, (fun U hU hW => ⟨rfl, xPre_of hZ hS hFc hPc hDc hK U hU hW⟩)⟩ rfl rfl hl.1 rfl (lv_room (Nat.le_of_ble_eq_true rfl)) dB_one_1 ⟨Nat.le_of_ble_eq_true rfl, Nat.le_of_ble_eq_true rfl⟩) hS (fun q _ h => hFc q h) hFc (fun r1 u9 t H1 locs ht hvm hr9 hB hz1 hk1 hS => ?_)
  obtain ⟨hP1, hK1, hD1⟩ := hB
  rw [ht] at hP1
  obtain ⟨hP, hD⟩ := xjoin (W := []) hP hD [] [] 0 rfl rfl (by decide) (by decide) hk1 hFc hP1 hD1
  generalize H1 = H at hP hS ⊢
  rw [hr9]
  refine W.eq (g2 := F0 m 4 ls [.int 1]) rfl ?_
  refine lv_if_eq (tgt := 27) hx hb dB_one_4 (by decide) (fun h => ((by revert h; decide : False)).elim) (fun _ => ?_)
  refine lv_iload_n hx hb dB_one_7 rfl (lv_at hl 2 rfl) ?_
  refine lv_bipush (v := 13) hx hb dB_one_8 (by decide) ?_
  obtain ⟨hPc, hDc, hFc⟩ := xcut (wc := []) hP hD hS hA [] rfl rfl (by decide)
  refine va_calli (va_runS (As := [.int x6, .int 13]) (rest := []) ⟨hx, hb, hml, hown, htx⟩ (cB_isWithin_44 l hl9 D cT aK aV H.size x6 h7 h8 h9) ⟨callB_of 2 htx (xw_goodC kw_1_218) rfl rfl rfl (htx _ kw_1_1) (htx _ kw_1_216) ⟨by decide, by decide, by decide +kernel⟩ ⟨Nat.le_of_ble_eq_true rfl, Nat.le_of_ble_eq_true rfl⟩, htx _ kw_1_217⟩ ⟨xPre_blind, (fun U hU hW => ⟨rfl, xPre_of hZ hS hFc hPc hDc hK U hU hW⟩)⟩ rfl rfl hl.1 rfl (lv_room (Nat.le_of_ble_eq_true rfl)) dB_one_10 ⟨Nat.le_of_ble_eq_true rfl, Nat.le_of_ble_eq_true rfl⟩) hS (fun q _ h => hFc q h) hFc (fun r2 u9 t H1 locs ht hvm hr9 hB hz1 hk1 hS => ?_)
  obtain ⟨hP1, hK1, hD1⟩ := hB
  rw [ht] at hP1
  obtain ⟨hP, hD⟩ := xjoin (W := []) hP hD [] [] 0 rfl rfl (by decide) (by decide) hk1 hFc hP1 hD1
  generalize H1 = H at hP hS ⊢
  rw [hr9]
  refine W.eq (g2 := F0 m 13 ls [.int 0]) rfl ?_
  refine lv_if_eq (tgt := 27) hx hb dB_one_13 (by decide) (fun _ => ?_) (fun h => ((by revert h; decide : False)).elim)
  refine lv_iconst (v := 0) hx hb dB_one_27 (by decide) ?_
  obtain ⟨hPc, hDc, hFc⟩ := xcut (wc := []) hP hD hS hA [] rfl rfl (by decide)
  refine xx_thr (vx_runS (As := [.int 0]) (rest := []) ⟨hx, hb, hml, hown, htx⟩ (cB_demand_1 l hl9 D cT aK aV H.size) ⟨callB_of 1 htx (xw_goodC kw_1_221) rfl rfl rfl (htx _ kw_1_1) (htx _ kw_1_219) ⟨by decide, by decide, by decide +kernel⟩ ⟨Nat.le_of_ble_eq_true rfl, Nat.le_of_ble_eq_true rfl⟩, htx _ kw_1_220⟩ ⟨xPre_blind, (fun U hU hW => ⟨rfl, xPre_of hZ hS hFc hPc hDc hK U hU hW⟩)⟩ rfl rfl hl.1 rfl (lv_room (Nat.le_of_ble_eq_true rfl)) dB_one_28 ⟨Nat.le_of_ble_eq_true rfl, Nat.le_of_ble_eq_true rfl⟩) hS hFc (fun q _ h => hFc q h) (fun E ce q9 u9 t H1 locs ht hvm _ hB hz1 hk1 hS hce hcv hcl => ?_)
  obtain ⟨rfl, hP1, hK1, hD1⟩ := hB
  rw [ht] at hP1
  obtain ⟨hP, hD⟩ := xjoin (W := []) hP hD [] [] 0 rfl rfl (by decide) (by decide) hk1 hFc hP1 hD1
  generalize H1 = H at hP hS hce ⊢
  obtain ⟨hP9, hD9⟩ := xsub (wc := []) hP hD [] rfl rfl (by decide)
  exact vx_out (E := "java/lang/IllegalArgumentException") (fun x h => (hne x h).elim) hlocks hce hcv hcl (fun t ht ha => ⟨(), trivial, ⟨rfl, by rw [ht]; exact hP9, va_K.moved ha hK, hD9⟩, hS.F ht⟩) hS.2.2 (Nat.le_of_ble_eq_true rfl) (Nat.le_of_ble_eq_true rfl)
set_option maxHeartbeats 400000000 in
set_option maxRecDepth 100000 in
theorem cL_one_18 (l : Launch) (hl9 : l.stackTraces = false) (D : va_G) (cT : Nat → ClassId) (aK aV : Nat → Nat) (sz : Nat) (a0 : Nat) (x1 : Int32) (x6 : Int32) (x10 : Int32) (v11 : Value) (v12 : Value) (v13 : Value) (v14 : Value) (v15 : Value) (v16 : Value) (v17 : Value) (v18 : Value) (h2 : ¬ x1 < 0) (h3 : ¬ 7 < x1) (h4 : x1 ≤ 7) (h5 : vp_in x1 8) (h7 : ¬ x6 < 0) (h8 : 13 < x6) (h9 : ¬ x6 ≤ 13) : xMet l yL_one wyL_one 8 1 6 143 D cT aK aV sz [.ref a0, .int x1, .int x6, .int x10] [(a0, .inr (0, [v11, v12, v13, v14, v15, v16, v17, v18]))] (fun A => va_Qi (fun (r : Int32) (_ : Unit) => r = 1) (fun _ t => xB D xcl cT A [(a0, .inr (0, [v11, v12, v13, v14, v15, v16, v17, v18]))] t) A) := by
  refine va_MetW (cc := method_10_code) (maxL := 5) (ret := (some .int)) (hh := [(0, 7, 10, 19), (0, 7, 14, 33), (0, 7, 18, 13)]) (by decide) rfl ?_
  intro p e s m args below meth c s₁ B hml hv
  obtain ⟨rfl, hsz, hZ, hP, hK, hD0⟩ := hv
  have hx := B.exec
  have hb := B.bytes
  have hr := B.returns
  have hts := atoms_spec (ws := wyL_one) B.pre
  have htx := fun w h => hts w (List.mem_cons_of_mem _ h)
  have hown : s.vm.findClass "ValueBenchLaw" = some m.cls := findClass_of_methodNamed B.named
  have hlocks := B.notSynchronized
  subst hsz
  have hD := hD0.self (sz := s.heap.size)
  generalize hAe : va_A [(a0, .inr (0, [v11, v12, v13, v14, v15, v16, v17, v18]))] s.heap.size = A at hD hZ ⊢
  have hA : ∀ q : Nat, s.heap.size ≤ q → A q := fun q h => by rw [← hAe]; exact Or.inr h
  have hS : va_S A s.heap s.heap [] := va_S.rf
  have hP : va_P D xcl [(a0, .inr (0, [v11, v12, v13, v14, v15, v16, v17, v18]))] s.heap := hP
  have hl := lv_entry ([.ref a0, .int x1, .int x6, .int x10]) (n := 5) (Nat.le_of_ble_eq_true rfl)
  rw [lg_entry_eq]
  generalize (lg_sl ([.ref a0, .int x1, .int x6, .int x10]) ++ List.replicate (5 - (lg_sl ([.ref a0, .int x1, .int x6, .int x10])).length) Slot.unset).toArray = ls at hl ⊢
  have hl : lv_has ls 5 [(0, .ref a0), (1, .int x1), (2, .int x6), (3, .int x10)] := hl
  have htab := vx_table (x := yL_one) B (hts _ List.mem_cons_self)
  refine lv_aload_n hx hb dL_one_0 rfl (lv_at hl 0 rfl) ?_
  refine lv_iload_n hx hb dL_one_1 rfl (lv_at hl 1 rfl) ?_
  refine lv_iload_n hx hb dL_one_2 rfl (lv_at hl 2 rfl) ?_
  refine lv_iload_n hx hb dL_one_3 rfl (lv_at hl 3 rfl) ?_
  obtain ⟨hPc, hDc, hFc⟩ := xcut (wc := []) hP hD hS hA [] rfl rfl (by decide)
  refine xx_thr (vx_runV (C := "ValueBench") (As := [.int x1, .int x6, .int x10]) (rest := []) ⟨hx, hb, hml, hown, htx⟩ (cB_one_18 l hl9 D cT aK aV s.heap.size a0 x1 x6 x10 h2 h3 h4 h5 h7 h8 h9) ⟨callB_of 3 htx (xw_goodC kw_4_25) rfl rfl rfl (htx _ kw_1_1) (htx _ kw_4_22) ⟨by decide, by decide, by decide +kernel⟩ ⟨Nat.le_of_ble_eq_true rfl, Nat.le_of_ble_eq_true rfl⟩, (htx _ kw_4_23), (htx _ kw_4_24)⟩ ⟨xPre_blind, va_recv hK hP (ci := 0) rfl (q0 := 0) rfl, (fun U hU hW => ⟨rfl, xPre_of hZ hS hFc hPc hDc hK U hU hW⟩)⟩ rfl rfl hl.1 rfl (lv_room (Nat.le_of_ble_eq_true rfl)) dL_one_4 ⟨Nat.le_of_ble_eq_true rfl, Nat.le_of_ble_eq_true rfl⟩) hS hFc (fun q _ h => hFc q h) (fun E ce q9 u9 t H1 locs ht hvm _ hB hz1 hk1 hS hce hcv hcl => ?_)
  obtain ⟨rfl, hP1, hK1, hD1⟩ := hB
  rw [ht] at hP1
  obtain ⟨hP, hD⟩ := xjoin (W := [(a0, .inr (0, [v11, v12, v13, v14, v15, v16, v17, v18]))]) hP hD [] [0] 1 rfl rfl (by decide) (by decide) hk1 hFc hP1 hD1
  generalize H1 = H at hP hS hce ⊢
  refine vx_catch (own := "ValueBenchLaw") (name := "java/lang/IllegalArgumentException") (E := "java/lang/IllegalArgumentException") hown [] ⟨0, 7, 10, 19⟩ [⟨0, 7, 14, 33⟩, ⟨0, 7, 18, 13⟩] (by rw [htab]; rfl) (fun z hz => nomatch hz) (by decide) (by decide) (htx _ kw_1_211) ((hZ.2.2.2.2.2.1 _ (List.mem_of_getElem? (i := 1) rfl)).use rfl) hce hcv hcl ?_
  refine lv_astore (lv' := [(4, .ref q9), (0, .ref a0), (1, .int x1), (2, .int x6), (3, .int x10)]) hx hb dL_one_10 hl (by decide) rfl (fun ls hl => ?_)
  refine lv_iconst (v := 1) hx hb dL_one_12 (by decide) ?_
  obtain ⟨hP9, hD9⟩ := xsub (wc := [(a0, .inr (0, [v11, v12, v13, v14, v15, v16, v17, v18]))]) hP hD [0] rfl rfl (by decide)
  refine W.widen (k := 1) (n := 6) (Nat.le_of_ble_eq_true rfl) (Nat.le_of_ble_eq_true rfl) ?_
  exact W.iret (v := 1) hx hb hr (fun t ht hW => ⟨⟨1, (), rfl, rfl, by rw [ht]; exact hP9, va_K.moved hW.alike hK, hD9⟩, hS.F ht⟩) hS.2.2 dL_one_13
set_option maxHeartbeats 400000000 in
set_option maxRecDepth 100000 in
theorem cB_one_19 (l : Launch) (hl9 : l.stackTraces = false) (D : va_G) (cT : Nat → ClassId) (aK aV : Nat → Nat) (sz : Nat) (b0 : Nat) (x1 : Int32) (x6 : Int32) (x10 : Int32) (h2 : ¬ x1 < 0) (h3 : ¬ 7 < x1) (h4 : x1 ≤ 7) (h5 : vp_in x1 8) (h7 : ¬ x6 < 0) (h8 : ¬ 13 < x6) (h9 : x6 ≤ 13) (h11 : ¬ x10 < 0) (h12 : 7 < x10) (h13 : ¬ x10 ≤ 7) : xMetX l yB_one wyB_one 7 1 6 120 D cT aK aV sz [.ref b0, .int x1, .int x6, .int x10] [] "java/lang/IllegalArgumentException" (fun A t => xB D xcl cT A [] t) := by
  refine vx_ofW (cc := prog_1_method_9_code) (maxL := 4) (ret := none) (by decide) rfl ?_
  intro p e s m args below meth c s₁ B hml hne hv
  obtain ⟨rfl, hsz, hZ, hP, hK, hD0⟩ := hv
  have hx := B.exec
  have hb := B.bytes
  have hr := B.returns
  have hts := atoms_spec (ws := wyB_one) B.pre
  have htx := fun w h => hts w (List.mem_cons_of_mem _ h)
  have hown : s.vm.findClass "ValueBench" = some m.cls := findClass_of_methodNamed B.named
  have hlocks := B.notSynchronized
  subst hsz
  have hD := hD0.self (sz := s.heap.size)
  generalize hAe : va_A [] s.heap.size = A at hD hZ ⊢
  have hA : ∀ q : Nat, s.heap.size ≤ q → A q := fun q h => by rw [← hAe]; exact Or.inr h
  have hS : va_S A s.heap s.heap [] := va_S.rf
  have hP : va_P D xcl [] s.heap := hP
  have hl := lv_entry ([.ref b0, .int x1, .int x6, .int x10]) (n := 4) (Nat.le_of_ble_eq_true rfl)
  rw [lg_entry_eq]
  generalize (lg_sl ([.ref b0, .int x1, .int x6, .int x10]) ++ List.replicate (4 - (lg_sl ([.ref b0, .int x1, .int x6, .int x10])).length) Slot.unset).toArray = ls at hl ⊢
  have hl : lv_has ls 4 [(0, .ref b0), (1, .int x1), (2, .int x6), (3, .int x10)] := hl
  refine lv_iload_n hx hb dB_one_0 rfl (lv_at hl 1 rfl) ?_
  obtain ⟨hPc, hDc, hFc⟩ := xcut (wc := []) hP hD hS hA [] rfl rfl (by decide)
  refine va_calli (va_runS (As := [.int x1]) (rest := []) ⟨hx, hb, hml, hown, htx⟩ (cB_isRegister_0 l hl9 D cT aK aV s.heap.size x1 h2 h3 h4 h5) ⟨callB_of 1 htx (xw_goodC kw_2_18) rfl rfl rfl (htx _ kw_1_1) (htx _ kw_2_16) ⟨by decide, by decide, by decide +kernel⟩ ⟨Nat.le_of_ble_eq_true rfl, Nat.le_of_ble_eq_true rfl⟩, htx _ kw_2_17⟩ ⟨xPre_blind, (fun U hU hW => ⟨rfl, xPre_of hZ hS hFc hPc hDc hK U hU hW⟩)⟩ rfl rfl hl.1 rfl (lv_room (Nat.le_of_ble_eq_true rfl)) dB_one_1 ⟨Nat.le_of_ble_eq_true rfl, Nat.le_of_ble_eq_true rfl⟩) hS (fun q _ h => hFc q h) hFc (fun r1 u9 t H1 locs ht hvm hr9 hB hz1 hk1 hS => ?_)
  obtain ⟨hP1, hK1, hD1⟩ := hB
  rw [ht] at hP1
  obtain ⟨hP, hD⟩ := xjoin (W := []) hP hD [] [] 0 rfl rfl (by decide) (by decide) hk1 hFc hP1 hD1
  generalize H1 = H at hP hS ⊢
  rw [hr9]
  refine W.eq (g2 := F0 m 4 ls [.int 1]) rfl ?_
  refine lv_if_eq (tgt := 27) hx hb dB_one_4 (by decide) (fun h => ((by revert h; decide : False)).elim) (fun _ => ?_)
  refine lv_iload_n hx hb dB_one_7 rfl (lv_at hl 2 rfl) ?_
  refine lv_bipush (v := 13) hx hb dB_one_8 (by decide) ?_
  obtain ⟨hPc, hDc, hFc⟩ := xcut (wc := []) hP hD hS hA [] rfl rfl (by decide)
  refine va_calli (va_runS (As := [.int x6, .int 13]) (rest := []) ⟨hx, hb, hml, hown, htx⟩ (cB_isWithin_41 l hl9 D cT aK aV H.size x6 h7 h8 h9) ⟨callB_of 2 htx (xw_goodC kw_1_218) rfl rfl rfl (htx _ kw_1_1) (htx _ kw_1_216) ⟨by decide, by decide, by decide +kernel⟩ ⟨Nat.le_of_ble_eq_true rfl, Nat.le_of_ble_eq_true rfl⟩, htx _ kw_1_217⟩ ⟨xPre_blind, (fun U hU hW => ⟨rfl, xPre_of hZ hS hFc hPc hDc hK U hU hW⟩)⟩ rfl rfl hl.1 rfl (lv_room (Nat.le_of_ble_eq_true rfl)) dB_one_10 ⟨Nat.le_of_ble_eq_true rfl, Nat.le_of_ble_eq_true rfl⟩) hS (fun q _ h => hFc q h) hFc (fun r2 u9 t H1 locs ht hvm hr9 hB hz1 hk1 hS => ?_)
  obtain ⟨hP1, hK1, hD1⟩ := hB
  rw [ht] at hP1
  obtain ⟨hP, hD⟩ := xjoin (W := []) hP hD [] [] 0 rfl rfl (by decide) (by decide) hk1 hFc hP1 hD1
  generalize H1 = H at hP hS ⊢
  rw [hr9]
  refine W.eq (g2 := F0 m 13 ls [.int 1]) rfl ?_
  refine lv_if_eq (tgt := 27) hx hb dB_one_13 (by decide) (fun h => ((by revert h; decide : False)).elim) (fun _ => ?_)
  refine lv_iload_n hx hb dB_one_16 rfl (lv_at hl 3 rfl) ?_
  obtain ⟨hPc, hDc, hFc⟩ := xcut (wc := []) hP hD hS hA [] rfl rfl (by decide)
  refine va_calli (va_runS (As := [.int x10]) (rest := []) ⟨hx, hb, hml, hown, htx⟩ (cB_isRegister_2 l hl9 D cT aK aV H.size x10 h11 h12 h13) ⟨callB_of 1 htx (xw_goodC kw_2_18) rfl rfl rfl (htx _ kw_1_1) (htx _ kw_2_16) ⟨by decide, by decide, by decide +kernel⟩ ⟨Nat.le_of_ble_eq_true rfl, Nat.le_of_ble_eq_true rfl⟩, htx _ kw_2_17⟩ ⟨xPre_blind, (fun U hU hW => ⟨rfl, xPre_of hZ hS hFc hPc hDc hK U hU hW⟩)⟩ rfl rfl hl.1 rfl (lv_room (Nat.le_of_ble_eq_true rfl)) dB_one_17 ⟨Nat.le_of_ble_eq_true rfl, Nat.le_of_ble_eq_true rfl⟩) hS (fun q _ h => hFc q h) hFc (fun r3 u9 t H1 locs ht hvm hr9 hB hz1 hk1 hS => ?_)
  obtain ⟨hP1, hK1, hD1⟩ := hB
  rw [ht] at hP1
  obtain ⟨hP, hD⟩ := xjoin (W := []) hP hD [] [] 0 rfl rfl (by decide) (by decide) hk1 hFc hP1 hD1
  generalize H1 = H at hP hS ⊢
  rw [hr9]
  refine W.eq (g2 := F0 m 20 ls [.int 0]) rfl ?_
  refine lv_if_eq (tgt := 27) hx hb dB_one_20 (by decide) (fun _ => ?_) (fun h => ((by revert h; decide : False)).elim)
  refine lv_iconst (v := 0) hx hb dB_one_27 (by decide) ?_
  obtain ⟨hPc, hDc, hFc⟩ := xcut (wc := []) hP hD hS hA [] rfl rfl (by decide)
  refine xx_thr (vx_runS (As := [.int 0]) (rest := []) ⟨hx, hb, hml, hown, htx⟩ (cB_demand_1 l hl9 D cT aK aV H.size) ⟨callB_of 1 htx (xw_goodC kw_1_221) rfl rfl rfl (htx _ kw_1_1) (htx _ kw_1_219) ⟨by decide, by decide, by decide +kernel⟩ ⟨Nat.le_of_ble_eq_true rfl, Nat.le_of_ble_eq_true rfl⟩, htx _ kw_1_220⟩ ⟨xPre_blind, (fun U hU hW => ⟨rfl, xPre_of hZ hS hFc hPc hDc hK U hU hW⟩)⟩ rfl rfl hl.1 rfl (lv_room (Nat.le_of_ble_eq_true rfl)) dB_one_28 ⟨Nat.le_of_ble_eq_true rfl, Nat.le_of_ble_eq_true rfl⟩) hS hFc (fun q _ h => hFc q h) (fun E ce q9 u9 t H1 locs ht hvm _ hB hz1 hk1 hS hce hcv hcl => ?_)
  obtain ⟨rfl, hP1, hK1, hD1⟩ := hB
  rw [ht] at hP1
  obtain ⟨hP, hD⟩ := xjoin (W := []) hP hD [] [] 0 rfl rfl (by decide) (by decide) hk1 hFc hP1 hD1
  generalize H1 = H at hP hS hce ⊢
  obtain ⟨hP9, hD9⟩ := xsub (wc := []) hP hD [] rfl rfl (by decide)
  exact vx_out (E := "java/lang/IllegalArgumentException") (fun x h => (hne x h).elim) hlocks hce hcv hcl (fun t ht ha => ⟨(), trivial, ⟨rfl, by rw [ht]; exact hP9, va_K.moved ha hK, hD9⟩, hS.F ht⟩) hS.2.2 (Nat.le_of_ble_eq_true rfl) (Nat.le_of_ble_eq_true rfl)
set_option maxHeartbeats 400000000 in
set_option maxRecDepth 100000 in
theorem cL_one_19 (l : Launch) (hl9 : l.stackTraces = false) (D : va_G) (cT : Nat → ClassId) (aK aV : Nat → Nat) (sz : Nat) (a0 : Nat) (x1 : Int32) (x6 : Int32) (x10 : Int32) (v14 : Value) (v15 : Value) (v16 : Value) (v17 : Value) (v18 : Value) (v19 : Value) (v20 : Value) (v21 : Value) (h2 : ¬ x1 < 0) (h3 : ¬ 7 < x1) (h4 : x1 ≤ 7) (h5 : vp_in x1 8) (h7 : ¬ x6 < 0) (h8 : ¬ 13 < x6) (h9 : x6 ≤ 13) (h11 : ¬ x10 < 0) (h12 : 7 < x10) (h13 : ¬ x10 ≤ 7) : xMet l yL_one wyL_one 8 1 6 143 D cT aK aV sz [.ref a0, .int x1, .int x6, .int x10] [(a0, .inr (0, [v14, v15, v16, v17, v18, v19, v20, v21]))] (fun A => va_Qi (fun (r : Int32) (_ : Unit) => r = 1) (fun _ t => xB D xcl cT A [(a0, .inr (0, [v14, v15, v16, v17, v18, v19, v20, v21]))] t) A) := by
  refine va_MetW (cc := method_10_code) (maxL := 5) (ret := (some .int)) (hh := [(0, 7, 10, 19), (0, 7, 14, 33), (0, 7, 18, 13)]) (by decide) rfl ?_
  intro p e s m args below meth c s₁ B hml hv
  obtain ⟨rfl, hsz, hZ, hP, hK, hD0⟩ := hv
  have hx := B.exec
  have hb := B.bytes
  have hr := B.returns
  have hts := atoms_spec (ws := wyL_one) B.pre
  have htx := fun w h => hts w (List.mem_cons_of_mem _ h)
  have hown : s.vm.findClass "ValueBenchLaw" = some m.cls := findClass_of_methodNamed B.named
  have hlocks := B.notSynchronized
  subst hsz
  have hD := hD0.self (sz := s.heap.size)
  generalize hAe : va_A [(a0, .inr (0, [v14, v15, v16, v17, v18, v19, v20, v21]))] s.heap.size = A at hD hZ ⊢
  have hA : ∀ q : Nat, s.heap.size ≤ q → A q := fun q h => by rw [← hAe]; exact Or.inr h
  have hS : va_S A s.heap s.heap [] := va_S.rf
  have hP : va_P D xcl [(a0, .inr (0, [v14, v15, v16, v17, v18, v19, v20, v21]))] s.heap := hP
  have hl := lv_entry ([.ref a0, .int x1, .int x6, .int x10]) (n := 5) (Nat.le_of_ble_eq_true rfl)
  rw [lg_entry_eq]
  generalize (lg_sl ([.ref a0, .int x1, .int x6, .int x10]) ++ List.replicate (5 - (lg_sl ([.ref a0, .int x1, .int x6, .int x10])).length) Slot.unset).toArray = ls at hl ⊢
  have hl : lv_has ls 5 [(0, .ref a0), (1, .int x1), (2, .int x6), (3, .int x10)] := hl
  have htab := vx_table (x := yL_one) B (hts _ List.mem_cons_self)
  refine lv_aload_n hx hb dL_one_0 rfl (lv_at hl 0 rfl) ?_
  refine lv_iload_n hx hb dL_one_1 rfl (lv_at hl 1 rfl) ?_
  refine lv_iload_n hx hb dL_one_2 rfl (lv_at hl 2 rfl) ?_
  refine lv_iload_n hx hb dL_one_3 rfl (lv_at hl 3 rfl) ?_
  obtain ⟨hPc, hDc, hFc⟩ := xcut (wc := []) hP hD hS hA [] rfl rfl (by decide)
  refine xx_thr (vx_runV (C := "ValueBench") (As := [.int x1, .int x6, .int x10]) (rest := []) ⟨hx, hb, hml, hown, htx⟩ (cB_one_19 l hl9 D cT aK aV s.heap.size a0 x1 x6 x10 h2 h3 h4 h5 h7 h8 h9 h11 h12 h13) ⟨callB_of 3 htx (xw_goodC kw_4_25) rfl rfl rfl (htx _ kw_1_1) (htx _ kw_4_22) ⟨by decide, by decide, by decide +kernel⟩ ⟨Nat.le_of_ble_eq_true rfl, Nat.le_of_ble_eq_true rfl⟩, (htx _ kw_4_23), (htx _ kw_4_24)⟩ ⟨xPre_blind, va_recv hK hP (ci := 0) rfl (q0 := 0) rfl, (fun U hU hW => ⟨rfl, xPre_of hZ hS hFc hPc hDc hK U hU hW⟩)⟩ rfl rfl hl.1 rfl (lv_room (Nat.le_of_ble_eq_true rfl)) dL_one_4 ⟨Nat.le_of_ble_eq_true rfl, Nat.le_of_ble_eq_true rfl⟩) hS hFc (fun q _ h => hFc q h) (fun E ce q9 u9 t H1 locs ht hvm _ hB hz1 hk1 hS hce hcv hcl => ?_)
  obtain ⟨rfl, hP1, hK1, hD1⟩ := hB
  rw [ht] at hP1
  obtain ⟨hP, hD⟩ := xjoin (W := [(a0, .inr (0, [v14, v15, v16, v17, v18, v19, v20, v21]))]) hP hD [] [0] 1 rfl rfl (by decide) (by decide) hk1 hFc hP1 hD1
  generalize H1 = H at hP hS hce ⊢
  refine vx_catch (own := "ValueBenchLaw") (name := "java/lang/IllegalArgumentException") (E := "java/lang/IllegalArgumentException") hown [] ⟨0, 7, 10, 19⟩ [⟨0, 7, 14, 33⟩, ⟨0, 7, 18, 13⟩] (by rw [htab]; rfl) (fun z hz => nomatch hz) (by decide) (by decide) (htx _ kw_1_211) ((hZ.2.2.2.2.2.1 _ (List.mem_of_getElem? (i := 1) rfl)).use rfl) hce hcv hcl ?_
  refine lv_astore (lv' := [(4, .ref q9), (0, .ref a0), (1, .int x1), (2, .int x6), (3, .int x10)]) hx hb dL_one_10 hl (by decide) rfl (fun ls hl => ?_)
  refine lv_iconst (v := 1) hx hb dL_one_12 (by decide) ?_
  obtain ⟨hP9, hD9⟩ := xsub (wc := [(a0, .inr (0, [v14, v15, v16, v17, v18, v19, v20, v21]))]) hP hD [0] rfl rfl (by decide)
  refine W.widen (k := 1) (n := 6) (Nat.le_of_ble_eq_true rfl) (Nat.le_of_ble_eq_true rfl) ?_
  exact W.iret (v := 1) hx hb hr (fun t ht hW => ⟨⟨1, (), rfl, rfl, by rw [ht]; exact hP9, va_K.moved hW.alike hK, hD9⟩, hS.F ht⟩) hS.2.2 dL_one_13
