set_option maxHeartbeats 400000000 in
set_option maxRecDepth 100000 in
theorem cD_number_0 (l : Launch) (hl9 : l.stackTraces = false) (D : va_G) (cT : Nat → ClassId) (aK aV : Nat → Nat) (sz : Nat) (a0 : Nat) (a1 : Nat) (v2 : Value) (v3 : Value) (v4 : Value) (v5 : Value) : xMet l yD_number wyD_number 1 0 0 21 D cT aK aV sz [.ref a0] [(a0, .inr (4, [.ref a1, v2, .int 0, v3])), (a1, .inr (1, [v4, .int 0, v5]))] (fun A => va_Qi (fun (r : Int32) (_ : Unit) => r = 0) (fun _ t => xB D xcl cT A [(a0, .inr (4, [.ref a1, v2, .int 0, .int 0])), (a1, .inr (1, [v4, .int 0, v5]))] t) A) := by
  refine Met.ofW (cc := prog_7_method_12_code) (maxL := 5) (ret := (some .boolean)) (by decide) rfl ?_
  intro p e s m args below meth c s₁ B hml hv
  obtain ⟨rfl, hsz, hZ, hP, hK, hD0⟩ := hv
  have hx := B.exec
  have hb := B.bytes
  have hr := B.returns
  have hts := atoms_spec (ws := wyD_number) B.pre
  have htx := fun w h => hts w (List.mem_cons_of_mem _ h)
  have hown : s.vm.findClass "ValueBench$Reader" = some m.cls := findClass_of_methodNamed B.named
  have hlocks := B.notSynchronized
  subst hsz
  have hD := hD0.self (sz := s.heap.size)
  generalize hAe : va_A [(a0, .inr (4, [.ref a1, v2, .int 0, v3])), (a1, .inr (1, [v4, .int 0, v5]))] s.heap.size = A at hD hZ ⊢
  have hA : ∀ q : Nat, s.heap.size ≤ q → A q := fun q h => by rw [← hAe]; exact Or.inr h
  have hS : va_S A s.heap s.heap [] := va_S.rf
  have hP : va_P D xcl [(a0, .inr (4, [.ref a1, v2, .int 0, v3])), (a1, .inr (1, [v4, .int 0, v5]))] s.heap := hP
  have hl := lv_entry ([.ref a0]) (n := 5) (Nat.le_of_ble_eq_true rfl)
  rw [lg_entry_eq]
  generalize (lg_sl ([.ref a0]) ++ List.replicate (5 - (lg_sl ([.ref a0])).length) Slot.unset).toArray = ls at hl ⊢
  have hl : lv_has ls 5 [(0, .ref a0)] := hl
  refine lv_aload_n hx hb dD_number_0 rfl (lv_at hl 0 rfl) ?_
  refine va_get (D := D) (ci := 4) (v := .int 0) (C := "ValueBench$Reader") (T := TD) (N := 4) hx hb htx inD hown hK hP 0 rfl rfl 2 (by decide) (htx _ kw_2_31) (fun _ h9 => h9) rfl dD_number_1 ?_
  refine lv_istore_n (lv' := [(1, .int 0), (0, .ref a0)]) hx hb dD_number_4 rfl hl (by decide) rfl (fun ls hl => ?_)
  refine lv_aload_n hx hb dD_number_5 rfl (lv_at hl 1 rfl) ?_
  refine va_get (D := D) (ci := 4) (v := .ref a1) (C := "ValueBench$Reader") (T := TD) (N := 4) hx hb htx inD hown hK hP 0 rfl rfl 0 (by decide) (htx _ kw_2_29) (fun _ h9 => h9) rfl dD_number_6 ?_
  refine lv_aload_n hx hb dD_number_9 rfl (lv_at hl 1 rfl) ?_
  refine va_get (D := D) (ci := 4) (v := .int 0) (C := "ValueBench$Reader") (T := TD) (N := 4) hx hb htx inD hown hK hP 0 rfl rfl 2 (by decide) (htx _ kw_2_31) (fun _ h9 => h9) rfl dD_number_10 ?_
  obtain ⟨hPc, hDc, hFc⟩ := xcut (wc := [(a1, .inr (1, [v4, .int 0, v5]))]) hP hD hS hA [1] rfl rfl (by decide)
  refine va_calli (va_runV (C := "ValueBench$Text") (As := [.int 0]) (rest := []) ⟨hx, hb, hml, hown, htx⟩ (cT_at_0 l hl9 D cT aK aV s.heap.size a1 v4 v5) ⟨callB_of 1 htx (xw_goodC kw_2_58) rfl rfl rfl (htx _ kw_1_2) (htx _ kw_2_55) ⟨by decide, by decide, by decide +kernel⟩ ⟨Nat.le_of_ble_eq_true rfl, Nat.le_of_ble_eq_true rfl⟩, (htx _ kw_2_56), (htx _ kw_2_57)⟩ ⟨xPre_blind, va_recv hK hP (ci := 1) rfl (q0 := 1) rfl, (fun U hU hW => ⟨rfl, xPre_of hZ hS hFc hPc hDc hK U hU hW⟩)⟩ rfl rfl hl.1 rfl (lv_room (Nat.le_of_ble_eq_true rfl)) dD_number_13 ⟨Nat.le_of_ble_eq_true rfl, Nat.le_of_ble_eq_true rfl⟩) hS (fun q _ h => hFc q h) hFc (fun r1 u9 t H1 locs ht hvm hr9 hB hz1 hk1 hS => ?_)
  obtain ⟨hP1, hK1, hD1⟩ := hB
  rw [ht] at hP1
  obtain ⟨hP, hD⟩ := xjoin (W := [(a0, .inr (4, [.ref a1, v2, .int 0, v3])), (a1, .inr (1, [v4, .int 0, v5]))]) hP hD [1] [0] 1 rfl rfl (by decide) (by decide) hk1 hFc hP1 hD1
  generalize H1 = H at hP hS ⊢
  rw [hr9]
  refine W.eq (g2 := F0 m 16 ls [.int (-1)]) rfl ?_
  refine lv_bipush (v := 45) hx hb dD_number_16 (by decide) ?_
  refine lv_icmp_ne (tgt := 25) hx hb dD_number_18 (by decide) (fun _ => ?_) (fun h => ((by revert h; decide : False)).elim)
  refine lv_iconst (v := 0) hx hb dD_number_25 (by decide) ?_
  refine lv_istore_n (lv' := [(2, .int 0), (1, .int 0), (0, .ref a0)]) hx hb dD_number_26 rfl hl (by decide) rfl (fun ls hl => ?_)
  refine lv_iload_n hx hb dD_number_27 rfl (lv_at hl 0 rfl) ?_
  refine lv_if_eq (tgt := 41) hx hb dD_number_28 (by decide) (fun _ => ?_) (fun h => ((by revert h; decide : False)).elim)
  refine lv_aload_n hx hb dD_number_41 rfl (lv_at hl 2 rfl) ?_
  refine va_get (D := D) (ci := 4) (v := .ref a1) (C := "ValueBench$Reader") (T := TD) (N := 4) hx hb htx inD hown hK hP 0 rfl rfl 0 (by decide) (htx _ kw_2_29) (fun _ h9 => h9) rfl dD_number_42 ?_
  refine lv_aload_n hx hb dD_number_45 rfl (lv_at hl 2 rfl) ?_
  refine va_get (D := D) (ci := 4) (v := .int 0) (C := "ValueBench$Reader") (T := TD) (N := 4) hx hb htx inD hown hK hP 0 rfl rfl 2 (by decide) (htx _ kw_2_31) (fun _ h9 => h9) rfl dD_number_46 ?_
  obtain ⟨hPc, hDc, hFc⟩ := xcut (wc := [(a1, .inr (1, [v4, .int 0, v5]))]) hP hD hS hA [1] rfl rfl (by decide)
  refine va_calli (va_runV (C := "ValueBench$Text") (As := [.int 0]) (rest := []) ⟨hx, hb, hml, hown, htx⟩ (cT_at_0 l hl9 D cT aK aV H.size a1 v4 v5) ⟨callB_of 1 htx (xw_goodC kw_2_58) rfl rfl rfl (htx _ kw_1_2) (htx _ kw_2_55) ⟨by decide, by decide, by decide +kernel⟩ ⟨Nat.le_of_ble_eq_true rfl, Nat.le_of_ble_eq_true rfl⟩, (htx _ kw_2_56), (htx _ kw_2_57)⟩ ⟨xPre_blind, va_recv hK hP (ci := 1) rfl (q0 := 1) rfl, (fun U hU hW => ⟨rfl, xPre_of hZ hS hFc hPc hDc hK U hU hW⟩)⟩ rfl rfl hl.1 rfl (lv_room (Nat.le_of_ble_eq_true rfl)) dD_number_49 ⟨Nat.le_of_ble_eq_true rfl, Nat.le_of_ble_eq_true rfl⟩) hS (fun q _ h => hFc q h) hFc (fun r2 u9 t H1 locs ht hvm hr9 hB hz1 hk1 hS => ?_)
  obtain ⟨hP1, hK1, hD1⟩ := hB
  rw [ht] at hP1
  obtain ⟨hP, hD⟩ := xjoin (W := [(a0, .inr (4, [.ref a1, v2, .int 0, v3])), (a1, .inr (1, [v4, .int 0, v5]))]) hP hD [1] [0] 1 rfl rfl (by decide) (by decide) hk1 hFc hP1 hD1
  generalize H1 = H at hP hS ⊢
  rw [hr9]
  refine W.eq (g2 := F0 m 52 ls [.int (-1)]) rfl ?_
  obtain ⟨hPc, hDc, hFc⟩ := xcut (wc := []) hP hD hS hA [] rfl rfl (by decide)
  refine va_calli (va_runS (As := [.int (-1)]) (rest := []) ⟨hx, hb, hml, hown, htx⟩ (cD_isDigit_0 l hl9 D cT aK aV H.size) ⟨callB_of 1 htx (xw_goodC kw_2_217) rfl rfl rfl (htx _ kw_1_16) (htx _ kw_2_215) ⟨by decide, by decide, by decide +kernel⟩ ⟨Nat.le_of_ble_eq_true rfl, Nat.le_of_ble_eq_true rfl⟩, htx _ kw_2_216⟩ ⟨xPre_blind, (fun U hU hW => ⟨rfl, xPre_of hZ hS hFc hPc hDc hK U hU hW⟩)⟩ rfl rfl hl.1 rfl (lv_room (Nat.le_of_ble_eq_true rfl)) dD_number_52 ⟨Nat.le_of_ble_eq_true rfl, Nat.le_of_ble_eq_true rfl⟩) hS (fun q _ h => hFc q h) hFc (fun r3 u9 t H1 locs ht hvm hr9 hB hz1 hk1 hS => ?_)
  obtain ⟨hP1, hK1, hD1⟩ := hB
  rw [ht] at hP1
  obtain ⟨hP, hD⟩ := xjoin (W := [(a0, .inr (4, [.ref a1, v2, .int 0, v3])), (a1, .inr (1, [v4, .int 0, v5]))]) hP hD [] [0, 1] 2 rfl rfl (by decide) (by decide) hk1 hFc hP1 hD1
  generalize H1 = H at hP hS ⊢
  rw [hr9]
  refine W.eq (g2 := F0 m 55 ls [.int 0]) rfl ?_
  refine lv_if_ne (tgt := 67) hx hb dD_number_55 (by decide) (fun h => ((by revert h; decide : False)).elim) (fun _ => ?_)
  refine lv_aload_n hx hb dD_number_58 rfl (lv_at hl 2 rfl) ?_
  refine lv_aload_n hx hb dD_number_59 rfl (lv_at hl 2 rfl) ?_
  refine va_get (D := D) (ci := 4) (v := .int 0) (C := "ValueBench$Reader") (T := TD) (N := 4) hx hb htx inD hown hK hP 0 rfl rfl 2 (by decide) (htx _ kw_2_31) (fun _ h9 => h9) rfl dD_number_60 ?_
  obtain ⟨hPc, hDc, hFc⟩ := xcut (wc := [(a0, .inr (4, [.ref a1, v2, .int 0, v3]))]) hP hD hS hA [0] rfl rfl (by decide)
  refine va_calli (va_runV (C := "ValueBench$Reader") (As := [.int 0]) (rest := []) ⟨hx, hb, hml, hown, htx⟩ (cD_broken_0 l hl9 D cT aK aV H.size a0 (.ref a1) v2 (.int 0) v3) ⟨callB_of 1 htx (xw_goodC kw_2_122) rfl rfl rfl (htx _ kw_1_16) (htx _ kw_2_119) ⟨by decide, by decide, by decide +kernel⟩ ⟨Nat.le_of_ble_eq_true rfl, Nat.le_of_ble_eq_true rfl⟩, (htx _ kw_2_121), (htx _ kp_D_broken)⟩ ⟨xPre_blind, va_recv hK hP (ci := 4) rfl (q0 := 0) rfl, (fun U hU hW => ⟨rfl, xPre_of hZ hS hFc hPc hDc hK U hU hW⟩)⟩ rfl rfl hl.1 rfl (lv_room (Nat.le_of_ble_eq_true rfl)) dD_number_63 ⟨Nat.le_of_ble_eq_true rfl, Nat.le_of_ble_eq_true rfl⟩) hS (fun q _ h => hFc q h) hFc (fun r4 u9 t H1 locs ht hvm hr9 hB hz1 hk1 hS => ?_)
  obtain ⟨hP1, hK1, hD1⟩ := hB
  rw [ht] at hP1
  obtain ⟨hP, hD⟩ := xjoin (W := [(a1, .inr (1, [v4, .int 0, v5])), (a0, .inr (4, [.ref a1, v2, .int 0, .int 0]))]) hP hD [0] [1] 1 rfl rfl (by decide) (by decide) hk1 hFc hP1 hD1
  generalize H1 = H at hP hS ⊢
  rw [hr9]
  refine W.eq (g2 := F0 m 66 ls [.int 0]) rfl ?_
  obtain ⟨hP9, hD9⟩ := xsub (wc := [(a0, .inr (4, [.ref a1, v2, .int 0, .int 0])), (a1, .inr (1, [v4, .int 0, v5]))]) hP hD [1, 0] rfl rfl (by decide)
  refine W.widen (k := 0) (n := 0) (Nat.le_of_ble_eq_true rfl) (Nat.le_of_ble_eq_true rfl) ?_
  exact W.zret (v := 0) hx hb hr rfl (fun t ht hW => ⟨⟨0, (), rfl, rfl, by rw [ht]; exact hP9, va_K.moved hW.alike hK, hD9⟩, hS.F ht⟩) hS.2.2 dD_number_66
set_option maxHeartbeats 400000000 in
set_option maxRecDepth 100000 in
theorem cD_value_0 (l : Launch) (hl9 : l.stackTraces = false) (D : va_G) (cT : Nat → ClassId) (aK aV : Nat → Nat) (sz : Nat) (a0 : Nat) (a1 : Nat) (x2 : Int32) (v3 : Value) (v4 : Value) (v5 : Value) (v6 : Value) : xMet l yD_value wyD_value 2 0 0 45 D cT aK aV sz [.ref a0, .int x2] [(a0, .inr (4, [.ref a1, v3, .int 0, v4])), (a1, .inr (1, [v5, .int 0, v6]))] (fun A => va_Qi (fun (r : Int32) (_ : Unit) => r = 0) (fun _ t => xB D xcl cT A [(a0, .inr (4, [.ref a1, v3, .int 0, .int 0])), (a1, .inr (1, [v5, .int 0, v6]))] t) A) := by
  refine Met.ofW (cc := prog_7_method_10_code) (maxL := 2) (ret := (some .boolean)) (by decide) rfl ?_
  intro p e s m args below meth c s₁ B hml hv
  obtain ⟨rfl, hsz, hZ, hP, hK, hD0⟩ := hv
  have hx := B.exec
  have hb := B.bytes
  have hr := B.returns
  have hts := atoms_spec (ws := wyD_value) B.pre
  have htx := fun w h => hts w (List.mem_cons_of_mem _ h)
  have hown : s.vm.findClass "ValueBench$Reader" = some m.cls := findClass_of_methodNamed B.named
  have hlocks := B.notSynchronized
  subst hsz
  have hD := hD0.self (sz := s.heap.size)
  generalize hAe : va_A [(a0, .inr (4, [.ref a1, v3, .int 0, v4])), (a1, .inr (1, [v5, .int 0, v6]))] s.heap.size = A at hD hZ ⊢
  have hA : ∀ q : Nat, s.heap.size ≤ q → A q := fun q h => by rw [← hAe]; exact Or.inr h
  have hS : va_S A s.heap s.heap [] := va_S.rf
  have hP : va_P D xcl [(a0, .inr (4, [.ref a1, v3, .int 0, v4])), (a1, .inr (1, [v5, .int 0, v6]))] s.heap := hP
  have hl := lv_entry ([.ref a0, .int x2]) (n := 2) (Nat.le_of_ble_eq_true rfl)
  rw [lg_entry_eq]
  generalize (lg_sl ([.ref a0, .int x2]) ++ List.replicate (2 - (lg_sl ([.ref a0, .int x2])).length) Slot.unset).toArray = ls at hl ⊢
  have hl : lv_has ls 2 [(0, .ref a0), (1, .int x2)] := hl
  refine lv_aload_n hx hb dD_value_0 rfl (lv_at hl 0 rfl) ?_
  obtain ⟨hPc, hDc, hFc⟩ := xcut (wc := [(a0, .inr (4, [.ref a1, v3, .int 0, v4])), (a1, .inr (1, [v5, .int 0, v6]))]) hP hD hS hA [0, 1] rfl rfl (by decide)
  refine va_callv (va_runV (C := "ValueBench$Reader") (As := []) (rest := []) ⟨hx, hb, hml, hown, htx⟩ (cD_skipBlanks_0 l hl9 D cT aK aV s.heap.size a0 a1 v3 v4 v5 v6) ⟨callB_of 0 htx (xw_goodC kw_2_53) rfl rfl rfl (htx _ kw_1_16) (htx _ kw_2_50) ⟨by decide, by decide, by decide +kernel⟩ ⟨Nat.le_of_ble_eq_true rfl, Nat.le_of_ble_eq_true rfl⟩, (htx _ kw_2_52), (htx _ kp_D_skipBlanks)⟩ ⟨xPre_blind, va_recv hK hP (ci := 4) rfl (q0 := 0) rfl, (fun U hU hW => ⟨rfl, xPre_of hZ hS hFc hPc hDc hK U hU hW⟩)⟩ rfl rfl hl.1 rfl (lv_room (Nat.le_of_ble_eq_true rfl)) dD_value_1 ⟨Nat.le_of_ble_eq_true rfl, Nat.le_of_ble_eq_true rfl⟩) hS (fun q _ h => hFc q h) hFc (fun u9 t H1 locs ht hvm hr9 hB hz1 hk1 hS => ?_)
  obtain ⟨hP1, hK1, hD1⟩ := hB
  rw [ht] at hP1
  obtain ⟨hP, hD⟩ := xjoin (W := [(a0, .inr (4, [.ref a1, v3, .int 0, v4])), (a1, .inr (1, [v5, .int 0, v6]))]) hP hD [0, 1] [] 0 rfl rfl (by decide) (by decide) hk1 hFc hP1 hD1
  generalize H1 = H at hP hS ⊢
  refine lv_aload_n hx hb dD_value_4 rfl (lv_at hl 0 rfl) ?_
  refine va_get (D := D) (ci := 4) (v := .ref a1) (C := "ValueBench$Reader") (T := TD) (N := 4) hx hb htx inD hown hK hP 0 rfl rfl 0 (by decide) (htx _ kw_2_29) (fun _ h9 => h9) rfl dD_value_5 ?_
  refine lv_aload_n hx hb dD_value_8 rfl (lv_at hl 0 rfl) ?_
  refine va_get (D := D) (ci := 4) (v := .int 0) (C := "ValueBench$Reader") (T := TD) (N := 4) hx hb htx inD hown hK hP 0 rfl rfl 2 (by decide) (htx _ kw_2_31) (fun _ h9 => h9) rfl dD_value_9 ?_
  obtain ⟨hPc, hDc, hFc⟩ := xcut (wc := [(a1, .inr (1, [v5, .int 0, v6]))]) hP hD hS hA [1] rfl rfl (by decide)
  refine va_calli (va_runV (C := "ValueBench$Text") (As := [.int 0]) (rest := []) ⟨hx, hb, hml, hown, htx⟩ (cT_at_0 l hl9 D cT aK aV H.size a1 v5 v6) ⟨callB_of 1 htx (xw_goodC kw_2_58) rfl rfl rfl (htx _ kw_1_2) (htx _ kw_2_55) ⟨by decide, by decide, by decide +kernel⟩ ⟨Nat.le_of_ble_eq_true rfl, Nat.le_of_ble_eq_true rfl⟩, (htx _ kw_2_56), (htx _ kw_2_57)⟩ ⟨xPre_blind, va_recv hK hP (ci := 1) rfl (q0 := 1) rfl, (fun U hU hW => ⟨rfl, xPre_of hZ hS hFc hPc hDc hK U hU hW⟩)⟩ rfl rfl hl.1 rfl (lv_room (Nat.le_of_ble_eq_true rfl)) dD_value_12 ⟨Nat.le_of_ble_eq_true rfl, Nat.le_of_ble_eq_true rfl⟩) hS (fun q _ h => hFc q h) hFc (fun r1 u9 t H1 locs ht hvm hr9 hB hz1 hk1 hS => ?_)
  obtain ⟨hP1, hK1, hD1⟩ := hB
  rw [ht] at hP1
  obtain ⟨hP, hD⟩ := xjoin (W := [(a0, .inr (4, [.ref a1, v3, .int 0, v4])), (a1, .inr (1, [v5, .int 0, v6]))]) hP hD [1] [0] 1 rfl rfl (by decide) (by decide) hk1 hFc hP1 hD1
  generalize H1 = H at hP hS ⊢
  rw [hr9]
  refine W.eq (g2 := F0 m 15 ls [.int (-1)]) rfl ?_
  refine lv_lookup (off := 132) (tgt := 147) hx hb dD_value_15 (by decide) (by decide) (by decide) ?_
  refine lv_aload_n hx hb dD_value_147 rfl (lv_at hl 0 rfl) ?_
  obtain ⟨hPc, hDc, hFc⟩ := xcut (wc := [(a0, .inr (4, [.ref a1, v3, .int 0, v4])), (a1, .inr (1, [v5, .int 0, v6]))]) hP hD hS hA [0, 1] rfl rfl (by decide)
  refine va_calli (va_runV (C := "ValueBench$Reader") (As := []) (rest := []) ⟨hx, hb, hml, hown, htx⟩ (cD_number_0 l hl9 D cT aK aV H.size a0 a1 v3 v4 v5 v6) ⟨callB_of 0 htx (xw_goodC kw_2_214) rfl rfl rfl (htx _ kw_1_16) (htx _ kw_2_211) ⟨by decide, by decide, by decide +kernel⟩ ⟨Nat.le_of_ble_eq_true rfl, Nat.le_of_ble_eq_true rfl⟩, (htx _ kw_2_213), (htx _ kp_D_number)⟩ ⟨xPre_blind, va_recv hK hP (ci := 4) rfl (q0 := 0) rfl, (fun U hU hW => ⟨rfl, xPre_of hZ hS hFc hPc hDc hK U hU hW⟩)⟩ rfl rfl hl.1 rfl (lv_room (Nat.le_of_ble_eq_true rfl)) dD_value_148 ⟨Nat.le_of_ble_eq_true rfl, Nat.le_of_ble_eq_true rfl⟩) hS (fun q _ h => hFc q h) hFc (fun r2 u9 t H1 locs ht hvm hr9 hB hz1 hk1 hS => ?_)
  obtain ⟨hP1, hK1, hD1⟩ := hB
  rw [ht] at hP1
  obtain ⟨hP, hD⟩ := xjoin (W := [(a0, .inr (4, [.ref a1, v3, .int 0, .int 0])), (a1, .inr (1, [v5, .int 0, v6]))]) hP hD [0, 1] [] 0 rfl rfl (by decide) (by decide) hk1 hFc hP1 hD1
  generalize H1 = H at hP hS ⊢
  rw [hr9]
  refine W.eq (g2 := F0 m 151 ls [.int 0]) rfl ?_
  obtain ⟨hP9, hD9⟩ := xsub (wc := [(a0, .inr (4, [.ref a1, v3, .int 0, .int 0])), (a1, .inr (1, [v5, .int 0, v6]))]) hP hD [0, 1] rfl rfl (by decide)
  refine W.widen (k := 0) (n := 0) (Nat.le_of_ble_eq_true rfl) (Nat.le_of_ble_eq_true rfl) ?_
  exact W.zret (v := 0) hx hb hr rfl (fun t ht hW => ⟨⟨0, (), rfl, rfl, by rw [ht]; exact hP9, va_K.moved hW.alike hK, hD9⟩, hS.F ht⟩) hS.2.2 dD_value_151
set_option maxHeartbeats 400000000 in
set_option maxRecDepth 100000 in
theorem cD_readValue_0 (l : Launch) (hl9 : l.stackTraces = false) (D : va_G) (cT : Nat → ClassId) (aK aV : Nat → Nat) (sz : Nat) (a0 : Nat) (a1 : Nat) (v2 : Value) (v3 : Value) (v4 : Value) (v5 : Value) : xMet l yD_readValue wyD_readValue 3 0 0 66 D cT aK aV sz [.ref a0] [(a0, .inr (4, [.ref a1, v2, .int 0, v3])), (a1, .inr (1, [v4, .int 0, v5]))] (fun A => va_Qi (fun (r : Int32) (_ : Unit) => r = 0) (fun _ t => xB D xcl cT A [(a0, .inr (4, [.ref a1, v2, .int 0, .int 0])), (a1, .inr (1, [v4, .int 0, v5]))] t) A) := by
  refine Met.ofW (cc := prog_7_method_2_code) (maxL := 1) (ret := (some .int)) (by decide) rfl ?_
  intro p e s m args below meth c s₁ B hml hv
  obtain ⟨rfl, hsz, hZ, hP, hK, hD0⟩ := hv
  have hx := B.exec
  have hb := B.bytes
  have hr := B.returns
  have hts := atoms_spec (ws := wyD_readValue) B.pre
  have htx := fun w h => hts w (List.mem_cons_of_mem _ h)
  have hown : s.vm.findClass "ValueBench$Reader" = some m.cls := findClass_of_methodNamed B.named
  have hlocks := B.notSynchronized
  subst hsz
  have hD := hD0.self (sz := s.heap.size)
  generalize hAe : va_A [(a0, .inr (4, [.ref a1, v2, .int 0, v3])), (a1, .inr (1, [v4, .int 0, v5]))] s.heap.size = A at hD hZ ⊢
  have hA : ∀ q : Nat, s.heap.size ≤ q → A q := fun q h => by rw [← hAe]; exact Or.inr h
  have hS : va_S A s.heap s.heap [] := va_S.rf
  have hP : va_P D xcl [(a0, .inr (4, [.ref a1, v2, .int 0, v3])), (a1, .inr (1, [v4, .int 0, v5]))] s.heap := hP
  have hl := lv_entry ([.ref a0]) (n := 1) (Nat.le_of_ble_eq_true rfl)
  rw [lg_entry_eq]
  generalize (lg_sl ([.ref a0]) ++ List.replicate (1 - (lg_sl ([.ref a0])).length) Slot.unset).toArray = ls at hl ⊢
  have hl : lv_has ls 1 [(0, .ref a0)] := hl
  refine lv_aload_n hx hb dD_readValue_0 rfl (lv_at hl 0 rfl) ?_
  refine lv_iconst (v := 0) hx hb dD_readValue_1 (by decide) ?_
  obtain ⟨hPc, hDc, hFc⟩ := xcut (wc := [(a0, .inr (4, [.ref a1, v2, .int 0, v3])), (a1, .inr (1, [v4, .int 0, v5]))]) hP hD hS hA [0, 1] rfl rfl (by decide)
  refine va_calli (va_runV (C := "ValueBench$Reader") (As := [.int 0]) (rest := []) ⟨hx, hb, hml, hown, htx⟩ (cD_value_0 l hl9 D cT aK aV s.heap.size a0 a1 0 v2 v3 v4 v5) ⟨callB_of 1 htx (xw_goodC kw_2_49) rfl rfl rfl (htx _ kw_1_16) (htx _ kw_2_46) ⟨by decide, by decide, by decide +kernel⟩ ⟨Nat.le_of_ble_eq_true rfl, Nat.le_of_ble_eq_true rfl⟩, (htx _ kw_2_48), (htx _ kp_D_value)⟩ ⟨xPre_blind, va_recv hK hP (ci := 4) rfl (q0 := 0) rfl, (fun U hU hW => ⟨rfl, xPre_of hZ hS hFc hPc hDc hK U hU hW⟩)⟩ rfl rfl hl.1 rfl (lv_room (Nat.le_of_ble_eq_true rfl)) dD_readValue_2 ⟨Nat.le_of_ble_eq_true rfl, Nat.le_of_ble_eq_true rfl⟩) hS (fun q _ h => hFc q h) hFc (fun r1 u9 t H1 locs ht hvm hr9 hB hz1 hk1 hS => ?_)
  obtain ⟨hP1, hK1, hD1⟩ := hB
  rw [ht] at hP1
  obtain ⟨hP, hD⟩ := xjoin (W := [(a0, .inr (4, [.ref a1, v2, .int 0, .int 0])), (a1, .inr (1, [v4, .int 0, v5]))]) hP hD [0, 1] [] 0 rfl rfl (by decide) (by decide) hk1 hFc hP1 hD1
  generalize H1 = H at hP hS ⊢
  rw [hr9]
  refine W.eq (g2 := F0 m 5 ls [.int 0]) rfl ?_
  refine lv_if_eq (tgt := 16) hx hb dD_readValue_5 (by decide) (fun _ => ?_) (fun h => ((by revert h; decide : False)).elim)
  refine lv_aload_n hx hb dD_readValue_16 rfl (lv_at hl 0 rfl) ?_
  refine va_get (D := D) (ci := 4) (v := .int 0) (C := "ValueBench$Reader") (T := TD) (N := 4) hx hb htx inD hown hK hP 0 rfl rfl 3 (by decide) (htx _ kw_2_32) (fun _ h9 => h9) rfl dD_readValue_17 ?_
  obtain ⟨hP9, hD9⟩ := xsub (wc := [(a0, .inr (4, [.ref a1, v2, .int 0, .int 0])), (a1, .inr (1, [v4, .int 0, v5]))]) hP hD [0, 1] rfl rfl (by decide)
  refine W.widen (k := 0) (n := 0) (Nat.le_of_ble_eq_true rfl) (Nat.le_of_ble_eq_true rfl) ?_
  exact W.iret (v := 0) hx hb hr (fun t ht hW => ⟨⟨0, (), rfl, rfl, by rw [ht]; exact hP9, va_K.moved hW.alike hK, hD9⟩, hS.F ht⟩) hS.2.2 dD_readValue_20
set_option maxHeartbeats 400000000 in
set_option maxRecDepth 100000 in
theorem cT_clear_0 (l : Launch) (hl9 : l.stackTraces = false) (D : va_G) (cT : Nat → ClassId) (aK aV : Nat → Nat) (sz : Nat) (a0 : Nat) (v1 : Value) (v2 : Value) (v3 : Value) : xMet l yT_clear wyT_clear 0 0 0 0 D cT aK aV sz [.ref a0] [(a0, .inr (1, [v1, v2, v3]))] (fun A => va_Qv (fun _ : Unit => True) (fun _ t => xB D xcl cT A [(a0, .inr (1, [v1, .int 0, .int 0]))] t) A) := by
  refine Met.ofW (cc := prog_11_method_2_code) (maxL := 1) (ret := none) (by decide) rfl ?_
  intro p e s m args below meth c s₁ B hml hv
  obtain ⟨rfl, hsz, hZ, hP, hK, hD0⟩ := hv
  have hx := B.exec
  have hb := B.bytes
  have hr := B.returns
  have hts := atoms_spec (ws := wyT_clear) B.pre
  have htx := fun w h => hts w (List.mem_cons_of_mem _ h)
  have hown : s.vm.findClass "ValueBench$Text" = some m.cls := findClass_of_methodNamed B.named
  have hlocks := B.notSynchronized
  subst hsz
  have hD := hD0.self (sz := s.heap.size)
  generalize hAe : va_A [(a0, .inr (1, [v1, v2, v3]))] s.heap.size = A at hD hZ ⊢
  have hA : ∀ q : Nat, s.heap.size ≤ q → A q := fun q h => by rw [← hAe]; exact Or.inr h
  have hS : va_S A s.heap s.heap [] := va_S.rf
  have hP : va_P D xcl [(a0, .inr (1, [v1, v2, v3]))] s.heap := hP
  have hl := lv_entry ([.ref a0]) (n := 1) (Nat.le_of_ble_eq_true rfl)
  rw [lg_entry_eq]
  generalize (lg_sl ([.ref a0]) ++ List.replicate (1 - (lg_sl ([.ref a0])).length) Slot.unset).toArray = ls at hl ⊢
  have hl : lv_has ls 1 [(0, .ref a0)] := hl
  refine lv_aload_n hx hb dT_clear_0 rfl (lv_at hl 0 rfl) ?_
  refine lv_iconst (v := 0) hx hb dT_clear_1 (by decide) ?_
  refine va_put (D := D) (ci := 1) (v := .int 0) (ty := .int) (C := "ValueBench$Text") (T := TT) (N := 3) hx hb htx inT tyT tyT_ok nmT hown hK hP hD hS 0 rfl rfl 1 (by decide) (htx _ kw_1_44) (fun _ h9 => h9) rfl (by decide +kernel) rfl rfl (Nat.le_of_ble_eq_true rfl) dT_clear_2 (fun H locs hP hD hS => ?_)
  obtain ⟨hP, hD⟩ : xPD D xcl A [(a0, .inr (1, [v1, .int 0, v3]))] H := ⟨hP, hD⟩
  refine lv_aload_n hx hb dT_clear_5 rfl (lv_at hl 0 rfl) ?_
  refine lv_iconst (v := 0) hx hb dT_clear_6 (by decide) ?_
  refine va_put (D := D) (ci := 1) (v := .int 0) (ty := .boolean) (C := "ValueBench$Text") (T := TT) (N := 3) hx hb htx inT tyT tyT_ok nmT hown hK hP hD hS 0 rfl rfl 2 (by decide) (htx _ kw_1_45) (fun _ h9 => h9) rfl (by decide +kernel) rfl rfl (Nat.le_of_ble_eq_true rfl) dT_clear_7 (fun H locs hP hD hS => ?_)
  obtain ⟨hP, hD⟩ : xPD D xcl A [(a0, .inr (1, [v1, .int 0, .int 0]))] H := ⟨hP, hD⟩
  obtain ⟨hP9, hD9⟩ := xsub (wc := [(a0, .inr (1, [v1, .int 0, .int 0]))]) hP hD [0] rfl rfl (by decide)
  refine W.widen (k := 0) (n := 0) (Nat.le_of_ble_eq_true rfl) (Nat.le_of_ble_eq_true rfl) ?_
  exact W.vret hx hb hr (fun t ht hW => ⟨⟨(), rfl, trivial, by rw [ht]; exact hP9, va_K.moved hW.alike hK, hD9⟩, hS.F ht⟩) hS.2.2 dT_clear_10
set_option maxHeartbeats 400000000 in
set_option maxRecDepth 100000 in
theorem cB_read_2 (l : Launch) (hl9 : l.stackTraces = false) (D : va_G) (cT : Nat → ClassId) (aK aV : Nat → Nat) (sz : Nat) (a0 : Nat) (a1 : Nat) (a2 : Nat) (x3 : Int32) (v8 : Value) (v9 : Value) (v10 : Value) (v11 : Value) (v12 : Value) (v13 : Value) (v14 : Value) (v15 : Value) (v16 : Value) (v17 : Value) (v18 : Value) (h4 : ¬ x3 < 0) (h5 : ¬ 7 < x3) (h6 : x3 ≤ 7) (h7 : vp_in x3 8) : xMetX l yB_read wyB_read 6 2 10 100 D cT aK aV sz [.ref a0, .int x3] [(a0, .inr (0, [.ref a2, v8, v9, v10, v11, .ref a1, v12, v13])), (a1, .inr (2, [v14, v15, v16])), (a2, .inr (1, [v17, .int 0, v18]))] "java/lang/UnsupportedOperationException" (fun A t => ∃ (q2 : Nat), xB D xcl cT A [(a0, .inr (0, [.ref a2, v8, v9, v10, v11, .ref a1, .int 0, v13])), (a1, .inr (2, [v14, .int 0, .int 0])), (a2, .inr (1, [v17, .int 0, .int 0])), (q2, .inr (4, [.ref a2, .ref a1, .int 0, .int 0]))] t) := by
  refine vx_ofW (cc := prog_1_method_4_code) (maxL := 2) (ret := (some .int)) (by decide) rfl ?_
  intro p e s m args below meth c s₁ B hml hne hv
  obtain ⟨rfl, hsz, hZ, hP, hK, hD0⟩ := hv
  have hx := B.exec
  have hb := B.bytes
  have hr := B.returns
  have hts := atoms_spec (ws := wyB_read) B.pre
  have htx := fun w h => hts w (List.mem_cons_of_mem _ h)
  have hown : s.vm.findClass "ValueBench" = some m.cls := findClass_of_methodNamed B.named
  have hlocks := B.notSynchronized
  subst hsz
  have hD := hD0.self (sz := s.heap.size)
  generalize hAe : va_A [(a0, .inr (0, [.ref a2, v8, v9, v10, v11, .ref a1, v12, v13])), (a1, .inr (2, [v14, v15, v16])), (a2, .inr (1, [v17, .int 0, v18]))] s.heap.size = A at hD hZ ⊢
  have hA : ∀ q : Nat, s.heap.size ≤ q → A q := fun q h => by rw [← hAe]; exact Or.inr h
  have hS : va_S A s.heap s.heap [] := va_S.rf
  have hP : va_P D xcl [(a0, .inr (0, [.ref a2, v8, v9, v10, v11, .ref a1, v12, v13])), (a1, .inr (2, [v14, v15, v16])), (a2, .inr (1, [v17, .int 0, v18]))] s.heap := hP
  have hl := lv_entry ([.ref a0, .int x3]) (n := 2) (Nat.le_of_ble_eq_true rfl)
  rw [lg_entry_eq]
  generalize (lg_sl ([.ref a0, .int x3]) ++ List.replicate (2 - (lg_sl ([.ref a0, .int x3])).length) Slot.unset).toArray = ls at hl ⊢
  have hl : lv_has ls 2 [(0, .ref a0), (1, .int x3)] := hl
  refine lv_iload_n hx hb dB_read_0 rfl (lv_at hl 1 rfl) ?_
  obtain ⟨hPc, hDc, hFc⟩ := xcut (wc := []) hP hD hS hA [] rfl rfl (by decide)
  refine va_calli (va_runS (As := [.int x3]) (rest := []) ⟨hx, hb, hml, hown, htx⟩ (cB_isRegister_2 l hl9 D cT aK aV s.heap.size x3 h4 h5 h6 h7) ⟨callB_of 1 htx (xw_goodC kw_2_18) rfl rfl rfl (htx _ kw_1_1) (htx _ kw_2_16) ⟨by decide, by decide, by decide +kernel⟩ ⟨Nat.le_of_ble_eq_true rfl, Nat.le_of_ble_eq_true rfl⟩, htx _ kw_2_17⟩ ⟨xPre_blind, (fun U hU hW => ⟨rfl, xPre_of hZ hS hFc hPc hDc hK U hU hW⟩)⟩ rfl rfl hl.1 rfl (lv_room (Nat.le_of_ble_eq_true rfl)) dB_read_1 ⟨Nat.le_of_ble_eq_true rfl, Nat.le_of_ble_eq_true rfl⟩) hS (fun q _ h => hFc q h) hFc (fun r1 u9 t H1 locs ht hvm hr9 hB hz1 hk1 hS => ?_)
  obtain ⟨hP1, hK1, hD1⟩ := hB
  rw [ht] at hP1
  obtain ⟨hP, hD⟩ := xjoin (W := [(a0, .inr (0, [.ref a2, v8, v9, v10, v11, .ref a1, v12, v13])), (a1, .inr (2, [v14, v15, v16])), (a2, .inr (1, [v17, .int 0, v18]))]) hP hD [] [0, 1, 2] 3 rfl rfl (by decide) (by decide) hk1 hFc hP1 hD1
  generalize H1 = H at hP hS ⊢
  rw [hr9]
  refine W.eq (g2 := F0 m 4 ls [.int 1]) rfl ?_
  obtain ⟨hPc, hDc, hFc⟩ := xcut (wc := []) hP hD hS hA [] rfl rfl (by decide)
  refine va_callv (va_runS (As := [.int 1]) (rest := []) ⟨hx, hb, hml, hown, htx⟩ (cB_demand_1 l hl9 D cT aK aV H.size) ⟨callB_of 1 htx (xw_goodC kw_1_221) rfl rfl rfl (htx _ kw_1_1) (htx _ kw_1_219) ⟨by decide, by decide, by decide +kernel⟩ ⟨Nat.le_of_ble_eq_true rfl, Nat.le_of_ble_eq_true rfl⟩, htx _ kw_1_220⟩ ⟨xPre_blind, (fun U hU hW => ⟨rfl, xPre_of hZ hS hFc hPc hDc hK U hU hW⟩)⟩ rfl rfl hl.1 rfl (lv_room (Nat.le_of_ble_eq_true rfl)) dB_read_4 ⟨Nat.le_of_ble_eq_true rfl, Nat.le_of_ble_eq_true rfl⟩) hS (fun q _ h => hFc q h) hFc (fun u9 t H1 locs ht hvm hr9 hB hz1 hk1 hS => ?_)
  obtain ⟨hP1, hK1, hD1⟩ := hB
  rw [ht] at hP1
  obtain ⟨hP, hD⟩ := xjoin (W := [(a0, .inr (0, [.ref a2, v8, v9, v10, v11, .ref a1, v12, v13])), (a1, .inr (2, [v14, v15, v16])), (a2, .inr (1, [v17, .int 0, v18]))]) hP hD [] [0, 1, 2] 3 rfl rfl (by decide) (by decide) hk1 hFc hP1 hD1
  generalize H1 = H at hP hS ⊢
  refine lv_aload_n hx hb dB_read_7 rfl (lv_at hl 0 rfl) ?_
  refine va_get (D := D) (ci := 0) (v := .ref a1) (C := "ValueBench") (T := TB) (N := 8) hx hb htx inB hown hK hP 0 rfl rfl 5 (by decide) (htx _ kw_1_100) (fun _ h9 => h9) rfl dB_read_8 ?_
  obtain ⟨hPc, hDc, hFc⟩ := xcut (wc := [(a1, .inr (2, [v14, v15, v16]))]) hP hD hS hA [1] rfl rfl (by decide)
  refine va_callv (va_runV (C := "ValueBench$Row") (As := []) (rest := []) ⟨hx, hb, hml, hown, htx⟩ (cR_clear_0 l hl9 D cT aK aV H.size a1 v14 v15 v16) ⟨callB_of 0 htx (xw_goodC kw_2_22) rfl rfl rfl (htx _ kw_1_4) (htx _ kw_2_19) ⟨by decide, by decide, by decide +kernel⟩ ⟨Nat.le_of_ble_eq_true rfl, Nat.le_of_ble_eq_true rfl⟩, (htx _ kw_2_20), (htx _ kw_2_21)⟩ ⟨xPre_blind, va_recv hK hP (ci := 2) rfl (q0 := 1) rfl, (fun U hU hW => ⟨rfl, xPre_of hZ hS hFc hPc hDc hK U hU hW⟩)⟩ rfl rfl hl.1 rfl (lv_room (Nat.le_of_ble_eq_true rfl)) dB_read_11 ⟨Nat.le_of_ble_eq_true rfl, Nat.le_of_ble_eq_true rfl⟩) hS (fun q _ h => hFc q h) hFc (fun u9 t H1 locs ht hvm hr9 hB hz1 hk1 hS => ?_)
  obtain ⟨hP1, hK1, hD1⟩ := hB
  rw [ht] at hP1
  obtain ⟨hP, hD⟩ := xjoin (W := [(a0, .inr (0, [.ref a2, v8, v9, v10, v11, .ref a1, v12, v13])), (a2, .inr (1, [v17, .int 0, v18])), (a1, .inr (2, [v14, .int 0, .int 0]))]) hP hD [1] [0, 2] 2 rfl rfl (by decide) (by decide) hk1 hFc hP1 hD1
  generalize H1 = H at hP hS ⊢
  refine lv_aload_n hx hb dB_read_14 rfl (lv_at hl 0 rfl) ?_
  refine va_new (ci := 4) (fs := [.null, .null, .int 0, .int 0]) (C := "ValueBench$Reader") (T := TD) (N := 4) hx hb htx inD tyD tyD_ok hown (htx _ kw_2_23) (htx _ kw_2_24) (htx _ kw_1_16) hK hP hD hS hA rfl (by decide +kernel) (Nat.le_of_ble_eq_true rfl) (Nat.le_of_ble_eq_true rfl) dB_read_15 (fun q2 H hP hD hS => ?_)
  obtain ⟨hP, hD⟩ : xPD D xcl A [(a0, .inr (0, [.ref a2, v8, v9, v10, v11, .ref a1, v12, v13])), (a2, .inr (1, [v17, .int 0, v18])), (a1, .inr (2, [v14, .int 0, .int 0])), (q2, .inr (4, [.null, .null, .int 0, .int 0]))] H := ⟨hP, hD⟩
  refine lv_dup hx hb dB_read_18 rfl ?_
  refine lv_aload_n hx hb dB_read_19 rfl (lv_at hl 0 rfl) ?_
  refine va_get (D := D) (ci := 0) (v := .ref a2) (C := "ValueBench") (T := TB) (N := 8) hx hb htx inB hown hK hP 0 rfl rfl 0 (by decide) (htx _ kw_1_95) (fun _ h9 => h9) rfl dB_read_20 ?_
  refine lv_aload_n hx hb dB_read_23 rfl (lv_at hl 0 rfl) ?_
  refine va_get (D := D) (ci := 0) (v := .ref a1) (C := "ValueBench") (T := TB) (N := 8) hx hb htx inB hown hK hP 0 rfl rfl 5 (by decide) (htx _ kw_1_100) (fun _ h9 => h9) rfl dB_read_24 ?_
  obtain ⟨hPc, hDc, hFc⟩ := xcut (wc := [(q2, .inr (4, [.null, .null, .int 0, .int 0]))]) hP hD hS hA [3] rfl rfl (by decide)
  refine va_callv (va_runI (As := [.ref a2, .ref a1]) (rest := [.ref q2, .ref a0]) ⟨hx, hb, hml, hown, htx⟩ (cD_init_0 l hl9 D cT aK aV H.size q2 a2 a1 .null .null (.int 0) (.int 0)) ⟨callB_of 2 htx (xw_goodC kw_2_27) rfl rfl rfl (htx _ kw_1_16) (htx _ kw_2_25) ⟨by decide, by decide, by decide +kernel⟩ ⟨Nat.le_of_ble_eq_true rfl, Nat.le_of_ble_eq_true rfl⟩, rfl, (htx _ kw_2_26)⟩ ⟨xPre_blind, (fun U hU hW => ⟨rfl, xPre_of hZ hS hFc hPc hDc hK U hU hW⟩)⟩ rfl rfl hl.1 rfl (lv_room (Nat.le_of_ble_eq_true rfl)) dB_read_27 ⟨Nat.le_of_ble_eq_true rfl, Nat.le_of_ble_eq_true rfl⟩) hS (fun q _ h => hFc q h) hFc (fun u9 t H1 locs ht hvm hr9 hB hz1 hk1 hS => ?_)
  obtain ⟨hP1, hK1, hD1⟩ := hB
  rw [ht] at hP1
  obtain ⟨hP, hD⟩ := xjoin (W := [(a0, .inr (0, [.ref a2, v8, v9, v10, v11, .ref a1, v12, v13])), (a2, .inr (1, [v17, .int 0, v18])), (a1, .inr (2, [v14, .int 0, .int 0])), (q2, .inr (4, [.ref a2, .ref a1, .int 0, .int (-1)]))]) hP hD [3] [0, 1, 2] 3 rfl rfl (by decide) (by decide) hk1 hFc hP1 hD1
  generalize H1 = H at hP hS ⊢
  obtain ⟨hPc, hDc, hFc⟩ := xcut (wc := [(q2, .inr (4, [.ref a2, .ref a1, .int 0, .int (-1)])), (a2, .inr (1, [v17, .int 0, v18]))]) hP hD hS hA [3, 1] rfl rfl (by decide)
  refine va_calli (va_runV (C := "ValueBench$Reader") (As := []) (rest := [.ref a0]) ⟨hx, hb, hml, hown, htx⟩ (cD_readValue_0 l hl9 D cT aK aV H.size q2 a2 (.ref a1) (.int (-1)) v17 v18) ⟨callB_of 0 htx (xw_goodC kw_2_45) rfl rfl rfl (htx _ kw_1_16) (htx _ kw_2_42) ⟨by decide, by decide, by decide +kernel⟩ ⟨Nat.le_of_ble_eq_true rfl, Nat.le_of_ble_eq_true rfl⟩, (htx _ kw_2_43), (htx _ kw_2_44)⟩ ⟨xPre_blind, va_recv hK hP (ci := 4) rfl (q0 := 3) rfl, (fun U hU hW => ⟨rfl, xPre_of hZ hS hFc hPc hDc hK U hU hW⟩)⟩ rfl rfl hl.1 rfl (lv_room (Nat.le_of_ble_eq_true rfl)) dB_read_30 ⟨Nat.le_of_ble_eq_true rfl, Nat.le_of_ble_eq_true rfl⟩) hS (fun q _ h => hFc q h) hFc (fun r3 u9 t H1 locs ht hvm hr9 hB hz1 hk1 hS => ?_)
  obtain ⟨hP1, hK1, hD1⟩ := hB
  rw [ht] at hP1
  obtain ⟨hP, hD⟩ := xjoin (W := [(a0, .inr (0, [.ref a2, v8, v9, v10, v11, .ref a1, v12, v13])), (a1, .inr (2, [v14, .int 0, .int 0])), (q2, .inr (4, [.ref a2, .ref a1, .int 0, .int 0])), (a2, .inr (1, [v17, .int 0, v18]))]) hP hD [3, 1] [0, 2] 2 rfl rfl (by decide) (by decide) hk1 hFc hP1 hD1
  generalize H1 = H at hP hS ⊢
  rw [hr9]
  refine W.eq (g2 := F0 m 33 ls [.int 0, .ref a0]) rfl ?_
  refine va_put (D := D) (ci := 0) (v := .int 0) (ty := .int) (C := "ValueBench") (T := TB) (N := 8) hx hb htx inB tyB tyB_ok nmB hown hK hP hD hS 0 rfl rfl 6 (by decide) (htx _ kw_1_101) (fun _ h9 => h9) rfl (by decide +kernel) rfl rfl (Nat.le_of_ble_eq_true rfl) dB_read_33 (fun H locs hP hD hS => ?_)
  obtain ⟨hP, hD⟩ : xPD D xcl A [(a0, .inr (0, [.ref a2, v8, v9, v10, v11, .ref a1, .int 0, v13])), (a1, .inr (2, [v14, .int 0, .int 0])), (q2, .inr (4, [.ref a2, .ref a1, .int 0, .int 0])), (a2, .inr (1, [v17, .int 0, v18]))] H := ⟨hP, hD⟩
  refine lv_aload_n hx hb dB_read_36 rfl (lv_at hl 0 rfl) ?_
  refine va_get (D := D) (ci := 0) (v := .ref a2) (C := "ValueBench") (T := TB) (N := 8) hx hb htx inB hown hK hP 0 rfl rfl 0 (by decide) (htx _ kw_1_95) (fun _ h9 => h9) rfl dB_read_37 ?_
  obtain ⟨hPc, hDc, hFc⟩ := xcut (wc := [(a2, .inr (1, [v17, .int 0, v18]))]) hP hD hS hA [3] rfl rfl (by decide)
  refine va_callv (va_runV (C := "ValueBench$Text") (As := []) (rest := []) ⟨hx, hb, hml, hown, htx⟩ (cT_clear_0 l hl9 D cT aK aV H.size a2 v17 (.int 0) v18) ⟨callB_of 0 htx (xw_goodC kw_2_237) rfl rfl rfl (htx _ kw_1_2) (htx _ kw_2_234) ⟨by decide, by decide, by decide +kernel⟩ ⟨Nat.le_of_ble_eq_true rfl, Nat.le_of_ble_eq_true rfl⟩, (htx _ kw_2_235), (htx _ kw_2_236)⟩ ⟨xPre_blind, va_recv hK hP (ci := 1) rfl (q0 := 3) rfl, (fun U hU hW => ⟨rfl, xPre_of hZ hS hFc hPc hDc hK U hU hW⟩)⟩ rfl rfl hl.1 rfl (lv_room (Nat.le_of_ble_eq_true rfl)) dB_read_40 ⟨Nat.le_of_ble_eq_true rfl, Nat.le_of_ble_eq_true rfl⟩) hS (fun q _ h => hFc q h) hFc (fun u9 t H1 locs ht hvm hr9 hB hz1 hk1 hS => ?_)
  obtain ⟨hP1, hK1, hD1⟩ := hB
  rw [ht] at hP1
  obtain ⟨hP, hD⟩ := xjoin (W := [(a0, .inr (0, [.ref a2, v8, v9, v10, v11, .ref a1, .int 0, v13])), (a1, .inr (2, [v14, .int 0, .int 0])), (q2, .inr (4, [.ref a2, .ref a1, .int 0, .int 0])), (a2, .inr (1, [v17, .int 0, .int 0]))]) hP hD [3] [0, 1, 2] 3 rfl rfl (by decide) (by decide) hk1 hFc hP1 hD1
  generalize H1 = H at hP hS ⊢
  refine lv_aload_n hx hb dB_read_43 rfl (lv_at hl 0 rfl) ?_
  refine va_get (D := D) (ci := 0) (v := .int 0) (C := "ValueBench") (T := TB) (N := 8) hx hb htx inB hown hK hP 0 rfl rfl 6 (by decide) (htx _ kw_1_101) (fun _ h9 => h9) rfl dB_read_44 ?_
  refine lv_iconst (v := (-1)) hx hb dB_read_47 (by decide) ?_
  refine lv_icmp_eq (tgt := 61) hx hb dB_read_48 (by decide) (fun h => ((by revert h; decide : False)).elim) (fun _ => ?_)
  obtain ⟨hP9, hD9⟩ := xsub (wc := [(a0, .inr (0, [.ref a2, v8, v9, v10, v11, .ref a1, .int 0, v13])), (a1, .inr (2, [v14, .int 0, .int 0])), (a2, .inr (1, [v17, .int 0, .int 0])), (q2, .inr (4, [.ref a2, .ref a1, .int 0, .int 0]))]) hP hD [0, 1, 3, 2] rfl rfl (by decide)
  exact vx_throwS (own := "ValueBench") (cls := "java/lang/UnsupportedOperationException") (text := "broken JSON") (sa := aK 1) (names := ["java/lang/RuntimeException", "java/lang/Exception"]) hx hb hl9 hown (by decide +kernel) (by decide +kernel) (htx _ kw_2_238) (htx _ kw_1_17) (hZ.2.2.2.2.2.2.2.2.1 ("ValueBench", 91, "broken JSON", 1) (List.mem_of_getElem? (i := 1) rfl)) (vx_hat (B := [.castable "java/lang/UnsupportedOperationException" "java/lang/UnsupportedOperationException", .declares ⟨"java/lang/RuntimeException", "<init>", "(Ljava/lang/String;)V"⟩, .declares ⟨"java/lang/Exception", "<init>", "(Ljava/lang/String;)V"⟩, .declares ⟨"java/lang/Throwable", "<init>", "(Ljava/lang/String;)V"⟩]) (fun w h => htx w (xat_B_89_93 w h)) xat_B_89_93_b (vx_c ((hZ.2.2.2.2.2.1 "java/lang/UnsupportedOperationException" (List.mem_of_getElem? (i := 2) rfl)).use rfl) (vx_c ((hZ.2.2.2.2.2.2.1 ⟨"java/lang/RuntimeException", "<init>", "(Ljava/lang/String;)V"⟩ (List.mem_of_getElem? (i := 3) rfl)).use rfl) (vx_c ((hZ.2.2.2.2.2.2.1 ⟨"java/lang/Exception", "<init>", "(Ljava/lang/String;)V"⟩ (List.mem_of_getElem? (i := 4) rfl)).use rfl) (vx_c ((hZ.2.2.2.2.2.2.1 ⟨"java/lang/Throwable", "<init>", "(Ljava/lang/String;)V"⟩ (List.mem_of_getElem? (i := 5) rfl)).use rfl) vx_n))))) xat_B_89_93_g hZ.2.2.2.1 hZ.2.2.2.2.1 hS (hl.1.trans hml.symm) dB_read_51 dB_read_54 dB_read_55 dB_read_57 dB_read_60 (fun x h => (hne x h).elim) (by decide) (Nat.le_of_ble_eq_true rfl) (Nat.le_of_ble_eq_true rfl) (Nat.le_of_ble_eq_true rfl) hlocks (fun t ha hz hk => ⟨(), trivial, ⟨rfl, q2, xx_keepP hP9 hk, va_K.moved ha hK, hD9⟩, xx_grown hS hz hk⟩) hS.2.2 (Nat.le_of_ble_eq_true rfl) (Nat.le_of_ble_eq_true rfl)
set_option maxHeartbeats 400000000 in
set_option maxRecDepth 100000 in
theorem cL_read_2 (l : Launch) (hl9 : l.stackTraces = false) (D : va_G) (cT : Nat → ClassId) (aK aV : Nat → Nat) (sz : Nat) (a0 : Nat) (a1 : Nat) (a2 : Nat) (x3 : Int32) (b8 : Nat) (v9 : Value) (v10 : Value) (v11 : Value) (v12 : Value) (v13 : Value) (v14 : Value) (v15 : Value) (v16 : Value) (v17 : Value) (v18 : Value) (v19 : Value) (h4 : ¬ x3 < 0) (h5 : ¬ 7 < x3) (h6 : x3 ≤ 7) (h7 : vp_in x3 8) : xMet l yL_read wyL_read 7 2 10 121 D cT aK aV sz [.ref a0, .int x3, .ref b8] [(a0, .inr (0, [.ref a2, v9, v10, v11, v12, .ref a1, v13, v14])), (a1, .inr (2, [v15, v16, v17])), (a2, .inr (1, [v18, .int 0, v19]))] (fun A => va_Qi (fun (r : Int32) (_ : Unit) => r = 2) (fun _ t => ∃ (q1 : Nat), xB D xcl cT A [(a0, .inr (0, [.ref a2, v9, v10, v11, v12, .ref a1, .int 0, v14])), (a1, .inr (2, [v15, .int 0, .int 0])), (a2, .inr (1, [v18, .int 0, .int 0])), (q1, .inr (4, [.ref a2, .ref a1, .int 0, .int 0]))] t) A) := by
  refine va_MetW (cc := method_5_code) (maxL := 4) (ret := (some .int)) (hh := [(0, 9, 12, 19), (0, 9, 15, 24), (0, 9, 18, 13)]) (by decide) rfl ?_
  intro p e s m args below meth c s₁ B hml hv
  obtain ⟨rfl, hsz, hZ, hP, hK, hD0⟩ := hv
  have hx := B.exec
  have hb := B.bytes
  have hr := B.returns
  have hts := atoms_spec (ws := wyL_read) B.pre
  have htx := fun w h => hts w (List.mem_cons_of_mem _ h)
  have hown : s.vm.findClass "ValueBenchLaw" = some m.cls := findClass_of_methodNamed B.named
  have hlocks := B.notSynchronized
  subst hsz
  have hD := hD0.self (sz := s.heap.size)
  generalize hAe : va_A [(a0, .inr (0, [.ref a2, v9, v10, v11, v12, .ref a1, v13, v14])), (a1, .inr (2, [v15, v16, v17])), (a2, .inr (1, [v18, .int 0, v19]))] s.heap.size = A at hD hZ ⊢
  have hA : ∀ q : Nat, s.heap.size ≤ q → A q := fun q h => by rw [← hAe]; exact Or.inr h
  have hS : va_S A s.heap s.heap [] := va_S.rf
  have hP : va_P D xcl [(a0, .inr (0, [.ref a2, v9, v10, v11, v12, .ref a1, v13, v14])), (a1, .inr (2, [v15, v16, v17])), (a2, .inr (1, [v18, .int 0, v19]))] s.heap := hP
  have hl := lv_entry ([.ref a0, .int x3, .ref b8]) (n := 4) (Nat.le_of_ble_eq_true rfl)
  rw [lg_entry_eq]
  generalize (lg_sl ([.ref a0, .int x3, .ref b8]) ++ List.replicate (4 - (lg_sl ([.ref a0, .int x3, .ref b8])).length) Slot.unset).toArray = ls at hl ⊢
  have hl : lv_has ls 4 [(0, .ref a0), (1, .int x3), (2, .ref b8)] := hl
  have htab := vx_table (x := yL_read) B (hts _ List.mem_cons_self)
  refine lv_aload_n hx hb dL_read_0 rfl (lv_at hl 2 rfl) ?_
  refine lv_iconst (v := 0) hx hb dL_read_1 (by decide) ?_
  refine lv_aload_n hx hb dL_read_2 rfl (lv_at hl 0 rfl) ?_
  refine lv_iload_n hx hb dL_read_3 rfl (lv_at hl 1 rfl) ?_
  obtain ⟨hPc, hDc, hFc⟩ := xcut (wc := [(a0, .inr (0, [.ref a2, v9, v10, v11, v12, .ref a1, v13, v14])), (a1, .inr (2, [v15, v16, v17])), (a2, .inr (1, [v18, .int 0, v19]))]) hP hD hS hA [0, 1, 2] rfl rfl (by decide)
  refine xx_thr (vx_runV (C := "ValueBench") (As := [.int x3]) (rest := [.int 0, .ref b8]) ⟨hx, hb, hml, hown, htx⟩ (cB_read_2 l hl9 D cT aK aV s.heap.size a0 a1 a2 x3 v9 v10 v11 v12 v13 v14 v15 v16 v17 v18 v19 h4 h5 h6 h7) ⟨callB_of 1 htx (xw_goodC kw_2_15) rfl rfl rfl (htx _ kw_1_1) (htx _ kw_2_12) ⟨by decide, by decide, by decide +kernel⟩ ⟨Nat.le_of_ble_eq_true rfl, Nat.le_of_ble_eq_true rfl⟩, (htx _ kw_2_13), (htx _ kw_2_14)⟩ ⟨xPre_blind, va_recv hK hP (ci := 0) rfl (q0 := 0) rfl, (fun U hU hW => ⟨rfl, xPre_of hZ hS hFc hPc hDc hK U hU hW⟩)⟩ rfl rfl hl.1 rfl (lv_room (Nat.le_of_ble_eq_true rfl)) dL_read_4 ⟨Nat.le_of_ble_eq_true rfl, Nat.le_of_ble_eq_true rfl⟩) hS hFc (fun q _ h => hFc q h) (fun E ce q9 u9 t H1 locs ht hvm _ hB hz1 hk1 hS hce hcv hcl => ?_)
  obtain ⟨rfl, q1, hP1, hK1, hD1⟩ := hB
  rw [ht] at hP1
  obtain ⟨hP, hD⟩ := xjoin (W := [(a0, .inr (0, [.ref a2, v9, v10, v11, v12, .ref a1, .int 0, v14])), (a1, .inr (2, [v15, .int 0, .int 0])), (a2, .inr (1, [v18, .int 0, .int 0])), (q1, .inr (4, [.ref a2, .ref a1, .int 0, .int 0]))]) hP hD [0, 1, 2] [] 0 rfl rfl (by decide) (by decide) hk1 hFc hP1 hD1
  generalize H1 = H at hP hS hce ⊢
  refine vx_catch (own := "ValueBenchLaw") (name := "java/lang/UnsupportedOperationException") (E := "java/lang/UnsupportedOperationException") hown [⟨0, 9, 12, 19⟩] ⟨0, 9, 15, 24⟩ [⟨0, 9, 18, 13⟩] (by rw [htab]; rfl) (by intro z hz; rcases List.mem_cons.mp hz with rfl | hz; (exact Or.inr ⟨by decide, "java/lang/IllegalArgumentException", htx _ kw_1_211, hZ.2.2.2.2.2.2.2.1 ("java/lang/UnsupportedOperationException", "java/lang/IllegalArgumentException") (List.mem_of_getElem? (i := 7) rfl)⟩); cases hz) (by decide) (by decide) (htx _ kw_2_11) ((hZ.2.2.2.2.2.1 "java/lang/UnsupportedOperationException" (List.mem_of_getElem? (i := 2) rfl)).use rfl) hce hcv hcl ?_
  refine lv_astore_n (lv' := [(3, .ref q9), (0, .ref a0), (1, .int x3), (2, .ref b8)]) hx hb dL_read_15 rfl hl (by decide) rfl (fun ls hl => ?_)
  refine lv_iconst (v := 2) hx hb dL_read_16 (by decide) ?_
  obtain ⟨hP9, hD9⟩ := xsub (wc := [(a0, .inr (0, [.ref a2, v9, v10, v11, v12, .ref a1, .int 0, v14])), (a1, .inr (2, [v15, .int 0, .int 0])), (a2, .inr (1, [v18, .int 0, .int 0])), (q1, .inr (4, [.ref a2, .ref a1, .int 0, .int 0]))]) hP hD [0, 1, 2, 3] rfl rfl (by decide)
  refine W.widen (k := 2) (n := 10) (Nat.le_of_ble_eq_true rfl) (Nat.le_of_ble_eq_true rfl) ?_
  exact W.iret (v := 2) hx hb hr (fun t ht hW => ⟨⟨2, (), rfl, rfl, q1, by rw [ht]; exact hP9, va_K.moved hW.alike hK, hD9⟩, hS.F ht⟩) hS.2.2 dL_read_17
set_option maxHeartbeats 400000000 in
set_option maxRecDepth 100000 in
theorem cM_out_2 (l : Launch) (hl9 : l.stackTraces = false) (D : va_G) (cT : Nat → ClassId) (aK aV : Nat → Nat) (sz : Nat) (b0 : Nat) (x1 : Int32) (h2 : ¬ x1 < 0) (h3 : ¬ 7 < x1) (h4 : x1 ≤ 7) (h5 : vp_in x1 8) : xMet l yM_out wyM_out 0 0 0 0 D cT aK aV sz [.ref b0, .int x1] [] (fun A => va_Qi (fun (r : Int32) (_ : Unit) => r = 0) (fun _ t => xB D xcl cT A [] t) A) := by
  refine Met.ofW (cc := prog_13_method_77_code) (maxL := 2) (ret := (some .boolean)) (by decide) rfl ?_
  intro p e s m args below meth c s₁ B hml hv
  obtain ⟨rfl, hsz, hZ, hP, hK, hD0⟩ := hv
  have hx := B.exec
  have hb := B.bytes
  have hr := B.returns
  have hts := atoms_spec (ws := wyM_out) B.pre
  have htx := fun w h => hts w (List.mem_cons_of_mem _ h)
  have hown : s.vm.findClass "ValueBenchModel" = some m.cls := findClass_of_methodNamed B.named
  have hlocks := B.notSynchronized
  subst hsz
  have hD := hD0.self (sz := s.heap.size)
  generalize hAe : va_A [] s.heap.size = A at hD hZ ⊢
  have hA : ∀ q : Nat, s.heap.size ≤ q → A q := fun q h => by rw [← hAe]; exact Or.inr h
  have hS : va_S A s.heap s.heap [] := va_S.rf
  have hP : va_P D xcl [] s.heap := hP
  have hl := lv_entry ([.ref b0, .int x1]) (n := 2) (Nat.le_of_ble_eq_true rfl)
  rw [lg_entry_eq]
  generalize (lg_sl ([.ref b0, .int x1]) ++ List.replicate (2 - (lg_sl ([.ref b0, .int x1])).length) Slot.unset).toArray = ls at hl ⊢
  have hl : lv_has ls 2 [(0, .ref b0), (1, .int x1)] := hl
  refine lv_iload_n hx hb dM_out_0 rfl (lv_at hl 1 rfl) ?_
  refine lv_if_lt (tgt := 10) hx hb dM_out_1 (by decide) (fun h => by first | exact absurd h h2 | exact absurd h h3 | exact absurd h h4 | exact absurd h h5 | exact absurd h2 h | exact absurd h3 h | exact absurd h4 h | exact absurd h5 h) (fun _ => ?_)
  refine lv_iload_n hx hb dM_out_4 rfl (lv_at hl 1 rfl) ?_
  refine lv_bipush (v := 7) hx hb dM_out_5 (by decide) ?_
  refine lv_icmp_le (tgt := 14) hx hb dM_out_7 (by decide) (fun _ => ?_) (fun h => by first | exact absurd h h2 | exact absurd h h3 | exact absurd h h4 | exact absurd h h5 | exact absurd h2 h | exact absurd h3 h | exact absurd h4 h | exact absurd h5 h)
  refine lv_iconst (v := 0) hx hb dM_out_14 (by decide) ?_
  obtain ⟨hP9, hD9⟩ := xsub (wc := []) hP hD [] rfl rfl (by decide)
  refine W.widen (k := 0) (n := 0) (Nat.le_of_ble_eq_true rfl) (Nat.le_of_ble_eq_true rfl) ?_
  exact W.zret (v := 0) hx hb hr rfl (fun t ht hW => ⟨⟨0, (), rfl, rfl, by rw [ht]; exact hP9, va_K.moved hW.alike hK, hD9⟩, hS.F ht⟩) hS.2.2 dM_out_15
set_option maxHeartbeats 400000000 in
set_option maxRecDepth 100000 in
theorem cM_peek_0 (l : Launch) (hl9 : l.stackTraces = false) (D : va_G) (cT : Nat → ClassId) (aK aV : Nat → Nat) (sz : Nat) (a0 : Nat) (v1 : Value) (v2 : Value) (v3 : Value) (v4 : Value) (v5 : Value) (v6 : Value) (v7 : Value) (v8 : Value) (v9 : Value) (v10 : Value) (v11 : Value) (v12 : Value) (v13 : Value) (v14 : Value) (v15 : Value) (v16 : Value) (v17 : Value) (v18 : Value) (v19 : Value) (v20 : Value) (v21 : Value) (v22 : Value) (v23 : Value) (v24 : Value) (v25 : Value) (v26 : Value) (v27 : Value) (v28 : Value) (v29 : Value) (v30 : Value) : xMet l yM_peek wyM_peek 0 0 0 0 D cT aK aV sz [.ref a0] [(a0, .inr (5, [v1, v2, v3, v4, v5, v6, v7, v8, v9, v10, v11, v12, v13, v14, v15, v16, .int 0, .int 0, v17, v18, v19, v20, v21, v22, v23, v24, v25, v26, v27, v28, v29, v30]))] (fun A => va_Qi (fun (r : Int32) (_ : Unit) => r = (-1)) (fun _ t => xB D xcl cT A [(a0, .inr (5, [v1, v2, v3, v4, v5, v6, v7, v8, v9, v10, v11, v12, v13, v14, v15, v16, .int 0, .int 0, v17, v18, v19, v20, v21, v22, v23, v24, v25, v26, v27, v28, v29, v30]))] t) A) := by
  refine Met.ofW (cc := prog_13_method_29_code) (maxL := 1) (ret := (some .int)) (by decide) rfl ?_
  intro p e s m args below meth c s₁ B hml hv
  obtain ⟨rfl, hsz, hZ, hP, hK, hD0⟩ := hv
  have hx := B.exec
  have hb := B.bytes
  have hr := B.returns
  have hts := atoms_spec (ws := wyM_peek) B.pre
  have htx := fun w h => hts w (List.mem_cons_of_mem _ h)
  have hown : s.vm.findClass "ValueBenchModel" = some m.cls := findClass_of_methodNamed B.named
  have hlocks := B.notSynchronized
  subst hsz
  have hD := hD0.self (sz := s.heap.size)
  generalize hAe : va_A [(a0, .inr (5, [v1, v2, v3, v4, v5, v6, v7, v8, v9, v10, v11, v12, v13, v14, v15, v16, .int 0, .int 0, v17, v18, v19, v20, v21, v22, v23, v24, v25, v26, v27, v28, v29, v30]))] s.heap.size = A at hD hZ ⊢
  have hA : ∀ q : Nat, s.heap.size ≤ q → A q := fun q h => by rw [← hAe]; exact Or.inr h
  have hS : va_S A s.heap s.heap [] := va_S.rf
  have hP : va_P D xcl [(a0, .inr (5, [v1, v2, v3, v4, v5, v6, v7, v8, v9, v10, v11, v12, v13, v14, v15, v16, .int 0, .int 0, v17, v18, v19, v20, v21, v22, v23, v24, v25, v26, v27, v28, v29, v30]))] s.heap := hP
  have hl := lv_entry ([.ref a0]) (n := 1) (Nat.le_of_ble_eq_true rfl)
  rw [lg_entry_eq]
  generalize (lg_sl ([.ref a0]) ++ List.replicate (1 - (lg_sl ([.ref a0])).length) Slot.unset).toArray = ls at hl ⊢
  have hl : lv_has ls 1 [(0, .ref a0)] := hl
  refine lv_aload_n hx hb dM_peek_0 rfl (lv_at hl 0 rfl) ?_
  refine va_get (D := D) (ci := 5) (v := .int 0) (C := "ValueBenchModel") (T := TM) (N := 32) hx hb htx inM hown hK hP 0 rfl rfl 16 (by decide) (htx _ kw_5_103) (fun _ h9 => h9) rfl dM_peek_1 ?_
  refine lv_aload_n hx hb dM_peek_4 rfl (lv_at hl 0 rfl) ?_
  refine va_get (D := D) (ci := 5) (v := .int 0) (C := "ValueBenchModel") (T := TM) (N := 32) hx hb htx inM hown hK hP 0 rfl rfl 17 (by decide) (htx _ kw_5_104) (fun _ h9 => h9) rfl dM_peek_5 ?_
  refine lv_icmp_ge (tgt := 27) hx hb dM_peek_8 (by decide) (fun _ => ?_) (fun h => ((by revert h; decide : False)).elim)
  refine lv_iconst (v := (-1)) hx hb dM_peek_27 (by decide) ?_
  obtain ⟨hP9, hD9⟩ := xsub (wc := [(a0, .inr (5, [v1, v2, v3, v4, v5, v6, v7, v8, v9, v10, v11, v12, v13, v14, v15, v16, .int 0, .int 0, v17, v18, v19, v20, v21, v22, v23, v24, v25, v26, v27, v28, v29, v30]))]) hP hD [0] rfl rfl (by decide)
  refine W.widen (k := 0) (n := 0) (Nat.le_of_ble_eq_true rfl) (Nat.le_of_ble_eq_true rfl) ?_
  exact W.iret (v := (-1)) hx hb hr (fun t ht hW => ⟨⟨(-1), (), rfl, rfl, by rw [ht]; exact hP9, va_K.moved hW.alike hK, hD9⟩, hS.F ht⟩) hS.2.2 dM_peek_28
set_option maxHeartbeats 400000000 in
set_option maxRecDepth 100000 in
theorem cM_blanks_0 (l : Launch) (hl9 : l.stackTraces = false) (D : va_G) (cT : Nat → ClassId) (aK aV : Nat → Nat) (sz : Nat) (a0 : Nat) (v1 : Value) (v2 : Value) (v3 : Value) (v4 : Value) (v5 : Value) (v6 : Value) (v7 : Value) (v8 : Value) (v9 : Value) (v10 : Value) (v11 : Value) (v12 : Value) (v13 : Value) (v14 : Value) (v15 : Value) (v16 : Value) (v17 : Value) (v18 : Value) (v19 : Value) (v20 : Value) (v21 : Value) (v22 : Value) (v23 : Value) (v24 : Value) (v25 : Value) (v26 : Value) (v27 : Value) (v28 : Value) (v29 : Value) (v30 : Value) : xMet l yM_blanks wyM_blanks 1 0 0 20 D cT aK aV sz [.ref a0] [(a0, .inr (5, [v1, v2, v3, v4, v5, v6, v7, v8, v9, v10, v11, v12, v13, v14, v15, v16, .int 0, .int 0, v17, v18, v19, v20, v21, v22, v23, v24, v25, v26, v27, v28, v29, v30]))] (fun A => va_Qv (fun _ : Unit => True) (fun _ t => xB D xcl cT A [(a0, .inr (5, [v1, v2, v3, v4, v5, v6, v7, v8, v9, v10, v11, v12, v13, v14, v15, v16, .int 0, .int 0, v17, v18, v19, v20, v21, v22, v23, v24, v25, v26, v27, v28, v29, v30]))] t) A) := by
  refine Met.ofW (cc := prog_13_method_31_code) (maxL := 1) (ret := none) (by decide) rfl ?_
  intro p e s m args below meth c s₁ B hml hv
  obtain ⟨rfl, hsz, hZ, hP, hK, hD0⟩ := hv
  have hx := B.exec
  have hb := B.bytes
  have hr := B.returns
  have hts := atoms_spec (ws := wyM_blanks) B.pre
  have htx := fun w h => hts w (List.mem_cons_of_mem _ h)
  have hown : s.vm.findClass "ValueBenchModel" = some m.cls := findClass_of_methodNamed B.named
  have hlocks := B.notSynchronized
  subst hsz
  have hD := hD0.self (sz := s.heap.size)
  generalize hAe : va_A [(a0, .inr (5, [v1, v2, v3, v4, v5, v6, v7, v8, v9, v10, v11, v12, v13, v14, v15, v16, .int 0, .int 0, v17, v18, v19, v20, v21, v22, v23, v24, v25, v26, v27, v28, v29, v30]))] s.heap.size = A at hD hZ ⊢
  have hA : ∀ q : Nat, s.heap.size ≤ q → A q := fun q h => by rw [← hAe]; exact Or.inr h
  have hS : va_S A s.heap s.heap [] := va_S.rf
  have hP : va_P D xcl [(a0, .inr (5, [v1, v2, v3, v4, v5, v6, v7, v8, v9, v10, v11, v12, v13, v14, v15, v16, .int 0, .int 0, v17, v18, v19, v20, v21, v22, v23, v24, v25, v26, v27, v28, v29, v30]))] s.heap := hP
  have hl := lv_entry ([.ref a0]) (n := 1) (Nat.le_of_ble_eq_true rfl)
  rw [lg_entry_eq]
  generalize (lg_sl ([.ref a0]) ++ List.replicate (1 - (lg_sl ([.ref a0])).length) Slot.unset).toArray = ls at hl ⊢
  have hl : lv_has ls 1 [(0, .ref a0)] := hl
  refine lv_aload_n hx hb dM_blanks_0 rfl (lv_at hl 0 rfl) ?_
  obtain ⟨hPc, hDc, hFc⟩ := xcut (wc := [(a0, .inr (5, [v1, v2, v3, v4, v5, v6, v7, v8, v9, v10, v11, v12, v13, v14, v15, v16, .int 0, .int 0, v17, v18, v19, v20, v21, v22, v23, v24, v25, v26, v27, v28, v29, v30]))]) hP hD hS hA [0] rfl rfl (by decide)
  refine va_calli (va_runV (C := "ValueBenchModel") (As := []) (rest := []) ⟨hx, hb, hml, hown, htx⟩ (cM_peek_0 l hl9 D cT aK aV s.heap.size a0 v1 v2 v3 v4 v5 v6 v7 v8 v9 v10 v11 v12 v13 v14 v15 v16 v17 v18 v19 v20 v21 v22 v23 v24 v25 v26 v27 v28 v29 v30) ⟨callB_of 0 htx (xw_goodC kw_5_233) rfl rfl rfl (htx _ kw_1_5) (htx _ kw_5_230) ⟨by decide, by decide, by decide +kernel⟩ ⟨Nat.le_of_ble_eq_true rfl, Nat.le_of_ble_eq_true rfl⟩, (htx _ kw_5_232), (htx _ kp_M_peek)⟩ ⟨xPre_blind, va_recv hK hP (ci := 5) rfl (q0 := 0) rfl, (fun U hU hW => ⟨rfl, xPre_of hZ hS hFc hPc hDc hK U hU hW⟩)⟩ rfl rfl hl.1 rfl (lv_room (Nat.le_of_ble_eq_true rfl)) dM_blanks_1 ⟨Nat.le_of_ble_eq_true rfl, Nat.le_of_ble_eq_true rfl⟩) hS (fun q _ h => hFc q h) hFc (fun r1 u9 t H1 locs ht hvm hr9 hB hz1 hk1 hS => ?_)
  obtain ⟨hP1, hK1, hD1⟩ := hB
  rw [ht] at hP1
  obtain ⟨hP, hD⟩ := xjoin (W := [(a0, .inr (5, [v1, v2, v3, v4, v5, v6, v7, v8, v9, v10, v11, v12, v13, v14, v15, v16, .int 0, .int 0, v17, v18, v19, v20, v21, v22, v23, v24, v25, v26, v27, v28, v29, v30]))]) hP hD [0] [] 0 rfl rfl (by decide) (by decide) hk1 hFc hP1 hD1
  generalize H1 = H at hP hS ⊢
  rw [hr9]
  refine W.eq (g2 := F0 m 4 ls [.int (-1)]) rfl ?_
  refine lv_bipush (v := 32) hx hb dM_blanks_4 (by decide) ?_
  refine lv_icmp_eq (tgt := 45) hx hb dM_blanks_6 (by decide) (fun h => ((by revert h; decide : False)).elim) (fun _ => ?_)
  refine lv_aload_n hx hb dM_blanks_9 rfl (lv_at hl 0 rfl) ?_
  obtain ⟨hPc, hDc, hFc⟩ := xcut (wc := [(a0, .inr (5, [v1, v2, v3, v4, v5, v6, v7, v8, v9, v10, v11, v12, v13, v14, v15, v16, .int 0, .int 0, v17, v18, v19, v20, v21, v22, v23, v24, v25, v26, v27, v28, v29, v30]))]) hP hD hS hA [0] rfl rfl (by decide)
  refine va_calli (va_runV (C := "ValueBenchModel") (As := []) (rest := []) ⟨hx, hb, hml, hown, htx⟩ (cM_peek_0 l hl9 D cT aK aV H.size a0 v1 v2 v3 v4 v5 v6 v7 v8 v9 v10 v11 v12 v13 v14 v15 v16 v17 v18 v19 v20 v21 v22 v23 v24 v25 v26 v27 v28 v29 v30) ⟨callB_of 0 htx (xw_goodC kw_5_233) rfl rfl rfl (htx _ kw_1_5) (htx _ kw_5_230) ⟨by decide, by decide, by decide +kernel⟩ ⟨Nat.le_of_ble_eq_true rfl, Nat.le_of_ble_eq_true rfl⟩, (htx _ kw_5_232), (htx _ kp_M_peek)⟩ ⟨xPre_blind, va_recv hK hP (ci := 5) rfl (q0 := 0) rfl, (fun U hU hW => ⟨rfl, xPre_of hZ hS hFc hPc hDc hK U hU hW⟩)⟩ rfl rfl hl.1 rfl (lv_room (Nat.le_of_ble_eq_true rfl)) dM_blanks_10 ⟨Nat.le_of_ble_eq_true rfl, Nat.le_of_ble_eq_true rfl⟩) hS (fun q _ h => hFc q h) hFc (fun r2 u9 t H1 locs ht hvm hr9 hB hz1 hk1 hS => ?_)
  obtain ⟨hP1, hK1, hD1⟩ := hB
  rw [ht] at hP1
  obtain ⟨hP, hD⟩ := xjoin (W := [(a0, .inr (5, [v1, v2, v3, v4, v5, v6, v7, v8, v9, v10, v11, v12, v13, v14, v15, v16, .int 0, .int 0, v17, v18, v19, v20, v21, v22, v23, v24, v25, v26, v27, v28, v29, v30]))]) hP hD [0] [] 0 rfl rfl (by decide) (by decide) hk1 hFc hP1 hD1
  generalize H1 = H at hP hS ⊢
  rw [hr9]
  refine W.eq (g2 := F0 m 13 ls [.int (-1)]) rfl ?_
  refine lv_bipush (v := 9) hx hb dM_blanks_13 (by decide) ?_
  refine lv_icmp_lt (tgt := 58) hx hb dM_blanks_15 (by decide) (fun _ => ?_) (fun h => ((by revert h; decide : False)).elim)
  obtain ⟨hP9, hD9⟩ := xsub (wc := [(a0, .inr (5, [v1, v2, v3, v4, v5, v6, v7, v8, v9, v10, v11, v12, v13, v14, v15, v16, .int 0, .int 0, v17, v18, v19, v20, v21, v22, v23, v24, v25, v26, v27, v28, v29, v30]))]) hP hD [0] rfl rfl (by decide)
  refine W.widen (k := 0) (n := 0) (Nat.le_of_ble_eq_true rfl) (Nat.le_of_ble_eq_true rfl) ?_
  exact W.vret hx hb hr (fun t ht hW => ⟨⟨(), rfl, trivial, by rw [ht]; exact hP9, va_K.moved hW.alike hK, hD9⟩, hS.F ht⟩) hS.2.2 dM_blanks_58
set_option maxHeartbeats 400000000 in
set_option maxRecDepth 100000 in
theorem cM_digit_0 (l : Launch) (hl9 : l.stackTraces = false) (D : va_G) (cT : Nat → ClassId) (aK aV : Nat → Nat) (sz : Nat) : xMet l yM_digit wyM_digit 0 0 0 0 D cT aK aV sz [.int (-1)] [] (fun A => va_Qi (fun (r : Int32) (_ : Unit) => r = 0) (fun _ t => xB D xcl cT A [] t) A) := by
  refine Met.ofW (cc := prog_13_method_30_code) (maxL := 1) (ret := (some .boolean)) (by decide) rfl ?_
  intro p e s m args below meth c s₁ B hml hv
  obtain ⟨rfl, hsz, hZ, hP, hK, hD0⟩ := hv
  have hx := B.exec
  have hb := B.bytes
  have hr := B.returns
  have hts := atoms_spec (ws := wyM_digit) B.pre
  have htx := fun w h => hts w (List.mem_cons_of_mem _ h)
  have hown : s.vm.findClass "ValueBenchModel" = some m.cls := findClass_of_methodNamed B.named
  have hlocks := B.notSynchronized
  subst hsz
  have hD := hD0.self (sz := s.heap.size)
  generalize hAe : va_A [] s.heap.size = A at hD hZ ⊢
  have hA : ∀ q : Nat, s.heap.size ≤ q → A q := fun q h => by rw [← hAe]; exact Or.inr h
  have hS : va_S A s.heap s.heap [] := va_S.rf
  have hP : va_P D xcl [] s.heap := hP
  have hl := lv_entry ([.int (-1)]) (n := 1) (Nat.le_of_ble_eq_true rfl)
  rw [lg_entry_eq]
  generalize (lg_sl ([.int (-1)]) ++ List.replicate (1 - (lg_sl ([.int (-1)])).length) Slot.unset).toArray = ls at hl ⊢
  have hl : lv_has ls 1 [(0, .int (-1))] := hl
  refine lv_iload_n hx hb dM_digit_0 rfl (lv_at hl 0 rfl) ?_
  refine lv_bipush (v := 48) hx hb dM_digit_1 (by decide) ?_
  refine lv_icmp_lt (tgt := 16) hx hb dM_digit_3 (by decide) (fun _ => ?_) (fun h => ((by revert h; decide : False)).elim)
  refine lv_iconst (v := 0) hx hb dM_digit_16 (by decide) ?_
  obtain ⟨hP9, hD9⟩ := xsub (wc := []) hP hD [] rfl rfl (by decide)
  refine W.widen (k := 0) (n := 0) (Nat.le_of_ble_eq_true rfl) (Nat.le_of_ble_eq_true rfl) ?_
  exact W.zret (v := 0) hx hb hr rfl (fun t ht hW => ⟨⟨0, (), rfl, rfl, by rw [ht]; exact hP9, va_K.moved hW.alike hK, hD9⟩, hS.F ht⟩) hS.2.2 dM_digit_17
set_option maxHeartbeats 400000000 in
set_option maxRecDepth 100000 in
theorem cM_bad_0 (l : Launch) (hl9 : l.stackTraces = false) (D : va_G) (cT : Nat → ClassId) (aK aV : Nat → Nat) (sz : Nat) (a0 : Nat) (x1 : Int32) (v2 : Value) (v3 : Value) (v4 : Value) (v5 : Value) (v6 : Value) (v7 : Value) (v8 : Value) (v9 : Value) (v10 : Value) (v11 : Value) (v12 : Value) (v13 : Value) (v14 : Value) (v15 : Value) (v16 : Value) (v17 : Value) (v18 : Value) (v19 : Value) (v20 : Value) (v21 : Value) (v22 : Value) (v23 : Value) (v24 : Value) (v25 : Value) (v26 : Value) (v27 : Value) (v28 : Value) (v29 : Value) (v30 : Value) (v31 : Value) (v32 : Value) (v33 : Value) : xMetX l yM_bad wyM_bad 6 1 6 100 D cT aK aV sz [.ref a0, .int x1] [(a0, .inr (5, [v2, v3, v4, v5, v6, v7, v8, v9, v10, v11, v12, v13, v14, v15, v16, v17, v18, v19, v20, v21, v22, v23, v24, v25, v26, v27, v28, v29, v30, v31, v32, v33]))] "java/lang/UnsupportedOperationException" (fun A t => xB D xcl cT A [(a0, .inr (5, [v2, v3, v4, v5, v6, v7, v8, v9, v10, v11, v12, v13, v14, v15, v16, v17, v18, v19, v20, v21, .int x1, v23, v24, v25, v26, v27, v28, v29, v30, v31, v32, v33]))] t) := by
  refine vx_ofW (cc := prog_13_method_28_code) (maxL := 2) (ret := none) (by decide) rfl ?_
  intro p e s m args below meth c s₁ B hml hne hv
  obtain ⟨rfl, hsz, hZ, hP, hK, hD0⟩ := hv
  have hx := B.exec
  have hb := B.bytes
  have hr := B.returns
  have hts := atoms_spec (ws := wyM_bad) B.pre
  have htx := fun w h => hts w (List.mem_cons_of_mem _ h)
  have hown : s.vm.findClass "ValueBenchModel" = some m.cls := findClass_of_methodNamed B.named
  have hlocks := B.notSynchronized
  subst hsz
  have hD := hD0.self (sz := s.heap.size)
  generalize hAe : va_A [(a0, .inr (5, [v2, v3, v4, v5, v6, v7, v8, v9, v10, v11, v12, v13, v14, v15, v16, v17, v18, v19, v20, v21, v22, v23, v24, v25, v26, v27, v28, v29, v30, v31, v32, v33]))] s.heap.size = A at hD hZ ⊢
  have hA : ∀ q : Nat, s.heap.size ≤ q → A q := fun q h => by rw [← hAe]; exact Or.inr h
  have hS : va_S A s.heap s.heap [] := va_S.rf
  have hP : va_P D xcl [(a0, .inr (5, [v2, v3, v4, v5, v6, v7, v8, v9, v10, v11, v12, v13, v14, v15, v16, v17, v18, v19, v20, v21, v22, v23, v24, v25, v26, v27, v28, v29, v30, v31, v32, v33]))] s.heap := hP
  have hl := lv_entry ([.ref a0, .int x1]) (n := 2) (Nat.le_of_ble_eq_true rfl)
  rw [lg_entry_eq]
  generalize (lg_sl ([.ref a0, .int x1]) ++ List.replicate (2 - (lg_sl ([.ref a0, .int x1])).length) Slot.unset).toArray = ls at hl ⊢
  have hl : lv_has ls 2 [(0, .ref a0), (1, .int x1)] := hl
  refine lv_aload_n hx hb dM_bad_0 rfl (lv_at hl 0 rfl) ?_
  refine lv_iload_n hx hb dM_bad_1 rfl (lv_at hl 1 rfl) ?_
  refine va_put (D := D) (ci := 5) (v := .int x1) (ty := .int) (C := "ValueBenchModel") (T := TM) (N := 32) hx hb htx inM tyM tyM_ok nmM hown hK hP hD hS 0 rfl rfl 20 (by decide) (htx _ kw_5_107) (fun _ h9 => h9) rfl (by decide +kernel) rfl rfl (Nat.le_of_ble_eq_true rfl) dM_bad_2 (fun H locs hP hD hS => ?_)
  obtain ⟨hP, hD⟩ : xPD D xcl A [(a0, .inr (5, [v2, v3, v4, v5, v6, v7, v8, v9, v10, v11, v12, v13, v14, v15, v16, v17, v18, v19, v20, v21, .int x1, v23, v24, v25, v26, v27, v28, v29, v30, v31, v32, v33]))] H := ⟨hP, hD⟩
  obtain ⟨hP9, hD9⟩ := xsub (wc := [(a0, .inr (5, [v2, v3, v4, v5, v6, v7, v8, v9, v10, v11, v12, v13, v14, v15, v16, v17, v18, v19, v20, v21, .int x1, v23, v24, v25, v26, v27, v28, v29, v30, v31, v32, v33]))]) hP hD [0] rfl rfl (by decide)
  exact vx_throw0 (own := "ValueBenchModel") (cls := "java/lang/UnsupportedOperationException") (names := ["java/lang/RuntimeException", "java/lang/Exception"]) hx hb hl9 hown (by decide +kernel) (by decide +kernel) (htx _ kw_5_204) (htx _ kw_1_17) (vx_hat (B := [.castable "java/lang/UnsupportedOperationException" "java/lang/UnsupportedOperationException", .declares ⟨"java/lang/RuntimeException", "<init>", "()V"⟩, .declares ⟨"java/lang/Exception", "<init>", "()V"⟩, .declares ⟨"java/lang/Throwable", "<init>", "()V"⟩]) (fun w h => htx w (xat_M_205_207 w h)) xat_M_205_207_b (vx_c ((hZ.2.2.2.2.2.1 "java/lang/UnsupportedOperationException" (List.mem_of_getElem? (i := 2) rfl)).use rfl) (vx_c ((hZ.2.2.2.2.2.2.1 ⟨"java/lang/RuntimeException", "<init>", "()V"⟩ (List.mem_of_getElem? (i := 0) rfl)).use rfl) (vx_c ((hZ.2.2.2.2.2.2.1 ⟨"java/lang/Exception", "<init>", "()V"⟩ (List.mem_of_getElem? (i := 1) rfl)).use rfl) (vx_c ((hZ.2.2.2.2.2.2.1 ⟨"java/lang/Throwable", "<init>", "()V"⟩ (List.mem_of_getElem? (i := 2) rfl)).use rfl) vx_n))))) xat_M_205_207_g hZ.2.2.2.1 hZ.2.2.2.2.1 hS (hl.1.trans hml.symm) dM_bad_5 dM_bad_8 dM_bad_9 dM_bad_12 (fun x h => (hne x h).elim) (by decide) (Nat.le_of_ble_eq_true rfl) (Nat.le_of_ble_eq_true rfl) (Nat.le_of_ble_eq_true rfl) hlocks (fun t ha hz hk => ⟨(), trivial, ⟨rfl, xx_keepP hP9 hk, va_K.moved ha hK, hD9⟩, xx_grown hS hz hk⟩) hS.2.2 (Nat.le_of_ble_eq_true rfl) (Nat.le_of_ble_eq_true rfl)
set_option maxHeartbeats 400000000 in
set_option maxRecDepth 100000 in
theorem cM_value_0 (l : Launch) (hl9 : l.stackTraces = false) (D : va_G) (cT : Nat → ClassId) (aK aV : Nat → Nat) (sz : Nat) (a0 : Nat) (v1 : Value) (v2 : Value) (v3 : Value) (v4 : Value) (v5 : Value) (v6 : Value) (v7 : Value) (v8 : Value) (v9 : Value) (v10 : Value) (v11 : Value) (v12 : Value) (v13 : Value) (v14 : Value) (v15 : Value) (v16 : Value) (v17 : Value) (v18 : Value) (v19 : Value) (v20 : Value) (v21 : Value) (v22 : Value) (v23 : Value) (v24 : Value) (v25 : Value) (v26 : Value) (v27 : Value) (v28 : Value) (v29 : Value) (v30 : Value) : xMetX l yM_value wyM_value 7 1 6 121 D cT aK aV sz [.ref a0] [(a0, .inr (5, [v1, v2, v3, v4, v5, v6, v7, v8, v9, v10, v11, v12, v13, v14, v15, v16, .int 0, .int 0, v17, v18, v19, v20, v21, v22, v23, v24, v25, v26, v27, v28, v29, v30]))] "java/lang/UnsupportedOperationException" (fun A t => xB D xcl cT A [(a0, .inr (5, [v1, v2, v3, v4, v5, v6, v7, v8, v9, v10, v11, v12, v13, v14, v15, v16, .int 0, .int 0, v17, v18, .int 0, v20, v21, v22, v23, v24, v25, v26, v27, v28, v29, v30]))] t) := by
  refine vx_ofW (cc := prog_13_method_34_code) (maxL := 3) (ret := (some (.object "ValueBenchModel$V"))) (by decide) rfl ?_
  intro p e s m args below meth c s₁ B hml hne hv
  obtain ⟨rfl, hsz, hZ, hP, hK, hD0⟩ := hv
  have hx := B.exec
  have hb := B.bytes
  have hr := B.returns
  have hts := atoms_spec (ws := wyM_value) B.pre
  have htx := fun w h => hts w (List.mem_cons_of_mem _ h)
  have hown : s.vm.findClass "ValueBenchModel" = some m.cls := findClass_of_methodNamed B.named
  have hlocks := B.notSynchronized
  subst hsz
  have hD := hD0.self (sz := s.heap.size)
  generalize hAe : va_A [(a0, .inr (5, [v1, v2, v3, v4, v5, v6, v7, v8, v9, v10, v11, v12, v13, v14, v15, v16, .int 0, .int 0, v17, v18, v19, v20, v21, v22, v23, v24, v25, v26, v27, v28, v29, v30]))] s.heap.size = A at hD hZ ⊢
  have hA : ∀ q : Nat, s.heap.size ≤ q → A q := fun q h => by rw [← hAe]; exact Or.inr h
  have hS : va_S A s.heap s.heap [] := va_S.rf
  have hP : va_P D xcl [(a0, .inr (5, [v1, v2, v3, v4, v5, v6, v7, v8, v9, v10, v11, v12, v13, v14, v15, v16, .int 0, .int 0, v17, v18, v19, v20, v21, v22, v23, v24, v25, v26, v27, v28, v29, v30]))] s.heap := hP
  have hl := lv_entry ([.ref a0]) (n := 3) (Nat.le_of_ble_eq_true rfl)
  rw [lg_entry_eq]
  generalize (lg_sl ([.ref a0]) ++ List.replicate (3 - (lg_sl ([.ref a0])).length) Slot.unset).toArray = ls at hl ⊢
  have hl : lv_has ls 3 [(0, .ref a0)] := hl
  refine lv_aload_n hx hb dM_value_0 rfl (lv_at hl 0 rfl) ?_
  obtain ⟨hPc, hDc, hFc⟩ := xcut (wc := [(a0, .inr (5, [v1, v2, v3, v4, v5, v6, v7, v8, v9, v10, v11, v12, v13, v14, v15, v16, .int 0, .int 0, v17, v18, v19, v20, v21, v22, v23, v24, v25, v26, v27, v28, v29, v30]))]) hP hD hS hA [0] rfl rfl (by decide)
  refine va_callv (va_runV (C := "ValueBenchModel") (As := []) (rest := []) ⟨hx, hb, hml, hown, htx⟩ (cM_blanks_0 l hl9 D cT aK aV s.heap.size a0 v1 v2 v3 v4 v5 v6 v7 v8 v9 v10 v11 v12 v13 v14 v15 v16 v17 v18 v19 v20 v21 v22 v23 v24 v25 v26 v27 v28 v29 v30) ⟨callB_of 0 htx (xw_goodC kw_5_229) rfl rfl rfl (htx _ kw_1_5) (htx _ kw_5_226) ⟨by decide, by decide, by decide +kernel⟩ ⟨Nat.le_of_ble_eq_true rfl, Nat.le_of_ble_eq_true rfl⟩, (htx _ kw_5_228), (htx _ kp_M_blanks)⟩ ⟨xPre_blind, va_recv hK hP (ci := 5) rfl (q0 := 0) rfl, (fun U hU hW => ⟨rfl, xPre_of hZ hS hFc hPc hDc hK U hU hW⟩)⟩ rfl rfl hl.1 rfl (lv_room (Nat.le_of_ble_eq_true rfl)) dM_value_1 ⟨Nat.le_of_ble_eq_true rfl, Nat.le_of_ble_eq_true rfl⟩) hS (fun q _ h => hFc q h) hFc (fun u9 t H1 locs ht hvm hr9 hB hz1 hk1 hS => ?_)
  obtain ⟨hP1, hK1, hD1⟩ := hB
  rw [ht] at hP1
  obtain ⟨hP, hD⟩ := xjoin (W := [(a0, .inr (5, [v1, v2, v3, v4, v5, v6, v7, v8, v9, v10, v11, v12, v13, v14, v15, v16, .int 0, .int 0, v17, v18, v19, v20, v21, v22, v23, v24, v25, v26, v27, v28, v29, v30]))]) hP hD [0] [] 0 rfl rfl (by decide) (by decide) hk1 hFc hP1 hD1
  generalize H1 = H at hP hS ⊢
  refine lv_aload_n hx hb dM_value_4 rfl (lv_at hl 0 rfl) ?_
  obtain ⟨hPc, hDc, hFc⟩ := xcut (wc := [(a0, .inr (5, [v1, v2, v3, v4, v5, v6, v7, v8, v9, v10, v11, v12, v13, v14, v15, v16, .int 0, .int 0, v17, v18, v19, v20, v21, v22, v23, v24, v25, v26, v27, v28, v29, v30]))]) hP hD hS hA [0] rfl rfl (by decide)
  refine va_calli (va_runV (C := "ValueBenchModel") (As := []) (rest := []) ⟨hx, hb, hml, hown, htx⟩ (cM_peek_0 l hl9 D cT aK aV H.size a0 v1 v2 v3 v4 v5 v6 v7 v8 v9 v10 v11 v12 v13 v14 v15 v16 v17 v18 v19 v20 v21 v22 v23 v24 v25 v26 v27 v28 v29 v30) ⟨callB_of 0 htx (xw_goodC kw_5_233) rfl rfl rfl (htx _ kw_1_5) (htx _ kw_5_230) ⟨by decide, by decide, by decide +kernel⟩ ⟨Nat.le_of_ble_eq_true rfl, Nat.le_of_ble_eq_true rfl⟩, (htx _ kw_5_232), (htx _ kp_M_peek)⟩ ⟨xPre_blind, va_recv hK hP (ci := 5) rfl (q0 := 0) rfl, (fun U hU hW => ⟨rfl, xPre_of hZ hS hFc hPc hDc hK U hU hW⟩)⟩ rfl rfl hl.1 rfl (lv_room (Nat.le_of_ble_eq_true rfl)) dM_value_5 ⟨Nat.le_of_ble_eq_true rfl, Nat.le_of_ble_eq_true rfl⟩) hS (fun q _ h => hFc q h) hFc (fun r1 u9 t H1 locs ht hvm hr9 hB hz1 hk1 hS => ?_)
  obtain ⟨hP1, hK1, hD1⟩ := hB
  rw [ht] at hP1
  obtain ⟨hP, hD⟩ := xjoin (W := [(a0, .inr (5, [v1, v2, v3, v4, v5, v6, v7, v8, v9, v10, v11, v12, v13, v14, v15, v16, .int 0, .int 0, v17, v18, v19, v20, v21, v22, v23, v24, v25, v26, v27, v28, v29, v30]))]) hP hD [0] [] 0 rfl rfl (by decide) (by decide) hk1 hFc hP1 hD1
  generalize H1 = H at hP hS ⊢
  rw [hr9]
  refine W.eq (g2 := F0 m 8 ls [.int (-1)]) rfl ?_
  refine lv_istore_n (lv' := [(1, .int (-1)), (0, .ref a0)]) hx hb dM_value_8 rfl hl (by decide) rfl (fun ls hl => ?_)
  refine lv_iload_n hx hb dM_value_9 rfl (lv_at hl 0 rfl) ?_
  refine lv_bipush (v := 110) hx hb dM_value_10 (by decide) ?_
  refine lv_icmp_ne (tgt := 23) hx hb dM_value_12 (by decide) (fun _ => ?_) (fun h => ((by revert h; decide : False)).elim)
  refine lv_iload_n hx hb dM_value_23 rfl (lv_at hl 0 rfl) ?_
  refine lv_bipush (v := 116) hx hb dM_value_24 (by decide) ?_
  refine lv_icmp_ne (tgt := 37) hx hb dM_value_26 (by decide) (fun _ => ?_) (fun h => ((by revert h; decide : False)).elim)
  refine lv_iload_n hx hb dM_value_37 rfl (lv_at hl 0 rfl) ?_
  refine lv_bipush (v := 102) hx hb dM_value_38 (by decide) ?_
  refine lv_icmp_ne (tgt := 51) hx hb dM_value_40 (by decide) (fun _ => ?_) (fun h => ((by revert h; decide : False)).elim)
  refine lv_iload_n hx hb dM_value_51 rfl (lv_at hl 0 rfl) ?_
  refine lv_bipush (v := 34) hx hb dM_value_52 (by decide) ?_
  refine lv_icmp_ne (tgt := 62) hx hb dM_value_54 (by decide) (fun _ => ?_) (fun h => ((by revert h; decide : False)).elim)
  refine lv_iload_n hx hb dM_value_62 rfl (lv_at hl 0 rfl) ?_
  refine lv_bipush (v := 45) hx hb dM_value_63 (by decide) ?_
  refine lv_icmp_eq (tgt := 75) hx hb dM_value_65 (by decide) (fun h => ((by revert h; decide : False)).elim) (fun _ => ?_)
  refine lv_iload_n hx hb dM_value_68 rfl (lv_at hl 0 rfl) ?_
  obtain ⟨hPc, hDc, hFc⟩ := xcut (wc := []) hP hD hS hA [] rfl rfl (by decide)
  refine va_calli (va_runS (As := [.int (-1)]) (rest := []) ⟨hx, hb, hml, hown, htx⟩ (cM_digit_0 l hl9 D cT aK aV H.size) ⟨callB_of 1 htx (xw_goodC kw_6_73) rfl rfl rfl (htx _ kw_1_5) (htx _ kw_6_71) ⟨by decide, by decide, by decide +kernel⟩ ⟨Nat.le_of_ble_eq_true rfl, Nat.le_of_ble_eq_true rfl⟩, htx _ kw_6_72⟩ ⟨xPre_blind, (fun U hU hW => ⟨rfl, xPre_of hZ hS hFc hPc hDc hK U hU hW⟩)⟩ rfl rfl hl.1 rfl (lv_room (Nat.le_of_ble_eq_true rfl)) dM_value_69 ⟨Nat.le_of_ble_eq_true rfl, Nat.le_of_ble_eq_true rfl⟩) hS (fun q _ h => hFc q h) hFc (fun r2 u9 t H1 locs ht hvm hr9 hB hz1 hk1 hS => ?_)
  obtain ⟨hP1, hK1, hD1⟩ := hB
  rw [ht] at hP1
  obtain ⟨hP, hD⟩ := xjoin (W := [(a0, .inr (5, [v1, v2, v3, v4, v5, v6, v7, v8, v9, v10, v11, v12, v13, v14, v15, v16, .int 0, .int 0, v17, v18, v19, v20, v21, v22, v23, v24, v25, v26, v27, v28, v29, v30]))]) hP hD [] [0] 1 rfl rfl (by decide) (by decide) hk1 hFc hP1 hD1
  generalize H1 = H at hP hS ⊢
  rw [hr9]
  refine W.eq (g2 := F0 m 72 ls [.int 0]) rfl ?_
  refine lv_if_eq (tgt := 80) hx hb dM_value_72 (by decide) (fun _ => ?_) (fun h => ((by revert h; decide : False)).elim)
  refine lv_iload_n hx hb dM_value_80 rfl (lv_at hl 0 rfl) ?_
  refine lv_bipush (v := 91) hx hb dM_value_81 (by decide) ?_
  refine lv_icmp_eq (tgt := 92) hx hb dM_value_83 (by decide) (fun h => ((by revert h; decide : False)).elim) (fun _ => ?_)
  refine lv_iload_n hx hb dM_value_86 rfl (lv_at hl 0 rfl) ?_
  refine lv_bipush (v := 123) hx hb dM_value_87 (by decide) ?_
  refine lv_icmp_ne (tgt := 103) hx hb dM_value_89 (by decide) (fun _ => ?_) (fun h => ((by revert h; decide : False)).elim)
  refine lv_aload_n hx hb dM_value_103 rfl (lv_at hl 1 rfl) ?_
  refine lv_aload_n hx hb dM_value_104 rfl (lv_at hl 1 rfl) ?_
  refine va_get (D := D) (ci := 5) (v := .int 0) (C := "ValueBenchModel") (T := TM) (N := 32) hx hb htx inM hown hK hP 0 rfl rfl 16 (by decide) (htx _ kw_5_103) (fun _ h9 => h9) rfl dM_value_105 ?_
  obtain ⟨hPc, hDc, hFc⟩ := xcut (wc := [(a0, .inr (5, [v1, v2, v3, v4, v5, v6, v7, v8, v9, v10, v11, v12, v13, v14, v15, v16, .int 0, .int 0, v17, v18, v19, v20, v21, v22, v23, v24, v25, v26, v27, v28, v29, v30]))]) hP hD hS hA [0] rfl rfl (by decide)
  refine xx_thr (vx_runV (C := "ValueBenchModel") (As := [.int 0]) (rest := []) ⟨hx, hb, hml, hown, htx⟩ (cM_bad_0 l hl9 D cT aK aV H.size a0 0 v1 v2 v3 v4 v5 v6 v7 v8 v9 v10 v11 v12 v13 v14 v15 v16 (.int 0) (.int 0) v17 v18 v19 v20 v21 v22 v23 v24 v25 v26 v27 v28 v29 v30) ⟨callB_of 1 htx (xw_goodC kw_6_2) rfl rfl rfl (htx _ kw_1_5) (htx _ kw_5_239) ⟨by decide, by decide, by decide +kernel⟩ ⟨Nat.le_of_ble_eq_true rfl, Nat.le_of_ble_eq_true rfl⟩, (htx _ kw_6_1), (htx _ kp_M_bad)⟩ ⟨xPre_blind, va_recv hK hP (ci := 5) rfl (q0 := 0) rfl, (fun U hU hW => ⟨rfl, xPre_of hZ hS hFc hPc hDc hK U hU hW⟩)⟩ rfl rfl hl.1 rfl (lv_room (Nat.le_of_ble_eq_true rfl)) dM_value_108 ⟨Nat.le_of_ble_eq_true rfl, Nat.le_of_ble_eq_true rfl⟩) hS hFc (fun q _ h => hFc q h) (fun E ce q9 u9 t H1 locs ht hvm _ hB hz1 hk1 hS hce hcv hcl => ?_)
  obtain ⟨rfl, hP1, hK1, hD1⟩ := hB
  rw [ht] at hP1
  obtain ⟨hP, hD⟩ := xjoin (W := [(a0, .inr (5, [v1, v2, v3, v4, v5, v6, v7, v8, v9, v10, v11, v12, v13, v14, v15, v16, .int 0, .int 0, v17, v18, .int 0, v20, v21, v22, v23, v24, v25, v26, v27, v28, v29, v30]))]) hP hD [0] [] 0 rfl rfl (by decide) (by decide) hk1 hFc hP1 hD1
  generalize H1 = H at hP hS hce ⊢
  obtain ⟨hP9, hD9⟩ := xsub (wc := [(a0, .inr (5, [v1, v2, v3, v4, v5, v6, v7, v8, v9, v10, v11, v12, v13, v14, v15, v16, .int 0, .int 0, v17, v18, .int 0, v20, v21, v22, v23, v24, v25, v26, v27, v28, v29, v30]))]) hP hD [0] rfl rfl (by decide)
  exact vx_out (E := "java/lang/UnsupportedOperationException") (fun x h => (hne x h).elim) hlocks hce hcv hcl (fun t ht ha => ⟨(), trivial, ⟨rfl, by rw [ht]; exact hP9, va_K.moved ha hK, hD9⟩, hS.F ht⟩) hS.2.2 (Nat.le_of_ble_eq_true rfl) (Nat.le_of_ble_eq_true rfl)
set_option maxHeartbeats 400000000 in
set_option maxRecDepth 100000 in
theorem cM_json_0 (l : Launch) (hl9 : l.stackTraces = false) (D : va_G) (cT : Nat → ClassId) (aK aV : Nat → Nat) (sz : Nat) (a0 : Nat) (b1 : Nat) (v2 : Value) (v3 : Value) (v4 : Value) (v5 : Value) (v6 : Value) (v7 : Value) (v8 : Value) (v9 : Value) (v10 : Value) (v11 : Value) (v12 : Value) (v13 : Value) (v14 : Value) (v15 : Value) (v16 : Value) (v17 : Value) (v18 : Value) (v19 : Value) (v20 : Value) (v21 : Value) (v22 : Value) (v23 : Value) (v24 : Value) (v25 : Value) (v26 : Value) (v27 : Value) (v28 : Value) (v29 : Value) (v30 : Value) (v31 : Value) (v32 : Value) (v33 : Value) : xMetX l yM_json wyM_json 8 1 6 143 D cT aK aV sz [.ref a0, .ref b1, .int 0, .int 0] [(a0, .inr (5, [v2, v3, v4, v5, v6, v7, v8, v9, v10, v11, v12, v13, v14, v15, v16, v17, v18, v19, v20, v21, v22, v23, v24, v25, v26, v27, v28, v29, v30, v31, v32, v33]))] "java/lang/UnsupportedOperationException" (fun A t => xB D xcl cT A [(a0, .inr (5, [v2, v3, v4, v5, v6, v7, v8, v9, v10, v11, v12, v13, v14, v15, v16, .ref b1, .int 0, .int 0, .int 0, v21, .int 0, v23, v24, v25, v26, v27, v28, v29, v30, v31, v32, v33]))] t) := by
  refine vx_ofW (cc := prog_13_method_32_code) (maxL := 5) (ret := (some (.object "ValueBenchModel$V"))) (by decide) rfl ?_
  intro p e s m args below meth c s₁ B hml hne hv
  obtain ⟨rfl, hsz, hZ, hP, hK, hD0⟩ := hv
  have hx := B.exec
  have hb := B.bytes
  have hr := B.returns
  have hts := atoms_spec (ws := wyM_json) B.pre
  have htx := fun w h => hts w (List.mem_cons_of_mem _ h)
  have hown : s.vm.findClass "ValueBenchModel" = some m.cls := findClass_of_methodNamed B.named
  have hlocks := B.notSynchronized
  subst hsz
  have hD := hD0.self (sz := s.heap.size)
  generalize hAe : va_A [(a0, .inr (5, [v2, v3, v4, v5, v6, v7, v8, v9, v10, v11, v12, v13, v14, v15, v16, v17, v18, v19, v20, v21, v22, v23, v24, v25, v26, v27, v28, v29, v30, v31, v32, v33]))] s.heap.size = A at hD hZ ⊢
  have hA : ∀ q : Nat, s.heap.size ≤ q → A q := fun q h => by rw [← hAe]; exact Or.inr h
  have hS : va_S A s.heap s.heap [] := va_S.rf
  have hP : va_P D xcl [(a0, .inr (5, [v2, v3, v4, v5, v6, v7, v8, v9, v10, v11, v12, v13, v14, v15, v16, v17, v18, v19, v20, v21, v22, v23, v24, v25, v26, v27, v28, v29, v30, v31, v32, v33]))] s.heap := hP
  have hl := lv_entry ([.ref a0, .ref b1, .int 0, .int 0]) (n := 5) (Nat.le_of_ble_eq_true rfl)
  rw [lg_entry_eq]
  generalize (lg_sl ([.ref a0, .ref b1, .int 0, .int 0]) ++ List.replicate (5 - (lg_sl ([.ref a0, .ref b1, .int 0, .int 0])).length) Slot.unset).toArray = ls at hl ⊢
  have hl : lv_has ls 5 [(0, .ref a0), (1, .ref b1), (2, .int 0), (3, .int 0)] := hl
  refine lv_aload_n hx hb dM_json_0 rfl (lv_at hl 0 rfl) ?_
  refine lv_aload_n hx hb dM_json_1 rfl (lv_at hl 1 rfl) ?_
  refine va_put (D := D) (ci := 5) (v := .ref b1) (ty := (.array .byte)) (C := "ValueBenchModel") (T := TM) (N := 32) hx hb htx inM tyM tyM_ok nmM hown hK hP hD hS 0 rfl rfl 15 (by decide) (htx _ kw_5_102) (fun _ h9 => h9) rfl (by decide +kernel) rfl rfl (Nat.le_of_ble_eq_true rfl) dM_json_2 (fun H locs hP hD hS => ?_)
  obtain ⟨hP, hD⟩ : xPD D xcl A [(a0, .inr (5, [v2, v3, v4, v5, v6, v7, v8, v9, v10, v11, v12, v13, v14, v15, v16, .ref b1, v18, v19, v20, v21, v22, v23, v24, v25, v26, v27, v28, v29, v30, v31, v32, v33]))] H := ⟨hP, hD⟩
  refine lv_aload_n hx hb dM_json_5 rfl (lv_at hl 0 rfl) ?_
  refine lv_iload_n hx hb dM_json_6 rfl (lv_at hl 2 rfl) ?_
  refine va_put (D := D) (ci := 5) (v := .int 0) (ty := .int) (C := "ValueBenchModel") (T := TM) (N := 32) hx hb htx inM tyM tyM_ok nmM hown hK hP hD hS 0 rfl rfl 16 (by decide) (htx _ kw_5_103) (fun _ h9 => h9) rfl (by decide +kernel) rfl rfl (Nat.le_of_ble_eq_true rfl) dM_json_7 (fun H locs hP hD hS => ?_)
  obtain ⟨hP, hD⟩ : xPD D xcl A [(a0, .inr (5, [v2, v3, v4, v5, v6, v7, v8, v9, v10, v11, v12, v13, v14, v15, v16, .ref b1, .int 0, v19, v20, v21, v22, v23, v24, v25, v26, v27, v28, v29, v30, v31, v32, v33]))] H := ⟨hP, hD⟩
  refine lv_aload_n hx hb dM_json_10 rfl (lv_at hl 0 rfl) ?_
  refine lv_iload_n hx hb dM_json_11 rfl (lv_at hl 3 rfl) ?_
  refine va_put (D := D) (ci := 5) (v := .int 0) (ty := .int) (C := "ValueBenchModel") (T := TM) (N := 32) hx hb htx inM tyM tyM_ok nmM hown hK hP hD hS 0 rfl rfl 17 (by decide) (htx _ kw_5_104) (fun _ h9 => h9) rfl (by decide +kernel) rfl rfl (Nat.le_of_ble_eq_true rfl) dM_json_12 (fun H locs hP hD hS => ?_)
  obtain ⟨hP, hD⟩ : xPD D xcl A [(a0, .inr (5, [v2, v3, v4, v5, v6, v7, v8, v9, v10, v11, v12, v13, v14, v15, v16, .ref b1, .int 0, .int 0, v20, v21, v22, v23, v24, v25, v26, v27, v28, v29, v30, v31, v32, v33]))] H := ⟨hP, hD⟩
  refine lv_aload_n hx hb dM_json_15 rfl (lv_at hl 0 rfl) ?_
  refine lv_iconst (v := 0) hx hb dM_json_16 (by decide) ?_
  refine va_put (D := D) (ci := 5) (v := .int 0) (ty := .int) (C := "ValueBenchModel") (T := TM) (N := 32) hx hb htx inM tyM tyM_ok nmM hown hK hP hD hS 0 rfl rfl 18 (by decide) (htx _ kw_5_105) (fun _ h9 => h9) rfl (by decide +kernel) rfl rfl (Nat.le_of_ble_eq_true rfl) dM_json_17 (fun H locs hP hD hS => ?_)
  obtain ⟨hP, hD⟩ : xPD D xcl A [(a0, .inr (5, [v2, v3, v4, v5, v6, v7, v8, v9, v10, v11, v12, v13, v14, v15, v16, .ref b1, .int 0, .int 0, .int 0, v21, v22, v23, v24, v25, v26, v27, v28, v29, v30, v31, v32, v33]))] H := ⟨hP, hD⟩
  refine lv_aload_n hx hb dM_json_20 rfl (lv_at hl 0 rfl) ?_
  obtain ⟨hPc, hDc, hFc⟩ := xcut (wc := [(a0, .inr (5, [v2, v3, v4, v5, v6, v7, v8, v9, v10, v11, v12, v13, v14, v15, v16, .ref b1, .int 0, .int 0, .int 0, v21, v22, v23, v24, v25, v26, v27, v28, v29, v30, v31, v32, v33]))]) hP hD hS hA [0] rfl rfl (by decide)
  refine xx_thr (vx_runV (C := "ValueBenchModel") (As := []) (rest := []) ⟨hx, hb, hml, hown, htx⟩ (cM_value_0 l hl9 D cT aK aV H.size a0 v2 v3 v4 v5 v6 v7 v8 v9 v10 v11 v12 v13 v14 v15 v16 (.ref b1) (.int 0) v21 v22 v23 v24 v25 v26 v27 v28 v29 v30 v31 v32 v33) ⟨callB_of 0 htx (xw_goodC kw_5_225) rfl rfl rfl (htx _ kw_1_5) (htx _ kw_5_222) ⟨by decide, by decide, by decide +kernel⟩ ⟨Nat.le_of_ble_eq_true rfl, Nat.le_of_ble_eq_true rfl⟩, (htx _ kw_5_224), (htx _ kp_M_value)⟩ ⟨xPre_blind, va_recv hK hP (ci := 5) rfl (q0 := 0) rfl, (fun U hU hW => ⟨rfl, xPre_of hZ hS hFc hPc hDc hK U hU hW⟩)⟩ rfl rfl hl.1 rfl (lv_room (Nat.le_of_ble_eq_true rfl)) dM_json_21 ⟨Nat.le_of_ble_eq_true rfl, Nat.le_of_ble_eq_true rfl⟩) hS hFc (fun q _ h => hFc q h) (fun E ce q9 u9 t H1 locs ht hvm _ hB hz1 hk1 hS hce hcv hcl => ?_)
  obtain ⟨rfl, hP1, hK1, hD1⟩ := hB
  rw [ht] at hP1
  obtain ⟨hP, hD⟩ := xjoin (W := [(a0, .inr (5, [v2, v3, v4, v5, v6, v7, v8, v9, v10, v11, v12, v13, v14, v15, v16, .ref b1, .int 0, .int 0, .int 0, v21, .int 0, v23, v24, v25, v26, v27, v28, v29, v30, v31, v32, v33]))]) hP hD [0] [] 0 rfl rfl (by decide) (by decide) hk1 hFc hP1 hD1
  generalize H1 = H at hP hS hce ⊢
  obtain ⟨hP9, hD9⟩ := xsub (wc := [(a0, .inr (5, [v2, v3, v4, v5, v6, v7, v8, v9, v10, v11, v12, v13, v14, v15, v16, .ref b1, .int 0, .int 0, .int 0, v21, .int 0, v23, v24, v25, v26, v27, v28, v29, v30, v31, v32, v33]))]) hP hD [0] rfl rfl (by decide)
  exact vx_out (E := "java/lang/UnsupportedOperationException") (fun x h => (hne x h).elim) hlocks hce hcv hcl (fun t ht ha => ⟨(), trivial, ⟨rfl, by rw [ht]; exact hP9, va_K.moved ha hK, hD9⟩, hS.F ht⟩) hS.2.2 (Nat.le_of_ble_eq_true rfl) (Nat.le_of_ble_eq_true rfl)
set_option maxHeartbeats 400000000 in
set_option maxRecDepth 100000 in
theorem cM_fail_1 (l : Launch) (hl9 : l.stackTraces = false) (D : va_G) (cT : Nat → ClassId) (aK aV : Nat → Nat) (sz : Nat) (a0 : Nat) (v1 : Value) (v2 : Value) (v3 : Value) (v4 : Value) (v5 : Value) (v6 : Value) (v7 : Value) (v8 : Value) (v9 : Value) (v10 : Value) (v11 : Value) (v12 : Value) (v13 : Value) (v14 : Value) (v15 : Value) (v16 : Value) (v17 : Value) (v18 : Value) (v19 : Value) (v20 : Value) (v21 : Value) (v22 : Value) (v23 : Value) (v24 : Value) (v25 : Value) (v26 : Value) (v27 : Value) (v28 : Value) (v29 : Value) (v30 : Value) (v31 : Value) (v32 : Value) : xMet l yM_fail wyM_fail 0 0 0 0 D cT aK aV sz [.ref a0, .int 2] [(a0, .inr (5, [v1, v2, v3, v4, v5, v6, v7, v8, v9, v10, v11, v12, v13, v14, v15, v16, v17, v18, v19, v20, v21, v22, v23, v24, v25, v26, v27, v28, v29, v30, v31, v32]))] (fun A => va_Qi (fun (r : Int32) (_ : Unit) => r = 0) (fun _ t => xB D xcl cT A [(a0, .inr (5, [.int 2, v2, v3, v4, v5, v6, v7, v8, v9, v10, v11, v12, v13, v14, v15, v16, v17, v18, v19, v20, v21, v22, v23, v24, v25, v26, v27, v28, v29, v30, v31, v32]))] t) A) := by
  refine Met.ofW (cc := prog_13_method_3_code) (maxL := 2) (ret := (some .int)) (by decide) rfl ?_
  intro p e s m args below meth c s₁ B hml hv
  obtain ⟨rfl, hsz, hZ, hP, hK, hD0⟩ := hv
  have hx := B.exec
  have hb := B.bytes
  have hr := B.returns
  have hts := atoms_spec (ws := wyM_fail) B.pre
  have htx := fun w h => hts w (List.mem_cons_of_mem _ h)
  have hown : s.vm.findClass "ValueBenchModel" = some m.cls := findClass_of_methodNamed B.named
  have hlocks := B.notSynchronized
  subst hsz
  have hD := hD0.self (sz := s.heap.size)
  generalize hAe : va_A [(a0, .inr (5, [v1, v2, v3, v4, v5, v6, v7, v8, v9, v10, v11, v12, v13, v14, v15, v16, v17, v18, v19, v20, v21, v22, v23, v24, v25, v26, v27, v28, v29, v30, v31, v32]))] s.heap.size = A at hD hZ ⊢
  have hA : ∀ q : Nat, s.heap.size ≤ q → A q := fun q h => by rw [← hAe]; exact Or.inr h
  have hS : va_S A s.heap s.heap [] := va_S.rf
  have hP : va_P D xcl [(a0, .inr (5, [v1, v2, v3, v4, v5, v6, v7, v8, v9, v10, v11, v12, v13, v14, v15, v16, v17, v18, v19, v20, v21, v22, v23, v24, v25, v26, v27, v28, v29, v30, v31, v32]))] s.heap := hP
  have hl := lv_entry ([.ref a0, .int 2]) (n := 2) (Nat.le_of_ble_eq_true rfl)
  rw [lg_entry_eq]
  generalize (lg_sl ([.ref a0, .int 2]) ++ List.replicate (2 - (lg_sl ([.ref a0, .int 2])).length) Slot.unset).toArray = ls at hl ⊢
  have hl : lv_has ls 2 [(0, .ref a0), (1, .int 2)] := hl
  refine lv_aload_n hx hb dM_fail_0 rfl (lv_at hl 0 rfl) ?_
  refine lv_iload_n hx hb dM_fail_1 rfl (lv_at hl 1 rfl) ?_
  refine va_put (D := D) (ci := 5) (v := .int 2) (ty := .int) (C := "ValueBenchModel") (T := TM) (N := 32) hx hb htx inM tyM tyM_ok nmM hown hK hP hD hS 0 rfl rfl 0 (by decide) (htx _ kw_5_87) (fun _ h9 => h9) rfl (by decide +kernel) rfl rfl (Nat.le_of_ble_eq_true rfl) dM_fail_2 (fun H locs hP hD hS => ?_)
  obtain ⟨hP, hD⟩ : xPD D xcl A [(a0, .inr (5, [.int 2, v2, v3, v4, v5, v6, v7, v8, v9, v10, v11, v12, v13, v14, v15, v16, v17, v18, v19, v20, v21, v22, v23, v24, v25, v26, v27, v28, v29, v30, v31, v32]))] H := ⟨hP, hD⟩
  refine lv_iconst (v := 0) hx hb dM_fail_5 (by decide) ?_
  obtain ⟨hP9, hD9⟩ := xsub (wc := [(a0, .inr (5, [.int 2, v2, v3, v4, v5, v6, v7, v8, v9, v10, v11, v12, v13, v14, v15, v16, v17, v18, v19, v20, v21, v22, v23, v24, v25, v26, v27, v28, v29, v30, v31, v32]))]) hP hD [0] rfl rfl (by decide)
  refine W.widen (k := 0) (n := 0) (Nat.le_of_ble_eq_true rfl) (Nat.le_of_ble_eq_true rfl) ?_
  exact W.iret (v := 0) hx hb hr (fun t ht hW => ⟨⟨0, (), rfl, rfl, by rw [ht]; exact hP9, va_K.moved hW.alike hK, hD9⟩, hS.F ht⟩) hS.2.2 dM_fail_6
set_option maxHeartbeats 400000000 in
set_option maxRecDepth 100000 in
theorem cM_read_2 (l : Launch) (hl9 : l.stackTraces = false) (D : va_G) (cT : Nat → ClassId) (aK aV : Nat → Nat) (sz : Nat) (a0 : Nat) (x1 : Int32) (v6 : Value) (v7 : Value) (v8 : Value) (v9 : Value) (v10 : Value) (v11 : Value) (v12 : Value) (v13 : Value) (v14 : Value) (v15 : Value) (v16 : Value) (v17 : Value) (v18 : Value) (v19 : Value) (v20 : Value) (v21 : Value) (v22 : Value) (v23 : Value) (v24 : Value) (v25 : Value) (v26 : Value) (v27 : Value) (v28 : Value) (v29 : Value) (v30 : Value) (v31 : Value) (b32 : Nat) (v33 : Value) (v34 : Value) (v35 : Value) (v36 : Value) (h2 : ¬ x1 < 0) (h3 : ¬ 7 < x1) (h4 : x1 ≤ 7) (h5 : vp_in x1 8) : xMet l yM_read wyM_read 9 1 6 167 D cT aK aV sz [.ref a0, .int x1] [(a0, .inr (5, [v6, v7, v8, v9, v10, v11, v12, v13, v14, v15, v16, v17, v18, v19, v20, v21, v22, v23, v24, v25, v26, v27, v28, v29, v30, v31, .ref b32, .int 0, v33, v34, v35, v36]))] (fun A => va_Qi (fun (r : Int32) (_ : Unit) => r = 0) (fun _ t => xB D xcl cT A [(a0, .inr (5, [.int 2, v7, .int 0, v9, .int 0, v11, v12, .int 0, v14, .int 0, v16, v17, .int 0, v19, v20, .ref b32, .int 0, .int 0, .int 0, .int 40, .int 0, v27, .int 0, .int 1000000000, v30, v31, .ref b32, .int 0, v33, v34, v35, .int 0]))] t) A) := by
  refine va_MetW (cc := prog_13_method_84_code) (maxL := 4) (ret := (some .int)) (hh := [(39, 54, 55, 205), (39, 54, 70, 86)]) (by decide) rfl ?_
  intro p e s m args below meth c s₁ B hml hv
  obtain ⟨rfl, hsz, hZ, hP, hK, hD0⟩ := hv
  have hx := B.exec
  have hb := B.bytes
  have hr := B.returns
  have hts := atoms_spec (ws := wyM_read) B.pre
  have htx := fun w h => hts w (List.mem_cons_of_mem _ h)
  have hown : s.vm.findClass "ValueBenchModel" = some m.cls := findClass_of_methodNamed B.named
  have hlocks := B.notSynchronized
  subst hsz
  have hD := hD0.self (sz := s.heap.size)
  generalize hAe : va_A [(a0, .inr (5, [v6, v7, v8, v9, v10, v11, v12, v13, v14, v15, v16, v17, v18, v19, v20, v21, v22, v23, v24, v25, v26, v27, v28, v29, v30, v31, .ref b32, .int 0, v33, v34, v35, v36]))] s.heap.size = A at hD hZ ⊢
  have hA : ∀ q : Nat, s.heap.size ≤ q → A q := fun q h => by rw [← hAe]; exact Or.inr h
  have hS : va_S A s.heap s.heap [] := va_S.rf
  have hP : va_P D xcl [(a0, .inr (5, [v6, v7, v8, v9, v10, v11, v12, v13, v14, v15, v16, v17, v18, v19, v20, v21, v22, v23, v24, v25, v26, v27, v28, v29, v30, v31, .ref b32, .int 0, v33, v34, v35, v36]))] s.heap := hP
  have hl := lv_entry ([.ref a0, .int x1]) (n := 4) (Nat.le_of_ble_eq_true rfl)
  rw [lg_entry_eq]
  generalize (lg_sl ([.ref a0, .int x1]) ++ List.replicate (4 - (lg_sl ([.ref a0, .int x1])).length) Slot.unset).toArray = ls at hl ⊢
  have hl : lv_has ls 4 [(0, .ref a0), (1, .int x1)] := hl
  have htab := vx_table (x := yM_read) B (hts _ List.mem_cons_self)
  refine lv_aload_n hx hb dM_read_0 rfl (lv_at hl 0 rfl) ?_
  obtain ⟨hPc, hDc, hFc⟩ := xcut (wc := [(a0, .inr (5, [v6, v7, v8, v9, v10, v11, v12, v13, v14, v15, v16, v17, v18, v19, v20, v21, v22, v23, v24, v25, v26, v27, v28, v29, v30, v31, .ref b32, .int 0, v33, v34, v35, v36]))]) hP hD hS hA [0] rfl rfl (by decide)
  refine va_callv (va_runV (C := "ValueBenchModel") (As := []) (rest := []) ⟨hx, hb, hml, hown, htx⟩ (cM_begin_0 l hl9 D cT aK aV s.heap.size a0 v6 v7 v8 v9 v10 v11 v12 v13 v14 v15 v16 v17 v18 v19 v20 v21 v22 v23 v24 v25 v26 v27 v28 v29 v30 v31 (.ref b32) (.int 0) v33 v34 v35 v36) ⟨callB_of 0 htx (xw_goodC kw_5_209) rfl rfl rfl (htx _ kw_1_5) (htx _ kw_5_206) ⟨by decide, by decide, by decide +kernel⟩ ⟨Nat.le_of_ble_eq_true rfl, Nat.le_of_ble_eq_true rfl⟩, (htx _ kw_5_208), (htx _ kp_M_begin)⟩ ⟨xPre_blind, va_recv hK hP (ci := 5) rfl (q0 := 0) rfl, (fun U hU hW => ⟨rfl, xPre_of hZ hS hFc hPc hDc hK U hU hW⟩)⟩ rfl rfl hl.1 rfl (lv_room (Nat.le_of_ble_eq_true rfl)) dM_read_1 ⟨Nat.le_of_ble_eq_true rfl, Nat.le_of_ble_eq_true rfl⟩) hS (fun q _ h => hFc q h) hFc (fun u9 t H1 locs ht hvm hr9 hB hz1 hk1 hS => ?_)
  obtain ⟨hP1, hK1, hD1⟩ := hB
  rw [ht] at hP1
  obtain ⟨hP, hD⟩ := xjoin (W := [(a0, .inr (5, [.int 0, v7, .int 0, v9, .int 0, v11, v12, .int 0, v14, .int 0, v16, v17, .int 0, v19, v20, v21, v22, v23, v24, v25, v26, v27, .int 0, .int 1000000000, v30, v31, .ref b32, .int 0, v33, v34, v35, v36]))]) hP hD [0] [] 0 rfl rfl (by decide) (by decide) hk1 hFc hP1 hD1
  generalize H1 = H at hP hS ⊢
  refine lv_aload_n hx hb dM_read_4 rfl (lv_at hl 0 rfl) ?_
  refine lv_iload_n hx hb dM_read_5 rfl (lv_at hl 1 rfl) ?_
  obtain ⟨hPc, hDc, hFc⟩ := xcut (wc := []) hP hD hS hA [] rfl rfl (by decide)
  refine va_calli (va_runV (C := "ValueBenchModel") (As := [.int x1]) (rest := []) ⟨hx, hb, hml, hown, htx⟩ (cM_out_2 l hl9 D cT aK aV H.size a0 x1 h2 h3 h4 h5) ⟨callB_of 1 htx (xw_goodC kw_5_217) rfl rfl rfl (htx _ kw_1_5) (htx _ kw_5_214) ⟨by decide, by decide, by decide +kernel⟩ ⟨Nat.le_of_ble_eq_true rfl, Nat.le_of_ble_eq_true rfl⟩, (htx _ kw_5_216), (htx _ kp_M_out)⟩ ⟨xPre_blind, va_recv hK hP (ci := 5) rfl (q0 := 0) rfl, (fun U hU hW => ⟨rfl, xPre_of hZ hS hFc hPc hDc hK U hU hW⟩)⟩ rfl rfl hl.1 rfl (lv_room (Nat.le_of_ble_eq_true rfl)) dM_read_6 ⟨Nat.le_of_ble_eq_true rfl, Nat.le_of_ble_eq_true rfl⟩) hS (fun q _ h => hFc q h) hFc (fun r1 u9 t H1 locs ht hvm hr9 hB hz1 hk1 hS => ?_)
  obtain ⟨hP1, hK1, hD1⟩ := hB
  rw [ht] at hP1
  obtain ⟨hP, hD⟩ := xjoin (W := [(a0, .inr (5, [.int 0, v7, .int 0, v9, .int 0, v11, v12, .int 0, v14, .int 0, v16, v17, .int 0, v19, v20, v21, v22, v23, v24, v25, v26, v27, .int 0, .int 1000000000, v30, v31, .ref b32, .int 0, v33, v34, v35, v36]))]) hP hD [] [0] 1 rfl rfl (by decide) (by decide) hk1 hFc hP1 hD1
  generalize H1 = H at hP hS ⊢
  rw [hr9]
  refine W.eq (g2 := F0 m 9 ls [.int 0]) rfl ?_
  refine lv_if_eq (tgt := 18) hx hb dM_read_9 (by decide) (fun _ => ?_) (fun h => ((by revert h; decide : False)).elim)
  refine lv_aload_n hx hb dM_read_18 rfl (lv_at hl 0 rfl) ?_
  refine va_get (D := D) (ci := 5) (v := .int 0) (C := "ValueBenchModel") (T := TM) (N := 32) hx hb htx inM hown hK hP 0 rfl rfl 27 (by decide) (htx _ kw_5_114) (fun _ h9 => h9) rfl dM_read_19 ?_
  refine lv_istore_n (lv' := [(2, .int 0), (0, .ref a0), (1, .int x1)]) hx hb dM_read_22 rfl hl (by decide) rfl (fun ls hl => ?_)
  refine lv_aload_n hx hb dM_read_23 rfl (lv_at hl 1 rfl) ?_
  refine lv_iconst (v := 0) hx hb dM_read_24 (by decide) ?_
  refine va_put (D := D) (ci := 5) (v := .int 0) (ty := .int) (C := "ValueBenchModel") (T := TM) (N := 32) hx hb htx inM tyM tyM_ok nmM hown hK hP hD hS 0 rfl rfl 27 (by decide) (htx _ kw_5_114) (fun _ h9 => h9) rfl (by decide +kernel) rfl rfl (Nat.le_of_ble_eq_true rfl) dM_read_25 (fun H locs hP hD hS => ?_)
  obtain ⟨hP, hD⟩ : xPD D xcl A [(a0, .inr (5, [.int 0, v7, .int 0, v9, .int 0, v11, v12, .int 0, v14, .int 0, v16, v17, .int 0, v19, v20, v21, v22, v23, v24, v25, v26, v27, .int 0, .int 1000000000, v30, v31, .ref b32, .int 0, v33, v34, v35, v36]))] H := ⟨hP, hD⟩
  refine lv_aload_n hx hb dM_read_28 rfl (lv_at hl 1 rfl) ?_
  refine lv_iconst (v := (-1)) hx hb dM_read_29 (by decide) ?_
  refine va_put (D := D) (ci := 5) (v := .int (-1)) (ty := .int) (C := "ValueBenchModel") (T := TM) (N := 32) hx hb htx inM tyM tyM_ok nmM hown hK hP hD hS 0 rfl rfl 31 (by decide) (htx _ kw_5_118) (fun _ h9 => h9) rfl (by decide +kernel) rfl rfl (Nat.le_of_ble_eq_true rfl) dM_read_30 (fun H locs hP hD hS => ?_)
  obtain ⟨hP, hD⟩ : xPD D xcl A [(a0, .inr (5, [.int 0, v7, .int 0, v9, .int 0, v11, v12, .int 0, v14, .int 0, v16, v17, .int 0, v19, v20, v21, v22, v23, v24, v25, v26, v27, .int 0, .int 1000000000, v30, v31, .ref b32, .int 0, v33, v34, v35, .int (-1)]))] H := ⟨hP, hD⟩
  refine lv_aload_n hx hb dM_read_33 rfl (lv_at hl 1 rfl) ?_
  refine lv_bipush (v := 40) hx hb dM_read_34 (by decide) ?_
  refine va_put (D := D) (ci := 5) (v := .int 40) (ty := .int) (C := "ValueBenchModel") (T := TM) (N := 32) hx hb htx inM tyM tyM_ok nmM hown hK hP hD hS 0 rfl rfl 19 (by decide) (htx _ kw_5_106) (fun _ h9 => h9) rfl (by decide +kernel) rfl rfl (Nat.le_of_ble_eq_true rfl) dM_read_36 (fun H locs hP hD hS => ?_)
  obtain ⟨hP, hD⟩ : xPD D xcl A [(a0, .inr (5, [.int 0, v7, .int 0, v9, .int 0, v11, v12, .int 0, v14, .int 0, v16, v17, .int 0, v19, v20, v21, v22, v23, v24, .int 40, v26, v27, .int 0, .int 1000000000, v30, v31, .ref b32, .int 0, v33, v34, v35, .int (-1)]))] H := ⟨hP, hD⟩
  refine lv_aload_n hx hb dM_read_39 rfl (lv_at hl 1 rfl) ?_
  refine lv_iload_n hx hb dM_read_40 rfl (lv_at hl 2 rfl) ?_
  refine lv_aload_n hx hb dM_read_41 rfl (lv_at hl 1 rfl) ?_
  refine lv_aload_n hx hb dM_read_42 rfl (lv_at hl 1 rfl) ?_
  refine va_get (D := D) (ci := 5) (v := .ref b32) (C := "ValueBenchModel") (T := TM) (N := 32) hx hb htx inM hown hK hP 0 rfl rfl 26 (by decide) (htx _ kw_5_113) (fun _ h9 => h9) rfl dM_read_43 ?_
  refine lv_iconst (v := 0) hx hb dM_read_46 (by decide) ?_
  refine lv_iload_n hx hb dM_read_47 rfl (lv_at hl 0 rfl) ?_
  obtain ⟨hPc, hDc, hFc⟩ := xcut (wc := [(a0, .inr (5, [.int 0, v7, .int 0, v9, .int 0, v11, v12, .int 0, v14, .int 0, v16, v17, .int 0, v19, v20, v21, v22, v23, v24, .int 40, v26, v27, .int 0, .int 1000000000, v30, v31, .ref b32, .int 0, v33, v34, v35, .int (-1)]))]) hP hD hS hA [0] rfl rfl (by decide)
  refine xx_thr (vx_runV (C := "ValueBenchModel") (As := [.ref b32, .int 0, .int 0]) (rest := [.int x1, .ref a0]) ⟨hx, hb, hml, hown, htx⟩ (cM_json_0 l hl9 D cT aK aV H.size a0 b32 (.int 0) v7 (.int 0) v9 (.int 0) v11 v12 (.int 0) v14 (.int 0) v16 v17 (.int 0) v19 v20 v21 v22 v23 v24 (.int 40) v26 v27 (.int 0) (.int 1000000000) v30 v31 (.ref b32) (.int 0) v33 v34 v35 (.int (-1))) ⟨callB_of 3 htx (xw_goodC kw_5_221) rfl rfl rfl (htx _ kw_1_5) (htx _ kw_5_218) ⟨by decide, by decide, by decide +kernel⟩ ⟨Nat.le_of_ble_eq_true rfl, Nat.le_of_ble_eq_true rfl⟩, (htx _ kw_5_220), (htx _ kp_M_json)⟩ ⟨xPre_blind, va_recv hK hP (ci := 5) rfl (q0 := 0) rfl, (fun U hU hW => ⟨rfl, xPre_of hZ hS hFc hPc hDc hK U hU hW⟩)⟩ rfl rfl hl.1 rfl (lv_room (Nat.le_of_ble_eq_true rfl)) dM_read_48 ⟨Nat.le_of_ble_eq_true rfl, Nat.le_of_ble_eq_true rfl⟩) hS hFc (fun q _ h => hFc q h) (fun E ce q9 u9 t H1 locs ht hvm _ hB hz1 hk1 hS hce hcv hcl => ?_)
  obtain ⟨rfl, hP1, hK1, hD1⟩ := hB
  rw [ht] at hP1
  obtain ⟨hP, hD⟩ := xjoin (W := [(a0, .inr (5, [.int 0, v7, .int 0, v9, .int 0, v11, v12, .int 0, v14, .int 0, v16, v17, .int 0, v19, v20, .ref b32, .int 0, .int 0, .int 0, .int 40, .int 0, v27, .int 0, .int 1000000000, v30, v31, .ref b32, .int 0, v33, v34, v35, .int (-1)]))]) hP hD [0] [] 0 rfl rfl (by decide) (by decide) hk1 hFc hP1 hD1
  generalize H1 = H at hP hS hce ⊢
  refine vx_catch (own := "ValueBenchModel") (name := "java/lang/UnsupportedOperationException") (E := "java/lang/UnsupportedOperationException") hown [] ⟨39, 54, 55, 205⟩ [⟨39, 54, 70, 86⟩] (by rw [htab]; rfl) (fun z hz => nomatch hz) (by decide) (by decide) (htx _ kw_5_204) ((hZ.2.2.2.2.2.1 "java/lang/UnsupportedOperationException" (List.mem_of_getElem? (i := 2) rfl)).use rfl) hce hcv hcl ?_
  refine lv_astore_n (lv' := [(3, .ref q9), (2, .int 0), (0, .ref a0), (1, .int x1)]) hx hb dM_read_55 rfl hl (by decide) rfl (fun ls hl => ?_)
  refine lv_aload_n hx hb dM_read_56 rfl (lv_at hl 2 rfl) ?_
  refine lv_aload_n hx hb dM_read_57 rfl (lv_at hl 2 rfl) ?_
  refine va_get (D := D) (ci := 5) (v := .int 0) (C := "ValueBenchModel") (T := TM) (N := 32) hx hb htx inM hown hK hP 0 rfl rfl 20 (by decide) (htx _ kw_5_107) (fun _ h9 => h9) rfl dM_read_58 ?_
  refine va_put (D := D) (ci := 5) (v := .int 0) (ty := .int) (C := "ValueBenchModel") (T := TM) (N := 32) hx hb htx inM tyM tyM_ok nmM hown hK hP hD hS 0 rfl rfl 31 (by decide) (htx _ kw_5_118) (fun _ h9 => h9) rfl (by decide +kernel) rfl rfl (Nat.le_of_ble_eq_true rfl) dM_read_61 (fun H locs hP hD hS => ?_)
  obtain ⟨hP, hD⟩ : xPD D xcl A [(a0, .inr (5, [.int 0, v7, .int 0, v9, .int 0, v11, v12, .int 0, v14, .int 0, v16, v17, .int 0, v19, v20, .ref b32, .int 0, .int 0, .int 0, .int 40, .int 0, v27, .int 0, .int 1000000000, v30, v31, .ref b32, .int 0, v33, v34, v35, .int 0]))] H := ⟨hP, hD⟩
  refine lv_aload_n hx hb dM_read_64 rfl (lv_at hl 2 rfl) ?_
  refine lv_iconst (v := 2) hx hb dM_read_65 (by decide) ?_
  obtain ⟨hPc, hDc, hFc⟩ := xcut (wc := [(a0, .inr (5, [.int 0, v7, .int 0, v9, .int 0, v11, v12, .int 0, v14, .int 0, v16, v17, .int 0, v19, v20, .ref b32, .int 0, .int 0, .int 0, .int 40, .int 0, v27, .int 0, .int 1000000000, v30, v31, .ref b32, .int 0, v33, v34, v35, .int 0]))]) hP hD hS hA [0] rfl rfl (by decide)
  refine va_calli (va_runV (C := "ValueBenchModel") (As := [.int 2]) (rest := []) ⟨hx, hb, hml, hown, htx⟩ (cM_fail_1 l hl9 D cT aK aV H.size a0 (.int 0) v7 (.int 0) v9 (.int 0) v11 v12 (.int 0) v14 (.int 0) v16 v17 (.int 0) v19 v20 (.ref b32) (.int 0) (.int 0) (.int 0) (.int 40) (.int 0) v27 (.int 0) (.int 1000000000) v30 v31 (.ref b32) (.int 0) v33 v34 v35 (.int 0)) ⟨callB_of 1 htx (xw_goodC kw_5_195) rfl rfl rfl (htx _ kw_1_5) (htx _ kw_5_192) ⟨by decide, by decide, by decide +kernel⟩ ⟨Nat.le_of_ble_eq_true rfl, Nat.le_of_ble_eq_true rfl⟩, (htx _ kw_5_194), (htx _ kp_M_fail)⟩ ⟨xPre_blind, va_recv hK hP (ci := 5) rfl (q0 := 0) rfl, (fun U hU hW => ⟨rfl, xPre_of hZ hS hFc hPc hDc hK U hU hW⟩)⟩ rfl rfl hl.1 rfl (lv_room (Nat.le_of_ble_eq_true rfl)) dM_read_66 ⟨Nat.le_of_ble_eq_true rfl, Nat.le_of_ble_eq_true rfl⟩) hS (fun q _ h => hFc q h) hFc (fun r2 u9 t H1 locs ht hvm hr9 hB hz1 hk1 hS => ?_)
  obtain ⟨hP1, hK1, hD1⟩ := hB
  rw [ht] at hP1
  obtain ⟨hP, hD⟩ := xjoin (W := [(a0, .inr (5, [.int 2, v7, .int 0, v9, .int 0, v11, v12, .int 0, v14, .int 0, v16, v17, .int 0, v19, v20, .ref b32, .int 0, .int 0, .int 0, .int 40, .int 0, v27, .int 0, .int 1000000000, v30, v31, .ref b32, .int 0, v33, v34, v35, .int 0]))]) hP hD [0] [] 0 rfl rfl (by decide) (by decide) hk1 hFc hP1 hD1
  generalize H1 = H at hP hS ⊢
  rw [hr9]
  refine W.eq (g2 := F0 m 69 ls [.int 0]) rfl ?_
  obtain ⟨hP9, hD9⟩ := xsub (wc := [(a0, .inr (5, [.int 2, v7, .int 0, v9, .int 0, v11, v12, .int 0, v14, .int 0, v16, v17, .int 0, v19, v20, .ref b32, .int 0, .int 0, .int 0, .int 40, .int 0, v27, .int 0, .int 1000000000, v30, v31, .ref b32, .int 0, v33, v34, v35, .int 0]))]) hP hD [0] rfl rfl (by decide)
  refine W.widen (k := 1) (n := 6) (Nat.le_of_ble_eq_true rfl) (Nat.le_of_ble_eq_true rfl) ?_
  exact W.iret (v := 0) hx hb hr (fun t ht hW => ⟨⟨0, (), rfl, rfl, by rw [ht]; exact hP9, va_K.moved hW.alike hK, hD9⟩, hS.F ht⟩) hS.2.2 dM_read_69
set_option maxHeartbeats 400000000 in
set_option maxRecDepth 100000 in
theorem cM_thrown_2 (l : Launch) (hl9 : l.stackTraces = false) (D : va_G) (cT : Nat → ClassId) (aK aV : Nat → Nat) (sz : Nat) (a0 : Nat) (v1 : Value) (v2 : Value) (v3 : Value) (v4 : Value) (v5 : Value) (v6 : Value) (v7 : Value) (v8 : Value) (v9 : Value) (v10 : Value) (v11 : Value) (v12 : Value) (v13 : Value) (v14 : Value) (v15 : Value) (v16 : Value) (v17 : Value) (v18 : Value) (v19 : Value) (v20 : Value) (v21 : Value) (v22 : Value) (v23 : Value) (v24 : Value) (v25 : Value) (v26 : Value) (v27 : Value) (v28 : Value) (v29 : Value) (v30 : Value) (v31 : Value) : xMet l yM_thrown wyM_thrown 0 0 0 0 D cT aK aV sz [.ref a0] [(a0, .inr (5, [.int 2, v1, v2, v3, v4, v5, v6, v7, v8, v9, v10, v11, v12, v13, v14, v15, v16, v17, v18, v19, v20, v21, v22, v23, v24, v25, v26, v27, v28, v29, v30, v31]))] (fun A => va_Qi (fun (r : Int32) (_ : Unit) => r = 2) (fun _ t => xB D xcl cT A [(a0, .inr (5, [.int 2, v1, v2, v3, v4, v5, v6, v7, v8, v9, v10, v11, v12, v13, v14, v15, v16, v17, v18, v19, v20, v21, v22, v23, v24, v25, v26, v27, v28, v29, v30, v31]))] t) A) := by
  refine Met.ofW (cc := prog_13_method_2_code) (maxL := 1) (ret := (some .int)) (by decide) rfl ?_
  intro p e s m args below meth c s₁ B hml hv
  obtain ⟨rfl, hsz, hZ, hP, hK, hD0⟩ := hv
  have hx := B.exec
  have hb := B.bytes
  have hr := B.returns
  have hts := atoms_spec (ws := wyM_thrown) B.pre
  have htx := fun w h => hts w (List.mem_cons_of_mem _ h)
  have hown : s.vm.findClass "ValueBenchModel" = some m.cls := findClass_of_methodNamed B.named
  have hlocks := B.notSynchronized
  subst hsz
  have hD := hD0.self (sz := s.heap.size)
  generalize hAe : va_A [(a0, .inr (5, [.int 2, v1, v2, v3, v4, v5, v6, v7, v8, v9, v10, v11, v12, v13, v14, v15, v16, v17, v18, v19, v20, v21, v22, v23, v24, v25, v26, v27, v28, v29, v30, v31]))] s.heap.size = A at hD hZ ⊢
  have hA : ∀ q : Nat, s.heap.size ≤ q → A q := fun q h => by rw [← hAe]; exact Or.inr h
  have hS : va_S A s.heap s.heap [] := va_S.rf
  have hP : va_P D xcl [(a0, .inr (5, [.int 2, v1, v2, v3, v4, v5, v6, v7, v8, v9, v10, v11, v12, v13, v14, v15, v16, v17, v18, v19, v20, v21, v22, v23, v24, v25, v26, v27, v28, v29, v30, v31]))] s.heap := hP
  have hl := lv_entry ([.ref a0]) (n := 1) (Nat.le_of_ble_eq_true rfl)
  rw [lg_entry_eq]
  generalize (lg_sl ([.ref a0]) ++ List.replicate (1 - (lg_sl ([.ref a0])).length) Slot.unset).toArray = ls at hl ⊢
  have hl : lv_has ls 1 [(0, .ref a0)] := hl
  refine lv_aload_n hx hb dM_thrown_0 rfl (lv_at hl 0 rfl) ?_
  refine va_get (D := D) (ci := 5) (v := .int 2) (C := "ValueBenchModel") (T := TM) (N := 32) hx hb htx inM hown hK hP 0 rfl rfl 0 (by decide) (htx _ kw_5_87) (fun _ h9 => h9) rfl dM_thrown_1 ?_
  obtain ⟨hP9, hD9⟩ := xsub (wc := [(a0, .inr (5, [.int 2, v1, v2, v3, v4, v5, v6, v7, v8, v9, v10, v11, v12, v13, v14, v15, v16, v17, v18, v19, v20, v21, v22, v23, v24, v25, v26, v27, v28, v29, v30, v31]))]) hP hD [0] rfl rfl (by decide)
  refine W.widen (k := 0) (n := 0) (Nat.le_of_ble_eq_true rfl) (Nat.le_of_ble_eq_true rfl) ?_
  exact W.iret (v := 2) hx hb hr (fun t ht hW => ⟨⟨2, (), rfl, rfl, by rw [ht]; exact hP9, va_K.moved hW.alike hK, hD9⟩, hS.F ht⟩) hS.2.2 dM_thrown_4
set_option maxHeartbeats 400000000 in
set_option maxRecDepth 100000 in
theorem cB_print_0 (l : Launch) (hl9 : l.stackTraces = false) (D : va_G) (cT : Nat → ClassId) (aK aV : Nat → Nat) (sz : Nat) (b0 : Nat) (x1 : Int32) (h2 : x1 < 0) : xMetX l yB_print wyB_print 7 1 6 120 D cT aK aV sz [.ref b0, .int x1] [] "java/lang/IllegalArgumentException" (fun A t => xB D xcl cT A [] t) := by
  refine vx_ofW (cc := prog_1_method_5_code) (maxL := 2) (ret := (some .int)) (by decide) rfl ?_
  intro p e s m args below meth c s₁ B hml hne hv
  obtain ⟨rfl, hsz, hZ, hP, hK, hD0⟩ := hv
  have hx := B.exec
  have hb := B.bytes
  have hr := B.returns
  have hts := atoms_spec (ws := wyB_print) B.pre
  have htx := fun w h => hts w (List.mem_cons_of_mem _ h)
  have hown : s.vm.findClass "ValueBench" = some m.cls := findClass_of_methodNamed B.named
  have hlocks := B.notSynchronized
  subst hsz
  have hD := hD0.self (sz := s.heap.size)
  generalize hAe : va_A [] s.heap.size = A at hD hZ ⊢
  have hA : ∀ q : Nat, s.heap.size ≤ q → A q := fun q h => by rw [← hAe]; exact Or.inr h
  have hS : va_S A s.heap s.heap [] := va_S.rf
  have hP : va_P D xcl [] s.heap := hP
  have hl := lv_entry ([.ref b0, .int x1]) (n := 2) (Nat.le_of_ble_eq_true rfl)
  rw [lg_entry_eq]
  generalize (lg_sl ([.ref b0, .int x1]) ++ List.replicate (2 - (lg_sl ([.ref b0, .int x1])).length) Slot.unset).toArray = ls at hl ⊢
  have hl : lv_has ls 2 [(0, .ref b0), (1, .int x1)] := hl
  refine lv_iload_n hx hb dB_print_0 rfl (lv_at hl 1 rfl) ?_
  obtain ⟨hPc, hDc, hFc⟩ := xcut (wc := []) hP hD hS hA [] rfl rfl (by decide)
  refine va_calli (va_runS (As := [.int x1]) (rest := []) ⟨hx, hb, hml, hown, htx⟩ (cB_isRegister_0 l hl9 D cT aK aV s.heap.size x1 h2) ⟨callB_of 1 htx (xw_goodC kw_2_18) rfl rfl rfl (htx _ kw_1_1) (htx _ kw_2_16) ⟨by decide, by decide, by decide +kernel⟩ ⟨Nat.le_of_ble_eq_true rfl, Nat.le_of_ble_eq_true rfl⟩, htx _ kw_2_17⟩ ⟨xPre_blind, (fun U hU hW => ⟨rfl, xPre_of hZ hS hFc hPc hDc hK U hU hW⟩)⟩ rfl rfl hl.1 rfl (lv_room (Nat.le_of_ble_eq_true rfl)) dB_print_1 ⟨Nat.le_of_ble_eq_true rfl, Nat.le_of_ble_eq_true rfl⟩) hS (fun q _ h => hFc q h) hFc (fun r1 u9 t H1 locs ht hvm hr9 hB hz1 hk1 hS => ?_)
  obtain ⟨hP1, hK1, hD1⟩ := hB
  rw [ht] at hP1
  obtain ⟨hP, hD⟩ := xjoin (W := []) hP hD [] [] 0 rfl rfl (by decide) (by decide) hk1 hFc hP1 hD1
  generalize H1 = H at hP hS ⊢
  rw [hr9]
  refine W.eq (g2 := F0 m 4 ls [.int 0]) rfl ?_
  obtain ⟨hPc, hDc, hFc⟩ := xcut (wc := []) hP hD hS hA [] rfl rfl (by decide)
  refine xx_thr (vx_runS (As := [.int 0]) (rest := []) ⟨hx, hb, hml, hown, htx⟩ (cB_demand_0 l hl9 D cT aK aV H.size) ⟨callB_of 1 htx (xw_goodC kw_1_221) rfl rfl rfl (htx _ kw_1_1) (htx _ kw_1_219) ⟨by decide, by decide, by decide +kernel⟩ ⟨Nat.le_of_ble_eq_true rfl, Nat.le_of_ble_eq_true rfl⟩, htx _ kw_1_220⟩ ⟨xPre_blind, (fun U hU hW => ⟨rfl, xPre_of hZ hS hFc hPc hDc hK U hU hW⟩)⟩ rfl rfl hl.1 rfl (lv_room (Nat.le_of_ble_eq_true rfl)) dB_print_4 ⟨Nat.le_of_ble_eq_true rfl, Nat.le_of_ble_eq_true rfl⟩) hS hFc (fun q _ h => hFc q h) (fun E ce q9 u9 t H1 locs ht hvm _ hB hz1 hk1 hS hce hcv hcl => ?_)
  obtain ⟨rfl, hP1, hK1, hD1⟩ := hB
  rw [ht] at hP1
  obtain ⟨hP, hD⟩ := xjoin (W := []) hP hD [] [] 0 rfl rfl (by decide) (by decide) hk1 hFc hP1 hD1
  generalize H1 = H at hP hS hce ⊢
  obtain ⟨hP9, hD9⟩ := xsub (wc := []) hP hD [] rfl rfl (by decide)
  exact vx_out (E := "java/lang/IllegalArgumentException") (fun x h => (hne x h).elim) hlocks hce hcv hcl (fun t ht ha => ⟨(), trivial, ⟨rfl, by rw [ht]; exact hP9, va_K.moved ha hK, hD9⟩, hS.F ht⟩) hS.2.2 (Nat.le_of_ble_eq_true rfl) (Nat.le_of_ble_eq_true rfl)
set_option maxHeartbeats 400000000 in
set_option maxRecDepth 100000 in
theorem cL_print_0 (l : Launch) (hl9 : l.stackTraces = false) (D : va_G) (cT : Nat → ClassId) (aK aV : Nat → Nat) (sz : Nat) (a0 : Nat) (x1 : Int32) (b3 : Nat) (v4 : Value) (v5 : Value) (v6 : Value) (v7 : Value) (v8 : Value) (v9 : Value) (v10 : Value) (v11 : Value) (h2 : x1 < 0) : xMet l yL_print wyL_print 8 1 6 141 D cT aK aV sz [.ref a0, .int x1, .ref b3] [(a0, .inr (0, [v4, v5, v6, v7, v8, v9, v10, v11]))] (fun A => va_Qi (fun (r : Int32) (_ : Unit) => r = 1) (fun _ t => xB D xcl cT A [(a0, .inr (0, [v4, v5, v6, v7, v8, v9, v10, v11]))] t) A) := by
  refine va_MetW (cc := method_6_code) (maxL := 4) (ret := (some .int)) (hh := [(0, 9, 12, 19)]) (by decide) rfl ?_
  intro p e s m args below meth c s₁ B hml hv
  obtain ⟨rfl, hsz, hZ, hP, hK, hD0⟩ := hv
  have hx := B.exec
  have hb := B.bytes
  have hr := B.returns
  have hts := atoms_spec (ws := wyL_print) B.pre
  have htx := fun w h => hts w (List.mem_cons_of_mem _ h)
  have hown : s.vm.findClass "ValueBenchLaw" = some m.cls := findClass_of_methodNamed B.named
  have hlocks := B.notSynchronized
  subst hsz
  have hD := hD0.self (sz := s.heap.size)
  generalize hAe : va_A [(a0, .inr (0, [v4, v5, v6, v7, v8, v9, v10, v11]))] s.heap.size = A at hD hZ ⊢
  have hA : ∀ q : Nat, s.heap.size ≤ q → A q := fun q h => by rw [← hAe]; exact Or.inr h
  have hS : va_S A s.heap s.heap [] := va_S.rf
  have hP : va_P D xcl [(a0, .inr (0, [v4, v5, v6, v7, v8, v9, v10, v11]))] s.heap := hP
  have hl := lv_entry ([.ref a0, .int x1, .ref b3]) (n := 4) (Nat.le_of_ble_eq_true rfl)
  rw [lg_entry_eq]
  generalize (lg_sl ([.ref a0, .int x1, .ref b3]) ++ List.replicate (4 - (lg_sl ([.ref a0, .int x1, .ref b3])).length) Slot.unset).toArray = ls at hl ⊢
  have hl : lv_has ls 4 [(0, .ref a0), (1, .int x1), (2, .ref b3)] := hl
  have htab := vx_table (x := yL_print) B (hts _ List.mem_cons_self)
  refine lv_aload_n hx hb dL_print_0 rfl (lv_at hl 2 rfl) ?_
  refine lv_iconst (v := 0) hx hb dL_print_1 (by decide) ?_
  refine lv_aload_n hx hb dL_print_2 rfl (lv_at hl 0 rfl) ?_
  refine lv_iload_n hx hb dL_print_3 rfl (lv_at hl 1 rfl) ?_
  obtain ⟨hPc, hDc, hFc⟩ := xcut (wc := []) hP hD hS hA [] rfl rfl (by decide)
  refine xx_thr (vx_runV (C := "ValueBench") (As := [.int x1]) (rest := [.int 0, .ref b3]) ⟨hx, hb, hml, hown, htx⟩ (cB_print_0 l hl9 D cT aK aV s.heap.size a0 x1 h2) ⟨callB_of 1 htx (xw_goodC kw_3_94) rfl rfl rfl (htx _ kw_1_1) (htx _ kw_3_91) ⟨by decide, by decide, by decide +kernel⟩ ⟨Nat.le_of_ble_eq_true rfl, Nat.le_of_ble_eq_true rfl⟩, (htx _ kw_3_92), (htx _ kw_3_93)⟩ ⟨xPre_blind, va_recv hK hP (ci := 0) rfl (q0 := 0) rfl, (fun U hU hW => ⟨rfl, xPre_of hZ hS hFc hPc hDc hK U hU hW⟩)⟩ rfl rfl hl.1 rfl (lv_room (Nat.le_of_ble_eq_true rfl)) dL_print_4 ⟨Nat.le_of_ble_eq_true rfl, Nat.le_of_ble_eq_true rfl⟩) hS hFc (fun q _ h => hFc q h) (fun E ce q9 u9 t H1 locs ht hvm _ hB hz1 hk1 hS hce hcv hcl => ?_)
  obtain ⟨rfl, hP1, hK1, hD1⟩ := hB
  rw [ht] at hP1
  obtain ⟨hP, hD⟩ := xjoin (W := [(a0, .inr (0, [v4, v5, v6, v7, v8, v9, v10, v11]))]) hP hD [] [0] 1 rfl rfl (by decide) (by decide) hk1 hFc hP1 hD1
  generalize H1 = H at hP hS hce ⊢
  refine vx_catch (own := "ValueBenchLaw") (name := "java/lang/IllegalArgumentException") (E := "java/lang/IllegalArgumentException") hown [] ⟨0, 9, 12, 19⟩ [] (by rw [htab]; rfl) (fun z hz => nomatch hz) (by decide) (by decide) (htx _ kw_1_211) ((hZ.2.2.2.2.2.1 "java/lang/IllegalArgumentException" (List.mem_of_getElem? (i := 1) rfl)).use rfl) hce hcv hcl ?_
  refine lv_astore_n (lv' := [(3, .ref q9), (0, .ref a0), (1, .int x1), (2, .ref b3)]) hx hb dL_print_12 rfl hl (by decide) rfl (fun ls hl => ?_)
  refine lv_iconst (v := 1) hx hb dL_print_13 (by decide) ?_
  obtain ⟨hP9, hD9⟩ := xsub (wc := [(a0, .inr (0, [v4, v5, v6, v7, v8, v9, v10, v11]))]) hP hD [0] rfl rfl (by decide)
  refine W.widen (k := 1) (n := 6) (Nat.le_of_ble_eq_true rfl) (Nat.le_of_ble_eq_true rfl) ?_
  exact W.iret (v := 1) hx hb hr (fun t ht hW => ⟨⟨1, (), rfl, rfl, by rw [ht]; exact hP9, va_K.moved hW.alike hK, hD9⟩, hS.F ht⟩) hS.2.2 dL_print_14
set_option maxHeartbeats 400000000 in
set_option maxRecDepth 100000 in
theorem cM_print0_0 (l : Launch) (hl9 : l.stackTraces = false) (D : va_G) (cT : Nat → ClassId) (aK aV : Nat → Nat) (sz : Nat) (a0 : Nat) (x1 : Int32) (v3 : Value) (v4 : Value) (v5 : Value) (v6 : Value) (v7 : Value) (v8 : Value) (v9 : Value) (v10 : Value) (v11 : Value) (v12 : Value) (v13 : Value) (v14 : Value) (v15 : Value) (v16 : Value) (v17 : Value) (v18 : Value) (v19 : Value) (v20 : Value) (v21 : Value) (v22 : Value) (v23 : Value) (v24 : Value) (v25 : Value) (v26 : Value) (v27 : Value) (v28 : Value) (v29 : Value) (v30 : Value) (v31 : Value) (v32 : Value) (v33 : Value) (v34 : Value) (h2 : x1 < 0) : xMet l yM_print0 wyM_print0 2 0 0 40 D cT aK aV sz [.ref a0, .int x1] [(a0, .inr (5, [v3, v4, v5, v6, v7, v8, v9, v10, v11, v12, v13, v14, v15, v16, v17, v18, v19, v20, v21, v22, v23, v24, v25, v26, v27, v28, v29, v30, v31, v32, v33, v34]))] (fun A => va_Qi (fun (r : Int32) (_ : Unit) => r = 0) (fun _ t => xB D xcl cT A [(a0, .inr (5, [.int 1, v4, .int 0, v6, .int 0, v8, v9, .int 0, v11, .int 0, v13, v14, .int 0, v16, v17, v18, v19, v20, v21, v22, v23, v24, .int 0, .int 1000000000, v27, v28, v29, v30, v31, v32, v33, v34]))] t) A) := by
  refine Met.ofW (cc := prog_13_method_85_code) (maxL := 3) (ret := (some .int)) (by decide) rfl ?_
  intro p e s m args below meth c s₁ B hml hv
  obtain ⟨rfl, hsz, hZ, hP, hK, hD0⟩ := hv
  have hx := B.exec
  have hb := B.bytes
  have hr := B.returns
  have hts := atoms_spec (ws := wyM_print0) B.pre
  have htx := fun w h => hts w (List.mem_cons_of_mem _ h)
  have hown : s.vm.findClass "ValueBenchModel" = some m.cls := findClass_of_methodNamed B.named
  have hlocks := B.notSynchronized
  subst hsz
  have hD := hD0.self (sz := s.heap.size)
  generalize hAe : va_A [(a0, .inr (5, [v3, v4, v5, v6, v7, v8, v9, v10, v11, v12, v13, v14, v15, v16, v17, v18, v19, v20, v21, v22, v23, v24, v25, v26, v27, v28, v29, v30, v31, v32, v33, v34]))] s.heap.size = A at hD hZ ⊢
  have hA : ∀ q : Nat, s.heap.size ≤ q → A q := fun q h => by rw [← hAe]; exact Or.inr h
  have hS : va_S A s.heap s.heap [] := va_S.rf
  have hP : va_P D xcl [(a0, .inr (5, [v3, v4, v5, v6, v7, v8, v9, v10, v11, v12, v13, v14, v15, v16, v17, v18, v19, v20, v21, v22, v23, v24, v25, v26, v27, v28, v29, v30, v31, v32, v33, v34]))] s.heap := hP
  have hl := lv_entry ([.ref a0, .int x1]) (n := 3) (Nat.le_of_ble_eq_true rfl)
  rw [lg_entry_eq]
  generalize (lg_sl ([.ref a0, .int x1]) ++ List.replicate (3 - (lg_sl ([.ref a0, .int x1])).length) Slot.unset).toArray = ls at hl ⊢
  have hl : lv_has ls 3 [(0, .ref a0), (1, .int x1)] := hl
  refine lv_aload_n hx hb dM_print0_0 rfl (lv_at hl 0 rfl) ?_
  obtain ⟨hPc, hDc, hFc⟩ := xcut (wc := [(a0, .inr (5, [v3, v4, v5, v6, v7, v8, v9, v10, v11, v12, v13, v14, v15, v16, v17, v18, v19, v20, v21, v22, v23, v24, v25, v26, v27, v28, v29, v30, v31, v32, v33, v34]))]) hP hD hS hA [0] rfl rfl (by decide)
  refine va_callv (va_runV (C := "ValueBenchModel") (As := []) (rest := []) ⟨hx, hb, hml, hown, htx⟩ (cM_begin_0 l hl9 D cT aK aV s.heap.size a0 v3 v4 v5 v6 v7 v8 v9 v10 v11 v12 v13 v14 v15 v16 v17 v18 v19 v20 v21 v22 v23 v24 v25 v26 v27 v28 v29 v30 v31 v32 v33 v34) ⟨callB_of 0 htx (xw_goodC kw_5_209) rfl rfl rfl (htx _ kw_1_5) (htx _ kw_5_206) ⟨by decide, by decide, by decide +kernel⟩ ⟨Nat.le_of_ble_eq_true rfl, Nat.le_of_ble_eq_true rfl⟩, (htx _ kw_5_208), (htx _ kp_M_begin)⟩ ⟨xPre_blind, va_recv hK hP (ci := 5) rfl (q0 := 0) rfl, (fun U hU hW => ⟨rfl, xPre_of hZ hS hFc hPc hDc hK U hU hW⟩)⟩ rfl rfl hl.1 rfl (lv_room (Nat.le_of_ble_eq_true rfl)) dM_print0_1 ⟨Nat.le_of_ble_eq_true rfl, Nat.le_of_ble_eq_true rfl⟩) hS (fun q _ h => hFc q h) hFc (fun u9 t H1 locs ht hvm hr9 hB hz1 hk1 hS => ?_)
  obtain ⟨hP1, hK1, hD1⟩ := hB
  rw [ht] at hP1
  obtain ⟨hP, hD⟩ := xjoin (W := [(a0, .inr (5, [.int 0, v4, .int 0, v6, .int 0, v8, v9, .int 0, v11, .int 0, v13, v14, .int 0, v16, v17, v18, v19, v20, v21, v22, v23, v24, .int 0, .int 1000000000, v27, v28, v29, v30, v31, v32, v33, v34]))]) hP hD [0] [] 0 rfl rfl (by decide) (by decide) hk1 hFc hP1 hD1
  generalize H1 = H at hP hS ⊢
  refine lv_aload_n hx hb dM_print0_4 rfl (lv_at hl 0 rfl) ?_
  refine lv_iload_n hx hb dM_print0_5 rfl (lv_at hl 1 rfl) ?_
  obtain ⟨hPc, hDc, hFc⟩ := xcut (wc := []) hP hD hS hA [] rfl rfl (by decide)
  refine va_calli (va_runV (C := "ValueBenchModel") (As := [.int x1]) (rest := []) ⟨hx, hb, hml, hown, htx⟩ (cM_out_0 l hl9 D cT aK aV H.size a0 x1 h2) ⟨callB_of 1 htx (xw_goodC kw_5_217) rfl rfl rfl (htx _ kw_1_5) (htx _ kw_5_214) ⟨by decide, by decide, by decide +kernel⟩ ⟨Nat.le_of_ble_eq_true rfl, Nat.le_of_ble_eq_true rfl⟩, (htx _ kw_5_216), (htx _ kp_M_out)⟩ ⟨xPre_blind, va_recv hK hP (ci := 5) rfl (q0 := 0) rfl, (fun U hU hW => ⟨rfl, xPre_of hZ hS hFc hPc hDc hK U hU hW⟩)⟩ rfl rfl hl.1 rfl (lv_room (Nat.le_of_ble_eq_true rfl)) dM_print0_6 ⟨Nat.le_of_ble_eq_true rfl, Nat.le_of_ble_eq_true rfl⟩) hS (fun q _ h => hFc q h) hFc (fun r1 u9 t H1 locs ht hvm hr9 hB hz1 hk1 hS => ?_)
  obtain ⟨hP1, hK1, hD1⟩ := hB
  rw [ht] at hP1
  obtain ⟨hP, hD⟩ := xjoin (W := [(a0, .inr (5, [.int 0, v4, .int 0, v6, .int 0, v8, v9, .int 0, v11, .int 0, v13, v14, .int 0, v16, v17, v18, v19, v20, v21, v22, v23, v24, .int 0, .int 1000000000, v27, v28, v29, v30, v31, v32, v33, v34]))]) hP hD [] [0] 1 rfl rfl (by decide) (by decide) hk1 hFc hP1 hD1
  generalize H1 = H at hP hS ⊢
  rw [hr9]
  refine W.eq (g2 := F0 m 9 ls [.int 1]) rfl ?_
  refine lv_if_eq (tgt := 18) hx hb dM_print0_9 (by decide) (fun h => ((by revert h; decide : False)).elim) (fun _ => ?_)
  refine lv_aload_n hx hb dM_print0_12 rfl (lv_at hl 0 rfl) ?_
  refine lv_iconst (v := 1) hx hb dM_print0_13 (by decide) ?_
  obtain ⟨hPc, hDc, hFc⟩ := xcut (wc := [(a0, .inr (5, [.int 0, v4, .int 0, v6, .int 0, v8, v9, .int 0, v11, .int 0, v13, v14, .int 0, v16, v17, v18, v19, v20, v21, v22, v23, v24, .int 0, .int 1000000000, v27, v28, v29, v30, v31, v32, v33, v34]))]) hP hD hS hA [0] rfl rfl (by decide)
  refine va_calli (va_runV (C := "ValueBenchModel") (As := [.int 1]) (rest := []) ⟨hx, hb, hml, hown, htx⟩ (cM_fail_0 l hl9 D cT aK aV H.size a0 (.int 0) v4 (.int 0) v6 (.int 0) v8 v9 (.int 0) v11 (.int 0) v13 v14 (.int 0) v16 v17 v18 v19 v20 v21 v22 v23 v24 (.int 0) (.int 1000000000) v27 v28 v29 v30 v31 v32 v33 v34) ⟨callB_of 1 htx (xw_goodC kw_5_195) rfl rfl rfl (htx _ kw_1_5) (htx _ kw_5_192) ⟨by decide, by decide, by decide +kernel⟩ ⟨Nat.le_of_ble_eq_true rfl, Nat.le_of_ble_eq_true rfl⟩, (htx _ kw_5_194), (htx _ kp_M_fail)⟩ ⟨xPre_blind, va_recv hK hP (ci := 5) rfl (q0 := 0) rfl, (fun U hU hW => ⟨rfl, xPre_of hZ hS hFc hPc hDc hK U hU hW⟩)⟩ rfl rfl hl.1 rfl (lv_room (Nat.le_of_ble_eq_true rfl)) dM_print0_14 ⟨Nat.le_of_ble_eq_true rfl, Nat.le_of_ble_eq_true rfl⟩) hS (fun q _ h => hFc q h) hFc (fun r2 u9 t H1 locs ht hvm hr9 hB hz1 hk1 hS => ?_)
  obtain ⟨hP1, hK1, hD1⟩ := hB
  rw [ht] at hP1
  obtain ⟨hP, hD⟩ := xjoin (W := [(a0, .inr (5, [.int 1, v4, .int 0, v6, .int 0, v8, v9, .int 0, v11, .int 0, v13, v14, .int 0, v16, v17, v18, v19, v20, v21, v22, v23, v24, .int 0, .int 1000000000, v27, v28, v29, v30, v31, v32, v33, v34]))]) hP hD [0] [] 0 rfl rfl (by decide) (by decide) hk1 hFc hP1 hD1
  generalize H1 = H at hP hS ⊢
  rw [hr9]
  refine W.eq (g2 := F0 m 17 ls [.int 0]) rfl ?_
  obtain ⟨hP9, hD9⟩ := xsub (wc := [(a0, .inr (5, [.int 1, v4, .int 0, v6, .int 0, v8, v9, .int 0, v11, .int 0, v13, v14, .int 0, v16, v17, v18, v19, v20, v21, v22, v23, v24, .int 0, .int 1000000000, v27, v28, v29, v30, v31, v32, v33, v34]))]) hP hD [0] rfl rfl (by decide)
  refine W.widen (k := 0) (n := 0) (Nat.le_of_ble_eq_true rfl) (Nat.le_of_ble_eq_true rfl) ?_
  exact W.iret (v := 0) hx hb hr (fun t ht hW => ⟨⟨0, (), rfl, rfl, by rw [ht]; exact hP9, va_K.moved hW.alike hK, hD9⟩, hS.F ht⟩) hS.2.2 dM_print0_17
set_option maxHeartbeats 400000000 in
set_option maxRecDepth 100000 in
theorem cB_print_1 (l : Launch) (hl9 : l.stackTraces = false) (D : va_G) (cT : Nat → ClassId) (aK aV : Nat → Nat) (sz : Nat) (b0 : Nat) (x1 : Int32) (h2 : ¬ x1 < 0) (h3 : 7 < x1) (h4 : ¬ x1 ≤ 7) : xMetX l yB_print wyB_print 7 1 6 120 D cT aK aV sz [.ref b0, .int x1] [] "java/lang/IllegalArgumentException" (fun A t => xB D xcl cT A [] t) := by
  refine vx_ofW (cc := prog_1_method_5_code) (maxL := 2) (ret := (some .int)) (by decide) rfl ?_
  intro p e s m args below meth c s₁ B hml hne hv
  obtain ⟨rfl, hsz, hZ, hP, hK, hD0⟩ := hv
  have hx := B.exec
  have hb := B.bytes
  have hr := B.returns
  have hts := atoms_spec (ws := wyB_print) B.pre
  have htx := fun w h => hts w (List.mem_cons_of_mem _ h)
  have hown : s.vm.findClass "ValueBench" = some m.cls := findClass_of_methodNamed B.named
  have hlocks := B.notSynchronized
  subst hsz
  have hD := hD0.self (sz := s.heap.size)
  generalize hAe : va_A [] s.heap.size = A at hD hZ ⊢
  have hA : ∀ q : Nat, s.heap.size ≤ q → A q := fun q h => by rw [← hAe]; exact Or.inr h
  have hS : va_S A s.heap s.heap [] := va_S.rf
  have hP : va_P D xcl [] s.heap := hP
  have hl := lv_entry ([.ref b0, .int x1]) (n := 2) (Nat.le_of_ble_eq_true rfl)
  rw [lg_entry_eq]
  generalize (lg_sl ([.ref b0, .int x1]) ++ List.replicate (2 - (lg_sl ([.ref b0, .int x1])).length) Slot.unset).toArray = ls at hl ⊢
  have hl : lv_has ls 2 [(0, .ref b0), (1, .int x1)] := hl
  refine lv_iload_n hx hb dB_print_0 rfl (lv_at hl 1 rfl) ?_
  obtain ⟨hPc, hDc, hFc⟩ := xcut (wc := []) hP hD hS hA [] rfl rfl (by decide)
  refine va_calli (va_runS (As := [.int x1]) (rest := []) ⟨hx, hb, hml, hown, htx⟩ (cB_isRegister_1 l hl9 D cT aK aV s.heap.size x1 h2 h3 h4) ⟨callB_of 1 htx (xw_goodC kw_2_18) rfl rfl rfl (htx _ kw_1_1) (htx _ kw_2_16) ⟨by decide, by decide, by decide +kernel⟩ ⟨Nat.le_of_ble_eq_true rfl, Nat.le_of_ble_eq_true rfl⟩, htx _ kw_2_17⟩ ⟨xPre_blind, (fun U hU hW => ⟨rfl, xPre_of hZ hS hFc hPc hDc hK U hU hW⟩)⟩ rfl rfl hl.1 rfl (lv_room (Nat.le_of_ble_eq_true rfl)) dB_print_1 ⟨Nat.le_of_ble_eq_true rfl, Nat.le_of_ble_eq_true rfl⟩) hS (fun q _ h => hFc q h) hFc (fun r1 u9 t H1 locs ht hvm hr9 hB hz1 hk1 hS => ?_)
  obtain ⟨hP1, hK1, hD1⟩ := hB
  rw [ht] at hP1
  obtain ⟨hP, hD⟩ := xjoin (W := []) hP hD [] [] 0 rfl rfl (by decide) (by decide) hk1 hFc hP1 hD1
  generalize H1 = H at hP hS ⊢
  rw [hr9]
  refine W.eq (g2 := F0 m 4 ls [.int 0]) rfl ?_
  obtain ⟨hPc, hDc, hFc⟩ := xcut (wc := []) hP hD hS hA [] rfl rfl (by decide)
  refine xx_thr (vx_runS (As := [.int 0]) (rest := []) ⟨hx, hb, hml, hown, htx⟩ (cB_demand_0 l hl9 D cT aK aV H.size) ⟨callB_of 1 htx (xw_goodC kw_1_221) rfl rfl rfl (htx _ kw_1_1) (htx _ kw_1_219) ⟨by decide, by decide, by decide +kernel⟩ ⟨Nat.le_of_ble_eq_true rfl, Nat.le_of_ble_eq_true rfl⟩, htx _ kw_1_220⟩ ⟨xPre_blind, (fun U hU hW => ⟨rfl, xPre_of hZ hS hFc hPc hDc hK U hU hW⟩)⟩ rfl rfl hl.1 rfl (lv_room (Nat.le_of_ble_eq_true rfl)) dB_print_4 ⟨Nat.le_of_ble_eq_true rfl, Nat.le_of_ble_eq_true rfl⟩) hS hFc (fun q _ h => hFc q h) (fun E ce q9 u9 t H1 locs ht hvm _ hB hz1 hk1 hS hce hcv hcl => ?_)
  obtain ⟨rfl, hP1, hK1, hD1⟩ := hB
  rw [ht] at hP1
  obtain ⟨hP, hD⟩ := xjoin (W := []) hP hD [] [] 0 rfl rfl (by decide) (by decide) hk1 hFc hP1 hD1
  generalize H1 = H at hP hS hce ⊢
  obtain ⟨hP9, hD9⟩ := xsub (wc := []) hP hD [] rfl rfl (by decide)
  exact vx_out (E := "java/lang/IllegalArgumentException") (fun x h => (hne x h).elim) hlocks hce hcv hcl (fun t ht ha => ⟨(), trivial, ⟨rfl, by rw [ht]; exact hP9, va_K.moved ha hK, hD9⟩, hS.F ht⟩) hS.2.2 (Nat.le_of_ble_eq_true rfl) (Nat.le_of_ble_eq_true rfl)
set_option maxHeartbeats 400000000 in
set_option maxRecDepth 100000 in
theorem cL_print_1 (l : Launch) (hl9 : l.stackTraces = false) (D : va_G) (cT : Nat → ClassId) (aK aV : Nat → Nat) (sz : Nat) (a0 : Nat) (x1 : Int32) (b5 : Nat) (v6 : Value) (v7 : Value) (v8 : Value) (v9 : Value) (v10 : Value) (v11 : Value) (v12 : Value) (v13 : Value) (h2 : ¬ x1 < 0) (h3 : 7 < x1) (h4 : ¬ x1 ≤ 7) : xMet l yL_print wyL_print 8 1 6 141 D cT aK aV sz [.ref a0, .int x1, .ref b5] [(a0, .inr (0, [v6, v7, v8, v9, v10, v11, v12, v13]))] (fun A => va_Qi (fun (r : Int32) (_ : Unit) => r = 1) (fun _ t => xB D xcl cT A [(a0, .inr (0, [v6, v7, v8, v9, v10, v11, v12, v13]))] t) A) := by
  refine va_MetW (cc := method_6_code) (maxL := 4) (ret := (some .int)) (hh := [(0, 9, 12, 19)]) (by decide) rfl ?_
  intro p e s m args below meth c s₁ B hml hv
  obtain ⟨rfl, hsz, hZ, hP, hK, hD0⟩ := hv
  have hx := B.exec
  have hb := B.bytes
  have hr := B.returns
  have hts := atoms_spec (ws := wyL_print) B.pre
  have htx := fun w h => hts w (List.mem_cons_of_mem _ h)
  have hown : s.vm.findClass "ValueBenchLaw" = some m.cls := findClass_of_methodNamed B.named
  have hlocks := B.notSynchronized
  subst hsz
  have hD := hD0.self (sz := s.heap.size)
  generalize hAe : va_A [(a0, .inr (0, [v6, v7, v8, v9, v10, v11, v12, v13]))] s.heap.size = A at hD hZ ⊢
  have hA : ∀ q : Nat, s.heap.size ≤ q → A q := fun q h => by rw [← hAe]; exact Or.inr h
  have hS : va_S A s.heap s.heap [] := va_S.rf
  have hP : va_P D xcl [(a0, .inr (0, [v6, v7, v8, v9, v10, v11, v12, v13]))] s.heap := hP
  have hl := lv_entry ([.ref a0, .int x1, .ref b5]) (n := 4) (Nat.le_of_ble_eq_true rfl)
  rw [lg_entry_eq]
  generalize (lg_sl ([.ref a0, .int x1, .ref b5]) ++ List.replicate (4 - (lg_sl ([.ref a0, .int x1, .ref b5])).length) Slot.unset).toArray = ls at hl ⊢
  have hl : lv_has ls 4 [(0, .ref a0), (1, .int x1), (2, .ref b5)] := hl
  have htab := vx_table (x := yL_print) B (hts _ List.mem_cons_self)
  refine lv_aload_n hx hb dL_print_0 rfl (lv_at hl 2 rfl) ?_
  refine lv_iconst (v := 0) hx hb dL_print_1 (by decide) ?_
  refine lv_aload_n hx hb dL_print_2 rfl (lv_at hl 0 rfl) ?_
  refine lv_iload_n hx hb dL_print_3 rfl (lv_at hl 1 rfl) ?_
  obtain ⟨hPc, hDc, hFc⟩ := xcut (wc := []) hP hD hS hA [] rfl rfl (by decide)
  refine xx_thr (vx_runV (C := "ValueBench") (As := [.int x1]) (rest := [.int 0, .ref b5]) ⟨hx, hb, hml, hown, htx⟩ (cB_print_1 l hl9 D cT aK aV s.heap.size a0 x1 h2 h3 h4) ⟨callB_of 1 htx (xw_goodC kw_3_94) rfl rfl rfl (htx _ kw_1_1) (htx _ kw_3_91) ⟨by decide, by decide, by decide +kernel⟩ ⟨Nat.le_of_ble_eq_true rfl, Nat.le_of_ble_eq_true rfl⟩, (htx _ kw_3_92), (htx _ kw_3_93)⟩ ⟨xPre_blind, va_recv hK hP (ci := 0) rfl (q0 := 0) rfl, (fun U hU hW => ⟨rfl, xPre_of hZ hS hFc hPc hDc hK U hU hW⟩)⟩ rfl rfl hl.1 rfl (lv_room (Nat.le_of_ble_eq_true rfl)) dL_print_4 ⟨Nat.le_of_ble_eq_true rfl, Nat.le_of_ble_eq_true rfl⟩) hS hFc (fun q _ h => hFc q h) (fun E ce q9 u9 t H1 locs ht hvm _ hB hz1 hk1 hS hce hcv hcl => ?_)
  obtain ⟨rfl, hP1, hK1, hD1⟩ := hB
  rw [ht] at hP1
  obtain ⟨hP, hD⟩ := xjoin (W := [(a0, .inr (0, [v6, v7, v8, v9, v10, v11, v12, v13]))]) hP hD [] [0] 1 rfl rfl (by decide) (by decide) hk1 hFc hP1 hD1
  generalize H1 = H at hP hS hce ⊢
  refine vx_catch (own := "ValueBenchLaw") (name := "java/lang/IllegalArgumentException") (E := "java/lang/IllegalArgumentException") hown [] ⟨0, 9, 12, 19⟩ [] (by rw [htab]; rfl) (fun z hz => nomatch hz) (by decide) (by decide) (htx _ kw_1_211) ((hZ.2.2.2.2.2.1 "java/lang/IllegalArgumentException" (List.mem_of_getElem? (i := 1) rfl)).use rfl) hce hcv hcl ?_
  refine lv_astore_n (lv' := [(3, .ref q9), (0, .ref a0), (1, .int x1), (2, .ref b5)]) hx hb dL_print_12 rfl hl (by decide) rfl (fun ls hl => ?_)
  refine lv_iconst (v := 1) hx hb dL_print_13 (by decide) ?_
  obtain ⟨hP9, hD9⟩ := xsub (wc := [(a0, .inr (0, [v6, v7, v8, v9, v10, v11, v12, v13]))]) hP hD [0] rfl rfl (by decide)
  refine W.widen (k := 1) (n := 6) (Nat.le_of_ble_eq_true rfl) (Nat.le_of_ble_eq_true rfl) ?_
  exact W.iret (v := 1) hx hb hr (fun t ht hW => ⟨⟨1, (), rfl, rfl, by rw [ht]; exact hP9, va_K.moved hW.alike hK, hD9⟩, hS.F ht⟩) hS.2.2 dL_print_14
set_option maxHeartbeats 400000000 in
set_option maxRecDepth 100000 in
theorem cM_print0_1 (l : Launch) (hl9 : l.stackTraces = false) (D : va_G) (cT : Nat → ClassId) (aK aV : Nat → Nat) (sz : Nat) (a0 : Nat) (x1 : Int32) (v5 : Value) (v6 : Value) (v7 : Value) (v8 : Value) (v9 : Value) (v10 : Value) (v11 : Value) (v12 : Value) (v13 : Value) (v14 : Value) (v15 : Value) (v16 : Value) (v17 : Value) (v18 : Value) (v19 : Value) (v20 : Value) (v21 : Value) (v22 : Value) (v23 : Value) (v24 : Value) (v25 : Value) (v26 : Value) (v27 : Value) (v28 : Value) (v29 : Value) (v30 : Value) (v31 : Value) (v32 : Value) (v33 : Value) (v34 : Value) (v35 : Value) (v36 : Value) (h2 : ¬ x1 < 0) (h3 : 7 < x1) (h4 : ¬ x1 ≤ 7) : xMet l yM_print0 wyM_print0 2 0 0 40 D cT aK aV sz [.ref a0, .int x1] [(a0, .inr (5, [v5, v6, v7, v8, v9, v10, v11, v12, v13, v14, v15, v16, v17, v18, v19, v20, v21, v22, v23, v24, v25, v26, v27, v28, v29, v30, v31, v32, v33, v34, v35, v36]))] (fun A => va_Qi (fun (r : Int32) (_ : Unit) => r = 0) (fun _ t => xB D xcl cT A [(a0, .inr (5, [.int 1, v6, .int 0, v8, .int 0, v10, v11, .int 0, v13, .int 0, v15, v16, .int 0, v18, v19, v20, v21, v22, v23, v24, v25, v26, .int 0, .int 1000000000, v29, v30, v31, v32, v33, v34, v35, v36]))] t) A) := by
  refine Met.ofW (cc := prog_13_method_85_code) (maxL := 3) (ret := (some .int)) (by decide) rfl ?_
  intro p e s m args below meth c s₁ B hml hv
  obtain ⟨rfl, hsz, hZ, hP, hK, hD0⟩ := hv
  have hx := B.exec
  have hb := B.bytes
  have hr := B.returns
  have hts := atoms_spec (ws := wyM_print0) B.pre
  have htx := fun w h => hts w (List.mem_cons_of_mem _ h)
  have hown : s.vm.findClass "ValueBenchModel" = some m.cls := findClass_of_methodNamed B.named
  have hlocks := B.notSynchronized
  subst hsz
  have hD := hD0.self (sz := s.heap.size)
  generalize hAe : va_A [(a0, .inr (5, [v5, v6, v7, v8, v9, v10, v11, v12, v13, v14, v15, v16, v17, v18, v19, v20, v21, v22, v23, v24, v25, v26, v27, v28, v29, v30, v31, v32, v33, v34, v35, v36]))] s.heap.size = A at hD hZ ⊢
  have hA : ∀ q : Nat, s.heap.size ≤ q → A q := fun q h => by rw [← hAe]; exact Or.inr h
  have hS : va_S A s.heap s.heap [] := va_S.rf
  have hP : va_P D xcl [(a0, .inr (5, [v5, v6, v7, v8, v9, v10, v11, v12, v13, v14, v15, v16, v17, v18, v19, v20, v21, v22, v23, v24, v25, v26, v27, v28, v29, v30, v31, v32, v33, v34, v35, v36]))] s.heap := hP
  have hl := lv_entry ([.ref a0, .int x1]) (n := 3) (Nat.le_of_ble_eq_true rfl)
  rw [lg_entry_eq]
  generalize (lg_sl ([.ref a0, .int x1]) ++ List.replicate (3 - (lg_sl ([.ref a0, .int x1])).length) Slot.unset).toArray = ls at hl ⊢
  have hl : lv_has ls 3 [(0, .ref a0), (1, .int x1)] := hl
  refine lv_aload_n hx hb dM_print0_0 rfl (lv_at hl 0 rfl) ?_
  obtain ⟨hPc, hDc, hFc⟩ := xcut (wc := [(a0, .inr (5, [v5, v6, v7, v8, v9, v10, v11, v12, v13, v14, v15, v16, v17, v18, v19, v20, v21, v22, v23, v24, v25, v26, v27, v28, v29, v30, v31, v32, v33, v34, v35, v36]))]) hP hD hS hA [0] rfl rfl (by decide)
  refine va_callv (va_runV (C := "ValueBenchModel") (As := []) (rest := []) ⟨hx, hb, hml, hown, htx⟩ (cM_begin_0 l hl9 D cT aK aV s.heap.size a0 v5 v6 v7 v8 v9 v10 v11 v12 v13 v14 v15 v16 v17 v18 v19 v20 v21 v22 v23 v24 v25 v26 v27 v28 v29 v30 v31 v32 v33 v34 v35 v36) ⟨callB_of 0 htx (xw_goodC kw_5_209) rfl rfl rfl (htx _ kw_1_5) (htx _ kw_5_206) ⟨by decide, by decide, by decide +kernel⟩ ⟨Nat.le_of_ble_eq_true rfl, Nat.le_of_ble_eq_true rfl⟩, (htx _ kw_5_208), (htx _ kp_M_begin)⟩ ⟨xPre_blind, va_recv hK hP (ci := 5) rfl (q0 := 0) rfl, (fun U hU hW => ⟨rfl, xPre_of hZ hS hFc hPc hDc hK U hU hW⟩)⟩ rfl rfl hl.1 rfl (lv_room (Nat.le_of_ble_eq_true rfl)) dM_print0_1 ⟨Nat.le_of_ble_eq_true rfl, Nat.le_of_ble_eq_true rfl⟩) hS (fun q _ h => hFc q h) hFc (fun u9 t H1 locs ht hvm hr9 hB hz1 hk1 hS => ?_)
  obtain ⟨hP1, hK1, hD1⟩ := hB
  rw [ht] at hP1
  obtain ⟨hP, hD⟩ := xjoin (W := [(a0, .inr (5, [.int 0, v6, .int 0, v8, .int 0, v10, v11, .int 0, v13, .int 0, v15, v16, .int 0, v18, v19, v20, v21, v22, v23, v24, v25, v26, .int 0, .int 1000000000, v29, v30, v31, v32, v33, v34, v35, v36]))]) hP hD [0] [] 0 rfl rfl (by decide) (by decide) hk1 hFc hP1 hD1
  generalize H1 = H at hP hS ⊢
  refine lv_aload_n hx hb dM_print0_4 rfl (lv_at hl 0 rfl) ?_
  refine lv_iload_n hx hb dM_print0_5 rfl (lv_at hl 1 rfl) ?_
  obtain ⟨hPc, hDc, hFc⟩ := xcut (wc := []) hP hD hS hA [] rfl rfl (by decide)
  refine va_calli (va_runV (C := "ValueBenchModel") (As := [.int x1]) (rest := []) ⟨hx, hb, hml, hown, htx⟩ (cM_out_1 l hl9 D cT aK aV H.size a0 x1 h2 h3 h4) ⟨callB_of 1 htx (xw_goodC kw_5_217) rfl rfl rfl (htx _ kw_1_5) (htx _ kw_5_214) ⟨by decide, by decide, by decide +kernel⟩ ⟨Nat.le_of_ble_eq_true rfl, Nat.le_of_ble_eq_true rfl⟩, (htx _ kw_5_216), (htx _ kp_M_out)⟩ ⟨xPre_blind, va_recv hK hP (ci := 5) rfl (q0 := 0) rfl, (fun U hU hW => ⟨rfl, xPre_of hZ hS hFc hPc hDc hK U hU hW⟩)⟩ rfl rfl hl.1 rfl (lv_room (Nat.le_of_ble_eq_true rfl)) dM_print0_6 ⟨Nat.le_of_ble_eq_true rfl, Nat.le_of_ble_eq_true rfl⟩) hS (fun q _ h => hFc q h) hFc (fun r1 u9 t H1 locs ht hvm hr9 hB hz1 hk1 hS => ?_)
  obtain ⟨hP1, hK1, hD1⟩ := hB
  rw [ht] at hP1
  obtain ⟨hP, hD⟩ := xjoin (W := [(a0, .inr (5, [.int 0, v6, .int 0, v8, .int 0, v10, v11, .int 0, v13, .int 0, v15, v16, .int 0, v18, v19, v20, v21, v22, v23, v24, v25, v26, .int 0, .int 1000000000, v29, v30, v31, v32, v33, v34, v35, v36]))]) hP hD [] [0] 1 rfl rfl (by decide) (by decide) hk1 hFc hP1 hD1
  generalize H1 = H at hP hS ⊢
  rw [hr9]
  refine W.eq (g2 := F0 m 9 ls [.int 1]) rfl ?_
  refine lv_if_eq (tgt := 18) hx hb dM_print0_9 (by decide) (fun h => ((by revert h; decide : False)).elim) (fun _ => ?_)
  refine lv_aload_n hx hb dM_print0_12 rfl (lv_at hl 0 rfl) ?_
  refine lv_iconst (v := 1) hx hb dM_print0_13 (by decide) ?_
  obtain ⟨hPc, hDc, hFc⟩ := xcut (wc := [(a0, .inr (5, [.int 0, v6, .int 0, v8, .int 0, v10, v11, .int 0, v13, .int 0, v15, v16, .int 0, v18, v19, v20, v21, v22, v23, v24, v25, v26, .int 0, .int 1000000000, v29, v30, v31, v32, v33, v34, v35, v36]))]) hP hD hS hA [0] rfl rfl (by decide)
  refine va_calli (va_runV (C := "ValueBenchModel") (As := [.int 1]) (rest := []) ⟨hx, hb, hml, hown, htx⟩ (cM_fail_0 l hl9 D cT aK aV H.size a0 (.int 0) v6 (.int 0) v8 (.int 0) v10 v11 (.int 0) v13 (.int 0) v15 v16 (.int 0) v18 v19 v20 v21 v22 v23 v24 v25 v26 (.int 0) (.int 1000000000) v29 v30 v31 v32 v33 v34 v35 v36) ⟨callB_of 1 htx (xw_goodC kw_5_195) rfl rfl rfl (htx _ kw_1_5) (htx _ kw_5_192) ⟨by decide, by decide, by decide +kernel⟩ ⟨Nat.le_of_ble_eq_true rfl, Nat.le_of_ble_eq_true rfl⟩, (htx _ kw_5_194), (htx _ kp_M_fail)⟩ ⟨xPre_blind, va_recv hK hP (ci := 5) rfl (q0 := 0) rfl, (fun U hU hW => ⟨rfl, xPre_of hZ hS hFc hPc hDc hK U hU hW⟩)⟩ rfl rfl hl.1 rfl (lv_room (Nat.le_of_ble_eq_true rfl)) dM_print0_14 ⟨Nat.le_of_ble_eq_true rfl, Nat.le_of_ble_eq_true rfl⟩) hS (fun q _ h => hFc q h) hFc (fun r2 u9 t H1 locs ht hvm hr9 hB hz1 hk1 hS => ?_)
  obtain ⟨hP1, hK1, hD1⟩ := hB
  rw [ht] at hP1
  obtain ⟨hP, hD⟩ := xjoin (W := [(a0, .inr (5, [.int 1, v6, .int 0, v8, .int 0, v10, v11, .int 0, v13, .int 0, v15, v16, .int 0, v18, v19, v20, v21, v22, v23, v24, v25, v26, .int 0, .int 1000000000, v29, v30, v31, v32, v33, v34, v35, v36]))]) hP hD [0] [] 0 rfl rfl (by decide) (by decide) hk1 hFc hP1 hD1
  generalize H1 = H at hP hS ⊢
  rw [hr9]
  refine W.eq (g2 := F0 m 17 ls [.int 0]) rfl ?_
  obtain ⟨hP9, hD9⟩ := xsub (wc := [(a0, .inr (5, [.int 1, v6, .int 0, v8, .int 0, v10, v11, .int 0, v13, .int 0, v15, v16, .int 0, v18, v19, v20, v21, v22, v23, v24, v25, v26, .int 0, .int 1000000000, v29, v30, v31, v32, v33, v34, v35, v36]))]) hP hD [0] rfl rfl (by decide)
  refine W.widen (k := 0) (n := 0) (Nat.le_of_ble_eq_true rfl) (Nat.le_of_ble_eq_true rfl) ?_
  exact W.iret (v := 0) hx hb hr (fun t ht hW => ⟨⟨0, (), rfl, rfl, by rw [ht]; exact hP9, va_K.moved hW.alike hK, hD9⟩, hS.F ht⟩) hS.2.2 dM_print0_17
set_option maxHeartbeats 400000000 in
set_option maxRecDepth 100000 in
theorem cR_kind_0 (l : Launch) (hl9 : l.stackTraces = false) (D : va_G) (cT : Nat → ClassId) (aK aV : Nat → Nat) (sz : Nat) (a0 : Nat) (a1 : Nat) (v2 : Value) (f3 : Nat → Int64) (h4 : f3 0 = 0) : xMet l yR_kind wyR_kind 0 0 0 0 D cT aK aV sz [.ref a0, .int 0] [(a0, .inr (2, [.ref a1, .int 1, v2])), (a1, .inl (cT 2, 4096, .inr (.inl f3)))] (fun A => va_Qi (fun (r : Int32) (_ : Unit) => r = 0) (fun _ t => xB D xcl cT A [(a0, .inr (2, [.ref a1, .int 1, v2])), (a1, .inl (cT 2, 4096, .inr (.inl f3)))] t) A) := by
  refine Met.ofW (cc := prog_8_method_6_code) (maxL := 2) (ret := (some .int)) (by decide) rfl ?_
  intro p e s m args below meth c s₁ B hml hv
  obtain ⟨rfl, hsz, hZ, hP, hK, hD0⟩ := hv
  have hx := B.exec
  have hb := B.bytes
  have hr := B.returns
  have hts := atoms_spec (ws := wyR_kind) B.pre
  have htx := fun w h => hts w (List.mem_cons_of_mem _ h)
  have hown : s.vm.findClass "ValueBench$Row" = some m.cls := findClass_of_methodNamed B.named
  have hlocks := B.notSynchronized
  subst hsz
  have hD := hD0.self (sz := s.heap.size)
  generalize hAe : va_A [(a0, .inr (2, [.ref a1, .int 1, v2])), (a1, .inl (cT 2, 4096, .inr (.inl f3)))] s.heap.size = A at hD hZ ⊢
  have hA : ∀ q : Nat, s.heap.size ≤ q → A q := fun q h => by rw [← hAe]; exact Or.inr h
  have hS : va_S A s.heap s.heap [] := va_S.rf
  have hP : va_P D xcl [(a0, .inr (2, [.ref a1, .int 1, v2])), (a1, .inl (cT 2, 4096, .inr (.inl f3)))] s.heap := hP
  have hl := lv_entry ([.ref a0, .int 0]) (n := 2) (Nat.le_of_ble_eq_true rfl)
  rw [lg_entry_eq]
  generalize (lg_sl ([.ref a0, .int 0]) ++ List.replicate (2 - (lg_sl ([.ref a0, .int 0])).length) Slot.unset).toArray = ls at hl ⊢
  have hl : lv_has ls 2 [(0, .ref a0), (1, .int 0)] := hl
  refine lv_iload_n hx hb dR_kind_0 rfl (lv_at hl 1 rfl) ?_
  refine lv_if_lt (tgt := 25) hx hb dR_kind_1 (by decide) (fun h => ((by revert h; decide : False)).elim) (fun _ => ?_)
  refine lv_iload_n hx hb dR_kind_4 rfl (lv_at hl 1 rfl) ?_
  refine lv_aload_n hx hb dR_kind_5 rfl (lv_at hl 0 rfl) ?_
  refine va_get (D := D) (ci := 2) (v := .int 1) (C := "ValueBench$Row") (T := TR) (N := 3) hx hb htx inR hown hK hP 0 rfl rfl 1 (by decide) (htx _ kw_1_85) (fun _ h9 => h9) rfl dR_kind_6 ?_
  refine lv_icmp_ge (tgt := 25) hx hb dR_kind_9 (by decide) (fun h => ((by revert h; decide : False)).elim) (fun _ => ?_)
  refine lv_aload_n hx hb dR_kind_12 rfl (lv_at hl 0 rfl) ?_
  refine va_get (D := D) (ci := 2) (v := .ref a1) (C := "ValueBench$Row") (T := TR) (N := 3) hx hb htx inR hown hK hP 0 rfl rfl 0 (by decide) (htx _ kw_1_84) (fun _ h9 => h9) rfl dR_kind_13 ?_
  refine lv_iload_n hx hb dR_kind_16 rfl (lv_at hl 1 rfl) ?_
  refine va_lald hx hb hK hP 1 2 rfl rfl (show ¬ ((0 : Int32) < 0 ∨ 4096 ≤ (0 : Int32).toNatClampNeg) by decide) dR_kind_17 ?_
  refine W.eq (g2 := F0 m 18 ls [.long (f3 0)]) rfl ?_
  rw [h4]
  refine W.eq (g2 := F0 m 18 ls [.long 0]) rfl ?_
  refine lv_l2i hx hb dR_kind_18 rfl ?_
  refine W.eq (g2 := F0 m 19 ls [.int 0]) rfl ?_
  refine lv_bipush (v := 7) hx hb dR_kind_19 (by decide) ?_
  refine lv_iand hx hb dR_kind_21 ?_
  refine W.eq (g2 := F0 m 22 ls [.int 0]) rfl ?_
  refine lv_goto (tgt := 26) hx hb dR_kind_22 (by decide) ?_
  obtain ⟨hP9, hD9⟩ := xsub (wc := [(a0, .inr (2, [.ref a1, .int 1, v2])), (a1, .inl (cT 2, 4096, .inr (.inl f3)))]) hP hD [0, 1] rfl rfl (by decide)
  refine W.widen (k := 0) (n := 0) (Nat.le_of_ble_eq_true rfl) (Nat.le_of_ble_eq_true rfl) ?_
  exact W.iret (v := 0) hx hb hr (fun t ht hW => ⟨⟨0, (), rfl, rfl, by rw [ht]; exact hP9, va_K.moved hW.alike hK, hD9⟩, hS.F ht⟩) hS.2.2 dR_kind_26
set_option maxHeartbeats 400000000 in
set_option maxRecDepth 100000 in
theorem cJS_coder_0 (l : Launch) (hl9 : l.stackTraces = false) (D : va_G) (cT : Nat → ClassId) (aK aV : Nat → Nat) (sz : Nat) : xMet l yJS_coder wyJS_coder 0 0 0 0 D cT aK aV sz [.ref (aK 10)] [] (fun A => va_Qi (fun (r : Int32) (_ : Unit) => r = 0) (fun _ t => xB D xcl cT A [] t) A) := by
  refine Met.ofW (cc := prog_23_method_152_code) (maxL := 1) (ret := (some .byte)) (by decide) rfl ?_
  intro p e s m args below meth c s₁ B hml hv
  obtain ⟨rfl, hsz, hZ, hP, hK, hD0⟩ := hv
  have hx := B.exec
  have hb := B.bytes
  have hr := B.returns
  have hts := atoms_spec (ws := wyJS_coder) B.pre
  have htx := fun w h => hts w (List.mem_cons_of_mem _ h)
  have hown : s.vm.findClass "java/lang/String" = some m.cls := findClass_of_methodNamed B.named
  have hlocks := B.notSynchronized
  subst hsz
  have hD := hD0.self (sz := s.heap.size)
  generalize hAe : va_A [] s.heap.size = A at hD hZ ⊢
  have hA : ∀ q : Nat, s.heap.size ≤ q → A q := fun q h => by rw [← hAe]; exact Or.inr h
  have hS : va_S A s.heap s.heap [] := va_S.rf
  have hP : va_P D xcl [] s.heap := hP
  have hl := lv_entry ([.ref (aK 10)]) (n := 1) (Nat.le_of_ble_eq_true rfl)
  rw [lg_entry_eq]
  generalize (lg_sl ([.ref (aK 10)]) ++ List.replicate (1 - (lg_sl ([.ref (aK 10)])).length) Slot.unset).toArray = ls at hl ⊢
  have hl : lv_has ls 1 [(0, .ref (aK 10))] := hl
  refine va_gets hx hb hZ.2.2.2.2.2.2.2.2.2.2.1 hS hown (htx _ kw_2_75) (fun _ h9 => h9) dJS_coder_0 ?_
  refine lv_if_eq (tgt := 13) hx hb dJS_coder_3 (by decide) (fun h => ((by revert h; decide : False)).elim) (fun _ => ?_)
  refine lv_aload_n hx hb dJS_coder_6 rfl (lv_at hl 0 rfl) ?_
  refine vk_getf (o := "java/lang/String") (n := "coder") (d := "B") (v := .int 0) hx hb (hZ.2.2.2.2.2.2.2.2.2.1.1 10 (by decide)).2.1 hS hown (htx _ kw_7_133) (fun _ h9 => h9) dJS_coder_7 ?_
  refine lv_goto (tgt := 14) hx hb dJS_coder_10 (by decide) ?_
  obtain ⟨hP9, hD9⟩ := xsub (wc := []) hP hD [] rfl rfl (by decide)
  refine W.widen (k := 0) (n := 0) (Nat.le_of_ble_eq_true rfl) (Nat.le_of_ble_eq_true rfl) ?_
  exact W.zret (v := 0) hx hb hr rfl (fun t ht hW => ⟨⟨0, (), rfl, rfl, by rw [ht]; exact hP9, va_K.moved hW.alike hK, hD9⟩, hS.F ht⟩) hS.2.2 dJS_coder_14
set_option maxHeartbeats 400000000 in
set_option maxRecDepth 100000 in
theorem cJS_length_0 (l : Launch) (hl9 : l.stackTraces = false) (D : va_G) (cT : Nat → ClassId) (aK aV : Nat → Nat) (sz : Nat) : xMet l yJS_length wyJS_length 1 0 0 20 D cT aK aV sz [.ref (aK 10)] [] (fun A => va_Qi (fun (r : Int32) (_ : Unit) => r = 4) (fun _ t => xB D xcl cT A [] t) A) := by
  refine Met.ofW (cc := prog_23_method_54_code) (maxL := 1) (ret := (some .int)) (by decide) rfl ?_
  intro p e s m args below meth c s₁ B hml hv
  obtain ⟨rfl, hsz, hZ, hP, hK, hD0⟩ := hv
  have hx := B.exec
  have hb := B.bytes
  have hr := B.returns
  have hts := atoms_spec (ws := wyJS_length) B.pre
  have htx := fun w h => hts w (List.mem_cons_of_mem _ h)
  have hown : s.vm.findClass "java/lang/String" = some m.cls := findClass_of_methodNamed B.named
  have hlocks := B.notSynchronized
  subst hsz
  have hD := hD0.self (sz := s.heap.size)
  generalize hAe : va_A [] s.heap.size = A at hD hZ ⊢
  have hA : ∀ q : Nat, s.heap.size ≤ q → A q := fun q h => by rw [← hAe]; exact Or.inr h
  have hS : va_S A s.heap s.heap [] := va_S.rf
  have hP : va_P D xcl [] s.heap := hP
  have hl := lv_entry ([.ref (aK 10)]) (n := 1) (Nat.le_of_ble_eq_true rfl)
  rw [lg_entry_eq]
  generalize (lg_sl ([.ref (aK 10)]) ++ List.replicate (1 - (lg_sl ([.ref (aK 10)])).length) Slot.unset).toArray = ls at hl ⊢
  have hl : lv_has ls 1 [(0, .ref (aK 10))] := hl
  refine lv_aload_n hx hb dJS_length_0 rfl (lv_at hl 0 rfl) ?_
  refine vk_getf (o := "java/lang/String") (n := "value") (d := "[B") (v := .ref (aV 10)) hx hb (hZ.2.2.2.2.2.2.2.2.2.1.1 10 (by decide)).2.2.1 hS hown (htx _ kw_7_134) (fun _ h9 => h9) dJS_length_1 ?_
  refine va_tlen (v := 4) hx hb (hZ.2.2.2.2.2.2.2.2.2.1.1 10 (by decide)).2.2.2 hS rfl dJS_length_4 ?_
  refine lv_aload_n hx hb dJS_length_5 rfl (lv_at hl 0 rfl) ?_
  obtain ⟨hPc, hDc, hFc⟩ := xcut (wc := []) hP hD hS hA [] rfl rfl (by decide)
  refine va_calli (va_runV (C := "java/lang/String") (As := []) (rest := [.int 4]) ⟨hx, hb, hml, hown, htx⟩ (cJS_coder_0 l hl9 D cT aK aV s.heap.size) ⟨callB_of 0 htx (xw_goodC kw_2_74) rfl rfl rfl (htx _ kw_1_6) (htx _ kw_2_71) ⟨by decide, by decide, by decide +kernel⟩ ⟨Nat.le_of_ble_eq_true rfl, Nat.le_of_ble_eq_true rfl⟩, (htx _ kw_2_72), (htx _ kw_2_73)⟩ ⟨xPre_blind, vk_recv hZ.2.2.2.2.2.2.2.2.2.1 (i := 10) (by decide) hS, (fun U hU hW => ⟨rfl, xPre_of hZ hS hFc hPc hDc hK U hU hW⟩)⟩ rfl rfl hl.1 rfl (lv_room (Nat.le_of_ble_eq_true rfl)) dJS_length_6 ⟨Nat.le_of_ble_eq_true rfl, Nat.le_of_ble_eq_true rfl⟩) hS (fun q _ h => hFc q h) hFc (fun r1 u9 t H1 locs ht hvm hr9 hB hz1 hk1 hS => ?_)
  obtain ⟨hP1, hK1, hD1⟩ := hB
  rw [ht] at hP1
  obtain ⟨hP, hD⟩ := xjoin (W := []) hP hD [] [] 0 rfl rfl (by decide) (by decide) hk1 hFc hP1 hD1
  generalize H1 = H at hP hS ⊢
  rw [hr9]
  refine W.eq (g2 := F0 m 9 ls [.int 0, .int 4]) rfl ?_
  refine lv_ishr hx hb dJS_length_9 ?_
  refine W.eq (g2 := F0 m 10 ls [.int 4]) rfl ?_
  obtain ⟨hP9, hD9⟩ := xsub (wc := []) hP hD [] rfl rfl (by decide)
  refine W.widen (k := 0) (n := 0) (Nat.le_of_ble_eq_true rfl) (Nat.le_of_ble_eq_true rfl) ?_
  exact W.iret (v := 4) hx hb hr (fun t ht hW => ⟨⟨4, (), rfl, rfl, by rw [ht]; exact hP9, va_K.moved hW.alike hK, hD9⟩, hS.F ht⟩) hS.2.2 dJS_length_10
set_option maxHeartbeats 400000000 in
set_option maxRecDepth 100000 in
theorem cT_addWord_0 (l : Launch) (hl9 : l.stackTraces = false) (D : va_G) (cT : Nat → ClassId) (aK aV : Nat → Nat) (sz : Nat) (a0 : Nat) (a1 : Nat) (v2 : Value) (f3 : Nat → Int32) : xMet l yT_addWord wyT_addWord 4 0 0 85 D cT aK aV sz [.ref a0, .ref (aK 10)] [(a0, .inr (1, [.ref a1, .int 0, v2])), (a1, .inl (cT 0, 4096, .inl f3))] (fun A => va_Qv (fun _ : Unit => True) (fun _ t => ∃ (y3 : Int32) (y6 : Int32) (y9 : Int32) (y12 : Int32), xB D xcl cT A [(a0, .inr (1, [.ref a1, .int 4, v2])), (a1, .inl (cT 0, 4096, .inl (upd (upd (upd (upd f3 0 (vp_nar .byte y3)) 1 (vp_nar .byte y6)) 2 (vp_nar .byte y9)) 3 (vp_nar .byte y12))))] t) A) := by
  refine Met.ofW (cc := prog_11_method_10_code) (maxL := 3) (ret := none) (by decide) rfl ?_
  intro p e s m args below meth c s₁ B hml hv
  obtain ⟨rfl, hsz, hZ, hP, hK, hD0⟩ := hv
  have hx := B.exec
  have hb := B.bytes
  have hr := B.returns
  have hts := atoms_spec (ws := wyT_addWord) B.pre
  have htx := fun w h => hts w (List.mem_cons_of_mem _ h)
  have hown : s.vm.findClass "ValueBench$Text" = some m.cls := findClass_of_methodNamed B.named
  have hlocks := B.notSynchronized
  subst hsz
  have hD := hD0.self (sz := s.heap.size)
  generalize hAe : va_A [(a0, .inr (1, [.ref a1, .int 0, v2])), (a1, .inl (cT 0, 4096, .inl f3))] s.heap.size = A at hD hZ ⊢
  have hA : ∀ q : Nat, s.heap.size ≤ q → A q := fun q h => by rw [← hAe]; exact Or.inr h
  have hS : va_S A s.heap s.heap [] := va_S.rf
  have hP : va_P D xcl [(a0, .inr (1, [.ref a1, .int 0, v2])), (a1, .inl (cT 0, 4096, .inl f3))] s.heap := hP
  have hl := lv_entry ([.ref a0, .ref (aK 10)]) (n := 3) (Nat.le_of_ble_eq_true rfl)
  rw [lg_entry_eq]
  generalize (lg_sl ([.ref a0, .ref (aK 10)]) ++ List.replicate (3 - (lg_sl ([.ref a0, .ref (aK 10)])).length) Slot.unset).toArray = ls at hl ⊢
  have hl : lv_has ls 3 [(0, .ref a0), (1, .ref (aK 10))] := hl
  refine lv_iconst (v := 0) hx hb dT_addWord_0 (by decide) ?_
  refine lv_istore_n (lv' := [(2, .int 0), (0, .ref a0), (1, .ref (aK 10))]) hx hb dT_addWord_1 rfl hl (by decide) rfl (fun ls hl => ?_)
  refine lv_iload_n hx hb dT_addWord_2 rfl (lv_at hl 0 rfl) ?_
  refine lv_aload_n hx hb dT_addWord_3 rfl (lv_at hl 2 rfl) ?_
  obtain ⟨hPc, hDc, hFc⟩ := xcut (wc := []) hP hD hS hA [] rfl rfl (by decide)
  refine va_calli (va_runV (C := "java/lang/String") (As := []) (rest := [.int 0]) ⟨hx, hb, hml, hown, htx⟩ (cJS_length_0 l hl9 D cT aK aV s.heap.size) ⟨callB_of 0 htx (xw_goodC kw_2_70) rfl rfl rfl (htx _ kw_1_6) (htx _ kw_3_30) ⟨by decide, by decide, by decide +kernel⟩ ⟨Nat.le_of_ble_eq_true rfl, Nat.le_of_ble_eq_true rfl⟩, (htx _ kw_2_68), (htx _ kw_2_69)⟩ ⟨xPre_blind, vk_recv hZ.2.2.2.2.2.2.2.2.2.1 (i := 10) (by decide) hS, (fun U hU hW => ⟨rfl, xPre_of hZ hS hFc hPc hDc hK U hU hW⟩)⟩ rfl rfl hl.1 rfl (lv_room (Nat.le_of_ble_eq_true rfl)) dT_addWord_4 ⟨Nat.le_of_ble_eq_true rfl, Nat.le_of_ble_eq_true rfl⟩) hS (fun q _ h => hFc q h) hFc (fun r1 u9 t H1 locs ht hvm hr9 hB hz1 hk1 hS => ?_)
  obtain ⟨hP1, hK1, hD1⟩ := hB
  rw [ht] at hP1
  obtain ⟨hP, hD⟩ := xjoin (W := [(a0, .inr (1, [.ref a1, .int 0, v2])), (a1, .inl (cT 0, 4096, .inl f3))]) hP hD [] [0, 1] 2 rfl rfl (by decide) (by decide) hk1 hFc hP1 hD1
  generalize H1 = H at hP hS ⊢
  rw [hr9]
  refine W.eq (g2 := F0 m 7 ls [.int 4, .int 0]) rfl ?_
  refine lv_icmp_ge (tgt := 25) hx hb dT_addWord_7 (by decide) (fun h => ((by revert h; decide : False)).elim) (fun _ => ?_)
  refine lv_aload_n hx hb dT_addWord_10 rfl (lv_at hl 1 rfl) ?_
  refine lv_aload_n hx hb dT_addWord_11 rfl (lv_at hl 2 rfl) ?_
  refine lv_iload_n hx hb dT_addWord_12 rfl (lv_at hl 0 rfl) ?_
  obtain ⟨hPc, hDc, hFc⟩ := xcut (wc := []) hP hD hS hA [] rfl rfl (by decide)
  refine va_calli (va_runV (C := "java/lang/String") (As := [.int 0]) (rest := [.ref a0]) ⟨hx, hb, hml, hown, htx⟩ (cJS_charAt_0 l hl9 D cT aK aV H.size) ⟨callB_of 1 htx (xw_goodC kw_2_80) rfl rfl rfl (htx _ kw_1_6) (htx _ kw_3_31) ⟨by decide, by decide, by decide +kernel⟩ ⟨Nat.le_of_ble_eq_true rfl, Nat.le_of_ble_eq_true rfl⟩, (htx _ kw_2_78), (htx _ kw_2_79)⟩ ⟨xPre_blind, vk_recv hZ.2.2.2.2.2.2.2.2.2.1 (i := 10) (by decide) hS, (fun U hU hW => ⟨rfl, xPre_of hZ hS hFc hPc hDc hK U hU hW⟩)⟩ rfl rfl hl.1 rfl (lv_room (Nat.le_of_ble_eq_true rfl)) dT_addWord_13 ⟨Nat.le_of_ble_eq_true rfl, Nat.le_of_ble_eq_true rfl⟩) hS (fun q _ h => hFc q h) hFc (fun r2 u9 t H1 locs ht hvm hr9 hB hz1 hk1 hS => ?_)
  obtain ⟨hP1, hK1, hD1⟩ := hB
  rw [ht] at hP1
  obtain ⟨hP, hD⟩ := xjoin (W := [(a0, .inr (1, [.ref a1, .int 0, v2])), (a1, .inl (cT 0, 4096, .inl f3))]) hP hD [] [0, 1] 2 rfl rfl (by decide) (by decide) hk1 hFc hP1 hD1
  generalize H1 = H at hP hS ⊢
  rw [hr9]
  refine W.eq (g2 := F0 m 16 ls [.int 110, .ref a0]) rfl ?_
  obtain ⟨hPc, hDc, hFc⟩ := xcut (wc := [(a0, .inr (1, [.ref a1, .int 0, v2])), (a1, .inl (cT 0, 4096, .inl f3))]) hP hD hS hA [0, 1] rfl rfl (by decide)
  refine va_callv (va_runV (C := "ValueBench$Text") (As := [.int 110]) (rest := []) ⟨hx, hb, hml, hown, htx⟩ (cT_add_0 l hl9 D cT aK aV H.size a0 a1 110 v2 f3) ⟨callB_of 1 htx (xw_goodC kw_1_207) rfl rfl rfl (htx _ kw_1_2) (htx _ kw_1_204) ⟨by decide, by decide, by decide +kernel⟩ ⟨Nat.le_of_ble_eq_true rfl, Nat.le_of_ble_eq_true rfl⟩, (htx _ kw_1_205), (htx _ kw_1_206)⟩ ⟨xPre_blind, va_recv hK hP (ci := 1) rfl (q0 := 0) rfl, (fun U hU hW => ⟨rfl, xPre_of hZ hS hFc hPc hDc hK U hU hW⟩)⟩ rfl rfl hl.1 rfl (lv_room (Nat.le_of_ble_eq_true rfl)) dT_addWord_16 ⟨Nat.le_of_ble_eq_true rfl, Nat.le_of_ble_eq_true rfl⟩) hS (fun q _ h => hFc q h) hFc (fun u9 t H1 locs ht hvm hr9 hB hz1 hk1 hS => ?_)
  obtain ⟨y3, hP1, hK1, hD1⟩ := hB
  rw [ht] at hP1
  obtain ⟨hP, hD⟩ := xjoin (W := [(a0, .inr (1, [.ref a1, .int 1, v2])), (a1, .inl (cT 0, 4096, .inl (upd f3 0 (vp_nar .byte y3))))]) hP hD [0, 1] [] 0 rfl rfl (by decide) (by decide) hk1 hFc hP1 hD1
  generalize H1 = H at hP hS ⊢
  refine lv_iinc (v := 1) (lv' := [(2, .int 1), (0, .ref a0), (1, .ref (aK 10))]) hx hb dT_addWord_19 hl (k := 0) rfl (by decide) (by decide) rfl (fun ls hl => ?_)
  refine lv_goto (tgt := 2) hx hb dT_addWord_22 (by decide) ?_
  refine lv_iload_n hx hb dT_addWord_2 rfl (lv_at hl 0 rfl) ?_
  refine lv_aload_n hx hb dT_addWord_3 rfl (lv_at hl 2 rfl) ?_
  obtain ⟨hPc, hDc, hFc⟩ := xcut (wc := []) hP hD hS hA [] rfl rfl (by decide)
  refine va_calli (va_runV (C := "java/lang/String") (As := []) (rest := [.int 1]) ⟨hx, hb, hml, hown, htx⟩ (cJS_length_0 l hl9 D cT aK aV H.size) ⟨callB_of 0 htx (xw_goodC kw_2_70) rfl rfl rfl (htx _ kw_1_6) (htx _ kw_3_30) ⟨by decide, by decide, by decide +kernel⟩ ⟨Nat.le_of_ble_eq_true rfl, Nat.le_of_ble_eq_true rfl⟩, (htx _ kw_2_68), (htx _ kw_2_69)⟩ ⟨xPre_blind, vk_recv hZ.2.2.2.2.2.2.2.2.2.1 (i := 10) (by decide) hS, (fun U hU hW => ⟨rfl, xPre_of hZ hS hFc hPc hDc hK U hU hW⟩)⟩ rfl rfl hl.1 rfl (lv_room (Nat.le_of_ble_eq_true rfl)) dT_addWord_4 ⟨Nat.le_of_ble_eq_true rfl, Nat.le_of_ble_eq_true rfl⟩) hS (fun q _ h => hFc q h) hFc (fun r4 u9 t H1 locs ht hvm hr9 hB hz1 hk1 hS => ?_)
  obtain ⟨hP1, hK1, hD1⟩ := hB
  rw [ht] at hP1
  obtain ⟨hP, hD⟩ := xjoin (W := [(a0, .inr (1, [.ref a1, .int 1, v2])), (a1, .inl (cT 0, 4096, .inl (upd f3 0 (vp_nar .byte y3))))]) hP hD [] [0, 1] 2 rfl rfl (by decide) (by decide) hk1 hFc hP1 hD1
  generalize H1 = H at hP hS ⊢
  rw [hr9]
  refine W.eq (g2 := F0 m 7 ls [.int 4, .int 1]) rfl ?_
  refine lv_icmp_ge (tgt := 25) hx hb dT_addWord_7 (by decide) (fun h => ((by revert h; decide : False)).elim) (fun _ => ?_)
  refine lv_aload_n hx hb dT_addWord_10 rfl (lv_at hl 1 rfl) ?_
  refine lv_aload_n hx hb dT_addWord_11 rfl (lv_at hl 2 rfl) ?_
  refine lv_iload_n hx hb dT_addWord_12 rfl (lv_at hl 0 rfl) ?_
  obtain ⟨hPc, hDc, hFc⟩ := xcut (wc := []) hP hD hS hA [] rfl rfl (by decide)
  refine va_calli (va_runV (C := "java/lang/String") (As := [.int 1]) (rest := [.ref a0]) ⟨hx, hb, hml, hown, htx⟩ (cJS_charAt_1 l hl9 D cT aK aV H.size) ⟨callB_of 1 htx (xw_goodC kw_2_80) rfl rfl rfl (htx _ kw_1_6) (htx _ kw_3_31) ⟨by decide, by decide, by decide +kernel⟩ ⟨Nat.le_of_ble_eq_true rfl, Nat.le_of_ble_eq_true rfl⟩, (htx _ kw_2_78), (htx _ kw_2_79)⟩ ⟨xPre_blind, vk_recv hZ.2.2.2.2.2.2.2.2.2.1 (i := 10) (by decide) hS, (fun U hU hW => ⟨rfl, xPre_of hZ hS hFc hPc hDc hK U hU hW⟩)⟩ rfl rfl hl.1 rfl (lv_room (Nat.le_of_ble_eq_true rfl)) dT_addWord_13 ⟨Nat.le_of_ble_eq_true rfl, Nat.le_of_ble_eq_true rfl⟩) hS (fun q _ h => hFc q h) hFc (fun r5 u9 t H1 locs ht hvm hr9 hB hz1 hk1 hS => ?_)
  obtain ⟨hP1, hK1, hD1⟩ := hB
  rw [ht] at hP1
  obtain ⟨hP, hD⟩ := xjoin (W := [(a0, .inr (1, [.ref a1, .int 1, v2])), (a1, .inl (cT 0, 4096, .inl (upd f3 0 (vp_nar .byte y3))))]) hP hD [] [0, 1] 2 rfl rfl (by decide) (by decide) hk1 hFc hP1 hD1
  generalize H1 = H at hP hS ⊢
  rw [hr9]
  refine W.eq (g2 := F0 m 16 ls [.int 117, .ref a0]) rfl ?_
  obtain ⟨hPc, hDc, hFc⟩ := xcut (wc := [(a0, .inr (1, [.ref a1, .int 1, v2])), (a1, .inl (cT 0, 4096, .inl (upd f3 0 (vp_nar .byte y3))))]) hP hD hS hA [0, 1] rfl rfl (by decide)
  refine va_callv (va_runV (C := "ValueBench$Text") (As := [.int 117]) (rest := []) ⟨hx, hb, hml, hown, htx⟩ (cT_add_1 l hl9 D cT aK aV H.size a0 a1 117 v2 (upd f3 0 (vp_nar .byte y3))) ⟨callB_of 1 htx (xw_goodC kw_1_207) rfl rfl rfl (htx _ kw_1_2) (htx _ kw_1_204) ⟨by decide, by decide, by decide +kernel⟩ ⟨Nat.le_of_ble_eq_true rfl, Nat.le_of_ble_eq_true rfl⟩, (htx _ kw_1_205), (htx _ kw_1_206)⟩ ⟨xPre_blind, va_recv hK hP (ci := 1) rfl (q0 := 0) rfl, (fun U hU hW => ⟨rfl, xPre_of hZ hS hFc hPc hDc hK U hU hW⟩)⟩ rfl rfl hl.1 rfl (lv_room (Nat.le_of_ble_eq_true rfl)) dT_addWord_16 ⟨Nat.le_of_ble_eq_true rfl, Nat.le_of_ble_eq_true rfl⟩) hS (fun q _ h => hFc q h) hFc (fun u9 t H1 locs ht hvm hr9 hB hz1 hk1 hS => ?_)
  obtain ⟨y6, hP1, hK1, hD1⟩ := hB
  rw [ht] at hP1
  obtain ⟨hP, hD⟩ := xjoin (W := [(a0, .inr (1, [.ref a1, .int 2, v2])), (a1, .inl (cT 0, 4096, .inl (upd (upd f3 0 (vp_nar .byte y3)) 1 (vp_nar .byte y6))))]) hP hD [0, 1] [] 0 rfl rfl (by decide) (by decide) hk1 hFc hP1 hD1
  generalize H1 = H at hP hS ⊢
  refine lv_iinc (v := 2) (lv' := [(2, .int 2), (0, .ref a0), (1, .ref (aK 10))]) hx hb dT_addWord_19 hl (k := 0) rfl (by decide) (by decide) rfl (fun ls hl => ?_)
  refine lv_goto (tgt := 2) hx hb dT_addWord_22 (by decide) ?_
  refine lv_iload_n hx hb dT_addWord_2 rfl (lv_at hl 0 rfl) ?_
  refine lv_aload_n hx hb dT_addWord_3 rfl (lv_at hl 2 rfl) ?_
  obtain ⟨hPc, hDc, hFc⟩ := xcut (wc := []) hP hD hS hA [] rfl rfl (by decide)
  refine va_calli (va_runV (C := "java/lang/String") (As := []) (rest := [.int 2]) ⟨hx, hb, hml, hown, htx⟩ (cJS_length_0 l hl9 D cT aK aV H.size) ⟨callB_of 0 htx (xw_goodC kw_2_70) rfl rfl rfl (htx _ kw_1_6) (htx _ kw_3_30) ⟨by decide, by decide, by decide +kernel⟩ ⟨Nat.le_of_ble_eq_true rfl, Nat.le_of_ble_eq_true rfl⟩, (htx _ kw_2_68), (htx _ kw_2_69)⟩ ⟨xPre_blind, vk_recv hZ.2.2.2.2.2.2.2.2.2.1 (i := 10) (by decide) hS, (fun U hU hW => ⟨rfl, xPre_of hZ hS hFc hPc hDc hK U hU hW⟩)⟩ rfl rfl hl.1 rfl (lv_room (Nat.le_of_ble_eq_true rfl)) dT_addWord_4 ⟨Nat.le_of_ble_eq_true rfl, Nat.le_of_ble_eq_true rfl⟩) hS (fun q _ h => hFc q h) hFc (fun r7 u9 t H1 locs ht hvm hr9 hB hz1 hk1 hS => ?_)
  obtain ⟨hP1, hK1, hD1⟩ := hB
  rw [ht] at hP1
  obtain ⟨hP, hD⟩ := xjoin (W := [(a0, .inr (1, [.ref a1, .int 2, v2])), (a1, .inl (cT 0, 4096, .inl (upd (upd f3 0 (vp_nar .byte y3)) 1 (vp_nar .byte y6))))]) hP hD [] [0, 1] 2 rfl rfl (by decide) (by decide) hk1 hFc hP1 hD1
  generalize H1 = H at hP hS ⊢
  rw [hr9]
  refine W.eq (g2 := F0 m 7 ls [.int 4, .int 2]) rfl ?_
  refine lv_icmp_ge (tgt := 25) hx hb dT_addWord_7 (by decide) (fun h => ((by revert h; decide : False)).elim) (fun _ => ?_)
  refine lv_aload_n hx hb dT_addWord_10 rfl (lv_at hl 1 rfl) ?_
  refine lv_aload_n hx hb dT_addWord_11 rfl (lv_at hl 2 rfl) ?_
  refine lv_iload_n hx hb dT_addWord_12 rfl (lv_at hl 0 rfl) ?_
  obtain ⟨hPc, hDc, hFc⟩ := xcut (wc := []) hP hD hS hA [] rfl rfl (by decide)
  refine va_calli (va_runV (C := "java/lang/String") (As := [.int 2]) (rest := [.ref a0]) ⟨hx, hb, hml, hown, htx⟩ (cJS_charAt_2 l hl9 D cT aK aV H.size) ⟨callB_of 1 htx (xw_goodC kw_2_80) rfl rfl rfl (htx _ kw_1_6) (htx _ kw_3_31) ⟨by decide, by decide, by decide +kernel⟩ ⟨Nat.le_of_ble_eq_true rfl, Nat.le_of_ble_eq_true rfl⟩, (htx _ kw_2_78), (htx _ kw_2_79)⟩ ⟨xPre_blind, vk_recv hZ.2.2.2.2.2.2.2.2.2.1 (i := 10) (by decide) hS, (fun U hU hW => ⟨rfl, xPre_of hZ hS hFc hPc hDc hK U hU hW⟩)⟩ rfl rfl hl.1 rfl (lv_room (Nat.le_of_ble_eq_true rfl)) dT_addWord_13 ⟨Nat.le_of_ble_eq_true rfl, Nat.le_of_ble_eq_true rfl⟩) hS (fun q _ h => hFc q h) hFc (fun r8 u9 t H1 locs ht hvm hr9 hB hz1 hk1 hS => ?_)
  obtain ⟨hP1, hK1, hD1⟩ := hB
  rw [ht] at hP1
  obtain ⟨hP, hD⟩ := xjoin (W := [(a0, .inr (1, [.ref a1, .int 2, v2])), (a1, .inl (cT 0, 4096, .inl (upd (upd f3 0 (vp_nar .byte y3)) 1 (vp_nar .byte y6))))]) hP hD [] [0, 1] 2 rfl rfl (by decide) (by decide) hk1 hFc hP1 hD1
  generalize H1 = H at hP hS ⊢
  rw [hr9]
  refine W.eq (g2 := F0 m 16 ls [.int 108, .ref a0]) rfl ?_
  obtain ⟨hPc, hDc, hFc⟩ := xcut (wc := [(a0, .inr (1, [.ref a1, .int 2, v2])), (a1, .inl (cT 0, 4096, .inl (upd (upd f3 0 (vp_nar .byte y3)) 1 (vp_nar .byte y6))))]) hP hD hS hA [0, 1] rfl rfl (by decide)
  refine va_callv (va_runV (C := "ValueBench$Text") (As := [.int 108]) (rest := []) ⟨hx, hb, hml, hown, htx⟩ (cT_add_2 l hl9 D cT aK aV H.size a0 a1 108 v2 (upd (upd f3 0 (vp_nar .byte y3)) 1 (vp_nar .byte y6))) ⟨callB_of 1 htx (xw_goodC kw_1_207) rfl rfl rfl (htx _ kw_1_2) (htx _ kw_1_204) ⟨by decide, by decide, by decide +kernel⟩ ⟨Nat.le_of_ble_eq_true rfl, Nat.le_of_ble_eq_true rfl⟩, (htx _ kw_1_205), (htx _ kw_1_206)⟩ ⟨xPre_blind, va_recv hK hP (ci := 1) rfl (q0 := 0) rfl, (fun U hU hW => ⟨rfl, xPre_of hZ hS hFc hPc hDc hK U hU hW⟩)⟩ rfl rfl hl.1 rfl (lv_room (Nat.le_of_ble_eq_true rfl)) dT_addWord_16 ⟨Nat.le_of_ble_eq_true rfl, Nat.le_of_ble_eq_true rfl⟩) hS (fun q _ h => hFc q h) hFc (fun u9 t H1 locs ht hvm hr9 hB hz1 hk1 hS => ?_)
  obtain ⟨y9, hP1, hK1, hD1⟩ := hB
  rw [ht] at hP1
  obtain ⟨hP, hD⟩ := xjoin (W := [(a0, .inr (1, [.ref a1, .int 3, v2])), (a1, .inl (cT 0, 4096, .inl (upd (upd (upd f3 0 (vp_nar .byte y3)) 1 (vp_nar .byte y6)) 2 (vp_nar .byte y9))))]) hP hD [0, 1] [] 0 rfl rfl (by decide) (by decide) hk1 hFc hP1 hD1
  generalize H1 = H at hP hS ⊢
  refine lv_iinc (v := 3) (lv' := [(2, .int 3), (0, .ref a0), (1, .ref (aK 10))]) hx hb dT_addWord_19 hl (k := 0) rfl (by decide) (by decide) rfl (fun ls hl => ?_)
  refine lv_goto (tgt := 2) hx hb dT_addWord_22 (by decide) ?_
  refine lv_iload_n hx hb dT_addWord_2 rfl (lv_at hl 0 rfl) ?_
  refine lv_aload_n hx hb dT_addWord_3 rfl (lv_at hl 2 rfl) ?_
  obtain ⟨hPc, hDc, hFc⟩ := xcut (wc := []) hP hD hS hA [] rfl rfl (by decide)
  refine va_calli (va_runV (C := "java/lang/String") (As := []) (rest := [.int 3]) ⟨hx, hb, hml, hown, htx⟩ (cJS_length_0 l hl9 D cT aK aV H.size) ⟨callB_of 0 htx (xw_goodC kw_2_70) rfl rfl rfl (htx _ kw_1_6) (htx _ kw_3_30) ⟨by decide, by decide, by decide +kernel⟩ ⟨Nat.le_of_ble_eq_true rfl, Nat.le_of_ble_eq_true rfl⟩, (htx _ kw_2_68), (htx _ kw_2_69)⟩ ⟨xPre_blind, vk_recv hZ.2.2.2.2.2.2.2.2.2.1 (i := 10) (by decide) hS, (fun U hU hW => ⟨rfl, xPre_of hZ hS hFc hPc hDc hK U hU hW⟩)⟩ rfl rfl hl.1 rfl (lv_room (Nat.le_of_ble_eq_true rfl)) dT_addWord_4 ⟨Nat.le_of_ble_eq_true rfl, Nat.le_of_ble_eq_true rfl⟩) hS (fun q _ h => hFc q h) hFc (fun r10 u9 t H1 locs ht hvm hr9 hB hz1 hk1 hS => ?_)
  obtain ⟨hP1, hK1, hD1⟩ := hB
  rw [ht] at hP1
  obtain ⟨hP, hD⟩ := xjoin (W := [(a0, .inr (1, [.ref a1, .int 3, v2])), (a1, .inl (cT 0, 4096, .inl (upd (upd (upd f3 0 (vp_nar .byte y3)) 1 (vp_nar .byte y6)) 2 (vp_nar .byte y9))))]) hP hD [] [0, 1] 2 rfl rfl (by decide) (by decide) hk1 hFc hP1 hD1
  generalize H1 = H at hP hS ⊢
  rw [hr9]
  refine W.eq (g2 := F0 m 7 ls [.int 4, .int 3]) rfl ?_
  refine lv_icmp_ge (tgt := 25) hx hb dT_addWord_7 (by decide) (fun h => ((by revert h; decide : False)).elim) (fun _ => ?_)
  refine lv_aload_n hx hb dT_addWord_10 rfl (lv_at hl 1 rfl) ?_
  refine lv_aload_n hx hb dT_addWord_11 rfl (lv_at hl 2 rfl) ?_
  refine lv_iload_n hx hb dT_addWord_12 rfl (lv_at hl 0 rfl) ?_
  obtain ⟨hPc, hDc, hFc⟩ := xcut (wc := []) hP hD hS hA [] rfl rfl (by decide)
  refine va_calli (va_runV (C := "java/lang/String") (As := [.int 3]) (rest := [.ref a0]) ⟨hx, hb, hml, hown, htx⟩ (cJS_charAt_3 l hl9 D cT aK aV H.size) ⟨callB_of 1 htx (xw_goodC kw_2_80) rfl rfl rfl (htx _ kw_1_6) (htx _ kw_3_31) ⟨by decide, by decide, by decide +kernel⟩ ⟨Nat.le_of_ble_eq_true rfl, Nat.le_of_ble_eq_true rfl⟩, (htx _ kw_2_78), (htx _ kw_2_79)⟩ ⟨xPre_blind, vk_recv hZ.2.2.2.2.2.2.2.2.2.1 (i := 10) (by decide) hS, (fun U hU hW => ⟨rfl, xPre_of hZ hS hFc hPc hDc hK U hU hW⟩)⟩ rfl rfl hl.1 rfl (lv_room (Nat.le_of_ble_eq_true rfl)) dT_addWord_13 ⟨Nat.le_of_ble_eq_true rfl, Nat.le_of_ble_eq_true rfl⟩) hS (fun q _ h => hFc q h) hFc (fun r11 u9 t H1 locs ht hvm hr9 hB hz1 hk1 hS => ?_)
  obtain ⟨hP1, hK1, hD1⟩ := hB
  rw [ht] at hP1
  obtain ⟨hP, hD⟩ := xjoin (W := [(a0, .inr (1, [.ref a1, .int 3, v2])), (a1, .inl (cT 0, 4096, .inl (upd (upd (upd f3 0 (vp_nar .byte y3)) 1 (vp_nar .byte y6)) 2 (vp_nar .byte y9))))]) hP hD [] [0, 1] 2 rfl rfl (by decide) (by decide) hk1 hFc hP1 hD1
  generalize H1 = H at hP hS ⊢
  rw [hr9]
  refine W.eq (g2 := F0 m 16 ls [.int 108, .ref a0]) rfl ?_
  obtain ⟨hPc, hDc, hFc⟩ := xcut (wc := [(a0, .inr (1, [.ref a1, .int 3, v2])), (a1, .inl (cT 0, 4096, .inl (upd (upd (upd f3 0 (vp_nar .byte y3)) 1 (vp_nar .byte y6)) 2 (vp_nar .byte y9))))]) hP hD hS hA [0, 1] rfl rfl (by decide)
  refine va_callv (va_runV (C := "ValueBench$Text") (As := [.int 108]) (rest := []) ⟨hx, hb, hml, hown, htx⟩ (cT_add_3 l hl9 D cT aK aV H.size a0 a1 108 v2 (upd (upd (upd f3 0 (vp_nar .byte y3)) 1 (vp_nar .byte y6)) 2 (vp_nar .byte y9))) ⟨callB_of 1 htx (xw_goodC kw_1_207) rfl rfl rfl (htx _ kw_1_2) (htx _ kw_1_204) ⟨by decide, by decide, by decide +kernel⟩ ⟨Nat.le_of_ble_eq_true rfl, Nat.le_of_ble_eq_true rfl⟩, (htx _ kw_1_205), (htx _ kw_1_206)⟩ ⟨xPre_blind, va_recv hK hP (ci := 1) rfl (q0 := 0) rfl, (fun U hU hW => ⟨rfl, xPre_of hZ hS hFc hPc hDc hK U hU hW⟩)⟩ rfl rfl hl.1 rfl (lv_room (Nat.le_of_ble_eq_true rfl)) dT_addWord_16 ⟨Nat.le_of_ble_eq_true rfl, Nat.le_of_ble_eq_true rfl⟩) hS (fun q _ h => hFc q h) hFc (fun u9 t H1 locs ht hvm hr9 hB hz1 hk1 hS => ?_)
  obtain ⟨y12, hP1, hK1, hD1⟩ := hB
  rw [ht] at hP1
  obtain ⟨hP, hD⟩ := xjoin (W := [(a0, .inr (1, [.ref a1, .int 4, v2])), (a1, .inl (cT 0, 4096, .inl (upd (upd (upd (upd f3 0 (vp_nar .byte y3)) 1 (vp_nar .byte y6)) 2 (vp_nar .byte y9)) 3 (vp_nar .byte y12))))]) hP hD [0, 1] [] 0 rfl rfl (by decide) (by decide) hk1 hFc hP1 hD1
  generalize H1 = H at hP hS ⊢
  refine lv_iinc (v := 4) (lv' := [(2, .int 4), (0, .ref a0), (1, .ref (aK 10))]) hx hb dT_addWord_19 hl (k := 0) rfl (by decide) (by decide) rfl (fun ls hl => ?_)
  refine lv_goto (tgt := 2) hx hb dT_addWord_22 (by decide) ?_
  refine lv_iload_n hx hb dT_addWord_2 rfl (lv_at hl 0 rfl) ?_
  refine lv_aload_n hx hb dT_addWord_3 rfl (lv_at hl 2 rfl) ?_
  obtain ⟨hPc, hDc, hFc⟩ := xcut (wc := []) hP hD hS hA [] rfl rfl (by decide)
  refine va_calli (va_runV (C := "java/lang/String") (As := []) (rest := [.int 4]) ⟨hx, hb, hml, hown, htx⟩ (cJS_length_0 l hl9 D cT aK aV H.size) ⟨callB_of 0 htx (xw_goodC kw_2_70) rfl rfl rfl (htx _ kw_1_6) (htx _ kw_3_30) ⟨by decide, by decide, by decide +kernel⟩ ⟨Nat.le_of_ble_eq_true rfl, Nat.le_of_ble_eq_true rfl⟩, (htx _ kw_2_68), (htx _ kw_2_69)⟩ ⟨xPre_blind, vk_recv hZ.2.2.2.2.2.2.2.2.2.1 (i := 10) (by decide) hS, (fun U hU hW => ⟨rfl, xPre_of hZ hS hFc hPc hDc hK U hU hW⟩)⟩ rfl rfl hl.1 rfl (lv_room (Nat.le_of_ble_eq_true rfl)) dT_addWord_4 ⟨Nat.le_of_ble_eq_true rfl, Nat.le_of_ble_eq_true rfl⟩) hS (fun q _ h => hFc q h) hFc (fun r13 u9 t H1 locs ht hvm hr9 hB hz1 hk1 hS => ?_)
  obtain ⟨hP1, hK1, hD1⟩ := hB
  rw [ht] at hP1
  obtain ⟨hP, hD⟩ := xjoin (W := [(a0, .inr (1, [.ref a1, .int 4, v2])), (a1, .inl (cT 0, 4096, .inl (upd (upd (upd (upd f3 0 (vp_nar .byte y3)) 1 (vp_nar .byte y6)) 2 (vp_nar .byte y9)) 3 (vp_nar .byte y12))))]) hP hD [] [0, 1] 2 rfl rfl (by decide) (by decide) hk1 hFc hP1 hD1
  generalize H1 = H at hP hS ⊢
  rw [hr9]
  refine W.eq (g2 := F0 m 7 ls [.int 4, .int 4]) rfl ?_
  refine lv_icmp_ge (tgt := 25) hx hb dT_addWord_7 (by decide) (fun _ => ?_) (fun h => ((by revert h; decide : False)).elim)
  obtain ⟨hP9, hD9⟩ := xsub (wc := [(a0, .inr (1, [.ref a1, .int 4, v2])), (a1, .inl (cT 0, 4096, .inl (upd (upd (upd (upd f3 0 (vp_nar .byte y3)) 1 (vp_nar .byte y6)) 2 (vp_nar .byte y9)) 3 (vp_nar .byte y12))))]) hP hD [0, 1] rfl rfl (by decide)
  refine W.widen (k := 0) (n := 0) (Nat.le_of_ble_eq_true rfl) (Nat.le_of_ble_eq_true rfl) ?_
  exact W.vret hx hb hr (fun t ht hW => ⟨⟨(), rfl, trivial, y3, y6, y9, y12, by rw [ht]; exact hP9, va_K.moved hW.alike hK, hD9⟩, hS.F ht⟩) hS.2.2 dT_addWord_25
set_option maxHeartbeats 400000000 in
set_option maxRecDepth 100000 in
theorem cP_write_0 (l : Launch) (hl9 : l.stackTraces = false) (D : va_G) (cT : Nat → ClassId) (aK aV : Nat → Nat) (sz : Nat) (a0 : Nat) (a1 : Nat) (a2 : Nat) (a3 : Nat) (x4 : Int32) (v5 : Value) (f6 : Nat → Int64) (v8 : Value) (f9 : Nat → Int32) (h7 : f6 0 = 0) : xMet l yP_write wyP_write 5 0 0 107 D cT aK aV sz [.ref a0, .int 0, .ref a2, .int x4] [(a0, .inr (2, [.ref a1, .int 1, v5])), (a1, .inl (cT 2, 4096, .inr (.inl f6))), (a2, .inr (1, [.ref a3, .int 0, v8])), (a3, .inl (cT 0, 4096, .inl f9))] (fun A => va_Qv (fun _ : Unit => True) (fun _ t => ∃ (y2 : Int32) (y3 : Int32) (y4 : Int32) (y5 : Int32), xB D xcl cT A [(a0, .inr (2, [.ref a1, .int 1, v5])), (a1, .inl (cT 2, 4096, .inr (.inl f6))), (a2, .inr (1, [.ref a3, .int 4, v8])), (a3, .inl (cT 0, 4096, .inl (upd (upd (upd (upd f9 0 (vp_nar .byte y2)) 1 (vp_nar .byte y3)) 2 (vp_nar .byte y4)) 3 (vp_nar .byte y5))))] t) A) := by
  refine Met.ofW (cc := prog_6_method_2_code) (maxL := 4) (ret := none) (by decide) rfl ?_
  intro p e s m args below meth c s₁ B hml hv
  obtain ⟨rfl, hsz, hZ, hP, hK, hD0⟩ := hv
  have hx := B.exec
  have hb := B.bytes
  have hr := B.returns
  have hts := atoms_spec (ws := wyP_write) B.pre
  have htx := fun w h => hts w (List.mem_cons_of_mem _ h)
  have hown : s.vm.findClass "ValueBench$Printer" = some m.cls := findClass_of_methodNamed B.named
  have hlocks := B.notSynchronized
  subst hsz
  have hD := hD0.self (sz := s.heap.size)
  generalize hAe : va_A [(a0, .inr (2, [.ref a1, .int 1, v5])), (a1, .inl (cT 2, 4096, .inr (.inl f6))), (a2, .inr (1, [.ref a3, .int 0, v8])), (a3, .inl (cT 0, 4096, .inl f9))] s.heap.size = A at hD hZ ⊢
  have hA : ∀ q : Nat, s.heap.size ≤ q → A q := fun q h => by rw [← hAe]; exact Or.inr h
  have hS : va_S A s.heap s.heap [] := va_S.rf
  have hP : va_P D xcl [(a0, .inr (2, [.ref a1, .int 1, v5])), (a1, .inl (cT 2, 4096, .inr (.inl f6))), (a2, .inr (1, [.ref a3, .int 0, v8])), (a3, .inl (cT 0, 4096, .inl f9))] s.heap := hP
  have hl := lv_entry ([.ref a0, .int 0, .ref a2, .int x4]) (n := 4) (Nat.le_of_ble_eq_true rfl)
  rw [lg_entry_eq]
  generalize (lg_sl ([.ref a0, .int 0, .ref a2, .int x4]) ++ List.replicate (4 - (lg_sl ([.ref a0, .int 0, .ref a2, .int x4])).length) Slot.unset).toArray = ls at hl ⊢
  have hl : lv_has ls 4 [(0, .ref a0), (1, .int 0), (2, .ref a2), (3, .int x4)] := hl
  refine lv_aload_n hx hb dP_write_0 rfl (lv_at hl 0 rfl) ?_
  refine lv_iload_n hx hb dP_write_1 rfl (lv_at hl 1 rfl) ?_
  obtain ⟨hPc, hDc, hFc⟩ := xcut (wc := [(a0, .inr (2, [.ref a1, .int 1, v5])), (a1, .inl (cT 2, 4096, .inr (.inl f6)))]) hP hD hS hA [0, 1] rfl rfl (by decide)
  refine va_calli (va_runV (C := "ValueBench$Row") (As := [.int 0]) (rest := []) ⟨hx, hb, hml, hown, htx⟩ (cR_kind_0 l hl9 D cT aK aV s.heap.size a0 a1 v5 f6 (by first | rfl | exact h7)) ⟨callB_of 1 htx (xw_goodC kw_3_24) rfl rfl rfl (htx _ kw_1_4) (htx _ kw_3_21) ⟨by decide, by decide, by decide +kernel⟩ ⟨Nat.le_of_ble_eq_true rfl, Nat.le_of_ble_eq_true rfl⟩, (htx _ kw_3_22), (htx _ kw_3_23)⟩ ⟨xPre_blind, va_recv hK hP (ci := 2) rfl (q0 := 0) rfl, (fun U hU hW => ⟨rfl, xPre_of hZ hS hFc hPc hDc hK U hU hW⟩)⟩ rfl rfl hl.1 rfl (lv_room (Nat.le_of_ble_eq_true rfl)) dP_write_2 ⟨Nat.le_of_ble_eq_true rfl, Nat.le_of_ble_eq_true rfl⟩) hS (fun q _ h => hFc q h) hFc (fun r1 u9 t H1 locs ht hvm hr9 hB hz1 hk1 hS => ?_)
  obtain ⟨hP1, hK1, hD1⟩ := hB
  rw [ht] at hP1
  obtain ⟨hP, hD⟩ := xjoin (W := [(a2, .inr (1, [.ref a3, .int 0, v8])), (a3, .inl (cT 0, 4096, .inl f9)), (a0, .inr (2, [.ref a1, .int 1, v5])), (a1, .inl (cT 2, 4096, .inr (.inl f6)))]) hP hD [0, 1] [2, 3] 2 rfl rfl (by decide) (by decide) hk1 hFc hP1 hD1
  generalize H1 = H at hP hS ⊢
  rw [hr9]
  refine W.eq (g2 := F0 m 5 ls [.int 0]) rfl ?_
  refine lv_tableIn (off := 35) (tgt := 40) hx hb dP_write_5 (by decide) (by decide) (by decide) (by decide) ?_
  refine lv_aload_n hx hb dP_write_40 rfl (lv_at hl 2 rfl) ?_
  refine va_ldcS (q := aK 10) hx hb hown (hZ.2.2.2.2.2.2.2.2.1 ("ValueBench$Printer", 15, "null", 10) (List.mem_of_getElem? (i := 10) rfl)) dP_write_41 ?_
  obtain ⟨hPc, hDc, hFc⟩ := xcut (wc := [(a2, .inr (1, [.ref a3, .int 0, v8])), (a3, .inl (cT 0, 4096, .inl f9))]) hP hD hS hA [0, 1] rfl rfl (by decide)
  refine va_callv (va_runV (C := "ValueBench$Text") (As := [.ref (aK 10)]) (rest := []) ⟨hx, hb, hml, hown, htx⟩ (cT_addWord_0 l hl9 D cT aK aV H.size a2 a3 v8 f9) ⟨callB_of 1 htx (xw_goodC kw_3_29) rfl rfl rfl (htx _ kw_1_2) (htx _ kw_3_26) ⟨by decide, by decide, by decide +kernel⟩ ⟨Nat.le_of_ble_eq_true rfl, Nat.le_of_ble_eq_true rfl⟩, (htx _ kw_3_27), (htx _ kw_3_28)⟩ ⟨xPre_blind, va_recv hK hP (ci := 1) rfl (q0 := 0) rfl, (fun U hU hW => ⟨rfl, xPre_of hZ hS hFc hPc hDc hK U hU hW⟩)⟩ rfl rfl hl.1 rfl (lv_room (Nat.le_of_ble_eq_true rfl)) dP_write_43 ⟨Nat.le_of_ble_eq_true rfl, Nat.le_of_ble_eq_true rfl⟩) hS (fun q _ h => hFc q h) hFc (fun u9 t H1 locs ht hvm hr9 hB hz1 hk1 hS => ?_)
  obtain ⟨y2, y3, y4, y5, hP1, hK1, hD1⟩ := hB
  rw [ht] at hP1
  obtain ⟨hP, hD⟩ := xjoin (W := [(a0, .inr (2, [.ref a1, .int 1, v5])), (a1, .inl (cT 2, 4096, .inr (.inl f6))), (a2, .inr (1, [.ref a3, .int 4, v8])), (a3, .inl (cT 0, 4096, .inl (upd (upd (upd (upd f9 0 (vp_nar .byte y2)) 1 (vp_nar .byte y3)) 2 (vp_nar .byte y4)) 3 (vp_nar .byte y5))))]) hP hD [0, 1] [2, 3] 2 rfl rfl (by decide) (by decide) hk1 hFc hP1 hD1
  generalize H1 = H at hP hS ⊢
  refine lv_goto (tgt := 95) hx hb dP_write_46 (by decide) ?_
  obtain ⟨hP9, hD9⟩ := xsub (wc := [(a0, .inr (2, [.ref a1, .int 1, v5])), (a1, .inl (cT 2, 4096, .inr (.inl f6))), (a2, .inr (1, [.ref a3, .int 4, v8])), (a3, .inl (cT 0, 4096, .inl (upd (upd (upd (upd f9 0 (vp_nar .byte y2)) 1 (vp_nar .byte y3)) 2 (vp_nar .byte y4)) 3 (vp_nar .byte y5))))]) hP hD [0, 1, 2, 3] rfl rfl (by decide)
  refine W.widen (k := 0) (n := 0) (Nat.le_of_ble_eq_true rfl) (Nat.le_of_ble_eq_true rfl) ?_
  exact W.vret hx hb hr (fun t ht hW => ⟨⟨(), rfl, trivial, y2, y3, y4, y5, by rw [ht]; exact hP9, va_K.moved hW.alike hK, hD9⟩, hS.F ht⟩) hS.2.2 dP_write_95
set_option maxHeartbeats 400000000 in
set_option maxRecDepth 100000 in
theorem cT_size_3 (l : Launch) (hl9 : l.stackTraces = false) (D : va_G) (cT : Nat → ClassId) (aK aV : Nat → Nat) (sz : Nat) (a0 : Nat) (v1 : Value) (v2 : Value) : xMet l yT_size wyT_size 0 0 0 0 D cT aK aV sz [.ref a0] [(a0, .inr (1, [v1, .int 4, v2]))] (fun A => va_Qi (fun (r : Int32) (_ : Unit) => r = 4) (fun _ t => xB D xcl cT A [(a0, .inr (1, [v1, .int 4, v2]))] t) A) := by
  refine Met.ofW (cc := prog_11_method_4_code) (maxL := 1) (ret := (some .int)) (by decide) rfl ?_
  intro p e s m args below meth c s₁ B hml hv
  obtain ⟨rfl, hsz, hZ, hP, hK, hD0⟩ := hv
  have hx := B.exec
  have hb := B.bytes
  have hr := B.returns
  have hts := atoms_spec (ws := wyT_size) B.pre
  have htx := fun w h => hts w (List.mem_cons_of_mem _ h)
  have hown : s.vm.findClass "ValueBench$Text" = some m.cls := findClass_of_methodNamed B.named
  have hlocks := B.notSynchronized
  subst hsz
  have hD := hD0.self (sz := s.heap.size)
  generalize hAe : va_A [(a0, .inr (1, [v1, .int 4, v2]))] s.heap.size = A at hD hZ ⊢
  have hA : ∀ q : Nat, s.heap.size ≤ q → A q := fun q h => by rw [← hAe]; exact Or.inr h
  have hS : va_S A s.heap s.heap [] := va_S.rf
  have hP : va_P D xcl [(a0, .inr (1, [v1, .int 4, v2]))] s.heap := hP
  have hl := lv_entry ([.ref a0]) (n := 1) (Nat.le_of_ble_eq_true rfl)
  rw [lg_entry_eq]
  generalize (lg_sl ([.ref a0]) ++ List.replicate (1 - (lg_sl ([.ref a0])).length) Slot.unset).toArray = ls at hl ⊢
  have hl : lv_has ls 1 [(0, .ref a0)] := hl
  refine lv_aload_n hx hb dT_size_0 rfl (lv_at hl 0 rfl) ?_
  refine va_get (D := D) (ci := 1) (v := .int 4) (C := "ValueBench$Text") (T := TT) (N := 3) hx hb htx inT hown hK hP 0 rfl rfl 1 (by decide) (htx _ kw_1_44) (fun _ h9 => h9) rfl dT_size_1 ?_
  obtain ⟨hP9, hD9⟩ := xsub (wc := [(a0, .inr (1, [v1, .int 4, v2]))]) hP hD [0] rfl rfl (by decide)
  refine W.widen (k := 0) (n := 0) (Nat.le_of_ble_eq_true rfl) (Nat.le_of_ble_eq_true rfl) ?_
  exact W.iret (v := 4) hx hb hr (fun t ht hW => ⟨⟨4, (), rfl, rfl, by rw [ht]; exact hP9, va_K.moved hW.alike hK, hD9⟩, hS.F ht⟩) hS.2.2 dT_size_4
set_option maxHeartbeats 400000000 in
set_option maxRecDepth 100000 in
theorem cB_print_2 (l : Launch) (hl9 : l.stackTraces = false) (D : va_G) (cT : Nat → ClassId) (aK aV : Nat → Nat) (sz : Nat) (a0 : Nat) (a1 : Nat) (a2 : Nat) (a3 : Nat) (a4 : Nat) (a5 : Nat) (x6 : Int32) (v11 : Value) (v12 : Value) (v13 : Value) (v14 : Value) (v15 : Value) (v16 : Value) (v17 : Value) (v18 : Value) (f19 : Nat → Option Nat) (v21 : Value) (f22 : Nat → Int64) (f24 : Nat → Int32) (h7 : ¬ x6 < 0) (h8 : ¬ 7 < x6) (h9 : x6 ≤ 7) (h10 : vp_in x6 8) (h20 : f19 x6.toNatClampNeg = some a3) (h23 : f22 0 = 0) : xMet l yB_print wyB_print 6 0 0 130 D cT aK aV sz [.ref a0, .int x6] [(a0, .inr (0, [v11, .ref a1, v12, .ref a2, v13, v14, v15, v16])), (a1, .inr (1, [.ref a5, v17, v18])), (a2, .inl (cT 3, 8, .inr (.inr (.inr (.inr f19))))), (a3, .inr (2, [.ref a4, .int 1, v21])), (a4, .inl (cT 2, 4096, .inr (.inl f22))), (a5, .inl (cT 0, 4096, .inl f24))] (fun A => va_Qi (fun (r : Int32) (_ : Unit) => r = 4) (fun _ t => ∃ (y2 : Int32) (y3 : Int32) (y4 : Int32) (y5 : Int32), xB D xcl cT A [(a0, .inr (0, [v11, .ref a1, v12, .ref a2, v13, v14, v15, v16])), (a1, .inr (1, [.ref a5, .int 4, .int 0])), (a2, .inl (cT 3, 8, .inr (.inr (.inr (.inr f19))))), (a3, .inr (2, [.ref a4, .int 1, v21])), (a4, .inl (cT 2, 4096, .inr (.inl f22))), (a5, .inl (cT 0, 4096, .inl (upd (upd (upd (upd f24 0 (vp_nar .byte y2)) 1 (vp_nar .byte y3)) 2 (vp_nar .byte y4)) 3 (vp_nar .byte y5))))] t) A) := by
  refine Met.ofW (cc := prog_1_method_5_code) (maxL := 2) (ret := (some .int)) (by decide) rfl ?_
  intro p e s m args below meth c s₁ B hml hv
  obtain ⟨rfl, hsz, hZ, hP, hK, hD0⟩ := hv
  have hx := B.exec
  have hb := B.bytes
  have hr := B.returns
  have hts := atoms_spec (ws := wyB_print) B.pre
  have htx := fun w h => hts w (List.mem_cons_of_mem _ h)
  have hown : s.vm.findClass "ValueBench" = some m.cls := findClass_of_methodNamed B.named
  have hlocks := B.notSynchronized
  subst hsz
  have hD := hD0.self (sz := s.heap.size)
  generalize hAe : va_A [(a0, .inr (0, [v11, .ref a1, v12, .ref a2, v13, v14, v15, v16])), (a1, .inr (1, [.ref a5, v17, v18])), (a2, .inl (cT 3, 8, .inr (.inr (.inr (.inr f19))))), (a3, .inr (2, [.ref a4, .int 1, v21])), (a4, .inl (cT 2, 4096, .inr (.inl f22))), (a5, .inl (cT 0, 4096, .inl f24))] s.heap.size = A at hD hZ ⊢
  have hA : ∀ q : Nat, s.heap.size ≤ q → A q := fun q h => by rw [← hAe]; exact Or.inr h
  have hS : va_S A s.heap s.heap [] := va_S.rf
  have hP : va_P D xcl [(a0, .inr (0, [v11, .ref a1, v12, .ref a2, v13, v14, v15, v16])), (a1, .inr (1, [.ref a5, v17, v18])), (a2, .inl (cT 3, 8, .inr (.inr (.inr (.inr f19))))), (a3, .inr (2, [.ref a4, .int 1, v21])), (a4, .inl (cT 2, 4096, .inr (.inl f22))), (a5, .inl (cT 0, 4096, .inl f24))] s.heap := hP
  have hl := lv_entry ([.ref a0, .int x6]) (n := 2) (Nat.le_of_ble_eq_true rfl)
  rw [lg_entry_eq]
  generalize (lg_sl ([.ref a0, .int x6]) ++ List.replicate (2 - (lg_sl ([.ref a0, .int x6])).length) Slot.unset).toArray = ls at hl ⊢
  have hl : lv_has ls 2 [(0, .ref a0), (1, .int x6)] := hl
  refine lv_iload_n hx hb dB_print_0 rfl (lv_at hl 1 rfl) ?_
  obtain ⟨hPc, hDc, hFc⟩ := xcut (wc := []) hP hD hS hA [] rfl rfl (by decide)
  refine va_calli (va_runS (As := [.int x6]) (rest := []) ⟨hx, hb, hml, hown, htx⟩ (cB_isRegister_2 l hl9 D cT aK aV s.heap.size x6 h7 h8 h9 h10) ⟨callB_of 1 htx (xw_goodC kw_2_18) rfl rfl rfl (htx _ kw_1_1) (htx _ kw_2_16) ⟨by decide, by decide, by decide +kernel⟩ ⟨Nat.le_of_ble_eq_true rfl, Nat.le_of_ble_eq_true rfl⟩, htx _ kw_2_17⟩ ⟨xPre_blind, (fun U hU hW => ⟨rfl, xPre_of hZ hS hFc hPc hDc hK U hU hW⟩)⟩ rfl rfl hl.1 rfl (lv_room (Nat.le_of_ble_eq_true rfl)) dB_print_1 ⟨Nat.le_of_ble_eq_true rfl, Nat.le_of_ble_eq_true rfl⟩) hS (fun q _ h => hFc q h) hFc (fun r1 u9 t H1 locs ht hvm hr9 hB hz1 hk1 hS => ?_)
  obtain ⟨hP1, hK1, hD1⟩ := hB
  rw [ht] at hP1
  obtain ⟨hP, hD⟩ := xjoin (W := [(a0, .inr (0, [v11, .ref a1, v12, .ref a2, v13, v14, v15, v16])), (a1, .inr (1, [.ref a5, v17, v18])), (a2, .inl (cT 3, 8, .inr (.inr (.inr (.inr f19))))), (a3, .inr (2, [.ref a4, .int 1, v21])), (a4, .inl (cT 2, 4096, .inr (.inl f22))), (a5, .inl (cT 0, 4096, .inl f24))]) hP hD [] [0, 1, 2, 3, 4, 5] 6 rfl rfl (by decide) (by decide) hk1 hFc hP1 hD1
  generalize H1 = H at hP hS ⊢
  rw [hr9]
  refine W.eq (g2 := F0 m 4 ls [.int 1]) rfl ?_
  obtain ⟨hPc, hDc, hFc⟩ := xcut (wc := []) hP hD hS hA [] rfl rfl (by decide)
  refine va_callv (va_runS (As := [.int 1]) (rest := []) ⟨hx, hb, hml, hown, htx⟩ (cB_demand_1 l hl9 D cT aK aV H.size) ⟨callB_of 1 htx (xw_goodC kw_1_221) rfl rfl rfl (htx _ kw_1_1) (htx _ kw_1_219) ⟨by decide, by decide, by decide +kernel⟩ ⟨Nat.le_of_ble_eq_true rfl, Nat.le_of_ble_eq_true rfl⟩, htx _ kw_1_220⟩ ⟨xPre_blind, (fun U hU hW => ⟨rfl, xPre_of hZ hS hFc hPc hDc hK U hU hW⟩)⟩ rfl rfl hl.1 rfl (lv_room (Nat.le_of_ble_eq_true rfl)) dB_print_4 ⟨Nat.le_of_ble_eq_true rfl, Nat.le_of_ble_eq_true rfl⟩) hS (fun q _ h => hFc q h) hFc (fun u9 t H1 locs ht hvm hr9 hB hz1 hk1 hS => ?_)
  obtain ⟨hP1, hK1, hD1⟩ := hB
  rw [ht] at hP1
  obtain ⟨hP, hD⟩ := xjoin (W := [(a0, .inr (0, [v11, .ref a1, v12, .ref a2, v13, v14, v15, v16])), (a1, .inr (1, [.ref a5, v17, v18])), (a2, .inl (cT 3, 8, .inr (.inr (.inr (.inr f19))))), (a3, .inr (2, [.ref a4, .int 1, v21])), (a4, .inl (cT 2, 4096, .inr (.inl f22))), (a5, .inl (cT 0, 4096, .inl f24))]) hP hD [] [0, 1, 2, 3, 4, 5] 6 rfl rfl (by decide) (by decide) hk1 hFc hP1 hD1
  generalize H1 = H at hP hS ⊢
  refine lv_aload_n hx hb dB_print_7 rfl (lv_at hl 0 rfl) ?_
  refine va_get (D := D) (ci := 0) (v := .ref a1) (C := "ValueBench") (T := TB) (N := 8) hx hb htx inB hown hK hP 0 rfl rfl 1 (by decide) (htx _ kw_1_96) (fun _ h9 => h9) rfl dB_print_8 ?_
  obtain ⟨hPc, hDc, hFc⟩ := xcut (wc := [(a1, .inr (1, [.ref a5, v17, v18]))]) hP hD hS hA [1] rfl rfl (by decide)
  refine va_callv (va_runV (C := "ValueBench$Text") (As := []) (rest := []) ⟨hx, hb, hml, hown, htx⟩ (cT_clear_0 l hl9 D cT aK aV H.size a1 (.ref a5) v17 v18) ⟨callB_of 0 htx (xw_goodC kw_2_237) rfl rfl rfl (htx _ kw_1_2) (htx _ kw_2_234) ⟨by decide, by decide, by decide +kernel⟩ ⟨Nat.le_of_ble_eq_true rfl, Nat.le_of_ble_eq_true rfl⟩, (htx _ kw_2_235), (htx _ kw_2_236)⟩ ⟨xPre_blind, va_recv hK hP (ci := 1) rfl (q0 := 1) rfl, (fun U hU hW => ⟨rfl, xPre_of hZ hS hFc hPc hDc hK U hU hW⟩)⟩ rfl rfl hl.1 rfl (lv_room (Nat.le_of_ble_eq_true rfl)) dB_print_11 ⟨Nat.le_of_ble_eq_true rfl, Nat.le_of_ble_eq_true rfl⟩) hS (fun q _ h => hFc q h) hFc (fun u9 t H1 locs ht hvm hr9 hB hz1 hk1 hS => ?_)
  obtain ⟨hP1, hK1, hD1⟩ := hB
  rw [ht] at hP1
  obtain ⟨hP, hD⟩ := xjoin (W := [(a0, .inr (0, [v11, .ref a1, v12, .ref a2, v13, v14, v15, v16])), (a2, .inl (cT 3, 8, .inr (.inr (.inr (.inr f19))))), (a3, .inr (2, [.ref a4, .int 1, v21])), (a4, .inl (cT 2, 4096, .inr (.inl f22))), (a5, .inl (cT 0, 4096, .inl f24)), (a1, .inr (1, [.ref a5, .int 0, .int 0]))]) hP hD [1] [0, 2, 3, 4, 5] 5 rfl rfl (by decide) (by decide) hk1 hFc hP1 hD1
  generalize H1 = H at hP hS ⊢
  refine lv_aload_n hx hb dB_print_14 rfl (lv_at hl 0 rfl) ?_
  refine va_get (D := D) (ci := 0) (v := .ref a2) (C := "ValueBench") (T := TB) (N := 8) hx hb htx inB hown hK hP 0 rfl rfl 3 (by decide) (htx _ kw_1_98) (fun _ h9 => h9) rfl dB_print_15 ?_
  refine lv_iload_n hx hb dB_print_18 rfl (lv_at hl 1 rfl) ?_
  refine va_aldq hx hb hK hP 1 3 rfl rfl h10 dB_print_19 ?_
  refine W.eq (g2 := F0 m 20 ls [va_rf (f19 x6.toNatClampNeg)]) rfl ?_
  rw [h20]
  refine W.eq (g2 := F0 m 20 ls [.ref a3]) rfl ?_
  refine lv_iconst (v := 0) hx hb dB_print_20 (by decide) ?_
  refine lv_aload_n hx hb dB_print_21 rfl (lv_at hl 0 rfl) ?_
  refine va_get (D := D) (ci := 0) (v := .ref a1) (C := "ValueBench") (T := TB) (N := 8) hx hb htx inB hown hK hP 0 rfl rfl 1 (by decide) (htx _ kw_1_96) (fun _ h9 => h9) rfl dB_print_22 ?_
  refine lv_iconst (v := 0) hx hb dB_print_25 (by decide) ?_
  obtain ⟨hPc, hDc, hFc⟩ := xcut (wc := [(a3, .inr (2, [.ref a4, .int 1, v21])), (a4, .inl (cT 2, 4096, .inr (.inl f22))), (a1, .inr (1, [.ref a5, .int 0, .int 0])), (a5, .inl (cT 0, 4096, .inl f24))]) hP hD hS hA [2, 3, 5, 4] rfl rfl (by decide)
  refine va_callv (va_runS (As := [.ref a3, .int 0, .ref a1, .int 0]) (rest := []) ⟨hx, hb, hml, hown, htx⟩ (cP_write_0 l hl9 D cT aK aV H.size a3 a4 a1 a5 0 v21 f22 (.int 0) f24 (by first | rfl | exact h20 | exact h23)) ⟨callB_of 4 htx (xw_goodC kw_3_20) rfl rfl rfl (htx _ kw_1_18) (htx _ kw_3_18) ⟨by decide, by decide, by decide +kernel⟩ ⟨Nat.le_of_ble_eq_true rfl, Nat.le_of_ble_eq_true rfl⟩, htx _ kw_3_19⟩ ⟨xPre_blind, (fun U hU hW => ⟨rfl, xPre_of hZ hS hFc hPc hDc hK U hU hW⟩)⟩ rfl rfl hl.1 rfl (lv_room (Nat.le_of_ble_eq_true rfl)) dB_print_26 ⟨Nat.le_of_ble_eq_true rfl, Nat.le_of_ble_eq_true rfl⟩) hS (fun q _ h => hFc q h) hFc (fun u9 t H1 locs ht hvm hr9 hB hz1 hk1 hS => ?_)
  obtain ⟨y2, y3, y4, y5, hP1, hK1, hD1⟩ := hB
  rw [ht] at hP1
  obtain ⟨hP, hD⟩ := xjoin (W := [(a0, .inr (0, [v11, .ref a1, v12, .ref a2, v13, v14, v15, v16])), (a2, .inl (cT 3, 8, .inr (.inr (.inr (.inr f19))))), (a3, .inr (2, [.ref a4, .int 1, v21])), (a4, .inl (cT 2, 4096, .inr (.inl f22))), (a1, .inr (1, [.ref a5, .int 4, .int 0])), (a5, .inl (cT 0, 4096, .inl (upd (upd (upd (upd f24 0 (vp_nar .byte y2)) 1 (vp_nar .byte y3)) 2 (vp_nar .byte y4)) 3 (vp_nar .byte y5))))]) hP hD [2, 3, 5, 4] [0, 1] 2 rfl rfl (by decide) (by decide) hk1 hFc hP1 hD1
  generalize H1 = H at hP hS ⊢
  refine lv_aload_n hx hb dB_print_29 rfl (lv_at hl 0 rfl) ?_
  refine va_get (D := D) (ci := 0) (v := .ref a1) (C := "ValueBench") (T := TB) (N := 8) hx hb htx inB hown hK hP 0 rfl rfl 1 (by decide) (htx _ kw_1_96) (fun _ h9 => h9) rfl dB_print_30 ?_
  obtain ⟨hPc, hDc, hFc⟩ := xcut (wc := [(a1, .inr (1, [.ref a5, .int 4, .int 0]))]) hP hD hS hA [4] rfl rfl (by decide)
  refine va_calli (va_runV (C := "ValueBench$Text") (As := []) (rest := []) ⟨hx, hb, hml, hown, htx⟩ (cT_size_3 l hl9 D cT aK aV H.size a1 (.ref a5) (.int 0)) ⟨callB_of 0 htx (xw_goodC kw_1_131) rfl rfl rfl (htx _ kw_1_2) (htx _ kw_1_128) ⟨by decide, by decide, by decide +kernel⟩ ⟨Nat.le_of_ble_eq_true rfl, Nat.le_of_ble_eq_true rfl⟩, (htx _ kw_1_129), (htx _ kw_1_130)⟩ ⟨xPre_blind, va_recv hK hP (ci := 1) rfl (q0 := 4) rfl, (fun U hU hW => ⟨rfl, xPre_of hZ hS hFc hPc hDc hK U hU hW⟩)⟩ rfl rfl hl.1 rfl (lv_room (Nat.le_of_ble_eq_true rfl)) dB_print_33 ⟨Nat.le_of_ble_eq_true rfl, Nat.le_of_ble_eq_true rfl⟩) hS (fun q _ h => hFc q h) hFc (fun r6 u9 t H1 locs ht hvm hr9 hB hz1 hk1 hS => ?_)
  obtain ⟨hP1, hK1, hD1⟩ := hB
  rw [ht] at hP1
  obtain ⟨hP, hD⟩ := xjoin (W := [(a0, .inr (0, [v11, .ref a1, v12, .ref a2, v13, v14, v15, v16])), (a2, .inl (cT 3, 8, .inr (.inr (.inr (.inr f19))))), (a3, .inr (2, [.ref a4, .int 1, v21])), (a4, .inl (cT 2, 4096, .inr (.inl f22))), (a5, .inl (cT 0, 4096, .inl (upd (upd (upd (upd f24 0 (vp_nar .byte y2)) 1 (vp_nar .byte y3)) 2 (vp_nar .byte y4)) 3 (vp_nar .byte y5)))), (a1, .inr (1, [.ref a5, .int 4, .int 0]))]) hP hD [4] [0, 1, 2, 3, 5] 5 rfl rfl (by decide) (by decide) hk1 hFc hP1 hD1
  generalize H1 = H at hP hS ⊢
  rw [hr9]
  refine W.eq (g2 := F0 m 36 ls [.int 4]) rfl ?_
  obtain ⟨hP9, hD9⟩ := xsub (wc := [(a0, .inr (0, [v11, .ref a1, v12, .ref a2, v13, v14, v15, v16])), (a1, .inr (1, [.ref a5, .int 4, .int 0])), (a2, .inl (cT 3, 8, .inr (.inr (.inr (.inr f19))))), (a3, .inr (2, [.ref a4, .int 1, v21])), (a4, .inl (cT 2, 4096, .inr (.inl f22))), (a5, .inl (cT 0, 4096, .inl (upd (upd (upd (upd f24 0 (vp_nar .byte y2)) 1 (vp_nar .byte y3)) 2 (vp_nar .byte y4)) 3 (vp_nar .byte y5))))]) hP hD [0, 5, 1, 2, 3, 4] rfl rfl (by decide)
  refine W.widen (k := 0) (n := 0) (Nat.le_of_ble_eq_true rfl) (Nat.le_of_ble_eq_true rfl) ?_
  exact W.iret (v := 4) hx hb hr (fun t ht hW => ⟨⟨4, (), rfl, rfl, y2, y3, y4, y5, by rw [ht]; exact hP9, va_K.moved hW.alike hK, hD9⟩, hS.F ht⟩) hS.2.2 dB_print_36
set_option maxHeartbeats 400000000 in
set_option maxRecDepth 100000 in
theorem cL_print_2 (l : Launch) (hl9 : l.stackTraces = false) (D : va_G) (cT : Nat → ClassId) (aK aV : Nat → Nat) (sz : Nat) (a0 : Nat) (a1 : Nat) (a2 : Nat) (a3 : Nat) (a4 : Nat) (a5 : Nat) (a6 : Nat) (x7 : Int32) (v12 : Value) (v13 : Value) (v14 : Value) (v15 : Value) (v16 : Value) (v17 : Value) (v18 : Value) (v19 : Value) (f20 : Nat → Option Nat) (v22 : Value) (f23 : Nat → Int64) (f25 : Nat → Int32) (f26 : Nat → Int64) (h8 : ¬ x7 < 0) (h9 : ¬ 7 < x7) (h10 : x7 ≤ 7) (h11 : vp_in x7 8) (h21 : f20 x7.toNatClampNeg = some a3) (h24 : f23 0 = 0) : xMet l yL_print wyL_print 7 0 0 151 D cT aK aV sz [.ref a0, .int x7, .ref a6] [(a0, .inr (0, [v12, .ref a1, v13, .ref a2, v14, v15, v16, v17])), (a1, .inr (1, [.ref a5, v18, v19])), (a2, .inl (cT 3, 8, .inr (.inr (.inr (.inr f20))))), (a3, .inr (2, [.ref a4, .int 1, v22])), (a4, .inl (cT 2, 4096, .inr (.inl f23))), (a5, .inl (cT 0, 4096, .inl f25)), (a6, .inl (cT 2, 1, .inr (.inl f26)))] (fun A => va_Qi (fun (r : Int32) (_ : Unit) => r = 0) (fun _ t => ∃ (y2 : Int32) (y3 : Int32) (y4 : Int32) (y5 : Int32), xB D xcl cT A [(a0, .inr (0, [v12, .ref a1, v13, .ref a2, v14, v15, v16, v17])), (a1, .inr (1, [.ref a5, .int 4, .int 0])), (a2, .inl (cT 3, 8, .inr (.inr (.inr (.inr f20))))), (a3, .inr (2, [.ref a4, .int 1, v22])), (a4, .inl (cT 2, 4096, .inr (.inl f23))), (a5, .inl (cT 0, 4096, .inl (upd (upd (upd (upd f25 0 (vp_nar .byte y2)) 1 (vp_nar .byte y3)) 2 (vp_nar .byte y4)) 3 (vp_nar .byte y5)))), (a6, .inl (cT 2, 1, .inr (.inl (vp_updL f26 0 4))))] t) A) := by
  refine va_MetW (cc := method_6_code) (maxL := 4) (ret := (some .int)) (hh := [(0, 9, 12, 19)]) (by decide) rfl ?_
  intro p e s m args below meth c s₁ B hml hv
  obtain ⟨rfl, hsz, hZ, hP, hK, hD0⟩ := hv
  have hx := B.exec
  have hb := B.bytes
  have hr := B.returns
  have hts := atoms_spec (ws := wyL_print) B.pre
  have htx := fun w h => hts w (List.mem_cons_of_mem _ h)
  have hown : s.vm.findClass "ValueBenchLaw" = some m.cls := findClass_of_methodNamed B.named
  have hlocks := B.notSynchronized
  subst hsz
  have hD := hD0.self (sz := s.heap.size)
  generalize hAe : va_A [(a0, .inr (0, [v12, .ref a1, v13, .ref a2, v14, v15, v16, v17])), (a1, .inr (1, [.ref a5, v18, v19])), (a2, .inl (cT 3, 8, .inr (.inr (.inr (.inr f20))))), (a3, .inr (2, [.ref a4, .int 1, v22])), (a4, .inl (cT 2, 4096, .inr (.inl f23))), (a5, .inl (cT 0, 4096, .inl f25)), (a6, .inl (cT 2, 1, .inr (.inl f26)))] s.heap.size = A at hD hZ ⊢
  have hA : ∀ q : Nat, s.heap.size ≤ q → A q := fun q h => by rw [← hAe]; exact Or.inr h
  have hS : va_S A s.heap s.heap [] := va_S.rf
  have hP : va_P D xcl [(a0, .inr (0, [v12, .ref a1, v13, .ref a2, v14, v15, v16, v17])), (a1, .inr (1, [.ref a5, v18, v19])), (a2, .inl (cT 3, 8, .inr (.inr (.inr (.inr f20))))), (a3, .inr (2, [.ref a4, .int 1, v22])), (a4, .inl (cT 2, 4096, .inr (.inl f23))), (a5, .inl (cT 0, 4096, .inl f25)), (a6, .inl (cT 2, 1, .inr (.inl f26)))] s.heap := hP
  have hl := lv_entry ([.ref a0, .int x7, .ref a6]) (n := 4) (Nat.le_of_ble_eq_true rfl)
  rw [lg_entry_eq]
  generalize (lg_sl ([.ref a0, .int x7, .ref a6]) ++ List.replicate (4 - (lg_sl ([.ref a0, .int x7, .ref a6])).length) Slot.unset).toArray = ls at hl ⊢
  have hl : lv_has ls 4 [(0, .ref a0), (1, .int x7), (2, .ref a6)] := hl
  have htab := vx_table (x := yL_print) B (hts _ List.mem_cons_self)
  refine lv_aload_n hx hb dL_print_0 rfl (lv_at hl 2 rfl) ?_
  refine lv_iconst (v := 0) hx hb dL_print_1 (by decide) ?_
  refine lv_aload_n hx hb dL_print_2 rfl (lv_at hl 0 rfl) ?_
  refine lv_iload_n hx hb dL_print_3 rfl (lv_at hl 1 rfl) ?_
  obtain ⟨hPc, hDc, hFc⟩ := xcut (wc := [(a0, .inr (0, [v12, .ref a1, v13, .ref a2, v14, v15, v16, v17])), (a1, .inr (1, [.ref a5, v18, v19])), (a2, .inl (cT 3, 8, .inr (.inr (.inr (.inr f20))))), (a3, .inr (2, [.ref a4, .int 1, v22])), (a4, .inl (cT 2, 4096, .inr (.inl f23))), (a5, .inl (cT 0, 4096, .inl f25))]) hP hD hS hA [0, 1, 2, 3, 4, 5] rfl rfl (by decide)
  refine va_calli (va_runV (C := "ValueBench") (As := [.int x7]) (rest := [.int 0, .ref a6]) ⟨hx, hb, hml, hown, htx⟩ (cB_print_2 l hl9 D cT aK aV s.heap.size a0 a1 a2 a3 a4 a5 x7 v12 v13 v14 v15 v16 v17 v18 v19 f20 v22 f23 f25 h8 h9 h10 h11 (by first | rfl | exact h21 | exact h24) (by first | rfl | exact h21 | exact h24)) ⟨callB_of 1 htx (xw_goodC kw_3_94) rfl rfl rfl (htx _ kw_1_1) (htx _ kw_3_91) ⟨by decide, by decide, by decide +kernel⟩ ⟨Nat.le_of_ble_eq_true rfl, Nat.le_of_ble_eq_true rfl⟩, (htx _ kw_3_92), (htx _ kw_3_93)⟩ ⟨xPre_blind, va_recv hK hP (ci := 0) rfl (q0 := 0) rfl, (fun U hU hW => ⟨rfl, xPre_of hZ hS hFc hPc hDc hK U hU hW⟩)⟩ rfl rfl hl.1 rfl (lv_room (Nat.le_of_ble_eq_true rfl)) dL_print_4 ⟨Nat.le_of_ble_eq_true rfl, Nat.le_of_ble_eq_true rfl⟩) hS (fun q _ h => hFc q h) hFc (fun r1 u9 t H1 locs ht hvm hr9 hB hz1 hk1 hS => ?_)
  obtain ⟨y2, y3, y4, y5, hP1, hK1, hD1⟩ := hB
  rw [ht] at hP1
  obtain ⟨hP, hD⟩ := xjoin (W := [(a6, .inl (cT 2, 1, .inr (.inl f26))), (a0, .inr (0, [v12, .ref a1, v13, .ref a2, v14, v15, v16, v17])), (a1, .inr (1, [.ref a5, .int 4, .int 0])), (a2, .inl (cT 3, 8, .inr (.inr (.inr (.inr f20))))), (a3, .inr (2, [.ref a4, .int 1, v22])), (a4, .inl (cT 2, 4096, .inr (.inl f23))), (a5, .inl (cT 0, 4096, .inl (upd (upd (upd (upd f25 0 (vp_nar .byte y2)) 1 (vp_nar .byte y3)) 2 (vp_nar .byte y4)) 3 (vp_nar .byte y5))))]) hP hD [0, 1, 2, 3, 4, 5] [6] 1 rfl rfl (by decide) (by decide) hk1 hFc hP1 hD1
  generalize H1 = H at hP hS ⊢
  rw [hr9]
  refine W.eq (g2 := F0 m 7 ls [.int 4, .int 0, .ref a6]) rfl ?_
  refine lv_i2l hx hb dL_print_7 rfl ?_
  refine W.eq (g2 := F0 m 8 ls [.long 4, .int 0, .ref a6]) rfl ?_
  refine va_last hx hb hK hP hD hS 0 2 rfl rfl (show ¬ ((0 : Int32) < 0 ∨ 1 ≤ (0 : Int32).toNatClampNeg) by decide) dL_print_8 (fun H locs hP hD hS => ?_)
  obtain ⟨hP, hD⟩ : xPD D xcl A [(a6, .inl (cT 2, 1, .inr (.inl (vp_updL f26 0 4)))), (a0, .inr (0, [v12, .ref a1, v13, .ref a2, v14, v15, v16, v17])), (a1, .inr (1, [.ref a5, .int 4, .int 0])), (a2, .inl (cT 3, 8, .inr (.inr (.inr (.inr f20))))), (a3, .inr (2, [.ref a4, .int 1, v22])), (a4, .inl (cT 2, 4096, .inr (.inl f23))), (a5, .inl (cT 0, 4096, .inl (upd (upd (upd (upd f25 0 (vp_nar .byte y2)) 1 (vp_nar .byte y3)) 2 (vp_nar .byte y4)) 3 (vp_nar .byte y5))))] H := ⟨hP, hD⟩
  refine lv_goto (tgt := 15) hx hb dL_print_9 (by decide) ?_
  refine lv_iconst (v := 0) hx hb dL_print_15 (by decide) ?_
  obtain ⟨hP9, hD9⟩ := xsub (wc := [(a0, .inr (0, [v12, .ref a1, v13, .ref a2, v14, v15, v16, v17])), (a1, .inr (1, [.ref a5, .int 4, .int 0])), (a2, .inl (cT 3, 8, .inr (.inr (.inr (.inr f20))))), (a3, .inr (2, [.ref a4, .int 1, v22])), (a4, .inl (cT 2, 4096, .inr (.inl f23))), (a5, .inl (cT 0, 4096, .inl (upd (upd (upd (upd f25 0 (vp_nar .byte y2)) 1 (vp_nar .byte y3)) 2 (vp_nar .byte y4)) 3 (vp_nar .byte y5)))), (a6, .inl (cT 2, 1, .inr (.inl (vp_updL f26 0 4))))]) hP hD [1, 2, 3, 4, 5, 6, 0] rfl rfl (by decide)
  refine W.widen (k := 0) (n := 0) (Nat.le_of_ble_eq_true rfl) (Nat.le_of_ble_eq_true rfl) ?_
  exact W.iret (v := 0) hx hb hr (fun t ht hW => ⟨⟨0, (), rfl, rfl, y2, y3, y4, y5, by rw [ht]; exact hP9, va_K.moved hW.alike hK, hD9⟩, hS.F ht⟩) hS.2.2 dL_print_16
set_option maxHeartbeats 400000000 in
set_option maxRecDepth 100000 in
theorem cM_print0_2 (l : Launch) (hl9 : l.stackTraces = false) (D : va_G) (cT : Nat → ClassId) (aK aV : Nat → Nat) (sz : Nat) (a0 : Nat) (a1 : Nat) (a2 : Nat) (a3 : Nat) (a4 : Nat) (x5 : Int32) (v10 : Value) (v11 : Value) (v12 : Value) (v13 : Value) (v14 : Value) (v15 : Value) (v16 : Value) (v17 : Value) (v18 : Value) (v19 : Value) (v20 : Value) (v21 : Value) (v22 : Value) (v23 : Value) (v24 : Value) (v25 : Value) (v26 : Value) (v27 : Value) (v28 : Value) (v29 : Value) (v30 : Value) (v31 : Value) (v32 : Value) (v33 : Value) (v34 : Value) (v35 : Value) (v36 : Value) (v37 : Value) (v38 : Value) (f39 : Nat → Int32) (f41 : Nat → Option Nat) (f43 : Nat → Int32) (f44 : Nat → Int32) (h6 : ¬ x5 < 0) (h7 : ¬ 7 < x5) (h8 : x5 ≤ 7) (h9 : vp_in x5 8) (h40 : f39 x5.toNatClampNeg = 4) (h42 : f41 x5.toNatClampNeg = some a3) : xMet l yM_print0 wyM_print0 2 0 0 40 D cT aK aV sz [.ref a0, .int x5] [(a0, .inr (5, [v10, v11, v12, v13, v14, v15, v16, v17, v18, v19, v20, v21, v22, v23, v24, v25, v26, v27, v28, v29, v30, v31, v32, v33, .ref a2, .ref a1, v34, v35, .ref a4, v36, v37, v38])), (a1, .inl (cT 1, 8, .inl f39)), (a2, .inl (cT 5, 8, .inr (.inr (.inr (.inr f41))))), (a3, .inl (cT 0, 4096, .inl f43)), (a4, .inl (cT 0, 4096, .inl f44))] (fun A => va_Qi (fun (r : Int32) (_ : Unit) => r = 4) (fun _ t => xB D xcl cT A [(a0, .inr (5, [.int 0, v11, .int 0, v13, .int 0, v15, v16, .int 0, v18, .int 0, v20, v21, .int 0, v23, v24, v25, v26, v27, v28, v29, v30, v31, .int 0, .int 1000000000, .ref a2, .ref a1, v34, v35, .ref a4, .int 4, v37, v38])), (a1, .inl (cT 1, 8, .inl f39)), (a2, .inl (cT 5, 8, .inr (.inr (.inr (.inr f41))))), (a3, .inl (cT 0, 4096, .inl f43)), (a4, .inl (cT 0, 4096, .inl (upd (upd (upd (upd f44 0 (vp_nar .byte (f43 0))) 1 (vp_nar .byte (f43 1))) 2 (vp_nar .byte (f43 2))) 3 (vp_nar .byte (f43 3)))))] t) A) := by
  refine Met.ofW (cc := prog_13_method_85_code) (maxL := 3) (ret := (some .int)) (by decide) rfl ?_
  intro p e s m args below meth c s₁ B hml hv
  obtain ⟨rfl, hsz, hZ, hP, hK, hD0⟩ := hv
  have hx := B.exec
  have hb := B.bytes
  have hr := B.returns
  have hts := atoms_spec (ws := wyM_print0) B.pre
  have htx := fun w h => hts w (List.mem_cons_of_mem _ h)
  have hown : s.vm.findClass "ValueBenchModel" = some m.cls := findClass_of_methodNamed B.named
  have hlocks := B.notSynchronized
  subst hsz
  have hD := hD0.self (sz := s.heap.size)
  generalize hAe : va_A [(a0, .inr (5, [v10, v11, v12, v13, v14, v15, v16, v17, v18, v19, v20, v21, v22, v23, v24, v25, v26, v27, v28, v29, v30, v31, v32, v33, .ref a2, .ref a1, v34, v35, .ref a4, v36, v37, v38])), (a1, .inl (cT 1, 8, .inl f39)), (a2, .inl (cT 5, 8, .inr (.inr (.inr (.inr f41))))), (a3, .inl (cT 0, 4096, .inl f43)), (a4, .inl (cT 0, 4096, .inl f44))] s.heap.size = A at hD hZ ⊢
  have hA : ∀ q : Nat, s.heap.size ≤ q → A q := fun q h => by rw [← hAe]; exact Or.inr h
  have hS : va_S A s.heap s.heap [] := va_S.rf
  have hP : va_P D xcl [(a0, .inr (5, [v10, v11, v12, v13, v14, v15, v16, v17, v18, v19, v20, v21, v22, v23, v24, v25, v26, v27, v28, v29, v30, v31, v32, v33, .ref a2, .ref a1, v34, v35, .ref a4, v36, v37, v38])), (a1, .inl (cT 1, 8, .inl f39)), (a2, .inl (cT 5, 8, .inr (.inr (.inr (.inr f41))))), (a3, .inl (cT 0, 4096, .inl f43)), (a4, .inl (cT 0, 4096, .inl f44))] s.heap := hP
  have hl := lv_entry ([.ref a0, .int x5]) (n := 3) (Nat.le_of_ble_eq_true rfl)
  rw [lg_entry_eq]
  generalize (lg_sl ([.ref a0, .int x5]) ++ List.replicate (3 - (lg_sl ([.ref a0, .int x5])).length) Slot.unset).toArray = ls at hl ⊢
  have hl : lv_has ls 3 [(0, .ref a0), (1, .int x5)] := hl
  refine lv_aload_n hx hb dM_print0_0 rfl (lv_at hl 0 rfl) ?_
  obtain ⟨hPc, hDc, hFc⟩ := xcut (wc := [(a0, .inr (5, [v10, v11, v12, v13, v14, v15, v16, v17, v18, v19, v20, v21, v22, v23, v24, v25, v26, v27, v28, v29, v30, v31, v32, v33, .ref a2, .ref a1, v34, v35, .ref a4, v36, v37, v38]))]) hP hD hS hA [0] rfl rfl (by decide)
  refine va_callv (va_runV (C := "ValueBenchModel") (As := []) (rest := []) ⟨hx, hb, hml, hown, htx⟩ (cM_begin_0 l hl9 D cT aK aV s.heap.size a0 v10 v11 v12 v13 v14 v15 v16 v17 v18 v19 v20 v21 v22 v23 v24 v25 v26 v27 v28 v29 v30 v31 v32 v33 (.ref a2) (.ref a1) v34 v35 (.ref a4) v36 v37 v38) ⟨callB_of 0 htx (xw_goodC kw_5_209) rfl rfl rfl (htx _ kw_1_5) (htx _ kw_5_206) ⟨by decide, by decide, by decide +kernel⟩ ⟨Nat.le_of_ble_eq_true rfl, Nat.le_of_ble_eq_true rfl⟩, (htx _ kw_5_208), (htx _ kp_M_begin)⟩ ⟨xPre_blind, va_recv hK hP (ci := 5) rfl (q0 := 0) rfl, (fun U hU hW => ⟨rfl, xPre_of hZ hS hFc hPc hDc hK U hU hW⟩)⟩ rfl rfl hl.1 rfl (lv_room (Nat.le_of_ble_eq_true rfl)) dM_print0_1 ⟨Nat.le_of_ble_eq_true rfl, Nat.le_of_ble_eq_true rfl⟩) hS (fun q _ h => hFc q h) hFc (fun u9 t H1 locs ht hvm hr9 hB hz1 hk1 hS => ?_)
  obtain ⟨hP1, hK1, hD1⟩ := hB
  rw [ht] at hP1
  obtain ⟨hP, hD⟩ := xjoin (W := [(a1, .inl (cT 1, 8, .inl f39)), (a2, .inl (cT 5, 8, .inr (.inr (.inr (.inr f41))))), (a3, .inl (cT 0, 4096, .inl f43)), (a4, .inl (cT 0, 4096, .inl f44)), (a0, .inr (5, [.int 0, v11, .int 0, v13, .int 0, v15, v16, .int 0, v18, .int 0, v20, v21, .int 0, v23, v24, v25, v26, v27, v28, v29, v30, v31, .int 0, .int 1000000000, .ref a2, .ref a1, v34, v35, .ref a4, v36, v37, v38]))]) hP hD [0] [1, 2, 3, 4] 4 rfl rfl (by decide) (by decide) hk1 hFc hP1 hD1
  generalize H1 = H at hP hS ⊢
  refine lv_aload_n hx hb dM_print0_4 rfl (lv_at hl 0 rfl) ?_
  refine lv_iload_n hx hb dM_print0_5 rfl (lv_at hl 1 rfl) ?_
  obtain ⟨hPc, hDc, hFc⟩ := xcut (wc := []) hP hD hS hA [] rfl rfl (by decide)
  refine va_calli (va_runV (C := "ValueBenchModel") (As := [.int x5]) (rest := []) ⟨hx, hb, hml, hown, htx⟩ (cM_out_2 l hl9 D cT aK aV H.size a0 x5 h6 h7 h8 h9) ⟨callB_of 1 htx (xw_goodC kw_5_217) rfl rfl rfl (htx _ kw_1_5) (htx _ kw_5_214) ⟨by decide, by decide, by decide +kernel⟩ ⟨Nat.le_of_ble_eq_true rfl, Nat.le_of_ble_eq_true rfl⟩, (htx _ kw_5_216), (htx _ kp_M_out)⟩ ⟨xPre_blind, va_recv hK hP (ci := 5) rfl (q0 := 4) rfl, (fun U hU hW => ⟨rfl, xPre_of hZ hS hFc hPc hDc hK U hU hW⟩)⟩ rfl rfl hl.1 rfl (lv_room (Nat.le_of_ble_eq_true rfl)) dM_print0_6 ⟨Nat.le_of_ble_eq_true rfl, Nat.le_of_ble_eq_true rfl⟩) hS (fun q _ h => hFc q h) hFc (fun r1 u9 t H1 locs ht hvm hr9 hB hz1 hk1 hS => ?_)
  obtain ⟨hP1, hK1, hD1⟩ := hB
  rw [ht] at hP1
  obtain ⟨hP, hD⟩ := xjoin (W := [(a1, .inl (cT 1, 8, .inl f39)), (a2, .inl (cT 5, 8, .inr (.inr (.inr (.inr f41))))), (a3, .inl (cT 0, 4096, .inl f43)), (a4, .inl (cT 0, 4096, .inl f44)), (a0, .inr (5, [.int 0, v11, .int 0, v13, .int 0, v15, v16, .int 0, v18, .int 0, v20, v21, .int 0, v23, v24, v25, v26, v27, v28, v29, v30, v31, .int 0, .int 1000000000, .ref a2, .ref a1, v34, v35, .ref a4, v36, v37, v38]))]) hP hD [] [0, 1, 2, 3, 4] 5 rfl rfl (by decide) (by decide) hk1 hFc hP1 hD1
  generalize H1 = H at hP hS ⊢
  rw [hr9]
  refine W.eq (g2 := F0 m 9 ls [.int 0]) rfl ?_
  refine lv_if_eq (tgt := 18) hx hb dM_print0_9 (by decide) (fun _ => ?_) (fun h => ((by revert h; decide : False)).elim)
  refine lv_aload_n hx hb dM_print0_18 rfl (lv_at hl 0 rfl) ?_
  refine lv_aload_n hx hb dM_print0_19 rfl (lv_at hl 0 rfl) ?_
  refine va_get (D := D) (ci := 5) (v := .ref a1) (C := "ValueBenchModel") (T := TM) (N := 32) hx hb htx inM hown hK hP 4 rfl rfl 25 (by decide) (htx _ kw_5_112) (fun _ h9 => h9) rfl dM_print0_20 ?_
  refine lv_iload_n hx hb dM_print0_23 rfl (lv_at hl 1 rfl) ?_
  refine va_iald hx hb hK hP 0 1 rfl rfl h9 dM_print0_24 ?_
  refine W.eq (g2 := F0 m 25 ls [.int (f39 x5.toNatClampNeg), .ref a0]) rfl ?_
  rw [h40]
  refine W.eq (g2 := F0 m 25 ls [.int 4, .ref a0]) rfl ?_
  refine va_put (D := D) (ci := 5) (v := .int 4) (ty := .int) (C := "ValueBenchModel") (T := TM) (N := 32) hx hb htx inM tyM tyM_ok nmM hown hK hP hD hS 4 rfl rfl 29 (by decide) (htx _ kw_5_116) (fun _ h9 => h9) rfl (by decide +kernel) rfl rfl (Nat.le_of_ble_eq_true rfl) dM_print0_25 (fun H locs hP hD hS => ?_)
  obtain ⟨hP, hD⟩ : xPD D xcl A [(a1, .inl (cT 1, 8, .inl f39)), (a2, .inl (cT 5, 8, .inr (.inr (.inr (.inr f41))))), (a3, .inl (cT 0, 4096, .inl f43)), (a4, .inl (cT 0, 4096, .inl f44)), (a0, .inr (5, [.int 0, v11, .int 0, v13, .int 0, v15, v16, .int 0, v18, .int 0, v20, v21, .int 0, v23, v24, v25, v26, v27, v28, v29, v30, v31, .int 0, .int 1000000000, .ref a2, .ref a1, v34, v35, .ref a4, .int 4, v37, v38]))] H := ⟨hP, hD⟩
  refine lv_iconst (v := 0) hx hb dM_print0_28 (by decide) ?_
  refine lv_istore_n (lv' := [(2, .int 0), (0, .ref a0), (1, .int x5)]) hx hb dM_print0_29 rfl hl (by decide) rfl (fun ls hl => ?_)
  refine lv_iload_n hx hb dM_print0_30 rfl (lv_at hl 0 rfl) ?_
  refine lv_aload_n hx hb dM_print0_31 rfl (lv_at hl 1 rfl) ?_
  refine va_get (D := D) (ci := 5) (v := .int 4) (C := "ValueBenchModel") (T := TM) (N := 32) hx hb htx inM hown hK hP 4 rfl rfl 29 (by decide) (htx _ kw_5_116) (fun _ h9 => h9) rfl dM_print0_32 ?_
  refine lv_icmp_ge (tgt := 58) hx hb dM_print0_35 (by decide) (fun h => ((by revert h; decide : False)).elim) (fun _ => ?_)
  refine lv_aload_n hx hb dM_print0_38 rfl (lv_at hl 1 rfl) ?_
  refine va_get (D := D) (ci := 5) (v := .ref a4) (C := "ValueBenchModel") (T := TM) (N := 32) hx hb htx inM hown hK hP 4 rfl rfl 28 (by decide) (htx _ kw_5_115) (fun _ h9 => h9) rfl dM_print0_39 ?_
  refine lv_iload_n hx hb dM_print0_42 rfl (lv_at hl 0 rfl) ?_
  refine lv_aload_n hx hb dM_print0_43 rfl (lv_at hl 1 rfl) ?_
  refine va_get (D := D) (ci := 5) (v := .ref a2) (C := "ValueBenchModel") (T := TM) (N := 32) hx hb htx inM hown hK hP 4 rfl rfl 24 (by decide) (htx _ kw_5_111) (fun _ h9 => h9) rfl dM_print0_44 ?_
  refine lv_iload_n hx hb dM_print0_47 rfl (lv_at hl 2 rfl) ?_
  refine xx_aldA hx hb hK hP 1 5 rfl rfl h9 dM_print0_48 ?_
  refine W.eq (g2 := F0 m 49 ls [va_rf (f41 x5.toNatClampNeg), .int 0, .ref a4]) rfl ?_
  rw [h42]
  refine W.eq (g2 := F0 m 49 ls [.ref a3, .int 0, .ref a4]) rfl ?_
  refine lv_iload_n hx hb dM_print0_49 rfl (lv_at hl 0 rfl) ?_
  refine va_bald hx hb hK hP 2 0 rfl rfl (show ¬ ((0 : Int32) < 0 ∨ 4096 ≤ (0 : Int32).toNatClampNeg) by decide) dM_print0_50 ?_
  refine W.eq (g2 := F0 m 51 ls [.int (f43 0), .int 0, .ref a4]) rfl ?_
  refine va_bast hx hb hK hP hD hS 3 0 rfl rfl (show ¬ ((0 : Int32) < 0 ∨ 4096 ≤ (0 : Int32).toNatClampNeg) by decide) dM_print0_51 (fun H locs hP hD hS => ?_)
  obtain ⟨hP, hD⟩ : xPD D xcl A [(a1, .inl (cT 1, 8, .inl f39)), (a2, .inl (cT 5, 8, .inr (.inr (.inr (.inr f41))))), (a3, .inl (cT 0, 4096, .inl f43)), (a4, .inl (cT 0, 4096, .inl (upd f44 0 (vp_nar .byte (f43 0))))), (a0, .inr (5, [.int 0, v11, .int 0, v13, .int 0, v15, v16, .int 0, v18, .int 0, v20, v21, .int 0, v23, v24, v25, v26, v27, v28, v29, v30, v31, .int 0, .int 1000000000, .ref a2, .ref a1, v34, v35, .ref a4, .int 4, v37, v38]))] H := ⟨hP, hD⟩
  refine lv_iinc (v := 1) (lv' := [(2, .int 1), (0, .ref a0), (1, .int x5)]) hx hb dM_print0_52 hl (k := 0) rfl (by decide) (by decide) rfl (fun ls hl => ?_)
  refine lv_goto (tgt := 30) hx hb dM_print0_55 (by decide) ?_
  refine lv_iload_n hx hb dM_print0_30 rfl (lv_at hl 0 rfl) ?_
  refine lv_aload_n hx hb dM_print0_31 rfl (lv_at hl 1 rfl) ?_
  refine va_get (D := D) (ci := 5) (v := .int 4) (C := "ValueBenchModel") (T := TM) (N := 32) hx hb htx inM hown hK hP 4 rfl rfl 29 (by decide) (htx _ kw_5_116) (fun _ h9 => h9) rfl dM_print0_32 ?_
  refine lv_icmp_ge (tgt := 58) hx hb dM_print0_35 (by decide) (fun h => ((by revert h; decide : False)).elim) (fun _ => ?_)
  refine lv_aload_n hx hb dM_print0_38 rfl (lv_at hl 1 rfl) ?_
  refine va_get (D := D) (ci := 5) (v := .ref a4) (C := "ValueBenchModel") (T := TM) (N := 32) hx hb htx inM hown hK hP 4 rfl rfl 28 (by decide) (htx _ kw_5_115) (fun _ h9 => h9) rfl dM_print0_39 ?_
  refine lv_iload_n hx hb dM_print0_42 rfl (lv_at hl 0 rfl) ?_
  refine lv_aload_n hx hb dM_print0_43 rfl (lv_at hl 1 rfl) ?_
  refine va_get (D := D) (ci := 5) (v := .ref a2) (C := "ValueBenchModel") (T := TM) (N := 32) hx hb htx inM hown hK hP 4 rfl rfl 24 (by decide) (htx _ kw_5_111) (fun _ h9 => h9) rfl dM_print0_44 ?_
  refine lv_iload_n hx hb dM_print0_47 rfl (lv_at hl 2 rfl) ?_
  refine xx_aldA hx hb hK hP 1 5 rfl rfl h9 dM_print0_48 ?_
  refine W.eq (g2 := F0 m 49 ls [va_rf (f41 x5.toNatClampNeg), .int 1, .ref a4]) rfl ?_
  rw [h42]
  refine W.eq (g2 := F0 m 49 ls [.ref a3, .int 1, .ref a4]) rfl ?_
  refine lv_iload_n hx hb dM_print0_49 rfl (lv_at hl 0 rfl) ?_
  refine va_bald hx hb hK hP 2 0 rfl rfl (show ¬ ((1 : Int32) < 0 ∨ 4096 ≤ (1 : Int32).toNatClampNeg) by decide) dM_print0_50 ?_
  refine W.eq (g2 := F0 m 51 ls [.int (f43 1), .int 1, .ref a4]) rfl ?_
  refine va_bast hx hb hK hP hD hS 3 0 rfl rfl (show ¬ ((1 : Int32) < 0 ∨ 4096 ≤ (1 : Int32).toNatClampNeg) by decide) dM_print0_51 (fun H locs hP hD hS => ?_)
  obtain ⟨hP, hD⟩ : xPD D xcl A [(a1, .inl (cT 1, 8, .inl f39)), (a2, .inl (cT 5, 8, .inr (.inr (.inr (.inr f41))))), (a3, .inl (cT 0, 4096, .inl f43)), (a4, .inl (cT 0, 4096, .inl (upd (upd f44 0 (vp_nar .byte (f43 0))) 1 (vp_nar .byte (f43 1))))), (a0, .inr (5, [.int 0, v11, .int 0, v13, .int 0, v15, v16, .int 0, v18, .int 0, v20, v21, .int 0, v23, v24, v25, v26, v27, v28, v29, v30, v31, .int 0, .int 1000000000, .ref a2, .ref a1, v34, v35, .ref a4, .int 4, v37, v38]))] H := ⟨hP, hD⟩
  refine lv_iinc (v := 2) (lv' := [(2, .int 2), (0, .ref a0), (1, .int x5)]) hx hb dM_print0_52 hl (k := 0) rfl (by decide) (by decide) rfl (fun ls hl => ?_)
  refine lv_goto (tgt := 30) hx hb dM_print0_55 (by decide) ?_
  refine lv_iload_n hx hb dM_print0_30 rfl (lv_at hl 0 rfl) ?_
  refine lv_aload_n hx hb dM_print0_31 rfl (lv_at hl 1 rfl) ?_
  refine va_get (D := D) (ci := 5) (v := .int 4) (C := "ValueBenchModel") (T := TM) (N := 32) hx hb htx inM hown hK hP 4 rfl rfl 29 (by decide) (htx _ kw_5_116) (fun _ h9 => h9) rfl dM_print0_32 ?_
  refine lv_icmp_ge (tgt := 58) hx hb dM_print0_35 (by decide) (fun h => ((by revert h; decide : False)).elim) (fun _ => ?_)
  refine lv_aload_n hx hb dM_print0_38 rfl (lv_at hl 1 rfl) ?_
  refine va_get (D := D) (ci := 5) (v := .ref a4) (C := "ValueBenchModel") (T := TM) (N := 32) hx hb htx inM hown hK hP 4 rfl rfl 28 (by decide) (htx _ kw_5_115) (fun _ h9 => h9) rfl dM_print0_39 ?_
  refine lv_iload_n hx hb dM_print0_42 rfl (lv_at hl 0 rfl) ?_
  refine lv_aload_n hx hb dM_print0_43 rfl (lv_at hl 1 rfl) ?_
  refine va_get (D := D) (ci := 5) (v := .ref a2) (C := "ValueBenchModel") (T := TM) (N := 32) hx hb htx inM hown hK hP 4 rfl rfl 24 (by decide) (htx _ kw_5_111) (fun _ h9 => h9) rfl dM_print0_44 ?_
  refine lv_iload_n hx hb dM_print0_47 rfl (lv_at hl 2 rfl) ?_
  refine xx_aldA hx hb hK hP 1 5 rfl rfl h9 dM_print0_48 ?_
  refine W.eq (g2 := F0 m 49 ls [va_rf (f41 x5.toNatClampNeg), .int 2, .ref a4]) rfl ?_
  rw [h42]
  refine W.eq (g2 := F0 m 49 ls [.ref a3, .int 2, .ref a4]) rfl ?_
  refine lv_iload_n hx hb dM_print0_49 rfl (lv_at hl 0 rfl) ?_
  refine va_bald hx hb hK hP 2 0 rfl rfl (show ¬ ((2 : Int32) < 0 ∨ 4096 ≤ (2 : Int32).toNatClampNeg) by decide) dM_print0_50 ?_
  refine W.eq (g2 := F0 m 51 ls [.int (f43 2), .int 2, .ref a4]) rfl ?_
  refine va_bast hx hb hK hP hD hS 3 0 rfl rfl (show ¬ ((2 : Int32) < 0 ∨ 4096 ≤ (2 : Int32).toNatClampNeg) by decide) dM_print0_51 (fun H locs hP hD hS => ?_)
  obtain ⟨hP, hD⟩ : xPD D xcl A [(a1, .inl (cT 1, 8, .inl f39)), (a2, .inl (cT 5, 8, .inr (.inr (.inr (.inr f41))))), (a3, .inl (cT 0, 4096, .inl f43)), (a4, .inl (cT 0, 4096, .inl (upd (upd (upd f44 0 (vp_nar .byte (f43 0))) 1 (vp_nar .byte (f43 1))) 2 (vp_nar .byte (f43 2))))), (a0, .inr (5, [.int 0, v11, .int 0, v13, .int 0, v15, v16, .int 0, v18, .int 0, v20, v21, .int 0, v23, v24, v25, v26, v27, v28, v29, v30, v31, .int 0, .int 1000000000, .ref a2, .ref a1, v34, v35, .ref a4, .int 4, v37, v38]))] H := ⟨hP, hD⟩
  refine lv_iinc (v := 3) (lv' := [(2, .int 3), (0, .ref a0), (1, .int x5)]) hx hb dM_print0_52 hl (k := 0) rfl (by decide) (by decide) rfl (fun ls hl => ?_)
  refine lv_goto (tgt := 30) hx hb dM_print0_55 (by decide) ?_
  refine lv_iload_n hx hb dM_print0_30 rfl (lv_at hl 0 rfl) ?_
  refine lv_aload_n hx hb dM_print0_31 rfl (lv_at hl 1 rfl) ?_
  refine va_get (D := D) (ci := 5) (v := .int 4) (C := "ValueBenchModel") (T := TM) (N := 32) hx hb htx inM hown hK hP 4 rfl rfl 29 (by decide) (htx _ kw_5_116) (fun _ h9 => h9) rfl dM_print0_32 ?_
  refine lv_icmp_ge (tgt := 58) hx hb dM_print0_35 (by decide) (fun h => ((by revert h; decide : False)).elim) (fun _ => ?_)
  refine lv_aload_n hx hb dM_print0_38 rfl (lv_at hl 1 rfl) ?_
  refine va_get (D := D) (ci := 5) (v := .ref a4) (C := "ValueBenchModel") (T := TM) (N := 32) hx hb htx inM hown hK hP 4 rfl rfl 28 (by decide) (htx _ kw_5_115) (fun _ h9 => h9) rfl dM_print0_39 ?_
  refine lv_iload_n hx hb dM_print0_42 rfl (lv_at hl 0 rfl) ?_
  refine lv_aload_n hx hb dM_print0_43 rfl (lv_at hl 1 rfl) ?_
  refine va_get (D := D) (ci := 5) (v := .ref a2) (C := "ValueBenchModel") (T := TM) (N := 32) hx hb htx inM hown hK hP 4 rfl rfl 24 (by decide) (htx _ kw_5_111) (fun _ h9 => h9) rfl dM_print0_44 ?_
  refine lv_iload_n hx hb dM_print0_47 rfl (lv_at hl 2 rfl) ?_
  refine xx_aldA hx hb hK hP 1 5 rfl rfl h9 dM_print0_48 ?_
  refine W.eq (g2 := F0 m 49 ls [va_rf (f41 x5.toNatClampNeg), .int 3, .ref a4]) rfl ?_
  rw [h42]
  refine W.eq (g2 := F0 m 49 ls [.ref a3, .int 3, .ref a4]) rfl ?_
  refine lv_iload_n hx hb dM_print0_49 rfl (lv_at hl 0 rfl) ?_
  refine va_bald hx hb hK hP 2 0 rfl rfl (show ¬ ((3 : Int32) < 0 ∨ 4096 ≤ (3 : Int32).toNatClampNeg) by decide) dM_print0_50 ?_
  refine W.eq (g2 := F0 m 51 ls [.int (f43 3), .int 3, .ref a4]) rfl ?_
  refine va_bast hx hb hK hP hD hS 3 0 rfl rfl (show ¬ ((3 : Int32) < 0 ∨ 4096 ≤ (3 : Int32).toNatClampNeg) by decide) dM_print0_51 (fun H locs hP hD hS => ?_)
  obtain ⟨hP, hD⟩ : xPD D xcl A [(a1, .inl (cT 1, 8, .inl f39)), (a2, .inl (cT 5, 8, .inr (.inr (.inr (.inr f41))))), (a3, .inl (cT 0, 4096, .inl f43)), (a4, .inl (cT 0, 4096, .inl (upd (upd (upd (upd f44 0 (vp_nar .byte (f43 0))) 1 (vp_nar .byte (f43 1))) 2 (vp_nar .byte (f43 2))) 3 (vp_nar .byte (f43 3))))), (a0, .inr (5, [.int 0, v11, .int 0, v13, .int 0, v15, v16, .int 0, v18, .int 0, v20, v21, .int 0, v23, v24, v25, v26, v27, v28, v29, v30, v31, .int 0, .int 1000000000, .ref a2, .ref a1, v34, v35, .ref a4, .int 4, v37, v38]))] H := ⟨hP, hD⟩
  refine lv_iinc (v := 4) (lv' := [(2, .int 4), (0, .ref a0), (1, .int x5)]) hx hb dM_print0_52 hl (k := 0) rfl (by decide) (by decide) rfl (fun ls hl => ?_)
  refine lv_goto (tgt := 30) hx hb dM_print0_55 (by decide) ?_
  refine lv_iload_n hx hb dM_print0_30 rfl (lv_at hl 0 rfl) ?_
  refine lv_aload_n hx hb dM_print0_31 rfl (lv_at hl 1 rfl) ?_
  refine va_get (D := D) (ci := 5) (v := .int 4) (C := "ValueBenchModel") (T := TM) (N := 32) hx hb htx inM hown hK hP 4 rfl rfl 29 (by decide) (htx _ kw_5_116) (fun _ h9 => h9) rfl dM_print0_32 ?_
  refine lv_icmp_ge (tgt := 58) hx hb dM_print0_35 (by decide) (fun _ => ?_) (fun h => ((by revert h; decide : False)).elim)
  refine lv_aload_n hx hb dM_print0_58 rfl (lv_at hl 1 rfl) ?_
  refine va_get (D := D) (ci := 5) (v := .int 4) (C := "ValueBenchModel") (T := TM) (N := 32) hx hb htx inM hown hK hP 4 rfl rfl 29 (by decide) (htx _ kw_5_116) (fun _ h9 => h9) rfl dM_print0_59 ?_
  obtain ⟨hP9, hD9⟩ := xsub (wc := [(a0, .inr (5, [.int 0, v11, .int 0, v13, .int 0, v15, v16, .int 0, v18, .int 0, v20, v21, .int 0, v23, v24, v25, v26, v27, v28, v29, v30, v31, .int 0, .int 1000000000, .ref a2, .ref a1, v34, v35, .ref a4, .int 4, v37, v38])), (a1, .inl (cT 1, 8, .inl f39)), (a2, .inl (cT 5, 8, .inr (.inr (.inr (.inr f41))))), (a3, .inl (cT 0, 4096, .inl f43)), (a4, .inl (cT 0, 4096, .inl (upd (upd (upd (upd f44 0 (vp_nar .byte (f43 0))) 1 (vp_nar .byte (f43 1))) 2 (vp_nar .byte (f43 2))) 3 (vp_nar .byte (f43 3)))))]) hP hD [4, 0, 1, 2, 3] rfl rfl (by decide)
  refine W.widen (k := 0) (n := 0) (Nat.le_of_ble_eq_true rfl) (Nat.le_of_ble_eq_true rfl) ?_
  exact W.iret (v := 4) hx hb hr (fun t ht hW => ⟨⟨4, (), rfl, rfl, by rw [ht]; exact hP9, va_K.moved hW.alike hK, hD9⟩, hS.F ht⟩) hS.2.2 dM_print0_62
set_option maxHeartbeats 400000000 in
set_option maxRecDepth 100000 in
theorem cB_binary_0 (l : Launch) (hl9 : l.stackTraces = false) (D : va_G) (cT : Nat → ClassId) (aK aV : Nat → Nat) (sz : Nat) (b0 : Nat) (x1 : Int32) (x3 : Int32) (x4 : Int32) (x5 : Int32) (h2 : x1 < 0) : xMetX l yB_binary wyB_binary 7 1 6 120 D cT aK aV sz [.ref b0, .int x1, .int x3, .int x4, .int x5] [] "java/lang/IllegalArgumentException" (fun A t => xB D xcl cT A [] t) := by
  refine vx_ofW (cc := prog_1_method_6_code) (maxL := 5) (ret := none) (by decide) rfl ?_
  intro p e s m args below meth c s₁ B hml hne hv
  obtain ⟨rfl, hsz, hZ, hP, hK, hD0⟩ := hv
  have hx := B.exec
  have hb := B.bytes
  have hr := B.returns
  have hts := atoms_spec (ws := wyB_binary) B.pre
  have htx := fun w h => hts w (List.mem_cons_of_mem _ h)
  have hown : s.vm.findClass "ValueBench" = some m.cls := findClass_of_methodNamed B.named
  have hlocks := B.notSynchronized
  subst hsz
  have hD := hD0.self (sz := s.heap.size)
  generalize hAe : va_A [] s.heap.size = A at hD hZ ⊢
  have hA : ∀ q : Nat, s.heap.size ≤ q → A q := fun q h => by rw [← hAe]; exact Or.inr h
  have hS : va_S A s.heap s.heap [] := va_S.rf
  have hP : va_P D xcl [] s.heap := hP
  have hl := lv_entry ([.ref b0, .int x1, .int x3, .int x4, .int x5]) (n := 5) (Nat.le_of_ble_eq_true rfl)
  rw [lg_entry_eq]
  generalize (lg_sl ([.ref b0, .int x1, .int x3, .int x4, .int x5]) ++ List.replicate (5 - (lg_sl ([.ref b0, .int x1, .int x3, .int x4, .int x5])).length) Slot.unset).toArray = ls at hl ⊢
  have hl : lv_has ls 5 [(0, .ref b0), (1, .int x1), (2, .int x3), (3, .int x4), (4, .int x5)] := hl
  refine lv_iload_n hx hb dB_binary_0 rfl (lv_at hl 1 rfl) ?_
  obtain ⟨hPc, hDc, hFc⟩ := xcut (wc := []) hP hD hS hA [] rfl rfl (by decide)
  refine va_calli (va_runS (As := [.int x1]) (rest := []) ⟨hx, hb, hml, hown, htx⟩ (cB_isRegister_0 l hl9 D cT aK aV s.heap.size x1 h2) ⟨callB_of 1 htx (xw_goodC kw_2_18) rfl rfl rfl (htx _ kw_1_1) (htx _ kw_2_16) ⟨by decide, by decide, by decide +kernel⟩ ⟨Nat.le_of_ble_eq_true rfl, Nat.le_of_ble_eq_true rfl⟩, htx _ kw_2_17⟩ ⟨xPre_blind, (fun U hU hW => ⟨rfl, xPre_of hZ hS hFc hPc hDc hK U hU hW⟩)⟩ rfl rfl hl.1 rfl (lv_room (Nat.le_of_ble_eq_true rfl)) dB_binary_1 ⟨Nat.le_of_ble_eq_true rfl, Nat.le_of_ble_eq_true rfl⟩) hS (fun q _ h => hFc q h) hFc (fun r1 u9 t H1 locs ht hvm hr9 hB hz1 hk1 hS => ?_)
  obtain ⟨hP1, hK1, hD1⟩ := hB
  rw [ht] at hP1
  obtain ⟨hP, hD⟩ := xjoin (W := []) hP hD [] [] 0 rfl rfl (by decide) (by decide) hk1 hFc hP1 hD1
  generalize H1 = H at hP hS ⊢
  rw [hr9]
  refine W.eq (g2 := F0 m 4 ls [.int 0]) rfl ?_
  refine lv_if_eq (tgt := 34) hx hb dB_binary_4 (by decide) (fun _ => ?_) (fun h => ((by revert h; decide : False)).elim)
  refine lv_iconst (v := 0) hx hb dB_binary_34 (by decide) ?_
  obtain ⟨hPc, hDc, hFc⟩ := xcut (wc := []) hP hD hS hA [] rfl rfl (by decide)
  refine xx_thr (vx_runS (As := [.int 0]) (rest := []) ⟨hx, hb, hml, hown, htx⟩ (cB_demand_0 l hl9 D cT aK aV H.size) ⟨callB_of 1 htx (xw_goodC kw_1_221) rfl rfl rfl (htx _ kw_1_1) (htx _ kw_1_219) ⟨by decide, by decide, by decide +kernel⟩ ⟨Nat.le_of_ble_eq_true rfl, Nat.le_of_ble_eq_true rfl⟩, htx _ kw_1_220⟩ ⟨xPre_blind, (fun U hU hW => ⟨rfl, xPre_of hZ hS hFc hPc hDc hK U hU hW⟩)⟩ rfl rfl hl.1 rfl (lv_room (Nat.le_of_ble_eq_true rfl)) dB_binary_35 ⟨Nat.le_of_ble_eq_true rfl, Nat.le_of_ble_eq_true rfl⟩) hS hFc (fun q _ h => hFc q h) (fun E ce q9 u9 t H1 locs ht hvm _ hB hz1 hk1 hS hce hcv hcl => ?_)
  obtain ⟨rfl, hP1, hK1, hD1⟩ := hB
  rw [ht] at hP1
  obtain ⟨hP, hD⟩ := xjoin (W := []) hP hD [] [] 0 rfl rfl (by decide) (by decide) hk1 hFc hP1 hD1
  generalize H1 = H at hP hS hce ⊢
  obtain ⟨hP9, hD9⟩ := xsub (wc := []) hP hD [] rfl rfl (by decide)
  exact vx_out (E := "java/lang/IllegalArgumentException") (fun x h => (hne x h).elim) hlocks hce hcv hcl (fun t ht ha => ⟨(), trivial, ⟨rfl, by rw [ht]; exact hP9, va_K.moved ha hK, hD9⟩, hS.F ht⟩) hS.2.2 (Nat.le_of_ble_eq_true rfl) (Nat.le_of_ble_eq_true rfl)
set_option maxHeartbeats 400000000 in
set_option maxRecDepth 100000 in
theorem cL_binary_0 (l : Launch) (hl9 : l.stackTraces = false) (D : va_G) (cT : Nat → ClassId) (aK aV : Nat → Nat) (sz : Nat) (a0 : Nat) (x1 : Int32) (x3 : Int32) (x4 : Int32) (x5 : Int32) (v6 : Value) (v7 : Value) (v8 : Value) (v9 : Value) (v10 : Value) (v11 : Value) (v12 : Value) (v13 : Value) (h2 : x1 < 0) : xMet l yL_binary wyL_binary 8 1 6 144 D cT aK aV sz [.ref a0, .int x1, .int x3, .int x4, .int x5] [(a0, .inr (0, [v6, v7, v8, v9, v10, v11, v12, v13]))] (fun A => va_Qi (fun (r : Int32) (_ : Unit) => r = 1) (fun _ t => xB D xcl cT A [(a0, .inr (0, [v6, v7, v8, v9, v10, v11, v12, v13]))] t) A) := by
  refine va_MetW (cc := method_7_code) (maxL := 6) (ret := (some .int)) (hh := [(0, 9, 12, 19), (0, 9, 16, 33), (0, 9, 20, 13)]) (by decide) rfl ?_
  intro p e s m args below meth c s₁ B hml hv
  obtain ⟨rfl, hsz, hZ, hP, hK, hD0⟩ := hv
  have hx := B.exec
  have hb := B.bytes
  have hr := B.returns
  have hts := atoms_spec (ws := wyL_binary) B.pre
  have htx := fun w h => hts w (List.mem_cons_of_mem _ h)
  have hown : s.vm.findClass "ValueBenchLaw" = some m.cls := findClass_of_methodNamed B.named
  have hlocks := B.notSynchronized
  subst hsz
  have hD := hD0.self (sz := s.heap.size)
  generalize hAe : va_A [(a0, .inr (0, [v6, v7, v8, v9, v10, v11, v12, v13]))] s.heap.size = A at hD hZ ⊢
  have hA : ∀ q : Nat, s.heap.size ≤ q → A q := fun q h => by rw [← hAe]; exact Or.inr h
  have hS : va_S A s.heap s.heap [] := va_S.rf
  have hP : va_P D xcl [(a0, .inr (0, [v6, v7, v8, v9, v10, v11, v12, v13]))] s.heap := hP
  have hl := lv_entry ([.ref a0, .int x1, .int x3, .int x4, .int x5]) (n := 6) (Nat.le_of_ble_eq_true rfl)
  rw [lg_entry_eq]
  generalize (lg_sl ([.ref a0, .int x1, .int x3, .int x4, .int x5]) ++ List.replicate (6 - (lg_sl ([.ref a0, .int x1, .int x3, .int x4, .int x5])).length) Slot.unset).toArray = ls at hl ⊢
  have hl : lv_has ls 6 [(0, .ref a0), (1, .int x1), (2, .int x3), (3, .int x4), (4, .int x5)] := hl
  have htab := vx_table (x := yL_binary) B (hts _ List.mem_cons_self)
  refine lv_aload_n hx hb dL_binary_0 rfl (lv_at hl 0 rfl) ?_
  refine lv_iload_n hx hb dL_binary_1 rfl (lv_at hl 1 rfl) ?_
  refine lv_iload_n hx hb dL_binary_2 rfl (lv_at hl 2 rfl) ?_
  refine lv_iload_n hx hb dL_binary_3 rfl (lv_at hl 3 rfl) ?_
  refine lv_iload hx hb dL_binary_4 (lv_at hl 4 rfl) ?_
  obtain ⟨hPc, hDc, hFc⟩ := xcut (wc := []) hP hD hS hA [] rfl rfl (by decide)
  refine xx_thr (vx_runV (C := "ValueBench") (As := [.int x1, .int x3, .int x4, .int x5]) (rest := []) ⟨hx, hb, hml, hown, htx⟩ (cB_binary_0 l hl9 D cT aK aV s.heap.size a0 x1 x3 x4 x5 h2) ⟨callB_of 4 htx (xw_goodC kw_3_102) rfl rfl rfl (htx _ kw_1_1) (htx _ kw_3_99) ⟨by decide, by decide, by decide +kernel⟩ ⟨Nat.le_of_ble_eq_true rfl, Nat.le_of_ble_eq_true rfl⟩, (htx _ kw_3_100), (htx _ kw_3_101)⟩ ⟨xPre_blind, va_recv hK hP (ci := 0) rfl (q0 := 0) rfl, (fun U hU hW => ⟨rfl, xPre_of hZ hS hFc hPc hDc hK U hU hW⟩)⟩ rfl rfl hl.1 rfl (lv_room (Nat.le_of_ble_eq_true rfl)) dL_binary_6 ⟨Nat.le_of_ble_eq_true rfl, Nat.le_of_ble_eq_true rfl⟩) hS hFc (fun q _ h => hFc q h) (fun E ce q9 u9 t H1 locs ht hvm _ hB hz1 hk1 hS hce hcv hcl => ?_)
  obtain ⟨rfl, hP1, hK1, hD1⟩ := hB
  rw [ht] at hP1
  obtain ⟨hP, hD⟩ := xjoin (W := [(a0, .inr (0, [v6, v7, v8, v9, v10, v11, v12, v13]))]) hP hD [] [0] 1 rfl rfl (by decide) (by decide) hk1 hFc hP1 hD1
  generalize H1 = H at hP hS hce ⊢
  refine vx_catch (own := "ValueBenchLaw") (name := "java/lang/IllegalArgumentException") (E := "java/lang/IllegalArgumentException") hown [] ⟨0, 9, 12, 19⟩ [⟨0, 9, 16, 33⟩, ⟨0, 9, 20, 13⟩] (by rw [htab]; rfl) (fun z hz => nomatch hz) (by decide) (by decide) (htx _ kw_1_211) ((hZ.2.2.2.2.2.1 "java/lang/IllegalArgumentException" (List.mem_of_getElem? (i := 1) rfl)).use rfl) hce hcv hcl ?_
  refine lv_astore (lv' := [(5, .ref q9), (0, .ref a0), (1, .int x1), (2, .int x3), (3, .int x4), (4, .int x5)]) hx hb dL_binary_12 hl (by decide) rfl (fun ls hl => ?_)
  refine lv_iconst (v := 1) hx hb dL_binary_14 (by decide) ?_
  obtain ⟨hP9, hD9⟩ := xsub (wc := [(a0, .inr (0, [v6, v7, v8, v9, v10, v11, v12, v13]))]) hP hD [0] rfl rfl (by decide)
  refine W.widen (k := 1) (n := 6) (Nat.le_of_ble_eq_true rfl) (Nat.le_of_ble_eq_true rfl) ?_
  exact W.iret (v := 1) hx hb hr (fun t ht hW => ⟨⟨1, (), rfl, rfl, by rw [ht]; exact hP9, va_K.moved hW.alike hK, hD9⟩, hS.F ht⟩) hS.2.2 dL_binary_15
set_option maxHeartbeats 400000000 in
set_option maxRecDepth 100000 in
theorem cM_binary0_0 (l : Launch) (hl9 : l.stackTraces = false) (D : va_G) (cT : Nat → ClassId) (aK aV : Nat → Nat) (sz : Nat) (a0 : Nat) (x1 : Int32) (x3 : Int32) (x4 : Int32) (x5 : Int32) (v6 : Value) (v7 : Value) (v8 : Value) (v9 : Value) (v10 : Value) (v11 : Value) (v12 : Value) (v13 : Value) (v14 : Value) (v15 : Value) (v16 : Value) (v17 : Value) (v18 : Value) (v19 : Value) (v20 : Value) (v21 : Value) (v22 : Value) (v23 : Value) (v24 : Value) (v25 : Value) (v26 : Value) (v27 : Value) (v28 : Value) (v29 : Value) (v30 : Value) (v31 : Value) (v32 : Value) (v33 : Value) (v34 : Value) (v35 : Value) (v36 : Value) (v37 : Value) (h2 : x1 < 0) : xMet l yM_binary0 wyM_binary0 2 0 0 40 D cT aK aV sz [.ref a0, .int x1, .int x3, .int x4, .int x5] [(a0, .inr (5, [v6, v7, v8, v9, v10, v11, v12, v13, v14, v15, v16, v17, v18, v19, v20, v21, v22, v23, v24, v25, v26, v27, v28, v29, v30, v31, v32, v33, v34, v35, v36, v37]))] (fun A => va_Qv (fun _ : Unit => True) (fun _ t => xB D xcl cT A [(a0, .inr (5, [.int 1, v7, .int 0, v9, .int 0, v11, v12, .int 0, v14, .int 0, v16, v17, .int 0, v19, v20, v21, v22, v23, v24, v25, v26, v27, .int 0, .int 1000000000, v30, v31, v32, v33, v34, v35, v36, v37]))] t) A) := by
  refine Met.ofW (cc := prog_13_method_89_code) (maxL := 5) (ret := none) (by decide) rfl ?_
  intro p e s m args below meth c s₁ B hml hv
  obtain ⟨rfl, hsz, hZ, hP, hK, hD0⟩ := hv
  have hx := B.exec
  have hb := B.bytes
  have hr := B.returns
  have hts := atoms_spec (ws := wyM_binary0) B.pre
  have htx := fun w h => hts w (List.mem_cons_of_mem _ h)
  have hown : s.vm.findClass "ValueBenchModel" = some m.cls := findClass_of_methodNamed B.named
  have hlocks := B.notSynchronized
  subst hsz
  have hD := hD0.self (sz := s.heap.size)
  generalize hAe : va_A [(a0, .inr (5, [v6, v7, v8, v9, v10, v11, v12, v13, v14, v15, v16, v17, v18, v19, v20, v21, v22, v23, v24, v25, v26, v27, v28, v29, v30, v31, v32, v33, v34, v35, v36, v37]))] s.heap.size = A at hD hZ ⊢
  have hA : ∀ q : Nat, s.heap.size ≤ q → A q := fun q h => by rw [← hAe]; exact Or.inr h
  have hS : va_S A s.heap s.heap [] := va_S.rf
  have hP : va_P D xcl [(a0, .inr (5, [v6, v7, v8, v9, v10, v11, v12, v13, v14, v15, v16, v17, v18, v19, v20, v21, v22, v23, v24, v25, v26, v27, v28, v29, v30, v31, v32, v33, v34, v35, v36, v37]))] s.heap := hP
  have hl := lv_entry ([.ref a0, .int x1, .int x3, .int x4, .int x5]) (n := 5) (Nat.le_of_ble_eq_true rfl)
  rw [lg_entry_eq]
  generalize (lg_sl ([.ref a0, .int x1, .int x3, .int x4, .int x5]) ++ List.replicate (5 - (lg_sl ([.ref a0, .int x1, .int x3, .int x4, .int x5])).length) Slot.unset).toArray = ls at hl ⊢
  have hl : lv_has ls 5 [(0, .ref a0), (1, .int x1), (2, .int x3), (3, .int x4), (4, .int x5)] := hl
  refine lv_aload_n hx hb dM_binary0_0 rfl (lv_at hl 0 rfl) ?_
  obtain ⟨hPc, hDc, hFc⟩ := xcut (wc := [(a0, .inr (5, [v6, v7, v8, v9, v10, v11, v12, v13, v14, v15, v16, v17, v18, v19, v20, v21, v22, v23, v24, v25, v26, v27, v28, v29, v30, v31, v32, v33, v34, v35, v36, v37]))]) hP hD hS hA [0] rfl rfl (by decide)
  refine va_callv (va_runV (C := "ValueBenchModel") (As := []) (rest := []) ⟨hx, hb, hml, hown, htx⟩ (cM_begin_0 l hl9 D cT aK aV s.heap.size a0 v6 v7 v8 v9 v10 v11 v12 v13 v14 v15 v16 v17 v18 v19 v20 v21 v22 v23 v24 v25 v26 v27 v28 v29 v30 v31 v32 v33 v34 v35 v36 v37) ⟨callB_of 0 htx (xw_goodC kw_5_209) rfl rfl rfl (htx _ kw_1_5) (htx _ kw_5_206) ⟨by decide, by decide, by decide +kernel⟩ ⟨Nat.le_of_ble_eq_true rfl, Nat.le_of_ble_eq_true rfl⟩, (htx _ kw_5_208), (htx _ kp_M_begin)⟩ ⟨xPre_blind, va_recv hK hP (ci := 5) rfl (q0 := 0) rfl, (fun U hU hW => ⟨rfl, xPre_of hZ hS hFc hPc hDc hK U hU hW⟩)⟩ rfl rfl hl.1 rfl (lv_room (Nat.le_of_ble_eq_true rfl)) dM_binary0_1 ⟨Nat.le_of_ble_eq_true rfl, Nat.le_of_ble_eq_true rfl⟩) hS (fun q _ h => hFc q h) hFc (fun u9 t H1 locs ht hvm hr9 hB hz1 hk1 hS => ?_)
  obtain ⟨hP1, hK1, hD1⟩ := hB
  rw [ht] at hP1
  obtain ⟨hP, hD⟩ := xjoin (W := [(a0, .inr (5, [.int 0, v7, .int 0, v9, .int 0, v11, v12, .int 0, v14, .int 0, v16, v17, .int 0, v19, v20, v21, v22, v23, v24, v25, v26, v27, .int 0, .int 1000000000, v30, v31, v32, v33, v34, v35, v36, v37]))]) hP hD [0] [] 0 rfl rfl (by decide) (by decide) hk1 hFc hP1 hD1
  generalize H1 = H at hP hS ⊢
  refine lv_aload_n hx hb dM_binary0_4 rfl (lv_at hl 0 rfl) ?_
  refine lv_iload_n hx hb dM_binary0_5 rfl (lv_at hl 1 rfl) ?_
  obtain ⟨hPc, hDc, hFc⟩ := xcut (wc := []) hP hD hS hA [] rfl rfl (by decide)
  refine va_calli (va_runV (C := "ValueBenchModel") (As := [.int x1]) (rest := []) ⟨hx, hb, hml, hown, htx⟩ (cM_out_0 l hl9 D cT aK aV H.size a0 x1 h2) ⟨callB_of 1 htx (xw_goodC kw_5_217) rfl rfl rfl (htx _ kw_1_5) (htx _ kw_5_214) ⟨by decide, by decide, by decide +kernel⟩ ⟨Nat.le_of_ble_eq_true rfl, Nat.le_of_ble_eq_true rfl⟩, (htx _ kw_5_216), (htx _ kp_M_out)⟩ ⟨xPre_blind, va_recv hK hP (ci := 5) rfl (q0 := 0) rfl, (fun U hU hW => ⟨rfl, xPre_of hZ hS hFc hPc hDc hK U hU hW⟩)⟩ rfl rfl hl.1 rfl (lv_room (Nat.le_of_ble_eq_true rfl)) dM_binary0_6 ⟨Nat.le_of_ble_eq_true rfl, Nat.le_of_ble_eq_true rfl⟩) hS (fun q _ h => hFc q h) hFc (fun r1 u9 t H1 locs ht hvm hr9 hB hz1 hk1 hS => ?_)
  obtain ⟨hP1, hK1, hD1⟩ := hB
  rw [ht] at hP1
  obtain ⟨hP, hD⟩ := xjoin (W := [(a0, .inr (5, [.int 0, v7, .int 0, v9, .int 0, v11, v12, .int 0, v14, .int 0, v16, v17, .int 0, v19, v20, v21, v22, v23, v24, v25, v26, v27, .int 0, .int 1000000000, v30, v31, v32, v33, v34, v35, v36, v37]))]) hP hD [] [0] 1 rfl rfl (by decide) (by decide) hk1 hFc hP1 hD1
  generalize H1 = H at hP hS ⊢
  rw [hr9]
  refine W.eq (g2 := F0 m 9 ls [.int 1]) rfl ?_
  refine lv_if_ne (tgt := 38) hx hb dM_binary0_9 (by decide) (fun _ => ?_) (fun h => ((by revert h; decide : False)).elim)
  refine lv_aload_n hx hb dM_binary0_38 rfl (lv_at hl 0 rfl) ?_
  refine lv_iconst (v := 1) hx hb dM_binary0_39 (by decide) ?_
  refine va_put (D := D) (ci := 5) (v := .int 1) (ty := .int) (C := "ValueBenchModel") (T := TM) (N := 32) hx hb htx inM tyM tyM_ok nmM hown hK hP hD hS 0 rfl rfl 0 (by decide) (htx _ kw_5_87) (fun _ h9 => h9) rfl (by decide +kernel) rfl rfl (Nat.le_of_ble_eq_true rfl) dM_binary0_40 (fun H locs hP hD hS => ?_)
  obtain ⟨hP, hD⟩ : xPD D xcl A [(a0, .inr (5, [.int 1, v7, .int 0, v9, .int 0, v11, v12, .int 0, v14, .int 0, v16, v17, .int 0, v19, v20, v21, v22, v23, v24, v25, v26, v27, .int 0, .int 1000000000, v30, v31, v32, v33, v34, v35, v36, v37]))] H := ⟨hP, hD⟩
  refine lv_goto (tgt := 56) hx hb dM_binary0_43 (by decide) ?_
  obtain ⟨hP9, hD9⟩ := xsub (wc := [(a0, .inr (5, [.int 1, v7, .int 0, v9, .int 0, v11, v12, .int 0, v14, .int 0, v16, v17, .int 0, v19, v20, v21, v22, v23, v24, v25, v26, v27, .int 0, .int 1000000000, v30, v31, v32, v33, v34, v35, v36, v37]))]) hP hD [0] rfl rfl (by decide)
  refine W.widen (k := 0) (n := 0) (Nat.le_of_ble_eq_true rfl) (Nat.le_of_ble_eq_true rfl) ?_
  exact W.vret hx hb hr (fun t ht hW => ⟨⟨(), rfl, trivial, by rw [ht]; exact hP9, va_K.moved hW.alike hK, hD9⟩, hS.F ht⟩) hS.2.2 dM_binary0_56
set_option maxHeartbeats 400000000 in
set_option maxRecDepth 100000 in
theorem cB_binary_1 (l : Launch) (hl9 : l.stackTraces = false) (D : va_G) (cT : Nat → ClassId) (aK aV : Nat → Nat) (sz : Nat) (b0 : Nat) (x1 : Int32) (x5 : Int32) (x6 : Int32) (x7 : Int32) (h2 : ¬ x1 < 0) (h3 : 7 < x1) (h4 : ¬ x1 ≤ 7) : xMetX l yB_binary wyB_binary 7 1 6 120 D cT aK aV sz [.ref b0, .int x1, .int x5, .int x6, .int x7] [] "java/lang/IllegalArgumentException" (fun A t => xB D xcl cT A [] t) := by
  refine vx_ofW (cc := prog_1_method_6_code) (maxL := 5) (ret := none) (by decide) rfl ?_
  intro p e s m args below meth c s₁ B hml hne hv
  obtain ⟨rfl, hsz, hZ, hP, hK, hD0⟩ := hv
  have hx := B.exec
  have hb := B.bytes
  have hr := B.returns
  have hts := atoms_spec (ws := wyB_binary) B.pre
  have htx := fun w h => hts w (List.mem_cons_of_mem _ h)
  have hown : s.vm.findClass "ValueBench" = some m.cls := findClass_of_methodNamed B.named
  have hlocks := B.notSynchronized
  subst hsz
  have hD := hD0.self (sz := s.heap.size)
  generalize hAe : va_A [] s.heap.size = A at hD hZ ⊢
  have hA : ∀ q : Nat, s.heap.size ≤ q → A q := fun q h => by rw [← hAe]; exact Or.inr h
  have hS : va_S A s.heap s.heap [] := va_S.rf
  have hP : va_P D xcl [] s.heap := hP
  have hl := lv_entry ([.ref b0, .int x1, .int x5, .int x6, .int x7]) (n := 5) (Nat.le_of_ble_eq_true rfl)
  rw [lg_entry_eq]
  generalize (lg_sl ([.ref b0, .int x1, .int x5, .int x6, .int x7]) ++ List.replicate (5 - (lg_sl ([.ref b0, .int x1, .int x5, .int x6, .int x7])).length) Slot.unset).toArray = ls at hl ⊢
  have hl : lv_has ls 5 [(0, .ref b0), (1, .int x1), (2, .int x5), (3, .int x6), (4, .int x7)] := hl
  refine lv_iload_n hx hb dB_binary_0 rfl (lv_at hl 1 rfl) ?_
  obtain ⟨hPc, hDc, hFc⟩ := xcut (wc := []) hP hD hS hA [] rfl rfl (by decide)
  refine va_calli (va_runS (As := [.int x1]) (rest := []) ⟨hx, hb, hml, hown, htx⟩ (cB_isRegister_1 l hl9 D cT aK aV s.heap.size x1 h2 h3 h4) ⟨callB_of 1 htx (xw_goodC kw_2_18) rfl rfl rfl (htx _ kw_1_1) (htx _ kw_2_16) ⟨by decide, by decide, by decide +kernel⟩ ⟨Nat.le_of_ble_eq_true rfl, Nat.le_of_ble_eq_true rfl⟩, htx _ kw_2_17⟩ ⟨xPre_blind, (fun U hU hW => ⟨rfl, xPre_of hZ hS hFc hPc hDc hK U hU hW⟩)⟩ rfl rfl hl.1 rfl (lv_room (Nat.le_of_ble_eq_true rfl)) dB_binary_1 ⟨Nat.le_of_ble_eq_true rfl, Nat.le_of_ble_eq_true rfl⟩) hS (fun q _ h => hFc q h) hFc (fun r1 u9 t H1 locs ht hvm hr9 hB hz1 hk1 hS => ?_)
  obtain ⟨hP1, hK1, hD1⟩ := hB
  rw [ht] at hP1
  obtain ⟨hP, hD⟩ := xjoin (W := []) hP hD [] [] 0 rfl rfl (by decide) (by decide) hk1 hFc hP1 hD1
  generalize H1 = H at hP hS ⊢
  rw [hr9]
  refine W.eq (g2 := F0 m 4 ls [.int 0]) rfl ?_
  refine lv_if_eq (tgt := 34) hx hb dB_binary_4 (by decide) (fun _ => ?_) (fun h => ((by revert h; decide : False)).elim)
  refine lv_iconst (v := 0) hx hb dB_binary_34 (by decide) ?_
  obtain ⟨hPc, hDc, hFc⟩ := xcut (wc := []) hP hD hS hA [] rfl rfl (by decide)
  refine xx_thr (vx_runS (As := [.int 0]) (rest := []) ⟨hx, hb, hml, hown, htx⟩ (cB_demand_0 l hl9 D cT aK aV H.size) ⟨callB_of 1 htx (xw_goodC kw_1_221) rfl rfl rfl (htx _ kw_1_1) (htx _ kw_1_219) ⟨by decide, by decide, by decide +kernel⟩ ⟨Nat.le_of_ble_eq_true rfl, Nat.le_of_ble_eq_true rfl⟩, htx _ kw_1_220⟩ ⟨xPre_blind, (fun U hU hW => ⟨rfl, xPre_of hZ hS hFc hPc hDc hK U hU hW⟩)⟩ rfl rfl hl.1 rfl (lv_room (Nat.le_of_ble_eq_true rfl)) dB_binary_35 ⟨Nat.le_of_ble_eq_true rfl, Nat.le_of_ble_eq_true rfl⟩) hS hFc (fun q _ h => hFc q h) (fun E ce q9 u9 t H1 locs ht hvm _ hB hz1 hk1 hS hce hcv hcl => ?_)
  obtain ⟨rfl, hP1, hK1, hD1⟩ := hB
  rw [ht] at hP1
  obtain ⟨hP, hD⟩ := xjoin (W := []) hP hD [] [] 0 rfl rfl (by decide) (by decide) hk1 hFc hP1 hD1
  generalize H1 = H at hP hS hce ⊢
  obtain ⟨hP9, hD9⟩ := xsub (wc := []) hP hD [] rfl rfl (by decide)
  exact vx_out (E := "java/lang/IllegalArgumentException") (fun x h => (hne x h).elim) hlocks hce hcv hcl (fun t ht ha => ⟨(), trivial, ⟨rfl, by rw [ht]; exact hP9, va_K.moved ha hK, hD9⟩, hS.F ht⟩) hS.2.2 (Nat.le_of_ble_eq_true rfl) (Nat.le_of_ble_eq_true rfl)
set_option maxHeartbeats 400000000 in
set_option maxRecDepth 100000 in
theorem cL_binary_1 (l : Launch) (hl9 : l.stackTraces = false) (D : va_G) (cT : Nat → ClassId) (aK aV : Nat → Nat) (sz : Nat) (a0 : Nat) (x1 : Int32) (x5 : Int32) (x6 : Int32) (x7 : Int32) (v8 : Value) (v9 : Value) (v10 : Value) (v11 : Value) (v12 : Value) (v13 : Value) (v14 : Value) (v15 : Value) (h2 : ¬ x1 < 0) (h3 : 7 < x1) (h4 : ¬ x1 ≤ 7) : xMet l yL_binary wyL_binary 8 1 6 144 D cT aK aV sz [.ref a0, .int x1, .int x5, .int x6, .int x7] [(a0, .inr (0, [v8, v9, v10, v11, v12, v13, v14, v15]))] (fun A => va_Qi (fun (r : Int32) (_ : Unit) => r = 1) (fun _ t => xB D xcl cT A [(a0, .inr (0, [v8, v9, v10, v11, v12, v13, v14, v15]))] t) A) := by
  refine va_MetW (cc := method_7_code) (maxL := 6) (ret := (some .int)) (hh := [(0, 9, 12, 19), (0, 9, 16, 33), (0, 9, 20, 13)]) (by decide) rfl ?_
  intro p e s m args below meth c s₁ B hml hv
  obtain ⟨rfl, hsz, hZ, hP, hK, hD0⟩ := hv
  have hx := B.exec
  have hb := B.bytes
  have hr := B.returns
  have hts := atoms_spec (ws := wyL_binary) B.pre
  have htx := fun w h => hts w (List.mem_cons_of_mem _ h)
  have hown : s.vm.findClass "ValueBenchLaw" = some m.cls := findClass_of_methodNamed B.named
  have hlocks := B.notSynchronized
  subst hsz
  have hD := hD0.self (sz := s.heap.size)
  generalize hAe : va_A [(a0, .inr (0, [v8, v9, v10, v11, v12, v13, v14, v15]))] s.heap.size = A at hD hZ ⊢
  have hA : ∀ q : Nat, s.heap.size ≤ q → A q := fun q h => by rw [← hAe]; exact Or.inr h
  have hS : va_S A s.heap s.heap [] := va_S.rf
  have hP : va_P D xcl [(a0, .inr (0, [v8, v9, v10, v11, v12, v13, v14, v15]))] s.heap := hP
  have hl := lv_entry ([.ref a0, .int x1, .int x5, .int x6, .int x7]) (n := 6) (Nat.le_of_ble_eq_true rfl)
  rw [lg_entry_eq]
  generalize (lg_sl ([.ref a0, .int x1, .int x5, .int x6, .int x7]) ++ List.replicate (6 - (lg_sl ([.ref a0, .int x1, .int x5, .int x6, .int x7])).length) Slot.unset).toArray = ls at hl ⊢
  have hl : lv_has ls 6 [(0, .ref a0), (1, .int x1), (2, .int x5), (3, .int x6), (4, .int x7)] := hl
  have htab := vx_table (x := yL_binary) B (hts _ List.mem_cons_self)
  refine lv_aload_n hx hb dL_binary_0 rfl (lv_at hl 0 rfl) ?_
  refine lv_iload_n hx hb dL_binary_1 rfl (lv_at hl 1 rfl) ?_
  refine lv_iload_n hx hb dL_binary_2 rfl (lv_at hl 2 rfl) ?_
  refine lv_iload_n hx hb dL_binary_3 rfl (lv_at hl 3 rfl) ?_
  refine lv_iload hx hb dL_binary_4 (lv_at hl 4 rfl) ?_
  obtain ⟨hPc, hDc, hFc⟩ := xcut (wc := []) hP hD hS hA [] rfl rfl (by decide)
  refine xx_thr (vx_runV (C := "ValueBench") (As := [.int x1, .int x5, .int x6, .int x7]) (rest := []) ⟨hx, hb, hml, hown, htx⟩ (cB_binary_1 l hl9 D cT aK aV s.heap.size a0 x1 x5 x6 x7 h2 h3 h4) ⟨callB_of 4 htx (xw_goodC kw_3_102) rfl rfl rfl (htx _ kw_1_1) (htx _ kw_3_99) ⟨by decide, by decide, by decide +kernel⟩ ⟨Nat.le_of_ble_eq_true rfl, Nat.le_of_ble_eq_true rfl⟩, (htx _ kw_3_100), (htx _ kw_3_101)⟩ ⟨xPre_blind, va_recv hK hP (ci := 0) rfl (q0 := 0) rfl, (fun U hU hW => ⟨rfl, xPre_of hZ hS hFc hPc hDc hK U hU hW⟩)⟩ rfl rfl hl.1 rfl (lv_room (Nat.le_of_ble_eq_true rfl)) dL_binary_6 ⟨Nat.le_of_ble_eq_true rfl, Nat.le_of_ble_eq_true rfl⟩) hS hFc (fun q _ h => hFc q h) (fun E ce q9 u9 t H1 locs ht hvm _ hB hz1 hk1 hS hce hcv hcl => ?_)
  obtain ⟨rfl, hP1, hK1, hD1⟩ := hB
  rw [ht] at hP1
  obtain ⟨hP, hD⟩ := xjoin (W := [(a0, .inr (0, [v8, v9, v10, v11, v12, v13, v14, v15]))]) hP hD [] [0] 1 rfl rfl (by decide) (by decide) hk1 hFc hP1 hD1
  generalize H1 = H at hP hS hce ⊢
  refine vx_catch (own := "ValueBenchLaw") (name := "java/lang/IllegalArgumentException") (E := "java/lang/IllegalArgumentException") hown [] ⟨0, 9, 12, 19⟩ [⟨0, 9, 16, 33⟩, ⟨0, 9, 20, 13⟩] (by rw [htab]; rfl) (fun z hz => nomatch hz) (by decide) (by decide) (htx _ kw_1_211) ((hZ.2.2.2.2.2.1 "java/lang/IllegalArgumentException" (List.mem_of_getElem? (i := 1) rfl)).use rfl) hce hcv hcl ?_
  refine lv_astore (lv' := [(5, .ref q9), (0, .ref a0), (1, .int x1), (2, .int x5), (3, .int x6), (4, .int x7)]) hx hb dL_binary_12 hl (by decide) rfl (fun ls hl => ?_)
  refine lv_iconst (v := 1) hx hb dL_binary_14 (by decide) ?_
  obtain ⟨hP9, hD9⟩ := xsub (wc := [(a0, .inr (0, [v8, v9, v10, v11, v12, v13, v14, v15]))]) hP hD [0] rfl rfl (by decide)
  refine W.widen (k := 1) (n := 6) (Nat.le_of_ble_eq_true rfl) (Nat.le_of_ble_eq_true rfl) ?_
  exact W.iret (v := 1) hx hb hr (fun t ht hW => ⟨⟨1, (), rfl, rfl, by rw [ht]; exact hP9, va_K.moved hW.alike hK, hD9⟩, hS.F ht⟩) hS.2.2 dL_binary_15
set_option maxHeartbeats 400000000 in
set_option maxRecDepth 100000 in
theorem cM_binary0_1 (l : Launch) (hl9 : l.stackTraces = false) (D : va_G) (cT : Nat → ClassId) (aK aV : Nat → Nat) (sz : Nat) (a0 : Nat) (x1 : Int32) (x5 : Int32) (x6 : Int32) (x7 : Int32) (v8 : Value) (v9 : Value) (v10 : Value) (v11 : Value) (v12 : Value) (v13 : Value) (v14 : Value) (v15 : Value) (v16 : Value) (v17 : Value) (v18 : Value) (v19 : Value) (v20 : Value) (v21 : Value) (v22 : Value) (v23 : Value) (v24 : Value) (v25 : Value) (v26 : Value) (v27 : Value) (v28 : Value) (v29 : Value) (v30 : Value) (v31 : Value) (v32 : Value) (v33 : Value) (v34 : Value) (v35 : Value) (v36 : Value) (v37 : Value) (v38 : Value) (v39 : Value) (h2 : ¬ x1 < 0) (h3 : 7 < x1) (h4 : ¬ x1 ≤ 7) : xMet l yM_binary0 wyM_binary0 2 0 0 40 D cT aK aV sz [.ref a0, .int x1, .int x5, .int x6, .int x7] [(a0, .inr (5, [v8, v9, v10, v11, v12, v13, v14, v15, v16, v17, v18, v19, v20, v21, v22, v23, v24, v25, v26, v27, v28, v29, v30, v31, v32, v33, v34, v35, v36, v37, v38, v39]))] (fun A => va_Qv (fun _ : Unit => True) (fun _ t => xB D xcl cT A [(a0, .inr (5, [.int 1, v9, .int 0, v11, .int 0, v13, v14, .int 0, v16, .int 0, v18, v19, .int 0, v21, v22, v23, v24, v25, v26, v27, v28, v29, .int 0, .int 1000000000, v32, v33, v34, v35, v36, v37, v38, v39]))] t) A) := by
  refine Met.ofW (cc := prog_13_method_89_code) (maxL := 5) (ret := none) (by decide) rfl ?_
  intro p e s m args below meth c s₁ B hml hv
  obtain ⟨rfl, hsz, hZ, hP, hK, hD0⟩ := hv
  have hx := B.exec
  have hb := B.bytes
  have hr := B.returns
  have hts := atoms_spec (ws := wyM_binary0) B.pre
  have htx := fun w h => hts w (List.mem_cons_of_mem _ h)
  have hown : s.vm.findClass "ValueBenchModel" = some m.cls := findClass_of_methodNamed B.named
  have hlocks := B.notSynchronized
  subst hsz
  have hD := hD0.self (sz := s.heap.size)
  generalize hAe : va_A [(a0, .inr (5, [v8, v9, v10, v11, v12, v13, v14, v15, v16, v17, v18, v19, v20, v21, v22, v23, v24, v25, v26, v27, v28, v29, v30, v31, v32, v33, v34, v35, v36, v37, v38, v39]))] s.heap.size = A at hD hZ ⊢
  have hA : ∀ q : Nat, s.heap.size ≤ q → A q := fun q h => by rw [← hAe]; exact Or.inr h
  have hS : va_S A s.heap s.heap [] := va_S.rf
  have hP : va_P D xcl [(a0, .inr (5, [v8, v9, v10, v11, v12, v13, v14, v15, v16, v17, v18, v19, v20, v21, v22, v23, v24, v25, v26, v27, v28, v29, v30, v31, v32, v33, v34, v35, v36, v37, v38, v39]))] s.heap := hP
  have hl := lv_entry ([.ref a0, .int x1, .int x5, .int x6, .int x7]) (n := 5) (Nat.le_of_ble_eq_true rfl)
  rw [lg_entry_eq]
  generalize (lg_sl ([.ref a0, .int x1, .int x5, .int x6, .int x7]) ++ List.replicate (5 - (lg_sl ([.ref a0, .int x1, .int x5, .int x6, .int x7])).length) Slot.unset).toArray = ls at hl ⊢
  have hl : lv_has ls 5 [(0, .ref a0), (1, .int x1), (2, .int x5), (3, .int x6), (4, .int x7)] := hl
  refine lv_aload_n hx hb dM_binary0_0 rfl (lv_at hl 0 rfl) ?_
  obtain ⟨hPc, hDc, hFc⟩ := xcut (wc := [(a0, .inr (5, [v8, v9, v10, v11, v12, v13, v14, v15, v16, v17, v18, v19, v20, v21, v22, v23, v24, v25, v26, v27, v28, v29, v30, v31, v32, v33, v34, v35, v36, v37, v38, v39]))]) hP hD hS hA [0] rfl rfl (by decide)
  refine va_callv (va_runV (C := "ValueBenchModel") (As := []) (rest := []) ⟨hx, hb, hml, hown, htx⟩ (cM_begin_0 l hl9 D cT aK aV s.heap.size a0 v8 v9 v10 v11 v12 v13 v14 v15 v16 v17 v18 v19 v20 v21 v22 v23 v24 v25 v26 v27 v28 v29 v30 v31 v32 v33 v34 v35 v36 v37 v38 v39) ⟨callB_of 0 htx (xw_goodC kw_5_209) rfl rfl rfl (htx _ kw_1_5) (htx _ kw_5_206) ⟨by decide, by decide, by decide +kernel⟩ ⟨Nat.le_of_ble_eq_true rfl, Nat.le_of_ble_eq_true rfl⟩, (htx _ kw_5_208), (htx _ kp_M_begin)⟩ ⟨xPre_blind, va_recv hK hP (ci := 5) rfl (q0 := 0) rfl, (fun U hU hW => ⟨rfl, xPre_of hZ hS hFc hPc hDc hK U hU hW⟩)⟩ rfl rfl hl.1 rfl (lv_room (Nat.le_of_ble_eq_true rfl)) dM_binary0_1 ⟨Nat.le_of_ble_eq_true rfl, Nat.le_of_ble_eq_true rfl⟩) hS (fun q _ h => hFc q h) hFc (fun u9 t H1 locs ht hvm hr9 hB hz1 hk1 hS => ?_)
  obtain ⟨hP1, hK1, hD1⟩ := hB
  rw [ht] at hP1
  obtain ⟨hP, hD⟩ := xjoin (W := [(a0, .inr (5, [.int 0, v9, .int 0, v11, .int 0, v13, v14, .int 0, v16, .int 0, v18, v19, .int 0, v21, v22, v23, v24, v25, v26, v27, v28, v29, .int 0, .int 1000000000, v32, v33, v34, v35, v36, v37, v38, v39]))]) hP hD [0] [] 0 rfl rfl (by decide) (by decide) hk1 hFc hP1 hD1
  generalize H1 = H at hP hS ⊢
  refine lv_aload_n hx hb dM_binary0_4 rfl (lv_at hl 0 rfl) ?_
  refine lv_iload_n hx hb dM_binary0_5 rfl (lv_at hl 1 rfl) ?_
  obtain ⟨hPc, hDc, hFc⟩ := xcut (wc := []) hP hD hS hA [] rfl rfl (by decide)
  refine va_calli (va_runV (C := "ValueBenchModel") (As := [.int x1]) (rest := []) ⟨hx, hb, hml, hown, htx⟩ (cM_out_1 l hl9 D cT aK aV H.size a0 x1 h2 h3 h4) ⟨callB_of 1 htx (xw_goodC kw_5_217) rfl rfl rfl (htx _ kw_1_5) (htx _ kw_5_214) ⟨by decide, by decide, by decide +kernel⟩ ⟨Nat.le_of_ble_eq_true rfl, Nat.le_of_ble_eq_true rfl⟩, (htx _ kw_5_216), (htx _ kp_M_out)⟩ ⟨xPre_blind, va_recv hK hP (ci := 5) rfl (q0 := 0) rfl, (fun U hU hW => ⟨rfl, xPre_of hZ hS hFc hPc hDc hK U hU hW⟩)⟩ rfl rfl hl.1 rfl (lv_room (Nat.le_of_ble_eq_true rfl)) dM_binary0_6 ⟨Nat.le_of_ble_eq_true rfl, Nat.le_of_ble_eq_true rfl⟩) hS (fun q _ h => hFc q h) hFc (fun r1 u9 t H1 locs ht hvm hr9 hB hz1 hk1 hS => ?_)
  obtain ⟨hP1, hK1, hD1⟩ := hB
  rw [ht] at hP1
  obtain ⟨hP, hD⟩ := xjoin (W := [(a0, .inr (5, [.int 0, v9, .int 0, v11, .int 0, v13, v14, .int 0, v16, .int 0, v18, v19, .int 0, v21, v22, v23, v24, v25, v26, v27, v28, v29, .int 0, .int 1000000000, v32, v33, v34, v35, v36, v37, v38, v39]))]) hP hD [] [0] 1 rfl rfl (by decide) (by decide) hk1 hFc hP1 hD1
  generalize H1 = H at hP hS ⊢
  rw [hr9]
  refine W.eq (g2 := F0 m 9 ls [.int 1]) rfl ?_
  refine lv_if_ne (tgt := 38) hx hb dM_binary0_9 (by decide) (fun _ => ?_) (fun h => ((by revert h; decide : False)).elim)
  refine lv_aload_n hx hb dM_binary0_38 rfl (lv_at hl 0 rfl) ?_
  refine lv_iconst (v := 1) hx hb dM_binary0_39 (by decide) ?_
  refine va_put (D := D) (ci := 5) (v := .int 1) (ty := .int) (C := "ValueBenchModel") (T := TM) (N := 32) hx hb htx inM tyM tyM_ok nmM hown hK hP hD hS 0 rfl rfl 0 (by decide) (htx _ kw_5_87) (fun _ h9 => h9) rfl (by decide +kernel) rfl rfl (Nat.le_of_ble_eq_true rfl) dM_binary0_40 (fun H locs hP hD hS => ?_)
  obtain ⟨hP, hD⟩ : xPD D xcl A [(a0, .inr (5, [.int 1, v9, .int 0, v11, .int 0, v13, v14, .int 0, v16, .int 0, v18, v19, .int 0, v21, v22, v23, v24, v25, v26, v27, v28, v29, .int 0, .int 1000000000, v32, v33, v34, v35, v36, v37, v38, v39]))] H := ⟨hP, hD⟩
  refine lv_goto (tgt := 56) hx hb dM_binary0_43 (by decide) ?_
  obtain ⟨hP9, hD9⟩ := xsub (wc := [(a0, .inr (5, [.int 1, v9, .int 0, v11, .int 0, v13, v14, .int 0, v16, .int 0, v18, v19, .int 0, v21, v22, v23, v24, v25, v26, v27, v28, v29, .int 0, .int 1000000000, v32, v33, v34, v35, v36, v37, v38, v39]))]) hP hD [0] rfl rfl (by decide)
  refine W.widen (k := 0) (n := 0) (Nat.le_of_ble_eq_true rfl) (Nat.le_of_ble_eq_true rfl) ?_
  exact W.vret hx hb hr (fun t ht hW => ⟨⟨(), rfl, trivial, by rw [ht]; exact hP9, va_K.moved hW.alike hK, hD9⟩, hS.F ht⟩) hS.2.2 dM_binary0_56
set_option maxHeartbeats 400000000 in
set_option maxRecDepth 100000 in
theorem cB_binary_2 (l : Launch) (hl9 : l.stackTraces = false) (D : va_G) (cT : Nat → ClassId) (aK aV : Nat → Nat) (sz : Nat) (b0 : Nat) (x1 : Int32) (x6 : Int32) (x8 : Int32) (x9 : Int32) (h2 : ¬ x1 < 0) (h3 : ¬ 7 < x1) (h4 : x1 ≤ 7) (h5 : vp_in x1 8) (h7 : x6 < 0) : xMetX l yB_binary wyB_binary 7 1 6 120 D cT aK aV sz [.ref b0, .int x1, .int x6, .int x8, .int x9] [] "java/lang/IllegalArgumentException" (fun A t => xB D xcl cT A [] t) := by
  refine vx_ofW (cc := prog_1_method_6_code) (maxL := 5) (ret := none) (by decide) rfl ?_
  intro p e s m args below meth c s₁ B hml hne hv
  obtain ⟨rfl, hsz, hZ, hP, hK, hD0⟩ := hv
  have hx := B.exec
  have hb := B.bytes
  have hr := B.returns
  have hts := atoms_spec (ws := wyB_binary) B.pre
  have htx := fun w h => hts w (List.mem_cons_of_mem _ h)
  have hown : s.vm.findClass "ValueBench" = some m.cls := findClass_of_methodNamed B.named
  have hlocks := B.notSynchronized
  subst hsz
  have hD := hD0.self (sz := s.heap.size)
  generalize hAe : va_A [] s.heap.size = A at hD hZ ⊢
  have hA : ∀ q : Nat, s.heap.size ≤ q → A q := fun q h => by rw [← hAe]; exact Or.inr h
  have hS : va_S A s.heap s.heap [] := va_S.rf
  have hP : va_P D xcl [] s.heap := hP
  have hl := lv_entry ([.ref b0, .int x1, .int x6, .int x8, .int x9]) (n := 5) (Nat.le_of_ble_eq_true rfl)
  rw [lg_entry_eq]
  generalize (lg_sl ([.ref b0, .int x1, .int x6, .int x8, .int x9]) ++ List.replicate (5 - (lg_sl ([.ref b0, .int x1, .int x6, .int x8, .int x9])).length) Slot.unset).toArray = ls at hl ⊢
  have hl : lv_has ls 5 [(0, .ref b0), (1, .int x1), (2, .int x6), (3, .int x8), (4, .int x9)] := hl
  refine lv_iload_n hx hb dB_binary_0 rfl (lv_at hl 1 rfl) ?_
  obtain ⟨hPc, hDc, hFc⟩ := xcut (wc := []) hP hD hS hA [] rfl rfl (by decide)
  refine va_calli (va_runS (As := [.int x1]) (rest := []) ⟨hx, hb, hml, hown, htx⟩ (cB_isRegister_2 l hl9 D cT aK aV s.heap.size x1 h2 h3 h4 h5) ⟨callB_of 1 htx (xw_goodC kw_2_18) rfl rfl rfl (htx _ kw_1_1) (htx _ kw_2_16) ⟨by decide, by decide, by decide +kernel⟩ ⟨Nat.le_of_ble_eq_true rfl, Nat.le_of_ble_eq_true rfl⟩, htx _ kw_2_17⟩ ⟨xPre_blind, (fun U hU hW => ⟨rfl, xPre_of hZ hS hFc hPc hDc hK U hU hW⟩)⟩ rfl rfl hl.1 rfl (lv_room (Nat.le_of_ble_eq_true rfl)) dB_binary_1 ⟨Nat.le_of_ble_eq_true rfl, Nat.le_of_ble_eq_true rfl⟩) hS (fun q _ h => hFc q h) hFc (fun r1 u9 t H1 locs ht hvm hr9 hB hz1 hk1 hS => ?_)
  obtain ⟨hP1, hK1, hD1⟩ := hB
  rw [ht] at hP1
  obtain ⟨hP, hD⟩ := xjoin (W := []) hP hD [] [] 0 rfl rfl (by decide) (by decide) hk1 hFc hP1 hD1
  generalize H1 = H at hP hS ⊢
  rw [hr9]
  refine W.eq (g2 := F0 m 4 ls [.int 1]) rfl ?_
  refine lv_if_eq (tgt := 34) hx hb dB_binary_4 (by decide) (fun h => ((by revert h; decide : False)).elim) (fun _ => ?_)
  refine lv_iload_n hx hb dB_binary_7 rfl (lv_at hl 2 rfl) ?_
  refine lv_iconst (v := 4) hx hb dB_binary_8 (by decide) ?_
  obtain ⟨hPc, hDc, hFc⟩ := xcut (wc := []) hP hD hS hA [] rfl rfl (by decide)
  refine va_calli (va_runS (As := [.int x6, .int 4]) (rest := []) ⟨hx, hb, hml, hown, htx⟩ (cB_isWithin_0 l hl9 D cT aK aV H.size x6 4 h7) ⟨callB_of 2 htx (xw_goodC kw_1_218) rfl rfl rfl (htx _ kw_1_1) (htx _ kw_1_216) ⟨by decide, by decide, by decide +kernel⟩ ⟨Nat.le_of_ble_eq_true rfl, Nat.le_of_ble_eq_true rfl⟩, htx _ kw_1_217⟩ ⟨xPre_blind, (fun U hU hW => ⟨rfl, xPre_of hZ hS hFc hPc hDc hK U hU hW⟩)⟩ rfl rfl hl.1 rfl (lv_room (Nat.le_of_ble_eq_true rfl)) dB_binary_9 ⟨Nat.le_of_ble_eq_true rfl, Nat.le_of_ble_eq_true rfl⟩) hS (fun q _ h => hFc q h) hFc (fun r2 u9 t H1 locs ht hvm hr9 hB hz1 hk1 hS => ?_)
  obtain ⟨hP1, hK1, hD1⟩ := hB
  rw [ht] at hP1
  obtain ⟨hP, hD⟩ := xjoin (W := []) hP hD [] [] 0 rfl rfl (by decide) (by decide) hk1 hFc hP1 hD1
  generalize H1 = H at hP hS ⊢
  rw [hr9]
  refine W.eq (g2 := F0 m 12 ls [.int 0]) rfl ?_
  refine lv_if_eq (tgt := 34) hx hb dB_binary_12 (by decide) (fun _ => ?_) (fun h => ((by revert h; decide : False)).elim)
  refine lv_iconst (v := 0) hx hb dB_binary_34 (by decide) ?_
  obtain ⟨hPc, hDc, hFc⟩ := xcut (wc := []) hP hD hS hA [] rfl rfl (by decide)
  refine xx_thr (vx_runS (As := [.int 0]) (rest := []) ⟨hx, hb, hml, hown, htx⟩ (cB_demand_0 l hl9 D cT aK aV H.size) ⟨callB_of 1 htx (xw_goodC kw_1_221) rfl rfl rfl (htx _ kw_1_1) (htx _ kw_1_219) ⟨by decide, by decide, by decide +kernel⟩ ⟨Nat.le_of_ble_eq_true rfl, Nat.le_of_ble_eq_true rfl⟩, htx _ kw_1_220⟩ ⟨xPre_blind, (fun U hU hW => ⟨rfl, xPre_of hZ hS hFc hPc hDc hK U hU hW⟩)⟩ rfl rfl hl.1 rfl (lv_room (Nat.le_of_ble_eq_true rfl)) dB_binary_35 ⟨Nat.le_of_ble_eq_true rfl, Nat.le_of_ble_eq_true rfl⟩) hS hFc (fun q _ h => hFc q h) (fun E ce q9 u9 t H1 locs ht hvm _ hB hz1 hk1 hS hce hcv hcl => ?_)
  obtain ⟨rfl, hP1, hK1, hD1⟩ := hB
  rw [ht] at hP1
  obtain ⟨hP, hD⟩ := xjoin (W := []) hP hD [] [] 0 rfl rfl (by decide) (by decide) hk1 hFc hP1 hD1
  generalize H1 = H at hP hS hce ⊢
  obtain ⟨hP9, hD9⟩ := xsub (wc := []) hP hD [] rfl rfl (by decide)
  exact vx_out (E := "java/lang/IllegalArgumentException") (fun x h => (hne x h).elim) hlocks hce hcv hcl (fun t ht ha => ⟨(), trivial, ⟨rfl, by rw [ht]; exact hP9, va_K.moved ha hK, hD9⟩, hS.F ht⟩) hS.2.2 (Nat.le_of_ble_eq_true rfl) (Nat.le_of_ble_eq_true rfl)
set_option maxHeartbeats 400000000 in
set_option maxRecDepth 100000 in
theorem cL_binary_2 (l : Launch) (hl9 : l.stackTraces = false) (D : va_G) (cT : Nat → ClassId) (aK aV : Nat → Nat) (sz : Nat) (a0 : Nat) (x1 : Int32) (x6 : Int32) (x8 : Int32) (x9 : Int32) (v10 : Value) (v11 : Value) (v12 : Value) (v13 : Value) (v14 : Value) (v15 : Value) (v16 : Value) (v17 : Value) (h2 : ¬ x1 < 0) (h3 : ¬ 7 < x1) (h4 : x1 ≤ 7) (h5 : vp_in x1 8) (h7 : x6 < 0) : xMet l yL_binary wyL_binary 8 1 6 144 D cT aK aV sz [.ref a0, .int x1, .int x6, .int x8, .int x9] [(a0, .inr (0, [v10, v11, v12, v13, v14, v15, v16, v17]))] (fun A => va_Qi (fun (r : Int32) (_ : Unit) => r = 1) (fun _ t => xB D xcl cT A [(a0, .inr (0, [v10, v11, v12, v13, v14, v15, v16, v17]))] t) A) := by
  refine va_MetW (cc := method_7_code) (maxL := 6) (ret := (some .int)) (hh := [(0, 9, 12, 19), (0, 9, 16, 33), (0, 9, 20, 13)]) (by decide) rfl ?_
  intro p e s m args below meth c s₁ B hml hv
  obtain ⟨rfl, hsz, hZ, hP, hK, hD0⟩ := hv
  have hx := B.exec
  have hb := B.bytes
  have hr := B.returns
  have hts := atoms_spec (ws := wyL_binary) B.pre
  have htx := fun w h => hts w (List.mem_cons_of_mem _ h)
  have hown : s.vm.findClass "ValueBenchLaw" = some m.cls := findClass_of_methodNamed B.named
  have hlocks := B.notSynchronized
  subst hsz
  have hD := hD0.self (sz := s.heap.size)
  generalize hAe : va_A [(a0, .inr (0, [v10, v11, v12, v13, v14, v15, v16, v17]))] s.heap.size = A at hD hZ ⊢
  have hA : ∀ q : Nat, s.heap.size ≤ q → A q := fun q h => by rw [← hAe]; exact Or.inr h
  have hS : va_S A s.heap s.heap [] := va_S.rf
  have hP : va_P D xcl [(a0, .inr (0, [v10, v11, v12, v13, v14, v15, v16, v17]))] s.heap := hP
  have hl := lv_entry ([.ref a0, .int x1, .int x6, .int x8, .int x9]) (n := 6) (Nat.le_of_ble_eq_true rfl)
  rw [lg_entry_eq]
  generalize (lg_sl ([.ref a0, .int x1, .int x6, .int x8, .int x9]) ++ List.replicate (6 - (lg_sl ([.ref a0, .int x1, .int x6, .int x8, .int x9])).length) Slot.unset).toArray = ls at hl ⊢
  have hl : lv_has ls 6 [(0, .ref a0), (1, .int x1), (2, .int x6), (3, .int x8), (4, .int x9)] := hl
  have htab := vx_table (x := yL_binary) B (hts _ List.mem_cons_self)
  refine lv_aload_n hx hb dL_binary_0 rfl (lv_at hl 0 rfl) ?_
  refine lv_iload_n hx hb dL_binary_1 rfl (lv_at hl 1 rfl) ?_
  refine lv_iload_n hx hb dL_binary_2 rfl (lv_at hl 2 rfl) ?_
  refine lv_iload_n hx hb dL_binary_3 rfl (lv_at hl 3 rfl) ?_
  refine lv_iload hx hb dL_binary_4 (lv_at hl 4 rfl) ?_
  obtain ⟨hPc, hDc, hFc⟩ := xcut (wc := []) hP hD hS hA [] rfl rfl (by decide)
  refine xx_thr (vx_runV (C := "ValueBench") (As := [.int x1, .int x6, .int x8, .int x9]) (rest := []) ⟨hx, hb, hml, hown, htx⟩ (cB_binary_2 l hl9 D cT aK aV s.heap.size a0 x1 x6 x8 x9 h2 h3 h4 h5 h7) ⟨callB_of 4 htx (xw_goodC kw_3_102) rfl rfl rfl (htx _ kw_1_1) (htx _ kw_3_99) ⟨by decide, by decide, by decide +kernel⟩ ⟨Nat.le_of_ble_eq_true rfl, Nat.le_of_ble_eq_true rfl⟩, (htx _ kw_3_100), (htx _ kw_3_101)⟩ ⟨xPre_blind, va_recv hK hP (ci := 0) rfl (q0 := 0) rfl, (fun U hU hW => ⟨rfl, xPre_of hZ hS hFc hPc hDc hK U hU hW⟩)⟩ rfl rfl hl.1 rfl (lv_room (Nat.le_of_ble_eq_true rfl)) dL_binary_6 ⟨Nat.le_of_ble_eq_true rfl, Nat.le_of_ble_eq_true rfl⟩) hS hFc (fun q _ h => hFc q h) (fun E ce q9 u9 t H1 locs ht hvm _ hB hz1 hk1 hS hce hcv hcl => ?_)
  obtain ⟨rfl, hP1, hK1, hD1⟩ := hB
  rw [ht] at hP1
  obtain ⟨hP, hD⟩ := xjoin (W := [(a0, .inr (0, [v10, v11, v12, v13, v14, v15, v16, v17]))]) hP hD [] [0] 1 rfl rfl (by decide) (by decide) hk1 hFc hP1 hD1
  generalize H1 = H at hP hS hce ⊢
  refine vx_catch (own := "ValueBenchLaw") (name := "java/lang/IllegalArgumentException") (E := "java/lang/IllegalArgumentException") hown [] ⟨0, 9, 12, 19⟩ [⟨0, 9, 16, 33⟩, ⟨0, 9, 20, 13⟩] (by rw [htab]; rfl) (fun z hz => nomatch hz) (by decide) (by decide) (htx _ kw_1_211) ((hZ.2.2.2.2.2.1 "java/lang/IllegalArgumentException" (List.mem_of_getElem? (i := 1) rfl)).use rfl) hce hcv hcl ?_
  refine lv_astore (lv' := [(5, .ref q9), (0, .ref a0), (1, .int x1), (2, .int x6), (3, .int x8), (4, .int x9)]) hx hb dL_binary_12 hl (by decide) rfl (fun ls hl => ?_)
  refine lv_iconst (v := 1) hx hb dL_binary_14 (by decide) ?_
  obtain ⟨hP9, hD9⟩ := xsub (wc := [(a0, .inr (0, [v10, v11, v12, v13, v14, v15, v16, v17]))]) hP hD [0] rfl rfl (by decide)
  refine W.widen (k := 1) (n := 6) (Nat.le_of_ble_eq_true rfl) (Nat.le_of_ble_eq_true rfl) ?_
  exact W.iret (v := 1) hx hb hr (fun t ht hW => ⟨⟨1, (), rfl, rfl, by rw [ht]; exact hP9, va_K.moved hW.alike hK, hD9⟩, hS.F ht⟩) hS.2.2 dL_binary_15
set_option maxHeartbeats 400000000 in
set_option maxRecDepth 100000 in
theorem cM_binary0_2 (l : Launch) (hl9 : l.stackTraces = false) (D : va_G) (cT : Nat → ClassId) (aK aV : Nat → Nat) (sz : Nat) (a0 : Nat) (x1 : Int32) (x6 : Int32) (x8 : Int32) (x9 : Int32) (v10 : Value) (v11 : Value) (v12 : Value) (v13 : Value) (v14 : Value) (v15 : Value) (v16 : Value) (v17 : Value) (v18 : Value) (v19 : Value) (v20 : Value) (v21 : Value) (v22 : Value) (v23 : Value) (v24 : Value) (v25 : Value) (v26 : Value) (v27 : Value) (v28 : Value) (v29 : Value) (v30 : Value) (v31 : Value) (v32 : Value) (v33 : Value) (v34 : Value) (v35 : Value) (v36 : Value) (v37 : Value) (v38 : Value) (v39 : Value) (v40 : Value) (v41 : Value) (h2 : ¬ x1 < 0) (h3 : ¬ 7 < x1) (h4 : x1 ≤ 7) (h5 : vp_in x1 8) (h7 : x6 < 0) : xMet l yM_binary0 wyM_binary0 2 0 0 40 D cT aK aV sz [.ref a0, .int x1, .int x6, .int x8, .int x9] [(a0, .inr (5, [v10, v11, v12, v13, v14, v15, v16, v17, v18, v19, v20, v21, v22, v23, v24, v25, v26, v27, v28, v29, v30, v31, v32, v33, v34, v35, v36, v37, v38, v39, v40, v41]))] (fun A => va_Qv (fun _ : Unit => True) (fun _ t => xB D xcl cT A [(a0, .inr (5, [.int 1, v11, .int 0, v13, .int 0, v15, v16, .int 0, v18, .int 0, v20, v21, .int 0, v23, v24, v25, v26, v27, v28, v29, v30, v31, .int 0, .int 1000000000, v34, v35, v36, v37, v38, v39, v40, v41]))] t) A) := by
  refine Met.ofW (cc := prog_13_method_89_code) (maxL := 5) (ret := none) (by decide) rfl ?_
  intro p e s m args below meth c s₁ B hml hv
  obtain ⟨rfl, hsz, hZ, hP, hK, hD0⟩ := hv
  have hx := B.exec
  have hb := B.bytes
  have hr := B.returns
  have hts := atoms_spec (ws := wyM_binary0) B.pre
  have htx := fun w h => hts w (List.mem_cons_of_mem _ h)
  have hown : s.vm.findClass "ValueBenchModel" = some m.cls := findClass_of_methodNamed B.named
  have hlocks := B.notSynchronized
  subst hsz
  have hD := hD0.self (sz := s.heap.size)
  generalize hAe : va_A [(a0, .inr (5, [v10, v11, v12, v13, v14, v15, v16, v17, v18, v19, v20, v21, v22, v23, v24, v25, v26, v27, v28, v29, v30, v31, v32, v33, v34, v35, v36, v37, v38, v39, v40, v41]))] s.heap.size = A at hD hZ ⊢
  have hA : ∀ q : Nat, s.heap.size ≤ q → A q := fun q h => by rw [← hAe]; exact Or.inr h
  have hS : va_S A s.heap s.heap [] := va_S.rf
  have hP : va_P D xcl [(a0, .inr (5, [v10, v11, v12, v13, v14, v15, v16, v17, v18, v19, v20, v21, v22, v23, v24, v25, v26, v27, v28, v29, v30, v31, v32, v33, v34, v35, v36, v37, v38, v39, v40, v41]))] s.heap := hP
  have hl := lv_entry ([.ref a0, .int x1, .int x6, .int x8, .int x9]) (n := 5) (Nat.le_of_ble_eq_true rfl)
  rw [lg_entry_eq]
  generalize (lg_sl ([.ref a0, .int x1, .int x6, .int x8, .int x9]) ++ List.replicate (5 - (lg_sl ([.ref a0, .int x1, .int x6, .int x8, .int x9])).length) Slot.unset).toArray = ls at hl ⊢
  have hl : lv_has ls 5 [(0, .ref a0), (1, .int x1), (2, .int x6), (3, .int x8), (4, .int x9)] := hl
  refine lv_aload_n hx hb dM_binary0_0 rfl (lv_at hl 0 rfl) ?_
  obtain ⟨hPc, hDc, hFc⟩ := xcut (wc := [(a0, .inr (5, [v10, v11, v12, v13, v14, v15, v16, v17, v18, v19, v20, v21, v22, v23, v24, v25, v26, v27, v28, v29, v30, v31, v32, v33, v34, v35, v36, v37, v38, v39, v40, v41]))]) hP hD hS hA [0] rfl rfl (by decide)
  refine va_callv (va_runV (C := "ValueBenchModel") (As := []) (rest := []) ⟨hx, hb, hml, hown, htx⟩ (cM_begin_0 l hl9 D cT aK aV s.heap.size a0 v10 v11 v12 v13 v14 v15 v16 v17 v18 v19 v20 v21 v22 v23 v24 v25 v26 v27 v28 v29 v30 v31 v32 v33 v34 v35 v36 v37 v38 v39 v40 v41) ⟨callB_of 0 htx (xw_goodC kw_5_209) rfl rfl rfl (htx _ kw_1_5) (htx _ kw_5_206) ⟨by decide, by decide, by decide +kernel⟩ ⟨Nat.le_of_ble_eq_true rfl, Nat.le_of_ble_eq_true rfl⟩, (htx _ kw_5_208), (htx _ kp_M_begin)⟩ ⟨xPre_blind, va_recv hK hP (ci := 5) rfl (q0 := 0) rfl, (fun U hU hW => ⟨rfl, xPre_of hZ hS hFc hPc hDc hK U hU hW⟩)⟩ rfl rfl hl.1 rfl (lv_room (Nat.le_of_ble_eq_true rfl)) dM_binary0_1 ⟨Nat.le_of_ble_eq_true rfl, Nat.le_of_ble_eq_true rfl⟩) hS (fun q _ h => hFc q h) hFc (fun u9 t H1 locs ht hvm hr9 hB hz1 hk1 hS => ?_)
  obtain ⟨hP1, hK1, hD1⟩ := hB
  rw [ht] at hP1
  obtain ⟨hP, hD⟩ := xjoin (W := [(a0, .inr (5, [.int 0, v11, .int 0, v13, .int 0, v15, v16, .int 0, v18, .int 0, v20, v21, .int 0, v23, v24, v25, v26, v27, v28, v29, v30, v31, .int 0, .int 1000000000, v34, v35, v36, v37, v38, v39, v40, v41]))]) hP hD [0] [] 0 rfl rfl (by decide) (by decide) hk1 hFc hP1 hD1
  generalize H1 = H at hP hS ⊢
  refine lv_aload_n hx hb dM_binary0_4 rfl (lv_at hl 0 rfl) ?_
  refine lv_iload_n hx hb dM_binary0_5 rfl (lv_at hl 1 rfl) ?_
  obtain ⟨hPc, hDc, hFc⟩ := xcut (wc := []) hP hD hS hA [] rfl rfl (by decide)
  refine va_calli (va_runV (C := "ValueBenchModel") (As := [.int x1]) (rest := []) ⟨hx, hb, hml, hown, htx⟩ (cM_out_2 l hl9 D cT aK aV H.size a0 x1 h2 h3 h4 h5) ⟨callB_of 1 htx (xw_goodC kw_5_217) rfl rfl rfl (htx _ kw_1_5) (htx _ kw_5_214) ⟨by decide, by decide, by decide +kernel⟩ ⟨Nat.le_of_ble_eq_true rfl, Nat.le_of_ble_eq_true rfl⟩, (htx _ kw_5_216), (htx _ kp_M_out)⟩ ⟨xPre_blind, va_recv hK hP (ci := 5) rfl (q0 := 0) rfl, (fun U hU hW => ⟨rfl, xPre_of hZ hS hFc hPc hDc hK U hU hW⟩)⟩ rfl rfl hl.1 rfl (lv_room (Nat.le_of_ble_eq_true rfl)) dM_binary0_6 ⟨Nat.le_of_ble_eq_true rfl, Nat.le_of_ble_eq_true rfl⟩) hS (fun q _ h => hFc q h) hFc (fun r1 u9 t H1 locs ht hvm hr9 hB hz1 hk1 hS => ?_)
  obtain ⟨hP1, hK1, hD1⟩ := hB
  rw [ht] at hP1
  obtain ⟨hP, hD⟩ := xjoin (W := [(a0, .inr (5, [.int 0, v11, .int 0, v13, .int 0, v15, v16, .int 0, v18, .int 0, v20, v21, .int 0, v23, v24, v25, v26, v27, v28, v29, v30, v31, .int 0, .int 1000000000, v34, v35, v36, v37, v38, v39, v40, v41]))]) hP hD [] [0] 1 rfl rfl (by decide) (by decide) hk1 hFc hP1 hD1
  generalize H1 = H at hP hS ⊢
  rw [hr9]
  refine W.eq (g2 := F0 m 9 ls [.int 0]) rfl ?_
  refine lv_if_ne (tgt := 38) hx hb dM_binary0_9 (by decide) (fun h => ((by revert h; decide : False)).elim) (fun _ => ?_)
  refine lv_iload_n hx hb dM_binary0_12 rfl (lv_at hl 2 rfl) ?_
  refine lv_if_lt (tgt := 38) hx hb dM_binary0_13 (by decide) (fun _ => ?_) (fun h => by first | exact absurd h h7 | exact absurd h7 h)
  refine lv_aload_n hx hb dM_binary0_38 rfl (lv_at hl 0 rfl) ?_
  refine lv_iconst (v := 1) hx hb dM_binary0_39 (by decide) ?_
  refine va_put (D := D) (ci := 5) (v := .int 1) (ty := .int) (C := "ValueBenchModel") (T := TM) (N := 32) hx hb htx inM tyM tyM_ok nmM hown hK hP hD hS 0 rfl rfl 0 (by decide) (htx _ kw_5_87) (fun _ h9 => h9) rfl (by decide +kernel) rfl rfl (Nat.le_of_ble_eq_true rfl) dM_binary0_40 (fun H locs hP hD hS => ?_)
  obtain ⟨hP, hD⟩ : xPD D xcl A [(a0, .inr (5, [.int 1, v11, .int 0, v13, .int 0, v15, v16, .int 0, v18, .int 0, v20, v21, .int 0, v23, v24, v25, v26, v27, v28, v29, v30, v31, .int 0, .int 1000000000, v34, v35, v36, v37, v38, v39, v40, v41]))] H := ⟨hP, hD⟩
  refine lv_goto (tgt := 56) hx hb dM_binary0_43 (by decide) ?_
  obtain ⟨hP9, hD9⟩ := xsub (wc := [(a0, .inr (5, [.int 1, v11, .int 0, v13, .int 0, v15, v16, .int 0, v18, .int 0, v20, v21, .int 0, v23, v24, v25, v26, v27, v28, v29, v30, v31, .int 0, .int 1000000000, v34, v35, v36, v37, v38, v39, v40, v41]))]) hP hD [0] rfl rfl (by decide)
  refine W.widen (k := 0) (n := 0) (Nat.le_of_ble_eq_true rfl) (Nat.le_of_ble_eq_true rfl) ?_
  exact W.vret hx hb hr (fun t ht hW => ⟨⟨(), rfl, trivial, by rw [ht]; exact hP9, va_K.moved hW.alike hK, hD9⟩, hS.F ht⟩) hS.2.2 dM_binary0_56
set_option maxHeartbeats 400000000 in
set_option maxRecDepth 100000 in
theorem cB_isWithin_5 (l : Launch) (hl9 : l.stackTraces = false) (D : va_G) (cT : Nat → ClassId) (aK aV : Nat → Nat) (sz : Nat) (x0 : Int32) (h1 : ¬ x0 < 0) (h2 : 4 < x0) (h3 : ¬ x0 ≤ 4) : xMet l yB_isWithin wyB_isWithin 0 0 0 0 D cT aK aV sz [.int x0, .int 4] [] (fun A => va_Qi (fun (r : Int32) (_ : Unit) => r = 0) (fun _ t => xB D xcl cT A [] t) A) := by
  refine Met.ofW (cc := prog_1_method_15_code) (maxL := 2) (ret := (some .boolean)) (by decide) rfl ?_
  intro p e s m args below meth c s₁ B hml hv
  obtain ⟨rfl, hsz, hZ, hP, hK, hD0⟩ := hv
  have hx := B.exec
  have hb := B.bytes
  have hr := B.returns
  have hts := atoms_spec (ws := wyB_isWithin) B.pre
  have htx := fun w h => hts w (List.mem_cons_of_mem _ h)
  have hown : s.vm.findClass "ValueBench" = some m.cls := findClass_of_methodNamed B.named
  have hlocks := B.notSynchronized
  subst hsz
  have hD := hD0.self (sz := s.heap.size)
  generalize hAe : va_A [] s.heap.size = A at hD hZ ⊢
  have hA : ∀ q : Nat, s.heap.size ≤ q → A q := fun q h => by rw [← hAe]; exact Or.inr h
  have hS : va_S A s.heap s.heap [] := va_S.rf
  have hP : va_P D xcl [] s.heap := hP
  have hl := lv_entry ([.int x0, .int 4]) (n := 2) (Nat.le_of_ble_eq_true rfl)
  rw [lg_entry_eq]
  generalize (lg_sl ([.int x0, .int 4]) ++ List.replicate (2 - (lg_sl ([.int x0, .int 4])).length) Slot.unset).toArray = ls at hl ⊢
  have hl : lv_has ls 2 [(0, .int x0), (1, .int 4)] := hl
  refine lv_iload_n hx hb dB_isWithin_0 rfl (lv_at hl 0 rfl) ?_
  refine lv_if_lt (tgt := 13) hx hb dB_isWithin_1 (by decide) (fun h => by first | exact absurd h h1 | exact absurd h h2 | exact absurd h h3 | exact absurd h1 h | exact absurd h2 h | exact absurd h3 h) (fun _ => ?_)
  refine lv_iload_n hx hb dB_isWithin_4 rfl (lv_at hl 0 rfl) ?_
  refine lv_iload_n hx hb dB_isWithin_5 rfl (lv_at hl 1 rfl) ?_
  refine lv_icmp_gt (tgt := 13) hx hb dB_isWithin_6 (by decide) (fun _ => ?_) (fun h => by first | exact absurd h h1 | exact absurd h h2 | exact absurd h h3 | exact absurd h1 h | exact absurd h2 h | exact absurd h3 h)
  refine lv_iconst (v := 0) hx hb dB_isWithin_13 (by decide) ?_
  obtain ⟨hP9, hD9⟩ := xsub (wc := []) hP hD [] rfl rfl (by decide)
  refine W.widen (k := 0) (n := 0) (Nat.le_of_ble_eq_true rfl) (Nat.le_of_ble_eq_true rfl) ?_
  exact W.zret (v := 0) hx hb hr rfl (fun t ht hW => ⟨⟨0, (), rfl, rfl, by rw [ht]; exact hP9, va_K.moved hW.alike hK, hD9⟩, hS.F ht⟩) hS.2.2 dB_isWithin_14
set_option maxHeartbeats 400000000 in
set_option maxRecDepth 100000 in
theorem cB_binary_3 (l : Launch) (hl9 : l.stackTraces = false) (D : va_G) (cT : Nat → ClassId) (aK aV : Nat → Nat) (sz : Nat) (b0 : Nat) (x1 : Int32) (x6 : Int32) (x10 : Int32) (x11 : Int32) (h2 : ¬ x1 < 0) (h3 : ¬ 7 < x1) (h4 : x1 ≤ 7) (h5 : vp_in x1 8) (h7 : ¬ x6 < 0) (h8 : 4 < x6) (h9 : ¬ x6 ≤ 4) : xMetX l yB_binary wyB_binary 7 1 6 120 D cT aK aV sz [.ref b0, .int x1, .int x6, .int x10, .int x11] [] "java/lang/IllegalArgumentException" (fun A t => xB D xcl cT A [] t) := by
  refine vx_ofW (cc := prog_1_method_6_code) (maxL := 5) (ret := none) (by decide) rfl ?_
  intro p e s m args below meth c s₁ B hml hne hv
  obtain ⟨rfl, hsz, hZ, hP, hK, hD0⟩ := hv
  have hx := B.exec
  have hb := B.bytes
  have hr := B.returns
  have hts := atoms_spec (ws := wyB_binary) B.pre
  have htx := fun w h => hts w (List.mem_cons_of_mem _ h)
  have hown : s.vm.findClass "ValueBench" = some m.cls := findClass_of_methodNamed B.named
  have hlocks := B.notSynchronized
  subst hsz
  have hD := hD0.self (sz := s.heap.size)
  generalize hAe : va_A [] s.heap.size = A at hD hZ ⊢
  have hA : ∀ q : Nat, s.heap.size ≤ q → A q := fun q h => by rw [← hAe]; exact Or.inr h
  have hS : va_S A s.heap s.heap [] := va_S.rf
  have hP : va_P D xcl [] s.heap := hP
  have hl := lv_entry ([.ref b0, .int x1, .int x6, .int x10, .int x11]) (n := 5) (Nat.le_of_ble_eq_true rfl)
  rw [lg_entry_eq]
  generalize (lg_sl ([.ref b0, .int x1, .int x6, .int x10, .int x11]) ++ List.replicate (5 - (lg_sl ([.ref b0, .int x1, .int x6, .int x10, .int x11])).length) Slot.unset).toArray = ls at hl ⊢
  have hl : lv_has ls 5 [(0, .ref b0), (1, .int x1), (2, .int x6), (3, .int x10), (4, .int x11)] := hl
  refine lv_iload_n hx hb dB_binary_0 rfl (lv_at hl 1 rfl) ?_
  obtain ⟨hPc, hDc, hFc⟩ := xcut (wc := []) hP hD hS hA [] rfl rfl (by decide)
  refine va_calli (va_runS (As := [.int x1]) (rest := []) ⟨hx, hb, hml, hown, htx⟩ (cB_isRegister_2 l hl9 D cT aK aV s.heap.size x1 h2 h3 h4 h5) ⟨callB_of 1 htx (xw_goodC kw_2_18) rfl rfl rfl (htx _ kw_1_1) (htx _ kw_2_16) ⟨by decide, by decide, by decide +kernel⟩ ⟨Nat.le_of_ble_eq_true rfl, Nat.le_of_ble_eq_true rfl⟩, htx _ kw_2_17⟩ ⟨xPre_blind, (fun U hU hW => ⟨rfl, xPre_of hZ hS hFc hPc hDc hK U hU hW⟩)⟩ rfl rfl hl.1 rfl (lv_room (Nat.le_of_ble_eq_true rfl)) dB_binary_1 ⟨Nat.le_of_ble_eq_true rfl, Nat.le_of_ble_eq_true rfl⟩) hS (fun q _ h => hFc q h) hFc (fun r1 u9 t H1 locs ht hvm hr9 hB hz1 hk1 hS => ?_)
  obtain ⟨hP1, hK1, hD1⟩ := hB
  rw [ht] at hP1
  obtain ⟨hP, hD⟩ := xjoin (W := []) hP hD [] [] 0 rfl rfl (by decide) (by decide) hk1 hFc hP1 hD1
  generalize H1 = H at hP hS ⊢
  rw [hr9]
  refine W.eq (g2 := F0 m 4 ls [.int 1]) rfl ?_
  refine lv_if_eq (tgt := 34) hx hb dB_binary_4 (by decide) (fun h => ((by revert h; decide : False)).elim) (fun _ => ?_)
  refine lv_iload_n hx hb dB_binary_7 rfl (lv_at hl 2 rfl) ?_
  refine lv_iconst (v := 4) hx hb dB_binary_8 (by decide) ?_
  obtain ⟨hPc, hDc, hFc⟩ := xcut (wc := []) hP hD hS hA [] rfl rfl (by decide)
  refine va_calli (va_runS (As := [.int x6, .int 4]) (rest := []) ⟨hx, hb, hml, hown, htx⟩ (cB_isWithin_5 l hl9 D cT aK aV H.size x6 h7 h8 h9) ⟨callB_of 2 htx (xw_goodC kw_1_218) rfl rfl rfl (htx _ kw_1_1) (htx _ kw_1_216) ⟨by decide, by decide, by decide +kernel⟩ ⟨Nat.le_of_ble_eq_true rfl, Nat.le_of_ble_eq_true rfl⟩, htx _ kw_1_217⟩ ⟨xPre_blind, (fun U hU hW => ⟨rfl, xPre_of hZ hS hFc hPc hDc hK U hU hW⟩)⟩ rfl rfl hl.1 rfl (lv_room (Nat.le_of_ble_eq_true rfl)) dB_binary_9 ⟨Nat.le_of_ble_eq_true rfl, Nat.le_of_ble_eq_true rfl⟩) hS (fun q _ h => hFc q h) hFc (fun r2 u9 t H1 locs ht hvm hr9 hB hz1 hk1 hS => ?_)
  obtain ⟨hP1, hK1, hD1⟩ := hB
  rw [ht] at hP1
  obtain ⟨hP, hD⟩ := xjoin (W := []) hP hD [] [] 0 rfl rfl (by decide) (by decide) hk1 hFc hP1 hD1
  generalize H1 = H at hP hS ⊢
  rw [hr9]
  refine W.eq (g2 := F0 m 12 ls [.int 0]) rfl ?_
  refine lv_if_eq (tgt := 34) hx hb dB_binary_12 (by decide) (fun _ => ?_) (fun h => ((by revert h; decide : False)).elim)
  refine lv_iconst (v := 0) hx hb dB_binary_34 (by decide) ?_
  obtain ⟨hPc, hDc, hFc⟩ := xcut (wc := []) hP hD hS hA [] rfl rfl (by decide)
  refine xx_thr (vx_runS (As := [.int 0]) (rest := []) ⟨hx, hb, hml, hown, htx⟩ (cB_demand_0 l hl9 D cT aK aV H.size) ⟨callB_of 1 htx (xw_goodC kw_1_221) rfl rfl rfl (htx _ kw_1_1) (htx _ kw_1_219) ⟨by decide, by decide, by decide +kernel⟩ ⟨Nat.le_of_ble_eq_true rfl, Nat.le_of_ble_eq_true rfl⟩, htx _ kw_1_220⟩ ⟨xPre_blind, (fun U hU hW => ⟨rfl, xPre_of hZ hS hFc hPc hDc hK U hU hW⟩)⟩ rfl rfl hl.1 rfl (lv_room (Nat.le_of_ble_eq_true rfl)) dB_binary_35 ⟨Nat.le_of_ble_eq_true rfl, Nat.le_of_ble_eq_true rfl⟩) hS hFc (fun q _ h => hFc q h) (fun E ce q9 u9 t H1 locs ht hvm _ hB hz1 hk1 hS hce hcv hcl => ?_)
  obtain ⟨rfl, hP1, hK1, hD1⟩ := hB
  rw [ht] at hP1
  obtain ⟨hP, hD⟩ := xjoin (W := []) hP hD [] [] 0 rfl rfl (by decide) (by decide) hk1 hFc hP1 hD1
  generalize H1 = H at hP hS hce ⊢
  obtain ⟨hP9, hD9⟩ := xsub (wc := []) hP hD [] rfl rfl (by decide)
  exact vx_out (E := "java/lang/IllegalArgumentException") (fun x h => (hne x h).elim) hlocks hce hcv hcl (fun t ht ha => ⟨(), trivial, ⟨rfl, by rw [ht]; exact hP9, va_K.moved ha hK, hD9⟩, hS.F ht⟩) hS.2.2 (Nat.le_of_ble_eq_true rfl) (Nat.le_of_ble_eq_true rfl)
set_option maxHeartbeats 400000000 in
set_option maxRecDepth 100000 in
theorem cL_binary_3 (l : Launch) (hl9 : l.stackTraces = false) (D : va_G) (cT : Nat → ClassId) (aK aV : Nat → Nat) (sz : Nat) (a0 : Nat) (x1 : Int32) (x6 : Int32) (x10 : Int32) (x11 : Int32) (v12 : Value) (v13 : Value) (v14 : Value) (v15 : Value) (v16 : Value) (v17 : Value) (v18 : Value) (v19 : Value) (h2 : ¬ x1 < 0) (h3 : ¬ 7 < x1) (h4 : x1 ≤ 7) (h5 : vp_in x1 8) (h7 : ¬ x6 < 0) (h8 : 4 < x6) (h9 : ¬ x6 ≤ 4) : xMet l yL_binary wyL_binary 8 1 6 144 D cT aK aV sz [.ref a0, .int x1, .int x6, .int x10, .int x11] [(a0, .inr (0, [v12, v13, v14, v15, v16, v17, v18, v19]))] (fun A => va_Qi (fun (r : Int32) (_ : Unit) => r = 1) (fun _ t => xB D xcl cT A [(a0, .inr (0, [v12, v13, v14, v15, v16, v17, v18, v19]))] t) A) := by
  refine va_MetW (cc := method_7_code) (maxL := 6) (ret := (some .int)) (hh := [(0, 9, 12, 19), (0, 9, 16, 33), (0, 9, 20, 13)]) (by decide) rfl ?_
  intro p e s m args below meth c s₁ B hml hv
  obtain ⟨rfl, hsz, hZ, hP, hK, hD0⟩ := hv
  have hx := B.exec
  have hb := B.bytes
  have hr := B.returns
  have hts := atoms_spec (ws := wyL_binary) B.pre
  have htx := fun w h => hts w (List.mem_cons_of_mem _ h)
  have hown : s.vm.findClass "ValueBenchLaw" = some m.cls := findClass_of_methodNamed B.named
  have hlocks := B.notSynchronized
  subst hsz
  have hD := hD0.self (sz := s.heap.size)
  generalize hAe : va_A [(a0, .inr (0, [v12, v13, v14, v15, v16, v17, v18, v19]))] s.heap.size = A at hD hZ ⊢
  have hA : ∀ q : Nat, s.heap.size ≤ q → A q := fun q h => by rw [← hAe]; exact Or.inr h
  have hS : va_S A s.heap s.heap [] := va_S.rf
  have hP : va_P D xcl [(a0, .inr (0, [v12, v13, v14, v15, v16, v17, v18, v19]))] s.heap := hP
  have hl := lv_entry ([.ref a0, .int x1, .int x6, .int x10, .int x11]) (n := 6) (Nat.le_of_ble_eq_true rfl)
  rw [lg_entry_eq]
  generalize (lg_sl ([.ref a0, .int x1, .int x6, .int x10, .int x11]) ++ List.replicate (6 - (lg_sl ([.ref a0, .int x1, .int x6, .int x10, .int x11])).length) Slot.unset).toArray = ls at hl ⊢
  have hl : lv_has ls 6 [(0, .ref a0), (1, .int x1), (2, .int x6), (3, .int x10), (4, .int x11)] := hl
  have htab := vx_table (x := yL_binary) B (hts _ List.mem_cons_self)
  refine lv_aload_n hx hb dL_binary_0 rfl (lv_at hl 0 rfl) ?_
  refine lv_iload_n hx hb dL_binary_1 rfl (lv_at hl 1 rfl) ?_
  refine lv_iload_n hx hb dL_binary_2 rfl (lv_at hl 2 rfl) ?_
  refine lv_iload_n hx hb dL_binary_3 rfl (lv_at hl 3 rfl) ?_
  refine lv_iload hx hb dL_binary_4 (lv_at hl 4 rfl) ?_
  obtain ⟨hPc, hDc, hFc⟩ := xcut (wc := []) hP hD hS hA [] rfl rfl (by decide)
  refine xx_thr (vx_runV (C := "ValueBench") (As := [.int x1, .int x6, .int x10, .int x11]) (rest := []) ⟨hx, hb, hml, hown, htx⟩ (cB_binary_3 l hl9 D cT aK aV s.heap.size a0 x1 x6 x10 x11 h2 h3 h4 h5 h7 h8 h9) ⟨callB_of 4 htx (xw_goodC kw_3_102) rfl rfl rfl (htx _ kw_1_1) (htx _ kw_3_99) ⟨by decide, by decide, by decide +kernel⟩ ⟨Nat.le_of_ble_eq_true rfl, Nat.le_of_ble_eq_true rfl⟩, (htx _ kw_3_100), (htx _ kw_3_101)⟩ ⟨xPre_blind, va_recv hK hP (ci := 0) rfl (q0 := 0) rfl, (fun U hU hW => ⟨rfl, xPre_of hZ hS hFc hPc hDc hK U hU hW⟩)⟩ rfl rfl hl.1 rfl (lv_room (Nat.le_of_ble_eq_true rfl)) dL_binary_6 ⟨Nat.le_of_ble_eq_true rfl, Nat.le_of_ble_eq_true rfl⟩) hS hFc (fun q _ h => hFc q h) (fun E ce q9 u9 t H1 locs ht hvm _ hB hz1 hk1 hS hce hcv hcl => ?_)
  obtain ⟨rfl, hP1, hK1, hD1⟩ := hB
  rw [ht] at hP1
  obtain ⟨hP, hD⟩ := xjoin (W := [(a0, .inr (0, [v12, v13, v14, v15, v16, v17, v18, v19]))]) hP hD [] [0] 1 rfl rfl (by decide) (by decide) hk1 hFc hP1 hD1
  generalize H1 = H at hP hS hce ⊢
  refine vx_catch (own := "ValueBenchLaw") (name := "java/lang/IllegalArgumentException") (E := "java/lang/IllegalArgumentException") hown [] ⟨0, 9, 12, 19⟩ [⟨0, 9, 16, 33⟩, ⟨0, 9, 20, 13⟩] (by rw [htab]; rfl) (fun z hz => nomatch hz) (by decide) (by decide) (htx _ kw_1_211) ((hZ.2.2.2.2.2.1 "java/lang/IllegalArgumentException" (List.mem_of_getElem? (i := 1) rfl)).use rfl) hce hcv hcl ?_
  refine lv_astore (lv' := [(5, .ref q9), (0, .ref a0), (1, .int x1), (2, .int x6), (3, .int x10), (4, .int x11)]) hx hb dL_binary_12 hl (by decide) rfl (fun ls hl => ?_)
  refine lv_iconst (v := 1) hx hb dL_binary_14 (by decide) ?_
  obtain ⟨hP9, hD9⟩ := xsub (wc := [(a0, .inr (0, [v12, v13, v14, v15, v16, v17, v18, v19]))]) hP hD [0] rfl rfl (by decide)
  refine W.widen (k := 1) (n := 6) (Nat.le_of_ble_eq_true rfl) (Nat.le_of_ble_eq_true rfl) ?_
  exact W.iret (v := 1) hx hb hr (fun t ht hW => ⟨⟨1, (), rfl, rfl, by rw [ht]; exact hP9, va_K.moved hW.alike hK, hD9⟩, hS.F ht⟩) hS.2.2 dL_binary_15
set_option maxHeartbeats 400000000 in
set_option maxRecDepth 100000 in
theorem cM_binary0_3 (l : Launch) (hl9 : l.stackTraces = false) (D : va_G) (cT : Nat → ClassId) (aK aV : Nat → Nat) (sz : Nat) (a0 : Nat) (x1 : Int32) (x6 : Int32) (x10 : Int32) (x11 : Int32) (v12 : Value) (v13 : Value) (v14 : Value) (v15 : Value) (v16 : Value) (v17 : Value) (v18 : Value) (v19 : Value) (v20 : Value) (v21 : Value) (v22 : Value) (v23 : Value) (v24 : Value) (v25 : Value) (v26 : Value) (v27 : Value) (v28 : Value) (v29 : Value) (v30 : Value) (v31 : Value) (v32 : Value) (v33 : Value) (v34 : Value) (v35 : Value) (v36 : Value) (v37 : Value) (v38 : Value) (v39 : Value) (v40 : Value) (v41 : Value) (v42 : Value) (v43 : Value) (h2 : ¬ x1 < 0) (h3 : ¬ 7 < x1) (h4 : x1 ≤ 7) (h5 : vp_in x1 8) (h7 : ¬ x6 < 0) (h8 : 4 < x6) (h9 : ¬ x6 ≤ 4) : xMet l yM_binary0 wyM_binary0 2 0 0 40 D cT aK aV sz [.ref a0, .int x1, .int x6, .int x10, .int x11] [(a0, .inr (5, [v12, v13, v14, v15, v16, v17, v18, v19, v20, v21, v22, v23, v24, v25, v26, v27, v28, v29, v30, v31, v32, v33, v34, v35, v36, v37, v38, v39, v40, v41, v42, v43]))] (fun A => va_Qv (fun _ : Unit => True) (fun _ t => xB D xcl cT A [(a0, .inr (5, [.int 1, v13, .int 0, v15, .int 0, v17, v18, .int 0, v20, .int 0, v22, v23, .int 0, v25, v26, v27, v28, v29, v30, v31, v32, v33, .int 0, .int 1000000000, v36, v37, v38, v39, v40, v41, v42, v43]))] t) A) := by
  refine Met.ofW (cc := prog_13_method_89_code) (maxL := 5) (ret := none) (by decide) rfl ?_
  intro p e s m args below meth c s₁ B hml hv
  obtain ⟨rfl, hsz, hZ, hP, hK, hD0⟩ := hv
  have hx := B.exec
  have hb := B.bytes
  have hr := B.returns
  have hts := atoms_spec (ws := wyM_binary0) B.pre
  have htx := fun w h => hts w (List.mem_cons_of_mem _ h)
  have hown : s.vm.findClass "ValueBenchModel" = some m.cls := findClass_of_methodNamed B.named
  have hlocks := B.notSynchronized
  subst hsz
  have hD := hD0.self (sz := s.heap.size)
  generalize hAe : va_A [(a0, .inr (5, [v12, v13, v14, v15, v16, v17, v18, v19, v20, v21, v22, v23, v24, v25, v26, v27, v28, v29, v30, v31, v32, v33, v34, v35, v36, v37, v38, v39, v40, v41, v42, v43]))] s.heap.size = A at hD hZ ⊢
  have hA : ∀ q : Nat, s.heap.size ≤ q → A q := fun q h => by rw [← hAe]; exact Or.inr h
  have hS : va_S A s.heap s.heap [] := va_S.rf
  have hP : va_P D xcl [(a0, .inr (5, [v12, v13, v14, v15, v16, v17, v18, v19, v20, v21, v22, v23, v24, v25, v26, v27, v28, v29, v30, v31, v32, v33, v34, v35, v36, v37, v38, v39, v40, v41, v42, v43]))] s.heap := hP
  have hl := lv_entry ([.ref a0, .int x1, .int x6, .int x10, .int x11]) (n := 5) (Nat.le_of_ble_eq_true rfl)
  rw [lg_entry_eq]
  generalize (lg_sl ([.ref a0, .int x1, .int x6, .int x10, .int x11]) ++ List.replicate (5 - (lg_sl ([.ref a0, .int x1, .int x6, .int x10, .int x11])).length) Slot.unset).toArray = ls at hl ⊢
  have hl : lv_has ls 5 [(0, .ref a0), (1, .int x1), (2, .int x6), (3, .int x10), (4, .int x11)] := hl
  refine lv_aload_n hx hb dM_binary0_0 rfl (lv_at hl 0 rfl) ?_
  obtain ⟨hPc, hDc, hFc⟩ := xcut (wc := [(a0, .inr (5, [v12, v13, v14, v15, v16, v17, v18, v19, v20, v21, v22, v23, v24, v25, v26, v27, v28, v29, v30, v31, v32, v33, v34, v35, v36, v37, v38, v39, v40, v41, v42, v43]))]) hP hD hS hA [0] rfl rfl (by decide)
  refine va_callv (va_runV (C := "ValueBenchModel") (As := []) (rest := []) ⟨hx, hb, hml, hown, htx⟩ (cM_begin_0 l hl9 D cT aK aV s.heap.size a0 v12 v13 v14 v15 v16 v17 v18 v19 v20 v21 v22 v23 v24 v25 v26 v27 v28 v29 v30 v31 v32 v33 v34 v35 v36 v37 v38 v39 v40 v41 v42 v43) ⟨callB_of 0 htx (xw_goodC kw_5_209) rfl rfl rfl (htx _ kw_1_5) (htx _ kw_5_206) ⟨by decide, by decide, by decide +kernel⟩ ⟨Nat.le_of_ble_eq_true rfl, Nat.le_of_ble_eq_true rfl⟩, (htx _ kw_5_208), (htx _ kp_M_begin)⟩ ⟨xPre_blind, va_recv hK hP (ci := 5) rfl (q0 := 0) rfl, (fun U hU hW => ⟨rfl, xPre_of hZ hS hFc hPc hDc hK U hU hW⟩)⟩ rfl rfl hl.1 rfl (lv_room (Nat.le_of_ble_eq_true rfl)) dM_binary0_1 ⟨Nat.le_of_ble_eq_true rfl, Nat.le_of_ble_eq_true rfl⟩) hS (fun q _ h => hFc q h) hFc (fun u9 t H1 locs ht hvm hr9 hB hz1 hk1 hS => ?_)
  obtain ⟨hP1, hK1, hD1⟩ := hB
  rw [ht] at hP1
  obtain ⟨hP, hD⟩ := xjoin (W := [(a0, .inr (5, [.int 0, v13, .int 0, v15, .int 0, v17, v18, .int 0, v20, .int 0, v22, v23, .int 0, v25, v26, v27, v28, v29, v30, v31, v32, v33, .int 0, .int 1000000000, v36, v37, v38, v39, v40, v41, v42, v43]))]) hP hD [0] [] 0 rfl rfl (by decide) (by decide) hk1 hFc hP1 hD1
  generalize H1 = H at hP hS ⊢
  refine lv_aload_n hx hb dM_binary0_4 rfl (lv_at hl 0 rfl) ?_
  refine lv_iload_n hx hb dM_binary0_5 rfl (lv_at hl 1 rfl) ?_
  obtain ⟨hPc, hDc, hFc⟩ := xcut (wc := []) hP hD hS hA [] rfl rfl (by decide)
  refine va_calli (va_runV (C := "ValueBenchModel") (As := [.int x1]) (rest := []) ⟨hx, hb, hml, hown, htx⟩ (cM_out_2 l hl9 D cT aK aV H.size a0 x1 h2 h3 h4 h5) ⟨callB_of 1 htx (xw_goodC kw_5_217) rfl rfl rfl (htx _ kw_1_5) (htx _ kw_5_214) ⟨by decide, by decide, by decide +kernel⟩ ⟨Nat.le_of_ble_eq_true rfl, Nat.le_of_ble_eq_true rfl⟩, (htx _ kw_5_216), (htx _ kp_M_out)⟩ ⟨xPre_blind, va_recv hK hP (ci := 5) rfl (q0 := 0) rfl, (fun U hU hW => ⟨rfl, xPre_of hZ hS hFc hPc hDc hK U hU hW⟩)⟩ rfl rfl hl.1 rfl (lv_room (Nat.le_of_ble_eq_true rfl)) dM_binary0_6 ⟨Nat.le_of_ble_eq_true rfl, Nat.le_of_ble_eq_true rfl⟩) hS (fun q _ h => hFc q h) hFc (fun r1 u9 t H1 locs ht hvm hr9 hB hz1 hk1 hS => ?_)
  obtain ⟨hP1, hK1, hD1⟩ := hB
  rw [ht] at hP1
  obtain ⟨hP, hD⟩ := xjoin (W := [(a0, .inr (5, [.int 0, v13, .int 0, v15, .int 0, v17, v18, .int 0, v20, .int 0, v22, v23, .int 0, v25, v26, v27, v28, v29, v30, v31, v32, v33, .int 0, .int 1000000000, v36, v37, v38, v39, v40, v41, v42, v43]))]) hP hD [] [0] 1 rfl rfl (by decide) (by decide) hk1 hFc hP1 hD1
  generalize H1 = H at hP hS ⊢
  rw [hr9]
  refine W.eq (g2 := F0 m 9 ls [.int 0]) rfl ?_
  refine lv_if_ne (tgt := 38) hx hb dM_binary0_9 (by decide) (fun h => ((by revert h; decide : False)).elim) (fun _ => ?_)
  refine lv_iload_n hx hb dM_binary0_12 rfl (lv_at hl 2 rfl) ?_
  refine lv_if_lt (tgt := 38) hx hb dM_binary0_13 (by decide) (fun h => by first | exact absurd h h7 | exact absurd h h8 | exact absurd h h9 | exact absurd h7 h | exact absurd h8 h | exact absurd h9 h) (fun _ => ?_)
  refine lv_iload_n hx hb dM_binary0_16 rfl (lv_at hl 2 rfl) ?_
  refine lv_iconst (v := 4) hx hb dM_binary0_17 (by decide) ?_
  refine lv_icmp_gt (tgt := 38) hx hb dM_binary0_18 (by decide) (fun _ => ?_) (fun h => by first | exact absurd h h7 | exact absurd h h8 | exact absurd h h9 | exact absurd h7 h | exact absurd h8 h | exact absurd h9 h)
  refine lv_aload_n hx hb dM_binary0_38 rfl (lv_at hl 0 rfl) ?_
  refine lv_iconst (v := 1) hx hb dM_binary0_39 (by decide) ?_
  refine va_put (D := D) (ci := 5) (v := .int 1) (ty := .int) (C := "ValueBenchModel") (T := TM) (N := 32) hx hb htx inM tyM tyM_ok nmM hown hK hP hD hS 0 rfl rfl 0 (by decide) (htx _ kw_5_87) (fun _ h9 => h9) rfl (by decide +kernel) rfl rfl (Nat.le_of_ble_eq_true rfl) dM_binary0_40 (fun H locs hP hD hS => ?_)
  obtain ⟨hP, hD⟩ : xPD D xcl A [(a0, .inr (5, [.int 1, v13, .int 0, v15, .int 0, v17, v18, .int 0, v20, .int 0, v22, v23, .int 0, v25, v26, v27, v28, v29, v30, v31, v32, v33, .int 0, .int 1000000000, v36, v37, v38, v39, v40, v41, v42, v43]))] H := ⟨hP, hD⟩
  refine lv_goto (tgt := 56) hx hb dM_binary0_43 (by decide) ?_
  obtain ⟨hP9, hD9⟩ := xsub (wc := [(a0, .inr (5, [.int 1, v13, .int 0, v15, .int 0, v17, v18, .int 0, v20, .int 0, v22, v23, .int 0, v25, v26, v27, v28, v29, v30, v31, v32, v33, .int 0, .int 1000000000, v36, v37, v38, v39, v40, v41, v42, v43]))]) hP hD [0] rfl rfl (by decide)
  refine W.widen (k := 0) (n := 0) (Nat.le_of_ble_eq_true rfl) (Nat.le_of_ble_eq_true rfl) ?_
  exact W.vret hx hb hr (fun t ht hW => ⟨⟨(), rfl, trivial, by rw [ht]; exact hP9, va_K.moved hW.alike hK, hD9⟩, hS.F ht⟩) hS.2.2 dM_binary0_56
set_option maxHeartbeats 400000000 in
set_option maxRecDepth 100000 in
theorem cB_isWithin_6 (l : Launch) (hl9 : l.stackTraces = false) (D : va_G) (cT : Nat → ClassId) (aK aV : Nat → Nat) (sz : Nat) (x0 : Int32) (h1 : ¬ x0 < 0) (h2 : ¬ 4 < x0) (h3 : x0 ≤ 4) : xMet l yB_isWithin wyB_isWithin 0 0 0 0 D cT aK aV sz [.int x0, .int 4] [] (fun A => va_Qi (fun (r : Int32) (_ : Unit) => r = 1) (fun _ t => xB D xcl cT A [] t) A) := by
  refine Met.ofW (cc := prog_1_method_15_code) (maxL := 2) (ret := (some .boolean)) (by decide) rfl ?_
  intro p e s m args below meth c s₁ B hml hv
  obtain ⟨rfl, hsz, hZ, hP, hK, hD0⟩ := hv
  have hx := B.exec
  have hb := B.bytes
  have hr := B.returns
  have hts := atoms_spec (ws := wyB_isWithin) B.pre
  have htx := fun w h => hts w (List.mem_cons_of_mem _ h)
  have hown : s.vm.findClass "ValueBench" = some m.cls := findClass_of_methodNamed B.named
  have hlocks := B.notSynchronized
  subst hsz
  have hD := hD0.self (sz := s.heap.size)
  generalize hAe : va_A [] s.heap.size = A at hD hZ ⊢
  have hA : ∀ q : Nat, s.heap.size ≤ q → A q := fun q h => by rw [← hAe]; exact Or.inr h
  have hS : va_S A s.heap s.heap [] := va_S.rf
  have hP : va_P D xcl [] s.heap := hP
  have hl := lv_entry ([.int x0, .int 4]) (n := 2) (Nat.le_of_ble_eq_true rfl)
  rw [lg_entry_eq]
  generalize (lg_sl ([.int x0, .int 4]) ++ List.replicate (2 - (lg_sl ([.int x0, .int 4])).length) Slot.unset).toArray = ls at hl ⊢
  have hl : lv_has ls 2 [(0, .int x0), (1, .int 4)] := hl
  refine lv_iload_n hx hb dB_isWithin_0 rfl (lv_at hl 0 rfl) ?_
  refine lv_if_lt (tgt := 13) hx hb dB_isWithin_1 (by decide) (fun h => by first | exact absurd h h1 | exact absurd h h2 | exact absurd h h3 | exact absurd h1 h | exact absurd h2 h | exact absurd h3 h) (fun _ => ?_)
  refine lv_iload_n hx hb dB_isWithin_4 rfl (lv_at hl 0 rfl) ?_
  refine lv_iload_n hx hb dB_isWithin_5 rfl (lv_at hl 1 rfl) ?_
  refine lv_icmp_gt (tgt := 13) hx hb dB_isWithin_6 (by decide) (fun h => by first | exact absurd h h1 | exact absurd h h2 | exact absurd h h3 | exact absurd h1 h | exact absurd h2 h | exact absurd h3 h) (fun _ => ?_)
  refine lv_iconst (v := 1) hx hb dB_isWithin_9 (by decide) ?_
  refine lv_goto (tgt := 14) hx hb dB_isWithin_10 (by decide) ?_
  obtain ⟨hP9, hD9⟩ := xsub (wc := []) hP hD [] rfl rfl (by decide)
  refine W.widen (k := 0) (n := 0) (Nat.le_of_ble_eq_true rfl) (Nat.le_of_ble_eq_true rfl) ?_
  exact W.zret (v := 1) hx hb hr rfl (fun t ht hW => ⟨⟨1, (), rfl, rfl, by rw [ht]; exact hP9, va_K.moved hW.alike hK, hD9⟩, hS.F ht⟩) hS.2.2 dB_isWithin_14
set_option maxHeartbeats 400000000 in
set_option maxRecDepth 100000 in
theorem cB_binary_4 (l : Launch) (hl9 : l.stackTraces = false) (D : va_G) (cT : Nat → ClassId) (aK aV : Nat → Nat) (sz : Nat) (b0 : Nat) (x1 : Int32) (x6 : Int32) (x10 : Int32) (x12 : Int32) (h2 : ¬ x1 < 0) (h3 : ¬ 7 < x1) (h4 : x1 ≤ 7) (h5 : vp_in x1 8) (h7 : ¬ x6 < 0) (h8 : ¬ 4 < x6) (h9 : x6 ≤ 4) (h11 : x10 < 0) : xMetX l yB_binary wyB_binary 7 1 6 120 D cT aK aV sz [.ref b0, .int x1, .int x6, .int x10, .int x12] [] "java/lang/IllegalArgumentException" (fun A t => xB D xcl cT A [] t) := by
  refine vx_ofW (cc := prog_1_method_6_code) (maxL := 5) (ret := none) (by decide) rfl ?_
  intro p e s m args below meth c s₁ B hml hne hv
  obtain ⟨rfl, hsz, hZ, hP, hK, hD0⟩ := hv
  have hx := B.exec
  have hb := B.bytes
  have hr := B.returns
  have hts := atoms_spec (ws := wyB_binary) B.pre
  have htx := fun w h => hts w (List.mem_cons_of_mem _ h)
  have hown : s.vm.findClass "ValueBench" = some m.cls := findClass_of_methodNamed B.named
  have hlocks := B.notSynchronized
  subst hsz
  have hD := hD0.self (sz := s.heap.size)
  generalize hAe : va_A [] s.heap.size = A at hD hZ ⊢
  have hA : ∀ q : Nat, s.heap.size ≤ q → A q := fun q h => by rw [← hAe]; exact Or.inr h
  have hS : va_S A s.heap s.heap [] := va_S.rf
  have hP : va_P D xcl [] s.heap := hP
  have hl := lv_entry ([.ref b0, .int x1, .int x6, .int x10, .int x12]) (n := 5) (Nat.le_of_ble_eq_true rfl)
  rw [lg_entry_eq]
  generalize (lg_sl ([.ref b0, .int x1, .int x6, .int x10, .int x12]) ++ List.replicate (5 - (lg_sl ([.ref b0, .int x1, .int x6, .int x10, .int x12])).length) Slot.unset).toArray = ls at hl ⊢
  have hl : lv_has ls 5 [(0, .ref b0), (1, .int x1), (2, .int x6), (3, .int x10), (4, .int x12)] := hl
  refine lv_iload_n hx hb dB_binary_0 rfl (lv_at hl 1 rfl) ?_
  obtain ⟨hPc, hDc, hFc⟩ := xcut (wc := []) hP hD hS hA [] rfl rfl (by decide)
  refine va_calli (va_runS (As := [.int x1]) (rest := []) ⟨hx, hb, hml, hown, htx⟩ (cB_isRegister_2 l hl9 D cT aK aV s.heap.size x1 h2 h3 h4 h5) ⟨callB_of 1 htx (xw_goodC kw_2_18) rfl rfl rfl (htx _ kw_1_1) (htx _ kw_2_16) ⟨by decide, by decide, by decide +kernel⟩ ⟨Nat.le_of_ble_eq_true rfl, Nat.le_of_ble_eq_true rfl⟩, htx _ kw_2_17⟩ ⟨xPre_blind, (fun U hU hW => ⟨rfl, xPre_of hZ hS hFc hPc hDc hK U hU hW⟩)⟩ rfl rfl hl.1 rfl (lv_room (Nat.le_of_ble_eq_true rfl)) dB_binary_1 ⟨Nat.le_of_ble_eq_true rfl, Nat.le_of_ble_eq_true rfl⟩) hS (fun q _ h => hFc q h) hFc (fun r1 u9 t H1 locs ht hvm hr9 hB hz1 hk1 hS => ?_)
  obtain ⟨hP1, hK1, hD1⟩ := hB
  rw [ht] at hP1
  obtain ⟨hP, hD⟩ := xjoin (W := []) hP hD [] [] 0 rfl rfl (by decide) (by decide) hk1 hFc hP1 hD1
  generalize H1 = H at hP hS ⊢
  rw [hr9]
  refine W.eq (g2 := F0 m 4 ls [.int 1]) rfl ?_
  refine lv_if_eq (tgt := 34) hx hb dB_binary_4 (by decide) (fun h => ((by revert h; decide : False)).elim) (fun _ => ?_)
  refine lv_iload_n hx hb dB_binary_7 rfl (lv_at hl 2 rfl) ?_
  refine lv_iconst (v := 4) hx hb dB_binary_8 (by decide) ?_
  obtain ⟨hPc, hDc, hFc⟩ := xcut (wc := []) hP hD hS hA [] rfl rfl (by decide)
  refine va_calli (va_runS (As := [.int x6, .int 4]) (rest := []) ⟨hx, hb, hml, hown, htx⟩ (cB_isWithin_6 l hl9 D cT aK aV H.size x6 h7 h8 h9) ⟨callB_of 2 htx (xw_goodC kw_1_218) rfl rfl rfl (htx _ kw_1_1) (htx _ kw_1_216) ⟨by decide, by decide, by decide +kernel⟩ ⟨Nat.le_of_ble_eq_true rfl, Nat.le_of_ble_eq_true rfl⟩, htx _ kw_1_217⟩ ⟨xPre_blind, (fun U hU hW => ⟨rfl, xPre_of hZ hS hFc hPc hDc hK U hU hW⟩)⟩ rfl rfl hl.1 rfl (lv_room (Nat.le_of_ble_eq_true rfl)) dB_binary_9 ⟨Nat.le_of_ble_eq_true rfl, Nat.le_of_ble_eq_true rfl⟩) hS (fun q _ h => hFc q h) hFc (fun r2 u9 t H1 locs ht hvm hr9 hB hz1 hk1 hS => ?_)
  obtain ⟨hP1, hK1, hD1⟩ := hB
  rw [ht] at hP1
  obtain ⟨hP, hD⟩ := xjoin (W := []) hP hD [] [] 0 rfl rfl (by decide) (by decide) hk1 hFc hP1 hD1
  generalize H1 = H at hP hS ⊢
  rw [hr9]
  refine W.eq (g2 := F0 m 12 ls [.int 1]) rfl ?_
  refine lv_if_eq (tgt := 34) hx hb dB_binary_12 (by decide) (fun h => ((by revert h; decide : False)).elim) (fun _ => ?_)
  refine lv_iload_n hx hb dB_binary_15 rfl (lv_at hl 3 rfl) ?_
  obtain ⟨hPc, hDc, hFc⟩ := xcut (wc := []) hP hD hS hA [] rfl rfl (by decide)
  refine va_calli (va_runS (As := [.int x10]) (rest := []) ⟨hx, hb, hml, hown, htx⟩ (cB_isRegister_0 l hl9 D cT aK aV H.size x10 h11) ⟨callB_of 1 htx (xw_goodC kw_2_18) rfl rfl rfl (htx _ kw_1_1) (htx _ kw_2_16) ⟨by decide, by decide, by decide +kernel⟩ ⟨Nat.le_of_ble_eq_true rfl, Nat.le_of_ble_eq_true rfl⟩, htx _ kw_2_17⟩ ⟨xPre_blind, (fun U hU hW => ⟨rfl, xPre_of hZ hS hFc hPc hDc hK U hU hW⟩)⟩ rfl rfl hl.1 rfl (lv_room (Nat.le_of_ble_eq_true rfl)) dB_binary_16 ⟨Nat.le_of_ble_eq_true rfl, Nat.le_of_ble_eq_true rfl⟩) hS (fun q _ h => hFc q h) hFc (fun r3 u9 t H1 locs ht hvm hr9 hB hz1 hk1 hS => ?_)
  obtain ⟨hP1, hK1, hD1⟩ := hB
  rw [ht] at hP1
  obtain ⟨hP, hD⟩ := xjoin (W := []) hP hD [] [] 0 rfl rfl (by decide) (by decide) hk1 hFc hP1 hD1
  generalize H1 = H at hP hS ⊢
  rw [hr9]
  refine W.eq (g2 := F0 m 19 ls [.int 0]) rfl ?_
  refine lv_if_eq (tgt := 34) hx hb dB_binary_19 (by decide) (fun _ => ?_) (fun h => ((by revert h; decide : False)).elim)
  refine lv_iconst (v := 0) hx hb dB_binary_34 (by decide) ?_
  obtain ⟨hPc, hDc, hFc⟩ := xcut (wc := []) hP hD hS hA [] rfl rfl (by decide)
  refine xx_thr (vx_runS (As := [.int 0]) (rest := []) ⟨hx, hb, hml, hown, htx⟩ (cB_demand_0 l hl9 D cT aK aV H.size) ⟨callB_of 1 htx (xw_goodC kw_1_221) rfl rfl rfl (htx _ kw_1_1) (htx _ kw_1_219) ⟨by decide, by decide, by decide +kernel⟩ ⟨Nat.le_of_ble_eq_true rfl, Nat.le_of_ble_eq_true rfl⟩, htx _ kw_1_220⟩ ⟨xPre_blind, (fun U hU hW => ⟨rfl, xPre_of hZ hS hFc hPc hDc hK U hU hW⟩)⟩ rfl rfl hl.1 rfl (lv_room (Nat.le_of_ble_eq_true rfl)) dB_binary_35 ⟨Nat.le_of_ble_eq_true rfl, Nat.le_of_ble_eq_true rfl⟩) hS hFc (fun q _ h => hFc q h) (fun E ce q9 u9 t H1 locs ht hvm _ hB hz1 hk1 hS hce hcv hcl => ?_)
  obtain ⟨rfl, hP1, hK1, hD1⟩ := hB
  rw [ht] at hP1
  obtain ⟨hP, hD⟩ := xjoin (W := []) hP hD [] [] 0 rfl rfl (by decide) (by decide) hk1 hFc hP1 hD1
  generalize H1 = H at hP hS hce ⊢
  obtain ⟨hP9, hD9⟩ := xsub (wc := []) hP hD [] rfl rfl (by decide)
  exact vx_out (E := "java/lang/IllegalArgumentException") (fun x h => (hne x h).elim) hlocks hce hcv hcl (fun t ht ha => ⟨(), trivial, ⟨rfl, by rw [ht]; exact hP9, va_K.moved ha hK, hD9⟩, hS.F ht⟩) hS.2.2 (Nat.le_of_ble_eq_true rfl) (Nat.le_of_ble_eq_true rfl)
set_option maxHeartbeats 400000000 in
set_option maxRecDepth 100000 in
theorem cL_binary_4 (l : Launch) (hl9 : l.stackTraces = false) (D : va_G) (cT : Nat → ClassId) (aK aV : Nat → Nat) (sz : Nat) (a0 : Nat) (x1 : Int32) (x6 : Int32) (x10 : Int32) (x12 : Int32) (v13 : Value) (v14 : Value) (v15 : Value) (v16 : Value) (v17 : Value) (v18 : Value) (v19 : Value) (v20 : Value) (h2 : ¬ x1 < 0) (h3 : ¬ 7 < x1) (h4 : x1 ≤ 7) (h5 : vp_in x1 8) (h7 : ¬ x6 < 0) (h8 : ¬ 4 < x6) (h9 : x6 ≤ 4) (h11 : x10 < 0) : xMet l yL_binary wyL_binary 8 1 6 144 D cT aK aV sz [.ref a0, .int x1, .int x6, .int x10, .int x12] [(a0, .inr (0, [v13, v14, v15, v16, v17, v18, v19, v20]))] (fun A => va_Qi (fun (r : Int32) (_ : Unit) => r = 1) (fun _ t => xB D xcl cT A [(a0, .inr (0, [v13, v14, v15, v16, v17, v18, v19, v20]))] t) A) := by
  refine va_MetW (cc := method_7_code) (maxL := 6) (ret := (some .int)) (hh := [(0, 9, 12, 19), (0, 9, 16, 33), (0, 9, 20, 13)]) (by decide) rfl ?_
  intro p e s m args below meth c s₁ B hml hv
  obtain ⟨rfl, hsz, hZ, hP, hK, hD0⟩ := hv
  have hx := B.exec
  have hb := B.bytes
  have hr := B.returns
  have hts := atoms_spec (ws := wyL_binary) B.pre
  have htx := fun w h => hts w (List.mem_cons_of_mem _ h)
  have hown : s.vm.findClass "ValueBenchLaw" = some m.cls := findClass_of_methodNamed B.named
  have hlocks := B.notSynchronized
  subst hsz
  have hD := hD0.self (sz := s.heap.size)
  generalize hAe : va_A [(a0, .inr (0, [v13, v14, v15, v16, v17, v18, v19, v20]))] s.heap.size = A at hD hZ ⊢
  have hA : ∀ q : Nat, s.heap.size ≤ q → A q := fun q h => by rw [← hAe]; exact Or.inr h
  have hS : va_S A s.heap s.heap [] := va_S.rf
  have hP : va_P D xcl [(a0, .inr (0, [v13, v14, v15, v16, v17, v18, v19, v20]))] s.heap := hP
  have hl := lv_entry ([.ref a0, .int x1, .int x6, .int x10, .int x12]) (n := 6) (Nat.le_of_ble_eq_true rfl)
  rw [lg_entry_eq]
  generalize (lg_sl ([.ref a0, .int x1, .int x6, .int x10, .int x12]) ++ List.replicate (6 - (lg_sl ([.ref a0, .int x1, .int x6, .int x10, .int x12])).length) Slot.unset).toArray = ls at hl ⊢
  have hl : lv_has ls 6 [(0, .ref a0), (1, .int x1), (2, .int x6), (3, .int x10), (4, .int x12)] := hl
  have htab := vx_table (x := yL_binary) B (hts _ List.mem_cons_self)
  refine lv_aload_n hx hb dL_binary_0 rfl (lv_at hl 0 rfl) ?_
  refine lv_iload_n hx hb dL_binary_1 rfl (lv_at hl 1 rfl) ?_
  refine lv_iload_n hx hb dL_binary_2 rfl (lv_at hl 2 rfl) ?_
  refine lv_iload_n hx hb dL_binary_3 rfl (lv_at hl 3 rfl) ?_
  refine lv_iload hx hb dL_binary_4 (lv_at hl 4 rfl) ?_
  obtain ⟨hPc, hDc, hFc⟩ := xcut (wc := []) hP hD hS hA [] rfl rfl (by decide)
  refine xx_thr (vx_runV (C := "ValueBench") (As := [.int x1, .int x6, .int x10, .int x12]) (rest := []) ⟨hx, hb, hml, hown, htx⟩ (cB_binary_4 l hl9 D cT aK aV s.heap.size a0 x1 x6 x10 x12 h2 h3 h4 h5 h7 h8 h9 h11) ⟨callB_of 4 htx (xw_goodC kw_3_102) rfl rfl rfl (htx _ kw_1_1) (htx _ kw_3_99) ⟨by decide, by decide, by decide +kernel⟩ ⟨Nat.le_of_ble_eq_true rfl, Nat.le_of_ble_eq_true rfl⟩, (htx _ kw_3_100), (htx _ kw_3_101)⟩ ⟨xPre_blind, va_recv hK hP (ci := 0) rfl (q0 := 0) rfl, (fun U hU hW => ⟨rfl, xPre_of hZ hS hFc hPc hDc hK U hU hW⟩)⟩ rfl rfl hl.1 rfl (lv_room (Nat.le_of_ble_eq_true rfl)) dL_binary_6 ⟨Nat.le_of_ble_eq_true rfl, Nat.le_of_ble_eq_true rfl⟩) hS hFc (fun q _ h => hFc q h) (fun E ce q9 u9 t H1 locs ht hvm _ hB hz1 hk1 hS hce hcv hcl => ?_)
  obtain ⟨rfl, hP1, hK1, hD1⟩ := hB
  rw [ht] at hP1
  obtain ⟨hP, hD⟩ := xjoin (W := [(a0, .inr (0, [v13, v14, v15, v16, v17, v18, v19, v20]))]) hP hD [] [0] 1 rfl rfl (by decide) (by decide) hk1 hFc hP1 hD1
  generalize H1 = H at hP hS hce ⊢
  refine vx_catch (own := "ValueBenchLaw") (name := "java/lang/IllegalArgumentException") (E := "java/lang/IllegalArgumentException") hown [] ⟨0, 9, 12, 19⟩ [⟨0, 9, 16, 33⟩, ⟨0, 9, 20, 13⟩] (by rw [htab]; rfl) (fun z hz => nomatch hz) (by decide) (by decide) (htx _ kw_1_211) ((hZ.2.2.2.2.2.1 "java/lang/IllegalArgumentException" (List.mem_of_getElem? (i := 1) rfl)).use rfl) hce hcv hcl ?_
  refine lv_astore (lv' := [(5, .ref q9), (0, .ref a0), (1, .int x1), (2, .int x6), (3, .int x10), (4, .int x12)]) hx hb dL_binary_12 hl (by decide) rfl (fun ls hl => ?_)
  refine lv_iconst (v := 1) hx hb dL_binary_14 (by decide) ?_
  obtain ⟨hP9, hD9⟩ := xsub (wc := [(a0, .inr (0, [v13, v14, v15, v16, v17, v18, v19, v20]))]) hP hD [0] rfl rfl (by decide)
  refine W.widen (k := 1) (n := 6) (Nat.le_of_ble_eq_true rfl) (Nat.le_of_ble_eq_true rfl) ?_
  exact W.iret (v := 1) hx hb hr (fun t ht hW => ⟨⟨1, (), rfl, rfl, by rw [ht]; exact hP9, va_K.moved hW.alike hK, hD9⟩, hS.F ht⟩) hS.2.2 dL_binary_15
set_option maxHeartbeats 400000000 in
set_option maxRecDepth 100000 in
theorem cM_binary0_4 (l : Launch) (hl9 : l.stackTraces = false) (D : va_G) (cT : Nat → ClassId) (aK aV : Nat → Nat) (sz : Nat) (a0 : Nat) (x1 : Int32) (x6 : Int32) (x10 : Int32) (x12 : Int32) (v13 : Value) (v14 : Value) (v15 : Value) (v16 : Value) (v17 : Value) (v18 : Value) (v19 : Value) (v20 : Value) (v21 : Value) (v22 : Value) (v23 : Value) (v24 : Value) (v25 : Value) (v26 : Value) (v27 : Value) (v28 : Value) (v29 : Value) (v30 : Value) (v31 : Value) (v32 : Value) (v33 : Value) (v34 : Value) (v35 : Value) (v36 : Value) (v37 : Value) (v38 : Value) (v39 : Value) (v40 : Value) (v41 : Value) (v42 : Value) (v43 : Value) (v44 : Value) (h2 : ¬ x1 < 0) (h3 : ¬ 7 < x1) (h4 : x1 ≤ 7) (h5 : vp_in x1 8) (h7 : ¬ x6 < 0) (h8 : ¬ 4 < x6) (h9 : x6 ≤ 4) (h11 : x10 < 0) : xMet l yM_binary0 wyM_binary0 2 0 0 40 D cT aK aV sz [.ref a0, .int x1, .int x6, .int x10, .int x12] [(a0, .inr (5, [v13, v14, v15, v16, v17, v18, v19, v20, v21, v22, v23, v24, v25, v26, v27, v28, v29, v30, v31, v32, v33, v34, v35, v36, v37, v38, v39, v40, v41, v42, v43, v44]))] (fun A => va_Qv (fun _ : Unit => True) (fun _ t => xB D xcl cT A [(a0, .inr (5, [.int 1, v14, .int 0, v16, .int 0, v18, v19, .int 0, v21, .int 0, v23, v24, .int 0, v26, v27, v28, v29, v30, v31, v32, v33, v34, .int 0, .int 1000000000, v37, v38, v39, v40, v41, v42, v43, v44]))] t) A) := by
  refine Met.ofW (cc := prog_13_method_89_code) (maxL := 5) (ret := none) (by decide) rfl ?_
  intro p e s m args below meth c s₁ B hml hv
  obtain ⟨rfl, hsz, hZ, hP, hK, hD0⟩ := hv
  have hx := B.exec
  have hb := B.bytes
  have hr := B.returns
  have hts := atoms_spec (ws := wyM_binary0) B.pre
  have htx := fun w h => hts w (List.mem_cons_of_mem _ h)
  have hown : s.vm.findClass "ValueBenchModel" = some m.cls := findClass_of_methodNamed B.named
  have hlocks := B.notSynchronized
  subst hsz
  have hD := hD0.self (sz := s.heap.size)
  generalize hAe : va_A [(a0, .inr (5, [v13, v14, v15, v16, v17, v18, v19, v20, v21, v22, v23, v24, v25, v26, v27, v28, v29, v30, v31, v32, v33, v34, v35, v36, v37, v38, v39, v40, v41, v42, v43, v44]))] s.heap.size = A at hD hZ ⊢
  have hA : ∀ q : Nat, s.heap.size ≤ q → A q := fun q h => by rw [← hAe]; exact Or.inr h
  have hS : va_S A s.heap s.heap [] := va_S.rf
  have hP : va_P D xcl [(a0, .inr (5, [v13, v14, v15, v16, v17, v18, v19, v20, v21, v22, v23, v24, v25, v26, v27, v28, v29, v30, v31, v32, v33, v34, v35, v36, v37, v38, v39, v40, v41, v42, v43, v44]))] s.heap := hP
  have hl := lv_entry ([.ref a0, .int x1, .int x6, .int x10, .int x12]) (n := 5) (Nat.le_of_ble_eq_true rfl)
  rw [lg_entry_eq]
  generalize (lg_sl ([.ref a0, .int x1, .int x6, .int x10, .int x12]) ++ List.replicate (5 - (lg_sl ([.ref a0, .int x1, .int x6, .int x10, .int x12])).length) Slot.unset).toArray = ls at hl ⊢
  have hl : lv_has ls 5 [(0, .ref a0), (1, .int x1), (2, .int x6), (3, .int x10), (4, .int x12)] := hl
  refine lv_aload_n hx hb dM_binary0_0 rfl (lv_at hl 0 rfl) ?_
  obtain ⟨hPc, hDc, hFc⟩ := xcut (wc := [(a0, .inr (5, [v13, v14, v15, v16, v17, v18, v19, v20, v21, v22, v23, v24, v25, v26, v27, v28, v29, v30, v31, v32, v33, v34, v35, v36, v37, v38, v39, v40, v41, v42, v43, v44]))]) hP hD hS hA [0] rfl rfl (by decide)
  refine va_callv (va_runV (C := "ValueBenchModel") (As := []) (rest := []) ⟨hx, hb, hml, hown, htx⟩ (cM_begin_0 l hl9 D cT aK aV s.heap.size a0 v13 v14 v15 v16 v17 v18 v19 v20 v21 v22 v23 v24 v25 v26 v27 v28 v29 v30 v31 v32 v33 v34 v35 v36 v37 v38 v39 v40 v41 v42 v43 v44) ⟨callB_of 0 htx (xw_goodC kw_5_209) rfl rfl rfl (htx _ kw_1_5) (htx _ kw_5_206) ⟨by decide, by decide, by decide +kernel⟩ ⟨Nat.le_of_ble_eq_true rfl, Nat.le_of_ble_eq_true rfl⟩, (htx _ kw_5_208), (htx _ kp_M_begin)⟩ ⟨xPre_blind, va_recv hK hP (ci := 5) rfl (q0 := 0) rfl, (fun U hU hW => ⟨rfl, xPre_of hZ hS hFc hPc hDc hK U hU hW⟩)⟩ rfl rfl hl.1 rfl (lv_room (Nat.le_of_ble_eq_true rfl)) dM_binary0_1 ⟨Nat.le_of_ble_eq_true rfl, Nat.le_of_ble_eq_true rfl⟩) hS (fun q _ h => hFc q h) hFc (fun u9 t H1 locs ht hvm hr9 hB hz1 hk1 hS => ?_)
  obtain ⟨hP1, hK1, hD1⟩ := hB
  rw [ht] at hP1
  obtain ⟨hP, hD⟩ := xjoin (W := [(a0, .inr (5, [.int 0, v14, .int 0, v16, .int 0, v18, v19, .int 0, v21, .int 0, v23, v24, .int 0, v26, v27, v28, v29, v30, v31, v32, v33, v34, .int 0, .int 1000000000, v37, v38, v39, v40, v41, v42, v43, v44]))]) hP hD [0] [] 0 rfl rfl (by decide) (by decide) hk1 hFc hP1 hD1
  generalize H1 = H at hP hS ⊢
  refine lv_aload_n hx hb dM_binary0_4 rfl (lv_at hl 0 rfl) ?_
  refine lv_iload_n hx hb dM_binary0_5 rfl (lv_at hl 1 rfl) ?_
  obtain ⟨hPc, hDc, hFc⟩ := xcut (wc := []) hP hD hS hA [] rfl rfl (by decide)
  refine va_calli (va_runV (C := "ValueBenchModel") (As := [.int x1]) (rest := []) ⟨hx, hb, hml, hown, htx⟩ (cM_out_2 l hl9 D cT aK aV H.size a0 x1 h2 h3 h4 h5) ⟨callB_of 1 htx (xw_goodC kw_5_217) rfl rfl rfl (htx _ kw_1_5) (htx _ kw_5_214) ⟨by decide, by decide, by decide +kernel⟩ ⟨Nat.le_of_ble_eq_true rfl, Nat.le_of_ble_eq_true rfl⟩, (htx _ kw_5_216), (htx _ kp_M_out)⟩ ⟨xPre_blind, va_recv hK hP (ci := 5) rfl (q0 := 0) rfl, (fun U hU hW => ⟨rfl, xPre_of hZ hS hFc hPc hDc hK U hU hW⟩)⟩ rfl rfl hl.1 rfl (lv_room (Nat.le_of_ble_eq_true rfl)) dM_binary0_6 ⟨Nat.le_of_ble_eq_true rfl, Nat.le_of_ble_eq_true rfl⟩) hS (fun q _ h => hFc q h) hFc (fun r1 u9 t H1 locs ht hvm hr9 hB hz1 hk1 hS => ?_)
  obtain ⟨hP1, hK1, hD1⟩ := hB
  rw [ht] at hP1
  obtain ⟨hP, hD⟩ := xjoin (W := [(a0, .inr (5, [.int 0, v14, .int 0, v16, .int 0, v18, v19, .int 0, v21, .int 0, v23, v24, .int 0, v26, v27, v28, v29, v30, v31, v32, v33, v34, .int 0, .int 1000000000, v37, v38, v39, v40, v41, v42, v43, v44]))]) hP hD [] [0] 1 rfl rfl (by decide) (by decide) hk1 hFc hP1 hD1
  generalize H1 = H at hP hS ⊢
  rw [hr9]
  refine W.eq (g2 := F0 m 9 ls [.int 0]) rfl ?_
  refine lv_if_ne (tgt := 38) hx hb dM_binary0_9 (by decide) (fun h => ((by revert h; decide : False)).elim) (fun _ => ?_)
  refine lv_iload_n hx hb dM_binary0_12 rfl (lv_at hl 2 rfl) ?_
  refine lv_if_lt (tgt := 38) hx hb dM_binary0_13 (by decide) (fun h => by first | exact absurd h h7 | exact absurd h h8 | exact absurd h h9 | exact absurd h7 h | exact absurd h8 h | exact absurd h9 h) (fun _ => ?_)
  refine lv_iload_n hx hb dM_binary0_16 rfl (lv_at hl 2 rfl) ?_
  refine lv_iconst (v := 4) hx hb dM_binary0_17 (by decide) ?_
  refine lv_icmp_gt (tgt := 38) hx hb dM_binary0_18 (by decide) (fun h => by first | exact absurd h h7 | exact absurd h h8 | exact absurd h h9 | exact absurd h7 h | exact absurd h8 h | exact absurd h9 h) (fun _ => ?_)
  refine lv_aload_n hx hb dM_binary0_21 rfl (lv_at hl 0 rfl) ?_
  refine lv_iload_n hx hb dM_binary0_22 rfl (lv_at hl 3 rfl) ?_
  obtain ⟨hPc, hDc, hFc⟩ := xcut (wc := []) hP hD hS hA [] rfl rfl (by decide)
  refine va_calli (va_runV (C := "ValueBenchModel") (As := [.int x10]) (rest := []) ⟨hx, hb, hml, hown, htx⟩ (cM_out_0 l hl9 D cT aK aV H.size a0 x10 h11) ⟨callB_of 1 htx (xw_goodC kw_5_217) rfl rfl rfl (htx _ kw_1_5) (htx _ kw_5_214) ⟨by decide, by decide, by decide +kernel⟩ ⟨Nat.le_of_ble_eq_true rfl, Nat.le_of_ble_eq_true rfl⟩, (htx _ kw_5_216), (htx _ kp_M_out)⟩ ⟨xPre_blind, va_recv hK hP (ci := 5) rfl (q0 := 0) rfl, (fun U hU hW => ⟨rfl, xPre_of hZ hS hFc hPc hDc hK U hU hW⟩)⟩ rfl rfl hl.1 rfl (lv_room (Nat.le_of_ble_eq_true rfl)) dM_binary0_23 ⟨Nat.le_of_ble_eq_true rfl, Nat.le_of_ble_eq_true rfl⟩) hS (fun q _ h => hFc q h) hFc (fun r2 u9 t H1 locs ht hvm hr9 hB hz1 hk1 hS => ?_)
  obtain ⟨hP1, hK1, hD1⟩ := hB
  rw [ht] at hP1
  obtain ⟨hP, hD⟩ := xjoin (W := [(a0, .inr (5, [.int 0, v14, .int 0, v16, .int 0, v18, v19, .int 0, v21, .int 0, v23, v24, .int 0, v26, v27, v28, v29, v30, v31, v32, v33, v34, .int 0, .int 1000000000, v37, v38, v39, v40, v41, v42, v43, v44]))]) hP hD [] [0] 1 rfl rfl (by decide) (by decide) hk1 hFc hP1 hD1
  generalize H1 = H at hP hS ⊢
  rw [hr9]
  refine W.eq (g2 := F0 m 26 ls [.int 1]) rfl ?_
  refine lv_if_ne (tgt := 38) hx hb dM_binary0_26 (by decide) (fun _ => ?_) (fun h => ((by revert h; decide : False)).elim)
  refine lv_aload_n hx hb dM_binary0_38 rfl (lv_at hl 0 rfl) ?_
  refine lv_iconst (v := 1) hx hb dM_binary0_39 (by decide) ?_
  refine va_put (D := D) (ci := 5) (v := .int 1) (ty := .int) (C := "ValueBenchModel") (T := TM) (N := 32) hx hb htx inM tyM tyM_ok nmM hown hK hP hD hS 0 rfl rfl 0 (by decide) (htx _ kw_5_87) (fun _ h9 => h9) rfl (by decide +kernel) rfl rfl (Nat.le_of_ble_eq_true rfl) dM_binary0_40 (fun H locs hP hD hS => ?_)
  obtain ⟨hP, hD⟩ : xPD D xcl A [(a0, .inr (5, [.int 1, v14, .int 0, v16, .int 0, v18, v19, .int 0, v21, .int 0, v23, v24, .int 0, v26, v27, v28, v29, v30, v31, v32, v33, v34, .int 0, .int 1000000000, v37, v38, v39, v40, v41, v42, v43, v44]))] H := ⟨hP, hD⟩
  refine lv_goto (tgt := 56) hx hb dM_binary0_43 (by decide) ?_
  obtain ⟨hP9, hD9⟩ := xsub (wc := [(a0, .inr (5, [.int 1, v14, .int 0, v16, .int 0, v18, v19, .int 0, v21, .int 0, v23, v24, .int 0, v26, v27, v28, v29, v30, v31, v32, v33, v34, .int 0, .int 1000000000, v37, v38, v39, v40, v41, v42, v43, v44]))]) hP hD [0] rfl rfl (by decide)
  refine W.widen (k := 0) (n := 0) (Nat.le_of_ble_eq_true rfl) (Nat.le_of_ble_eq_true rfl) ?_
  exact W.vret hx hb hr (fun t ht hW => ⟨⟨(), rfl, trivial, by rw [ht]; exact hP9, va_K.moved hW.alike hK, hD9⟩, hS.F ht⟩) hS.2.2 dM_binary0_56
set_option maxHeartbeats 400000000 in
set_option maxRecDepth 100000 in
theorem cB_binary_5 (l : Launch) (hl9 : l.stackTraces = false) (D : va_G) (cT : Nat → ClassId) (aK aV : Nat → Nat) (sz : Nat) (b0 : Nat) (x1 : Int32) (x6 : Int32) (x10 : Int32) (x14 : Int32) (h2 : ¬ x1 < 0) (h3 : ¬ 7 < x1) (h4 : x1 ≤ 7) (h5 : vp_in x1 8) (h7 : ¬ x6 < 0) (h8 : ¬ 4 < x6) (h9 : x6 ≤ 4) (h11 : ¬ x10 < 0) (h12 : 7 < x10) (h13 : ¬ x10 ≤ 7) : xMetX l yB_binary wyB_binary 7 1 6 120 D cT aK aV sz [.ref b0, .int x1, .int x6, .int x10, .int x14] [] "java/lang/IllegalArgumentException" (fun A t => xB D xcl cT A [] t) := by
  refine vx_ofW (cc := prog_1_method_6_code) (maxL := 5) (ret := none) (by decide) rfl ?_
  intro p e s m args below meth c s₁ B hml hne hv
  obtain ⟨rfl, hsz, hZ, hP, hK, hD0⟩ := hv
  have hx := B.exec
  have hb := B.bytes
  have hr := B.returns
  have hts := atoms_spec (ws := wyB_binary) B.pre
  have htx := fun w h => hts w (List.mem_cons_of_mem _ h)
  have hown : s.vm.findClass "ValueBench" = some m.cls := findClass_of_methodNamed B.named
  have hlocks := B.notSynchronized
  subst hsz
  have hD := hD0.self (sz := s.heap.size)
  generalize hAe : va_A [] s.heap.size = A at hD hZ ⊢
  have hA : ∀ q : Nat, s.heap.size ≤ q → A q := fun q h => by rw [← hAe]; exact Or.inr h
  have hS : va_S A s.heap s.heap [] := va_S.rf
  have hP : va_P D xcl [] s.heap := hP
  have hl := lv_entry ([.ref b0, .int x1, .int x6, .int x10, .int x14]) (n := 5) (Nat.le_of_ble_eq_true rfl)
  rw [lg_entry_eq]
  generalize (lg_sl ([.ref b0, .int x1, .int x6, .int x10, .int x14]) ++ List.replicate (5 - (lg_sl ([.ref b0, .int x1, .int x6, .int x10, .int x14])).length) Slot.unset).toArray = ls at hl ⊢
  have hl : lv_has ls 5 [(0, .ref b0), (1, .int x1), (2, .int x6), (3, .int x10), (4, .int x14)] := hl
  refine lv_iload_n hx hb dB_binary_0 rfl (lv_at hl 1 rfl) ?_
  obtain ⟨hPc, hDc, hFc⟩ := xcut (wc := []) hP hD hS hA [] rfl rfl (by decide)
  refine va_calli (va_runS (As := [.int x1]) (rest := []) ⟨hx, hb, hml, hown, htx⟩ (cB_isRegister_2 l hl9 D cT aK aV s.heap.size x1 h2 h3 h4 h5) ⟨callB_of 1 htx (xw_goodC kw_2_18) rfl rfl rfl (htx _ kw_1_1) (htx _ kw_2_16) ⟨by decide, by decide, by decide +kernel⟩ ⟨Nat.le_of_ble_eq_true rfl, Nat.le_of_ble_eq_true rfl⟩, htx _ kw_2_17⟩ ⟨xPre_blind, (fun U hU hW => ⟨rfl, xPre_of hZ hS hFc hPc hDc hK U hU hW⟩)⟩ rfl rfl hl.1 rfl (lv_room (Nat.le_of_ble_eq_true rfl)) dB_binary_1 ⟨Nat.le_of_ble_eq_true rfl, Nat.le_of_ble_eq_true rfl⟩) hS (fun q _ h => hFc q h) hFc (fun r1 u9 t H1 locs ht hvm hr9 hB hz1 hk1 hS => ?_)
  obtain ⟨hP1, hK1, hD1⟩ := hB
  rw [ht] at hP1
  obtain ⟨hP, hD⟩ := xjoin (W := []) hP hD [] [] 0 rfl rfl (by decide) (by decide) hk1 hFc hP1 hD1
  generalize H1 = H at hP hS ⊢
  rw [hr9]
  refine W.eq (g2 := F0 m 4 ls [.int 1]) rfl ?_
  refine lv_if_eq (tgt := 34) hx hb dB_binary_4 (by decide) (fun h => ((by revert h; decide : False)).elim) (fun _ => ?_)
  refine lv_iload_n hx hb dB_binary_7 rfl (lv_at hl 2 rfl) ?_
  refine lv_iconst (v := 4) hx hb dB_binary_8 (by decide) ?_
  obtain ⟨hPc, hDc, hFc⟩ := xcut (wc := []) hP hD hS hA [] rfl rfl (by decide)
  refine va_calli (va_runS (As := [.int x6, .int 4]) (rest := []) ⟨hx, hb, hml, hown, htx⟩ (cB_isWithin_6 l hl9 D cT aK aV H.size x6 h7 h8 h9) ⟨callB_of 2 htx (xw_goodC kw_1_218) rfl rfl rfl (htx _ kw_1_1) (htx _ kw_1_216) ⟨by decide, by decide, by decide +kernel⟩ ⟨Nat.le_of_ble_eq_true rfl, Nat.le_of_ble_eq_true rfl⟩, htx _ kw_1_217⟩ ⟨xPre_blind, (fun U hU hW => ⟨rfl, xPre_of hZ hS hFc hPc hDc hK U hU hW⟩)⟩ rfl rfl hl.1 rfl (lv_room (Nat.le_of_ble_eq_true rfl)) dB_binary_9 ⟨Nat.le_of_ble_eq_true rfl, Nat.le_of_ble_eq_true rfl⟩) hS (fun q _ h => hFc q h) hFc (fun r2 u9 t H1 locs ht hvm hr9 hB hz1 hk1 hS => ?_)
  obtain ⟨hP1, hK1, hD1⟩ := hB
  rw [ht] at hP1
  obtain ⟨hP, hD⟩ := xjoin (W := []) hP hD [] [] 0 rfl rfl (by decide) (by decide) hk1 hFc hP1 hD1
  generalize H1 = H at hP hS ⊢
  rw [hr9]
  refine W.eq (g2 := F0 m 12 ls [.int 1]) rfl ?_
  refine lv_if_eq (tgt := 34) hx hb dB_binary_12 (by decide) (fun h => ((by revert h; decide : False)).elim) (fun _ => ?_)
  refine lv_iload_n hx hb dB_binary_15 rfl (lv_at hl 3 rfl) ?_
  obtain ⟨hPc, hDc, hFc⟩ := xcut (wc := []) hP hD hS hA [] rfl rfl (by decide)
  refine va_calli (va_runS (As := [.int x10]) (rest := []) ⟨hx, hb, hml, hown, htx⟩ (cB_isRegister_1 l hl9 D cT aK aV H.size x10 h11 h12 h13) ⟨callB_of 1 htx (xw_goodC kw_2_18) rfl rfl rfl (htx _ kw_1_1) (htx _ kw_2_16) ⟨by decide, by decide, by decide +kernel⟩ ⟨Nat.le_of_ble_eq_true rfl, Nat.le_of_ble_eq_true rfl⟩, htx _ kw_2_17⟩ ⟨xPre_blind, (fun U hU hW => ⟨rfl, xPre_of hZ hS hFc hPc hDc hK U hU hW⟩)⟩ rfl rfl hl.1 rfl (lv_room (Nat.le_of_ble_eq_true rfl)) dB_binary_16 ⟨Nat.le_of_ble_eq_true rfl, Nat.le_of_ble_eq_true rfl⟩) hS (fun q _ h => hFc q h) hFc (fun r3 u9 t H1 locs ht hvm hr9 hB hz1 hk1 hS => ?_)
  obtain ⟨hP1, hK1, hD1⟩ := hB
  rw [ht] at hP1
  obtain ⟨hP, hD⟩ := xjoin (W := []) hP hD [] [] 0 rfl rfl (by decide) (by decide) hk1 hFc hP1 hD1
  generalize H1 = H at hP hS ⊢
  rw [hr9]
  refine W.eq (g2 := F0 m 19 ls [.int 0]) rfl ?_
  refine lv_if_eq (tgt := 34) hx hb dB_binary_19 (by decide) (fun _ => ?_) (fun h => ((by revert h; decide : False)).elim)
  refine lv_iconst (v := 0) hx hb dB_binary_34 (by decide) ?_
  obtain ⟨hPc, hDc, hFc⟩ := xcut (wc := []) hP hD hS hA [] rfl rfl (by decide)
  refine xx_thr (vx_runS (As := [.int 0]) (rest := []) ⟨hx, hb, hml, hown, htx⟩ (cB_demand_0 l hl9 D cT aK aV H.size) ⟨callB_of 1 htx (xw_goodC kw_1_221) rfl rfl rfl (htx _ kw_1_1) (htx _ kw_1_219) ⟨by decide, by decide, by decide +kernel⟩ ⟨Nat.le_of_ble_eq_true rfl, Nat.le_of_ble_eq_true rfl⟩, htx _ kw_1_220⟩ ⟨xPre_blind, (fun U hU hW => ⟨rfl, xPre_of hZ hS hFc hPc hDc hK U hU hW⟩)⟩ rfl rfl hl.1 rfl (lv_room (Nat.le_of_ble_eq_true rfl)) dB_binary_35 ⟨Nat.le_of_ble_eq_true rfl, Nat.le_of_ble_eq_true rfl⟩) hS hFc (fun q _ h => hFc q h) (fun E ce q9 u9 t H1 locs ht hvm _ hB hz1 hk1 hS hce hcv hcl => ?_)
  obtain ⟨rfl, hP1, hK1, hD1⟩ := hB
  rw [ht] at hP1
  obtain ⟨hP, hD⟩ := xjoin (W := []) hP hD [] [] 0 rfl rfl (by decide) (by decide) hk1 hFc hP1 hD1
  generalize H1 = H at hP hS hce ⊢
  obtain ⟨hP9, hD9⟩ := xsub (wc := []) hP hD [] rfl rfl (by decide)
  exact vx_out (E := "java/lang/IllegalArgumentException") (fun x h => (hne x h).elim) hlocks hce hcv hcl (fun t ht ha => ⟨(), trivial, ⟨rfl, by rw [ht]; exact hP9, va_K.moved ha hK, hD9⟩, hS.F ht⟩) hS.2.2 (Nat.le_of_ble_eq_true rfl) (Nat.le_of_ble_eq_true rfl)
