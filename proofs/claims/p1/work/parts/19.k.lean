set_option maxHeartbeats 400000000 in
set_option maxRecDepth 100000 in
theorem cH_apply_1 (l : Launch) (hl9 : l.stackTraces = false) (D : va_G) (cT : Nat → ClassId) (aK aV : Nat → Nat) (sz : Nat) (a0 : Nat) (a1 : Nat) (b2 : Nat) (b3 : Nat) (b4 : Nat) (v5 : Value) (f6 : Nat → Int64) (h7 : f6 0 = 0) : xMet l yH_apply wyH_apply 3 0 0 65 D cT aK aV sz [.int 0, .ref a0, .ref b2, .ref b3, .ref b4] [(a0, .inr (2, [.ref a1, .int 1, v5])), (a1, .inl (cT 2, 4096, .inr (.inl f6)))] (fun A => va_Qi (fun (r : Int32) (_ : Unit) => r = 1) (fun _ t => xB D xcl cT A [(a0, .inr (2, [.ref a1, .int 1, v5])), (a1, .inl (cT 2, 4096, .inr (.inl f6)))] t) A) := by
  refine Met.ofW (cc := prog_5_method_2_code) (maxL := 5) (ret := (some .int)) (by decide) rfl ?_
  intro p e s m args below meth c s₁ B hml hv
  obtain ⟨rfl, hsz, hZ, hP, hK, hD0⟩ := hv
  have hx := B.exec
  have hb := B.bytes
  have hr := B.returns
  have hts := atoms_spec (ws := wyH_apply) B.pre
  have htx := fun w h => hts w (List.mem_cons_of_mem _ h)
  have hown : s.vm.findClass "ValueBench$Pairs" = some m.cls := findClass_of_methodNamed B.named
  have hlocks := B.notSynchronized
  subst hsz
  have hD := hD0.self (sz := s.heap.size)
  generalize hAe : va_A [(a0, .inr (2, [.ref a1, .int 1, v5])), (a1, .inl (cT 2, 4096, .inr (.inl f6)))] s.heap.size = A at hD hZ ⊢
  have hA : ∀ q : Nat, s.heap.size ≤ q → A q := fun q h => by rw [← hAe]; exact Or.inr h
  have hS : va_S A s.heap s.heap [] := va_S.rf
  have hP : va_P D xcl [(a0, .inr (2, [.ref a1, .int 1, v5])), (a1, .inl (cT 2, 4096, .inr (.inl f6)))] s.heap := hP
  have hl := lv_entry ([.int 0, .ref a0, .ref b2, .ref b3, .ref b4]) (n := 5) (Nat.le_of_ble_eq_true rfl)
  rw [lg_entry_eq]
  generalize (lg_sl ([.int 0, .ref a0, .ref b2, .ref b3, .ref b4]) ++ List.replicate (5 - (lg_sl ([.int 0, .ref a0, .ref b2, .ref b3, .ref b4])).length) Slot.unset).toArray = ls at hl ⊢
  have hl : lv_has ls 5 [(0, .int 0), (1, .ref a0), (2, .ref b2), (3, .ref b3), (4, .ref b4)] := hl
  refine lv_iload_n hx hb dH_apply_0 rfl (lv_at hl 0 rfl) ?_
  refine lv_tableIn (off := 51) (tgt := 52) hx hb dH_apply_1 (by decide) (by decide) (by decide) (by decide) ?_
  refine lv_aload_n hx hb dH_apply_52 rfl (lv_at hl 1 rfl) ?_
  refine lv_aload_n hx hb dH_apply_53 rfl (lv_at hl 2 rfl) ?_
  refine lv_aload hx hb dH_apply_54 (lv_at hl 4 rfl) ?_
  obtain ⟨hPc, hDc, hFc⟩ := xcut (wc := [(a0, .inr (2, [.ref a1, .int 1, v5])), (a1, .inl (cT 2, 4096, .inr (.inl f6)))]) hP hD hS hA [0, 1] rfl rfl (by decide)
  refine va_calli (va_runS (As := [.ref a0, .ref b2, .ref b4]) (rest := []) ⟨hx, hb, hml, hown, htx⟩ (cH_has_1 l hl9 D cT aK aV s.heap.size a0 a1 b2 b4 v5 f6 (by first | rfl | exact h7)) ⟨callB_of 3 htx (xw_goodC kw_4_149) rfl rfl rfl (htx _ kw_1_27) (htx _ kw_4_147) ⟨by decide, by decide, by decide +kernel⟩ ⟨Nat.le_of_ble_eq_true rfl, Nat.le_of_ble_eq_true rfl⟩, htx _ kw_4_148⟩ ⟨xPre_blind, (fun U hU hW => ⟨rfl, xPre_of hZ hS hFc hPc hDc hK U hU hW⟩)⟩ rfl rfl hl.1 rfl (lv_room (Nat.le_of_ble_eq_true rfl)) dH_apply_56 ⟨Nat.le_of_ble_eq_true rfl, Nat.le_of_ble_eq_true rfl⟩) hS (fun q _ h => hFc q h) hFc (fun r1 u9 t H1 locs ht hvm hr9 hB hz1 hk1 hS => ?_)
  obtain ⟨hP1, hK1, hD1⟩ := hB
  rw [ht] at hP1
  obtain ⟨hP, hD⟩ := xjoin (W := [(a0, .inr (2, [.ref a1, .int 1, v5])), (a1, .inl (cT 2, 4096, .inr (.inl f6)))]) hP hD [0, 1] [] 0 rfl rfl (by decide) (by decide) hk1 hFc hP1 hD1
  generalize H1 = H at hP hS ⊢
  rw [hr9]
  refine W.eq (g2 := F0 m 59 ls [.int 1]) rfl ?_
  obtain ⟨hP9, hD9⟩ := xsub (wc := [(a0, .inr (2, [.ref a1, .int 1, v5])), (a1, .inl (cT 2, 4096, .inr (.inl f6)))]) hP hD [0, 1] rfl rfl (by decide)
  refine W.widen (k := 0) (n := 0) (Nat.le_of_ble_eq_true rfl) (Nat.le_of_ble_eq_true rfl) ?_
  exact W.iret (v := 1) hx hb hr (fun t ht hW => ⟨⟨1, (), rfl, rfl, by rw [ht]; exact hP9, va_K.moved hW.alike hK, hD9⟩, hS.F ht⟩) hS.2.2 dH_apply_59
set_option maxHeartbeats 400000000 in
set_option maxRecDepth 100000 in
theorem cB_two_9 (l : Launch) (hl9 : l.stackTraces = false) (D : va_G) (cT : Nat → ClassId) (aK aV : Nat → Nat) (sz : Nat) (a0 : Nat) (a1 : Nat) (a2 : Nat) (a3 : Nat) (a4 : Nat) (x5 : Int32) (x10 : Int32) (x15 : Int32) (v20 : Value) (v21 : Value) (b22 : Nat) (v23 : Value) (v24 : Value) (v25 : Value) (v26 : Value) (v27 : Value) (v28 : Value) (f29 : Nat → Option Nat) (b31 : Nat) (v33 : Value) (f34 : Nat → Int64) (h6 : ¬ x5 < 0) (h7 : ¬ 7 < x5) (h8 : x5 ≤ 7) (h9 : vp_in x5 8) (h11 : ¬ x10 < 0) (h12 : ¬ 7 < x10) (h13 : x10 ≤ 7) (h14 : vp_in x10 8) (h16 : ¬ x15 < 0) (h17 : ¬ 7 < x15) (h18 : x15 ≤ 7) (h19 : vp_in x15 8) (h30 : f29 x10.toNatClampNeg = some a3) (h32 : f29 x15.toNatClampNeg = some b31) (h35 : f34 0 = 0) : xMetX l yB_two wyB_two 7 1 6 121 D cT aK aV sz [.ref a0, .int x5, .int 0, .int x10, .int x15] [(a0, .inr (0, [v20, v21, .ref b22, .ref a2, v23, .ref a1, v24, v25])), (a1, .inr (2, [v26, v27, v28])), (a2, .inl (cT 3, 8, .inr (.inr (.inr (.inr f29))))), (a3, .inr (2, [.ref a4, .int 1, v33])), (a4, .inl (cT 2, 4096, .inr (.inl f34)))] "java/lang/ArithmeticException" (fun A t => xB D xcl cT A [(a0, .inr (0, [v20, v21, .ref b22, .ref a2, v23, .ref a1, v24, .int 1])), (a1, .inr (2, [v26, .int 0, .int 0])), (a2, .inl (cT 3, 8, .inr (.inr (.inr (.inr f29))))), (a3, .inr (2, [.ref a4, .int 1, v33])), (a4, .inl (cT 2, 4096, .inr (.inl f34)))] t) := by
  refine vx_ofW (cc := prog_1_method_10_code) (maxL := 5) (ret := none) (by decide) rfl ?_
  intro p e s m args below meth c s₁ B hml hne hv
  obtain ⟨rfl, hsz, hZ, hP, hK, hD0⟩ := hv
  have hx := B.exec
  have hb := B.bytes
  have hr := B.returns
  have hts := atoms_spec (ws := wyB_two) B.pre
  have htx := fun w h => hts w (List.mem_cons_of_mem _ h)
  have hown : s.vm.findClass "ValueBench" = some m.cls := findClass_of_methodNamed B.named
  have hlocks := B.notSynchronized
  subst hsz
  have hD := hD0.self (sz := s.heap.size)
  generalize hAe : va_A [(a0, .inr (0, [v20, v21, .ref b22, .ref a2, v23, .ref a1, v24, v25])), (a1, .inr (2, [v26, v27, v28])), (a2, .inl (cT 3, 8, .inr (.inr (.inr (.inr f29))))), (a3, .inr (2, [.ref a4, .int 1, v33])), (a4, .inl (cT 2, 4096, .inr (.inl f34)))] s.heap.size = A at hD hZ ⊢
  have hA : ∀ q : Nat, s.heap.size ≤ q → A q := fun q h => by rw [← hAe]; exact Or.inr h
  have hS : va_S A s.heap s.heap [] := va_S.rf
  have hP : va_P D xcl [(a0, .inr (0, [v20, v21, .ref b22, .ref a2, v23, .ref a1, v24, v25])), (a1, .inr (2, [v26, v27, v28])), (a2, .inl (cT 3, 8, .inr (.inr (.inr (.inr f29))))), (a3, .inr (2, [.ref a4, .int 1, v33])), (a4, .inl (cT 2, 4096, .inr (.inl f34)))] s.heap := hP
  have hl := lv_entry ([.ref a0, .int x5, .int 0, .int x10, .int x15]) (n := 5) (Nat.le_of_ble_eq_true rfl)
  rw [lg_entry_eq]
  generalize (lg_sl ([.ref a0, .int x5, .int 0, .int x10, .int x15]) ++ List.replicate (5 - (lg_sl ([.ref a0, .int x5, .int 0, .int x10, .int x15])).length) Slot.unset).toArray = ls at hl ⊢
  have hl : lv_has ls 5 [(0, .ref a0), (1, .int x5), (2, .int 0), (3, .int x10), (4, .int x15)] := hl
  refine lv_iload_n hx hb dB_two_0 rfl (lv_at hl 1 rfl) ?_
  obtain ⟨hPc, hDc, hFc⟩ := xcut (wc := []) hP hD hS hA [] rfl rfl (by decide)
  refine va_calli (va_runS (As := [.int x5]) (rest := []) ⟨hx, hb, hml, hown, htx⟩ (cB_isRegister_2 l hl9 D cT aK aV s.heap.size x5 h6 h7 h8 h9) ⟨callB_of 1 htx (xw_goodC kw_2_18) rfl rfl rfl (htx _ kw_1_1) (htx _ kw_2_16) ⟨by decide, by decide, by decide +kernel⟩ ⟨Nat.le_of_ble_eq_true rfl, Nat.le_of_ble_eq_true rfl⟩, htx _ kw_2_17⟩ ⟨xPre_blind, (fun U hU hW => ⟨rfl, xPre_of hZ hS hFc hPc hDc hK U hU hW⟩)⟩ rfl rfl hl.1 rfl (lv_room (Nat.le_of_ble_eq_true rfl)) dB_two_1 ⟨Nat.le_of_ble_eq_true rfl, Nat.le_of_ble_eq_true rfl⟩) hS (fun q _ h => hFc q h) hFc (fun r1 u9 t H1 locs ht hvm hr9 hB hz1 hk1 hS => ?_)
  obtain ⟨hP1, hK1, hD1⟩ := hB
  rw [ht] at hP1
  obtain ⟨hP, hD⟩ := xjoin (W := [(a0, .inr (0, [v20, v21, .ref b22, .ref a2, v23, .ref a1, v24, v25])), (a1, .inr (2, [v26, v27, v28])), (a2, .inl (cT 3, 8, .inr (.inr (.inr (.inr f29))))), (a3, .inr (2, [.ref a4, .int 1, v33])), (a4, .inl (cT 2, 4096, .inr (.inl f34)))]) hP hD [] [0, 1, 2, 3, 4] 5 rfl rfl (by decide) (by decide) hk1 hFc hP1 hD1
  generalize H1 = H at hP hS ⊢
  rw [hr9]
  refine W.eq (g2 := F0 m 4 ls [.int 1]) rfl ?_
  refine lv_if_eq (tgt := 35) hx hb dB_two_4 (by decide) (fun h => ((by revert h; decide : False)).elim) (fun _ => ?_)
  refine lv_iload_n hx hb dB_two_7 rfl (lv_at hl 2 rfl) ?_
  refine lv_bipush (v := 9) hx hb dB_two_8 (by decide) ?_
  obtain ⟨hPc, hDc, hFc⟩ := xcut (wc := []) hP hD hS hA [] rfl rfl (by decide)
  refine va_calli (va_runS (As := [.int 0, .int 9]) (rest := []) ⟨hx, hb, hml, hown, htx⟩ (cB_isWithin_30 l hl9 D cT aK aV H.size) ⟨callB_of 2 htx (xw_goodC kw_1_218) rfl rfl rfl (htx _ kw_1_1) (htx _ kw_1_216) ⟨by decide, by decide, by decide +kernel⟩ ⟨Nat.le_of_ble_eq_true rfl, Nat.le_of_ble_eq_true rfl⟩, htx _ kw_1_217⟩ ⟨xPre_blind, (fun U hU hW => ⟨rfl, xPre_of hZ hS hFc hPc hDc hK U hU hW⟩)⟩ rfl rfl hl.1 rfl (lv_room (Nat.le_of_ble_eq_true rfl)) dB_two_10 ⟨Nat.le_of_ble_eq_true rfl, Nat.le_of_ble_eq_true rfl⟩) hS (fun q _ h => hFc q h) hFc (fun r2 u9 t H1 locs ht hvm hr9 hB hz1 hk1 hS => ?_)
  obtain ⟨hP1, hK1, hD1⟩ := hB
  rw [ht] at hP1
  obtain ⟨hP, hD⟩ := xjoin (W := [(a0, .inr (0, [v20, v21, .ref b22, .ref a2, v23, .ref a1, v24, v25])), (a1, .inr (2, [v26, v27, v28])), (a2, .inl (cT 3, 8, .inr (.inr (.inr (.inr f29))))), (a3, .inr (2, [.ref a4, .int 1, v33])), (a4, .inl (cT 2, 4096, .inr (.inl f34)))]) hP hD [] [0, 1, 2, 3, 4] 5 rfl rfl (by decide) (by decide) hk1 hFc hP1 hD1
  generalize H1 = H at hP hS ⊢
  rw [hr9]
  refine W.eq (g2 := F0 m 13 ls [.int 1]) rfl ?_
  refine lv_if_eq (tgt := 35) hx hb dB_two_13 (by decide) (fun h => ((by revert h; decide : False)).elim) (fun _ => ?_)
  refine lv_iload_n hx hb dB_two_16 rfl (lv_at hl 3 rfl) ?_
  obtain ⟨hPc, hDc, hFc⟩ := xcut (wc := []) hP hD hS hA [] rfl rfl (by decide)
  refine va_calli (va_runS (As := [.int x10]) (rest := []) ⟨hx, hb, hml, hown, htx⟩ (cB_isRegister_2 l hl9 D cT aK aV H.size x10 h11 h12 h13 h14) ⟨callB_of 1 htx (xw_goodC kw_2_18) rfl rfl rfl (htx _ kw_1_1) (htx _ kw_2_16) ⟨by decide, by decide, by decide +kernel⟩ ⟨Nat.le_of_ble_eq_true rfl, Nat.le_of_ble_eq_true rfl⟩, htx _ kw_2_17⟩ ⟨xPre_blind, (fun U hU hW => ⟨rfl, xPre_of hZ hS hFc hPc hDc hK U hU hW⟩)⟩ rfl rfl hl.1 rfl (lv_room (Nat.le_of_ble_eq_true rfl)) dB_two_17 ⟨Nat.le_of_ble_eq_true rfl, Nat.le_of_ble_eq_true rfl⟩) hS (fun q _ h => hFc q h) hFc (fun r3 u9 t H1 locs ht hvm hr9 hB hz1 hk1 hS => ?_)
  obtain ⟨hP1, hK1, hD1⟩ := hB
  rw [ht] at hP1
  obtain ⟨hP, hD⟩ := xjoin (W := [(a0, .inr (0, [v20, v21, .ref b22, .ref a2, v23, .ref a1, v24, v25])), (a1, .inr (2, [v26, v27, v28])), (a2, .inl (cT 3, 8, .inr (.inr (.inr (.inr f29))))), (a3, .inr (2, [.ref a4, .int 1, v33])), (a4, .inl (cT 2, 4096, .inr (.inl f34)))]) hP hD [] [0, 1, 2, 3, 4] 5 rfl rfl (by decide) (by decide) hk1 hFc hP1 hD1
  generalize H1 = H at hP hS ⊢
  rw [hr9]
  refine W.eq (g2 := F0 m 20 ls [.int 1]) rfl ?_
  refine lv_if_eq (tgt := 35) hx hb dB_two_20 (by decide) (fun h => ((by revert h; decide : False)).elim) (fun _ => ?_)
  refine lv_iload hx hb dB_two_23 (lv_at hl 4 rfl) ?_
  obtain ⟨hPc, hDc, hFc⟩ := xcut (wc := []) hP hD hS hA [] rfl rfl (by decide)
  refine va_calli (va_runS (As := [.int x15]) (rest := []) ⟨hx, hb, hml, hown, htx⟩ (cB_isRegister_2 l hl9 D cT aK aV H.size x15 h16 h17 h18 h19) ⟨callB_of 1 htx (xw_goodC kw_2_18) rfl rfl rfl (htx _ kw_1_1) (htx _ kw_2_16) ⟨by decide, by decide, by decide +kernel⟩ ⟨Nat.le_of_ble_eq_true rfl, Nat.le_of_ble_eq_true rfl⟩, htx _ kw_2_17⟩ ⟨xPre_blind, (fun U hU hW => ⟨rfl, xPre_of hZ hS hFc hPc hDc hK U hU hW⟩)⟩ rfl rfl hl.1 rfl (lv_room (Nat.le_of_ble_eq_true rfl)) dB_two_25 ⟨Nat.le_of_ble_eq_true rfl, Nat.le_of_ble_eq_true rfl⟩) hS (fun q _ h => hFc q h) hFc (fun r4 u9 t H1 locs ht hvm hr9 hB hz1 hk1 hS => ?_)
  obtain ⟨hP1, hK1, hD1⟩ := hB
  rw [ht] at hP1
  obtain ⟨hP, hD⟩ := xjoin (W := [(a0, .inr (0, [v20, v21, .ref b22, .ref a2, v23, .ref a1, v24, v25])), (a1, .inr (2, [v26, v27, v28])), (a2, .inl (cT 3, 8, .inr (.inr (.inr (.inr f29))))), (a3, .inr (2, [.ref a4, .int 1, v33])), (a4, .inl (cT 2, 4096, .inr (.inl f34)))]) hP hD [] [0, 1, 2, 3, 4] 5 rfl rfl (by decide) (by decide) hk1 hFc hP1 hD1
  generalize H1 = H at hP hS ⊢
  rw [hr9]
  refine W.eq (g2 := F0 m 28 ls [.int 1]) rfl ?_
  refine lv_if_eq (tgt := 35) hx hb dB_two_28 (by decide) (fun h => ((by revert h; decide : False)).elim) (fun _ => ?_)
  refine lv_iconst (v := 1) hx hb dB_two_31 (by decide) ?_
  refine lv_goto (tgt := 36) hx hb dB_two_32 (by decide) ?_
  obtain ⟨hPc, hDc, hFc⟩ := xcut (wc := []) hP hD hS hA [] rfl rfl (by decide)
  refine va_callv (va_runS (As := [.int 1]) (rest := []) ⟨hx, hb, hml, hown, htx⟩ (cB_demand_1 l hl9 D cT aK aV H.size) ⟨callB_of 1 htx (xw_goodC kw_1_221) rfl rfl rfl (htx _ kw_1_1) (htx _ kw_1_219) ⟨by decide, by decide, by decide +kernel⟩ ⟨Nat.le_of_ble_eq_true rfl, Nat.le_of_ble_eq_true rfl⟩, htx _ kw_1_220⟩ ⟨xPre_blind, (fun U hU hW => ⟨rfl, xPre_of hZ hS hFc hPc hDc hK U hU hW⟩)⟩ rfl rfl hl.1 rfl (lv_room (Nat.le_of_ble_eq_true rfl)) dB_two_36 ⟨Nat.le_of_ble_eq_true rfl, Nat.le_of_ble_eq_true rfl⟩) hS (fun q _ h => hFc q h) hFc (fun u9 t H1 locs ht hvm hr9 hB hz1 hk1 hS => ?_)
  obtain ⟨hP1, hK1, hD1⟩ := hB
  rw [ht] at hP1
  obtain ⟨hP, hD⟩ := xjoin (W := [(a0, .inr (0, [v20, v21, .ref b22, .ref a2, v23, .ref a1, v24, v25])), (a1, .inr (2, [v26, v27, v28])), (a2, .inl (cT 3, 8, .inr (.inr (.inr (.inr f29))))), (a3, .inr (2, [.ref a4, .int 1, v33])), (a4, .inl (cT 2, 4096, .inr (.inl f34)))]) hP hD [] [0, 1, 2, 3, 4] 5 rfl rfl (by decide) (by decide) hk1 hFc hP1 hD1
  generalize H1 = H at hP hS ⊢
  refine lv_aload_n hx hb dB_two_39 rfl (lv_at hl 0 rfl) ?_
  refine va_get (D := D) (ci := 0) (v := .ref a1) (C := "ValueBench") (T := TB) (N := 8) hx hb htx inB hown hK hP 0 rfl rfl 5 (by decide) (htx _ kw_1_100) (fun _ h9 => h9) rfl dB_two_40 ?_
  obtain ⟨hPc, hDc, hFc⟩ := xcut (wc := [(a1, .inr (2, [v26, v27, v28]))]) hP hD hS hA [1] rfl rfl (by decide)
  refine va_callv (va_runV (C := "ValueBench$Row") (As := []) (rest := []) ⟨hx, hb, hml, hown, htx⟩ (cR_clear_0 l hl9 D cT aK aV H.size a1 v26 v27 v28) ⟨callB_of 0 htx (xw_goodC kw_2_22) rfl rfl rfl (htx _ kw_1_4) (htx _ kw_2_19) ⟨by decide, by decide, by decide +kernel⟩ ⟨Nat.le_of_ble_eq_true rfl, Nat.le_of_ble_eq_true rfl⟩, (htx _ kw_2_20), (htx _ kw_2_21)⟩ ⟨xPre_blind, va_recv hK hP (ci := 2) rfl (q0 := 1) rfl, (fun U hU hW => ⟨rfl, xPre_of hZ hS hFc hPc hDc hK U hU hW⟩)⟩ rfl rfl hl.1 rfl (lv_room (Nat.le_of_ble_eq_true rfl)) dB_two_43 ⟨Nat.le_of_ble_eq_true rfl, Nat.le_of_ble_eq_true rfl⟩) hS (fun q _ h => hFc q h) hFc (fun u9 t H1 locs ht hvm hr9 hB hz1 hk1 hS => ?_)
  obtain ⟨hP1, hK1, hD1⟩ := hB
  rw [ht] at hP1
  obtain ⟨hP, hD⟩ := xjoin (W := [(a0, .inr (0, [v20, v21, .ref b22, .ref a2, v23, .ref a1, v24, v25])), (a2, .inl (cT 3, 8, .inr (.inr (.inr (.inr f29))))), (a3, .inr (2, [.ref a4, .int 1, v33])), (a4, .inl (cT 2, 4096, .inr (.inl f34))), (a1, .inr (2, [v26, .int 0, .int 0]))]) hP hD [1] [0, 2, 3, 4] 4 rfl rfl (by decide) (by decide) hk1 hFc hP1 hD1
  generalize H1 = H at hP hS ⊢
  refine lv_aload_n hx hb dB_two_46 rfl (lv_at hl 0 rfl) ?_
  refine lv_iload_n hx hb dB_two_47 rfl (lv_at hl 2 rfl) ?_
  refine lv_aload_n hx hb dB_two_48 rfl (lv_at hl 0 rfl) ?_
  refine va_get (D := D) (ci := 0) (v := .ref a2) (C := "ValueBench") (T := TB) (N := 8) hx hb htx inB hown hK hP 0 rfl rfl 3 (by decide) (htx _ kw_1_98) (fun _ h9 => h9) rfl dB_two_49 ?_
  refine lv_iload_n hx hb dB_two_52 rfl (lv_at hl 3 rfl) ?_
  refine va_aldq hx hb hK hP 1 3 rfl rfl h14 dB_two_53 ?_
  refine W.eq (g2 := F0 m 54 ls [va_rf (f29 x10.toNatClampNeg), .int 0, .ref a0]) rfl ?_
  rw [h30]
  refine W.eq (g2 := F0 m 54 ls [.ref a3, .int 0, .ref a0]) rfl ?_
  refine lv_aload_n hx hb dB_two_54 rfl (lv_at hl 0 rfl) ?_
  refine va_get (D := D) (ci := 0) (v := .ref a2) (C := "ValueBench") (T := TB) (N := 8) hx hb htx inB hown hK hP 0 rfl rfl 3 (by decide) (htx _ kw_1_98) (fun _ h9 => h9) rfl dB_two_55 ?_
  refine lv_iload hx hb dB_two_58 (lv_at hl 4 rfl) ?_
  refine va_aldq hx hb hK hP 1 3 rfl rfl h19 dB_two_60 ?_
  refine W.eq (g2 := F0 m 61 ls [va_rf (f29 x15.toNatClampNeg), .ref a3, .int 0, .ref a0]) rfl ?_
  rw [h32]
  refine W.eq (g2 := F0 m 61 ls [.ref b31, .ref a3, .int 0, .ref a0]) rfl ?_
  refine lv_aload_n hx hb dB_two_61 rfl (lv_at hl 0 rfl) ?_
  refine va_get (D := D) (ci := 0) (v := .ref b22) (C := "ValueBench") (T := TB) (N := 8) hx hb htx inB hown hK hP 0 rfl rfl 2 (by decide) (htx _ kw_1_97) (fun _ h9 => h9) rfl dB_two_62 ?_
  refine lv_aload_n hx hb dB_two_65 rfl (lv_at hl 0 rfl) ?_
  refine va_get (D := D) (ci := 0) (v := .ref a1) (C := "ValueBench") (T := TB) (N := 8) hx hb htx inB hown hK hP 0 rfl rfl 5 (by decide) (htx _ kw_1_100) (fun _ h9 => h9) rfl dB_two_66 ?_
  obtain ⟨hPc, hDc, hFc⟩ := xcut (wc := [(a3, .inr (2, [.ref a4, .int 1, v33])), (a4, .inl (cT 2, 4096, .inr (.inl f34)))]) hP hD hS hA [2, 3] rfl rfl (by decide)
  refine va_calli (va_runS (As := [.int 0, .ref a3, .ref b31, .ref b22, .ref a1]) (rest := [.ref a0]) ⟨hx, hb, hml, hown, htx⟩ (cH_apply_1 l hl9 D cT aK aV H.size a3 a4 b31 b22 a1 v33 f34 (by first | rfl | exact h30 | exact h32 | exact h35)) ⟨callB_of 5 htx (xw_goodC kw_4_146) rfl rfl rfl (htx _ kw_1_27) (htx _ kw_4_144) ⟨by decide, by decide, by decide +kernel⟩ ⟨Nat.le_of_ble_eq_true rfl, Nat.le_of_ble_eq_true rfl⟩, htx _ kw_4_145⟩ ⟨xPre_blind, (fun U hU hW => ⟨rfl, xPre_of hZ hS hFc hPc hDc hK U hU hW⟩)⟩ rfl rfl hl.1 rfl (lv_room (Nat.le_of_ble_eq_true rfl)) dB_two_69 ⟨Nat.le_of_ble_eq_true rfl, Nat.le_of_ble_eq_true rfl⟩) hS (fun q _ h => hFc q h) hFc (fun r5 u9 t H1 locs ht hvm hr9 hB hz1 hk1 hS => ?_)
  obtain ⟨hP1, hK1, hD1⟩ := hB
  rw [ht] at hP1
  obtain ⟨hP, hD⟩ := xjoin (W := [(a0, .inr (0, [v20, v21, .ref b22, .ref a2, v23, .ref a1, v24, v25])), (a2, .inl (cT 3, 8, .inr (.inr (.inr (.inr f29))))), (a1, .inr (2, [v26, .int 0, .int 0])), (a3, .inr (2, [.ref a4, .int 1, v33])), (a4, .inl (cT 2, 4096, .inr (.inl f34)))]) hP hD [2, 3] [0, 1, 4] 3 rfl rfl (by decide) (by decide) hk1 hFc hP1 hD1
  generalize H1 = H at hP hS ⊢
  rw [hr9]
  refine W.eq (g2 := F0 m 72 ls [.int 1, .ref a0]) rfl ?_
  obtain ⟨hPc, hDc, hFc⟩ := xcut (wc := [(a0, .inr (0, [v20, v21, .ref b22, .ref a2, v23, .ref a1, v24, v25]))]) hP hD hS hA [0] rfl rfl (by decide)
  refine xx_thr (vx_runV (C := "ValueBench") (As := [.int 1]) (rest := []) ⟨hx, hb, hml, hown, htx⟩ (cB_demandDone_1 l hl9 D cT aK aV H.size a0 v20 v21 (.ref b22) (.ref a2) v23 (.ref a1) v24 v25) ⟨callB_of 1 htx (xw_goodC kw_3_222) rfl rfl rfl (htx _ kw_1_1) (htx _ kw_3_219) ⟨by decide, by decide, by decide +kernel⟩ ⟨Nat.le_of_ble_eq_true rfl, Nat.le_of_ble_eq_true rfl⟩, (htx _ kw_3_221), (htx _ kp_B_demandDone)⟩ ⟨xPre_blind, va_recv hK hP (ci := 0) rfl (q0 := 0) rfl, (fun U hU hW => ⟨rfl, xPre_of hZ hS hFc hPc hDc hK U hU hW⟩)⟩ rfl rfl hl.1 rfl (lv_room (Nat.le_of_ble_eq_true rfl)) dB_two_72 ⟨Nat.le_of_ble_eq_true rfl, Nat.le_of_ble_eq_true rfl⟩) hS hFc (fun q _ h => hFc q h) (fun E ce q9 u9 t H1 locs ht hvm _ hB hz1 hk1 hS hce hcv hcl => ?_)
  obtain ⟨rfl, hP1, hK1, hD1⟩ := hB
  rw [ht] at hP1
  obtain ⟨hP, hD⟩ := xjoin (W := [(a2, .inl (cT 3, 8, .inr (.inr (.inr (.inr f29))))), (a1, .inr (2, [v26, .int 0, .int 0])), (a3, .inr (2, [.ref a4, .int 1, v33])), (a4, .inl (cT 2, 4096, .inr (.inl f34))), (a0, .inr (0, [v20, v21, .ref b22, .ref a2, v23, .ref a1, v24, .int 1]))]) hP hD [0] [1, 2, 3, 4] 4 rfl rfl (by decide) (by decide) hk1 hFc hP1 hD1
  generalize H1 = H at hP hS hce ⊢
  obtain ⟨hP9, hD9⟩ := xsub (wc := [(a0, .inr (0, [v20, v21, .ref b22, .ref a2, v23, .ref a1, v24, .int 1])), (a1, .inr (2, [v26, .int 0, .int 0])), (a2, .inl (cT 3, 8, .inr (.inr (.inr (.inr f29))))), (a3, .inr (2, [.ref a4, .int 1, v33])), (a4, .inl (cT 2, 4096, .inr (.inl f34)))]) hP hD [4, 1, 0, 2, 3] rfl rfl (by decide)
  exact vx_out (E := "java/lang/ArithmeticException") (fun x h => (hne x h).elim) hlocks hce hcv hcl (fun t ht ha => ⟨(), trivial, ⟨rfl, by rw [ht]; exact hP9, va_K.moved ha hK, hD9⟩, hS.F ht⟩) hS.2.2 (Nat.le_of_ble_eq_true rfl) (Nat.le_of_ble_eq_true rfl)
set_option maxHeartbeats 400000000 in
set_option maxRecDepth 100000 in
theorem cL_two_9 (l : Launch) (hl9 : l.stackTraces = false) (D : va_G) (cT : Nat → ClassId) (aK aV : Nat → Nat) (sz : Nat) (a0 : Nat) (a1 : Nat) (a2 : Nat) (a3 : Nat) (a4 : Nat) (x5 : Int32) (x10 : Int32) (x15 : Int32) (v20 : Value) (v21 : Value) (b22 : Nat) (v23 : Value) (v24 : Value) (v25 : Value) (v26 : Value) (v27 : Value) (v28 : Value) (f29 : Nat → Option Nat) (b31 : Nat) (v33 : Value) (f34 : Nat → Int64) (h6 : ¬ x5 < 0) (h7 : ¬ 7 < x5) (h8 : x5 ≤ 7) (h9 : vp_in x5 8) (h11 : ¬ x10 < 0) (h12 : ¬ 7 < x10) (h13 : x10 ≤ 7) (h14 : vp_in x10 8) (h16 : ¬ x15 < 0) (h17 : ¬ 7 < x15) (h18 : x15 ≤ 7) (h19 : vp_in x15 8) (h30 : f29 x10.toNatClampNeg = some a3) (h32 : f29 x15.toNatClampNeg = some b31) (h35 : f34 0 = 0) : xMet l yL_two wyL_two 8 1 6 145 D cT aK aV sz [.ref a0, .int x5, .int 0, .int x10, .int x15] [(a0, .inr (0, [v20, v21, .ref b22, .ref a2, v23, .ref a1, v24, v25])), (a1, .inr (2, [v26, v27, v28])), (a2, .inl (cT 3, 8, .inr (.inr (.inr (.inr f29))))), (a3, .inr (2, [.ref a4, .int 1, v33])), (a4, .inl (cT 2, 4096, .inr (.inl f34)))] (fun A => va_Qi (fun (r : Int32) (_ : Unit) => r = 2) (fun _ t => xB D xcl cT A [(a0, .inr (0, [v20, v21, .ref b22, .ref a2, v23, .ref a1, v24, .int 1])), (a1, .inr (2, [v26, .int 0, .int 0])), (a2, .inl (cT 3, 8, .inr (.inr (.inr (.inr f29))))), (a3, .inr (2, [.ref a4, .int 1, v33])), (a4, .inl (cT 2, 4096, .inr (.inl f34)))] t) A) := by
  refine va_MetW (cc := method_11_code) (maxL := 6) (ret := (some .int)) (hh := [(0, 9, 12, 19), (0, 9, 16, 33), (0, 9, 20, 13)]) (by decide) rfl ?_
  intro p e s m args below meth c s₁ B hml hv
  obtain ⟨rfl, hsz, hZ, hP, hK, hD0⟩ := hv
  have hx := B.exec
  have hb := B.bytes
  have hr := B.returns
  have hts := atoms_spec (ws := wyL_two) B.pre
  have htx := fun w h => hts w (List.mem_cons_of_mem _ h)
  have hown : s.vm.findClass "ValueBenchLaw" = some m.cls := findClass_of_methodNamed B.named
  have hlocks := B.notSynchronized
  subst hsz
  have hD := hD0.self (sz := s.heap.size)
  generalize hAe : va_A [(a0, .inr (0, [v20, v21, .ref b22, .ref a2, v23, .ref a1, v24, v25])), (a1, .inr (2, [v26, v27, v28])), (a2, .inl (cT 3, 8, .inr (.inr (.inr (.inr f29))))), (a3, .inr (2, [.ref a4, .int 1, v33])), (a4, .inl (cT 2, 4096, .inr (.inl f34)))] s.heap.size = A at hD hZ ⊢
  have hA : ∀ q : Nat, s.heap.size ≤ q → A q := fun q h => by rw [← hAe]; exact Or.inr h
  have hS : va_S A s.heap s.heap [] := va_S.rf
  have hP : va_P D xcl [(a0, .inr (0, [v20, v21, .ref b22, .ref a2, v23, .ref a1, v24, v25])), (a1, .inr (2, [v26, v27, v28])), (a2, .inl (cT 3, 8, .inr (.inr (.inr (.inr f29))))), (a3, .inr (2, [.ref a4, .int 1, v33])), (a4, .inl (cT 2, 4096, .inr (.inl f34)))] s.heap := hP
  have hl := lv_entry ([.ref a0, .int x5, .int 0, .int x10, .int x15]) (n := 6) (Nat.le_of_ble_eq_true rfl)
  rw [lg_entry_eq]
  generalize (lg_sl ([.ref a0, .int x5, .int 0, .int x10, .int x15]) ++ List.replicate (6 - (lg_sl ([.ref a0, .int x5, .int 0, .int x10, .int x15])).length) Slot.unset).toArray = ls at hl ⊢
  have hl : lv_has ls 6 [(0, .ref a0), (1, .int x5), (2, .int 0), (3, .int x10), (4, .int x15)] := hl
  have htab := vx_table (x := yL_two) B (hts _ List.mem_cons_self)
  refine lv_aload_n hx hb dL_two_0 rfl (lv_at hl 0 rfl) ?_
  refine lv_iload_n hx hb dL_two_1 rfl (lv_at hl 1 rfl) ?_
  refine lv_iload_n hx hb dL_two_2 rfl (lv_at hl 2 rfl) ?_
  refine lv_iload_n hx hb dL_two_3 rfl (lv_at hl 3 rfl) ?_
  refine lv_iload hx hb dL_two_4 (lv_at hl 4 rfl) ?_
  obtain ⟨hPc, hDc, hFc⟩ := xcut (wc := [(a0, .inr (0, [v20, v21, .ref b22, .ref a2, v23, .ref a1, v24, v25])), (a1, .inr (2, [v26, v27, v28])), (a2, .inl (cT 3, 8, .inr (.inr (.inr (.inr f29))))), (a3, .inr (2, [.ref a4, .int 1, v33])), (a4, .inl (cT 2, 4096, .inr (.inl f34)))]) hP hD hS hA [0, 1, 2, 3, 4] rfl rfl (by decide)
  refine xx_thr (vx_runV (C := "ValueBench") (As := [.int x5, .int 0, .int x10, .int x15]) (rest := []) ⟨hx, hb, hml, hown, htx⟩ (cB_two_9 l hl9 D cT aK aV s.heap.size a0 a1 a2 a3 a4 x5 x10 x15 v20 v21 b22 v23 v24 v25 v26 v27 v28 f29 b31 v33 f34 h6 h7 h8 h9 h11 h12 h13 h14 h16 h17 h18 h19 (by first | rfl | exact h30 | exact h32 | exact h35) (by first | rfl | exact h30 | exact h32 | exact h35) (by first | rfl | exact h30 | exact h32 | exact h35)) ⟨callB_of 4 htx (xw_goodC kw_4_143) rfl rfl rfl (htx _ kw_1_1) (htx _ kw_4_140) ⟨by decide, by decide, by decide +kernel⟩ ⟨Nat.le_of_ble_eq_true rfl, Nat.le_of_ble_eq_true rfl⟩, (htx _ kw_4_141), (htx _ kw_4_142)⟩ ⟨xPre_blind, va_recv hK hP (ci := 0) rfl (q0 := 0) rfl, (fun U hU hW => ⟨rfl, xPre_of hZ hS hFc hPc hDc hK U hU hW⟩)⟩ rfl rfl hl.1 rfl (lv_room (Nat.le_of_ble_eq_true rfl)) dL_two_6 ⟨Nat.le_of_ble_eq_true rfl, Nat.le_of_ble_eq_true rfl⟩) hS hFc (fun q _ h => hFc q h) (fun E ce q9 u9 t H1 locs ht hvm _ hB hz1 hk1 hS hce hcv hcl => ?_)
  obtain ⟨rfl, hP1, hK1, hD1⟩ := hB
  rw [ht] at hP1
  obtain ⟨hP, hD⟩ := xjoin (W := [(a0, .inr (0, [v20, v21, .ref b22, .ref a2, v23, .ref a1, v24, .int 1])), (a1, .inr (2, [v26, .int 0, .int 0])), (a2, .inl (cT 3, 8, .inr (.inr (.inr (.inr f29))))), (a3, .inr (2, [.ref a4, .int 1, v33])), (a4, .inl (cT 2, 4096, .inr (.inl f34)))]) hP hD [0, 1, 2, 3, 4] [] 0 rfl rfl (by decide) (by decide) hk1 hFc hP1 hD1
  generalize H1 = H at hP hS hce ⊢
  refine vx_catch (own := "ValueBenchLaw") (name := "java/lang/ArithmeticException") (E := "java/lang/ArithmeticException") hown [⟨0, 9, 12, 19⟩] ⟨0, 9, 16, 33⟩ [⟨0, 9, 20, 13⟩] (by rw [htab]; rfl) (by intro z hz; rcases List.mem_cons.mp hz with rfl | hz; (exact Or.inr ⟨by decide, "java/lang/IllegalArgumentException", htx _ kw_1_211, hZ.2.2.2.2.2.2.2.1 ("java/lang/ArithmeticException", "java/lang/IllegalArgumentException") (List.mem_of_getElem? (i := 10) rfl)⟩); cases hz) (by decide) (by decide) (htx _ kw_3_98) ((hZ.2.2.2.2.2.1 "java/lang/ArithmeticException" (List.mem_of_getElem? (i := 3) rfl)).use rfl) hce hcv hcl ?_
  refine lv_astore (lv' := [(5, .ref q9), (0, .ref a0), (1, .int x5), (2, .int 0), (3, .int x10), (4, .int x15)]) hx hb dL_two_16 hl (by decide) rfl (fun ls hl => ?_)
  refine lv_iconst (v := 2) hx hb dL_two_18 (by decide) ?_
  obtain ⟨hP9, hD9⟩ := xsub (wc := [(a0, .inr (0, [v20, v21, .ref b22, .ref a2, v23, .ref a1, v24, .int 1])), (a1, .inr (2, [v26, .int 0, .int 0])), (a2, .inl (cT 3, 8, .inr (.inr (.inr (.inr f29))))), (a3, .inr (2, [.ref a4, .int 1, v33])), (a4, .inl (cT 2, 4096, .inr (.inl f34)))]) hP hD [0, 1, 2, 3, 4] rfl rfl (by decide)
  refine W.widen (k := 1) (n := 6) (Nat.le_of_ble_eq_true rfl) (Nat.le_of_ble_eq_true rfl) ?_
  exact W.iret (v := 2) hx hb hr (fun t ht hW => ⟨⟨2, (), rfl, rfl, by rw [ht]; exact hP9, va_K.moved hW.alike hK, hD9⟩, hS.F ht⟩) hS.2.2 dL_two_19
set_option maxHeartbeats 400000000 in
set_option maxRecDepth 100000 in
theorem cM_finish_33 (l : Launch) (hl9 : l.stackTraces = false) (D : va_G) (cT : Nat → ClassId) (aK aV : Nat → Nat) (sz : Nat) (a0 : Nat) (a1 : Nat) (a2 : Nat) (a3 : Nat) (a4 : Nat) (a5 : Nat) (x6 : Int32) (x7 : Int32) (x12 : Int32) (v17 : Value) (v18 : Value) (v19 : Value) (v20 : Value) (v21 : Value) (v22 : Value) (v23 : Value) (v24 : Value) (v25 : Value) (v26 : Value) (v27 : Value) (v28 : Value) (v29 : Value) (v30 : Value) (v31 : Value) (v32 : Value) (v33 : Value) (v34 : Value) (v35 : Value) (v36 : Value) (v37 : Value) (v38 : Value) (v39 : Value) (v40 : Value) (v41 : Value) (v42 : Value) (v43 : Value) (v44 : Value) (f45 : Nat → Option Nat) (f48 : Nat → Int32) (f51 : Nat → Int32) (f56 : Nat → Option Nat) (f59 : Nat → Int32) (h8 : ¬ x7 < 0) (h9 : ¬ 7 < x7) (h10 : x7 ≤ 7) (h11 : vp_in x7 8) (h13 : ¬ x12 < 0) (h14 : ¬ 7 < x12) (h15 : x12 ≤ 7) (h16 : vp_in x12 8) (h46 : f45 x7.toNatClampNeg = some a3) (h47 : f45 x12.toNatClampNeg = some a5) (h49 : f48 x7.toNatClampNeg = 4) (h50 : f48 x12.toNatClampNeg = 4) (h52 : f51 0 = 110) (h53 : f51 1 = 117) (h54 : f51 2 = 108) (h55 : f51 3 = 108) (h57 : f56 0 = none) (h58 : f56 1 = none) (h60 : f59 0 = 110) (h61 : f59 1 = 117) (h62 : f59 2 = 108) (h63 : f59 3 = 108) : xMet l yM_finish wyM_finish 9 3 18 175 D cT aK aV sz [.ref a0, .int x6, .int 2, .int 0, .int x7, .int x12] [(a0, .inr (5, [v17, .ref a4, .int 0, v18, v19, v20, v21, v22, v23, v24, v25, v26, v27, v28, v29, v30, v31, v32, v33, v34, v35, v36, v37, v38, .ref a1, .ref a2, v39, v40, v41, v42, v43, v44])), (a1, .inl (cT 5, 8, .inr (.inr (.inr (.inr f45))))), (a2, .inl (cT 1, 8, .inl f48)), (a3, .inl (cT 0, 4096, .inl f51)), (a4, .inl (cT 4, 1024, .inr (.inr (.inr (.inr f56))))), (a5, .inl (cT 0, 4096, .inl f59))] (fun A => va_Qv (fun _ : Unit => True) (fun _ t => ∃ (r1 : Nat) (r2 : Nat), xB D xcl cT A [(a0, .inr (5, [.int 2, .ref a4, .int 2, v18, v19, v20, v21, v22, .int 1, v24, v25, v26, v27, v28, v29, .ref a5, .int 4, .int 4, .int 0, .int 100, v35, v36, v37, v38, .ref a1, .ref a2, v39, v40, v41, v42, .int 1, v44])), (a1, .inl (cT 5, 8, .inr (.inr (.inr (.inr f45))))), (a2, .inl (cT 1, 8, .inl f48)), (a3, .inl (cT 0, 4096, .inl f51)), (a4, .inl (cT 4, 1024, .inr (.inr (.inr (.inr (va_up (va_up f56 0 (some r1)) 1 (some r2))))))), (a5, .inl (cT 0, 4096, .inl f59)), (r1, .inr (6, [.int 0, .long 0, .int 0, .int 0, .int 0, .int 1])), (r2, .inr (6, [.int 0, .long 0, .int 0, .int 0, .int 0, .int 1]))] t) A) := by
  refine va_MetW (cc := prog_13_method_90_code) (maxL := 10) (ret := none) (hh := [(0, 128, 131, 83), (0, 128, 149, 86)]) (by decide) rfl ?_
  intro p e s m args below meth c s₁ B hml hv
  obtain ⟨rfl, hsz, hZ, hP, hK, hD0⟩ := hv
  have hx := B.exec
  have hb := B.bytes
  have hr := B.returns
  have hts := atoms_spec (ws := wyM_finish) B.pre
  have htx := fun w h => hts w (List.mem_cons_of_mem _ h)
  have hown : s.vm.findClass "ValueBenchModel" = some m.cls := findClass_of_methodNamed B.named
  have hlocks := B.notSynchronized
  subst hsz
  have hD := hD0.self (sz := s.heap.size)
  generalize hAe : va_A [(a0, .inr (5, [v17, .ref a4, .int 0, v18, v19, v20, v21, v22, v23, v24, v25, v26, v27, v28, v29, v30, v31, v32, v33, v34, v35, v36, v37, v38, .ref a1, .ref a2, v39, v40, v41, v42, v43, v44])), (a1, .inl (cT 5, 8, .inr (.inr (.inr (.inr f45))))), (a2, .inl (cT 1, 8, .inl f48)), (a3, .inl (cT 0, 4096, .inl f51)), (a4, .inl (cT 4, 1024, .inr (.inr (.inr (.inr f56))))), (a5, .inl (cT 0, 4096, .inl f59))] s.heap.size = A at hD hZ ⊢
  have hA : ∀ q : Nat, s.heap.size ≤ q → A q := fun q h => by rw [← hAe]; exact Or.inr h
  have hS : va_S A s.heap s.heap [] := va_S.rf
  have hP : va_P D xcl [(a0, .inr (5, [v17, .ref a4, .int 0, v18, v19, v20, v21, v22, v23, v24, v25, v26, v27, v28, v29, v30, v31, v32, v33, v34, v35, v36, v37, v38, .ref a1, .ref a2, v39, v40, v41, v42, v43, v44])), (a1, .inl (cT 5, 8, .inr (.inr (.inr (.inr f45))))), (a2, .inl (cT 1, 8, .inl f48)), (a3, .inl (cT 0, 4096, .inl f51)), (a4, .inl (cT 4, 1024, .inr (.inr (.inr (.inr f56))))), (a5, .inl (cT 0, 4096, .inl f59))] s.heap := hP
  have hl := lv_entry ([.ref a0, .int x6, .int 2, .int 0, .int x7, .int x12]) (n := 10) (Nat.le_of_ble_eq_true rfl)
  rw [lg_entry_eq]
  generalize (lg_sl ([.ref a0, .int x6, .int 2, .int 0, .int x7, .int x12]) ++ List.replicate (10 - (lg_sl ([.ref a0, .int x6, .int 2, .int 0, .int x7, .int x12])).length) Slot.unset).toArray = ls at hl ⊢
  have hl : lv_has ls 10 [(0, .ref a0), (1, .int x6), (2, .int 2), (3, .int 0), (4, .int x7), (5, .int x12)] := hl
  have htab := vx_table (x := yM_finish) B (hts _ List.mem_cons_self)
  refine lv_aload_n hx hb dM_finish_0 rfl (lv_at hl 0 rfl) ?_
  refine lv_iload hx hb dM_finish_1 (lv_at hl 4 rfl) ?_
  obtain ⟨hPc, hDc, hFc⟩ := xcut (wc := [(a0, .inr (5, [v17, .ref a4, .int 0, v18, v19, v20, v21, v22, v23, v24, v25, v26, v27, v28, v29, v30, v31, v32, v33, v34, v35, v36, v37, v38, .ref a1, .ref a2, v39, v40, v41, v42, v43, v44])), (a1, .inl (cT 5, 8, .inr (.inr (.inr (.inr f45))))), (a2, .inl (cT 1, 8, .inl f48)), (a3, .inl (cT 0, 4096, .inl f51)), (a4, .inl (cT 4, 1024, .inr (.inr (.inr (.inr f56)))))]) hP hD hS hA [0, 1, 2, 3, 4] rfl rfl (by decide)
  refine va_callr (va_runV (C := "ValueBenchModel") (As := [.int x7]) (rest := []) ⟨hx, hb, hml, hown, htx⟩ (cM_register_0 l hl9 D cT aK aV s.heap.size a0 a1 a2 a3 a4 x7 v17 v18 v19 v20 v21 v22 v23 v24 v25 v26 v27 v28 v29 v30 v31 v32 v33 v34 v35 v36 v37 v38 v39 v40 v41 v42 v43 v44 f45 f48 f51 f56 h8 h9 h10 h11 (by first | rfl | exact h46 | exact h47 | exact h49 | exact h50 | exact h52 | exact h53 | exact h54 | exact h55 | exact h57 | exact h58 | exact h60 | exact h61 | exact h62 | exact h63) (by first | rfl | exact h46 | exact h47 | exact h49 | exact h50 | exact h52 | exact h53 | exact h54 | exact h55 | exact h57 | exact h58 | exact h60 | exact h61 | exact h62 | exact h63) (by first | rfl | exact h46 | exact h47 | exact h49 | exact h50 | exact h52 | exact h53 | exact h54 | exact h55 | exact h57 | exact h58 | exact h60 | exact h61 | exact h62 | exact h63) (by first | rfl | exact h46 | exact h47 | exact h49 | exact h50 | exact h52 | exact h53 | exact h54 | exact h55 | exact h57 | exact h58 | exact h60 | exact h61 | exact h62 | exact h63) (by first | rfl | exact h46 | exact h47 | exact h49 | exact h50 | exact h52 | exact h53 | exact h54 | exact h55 | exact h57 | exact h58 | exact h60 | exact h61 | exact h62 | exact h63) (by first | rfl | exact h46 | exact h47 | exact h49 | exact h50 | exact h52 | exact h53 | exact h54 | exact h55 | exact h57 | exact h58 | exact h60 | exact h61 | exact h62 | exact h63) (by first | rfl | exact h46 | exact h47 | exact h49 | exact h50 | exact h52 | exact h53 | exact h54 | exact h55 | exact h57 | exact h58 | exact h60 | exact h61 | exact h62 | exact h63)) ⟨callB_of 1 htx (xw_goodC kw_6_170) rfl rfl rfl (htx _ kw_1_5) (htx _ kw_6_167) ⟨by decide, by decide, by decide +kernel⟩ ⟨Nat.le_of_ble_eq_true rfl, Nat.le_of_ble_eq_true rfl⟩, (htx _ kw_6_169), (htx _ kp_M_register)⟩ ⟨xPre_blind, va_recv hK hP (ci := 5) rfl (q0 := 0) rfl, (fun U hU hW => ⟨rfl, xPre_of hZ hS hFc hPc hDc hK U hU hW⟩)⟩ rfl rfl hl.1 rfl (lv_room (Nat.le_of_ble_eq_true rfl)) dM_finish_3 ⟨Nat.le_of_ble_eq_true rfl, Nat.le_of_ble_eq_true rfl⟩) hS (fun q _ h => hFc q h) hFc (fun u9 r1 t H1 locs ht hvm hr9 hB hz1 hk1 hS => ?_)
  obtain ⟨hP1, hK1, hD1⟩ := hB
  rw [ht] at hP1
  obtain ⟨hP, hD⟩ := xjoin (W := [(a5, .inl (cT 0, 4096, .inl f59)), (a0, .inr (5, [v17, .ref a4, .int 1, v18, v19, v20, v21, v22, v23, v24, v25, v26, v27, v28, v29, .ref a3, .int 4, .int 4, .int 0, .int 100, v35, v36, v37, v38, .ref a1, .ref a2, v39, v40, v41, v42, v43, v44])), (a1, .inl (cT 5, 8, .inr (.inr (.inr (.inr f45))))), (a2, .inl (cT 1, 8, .inl f48)), (a3, .inl (cT 0, 4096, .inl f51)), (a4, .inl (cT 4, 1024, .inr (.inr (.inr (.inr (va_up f56 0 (some r1))))))), (r1, .inr (6, [.int 0, .long 0, .int 0, .int 0, .int 0, .int 1]))]) hP hD [0, 1, 2, 3, 4] [5] 1 rfl rfl (by decide) (by decide) hk1 hFc hP1 hD1
  generalize H1 = H at hP hS ⊢
  refine W.eq (g2 := F0 m 6 ls [.ref r1]) rfl ?_
  refine lv_astore (lv' := [(6, .ref r1), (0, .ref a0), (1, .int x6), (2, .int 2), (3, .int 0), (4, .int x7), (5, .int x12)]) hx hb dM_finish_6 hl (by decide) rfl (fun ls hl => ?_)
  refine lv_iload_n hx hb dM_finish_8 rfl (lv_at hl 3 rfl) ?_
  refine lv_iconst (v := 1) hx hb dM_finish_9 (by decide) ?_
  refine lv_icmp_ne (tgt := 17) hx hb dM_finish_10 (by decide) (fun _ => ?_) (fun h => ((by revert h; decide : False)).elim)
  refine lv_aload_n hx hb dM_finish_17 rfl (lv_at hl 1 rfl) ?_
  refine lv_iload hx hb dM_finish_18 (lv_at hl 6 rfl) ?_
  obtain ⟨hPc, hDc, hFc⟩ := xcut (wc := [(a0, .inr (5, [v17, .ref a4, .int 1, v18, v19, v20, v21, v22, v23, v24, v25, v26, v27, v28, v29, .ref a3, .int 4, .int 4, .int 0, .int 100, v35, v36, v37, v38, .ref a1, .ref a2, v39, v40, v41, v42, v43, v44])), (a1, .inl (cT 5, 8, .inr (.inr (.inr (.inr f45))))), (a2, .inl (cT 1, 8, .inl f48)), (a5, .inl (cT 0, 4096, .inl f59)), (a4, .inl (cT 4, 1024, .inr (.inr (.inr (.inr (va_up f56 0 (some r1)))))))]) hP hD hS hA [1, 2, 3, 0, 5] rfl rfl (by decide)
  refine va_callr (va_runV (C := "ValueBenchModel") (As := [.int x12]) (rest := []) ⟨hx, hb, hml, hown, htx⟩ (cM_register_2 l hl9 D cT aK aV H.size a0 a1 a2 a5 a4 x12 v17 v18 v19 v20 v21 v22 v23 v24 v25 v26 v27 v28 v29 (.ref a3) (.int 4) (.int 4) (.int 0) (.int 100) v35 v36 v37 v38 v39 v40 v41 v42 v43 v44 f45 f48 f59 (va_up f56 0 (some r1)) h13 h14 h15 h16 (by first | rfl | exact h46 | exact h47 | exact h49 | exact h50 | exact h52 | exact h53 | exact h54 | exact h55 | exact h58 | exact h60 | exact h61 | exact h62 | exact h63) (by first | rfl | exact h46 | exact h47 | exact h49 | exact h50 | exact h52 | exact h53 | exact h54 | exact h55 | exact h58 | exact h60 | exact h61 | exact h62 | exact h63) (by first | rfl | exact h46 | exact h47 | exact h49 | exact h50 | exact h52 | exact h53 | exact h54 | exact h55 | exact h58 | exact h60 | exact h61 | exact h62 | exact h63) (by first | rfl | exact h46 | exact h47 | exact h49 | exact h50 | exact h52 | exact h53 | exact h54 | exact h55 | exact h58 | exact h60 | exact h61 | exact h62 | exact h63) (by first | rfl | exact h46 | exact h47 | exact h49 | exact h50 | exact h52 | exact h53 | exact h54 | exact h55 | exact h58 | exact h60 | exact h61 | exact h62 | exact h63) (by first | rfl | exact h46 | exact h47 | exact h49 | exact h50 | exact h52 | exact h53 | exact h54 | exact h55 | exact h58 | exact h60 | exact h61 | exact h62 | exact h63) (by first | rfl | exact h46 | exact h47 | exact h49 | exact h50 | exact h52 | exact h53 | exact h54 | exact h55 | exact h58 | exact h60 | exact h61 | exact h62 | exact h63)) ⟨callB_of 1 htx (xw_goodC kw_6_170) rfl rfl rfl (htx _ kw_1_5) (htx _ kw_6_167) ⟨by decide, by decide, by decide +kernel⟩ ⟨Nat.le_of_ble_eq_true rfl, Nat.le_of_ble_eq_true rfl⟩, (htx _ kw_6_169), (htx _ kp_M_register)⟩ ⟨xPre_blind, va_recv hK hP (ci := 5) rfl (q0 := 1) rfl, (fun U hU hW => ⟨rfl, xPre_of hZ hS hFc hPc hDc hK U hU hW⟩)⟩ rfl rfl hl.1 rfl (lv_room (Nat.le_of_ble_eq_true rfl)) dM_finish_20 ⟨Nat.le_of_ble_eq_true rfl, Nat.le_of_ble_eq_true rfl⟩) hS (fun q _ h => hFc q h) hFc (fun u9 r2 t H1 locs ht hvm hr9 hB hz1 hk1 hS => ?_)
  obtain ⟨hP1, hK1, hD1⟩ := hB
  rw [ht] at hP1
  obtain ⟨hP, hD⟩ := xjoin (W := [(a3, .inl (cT 0, 4096, .inl f51)), (r1, .inr (6, [.int 0, .long 0, .int 0, .int 0, .int 0, .int 1])), (a0, .inr (5, [v17, .ref a4, .int 2, v18, v19, v20, v21, v22, v23, v24, v25, v26, v27, v28, v29, .ref a5, .int 4, .int 4, .int 0, .int 100, v35, v36, v37, v38, .ref a1, .ref a2, v39, v40, v41, v42, v43, v44])), (a1, .inl (cT 5, 8, .inr (.inr (.inr (.inr f45))))), (a2, .inl (cT 1, 8, .inl f48)), (a5, .inl (cT 0, 4096, .inl f59)), (a4, .inl (cT 4, 1024, .inr (.inr (.inr (.inr (va_up (va_up f56 0 (some r1)) 1 (some r2))))))), (r2, .inr (6, [.int 0, .long 0, .int 0, .int 0, .int 0, .int 1]))]) hP hD [1, 2, 3, 0, 5] [4, 6] 2 rfl rfl (by decide) (by decide) hk1 hFc hP1 hD1
  generalize H1 = H at hP hS ⊢
  refine W.eq (g2 := F0 m 23 ls [.ref r2]) rfl ?_
  refine lv_astore (lv' := [(7, .ref r2), (6, .ref r1), (0, .ref a0), (1, .int x6), (2, .int 2), (3, .int 0), (4, .int x7), (5, .int x12)]) hx hb dM_finish_23 hl (by decide) rfl (fun ls hl => ?_)
  refine lv_iload_n hx hb dM_finish_25 rfl (lv_at hl 4 rfl) ?_
  refine lv_if_ne (tgt := 43) hx hb dM_finish_26 (by decide) (fun _ => ?_) (fun h => ((by revert h; decide : False)).elim)
  refine lv_iload_n hx hb dM_finish_43 rfl (lv_at hl 4 rfl) ?_
  refine lv_iconst (v := 1) hx hb dM_finish_44 (by decide) ?_
  refine lv_icmp_ne (tgt := 60) hx hb dM_finish_45 (by decide) (fun _ => ?_) (fun h => ((by revert h; decide : False)).elim)
  refine lv_iload_n hx hb dM_finish_60 rfl (lv_at hl 4 rfl) ?_
  refine lv_iconst (v := 2) hx hb dM_finish_61 (by decide) ?_
  refine lv_icmp_ne (tgt := 79) hx hb dM_finish_62 (by decide) (fun h => ((by revert h; decide : False)).elim) (fun _ => ?_)
  refine lv_aload_n hx hb dM_finish_65 rfl (lv_at hl 2 rfl) ?_
  refine lv_iload_n hx hb dM_finish_66 rfl (lv_at hl 5 rfl) ?_
  refine lv_aload hx hb dM_finish_67 (lv_at hl 1 rfl) ?_
  refine lv_aload hx hb dM_finish_69 (lv_at hl 0 rfl) ?_
  obtain ⟨hPc, hDc, hFc⟩ := xcut (wc := [(a0, .inr (5, [v17, .ref a4, .int 2, v18, v19, v20, v21, v22, v23, v24, v25, v26, v27, v28, v29, .ref a5, .int 4, .int 4, .int 0, .int 100, v35, v36, v37, v38, .ref a1, .ref a2, v39, v40, v41, v42, v43, v44])), (r1, .inr (6, [.int 0, .long 0, .int 0, .int 0, .int 0, .int 1]))]) hP hD hS hA [2, 1] rfl rfl (by decide)
  refine xx_thr (vx_runV (C := "ValueBenchModel") (As := [.int 0, .ref r1, .ref r2]) (rest := []) ⟨hx, hb, hml, hown, htx⟩ (cM_two1_0 l hl9 D cT aK aV H.size a0 r1 r2 v17 (.ref a4) (.int 2) v18 v19 v20 v21 v22 v23 v24 v25 v26 v27 v28 v29 (.ref a5) (.int 4) (.int 4) (.int 0) (.int 100) v35 v36 v37 v38 (.ref a1) (.ref a2) v39 v40 v41 v42 v43 v44 (.long 0) (.int 0) (.int 0) (.int 0) (.int 1)) ⟨callB_of 3 htx (xw_goodC kw_7_79) rfl rfl rfl (htx _ kw_1_5) (htx _ kw_7_76) ⟨by decide, by decide, by decide +kernel⟩ ⟨Nat.le_of_ble_eq_true rfl, Nat.le_of_ble_eq_true rfl⟩, (htx _ kw_7_78), (htx _ kp_M_two1)⟩ ⟨xPre_blind, va_recv hK hP (ci := 5) rfl (q0 := 2) rfl, (fun U hU hW => ⟨rfl, xPre_of hZ hS hFc hPc hDc hK U hU hW⟩)⟩ rfl rfl hl.1 rfl (lv_room (Nat.le_of_ble_eq_true rfl)) dM_finish_71 ⟨Nat.le_of_ble_eq_true rfl, Nat.le_of_ble_eq_true rfl⟩) hS hFc (fun q _ h => hFc q h) (fun E ce q9 u9 t H1 locs ht hvm _ hB hz1 hk1 hS hce hcv hcl => ?_)
  obtain ⟨rfl, hP1, hK1, hD1⟩ := hB
  rw [ht] at hP1
  obtain ⟨hP, hD⟩ := xjoin (W := [(a3, .inl (cT 0, 4096, .inl f51)), (a1, .inl (cT 5, 8, .inr (.inr (.inr (.inr f45))))), (a2, .inl (cT 1, 8, .inl f48)), (a5, .inl (cT 0, 4096, .inl f59)), (a4, .inl (cT 4, 1024, .inr (.inr (.inr (.inr (va_up (va_up f56 0 (some r1)) 1 (some r2))))))), (r2, .inr (6, [.int 0, .long 0, .int 0, .int 0, .int 0, .int 1])), (a0, .inr (5, [v17, .ref a4, .int 2, v18, v19, v20, v21, v22, .int 1, v24, v25, v26, v27, v28, v29, .ref a5, .int 4, .int 4, .int 0, .int 100, v35, v36, v37, v38, .ref a1, .ref a2, v39, v40, v41, v42, v43, v44])), (r1, .inr (6, [.int 0, .long 0, .int 0, .int 0, .int 0, .int 1]))]) hP hD [2, 1] [0, 3, 4, 5, 6, 7] 6 rfl rfl (by decide) (by decide) hk1 hFc hP1 hD1
  generalize H1 = H at hP hS hce ⊢
  refine vx_catch (own := "ValueBenchModel") (name := "java/lang/ArithmeticException") (E := "java/lang/ArithmeticException") hown [] ⟨0, 128, 131, 83⟩ [⟨0, 128, 149, 86⟩] (by rw [htab]; rfl) (fun z hz => nomatch hz) (by decide) (by decide) (htx _ kw_6_94) ((hZ.2.2.2.2.2.1 "java/lang/ArithmeticException" (List.mem_of_getElem? (i := 3) rfl)).use rfl) hce hcv hcl ?_
  refine lv_astore (lv' := [(6, .ref q9), (7, .ref r2), (0, .ref a0), (1, .int x6), (2, .int 2), (3, .int 0), (4, .int x7), (5, .int x12)]) hx hb dM_finish_131 hl (by decide) rfl (fun ls hl => ?_)
  refine lv_aload_n hx hb dM_finish_133 rfl (lv_at hl 2 rfl) ?_
  refine lv_aload_n hx hb dM_finish_134 rfl (lv_at hl 2 rfl) ?_
  refine va_get (D := D) (ci := 5) (v := .int 1) (C := "ValueBenchModel") (T := TM) (N := 32) hx hb htx inM hown hK hP 6 rfl rfl 8 (by decide) (htx _ kw_5_95) (fun _ h9 => h9) rfl dM_finish_135 ?_
  refine va_put (D := D) (ci := 5) (v := .int 1) (ty := .int) (C := "ValueBenchModel") (T := TM) (N := 32) hx hb htx inM tyM tyM_ok nmM hown hK hP hD hS 6 rfl rfl 30 (by decide) (htx _ kw_5_117) (fun _ h9 => h9) rfl (by decide +kernel) rfl rfl (Nat.le_of_ble_eq_true rfl) dM_finish_138 (fun H locs hP hD hS => ?_)
  obtain ⟨hP, hD⟩ : xPD D xcl A [(a3, .inl (cT 0, 4096, .inl f51)), (a1, .inl (cT 5, 8, .inr (.inr (.inr (.inr f45))))), (a2, .inl (cT 1, 8, .inl f48)), (a5, .inl (cT 0, 4096, .inl f59)), (a4, .inl (cT 4, 1024, .inr (.inr (.inr (.inr (va_up (va_up f56 0 (some r1)) 1 (some r2))))))), (r2, .inr (6, [.int 0, .long 0, .int 0, .int 0, .int 0, .int 1])), (a0, .inr (5, [v17, .ref a4, .int 2, v18, v19, v20, v21, v22, .int 1, v24, v25, v26, v27, v28, v29, .ref a5, .int 4, .int 4, .int 0, .int 100, v35, v36, v37, v38, .ref a1, .ref a2, v39, v40, v41, v42, .int 1, v44])), (r1, .inr (6, [.int 0, .long 0, .int 0, .int 0, .int 0, .int 1]))] H := ⟨hP, hD⟩
  refine lv_aload_n hx hb dM_finish_141 rfl (lv_at hl 2 rfl) ?_
  refine lv_iconst (v := 2) hx hb dM_finish_142 (by decide) ?_
  refine va_put (D := D) (ci := 5) (v := .int 2) (ty := .int) (C := "ValueBenchModel") (T := TM) (N := 32) hx hb htx inM tyM tyM_ok nmM hown hK hP hD hS 6 rfl rfl 0 (by decide) (htx _ kw_5_87) (fun _ h9 => h9) rfl (by decide +kernel) rfl rfl (Nat.le_of_ble_eq_true rfl) dM_finish_143 (fun H locs hP hD hS => ?_)
  obtain ⟨hP, hD⟩ : xPD D xcl A [(a3, .inl (cT 0, 4096, .inl f51)), (a1, .inl (cT 5, 8, .inr (.inr (.inr (.inr f45))))), (a2, .inl (cT 1, 8, .inl f48)), (a5, .inl (cT 0, 4096, .inl f59)), (a4, .inl (cT 4, 1024, .inr (.inr (.inr (.inr (va_up (va_up f56 0 (some r1)) 1 (some r2))))))), (r2, .inr (6, [.int 0, .long 0, .int 0, .int 0, .int 0, .int 1])), (a0, .inr (5, [.int 2, .ref a4, .int 2, v18, v19, v20, v21, v22, .int 1, v24, v25, v26, v27, v28, v29, .ref a5, .int 4, .int 4, .int 0, .int 100, v35, v36, v37, v38, .ref a1, .ref a2, v39, v40, v41, v42, .int 1, v44])), (r1, .inr (6, [.int 0, .long 0, .int 0, .int 0, .int 0, .int 1]))] H := ⟨hP, hD⟩
  refine lv_goto (tgt := 156) hx hb dM_finish_146 (by decide) ?_
  obtain ⟨hP9, hD9⟩ := xsub (wc := [(a0, .inr (5, [.int 2, .ref a4, .int 2, v18, v19, v20, v21, v22, .int 1, v24, v25, v26, v27, v28, v29, .ref a5, .int 4, .int 4, .int 0, .int 100, v35, v36, v37, v38, .ref a1, .ref a2, v39, v40, v41, v42, .int 1, v44])), (a1, .inl (cT 5, 8, .inr (.inr (.inr (.inr f45))))), (a2, .inl (cT 1, 8, .inl f48)), (a3, .inl (cT 0, 4096, .inl f51)), (a4, .inl (cT 4, 1024, .inr (.inr (.inr (.inr (va_up (va_up f56 0 (some r1)) 1 (some r2))))))), (a5, .inl (cT 0, 4096, .inl f59)), (r1, .inr (6, [.int 0, .long 0, .int 0, .int 0, .int 0, .int 1])), (r2, .inr (6, [.int 0, .long 0, .int 0, .int 0, .int 0, .int 1]))]) hP hD [6, 1, 2, 0, 4, 3, 7, 5] rfl rfl (by decide)
  refine W.widen (k := 3) (n := 18) (Nat.le_of_ble_eq_true rfl) (Nat.le_of_ble_eq_true rfl) ?_
  exact W.vret hx hb hr (fun t ht hW => ⟨⟨(), rfl, trivial, r1, r2, by rw [ht]; exact hP9, va_K.moved hW.alike hK, hD9⟩, hS.F ht⟩) hS.2.2 dM_finish_156
set_option maxHeartbeats 400000000 in
set_option maxRecDepth 100000 in
theorem cM_two0_9 (l : Launch) (hl9 : l.stackTraces = false) (D : va_G) (cT : Nat → ClassId) (aK aV : Nat → Nat) (sz : Nat) (a0 : Nat) (a1 : Nat) (a2 : Nat) (a3 : Nat) (a4 : Nat) (a5 : Nat) (x6 : Int32) (x11 : Int32) (x16 : Int32) (v21 : Value) (v22 : Value) (v23 : Value) (v24 : Value) (v25 : Value) (v26 : Value) (v27 : Value) (v28 : Value) (v29 : Value) (v30 : Value) (v31 : Value) (v32 : Value) (v33 : Value) (v34 : Value) (v35 : Value) (v36 : Value) (v37 : Value) (v38 : Value) (v39 : Value) (v40 : Value) (v41 : Value) (v42 : Value) (v43 : Value) (v44 : Value) (v45 : Value) (v46 : Value) (v47 : Value) (v48 : Value) (v49 : Value) (f50 : Nat → Option Nat) (f53 : Nat → Int32) (f56 : Nat → Int32) (f61 : Nat → Option Nat) (f64 : Nat → Int32) (h7 : ¬ x6 < 0) (h8 : ¬ 7 < x6) (h9 : x6 ≤ 7) (h10 : vp_in x6 8) (h12 : ¬ x11 < 0) (h13 : ¬ 7 < x11) (h14 : x11 ≤ 7) (h15 : vp_in x11 8) (h17 : ¬ x16 < 0) (h18 : ¬ 7 < x16) (h19 : x16 ≤ 7) (h20 : vp_in x16 8) (h51 : f50 x11.toNatClampNeg = some a3) (h52 : f50 x16.toNatClampNeg = some a5) (h54 : f53 x11.toNatClampNeg = 4) (h55 : f53 x16.toNatClampNeg = 4) (h57 : f56 0 = 110) (h58 : f56 1 = 117) (h59 : f56 2 = 108) (h60 : f56 3 = 108) (h62 : f61 0 = none) (h63 : f61 1 = none) (h65 : f64 0 = 110) (h66 : f64 1 = 117) (h67 : f64 2 = 108) (h68 : f64 3 = 108) : xMet l yM_two0 wyM_two0 10 3 18 204 D cT aK aV sz [.ref a0, .int x6, .int 0, .int x11, .int x16] [(a0, .inr (5, [v21, .ref a4, v22, v23, v24, v25, v26, v27, v28, v29, v30, v31, v32, v33, v34, v35, v36, v37, v38, v39, v40, v41, v42, v43, .ref a1, .ref a2, v44, v45, v46, v47, v48, v49])), (a1, .inl (cT 5, 8, .inr (.inr (.inr (.inr f50))))), (a2, .inl (cT 1, 8, .inl f53)), (a3, .inl (cT 0, 4096, .inl f56)), (a4, .inl (cT 4, 1024, .inr (.inr (.inr (.inr f61))))), (a5, .inl (cT 0, 4096, .inl f64))] (fun A => va_Qv (fun _ : Unit => True) (fun _ t => ∃ (q4 : Nat) (q5 : Nat), xB D xcl cT A [(a0, .inr (5, [.int 2, .ref a4, .int 2, v23, .int 0, v25, v26, .int 0, .int 1, .int 0, v30, v31, .int 0, v33, v34, .ref a5, .int 4, .int 4, .int 0, .int 100, v40, v41, .int 0, .int 1000000000, .ref a1, .ref a2, v44, v45, v46, v47, .int 1, v49])), (a1, .inl (cT 5, 8, .inr (.inr (.inr (.inr f50))))), (a2, .inl (cT 1, 8, .inl f53)), (a3, .inl (cT 0, 4096, .inl f56)), (a4, .inl (cT 4, 1024, .inr (.inr (.inr (.inr (va_up (va_up f61 0 (some q4)) 1 (some q5))))))), (a5, .inl (cT 0, 4096, .inl f64)), (q4, .inr (6, [.int 0, .long 0, .int 0, .int 0, .int 0, .int 1])), (q5, .inr (6, [.int 0, .long 0, .int 0, .int 0, .int 0, .int 1]))] t) A) := by
  refine Met.ofW (cc := prog_13_method_93_code) (maxL := 5) (ret := none) (by decide) rfl ?_
  intro p e s m args below meth c s₁ B hml hv
  obtain ⟨rfl, hsz, hZ, hP, hK, hD0⟩ := hv
  have hx := B.exec
  have hb := B.bytes
  have hr := B.returns
  have hts := atoms_spec (ws := wyM_two0) B.pre
  have htx := fun w h => hts w (List.mem_cons_of_mem _ h)
  have hown : s.vm.findClass "ValueBenchModel" = some m.cls := findClass_of_methodNamed B.named
  have hlocks := B.notSynchronized
  subst hsz
  have hD := hD0.self (sz := s.heap.size)
  generalize hAe : va_A [(a0, .inr (5, [v21, .ref a4, v22, v23, v24, v25, v26, v27, v28, v29, v30, v31, v32, v33, v34, v35, v36, v37, v38, v39, v40, v41, v42, v43, .ref a1, .ref a2, v44, v45, v46, v47, v48, v49])), (a1, .inl (cT 5, 8, .inr (.inr (.inr (.inr f50))))), (a2, .inl (cT 1, 8, .inl f53)), (a3, .inl (cT 0, 4096, .inl f56)), (a4, .inl (cT 4, 1024, .inr (.inr (.inr (.inr f61))))), (a5, .inl (cT 0, 4096, .inl f64))] s.heap.size = A at hD hZ ⊢
  have hA : ∀ q : Nat, s.heap.size ≤ q → A q := fun q h => by rw [← hAe]; exact Or.inr h
  have hS : va_S A s.heap s.heap [] := va_S.rf
  have hP : va_P D xcl [(a0, .inr (5, [v21, .ref a4, v22, v23, v24, v25, v26, v27, v28, v29, v30, v31, v32, v33, v34, v35, v36, v37, v38, v39, v40, v41, v42, v43, .ref a1, .ref a2, v44, v45, v46, v47, v48, v49])), (a1, .inl (cT 5, 8, .inr (.inr (.inr (.inr f50))))), (a2, .inl (cT 1, 8, .inl f53)), (a3, .inl (cT 0, 4096, .inl f56)), (a4, .inl (cT 4, 1024, .inr (.inr (.inr (.inr f61))))), (a5, .inl (cT 0, 4096, .inl f64))] s.heap := hP
  have hl := lv_entry ([.ref a0, .int x6, .int 0, .int x11, .int x16]) (n := 5) (Nat.le_of_ble_eq_true rfl)
  rw [lg_entry_eq]
  generalize (lg_sl ([.ref a0, .int x6, .int 0, .int x11, .int x16]) ++ List.replicate (5 - (lg_sl ([.ref a0, .int x6, .int 0, .int x11, .int x16])).length) Slot.unset).toArray = ls at hl ⊢
  have hl : lv_has ls 5 [(0, .ref a0), (1, .int x6), (2, .int 0), (3, .int x11), (4, .int x16)] := hl
  refine lv_aload_n hx hb dM_two0_0 rfl (lv_at hl 0 rfl) ?_
  obtain ⟨hPc, hDc, hFc⟩ := xcut (wc := [(a0, .inr (5, [v21, .ref a4, v22, v23, v24, v25, v26, v27, v28, v29, v30, v31, v32, v33, v34, v35, v36, v37, v38, v39, v40, v41, v42, v43, .ref a1, .ref a2, v44, v45, v46, v47, v48, v49]))]) hP hD hS hA [0] rfl rfl (by decide)
  refine va_callv (va_runV (C := "ValueBenchModel") (As := []) (rest := []) ⟨hx, hb, hml, hown, htx⟩ (cM_begin_0 l hl9 D cT aK aV s.heap.size a0 v21 (.ref a4) v22 v23 v24 v25 v26 v27 v28 v29 v30 v31 v32 v33 v34 v35 v36 v37 v38 v39 v40 v41 v42 v43 (.ref a1) (.ref a2) v44 v45 v46 v47 v48 v49) ⟨callB_of 0 htx (xw_goodC kw_5_209) rfl rfl rfl (htx _ kw_1_5) (htx _ kw_5_206) ⟨by decide, by decide, by decide +kernel⟩ ⟨Nat.le_of_ble_eq_true rfl, Nat.le_of_ble_eq_true rfl⟩, (htx _ kw_5_208), (htx _ kp_M_begin)⟩ ⟨xPre_blind, va_recv hK hP (ci := 5) rfl (q0 := 0) rfl, (fun U hU hW => ⟨rfl, xPre_of hZ hS hFc hPc hDc hK U hU hW⟩)⟩ rfl rfl hl.1 rfl (lv_room (Nat.le_of_ble_eq_true rfl)) dM_two0_1 ⟨Nat.le_of_ble_eq_true rfl, Nat.le_of_ble_eq_true rfl⟩) hS (fun q _ h => hFc q h) hFc (fun u9 t H1 locs ht hvm hr9 hB hz1 hk1 hS => ?_)
  obtain ⟨hP1, hK1, hD1⟩ := hB
  rw [ht] at hP1
  obtain ⟨hP, hD⟩ := xjoin (W := [(a1, .inl (cT 5, 8, .inr (.inr (.inr (.inr f50))))), (a2, .inl (cT 1, 8, .inl f53)), (a3, .inl (cT 0, 4096, .inl f56)), (a4, .inl (cT 4, 1024, .inr (.inr (.inr (.inr f61))))), (a5, .inl (cT 0, 4096, .inl f64)), (a0, .inr (5, [.int 0, .ref a4, .int 0, v23, .int 0, v25, v26, .int 0, v28, .int 0, v30, v31, .int 0, v33, v34, v35, v36, v37, v38, v39, v40, v41, .int 0, .int 1000000000, .ref a1, .ref a2, v44, v45, v46, v47, v48, v49]))]) hP hD [0] [1, 2, 3, 4, 5] 5 rfl rfl (by decide) (by decide) hk1 hFc hP1 hD1
  generalize H1 = H at hP hS ⊢
  refine lv_aload_n hx hb dM_two0_4 rfl (lv_at hl 0 rfl) ?_
  refine lv_iload_n hx hb dM_two0_5 rfl (lv_at hl 1 rfl) ?_
  obtain ⟨hPc, hDc, hFc⟩ := xcut (wc := []) hP hD hS hA [] rfl rfl (by decide)
  refine va_calli (va_runV (C := "ValueBenchModel") (As := [.int x6]) (rest := []) ⟨hx, hb, hml, hown, htx⟩ (cM_out_2 l hl9 D cT aK aV H.size a0 x6 h7 h8 h9 h10) ⟨callB_of 1 htx (xw_goodC kw_5_217) rfl rfl rfl (htx _ kw_1_5) (htx _ kw_5_214) ⟨by decide, by decide, by decide +kernel⟩ ⟨Nat.le_of_ble_eq_true rfl, Nat.le_of_ble_eq_true rfl⟩, (htx _ kw_5_216), (htx _ kp_M_out)⟩ ⟨xPre_blind, va_recv hK hP (ci := 5) rfl (q0 := 5) rfl, (fun U hU hW => ⟨rfl, xPre_of hZ hS hFc hPc hDc hK U hU hW⟩)⟩ rfl rfl hl.1 rfl (lv_room (Nat.le_of_ble_eq_true rfl)) dM_two0_6 ⟨Nat.le_of_ble_eq_true rfl, Nat.le_of_ble_eq_true rfl⟩) hS (fun q _ h => hFc q h) hFc (fun r1 u9 t H1 locs ht hvm hr9 hB hz1 hk1 hS => ?_)
  obtain ⟨hP1, hK1, hD1⟩ := hB
  rw [ht] at hP1
  obtain ⟨hP, hD⟩ := xjoin (W := [(a1, .inl (cT 5, 8, .inr (.inr (.inr (.inr f50))))), (a2, .inl (cT 1, 8, .inl f53)), (a3, .inl (cT 0, 4096, .inl f56)), (a4, .inl (cT 4, 1024, .inr (.inr (.inr (.inr f61))))), (a5, .inl (cT 0, 4096, .inl f64)), (a0, .inr (5, [.int 0, .ref a4, .int 0, v23, .int 0, v25, v26, .int 0, v28, .int 0, v30, v31, .int 0, v33, v34, v35, v36, v37, v38, v39, v40, v41, .int 0, .int 1000000000, .ref a1, .ref a2, v44, v45, v46, v47, v48, v49]))]) hP hD [] [0, 1, 2, 3, 4, 5] 6 rfl rfl (by decide) (by decide) hk1 hFc hP1 hD1
  generalize H1 = H at hP hS ⊢
  rw [hr9]
  refine W.eq (g2 := F0 m 9 ls [.int 0]) rfl ?_
  refine lv_if_ne (tgt := 39) hx hb dM_two0_9 (by decide) (fun h => ((by revert h; decide : False)).elim) (fun _ => ?_)
  refine lv_iload_n hx hb dM_two0_12 rfl (lv_at hl 2 rfl) ?_
  refine lv_if_lt (tgt := 39) hx hb dM_two0_13 (by decide) (fun h => ((by revert h; decide : False)).elim) (fun _ => ?_)
  refine lv_iload_n hx hb dM_two0_16 rfl (lv_at hl 2 rfl) ?_
  refine lv_bipush (v := 9) hx hb dM_two0_17 (by decide) ?_
  refine lv_icmp_gt (tgt := 39) hx hb dM_two0_19 (by decide) (fun h => ((by revert h; decide : False)).elim) (fun _ => ?_)
  refine lv_aload_n hx hb dM_two0_22 rfl (lv_at hl 0 rfl) ?_
  refine lv_iload_n hx hb dM_two0_23 rfl (lv_at hl 3 rfl) ?_
  obtain ⟨hPc, hDc, hFc⟩ := xcut (wc := []) hP hD hS hA [] rfl rfl (by decide)
  refine va_calli (va_runV (C := "ValueBenchModel") (As := [.int x11]) (rest := []) ⟨hx, hb, hml, hown, htx⟩ (cM_out_2 l hl9 D cT aK aV H.size a0 x11 h12 h13 h14 h15) ⟨callB_of 1 htx (xw_goodC kw_5_217) rfl rfl rfl (htx _ kw_1_5) (htx _ kw_5_214) ⟨by decide, by decide, by decide +kernel⟩ ⟨Nat.le_of_ble_eq_true rfl, Nat.le_of_ble_eq_true rfl⟩, (htx _ kw_5_216), (htx _ kp_M_out)⟩ ⟨xPre_blind, va_recv hK hP (ci := 5) rfl (q0 := 5) rfl, (fun U hU hW => ⟨rfl, xPre_of hZ hS hFc hPc hDc hK U hU hW⟩)⟩ rfl rfl hl.1 rfl (lv_room (Nat.le_of_ble_eq_true rfl)) dM_two0_24 ⟨Nat.le_of_ble_eq_true rfl, Nat.le_of_ble_eq_true rfl⟩) hS (fun q _ h => hFc q h) hFc (fun r2 u9 t H1 locs ht hvm hr9 hB hz1 hk1 hS => ?_)
  obtain ⟨hP1, hK1, hD1⟩ := hB
  rw [ht] at hP1
  obtain ⟨hP, hD⟩ := xjoin (W := [(a1, .inl (cT 5, 8, .inr (.inr (.inr (.inr f50))))), (a2, .inl (cT 1, 8, .inl f53)), (a3, .inl (cT 0, 4096, .inl f56)), (a4, .inl (cT 4, 1024, .inr (.inr (.inr (.inr f61))))), (a5, .inl (cT 0, 4096, .inl f64)), (a0, .inr (5, [.int 0, .ref a4, .int 0, v23, .int 0, v25, v26, .int 0, v28, .int 0, v30, v31, .int 0, v33, v34, v35, v36, v37, v38, v39, v40, v41, .int 0, .int 1000000000, .ref a1, .ref a2, v44, v45, v46, v47, v48, v49]))]) hP hD [] [0, 1, 2, 3, 4, 5] 6 rfl rfl (by decide) (by decide) hk1 hFc hP1 hD1
  generalize H1 = H at hP hS ⊢
  rw [hr9]
  refine W.eq (g2 := F0 m 27 ls [.int 0]) rfl ?_
  refine lv_if_ne (tgt := 39) hx hb dM_two0_27 (by decide) (fun h => ((by revert h; decide : False)).elim) (fun _ => ?_)
  refine lv_aload_n hx hb dM_two0_30 rfl (lv_at hl 0 rfl) ?_
  refine lv_iload hx hb dM_two0_31 (lv_at hl 4 rfl) ?_
  obtain ⟨hPc, hDc, hFc⟩ := xcut (wc := []) hP hD hS hA [] rfl rfl (by decide)
  refine va_calli (va_runV (C := "ValueBenchModel") (As := [.int x16]) (rest := []) ⟨hx, hb, hml, hown, htx⟩ (cM_out_2 l hl9 D cT aK aV H.size a0 x16 h17 h18 h19 h20) ⟨callB_of 1 htx (xw_goodC kw_5_217) rfl rfl rfl (htx _ kw_1_5) (htx _ kw_5_214) ⟨by decide, by decide, by decide +kernel⟩ ⟨Nat.le_of_ble_eq_true rfl, Nat.le_of_ble_eq_true rfl⟩, (htx _ kw_5_216), (htx _ kp_M_out)⟩ ⟨xPre_blind, va_recv hK hP (ci := 5) rfl (q0 := 5) rfl, (fun U hU hW => ⟨rfl, xPre_of hZ hS hFc hPc hDc hK U hU hW⟩)⟩ rfl rfl hl.1 rfl (lv_room (Nat.le_of_ble_eq_true rfl)) dM_two0_33 ⟨Nat.le_of_ble_eq_true rfl, Nat.le_of_ble_eq_true rfl⟩) hS (fun q _ h => hFc q h) hFc (fun r3 u9 t H1 locs ht hvm hr9 hB hz1 hk1 hS => ?_)
  obtain ⟨hP1, hK1, hD1⟩ := hB
  rw [ht] at hP1
  obtain ⟨hP, hD⟩ := xjoin (W := [(a1, .inl (cT 5, 8, .inr (.inr (.inr (.inr f50))))), (a2, .inl (cT 1, 8, .inl f53)), (a3, .inl (cT 0, 4096, .inl f56)), (a4, .inl (cT 4, 1024, .inr (.inr (.inr (.inr f61))))), (a5, .inl (cT 0, 4096, .inl f64)), (a0, .inr (5, [.int 0, .ref a4, .int 0, v23, .int 0, v25, v26, .int 0, v28, .int 0, v30, v31, .int 0, v33, v34, v35, v36, v37, v38, v39, v40, v41, .int 0, .int 1000000000, .ref a1, .ref a2, v44, v45, v46, v47, v48, v49]))]) hP hD [] [0, 1, 2, 3, 4, 5] 6 rfl rfl (by decide) (by decide) hk1 hFc hP1 hD1
  generalize H1 = H at hP hS ⊢
  rw [hr9]
  refine W.eq (g2 := F0 m 36 ls [.int 0]) rfl ?_
  refine lv_if_eq (tgt := 47) hx hb dM_two0_36 (by decide) (fun _ => ?_) (fun h => ((by revert h; decide : False)).elim)
  refine lv_aload_n hx hb dM_two0_47 rfl (lv_at hl 0 rfl) ?_
  refine lv_iload_n hx hb dM_two0_48 rfl (lv_at hl 1 rfl) ?_
  refine lv_iconst (v := 2) hx hb dM_two0_49 (by decide) ?_
  refine lv_iload_n hx hb dM_two0_50 rfl (lv_at hl 2 rfl) ?_
  refine lv_iload_n hx hb dM_two0_51 rfl (lv_at hl 3 rfl) ?_
  refine lv_iload hx hb dM_two0_52 (lv_at hl 4 rfl) ?_
  obtain ⟨hPc, hDc, hFc⟩ := xcut (wc := [(a0, .inr (5, [.int 0, .ref a4, .int 0, v23, .int 0, v25, v26, .int 0, v28, .int 0, v30, v31, .int 0, v33, v34, v35, v36, v37, v38, v39, v40, v41, .int 0, .int 1000000000, .ref a1, .ref a2, v44, v45, v46, v47, v48, v49])), (a1, .inl (cT 5, 8, .inr (.inr (.inr (.inr f50))))), (a2, .inl (cT 1, 8, .inl f53)), (a3, .inl (cT 0, 4096, .inl f56)), (a4, .inl (cT 4, 1024, .inr (.inr (.inr (.inr f61))))), (a5, .inl (cT 0, 4096, .inl f64))]) hP hD hS hA [5, 0, 1, 2, 3, 4] rfl rfl (by decide)
  refine va_callv (vx_runVW (C := "ValueBenchModel") (As := [.int x6, .int 2, .int 0, .int x11, .int x16]) (rest := []) ⟨hx, hb, hml, hown, htx⟩ (cM_finish_33 l hl9 D cT aK aV H.size a0 a1 a2 a3 a4 a5 x6 x11 x16 (.int 0) v23 (.int 0) v25 v26 (.int 0) v28 (.int 0) v30 v31 (.int 0) v33 v34 v35 v36 v37 v38 v39 v40 v41 (.int 0) (.int 1000000000) v44 v45 v46 v47 v48 v49 f50 f53 f56 f61 f64 h12 h13 h14 h15 h17 h18 h19 h20 (by first | rfl | exact h51 | exact h52 | exact h54 | exact h55 | exact h57 | exact h58 | exact h59 | exact h60 | exact h62 | exact h63 | exact h65 | exact h66 | exact h67 | exact h68) (by first | rfl | exact h51 | exact h52 | exact h54 | exact h55 | exact h57 | exact h58 | exact h59 | exact h60 | exact h62 | exact h63 | exact h65 | exact h66 | exact h67 | exact h68) (by first | rfl | exact h51 | exact h52 | exact h54 | exact h55 | exact h57 | exact h58 | exact h59 | exact h60 | exact h62 | exact h63 | exact h65 | exact h66 | exact h67 | exact h68) (by first | rfl | exact h51 | exact h52 | exact h54 | exact h55 | exact h57 | exact h58 | exact h59 | exact h60 | exact h62 | exact h63 | exact h65 | exact h66 | exact h67 | exact h68) (by first | rfl | exact h51 | exact h52 | exact h54 | exact h55 | exact h57 | exact h58 | exact h59 | exact h60 | exact h62 | exact h63 | exact h65 | exact h66 | exact h67 | exact h68) (by first | rfl | exact h51 | exact h52 | exact h54 | exact h55 | exact h57 | exact h58 | exact h59 | exact h60 | exact h62 | exact h63 | exact h65 | exact h66 | exact h67 | exact h68) (by first | rfl | exact h51 | exact h52 | exact h54 | exact h55 | exact h57 | exact h58 | exact h59 | exact h60 | exact h62 | exact h63 | exact h65 | exact h66 | exact h67 | exact h68) (by first | rfl | exact h51 | exact h52 | exact h54 | exact h55 | exact h57 | exact h58 | exact h59 | exact h60 | exact h62 | exact h63 | exact h65 | exact h66 | exact h67 | exact h68) (by first | rfl | exact h51 | exact h52 | exact h54 | exact h55 | exact h57 | exact h58 | exact h59 | exact h60 | exact h62 | exact h63 | exact h65 | exact h66 | exact h67 | exact h68) (by first | rfl | exact h51 | exact h52 | exact h54 | exact h55 | exact h57 | exact h58 | exact h59 | exact h60 | exact h62 | exact h63 | exact h65 | exact h66 | exact h67 | exact h68) (by first | rfl | exact h51 | exact h52 | exact h54 | exact h55 | exact h57 | exact h58 | exact h59 | exact h60 | exact h62 | exact h63 | exact h65 | exact h66 | exact h67 | exact h68) (by first | rfl | exact h51 | exact h52 | exact h54 | exact h55 | exact h57 | exact h58 | exact h59 | exact h60 | exact h62 | exact h63 | exact h65 | exact h66 | exact h67 | exact h68) (by first | rfl | exact h51 | exact h52 | exact h54 | exact h55 | exact h57 | exact h58 | exact h59 | exact h60 | exact h62 | exact h63 | exact h65 | exact h66 | exact h67 | exact h68) (by first | rfl | exact h51 | exact h52 | exact h54 | exact h55 | exact h57 | exact h58 | exact h59 | exact h60 | exact h62 | exact h63 | exact h65 | exact h66 | exact h67 | exact h68)) (xcVW 5 htx (xw_goodC kw_6_195) rfl rfl rfl (htx _ kw_1_5) (htx _ kw_6_192) ⟨by decide, by decide, by decide +kernel⟩ ⟨Nat.le_of_ble_eq_true rfl, Nat.le_of_ble_eq_true rfl⟩ (htx _ kw_6_194) (htx _ kp_M_finish)) ⟨xPre_blind, va_recv hK hP (ci := 5) rfl (q0 := 5) rfl, (fun U hU hW => ⟨rfl, xPre_of hZ hS hFc hPc hDc hK U hU hW⟩)⟩ rfl rfl hl.1 rfl (lv_room (Nat.le_of_ble_eq_true rfl)) dM_two0_54 ⟨Nat.le_of_ble_eq_true rfl, Nat.le_of_ble_eq_true rfl⟩) hS (fun q _ h => hFc q h) hFc (fun u9 t H1 locs ht hvm hr9 hB hz1 hk1 hS => ?_)
  obtain ⟨q4, q5, hP1, hK1, hD1⟩ := hB
  rw [ht] at hP1
  obtain ⟨hP, hD⟩ := xjoin (W := [(a0, .inr (5, [.int 2, .ref a4, .int 2, v23, .int 0, v25, v26, .int 0, .int 1, .int 0, v30, v31, .int 0, v33, v34, .ref a5, .int 4, .int 4, .int 0, .int 100, v40, v41, .int 0, .int 1000000000, .ref a1, .ref a2, v44, v45, v46, v47, .int 1, v49])), (a1, .inl (cT 5, 8, .inr (.inr (.inr (.inr f50))))), (a2, .inl (cT 1, 8, .inl f53)), (a3, .inl (cT 0, 4096, .inl f56)), (a4, .inl (cT 4, 1024, .inr (.inr (.inr (.inr (va_up (va_up f61 0 (some q4)) 1 (some q5))))))), (a5, .inl (cT 0, 4096, .inl f64)), (q4, .inr (6, [.int 0, .long 0, .int 0, .int 0, .int 0, .int 1])), (q5, .inr (6, [.int 0, .long 0, .int 0, .int 0, .int 0, .int 1]))]) hP hD [5, 0, 1, 2, 3, 4] [] 0 rfl rfl (by decide) (by decide) hk1 hFc hP1 hD1
  generalize H1 = H at hP hS ⊢
  obtain ⟨hP9, hD9⟩ := xsub (wc := [(a0, .inr (5, [.int 2, .ref a4, .int 2, v23, .int 0, v25, v26, .int 0, .int 1, .int 0, v30, v31, .int 0, v33, v34, .ref a5, .int 4, .int 4, .int 0, .int 100, v40, v41, .int 0, .int 1000000000, .ref a1, .ref a2, v44, v45, v46, v47, .int 1, v49])), (a1, .inl (cT 5, 8, .inr (.inr (.inr (.inr f50))))), (a2, .inl (cT 1, 8, .inl f53)), (a3, .inl (cT 0, 4096, .inl f56)), (a4, .inl (cT 4, 1024, .inr (.inr (.inr (.inr (va_up (va_up f61 0 (some q4)) 1 (some q5))))))), (a5, .inl (cT 0, 4096, .inl f64)), (q4, .inr (6, [.int 0, .long 0, .int 0, .int 0, .int 0, .int 1])), (q5, .inr (6, [.int 0, .long 0, .int 0, .int 0, .int 0, .int 1]))]) hP hD [0, 1, 2, 3, 4, 5, 6, 7] rfl rfl (by decide)
  refine W.widen (k := 3) (n := 18) (Nat.le_of_ble_eq_true rfl) (Nat.le_of_ble_eq_true rfl) ?_
  exact W.vret hx hb hr (fun t ht hW => ⟨⟨(), rfl, trivial, q4, q5, by rw [ht]; exact hP9, va_K.moved hW.alike hK, hD9⟩, hS.F ht⟩) hS.2.2 dM_two0_57
set_option maxHeartbeats 400000000 in
set_option maxRecDepth 100000 in
theorem cB_isWithin_31 (l : Launch) (hl9 : l.stackTraces = false) (D : va_G) (cT : Nat → ClassId) (aK aV : Nat → Nat) (sz : Nat) : xMet l yB_isWithin wyB_isWithin 0 0 0 0 D cT aK aV sz [.int 1, .int 9] [] (fun A => va_Qi (fun (r : Int32) (_ : Unit) => r = 1) (fun _ t => xB D xcl cT A [] t) A) := by
  refine Met.ofW (cc := prog_1_method_15_code) (maxL := 2) (ret := (some .boolean)) (by decide) rfl ?_
  intro p e s m args below meth c s₁ B hml hv
  obtain ⟨rfl, hsz, hZ, hP, hK, hD0⟩ := hv
  have hx := B.exec
  have hb := B.bytes
  have hr := B.returns
  have hts := atoms_spec (ws := wyB_isWithin) B.pre
  have htx := fun w h => hts w (List.mem_cons_of_mem _ h)
  have hown : s.vm.findClass "ValueBench" = some m.cls := findClass_of_methodNamed B.named
  have hlocks := B.notSynchronized
  subst hsz
  have hD := hD0.self (sz := s.heap.size)
  generalize hAe : va_A [] s.heap.size = A at hD hZ ⊢
  have hA : ∀ q : Nat, s.heap.size ≤ q → A q := fun q h => by rw [← hAe]; exact Or.inr h
  have hS : va_S A s.heap s.heap [] := va_S.rf
  have hP : va_P D xcl [] s.heap := hP
  have hl := lv_entry ([.int 1, .int 9]) (n := 2) (Nat.le_of_ble_eq_true rfl)
  rw [lg_entry_eq]
  generalize (lg_sl ([.int 1, .int 9]) ++ List.replicate (2 - (lg_sl ([.int 1, .int 9])).length) Slot.unset).toArray = ls at hl ⊢
  have hl : lv_has ls 2 [(0, .int 1), (1, .int 9)] := hl
  refine lv_iload_n hx hb dB_isWithin_0 rfl (lv_at hl 0 rfl) ?_
  refine lv_if_lt (tgt := 13) hx hb dB_isWithin_1 (by decide) (fun h => ((by revert h; decide : False)).elim) (fun _ => ?_)
  refine lv_iload_n hx hb dB_isWithin_4 rfl (lv_at hl 0 rfl) ?_
  refine lv_iload_n hx hb dB_isWithin_5 rfl (lv_at hl 1 rfl) ?_
  refine lv_icmp_gt (tgt := 13) hx hb dB_isWithin_6 (by decide) (fun h => ((by revert h; decide : False)).elim) (fun _ => ?_)
  refine lv_iconst (v := 1) hx hb dB_isWithin_9 (by decide) ?_
  refine lv_goto (tgt := 14) hx hb dB_isWithin_10 (by decide) ?_
  obtain ⟨hP9, hD9⟩ := xsub (wc := []) hP hD [] rfl rfl (by decide)
  refine W.widen (k := 0) (n := 0) (Nat.le_of_ble_eq_true rfl) (Nat.le_of_ble_eq_true rfl) ?_
  exact W.zret (v := 1) hx hb hr rfl (fun t ht hW => ⟨⟨1, (), rfl, rfl, by rw [ht]; exact hP9, va_K.moved hW.alike hK, hD9⟩, hS.F ht⟩) hS.2.2 dB_isWithin_14
set_option maxHeartbeats 400000000 in
set_option maxRecDepth 100000 in
theorem cH_areOfOneKind_0 (l : Launch) (hl9 : l.stackTraces = false) (D : va_G) (cT : Nat → ClassId) (aK aV : Nat → Nat) (sz : Nat) (a0 : Nat) (a1 : Nat) (v2 : Value) (f3 : Nat → Int64) (h4 : f3 0 = 0) : xMet l yH_areOfOneKind wyH_areOfOneKind 1 0 0 21 D cT aK aV sz [.ref a0, .int 0, .ref a0, .int 0] [(a0, .inr (2, [.ref a1, .int 1, v2])), (a1, .inl (cT 2, 4096, .inr (.inl f3)))] (fun A => va_Qi (fun (r : Int32) (_ : Unit) => r = 1) (fun _ t => xB D xcl cT A [(a0, .inr (2, [.ref a1, .int 1, v2])), (a1, .inl (cT 2, 4096, .inr (.inl f3)))] t) A) := by
  refine Met.ofW (cc := prog_5_method_9_code) (maxL := 4) (ret := (some .boolean)) (by decide) rfl ?_
  intro p e s m args below meth c s₁ B hml hv
  obtain ⟨rfl, hsz, hZ, hP, hK, hD0⟩ := hv
  have hx := B.exec
  have hb := B.bytes
  have hr := B.returns
  have hts := atoms_spec (ws := wyH_areOfOneKind) B.pre
  have htx := fun w h => hts w (List.mem_cons_of_mem _ h)
  have hown : s.vm.findClass "ValueBench$Pairs" = some m.cls := findClass_of_methodNamed B.named
  have hlocks := B.notSynchronized
  subst hsz
  have hD := hD0.self (sz := s.heap.size)
  generalize hAe : va_A [(a0, .inr (2, [.ref a1, .int 1, v2])), (a1, .inl (cT 2, 4096, .inr (.inl f3)))] s.heap.size = A at hD hZ ⊢
  have hA : ∀ q : Nat, s.heap.size ≤ q → A q := fun q h => by rw [← hAe]; exact Or.inr h
  have hS : va_S A s.heap s.heap [] := va_S.rf
  have hP : va_P D xcl [(a0, .inr (2, [.ref a1, .int 1, v2])), (a1, .inl (cT 2, 4096, .inr (.inl f3)))] s.heap := hP
  have hl := lv_entry ([.ref a0, .int 0, .ref a0, .int 0]) (n := 4) (Nat.le_of_ble_eq_true rfl)
  rw [lg_entry_eq]
  generalize (lg_sl ([.ref a0, .int 0, .ref a0, .int 0]) ++ List.replicate (4 - (lg_sl ([.ref a0, .int 0, .ref a0, .int 0])).length) Slot.unset).toArray = ls at hl ⊢
  have hl : lv_has ls 4 [(0, .ref a0), (1, .int 0), (2, .ref a0), (3, .int 0)] := hl
  refine lv_aload_n hx hb dH_areOfOneKind_0 rfl (lv_at hl 0 rfl) ?_
  refine lv_iload_n hx hb dH_areOfOneKind_1 rfl (lv_at hl 1 rfl) ?_
  obtain ⟨hPc, hDc, hFc⟩ := xcut (wc := [(a0, .inr (2, [.ref a1, .int 1, v2])), (a1, .inl (cT 2, 4096, .inr (.inl f3)))]) hP hD hS hA [0, 1] rfl rfl (by decide)
  refine va_calli (va_runV (C := "ValueBench$Row") (As := [.int 0]) (rest := []) ⟨hx, hb, hml, hown, htx⟩ (cR_kind_0 l hl9 D cT aK aV s.heap.size a0 a1 v2 f3 (by first | rfl | exact h4)) ⟨callB_of 1 htx (xw_goodC kw_3_24) rfl rfl rfl (htx _ kw_1_4) (htx _ kw_4_164) ⟨by decide, by decide, by decide +kernel⟩ ⟨Nat.le_of_ble_eq_true rfl, Nat.le_of_ble_eq_true rfl⟩, (htx _ kw_3_22), (htx _ kw_3_23)⟩ ⟨xPre_blind, va_recv hK hP (ci := 2) rfl (q0 := 0) rfl, (fun U hU hW => ⟨rfl, xPre_of hZ hS hFc hPc hDc hK U hU hW⟩)⟩ rfl rfl hl.1 rfl (lv_room (Nat.le_of_ble_eq_true rfl)) dH_areOfOneKind_2 ⟨Nat.le_of_ble_eq_true rfl, Nat.le_of_ble_eq_true rfl⟩) hS (fun q _ h => hFc q h) hFc (fun r1 u9 t H1 locs ht hvm hr9 hB hz1 hk1 hS => ?_)
  obtain ⟨hP1, hK1, hD1⟩ := hB
  rw [ht] at hP1
  obtain ⟨hP, hD⟩ := xjoin (W := [(a0, .inr (2, [.ref a1, .int 1, v2])), (a1, .inl (cT 2, 4096, .inr (.inl f3)))]) hP hD [0, 1] [] 0 rfl rfl (by decide) (by decide) hk1 hFc hP1 hD1
  generalize H1 = H at hP hS ⊢
  rw [hr9]
  refine W.eq (g2 := F0 m 5 ls [.int 0]) rfl ?_
  refine lv_aload_n hx hb dH_areOfOneKind_5 rfl (lv_at hl 2 rfl) ?_
  refine lv_iload_n hx hb dH_areOfOneKind_6 rfl (lv_at hl 3 rfl) ?_
  obtain ⟨hPc, hDc, hFc⟩ := xcut (wc := [(a0, .inr (2, [.ref a1, .int 1, v2])), (a1, .inl (cT 2, 4096, .inr (.inl f3)))]) hP hD hS hA [0, 1] rfl rfl (by decide)
  refine va_calli (va_runV (C := "ValueBench$Row") (As := [.int 0]) (rest := [.int 0]) ⟨hx, hb, hml, hown, htx⟩ (cR_kind_0 l hl9 D cT aK aV H.size a0 a1 v2 f3 (by first | rfl | exact h4)) ⟨callB_of 1 htx (xw_goodC kw_3_24) rfl rfl rfl (htx _ kw_1_4) (htx _ kw_4_164) ⟨by decide, by decide, by decide +kernel⟩ ⟨Nat.le_of_ble_eq_true rfl, Nat.le_of_ble_eq_true rfl⟩, (htx _ kw_3_22), (htx _ kw_3_23)⟩ ⟨xPre_blind, va_recv hK hP (ci := 2) rfl (q0 := 0) rfl, (fun U hU hW => ⟨rfl, xPre_of hZ hS hFc hPc hDc hK U hU hW⟩)⟩ rfl rfl hl.1 rfl (lv_room (Nat.le_of_ble_eq_true rfl)) dH_areOfOneKind_7 ⟨Nat.le_of_ble_eq_true rfl, Nat.le_of_ble_eq_true rfl⟩) hS (fun q _ h => hFc q h) hFc (fun r2 u9 t H1 locs ht hvm hr9 hB hz1 hk1 hS => ?_)
  obtain ⟨hP1, hK1, hD1⟩ := hB
  rw [ht] at hP1
  obtain ⟨hP, hD⟩ := xjoin (W := [(a0, .inr (2, [.ref a1, .int 1, v2])), (a1, .inl (cT 2, 4096, .inr (.inl f3)))]) hP hD [0, 1] [] 0 rfl rfl (by decide) (by decide) hk1 hFc hP1 hD1
  generalize H1 = H at hP hS ⊢
  rw [hr9]
  refine W.eq (g2 := F0 m 10 ls [.int 0, .int 0]) rfl ?_
  refine lv_icmp_eq (tgt := 35) hx hb dH_areOfOneKind_10 (by decide) (fun _ => ?_) (fun h => ((by revert h; decide : False)).elim)
  refine lv_iconst (v := 1) hx hb dH_areOfOneKind_35 (by decide) ?_
  refine lv_goto (tgt := 40) hx hb dH_areOfOneKind_36 (by decide) ?_
  obtain ⟨hP9, hD9⟩ := xsub (wc := [(a0, .inr (2, [.ref a1, .int 1, v2])), (a1, .inl (cT 2, 4096, .inr (.inl f3)))]) hP hD [0, 1] rfl rfl (by decide)
  refine W.widen (k := 0) (n := 0) (Nat.le_of_ble_eq_true rfl) (Nat.le_of_ble_eq_true rfl) ?_
  exact W.zret (v := 1) hx hb hr rfl (fun t ht hW => ⟨⟨1, (), rfl, rfl, by rw [ht]; exact hP9, va_K.moved hW.alike hK, hD9⟩, hS.F ht⟩) hS.2.2 dH_areOfOneKind_40
set_option maxHeartbeats 400000000 in
set_option maxRecDepth 100000 in
theorem cH_isIn_0 (l : Launch) (hl9 : l.stackTraces = false) (D : va_G) (cT : Nat → ClassId) (aK aV : Nat → Nat) (sz : Nat) (a0 : Nat) (a1 : Nat) (v2 : Value) (f3 : Nat → Int64) (h4 : f3 0 = 0) : xMet l yH_isIn wyH_isIn 1 0 0 21 D cT aK aV sz [.ref a0, .int 0, .ref a0, .int 0, .int 0] [(a0, .inr (2, [.ref a1, .int 1, v2])), (a1, .inl (cT 2, 4096, .inr (.inl f3)))] (fun A => va_Qi (fun (r : Int32) (_ : Unit) => r = 1) (fun _ t => xB D xcl cT A [(a0, .inr (2, [.ref a1, .int 1, v2])), (a1, .inl (cT 2, 4096, .inr (.inl f3)))] t) A) := by
  refine Met.ofW (cc := prog_5_method_11_code) (maxL := 5) (ret := (some .boolean)) (by decide) rfl ?_
  intro p e s m args below meth c s₁ B hml hv
  obtain ⟨rfl, hsz, hZ, hP, hK, hD0⟩ := hv
  have hx := B.exec
  have hb := B.bytes
  have hr := B.returns
  have hts := atoms_spec (ws := wyH_isIn) B.pre
  have htx := fun w h => hts w (List.mem_cons_of_mem _ h)
  have hown : s.vm.findClass "ValueBench$Pairs" = some m.cls := findClass_of_methodNamed B.named
  have hlocks := B.notSynchronized
  subst hsz
  have hD := hD0.self (sz := s.heap.size)
  generalize hAe : va_A [(a0, .inr (2, [.ref a1, .int 1, v2])), (a1, .inl (cT 2, 4096, .inr (.inl f3)))] s.heap.size = A at hD hZ ⊢
  have hA : ∀ q : Nat, s.heap.size ≤ q → A q := fun q h => by rw [← hAe]; exact Or.inr h
  have hS : va_S A s.heap s.heap [] := va_S.rf
  have hP : va_P D xcl [(a0, .inr (2, [.ref a1, .int 1, v2])), (a1, .inl (cT 2, 4096, .inr (.inl f3)))] s.heap := hP
  have hl := lv_entry ([.ref a0, .int 0, .ref a0, .int 0, .int 0]) (n := 5) (Nat.le_of_ble_eq_true rfl)
  rw [lg_entry_eq]
  generalize (lg_sl ([.ref a0, .int 0, .ref a0, .int 0, .int 0]) ++ List.replicate (5 - (lg_sl ([.ref a0, .int 0, .ref a0, .int 0, .int 0])).length) Slot.unset).toArray = ls at hl ⊢
  have hl : lv_has ls 5 [(0, .ref a0), (1, .int 0), (2, .ref a0), (3, .int 0), (4, .int 0)] := hl
  refine lv_aload_n hx hb dH_isIn_0 rfl (lv_at hl 0 rfl) ?_
  refine lv_iload_n hx hb dH_isIn_1 rfl (lv_at hl 1 rfl) ?_
  obtain ⟨hPc, hDc, hFc⟩ := xcut (wc := [(a0, .inr (2, [.ref a1, .int 1, v2])), (a1, .inl (cT 2, 4096, .inr (.inl f3)))]) hP hD hS hA [0, 1] rfl rfl (by decide)
  refine va_calli (va_runV (C := "ValueBench$Row") (As := [.int 0]) (rest := []) ⟨hx, hb, hml, hown, htx⟩ (cR_kind_0 l hl9 D cT aK aV s.heap.size a0 a1 v2 f3 (by first | rfl | exact h4)) ⟨callB_of 1 htx (xw_goodC kw_3_24) rfl rfl rfl (htx _ kw_1_4) (htx _ kw_4_164) ⟨by decide, by decide, by decide +kernel⟩ ⟨Nat.le_of_ble_eq_true rfl, Nat.le_of_ble_eq_true rfl⟩, (htx _ kw_3_22), (htx _ kw_3_23)⟩ ⟨xPre_blind, va_recv hK hP (ci := 2) rfl (q0 := 0) rfl, (fun U hU hW => ⟨rfl, xPre_of hZ hS hFc hPc hDc hK U hU hW⟩)⟩ rfl rfl hl.1 rfl (lv_room (Nat.le_of_ble_eq_true rfl)) dH_isIn_2 ⟨Nat.le_of_ble_eq_true rfl, Nat.le_of_ble_eq_true rfl⟩) hS (fun q _ h => hFc q h) hFc (fun r1 u9 t H1 locs ht hvm hr9 hB hz1 hk1 hS => ?_)
  obtain ⟨hP1, hK1, hD1⟩ := hB
  rw [ht] at hP1
  obtain ⟨hP, hD⟩ := xjoin (W := [(a0, .inr (2, [.ref a1, .int 1, v2])), (a1, .inl (cT 2, 4096, .inr (.inl f3)))]) hP hD [0, 1] [] 0 rfl rfl (by decide) (by decide) hk1 hFc hP1 hD1
  generalize H1 = H at hP hS ⊢
  rw [hr9]
  refine W.eq (g2 := F0 m 5 ls [.int 0]) rfl ?_
  refine lv_aload_n hx hb dH_isIn_5 rfl (lv_at hl 2 rfl) ?_
  refine lv_iload_n hx hb dH_isIn_6 rfl (lv_at hl 3 rfl) ?_
  obtain ⟨hPc, hDc, hFc⟩ := xcut (wc := [(a0, .inr (2, [.ref a1, .int 1, v2])), (a1, .inl (cT 2, 4096, .inr (.inl f3)))]) hP hD hS hA [0, 1] rfl rfl (by decide)
  refine va_calli (va_runV (C := "ValueBench$Row") (As := [.int 0]) (rest := [.int 0]) ⟨hx, hb, hml, hown, htx⟩ (cR_kind_0 l hl9 D cT aK aV H.size a0 a1 v2 f3 (by first | rfl | exact h4)) ⟨callB_of 1 htx (xw_goodC kw_3_24) rfl rfl rfl (htx _ kw_1_4) (htx _ kw_4_164) ⟨by decide, by decide, by decide +kernel⟩ ⟨Nat.le_of_ble_eq_true rfl, Nat.le_of_ble_eq_true rfl⟩, (htx _ kw_3_22), (htx _ kw_3_23)⟩ ⟨xPre_blind, va_recv hK hP (ci := 2) rfl (q0 := 0) rfl, (fun U hU hW => ⟨rfl, xPre_of hZ hS hFc hPc hDc hK U hU hW⟩)⟩ rfl rfl hl.1 rfl (lv_room (Nat.le_of_ble_eq_true rfl)) dH_isIn_7 ⟨Nat.le_of_ble_eq_true rfl, Nat.le_of_ble_eq_true rfl⟩) hS (fun q _ h => hFc q h) hFc (fun r2 u9 t H1 locs ht hvm hr9 hB hz1 hk1 hS => ?_)
  obtain ⟨hP1, hK1, hD1⟩ := hB
  rw [ht] at hP1
  obtain ⟨hP, hD⟩ := xjoin (W := [(a0, .inr (2, [.ref a1, .int 1, v2])), (a1, .inl (cT 2, 4096, .inr (.inl f3)))]) hP hD [0, 1] [] 0 rfl rfl (by decide) (by decide) hk1 hFc hP1 hD1
  generalize H1 = H at hP hS ⊢
  rw [hr9]
  refine W.eq (g2 := F0 m 10 ls [.int 0, .int 0]) rfl ?_
  refine lv_icmp_ne (tgt := 20) hx hb dH_isIn_10 (by decide) (fun h => ((by revert h; decide : False)).elim) (fun _ => ?_)
  refine lv_iload hx hb dH_isIn_13 (lv_at hl 4 rfl) ?_
  refine lv_bipush (v := 60) hx hb dH_isIn_15 (by decide) ?_
  refine lv_icmp_le (tgt := 22) hx hb dH_isIn_17 (by decide) (fun _ => ?_) (fun h => ((by revert h; decide : False)).elim)
  refine lv_aload_n hx hb dH_isIn_22 rfl (lv_at hl 0 rfl) ?_
  refine lv_iload_n hx hb dH_isIn_23 rfl (lv_at hl 1 rfl) ?_
  obtain ⟨hPc, hDc, hFc⟩ := xcut (wc := [(a0, .inr (2, [.ref a1, .int 1, v2])), (a1, .inl (cT 2, 4096, .inr (.inl f3)))]) hP hD hS hA [0, 1] rfl rfl (by decide)
  refine va_calli (va_runV (C := "ValueBench$Row") (As := [.int 0]) (rest := []) ⟨hx, hb, hml, hown, htx⟩ (cR_kind_0 l hl9 D cT aK aV H.size a0 a1 v2 f3 (by first | rfl | exact h4)) ⟨callB_of 1 htx (xw_goodC kw_3_24) rfl rfl rfl (htx _ kw_1_4) (htx _ kw_4_164) ⟨by decide, by decide, by decide +kernel⟩ ⟨Nat.le_of_ble_eq_true rfl, Nat.le_of_ble_eq_true rfl⟩, (htx _ kw_3_22), (htx _ kw_3_23)⟩ ⟨xPre_blind, va_recv hK hP (ci := 2) rfl (q0 := 0) rfl, (fun U hU hW => ⟨rfl, xPre_of hZ hS hFc hPc hDc hK U hU hW⟩)⟩ rfl rfl hl.1 rfl (lv_room (Nat.le_of_ble_eq_true rfl)) dH_isIn_24 ⟨Nat.le_of_ble_eq_true rfl, Nat.le_of_ble_eq_true rfl⟩) hS (fun q _ h => hFc q h) hFc (fun r3 u9 t H1 locs ht hvm hr9 hB hz1 hk1 hS => ?_)
  obtain ⟨hP1, hK1, hD1⟩ := hB
  rw [ht] at hP1
  obtain ⟨hP, hD⟩ := xjoin (W := [(a0, .inr (2, [.ref a1, .int 1, v2])), (a1, .inl (cT 2, 4096, .inr (.inl f3)))]) hP hD [0, 1] [] 0 rfl rfl (by decide) (by decide) hk1 hFc hP1 hD1
  generalize H1 = H at hP hS ⊢
  rw [hr9]
  refine W.eq (g2 := F0 m 27 ls [.int 0]) rfl ?_
  refine lv_tableOut (tgt := 80) hx hb dH_isIn_27 (by decide) (by decide) ?_
  refine lv_aload_n hx hb dH_isIn_80 rfl (lv_at hl 0 rfl) ?_
  refine lv_iload_n hx hb dH_isIn_81 rfl (lv_at hl 1 rfl) ?_
  obtain ⟨hPc, hDc, hFc⟩ := xcut (wc := [(a0, .inr (2, [.ref a1, .int 1, v2])), (a1, .inl (cT 2, 4096, .inr (.inl f3)))]) hP hD hS hA [0, 1] rfl rfl (by decide)
  refine va_calll (va_runV (C := "ValueBench$Row") (As := [.int 0]) (rest := []) ⟨hx, hb, hml, hown, htx⟩ (cR_cell_0 l hl9 D cT aK aV H.size a0 a1 v2 f3 (by first | rfl | exact h4)) ⟨callB_of 1 htx (xw_goodC kw_2_202) rfl rfl rfl (htx _ kw_1_4) (htx _ kw_4_185) ⟨by decide, by decide, by decide +kernel⟩ ⟨Nat.le_of_ble_eq_true rfl, Nat.le_of_ble_eq_true rfl⟩, (htx _ kw_2_200), (htx _ kw_2_201)⟩ ⟨xPre_blind, va_recv hK hP (ci := 2) rfl (q0 := 0) rfl, (fun U hU hW => ⟨rfl, xPre_of hZ hS hFc hPc hDc hK U hU hW⟩)⟩ rfl rfl hl.1 rfl (lv_room (Nat.le_of_ble_eq_true rfl)) dH_isIn_82 ⟨Nat.le_of_ble_eq_true rfl, Nat.le_of_ble_eq_true rfl⟩) hS (fun q _ h => hFc q h) hFc (fun r4 u9 t H1 locs ht hvm hr9 hB hz1 hk1 hS => ?_)
  obtain ⟨hP1, hK1, hD1⟩ := hB
  rw [ht] at hP1
  obtain ⟨hP, hD⟩ := xjoin (W := [(a0, .inr (2, [.ref a1, .int 1, v2])), (a1, .inl (cT 2, 4096, .inr (.inl f3)))]) hP hD [0, 1] [] 0 rfl rfl (by decide) (by decide) hk1 hFc hP1 hD1
  generalize H1 = H at hP hS ⊢
  rw [hr9]
  refine W.eq (g2 := F0 m 85 ls [.long 0]) rfl ?_
  refine lv_aload_n hx hb dH_isIn_85 rfl (lv_at hl 2 rfl) ?_
  refine lv_iload_n hx hb dH_isIn_86 rfl (lv_at hl 3 rfl) ?_
  obtain ⟨hPc, hDc, hFc⟩ := xcut (wc := [(a0, .inr (2, [.ref a1, .int 1, v2])), (a1, .inl (cT 2, 4096, .inr (.inl f3)))]) hP hD hS hA [0, 1] rfl rfl (by decide)
  refine va_calll (va_runV (C := "ValueBench$Row") (As := [.int 0]) (rest := [.long 0]) ⟨hx, hb, hml, hown, htx⟩ (cR_cell_0 l hl9 D cT aK aV H.size a0 a1 v2 f3 (by first | rfl | exact h4)) ⟨callB_of 1 htx (xw_goodC kw_2_202) rfl rfl rfl (htx _ kw_1_4) (htx _ kw_4_185) ⟨by decide, by decide, by decide +kernel⟩ ⟨Nat.le_of_ble_eq_true rfl, Nat.le_of_ble_eq_true rfl⟩, (htx _ kw_2_200), (htx _ kw_2_201)⟩ ⟨xPre_blind, va_recv hK hP (ci := 2) rfl (q0 := 0) rfl, (fun U hU hW => ⟨rfl, xPre_of hZ hS hFc hPc hDc hK U hU hW⟩)⟩ rfl rfl hl.1 rfl (lv_room (Nat.le_of_ble_eq_true rfl)) dH_isIn_87 ⟨Nat.le_of_ble_eq_true rfl, Nat.le_of_ble_eq_true rfl⟩) hS (fun q _ h => hFc q h) hFc (fun r5 u9 t H1 locs ht hvm hr9 hB hz1 hk1 hS => ?_)
  obtain ⟨hP1, hK1, hD1⟩ := hB
  rw [ht] at hP1
  obtain ⟨hP, hD⟩ := xjoin (W := [(a0, .inr (2, [.ref a1, .int 1, v2])), (a1, .inl (cT 2, 4096, .inr (.inl f3)))]) hP hD [0, 1] [] 0 rfl rfl (by decide) (by decide) hk1 hFc hP1 hD1
  generalize H1 = H at hP hS ⊢
  rw [hr9]
  refine W.eq (g2 := F0 m 90 ls [.long 0, .long 0]) rfl ?_
  refine W.lcmp hx hb dH_isIn_90 ?_
  refine W.eq (g2 := F0 m 91 ls [.int 0]) rfl ?_
  refine lv_if_ne (tgt := 98) hx hb dH_isIn_91 (by decide) (fun h => ((by revert h; decide : False)).elim) (fun _ => ?_)
  refine lv_iconst (v := 1) hx hb dH_isIn_94 (by decide) ?_
  refine lv_goto (tgt := 99) hx hb dH_isIn_95 (by decide) ?_
  obtain ⟨hP9, hD9⟩ := xsub (wc := [(a0, .inr (2, [.ref a1, .int 1, v2])), (a1, .inl (cT 2, 4096, .inr (.inl f3)))]) hP hD [0, 1] rfl rfl (by decide)
  refine W.widen (k := 0) (n := 0) (Nat.le_of_ble_eq_true rfl) (Nat.le_of_ble_eq_true rfl) ?_
  exact W.zret (v := 1) hx hb hr rfl (fun t ht hW => ⟨⟨1, (), rfl, rfl, by rw [ht]; exact hP9, va_K.moved hW.alike hK, hD9⟩, hS.F ht⟩) hS.2.2 dH_isIn_99
set_option maxHeartbeats 400000000 in
set_option maxRecDepth 100000 in
theorem cH_truth_0 (l : Launch) (hl9 : l.stackTraces = false) (D : va_G) (cT : Nat → ClassId) (aK aV : Nat → Nat) (sz : Nat) (a0 : Nat) (a1 : Nat) (f2 : Nat → Int64) : xMet l yH_truth wyH_truth 2 0 0 43 D cT aK aV sz [.int 1, .ref a0] [(a0, .inr (2, [.ref a1, .int 0, .int 0])), (a1, .inl (cT 2, 4096, .inr (.inl f2)))] (fun A => va_Qi (fun (r : Int32) (_ : Unit) => r = 0) (fun _ t => xB D xcl cT A [(a0, .inr (2, [.ref a1, .int 1, .int 0])), (a1, .inl (cT 2, 4096, .inr (.inl (vp_updL f2 0 2))))] t) A) := by
  refine Met.ofW (cc := prog_5_method_3_code) (maxL := 2) (ret := (some .int)) (by decide) rfl ?_
  intro p e s m args below meth c s₁ B hml hv
  obtain ⟨rfl, hsz, hZ, hP, hK, hD0⟩ := hv
  have hx := B.exec
  have hb := B.bytes
  have hr := B.returns
  have hts := atoms_spec (ws := wyH_truth) B.pre
  have htx := fun w h => hts w (List.mem_cons_of_mem _ h)
  have hown : s.vm.findClass "ValueBench$Pairs" = some m.cls := findClass_of_methodNamed B.named
  have hlocks := B.notSynchronized
  subst hsz
  have hD := hD0.self (sz := s.heap.size)
  generalize hAe : va_A [(a0, .inr (2, [.ref a1, .int 0, .int 0])), (a1, .inl (cT 2, 4096, .inr (.inl f2)))] s.heap.size = A at hD hZ ⊢
  have hA : ∀ q : Nat, s.heap.size ≤ q → A q := fun q h => by rw [← hAe]; exact Or.inr h
  have hS : va_S A s.heap s.heap [] := va_S.rf
  have hP : va_P D xcl [(a0, .inr (2, [.ref a1, .int 0, .int 0])), (a1, .inl (cT 2, 4096, .inr (.inl f2)))] s.heap := hP
  have hl := lv_entry ([.int 1, .ref a0]) (n := 2) (Nat.le_of_ble_eq_true rfl)
  rw [lg_entry_eq]
  generalize (lg_sl ([.int 1, .ref a0]) ++ List.replicate (2 - (lg_sl ([.int 1, .ref a0])).length) Slot.unset).toArray = ls at hl ⊢
  have hl : lv_has ls 2 [(0, .int 1), (1, .ref a0)] := hl
  refine lv_aload_n hx hb dH_truth_0 rfl (lv_at hl 1 rfl) ?_
  refine lv_iload_n hx hb dH_truth_1 rfl (lv_at hl 0 rfl) ?_
  obtain ⟨hPc, hDc, hFc⟩ := xcut (wc := [(a0, .inr (2, [.ref a1, .int 0, .int 0])), (a1, .inl (cT 2, 4096, .inr (.inl f2)))]) hP hD hS hA [0, 1] rfl rfl (by decide)
  refine va_callv (va_runV (C := "ValueBench$Row") (As := [.int 1]) (rest := []) ⟨hx, hb, hml, hown, htx⟩ (cR_putTruth_0 l hl9 D cT aK aV s.heap.size a0 a1 f2) ⟨callB_of 1 htx (xw_goodC kw_4_33) rfl rfl rfl (htx _ kw_1_4) (htx _ kw_4_155) ⟨by decide, by decide, by decide +kernel⟩ ⟨Nat.le_of_ble_eq_true rfl, Nat.le_of_ble_eq_true rfl⟩, (htx _ kw_4_31), (htx _ kw_4_32)⟩ ⟨xPre_blind, va_recv hK hP (ci := 2) rfl (q0 := 0) rfl, (fun U hU hW => ⟨rfl, xPre_of hZ hS hFc hPc hDc hK U hU hW⟩)⟩ rfl rfl hl.1 rfl (lv_room (Nat.le_of_ble_eq_true rfl)) dH_truth_2 ⟨Nat.le_of_ble_eq_true rfl, Nat.le_of_ble_eq_true rfl⟩) hS (fun q _ h => hFc q h) hFc (fun u9 t H1 locs ht hvm hr9 hB hz1 hk1 hS => ?_)
  obtain ⟨hP1, hK1, hD1⟩ := hB
  rw [ht] at hP1
  obtain ⟨hP, hD⟩ := xjoin (W := [(a0, .inr (2, [.ref a1, .int 1, .int 0])), (a1, .inl (cT 2, 4096, .inr (.inl (vp_updL f2 0 2))))]) hP hD [0, 1] [] 0 rfl rfl (by decide) (by decide) hk1 hFc hP1 hD1
  generalize H1 = H at hP hS ⊢
  refine lv_iconst (v := 0) hx hb dH_truth_5 (by decide) ?_
  obtain ⟨hP9, hD9⟩ := xsub (wc := [(a0, .inr (2, [.ref a1, .int 1, .int 0])), (a1, .inl (cT 2, 4096, .inr (.inl (vp_updL f2 0 2))))]) hP hD [0, 1] rfl rfl (by decide)
  refine W.widen (k := 0) (n := 0) (Nat.le_of_ble_eq_true rfl) (Nat.le_of_ble_eq_true rfl) ?_
  exact W.iret (v := 0) hx hb hr (fun t ht hW => ⟨⟨0, (), rfl, rfl, by rw [ht]; exact hP9, va_K.moved hW.alike hK, hD9⟩, hS.F ht⟩) hS.2.2 dH_truth_6
set_option maxHeartbeats 400000000 in
set_option maxRecDepth 100000 in
theorem cH_contains_0 (l : Launch) (hl9 : l.stackTraces = false) (D : va_G) (cT : Nat → ClassId) (aK aV : Nat → Nat) (sz : Nat) (a0 : Nat) (a1 : Nat) (a2 : Nat) (a3 : Nat) (v4 : Value) (f5 : Nat → Int64) (f7 : Nat → Int64) (h6 : f5 0 = 0) : xMet l yH_contains wyH_contains 3 0 0 64 D cT aK aV sz [.ref a0, .ref a0, .ref a2] [(a0, .inr (2, [.ref a1, .int 1, v4])), (a1, .inl (cT 2, 4096, .inr (.inl f5))), (a2, .inr (2, [.ref a3, .int 0, .int 0])), (a3, .inl (cT 2, 4096, .inr (.inl f7)))] (fun A => va_Qi (fun (r : Int32) (_ : Unit) => r = 0) (fun _ t => xB D xcl cT A [(a0, .inr (2, [.ref a1, .int 1, v4])), (a1, .inl (cT 2, 4096, .inr (.inl f5))), (a2, .inr (2, [.ref a3, .int 1, .int 0])), (a3, .inl (cT 2, 4096, .inr (.inl (vp_updL f7 0 2))))] t) A) := by
  refine Met.ofW (cc := prog_5_method_8_code) (maxL := 3) (ret := (some .int)) (by decide) rfl ?_
  intro p e s m args below meth c s₁ B hml hv
  obtain ⟨rfl, hsz, hZ, hP, hK, hD0⟩ := hv
  have hx := B.exec
  have hb := B.bytes
  have hr := B.returns
  have hts := atoms_spec (ws := wyH_contains) B.pre
  have htx := fun w h => hts w (List.mem_cons_of_mem _ h)
  have hown : s.vm.findClass "ValueBench$Pairs" = some m.cls := findClass_of_methodNamed B.named
  have hlocks := B.notSynchronized
  subst hsz
  have hD := hD0.self (sz := s.heap.size)
  generalize hAe : va_A [(a0, .inr (2, [.ref a1, .int 1, v4])), (a1, .inl (cT 2, 4096, .inr (.inl f5))), (a2, .inr (2, [.ref a3, .int 0, .int 0])), (a3, .inl (cT 2, 4096, .inr (.inl f7)))] s.heap.size = A at hD hZ ⊢
  have hA : ∀ q : Nat, s.heap.size ≤ q → A q := fun q h => by rw [← hAe]; exact Or.inr h
  have hS : va_S A s.heap s.heap [] := va_S.rf
  have hP : va_P D xcl [(a0, .inr (2, [.ref a1, .int 1, v4])), (a1, .inl (cT 2, 4096, .inr (.inl f5))), (a2, .inr (2, [.ref a3, .int 0, .int 0])), (a3, .inl (cT 2, 4096, .inr (.inl f7)))] s.heap := hP
  have hl := lv_entry ([.ref a0, .ref a0, .ref a2]) (n := 3) (Nat.le_of_ble_eq_true rfl)
  rw [lg_entry_eq]
  generalize (lg_sl ([.ref a0, .ref a0, .ref a2]) ++ List.replicate (3 - (lg_sl ([.ref a0, .ref a0, .ref a2])).length) Slot.unset).toArray = ls at hl ⊢
  have hl : lv_has ls 3 [(0, .ref a0), (1, .ref a0), (2, .ref a2)] := hl
  refine lv_aload_n hx hb dH_contains_0 rfl (lv_at hl 0 rfl) ?_
  refine lv_iconst (v := 0) hx hb dH_contains_1 (by decide) ?_
  refine lv_aload_n hx hb dH_contains_2 rfl (lv_at hl 1 rfl) ?_
  refine lv_iconst (v := 0) hx hb dH_contains_3 (by decide) ?_
  obtain ⟨hPc, hDc, hFc⟩ := xcut (wc := [(a0, .inr (2, [.ref a1, .int 1, v4])), (a1, .inl (cT 2, 4096, .inr (.inl f5)))]) hP hD hS hA [0, 1] rfl rfl (by decide)
  refine va_calli (va_runS (As := [.ref a0, .int 0, .ref a0, .int 0]) (rest := []) ⟨hx, hb, hml, hown, htx⟩ (cH_areOfOneKind_0 l hl9 D cT aK aV s.heap.size a0 a1 v4 f5 (by first | rfl | exact h6)) ⟨callB_of 4 htx (xw_goodC kw_4_163) rfl rfl rfl (htx _ kw_1_27) (htx _ kw_4_161) ⟨by decide, by decide, by decide +kernel⟩ ⟨Nat.le_of_ble_eq_true rfl, Nat.le_of_ble_eq_true rfl⟩, htx _ kw_4_162⟩ ⟨xPre_blind, (fun U hU hW => ⟨rfl, xPre_of hZ hS hFc hPc hDc hK U hU hW⟩)⟩ rfl rfl hl.1 rfl (lv_room (Nat.le_of_ble_eq_true rfl)) dH_contains_4 ⟨Nat.le_of_ble_eq_true rfl, Nat.le_of_ble_eq_true rfl⟩) hS (fun q _ h => hFc q h) hFc (fun r1 u9 t H1 locs ht hvm hr9 hB hz1 hk1 hS => ?_)
  obtain ⟨hP1, hK1, hD1⟩ := hB
  rw [ht] at hP1
  obtain ⟨hP, hD⟩ := xjoin (W := [(a2, .inr (2, [.ref a3, .int 0, .int 0])), (a3, .inl (cT 2, 4096, .inr (.inl f7))), (a0, .inr (2, [.ref a1, .int 1, v4])), (a1, .inl (cT 2, 4096, .inr (.inl f5)))]) hP hD [0, 1] [2, 3] 2 rfl rfl (by decide) (by decide) hk1 hFc hP1 hD1
  generalize H1 = H at hP hS ⊢
  rw [hr9]
  refine W.eq (g2 := F0 m 7 ls [.int 1]) rfl ?_
  refine lv_if_eq (tgt := 25) hx hb dH_contains_7 (by decide) (fun h => ((by revert h; decide : False)).elim) (fun _ => ?_)
  refine lv_aload_n hx hb dH_contains_10 rfl (lv_at hl 0 rfl) ?_
  refine lv_iconst (v := 0) hx hb dH_contains_11 (by decide) ?_
  refine lv_aload_n hx hb dH_contains_12 rfl (lv_at hl 1 rfl) ?_
  refine lv_iconst (v := 0) hx hb dH_contains_13 (by decide) ?_
  refine lv_iconst (v := 0) hx hb dH_contains_14 (by decide) ?_
  obtain ⟨hPc, hDc, hFc⟩ := xcut (wc := [(a0, .inr (2, [.ref a1, .int 1, v4])), (a1, .inl (cT 2, 4096, .inr (.inl f5)))]) hP hD hS hA [2, 3] rfl rfl (by decide)
  refine va_calli (va_runS (As := [.ref a0, .int 0, .ref a0, .int 0, .int 0]) (rest := []) ⟨hx, hb, hml, hown, htx⟩ (cH_isIn_0 l hl9 D cT aK aV H.size a0 a1 v4 f5 (by first | rfl | exact h6)) ⟨callB_of 5 htx (xw_goodC kw_4_170) rfl rfl rfl (htx _ kw_1_27) (htx _ kw_4_168) ⟨by decide, by decide, by decide +kernel⟩ ⟨Nat.le_of_ble_eq_true rfl, Nat.le_of_ble_eq_true rfl⟩, htx _ kw_4_169⟩ ⟨xPre_blind, (fun U hU hW => ⟨rfl, xPre_of hZ hS hFc hPc hDc hK U hU hW⟩)⟩ rfl rfl hl.1 rfl (lv_room (Nat.le_of_ble_eq_true rfl)) dH_contains_15 ⟨Nat.le_of_ble_eq_true rfl, Nat.le_of_ble_eq_true rfl⟩) hS (fun q _ h => hFc q h) hFc (fun r2 u9 t H1 locs ht hvm hr9 hB hz1 hk1 hS => ?_)
  obtain ⟨hP1, hK1, hD1⟩ := hB
  rw [ht] at hP1
  obtain ⟨hP, hD⟩ := xjoin (W := [(a2, .inr (2, [.ref a3, .int 0, .int 0])), (a3, .inl (cT 2, 4096, .inr (.inl f7))), (a0, .inr (2, [.ref a1, .int 1, v4])), (a1, .inl (cT 2, 4096, .inr (.inl f5)))]) hP hD [2, 3] [0, 1] 2 rfl rfl (by decide) (by decide) hk1 hFc hP1 hD1
  generalize H1 = H at hP hS ⊢
  rw [hr9]
  refine W.eq (g2 := F0 m 18 ls [.int 1]) rfl ?_
  refine lv_aload_n hx hb dH_contains_18 rfl (lv_at hl 2 rfl) ?_
  obtain ⟨hPc, hDc, hFc⟩ := xcut (wc := [(a2, .inr (2, [.ref a3, .int 0, .int 0])), (a3, .inl (cT 2, 4096, .inr (.inl f7)))]) hP hD hS hA [0, 1] rfl rfl (by decide)
  refine va_calli (va_runS (As := [.int 1, .ref a2]) (rest := []) ⟨hx, hb, hml, hown, htx⟩ (cH_truth_0 l hl9 D cT aK aV H.size a2 a3 f7) ⟨callB_of 2 htx (xw_goodC kw_4_154) rfl rfl rfl (htx _ kw_1_27) (htx _ kw_4_152) ⟨by decide, by decide, by decide +kernel⟩ ⟨Nat.le_of_ble_eq_true rfl, Nat.le_of_ble_eq_true rfl⟩, htx _ kw_4_153⟩ ⟨xPre_blind, (fun U hU hW => ⟨rfl, xPre_of hZ hS hFc hPc hDc hK U hU hW⟩)⟩ rfl rfl hl.1 rfl (lv_room (Nat.le_of_ble_eq_true rfl)) dH_contains_19 ⟨Nat.le_of_ble_eq_true rfl, Nat.le_of_ble_eq_true rfl⟩) hS (fun q _ h => hFc q h) hFc (fun r3 u9 t H1 locs ht hvm hr9 hB hz1 hk1 hS => ?_)
  obtain ⟨hP1, hK1, hD1⟩ := hB
  rw [ht] at hP1
  obtain ⟨hP, hD⟩ := xjoin (W := [(a0, .inr (2, [.ref a1, .int 1, v4])), (a1, .inl (cT 2, 4096, .inr (.inl f5))), (a2, .inr (2, [.ref a3, .int 1, .int 0])), (a3, .inl (cT 2, 4096, .inr (.inl (vp_updL f7 0 2))))]) hP hD [0, 1] [2, 3] 2 rfl rfl (by decide) (by decide) hk1 hFc hP1 hD1
  generalize H1 = H at hP hS ⊢
  rw [hr9]
  refine W.eq (g2 := F0 m 22 ls [.int 0]) rfl ?_
  refine lv_goto (tgt := 26) hx hb dH_contains_22 (by decide) ?_
  obtain ⟨hP9, hD9⟩ := xsub (wc := [(a0, .inr (2, [.ref a1, .int 1, v4])), (a1, .inl (cT 2, 4096, .inr (.inl f5))), (a2, .inr (2, [.ref a3, .int 1, .int 0])), (a3, .inl (cT 2, 4096, .inr (.inl (vp_updL f7 0 2))))]) hP hD [0, 1, 2, 3] rfl rfl (by decide)
  refine W.widen (k := 0) (n := 0) (Nat.le_of_ble_eq_true rfl) (Nat.le_of_ble_eq_true rfl) ?_
  exact W.iret (v := 0) hx hb hr (fun t ht hW => ⟨⟨0, (), rfl, rfl, by rw [ht]; exact hP9, va_K.moved hW.alike hK, hD9⟩, hS.F ht⟩) hS.2.2 dH_contains_26
set_option maxHeartbeats 400000000 in
set_option maxRecDepth 100000 in
theorem cH_apply_2 (l : Launch) (hl9 : l.stackTraces = false) (D : va_G) (cT : Nat → ClassId) (aK aV : Nat → Nat) (sz : Nat) (a0 : Nat) (a1 : Nat) (a2 : Nat) (a3 : Nat) (b4 : Nat) (v5 : Value) (f6 : Nat → Int64) (f8 : Nat → Int64) (h7 : f6 0 = 0) : xMet l yH_apply wyH_apply 4 0 0 86 D cT aK aV sz [.int 1, .ref a0, .ref a0, .ref b4, .ref a2] [(a0, .inr (2, [.ref a1, .int 1, v5])), (a1, .inl (cT 2, 4096, .inr (.inl f6))), (a2, .inr (2, [.ref a3, .int 0, .int 0])), (a3, .inl (cT 2, 4096, .inr (.inl f8)))] (fun A => va_Qi (fun (r : Int32) (_ : Unit) => r = 0) (fun _ t => xB D xcl cT A [(a0, .inr (2, [.ref a1, .int 1, v5])), (a1, .inl (cT 2, 4096, .inr (.inl f6))), (a2, .inr (2, [.ref a3, .int 1, .int 0])), (a3, .inl (cT 2, 4096, .inr (.inl (vp_updL f8 0 2))))] t) A) := by
  refine Met.ofW (cc := prog_5_method_2_code) (maxL := 5) (ret := (some .int)) (by decide) rfl ?_
  intro p e s m args below meth c s₁ B hml hv
  obtain ⟨rfl, hsz, hZ, hP, hK, hD0⟩ := hv
  have hx := B.exec
  have hb := B.bytes
  have hr := B.returns
  have hts := atoms_spec (ws := wyH_apply) B.pre
  have htx := fun w h => hts w (List.mem_cons_of_mem _ h)
  have hown : s.vm.findClass "ValueBench$Pairs" = some m.cls := findClass_of_methodNamed B.named
  have hlocks := B.notSynchronized
  subst hsz
  have hD := hD0.self (sz := s.heap.size)
  generalize hAe : va_A [(a0, .inr (2, [.ref a1, .int 1, v5])), (a1, .inl (cT 2, 4096, .inr (.inl f6))), (a2, .inr (2, [.ref a3, .int 0, .int 0])), (a3, .inl (cT 2, 4096, .inr (.inl f8)))] s.heap.size = A at hD hZ ⊢
  have hA : ∀ q : Nat, s.heap.size ≤ q → A q := fun q h => by rw [← hAe]; exact Or.inr h
  have hS : va_S A s.heap s.heap [] := va_S.rf
  have hP : va_P D xcl [(a0, .inr (2, [.ref a1, .int 1, v5])), (a1, .inl (cT 2, 4096, .inr (.inl f6))), (a2, .inr (2, [.ref a3, .int 0, .int 0])), (a3, .inl (cT 2, 4096, .inr (.inl f8)))] s.heap := hP
  have hl := lv_entry ([.int 1, .ref a0, .ref a0, .ref b4, .ref a2]) (n := 5) (Nat.le_of_ble_eq_true rfl)
  rw [lg_entry_eq]
  generalize (lg_sl ([.int 1, .ref a0, .ref a0, .ref b4, .ref a2]) ++ List.replicate (5 - (lg_sl ([.int 1, .ref a0, .ref a0, .ref b4, .ref a2])).length) Slot.unset).toArray = ls at hl ⊢
  have hl : lv_has ls 5 [(0, .int 1), (1, .ref a0), (2, .ref a0), (3, .ref b4), (4, .ref a2)] := hl
  refine lv_iload_n hx hb dH_apply_0 rfl (lv_at hl 0 rfl) ?_
  refine lv_tableIn (off := 59) (tgt := 60) hx hb dH_apply_1 (by decide) (by decide) (by decide) (by decide) ?_
  refine lv_aload_n hx hb dH_apply_60 rfl (lv_at hl 1 rfl) ?_
  refine lv_aload_n hx hb dH_apply_61 rfl (lv_at hl 2 rfl) ?_
  refine lv_aload hx hb dH_apply_62 (lv_at hl 4 rfl) ?_
  obtain ⟨hPc, hDc, hFc⟩ := xcut (wc := [(a0, .inr (2, [.ref a1, .int 1, v5])), (a1, .inl (cT 2, 4096, .inr (.inl f6))), (a2, .inr (2, [.ref a3, .int 0, .int 0])), (a3, .inl (cT 2, 4096, .inr (.inl f8)))]) hP hD hS hA [0, 1, 2, 3] rfl rfl (by decide)
  refine va_calli (va_runS (As := [.ref a0, .ref a0, .ref a2]) (rest := []) ⟨hx, hb, hml, hown, htx⟩ (cH_contains_0 l hl9 D cT aK aV s.heap.size a0 a1 a2 a3 v5 f6 f8 (by first | rfl | exact h7)) ⟨callB_of 3 htx (xw_goodC kw_4_160) rfl rfl rfl (htx _ kw_1_27) (htx _ kw_4_158) ⟨by decide, by decide, by decide +kernel⟩ ⟨Nat.le_of_ble_eq_true rfl, Nat.le_of_ble_eq_true rfl⟩, htx _ kw_4_159⟩ ⟨xPre_blind, (fun U hU hW => ⟨rfl, xPre_of hZ hS hFc hPc hDc hK U hU hW⟩)⟩ rfl rfl hl.1 rfl (lv_room (Nat.le_of_ble_eq_true rfl)) dH_apply_64 ⟨Nat.le_of_ble_eq_true rfl, Nat.le_of_ble_eq_true rfl⟩) hS (fun q _ h => hFc q h) hFc (fun r1 u9 t H1 locs ht hvm hr9 hB hz1 hk1 hS => ?_)
  obtain ⟨hP1, hK1, hD1⟩ := hB
  rw [ht] at hP1
  obtain ⟨hP, hD⟩ := xjoin (W := [(a0, .inr (2, [.ref a1, .int 1, v5])), (a1, .inl (cT 2, 4096, .inr (.inl f6))), (a2, .inr (2, [.ref a3, .int 1, .int 0])), (a3, .inl (cT 2, 4096, .inr (.inl (vp_updL f8 0 2))))]) hP hD [0, 1, 2, 3] [] 0 rfl rfl (by decide) (by decide) hk1 hFc hP1 hD1
  generalize H1 = H at hP hS ⊢
  rw [hr9]
  refine W.eq (g2 := F0 m 67 ls [.int 0]) rfl ?_
  obtain ⟨hP9, hD9⟩ := xsub (wc := [(a0, .inr (2, [.ref a1, .int 1, v5])), (a1, .inl (cT 2, 4096, .inr (.inl f6))), (a2, .inr (2, [.ref a3, .int 1, .int 0])), (a3, .inl (cT 2, 4096, .inr (.inl (vp_updL f8 0 2))))]) hP hD [0, 1, 2, 3] rfl rfl (by decide)
  refine W.widen (k := 0) (n := 0) (Nat.le_of_ble_eq_true rfl) (Nat.le_of_ble_eq_true rfl) ?_
  exact W.iret (v := 0) hx hb hr (fun t ht hW => ⟨⟨0, (), rfl, rfl, by rw [ht]; exact hP9, va_K.moved hW.alike hK, hD9⟩, hS.F ht⟩) hS.2.2 dH_apply_67
set_option maxHeartbeats 400000000 in
set_option maxRecDepth 100000 in
theorem cB_two_10 (l : Launch) (hl9 : l.stackTraces = false) (D : va_G) (cT : Nat → ClassId) (aK aV : Nat → Nat) (sz : Nat) (a0 : Nat) (a1 : Nat) (a2 : Nat) (a3 : Nat) (a4 : Nat) (a5 : Nat) (a6 : Nat) (a7 : Nat) (x8 : Int32) (x13 : Int32) (x18 : Int32) (v23 : Value) (v24 : Value) (v25 : Value) (v26 : Value) (v27 : Value) (v28 : Value) (v29 : Value) (f30 : Nat → Option Nat) (b33 : Nat) (v35 : Value) (f36 : Nat → Int64) (f38 : Nat → Int64) (v39 : Value) (v40 : Value) (f41 : Nat → Int32) (h9 : ¬ x8 < 0) (h10 : ¬ 7 < x8) (h11 : x8 ≤ 7) (h12 : vp_in x8 8) (h14 : ¬ x13 < 0) (h15 : ¬ 7 < x13) (h16 : x13 ≤ 7) (h17 : vp_in x13 8) (h19 : ¬ x18 < 0) (h20 : ¬ 7 < x18) (h21 : x18 ≤ 7) (h22 : vp_in x18 8) (h31 : f30 x13.toNatClampNeg = some a3) (h32 : f30 x18.toNatClampNeg = some a3) (h34 : f30 x8.toNatClampNeg = some b33) (h37 : f36 0 = 0) : xMet l yB_two wyB_two 7 0 0 152 D cT aK aV sz [.ref a0, .int x8, .int 1, .int x13, .int x18] [(a0, .inr (0, [v23, v24, .ref a6, .ref a2, v25, .ref a1, v26, v27])), (a1, .inr (2, [.ref a5, v28, v29])), (a2, .inl (cT 3, 8, .inr (.inr (.inr (.inr f30))))), (a3, .inr (2, [.ref a4, .int 1, v35])), (a4, .inl (cT 2, 4096, .inr (.inl f36))), (a5, .inl (cT 2, 4096, .inr (.inl f38))), (a6, .inr (1, [.ref a7, v39, v40])), (a7, .inl (cT 0, 4096, .inl f41))] (fun A => va_Qv (fun _ : Unit => True) (fun _ t => ∃ (y7 : Int32) (y8 : Int32) (y9 : Int32) (y10 : Int32), xB D xcl cT A [(a0, .inr (0, [v23, v24, .ref a6, .ref a2, v25, .ref b33, v26, v27])), (a1, .inr (2, [.ref a5, .int 1, .int 0])), (a2, .inl (cT 3, 8, .inr (.inr (.inr (.inr (va_up f30 x8.toNatClampNeg (some a1))))))), (a3, .inr (2, [.ref a4, .int 1, v35])), (a4, .inl (cT 2, 4096, .inr (.inl f36))), (a5, .inl (cT 2, 4096, .inr (.inl (vp_updL f38 0 2)))), (a6, .inr (1, [.ref a7, .int 4, .int 0])), (a7, .inl (cT 0, 4096, .inl (upd (upd (upd (upd f41 0 (vp_nar .byte y7)) 1 (vp_nar .byte y8)) 2 (vp_nar .byte y9)) 3 (vp_nar .byte y10))))] t) A) := by
  refine Met.ofW (cc := prog_1_method_10_code) (maxL := 5) (ret := none) (by decide) rfl ?_
  intro p e s m args below meth c s₁ B hml hv
  obtain ⟨rfl, hsz, hZ, hP, hK, hD0⟩ := hv
  have hx := B.exec
  have hb := B.bytes
  have hr := B.returns
  have hts := atoms_spec (ws := wyB_two) B.pre
  have htx := fun w h => hts w (List.mem_cons_of_mem _ h)
  have hown : s.vm.findClass "ValueBench" = some m.cls := findClass_of_methodNamed B.named
  have hlocks := B.notSynchronized
  subst hsz
  have hD := hD0.self (sz := s.heap.size)
  generalize hAe : va_A [(a0, .inr (0, [v23, v24, .ref a6, .ref a2, v25, .ref a1, v26, v27])), (a1, .inr (2, [.ref a5, v28, v29])), (a2, .inl (cT 3, 8, .inr (.inr (.inr (.inr f30))))), (a3, .inr (2, [.ref a4, .int 1, v35])), (a4, .inl (cT 2, 4096, .inr (.inl f36))), (a5, .inl (cT 2, 4096, .inr (.inl f38))), (a6, .inr (1, [.ref a7, v39, v40])), (a7, .inl (cT 0, 4096, .inl f41))] s.heap.size = A at hD hZ ⊢
  have hA : ∀ q : Nat, s.heap.size ≤ q → A q := fun q h => by rw [← hAe]; exact Or.inr h
  have hS : va_S A s.heap s.heap [] := va_S.rf
  have hP : va_P D xcl [(a0, .inr (0, [v23, v24, .ref a6, .ref a2, v25, .ref a1, v26, v27])), (a1, .inr (2, [.ref a5, v28, v29])), (a2, .inl (cT 3, 8, .inr (.inr (.inr (.inr f30))))), (a3, .inr (2, [.ref a4, .int 1, v35])), (a4, .inl (cT 2, 4096, .inr (.inl f36))), (a5, .inl (cT 2, 4096, .inr (.inl f38))), (a6, .inr (1, [.ref a7, v39, v40])), (a7, .inl (cT 0, 4096, .inl f41))] s.heap := hP
  have hl := lv_entry ([.ref a0, .int x8, .int 1, .int x13, .int x18]) (n := 5) (Nat.le_of_ble_eq_true rfl)
  rw [lg_entry_eq]
  generalize (lg_sl ([.ref a0, .int x8, .int 1, .int x13, .int x18]) ++ List.replicate (5 - (lg_sl ([.ref a0, .int x8, .int 1, .int x13, .int x18])).length) Slot.unset).toArray = ls at hl ⊢
  have hl : lv_has ls 5 [(0, .ref a0), (1, .int x8), (2, .int 1), (3, .int x13), (4, .int x18)] := hl
  refine lv_iload_n hx hb dB_two_0 rfl (lv_at hl 1 rfl) ?_
  obtain ⟨hPc, hDc, hFc⟩ := xcut (wc := []) hP hD hS hA [] rfl rfl (by decide)
  refine va_calli (va_runS (As := [.int x8]) (rest := []) ⟨hx, hb, hml, hown, htx⟩ (cB_isRegister_2 l hl9 D cT aK aV s.heap.size x8 h9 h10 h11 h12) ⟨callB_of 1 htx (xw_goodC kw_2_18) rfl rfl rfl (htx _ kw_1_1) (htx _ kw_2_16) ⟨by decide, by decide, by decide +kernel⟩ ⟨Nat.le_of_ble_eq_true rfl, Nat.le_of_ble_eq_true rfl⟩, htx _ kw_2_17⟩ ⟨xPre_blind, (fun U hU hW => ⟨rfl, xPre_of hZ hS hFc hPc hDc hK U hU hW⟩)⟩ rfl rfl hl.1 rfl (lv_room (Nat.le_of_ble_eq_true rfl)) dB_two_1 ⟨Nat.le_of_ble_eq_true rfl, Nat.le_of_ble_eq_true rfl⟩) hS (fun q _ h => hFc q h) hFc (fun r1 u9 t H1 locs ht hvm hr9 hB hz1 hk1 hS => ?_)
  obtain ⟨hP1, hK1, hD1⟩ := hB
  rw [ht] at hP1
  obtain ⟨hP, hD⟩ := xjoin (W := [(a0, .inr (0, [v23, v24, .ref a6, .ref a2, v25, .ref a1, v26, v27])), (a1, .inr (2, [.ref a5, v28, v29])), (a2, .inl (cT 3, 8, .inr (.inr (.inr (.inr f30))))), (a3, .inr (2, [.ref a4, .int 1, v35])), (a4, .inl (cT 2, 4096, .inr (.inl f36))), (a5, .inl (cT 2, 4096, .inr (.inl f38))), (a6, .inr (1, [.ref a7, v39, v40])), (a7, .inl (cT 0, 4096, .inl f41))]) hP hD [] [0, 1, 2, 3, 4, 5, 6, 7] 8 rfl rfl (by decide) (by decide) hk1 hFc hP1 hD1
  generalize H1 = H at hP hS ⊢
  rw [hr9]
  refine W.eq (g2 := F0 m 4 ls [.int 1]) rfl ?_
  refine lv_if_eq (tgt := 35) hx hb dB_two_4 (by decide) (fun h => ((by revert h; decide : False)).elim) (fun _ => ?_)
  refine lv_iload_n hx hb dB_two_7 rfl (lv_at hl 2 rfl) ?_
  refine lv_bipush (v := 9) hx hb dB_two_8 (by decide) ?_
  obtain ⟨hPc, hDc, hFc⟩ := xcut (wc := []) hP hD hS hA [] rfl rfl (by decide)
  refine va_calli (va_runS (As := [.int 1, .int 9]) (rest := []) ⟨hx, hb, hml, hown, htx⟩ (cB_isWithin_31 l hl9 D cT aK aV H.size) ⟨callB_of 2 htx (xw_goodC kw_1_218) rfl rfl rfl (htx _ kw_1_1) (htx _ kw_1_216) ⟨by decide, by decide, by decide +kernel⟩ ⟨Nat.le_of_ble_eq_true rfl, Nat.le_of_ble_eq_true rfl⟩, htx _ kw_1_217⟩ ⟨xPre_blind, (fun U hU hW => ⟨rfl, xPre_of hZ hS hFc hPc hDc hK U hU hW⟩)⟩ rfl rfl hl.1 rfl (lv_room (Nat.le_of_ble_eq_true rfl)) dB_two_10 ⟨Nat.le_of_ble_eq_true rfl, Nat.le_of_ble_eq_true rfl⟩) hS (fun q _ h => hFc q h) hFc (fun r2 u9 t H1 locs ht hvm hr9 hB hz1 hk1 hS => ?_)
  obtain ⟨hP1, hK1, hD1⟩ := hB
  rw [ht] at hP1
  obtain ⟨hP, hD⟩ := xjoin (W := [(a0, .inr (0, [v23, v24, .ref a6, .ref a2, v25, .ref a1, v26, v27])), (a1, .inr (2, [.ref a5, v28, v29])), (a2, .inl (cT 3, 8, .inr (.inr (.inr (.inr f30))))), (a3, .inr (2, [.ref a4, .int 1, v35])), (a4, .inl (cT 2, 4096, .inr (.inl f36))), (a5, .inl (cT 2, 4096, .inr (.inl f38))), (a6, .inr (1, [.ref a7, v39, v40])), (a7, .inl (cT 0, 4096, .inl f41))]) hP hD [] [0, 1, 2, 3, 4, 5, 6, 7] 8 rfl rfl (by decide) (by decide) hk1 hFc hP1 hD1
  generalize H1 = H at hP hS ⊢
  rw [hr9]
  refine W.eq (g2 := F0 m 13 ls [.int 1]) rfl ?_
  refine lv_if_eq (tgt := 35) hx hb dB_two_13 (by decide) (fun h => ((by revert h; decide : False)).elim) (fun _ => ?_)
  refine lv_iload_n hx hb dB_two_16 rfl (lv_at hl 3 rfl) ?_
  obtain ⟨hPc, hDc, hFc⟩ := xcut (wc := []) hP hD hS hA [] rfl rfl (by decide)
  refine va_calli (va_runS (As := [.int x13]) (rest := []) ⟨hx, hb, hml, hown, htx⟩ (cB_isRegister_2 l hl9 D cT aK aV H.size x13 h14 h15 h16 h17) ⟨callB_of 1 htx (xw_goodC kw_2_18) rfl rfl rfl (htx _ kw_1_1) (htx _ kw_2_16) ⟨by decide, by decide, by decide +kernel⟩ ⟨Nat.le_of_ble_eq_true rfl, Nat.le_of_ble_eq_true rfl⟩, htx _ kw_2_17⟩ ⟨xPre_blind, (fun U hU hW => ⟨rfl, xPre_of hZ hS hFc hPc hDc hK U hU hW⟩)⟩ rfl rfl hl.1 rfl (lv_room (Nat.le_of_ble_eq_true rfl)) dB_two_17 ⟨Nat.le_of_ble_eq_true rfl, Nat.le_of_ble_eq_true rfl⟩) hS (fun q _ h => hFc q h) hFc (fun r3 u9 t H1 locs ht hvm hr9 hB hz1 hk1 hS => ?_)
  obtain ⟨hP1, hK1, hD1⟩ := hB
  rw [ht] at hP1
  obtain ⟨hP, hD⟩ := xjoin (W := [(a0, .inr (0, [v23, v24, .ref a6, .ref a2, v25, .ref a1, v26, v27])), (a1, .inr (2, [.ref a5, v28, v29])), (a2, .inl (cT 3, 8, .inr (.inr (.inr (.inr f30))))), (a3, .inr (2, [.ref a4, .int 1, v35])), (a4, .inl (cT 2, 4096, .inr (.inl f36))), (a5, .inl (cT 2, 4096, .inr (.inl f38))), (a6, .inr (1, [.ref a7, v39, v40])), (a7, .inl (cT 0, 4096, .inl f41))]) hP hD [] [0, 1, 2, 3, 4, 5, 6, 7] 8 rfl rfl (by decide) (by decide) hk1 hFc hP1 hD1
  generalize H1 = H at hP hS ⊢
  rw [hr9]
  refine W.eq (g2 := F0 m 20 ls [.int 1]) rfl ?_
  refine lv_if_eq (tgt := 35) hx hb dB_two_20 (by decide) (fun h => ((by revert h; decide : False)).elim) (fun _ => ?_)
  refine lv_iload hx hb dB_two_23 (lv_at hl 4 rfl) ?_
  obtain ⟨hPc, hDc, hFc⟩ := xcut (wc := []) hP hD hS hA [] rfl rfl (by decide)
  refine va_calli (va_runS (As := [.int x18]) (rest := []) ⟨hx, hb, hml, hown, htx⟩ (cB_isRegister_2 l hl9 D cT aK aV H.size x18 h19 h20 h21 h22) ⟨callB_of 1 htx (xw_goodC kw_2_18) rfl rfl rfl (htx _ kw_1_1) (htx _ kw_2_16) ⟨by decide, by decide, by decide +kernel⟩ ⟨Nat.le_of_ble_eq_true rfl, Nat.le_of_ble_eq_true rfl⟩, htx _ kw_2_17⟩ ⟨xPre_blind, (fun U hU hW => ⟨rfl, xPre_of hZ hS hFc hPc hDc hK U hU hW⟩)⟩ rfl rfl hl.1 rfl (lv_room (Nat.le_of_ble_eq_true rfl)) dB_two_25 ⟨Nat.le_of_ble_eq_true rfl, Nat.le_of_ble_eq_true rfl⟩) hS (fun q _ h => hFc q h) hFc (fun r4 u9 t H1 locs ht hvm hr9 hB hz1 hk1 hS => ?_)
  obtain ⟨hP1, hK1, hD1⟩ := hB
  rw [ht] at hP1
  obtain ⟨hP, hD⟩ := xjoin (W := [(a0, .inr (0, [v23, v24, .ref a6, .ref a2, v25, .ref a1, v26, v27])), (a1, .inr (2, [.ref a5, v28, v29])), (a2, .inl (cT 3, 8, .inr (.inr (.inr (.inr f30))))), (a3, .inr (2, [.ref a4, .int 1, v35])), (a4, .inl (cT 2, 4096, .inr (.inl f36))), (a5, .inl (cT 2, 4096, .inr (.inl f38))), (a6, .inr (1, [.ref a7, v39, v40])), (a7, .inl (cT 0, 4096, .inl f41))]) hP hD [] [0, 1, 2, 3, 4, 5, 6, 7] 8 rfl rfl (by decide) (by decide) hk1 hFc hP1 hD1
  generalize H1 = H at hP hS ⊢
  rw [hr9]
  refine W.eq (g2 := F0 m 28 ls [.int 1]) rfl ?_
  refine lv_if_eq (tgt := 35) hx hb dB_two_28 (by decide) (fun h => ((by revert h; decide : False)).elim) (fun _ => ?_)
  refine lv_iconst (v := 1) hx hb dB_two_31 (by decide) ?_
  refine lv_goto (tgt := 36) hx hb dB_two_32 (by decide) ?_
  obtain ⟨hPc, hDc, hFc⟩ := xcut (wc := []) hP hD hS hA [] rfl rfl (by decide)
  refine va_callv (va_runS (As := [.int 1]) (rest := []) ⟨hx, hb, hml, hown, htx⟩ (cB_demand_1 l hl9 D cT aK aV H.size) ⟨callB_of 1 htx (xw_goodC kw_1_221) rfl rfl rfl (htx _ kw_1_1) (htx _ kw_1_219) ⟨by decide, by decide, by decide +kernel⟩ ⟨Nat.le_of_ble_eq_true rfl, Nat.le_of_ble_eq_true rfl⟩, htx _ kw_1_220⟩ ⟨xPre_blind, (fun U hU hW => ⟨rfl, xPre_of hZ hS hFc hPc hDc hK U hU hW⟩)⟩ rfl rfl hl.1 rfl (lv_room (Nat.le_of_ble_eq_true rfl)) dB_two_36 ⟨Nat.le_of_ble_eq_true rfl, Nat.le_of_ble_eq_true rfl⟩) hS (fun q _ h => hFc q h) hFc (fun u9 t H1 locs ht hvm hr9 hB hz1 hk1 hS => ?_)
  obtain ⟨hP1, hK1, hD1⟩ := hB
  rw [ht] at hP1
  obtain ⟨hP, hD⟩ := xjoin (W := [(a0, .inr (0, [v23, v24, .ref a6, .ref a2, v25, .ref a1, v26, v27])), (a1, .inr (2, [.ref a5, v28, v29])), (a2, .inl (cT 3, 8, .inr (.inr (.inr (.inr f30))))), (a3, .inr (2, [.ref a4, .int 1, v35])), (a4, .inl (cT 2, 4096, .inr (.inl f36))), (a5, .inl (cT 2, 4096, .inr (.inl f38))), (a6, .inr (1, [.ref a7, v39, v40])), (a7, .inl (cT 0, 4096, .inl f41))]) hP hD [] [0, 1, 2, 3, 4, 5, 6, 7] 8 rfl rfl (by decide) (by decide) hk1 hFc hP1 hD1
  generalize H1 = H at hP hS ⊢
  refine lv_aload_n hx hb dB_two_39 rfl (lv_at hl 0 rfl) ?_
  refine va_get (D := D) (ci := 0) (v := .ref a1) (C := "ValueBench") (T := TB) (N := 8) hx hb htx inB hown hK hP 0 rfl rfl 5 (by decide) (htx _ kw_1_100) (fun _ h9 => h9) rfl dB_two_40 ?_
  obtain ⟨hPc, hDc, hFc⟩ := xcut (wc := [(a1, .inr (2, [.ref a5, v28, v29]))]) hP hD hS hA [1] rfl rfl (by decide)
  refine va_callv (va_runV (C := "ValueBench$Row") (As := []) (rest := []) ⟨hx, hb, hml, hown, htx⟩ (cR_clear_0 l hl9 D cT aK aV H.size a1 (.ref a5) v28 v29) ⟨callB_of 0 htx (xw_goodC kw_2_22) rfl rfl rfl (htx _ kw_1_4) (htx _ kw_2_19) ⟨by decide, by decide, by decide +kernel⟩ ⟨Nat.le_of_ble_eq_true rfl, Nat.le_of_ble_eq_true rfl⟩, (htx _ kw_2_20), (htx _ kw_2_21)⟩ ⟨xPre_blind, va_recv hK hP (ci := 2) rfl (q0 := 1) rfl, (fun U hU hW => ⟨rfl, xPre_of hZ hS hFc hPc hDc hK U hU hW⟩)⟩ rfl rfl hl.1 rfl (lv_room (Nat.le_of_ble_eq_true rfl)) dB_two_43 ⟨Nat.le_of_ble_eq_true rfl, Nat.le_of_ble_eq_true rfl⟩) hS (fun q _ h => hFc q h) hFc (fun u9 t H1 locs ht hvm hr9 hB hz1 hk1 hS => ?_)
  obtain ⟨hP1, hK1, hD1⟩ := hB
  rw [ht] at hP1
  obtain ⟨hP, hD⟩ := xjoin (W := [(a0, .inr (0, [v23, v24, .ref a6, .ref a2, v25, .ref a1, v26, v27])), (a2, .inl (cT 3, 8, .inr (.inr (.inr (.inr f30))))), (a3, .inr (2, [.ref a4, .int 1, v35])), (a4, .inl (cT 2, 4096, .inr (.inl f36))), (a5, .inl (cT 2, 4096, .inr (.inl f38))), (a6, .inr (1, [.ref a7, v39, v40])), (a7, .inl (cT 0, 4096, .inl f41)), (a1, .inr (2, [.ref a5, .int 0, .int 0]))]) hP hD [1] [0, 2, 3, 4, 5, 6, 7] 7 rfl rfl (by decide) (by decide) hk1 hFc hP1 hD1
  generalize H1 = H at hP hS ⊢
  refine lv_aload_n hx hb dB_two_46 rfl (lv_at hl 0 rfl) ?_
  refine lv_iload_n hx hb dB_two_47 rfl (lv_at hl 2 rfl) ?_
  refine lv_aload_n hx hb dB_two_48 rfl (lv_at hl 0 rfl) ?_
  refine va_get (D := D) (ci := 0) (v := .ref a2) (C := "ValueBench") (T := TB) (N := 8) hx hb htx inB hown hK hP 0 rfl rfl 3 (by decide) (htx _ kw_1_98) (fun _ h9 => h9) rfl dB_two_49 ?_
  refine lv_iload_n hx hb dB_two_52 rfl (lv_at hl 3 rfl) ?_
  refine va_aldq hx hb hK hP 1 3 rfl rfl h17 dB_two_53 ?_
  refine W.eq (g2 := F0 m 54 ls [va_rf (f30 x13.toNatClampNeg), .int 1, .ref a0]) rfl ?_
  rw [h31]
  refine W.eq (g2 := F0 m 54 ls [.ref a3, .int 1, .ref a0]) rfl ?_
  refine lv_aload_n hx hb dB_two_54 rfl (lv_at hl 0 rfl) ?_
  refine va_get (D := D) (ci := 0) (v := .ref a2) (C := "ValueBench") (T := TB) (N := 8) hx hb htx inB hown hK hP 0 rfl rfl 3 (by decide) (htx _ kw_1_98) (fun _ h9 => h9) rfl dB_two_55 ?_
  refine lv_iload hx hb dB_two_58 (lv_at hl 4 rfl) ?_
  refine va_aldq hx hb hK hP 1 3 rfl rfl h22 dB_two_60 ?_
  refine W.eq (g2 := F0 m 61 ls [va_rf (f30 x18.toNatClampNeg), .ref a3, .int 1, .ref a0]) rfl ?_
  rw [h32]
  refine W.eq (g2 := F0 m 61 ls [.ref a3, .ref a3, .int 1, .ref a0]) rfl ?_
  refine lv_aload_n hx hb dB_two_61 rfl (lv_at hl 0 rfl) ?_
  refine va_get (D := D) (ci := 0) (v := .ref a6) (C := "ValueBench") (T := TB) (N := 8) hx hb htx inB hown hK hP 0 rfl rfl 2 (by decide) (htx _ kw_1_97) (fun _ h9 => h9) rfl dB_two_62 ?_
  refine lv_aload_n hx hb dB_two_65 rfl (lv_at hl 0 rfl) ?_
  refine va_get (D := D) (ci := 0) (v := .ref a1) (C := "ValueBench") (T := TB) (N := 8) hx hb htx inB hown hK hP 0 rfl rfl 5 (by decide) (htx _ kw_1_100) (fun _ h9 => h9) rfl dB_two_66 ?_
  obtain ⟨hPc, hDc, hFc⟩ := xcut (wc := [(a3, .inr (2, [.ref a4, .int 1, v35])), (a4, .inl (cT 2, 4096, .inr (.inl f36))), (a1, .inr (2, [.ref a5, .int 0, .int 0])), (a5, .inl (cT 2, 4096, .inr (.inl f38)))]) hP hD hS hA [2, 3, 7, 4] rfl rfl (by decide)
  refine va_calli (va_runS (As := [.int 1, .ref a3, .ref a3, .ref a6, .ref a1]) (rest := [.ref a0]) ⟨hx, hb, hml, hown, htx⟩ (cH_apply_2 l hl9 D cT aK aV H.size a3 a4 a1 a5 a6 v35 f36 f38 (by first | rfl | exact h31 | exact h32 | exact h34 | exact h37)) ⟨callB_of 5 htx (xw_goodC kw_4_146) rfl rfl rfl (htx _ kw_1_27) (htx _ kw_4_144) ⟨by decide, by decide, by decide +kernel⟩ ⟨Nat.le_of_ble_eq_true rfl, Nat.le_of_ble_eq_true rfl⟩, htx _ kw_4_145⟩ ⟨xPre_blind, (fun U hU hW => ⟨rfl, xPre_of hZ hS hFc hPc hDc hK U hU hW⟩)⟩ rfl rfl hl.1 rfl (lv_room (Nat.le_of_ble_eq_true rfl)) dB_two_69 ⟨Nat.le_of_ble_eq_true rfl, Nat.le_of_ble_eq_true rfl⟩) hS (fun q _ h => hFc q h) hFc (fun r5 u9 t H1 locs ht hvm hr9 hB hz1 hk1 hS => ?_)
  obtain ⟨hP1, hK1, hD1⟩ := hB
  rw [ht] at hP1
  obtain ⟨hP, hD⟩ := xjoin (W := [(a0, .inr (0, [v23, v24, .ref a6, .ref a2, v25, .ref a1, v26, v27])), (a2, .inl (cT 3, 8, .inr (.inr (.inr (.inr f30))))), (a6, .inr (1, [.ref a7, v39, v40])), (a7, .inl (cT 0, 4096, .inl f41)), (a3, .inr (2, [.ref a4, .int 1, v35])), (a4, .inl (cT 2, 4096, .inr (.inl f36))), (a1, .inr (2, [.ref a5, .int 1, .int 0])), (a5, .inl (cT 2, 4096, .inr (.inl (vp_updL f38 0 2))))]) hP hD [2, 3, 7, 4] [0, 1, 5, 6] 4 rfl rfl (by decide) (by decide) hk1 hFc hP1 hD1
  generalize H1 = H at hP hS ⊢
  rw [hr9]
  refine W.eq (g2 := F0 m 72 ls [.int 0, .ref a0]) rfl ?_
  obtain ⟨hPc, hDc, hFc⟩ := xcut (wc := []) hP hD hS hA [] rfl rfl (by decide)
  refine va_callv (va_runV (C := "ValueBench") (As := [.int 0]) (rest := []) ⟨hx, hb, hml, hown, htx⟩ (cB_demandDone_0 l hl9 D cT aK aV H.size a0) ⟨callB_of 1 htx (xw_goodC kw_3_222) rfl rfl rfl (htx _ kw_1_1) (htx _ kw_3_219) ⟨by decide, by decide, by decide +kernel⟩ ⟨Nat.le_of_ble_eq_true rfl, Nat.le_of_ble_eq_true rfl⟩, (htx _ kw_3_221), (htx _ kp_B_demandDone)⟩ ⟨xPre_blind, va_recv hK hP (ci := 0) rfl (q0 := 0) rfl, (fun U hU hW => ⟨rfl, xPre_of hZ hS hFc hPc hDc hK U hU hW⟩)⟩ rfl rfl hl.1 rfl (lv_room (Nat.le_of_ble_eq_true rfl)) dB_two_72 ⟨Nat.le_of_ble_eq_true rfl, Nat.le_of_ble_eq_true rfl⟩) hS (fun q _ h => hFc q h) hFc (fun u9 t H1 locs ht hvm hr9 hB hz1 hk1 hS => ?_)
  obtain ⟨hP1, hK1, hD1⟩ := hB
  rw [ht] at hP1
  obtain ⟨hP, hD⟩ := xjoin (W := [(a0, .inr (0, [v23, v24, .ref a6, .ref a2, v25, .ref a1, v26, v27])), (a2, .inl (cT 3, 8, .inr (.inr (.inr (.inr f30))))), (a6, .inr (1, [.ref a7, v39, v40])), (a7, .inl (cT 0, 4096, .inl f41)), (a3, .inr (2, [.ref a4, .int 1, v35])), (a4, .inl (cT 2, 4096, .inr (.inl f36))), (a1, .inr (2, [.ref a5, .int 1, .int 0])), (a5, .inl (cT 2, 4096, .inr (.inl (vp_updL f38 0 2))))]) hP hD [] [0, 1, 2, 3, 4, 5, 6, 7] 8 rfl rfl (by decide) (by decide) hk1 hFc hP1 hD1
  generalize H1 = H at hP hS ⊢
  refine lv_aload_n hx hb dB_two_75 rfl (lv_at hl 0 rfl) ?_
  refine lv_iload_n hx hb dB_two_76 rfl (lv_at hl 1 rfl) ?_
  obtain ⟨hPc, hDc, hFc⟩ := xcut (wc := [(a0, .inr (0, [v23, v24, .ref a6, .ref a2, v25, .ref a1, v26, v27])), (a6, .inr (1, [.ref a7, v39, v40])), (a1, .inr (2, [.ref a5, .int 1, .int 0])), (a5, .inl (cT 2, 4096, .inr (.inl (vp_updL f38 0 2)))), (a7, .inl (cT 0, 4096, .inl f41)), (a2, .inl (cT 3, 8, .inr (.inr (.inr (.inr f30)))))]) hP hD hS hA [0, 2, 6, 7, 3, 1] rfl rfl (by decide)
  refine va_calli (va_runV (C := "ValueBench") (As := [.int x8]) (rest := []) ⟨hx, hb, hml, hown, htx⟩ (cB_keepSpare_1 l hl9 D cT aK aV H.size a0 a6 a1 a5 a7 a2 x8 v23 v24 v25 v26 v27 v39 v40 (vp_updL f38 0 2) f41 f30 b33 h9 h10 h11 h12 (by first | rfl | exact h31 | exact h32 | exact h34 | exact h37) (by first | rfl | exact h31 | exact h32 | exact h34 | exact h37)) ⟨callB_of 1 htx (xw_goodC kw_3_17) rfl rfl rfl (htx _ kw_1_1) (htx _ kw_3_14) ⟨by decide, by decide, by decide +kernel⟩ ⟨Nat.le_of_ble_eq_true rfl, Nat.le_of_ble_eq_true rfl⟩, (htx _ kw_3_16), (htx _ kp_B_keepSpare)⟩ ⟨xPre_blind, va_recv hK hP (ci := 0) rfl (q0 := 0) rfl, (fun U hU hW => ⟨rfl, xPre_of hZ hS hFc hPc hDc hK U hU hW⟩)⟩ rfl rfl hl.1 rfl (lv_room (Nat.le_of_ble_eq_true rfl)) dB_two_77 ⟨Nat.le_of_ble_eq_true rfl, Nat.le_of_ble_eq_true rfl⟩) hS (fun q _ h => hFc q h) hFc (fun r6 u9 t H1 locs ht hvm hr9 hB hz1 hk1 hS => ?_)
  obtain ⟨y7, y8, y9, y10, hP1, hK1, hD1⟩ := hB
  rw [ht] at hP1
  obtain ⟨hP, hD⟩ := xjoin (W := [(a3, .inr (2, [.ref a4, .int 1, v35])), (a4, .inl (cT 2, 4096, .inr (.inl f36))), (a0, .inr (0, [v23, v24, .ref a6, .ref a2, v25, .ref b33, v26, v27])), (a6, .inr (1, [.ref a7, .int 4, .int 0])), (a1, .inr (2, [.ref a5, .int 1, .int 0])), (a5, .inl (cT 2, 4096, .inr (.inl (vp_updL f38 0 2)))), (a7, .inl (cT 0, 4096, .inl (upd (upd (upd (upd f41 0 (vp_nar .byte y7)) 1 (vp_nar .byte y8)) 2 (vp_nar .byte y9)) 3 (vp_nar .byte y10)))), (a2, .inl (cT 3, 8, .inr (.inr (.inr (.inr (va_up f30 x8.toNatClampNeg (some a1)))))))]) hP hD [0, 2, 6, 7, 3, 1] [4, 5] 2 rfl rfl (by decide) (by decide) hk1 hFc hP1 hD1
  generalize H1 = H at hP hS ⊢
  rw [hr9]
  refine W.eq (g2 := F0 m 80 ls [.int 4]) rfl ?_
  refine lv_pop hx hb dB_two_80 rfl ?_
  obtain ⟨hP9, hD9⟩ := xsub (wc := [(a0, .inr (0, [v23, v24, .ref a6, .ref a2, v25, .ref b33, v26, v27])), (a1, .inr (2, [.ref a5, .int 1, .int 0])), (a2, .inl (cT 3, 8, .inr (.inr (.inr (.inr (va_up f30 x8.toNatClampNeg (some a1))))))), (a3, .inr (2, [.ref a4, .int 1, v35])), (a4, .inl (cT 2, 4096, .inr (.inl f36))), (a5, .inl (cT 2, 4096, .inr (.inl (vp_updL f38 0 2)))), (a6, .inr (1, [.ref a7, .int 4, .int 0])), (a7, .inl (cT 0, 4096, .inl (upd (upd (upd (upd f41 0 (vp_nar .byte y7)) 1 (vp_nar .byte y8)) 2 (vp_nar .byte y9)) 3 (vp_nar .byte y10))))]) hP hD [2, 4, 7, 0, 1, 5, 3, 6] rfl rfl (by decide)
  refine W.widen (k := 0) (n := 0) (Nat.le_of_ble_eq_true rfl) (Nat.le_of_ble_eq_true rfl) ?_
  exact W.vret hx hb hr (fun t ht hW => ⟨⟨(), rfl, trivial, y7, y8, y9, y10, by rw [ht]; exact hP9, va_K.moved hW.alike hK, hD9⟩, hS.F ht⟩) hS.2.2 dB_two_81
set_option maxHeartbeats 400000000 in
set_option maxRecDepth 100000 in
theorem cL_two_10 (l : Launch) (hl9 : l.stackTraces = false) (D : va_G) (cT : Nat → ClassId) (aK aV : Nat → Nat) (sz : Nat) (a0 : Nat) (a1 : Nat) (a2 : Nat) (a3 : Nat) (a4 : Nat) (a5 : Nat) (a6 : Nat) (a7 : Nat) (x8 : Int32) (x13 : Int32) (x18 : Int32) (v23 : Value) (v24 : Value) (v25 : Value) (v26 : Value) (v27 : Value) (v28 : Value) (v29 : Value) (f30 : Nat → Option Nat) (b33 : Nat) (v35 : Value) (f36 : Nat → Int64) (f38 : Nat → Int64) (v39 : Value) (v40 : Value) (f41 : Nat → Int32) (h9 : ¬ x8 < 0) (h10 : ¬ 7 < x8) (h11 : x8 ≤ 7) (h12 : vp_in x8 8) (h14 : ¬ x13 < 0) (h15 : ¬ 7 < x13) (h16 : x13 ≤ 7) (h17 : vp_in x13 8) (h19 : ¬ x18 < 0) (h20 : ¬ 7 < x18) (h21 : x18 ≤ 7) (h22 : vp_in x18 8) (h31 : f30 x13.toNatClampNeg = some a3) (h32 : f30 x18.toNatClampNeg = some a3) (h34 : f30 x8.toNatClampNeg = some b33) (h37 : f36 0 = 0) : xMet l yL_two wyL_two 8 0 0 176 D cT aK aV sz [.ref a0, .int x8, .int 1, .int x13, .int x18] [(a0, .inr (0, [v23, v24, .ref a6, .ref a2, v25, .ref a1, v26, v27])), (a1, .inr (2, [.ref a5, v28, v29])), (a2, .inl (cT 3, 8, .inr (.inr (.inr (.inr f30))))), (a3, .inr (2, [.ref a4, .int 1, v35])), (a4, .inl (cT 2, 4096, .inr (.inl f36))), (a5, .inl (cT 2, 4096, .inr (.inl f38))), (a6, .inr (1, [.ref a7, v39, v40])), (a7, .inl (cT 0, 4096, .inl f41))] (fun A => va_Qi (fun (r : Int32) (_ : Unit) => r = 0) (fun _ t => ∃ (y1 : Int32) (y2 : Int32) (y3 : Int32) (y4 : Int32), xB D xcl cT A [(a0, .inr (0, [v23, v24, .ref a6, .ref a2, v25, .ref b33, v26, v27])), (a1, .inr (2, [.ref a5, .int 1, .int 0])), (a2, .inl (cT 3, 8, .inr (.inr (.inr (.inr (va_up f30 x8.toNatClampNeg (some a1))))))), (a3, .inr (2, [.ref a4, .int 1, v35])), (a4, .inl (cT 2, 4096, .inr (.inl f36))), (a5, .inl (cT 2, 4096, .inr (.inl (vp_updL f38 0 2)))), (a6, .inr (1, [.ref a7, .int 4, .int 0])), (a7, .inl (cT 0, 4096, .inl (upd (upd (upd (upd f41 0 (vp_nar .byte y1)) 1 (vp_nar .byte y2)) 2 (vp_nar .byte y3)) 3 (vp_nar .byte y4))))] t) A) := by
  refine va_MetW (cc := method_11_code) (maxL := 6) (ret := (some .int)) (hh := [(0, 9, 12, 19), (0, 9, 16, 33), (0, 9, 20, 13)]) (by decide) rfl ?_
  intro p e s m args below meth c s₁ B hml hv
  obtain ⟨rfl, hsz, hZ, hP, hK, hD0⟩ := hv
  have hx := B.exec
  have hb := B.bytes
  have hr := B.returns
  have hts := atoms_spec (ws := wyL_two) B.pre
  have htx := fun w h => hts w (List.mem_cons_of_mem _ h)
  have hown : s.vm.findClass "ValueBenchLaw" = some m.cls := findClass_of_methodNamed B.named
  have hlocks := B.notSynchronized
  subst hsz
  have hD := hD0.self (sz := s.heap.size)
  generalize hAe : va_A [(a0, .inr (0, [v23, v24, .ref a6, .ref a2, v25, .ref a1, v26, v27])), (a1, .inr (2, [.ref a5, v28, v29])), (a2, .inl (cT 3, 8, .inr (.inr (.inr (.inr f30))))), (a3, .inr (2, [.ref a4, .int 1, v35])), (a4, .inl (cT 2, 4096, .inr (.inl f36))), (a5, .inl (cT 2, 4096, .inr (.inl f38))), (a6, .inr (1, [.ref a7, v39, v40])), (a7, .inl (cT 0, 4096, .inl f41))] s.heap.size = A at hD hZ ⊢
  have hA : ∀ q : Nat, s.heap.size ≤ q → A q := fun q h => by rw [← hAe]; exact Or.inr h
  have hS : va_S A s.heap s.heap [] := va_S.rf
  have hP : va_P D xcl [(a0, .inr (0, [v23, v24, .ref a6, .ref a2, v25, .ref a1, v26, v27])), (a1, .inr (2, [.ref a5, v28, v29])), (a2, .inl (cT 3, 8, .inr (.inr (.inr (.inr f30))))), (a3, .inr (2, [.ref a4, .int 1, v35])), (a4, .inl (cT 2, 4096, .inr (.inl f36))), (a5, .inl (cT 2, 4096, .inr (.inl f38))), (a6, .inr (1, [.ref a7, v39, v40])), (a7, .inl (cT 0, 4096, .inl f41))] s.heap := hP
  have hl := lv_entry ([.ref a0, .int x8, .int 1, .int x13, .int x18]) (n := 6) (Nat.le_of_ble_eq_true rfl)
  rw [lg_entry_eq]
  generalize (lg_sl ([.ref a0, .int x8, .int 1, .int x13, .int x18]) ++ List.replicate (6 - (lg_sl ([.ref a0, .int x8, .int 1, .int x13, .int x18])).length) Slot.unset).toArray = ls at hl ⊢
  have hl : lv_has ls 6 [(0, .ref a0), (1, .int x8), (2, .int 1), (3, .int x13), (4, .int x18)] := hl
  have htab := vx_table (x := yL_two) B (hts _ List.mem_cons_self)
  refine lv_aload_n hx hb dL_two_0 rfl (lv_at hl 0 rfl) ?_
  refine lv_iload_n hx hb dL_two_1 rfl (lv_at hl 1 rfl) ?_
  refine lv_iload_n hx hb dL_two_2 rfl (lv_at hl 2 rfl) ?_
  refine lv_iload_n hx hb dL_two_3 rfl (lv_at hl 3 rfl) ?_
  refine lv_iload hx hb dL_two_4 (lv_at hl 4 rfl) ?_
  obtain ⟨hPc, hDc, hFc⟩ := xcut (wc := [(a0, .inr (0, [v23, v24, .ref a6, .ref a2, v25, .ref a1, v26, v27])), (a1, .inr (2, [.ref a5, v28, v29])), (a2, .inl (cT 3, 8, .inr (.inr (.inr (.inr f30))))), (a3, .inr (2, [.ref a4, .int 1, v35])), (a4, .inl (cT 2, 4096, .inr (.inl f36))), (a5, .inl (cT 2, 4096, .inr (.inl f38))), (a6, .inr (1, [.ref a7, v39, v40])), (a7, .inl (cT 0, 4096, .inl f41))]) hP hD hS hA [0, 1, 2, 3, 4, 5, 6, 7] rfl rfl (by decide)
  refine va_callv (va_runV (C := "ValueBench") (As := [.int x8, .int 1, .int x13, .int x18]) (rest := []) ⟨hx, hb, hml, hown, htx⟩ (cB_two_10 l hl9 D cT aK aV s.heap.size a0 a1 a2 a3 a4 a5 a6 a7 x8 x13 x18 v23 v24 v25 v26 v27 v28 v29 f30 b33 v35 f36 f38 v39 v40 f41 h9 h10 h11 h12 h14 h15 h16 h17 h19 h20 h21 h22 (by first | rfl | exact h31 | exact h32 | exact h34 | exact h37) (by first | rfl | exact h31 | exact h32 | exact h34 | exact h37) (by first | rfl | exact h31 | exact h32 | exact h34 | exact h37) (by first | rfl | exact h31 | exact h32 | exact h34 | exact h37)) ⟨callB_of 4 htx (xw_goodC kw_4_143) rfl rfl rfl (htx _ kw_1_1) (htx _ kw_4_140) ⟨by decide, by decide, by decide +kernel⟩ ⟨Nat.le_of_ble_eq_true rfl, Nat.le_of_ble_eq_true rfl⟩, (htx _ kw_4_141), (htx _ kw_4_142)⟩ ⟨xPre_blind, va_recv hK hP (ci := 0) rfl (q0 := 0) rfl, (fun U hU hW => ⟨rfl, xPre_of hZ hS hFc hPc hDc hK U hU hW⟩)⟩ rfl rfl hl.1 rfl (lv_room (Nat.le_of_ble_eq_true rfl)) dL_two_6 ⟨Nat.le_of_ble_eq_true rfl, Nat.le_of_ble_eq_true rfl⟩) hS (fun q _ h => hFc q h) hFc (fun u9 t H1 locs ht hvm hr9 hB hz1 hk1 hS => ?_)
  obtain ⟨y1, y2, y3, y4, hP1, hK1, hD1⟩ := hB
  rw [ht] at hP1
  obtain ⟨hP, hD⟩ := xjoin (W := [(a0, .inr (0, [v23, v24, .ref a6, .ref a2, v25, .ref b33, v26, v27])), (a1, .inr (2, [.ref a5, .int 1, .int 0])), (a2, .inl (cT 3, 8, .inr (.inr (.inr (.inr (va_up f30 x8.toNatClampNeg (some a1))))))), (a3, .inr (2, [.ref a4, .int 1, v35])), (a4, .inl (cT 2, 4096, .inr (.inl f36))), (a5, .inl (cT 2, 4096, .inr (.inl (vp_updL f38 0 2)))), (a6, .inr (1, [.ref a7, .int 4, .int 0])), (a7, .inl (cT 0, 4096, .inl (upd (upd (upd (upd f41 0 (vp_nar .byte y1)) 1 (vp_nar .byte y2)) 2 (vp_nar .byte y3)) 3 (vp_nar .byte y4))))]) hP hD [0, 1, 2, 3, 4, 5, 6, 7] [] 0 rfl rfl (by decide) (by decide) hk1 hFc hP1 hD1
  generalize H1 = H at hP hS ⊢
  refine lv_goto (tgt := 24) hx hb dL_two_9 (by decide) ?_
  refine lv_iconst (v := 0) hx hb dL_two_24 (by decide) ?_
  obtain ⟨hP9, hD9⟩ := xsub (wc := [(a0, .inr (0, [v23, v24, .ref a6, .ref a2, v25, .ref b33, v26, v27])), (a1, .inr (2, [.ref a5, .int 1, .int 0])), (a2, .inl (cT 3, 8, .inr (.inr (.inr (.inr (va_up f30 x8.toNatClampNeg (some a1))))))), (a3, .inr (2, [.ref a4, .int 1, v35])), (a4, .inl (cT 2, 4096, .inr (.inl f36))), (a5, .inl (cT 2, 4096, .inr (.inl (vp_updL f38 0 2)))), (a6, .inr (1, [.ref a7, .int 4, .int 0])), (a7, .inl (cT 0, 4096, .inl (upd (upd (upd (upd f41 0 (vp_nar .byte y1)) 1 (vp_nar .byte y2)) 2 (vp_nar .byte y3)) 3 (vp_nar .byte y4))))]) hP hD [0, 1, 2, 3, 4, 5, 6, 7] rfl rfl (by decide)
  refine W.widen (k := 0) (n := 0) (Nat.le_of_ble_eq_true rfl) (Nat.le_of_ble_eq_true rfl) ?_
  exact W.iret (v := 0) hx hb hr (fun t ht hW => ⟨⟨0, (), rfl, rfl, y1, y2, y3, y4, by rw [ht]; exact hP9, va_K.moved hW.alike hK, hD9⟩, hS.F ht⟩) hS.2.2 dL_two_25
set_option maxHeartbeats 400000000 in
set_option maxRecDepth 100000 in
theorem cM_fresh_8 (l : Launch) (hl9 : l.stackTraces = false) (D : va_G) (cT : Nat → ClassId) (aK aV : Nat → Nat) (sz : Nat) (a0 : Nat) (a1 : Nat) (v2 : Value) (v3 : Value) (v4 : Value) (v5 : Value) (v6 : Value) (v7 : Value) (v8 : Value) (v9 : Value) (v10 : Value) (v11 : Value) (v12 : Value) (v13 : Value) (v14 : Value) (v15 : Value) (v16 : Value) (v17 : Value) (v18 : Value) (v19 : Value) (v20 : Value) (v21 : Value) (v22 : Value) (v23 : Value) (v24 : Value) (v25 : Value) (v26 : Value) (v27 : Value) (v28 : Value) (v29 : Value) (v30 : Value) (v31 : Value) (f32 : Nat → Option Nat) (h33 : f32 1 = none) : xMet l yM_fresh wyM_fresh 2 1 6 32 D cT aK aV sz [.ref a0, .int 0] [(a0, .inr (5, [v2, .ref a1, .int 1, v3, v4, v5, v6, v7, v8, v9, v10, v11, v12, v13, v14, v15, v16, v17, v18, v19, v20, v21, v22, v23, v24, v25, v26, v27, v28, v29, v30, v31])), (a1, .inl (cT 4, 1024, .inr (.inr (.inr (.inr f32)))))] (fun A => va_Qr (fun _ : Unit => True) (fun _ q1 t => xB D xcl cT A [(a0, .inr (5, [v2, .ref a1, .int 2, v3, v4, v5, v6, v7, v8, v9, v10, v11, v12, v13, v14, v15, v16, v17, v18, v19, v20, v21, v22, v23, v24, v25, v26, v27, v28, v29, v30, v31])), (a1, .inl (cT 4, 1024, .inr (.inr (.inr (.inr (va_up f32 1 (some q1))))))), (q1, .inr (6, [.int 0, .long 0, .int 0, .int 0, .int 0, .int 1]))] t) A) := by
  refine Met.ofW (cc := prog_13_method_6_code) (maxL := 4) (ret := (some (.object "ValueBenchModel$V"))) (by decide) rfl ?_
  intro p e s m args below meth c s₁ B hml hv
  obtain ⟨rfl, hsz, hZ, hP, hK, hD0⟩ := hv
  have hx := B.exec
  have hb := B.bytes
  have hr := B.returns
  have hts := atoms_spec (ws := wyM_fresh) B.pre
  have htx := fun w h => hts w (List.mem_cons_of_mem _ h)
  have hown : s.vm.findClass "ValueBenchModel" = some m.cls := findClass_of_methodNamed B.named
  have hlocks := B.notSynchronized
  subst hsz
  have hD := hD0.self (sz := s.heap.size)
  generalize hAe : va_A [(a0, .inr (5, [v2, .ref a1, .int 1, v3, v4, v5, v6, v7, v8, v9, v10, v11, v12, v13, v14, v15, v16, v17, v18, v19, v20, v21, v22, v23, v24, v25, v26, v27, v28, v29, v30, v31])), (a1, .inl (cT 4, 1024, .inr (.inr (.inr (.inr f32)))))] s.heap.size = A at hD hZ ⊢
  have hA : ∀ q : Nat, s.heap.size ≤ q → A q := fun q h => by rw [← hAe]; exact Or.inr h
  have hS : va_S A s.heap s.heap [] := va_S.rf
  have hP : va_P D xcl [(a0, .inr (5, [v2, .ref a1, .int 1, v3, v4, v5, v6, v7, v8, v9, v10, v11, v12, v13, v14, v15, v16, v17, v18, v19, v20, v21, v22, v23, v24, v25, v26, v27, v28, v29, v30, v31])), (a1, .inl (cT 4, 1024, .inr (.inr (.inr (.inr f32)))))] s.heap := hP
  have hl := lv_entry ([.ref a0, .int 0]) (n := 4) (Nat.le_of_ble_eq_true rfl)
  rw [lg_entry_eq]
  generalize (lg_sl ([.ref a0, .int 0]) ++ List.replicate (4 - (lg_sl ([.ref a0, .int 0])).length) Slot.unset).toArray = ls at hl ⊢
  have hl : lv_has ls 4 [(0, .ref a0), (1, .int 0)] := hl
  refine lv_aload_n hx hb dM_fresh_0 rfl (lv_at hl 0 rfl) ?_
  refine va_get (D := D) (ci := 5) (v := .int 1) (C := "ValueBenchModel") (T := TM) (N := 32) hx hb htx inM hown hK hP 0 rfl rfl 2 (by decide) (htx _ kw_5_89) (fun _ h9 => h9) rfl dM_fresh_1 ?_
  refine lv_aload_n hx hb dM_fresh_4 rfl (lv_at hl 0 rfl) ?_
  refine va_get (D := D) (ci := 5) (v := .ref a1) (C := "ValueBenchModel") (T := TM) (N := 32) hx hb htx inM hown hK hP 0 rfl rfl 1 (by decide) (htx _ kw_5_88) (fun _ h9 => h9) rfl dM_fresh_5 ?_
  refine va_alen (v := 1024) hx hb hK hP 1 4 rfl rfl rfl dM_fresh_8 ?_
  refine lv_icmp_ne (tgt := 52) hx hb dM_fresh_9 (by decide) (fun _ => ?_) (fun h => ((by revert h; decide : False)).elim)
  refine lv_aload_n hx hb dM_fresh_52 rfl (lv_at hl 0 rfl) ?_
  refine va_get (D := D) (ci := 5) (v := .ref a1) (C := "ValueBenchModel") (T := TM) (N := 32) hx hb htx inM hown hK hP 0 rfl rfl 1 (by decide) (htx _ kw_5_88) (fun _ h9 => h9) rfl dM_fresh_53 ?_
  refine lv_aload_n hx hb dM_fresh_56 rfl (lv_at hl 0 rfl) ?_
  refine va_get (D := D) (ci := 5) (v := .int 1) (C := "ValueBenchModel") (T := TM) (N := 32) hx hb htx inM hown hK hP 0 rfl rfl 2 (by decide) (htx _ kw_5_89) (fun _ h9 => h9) rfl dM_fresh_57 ?_
  refine va_aldq hx hb hK hP 1 4 rfl rfl (show ¬ ((1 : Int32) < 0 ∨ 1024 ≤ (1 : Int32).toNatClampNeg) by decide) dM_fresh_60 ?_
  refine W.eq (g2 := F0 m 61 ls [va_rf (f32 1)]) rfl ?_
  rw [h33]
  refine W.eq (g2 := F0 m 61 ls [.null]) rfl ?_
  refine lv_ifnonnullN hx hb dM_fresh_61 ?_
  refine lv_aload_n hx hb dM_fresh_64 rfl (lv_at hl 0 rfl) ?_
  refine va_get (D := D) (ci := 5) (v := .ref a1) (C := "ValueBenchModel") (T := TM) (N := 32) hx hb htx inM hown hK hP 0 rfl rfl 1 (by decide) (htx _ kw_5_88) (fun _ h9 => h9) rfl dM_fresh_65 ?_
  refine lv_aload_n hx hb dM_fresh_68 rfl (lv_at hl 0 rfl) ?_
  refine va_get (D := D) (ci := 5) (v := .int 1) (C := "ValueBenchModel") (T := TM) (N := 32) hx hb htx inM hown hK hP 0 rfl rfl 2 (by decide) (htx _ kw_5_89) (fun _ h9 => h9) rfl dM_fresh_69 ?_
  refine va_new (ci := 6) (fs := [.int 0, .long 0, .int 0, .int 0, .int 0, .int 0]) (C := "ValueBenchModel$V") (T := TV) (N := 6) hx hb htx inV tyV tyV_ok hown (htx _ kw_5_80) (htx _ kw_6_17) (htx _ kw_1_19) hK hP hD hS hA rfl (by decide +kernel) (Nat.le_of_ble_eq_true rfl) (Nat.le_of_ble_eq_true rfl) dM_fresh_72 (fun q1 H hP hD hS => ?_)
  obtain ⟨hP, hD⟩ : xPD D xcl A [(a0, .inr (5, [v2, .ref a1, .int 1, v3, v4, v5, v6, v7, v8, v9, v10, v11, v12, v13, v14, v15, v16, v17, v18, v19, v20, v21, v22, v23, v24, v25, v26, v27, v28, v29, v30, v31])), (a1, .inl (cT 4, 1024, .inr (.inr (.inr (.inr f32))))), (q1, .inr (6, [.int 0, .long 0, .int 0, .int 0, .int 0, .int 0]))] H := ⟨hP, hD⟩
  refine lv_dup hx hb dM_fresh_75 rfl ?_
  obtain ⟨hPc, hDc, hFc⟩ := xcut (wc := []) hP hD hS hA [] rfl rfl (by decide)
  refine va_callv (va_runIN (As := []) (rest := [.ref q1, .int 1, .ref a1]) ⟨hx, hb, hml, hown, htx⟩ (cV_init_0 l hl9 D cT aK aV H.size q1) ⟨va_cnB (host := "ValueBenchModel") 0 htx (xw_goodC kw_6_20) rfl rfl rfl (hZ.2.1 ("ValueBenchModel", 92, yV_init) (List.mem_of_getElem? (i := 3) rfl)) (htx _ kw_1_19) ⟨by decide, by decide, by decide +kernel⟩ ⟨Nat.le_of_ble_eq_true rfl, Nat.le_of_ble_eq_true rfl⟩, rfl, (htx _ kw_6_19)⟩ ⟨xPre_blind, (fun U hU hW => ⟨rfl, xPre_of hZ hS hFc hPc hDc hK U hU hW⟩)⟩ rfl rfl hl.1 rfl (lv_room (Nat.le_of_ble_eq_true rfl)) dM_fresh_76 ⟨Nat.le_of_ble_eq_true rfl, Nat.le_of_ble_eq_true rfl⟩) hS (fun q _ h => hFc q h) hFc (fun u9 t H1 locs ht hvm hr9 hB hz1 hk1 hS => ?_)
  obtain ⟨hP1, hK1, hD1⟩ := hB
  rw [ht] at hP1
  obtain ⟨hP, hD⟩ := xjoin (W := [(a0, .inr (5, [v2, .ref a1, .int 1, v3, v4, v5, v6, v7, v8, v9, v10, v11, v12, v13, v14, v15, v16, v17, v18, v19, v20, v21, v22, v23, v24, v25, v26, v27, v28, v29, v30, v31])), (a1, .inl (cT 4, 1024, .inr (.inr (.inr (.inr f32))))), (q1, .inr (6, [.int 0, .long 0, .int 0, .int 0, .int 0, .int 0]))]) hP hD [] [0, 1, 2] 3 rfl rfl (by decide) (by decide) hk1 hFc hP1 hD1
  generalize H1 = H at hP hS ⊢
  refine va_astq (r := ("ValueBenchModel$V", TV, 6)) hx hb hK hP hD hS 1 4 2 6 rfl rfl rfl rfl (show ¬ ((1 : Int32) < 0 ∨ 1024 ≤ (1 : Int32).toNatClampNeg) by decide) dM_fresh_79 (fun H locs hP hD hS => ?_)
  obtain ⟨hP, hD⟩ : xPD D xcl A [(a0, .inr (5, [v2, .ref a1, .int 1, v3, v4, v5, v6, v7, v8, v9, v10, v11, v12, v13, v14, v15, v16, v17, v18, v19, v20, v21, v22, v23, v24, v25, v26, v27, v28, v29, v30, v31])), (a1, .inl (cT 4, 1024, .inr (.inr (.inr (.inr (va_up f32 1 (some q1))))))), (q1, .inr (6, [.int 0, .long 0, .int 0, .int 0, .int 0, .int 0]))] H := ⟨hP, hD⟩
  refine lv_aload_n hx hb dM_fresh_80 rfl (lv_at hl 0 rfl) ?_
  refine va_get (D := D) (ci := 5) (v := .ref a1) (C := "ValueBenchModel") (T := TM) (N := 32) hx hb htx inM hown hK hP 0 rfl rfl 1 (by decide) (htx _ kw_5_88) (fun _ h9 => h9) rfl dM_fresh_81 ?_
  refine lv_aload_n hx hb dM_fresh_84 rfl (lv_at hl 0 rfl) ?_
  refine va_get (D := D) (ci := 5) (v := .int 1) (C := "ValueBenchModel") (T := TM) (N := 32) hx hb htx inM hown hK hP 0 rfl rfl 2 (by decide) (htx _ kw_5_89) (fun _ h9 => h9) rfl dM_fresh_85 ?_
  refine va_aldq hx hb hK hP 1 4 rfl rfl (show ¬ ((1 : Int32) < 0 ∨ 1024 ≤ (1 : Int32).toNatClampNeg) by decide) dM_fresh_88 ?_
  refine W.eq (g2 := F0 m 89 ls [.ref q1]) rfl ?_
  refine lv_astore_n (lv' := [(2, .ref q1), (0, .ref a0), (1, .int 0)]) hx hb dM_fresh_89 rfl hl (by decide) rfl (fun ls hl => ?_)
  refine lv_aload_n hx hb dM_fresh_90 rfl (lv_at hl 1 rfl) ?_
  refine lv_dup hx hb dM_fresh_91 rfl ?_
  refine va_get (D := D) (ci := 5) (v := .int 1) (C := "ValueBenchModel") (T := TM) (N := 32) hx hb htx inM hown hK hP 0 rfl rfl 2 (by decide) (htx _ kw_5_89) (fun _ h9 => h9) rfl dM_fresh_92 ?_
  refine lv_iconst (v := 1) hx hb dM_fresh_95 (by decide) ?_
  refine lv_iadd hx hb dM_fresh_96 ?_
  refine W.eq (g2 := F0 m 97 ls [.int 2, .ref a0]) rfl ?_
  refine va_put (D := D) (ci := 5) (v := .int 2) (ty := .int) (C := "ValueBenchModel") (T := TM) (N := 32) hx hb htx inM tyM tyM_ok nmM hown hK hP hD hS 0 rfl rfl 2 (by decide) (htx _ kw_5_89) (fun _ h9 => h9) rfl (by decide +kernel) rfl rfl (Nat.le_of_ble_eq_true rfl) dM_fresh_97 (fun H locs hP hD hS => ?_)
  obtain ⟨hP, hD⟩ : xPD D xcl A [(a0, .inr (5, [v2, .ref a1, .int 2, v3, v4, v5, v6, v7, v8, v9, v10, v11, v12, v13, v14, v15, v16, v17, v18, v19, v20, v21, v22, v23, v24, v25, v26, v27, v28, v29, v30, v31])), (a1, .inl (cT 4, 1024, .inr (.inr (.inr (.inr (va_up f32 1 (some q1))))))), (q1, .inr (6, [.int 0, .long 0, .int 0, .int 0, .int 0, .int 0]))] H := ⟨hP, hD⟩
  refine lv_aload_n hx hb dM_fresh_100 rfl (lv_at hl 0 rfl) ?_
  refine lv_iload_n hx hb dM_fresh_101 rfl (lv_at hl 2 rfl) ?_
  refine va_putN (D := D) (ci := 6) (v := .int 0) (ty := .int) (C := "ValueBenchModel$V") (T := TV) (N := 6) hx hb htx inV tyV tyV_ok nmV hown hK hP hD hS 2 rfl rfl 0 (by decide) ((hZ.1 (93, "kind", "I") (List.mem_of_getElem? (i := 0) rfl)).use rfl) (fun _ h9 => h9) rfl (by decide +kernel) rfl rfl (Nat.le_of_ble_eq_true rfl) dM_fresh_102 (fun H locs hP hD hS => ?_)
  obtain ⟨hP, hD⟩ : xPD D xcl A [(a0, .inr (5, [v2, .ref a1, .int 2, v3, v4, v5, v6, v7, v8, v9, v10, v11, v12, v13, v14, v15, v16, v17, v18, v19, v20, v21, v22, v23, v24, v25, v26, v27, v28, v29, v30, v31])), (a1, .inl (cT 4, 1024, .inr (.inr (.inr (.inr (va_up f32 1 (some q1))))))), (q1, .inr (6, [.int 0, .long 0, .int 0, .int 0, .int 0, .int 0]))] H := ⟨hP, hD⟩
  refine lv_aload_n hx hb dM_fresh_105 rfl (lv_at hl 0 rfl) ?_
  refine lv_lconst (v := 0) hx hb dM_fresh_106 (by decide) ?_
  refine va_putN (D := D) (ci := 6) (v := .long 0) (ty := .long) (C := "ValueBenchModel$V") (T := TV) (N := 6) hx hb htx inV tyV tyV_ok nmV hown hK hP hD hS 2 rfl rfl 1 (by decide) ((hZ.1 (96, "n", "J") (List.mem_of_getElem? (i := 1) rfl)).use rfl) (fun _ h9 => h9) rfl (by decide +kernel) rfl rfl (Nat.le_of_ble_eq_true rfl) dM_fresh_107 (fun H locs hP hD hS => ?_)
  obtain ⟨hP, hD⟩ : xPD D xcl A [(a0, .inr (5, [v2, .ref a1, .int 2, v3, v4, v5, v6, v7, v8, v9, v10, v11, v12, v13, v14, v15, v16, v17, v18, v19, v20, v21, v22, v23, v24, v25, v26, v27, v28, v29, v30, v31])), (a1, .inl (cT 4, 1024, .inr (.inr (.inr (.inr (va_up f32 1 (some q1))))))), (q1, .inr (6, [.int 0, .long 0, .int 0, .int 0, .int 0, .int 0]))] H := ⟨hP, hD⟩
  refine lv_aload_n hx hb dM_fresh_110 rfl (lv_at hl 0 rfl) ?_
  refine lv_iconst (v := 0) hx hb dM_fresh_111 (by decide) ?_
  refine va_putN (D := D) (ci := 6) (v := .int 0) (ty := .int) (C := "ValueBenchModel$V") (T := TV) (N := 6) hx hb htx inV tyV tyV_ok nmV hown hK hP hD hS 2 rfl rfl 2 (by decide) ((hZ.1 (100, "off", "I") (List.mem_of_getElem? (i := 2) rfl)).use rfl) (fun _ h9 => h9) rfl (by decide +kernel) rfl rfl (Nat.le_of_ble_eq_true rfl) dM_fresh_112 (fun H locs hP hD hS => ?_)
  obtain ⟨hP, hD⟩ : xPD D xcl A [(a0, .inr (5, [v2, .ref a1, .int 2, v3, v4, v5, v6, v7, v8, v9, v10, v11, v12, v13, v14, v15, v16, v17, v18, v19, v20, v21, v22, v23, v24, v25, v26, v27, v28, v29, v30, v31])), (a1, .inl (cT 4, 1024, .inr (.inr (.inr (.inr (va_up f32 1 (some q1))))))), (q1, .inr (6, [.int 0, .long 0, .int 0, .int 0, .int 0, .int 0]))] H := ⟨hP, hD⟩
  refine lv_aload_n hx hb dM_fresh_115 rfl (lv_at hl 0 rfl) ?_
  refine lv_iconst (v := 0) hx hb dM_fresh_116 (by decide) ?_
  refine va_putN (D := D) (ci := 6) (v := .int 0) (ty := .int) (C := "ValueBenchModel$V") (T := TV) (N := 6) hx hb htx inV tyV tyV_ok nmV hown hK hP hD hS 2 rfl rfl 3 (by decide) ((hZ.1 (103, "count", "I") (List.mem_of_getElem? (i := 3) rfl)).use rfl) (fun _ h9 => h9) rfl (by decide +kernel) rfl rfl (Nat.le_of_ble_eq_true rfl) dM_fresh_117 (fun H locs hP hD hS => ?_)
  obtain ⟨hP, hD⟩ : xPD D xcl A [(a0, .inr (5, [v2, .ref a1, .int 2, v3, v4, v5, v6, v7, v8, v9, v10, v11, v12, v13, v14, v15, v16, v17, v18, v19, v20, v21, v22, v23, v24, v25, v26, v27, v28, v29, v30, v31])), (a1, .inl (cT 4, 1024, .inr (.inr (.inr (.inr (va_up f32 1 (some q1))))))), (q1, .inr (6, [.int 0, .long 0, .int 0, .int 0, .int 0, .int 0]))] H := ⟨hP, hD⟩
  refine lv_aload_n hx hb dM_fresh_120 rfl (lv_at hl 0 rfl) ?_
  refine lv_iconst (v := 0) hx hb dM_fresh_121 (by decide) ?_
  refine va_putN (D := D) (ci := 6) (v := .int 0) (ty := .int) (C := "ValueBenchModel$V") (T := TV) (N := 6) hx hb htx inV tyV tyV_ok nmV hown hK hP hD hS 2 rfl rfl 4 (by decide) ((hZ.1 (106, "depth", "I") (List.mem_of_getElem? (i := 4) rfl)).use rfl) (fun _ h9 => h9) rfl (by decide +kernel) rfl rfl (Nat.le_of_ble_eq_true rfl) dM_fresh_122 (fun H locs hP hD hS => ?_)
  obtain ⟨hP, hD⟩ : xPD D xcl A [(a0, .inr (5, [v2, .ref a1, .int 2, v3, v4, v5, v6, v7, v8, v9, v10, v11, v12, v13, v14, v15, v16, v17, v18, v19, v20, v21, v22, v23, v24, v25, v26, v27, v28, v29, v30, v31])), (a1, .inl (cT 4, 1024, .inr (.inr (.inr (.inr (va_up f32 1 (some q1))))))), (q1, .inr (6, [.int 0, .long 0, .int 0, .int 0, .int 0, .int 0]))] H := ⟨hP, hD⟩
  refine lv_aload_n hx hb dM_fresh_125 rfl (lv_at hl 0 rfl) ?_
  refine lv_iconst (v := 1) hx hb dM_fresh_126 (by decide) ?_
  refine va_putN (D := D) (ci := 6) (v := .int 1) (ty := .int) (C := "ValueBenchModel$V") (T := TV) (N := 6) hx hb htx inV tyV tyV_ok nmV hown hK hP hD hS 2 rfl rfl 5 (by decide) ((hZ.1 (109, "weight", "I") (List.mem_of_getElem? (i := 5) rfl)).use rfl) (fun _ h9 => h9) rfl (by decide +kernel) rfl rfl (Nat.le_of_ble_eq_true rfl) dM_fresh_127 (fun H locs hP hD hS => ?_)
  obtain ⟨hP, hD⟩ : xPD D xcl A [(a0, .inr (5, [v2, .ref a1, .int 2, v3, v4, v5, v6, v7, v8, v9, v10, v11, v12, v13, v14, v15, v16, v17, v18, v19, v20, v21, v22, v23, v24, v25, v26, v27, v28, v29, v30, v31])), (a1, .inl (cT 4, 1024, .inr (.inr (.inr (.inr (va_up f32 1 (some q1))))))), (q1, .inr (6, [.int 0, .long 0, .int 0, .int 0, .int 0, .int 1]))] H := ⟨hP, hD⟩
  refine lv_aload_n hx hb dM_fresh_130 rfl (lv_at hl 0 rfl) ?_
  obtain ⟨hP9, hD9⟩ := xsub (wc := [(a0, .inr (5, [v2, .ref a1, .int 2, v3, v4, v5, v6, v7, v8, v9, v10, v11, v12, v13, v14, v15, v16, v17, v18, v19, v20, v21, v22, v23, v24, v25, v26, v27, v28, v29, v30, v31])), (a1, .inl (cT 4, 1024, .inr (.inr (.inr (.inr (va_up f32 1 (some q1))))))), (q1, .inr (6, [.int 0, .long 0, .int 0, .int 0, .int 0, .int 1]))]) hP hD [0, 1, 2] rfl rfl (by decide)
  refine W.widen (k := 1) (n := 6) (Nat.le_of_ble_eq_true rfl) (Nat.le_of_ble_eq_true rfl) ?_
  exact W.aret hx hb hr (Or.inl ⟨_, rfl⟩) (Or.inr ⟨_, rfl⟩) (fun t ht hW => ⟨⟨(), q1, rfl, trivial, by rw [ht]; exact hP9, va_K.moved hW.alike hK, hD9⟩, hS.F ht⟩) hS.2.2 dM_fresh_131
set_option maxHeartbeats 400000000 in
set_option maxRecDepth 100000 in
theorem cM_says_4 (l : Launch) (hl9 : l.stackTraces = false) (D : va_G) (cT : Nat → ClassId) (aK aV : Nat → Nat) (sz : Nat) (a0 : Nat) (a1 : Nat) (a2 : Nat) (v3 : Value) (v4 : Value) (v5 : Value) (v6 : Value) (v7 : Value) (v8 : Value) (v9 : Value) (v10 : Value) (v11 : Value) (v12 : Value) (v13 : Value) (v14 : Value) (v15 : Value) (v16 : Value) (v17 : Value) (v18 : Value) (v19 : Value) (v20 : Value) (v21 : Value) (v22 : Value) (v23 : Value) (v24 : Value) (v25 : Value) (v26 : Value) (v27 : Value) (v28 : Value) (v29 : Value) (f30 : Nat → Int32) (f35 : Nat → Option Nat) (h31 : f30 0 = 110) (h32 : f30 1 = 117) (h33 : f30 2 = 108) (h34 : f30 3 = 108) (h36 : f35 1 = none) : xMet l yM_says wyM_says 4 1 6 85 D cT aK aV sz [.ref a0, .ref (aK 10), .int 0] [(a0, .inr (5, [v3, .ref a2, .int 1, v4, v5, v6, v7, v8, v9, v10, v11, v12, v13, v14, v15, .ref a1, .int 0, .int 4, v16, v17, v18, v19, v20, v21, v22, v23, v24, v25, v26, v27, v28, v29])), (a1, .inl (cT 0, 4096, .inl f30)), (a2, .inl (cT 4, 1024, .inr (.inr (.inr (.inr f35)))))] (fun A => va_Qr (fun _ : Unit => True) (fun _ r14 t => xB D xcl cT A [(a0, .inr (5, [v3, .ref a2, .int 2, v4, v5, v6, v7, v8, v9, v10, v11, v12, v13, v14, v15, .ref a1, .int 4, .int 4, v16, v17, v18, v19, v20, v21, v22, v23, v24, v25, v26, v27, v28, v29])), (a1, .inl (cT 0, 4096, .inl f30)), (a2, .inl (cT 4, 1024, .inr (.inr (.inr (.inr (va_up f35 1 (some r14))))))), (r14, .inr (6, [.int 0, .long 0, .int 0, .int 0, .int 0, .int 1]))] t) A) := by
  refine Met.ofW (cc := prog_13_method_33_code) (maxL := 4) (ret := (some (.object "ValueBenchModel$V"))) (by decide) rfl ?_
  intro p e s m args below meth c s₁ B hml hv
  obtain ⟨rfl, hsz, hZ, hP, hK, hD0⟩ := hv
  have hx := B.exec
  have hb := B.bytes
  have hr := B.returns
  have hts := atoms_spec (ws := wyM_says) B.pre
  have htx := fun w h => hts w (List.mem_cons_of_mem _ h)
  have hown : s.vm.findClass "ValueBenchModel" = some m.cls := findClass_of_methodNamed B.named
  have hlocks := B.notSynchronized
  subst hsz
  have hD := hD0.self (sz := s.heap.size)
  generalize hAe : va_A [(a0, .inr (5, [v3, .ref a2, .int 1, v4, v5, v6, v7, v8, v9, v10, v11, v12, v13, v14, v15, .ref a1, .int 0, .int 4, v16, v17, v18, v19, v20, v21, v22, v23, v24, v25, v26, v27, v28, v29])), (a1, .inl (cT 0, 4096, .inl f30)), (a2, .inl (cT 4, 1024, .inr (.inr (.inr (.inr f35)))))] s.heap.size = A at hD hZ ⊢
  have hA : ∀ q : Nat, s.heap.size ≤ q → A q := fun q h => by rw [← hAe]; exact Or.inr h
  have hS : va_S A s.heap s.heap [] := va_S.rf
  have hP : va_P D xcl [(a0, .inr (5, [v3, .ref a2, .int 1, v4, v5, v6, v7, v8, v9, v10, v11, v12, v13, v14, v15, .ref a1, .int 0, .int 4, v16, v17, v18, v19, v20, v21, v22, v23, v24, v25, v26, v27, v28, v29])), (a1, .inl (cT 0, 4096, .inl f30)), (a2, .inl (cT 4, 1024, .inr (.inr (.inr (.inr f35)))))] s.heap := hP
  have hl := lv_entry ([.ref a0, .ref (aK 10), .int 0]) (n := 4) (Nat.le_of_ble_eq_true rfl)
  rw [lg_entry_eq]
  generalize (lg_sl ([.ref a0, .ref (aK 10), .int 0]) ++ List.replicate (4 - (lg_sl ([.ref a0, .ref (aK 10), .int 0])).length) Slot.unset).toArray = ls at hl ⊢
  have hl : lv_has ls 4 [(0, .ref a0), (1, .ref (aK 10)), (2, .int 0)] := hl
  refine lv_iconst (v := 0) hx hb dM_says_0 (by decide) ?_
  refine lv_istore_n (lv' := [(3, .int 0), (0, .ref a0), (1, .ref (aK 10)), (2, .int 0)]) hx hb dM_says_1 rfl hl (by decide) rfl (fun ls hl => ?_)
  refine lv_iload_n hx hb dM_says_2 rfl (lv_at hl 0 rfl) ?_
  refine lv_aload_n hx hb dM_says_3 rfl (lv_at hl 2 rfl) ?_
  obtain ⟨hPc, hDc, hFc⟩ := xcut (wc := []) hP hD hS hA [] rfl rfl (by decide)
  refine va_calli (va_runV (C := "java/lang/String") (As := []) (rest := [.int 0]) ⟨hx, hb, hml, hown, htx⟩ (cJS_length_0 l hl9 D cT aK aV s.heap.size) ⟨callB_of 0 htx (xw_goodC kw_2_70) rfl rfl rfl (htx _ kw_1_6) (htx _ kw_5_238) ⟨by decide, by decide, by decide +kernel⟩ ⟨Nat.le_of_ble_eq_true rfl, Nat.le_of_ble_eq_true rfl⟩, (htx _ kw_2_68), (htx _ kw_2_69)⟩ ⟨xPre_blind, vk_recv hZ.2.2.2.2.2.2.2.2.2.1 (i := 10) (by decide) hS, (fun U hU hW => ⟨rfl, xPre_of hZ hS hFc hPc hDc hK U hU hW⟩)⟩ rfl rfl hl.1 rfl (lv_room (Nat.le_of_ble_eq_true rfl)) dM_says_4 ⟨Nat.le_of_ble_eq_true rfl, Nat.le_of_ble_eq_true rfl⟩) hS (fun q _ h => hFc q h) hFc (fun r1 u9 t H1 locs ht hvm hr9 hB hz1 hk1 hS => ?_)
  obtain ⟨hP1, hK1, hD1⟩ := hB
  rw [ht] at hP1
  obtain ⟨hP, hD⟩ := xjoin (W := [(a0, .inr (5, [v3, .ref a2, .int 1, v4, v5, v6, v7, v8, v9, v10, v11, v12, v13, v14, v15, .ref a1, .int 0, .int 4, v16, v17, v18, v19, v20, v21, v22, v23, v24, v25, v26, v27, v28, v29])), (a1, .inl (cT 0, 4096, .inl f30)), (a2, .inl (cT 4, 1024, .inr (.inr (.inr (.inr f35)))))]) hP hD [] [0, 1, 2] 3 rfl rfl (by decide) (by decide) hk1 hFc hP1 hD1
  generalize H1 = H at hP hS ⊢
  rw [hr9]
  refine W.eq (g2 := F0 m 7 ls [.int 4, .int 0]) rfl ?_
  refine lv_icmp_ge (tgt := 46) hx hb dM_says_7 (by decide) (fun h => ((by revert h; decide : False)).elim) (fun _ => ?_)
  refine lv_aload_n hx hb dM_says_10 rfl (lv_at hl 1 rfl) ?_
  obtain ⟨hPc, hDc, hFc⟩ := xcut (wc := [(a0, .inr (5, [v3, .ref a2, .int 1, v4, v5, v6, v7, v8, v9, v10, v11, v12, v13, v14, v15, .ref a1, .int 0, .int 4, v16, v17, v18, v19, v20, v21, v22, v23, v24, v25, v26, v27, v28, v29])), (a1, .inl (cT 0, 4096, .inl f30))]) hP hD hS hA [0, 1] rfl rfl (by decide)
  refine va_calli (va_runV (C := "ValueBenchModel") (As := []) (rest := []) ⟨hx, hb, hml, hown, htx⟩ (cM_peek_1 l hl9 D cT aK aV H.size a0 a1 v3 (.ref a2) (.int 1) v4 v5 v6 v7 v8 v9 v10 v11 v12 v13 v14 v15 v16 v17 v18 v19 v20 v21 v22 v23 v24 v25 v26 v27 v28 v29 f30 (by first | rfl | exact h31 | exact h32 | exact h33 | exact h34 | exact h36)) ⟨callB_of 0 htx (xw_goodC kw_5_233) rfl rfl rfl (htx _ kw_1_5) (htx _ kw_5_230) ⟨by decide, by decide, by decide +kernel⟩ ⟨Nat.le_of_ble_eq_true rfl, Nat.le_of_ble_eq_true rfl⟩, (htx _ kw_5_232), (htx _ kp_M_peek)⟩ ⟨xPre_blind, va_recv hK hP (ci := 5) rfl (q0 := 0) rfl, (fun U hU hW => ⟨rfl, xPre_of hZ hS hFc hPc hDc hK U hU hW⟩)⟩ rfl rfl hl.1 rfl (lv_room (Nat.le_of_ble_eq_true rfl)) dM_says_11 ⟨Nat.le_of_ble_eq_true rfl, Nat.le_of_ble_eq_true rfl⟩) hS (fun q _ h => hFc q h) hFc (fun r2 u9 t H1 locs ht hvm hr9 hB hz1 hk1 hS => ?_)
  obtain ⟨hP1, hK1, hD1⟩ := hB
  rw [ht] at hP1
  obtain ⟨hP, hD⟩ := xjoin (W := [(a2, .inl (cT 4, 1024, .inr (.inr (.inr (.inr f35))))), (a0, .inr (5, [v3, .ref a2, .int 1, v4, v5, v6, v7, v8, v9, v10, v11, v12, v13, v14, v15, .ref a1, .int 0, .int 4, v16, v17, v18, v19, v20, v21, v22, v23, v24, v25, v26, v27, v28, v29])), (a1, .inl (cT 0, 4096, .inl f30))]) hP hD [0, 1] [2] 1 rfl rfl (by decide) (by decide) hk1 hFc hP1 hD1
  generalize H1 = H at hP hS ⊢
  rw [hr9]
  refine W.eq (g2 := F0 m 14 ls [.int 110]) rfl ?_
  refine lv_aload_n hx hb dM_says_14 rfl (lv_at hl 2 rfl) ?_
  refine lv_iload_n hx hb dM_says_15 rfl (lv_at hl 0 rfl) ?_
  obtain ⟨hPc, hDc, hFc⟩ := xcut (wc := []) hP hD hS hA [] rfl rfl (by decide)
  refine va_calli (va_runV (C := "java/lang/String") (As := [.int 0]) (rest := [.int 110]) ⟨hx, hb, hml, hown, htx⟩ (cJS_charAt_0 l hl9 D cT aK aV H.size) ⟨callB_of 1 htx (xw_goodC kw_2_80) rfl rfl rfl (htx _ kw_1_6) (htx _ kw_5_86) ⟨by decide, by decide, by decide +kernel⟩ ⟨Nat.le_of_ble_eq_true rfl, Nat.le_of_ble_eq_true rfl⟩, (htx _ kw_2_78), (htx _ kw_2_79)⟩ ⟨xPre_blind, vk_recv hZ.2.2.2.2.2.2.2.2.2.1 (i := 10) (by decide) hS, (fun U hU hW => ⟨rfl, xPre_of hZ hS hFc hPc hDc hK U hU hW⟩)⟩ rfl rfl hl.1 rfl (lv_room (Nat.le_of_ble_eq_true rfl)) dM_says_16 ⟨Nat.le_of_ble_eq_true rfl, Nat.le_of_ble_eq_true rfl⟩) hS (fun q _ h => hFc q h) hFc (fun r3 u9 t H1 locs ht hvm hr9 hB hz1 hk1 hS => ?_)
  obtain ⟨hP1, hK1, hD1⟩ := hB
  rw [ht] at hP1
  obtain ⟨hP, hD⟩ := xjoin (W := [(a2, .inl (cT 4, 1024, .inr (.inr (.inr (.inr f35))))), (a0, .inr (5, [v3, .ref a2, .int 1, v4, v5, v6, v7, v8, v9, v10, v11, v12, v13, v14, v15, .ref a1, .int 0, .int 4, v16, v17, v18, v19, v20, v21, v22, v23, v24, v25, v26, v27, v28, v29])), (a1, .inl (cT 0, 4096, .inl f30))]) hP hD [] [0, 1, 2] 3 rfl rfl (by decide) (by decide) hk1 hFc hP1 hD1
  generalize H1 = H at hP hS ⊢
  rw [hr9]
  refine W.eq (g2 := F0 m 19 ls [.int 110, .int 110]) rfl ?_
  refine lv_icmp_eq (tgt := 30) hx hb dM_says_19 (by decide) (fun _ => ?_) (fun h => ((by revert h; decide : False)).elim)
  refine lv_aload_n hx hb dM_says_30 rfl (lv_at hl 1 rfl) ?_
  refine lv_dup hx hb dM_says_31 rfl ?_
  refine va_get (D := D) (ci := 5) (v := .int 0) (C := "ValueBenchModel") (T := TM) (N := 32) hx hb htx inM hown hK hP 1 rfl rfl 16 (by decide) (htx _ kw_5_103) (fun _ h9 => h9) rfl dM_says_32 ?_
  refine lv_iconst (v := 1) hx hb dM_says_35 (by decide) ?_
  refine lv_iadd hx hb dM_says_36 ?_
  refine W.eq (g2 := F0 m 37 ls [.int 1, .ref a0]) rfl ?_
  refine va_put (D := D) (ci := 5) (v := .int 1) (ty := .int) (C := "ValueBenchModel") (T := TM) (N := 32) hx hb htx inM tyM tyM_ok nmM hown hK hP hD hS 1 rfl rfl 16 (by decide) (htx _ kw_5_103) (fun _ h9 => h9) rfl (by decide +kernel) rfl rfl (Nat.le_of_ble_eq_true rfl) dM_says_37 (fun H locs hP hD hS => ?_)
  obtain ⟨hP, hD⟩ : xPD D xcl A [(a2, .inl (cT 4, 1024, .inr (.inr (.inr (.inr f35))))), (a0, .inr (5, [v3, .ref a2, .int 1, v4, v5, v6, v7, v8, v9, v10, v11, v12, v13, v14, v15, .ref a1, .int 1, .int 4, v16, v17, v18, v19, v20, v21, v22, v23, v24, v25, v26, v27, v28, v29])), (a1, .inl (cT 0, 4096, .inl f30))] H := ⟨hP, hD⟩
  refine lv_iinc (v := 1) (lv' := [(3, .int 1), (0, .ref a0), (1, .ref (aK 10)), (2, .int 0)]) hx hb dM_says_40 hl (k := 0) rfl (by decide) (by decide) rfl (fun ls hl => ?_)
  refine lv_goto (tgt := 2) hx hb dM_says_43 (by decide) ?_
  refine lv_iload_n hx hb dM_says_2 rfl (lv_at hl 0 rfl) ?_
  refine lv_aload_n hx hb dM_says_3 rfl (lv_at hl 2 rfl) ?_
  obtain ⟨hPc, hDc, hFc⟩ := xcut (wc := []) hP hD hS hA [] rfl rfl (by decide)
  refine va_calli (va_runV (C := "java/lang/String") (As := []) (rest := [.int 1]) ⟨hx, hb, hml, hown, htx⟩ (cJS_length_0 l hl9 D cT aK aV H.size) ⟨callB_of 0 htx (xw_goodC kw_2_70) rfl rfl rfl (htx _ kw_1_6) (htx _ kw_5_238) ⟨by decide, by decide, by decide +kernel⟩ ⟨Nat.le_of_ble_eq_true rfl, Nat.le_of_ble_eq_true rfl⟩, (htx _ kw_2_68), (htx _ kw_2_69)⟩ ⟨xPre_blind, vk_recv hZ.2.2.2.2.2.2.2.2.2.1 (i := 10) (by decide) hS, (fun U hU hW => ⟨rfl, xPre_of hZ hS hFc hPc hDc hK U hU hW⟩)⟩ rfl rfl hl.1 rfl (lv_room (Nat.le_of_ble_eq_true rfl)) dM_says_4 ⟨Nat.le_of_ble_eq_true rfl, Nat.le_of_ble_eq_true rfl⟩) hS (fun q _ h => hFc q h) hFc (fun r4 u9 t H1 locs ht hvm hr9 hB hz1 hk1 hS => ?_)
  obtain ⟨hP1, hK1, hD1⟩ := hB
  rw [ht] at hP1
  obtain ⟨hP, hD⟩ := xjoin (W := [(a2, .inl (cT 4, 1024, .inr (.inr (.inr (.inr f35))))), (a0, .inr (5, [v3, .ref a2, .int 1, v4, v5, v6, v7, v8, v9, v10, v11, v12, v13, v14, v15, .ref a1, .int 1, .int 4, v16, v17, v18, v19, v20, v21, v22, v23, v24, v25, v26, v27, v28, v29])), (a1, .inl (cT 0, 4096, .inl f30))]) hP hD [] [0, 1, 2] 3 rfl rfl (by decide) (by decide) hk1 hFc hP1 hD1
  generalize H1 = H at hP hS ⊢
  rw [hr9]
  refine W.eq (g2 := F0 m 7 ls [.int 4, .int 1]) rfl ?_
  refine lv_icmp_ge (tgt := 46) hx hb dM_says_7 (by decide) (fun h => ((by revert h; decide : False)).elim) (fun _ => ?_)
  refine lv_aload_n hx hb dM_says_10 rfl (lv_at hl 1 rfl) ?_
  obtain ⟨hPc, hDc, hFc⟩ := xcut (wc := [(a0, .inr (5, [v3, .ref a2, .int 1, v4, v5, v6, v7, v8, v9, v10, v11, v12, v13, v14, v15, .ref a1, .int 1, .int 4, v16, v17, v18, v19, v20, v21, v22, v23, v24, v25, v26, v27, v28, v29])), (a1, .inl (cT 0, 4096, .inl f30))]) hP hD hS hA [1, 2] rfl rfl (by decide)
  refine va_calli (va_runV (C := "ValueBenchModel") (As := []) (rest := []) ⟨hx, hb, hml, hown, htx⟩ (cM_peek_2 l hl9 D cT aK aV H.size a0 a1 v3 (.ref a2) (.int 1) v4 v5 v6 v7 v8 v9 v10 v11 v12 v13 v14 v15 v16 v17 v18 v19 v20 v21 v22 v23 v24 v25 v26 v27 v28 v29 f30 (by first | rfl | exact h31 | exact h32 | exact h33 | exact h34 | exact h36)) ⟨callB_of 0 htx (xw_goodC kw_5_233) rfl rfl rfl (htx _ kw_1_5) (htx _ kw_5_230) ⟨by decide, by decide, by decide +kernel⟩ ⟨Nat.le_of_ble_eq_true rfl, Nat.le_of_ble_eq_true rfl⟩, (htx _ kw_5_232), (htx _ kp_M_peek)⟩ ⟨xPre_blind, va_recv hK hP (ci := 5) rfl (q0 := 1) rfl, (fun U hU hW => ⟨rfl, xPre_of hZ hS hFc hPc hDc hK U hU hW⟩)⟩ rfl rfl hl.1 rfl (lv_room (Nat.le_of_ble_eq_true rfl)) dM_says_11 ⟨Nat.le_of_ble_eq_true rfl, Nat.le_of_ble_eq_true rfl⟩) hS (fun q _ h => hFc q h) hFc (fun r5 u9 t H1 locs ht hvm hr9 hB hz1 hk1 hS => ?_)
  obtain ⟨hP1, hK1, hD1⟩ := hB
  rw [ht] at hP1
  obtain ⟨hP, hD⟩ := xjoin (W := [(a2, .inl (cT 4, 1024, .inr (.inr (.inr (.inr f35))))), (a0, .inr (5, [v3, .ref a2, .int 1, v4, v5, v6, v7, v8, v9, v10, v11, v12, v13, v14, v15, .ref a1, .int 1, .int 4, v16, v17, v18, v19, v20, v21, v22, v23, v24, v25, v26, v27, v28, v29])), (a1, .inl (cT 0, 4096, .inl f30))]) hP hD [1, 2] [0] 1 rfl rfl (by decide) (by decide) hk1 hFc hP1 hD1
  generalize H1 = H at hP hS ⊢
  rw [hr9]
  refine W.eq (g2 := F0 m 14 ls [.int 117]) rfl ?_
  refine lv_aload_n hx hb dM_says_14 rfl (lv_at hl 2 rfl) ?_
  refine lv_iload_n hx hb dM_says_15 rfl (lv_at hl 0 rfl) ?_
  obtain ⟨hPc, hDc, hFc⟩ := xcut (wc := []) hP hD hS hA [] rfl rfl (by decide)
  refine va_calli (va_runV (C := "java/lang/String") (As := [.int 1]) (rest := [.int 117]) ⟨hx, hb, hml, hown, htx⟩ (cJS_charAt_1 l hl9 D cT aK aV H.size) ⟨callB_of 1 htx (xw_goodC kw_2_80) rfl rfl rfl (htx _ kw_1_6) (htx _ kw_5_86) ⟨by decide, by decide, by decide +kernel⟩ ⟨Nat.le_of_ble_eq_true rfl, Nat.le_of_ble_eq_true rfl⟩, (htx _ kw_2_78), (htx _ kw_2_79)⟩ ⟨xPre_blind, vk_recv hZ.2.2.2.2.2.2.2.2.2.1 (i := 10) (by decide) hS, (fun U hU hW => ⟨rfl, xPre_of hZ hS hFc hPc hDc hK U hU hW⟩)⟩ rfl rfl hl.1 rfl (lv_room (Nat.le_of_ble_eq_true rfl)) dM_says_16 ⟨Nat.le_of_ble_eq_true rfl, Nat.le_of_ble_eq_true rfl⟩) hS (fun q _ h => hFc q h) hFc (fun r6 u9 t H1 locs ht hvm hr9 hB hz1 hk1 hS => ?_)
  obtain ⟨hP1, hK1, hD1⟩ := hB
  rw [ht] at hP1
  obtain ⟨hP, hD⟩ := xjoin (W := [(a2, .inl (cT 4, 1024, .inr (.inr (.inr (.inr f35))))), (a0, .inr (5, [v3, .ref a2, .int 1, v4, v5, v6, v7, v8, v9, v10, v11, v12, v13, v14, v15, .ref a1, .int 1, .int 4, v16, v17, v18, v19, v20, v21, v22, v23, v24, v25, v26, v27, v28, v29])), (a1, .inl (cT 0, 4096, .inl f30))]) hP hD [] [0, 1, 2] 3 rfl rfl (by decide) (by decide) hk1 hFc hP1 hD1
  generalize H1 = H at hP hS ⊢
  rw [hr9]
  refine W.eq (g2 := F0 m 19 ls [.int 117, .int 117]) rfl ?_
  refine lv_icmp_eq (tgt := 30) hx hb dM_says_19 (by decide) (fun _ => ?_) (fun h => ((by revert h; decide : False)).elim)
  refine lv_aload_n hx hb dM_says_30 rfl (lv_at hl 1 rfl) ?_
  refine lv_dup hx hb dM_says_31 rfl ?_
  refine va_get (D := D) (ci := 5) (v := .int 1) (C := "ValueBenchModel") (T := TM) (N := 32) hx hb htx inM hown hK hP 1 rfl rfl 16 (by decide) (htx _ kw_5_103) (fun _ h9 => h9) rfl dM_says_32 ?_
  refine lv_iconst (v := 1) hx hb dM_says_35 (by decide) ?_
  refine lv_iadd hx hb dM_says_36 ?_
  refine W.eq (g2 := F0 m 37 ls [.int 2, .ref a0]) rfl ?_
  refine va_put (D := D) (ci := 5) (v := .int 2) (ty := .int) (C := "ValueBenchModel") (T := TM) (N := 32) hx hb htx inM tyM tyM_ok nmM hown hK hP hD hS 1 rfl rfl 16 (by decide) (htx _ kw_5_103) (fun _ h9 => h9) rfl (by decide +kernel) rfl rfl (Nat.le_of_ble_eq_true rfl) dM_says_37 (fun H locs hP hD hS => ?_)
  obtain ⟨hP, hD⟩ : xPD D xcl A [(a2, .inl (cT 4, 1024, .inr (.inr (.inr (.inr f35))))), (a0, .inr (5, [v3, .ref a2, .int 1, v4, v5, v6, v7, v8, v9, v10, v11, v12, v13, v14, v15, .ref a1, .int 2, .int 4, v16, v17, v18, v19, v20, v21, v22, v23, v24, v25, v26, v27, v28, v29])), (a1, .inl (cT 0, 4096, .inl f30))] H := ⟨hP, hD⟩
  refine lv_iinc (v := 2) (lv' := [(3, .int 2), (0, .ref a0), (1, .ref (aK 10)), (2, .int 0)]) hx hb dM_says_40 hl (k := 0) rfl (by decide) (by decide) rfl (fun ls hl => ?_)
  refine lv_goto (tgt := 2) hx hb dM_says_43 (by decide) ?_
  refine lv_iload_n hx hb dM_says_2 rfl (lv_at hl 0 rfl) ?_
  refine lv_aload_n hx hb dM_says_3 rfl (lv_at hl 2 rfl) ?_
  obtain ⟨hPc, hDc, hFc⟩ := xcut (wc := []) hP hD hS hA [] rfl rfl (by decide)
  refine va_calli (va_runV (C := "java/lang/String") (As := []) (rest := [.int 2]) ⟨hx, hb, hml, hown, htx⟩ (cJS_length_0 l hl9 D cT aK aV H.size) ⟨callB_of 0 htx (xw_goodC kw_2_70) rfl rfl rfl (htx _ kw_1_6) (htx _ kw_5_238) ⟨by decide, by decide, by decide +kernel⟩ ⟨Nat.le_of_ble_eq_true rfl, Nat.le_of_ble_eq_true rfl⟩, (htx _ kw_2_68), (htx _ kw_2_69)⟩ ⟨xPre_blind, vk_recv hZ.2.2.2.2.2.2.2.2.2.1 (i := 10) (by decide) hS, (fun U hU hW => ⟨rfl, xPre_of hZ hS hFc hPc hDc hK U hU hW⟩)⟩ rfl rfl hl.1 rfl (lv_room (Nat.le_of_ble_eq_true rfl)) dM_says_4 ⟨Nat.le_of_ble_eq_true rfl, Nat.le_of_ble_eq_true rfl⟩) hS (fun q _ h => hFc q h) hFc (fun r7 u9 t H1 locs ht hvm hr9 hB hz1 hk1 hS => ?_)
  obtain ⟨hP1, hK1, hD1⟩ := hB
  rw [ht] at hP1
  obtain ⟨hP, hD⟩ := xjoin (W := [(a2, .inl (cT 4, 1024, .inr (.inr (.inr (.inr f35))))), (a0, .inr (5, [v3, .ref a2, .int 1, v4, v5, v6, v7, v8, v9, v10, v11, v12, v13, v14, v15, .ref a1, .int 2, .int 4, v16, v17, v18, v19, v20, v21, v22, v23, v24, v25, v26, v27, v28, v29])), (a1, .inl (cT 0, 4096, .inl f30))]) hP hD [] [0, 1, 2] 3 rfl rfl (by decide) (by decide) hk1 hFc hP1 hD1
  generalize H1 = H at hP hS ⊢
  rw [hr9]
  refine W.eq (g2 := F0 m 7 ls [.int 4, .int 2]) rfl ?_
  refine lv_icmp_ge (tgt := 46) hx hb dM_says_7 (by decide) (fun h => ((by revert h; decide : False)).elim) (fun _ => ?_)
  refine lv_aload_n hx hb dM_says_10 rfl (lv_at hl 1 rfl) ?_
  obtain ⟨hPc, hDc, hFc⟩ := xcut (wc := [(a0, .inr (5, [v3, .ref a2, .int 1, v4, v5, v6, v7, v8, v9, v10, v11, v12, v13, v14, v15, .ref a1, .int 2, .int 4, v16, v17, v18, v19, v20, v21, v22, v23, v24, v25, v26, v27, v28, v29])), (a1, .inl (cT 0, 4096, .inl f30))]) hP hD hS hA [1, 2] rfl rfl (by decide)
  refine va_calli (va_runV (C := "ValueBenchModel") (As := []) (rest := []) ⟨hx, hb, hml, hown, htx⟩ (cM_peek_3 l hl9 D cT aK aV H.size a0 a1 v3 (.ref a2) (.int 1) v4 v5 v6 v7 v8 v9 v10 v11 v12 v13 v14 v15 v16 v17 v18 v19 v20 v21 v22 v23 v24 v25 v26 v27 v28 v29 f30 (by first | rfl | exact h31 | exact h32 | exact h33 | exact h34 | exact h36)) ⟨callB_of 0 htx (xw_goodC kw_5_233) rfl rfl rfl (htx _ kw_1_5) (htx _ kw_5_230) ⟨by decide, by decide, by decide +kernel⟩ ⟨Nat.le_of_ble_eq_true rfl, Nat.le_of_ble_eq_true rfl⟩, (htx _ kw_5_232), (htx _ kp_M_peek)⟩ ⟨xPre_blind, va_recv hK hP (ci := 5) rfl (q0 := 1) rfl, (fun U hU hW => ⟨rfl, xPre_of hZ hS hFc hPc hDc hK U hU hW⟩)⟩ rfl rfl hl.1 rfl (lv_room (Nat.le_of_ble_eq_true rfl)) dM_says_11 ⟨Nat.le_of_ble_eq_true rfl, Nat.le_of_ble_eq_true rfl⟩) hS (fun q _ h => hFc q h) hFc (fun r8 u9 t H1 locs ht hvm hr9 hB hz1 hk1 hS => ?_)
  obtain ⟨hP1, hK1, hD1⟩ := hB
  rw [ht] at hP1
  obtain ⟨hP, hD⟩ := xjoin (W := [(a2, .inl (cT 4, 1024, .inr (.inr (.inr (.inr f35))))), (a0, .inr (5, [v3, .ref a2, .int 1, v4, v5, v6, v7, v8, v9, v10, v11, v12, v13, v14, v15, .ref a1, .int 2, .int 4, v16, v17, v18, v19, v20, v21, v22, v23, v24, v25, v26, v27, v28, v29])), (a1, .inl (cT 0, 4096, .inl f30))]) hP hD [1, 2] [0] 1 rfl rfl (by decide) (by decide) hk1 hFc hP1 hD1
  generalize H1 = H at hP hS ⊢
  rw [hr9]
  refine W.eq (g2 := F0 m 14 ls [.int 108]) rfl ?_
  refine lv_aload_n hx hb dM_says_14 rfl (lv_at hl 2 rfl) ?_
  refine lv_iload_n hx hb dM_says_15 rfl (lv_at hl 0 rfl) ?_
  obtain ⟨hPc, hDc, hFc⟩ := xcut (wc := []) hP hD hS hA [] rfl rfl (by decide)
  refine va_calli (va_runV (C := "java/lang/String") (As := [.int 2]) (rest := [.int 108]) ⟨hx, hb, hml, hown, htx⟩ (cJS_charAt_2 l hl9 D cT aK aV H.size) ⟨callB_of 1 htx (xw_goodC kw_2_80) rfl rfl rfl (htx _ kw_1_6) (htx _ kw_5_86) ⟨by decide, by decide, by decide +kernel⟩ ⟨Nat.le_of_ble_eq_true rfl, Nat.le_of_ble_eq_true rfl⟩, (htx _ kw_2_78), (htx _ kw_2_79)⟩ ⟨xPre_blind, vk_recv hZ.2.2.2.2.2.2.2.2.2.1 (i := 10) (by decide) hS, (fun U hU hW => ⟨rfl, xPre_of hZ hS hFc hPc hDc hK U hU hW⟩)⟩ rfl rfl hl.1 rfl (lv_room (Nat.le_of_ble_eq_true rfl)) dM_says_16 ⟨Nat.le_of_ble_eq_true rfl, Nat.le_of_ble_eq_true rfl⟩) hS (fun q _ h => hFc q h) hFc (fun r9 u9 t H1 locs ht hvm hr9 hB hz1 hk1 hS => ?_)
  obtain ⟨hP1, hK1, hD1⟩ := hB
  rw [ht] at hP1
  obtain ⟨hP, hD⟩ := xjoin (W := [(a2, .inl (cT 4, 1024, .inr (.inr (.inr (.inr f35))))), (a0, .inr (5, [v3, .ref a2, .int 1, v4, v5, v6, v7, v8, v9, v10, v11, v12, v13, v14, v15, .ref a1, .int 2, .int 4, v16, v17, v18, v19, v20, v21, v22, v23, v24, v25, v26, v27, v28, v29])), (a1, .inl (cT 0, 4096, .inl f30))]) hP hD [] [0, 1, 2] 3 rfl rfl (by decide) (by decide) hk1 hFc hP1 hD1
  generalize H1 = H at hP hS ⊢
  rw [hr9]
  refine W.eq (g2 := F0 m 19 ls [.int 108, .int 108]) rfl ?_
  refine lv_icmp_eq (tgt := 30) hx hb dM_says_19 (by decide) (fun _ => ?_) (fun h => ((by revert h; decide : False)).elim)
  refine lv_aload_n hx hb dM_says_30 rfl (lv_at hl 1 rfl) ?_
  refine lv_dup hx hb dM_says_31 rfl ?_
  refine va_get (D := D) (ci := 5) (v := .int 2) (C := "ValueBenchModel") (T := TM) (N := 32) hx hb htx inM hown hK hP 1 rfl rfl 16 (by decide) (htx _ kw_5_103) (fun _ h9 => h9) rfl dM_says_32 ?_
  refine lv_iconst (v := 1) hx hb dM_says_35 (by decide) ?_
  refine lv_iadd hx hb dM_says_36 ?_
  refine W.eq (g2 := F0 m 37 ls [.int 3, .ref a0]) rfl ?_
  refine va_put (D := D) (ci := 5) (v := .int 3) (ty := .int) (C := "ValueBenchModel") (T := TM) (N := 32) hx hb htx inM tyM tyM_ok nmM hown hK hP hD hS 1 rfl rfl 16 (by decide) (htx _ kw_5_103) (fun _ h9 => h9) rfl (by decide +kernel) rfl rfl (Nat.le_of_ble_eq_true rfl) dM_says_37 (fun H locs hP hD hS => ?_)
  obtain ⟨hP, hD⟩ : xPD D xcl A [(a2, .inl (cT 4, 1024, .inr (.inr (.inr (.inr f35))))), (a0, .inr (5, [v3, .ref a2, .int 1, v4, v5, v6, v7, v8, v9, v10, v11, v12, v13, v14, v15, .ref a1, .int 3, .int 4, v16, v17, v18, v19, v20, v21, v22, v23, v24, v25, v26, v27, v28, v29])), (a1, .inl (cT 0, 4096, .inl f30))] H := ⟨hP, hD⟩
  refine lv_iinc (v := 3) (lv' := [(3, .int 3), (0, .ref a0), (1, .ref (aK 10)), (2, .int 0)]) hx hb dM_says_40 hl (k := 0) rfl (by decide) (by decide) rfl (fun ls hl => ?_)
  refine lv_goto (tgt := 2) hx hb dM_says_43 (by decide) ?_
  refine lv_iload_n hx hb dM_says_2 rfl (lv_at hl 0 rfl) ?_
  refine lv_aload_n hx hb dM_says_3 rfl (lv_at hl 2 rfl) ?_
  obtain ⟨hPc, hDc, hFc⟩ := xcut (wc := []) hP hD hS hA [] rfl rfl (by decide)
  refine va_calli (va_runV (C := "java/lang/String") (As := []) (rest := [.int 3]) ⟨hx, hb, hml, hown, htx⟩ (cJS_length_0 l hl9 D cT aK aV H.size) ⟨callB_of 0 htx (xw_goodC kw_2_70) rfl rfl rfl (htx _ kw_1_6) (htx _ kw_5_238) ⟨by decide, by decide, by decide +kernel⟩ ⟨Nat.le_of_ble_eq_true rfl, Nat.le_of_ble_eq_true rfl⟩, (htx _ kw_2_68), (htx _ kw_2_69)⟩ ⟨xPre_blind, vk_recv hZ.2.2.2.2.2.2.2.2.2.1 (i := 10) (by decide) hS, (fun U hU hW => ⟨rfl, xPre_of hZ hS hFc hPc hDc hK U hU hW⟩)⟩ rfl rfl hl.1 rfl (lv_room (Nat.le_of_ble_eq_true rfl)) dM_says_4 ⟨Nat.le_of_ble_eq_true rfl, Nat.le_of_ble_eq_true rfl⟩) hS (fun q _ h => hFc q h) hFc (fun r10 u9 t H1 locs ht hvm hr9 hB hz1 hk1 hS => ?_)
  obtain ⟨hP1, hK1, hD1⟩ := hB
  rw [ht] at hP1
  obtain ⟨hP, hD⟩ := xjoin (W := [(a2, .inl (cT 4, 1024, .inr (.inr (.inr (.inr f35))))), (a0, .inr (5, [v3, .ref a2, .int 1, v4, v5, v6, v7, v8, v9, v10, v11, v12, v13, v14, v15, .ref a1, .int 3, .int 4, v16, v17, v18, v19, v20, v21, v22, v23, v24, v25, v26, v27, v28, v29])), (a1, .inl (cT 0, 4096, .inl f30))]) hP hD [] [0, 1, 2] 3 rfl rfl (by decide) (by decide) hk1 hFc hP1 hD1
  generalize H1 = H at hP hS ⊢
  rw [hr9]
  refine W.eq (g2 := F0 m 7 ls [.int 4, .int 3]) rfl ?_
  refine lv_icmp_ge (tgt := 46) hx hb dM_says_7 (by decide) (fun h => ((by revert h; decide : False)).elim) (fun _ => ?_)
  refine lv_aload_n hx hb dM_says_10 rfl (lv_at hl 1 rfl) ?_
  obtain ⟨hPc, hDc, hFc⟩ := xcut (wc := [(a0, .inr (5, [v3, .ref a2, .int 1, v4, v5, v6, v7, v8, v9, v10, v11, v12, v13, v14, v15, .ref a1, .int 3, .int 4, v16, v17, v18, v19, v20, v21, v22, v23, v24, v25, v26, v27, v28, v29])), (a1, .inl (cT 0, 4096, .inl f30))]) hP hD hS hA [1, 2] rfl rfl (by decide)
  refine va_calli (va_runV (C := "ValueBenchModel") (As := []) (rest := []) ⟨hx, hb, hml, hown, htx⟩ (cM_peek_4 l hl9 D cT aK aV H.size a0 a1 v3 (.ref a2) (.int 1) v4 v5 v6 v7 v8 v9 v10 v11 v12 v13 v14 v15 v16 v17 v18 v19 v20 v21 v22 v23 v24 v25 v26 v27 v28 v29 f30 (by first | rfl | exact h31 | exact h32 | exact h33 | exact h34 | exact h36)) ⟨callB_of 0 htx (xw_goodC kw_5_233) rfl rfl rfl (htx _ kw_1_5) (htx _ kw_5_230) ⟨by decide, by decide, by decide +kernel⟩ ⟨Nat.le_of_ble_eq_true rfl, Nat.le_of_ble_eq_true rfl⟩, (htx _ kw_5_232), (htx _ kp_M_peek)⟩ ⟨xPre_blind, va_recv hK hP (ci := 5) rfl (q0 := 1) rfl, (fun U hU hW => ⟨rfl, xPre_of hZ hS hFc hPc hDc hK U hU hW⟩)⟩ rfl rfl hl.1 rfl (lv_room (Nat.le_of_ble_eq_true rfl)) dM_says_11 ⟨Nat.le_of_ble_eq_true rfl, Nat.le_of_ble_eq_true rfl⟩) hS (fun q _ h => hFc q h) hFc (fun r11 u9 t H1 locs ht hvm hr9 hB hz1 hk1 hS => ?_)
  obtain ⟨hP1, hK1, hD1⟩ := hB
  rw [ht] at hP1
  obtain ⟨hP, hD⟩ := xjoin (W := [(a2, .inl (cT 4, 1024, .inr (.inr (.inr (.inr f35))))), (a0, .inr (5, [v3, .ref a2, .int 1, v4, v5, v6, v7, v8, v9, v10, v11, v12, v13, v14, v15, .ref a1, .int 3, .int 4, v16, v17, v18, v19, v20, v21, v22, v23, v24, v25, v26, v27, v28, v29])), (a1, .inl (cT 0, 4096, .inl f30))]) hP hD [1, 2] [0] 1 rfl rfl (by decide) (by decide) hk1 hFc hP1 hD1
  generalize H1 = H at hP hS ⊢
  rw [hr9]
  refine W.eq (g2 := F0 m 14 ls [.int 108]) rfl ?_
  refine lv_aload_n hx hb dM_says_14 rfl (lv_at hl 2 rfl) ?_
  refine lv_iload_n hx hb dM_says_15 rfl (lv_at hl 0 rfl) ?_
  obtain ⟨hPc, hDc, hFc⟩ := xcut (wc := []) hP hD hS hA [] rfl rfl (by decide)
  refine va_calli (va_runV (C := "java/lang/String") (As := [.int 3]) (rest := [.int 108]) ⟨hx, hb, hml, hown, htx⟩ (cJS_charAt_3 l hl9 D cT aK aV H.size) ⟨callB_of 1 htx (xw_goodC kw_2_80) rfl rfl rfl (htx _ kw_1_6) (htx _ kw_5_86) ⟨by decide, by decide, by decide +kernel⟩ ⟨Nat.le_of_ble_eq_true rfl, Nat.le_of_ble_eq_true rfl⟩, (htx _ kw_2_78), (htx _ kw_2_79)⟩ ⟨xPre_blind, vk_recv hZ.2.2.2.2.2.2.2.2.2.1 (i := 10) (by decide) hS, (fun U hU hW => ⟨rfl, xPre_of hZ hS hFc hPc hDc hK U hU hW⟩)⟩ rfl rfl hl.1 rfl (lv_room (Nat.le_of_ble_eq_true rfl)) dM_says_16 ⟨Nat.le_of_ble_eq_true rfl, Nat.le_of_ble_eq_true rfl⟩) hS (fun q _ h => hFc q h) hFc (fun r12 u9 t H1 locs ht hvm hr9 hB hz1 hk1 hS => ?_)
  obtain ⟨hP1, hK1, hD1⟩ := hB
  rw [ht] at hP1
  obtain ⟨hP, hD⟩ := xjoin (W := [(a2, .inl (cT 4, 1024, .inr (.inr (.inr (.inr f35))))), (a0, .inr (5, [v3, .ref a2, .int 1, v4, v5, v6, v7, v8, v9, v10, v11, v12, v13, v14, v15, .ref a1, .int 3, .int 4, v16, v17, v18, v19, v20, v21, v22, v23, v24, v25, v26, v27, v28, v29])), (a1, .inl (cT 0, 4096, .inl f30))]) hP hD [] [0, 1, 2] 3 rfl rfl (by decide) (by decide) hk1 hFc hP1 hD1
  generalize H1 = H at hP hS ⊢
  rw [hr9]
  refine W.eq (g2 := F0 m 19 ls [.int 108, .int 108]) rfl ?_
  refine lv_icmp_eq (tgt := 30) hx hb dM_says_19 (by decide) (fun _ => ?_) (fun h => ((by revert h; decide : False)).elim)
  refine lv_aload_n hx hb dM_says_30 rfl (lv_at hl 1 rfl) ?_
  refine lv_dup hx hb dM_says_31 rfl ?_
  refine va_get (D := D) (ci := 5) (v := .int 3) (C := "ValueBenchModel") (T := TM) (N := 32) hx hb htx inM hown hK hP 1 rfl rfl 16 (by decide) (htx _ kw_5_103) (fun _ h9 => h9) rfl dM_says_32 ?_
  refine lv_iconst (v := 1) hx hb dM_says_35 (by decide) ?_
  refine lv_iadd hx hb dM_says_36 ?_
  refine W.eq (g2 := F0 m 37 ls [.int 4, .ref a0]) rfl ?_
  refine va_put (D := D) (ci := 5) (v := .int 4) (ty := .int) (C := "ValueBenchModel") (T := TM) (N := 32) hx hb htx inM tyM tyM_ok nmM hown hK hP hD hS 1 rfl rfl 16 (by decide) (htx _ kw_5_103) (fun _ h9 => h9) rfl (by decide +kernel) rfl rfl (Nat.le_of_ble_eq_true rfl) dM_says_37 (fun H locs hP hD hS => ?_)
  obtain ⟨hP, hD⟩ : xPD D xcl A [(a2, .inl (cT 4, 1024, .inr (.inr (.inr (.inr f35))))), (a0, .inr (5, [v3, .ref a2, .int 1, v4, v5, v6, v7, v8, v9, v10, v11, v12, v13, v14, v15, .ref a1, .int 4, .int 4, v16, v17, v18, v19, v20, v21, v22, v23, v24, v25, v26, v27, v28, v29])), (a1, .inl (cT 0, 4096, .inl f30))] H := ⟨hP, hD⟩
  refine lv_iinc (v := 4) (lv' := [(3, .int 4), (0, .ref a0), (1, .ref (aK 10)), (2, .int 0)]) hx hb dM_says_40 hl (k := 0) rfl (by decide) (by decide) rfl (fun ls hl => ?_)
  refine lv_goto (tgt := 2) hx hb dM_says_43 (by decide) ?_
  refine lv_iload_n hx hb dM_says_2 rfl (lv_at hl 0 rfl) ?_
  refine lv_aload_n hx hb dM_says_3 rfl (lv_at hl 2 rfl) ?_
  obtain ⟨hPc, hDc, hFc⟩ := xcut (wc := []) hP hD hS hA [] rfl rfl (by decide)
  refine va_calli (va_runV (C := "java/lang/String") (As := []) (rest := [.int 4]) ⟨hx, hb, hml, hown, htx⟩ (cJS_length_0 l hl9 D cT aK aV H.size) ⟨callB_of 0 htx (xw_goodC kw_2_70) rfl rfl rfl (htx _ kw_1_6) (htx _ kw_5_238) ⟨by decide, by decide, by decide +kernel⟩ ⟨Nat.le_of_ble_eq_true rfl, Nat.le_of_ble_eq_true rfl⟩, (htx _ kw_2_68), (htx _ kw_2_69)⟩ ⟨xPre_blind, vk_recv hZ.2.2.2.2.2.2.2.2.2.1 (i := 10) (by decide) hS, (fun U hU hW => ⟨rfl, xPre_of hZ hS hFc hPc hDc hK U hU hW⟩)⟩ rfl rfl hl.1 rfl (lv_room (Nat.le_of_ble_eq_true rfl)) dM_says_4 ⟨Nat.le_of_ble_eq_true rfl, Nat.le_of_ble_eq_true rfl⟩) hS (fun q _ h => hFc q h) hFc (fun r13 u9 t H1 locs ht hvm hr9 hB hz1 hk1 hS => ?_)
  obtain ⟨hP1, hK1, hD1⟩ := hB
  rw [ht] at hP1
  obtain ⟨hP, hD⟩ := xjoin (W := [(a2, .inl (cT 4, 1024, .inr (.inr (.inr (.inr f35))))), (a0, .inr (5, [v3, .ref a2, .int 1, v4, v5, v6, v7, v8, v9, v10, v11, v12, v13, v14, v15, .ref a1, .int 4, .int 4, v16, v17, v18, v19, v20, v21, v22, v23, v24, v25, v26, v27, v28, v29])), (a1, .inl (cT 0, 4096, .inl f30))]) hP hD [] [0, 1, 2] 3 rfl rfl (by decide) (by decide) hk1 hFc hP1 hD1
  generalize H1 = H at hP hS ⊢
  rw [hr9]
  refine W.eq (g2 := F0 m 7 ls [.int 4, .int 4]) rfl ?_
  refine lv_icmp_ge (tgt := 46) hx hb dM_says_7 (by decide) (fun _ => ?_) (fun h => ((by revert h; decide : False)).elim)
  refine lv_aload_n hx hb dM_says_46 rfl (lv_at hl 1 rfl) ?_
  refine lv_iload_n hx hb dM_says_47 rfl (lv_at hl 3 rfl) ?_
  obtain ⟨hPc, hDc, hFc⟩ := xcut (wc := [(a0, .inr (5, [v3, .ref a2, .int 1, v4, v5, v6, v7, v8, v9, v10, v11, v12, v13, v14, v15, .ref a1, .int 4, .int 4, v16, v17, v18, v19, v20, v21, v22, v23, v24, v25, v26, v27, v28, v29])), (a2, .inl (cT 4, 1024, .inr (.inr (.inr (.inr f35)))))]) hP hD hS hA [1, 0] rfl rfl (by decide)
  refine va_callr (va_runV (C := "ValueBenchModel") (As := [.int 0]) (rest := []) ⟨hx, hb, hml, hown, htx⟩ (cM_fresh_8 l hl9 D cT aK aV H.size a0 a2 v3 v4 v5 v6 v7 v8 v9 v10 v11 v12 v13 v14 v15 (.ref a1) (.int 4) (.int 4) v16 v17 v18 v19 v20 v21 v22 v23 v24 v25 v26 v27 v28 v29 f35 (by first | rfl | exact h31 | exact h32 | exact h33 | exact h34 | exact h36)) ⟨callB_of 1 htx (xw_goodC kw_6_16) rfl rfl rfl (htx _ kw_1_5) (htx _ kw_6_13) ⟨by decide, by decide, by decide +kernel⟩ ⟨Nat.le_of_ble_eq_true rfl, Nat.le_of_ble_eq_true rfl⟩, (htx _ kw_6_15), (htx _ kp_M_fresh)⟩ ⟨xPre_blind, va_recv hK hP (ci := 5) rfl (q0 := 1) rfl, (fun U hU hW => ⟨rfl, xPre_of hZ hS hFc hPc hDc hK U hU hW⟩)⟩ rfl rfl hl.1 rfl (lv_room (Nat.le_of_ble_eq_true rfl)) dM_says_48 ⟨Nat.le_of_ble_eq_true rfl, Nat.le_of_ble_eq_true rfl⟩) hS (fun q _ h => hFc q h) hFc (fun u9 r14 t H1 locs ht hvm hr9 hB hz1 hk1 hS => ?_)
  obtain ⟨hP1, hK1, hD1⟩ := hB
  rw [ht] at hP1
  obtain ⟨hP, hD⟩ := xjoin (W := [(a1, .inl (cT 0, 4096, .inl f30)), (a0, .inr (5, [v3, .ref a2, .int 2, v4, v5, v6, v7, v8, v9, v10, v11, v12, v13, v14, v15, .ref a1, .int 4, .int 4, v16, v17, v18, v19, v20, v21, v22, v23, v24, v25, v26, v27, v28, v29])), (a2, .inl (cT 4, 1024, .inr (.inr (.inr (.inr (va_up f35 1 (some r14))))))), (r14, .inr (6, [.int 0, .long 0, .int 0, .int 0, .int 0, .int 1]))]) hP hD [1, 0] [2] 1 rfl rfl (by decide) (by decide) hk1 hFc hP1 hD1
  generalize H1 = H at hP hS ⊢
  refine W.eq (g2 := F0 m 51 ls [.ref r14]) rfl ?_
  obtain ⟨hP9, hD9⟩ := xsub (wc := [(a0, .inr (5, [v3, .ref a2, .int 2, v4, v5, v6, v7, v8, v9, v10, v11, v12, v13, v14, v15, .ref a1, .int 4, .int 4, v16, v17, v18, v19, v20, v21, v22, v23, v24, v25, v26, v27, v28, v29])), (a1, .inl (cT 0, 4096, .inl f30)), (a2, .inl (cT 4, 1024, .inr (.inr (.inr (.inr (va_up f35 1 (some r14))))))), (r14, .inr (6, [.int 0, .long 0, .int 0, .int 0, .int 0, .int 1]))]) hP hD [1, 0, 2, 3] rfl rfl (by decide)
  refine W.widen (k := 1) (n := 6) (Nat.le_of_ble_eq_true rfl) (Nat.le_of_ble_eq_true rfl) ?_
  exact W.aret hx hb hr (Or.inl ⟨_, rfl⟩) (Or.inr ⟨_, rfl⟩) (fun t ht hW => ⟨⟨(), r14, rfl, trivial, by rw [ht]; exact hP9, va_K.moved hW.alike hK, hD9⟩, hS.F ht⟩) hS.2.2 dM_says_51
set_option maxHeartbeats 400000000 in
set_option maxRecDepth 100000 in
theorem cM_value_5 (l : Launch) (hl9 : l.stackTraces = false) (D : va_G) (cT : Nat → ClassId) (aK aV : Nat → Nat) (sz : Nat) (a0 : Nat) (a1 : Nat) (a2 : Nat) (v3 : Value) (v4 : Value) (v5 : Value) (v6 : Value) (v7 : Value) (v8 : Value) (v9 : Value) (v10 : Value) (v11 : Value) (v12 : Value) (v13 : Value) (v14 : Value) (v15 : Value) (v16 : Value) (v17 : Value) (v18 : Value) (v19 : Value) (v20 : Value) (v21 : Value) (v22 : Value) (v23 : Value) (v24 : Value) (v25 : Value) (v26 : Value) (v27 : Value) (v28 : Value) (v29 : Value) (f30 : Nat → Int32) (f35 : Nat → Option Nat) (h31 : f30 0 = 110) (h32 : f30 1 = 117) (h33 : f30 2 = 108) (h34 : f30 3 = 108) (h36 : f35 1 = none) : xMet l yM_value wyM_value 5 1 6 108 D cT aK aV sz [.ref a0] [(a0, .inr (5, [v3, .ref a2, .int 1, v4, v5, v6, v7, v8, v9, v10, v11, v12, v13, v14, v15, .ref a1, .int 0, .int 4, v16, v17, v18, v19, v20, v21, v22, v23, v24, v25, v26, v27, v28, v29])), (a1, .inl (cT 0, 4096, .inl f30)), (a2, .inl (cT 4, 1024, .inr (.inr (.inr (.inr f35)))))] (fun A => va_Qr (fun _ : Unit => True) (fun _ r2 t => xB D xcl cT A [(a0, .inr (5, [v3, .ref a2, .int 2, v4, v5, v6, v7, v8, v9, v10, v11, v12, v13, v14, v15, .ref a1, .int 4, .int 4, v16, v17, v18, v19, v20, v21, v22, v23, v24, v25, v26, v27, v28, v29])), (a1, .inl (cT 0, 4096, .inl f30)), (a2, .inl (cT 4, 1024, .inr (.inr (.inr (.inr (va_up f35 1 (some r2))))))), (r2, .inr (6, [.int 0, .long 0, .int 0, .int 0, .int 0, .int 1]))] t) A) := by
  refine Met.ofW (cc := prog_13_method_34_code) (maxL := 3) (ret := (some (.object "ValueBenchModel$V"))) (by decide) rfl ?_
  intro p e s m args below meth c s₁ B hml hv
  obtain ⟨rfl, hsz, hZ, hP, hK, hD0⟩ := hv
  have hx := B.exec
  have hb := B.bytes
  have hr := B.returns
  have hts := atoms_spec (ws := wyM_value) B.pre
  have htx := fun w h => hts w (List.mem_cons_of_mem _ h)
  have hown : s.vm.findClass "ValueBenchModel" = some m.cls := findClass_of_methodNamed B.named
  have hlocks := B.notSynchronized
  subst hsz
  have hD := hD0.self (sz := s.heap.size)
  generalize hAe : va_A [(a0, .inr (5, [v3, .ref a2, .int 1, v4, v5, v6, v7, v8, v9, v10, v11, v12, v13, v14, v15, .ref a1, .int 0, .int 4, v16, v17, v18, v19, v20, v21, v22, v23, v24, v25, v26, v27, v28, v29])), (a1, .inl (cT 0, 4096, .inl f30)), (a2, .inl (cT 4, 1024, .inr (.inr (.inr (.inr f35)))))] s.heap.size = A at hD hZ ⊢
  have hA : ∀ q : Nat, s.heap.size ≤ q → A q := fun q h => by rw [← hAe]; exact Or.inr h
  have hS : va_S A s.heap s.heap [] := va_S.rf
  have hP : va_P D xcl [(a0, .inr (5, [v3, .ref a2, .int 1, v4, v5, v6, v7, v8, v9, v10, v11, v12, v13, v14, v15, .ref a1, .int 0, .int 4, v16, v17, v18, v19, v20, v21, v22, v23, v24, v25, v26, v27, v28, v29])), (a1, .inl (cT 0, 4096, .inl f30)), (a2, .inl (cT 4, 1024, .inr (.inr (.inr (.inr f35)))))] s.heap := hP
  have hl := lv_entry ([.ref a0]) (n := 3) (Nat.le_of_ble_eq_true rfl)
  rw [lg_entry_eq]
  generalize (lg_sl ([.ref a0]) ++ List.replicate (3 - (lg_sl ([.ref a0])).length) Slot.unset).toArray = ls at hl ⊢
  have hl : lv_has ls 3 [(0, .ref a0)] := hl
  refine lv_aload_n hx hb dM_value_0 rfl (lv_at hl 0 rfl) ?_
  obtain ⟨hPc, hDc, hFc⟩ := xcut (wc := [(a0, .inr (5, [v3, .ref a2, .int 1, v4, v5, v6, v7, v8, v9, v10, v11, v12, v13, v14, v15, .ref a1, .int 0, .int 4, v16, v17, v18, v19, v20, v21, v22, v23, v24, v25, v26, v27, v28, v29])), (a1, .inl (cT 0, 4096, .inl f30))]) hP hD hS hA [0, 1] rfl rfl (by decide)
  refine va_callv (va_runV (C := "ValueBenchModel") (As := []) (rest := []) ⟨hx, hb, hml, hown, htx⟩ (cM_blanks_1 l hl9 D cT aK aV s.heap.size a0 a1 v3 (.ref a2) (.int 1) v4 v5 v6 v7 v8 v9 v10 v11 v12 v13 v14 v15 v16 v17 v18 v19 v20 v21 v22 v23 v24 v25 v26 v27 v28 v29 f30 (by first | rfl | exact h31 | exact h32 | exact h33 | exact h34 | exact h36)) ⟨callB_of 0 htx (xw_goodC kw_5_229) rfl rfl rfl (htx _ kw_1_5) (htx _ kw_5_226) ⟨by decide, by decide, by decide +kernel⟩ ⟨Nat.le_of_ble_eq_true rfl, Nat.le_of_ble_eq_true rfl⟩, (htx _ kw_5_228), (htx _ kp_M_blanks)⟩ ⟨xPre_blind, va_recv hK hP (ci := 5) rfl (q0 := 0) rfl, (fun U hU hW => ⟨rfl, xPre_of hZ hS hFc hPc hDc hK U hU hW⟩)⟩ rfl rfl hl.1 rfl (lv_room (Nat.le_of_ble_eq_true rfl)) dM_value_1 ⟨Nat.le_of_ble_eq_true rfl, Nat.le_of_ble_eq_true rfl⟩) hS (fun q _ h => hFc q h) hFc (fun u9 t H1 locs ht hvm hr9 hB hz1 hk1 hS => ?_)
  obtain ⟨hP1, hK1, hD1⟩ := hB
  rw [ht] at hP1
  obtain ⟨hP, hD⟩ := xjoin (W := [(a2, .inl (cT 4, 1024, .inr (.inr (.inr (.inr f35))))), (a0, .inr (5, [v3, .ref a2, .int 1, v4, v5, v6, v7, v8, v9, v10, v11, v12, v13, v14, v15, .ref a1, .int 0, .int 4, v16, v17, v18, v19, v20, v21, v22, v23, v24, v25, v26, v27, v28, v29])), (a1, .inl (cT 0, 4096, .inl f30))]) hP hD [0, 1] [2] 1 rfl rfl (by decide) (by decide) hk1 hFc hP1 hD1
  generalize H1 = H at hP hS ⊢
  refine lv_aload_n hx hb dM_value_4 rfl (lv_at hl 0 rfl) ?_
  obtain ⟨hPc, hDc, hFc⟩ := xcut (wc := [(a0, .inr (5, [v3, .ref a2, .int 1, v4, v5, v6, v7, v8, v9, v10, v11, v12, v13, v14, v15, .ref a1, .int 0, .int 4, v16, v17, v18, v19, v20, v21, v22, v23, v24, v25, v26, v27, v28, v29])), (a1, .inl (cT 0, 4096, .inl f30))]) hP hD hS hA [1, 2] rfl rfl (by decide)
  refine va_calli (va_runV (C := "ValueBenchModel") (As := []) (rest := []) ⟨hx, hb, hml, hown, htx⟩ (cM_peek_1 l hl9 D cT aK aV H.size a0 a1 v3 (.ref a2) (.int 1) v4 v5 v6 v7 v8 v9 v10 v11 v12 v13 v14 v15 v16 v17 v18 v19 v20 v21 v22 v23 v24 v25 v26 v27 v28 v29 f30 (by first | rfl | exact h31 | exact h32 | exact h33 | exact h34 | exact h36)) ⟨callB_of 0 htx (xw_goodC kw_5_233) rfl rfl rfl (htx _ kw_1_5) (htx _ kw_5_230) ⟨by decide, by decide, by decide +kernel⟩ ⟨Nat.le_of_ble_eq_true rfl, Nat.le_of_ble_eq_true rfl⟩, (htx _ kw_5_232), (htx _ kp_M_peek)⟩ ⟨xPre_blind, va_recv hK hP (ci := 5) rfl (q0 := 1) rfl, (fun U hU hW => ⟨rfl, xPre_of hZ hS hFc hPc hDc hK U hU hW⟩)⟩ rfl rfl hl.1 rfl (lv_room (Nat.le_of_ble_eq_true rfl)) dM_value_5 ⟨Nat.le_of_ble_eq_true rfl, Nat.le_of_ble_eq_true rfl⟩) hS (fun q _ h => hFc q h) hFc (fun r1 u9 t H1 locs ht hvm hr9 hB hz1 hk1 hS => ?_)
  obtain ⟨hP1, hK1, hD1⟩ := hB
  rw [ht] at hP1
  obtain ⟨hP, hD⟩ := xjoin (W := [(a2, .inl (cT 4, 1024, .inr (.inr (.inr (.inr f35))))), (a0, .inr (5, [v3, .ref a2, .int 1, v4, v5, v6, v7, v8, v9, v10, v11, v12, v13, v14, v15, .ref a1, .int 0, .int 4, v16, v17, v18, v19, v20, v21, v22, v23, v24, v25, v26, v27, v28, v29])), (a1, .inl (cT 0, 4096, .inl f30))]) hP hD [1, 2] [0] 1 rfl rfl (by decide) (by decide) hk1 hFc hP1 hD1
  generalize H1 = H at hP hS ⊢
  rw [hr9]
  refine W.eq (g2 := F0 m 8 ls [.int 110]) rfl ?_
  refine lv_istore_n (lv' := [(1, .int 110), (0, .ref a0)]) hx hb dM_value_8 rfl hl (by decide) rfl (fun ls hl => ?_)
  refine lv_iload_n hx hb dM_value_9 rfl (lv_at hl 0 rfl) ?_
  refine lv_bipush (v := 110) hx hb dM_value_10 (by decide) ?_
  refine lv_icmp_ne (tgt := 23) hx hb dM_value_12 (by decide) (fun h => ((by revert h; decide : False)).elim) (fun _ => ?_)
  refine lv_aload_n hx hb dM_value_15 rfl (lv_at hl 1 rfl) ?_
  refine va_ldcS (q := aK 10) hx hb hown (hZ.2.2.2.2.2.2.2.2.1 ("ValueBenchModel", 69, "null", 10) (List.mem_of_getElem? (i := 17) rfl)) dM_value_16 ?_
  refine lv_iconst (v := 0) hx hb dM_value_18 (by decide) ?_
  obtain ⟨hPc, hDc, hFc⟩ := xcut (wc := [(a0, .inr (5, [v3, .ref a2, .int 1, v4, v5, v6, v7, v8, v9, v10, v11, v12, v13, v14, v15, .ref a1, .int 0, .int 4, v16, v17, v18, v19, v20, v21, v22, v23, v24, v25, v26, v27, v28, v29])), (a1, .inl (cT 0, 4096, .inl f30)), (a2, .inl (cT 4, 1024, .inr (.inr (.inr (.inr f35)))))]) hP hD hS hA [1, 2, 0] rfl rfl (by decide)
  refine va_callr (va_runV (C := "ValueBenchModel") (As := [.ref (aK 10), .int 0]) (rest := []) ⟨hx, hb, hml, hown, htx⟩ (cM_says_4 l hl9 D cT aK aV H.size a0 a1 a2 v3 v4 v5 v6 v7 v8 v9 v10 v11 v12 v13 v14 v15 v16 v17 v18 v19 v20 v21 v22 v23 v24 v25 v26 v27 v28 v29 f30 f35 (by first | rfl | exact h31 | exact h32 | exact h33 | exact h34 | exact h36) (by first | rfl | exact h31 | exact h32 | exact h33 | exact h34 | exact h36) (by first | rfl | exact h31 | exact h32 | exact h33 | exact h34 | exact h36) (by first | rfl | exact h31 | exact h32 | exact h33 | exact h34 | exact h36) (by first | rfl | exact h31 | exact h32 | exact h33 | exact h34 | exact h36)) ⟨callB_of 2 htx (xw_goodC kw_5_237) rfl rfl rfl (htx _ kw_1_5) (htx _ kw_5_234) ⟨by decide, by decide, by decide +kernel⟩ ⟨Nat.le_of_ble_eq_true rfl, Nat.le_of_ble_eq_true rfl⟩, (htx _ kw_5_236), (htx _ kp_M_says)⟩ ⟨xPre_blind, va_recv hK hP (ci := 5) rfl (q0 := 1) rfl, (fun U hU hW => ⟨rfl, xPre_of hZ hS hFc hPc hDc hK U hU hW⟩)⟩ rfl rfl hl.1 rfl (lv_room (Nat.le_of_ble_eq_true rfl)) dM_value_19 ⟨Nat.le_of_ble_eq_true rfl, Nat.le_of_ble_eq_true rfl⟩) hS (fun q _ h => hFc q h) hFc (fun u9 r2 t H1 locs ht hvm hr9 hB hz1 hk1 hS => ?_)
  obtain ⟨hP1, hK1, hD1⟩ := hB
  rw [ht] at hP1
  obtain ⟨hP, hD⟩ := xjoin (W := [(a0, .inr (5, [v3, .ref a2, .int 2, v4, v5, v6, v7, v8, v9, v10, v11, v12, v13, v14, v15, .ref a1, .int 4, .int 4, v16, v17, v18, v19, v20, v21, v22, v23, v24, v25, v26, v27, v28, v29])), (a1, .inl (cT 0, 4096, .inl f30)), (a2, .inl (cT 4, 1024, .inr (.inr (.inr (.inr (va_up f35 1 (some r2))))))), (r2, .inr (6, [.int 0, .long 0, .int 0, .int 0, .int 0, .int 1]))]) hP hD [1, 2, 0] [] 0 rfl rfl (by decide) (by decide) hk1 hFc hP1 hD1
  generalize H1 = H at hP hS ⊢
  refine W.eq (g2 := F0 m 22 ls [.ref r2]) rfl ?_
  obtain ⟨hP9, hD9⟩ := xsub (wc := [(a0, .inr (5, [v3, .ref a2, .int 2, v4, v5, v6, v7, v8, v9, v10, v11, v12, v13, v14, v15, .ref a1, .int 4, .int 4, v16, v17, v18, v19, v20, v21, v22, v23, v24, v25, v26, v27, v28, v29])), (a1, .inl (cT 0, 4096, .inl f30)), (a2, .inl (cT 4, 1024, .inr (.inr (.inr (.inr (va_up f35 1 (some r2))))))), (r2, .inr (6, [.int 0, .long 0, .int 0, .int 0, .int 0, .int 1]))]) hP hD [0, 1, 2, 3] rfl rfl (by decide)
  refine W.widen (k := 1) (n := 6) (Nat.le_of_ble_eq_true rfl) (Nat.le_of_ble_eq_true rfl) ?_
  exact W.aret hx hb hr (Or.inl ⟨_, rfl⟩) (Or.inr ⟨_, rfl⟩) (fun t ht hW => ⟨⟨(), r2, rfl, trivial, by rw [ht]; exact hP9, va_K.moved hW.alike hK, hD9⟩, hS.F ht⟩) hS.2.2 dM_value_22
set_option maxHeartbeats 400000000 in
set_option maxRecDepth 100000 in
theorem cM_json_5 (l : Launch) (hl9 : l.stackTraces = false) (D : va_G) (cT : Nat → ClassId) (aK aV : Nat → Nat) (sz : Nat) (a0 : Nat) (a1 : Nat) (a2 : Nat) (v3 : Value) (v4 : Value) (v5 : Value) (v6 : Value) (v7 : Value) (v8 : Value) (v9 : Value) (v10 : Value) (v11 : Value) (v12 : Value) (v13 : Value) (v14 : Value) (v15 : Value) (v16 : Value) (v17 : Value) (v18 : Value) (v19 : Value) (v20 : Value) (v21 : Value) (v22 : Value) (v23 : Value) (v24 : Value) (v25 : Value) (v26 : Value) (v27 : Value) (v28 : Value) (v29 : Value) (v30 : Value) (v31 : Value) (v32 : Value) (f33 : Nat → Int32) (f38 : Nat → Option Nat) (h34 : f33 0 = 110) (h35 : f33 1 = 117) (h36 : f33 2 = 108) (h37 : f33 3 = 108) (h39 : f38 1 = none) : xMet l yM_json wyM_json 6 1 6 130 D cT aK aV sz [.ref a0, .ref a1, .int 0, .int 4] [(a0, .inr (5, [v3, .ref a2, .int 1, v4, v5, v6, v7, v8, v9, v10, v11, v12, v13, v14, v15, v16, v17, v18, v19, v20, v21, v22, v23, v24, v25, v26, v27, v28, v29, v30, v31, v32])), (a1, .inl (cT 0, 4096, .inl f33)), (a2, .inl (cT 4, 1024, .inr (.inr (.inr (.inr f38)))))] (fun A => va_Qr (fun _ : Unit => True) (fun _ r1 t => xB D xcl cT A [(a0, .inr (5, [v3, .ref a2, .int 2, v4, v5, v6, v7, v8, v9, v10, v11, v12, v13, v14, v15, .ref a1, .int 4, .int 4, .int 0, v20, v21, v22, v23, v24, v25, v26, v27, v28, v29, v30, v31, v32])), (a1, .inl (cT 0, 4096, .inl f33)), (a2, .inl (cT 4, 1024, .inr (.inr (.inr (.inr (va_up f38 1 (some r1))))))), (r1, .inr (6, [.int 0, .long 0, .int 0, .int 0, .int 0, .int 1]))] t) A) := by
  refine Met.ofW (cc := prog_13_method_32_code) (maxL := 5) (ret := (some (.object "ValueBenchModel$V"))) (by decide) rfl ?_
  intro p e s m args below meth c s₁ B hml hv
  obtain ⟨rfl, hsz, hZ, hP, hK, hD0⟩ := hv
  have hx := B.exec
  have hb := B.bytes
  have hr := B.returns
  have hts := atoms_spec (ws := wyM_json) B.pre
  have htx := fun w h => hts w (List.mem_cons_of_mem _ h)
  have hown : s.vm.findClass "ValueBenchModel" = some m.cls := findClass_of_methodNamed B.named
  have hlocks := B.notSynchronized
  subst hsz
  have hD := hD0.self (sz := s.heap.size)
  generalize hAe : va_A [(a0, .inr (5, [v3, .ref a2, .int 1, v4, v5, v6, v7, v8, v9, v10, v11, v12, v13, v14, v15, v16, v17, v18, v19, v20, v21, v22, v23, v24, v25, v26, v27, v28, v29, v30, v31, v32])), (a1, .inl (cT 0, 4096, .inl f33)), (a2, .inl (cT 4, 1024, .inr (.inr (.inr (.inr f38)))))] s.heap.size = A at hD hZ ⊢
  have hA : ∀ q : Nat, s.heap.size ≤ q → A q := fun q h => by rw [← hAe]; exact Or.inr h
  have hS : va_S A s.heap s.heap [] := va_S.rf
  have hP : va_P D xcl [(a0, .inr (5, [v3, .ref a2, .int 1, v4, v5, v6, v7, v8, v9, v10, v11, v12, v13, v14, v15, v16, v17, v18, v19, v20, v21, v22, v23, v24, v25, v26, v27, v28, v29, v30, v31, v32])), (a1, .inl (cT 0, 4096, .inl f33)), (a2, .inl (cT 4, 1024, .inr (.inr (.inr (.inr f38)))))] s.heap := hP
  have hl := lv_entry ([.ref a0, .ref a1, .int 0, .int 4]) (n := 5) (Nat.le_of_ble_eq_true rfl)
  rw [lg_entry_eq]
  generalize (lg_sl ([.ref a0, .ref a1, .int 0, .int 4]) ++ List.replicate (5 - (lg_sl ([.ref a0, .ref a1, .int 0, .int 4])).length) Slot.unset).toArray = ls at hl ⊢
  have hl : lv_has ls 5 [(0, .ref a0), (1, .ref a1), (2, .int 0), (3, .int 4)] := hl
  refine lv_aload_n hx hb dM_json_0 rfl (lv_at hl 0 rfl) ?_
  refine lv_aload_n hx hb dM_json_1 rfl (lv_at hl 1 rfl) ?_
  refine va_put (D := D) (ci := 5) (v := .ref a1) (ty := (.array .byte)) (C := "ValueBenchModel") (T := TM) (N := 32) hx hb htx inM tyM tyM_ok nmM hown hK hP hD hS 0 rfl rfl 15 (by decide) (htx _ kw_5_102) (fun _ h9 => h9) rfl (by decide +kernel) rfl rfl (Nat.le_of_ble_eq_true rfl) dM_json_2 (fun H locs hP hD hS => ?_)
  obtain ⟨hP, hD⟩ : xPD D xcl A [(a0, .inr (5, [v3, .ref a2, .int 1, v4, v5, v6, v7, v8, v9, v10, v11, v12, v13, v14, v15, .ref a1, v17, v18, v19, v20, v21, v22, v23, v24, v25, v26, v27, v28, v29, v30, v31, v32])), (a1, .inl (cT 0, 4096, .inl f33)), (a2, .inl (cT 4, 1024, .inr (.inr (.inr (.inr f38)))))] H := ⟨hP, hD⟩
  refine lv_aload_n hx hb dM_json_5 rfl (lv_at hl 0 rfl) ?_
  refine lv_iload_n hx hb dM_json_6 rfl (lv_at hl 2 rfl) ?_
  refine va_put (D := D) (ci := 5) (v := .int 0) (ty := .int) (C := "ValueBenchModel") (T := TM) (N := 32) hx hb htx inM tyM tyM_ok nmM hown hK hP hD hS 0 rfl rfl 16 (by decide) (htx _ kw_5_103) (fun _ h9 => h9) rfl (by decide +kernel) rfl rfl (Nat.le_of_ble_eq_true rfl) dM_json_7 (fun H locs hP hD hS => ?_)
  obtain ⟨hP, hD⟩ : xPD D xcl A [(a0, .inr (5, [v3, .ref a2, .int 1, v4, v5, v6, v7, v8, v9, v10, v11, v12, v13, v14, v15, .ref a1, .int 0, v18, v19, v20, v21, v22, v23, v24, v25, v26, v27, v28, v29, v30, v31, v32])), (a1, .inl (cT 0, 4096, .inl f33)), (a2, .inl (cT 4, 1024, .inr (.inr (.inr (.inr f38)))))] H := ⟨hP, hD⟩
  refine lv_aload_n hx hb dM_json_10 rfl (lv_at hl 0 rfl) ?_
  refine lv_iload_n hx hb dM_json_11 rfl (lv_at hl 3 rfl) ?_
  refine va_put (D := D) (ci := 5) (v := .int 4) (ty := .int) (C := "ValueBenchModel") (T := TM) (N := 32) hx hb htx inM tyM tyM_ok nmM hown hK hP hD hS 0 rfl rfl 17 (by decide) (htx _ kw_5_104) (fun _ h9 => h9) rfl (by decide +kernel) rfl rfl (Nat.le_of_ble_eq_true rfl) dM_json_12 (fun H locs hP hD hS => ?_)
  obtain ⟨hP, hD⟩ : xPD D xcl A [(a0, .inr (5, [v3, .ref a2, .int 1, v4, v5, v6, v7, v8, v9, v10, v11, v12, v13, v14, v15, .ref a1, .int 0, .int 4, v19, v20, v21, v22, v23, v24, v25, v26, v27, v28, v29, v30, v31, v32])), (a1, .inl (cT 0, 4096, .inl f33)), (a2, .inl (cT 4, 1024, .inr (.inr (.inr (.inr f38)))))] H := ⟨hP, hD⟩
  refine lv_aload_n hx hb dM_json_15 rfl (lv_at hl 0 rfl) ?_
  refine lv_iconst (v := 0) hx hb dM_json_16 (by decide) ?_
  refine va_put (D := D) (ci := 5) (v := .int 0) (ty := .int) (C := "ValueBenchModel") (T := TM) (N := 32) hx hb htx inM tyM tyM_ok nmM hown hK hP hD hS 0 rfl rfl 18 (by decide) (htx _ kw_5_105) (fun _ h9 => h9) rfl (by decide +kernel) rfl rfl (Nat.le_of_ble_eq_true rfl) dM_json_17 (fun H locs hP hD hS => ?_)
  obtain ⟨hP, hD⟩ : xPD D xcl A [(a0, .inr (5, [v3, .ref a2, .int 1, v4, v5, v6, v7, v8, v9, v10, v11, v12, v13, v14, v15, .ref a1, .int 0, .int 4, .int 0, v20, v21, v22, v23, v24, v25, v26, v27, v28, v29, v30, v31, v32])), (a1, .inl (cT 0, 4096, .inl f33)), (a2, .inl (cT 4, 1024, .inr (.inr (.inr (.inr f38)))))] H := ⟨hP, hD⟩
  refine lv_aload_n hx hb dM_json_20 rfl (lv_at hl 0 rfl) ?_
  obtain ⟨hPc, hDc, hFc⟩ := xcut (wc := [(a0, .inr (5, [v3, .ref a2, .int 1, v4, v5, v6, v7, v8, v9, v10, v11, v12, v13, v14, v15, .ref a1, .int 0, .int 4, .int 0, v20, v21, v22, v23, v24, v25, v26, v27, v28, v29, v30, v31, v32])), (a1, .inl (cT 0, 4096, .inl f33)), (a2, .inl (cT 4, 1024, .inr (.inr (.inr (.inr f38)))))]) hP hD hS hA [0, 1, 2] rfl rfl (by decide)
  refine va_callr (va_runV (C := "ValueBenchModel") (As := []) (rest := []) ⟨hx, hb, hml, hown, htx⟩ (cM_value_5 l hl9 D cT aK aV H.size a0 a1 a2 v3 v4 v5 v6 v7 v8 v9 v10 v11 v12 v13 v14 v15 (.int 0) v20 v21 v22 v23 v24 v25 v26 v27 v28 v29 v30 v31 v32 f33 f38 (by first | rfl | exact h34 | exact h35 | exact h36 | exact h37 | exact h39) (by first | rfl | exact h34 | exact h35 | exact h36 | exact h37 | exact h39) (by first | rfl | exact h34 | exact h35 | exact h36 | exact h37 | exact h39) (by first | rfl | exact h34 | exact h35 | exact h36 | exact h37 | exact h39) (by first | rfl | exact h34 | exact h35 | exact h36 | exact h37 | exact h39)) ⟨callB_of 0 htx (xw_goodC kw_5_225) rfl rfl rfl (htx _ kw_1_5) (htx _ kw_5_222) ⟨by decide, by decide, by decide +kernel⟩ ⟨Nat.le_of_ble_eq_true rfl, Nat.le_of_ble_eq_true rfl⟩, (htx _ kw_5_224), (htx _ kp_M_value)⟩ ⟨xPre_blind, va_recv hK hP (ci := 5) rfl (q0 := 0) rfl, (fun U hU hW => ⟨rfl, xPre_of hZ hS hFc hPc hDc hK U hU hW⟩)⟩ rfl rfl hl.1 rfl (lv_room (Nat.le_of_ble_eq_true rfl)) dM_json_21 ⟨Nat.le_of_ble_eq_true rfl, Nat.le_of_ble_eq_true rfl⟩) hS (fun q _ h => hFc q h) hFc (fun u9 r1 t H1 locs ht hvm hr9 hB hz1 hk1 hS => ?_)
  obtain ⟨hP1, hK1, hD1⟩ := hB
  rw [ht] at hP1
  obtain ⟨hP, hD⟩ := xjoin (W := [(a0, .inr (5, [v3, .ref a2, .int 2, v4, v5, v6, v7, v8, v9, v10, v11, v12, v13, v14, v15, .ref a1, .int 4, .int 4, .int 0, v20, v21, v22, v23, v24, v25, v26, v27, v28, v29, v30, v31, v32])), (a1, .inl (cT 0, 4096, .inl f33)), (a2, .inl (cT 4, 1024, .inr (.inr (.inr (.inr (va_up f38 1 (some r1))))))), (r1, .inr (6, [.int 0, .long 0, .int 0, .int 0, .int 0, .int 1]))]) hP hD [0, 1, 2] [] 0 rfl rfl (by decide) (by decide) hk1 hFc hP1 hD1
  generalize H1 = H at hP hS ⊢
  refine W.eq (g2 := F0 m 24 ls [.ref r1]) rfl ?_
  refine lv_astore (lv' := [(4, .ref r1), (0, .ref a0), (1, .ref a1), (2, .int 0), (3, .int 4)]) hx hb dM_json_24 hl (by decide) rfl (fun ls hl => ?_)
  refine lv_aload_n hx hb dM_json_26 rfl (lv_at hl 1 rfl) ?_
  obtain ⟨hPc, hDc, hFc⟩ := xcut (wc := [(a0, .inr (5, [v3, .ref a2, .int 2, v4, v5, v6, v7, v8, v9, v10, v11, v12, v13, v14, v15, .ref a1, .int 4, .int 4, .int 0, v20, v21, v22, v23, v24, v25, v26, v27, v28, v29, v30, v31, v32]))]) hP hD hS hA [0] rfl rfl (by decide)
  refine va_callv (va_runV (C := "ValueBenchModel") (As := []) (rest := []) ⟨hx, hb, hml, hown, htx⟩ (cM_blanks_2 l hl9 D cT aK aV H.size a0 v3 (.ref a2) (.int 2) v4 v5 v6 v7 v8 v9 v10 v11 v12 v13 v14 v15 (.ref a1) (.int 0) v20 v21 v22 v23 v24 v25 v26 v27 v28 v29 v30 v31 v32) ⟨callB_of 0 htx (xw_goodC kw_5_229) rfl rfl rfl (htx _ kw_1_5) (htx _ kw_5_226) ⟨by decide, by decide, by decide +kernel⟩ ⟨Nat.le_of_ble_eq_true rfl, Nat.le_of_ble_eq_true rfl⟩, (htx _ kw_5_228), (htx _ kp_M_blanks)⟩ ⟨xPre_blind, va_recv hK hP (ci := 5) rfl (q0 := 0) rfl, (fun U hU hW => ⟨rfl, xPre_of hZ hS hFc hPc hDc hK U hU hW⟩)⟩ rfl rfl hl.1 rfl (lv_room (Nat.le_of_ble_eq_true rfl)) dM_json_27 ⟨Nat.le_of_ble_eq_true rfl, Nat.le_of_ble_eq_true rfl⟩) hS (fun q _ h => hFc q h) hFc (fun u9 t H1 locs ht hvm hr9 hB hz1 hk1 hS => ?_)
  obtain ⟨hP1, hK1, hD1⟩ := hB
  rw [ht] at hP1
  obtain ⟨hP, hD⟩ := xjoin (W := [(a1, .inl (cT 0, 4096, .inl f33)), (a2, .inl (cT 4, 1024, .inr (.inr (.inr (.inr (va_up f38 1 (some r1))))))), (r1, .inr (6, [.int 0, .long 0, .int 0, .int 0, .int 0, .int 1])), (a0, .inr (5, [v3, .ref a2, .int 2, v4, v5, v6, v7, v8, v9, v10, v11, v12, v13, v14, v15, .ref a1, .int 4, .int 4, .int 0, v20, v21, v22, v23, v24, v25, v26, v27, v28, v29, v30, v31, v32]))]) hP hD [0] [1, 2, 3] 3 rfl rfl (by decide) (by decide) hk1 hFc hP1 hD1
  generalize H1 = H at hP hS ⊢
  refine lv_aload_n hx hb dM_json_30 rfl (lv_at hl 1 rfl) ?_
  refine va_get (D := D) (ci := 5) (v := .int 4) (C := "ValueBenchModel") (T := TM) (N := 32) hx hb htx inM hown hK hP 3 rfl rfl 16 (by decide) (htx _ kw_5_103) (fun _ h9 => h9) rfl dM_json_31 ?_
  refine lv_aload_n hx hb dM_json_34 rfl (lv_at hl 1 rfl) ?_
  refine va_get (D := D) (ci := 5) (v := .int 4) (C := "ValueBenchModel") (T := TM) (N := 32) hx hb htx inM hown hK hP 3 rfl rfl 17 (by decide) (htx _ kw_5_104) (fun _ h9 => h9) rfl dM_json_35 ?_
  refine lv_icmp_ge (tgt := 49) hx hb dM_json_38 (by decide) (fun _ => ?_) (fun h => ((by revert h; decide : False)).elim)
  refine lv_aload hx hb dM_json_49 (lv_at hl 0 rfl) ?_
  obtain ⟨hP9, hD9⟩ := xsub (wc := [(a0, .inr (5, [v3, .ref a2, .int 2, v4, v5, v6, v7, v8, v9, v10, v11, v12, v13, v14, v15, .ref a1, .int 4, .int 4, .int 0, v20, v21, v22, v23, v24, v25, v26, v27, v28, v29, v30, v31, v32])), (a1, .inl (cT 0, 4096, .inl f33)), (a2, .inl (cT 4, 1024, .inr (.inr (.inr (.inr (va_up f38 1 (some r1))))))), (r1, .inr (6, [.int 0, .long 0, .int 0, .int 0, .int 0, .int 1]))]) hP hD [3, 0, 1, 2] rfl rfl (by decide)
  refine W.widen (k := 1) (n := 6) (Nat.le_of_ble_eq_true rfl) (Nat.le_of_ble_eq_true rfl) ?_
  exact W.aret hx hb hr (Or.inl ⟨_, rfl⟩) (Or.inr ⟨_, rfl⟩) (fun t ht hW => ⟨⟨(), r1, rfl, trivial, by rw [ht]; exact hP9, va_K.moved hW.alike hK, hD9⟩, hS.F ht⟩) hS.2.2 dM_json_51
set_option maxHeartbeats 400000000 in
set_option maxRecDepth 100000 in
theorem cM_register_4 (l : Launch) (hl9 : l.stackTraces = false) (D : va_G) (cT : Nat → ClassId) (aK aV : Nat → Nat) (sz : Nat) (a0 : Nat) (a1 : Nat) (a2 : Nat) (a3 : Nat) (a4 : Nat) (x5 : Int32) (v10 : Value) (v11 : Value) (v12 : Value) (v13 : Value) (v14 : Value) (v15 : Value) (v16 : Value) (v17 : Value) (v18 : Value) (v19 : Value) (v20 : Value) (v21 : Value) (v22 : Value) (v23 : Value) (v24 : Value) (v25 : Value) (v26 : Value) (v27 : Value) (v28 : Value) (v29 : Value) (v30 : Value) (v31 : Value) (v32 : Value) (v33 : Value) (v34 : Value) (v35 : Value) (v36 : Value) (v37 : Value) (f38 : Nat → Option Nat) (f40 : Nat → Int32) (f42 : Nat → Int32) (f47 : Nat → Option Nat) (h6 : ¬ x5 < 0) (h7 : ¬ 7 < x5) (h8 : x5 ≤ 7) (h9 : vp_in x5 8) (h39 : f38 x5.toNatClampNeg = some a3) (h41 : f40 x5.toNatClampNeg = 4) (h43 : f42 0 = 110) (h44 : f42 1 = 117) (h45 : f42 2 = 108) (h46 : f42 3 = 108) (h48 : f47 1 = none) : xMet l yM_register wyM_register 7 1 6 154 D cT aK aV sz [.ref a0, .int x5] [(a0, .inr (5, [v10, .ref a4, .int 1, v11, v12, v13, v14, v15, v16, v17, v18, v19, v20, v21, v22, v23, v24, v25, v26, v27, v28, v29, v30, v31, .ref a1, .ref a2, v32, v33, v34, v35, v36, v37])), (a1, .inl (cT 5, 8, .inr (.inr (.inr (.inr f38))))), (a2, .inl (cT 1, 8, .inl f40)), (a3, .inl (cT 0, 4096, .inl f42)), (a4, .inl (cT 4, 1024, .inr (.inr (.inr (.inr f47)))))] (fun A => va_Qr (fun _ : Unit => True) (fun _ r1 t => xB D xcl cT A [(a0, .inr (5, [v10, .ref a4, .int 2, v11, v12, v13, v14, v15, v16, v17, v18, v19, v20, v21, v22, .ref a3, .int 4, .int 4, .int 0, .int 100, v28, v29, v30, v31, .ref a1, .ref a2, v32, v33, v34, v35, v36, v37])), (a1, .inl (cT 5, 8, .inr (.inr (.inr (.inr f38))))), (a2, .inl (cT 1, 8, .inl f40)), (a3, .inl (cT 0, 4096, .inl f42)), (a4, .inl (cT 4, 1024, .inr (.inr (.inr (.inr (va_up f47 1 (some r1))))))), (r1, .inr (6, [.int 0, .long 0, .int 0, .int 0, .int 0, .int 1]))] t) A) := by
  refine Met.ofW (cc := prog_13_method_79_code) (maxL := 2) (ret := (some (.object "ValueBenchModel$V"))) (by decide) rfl ?_
  intro p e s m args below meth c s₁ B hml hv
  obtain ⟨rfl, hsz, hZ, hP, hK, hD0⟩ := hv
  have hx := B.exec
  have hb := B.bytes
  have hr := B.returns
  have hts := atoms_spec (ws := wyM_register) B.pre
  have htx := fun w h => hts w (List.mem_cons_of_mem _ h)
  have hown : s.vm.findClass "ValueBenchModel" = some m.cls := findClass_of_methodNamed B.named
  have hlocks := B.notSynchronized
  subst hsz
  have hD := hD0.self (sz := s.heap.size)
  generalize hAe : va_A [(a0, .inr (5, [v10, .ref a4, .int 1, v11, v12, v13, v14, v15, v16, v17, v18, v19, v20, v21, v22, v23, v24, v25, v26, v27, v28, v29, v30, v31, .ref a1, .ref a2, v32, v33, v34, v35, v36, v37])), (a1, .inl (cT 5, 8, .inr (.inr (.inr (.inr f38))))), (a2, .inl (cT 1, 8, .inl f40)), (a3, .inl (cT 0, 4096, .inl f42)), (a4, .inl (cT 4, 1024, .inr (.inr (.inr (.inr f47)))))] s.heap.size = A at hD hZ ⊢
  have hA : ∀ q : Nat, s.heap.size ≤ q → A q := fun q h => by rw [← hAe]; exact Or.inr h
  have hS : va_S A s.heap s.heap [] := va_S.rf
  have hP : va_P D xcl [(a0, .inr (5, [v10, .ref a4, .int 1, v11, v12, v13, v14, v15, v16, v17, v18, v19, v20, v21, v22, v23, v24, v25, v26, v27, v28, v29, v30, v31, .ref a1, .ref a2, v32, v33, v34, v35, v36, v37])), (a1, .inl (cT 5, 8, .inr (.inr (.inr (.inr f38))))), (a2, .inl (cT 1, 8, .inl f40)), (a3, .inl (cT 0, 4096, .inl f42)), (a4, .inl (cT 4, 1024, .inr (.inr (.inr (.inr f47)))))] s.heap := hP
  have hl := lv_entry ([.ref a0, .int x5]) (n := 2) (Nat.le_of_ble_eq_true rfl)
  rw [lg_entry_eq]
  generalize (lg_sl ([.ref a0, .int x5]) ++ List.replicate (2 - (lg_sl ([.ref a0, .int x5])).length) Slot.unset).toArray = ls at hl ⊢
  have hl : lv_has ls 2 [(0, .ref a0), (1, .int x5)] := hl
  refine lv_aload_n hx hb dM_register_0 rfl (lv_at hl 0 rfl) ?_
  refine lv_bipush (v := 100) hx hb dM_register_1 (by decide) ?_
  refine va_put (D := D) (ci := 5) (v := .int 100) (ty := .int) (C := "ValueBenchModel") (T := TM) (N := 32) hx hb htx inM tyM tyM_ok nmM hown hK hP hD hS 0 rfl rfl 19 (by decide) (htx _ kw_5_106) (fun _ h9 => h9) rfl (by decide +kernel) rfl rfl (Nat.le_of_ble_eq_true rfl) dM_register_3 (fun H locs hP hD hS => ?_)
  obtain ⟨hP, hD⟩ : xPD D xcl A [(a0, .inr (5, [v10, .ref a4, .int 1, v11, v12, v13, v14, v15, v16, v17, v18, v19, v20, v21, v22, v23, v24, v25, v26, .int 100, v28, v29, v30, v31, .ref a1, .ref a2, v32, v33, v34, v35, v36, v37])), (a1, .inl (cT 5, 8, .inr (.inr (.inr (.inr f38))))), (a2, .inl (cT 1, 8, .inl f40)), (a3, .inl (cT 0, 4096, .inl f42)), (a4, .inl (cT 4, 1024, .inr (.inr (.inr (.inr f47)))))] H := ⟨hP, hD⟩
  refine lv_aload_n hx hb dM_register_6 rfl (lv_at hl 0 rfl) ?_
  refine lv_aload_n hx hb dM_register_7 rfl (lv_at hl 0 rfl) ?_
  refine va_get (D := D) (ci := 5) (v := .ref a1) (C := "ValueBenchModel") (T := TM) (N := 32) hx hb htx inM hown hK hP 0 rfl rfl 24 (by decide) (htx _ kw_5_111) (fun _ h9 => h9) rfl dM_register_8 ?_
  refine lv_iload_n hx hb dM_register_11 rfl (lv_at hl 1 rfl) ?_
  refine xx_aldA hx hb hK hP 1 5 rfl rfl h9 dM_register_12 ?_
  refine W.eq (g2 := F0 m 13 ls [va_rf (f38 x5.toNatClampNeg), .ref a0]) rfl ?_
  rw [h39]
  refine W.eq (g2 := F0 m 13 ls [.ref a3, .ref a0]) rfl ?_
  refine lv_iconst (v := 0) hx hb dM_register_13 (by decide) ?_
  refine lv_aload_n hx hb dM_register_14 rfl (lv_at hl 0 rfl) ?_
  refine va_get (D := D) (ci := 5) (v := .ref a2) (C := "ValueBenchModel") (T := TM) (N := 32) hx hb htx inM hown hK hP 0 rfl rfl 25 (by decide) (htx _ kw_5_112) (fun _ h9 => h9) rfl dM_register_15 ?_
  refine lv_iload_n hx hb dM_register_18 rfl (lv_at hl 1 rfl) ?_
  refine va_iald hx hb hK hP 2 1 rfl rfl h9 dM_register_19 ?_
  refine W.eq (g2 := F0 m 20 ls [.int (f40 x5.toNatClampNeg), .int 0, .ref a3, .ref a0]) rfl ?_
  rw [h41]
  refine W.eq (g2 := F0 m 20 ls [.int 4, .int 0, .ref a3, .ref a0]) rfl ?_
  obtain ⟨hPc, hDc, hFc⟩ := xcut (wc := [(a0, .inr (5, [v10, .ref a4, .int 1, v11, v12, v13, v14, v15, v16, v17, v18, v19, v20, v21, v22, v23, v24, v25, v26, .int 100, v28, v29, v30, v31, .ref a1, .ref a2, v32, v33, v34, v35, v36, v37])), (a3, .inl (cT 0, 4096, .inl f42)), (a4, .inl (cT 4, 1024, .inr (.inr (.inr (.inr f47)))))]) hP hD hS hA [0, 3, 4] rfl rfl (by decide)
  refine va_callr (va_runV (C := "ValueBenchModel") (As := [.ref a3, .int 0, .int 4]) (rest := []) ⟨hx, hb, hml, hown, htx⟩ (cM_json_5 l hl9 D cT aK aV H.size a0 a3 a4 v10 v11 v12 v13 v14 v15 v16 v17 v18 v19 v20 v21 v22 v23 v24 v25 v26 (.int 100) v28 v29 v30 v31 (.ref a1) (.ref a2) v32 v33 v34 v35 v36 v37 f42 f47 (by first | rfl | exact h39 | exact h41 | exact h43 | exact h44 | exact h45 | exact h46 | exact h48) (by first | rfl | exact h39 | exact h41 | exact h43 | exact h44 | exact h45 | exact h46 | exact h48) (by first | rfl | exact h39 | exact h41 | exact h43 | exact h44 | exact h45 | exact h46 | exact h48) (by first | rfl | exact h39 | exact h41 | exact h43 | exact h44 | exact h45 | exact h46 | exact h48) (by first | rfl | exact h39 | exact h41 | exact h43 | exact h44 | exact h45 | exact h46 | exact h48)) ⟨callB_of 3 htx (xw_goodC kw_5_221) rfl rfl rfl (htx _ kw_1_5) (htx _ kw_5_218) ⟨by decide, by decide, by decide +kernel⟩ ⟨Nat.le_of_ble_eq_true rfl, Nat.le_of_ble_eq_true rfl⟩, (htx _ kw_5_220), (htx _ kp_M_json)⟩ ⟨xPre_blind, va_recv hK hP (ci := 5) rfl (q0 := 0) rfl, (fun U hU hW => ⟨rfl, xPre_of hZ hS hFc hPc hDc hK U hU hW⟩)⟩ rfl rfl hl.1 rfl (lv_room (Nat.le_of_ble_eq_true rfl)) dM_register_20 ⟨Nat.le_of_ble_eq_true rfl, Nat.le_of_ble_eq_true rfl⟩) hS (fun q _ h => hFc q h) hFc (fun u9 r1 t H1 locs ht hvm hr9 hB hz1 hk1 hS => ?_)
  obtain ⟨hP1, hK1, hD1⟩ := hB
  rw [ht] at hP1
  obtain ⟨hP, hD⟩ := xjoin (W := [(a1, .inl (cT 5, 8, .inr (.inr (.inr (.inr f38))))), (a2, .inl (cT 1, 8, .inl f40)), (a0, .inr (5, [v10, .ref a4, .int 2, v11, v12, v13, v14, v15, v16, v17, v18, v19, v20, v21, v22, .ref a3, .int 4, .int 4, .int 0, .int 100, v28, v29, v30, v31, .ref a1, .ref a2, v32, v33, v34, v35, v36, v37])), (a3, .inl (cT 0, 4096, .inl f42)), (a4, .inl (cT 4, 1024, .inr (.inr (.inr (.inr (va_up f47 1 (some r1))))))), (r1, .inr (6, [.int 0, .long 0, .int 0, .int 0, .int 0, .int 1]))]) hP hD [0, 3, 4] [1, 2] 2 rfl rfl (by decide) (by decide) hk1 hFc hP1 hD1
  generalize H1 = H at hP hS ⊢
  refine W.eq (g2 := F0 m 23 ls [.ref r1]) rfl ?_
  obtain ⟨hP9, hD9⟩ := xsub (wc := [(a0, .inr (5, [v10, .ref a4, .int 2, v11, v12, v13, v14, v15, v16, v17, v18, v19, v20, v21, v22, .ref a3, .int 4, .int 4, .int 0, .int 100, v28, v29, v30, v31, .ref a1, .ref a2, v32, v33, v34, v35, v36, v37])), (a1, .inl (cT 5, 8, .inr (.inr (.inr (.inr f38))))), (a2, .inl (cT 1, 8, .inl f40)), (a3, .inl (cT 0, 4096, .inl f42)), (a4, .inl (cT 4, 1024, .inr (.inr (.inr (.inr (va_up f47 1 (some r1))))))), (r1, .inr (6, [.int 0, .long 0, .int 0, .int 0, .int 0, .int 1]))]) hP hD [2, 0, 1, 3, 4, 5] rfl rfl (by decide)
  refine W.widen (k := 1) (n := 6) (Nat.le_of_ble_eq_true rfl) (Nat.le_of_ble_eq_true rfl) ?_
  exact W.aret hx hb hr (Or.inl ⟨_, rfl⟩) (Or.inr ⟨_, rfl⟩) (fun t ht hW => ⟨⟨(), r1, rfl, trivial, by rw [ht]; exact hP9, va_K.moved hW.alike hK, hD9⟩, hS.F ht⟩) hS.2.2 dM_register_23
set_option maxHeartbeats 400000000 in
set_option maxRecDepth 100000 in
theorem cM_alike_0 (l : Launch) (hl9 : l.stackTraces = false) (D : va_G) (cT : Nat → ClassId) (aK aV : Nat → Nat) (sz : Nat) (a0 : Nat) (a1 : Nat) (b2 : Nat) (v3 : Value) (v4 : Value) (v5 : Value) (v6 : Value) (v7 : Value) (v8 : Value) (v9 : Value) (v10 : Value) (v11 : Value) (v12 : Value) : xMet l yM_alike wyM_alike 0 0 0 0 D cT aK aV sz [.ref b2, .ref a0, .ref a1] [(a0, .inr (6, [.int 0, v3, v4, v5, v6, v7])), (a1, .inr (6, [.int 0, v8, v9, v10, v11, v12]))] (fun A => va_Qi (fun (r : Int32) (_ : Unit) => r = 1) (fun _ t => xB D xcl cT A [(a0, .inr (6, [.int 0, v3, v4, v5, v6, v7])), (a1, .inr (6, [.int 0, v8, v9, v10, v11, v12]))] t) A) := by
  refine Met.ofW (cc := prog_13_method_69_code) (maxL := 3) (ret := (some .boolean)) (by decide) rfl ?_
  intro p e s m args below meth c s₁ B hml hv
  obtain ⟨rfl, hsz, hZ, hP, hK, hD0⟩ := hv
  have hx := B.exec
  have hb := B.bytes
  have hr := B.returns
  have hts := atoms_spec (ws := wyM_alike) B.pre
  have htx := fun w h => hts w (List.mem_cons_of_mem _ h)
  have hown : s.vm.findClass "ValueBenchModel" = some m.cls := findClass_of_methodNamed B.named
  have hlocks := B.notSynchronized
  subst hsz
  have hD := hD0.self (sz := s.heap.size)
  generalize hAe : va_A [(a0, .inr (6, [.int 0, v3, v4, v5, v6, v7])), (a1, .inr (6, [.int 0, v8, v9, v10, v11, v12]))] s.heap.size = A at hD hZ ⊢
  have hA : ∀ q : Nat, s.heap.size ≤ q → A q := fun q h => by rw [← hAe]; exact Or.inr h
  have hS : va_S A s.heap s.heap [] := va_S.rf
  have hP : va_P D xcl [(a0, .inr (6, [.int 0, v3, v4, v5, v6, v7])), (a1, .inr (6, [.int 0, v8, v9, v10, v11, v12]))] s.heap := hP
  have hl := lv_entry ([.ref b2, .ref a0, .ref a1]) (n := 3) (Nat.le_of_ble_eq_true rfl)
  rw [lg_entry_eq]
  generalize (lg_sl ([.ref b2, .ref a0, .ref a1]) ++ List.replicate (3 - (lg_sl ([.ref b2, .ref a0, .ref a1])).length) Slot.unset).toArray = ls at hl ⊢
  have hl : lv_has ls 3 [(0, .ref b2), (1, .ref a0), (2, .ref a1)] := hl
  refine lv_aload_n hx hb dM_alike_0 rfl (lv_at hl 1 rfl) ?_
  refine va_getN (D := D) (ci := 6) (v := .int 0) (C := "ValueBenchModel$V") (T := TV) (N := 6) hx hb htx inV hown hK hP 0 rfl rfl 0 (by decide) ((hZ.1 (93, "kind", "I") (List.mem_of_getElem? (i := 0) rfl)).use rfl) (fun _ h9 => h9) rfl dM_alike_1 ?_
  refine lv_aload_n hx hb dM_alike_4 rfl (lv_at hl 2 rfl) ?_
  refine va_getN (D := D) (ci := 6) (v := .int 0) (C := "ValueBenchModel$V") (T := TV) (N := 6) hx hb htx inV hown hK hP 1 rfl rfl 0 (by decide) ((hZ.1 (93, "kind", "I") (List.mem_of_getElem? (i := 0) rfl)).use rfl) (fun _ h9 => h9) rfl dM_alike_5 ?_
  refine lv_icmp_eq (tgt := 38) hx hb dM_alike_8 (by decide) (fun _ => ?_) (fun h => ((by revert h; decide : False)).elim)
  refine lv_iconst (v := 1) hx hb dM_alike_38 (by decide) ?_
  refine lv_goto (tgt := 43) hx hb dM_alike_39 (by decide) ?_
  obtain ⟨hP9, hD9⟩ := xsub (wc := [(a0, .inr (6, [.int 0, v3, v4, v5, v6, v7])), (a1, .inr (6, [.int 0, v8, v9, v10, v11, v12]))]) hP hD [0, 1] rfl rfl (by decide)
  refine W.widen (k := 0) (n := 0) (Nat.le_of_ble_eq_true rfl) (Nat.le_of_ble_eq_true rfl) ?_
  exact W.zret (v := 1) hx hb hr rfl (fun t ht hW => ⟨⟨1, (), rfl, rfl, by rw [ht]; exact hP9, va_K.moved hW.alike hK, hD9⟩, hS.F ht⟩) hS.2.2 dM_alike_43
set_option maxHeartbeats 400000000 in
set_option maxRecDepth 100000 in
theorem cM_contains_0 (l : Launch) (hl9 : l.stackTraces = false) (D : va_G) (cT : Nat → ClassId) (aK aV : Nat → Nat) (sz : Nat) (a0 : Nat) (a1 : Nat) (a2 : Nat) (v3 : Value) (v4 : Value) (v5 : Value) (v6 : Value) (v7 : Value) (v8 : Value) (v9 : Value) (v10 : Value) (v11 : Value) (v12 : Value) (v13 : Value) (v14 : Value) (v15 : Value) (v16 : Value) (v17 : Value) (v18 : Value) (v19 : Value) (v20 : Value) (v21 : Value) (v22 : Value) (v23 : Value) (v24 : Value) (v25 : Value) (v26 : Value) (v27 : Value) (v28 : Value) (v29 : Value) (v30 : Value) (v31 : Value) (v32 : Value) (v33 : Value) (v34 : Value) (v35 : Value) (v36 : Value) (v37 : Value) (v38 : Value) (v39 : Value) (v40 : Value) (v41 : Value) (v42 : Value) (v43 : Value) (v44 : Value) : xMet l yM_contains wyM_contains 1 0 0 24 D cT aK aV sz [.ref a0, .ref a1, .ref a2] [(a0, .inr (5, [v3, v4, v5, v6, v7, v8, v9, v10, v11, v12, v13, v14, v15, v16, v17, v18, v19, v20, v21, v22, v23, v24, v25, v26, v27, v28, v29, v30, v31, v32, v33, v34])), (a1, .inr (6, [.int 0, v35, v36, v37, v38, v39])), (a2, .inr (6, [.int 0, v40, v41, v42, v43, v44]))] (fun A => va_Qi (fun (r : Int32) (_ : Unit) => r = 1) (fun _ t => xB D xcl cT A [(a0, .inr (5, [v3, v4, v5, v6, v7, v8, v9, v10, v11, v12, v13, v14, v15, v16, v17, v18, v19, v20, v21, v22, v23, v24, v25, v26, v27, v28, v29, v30, v31, v32, v33, v34])), (a1, .inr (6, [.int 0, v35, v36, v37, v38, v39])), (a2, .inr (6, [.int 0, v40, v41, v42, v43, v44]))] t) A) := by
  refine Met.ofW (cc := prog_13_method_70_code) (maxL := 6) (ret := (some .boolean)) (by decide) rfl ?_
  intro p e s m args below meth c s₁ B hml hv
  obtain ⟨rfl, hsz, hZ, hP, hK, hD0⟩ := hv
  have hx := B.exec
  have hb := B.bytes
  have hr := B.returns
  have hts := atoms_spec (ws := wyM_contains) B.pre
  have htx := fun w h => hts w (List.mem_cons_of_mem _ h)
  have hown : s.vm.findClass "ValueBenchModel" = some m.cls := findClass_of_methodNamed B.named
  have hlocks := B.notSynchronized
  subst hsz
  have hD := hD0.self (sz := s.heap.size)
  generalize hAe : va_A [(a0, .inr (5, [v3, v4, v5, v6, v7, v8, v9, v10, v11, v12, v13, v14, v15, v16, v17, v18, v19, v20, v21, v22, v23, v24, v25, v26, v27, v28, v29, v30, v31, v32, v33, v34])), (a1, .inr (6, [.int 0, v35, v36, v37, v38, v39])), (a2, .inr (6, [.int 0, v40, v41, v42, v43, v44]))] s.heap.size = A at hD hZ ⊢
  have hA : ∀ q : Nat, s.heap.size ≤ q → A q := fun q h => by rw [← hAe]; exact Or.inr h
  have hS : va_S A s.heap s.heap [] := va_S.rf
  have hP : va_P D xcl [(a0, .inr (5, [v3, v4, v5, v6, v7, v8, v9, v10, v11, v12, v13, v14, v15, v16, v17, v18, v19, v20, v21, v22, v23, v24, v25, v26, v27, v28, v29, v30, v31, v32, v33, v34])), (a1, .inr (6, [.int 0, v35, v36, v37, v38, v39])), (a2, .inr (6, [.int 0, v40, v41, v42, v43, v44]))] s.heap := hP
  have hl := lv_entry ([.ref a0, .ref a1, .ref a2]) (n := 6) (Nat.le_of_ble_eq_true rfl)
  rw [lg_entry_eq]
  generalize (lg_sl ([.ref a0, .ref a1, .ref a2]) ++ List.replicate (6 - (lg_sl ([.ref a0, .ref a1, .ref a2])).length) Slot.unset).toArray = ls at hl ⊢
  have hl : lv_has ls 6 [(0, .ref a0), (1, .ref a1), (2, .ref a2)] := hl
  refine lv_aload_n hx hb dM_contains_0 rfl (lv_at hl 0 rfl) ?_
  refine lv_aload_n hx hb dM_contains_1 rfl (lv_at hl 1 rfl) ?_
  refine lv_aload_n hx hb dM_contains_2 rfl (lv_at hl 2 rfl) ?_
  obtain ⟨hPc, hDc, hFc⟩ := xcut (wc := [(a1, .inr (6, [.int 0, v35, v36, v37, v38, v39])), (a2, .inr (6, [.int 0, v40, v41, v42, v43, v44]))]) hP hD hS hA [1, 2] rfl rfl (by decide)
  refine va_calli (va_runV (C := "ValueBenchModel") (As := [.ref a1, .ref a2]) (rest := []) ⟨hx, hb, hml, hown, htx⟩ (cM_alike_0 l hl9 D cT aK aV s.heap.size a1 a2 a0 v35 v36 v37 v38 v39 v40 v41 v42 v43 v44) ⟨callB_of 2 htx (xw_goodC kw_7_87) rfl rfl rfl (htx _ kw_1_5) (htx _ kw_7_84) ⟨by decide, by decide, by decide +kernel⟩ ⟨Nat.le_of_ble_eq_true rfl, Nat.le_of_ble_eq_true rfl⟩, (htx _ kw_7_86), (htx _ kp_M_alike)⟩ ⟨xPre_blind, va_recv hK hP (ci := 5) rfl (q0 := 0) rfl, (fun U hU hW => ⟨rfl, xPre_of hZ hS hFc hPc hDc hK U hU hW⟩)⟩ rfl rfl hl.1 rfl (lv_room (Nat.le_of_ble_eq_true rfl)) dM_contains_3 ⟨Nat.le_of_ble_eq_true rfl, Nat.le_of_ble_eq_true rfl⟩) hS (fun q _ h => hFc q h) hFc (fun r1 u9 t H1 locs ht hvm hr9 hB hz1 hk1 hS => ?_)
  obtain ⟨hP1, hK1, hD1⟩ := hB
  rw [ht] at hP1
  obtain ⟨hP, hD⟩ := xjoin (W := [(a0, .inr (5, [v3, v4, v5, v6, v7, v8, v9, v10, v11, v12, v13, v14, v15, v16, v17, v18, v19, v20, v21, v22, v23, v24, v25, v26, v27, v28, v29, v30, v31, v32, v33, v34])), (a1, .inr (6, [.int 0, v35, v36, v37, v38, v39])), (a2, .inr (6, [.int 0, v40, v41, v42, v43, v44]))]) hP hD [1, 2] [0] 1 rfl rfl (by decide) (by decide) hk1 hFc hP1 hD1
  generalize H1 = H at hP hS ⊢
  rw [hr9]
  refine W.eq (g2 := F0 m 6 ls [.int 1]) rfl ?_
  refine lv_if_ne (tgt := 11) hx hb dM_contains_6 (by decide) (fun _ => ?_) (fun h => ((by revert h; decide : False)).elim)
  refine lv_aload_n hx hb dM_contains_11 rfl (lv_at hl 1 rfl) ?_
  refine va_getN (D := D) (ci := 6) (v := .int 0) (C := "ValueBenchModel$V") (T := TV) (N := 6) hx hb htx inV hown hK hP 1 rfl rfl 0 (by decide) ((hZ.1 (93, "kind", "I") (List.mem_of_getElem? (i := 0) rfl)).use rfl) (fun _ h9 => h9) rfl dM_contains_12 ?_
  refine lv_iconst (v := 4) hx hb dM_contains_15 (by decide) ?_
  refine lv_icmp_ne (tgt := 54) hx hb dM_contains_16 (by decide) (fun _ => ?_) (fun h => ((by revert h; decide : False)).elim)
  refine lv_aload_n hx hb dM_contains_54 rfl (lv_at hl 1 rfl) ?_
  refine va_getN (D := D) (ci := 6) (v := .int 0) (C := "ValueBenchModel$V") (T := TV) (N := 6) hx hb htx inV hown hK hP 1 rfl rfl 0 (by decide) ((hZ.1 (93, "kind", "I") (List.mem_of_getElem? (i := 0) rfl)).use rfl) (fun _ h9 => h9) rfl dM_contains_55 ?_
  refine lv_iconst (v := 5) hx hb dM_contains_58 (by decide) ?_
  refine lv_icmp_ge (tgt := 69) hx hb dM_contains_59 (by decide) (fun h => ((by revert h; decide : False)).elim) (fun _ => ?_)
  refine lv_aload_n hx hb dM_contains_62 rfl (lv_at hl 0 rfl) ?_
  refine lv_aload_n hx hb dM_contains_63 rfl (lv_at hl 1 rfl) ?_
  refine lv_aload_n hx hb dM_contains_64 rfl (lv_at hl 2 rfl) ?_
  obtain ⟨hPc, hDc, hFc⟩ := xcut (wc := [(a1, .inr (6, [.int 0, v35, v36, v37, v38, v39])), (a2, .inr (6, [.int 0, v40, v41, v42, v43, v44]))]) hP hD hS hA [1, 2] rfl rfl (by decide)
  refine va_calli (va_runV (C := "ValueBenchModel") (As := [.ref a1, .ref a2]) (rest := []) ⟨hx, hb, hml, hown, htx⟩ (cM_same1_0 l hl9 D cT aK aV H.size a1 a2 a0 v35 v36 v37 v38 v39 v40 v41 v42 v43 v44) ⟨callB_of 2 htx (xw_goodC kw_6_174) rfl rfl rfl (htx _ kw_1_5) (htx _ kw_6_171) ⟨by decide, by decide, by decide +kernel⟩ ⟨Nat.le_of_ble_eq_true rfl, Nat.le_of_ble_eq_true rfl⟩, (htx _ kw_6_173), (htx _ kp_M_same1)⟩ ⟨xPre_blind, va_recv hK hP (ci := 5) rfl (q0 := 0) rfl, (fun U hU hW => ⟨rfl, xPre_of hZ hS hFc hPc hDc hK U hU hW⟩)⟩ rfl rfl hl.1 rfl (lv_room (Nat.le_of_ble_eq_true rfl)) dM_contains_65 ⟨Nat.le_of_ble_eq_true rfl, Nat.le_of_ble_eq_true rfl⟩) hS (fun q _ h => hFc q h) hFc (fun r2 u9 t H1 locs ht hvm hr9 hB hz1 hk1 hS => ?_)
  obtain ⟨hP1, hK1, hD1⟩ := hB
  rw [ht] at hP1
  obtain ⟨hP, hD⟩ := xjoin (W := [(a0, .inr (5, [v3, v4, v5, v6, v7, v8, v9, v10, v11, v12, v13, v14, v15, v16, v17, v18, v19, v20, v21, v22, v23, v24, v25, v26, v27, v28, v29, v30, v31, v32, v33, v34])), (a1, .inr (6, [.int 0, v35, v36, v37, v38, v39])), (a2, .inr (6, [.int 0, v40, v41, v42, v43, v44]))]) hP hD [1, 2] [0] 1 rfl rfl (by decide) (by decide) hk1 hFc hP1 hD1
  generalize H1 = H at hP hS ⊢
  rw [hr9]
  refine W.eq (g2 := F0 m 68 ls [.int 1]) rfl ?_
  obtain ⟨hP9, hD9⟩ := xsub (wc := [(a0, .inr (5, [v3, v4, v5, v6, v7, v8, v9, v10, v11, v12, v13, v14, v15, v16, v17, v18, v19, v20, v21, v22, v23, v24, v25, v26, v27, v28, v29, v30, v31, v32, v33, v34])), (a1, .inr (6, [.int 0, v35, v36, v37, v38, v39])), (a2, .inr (6, [.int 0, v40, v41, v42, v43, v44]))]) hP hD [0, 1, 2] rfl rfl (by decide)
  refine W.widen (k := 0) (n := 0) (Nat.le_of_ble_eq_true rfl) (Nat.le_of_ble_eq_true rfl) ?_
  exact W.zret (v := 1) hx hb hr rfl (fun t ht hW => ⟨⟨1, (), rfl, rfl, by rw [ht]; exact hP9, va_K.moved hW.alike hK, hD9⟩, hS.F ht⟩) hS.2.2 dM_contains_68
set_option maxHeartbeats 400000000 in
set_option maxRecDepth 100000 in
theorem cM_fresh_9 (l : Launch) (hl9 : l.stackTraces = false) (D : va_G) (cT : Nat → ClassId) (aK aV : Nat → Nat) (sz : Nat) (a0 : Nat) (a1 : Nat) (v2 : Value) (v3 : Value) (v4 : Value) (v5 : Value) (v6 : Value) (v7 : Value) (v8 : Value) (v9 : Value) (v10 : Value) (v11 : Value) (v12 : Value) (v13 : Value) (v14 : Value) (v15 : Value) (v16 : Value) (v17 : Value) (v18 : Value) (v19 : Value) (v20 : Value) (v21 : Value) (v22 : Value) (v23 : Value) (v24 : Value) (v25 : Value) (v26 : Value) (v27 : Value) (v28 : Value) (v29 : Value) (v30 : Value) (v31 : Value) (f32 : Nat → Option Nat) (h33 : f32 2 = none) : xMet l yM_fresh wyM_fresh 2 1 6 32 D cT aK aV sz [.ref a0, .int 2] [(a0, .inr (5, [v2, .ref a1, .int 2, v3, v4, v5, v6, v7, v8, v9, v10, v11, v12, v13, v14, v15, v16, v17, v18, v19, v20, v21, v22, v23, v24, v25, v26, v27, v28, v29, v30, v31])), (a1, .inl (cT 4, 1024, .inr (.inr (.inr (.inr f32)))))] (fun A => va_Qr (fun _ : Unit => True) (fun _ q1 t => xB D xcl cT A [(a0, .inr (5, [v2, .ref a1, .int 3, v3, v4, v5, v6, v7, v8, v9, v10, v11, v12, v13, v14, v15, v16, v17, v18, v19, v20, v21, v22, v23, v24, v25, v26, v27, v28, v29, v30, v31])), (a1, .inl (cT 4, 1024, .inr (.inr (.inr (.inr (va_up f32 2 (some q1))))))), (q1, .inr (6, [.int 2, .long 0, .int 0, .int 0, .int 0, .int 1]))] t) A) := by
  refine Met.ofW (cc := prog_13_method_6_code) (maxL := 4) (ret := (some (.object "ValueBenchModel$V"))) (by decide) rfl ?_
  intro p e s m args below meth c s₁ B hml hv
  obtain ⟨rfl, hsz, hZ, hP, hK, hD0⟩ := hv
  have hx := B.exec
  have hb := B.bytes
  have hr := B.returns
  have hts := atoms_spec (ws := wyM_fresh) B.pre
  have htx := fun w h => hts w (List.mem_cons_of_mem _ h)
  have hown : s.vm.findClass "ValueBenchModel" = some m.cls := findClass_of_methodNamed B.named
  have hlocks := B.notSynchronized
  subst hsz
  have hD := hD0.self (sz := s.heap.size)
  generalize hAe : va_A [(a0, .inr (5, [v2, .ref a1, .int 2, v3, v4, v5, v6, v7, v8, v9, v10, v11, v12, v13, v14, v15, v16, v17, v18, v19, v20, v21, v22, v23, v24, v25, v26, v27, v28, v29, v30, v31])), (a1, .inl (cT 4, 1024, .inr (.inr (.inr (.inr f32)))))] s.heap.size = A at hD hZ ⊢
  have hA : ∀ q : Nat, s.heap.size ≤ q → A q := fun q h => by rw [← hAe]; exact Or.inr h
  have hS : va_S A s.heap s.heap [] := va_S.rf
  have hP : va_P D xcl [(a0, .inr (5, [v2, .ref a1, .int 2, v3, v4, v5, v6, v7, v8, v9, v10, v11, v12, v13, v14, v15, v16, v17, v18, v19, v20, v21, v22, v23, v24, v25, v26, v27, v28, v29, v30, v31])), (a1, .inl (cT 4, 1024, .inr (.inr (.inr (.inr f32)))))] s.heap := hP
  have hl := lv_entry ([.ref a0, .int 2]) (n := 4) (Nat.le_of_ble_eq_true rfl)
  rw [lg_entry_eq]
  generalize (lg_sl ([.ref a0, .int 2]) ++ List.replicate (4 - (lg_sl ([.ref a0, .int 2])).length) Slot.unset).toArray = ls at hl ⊢
  have hl : lv_has ls 4 [(0, .ref a0), (1, .int 2)] := hl
  refine lv_aload_n hx hb dM_fresh_0 rfl (lv_at hl 0 rfl) ?_
  refine va_get (D := D) (ci := 5) (v := .int 2) (C := "ValueBenchModel") (T := TM) (N := 32) hx hb htx inM hown hK hP 0 rfl rfl 2 (by decide) (htx _ kw_5_89) (fun _ h9 => h9) rfl dM_fresh_1 ?_
  refine lv_aload_n hx hb dM_fresh_4 rfl (lv_at hl 0 rfl) ?_
  refine va_get (D := D) (ci := 5) (v := .ref a1) (C := "ValueBenchModel") (T := TM) (N := 32) hx hb htx inM hown hK hP 0 rfl rfl 1 (by decide) (htx _ kw_5_88) (fun _ h9 => h9) rfl dM_fresh_5 ?_
  refine va_alen (v := 1024) hx hb hK hP 1 4 rfl rfl rfl dM_fresh_8 ?_
  refine lv_icmp_ne (tgt := 52) hx hb dM_fresh_9 (by decide) (fun _ => ?_) (fun h => ((by revert h; decide : False)).elim)
  refine lv_aload_n hx hb dM_fresh_52 rfl (lv_at hl 0 rfl) ?_
  refine va_get (D := D) (ci := 5) (v := .ref a1) (C := "ValueBenchModel") (T := TM) (N := 32) hx hb htx inM hown hK hP 0 rfl rfl 1 (by decide) (htx _ kw_5_88) (fun _ h9 => h9) rfl dM_fresh_53 ?_
  refine lv_aload_n hx hb dM_fresh_56 rfl (lv_at hl 0 rfl) ?_
  refine va_get (D := D) (ci := 5) (v := .int 2) (C := "ValueBenchModel") (T := TM) (N := 32) hx hb htx inM hown hK hP 0 rfl rfl 2 (by decide) (htx _ kw_5_89) (fun _ h9 => h9) rfl dM_fresh_57 ?_
  refine va_aldq hx hb hK hP 1 4 rfl rfl (show ¬ ((2 : Int32) < 0 ∨ 1024 ≤ (2 : Int32).toNatClampNeg) by decide) dM_fresh_60 ?_
  refine W.eq (g2 := F0 m 61 ls [va_rf (f32 2)]) rfl ?_
  rw [h33]
  refine W.eq (g2 := F0 m 61 ls [.null]) rfl ?_
  refine lv_ifnonnullN hx hb dM_fresh_61 ?_
  refine lv_aload_n hx hb dM_fresh_64 rfl (lv_at hl 0 rfl) ?_
  refine va_get (D := D) (ci := 5) (v := .ref a1) (C := "ValueBenchModel") (T := TM) (N := 32) hx hb htx inM hown hK hP 0 rfl rfl 1 (by decide) (htx _ kw_5_88) (fun _ h9 => h9) rfl dM_fresh_65 ?_
  refine lv_aload_n hx hb dM_fresh_68 rfl (lv_at hl 0 rfl) ?_
  refine va_get (D := D) (ci := 5) (v := .int 2) (C := "ValueBenchModel") (T := TM) (N := 32) hx hb htx inM hown hK hP 0 rfl rfl 2 (by decide) (htx _ kw_5_89) (fun _ h9 => h9) rfl dM_fresh_69 ?_
  refine va_new (ci := 6) (fs := [.int 0, .long 0, .int 0, .int 0, .int 0, .int 0]) (C := "ValueBenchModel$V") (T := TV) (N := 6) hx hb htx inV tyV tyV_ok hown (htx _ kw_5_80) (htx _ kw_6_17) (htx _ kw_1_19) hK hP hD hS hA rfl (by decide +kernel) (Nat.le_of_ble_eq_true rfl) (Nat.le_of_ble_eq_true rfl) dM_fresh_72 (fun q1 H hP hD hS => ?_)
  obtain ⟨hP, hD⟩ : xPD D xcl A [(a0, .inr (5, [v2, .ref a1, .int 2, v3, v4, v5, v6, v7, v8, v9, v10, v11, v12, v13, v14, v15, v16, v17, v18, v19, v20, v21, v22, v23, v24, v25, v26, v27, v28, v29, v30, v31])), (a1, .inl (cT 4, 1024, .inr (.inr (.inr (.inr f32))))), (q1, .inr (6, [.int 0, .long 0, .int 0, .int 0, .int 0, .int 0]))] H := ⟨hP, hD⟩
  refine lv_dup hx hb dM_fresh_75 rfl ?_
  obtain ⟨hPc, hDc, hFc⟩ := xcut (wc := []) hP hD hS hA [] rfl rfl (by decide)
  refine va_callv (va_runIN (As := []) (rest := [.ref q1, .int 2, .ref a1]) ⟨hx, hb, hml, hown, htx⟩ (cV_init_0 l hl9 D cT aK aV H.size q1) ⟨va_cnB (host := "ValueBenchModel") 0 htx (xw_goodC kw_6_20) rfl rfl rfl (hZ.2.1 ("ValueBenchModel", 92, yV_init) (List.mem_of_getElem? (i := 3) rfl)) (htx _ kw_1_19) ⟨by decide, by decide, by decide +kernel⟩ ⟨Nat.le_of_ble_eq_true rfl, Nat.le_of_ble_eq_true rfl⟩, rfl, (htx _ kw_6_19)⟩ ⟨xPre_blind, (fun U hU hW => ⟨rfl, xPre_of hZ hS hFc hPc hDc hK U hU hW⟩)⟩ rfl rfl hl.1 rfl (lv_room (Nat.le_of_ble_eq_true rfl)) dM_fresh_76 ⟨Nat.le_of_ble_eq_true rfl, Nat.le_of_ble_eq_true rfl⟩) hS (fun q _ h => hFc q h) hFc (fun u9 t H1 locs ht hvm hr9 hB hz1 hk1 hS => ?_)
  obtain ⟨hP1, hK1, hD1⟩ := hB
  rw [ht] at hP1
  obtain ⟨hP, hD⟩ := xjoin (W := [(a0, .inr (5, [v2, .ref a1, .int 2, v3, v4, v5, v6, v7, v8, v9, v10, v11, v12, v13, v14, v15, v16, v17, v18, v19, v20, v21, v22, v23, v24, v25, v26, v27, v28, v29, v30, v31])), (a1, .inl (cT 4, 1024, .inr (.inr (.inr (.inr f32))))), (q1, .inr (6, [.int 0, .long 0, .int 0, .int 0, .int 0, .int 0]))]) hP hD [] [0, 1, 2] 3 rfl rfl (by decide) (by decide) hk1 hFc hP1 hD1
  generalize H1 = H at hP hS ⊢
  refine va_astq (r := ("ValueBenchModel$V", TV, 6)) hx hb hK hP hD hS 1 4 2 6 rfl rfl rfl rfl (show ¬ ((2 : Int32) < 0 ∨ 1024 ≤ (2 : Int32).toNatClampNeg) by decide) dM_fresh_79 (fun H locs hP hD hS => ?_)
  obtain ⟨hP, hD⟩ : xPD D xcl A [(a0, .inr (5, [v2, .ref a1, .int 2, v3, v4, v5, v6, v7, v8, v9, v10, v11, v12, v13, v14, v15, v16, v17, v18, v19, v20, v21, v22, v23, v24, v25, v26, v27, v28, v29, v30, v31])), (a1, .inl (cT 4, 1024, .inr (.inr (.inr (.inr (va_up f32 2 (some q1))))))), (q1, .inr (6, [.int 0, .long 0, .int 0, .int 0, .int 0, .int 0]))] H := ⟨hP, hD⟩
  refine lv_aload_n hx hb dM_fresh_80 rfl (lv_at hl 0 rfl) ?_
  refine va_get (D := D) (ci := 5) (v := .ref a1) (C := "ValueBenchModel") (T := TM) (N := 32) hx hb htx inM hown hK hP 0 rfl rfl 1 (by decide) (htx _ kw_5_88) (fun _ h9 => h9) rfl dM_fresh_81 ?_
  refine lv_aload_n hx hb dM_fresh_84 rfl (lv_at hl 0 rfl) ?_
  refine va_get (D := D) (ci := 5) (v := .int 2) (C := "ValueBenchModel") (T := TM) (N := 32) hx hb htx inM hown hK hP 0 rfl rfl 2 (by decide) (htx _ kw_5_89) (fun _ h9 => h9) rfl dM_fresh_85 ?_
  refine va_aldq hx hb hK hP 1 4 rfl rfl (show ¬ ((2 : Int32) < 0 ∨ 1024 ≤ (2 : Int32).toNatClampNeg) by decide) dM_fresh_88 ?_
  refine W.eq (g2 := F0 m 89 ls [.ref q1]) rfl ?_
  refine lv_astore_n (lv' := [(2, .ref q1), (0, .ref a0), (1, .int 2)]) hx hb dM_fresh_89 rfl hl (by decide) rfl (fun ls hl => ?_)
  refine lv_aload_n hx hb dM_fresh_90 rfl (lv_at hl 1 rfl) ?_
  refine lv_dup hx hb dM_fresh_91 rfl ?_
  refine va_get (D := D) (ci := 5) (v := .int 2) (C := "ValueBenchModel") (T := TM) (N := 32) hx hb htx inM hown hK hP 0 rfl rfl 2 (by decide) (htx _ kw_5_89) (fun _ h9 => h9) rfl dM_fresh_92 ?_
  refine lv_iconst (v := 1) hx hb dM_fresh_95 (by decide) ?_
  refine lv_iadd hx hb dM_fresh_96 ?_
  refine W.eq (g2 := F0 m 97 ls [.int 3, .ref a0]) rfl ?_
  refine va_put (D := D) (ci := 5) (v := .int 3) (ty := .int) (C := "ValueBenchModel") (T := TM) (N := 32) hx hb htx inM tyM tyM_ok nmM hown hK hP hD hS 0 rfl rfl 2 (by decide) (htx _ kw_5_89) (fun _ h9 => h9) rfl (by decide +kernel) rfl rfl (Nat.le_of_ble_eq_true rfl) dM_fresh_97 (fun H locs hP hD hS => ?_)
  obtain ⟨hP, hD⟩ : xPD D xcl A [(a0, .inr (5, [v2, .ref a1, .int 3, v3, v4, v5, v6, v7, v8, v9, v10, v11, v12, v13, v14, v15, v16, v17, v18, v19, v20, v21, v22, v23, v24, v25, v26, v27, v28, v29, v30, v31])), (a1, .inl (cT 4, 1024, .inr (.inr (.inr (.inr (va_up f32 2 (some q1))))))), (q1, .inr (6, [.int 0, .long 0, .int 0, .int 0, .int 0, .int 0]))] H := ⟨hP, hD⟩
  refine lv_aload_n hx hb dM_fresh_100 rfl (lv_at hl 0 rfl) ?_
  refine lv_iload_n hx hb dM_fresh_101 rfl (lv_at hl 2 rfl) ?_
  refine va_putN (D := D) (ci := 6) (v := .int 2) (ty := .int) (C := "ValueBenchModel$V") (T := TV) (N := 6) hx hb htx inV tyV tyV_ok nmV hown hK hP hD hS 2 rfl rfl 0 (by decide) ((hZ.1 (93, "kind", "I") (List.mem_of_getElem? (i := 0) rfl)).use rfl) (fun _ h9 => h9) rfl (by decide +kernel) rfl rfl (Nat.le_of_ble_eq_true rfl) dM_fresh_102 (fun H locs hP hD hS => ?_)
  obtain ⟨hP, hD⟩ : xPD D xcl A [(a0, .inr (5, [v2, .ref a1, .int 3, v3, v4, v5, v6, v7, v8, v9, v10, v11, v12, v13, v14, v15, v16, v17, v18, v19, v20, v21, v22, v23, v24, v25, v26, v27, v28, v29, v30, v31])), (a1, .inl (cT 4, 1024, .inr (.inr (.inr (.inr (va_up f32 2 (some q1))))))), (q1, .inr (6, [.int 2, .long 0, .int 0, .int 0, .int 0, .int 0]))] H := ⟨hP, hD⟩
  refine lv_aload_n hx hb dM_fresh_105 rfl (lv_at hl 0 rfl) ?_
  refine lv_lconst (v := 0) hx hb dM_fresh_106 (by decide) ?_
  refine va_putN (D := D) (ci := 6) (v := .long 0) (ty := .long) (C := "ValueBenchModel$V") (T := TV) (N := 6) hx hb htx inV tyV tyV_ok nmV hown hK hP hD hS 2 rfl rfl 1 (by decide) ((hZ.1 (96, "n", "J") (List.mem_of_getElem? (i := 1) rfl)).use rfl) (fun _ h9 => h9) rfl (by decide +kernel) rfl rfl (Nat.le_of_ble_eq_true rfl) dM_fresh_107 (fun H locs hP hD hS => ?_)
  obtain ⟨hP, hD⟩ : xPD D xcl A [(a0, .inr (5, [v2, .ref a1, .int 3, v3, v4, v5, v6, v7, v8, v9, v10, v11, v12, v13, v14, v15, v16, v17, v18, v19, v20, v21, v22, v23, v24, v25, v26, v27, v28, v29, v30, v31])), (a1, .inl (cT 4, 1024, .inr (.inr (.inr (.inr (va_up f32 2 (some q1))))))), (q1, .inr (6, [.int 2, .long 0, .int 0, .int 0, .int 0, .int 0]))] H := ⟨hP, hD⟩
  refine lv_aload_n hx hb dM_fresh_110 rfl (lv_at hl 0 rfl) ?_
  refine lv_iconst (v := 0) hx hb dM_fresh_111 (by decide) ?_
  refine va_putN (D := D) (ci := 6) (v := .int 0) (ty := .int) (C := "ValueBenchModel$V") (T := TV) (N := 6) hx hb htx inV tyV tyV_ok nmV hown hK hP hD hS 2 rfl rfl 2 (by decide) ((hZ.1 (100, "off", "I") (List.mem_of_getElem? (i := 2) rfl)).use rfl) (fun _ h9 => h9) rfl (by decide +kernel) rfl rfl (Nat.le_of_ble_eq_true rfl) dM_fresh_112 (fun H locs hP hD hS => ?_)
  obtain ⟨hP, hD⟩ : xPD D xcl A [(a0, .inr (5, [v2, .ref a1, .int 3, v3, v4, v5, v6, v7, v8, v9, v10, v11, v12, v13, v14, v15, v16, v17, v18, v19, v20, v21, v22, v23, v24, v25, v26, v27, v28, v29, v30, v31])), (a1, .inl (cT 4, 1024, .inr (.inr (.inr (.inr (va_up f32 2 (some q1))))))), (q1, .inr (6, [.int 2, .long 0, .int 0, .int 0, .int 0, .int 0]))] H := ⟨hP, hD⟩
  refine lv_aload_n hx hb dM_fresh_115 rfl (lv_at hl 0 rfl) ?_
  refine lv_iconst (v := 0) hx hb dM_fresh_116 (by decide) ?_
  refine va_putN (D := D) (ci := 6) (v := .int 0) (ty := .int) (C := "ValueBenchModel$V") (T := TV) (N := 6) hx hb htx inV tyV tyV_ok nmV hown hK hP hD hS 2 rfl rfl 3 (by decide) ((hZ.1 (103, "count", "I") (List.mem_of_getElem? (i := 3) rfl)).use rfl) (fun _ h9 => h9) rfl (by decide +kernel) rfl rfl (Nat.le_of_ble_eq_true rfl) dM_fresh_117 (fun H locs hP hD hS => ?_)
  obtain ⟨hP, hD⟩ : xPD D xcl A [(a0, .inr (5, [v2, .ref a1, .int 3, v3, v4, v5, v6, v7, v8, v9, v10, v11, v12, v13, v14, v15, v16, v17, v18, v19, v20, v21, v22, v23, v24, v25, v26, v27, v28, v29, v30, v31])), (a1, .inl (cT 4, 1024, .inr (.inr (.inr (.inr (va_up f32 2 (some q1))))))), (q1, .inr (6, [.int 2, .long 0, .int 0, .int 0, .int 0, .int 0]))] H := ⟨hP, hD⟩
  refine lv_aload_n hx hb dM_fresh_120 rfl (lv_at hl 0 rfl) ?_
  refine lv_iconst (v := 0) hx hb dM_fresh_121 (by decide) ?_
  refine va_putN (D := D) (ci := 6) (v := .int 0) (ty := .int) (C := "ValueBenchModel$V") (T := TV) (N := 6) hx hb htx inV tyV tyV_ok nmV hown hK hP hD hS 2 rfl rfl 4 (by decide) ((hZ.1 (106, "depth", "I") (List.mem_of_getElem? (i := 4) rfl)).use rfl) (fun _ h9 => h9) rfl (by decide +kernel) rfl rfl (Nat.le_of_ble_eq_true rfl) dM_fresh_122 (fun H locs hP hD hS => ?_)
  obtain ⟨hP, hD⟩ : xPD D xcl A [(a0, .inr (5, [v2, .ref a1, .int 3, v3, v4, v5, v6, v7, v8, v9, v10, v11, v12, v13, v14, v15, v16, v17, v18, v19, v20, v21, v22, v23, v24, v25, v26, v27, v28, v29, v30, v31])), (a1, .inl (cT 4, 1024, .inr (.inr (.inr (.inr (va_up f32 2 (some q1))))))), (q1, .inr (6, [.int 2, .long 0, .int 0, .int 0, .int 0, .int 0]))] H := ⟨hP, hD⟩
  refine lv_aload_n hx hb dM_fresh_125 rfl (lv_at hl 0 rfl) ?_
  refine lv_iconst (v := 1) hx hb dM_fresh_126 (by decide) ?_
  refine va_putN (D := D) (ci := 6) (v := .int 1) (ty := .int) (C := "ValueBenchModel$V") (T := TV) (N := 6) hx hb htx inV tyV tyV_ok nmV hown hK hP hD hS 2 rfl rfl 5 (by decide) ((hZ.1 (109, "weight", "I") (List.mem_of_getElem? (i := 5) rfl)).use rfl) (fun _ h9 => h9) rfl (by decide +kernel) rfl rfl (Nat.le_of_ble_eq_true rfl) dM_fresh_127 (fun H locs hP hD hS => ?_)
  obtain ⟨hP, hD⟩ : xPD D xcl A [(a0, .inr (5, [v2, .ref a1, .int 3, v3, v4, v5, v6, v7, v8, v9, v10, v11, v12, v13, v14, v15, v16, v17, v18, v19, v20, v21, v22, v23, v24, v25, v26, v27, v28, v29, v30, v31])), (a1, .inl (cT 4, 1024, .inr (.inr (.inr (.inr (va_up f32 2 (some q1))))))), (q1, .inr (6, [.int 2, .long 0, .int 0, .int 0, .int 0, .int 1]))] H := ⟨hP, hD⟩
  refine lv_aload_n hx hb dM_fresh_130 rfl (lv_at hl 0 rfl) ?_
  obtain ⟨hP9, hD9⟩ := xsub (wc := [(a0, .inr (5, [v2, .ref a1, .int 3, v3, v4, v5, v6, v7, v8, v9, v10, v11, v12, v13, v14, v15, v16, v17, v18, v19, v20, v21, v22, v23, v24, v25, v26, v27, v28, v29, v30, v31])), (a1, .inl (cT 4, 1024, .inr (.inr (.inr (.inr (va_up f32 2 (some q1))))))), (q1, .inr (6, [.int 2, .long 0, .int 0, .int 0, .int 0, .int 1]))]) hP hD [0, 1, 2] rfl rfl (by decide)
  refine W.widen (k := 1) (n := 6) (Nat.le_of_ble_eq_true rfl) (Nat.le_of_ble_eq_true rfl) ?_
  exact W.aret hx hb hr (Or.inl ⟨_, rfl⟩) (Or.inr ⟨_, rfl⟩) (fun t ht hW => ⟨⟨(), q1, rfl, trivial, by rw [ht]; exact hP9, va_K.moved hW.alike hK, hD9⟩, hS.F ht⟩) hS.2.2 dM_fresh_131
set_option maxHeartbeats 400000000 in
set_option maxRecDepth 100000 in
theorem cM_truth_1 (l : Launch) (hl9 : l.stackTraces = false) (D : va_G) (cT : Nat → ClassId) (aK aV : Nat → Nat) (sz : Nat) (a0 : Nat) (a1 : Nat) (v2 : Value) (v3 : Value) (v4 : Value) (v5 : Value) (v6 : Value) (v7 : Value) (v8 : Value) (v9 : Value) (v10 : Value) (v11 : Value) (v12 : Value) (v13 : Value) (v14 : Value) (v15 : Value) (v16 : Value) (v17 : Value) (v18 : Value) (v19 : Value) (v20 : Value) (v21 : Value) (v22 : Value) (v23 : Value) (v24 : Value) (v25 : Value) (v26 : Value) (v27 : Value) (v28 : Value) (v29 : Value) (v30 : Value) (v31 : Value) (f32 : Nat → Option Nat) (h33 : f32 2 = none) : xMet l yM_truth wyM_truth 3 1 6 55 D cT aK aV sz [.ref a0, .int 1] [(a0, .inr (5, [v2, .ref a1, .int 2, v3, v4, v5, v6, v7, v8, v9, v10, v11, v12, v13, v14, v15, v16, v17, v18, v19, v20, v21, v22, v23, v24, v25, v26, v27, v28, v29, v30, v31])), (a1, .inl (cT 4, 1024, .inr (.inr (.inr (.inr f32)))))] (fun A => va_Qr (fun _ : Unit => True) (fun _ r1 t => xB D xcl cT A [(a0, .inr (5, [v2, .ref a1, .int 3, v3, v4, v5, v6, v7, v8, v9, v10, v11, v12, v13, v14, v15, v16, v17, v18, v19, v20, v21, v22, v23, v24, v25, v26, v27, v28, v29, v30, v31])), (a1, .inl (cT 4, 1024, .inr (.inr (.inr (.inr (va_up f32 2 (some r1))))))), (r1, .inr (6, [.int 2, .long 0, .int 0, .int 0, .int 0, .int 1]))] t) A) := by
  refine Met.ofW (cc := prog_13_method_8_code) (maxL := 2) (ret := (some (.object "ValueBenchModel$V"))) (by decide) rfl ?_
  intro p e s m args below meth c s₁ B hml hv
  obtain ⟨rfl, hsz, hZ, hP, hK, hD0⟩ := hv
  have hx := B.exec
  have hb := B.bytes
  have hr := B.returns
  have hts := atoms_spec (ws := wyM_truth) B.pre
  have htx := fun w h => hts w (List.mem_cons_of_mem _ h)
  have hown : s.vm.findClass "ValueBenchModel" = some m.cls := findClass_of_methodNamed B.named
  have hlocks := B.notSynchronized
  subst hsz
  have hD := hD0.self (sz := s.heap.size)
  generalize hAe : va_A [(a0, .inr (5, [v2, .ref a1, .int 2, v3, v4, v5, v6, v7, v8, v9, v10, v11, v12, v13, v14, v15, v16, v17, v18, v19, v20, v21, v22, v23, v24, v25, v26, v27, v28, v29, v30, v31])), (a1, .inl (cT 4, 1024, .inr (.inr (.inr (.inr f32)))))] s.heap.size = A at hD hZ ⊢
  have hA : ∀ q : Nat, s.heap.size ≤ q → A q := fun q h => by rw [← hAe]; exact Or.inr h
  have hS : va_S A s.heap s.heap [] := va_S.rf
  have hP : va_P D xcl [(a0, .inr (5, [v2, .ref a1, .int 2, v3, v4, v5, v6, v7, v8, v9, v10, v11, v12, v13, v14, v15, v16, v17, v18, v19, v20, v21, v22, v23, v24, v25, v26, v27, v28, v29, v30, v31])), (a1, .inl (cT 4, 1024, .inr (.inr (.inr (.inr f32)))))] s.heap := hP
  have hl := lv_entry ([.ref a0, .int 1]) (n := 2) (Nat.le_of_ble_eq_true rfl)
  rw [lg_entry_eq]
  generalize (lg_sl ([.ref a0, .int 1]) ++ List.replicate (2 - (lg_sl ([.ref a0, .int 1])).length) Slot.unset).toArray = ls at hl ⊢
  have hl : lv_has ls 2 [(0, .ref a0), (1, .int 1)] := hl
  refine lv_aload_n hx hb dM_truth_0 rfl (lv_at hl 0 rfl) ?_
  refine lv_iload_n hx hb dM_truth_1 rfl (lv_at hl 1 rfl) ?_
  refine lv_if_eq (tgt := 9) hx hb dM_truth_2 (by decide) (fun h => ((by revert h; decide : False)).elim) (fun _ => ?_)
  refine lv_iconst (v := 2) hx hb dM_truth_5 (by decide) ?_
  refine lv_goto (tgt := 10) hx hb dM_truth_6 (by decide) ?_
  obtain ⟨hPc, hDc, hFc⟩ := xcut (wc := [(a0, .inr (5, [v2, .ref a1, .int 2, v3, v4, v5, v6, v7, v8, v9, v10, v11, v12, v13, v14, v15, v16, v17, v18, v19, v20, v21, v22, v23, v24, v25, v26, v27, v28, v29, v30, v31])), (a1, .inl (cT 4, 1024, .inr (.inr (.inr (.inr f32)))))]) hP hD hS hA [0, 1] rfl rfl (by decide)
  refine va_callr (va_runV (C := "ValueBenchModel") (As := [.int 2]) (rest := []) ⟨hx, hb, hml, hown, htx⟩ (cM_fresh_9 l hl9 D cT aK aV s.heap.size a0 a1 v2 v3 v4 v5 v6 v7 v8 v9 v10 v11 v12 v13 v14 v15 v16 v17 v18 v19 v20 v21 v22 v23 v24 v25 v26 v27 v28 v29 v30 v31 f32 (by first | rfl | exact h33)) ⟨callB_of 1 htx (xw_goodC kw_6_16) rfl rfl rfl (htx _ kw_1_5) (htx _ kw_6_13) ⟨by decide, by decide, by decide +kernel⟩ ⟨Nat.le_of_ble_eq_true rfl, Nat.le_of_ble_eq_true rfl⟩, (htx _ kw_6_15), (htx _ kp_M_fresh)⟩ ⟨xPre_blind, va_recv hK hP (ci := 5) rfl (q0 := 0) rfl, (fun U hU hW => ⟨rfl, xPre_of hZ hS hFc hPc hDc hK U hU hW⟩)⟩ rfl rfl hl.1 rfl (lv_room (Nat.le_of_ble_eq_true rfl)) dM_truth_10 ⟨Nat.le_of_ble_eq_true rfl, Nat.le_of_ble_eq_true rfl⟩) hS (fun q _ h => hFc q h) hFc (fun u9 r1 t H1 locs ht hvm hr9 hB hz1 hk1 hS => ?_)
  obtain ⟨hP1, hK1, hD1⟩ := hB
  rw [ht] at hP1
  obtain ⟨hP, hD⟩ := xjoin (W := [(a0, .inr (5, [v2, .ref a1, .int 3, v3, v4, v5, v6, v7, v8, v9, v10, v11, v12, v13, v14, v15, v16, v17, v18, v19, v20, v21, v22, v23, v24, v25, v26, v27, v28, v29, v30, v31])), (a1, .inl (cT 4, 1024, .inr (.inr (.inr (.inr (va_up f32 2 (some r1))))))), (r1, .inr (6, [.int 2, .long 0, .int 0, .int 0, .int 0, .int 1]))]) hP hD [0, 1] [] 0 rfl rfl (by decide) (by decide) hk1 hFc hP1 hD1
  generalize H1 = H at hP hS ⊢
  refine W.eq (g2 := F0 m 13 ls [.ref r1]) rfl ?_
  obtain ⟨hP9, hD9⟩ := xsub (wc := [(a0, .inr (5, [v2, .ref a1, .int 3, v3, v4, v5, v6, v7, v8, v9, v10, v11, v12, v13, v14, v15, v16, v17, v18, v19, v20, v21, v22, v23, v24, v25, v26, v27, v28, v29, v30, v31])), (a1, .inl (cT 4, 1024, .inr (.inr (.inr (.inr (va_up f32 2 (some r1))))))), (r1, .inr (6, [.int 2, .long 0, .int 0, .int 0, .int 0, .int 1]))]) hP hD [0, 1, 2] rfl rfl (by decide)
  refine W.widen (k := 1) (n := 6) (Nat.le_of_ble_eq_true rfl) (Nat.le_of_ble_eq_true rfl) ?_
  exact W.aret hx hb hr (Or.inl ⟨_, rfl⟩) (Or.inr ⟨_, rfl⟩) (fun t ht hW => ⟨⟨(), r1, rfl, trivial, by rw [ht]; exact hP9, va_K.moved hW.alike hK, hD9⟩, hS.F ht⟩) hS.2.2 dM_truth_13
set_option maxHeartbeats 400000000 in
set_option maxRecDepth 100000 in
theorem cM_two1_1 (l : Launch) (hl9 : l.stackTraces = false) (D : va_G) (cT : Nat → ClassId) (aK aV : Nat → Nat) (sz : Nat) (a0 : Nat) (a1 : Nat) (a2 : Nat) (a3 : Nat) (v4 : Value) (v5 : Value) (v6 : Value) (v7 : Value) (v8 : Value) (v9 : Value) (v10 : Value) (v11 : Value) (v12 : Value) (v13 : Value) (v14 : Value) (v15 : Value) (v16 : Value) (v17 : Value) (v18 : Value) (v19 : Value) (v20 : Value) (v21 : Value) (v22 : Value) (v23 : Value) (v24 : Value) (v25 : Value) (v26 : Value) (v27 : Value) (v28 : Value) (v29 : Value) (v30 : Value) (v31 : Value) (v32 : Value) (v33 : Value) (v34 : Value) (v35 : Value) (v36 : Value) (v37 : Value) (v38 : Value) (v39 : Value) (v40 : Value) (v41 : Value) (v42 : Value) (v43 : Value) (f44 : Nat → Option Nat) (h45 : f44 2 = none) : xMet l yM_two1 wyM_two1 4 1 6 76 D cT aK aV sz [.ref a0, .int 1, .ref a1, .ref a2] [(a0, .inr (5, [v4, .ref a3, .int 2, v5, v6, v7, v8, v9, v10, v11, v12, v13, v14, v15, v16, v17, v18, v19, v20, v21, v22, v23, v24, v25, v26, v27, v28, v29, v30, v31, v32, v33])), (a1, .inr (6, [.int 0, v34, v35, v36, v37, v38])), (a2, .inr (6, [.int 0, v39, v40, v41, v42, v43])), (a3, .inl (cT 4, 1024, .inr (.inr (.inr (.inr f44)))))] (fun A => va_Qr (fun _ : Unit => True) (fun _ r3 t => xB D xcl cT A [(a0, .inr (5, [v4, .ref a3, .int 3, v5, v6, v7, v8, v9, v10, v11, v12, v13, v14, v15, v16, v17, v18, v19, v20, v21, v22, v23, v24, v25, v26, v27, v28, v29, v30, v31, v32, v33])), (a1, .inr (6, [.int 0, v34, v35, v36, v37, v38])), (a2, .inr (6, [.int 0, v39, v40, v41, v42, v43])), (a3, .inl (cT 4, 1024, .inr (.inr (.inr (.inr (va_up f44 2 (some r3))))))), (r3, .inr (6, [.int 2, .long 0, .int 0, .int 0, .int 0, .int 1]))] t) A) := by
  refine Met.ofW (cc := prog_13_method_76_code) (maxL := 4) (ret := (some (.object "ValueBenchModel$V"))) (by decide) rfl ?_
  intro p e s m args below meth c s₁ B hml hv
  obtain ⟨rfl, hsz, hZ, hP, hK, hD0⟩ := hv
  have hx := B.exec
  have hb := B.bytes
  have hr := B.returns
  have hts := atoms_spec (ws := wyM_two1) B.pre
  have htx := fun w h => hts w (List.mem_cons_of_mem _ h)
  have hown : s.vm.findClass "ValueBenchModel" = some m.cls := findClass_of_methodNamed B.named
  have hlocks := B.notSynchronized
  subst hsz
  have hD := hD0.self (sz := s.heap.size)
  generalize hAe : va_A [(a0, .inr (5, [v4, .ref a3, .int 2, v5, v6, v7, v8, v9, v10, v11, v12, v13, v14, v15, v16, v17, v18, v19, v20, v21, v22, v23, v24, v25, v26, v27, v28, v29, v30, v31, v32, v33])), (a1, .inr (6, [.int 0, v34, v35, v36, v37, v38])), (a2, .inr (6, [.int 0, v39, v40, v41, v42, v43])), (a3, .inl (cT 4, 1024, .inr (.inr (.inr (.inr f44)))))] s.heap.size = A at hD hZ ⊢
  have hA : ∀ q : Nat, s.heap.size ≤ q → A q := fun q h => by rw [← hAe]; exact Or.inr h
  have hS : va_S A s.heap s.heap [] := va_S.rf
  have hP : va_P D xcl [(a0, .inr (5, [v4, .ref a3, .int 2, v5, v6, v7, v8, v9, v10, v11, v12, v13, v14, v15, v16, v17, v18, v19, v20, v21, v22, v23, v24, v25, v26, v27, v28, v29, v30, v31, v32, v33])), (a1, .inr (6, [.int 0, v34, v35, v36, v37, v38])), (a2, .inr (6, [.int 0, v39, v40, v41, v42, v43])), (a3, .inl (cT 4, 1024, .inr (.inr (.inr (.inr f44)))))] s.heap := hP
  have hl := lv_entry ([.ref a0, .int 1, .ref a1, .ref a2]) (n := 4) (Nat.le_of_ble_eq_true rfl)
  rw [lg_entry_eq]
  generalize (lg_sl ([.ref a0, .int 1, .ref a1, .ref a2]) ++ List.replicate (4 - (lg_sl ([.ref a0, .int 1, .ref a1, .ref a2])).length) Slot.unset).toArray = ls at hl ⊢
  have hl : lv_has ls 4 [(0, .ref a0), (1, .int 1), (2, .ref a1), (3, .ref a2)] := hl
  refine lv_iload_n hx hb dM_two1_0 rfl (lv_at hl 1 rfl) ?_
  refine lv_tableIn (off := 58) (tgt := 59) hx hb dM_two1_1 (by decide) (by decide) (by decide) (by decide) ?_
  refine lv_aload_n hx hb dM_two1_59 rfl (lv_at hl 0 rfl) ?_
  refine lv_aload_n hx hb dM_two1_60 rfl (lv_at hl 2 rfl) ?_
  refine lv_aload_n hx hb dM_two1_61 rfl (lv_at hl 3 rfl) ?_
  obtain ⟨hPc, hDc, hFc⟩ := xcut (wc := [(a1, .inr (6, [.int 0, v34, v35, v36, v37, v38])), (a2, .inr (6, [.int 0, v39, v40, v41, v42, v43]))]) hP hD hS hA [1, 2] rfl rfl (by decide)
  refine va_calli (va_runV (C := "ValueBenchModel") (As := [.ref a1, .ref a2]) (rest := []) ⟨hx, hb, hml, hown, htx⟩ (cM_alike_0 l hl9 D cT aK aV s.heap.size a1 a2 a0 v34 v35 v36 v37 v38 v39 v40 v41 v42 v43) ⟨callB_of 2 htx (xw_goodC kw_7_87) rfl rfl rfl (htx _ kw_1_5) (htx _ kw_7_84) ⟨by decide, by decide, by decide +kernel⟩ ⟨Nat.le_of_ble_eq_true rfl, Nat.le_of_ble_eq_true rfl⟩, (htx _ kw_7_86), (htx _ kp_M_alike)⟩ ⟨xPre_blind, va_recv hK hP (ci := 5) rfl (q0 := 0) rfl, (fun U hU hW => ⟨rfl, xPre_of hZ hS hFc hPc hDc hK U hU hW⟩)⟩ rfl rfl hl.1 rfl (lv_room (Nat.le_of_ble_eq_true rfl)) dM_two1_62 ⟨Nat.le_of_ble_eq_true rfl, Nat.le_of_ble_eq_true rfl⟩) hS (fun q _ h => hFc q h) hFc (fun r1 u9 t H1 locs ht hvm hr9 hB hz1 hk1 hS => ?_)
  obtain ⟨hP1, hK1, hD1⟩ := hB
  rw [ht] at hP1
  obtain ⟨hP, hD⟩ := xjoin (W := [(a0, .inr (5, [v4, .ref a3, .int 2, v5, v6, v7, v8, v9, v10, v11, v12, v13, v14, v15, v16, v17, v18, v19, v20, v21, v22, v23, v24, v25, v26, v27, v28, v29, v30, v31, v32, v33])), (a3, .inl (cT 4, 1024, .inr (.inr (.inr (.inr f44))))), (a1, .inr (6, [.int 0, v34, v35, v36, v37, v38])), (a2, .inr (6, [.int 0, v39, v40, v41, v42, v43]))]) hP hD [1, 2] [0, 3] 2 rfl rfl (by decide) (by decide) hk1 hFc hP1 hD1
  generalize H1 = H at hP hS ⊢
  rw [hr9]
  refine W.eq (g2 := F0 m 65 ls [.int 1]) rfl ?_
  refine lv_if_eq (tgt := 81) hx hb dM_two1_65 (by decide) (fun h => ((by revert h; decide : False)).elim) (fun _ => ?_)
  refine lv_aload_n hx hb dM_two1_68 rfl (lv_at hl 0 rfl) ?_
  refine lv_aload_n hx hb dM_two1_69 rfl (lv_at hl 0 rfl) ?_
  refine lv_aload_n hx hb dM_two1_70 rfl (lv_at hl 2 rfl) ?_
  refine lv_aload_n hx hb dM_two1_71 rfl (lv_at hl 3 rfl) ?_
  obtain ⟨hPc, hDc, hFc⟩ := xcut (wc := [(a0, .inr (5, [v4, .ref a3, .int 2, v5, v6, v7, v8, v9, v10, v11, v12, v13, v14, v15, v16, v17, v18, v19, v20, v21, v22, v23, v24, v25, v26, v27, v28, v29, v30, v31, v32, v33])), (a1, .inr (6, [.int 0, v34, v35, v36, v37, v38])), (a2, .inr (6, [.int 0, v39, v40, v41, v42, v43]))]) hP hD hS hA [0, 2, 3] rfl rfl (by decide)
  refine va_calli (va_runV (C := "ValueBenchModel") (As := [.ref a1, .ref a2]) (rest := [.ref a0]) ⟨hx, hb, hml, hown, htx⟩ (cM_contains_0 l hl9 D cT aK aV H.size a0 a1 a2 v4 (.ref a3) (.int 2) v5 v6 v7 v8 v9 v10 v11 v12 v13 v14 v15 v16 v17 v18 v19 v20 v21 v22 v23 v24 v25 v26 v27 v28 v29 v30 v31 v32 v33 v34 v35 v36 v37 v38 v39 v40 v41 v42 v43) ⟨callB_of 2 htx (xw_goodC kw_7_91) rfl rfl rfl (htx _ kw_1_5) (htx _ kw_7_88) ⟨by decide, by decide, by decide +kernel⟩ ⟨Nat.le_of_ble_eq_true rfl, Nat.le_of_ble_eq_true rfl⟩, (htx _ kw_7_90), (htx _ kp_M_contains)⟩ ⟨xPre_blind, va_recv hK hP (ci := 5) rfl (q0 := 0) rfl, (fun U hU hW => ⟨rfl, xPre_of hZ hS hFc hPc hDc hK U hU hW⟩)⟩ rfl rfl hl.1 rfl (lv_room (Nat.le_of_ble_eq_true rfl)) dM_two1_72 ⟨Nat.le_of_ble_eq_true rfl, Nat.le_of_ble_eq_true rfl⟩) hS (fun q _ h => hFc q h) hFc (fun r2 u9 t H1 locs ht hvm hr9 hB hz1 hk1 hS => ?_)
  obtain ⟨hP1, hK1, hD1⟩ := hB
  rw [ht] at hP1
  obtain ⟨hP, hD⟩ := xjoin (W := [(a3, .inl (cT 4, 1024, .inr (.inr (.inr (.inr f44))))), (a0, .inr (5, [v4, .ref a3, .int 2, v5, v6, v7, v8, v9, v10, v11, v12, v13, v14, v15, v16, v17, v18, v19, v20, v21, v22, v23, v24, v25, v26, v27, v28, v29, v30, v31, v32, v33])), (a1, .inr (6, [.int 0, v34, v35, v36, v37, v38])), (a2, .inr (6, [.int 0, v39, v40, v41, v42, v43]))]) hP hD [0, 2, 3] [1] 1 rfl rfl (by decide) (by decide) hk1 hFc hP1 hD1
  generalize H1 = H at hP hS ⊢
  rw [hr9]
  refine W.eq (g2 := F0 m 75 ls [.int 1, .ref a0]) rfl ?_
  obtain ⟨hPc, hDc, hFc⟩ := xcut (wc := [(a0, .inr (5, [v4, .ref a3, .int 2, v5, v6, v7, v8, v9, v10, v11, v12, v13, v14, v15, v16, v17, v18, v19, v20, v21, v22, v23, v24, v25, v26, v27, v28, v29, v30, v31, v32, v33])), (a3, .inl (cT 4, 1024, .inr (.inr (.inr (.inr f44)))))]) hP hD hS hA [1, 0] rfl rfl (by decide)
  refine va_callr (va_runV (C := "ValueBenchModel") (As := [.int 1]) (rest := []) ⟨hx, hb, hml, hown, htx⟩ (cM_truth_1 l hl9 D cT aK aV H.size a0 a3 v4 v5 v6 v7 v8 v9 v10 v11 v12 v13 v14 v15 v16 v17 v18 v19 v20 v21 v22 v23 v24 v25 v26 v27 v28 v29 v30 v31 v32 v33 f44 (by first | rfl | exact h45)) ⟨callB_of 1 htx (xw_goodC kw_7_5) rfl rfl rfl (htx _ kw_1_5) (htx _ kw_7_2) ⟨by decide, by decide, by decide +kernel⟩ ⟨Nat.le_of_ble_eq_true rfl, Nat.le_of_ble_eq_true rfl⟩, (htx _ kw_7_4), (htx _ kp_M_truth)⟩ ⟨xPre_blind, va_recv hK hP (ci := 5) rfl (q0 := 1) rfl, (fun U hU hW => ⟨rfl, xPre_of hZ hS hFc hPc hDc hK U hU hW⟩)⟩ rfl rfl hl.1 rfl (lv_room (Nat.le_of_ble_eq_true rfl)) dM_two1_75 ⟨Nat.le_of_ble_eq_true rfl, Nat.le_of_ble_eq_true rfl⟩) hS (fun q _ h => hFc q h) hFc (fun u9 r3 t H1 locs ht hvm hr9 hB hz1 hk1 hS => ?_)
  obtain ⟨hP1, hK1, hD1⟩ := hB
  rw [ht] at hP1
  obtain ⟨hP, hD⟩ := xjoin (W := [(a1, .inr (6, [.int 0, v34, v35, v36, v37, v38])), (a2, .inr (6, [.int 0, v39, v40, v41, v42, v43])), (a0, .inr (5, [v4, .ref a3, .int 3, v5, v6, v7, v8, v9, v10, v11, v12, v13, v14, v15, v16, v17, v18, v19, v20, v21, v22, v23, v24, v25, v26, v27, v28, v29, v30, v31, v32, v33])), (a3, .inl (cT 4, 1024, .inr (.inr (.inr (.inr (va_up f44 2 (some r3))))))), (r3, .inr (6, [.int 2, .long 0, .int 0, .int 0, .int 0, .int 1]))]) hP hD [1, 0] [2, 3] 2 rfl rfl (by decide) (by decide) hk1 hFc hP1 hD1
  generalize H1 = H at hP hS ⊢
  refine W.eq (g2 := F0 m 78 ls [.ref r3]) rfl ?_
  refine lv_goto (tgt := 86) hx hb dM_two1_78 (by decide) ?_
  obtain ⟨hP9, hD9⟩ := xsub (wc := [(a0, .inr (5, [v4, .ref a3, .int 3, v5, v6, v7, v8, v9, v10, v11, v12, v13, v14, v15, v16, v17, v18, v19, v20, v21, v22, v23, v24, v25, v26, v27, v28, v29, v30, v31, v32, v33])), (a1, .inr (6, [.int 0, v34, v35, v36, v37, v38])), (a2, .inr (6, [.int 0, v39, v40, v41, v42, v43])), (a3, .inl (cT 4, 1024, .inr (.inr (.inr (.inr (va_up f44 2 (some r3))))))), (r3, .inr (6, [.int 2, .long 0, .int 0, .int 0, .int 0, .int 1]))]) hP hD [2, 0, 1, 3, 4] rfl rfl (by decide)
  refine W.widen (k := 1) (n := 6) (Nat.le_of_ble_eq_true rfl) (Nat.le_of_ble_eq_true rfl) ?_
  exact W.aret hx hb hr (Or.inl ⟨_, rfl⟩) (Or.inr ⟨_, rfl⟩) (fun t ht hW => ⟨⟨(), r3, rfl, trivial, by rw [ht]; exact hP9, va_K.moved hW.alike hK, hD9⟩, hS.F ht⟩) hS.2.2 dM_two1_86
set_option maxHeartbeats 400000000 in
set_option maxRecDepth 100000 in
theorem cM_finish_34 (l : Launch) (hl9 : l.stackTraces = false) (D : va_G) (cT : Nat → ClassId) (aK aV : Nat → Nat) (sz : Nat) (a0 : Nat) (a1 : Nat) (a2 : Nat) (a3 : Nat) (a4 : Nat) (a5 : Nat) (x6 : Int32) (x11 : Int32) (x16 : Int32) (v21 : Value) (v22 : Value) (v23 : Value) (v24 : Value) (v25 : Value) (v26 : Value) (v27 : Value) (v28 : Value) (v29 : Value) (v30 : Value) (v31 : Value) (v32 : Value) (v33 : Value) (v34 : Value) (v35 : Value) (v36 : Value) (v37 : Value) (v38 : Value) (v39 : Value) (v40 : Value) (v41 : Value) (v42 : Value) (v43 : Value) (v44 : Value) (v45 : Value) (v46 : Value) (v47 : Value) (f48 : Nat → Option Nat) (f52 : Nat → Int32) (f55 : Nat → Int32) (f60 : Nat → Option Nat) (f64 : Nat → Int32) (h7 : ¬ x6 < 0) (h8 : ¬ 7 < x6) (h9 : x6 ≤ 7) (h10 : vp_in x6 8) (h12 : ¬ x11 < 0) (h13 : ¬ 7 < x11) (h14 : x11 ≤ 7) (h15 : vp_in x11 8) (h17 : ¬ x16 < 0) (h18 : ¬ 7 < x16) (h19 : x16 ≤ 7) (h20 : vp_in x16 8) (h49 : f48 x11.toNatClampNeg = some a3) (h50 : f48 x16.toNatClampNeg = some a3) (h51 : f48 x6.toNatClampNeg = some a3) (h53 : f52 x11.toNatClampNeg = 4) (h54 : f52 x16.toNatClampNeg = 4) (h56 : f55 0 = 110) (h57 : f55 1 = 117) (h58 : f55 2 = 108) (h59 : f55 3 = 108) (h61 : f60 0 = none) (h62 : f60 1 = none) (h63 : f60 2 = none) : xMet l yM_finish wyM_finish 8 3 18 175 D cT aK aV sz [.ref a0, .int x6, .int 2, .int 1, .int x11, .int x16] [(a0, .inr (5, [v21, .ref a4, .int 0, v22, v23, v24, v25, v26, v27, v28, v29, v30, v31, v32, v33, v34, v35, v36, v37, v38, v39, .ref a5, v40, v41, .ref a1, .ref a2, v42, v43, v44, v45, v46, v47])), (a1, .inl (cT 5, 8, .inr (.inr (.inr (.inr f48))))), (a2, .inl (cT 1, 8, .inl f52)), (a3, .inl (cT 0, 4096, .inl f55)), (a4, .inl (cT 4, 1024, .inr (.inr (.inr (.inr f60))))), (a5, .inl (cT 0, 1024, .inl f64))] (fun A => va_Qv (fun _ : Unit => True) (fun _ t => ∃ (r1 : Nat) (r2 : Nat) (r3 : Nat) (y5 : Int32) (y6 : Int32) (y7 : Int32) (y8 : Int32), xB D xcl cT A [(a0, .inr (5, [v21, .ref a4, .int 3, v22, v23, v24, v25, v26, v27, v28, v29, v30, v31, v32, v33, .ref a3, .int 4, .int 4, .int 0, .int 100, v39, .ref a5, .int 4, .int 4096, .ref a1, .ref a2, v42, v43, v44, v45, v46, v47])), (a1, .inl (cT 5, 8, .inr (.inr (.inr (.inr f48))))), (a2, .inl (cT 1, 8, .inl (upd f52 x6.toNatClampNeg 4))), (a3, .inl (cT 0, 4096, .inl (upd (upd (upd (upd f55 0 (vp_nar .byte (vp_nar .byte y5))) 1 (vp_nar .byte (vp_nar .byte y6))) 2 (vp_nar .byte (vp_nar .byte y7))) 3 (vp_nar .byte (vp_nar .byte y8))))), (a4, .inl (cT 4, 1024, .inr (.inr (.inr (.inr (va_up (va_up (va_up f60 0 (some r1)) 1 (some r2)) 2 (some r3))))))), (a5, .inl (cT 0, 1024, .inl (upd (upd (upd (upd f64 0 (vp_nar .byte y5)) 1 (vp_nar .byte y6)) 2 (vp_nar .byte y7)) 3 (vp_nar .byte y8)))), (r1, .inr (6, [.int 0, .long 0, .int 0, .int 0, .int 0, .int 1])), (r2, .inr (6, [.int 0, .long 0, .int 0, .int 0, .int 0, .int 1])), (r3, .inr (6, [.int 2, .long 0, .int 0, .int 0, .int 0, .int 1]))] t) A) := by
  refine va_MetW (cc := prog_13_method_90_code) (maxL := 10) (ret := none) (hh := [(0, 128, 131, 83), (0, 128, 149, 86)]) (by decide) rfl ?_
  intro p e s m args below meth c s₁ B hml hv
  obtain ⟨rfl, hsz, hZ, hP, hK, hD0⟩ := hv
  have hx := B.exec
  have hb := B.bytes
  have hr := B.returns
  have hts := atoms_spec (ws := wyM_finish) B.pre
  have htx := fun w h => hts w (List.mem_cons_of_mem _ h)
  have hown : s.vm.findClass "ValueBenchModel" = some m.cls := findClass_of_methodNamed B.named
  have hlocks := B.notSynchronized
  subst hsz
  have hD := hD0.self (sz := s.heap.size)
  generalize hAe : va_A [(a0, .inr (5, [v21, .ref a4, .int 0, v22, v23, v24, v25, v26, v27, v28, v29, v30, v31, v32, v33, v34, v35, v36, v37, v38, v39, .ref a5, v40, v41, .ref a1, .ref a2, v42, v43, v44, v45, v46, v47])), (a1, .inl (cT 5, 8, .inr (.inr (.inr (.inr f48))))), (a2, .inl (cT 1, 8, .inl f52)), (a3, .inl (cT 0, 4096, .inl f55)), (a4, .inl (cT 4, 1024, .inr (.inr (.inr (.inr f60))))), (a5, .inl (cT 0, 1024, .inl f64))] s.heap.size = A at hD hZ ⊢
  have hA : ∀ q : Nat, s.heap.size ≤ q → A q := fun q h => by rw [← hAe]; exact Or.inr h
  have hS : va_S A s.heap s.heap [] := va_S.rf
  have hP : va_P D xcl [(a0, .inr (5, [v21, .ref a4, .int 0, v22, v23, v24, v25, v26, v27, v28, v29, v30, v31, v32, v33, v34, v35, v36, v37, v38, v39, .ref a5, v40, v41, .ref a1, .ref a2, v42, v43, v44, v45, v46, v47])), (a1, .inl (cT 5, 8, .inr (.inr (.inr (.inr f48))))), (a2, .inl (cT 1, 8, .inl f52)), (a3, .inl (cT 0, 4096, .inl f55)), (a4, .inl (cT 4, 1024, .inr (.inr (.inr (.inr f60))))), (a5, .inl (cT 0, 1024, .inl f64))] s.heap := hP
  have hl := lv_entry ([.ref a0, .int x6, .int 2, .int 1, .int x11, .int x16]) (n := 10) (Nat.le_of_ble_eq_true rfl)
  rw [lg_entry_eq]
  generalize (lg_sl ([.ref a0, .int x6, .int 2, .int 1, .int x11, .int x16]) ++ List.replicate (10 - (lg_sl ([.ref a0, .int x6, .int 2, .int 1, .int x11, .int x16])).length) Slot.unset).toArray = ls at hl ⊢
  have hl : lv_has ls 10 [(0, .ref a0), (1, .int x6), (2, .int 2), (3, .int 1), (4, .int x11), (5, .int x16)] := hl
  have htab := vx_table (x := yM_finish) B (hts _ List.mem_cons_self)
  refine lv_aload_n hx hb dM_finish_0 rfl (lv_at hl 0 rfl) ?_
  refine lv_iload hx hb dM_finish_1 (lv_at hl 4 rfl) ?_
  obtain ⟨hPc, hDc, hFc⟩ := xcut (wc := [(a0, .inr (5, [v21, .ref a4, .int 0, v22, v23, v24, v25, v26, v27, v28, v29, v30, v31, v32, v33, v34, v35, v36, v37, v38, v39, .ref a5, v40, v41, .ref a1, .ref a2, v42, v43, v44, v45, v46, v47])), (a1, .inl (cT 5, 8, .inr (.inr (.inr (.inr f48))))), (a2, .inl (cT 1, 8, .inl f52)), (a3, .inl (cT 0, 4096, .inl f55)), (a4, .inl (cT 4, 1024, .inr (.inr (.inr (.inr f60)))))]) hP hD hS hA [0, 1, 2, 3, 4] rfl rfl (by decide)
  refine va_callr (va_runV (C := "ValueBenchModel") (As := [.int x11]) (rest := []) ⟨hx, hb, hml, hown, htx⟩ (cM_register_0 l hl9 D cT aK aV s.heap.size a0 a1 a2 a3 a4 x11 v21 v22 v23 v24 v25 v26 v27 v28 v29 v30 v31 v32 v33 v34 v35 v36 v37 v38 v39 (.ref a5) v40 v41 v42 v43 v44 v45 v46 v47 f48 f52 f55 f60 h12 h13 h14 h15 (by first | rfl | exact h49 | exact h50 | exact h51 | exact h53 | exact h54 | exact h56 | exact h57 | exact h58 | exact h59 | exact h61 | exact h62 | exact h63) (by first | rfl | exact h49 | exact h50 | exact h51 | exact h53 | exact h54 | exact h56 | exact h57 | exact h58 | exact h59 | exact h61 | exact h62 | exact h63) (by first | rfl | exact h49 | exact h50 | exact h51 | exact h53 | exact h54 | exact h56 | exact h57 | exact h58 | exact h59 | exact h61 | exact h62 | exact h63) (by first | rfl | exact h49 | exact h50 | exact h51 | exact h53 | exact h54 | exact h56 | exact h57 | exact h58 | exact h59 | exact h61 | exact h62 | exact h63) (by first | rfl | exact h49 | exact h50 | exact h51 | exact h53 | exact h54 | exact h56 | exact h57 | exact h58 | exact h59 | exact h61 | exact h62 | exact h63) (by first | rfl | exact h49 | exact h50 | exact h51 | exact h53 | exact h54 | exact h56 | exact h57 | exact h58 | exact h59 | exact h61 | exact h62 | exact h63) (by first | rfl | exact h49 | exact h50 | exact h51 | exact h53 | exact h54 | exact h56 | exact h57 | exact h58 | exact h59 | exact h61 | exact h62 | exact h63)) ⟨callB_of 1 htx (xw_goodC kw_6_170) rfl rfl rfl (htx _ kw_1_5) (htx _ kw_6_167) ⟨by decide, by decide, by decide +kernel⟩ ⟨Nat.le_of_ble_eq_true rfl, Nat.le_of_ble_eq_true rfl⟩, (htx _ kw_6_169), (htx _ kp_M_register)⟩ ⟨xPre_blind, va_recv hK hP (ci := 5) rfl (q0 := 0) rfl, (fun U hU hW => ⟨rfl, xPre_of hZ hS hFc hPc hDc hK U hU hW⟩)⟩ rfl rfl hl.1 rfl (lv_room (Nat.le_of_ble_eq_true rfl)) dM_finish_3 ⟨Nat.le_of_ble_eq_true rfl, Nat.le_of_ble_eq_true rfl⟩) hS (fun q _ h => hFc q h) hFc (fun u9 r1 t H1 locs ht hvm hr9 hB hz1 hk1 hS => ?_)
  obtain ⟨hP1, hK1, hD1⟩ := hB
  rw [ht] at hP1
  obtain ⟨hP, hD⟩ := xjoin (W := [(a5, .inl (cT 0, 1024, .inl f64)), (a0, .inr (5, [v21, .ref a4, .int 1, v22, v23, v24, v25, v26, v27, v28, v29, v30, v31, v32, v33, .ref a3, .int 4, .int 4, .int 0, .int 100, v39, .ref a5, v40, v41, .ref a1, .ref a2, v42, v43, v44, v45, v46, v47])), (a1, .inl (cT 5, 8, .inr (.inr (.inr (.inr f48))))), (a2, .inl (cT 1, 8, .inl f52)), (a3, .inl (cT 0, 4096, .inl f55)), (a4, .inl (cT 4, 1024, .inr (.inr (.inr (.inr (va_up f60 0 (some r1))))))), (r1, .inr (6, [.int 0, .long 0, .int 0, .int 0, .int 0, .int 1]))]) hP hD [0, 1, 2, 3, 4] [5] 1 rfl rfl (by decide) (by decide) hk1 hFc hP1 hD1
  generalize H1 = H at hP hS ⊢
  refine W.eq (g2 := F0 m 6 ls [.ref r1]) rfl ?_
  refine lv_astore (lv' := [(6, .ref r1), (0, .ref a0), (1, .int x6), (2, .int 2), (3, .int 1), (4, .int x11), (5, .int x16)]) hx hb dM_finish_6 hl (by decide) rfl (fun ls hl => ?_)
  refine lv_iload_n hx hb dM_finish_8 rfl (lv_at hl 3 rfl) ?_
  refine lv_iconst (v := 1) hx hb dM_finish_9 (by decide) ?_
  refine lv_icmp_ne (tgt := 17) hx hb dM_finish_10 (by decide) (fun _ => ?_) (fun h => ((by revert h; decide : False)).elim)
  refine lv_aload_n hx hb dM_finish_17 rfl (lv_at hl 1 rfl) ?_
  refine lv_iload hx hb dM_finish_18 (lv_at hl 6 rfl) ?_
  obtain ⟨hPc, hDc, hFc⟩ := xcut (wc := [(a0, .inr (5, [v21, .ref a4, .int 1, v22, v23, v24, v25, v26, v27, v28, v29, v30, v31, v32, v33, .ref a3, .int 4, .int 4, .int 0, .int 100, v39, .ref a5, v40, v41, .ref a1, .ref a2, v42, v43, v44, v45, v46, v47])), (a1, .inl (cT 5, 8, .inr (.inr (.inr (.inr f48))))), (a2, .inl (cT 1, 8, .inl f52)), (a3, .inl (cT 0, 4096, .inl f55)), (a4, .inl (cT 4, 1024, .inr (.inr (.inr (.inr (va_up f60 0 (some r1)))))))]) hP hD hS hA [1, 2, 3, 4, 5] rfl rfl (by decide)
  refine va_callr (va_runV (C := "ValueBenchModel") (As := [.int x16]) (rest := []) ⟨hx, hb, hml, hown, htx⟩ (cM_register_4 l hl9 D cT aK aV H.size a0 a1 a2 a3 a4 x16 v21 v22 v23 v24 v25 v26 v27 v28 v29 v30 v31 v32 v33 (.ref a3) (.int 4) (.int 4) (.int 0) (.int 100) v39 (.ref a5) v40 v41 v42 v43 v44 v45 v46 v47 f48 f52 f55 (va_up f60 0 (some r1)) h17 h18 h19 h20 (by first | rfl | exact h49 | exact h50 | exact h51 | exact h53 | exact h54 | exact h56 | exact h57 | exact h58 | exact h59 | exact h62 | exact h63) (by first | rfl | exact h49 | exact h50 | exact h51 | exact h53 | exact h54 | exact h56 | exact h57 | exact h58 | exact h59 | exact h62 | exact h63) (by first | rfl | exact h49 | exact h50 | exact h51 | exact h53 | exact h54 | exact h56 | exact h57 | exact h58 | exact h59 | exact h62 | exact h63) (by first | rfl | exact h49 | exact h50 | exact h51 | exact h53 | exact h54 | exact h56 | exact h57 | exact h58 | exact h59 | exact h62 | exact h63) (by first | rfl | exact h49 | exact h50 | exact h51 | exact h53 | exact h54 | exact h56 | exact h57 | exact h58 | exact h59 | exact h62 | exact h63) (by first | rfl | exact h49 | exact h50 | exact h51 | exact h53 | exact h54 | exact h56 | exact h57 | exact h58 | exact h59 | exact h62 | exact h63) (by first | rfl | exact h49 | exact h50 | exact h51 | exact h53 | exact h54 | exact h56 | exact h57 | exact h58 | exact h59 | exact h62 | exact h63)) ⟨callB_of 1 htx (xw_goodC kw_6_170) rfl rfl rfl (htx _ kw_1_5) (htx _ kw_6_167) ⟨by decide, by decide, by decide +kernel⟩ ⟨Nat.le_of_ble_eq_true rfl, Nat.le_of_ble_eq_true rfl⟩, (htx _ kw_6_169), (htx _ kp_M_register)⟩ ⟨xPre_blind, va_recv hK hP (ci := 5) rfl (q0 := 1) rfl, (fun U hU hW => ⟨rfl, xPre_of hZ hS hFc hPc hDc hK U hU hW⟩)⟩ rfl rfl hl.1 rfl (lv_room (Nat.le_of_ble_eq_true rfl)) dM_finish_20 ⟨Nat.le_of_ble_eq_true rfl, Nat.le_of_ble_eq_true rfl⟩) hS (fun q _ h => hFc q h) hFc (fun u9 r2 t H1 locs ht hvm hr9 hB hz1 hk1 hS => ?_)
  obtain ⟨hP1, hK1, hD1⟩ := hB
  rw [ht] at hP1
  obtain ⟨hP, hD⟩ := xjoin (W := [(a5, .inl (cT 0, 1024, .inl f64)), (r1, .inr (6, [.int 0, .long 0, .int 0, .int 0, .int 0, .int 1])), (a0, .inr (5, [v21, .ref a4, .int 2, v22, v23, v24, v25, v26, v27, v28, v29, v30, v31, v32, v33, .ref a3, .int 4, .int 4, .int 0, .int 100, v39, .ref a5, v40, v41, .ref a1, .ref a2, v42, v43, v44, v45, v46, v47])), (a1, .inl (cT 5, 8, .inr (.inr (.inr (.inr f48))))), (a2, .inl (cT 1, 8, .inl f52)), (a3, .inl (cT 0, 4096, .inl f55)), (a4, .inl (cT 4, 1024, .inr (.inr (.inr (.inr (va_up (va_up f60 0 (some r1)) 1 (some r2))))))), (r2, .inr (6, [.int 0, .long 0, .int 0, .int 0, .int 0, .int 1]))]) hP hD [1, 2, 3, 4, 5] [0, 6] 2 rfl rfl (by decide) (by decide) hk1 hFc hP1 hD1
  generalize H1 = H at hP hS ⊢
  refine W.eq (g2 := F0 m 23 ls [.ref r2]) rfl ?_
  refine lv_astore (lv' := [(7, .ref r2), (6, .ref r1), (0, .ref a0), (1, .int x6), (2, .int 2), (3, .int 1), (4, .int x11), (5, .int x16)]) hx hb dM_finish_23 hl (by decide) rfl (fun ls hl => ?_)
  refine lv_iload_n hx hb dM_finish_25 rfl (lv_at hl 4 rfl) ?_
  refine lv_if_ne (tgt := 43) hx hb dM_finish_26 (by decide) (fun _ => ?_) (fun h => ((by revert h; decide : False)).elim)
  refine lv_iload_n hx hb dM_finish_43 rfl (lv_at hl 4 rfl) ?_
  refine lv_iconst (v := 1) hx hb dM_finish_44 (by decide) ?_
  refine lv_icmp_ne (tgt := 60) hx hb dM_finish_45 (by decide) (fun _ => ?_) (fun h => ((by revert h; decide : False)).elim)
  refine lv_iload_n hx hb dM_finish_60 rfl (lv_at hl 4 rfl) ?_
  refine lv_iconst (v := 2) hx hb dM_finish_61 (by decide) ?_
  refine lv_icmp_ne (tgt := 79) hx hb dM_finish_62 (by decide) (fun h => ((by revert h; decide : False)).elim) (fun _ => ?_)
  refine lv_aload_n hx hb dM_finish_65 rfl (lv_at hl 2 rfl) ?_
  refine lv_iload_n hx hb dM_finish_66 rfl (lv_at hl 5 rfl) ?_
  refine lv_aload hx hb dM_finish_67 (lv_at hl 1 rfl) ?_
  refine lv_aload hx hb dM_finish_69 (lv_at hl 0 rfl) ?_
  obtain ⟨hPc, hDc, hFc⟩ := xcut (wc := [(a0, .inr (5, [v21, .ref a4, .int 2, v22, v23, v24, v25, v26, v27, v28, v29, v30, v31, v32, v33, .ref a3, .int 4, .int 4, .int 0, .int 100, v39, .ref a5, v40, v41, .ref a1, .ref a2, v42, v43, v44, v45, v46, v47])), (r1, .inr (6, [.int 0, .long 0, .int 0, .int 0, .int 0, .int 1])), (r2, .inr (6, [.int 0, .long 0, .int 0, .int 0, .int 0, .int 1])), (a4, .inl (cT 4, 1024, .inr (.inr (.inr (.inr (va_up (va_up f60 0 (some r1)) 1 (some r2)))))))]) hP hD hS hA [2, 1, 7, 6] rfl rfl (by decide)
  refine va_callr (va_runV (C := "ValueBenchModel") (As := [.int 1, .ref r1, .ref r2]) (rest := []) ⟨hx, hb, hml, hown, htx⟩ (cM_two1_1 l hl9 D cT aK aV H.size a0 r1 r2 a4 v21 v22 v23 v24 v25 v26 v27 v28 v29 v30 v31 v32 v33 (.ref a3) (.int 4) (.int 4) (.int 0) (.int 100) v39 (.ref a5) v40 v41 (.ref a1) (.ref a2) v42 v43 v44 v45 v46 v47 (.long 0) (.int 0) (.int 0) (.int 0) (.int 1) (.long 0) (.int 0) (.int 0) (.int 0) (.int 1) (va_up (va_up f60 0 (some r1)) 1 (some r2)) (by first | rfl | exact h49 | exact h50 | exact h51 | exact h53 | exact h54 | exact h56 | exact h57 | exact h58 | exact h59 | exact h63)) ⟨callB_of 3 htx (xw_goodC kw_7_79) rfl rfl rfl (htx _ kw_1_5) (htx _ kw_7_76) ⟨by decide, by decide, by decide +kernel⟩ ⟨Nat.le_of_ble_eq_true rfl, Nat.le_of_ble_eq_true rfl⟩, (htx _ kw_7_78), (htx _ kp_M_two1)⟩ ⟨xPre_blind, va_recv hK hP (ci := 5) rfl (q0 := 2) rfl, (fun U hU hW => ⟨rfl, xPre_of hZ hS hFc hPc hDc hK U hU hW⟩)⟩ rfl rfl hl.1 rfl (lv_room (Nat.le_of_ble_eq_true rfl)) dM_finish_71 ⟨Nat.le_of_ble_eq_true rfl, Nat.le_of_ble_eq_true rfl⟩) hS (fun q _ h => hFc q h) hFc (fun u9 r3 t H1 locs ht hvm hr9 hB hz1 hk1 hS => ?_)
  obtain ⟨hP1, hK1, hD1⟩ := hB
  rw [ht] at hP1
  obtain ⟨hP, hD⟩ := xjoin (W := [(a5, .inl (cT 0, 1024, .inl f64)), (a1, .inl (cT 5, 8, .inr (.inr (.inr (.inr f48))))), (a2, .inl (cT 1, 8, .inl f52)), (a3, .inl (cT 0, 4096, .inl f55)), (a0, .inr (5, [v21, .ref a4, .int 3, v22, v23, v24, v25, v26, v27, v28, v29, v30, v31, v32, v33, .ref a3, .int 4, .int 4, .int 0, .int 100, v39, .ref a5, v40, v41, .ref a1, .ref a2, v42, v43, v44, v45, v46, v47])), (r1, .inr (6, [.int 0, .long 0, .int 0, .int 0, .int 0, .int 1])), (r2, .inr (6, [.int 0, .long 0, .int 0, .int 0, .int 0, .int 1])), (a4, .inl (cT 4, 1024, .inr (.inr (.inr (.inr (va_up (va_up (va_up f60 0 (some r1)) 1 (some r2)) 2 (some r3))))))), (r3, .inr (6, [.int 2, .long 0, .int 0, .int 0, .int 0, .int 1]))]) hP hD [2, 1, 7, 6] [0, 3, 4, 5] 4 rfl rfl (by decide) (by decide) hk1 hFc hP1 hD1
  generalize H1 = H at hP hS ⊢
  refine W.eq (g2 := F0 m 74 ls [.ref r3]) rfl ?_
  refine lv_astore (lv' := [(8, .ref r3), (7, .ref r2), (6, .ref r1), (0, .ref a0), (1, .int x6), (2, .int 2), (3, .int 1), (4, .int x11), (5, .int x16)]) hx hb dM_finish_74 hl (by decide) rfl (fun ls hl => ?_)
  refine lv_goto (tgt := 119) hx hb dM_finish_76 (by decide) ?_
  refine lv_aload_n hx hb dM_finish_119 rfl (lv_at hl 3 rfl) ?_
  refine lv_iload_n hx hb dM_finish_120 rfl (lv_at hl 4 rfl) ?_
  refine lv_aload hx hb dM_finish_121 (lv_at hl 0 rfl) ?_
  obtain ⟨hPc, hDc, hFc⟩ := xcut (wc := [(a0, .inr (5, [v21, .ref a4, .int 3, v22, v23, v24, v25, v26, v27, v28, v29, v30, v31, v32, v33, .ref a3, .int 4, .int 4, .int 0, .int 100, v39, .ref a5, v40, v41, .ref a1, .ref a2, v42, v43, v44, v45, v46, v47])), (r3, .inr (6, [.int 2, .long 0, .int 0, .int 0, .int 0, .int 1])), (a5, .inl (cT 0, 1024, .inl f64)), (a1, .inl (cT 5, 8, .inr (.inr (.inr (.inr f48))))), (a3, .inl (cT 0, 4096, .inl f55)), (a2, .inl (cT 1, 8, .inl f52))]) hP hD hS hA [4, 8, 0, 1, 3, 2] rfl rfl (by decide)
  refine va_calli (va_runV (C := "ValueBenchModel") (As := [.int x6, .ref r3]) (rest := []) ⟨hx, hb, hml, hown, htx⟩ (cM_store_1 l hl9 D cT aK aV H.size a0 r3 a5 a1 a3 a2 x6 v21 (.ref a4) (.int 3) v22 v23 v24 v25 v26 v27 v28 v29 v30 v31 v32 v33 (.ref a3) (.int 4) (.int 4) (.int 0) (.int 100) v39 v40 v41 v42 v43 v44 v45 v46 v47 (.long 0) (.int 0) (.int 0) (.int 0) (.int 1) f64 f48 f55 f52 h7 h8 h9 h10 (by first | rfl | exact h49 | exact h50 | exact h51 | exact h53 | exact h54 | exact h56 | exact h57 | exact h58 | exact h59)) ⟨callB_of 2 htx (xw_goodC kw_6_124) rfl rfl rfl (htx _ kw_1_5) (htx _ kw_6_121) ⟨by decide, by decide, by decide +kernel⟩ ⟨Nat.le_of_ble_eq_true rfl, Nat.le_of_ble_eq_true rfl⟩, (htx _ kw_6_123), (htx _ kp_M_store)⟩ ⟨xPre_blind, va_recv hK hP (ci := 5) rfl (q0 := 4) rfl, (fun U hU hW => ⟨rfl, xPre_of hZ hS hFc hPc hDc hK U hU hW⟩)⟩ rfl rfl hl.1 rfl (lv_room (Nat.le_of_ble_eq_true rfl)) dM_finish_123 ⟨Nat.le_of_ble_eq_true rfl, Nat.le_of_ble_eq_true rfl⟩) hS (fun q _ h => hFc q h) hFc (fun r4 u9 t H1 locs ht hvm hr9 hB hz1 hk1 hS => ?_)
  obtain ⟨y5, y6, y7, y8, hP1, hK1, hD1⟩ := hB
  rw [ht] at hP1
  obtain ⟨hP, hD⟩ := xjoin (W := [(r1, .inr (6, [.int 0, .long 0, .int 0, .int 0, .int 0, .int 1])), (r2, .inr (6, [.int 0, .long 0, .int 0, .int 0, .int 0, .int 1])), (a4, .inl (cT 4, 1024, .inr (.inr (.inr (.inr (va_up (va_up (va_up f60 0 (some r1)) 1 (some r2)) 2 (some r3))))))), (a0, .inr (5, [v21, .ref a4, .int 3, v22, v23, v24, v25, v26, v27, v28, v29, v30, v31, v32, v33, .ref a3, .int 4, .int 4, .int 0, .int 100, v39, .ref a5, .int 4, .int 4096, .ref a1, .ref a2, v42, v43, v44, v45, v46, v47])), (r3, .inr (6, [.int 2, .long 0, .int 0, .int 0, .int 0, .int 1])), (a5, .inl (cT 0, 1024, .inl (upd (upd (upd (upd f64 0 (vp_nar .byte y5)) 1 (vp_nar .byte y6)) 2 (vp_nar .byte y7)) 3 (vp_nar .byte y8)))), (a1, .inl (cT 5, 8, .inr (.inr (.inr (.inr f48))))), (a3, .inl (cT 0, 4096, .inl (upd (upd (upd (upd f55 0 (vp_nar .byte (vp_nar .byte y5))) 1 (vp_nar .byte (vp_nar .byte y6))) 2 (vp_nar .byte (vp_nar .byte y7))) 3 (vp_nar .byte (vp_nar .byte y8))))), (a2, .inl (cT 1, 8, .inl (upd f52 x6.toNatClampNeg 4)))]) hP hD [4, 8, 0, 1, 3, 2] [5, 6, 7] 3 rfl rfl (by decide) (by decide) hk1 hFc hP1 hD1
  generalize H1 = H at hP hS ⊢
  rw [hr9]
  refine W.eq (g2 := F0 m 126 ls [.int 4]) rfl ?_
  refine lv_istore (lv' := [(9, .int 4), (8, .ref r3), (7, .ref r2), (6, .ref r1), (0, .ref a0), (1, .int x6), (2, .int 2), (3, .int 1), (4, .int x11), (5, .int x16)]) hx hb dM_finish_126 hl (by decide) rfl (fun ls hl => ?_)
  refine lv_goto (tgt := 156) hx hb dM_finish_128 (by decide) ?_
  obtain ⟨hP9, hD9⟩ := xsub (wc := [(a0, .inr (5, [v21, .ref a4, .int 3, v22, v23, v24, v25, v26, v27, v28, v29, v30, v31, v32, v33, .ref a3, .int 4, .int 4, .int 0, .int 100, v39, .ref a5, .int 4, .int 4096, .ref a1, .ref a2, v42, v43, v44, v45, v46, v47])), (a1, .inl (cT 5, 8, .inr (.inr (.inr (.inr f48))))), (a2, .inl (cT 1, 8, .inl (upd f52 x6.toNatClampNeg 4))), (a3, .inl (cT 0, 4096, .inl (upd (upd (upd (upd f55 0 (vp_nar .byte (vp_nar .byte y5))) 1 (vp_nar .byte (vp_nar .byte y6))) 2 (vp_nar .byte (vp_nar .byte y7))) 3 (vp_nar .byte (vp_nar .byte y8))))), (a4, .inl (cT 4, 1024, .inr (.inr (.inr (.inr (va_up (va_up (va_up f60 0 (some r1)) 1 (some r2)) 2 (some r3))))))), (a5, .inl (cT 0, 1024, .inl (upd (upd (upd (upd f64 0 (vp_nar .byte y5)) 1 (vp_nar .byte y6)) 2 (vp_nar .byte y7)) 3 (vp_nar .byte y8)))), (r1, .inr (6, [.int 0, .long 0, .int 0, .int 0, .int 0, .int 1])), (r2, .inr (6, [.int 0, .long 0, .int 0, .int 0, .int 0, .int 1])), (r3, .inr (6, [.int 2, .long 0, .int 0, .int 0, .int 0, .int 1]))]) hP hD [3, 6, 8, 7, 2, 5, 0, 1, 4] rfl rfl (by decide)
  refine W.widen (k := 3) (n := 18) (Nat.le_of_ble_eq_true rfl) (Nat.le_of_ble_eq_true rfl) ?_
  exact W.vret hx hb hr (fun t ht hW => ⟨⟨(), rfl, trivial, r1, r2, r3, y5, y6, y7, y8, by rw [ht]; exact hP9, va_K.moved hW.alike hK, hD9⟩, hS.F ht⟩) hS.2.2 dM_finish_156
set_option maxHeartbeats 400000000 in
set_option maxRecDepth 100000 in
theorem cM_two0_10 (l : Launch) (hl9 : l.stackTraces = false) (D : va_G) (cT : Nat → ClassId) (aK aV : Nat → Nat) (sz : Nat) (a0 : Nat) (a1 : Nat) (a2 : Nat) (a3 : Nat) (a4 : Nat) (a5 : Nat) (x6 : Int32) (x11 : Int32) (x16 : Int32) (v21 : Value) (v22 : Value) (v23 : Value) (v24 : Value) (v25 : Value) (v26 : Value) (v27 : Value) (v28 : Value) (v29 : Value) (v30 : Value) (v31 : Value) (v32 : Value) (v33 : Value) (v34 : Value) (v35 : Value) (v36 : Value) (v37 : Value) (v38 : Value) (v39 : Value) (v40 : Value) (v41 : Value) (v42 : Value) (v43 : Value) (v44 : Value) (v45 : Value) (v46 : Value) (v47 : Value) (v48 : Value) (f49 : Nat → Option Nat) (f53 : Nat → Int32) (f56 : Nat → Int32) (f61 : Nat → Option Nat) (f65 : Nat → Int32) (h7 : ¬ x6 < 0) (h8 : ¬ 7 < x6) (h9 : x6 ≤ 7) (h10 : vp_in x6 8) (h12 : ¬ x11 < 0) (h13 : ¬ 7 < x11) (h14 : x11 ≤ 7) (h15 : vp_in x11 8) (h17 : ¬ x16 < 0) (h18 : ¬ 7 < x16) (h19 : x16 ≤ 7) (h20 : vp_in x16 8) (h50 : f49 x11.toNatClampNeg = some a3) (h51 : f49 x16.toNatClampNeg = some a3) (h52 : f49 x6.toNatClampNeg = some a3) (h54 : f53 x11.toNatClampNeg = 4) (h55 : f53 x16.toNatClampNeg = 4) (h57 : f56 0 = 110) (h58 : f56 1 = 117) (h59 : f56 2 = 108) (h60 : f56 3 = 108) (h62 : f61 0 = none) (h63 : f61 1 = none) (h64 : f61 2 = none) : xMet l yM_two0 wyM_two0 9 3 18 204 D cT aK aV sz [.ref a0, .int x6, .int 1, .int x11, .int x16] [(a0, .inr (5, [v21, .ref a4, v22, v23, v24, v25, v26, v27, v28, v29, v30, v31, v32, v33, v34, v35, v36, v37, v38, v39, v40, .ref a5, v41, v42, .ref a1, .ref a2, v43, v44, v45, v46, v47, v48])), (a1, .inl (cT 5, 8, .inr (.inr (.inr (.inr f49))))), (a2, .inl (cT 1, 8, .inl f53)), (a3, .inl (cT 0, 4096, .inl f56)), (a4, .inl (cT 4, 1024, .inr (.inr (.inr (.inr f61))))), (a5, .inl (cT 0, 1024, .inl f65))] (fun A => va_Qv (fun _ : Unit => True) (fun _ t => ∃ (q4 : Nat) (q5 : Nat) (q6 : Nat) (y7 : Int32) (y8 : Int32) (y9 : Int32) (y10 : Int32), xB D xcl cT A [(a0, .inr (5, [.int 0, .ref a4, .int 3, v23, .int 0, v25, v26, .int 0, v28, .int 0, v30, v31, .int 0, v33, v34, .ref a3, .int 4, .int 4, .int 0, .int 100, v40, .ref a5, .int 4, .int 4096, .ref a1, .ref a2, v43, v44, v45, v46, v47, v48])), (a1, .inl (cT 5, 8, .inr (.inr (.inr (.inr f49))))), (a2, .inl (cT 1, 8, .inl (upd f53 x6.toNatClampNeg 4))), (a3, .inl (cT 0, 4096, .inl (upd (upd (upd (upd f56 0 (vp_nar .byte (vp_nar .byte y7))) 1 (vp_nar .byte (vp_nar .byte y8))) 2 (vp_nar .byte (vp_nar .byte y9))) 3 (vp_nar .byte (vp_nar .byte y10))))), (a4, .inl (cT 4, 1024, .inr (.inr (.inr (.inr (va_up (va_up (va_up f61 0 (some q4)) 1 (some q5)) 2 (some q6))))))), (a5, .inl (cT 0, 1024, .inl (upd (upd (upd (upd f65 0 (vp_nar .byte y7)) 1 (vp_nar .byte y8)) 2 (vp_nar .byte y9)) 3 (vp_nar .byte y10)))), (q4, .inr (6, [.int 0, .long 0, .int 0, .int 0, .int 0, .int 1])), (q5, .inr (6, [.int 0, .long 0, .int 0, .int 0, .int 0, .int 1])), (q6, .inr (6, [.int 2, .long 0, .int 0, .int 0, .int 0, .int 1]))] t) A) := by
  refine Met.ofW (cc := prog_13_method_93_code) (maxL := 5) (ret := none) (by decide) rfl ?_
  intro p e s m args below meth c s₁ B hml hv
  obtain ⟨rfl, hsz, hZ, hP, hK, hD0⟩ := hv
  have hx := B.exec
  have hb := B.bytes
  have hr := B.returns
  have hts := atoms_spec (ws := wyM_two0) B.pre
  have htx := fun w h => hts w (List.mem_cons_of_mem _ h)
  have hown : s.vm.findClass "ValueBenchModel" = some m.cls := findClass_of_methodNamed B.named
  have hlocks := B.notSynchronized
  subst hsz
  have hD := hD0.self (sz := s.heap.size)
  generalize hAe : va_A [(a0, .inr (5, [v21, .ref a4, v22, v23, v24, v25, v26, v27, v28, v29, v30, v31, v32, v33, v34, v35, v36, v37, v38, v39, v40, .ref a5, v41, v42, .ref a1, .ref a2, v43, v44, v45, v46, v47, v48])), (a1, .inl (cT 5, 8, .inr (.inr (.inr (.inr f49))))), (a2, .inl (cT 1, 8, .inl f53)), (a3, .inl (cT 0, 4096, .inl f56)), (a4, .inl (cT 4, 1024, .inr (.inr (.inr (.inr f61))))), (a5, .inl (cT 0, 1024, .inl f65))] s.heap.size = A at hD hZ ⊢
  have hA : ∀ q : Nat, s.heap.size ≤ q → A q := fun q h => by rw [← hAe]; exact Or.inr h
  have hS : va_S A s.heap s.heap [] := va_S.rf
  have hP : va_P D xcl [(a0, .inr (5, [v21, .ref a4, v22, v23, v24, v25, v26, v27, v28, v29, v30, v31, v32, v33, v34, v35, v36, v37, v38, v39, v40, .ref a5, v41, v42, .ref a1, .ref a2, v43, v44, v45, v46, v47, v48])), (a1, .inl (cT 5, 8, .inr (.inr (.inr (.inr f49))))), (a2, .inl (cT 1, 8, .inl f53)), (a3, .inl (cT 0, 4096, .inl f56)), (a4, .inl (cT 4, 1024, .inr (.inr (.inr (.inr f61))))), (a5, .inl (cT 0, 1024, .inl f65))] s.heap := hP
  have hl := lv_entry ([.ref a0, .int x6, .int 1, .int x11, .int x16]) (n := 5) (Nat.le_of_ble_eq_true rfl)
  rw [lg_entry_eq]
  generalize (lg_sl ([.ref a0, .int x6, .int 1, .int x11, .int x16]) ++ List.replicate (5 - (lg_sl ([.ref a0, .int x6, .int 1, .int x11, .int x16])).length) Slot.unset).toArray = ls at hl ⊢
  have hl : lv_has ls 5 [(0, .ref a0), (1, .int x6), (2, .int 1), (3, .int x11), (4, .int x16)] := hl
  refine lv_aload_n hx hb dM_two0_0 rfl (lv_at hl 0 rfl) ?_
  obtain ⟨hPc, hDc, hFc⟩ := xcut (wc := [(a0, .inr (5, [v21, .ref a4, v22, v23, v24, v25, v26, v27, v28, v29, v30, v31, v32, v33, v34, v35, v36, v37, v38, v39, v40, .ref a5, v41, v42, .ref a1, .ref a2, v43, v44, v45, v46, v47, v48]))]) hP hD hS hA [0] rfl rfl (by decide)
  refine va_callv (va_runV (C := "ValueBenchModel") (As := []) (rest := []) ⟨hx, hb, hml, hown, htx⟩ (cM_begin_0 l hl9 D cT aK aV s.heap.size a0 v21 (.ref a4) v22 v23 v24 v25 v26 v27 v28 v29 v30 v31 v32 v33 v34 v35 v36 v37 v38 v39 v40 (.ref a5) v41 v42 (.ref a1) (.ref a2) v43 v44 v45 v46 v47 v48) ⟨callB_of 0 htx (xw_goodC kw_5_209) rfl rfl rfl (htx _ kw_1_5) (htx _ kw_5_206) ⟨by decide, by decide, by decide +kernel⟩ ⟨Nat.le_of_ble_eq_true rfl, Nat.le_of_ble_eq_true rfl⟩, (htx _ kw_5_208), (htx _ kp_M_begin)⟩ ⟨xPre_blind, va_recv hK hP (ci := 5) rfl (q0 := 0) rfl, (fun U hU hW => ⟨rfl, xPre_of hZ hS hFc hPc hDc hK U hU hW⟩)⟩ rfl rfl hl.1 rfl (lv_room (Nat.le_of_ble_eq_true rfl)) dM_two0_1 ⟨Nat.le_of_ble_eq_true rfl, Nat.le_of_ble_eq_true rfl⟩) hS (fun q _ h => hFc q h) hFc (fun u9 t H1 locs ht hvm hr9 hB hz1 hk1 hS => ?_)
  obtain ⟨hP1, hK1, hD1⟩ := hB
  rw [ht] at hP1
  obtain ⟨hP, hD⟩ := xjoin (W := [(a1, .inl (cT 5, 8, .inr (.inr (.inr (.inr f49))))), (a2, .inl (cT 1, 8, .inl f53)), (a3, .inl (cT 0, 4096, .inl f56)), (a4, .inl (cT 4, 1024, .inr (.inr (.inr (.inr f61))))), (a5, .inl (cT 0, 1024, .inl f65)), (a0, .inr (5, [.int 0, .ref a4, .int 0, v23, .int 0, v25, v26, .int 0, v28, .int 0, v30, v31, .int 0, v33, v34, v35, v36, v37, v38, v39, v40, .ref a5, .int 0, .int 1000000000, .ref a1, .ref a2, v43, v44, v45, v46, v47, v48]))]) hP hD [0] [1, 2, 3, 4, 5] 5 rfl rfl (by decide) (by decide) hk1 hFc hP1 hD1
  generalize H1 = H at hP hS ⊢
  refine lv_aload_n hx hb dM_two0_4 rfl (lv_at hl 0 rfl) ?_
  refine lv_iload_n hx hb dM_two0_5 rfl (lv_at hl 1 rfl) ?_
  obtain ⟨hPc, hDc, hFc⟩ := xcut (wc := []) hP hD hS hA [] rfl rfl (by decide)
  refine va_calli (va_runV (C := "ValueBenchModel") (As := [.int x6]) (rest := []) ⟨hx, hb, hml, hown, htx⟩ (cM_out_2 l hl9 D cT aK aV H.size a0 x6 h7 h8 h9 h10) ⟨callB_of 1 htx (xw_goodC kw_5_217) rfl rfl rfl (htx _ kw_1_5) (htx _ kw_5_214) ⟨by decide, by decide, by decide +kernel⟩ ⟨Nat.le_of_ble_eq_true rfl, Nat.le_of_ble_eq_true rfl⟩, (htx _ kw_5_216), (htx _ kp_M_out)⟩ ⟨xPre_blind, va_recv hK hP (ci := 5) rfl (q0 := 5) rfl, (fun U hU hW => ⟨rfl, xPre_of hZ hS hFc hPc hDc hK U hU hW⟩)⟩ rfl rfl hl.1 rfl (lv_room (Nat.le_of_ble_eq_true rfl)) dM_two0_6 ⟨Nat.le_of_ble_eq_true rfl, Nat.le_of_ble_eq_true rfl⟩) hS (fun q _ h => hFc q h) hFc (fun r1 u9 t H1 locs ht hvm hr9 hB hz1 hk1 hS => ?_)
  obtain ⟨hP1, hK1, hD1⟩ := hB
  rw [ht] at hP1
  obtain ⟨hP, hD⟩ := xjoin (W := [(a1, .inl (cT 5, 8, .inr (.inr (.inr (.inr f49))))), (a2, .inl (cT 1, 8, .inl f53)), (a3, .inl (cT 0, 4096, .inl f56)), (a4, .inl (cT 4, 1024, .inr (.inr (.inr (.inr f61))))), (a5, .inl (cT 0, 1024, .inl f65)), (a0, .inr (5, [.int 0, .ref a4, .int 0, v23, .int 0, v25, v26, .int 0, v28, .int 0, v30, v31, .int 0, v33, v34, v35, v36, v37, v38, v39, v40, .ref a5, .int 0, .int 1000000000, .ref a1, .ref a2, v43, v44, v45, v46, v47, v48]))]) hP hD [] [0, 1, 2, 3, 4, 5] 6 rfl rfl (by decide) (by decide) hk1 hFc hP1 hD1
  generalize H1 = H at hP hS ⊢
  rw [hr9]
  refine W.eq (g2 := F0 m 9 ls [.int 0]) rfl ?_
  refine lv_if_ne (tgt := 39) hx hb dM_two0_9 (by decide) (fun h => ((by revert h; decide : False)).elim) (fun _ => ?_)
  refine lv_iload_n hx hb dM_two0_12 rfl (lv_at hl 2 rfl) ?_
  refine lv_if_lt (tgt := 39) hx hb dM_two0_13 (by decide) (fun h => ((by revert h; decide : False)).elim) (fun _ => ?_)
  refine lv_iload_n hx hb dM_two0_16 rfl (lv_at hl 2 rfl) ?_
  refine lv_bipush (v := 9) hx hb dM_two0_17 (by decide) ?_
  refine lv_icmp_gt (tgt := 39) hx hb dM_two0_19 (by decide) (fun h => ((by revert h; decide : False)).elim) (fun _ => ?_)
  refine lv_aload_n hx hb dM_two0_22 rfl (lv_at hl 0 rfl) ?_
  refine lv_iload_n hx hb dM_two0_23 rfl (lv_at hl 3 rfl) ?_
  obtain ⟨hPc, hDc, hFc⟩ := xcut (wc := []) hP hD hS hA [] rfl rfl (by decide)
  refine va_calli (va_runV (C := "ValueBenchModel") (As := [.int x11]) (rest := []) ⟨hx, hb, hml, hown, htx⟩ (cM_out_2 l hl9 D cT aK aV H.size a0 x11 h12 h13 h14 h15) ⟨callB_of 1 htx (xw_goodC kw_5_217) rfl rfl rfl (htx _ kw_1_5) (htx _ kw_5_214) ⟨by decide, by decide, by decide +kernel⟩ ⟨Nat.le_of_ble_eq_true rfl, Nat.le_of_ble_eq_true rfl⟩, (htx _ kw_5_216), (htx _ kp_M_out)⟩ ⟨xPre_blind, va_recv hK hP (ci := 5) rfl (q0 := 5) rfl, (fun U hU hW => ⟨rfl, xPre_of hZ hS hFc hPc hDc hK U hU hW⟩)⟩ rfl rfl hl.1 rfl (lv_room (Nat.le_of_ble_eq_true rfl)) dM_two0_24 ⟨Nat.le_of_ble_eq_true rfl, Nat.le_of_ble_eq_true rfl⟩) hS (fun q _ h => hFc q h) hFc (fun r2 u9 t H1 locs ht hvm hr9 hB hz1 hk1 hS => ?_)
  obtain ⟨hP1, hK1, hD1⟩ := hB
  rw [ht] at hP1
  obtain ⟨hP, hD⟩ := xjoin (W := [(a1, .inl (cT 5, 8, .inr (.inr (.inr (.inr f49))))), (a2, .inl (cT 1, 8, .inl f53)), (a3, .inl (cT 0, 4096, .inl f56)), (a4, .inl (cT 4, 1024, .inr (.inr (.inr (.inr f61))))), (a5, .inl (cT 0, 1024, .inl f65)), (a0, .inr (5, [.int 0, .ref a4, .int 0, v23, .int 0, v25, v26, .int 0, v28, .int 0, v30, v31, .int 0, v33, v34, v35, v36, v37, v38, v39, v40, .ref a5, .int 0, .int 1000000000, .ref a1, .ref a2, v43, v44, v45, v46, v47, v48]))]) hP hD [] [0, 1, 2, 3, 4, 5] 6 rfl rfl (by decide) (by decide) hk1 hFc hP1 hD1
  generalize H1 = H at hP hS ⊢
  rw [hr9]
  refine W.eq (g2 := F0 m 27 ls [.int 0]) rfl ?_
  refine lv_if_ne (tgt := 39) hx hb dM_two0_27 (by decide) (fun h => ((by revert h; decide : False)).elim) (fun _ => ?_)
  refine lv_aload_n hx hb dM_two0_30 rfl (lv_at hl 0 rfl) ?_
  refine lv_iload hx hb dM_two0_31 (lv_at hl 4 rfl) ?_
  obtain ⟨hPc, hDc, hFc⟩ := xcut (wc := []) hP hD hS hA [] rfl rfl (by decide)
  refine va_calli (va_runV (C := "ValueBenchModel") (As := [.int x16]) (rest := []) ⟨hx, hb, hml, hown, htx⟩ (cM_out_2 l hl9 D cT aK aV H.size a0 x16 h17 h18 h19 h20) ⟨callB_of 1 htx (xw_goodC kw_5_217) rfl rfl rfl (htx _ kw_1_5) (htx _ kw_5_214) ⟨by decide, by decide, by decide +kernel⟩ ⟨Nat.le_of_ble_eq_true rfl, Nat.le_of_ble_eq_true rfl⟩, (htx _ kw_5_216), (htx _ kp_M_out)⟩ ⟨xPre_blind, va_recv hK hP (ci := 5) rfl (q0 := 5) rfl, (fun U hU hW => ⟨rfl, xPre_of hZ hS hFc hPc hDc hK U hU hW⟩)⟩ rfl rfl hl.1 rfl (lv_room (Nat.le_of_ble_eq_true rfl)) dM_two0_33 ⟨Nat.le_of_ble_eq_true rfl, Nat.le_of_ble_eq_true rfl⟩) hS (fun q _ h => hFc q h) hFc (fun r3 u9 t H1 locs ht hvm hr9 hB hz1 hk1 hS => ?_)
  obtain ⟨hP1, hK1, hD1⟩ := hB
  rw [ht] at hP1
  obtain ⟨hP, hD⟩ := xjoin (W := [(a1, .inl (cT 5, 8, .inr (.inr (.inr (.inr f49))))), (a2, .inl (cT 1, 8, .inl f53)), (a3, .inl (cT 0, 4096, .inl f56)), (a4, .inl (cT 4, 1024, .inr (.inr (.inr (.inr f61))))), (a5, .inl (cT 0, 1024, .inl f65)), (a0, .inr (5, [.int 0, .ref a4, .int 0, v23, .int 0, v25, v26, .int 0, v28, .int 0, v30, v31, .int 0, v33, v34, v35, v36, v37, v38, v39, v40, .ref a5, .int 0, .int 1000000000, .ref a1, .ref a2, v43, v44, v45, v46, v47, v48]))]) hP hD [] [0, 1, 2, 3, 4, 5] 6 rfl rfl (by decide) (by decide) hk1 hFc hP1 hD1
  generalize H1 = H at hP hS ⊢
  rw [hr9]
  refine W.eq (g2 := F0 m 36 ls [.int 0]) rfl ?_
  refine lv_if_eq (tgt := 47) hx hb dM_two0_36 (by decide) (fun _ => ?_) (fun h => ((by revert h; decide : False)).elim)
  refine lv_aload_n hx hb dM_two0_47 rfl (lv_at hl 0 rfl) ?_
  refine lv_iload_n hx hb dM_two0_48 rfl (lv_at hl 1 rfl) ?_
  refine lv_iconst (v := 2) hx hb dM_two0_49 (by decide) ?_
  refine lv_iload_n hx hb dM_two0_50 rfl (lv_at hl 2 rfl) ?_
  refine lv_iload_n hx hb dM_two0_51 rfl (lv_at hl 3 rfl) ?_
  refine lv_iload hx hb dM_two0_52 (lv_at hl 4 rfl) ?_
  obtain ⟨hPc, hDc, hFc⟩ := xcut (wc := [(a0, .inr (5, [.int 0, .ref a4, .int 0, v23, .int 0, v25, v26, .int 0, v28, .int 0, v30, v31, .int 0, v33, v34, v35, v36, v37, v38, v39, v40, .ref a5, .int 0, .int 1000000000, .ref a1, .ref a2, v43, v44, v45, v46, v47, v48])), (a1, .inl (cT 5, 8, .inr (.inr (.inr (.inr f49))))), (a2, .inl (cT 1, 8, .inl f53)), (a3, .inl (cT 0, 4096, .inl f56)), (a4, .inl (cT 4, 1024, .inr (.inr (.inr (.inr f61))))), (a5, .inl (cT 0, 1024, .inl f65))]) hP hD hS hA [5, 0, 1, 2, 3, 4] rfl rfl (by decide)
  refine va_callv (vx_runVW (C := "ValueBenchModel") (As := [.int x6, .int 2, .int 1, .int x11, .int x16]) (rest := []) ⟨hx, hb, hml, hown, htx⟩ (cM_finish_34 l hl9 D cT aK aV H.size a0 a1 a2 a3 a4 a5 x6 x11 x16 (.int 0) v23 (.int 0) v25 v26 (.int 0) v28 (.int 0) v30 v31 (.int 0) v33 v34 v35 v36 v37 v38 v39 v40 (.int 0) (.int 1000000000) v43 v44 v45 v46 v47 v48 f49 f53 f56 f61 f65 h7 h8 h9 h10 h12 h13 h14 h15 h17 h18 h19 h20 (by first | rfl | exact h50 | exact h51 | exact h52 | exact h54 | exact h55 | exact h57 | exact h58 | exact h59 | exact h60 | exact h62 | exact h63 | exact h64) (by first | rfl | exact h50 | exact h51 | exact h52 | exact h54 | exact h55 | exact h57 | exact h58 | exact h59 | exact h60 | exact h62 | exact h63 | exact h64) (by first | rfl | exact h50 | exact h51 | exact h52 | exact h54 | exact h55 | exact h57 | exact h58 | exact h59 | exact h60 | exact h62 | exact h63 | exact h64) (by first | rfl | exact h50 | exact h51 | exact h52 | exact h54 | exact h55 | exact h57 | exact h58 | exact h59 | exact h60 | exact h62 | exact h63 | exact h64) (by first | rfl | exact h50 | exact h51 | exact h52 | exact h54 | exact h55 | exact h57 | exact h58 | exact h59 | exact h60 | exact h62 | exact h63 | exact h64) (by first | rfl | exact h50 | exact h51 | exact h52 | exact h54 | exact h55 | exact h57 | exact h58 | exact h59 | exact h60 | exact h62 | exact h63 | exact h64) (by first | rfl | exact h50 | exact h51 | exact h52 | exact h54 | exact h55 | exact h57 | exact h58 | exact h59 | exact h60 | exact h62 | exact h63 | exact h64) (by first | rfl | exact h50 | exact h51 | exact h52 | exact h54 | exact h55 | exact h57 | exact h58 | exact h59 | exact h60 | exact h62 | exact h63 | exact h64) (by first | rfl | exact h50 | exact h51 | exact h52 | exact h54 | exact h55 | exact h57 | exact h58 | exact h59 | exact h60 | exact h62 | exact h63 | exact h64) (by first | rfl | exact h50 | exact h51 | exact h52 | exact h54 | exact h55 | exact h57 | exact h58 | exact h59 | exact h60 | exact h62 | exact h63 | exact h64) (by first | rfl | exact h50 | exact h51 | exact h52 | exact h54 | exact h55 | exact h57 | exact h58 | exact h59 | exact h60 | exact h62 | exact h63 | exact h64) (by first | rfl | exact h50 | exact h51 | exact h52 | exact h54 | exact h55 | exact h57 | exact h58 | exact h59 | exact h60 | exact h62 | exact h63 | exact h64)) (xcVW 5 htx (xw_goodC kw_6_195) rfl rfl rfl (htx _ kw_1_5) (htx _ kw_6_192) ⟨by decide, by decide, by decide +kernel⟩ ⟨Nat.le_of_ble_eq_true rfl, Nat.le_of_ble_eq_true rfl⟩ (htx _ kw_6_194) (htx _ kp_M_finish)) ⟨xPre_blind, va_recv hK hP (ci := 5) rfl (q0 := 5) rfl, (fun U hU hW => ⟨rfl, xPre_of hZ hS hFc hPc hDc hK U hU hW⟩)⟩ rfl rfl hl.1 rfl (lv_room (Nat.le_of_ble_eq_true rfl)) dM_two0_54 ⟨Nat.le_of_ble_eq_true rfl, Nat.le_of_ble_eq_true rfl⟩) hS (fun q _ h => hFc q h) hFc (fun u9 t H1 locs ht hvm hr9 hB hz1 hk1 hS => ?_)
  obtain ⟨q4, q5, q6, y7, y8, y9, y10, hP1, hK1, hD1⟩ := hB
  rw [ht] at hP1
  obtain ⟨hP, hD⟩ := xjoin (W := [(a0, .inr (5, [.int 0, .ref a4, .int 3, v23, .int 0, v25, v26, .int 0, v28, .int 0, v30, v31, .int 0, v33, v34, .ref a3, .int 4, .int 4, .int 0, .int 100, v40, .ref a5, .int 4, .int 4096, .ref a1, .ref a2, v43, v44, v45, v46, v47, v48])), (a1, .inl (cT 5, 8, .inr (.inr (.inr (.inr f49))))), (a2, .inl (cT 1, 8, .inl (upd f53 x6.toNatClampNeg 4))), (a3, .inl (cT 0, 4096, .inl (upd (upd (upd (upd f56 0 (vp_nar .byte (vp_nar .byte y7))) 1 (vp_nar .byte (vp_nar .byte y8))) 2 (vp_nar .byte (vp_nar .byte y9))) 3 (vp_nar .byte (vp_nar .byte y10))))), (a4, .inl (cT 4, 1024, .inr (.inr (.inr (.inr (va_up (va_up (va_up f61 0 (some q4)) 1 (some q5)) 2 (some q6))))))), (a5, .inl (cT 0, 1024, .inl (upd (upd (upd (upd f65 0 (vp_nar .byte y7)) 1 (vp_nar .byte y8)) 2 (vp_nar .byte y9)) 3 (vp_nar .byte y10)))), (q4, .inr (6, [.int 0, .long 0, .int 0, .int 0, .int 0, .int 1])), (q5, .inr (6, [.int 0, .long 0, .int 0, .int 0, .int 0, .int 1])), (q6, .inr (6, [.int 2, .long 0, .int 0, .int 0, .int 0, .int 1]))]) hP hD [5, 0, 1, 2, 3, 4] [] 0 rfl rfl (by decide) (by decide) hk1 hFc hP1 hD1
  generalize H1 = H at hP hS ⊢
  obtain ⟨hP9, hD9⟩ := xsub (wc := [(a0, .inr (5, [.int 0, .ref a4, .int 3, v23, .int 0, v25, v26, .int 0, v28, .int 0, v30, v31, .int 0, v33, v34, .ref a3, .int 4, .int 4, .int 0, .int 100, v40, .ref a5, .int 4, .int 4096, .ref a1, .ref a2, v43, v44, v45, v46, v47, v48])), (a1, .inl (cT 5, 8, .inr (.inr (.inr (.inr f49))))), (a2, .inl (cT 1, 8, .inl (upd f53 x6.toNatClampNeg 4))), (a3, .inl (cT 0, 4096, .inl (upd (upd (upd (upd f56 0 (vp_nar .byte (vp_nar .byte y7))) 1 (vp_nar .byte (vp_nar .byte y8))) 2 (vp_nar .byte (vp_nar .byte y9))) 3 (vp_nar .byte (vp_nar .byte y10))))), (a4, .inl (cT 4, 1024, .inr (.inr (.inr (.inr (va_up (va_up (va_up f61 0 (some q4)) 1 (some q5)) 2 (some q6))))))), (a5, .inl (cT 0, 1024, .inl (upd (upd (upd (upd f65 0 (vp_nar .byte y7)) 1 (vp_nar .byte y8)) 2 (vp_nar .byte y9)) 3 (vp_nar .byte y10)))), (q4, .inr (6, [.int 0, .long 0, .int 0, .int 0, .int 0, .int 1])), (q5, .inr (6, [.int 0, .long 0, .int 0, .int 0, .int 0, .int 1])), (q6, .inr (6, [.int 2, .long 0, .int 0, .int 0, .int 0, .int 1]))]) hP hD [0, 1, 2, 3, 4, 5, 6, 7, 8] rfl rfl (by decide)
  refine W.widen (k := 3) (n := 18) (Nat.le_of_ble_eq_true rfl) (Nat.le_of_ble_eq_true rfl) ?_
  exact W.vret hx hb hr (fun t ht hW => ⟨⟨(), rfl, trivial, q4, q5, q6, y7, y8, y9, y10, by rw [ht]; exact hP9, va_K.moved hW.alike hK, hD9⟩, hS.F ht⟩) hS.2.2 dM_two0_57
set_option maxHeartbeats 400000000 in
set_option maxRecDepth 100000 in
theorem cM_finish_35 (l : Launch) (hl9 : l.stackTraces = false) (D : va_G) (cT : Nat → ClassId) (aK aV : Nat → Nat) (sz : Nat) (a0 : Nat) (a1 : Nat) (a2 : Nat) (a3 : Nat) (a4 : Nat) (a5 : Nat) (a6 : Nat) (x7 : Int32) (x12 : Int32) (x17 : Int32) (v22 : Value) (v23 : Value) (v24 : Value) (v25 : Value) (v26 : Value) (v27 : Value) (v28 : Value) (v29 : Value) (v30 : Value) (v31 : Value) (v32 : Value) (v33 : Value) (v34 : Value) (v35 : Value) (v36 : Value) (v37 : Value) (v38 : Value) (v39 : Value) (v40 : Value) (v41 : Value) (v42 : Value) (v43 : Value) (v44 : Value) (v45 : Value) (v46 : Value) (v47 : Value) (v48 : Value) (f49 : Nat → Option Nat) (f53 : Nat → Int32) (f56 : Nat → Int32) (f61 : Nat → Option Nat) (f65 : Nat → Int32) (f66 : Nat → Int32) (h8 : ¬ x7 < 0) (h9 : ¬ 7 < x7) (h10 : x7 ≤ 7) (h11 : vp_in x7 8) (h13 : ¬ x12 < 0) (h14 : ¬ 7 < x12) (h15 : x12 ≤ 7) (h16 : vp_in x12 8) (h18 : ¬ x17 < 0) (h19 : ¬ 7 < x17) (h20 : x17 ≤ 7) (h21 : vp_in x17 8) (h50 : f49 x12.toNatClampNeg = some a3) (h51 : f49 x17.toNatClampNeg = some a3) (h52 : f49 x7.toNatClampNeg = some a6) (h54 : f53 x12.toNatClampNeg = 4) (h55 : f53 x17.toNatClampNeg = 4) (h57 : f56 0 = 110) (h58 : f56 1 = 117) (h59 : f56 2 = 108) (h60 : f56 3 = 108) (h62 : f61 0 = none) (h63 : f61 1 = none) (h64 : f61 2 = none) : xMet l yM_finish wyM_finish 8 3 18 175 D cT aK aV sz [.ref a0, .int x7, .int 2, .int 1, .int x12, .int x17] [(a0, .inr (5, [v22, .ref a4, .int 0, v23, v24, v25, v26, v27, v28, v29, v30, v31, v32, v33, v34, v35, v36, v37, v38, v39, v40, .ref a5, v41, v42, .ref a1, .ref a2, v43, v44, v45, v46, v47, v48])), (a1, .inl (cT 5, 8, .inr (.inr (.inr (.inr f49))))), (a2, .inl (cT 1, 8, .inl f53)), (a3, .inl (cT 0, 4096, .inl f56)), (a4, .inl (cT 4, 1024, .inr (.inr (.inr (.inr f61))))), (a5, .inl (cT 0, 1024, .inl f65)), (a6, .inl (cT 0, 4096, .inl f66))] (fun A => va_Qv (fun _ : Unit => True) (fun _ t => ∃ (r1 : Nat) (r2 : Nat) (r3 : Nat) (y5 : Int32) (y6 : Int32) (y7 : Int32) (y8 : Int32), xB D xcl cT A [(a0, .inr (5, [v22, .ref a4, .int 3, v23, v24, v25, v26, v27, v28, v29, v30, v31, v32, v33, v34, .ref a3, .int 4, .int 4, .int 0, .int 100, v40, .ref a5, .int 4, .int 4096, .ref a1, .ref a2, v43, v44, v45, v46, v47, v48])), (a1, .inl (cT 5, 8, .inr (.inr (.inr (.inr f49))))), (a2, .inl (cT 1, 8, .inl (upd f53 x7.toNatClampNeg 4))), (a3, .inl (cT 0, 4096, .inl f56)), (a4, .inl (cT 4, 1024, .inr (.inr (.inr (.inr (va_up (va_up (va_up f61 0 (some r1)) 1 (some r2)) 2 (some r3))))))), (a5, .inl (cT 0, 1024, .inl (upd (upd (upd (upd f65 0 (vp_nar .byte y5)) 1 (vp_nar .byte y6)) 2 (vp_nar .byte y7)) 3 (vp_nar .byte y8)))), (a6, .inl (cT 0, 4096, .inl (upd (upd (upd (upd f66 0 (vp_nar .byte (vp_nar .byte y5))) 1 (vp_nar .byte (vp_nar .byte y6))) 2 (vp_nar .byte (vp_nar .byte y7))) 3 (vp_nar .byte (vp_nar .byte y8))))), (r1, .inr (6, [.int 0, .long 0, .int 0, .int 0, .int 0, .int 1])), (r2, .inr (6, [.int 0, .long 0, .int 0, .int 0, .int 0, .int 1])), (r3, .inr (6, [.int 2, .long 0, .int 0, .int 0, .int 0, .int 1]))] t) A) := by
  refine va_MetW (cc := prog_13_method_90_code) (maxL := 10) (ret := none) (hh := [(0, 128, 131, 83), (0, 128, 149, 86)]) (by decide) rfl ?_
  intro p e s m args below meth c s₁ B hml hv
  obtain ⟨rfl, hsz, hZ, hP, hK, hD0⟩ := hv
  have hx := B.exec
  have hb := B.bytes
  have hr := B.returns
  have hts := atoms_spec (ws := wyM_finish) B.pre
  have htx := fun w h => hts w (List.mem_cons_of_mem _ h)
  have hown : s.vm.findClass "ValueBenchModel" = some m.cls := findClass_of_methodNamed B.named
  have hlocks := B.notSynchronized
  subst hsz
  have hD := hD0.self (sz := s.heap.size)
  generalize hAe : va_A [(a0, .inr (5, [v22, .ref a4, .int 0, v23, v24, v25, v26, v27, v28, v29, v30, v31, v32, v33, v34, v35, v36, v37, v38, v39, v40, .ref a5, v41, v42, .ref a1, .ref a2, v43, v44, v45, v46, v47, v48])), (a1, .inl (cT 5, 8, .inr (.inr (.inr (.inr f49))))), (a2, .inl (cT 1, 8, .inl f53)), (a3, .inl (cT 0, 4096, .inl f56)), (a4, .inl (cT 4, 1024, .inr (.inr (.inr (.inr f61))))), (a5, .inl (cT 0, 1024, .inl f65)), (a6, .inl (cT 0, 4096, .inl f66))] s.heap.size = A at hD hZ ⊢
  have hA : ∀ q : Nat, s.heap.size ≤ q → A q := fun q h => by rw [← hAe]; exact Or.inr h
  have hS : va_S A s.heap s.heap [] := va_S.rf
  have hP : va_P D xcl [(a0, .inr (5, [v22, .ref a4, .int 0, v23, v24, v25, v26, v27, v28, v29, v30, v31, v32, v33, v34, v35, v36, v37, v38, v39, v40, .ref a5, v41, v42, .ref a1, .ref a2, v43, v44, v45, v46, v47, v48])), (a1, .inl (cT 5, 8, .inr (.inr (.inr (.inr f49))))), (a2, .inl (cT 1, 8, .inl f53)), (a3, .inl (cT 0, 4096, .inl f56)), (a4, .inl (cT 4, 1024, .inr (.inr (.inr (.inr f61))))), (a5, .inl (cT 0, 1024, .inl f65)), (a6, .inl (cT 0, 4096, .inl f66))] s.heap := hP
  have hl := lv_entry ([.ref a0, .int x7, .int 2, .int 1, .int x12, .int x17]) (n := 10) (Nat.le_of_ble_eq_true rfl)
  rw [lg_entry_eq]
  generalize (lg_sl ([.ref a0, .int x7, .int 2, .int 1, .int x12, .int x17]) ++ List.replicate (10 - (lg_sl ([.ref a0, .int x7, .int 2, .int 1, .int x12, .int x17])).length) Slot.unset).toArray = ls at hl ⊢
  have hl : lv_has ls 10 [(0, .ref a0), (1, .int x7), (2, .int 2), (3, .int 1), (4, .int x12), (5, .int x17)] := hl
  have htab := vx_table (x := yM_finish) B (hts _ List.mem_cons_self)
  refine lv_aload_n hx hb dM_finish_0 rfl (lv_at hl 0 rfl) ?_
  refine lv_iload hx hb dM_finish_1 (lv_at hl 4 rfl) ?_
  obtain ⟨hPc, hDc, hFc⟩ := xcut (wc := [(a0, .inr (5, [v22, .ref a4, .int 0, v23, v24, v25, v26, v27, v28, v29, v30, v31, v32, v33, v34, v35, v36, v37, v38, v39, v40, .ref a5, v41, v42, .ref a1, .ref a2, v43, v44, v45, v46, v47, v48])), (a1, .inl (cT 5, 8, .inr (.inr (.inr (.inr f49))))), (a2, .inl (cT 1, 8, .inl f53)), (a3, .inl (cT 0, 4096, .inl f56)), (a4, .inl (cT 4, 1024, .inr (.inr (.inr (.inr f61)))))]) hP hD hS hA [0, 1, 2, 3, 4] rfl rfl (by decide)
  refine va_callr (va_runV (C := "ValueBenchModel") (As := [.int x12]) (rest := []) ⟨hx, hb, hml, hown, htx⟩ (cM_register_0 l hl9 D cT aK aV s.heap.size a0 a1 a2 a3 a4 x12 v22 v23 v24 v25 v26 v27 v28 v29 v30 v31 v32 v33 v34 v35 v36 v37 v38 v39 v40 (.ref a5) v41 v42 v43 v44 v45 v46 v47 v48 f49 f53 f56 f61 h13 h14 h15 h16 (by first | rfl | exact h50 | exact h51 | exact h52 | exact h54 | exact h55 | exact h57 | exact h58 | exact h59 | exact h60 | exact h62 | exact h63 | exact h64) (by first | rfl | exact h50 | exact h51 | exact h52 | exact h54 | exact h55 | exact h57 | exact h58 | exact h59 | exact h60 | exact h62 | exact h63 | exact h64) (by first | rfl | exact h50 | exact h51 | exact h52 | exact h54 | exact h55 | exact h57 | exact h58 | exact h59 | exact h60 | exact h62 | exact h63 | exact h64) (by first | rfl | exact h50 | exact h51 | exact h52 | exact h54 | exact h55 | exact h57 | exact h58 | exact h59 | exact h60 | exact h62 | exact h63 | exact h64) (by first | rfl | exact h50 | exact h51 | exact h52 | exact h54 | exact h55 | exact h57 | exact h58 | exact h59 | exact h60 | exact h62 | exact h63 | exact h64) (by first | rfl | exact h50 | exact h51 | exact h52 | exact h54 | exact h55 | exact h57 | exact h58 | exact h59 | exact h60 | exact h62 | exact h63 | exact h64) (by first | rfl | exact h50 | exact h51 | exact h52 | exact h54 | exact h55 | exact h57 | exact h58 | exact h59 | exact h60 | exact h62 | exact h63 | exact h64)) ⟨callB_of 1 htx (xw_goodC kw_6_170) rfl rfl rfl (htx _ kw_1_5) (htx _ kw_6_167) ⟨by decide, by decide, by decide +kernel⟩ ⟨Nat.le_of_ble_eq_true rfl, Nat.le_of_ble_eq_true rfl⟩, (htx _ kw_6_169), (htx _ kp_M_register)⟩ ⟨xPre_blind, va_recv hK hP (ci := 5) rfl (q0 := 0) rfl, (fun U hU hW => ⟨rfl, xPre_of hZ hS hFc hPc hDc hK U hU hW⟩)⟩ rfl rfl hl.1 rfl (lv_room (Nat.le_of_ble_eq_true rfl)) dM_finish_3 ⟨Nat.le_of_ble_eq_true rfl, Nat.le_of_ble_eq_true rfl⟩) hS (fun q _ h => hFc q h) hFc (fun u9 r1 t H1 locs ht hvm hr9 hB hz1 hk1 hS => ?_)
  obtain ⟨hP1, hK1, hD1⟩ := hB
  rw [ht] at hP1
  obtain ⟨hP, hD⟩ := xjoin (W := [(a5, .inl (cT 0, 1024, .inl f65)), (a6, .inl (cT 0, 4096, .inl f66)), (a0, .inr (5, [v22, .ref a4, .int 1, v23, v24, v25, v26, v27, v28, v29, v30, v31, v32, v33, v34, .ref a3, .int 4, .int 4, .int 0, .int 100, v40, .ref a5, v41, v42, .ref a1, .ref a2, v43, v44, v45, v46, v47, v48])), (a1, .inl (cT 5, 8, .inr (.inr (.inr (.inr f49))))), (a2, .inl (cT 1, 8, .inl f53)), (a3, .inl (cT 0, 4096, .inl f56)), (a4, .inl (cT 4, 1024, .inr (.inr (.inr (.inr (va_up f61 0 (some r1))))))), (r1, .inr (6, [.int 0, .long 0, .int 0, .int 0, .int 0, .int 1]))]) hP hD [0, 1, 2, 3, 4] [5, 6] 2 rfl rfl (by decide) (by decide) hk1 hFc hP1 hD1
  generalize H1 = H at hP hS ⊢
  refine W.eq (g2 := F0 m 6 ls [.ref r1]) rfl ?_
  refine lv_astore (lv' := [(6, .ref r1), (0, .ref a0), (1, .int x7), (2, .int 2), (3, .int 1), (4, .int x12), (5, .int x17)]) hx hb dM_finish_6 hl (by decide) rfl (fun ls hl => ?_)
  refine lv_iload_n hx hb dM_finish_8 rfl (lv_at hl 3 rfl) ?_
  refine lv_iconst (v := 1) hx hb dM_finish_9 (by decide) ?_
  refine lv_icmp_ne (tgt := 17) hx hb dM_finish_10 (by decide) (fun _ => ?_) (fun h => ((by revert h; decide : False)).elim)
  refine lv_aload_n hx hb dM_finish_17 rfl (lv_at hl 1 rfl) ?_
  refine lv_iload hx hb dM_finish_18 (lv_at hl 6 rfl) ?_
  obtain ⟨hPc, hDc, hFc⟩ := xcut (wc := [(a0, .inr (5, [v22, .ref a4, .int 1, v23, v24, v25, v26, v27, v28, v29, v30, v31, v32, v33, v34, .ref a3, .int 4, .int 4, .int 0, .int 100, v40, .ref a5, v41, v42, .ref a1, .ref a2, v43, v44, v45, v46, v47, v48])), (a1, .inl (cT 5, 8, .inr (.inr (.inr (.inr f49))))), (a2, .inl (cT 1, 8, .inl f53)), (a3, .inl (cT 0, 4096, .inl f56)), (a4, .inl (cT 4, 1024, .inr (.inr (.inr (.inr (va_up f61 0 (some r1)))))))]) hP hD hS hA [2, 3, 4, 5, 6] rfl rfl (by decide)
  refine va_callr (va_runV (C := "ValueBenchModel") (As := [.int x17]) (rest := []) ⟨hx, hb, hml, hown, htx⟩ (cM_register_4 l hl9 D cT aK aV H.size a0 a1 a2 a3 a4 x17 v22 v23 v24 v25 v26 v27 v28 v29 v30 v31 v32 v33 v34 (.ref a3) (.int 4) (.int 4) (.int 0) (.int 100) v40 (.ref a5) v41 v42 v43 v44 v45 v46 v47 v48 f49 f53 f56 (va_up f61 0 (some r1)) h18 h19 h20 h21 (by first | rfl | exact h50 | exact h51 | exact h52 | exact h54 | exact h55 | exact h57 | exact h58 | exact h59 | exact h60 | exact h63 | exact h64) (by first | rfl | exact h50 | exact h51 | exact h52 | exact h54 | exact h55 | exact h57 | exact h58 | exact h59 | exact h60 | exact h63 | exact h64) (by first | rfl | exact h50 | exact h51 | exact h52 | exact h54 | exact h55 | exact h57 | exact h58 | exact h59 | exact h60 | exact h63 | exact h64) (by first | rfl | exact h50 | exact h51 | exact h52 | exact h54 | exact h55 | exact h57 | exact h58 | exact h59 | exact h60 | exact h63 | exact h64) (by first | rfl | exact h50 | exact h51 | exact h52 | exact h54 | exact h55 | exact h57 | exact h58 | exact h59 | exact h60 | exact h63 | exact h64) (by first | rfl | exact h50 | exact h51 | exact h52 | exact h54 | exact h55 | exact h57 | exact h58 | exact h59 | exact h60 | exact h63 | exact h64) (by first | rfl | exact h50 | exact h51 | exact h52 | exact h54 | exact h55 | exact h57 | exact h58 | exact h59 | exact h60 | exact h63 | exact h64)) ⟨callB_of 1 htx (xw_goodC kw_6_170) rfl rfl rfl (htx _ kw_1_5) (htx _ kw_6_167) ⟨by decide, by decide, by decide +kernel⟩ ⟨Nat.le_of_ble_eq_true rfl, Nat.le_of_ble_eq_true rfl⟩, (htx _ kw_6_169), (htx _ kp_M_register)⟩ ⟨xPre_blind, va_recv hK hP (ci := 5) rfl (q0 := 2) rfl, (fun U hU hW => ⟨rfl, xPre_of hZ hS hFc hPc hDc hK U hU hW⟩)⟩ rfl rfl hl.1 rfl (lv_room (Nat.le_of_ble_eq_true rfl)) dM_finish_20 ⟨Nat.le_of_ble_eq_true rfl, Nat.le_of_ble_eq_true rfl⟩) hS (fun q _ h => hFc q h) hFc (fun u9 r2 t H1 locs ht hvm hr9 hB hz1 hk1 hS => ?_)
  obtain ⟨hP1, hK1, hD1⟩ := hB
  rw [ht] at hP1
  obtain ⟨hP, hD⟩ := xjoin (W := [(a5, .inl (cT 0, 1024, .inl f65)), (a6, .inl (cT 0, 4096, .inl f66)), (r1, .inr (6, [.int 0, .long 0, .int 0, .int 0, .int 0, .int 1])), (a0, .inr (5, [v22, .ref a4, .int 2, v23, v24, v25, v26, v27, v28, v29, v30, v31, v32, v33, v34, .ref a3, .int 4, .int 4, .int 0, .int 100, v40, .ref a5, v41, v42, .ref a1, .ref a2, v43, v44, v45, v46, v47, v48])), (a1, .inl (cT 5, 8, .inr (.inr (.inr (.inr f49))))), (a2, .inl (cT 1, 8, .inl f53)), (a3, .inl (cT 0, 4096, .inl f56)), (a4, .inl (cT 4, 1024, .inr (.inr (.inr (.inr (va_up (va_up f61 0 (some r1)) 1 (some r2))))))), (r2, .inr (6, [.int 0, .long 0, .int 0, .int 0, .int 0, .int 1]))]) hP hD [2, 3, 4, 5, 6] [0, 1, 7] 3 rfl rfl (by decide) (by decide) hk1 hFc hP1 hD1
  generalize H1 = H at hP hS ⊢
  refine W.eq (g2 := F0 m 23 ls [.ref r2]) rfl ?_
  refine lv_astore (lv' := [(7, .ref r2), (6, .ref r1), (0, .ref a0), (1, .int x7), (2, .int 2), (3, .int 1), (4, .int x12), (5, .int x17)]) hx hb dM_finish_23 hl (by decide) rfl (fun ls hl => ?_)
  refine lv_iload_n hx hb dM_finish_25 rfl (lv_at hl 4 rfl) ?_
  refine lv_if_ne (tgt := 43) hx hb dM_finish_26 (by decide) (fun _ => ?_) (fun h => ((by revert h; decide : False)).elim)
  refine lv_iload_n hx hb dM_finish_43 rfl (lv_at hl 4 rfl) ?_
  refine lv_iconst (v := 1) hx hb dM_finish_44 (by decide) ?_
  refine lv_icmp_ne (tgt := 60) hx hb dM_finish_45 (by decide) (fun _ => ?_) (fun h => ((by revert h; decide : False)).elim)
  refine lv_iload_n hx hb dM_finish_60 rfl (lv_at hl 4 rfl) ?_
  refine lv_iconst (v := 2) hx hb dM_finish_61 (by decide) ?_
  refine lv_icmp_ne (tgt := 79) hx hb dM_finish_62 (by decide) (fun h => ((by revert h; decide : False)).elim) (fun _ => ?_)
  refine lv_aload_n hx hb dM_finish_65 rfl (lv_at hl 2 rfl) ?_
  refine lv_iload_n hx hb dM_finish_66 rfl (lv_at hl 5 rfl) ?_
  refine lv_aload hx hb dM_finish_67 (lv_at hl 1 rfl) ?_
  refine lv_aload hx hb dM_finish_69 (lv_at hl 0 rfl) ?_
  obtain ⟨hPc, hDc, hFc⟩ := xcut (wc := [(a0, .inr (5, [v22, .ref a4, .int 2, v23, v24, v25, v26, v27, v28, v29, v30, v31, v32, v33, v34, .ref a3, .int 4, .int 4, .int 0, .int 100, v40, .ref a5, v41, v42, .ref a1, .ref a2, v43, v44, v45, v46, v47, v48])), (r1, .inr (6, [.int 0, .long 0, .int 0, .int 0, .int 0, .int 1])), (r2, .inr (6, [.int 0, .long 0, .int 0, .int 0, .int 0, .int 1])), (a4, .inl (cT 4, 1024, .inr (.inr (.inr (.inr (va_up (va_up f61 0 (some r1)) 1 (some r2)))))))]) hP hD hS hA [3, 2, 8, 7] rfl rfl (by decide)
  refine va_callr (va_runV (C := "ValueBenchModel") (As := [.int 1, .ref r1, .ref r2]) (rest := []) ⟨hx, hb, hml, hown, htx⟩ (cM_two1_1 l hl9 D cT aK aV H.size a0 r1 r2 a4 v22 v23 v24 v25 v26 v27 v28 v29 v30 v31 v32 v33 v34 (.ref a3) (.int 4) (.int 4) (.int 0) (.int 100) v40 (.ref a5) v41 v42 (.ref a1) (.ref a2) v43 v44 v45 v46 v47 v48 (.long 0) (.int 0) (.int 0) (.int 0) (.int 1) (.long 0) (.int 0) (.int 0) (.int 0) (.int 1) (va_up (va_up f61 0 (some r1)) 1 (some r2)) (by first | rfl | exact h50 | exact h51 | exact h52 | exact h54 | exact h55 | exact h57 | exact h58 | exact h59 | exact h60 | exact h64)) ⟨callB_of 3 htx (xw_goodC kw_7_79) rfl rfl rfl (htx _ kw_1_5) (htx _ kw_7_76) ⟨by decide, by decide, by decide +kernel⟩ ⟨Nat.le_of_ble_eq_true rfl, Nat.le_of_ble_eq_true rfl⟩, (htx _ kw_7_78), (htx _ kp_M_two1)⟩ ⟨xPre_blind, va_recv hK hP (ci := 5) rfl (q0 := 3) rfl, (fun U hU hW => ⟨rfl, xPre_of hZ hS hFc hPc hDc hK U hU hW⟩)⟩ rfl rfl hl.1 rfl (lv_room (Nat.le_of_ble_eq_true rfl)) dM_finish_71 ⟨Nat.le_of_ble_eq_true rfl, Nat.le_of_ble_eq_true rfl⟩) hS (fun q _ h => hFc q h) hFc (fun u9 r3 t H1 locs ht hvm hr9 hB hz1 hk1 hS => ?_)
  obtain ⟨hP1, hK1, hD1⟩ := hB
  rw [ht] at hP1
  obtain ⟨hP, hD⟩ := xjoin (W := [(a5, .inl (cT 0, 1024, .inl f65)), (a6, .inl (cT 0, 4096, .inl f66)), (a1, .inl (cT 5, 8, .inr (.inr (.inr (.inr f49))))), (a2, .inl (cT 1, 8, .inl f53)), (a3, .inl (cT 0, 4096, .inl f56)), (a0, .inr (5, [v22, .ref a4, .int 3, v23, v24, v25, v26, v27, v28, v29, v30, v31, v32, v33, v34, .ref a3, .int 4, .int 4, .int 0, .int 100, v40, .ref a5, v41, v42, .ref a1, .ref a2, v43, v44, v45, v46, v47, v48])), (r1, .inr (6, [.int 0, .long 0, .int 0, .int 0, .int 0, .int 1])), (r2, .inr (6, [.int 0, .long 0, .int 0, .int 0, .int 0, .int 1])), (a4, .inl (cT 4, 1024, .inr (.inr (.inr (.inr (va_up (va_up (va_up f61 0 (some r1)) 1 (some r2)) 2 (some r3))))))), (r3, .inr (6, [.int 2, .long 0, .int 0, .int 0, .int 0, .int 1]))]) hP hD [3, 2, 8, 7] [0, 1, 4, 5, 6] 5 rfl rfl (by decide) (by decide) hk1 hFc hP1 hD1
  generalize H1 = H at hP hS ⊢
  refine W.eq (g2 := F0 m 74 ls [.ref r3]) rfl ?_
  refine lv_astore (lv' := [(8, .ref r3), (7, .ref r2), (6, .ref r1), (0, .ref a0), (1, .int x7), (2, .int 2), (3, .int 1), (4, .int x12), (5, .int x17)]) hx hb dM_finish_74 hl (by decide) rfl (fun ls hl => ?_)
  refine lv_goto (tgt := 119) hx hb dM_finish_76 (by decide) ?_
  refine lv_aload_n hx hb dM_finish_119 rfl (lv_at hl 3 rfl) ?_
  refine lv_iload_n hx hb dM_finish_120 rfl (lv_at hl 4 rfl) ?_
  refine lv_aload hx hb dM_finish_121 (lv_at hl 0 rfl) ?_
  obtain ⟨hPc, hDc, hFc⟩ := xcut (wc := [(a0, .inr (5, [v22, .ref a4, .int 3, v23, v24, v25, v26, v27, v28, v29, v30, v31, v32, v33, v34, .ref a3, .int 4, .int 4, .int 0, .int 100, v40, .ref a5, v41, v42, .ref a1, .ref a2, v43, v44, v45, v46, v47, v48])), (r3, .inr (6, [.int 2, .long 0, .int 0, .int 0, .int 0, .int 1])), (a5, .inl (cT 0, 1024, .inl f65)), (a1, .inl (cT 5, 8, .inr (.inr (.inr (.inr f49))))), (a6, .inl (cT 0, 4096, .inl f66)), (a2, .inl (cT 1, 8, .inl f53))]) hP hD hS hA [5, 9, 0, 2, 1, 3] rfl rfl (by decide)
  refine va_calli (va_runV (C := "ValueBenchModel") (As := [.int x7, .ref r3]) (rest := []) ⟨hx, hb, hml, hown, htx⟩ (cM_store_1 l hl9 D cT aK aV H.size a0 r3 a5 a1 a6 a2 x7 v22 (.ref a4) (.int 3) v23 v24 v25 v26 v27 v28 v29 v30 v31 v32 v33 v34 (.ref a3) (.int 4) (.int 4) (.int 0) (.int 100) v40 v41 v42 v43 v44 v45 v46 v47 v48 (.long 0) (.int 0) (.int 0) (.int 0) (.int 1) f65 f49 f66 f53 h8 h9 h10 h11 (by first | rfl | exact h50 | exact h51 | exact h52 | exact h54 | exact h55 | exact h57 | exact h58 | exact h59 | exact h60)) ⟨callB_of 2 htx (xw_goodC kw_6_124) rfl rfl rfl (htx _ kw_1_5) (htx _ kw_6_121) ⟨by decide, by decide, by decide +kernel⟩ ⟨Nat.le_of_ble_eq_true rfl, Nat.le_of_ble_eq_true rfl⟩, (htx _ kw_6_123), (htx _ kp_M_store)⟩ ⟨xPre_blind, va_recv hK hP (ci := 5) rfl (q0 := 5) rfl, (fun U hU hW => ⟨rfl, xPre_of hZ hS hFc hPc hDc hK U hU hW⟩)⟩ rfl rfl hl.1 rfl (lv_room (Nat.le_of_ble_eq_true rfl)) dM_finish_123 ⟨Nat.le_of_ble_eq_true rfl, Nat.le_of_ble_eq_true rfl⟩) hS (fun q _ h => hFc q h) hFc (fun r4 u9 t H1 locs ht hvm hr9 hB hz1 hk1 hS => ?_)
  obtain ⟨y5, y6, y7, y8, hP1, hK1, hD1⟩ := hB
  rw [ht] at hP1
  obtain ⟨hP, hD⟩ := xjoin (W := [(a3, .inl (cT 0, 4096, .inl f56)), (r1, .inr (6, [.int 0, .long 0, .int 0, .int 0, .int 0, .int 1])), (r2, .inr (6, [.int 0, .long 0, .int 0, .int 0, .int 0, .int 1])), (a4, .inl (cT 4, 1024, .inr (.inr (.inr (.inr (va_up (va_up (va_up f61 0 (some r1)) 1 (some r2)) 2 (some r3))))))), (a0, .inr (5, [v22, .ref a4, .int 3, v23, v24, v25, v26, v27, v28, v29, v30, v31, v32, v33, v34, .ref a3, .int 4, .int 4, .int 0, .int 100, v40, .ref a5, .int 4, .int 4096, .ref a1, .ref a2, v43, v44, v45, v46, v47, v48])), (r3, .inr (6, [.int 2, .long 0, .int 0, .int 0, .int 0, .int 1])), (a5, .inl (cT 0, 1024, .inl (upd (upd (upd (upd f65 0 (vp_nar .byte y5)) 1 (vp_nar .byte y6)) 2 (vp_nar .byte y7)) 3 (vp_nar .byte y8)))), (a1, .inl (cT 5, 8, .inr (.inr (.inr (.inr f49))))), (a6, .inl (cT 0, 4096, .inl (upd (upd (upd (upd f66 0 (vp_nar .byte (vp_nar .byte y5))) 1 (vp_nar .byte (vp_nar .byte y6))) 2 (vp_nar .byte (vp_nar .byte y7))) 3 (vp_nar .byte (vp_nar .byte y8))))), (a2, .inl (cT 1, 8, .inl (upd f53 x7.toNatClampNeg 4)))]) hP hD [5, 9, 0, 2, 1, 3] [4, 6, 7, 8] 4 rfl rfl (by decide) (by decide) hk1 hFc hP1 hD1
  generalize H1 = H at hP hS ⊢
  rw [hr9]
  refine W.eq (g2 := F0 m 126 ls [.int 4]) rfl ?_
  refine lv_istore (lv' := [(9, .int 4), (8, .ref r3), (7, .ref r2), (6, .ref r1), (0, .ref a0), (1, .int x7), (2, .int 2), (3, .int 1), (4, .int x12), (5, .int x17)]) hx hb dM_finish_126 hl (by decide) rfl (fun ls hl => ?_)
  refine lv_goto (tgt := 156) hx hb dM_finish_128 (by decide) ?_
  obtain ⟨hP9, hD9⟩ := xsub (wc := [(a0, .inr (5, [v22, .ref a4, .int 3, v23, v24, v25, v26, v27, v28, v29, v30, v31, v32, v33, v34, .ref a3, .int 4, .int 4, .int 0, .int 100, v40, .ref a5, .int 4, .int 4096, .ref a1, .ref a2, v43, v44, v45, v46, v47, v48])), (a1, .inl (cT 5, 8, .inr (.inr (.inr (.inr f49))))), (a2, .inl (cT 1, 8, .inl (upd f53 x7.toNatClampNeg 4))), (a3, .inl (cT 0, 4096, .inl f56)), (a4, .inl (cT 4, 1024, .inr (.inr (.inr (.inr (va_up (va_up (va_up f61 0 (some r1)) 1 (some r2)) 2 (some r3))))))), (a5, .inl (cT 0, 1024, .inl (upd (upd (upd (upd f65 0 (vp_nar .byte y5)) 1 (vp_nar .byte y6)) 2 (vp_nar .byte y7)) 3 (vp_nar .byte y8)))), (a6, .inl (cT 0, 4096, .inl (upd (upd (upd (upd f66 0 (vp_nar .byte (vp_nar .byte y5))) 1 (vp_nar .byte (vp_nar .byte y6))) 2 (vp_nar .byte (vp_nar .byte y7))) 3 (vp_nar .byte (vp_nar .byte y8))))), (r1, .inr (6, [.int 0, .long 0, .int 0, .int 0, .int 0, .int 1])), (r2, .inr (6, [.int 0, .long 0, .int 0, .int 0, .int 0, .int 1])), (r3, .inr (6, [.int 2, .long 0, .int 0, .int 0, .int 0, .int 1]))]) hP hD [4, 7, 9, 0, 3, 6, 8, 1, 2, 5] rfl rfl (by decide)
  refine W.widen (k := 3) (n := 18) (Nat.le_of_ble_eq_true rfl) (Nat.le_of_ble_eq_true rfl) ?_
  exact W.vret hx hb hr (fun t ht hW => ⟨⟨(), rfl, trivial, r1, r2, r3, y5, y6, y7, y8, by rw [ht]; exact hP9, va_K.moved hW.alike hK, hD9⟩, hS.F ht⟩) hS.2.2 dM_finish_156
set_option maxHeartbeats 400000000 in
set_option maxRecDepth 100000 in
theorem cM_two0_11 (l : Launch) (hl9 : l.stackTraces = false) (D : va_G) (cT : Nat → ClassId) (aK aV : Nat → Nat) (sz : Nat) (a0 : Nat) (a1 : Nat) (a2 : Nat) (a3 : Nat) (a4 : Nat) (a5 : Nat) (a6 : Nat) (x7 : Int32) (x12 : Int32) (x17 : Int32) (v22 : Value) (v23 : Value) (v24 : Value) (v25 : Value) (v26 : Value) (v27 : Value) (v28 : Value) (v29 : Value) (v30 : Value) (v31 : Value) (v32 : Value) (v33 : Value) (v34 : Value) (v35 : Value) (v36 : Value) (v37 : Value) (v38 : Value) (v39 : Value) (v40 : Value) (v41 : Value) (v42 : Value) (v43 : Value) (v44 : Value) (v45 : Value) (v46 : Value) (v47 : Value) (v48 : Value) (v49 : Value) (f50 : Nat → Option Nat) (f54 : Nat → Int32) (f57 : Nat → Int32) (f62 : Nat → Option Nat) (f66 : Nat → Int32) (f67 : Nat → Int32) (h8 : ¬ x7 < 0) (h9 : ¬ 7 < x7) (h10 : x7 ≤ 7) (h11 : vp_in x7 8) (h13 : ¬ x12 < 0) (h14 : ¬ 7 < x12) (h15 : x12 ≤ 7) (h16 : vp_in x12 8) (h18 : ¬ x17 < 0) (h19 : ¬ 7 < x17) (h20 : x17 ≤ 7) (h21 : vp_in x17 8) (h51 : f50 x12.toNatClampNeg = some a3) (h52 : f50 x17.toNatClampNeg = some a3) (h53 : f50 x7.toNatClampNeg = some a6) (h55 : f54 x12.toNatClampNeg = 4) (h56 : f54 x17.toNatClampNeg = 4) (h58 : f57 0 = 110) (h59 : f57 1 = 117) (h60 : f57 2 = 108) (h61 : f57 3 = 108) (h63 : f62 0 = none) (h64 : f62 1 = none) (h65 : f62 2 = none) : xMet l yM_two0 wyM_two0 9 3 18 204 D cT aK aV sz [.ref a0, .int x7, .int 1, .int x12, .int x17] [(a0, .inr (5, [v22, .ref a4, v23, v24, v25, v26, v27, v28, v29, v30, v31, v32, v33, v34, v35, v36, v37, v38, v39, v40, v41, .ref a5, v42, v43, .ref a1, .ref a2, v44, v45, v46, v47, v48, v49])), (a1, .inl (cT 5, 8, .inr (.inr (.inr (.inr f50))))), (a2, .inl (cT 1, 8, .inl f54)), (a3, .inl (cT 0, 4096, .inl f57)), (a4, .inl (cT 4, 1024, .inr (.inr (.inr (.inr f62))))), (a5, .inl (cT 0, 1024, .inl f66)), (a6, .inl (cT 0, 4096, .inl f67))] (fun A => va_Qv (fun _ : Unit => True) (fun _ t => ∃ (q4 : Nat) (q5 : Nat) (q6 : Nat) (y7 : Int32) (y8 : Int32) (y9 : Int32) (y10 : Int32), xB D xcl cT A [(a0, .inr (5, [.int 0, .ref a4, .int 3, v24, .int 0, v26, v27, .int 0, v29, .int 0, v31, v32, .int 0, v34, v35, .ref a3, .int 4, .int 4, .int 0, .int 100, v41, .ref a5, .int 4, .int 4096, .ref a1, .ref a2, v44, v45, v46, v47, v48, v49])), (a1, .inl (cT 5, 8, .inr (.inr (.inr (.inr f50))))), (a2, .inl (cT 1, 8, .inl (upd f54 x7.toNatClampNeg 4))), (a3, .inl (cT 0, 4096, .inl f57)), (a4, .inl (cT 4, 1024, .inr (.inr (.inr (.inr (va_up (va_up (va_up f62 0 (some q4)) 1 (some q5)) 2 (some q6))))))), (a5, .inl (cT 0, 1024, .inl (upd (upd (upd (upd f66 0 (vp_nar .byte y7)) 1 (vp_nar .byte y8)) 2 (vp_nar .byte y9)) 3 (vp_nar .byte y10)))), (a6, .inl (cT 0, 4096, .inl (upd (upd (upd (upd f67 0 (vp_nar .byte (vp_nar .byte y7))) 1 (vp_nar .byte (vp_nar .byte y8))) 2 (vp_nar .byte (vp_nar .byte y9))) 3 (vp_nar .byte (vp_nar .byte y10))))), (q4, .inr (6, [.int 0, .long 0, .int 0, .int 0, .int 0, .int 1])), (q5, .inr (6, [.int 0, .long 0, .int 0, .int 0, .int 0, .int 1])), (q6, .inr (6, [.int 2, .long 0, .int 0, .int 0, .int 0, .int 1]))] t) A) := by
  refine Met.ofW (cc := prog_13_method_93_code) (maxL := 5) (ret := none) (by decide) rfl ?_
  intro p e s m args below meth c s₁ B hml hv
  obtain ⟨rfl, hsz, hZ, hP, hK, hD0⟩ := hv
  have hx := B.exec
  have hb := B.bytes
  have hr := B.returns
  have hts := atoms_spec (ws := wyM_two0) B.pre
  have htx := fun w h => hts w (List.mem_cons_of_mem _ h)
  have hown : s.vm.findClass "ValueBenchModel" = some m.cls := findClass_of_methodNamed B.named
  have hlocks := B.notSynchronized
  subst hsz
  have hD := hD0.self (sz := s.heap.size)
  generalize hAe : va_A [(a0, .inr (5, [v22, .ref a4, v23, v24, v25, v26, v27, v28, v29, v30, v31, v32, v33, v34, v35, v36, v37, v38, v39, v40, v41, .ref a5, v42, v43, .ref a1, .ref a2, v44, v45, v46, v47, v48, v49])), (a1, .inl (cT 5, 8, .inr (.inr (.inr (.inr f50))))), (a2, .inl (cT 1, 8, .inl f54)), (a3, .inl (cT 0, 4096, .inl f57)), (a4, .inl (cT 4, 1024, .inr (.inr (.inr (.inr f62))))), (a5, .inl (cT 0, 1024, .inl f66)), (a6, .inl (cT 0, 4096, .inl f67))] s.heap.size = A at hD hZ ⊢
  have hA : ∀ q : Nat, s.heap.size ≤ q → A q := fun q h => by rw [← hAe]; exact Or.inr h
  have hS : va_S A s.heap s.heap [] := va_S.rf
  have hP : va_P D xcl [(a0, .inr (5, [v22, .ref a4, v23, v24, v25, v26, v27, v28, v29, v30, v31, v32, v33, v34, v35, v36, v37, v38, v39, v40, v41, .ref a5, v42, v43, .ref a1, .ref a2, v44, v45, v46, v47, v48, v49])), (a1, .inl (cT 5, 8, .inr (.inr (.inr (.inr f50))))), (a2, .inl (cT 1, 8, .inl f54)), (a3, .inl (cT 0, 4096, .inl f57)), (a4, .inl (cT 4, 1024, .inr (.inr (.inr (.inr f62))))), (a5, .inl (cT 0, 1024, .inl f66)), (a6, .inl (cT 0, 4096, .inl f67))] s.heap := hP
  have hl := lv_entry ([.ref a0, .int x7, .int 1, .int x12, .int x17]) (n := 5) (Nat.le_of_ble_eq_true rfl)
  rw [lg_entry_eq]
  generalize (lg_sl ([.ref a0, .int x7, .int 1, .int x12, .int x17]) ++ List.replicate (5 - (lg_sl ([.ref a0, .int x7, .int 1, .int x12, .int x17])).length) Slot.unset).toArray = ls at hl ⊢
  have hl : lv_has ls 5 [(0, .ref a0), (1, .int x7), (2, .int 1), (3, .int x12), (4, .int x17)] := hl
  refine lv_aload_n hx hb dM_two0_0 rfl (lv_at hl 0 rfl) ?_
  obtain ⟨hPc, hDc, hFc⟩ := xcut (wc := [(a0, .inr (5, [v22, .ref a4, v23, v24, v25, v26, v27, v28, v29, v30, v31, v32, v33, v34, v35, v36, v37, v38, v39, v40, v41, .ref a5, v42, v43, .ref a1, .ref a2, v44, v45, v46, v47, v48, v49]))]) hP hD hS hA [0] rfl rfl (by decide)
  refine va_callv (va_runV (C := "ValueBenchModel") (As := []) (rest := []) ⟨hx, hb, hml, hown, htx⟩ (cM_begin_0 l hl9 D cT aK aV s.heap.size a0 v22 (.ref a4) v23 v24 v25 v26 v27 v28 v29 v30 v31 v32 v33 v34 v35 v36 v37 v38 v39 v40 v41 (.ref a5) v42 v43 (.ref a1) (.ref a2) v44 v45 v46 v47 v48 v49) ⟨callB_of 0 htx (xw_goodC kw_5_209) rfl rfl rfl (htx _ kw_1_5) (htx _ kw_5_206) ⟨by decide, by decide, by decide +kernel⟩ ⟨Nat.le_of_ble_eq_true rfl, Nat.le_of_ble_eq_true rfl⟩, (htx _ kw_5_208), (htx _ kp_M_begin)⟩ ⟨xPre_blind, va_recv hK hP (ci := 5) rfl (q0 := 0) rfl, (fun U hU hW => ⟨rfl, xPre_of hZ hS hFc hPc hDc hK U hU hW⟩)⟩ rfl rfl hl.1 rfl (lv_room (Nat.le_of_ble_eq_true rfl)) dM_two0_1 ⟨Nat.le_of_ble_eq_true rfl, Nat.le_of_ble_eq_true rfl⟩) hS (fun q _ h => hFc q h) hFc (fun u9 t H1 locs ht hvm hr9 hB hz1 hk1 hS => ?_)
  obtain ⟨hP1, hK1, hD1⟩ := hB
  rw [ht] at hP1
  obtain ⟨hP, hD⟩ := xjoin (W := [(a1, .inl (cT 5, 8, .inr (.inr (.inr (.inr f50))))), (a2, .inl (cT 1, 8, .inl f54)), (a3, .inl (cT 0, 4096, .inl f57)), (a4, .inl (cT 4, 1024, .inr (.inr (.inr (.inr f62))))), (a5, .inl (cT 0, 1024, .inl f66)), (a6, .inl (cT 0, 4096, .inl f67)), (a0, .inr (5, [.int 0, .ref a4, .int 0, v24, .int 0, v26, v27, .int 0, v29, .int 0, v31, v32, .int 0, v34, v35, v36, v37, v38, v39, v40, v41, .ref a5, .int 0, .int 1000000000, .ref a1, .ref a2, v44, v45, v46, v47, v48, v49]))]) hP hD [0] [1, 2, 3, 4, 5, 6] 6 rfl rfl (by decide) (by decide) hk1 hFc hP1 hD1
  generalize H1 = H at hP hS ⊢
  refine lv_aload_n hx hb dM_two0_4 rfl (lv_at hl 0 rfl) ?_
  refine lv_iload_n hx hb dM_two0_5 rfl (lv_at hl 1 rfl) ?_
  obtain ⟨hPc, hDc, hFc⟩ := xcut (wc := []) hP hD hS hA [] rfl rfl (by decide)
  refine va_calli (va_runV (C := "ValueBenchModel") (As := [.int x7]) (rest := []) ⟨hx, hb, hml, hown, htx⟩ (cM_out_2 l hl9 D cT aK aV H.size a0 x7 h8 h9 h10 h11) ⟨callB_of 1 htx (xw_goodC kw_5_217) rfl rfl rfl (htx _ kw_1_5) (htx _ kw_5_214) ⟨by decide, by decide, by decide +kernel⟩ ⟨Nat.le_of_ble_eq_true rfl, Nat.le_of_ble_eq_true rfl⟩, (htx _ kw_5_216), (htx _ kp_M_out)⟩ ⟨xPre_blind, va_recv hK hP (ci := 5) rfl (q0 := 6) rfl, (fun U hU hW => ⟨rfl, xPre_of hZ hS hFc hPc hDc hK U hU hW⟩)⟩ rfl rfl hl.1 rfl (lv_room (Nat.le_of_ble_eq_true rfl)) dM_two0_6 ⟨Nat.le_of_ble_eq_true rfl, Nat.le_of_ble_eq_true rfl⟩) hS (fun q _ h => hFc q h) hFc (fun r1 u9 t H1 locs ht hvm hr9 hB hz1 hk1 hS => ?_)
  obtain ⟨hP1, hK1, hD1⟩ := hB
  rw [ht] at hP1
  obtain ⟨hP, hD⟩ := xjoin (W := [(a1, .inl (cT 5, 8, .inr (.inr (.inr (.inr f50))))), (a2, .inl (cT 1, 8, .inl f54)), (a3, .inl (cT 0, 4096, .inl f57)), (a4, .inl (cT 4, 1024, .inr (.inr (.inr (.inr f62))))), (a5, .inl (cT 0, 1024, .inl f66)), (a6, .inl (cT 0, 4096, .inl f67)), (a0, .inr (5, [.int 0, .ref a4, .int 0, v24, .int 0, v26, v27, .int 0, v29, .int 0, v31, v32, .int 0, v34, v35, v36, v37, v38, v39, v40, v41, .ref a5, .int 0, .int 1000000000, .ref a1, .ref a2, v44, v45, v46, v47, v48, v49]))]) hP hD [] [0, 1, 2, 3, 4, 5, 6] 7 rfl rfl (by decide) (by decide) hk1 hFc hP1 hD1
  generalize H1 = H at hP hS ⊢
  rw [hr9]
  refine W.eq (g2 := F0 m 9 ls [.int 0]) rfl ?_
  refine lv_if_ne (tgt := 39) hx hb dM_two0_9 (by decide) (fun h => ((by revert h; decide : False)).elim) (fun _ => ?_)
  refine lv_iload_n hx hb dM_two0_12 rfl (lv_at hl 2 rfl) ?_
  refine lv_if_lt (tgt := 39) hx hb dM_two0_13 (by decide) (fun h => ((by revert h; decide : False)).elim) (fun _ => ?_)
  refine lv_iload_n hx hb dM_two0_16 rfl (lv_at hl 2 rfl) ?_
  refine lv_bipush (v := 9) hx hb dM_two0_17 (by decide) ?_
  refine lv_icmp_gt (tgt := 39) hx hb dM_two0_19 (by decide) (fun h => ((by revert h; decide : False)).elim) (fun _ => ?_)
  refine lv_aload_n hx hb dM_two0_22 rfl (lv_at hl 0 rfl) ?_
  refine lv_iload_n hx hb dM_two0_23 rfl (lv_at hl 3 rfl) ?_
  obtain ⟨hPc, hDc, hFc⟩ := xcut (wc := []) hP hD hS hA [] rfl rfl (by decide)
  refine va_calli (va_runV (C := "ValueBenchModel") (As := [.int x12]) (rest := []) ⟨hx, hb, hml, hown, htx⟩ (cM_out_2 l hl9 D cT aK aV H.size a0 x12 h13 h14 h15 h16) ⟨callB_of 1 htx (xw_goodC kw_5_217) rfl rfl rfl (htx _ kw_1_5) (htx _ kw_5_214) ⟨by decide, by decide, by decide +kernel⟩ ⟨Nat.le_of_ble_eq_true rfl, Nat.le_of_ble_eq_true rfl⟩, (htx _ kw_5_216), (htx _ kp_M_out)⟩ ⟨xPre_blind, va_recv hK hP (ci := 5) rfl (q0 := 6) rfl, (fun U hU hW => ⟨rfl, xPre_of hZ hS hFc hPc hDc hK U hU hW⟩)⟩ rfl rfl hl.1 rfl (lv_room (Nat.le_of_ble_eq_true rfl)) dM_two0_24 ⟨Nat.le_of_ble_eq_true rfl, Nat.le_of_ble_eq_true rfl⟩) hS (fun q _ h => hFc q h) hFc (fun r2 u9 t H1 locs ht hvm hr9 hB hz1 hk1 hS => ?_)
  obtain ⟨hP1, hK1, hD1⟩ := hB
  rw [ht] at hP1
  obtain ⟨hP, hD⟩ := xjoin (W := [(a1, .inl (cT 5, 8, .inr (.inr (.inr (.inr f50))))), (a2, .inl (cT 1, 8, .inl f54)), (a3, .inl (cT 0, 4096, .inl f57)), (a4, .inl (cT 4, 1024, .inr (.inr (.inr (.inr f62))))), (a5, .inl (cT 0, 1024, .inl f66)), (a6, .inl (cT 0, 4096, .inl f67)), (a0, .inr (5, [.int 0, .ref a4, .int 0, v24, .int 0, v26, v27, .int 0, v29, .int 0, v31, v32, .int 0, v34, v35, v36, v37, v38, v39, v40, v41, .ref a5, .int 0, .int 1000000000, .ref a1, .ref a2, v44, v45, v46, v47, v48, v49]))]) hP hD [] [0, 1, 2, 3, 4, 5, 6] 7 rfl rfl (by decide) (by decide) hk1 hFc hP1 hD1
  generalize H1 = H at hP hS ⊢
  rw [hr9]
  refine W.eq (g2 := F0 m 27 ls [.int 0]) rfl ?_
  refine lv_if_ne (tgt := 39) hx hb dM_two0_27 (by decide) (fun h => ((by revert h; decide : False)).elim) (fun _ => ?_)
  refine lv_aload_n hx hb dM_two0_30 rfl (lv_at hl 0 rfl) ?_
  refine lv_iload hx hb dM_two0_31 (lv_at hl 4 rfl) ?_
  obtain ⟨hPc, hDc, hFc⟩ := xcut (wc := []) hP hD hS hA [] rfl rfl (by decide)
  refine va_calli (va_runV (C := "ValueBenchModel") (As := [.int x17]) (rest := []) ⟨hx, hb, hml, hown, htx⟩ (cM_out_2 l hl9 D cT aK aV H.size a0 x17 h18 h19 h20 h21) ⟨callB_of 1 htx (xw_goodC kw_5_217) rfl rfl rfl (htx _ kw_1_5) (htx _ kw_5_214) ⟨by decide, by decide, by decide +kernel⟩ ⟨Nat.le_of_ble_eq_true rfl, Nat.le_of_ble_eq_true rfl⟩, (htx _ kw_5_216), (htx _ kp_M_out)⟩ ⟨xPre_blind, va_recv hK hP (ci := 5) rfl (q0 := 6) rfl, (fun U hU hW => ⟨rfl, xPre_of hZ hS hFc hPc hDc hK U hU hW⟩)⟩ rfl rfl hl.1 rfl (lv_room (Nat.le_of_ble_eq_true rfl)) dM_two0_33 ⟨Nat.le_of_ble_eq_true rfl, Nat.le_of_ble_eq_true rfl⟩) hS (fun q _ h => hFc q h) hFc (fun r3 u9 t H1 locs ht hvm hr9 hB hz1 hk1 hS => ?_)
  obtain ⟨hP1, hK1, hD1⟩ := hB
  rw [ht] at hP1
  obtain ⟨hP, hD⟩ := xjoin (W := [(a1, .inl (cT 5, 8, .inr (.inr (.inr (.inr f50))))), (a2, .inl (cT 1, 8, .inl f54)), (a3, .inl (cT 0, 4096, .inl f57)), (a4, .inl (cT 4, 1024, .inr (.inr (.inr (.inr f62))))), (a5, .inl (cT 0, 1024, .inl f66)), (a6, .inl (cT 0, 4096, .inl f67)), (a0, .inr (5, [.int 0, .ref a4, .int 0, v24, .int 0, v26, v27, .int 0, v29, .int 0, v31, v32, .int 0, v34, v35, v36, v37, v38, v39, v40, v41, .ref a5, .int 0, .int 1000000000, .ref a1, .ref a2, v44, v45, v46, v47, v48, v49]))]) hP hD [] [0, 1, 2, 3, 4, 5, 6] 7 rfl rfl (by decide) (by decide) hk1 hFc hP1 hD1
  generalize H1 = H at hP hS ⊢
  rw [hr9]
  refine W.eq (g2 := F0 m 36 ls [.int 0]) rfl ?_
  refine lv_if_eq (tgt := 47) hx hb dM_two0_36 (by decide) (fun _ => ?_) (fun h => ((by revert h; decide : False)).elim)
  refine lv_aload_n hx hb dM_two0_47 rfl (lv_at hl 0 rfl) ?_
  refine lv_iload_n hx hb dM_two0_48 rfl (lv_at hl 1 rfl) ?_
  refine lv_iconst (v := 2) hx hb dM_two0_49 (by decide) ?_
  refine lv_iload_n hx hb dM_two0_50 rfl (lv_at hl 2 rfl) ?_
  refine lv_iload_n hx hb dM_two0_51 rfl (lv_at hl 3 rfl) ?_
  refine lv_iload hx hb dM_two0_52 (lv_at hl 4 rfl) ?_
  obtain ⟨hPc, hDc, hFc⟩ := xcut (wc := [(a0, .inr (5, [.int 0, .ref a4, .int 0, v24, .int 0, v26, v27, .int 0, v29, .int 0, v31, v32, .int 0, v34, v35, v36, v37, v38, v39, v40, v41, .ref a5, .int 0, .int 1000000000, .ref a1, .ref a2, v44, v45, v46, v47, v48, v49])), (a1, .inl (cT 5, 8, .inr (.inr (.inr (.inr f50))))), (a2, .inl (cT 1, 8, .inl f54)), (a3, .inl (cT 0, 4096, .inl f57)), (a4, .inl (cT 4, 1024, .inr (.inr (.inr (.inr f62))))), (a5, .inl (cT 0, 1024, .inl f66)), (a6, .inl (cT 0, 4096, .inl f67))]) hP hD hS hA [6, 0, 1, 2, 3, 4, 5] rfl rfl (by decide)
  refine va_callv (vx_runVW (C := "ValueBenchModel") (As := [.int x7, .int 2, .int 1, .int x12, .int x17]) (rest := []) ⟨hx, hb, hml, hown, htx⟩ (cM_finish_35 l hl9 D cT aK aV H.size a0 a1 a2 a3 a4 a5 a6 x7 x12 x17 (.int 0) v24 (.int 0) v26 v27 (.int 0) v29 (.int 0) v31 v32 (.int 0) v34 v35 v36 v37 v38 v39 v40 v41 (.int 0) (.int 1000000000) v44 v45 v46 v47 v48 v49 f50 f54 f57 f62 f66 f67 h8 h9 h10 h11 h13 h14 h15 h16 h18 h19 h20 h21 (by first | rfl | exact h51 | exact h52 | exact h53 | exact h55 | exact h56 | exact h58 | exact h59 | exact h60 | exact h61 | exact h63 | exact h64 | exact h65) (by first | rfl | exact h51 | exact h52 | exact h53 | exact h55 | exact h56 | exact h58 | exact h59 | exact h60 | exact h61 | exact h63 | exact h64 | exact h65) (by first | rfl | exact h51 | exact h52 | exact h53 | exact h55 | exact h56 | exact h58 | exact h59 | exact h60 | exact h61 | exact h63 | exact h64 | exact h65) (by first | rfl | exact h51 | exact h52 | exact h53 | exact h55 | exact h56 | exact h58 | exact h59 | exact h60 | exact h61 | exact h63 | exact h64 | exact h65) (by first | rfl | exact h51 | exact h52 | exact h53 | exact h55 | exact h56 | exact h58 | exact h59 | exact h60 | exact h61 | exact h63 | exact h64 | exact h65) (by first | rfl | exact h51 | exact h52 | exact h53 | exact h55 | exact h56 | exact h58 | exact h59 | exact h60 | exact h61 | exact h63 | exact h64 | exact h65) (by first | rfl | exact h51 | exact h52 | exact h53 | exact h55 | exact h56 | exact h58 | exact h59 | exact h60 | exact h61 | exact h63 | exact h64 | exact h65) (by first | rfl | exact h51 | exact h52 | exact h53 | exact h55 | exact h56 | exact h58 | exact h59 | exact h60 | exact h61 | exact h63 | exact h64 | exact h65) (by first | rfl | exact h51 | exact h52 | exact h53 | exact h55 | exact h56 | exact h58 | exact h59 | exact h60 | exact h61 | exact h63 | exact h64 | exact h65) (by first | rfl | exact h51 | exact h52 | exact h53 | exact h55 | exact h56 | exact h58 | exact h59 | exact h60 | exact h61 | exact h63 | exact h64 | exact h65) (by first | rfl | exact h51 | exact h52 | exact h53 | exact h55 | exact h56 | exact h58 | exact h59 | exact h60 | exact h61 | exact h63 | exact h64 | exact h65) (by first | rfl | exact h51 | exact h52 | exact h53 | exact h55 | exact h56 | exact h58 | exact h59 | exact h60 | exact h61 | exact h63 | exact h64 | exact h65)) (xcVW 5 htx (xw_goodC kw_6_195) rfl rfl rfl (htx _ kw_1_5) (htx _ kw_6_192) ⟨by decide, by decide, by decide +kernel⟩ ⟨Nat.le_of_ble_eq_true rfl, Nat.le_of_ble_eq_true rfl⟩ (htx _ kw_6_194) (htx _ kp_M_finish)) ⟨xPre_blind, va_recv hK hP (ci := 5) rfl (q0 := 6) rfl, (fun U hU hW => ⟨rfl, xPre_of hZ hS hFc hPc hDc hK U hU hW⟩)⟩ rfl rfl hl.1 rfl (lv_room (Nat.le_of_ble_eq_true rfl)) dM_two0_54 ⟨Nat.le_of_ble_eq_true rfl, Nat.le_of_ble_eq_true rfl⟩) hS (fun q _ h => hFc q h) hFc (fun u9 t H1 locs ht hvm hr9 hB hz1 hk1 hS => ?_)
  obtain ⟨q4, q5, q6, y7, y8, y9, y10, hP1, hK1, hD1⟩ := hB
  rw [ht] at hP1
  obtain ⟨hP, hD⟩ := xjoin (W := [(a0, .inr (5, [.int 0, .ref a4, .int 3, v24, .int 0, v26, v27, .int 0, v29, .int 0, v31, v32, .int 0, v34, v35, .ref a3, .int 4, .int 4, .int 0, .int 100, v41, .ref a5, .int 4, .int 4096, .ref a1, .ref a2, v44, v45, v46, v47, v48, v49])), (a1, .inl (cT 5, 8, .inr (.inr (.inr (.inr f50))))), (a2, .inl (cT 1, 8, .inl (upd f54 x7.toNatClampNeg 4))), (a3, .inl (cT 0, 4096, .inl f57)), (a4, .inl (cT 4, 1024, .inr (.inr (.inr (.inr (va_up (va_up (va_up f62 0 (some q4)) 1 (some q5)) 2 (some q6))))))), (a5, .inl (cT 0, 1024, .inl (upd (upd (upd (upd f66 0 (vp_nar .byte y7)) 1 (vp_nar .byte y8)) 2 (vp_nar .byte y9)) 3 (vp_nar .byte y10)))), (a6, .inl (cT 0, 4096, .inl (upd (upd (upd (upd f67 0 (vp_nar .byte (vp_nar .byte y7))) 1 (vp_nar .byte (vp_nar .byte y8))) 2 (vp_nar .byte (vp_nar .byte y9))) 3 (vp_nar .byte (vp_nar .byte y10))))), (q4, .inr (6, [.int 0, .long 0, .int 0, .int 0, .int 0, .int 1])), (q5, .inr (6, [.int 0, .long 0, .int 0, .int 0, .int 0, .int 1])), (q6, .inr (6, [.int 2, .long 0, .int 0, .int 0, .int 0, .int 1]))]) hP hD [6, 0, 1, 2, 3, 4, 5] [] 0 rfl rfl (by decide) (by decide) hk1 hFc hP1 hD1
  generalize H1 = H at hP hS ⊢
  obtain ⟨hP9, hD9⟩ := xsub (wc := [(a0, .inr (5, [.int 0, .ref a4, .int 3, v24, .int 0, v26, v27, .int 0, v29, .int 0, v31, v32, .int 0, v34, v35, .ref a3, .int 4, .int 4, .int 0, .int 100, v41, .ref a5, .int 4, .int 4096, .ref a1, .ref a2, v44, v45, v46, v47, v48, v49])), (a1, .inl (cT 5, 8, .inr (.inr (.inr (.inr f50))))), (a2, .inl (cT 1, 8, .inl (upd f54 x7.toNatClampNeg 4))), (a3, .inl (cT 0, 4096, .inl f57)), (a4, .inl (cT 4, 1024, .inr (.inr (.inr (.inr (va_up (va_up (va_up f62 0 (some q4)) 1 (some q5)) 2 (some q6))))))), (a5, .inl (cT 0, 1024, .inl (upd (upd (upd (upd f66 0 (vp_nar .byte y7)) 1 (vp_nar .byte y8)) 2 (vp_nar .byte y9)) 3 (vp_nar .byte y10)))), (a6, .inl (cT 0, 4096, .inl (upd (upd (upd (upd f67 0 (vp_nar .byte (vp_nar .byte y7))) 1 (vp_nar .byte (vp_nar .byte y8))) 2 (vp_nar .byte (vp_nar .byte y9))) 3 (vp_nar .byte (vp_nar .byte y10))))), (q4, .inr (6, [.int 0, .long 0, .int 0, .int 0, .int 0, .int 1])), (q5, .inr (6, [.int 0, .long 0, .int 0, .int 0, .int 0, .int 1])), (q6, .inr (6, [.int 2, .long 0, .int 0, .int 0, .int 0, .int 1]))]) hP hD [0, 1, 2, 3, 4, 5, 6, 7, 8, 9] rfl rfl (by decide)
  refine W.widen (k := 3) (n := 18) (Nat.le_of_ble_eq_true rfl) (Nat.le_of_ble_eq_true rfl) ?_
  exact W.vret hx hb hr (fun t ht hW => ⟨⟨(), rfl, trivial, q4, q5, q6, y7, y8, y9, y10, by rw [ht]; exact hP9, va_K.moved hW.alike hK, hD9⟩, hS.F ht⟩) hS.2.2 dM_two0_57
set_option maxHeartbeats 400000000 in
set_option maxRecDepth 100000 in
theorem cH_areOfOneKind_1 (l : Launch) (hl9 : l.stackTraces = false) (D : va_G) (cT : Nat → ClassId) (aK aV : Nat → Nat) (sz : Nat) (a0 : Nat) (a1 : Nat) (a2 : Nat) (a3 : Nat) (v4 : Value) (f5 : Nat → Int64) (v7 : Value) (f8 : Nat → Int64) (h6 : f5 0 = 0) (h9 : f8 0 = 0) : xMet l yH_areOfOneKind wyH_areOfOneKind 1 0 0 21 D cT aK aV sz [.ref a0, .int 0, .ref a2, .int 0] [(a0, .inr (2, [.ref a1, .int 1, v4])), (a1, .inl (cT 2, 4096, .inr (.inl f5))), (a2, .inr (2, [.ref a3, .int 1, v7])), (a3, .inl (cT 2, 4096, .inr (.inl f8)))] (fun A => va_Qi (fun (r : Int32) (_ : Unit) => r = 1) (fun _ t => xB D xcl cT A [(a0, .inr (2, [.ref a1, .int 1, v4])), (a1, .inl (cT 2, 4096, .inr (.inl f5))), (a2, .inr (2, [.ref a3, .int 1, v7])), (a3, .inl (cT 2, 4096, .inr (.inl f8)))] t) A) := by
  refine Met.ofW (cc := prog_5_method_9_code) (maxL := 4) (ret := (some .boolean)) (by decide) rfl ?_
  intro p e s m args below meth c s₁ B hml hv
  obtain ⟨rfl, hsz, hZ, hP, hK, hD0⟩ := hv
  have hx := B.exec
  have hb := B.bytes
  have hr := B.returns
  have hts := atoms_spec (ws := wyH_areOfOneKind) B.pre
  have htx := fun w h => hts w (List.mem_cons_of_mem _ h)
  have hown : s.vm.findClass "ValueBench$Pairs" = some m.cls := findClass_of_methodNamed B.named
  have hlocks := B.notSynchronized
  subst hsz
  have hD := hD0.self (sz := s.heap.size)
  generalize hAe : va_A [(a0, .inr (2, [.ref a1, .int 1, v4])), (a1, .inl (cT 2, 4096, .inr (.inl f5))), (a2, .inr (2, [.ref a3, .int 1, v7])), (a3, .inl (cT 2, 4096, .inr (.inl f8)))] s.heap.size = A at hD hZ ⊢
  have hA : ∀ q : Nat, s.heap.size ≤ q → A q := fun q h => by rw [← hAe]; exact Or.inr h
  have hS : va_S A s.heap s.heap [] := va_S.rf
  have hP : va_P D xcl [(a0, .inr (2, [.ref a1, .int 1, v4])), (a1, .inl (cT 2, 4096, .inr (.inl f5))), (a2, .inr (2, [.ref a3, .int 1, v7])), (a3, .inl (cT 2, 4096, .inr (.inl f8)))] s.heap := hP
  have hl := lv_entry ([.ref a0, .int 0, .ref a2, .int 0]) (n := 4) (Nat.le_of_ble_eq_true rfl)
  rw [lg_entry_eq]
  generalize (lg_sl ([.ref a0, .int 0, .ref a2, .int 0]) ++ List.replicate (4 - (lg_sl ([.ref a0, .int 0, .ref a2, .int 0])).length) Slot.unset).toArray = ls at hl ⊢
  have hl : lv_has ls 4 [(0, .ref a0), (1, .int 0), (2, .ref a2), (3, .int 0)] := hl
  refine lv_aload_n hx hb dH_areOfOneKind_0 rfl (lv_at hl 0 rfl) ?_
  refine lv_iload_n hx hb dH_areOfOneKind_1 rfl (lv_at hl 1 rfl) ?_
  obtain ⟨hPc, hDc, hFc⟩ := xcut (wc := [(a0, .inr (2, [.ref a1, .int 1, v4])), (a1, .inl (cT 2, 4096, .inr (.inl f5)))]) hP hD hS hA [0, 1] rfl rfl (by decide)
  refine va_calli (va_runV (C := "ValueBench$Row") (As := [.int 0]) (rest := []) ⟨hx, hb, hml, hown, htx⟩ (cR_kind_0 l hl9 D cT aK aV s.heap.size a0 a1 v4 f5 (by first | rfl | exact h6 | exact h9)) ⟨callB_of 1 htx (xw_goodC kw_3_24) rfl rfl rfl (htx _ kw_1_4) (htx _ kw_4_164) ⟨by decide, by decide, by decide +kernel⟩ ⟨Nat.le_of_ble_eq_true rfl, Nat.le_of_ble_eq_true rfl⟩, (htx _ kw_3_22), (htx _ kw_3_23)⟩ ⟨xPre_blind, va_recv hK hP (ci := 2) rfl (q0 := 0) rfl, (fun U hU hW => ⟨rfl, xPre_of hZ hS hFc hPc hDc hK U hU hW⟩)⟩ rfl rfl hl.1 rfl (lv_room (Nat.le_of_ble_eq_true rfl)) dH_areOfOneKind_2 ⟨Nat.le_of_ble_eq_true rfl, Nat.le_of_ble_eq_true rfl⟩) hS (fun q _ h => hFc q h) hFc (fun r1 u9 t H1 locs ht hvm hr9 hB hz1 hk1 hS => ?_)
  obtain ⟨hP1, hK1, hD1⟩ := hB
  rw [ht] at hP1
  obtain ⟨hP, hD⟩ := xjoin (W := [(a2, .inr (2, [.ref a3, .int 1, v7])), (a3, .inl (cT 2, 4096, .inr (.inl f8))), (a0, .inr (2, [.ref a1, .int 1, v4])), (a1, .inl (cT 2, 4096, .inr (.inl f5)))]) hP hD [0, 1] [2, 3] 2 rfl rfl (by decide) (by decide) hk1 hFc hP1 hD1
  generalize H1 = H at hP hS ⊢
  rw [hr9]
  refine W.eq (g2 := F0 m 5 ls [.int 0]) rfl ?_
  refine lv_aload_n hx hb dH_areOfOneKind_5 rfl (lv_at hl 2 rfl) ?_
  refine lv_iload_n hx hb dH_areOfOneKind_6 rfl (lv_at hl 3 rfl) ?_
  obtain ⟨hPc, hDc, hFc⟩ := xcut (wc := [(a2, .inr (2, [.ref a3, .int 1, v7])), (a3, .inl (cT 2, 4096, .inr (.inl f8)))]) hP hD hS hA [0, 1] rfl rfl (by decide)
  refine va_calli (va_runV (C := "ValueBench$Row") (As := [.int 0]) (rest := [.int 0]) ⟨hx, hb, hml, hown, htx⟩ (cR_kind_0 l hl9 D cT aK aV H.size a2 a3 v7 f8 (by first | rfl | exact h6 | exact h9)) ⟨callB_of 1 htx (xw_goodC kw_3_24) rfl rfl rfl (htx _ kw_1_4) (htx _ kw_4_164) ⟨by decide, by decide, by decide +kernel⟩ ⟨Nat.le_of_ble_eq_true rfl, Nat.le_of_ble_eq_true rfl⟩, (htx _ kw_3_22), (htx _ kw_3_23)⟩ ⟨xPre_blind, va_recv hK hP (ci := 2) rfl (q0 := 0) rfl, (fun U hU hW => ⟨rfl, xPre_of hZ hS hFc hPc hDc hK U hU hW⟩)⟩ rfl rfl hl.1 rfl (lv_room (Nat.le_of_ble_eq_true rfl)) dH_areOfOneKind_7 ⟨Nat.le_of_ble_eq_true rfl, Nat.le_of_ble_eq_true rfl⟩) hS (fun q _ h => hFc q h) hFc (fun r2 u9 t H1 locs ht hvm hr9 hB hz1 hk1 hS => ?_)
  obtain ⟨hP1, hK1, hD1⟩ := hB
  rw [ht] at hP1
  obtain ⟨hP, hD⟩ := xjoin (W := [(a0, .inr (2, [.ref a1, .int 1, v4])), (a1, .inl (cT 2, 4096, .inr (.inl f5))), (a2, .inr (2, [.ref a3, .int 1, v7])), (a3, .inl (cT 2, 4096, .inr (.inl f8)))]) hP hD [0, 1] [2, 3] 2 rfl rfl (by decide) (by decide) hk1 hFc hP1 hD1
  generalize H1 = H at hP hS ⊢
  rw [hr9]
  refine W.eq (g2 := F0 m 10 ls [.int 0, .int 0]) rfl ?_
  refine lv_icmp_eq (tgt := 35) hx hb dH_areOfOneKind_10 (by decide) (fun _ => ?_) (fun h => ((by revert h; decide : False)).elim)
  refine lv_iconst (v := 1) hx hb dH_areOfOneKind_35 (by decide) ?_
  refine lv_goto (tgt := 40) hx hb dH_areOfOneKind_36 (by decide) ?_
  obtain ⟨hP9, hD9⟩ := xsub (wc := [(a0, .inr (2, [.ref a1, .int 1, v4])), (a1, .inl (cT 2, 4096, .inr (.inl f5))), (a2, .inr (2, [.ref a3, .int 1, v7])), (a3, .inl (cT 2, 4096, .inr (.inl f8)))]) hP hD [0, 1, 2, 3] rfl rfl (by decide)
  refine W.widen (k := 0) (n := 0) (Nat.le_of_ble_eq_true rfl) (Nat.le_of_ble_eq_true rfl) ?_
  exact W.zret (v := 1) hx hb hr rfl (fun t ht hW => ⟨⟨1, (), rfl, rfl, by rw [ht]; exact hP9, va_K.moved hW.alike hK, hD9⟩, hS.F ht⟩) hS.2.2 dH_areOfOneKind_40
set_option maxHeartbeats 400000000 in
set_option maxRecDepth 100000 in
theorem cH_isIn_1 (l : Launch) (hl9 : l.stackTraces = false) (D : va_G) (cT : Nat → ClassId) (aK aV : Nat → Nat) (sz : Nat) (a0 : Nat) (a1 : Nat) (a2 : Nat) (a3 : Nat) (v4 : Value) (f5 : Nat → Int64) (v7 : Value) (f8 : Nat → Int64) (h6 : f5 0 = 0) (h9 : f8 0 = 0) : xMet l yH_isIn wyH_isIn 1 0 0 21 D cT aK aV sz [.ref a0, .int 0, .ref a2, .int 0, .int 0] [(a0, .inr (2, [.ref a1, .int 1, v4])), (a1, .inl (cT 2, 4096, .inr (.inl f5))), (a2, .inr (2, [.ref a3, .int 1, v7])), (a3, .inl (cT 2, 4096, .inr (.inl f8)))] (fun A => va_Qi (fun (r : Int32) (_ : Unit) => r = 1) (fun _ t => xB D xcl cT A [(a0, .inr (2, [.ref a1, .int 1, v4])), (a1, .inl (cT 2, 4096, .inr (.inl f5))), (a2, .inr (2, [.ref a3, .int 1, v7])), (a3, .inl (cT 2, 4096, .inr (.inl f8)))] t) A) := by
  refine Met.ofW (cc := prog_5_method_11_code) (maxL := 5) (ret := (some .boolean)) (by decide) rfl ?_
  intro p e s m args below meth c s₁ B hml hv
  obtain ⟨rfl, hsz, hZ, hP, hK, hD0⟩ := hv
  have hx := B.exec
  have hb := B.bytes
  have hr := B.returns
  have hts := atoms_spec (ws := wyH_isIn) B.pre
  have htx := fun w h => hts w (List.mem_cons_of_mem _ h)
  have hown : s.vm.findClass "ValueBench$Pairs" = some m.cls := findClass_of_methodNamed B.named
  have hlocks := B.notSynchronized
  subst hsz
  have hD := hD0.self (sz := s.heap.size)
  generalize hAe : va_A [(a0, .inr (2, [.ref a1, .int 1, v4])), (a1, .inl (cT 2, 4096, .inr (.inl f5))), (a2, .inr (2, [.ref a3, .int 1, v7])), (a3, .inl (cT 2, 4096, .inr (.inl f8)))] s.heap.size = A at hD hZ ⊢
  have hA : ∀ q : Nat, s.heap.size ≤ q → A q := fun q h => by rw [← hAe]; exact Or.inr h
  have hS : va_S A s.heap s.heap [] := va_S.rf
  have hP : va_P D xcl [(a0, .inr (2, [.ref a1, .int 1, v4])), (a1, .inl (cT 2, 4096, .inr (.inl f5))), (a2, .inr (2, [.ref a3, .int 1, v7])), (a3, .inl (cT 2, 4096, .inr (.inl f8)))] s.heap := hP
  have hl := lv_entry ([.ref a0, .int 0, .ref a2, .int 0, .int 0]) (n := 5) (Nat.le_of_ble_eq_true rfl)
  rw [lg_entry_eq]
  generalize (lg_sl ([.ref a0, .int 0, .ref a2, .int 0, .int 0]) ++ List.replicate (5 - (lg_sl ([.ref a0, .int 0, .ref a2, .int 0, .int 0])).length) Slot.unset).toArray = ls at hl ⊢
  have hl : lv_has ls 5 [(0, .ref a0), (1, .int 0), (2, .ref a2), (3, .int 0), (4, .int 0)] := hl
  refine lv_aload_n hx hb dH_isIn_0 rfl (lv_at hl 0 rfl) ?_
  refine lv_iload_n hx hb dH_isIn_1 rfl (lv_at hl 1 rfl) ?_
  obtain ⟨hPc, hDc, hFc⟩ := xcut (wc := [(a0, .inr (2, [.ref a1, .int 1, v4])), (a1, .inl (cT 2, 4096, .inr (.inl f5)))]) hP hD hS hA [0, 1] rfl rfl (by decide)
  refine va_calli (va_runV (C := "ValueBench$Row") (As := [.int 0]) (rest := []) ⟨hx, hb, hml, hown, htx⟩ (cR_kind_0 l hl9 D cT aK aV s.heap.size a0 a1 v4 f5 (by first | rfl | exact h6 | exact h9)) ⟨callB_of 1 htx (xw_goodC kw_3_24) rfl rfl rfl (htx _ kw_1_4) (htx _ kw_4_164) ⟨by decide, by decide, by decide +kernel⟩ ⟨Nat.le_of_ble_eq_true rfl, Nat.le_of_ble_eq_true rfl⟩, (htx _ kw_3_22), (htx _ kw_3_23)⟩ ⟨xPre_blind, va_recv hK hP (ci := 2) rfl (q0 := 0) rfl, (fun U hU hW => ⟨rfl, xPre_of hZ hS hFc hPc hDc hK U hU hW⟩)⟩ rfl rfl hl.1 rfl (lv_room (Nat.le_of_ble_eq_true rfl)) dH_isIn_2 ⟨Nat.le_of_ble_eq_true rfl, Nat.le_of_ble_eq_true rfl⟩) hS (fun q _ h => hFc q h) hFc (fun r1 u9 t H1 locs ht hvm hr9 hB hz1 hk1 hS => ?_)
  obtain ⟨hP1, hK1, hD1⟩ := hB
  rw [ht] at hP1
  obtain ⟨hP, hD⟩ := xjoin (W := [(a2, .inr (2, [.ref a3, .int 1, v7])), (a3, .inl (cT 2, 4096, .inr (.inl f8))), (a0, .inr (2, [.ref a1, .int 1, v4])), (a1, .inl (cT 2, 4096, .inr (.inl f5)))]) hP hD [0, 1] [2, 3] 2 rfl rfl (by decide) (by decide) hk1 hFc hP1 hD1
  generalize H1 = H at hP hS ⊢
  rw [hr9]
  refine W.eq (g2 := F0 m 5 ls [.int 0]) rfl ?_
  refine lv_aload_n hx hb dH_isIn_5 rfl (lv_at hl 2 rfl) ?_
  refine lv_iload_n hx hb dH_isIn_6 rfl (lv_at hl 3 rfl) ?_
  obtain ⟨hPc, hDc, hFc⟩ := xcut (wc := [(a2, .inr (2, [.ref a3, .int 1, v7])), (a3, .inl (cT 2, 4096, .inr (.inl f8)))]) hP hD hS hA [0, 1] rfl rfl (by decide)
  refine va_calli (va_runV (C := "ValueBench$Row") (As := [.int 0]) (rest := [.int 0]) ⟨hx, hb, hml, hown, htx⟩ (cR_kind_0 l hl9 D cT aK aV H.size a2 a3 v7 f8 (by first | rfl | exact h6 | exact h9)) ⟨callB_of 1 htx (xw_goodC kw_3_24) rfl rfl rfl (htx _ kw_1_4) (htx _ kw_4_164) ⟨by decide, by decide, by decide +kernel⟩ ⟨Nat.le_of_ble_eq_true rfl, Nat.le_of_ble_eq_true rfl⟩, (htx _ kw_3_22), (htx _ kw_3_23)⟩ ⟨xPre_blind, va_recv hK hP (ci := 2) rfl (q0 := 0) rfl, (fun U hU hW => ⟨rfl, xPre_of hZ hS hFc hPc hDc hK U hU hW⟩)⟩ rfl rfl hl.1 rfl (lv_room (Nat.le_of_ble_eq_true rfl)) dH_isIn_7 ⟨Nat.le_of_ble_eq_true rfl, Nat.le_of_ble_eq_true rfl⟩) hS (fun q _ h => hFc q h) hFc (fun r2 u9 t H1 locs ht hvm hr9 hB hz1 hk1 hS => ?_)
  obtain ⟨hP1, hK1, hD1⟩ := hB
  rw [ht] at hP1
  obtain ⟨hP, hD⟩ := xjoin (W := [(a0, .inr (2, [.ref a1, .int 1, v4])), (a1, .inl (cT 2, 4096, .inr (.inl f5))), (a2, .inr (2, [.ref a3, .int 1, v7])), (a3, .inl (cT 2, 4096, .inr (.inl f8)))]) hP hD [0, 1] [2, 3] 2 rfl rfl (by decide) (by decide) hk1 hFc hP1 hD1
  generalize H1 = H at hP hS ⊢
  rw [hr9]
  refine W.eq (g2 := F0 m 10 ls [.int 0, .int 0]) rfl ?_
  refine lv_icmp_ne (tgt := 20) hx hb dH_isIn_10 (by decide) (fun h => ((by revert h; decide : False)).elim) (fun _ => ?_)
  refine lv_iload hx hb dH_isIn_13 (lv_at hl 4 rfl) ?_
  refine lv_bipush (v := 60) hx hb dH_isIn_15 (by decide) ?_
  refine lv_icmp_le (tgt := 22) hx hb dH_isIn_17 (by decide) (fun _ => ?_) (fun h => ((by revert h; decide : False)).elim)
  refine lv_aload_n hx hb dH_isIn_22 rfl (lv_at hl 0 rfl) ?_
  refine lv_iload_n hx hb dH_isIn_23 rfl (lv_at hl 1 rfl) ?_
  obtain ⟨hPc, hDc, hFc⟩ := xcut (wc := [(a0, .inr (2, [.ref a1, .int 1, v4])), (a1, .inl (cT 2, 4096, .inr (.inl f5)))]) hP hD hS hA [0, 1] rfl rfl (by decide)
  refine va_calli (va_runV (C := "ValueBench$Row") (As := [.int 0]) (rest := []) ⟨hx, hb, hml, hown, htx⟩ (cR_kind_0 l hl9 D cT aK aV H.size a0 a1 v4 f5 (by first | rfl | exact h6 | exact h9)) ⟨callB_of 1 htx (xw_goodC kw_3_24) rfl rfl rfl (htx _ kw_1_4) (htx _ kw_4_164) ⟨by decide, by decide, by decide +kernel⟩ ⟨Nat.le_of_ble_eq_true rfl, Nat.le_of_ble_eq_true rfl⟩, (htx _ kw_3_22), (htx _ kw_3_23)⟩ ⟨xPre_blind, va_recv hK hP (ci := 2) rfl (q0 := 0) rfl, (fun U hU hW => ⟨rfl, xPre_of hZ hS hFc hPc hDc hK U hU hW⟩)⟩ rfl rfl hl.1 rfl (lv_room (Nat.le_of_ble_eq_true rfl)) dH_isIn_24 ⟨Nat.le_of_ble_eq_true rfl, Nat.le_of_ble_eq_true rfl⟩) hS (fun q _ h => hFc q h) hFc (fun r3 u9 t H1 locs ht hvm hr9 hB hz1 hk1 hS => ?_)
  obtain ⟨hP1, hK1, hD1⟩ := hB
  rw [ht] at hP1
  obtain ⟨hP, hD⟩ := xjoin (W := [(a2, .inr (2, [.ref a3, .int 1, v7])), (a3, .inl (cT 2, 4096, .inr (.inl f8))), (a0, .inr (2, [.ref a1, .int 1, v4])), (a1, .inl (cT 2, 4096, .inr (.inl f5)))]) hP hD [0, 1] [2, 3] 2 rfl rfl (by decide) (by decide) hk1 hFc hP1 hD1
  generalize H1 = H at hP hS ⊢
  rw [hr9]
  refine W.eq (g2 := F0 m 27 ls [.int 0]) rfl ?_
  refine lv_tableOut (tgt := 80) hx hb dH_isIn_27 (by decide) (by decide) ?_
  refine lv_aload_n hx hb dH_isIn_80 rfl (lv_at hl 0 rfl) ?_
  refine lv_iload_n hx hb dH_isIn_81 rfl (lv_at hl 1 rfl) ?_
  obtain ⟨hPc, hDc, hFc⟩ := xcut (wc := [(a0, .inr (2, [.ref a1, .int 1, v4])), (a1, .inl (cT 2, 4096, .inr (.inl f5)))]) hP hD hS hA [2, 3] rfl rfl (by decide)
  refine va_calll (va_runV (C := "ValueBench$Row") (As := [.int 0]) (rest := []) ⟨hx, hb, hml, hown, htx⟩ (cR_cell_0 l hl9 D cT aK aV H.size a0 a1 v4 f5 (by first | rfl | exact h6 | exact h9)) ⟨callB_of 1 htx (xw_goodC kw_2_202) rfl rfl rfl (htx _ kw_1_4) (htx _ kw_4_185) ⟨by decide, by decide, by decide +kernel⟩ ⟨Nat.le_of_ble_eq_true rfl, Nat.le_of_ble_eq_true rfl⟩, (htx _ kw_2_200), (htx _ kw_2_201)⟩ ⟨xPre_blind, va_recv hK hP (ci := 2) rfl (q0 := 2) rfl, (fun U hU hW => ⟨rfl, xPre_of hZ hS hFc hPc hDc hK U hU hW⟩)⟩ rfl rfl hl.1 rfl (lv_room (Nat.le_of_ble_eq_true rfl)) dH_isIn_82 ⟨Nat.le_of_ble_eq_true rfl, Nat.le_of_ble_eq_true rfl⟩) hS (fun q _ h => hFc q h) hFc (fun r4 u9 t H1 locs ht hvm hr9 hB hz1 hk1 hS => ?_)
  obtain ⟨hP1, hK1, hD1⟩ := hB
  rw [ht] at hP1
  obtain ⟨hP, hD⟩ := xjoin (W := [(a2, .inr (2, [.ref a3, .int 1, v7])), (a3, .inl (cT 2, 4096, .inr (.inl f8))), (a0, .inr (2, [.ref a1, .int 1, v4])), (a1, .inl (cT 2, 4096, .inr (.inl f5)))]) hP hD [2, 3] [0, 1] 2 rfl rfl (by decide) (by decide) hk1 hFc hP1 hD1
  generalize H1 = H at hP hS ⊢
  rw [hr9]
  refine W.eq (g2 := F0 m 85 ls [.long 0]) rfl ?_
  refine lv_aload_n hx hb dH_isIn_85 rfl (lv_at hl 2 rfl) ?_
  refine lv_iload_n hx hb dH_isIn_86 rfl (lv_at hl 3 rfl) ?_
  obtain ⟨hPc, hDc, hFc⟩ := xcut (wc := [(a2, .inr (2, [.ref a3, .int 1, v7])), (a3, .inl (cT 2, 4096, .inr (.inl f8)))]) hP hD hS hA [0, 1] rfl rfl (by decide)
  refine va_calll (va_runV (C := "ValueBench$Row") (As := [.int 0]) (rest := [.long 0]) ⟨hx, hb, hml, hown, htx⟩ (cR_cell_0 l hl9 D cT aK aV H.size a2 a3 v7 f8 (by first | rfl | exact h6 | exact h9)) ⟨callB_of 1 htx (xw_goodC kw_2_202) rfl rfl rfl (htx _ kw_1_4) (htx _ kw_4_185) ⟨by decide, by decide, by decide +kernel⟩ ⟨Nat.le_of_ble_eq_true rfl, Nat.le_of_ble_eq_true rfl⟩, (htx _ kw_2_200), (htx _ kw_2_201)⟩ ⟨xPre_blind, va_recv hK hP (ci := 2) rfl (q0 := 0) rfl, (fun U hU hW => ⟨rfl, xPre_of hZ hS hFc hPc hDc hK U hU hW⟩)⟩ rfl rfl hl.1 rfl (lv_room (Nat.le_of_ble_eq_true rfl)) dH_isIn_87 ⟨Nat.le_of_ble_eq_true rfl, Nat.le_of_ble_eq_true rfl⟩) hS (fun q _ h => hFc q h) hFc (fun r5 u9 t H1 locs ht hvm hr9 hB hz1 hk1 hS => ?_)
  obtain ⟨hP1, hK1, hD1⟩ := hB
  rw [ht] at hP1
  obtain ⟨hP, hD⟩ := xjoin (W := [(a0, .inr (2, [.ref a1, .int 1, v4])), (a1, .inl (cT 2, 4096, .inr (.inl f5))), (a2, .inr (2, [.ref a3, .int 1, v7])), (a3, .inl (cT 2, 4096, .inr (.inl f8)))]) hP hD [0, 1] [2, 3] 2 rfl rfl (by decide) (by decide) hk1 hFc hP1 hD1
  generalize H1 = H at hP hS ⊢
  rw [hr9]
  refine W.eq (g2 := F0 m 90 ls [.long 0, .long 0]) rfl ?_
  refine W.lcmp hx hb dH_isIn_90 ?_
  refine W.eq (g2 := F0 m 91 ls [.int 0]) rfl ?_
  refine lv_if_ne (tgt := 98) hx hb dH_isIn_91 (by decide) (fun h => ((by revert h; decide : False)).elim) (fun _ => ?_)
  refine lv_iconst (v := 1) hx hb dH_isIn_94 (by decide) ?_
  refine lv_goto (tgt := 99) hx hb dH_isIn_95 (by decide) ?_
  obtain ⟨hP9, hD9⟩ := xsub (wc := [(a0, .inr (2, [.ref a1, .int 1, v4])), (a1, .inl (cT 2, 4096, .inr (.inl f5))), (a2, .inr (2, [.ref a3, .int 1, v7])), (a3, .inl (cT 2, 4096, .inr (.inl f8)))]) hP hD [0, 1, 2, 3] rfl rfl (by decide)
  refine W.widen (k := 0) (n := 0) (Nat.le_of_ble_eq_true rfl) (Nat.le_of_ble_eq_true rfl) ?_
  exact W.zret (v := 1) hx hb hr rfl (fun t ht hW => ⟨⟨1, (), rfl, rfl, by rw [ht]; exact hP9, va_K.moved hW.alike hK, hD9⟩, hS.F ht⟩) hS.2.2 dH_isIn_99
set_option maxHeartbeats 400000000 in
set_option maxRecDepth 100000 in
theorem cH_contains_1 (l : Launch) (hl9 : l.stackTraces = false) (D : va_G) (cT : Nat → ClassId) (aK aV : Nat → Nat) (sz : Nat) (a0 : Nat) (a1 : Nat) (a2 : Nat) (a3 : Nat) (a4 : Nat) (a5 : Nat) (v6 : Value) (f7 : Nat → Int64) (v9 : Value) (f10 : Nat → Int64) (f12 : Nat → Int64) (h8 : f7 0 = 0) (h11 : f10 0 = 0) : xMet l yH_contains wyH_contains 3 0 0 64 D cT aK aV sz [.ref a0, .ref a2, .ref a4] [(a0, .inr (2, [.ref a1, .int 1, v6])), (a1, .inl (cT 2, 4096, .inr (.inl f7))), (a2, .inr (2, [.ref a3, .int 1, v9])), (a3, .inl (cT 2, 4096, .inr (.inl f10))), (a4, .inr (2, [.ref a5, .int 0, .int 0])), (a5, .inl (cT 2, 4096, .inr (.inl f12)))] (fun A => va_Qi (fun (r : Int32) (_ : Unit) => r = 0) (fun _ t => xB D xcl cT A [(a0, .inr (2, [.ref a1, .int 1, v6])), (a1, .inl (cT 2, 4096, .inr (.inl f7))), (a2, .inr (2, [.ref a3, .int 1, v9])), (a3, .inl (cT 2, 4096, .inr (.inl f10))), (a4, .inr (2, [.ref a5, .int 1, .int 0])), (a5, .inl (cT 2, 4096, .inr (.inl (vp_updL f12 0 2))))] t) A) := by
  refine Met.ofW (cc := prog_5_method_8_code) (maxL := 3) (ret := (some .int)) (by decide) rfl ?_
  intro p e s m args below meth c s₁ B hml hv
  obtain ⟨rfl, hsz, hZ, hP, hK, hD0⟩ := hv
  have hx := B.exec
  have hb := B.bytes
  have hr := B.returns
  have hts := atoms_spec (ws := wyH_contains) B.pre
  have htx := fun w h => hts w (List.mem_cons_of_mem _ h)
  have hown : s.vm.findClass "ValueBench$Pairs" = some m.cls := findClass_of_methodNamed B.named
  have hlocks := B.notSynchronized
  subst hsz
  have hD := hD0.self (sz := s.heap.size)
  generalize hAe : va_A [(a0, .inr (2, [.ref a1, .int 1, v6])), (a1, .inl (cT 2, 4096, .inr (.inl f7))), (a2, .inr (2, [.ref a3, .int 1, v9])), (a3, .inl (cT 2, 4096, .inr (.inl f10))), (a4, .inr (2, [.ref a5, .int 0, .int 0])), (a5, .inl (cT 2, 4096, .inr (.inl f12)))] s.heap.size = A at hD hZ ⊢
  have hA : ∀ q : Nat, s.heap.size ≤ q → A q := fun q h => by rw [← hAe]; exact Or.inr h
  have hS : va_S A s.heap s.heap [] := va_S.rf
  have hP : va_P D xcl [(a0, .inr (2, [.ref a1, .int 1, v6])), (a1, .inl (cT 2, 4096, .inr (.inl f7))), (a2, .inr (2, [.ref a3, .int 1, v9])), (a3, .inl (cT 2, 4096, .inr (.inl f10))), (a4, .inr (2, [.ref a5, .int 0, .int 0])), (a5, .inl (cT 2, 4096, .inr (.inl f12)))] s.heap := hP
  have hl := lv_entry ([.ref a0, .ref a2, .ref a4]) (n := 3) (Nat.le_of_ble_eq_true rfl)
  rw [lg_entry_eq]
  generalize (lg_sl ([.ref a0, .ref a2, .ref a4]) ++ List.replicate (3 - (lg_sl ([.ref a0, .ref a2, .ref a4])).length) Slot.unset).toArray = ls at hl ⊢
  have hl : lv_has ls 3 [(0, .ref a0), (1, .ref a2), (2, .ref a4)] := hl
  refine lv_aload_n hx hb dH_contains_0 rfl (lv_at hl 0 rfl) ?_
  refine lv_iconst (v := 0) hx hb dH_contains_1 (by decide) ?_
  refine lv_aload_n hx hb dH_contains_2 rfl (lv_at hl 1 rfl) ?_
  refine lv_iconst (v := 0) hx hb dH_contains_3 (by decide) ?_
  obtain ⟨hPc, hDc, hFc⟩ := xcut (wc := [(a0, .inr (2, [.ref a1, .int 1, v6])), (a1, .inl (cT 2, 4096, .inr (.inl f7))), (a2, .inr (2, [.ref a3, .int 1, v9])), (a3, .inl (cT 2, 4096, .inr (.inl f10)))]) hP hD hS hA [0, 1, 2, 3] rfl rfl (by decide)
  refine va_calli (va_runS (As := [.ref a0, .int 0, .ref a2, .int 0]) (rest := []) ⟨hx, hb, hml, hown, htx⟩ (cH_areOfOneKind_1 l hl9 D cT aK aV s.heap.size a0 a1 a2 a3 v6 f7 v9 f10 (by first | rfl | exact h8 | exact h11) (by first | rfl | exact h8 | exact h11)) ⟨callB_of 4 htx (xw_goodC kw_4_163) rfl rfl rfl (htx _ kw_1_27) (htx _ kw_4_161) ⟨by decide, by decide, by decide +kernel⟩ ⟨Nat.le_of_ble_eq_true rfl, Nat.le_of_ble_eq_true rfl⟩, htx _ kw_4_162⟩ ⟨xPre_blind, (fun U hU hW => ⟨rfl, xPre_of hZ hS hFc hPc hDc hK U hU hW⟩)⟩ rfl rfl hl.1 rfl (lv_room (Nat.le_of_ble_eq_true rfl)) dH_contains_4 ⟨Nat.le_of_ble_eq_true rfl, Nat.le_of_ble_eq_true rfl⟩) hS (fun q _ h => hFc q h) hFc (fun r1 u9 t H1 locs ht hvm hr9 hB hz1 hk1 hS => ?_)
  obtain ⟨hP1, hK1, hD1⟩ := hB
  rw [ht] at hP1
  obtain ⟨hP, hD⟩ := xjoin (W := [(a4, .inr (2, [.ref a5, .int 0, .int 0])), (a5, .inl (cT 2, 4096, .inr (.inl f12))), (a0, .inr (2, [.ref a1, .int 1, v6])), (a1, .inl (cT 2, 4096, .inr (.inl f7))), (a2, .inr (2, [.ref a3, .int 1, v9])), (a3, .inl (cT 2, 4096, .inr (.inl f10)))]) hP hD [0, 1, 2, 3] [4, 5] 2 rfl rfl (by decide) (by decide) hk1 hFc hP1 hD1
  generalize H1 = H at hP hS ⊢
  rw [hr9]
  refine W.eq (g2 := F0 m 7 ls [.int 1]) rfl ?_
  refine lv_if_eq (tgt := 25) hx hb dH_contains_7 (by decide) (fun h => ((by revert h; decide : False)).elim) (fun _ => ?_)
  refine lv_aload_n hx hb dH_contains_10 rfl (lv_at hl 0 rfl) ?_
  refine lv_iconst (v := 0) hx hb dH_contains_11 (by decide) ?_
  refine lv_aload_n hx hb dH_contains_12 rfl (lv_at hl 1 rfl) ?_
  refine lv_iconst (v := 0) hx hb dH_contains_13 (by decide) ?_
  refine lv_iconst (v := 0) hx hb dH_contains_14 (by decide) ?_
  obtain ⟨hPc, hDc, hFc⟩ := xcut (wc := [(a0, .inr (2, [.ref a1, .int 1, v6])), (a1, .inl (cT 2, 4096, .inr (.inl f7))), (a2, .inr (2, [.ref a3, .int 1, v9])), (a3, .inl (cT 2, 4096, .inr (.inl f10)))]) hP hD hS hA [2, 3, 4, 5] rfl rfl (by decide)
  refine va_calli (va_runS (As := [.ref a0, .int 0, .ref a2, .int 0, .int 0]) (rest := []) ⟨hx, hb, hml, hown, htx⟩ (cH_isIn_1 l hl9 D cT aK aV H.size a0 a1 a2 a3 v6 f7 v9 f10 (by first | rfl | exact h8 | exact h11) (by first | rfl | exact h8 | exact h11)) ⟨callB_of 5 htx (xw_goodC kw_4_170) rfl rfl rfl (htx _ kw_1_27) (htx _ kw_4_168) ⟨by decide, by decide, by decide +kernel⟩ ⟨Nat.le_of_ble_eq_true rfl, Nat.le_of_ble_eq_true rfl⟩, htx _ kw_4_169⟩ ⟨xPre_blind, (fun U hU hW => ⟨rfl, xPre_of hZ hS hFc hPc hDc hK U hU hW⟩)⟩ rfl rfl hl.1 rfl (lv_room (Nat.le_of_ble_eq_true rfl)) dH_contains_15 ⟨Nat.le_of_ble_eq_true rfl, Nat.le_of_ble_eq_true rfl⟩) hS (fun q _ h => hFc q h) hFc (fun r2 u9 t H1 locs ht hvm hr9 hB hz1 hk1 hS => ?_)
  obtain ⟨hP1, hK1, hD1⟩ := hB
  rw [ht] at hP1
  obtain ⟨hP, hD⟩ := xjoin (W := [(a4, .inr (2, [.ref a5, .int 0, .int 0])), (a5, .inl (cT 2, 4096, .inr (.inl f12))), (a0, .inr (2, [.ref a1, .int 1, v6])), (a1, .inl (cT 2, 4096, .inr (.inl f7))), (a2, .inr (2, [.ref a3, .int 1, v9])), (a3, .inl (cT 2, 4096, .inr (.inl f10)))]) hP hD [2, 3, 4, 5] [0, 1] 2 rfl rfl (by decide) (by decide) hk1 hFc hP1 hD1
  generalize H1 = H at hP hS ⊢
  rw [hr9]
  refine W.eq (g2 := F0 m 18 ls [.int 1]) rfl ?_
  refine lv_aload_n hx hb dH_contains_18 rfl (lv_at hl 2 rfl) ?_
  obtain ⟨hPc, hDc, hFc⟩ := xcut (wc := [(a4, .inr (2, [.ref a5, .int 0, .int 0])), (a5, .inl (cT 2, 4096, .inr (.inl f12)))]) hP hD hS hA [0, 1] rfl rfl (by decide)
  refine va_calli (va_runS (As := [.int 1, .ref a4]) (rest := []) ⟨hx, hb, hml, hown, htx⟩ (cH_truth_0 l hl9 D cT aK aV H.size a4 a5 f12) ⟨callB_of 2 htx (xw_goodC kw_4_154) rfl rfl rfl (htx _ kw_1_27) (htx _ kw_4_152) ⟨by decide, by decide, by decide +kernel⟩ ⟨Nat.le_of_ble_eq_true rfl, Nat.le_of_ble_eq_true rfl⟩, htx _ kw_4_153⟩ ⟨xPre_blind, (fun U hU hW => ⟨rfl, xPre_of hZ hS hFc hPc hDc hK U hU hW⟩)⟩ rfl rfl hl.1 rfl (lv_room (Nat.le_of_ble_eq_true rfl)) dH_contains_19 ⟨Nat.le_of_ble_eq_true rfl, Nat.le_of_ble_eq_true rfl⟩) hS (fun q _ h => hFc q h) hFc (fun r3 u9 t H1 locs ht hvm hr9 hB hz1 hk1 hS => ?_)
  obtain ⟨hP1, hK1, hD1⟩ := hB
  rw [ht] at hP1
  obtain ⟨hP, hD⟩ := xjoin (W := [(a0, .inr (2, [.ref a1, .int 1, v6])), (a1, .inl (cT 2, 4096, .inr (.inl f7))), (a2, .inr (2, [.ref a3, .int 1, v9])), (a3, .inl (cT 2, 4096, .inr (.inl f10))), (a4, .inr (2, [.ref a5, .int 1, .int 0])), (a5, .inl (cT 2, 4096, .inr (.inl (vp_updL f12 0 2))))]) hP hD [0, 1] [2, 3, 4, 5] 4 rfl rfl (by decide) (by decide) hk1 hFc hP1 hD1
  generalize H1 = H at hP hS ⊢
  rw [hr9]
  refine W.eq (g2 := F0 m 22 ls [.int 0]) rfl ?_
  refine lv_goto (tgt := 26) hx hb dH_contains_22 (by decide) ?_
  obtain ⟨hP9, hD9⟩ := xsub (wc := [(a0, .inr (2, [.ref a1, .int 1, v6])), (a1, .inl (cT 2, 4096, .inr (.inl f7))), (a2, .inr (2, [.ref a3, .int 1, v9])), (a3, .inl (cT 2, 4096, .inr (.inl f10))), (a4, .inr (2, [.ref a5, .int 1, .int 0])), (a5, .inl (cT 2, 4096, .inr (.inl (vp_updL f12 0 2))))]) hP hD [0, 1, 2, 3, 4, 5] rfl rfl (by decide)
  refine W.widen (k := 0) (n := 0) (Nat.le_of_ble_eq_true rfl) (Nat.le_of_ble_eq_true rfl) ?_
  exact W.iret (v := 0) hx hb hr (fun t ht hW => ⟨⟨0, (), rfl, rfl, by rw [ht]; exact hP9, va_K.moved hW.alike hK, hD9⟩, hS.F ht⟩) hS.2.2 dH_contains_26
set_option maxHeartbeats 400000000 in
set_option maxRecDepth 100000 in
theorem cH_apply_3 (l : Launch) (hl9 : l.stackTraces = false) (D : va_G) (cT : Nat → ClassId) (aK aV : Nat → Nat) (sz : Nat) (a0 : Nat) (a1 : Nat) (a2 : Nat) (a3 : Nat) (a4 : Nat) (a5 : Nat) (b6 : Nat) (v7 : Value) (f8 : Nat → Int64) (v10 : Value) (f11 : Nat → Int64) (f13 : Nat → Int64) (h9 : f8 0 = 0) (h12 : f11 0 = 0) : xMet l yH_apply wyH_apply 4 0 0 86 D cT aK aV sz [.int 1, .ref a0, .ref a2, .ref b6, .ref a4] [(a0, .inr (2, [.ref a1, .int 1, v7])), (a1, .inl (cT 2, 4096, .inr (.inl f8))), (a2, .inr (2, [.ref a3, .int 1, v10])), (a3, .inl (cT 2, 4096, .inr (.inl f11))), (a4, .inr (2, [.ref a5, .int 0, .int 0])), (a5, .inl (cT 2, 4096, .inr (.inl f13)))] (fun A => va_Qi (fun (r : Int32) (_ : Unit) => r = 0) (fun _ t => xB D xcl cT A [(a0, .inr (2, [.ref a1, .int 1, v7])), (a1, .inl (cT 2, 4096, .inr (.inl f8))), (a2, .inr (2, [.ref a3, .int 1, v10])), (a3, .inl (cT 2, 4096, .inr (.inl f11))), (a4, .inr (2, [.ref a5, .int 1, .int 0])), (a5, .inl (cT 2, 4096, .inr (.inl (vp_updL f13 0 2))))] t) A) := by
  refine Met.ofW (cc := prog_5_method_2_code) (maxL := 5) (ret := (some .int)) (by decide) rfl ?_
  intro p e s m args below meth c s₁ B hml hv
  obtain ⟨rfl, hsz, hZ, hP, hK, hD0⟩ := hv
  have hx := B.exec
  have hb := B.bytes
  have hr := B.returns
  have hts := atoms_spec (ws := wyH_apply) B.pre
  have htx := fun w h => hts w (List.mem_cons_of_mem _ h)
  have hown : s.vm.findClass "ValueBench$Pairs" = some m.cls := findClass_of_methodNamed B.named
  have hlocks := B.notSynchronized
  subst hsz
  have hD := hD0.self (sz := s.heap.size)
  generalize hAe : va_A [(a0, .inr (2, [.ref a1, .int 1, v7])), (a1, .inl (cT 2, 4096, .inr (.inl f8))), (a2, .inr (2, [.ref a3, .int 1, v10])), (a3, .inl (cT 2, 4096, .inr (.inl f11))), (a4, .inr (2, [.ref a5, .int 0, .int 0])), (a5, .inl (cT 2, 4096, .inr (.inl f13)))] s.heap.size = A at hD hZ ⊢
  have hA : ∀ q : Nat, s.heap.size ≤ q → A q := fun q h => by rw [← hAe]; exact Or.inr h
  have hS : va_S A s.heap s.heap [] := va_S.rf
  have hP : va_P D xcl [(a0, .inr (2, [.ref a1, .int 1, v7])), (a1, .inl (cT 2, 4096, .inr (.inl f8))), (a2, .inr (2, [.ref a3, .int 1, v10])), (a3, .inl (cT 2, 4096, .inr (.inl f11))), (a4, .inr (2, [.ref a5, .int 0, .int 0])), (a5, .inl (cT 2, 4096, .inr (.inl f13)))] s.heap := hP
  have hl := lv_entry ([.int 1, .ref a0, .ref a2, .ref b6, .ref a4]) (n := 5) (Nat.le_of_ble_eq_true rfl)
  rw [lg_entry_eq]
  generalize (lg_sl ([.int 1, .ref a0, .ref a2, .ref b6, .ref a4]) ++ List.replicate (5 - (lg_sl ([.int 1, .ref a0, .ref a2, .ref b6, .ref a4])).length) Slot.unset).toArray = ls at hl ⊢
  have hl : lv_has ls 5 [(0, .int 1), (1, .ref a0), (2, .ref a2), (3, .ref b6), (4, .ref a4)] := hl
  refine lv_iload_n hx hb dH_apply_0 rfl (lv_at hl 0 rfl) ?_
  refine lv_tableIn (off := 59) (tgt := 60) hx hb dH_apply_1 (by decide) (by decide) (by decide) (by decide) ?_
  refine lv_aload_n hx hb dH_apply_60 rfl (lv_at hl 1 rfl) ?_
  refine lv_aload_n hx hb dH_apply_61 rfl (lv_at hl 2 rfl) ?_
  refine lv_aload hx hb dH_apply_62 (lv_at hl 4 rfl) ?_
  obtain ⟨hPc, hDc, hFc⟩ := xcut (wc := [(a0, .inr (2, [.ref a1, .int 1, v7])), (a1, .inl (cT 2, 4096, .inr (.inl f8))), (a2, .inr (2, [.ref a3, .int 1, v10])), (a3, .inl (cT 2, 4096, .inr (.inl f11))), (a4, .inr (2, [.ref a5, .int 0, .int 0])), (a5, .inl (cT 2, 4096, .inr (.inl f13)))]) hP hD hS hA [0, 1, 2, 3, 4, 5] rfl rfl (by decide)
  refine va_calli (va_runS (As := [.ref a0, .ref a2, .ref a4]) (rest := []) ⟨hx, hb, hml, hown, htx⟩ (cH_contains_1 l hl9 D cT aK aV s.heap.size a0 a1 a2 a3 a4 a5 v7 f8 v10 f11 f13 (by first | rfl | exact h9 | exact h12) (by first | rfl | exact h9 | exact h12)) ⟨callB_of 3 htx (xw_goodC kw_4_160) rfl rfl rfl (htx _ kw_1_27) (htx _ kw_4_158) ⟨by decide, by decide, by decide +kernel⟩ ⟨Nat.le_of_ble_eq_true rfl, Nat.le_of_ble_eq_true rfl⟩, htx _ kw_4_159⟩ ⟨xPre_blind, (fun U hU hW => ⟨rfl, xPre_of hZ hS hFc hPc hDc hK U hU hW⟩)⟩ rfl rfl hl.1 rfl (lv_room (Nat.le_of_ble_eq_true rfl)) dH_apply_64 ⟨Nat.le_of_ble_eq_true rfl, Nat.le_of_ble_eq_true rfl⟩) hS (fun q _ h => hFc q h) hFc (fun r1 u9 t H1 locs ht hvm hr9 hB hz1 hk1 hS => ?_)
  obtain ⟨hP1, hK1, hD1⟩ := hB
  rw [ht] at hP1
  obtain ⟨hP, hD⟩ := xjoin (W := [(a0, .inr (2, [.ref a1, .int 1, v7])), (a1, .inl (cT 2, 4096, .inr (.inl f8))), (a2, .inr (2, [.ref a3, .int 1, v10])), (a3, .inl (cT 2, 4096, .inr (.inl f11))), (a4, .inr (2, [.ref a5, .int 1, .int 0])), (a5, .inl (cT 2, 4096, .inr (.inl (vp_updL f13 0 2))))]) hP hD [0, 1, 2, 3, 4, 5] [] 0 rfl rfl (by decide) (by decide) hk1 hFc hP1 hD1
  generalize H1 = H at hP hS ⊢
  rw [hr9]
  refine W.eq (g2 := F0 m 67 ls [.int 0]) rfl ?_
  obtain ⟨hP9, hD9⟩ := xsub (wc := [(a0, .inr (2, [.ref a1, .int 1, v7])), (a1, .inl (cT 2, 4096, .inr (.inl f8))), (a2, .inr (2, [.ref a3, .int 1, v10])), (a3, .inl (cT 2, 4096, .inr (.inl f11))), (a4, .inr (2, [.ref a5, .int 1, .int 0])), (a5, .inl (cT 2, 4096, .inr (.inl (vp_updL f13 0 2))))]) hP hD [0, 1, 2, 3, 4, 5] rfl rfl (by decide)
  refine W.widen (k := 0) (n := 0) (Nat.le_of_ble_eq_true rfl) (Nat.le_of_ble_eq_true rfl) ?_
  exact W.iret (v := 0) hx hb hr (fun t ht hW => ⟨⟨0, (), rfl, rfl, by rw [ht]; exact hP9, va_K.moved hW.alike hK, hD9⟩, hS.F ht⟩) hS.2.2 dH_apply_67
set_option maxHeartbeats 400000000 in
set_option maxRecDepth 100000 in
theorem cB_two_11 (l : Launch) (hl9 : l.stackTraces = false) (D : va_G) (cT : Nat → ClassId) (aK aV : Nat → Nat) (sz : Nat) (a0 : Nat) (a1 : Nat) (a2 : Nat) (a3 : Nat) (a4 : Nat) (a5 : Nat) (a6 : Nat) (a7 : Nat) (a8 : Nat) (a9 : Nat) (x10 : Int32) (x15 : Int32) (x20 : Int32) (v25 : Value) (v26 : Value) (v27 : Value) (v28 : Value) (v29 : Value) (v30 : Value) (v31 : Value) (f32 : Nat → Option Nat) (b35 : Nat) (v37 : Value) (f38 : Nat → Int64) (v40 : Value) (f41 : Nat → Int64) (f43 : Nat → Int64) (v44 : Value) (v45 : Value) (f46 : Nat → Int32) (h11 : ¬ x10 < 0) (h12 : ¬ 7 < x10) (h13 : x10 ≤ 7) (h14 : vp_in x10 8) (h16 : ¬ x15 < 0) (h17 : ¬ 7 < x15) (h18 : x15 ≤ 7) (h19 : vp_in x15 8) (h21 : ¬ x20 < 0) (h22 : ¬ 7 < x20) (h23 : x20 ≤ 7) (h24 : vp_in x20 8) (h33 : f32 x15.toNatClampNeg = some a3) (h34 : f32 x20.toNatClampNeg = some a5) (h36 : f32 x10.toNatClampNeg = some b35) (h39 : f38 0 = 0) (h42 : f41 0 = 0) : xMet l yB_two wyB_two 7 0 0 152 D cT aK aV sz [.ref a0, .int x10, .int 1, .int x15, .int x20] [(a0, .inr (0, [v25, v26, .ref a8, .ref a2, v27, .ref a1, v28, v29])), (a1, .inr (2, [.ref a7, v30, v31])), (a2, .inl (cT 3, 8, .inr (.inr (.inr (.inr f32))))), (a3, .inr (2, [.ref a4, .int 1, v37])), (a4, .inl (cT 2, 4096, .inr (.inl f38))), (a5, .inr (2, [.ref a6, .int 1, v40])), (a6, .inl (cT 2, 4096, .inr (.inl f41))), (a7, .inl (cT 2, 4096, .inr (.inl f43))), (a8, .inr (1, [.ref a9, v44, v45])), (a9, .inl (cT 0, 4096, .inl f46))] (fun A => va_Qv (fun _ : Unit => True) (fun _ t => ∃ (y7 : Int32) (y8 : Int32) (y9 : Int32) (y10 : Int32), xB D xcl cT A [(a0, .inr (0, [v25, v26, .ref a8, .ref a2, v27, .ref b35, v28, v29])), (a1, .inr (2, [.ref a7, .int 1, .int 0])), (a2, .inl (cT 3, 8, .inr (.inr (.inr (.inr (va_up f32 x10.toNatClampNeg (some a1))))))), (a3, .inr (2, [.ref a4, .int 1, v37])), (a4, .inl (cT 2, 4096, .inr (.inl f38))), (a5, .inr (2, [.ref a6, .int 1, v40])), (a6, .inl (cT 2, 4096, .inr (.inl f41))), (a7, .inl (cT 2, 4096, .inr (.inl (vp_updL f43 0 2)))), (a8, .inr (1, [.ref a9, .int 4, .int 0])), (a9, .inl (cT 0, 4096, .inl (upd (upd (upd (upd f46 0 (vp_nar .byte y7)) 1 (vp_nar .byte y8)) 2 (vp_nar .byte y9)) 3 (vp_nar .byte y10))))] t) A) := by
  refine Met.ofW (cc := prog_1_method_10_code) (maxL := 5) (ret := none) (by decide) rfl ?_
  intro p e s m args below meth c s₁ B hml hv
  obtain ⟨rfl, hsz, hZ, hP, hK, hD0⟩ := hv
  have hx := B.exec
  have hb := B.bytes
  have hr := B.returns
  have hts := atoms_spec (ws := wyB_two) B.pre
  have htx := fun w h => hts w (List.mem_cons_of_mem _ h)
  have hown : s.vm.findClass "ValueBench" = some m.cls := findClass_of_methodNamed B.named
  have hlocks := B.notSynchronized
  subst hsz
  have hD := hD0.self (sz := s.heap.size)
  generalize hAe : va_A [(a0, .inr (0, [v25, v26, .ref a8, .ref a2, v27, .ref a1, v28, v29])), (a1, .inr (2, [.ref a7, v30, v31])), (a2, .inl (cT 3, 8, .inr (.inr (.inr (.inr f32))))), (a3, .inr (2, [.ref a4, .int 1, v37])), (a4, .inl (cT 2, 4096, .inr (.inl f38))), (a5, .inr (2, [.ref a6, .int 1, v40])), (a6, .inl (cT 2, 4096, .inr (.inl f41))), (a7, .inl (cT 2, 4096, .inr (.inl f43))), (a8, .inr (1, [.ref a9, v44, v45])), (a9, .inl (cT 0, 4096, .inl f46))] s.heap.size = A at hD hZ ⊢
  have hA : ∀ q : Nat, s.heap.size ≤ q → A q := fun q h => by rw [← hAe]; exact Or.inr h
  have hS : va_S A s.heap s.heap [] := va_S.rf
  have hP : va_P D xcl [(a0, .inr (0, [v25, v26, .ref a8, .ref a2, v27, .ref a1, v28, v29])), (a1, .inr (2, [.ref a7, v30, v31])), (a2, .inl (cT 3, 8, .inr (.inr (.inr (.inr f32))))), (a3, .inr (2, [.ref a4, .int 1, v37])), (a4, .inl (cT 2, 4096, .inr (.inl f38))), (a5, .inr (2, [.ref a6, .int 1, v40])), (a6, .inl (cT 2, 4096, .inr (.inl f41))), (a7, .inl (cT 2, 4096, .inr (.inl f43))), (a8, .inr (1, [.ref a9, v44, v45])), (a9, .inl (cT 0, 4096, .inl f46))] s.heap := hP
  have hl := lv_entry ([.ref a0, .int x10, .int 1, .int x15, .int x20]) (n := 5) (Nat.le_of_ble_eq_true rfl)
  rw [lg_entry_eq]
  generalize (lg_sl ([.ref a0, .int x10, .int 1, .int x15, .int x20]) ++ List.replicate (5 - (lg_sl ([.ref a0, .int x10, .int 1, .int x15, .int x20])).length) Slot.unset).toArray = ls at hl ⊢
  have hl : lv_has ls 5 [(0, .ref a0), (1, .int x10), (2, .int 1), (3, .int x15), (4, .int x20)] := hl
  refine lv_iload_n hx hb dB_two_0 rfl (lv_at hl 1 rfl) ?_
  obtain ⟨hPc, hDc, hFc⟩ := xcut (wc := []) hP hD hS hA [] rfl rfl (by decide)
  refine va_calli (va_runS (As := [.int x10]) (rest := []) ⟨hx, hb, hml, hown, htx⟩ (cB_isRegister_2 l hl9 D cT aK aV s.heap.size x10 h11 h12 h13 h14) ⟨callB_of 1 htx (xw_goodC kw_2_18) rfl rfl rfl (htx _ kw_1_1) (htx _ kw_2_16) ⟨by decide, by decide, by decide +kernel⟩ ⟨Nat.le_of_ble_eq_true rfl, Nat.le_of_ble_eq_true rfl⟩, htx _ kw_2_17⟩ ⟨xPre_blind, (fun U hU hW => ⟨rfl, xPre_of hZ hS hFc hPc hDc hK U hU hW⟩)⟩ rfl rfl hl.1 rfl (lv_room (Nat.le_of_ble_eq_true rfl)) dB_two_1 ⟨Nat.le_of_ble_eq_true rfl, Nat.le_of_ble_eq_true rfl⟩) hS (fun q _ h => hFc q h) hFc (fun r1 u9 t H1 locs ht hvm hr9 hB hz1 hk1 hS => ?_)
  obtain ⟨hP1, hK1, hD1⟩ := hB
  rw [ht] at hP1
  obtain ⟨hP, hD⟩ := xjoin (W := [(a0, .inr (0, [v25, v26, .ref a8, .ref a2, v27, .ref a1, v28, v29])), (a1, .inr (2, [.ref a7, v30, v31])), (a2, .inl (cT 3, 8, .inr (.inr (.inr (.inr f32))))), (a3, .inr (2, [.ref a4, .int 1, v37])), (a4, .inl (cT 2, 4096, .inr (.inl f38))), (a5, .inr (2, [.ref a6, .int 1, v40])), (a6, .inl (cT 2, 4096, .inr (.inl f41))), (a7, .inl (cT 2, 4096, .inr (.inl f43))), (a8, .inr (1, [.ref a9, v44, v45])), (a9, .inl (cT 0, 4096, .inl f46))]) hP hD [] [0, 1, 2, 3, 4, 5, 6, 7, 8, 9] 10 rfl rfl (by decide) (by decide) hk1 hFc hP1 hD1
  generalize H1 = H at hP hS ⊢
  rw [hr9]
  refine W.eq (g2 := F0 m 4 ls [.int 1]) rfl ?_
  refine lv_if_eq (tgt := 35) hx hb dB_two_4 (by decide) (fun h => ((by revert h; decide : False)).elim) (fun _ => ?_)
  refine lv_iload_n hx hb dB_two_7 rfl (lv_at hl 2 rfl) ?_
  refine lv_bipush (v := 9) hx hb dB_two_8 (by decide) ?_
  obtain ⟨hPc, hDc, hFc⟩ := xcut (wc := []) hP hD hS hA [] rfl rfl (by decide)
  refine va_calli (va_runS (As := [.int 1, .int 9]) (rest := []) ⟨hx, hb, hml, hown, htx⟩ (cB_isWithin_31 l hl9 D cT aK aV H.size) ⟨callB_of 2 htx (xw_goodC kw_1_218) rfl rfl rfl (htx _ kw_1_1) (htx _ kw_1_216) ⟨by decide, by decide, by decide +kernel⟩ ⟨Nat.le_of_ble_eq_true rfl, Nat.le_of_ble_eq_true rfl⟩, htx _ kw_1_217⟩ ⟨xPre_blind, (fun U hU hW => ⟨rfl, xPre_of hZ hS hFc hPc hDc hK U hU hW⟩)⟩ rfl rfl hl.1 rfl (lv_room (Nat.le_of_ble_eq_true rfl)) dB_two_10 ⟨Nat.le_of_ble_eq_true rfl, Nat.le_of_ble_eq_true rfl⟩) hS (fun q _ h => hFc q h) hFc (fun r2 u9 t H1 locs ht hvm hr9 hB hz1 hk1 hS => ?_)
  obtain ⟨hP1, hK1, hD1⟩ := hB
  rw [ht] at hP1
  obtain ⟨hP, hD⟩ := xjoin (W := [(a0, .inr (0, [v25, v26, .ref a8, .ref a2, v27, .ref a1, v28, v29])), (a1, .inr (2, [.ref a7, v30, v31])), (a2, .inl (cT 3, 8, .inr (.inr (.inr (.inr f32))))), (a3, .inr (2, [.ref a4, .int 1, v37])), (a4, .inl (cT 2, 4096, .inr (.inl f38))), (a5, .inr (2, [.ref a6, .int 1, v40])), (a6, .inl (cT 2, 4096, .inr (.inl f41))), (a7, .inl (cT 2, 4096, .inr (.inl f43))), (a8, .inr (1, [.ref a9, v44, v45])), (a9, .inl (cT 0, 4096, .inl f46))]) hP hD [] [0, 1, 2, 3, 4, 5, 6, 7, 8, 9] 10 rfl rfl (by decide) (by decide) hk1 hFc hP1 hD1
  generalize H1 = H at hP hS ⊢
  rw [hr9]
  refine W.eq (g2 := F0 m 13 ls [.int 1]) rfl ?_
  refine lv_if_eq (tgt := 35) hx hb dB_two_13 (by decide) (fun h => ((by revert h; decide : False)).elim) (fun _ => ?_)
  refine lv_iload_n hx hb dB_two_16 rfl (lv_at hl 3 rfl) ?_
  obtain ⟨hPc, hDc, hFc⟩ := xcut (wc := []) hP hD hS hA [] rfl rfl (by decide)
  refine va_calli (va_runS (As := [.int x15]) (rest := []) ⟨hx, hb, hml, hown, htx⟩ (cB_isRegister_2 l hl9 D cT aK aV H.size x15 h16 h17 h18 h19) ⟨callB_of 1 htx (xw_goodC kw_2_18) rfl rfl rfl (htx _ kw_1_1) (htx _ kw_2_16) ⟨by decide, by decide, by decide +kernel⟩ ⟨Nat.le_of_ble_eq_true rfl, Nat.le_of_ble_eq_true rfl⟩, htx _ kw_2_17⟩ ⟨xPre_blind, (fun U hU hW => ⟨rfl, xPre_of hZ hS hFc hPc hDc hK U hU hW⟩)⟩ rfl rfl hl.1 rfl (lv_room (Nat.le_of_ble_eq_true rfl)) dB_two_17 ⟨Nat.le_of_ble_eq_true rfl, Nat.le_of_ble_eq_true rfl⟩) hS (fun q _ h => hFc q h) hFc (fun r3 u9 t H1 locs ht hvm hr9 hB hz1 hk1 hS => ?_)
  obtain ⟨hP1, hK1, hD1⟩ := hB
  rw [ht] at hP1
  obtain ⟨hP, hD⟩ := xjoin (W := [(a0, .inr (0, [v25, v26, .ref a8, .ref a2, v27, .ref a1, v28, v29])), (a1, .inr (2, [.ref a7, v30, v31])), (a2, .inl (cT 3, 8, .inr (.inr (.inr (.inr f32))))), (a3, .inr (2, [.ref a4, .int 1, v37])), (a4, .inl (cT 2, 4096, .inr (.inl f38))), (a5, .inr (2, [.ref a6, .int 1, v40])), (a6, .inl (cT 2, 4096, .inr (.inl f41))), (a7, .inl (cT 2, 4096, .inr (.inl f43))), (a8, .inr (1, [.ref a9, v44, v45])), (a9, .inl (cT 0, 4096, .inl f46))]) hP hD [] [0, 1, 2, 3, 4, 5, 6, 7, 8, 9] 10 rfl rfl (by decide) (by decide) hk1 hFc hP1 hD1
  generalize H1 = H at hP hS ⊢
  rw [hr9]
  refine W.eq (g2 := F0 m 20 ls [.int 1]) rfl ?_
  refine lv_if_eq (tgt := 35) hx hb dB_two_20 (by decide) (fun h => ((by revert h; decide : False)).elim) (fun _ => ?_)
  refine lv_iload hx hb dB_two_23 (lv_at hl 4 rfl) ?_
  obtain ⟨hPc, hDc, hFc⟩ := xcut (wc := []) hP hD hS hA [] rfl rfl (by decide)
  refine va_calli (va_runS (As := [.int x20]) (rest := []) ⟨hx, hb, hml, hown, htx⟩ (cB_isRegister_2 l hl9 D cT aK aV H.size x20 h21 h22 h23 h24) ⟨callB_of 1 htx (xw_goodC kw_2_18) rfl rfl rfl (htx _ kw_1_1) (htx _ kw_2_16) ⟨by decide, by decide, by decide +kernel⟩ ⟨Nat.le_of_ble_eq_true rfl, Nat.le_of_ble_eq_true rfl⟩, htx _ kw_2_17⟩ ⟨xPre_blind, (fun U hU hW => ⟨rfl, xPre_of hZ hS hFc hPc hDc hK U hU hW⟩)⟩ rfl rfl hl.1 rfl (lv_room (Nat.le_of_ble_eq_true rfl)) dB_two_25 ⟨Nat.le_of_ble_eq_true rfl, Nat.le_of_ble_eq_true rfl⟩) hS (fun q _ h => hFc q h) hFc (fun r4 u9 t H1 locs ht hvm hr9 hB hz1 hk1 hS => ?_)
  obtain ⟨hP1, hK1, hD1⟩ := hB
  rw [ht] at hP1
  obtain ⟨hP, hD⟩ := xjoin (W := [(a0, .inr (0, [v25, v26, .ref a8, .ref a2, v27, .ref a1, v28, v29])), (a1, .inr (2, [.ref a7, v30, v31])), (a2, .inl (cT 3, 8, .inr (.inr (.inr (.inr f32))))), (a3, .inr (2, [.ref a4, .int 1, v37])), (a4, .inl (cT 2, 4096, .inr (.inl f38))), (a5, .inr (2, [.ref a6, .int 1, v40])), (a6, .inl (cT 2, 4096, .inr (.inl f41))), (a7, .inl (cT 2, 4096, .inr (.inl f43))), (a8, .inr (1, [.ref a9, v44, v45])), (a9, .inl (cT 0, 4096, .inl f46))]) hP hD [] [0, 1, 2, 3, 4, 5, 6, 7, 8, 9] 10 rfl rfl (by decide) (by decide) hk1 hFc hP1 hD1
  generalize H1 = H at hP hS ⊢
  rw [hr9]
  refine W.eq (g2 := F0 m 28 ls [.int 1]) rfl ?_
  refine lv_if_eq (tgt := 35) hx hb dB_two_28 (by decide) (fun h => ((by revert h; decide : False)).elim) (fun _ => ?_)
  refine lv_iconst (v := 1) hx hb dB_two_31 (by decide) ?_
  refine lv_goto (tgt := 36) hx hb dB_two_32 (by decide) ?_
  obtain ⟨hPc, hDc, hFc⟩ := xcut (wc := []) hP hD hS hA [] rfl rfl (by decide)
  refine va_callv (va_runS (As := [.int 1]) (rest := []) ⟨hx, hb, hml, hown, htx⟩ (cB_demand_1 l hl9 D cT aK aV H.size) ⟨callB_of 1 htx (xw_goodC kw_1_221) rfl rfl rfl (htx _ kw_1_1) (htx _ kw_1_219) ⟨by decide, by decide, by decide +kernel⟩ ⟨Nat.le_of_ble_eq_true rfl, Nat.le_of_ble_eq_true rfl⟩, htx _ kw_1_220⟩ ⟨xPre_blind, (fun U hU hW => ⟨rfl, xPre_of hZ hS hFc hPc hDc hK U hU hW⟩)⟩ rfl rfl hl.1 rfl (lv_room (Nat.le_of_ble_eq_true rfl)) dB_two_36 ⟨Nat.le_of_ble_eq_true rfl, Nat.le_of_ble_eq_true rfl⟩) hS (fun q _ h => hFc q h) hFc (fun u9 t H1 locs ht hvm hr9 hB hz1 hk1 hS => ?_)
  obtain ⟨hP1, hK1, hD1⟩ := hB
  rw [ht] at hP1
  obtain ⟨hP, hD⟩ := xjoin (W := [(a0, .inr (0, [v25, v26, .ref a8, .ref a2, v27, .ref a1, v28, v29])), (a1, .inr (2, [.ref a7, v30, v31])), (a2, .inl (cT 3, 8, .inr (.inr (.inr (.inr f32))))), (a3, .inr (2, [.ref a4, .int 1, v37])), (a4, .inl (cT 2, 4096, .inr (.inl f38))), (a5, .inr (2, [.ref a6, .int 1, v40])), (a6, .inl (cT 2, 4096, .inr (.inl f41))), (a7, .inl (cT 2, 4096, .inr (.inl f43))), (a8, .inr (1, [.ref a9, v44, v45])), (a9, .inl (cT 0, 4096, .inl f46))]) hP hD [] [0, 1, 2, 3, 4, 5, 6, 7, 8, 9] 10 rfl rfl (by decide) (by decide) hk1 hFc hP1 hD1
  generalize H1 = H at hP hS ⊢
  refine lv_aload_n hx hb dB_two_39 rfl (lv_at hl 0 rfl) ?_
  refine va_get (D := D) (ci := 0) (v := .ref a1) (C := "ValueBench") (T := TB) (N := 8) hx hb htx inB hown hK hP 0 rfl rfl 5 (by decide) (htx _ kw_1_100) (fun _ h9 => h9) rfl dB_two_40 ?_
  obtain ⟨hPc, hDc, hFc⟩ := xcut (wc := [(a1, .inr (2, [.ref a7, v30, v31]))]) hP hD hS hA [1] rfl rfl (by decide)
  refine va_callv (va_runV (C := "ValueBench$Row") (As := []) (rest := []) ⟨hx, hb, hml, hown, htx⟩ (cR_clear_0 l hl9 D cT aK aV H.size a1 (.ref a7) v30 v31) ⟨callB_of 0 htx (xw_goodC kw_2_22) rfl rfl rfl (htx _ kw_1_4) (htx _ kw_2_19) ⟨by decide, by decide, by decide +kernel⟩ ⟨Nat.le_of_ble_eq_true rfl, Nat.le_of_ble_eq_true rfl⟩, (htx _ kw_2_20), (htx _ kw_2_21)⟩ ⟨xPre_blind, va_recv hK hP (ci := 2) rfl (q0 := 1) rfl, (fun U hU hW => ⟨rfl, xPre_of hZ hS hFc hPc hDc hK U hU hW⟩)⟩ rfl rfl hl.1 rfl (lv_room (Nat.le_of_ble_eq_true rfl)) dB_two_43 ⟨Nat.le_of_ble_eq_true rfl, Nat.le_of_ble_eq_true rfl⟩) hS (fun q _ h => hFc q h) hFc (fun u9 t H1 locs ht hvm hr9 hB hz1 hk1 hS => ?_)
  obtain ⟨hP1, hK1, hD1⟩ := hB
  rw [ht] at hP1
  obtain ⟨hP, hD⟩ := xjoin (W := [(a0, .inr (0, [v25, v26, .ref a8, .ref a2, v27, .ref a1, v28, v29])), (a2, .inl (cT 3, 8, .inr (.inr (.inr (.inr f32))))), (a3, .inr (2, [.ref a4, .int 1, v37])), (a4, .inl (cT 2, 4096, .inr (.inl f38))), (a5, .inr (2, [.ref a6, .int 1, v40])), (a6, .inl (cT 2, 4096, .inr (.inl f41))), (a7, .inl (cT 2, 4096, .inr (.inl f43))), (a8, .inr (1, [.ref a9, v44, v45])), (a9, .inl (cT 0, 4096, .inl f46)), (a1, .inr (2, [.ref a7, .int 0, .int 0]))]) hP hD [1] [0, 2, 3, 4, 5, 6, 7, 8, 9] 9 rfl rfl (by decide) (by decide) hk1 hFc hP1 hD1
  generalize H1 = H at hP hS ⊢
  refine lv_aload_n hx hb dB_two_46 rfl (lv_at hl 0 rfl) ?_
  refine lv_iload_n hx hb dB_two_47 rfl (lv_at hl 2 rfl) ?_
  refine lv_aload_n hx hb dB_two_48 rfl (lv_at hl 0 rfl) ?_
  refine va_get (D := D) (ci := 0) (v := .ref a2) (C := "ValueBench") (T := TB) (N := 8) hx hb htx inB hown hK hP 0 rfl rfl 3 (by decide) (htx _ kw_1_98) (fun _ h9 => h9) rfl dB_two_49 ?_
  refine lv_iload_n hx hb dB_two_52 rfl (lv_at hl 3 rfl) ?_
  refine va_aldq hx hb hK hP 1 3 rfl rfl h19 dB_two_53 ?_
  refine W.eq (g2 := F0 m 54 ls [va_rf (f32 x15.toNatClampNeg), .int 1, .ref a0]) rfl ?_
  rw [h33]
  refine W.eq (g2 := F0 m 54 ls [.ref a3, .int 1, .ref a0]) rfl ?_
  refine lv_aload_n hx hb dB_two_54 rfl (lv_at hl 0 rfl) ?_
  refine va_get (D := D) (ci := 0) (v := .ref a2) (C := "ValueBench") (T := TB) (N := 8) hx hb htx inB hown hK hP 0 rfl rfl 3 (by decide) (htx _ kw_1_98) (fun _ h9 => h9) rfl dB_two_55 ?_
  refine lv_iload hx hb dB_two_58 (lv_at hl 4 rfl) ?_
  refine va_aldq hx hb hK hP 1 3 rfl rfl h24 dB_two_60 ?_
  refine W.eq (g2 := F0 m 61 ls [va_rf (f32 x20.toNatClampNeg), .ref a3, .int 1, .ref a0]) rfl ?_
  rw [h34]
  refine W.eq (g2 := F0 m 61 ls [.ref a5, .ref a3, .int 1, .ref a0]) rfl ?_
  refine lv_aload_n hx hb dB_two_61 rfl (lv_at hl 0 rfl) ?_
  refine va_get (D := D) (ci := 0) (v := .ref a8) (C := "ValueBench") (T := TB) (N := 8) hx hb htx inB hown hK hP 0 rfl rfl 2 (by decide) (htx _ kw_1_97) (fun _ h9 => h9) rfl dB_two_62 ?_
  refine lv_aload_n hx hb dB_two_65 rfl (lv_at hl 0 rfl) ?_
  refine va_get (D := D) (ci := 0) (v := .ref a1) (C := "ValueBench") (T := TB) (N := 8) hx hb htx inB hown hK hP 0 rfl rfl 5 (by decide) (htx _ kw_1_100) (fun _ h9 => h9) rfl dB_two_66 ?_
  obtain ⟨hPc, hDc, hFc⟩ := xcut (wc := [(a3, .inr (2, [.ref a4, .int 1, v37])), (a4, .inl (cT 2, 4096, .inr (.inl f38))), (a5, .inr (2, [.ref a6, .int 1, v40])), (a6, .inl (cT 2, 4096, .inr (.inl f41))), (a1, .inr (2, [.ref a7, .int 0, .int 0])), (a7, .inl (cT 2, 4096, .inr (.inl f43)))]) hP hD hS hA [2, 3, 4, 5, 9, 6] rfl rfl (by decide)
  refine va_calli (va_runS (As := [.int 1, .ref a3, .ref a5, .ref a8, .ref a1]) (rest := [.ref a0]) ⟨hx, hb, hml, hown, htx⟩ (cH_apply_3 l hl9 D cT aK aV H.size a3 a4 a5 a6 a1 a7 a8 v37 f38 v40 f41 f43 (by first | rfl | exact h33 | exact h34 | exact h36 | exact h39 | exact h42) (by first | rfl | exact h33 | exact h34 | exact h36 | exact h39 | exact h42)) ⟨callB_of 5 htx (xw_goodC kw_4_146) rfl rfl rfl (htx _ kw_1_27) (htx _ kw_4_144) ⟨by decide, by decide, by decide +kernel⟩ ⟨Nat.le_of_ble_eq_true rfl, Nat.le_of_ble_eq_true rfl⟩, htx _ kw_4_145⟩ ⟨xPre_blind, (fun U hU hW => ⟨rfl, xPre_of hZ hS hFc hPc hDc hK U hU hW⟩)⟩ rfl rfl hl.1 rfl (lv_room (Nat.le_of_ble_eq_true rfl)) dB_two_69 ⟨Nat.le_of_ble_eq_true rfl, Nat.le_of_ble_eq_true rfl⟩) hS (fun q _ h => hFc q h) hFc (fun r5 u9 t H1 locs ht hvm hr9 hB hz1 hk1 hS => ?_)
  obtain ⟨hP1, hK1, hD1⟩ := hB
  rw [ht] at hP1
  obtain ⟨hP, hD⟩ := xjoin (W := [(a0, .inr (0, [v25, v26, .ref a8, .ref a2, v27, .ref a1, v28, v29])), (a2, .inl (cT 3, 8, .inr (.inr (.inr (.inr f32))))), (a8, .inr (1, [.ref a9, v44, v45])), (a9, .inl (cT 0, 4096, .inl f46)), (a3, .inr (2, [.ref a4, .int 1, v37])), (a4, .inl (cT 2, 4096, .inr (.inl f38))), (a5, .inr (2, [.ref a6, .int 1, v40])), (a6, .inl (cT 2, 4096, .inr (.inl f41))), (a1, .inr (2, [.ref a7, .int 1, .int 0])), (a7, .inl (cT 2, 4096, .inr (.inl (vp_updL f43 0 2))))]) hP hD [2, 3, 4, 5, 9, 6] [0, 1, 7, 8] 4 rfl rfl (by decide) (by decide) hk1 hFc hP1 hD1
  generalize H1 = H at hP hS ⊢
  rw [hr9]
  refine W.eq (g2 := F0 m 72 ls [.int 0, .ref a0]) rfl ?_
  obtain ⟨hPc, hDc, hFc⟩ := xcut (wc := []) hP hD hS hA [] rfl rfl (by decide)
  refine va_callv (va_runV (C := "ValueBench") (As := [.int 0]) (rest := []) ⟨hx, hb, hml, hown, htx⟩ (cB_demandDone_0 l hl9 D cT aK aV H.size a0) ⟨callB_of 1 htx (xw_goodC kw_3_222) rfl rfl rfl (htx _ kw_1_1) (htx _ kw_3_219) ⟨by decide, by decide, by decide +kernel⟩ ⟨Nat.le_of_ble_eq_true rfl, Nat.le_of_ble_eq_true rfl⟩, (htx _ kw_3_221), (htx _ kp_B_demandDone)⟩ ⟨xPre_blind, va_recv hK hP (ci := 0) rfl (q0 := 0) rfl, (fun U hU hW => ⟨rfl, xPre_of hZ hS hFc hPc hDc hK U hU hW⟩)⟩ rfl rfl hl.1 rfl (lv_room (Nat.le_of_ble_eq_true rfl)) dB_two_72 ⟨Nat.le_of_ble_eq_true rfl, Nat.le_of_ble_eq_true rfl⟩) hS (fun q _ h => hFc q h) hFc (fun u9 t H1 locs ht hvm hr9 hB hz1 hk1 hS => ?_)
  obtain ⟨hP1, hK1, hD1⟩ := hB
  rw [ht] at hP1
  obtain ⟨hP, hD⟩ := xjoin (W := [(a0, .inr (0, [v25, v26, .ref a8, .ref a2, v27, .ref a1, v28, v29])), (a2, .inl (cT 3, 8, .inr (.inr (.inr (.inr f32))))), (a8, .inr (1, [.ref a9, v44, v45])), (a9, .inl (cT 0, 4096, .inl f46)), (a3, .inr (2, [.ref a4, .int 1, v37])), (a4, .inl (cT 2, 4096, .inr (.inl f38))), (a5, .inr (2, [.ref a6, .int 1, v40])), (a6, .inl (cT 2, 4096, .inr (.inl f41))), (a1, .inr (2, [.ref a7, .int 1, .int 0])), (a7, .inl (cT 2, 4096, .inr (.inl (vp_updL f43 0 2))))]) hP hD [] [0, 1, 2, 3, 4, 5, 6, 7, 8, 9] 10 rfl rfl (by decide) (by decide) hk1 hFc hP1 hD1
  generalize H1 = H at hP hS ⊢
  refine lv_aload_n hx hb dB_two_75 rfl (lv_at hl 0 rfl) ?_
  refine lv_iload_n hx hb dB_two_76 rfl (lv_at hl 1 rfl) ?_
  obtain ⟨hPc, hDc, hFc⟩ := xcut (wc := [(a0, .inr (0, [v25, v26, .ref a8, .ref a2, v27, .ref a1, v28, v29])), (a8, .inr (1, [.ref a9, v44, v45])), (a1, .inr (2, [.ref a7, .int 1, .int 0])), (a7, .inl (cT 2, 4096, .inr (.inl (vp_updL f43 0 2)))), (a9, .inl (cT 0, 4096, .inl f46)), (a2, .inl (cT 3, 8, .inr (.inr (.inr (.inr f32)))))]) hP hD hS hA [0, 2, 8, 9, 3, 1] rfl rfl (by decide)
  refine va_calli (va_runV (C := "ValueBench") (As := [.int x10]) (rest := []) ⟨hx, hb, hml, hown, htx⟩ (cB_keepSpare_1 l hl9 D cT aK aV H.size a0 a8 a1 a7 a9 a2 x10 v25 v26 v27 v28 v29 v44 v45 (vp_updL f43 0 2) f46 f32 b35 h11 h12 h13 h14 (by first | rfl | exact h33 | exact h34 | exact h36 | exact h39 | exact h42) (by first | rfl | exact h33 | exact h34 | exact h36 | exact h39 | exact h42)) ⟨callB_of 1 htx (xw_goodC kw_3_17) rfl rfl rfl (htx _ kw_1_1) (htx _ kw_3_14) ⟨by decide, by decide, by decide +kernel⟩ ⟨Nat.le_of_ble_eq_true rfl, Nat.le_of_ble_eq_true rfl⟩, (htx _ kw_3_16), (htx _ kp_B_keepSpare)⟩ ⟨xPre_blind, va_recv hK hP (ci := 0) rfl (q0 := 0) rfl, (fun U hU hW => ⟨rfl, xPre_of hZ hS hFc hPc hDc hK U hU hW⟩)⟩ rfl rfl hl.1 rfl (lv_room (Nat.le_of_ble_eq_true rfl)) dB_two_77 ⟨Nat.le_of_ble_eq_true rfl, Nat.le_of_ble_eq_true rfl⟩) hS (fun q _ h => hFc q h) hFc (fun r6 u9 t H1 locs ht hvm hr9 hB hz1 hk1 hS => ?_)
  obtain ⟨y7, y8, y9, y10, hP1, hK1, hD1⟩ := hB
  rw [ht] at hP1
  obtain ⟨hP, hD⟩ := xjoin (W := [(a3, .inr (2, [.ref a4, .int 1, v37])), (a4, .inl (cT 2, 4096, .inr (.inl f38))), (a5, .inr (2, [.ref a6, .int 1, v40])), (a6, .inl (cT 2, 4096, .inr (.inl f41))), (a0, .inr (0, [v25, v26, .ref a8, .ref a2, v27, .ref b35, v28, v29])), (a8, .inr (1, [.ref a9, .int 4, .int 0])), (a1, .inr (2, [.ref a7, .int 1, .int 0])), (a7, .inl (cT 2, 4096, .inr (.inl (vp_updL f43 0 2)))), (a9, .inl (cT 0, 4096, .inl (upd (upd (upd (upd f46 0 (vp_nar .byte y7)) 1 (vp_nar .byte y8)) 2 (vp_nar .byte y9)) 3 (vp_nar .byte y10)))), (a2, .inl (cT 3, 8, .inr (.inr (.inr (.inr (va_up f32 x10.toNatClampNeg (some a1)))))))]) hP hD [0, 2, 8, 9, 3, 1] [4, 5, 6, 7] 4 rfl rfl (by decide) (by decide) hk1 hFc hP1 hD1
  generalize H1 = H at hP hS ⊢
  rw [hr9]
  refine W.eq (g2 := F0 m 80 ls [.int 4]) rfl ?_
  refine lv_pop hx hb dB_two_80 rfl ?_
  obtain ⟨hP9, hD9⟩ := xsub (wc := [(a0, .inr (0, [v25, v26, .ref a8, .ref a2, v27, .ref b35, v28, v29])), (a1, .inr (2, [.ref a7, .int 1, .int 0])), (a2, .inl (cT 3, 8, .inr (.inr (.inr (.inr (va_up f32 x10.toNatClampNeg (some a1))))))), (a3, .inr (2, [.ref a4, .int 1, v37])), (a4, .inl (cT 2, 4096, .inr (.inl f38))), (a5, .inr (2, [.ref a6, .int 1, v40])), (a6, .inl (cT 2, 4096, .inr (.inl f41))), (a7, .inl (cT 2, 4096, .inr (.inl (vp_updL f43 0 2)))), (a8, .inr (1, [.ref a9, .int 4, .int 0])), (a9, .inl (cT 0, 4096, .inl (upd (upd (upd (upd f46 0 (vp_nar .byte y7)) 1 (vp_nar .byte y8)) 2 (vp_nar .byte y9)) 3 (vp_nar .byte y10))))]) hP hD [4, 6, 9, 0, 1, 2, 3, 7, 5, 8] rfl rfl (by decide)
  refine W.widen (k := 0) (n := 0) (Nat.le_of_ble_eq_true rfl) (Nat.le_of_ble_eq_true rfl) ?_
  exact W.vret hx hb hr (fun t ht hW => ⟨⟨(), rfl, trivial, y7, y8, y9, y10, by rw [ht]; exact hP9, va_K.moved hW.alike hK, hD9⟩, hS.F ht⟩) hS.2.2 dB_two_81
set_option maxHeartbeats 400000000 in
set_option maxRecDepth 100000 in
theorem cL_two_11 (l : Launch) (hl9 : l.stackTraces = false) (D : va_G) (cT : Nat → ClassId) (aK aV : Nat → Nat) (sz : Nat) (a0 : Nat) (a1 : Nat) (a2 : Nat) (a3 : Nat) (a4 : Nat) (a5 : Nat) (a6 : Nat) (a7 : Nat) (a8 : Nat) (a9 : Nat) (x10 : Int32) (x15 : Int32) (x20 : Int32) (v25 : Value) (v26 : Value) (v27 : Value) (v28 : Value) (v29 : Value) (v30 : Value) (v31 : Value) (f32 : Nat → Option Nat) (b35 : Nat) (v37 : Value) (f38 : Nat → Int64) (v40 : Value) (f41 : Nat → Int64) (f43 : Nat → Int64) (v44 : Value) (v45 : Value) (f46 : Nat → Int32) (h11 : ¬ x10 < 0) (h12 : ¬ 7 < x10) (h13 : x10 ≤ 7) (h14 : vp_in x10 8) (h16 : ¬ x15 < 0) (h17 : ¬ 7 < x15) (h18 : x15 ≤ 7) (h19 : vp_in x15 8) (h21 : ¬ x20 < 0) (h22 : ¬ 7 < x20) (h23 : x20 ≤ 7) (h24 : vp_in x20 8) (h33 : f32 x15.toNatClampNeg = some a3) (h34 : f32 x20.toNatClampNeg = some a5) (h36 : f32 x10.toNatClampNeg = some b35) (h39 : f38 0 = 0) (h42 : f41 0 = 0) : xMet l yL_two wyL_two 8 0 0 176 D cT aK aV sz [.ref a0, .int x10, .int 1, .int x15, .int x20] [(a0, .inr (0, [v25, v26, .ref a8, .ref a2, v27, .ref a1, v28, v29])), (a1, .inr (2, [.ref a7, v30, v31])), (a2, .inl (cT 3, 8, .inr (.inr (.inr (.inr f32))))), (a3, .inr (2, [.ref a4, .int 1, v37])), (a4, .inl (cT 2, 4096, .inr (.inl f38))), (a5, .inr (2, [.ref a6, .int 1, v40])), (a6, .inl (cT 2, 4096, .inr (.inl f41))), (a7, .inl (cT 2, 4096, .inr (.inl f43))), (a8, .inr (1, [.ref a9, v44, v45])), (a9, .inl (cT 0, 4096, .inl f46))] (fun A => va_Qi (fun (r : Int32) (_ : Unit) => r = 0) (fun _ t => ∃ (y1 : Int32) (y2 : Int32) (y3 : Int32) (y4 : Int32), xB D xcl cT A [(a0, .inr (0, [v25, v26, .ref a8, .ref a2, v27, .ref b35, v28, v29])), (a1, .inr (2, [.ref a7, .int 1, .int 0])), (a2, .inl (cT 3, 8, .inr (.inr (.inr (.inr (va_up f32 x10.toNatClampNeg (some a1))))))), (a3, .inr (2, [.ref a4, .int 1, v37])), (a4, .inl (cT 2, 4096, .inr (.inl f38))), (a5, .inr (2, [.ref a6, .int 1, v40])), (a6, .inl (cT 2, 4096, .inr (.inl f41))), (a7, .inl (cT 2, 4096, .inr (.inl (vp_updL f43 0 2)))), (a8, .inr (1, [.ref a9, .int 4, .int 0])), (a9, .inl (cT 0, 4096, .inl (upd (upd (upd (upd f46 0 (vp_nar .byte y1)) 1 (vp_nar .byte y2)) 2 (vp_nar .byte y3)) 3 (vp_nar .byte y4))))] t) A) := by
  refine va_MetW (cc := method_11_code) (maxL := 6) (ret := (some .int)) (hh := [(0, 9, 12, 19), (0, 9, 16, 33), (0, 9, 20, 13)]) (by decide) rfl ?_
  intro p e s m args below meth c s₁ B hml hv
  obtain ⟨rfl, hsz, hZ, hP, hK, hD0⟩ := hv
  have hx := B.exec
  have hb := B.bytes
  have hr := B.returns
  have hts := atoms_spec (ws := wyL_two) B.pre
  have htx := fun w h => hts w (List.mem_cons_of_mem _ h)
  have hown : s.vm.findClass "ValueBenchLaw" = some m.cls := findClass_of_methodNamed B.named
  have hlocks := B.notSynchronized
  subst hsz
  have hD := hD0.self (sz := s.heap.size)
  generalize hAe : va_A [(a0, .inr (0, [v25, v26, .ref a8, .ref a2, v27, .ref a1, v28, v29])), (a1, .inr (2, [.ref a7, v30, v31])), (a2, .inl (cT 3, 8, .inr (.inr (.inr (.inr f32))))), (a3, .inr (2, [.ref a4, .int 1, v37])), (a4, .inl (cT 2, 4096, .inr (.inl f38))), (a5, .inr (2, [.ref a6, .int 1, v40])), (a6, .inl (cT 2, 4096, .inr (.inl f41))), (a7, .inl (cT 2, 4096, .inr (.inl f43))), (a8, .inr (1, [.ref a9, v44, v45])), (a9, .inl (cT 0, 4096, .inl f46))] s.heap.size = A at hD hZ ⊢
  have hA : ∀ q : Nat, s.heap.size ≤ q → A q := fun q h => by rw [← hAe]; exact Or.inr h
  have hS : va_S A s.heap s.heap [] := va_S.rf
  have hP : va_P D xcl [(a0, .inr (0, [v25, v26, .ref a8, .ref a2, v27, .ref a1, v28, v29])), (a1, .inr (2, [.ref a7, v30, v31])), (a2, .inl (cT 3, 8, .inr (.inr (.inr (.inr f32))))), (a3, .inr (2, [.ref a4, .int 1, v37])), (a4, .inl (cT 2, 4096, .inr (.inl f38))), (a5, .inr (2, [.ref a6, .int 1, v40])), (a6, .inl (cT 2, 4096, .inr (.inl f41))), (a7, .inl (cT 2, 4096, .inr (.inl f43))), (a8, .inr (1, [.ref a9, v44, v45])), (a9, .inl (cT 0, 4096, .inl f46))] s.heap := hP
  have hl := lv_entry ([.ref a0, .int x10, .int 1, .int x15, .int x20]) (n := 6) (Nat.le_of_ble_eq_true rfl)
  rw [lg_entry_eq]
  generalize (lg_sl ([.ref a0, .int x10, .int 1, .int x15, .int x20]) ++ List.replicate (6 - (lg_sl ([.ref a0, .int x10, .int 1, .int x15, .int x20])).length) Slot.unset).toArray = ls at hl ⊢
  have hl : lv_has ls 6 [(0, .ref a0), (1, .int x10), (2, .int 1), (3, .int x15), (4, .int x20)] := hl
  have htab := vx_table (x := yL_two) B (hts _ List.mem_cons_self)
  refine lv_aload_n hx hb dL_two_0 rfl (lv_at hl 0 rfl) ?_
  refine lv_iload_n hx hb dL_two_1 rfl (lv_at hl 1 rfl) ?_
  refine lv_iload_n hx hb dL_two_2 rfl (lv_at hl 2 rfl) ?_
  refine lv_iload_n hx hb dL_two_3 rfl (lv_at hl 3 rfl) ?_
  refine lv_iload hx hb dL_two_4 (lv_at hl 4 rfl) ?_
  obtain ⟨hPc, hDc, hFc⟩ := xcut (wc := [(a0, .inr (0, [v25, v26, .ref a8, .ref a2, v27, .ref a1, v28, v29])), (a1, .inr (2, [.ref a7, v30, v31])), (a2, .inl (cT 3, 8, .inr (.inr (.inr (.inr f32))))), (a3, .inr (2, [.ref a4, .int 1, v37])), (a4, .inl (cT 2, 4096, .inr (.inl f38))), (a5, .inr (2, [.ref a6, .int 1, v40])), (a6, .inl (cT 2, 4096, .inr (.inl f41))), (a7, .inl (cT 2, 4096, .inr (.inl f43))), (a8, .inr (1, [.ref a9, v44, v45])), (a9, .inl (cT 0, 4096, .inl f46))]) hP hD hS hA [0, 1, 2, 3, 4, 5, 6, 7, 8, 9] rfl rfl (by decide)
  refine va_callv (va_runV (C := "ValueBench") (As := [.int x10, .int 1, .int x15, .int x20]) (rest := []) ⟨hx, hb, hml, hown, htx⟩ (cB_two_11 l hl9 D cT aK aV s.heap.size a0 a1 a2 a3 a4 a5 a6 a7 a8 a9 x10 x15 x20 v25 v26 v27 v28 v29 v30 v31 f32 b35 v37 f38 v40 f41 f43 v44 v45 f46 h11 h12 h13 h14 h16 h17 h18 h19 h21 h22 h23 h24 (by first | rfl | exact h33 | exact h34 | exact h36 | exact h39 | exact h42) (by first | rfl | exact h33 | exact h34 | exact h36 | exact h39 | exact h42) (by first | rfl | exact h33 | exact h34 | exact h36 | exact h39 | exact h42) (by first | rfl | exact h33 | exact h34 | exact h36 | exact h39 | exact h42) (by first | rfl | exact h33 | exact h34 | exact h36 | exact h39 | exact h42)) ⟨callB_of 4 htx (xw_goodC kw_4_143) rfl rfl rfl (htx _ kw_1_1) (htx _ kw_4_140) ⟨by decide, by decide, by decide +kernel⟩ ⟨Nat.le_of_ble_eq_true rfl, Nat.le_of_ble_eq_true rfl⟩, (htx _ kw_4_141), (htx _ kw_4_142)⟩ ⟨xPre_blind, va_recv hK hP (ci := 0) rfl (q0 := 0) rfl, (fun U hU hW => ⟨rfl, xPre_of hZ hS hFc hPc hDc hK U hU hW⟩)⟩ rfl rfl hl.1 rfl (lv_room (Nat.le_of_ble_eq_true rfl)) dL_two_6 ⟨Nat.le_of_ble_eq_true rfl, Nat.le_of_ble_eq_true rfl⟩) hS (fun q _ h => hFc q h) hFc (fun u9 t H1 locs ht hvm hr9 hB hz1 hk1 hS => ?_)
  obtain ⟨y1, y2, y3, y4, hP1, hK1, hD1⟩ := hB
  rw [ht] at hP1
  obtain ⟨hP, hD⟩ := xjoin (W := [(a0, .inr (0, [v25, v26, .ref a8, .ref a2, v27, .ref b35, v28, v29])), (a1, .inr (2, [.ref a7, .int 1, .int 0])), (a2, .inl (cT 3, 8, .inr (.inr (.inr (.inr (va_up f32 x10.toNatClampNeg (some a1))))))), (a3, .inr (2, [.ref a4, .int 1, v37])), (a4, .inl (cT 2, 4096, .inr (.inl f38))), (a5, .inr (2, [.ref a6, .int 1, v40])), (a6, .inl (cT 2, 4096, .inr (.inl f41))), (a7, .inl (cT 2, 4096, .inr (.inl (vp_updL f43 0 2)))), (a8, .inr (1, [.ref a9, .int 4, .int 0])), (a9, .inl (cT 0, 4096, .inl (upd (upd (upd (upd f46 0 (vp_nar .byte y1)) 1 (vp_nar .byte y2)) 2 (vp_nar .byte y3)) 3 (vp_nar .byte y4))))]) hP hD [0, 1, 2, 3, 4, 5, 6, 7, 8, 9] [] 0 rfl rfl (by decide) (by decide) hk1 hFc hP1 hD1
  generalize H1 = H at hP hS ⊢
  refine lv_goto (tgt := 24) hx hb dL_two_9 (by decide) ?_
  refine lv_iconst (v := 0) hx hb dL_two_24 (by decide) ?_
  obtain ⟨hP9, hD9⟩ := xsub (wc := [(a0, .inr (0, [v25, v26, .ref a8, .ref a2, v27, .ref b35, v28, v29])), (a1, .inr (2, [.ref a7, .int 1, .int 0])), (a2, .inl (cT 3, 8, .inr (.inr (.inr (.inr (va_up f32 x10.toNatClampNeg (some a1))))))), (a3, .inr (2, [.ref a4, .int 1, v37])), (a4, .inl (cT 2, 4096, .inr (.inl f38))), (a5, .inr (2, [.ref a6, .int 1, v40])), (a6, .inl (cT 2, 4096, .inr (.inl f41))), (a7, .inl (cT 2, 4096, .inr (.inl (vp_updL f43 0 2)))), (a8, .inr (1, [.ref a9, .int 4, .int 0])), (a9, .inl (cT 0, 4096, .inl (upd (upd (upd (upd f46 0 (vp_nar .byte y1)) 1 (vp_nar .byte y2)) 2 (vp_nar .byte y3)) 3 (vp_nar .byte y4))))]) hP hD [0, 1, 2, 3, 4, 5, 6, 7, 8, 9] rfl rfl (by decide)
  refine W.widen (k := 0) (n := 0) (Nat.le_of_ble_eq_true rfl) (Nat.le_of_ble_eq_true rfl) ?_
  exact W.iret (v := 0) hx hb hr (fun t ht hW => ⟨⟨0, (), rfl, rfl, y1, y2, y3, y4, by rw [ht]; exact hP9, va_K.moved hW.alike hK, hD9⟩, hS.F ht⟩) hS.2.2 dL_two_25
set_option maxHeartbeats 400000000 in
set_option maxRecDepth 100000 in
theorem cM_finish_36 (l : Launch) (hl9 : l.stackTraces = false) (D : va_G) (cT : Nat → ClassId) (aK aV : Nat → Nat) (sz : Nat) (a0 : Nat) (a1 : Nat) (a2 : Nat) (a3 : Nat) (a4 : Nat) (a5 : Nat) (a6 : Nat) (x7 : Int32) (x12 : Int32) (x17 : Int32) (v22 : Value) (v23 : Value) (v24 : Value) (v25 : Value) (v26 : Value) (v27 : Value) (v28 : Value) (v29 : Value) (v30 : Value) (v31 : Value) (v32 : Value) (v33 : Value) (v34 : Value) (v35 : Value) (v36 : Value) (v37 : Value) (v38 : Value) (v39 : Value) (v40 : Value) (v41 : Value) (v42 : Value) (v43 : Value) (v44 : Value) (v45 : Value) (v46 : Value) (v47 : Value) (v48 : Value) (f49 : Nat → Option Nat) (f53 : Nat → Int32) (f56 : Nat → Int32) (f61 : Nat → Option Nat) (f65 : Nat → Int32) (f70 : Nat → Int32) (h8 : ¬ x7 < 0) (h9 : ¬ 7 < x7) (h10 : x7 ≤ 7) (h11 : vp_in x7 8) (h13 : ¬ x12 < 0) (h14 : ¬ 7 < x12) (h15 : x12 ≤ 7) (h16 : vp_in x12 8) (h18 : ¬ x17 < 0) (h19 : ¬ 7 < x17) (h20 : x17 ≤ 7) (h21 : vp_in x17 8) (h50 : f49 x12.toNatClampNeg = some a3) (h51 : f49 x17.toNatClampNeg = some a5) (h52 : f49 x7.toNatClampNeg = some a3) (h54 : f53 x12.toNatClampNeg = 4) (h55 : f53 x17.toNatClampNeg = 4) (h57 : f56 0 = 110) (h58 : f56 1 = 117) (h59 : f56 2 = 108) (h60 : f56 3 = 108) (h62 : f61 0 = none) (h63 : f61 1 = none) (h64 : f61 2 = none) (h66 : f65 0 = 110) (h67 : f65 1 = 117) (h68 : f65 2 = 108) (h69 : f65 3 = 108) : xMet l yM_finish wyM_finish 8 3 18 175 D cT aK aV sz [.ref a0, .int x7, .int 2, .int 1, .int x12, .int x17] [(a0, .inr (5, [v22, .ref a4, .int 0, v23, v24, v25, v26, v27, v28, v29, v30, v31, v32, v33, v34, v35, v36, v37, v38, v39, v40, .ref a6, v41, v42, .ref a1, .ref a2, v43, v44, v45, v46, v47, v48])), (a1, .inl (cT 5, 8, .inr (.inr (.inr (.inr f49))))), (a2, .inl (cT 1, 8, .inl f53)), (a3, .inl (cT 0, 4096, .inl f56)), (a4, .inl (cT 4, 1024, .inr (.inr (.inr (.inr f61))))), (a5, .inl (cT 0, 4096, .inl f65)), (a6, .inl (cT 0, 1024, .inl f70))] (fun A => va_Qv (fun _ : Unit => True) (fun _ t => ∃ (r1 : Nat) (r2 : Nat) (r3 : Nat) (y5 : Int32) (y6 : Int32) (y7 : Int32) (y8 : Int32), xB D xcl cT A [(a0, .inr (5, [v22, .ref a4, .int 3, v23, v24, v25, v26, v27, v28, v29, v30, v31, v32, v33, v34, .ref a5, .int 4, .int 4, .int 0, .int 100, v40, .ref a6, .int 4, .int 4096, .ref a1, .ref a2, v43, v44, v45, v46, v47, v48])), (a1, .inl (cT 5, 8, .inr (.inr (.inr (.inr f49))))), (a2, .inl (cT 1, 8, .inl (upd f53 x7.toNatClampNeg 4))), (a3, .inl (cT 0, 4096, .inl (upd (upd (upd (upd f56 0 (vp_nar .byte (vp_nar .byte y5))) 1 (vp_nar .byte (vp_nar .byte y6))) 2 (vp_nar .byte (vp_nar .byte y7))) 3 (vp_nar .byte (vp_nar .byte y8))))), (a4, .inl (cT 4, 1024, .inr (.inr (.inr (.inr (va_up (va_up (va_up f61 0 (some r1)) 1 (some r2)) 2 (some r3))))))), (a5, .inl (cT 0, 4096, .inl f65)), (a6, .inl (cT 0, 1024, .inl (upd (upd (upd (upd f70 0 (vp_nar .byte y5)) 1 (vp_nar .byte y6)) 2 (vp_nar .byte y7)) 3 (vp_nar .byte y8)))), (r1, .inr (6, [.int 0, .long 0, .int 0, .int 0, .int 0, .int 1])), (r2, .inr (6, [.int 0, .long 0, .int 0, .int 0, .int 0, .int 1])), (r3, .inr (6, [.int 2, .long 0, .int 0, .int 0, .int 0, .int 1]))] t) A) := by
  refine va_MetW (cc := prog_13_method_90_code) (maxL := 10) (ret := none) (hh := [(0, 128, 131, 83), (0, 128, 149, 86)]) (by decide) rfl ?_
  intro p e s m args below meth c s₁ B hml hv
  obtain ⟨rfl, hsz, hZ, hP, hK, hD0⟩ := hv
  have hx := B.exec
  have hb := B.bytes
  have hr := B.returns
  have hts := atoms_spec (ws := wyM_finish) B.pre
  have htx := fun w h => hts w (List.mem_cons_of_mem _ h)
  have hown : s.vm.findClass "ValueBenchModel" = some m.cls := findClass_of_methodNamed B.named
  have hlocks := B.notSynchronized
  subst hsz
  have hD := hD0.self (sz := s.heap.size)
  generalize hAe : va_A [(a0, .inr (5, [v22, .ref a4, .int 0, v23, v24, v25, v26, v27, v28, v29, v30, v31, v32, v33, v34, v35, v36, v37, v38, v39, v40, .ref a6, v41, v42, .ref a1, .ref a2, v43, v44, v45, v46, v47, v48])), (a1, .inl (cT 5, 8, .inr (.inr (.inr (.inr f49))))), (a2, .inl (cT 1, 8, .inl f53)), (a3, .inl (cT 0, 4096, .inl f56)), (a4, .inl (cT 4, 1024, .inr (.inr (.inr (.inr f61))))), (a5, .inl (cT 0, 4096, .inl f65)), (a6, .inl (cT 0, 1024, .inl f70))] s.heap.size = A at hD hZ ⊢
  have hA : ∀ q : Nat, s.heap.size ≤ q → A q := fun q h => by rw [← hAe]; exact Or.inr h
  have hS : va_S A s.heap s.heap [] := va_S.rf
  have hP : va_P D xcl [(a0, .inr (5, [v22, .ref a4, .int 0, v23, v24, v25, v26, v27, v28, v29, v30, v31, v32, v33, v34, v35, v36, v37, v38, v39, v40, .ref a6, v41, v42, .ref a1, .ref a2, v43, v44, v45, v46, v47, v48])), (a1, .inl (cT 5, 8, .inr (.inr (.inr (.inr f49))))), (a2, .inl (cT 1, 8, .inl f53)), (a3, .inl (cT 0, 4096, .inl f56)), (a4, .inl (cT 4, 1024, .inr (.inr (.inr (.inr f61))))), (a5, .inl (cT 0, 4096, .inl f65)), (a6, .inl (cT 0, 1024, .inl f70))] s.heap := hP
  have hl := lv_entry ([.ref a0, .int x7, .int 2, .int 1, .int x12, .int x17]) (n := 10) (Nat.le_of_ble_eq_true rfl)
  rw [lg_entry_eq]
  generalize (lg_sl ([.ref a0, .int x7, .int 2, .int 1, .int x12, .int x17]) ++ List.replicate (10 - (lg_sl ([.ref a0, .int x7, .int 2, .int 1, .int x12, .int x17])).length) Slot.unset).toArray = ls at hl ⊢
  have hl : lv_has ls 10 [(0, .ref a0), (1, .int x7), (2, .int 2), (3, .int 1), (4, .int x12), (5, .int x17)] := hl
  have htab := vx_table (x := yM_finish) B (hts _ List.mem_cons_self)
  refine lv_aload_n hx hb dM_finish_0 rfl (lv_at hl 0 rfl) ?_
  refine lv_iload hx hb dM_finish_1 (lv_at hl 4 rfl) ?_
  obtain ⟨hPc, hDc, hFc⟩ := xcut (wc := [(a0, .inr (5, [v22, .ref a4, .int 0, v23, v24, v25, v26, v27, v28, v29, v30, v31, v32, v33, v34, v35, v36, v37, v38, v39, v40, .ref a6, v41, v42, .ref a1, .ref a2, v43, v44, v45, v46, v47, v48])), (a1, .inl (cT 5, 8, .inr (.inr (.inr (.inr f49))))), (a2, .inl (cT 1, 8, .inl f53)), (a3, .inl (cT 0, 4096, .inl f56)), (a4, .inl (cT 4, 1024, .inr (.inr (.inr (.inr f61)))))]) hP hD hS hA [0, 1, 2, 3, 4] rfl rfl (by decide)
  refine va_callr (va_runV (C := "ValueBenchModel") (As := [.int x12]) (rest := []) ⟨hx, hb, hml, hown, htx⟩ (cM_register_0 l hl9 D cT aK aV s.heap.size a0 a1 a2 a3 a4 x12 v22 v23 v24 v25 v26 v27 v28 v29 v30 v31 v32 v33 v34 v35 v36 v37 v38 v39 v40 (.ref a6) v41 v42 v43 v44 v45 v46 v47 v48 f49 f53 f56 f61 h13 h14 h15 h16 (by first | rfl | exact h50 | exact h51 | exact h52 | exact h54 | exact h55 | exact h57 | exact h58 | exact h59 | exact h60 | exact h62 | exact h63 | exact h64 | exact h66 | exact h67 | exact h68 | exact h69) (by first | rfl | exact h50 | exact h51 | exact h52 | exact h54 | exact h55 | exact h57 | exact h58 | exact h59 | exact h60 | exact h62 | exact h63 | exact h64 | exact h66 | exact h67 | exact h68 | exact h69) (by first | rfl | exact h50 | exact h51 | exact h52 | exact h54 | exact h55 | exact h57 | exact h58 | exact h59 | exact h60 | exact h62 | exact h63 | exact h64 | exact h66 | exact h67 | exact h68 | exact h69) (by first | rfl | exact h50 | exact h51 | exact h52 | exact h54 | exact h55 | exact h57 | exact h58 | exact h59 | exact h60 | exact h62 | exact h63 | exact h64 | exact h66 | exact h67 | exact h68 | exact h69) (by first | rfl | exact h50 | exact h51 | exact h52 | exact h54 | exact h55 | exact h57 | exact h58 | exact h59 | exact h60 | exact h62 | exact h63 | exact h64 | exact h66 | exact h67 | exact h68 | exact h69) (by first | rfl | exact h50 | exact h51 | exact h52 | exact h54 | exact h55 | exact h57 | exact h58 | exact h59 | exact h60 | exact h62 | exact h63 | exact h64 | exact h66 | exact h67 | exact h68 | exact h69) (by first | rfl | exact h50 | exact h51 | exact h52 | exact h54 | exact h55 | exact h57 | exact h58 | exact h59 | exact h60 | exact h62 | exact h63 | exact h64 | exact h66 | exact h67 | exact h68 | exact h69)) ⟨callB_of 1 htx (xw_goodC kw_6_170) rfl rfl rfl (htx _ kw_1_5) (htx _ kw_6_167) ⟨by decide, by decide, by decide +kernel⟩ ⟨Nat.le_of_ble_eq_true rfl, Nat.le_of_ble_eq_true rfl⟩, (htx _ kw_6_169), (htx _ kp_M_register)⟩ ⟨xPre_blind, va_recv hK hP (ci := 5) rfl (q0 := 0) rfl, (fun U hU hW => ⟨rfl, xPre_of hZ hS hFc hPc hDc hK U hU hW⟩)⟩ rfl rfl hl.1 rfl (lv_room (Nat.le_of_ble_eq_true rfl)) dM_finish_3 ⟨Nat.le_of_ble_eq_true rfl, Nat.le_of_ble_eq_true rfl⟩) hS (fun q _ h => hFc q h) hFc (fun u9 r1 t H1 locs ht hvm hr9 hB hz1 hk1 hS => ?_)
  obtain ⟨hP1, hK1, hD1⟩ := hB
  rw [ht] at hP1
  obtain ⟨hP, hD⟩ := xjoin (W := [(a5, .inl (cT 0, 4096, .inl f65)), (a6, .inl (cT 0, 1024, .inl f70)), (a0, .inr (5, [v22, .ref a4, .int 1, v23, v24, v25, v26, v27, v28, v29, v30, v31, v32, v33, v34, .ref a3, .int 4, .int 4, .int 0, .int 100, v40, .ref a6, v41, v42, .ref a1, .ref a2, v43, v44, v45, v46, v47, v48])), (a1, .inl (cT 5, 8, .inr (.inr (.inr (.inr f49))))), (a2, .inl (cT 1, 8, .inl f53)), (a3, .inl (cT 0, 4096, .inl f56)), (a4, .inl (cT 4, 1024, .inr (.inr (.inr (.inr (va_up f61 0 (some r1))))))), (r1, .inr (6, [.int 0, .long 0, .int 0, .int 0, .int 0, .int 1]))]) hP hD [0, 1, 2, 3, 4] [5, 6] 2 rfl rfl (by decide) (by decide) hk1 hFc hP1 hD1
  generalize H1 = H at hP hS ⊢
  refine W.eq (g2 := F0 m 6 ls [.ref r1]) rfl ?_
  refine lv_astore (lv' := [(6, .ref r1), (0, .ref a0), (1, .int x7), (2, .int 2), (3, .int 1), (4, .int x12), (5, .int x17)]) hx hb dM_finish_6 hl (by decide) rfl (fun ls hl => ?_)
  refine lv_iload_n hx hb dM_finish_8 rfl (lv_at hl 3 rfl) ?_
  refine lv_iconst (v := 1) hx hb dM_finish_9 (by decide) ?_
  refine lv_icmp_ne (tgt := 17) hx hb dM_finish_10 (by decide) (fun _ => ?_) (fun h => ((by revert h; decide : False)).elim)
  refine lv_aload_n hx hb dM_finish_17 rfl (lv_at hl 1 rfl) ?_
  refine lv_iload hx hb dM_finish_18 (lv_at hl 6 rfl) ?_
  obtain ⟨hPc, hDc, hFc⟩ := xcut (wc := [(a0, .inr (5, [v22, .ref a4, .int 1, v23, v24, v25, v26, v27, v28, v29, v30, v31, v32, v33, v34, .ref a3, .int 4, .int 4, .int 0, .int 100, v40, .ref a6, v41, v42, .ref a1, .ref a2, v43, v44, v45, v46, v47, v48])), (a1, .inl (cT 5, 8, .inr (.inr (.inr (.inr f49))))), (a2, .inl (cT 1, 8, .inl f53)), (a5, .inl (cT 0, 4096, .inl f65)), (a4, .inl (cT 4, 1024, .inr (.inr (.inr (.inr (va_up f61 0 (some r1)))))))]) hP hD hS hA [2, 3, 4, 0, 6] rfl rfl (by decide)
  refine va_callr (va_runV (C := "ValueBenchModel") (As := [.int x17]) (rest := []) ⟨hx, hb, hml, hown, htx⟩ (cM_register_4 l hl9 D cT aK aV H.size a0 a1 a2 a5 a4 x17 v22 v23 v24 v25 v26 v27 v28 v29 v30 v31 v32 v33 v34 (.ref a3) (.int 4) (.int 4) (.int 0) (.int 100) v40 (.ref a6) v41 v42 v43 v44 v45 v46 v47 v48 f49 f53 f65 (va_up f61 0 (some r1)) h18 h19 h20 h21 (by first | rfl | exact h50 | exact h51 | exact h52 | exact h54 | exact h55 | exact h57 | exact h58 | exact h59 | exact h60 | exact h63 | exact h64 | exact h66 | exact h67 | exact h68 | exact h69) (by first | rfl | exact h50 | exact h51 | exact h52 | exact h54 | exact h55 | exact h57 | exact h58 | exact h59 | exact h60 | exact h63 | exact h64 | exact h66 | exact h67 | exact h68 | exact h69) (by first | rfl | exact h50 | exact h51 | exact h52 | exact h54 | exact h55 | exact h57 | exact h58 | exact h59 | exact h60 | exact h63 | exact h64 | exact h66 | exact h67 | exact h68 | exact h69) (by first | rfl | exact h50 | exact h51 | exact h52 | exact h54 | exact h55 | exact h57 | exact h58 | exact h59 | exact h60 | exact h63 | exact h64 | exact h66 | exact h67 | exact h68 | exact h69) (by first | rfl | exact h50 | exact h51 | exact h52 | exact h54 | exact h55 | exact h57 | exact h58 | exact h59 | exact h60 | exact h63 | exact h64 | exact h66 | exact h67 | exact h68 | exact h69) (by first | rfl | exact h50 | exact h51 | exact h52 | exact h54 | exact h55 | exact h57 | exact h58 | exact h59 | exact h60 | exact h63 | exact h64 | exact h66 | exact h67 | exact h68 | exact h69) (by first | rfl | exact h50 | exact h51 | exact h52 | exact h54 | exact h55 | exact h57 | exact h58 | exact h59 | exact h60 | exact h63 | exact h64 | exact h66 | exact h67 | exact h68 | exact h69)) ⟨callB_of 1 htx (xw_goodC kw_6_170) rfl rfl rfl (htx _ kw_1_5) (htx _ kw_6_167) ⟨by decide, by decide, by decide +kernel⟩ ⟨Nat.le_of_ble_eq_true rfl, Nat.le_of_ble_eq_true rfl⟩, (htx _ kw_6_169), (htx _ kp_M_register)⟩ ⟨xPre_blind, va_recv hK hP (ci := 5) rfl (q0 := 2) rfl, (fun U hU hW => ⟨rfl, xPre_of hZ hS hFc hPc hDc hK U hU hW⟩)⟩ rfl rfl hl.1 rfl (lv_room (Nat.le_of_ble_eq_true rfl)) dM_finish_20 ⟨Nat.le_of_ble_eq_true rfl, Nat.le_of_ble_eq_true rfl⟩) hS (fun q _ h => hFc q h) hFc (fun u9 r2 t H1 locs ht hvm hr9 hB hz1 hk1 hS => ?_)
  obtain ⟨hP1, hK1, hD1⟩ := hB
  rw [ht] at hP1
  obtain ⟨hP, hD⟩ := xjoin (W := [(a6, .inl (cT 0, 1024, .inl f70)), (a3, .inl (cT 0, 4096, .inl f56)), (r1, .inr (6, [.int 0, .long 0, .int 0, .int 0, .int 0, .int 1])), (a0, .inr (5, [v22, .ref a4, .int 2, v23, v24, v25, v26, v27, v28, v29, v30, v31, v32, v33, v34, .ref a5, .int 4, .int 4, .int 0, .int 100, v40, .ref a6, v41, v42, .ref a1, .ref a2, v43, v44, v45, v46, v47, v48])), (a1, .inl (cT 5, 8, .inr (.inr (.inr (.inr f49))))), (a2, .inl (cT 1, 8, .inl f53)), (a5, .inl (cT 0, 4096, .inl f65)), (a4, .inl (cT 4, 1024, .inr (.inr (.inr (.inr (va_up (va_up f61 0 (some r1)) 1 (some r2))))))), (r2, .inr (6, [.int 0, .long 0, .int 0, .int 0, .int 0, .int 1]))]) hP hD [2, 3, 4, 0, 6] [1, 5, 7] 3 rfl rfl (by decide) (by decide) hk1 hFc hP1 hD1
  generalize H1 = H at hP hS ⊢
  refine W.eq (g2 := F0 m 23 ls [.ref r2]) rfl ?_
  refine lv_astore (lv' := [(7, .ref r2), (6, .ref r1), (0, .ref a0), (1, .int x7), (2, .int 2), (3, .int 1), (4, .int x12), (5, .int x17)]) hx hb dM_finish_23 hl (by decide) rfl (fun ls hl => ?_)
  refine lv_iload_n hx hb dM_finish_25 rfl (lv_at hl 4 rfl) ?_
  refine lv_if_ne (tgt := 43) hx hb dM_finish_26 (by decide) (fun _ => ?_) (fun h => ((by revert h; decide : False)).elim)
  refine lv_iload_n hx hb dM_finish_43 rfl (lv_at hl 4 rfl) ?_
  refine lv_iconst (v := 1) hx hb dM_finish_44 (by decide) ?_
  refine lv_icmp_ne (tgt := 60) hx hb dM_finish_45 (by decide) (fun _ => ?_) (fun h => ((by revert h; decide : False)).elim)
  refine lv_iload_n hx hb dM_finish_60 rfl (lv_at hl 4 rfl) ?_
  refine lv_iconst (v := 2) hx hb dM_finish_61 (by decide) ?_
  refine lv_icmp_ne (tgt := 79) hx hb dM_finish_62 (by decide) (fun h => ((by revert h; decide : False)).elim) (fun _ => ?_)
  refine lv_aload_n hx hb dM_finish_65 rfl (lv_at hl 2 rfl) ?_
  refine lv_iload_n hx hb dM_finish_66 rfl (lv_at hl 5 rfl) ?_
  refine lv_aload hx hb dM_finish_67 (lv_at hl 1 rfl) ?_
  refine lv_aload hx hb dM_finish_69 (lv_at hl 0 rfl) ?_
  obtain ⟨hPc, hDc, hFc⟩ := xcut (wc := [(a0, .inr (5, [v22, .ref a4, .int 2, v23, v24, v25, v26, v27, v28, v29, v30, v31, v32, v33, v34, .ref a5, .int 4, .int 4, .int 0, .int 100, v40, .ref a6, v41, v42, .ref a1, .ref a2, v43, v44, v45, v46, v47, v48])), (r1, .inr (6, [.int 0, .long 0, .int 0, .int 0, .int 0, .int 1])), (r2, .inr (6, [.int 0, .long 0, .int 0, .int 0, .int 0, .int 1])), (a4, .inl (cT 4, 1024, .inr (.inr (.inr (.inr (va_up (va_up f61 0 (some r1)) 1 (some r2)))))))]) hP hD hS hA [3, 2, 8, 7] rfl rfl (by decide)
  refine va_callr (va_runV (C := "ValueBenchModel") (As := [.int 1, .ref r1, .ref r2]) (rest := []) ⟨hx, hb, hml, hown, htx⟩ (cM_two1_1 l hl9 D cT aK aV H.size a0 r1 r2 a4 v22 v23 v24 v25 v26 v27 v28 v29 v30 v31 v32 v33 v34 (.ref a5) (.int 4) (.int 4) (.int 0) (.int 100) v40 (.ref a6) v41 v42 (.ref a1) (.ref a2) v43 v44 v45 v46 v47 v48 (.long 0) (.int 0) (.int 0) (.int 0) (.int 1) (.long 0) (.int 0) (.int 0) (.int 0) (.int 1) (va_up (va_up f61 0 (some r1)) 1 (some r2)) (by first | rfl | exact h50 | exact h51 | exact h52 | exact h54 | exact h55 | exact h57 | exact h58 | exact h59 | exact h60 | exact h64 | exact h66 | exact h67 | exact h68 | exact h69)) ⟨callB_of 3 htx (xw_goodC kw_7_79) rfl rfl rfl (htx _ kw_1_5) (htx _ kw_7_76) ⟨by decide, by decide, by decide +kernel⟩ ⟨Nat.le_of_ble_eq_true rfl, Nat.le_of_ble_eq_true rfl⟩, (htx _ kw_7_78), (htx _ kp_M_two1)⟩ ⟨xPre_blind, va_recv hK hP (ci := 5) rfl (q0 := 3) rfl, (fun U hU hW => ⟨rfl, xPre_of hZ hS hFc hPc hDc hK U hU hW⟩)⟩ rfl rfl hl.1 rfl (lv_room (Nat.le_of_ble_eq_true rfl)) dM_finish_71 ⟨Nat.le_of_ble_eq_true rfl, Nat.le_of_ble_eq_true rfl⟩) hS (fun q _ h => hFc q h) hFc (fun u9 r3 t H1 locs ht hvm hr9 hB hz1 hk1 hS => ?_)
  obtain ⟨hP1, hK1, hD1⟩ := hB
  rw [ht] at hP1
  obtain ⟨hP, hD⟩ := xjoin (W := [(a6, .inl (cT 0, 1024, .inl f70)), (a3, .inl (cT 0, 4096, .inl f56)), (a1, .inl (cT 5, 8, .inr (.inr (.inr (.inr f49))))), (a2, .inl (cT 1, 8, .inl f53)), (a5, .inl (cT 0, 4096, .inl f65)), (a0, .inr (5, [v22, .ref a4, .int 3, v23, v24, v25, v26, v27, v28, v29, v30, v31, v32, v33, v34, .ref a5, .int 4, .int 4, .int 0, .int 100, v40, .ref a6, v41, v42, .ref a1, .ref a2, v43, v44, v45, v46, v47, v48])), (r1, .inr (6, [.int 0, .long 0, .int 0, .int 0, .int 0, .int 1])), (r2, .inr (6, [.int 0, .long 0, .int 0, .int 0, .int 0, .int 1])), (a4, .inl (cT 4, 1024, .inr (.inr (.inr (.inr (va_up (va_up (va_up f61 0 (some r1)) 1 (some r2)) 2 (some r3))))))), (r3, .inr (6, [.int 2, .long 0, .int 0, .int 0, .int 0, .int 1]))]) hP hD [3, 2, 8, 7] [0, 1, 4, 5, 6] 5 rfl rfl (by decide) (by decide) hk1 hFc hP1 hD1
  generalize H1 = H at hP hS ⊢
  refine W.eq (g2 := F0 m 74 ls [.ref r3]) rfl ?_
  refine lv_astore (lv' := [(8, .ref r3), (7, .ref r2), (6, .ref r1), (0, .ref a0), (1, .int x7), (2, .int 2), (3, .int 1), (4, .int x12), (5, .int x17)]) hx hb dM_finish_74 hl (by decide) rfl (fun ls hl => ?_)
  refine lv_goto (tgt := 119) hx hb dM_finish_76 (by decide) ?_
  refine lv_aload_n hx hb dM_finish_119 rfl (lv_at hl 3 rfl) ?_
  refine lv_iload_n hx hb dM_finish_120 rfl (lv_at hl 4 rfl) ?_
  refine lv_aload hx hb dM_finish_121 (lv_at hl 0 rfl) ?_
  obtain ⟨hPc, hDc, hFc⟩ := xcut (wc := [(a0, .inr (5, [v22, .ref a4, .int 3, v23, v24, v25, v26, v27, v28, v29, v30, v31, v32, v33, v34, .ref a5, .int 4, .int 4, .int 0, .int 100, v40, .ref a6, v41, v42, .ref a1, .ref a2, v43, v44, v45, v46, v47, v48])), (r3, .inr (6, [.int 2, .long 0, .int 0, .int 0, .int 0, .int 1])), (a6, .inl (cT 0, 1024, .inl f70)), (a1, .inl (cT 5, 8, .inr (.inr (.inr (.inr f49))))), (a3, .inl (cT 0, 4096, .inl f56)), (a2, .inl (cT 1, 8, .inl f53))]) hP hD hS hA [5, 9, 0, 2, 1, 3] rfl rfl (by decide)
  refine va_calli (va_runV (C := "ValueBenchModel") (As := [.int x7, .ref r3]) (rest := []) ⟨hx, hb, hml, hown, htx⟩ (cM_store_1 l hl9 D cT aK aV H.size a0 r3 a6 a1 a3 a2 x7 v22 (.ref a4) (.int 3) v23 v24 v25 v26 v27 v28 v29 v30 v31 v32 v33 v34 (.ref a5) (.int 4) (.int 4) (.int 0) (.int 100) v40 v41 v42 v43 v44 v45 v46 v47 v48 (.long 0) (.int 0) (.int 0) (.int 0) (.int 1) f70 f49 f56 f53 h8 h9 h10 h11 (by first | rfl | exact h50 | exact h51 | exact h52 | exact h54 | exact h55 | exact h57 | exact h58 | exact h59 | exact h60 | exact h66 | exact h67 | exact h68 | exact h69)) ⟨callB_of 2 htx (xw_goodC kw_6_124) rfl rfl rfl (htx _ kw_1_5) (htx _ kw_6_121) ⟨by decide, by decide, by decide +kernel⟩ ⟨Nat.le_of_ble_eq_true rfl, Nat.le_of_ble_eq_true rfl⟩, (htx _ kw_6_123), (htx _ kp_M_store)⟩ ⟨xPre_blind, va_recv hK hP (ci := 5) rfl (q0 := 5) rfl, (fun U hU hW => ⟨rfl, xPre_of hZ hS hFc hPc hDc hK U hU hW⟩)⟩ rfl rfl hl.1 rfl (lv_room (Nat.le_of_ble_eq_true rfl)) dM_finish_123 ⟨Nat.le_of_ble_eq_true rfl, Nat.le_of_ble_eq_true rfl⟩) hS (fun q _ h => hFc q h) hFc (fun r4 u9 t H1 locs ht hvm hr9 hB hz1 hk1 hS => ?_)
  obtain ⟨y5, y6, y7, y8, hP1, hK1, hD1⟩ := hB
  rw [ht] at hP1
  obtain ⟨hP, hD⟩ := xjoin (W := [(a5, .inl (cT 0, 4096, .inl f65)), (r1, .inr (6, [.int 0, .long 0, .int 0, .int 0, .int 0, .int 1])), (r2, .inr (6, [.int 0, .long 0, .int 0, .int 0, .int 0, .int 1])), (a4, .inl (cT 4, 1024, .inr (.inr (.inr (.inr (va_up (va_up (va_up f61 0 (some r1)) 1 (some r2)) 2 (some r3))))))), (a0, .inr (5, [v22, .ref a4, .int 3, v23, v24, v25, v26, v27, v28, v29, v30, v31, v32, v33, v34, .ref a5, .int 4, .int 4, .int 0, .int 100, v40, .ref a6, .int 4, .int 4096, .ref a1, .ref a2, v43, v44, v45, v46, v47, v48])), (r3, .inr (6, [.int 2, .long 0, .int 0, .int 0, .int 0, .int 1])), (a6, .inl (cT 0, 1024, .inl (upd (upd (upd (upd f70 0 (vp_nar .byte y5)) 1 (vp_nar .byte y6)) 2 (vp_nar .byte y7)) 3 (vp_nar .byte y8)))), (a1, .inl (cT 5, 8, .inr (.inr (.inr (.inr f49))))), (a3, .inl (cT 0, 4096, .inl (upd (upd (upd (upd f56 0 (vp_nar .byte (vp_nar .byte y5))) 1 (vp_nar .byte (vp_nar .byte y6))) 2 (vp_nar .byte (vp_nar .byte y7))) 3 (vp_nar .byte (vp_nar .byte y8))))), (a2, .inl (cT 1, 8, .inl (upd f53 x7.toNatClampNeg 4)))]) hP hD [5, 9, 0, 2, 1, 3] [4, 6, 7, 8] 4 rfl rfl (by decide) (by decide) hk1 hFc hP1 hD1
  generalize H1 = H at hP hS ⊢
  rw [hr9]
  refine W.eq (g2 := F0 m 126 ls [.int 4]) rfl ?_
  refine lv_istore (lv' := [(9, .int 4), (8, .ref r3), (7, .ref r2), (6, .ref r1), (0, .ref a0), (1, .int x7), (2, .int 2), (3, .int 1), (4, .int x12), (5, .int x17)]) hx hb dM_finish_126 hl (by decide) rfl (fun ls hl => ?_)
  refine lv_goto (tgt := 156) hx hb dM_finish_128 (by decide) ?_
  obtain ⟨hP9, hD9⟩ := xsub (wc := [(a0, .inr (5, [v22, .ref a4, .int 3, v23, v24, v25, v26, v27, v28, v29, v30, v31, v32, v33, v34, .ref a5, .int 4, .int 4, .int 0, .int 100, v40, .ref a6, .int 4, .int 4096, .ref a1, .ref a2, v43, v44, v45, v46, v47, v48])), (a1, .inl (cT 5, 8, .inr (.inr (.inr (.inr f49))))), (a2, .inl (cT 1, 8, .inl (upd f53 x7.toNatClampNeg 4))), (a3, .inl (cT 0, 4096, .inl (upd (upd (upd (upd f56 0 (vp_nar .byte (vp_nar .byte y5))) 1 (vp_nar .byte (vp_nar .byte y6))) 2 (vp_nar .byte (vp_nar .byte y7))) 3 (vp_nar .byte (vp_nar .byte y8))))), (a4, .inl (cT 4, 1024, .inr (.inr (.inr (.inr (va_up (va_up (va_up f61 0 (some r1)) 1 (some r2)) 2 (some r3))))))), (a5, .inl (cT 0, 4096, .inl f65)), (a6, .inl (cT 0, 1024, .inl (upd (upd (upd (upd f70 0 (vp_nar .byte y5)) 1 (vp_nar .byte y6)) 2 (vp_nar .byte y7)) 3 (vp_nar .byte y8)))), (r1, .inr (6, [.int 0, .long 0, .int 0, .int 0, .int 0, .int 1])), (r2, .inr (6, [.int 0, .long 0, .int 0, .int 0, .int 0, .int 1])), (r3, .inr (6, [.int 2, .long 0, .int 0, .int 0, .int 0, .int 1]))]) hP hD [4, 7, 9, 8, 3, 0, 6, 1, 2, 5] rfl rfl (by decide)
  refine W.widen (k := 3) (n := 18) (Nat.le_of_ble_eq_true rfl) (Nat.le_of_ble_eq_true rfl) ?_
  exact W.vret hx hb hr (fun t ht hW => ⟨⟨(), rfl, trivial, r1, r2, r3, y5, y6, y7, y8, by rw [ht]; exact hP9, va_K.moved hW.alike hK, hD9⟩, hS.F ht⟩) hS.2.2 dM_finish_156
set_option maxHeartbeats 400000000 in
set_option maxRecDepth 100000 in
theorem cM_two0_12 (l : Launch) (hl9 : l.stackTraces = false) (D : va_G) (cT : Nat → ClassId) (aK aV : Nat → Nat) (sz : Nat) (a0 : Nat) (a1 : Nat) (a2 : Nat) (a3 : Nat) (a4 : Nat) (a5 : Nat) (a6 : Nat) (x7 : Int32) (x12 : Int32) (x17 : Int32) (v22 : Value) (v23 : Value) (v24 : Value) (v25 : Value) (v26 : Value) (v27 : Value) (v28 : Value) (v29 : Value) (v30 : Value) (v31 : Value) (v32 : Value) (v33 : Value) (v34 : Value) (v35 : Value) (v36 : Value) (v37 : Value) (v38 : Value) (v39 : Value) (v40 : Value) (v41 : Value) (v42 : Value) (v43 : Value) (v44 : Value) (v45 : Value) (v46 : Value) (v47 : Value) (v48 : Value) (v49 : Value) (f50 : Nat → Option Nat) (f54 : Nat → Int32) (f57 : Nat → Int32) (f62 : Nat → Option Nat) (f66 : Nat → Int32) (f71 : Nat → Int32) (h8 : ¬ x7 < 0) (h9 : ¬ 7 < x7) (h10 : x7 ≤ 7) (h11 : vp_in x7 8) (h13 : ¬ x12 < 0) (h14 : ¬ 7 < x12) (h15 : x12 ≤ 7) (h16 : vp_in x12 8) (h18 : ¬ x17 < 0) (h19 : ¬ 7 < x17) (h20 : x17 ≤ 7) (h21 : vp_in x17 8) (h51 : f50 x12.toNatClampNeg = some a3) (h52 : f50 x17.toNatClampNeg = some a5) (h53 : f50 x7.toNatClampNeg = some a3) (h55 : f54 x12.toNatClampNeg = 4) (h56 : f54 x17.toNatClampNeg = 4) (h58 : f57 0 = 110) (h59 : f57 1 = 117) (h60 : f57 2 = 108) (h61 : f57 3 = 108) (h63 : f62 0 = none) (h64 : f62 1 = none) (h65 : f62 2 = none) (h67 : f66 0 = 110) (h68 : f66 1 = 117) (h69 : f66 2 = 108) (h70 : f66 3 = 108) : xMet l yM_two0 wyM_two0 9 3 18 204 D cT aK aV sz [.ref a0, .int x7, .int 1, .int x12, .int x17] [(a0, .inr (5, [v22, .ref a4, v23, v24, v25, v26, v27, v28, v29, v30, v31, v32, v33, v34, v35, v36, v37, v38, v39, v40, v41, .ref a6, v42, v43, .ref a1, .ref a2, v44, v45, v46, v47, v48, v49])), (a1, .inl (cT 5, 8, .inr (.inr (.inr (.inr f50))))), (a2, .inl (cT 1, 8, .inl f54)), (a3, .inl (cT 0, 4096, .inl f57)), (a4, .inl (cT 4, 1024, .inr (.inr (.inr (.inr f62))))), (a5, .inl (cT 0, 4096, .inl f66)), (a6, .inl (cT 0, 1024, .inl f71))] (fun A => va_Qv (fun _ : Unit => True) (fun _ t => ∃ (q4 : Nat) (q5 : Nat) (q6 : Nat) (y7 : Int32) (y8 : Int32) (y9 : Int32) (y10 : Int32), xB D xcl cT A [(a0, .inr (5, [.int 0, .ref a4, .int 3, v24, .int 0, v26, v27, .int 0, v29, .int 0, v31, v32, .int 0, v34, v35, .ref a5, .int 4, .int 4, .int 0, .int 100, v41, .ref a6, .int 4, .int 4096, .ref a1, .ref a2, v44, v45, v46, v47, v48, v49])), (a1, .inl (cT 5, 8, .inr (.inr (.inr (.inr f50))))), (a2, .inl (cT 1, 8, .inl (upd f54 x7.toNatClampNeg 4))), (a3, .inl (cT 0, 4096, .inl (upd (upd (upd (upd f57 0 (vp_nar .byte (vp_nar .byte y7))) 1 (vp_nar .byte (vp_nar .byte y8))) 2 (vp_nar .byte (vp_nar .byte y9))) 3 (vp_nar .byte (vp_nar .byte y10))))), (a4, .inl (cT 4, 1024, .inr (.inr (.inr (.inr (va_up (va_up (va_up f62 0 (some q4)) 1 (some q5)) 2 (some q6))))))), (a5, .inl (cT 0, 4096, .inl f66)), (a6, .inl (cT 0, 1024, .inl (upd (upd (upd (upd f71 0 (vp_nar .byte y7)) 1 (vp_nar .byte y8)) 2 (vp_nar .byte y9)) 3 (vp_nar .byte y10)))), (q4, .inr (6, [.int 0, .long 0, .int 0, .int 0, .int 0, .int 1])), (q5, .inr (6, [.int 0, .long 0, .int 0, .int 0, .int 0, .int 1])), (q6, .inr (6, [.int 2, .long 0, .int 0, .int 0, .int 0, .int 1]))] t) A) := by
  refine Met.ofW (cc := prog_13_method_93_code) (maxL := 5) (ret := none) (by decide) rfl ?_
  intro p e s m args below meth c s₁ B hml hv
  obtain ⟨rfl, hsz, hZ, hP, hK, hD0⟩ := hv
  have hx := B.exec
  have hb := B.bytes
  have hr := B.returns
  have hts := atoms_spec (ws := wyM_two0) B.pre
  have htx := fun w h => hts w (List.mem_cons_of_mem _ h)
  have hown : s.vm.findClass "ValueBenchModel" = some m.cls := findClass_of_methodNamed B.named
  have hlocks := B.notSynchronized
  subst hsz
  have hD := hD0.self (sz := s.heap.size)
  generalize hAe : va_A [(a0, .inr (5, [v22, .ref a4, v23, v24, v25, v26, v27, v28, v29, v30, v31, v32, v33, v34, v35, v36, v37, v38, v39, v40, v41, .ref a6, v42, v43, .ref a1, .ref a2, v44, v45, v46, v47, v48, v49])), (a1, .inl (cT 5, 8, .inr (.inr (.inr (.inr f50))))), (a2, .inl (cT 1, 8, .inl f54)), (a3, .inl (cT 0, 4096, .inl f57)), (a4, .inl (cT 4, 1024, .inr (.inr (.inr (.inr f62))))), (a5, .inl (cT 0, 4096, .inl f66)), (a6, .inl (cT 0, 1024, .inl f71))] s.heap.size = A at hD hZ ⊢
  have hA : ∀ q : Nat, s.heap.size ≤ q → A q := fun q h => by rw [← hAe]; exact Or.inr h
  have hS : va_S A s.heap s.heap [] := va_S.rf
  have hP : va_P D xcl [(a0, .inr (5, [v22, .ref a4, v23, v24, v25, v26, v27, v28, v29, v30, v31, v32, v33, v34, v35, v36, v37, v38, v39, v40, v41, .ref a6, v42, v43, .ref a1, .ref a2, v44, v45, v46, v47, v48, v49])), (a1, .inl (cT 5, 8, .inr (.inr (.inr (.inr f50))))), (a2, .inl (cT 1, 8, .inl f54)), (a3, .inl (cT 0, 4096, .inl f57)), (a4, .inl (cT 4, 1024, .inr (.inr (.inr (.inr f62))))), (a5, .inl (cT 0, 4096, .inl f66)), (a6, .inl (cT 0, 1024, .inl f71))] s.heap := hP
  have hl := lv_entry ([.ref a0, .int x7, .int 1, .int x12, .int x17]) (n := 5) (Nat.le_of_ble_eq_true rfl)
  rw [lg_entry_eq]
  generalize (lg_sl ([.ref a0, .int x7, .int 1, .int x12, .int x17]) ++ List.replicate (5 - (lg_sl ([.ref a0, .int x7, .int 1, .int x12, .int x17])).length) Slot.unset).toArray = ls at hl ⊢
  have hl : lv_has ls 5 [(0, .ref a0), (1, .int x7), (2, .int 1), (3, .int x12), (4, .int x17)] := hl
  refine lv_aload_n hx hb dM_two0_0 rfl (lv_at hl 0 rfl) ?_
  obtain ⟨hPc, hDc, hFc⟩ := xcut (wc := [(a0, .inr (5, [v22, .ref a4, v23, v24, v25, v26, v27, v28, v29, v30, v31, v32, v33, v34, v35, v36, v37, v38, v39, v40, v41, .ref a6, v42, v43, .ref a1, .ref a2, v44, v45, v46, v47, v48, v49]))]) hP hD hS hA [0] rfl rfl (by decide)
  refine va_callv (va_runV (C := "ValueBenchModel") (As := []) (rest := []) ⟨hx, hb, hml, hown, htx⟩ (cM_begin_0 l hl9 D cT aK aV s.heap.size a0 v22 (.ref a4) v23 v24 v25 v26 v27 v28 v29 v30 v31 v32 v33 v34 v35 v36 v37 v38 v39 v40 v41 (.ref a6) v42 v43 (.ref a1) (.ref a2) v44 v45 v46 v47 v48 v49) ⟨callB_of 0 htx (xw_goodC kw_5_209) rfl rfl rfl (htx _ kw_1_5) (htx _ kw_5_206) ⟨by decide, by decide, by decide +kernel⟩ ⟨Nat.le_of_ble_eq_true rfl, Nat.le_of_ble_eq_true rfl⟩, (htx _ kw_5_208), (htx _ kp_M_begin)⟩ ⟨xPre_blind, va_recv hK hP (ci := 5) rfl (q0 := 0) rfl, (fun U hU hW => ⟨rfl, xPre_of hZ hS hFc hPc hDc hK U hU hW⟩)⟩ rfl rfl hl.1 rfl (lv_room (Nat.le_of_ble_eq_true rfl)) dM_two0_1 ⟨Nat.le_of_ble_eq_true rfl, Nat.le_of_ble_eq_true rfl⟩) hS (fun q _ h => hFc q h) hFc (fun u9 t H1 locs ht hvm hr9 hB hz1 hk1 hS => ?_)
  obtain ⟨hP1, hK1, hD1⟩ := hB
  rw [ht] at hP1
  obtain ⟨hP, hD⟩ := xjoin (W := [(a1, .inl (cT 5, 8, .inr (.inr (.inr (.inr f50))))), (a2, .inl (cT 1, 8, .inl f54)), (a3, .inl (cT 0, 4096, .inl f57)), (a4, .inl (cT 4, 1024, .inr (.inr (.inr (.inr f62))))), (a5, .inl (cT 0, 4096, .inl f66)), (a6, .inl (cT 0, 1024, .inl f71)), (a0, .inr (5, [.int 0, .ref a4, .int 0, v24, .int 0, v26, v27, .int 0, v29, .int 0, v31, v32, .int 0, v34, v35, v36, v37, v38, v39, v40, v41, .ref a6, .int 0, .int 1000000000, .ref a1, .ref a2, v44, v45, v46, v47, v48, v49]))]) hP hD [0] [1, 2, 3, 4, 5, 6] 6 rfl rfl (by decide) (by decide) hk1 hFc hP1 hD1
  generalize H1 = H at hP hS ⊢
  refine lv_aload_n hx hb dM_two0_4 rfl (lv_at hl 0 rfl) ?_
  refine lv_iload_n hx hb dM_two0_5 rfl (lv_at hl 1 rfl) ?_
  obtain ⟨hPc, hDc, hFc⟩ := xcut (wc := []) hP hD hS hA [] rfl rfl (by decide)
  refine va_calli (va_runV (C := "ValueBenchModel") (As := [.int x7]) (rest := []) ⟨hx, hb, hml, hown, htx⟩ (cM_out_2 l hl9 D cT aK aV H.size a0 x7 h8 h9 h10 h11) ⟨callB_of 1 htx (xw_goodC kw_5_217) rfl rfl rfl (htx _ kw_1_5) (htx _ kw_5_214) ⟨by decide, by decide, by decide +kernel⟩ ⟨Nat.le_of_ble_eq_true rfl, Nat.le_of_ble_eq_true rfl⟩, (htx _ kw_5_216), (htx _ kp_M_out)⟩ ⟨xPre_blind, va_recv hK hP (ci := 5) rfl (q0 := 6) rfl, (fun U hU hW => ⟨rfl, xPre_of hZ hS hFc hPc hDc hK U hU hW⟩)⟩ rfl rfl hl.1 rfl (lv_room (Nat.le_of_ble_eq_true rfl)) dM_two0_6 ⟨Nat.le_of_ble_eq_true rfl, Nat.le_of_ble_eq_true rfl⟩) hS (fun q _ h => hFc q h) hFc (fun r1 u9 t H1 locs ht hvm hr9 hB hz1 hk1 hS => ?_)
  obtain ⟨hP1, hK1, hD1⟩ := hB
  rw [ht] at hP1
  obtain ⟨hP, hD⟩ := xjoin (W := [(a1, .inl (cT 5, 8, .inr (.inr (.inr (.inr f50))))), (a2, .inl (cT 1, 8, .inl f54)), (a3, .inl (cT 0, 4096, .inl f57)), (a4, .inl (cT 4, 1024, .inr (.inr (.inr (.inr f62))))), (a5, .inl (cT 0, 4096, .inl f66)), (a6, .inl (cT 0, 1024, .inl f71)), (a0, .inr (5, [.int 0, .ref a4, .int 0, v24, .int 0, v26, v27, .int 0, v29, .int 0, v31, v32, .int 0, v34, v35, v36, v37, v38, v39, v40, v41, .ref a6, .int 0, .int 1000000000, .ref a1, .ref a2, v44, v45, v46, v47, v48, v49]))]) hP hD [] [0, 1, 2, 3, 4, 5, 6] 7 rfl rfl (by decide) (by decide) hk1 hFc hP1 hD1
  generalize H1 = H at hP hS ⊢
  rw [hr9]
  refine W.eq (g2 := F0 m 9 ls [.int 0]) rfl ?_
  refine lv_if_ne (tgt := 39) hx hb dM_two0_9 (by decide) (fun h => ((by revert h; decide : False)).elim) (fun _ => ?_)
  refine lv_iload_n hx hb dM_two0_12 rfl (lv_at hl 2 rfl) ?_
  refine lv_if_lt (tgt := 39) hx hb dM_two0_13 (by decide) (fun h => ((by revert h; decide : False)).elim) (fun _ => ?_)
  refine lv_iload_n hx hb dM_two0_16 rfl (lv_at hl 2 rfl) ?_
  refine lv_bipush (v := 9) hx hb dM_two0_17 (by decide) ?_
  refine lv_icmp_gt (tgt := 39) hx hb dM_two0_19 (by decide) (fun h => ((by revert h; decide : False)).elim) (fun _ => ?_)
  refine lv_aload_n hx hb dM_two0_22 rfl (lv_at hl 0 rfl) ?_
  refine lv_iload_n hx hb dM_two0_23 rfl (lv_at hl 3 rfl) ?_
  obtain ⟨hPc, hDc, hFc⟩ := xcut (wc := []) hP hD hS hA [] rfl rfl (by decide)
  refine va_calli (va_runV (C := "ValueBenchModel") (As := [.int x12]) (rest := []) ⟨hx, hb, hml, hown, htx⟩ (cM_out_2 l hl9 D cT aK aV H.size a0 x12 h13 h14 h15 h16) ⟨callB_of 1 htx (xw_goodC kw_5_217) rfl rfl rfl (htx _ kw_1_5) (htx _ kw_5_214) ⟨by decide, by decide, by decide +kernel⟩ ⟨Nat.le_of_ble_eq_true rfl, Nat.le_of_ble_eq_true rfl⟩, (htx _ kw_5_216), (htx _ kp_M_out)⟩ ⟨xPre_blind, va_recv hK hP (ci := 5) rfl (q0 := 6) rfl, (fun U hU hW => ⟨rfl, xPre_of hZ hS hFc hPc hDc hK U hU hW⟩)⟩ rfl rfl hl.1 rfl (lv_room (Nat.le_of_ble_eq_true rfl)) dM_two0_24 ⟨Nat.le_of_ble_eq_true rfl, Nat.le_of_ble_eq_true rfl⟩) hS (fun q _ h => hFc q h) hFc (fun r2 u9 t H1 locs ht hvm hr9 hB hz1 hk1 hS => ?_)
  obtain ⟨hP1, hK1, hD1⟩ := hB
  rw [ht] at hP1
  obtain ⟨hP, hD⟩ := xjoin (W := [(a1, .inl (cT 5, 8, .inr (.inr (.inr (.inr f50))))), (a2, .inl (cT 1, 8, .inl f54)), (a3, .inl (cT 0, 4096, .inl f57)), (a4, .inl (cT 4, 1024, .inr (.inr (.inr (.inr f62))))), (a5, .inl (cT 0, 4096, .inl f66)), (a6, .inl (cT 0, 1024, .inl f71)), (a0, .inr (5, [.int 0, .ref a4, .int 0, v24, .int 0, v26, v27, .int 0, v29, .int 0, v31, v32, .int 0, v34, v35, v36, v37, v38, v39, v40, v41, .ref a6, .int 0, .int 1000000000, .ref a1, .ref a2, v44, v45, v46, v47, v48, v49]))]) hP hD [] [0, 1, 2, 3, 4, 5, 6] 7 rfl rfl (by decide) (by decide) hk1 hFc hP1 hD1
  generalize H1 = H at hP hS ⊢
  rw [hr9]
  refine W.eq (g2 := F0 m 27 ls [.int 0]) rfl ?_
  refine lv_if_ne (tgt := 39) hx hb dM_two0_27 (by decide) (fun h => ((by revert h; decide : False)).elim) (fun _ => ?_)
  refine lv_aload_n hx hb dM_two0_30 rfl (lv_at hl 0 rfl) ?_
  refine lv_iload hx hb dM_two0_31 (lv_at hl 4 rfl) ?_
  obtain ⟨hPc, hDc, hFc⟩ := xcut (wc := []) hP hD hS hA [] rfl rfl (by decide)
  refine va_calli (va_runV (C := "ValueBenchModel") (As := [.int x17]) (rest := []) ⟨hx, hb, hml, hown, htx⟩ (cM_out_2 l hl9 D cT aK aV H.size a0 x17 h18 h19 h20 h21) ⟨callB_of 1 htx (xw_goodC kw_5_217) rfl rfl rfl (htx _ kw_1_5) (htx _ kw_5_214) ⟨by decide, by decide, by decide +kernel⟩ ⟨Nat.le_of_ble_eq_true rfl, Nat.le_of_ble_eq_true rfl⟩, (htx _ kw_5_216), (htx _ kp_M_out)⟩ ⟨xPre_blind, va_recv hK hP (ci := 5) rfl (q0 := 6) rfl, (fun U hU hW => ⟨rfl, xPre_of hZ hS hFc hPc hDc hK U hU hW⟩)⟩ rfl rfl hl.1 rfl (lv_room (Nat.le_of_ble_eq_true rfl)) dM_two0_33 ⟨Nat.le_of_ble_eq_true rfl, Nat.le_of_ble_eq_true rfl⟩) hS (fun q _ h => hFc q h) hFc (fun r3 u9 t H1 locs ht hvm hr9 hB hz1 hk1 hS => ?_)
  obtain ⟨hP1, hK1, hD1⟩ := hB
  rw [ht] at hP1
  obtain ⟨hP, hD⟩ := xjoin (W := [(a1, .inl (cT 5, 8, .inr (.inr (.inr (.inr f50))))), (a2, .inl (cT 1, 8, .inl f54)), (a3, .inl (cT 0, 4096, .inl f57)), (a4, .inl (cT 4, 1024, .inr (.inr (.inr (.inr f62))))), (a5, .inl (cT 0, 4096, .inl f66)), (a6, .inl (cT 0, 1024, .inl f71)), (a0, .inr (5, [.int 0, .ref a4, .int 0, v24, .int 0, v26, v27, .int 0, v29, .int 0, v31, v32, .int 0, v34, v35, v36, v37, v38, v39, v40, v41, .ref a6, .int 0, .int 1000000000, .ref a1, .ref a2, v44, v45, v46, v47, v48, v49]))]) hP hD [] [0, 1, 2, 3, 4, 5, 6] 7 rfl rfl (by decide) (by decide) hk1 hFc hP1 hD1
  generalize H1 = H at hP hS ⊢
  rw [hr9]
  refine W.eq (g2 := F0 m 36 ls [.int 0]) rfl ?_
  refine lv_if_eq (tgt := 47) hx hb dM_two0_36 (by decide) (fun _ => ?_) (fun h => ((by revert h; decide : False)).elim)
  refine lv_aload_n hx hb dM_two0_47 rfl (lv_at hl 0 rfl) ?_
  refine lv_iload_n hx hb dM_two0_48 rfl (lv_at hl 1 rfl) ?_
  refine lv_iconst (v := 2) hx hb dM_two0_49 (by decide) ?_
  refine lv_iload_n hx hb dM_two0_50 rfl (lv_at hl 2 rfl) ?_
  refine lv_iload_n hx hb dM_two0_51 rfl (lv_at hl 3 rfl) ?_
  refine lv_iload hx hb dM_two0_52 (lv_at hl 4 rfl) ?_
  obtain ⟨hPc, hDc, hFc⟩ := xcut (wc := [(a0, .inr (5, [.int 0, .ref a4, .int 0, v24, .int 0, v26, v27, .int 0, v29, .int 0, v31, v32, .int 0, v34, v35, v36, v37, v38, v39, v40, v41, .ref a6, .int 0, .int 1000000000, .ref a1, .ref a2, v44, v45, v46, v47, v48, v49])), (a1, .inl (cT 5, 8, .inr (.inr (.inr (.inr f50))))), (a2, .inl (cT 1, 8, .inl f54)), (a3, .inl (cT 0, 4096, .inl f57)), (a4, .inl (cT 4, 1024, .inr (.inr (.inr (.inr f62))))), (a5, .inl (cT 0, 4096, .inl f66)), (a6, .inl (cT 0, 1024, .inl f71))]) hP hD hS hA [6, 0, 1, 2, 3, 4, 5] rfl rfl (by decide)
  refine va_callv (vx_runVW (C := "ValueBenchModel") (As := [.int x7, .int 2, .int 1, .int x12, .int x17]) (rest := []) ⟨hx, hb, hml, hown, htx⟩ (cM_finish_36 l hl9 D cT aK aV H.size a0 a1 a2 a3 a4 a5 a6 x7 x12 x17 (.int 0) v24 (.int 0) v26 v27 (.int 0) v29 (.int 0) v31 v32 (.int 0) v34 v35 v36 v37 v38 v39 v40 v41 (.int 0) (.int 1000000000) v44 v45 v46 v47 v48 v49 f50 f54 f57 f62 f66 f71 h8 h9 h10 h11 h13 h14 h15 h16 h18 h19 h20 h21 (by first | rfl | exact h51 | exact h52 | exact h53 | exact h55 | exact h56 | exact h58 | exact h59 | exact h60 | exact h61 | exact h63 | exact h64 | exact h65 | exact h67 | exact h68 | exact h69 | exact h70) (by first | rfl | exact h51 | exact h52 | exact h53 | exact h55 | exact h56 | exact h58 | exact h59 | exact h60 | exact h61 | exact h63 | exact h64 | exact h65 | exact h67 | exact h68 | exact h69 | exact h70) (by first | rfl | exact h51 | exact h52 | exact h53 | exact h55 | exact h56 | exact h58 | exact h59 | exact h60 | exact h61 | exact h63 | exact h64 | exact h65 | exact h67 | exact h68 | exact h69 | exact h70) (by first | rfl | exact h51 | exact h52 | exact h53 | exact h55 | exact h56 | exact h58 | exact h59 | exact h60 | exact h61 | exact h63 | exact h64 | exact h65 | exact h67 | exact h68 | exact h69 | exact h70) (by first | rfl | exact h51 | exact h52 | exact h53 | exact h55 | exact h56 | exact h58 | exact h59 | exact h60 | exact h61 | exact h63 | exact h64 | exact h65 | exact h67 | exact h68 | exact h69 | exact h70) (by first | rfl | exact h51 | exact h52 | exact h53 | exact h55 | exact h56 | exact h58 | exact h59 | exact h60 | exact h61 | exact h63 | exact h64 | exact h65 | exact h67 | exact h68 | exact h69 | exact h70) (by first | rfl | exact h51 | exact h52 | exact h53 | exact h55 | exact h56 | exact h58 | exact h59 | exact h60 | exact h61 | exact h63 | exact h64 | exact h65 | exact h67 | exact h68 | exact h69 | exact h70) (by first | rfl | exact h51 | exact h52 | exact h53 | exact h55 | exact h56 | exact h58 | exact h59 | exact h60 | exact h61 | exact h63 | exact h64 | exact h65 | exact h67 | exact h68 | exact h69 | exact h70) (by first | rfl | exact h51 | exact h52 | exact h53 | exact h55 | exact h56 | exact h58 | exact h59 | exact h60 | exact h61 | exact h63 | exact h64 | exact h65 | exact h67 | exact h68 | exact h69 | exact h70) (by first | rfl | exact h51 | exact h52 | exact h53 | exact h55 | exact h56 | exact h58 | exact h59 | exact h60 | exact h61 | exact h63 | exact h64 | exact h65 | exact h67 | exact h68 | exact h69 | exact h70) (by first | rfl | exact h51 | exact h52 | exact h53 | exact h55 | exact h56 | exact h58 | exact h59 | exact h60 | exact h61 | exact h63 | exact h64 | exact h65 | exact h67 | exact h68 | exact h69 | exact h70) (by first | rfl | exact h51 | exact h52 | exact h53 | exact h55 | exact h56 | exact h58 | exact h59 | exact h60 | exact h61 | exact h63 | exact h64 | exact h65 | exact h67 | exact h68 | exact h69 | exact h70) (by first | rfl | exact h51 | exact h52 | exact h53 | exact h55 | exact h56 | exact h58 | exact h59 | exact h60 | exact h61 | exact h63 | exact h64 | exact h65 | exact h67 | exact h68 | exact h69 | exact h70) (by first | rfl | exact h51 | exact h52 | exact h53 | exact h55 | exact h56 | exact h58 | exact h59 | exact h60 | exact h61 | exact h63 | exact h64 | exact h65 | exact h67 | exact h68 | exact h69 | exact h70) (by first | rfl | exact h51 | exact h52 | exact h53 | exact h55 | exact h56 | exact h58 | exact h59 | exact h60 | exact h61 | exact h63 | exact h64 | exact h65 | exact h67 | exact h68 | exact h69 | exact h70) (by first | rfl | exact h51 | exact h52 | exact h53 | exact h55 | exact h56 | exact h58 | exact h59 | exact h60 | exact h61 | exact h63 | exact h64 | exact h65 | exact h67 | exact h68 | exact h69 | exact h70)) (xcVW 5 htx (xw_goodC kw_6_195) rfl rfl rfl (htx _ kw_1_5) (htx _ kw_6_192) ⟨by decide, by decide, by decide +kernel⟩ ⟨Nat.le_of_ble_eq_true rfl, Nat.le_of_ble_eq_true rfl⟩ (htx _ kw_6_194) (htx _ kp_M_finish)) ⟨xPre_blind, va_recv hK hP (ci := 5) rfl (q0 := 6) rfl, (fun U hU hW => ⟨rfl, xPre_of hZ hS hFc hPc hDc hK U hU hW⟩)⟩ rfl rfl hl.1 rfl (lv_room (Nat.le_of_ble_eq_true rfl)) dM_two0_54 ⟨Nat.le_of_ble_eq_true rfl, Nat.le_of_ble_eq_true rfl⟩) hS (fun q _ h => hFc q h) hFc (fun u9 t H1 locs ht hvm hr9 hB hz1 hk1 hS => ?_)
  obtain ⟨q4, q5, q6, y7, y8, y9, y10, hP1, hK1, hD1⟩ := hB
  rw [ht] at hP1
  obtain ⟨hP, hD⟩ := xjoin (W := [(a0, .inr (5, [.int 0, .ref a4, .int 3, v24, .int 0, v26, v27, .int 0, v29, .int 0, v31, v32, .int 0, v34, v35, .ref a5, .int 4, .int 4, .int 0, .int 100, v41, .ref a6, .int 4, .int 4096, .ref a1, .ref a2, v44, v45, v46, v47, v48, v49])), (a1, .inl (cT 5, 8, .inr (.inr (.inr (.inr f50))))), (a2, .inl (cT 1, 8, .inl (upd f54 x7.toNatClampNeg 4))), (a3, .inl (cT 0, 4096, .inl (upd (upd (upd (upd f57 0 (vp_nar .byte (vp_nar .byte y7))) 1 (vp_nar .byte (vp_nar .byte y8))) 2 (vp_nar .byte (vp_nar .byte y9))) 3 (vp_nar .byte (vp_nar .byte y10))))), (a4, .inl (cT 4, 1024, .inr (.inr (.inr (.inr (va_up (va_up (va_up f62 0 (some q4)) 1 (some q5)) 2 (some q6))))))), (a5, .inl (cT 0, 4096, .inl f66)), (a6, .inl (cT 0, 1024, .inl (upd (upd (upd (upd f71 0 (vp_nar .byte y7)) 1 (vp_nar .byte y8)) 2 (vp_nar .byte y9)) 3 (vp_nar .byte y10)))), (q4, .inr (6, [.int 0, .long 0, .int 0, .int 0, .int 0, .int 1])), (q5, .inr (6, [.int 0, .long 0, .int 0, .int 0, .int 0, .int 1])), (q6, .inr (6, [.int 2, .long 0, .int 0, .int 0, .int 0, .int 1]))]) hP hD [6, 0, 1, 2, 3, 4, 5] [] 0 rfl rfl (by decide) (by decide) hk1 hFc hP1 hD1
  generalize H1 = H at hP hS ⊢
  obtain ⟨hP9, hD9⟩ := xsub (wc := [(a0, .inr (5, [.int 0, .ref a4, .int 3, v24, .int 0, v26, v27, .int 0, v29, .int 0, v31, v32, .int 0, v34, v35, .ref a5, .int 4, .int 4, .int 0, .int 100, v41, .ref a6, .int 4, .int 4096, .ref a1, .ref a2, v44, v45, v46, v47, v48, v49])), (a1, .inl (cT 5, 8, .inr (.inr (.inr (.inr f50))))), (a2, .inl (cT 1, 8, .inl (upd f54 x7.toNatClampNeg 4))), (a3, .inl (cT 0, 4096, .inl (upd (upd (upd (upd f57 0 (vp_nar .byte (vp_nar .byte y7))) 1 (vp_nar .byte (vp_nar .byte y8))) 2 (vp_nar .byte (vp_nar .byte y9))) 3 (vp_nar .byte (vp_nar .byte y10))))), (a4, .inl (cT 4, 1024, .inr (.inr (.inr (.inr (va_up (va_up (va_up f62 0 (some q4)) 1 (some q5)) 2 (some q6))))))), (a5, .inl (cT 0, 4096, .inl f66)), (a6, .inl (cT 0, 1024, .inl (upd (upd (upd (upd f71 0 (vp_nar .byte y7)) 1 (vp_nar .byte y8)) 2 (vp_nar .byte y9)) 3 (vp_nar .byte y10)))), (q4, .inr (6, [.int 0, .long 0, .int 0, .int 0, .int 0, .int 1])), (q5, .inr (6, [.int 0, .long 0, .int 0, .int 0, .int 0, .int 1])), (q6, .inr (6, [.int 2, .long 0, .int 0, .int 0, .int 0, .int 1]))]) hP hD [0, 1, 2, 3, 4, 5, 6, 7, 8, 9] rfl rfl (by decide)
  refine W.widen (k := 3) (n := 18) (Nat.le_of_ble_eq_true rfl) (Nat.le_of_ble_eq_true rfl) ?_
  exact W.vret hx hb hr (fun t ht hW => ⟨⟨(), rfl, trivial, q4, q5, q6, y7, y8, y9, y10, by rw [ht]; exact hP9, va_K.moved hW.alike hK, hD9⟩, hS.F ht⟩) hS.2.2 dM_two0_57
