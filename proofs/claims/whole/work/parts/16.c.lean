set_option maxHeartbeats 4000000 in
set_option maxRecDepth 100000 in
theorem cB_isWithin_26 (l : Launch) (hl9 : l.stackTraces = false) (D : va_G) (cT : Nat → ClassId) (aK aV : Nat → Nat) (sz : Nat) : Met l yB_isWithin wyB_isWithin ({ frames := 0, cells := 0, slots := 0, locals := 0 }) (va_Pc [.int 2, .int 4] (xPre D xcl cT aK aV sz [])) (va_Qi (fun (r : Int32) (_ : Unit) => r = 1) (fun _ t => xB D xcl cT (va_A [] sz) [] t) (va_A [] sz)) 0 0 (va_A [] sz) := by
  refine Met.ofW (cc := prog_1_method_15_code) (maxL := 2) (ret := (some .boolean)) (by decide) rfl ?_
  intro p e s m args below meth c s₁ B hml hv
  obtain ⟨rfl, hsz, hZ, hP, hK, hD0⟩ := hv
  have hx := B.exec
  have hb := B.bytes
  have hr := B.returns
  have hts := atoms_spec (ws := wyB_isWithin) B.pre
  have htx := fun w h => hts w (List.mem_cons_of_mem _ h)
  have hown : s.vm.findClass "ValueBench" = some m.cls := findClass_of_methodNamed B.named
  have hlocks := B.notSynchronized
  subst hsz
  have hD := hD0.self (sz := s.heap.size)
  generalize hAe : va_A [] s.heap.size = A at hD hZ ⊢
  have hA : ∀ q : Nat, s.heap.size ≤ q → A q := fun q h => by rw [← hAe]; exact Or.inr h
  have hS : va_S A s.heap s.heap [] := va_S.rf
  have hP : va_P D xcl [] s.heap := hP
  have hl := lv_entry ([.int 2, .int 4]) (n := 2) (Nat.le_of_ble_eq_true rfl)
  rw [lg_entry_eq]
  generalize (lg_sl ([.int 2, .int 4]) ++ List.replicate (2 - (lg_sl ([.int 2, .int 4])).length) Slot.unset).toArray = ls at hl ⊢
  have hl : lv_has ls 2 [(0, .int 2), (1, .int 4)] := hl
  refine lv_iload_n hx hb dB_isWithin_0 rfl (lv_at hl 0 rfl) ?_
  refine lv_if_lt (tgt := 13) hx hb dB_isWithin_1 (by decide) (fun h => ((by revert h; decide : False)).elim) (fun _ => ?_)
  refine lv_iload_n hx hb dB_isWithin_4 rfl (lv_at hl 0 rfl) ?_
  refine lv_iload_n hx hb dB_isWithin_5 rfl (lv_at hl 1 rfl) ?_
  refine lv_icmp_gt (tgt := 13) hx hb dB_isWithin_6 (by decide) (fun h => ((by revert h; decide : False)).elim) (fun _ => ?_)
  refine lv_iconst (v := 1) hx hb dB_isWithin_9 (by decide) ?_
  refine lv_goto (tgt := 14) hx hb dB_isWithin_10 (by decide) ?_
  have hP9 := hP.sub (ws' := []) [] rfl
  have hD9 := hD.sub (ws' := []) [] (by decide) rfl
  refine W.widen (k := 0) (n := 0) (Nat.le_of_ble_eq_true rfl) (Nat.le_of_ble_eq_true rfl) ?_
  exact W.zret (v := 1) hx hb hr rfl (fun t ht hW => ⟨⟨1, (), rfl, rfl, by rw [ht]; exact hP9, va_K.moved hW.alike hK, hD9⟩, hS.F ht⟩) hS.2.2 dB_isWithin_14
set_option maxHeartbeats 4000000 in
set_option maxRecDepth 100000 in
theorem cA_times_0 (l : Launch) (hl9 : l.stackTraces = false) (D : va_G) (cT : Nat → ClassId) (aK aV : Nat → Nat) (sz : Nat) (a0 : Nat) (a1 : Nat) (b2 : Nat) (b3 : Nat) (v4 : Value) (f5 : Nat → Int64) (h6 : f5 0 = 0) : Met l yA_times wyA_times ({ frames := 2, cells := 0, slots := 0, locals := 43 }) (va_Pc [.ref a0, .ref b2, .ref b3] (xPre D xcl cT aK aV sz [(a0, .inr (2, [.ref a1, .int 1, v4])), (a1, .inl (cT 2, 4096, .inr (.inl f5)))])) (va_Qi (fun (r : Int32) (_ : Unit) => r = 1) (fun _ t => xB D xcl cT (va_A [(a0, .inr (2, [.ref a1, .int 1, v4])), (a1, .inl (cT 2, 4096, .inr (.inl f5)))] sz) [(a0, .inr (2, [.ref a1, .int 1, v4])), (a1, .inl (cT 2, 4096, .inr (.inl f5)))] t) (va_A [(a0, .inr (2, [.ref a1, .int 1, v4])), (a1, .inl (cT 2, 4096, .inr (.inl f5)))] sz)) 0 0 (va_A [(a0, .inr (2, [.ref a1, .int 1, v4])), (a1, .inl (cT 2, 4096, .inr (.inl f5)))] sz) := by
  refine Met.ofW (cc := prog_3_method_12_code) (maxL := 3) (ret := (some .int)) (by decide) rfl ?_
  intro p e s m args below meth c s₁ B hml hv
  obtain ⟨rfl, hsz, hZ, hP, hK, hD0⟩ := hv
  have hx := B.exec
  have hb := B.bytes
  have hr := B.returns
  have hts := atoms_spec (ws := wyA_times) B.pre
  have htx := fun w h => hts w (List.mem_cons_of_mem _ h)
  have hown : s.vm.findClass "ValueBench$Operators" = some m.cls := findClass_of_methodNamed B.named
  have hlocks := B.notSynchronized
  subst hsz
  have hD := hD0.self (sz := s.heap.size)
  generalize hAe : va_A [(a0, .inr (2, [.ref a1, .int 1, v4])), (a1, .inl (cT 2, 4096, .inr (.inl f5)))] s.heap.size = A at hD hZ ⊢
  have hA : ∀ q : Nat, s.heap.size ≤ q → A q := fun q h => by rw [← hAe]; exact Or.inr h
  have hS : va_S A s.heap s.heap [] := va_S.rf
  have hP : va_P D xcl [(a0, .inr (2, [.ref a1, .int 1, v4])), (a1, .inl (cT 2, 4096, .inr (.inl f5)))] s.heap := hP
  have hl := lv_entry ([.ref a0, .ref b2, .ref b3]) (n := 3) (Nat.le_of_ble_eq_true rfl)
  rw [lg_entry_eq]
  generalize (lg_sl ([.ref a0, .ref b2, .ref b3]) ++ List.replicate (3 - (lg_sl ([.ref a0, .ref b2, .ref b3])).length) Slot.unset).toArray = ls at hl ⊢
  have hl : lv_has ls 3 [(0, .ref a0), (1, .ref b2), (2, .ref b3)] := hl
  refine lv_aload_n hx hb dA_times_0 rfl (lv_at hl 0 rfl) ?_
  refine lv_iconst (v := 0) hx hb dA_times_1 (by decide) ?_
  refine lv_bipush (v := 6) hx hb dA_times_2 (by decide) ?_
  have hPc := hP.sub (ws' := [(a0, .inr (2, [.ref a1, .int 1, v4])), (a1, .inl (cT 2, 4096, .inr (.inl f5)))]) [0, 1] rfl
  have hDc := hD.sub (ws' := [(a0, .inr (2, [.ref a1, .int 1, v4])), (a1, .inl (cT 2, 4096, .inr (.inl f5)))]) [0, 1] (by decide) rfl
  have hFc := va_free (wc := [(a0, .inr (2, [.ref a1, .int 1, v4])), (a1, .inl (cT 2, 4096, .inr (.inl f5)))]) hD hS hA [0, 1] rfl
  refine va_calli (va_runV (C := "ValueBench$Row") (As := [.int 0, .int 6]) (rest := []) ⟨hx, hb, hml, hown, htx⟩ (cR_is_1 l hl9 D cT aK aV s.heap.size a0 a1 v4 f5 (by first | rfl | exact h6)) ⟨callB_of 2 htx (xw_goodC kw_3_75) rfl rfl rfl (htx _ kw_1_4) (htx _ kw_3_106) ⟨by decide, by decide, by decide +kernel⟩ ⟨Nat.le_of_ble_eq_true rfl, Nat.le_of_ble_eq_true rfl⟩, (htx _ kw_3_73), (htx _ kw_3_74)⟩ ⟨xPre_blind, va_recv hK hP (ci := 2) rfl (q0 := 0) rfl, (fun U hU hW => ⟨rfl, xPre_of hZ hS hFc hPc hDc hK U hU hW⟩)⟩ rfl rfl hl.1 rfl (lv_room (Nat.le_of_ble_eq_true rfl)) dA_times_4 ⟨Nat.le_of_ble_eq_true rfl, Nat.le_of_ble_eq_true rfl⟩) hS (fun q _ h => hFc q h) hFc (fun r1 u9 t H1 locs ht hvm hr9 hB hz1 hk1 hS => ?_)
  obtain ⟨hP1, hK1, hD1⟩ := hB
  rw [ht] at hP1
  obtain ⟨hP, hD⟩ := va_join (wr := []) (w1 := [(a0, .inr (2, [.ref a1, .int 1, v4])), (a1, .inl (cT 2, 4096, .inr (.inl f5)))]) hP hD [0, 1] [] rfl rfl (by decide) (by decide) hk1 hFc hP1 hD1
  generalize H1 = H at hP hS ⊢
  have hP : va_P D xcl [(a0, .inr (2, [.ref a1, .int 1, v4])), (a1, .inl (cT 2, 4096, .inr (.inl f5)))] H := hP
  have hD : va_D A [(a0, .inr (2, [.ref a1, .int 1, v4])), (a1, .inl (cT 2, 4096, .inr (.inl f5)))] := hD
  rw [hr9]
  refine W.eq (g2 := F0 m 7 ls [.int 0]) rfl ?_
  refine lv_if_eq (tgt := 32) hx hb dA_times_7 (by decide) (fun _ => ?_) (fun h => ((by revert h; decide : False)).elim)
  refine lv_aload_n hx hb dA_times_32 rfl (lv_at hl 0 rfl) ?_
  refine lv_iconst (v := 0) hx hb dA_times_33 (by decide) ?_
  refine lv_iconst (v := 4) hx hb dA_times_34 (by decide) ?_
  have hPc := hP.sub (ws' := [(a0, .inr (2, [.ref a1, .int 1, v4])), (a1, .inl (cT 2, 4096, .inr (.inl f5)))]) [0, 1] rfl
  have hDc := hD.sub (ws' := [(a0, .inr (2, [.ref a1, .int 1, v4])), (a1, .inl (cT 2, 4096, .inr (.inl f5)))]) [0, 1] (by decide) rfl
  have hFc := va_free (wc := [(a0, .inr (2, [.ref a1, .int 1, v4])), (a1, .inl (cT 2, 4096, .inr (.inl f5)))]) hD hS hA [0, 1] rfl
  refine va_calli (va_runV (C := "ValueBench$Row") (As := [.int 0, .int 4]) (rest := []) ⟨hx, hb, hml, hown, htx⟩ (cR_is_3 l hl9 D cT aK aV H.size a0 a1 v4 f5 (by first | rfl | exact h6)) ⟨callB_of 2 htx (xw_goodC kw_3_75) rfl rfl rfl (htx _ kw_1_4) (htx _ kw_3_106) ⟨by decide, by decide, by decide +kernel⟩ ⟨Nat.le_of_ble_eq_true rfl, Nat.le_of_ble_eq_true rfl⟩, (htx _ kw_3_73), (htx _ kw_3_74)⟩ ⟨xPre_blind, va_recv hK hP (ci := 2) rfl (q0 := 0) rfl, (fun U hU hW => ⟨rfl, xPre_of hZ hS hFc hPc hDc hK U hU hW⟩)⟩ rfl rfl hl.1 rfl (lv_room (Nat.le_of_ble_eq_true rfl)) dA_times_35 ⟨Nat.le_of_ble_eq_true rfl, Nat.le_of_ble_eq_true rfl⟩) hS (fun q _ h => hFc q h) hFc (fun r2 u9 t H1 locs ht hvm hr9 hB hz1 hk1 hS => ?_)
  obtain ⟨hP1, hK1, hD1⟩ := hB
  rw [ht] at hP1
  obtain ⟨hP, hD⟩ := va_join (wr := []) (w1 := [(a0, .inr (2, [.ref a1, .int 1, v4])), (a1, .inl (cT 2, 4096, .inr (.inl f5)))]) hP hD [0, 1] [] rfl rfl (by decide) (by decide) hk1 hFc hP1 hD1
  generalize H1 = H at hP hS ⊢
  have hP : va_P D xcl [(a0, .inr (2, [.ref a1, .int 1, v4])), (a1, .inl (cT 2, 4096, .inr (.inl f5)))] H := hP
  have hD : va_D A [(a0, .inr (2, [.ref a1, .int 1, v4])), (a1, .inl (cT 2, 4096, .inr (.inl f5)))] := hD
  rw [hr9]
  refine W.eq (g2 := F0 m 38 ls [.int 0]) rfl ?_
  refine lv_if_eq (tgt := 62) hx hb dA_times_38 (by decide) (fun _ => ?_) (fun h => ((by revert h; decide : False)).elim)
  refine lv_aload_n hx hb dA_times_62 rfl (lv_at hl 0 rfl) ?_
  refine lv_iconst (v := 0) hx hb dA_times_63 (by decide) ?_
  refine lv_iconst (v := 3) hx hb dA_times_64 (by decide) ?_
  have hPc := hP.sub (ws' := [(a0, .inr (2, [.ref a1, .int 1, v4])), (a1, .inl (cT 2, 4096, .inr (.inl f5)))]) [0, 1] rfl
  have hDc := hD.sub (ws' := [(a0, .inr (2, [.ref a1, .int 1, v4])), (a1, .inl (cT 2, 4096, .inr (.inl f5)))]) [0, 1] (by decide) rfl
  have hFc := va_free (wc := [(a0, .inr (2, [.ref a1, .int 1, v4])), (a1, .inl (cT 2, 4096, .inr (.inl f5)))]) hD hS hA [0, 1] rfl
  refine va_calli (va_runV (C := "ValueBench$Row") (As := [.int 0, .int 3]) (rest := []) ⟨hx, hb, hml, hown, htx⟩ (cR_is_4 l hl9 D cT aK aV H.size a0 a1 v4 f5 (by first | rfl | exact h6)) ⟨callB_of 2 htx (xw_goodC kw_3_75) rfl rfl rfl (htx _ kw_1_4) (htx _ kw_3_106) ⟨by decide, by decide, by decide +kernel⟩ ⟨Nat.le_of_ble_eq_true rfl, Nat.le_of_ble_eq_true rfl⟩, (htx _ kw_3_73), (htx _ kw_3_74)⟩ ⟨xPre_blind, va_recv hK hP (ci := 2) rfl (q0 := 0) rfl, (fun U hU hW => ⟨rfl, xPre_of hZ hS hFc hPc hDc hK U hU hW⟩)⟩ rfl rfl hl.1 rfl (lv_room (Nat.le_of_ble_eq_true rfl)) dA_times_65 ⟨Nat.le_of_ble_eq_true rfl, Nat.le_of_ble_eq_true rfl⟩) hS (fun q _ h => hFc q h) hFc (fun r3 u9 t H1 locs ht hvm hr9 hB hz1 hk1 hS => ?_)
  obtain ⟨hP1, hK1, hD1⟩ := hB
  rw [ht] at hP1
  obtain ⟨hP, hD⟩ := va_join (wr := []) (w1 := [(a0, .inr (2, [.ref a1, .int 1, v4])), (a1, .inl (cT 2, 4096, .inr (.inl f5)))]) hP hD [0, 1] [] rfl rfl (by decide) (by decide) hk1 hFc hP1 hD1
  generalize H1 = H at hP hS ⊢
  have hP : va_P D xcl [(a0, .inr (2, [.ref a1, .int 1, v4])), (a1, .inl (cT 2, 4096, .inr (.inl f5)))] H := hP
  have hD : va_D A [(a0, .inr (2, [.ref a1, .int 1, v4])), (a1, .inl (cT 2, 4096, .inr (.inl f5)))] := hD
  rw [hr9]
  refine W.eq (g2 := F0 m 68 ls [.int 0]) rfl ?_
  refine lv_if_eq (tgt := 92) hx hb dA_times_68 (by decide) (fun _ => ?_) (fun h => ((by revert h; decide : False)).elim)
  refine lv_iconst (v := 1) hx hb dA_times_92 (by decide) ?_
  have hP9 := hP.sub (ws' := [(a0, .inr (2, [.ref a1, .int 1, v4])), (a1, .inl (cT 2, 4096, .inr (.inl f5)))]) [0, 1] rfl
  have hD9 := hD.sub (ws' := [(a0, .inr (2, [.ref a1, .int 1, v4])), (a1, .inl (cT 2, 4096, .inr (.inl f5)))]) [0, 1] (by decide) rfl
  refine W.widen (k := 0) (n := 0) (Nat.le_of_ble_eq_true rfl) (Nat.le_of_ble_eq_true rfl) ?_
  exact W.iret (v := 1) hx hb hr (fun t ht hW => ⟨⟨1, (), rfl, rfl, by rw [ht]; exact hP9, va_K.moved hW.alike hK, hD9⟩, hS.F ht⟩) hS.2.2 dA_times_93
set_option maxHeartbeats 4000000 in
set_option maxRecDepth 100000 in
theorem cA_apply_4 (l : Launch) (hl9 : l.stackTraces = false) (D : va_G) (cT : Nat → ClassId) (aK aV : Nat → Nat) (sz : Nat) (a0 : Nat) (a1 : Nat) (b2 : Nat) (b3 : Nat) (v4 : Value) (f5 : Nat → Int64) (h6 : f5 0 = 0) : Met l yA_apply wyA_apply ({ frames := 3, cells := 0, slots := 0, locals := 65 }) (va_Pc [.int 2, .ref a0, .ref b2, .ref b3] (xPre D xcl cT aK aV sz [(a0, .inr (2, [.ref a1, .int 1, v4])), (a1, .inl (cT 2, 4096, .inr (.inl f5)))])) (va_Qi (fun (r : Int32) (_ : Unit) => r = 1) (fun _ t => xB D xcl cT (va_A [(a0, .inr (2, [.ref a1, .int 1, v4])), (a1, .inl (cT 2, 4096, .inr (.inl f5)))] sz) [(a0, .inr (2, [.ref a1, .int 1, v4])), (a1, .inl (cT 2, 4096, .inr (.inl f5)))] t) (va_A [(a0, .inr (2, [.ref a1, .int 1, v4])), (a1, .inl (cT 2, 4096, .inr (.inl f5)))] sz)) 0 0 (va_A [(a0, .inr (2, [.ref a1, .int 1, v4])), (a1, .inl (cT 2, 4096, .inr (.inl f5)))] sz) := by
  refine Met.ofW (cc := prog_3_method_2_code) (maxL := 4) (ret := (some .int)) (by decide) rfl ?_
  intro p e s m args below meth c s₁ B hml hv
  obtain ⟨rfl, hsz, hZ, hP, hK, hD0⟩ := hv
  have hx := B.exec
  have hb := B.bytes
  have hr := B.returns
  have hts := atoms_spec (ws := wyA_apply) B.pre
  have htx := fun w h => hts w (List.mem_cons_of_mem _ h)
  have hown : s.vm.findClass "ValueBench$Operators" = some m.cls := findClass_of_methodNamed B.named
  have hlocks := B.notSynchronized
  subst hsz
  have hD := hD0.self (sz := s.heap.size)
  generalize hAe : va_A [(a0, .inr (2, [.ref a1, .int 1, v4])), (a1, .inl (cT 2, 4096, .inr (.inl f5)))] s.heap.size = A at hD hZ ⊢
  have hA : ∀ q : Nat, s.heap.size ≤ q → A q := fun q h => by rw [← hAe]; exact Or.inr h
  have hS : va_S A s.heap s.heap [] := va_S.rf
  have hP : va_P D xcl [(a0, .inr (2, [.ref a1, .int 1, v4])), (a1, .inl (cT 2, 4096, .inr (.inl f5)))] s.heap := hP
  have hl := lv_entry ([.int 2, .ref a0, .ref b2, .ref b3]) (n := 4) (Nat.le_of_ble_eq_true rfl)
  rw [lg_entry_eq]
  generalize (lg_sl ([.int 2, .ref a0, .ref b2, .ref b3]) ++ List.replicate (4 - (lg_sl ([.int 2, .ref a0, .ref b2, .ref b3])).length) Slot.unset).toArray = ls at hl ⊢
  have hl : lv_has ls 4 [(0, .int 2), (1, .ref a0), (2, .ref b2), (3, .ref b3)] := hl
  refine lv_aload_n hx hb dA_apply_0 rfl (lv_at hl 1 rfl) ?_
  refine lv_iconst (v := 0) hx hb dA_apply_1 (by decide) ?_
  refine lv_iconst (v := 3) hx hb dA_apply_2 (by decide) ?_
  have hPc := hP.sub (ws' := [(a0, .inr (2, [.ref a1, .int 1, v4])), (a1, .inl (cT 2, 4096, .inr (.inl f5)))]) [0, 1] rfl
  have hDc := hD.sub (ws' := [(a0, .inr (2, [.ref a1, .int 1, v4])), (a1, .inl (cT 2, 4096, .inr (.inl f5)))]) [0, 1] (by decide) rfl
  have hFc := va_free (wc := [(a0, .inr (2, [.ref a1, .int 1, v4])), (a1, .inl (cT 2, 4096, .inr (.inl f5)))]) hD hS hA [0, 1] rfl
  refine va_calli (va_runV (C := "ValueBench$Row") (As := [.int 0, .int 3]) (rest := []) ⟨hx, hb, hml, hown, htx⟩ (cR_is_4 l hl9 D cT aK aV s.heap.size a0 a1 v4 f5 (by first | rfl | exact h6)) ⟨callB_of 2 htx (xw_goodC kw_3_75) rfl rfl rfl (htx _ kw_1_4) (htx _ kw_3_106) ⟨by decide, by decide, by decide +kernel⟩ ⟨Nat.le_of_ble_eq_true rfl, Nat.le_of_ble_eq_true rfl⟩, (htx _ kw_3_73), (htx _ kw_3_74)⟩ ⟨xPre_blind, va_recv hK hP (ci := 2) rfl (q0 := 0) rfl, (fun U hU hW => ⟨rfl, xPre_of hZ hS hFc hPc hDc hK U hU hW⟩)⟩ rfl rfl hl.1 rfl (lv_room (Nat.le_of_ble_eq_true rfl)) dA_apply_3 ⟨Nat.le_of_ble_eq_true rfl, Nat.le_of_ble_eq_true rfl⟩) hS (fun q _ h => hFc q h) hFc (fun r1 u9 t H1 locs ht hvm hr9 hB hz1 hk1 hS => ?_)
  obtain ⟨hP1, hK1, hD1⟩ := hB
  rw [ht] at hP1
  obtain ⟨hP, hD⟩ := va_join (wr := []) (w1 := [(a0, .inr (2, [.ref a1, .int 1, v4])), (a1, .inl (cT 2, 4096, .inr (.inl f5)))]) hP hD [0, 1] [] rfl rfl (by decide) (by decide) hk1 hFc hP1 hD1
  generalize H1 = H at hP hS ⊢
  have hP : va_P D xcl [(a0, .inr (2, [.ref a1, .int 1, v4])), (a1, .inl (cT 2, 4096, .inr (.inl f5)))] H := hP
  have hD : va_D A [(a0, .inr (2, [.ref a1, .int 1, v4])), (a1, .inl (cT 2, 4096, .inr (.inl f5)))] := hD
  rw [hr9]
  refine W.eq (g2 := F0 m 6 ls [.int 0]) rfl ?_
  refine lv_if_eq (tgt := 34) hx hb dA_apply_6 (by decide) (fun _ => ?_) (fun h => ((by revert h; decide : False)).elim)
  refine lv_iload_n hx hb dA_apply_34 rfl (lv_at hl 0 rfl) ?_
  refine lv_tableIn (off := 43) (tgt := 78) hx hb dA_apply_35 (by decide) (by decide) (by decide) (by decide) ?_
  refine lv_aload_n hx hb dA_apply_78 rfl (lv_at hl 1 rfl) ?_
  refine lv_aload_n hx hb dA_apply_79 rfl (lv_at hl 2 rfl) ?_
  refine lv_aload_n hx hb dA_apply_80 rfl (lv_at hl 3 rfl) ?_
  have hPc := hP.sub (ws' := [(a0, .inr (2, [.ref a1, .int 1, v4])), (a1, .inl (cT 2, 4096, .inr (.inl f5)))]) [0, 1] rfl
  have hDc := hD.sub (ws' := [(a0, .inr (2, [.ref a1, .int 1, v4])), (a1, .inl (cT 2, 4096, .inr (.inl f5)))]) [0, 1] (by decide) rfl
  have hFc := va_free (wc := [(a0, .inr (2, [.ref a1, .int 1, v4])), (a1, .inl (cT 2, 4096, .inr (.inl f5)))]) hD hS hA [0, 1] rfl
  refine va_calli (va_runS (As := [.ref a0, .ref b2, .ref b3]) (rest := []) ⟨hx, hb, hml, hown, htx⟩ (cA_times_0 l hl9 D cT aK aV H.size a0 a1 b2 b3 v4 f5 (by first | rfl | exact h6)) ⟨callB_of 3 htx (xw_goodC kw_3_189) rfl rfl rfl (htx _ kw_1_21) (htx _ kw_3_187) ⟨by decide, by decide, by decide +kernel⟩ ⟨Nat.le_of_ble_eq_true rfl, Nat.le_of_ble_eq_true rfl⟩, htx _ kw_3_188⟩ ⟨xPre_blind, (fun U hU hW => ⟨rfl, xPre_of hZ hS hFc hPc hDc hK U hU hW⟩)⟩ rfl rfl hl.1 rfl (lv_room (Nat.le_of_ble_eq_true rfl)) dA_apply_81 ⟨Nat.le_of_ble_eq_true rfl, Nat.le_of_ble_eq_true rfl⟩) hS (fun q _ h => hFc q h) hFc (fun r2 u9 t H1 locs ht hvm hr9 hB hz1 hk1 hS => ?_)
  obtain ⟨hP1, hK1, hD1⟩ := hB
  rw [ht] at hP1
  obtain ⟨hP, hD⟩ := va_join (wr := []) (w1 := [(a0, .inr (2, [.ref a1, .int 1, v4])), (a1, .inl (cT 2, 4096, .inr (.inl f5)))]) hP hD [0, 1] [] rfl rfl (by decide) (by decide) hk1 hFc hP1 hD1
  generalize H1 = H at hP hS ⊢
  have hP : va_P D xcl [(a0, .inr (2, [.ref a1, .int 1, v4])), (a1, .inl (cT 2, 4096, .inr (.inl f5)))] H := hP
  have hD : va_D A [(a0, .inr (2, [.ref a1, .int 1, v4])), (a1, .inl (cT 2, 4096, .inr (.inl f5)))] := hD
  rw [hr9]
  refine W.eq (g2 := F0 m 84 ls [.int 1]) rfl ?_
  have hP9 := hP.sub (ws' := [(a0, .inr (2, [.ref a1, .int 1, v4])), (a1, .inl (cT 2, 4096, .inr (.inl f5)))]) [0, 1] rfl
  have hD9 := hD.sub (ws' := [(a0, .inr (2, [.ref a1, .int 1, v4])), (a1, .inl (cT 2, 4096, .inr (.inl f5)))]) [0, 1] (by decide) rfl
  refine W.widen (k := 0) (n := 0) (Nat.le_of_ble_eq_true rfl) (Nat.le_of_ble_eq_true rfl) ?_
  exact W.iret (v := 1) hx hb hr (fun t ht hW => ⟨⟨1, (), rfl, rfl, by rw [ht]; exact hP9, va_K.moved hW.alike hK, hD9⟩, hS.F ht⟩) hS.2.2 dA_apply_84
set_option maxHeartbeats 4000000 in
set_option maxRecDepth 100000 in
theorem cB_binary_4 (l : Launch) (hl9 : l.stackTraces = false) (D : va_G) (cT : Nat → ClassId) (aK aV : Nat → Nat) (sz : Nat) (a0 : Nat) (a1 : Nat) (a2 : Nat) (a3 : Nat) (a4 : Nat) (x5 : Int32) (x10 : Int32) (x15 : Int32) (v20 : Value) (v21 : Value) (v22 : Value) (v23 : Value) (v24 : Value) (v25 : Value) (v26 : Value) (v27 : Value) (v28 : Value) (f29 : Nat → Option Nat) (b31 : Nat) (v33 : Value) (f34 : Nat → Int64) (h6 : ¬ x5 < 0) (h7 : ¬ 7 < x5) (h8 : x5 ≤ 7) (h9 : vp_in x5 8) (h11 : ¬ x10 < 0) (h12 : ¬ 7 < x10) (h13 : x10 ≤ 7) (h14 : vp_in x10 8) (h16 : ¬ x15 < 0) (h17 : ¬ 7 < x15) (h18 : x15 ≤ 7) (h19 : vp_in x15 8) (h30 : f29 x10.toNatClampNeg = some a3) (h32 : f29 x15.toNatClampNeg = some b31) (h35 : f34 0 = 0) : vx_Met l yB_binary wyB_binary ({ frames := 7, cells := 1, slots := 6, locals := 121 }) (va_Pc [.ref a0, .int x5, .int 2, .int x10, .int x15] (xPre D xcl cT aK aV sz [(a0, .inr (0, [v20, v21, v22, .ref a2, v23, .ref a1, v24, v25])), (a1, .inr (2, [v26, v27, v28])), (a2, .inl (cT 3, 8, .inr (.inr (.inr (.inr f29))))), (a3, .inr (2, [.ref a4, .int 1, v33])), (a4, .inl (cT 2, 4096, .inr (.inl f34)))])) (fun _ _ _ _ => False) (vx_X (fun _ : Unit => True) (fun E _ t => E = "java/lang/ArithmeticException" ∧ xB D xcl cT (va_A [(a0, .inr (0, [v20, v21, v22, .ref a2, v23, .ref a1, v24, v25])), (a1, .inr (2, [v26, v27, v28])), (a2, .inl (cT 3, 8, .inr (.inr (.inr (.inr f29))))), (a3, .inr (2, [.ref a4, .int 1, v33])), (a4, .inl (cT 2, 4096, .inr (.inl f34)))] sz) [(a0, .inr (0, [v20, v21, v22, .ref a2, v23, .ref a1, v24, .int 1])), (a1, .inr (2, [v26, .int 0, .int 0])), (a2, .inl (cT 3, 8, .inr (.inr (.inr (.inr f29))))), (a3, .inr (2, [.ref a4, .int 1, v33])), (a4, .inl (cT 2, 4096, .inr (.inl f34)))] t) (va_A [(a0, .inr (0, [v20, v21, v22, .ref a2, v23, .ref a1, v24, v25])), (a1, .inr (2, [v26, v27, v28])), (a2, .inl (cT 3, 8, .inr (.inr (.inr (.inr f29))))), (a3, .inr (2, [.ref a4, .int 1, v33])), (a4, .inl (cT 2, 4096, .inr (.inl f34)))] sz)) 1 6 (va_A [(a0, .inr (0, [v20, v21, v22, .ref a2, v23, .ref a1, v24, v25])), (a1, .inr (2, [v26, v27, v28])), (a2, .inl (cT 3, 8, .inr (.inr (.inr (.inr f29))))), (a3, .inr (2, [.ref a4, .int 1, v33])), (a4, .inl (cT 2, 4096, .inr (.inl f34)))] sz) := by
  refine vx_ofW (cc := prog_1_method_6_code) (maxL := 5) (ret := none) (by decide) rfl ?_
  intro p e s m args below meth c s₁ B hml hne hv
  obtain ⟨rfl, hsz, hZ, hP, hK, hD0⟩ := hv
  have hx := B.exec
  have hb := B.bytes
  have hr := B.returns
  have hts := atoms_spec (ws := wyB_binary) B.pre
  have htx := fun w h => hts w (List.mem_cons_of_mem _ h)
  have hown : s.vm.findClass "ValueBench" = some m.cls := findClass_of_methodNamed B.named
  have hlocks := B.notSynchronized
  subst hsz
  have hD := hD0.self (sz := s.heap.size)
  generalize hAe : va_A [(a0, .inr (0, [v20, v21, v22, .ref a2, v23, .ref a1, v24, v25])), (a1, .inr (2, [v26, v27, v28])), (a2, .inl (cT 3, 8, .inr (.inr (.inr (.inr f29))))), (a3, .inr (2, [.ref a4, .int 1, v33])), (a4, .inl (cT 2, 4096, .inr (.inl f34)))] s.heap.size = A at hD hZ ⊢
  have hA : ∀ q : Nat, s.heap.size ≤ q → A q := fun q h => by rw [← hAe]; exact Or.inr h
  have hS : va_S A s.heap s.heap [] := va_S.rf
  have hP : va_P D xcl [(a0, .inr (0, [v20, v21, v22, .ref a2, v23, .ref a1, v24, v25])), (a1, .inr (2, [v26, v27, v28])), (a2, .inl (cT 3, 8, .inr (.inr (.inr (.inr f29))))), (a3, .inr (2, [.ref a4, .int 1, v33])), (a4, .inl (cT 2, 4096, .inr (.inl f34)))] s.heap := hP
  have hl := lv_entry ([.ref a0, .int x5, .int 2, .int x10, .int x15]) (n := 5) (Nat.le_of_ble_eq_true rfl)
  rw [lg_entry_eq]
  generalize (lg_sl ([.ref a0, .int x5, .int 2, .int x10, .int x15]) ++ List.replicate (5 - (lg_sl ([.ref a0, .int x5, .int 2, .int x10, .int x15])).length) Slot.unset).toArray = ls at hl ⊢
  have hl : lv_has ls 5 [(0, .ref a0), (1, .int x5), (2, .int 2), (3, .int x10), (4, .int x15)] := hl
  refine lv_iload_n hx hb dB_binary_0 rfl (lv_at hl 1 rfl) ?_
  have hPc := hP.sub (ws' := []) [] rfl
  have hDc := hD.sub (ws' := []) [] (by decide) rfl
  have hFc := va_free (wc := []) hD hS hA [] rfl
  refine va_calli (va_runS (As := [.int x5]) (rest := []) ⟨hx, hb, hml, hown, htx⟩ (cB_isRegister_0 l hl9 D cT aK aV s.heap.size x5 h6 h7 h8 h9) ⟨callB_of 1 htx (xw_goodC kw_2_18) rfl rfl rfl (htx _ kw_1_1) (htx _ kw_2_16) ⟨by decide, by decide, by decide +kernel⟩ ⟨Nat.le_of_ble_eq_true rfl, Nat.le_of_ble_eq_true rfl⟩, htx _ kw_2_17⟩ ⟨xPre_blind, (fun U hU hW => ⟨rfl, xPre_of hZ hS hFc hPc hDc hK U hU hW⟩)⟩ rfl rfl hl.1 rfl (lv_room (Nat.le_of_ble_eq_true rfl)) dB_binary_1 ⟨Nat.le_of_ble_eq_true rfl, Nat.le_of_ble_eq_true rfl⟩) hS (fun q _ h => hFc q h) hFc (fun r1 u9 t H1 locs ht hvm hr9 hB hz1 hk1 hS => ?_)
  obtain ⟨hP1, hK1, hD1⟩ := hB
  rw [ht] at hP1
  obtain ⟨hP, hD⟩ := va_join (wr := [(a0, .inr (0, [v20, v21, v22, .ref a2, v23, .ref a1, v24, v25])), (a1, .inr (2, [v26, v27, v28])), (a2, .inl (cT 3, 8, .inr (.inr (.inr (.inr f29))))), (a3, .inr (2, [.ref a4, .int 1, v33])), (a4, .inl (cT 2, 4096, .inr (.inl f34)))]) (w1 := []) hP hD [] [0, 1, 2, 3, 4] rfl rfl (by decide) (by decide) hk1 hFc hP1 hD1
  generalize H1 = H at hP hS ⊢
  have hP : va_P D xcl [(a0, .inr (0, [v20, v21, v22, .ref a2, v23, .ref a1, v24, v25])), (a1, .inr (2, [v26, v27, v28])), (a2, .inl (cT 3, 8, .inr (.inr (.inr (.inr f29))))), (a3, .inr (2, [.ref a4, .int 1, v33])), (a4, .inl (cT 2, 4096, .inr (.inl f34)))] H := hP
  have hD : va_D A [(a0, .inr (0, [v20, v21, v22, .ref a2, v23, .ref a1, v24, v25])), (a1, .inr (2, [v26, v27, v28])), (a2, .inl (cT 3, 8, .inr (.inr (.inr (.inr f29))))), (a3, .inr (2, [.ref a4, .int 1, v33])), (a4, .inl (cT 2, 4096, .inr (.inl f34)))] := hD
  rw [hr9]
  refine W.eq (g2 := F0 m 4 ls [.int 1]) rfl ?_
  refine lv_if_eq (tgt := 34) hx hb dB_binary_4 (by decide) (fun h => ((by revert h; decide : False)).elim) (fun _ => ?_)
  refine lv_iload_n hx hb dB_binary_7 rfl (lv_at hl 2 rfl) ?_
  refine lv_iconst (v := 4) hx hb dB_binary_8 (by decide) ?_
  have hPc := hP.sub (ws' := []) [] rfl
  have hDc := hD.sub (ws' := []) [] (by decide) rfl
  have hFc := va_free (wc := []) hD hS hA [] rfl
  refine va_calli (va_runS (As := [.int 2, .int 4]) (rest := []) ⟨hx, hb, hml, hown, htx⟩ (cB_isWithin_26 l hl9 D cT aK aV H.size) ⟨callB_of 2 htx (xw_goodC kw_1_218) rfl rfl rfl (htx _ kw_1_1) (htx _ kw_1_216) ⟨by decide, by decide, by decide +kernel⟩ ⟨Nat.le_of_ble_eq_true rfl, Nat.le_of_ble_eq_true rfl⟩, htx _ kw_1_217⟩ ⟨xPre_blind, (fun U hU hW => ⟨rfl, xPre_of hZ hS hFc hPc hDc hK U hU hW⟩)⟩ rfl rfl hl.1 rfl (lv_room (Nat.le_of_ble_eq_true rfl)) dB_binary_9 ⟨Nat.le_of_ble_eq_true rfl, Nat.le_of_ble_eq_true rfl⟩) hS (fun q _ h => hFc q h) hFc (fun r2 u9 t H1 locs ht hvm hr9 hB hz1 hk1 hS => ?_)
  obtain ⟨hP1, hK1, hD1⟩ := hB
  rw [ht] at hP1
  obtain ⟨hP, hD⟩ := va_join (wr := [(a0, .inr (0, [v20, v21, v22, .ref a2, v23, .ref a1, v24, v25])), (a1, .inr (2, [v26, v27, v28])), (a2, .inl (cT 3, 8, .inr (.inr (.inr (.inr f29))))), (a3, .inr (2, [.ref a4, .int 1, v33])), (a4, .inl (cT 2, 4096, .inr (.inl f34)))]) (w1 := []) hP hD [] [0, 1, 2, 3, 4] rfl rfl (by decide) (by decide) hk1 hFc hP1 hD1
  generalize H1 = H at hP hS ⊢
  have hP : va_P D xcl [(a0, .inr (0, [v20, v21, v22, .ref a2, v23, .ref a1, v24, v25])), (a1, .inr (2, [v26, v27, v28])), (a2, .inl (cT 3, 8, .inr (.inr (.inr (.inr f29))))), (a3, .inr (2, [.ref a4, .int 1, v33])), (a4, .inl (cT 2, 4096, .inr (.inl f34)))] H := hP
  have hD : va_D A [(a0, .inr (0, [v20, v21, v22, .ref a2, v23, .ref a1, v24, v25])), (a1, .inr (2, [v26, v27, v28])), (a2, .inl (cT 3, 8, .inr (.inr (.inr (.inr f29))))), (a3, .inr (2, [.ref a4, .int 1, v33])), (a4, .inl (cT 2, 4096, .inr (.inl f34)))] := hD
  rw [hr9]
  refine W.eq (g2 := F0 m 12 ls [.int 1]) rfl ?_
  refine lv_if_eq (tgt := 34) hx hb dB_binary_12 (by decide) (fun h => ((by revert h; decide : False)).elim) (fun _ => ?_)
  refine lv_iload_n hx hb dB_binary_15 rfl (lv_at hl 3 rfl) ?_
  have hPc := hP.sub (ws' := []) [] rfl
  have hDc := hD.sub (ws' := []) [] (by decide) rfl
  have hFc := va_free (wc := []) hD hS hA [] rfl
  refine va_calli (va_runS (As := [.int x10]) (rest := []) ⟨hx, hb, hml, hown, htx⟩ (cB_isRegister_0 l hl9 D cT aK aV H.size x10 h11 h12 h13 h14) ⟨callB_of 1 htx (xw_goodC kw_2_18) rfl rfl rfl (htx _ kw_1_1) (htx _ kw_2_16) ⟨by decide, by decide, by decide +kernel⟩ ⟨Nat.le_of_ble_eq_true rfl, Nat.le_of_ble_eq_true rfl⟩, htx _ kw_2_17⟩ ⟨xPre_blind, (fun U hU hW => ⟨rfl, xPre_of hZ hS hFc hPc hDc hK U hU hW⟩)⟩ rfl rfl hl.1 rfl (lv_room (Nat.le_of_ble_eq_true rfl)) dB_binary_16 ⟨Nat.le_of_ble_eq_true rfl, Nat.le_of_ble_eq_true rfl⟩) hS (fun q _ h => hFc q h) hFc (fun r3 u9 t H1 locs ht hvm hr9 hB hz1 hk1 hS => ?_)
  obtain ⟨hP1, hK1, hD1⟩ := hB
  rw [ht] at hP1
  obtain ⟨hP, hD⟩ := va_join (wr := [(a0, .inr (0, [v20, v21, v22, .ref a2, v23, .ref a1, v24, v25])), (a1, .inr (2, [v26, v27, v28])), (a2, .inl (cT 3, 8, .inr (.inr (.inr (.inr f29))))), (a3, .inr (2, [.ref a4, .int 1, v33])), (a4, .inl (cT 2, 4096, .inr (.inl f34)))]) (w1 := []) hP hD [] [0, 1, 2, 3, 4] rfl rfl (by decide) (by decide) hk1 hFc hP1 hD1
  generalize H1 = H at hP hS ⊢
  have hP : va_P D xcl [(a0, .inr (0, [v20, v21, v22, .ref a2, v23, .ref a1, v24, v25])), (a1, .inr (2, [v26, v27, v28])), (a2, .inl (cT 3, 8, .inr (.inr (.inr (.inr f29))))), (a3, .inr (2, [.ref a4, .int 1, v33])), (a4, .inl (cT 2, 4096, .inr (.inl f34)))] H := hP
  have hD : va_D A [(a0, .inr (0, [v20, v21, v22, .ref a2, v23, .ref a1, v24, v25])), (a1, .inr (2, [v26, v27, v28])), (a2, .inl (cT 3, 8, .inr (.inr (.inr (.inr f29))))), (a3, .inr (2, [.ref a4, .int 1, v33])), (a4, .inl (cT 2, 4096, .inr (.inl f34)))] := hD
  rw [hr9]
  refine W.eq (g2 := F0 m 19 ls [.int 1]) rfl ?_
  refine lv_if_eq (tgt := 34) hx hb dB_binary_19 (by decide) (fun h => ((by revert h; decide : False)).elim) (fun _ => ?_)
  refine lv_iload hx hb dB_binary_22 (lv_at hl 4 rfl) ?_
  have hPc := hP.sub (ws' := []) [] rfl
  have hDc := hD.sub (ws' := []) [] (by decide) rfl
  have hFc := va_free (wc := []) hD hS hA [] rfl
  refine va_calli (va_runS (As := [.int x15]) (rest := []) ⟨hx, hb, hml, hown, htx⟩ (cB_isRegister_0 l hl9 D cT aK aV H.size x15 h16 h17 h18 h19) ⟨callB_of 1 htx (xw_goodC kw_2_18) rfl rfl rfl (htx _ kw_1_1) (htx _ kw_2_16) ⟨by decide, by decide, by decide +kernel⟩ ⟨Nat.le_of_ble_eq_true rfl, Nat.le_of_ble_eq_true rfl⟩, htx _ kw_2_17⟩ ⟨xPre_blind, (fun U hU hW => ⟨rfl, xPre_of hZ hS hFc hPc hDc hK U hU hW⟩)⟩ rfl rfl hl.1 rfl (lv_room (Nat.le_of_ble_eq_true rfl)) dB_binary_24 ⟨Nat.le_of_ble_eq_true rfl, Nat.le_of_ble_eq_true rfl⟩) hS (fun q _ h => hFc q h) hFc (fun r4 u9 t H1 locs ht hvm hr9 hB hz1 hk1 hS => ?_)
  obtain ⟨hP1, hK1, hD1⟩ := hB
  rw [ht] at hP1
  obtain ⟨hP, hD⟩ := va_join (wr := [(a0, .inr (0, [v20, v21, v22, .ref a2, v23, .ref a1, v24, v25])), (a1, .inr (2, [v26, v27, v28])), (a2, .inl (cT 3, 8, .inr (.inr (.inr (.inr f29))))), (a3, .inr (2, [.ref a4, .int 1, v33])), (a4, .inl (cT 2, 4096, .inr (.inl f34)))]) (w1 := []) hP hD [] [0, 1, 2, 3, 4] rfl rfl (by decide) (by decide) hk1 hFc hP1 hD1
  generalize H1 = H at hP hS ⊢
  have hP : va_P D xcl [(a0, .inr (0, [v20, v21, v22, .ref a2, v23, .ref a1, v24, v25])), (a1, .inr (2, [v26, v27, v28])), (a2, .inl (cT 3, 8, .inr (.inr (.inr (.inr f29))))), (a3, .inr (2, [.ref a4, .int 1, v33])), (a4, .inl (cT 2, 4096, .inr (.inl f34)))] H := hP
  have hD : va_D A [(a0, .inr (0, [v20, v21, v22, .ref a2, v23, .ref a1, v24, v25])), (a1, .inr (2, [v26, v27, v28])), (a2, .inl (cT 3, 8, .inr (.inr (.inr (.inr f29))))), (a3, .inr (2, [.ref a4, .int 1, v33])), (a4, .inl (cT 2, 4096, .inr (.inl f34)))] := hD
  rw [hr9]
  refine W.eq (g2 := F0 m 27 ls [.int 1]) rfl ?_
  refine lv_if_eq (tgt := 34) hx hb dB_binary_27 (by decide) (fun h => ((by revert h; decide : False)).elim) (fun _ => ?_)
  refine lv_iconst (v := 1) hx hb dB_binary_30 (by decide) ?_
  refine lv_goto (tgt := 35) hx hb dB_binary_31 (by decide) ?_
  have hPc := hP.sub (ws' := []) [] rfl
  have hDc := hD.sub (ws' := []) [] (by decide) rfl
  have hFc := va_free (wc := []) hD hS hA [] rfl
  refine va_callv (va_runS (As := [.int 1]) (rest := []) ⟨hx, hb, hml, hown, htx⟩ (cB_demand_0 l hl9 D cT aK aV H.size) ⟨callB_of 1 htx (xw_goodC kw_1_221) rfl rfl rfl (htx _ kw_1_1) (htx _ kw_1_219) ⟨by decide, by decide, by decide +kernel⟩ ⟨Nat.le_of_ble_eq_true rfl, Nat.le_of_ble_eq_true rfl⟩, htx _ kw_1_220⟩ ⟨xPre_blind, (fun U hU hW => ⟨rfl, xPre_of hZ hS hFc hPc hDc hK U hU hW⟩)⟩ rfl rfl hl.1 rfl (lv_room (Nat.le_of_ble_eq_true rfl)) dB_binary_35 ⟨Nat.le_of_ble_eq_true rfl, Nat.le_of_ble_eq_true rfl⟩) hS (fun q _ h => hFc q h) hFc (fun u9 t H1 locs ht hvm hr9 hB hz1 hk1 hS => ?_)
  obtain ⟨hP1, hK1, hD1⟩ := hB
  rw [ht] at hP1
  obtain ⟨hP, hD⟩ := va_join (wr := [(a0, .inr (0, [v20, v21, v22, .ref a2, v23, .ref a1, v24, v25])), (a1, .inr (2, [v26, v27, v28])), (a2, .inl (cT 3, 8, .inr (.inr (.inr (.inr f29))))), (a3, .inr (2, [.ref a4, .int 1, v33])), (a4, .inl (cT 2, 4096, .inr (.inl f34)))]) (w1 := []) hP hD [] [0, 1, 2, 3, 4] rfl rfl (by decide) (by decide) hk1 hFc hP1 hD1
  generalize H1 = H at hP hS ⊢
  have hP : va_P D xcl [(a0, .inr (0, [v20, v21, v22, .ref a2, v23, .ref a1, v24, v25])), (a1, .inr (2, [v26, v27, v28])), (a2, .inl (cT 3, 8, .inr (.inr (.inr (.inr f29))))), (a3, .inr (2, [.ref a4, .int 1, v33])), (a4, .inl (cT 2, 4096, .inr (.inl f34)))] H := hP
  have hD : va_D A [(a0, .inr (0, [v20, v21, v22, .ref a2, v23, .ref a1, v24, v25])), (a1, .inr (2, [v26, v27, v28])), (a2, .inl (cT 3, 8, .inr (.inr (.inr (.inr f29))))), (a3, .inr (2, [.ref a4, .int 1, v33])), (a4, .inl (cT 2, 4096, .inr (.inl f34)))] := hD
  refine lv_aload_n hx hb dB_binary_38 rfl (lv_at hl 0 rfl) ?_
  refine va_get (D := D) (ci := 0) (v := .ref a1) (C := "ValueBench") (T := TB) (N := 8) hx hb htx inB hown hK hP 0 rfl rfl 5 (by decide) (htx _ kw_1_100) (fun _ h9 => h9) rfl dB_binary_39 ?_
  have hPc := hP.sub (ws' := [(a1, .inr (2, [v26, v27, v28]))]) [1] rfl
  have hDc := hD.sub (ws' := [(a1, .inr (2, [v26, v27, v28]))]) [1] (by decide) rfl
  have hFc := va_free (wc := [(a1, .inr (2, [v26, v27, v28]))]) hD hS hA [1] rfl
  refine va_callv (va_runV (C := "ValueBench$Row") (As := []) (rest := []) ⟨hx, hb, hml, hown, htx⟩ (cR_clear_0 l hl9 D cT aK aV H.size a1 v26 v27 v28) ⟨callB_of 0 htx (xw_goodC kw_2_22) rfl rfl rfl (htx _ kw_1_4) (htx _ kw_2_19) ⟨by decide, by decide, by decide +kernel⟩ ⟨Nat.le_of_ble_eq_true rfl, Nat.le_of_ble_eq_true rfl⟩, (htx _ kw_2_20), (htx _ kw_2_21)⟩ ⟨xPre_blind, va_recv hK hP (ci := 2) rfl (q0 := 1) rfl, (fun U hU hW => ⟨rfl, xPre_of hZ hS hFc hPc hDc hK U hU hW⟩)⟩ rfl rfl hl.1 rfl (lv_room (Nat.le_of_ble_eq_true rfl)) dB_binary_42 ⟨Nat.le_of_ble_eq_true rfl, Nat.le_of_ble_eq_true rfl⟩) hS (fun q _ h => hFc q h) hFc (fun u9 t H1 locs ht hvm hr9 hB hz1 hk1 hS => ?_)
  obtain ⟨hP1, hK1, hD1⟩ := hB
  rw [ht] at hP1
  obtain ⟨hP, hD⟩ := va_join (wr := [(a0, .inr (0, [v20, v21, v22, .ref a2, v23, .ref a1, v24, v25])), (a2, .inl (cT 3, 8, .inr (.inr (.inr (.inr f29))))), (a3, .inr (2, [.ref a4, .int 1, v33])), (a4, .inl (cT 2, 4096, .inr (.inl f34)))]) (w1 := [(a1, .inr (2, [v26, .int 0, .int 0]))]) hP hD [1] [0, 2, 3, 4] rfl rfl (by decide) (by decide) hk1 hFc hP1 hD1
  generalize H1 = H at hP hS ⊢
  have hP : va_P D xcl [(a0, .inr (0, [v20, v21, v22, .ref a2, v23, .ref a1, v24, v25])), (a2, .inl (cT 3, 8, .inr (.inr (.inr (.inr f29))))), (a3, .inr (2, [.ref a4, .int 1, v33])), (a4, .inl (cT 2, 4096, .inr (.inl f34))), (a1, .inr (2, [v26, .int 0, .int 0]))] H := hP
  have hD : va_D A [(a0, .inr (0, [v20, v21, v22, .ref a2, v23, .ref a1, v24, v25])), (a2, .inl (cT 3, 8, .inr (.inr (.inr (.inr f29))))), (a3, .inr (2, [.ref a4, .int 1, v33])), (a4, .inl (cT 2, 4096, .inr (.inl f34))), (a1, .inr (2, [v26, .int 0, .int 0]))] := hD
  refine lv_aload_n hx hb dB_binary_45 rfl (lv_at hl 0 rfl) ?_
  refine lv_iload_n hx hb dB_binary_46 rfl (lv_at hl 2 rfl) ?_
  refine lv_aload_n hx hb dB_binary_47 rfl (lv_at hl 0 rfl) ?_
  refine va_get (D := D) (ci := 0) (v := .ref a2) (C := "ValueBench") (T := TB) (N := 8) hx hb htx inB hown hK hP 0 rfl rfl 3 (by decide) (htx _ kw_1_98) (fun _ h9 => h9) rfl dB_binary_48 ?_
  refine lv_iload_n hx hb dB_binary_51 rfl (lv_at hl 3 rfl) ?_
  refine va_aldq hx hb hK hP 1 3 rfl rfl h14 dB_binary_52 ?_
  refine W.eq (g2 := F0 m 53 ls [va_rf (f29 x10.toNatClampNeg), .int 2, .ref a0]) rfl ?_
  rw [h30]
  refine W.eq (g2 := F0 m 53 ls [.ref a3, .int 2, .ref a0]) rfl ?_
  refine lv_aload_n hx hb dB_binary_53 rfl (lv_at hl 0 rfl) ?_
  refine va_get (D := D) (ci := 0) (v := .ref a2) (C := "ValueBench") (T := TB) (N := 8) hx hb htx inB hown hK hP 0 rfl rfl 3 (by decide) (htx _ kw_1_98) (fun _ h9 => h9) rfl dB_binary_54 ?_
  refine lv_iload hx hb dB_binary_57 (lv_at hl 4 rfl) ?_
  refine va_aldq hx hb hK hP 1 3 rfl rfl h19 dB_binary_59 ?_
  refine W.eq (g2 := F0 m 60 ls [va_rf (f29 x15.toNatClampNeg), .ref a3, .int 2, .ref a0]) rfl ?_
  rw [h32]
  refine W.eq (g2 := F0 m 60 ls [.ref b31, .ref a3, .int 2, .ref a0]) rfl ?_
  refine lv_aload_n hx hb dB_binary_60 rfl (lv_at hl 0 rfl) ?_
  refine va_get (D := D) (ci := 0) (v := .ref a1) (C := "ValueBench") (T := TB) (N := 8) hx hb htx inB hown hK hP 0 rfl rfl 5 (by decide) (htx _ kw_1_100) (fun _ h9 => h9) rfl dB_binary_61 ?_
  have hPc := hP.sub (ws' := [(a3, .inr (2, [.ref a4, .int 1, v33])), (a4, .inl (cT 2, 4096, .inr (.inl f34)))]) [2, 3] rfl
  have hDc := hD.sub (ws' := [(a3, .inr (2, [.ref a4, .int 1, v33])), (a4, .inl (cT 2, 4096, .inr (.inl f34)))]) [2, 3] (by decide) rfl
  have hFc := va_free (wc := [(a3, .inr (2, [.ref a4, .int 1, v33])), (a4, .inl (cT 2, 4096, .inr (.inl f34)))]) hD hS hA [2, 3] rfl
  refine va_calli (va_runS (As := [.int 2, .ref a3, .ref b31, .ref a1]) (rest := [.ref a0]) ⟨hx, hb, hml, hown, htx⟩ (cA_apply_4 l hl9 D cT aK aV H.size a3 a4 b31 a1 v33 f34 (by first | rfl | exact h30 | exact h32 | exact h35)) ⟨callB_of 4 htx (xw_goodC kw_3_105) rfl rfl rfl (htx _ kw_1_21) (htx _ kw_3_103) ⟨by decide, by decide, by decide +kernel⟩ ⟨Nat.le_of_ble_eq_true rfl, Nat.le_of_ble_eq_true rfl⟩, htx _ kw_3_104⟩ ⟨xPre_blind, (fun U hU hW => ⟨rfl, xPre_of hZ hS hFc hPc hDc hK U hU hW⟩)⟩ rfl rfl hl.1 rfl (lv_room (Nat.le_of_ble_eq_true rfl)) dB_binary_64 ⟨Nat.le_of_ble_eq_true rfl, Nat.le_of_ble_eq_true rfl⟩) hS (fun q _ h => hFc q h) hFc (fun r5 u9 t H1 locs ht hvm hr9 hB hz1 hk1 hS => ?_)
  obtain ⟨hP1, hK1, hD1⟩ := hB
  rw [ht] at hP1
  obtain ⟨hP, hD⟩ := va_join (wr := [(a0, .inr (0, [v20, v21, v22, .ref a2, v23, .ref a1, v24, v25])), (a2, .inl (cT 3, 8, .inr (.inr (.inr (.inr f29))))), (a1, .inr (2, [v26, .int 0, .int 0]))]) (w1 := [(a3, .inr (2, [.ref a4, .int 1, v33])), (a4, .inl (cT 2, 4096, .inr (.inl f34)))]) hP hD [2, 3] [0, 1, 4] rfl rfl (by decide) (by decide) hk1 hFc hP1 hD1
  generalize H1 = H at hP hS ⊢
  have hP : va_P D xcl [(a0, .inr (0, [v20, v21, v22, .ref a2, v23, .ref a1, v24, v25])), (a2, .inl (cT 3, 8, .inr (.inr (.inr (.inr f29))))), (a1, .inr (2, [v26, .int 0, .int 0])), (a3, .inr (2, [.ref a4, .int 1, v33])), (a4, .inl (cT 2, 4096, .inr (.inl f34)))] H := hP
  have hD : va_D A [(a0, .inr (0, [v20, v21, v22, .ref a2, v23, .ref a1, v24, v25])), (a2, .inl (cT 3, 8, .inr (.inr (.inr (.inr f29))))), (a1, .inr (2, [v26, .int 0, .int 0])), (a3, .inr (2, [.ref a4, .int 1, v33])), (a4, .inl (cT 2, 4096, .inr (.inl f34)))] := hD
  rw [hr9]
  refine W.eq (g2 := F0 m 67 ls [.int 1, .ref a0]) rfl ?_
  have hPc := hP.sub (ws' := [(a0, .inr (0, [v20, v21, v22, .ref a2, v23, .ref a1, v24, v25]))]) [0] rfl
  have hDc := hD.sub (ws' := [(a0, .inr (0, [v20, v21, v22, .ref a2, v23, .ref a1, v24, v25]))]) [0] (by decide) rfl
  have hFc := va_free (wc := [(a0, .inr (0, [v20, v21, v22, .ref a2, v23, .ref a1, v24, v25]))]) hD hS hA [0] rfl
  refine xx_thr (vx_runV (C := "ValueBench") (As := [.int 1]) (rest := []) ⟨hx, hb, hml, hown, htx⟩ (cB_demandDone_1 l hl9 D cT aK aV H.size a0 v20 v21 v22 (.ref a2) v23 (.ref a1) v24 v25) ⟨callB_of 1 htx (xw_goodC kw_3_222) rfl rfl rfl (htx _ kw_1_1) (htx _ kw_3_219) ⟨by decide, by decide, by decide +kernel⟩ ⟨Nat.le_of_ble_eq_true rfl, Nat.le_of_ble_eq_true rfl⟩, (htx _ kw_3_221), (htx _ kp_B_demandDone)⟩ ⟨xPre_blind, va_recv hK hP (ci := 0) rfl (q0 := 0) rfl, (fun U hU hW => ⟨rfl, xPre_of hZ hS hFc hPc hDc hK U hU hW⟩)⟩ rfl rfl hl.1 rfl (lv_room (Nat.le_of_ble_eq_true rfl)) dB_binary_67 ⟨Nat.le_of_ble_eq_true rfl, Nat.le_of_ble_eq_true rfl⟩) hS hFc (fun q _ h => hFc q h) (fun E ce q9 u9 t H1 locs ht hvm _ hB hz1 hk1 hS hce hcv hcl => ?_)
  obtain ⟨rfl, hP1, hK1, hD1⟩ := hB
  rw [ht] at hP1
  obtain ⟨hP, hD⟩ := va_join (wr := [(a2, .inl (cT 3, 8, .inr (.inr (.inr (.inr f29))))), (a1, .inr (2, [v26, .int 0, .int 0])), (a3, .inr (2, [.ref a4, .int 1, v33])), (a4, .inl (cT 2, 4096, .inr (.inl f34)))]) (w1 := [(a0, .inr (0, [v20, v21, v22, .ref a2, v23, .ref a1, v24, .int 1]))]) hP hD [0] [1, 2, 3, 4] rfl rfl (by decide) (by decide) hk1 hFc hP1 hD1
  generalize H1 = H at hP hS hce ⊢
  have hP : va_P D xcl [(a2, .inl (cT 3, 8, .inr (.inr (.inr (.inr f29))))), (a1, .inr (2, [v26, .int 0, .int 0])), (a3, .inr (2, [.ref a4, .int 1, v33])), (a4, .inl (cT 2, 4096, .inr (.inl f34))), (a0, .inr (0, [v20, v21, v22, .ref a2, v23, .ref a1, v24, .int 1]))] H := hP
  have hD : va_D A [(a2, .inl (cT 3, 8, .inr (.inr (.inr (.inr f29))))), (a1, .inr (2, [v26, .int 0, .int 0])), (a3, .inr (2, [.ref a4, .int 1, v33])), (a4, .inl (cT 2, 4096, .inr (.inl f34))), (a0, .inr (0, [v20, v21, v22, .ref a2, v23, .ref a1, v24, .int 1]))] := hD
  have hP9 := hP.sub (ws' := [(a0, .inr (0, [v20, v21, v22, .ref a2, v23, .ref a1, v24, .int 1])), (a1, .inr (2, [v26, .int 0, .int 0])), (a2, .inl (cT 3, 8, .inr (.inr (.inr (.inr f29))))), (a3, .inr (2, [.ref a4, .int 1, v33])), (a4, .inl (cT 2, 4096, .inr (.inl f34)))]) [4, 1, 0, 2, 3] rfl
  have hD9 := hD.sub (ws' := [(a0, .inr (0, [v20, v21, v22, .ref a2, v23, .ref a1, v24, .int 1])), (a1, .inr (2, [v26, .int 0, .int 0])), (a2, .inl (cT 3, 8, .inr (.inr (.inr (.inr f29))))), (a3, .inr (2, [.ref a4, .int 1, v33])), (a4, .inl (cT 2, 4096, .inr (.inl f34)))]) [4, 1, 0, 2, 3] (by decide) rfl
  exact vx_out (E := "java/lang/ArithmeticException") (fun x h => (hne x h).elim) hlocks hce hcv hcl (fun t ht ha => ⟨(), trivial, ⟨rfl, by rw [ht]; exact hP9, va_K.moved ha hK, hD9⟩, hS.F ht⟩) hS.2.2 (Nat.le_of_ble_eq_true rfl) (Nat.le_of_ble_eq_true rfl)
set_option maxHeartbeats 4000000 in
set_option maxRecDepth 100000 in
theorem cA_times_1 (l : Launch) (hl9 : l.stackTraces = false) (D : va_G) (cT : Nat → ClassId) (aK aV : Nat → Nat) (sz : Nat) (a0 : Nat) (a1 : Nat) (b2 : Nat) (v3 : Value) (f4 : Nat → Int64) (h5 : f4 0 = 0) : Met l yA_times wyA_times ({ frames := 2, cells := 0, slots := 0, locals := 43 }) (va_Pc [.ref a0, .ref a0, .ref b2] (xPre D xcl cT aK aV sz [(a0, .inr (2, [.ref a1, .int 1, v3])), (a1, .inl (cT 2, 4096, .inr (.inl f4)))])) (va_Qi (fun (r : Int32) (_ : Unit) => r = 1) (fun _ t => xB D xcl cT (va_A [(a0, .inr (2, [.ref a1, .int 1, v3])), (a1, .inl (cT 2, 4096, .inr (.inl f4)))] sz) [(a0, .inr (2, [.ref a1, .int 1, v3])), (a1, .inl (cT 2, 4096, .inr (.inl f4)))] t) (va_A [(a0, .inr (2, [.ref a1, .int 1, v3])), (a1, .inl (cT 2, 4096, .inr (.inl f4)))] sz)) 0 0 (va_A [(a0, .inr (2, [.ref a1, .int 1, v3])), (a1, .inl (cT 2, 4096, .inr (.inl f4)))] sz) := by
  refine Met.ofW (cc := prog_3_method_12_code) (maxL := 3) (ret := (some .int)) (by decide) rfl ?_
  intro p e s m args below meth c s₁ B hml hv
  obtain ⟨rfl, hsz, hZ, hP, hK, hD0⟩ := hv
  have hx := B.exec
  have hb := B.bytes
  have hr := B.returns
  have hts := atoms_spec (ws := wyA_times) B.pre
  have htx := fun w h => hts w (List.mem_cons_of_mem _ h)
  have hown : s.vm.findClass "ValueBench$Operators" = some m.cls := findClass_of_methodNamed B.named
  have hlocks := B.notSynchronized
  subst hsz
  have hD := hD0.self (sz := s.heap.size)
  generalize hAe : va_A [(a0, .inr (2, [.ref a1, .int 1, v3])), (a1, .inl (cT 2, 4096, .inr (.inl f4)))] s.heap.size = A at hD hZ ⊢
  have hA : ∀ q : Nat, s.heap.size ≤ q → A q := fun q h => by rw [← hAe]; exact Or.inr h
  have hS : va_S A s.heap s.heap [] := va_S.rf
  have hP : va_P D xcl [(a0, .inr (2, [.ref a1, .int 1, v3])), (a1, .inl (cT 2, 4096, .inr (.inl f4)))] s.heap := hP
  have hl := lv_entry ([.ref a0, .ref a0, .ref b2]) (n := 3) (Nat.le_of_ble_eq_true rfl)
  rw [lg_entry_eq]
  generalize (lg_sl ([.ref a0, .ref a0, .ref b2]) ++ List.replicate (3 - (lg_sl ([.ref a0, .ref a0, .ref b2])).length) Slot.unset).toArray = ls at hl ⊢
  have hl : lv_has ls 3 [(0, .ref a0), (1, .ref a0), (2, .ref b2)] := hl
  refine lv_aload_n hx hb dA_times_0 rfl (lv_at hl 0 rfl) ?_
  refine lv_iconst (v := 0) hx hb dA_times_1 (by decide) ?_
  refine lv_bipush (v := 6) hx hb dA_times_2 (by decide) ?_
  have hPc := hP.sub (ws' := [(a0, .inr (2, [.ref a1, .int 1, v3])), (a1, .inl (cT 2, 4096, .inr (.inl f4)))]) [0, 1] rfl
  have hDc := hD.sub (ws' := [(a0, .inr (2, [.ref a1, .int 1, v3])), (a1, .inl (cT 2, 4096, .inr (.inl f4)))]) [0, 1] (by decide) rfl
  have hFc := va_free (wc := [(a0, .inr (2, [.ref a1, .int 1, v3])), (a1, .inl (cT 2, 4096, .inr (.inl f4)))]) hD hS hA [0, 1] rfl
  refine va_calli (va_runV (C := "ValueBench$Row") (As := [.int 0, .int 6]) (rest := []) ⟨hx, hb, hml, hown, htx⟩ (cR_is_1 l hl9 D cT aK aV s.heap.size a0 a1 v3 f4 (by first | rfl | exact h5)) ⟨callB_of 2 htx (xw_goodC kw_3_75) rfl rfl rfl (htx _ kw_1_4) (htx _ kw_3_106) ⟨by decide, by decide, by decide +kernel⟩ ⟨Nat.le_of_ble_eq_true rfl, Nat.le_of_ble_eq_true rfl⟩, (htx _ kw_3_73), (htx _ kw_3_74)⟩ ⟨xPre_blind, va_recv hK hP (ci := 2) rfl (q0 := 0) rfl, (fun U hU hW => ⟨rfl, xPre_of hZ hS hFc hPc hDc hK U hU hW⟩)⟩ rfl rfl hl.1 rfl (lv_room (Nat.le_of_ble_eq_true rfl)) dA_times_4 ⟨Nat.le_of_ble_eq_true rfl, Nat.le_of_ble_eq_true rfl⟩) hS (fun q _ h => hFc q h) hFc (fun r1 u9 t H1 locs ht hvm hr9 hB hz1 hk1 hS => ?_)
  obtain ⟨hP1, hK1, hD1⟩ := hB
  rw [ht] at hP1
  obtain ⟨hP, hD⟩ := va_join (wr := []) (w1 := [(a0, .inr (2, [.ref a1, .int 1, v3])), (a1, .inl (cT 2, 4096, .inr (.inl f4)))]) hP hD [0, 1] [] rfl rfl (by decide) (by decide) hk1 hFc hP1 hD1
  generalize H1 = H at hP hS ⊢
  have hP : va_P D xcl [(a0, .inr (2, [.ref a1, .int 1, v3])), (a1, .inl (cT 2, 4096, .inr (.inl f4)))] H := hP
  have hD : va_D A [(a0, .inr (2, [.ref a1, .int 1, v3])), (a1, .inl (cT 2, 4096, .inr (.inl f4)))] := hD
  rw [hr9]
  refine W.eq (g2 := F0 m 7 ls [.int 0]) rfl ?_
  refine lv_if_eq (tgt := 32) hx hb dA_times_7 (by decide) (fun _ => ?_) (fun h => ((by revert h; decide : False)).elim)
  refine lv_aload_n hx hb dA_times_32 rfl (lv_at hl 0 rfl) ?_
  refine lv_iconst (v := 0) hx hb dA_times_33 (by decide) ?_
  refine lv_iconst (v := 4) hx hb dA_times_34 (by decide) ?_
  have hPc := hP.sub (ws' := [(a0, .inr (2, [.ref a1, .int 1, v3])), (a1, .inl (cT 2, 4096, .inr (.inl f4)))]) [0, 1] rfl
  have hDc := hD.sub (ws' := [(a0, .inr (2, [.ref a1, .int 1, v3])), (a1, .inl (cT 2, 4096, .inr (.inl f4)))]) [0, 1] (by decide) rfl
  have hFc := va_free (wc := [(a0, .inr (2, [.ref a1, .int 1, v3])), (a1, .inl (cT 2, 4096, .inr (.inl f4)))]) hD hS hA [0, 1] rfl
  refine va_calli (va_runV (C := "ValueBench$Row") (As := [.int 0, .int 4]) (rest := []) ⟨hx, hb, hml, hown, htx⟩ (cR_is_3 l hl9 D cT aK aV H.size a0 a1 v3 f4 (by first | rfl | exact h5)) ⟨callB_of 2 htx (xw_goodC kw_3_75) rfl rfl rfl (htx _ kw_1_4) (htx _ kw_3_106) ⟨by decide, by decide, by decide +kernel⟩ ⟨Nat.le_of_ble_eq_true rfl, Nat.le_of_ble_eq_true rfl⟩, (htx _ kw_3_73), (htx _ kw_3_74)⟩ ⟨xPre_blind, va_recv hK hP (ci := 2) rfl (q0 := 0) rfl, (fun U hU hW => ⟨rfl, xPre_of hZ hS hFc hPc hDc hK U hU hW⟩)⟩ rfl rfl hl.1 rfl (lv_room (Nat.le_of_ble_eq_true rfl)) dA_times_35 ⟨Nat.le_of_ble_eq_true rfl, Nat.le_of_ble_eq_true rfl⟩) hS (fun q _ h => hFc q h) hFc (fun r2 u9 t H1 locs ht hvm hr9 hB hz1 hk1 hS => ?_)
  obtain ⟨hP1, hK1, hD1⟩ := hB
  rw [ht] at hP1
  obtain ⟨hP, hD⟩ := va_join (wr := []) (w1 := [(a0, .inr (2, [.ref a1, .int 1, v3])), (a1, .inl (cT 2, 4096, .inr (.inl f4)))]) hP hD [0, 1] [] rfl rfl (by decide) (by decide) hk1 hFc hP1 hD1
  generalize H1 = H at hP hS ⊢
  have hP : va_P D xcl [(a0, .inr (2, [.ref a1, .int 1, v3])), (a1, .inl (cT 2, 4096, .inr (.inl f4)))] H := hP
  have hD : va_D A [(a0, .inr (2, [.ref a1, .int 1, v3])), (a1, .inl (cT 2, 4096, .inr (.inl f4)))] := hD
  rw [hr9]
  refine W.eq (g2 := F0 m 38 ls [.int 0]) rfl ?_
  refine lv_if_eq (tgt := 62) hx hb dA_times_38 (by decide) (fun _ => ?_) (fun h => ((by revert h; decide : False)).elim)
  refine lv_aload_n hx hb dA_times_62 rfl (lv_at hl 0 rfl) ?_
  refine lv_iconst (v := 0) hx hb dA_times_63 (by decide) ?_
  refine lv_iconst (v := 3) hx hb dA_times_64 (by decide) ?_
  have hPc := hP.sub (ws' := [(a0, .inr (2, [.ref a1, .int 1, v3])), (a1, .inl (cT 2, 4096, .inr (.inl f4)))]) [0, 1] rfl
  have hDc := hD.sub (ws' := [(a0, .inr (2, [.ref a1, .int 1, v3])), (a1, .inl (cT 2, 4096, .inr (.inl f4)))]) [0, 1] (by decide) rfl
  have hFc := va_free (wc := [(a0, .inr (2, [.ref a1, .int 1, v3])), (a1, .inl (cT 2, 4096, .inr (.inl f4)))]) hD hS hA [0, 1] rfl
  refine va_calli (va_runV (C := "ValueBench$Row") (As := [.int 0, .int 3]) (rest := []) ⟨hx, hb, hml, hown, htx⟩ (cR_is_4 l hl9 D cT aK aV H.size a0 a1 v3 f4 (by first | rfl | exact h5)) ⟨callB_of 2 htx (xw_goodC kw_3_75) rfl rfl rfl (htx _ kw_1_4) (htx _ kw_3_106) ⟨by decide, by decide, by decide +kernel⟩ ⟨Nat.le_of_ble_eq_true rfl, Nat.le_of_ble_eq_true rfl⟩, (htx _ kw_3_73), (htx _ kw_3_74)⟩ ⟨xPre_blind, va_recv hK hP (ci := 2) rfl (q0 := 0) rfl, (fun U hU hW => ⟨rfl, xPre_of hZ hS hFc hPc hDc hK U hU hW⟩)⟩ rfl rfl hl.1 rfl (lv_room (Nat.le_of_ble_eq_true rfl)) dA_times_65 ⟨Nat.le_of_ble_eq_true rfl, Nat.le_of_ble_eq_true rfl⟩) hS (fun q _ h => hFc q h) hFc (fun r3 u9 t H1 locs ht hvm hr9 hB hz1 hk1 hS => ?_)
  obtain ⟨hP1, hK1, hD1⟩ := hB
  rw [ht] at hP1
  obtain ⟨hP, hD⟩ := va_join (wr := []) (w1 := [(a0, .inr (2, [.ref a1, .int 1, v3])), (a1, .inl (cT 2, 4096, .inr (.inl f4)))]) hP hD [0, 1] [] rfl rfl (by decide) (by decide) hk1 hFc hP1 hD1
  generalize H1 = H at hP hS ⊢
  have hP : va_P D xcl [(a0, .inr (2, [.ref a1, .int 1, v3])), (a1, .inl (cT 2, 4096, .inr (.inl f4)))] H := hP
  have hD : va_D A [(a0, .inr (2, [.ref a1, .int 1, v3])), (a1, .inl (cT 2, 4096, .inr (.inl f4)))] := hD
  rw [hr9]
  refine W.eq (g2 := F0 m 68 ls [.int 0]) rfl ?_
  refine lv_if_eq (tgt := 92) hx hb dA_times_68 (by decide) (fun _ => ?_) (fun h => ((by revert h; decide : False)).elim)
  refine lv_iconst (v := 1) hx hb dA_times_92 (by decide) ?_
  have hP9 := hP.sub (ws' := [(a0, .inr (2, [.ref a1, .int 1, v3])), (a1, .inl (cT 2, 4096, .inr (.inl f4)))]) [0, 1] rfl
  have hD9 := hD.sub (ws' := [(a0, .inr (2, [.ref a1, .int 1, v3])), (a1, .inl (cT 2, 4096, .inr (.inl f4)))]) [0, 1] (by decide) rfl
  refine W.widen (k := 0) (n := 0) (Nat.le_of_ble_eq_true rfl) (Nat.le_of_ble_eq_true rfl) ?_
  exact W.iret (v := 1) hx hb hr (fun t ht hW => ⟨⟨1, (), rfl, rfl, by rw [ht]; exact hP9, va_K.moved hW.alike hK, hD9⟩, hS.F ht⟩) hS.2.2 dA_times_93
set_option maxHeartbeats 4000000 in
set_option maxRecDepth 100000 in
theorem cA_apply_5 (l : Launch) (hl9 : l.stackTraces = false) (D : va_G) (cT : Nat → ClassId) (aK aV : Nat → Nat) (sz : Nat) (a0 : Nat) (a1 : Nat) (b2 : Nat) (v3 : Value) (f4 : Nat → Int64) (h5 : f4 0 = 0) : Met l yA_apply wyA_apply ({ frames := 3, cells := 0, slots := 0, locals := 65 }) (va_Pc [.int 2, .ref a0, .ref a0, .ref b2] (xPre D xcl cT aK aV sz [(a0, .inr (2, [.ref a1, .int 1, v3])), (a1, .inl (cT 2, 4096, .inr (.inl f4)))])) (va_Qi (fun (r : Int32) (_ : Unit) => r = 1) (fun _ t => xB D xcl cT (va_A [(a0, .inr (2, [.ref a1, .int 1, v3])), (a1, .inl (cT 2, 4096, .inr (.inl f4)))] sz) [(a0, .inr (2, [.ref a1, .int 1, v3])), (a1, .inl (cT 2, 4096, .inr (.inl f4)))] t) (va_A [(a0, .inr (2, [.ref a1, .int 1, v3])), (a1, .inl (cT 2, 4096, .inr (.inl f4)))] sz)) 0 0 (va_A [(a0, .inr (2, [.ref a1, .int 1, v3])), (a1, .inl (cT 2, 4096, .inr (.inl f4)))] sz) := by
  refine Met.ofW (cc := prog_3_method_2_code) (maxL := 4) (ret := (some .int)) (by decide) rfl ?_
  intro p e s m args below meth c s₁ B hml hv
  obtain ⟨rfl, hsz, hZ, hP, hK, hD0⟩ := hv
  have hx := B.exec
  have hb := B.bytes
  have hr := B.returns
  have hts := atoms_spec (ws := wyA_apply) B.pre
  have htx := fun w h => hts w (List.mem_cons_of_mem _ h)
  have hown : s.vm.findClass "ValueBench$Operators" = some m.cls := findClass_of_methodNamed B.named
  have hlocks := B.notSynchronized
  subst hsz
  have hD := hD0.self (sz := s.heap.size)
  generalize hAe : va_A [(a0, .inr (2, [.ref a1, .int 1, v3])), (a1, .inl (cT 2, 4096, .inr (.inl f4)))] s.heap.size = A at hD hZ ⊢
  have hA : ∀ q : Nat, s.heap.size ≤ q → A q := fun q h => by rw [← hAe]; exact Or.inr h
  have hS : va_S A s.heap s.heap [] := va_S.rf
  have hP : va_P D xcl [(a0, .inr (2, [.ref a1, .int 1, v3])), (a1, .inl (cT 2, 4096, .inr (.inl f4)))] s.heap := hP
  have hl := lv_entry ([.int 2, .ref a0, .ref a0, .ref b2]) (n := 4) (Nat.le_of_ble_eq_true rfl)
  rw [lg_entry_eq]
  generalize (lg_sl ([.int 2, .ref a0, .ref a0, .ref b2]) ++ List.replicate (4 - (lg_sl ([.int 2, .ref a0, .ref a0, .ref b2])).length) Slot.unset).toArray = ls at hl ⊢
  have hl : lv_has ls 4 [(0, .int 2), (1, .ref a0), (2, .ref a0), (3, .ref b2)] := hl
  refine lv_aload_n hx hb dA_apply_0 rfl (lv_at hl 1 rfl) ?_
  refine lv_iconst (v := 0) hx hb dA_apply_1 (by decide) ?_
  refine lv_iconst (v := 3) hx hb dA_apply_2 (by decide) ?_
  have hPc := hP.sub (ws' := [(a0, .inr (2, [.ref a1, .int 1, v3])), (a1, .inl (cT 2, 4096, .inr (.inl f4)))]) [0, 1] rfl
  have hDc := hD.sub (ws' := [(a0, .inr (2, [.ref a1, .int 1, v3])), (a1, .inl (cT 2, 4096, .inr (.inl f4)))]) [0, 1] (by decide) rfl
  have hFc := va_free (wc := [(a0, .inr (2, [.ref a1, .int 1, v3])), (a1, .inl (cT 2, 4096, .inr (.inl f4)))]) hD hS hA [0, 1] rfl
  refine va_calli (va_runV (C := "ValueBench$Row") (As := [.int 0, .int 3]) (rest := []) ⟨hx, hb, hml, hown, htx⟩ (cR_is_4 l hl9 D cT aK aV s.heap.size a0 a1 v3 f4 (by first | rfl | exact h5)) ⟨callB_of 2 htx (xw_goodC kw_3_75) rfl rfl rfl (htx _ kw_1_4) (htx _ kw_3_106) ⟨by decide, by decide, by decide +kernel⟩ ⟨Nat.le_of_ble_eq_true rfl, Nat.le_of_ble_eq_true rfl⟩, (htx _ kw_3_73), (htx _ kw_3_74)⟩ ⟨xPre_blind, va_recv hK hP (ci := 2) rfl (q0 := 0) rfl, (fun U hU hW => ⟨rfl, xPre_of hZ hS hFc hPc hDc hK U hU hW⟩)⟩ rfl rfl hl.1 rfl (lv_room (Nat.le_of_ble_eq_true rfl)) dA_apply_3 ⟨Nat.le_of_ble_eq_true rfl, Nat.le_of_ble_eq_true rfl⟩) hS (fun q _ h => hFc q h) hFc (fun r1 u9 t H1 locs ht hvm hr9 hB hz1 hk1 hS => ?_)
  obtain ⟨hP1, hK1, hD1⟩ := hB
  rw [ht] at hP1
  obtain ⟨hP, hD⟩ := va_join (wr := []) (w1 := [(a0, .inr (2, [.ref a1, .int 1, v3])), (a1, .inl (cT 2, 4096, .inr (.inl f4)))]) hP hD [0, 1] [] rfl rfl (by decide) (by decide) hk1 hFc hP1 hD1
  generalize H1 = H at hP hS ⊢
  have hP : va_P D xcl [(a0, .inr (2, [.ref a1, .int 1, v3])), (a1, .inl (cT 2, 4096, .inr (.inl f4)))] H := hP
  have hD : va_D A [(a0, .inr (2, [.ref a1, .int 1, v3])), (a1, .inl (cT 2, 4096, .inr (.inl f4)))] := hD
  rw [hr9]
  refine W.eq (g2 := F0 m 6 ls [.int 0]) rfl ?_
  refine lv_if_eq (tgt := 34) hx hb dA_apply_6 (by decide) (fun _ => ?_) (fun h => ((by revert h; decide : False)).elim)
  refine lv_iload_n hx hb dA_apply_34 rfl (lv_at hl 0 rfl) ?_
  refine lv_tableIn (off := 43) (tgt := 78) hx hb dA_apply_35 (by decide) (by decide) (by decide) (by decide) ?_
  refine lv_aload_n hx hb dA_apply_78 rfl (lv_at hl 1 rfl) ?_
  refine lv_aload_n hx hb dA_apply_79 rfl (lv_at hl 2 rfl) ?_
  refine lv_aload_n hx hb dA_apply_80 rfl (lv_at hl 3 rfl) ?_
  have hPc := hP.sub (ws' := [(a0, .inr (2, [.ref a1, .int 1, v3])), (a1, .inl (cT 2, 4096, .inr (.inl f4)))]) [0, 1] rfl
  have hDc := hD.sub (ws' := [(a0, .inr (2, [.ref a1, .int 1, v3])), (a1, .inl (cT 2, 4096, .inr (.inl f4)))]) [0, 1] (by decide) rfl
  have hFc := va_free (wc := [(a0, .inr (2, [.ref a1, .int 1, v3])), (a1, .inl (cT 2, 4096, .inr (.inl f4)))]) hD hS hA [0, 1] rfl
  refine va_calli (va_runS (As := [.ref a0, .ref a0, .ref b2]) (rest := []) ⟨hx, hb, hml, hown, htx⟩ (cA_times_1 l hl9 D cT aK aV H.size a0 a1 b2 v3 f4 (by first | rfl | exact h5)) ⟨callB_of 3 htx (xw_goodC kw_3_189) rfl rfl rfl (htx _ kw_1_21) (htx _ kw_3_187) ⟨by decide, by decide, by decide +kernel⟩ ⟨Nat.le_of_ble_eq_true rfl, Nat.le_of_ble_eq_true rfl⟩, htx _ kw_3_188⟩ ⟨xPre_blind, (fun U hU hW => ⟨rfl, xPre_of hZ hS hFc hPc hDc hK U hU hW⟩)⟩ rfl rfl hl.1 rfl (lv_room (Nat.le_of_ble_eq_true rfl)) dA_apply_81 ⟨Nat.le_of_ble_eq_true rfl, Nat.le_of_ble_eq_true rfl⟩) hS (fun q _ h => hFc q h) hFc (fun r2 u9 t H1 locs ht hvm hr9 hB hz1 hk1 hS => ?_)
  obtain ⟨hP1, hK1, hD1⟩ := hB
  rw [ht] at hP1
  obtain ⟨hP, hD⟩ := va_join (wr := []) (w1 := [(a0, .inr (2, [.ref a1, .int 1, v3])), (a1, .inl (cT 2, 4096, .inr (.inl f4)))]) hP hD [0, 1] [] rfl rfl (by decide) (by decide) hk1 hFc hP1 hD1
  generalize H1 = H at hP hS ⊢
  have hP : va_P D xcl [(a0, .inr (2, [.ref a1, .int 1, v3])), (a1, .inl (cT 2, 4096, .inr (.inl f4)))] H := hP
  have hD : va_D A [(a0, .inr (2, [.ref a1, .int 1, v3])), (a1, .inl (cT 2, 4096, .inr (.inl f4)))] := hD
  rw [hr9]
  refine W.eq (g2 := F0 m 84 ls [.int 1]) rfl ?_
  have hP9 := hP.sub (ws' := [(a0, .inr (2, [.ref a1, .int 1, v3])), (a1, .inl (cT 2, 4096, .inr (.inl f4)))]) [0, 1] rfl
  have hD9 := hD.sub (ws' := [(a0, .inr (2, [.ref a1, .int 1, v3])), (a1, .inl (cT 2, 4096, .inr (.inl f4)))]) [0, 1] (by decide) rfl
  refine W.widen (k := 0) (n := 0) (Nat.le_of_ble_eq_true rfl) (Nat.le_of_ble_eq_true rfl) ?_
  exact W.iret (v := 1) hx hb hr (fun t ht hW => ⟨⟨1, (), rfl, rfl, by rw [ht]; exact hP9, va_K.moved hW.alike hK, hD9⟩, hS.F ht⟩) hS.2.2 dA_apply_84
set_option maxHeartbeats 4000000 in
set_option maxRecDepth 100000 in
theorem cB_binary_5 (l : Launch) (hl9 : l.stackTraces = false) (D : va_G) (cT : Nat → ClassId) (aK aV : Nat → Nat) (sz : Nat) (a0 : Nat) (a1 : Nat) (a2 : Nat) (a3 : Nat) (a4 : Nat) (x5 : Int32) (x10 : Int32) (x15 : Int32) (v20 : Value) (v21 : Value) (v22 : Value) (v23 : Value) (v24 : Value) (v25 : Value) (v26 : Value) (v27 : Value) (v28 : Value) (f29 : Nat → Option Nat) (v32 : Value) (f33 : Nat → Int64) (h6 : ¬ x5 < 0) (h7 : ¬ 7 < x5) (h8 : x5 ≤ 7) (h9 : vp_in x5 8) (h11 : ¬ x10 < 0) (h12 : ¬ 7 < x10) (h13 : x10 ≤ 7) (h14 : vp_in x10 8) (h16 : ¬ x15 < 0) (h17 : ¬ 7 < x15) (h18 : x15 ≤ 7) (h19 : vp_in x15 8) (h30 : f29 x10.toNatClampNeg = some a3) (h31 : f29 x15.toNatClampNeg = some a3) (h34 : f33 0 = 0) : vx_Met l yB_binary wyB_binary ({ frames := 7, cells := 1, slots := 6, locals := 121 }) (va_Pc [.ref a0, .int x5, .int 2, .int x10, .int x15] (xPre D xcl cT aK aV sz [(a0, .inr (0, [v20, v21, v22, .ref a2, v23, .ref a1, v24, v25])), (a1, .inr (2, [v26, v27, v28])), (a2, .inl (cT 3, 8, .inr (.inr (.inr (.inr f29))))), (a3, .inr (2, [.ref a4, .int 1, v32])), (a4, .inl (cT 2, 4096, .inr (.inl f33)))])) (fun _ _ _ _ => False) (vx_X (fun _ : Unit => True) (fun E _ t => E = "java/lang/ArithmeticException" ∧ xB D xcl cT (va_A [(a0, .inr (0, [v20, v21, v22, .ref a2, v23, .ref a1, v24, v25])), (a1, .inr (2, [v26, v27, v28])), (a2, .inl (cT 3, 8, .inr (.inr (.inr (.inr f29))))), (a3, .inr (2, [.ref a4, .int 1, v32])), (a4, .inl (cT 2, 4096, .inr (.inl f33)))] sz) [(a0, .inr (0, [v20, v21, v22, .ref a2, v23, .ref a1, v24, .int 1])), (a1, .inr (2, [v26, .int 0, .int 0])), (a2, .inl (cT 3, 8, .inr (.inr (.inr (.inr f29))))), (a3, .inr (2, [.ref a4, .int 1, v32])), (a4, .inl (cT 2, 4096, .inr (.inl f33)))] t) (va_A [(a0, .inr (0, [v20, v21, v22, .ref a2, v23, .ref a1, v24, v25])), (a1, .inr (2, [v26, v27, v28])), (a2, .inl (cT 3, 8, .inr (.inr (.inr (.inr f29))))), (a3, .inr (2, [.ref a4, .int 1, v32])), (a4, .inl (cT 2, 4096, .inr (.inl f33)))] sz)) 1 6 (va_A [(a0, .inr (0, [v20, v21, v22, .ref a2, v23, .ref a1, v24, v25])), (a1, .inr (2, [v26, v27, v28])), (a2, .inl (cT 3, 8, .inr (.inr (.inr (.inr f29))))), (a3, .inr (2, [.ref a4, .int 1, v32])), (a4, .inl (cT 2, 4096, .inr (.inl f33)))] sz) := by
  refine vx_ofW (cc := prog_1_method_6_code) (maxL := 5) (ret := none) (by decide) rfl ?_
  intro p e s m args below meth c s₁ B hml hne hv
  obtain ⟨rfl, hsz, hZ, hP, hK, hD0⟩ := hv
  have hx := B.exec
  have hb := B.bytes
  have hr := B.returns
  have hts := atoms_spec (ws := wyB_binary) B.pre
  have htx := fun w h => hts w (List.mem_cons_of_mem _ h)
  have hown : s.vm.findClass "ValueBench" = some m.cls := findClass_of_methodNamed B.named
  have hlocks := B.notSynchronized
  subst hsz
  have hD := hD0.self (sz := s.heap.size)
  generalize hAe : va_A [(a0, .inr (0, [v20, v21, v22, .ref a2, v23, .ref a1, v24, v25])), (a1, .inr (2, [v26, v27, v28])), (a2, .inl (cT 3, 8, .inr (.inr (.inr (.inr f29))))), (a3, .inr (2, [.ref a4, .int 1, v32])), (a4, .inl (cT 2, 4096, .inr (.inl f33)))] s.heap.size = A at hD hZ ⊢
  have hA : ∀ q : Nat, s.heap.size ≤ q → A q := fun q h => by rw [← hAe]; exact Or.inr h
  have hS : va_S A s.heap s.heap [] := va_S.rf
  have hP : va_P D xcl [(a0, .inr (0, [v20, v21, v22, .ref a2, v23, .ref a1, v24, v25])), (a1, .inr (2, [v26, v27, v28])), (a2, .inl (cT 3, 8, .inr (.inr (.inr (.inr f29))))), (a3, .inr (2, [.ref a4, .int 1, v32])), (a4, .inl (cT 2, 4096, .inr (.inl f33)))] s.heap := hP
  have hl := lv_entry ([.ref a0, .int x5, .int 2, .int x10, .int x15]) (n := 5) (Nat.le_of_ble_eq_true rfl)
  rw [lg_entry_eq]
  generalize (lg_sl ([.ref a0, .int x5, .int 2, .int x10, .int x15]) ++ List.replicate (5 - (lg_sl ([.ref a0, .int x5, .int 2, .int x10, .int x15])).length) Slot.unset).toArray = ls at hl ⊢
  have hl : lv_has ls 5 [(0, .ref a0), (1, .int x5), (2, .int 2), (3, .int x10), (4, .int x15)] := hl
  refine lv_iload_n hx hb dB_binary_0 rfl (lv_at hl 1 rfl) ?_
  have hPc := hP.sub (ws' := []) [] rfl
  have hDc := hD.sub (ws' := []) [] (by decide) rfl
  have hFc := va_free (wc := []) hD hS hA [] rfl
  refine va_calli (va_runS (As := [.int x5]) (rest := []) ⟨hx, hb, hml, hown, htx⟩ (cB_isRegister_0 l hl9 D cT aK aV s.heap.size x5 h6 h7 h8 h9) ⟨callB_of 1 htx (xw_goodC kw_2_18) rfl rfl rfl (htx _ kw_1_1) (htx _ kw_2_16) ⟨by decide, by decide, by decide +kernel⟩ ⟨Nat.le_of_ble_eq_true rfl, Nat.le_of_ble_eq_true rfl⟩, htx _ kw_2_17⟩ ⟨xPre_blind, (fun U hU hW => ⟨rfl, xPre_of hZ hS hFc hPc hDc hK U hU hW⟩)⟩ rfl rfl hl.1 rfl (lv_room (Nat.le_of_ble_eq_true rfl)) dB_binary_1 ⟨Nat.le_of_ble_eq_true rfl, Nat.le_of_ble_eq_true rfl⟩) hS (fun q _ h => hFc q h) hFc (fun r1 u9 t H1 locs ht hvm hr9 hB hz1 hk1 hS => ?_)
  obtain ⟨hP1, hK1, hD1⟩ := hB
  rw [ht] at hP1
  obtain ⟨hP, hD⟩ := va_join (wr := [(a0, .inr (0, [v20, v21, v22, .ref a2, v23, .ref a1, v24, v25])), (a1, .inr (2, [v26, v27, v28])), (a2, .inl (cT 3, 8, .inr (.inr (.inr (.inr f29))))), (a3, .inr (2, [.ref a4, .int 1, v32])), (a4, .inl (cT 2, 4096, .inr (.inl f33)))]) (w1 := []) hP hD [] [0, 1, 2, 3, 4] rfl rfl (by decide) (by decide) hk1 hFc hP1 hD1
  generalize H1 = H at hP hS ⊢
  have hP : va_P D xcl [(a0, .inr (0, [v20, v21, v22, .ref a2, v23, .ref a1, v24, v25])), (a1, .inr (2, [v26, v27, v28])), (a2, .inl (cT 3, 8, .inr (.inr (.inr (.inr f29))))), (a3, .inr (2, [.ref a4, .int 1, v32])), (a4, .inl (cT 2, 4096, .inr (.inl f33)))] H := hP
  have hD : va_D A [(a0, .inr (0, [v20, v21, v22, .ref a2, v23, .ref a1, v24, v25])), (a1, .inr (2, [v26, v27, v28])), (a2, .inl (cT 3, 8, .inr (.inr (.inr (.inr f29))))), (a3, .inr (2, [.ref a4, .int 1, v32])), (a4, .inl (cT 2, 4096, .inr (.inl f33)))] := hD
  rw [hr9]
  refine W.eq (g2 := F0 m 4 ls [.int 1]) rfl ?_
  refine lv_if_eq (tgt := 34) hx hb dB_binary_4 (by decide) (fun h => ((by revert h; decide : False)).elim) (fun _ => ?_)
  refine lv_iload_n hx hb dB_binary_7 rfl (lv_at hl 2 rfl) ?_
  refine lv_iconst (v := 4) hx hb dB_binary_8 (by decide) ?_
  have hPc := hP.sub (ws' := []) [] rfl
  have hDc := hD.sub (ws' := []) [] (by decide) rfl
  have hFc := va_free (wc := []) hD hS hA [] rfl
  refine va_calli (va_runS (As := [.int 2, .int 4]) (rest := []) ⟨hx, hb, hml, hown, htx⟩ (cB_isWithin_26 l hl9 D cT aK aV H.size) ⟨callB_of 2 htx (xw_goodC kw_1_218) rfl rfl rfl (htx _ kw_1_1) (htx _ kw_1_216) ⟨by decide, by decide, by decide +kernel⟩ ⟨Nat.le_of_ble_eq_true rfl, Nat.le_of_ble_eq_true rfl⟩, htx _ kw_1_217⟩ ⟨xPre_blind, (fun U hU hW => ⟨rfl, xPre_of hZ hS hFc hPc hDc hK U hU hW⟩)⟩ rfl rfl hl.1 rfl (lv_room (Nat.le_of_ble_eq_true rfl)) dB_binary_9 ⟨Nat.le_of_ble_eq_true rfl, Nat.le_of_ble_eq_true rfl⟩) hS (fun q _ h => hFc q h) hFc (fun r2 u9 t H1 locs ht hvm hr9 hB hz1 hk1 hS => ?_)
  obtain ⟨hP1, hK1, hD1⟩ := hB
  rw [ht] at hP1
  obtain ⟨hP, hD⟩ := va_join (wr := [(a0, .inr (0, [v20, v21, v22, .ref a2, v23, .ref a1, v24, v25])), (a1, .inr (2, [v26, v27, v28])), (a2, .inl (cT 3, 8, .inr (.inr (.inr (.inr f29))))), (a3, .inr (2, [.ref a4, .int 1, v32])), (a4, .inl (cT 2, 4096, .inr (.inl f33)))]) (w1 := []) hP hD [] [0, 1, 2, 3, 4] rfl rfl (by decide) (by decide) hk1 hFc hP1 hD1
  generalize H1 = H at hP hS ⊢
  have hP : va_P D xcl [(a0, .inr (0, [v20, v21, v22, .ref a2, v23, .ref a1, v24, v25])), (a1, .inr (2, [v26, v27, v28])), (a2, .inl (cT 3, 8, .inr (.inr (.inr (.inr f29))))), (a3, .inr (2, [.ref a4, .int 1, v32])), (a4, .inl (cT 2, 4096, .inr (.inl f33)))] H := hP
  have hD : va_D A [(a0, .inr (0, [v20, v21, v22, .ref a2, v23, .ref a1, v24, v25])), (a1, .inr (2, [v26, v27, v28])), (a2, .inl (cT 3, 8, .inr (.inr (.inr (.inr f29))))), (a3, .inr (2, [.ref a4, .int 1, v32])), (a4, .inl (cT 2, 4096, .inr (.inl f33)))] := hD
  rw [hr9]
  refine W.eq (g2 := F0 m 12 ls [.int 1]) rfl ?_
  refine lv_if_eq (tgt := 34) hx hb dB_binary_12 (by decide) (fun h => ((by revert h; decide : False)).elim) (fun _ => ?_)
  refine lv_iload_n hx hb dB_binary_15 rfl (lv_at hl 3 rfl) ?_
  have hPc := hP.sub (ws' := []) [] rfl
  have hDc := hD.sub (ws' := []) [] (by decide) rfl
  have hFc := va_free (wc := []) hD hS hA [] rfl
  refine va_calli (va_runS (As := [.int x10]) (rest := []) ⟨hx, hb, hml, hown, htx⟩ (cB_isRegister_0 l hl9 D cT aK aV H.size x10 h11 h12 h13 h14) ⟨callB_of 1 htx (xw_goodC kw_2_18) rfl rfl rfl (htx _ kw_1_1) (htx _ kw_2_16) ⟨by decide, by decide, by decide +kernel⟩ ⟨Nat.le_of_ble_eq_true rfl, Nat.le_of_ble_eq_true rfl⟩, htx _ kw_2_17⟩ ⟨xPre_blind, (fun U hU hW => ⟨rfl, xPre_of hZ hS hFc hPc hDc hK U hU hW⟩)⟩ rfl rfl hl.1 rfl (lv_room (Nat.le_of_ble_eq_true rfl)) dB_binary_16 ⟨Nat.le_of_ble_eq_true rfl, Nat.le_of_ble_eq_true rfl⟩) hS (fun q _ h => hFc q h) hFc (fun r3 u9 t H1 locs ht hvm hr9 hB hz1 hk1 hS => ?_)
  obtain ⟨hP1, hK1, hD1⟩ := hB
  rw [ht] at hP1
  obtain ⟨hP, hD⟩ := va_join (wr := [(a0, .inr (0, [v20, v21, v22, .ref a2, v23, .ref a1, v24, v25])), (a1, .inr (2, [v26, v27, v28])), (a2, .inl (cT 3, 8, .inr (.inr (.inr (.inr f29))))), (a3, .inr (2, [.ref a4, .int 1, v32])), (a4, .inl (cT 2, 4096, .inr (.inl f33)))]) (w1 := []) hP hD [] [0, 1, 2, 3, 4] rfl rfl (by decide) (by decide) hk1 hFc hP1 hD1
  generalize H1 = H at hP hS ⊢
  have hP : va_P D xcl [(a0, .inr (0, [v20, v21, v22, .ref a2, v23, .ref a1, v24, v25])), (a1, .inr (2, [v26, v27, v28])), (a2, .inl (cT 3, 8, .inr (.inr (.inr (.inr f29))))), (a3, .inr (2, [.ref a4, .int 1, v32])), (a4, .inl (cT 2, 4096, .inr (.inl f33)))] H := hP
  have hD : va_D A [(a0, .inr (0, [v20, v21, v22, .ref a2, v23, .ref a1, v24, v25])), (a1, .inr (2, [v26, v27, v28])), (a2, .inl (cT 3, 8, .inr (.inr (.inr (.inr f29))))), (a3, .inr (2, [.ref a4, .int 1, v32])), (a4, .inl (cT 2, 4096, .inr (.inl f33)))] := hD
  rw [hr9]
  refine W.eq (g2 := F0 m 19 ls [.int 1]) rfl ?_
  refine lv_if_eq (tgt := 34) hx hb dB_binary_19 (by decide) (fun h => ((by revert h; decide : False)).elim) (fun _ => ?_)
  refine lv_iload hx hb dB_binary_22 (lv_at hl 4 rfl) ?_
  have hPc := hP.sub (ws' := []) [] rfl
  have hDc := hD.sub (ws' := []) [] (by decide) rfl
  have hFc := va_free (wc := []) hD hS hA [] rfl
  refine va_calli (va_runS (As := [.int x15]) (rest := []) ⟨hx, hb, hml, hown, htx⟩ (cB_isRegister_0 l hl9 D cT aK aV H.size x15 h16 h17 h18 h19) ⟨callB_of 1 htx (xw_goodC kw_2_18) rfl rfl rfl (htx _ kw_1_1) (htx _ kw_2_16) ⟨by decide, by decide, by decide +kernel⟩ ⟨Nat.le_of_ble_eq_true rfl, Nat.le_of_ble_eq_true rfl⟩, htx _ kw_2_17⟩ ⟨xPre_blind, (fun U hU hW => ⟨rfl, xPre_of hZ hS hFc hPc hDc hK U hU hW⟩)⟩ rfl rfl hl.1 rfl (lv_room (Nat.le_of_ble_eq_true rfl)) dB_binary_24 ⟨Nat.le_of_ble_eq_true rfl, Nat.le_of_ble_eq_true rfl⟩) hS (fun q _ h => hFc q h) hFc (fun r4 u9 t H1 locs ht hvm hr9 hB hz1 hk1 hS => ?_)
  obtain ⟨hP1, hK1, hD1⟩ := hB
  rw [ht] at hP1
  obtain ⟨hP, hD⟩ := va_join (wr := [(a0, .inr (0, [v20, v21, v22, .ref a2, v23, .ref a1, v24, v25])), (a1, .inr (2, [v26, v27, v28])), (a2, .inl (cT 3, 8, .inr (.inr (.inr (.inr f29))))), (a3, .inr (2, [.ref a4, .int 1, v32])), (a4, .inl (cT 2, 4096, .inr (.inl f33)))]) (w1 := []) hP hD [] [0, 1, 2, 3, 4] rfl rfl (by decide) (by decide) hk1 hFc hP1 hD1
  generalize H1 = H at hP hS ⊢
  have hP : va_P D xcl [(a0, .inr (0, [v20, v21, v22, .ref a2, v23, .ref a1, v24, v25])), (a1, .inr (2, [v26, v27, v28])), (a2, .inl (cT 3, 8, .inr (.inr (.inr (.inr f29))))), (a3, .inr (2, [.ref a4, .int 1, v32])), (a4, .inl (cT 2, 4096, .inr (.inl f33)))] H := hP
  have hD : va_D A [(a0, .inr (0, [v20, v21, v22, .ref a2, v23, .ref a1, v24, v25])), (a1, .inr (2, [v26, v27, v28])), (a2, .inl (cT 3, 8, .inr (.inr (.inr (.inr f29))))), (a3, .inr (2, [.ref a4, .int 1, v32])), (a4, .inl (cT 2, 4096, .inr (.inl f33)))] := hD
  rw [hr9]
  refine W.eq (g2 := F0 m 27 ls [.int 1]) rfl ?_
  refine lv_if_eq (tgt := 34) hx hb dB_binary_27 (by decide) (fun h => ((by revert h; decide : False)).elim) (fun _ => ?_)
  refine lv_iconst (v := 1) hx hb dB_binary_30 (by decide) ?_
  refine lv_goto (tgt := 35) hx hb dB_binary_31 (by decide) ?_
  have hPc := hP.sub (ws' := []) [] rfl
  have hDc := hD.sub (ws' := []) [] (by decide) rfl
  have hFc := va_free (wc := []) hD hS hA [] rfl
  refine va_callv (va_runS (As := [.int 1]) (rest := []) ⟨hx, hb, hml, hown, htx⟩ (cB_demand_0 l hl9 D cT aK aV H.size) ⟨callB_of 1 htx (xw_goodC kw_1_221) rfl rfl rfl (htx _ kw_1_1) (htx _ kw_1_219) ⟨by decide, by decide, by decide +kernel⟩ ⟨Nat.le_of_ble_eq_true rfl, Nat.le_of_ble_eq_true rfl⟩, htx _ kw_1_220⟩ ⟨xPre_blind, (fun U hU hW => ⟨rfl, xPre_of hZ hS hFc hPc hDc hK U hU hW⟩)⟩ rfl rfl hl.1 rfl (lv_room (Nat.le_of_ble_eq_true rfl)) dB_binary_35 ⟨Nat.le_of_ble_eq_true rfl, Nat.le_of_ble_eq_true rfl⟩) hS (fun q _ h => hFc q h) hFc (fun u9 t H1 locs ht hvm hr9 hB hz1 hk1 hS => ?_)
  obtain ⟨hP1, hK1, hD1⟩ := hB
  rw [ht] at hP1
  obtain ⟨hP, hD⟩ := va_join (wr := [(a0, .inr (0, [v20, v21, v22, .ref a2, v23, .ref a1, v24, v25])), (a1, .inr (2, [v26, v27, v28])), (a2, .inl (cT 3, 8, .inr (.inr (.inr (.inr f29))))), (a3, .inr (2, [.ref a4, .int 1, v32])), (a4, .inl (cT 2, 4096, .inr (.inl f33)))]) (w1 := []) hP hD [] [0, 1, 2, 3, 4] rfl rfl (by decide) (by decide) hk1 hFc hP1 hD1
  generalize H1 = H at hP hS ⊢
  have hP : va_P D xcl [(a0, .inr (0, [v20, v21, v22, .ref a2, v23, .ref a1, v24, v25])), (a1, .inr (2, [v26, v27, v28])), (a2, .inl (cT 3, 8, .inr (.inr (.inr (.inr f29))))), (a3, .inr (2, [.ref a4, .int 1, v32])), (a4, .inl (cT 2, 4096, .inr (.inl f33)))] H := hP
  have hD : va_D A [(a0, .inr (0, [v20, v21, v22, .ref a2, v23, .ref a1, v24, v25])), (a1, .inr (2, [v26, v27, v28])), (a2, .inl (cT 3, 8, .inr (.inr (.inr (.inr f29))))), (a3, .inr (2, [.ref a4, .int 1, v32])), (a4, .inl (cT 2, 4096, .inr (.inl f33)))] := hD
  refine lv_aload_n hx hb dB_binary_38 rfl (lv_at hl 0 rfl) ?_
  refine va_get (D := D) (ci := 0) (v := .ref a1) (C := "ValueBench") (T := TB) (N := 8) hx hb htx inB hown hK hP 0 rfl rfl 5 (by decide) (htx _ kw_1_100) (fun _ h9 => h9) rfl dB_binary_39 ?_
  have hPc := hP.sub (ws' := [(a1, .inr (2, [v26, v27, v28]))]) [1] rfl
  have hDc := hD.sub (ws' := [(a1, .inr (2, [v26, v27, v28]))]) [1] (by decide) rfl
  have hFc := va_free (wc := [(a1, .inr (2, [v26, v27, v28]))]) hD hS hA [1] rfl
  refine va_callv (va_runV (C := "ValueBench$Row") (As := []) (rest := []) ⟨hx, hb, hml, hown, htx⟩ (cR_clear_0 l hl9 D cT aK aV H.size a1 v26 v27 v28) ⟨callB_of 0 htx (xw_goodC kw_2_22) rfl rfl rfl (htx _ kw_1_4) (htx _ kw_2_19) ⟨by decide, by decide, by decide +kernel⟩ ⟨Nat.le_of_ble_eq_true rfl, Nat.le_of_ble_eq_true rfl⟩, (htx _ kw_2_20), (htx _ kw_2_21)⟩ ⟨xPre_blind, va_recv hK hP (ci := 2) rfl (q0 := 1) rfl, (fun U hU hW => ⟨rfl, xPre_of hZ hS hFc hPc hDc hK U hU hW⟩)⟩ rfl rfl hl.1 rfl (lv_room (Nat.le_of_ble_eq_true rfl)) dB_binary_42 ⟨Nat.le_of_ble_eq_true rfl, Nat.le_of_ble_eq_true rfl⟩) hS (fun q _ h => hFc q h) hFc (fun u9 t H1 locs ht hvm hr9 hB hz1 hk1 hS => ?_)
  obtain ⟨hP1, hK1, hD1⟩ := hB
  rw [ht] at hP1
  obtain ⟨hP, hD⟩ := va_join (wr := [(a0, .inr (0, [v20, v21, v22, .ref a2, v23, .ref a1, v24, v25])), (a2, .inl (cT 3, 8, .inr (.inr (.inr (.inr f29))))), (a3, .inr (2, [.ref a4, .int 1, v32])), (a4, .inl (cT 2, 4096, .inr (.inl f33)))]) (w1 := [(a1, .inr (2, [v26, .int 0, .int 0]))]) hP hD [1] [0, 2, 3, 4] rfl rfl (by decide) (by decide) hk1 hFc hP1 hD1
  generalize H1 = H at hP hS ⊢
  have hP : va_P D xcl [(a0, .inr (0, [v20, v21, v22, .ref a2, v23, .ref a1, v24, v25])), (a2, .inl (cT 3, 8, .inr (.inr (.inr (.inr f29))))), (a3, .inr (2, [.ref a4, .int 1, v32])), (a4, .inl (cT 2, 4096, .inr (.inl f33))), (a1, .inr (2, [v26, .int 0, .int 0]))] H := hP
  have hD : va_D A [(a0, .inr (0, [v20, v21, v22, .ref a2, v23, .ref a1, v24, v25])), (a2, .inl (cT 3, 8, .inr (.inr (.inr (.inr f29))))), (a3, .inr (2, [.ref a4, .int 1, v32])), (a4, .inl (cT 2, 4096, .inr (.inl f33))), (a1, .inr (2, [v26, .int 0, .int 0]))] := hD
  refine lv_aload_n hx hb dB_binary_45 rfl (lv_at hl 0 rfl) ?_
  refine lv_iload_n hx hb dB_binary_46 rfl (lv_at hl 2 rfl) ?_
  refine lv_aload_n hx hb dB_binary_47 rfl (lv_at hl 0 rfl) ?_
  refine va_get (D := D) (ci := 0) (v := .ref a2) (C := "ValueBench") (T := TB) (N := 8) hx hb htx inB hown hK hP 0 rfl rfl 3 (by decide) (htx _ kw_1_98) (fun _ h9 => h9) rfl dB_binary_48 ?_
  refine lv_iload_n hx hb dB_binary_51 rfl (lv_at hl 3 rfl) ?_
  refine va_aldq hx hb hK hP 1 3 rfl rfl h14 dB_binary_52 ?_
  refine W.eq (g2 := F0 m 53 ls [va_rf (f29 x10.toNatClampNeg), .int 2, .ref a0]) rfl ?_
  rw [h30]
  refine W.eq (g2 := F0 m 53 ls [.ref a3, .int 2, .ref a0]) rfl ?_
  refine lv_aload_n hx hb dB_binary_53 rfl (lv_at hl 0 rfl) ?_
  refine va_get (D := D) (ci := 0) (v := .ref a2) (C := "ValueBench") (T := TB) (N := 8) hx hb htx inB hown hK hP 0 rfl rfl 3 (by decide) (htx _ kw_1_98) (fun _ h9 => h9) rfl dB_binary_54 ?_
  refine lv_iload hx hb dB_binary_57 (lv_at hl 4 rfl) ?_
  refine va_aldq hx hb hK hP 1 3 rfl rfl h19 dB_binary_59 ?_
  refine W.eq (g2 := F0 m 60 ls [va_rf (f29 x15.toNatClampNeg), .ref a3, .int 2, .ref a0]) rfl ?_
  rw [h31]
  refine W.eq (g2 := F0 m 60 ls [.ref a3, .ref a3, .int 2, .ref a0]) rfl ?_
  refine lv_aload_n hx hb dB_binary_60 rfl (lv_at hl 0 rfl) ?_
  refine va_get (D := D) (ci := 0) (v := .ref a1) (C := "ValueBench") (T := TB) (N := 8) hx hb htx inB hown hK hP 0 rfl rfl 5 (by decide) (htx _ kw_1_100) (fun _ h9 => h9) rfl dB_binary_61 ?_
  have hPc := hP.sub (ws' := [(a3, .inr (2, [.ref a4, .int 1, v32])), (a4, .inl (cT 2, 4096, .inr (.inl f33)))]) [2, 3] rfl
  have hDc := hD.sub (ws' := [(a3, .inr (2, [.ref a4, .int 1, v32])), (a4, .inl (cT 2, 4096, .inr (.inl f33)))]) [2, 3] (by decide) rfl
  have hFc := va_free (wc := [(a3, .inr (2, [.ref a4, .int 1, v32])), (a4, .inl (cT 2, 4096, .inr (.inl f33)))]) hD hS hA [2, 3] rfl
  refine va_calli (va_runS (As := [.int 2, .ref a3, .ref a3, .ref a1]) (rest := [.ref a0]) ⟨hx, hb, hml, hown, htx⟩ (cA_apply_5 l hl9 D cT aK aV H.size a3 a4 a1 v32 f33 (by first | rfl | exact h30 | exact h31 | exact h34)) ⟨callB_of 4 htx (xw_goodC kw_3_105) rfl rfl rfl (htx _ kw_1_21) (htx _ kw_3_103) ⟨by decide, by decide, by decide +kernel⟩ ⟨Nat.le_of_ble_eq_true rfl, Nat.le_of_ble_eq_true rfl⟩, htx _ kw_3_104⟩ ⟨xPre_blind, (fun U hU hW => ⟨rfl, xPre_of hZ hS hFc hPc hDc hK U hU hW⟩)⟩ rfl rfl hl.1 rfl (lv_room (Nat.le_of_ble_eq_true rfl)) dB_binary_64 ⟨Nat.le_of_ble_eq_true rfl, Nat.le_of_ble_eq_true rfl⟩) hS (fun q _ h => hFc q h) hFc (fun r5 u9 t H1 locs ht hvm hr9 hB hz1 hk1 hS => ?_)
  obtain ⟨hP1, hK1, hD1⟩ := hB
  rw [ht] at hP1
  obtain ⟨hP, hD⟩ := va_join (wr := [(a0, .inr (0, [v20, v21, v22, .ref a2, v23, .ref a1, v24, v25])), (a2, .inl (cT 3, 8, .inr (.inr (.inr (.inr f29))))), (a1, .inr (2, [v26, .int 0, .int 0]))]) (w1 := [(a3, .inr (2, [.ref a4, .int 1, v32])), (a4, .inl (cT 2, 4096, .inr (.inl f33)))]) hP hD [2, 3] [0, 1, 4] rfl rfl (by decide) (by decide) hk1 hFc hP1 hD1
  generalize H1 = H at hP hS ⊢
  have hP : va_P D xcl [(a0, .inr (0, [v20, v21, v22, .ref a2, v23, .ref a1, v24, v25])), (a2, .inl (cT 3, 8, .inr (.inr (.inr (.inr f29))))), (a1, .inr (2, [v26, .int 0, .int 0])), (a3, .inr (2, [.ref a4, .int 1, v32])), (a4, .inl (cT 2, 4096, .inr (.inl f33)))] H := hP
  have hD : va_D A [(a0, .inr (0, [v20, v21, v22, .ref a2, v23, .ref a1, v24, v25])), (a2, .inl (cT 3, 8, .inr (.inr (.inr (.inr f29))))), (a1, .inr (2, [v26, .int 0, .int 0])), (a3, .inr (2, [.ref a4, .int 1, v32])), (a4, .inl (cT 2, 4096, .inr (.inl f33)))] := hD
  rw [hr9]
  refine W.eq (g2 := F0 m 67 ls [.int 1, .ref a0]) rfl ?_
  have hPc := hP.sub (ws' := [(a0, .inr (0, [v20, v21, v22, .ref a2, v23, .ref a1, v24, v25]))]) [0] rfl
  have hDc := hD.sub (ws' := [(a0, .inr (0, [v20, v21, v22, .ref a2, v23, .ref a1, v24, v25]))]) [0] (by decide) rfl
  have hFc := va_free (wc := [(a0, .inr (0, [v20, v21, v22, .ref a2, v23, .ref a1, v24, v25]))]) hD hS hA [0] rfl
  refine xx_thr (vx_runV (C := "ValueBench") (As := [.int 1]) (rest := []) ⟨hx, hb, hml, hown, htx⟩ (cB_demandDone_1 l hl9 D cT aK aV H.size a0 v20 v21 v22 (.ref a2) v23 (.ref a1) v24 v25) ⟨callB_of 1 htx (xw_goodC kw_3_222) rfl rfl rfl (htx _ kw_1_1) (htx _ kw_3_219) ⟨by decide, by decide, by decide +kernel⟩ ⟨Nat.le_of_ble_eq_true rfl, Nat.le_of_ble_eq_true rfl⟩, (htx _ kw_3_221), (htx _ kp_B_demandDone)⟩ ⟨xPre_blind, va_recv hK hP (ci := 0) rfl (q0 := 0) rfl, (fun U hU hW => ⟨rfl, xPre_of hZ hS hFc hPc hDc hK U hU hW⟩)⟩ rfl rfl hl.1 rfl (lv_room (Nat.le_of_ble_eq_true rfl)) dB_binary_67 ⟨Nat.le_of_ble_eq_true rfl, Nat.le_of_ble_eq_true rfl⟩) hS hFc (fun q _ h => hFc q h) (fun E ce q9 u9 t H1 locs ht hvm _ hB hz1 hk1 hS hce hcv hcl => ?_)
  obtain ⟨rfl, hP1, hK1, hD1⟩ := hB
  rw [ht] at hP1
  obtain ⟨hP, hD⟩ := va_join (wr := [(a2, .inl (cT 3, 8, .inr (.inr (.inr (.inr f29))))), (a1, .inr (2, [v26, .int 0, .int 0])), (a3, .inr (2, [.ref a4, .int 1, v32])), (a4, .inl (cT 2, 4096, .inr (.inl f33)))]) (w1 := [(a0, .inr (0, [v20, v21, v22, .ref a2, v23, .ref a1, v24, .int 1]))]) hP hD [0] [1, 2, 3, 4] rfl rfl (by decide) (by decide) hk1 hFc hP1 hD1
  generalize H1 = H at hP hS hce ⊢
  have hP : va_P D xcl [(a2, .inl (cT 3, 8, .inr (.inr (.inr (.inr f29))))), (a1, .inr (2, [v26, .int 0, .int 0])), (a3, .inr (2, [.ref a4, .int 1, v32])), (a4, .inl (cT 2, 4096, .inr (.inl f33))), (a0, .inr (0, [v20, v21, v22, .ref a2, v23, .ref a1, v24, .int 1]))] H := hP
  have hD : va_D A [(a2, .inl (cT 3, 8, .inr (.inr (.inr (.inr f29))))), (a1, .inr (2, [v26, .int 0, .int 0])), (a3, .inr (2, [.ref a4, .int 1, v32])), (a4, .inl (cT 2, 4096, .inr (.inl f33))), (a0, .inr (0, [v20, v21, v22, .ref a2, v23, .ref a1, v24, .int 1]))] := hD
  have hP9 := hP.sub (ws' := [(a0, .inr (0, [v20, v21, v22, .ref a2, v23, .ref a1, v24, .int 1])), (a1, .inr (2, [v26, .int 0, .int 0])), (a2, .inl (cT 3, 8, .inr (.inr (.inr (.inr f29))))), (a3, .inr (2, [.ref a4, .int 1, v32])), (a4, .inl (cT 2, 4096, .inr (.inl f33)))]) [4, 1, 0, 2, 3] rfl
  have hD9 := hD.sub (ws' := [(a0, .inr (0, [v20, v21, v22, .ref a2, v23, .ref a1, v24, .int 1])), (a1, .inr (2, [v26, .int 0, .int 0])), (a2, .inl (cT 3, 8, .inr (.inr (.inr (.inr f29))))), (a3, .inr (2, [.ref a4, .int 1, v32])), (a4, .inl (cT 2, 4096, .inr (.inl f33)))]) [4, 1, 0, 2, 3] (by decide) rfl
  exact vx_out (E := "java/lang/ArithmeticException") (fun x h => (hne x h).elim) hlocks hce hcv hcl (fun t ht ha => ⟨(), trivial, ⟨rfl, by rw [ht]; exact hP9, va_K.moved ha hK, hD9⟩, hS.F ht⟩) hS.2.2 (Nat.le_of_ble_eq_true rfl) (Nat.le_of_ble_eq_true rfl)
set_option maxHeartbeats 4000000 in
set_option maxRecDepth 100000 in
theorem cB_isWithin_27 (l : Launch) (hl9 : l.stackTraces = false) (D : va_G) (cT : Nat → ClassId) (aK aV : Nat → Nat) (sz : Nat) : Met l yB_isWithin wyB_isWithin ({ frames := 0, cells := 0, slots := 0, locals := 0 }) (va_Pc [.int 3, .int 4] (xPre D xcl cT aK aV sz [])) (va_Qi (fun (r : Int32) (_ : Unit) => r = 1) (fun _ t => xB D xcl cT (va_A [] sz) [] t) (va_A [] sz)) 0 0 (va_A [] sz) := by
  refine Met.ofW (cc := prog_1_method_15_code) (maxL := 2) (ret := (some .boolean)) (by decide) rfl ?_
  intro p e s m args below meth c s₁ B hml hv
  obtain ⟨rfl, hsz, hZ, hP, hK, hD0⟩ := hv
  have hx := B.exec
  have hb := B.bytes
  have hr := B.returns
  have hts := atoms_spec (ws := wyB_isWithin) B.pre
  have htx := fun w h => hts w (List.mem_cons_of_mem _ h)
  have hown : s.vm.findClass "ValueBench" = some m.cls := findClass_of_methodNamed B.named
  have hlocks := B.notSynchronized
  subst hsz
  have hD := hD0.self (sz := s.heap.size)
  generalize hAe : va_A [] s.heap.size = A at hD hZ ⊢
  have hA : ∀ q : Nat, s.heap.size ≤ q → A q := fun q h => by rw [← hAe]; exact Or.inr h
  have hS : va_S A s.heap s.heap [] := va_S.rf
  have hP : va_P D xcl [] s.heap := hP
  have hl := lv_entry ([.int 3, .int 4]) (n := 2) (Nat.le_of_ble_eq_true rfl)
  rw [lg_entry_eq]
  generalize (lg_sl ([.int 3, .int 4]) ++ List.replicate (2 - (lg_sl ([.int 3, .int 4])).length) Slot.unset).toArray = ls at hl ⊢
  have hl : lv_has ls 2 [(0, .int 3), (1, .int 4)] := hl
  refine lv_iload_n hx hb dB_isWithin_0 rfl (lv_at hl 0 rfl) ?_
  refine lv_if_lt (tgt := 13) hx hb dB_isWithin_1 (by decide) (fun h => ((by revert h; decide : False)).elim) (fun _ => ?_)
  refine lv_iload_n hx hb dB_isWithin_4 rfl (lv_at hl 0 rfl) ?_
  refine lv_iload_n hx hb dB_isWithin_5 rfl (lv_at hl 1 rfl) ?_
  refine lv_icmp_gt (tgt := 13) hx hb dB_isWithin_6 (by decide) (fun h => ((by revert h; decide : False)).elim) (fun _ => ?_)
  refine lv_iconst (v := 1) hx hb dB_isWithin_9 (by decide) ?_
  refine lv_goto (tgt := 14) hx hb dB_isWithin_10 (by decide) ?_
  have hP9 := hP.sub (ws' := []) [] rfl
  have hD9 := hD.sub (ws' := []) [] (by decide) rfl
  refine W.widen (k := 0) (n := 0) (Nat.le_of_ble_eq_true rfl) (Nat.le_of_ble_eq_true rfl) ?_
  exact W.zret (v := 1) hx hb hr rfl (fun t ht hW => ⟨⟨1, (), rfl, rfl, by rw [ht]; exact hP9, va_K.moved hW.alike hK, hD9⟩, hS.F ht⟩) hS.2.2 dB_isWithin_14
set_option maxHeartbeats 4000000 in
set_option maxRecDepth 100000 in
theorem cA_pieces_0 (l : Launch) (hl9 : l.stackTraces = false) (D : va_G) (cT : Nat → ClassId) (aK aV : Nat → Nat) (sz : Nat) (a0 : Nat) (a1 : Nat) (b2 : Nat) (b3 : Nat) (v4 : Value) (f5 : Nat → Int64) (h6 : f5 0 = 0) : Met l yA_pieces wyA_pieces ({ frames := 2, cells := 0, slots := 0, locals := 43 }) (va_Pc [.ref a0, .ref b2, .ref b3] (xPre D xcl cT aK aV sz [(a0, .inr (2, [.ref a1, .int 1, v4])), (a1, .inl (cT 2, 4096, .inr (.inl f5)))])) (va_Qi (fun (r : Int32) (_ : Unit) => r = 1) (fun _ t => xB D xcl cT (va_A [(a0, .inr (2, [.ref a1, .int 1, v4])), (a1, .inl (cT 2, 4096, .inr (.inl f5)))] sz) [(a0, .inr (2, [.ref a1, .int 1, v4])), (a1, .inl (cT 2, 4096, .inr (.inl f5)))] t) (va_A [(a0, .inr (2, [.ref a1, .int 1, v4])), (a1, .inl (cT 2, 4096, .inr (.inl f5)))] sz)) 0 0 (va_A [(a0, .inr (2, [.ref a1, .int 1, v4])), (a1, .inl (cT 2, 4096, .inr (.inl f5)))] sz) := by
  refine Met.ofW (cc := prog_3_method_14_code) (maxL := 5) (ret := (some .int)) (by decide) rfl ?_
  intro p e s m args below meth c s₁ B hml hv
  obtain ⟨rfl, hsz, hZ, hP, hK, hD0⟩ := hv
  have hx := B.exec
  have hb := B.bytes
  have hr := B.returns
  have hts := atoms_spec (ws := wyA_pieces) B.pre
  have htx := fun w h => hts w (List.mem_cons_of_mem _ h)
  have hown : s.vm.findClass "ValueBench$Operators" = some m.cls := findClass_of_methodNamed B.named
  have hlocks := B.notSynchronized
  subst hsz
  have hD := hD0.self (sz := s.heap.size)
  generalize hAe : va_A [(a0, .inr (2, [.ref a1, .int 1, v4])), (a1, .inl (cT 2, 4096, .inr (.inl f5)))] s.heap.size = A at hD hZ ⊢
  have hA : ∀ q : Nat, s.heap.size ≤ q → A q := fun q h => by rw [← hAe]; exact Or.inr h
  have hS : va_S A s.heap s.heap [] := va_S.rf
  have hP : va_P D xcl [(a0, .inr (2, [.ref a1, .int 1, v4])), (a1, .inl (cT 2, 4096, .inr (.inl f5)))] s.heap := hP
  have hl := lv_entry ([.ref a0, .ref b2, .ref b3]) (n := 5) (Nat.le_of_ble_eq_true rfl)
  rw [lg_entry_eq]
  generalize (lg_sl ([.ref a0, .ref b2, .ref b3]) ++ List.replicate (5 - (lg_sl ([.ref a0, .ref b2, .ref b3])).length) Slot.unset).toArray = ls at hl ⊢
  have hl : lv_has ls 5 [(0, .ref a0), (1, .ref b2), (2, .ref b3)] := hl
  refine lv_aload_n hx hb dA_pieces_0 rfl (lv_at hl 0 rfl) ?_
  refine lv_iconst (v := 0) hx hb dA_pieces_1 (by decide) ?_
  refine lv_iconst (v := 4) hx hb dA_pieces_2 (by decide) ?_
  have hPc := hP.sub (ws' := [(a0, .inr (2, [.ref a1, .int 1, v4])), (a1, .inl (cT 2, 4096, .inr (.inl f5)))]) [0, 1] rfl
  have hDc := hD.sub (ws' := [(a0, .inr (2, [.ref a1, .int 1, v4])), (a1, .inl (cT 2, 4096, .inr (.inl f5)))]) [0, 1] (by decide) rfl
  have hFc := va_free (wc := [(a0, .inr (2, [.ref a1, .int 1, v4])), (a1, .inl (cT 2, 4096, .inr (.inl f5)))]) hD hS hA [0, 1] rfl
  refine va_calli (va_runV (C := "ValueBench$Row") (As := [.int 0, .int 4]) (rest := []) ⟨hx, hb, hml, hown, htx⟩ (cR_is_3 l hl9 D cT aK aV s.heap.size a0 a1 v4 f5 (by first | rfl | exact h6)) ⟨callB_of 2 htx (xw_goodC kw_3_75) rfl rfl rfl (htx _ kw_1_4) (htx _ kw_3_106) ⟨by decide, by decide, by decide +kernel⟩ ⟨Nat.le_of_ble_eq_true rfl, Nat.le_of_ble_eq_true rfl⟩, (htx _ kw_3_73), (htx _ kw_3_74)⟩ ⟨xPre_blind, va_recv hK hP (ci := 2) rfl (q0 := 0) rfl, (fun U hU hW => ⟨rfl, xPre_of hZ hS hFc hPc hDc hK U hU hW⟩)⟩ rfl rfl hl.1 rfl (lv_room (Nat.le_of_ble_eq_true rfl)) dA_pieces_3 ⟨Nat.le_of_ble_eq_true rfl, Nat.le_of_ble_eq_true rfl⟩) hS (fun q _ h => hFc q h) hFc (fun r1 u9 t H1 locs ht hvm hr9 hB hz1 hk1 hS => ?_)
  obtain ⟨hP1, hK1, hD1⟩ := hB
  rw [ht] at hP1
  obtain ⟨hP, hD⟩ := va_join (wr := []) (w1 := [(a0, .inr (2, [.ref a1, .int 1, v4])), (a1, .inl (cT 2, 4096, .inr (.inl f5)))]) hP hD [0, 1] [] rfl rfl (by decide) (by decide) hk1 hFc hP1 hD1
  generalize H1 = H at hP hS ⊢
  have hP : va_P D xcl [(a0, .inr (2, [.ref a1, .int 1, v4])), (a1, .inl (cT 2, 4096, .inr (.inl f5)))] H := hP
  have hD : va_D A [(a0, .inr (2, [.ref a1, .int 1, v4])), (a1, .inl (cT 2, 4096, .inr (.inl f5)))] := hD
  rw [hr9]
  refine W.eq (g2 := F0 m 6 ls [.int 0]) rfl ?_
  refine lv_if_eq (tgt := 18) hx hb dA_pieces_6 (by decide) (fun _ => ?_) (fun h => ((by revert h; decide : False)).elim)
  refine lv_iconst (v := 1) hx hb dA_pieces_18 (by decide) ?_
  have hP9 := hP.sub (ws' := [(a0, .inr (2, [.ref a1, .int 1, v4])), (a1, .inl (cT 2, 4096, .inr (.inl f5)))]) [0, 1] rfl
  have hD9 := hD.sub (ws' := [(a0, .inr (2, [.ref a1, .int 1, v4])), (a1, .inl (cT 2, 4096, .inr (.inl f5)))]) [0, 1] (by decide) rfl
  refine W.widen (k := 0) (n := 0) (Nat.le_of_ble_eq_true rfl) (Nat.le_of_ble_eq_true rfl) ?_
  exact W.iret (v := 1) hx hb hr (fun t ht hW => ⟨⟨1, (), rfl, rfl, by rw [ht]; exact hP9, va_K.moved hW.alike hK, hD9⟩, hS.F ht⟩) hS.2.2 dA_pieces_19
set_option maxHeartbeats 4000000 in
set_option maxRecDepth 100000 in
theorem cA_apply_6 (l : Launch) (hl9 : l.stackTraces = false) (D : va_G) (cT : Nat → ClassId) (aK aV : Nat → Nat) (sz : Nat) (a0 : Nat) (a1 : Nat) (b2 : Nat) (b3 : Nat) (v4 : Value) (f5 : Nat → Int64) (h6 : f5 0 = 0) : Met l yA_apply wyA_apply ({ frames := 3, cells := 0, slots := 0, locals := 67 }) (va_Pc [.int 3, .ref a0, .ref b2, .ref b3] (xPre D xcl cT aK aV sz [(a0, .inr (2, [.ref a1, .int 1, v4])), (a1, .inl (cT 2, 4096, .inr (.inl f5)))])) (va_Qi (fun (r : Int32) (_ : Unit) => r = 1) (fun _ t => xB D xcl cT (va_A [(a0, .inr (2, [.ref a1, .int 1, v4])), (a1, .inl (cT 2, 4096, .inr (.inl f5)))] sz) [(a0, .inr (2, [.ref a1, .int 1, v4])), (a1, .inl (cT 2, 4096, .inr (.inl f5)))] t) (va_A [(a0, .inr (2, [.ref a1, .int 1, v4])), (a1, .inl (cT 2, 4096, .inr (.inl f5)))] sz)) 0 0 (va_A [(a0, .inr (2, [.ref a1, .int 1, v4])), (a1, .inl (cT 2, 4096, .inr (.inl f5)))] sz) := by
  refine Met.ofW (cc := prog_3_method_2_code) (maxL := 4) (ret := (some .int)) (by decide) rfl ?_
  intro p e s m args below meth c s₁ B hml hv
  obtain ⟨rfl, hsz, hZ, hP, hK, hD0⟩ := hv
  have hx := B.exec
  have hb := B.bytes
  have hr := B.returns
  have hts := atoms_spec (ws := wyA_apply) B.pre
  have htx := fun w h => hts w (List.mem_cons_of_mem _ h)
  have hown : s.vm.findClass "ValueBench$Operators" = some m.cls := findClass_of_methodNamed B.named
  have hlocks := B.notSynchronized
  subst hsz
  have hD := hD0.self (sz := s.heap.size)
  generalize hAe : va_A [(a0, .inr (2, [.ref a1, .int 1, v4])), (a1, .inl (cT 2, 4096, .inr (.inl f5)))] s.heap.size = A at hD hZ ⊢
  have hA : ∀ q : Nat, s.heap.size ≤ q → A q := fun q h => by rw [← hAe]; exact Or.inr h
  have hS : va_S A s.heap s.heap [] := va_S.rf
  have hP : va_P D xcl [(a0, .inr (2, [.ref a1, .int 1, v4])), (a1, .inl (cT 2, 4096, .inr (.inl f5)))] s.heap := hP
  have hl := lv_entry ([.int 3, .ref a0, .ref b2, .ref b3]) (n := 4) (Nat.le_of_ble_eq_true rfl)
  rw [lg_entry_eq]
  generalize (lg_sl ([.int 3, .ref a0, .ref b2, .ref b3]) ++ List.replicate (4 - (lg_sl ([.int 3, .ref a0, .ref b2, .ref b3])).length) Slot.unset).toArray = ls at hl ⊢
  have hl : lv_has ls 4 [(0, .int 3), (1, .ref a0), (2, .ref b2), (3, .ref b3)] := hl
  refine lv_aload_n hx hb dA_apply_0 rfl (lv_at hl 1 rfl) ?_
  refine lv_iconst (v := 0) hx hb dA_apply_1 (by decide) ?_
  refine lv_iconst (v := 3) hx hb dA_apply_2 (by decide) ?_
  have hPc := hP.sub (ws' := [(a0, .inr (2, [.ref a1, .int 1, v4])), (a1, .inl (cT 2, 4096, .inr (.inl f5)))]) [0, 1] rfl
  have hDc := hD.sub (ws' := [(a0, .inr (2, [.ref a1, .int 1, v4])), (a1, .inl (cT 2, 4096, .inr (.inl f5)))]) [0, 1] (by decide) rfl
  have hFc := va_free (wc := [(a0, .inr (2, [.ref a1, .int 1, v4])), (a1, .inl (cT 2, 4096, .inr (.inl f5)))]) hD hS hA [0, 1] rfl
  refine va_calli (va_runV (C := "ValueBench$Row") (As := [.int 0, .int 3]) (rest := []) ⟨hx, hb, hml, hown, htx⟩ (cR_is_4 l hl9 D cT aK aV s.heap.size a0 a1 v4 f5 (by first | rfl | exact h6)) ⟨callB_of 2 htx (xw_goodC kw_3_75) rfl rfl rfl (htx _ kw_1_4) (htx _ kw_3_106) ⟨by decide, by decide, by decide +kernel⟩ ⟨Nat.le_of_ble_eq_true rfl, Nat.le_of_ble_eq_true rfl⟩, (htx _ kw_3_73), (htx _ kw_3_74)⟩ ⟨xPre_blind, va_recv hK hP (ci := 2) rfl (q0 := 0) rfl, (fun U hU hW => ⟨rfl, xPre_of hZ hS hFc hPc hDc hK U hU hW⟩)⟩ rfl rfl hl.1 rfl (lv_room (Nat.le_of_ble_eq_true rfl)) dA_apply_3 ⟨Nat.le_of_ble_eq_true rfl, Nat.le_of_ble_eq_true rfl⟩) hS (fun q _ h => hFc q h) hFc (fun r1 u9 t H1 locs ht hvm hr9 hB hz1 hk1 hS => ?_)
  obtain ⟨hP1, hK1, hD1⟩ := hB
  rw [ht] at hP1
  obtain ⟨hP, hD⟩ := va_join (wr := []) (w1 := [(a0, .inr (2, [.ref a1, .int 1, v4])), (a1, .inl (cT 2, 4096, .inr (.inl f5)))]) hP hD [0, 1] [] rfl rfl (by decide) (by decide) hk1 hFc hP1 hD1
  generalize H1 = H at hP hS ⊢
  have hP : va_P D xcl [(a0, .inr (2, [.ref a1, .int 1, v4])), (a1, .inl (cT 2, 4096, .inr (.inl f5)))] H := hP
  have hD : va_D A [(a0, .inr (2, [.ref a1, .int 1, v4])), (a1, .inl (cT 2, 4096, .inr (.inl f5)))] := hD
  rw [hr9]
  refine W.eq (g2 := F0 m 6 ls [.int 0]) rfl ?_
  refine lv_if_eq (tgt := 34) hx hb dA_apply_6 (by decide) (fun _ => ?_) (fun h => ((by revert h; decide : False)).elim)
  refine lv_iload_n hx hb dA_apply_34 rfl (lv_at hl 0 rfl) ?_
  refine lv_tableIn (off := 50) (tgt := 85) hx hb dA_apply_35 (by decide) (by decide) (by decide) (by decide) ?_
  refine lv_aload_n hx hb dA_apply_85 rfl (lv_at hl 1 rfl) ?_
  refine lv_aload_n hx hb dA_apply_86 rfl (lv_at hl 2 rfl) ?_
  refine lv_aload_n hx hb dA_apply_87 rfl (lv_at hl 3 rfl) ?_
  have hPc := hP.sub (ws' := [(a0, .inr (2, [.ref a1, .int 1, v4])), (a1, .inl (cT 2, 4096, .inr (.inl f5)))]) [0, 1] rfl
  have hDc := hD.sub (ws' := [(a0, .inr (2, [.ref a1, .int 1, v4])), (a1, .inl (cT 2, 4096, .inr (.inl f5)))]) [0, 1] (by decide) rfl
  have hFc := va_free (wc := [(a0, .inr (2, [.ref a1, .int 1, v4])), (a1, .inl (cT 2, 4096, .inr (.inl f5)))]) hD hS hA [0, 1] rfl
  refine va_calli (va_runS (As := [.ref a0, .ref b2, .ref b3]) (rest := []) ⟨hx, hb, hml, hown, htx⟩ (cA_pieces_0 l hl9 D cT aK aV H.size a0 a1 b2 b3 v4 f5 (by first | rfl | exact h6)) ⟨callB_of 3 htx (xw_goodC kw_3_201) rfl rfl rfl (htx _ kw_1_21) (htx _ kw_3_199) ⟨by decide, by decide, by decide +kernel⟩ ⟨Nat.le_of_ble_eq_true rfl, Nat.le_of_ble_eq_true rfl⟩, htx _ kw_3_200⟩ ⟨xPre_blind, (fun U hU hW => ⟨rfl, xPre_of hZ hS hFc hPc hDc hK U hU hW⟩)⟩ rfl rfl hl.1 rfl (lv_room (Nat.le_of_ble_eq_true rfl)) dA_apply_88 ⟨Nat.le_of_ble_eq_true rfl, Nat.le_of_ble_eq_true rfl⟩) hS (fun q _ h => hFc q h) hFc (fun r2 u9 t H1 locs ht hvm hr9 hB hz1 hk1 hS => ?_)
  obtain ⟨hP1, hK1, hD1⟩ := hB
  rw [ht] at hP1
  obtain ⟨hP, hD⟩ := va_join (wr := []) (w1 := [(a0, .inr (2, [.ref a1, .int 1, v4])), (a1, .inl (cT 2, 4096, .inr (.inl f5)))]) hP hD [0, 1] [] rfl rfl (by decide) (by decide) hk1 hFc hP1 hD1
  generalize H1 = H at hP hS ⊢
  have hP : va_P D xcl [(a0, .inr (2, [.ref a1, .int 1, v4])), (a1, .inl (cT 2, 4096, .inr (.inl f5)))] H := hP
  have hD : va_D A [(a0, .inr (2, [.ref a1, .int 1, v4])), (a1, .inl (cT 2, 4096, .inr (.inl f5)))] := hD
  rw [hr9]
  refine W.eq (g2 := F0 m 91 ls [.int 1]) rfl ?_
  have hP9 := hP.sub (ws' := [(a0, .inr (2, [.ref a1, .int 1, v4])), (a1, .inl (cT 2, 4096, .inr (.inl f5)))]) [0, 1] rfl
  have hD9 := hD.sub (ws' := [(a0, .inr (2, [.ref a1, .int 1, v4])), (a1, .inl (cT 2, 4096, .inr (.inl f5)))]) [0, 1] (by decide) rfl
  refine W.widen (k := 0) (n := 0) (Nat.le_of_ble_eq_true rfl) (Nat.le_of_ble_eq_true rfl) ?_
  exact W.iret (v := 1) hx hb hr (fun t ht hW => ⟨⟨1, (), rfl, rfl, by rw [ht]; exact hP9, va_K.moved hW.alike hK, hD9⟩, hS.F ht⟩) hS.2.2 dA_apply_91
set_option maxHeartbeats 4000000 in
set_option maxRecDepth 100000 in
theorem cB_binary_6 (l : Launch) (hl9 : l.stackTraces = false) (D : va_G) (cT : Nat → ClassId) (aK aV : Nat → Nat) (sz : Nat) (a0 : Nat) (a1 : Nat) (a2 : Nat) (a3 : Nat) (a4 : Nat) (x5 : Int32) (x10 : Int32) (x15 : Int32) (v20 : Value) (v21 : Value) (v22 : Value) (v23 : Value) (v24 : Value) (v25 : Value) (v26 : Value) (v27 : Value) (v28 : Value) (f29 : Nat → Option Nat) (b31 : Nat) (v33 : Value) (f34 : Nat → Int64) (h6 : ¬ x5 < 0) (h7 : ¬ 7 < x5) (h8 : x5 ≤ 7) (h9 : vp_in x5 8) (h11 : ¬ x10 < 0) (h12 : ¬ 7 < x10) (h13 : x10 ≤ 7) (h14 : vp_in x10 8) (h16 : ¬ x15 < 0) (h17 : ¬ 7 < x15) (h18 : x15 ≤ 7) (h19 : vp_in x15 8) (h30 : f29 x10.toNatClampNeg = some a3) (h32 : f29 x15.toNatClampNeg = some b31) (h35 : f34 0 = 0) : vx_Met l yB_binary wyB_binary ({ frames := 7, cells := 1, slots := 6, locals := 121 }) (va_Pc [.ref a0, .int x5, .int 3, .int x10, .int x15] (xPre D xcl cT aK aV sz [(a0, .inr (0, [v20, v21, v22, .ref a2, v23, .ref a1, v24, v25])), (a1, .inr (2, [v26, v27, v28])), (a2, .inl (cT 3, 8, .inr (.inr (.inr (.inr f29))))), (a3, .inr (2, [.ref a4, .int 1, v33])), (a4, .inl (cT 2, 4096, .inr (.inl f34)))])) (fun _ _ _ _ => False) (vx_X (fun _ : Unit => True) (fun E _ t => E = "java/lang/ArithmeticException" ∧ xB D xcl cT (va_A [(a0, .inr (0, [v20, v21, v22, .ref a2, v23, .ref a1, v24, v25])), (a1, .inr (2, [v26, v27, v28])), (a2, .inl (cT 3, 8, .inr (.inr (.inr (.inr f29))))), (a3, .inr (2, [.ref a4, .int 1, v33])), (a4, .inl (cT 2, 4096, .inr (.inl f34)))] sz) [(a0, .inr (0, [v20, v21, v22, .ref a2, v23, .ref a1, v24, .int 1])), (a1, .inr (2, [v26, .int 0, .int 0])), (a2, .inl (cT 3, 8, .inr (.inr (.inr (.inr f29))))), (a3, .inr (2, [.ref a4, .int 1, v33])), (a4, .inl (cT 2, 4096, .inr (.inl f34)))] t) (va_A [(a0, .inr (0, [v20, v21, v22, .ref a2, v23, .ref a1, v24, v25])), (a1, .inr (2, [v26, v27, v28])), (a2, .inl (cT 3, 8, .inr (.inr (.inr (.inr f29))))), (a3, .inr (2, [.ref a4, .int 1, v33])), (a4, .inl (cT 2, 4096, .inr (.inl f34)))] sz)) 1 6 (va_A [(a0, .inr (0, [v20, v21, v22, .ref a2, v23, .ref a1, v24, v25])), (a1, .inr (2, [v26, v27, v28])), (a2, .inl (cT 3, 8, .inr (.inr (.inr (.inr f29))))), (a3, .inr (2, [.ref a4, .int 1, v33])), (a4, .inl (cT 2, 4096, .inr (.inl f34)))] sz) := by
  refine vx_ofW (cc := prog_1_method_6_code) (maxL := 5) (ret := none) (by decide) rfl ?_
  intro p e s m args below meth c s₁ B hml hne hv
  obtain ⟨rfl, hsz, hZ, hP, hK, hD0⟩ := hv
  have hx := B.exec
  have hb := B.bytes
  have hr := B.returns
  have hts := atoms_spec (ws := wyB_binary) B.pre
  have htx := fun w h => hts w (List.mem_cons_of_mem _ h)
  have hown : s.vm.findClass "ValueBench" = some m.cls := findClass_of_methodNamed B.named
  have hlocks := B.notSynchronized
  subst hsz
  have hD := hD0.self (sz := s.heap.size)
  generalize hAe : va_A [(a0, .inr (0, [v20, v21, v22, .ref a2, v23, .ref a1, v24, v25])), (a1, .inr (2, [v26, v27, v28])), (a2, .inl (cT 3, 8, .inr (.inr (.inr (.inr f29))))), (a3, .inr (2, [.ref a4, .int 1, v33])), (a4, .inl (cT 2, 4096, .inr (.inl f34)))] s.heap.size = A at hD hZ ⊢
  have hA : ∀ q : Nat, s.heap.size ≤ q → A q := fun q h => by rw [← hAe]; exact Or.inr h
  have hS : va_S A s.heap s.heap [] := va_S.rf
  have hP : va_P D xcl [(a0, .inr (0, [v20, v21, v22, .ref a2, v23, .ref a1, v24, v25])), (a1, .inr (2, [v26, v27, v28])), (a2, .inl (cT 3, 8, .inr (.inr (.inr (.inr f29))))), (a3, .inr (2, [.ref a4, .int 1, v33])), (a4, .inl (cT 2, 4096, .inr (.inl f34)))] s.heap := hP
  have hl := lv_entry ([.ref a0, .int x5, .int 3, .int x10, .int x15]) (n := 5) (Nat.le_of_ble_eq_true rfl)
  rw [lg_entry_eq]
  generalize (lg_sl ([.ref a0, .int x5, .int 3, .int x10, .int x15]) ++ List.replicate (5 - (lg_sl ([.ref a0, .int x5, .int 3, .int x10, .int x15])).length) Slot.unset).toArray = ls at hl ⊢
  have hl : lv_has ls 5 [(0, .ref a0), (1, .int x5), (2, .int 3), (3, .int x10), (4, .int x15)] := hl
  refine lv_iload_n hx hb dB_binary_0 rfl (lv_at hl 1 rfl) ?_
  have hPc := hP.sub (ws' := []) [] rfl
  have hDc := hD.sub (ws' := []) [] (by decide) rfl
  have hFc := va_free (wc := []) hD hS hA [] rfl
  refine va_calli (va_runS (As := [.int x5]) (rest := []) ⟨hx, hb, hml, hown, htx⟩ (cB_isRegister_0 l hl9 D cT aK aV s.heap.size x5 h6 h7 h8 h9) ⟨callB_of 1 htx (xw_goodC kw_2_18) rfl rfl rfl (htx _ kw_1_1) (htx _ kw_2_16) ⟨by decide, by decide, by decide +kernel⟩ ⟨Nat.le_of_ble_eq_true rfl, Nat.le_of_ble_eq_true rfl⟩, htx _ kw_2_17⟩ ⟨xPre_blind, (fun U hU hW => ⟨rfl, xPre_of hZ hS hFc hPc hDc hK U hU hW⟩)⟩ rfl rfl hl.1 rfl (lv_room (Nat.le_of_ble_eq_true rfl)) dB_binary_1 ⟨Nat.le_of_ble_eq_true rfl, Nat.le_of_ble_eq_true rfl⟩) hS (fun q _ h => hFc q h) hFc (fun r1 u9 t H1 locs ht hvm hr9 hB hz1 hk1 hS => ?_)
  obtain ⟨hP1, hK1, hD1⟩ := hB
  rw [ht] at hP1
  obtain ⟨hP, hD⟩ := va_join (wr := [(a0, .inr (0, [v20, v21, v22, .ref a2, v23, .ref a1, v24, v25])), (a1, .inr (2, [v26, v27, v28])), (a2, .inl (cT 3, 8, .inr (.inr (.inr (.inr f29))))), (a3, .inr (2, [.ref a4, .int 1, v33])), (a4, .inl (cT 2, 4096, .inr (.inl f34)))]) (w1 := []) hP hD [] [0, 1, 2, 3, 4] rfl rfl (by decide) (by decide) hk1 hFc hP1 hD1
  generalize H1 = H at hP hS ⊢
  have hP : va_P D xcl [(a0, .inr (0, [v20, v21, v22, .ref a2, v23, .ref a1, v24, v25])), (a1, .inr (2, [v26, v27, v28])), (a2, .inl (cT 3, 8, .inr (.inr (.inr (.inr f29))))), (a3, .inr (2, [.ref a4, .int 1, v33])), (a4, .inl (cT 2, 4096, .inr (.inl f34)))] H := hP
  have hD : va_D A [(a0, .inr (0, [v20, v21, v22, .ref a2, v23, .ref a1, v24, v25])), (a1, .inr (2, [v26, v27, v28])), (a2, .inl (cT 3, 8, .inr (.inr (.inr (.inr f29))))), (a3, .inr (2, [.ref a4, .int 1, v33])), (a4, .inl (cT 2, 4096, .inr (.inl f34)))] := hD
  rw [hr9]
  refine W.eq (g2 := F0 m 4 ls [.int 1]) rfl ?_
  refine lv_if_eq (tgt := 34) hx hb dB_binary_4 (by decide) (fun h => ((by revert h; decide : False)).elim) (fun _ => ?_)
  refine lv_iload_n hx hb dB_binary_7 rfl (lv_at hl 2 rfl) ?_
  refine lv_iconst (v := 4) hx hb dB_binary_8 (by decide) ?_
  have hPc := hP.sub (ws' := []) [] rfl
  have hDc := hD.sub (ws' := []) [] (by decide) rfl
  have hFc := va_free (wc := []) hD hS hA [] rfl
  refine va_calli (va_runS (As := [.int 3, .int 4]) (rest := []) ⟨hx, hb, hml, hown, htx⟩ (cB_isWithin_27 l hl9 D cT aK aV H.size) ⟨callB_of 2 htx (xw_goodC kw_1_218) rfl rfl rfl (htx _ kw_1_1) (htx _ kw_1_216) ⟨by decide, by decide, by decide +kernel⟩ ⟨Nat.le_of_ble_eq_true rfl, Nat.le_of_ble_eq_true rfl⟩, htx _ kw_1_217⟩ ⟨xPre_blind, (fun U hU hW => ⟨rfl, xPre_of hZ hS hFc hPc hDc hK U hU hW⟩)⟩ rfl rfl hl.1 rfl (lv_room (Nat.le_of_ble_eq_true rfl)) dB_binary_9 ⟨Nat.le_of_ble_eq_true rfl, Nat.le_of_ble_eq_true rfl⟩) hS (fun q _ h => hFc q h) hFc (fun r2 u9 t H1 locs ht hvm hr9 hB hz1 hk1 hS => ?_)
  obtain ⟨hP1, hK1, hD1⟩ := hB
  rw [ht] at hP1
  obtain ⟨hP, hD⟩ := va_join (wr := [(a0, .inr (0, [v20, v21, v22, .ref a2, v23, .ref a1, v24, v25])), (a1, .inr (2, [v26, v27, v28])), (a2, .inl (cT 3, 8, .inr (.inr (.inr (.inr f29))))), (a3, .inr (2, [.ref a4, .int 1, v33])), (a4, .inl (cT 2, 4096, .inr (.inl f34)))]) (w1 := []) hP hD [] [0, 1, 2, 3, 4] rfl rfl (by decide) (by decide) hk1 hFc hP1 hD1
  generalize H1 = H at hP hS ⊢
  have hP : va_P D xcl [(a0, .inr (0, [v20, v21, v22, .ref a2, v23, .ref a1, v24, v25])), (a1, .inr (2, [v26, v27, v28])), (a2, .inl (cT 3, 8, .inr (.inr (.inr (.inr f29))))), (a3, .inr (2, [.ref a4, .int 1, v33])), (a4, .inl (cT 2, 4096, .inr (.inl f34)))] H := hP
  have hD : va_D A [(a0, .inr (0, [v20, v21, v22, .ref a2, v23, .ref a1, v24, v25])), (a1, .inr (2, [v26, v27, v28])), (a2, .inl (cT 3, 8, .inr (.inr (.inr (.inr f29))))), (a3, .inr (2, [.ref a4, .int 1, v33])), (a4, .inl (cT 2, 4096, .inr (.inl f34)))] := hD
  rw [hr9]
  refine W.eq (g2 := F0 m 12 ls [.int 1]) rfl ?_
  refine lv_if_eq (tgt := 34) hx hb dB_binary_12 (by decide) (fun h => ((by revert h; decide : False)).elim) (fun _ => ?_)
  refine lv_iload_n hx hb dB_binary_15 rfl (lv_at hl 3 rfl) ?_
  have hPc := hP.sub (ws' := []) [] rfl
  have hDc := hD.sub (ws' := []) [] (by decide) rfl
  have hFc := va_free (wc := []) hD hS hA [] rfl
  refine va_calli (va_runS (As := [.int x10]) (rest := []) ⟨hx, hb, hml, hown, htx⟩ (cB_isRegister_0 l hl9 D cT aK aV H.size x10 h11 h12 h13 h14) ⟨callB_of 1 htx (xw_goodC kw_2_18) rfl rfl rfl (htx _ kw_1_1) (htx _ kw_2_16) ⟨by decide, by decide, by decide +kernel⟩ ⟨Nat.le_of_ble_eq_true rfl, Nat.le_of_ble_eq_true rfl⟩, htx _ kw_2_17⟩ ⟨xPre_blind, (fun U hU hW => ⟨rfl, xPre_of hZ hS hFc hPc hDc hK U hU hW⟩)⟩ rfl rfl hl.1 rfl (lv_room (Nat.le_of_ble_eq_true rfl)) dB_binary_16 ⟨Nat.le_of_ble_eq_true rfl, Nat.le_of_ble_eq_true rfl⟩) hS (fun q _ h => hFc q h) hFc (fun r3 u9 t H1 locs ht hvm hr9 hB hz1 hk1 hS => ?_)
  obtain ⟨hP1, hK1, hD1⟩ := hB
  rw [ht] at hP1
  obtain ⟨hP, hD⟩ := va_join (wr := [(a0, .inr (0, [v20, v21, v22, .ref a2, v23, .ref a1, v24, v25])), (a1, .inr (2, [v26, v27, v28])), (a2, .inl (cT 3, 8, .inr (.inr (.inr (.inr f29))))), (a3, .inr (2, [.ref a4, .int 1, v33])), (a4, .inl (cT 2, 4096, .inr (.inl f34)))]) (w1 := []) hP hD [] [0, 1, 2, 3, 4] rfl rfl (by decide) (by decide) hk1 hFc hP1 hD1
  generalize H1 = H at hP hS ⊢
  have hP : va_P D xcl [(a0, .inr (0, [v20, v21, v22, .ref a2, v23, .ref a1, v24, v25])), (a1, .inr (2, [v26, v27, v28])), (a2, .inl (cT 3, 8, .inr (.inr (.inr (.inr f29))))), (a3, .inr (2, [.ref a4, .int 1, v33])), (a4, .inl (cT 2, 4096, .inr (.inl f34)))] H := hP
  have hD : va_D A [(a0, .inr (0, [v20, v21, v22, .ref a2, v23, .ref a1, v24, v25])), (a1, .inr (2, [v26, v27, v28])), (a2, .inl (cT 3, 8, .inr (.inr (.inr (.inr f29))))), (a3, .inr (2, [.ref a4, .int 1, v33])), (a4, .inl (cT 2, 4096, .inr (.inl f34)))] := hD
  rw [hr9]
  refine W.eq (g2 := F0 m 19 ls [.int 1]) rfl ?_
  refine lv_if_eq (tgt := 34) hx hb dB_binary_19 (by decide) (fun h => ((by revert h; decide : False)).elim) (fun _ => ?_)
  refine lv_iload hx hb dB_binary_22 (lv_at hl 4 rfl) ?_
  have hPc := hP.sub (ws' := []) [] rfl
  have hDc := hD.sub (ws' := []) [] (by decide) rfl
  have hFc := va_free (wc := []) hD hS hA [] rfl
  refine va_calli (va_runS (As := [.int x15]) (rest := []) ⟨hx, hb, hml, hown, htx⟩ (cB_isRegister_0 l hl9 D cT aK aV H.size x15 h16 h17 h18 h19) ⟨callB_of 1 htx (xw_goodC kw_2_18) rfl rfl rfl (htx _ kw_1_1) (htx _ kw_2_16) ⟨by decide, by decide, by decide +kernel⟩ ⟨Nat.le_of_ble_eq_true rfl, Nat.le_of_ble_eq_true rfl⟩, htx _ kw_2_17⟩ ⟨xPre_blind, (fun U hU hW => ⟨rfl, xPre_of hZ hS hFc hPc hDc hK U hU hW⟩)⟩ rfl rfl hl.1 rfl (lv_room (Nat.le_of_ble_eq_true rfl)) dB_binary_24 ⟨Nat.le_of_ble_eq_true rfl, Nat.le_of_ble_eq_true rfl⟩) hS (fun q _ h => hFc q h) hFc (fun r4 u9 t H1 locs ht hvm hr9 hB hz1 hk1 hS => ?_)
  obtain ⟨hP1, hK1, hD1⟩ := hB
  rw [ht] at hP1
  obtain ⟨hP, hD⟩ := va_join (wr := [(a0, .inr (0, [v20, v21, v22, .ref a2, v23, .ref a1, v24, v25])), (a1, .inr (2, [v26, v27, v28])), (a2, .inl (cT 3, 8, .inr (.inr (.inr (.inr f29))))), (a3, .inr (2, [.ref a4, .int 1, v33])), (a4, .inl (cT 2, 4096, .inr (.inl f34)))]) (w1 := []) hP hD [] [0, 1, 2, 3, 4] rfl rfl (by decide) (by decide) hk1 hFc hP1 hD1
  generalize H1 = H at hP hS ⊢
  have hP : va_P D xcl [(a0, .inr (0, [v20, v21, v22, .ref a2, v23, .ref a1, v24, v25])), (a1, .inr (2, [v26, v27, v28])), (a2, .inl (cT 3, 8, .inr (.inr (.inr (.inr f29))))), (a3, .inr (2, [.ref a4, .int 1, v33])), (a4, .inl (cT 2, 4096, .inr (.inl f34)))] H := hP
  have hD : va_D A [(a0, .inr (0, [v20, v21, v22, .ref a2, v23, .ref a1, v24, v25])), (a1, .inr (2, [v26, v27, v28])), (a2, .inl (cT 3, 8, .inr (.inr (.inr (.inr f29))))), (a3, .inr (2, [.ref a4, .int 1, v33])), (a4, .inl (cT 2, 4096, .inr (.inl f34)))] := hD
  rw [hr9]
  refine W.eq (g2 := F0 m 27 ls [.int 1]) rfl ?_
  refine lv_if_eq (tgt := 34) hx hb dB_binary_27 (by decide) (fun h => ((by revert h; decide : False)).elim) (fun _ => ?_)
  refine lv_iconst (v := 1) hx hb dB_binary_30 (by decide) ?_
  refine lv_goto (tgt := 35) hx hb dB_binary_31 (by decide) ?_
  have hPc := hP.sub (ws' := []) [] rfl
  have hDc := hD.sub (ws' := []) [] (by decide) rfl
  have hFc := va_free (wc := []) hD hS hA [] rfl
  refine va_callv (va_runS (As := [.int 1]) (rest := []) ⟨hx, hb, hml, hown, htx⟩ (cB_demand_0 l hl9 D cT aK aV H.size) ⟨callB_of 1 htx (xw_goodC kw_1_221) rfl rfl rfl (htx _ kw_1_1) (htx _ kw_1_219) ⟨by decide, by decide, by decide +kernel⟩ ⟨Nat.le_of_ble_eq_true rfl, Nat.le_of_ble_eq_true rfl⟩, htx _ kw_1_220⟩ ⟨xPre_blind, (fun U hU hW => ⟨rfl, xPre_of hZ hS hFc hPc hDc hK U hU hW⟩)⟩ rfl rfl hl.1 rfl (lv_room (Nat.le_of_ble_eq_true rfl)) dB_binary_35 ⟨Nat.le_of_ble_eq_true rfl, Nat.le_of_ble_eq_true rfl⟩) hS (fun q _ h => hFc q h) hFc (fun u9 t H1 locs ht hvm hr9 hB hz1 hk1 hS => ?_)
  obtain ⟨hP1, hK1, hD1⟩ := hB
  rw [ht] at hP1
  obtain ⟨hP, hD⟩ := va_join (wr := [(a0, .inr (0, [v20, v21, v22, .ref a2, v23, .ref a1, v24, v25])), (a1, .inr (2, [v26, v27, v28])), (a2, .inl (cT 3, 8, .inr (.inr (.inr (.inr f29))))), (a3, .inr (2, [.ref a4, .int 1, v33])), (a4, .inl (cT 2, 4096, .inr (.inl f34)))]) (w1 := []) hP hD [] [0, 1, 2, 3, 4] rfl rfl (by decide) (by decide) hk1 hFc hP1 hD1
  generalize H1 = H at hP hS ⊢
  have hP : va_P D xcl [(a0, .inr (0, [v20, v21, v22, .ref a2, v23, .ref a1, v24, v25])), (a1, .inr (2, [v26, v27, v28])), (a2, .inl (cT 3, 8, .inr (.inr (.inr (.inr f29))))), (a3, .inr (2, [.ref a4, .int 1, v33])), (a4, .inl (cT 2, 4096, .inr (.inl f34)))] H := hP
  have hD : va_D A [(a0, .inr (0, [v20, v21, v22, .ref a2, v23, .ref a1, v24, v25])), (a1, .inr (2, [v26, v27, v28])), (a2, .inl (cT 3, 8, .inr (.inr (.inr (.inr f29))))), (a3, .inr (2, [.ref a4, .int 1, v33])), (a4, .inl (cT 2, 4096, .inr (.inl f34)))] := hD
  refine lv_aload_n hx hb dB_binary_38 rfl (lv_at hl 0 rfl) ?_
  refine va_get (D := D) (ci := 0) (v := .ref a1) (C := "ValueBench") (T := TB) (N := 8) hx hb htx inB hown hK hP 0 rfl rfl 5 (by decide) (htx _ kw_1_100) (fun _ h9 => h9) rfl dB_binary_39 ?_
  have hPc := hP.sub (ws' := [(a1, .inr (2, [v26, v27, v28]))]) [1] rfl
  have hDc := hD.sub (ws' := [(a1, .inr (2, [v26, v27, v28]))]) [1] (by decide) rfl
  have hFc := va_free (wc := [(a1, .inr (2, [v26, v27, v28]))]) hD hS hA [1] rfl
  refine va_callv (va_runV (C := "ValueBench$Row") (As := []) (rest := []) ⟨hx, hb, hml, hown, htx⟩ (cR_clear_0 l hl9 D cT aK aV H.size a1 v26 v27 v28) ⟨callB_of 0 htx (xw_goodC kw_2_22) rfl rfl rfl (htx _ kw_1_4) (htx _ kw_2_19) ⟨by decide, by decide, by decide +kernel⟩ ⟨Nat.le_of_ble_eq_true rfl, Nat.le_of_ble_eq_true rfl⟩, (htx _ kw_2_20), (htx _ kw_2_21)⟩ ⟨xPre_blind, va_recv hK hP (ci := 2) rfl (q0 := 1) rfl, (fun U hU hW => ⟨rfl, xPre_of hZ hS hFc hPc hDc hK U hU hW⟩)⟩ rfl rfl hl.1 rfl (lv_room (Nat.le_of_ble_eq_true rfl)) dB_binary_42 ⟨Nat.le_of_ble_eq_true rfl, Nat.le_of_ble_eq_true rfl⟩) hS (fun q _ h => hFc q h) hFc (fun u9 t H1 locs ht hvm hr9 hB hz1 hk1 hS => ?_)
  obtain ⟨hP1, hK1, hD1⟩ := hB
  rw [ht] at hP1
  obtain ⟨hP, hD⟩ := va_join (wr := [(a0, .inr (0, [v20, v21, v22, .ref a2, v23, .ref a1, v24, v25])), (a2, .inl (cT 3, 8, .inr (.inr (.inr (.inr f29))))), (a3, .inr (2, [.ref a4, .int 1, v33])), (a4, .inl (cT 2, 4096, .inr (.inl f34)))]) (w1 := [(a1, .inr (2, [v26, .int 0, .int 0]))]) hP hD [1] [0, 2, 3, 4] rfl rfl (by decide) (by decide) hk1 hFc hP1 hD1
  generalize H1 = H at hP hS ⊢
  have hP : va_P D xcl [(a0, .inr (0, [v20, v21, v22, .ref a2, v23, .ref a1, v24, v25])), (a2, .inl (cT 3, 8, .inr (.inr (.inr (.inr f29))))), (a3, .inr (2, [.ref a4, .int 1, v33])), (a4, .inl (cT 2, 4096, .inr (.inl f34))), (a1, .inr (2, [v26, .int 0, .int 0]))] H := hP
  have hD : va_D A [(a0, .inr (0, [v20, v21, v22, .ref a2, v23, .ref a1, v24, v25])), (a2, .inl (cT 3, 8, .inr (.inr (.inr (.inr f29))))), (a3, .inr (2, [.ref a4, .int 1, v33])), (a4, .inl (cT 2, 4096, .inr (.inl f34))), (a1, .inr (2, [v26, .int 0, .int 0]))] := hD
  refine lv_aload_n hx hb dB_binary_45 rfl (lv_at hl 0 rfl) ?_
  refine lv_iload_n hx hb dB_binary_46 rfl (lv_at hl 2 rfl) ?_
  refine lv_aload_n hx hb dB_binary_47 rfl (lv_at hl 0 rfl) ?_
  refine va_get (D := D) (ci := 0) (v := .ref a2) (C := "ValueBench") (T := TB) (N := 8) hx hb htx inB hown hK hP 0 rfl rfl 3 (by decide) (htx _ kw_1_98) (fun _ h9 => h9) rfl dB_binary_48 ?_
  refine lv_iload_n hx hb dB_binary_51 rfl (lv_at hl 3 rfl) ?_
  refine va_aldq hx hb hK hP 1 3 rfl rfl h14 dB_binary_52 ?_
  refine W.eq (g2 := F0 m 53 ls [va_rf (f29 x10.toNatClampNeg), .int 3, .ref a0]) rfl ?_
  rw [h30]
  refine W.eq (g2 := F0 m 53 ls [.ref a3, .int 3, .ref a0]) rfl ?_
  refine lv_aload_n hx hb dB_binary_53 rfl (lv_at hl 0 rfl) ?_
  refine va_get (D := D) (ci := 0) (v := .ref a2) (C := "ValueBench") (T := TB) (N := 8) hx hb htx inB hown hK hP 0 rfl rfl 3 (by decide) (htx _ kw_1_98) (fun _ h9 => h9) rfl dB_binary_54 ?_
  refine lv_iload hx hb dB_binary_57 (lv_at hl 4 rfl) ?_
  refine va_aldq hx hb hK hP 1 3 rfl rfl h19 dB_binary_59 ?_
  refine W.eq (g2 := F0 m 60 ls [va_rf (f29 x15.toNatClampNeg), .ref a3, .int 3, .ref a0]) rfl ?_
  rw [h32]
  refine W.eq (g2 := F0 m 60 ls [.ref b31, .ref a3, .int 3, .ref a0]) rfl ?_
  refine lv_aload_n hx hb dB_binary_60 rfl (lv_at hl 0 rfl) ?_
  refine va_get (D := D) (ci := 0) (v := .ref a1) (C := "ValueBench") (T := TB) (N := 8) hx hb htx inB hown hK hP 0 rfl rfl 5 (by decide) (htx _ kw_1_100) (fun _ h9 => h9) rfl dB_binary_61 ?_
  have hPc := hP.sub (ws' := [(a3, .inr (2, [.ref a4, .int 1, v33])), (a4, .inl (cT 2, 4096, .inr (.inl f34)))]) [2, 3] rfl
  have hDc := hD.sub (ws' := [(a3, .inr (2, [.ref a4, .int 1, v33])), (a4, .inl (cT 2, 4096, .inr (.inl f34)))]) [2, 3] (by decide) rfl
  have hFc := va_free (wc := [(a3, .inr (2, [.ref a4, .int 1, v33])), (a4, .inl (cT 2, 4096, .inr (.inl f34)))]) hD hS hA [2, 3] rfl
  refine va_calli (va_runS (As := [.int 3, .ref a3, .ref b31, .ref a1]) (rest := [.ref a0]) ⟨hx, hb, hml, hown, htx⟩ (cA_apply_6 l hl9 D cT aK aV H.size a3 a4 b31 a1 v33 f34 (by first | rfl | exact h30 | exact h32 | exact h35)) ⟨callB_of 4 htx (xw_goodC kw_3_105) rfl rfl rfl (htx _ kw_1_21) (htx _ kw_3_103) ⟨by decide, by decide, by decide +kernel⟩ ⟨Nat.le_of_ble_eq_true rfl, Nat.le_of_ble_eq_true rfl⟩, htx _ kw_3_104⟩ ⟨xPre_blind, (fun U hU hW => ⟨rfl, xPre_of hZ hS hFc hPc hDc hK U hU hW⟩)⟩ rfl rfl hl.1 rfl (lv_room (Nat.le_of_ble_eq_true rfl)) dB_binary_64 ⟨Nat.le_of_ble_eq_true rfl, Nat.le_of_ble_eq_true rfl⟩) hS (fun q _ h => hFc q h) hFc (fun r5 u9 t H1 locs ht hvm hr9 hB hz1 hk1 hS => ?_)
  obtain ⟨hP1, hK1, hD1⟩ := hB
  rw [ht] at hP1
  obtain ⟨hP, hD⟩ := va_join (wr := [(a0, .inr (0, [v20, v21, v22, .ref a2, v23, .ref a1, v24, v25])), (a2, .inl (cT 3, 8, .inr (.inr (.inr (.inr f29))))), (a1, .inr (2, [v26, .int 0, .int 0]))]) (w1 := [(a3, .inr (2, [.ref a4, .int 1, v33])), (a4, .inl (cT 2, 4096, .inr (.inl f34)))]) hP hD [2, 3] [0, 1, 4] rfl rfl (by decide) (by decide) hk1 hFc hP1 hD1
  generalize H1 = H at hP hS ⊢
  have hP : va_P D xcl [(a0, .inr (0, [v20, v21, v22, .ref a2, v23, .ref a1, v24, v25])), (a2, .inl (cT 3, 8, .inr (.inr (.inr (.inr f29))))), (a1, .inr (2, [v26, .int 0, .int 0])), (a3, .inr (2, [.ref a4, .int 1, v33])), (a4, .inl (cT 2, 4096, .inr (.inl f34)))] H := hP
  have hD : va_D A [(a0, .inr (0, [v20, v21, v22, .ref a2, v23, .ref a1, v24, v25])), (a2, .inl (cT 3, 8, .inr (.inr (.inr (.inr f29))))), (a1, .inr (2, [v26, .int 0, .int 0])), (a3, .inr (2, [.ref a4, .int 1, v33])), (a4, .inl (cT 2, 4096, .inr (.inl f34)))] := hD
  rw [hr9]
  refine W.eq (g2 := F0 m 67 ls [.int 1, .ref a0]) rfl ?_
  have hPc := hP.sub (ws' := [(a0, .inr (0, [v20, v21, v22, .ref a2, v23, .ref a1, v24, v25]))]) [0] rfl
  have hDc := hD.sub (ws' := [(a0, .inr (0, [v20, v21, v22, .ref a2, v23, .ref a1, v24, v25]))]) [0] (by decide) rfl
  have hFc := va_free (wc := [(a0, .inr (0, [v20, v21, v22, .ref a2, v23, .ref a1, v24, v25]))]) hD hS hA [0] rfl
  refine xx_thr (vx_runV (C := "ValueBench") (As := [.int 1]) (rest := []) ⟨hx, hb, hml, hown, htx⟩ (cB_demandDone_1 l hl9 D cT aK aV H.size a0 v20 v21 v22 (.ref a2) v23 (.ref a1) v24 v25) ⟨callB_of 1 htx (xw_goodC kw_3_222) rfl rfl rfl (htx _ kw_1_1) (htx _ kw_3_219) ⟨by decide, by decide, by decide +kernel⟩ ⟨Nat.le_of_ble_eq_true rfl, Nat.le_of_ble_eq_true rfl⟩, (htx _ kw_3_221), (htx _ kp_B_demandDone)⟩ ⟨xPre_blind, va_recv hK hP (ci := 0) rfl (q0 := 0) rfl, (fun U hU hW => ⟨rfl, xPre_of hZ hS hFc hPc hDc hK U hU hW⟩)⟩ rfl rfl hl.1 rfl (lv_room (Nat.le_of_ble_eq_true rfl)) dB_binary_67 ⟨Nat.le_of_ble_eq_true rfl, Nat.le_of_ble_eq_true rfl⟩) hS hFc (fun q _ h => hFc q h) (fun E ce q9 u9 t H1 locs ht hvm _ hB hz1 hk1 hS hce hcv hcl => ?_)
  obtain ⟨rfl, hP1, hK1, hD1⟩ := hB
  rw [ht] at hP1
  obtain ⟨hP, hD⟩ := va_join (wr := [(a2, .inl (cT 3, 8, .inr (.inr (.inr (.inr f29))))), (a1, .inr (2, [v26, .int 0, .int 0])), (a3, .inr (2, [.ref a4, .int 1, v33])), (a4, .inl (cT 2, 4096, .inr (.inl f34)))]) (w1 := [(a0, .inr (0, [v20, v21, v22, .ref a2, v23, .ref a1, v24, .int 1]))]) hP hD [0] [1, 2, 3, 4] rfl rfl (by decide) (by decide) hk1 hFc hP1 hD1
  generalize H1 = H at hP hS hce ⊢
  have hP : va_P D xcl [(a2, .inl (cT 3, 8, .inr (.inr (.inr (.inr f29))))), (a1, .inr (2, [v26, .int 0, .int 0])), (a3, .inr (2, [.ref a4, .int 1, v33])), (a4, .inl (cT 2, 4096, .inr (.inl f34))), (a0, .inr (0, [v20, v21, v22, .ref a2, v23, .ref a1, v24, .int 1]))] H := hP
  have hD : va_D A [(a2, .inl (cT 3, 8, .inr (.inr (.inr (.inr f29))))), (a1, .inr (2, [v26, .int 0, .int 0])), (a3, .inr (2, [.ref a4, .int 1, v33])), (a4, .inl (cT 2, 4096, .inr (.inl f34))), (a0, .inr (0, [v20, v21, v22, .ref a2, v23, .ref a1, v24, .int 1]))] := hD
  have hP9 := hP.sub (ws' := [(a0, .inr (0, [v20, v21, v22, .ref a2, v23, .ref a1, v24, .int 1])), (a1, .inr (2, [v26, .int 0, .int 0])), (a2, .inl (cT 3, 8, .inr (.inr (.inr (.inr f29))))), (a3, .inr (2, [.ref a4, .int 1, v33])), (a4, .inl (cT 2, 4096, .inr (.inl f34)))]) [4, 1, 0, 2, 3] rfl
  have hD9 := hD.sub (ws' := [(a0, .inr (0, [v20, v21, v22, .ref a2, v23, .ref a1, v24, .int 1])), (a1, .inr (2, [v26, .int 0, .int 0])), (a2, .inl (cT 3, 8, .inr (.inr (.inr (.inr f29))))), (a3, .inr (2, [.ref a4, .int 1, v33])), (a4, .inl (cT 2, 4096, .inr (.inl f34)))]) [4, 1, 0, 2, 3] (by decide) rfl
  exact vx_out (E := "java/lang/ArithmeticException") (fun x h => (hne x h).elim) hlocks hce hcv hcl (fun t ht ha => ⟨(), trivial, ⟨rfl, by rw [ht]; exact hP9, va_K.moved ha hK, hD9⟩, hS.F ht⟩) hS.2.2 (Nat.le_of_ble_eq_true rfl) (Nat.le_of_ble_eq_true rfl)
set_option maxHeartbeats 4000000 in
set_option maxRecDepth 100000 in
theorem cA_pieces_1 (l : Launch) (hl9 : l.stackTraces = false) (D : va_G) (cT : Nat → ClassId) (aK aV : Nat → Nat) (sz : Nat) (a0 : Nat) (a1 : Nat) (b2 : Nat) (v3 : Value) (f4 : Nat → Int64) (h5 : f4 0 = 0) : Met l yA_pieces wyA_pieces ({ frames := 2, cells := 0, slots := 0, locals := 43 }) (va_Pc [.ref a0, .ref a0, .ref b2] (xPre D xcl cT aK aV sz [(a0, .inr (2, [.ref a1, .int 1, v3])), (a1, .inl (cT 2, 4096, .inr (.inl f4)))])) (va_Qi (fun (r : Int32) (_ : Unit) => r = 1) (fun _ t => xB D xcl cT (va_A [(a0, .inr (2, [.ref a1, .int 1, v3])), (a1, .inl (cT 2, 4096, .inr (.inl f4)))] sz) [(a0, .inr (2, [.ref a1, .int 1, v3])), (a1, .inl (cT 2, 4096, .inr (.inl f4)))] t) (va_A [(a0, .inr (2, [.ref a1, .int 1, v3])), (a1, .inl (cT 2, 4096, .inr (.inl f4)))] sz)) 0 0 (va_A [(a0, .inr (2, [.ref a1, .int 1, v3])), (a1, .inl (cT 2, 4096, .inr (.inl f4)))] sz) := by
  refine Met.ofW (cc := prog_3_method_14_code) (maxL := 5) (ret := (some .int)) (by decide) rfl ?_
  intro p e s m args below meth c s₁ B hml hv
  obtain ⟨rfl, hsz, hZ, hP, hK, hD0⟩ := hv
  have hx := B.exec
  have hb := B.bytes
  have hr := B.returns
  have hts := atoms_spec (ws := wyA_pieces) B.pre
  have htx := fun w h => hts w (List.mem_cons_of_mem _ h)
  have hown : s.vm.findClass "ValueBench$Operators" = some m.cls := findClass_of_methodNamed B.named
  have hlocks := B.notSynchronized
  subst hsz
  have hD := hD0.self (sz := s.heap.size)
  generalize hAe : va_A [(a0, .inr (2, [.ref a1, .int 1, v3])), (a1, .inl (cT 2, 4096, .inr (.inl f4)))] s.heap.size = A at hD hZ ⊢
  have hA : ∀ q : Nat, s.heap.size ≤ q → A q := fun q h => by rw [← hAe]; exact Or.inr h
  have hS : va_S A s.heap s.heap [] := va_S.rf
  have hP : va_P D xcl [(a0, .inr (2, [.ref a1, .int 1, v3])), (a1, .inl (cT 2, 4096, .inr (.inl f4)))] s.heap := hP
  have hl := lv_entry ([.ref a0, .ref a0, .ref b2]) (n := 5) (Nat.le_of_ble_eq_true rfl)
  rw [lg_entry_eq]
  generalize (lg_sl ([.ref a0, .ref a0, .ref b2]) ++ List.replicate (5 - (lg_sl ([.ref a0, .ref a0, .ref b2])).length) Slot.unset).toArray = ls at hl ⊢
  have hl : lv_has ls 5 [(0, .ref a0), (1, .ref a0), (2, .ref b2)] := hl
  refine lv_aload_n hx hb dA_pieces_0 rfl (lv_at hl 0 rfl) ?_
  refine lv_iconst (v := 0) hx hb dA_pieces_1 (by decide) ?_
  refine lv_iconst (v := 4) hx hb dA_pieces_2 (by decide) ?_
  have hPc := hP.sub (ws' := [(a0, .inr (2, [.ref a1, .int 1, v3])), (a1, .inl (cT 2, 4096, .inr (.inl f4)))]) [0, 1] rfl
  have hDc := hD.sub (ws' := [(a0, .inr (2, [.ref a1, .int 1, v3])), (a1, .inl (cT 2, 4096, .inr (.inl f4)))]) [0, 1] (by decide) rfl
  have hFc := va_free (wc := [(a0, .inr (2, [.ref a1, .int 1, v3])), (a1, .inl (cT 2, 4096, .inr (.inl f4)))]) hD hS hA [0, 1] rfl
  refine va_calli (va_runV (C := "ValueBench$Row") (As := [.int 0, .int 4]) (rest := []) ⟨hx, hb, hml, hown, htx⟩ (cR_is_3 l hl9 D cT aK aV s.heap.size a0 a1 v3 f4 (by first | rfl | exact h5)) ⟨callB_of 2 htx (xw_goodC kw_3_75) rfl rfl rfl (htx _ kw_1_4) (htx _ kw_3_106) ⟨by decide, by decide, by decide +kernel⟩ ⟨Nat.le_of_ble_eq_true rfl, Nat.le_of_ble_eq_true rfl⟩, (htx _ kw_3_73), (htx _ kw_3_74)⟩ ⟨xPre_blind, va_recv hK hP (ci := 2) rfl (q0 := 0) rfl, (fun U hU hW => ⟨rfl, xPre_of hZ hS hFc hPc hDc hK U hU hW⟩)⟩ rfl rfl hl.1 rfl (lv_room (Nat.le_of_ble_eq_true rfl)) dA_pieces_3 ⟨Nat.le_of_ble_eq_true rfl, Nat.le_of_ble_eq_true rfl⟩) hS (fun q _ h => hFc q h) hFc (fun r1 u9 t H1 locs ht hvm hr9 hB hz1 hk1 hS => ?_)
  obtain ⟨hP1, hK1, hD1⟩ := hB
  rw [ht] at hP1
  obtain ⟨hP, hD⟩ := va_join (wr := []) (w1 := [(a0, .inr (2, [.ref a1, .int 1, v3])), (a1, .inl (cT 2, 4096, .inr (.inl f4)))]) hP hD [0, 1] [] rfl rfl (by decide) (by decide) hk1 hFc hP1 hD1
  generalize H1 = H at hP hS ⊢
  have hP : va_P D xcl [(a0, .inr (2, [.ref a1, .int 1, v3])), (a1, .inl (cT 2, 4096, .inr (.inl f4)))] H := hP
  have hD : va_D A [(a0, .inr (2, [.ref a1, .int 1, v3])), (a1, .inl (cT 2, 4096, .inr (.inl f4)))] := hD
  rw [hr9]
  refine W.eq (g2 := F0 m 6 ls [.int 0]) rfl ?_
  refine lv_if_eq (tgt := 18) hx hb dA_pieces_6 (by decide) (fun _ => ?_) (fun h => ((by revert h; decide : False)).elim)
  refine lv_iconst (v := 1) hx hb dA_pieces_18 (by decide) ?_
  have hP9 := hP.sub (ws' := [(a0, .inr (2, [.ref a1, .int 1, v3])), (a1, .inl (cT 2, 4096, .inr (.inl f4)))]) [0, 1] rfl
  have hD9 := hD.sub (ws' := [(a0, .inr (2, [.ref a1, .int 1, v3])), (a1, .inl (cT 2, 4096, .inr (.inl f4)))]) [0, 1] (by decide) rfl
  refine W.widen (k := 0) (n := 0) (Nat.le_of_ble_eq_true rfl) (Nat.le_of_ble_eq_true rfl) ?_
  exact W.iret (v := 1) hx hb hr (fun t ht hW => ⟨⟨1, (), rfl, rfl, by rw [ht]; exact hP9, va_K.moved hW.alike hK, hD9⟩, hS.F ht⟩) hS.2.2 dA_pieces_19
set_option maxHeartbeats 4000000 in
set_option maxRecDepth 100000 in
theorem cA_apply_7 (l : Launch) (hl9 : l.stackTraces = false) (D : va_G) (cT : Nat → ClassId) (aK aV : Nat → Nat) (sz : Nat) (a0 : Nat) (a1 : Nat) (b2 : Nat) (v3 : Value) (f4 : Nat → Int64) (h5 : f4 0 = 0) : Met l yA_apply wyA_apply ({ frames := 3, cells := 0, slots := 0, locals := 67 }) (va_Pc [.int 3, .ref a0, .ref a0, .ref b2] (xPre D xcl cT aK aV sz [(a0, .inr (2, [.ref a1, .int 1, v3])), (a1, .inl (cT 2, 4096, .inr (.inl f4)))])) (va_Qi (fun (r : Int32) (_ : Unit) => r = 1) (fun _ t => xB D xcl cT (va_A [(a0, .inr (2, [.ref a1, .int 1, v3])), (a1, .inl (cT 2, 4096, .inr (.inl f4)))] sz) [(a0, .inr (2, [.ref a1, .int 1, v3])), (a1, .inl (cT 2, 4096, .inr (.inl f4)))] t) (va_A [(a0, .inr (2, [.ref a1, .int 1, v3])), (a1, .inl (cT 2, 4096, .inr (.inl f4)))] sz)) 0 0 (va_A [(a0, .inr (2, [.ref a1, .int 1, v3])), (a1, .inl (cT 2, 4096, .inr (.inl f4)))] sz) := by
  refine Met.ofW (cc := prog_3_method_2_code) (maxL := 4) (ret := (some .int)) (by decide) rfl ?_
  intro p e s m args below meth c s₁ B hml hv
  obtain ⟨rfl, hsz, hZ, hP, hK, hD0⟩ := hv
  have hx := B.exec
  have hb := B.bytes
  have hr := B.returns
  have hts := atoms_spec (ws := wyA_apply) B.pre
  have htx := fun w h => hts w (List.mem_cons_of_mem _ h)
  have hown : s.vm.findClass "ValueBench$Operators" = some m.cls := findClass_of_methodNamed B.named
  have hlocks := B.notSynchronized
  subst hsz
  have hD := hD0.self (sz := s.heap.size)
  generalize hAe : va_A [(a0, .inr (2, [.ref a1, .int 1, v3])), (a1, .inl (cT 2, 4096, .inr (.inl f4)))] s.heap.size = A at hD hZ ⊢
  have hA : ∀ q : Nat, s.heap.size ≤ q → A q := fun q h => by rw [← hAe]; exact Or.inr h
  have hS : va_S A s.heap s.heap [] := va_S.rf
  have hP : va_P D xcl [(a0, .inr (2, [.ref a1, .int 1, v3])), (a1, .inl (cT 2, 4096, .inr (.inl f4)))] s.heap := hP
  have hl := lv_entry ([.int 3, .ref a0, .ref a0, .ref b2]) (n := 4) (Nat.le_of_ble_eq_true rfl)
  rw [lg_entry_eq]
  generalize (lg_sl ([.int 3, .ref a0, .ref a0, .ref b2]) ++ List.replicate (4 - (lg_sl ([.int 3, .ref a0, .ref a0, .ref b2])).length) Slot.unset).toArray = ls at hl ⊢
  have hl : lv_has ls 4 [(0, .int 3), (1, .ref a0), (2, .ref a0), (3, .ref b2)] := hl
  refine lv_aload_n hx hb dA_apply_0 rfl (lv_at hl 1 rfl) ?_
  refine lv_iconst (v := 0) hx hb dA_apply_1 (by decide) ?_
  refine lv_iconst (v := 3) hx hb dA_apply_2 (by decide) ?_
  have hPc := hP.sub (ws' := [(a0, .inr (2, [.ref a1, .int 1, v3])), (a1, .inl (cT 2, 4096, .inr (.inl f4)))]) [0, 1] rfl
  have hDc := hD.sub (ws' := [(a0, .inr (2, [.ref a1, .int 1, v3])), (a1, .inl (cT 2, 4096, .inr (.inl f4)))]) [0, 1] (by decide) rfl
  have hFc := va_free (wc := [(a0, .inr (2, [.ref a1, .int 1, v3])), (a1, .inl (cT 2, 4096, .inr (.inl f4)))]) hD hS hA [0, 1] rfl
  refine va_calli (va_runV (C := "ValueBench$Row") (As := [.int 0, .int 3]) (rest := []) ⟨hx, hb, hml, hown, htx⟩ (cR_is_4 l hl9 D cT aK aV s.heap.size a0 a1 v3 f4 (by first | rfl | exact h5)) ⟨callB_of 2 htx (xw_goodC kw_3_75) rfl rfl rfl (htx _ kw_1_4) (htx _ kw_3_106) ⟨by decide, by decide, by decide +kernel⟩ ⟨Nat.le_of_ble_eq_true rfl, Nat.le_of_ble_eq_true rfl⟩, (htx _ kw_3_73), (htx _ kw_3_74)⟩ ⟨xPre_blind, va_recv hK hP (ci := 2) rfl (q0 := 0) rfl, (fun U hU hW => ⟨rfl, xPre_of hZ hS hFc hPc hDc hK U hU hW⟩)⟩ rfl rfl hl.1 rfl (lv_room (Nat.le_of_ble_eq_true rfl)) dA_apply_3 ⟨Nat.le_of_ble_eq_true rfl, Nat.le_of_ble_eq_true rfl⟩) hS (fun q _ h => hFc q h) hFc (fun r1 u9 t H1 locs ht hvm hr9 hB hz1 hk1 hS => ?_)
  obtain ⟨hP1, hK1, hD1⟩ := hB
  rw [ht] at hP1
  obtain ⟨hP, hD⟩ := va_join (wr := []) (w1 := [(a0, .inr (2, [.ref a1, .int 1, v3])), (a1, .inl (cT 2, 4096, .inr (.inl f4)))]) hP hD [0, 1] [] rfl rfl (by decide) (by decide) hk1 hFc hP1 hD1
  generalize H1 = H at hP hS ⊢
  have hP : va_P D xcl [(a0, .inr (2, [.ref a1, .int 1, v3])), (a1, .inl (cT 2, 4096, .inr (.inl f4)))] H := hP
  have hD : va_D A [(a0, .inr (2, [.ref a1, .int 1, v3])), (a1, .inl (cT 2, 4096, .inr (.inl f4)))] := hD
  rw [hr9]
  refine W.eq (g2 := F0 m 6 ls [.int 0]) rfl ?_
  refine lv_if_eq (tgt := 34) hx hb dA_apply_6 (by decide) (fun _ => ?_) (fun h => ((by revert h; decide : False)).elim)
  refine lv_iload_n hx hb dA_apply_34 rfl (lv_at hl 0 rfl) ?_
  refine lv_tableIn (off := 50) (tgt := 85) hx hb dA_apply_35 (by decide) (by decide) (by decide) (by decide) ?_
  refine lv_aload_n hx hb dA_apply_85 rfl (lv_at hl 1 rfl) ?_
  refine lv_aload_n hx hb dA_apply_86 rfl (lv_at hl 2 rfl) ?_
  refine lv_aload_n hx hb dA_apply_87 rfl (lv_at hl 3 rfl) ?_
  have hPc := hP.sub (ws' := [(a0, .inr (2, [.ref a1, .int 1, v3])), (a1, .inl (cT 2, 4096, .inr (.inl f4)))]) [0, 1] rfl
  have hDc := hD.sub (ws' := [(a0, .inr (2, [.ref a1, .int 1, v3])), (a1, .inl (cT 2, 4096, .inr (.inl f4)))]) [0, 1] (by decide) rfl
  have hFc := va_free (wc := [(a0, .inr (2, [.ref a1, .int 1, v3])), (a1, .inl (cT 2, 4096, .inr (.inl f4)))]) hD hS hA [0, 1] rfl
  refine va_calli (va_runS (As := [.ref a0, .ref a0, .ref b2]) (rest := []) ⟨hx, hb, hml, hown, htx⟩ (cA_pieces_1 l hl9 D cT aK aV H.size a0 a1 b2 v3 f4 (by first | rfl | exact h5)) ⟨callB_of 3 htx (xw_goodC kw_3_201) rfl rfl rfl (htx _ kw_1_21) (htx _ kw_3_199) ⟨by decide, by decide, by decide +kernel⟩ ⟨Nat.le_of_ble_eq_true rfl, Nat.le_of_ble_eq_true rfl⟩, htx _ kw_3_200⟩ ⟨xPre_blind, (fun U hU hW => ⟨rfl, xPre_of hZ hS hFc hPc hDc hK U hU hW⟩)⟩ rfl rfl hl.1 rfl (lv_room (Nat.le_of_ble_eq_true rfl)) dA_apply_88 ⟨Nat.le_of_ble_eq_true rfl, Nat.le_of_ble_eq_true rfl⟩) hS (fun q _ h => hFc q h) hFc (fun r2 u9 t H1 locs ht hvm hr9 hB hz1 hk1 hS => ?_)
  obtain ⟨hP1, hK1, hD1⟩ := hB
  rw [ht] at hP1
  obtain ⟨hP, hD⟩ := va_join (wr := []) (w1 := [(a0, .inr (2, [.ref a1, .int 1, v3])), (a1, .inl (cT 2, 4096, .inr (.inl f4)))]) hP hD [0, 1] [] rfl rfl (by decide) (by decide) hk1 hFc hP1 hD1
  generalize H1 = H at hP hS ⊢
  have hP : va_P D xcl [(a0, .inr (2, [.ref a1, .int 1, v3])), (a1, .inl (cT 2, 4096, .inr (.inl f4)))] H := hP
  have hD : va_D A [(a0, .inr (2, [.ref a1, .int 1, v3])), (a1, .inl (cT 2, 4096, .inr (.inl f4)))] := hD
  rw [hr9]
  refine W.eq (g2 := F0 m 91 ls [.int 1]) rfl ?_
  have hP9 := hP.sub (ws' := [(a0, .inr (2, [.ref a1, .int 1, v3])), (a1, .inl (cT 2, 4096, .inr (.inl f4)))]) [0, 1] rfl
  have hD9 := hD.sub (ws' := [(a0, .inr (2, [.ref a1, .int 1, v3])), (a1, .inl (cT 2, 4096, .inr (.inl f4)))]) [0, 1] (by decide) rfl
  refine W.widen (k := 0) (n := 0) (Nat.le_of_ble_eq_true rfl) (Nat.le_of_ble_eq_true rfl) ?_
  exact W.iret (v := 1) hx hb hr (fun t ht hW => ⟨⟨1, (), rfl, rfl, by rw [ht]; exact hP9, va_K.moved hW.alike hK, hD9⟩, hS.F ht⟩) hS.2.2 dA_apply_91
set_option maxHeartbeats 4000000 in
set_option maxRecDepth 100000 in
theorem cB_binary_7 (l : Launch) (hl9 : l.stackTraces = false) (D : va_G) (cT : Nat → ClassId) (aK aV : Nat → Nat) (sz : Nat) (a0 : Nat) (a1 : Nat) (a2 : Nat) (a3 : Nat) (a4 : Nat) (x5 : Int32) (x10 : Int32) (x15 : Int32) (v20 : Value) (v21 : Value) (v22 : Value) (v23 : Value) (v24 : Value) (v25 : Value) (v26 : Value) (v27 : Value) (v28 : Value) (f29 : Nat → Option Nat) (v32 : Value) (f33 : Nat → Int64) (h6 : ¬ x5 < 0) (h7 : ¬ 7 < x5) (h8 : x5 ≤ 7) (h9 : vp_in x5 8) (h11 : ¬ x10 < 0) (h12 : ¬ 7 < x10) (h13 : x10 ≤ 7) (h14 : vp_in x10 8) (h16 : ¬ x15 < 0) (h17 : ¬ 7 < x15) (h18 : x15 ≤ 7) (h19 : vp_in x15 8) (h30 : f29 x10.toNatClampNeg = some a3) (h31 : f29 x15.toNatClampNeg = some a3) (h34 : f33 0 = 0) : vx_Met l yB_binary wyB_binary ({ frames := 7, cells := 1, slots := 6, locals := 121 }) (va_Pc [.ref a0, .int x5, .int 3, .int x10, .int x15] (xPre D xcl cT aK aV sz [(a0, .inr (0, [v20, v21, v22, .ref a2, v23, .ref a1, v24, v25])), (a1, .inr (2, [v26, v27, v28])), (a2, .inl (cT 3, 8, .inr (.inr (.inr (.inr f29))))), (a3, .inr (2, [.ref a4, .int 1, v32])), (a4, .inl (cT 2, 4096, .inr (.inl f33)))])) (fun _ _ _ _ => False) (vx_X (fun _ : Unit => True) (fun E _ t => E = "java/lang/ArithmeticException" ∧ xB D xcl cT (va_A [(a0, .inr (0, [v20, v21, v22, .ref a2, v23, .ref a1, v24, v25])), (a1, .inr (2, [v26, v27, v28])), (a2, .inl (cT 3, 8, .inr (.inr (.inr (.inr f29))))), (a3, .inr (2, [.ref a4, .int 1, v32])), (a4, .inl (cT 2, 4096, .inr (.inl f33)))] sz) [(a0, .inr (0, [v20, v21, v22, .ref a2, v23, .ref a1, v24, .int 1])), (a1, .inr (2, [v26, .int 0, .int 0])), (a2, .inl (cT 3, 8, .inr (.inr (.inr (.inr f29))))), (a3, .inr (2, [.ref a4, .int 1, v32])), (a4, .inl (cT 2, 4096, .inr (.inl f33)))] t) (va_A [(a0, .inr (0, [v20, v21, v22, .ref a2, v23, .ref a1, v24, v25])), (a1, .inr (2, [v26, v27, v28])), (a2, .inl (cT 3, 8, .inr (.inr (.inr (.inr f29))))), (a3, .inr (2, [.ref a4, .int 1, v32])), (a4, .inl (cT 2, 4096, .inr (.inl f33)))] sz)) 1 6 (va_A [(a0, .inr (0, [v20, v21, v22, .ref a2, v23, .ref a1, v24, v25])), (a1, .inr (2, [v26, v27, v28])), (a2, .inl (cT 3, 8, .inr (.inr (.inr (.inr f29))))), (a3, .inr (2, [.ref a4, .int 1, v32])), (a4, .inl (cT 2, 4096, .inr (.inl f33)))] sz) := by
  refine vx_ofW (cc := prog_1_method_6_code) (maxL := 5) (ret := none) (by decide) rfl ?_
  intro p e s m args below meth c s₁ B hml hne hv
  obtain ⟨rfl, hsz, hZ, hP, hK, hD0⟩ := hv
  have hx := B.exec
  have hb := B.bytes
  have hr := B.returns
  have hts := atoms_spec (ws := wyB_binary) B.pre
  have htx := fun w h => hts w (List.mem_cons_of_mem _ h)
  have hown : s.vm.findClass "ValueBench" = some m.cls := findClass_of_methodNamed B.named
  have hlocks := B.notSynchronized
  subst hsz
  have hD := hD0.self (sz := s.heap.size)
  generalize hAe : va_A [(a0, .inr (0, [v20, v21, v22, .ref a2, v23, .ref a1, v24, v25])), (a1, .inr (2, [v26, v27, v28])), (a2, .inl (cT 3, 8, .inr (.inr (.inr (.inr f29))))), (a3, .inr (2, [.ref a4, .int 1, v32])), (a4, .inl (cT 2, 4096, .inr (.inl f33)))] s.heap.size = A at hD hZ ⊢
  have hA : ∀ q : Nat, s.heap.size ≤ q → A q := fun q h => by rw [← hAe]; exact Or.inr h
  have hS : va_S A s.heap s.heap [] := va_S.rf
  have hP : va_P D xcl [(a0, .inr (0, [v20, v21, v22, .ref a2, v23, .ref a1, v24, v25])), (a1, .inr (2, [v26, v27, v28])), (a2, .inl (cT 3, 8, .inr (.inr (.inr (.inr f29))))), (a3, .inr (2, [.ref a4, .int 1, v32])), (a4, .inl (cT 2, 4096, .inr (.inl f33)))] s.heap := hP
  have hl := lv_entry ([.ref a0, .int x5, .int 3, .int x10, .int x15]) (n := 5) (Nat.le_of_ble_eq_true rfl)
  rw [lg_entry_eq]
  generalize (lg_sl ([.ref a0, .int x5, .int 3, .int x10, .int x15]) ++ List.replicate (5 - (lg_sl ([.ref a0, .int x5, .int 3, .int x10, .int x15])).length) Slot.unset).toArray = ls at hl ⊢
  have hl : lv_has ls 5 [(0, .ref a0), (1, .int x5), (2, .int 3), (3, .int x10), (4, .int x15)] := hl
  refine lv_iload_n hx hb dB_binary_0 rfl (lv_at hl 1 rfl) ?_
  have hPc := hP.sub (ws' := []) [] rfl
  have hDc := hD.sub (ws' := []) [] (by decide) rfl
  have hFc := va_free (wc := []) hD hS hA [] rfl
  refine va_calli (va_runS (As := [.int x5]) (rest := []) ⟨hx, hb, hml, hown, htx⟩ (cB_isRegister_0 l hl9 D cT aK aV s.heap.size x5 h6 h7 h8 h9) ⟨callB_of 1 htx (xw_goodC kw_2_18) rfl rfl rfl (htx _ kw_1_1) (htx _ kw_2_16) ⟨by decide, by decide, by decide +kernel⟩ ⟨Nat.le_of_ble_eq_true rfl, Nat.le_of_ble_eq_true rfl⟩, htx _ kw_2_17⟩ ⟨xPre_blind, (fun U hU hW => ⟨rfl, xPre_of hZ hS hFc hPc hDc hK U hU hW⟩)⟩ rfl rfl hl.1 rfl (lv_room (Nat.le_of_ble_eq_true rfl)) dB_binary_1 ⟨Nat.le_of_ble_eq_true rfl, Nat.le_of_ble_eq_true rfl⟩) hS (fun q _ h => hFc q h) hFc (fun r1 u9 t H1 locs ht hvm hr9 hB hz1 hk1 hS => ?_)
  obtain ⟨hP1, hK1, hD1⟩ := hB
  rw [ht] at hP1
  obtain ⟨hP, hD⟩ := va_join (wr := [(a0, .inr (0, [v20, v21, v22, .ref a2, v23, .ref a1, v24, v25])), (a1, .inr (2, [v26, v27, v28])), (a2, .inl (cT 3, 8, .inr (.inr (.inr (.inr f29))))), (a3, .inr (2, [.ref a4, .int 1, v32])), (a4, .inl (cT 2, 4096, .inr (.inl f33)))]) (w1 := []) hP hD [] [0, 1, 2, 3, 4] rfl rfl (by decide) (by decide) hk1 hFc hP1 hD1
  generalize H1 = H at hP hS ⊢
  have hP : va_P D xcl [(a0, .inr (0, [v20, v21, v22, .ref a2, v23, .ref a1, v24, v25])), (a1, .inr (2, [v26, v27, v28])), (a2, .inl (cT 3, 8, .inr (.inr (.inr (.inr f29))))), (a3, .inr (2, [.ref a4, .int 1, v32])), (a4, .inl (cT 2, 4096, .inr (.inl f33)))] H := hP
  have hD : va_D A [(a0, .inr (0, [v20, v21, v22, .ref a2, v23, .ref a1, v24, v25])), (a1, .inr (2, [v26, v27, v28])), (a2, .inl (cT 3, 8, .inr (.inr (.inr (.inr f29))))), (a3, .inr (2, [.ref a4, .int 1, v32])), (a4, .inl (cT 2, 4096, .inr (.inl f33)))] := hD
  rw [hr9]
  refine W.eq (g2 := F0 m 4 ls [.int 1]) rfl ?_
  refine lv_if_eq (tgt := 34) hx hb dB_binary_4 (by decide) (fun h => ((by revert h; decide : False)).elim) (fun _ => ?_)
  refine lv_iload_n hx hb dB_binary_7 rfl (lv_at hl 2 rfl) ?_
  refine lv_iconst (v := 4) hx hb dB_binary_8 (by decide) ?_
  have hPc := hP.sub (ws' := []) [] rfl
  have hDc := hD.sub (ws' := []) [] (by decide) rfl
  have hFc := va_free (wc := []) hD hS hA [] rfl
  refine va_calli (va_runS (As := [.int 3, .int 4]) (rest := []) ⟨hx, hb, hml, hown, htx⟩ (cB_isWithin_27 l hl9 D cT aK aV H.size) ⟨callB_of 2 htx (xw_goodC kw_1_218) rfl rfl rfl (htx _ kw_1_1) (htx _ kw_1_216) ⟨by decide, by decide, by decide +kernel⟩ ⟨Nat.le_of_ble_eq_true rfl, Nat.le_of_ble_eq_true rfl⟩, htx _ kw_1_217⟩ ⟨xPre_blind, (fun U hU hW => ⟨rfl, xPre_of hZ hS hFc hPc hDc hK U hU hW⟩)⟩ rfl rfl hl.1 rfl (lv_room (Nat.le_of_ble_eq_true rfl)) dB_binary_9 ⟨Nat.le_of_ble_eq_true rfl, Nat.le_of_ble_eq_true rfl⟩) hS (fun q _ h => hFc q h) hFc (fun r2 u9 t H1 locs ht hvm hr9 hB hz1 hk1 hS => ?_)
  obtain ⟨hP1, hK1, hD1⟩ := hB
  rw [ht] at hP1
  obtain ⟨hP, hD⟩ := va_join (wr := [(a0, .inr (0, [v20, v21, v22, .ref a2, v23, .ref a1, v24, v25])), (a1, .inr (2, [v26, v27, v28])), (a2, .inl (cT 3, 8, .inr (.inr (.inr (.inr f29))))), (a3, .inr (2, [.ref a4, .int 1, v32])), (a4, .inl (cT 2, 4096, .inr (.inl f33)))]) (w1 := []) hP hD [] [0, 1, 2, 3, 4] rfl rfl (by decide) (by decide) hk1 hFc hP1 hD1
  generalize H1 = H at hP hS ⊢
  have hP : va_P D xcl [(a0, .inr (0, [v20, v21, v22, .ref a2, v23, .ref a1, v24, v25])), (a1, .inr (2, [v26, v27, v28])), (a2, .inl (cT 3, 8, .inr (.inr (.inr (.inr f29))))), (a3, .inr (2, [.ref a4, .int 1, v32])), (a4, .inl (cT 2, 4096, .inr (.inl f33)))] H := hP
  have hD : va_D A [(a0, .inr (0, [v20, v21, v22, .ref a2, v23, .ref a1, v24, v25])), (a1, .inr (2, [v26, v27, v28])), (a2, .inl (cT 3, 8, .inr (.inr (.inr (.inr f29))))), (a3, .inr (2, [.ref a4, .int 1, v32])), (a4, .inl (cT 2, 4096, .inr (.inl f33)))] := hD
  rw [hr9]
  refine W.eq (g2 := F0 m 12 ls [.int 1]) rfl ?_
  refine lv_if_eq (tgt := 34) hx hb dB_binary_12 (by decide) (fun h => ((by revert h; decide : False)).elim) (fun _ => ?_)
  refine lv_iload_n hx hb dB_binary_15 rfl (lv_at hl 3 rfl) ?_
  have hPc := hP.sub (ws' := []) [] rfl
  have hDc := hD.sub (ws' := []) [] (by decide) rfl
  have hFc := va_free (wc := []) hD hS hA [] rfl
  refine va_calli (va_runS (As := [.int x10]) (rest := []) ⟨hx, hb, hml, hown, htx⟩ (cB_isRegister_0 l hl9 D cT aK aV H.size x10 h11 h12 h13 h14) ⟨callB_of 1 htx (xw_goodC kw_2_18) rfl rfl rfl (htx _ kw_1_1) (htx _ kw_2_16) ⟨by decide, by decide, by decide +kernel⟩ ⟨Nat.le_of_ble_eq_true rfl, Nat.le_of_ble_eq_true rfl⟩, htx _ kw_2_17⟩ ⟨xPre_blind, (fun U hU hW => ⟨rfl, xPre_of hZ hS hFc hPc hDc hK U hU hW⟩)⟩ rfl rfl hl.1 rfl (lv_room (Nat.le_of_ble_eq_true rfl)) dB_binary_16 ⟨Nat.le_of_ble_eq_true rfl, Nat.le_of_ble_eq_true rfl⟩) hS (fun q _ h => hFc q h) hFc (fun r3 u9 t H1 locs ht hvm hr9 hB hz1 hk1 hS => ?_)
  obtain ⟨hP1, hK1, hD1⟩ := hB
  rw [ht] at hP1
  obtain ⟨hP, hD⟩ := va_join (wr := [(a0, .inr (0, [v20, v21, v22, .ref a2, v23, .ref a1, v24, v25])), (a1, .inr (2, [v26, v27, v28])), (a2, .inl (cT 3, 8, .inr (.inr (.inr (.inr f29))))), (a3, .inr (2, [.ref a4, .int 1, v32])), (a4, .inl (cT 2, 4096, .inr (.inl f33)))]) (w1 := []) hP hD [] [0, 1, 2, 3, 4] rfl rfl (by decide) (by decide) hk1 hFc hP1 hD1
  generalize H1 = H at hP hS ⊢
  have hP : va_P D xcl [(a0, .inr (0, [v20, v21, v22, .ref a2, v23, .ref a1, v24, v25])), (a1, .inr (2, [v26, v27, v28])), (a2, .inl (cT 3, 8, .inr (.inr (.inr (.inr f29))))), (a3, .inr (2, [.ref a4, .int 1, v32])), (a4, .inl (cT 2, 4096, .inr (.inl f33)))] H := hP
  have hD : va_D A [(a0, .inr (0, [v20, v21, v22, .ref a2, v23, .ref a1, v24, v25])), (a1, .inr (2, [v26, v27, v28])), (a2, .inl (cT 3, 8, .inr (.inr (.inr (.inr f29))))), (a3, .inr (2, [.ref a4, .int 1, v32])), (a4, .inl (cT 2, 4096, .inr (.inl f33)))] := hD
  rw [hr9]
  refine W.eq (g2 := F0 m 19 ls [.int 1]) rfl ?_
  refine lv_if_eq (tgt := 34) hx hb dB_binary_19 (by decide) (fun h => ((by revert h; decide : False)).elim) (fun _ => ?_)
  refine lv_iload hx hb dB_binary_22 (lv_at hl 4 rfl) ?_
  have hPc := hP.sub (ws' := []) [] rfl
  have hDc := hD.sub (ws' := []) [] (by decide) rfl
  have hFc := va_free (wc := []) hD hS hA [] rfl
  refine va_calli (va_runS (As := [.int x15]) (rest := []) ⟨hx, hb, hml, hown, htx⟩ (cB_isRegister_0 l hl9 D cT aK aV H.size x15 h16 h17 h18 h19) ⟨callB_of 1 htx (xw_goodC kw_2_18) rfl rfl rfl (htx _ kw_1_1) (htx _ kw_2_16) ⟨by decide, by decide, by decide +kernel⟩ ⟨Nat.le_of_ble_eq_true rfl, Nat.le_of_ble_eq_true rfl⟩, htx _ kw_2_17⟩ ⟨xPre_blind, (fun U hU hW => ⟨rfl, xPre_of hZ hS hFc hPc hDc hK U hU hW⟩)⟩ rfl rfl hl.1 rfl (lv_room (Nat.le_of_ble_eq_true rfl)) dB_binary_24 ⟨Nat.le_of_ble_eq_true rfl, Nat.le_of_ble_eq_true rfl⟩) hS (fun q _ h => hFc q h) hFc (fun r4 u9 t H1 locs ht hvm hr9 hB hz1 hk1 hS => ?_)
  obtain ⟨hP1, hK1, hD1⟩ := hB
  rw [ht] at hP1
  obtain ⟨hP, hD⟩ := va_join (wr := [(a0, .inr (0, [v20, v21, v22, .ref a2, v23, .ref a1, v24, v25])), (a1, .inr (2, [v26, v27, v28])), (a2, .inl (cT 3, 8, .inr (.inr (.inr (.inr f29))))), (a3, .inr (2, [.ref a4, .int 1, v32])), (a4, .inl (cT 2, 4096, .inr (.inl f33)))]) (w1 := []) hP hD [] [0, 1, 2, 3, 4] rfl rfl (by decide) (by decide) hk1 hFc hP1 hD1
  generalize H1 = H at hP hS ⊢
  have hP : va_P D xcl [(a0, .inr (0, [v20, v21, v22, .ref a2, v23, .ref a1, v24, v25])), (a1, .inr (2, [v26, v27, v28])), (a2, .inl (cT 3, 8, .inr (.inr (.inr (.inr f29))))), (a3, .inr (2, [.ref a4, .int 1, v32])), (a4, .inl (cT 2, 4096, .inr (.inl f33)))] H := hP
  have hD : va_D A [(a0, .inr (0, [v20, v21, v22, .ref a2, v23, .ref a1, v24, v25])), (a1, .inr (2, [v26, v27, v28])), (a2, .inl (cT 3, 8, .inr (.inr (.inr (.inr f29))))), (a3, .inr (2, [.ref a4, .int 1, v32])), (a4, .inl (cT 2, 4096, .inr (.inl f33)))] := hD
  rw [hr9]
  refine W.eq (g2 := F0 m 27 ls [.int 1]) rfl ?_
  refine lv_if_eq (tgt := 34) hx hb dB_binary_27 (by decide) (fun h => ((by revert h; decide : False)).elim) (fun _ => ?_)
  refine lv_iconst (v := 1) hx hb dB_binary_30 (by decide) ?_
  refine lv_goto (tgt := 35) hx hb dB_binary_31 (by decide) ?_
  have hPc := hP.sub (ws' := []) [] rfl
  have hDc := hD.sub (ws' := []) [] (by decide) rfl
  have hFc := va_free (wc := []) hD hS hA [] rfl
  refine va_callv (va_runS (As := [.int 1]) (rest := []) ⟨hx, hb, hml, hown, htx⟩ (cB_demand_0 l hl9 D cT aK aV H.size) ⟨callB_of 1 htx (xw_goodC kw_1_221) rfl rfl rfl (htx _ kw_1_1) (htx _ kw_1_219) ⟨by decide, by decide, by decide +kernel⟩ ⟨Nat.le_of_ble_eq_true rfl, Nat.le_of_ble_eq_true rfl⟩, htx _ kw_1_220⟩ ⟨xPre_blind, (fun U hU hW => ⟨rfl, xPre_of hZ hS hFc hPc hDc hK U hU hW⟩)⟩ rfl rfl hl.1 rfl (lv_room (Nat.le_of_ble_eq_true rfl)) dB_binary_35 ⟨Nat.le_of_ble_eq_true rfl, Nat.le_of_ble_eq_true rfl⟩) hS (fun q _ h => hFc q h) hFc (fun u9 t H1 locs ht hvm hr9 hB hz1 hk1 hS => ?_)
  obtain ⟨hP1, hK1, hD1⟩ := hB
  rw [ht] at hP1
  obtain ⟨hP, hD⟩ := va_join (wr := [(a0, .inr (0, [v20, v21, v22, .ref a2, v23, .ref a1, v24, v25])), (a1, .inr (2, [v26, v27, v28])), (a2, .inl (cT 3, 8, .inr (.inr (.inr (.inr f29))))), (a3, .inr (2, [.ref a4, .int 1, v32])), (a4, .inl (cT 2, 4096, .inr (.inl f33)))]) (w1 := []) hP hD [] [0, 1, 2, 3, 4] rfl rfl (by decide) (by decide) hk1 hFc hP1 hD1
  generalize H1 = H at hP hS ⊢
  have hP : va_P D xcl [(a0, .inr (0, [v20, v21, v22, .ref a2, v23, .ref a1, v24, v25])), (a1, .inr (2, [v26, v27, v28])), (a2, .inl (cT 3, 8, .inr (.inr (.inr (.inr f29))))), (a3, .inr (2, [.ref a4, .int 1, v32])), (a4, .inl (cT 2, 4096, .inr (.inl f33)))] H := hP
  have hD : va_D A [(a0, .inr (0, [v20, v21, v22, .ref a2, v23, .ref a1, v24, v25])), (a1, .inr (2, [v26, v27, v28])), (a2, .inl (cT 3, 8, .inr (.inr (.inr (.inr f29))))), (a3, .inr (2, [.ref a4, .int 1, v32])), (a4, .inl (cT 2, 4096, .inr (.inl f33)))] := hD
  refine lv_aload_n hx hb dB_binary_38 rfl (lv_at hl 0 rfl) ?_
  refine va_get (D := D) (ci := 0) (v := .ref a1) (C := "ValueBench") (T := TB) (N := 8) hx hb htx inB hown hK hP 0 rfl rfl 5 (by decide) (htx _ kw_1_100) (fun _ h9 => h9) rfl dB_binary_39 ?_
  have hPc := hP.sub (ws' := [(a1, .inr (2, [v26, v27, v28]))]) [1] rfl
  have hDc := hD.sub (ws' := [(a1, .inr (2, [v26, v27, v28]))]) [1] (by decide) rfl
  have hFc := va_free (wc := [(a1, .inr (2, [v26, v27, v28]))]) hD hS hA [1] rfl
  refine va_callv (va_runV (C := "ValueBench$Row") (As := []) (rest := []) ⟨hx, hb, hml, hown, htx⟩ (cR_clear_0 l hl9 D cT aK aV H.size a1 v26 v27 v28) ⟨callB_of 0 htx (xw_goodC kw_2_22) rfl rfl rfl (htx _ kw_1_4) (htx _ kw_2_19) ⟨by decide, by decide, by decide +kernel⟩ ⟨Nat.le_of_ble_eq_true rfl, Nat.le_of_ble_eq_true rfl⟩, (htx _ kw_2_20), (htx _ kw_2_21)⟩ ⟨xPre_blind, va_recv hK hP (ci := 2) rfl (q0 := 1) rfl, (fun U hU hW => ⟨rfl, xPre_of hZ hS hFc hPc hDc hK U hU hW⟩)⟩ rfl rfl hl.1 rfl (lv_room (Nat.le_of_ble_eq_true rfl)) dB_binary_42 ⟨Nat.le_of_ble_eq_true rfl, Nat.le_of_ble_eq_true rfl⟩) hS (fun q _ h => hFc q h) hFc (fun u9 t H1 locs ht hvm hr9 hB hz1 hk1 hS => ?_)
  obtain ⟨hP1, hK1, hD1⟩ := hB
  rw [ht] at hP1
  obtain ⟨hP, hD⟩ := va_join (wr := [(a0, .inr (0, [v20, v21, v22, .ref a2, v23, .ref a1, v24, v25])), (a2, .inl (cT 3, 8, .inr (.inr (.inr (.inr f29))))), (a3, .inr (2, [.ref a4, .int 1, v32])), (a4, .inl (cT 2, 4096, .inr (.inl f33)))]) (w1 := [(a1, .inr (2, [v26, .int 0, .int 0]))]) hP hD [1] [0, 2, 3, 4] rfl rfl (by decide) (by decide) hk1 hFc hP1 hD1
  generalize H1 = H at hP hS ⊢
  have hP : va_P D xcl [(a0, .inr (0, [v20, v21, v22, .ref a2, v23, .ref a1, v24, v25])), (a2, .inl (cT 3, 8, .inr (.inr (.inr (.inr f29))))), (a3, .inr (2, [.ref a4, .int 1, v32])), (a4, .inl (cT 2, 4096, .inr (.inl f33))), (a1, .inr (2, [v26, .int 0, .int 0]))] H := hP
  have hD : va_D A [(a0, .inr (0, [v20, v21, v22, .ref a2, v23, .ref a1, v24, v25])), (a2, .inl (cT 3, 8, .inr (.inr (.inr (.inr f29))))), (a3, .inr (2, [.ref a4, .int 1, v32])), (a4, .inl (cT 2, 4096, .inr (.inl f33))), (a1, .inr (2, [v26, .int 0, .int 0]))] := hD
  refine lv_aload_n hx hb dB_binary_45 rfl (lv_at hl 0 rfl) ?_
  refine lv_iload_n hx hb dB_binary_46 rfl (lv_at hl 2 rfl) ?_
  refine lv_aload_n hx hb dB_binary_47 rfl (lv_at hl 0 rfl) ?_
  refine va_get (D := D) (ci := 0) (v := .ref a2) (C := "ValueBench") (T := TB) (N := 8) hx hb htx inB hown hK hP 0 rfl rfl 3 (by decide) (htx _ kw_1_98) (fun _ h9 => h9) rfl dB_binary_48 ?_
  refine lv_iload_n hx hb dB_binary_51 rfl (lv_at hl 3 rfl) ?_
  refine va_aldq hx hb hK hP 1 3 rfl rfl h14 dB_binary_52 ?_
  refine W.eq (g2 := F0 m 53 ls [va_rf (f29 x10.toNatClampNeg), .int 3, .ref a0]) rfl ?_
  rw [h30]
  refine W.eq (g2 := F0 m 53 ls [.ref a3, .int 3, .ref a0]) rfl ?_
  refine lv_aload_n hx hb dB_binary_53 rfl (lv_at hl 0 rfl) ?_
  refine va_get (D := D) (ci := 0) (v := .ref a2) (C := "ValueBench") (T := TB) (N := 8) hx hb htx inB hown hK hP 0 rfl rfl 3 (by decide) (htx _ kw_1_98) (fun _ h9 => h9) rfl dB_binary_54 ?_
  refine lv_iload hx hb dB_binary_57 (lv_at hl 4 rfl) ?_
  refine va_aldq hx hb hK hP 1 3 rfl rfl h19 dB_binary_59 ?_
  refine W.eq (g2 := F0 m 60 ls [va_rf (f29 x15.toNatClampNeg), .ref a3, .int 3, .ref a0]) rfl ?_
  rw [h31]
  refine W.eq (g2 := F0 m 60 ls [.ref a3, .ref a3, .int 3, .ref a0]) rfl ?_
  refine lv_aload_n hx hb dB_binary_60 rfl (lv_at hl 0 rfl) ?_
  refine va_get (D := D) (ci := 0) (v := .ref a1) (C := "ValueBench") (T := TB) (N := 8) hx hb htx inB hown hK hP 0 rfl rfl 5 (by decide) (htx _ kw_1_100) (fun _ h9 => h9) rfl dB_binary_61 ?_
  have hPc := hP.sub (ws' := [(a3, .inr (2, [.ref a4, .int 1, v32])), (a4, .inl (cT 2, 4096, .inr (.inl f33)))]) [2, 3] rfl
  have hDc := hD.sub (ws' := [(a3, .inr (2, [.ref a4, .int 1, v32])), (a4, .inl (cT 2, 4096, .inr (.inl f33)))]) [2, 3] (by decide) rfl
  have hFc := va_free (wc := [(a3, .inr (2, [.ref a4, .int 1, v32])), (a4, .inl (cT 2, 4096, .inr (.inl f33)))]) hD hS hA [2, 3] rfl
  refine va_calli (va_runS (As := [.int 3, .ref a3, .ref a3, .ref a1]) (rest := [.ref a0]) ⟨hx, hb, hml, hown, htx⟩ (cA_apply_7 l hl9 D cT aK aV H.size a3 a4 a1 v32 f33 (by first | rfl | exact h30 | exact h31 | exact h34)) ⟨callB_of 4 htx (xw_goodC kw_3_105) rfl rfl rfl (htx _ kw_1_21) (htx _ kw_3_103) ⟨by decide, by decide, by decide +kernel⟩ ⟨Nat.le_of_ble_eq_true rfl, Nat.le_of_ble_eq_true rfl⟩, htx _ kw_3_104⟩ ⟨xPre_blind, (fun U hU hW => ⟨rfl, xPre_of hZ hS hFc hPc hDc hK U hU hW⟩)⟩ rfl rfl hl.1 rfl (lv_room (Nat.le_of_ble_eq_true rfl)) dB_binary_64 ⟨Nat.le_of_ble_eq_true rfl, Nat.le_of_ble_eq_true rfl⟩) hS (fun q _ h => hFc q h) hFc (fun r5 u9 t H1 locs ht hvm hr9 hB hz1 hk1 hS => ?_)
  obtain ⟨hP1, hK1, hD1⟩ := hB
  rw [ht] at hP1
  obtain ⟨hP, hD⟩ := va_join (wr := [(a0, .inr (0, [v20, v21, v22, .ref a2, v23, .ref a1, v24, v25])), (a2, .inl (cT 3, 8, .inr (.inr (.inr (.inr f29))))), (a1, .inr (2, [v26, .int 0, .int 0]))]) (w1 := [(a3, .inr (2, [.ref a4, .int 1, v32])), (a4, .inl (cT 2, 4096, .inr (.inl f33)))]) hP hD [2, 3] [0, 1, 4] rfl rfl (by decide) (by decide) hk1 hFc hP1 hD1
  generalize H1 = H at hP hS ⊢
  have hP : va_P D xcl [(a0, .inr (0, [v20, v21, v22, .ref a2, v23, .ref a1, v24, v25])), (a2, .inl (cT 3, 8, .inr (.inr (.inr (.inr f29))))), (a1, .inr (2, [v26, .int 0, .int 0])), (a3, .inr (2, [.ref a4, .int 1, v32])), (a4, .inl (cT 2, 4096, .inr (.inl f33)))] H := hP
  have hD : va_D A [(a0, .inr (0, [v20, v21, v22, .ref a2, v23, .ref a1, v24, v25])), (a2, .inl (cT 3, 8, .inr (.inr (.inr (.inr f29))))), (a1, .inr (2, [v26, .int 0, .int 0])), (a3, .inr (2, [.ref a4, .int 1, v32])), (a4, .inl (cT 2, 4096, .inr (.inl f33)))] := hD
  rw [hr9]
  refine W.eq (g2 := F0 m 67 ls [.int 1, .ref a0]) rfl ?_
  have hPc := hP.sub (ws' := [(a0, .inr (0, [v20, v21, v22, .ref a2, v23, .ref a1, v24, v25]))]) [0] rfl
  have hDc := hD.sub (ws' := [(a0, .inr (0, [v20, v21, v22, .ref a2, v23, .ref a1, v24, v25]))]) [0] (by decide) rfl
  have hFc := va_free (wc := [(a0, .inr (0, [v20, v21, v22, .ref a2, v23, .ref a1, v24, v25]))]) hD hS hA [0] rfl
  refine xx_thr (vx_runV (C := "ValueBench") (As := [.int 1]) (rest := []) ⟨hx, hb, hml, hown, htx⟩ (cB_demandDone_1 l hl9 D cT aK aV H.size a0 v20 v21 v22 (.ref a2) v23 (.ref a1) v24 v25) ⟨callB_of 1 htx (xw_goodC kw_3_222) rfl rfl rfl (htx _ kw_1_1) (htx _ kw_3_219) ⟨by decide, by decide, by decide +kernel⟩ ⟨Nat.le_of_ble_eq_true rfl, Nat.le_of_ble_eq_true rfl⟩, (htx _ kw_3_221), (htx _ kp_B_demandDone)⟩ ⟨xPre_blind, va_recv hK hP (ci := 0) rfl (q0 := 0) rfl, (fun U hU hW => ⟨rfl, xPre_of hZ hS hFc hPc hDc hK U hU hW⟩)⟩ rfl rfl hl.1 rfl (lv_room (Nat.le_of_ble_eq_true rfl)) dB_binary_67 ⟨Nat.le_of_ble_eq_true rfl, Nat.le_of_ble_eq_true rfl⟩) hS hFc (fun q _ h => hFc q h) (fun E ce q9 u9 t H1 locs ht hvm _ hB hz1 hk1 hS hce hcv hcl => ?_)
  obtain ⟨rfl, hP1, hK1, hD1⟩ := hB
  rw [ht] at hP1
  obtain ⟨hP, hD⟩ := va_join (wr := [(a2, .inl (cT 3, 8, .inr (.inr (.inr (.inr f29))))), (a1, .inr (2, [v26, .int 0, .int 0])), (a3, .inr (2, [.ref a4, .int 1, v32])), (a4, .inl (cT 2, 4096, .inr (.inl f33)))]) (w1 := [(a0, .inr (0, [v20, v21, v22, .ref a2, v23, .ref a1, v24, .int 1]))]) hP hD [0] [1, 2, 3, 4] rfl rfl (by decide) (by decide) hk1 hFc hP1 hD1
  generalize H1 = H at hP hS hce ⊢
  have hP : va_P D xcl [(a2, .inl (cT 3, 8, .inr (.inr (.inr (.inr f29))))), (a1, .inr (2, [v26, .int 0, .int 0])), (a3, .inr (2, [.ref a4, .int 1, v32])), (a4, .inl (cT 2, 4096, .inr (.inl f33))), (a0, .inr (0, [v20, v21, v22, .ref a2, v23, .ref a1, v24, .int 1]))] H := hP
  have hD : va_D A [(a2, .inl (cT 3, 8, .inr (.inr (.inr (.inr f29))))), (a1, .inr (2, [v26, .int 0, .int 0])), (a3, .inr (2, [.ref a4, .int 1, v32])), (a4, .inl (cT 2, 4096, .inr (.inl f33))), (a0, .inr (0, [v20, v21, v22, .ref a2, v23, .ref a1, v24, .int 1]))] := hD
  have hP9 := hP.sub (ws' := [(a0, .inr (0, [v20, v21, v22, .ref a2, v23, .ref a1, v24, .int 1])), (a1, .inr (2, [v26, .int 0, .int 0])), (a2, .inl (cT 3, 8, .inr (.inr (.inr (.inr f29))))), (a3, .inr (2, [.ref a4, .int 1, v32])), (a4, .inl (cT 2, 4096, .inr (.inl f33)))]) [4, 1, 0, 2, 3] rfl
  have hD9 := hD.sub (ws' := [(a0, .inr (0, [v20, v21, v22, .ref a2, v23, .ref a1, v24, .int 1])), (a1, .inr (2, [v26, .int 0, .int 0])), (a2, .inl (cT 3, 8, .inr (.inr (.inr (.inr f29))))), (a3, .inr (2, [.ref a4, .int 1, v32])), (a4, .inl (cT 2, 4096, .inr (.inl f33)))]) [4, 1, 0, 2, 3] (by decide) rfl
  exact vx_out (E := "java/lang/ArithmeticException") (fun x h => (hne x h).elim) hlocks hce hcv hcl (fun t ht ha => ⟨(), trivial, ⟨rfl, by rw [ht]; exact hP9, va_K.moved ha hK, hD9⟩, hS.F ht⟩) hS.2.2 (Nat.le_of_ble_eq_true rfl) (Nat.le_of_ble_eq_true rfl)
set_option maxHeartbeats 4000000 in
set_option maxRecDepth 100000 in
theorem cB_isWithin_28 (l : Launch) (hl9 : l.stackTraces = false) (D : va_G) (cT : Nat → ClassId) (aK aV : Nat → Nat) (sz : Nat) : Met l yB_isWithin wyB_isWithin ({ frames := 0, cells := 0, slots := 0, locals := 0 }) (va_Pc [.int 4, .int 4] (xPre D xcl cT aK aV sz [])) (va_Qi (fun (r : Int32) (_ : Unit) => r = 1) (fun _ t => xB D xcl cT (va_A [] sz) [] t) (va_A [] sz)) 0 0 (va_A [] sz) := by
  refine Met.ofW (cc := prog_1_method_15_code) (maxL := 2) (ret := (some .boolean)) (by decide) rfl ?_
  intro p e s m args below meth c s₁ B hml hv
  obtain ⟨rfl, hsz, hZ, hP, hK, hD0⟩ := hv
  have hx := B.exec
  have hb := B.bytes
  have hr := B.returns
  have hts := atoms_spec (ws := wyB_isWithin) B.pre
  have htx := fun w h => hts w (List.mem_cons_of_mem _ h)
  have hown : s.vm.findClass "ValueBench" = some m.cls := findClass_of_methodNamed B.named
  have hlocks := B.notSynchronized
  subst hsz
  have hD := hD0.self (sz := s.heap.size)
  generalize hAe : va_A [] s.heap.size = A at hD hZ ⊢
  have hA : ∀ q : Nat, s.heap.size ≤ q → A q := fun q h => by rw [← hAe]; exact Or.inr h
  have hS : va_S A s.heap s.heap [] := va_S.rf
  have hP : va_P D xcl [] s.heap := hP
  have hl := lv_entry ([.int 4, .int 4]) (n := 2) (Nat.le_of_ble_eq_true rfl)
  rw [lg_entry_eq]
  generalize (lg_sl ([.int 4, .int 4]) ++ List.replicate (2 - (lg_sl ([.int 4, .int 4])).length) Slot.unset).toArray = ls at hl ⊢
  have hl : lv_has ls 2 [(0, .int 4), (1, .int 4)] := hl
  refine lv_iload_n hx hb dB_isWithin_0 rfl (lv_at hl 0 rfl) ?_
  refine lv_if_lt (tgt := 13) hx hb dB_isWithin_1 (by decide) (fun h => ((by revert h; decide : False)).elim) (fun _ => ?_)
  refine lv_iload_n hx hb dB_isWithin_4 rfl (lv_at hl 0 rfl) ?_
  refine lv_iload_n hx hb dB_isWithin_5 rfl (lv_at hl 1 rfl) ?_
  refine lv_icmp_gt (tgt := 13) hx hb dB_isWithin_6 (by decide) (fun h => ((by revert h; decide : False)).elim) (fun _ => ?_)
  refine lv_iconst (v := 1) hx hb dB_isWithin_9 (by decide) ?_
  refine lv_goto (tgt := 14) hx hb dB_isWithin_10 (by decide) ?_
  have hP9 := hP.sub (ws' := []) [] rfl
  have hD9 := hD.sub (ws' := []) [] (by decide) rfl
  refine W.widen (k := 0) (n := 0) (Nat.le_of_ble_eq_true rfl) (Nat.le_of_ble_eq_true rfl) ?_
  exact W.zret (v := 1) hx hb hr rfl (fun t ht hW => ⟨⟨1, (), rfl, rfl, by rw [ht]; exact hP9, va_K.moved hW.alike hK, hD9⟩, hS.F ht⟩) hS.2.2 dB_isWithin_14
set_option maxHeartbeats 4000000 in
set_option maxRecDepth 100000 in
theorem cA_apply_8 (l : Launch) (hl9 : l.stackTraces = false) (D : va_G) (cT : Nat → ClassId) (aK aV : Nat → Nat) (sz : Nat) (a0 : Nat) (a1 : Nat) (b2 : Nat) (b3 : Nat) (v4 : Value) (f5 : Nat → Int64) (h6 : f5 0 = 0) : Met l yA_apply wyA_apply ({ frames := 2, cells := 0, slots := 0, locals := 43 }) (va_Pc [.int 4, .ref a0, .ref b2, .ref b3] (xPre D xcl cT aK aV sz [(a0, .inr (2, [.ref a1, .int 1, v4])), (a1, .inl (cT 2, 4096, .inr (.inl f5)))])) (va_Qi (fun (r : Int32) (_ : Unit) => r = 1) (fun _ t => xB D xcl cT (va_A [(a0, .inr (2, [.ref a1, .int 1, v4])), (a1, .inl (cT 2, 4096, .inr (.inl f5)))] sz) [(a0, .inr (2, [.ref a1, .int 1, v4])), (a1, .inl (cT 2, 4096, .inr (.inl f5)))] t) (va_A [(a0, .inr (2, [.ref a1, .int 1, v4])), (a1, .inl (cT 2, 4096, .inr (.inl f5)))] sz)) 0 0 (va_A [(a0, .inr (2, [.ref a1, .int 1, v4])), (a1, .inl (cT 2, 4096, .inr (.inl f5)))] sz) := by
  refine Met.ofW (cc := prog_3_method_2_code) (maxL := 4) (ret := (some .int)) (by decide) rfl ?_
  intro p e s m args below meth c s₁ B hml hv
  obtain ⟨rfl, hsz, hZ, hP, hK, hD0⟩ := hv
  have hx := B.exec
  have hb := B.bytes
  have hr := B.returns
  have hts := atoms_spec (ws := wyA_apply) B.pre
  have htx := fun w h => hts w (List.mem_cons_of_mem _ h)
  have hown : s.vm.findClass "ValueBench$Operators" = some m.cls := findClass_of_methodNamed B.named
  have hlocks := B.notSynchronized
  subst hsz
  have hD := hD0.self (sz := s.heap.size)
  generalize hAe : va_A [(a0, .inr (2, [.ref a1, .int 1, v4])), (a1, .inl (cT 2, 4096, .inr (.inl f5)))] s.heap.size = A at hD hZ ⊢
  have hA : ∀ q : Nat, s.heap.size ≤ q → A q := fun q h => by rw [← hAe]; exact Or.inr h
  have hS : va_S A s.heap s.heap [] := va_S.rf
  have hP : va_P D xcl [(a0, .inr (2, [.ref a1, .int 1, v4])), (a1, .inl (cT 2, 4096, .inr (.inl f5)))] s.heap := hP
  have hl := lv_entry ([.int 4, .ref a0, .ref b2, .ref b3]) (n := 4) (Nat.le_of_ble_eq_true rfl)
  rw [lg_entry_eq]
  generalize (lg_sl ([.int 4, .ref a0, .ref b2, .ref b3]) ++ List.replicate (4 - (lg_sl ([.int 4, .ref a0, .ref b2, .ref b3])).length) Slot.unset).toArray = ls at hl ⊢
  have hl : lv_has ls 4 [(0, .int 4), (1, .ref a0), (2, .ref b2), (3, .ref b3)] := hl
  refine lv_aload_n hx hb dA_apply_0 rfl (lv_at hl 1 rfl) ?_
  refine lv_iconst (v := 0) hx hb dA_apply_1 (by decide) ?_
  refine lv_iconst (v := 3) hx hb dA_apply_2 (by decide) ?_
  have hPc := hP.sub (ws' := [(a0, .inr (2, [.ref a1, .int 1, v4])), (a1, .inl (cT 2, 4096, .inr (.inl f5)))]) [0, 1] rfl
  have hDc := hD.sub (ws' := [(a0, .inr (2, [.ref a1, .int 1, v4])), (a1, .inl (cT 2, 4096, .inr (.inl f5)))]) [0, 1] (by decide) rfl
  have hFc := va_free (wc := [(a0, .inr (2, [.ref a1, .int 1, v4])), (a1, .inl (cT 2, 4096, .inr (.inl f5)))]) hD hS hA [0, 1] rfl
  refine va_calli (va_runV (C := "ValueBench$Row") (As := [.int 0, .int 3]) (rest := []) ⟨hx, hb, hml, hown, htx⟩ (cR_is_4 l hl9 D cT aK aV s.heap.size a0 a1 v4 f5 (by first | rfl | exact h6)) ⟨callB_of 2 htx (xw_goodC kw_3_75) rfl rfl rfl (htx _ kw_1_4) (htx _ kw_3_106) ⟨by decide, by decide, by decide +kernel⟩ ⟨Nat.le_of_ble_eq_true rfl, Nat.le_of_ble_eq_true rfl⟩, (htx _ kw_3_73), (htx _ kw_3_74)⟩ ⟨xPre_blind, va_recv hK hP (ci := 2) rfl (q0 := 0) rfl, (fun U hU hW => ⟨rfl, xPre_of hZ hS hFc hPc hDc hK U hU hW⟩)⟩ rfl rfl hl.1 rfl (lv_room (Nat.le_of_ble_eq_true rfl)) dA_apply_3 ⟨Nat.le_of_ble_eq_true rfl, Nat.le_of_ble_eq_true rfl⟩) hS (fun q _ h => hFc q h) hFc (fun r1 u9 t H1 locs ht hvm hr9 hB hz1 hk1 hS => ?_)
  obtain ⟨hP1, hK1, hD1⟩ := hB
  rw [ht] at hP1
  obtain ⟨hP, hD⟩ := va_join (wr := []) (w1 := [(a0, .inr (2, [.ref a1, .int 1, v4])), (a1, .inl (cT 2, 4096, .inr (.inl f5)))]) hP hD [0, 1] [] rfl rfl (by decide) (by decide) hk1 hFc hP1 hD1
  generalize H1 = H at hP hS ⊢
  have hP : va_P D xcl [(a0, .inr (2, [.ref a1, .int 1, v4])), (a1, .inl (cT 2, 4096, .inr (.inl f5)))] H := hP
  have hD : va_D A [(a0, .inr (2, [.ref a1, .int 1, v4])), (a1, .inl (cT 2, 4096, .inr (.inl f5)))] := hD
  rw [hr9]
  refine W.eq (g2 := F0 m 6 ls [.int 0]) rfl ?_
  refine lv_if_eq (tgt := 34) hx hb dA_apply_6 (by decide) (fun _ => ?_) (fun h => ((by revert h; decide : False)).elim)
  refine lv_iload_n hx hb dA_apply_34 rfl (lv_at hl 0 rfl) ?_
  refine lv_tableOut (tgt := 92) hx hb dA_apply_35 (by decide) (by decide) ?_
  refine lv_iconst (v := 1) hx hb dA_apply_92 (by decide) ?_
  have hP9 := hP.sub (ws' := [(a0, .inr (2, [.ref a1, .int 1, v4])), (a1, .inl (cT 2, 4096, .inr (.inl f5)))]) [0, 1] rfl
  have hD9 := hD.sub (ws' := [(a0, .inr (2, [.ref a1, .int 1, v4])), (a1, .inl (cT 2, 4096, .inr (.inl f5)))]) [0, 1] (by decide) rfl
  refine W.widen (k := 0) (n := 0) (Nat.le_of_ble_eq_true rfl) (Nat.le_of_ble_eq_true rfl) ?_
  exact W.iret (v := 1) hx hb hr (fun t ht hW => ⟨⟨1, (), rfl, rfl, by rw [ht]; exact hP9, va_K.moved hW.alike hK, hD9⟩, hS.F ht⟩) hS.2.2 dA_apply_93
set_option maxHeartbeats 4000000 in
set_option maxRecDepth 100000 in
theorem cB_binary_8 (l : Launch) (hl9 : l.stackTraces = false) (D : va_G) (cT : Nat → ClassId) (aK aV : Nat → Nat) (sz : Nat) (a0 : Nat) (a1 : Nat) (a2 : Nat) (a3 : Nat) (a4 : Nat) (x5 : Int32) (x10 : Int32) (x15 : Int32) (v20 : Value) (v21 : Value) (v22 : Value) (v23 : Value) (v24 : Value) (v25 : Value) (v26 : Value) (v27 : Value) (v28 : Value) (f29 : Nat → Option Nat) (b31 : Nat) (v33 : Value) (f34 : Nat → Int64) (h6 : ¬ x5 < 0) (h7 : ¬ 7 < x5) (h8 : x5 ≤ 7) (h9 : vp_in x5 8) (h11 : ¬ x10 < 0) (h12 : ¬ 7 < x10) (h13 : x10 ≤ 7) (h14 : vp_in x10 8) (h16 : ¬ x15 < 0) (h17 : ¬ 7 < x15) (h18 : x15 ≤ 7) (h19 : vp_in x15 8) (h30 : f29 x10.toNatClampNeg = some a3) (h32 : f29 x15.toNatClampNeg = some b31) (h35 : f34 0 = 0) : vx_Met l yB_binary wyB_binary ({ frames := 7, cells := 1, slots := 6, locals := 121 }) (va_Pc [.ref a0, .int x5, .int 4, .int x10, .int x15] (xPre D xcl cT aK aV sz [(a0, .inr (0, [v20, v21, v22, .ref a2, v23, .ref a1, v24, v25])), (a1, .inr (2, [v26, v27, v28])), (a2, .inl (cT 3, 8, .inr (.inr (.inr (.inr f29))))), (a3, .inr (2, [.ref a4, .int 1, v33])), (a4, .inl (cT 2, 4096, .inr (.inl f34)))])) (fun _ _ _ _ => False) (vx_X (fun _ : Unit => True) (fun E _ t => E = "java/lang/ArithmeticException" ∧ xB D xcl cT (va_A [(a0, .inr (0, [v20, v21, v22, .ref a2, v23, .ref a1, v24, v25])), (a1, .inr (2, [v26, v27, v28])), (a2, .inl (cT 3, 8, .inr (.inr (.inr (.inr f29))))), (a3, .inr (2, [.ref a4, .int 1, v33])), (a4, .inl (cT 2, 4096, .inr (.inl f34)))] sz) [(a0, .inr (0, [v20, v21, v22, .ref a2, v23, .ref a1, v24, .int 1])), (a1, .inr (2, [v26, .int 0, .int 0])), (a2, .inl (cT 3, 8, .inr (.inr (.inr (.inr f29))))), (a3, .inr (2, [.ref a4, .int 1, v33])), (a4, .inl (cT 2, 4096, .inr (.inl f34)))] t) (va_A [(a0, .inr (0, [v20, v21, v22, .ref a2, v23, .ref a1, v24, v25])), (a1, .inr (2, [v26, v27, v28])), (a2, .inl (cT 3, 8, .inr (.inr (.inr (.inr f29))))), (a3, .inr (2, [.ref a4, .int 1, v33])), (a4, .inl (cT 2, 4096, .inr (.inl f34)))] sz)) 1 6 (va_A [(a0, .inr (0, [v20, v21, v22, .ref a2, v23, .ref a1, v24, v25])), (a1, .inr (2, [v26, v27, v28])), (a2, .inl (cT 3, 8, .inr (.inr (.inr (.inr f29))))), (a3, .inr (2, [.ref a4, .int 1, v33])), (a4, .inl (cT 2, 4096, .inr (.inl f34)))] sz) := by
  refine vx_ofW (cc := prog_1_method_6_code) (maxL := 5) (ret := none) (by decide) rfl ?_
  intro p e s m args below meth c s₁ B hml hne hv
  obtain ⟨rfl, hsz, hZ, hP, hK, hD0⟩ := hv
  have hx := B.exec
  have hb := B.bytes
  have hr := B.returns
  have hts := atoms_spec (ws := wyB_binary) B.pre
  have htx := fun w h => hts w (List.mem_cons_of_mem _ h)
  have hown : s.vm.findClass "ValueBench" = some m.cls := findClass_of_methodNamed B.named
  have hlocks := B.notSynchronized
  subst hsz
  have hD := hD0.self (sz := s.heap.size)
  generalize hAe : va_A [(a0, .inr (0, [v20, v21, v22, .ref a2, v23, .ref a1, v24, v25])), (a1, .inr (2, [v26, v27, v28])), (a2, .inl (cT 3, 8, .inr (.inr (.inr (.inr f29))))), (a3, .inr (2, [.ref a4, .int 1, v33])), (a4, .inl (cT 2, 4096, .inr (.inl f34)))] s.heap.size = A at hD hZ ⊢
  have hA : ∀ q : Nat, s.heap.size ≤ q → A q := fun q h => by rw [← hAe]; exact Or.inr h
  have hS : va_S A s.heap s.heap [] := va_S.rf
  have hP : va_P D xcl [(a0, .inr (0, [v20, v21, v22, .ref a2, v23, .ref a1, v24, v25])), (a1, .inr (2, [v26, v27, v28])), (a2, .inl (cT 3, 8, .inr (.inr (.inr (.inr f29))))), (a3, .inr (2, [.ref a4, .int 1, v33])), (a4, .inl (cT 2, 4096, .inr (.inl f34)))] s.heap := hP
  have hl := lv_entry ([.ref a0, .int x5, .int 4, .int x10, .int x15]) (n := 5) (Nat.le_of_ble_eq_true rfl)
  rw [lg_entry_eq]
  generalize (lg_sl ([.ref a0, .int x5, .int 4, .int x10, .int x15]) ++ List.replicate (5 - (lg_sl ([.ref a0, .int x5, .int 4, .int x10, .int x15])).length) Slot.unset).toArray = ls at hl ⊢
  have hl : lv_has ls 5 [(0, .ref a0), (1, .int x5), (2, .int 4), (3, .int x10), (4, .int x15)] := hl
  refine lv_iload_n hx hb dB_binary_0 rfl (lv_at hl 1 rfl) ?_
  have hPc := hP.sub (ws' := []) [] rfl
  have hDc := hD.sub (ws' := []) [] (by decide) rfl
  have hFc := va_free (wc := []) hD hS hA [] rfl
  refine va_calli (va_runS (As := [.int x5]) (rest := []) ⟨hx, hb, hml, hown, htx⟩ (cB_isRegister_0 l hl9 D cT aK aV s.heap.size x5 h6 h7 h8 h9) ⟨callB_of 1 htx (xw_goodC kw_2_18) rfl rfl rfl (htx _ kw_1_1) (htx _ kw_2_16) ⟨by decide, by decide, by decide +kernel⟩ ⟨Nat.le_of_ble_eq_true rfl, Nat.le_of_ble_eq_true rfl⟩, htx _ kw_2_17⟩ ⟨xPre_blind, (fun U hU hW => ⟨rfl, xPre_of hZ hS hFc hPc hDc hK U hU hW⟩)⟩ rfl rfl hl.1 rfl (lv_room (Nat.le_of_ble_eq_true rfl)) dB_binary_1 ⟨Nat.le_of_ble_eq_true rfl, Nat.le_of_ble_eq_true rfl⟩) hS (fun q _ h => hFc q h) hFc (fun r1 u9 t H1 locs ht hvm hr9 hB hz1 hk1 hS => ?_)
  obtain ⟨hP1, hK1, hD1⟩ := hB
  rw [ht] at hP1
  obtain ⟨hP, hD⟩ := va_join (wr := [(a0, .inr (0, [v20, v21, v22, .ref a2, v23, .ref a1, v24, v25])), (a1, .inr (2, [v26, v27, v28])), (a2, .inl (cT 3, 8, .inr (.inr (.inr (.inr f29))))), (a3, .inr (2, [.ref a4, .int 1, v33])), (a4, .inl (cT 2, 4096, .inr (.inl f34)))]) (w1 := []) hP hD [] [0, 1, 2, 3, 4] rfl rfl (by decide) (by decide) hk1 hFc hP1 hD1
  generalize H1 = H at hP hS ⊢
  have hP : va_P D xcl [(a0, .inr (0, [v20, v21, v22, .ref a2, v23, .ref a1, v24, v25])), (a1, .inr (2, [v26, v27, v28])), (a2, .inl (cT 3, 8, .inr (.inr (.inr (.inr f29))))), (a3, .inr (2, [.ref a4, .int 1, v33])), (a4, .inl (cT 2, 4096, .inr (.inl f34)))] H := hP
  have hD : va_D A [(a0, .inr (0, [v20, v21, v22, .ref a2, v23, .ref a1, v24, v25])), (a1, .inr (2, [v26, v27, v28])), (a2, .inl (cT 3, 8, .inr (.inr (.inr (.inr f29))))), (a3, .inr (2, [.ref a4, .int 1, v33])), (a4, .inl (cT 2, 4096, .inr (.inl f34)))] := hD
  rw [hr9]
  refine W.eq (g2 := F0 m 4 ls [.int 1]) rfl ?_
  refine lv_if_eq (tgt := 34) hx hb dB_binary_4 (by decide) (fun h => ((by revert h; decide : False)).elim) (fun _ => ?_)
  refine lv_iload_n hx hb dB_binary_7 rfl (lv_at hl 2 rfl) ?_
  refine lv_iconst (v := 4) hx hb dB_binary_8 (by decide) ?_
  have hPc := hP.sub (ws' := []) [] rfl
  have hDc := hD.sub (ws' := []) [] (by decide) rfl
  have hFc := va_free (wc := []) hD hS hA [] rfl
  refine va_calli (va_runS (As := [.int 4, .int 4]) (rest := []) ⟨hx, hb, hml, hown, htx⟩ (cB_isWithin_28 l hl9 D cT aK aV H.size) ⟨callB_of 2 htx (xw_goodC kw_1_218) rfl rfl rfl (htx _ kw_1_1) (htx _ kw_1_216) ⟨by decide, by decide, by decide +kernel⟩ ⟨Nat.le_of_ble_eq_true rfl, Nat.le_of_ble_eq_true rfl⟩, htx _ kw_1_217⟩ ⟨xPre_blind, (fun U hU hW => ⟨rfl, xPre_of hZ hS hFc hPc hDc hK U hU hW⟩)⟩ rfl rfl hl.1 rfl (lv_room (Nat.le_of_ble_eq_true rfl)) dB_binary_9 ⟨Nat.le_of_ble_eq_true rfl, Nat.le_of_ble_eq_true rfl⟩) hS (fun q _ h => hFc q h) hFc (fun r2 u9 t H1 locs ht hvm hr9 hB hz1 hk1 hS => ?_)
  obtain ⟨hP1, hK1, hD1⟩ := hB
  rw [ht] at hP1
  obtain ⟨hP, hD⟩ := va_join (wr := [(a0, .inr (0, [v20, v21, v22, .ref a2, v23, .ref a1, v24, v25])), (a1, .inr (2, [v26, v27, v28])), (a2, .inl (cT 3, 8, .inr (.inr (.inr (.inr f29))))), (a3, .inr (2, [.ref a4, .int 1, v33])), (a4, .inl (cT 2, 4096, .inr (.inl f34)))]) (w1 := []) hP hD [] [0, 1, 2, 3, 4] rfl rfl (by decide) (by decide) hk1 hFc hP1 hD1
  generalize H1 = H at hP hS ⊢
  have hP : va_P D xcl [(a0, .inr (0, [v20, v21, v22, .ref a2, v23, .ref a1, v24, v25])), (a1, .inr (2, [v26, v27, v28])), (a2, .inl (cT 3, 8, .inr (.inr (.inr (.inr f29))))), (a3, .inr (2, [.ref a4, .int 1, v33])), (a4, .inl (cT 2, 4096, .inr (.inl f34)))] H := hP
  have hD : va_D A [(a0, .inr (0, [v20, v21, v22, .ref a2, v23, .ref a1, v24, v25])), (a1, .inr (2, [v26, v27, v28])), (a2, .inl (cT 3, 8, .inr (.inr (.inr (.inr f29))))), (a3, .inr (2, [.ref a4, .int 1, v33])), (a4, .inl (cT 2, 4096, .inr (.inl f34)))] := hD
  rw [hr9]
  refine W.eq (g2 := F0 m 12 ls [.int 1]) rfl ?_
  refine lv_if_eq (tgt := 34) hx hb dB_binary_12 (by decide) (fun h => ((by revert h; decide : False)).elim) (fun _ => ?_)
  refine lv_iload_n hx hb dB_binary_15 rfl (lv_at hl 3 rfl) ?_
  have hPc := hP.sub (ws' := []) [] rfl
  have hDc := hD.sub (ws' := []) [] (by decide) rfl
  have hFc := va_free (wc := []) hD hS hA [] rfl
  refine va_calli (va_runS (As := [.int x10]) (rest := []) ⟨hx, hb, hml, hown, htx⟩ (cB_isRegister_0 l hl9 D cT aK aV H.size x10 h11 h12 h13 h14) ⟨callB_of 1 htx (xw_goodC kw_2_18) rfl rfl rfl (htx _ kw_1_1) (htx _ kw_2_16) ⟨by decide, by decide, by decide +kernel⟩ ⟨Nat.le_of_ble_eq_true rfl, Nat.le_of_ble_eq_true rfl⟩, htx _ kw_2_17⟩ ⟨xPre_blind, (fun U hU hW => ⟨rfl, xPre_of hZ hS hFc hPc hDc hK U hU hW⟩)⟩ rfl rfl hl.1 rfl (lv_room (Nat.le_of_ble_eq_true rfl)) dB_binary_16 ⟨Nat.le_of_ble_eq_true rfl, Nat.le_of_ble_eq_true rfl⟩) hS (fun q _ h => hFc q h) hFc (fun r3 u9 t H1 locs ht hvm hr9 hB hz1 hk1 hS => ?_)
  obtain ⟨hP1, hK1, hD1⟩ := hB
  rw [ht] at hP1
  obtain ⟨hP, hD⟩ := va_join (wr := [(a0, .inr (0, [v20, v21, v22, .ref a2, v23, .ref a1, v24, v25])), (a1, .inr (2, [v26, v27, v28])), (a2, .inl (cT 3, 8, .inr (.inr (.inr (.inr f29))))), (a3, .inr (2, [.ref a4, .int 1, v33])), (a4, .inl (cT 2, 4096, .inr (.inl f34)))]) (w1 := []) hP hD [] [0, 1, 2, 3, 4] rfl rfl (by decide) (by decide) hk1 hFc hP1 hD1
  generalize H1 = H at hP hS ⊢
  have hP : va_P D xcl [(a0, .inr (0, [v20, v21, v22, .ref a2, v23, .ref a1, v24, v25])), (a1, .inr (2, [v26, v27, v28])), (a2, .inl (cT 3, 8, .inr (.inr (.inr (.inr f29))))), (a3, .inr (2, [.ref a4, .int 1, v33])), (a4, .inl (cT 2, 4096, .inr (.inl f34)))] H := hP
  have hD : va_D A [(a0, .inr (0, [v20, v21, v22, .ref a2, v23, .ref a1, v24, v25])), (a1, .inr (2, [v26, v27, v28])), (a2, .inl (cT 3, 8, .inr (.inr (.inr (.inr f29))))), (a3, .inr (2, [.ref a4, .int 1, v33])), (a4, .inl (cT 2, 4096, .inr (.inl f34)))] := hD
  rw [hr9]
  refine W.eq (g2 := F0 m 19 ls [.int 1]) rfl ?_
  refine lv_if_eq (tgt := 34) hx hb dB_binary_19 (by decide) (fun h => ((by revert h; decide : False)).elim) (fun _ => ?_)
  refine lv_iload hx hb dB_binary_22 (lv_at hl 4 rfl) ?_
  have hPc := hP.sub (ws' := []) [] rfl
  have hDc := hD.sub (ws' := []) [] (by decide) rfl
  have hFc := va_free (wc := []) hD hS hA [] rfl
  refine va_calli (va_runS (As := [.int x15]) (rest := []) ⟨hx, hb, hml, hown, htx⟩ (cB_isRegister_0 l hl9 D cT aK aV H.size x15 h16 h17 h18 h19) ⟨callB_of 1 htx (xw_goodC kw_2_18) rfl rfl rfl (htx _ kw_1_1) (htx _ kw_2_16) ⟨by decide, by decide, by decide +kernel⟩ ⟨Nat.le_of_ble_eq_true rfl, Nat.le_of_ble_eq_true rfl⟩, htx _ kw_2_17⟩ ⟨xPre_blind, (fun U hU hW => ⟨rfl, xPre_of hZ hS hFc hPc hDc hK U hU hW⟩)⟩ rfl rfl hl.1 rfl (lv_room (Nat.le_of_ble_eq_true rfl)) dB_binary_24 ⟨Nat.le_of_ble_eq_true rfl, Nat.le_of_ble_eq_true rfl⟩) hS (fun q _ h => hFc q h) hFc (fun r4 u9 t H1 locs ht hvm hr9 hB hz1 hk1 hS => ?_)
  obtain ⟨hP1, hK1, hD1⟩ := hB
  rw [ht] at hP1
  obtain ⟨hP, hD⟩ := va_join (wr := [(a0, .inr (0, [v20, v21, v22, .ref a2, v23, .ref a1, v24, v25])), (a1, .inr (2, [v26, v27, v28])), (a2, .inl (cT 3, 8, .inr (.inr (.inr (.inr f29))))), (a3, .inr (2, [.ref a4, .int 1, v33])), (a4, .inl (cT 2, 4096, .inr (.inl f34)))]) (w1 := []) hP hD [] [0, 1, 2, 3, 4] rfl rfl (by decide) (by decide) hk1 hFc hP1 hD1
  generalize H1 = H at hP hS ⊢
  have hP : va_P D xcl [(a0, .inr (0, [v20, v21, v22, .ref a2, v23, .ref a1, v24, v25])), (a1, .inr (2, [v26, v27, v28])), (a2, .inl (cT 3, 8, .inr (.inr (.inr (.inr f29))))), (a3, .inr (2, [.ref a4, .int 1, v33])), (a4, .inl (cT 2, 4096, .inr (.inl f34)))] H := hP
  have hD : va_D A [(a0, .inr (0, [v20, v21, v22, .ref a2, v23, .ref a1, v24, v25])), (a1, .inr (2, [v26, v27, v28])), (a2, .inl (cT 3, 8, .inr (.inr (.inr (.inr f29))))), (a3, .inr (2, [.ref a4, .int 1, v33])), (a4, .inl (cT 2, 4096, .inr (.inl f34)))] := hD
  rw [hr9]
  refine W.eq (g2 := F0 m 27 ls [.int 1]) rfl ?_
  refine lv_if_eq (tgt := 34) hx hb dB_binary_27 (by decide) (fun h => ((by revert h; decide : False)).elim) (fun _ => ?_)
  refine lv_iconst (v := 1) hx hb dB_binary_30 (by decide) ?_
  refine lv_goto (tgt := 35) hx hb dB_binary_31 (by decide) ?_
  have hPc := hP.sub (ws' := []) [] rfl
  have hDc := hD.sub (ws' := []) [] (by decide) rfl
  have hFc := va_free (wc := []) hD hS hA [] rfl
  refine va_callv (va_runS (As := [.int 1]) (rest := []) ⟨hx, hb, hml, hown, htx⟩ (cB_demand_0 l hl9 D cT aK aV H.size) ⟨callB_of 1 htx (xw_goodC kw_1_221) rfl rfl rfl (htx _ kw_1_1) (htx _ kw_1_219) ⟨by decide, by decide, by decide +kernel⟩ ⟨Nat.le_of_ble_eq_true rfl, Nat.le_of_ble_eq_true rfl⟩, htx _ kw_1_220⟩ ⟨xPre_blind, (fun U hU hW => ⟨rfl, xPre_of hZ hS hFc hPc hDc hK U hU hW⟩)⟩ rfl rfl hl.1 rfl (lv_room (Nat.le_of_ble_eq_true rfl)) dB_binary_35 ⟨Nat.le_of_ble_eq_true rfl, Nat.le_of_ble_eq_true rfl⟩) hS (fun q _ h => hFc q h) hFc (fun u9 t H1 locs ht hvm hr9 hB hz1 hk1 hS => ?_)
  obtain ⟨hP1, hK1, hD1⟩ := hB
  rw [ht] at hP1
  obtain ⟨hP, hD⟩ := va_join (wr := [(a0, .inr (0, [v20, v21, v22, .ref a2, v23, .ref a1, v24, v25])), (a1, .inr (2, [v26, v27, v28])), (a2, .inl (cT 3, 8, .inr (.inr (.inr (.inr f29))))), (a3, .inr (2, [.ref a4, .int 1, v33])), (a4, .inl (cT 2, 4096, .inr (.inl f34)))]) (w1 := []) hP hD [] [0, 1, 2, 3, 4] rfl rfl (by decide) (by decide) hk1 hFc hP1 hD1
  generalize H1 = H at hP hS ⊢
  have hP : va_P D xcl [(a0, .inr (0, [v20, v21, v22, .ref a2, v23, .ref a1, v24, v25])), (a1, .inr (2, [v26, v27, v28])), (a2, .inl (cT 3, 8, .inr (.inr (.inr (.inr f29))))), (a3, .inr (2, [.ref a4, .int 1, v33])), (a4, .inl (cT 2, 4096, .inr (.inl f34)))] H := hP
  have hD : va_D A [(a0, .inr (0, [v20, v21, v22, .ref a2, v23, .ref a1, v24, v25])), (a1, .inr (2, [v26, v27, v28])), (a2, .inl (cT 3, 8, .inr (.inr (.inr (.inr f29))))), (a3, .inr (2, [.ref a4, .int 1, v33])), (a4, .inl (cT 2, 4096, .inr (.inl f34)))] := hD
  refine lv_aload_n hx hb dB_binary_38 rfl (lv_at hl 0 rfl) ?_
  refine va_get (D := D) (ci := 0) (v := .ref a1) (C := "ValueBench") (T := TB) (N := 8) hx hb htx inB hown hK hP 0 rfl rfl 5 (by decide) (htx _ kw_1_100) (fun _ h9 => h9) rfl dB_binary_39 ?_
  have hPc := hP.sub (ws' := [(a1, .inr (2, [v26, v27, v28]))]) [1] rfl
  have hDc := hD.sub (ws' := [(a1, .inr (2, [v26, v27, v28]))]) [1] (by decide) rfl
  have hFc := va_free (wc := [(a1, .inr (2, [v26, v27, v28]))]) hD hS hA [1] rfl
  refine va_callv (va_runV (C := "ValueBench$Row") (As := []) (rest := []) ⟨hx, hb, hml, hown, htx⟩ (cR_clear_0 l hl9 D cT aK aV H.size a1 v26 v27 v28) ⟨callB_of 0 htx (xw_goodC kw_2_22) rfl rfl rfl (htx _ kw_1_4) (htx _ kw_2_19) ⟨by decide, by decide, by decide +kernel⟩ ⟨Nat.le_of_ble_eq_true rfl, Nat.le_of_ble_eq_true rfl⟩, (htx _ kw_2_20), (htx _ kw_2_21)⟩ ⟨xPre_blind, va_recv hK hP (ci := 2) rfl (q0 := 1) rfl, (fun U hU hW => ⟨rfl, xPre_of hZ hS hFc hPc hDc hK U hU hW⟩)⟩ rfl rfl hl.1 rfl (lv_room (Nat.le_of_ble_eq_true rfl)) dB_binary_42 ⟨Nat.le_of_ble_eq_true rfl, Nat.le_of_ble_eq_true rfl⟩) hS (fun q _ h => hFc q h) hFc (fun u9 t H1 locs ht hvm hr9 hB hz1 hk1 hS => ?_)
  obtain ⟨hP1, hK1, hD1⟩ := hB
  rw [ht] at hP1
  obtain ⟨hP, hD⟩ := va_join (wr := [(a0, .inr (0, [v20, v21, v22, .ref a2, v23, .ref a1, v24, v25])), (a2, .inl (cT 3, 8, .inr (.inr (.inr (.inr f29))))), (a3, .inr (2, [.ref a4, .int 1, v33])), (a4, .inl (cT 2, 4096, .inr (.inl f34)))]) (w1 := [(a1, .inr (2, [v26, .int 0, .int 0]))]) hP hD [1] [0, 2, 3, 4] rfl rfl (by decide) (by decide) hk1 hFc hP1 hD1
  generalize H1 = H at hP hS ⊢
  have hP : va_P D xcl [(a0, .inr (0, [v20, v21, v22, .ref a2, v23, .ref a1, v24, v25])), (a2, .inl (cT 3, 8, .inr (.inr (.inr (.inr f29))))), (a3, .inr (2, [.ref a4, .int 1, v33])), (a4, .inl (cT 2, 4096, .inr (.inl f34))), (a1, .inr (2, [v26, .int 0, .int 0]))] H := hP
  have hD : va_D A [(a0, .inr (0, [v20, v21, v22, .ref a2, v23, .ref a1, v24, v25])), (a2, .inl (cT 3, 8, .inr (.inr (.inr (.inr f29))))), (a3, .inr (2, [.ref a4, .int 1, v33])), (a4, .inl (cT 2, 4096, .inr (.inl f34))), (a1, .inr (2, [v26, .int 0, .int 0]))] := hD
  refine lv_aload_n hx hb dB_binary_45 rfl (lv_at hl 0 rfl) ?_
  refine lv_iload_n hx hb dB_binary_46 rfl (lv_at hl 2 rfl) ?_
  refine lv_aload_n hx hb dB_binary_47 rfl (lv_at hl 0 rfl) ?_
  refine va_get (D := D) (ci := 0) (v := .ref a2) (C := "ValueBench") (T := TB) (N := 8) hx hb htx inB hown hK hP 0 rfl rfl 3 (by decide) (htx _ kw_1_98) (fun _ h9 => h9) rfl dB_binary_48 ?_
  refine lv_iload_n hx hb dB_binary_51 rfl (lv_at hl 3 rfl) ?_
  refine va_aldq hx hb hK hP 1 3 rfl rfl h14 dB_binary_52 ?_
  refine W.eq (g2 := F0 m 53 ls [va_rf (f29 x10.toNatClampNeg), .int 4, .ref a0]) rfl ?_
  rw [h30]
  refine W.eq (g2 := F0 m 53 ls [.ref a3, .int 4, .ref a0]) rfl ?_
  refine lv_aload_n hx hb dB_binary_53 rfl (lv_at hl 0 rfl) ?_
  refine va_get (D := D) (ci := 0) (v := .ref a2) (C := "ValueBench") (T := TB) (N := 8) hx hb htx inB hown hK hP 0 rfl rfl 3 (by decide) (htx _ kw_1_98) (fun _ h9 => h9) rfl dB_binary_54 ?_
  refine lv_iload hx hb dB_binary_57 (lv_at hl 4 rfl) ?_
  refine va_aldq hx hb hK hP 1 3 rfl rfl h19 dB_binary_59 ?_
  refine W.eq (g2 := F0 m 60 ls [va_rf (f29 x15.toNatClampNeg), .ref a3, .int 4, .ref a0]) rfl ?_
  rw [h32]
  refine W.eq (g2 := F0 m 60 ls [.ref b31, .ref a3, .int 4, .ref a0]) rfl ?_
  refine lv_aload_n hx hb dB_binary_60 rfl (lv_at hl 0 rfl) ?_
  refine va_get (D := D) (ci := 0) (v := .ref a1) (C := "ValueBench") (T := TB) (N := 8) hx hb htx inB hown hK hP 0 rfl rfl 5 (by decide) (htx _ kw_1_100) (fun _ h9 => h9) rfl dB_binary_61 ?_
  have hPc := hP.sub (ws' := [(a3, .inr (2, [.ref a4, .int 1, v33])), (a4, .inl (cT 2, 4096, .inr (.inl f34)))]) [2, 3] rfl
  have hDc := hD.sub (ws' := [(a3, .inr (2, [.ref a4, .int 1, v33])), (a4, .inl (cT 2, 4096, .inr (.inl f34)))]) [2, 3] (by decide) rfl
  have hFc := va_free (wc := [(a3, .inr (2, [.ref a4, .int 1, v33])), (a4, .inl (cT 2, 4096, .inr (.inl f34)))]) hD hS hA [2, 3] rfl
  refine va_calli (va_runS (As := [.int 4, .ref a3, .ref b31, .ref a1]) (rest := [.ref a0]) ⟨hx, hb, hml, hown, htx⟩ (cA_apply_8 l hl9 D cT aK aV H.size a3 a4 b31 a1 v33 f34 (by first | rfl | exact h30 | exact h32 | exact h35)) ⟨callB_of 4 htx (xw_goodC kw_3_105) rfl rfl rfl (htx _ kw_1_21) (htx _ kw_3_103) ⟨by decide, by decide, by decide +kernel⟩ ⟨Nat.le_of_ble_eq_true rfl, Nat.le_of_ble_eq_true rfl⟩, htx _ kw_3_104⟩ ⟨xPre_blind, (fun U hU hW => ⟨rfl, xPre_of hZ hS hFc hPc hDc hK U hU hW⟩)⟩ rfl rfl hl.1 rfl (lv_room (Nat.le_of_ble_eq_true rfl)) dB_binary_64 ⟨Nat.le_of_ble_eq_true rfl, Nat.le_of_ble_eq_true rfl⟩) hS (fun q _ h => hFc q h) hFc (fun r5 u9 t H1 locs ht hvm hr9 hB hz1 hk1 hS => ?_)
  obtain ⟨hP1, hK1, hD1⟩ := hB
  rw [ht] at hP1
  obtain ⟨hP, hD⟩ := va_join (wr := [(a0, .inr (0, [v20, v21, v22, .ref a2, v23, .ref a1, v24, v25])), (a2, .inl (cT 3, 8, .inr (.inr (.inr (.inr f29))))), (a1, .inr (2, [v26, .int 0, .int 0]))]) (w1 := [(a3, .inr (2, [.ref a4, .int 1, v33])), (a4, .inl (cT 2, 4096, .inr (.inl f34)))]) hP hD [2, 3] [0, 1, 4] rfl rfl (by decide) (by decide) hk1 hFc hP1 hD1
  generalize H1 = H at hP hS ⊢
  have hP : va_P D xcl [(a0, .inr (0, [v20, v21, v22, .ref a2, v23, .ref a1, v24, v25])), (a2, .inl (cT 3, 8, .inr (.inr (.inr (.inr f29))))), (a1, .inr (2, [v26, .int 0, .int 0])), (a3, .inr (2, [.ref a4, .int 1, v33])), (a4, .inl (cT 2, 4096, .inr (.inl f34)))] H := hP
  have hD : va_D A [(a0, .inr (0, [v20, v21, v22, .ref a2, v23, .ref a1, v24, v25])), (a2, .inl (cT 3, 8, .inr (.inr (.inr (.inr f29))))), (a1, .inr (2, [v26, .int 0, .int 0])), (a3, .inr (2, [.ref a4, .int 1, v33])), (a4, .inl (cT 2, 4096, .inr (.inl f34)))] := hD
  rw [hr9]
  refine W.eq (g2 := F0 m 67 ls [.int 1, .ref a0]) rfl ?_
  have hPc := hP.sub (ws' := [(a0, .inr (0, [v20, v21, v22, .ref a2, v23, .ref a1, v24, v25]))]) [0] rfl
  have hDc := hD.sub (ws' := [(a0, .inr (0, [v20, v21, v22, .ref a2, v23, .ref a1, v24, v25]))]) [0] (by decide) rfl
  have hFc := va_free (wc := [(a0, .inr (0, [v20, v21, v22, .ref a2, v23, .ref a1, v24, v25]))]) hD hS hA [0] rfl
  refine xx_thr (vx_runV (C := "ValueBench") (As := [.int 1]) (rest := []) ⟨hx, hb, hml, hown, htx⟩ (cB_demandDone_1 l hl9 D cT aK aV H.size a0 v20 v21 v22 (.ref a2) v23 (.ref a1) v24 v25) ⟨callB_of 1 htx (xw_goodC kw_3_222) rfl rfl rfl (htx _ kw_1_1) (htx _ kw_3_219) ⟨by decide, by decide, by decide +kernel⟩ ⟨Nat.le_of_ble_eq_true rfl, Nat.le_of_ble_eq_true rfl⟩, (htx _ kw_3_221), (htx _ kp_B_demandDone)⟩ ⟨xPre_blind, va_recv hK hP (ci := 0) rfl (q0 := 0) rfl, (fun U hU hW => ⟨rfl, xPre_of hZ hS hFc hPc hDc hK U hU hW⟩)⟩ rfl rfl hl.1 rfl (lv_room (Nat.le_of_ble_eq_true rfl)) dB_binary_67 ⟨Nat.le_of_ble_eq_true rfl, Nat.le_of_ble_eq_true rfl⟩) hS hFc (fun q _ h => hFc q h) (fun E ce q9 u9 t H1 locs ht hvm _ hB hz1 hk1 hS hce hcv hcl => ?_)
  obtain ⟨rfl, hP1, hK1, hD1⟩ := hB
  rw [ht] at hP1
  obtain ⟨hP, hD⟩ := va_join (wr := [(a2, .inl (cT 3, 8, .inr (.inr (.inr (.inr f29))))), (a1, .inr (2, [v26, .int 0, .int 0])), (a3, .inr (2, [.ref a4, .int 1, v33])), (a4, .inl (cT 2, 4096, .inr (.inl f34)))]) (w1 := [(a0, .inr (0, [v20, v21, v22, .ref a2, v23, .ref a1, v24, .int 1]))]) hP hD [0] [1, 2, 3, 4] rfl rfl (by decide) (by decide) hk1 hFc hP1 hD1
  generalize H1 = H at hP hS hce ⊢
  have hP : va_P D xcl [(a2, .inl (cT 3, 8, .inr (.inr (.inr (.inr f29))))), (a1, .inr (2, [v26, .int 0, .int 0])), (a3, .inr (2, [.ref a4, .int 1, v33])), (a4, .inl (cT 2, 4096, .inr (.inl f34))), (a0, .inr (0, [v20, v21, v22, .ref a2, v23, .ref a1, v24, .int 1]))] H := hP
  have hD : va_D A [(a2, .inl (cT 3, 8, .inr (.inr (.inr (.inr f29))))), (a1, .inr (2, [v26, .int 0, .int 0])), (a3, .inr (2, [.ref a4, .int 1, v33])), (a4, .inl (cT 2, 4096, .inr (.inl f34))), (a0, .inr (0, [v20, v21, v22, .ref a2, v23, .ref a1, v24, .int 1]))] := hD
  have hP9 := hP.sub (ws' := [(a0, .inr (0, [v20, v21, v22, .ref a2, v23, .ref a1, v24, .int 1])), (a1, .inr (2, [v26, .int 0, .int 0])), (a2, .inl (cT 3, 8, .inr (.inr (.inr (.inr f29))))), (a3, .inr (2, [.ref a4, .int 1, v33])), (a4, .inl (cT 2, 4096, .inr (.inl f34)))]) [4, 1, 0, 2, 3] rfl
  have hD9 := hD.sub (ws' := [(a0, .inr (0, [v20, v21, v22, .ref a2, v23, .ref a1, v24, .int 1])), (a1, .inr (2, [v26, .int 0, .int 0])), (a2, .inl (cT 3, 8, .inr (.inr (.inr (.inr f29))))), (a3, .inr (2, [.ref a4, .int 1, v33])), (a4, .inl (cT 2, 4096, .inr (.inl f34)))]) [4, 1, 0, 2, 3] (by decide) rfl
  exact vx_out (E := "java/lang/ArithmeticException") (fun x h => (hne x h).elim) hlocks hce hcv hcl (fun t ht ha => ⟨(), trivial, ⟨rfl, by rw [ht]; exact hP9, va_K.moved ha hK, hD9⟩, hS.F ht⟩) hS.2.2 (Nat.le_of_ble_eq_true rfl) (Nat.le_of_ble_eq_true rfl)
set_option maxHeartbeats 4000000 in
set_option maxRecDepth 100000 in
theorem cA_apply_9 (l : Launch) (hl9 : l.stackTraces = false) (D : va_G) (cT : Nat → ClassId) (aK aV : Nat → Nat) (sz : Nat) (a0 : Nat) (a1 : Nat) (b2 : Nat) (v3 : Value) (f4 : Nat → Int64) (h5 : f4 0 = 0) : Met l yA_apply wyA_apply ({ frames := 2, cells := 0, slots := 0, locals := 43 }) (va_Pc [.int 4, .ref a0, .ref a0, .ref b2] (xPre D xcl cT aK aV sz [(a0, .inr (2, [.ref a1, .int 1, v3])), (a1, .inl (cT 2, 4096, .inr (.inl f4)))])) (va_Qi (fun (r : Int32) (_ : Unit) => r = 1) (fun _ t => xB D xcl cT (va_A [(a0, .inr (2, [.ref a1, .int 1, v3])), (a1, .inl (cT 2, 4096, .inr (.inl f4)))] sz) [(a0, .inr (2, [.ref a1, .int 1, v3])), (a1, .inl (cT 2, 4096, .inr (.inl f4)))] t) (va_A [(a0, .inr (2, [.ref a1, .int 1, v3])), (a1, .inl (cT 2, 4096, .inr (.inl f4)))] sz)) 0 0 (va_A [(a0, .inr (2, [.ref a1, .int 1, v3])), (a1, .inl (cT 2, 4096, .inr (.inl f4)))] sz) := by
  refine Met.ofW (cc := prog_3_method_2_code) (maxL := 4) (ret := (some .int)) (by decide) rfl ?_
  intro p e s m args below meth c s₁ B hml hv
  obtain ⟨rfl, hsz, hZ, hP, hK, hD0⟩ := hv
  have hx := B.exec
  have hb := B.bytes
  have hr := B.returns
  have hts := atoms_spec (ws := wyA_apply) B.pre
  have htx := fun w h => hts w (List.mem_cons_of_mem _ h)
  have hown : s.vm.findClass "ValueBench$Operators" = some m.cls := findClass_of_methodNamed B.named
  have hlocks := B.notSynchronized
  subst hsz
  have hD := hD0.self (sz := s.heap.size)
  generalize hAe : va_A [(a0, .inr (2, [.ref a1, .int 1, v3])), (a1, .inl (cT 2, 4096, .inr (.inl f4)))] s.heap.size = A at hD hZ ⊢
  have hA : ∀ q : Nat, s.heap.size ≤ q → A q := fun q h => by rw [← hAe]; exact Or.inr h
  have hS : va_S A s.heap s.heap [] := va_S.rf
  have hP : va_P D xcl [(a0, .inr (2, [.ref a1, .int 1, v3])), (a1, .inl (cT 2, 4096, .inr (.inl f4)))] s.heap := hP
  have hl := lv_entry ([.int 4, .ref a0, .ref a0, .ref b2]) (n := 4) (Nat.le_of_ble_eq_true rfl)
  rw [lg_entry_eq]
  generalize (lg_sl ([.int 4, .ref a0, .ref a0, .ref b2]) ++ List.replicate (4 - (lg_sl ([.int 4, .ref a0, .ref a0, .ref b2])).length) Slot.unset).toArray = ls at hl ⊢
  have hl : lv_has ls 4 [(0, .int 4), (1, .ref a0), (2, .ref a0), (3, .ref b2)] := hl
  refine lv_aload_n hx hb dA_apply_0 rfl (lv_at hl 1 rfl) ?_
  refine lv_iconst (v := 0) hx hb dA_apply_1 (by decide) ?_
  refine lv_iconst (v := 3) hx hb dA_apply_2 (by decide) ?_
  have hPc := hP.sub (ws' := [(a0, .inr (2, [.ref a1, .int 1, v3])), (a1, .inl (cT 2, 4096, .inr (.inl f4)))]) [0, 1] rfl
  have hDc := hD.sub (ws' := [(a0, .inr (2, [.ref a1, .int 1, v3])), (a1, .inl (cT 2, 4096, .inr (.inl f4)))]) [0, 1] (by decide) rfl
  have hFc := va_free (wc := [(a0, .inr (2, [.ref a1, .int 1, v3])), (a1, .inl (cT 2, 4096, .inr (.inl f4)))]) hD hS hA [0, 1] rfl
  refine va_calli (va_runV (C := "ValueBench$Row") (As := [.int 0, .int 3]) (rest := []) ⟨hx, hb, hml, hown, htx⟩ (cR_is_4 l hl9 D cT aK aV s.heap.size a0 a1 v3 f4 (by first | rfl | exact h5)) ⟨callB_of 2 htx (xw_goodC kw_3_75) rfl rfl rfl (htx _ kw_1_4) (htx _ kw_3_106) ⟨by decide, by decide, by decide +kernel⟩ ⟨Nat.le_of_ble_eq_true rfl, Nat.le_of_ble_eq_true rfl⟩, (htx _ kw_3_73), (htx _ kw_3_74)⟩ ⟨xPre_blind, va_recv hK hP (ci := 2) rfl (q0 := 0) rfl, (fun U hU hW => ⟨rfl, xPre_of hZ hS hFc hPc hDc hK U hU hW⟩)⟩ rfl rfl hl.1 rfl (lv_room (Nat.le_of_ble_eq_true rfl)) dA_apply_3 ⟨Nat.le_of_ble_eq_true rfl, Nat.le_of_ble_eq_true rfl⟩) hS (fun q _ h => hFc q h) hFc (fun r1 u9 t H1 locs ht hvm hr9 hB hz1 hk1 hS => ?_)
  obtain ⟨hP1, hK1, hD1⟩ := hB
  rw [ht] at hP1
  obtain ⟨hP, hD⟩ := va_join (wr := []) (w1 := [(a0, .inr (2, [.ref a1, .int 1, v3])), (a1, .inl (cT 2, 4096, .inr (.inl f4)))]) hP hD [0, 1] [] rfl rfl (by decide) (by decide) hk1 hFc hP1 hD1
  generalize H1 = H at hP hS ⊢
  have hP : va_P D xcl [(a0, .inr (2, [.ref a1, .int 1, v3])), (a1, .inl (cT 2, 4096, .inr (.inl f4)))] H := hP
  have hD : va_D A [(a0, .inr (2, [.ref a1, .int 1, v3])), (a1, .inl (cT 2, 4096, .inr (.inl f4)))] := hD
  rw [hr9]
  refine W.eq (g2 := F0 m 6 ls [.int 0]) rfl ?_
  refine lv_if_eq (tgt := 34) hx hb dA_apply_6 (by decide) (fun _ => ?_) (fun h => ((by revert h; decide : False)).elim)
  refine lv_iload_n hx hb dA_apply_34 rfl (lv_at hl 0 rfl) ?_
  refine lv_tableOut (tgt := 92) hx hb dA_apply_35 (by decide) (by decide) ?_
  refine lv_iconst (v := 1) hx hb dA_apply_92 (by decide) ?_
  have hP9 := hP.sub (ws' := [(a0, .inr (2, [.ref a1, .int 1, v3])), (a1, .inl (cT 2, 4096, .inr (.inl f4)))]) [0, 1] rfl
  have hD9 := hD.sub (ws' := [(a0, .inr (2, [.ref a1, .int 1, v3])), (a1, .inl (cT 2, 4096, .inr (.inl f4)))]) [0, 1] (by decide) rfl
  refine W.widen (k := 0) (n := 0) (Nat.le_of_ble_eq_true rfl) (Nat.le_of_ble_eq_true rfl) ?_
  exact W.iret (v := 1) hx hb hr (fun t ht hW => ⟨⟨1, (), rfl, rfl, by rw [ht]; exact hP9, va_K.moved hW.alike hK, hD9⟩, hS.F ht⟩) hS.2.2 dA_apply_93
set_option maxHeartbeats 4000000 in
set_option maxRecDepth 100000 in
theorem cB_binary_9 (l : Launch) (hl9 : l.stackTraces = false) (D : va_G) (cT : Nat → ClassId) (aK aV : Nat → Nat) (sz : Nat) (a0 : Nat) (a1 : Nat) (a2 : Nat) (a3 : Nat) (a4 : Nat) (x5 : Int32) (x10 : Int32) (x15 : Int32) (v20 : Value) (v21 : Value) (v22 : Value) (v23 : Value) (v24 : Value) (v25 : Value) (v26 : Value) (v27 : Value) (v28 : Value) (f29 : Nat → Option Nat) (v32 : Value) (f33 : Nat → Int64) (h6 : ¬ x5 < 0) (h7 : ¬ 7 < x5) (h8 : x5 ≤ 7) (h9 : vp_in x5 8) (h11 : ¬ x10 < 0) (h12 : ¬ 7 < x10) (h13 : x10 ≤ 7) (h14 : vp_in x10 8) (h16 : ¬ x15 < 0) (h17 : ¬ 7 < x15) (h18 : x15 ≤ 7) (h19 : vp_in x15 8) (h30 : f29 x10.toNatClampNeg = some a3) (h31 : f29 x15.toNatClampNeg = some a3) (h34 : f33 0 = 0) : vx_Met l yB_binary wyB_binary ({ frames := 7, cells := 1, slots := 6, locals := 121 }) (va_Pc [.ref a0, .int x5, .int 4, .int x10, .int x15] (xPre D xcl cT aK aV sz [(a0, .inr (0, [v20, v21, v22, .ref a2, v23, .ref a1, v24, v25])), (a1, .inr (2, [v26, v27, v28])), (a2, .inl (cT 3, 8, .inr (.inr (.inr (.inr f29))))), (a3, .inr (2, [.ref a4, .int 1, v32])), (a4, .inl (cT 2, 4096, .inr (.inl f33)))])) (fun _ _ _ _ => False) (vx_X (fun _ : Unit => True) (fun E _ t => E = "java/lang/ArithmeticException" ∧ xB D xcl cT (va_A [(a0, .inr (0, [v20, v21, v22, .ref a2, v23, .ref a1, v24, v25])), (a1, .inr (2, [v26, v27, v28])), (a2, .inl (cT 3, 8, .inr (.inr (.inr (.inr f29))))), (a3, .inr (2, [.ref a4, .int 1, v32])), (a4, .inl (cT 2, 4096, .inr (.inl f33)))] sz) [(a0, .inr (0, [v20, v21, v22, .ref a2, v23, .ref a1, v24, .int 1])), (a1, .inr (2, [v26, .int 0, .int 0])), (a2, .inl (cT 3, 8, .inr (.inr (.inr (.inr f29))))), (a3, .inr (2, [.ref a4, .int 1, v32])), (a4, .inl (cT 2, 4096, .inr (.inl f33)))] t) (va_A [(a0, .inr (0, [v20, v21, v22, .ref a2, v23, .ref a1, v24, v25])), (a1, .inr (2, [v26, v27, v28])), (a2, .inl (cT 3, 8, .inr (.inr (.inr (.inr f29))))), (a3, .inr (2, [.ref a4, .int 1, v32])), (a4, .inl (cT 2, 4096, .inr (.inl f33)))] sz)) 1 6 (va_A [(a0, .inr (0, [v20, v21, v22, .ref a2, v23, .ref a1, v24, v25])), (a1, .inr (2, [v26, v27, v28])), (a2, .inl (cT 3, 8, .inr (.inr (.inr (.inr f29))))), (a3, .inr (2, [.ref a4, .int 1, v32])), (a4, .inl (cT 2, 4096, .inr (.inl f33)))] sz) := by
  refine vx_ofW (cc := prog_1_method_6_code) (maxL := 5) (ret := none) (by decide) rfl ?_
  intro p e s m args below meth c s₁ B hml hne hv
  obtain ⟨rfl, hsz, hZ, hP, hK, hD0⟩ := hv
  have hx := B.exec
  have hb := B.bytes
  have hr := B.returns
  have hts := atoms_spec (ws := wyB_binary) B.pre
  have htx := fun w h => hts w (List.mem_cons_of_mem _ h)
  have hown : s.vm.findClass "ValueBench" = some m.cls := findClass_of_methodNamed B.named
  have hlocks := B.notSynchronized
  subst hsz
  have hD := hD0.self (sz := s.heap.size)
  generalize hAe : va_A [(a0, .inr (0, [v20, v21, v22, .ref a2, v23, .ref a1, v24, v25])), (a1, .inr (2, [v26, v27, v28])), (a2, .inl (cT 3, 8, .inr (.inr (.inr (.inr f29))))), (a3, .inr (2, [.ref a4, .int 1, v32])), (a4, .inl (cT 2, 4096, .inr (.inl f33)))] s.heap.size = A at hD hZ ⊢
  have hA : ∀ q : Nat, s.heap.size ≤ q → A q := fun q h => by rw [← hAe]; exact Or.inr h
  have hS : va_S A s.heap s.heap [] := va_S.rf
  have hP : va_P D xcl [(a0, .inr (0, [v20, v21, v22, .ref a2, v23, .ref a1, v24, v25])), (a1, .inr (2, [v26, v27, v28])), (a2, .inl (cT 3, 8, .inr (.inr (.inr (.inr f29))))), (a3, .inr (2, [.ref a4, .int 1, v32])), (a4, .inl (cT 2, 4096, .inr (.inl f33)))] s.heap := hP
  have hl := lv_entry ([.ref a0, .int x5, .int 4, .int x10, .int x15]) (n := 5) (Nat.le_of_ble_eq_true rfl)
  rw [lg_entry_eq]
  generalize (lg_sl ([.ref a0, .int x5, .int 4, .int x10, .int x15]) ++ List.replicate (5 - (lg_sl ([.ref a0, .int x5, .int 4, .int x10, .int x15])).length) Slot.unset).toArray = ls at hl ⊢
  have hl : lv_has ls 5 [(0, .ref a0), (1, .int x5), (2, .int 4), (3, .int x10), (4, .int x15)] := hl
  refine lv_iload_n hx hb dB_binary_0 rfl (lv_at hl 1 rfl) ?_
  have hPc := hP.sub (ws' := []) [] rfl
  have hDc := hD.sub (ws' := []) [] (by decide) rfl
  have hFc := va_free (wc := []) hD hS hA [] rfl
  refine va_calli (va_runS (As := [.int x5]) (rest := []) ⟨hx, hb, hml, hown, htx⟩ (cB_isRegister_0 l hl9 D cT aK aV s.heap.size x5 h6 h7 h8 h9) ⟨callB_of 1 htx (xw_goodC kw_2_18) rfl rfl rfl (htx _ kw_1_1) (htx _ kw_2_16) ⟨by decide, by decide, by decide +kernel⟩ ⟨Nat.le_of_ble_eq_true rfl, Nat.le_of_ble_eq_true rfl⟩, htx _ kw_2_17⟩ ⟨xPre_blind, (fun U hU hW => ⟨rfl, xPre_of hZ hS hFc hPc hDc hK U hU hW⟩)⟩ rfl rfl hl.1 rfl (lv_room (Nat.le_of_ble_eq_true rfl)) dB_binary_1 ⟨Nat.le_of_ble_eq_true rfl, Nat.le_of_ble_eq_true rfl⟩) hS (fun q _ h => hFc q h) hFc (fun r1 u9 t H1 locs ht hvm hr9 hB hz1 hk1 hS => ?_)
  obtain ⟨hP1, hK1, hD1⟩ := hB
  rw [ht] at hP1
  obtain ⟨hP, hD⟩ := va_join (wr := [(a0, .inr (0, [v20, v21, v22, .ref a2, v23, .ref a1, v24, v25])), (a1, .inr (2, [v26, v27, v28])), (a2, .inl (cT 3, 8, .inr (.inr (.inr (.inr f29))))), (a3, .inr (2, [.ref a4, .int 1, v32])), (a4, .inl (cT 2, 4096, .inr (.inl f33)))]) (w1 := []) hP hD [] [0, 1, 2, 3, 4] rfl rfl (by decide) (by decide) hk1 hFc hP1 hD1
  generalize H1 = H at hP hS ⊢
  have hP : va_P D xcl [(a0, .inr (0, [v20, v21, v22, .ref a2, v23, .ref a1, v24, v25])), (a1, .inr (2, [v26, v27, v28])), (a2, .inl (cT 3, 8, .inr (.inr (.inr (.inr f29))))), (a3, .inr (2, [.ref a4, .int 1, v32])), (a4, .inl (cT 2, 4096, .inr (.inl f33)))] H := hP
  have hD : va_D A [(a0, .inr (0, [v20, v21, v22, .ref a2, v23, .ref a1, v24, v25])), (a1, .inr (2, [v26, v27, v28])), (a2, .inl (cT 3, 8, .inr (.inr (.inr (.inr f29))))), (a3, .inr (2, [.ref a4, .int 1, v32])), (a4, .inl (cT 2, 4096, .inr (.inl f33)))] := hD
  rw [hr9]
  refine W.eq (g2 := F0 m 4 ls [.int 1]) rfl ?_
  refine lv_if_eq (tgt := 34) hx hb dB_binary_4 (by decide) (fun h => ((by revert h; decide : False)).elim) (fun _ => ?_)
  refine lv_iload_n hx hb dB_binary_7 rfl (lv_at hl 2 rfl) ?_
  refine lv_iconst (v := 4) hx hb dB_binary_8 (by decide) ?_
  have hPc := hP.sub (ws' := []) [] rfl
  have hDc := hD.sub (ws' := []) [] (by decide) rfl
  have hFc := va_free (wc := []) hD hS hA [] rfl
  refine va_calli (va_runS (As := [.int 4, .int 4]) (rest := []) ⟨hx, hb, hml, hown, htx⟩ (cB_isWithin_28 l hl9 D cT aK aV H.size) ⟨callB_of 2 htx (xw_goodC kw_1_218) rfl rfl rfl (htx _ kw_1_1) (htx _ kw_1_216) ⟨by decide, by decide, by decide +kernel⟩ ⟨Nat.le_of_ble_eq_true rfl, Nat.le_of_ble_eq_true rfl⟩, htx _ kw_1_217⟩ ⟨xPre_blind, (fun U hU hW => ⟨rfl, xPre_of hZ hS hFc hPc hDc hK U hU hW⟩)⟩ rfl rfl hl.1 rfl (lv_room (Nat.le_of_ble_eq_true rfl)) dB_binary_9 ⟨Nat.le_of_ble_eq_true rfl, Nat.le_of_ble_eq_true rfl⟩) hS (fun q _ h => hFc q h) hFc (fun r2 u9 t H1 locs ht hvm hr9 hB hz1 hk1 hS => ?_)
  obtain ⟨hP1, hK1, hD1⟩ := hB
  rw [ht] at hP1
  obtain ⟨hP, hD⟩ := va_join (wr := [(a0, .inr (0, [v20, v21, v22, .ref a2, v23, .ref a1, v24, v25])), (a1, .inr (2, [v26, v27, v28])), (a2, .inl (cT 3, 8, .inr (.inr (.inr (.inr f29))))), (a3, .inr (2, [.ref a4, .int 1, v32])), (a4, .inl (cT 2, 4096, .inr (.inl f33)))]) (w1 := []) hP hD [] [0, 1, 2, 3, 4] rfl rfl (by decide) (by decide) hk1 hFc hP1 hD1
  generalize H1 = H at hP hS ⊢
  have hP : va_P D xcl [(a0, .inr (0, [v20, v21, v22, .ref a2, v23, .ref a1, v24, v25])), (a1, .inr (2, [v26, v27, v28])), (a2, .inl (cT 3, 8, .inr (.inr (.inr (.inr f29))))), (a3, .inr (2, [.ref a4, .int 1, v32])), (a4, .inl (cT 2, 4096, .inr (.inl f33)))] H := hP
  have hD : va_D A [(a0, .inr (0, [v20, v21, v22, .ref a2, v23, .ref a1, v24, v25])), (a1, .inr (2, [v26, v27, v28])), (a2, .inl (cT 3, 8, .inr (.inr (.inr (.inr f29))))), (a3, .inr (2, [.ref a4, .int 1, v32])), (a4, .inl (cT 2, 4096, .inr (.inl f33)))] := hD
  rw [hr9]
  refine W.eq (g2 := F0 m 12 ls [.int 1]) rfl ?_
  refine lv_if_eq (tgt := 34) hx hb dB_binary_12 (by decide) (fun h => ((by revert h; decide : False)).elim) (fun _ => ?_)
  refine lv_iload_n hx hb dB_binary_15 rfl (lv_at hl 3 rfl) ?_
  have hPc := hP.sub (ws' := []) [] rfl
  have hDc := hD.sub (ws' := []) [] (by decide) rfl
  have hFc := va_free (wc := []) hD hS hA [] rfl
  refine va_calli (va_runS (As := [.int x10]) (rest := []) ⟨hx, hb, hml, hown, htx⟩ (cB_isRegister_0 l hl9 D cT aK aV H.size x10 h11 h12 h13 h14) ⟨callB_of 1 htx (xw_goodC kw_2_18) rfl rfl rfl (htx _ kw_1_1) (htx _ kw_2_16) ⟨by decide, by decide, by decide +kernel⟩ ⟨Nat.le_of_ble_eq_true rfl, Nat.le_of_ble_eq_true rfl⟩, htx _ kw_2_17⟩ ⟨xPre_blind, (fun U hU hW => ⟨rfl, xPre_of hZ hS hFc hPc hDc hK U hU hW⟩)⟩ rfl rfl hl.1 rfl (lv_room (Nat.le_of_ble_eq_true rfl)) dB_binary_16 ⟨Nat.le_of_ble_eq_true rfl, Nat.le_of_ble_eq_true rfl⟩) hS (fun q _ h => hFc q h) hFc (fun r3 u9 t H1 locs ht hvm hr9 hB hz1 hk1 hS => ?_)
  obtain ⟨hP1, hK1, hD1⟩ := hB
  rw [ht] at hP1
  obtain ⟨hP, hD⟩ := va_join (wr := [(a0, .inr (0, [v20, v21, v22, .ref a2, v23, .ref a1, v24, v25])), (a1, .inr (2, [v26, v27, v28])), (a2, .inl (cT 3, 8, .inr (.inr (.inr (.inr f29))))), (a3, .inr (2, [.ref a4, .int 1, v32])), (a4, .inl (cT 2, 4096, .inr (.inl f33)))]) (w1 := []) hP hD [] [0, 1, 2, 3, 4] rfl rfl (by decide) (by decide) hk1 hFc hP1 hD1
  generalize H1 = H at hP hS ⊢
  have hP : va_P D xcl [(a0, .inr (0, [v20, v21, v22, .ref a2, v23, .ref a1, v24, v25])), (a1, .inr (2, [v26, v27, v28])), (a2, .inl (cT 3, 8, .inr (.inr (.inr (.inr f29))))), (a3, .inr (2, [.ref a4, .int 1, v32])), (a4, .inl (cT 2, 4096, .inr (.inl f33)))] H := hP
  have hD : va_D A [(a0, .inr (0, [v20, v21, v22, .ref a2, v23, .ref a1, v24, v25])), (a1, .inr (2, [v26, v27, v28])), (a2, .inl (cT 3, 8, .inr (.inr (.inr (.inr f29))))), (a3, .inr (2, [.ref a4, .int 1, v32])), (a4, .inl (cT 2, 4096, .inr (.inl f33)))] := hD
  rw [hr9]
  refine W.eq (g2 := F0 m 19 ls [.int 1]) rfl ?_
  refine lv_if_eq (tgt := 34) hx hb dB_binary_19 (by decide) (fun h => ((by revert h; decide : False)).elim) (fun _ => ?_)
  refine lv_iload hx hb dB_binary_22 (lv_at hl 4 rfl) ?_
  have hPc := hP.sub (ws' := []) [] rfl
  have hDc := hD.sub (ws' := []) [] (by decide) rfl
  have hFc := va_free (wc := []) hD hS hA [] rfl
  refine va_calli (va_runS (As := [.int x15]) (rest := []) ⟨hx, hb, hml, hown, htx⟩ (cB_isRegister_0 l hl9 D cT aK aV H.size x15 h16 h17 h18 h19) ⟨callB_of 1 htx (xw_goodC kw_2_18) rfl rfl rfl (htx _ kw_1_1) (htx _ kw_2_16) ⟨by decide, by decide, by decide +kernel⟩ ⟨Nat.le_of_ble_eq_true rfl, Nat.le_of_ble_eq_true rfl⟩, htx _ kw_2_17⟩ ⟨xPre_blind, (fun U hU hW => ⟨rfl, xPre_of hZ hS hFc hPc hDc hK U hU hW⟩)⟩ rfl rfl hl.1 rfl (lv_room (Nat.le_of_ble_eq_true rfl)) dB_binary_24 ⟨Nat.le_of_ble_eq_true rfl, Nat.le_of_ble_eq_true rfl⟩) hS (fun q _ h => hFc q h) hFc (fun r4 u9 t H1 locs ht hvm hr9 hB hz1 hk1 hS => ?_)
  obtain ⟨hP1, hK1, hD1⟩ := hB
  rw [ht] at hP1
  obtain ⟨hP, hD⟩ := va_join (wr := [(a0, .inr (0, [v20, v21, v22, .ref a2, v23, .ref a1, v24, v25])), (a1, .inr (2, [v26, v27, v28])), (a2, .inl (cT 3, 8, .inr (.inr (.inr (.inr f29))))), (a3, .inr (2, [.ref a4, .int 1, v32])), (a4, .inl (cT 2, 4096, .inr (.inl f33)))]) (w1 := []) hP hD [] [0, 1, 2, 3, 4] rfl rfl (by decide) (by decide) hk1 hFc hP1 hD1
  generalize H1 = H at hP hS ⊢
  have hP : va_P D xcl [(a0, .inr (0, [v20, v21, v22, .ref a2, v23, .ref a1, v24, v25])), (a1, .inr (2, [v26, v27, v28])), (a2, .inl (cT 3, 8, .inr (.inr (.inr (.inr f29))))), (a3, .inr (2, [.ref a4, .int 1, v32])), (a4, .inl (cT 2, 4096, .inr (.inl f33)))] H := hP
  have hD : va_D A [(a0, .inr (0, [v20, v21, v22, .ref a2, v23, .ref a1, v24, v25])), (a1, .inr (2, [v26, v27, v28])), (a2, .inl (cT 3, 8, .inr (.inr (.inr (.inr f29))))), (a3, .inr (2, [.ref a4, .int 1, v32])), (a4, .inl (cT 2, 4096, .inr (.inl f33)))] := hD
  rw [hr9]
  refine W.eq (g2 := F0 m 27 ls [.int 1]) rfl ?_
  refine lv_if_eq (tgt := 34) hx hb dB_binary_27 (by decide) (fun h => ((by revert h; decide : False)).elim) (fun _ => ?_)
  refine lv_iconst (v := 1) hx hb dB_binary_30 (by decide) ?_
  refine lv_goto (tgt := 35) hx hb dB_binary_31 (by decide) ?_
  have hPc := hP.sub (ws' := []) [] rfl
  have hDc := hD.sub (ws' := []) [] (by decide) rfl
  have hFc := va_free (wc := []) hD hS hA [] rfl
  refine va_callv (va_runS (As := [.int 1]) (rest := []) ⟨hx, hb, hml, hown, htx⟩ (cB_demand_0 l hl9 D cT aK aV H.size) ⟨callB_of 1 htx (xw_goodC kw_1_221) rfl rfl rfl (htx _ kw_1_1) (htx _ kw_1_219) ⟨by decide, by decide, by decide +kernel⟩ ⟨Nat.le_of_ble_eq_true rfl, Nat.le_of_ble_eq_true rfl⟩, htx _ kw_1_220⟩ ⟨xPre_blind, (fun U hU hW => ⟨rfl, xPre_of hZ hS hFc hPc hDc hK U hU hW⟩)⟩ rfl rfl hl.1 rfl (lv_room (Nat.le_of_ble_eq_true rfl)) dB_binary_35 ⟨Nat.le_of_ble_eq_true rfl, Nat.le_of_ble_eq_true rfl⟩) hS (fun q _ h => hFc q h) hFc (fun u9 t H1 locs ht hvm hr9 hB hz1 hk1 hS => ?_)
  obtain ⟨hP1, hK1, hD1⟩ := hB
  rw [ht] at hP1
  obtain ⟨hP, hD⟩ := va_join (wr := [(a0, .inr (0, [v20, v21, v22, .ref a2, v23, .ref a1, v24, v25])), (a1, .inr (2, [v26, v27, v28])), (a2, .inl (cT 3, 8, .inr (.inr (.inr (.inr f29))))), (a3, .inr (2, [.ref a4, .int 1, v32])), (a4, .inl (cT 2, 4096, .inr (.inl f33)))]) (w1 := []) hP hD [] [0, 1, 2, 3, 4] rfl rfl (by decide) (by decide) hk1 hFc hP1 hD1
  generalize H1 = H at hP hS ⊢
  have hP : va_P D xcl [(a0, .inr (0, [v20, v21, v22, .ref a2, v23, .ref a1, v24, v25])), (a1, .inr (2, [v26, v27, v28])), (a2, .inl (cT 3, 8, .inr (.inr (.inr (.inr f29))))), (a3, .inr (2, [.ref a4, .int 1, v32])), (a4, .inl (cT 2, 4096, .inr (.inl f33)))] H := hP
  have hD : va_D A [(a0, .inr (0, [v20, v21, v22, .ref a2, v23, .ref a1, v24, v25])), (a1, .inr (2, [v26, v27, v28])), (a2, .inl (cT 3, 8, .inr (.inr (.inr (.inr f29))))), (a3, .inr (2, [.ref a4, .int 1, v32])), (a4, .inl (cT 2, 4096, .inr (.inl f33)))] := hD
  refine lv_aload_n hx hb dB_binary_38 rfl (lv_at hl 0 rfl) ?_
  refine va_get (D := D) (ci := 0) (v := .ref a1) (C := "ValueBench") (T := TB) (N := 8) hx hb htx inB hown hK hP 0 rfl rfl 5 (by decide) (htx _ kw_1_100) (fun _ h9 => h9) rfl dB_binary_39 ?_
  have hPc := hP.sub (ws' := [(a1, .inr (2, [v26, v27, v28]))]) [1] rfl
  have hDc := hD.sub (ws' := [(a1, .inr (2, [v26, v27, v28]))]) [1] (by decide) rfl
  have hFc := va_free (wc := [(a1, .inr (2, [v26, v27, v28]))]) hD hS hA [1] rfl
  refine va_callv (va_runV (C := "ValueBench$Row") (As := []) (rest := []) ⟨hx, hb, hml, hown, htx⟩ (cR_clear_0 l hl9 D cT aK aV H.size a1 v26 v27 v28) ⟨callB_of 0 htx (xw_goodC kw_2_22) rfl rfl rfl (htx _ kw_1_4) (htx _ kw_2_19) ⟨by decide, by decide, by decide +kernel⟩ ⟨Nat.le_of_ble_eq_true rfl, Nat.le_of_ble_eq_true rfl⟩, (htx _ kw_2_20), (htx _ kw_2_21)⟩ ⟨xPre_blind, va_recv hK hP (ci := 2) rfl (q0 := 1) rfl, (fun U hU hW => ⟨rfl, xPre_of hZ hS hFc hPc hDc hK U hU hW⟩)⟩ rfl rfl hl.1 rfl (lv_room (Nat.le_of_ble_eq_true rfl)) dB_binary_42 ⟨Nat.le_of_ble_eq_true rfl, Nat.le_of_ble_eq_true rfl⟩) hS (fun q _ h => hFc q h) hFc (fun u9 t H1 locs ht hvm hr9 hB hz1 hk1 hS => ?_)
  obtain ⟨hP1, hK1, hD1⟩ := hB
  rw [ht] at hP1
  obtain ⟨hP, hD⟩ := va_join (wr := [(a0, .inr (0, [v20, v21, v22, .ref a2, v23, .ref a1, v24, v25])), (a2, .inl (cT 3, 8, .inr (.inr (.inr (.inr f29))))), (a3, .inr (2, [.ref a4, .int 1, v32])), (a4, .inl (cT 2, 4096, .inr (.inl f33)))]) (w1 := [(a1, .inr (2, [v26, .int 0, .int 0]))]) hP hD [1] [0, 2, 3, 4] rfl rfl (by decide) (by decide) hk1 hFc hP1 hD1
  generalize H1 = H at hP hS ⊢
  have hP : va_P D xcl [(a0, .inr (0, [v20, v21, v22, .ref a2, v23, .ref a1, v24, v25])), (a2, .inl (cT 3, 8, .inr (.inr (.inr (.inr f29))))), (a3, .inr (2, [.ref a4, .int 1, v32])), (a4, .inl (cT 2, 4096, .inr (.inl f33))), (a1, .inr (2, [v26, .int 0, .int 0]))] H := hP
  have hD : va_D A [(a0, .inr (0, [v20, v21, v22, .ref a2, v23, .ref a1, v24, v25])), (a2, .inl (cT 3, 8, .inr (.inr (.inr (.inr f29))))), (a3, .inr (2, [.ref a4, .int 1, v32])), (a4, .inl (cT 2, 4096, .inr (.inl f33))), (a1, .inr (2, [v26, .int 0, .int 0]))] := hD
  refine lv_aload_n hx hb dB_binary_45 rfl (lv_at hl 0 rfl) ?_
  refine lv_iload_n hx hb dB_binary_46 rfl (lv_at hl 2 rfl) ?_
  refine lv_aload_n hx hb dB_binary_47 rfl (lv_at hl 0 rfl) ?_
  refine va_get (D := D) (ci := 0) (v := .ref a2) (C := "ValueBench") (T := TB) (N := 8) hx hb htx inB hown hK hP 0 rfl rfl 3 (by decide) (htx _ kw_1_98) (fun _ h9 => h9) rfl dB_binary_48 ?_
  refine lv_iload_n hx hb dB_binary_51 rfl (lv_at hl 3 rfl) ?_
  refine va_aldq hx hb hK hP 1 3 rfl rfl h14 dB_binary_52 ?_
  refine W.eq (g2 := F0 m 53 ls [va_rf (f29 x10.toNatClampNeg), .int 4, .ref a0]) rfl ?_
  rw [h30]
  refine W.eq (g2 := F0 m 53 ls [.ref a3, .int 4, .ref a0]) rfl ?_
  refine lv_aload_n hx hb dB_binary_53 rfl (lv_at hl 0 rfl) ?_
  refine va_get (D := D) (ci := 0) (v := .ref a2) (C := "ValueBench") (T := TB) (N := 8) hx hb htx inB hown hK hP 0 rfl rfl 3 (by decide) (htx _ kw_1_98) (fun _ h9 => h9) rfl dB_binary_54 ?_
  refine lv_iload hx hb dB_binary_57 (lv_at hl 4 rfl) ?_
  refine va_aldq hx hb hK hP 1 3 rfl rfl h19 dB_binary_59 ?_
  refine W.eq (g2 := F0 m 60 ls [va_rf (f29 x15.toNatClampNeg), .ref a3, .int 4, .ref a0]) rfl ?_
  rw [h31]
  refine W.eq (g2 := F0 m 60 ls [.ref a3, .ref a3, .int 4, .ref a0]) rfl ?_
  refine lv_aload_n hx hb dB_binary_60 rfl (lv_at hl 0 rfl) ?_
  refine va_get (D := D) (ci := 0) (v := .ref a1) (C := "ValueBench") (T := TB) (N := 8) hx hb htx inB hown hK hP 0 rfl rfl 5 (by decide) (htx _ kw_1_100) (fun _ h9 => h9) rfl dB_binary_61 ?_
  have hPc := hP.sub (ws' := [(a3, .inr (2, [.ref a4, .int 1, v32])), (a4, .inl (cT 2, 4096, .inr (.inl f33)))]) [2, 3] rfl
  have hDc := hD.sub (ws' := [(a3, .inr (2, [.ref a4, .int 1, v32])), (a4, .inl (cT 2, 4096, .inr (.inl f33)))]) [2, 3] (by decide) rfl
  have hFc := va_free (wc := [(a3, .inr (2, [.ref a4, .int 1, v32])), (a4, .inl (cT 2, 4096, .inr (.inl f33)))]) hD hS hA [2, 3] rfl
  refine va_calli (va_runS (As := [.int 4, .ref a3, .ref a3, .ref a1]) (rest := [.ref a0]) ⟨hx, hb, hml, hown, htx⟩ (cA_apply_9 l hl9 D cT aK aV H.size a3 a4 a1 v32 f33 (by first | rfl | exact h30 | exact h31 | exact h34)) ⟨callB_of 4 htx (xw_goodC kw_3_105) rfl rfl rfl (htx _ kw_1_21) (htx _ kw_3_103) ⟨by decide, by decide, by decide +kernel⟩ ⟨Nat.le_of_ble_eq_true rfl, Nat.le_of_ble_eq_true rfl⟩, htx _ kw_3_104⟩ ⟨xPre_blind, (fun U hU hW => ⟨rfl, xPre_of hZ hS hFc hPc hDc hK U hU hW⟩)⟩ rfl rfl hl.1 rfl (lv_room (Nat.le_of_ble_eq_true rfl)) dB_binary_64 ⟨Nat.le_of_ble_eq_true rfl, Nat.le_of_ble_eq_true rfl⟩) hS (fun q _ h => hFc q h) hFc (fun r5 u9 t H1 locs ht hvm hr9 hB hz1 hk1 hS => ?_)
  obtain ⟨hP1, hK1, hD1⟩ := hB
  rw [ht] at hP1
  obtain ⟨hP, hD⟩ := va_join (wr := [(a0, .inr (0, [v20, v21, v22, .ref a2, v23, .ref a1, v24, v25])), (a2, .inl (cT 3, 8, .inr (.inr (.inr (.inr f29))))), (a1, .inr (2, [v26, .int 0, .int 0]))]) (w1 := [(a3, .inr (2, [.ref a4, .int 1, v32])), (a4, .inl (cT 2, 4096, .inr (.inl f33)))]) hP hD [2, 3] [0, 1, 4] rfl rfl (by decide) (by decide) hk1 hFc hP1 hD1
  generalize H1 = H at hP hS ⊢
  have hP : va_P D xcl [(a0, .inr (0, [v20, v21, v22, .ref a2, v23, .ref a1, v24, v25])), (a2, .inl (cT 3, 8, .inr (.inr (.inr (.inr f29))))), (a1, .inr (2, [v26, .int 0, .int 0])), (a3, .inr (2, [.ref a4, .int 1, v32])), (a4, .inl (cT 2, 4096, .inr (.inl f33)))] H := hP
  have hD : va_D A [(a0, .inr (0, [v20, v21, v22, .ref a2, v23, .ref a1, v24, v25])), (a2, .inl (cT 3, 8, .inr (.inr (.inr (.inr f29))))), (a1, .inr (2, [v26, .int 0, .int 0])), (a3, .inr (2, [.ref a4, .int 1, v32])), (a4, .inl (cT 2, 4096, .inr (.inl f33)))] := hD
  rw [hr9]
  refine W.eq (g2 := F0 m 67 ls [.int 1, .ref a0]) rfl ?_
  have hPc := hP.sub (ws' := [(a0, .inr (0, [v20, v21, v22, .ref a2, v23, .ref a1, v24, v25]))]) [0] rfl
  have hDc := hD.sub (ws' := [(a0, .inr (0, [v20, v21, v22, .ref a2, v23, .ref a1, v24, v25]))]) [0] (by decide) rfl
  have hFc := va_free (wc := [(a0, .inr (0, [v20, v21, v22, .ref a2, v23, .ref a1, v24, v25]))]) hD hS hA [0] rfl
  refine xx_thr (vx_runV (C := "ValueBench") (As := [.int 1]) (rest := []) ⟨hx, hb, hml, hown, htx⟩ (cB_demandDone_1 l hl9 D cT aK aV H.size a0 v20 v21 v22 (.ref a2) v23 (.ref a1) v24 v25) ⟨callB_of 1 htx (xw_goodC kw_3_222) rfl rfl rfl (htx _ kw_1_1) (htx _ kw_3_219) ⟨by decide, by decide, by decide +kernel⟩ ⟨Nat.le_of_ble_eq_true rfl, Nat.le_of_ble_eq_true rfl⟩, (htx _ kw_3_221), (htx _ kp_B_demandDone)⟩ ⟨xPre_blind, va_recv hK hP (ci := 0) rfl (q0 := 0) rfl, (fun U hU hW => ⟨rfl, xPre_of hZ hS hFc hPc hDc hK U hU hW⟩)⟩ rfl rfl hl.1 rfl (lv_room (Nat.le_of_ble_eq_true rfl)) dB_binary_67 ⟨Nat.le_of_ble_eq_true rfl, Nat.le_of_ble_eq_true rfl⟩) hS hFc (fun q _ h => hFc q h) (fun E ce q9 u9 t H1 locs ht hvm _ hB hz1 hk1 hS hce hcv hcl => ?_)
  obtain ⟨rfl, hP1, hK1, hD1⟩ := hB
  rw [ht] at hP1
  obtain ⟨hP, hD⟩ := va_join (wr := [(a2, .inl (cT 3, 8, .inr (.inr (.inr (.inr f29))))), (a1, .inr (2, [v26, .int 0, .int 0])), (a3, .inr (2, [.ref a4, .int 1, v32])), (a4, .inl (cT 2, 4096, .inr (.inl f33)))]) (w1 := [(a0, .inr (0, [v20, v21, v22, .ref a2, v23, .ref a1, v24, .int 1]))]) hP hD [0] [1, 2, 3, 4] rfl rfl (by decide) (by decide) hk1 hFc hP1 hD1
  generalize H1 = H at hP hS hce ⊢
  have hP : va_P D xcl [(a2, .inl (cT 3, 8, .inr (.inr (.inr (.inr f29))))), (a1, .inr (2, [v26, .int 0, .int 0])), (a3, .inr (2, [.ref a4, .int 1, v32])), (a4, .inl (cT 2, 4096, .inr (.inl f33))), (a0, .inr (0, [v20, v21, v22, .ref a2, v23, .ref a1, v24, .int 1]))] H := hP
  have hD : va_D A [(a2, .inl (cT 3, 8, .inr (.inr (.inr (.inr f29))))), (a1, .inr (2, [v26, .int 0, .int 0])), (a3, .inr (2, [.ref a4, .int 1, v32])), (a4, .inl (cT 2, 4096, .inr (.inl f33))), (a0, .inr (0, [v20, v21, v22, .ref a2, v23, .ref a1, v24, .int 1]))] := hD
  have hP9 := hP.sub (ws' := [(a0, .inr (0, [v20, v21, v22, .ref a2, v23, .ref a1, v24, .int 1])), (a1, .inr (2, [v26, .int 0, .int 0])), (a2, .inl (cT 3, 8, .inr (.inr (.inr (.inr f29))))), (a3, .inr (2, [.ref a4, .int 1, v32])), (a4, .inl (cT 2, 4096, .inr (.inl f33)))]) [4, 1, 0, 2, 3] rfl
  have hD9 := hD.sub (ws' := [(a0, .inr (0, [v20, v21, v22, .ref a2, v23, .ref a1, v24, .int 1])), (a1, .inr (2, [v26, .int 0, .int 0])), (a2, .inl (cT 3, 8, .inr (.inr (.inr (.inr f29))))), (a3, .inr (2, [.ref a4, .int 1, v32])), (a4, .inl (cT 2, 4096, .inr (.inl f33)))]) [4, 1, 0, 2, 3] (by decide) rfl
  exact vx_out (E := "java/lang/ArithmeticException") (fun x h => (hne x h).elim) hlocks hce hcv hcl (fun t ht ha => ⟨(), trivial, ⟨rfl, by rw [ht]; exact hP9, va_K.moved ha hK, hD9⟩, hS.F ht⟩) hS.2.2 (Nat.le_of_ble_eq_true rfl) (Nat.le_of_ble_eq_true rfl)
set_option maxHeartbeats 4000000 in
set_option maxRecDepth 100000 in
theorem cB_binary_10 (l : Launch) (hl9 : l.stackTraces = false) (D : va_G) (cT : Nat → ClassId) (aK aV : Nat → Nat) (sz : Nat) (b0 : Nat) (x1 : Int32) (x3 : Int32) (x4 : Int32) (x5 : Int32) (h2 : x1 < 0) : vx_Met l yB_binary wyB_binary ({ frames := 7, cells := 1, slots := 6, locals := 120 }) (va_Pc [.ref b0, .int x1, .int x3, .int x4, .int x5] (xPre D xcl cT aK aV sz [])) (fun _ _ _ _ => False) (vx_X (fun _ : Unit => True) (fun E _ t => E = "java/lang/IllegalArgumentException" ∧ xB D xcl cT (va_A [] sz) [] t) (va_A [] sz)) 1 6 (va_A [] sz) := by
  refine vx_ofW (cc := prog_1_method_6_code) (maxL := 5) (ret := none) (by decide) rfl ?_
  intro p e s m args below meth c s₁ B hml hne hv
  obtain ⟨rfl, hsz, hZ, hP, hK, hD0⟩ := hv
  have hx := B.exec
  have hb := B.bytes
  have hr := B.returns
  have hts := atoms_spec (ws := wyB_binary) B.pre
  have htx := fun w h => hts w (List.mem_cons_of_mem _ h)
  have hown : s.vm.findClass "ValueBench" = some m.cls := findClass_of_methodNamed B.named
  have hlocks := B.notSynchronized
  subst hsz
  have hD := hD0.self (sz := s.heap.size)
  generalize hAe : va_A [] s.heap.size = A at hD hZ ⊢
  have hA : ∀ q : Nat, s.heap.size ≤ q → A q := fun q h => by rw [← hAe]; exact Or.inr h
  have hS : va_S A s.heap s.heap [] := va_S.rf
  have hP : va_P D xcl [] s.heap := hP
  have hl := lv_entry ([.ref b0, .int x1, .int x3, .int x4, .int x5]) (n := 5) (Nat.le_of_ble_eq_true rfl)
  rw [lg_entry_eq]
  generalize (lg_sl ([.ref b0, .int x1, .int x3, .int x4, .int x5]) ++ List.replicate (5 - (lg_sl ([.ref b0, .int x1, .int x3, .int x4, .int x5])).length) Slot.unset).toArray = ls at hl ⊢
  have hl : lv_has ls 5 [(0, .ref b0), (1, .int x1), (2, .int x3), (3, .int x4), (4, .int x5)] := hl
  refine lv_iload_n hx hb dB_binary_0 rfl (lv_at hl 1 rfl) ?_
  have hPc := hP.sub (ws' := []) [] rfl
  have hDc := hD.sub (ws' := []) [] (by decide) rfl
  have hFc := va_free (wc := []) hD hS hA [] rfl
  refine va_calli (va_runS (As := [.int x1]) (rest := []) ⟨hx, hb, hml, hown, htx⟩ (cB_isRegister_1 l hl9 D cT aK aV s.heap.size x1 h2) ⟨callB_of 1 htx (xw_goodC kw_2_18) rfl rfl rfl (htx _ kw_1_1) (htx _ kw_2_16) ⟨by decide, by decide, by decide +kernel⟩ ⟨Nat.le_of_ble_eq_true rfl, Nat.le_of_ble_eq_true rfl⟩, htx _ kw_2_17⟩ ⟨xPre_blind, (fun U hU hW => ⟨rfl, xPre_of hZ hS hFc hPc hDc hK U hU hW⟩)⟩ rfl rfl hl.1 rfl (lv_room (Nat.le_of_ble_eq_true rfl)) dB_binary_1 ⟨Nat.le_of_ble_eq_true rfl, Nat.le_of_ble_eq_true rfl⟩) hS (fun q _ h => hFc q h) hFc (fun r1 u9 t H1 locs ht hvm hr9 hB hz1 hk1 hS => ?_)
  obtain ⟨hP1, hK1, hD1⟩ := hB
  rw [ht] at hP1
  obtain ⟨hP, hD⟩ := va_join (wr := []) (w1 := []) hP hD [] [] rfl rfl (by decide) (by decide) hk1 hFc hP1 hD1
  generalize H1 = H at hP hS ⊢
  have hP : va_P D xcl [] H := hP
  have hD : va_D A [] := hD
  rw [hr9]
  refine W.eq (g2 := F0 m 4 ls [.int 0]) rfl ?_
  refine lv_if_eq (tgt := 34) hx hb dB_binary_4 (by decide) (fun _ => ?_) (fun h => ((by revert h; decide : False)).elim)
  refine lv_iconst (v := 0) hx hb dB_binary_34 (by decide) ?_
  have hPc := hP.sub (ws' := []) [] rfl
  have hDc := hD.sub (ws' := []) [] (by decide) rfl
  have hFc := va_free (wc := []) hD hS hA [] rfl
  refine xx_thr (vx_runS (As := [.int 0]) (rest := []) ⟨hx, hb, hml, hown, htx⟩ (cB_demand_1 l hl9 D cT aK aV H.size) ⟨callB_of 1 htx (xw_goodC kw_1_221) rfl rfl rfl (htx _ kw_1_1) (htx _ kw_1_219) ⟨by decide, by decide, by decide +kernel⟩ ⟨Nat.le_of_ble_eq_true rfl, Nat.le_of_ble_eq_true rfl⟩, htx _ kw_1_220⟩ ⟨xPre_blind, (fun U hU hW => ⟨rfl, xPre_of hZ hS hFc hPc hDc hK U hU hW⟩)⟩ rfl rfl hl.1 rfl (lv_room (Nat.le_of_ble_eq_true rfl)) dB_binary_35 ⟨Nat.le_of_ble_eq_true rfl, Nat.le_of_ble_eq_true rfl⟩) hS hFc (fun q _ h => hFc q h) (fun E ce q9 u9 t H1 locs ht hvm _ hB hz1 hk1 hS hce hcv hcl => ?_)
  obtain ⟨rfl, hP1, hK1, hD1⟩ := hB
  rw [ht] at hP1
  obtain ⟨hP, hD⟩ := va_join (wr := []) (w1 := []) hP hD [] [] rfl rfl (by decide) (by decide) hk1 hFc hP1 hD1
  generalize H1 = H at hP hS hce ⊢
  have hP : va_P D xcl [] H := hP
  have hD : va_D A [] := hD
  have hP9 := hP.sub (ws' := []) [] rfl
  have hD9 := hD.sub (ws' := []) [] (by decide) rfl
  exact vx_out (E := "java/lang/IllegalArgumentException") (fun x h => (hne x h).elim) hlocks hce hcv hcl (fun t ht ha => ⟨(), trivial, ⟨rfl, by rw [ht]; exact hP9, va_K.moved ha hK, hD9⟩, hS.F ht⟩) hS.2.2 (Nat.le_of_ble_eq_true rfl) (Nat.le_of_ble_eq_true rfl)
