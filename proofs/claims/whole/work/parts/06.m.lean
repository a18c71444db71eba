set_option maxHeartbeats 400000000 in
set_option maxRecDepth 100000 in
theorem cJS_isLatin1_0 (l : Launch) (hl9 : l.stackTraces = false) (D : va_G) (cT : Nat → ClassId) (aK aV : Nat → Nat) (sz : Nat) : xMet l yJS_isLatin1 wyJS_isLatin1 0 0 0 0 D cT aK aV sz [.ref (aK 10)] [] (fun A => va_Qi (fun (r : Int32) (_ : Unit) => r = 1) (fun _ t => xB D xcl cT A [] t) A) := by
  refine Met.ofW (cc := prog_23_method_154_code) (maxL := 1) (ret := (some .boolean)) (by decide) rfl ?_
  intro p e s m args below meth c s₁ B hml hv
  obtain ⟨rfl, hsz, hZ, hP, hK, hD0⟩ := hv
  have hx := B.exec
  have hb := B.bytes
  have hr := B.returns
  have hts := atoms_spec (ws := wyJS_isLatin1) B.pre
  have htx := fun w h => hts w (List.mem_cons_of_mem _ h)
  have hown : s.vm.findClass "java/lang/String" = some m.cls := findClass_of_methodNamed B.named
  have hlocks := B.notSynchronized
  subst hsz
  have hD := hD0.self (sz := s.heap.size)
  generalize hAe : va_A [] s.heap.size = A at hD hZ ⊢
  have hA : ∀ q : Nat, s.heap.size ≤ q → A q := fun q h => by rw [← hAe]; exact Or.inr h
  have hS : va_S A s.heap s.heap [] := va_S.rf
  have hP : va_P D xcl [] s.heap := hP
  have hl := lv_entry ([.ref (aK 10)]) (n := 1) (Nat.le_of_ble_eq_true rfl)
  rw [lg_entry_eq]
  generalize (lg_sl ([.ref (aK 10)]) ++ List.replicate (1 - (lg_sl ([.ref (aK 10)])).length) Slot.unset).toArray = ls at hl ⊢
  have hl : lv_has ls 1 [(0, .ref (aK 10))] := hl
  refine va_gets hx hb hZ.2.2.2.2.2.2.2.2.2.2.1 hS hown (htx _ kw_2_75) (fun _ h9 => h9) dJS_isLatin1_0 ?_
  refine lv_if_eq (tgt := 17) hx hb dJS_isLatin1_3 (by decide) (fun h => ((by revert h; decide : False)).elim) (fun _ => ?_)
  refine lv_aload_n hx hb dJS_isLatin1_6 rfl (lv_at hl 0 rfl) ?_
  refine vk_getf (o := "java/lang/String") (n := "coder") (d := "B") (v := .int 0) hx hb (hZ.2.2.2.2.2.2.2.2.2.1.1 10 (by decide)).2.1 hS hown (htx _ kw_7_133) (fun _ h9 => h9) dJS_isLatin1_7 ?_
  refine lv_if_ne (tgt := 17) hx hb dJS_isLatin1_10 (by decide) (fun h => ((by revert h; decide : False)).elim) (fun _ => ?_)
  refine lv_iconst (v := 1) hx hb dJS_isLatin1_13 (by decide) ?_
  refine lv_goto (tgt := 18) hx hb dJS_isLatin1_14 (by decide) ?_
  obtain ⟨hP9, hD9⟩ := xsub (wc := []) hP hD [] rfl rfl (by decide)
  refine W.widen (k := 0) (n := 0) (Nat.le_of_ble_eq_true rfl) (Nat.le_of_ble_eq_true rfl) ?_
  exact W.zret (v := 1) hx hb hr rfl (fun t ht hW => ⟨⟨1, (), rfl, rfl, by rw [ht]; exact hP9, va_K.moved hW.alike hK, hD9⟩, hS.F ht⟩) hS.2.2 dJS_isLatin1_18
set_option maxHeartbeats 400000000 in
set_option maxRecDepth 100000 in
theorem cJP_checkIndex_0 (l : Launch) (hl9 : l.stackTraces = false) (D : va_G) (cT : Nat → ClassId) (aK aV : Nat → Nat) (sz : Nat) : xMet l yJP_checkIndex wyJP_checkIndex 0 0 0 0 D cT aK aV sz [.int 0, .int 4, .null] [] (fun A => va_Qi (fun (r : Int32) (_ : Unit) => r = 0) (fun _ t => xB D xcl cT A [] t) A) := by
  refine Met.ofW (cc := prog_29_method_11_code) (maxL := 3) (ret := (some .int)) (by decide) rfl ?_
  intro p e s m args below meth c s₁ B hml hv
  obtain ⟨rfl, hsz, hZ, hP, hK, hD0⟩ := hv
  have hx := B.exec
  have hb := B.bytes
  have hr := B.returns
  have hts := atoms_spec (ws := wyJP_checkIndex) B.pre
  have htx := fun w h => hts w (List.mem_cons_of_mem _ h)
  have hown : s.vm.findClass "jdk/internal/util/Preconditions" = some m.cls := findClass_of_methodNamed B.named
  have hlocks := B.notSynchronized
  subst hsz
  have hD := hD0.self (sz := s.heap.size)
  generalize hAe : va_A [] s.heap.size = A at hD hZ ⊢
  have hA : ∀ q : Nat, s.heap.size ≤ q → A q := fun q h => by rw [← hAe]; exact Or.inr h
  have hS : va_S A s.heap s.heap [] := va_S.rf
  have hP : va_P D xcl [] s.heap := hP
  have hl := lv_entry ([.int 0, .int 4, .null]) (n := 3) (Nat.le_of_ble_eq_true rfl)
  rw [lg_entry_eq]
  generalize (lg_sl ([.int 0, .int 4, .null]) ++ List.replicate (3 - (lg_sl ([.int 0, .int 4, .null])).length) Slot.unset).toArray = ls at hl ⊢
  have hl : lv_has ls 3 [(0, .int 0), (1, .int 4), (2, .null)] := hl
  refine lv_iload_n hx hb dJP_checkIndex_0 rfl (lv_at hl 0 rfl) ?_
  refine lv_if_lt (tgt := 9) hx hb dJP_checkIndex_1 (by decide) (fun h => ((by revert h; decide : False)).elim) (fun _ => ?_)
  refine lv_iload_n hx hb dJP_checkIndex_4 rfl (lv_at hl 0 rfl) ?_
  refine lv_iload_n hx hb dJP_checkIndex_5 rfl (lv_at hl 1 rfl) ?_
  refine lv_icmp_lt (tgt := 16) hx hb dJP_checkIndex_6 (by decide) (fun _ => ?_) (fun h => ((by revert h; decide : False)).elim)
  refine lv_iload_n hx hb dJP_checkIndex_16 rfl (lv_at hl 0 rfl) ?_
  obtain ⟨hP9, hD9⟩ := xsub (wc := []) hP hD [] rfl rfl (by decide)
  refine W.widen (k := 0) (n := 0) (Nat.le_of_ble_eq_true rfl) (Nat.le_of_ble_eq_true rfl) ?_
  exact W.iret (v := 0) hx hb hr (fun t ht hW => ⟨⟨0, (), rfl, rfl, by rw [ht]; exact hP9, va_K.moved hW.alike hK, hD9⟩, hS.F ht⟩) hS.2.2 dJP_checkIndex_17
set_option maxHeartbeats 400000000 in
set_option maxRecDepth 100000 in
theorem cJP_checkIndex_1 (l : Launch) (hl9 : l.stackTraces = false) (D : va_G) (cT : Nat → ClassId) (aK aV : Nat → Nat) (sz : Nat) (b0 : Nat) : xMet l yJP_checkIndex wyJP_checkIndex 0 0 0 0 D cT aK aV sz [.int 0, .int 4, .ref b0] [] (fun A => va_Qi (fun (r : Int32) (_ : Unit) => r = 0) (fun _ t => xB D xcl cT A [] t) A) := by
  refine Met.ofW (cc := prog_29_method_11_code) (maxL := 3) (ret := (some .int)) (by decide) rfl ?_
  intro p e s m args below meth c s₁ B hml hv
  obtain ⟨rfl, hsz, hZ, hP, hK, hD0⟩ := hv
  have hx := B.exec
  have hb := B.bytes
  have hr := B.returns
  have hts := atoms_spec (ws := wyJP_checkIndex) B.pre
  have htx := fun w h => hts w (List.mem_cons_of_mem _ h)
  have hown : s.vm.findClass "jdk/internal/util/Preconditions" = some m.cls := findClass_of_methodNamed B.named
  have hlocks := B.notSynchronized
  subst hsz
  have hD := hD0.self (sz := s.heap.size)
  generalize hAe : va_A [] s.heap.size = A at hD hZ ⊢
  have hA : ∀ q : Nat, s.heap.size ≤ q → A q := fun q h => by rw [← hAe]; exact Or.inr h
  have hS : va_S A s.heap s.heap [] := va_S.rf
  have hP : va_P D xcl [] s.heap := hP
  have hl := lv_entry ([.int 0, .int 4, .ref b0]) (n := 3) (Nat.le_of_ble_eq_true rfl)
  rw [lg_entry_eq]
  generalize (lg_sl ([.int 0, .int 4, .ref b0]) ++ List.replicate (3 - (lg_sl ([.int 0, .int 4, .ref b0])).length) Slot.unset).toArray = ls at hl ⊢
  have hl : lv_has ls 3 [(0, .int 0), (1, .int 4), (2, .ref b0)] := hl
  refine lv_iload_n hx hb dJP_checkIndex_0 rfl (lv_at hl 0 rfl) ?_
  refine lv_if_lt (tgt := 9) hx hb dJP_checkIndex_1 (by decide) (fun h => ((by revert h; decide : False)).elim) (fun _ => ?_)
  refine lv_iload_n hx hb dJP_checkIndex_4 rfl (lv_at hl 0 rfl) ?_
  refine lv_iload_n hx hb dJP_checkIndex_5 rfl (lv_at hl 1 rfl) ?_
  refine lv_icmp_lt (tgt := 16) hx hb dJP_checkIndex_6 (by decide) (fun _ => ?_) (fun h => ((by revert h; decide : False)).elim)
  refine lv_iload_n hx hb dJP_checkIndex_16 rfl (lv_at hl 0 rfl) ?_
  obtain ⟨hP9, hD9⟩ := xsub (wc := []) hP hD [] rfl rfl (by decide)
  refine W.widen (k := 0) (n := 0) (Nat.le_of_ble_eq_true rfl) (Nat.le_of_ble_eq_true rfl) ?_
  exact W.iret (v := 0) hx hb hr (fun t ht hW => ⟨⟨0, (), rfl, rfl, by rw [ht]; exact hP9, va_K.moved hW.alike hK, hD9⟩, hS.F ht⟩) hS.2.2 dJP_checkIndex_17
set_option maxHeartbeats 400000000 in
set_option maxRecDepth 100000 in
theorem cJS_checkIndex_0 (l : Launch) (hl9 : l.stackTraces = false) (D : va_G) (cT : Nat → ClassId) (aK aV : Nat → Nat) (sz : Nat) : xMet l yJS_checkIndex wyJS_checkIndex 1 0 0 22 D cT aK aV sz [.int 0, .int 4] [] (fun A => va_Qv (fun _ : Unit => True) (fun _ t => xB D xcl cT A [] t) A) := by
  refine Met.ofW (cc := prog_23_method_155_code) (maxL := 2) (ret := none) (by decide) rfl ?_
  intro p e s m args below meth c s₁ B hml hv
  obtain ⟨rfl, hsz, hZ, hP, hK, hD0⟩ := hv
  have hx := B.exec
  have hb := B.bytes
  have hr := B.returns
  have hts := atoms_spec (ws := wyJS_checkIndex) B.pre
  have htx := fun w h => hts w (List.mem_cons_of_mem _ h)
  have hown : s.vm.findClass "java/lang/String" = some m.cls := findClass_of_methodNamed B.named
  have hlocks := B.notSynchronized
  subst hsz
  have hD := hD0.self (sz := s.heap.size)
  generalize hAe : va_A [] s.heap.size = A at hD hZ ⊢
  have hA : ∀ q : Nat, s.heap.size ≤ q → A q := fun q h => by rw [← hAe]; exact Or.inr h
  have hS : va_S A s.heap s.heap [] := va_S.rf
  have hP : va_P D xcl [] s.heap := hP
  have hl := lv_entry ([.int 0, .int 4]) (n := 2) (Nat.le_of_ble_eq_true rfl)
  rw [lg_entry_eq]
  generalize (lg_sl ([.int 0, .int 4]) ++ List.replicate (2 - (lg_sl ([.int 0, .int 4])).length) Slot.unset).toArray = ls at hl ⊢
  have hl : lv_has ls 2 [(0, .int 0), (1, .int 4)] := hl
  refine lv_iload_n hx hb dJS_checkIndex_0 rfl (lv_at hl 0 rfl) ?_
  refine lv_iload_n hx hb dJS_checkIndex_1 rfl (lv_at hl 1 rfl) ?_
  rcases hZ.2.2.2.2.2.2.2.2.2.2.2.1 with hq9 | ⟨b9, hq9⟩
  · refine va_gets hx hb hq9 hS hown (htx _ kw_2_91) (fun _ h9 => h9) dJS_checkIndex_2 ?_
    obtain ⟨hPc, hDc, hFc⟩ := xcut (wc := []) hP hD hS hA [] rfl rfl (by decide)
    refine va_calli (va_runS (As := [.int 0, .int 4, .null]) (rest := []) ⟨hx, hb, hml, hown, htx⟩ (cJP_checkIndex_0 l hl9 D cT aK aV s.heap.size) ⟨callB_of 3 htx (xw_goodC kw_2_95) rfl rfl rfl (htx _ kw_1_8) (htx _ kw_2_93) ⟨by decide, by decide, by decide +kernel⟩ ⟨Nat.le_of_ble_eq_true rfl, Nat.le_of_ble_eq_true rfl⟩, htx _ kw_2_94⟩ ⟨xPre_blind, (fun U hU hW => ⟨rfl, xPre_of hZ hS hFc hPc hDc hK U hU hW⟩)⟩ rfl rfl hl.1 rfl (lv_room (Nat.le_of_ble_eq_true rfl)) dJS_checkIndex_5 ⟨Nat.le_of_ble_eq_true rfl, Nat.le_of_ble_eq_true rfl⟩) hS (fun q _ h => hFc q h) hFc (fun r1 u9 t H1 locs ht hvm hr9 hB hz1 hk1 hS => ?_)
    obtain ⟨hP1, hK1, hD1⟩ := hB
    rw [ht] at hP1
    obtain ⟨hP, hD⟩ := xjoin (W := []) hP hD [] [] 0 rfl rfl (by decide) (by decide) hk1 hFc hP1 hD1
    generalize H1 = H at hP hS ⊢
    rw [hr9]
    refine W.eq (g2 := F0 m 8 ls [.int 0]) rfl ?_
    refine lv_pop hx hb dJS_checkIndex_8 rfl ?_
    obtain ⟨hP9, hD9⟩ := xsub (wc := []) hP hD [] rfl rfl (by decide)
    refine W.widen (k := 0) (n := 0) (Nat.le_of_ble_eq_true rfl) (Nat.le_of_ble_eq_true rfl) ?_
    exact W.vret hx hb hr (fun t ht hW => ⟨⟨(), rfl, trivial, by rw [ht]; exact hP9, va_K.moved hW.alike hK, hD9⟩, hS.F ht⟩) hS.2.2 dJS_checkIndex_9
  · refine va_gets hx hb hq9 hS hown (htx _ kw_2_91) (fun _ h9 => h9) dJS_checkIndex_2 ?_
    obtain ⟨hPc, hDc, hFc⟩ := xcut (wc := []) hP hD hS hA [] rfl rfl (by decide)
    refine va_calli (va_runS (As := [.int 0, .int 4, .ref b9]) (rest := []) ⟨hx, hb, hml, hown, htx⟩ (cJP_checkIndex_1 l hl9 D cT aK aV s.heap.size b9) ⟨callB_of 3 htx (xw_goodC kw_2_95) rfl rfl rfl (htx _ kw_1_8) (htx _ kw_2_93) ⟨by decide, by decide, by decide +kernel⟩ ⟨Nat.le_of_ble_eq_true rfl, Nat.le_of_ble_eq_true rfl⟩, htx _ kw_2_94⟩ ⟨xPre_blind, (fun U hU hW => ⟨rfl, xPre_of hZ hS hFc hPc hDc hK U hU hW⟩)⟩ rfl rfl hl.1 rfl (lv_room (Nat.le_of_ble_eq_true rfl)) dJS_checkIndex_5 ⟨Nat.le_of_ble_eq_true rfl, Nat.le_of_ble_eq_true rfl⟩) hS (fun q _ h => hFc q h) hFc (fun r1 u9 t H1 locs ht hvm hr9 hB hz1 hk1 hS => ?_)
    obtain ⟨hP1, hK1, hD1⟩ := hB
    rw [ht] at hP1
    obtain ⟨hP, hD⟩ := xjoin (W := []) hP hD [] [] 0 rfl rfl (by decide) (by decide) hk1 hFc hP1 hD1
    generalize H1 = H at hP hS ⊢
    rw [hr9]
    refine W.eq (g2 := F0 m 8 ls [.int 0]) rfl ?_
    refine lv_pop hx hb dJS_checkIndex_8 rfl ?_
    obtain ⟨hP9, hD9⟩ := xsub (wc := []) hP hD [] rfl rfl (by decide)
    refine W.widen (k := 0) (n := 0) (Nat.le_of_ble_eq_true rfl) (Nat.le_of_ble_eq_true rfl) ?_
    exact W.vret hx hb hr (fun t ht hW => ⟨⟨(), rfl, trivial, by rw [ht]; exact hP9, va_K.moved hW.alike hK, hD9⟩, hS.F ht⟩) hS.2.2 dJS_checkIndex_9
set_option maxHeartbeats 400000000 in
set_option maxRecDepth 100000 in
theorem cJT_charAt_0 (l : Launch) (hl9 : l.stackTraces = false) (D : va_G) (cT : Nat → ClassId) (aK aV : Nat → Nat) (sz : Nat) : xMet l yJT_charAt wyJT_charAt 2 0 0 43 D cT aK aV sz [.ref (aV 10), .int 0] [] (fun A => va_Qi (fun (r : Int32) (_ : Unit) => r = 110) (fun _ t => xB D xcl cT A [] t) A) := by
  refine Met.ofW (cc := prog_24_method_2_code) (maxL := 2) (ret := (some .char)) (by decide) rfl ?_
  intro p e s m args below meth c s₁ B hml hv
  obtain ⟨rfl, hsz, hZ, hP, hK, hD0⟩ := hv
  have hx := B.exec
  have hb := B.bytes
  have hr := B.returns
  have hts := atoms_spec (ws := wyJT_charAt) B.pre
  have htx := fun w h => hts w (List.mem_cons_of_mem _ h)
  have hown : s.vm.findClass "java/lang/StringLatin1" = some m.cls := findClass_of_methodNamed B.named
  have hlocks := B.notSynchronized
  subst hsz
  have hD := hD0.self (sz := s.heap.size)
  generalize hAe : va_A [] s.heap.size = A at hD hZ ⊢
  have hA : ∀ q : Nat, s.heap.size ≤ q → A q := fun q h => by rw [← hAe]; exact Or.inr h
  have hS : va_S A s.heap s.heap [] := va_S.rf
  have hP : va_P D xcl [] s.heap := hP
  have hl := lv_entry ([.ref (aV 10), .int 0]) (n := 2) (Nat.le_of_ble_eq_true rfl)
  rw [lg_entry_eq]
  generalize (lg_sl ([.ref (aV 10), .int 0]) ++ List.replicate (2 - (lg_sl ([.ref (aV 10), .int 0])).length) Slot.unset).toArray = ls at hl ⊢
  have hl : lv_has ls 2 [(0, .ref (aV 10)), (1, .int 0)] := hl
  refine lv_iload_n hx hb dJT_charAt_0 rfl (lv_at hl 1 rfl) ?_
  refine lv_aload_n hx hb dJT_charAt_1 rfl (lv_at hl 0 rfl) ?_
  refine va_tlen (v := 4) hx hb (hZ.2.2.2.2.2.2.2.2.2.1.1 10 (by decide)).2.2.2 hS rfl dJT_charAt_2 ?_
  obtain ⟨hPc, hDc, hFc⟩ := xcut (wc := []) hP hD hS hA [] rfl rfl (by decide)
  refine va_callv (va_runS (As := [.int 0, .int 4]) (rest := []) ⟨hx, hb, hml, hown, htx⟩ (cJS_checkIndex_0 l hl9 D cT aK aV s.heap.size) ⟨callB_of 2 htx (xw_goodC kw_2_90) rfl rfl rfl (htx _ kw_1_6) (htx _ kw_2_88) ⟨by decide, by decide, by decide +kernel⟩ ⟨Nat.le_of_ble_eq_true rfl, Nat.le_of_ble_eq_true rfl⟩, htx _ kw_2_89⟩ ⟨xPre_blind, (fun U hU hW => ⟨rfl, xPre_of hZ hS hFc hPc hDc hK U hU hW⟩)⟩ rfl rfl hl.1 rfl (lv_room (Nat.le_of_ble_eq_true rfl)) dJT_charAt_3 ⟨Nat.le_of_ble_eq_true rfl, Nat.le_of_ble_eq_true rfl⟩) hS (fun q _ h => hFc q h) hFc (fun u9 t H1 locs ht hvm hr9 hB hz1 hk1 hS => ?_)
  obtain ⟨hP1, hK1, hD1⟩ := hB
  rw [ht] at hP1
  obtain ⟨hP, hD⟩ := xjoin (W := []) hP hD [] [] 0 rfl rfl (by decide) (by decide) hk1 hFc hP1 hD1
  generalize H1 = H at hP hS ⊢
  refine lv_aload_n hx hb dJT_charAt_6 rfl (lv_at hl 0 rfl) ?_
  refine lv_iload_n hx hb dJT_charAt_7 rfl (lv_at hl 1 rfl) ?_
  refine va_tb (v := .int 110) hx hb (hZ.2.2.2.2.2.2.2.2.2.1.1 10 (by decide)).2.2.2 hS (show ¬ ((0 : Int32) < 0 ∨ 4 ≤ (0 : Int32).toNatClampNeg) by decide) rfl dJT_charAt_8 ?_
  refine lv_sipush (v := 255) hx hb dJT_charAt_9 (by decide) ?_
  refine lv_iand hx hb dJT_charAt_12 ?_
  refine W.eq (g2 := F0 m 13 ls [.int 110]) rfl ?_
  refine lv_i2c hx hb dJT_charAt_13 rfl ?_
  refine W.eq (g2 := F0 m 14 ls [.int 110]) rfl ?_
  obtain ⟨hP9, hD9⟩ := xsub (wc := []) hP hD [] rfl rfl (by decide)
  refine W.widen (k := 0) (n := 0) (Nat.le_of_ble_eq_true rfl) (Nat.le_of_ble_eq_true rfl) ?_
  exact W.zret (v := 110) hx hb hr rfl (fun t ht hW => ⟨⟨110, (), rfl, rfl, by rw [ht]; exact hP9, va_K.moved hW.alike hK, hD9⟩, hS.F ht⟩) hS.2.2 dJT_charAt_14
set_option maxHeartbeats 400000000 in
set_option maxRecDepth 100000 in
theorem cJS_charAt_0 (l : Launch) (hl9 : l.stackTraces = false) (D : va_G) (cT : Nat → ClassId) (aK aV : Nat → Nat) (sz : Nat) : xMet l yJS_charAt wyJS_charAt 3 0 0 64 D cT aK aV sz [.ref (aK 10), .int 0] [] (fun A => va_Qi (fun (r : Int32) (_ : Unit) => r = 110) (fun _ t => xB D xcl cT A [] t) A) := by
  refine Met.ofW (cc := prog_23_method_56_code) (maxL := 2) (ret := (some .char)) (by decide) rfl ?_
  intro p e s m args below meth c s₁ B hml hv
  obtain ⟨rfl, hsz, hZ, hP, hK, hD0⟩ := hv
  have hx := B.exec
  have hb := B.bytes
  have hr := B.returns
  have hts := atoms_spec (ws := wyJS_charAt) B.pre
  have htx := fun w h => hts w (List.mem_cons_of_mem _ h)
  have hown : s.vm.findClass "java/lang/String" = some m.cls := findClass_of_methodNamed B.named
  have hlocks := B.notSynchronized
  subst hsz
  have hD := hD0.self (sz := s.heap.size)
  generalize hAe : va_A [] s.heap.size = A at hD hZ ⊢
  have hA : ∀ q : Nat, s.heap.size ≤ q → A q := fun q h => by rw [← hAe]; exact Or.inr h
  have hS : va_S A s.heap s.heap [] := va_S.rf
  have hP : va_P D xcl [] s.heap := hP
  have hl := lv_entry ([.ref (aK 10), .int 0]) (n := 2) (Nat.le_of_ble_eq_true rfl)
  rw [lg_entry_eq]
  generalize (lg_sl ([.ref (aK 10), .int 0]) ++ List.replicate (2 - (lg_sl ([.ref (aK 10), .int 0])).length) Slot.unset).toArray = ls at hl ⊢
  have hl : lv_has ls 2 [(0, .ref (aK 10)), (1, .int 0)] := hl
  refine lv_aload_n hx hb dJS_charAt_0 rfl (lv_at hl 0 rfl) ?_
  obtain ⟨hPc, hDc, hFc⟩ := xcut (wc := []) hP hD hS hA [] rfl rfl (by decide)
  refine va_calli (va_runV (C := "java/lang/String") (As := []) (rest := []) ⟨hx, hb, hml, hown, htx⟩ (cJS_isLatin1_0 l hl9 D cT aK aV s.heap.size) ⟨callB_of 0 htx (xw_goodC kw_2_84) rfl rfl rfl (htx _ kw_1_6) (htx _ kw_2_81) ⟨by decide, by decide, by decide +kernel⟩ ⟨Nat.le_of_ble_eq_true rfl, Nat.le_of_ble_eq_true rfl⟩, (htx _ kw_2_82), (htx _ kw_2_83)⟩ ⟨xPre_blind, vk_recv hZ.2.2.2.2.2.2.2.2.2.1 (i := 10) (by decide) hS, (fun U hU hW => ⟨rfl, xPre_of hZ hS hFc hPc hDc hK U hU hW⟩)⟩ rfl rfl hl.1 rfl (lv_room (Nat.le_of_ble_eq_true rfl)) dJS_charAt_1 ⟨Nat.le_of_ble_eq_true rfl, Nat.le_of_ble_eq_true rfl⟩) hS (fun q _ h => hFc q h) hFc (fun r1 u9 t H1 locs ht hvm hr9 hB hz1 hk1 hS => ?_)
  obtain ⟨hP1, hK1, hD1⟩ := hB
  rw [ht] at hP1
  obtain ⟨hP, hD⟩ := xjoin (W := []) hP hD [] [] 0 rfl rfl (by decide) (by decide) hk1 hFc hP1 hD1
  generalize H1 = H at hP hS ⊢
  rw [hr9]
  refine W.eq (g2 := F0 m 4 ls [.int 1]) rfl ?_
  refine lv_if_eq (tgt := 16) hx hb dJS_charAt_4 (by decide) (fun h => ((by revert h; decide : False)).elim) (fun _ => ?_)
  refine lv_aload_n hx hb dJS_charAt_7 rfl (lv_at hl 0 rfl) ?_
  refine vk_getf (o := "java/lang/String") (n := "value") (d := "[B") (v := .ref (aV 10)) hx hb (hZ.2.2.2.2.2.2.2.2.2.1.1 10 (by decide)).2.2.1 hS hown (htx _ kw_7_134) (fun _ h9 => h9) dJS_charAt_8 ?_
  refine lv_iload_n hx hb dJS_charAt_11 rfl (lv_at hl 1 rfl) ?_
  obtain ⟨hPc, hDc, hFc⟩ := xcut (wc := []) hP hD hS hA [] rfl rfl (by decide)
  refine va_calli (va_runS (As := [.ref (aV 10), .int 0]) (rest := []) ⟨hx, hb, hml, hown, htx⟩ (cJT_charAt_0 l hl9 D cT aK aV H.size) ⟨callB_of 2 htx (xw_goodC kw_2_87) rfl rfl rfl (htx _ kw_1_7) (htx _ kw_2_85) ⟨by decide, by decide, by decide +kernel⟩ ⟨Nat.le_of_ble_eq_true rfl, Nat.le_of_ble_eq_true rfl⟩, htx _ kw_2_86⟩ ⟨xPre_blind, (fun U hU hW => ⟨rfl, xPre_of hZ hS hFc hPc hDc hK U hU hW⟩)⟩ rfl rfl hl.1 rfl (lv_room (Nat.le_of_ble_eq_true rfl)) dJS_charAt_12 ⟨Nat.le_of_ble_eq_true rfl, Nat.le_of_ble_eq_true rfl⟩) hS (fun q _ h => hFc q h) hFc (fun r2 u9 t H1 locs ht hvm hr9 hB hz1 hk1 hS => ?_)
  obtain ⟨hP1, hK1, hD1⟩ := hB
  rw [ht] at hP1
  obtain ⟨hP, hD⟩ := xjoin (W := []) hP hD [] [] 0 rfl rfl (by decide) (by decide) hk1 hFc hP1 hD1
  generalize H1 = H at hP hS ⊢
  rw [hr9]
  refine W.eq (g2 := F0 m 15 ls [.int 110]) rfl ?_
  obtain ⟨hP9, hD9⟩ := xsub (wc := []) hP hD [] rfl rfl (by decide)
  refine W.widen (k := 0) (n := 0) (Nat.le_of_ble_eq_true rfl) (Nat.le_of_ble_eq_true rfl) ?_
  exact W.zret (v := 110) hx hb hr rfl (fun t ht hW => ⟨⟨110, (), rfl, rfl, by rw [ht]; exact hP9, va_K.moved hW.alike hK, hD9⟩, hS.F ht⟩) hS.2.2 dJS_charAt_15
set_option maxHeartbeats 400000000 in
set_option maxRecDepth 100000 in
theorem cJP_checkIndex_2 (l : Launch) (hl9 : l.stackTraces = false) (D : va_G) (cT : Nat → ClassId) (aK aV : Nat → Nat) (sz : Nat) : xMet l yJP_checkIndex wyJP_checkIndex 0 0 0 0 D cT aK aV sz [.int 1, .int 4, .null] [] (fun A => va_Qi (fun (r : Int32) (_ : Unit) => r = 1) (fun _ t => xB D xcl cT A [] t) A) := by
  refine Met.ofW (cc := prog_29_method_11_code) (maxL := 3) (ret := (some .int)) (by decide) rfl ?_
  intro p e s m args below meth c s₁ B hml hv
  obtain ⟨rfl, hsz, hZ, hP, hK, hD0⟩ := hv
  have hx := B.exec
  have hb := B.bytes
  have hr := B.returns
  have hts := atoms_spec (ws := wyJP_checkIndex) B.pre
  have htx := fun w h => hts w (List.mem_cons_of_mem _ h)
  have hown : s.vm.findClass "jdk/internal/util/Preconditions" = some m.cls := findClass_of_methodNamed B.named
  have hlocks := B.notSynchronized
  subst hsz
  have hD := hD0.self (sz := s.heap.size)
  generalize hAe : va_A [] s.heap.size = A at hD hZ ⊢
  have hA : ∀ q : Nat, s.heap.size ≤ q → A q := fun q h => by rw [← hAe]; exact Or.inr h
  have hS : va_S A s.heap s.heap [] := va_S.rf
  have hP : va_P D xcl [] s.heap := hP
  have hl := lv_entry ([.int 1, .int 4, .null]) (n := 3) (Nat.le_of_ble_eq_true rfl)
  rw [lg_entry_eq]
  generalize (lg_sl ([.int 1, .int 4, .null]) ++ List.replicate (3 - (lg_sl ([.int 1, .int 4, .null])).length) Slot.unset).toArray = ls at hl ⊢
  have hl : lv_has ls 3 [(0, .int 1), (1, .int 4), (2, .null)] := hl
  refine lv_iload_n hx hb dJP_checkIndex_0 rfl (lv_at hl 0 rfl) ?_
  refine lv_if_lt (tgt := 9) hx hb dJP_checkIndex_1 (by decide) (fun h => ((by revert h; decide : False)).elim) (fun _ => ?_)
  refine lv_iload_n hx hb dJP_checkIndex_4 rfl (lv_at hl 0 rfl) ?_
  refine lv_iload_n hx hb dJP_checkIndex_5 rfl (lv_at hl 1 rfl) ?_
  refine lv_icmp_lt (tgt := 16) hx hb dJP_checkIndex_6 (by decide) (fun _ => ?_) (fun h => ((by revert h; decide : False)).elim)
  refine lv_iload_n hx hb dJP_checkIndex_16 rfl (lv_at hl 0 rfl) ?_
  obtain ⟨hP9, hD9⟩ := xsub (wc := []) hP hD [] rfl rfl (by decide)
  refine W.widen (k := 0) (n := 0) (Nat.le_of_ble_eq_true rfl) (Nat.le_of_ble_eq_true rfl) ?_
  exact W.iret (v := 1) hx hb hr (fun t ht hW => ⟨⟨1, (), rfl, rfl, by rw [ht]; exact hP9, va_K.moved hW.alike hK, hD9⟩, hS.F ht⟩) hS.2.2 dJP_checkIndex_17
set_option maxHeartbeats 400000000 in
set_option maxRecDepth 100000 in
theorem cJP_checkIndex_3 (l : Launch) (hl9 : l.stackTraces = false) (D : va_G) (cT : Nat → ClassId) (aK aV : Nat → Nat) (sz : Nat) (b0 : Nat) : xMet l yJP_checkIndex wyJP_checkIndex 0 0 0 0 D cT aK aV sz [.int 1, .int 4, .ref b0] [] (fun A => va_Qi (fun (r : Int32) (_ : Unit) => r = 1) (fun _ t => xB D xcl cT A [] t) A) := by
  refine Met.ofW (cc := prog_29_method_11_code) (maxL := 3) (ret := (some .int)) (by decide) rfl ?_
  intro p e s m args below meth c s₁ B hml hv
  obtain ⟨rfl, hsz, hZ, hP, hK, hD0⟩ := hv
  have hx := B.exec
  have hb := B.bytes
  have hr := B.returns
  have hts := atoms_spec (ws := wyJP_checkIndex) B.pre
  have htx := fun w h => hts w (List.mem_cons_of_mem _ h)
  have hown : s.vm.findClass "jdk/internal/util/Preconditions" = some m.cls := findClass_of_methodNamed B.named
  have hlocks := B.notSynchronized
  subst hsz
  have hD := hD0.self (sz := s.heap.size)
  generalize hAe : va_A [] s.heap.size = A at hD hZ ⊢
  have hA : ∀ q : Nat, s.heap.size ≤ q → A q := fun q h => by rw [← hAe]; exact Or.inr h
  have hS : va_S A s.heap s.heap [] := va_S.rf
  have hP : va_P D xcl [] s.heap := hP
  have hl := lv_entry ([.int 1, .int 4, .ref b0]) (n := 3) (Nat.le_of_ble_eq_true rfl)
  rw [lg_entry_eq]
  generalize (lg_sl ([.int 1, .int 4, .ref b0]) ++ List.replicate (3 - (lg_sl ([.int 1, .int 4, .ref b0])).length) Slot.unset).toArray = ls at hl ⊢
  have hl : lv_has ls 3 [(0, .int 1), (1, .int 4), (2, .ref b0)] := hl
  refine lv_iload_n hx hb dJP_checkIndex_0 rfl (lv_at hl 0 rfl) ?_
  refine lv_if_lt (tgt := 9) hx hb dJP_checkIndex_1 (by decide) (fun h => ((by revert h; decide : False)).elim) (fun _ => ?_)
  refine lv_iload_n hx hb dJP_checkIndex_4 rfl (lv_at hl 0 rfl) ?_
  refine lv_iload_n hx hb dJP_checkIndex_5 rfl (lv_at hl 1 rfl) ?_
  refine lv_icmp_lt (tgt := 16) hx hb dJP_checkIndex_6 (by decide) (fun _ => ?_) (fun h => ((by revert h; decide : False)).elim)
  refine lv_iload_n hx hb dJP_checkIndex_16 rfl (lv_at hl 0 rfl) ?_
  obtain ⟨hP9, hD9⟩ := xsub (wc := []) hP hD [] rfl rfl (by decide)
  refine W.widen (k := 0) (n := 0) (Nat.le_of_ble_eq_true rfl) (Nat.le_of_ble_eq_true rfl) ?_
  exact W.iret (v := 1) hx hb hr (fun t ht hW => ⟨⟨1, (), rfl, rfl, by rw [ht]; exact hP9, va_K.moved hW.alike hK, hD9⟩, hS.F ht⟩) hS.2.2 dJP_checkIndex_17
set_option maxHeartbeats 400000000 in
set_option maxRecDepth 100000 in
theorem cJS_checkIndex_1 (l : Launch) (hl9 : l.stackTraces = false) (D : va_G) (cT : Nat → ClassId) (aK aV : Nat → Nat) (sz : Nat) : xMet l yJS_checkIndex wyJS_checkIndex 1 0 0 22 D cT aK aV sz [.int 1, .int 4] [] (fun A => va_Qv (fun _ : Unit => True) (fun _ t => xB D xcl cT A [] t) A) := by
  refine Met.ofW (cc := prog_23_method_155_code) (maxL := 2) (ret := none) (by decide) rfl ?_
  intro p e s m args below meth c s₁ B hml hv
  obtain ⟨rfl, hsz, hZ, hP, hK, hD0⟩ := hv
  have hx := B.exec
  have hb := B.bytes
  have hr := B.returns
  have hts := atoms_spec (ws := wyJS_checkIndex) B.pre
  have htx := fun w h => hts w (List.mem_cons_of_mem _ h)
  have hown : s.vm.findClass "java/lang/String" = some m.cls := findClass_of_methodNamed B.named
  have hlocks := B.notSynchronized
  subst hsz
  have hD := hD0.self (sz := s.heap.size)
  generalize hAe : va_A [] s.heap.size = A at hD hZ ⊢
  have hA : ∀ q : Nat, s.heap.size ≤ q → A q := fun q h => by rw [← hAe]; exact Or.inr h
  have hS : va_S A s.heap s.heap [] := va_S.rf
  have hP : va_P D xcl [] s.heap := hP
  have hl := lv_entry ([.int 1, .int 4]) (n := 2) (Nat.le_of_ble_eq_true rfl)
  rw [lg_entry_eq]
  generalize (lg_sl ([.int 1, .int 4]) ++ List.replicate (2 - (lg_sl ([.int 1, .int 4])).length) Slot.unset).toArray = ls at hl ⊢
  have hl : lv_has ls 2 [(0, .int 1), (1, .int 4)] := hl
  refine lv_iload_n hx hb dJS_checkIndex_0 rfl (lv_at hl 0 rfl) ?_
  refine lv_iload_n hx hb dJS_checkIndex_1 rfl (lv_at hl 1 rfl) ?_
  rcases hZ.2.2.2.2.2.2.2.2.2.2.2.1 with hq9 | ⟨b9, hq9⟩
  · refine va_gets hx hb hq9 hS hown (htx _ kw_2_91) (fun _ h9 => h9) dJS_checkIndex_2 ?_
    obtain ⟨hPc, hDc, hFc⟩ := xcut (wc := []) hP hD hS hA [] rfl rfl (by decide)
    refine va_calli (va_runS (As := [.int 1, .int 4, .null]) (rest := []) ⟨hx, hb, hml, hown, htx⟩ (cJP_checkIndex_2 l hl9 D cT aK aV s.heap.size) ⟨callB_of 3 htx (xw_goodC kw_2_95) rfl rfl rfl (htx _ kw_1_8) (htx _ kw_2_93) ⟨by decide, by decide, by decide +kernel⟩ ⟨Nat.le_of_ble_eq_true rfl, Nat.le_of_ble_eq_true rfl⟩, htx _ kw_2_94⟩ ⟨xPre_blind, (fun U hU hW => ⟨rfl, xPre_of hZ hS hFc hPc hDc hK U hU hW⟩)⟩ rfl rfl hl.1 rfl (lv_room (Nat.le_of_ble_eq_true rfl)) dJS_checkIndex_5 ⟨Nat.le_of_ble_eq_true rfl, Nat.le_of_ble_eq_true rfl⟩) hS (fun q _ h => hFc q h) hFc (fun r1 u9 t H1 locs ht hvm hr9 hB hz1 hk1 hS => ?_)
    obtain ⟨hP1, hK1, hD1⟩ := hB
    rw [ht] at hP1
    obtain ⟨hP, hD⟩ := xjoin (W := []) hP hD [] [] 0 rfl rfl (by decide) (by decide) hk1 hFc hP1 hD1
    generalize H1 = H at hP hS ⊢
    rw [hr9]
    refine W.eq (g2 := F0 m 8 ls [.int 1]) rfl ?_
    refine lv_pop hx hb dJS_checkIndex_8 rfl ?_
    obtain ⟨hP9, hD9⟩ := xsub (wc := []) hP hD [] rfl rfl (by decide)
    refine W.widen (k := 0) (n := 0) (Nat.le_of_ble_eq_true rfl) (Nat.le_of_ble_eq_true rfl) ?_
    exact W.vret hx hb hr (fun t ht hW => ⟨⟨(), rfl, trivial, by rw [ht]; exact hP9, va_K.moved hW.alike hK, hD9⟩, hS.F ht⟩) hS.2.2 dJS_checkIndex_9
  · refine va_gets hx hb hq9 hS hown (htx _ kw_2_91) (fun _ h9 => h9) dJS_checkIndex_2 ?_
    obtain ⟨hPc, hDc, hFc⟩ := xcut (wc := []) hP hD hS hA [] rfl rfl (by decide)
    refine va_calli (va_runS (As := [.int 1, .int 4, .ref b9]) (rest := []) ⟨hx, hb, hml, hown, htx⟩ (cJP_checkIndex_3 l hl9 D cT aK aV s.heap.size b9) ⟨callB_of 3 htx (xw_goodC kw_2_95) rfl rfl rfl (htx _ kw_1_8) (htx _ kw_2_93) ⟨by decide, by decide, by decide +kernel⟩ ⟨Nat.le_of_ble_eq_true rfl, Nat.le_of_ble_eq_true rfl⟩, htx _ kw_2_94⟩ ⟨xPre_blind, (fun U hU hW => ⟨rfl, xPre_of hZ hS hFc hPc hDc hK U hU hW⟩)⟩ rfl rfl hl.1 rfl (lv_room (Nat.le_of_ble_eq_true rfl)) dJS_checkIndex_5 ⟨Nat.le_of_ble_eq_true rfl, Nat.le_of_ble_eq_true rfl⟩) hS (fun q _ h => hFc q h) hFc (fun r1 u9 t H1 locs ht hvm hr9 hB hz1 hk1 hS => ?_)
    obtain ⟨hP1, hK1, hD1⟩ := hB
    rw [ht] at hP1
    obtain ⟨hP, hD⟩ := xjoin (W := []) hP hD [] [] 0 rfl rfl (by decide) (by decide) hk1 hFc hP1 hD1
    generalize H1 = H at hP hS ⊢
    rw [hr9]
    refine W.eq (g2 := F0 m 8 ls [.int 1]) rfl ?_
    refine lv_pop hx hb dJS_checkIndex_8 rfl ?_
    obtain ⟨hP9, hD9⟩ := xsub (wc := []) hP hD [] rfl rfl (by decide)
    refine W.widen (k := 0) (n := 0) (Nat.le_of_ble_eq_true rfl) (Nat.le_of_ble_eq_true rfl) ?_
    exact W.vret hx hb hr (fun t ht hW => ⟨⟨(), rfl, trivial, by rw [ht]; exact hP9, va_K.moved hW.alike hK, hD9⟩, hS.F ht⟩) hS.2.2 dJS_checkIndex_9
set_option maxHeartbeats 400000000 in
set_option maxRecDepth 100000 in
theorem cJT_charAt_1 (l : Launch) (hl9 : l.stackTraces = false) (D : va_G) (cT : Nat → ClassId) (aK aV : Nat → Nat) (sz : Nat) : xMet l yJT_charAt wyJT_charAt 2 0 0 43 D cT aK aV sz [.ref (aV 10), .int 1] [] (fun A => va_Qi (fun (r : Int32) (_ : Unit) => r = 117) (fun _ t => xB D xcl cT A [] t) A) := by
  refine Met.ofW (cc := prog_24_method_2_code) (maxL := 2) (ret := (some .char)) (by decide) rfl ?_
  intro p e s m args below meth c s₁ B hml hv
  obtain ⟨rfl, hsz, hZ, hP, hK, hD0⟩ := hv
  have hx := B.exec
  have hb := B.bytes
  have hr := B.returns
  have hts := atoms_spec (ws := wyJT_charAt) B.pre
  have htx := fun w h => hts w (List.mem_cons_of_mem _ h)
  have hown : s.vm.findClass "java/lang/StringLatin1" = some m.cls := findClass_of_methodNamed B.named
  have hlocks := B.notSynchronized
  subst hsz
  have hD := hD0.self (sz := s.heap.size)
  generalize hAe : va_A [] s.heap.size = A at hD hZ ⊢
  have hA : ∀ q : Nat, s.heap.size ≤ q → A q := fun q h => by rw [← hAe]; exact Or.inr h
  have hS : va_S A s.heap s.heap [] := va_S.rf
  have hP : va_P D xcl [] s.heap := hP
  have hl := lv_entry ([.ref (aV 10), .int 1]) (n := 2) (Nat.le_of_ble_eq_true rfl)
  rw [lg_entry_eq]
  generalize (lg_sl ([.ref (aV 10), .int 1]) ++ List.replicate (2 - (lg_sl ([.ref (aV 10), .int 1])).length) Slot.unset).toArray = ls at hl ⊢
  have hl : lv_has ls 2 [(0, .ref (aV 10)), (1, .int 1)] := hl
  refine lv_iload_n hx hb dJT_charAt_0 rfl (lv_at hl 1 rfl) ?_
  refine lv_aload_n hx hb dJT_charAt_1 rfl (lv_at hl 0 rfl) ?_
  refine va_tlen (v := 4) hx hb (hZ.2.2.2.2.2.2.2.2.2.1.1 10 (by decide)).2.2.2 hS rfl dJT_charAt_2 ?_
  obtain ⟨hPc, hDc, hFc⟩ := xcut (wc := []) hP hD hS hA [] rfl rfl (by decide)
  refine va_callv (va_runS (As := [.int 1, .int 4]) (rest := []) ⟨hx, hb, hml, hown, htx⟩ (cJS_checkIndex_1 l hl9 D cT aK aV s.heap.size) ⟨callB_of 2 htx (xw_goodC kw_2_90) rfl rfl rfl (htx _ kw_1_6) (htx _ kw_2_88) ⟨by decide, by decide, by decide +kernel⟩ ⟨Nat.le_of_ble_eq_true rfl, Nat.le_of_ble_eq_true rfl⟩, htx _ kw_2_89⟩ ⟨xPre_blind, (fun U hU hW => ⟨rfl, xPre_of hZ hS hFc hPc hDc hK U hU hW⟩)⟩ rfl rfl hl.1 rfl (lv_room (Nat.le_of_ble_eq_true rfl)) dJT_charAt_3 ⟨Nat.le_of_ble_eq_true rfl, Nat.le_of_ble_eq_true rfl⟩) hS (fun q _ h => hFc q h) hFc (fun u9 t H1 locs ht hvm hr9 hB hz1 hk1 hS => ?_)
  obtain ⟨hP1, hK1, hD1⟩ := hB
  rw [ht] at hP1
  obtain ⟨hP, hD⟩ := xjoin (W := []) hP hD [] [] 0 rfl rfl (by decide) (by decide) hk1 hFc hP1 hD1
  generalize H1 = H at hP hS ⊢
  refine lv_aload_n hx hb dJT_charAt_6 rfl (lv_at hl 0 rfl) ?_
  refine lv_iload_n hx hb dJT_charAt_7 rfl (lv_at hl 1 rfl) ?_
  refine va_tb (v := .int 117) hx hb (hZ.2.2.2.2.2.2.2.2.2.1.1 10 (by decide)).2.2.2 hS (show ¬ ((1 : Int32) < 0 ∨ 4 ≤ (1 : Int32).toNatClampNeg) by decide) rfl dJT_charAt_8 ?_
  refine lv_sipush (v := 255) hx hb dJT_charAt_9 (by decide) ?_
  refine lv_iand hx hb dJT_charAt_12 ?_
  refine W.eq (g2 := F0 m 13 ls [.int 117]) rfl ?_
  refine lv_i2c hx hb dJT_charAt_13 rfl ?_
  refine W.eq (g2 := F0 m 14 ls [.int 117]) rfl ?_
  obtain ⟨hP9, hD9⟩ := xsub (wc := []) hP hD [] rfl rfl (by decide)
  refine W.widen (k := 0) (n := 0) (Nat.le_of_ble_eq_true rfl) (Nat.le_of_ble_eq_true rfl) ?_
  exact W.zret (v := 117) hx hb hr rfl (fun t ht hW => ⟨⟨117, (), rfl, rfl, by rw [ht]; exact hP9, va_K.moved hW.alike hK, hD9⟩, hS.F ht⟩) hS.2.2 dJT_charAt_14
set_option maxHeartbeats 400000000 in
set_option maxRecDepth 100000 in
theorem cJS_charAt_1 (l : Launch) (hl9 : l.stackTraces = false) (D : va_G) (cT : Nat → ClassId) (aK aV : Nat → Nat) (sz : Nat) : xMet l yJS_charAt wyJS_charAt 3 0 0 64 D cT aK aV sz [.ref (aK 10), .int 1] [] (fun A => va_Qi (fun (r : Int32) (_ : Unit) => r = 117) (fun _ t => xB D xcl cT A [] t) A) := by
  refine Met.ofW (cc := prog_23_method_56_code) (maxL := 2) (ret := (some .char)) (by decide) rfl ?_
  intro p e s m args below meth c s₁ B hml hv
  obtain ⟨rfl, hsz, hZ, hP, hK, hD0⟩ := hv
  have hx := B.exec
  have hb := B.bytes
  have hr := B.returns
  have hts := atoms_spec (ws := wyJS_charAt) B.pre
  have htx := fun w h => hts w (List.mem_cons_of_mem _ h)
  have hown : s.vm.findClass "java/lang/String" = some m.cls := findClass_of_methodNamed B.named
  have hlocks := B.notSynchronized
  subst hsz
  have hD := hD0.self (sz := s.heap.size)
  generalize hAe : va_A [] s.heap.size = A at hD hZ ⊢
  have hA : ∀ q : Nat, s.heap.size ≤ q → A q := fun q h => by rw [← hAe]; exact Or.inr h
  have hS : va_S A s.heap s.heap [] := va_S.rf
  have hP : va_P D xcl [] s.heap := hP
  have hl := lv_entry ([.ref (aK 10), .int 1]) (n := 2) (Nat.le_of_ble_eq_true rfl)
  rw [lg_entry_eq]
  generalize (lg_sl ([.ref (aK 10), .int 1]) ++ List.replicate (2 - (lg_sl ([.ref (aK 10), .int 1])).length) Slot.unset).toArray = ls at hl ⊢
  have hl : lv_has ls 2 [(0, .ref (aK 10)), (1, .int 1)] := hl
  refine lv_aload_n hx hb dJS_charAt_0 rfl (lv_at hl 0 rfl) ?_
  obtain ⟨hPc, hDc, hFc⟩ := xcut (wc := []) hP hD hS hA [] rfl rfl (by decide)
  refine va_calli (va_runV (C := "java/lang/String") (As := []) (rest := []) ⟨hx, hb, hml, hown, htx⟩ (cJS_isLatin1_0 l hl9 D cT aK aV s.heap.size) ⟨callB_of 0 htx (xw_goodC kw_2_84) rfl rfl rfl (htx _ kw_1_6) (htx _ kw_2_81) ⟨by decide, by decide, by decide +kernel⟩ ⟨Nat.le_of_ble_eq_true rfl, Nat.le_of_ble_eq_true rfl⟩, (htx _ kw_2_82), (htx _ kw_2_83)⟩ ⟨xPre_blind, vk_recv hZ.2.2.2.2.2.2.2.2.2.1 (i := 10) (by decide) hS, (fun U hU hW => ⟨rfl, xPre_of hZ hS hFc hPc hDc hK U hU hW⟩)⟩ rfl rfl hl.1 rfl (lv_room (Nat.le_of_ble_eq_true rfl)) dJS_charAt_1 ⟨Nat.le_of_ble_eq_true rfl, Nat.le_of_ble_eq_true rfl⟩) hS (fun q _ h => hFc q h) hFc (fun r1 u9 t H1 locs ht hvm hr9 hB hz1 hk1 hS => ?_)
  obtain ⟨hP1, hK1, hD1⟩ := hB
  rw [ht] at hP1
  obtain ⟨hP, hD⟩ := xjoin (W := []) hP hD [] [] 0 rfl rfl (by decide) (by decide) hk1 hFc hP1 hD1
  generalize H1 = H at hP hS ⊢
  rw [hr9]
  refine W.eq (g2 := F0 m 4 ls [.int 1]) rfl ?_
  refine lv_if_eq (tgt := 16) hx hb dJS_charAt_4 (by decide) (fun h => ((by revert h; decide : False)).elim) (fun _ => ?_)
  refine lv_aload_n hx hb dJS_charAt_7 rfl (lv_at hl 0 rfl) ?_
  refine vk_getf (o := "java/lang/String") (n := "value") (d := "[B") (v := .ref (aV 10)) hx hb (hZ.2.2.2.2.2.2.2.2.2.1.1 10 (by decide)).2.2.1 hS hown (htx _ kw_7_134) (fun _ h9 => h9) dJS_charAt_8 ?_
  refine lv_iload_n hx hb dJS_charAt_11 rfl (lv_at hl 1 rfl) ?_
  obtain ⟨hPc, hDc, hFc⟩ := xcut (wc := []) hP hD hS hA [] rfl rfl (by decide)
  refine va_calli (va_runS (As := [.ref (aV 10), .int 1]) (rest := []) ⟨hx, hb, hml, hown, htx⟩ (cJT_charAt_1 l hl9 D cT aK aV H.size) ⟨callB_of 2 htx (xw_goodC kw_2_87) rfl rfl rfl (htx _ kw_1_7) (htx _ kw_2_85) ⟨by decide, by decide, by decide +kernel⟩ ⟨Nat.le_of_ble_eq_true rfl, Nat.le_of_ble_eq_true rfl⟩, htx _ kw_2_86⟩ ⟨xPre_blind, (fun U hU hW => ⟨rfl, xPre_of hZ hS hFc hPc hDc hK U hU hW⟩)⟩ rfl rfl hl.1 rfl (lv_room (Nat.le_of_ble_eq_true rfl)) dJS_charAt_12 ⟨Nat.le_of_ble_eq_true rfl, Nat.le_of_ble_eq_true rfl⟩) hS (fun q _ h => hFc q h) hFc (fun r2 u9 t H1 locs ht hvm hr9 hB hz1 hk1 hS => ?_)
  obtain ⟨hP1, hK1, hD1⟩ := hB
  rw [ht] at hP1
  obtain ⟨hP, hD⟩ := xjoin (W := []) hP hD [] [] 0 rfl rfl (by decide) (by decide) hk1 hFc hP1 hD1
  generalize H1 = H at hP hS ⊢
  rw [hr9]
  refine W.eq (g2 := F0 m 15 ls [.int 117]) rfl ?_
  obtain ⟨hP9, hD9⟩ := xsub (wc := []) hP hD [] rfl rfl (by decide)
  refine W.widen (k := 0) (n := 0) (Nat.le_of_ble_eq_true rfl) (Nat.le_of_ble_eq_true rfl) ?_
  exact W.zret (v := 117) hx hb hr rfl (fun t ht hW => ⟨⟨117, (), rfl, rfl, by rw [ht]; exact hP9, va_K.moved hW.alike hK, hD9⟩, hS.F ht⟩) hS.2.2 dJS_charAt_15
set_option maxHeartbeats 400000000 in
set_option maxRecDepth 100000 in
theorem cJP_checkIndex_4 (l : Launch) (hl9 : l.stackTraces = false) (D : va_G) (cT : Nat → ClassId) (aK aV : Nat → Nat) (sz : Nat) : xMet l yJP_checkIndex wyJP_checkIndex 0 0 0 0 D cT aK aV sz [.int 2, .int 4, .null] [] (fun A => va_Qi (fun (r : Int32) (_ : Unit) => r = 2) (fun _ t => xB D xcl cT A [] t) A) := by
  refine Met.ofW (cc := prog_29_method_11_code) (maxL := 3) (ret := (some .int)) (by decide) rfl ?_
  intro p e s m args below meth c s₁ B hml hv
  obtain ⟨rfl, hsz, hZ, hP, hK, hD0⟩ := hv
  have hx := B.exec
  have hb := B.bytes
  have hr := B.returns
  have hts := atoms_spec (ws := wyJP_checkIndex) B.pre
  have htx := fun w h => hts w (List.mem_cons_of_mem _ h)
  have hown : s.vm.findClass "jdk/internal/util/Preconditions" = some m.cls := findClass_of_methodNamed B.named
  have hlocks := B.notSynchronized
  subst hsz
  have hD := hD0.self (sz := s.heap.size)
  generalize hAe : va_A [] s.heap.size = A at hD hZ ⊢
  have hA : ∀ q : Nat, s.heap.size ≤ q → A q := fun q h => by rw [← hAe]; exact Or.inr h
  have hS : va_S A s.heap s.heap [] := va_S.rf
  have hP : va_P D xcl [] s.heap := hP
  have hl := lv_entry ([.int 2, .int 4, .null]) (n := 3) (Nat.le_of_ble_eq_true rfl)
  rw [lg_entry_eq]
  generalize (lg_sl ([.int 2, .int 4, .null]) ++ List.replicate (3 - (lg_sl ([.int 2, .int 4, .null])).length) Slot.unset).toArray = ls at hl ⊢
  have hl : lv_has ls 3 [(0, .int 2), (1, .int 4), (2, .null)] := hl
  refine lv_iload_n hx hb dJP_checkIndex_0 rfl (lv_at hl 0 rfl) ?_
  refine lv_if_lt (tgt := 9) hx hb dJP_checkIndex_1 (by decide) (fun h => ((by revert h; decide : False)).elim) (fun _ => ?_)
  refine lv_iload_n hx hb dJP_checkIndex_4 rfl (lv_at hl 0 rfl) ?_
  refine lv_iload_n hx hb dJP_checkIndex_5 rfl (lv_at hl 1 rfl) ?_
  refine lv_icmp_lt (tgt := 16) hx hb dJP_checkIndex_6 (by decide) (fun _ => ?_) (fun h => ((by revert h; decide : False)).elim)
  refine lv_iload_n hx hb dJP_checkIndex_16 rfl (lv_at hl 0 rfl) ?_
  obtain ⟨hP9, hD9⟩ := xsub (wc := []) hP hD [] rfl rfl (by decide)
  refine W.widen (k := 0) (n := 0) (Nat.le_of_ble_eq_true rfl) (Nat.le_of_ble_eq_true rfl) ?_
  exact W.iret (v := 2) hx hb hr (fun t ht hW => ⟨⟨2, (), rfl, rfl, by rw [ht]; exact hP9, va_K.moved hW.alike hK, hD9⟩, hS.F ht⟩) hS.2.2 dJP_checkIndex_17
set_option maxHeartbeats 400000000 in
set_option maxRecDepth 100000 in
theorem cJP_checkIndex_5 (l : Launch) (hl9 : l.stackTraces = false) (D : va_G) (cT : Nat → ClassId) (aK aV : Nat → Nat) (sz : Nat) (b0 : Nat) : xMet l yJP_checkIndex wyJP_checkIndex 0 0 0 0 D cT aK aV sz [.int 2, .int 4, .ref b0] [] (fun A => va_Qi (fun (r : Int32) (_ : Unit) => r = 2) (fun _ t => xB D xcl cT A [] t) A) := by
  refine Met.ofW (cc := prog_29_method_11_code) (maxL := 3) (ret := (some .int)) (by decide) rfl ?_
  intro p e s m args below meth c s₁ B hml hv
  obtain ⟨rfl, hsz, hZ, hP, hK, hD0⟩ := hv
  have hx := B.exec
  have hb := B.bytes
  have hr := B.returns
  have hts := atoms_spec (ws := wyJP_checkIndex) B.pre
  have htx := fun w h => hts w (List.mem_cons_of_mem _ h)
  have hown : s.vm.findClass "jdk/internal/util/Preconditions" = some m.cls := findClass_of_methodNamed B.named
  have hlocks := B.notSynchronized
  subst hsz
  have hD := hD0.self (sz := s.heap.size)
  generalize hAe : va_A [] s.heap.size = A at hD hZ ⊢
  have hA : ∀ q : Nat, s.heap.size ≤ q → A q := fun q h => by rw [← hAe]; exact Or.inr h
  have hS : va_S A s.heap s.heap [] := va_S.rf
  have hP : va_P D xcl [] s.heap := hP
  have hl := lv_entry ([.int 2, .int 4, .ref b0]) (n := 3) (Nat.le_of_ble_eq_true rfl)
  rw [lg_entry_eq]
  generalize (lg_sl ([.int 2, .int 4, .ref b0]) ++ List.replicate (3 - (lg_sl ([.int 2, .int 4, .ref b0])).length) Slot.unset).toArray = ls at hl ⊢
  have hl : lv_has ls 3 [(0, .int 2), (1, .int 4), (2, .ref b0)] := hl
  refine lv_iload_n hx hb dJP_checkIndex_0 rfl (lv_at hl 0 rfl) ?_
  refine lv_if_lt (tgt := 9) hx hb dJP_checkIndex_1 (by decide) (fun h => ((by revert h; decide : False)).elim) (fun _ => ?_)
  refine lv_iload_n hx hb dJP_checkIndex_4 rfl (lv_at hl 0 rfl) ?_
  refine lv_iload_n hx hb dJP_checkIndex_5 rfl (lv_at hl 1 rfl) ?_
  refine lv_icmp_lt (tgt := 16) hx hb dJP_checkIndex_6 (by decide) (fun _ => ?_) (fun h => ((by revert h; decide : False)).elim)
  refine lv_iload_n hx hb dJP_checkIndex_16 rfl (lv_at hl 0 rfl) ?_
  obtain ⟨hP9, hD9⟩ := xsub (wc := []) hP hD [] rfl rfl (by decide)
  refine W.widen (k := 0) (n := 0) (Nat.le_of_ble_eq_true rfl) (Nat.le_of_ble_eq_true rfl) ?_
  exact W.iret (v := 2) hx hb hr (fun t ht hW => ⟨⟨2, (), rfl, rfl, by rw [ht]; exact hP9, va_K.moved hW.alike hK, hD9⟩, hS.F ht⟩) hS.2.2 dJP_checkIndex_17
set_option maxHeartbeats 400000000 in
set_option maxRecDepth 100000 in
theorem cJS_checkIndex_2 (l : Launch) (hl9 : l.stackTraces = false) (D : va_G) (cT : Nat → ClassId) (aK aV : Nat → Nat) (sz : Nat) : xMet l yJS_checkIndex wyJS_checkIndex 1 0 0 22 D cT aK aV sz [.int 2, .int 4] [] (fun A => va_Qv (fun _ : Unit => True) (fun _ t => xB D xcl cT A [] t) A) := by
  refine Met.ofW (cc := prog_23_method_155_code) (maxL := 2) (ret := none) (by decide) rfl ?_
  intro p e s m args below meth c s₁ B hml hv
  obtain ⟨rfl, hsz, hZ, hP, hK, hD0⟩ := hv
  have hx := B.exec
  have hb := B.bytes
  have hr := B.returns
  have hts := atoms_spec (ws := wyJS_checkIndex) B.pre
  have htx := fun w h => hts w (List.mem_cons_of_mem _ h)
  have hown : s.vm.findClass "java/lang/String" = some m.cls := findClass_of_methodNamed B.named
  have hlocks := B.notSynchronized
  subst hsz
  have hD := hD0.self (sz := s.heap.size)
  generalize hAe : va_A [] s.heap.size = A at hD hZ ⊢
  have hA : ∀ q : Nat, s.heap.size ≤ q → A q := fun q h => by rw [← hAe]; exact Or.inr h
  have hS : va_S A s.heap s.heap [] := va_S.rf
  have hP : va_P D xcl [] s.heap := hP
  have hl := lv_entry ([.int 2, .int 4]) (n := 2) (Nat.le_of_ble_eq_true rfl)
  rw [lg_entry_eq]
  generalize (lg_sl ([.int 2, .int 4]) ++ List.replicate (2 - (lg_sl ([.int 2, .int 4])).length) Slot.unset).toArray = ls at hl ⊢
  have hl : lv_has ls 2 [(0, .int 2), (1, .int 4)] := hl
  refine lv_iload_n hx hb dJS_checkIndex_0 rfl (lv_at hl 0 rfl) ?_
  refine lv_iload_n hx hb dJS_checkIndex_1 rfl (lv_at hl 1 rfl) ?_
  rcases hZ.2.2.2.2.2.2.2.2.2.2.2.1 with hq9 | ⟨b9, hq9⟩
  · refine va_gets hx hb hq9 hS hown (htx _ kw_2_91) (fun _ h9 => h9) dJS_checkIndex_2 ?_
    obtain ⟨hPc, hDc, hFc⟩ := xcut (wc := []) hP hD hS hA [] rfl rfl (by decide)
    refine va_calli (va_runS (As := [.int 2, .int 4, .null]) (rest := []) ⟨hx, hb, hml, hown, htx⟩ (cJP_checkIndex_4 l hl9 D cT aK aV s.heap.size) ⟨callB_of 3 htx (xw_goodC kw_2_95) rfl rfl rfl (htx _ kw_1_8) (htx _ kw_2_93) ⟨by decide, by decide, by decide +kernel⟩ ⟨Nat.le_of_ble_eq_true rfl, Nat.le_of_ble_eq_true rfl⟩, htx _ kw_2_94⟩ ⟨xPre_blind, (fun U hU hW => ⟨rfl, xPre_of hZ hS hFc hPc hDc hK U hU hW⟩)⟩ rfl rfl hl.1 rfl (lv_room (Nat.le_of_ble_eq_true rfl)) dJS_checkIndex_5 ⟨Nat.le_of_ble_eq_true rfl, Nat.le_of_ble_eq_true rfl⟩) hS (fun q _ h => hFc q h) hFc (fun r1 u9 t H1 locs ht hvm hr9 hB hz1 hk1 hS => ?_)
    obtain ⟨hP1, hK1, hD1⟩ := hB
    rw [ht] at hP1
    obtain ⟨hP, hD⟩ := xjoin (W := []) hP hD [] [] 0 rfl rfl (by decide) (by decide) hk1 hFc hP1 hD1
    generalize H1 = H at hP hS ⊢
    rw [hr9]
    refine W.eq (g2 := F0 m 8 ls [.int 2]) rfl ?_
    refine lv_pop hx hb dJS_checkIndex_8 rfl ?_
    obtain ⟨hP9, hD9⟩ := xsub (wc := []) hP hD [] rfl rfl (by decide)
    refine W.widen (k := 0) (n := 0) (Nat.le_of_ble_eq_true rfl) (Nat.le_of_ble_eq_true rfl) ?_
    exact W.vret hx hb hr (fun t ht hW => ⟨⟨(), rfl, trivial, by rw [ht]; exact hP9, va_K.moved hW.alike hK, hD9⟩, hS.F ht⟩) hS.2.2 dJS_checkIndex_9
  · refine va_gets hx hb hq9 hS hown (htx _ kw_2_91) (fun _ h9 => h9) dJS_checkIndex_2 ?_
    obtain ⟨hPc, hDc, hFc⟩ := xcut (wc := []) hP hD hS hA [] rfl rfl (by decide)
    refine va_calli (va_runS (As := [.int 2, .int 4, .ref b9]) (rest := []) ⟨hx, hb, hml, hown, htx⟩ (cJP_checkIndex_5 l hl9 D cT aK aV s.heap.size b9) ⟨callB_of 3 htx (xw_goodC kw_2_95) rfl rfl rfl (htx _ kw_1_8) (htx _ kw_2_93) ⟨by decide, by decide, by decide +kernel⟩ ⟨Nat.le_of_ble_eq_true rfl, Nat.le_of_ble_eq_true rfl⟩, htx _ kw_2_94⟩ ⟨xPre_blind, (fun U hU hW => ⟨rfl, xPre_of hZ hS hFc hPc hDc hK U hU hW⟩)⟩ rfl rfl hl.1 rfl (lv_room (Nat.le_of_ble_eq_true rfl)) dJS_checkIndex_5 ⟨Nat.le_of_ble_eq_true rfl, Nat.le_of_ble_eq_true rfl⟩) hS (fun q _ h => hFc q h) hFc (fun r1 u9 t H1 locs ht hvm hr9 hB hz1 hk1 hS => ?_)
    obtain ⟨hP1, hK1, hD1⟩ := hB
    rw [ht] at hP1
    obtain ⟨hP, hD⟩ := xjoin (W := []) hP hD [] [] 0 rfl rfl (by decide) (by decide) hk1 hFc hP1 hD1
    generalize H1 = H at hP hS ⊢
    rw [hr9]
    refine W.eq (g2 := F0 m 8 ls [.int 2]) rfl ?_
    refine lv_pop hx hb dJS_checkIndex_8 rfl ?_
    obtain ⟨hP9, hD9⟩ := xsub (wc := []) hP hD [] rfl rfl (by decide)
    refine W.widen (k := 0) (n := 0) (Nat.le_of_ble_eq_true rfl) (Nat.le_of_ble_eq_true rfl) ?_
    exact W.vret hx hb hr (fun t ht hW => ⟨⟨(), rfl, trivial, by rw [ht]; exact hP9, va_K.moved hW.alike hK, hD9⟩, hS.F ht⟩) hS.2.2 dJS_checkIndex_9
set_option maxHeartbeats 400000000 in
set_option maxRecDepth 100000 in
theorem cJT_charAt_2 (l : Launch) (hl9 : l.stackTraces = false) (D : va_G) (cT : Nat → ClassId) (aK aV : Nat → Nat) (sz : Nat) : xMet l yJT_charAt wyJT_charAt 2 0 0 43 D cT aK aV sz [.ref (aV 10), .int 2] [] (fun A => va_Qi (fun (r : Int32) (_ : Unit) => r = 108) (fun _ t => xB D xcl cT A [] t) A) := by
  refine Met.ofW (cc := prog_24_method_2_code) (maxL := 2) (ret := (some .char)) (by decide) rfl ?_
  intro p e s m args below meth c s₁ B hml hv
  obtain ⟨rfl, hsz, hZ, hP, hK, hD0⟩ := hv
  have hx := B.exec
  have hb := B.bytes
  have hr := B.returns
  have hts := atoms_spec (ws := wyJT_charAt) B.pre
  have htx := fun w h => hts w (List.mem_cons_of_mem _ h)
  have hown : s.vm.findClass "java/lang/StringLatin1" = some m.cls := findClass_of_methodNamed B.named
  have hlocks := B.notSynchronized
  subst hsz
  have hD := hD0.self (sz := s.heap.size)
  generalize hAe : va_A [] s.heap.size = A at hD hZ ⊢
  have hA : ∀ q : Nat, s.heap.size ≤ q → A q := fun q h => by rw [← hAe]; exact Or.inr h
  have hS : va_S A s.heap s.heap [] := va_S.rf
  have hP : va_P D xcl [] s.heap := hP
  have hl := lv_entry ([.ref (aV 10), .int 2]) (n := 2) (Nat.le_of_ble_eq_true rfl)
  rw [lg_entry_eq]
  generalize (lg_sl ([.ref (aV 10), .int 2]) ++ List.replicate (2 - (lg_sl ([.ref (aV 10), .int 2])).length) Slot.unset).toArray = ls at hl ⊢
  have hl : lv_has ls 2 [(0, .ref (aV 10)), (1, .int 2)] := hl
  refine lv_iload_n hx hb dJT_charAt_0 rfl (lv_at hl 1 rfl) ?_
  refine lv_aload_n hx hb dJT_charAt_1 rfl (lv_at hl 0 rfl) ?_
  refine va_tlen (v := 4) hx hb (hZ.2.2.2.2.2.2.2.2.2.1.1 10 (by decide)).2.2.2 hS rfl dJT_charAt_2 ?_
  obtain ⟨hPc, hDc, hFc⟩ := xcut (wc := []) hP hD hS hA [] rfl rfl (by decide)
  refine va_callv (va_runS (As := [.int 2, .int 4]) (rest := []) ⟨hx, hb, hml, hown, htx⟩ (cJS_checkIndex_2 l hl9 D cT aK aV s.heap.size) ⟨callB_of 2 htx (xw_goodC kw_2_90) rfl rfl rfl (htx _ kw_1_6) (htx _ kw_2_88) ⟨by decide, by decide, by decide +kernel⟩ ⟨Nat.le_of_ble_eq_true rfl, Nat.le_of_ble_eq_true rfl⟩, htx _ kw_2_89⟩ ⟨xPre_blind, (fun U hU hW => ⟨rfl, xPre_of hZ hS hFc hPc hDc hK U hU hW⟩)⟩ rfl rfl hl.1 rfl (lv_room (Nat.le_of_ble_eq_true rfl)) dJT_charAt_3 ⟨Nat.le_of_ble_eq_true rfl, Nat.le_of_ble_eq_true rfl⟩) hS (fun q _ h => hFc q h) hFc (fun u9 t H1 locs ht hvm hr9 hB hz1 hk1 hS => ?_)
  obtain ⟨hP1, hK1, hD1⟩ := hB
  rw [ht] at hP1
  obtain ⟨hP, hD⟩ := xjoin (W := []) hP hD [] [] 0 rfl rfl (by decide) (by decide) hk1 hFc hP1 hD1
  generalize H1 = H at hP hS ⊢
  refine lv_aload_n hx hb dJT_charAt_6 rfl (lv_at hl 0 rfl) ?_
  refine lv_iload_n hx hb dJT_charAt_7 rfl (lv_at hl 1 rfl) ?_
  refine va_tb (v := .int 108) hx hb (hZ.2.2.2.2.2.2.2.2.2.1.1 10 (by decide)).2.2.2 hS (show ¬ ((2 : Int32) < 0 ∨ 4 ≤ (2 : Int32).toNatClampNeg) by decide) rfl dJT_charAt_8 ?_
  refine lv_sipush (v := 255) hx hb dJT_charAt_9 (by decide) ?_
  refine lv_iand hx hb dJT_charAt_12 ?_
  refine W.eq (g2 := F0 m 13 ls [.int 108]) rfl ?_
  refine lv_i2c hx hb dJT_charAt_13 rfl ?_
  refine W.eq (g2 := F0 m 14 ls [.int 108]) rfl ?_
  obtain ⟨hP9, hD9⟩ := xsub (wc := []) hP hD [] rfl rfl (by decide)
  refine W.widen (k := 0) (n := 0) (Nat.le_of_ble_eq_true rfl) (Nat.le_of_ble_eq_true rfl) ?_
  exact W.zret (v := 108) hx hb hr rfl (fun t ht hW => ⟨⟨108, (), rfl, rfl, by rw [ht]; exact hP9, va_K.moved hW.alike hK, hD9⟩, hS.F ht⟩) hS.2.2 dJT_charAt_14
set_option maxHeartbeats 400000000 in
set_option maxRecDepth 100000 in
theorem cJS_charAt_2 (l : Launch) (hl9 : l.stackTraces = false) (D : va_G) (cT : Nat → ClassId) (aK aV : Nat → Nat) (sz : Nat) : xMet l yJS_charAt wyJS_charAt 3 0 0 64 D cT aK aV sz [.ref (aK 10), .int 2] [] (fun A => va_Qi (fun (r : Int32) (_ : Unit) => r = 108) (fun _ t => xB D xcl cT A [] t) A) := by
  refine Met.ofW (cc := prog_23_method_56_code) (maxL := 2) (ret := (some .char)) (by decide) rfl ?_
  intro p e s m args below meth c s₁ B hml hv
  obtain ⟨rfl, hsz, hZ, hP, hK, hD0⟩ := hv
  have hx := B.exec
  have hb := B.bytes
  have hr := B.returns
  have hts := atoms_spec (ws := wyJS_charAt) B.pre
  have htx := fun w h => hts w (List.mem_cons_of_mem _ h)
  have hown : s.vm.findClass "java/lang/String" = some m.cls := findClass_of_methodNamed B.named
  have hlocks := B.notSynchronized
  subst hsz
  have hD := hD0.self (sz := s.heap.size)
  generalize hAe : va_A [] s.heap.size = A at hD hZ ⊢
  have hA : ∀ q : Nat, s.heap.size ≤ q → A q := fun q h => by rw [← hAe]; exact Or.inr h
  have hS : va_S A s.heap s.heap [] := va_S.rf
  have hP : va_P D xcl [] s.heap := hP
  have hl := lv_entry ([.ref (aK 10), .int 2]) (n := 2) (Nat.le_of_ble_eq_true rfl)
  rw [lg_entry_eq]
  generalize (lg_sl ([.ref (aK 10), .int 2]) ++ List.replicate (2 - (lg_sl ([.ref (aK 10), .int 2])).length) Slot.unset).toArray = ls at hl ⊢
  have hl : lv_has ls 2 [(0, .ref (aK 10)), (1, .int 2)] := hl
  refine lv_aload_n hx hb dJS_charAt_0 rfl (lv_at hl 0 rfl) ?_
  obtain ⟨hPc, hDc, hFc⟩ := xcut (wc := []) hP hD hS hA [] rfl rfl (by decide)
  refine va_calli (va_runV (C := "java/lang/String") (As := []) (rest := []) ⟨hx, hb, hml, hown, htx⟩ (cJS_isLatin1_0 l hl9 D cT aK aV s.heap.size) ⟨callB_of 0 htx (xw_goodC kw_2_84) rfl rfl rfl (htx _ kw_1_6) (htx _ kw_2_81) ⟨by decide, by decide, by decide +kernel⟩ ⟨Nat.le_of_ble_eq_true rfl, Nat.le_of_ble_eq_true rfl⟩, (htx _ kw_2_82), (htx _ kw_2_83)⟩ ⟨xPre_blind, vk_recv hZ.2.2.2.2.2.2.2.2.2.1 (i := 10) (by decide) hS, (fun U hU hW => ⟨rfl, xPre_of hZ hS hFc hPc hDc hK U hU hW⟩)⟩ rfl rfl hl.1 rfl (lv_room (Nat.le_of_ble_eq_true rfl)) dJS_charAt_1 ⟨Nat.le_of_ble_eq_true rfl, Nat.le_of_ble_eq_true rfl⟩) hS (fun q _ h => hFc q h) hFc (fun r1 u9 t H1 locs ht hvm hr9 hB hz1 hk1 hS => ?_)
  obtain ⟨hP1, hK1, hD1⟩ := hB
  rw [ht] at hP1
  obtain ⟨hP, hD⟩ := xjoin (W := []) hP hD [] [] 0 rfl rfl (by decide) (by decide) hk1 hFc hP1 hD1
  generalize H1 = H at hP hS ⊢
  rw [hr9]
  refine W.eq (g2 := F0 m 4 ls [.int 1]) rfl ?_
  refine lv_if_eq (tgt := 16) hx hb dJS_charAt_4 (by decide) (fun h => ((by revert h; decide : False)).elim) (fun _ => ?_)
  refine lv_aload_n hx hb dJS_charAt_7 rfl (lv_at hl 0 rfl) ?_
  refine vk_getf (o := "java/lang/String") (n := "value") (d := "[B") (v := .ref (aV 10)) hx hb (hZ.2.2.2.2.2.2.2.2.2.1.1 10 (by decide)).2.2.1 hS hown (htx _ kw_7_134) (fun _ h9 => h9) dJS_charAt_8 ?_
  refine lv_iload_n hx hb dJS_charAt_11 rfl (lv_at hl 1 rfl) ?_
  obtain ⟨hPc, hDc, hFc⟩ := xcut (wc := []) hP hD hS hA [] rfl rfl (by decide)
  refine va_calli (va_runS (As := [.ref (aV 10), .int 2]) (rest := []) ⟨hx, hb, hml, hown, htx⟩ (cJT_charAt_2 l hl9 D cT aK aV H.size) ⟨callB_of 2 htx (xw_goodC kw_2_87) rfl rfl rfl (htx _ kw_1_7) (htx _ kw_2_85) ⟨by decide, by decide, by decide +kernel⟩ ⟨Nat.le_of_ble_eq_true rfl, Nat.le_of_ble_eq_true rfl⟩, htx _ kw_2_86⟩ ⟨xPre_blind, (fun U hU hW => ⟨rfl, xPre_of hZ hS hFc hPc hDc hK U hU hW⟩)⟩ rfl rfl hl.1 rfl (lv_room (Nat.le_of_ble_eq_true rfl)) dJS_charAt_12 ⟨Nat.le_of_ble_eq_true rfl, Nat.le_of_ble_eq_true rfl⟩) hS (fun q _ h => hFc q h) hFc (fun r2 u9 t H1 locs ht hvm hr9 hB hz1 hk1 hS => ?_)
  obtain ⟨hP1, hK1, hD1⟩ := hB
  rw [ht] at hP1
  obtain ⟨hP, hD⟩ := xjoin (W := []) hP hD [] [] 0 rfl rfl (by decide) (by decide) hk1 hFc hP1 hD1
  generalize H1 = H at hP hS ⊢
  rw [hr9]
  refine W.eq (g2 := F0 m 15 ls [.int 108]) rfl ?_
  obtain ⟨hP9, hD9⟩ := xsub (wc := []) hP hD [] rfl rfl (by decide)
  refine W.widen (k := 0) (n := 0) (Nat.le_of_ble_eq_true rfl) (Nat.le_of_ble_eq_true rfl) ?_
  exact W.zret (v := 108) hx hb hr rfl (fun t ht hW => ⟨⟨108, (), rfl, rfl, by rw [ht]; exact hP9, va_K.moved hW.alike hK, hD9⟩, hS.F ht⟩) hS.2.2 dJS_charAt_15
set_option maxHeartbeats 400000000 in
set_option maxRecDepth 100000 in
theorem cJP_checkIndex_6 (l : Launch) (hl9 : l.stackTraces = false) (D : va_G) (cT : Nat → ClassId) (aK aV : Nat → Nat) (sz : Nat) : xMet l yJP_checkIndex wyJP_checkIndex 0 0 0 0 D cT aK aV sz [.int 3, .int 4, .null] [] (fun A => va_Qi (fun (r : Int32) (_ : Unit) => r = 3) (fun _ t => xB D xcl cT A [] t) A) := by
  refine Met.ofW (cc := prog_29_method_11_code) (maxL := 3) (ret := (some .int)) (by decide) rfl ?_
  intro p e s m args below meth c s₁ B hml hv
  obtain ⟨rfl, hsz, hZ, hP, hK, hD0⟩ := hv
  have hx := B.exec
  have hb := B.bytes
  have hr := B.returns
  have hts := atoms_spec (ws := wyJP_checkIndex) B.pre
  have htx := fun w h => hts w (List.mem_cons_of_mem _ h)
  have hown : s.vm.findClass "jdk/internal/util/Preconditions" = some m.cls := findClass_of_methodNamed B.named
  have hlocks := B.notSynchronized
  subst hsz
  have hD := hD0.self (sz := s.heap.size)
  generalize hAe : va_A [] s.heap.size = A at hD hZ ⊢
  have hA : ∀ q : Nat, s.heap.size ≤ q → A q := fun q h => by rw [← hAe]; exact Or.inr h
  have hS : va_S A s.heap s.heap [] := va_S.rf
  have hP : va_P D xcl [] s.heap := hP
  have hl := lv_entry ([.int 3, .int 4, .null]) (n := 3) (Nat.le_of_ble_eq_true rfl)
  rw [lg_entry_eq]
  generalize (lg_sl ([.int 3, .int 4, .null]) ++ List.replicate (3 - (lg_sl ([.int 3, .int 4, .null])).length) Slot.unset).toArray = ls at hl ⊢
  have hl : lv_has ls 3 [(0, .int 3), (1, .int 4), (2, .null)] := hl
  refine lv_iload_n hx hb dJP_checkIndex_0 rfl (lv_at hl 0 rfl) ?_
  refine lv_if_lt (tgt := 9) hx hb dJP_checkIndex_1 (by decide) (fun h => ((by revert h; decide : False)).elim) (fun _ => ?_)
  refine lv_iload_n hx hb dJP_checkIndex_4 rfl (lv_at hl 0 rfl) ?_
  refine lv_iload_n hx hb dJP_checkIndex_5 rfl (lv_at hl 1 rfl) ?_
  refine lv_icmp_lt (tgt := 16) hx hb dJP_checkIndex_6 (by decide) (fun _ => ?_) (fun h => ((by revert h; decide : False)).elim)
  refine lv_iload_n hx hb dJP_checkIndex_16 rfl (lv_at hl 0 rfl) ?_
  obtain ⟨hP9, hD9⟩ := xsub (wc := []) hP hD [] rfl rfl (by decide)
  refine W.widen (k := 0) (n := 0) (Nat.le_of_ble_eq_true rfl) (Nat.le_of_ble_eq_true rfl) ?_
  exact W.iret (v := 3) hx hb hr (fun t ht hW => ⟨⟨3, (), rfl, rfl, by rw [ht]; exact hP9, va_K.moved hW.alike hK, hD9⟩, hS.F ht⟩) hS.2.2 dJP_checkIndex_17
set_option maxHeartbeats 400000000 in
set_option maxRecDepth 100000 in
theorem cJP_checkIndex_7 (l : Launch) (hl9 : l.stackTraces = false) (D : va_G) (cT : Nat → ClassId) (aK aV : Nat → Nat) (sz : Nat) (b0 : Nat) : xMet l yJP_checkIndex wyJP_checkIndex 0 0 0 0 D cT aK aV sz [.int 3, .int 4, .ref b0] [] (fun A => va_Qi (fun (r : Int32) (_ : Unit) => r = 3) (fun _ t => xB D xcl cT A [] t) A) := by
  refine Met.ofW (cc := prog_29_method_11_code) (maxL := 3) (ret := (some .int)) (by decide) rfl ?_
  intro p e s m args below meth c s₁ B hml hv
  obtain ⟨rfl, hsz, hZ, hP, hK, hD0⟩ := hv
  have hx := B.exec
  have hb := B.bytes
  have hr := B.returns
  have hts := atoms_spec (ws := wyJP_checkIndex) B.pre
  have htx := fun w h => hts w (List.mem_cons_of_mem _ h)
  have hown : s.vm.findClass "jdk/internal/util/Preconditions" = some m.cls := findClass_of_methodNamed B.named
  have hlocks := B.notSynchronized
  subst hsz
  have hD := hD0.self (sz := s.heap.size)
  generalize hAe : va_A [] s.heap.size = A at hD hZ ⊢
  have hA : ∀ q : Nat, s.heap.size ≤ q → A q := fun q h => by rw [← hAe]; exact Or.inr h
  have hS : va_S A s.heap s.heap [] := va_S.rf
  have hP : va_P D xcl [] s.heap := hP
  have hl := lv_entry ([.int 3, .int 4, .ref b0]) (n := 3) (Nat.le_of_ble_eq_true rfl)
  rw [lg_entry_eq]
  generalize (lg_sl ([.int 3, .int 4, .ref b0]) ++ List.replicate (3 - (lg_sl ([.int 3, .int 4, .ref b0])).length) Slot.unset).toArray = ls at hl ⊢
  have hl : lv_has ls 3 [(0, .int 3), (1, .int 4), (2, .ref b0)] := hl
  refine lv_iload_n hx hb dJP_checkIndex_0 rfl (lv_at hl 0 rfl) ?_
  refine lv_if_lt (tgt := 9) hx hb dJP_checkIndex_1 (by decide) (fun h => ((by revert h; decide : False)).elim) (fun _ => ?_)
  refine lv_iload_n hx hb dJP_checkIndex_4 rfl (lv_at hl 0 rfl) ?_
  refine lv_iload_n hx hb dJP_checkIndex_5 rfl (lv_at hl 1 rfl) ?_
  refine lv_icmp_lt (tgt := 16) hx hb dJP_checkIndex_6 (by decide) (fun _ => ?_) (fun h => ((by revert h; decide : False)).elim)
  refine lv_iload_n hx hb dJP_checkIndex_16 rfl (lv_at hl 0 rfl) ?_
  obtain ⟨hP9, hD9⟩ := xsub (wc := []) hP hD [] rfl rfl (by decide)
  refine W.widen (k := 0) (n := 0) (Nat.le_of_ble_eq_true rfl) (Nat.le_of_ble_eq_true rfl) ?_
  exact W.iret (v := 3) hx hb hr (fun t ht hW => ⟨⟨3, (), rfl, rfl, by rw [ht]; exact hP9, va_K.moved hW.alike hK, hD9⟩, hS.F ht⟩) hS.2.2 dJP_checkIndex_17
set_option maxHeartbeats 400000000 in
set_option maxRecDepth 100000 in
theorem cJS_checkIndex_3 (l : Launch) (hl9 : l.stackTraces = false) (D : va_G) (cT : Nat → ClassId) (aK aV : Nat → Nat) (sz : Nat) : xMet l yJS_checkIndex wyJS_checkIndex 1 0 0 22 D cT aK aV sz [.int 3, .int 4] [] (fun A => va_Qv (fun _ : Unit => True) (fun _ t => xB D xcl cT A [] t) A) := by
  refine Met.ofW (cc := prog_23_method_155_code) (maxL := 2) (ret := none) (by decide) rfl ?_
  intro p e s m args below meth c s₁ B hml hv
  obtain ⟨rfl, hsz, hZ, hP, hK, hD0⟩ := hv
  have hx := B.exec
  have hb := B.bytes
  have hr := B.returns
  have hts := atoms_spec (ws := wyJS_checkIndex) B.pre
  have htx := fun w h => hts w (List.mem_cons_of_mem _ h)
  have hown : s.vm.findClass "java/lang/String" = some m.cls := findClass_of_methodNamed B.named
  have hlocks := B.notSynchronized
  subst hsz
  have hD := hD0.self (sz := s.heap.size)
  generalize hAe : va_A [] s.heap.size = A at hD hZ ⊢
  have hA : ∀ q : Nat, s.heap.size ≤ q → A q := fun q h => by rw [← hAe]; exact Or.inr h
  have hS : va_S A s.heap s.heap [] := va_S.rf
  have hP : va_P D xcl [] s.heap := hP
  have hl := lv_entry ([.int 3, .int 4]) (n := 2) (Nat.le_of_ble_eq_true rfl)
  rw [lg_entry_eq]
  generalize (lg_sl ([.int 3, .int 4]) ++ List.replicate (2 - (lg_sl ([.int 3, .int 4])).length) Slot.unset).toArray = ls at hl ⊢
  have hl : lv_has ls 2 [(0, .int 3), (1, .int 4)] := hl
  refine lv_iload_n hx hb dJS_checkIndex_0 rfl (lv_at hl 0 rfl) ?_
  refine lv_iload_n hx hb dJS_checkIndex_1 rfl (lv_at hl 1 rfl) ?_
  rcases hZ.2.2.2.2.2.2.2.2.2.2.2.1 with hq9 | ⟨b9, hq9⟩
  · refine va_gets hx hb hq9 hS hown (htx _ kw_2_91) (fun _ h9 => h9) dJS_checkIndex_2 ?_
    obtain ⟨hPc, hDc, hFc⟩ := xcut (wc := []) hP hD hS hA [] rfl rfl (by decide)
    refine va_calli (va_runS (As := [.int 3, .int 4, .null]) (rest := []) ⟨hx, hb, hml, hown, htx⟩ (cJP_checkIndex_6 l hl9 D cT aK aV s.heap.size) ⟨callB_of 3 htx (xw_goodC kw_2_95) rfl rfl rfl (htx _ kw_1_8) (htx _ kw_2_93) ⟨by decide, by decide, by decide +kernel⟩ ⟨Nat.le_of_ble_eq_true rfl, Nat.le_of_ble_eq_true rfl⟩, htx _ kw_2_94⟩ ⟨xPre_blind, (fun U hU hW => ⟨rfl, xPre_of hZ hS hFc hPc hDc hK U hU hW⟩)⟩ rfl rfl hl.1 rfl (lv_room (Nat.le_of_ble_eq_true rfl)) dJS_checkIndex_5 ⟨Nat.le_of_ble_eq_true rfl, Nat.le_of_ble_eq_true rfl⟩) hS (fun q _ h => hFc q h) hFc (fun r1 u9 t H1 locs ht hvm hr9 hB hz1 hk1 hS => ?_)
    obtain ⟨hP1, hK1, hD1⟩ := hB
    rw [ht] at hP1
    obtain ⟨hP, hD⟩ := xjoin (W := []) hP hD [] [] 0 rfl rfl (by decide) (by decide) hk1 hFc hP1 hD1
    generalize H1 = H at hP hS ⊢
    rw [hr9]
    refine W.eq (g2 := F0 m 8 ls [.int 3]) rfl ?_
    refine lv_pop hx hb dJS_checkIndex_8 rfl ?_
    obtain ⟨hP9, hD9⟩ := xsub (wc := []) hP hD [] rfl rfl (by decide)
    refine W.widen (k := 0) (n := 0) (Nat.le_of_ble_eq_true rfl) (Nat.le_of_ble_eq_true rfl) ?_
    exact W.vret hx hb hr (fun t ht hW => ⟨⟨(), rfl, trivial, by rw [ht]; exact hP9, va_K.moved hW.alike hK, hD9⟩, hS.F ht⟩) hS.2.2 dJS_checkIndex_9
  · refine va_gets hx hb hq9 hS hown (htx _ kw_2_91) (fun _ h9 => h9) dJS_checkIndex_2 ?_
    obtain ⟨hPc, hDc, hFc⟩ := xcut (wc := []) hP hD hS hA [] rfl rfl (by decide)
    refine va_calli (va_runS (As := [.int 3, .int 4, .ref b9]) (rest := []) ⟨hx, hb, hml, hown, htx⟩ (cJP_checkIndex_7 l hl9 D cT aK aV s.heap.size b9) ⟨callB_of 3 htx (xw_goodC kw_2_95) rfl rfl rfl (htx _ kw_1_8) (htx _ kw_2_93) ⟨by decide, by decide, by decide +kernel⟩ ⟨Nat.le_of_ble_eq_true rfl, Nat.le_of_ble_eq_true rfl⟩, htx _ kw_2_94⟩ ⟨xPre_blind, (fun U hU hW => ⟨rfl, xPre_of hZ hS hFc hPc hDc hK U hU hW⟩)⟩ rfl rfl hl.1 rfl (lv_room (Nat.le_of_ble_eq_true rfl)) dJS_checkIndex_5 ⟨Nat.le_of_ble_eq_true rfl, Nat.le_of_ble_eq_true rfl⟩) hS (fun q _ h => hFc q h) hFc (fun r1 u9 t H1 locs ht hvm hr9 hB hz1 hk1 hS => ?_)
    obtain ⟨hP1, hK1, hD1⟩ := hB
    rw [ht] at hP1
    obtain ⟨hP, hD⟩ := xjoin (W := []) hP hD [] [] 0 rfl rfl (by decide) (by decide) hk1 hFc hP1 hD1
    generalize H1 = H at hP hS ⊢
    rw [hr9]
    refine W.eq (g2 := F0 m 8 ls [.int 3]) rfl ?_
    refine lv_pop hx hb dJS_checkIndex_8 rfl ?_
    obtain ⟨hP9, hD9⟩ := xsub (wc := []) hP hD [] rfl rfl (by decide)
    refine W.widen (k := 0) (n := 0) (Nat.le_of_ble_eq_true rfl) (Nat.le_of_ble_eq_true rfl) ?_
    exact W.vret hx hb hr (fun t ht hW => ⟨⟨(), rfl, trivial, by rw [ht]; exact hP9, va_K.moved hW.alike hK, hD9⟩, hS.F ht⟩) hS.2.2 dJS_checkIndex_9
set_option maxHeartbeats 400000000 in
set_option maxRecDepth 100000 in
theorem cJT_charAt_3 (l : Launch) (hl9 : l.stackTraces = false) (D : va_G) (cT : Nat → ClassId) (aK aV : Nat → Nat) (sz : Nat) : xMet l yJT_charAt wyJT_charAt 2 0 0 43 D cT aK aV sz [.ref (aV 10), .int 3] [] (fun A => va_Qi (fun (r : Int32) (_ : Unit) => r = 108) (fun _ t => xB D xcl cT A [] t) A) := by
  refine Met.ofW (cc := prog_24_method_2_code) (maxL := 2) (ret := (some .char)) (by decide) rfl ?_
  intro p e s m args below meth c s₁ B hml hv
  obtain ⟨rfl, hsz, hZ, hP, hK, hD0⟩ := hv
  have hx := B.exec
  have hb := B.bytes
  have hr := B.returns
  have hts := atoms_spec (ws := wyJT_charAt) B.pre
  have htx := fun w h => hts w (List.mem_cons_of_mem _ h)
  have hown : s.vm.findClass "java/lang/StringLatin1" = some m.cls := findClass_of_methodNamed B.named
  have hlocks := B.notSynchronized
  subst hsz
  have hD := hD0.self (sz := s.heap.size)
  generalize hAe : va_A [] s.heap.size = A at hD hZ ⊢
  have hA : ∀ q : Nat, s.heap.size ≤ q → A q := fun q h => by rw [← hAe]; exact Or.inr h
  have hS : va_S A s.heap s.heap [] := va_S.rf
  have hP : va_P D xcl [] s.heap := hP
  have hl := lv_entry ([.ref (aV 10), .int 3]) (n := 2) (Nat.le_of_ble_eq_true rfl)
  rw [lg_entry_eq]
  generalize (lg_sl ([.ref (aV 10), .int 3]) ++ List.replicate (2 - (lg_sl ([.ref (aV 10), .int 3])).length) Slot.unset).toArray = ls at hl ⊢
  have hl : lv_has ls 2 [(0, .ref (aV 10)), (1, .int 3)] := hl
  refine lv_iload_n hx hb dJT_charAt_0 rfl (lv_at hl 1 rfl) ?_
  refine lv_aload_n hx hb dJT_charAt_1 rfl (lv_at hl 0 rfl) ?_
  refine va_tlen (v := 4) hx hb (hZ.2.2.2.2.2.2.2.2.2.1.1 10 (by decide)).2.2.2 hS rfl dJT_charAt_2 ?_
  obtain ⟨hPc, hDc, hFc⟩ := xcut (wc := []) hP hD hS hA [] rfl rfl (by decide)
  refine va_callv (va_runS (As := [.int 3, .int 4]) (rest := []) ⟨hx, hb, hml, hown, htx⟩ (cJS_checkIndex_3 l hl9 D cT aK aV s.heap.size) ⟨callB_of 2 htx (xw_goodC kw_2_90) rfl rfl rfl (htx _ kw_1_6) (htx _ kw_2_88) ⟨by decide, by decide, by decide +kernel⟩ ⟨Nat.le_of_ble_eq_true rfl, Nat.le_of_ble_eq_true rfl⟩, htx _ kw_2_89⟩ ⟨xPre_blind, (fun U hU hW => ⟨rfl, xPre_of hZ hS hFc hPc hDc hK U hU hW⟩)⟩ rfl rfl hl.1 rfl (lv_room (Nat.le_of_ble_eq_true rfl)) dJT_charAt_3 ⟨Nat.le_of_ble_eq_true rfl, Nat.le_of_ble_eq_true rfl⟩) hS (fun q _ h => hFc q h) hFc (fun u9 t H1 locs ht hvm hr9 hB hz1 hk1 hS => ?_)
  obtain ⟨hP1, hK1, hD1⟩ := hB
  rw [ht] at hP1
  obtain ⟨hP, hD⟩ := xjoin (W := []) hP hD [] [] 0 rfl rfl (by decide) (by decide) hk1 hFc hP1 hD1
  generalize H1 = H at hP hS ⊢
  refine lv_aload_n hx hb dJT_charAt_6 rfl (lv_at hl 0 rfl) ?_
  refine lv_iload_n hx hb dJT_charAt_7 rfl (lv_at hl 1 rfl) ?_
  refine va_tb (v := .int 108) hx hb (hZ.2.2.2.2.2.2.2.2.2.1.1 10 (by decide)).2.2.2 hS (show ¬ ((3 : Int32) < 0 ∨ 4 ≤ (3 : Int32).toNatClampNeg) by decide) rfl dJT_charAt_8 ?_
  refine lv_sipush (v := 255) hx hb dJT_charAt_9 (by decide) ?_
  refine lv_iand hx hb dJT_charAt_12 ?_
  refine W.eq (g2 := F0 m 13 ls [.int 108]) rfl ?_
  refine lv_i2c hx hb dJT_charAt_13 rfl ?_
  refine W.eq (g2 := F0 m 14 ls [.int 108]) rfl ?_
  obtain ⟨hP9, hD9⟩ := xsub (wc := []) hP hD [] rfl rfl (by decide)
  refine W.widen (k := 0) (n := 0) (Nat.le_of_ble_eq_true rfl) (Nat.le_of_ble_eq_true rfl) ?_
  exact W.zret (v := 108) hx hb hr rfl (fun t ht hW => ⟨⟨108, (), rfl, rfl, by rw [ht]; exact hP9, va_K.moved hW.alike hK, hD9⟩, hS.F ht⟩) hS.2.2 dJT_charAt_14
set_option maxHeartbeats 400000000 in
set_option maxRecDepth 100000 in
theorem cJS_charAt_3 (l : Launch) (hl9 : l.stackTraces = false) (D : va_G) (cT : Nat → ClassId) (aK aV : Nat → Nat) (sz : Nat) : xMet l yJS_charAt wyJS_charAt 3 0 0 64 D cT aK aV sz [.ref (aK 10), .int 3] [] (fun A => va_Qi (fun (r : Int32) (_ : Unit) => r = 108) (fun _ t => xB D xcl cT A [] t) A) := by
  refine Met.ofW (cc := prog_23_method_56_code) (maxL := 2) (ret := (some .char)) (by decide) rfl ?_
  intro p e s m args below meth c s₁ B hml hv
  obtain ⟨rfl, hsz, hZ, hP, hK, hD0⟩ := hv
  have hx := B.exec
  have hb := B.bytes
  have hr := B.returns
  have hts := atoms_spec (ws := wyJS_charAt) B.pre
  have htx := fun w h => hts w (List.mem_cons_of_mem _ h)
  have hown : s.vm.findClass "java/lang/String" = some m.cls := findClass_of_methodNamed B.named
  have hlocks := B.notSynchronized
  subst hsz
  have hD := hD0.self (sz := s.heap.size)
  generalize hAe : va_A [] s.heap.size = A at hD hZ ⊢
  have hA : ∀ q : Nat, s.heap.size ≤ q → A q := fun q h => by rw [← hAe]; exact Or.inr h
  have hS : va_S A s.heap s.heap [] := va_S.rf
  have hP : va_P D xcl [] s.heap := hP
  have hl := lv_entry ([.ref (aK 10), .int 3]) (n := 2) (Nat.le_of_ble_eq_true rfl)
  rw [lg_entry_eq]
  generalize (lg_sl ([.ref (aK 10), .int 3]) ++ List.replicate (2 - (lg_sl ([.ref (aK 10), .int 3])).length) Slot.unset).toArray = ls at hl ⊢
  have hl : lv_has ls 2 [(0, .ref (aK 10)), (1, .int 3)] := hl
  refine lv_aload_n hx hb dJS_charAt_0 rfl (lv_at hl 0 rfl) ?_
  obtain ⟨hPc, hDc, hFc⟩ := xcut (wc := []) hP hD hS hA [] rfl rfl (by decide)
  refine va_calli (va_runV (C := "java/lang/String") (As := []) (rest := []) ⟨hx, hb, hml, hown, htx⟩ (cJS_isLatin1_0 l hl9 D cT aK aV s.heap.size) ⟨callB_of 0 htx (xw_goodC kw_2_84) rfl rfl rfl (htx _ kw_1_6) (htx _ kw_2_81) ⟨by decide, by decide, by decide +kernel⟩ ⟨Nat.le_of_ble_eq_true rfl, Nat.le_of_ble_eq_true rfl⟩, (htx _ kw_2_82), (htx _ kw_2_83)⟩ ⟨xPre_blind, vk_recv hZ.2.2.2.2.2.2.2.2.2.1 (i := 10) (by decide) hS, (fun U hU hW => ⟨rfl, xPre_of hZ hS hFc hPc hDc hK U hU hW⟩)⟩ rfl rfl hl.1 rfl (lv_room (Nat.le_of_ble_eq_true rfl)) dJS_charAt_1 ⟨Nat.le_of_ble_eq_true rfl, Nat.le_of_ble_eq_true rfl⟩) hS (fun q _ h => hFc q h) hFc (fun r1 u9 t H1 locs ht hvm hr9 hB hz1 hk1 hS => ?_)
  obtain ⟨hP1, hK1, hD1⟩ := hB
  rw [ht] at hP1
  obtain ⟨hP, hD⟩ := xjoin (W := []) hP hD [] [] 0 rfl rfl (by decide) (by decide) hk1 hFc hP1 hD1
  generalize H1 = H at hP hS ⊢
  rw [hr9]
  refine W.eq (g2 := F0 m 4 ls [.int 1]) rfl ?_
  refine lv_if_eq (tgt := 16) hx hb dJS_charAt_4 (by decide) (fun h => ((by revert h; decide : False)).elim) (fun _ => ?_)
  refine lv_aload_n hx hb dJS_charAt_7 rfl (lv_at hl 0 rfl) ?_
  refine vk_getf (o := "java/lang/String") (n := "value") (d := "[B") (v := .ref (aV 10)) hx hb (hZ.2.2.2.2.2.2.2.2.2.1.1 10 (by decide)).2.2.1 hS hown (htx _ kw_7_134) (fun _ h9 => h9) dJS_charAt_8 ?_
  refine lv_iload_n hx hb dJS_charAt_11 rfl (lv_at hl 1 rfl) ?_
  obtain ⟨hPc, hDc, hFc⟩ := xcut (wc := []) hP hD hS hA [] rfl rfl (by decide)
  refine va_calli (va_runS (As := [.ref (aV 10), .int 3]) (rest := []) ⟨hx, hb, hml, hown, htx⟩ (cJT_charAt_3 l hl9 D cT aK aV H.size) ⟨callB_of 2 htx (xw_goodC kw_2_87) rfl rfl rfl (htx _ kw_1_7) (htx _ kw_2_85) ⟨by decide, by decide, by decide +kernel⟩ ⟨Nat.le_of_ble_eq_true rfl, Nat.le_of_ble_eq_true rfl⟩, htx _ kw_2_86⟩ ⟨xPre_blind, (fun U hU hW => ⟨rfl, xPre_of hZ hS hFc hPc hDc hK U hU hW⟩)⟩ rfl rfl hl.1 rfl (lv_room (Nat.le_of_ble_eq_true rfl)) dJS_charAt_12 ⟨Nat.le_of_ble_eq_true rfl, Nat.le_of_ble_eq_true rfl⟩) hS (fun q _ h => hFc q h) hFc (fun r2 u9 t H1 locs ht hvm hr9 hB hz1 hk1 hS => ?_)
  obtain ⟨hP1, hK1, hD1⟩ := hB
  rw [ht] at hP1
  obtain ⟨hP, hD⟩ := xjoin (W := []) hP hD [] [] 0 rfl rfl (by decide) (by decide) hk1 hFc hP1 hD1
  generalize H1 = H at hP hS ⊢
  rw [hr9]
  refine W.eq (g2 := F0 m 15 ls [.int 108]) rfl ?_
  obtain ⟨hP9, hD9⟩ := xsub (wc := []) hP hD [] rfl rfl (by decide)
  refine W.widen (k := 0) (n := 0) (Nat.le_of_ble_eq_true rfl) (Nat.le_of_ble_eq_true rfl) ?_
  exact W.zret (v := 108) hx hb hr rfl (fun t ht hW => ⟨⟨108, (), rfl, rfl, by rw [ht]; exact hP9, va_K.moved hW.alike hK, hD9⟩, hS.F ht⟩) hS.2.2 dJS_charAt_15
set_option maxHeartbeats 400000000 in
set_option maxRecDepth 100000 in
theorem cM_feed_0 (l : Launch) (hl9 : l.stackTraces = false) (D : va_G) (cT : Nat → ClassId) (aK aV : Nat → Nat) (sz : Nat) (a0 : Nat) (a1 : Nat) (x2 : Int32) (x3 : Int32) (x4 : Int32) (x5 : Int32) (x6 : Int32) (v7 : Value) (v8 : Value) (v9 : Value) (v10 : Value) (v11 : Value) (v12 : Value) (v13 : Value) (v14 : Value) (v15 : Value) (v16 : Value) (v17 : Value) (v18 : Value) (v19 : Value) (v20 : Value) (v21 : Value) (v22 : Value) (v23 : Value) (v24 : Value) (v25 : Value) (v26 : Value) (v27 : Value) (v28 : Value) (v29 : Value) (v30 : Value) (v31 : Value) (v32 : Value) (v33 : Value) (v34 : Value) (v35 : Value) (v36 : Value) (f37 : Nat → Int32) : xMet l yM_feed wyM_feed 0 0 0 0 D cT aK aV sz [.ref a0, .int x2, .int x3, .int x4, .int x5, .int x6] [(a0, .inr (5, [v7, v8, v9, v10, v11, v12, v13, v14, v15, v16, v17, v18, v19, v20, v21, v22, v23, v24, v25, v26, v27, v28, v29, v30, v31, v32, .ref a1, .int 0, v33, v34, v35, v36])), (a1, .inl (cT 0, 4096, .inl f37))] (fun A => va_Qi (fun (r : Int32) (_ : Unit) => r = 20) (fun _ t => ∃ (y2 : Int32) (y4 : Int32) (y6 : Int32) (y8 : Int32) (y10 : Int32) (y12 : Int32) (y14 : Int32) (y16 : Int32) (y18 : Int32) (y20 : Int32) (y22 : Int32) (y24 : Int32) (y26 : Int32) (y28 : Int32) (y30 : Int32) (y32 : Int32) (y34 : Int32) (y36 : Int32) (y38 : Int32) (y40 : Int32), xB D xcl cT A [(a0, .inr (5, [.int 0, v8, v9, v10, v11, v12, v13, v14, v15, v16, v17, v18, v19, v20, v21, v22, v23, v24, v25, v26, v27, v28, v29, v30, v31, v32, .ref a1, .int 20, v33, v34, v35, v36])), (a1, .inl (cT 0, 4096, .inl (upd (upd (upd (upd (upd (upd (upd (upd (upd (upd (upd (upd (upd (upd (upd (upd (upd (upd (upd (upd f37 0 (vp_nar .byte y2)) 1 (vp_nar .byte y4)) 2 (vp_nar .byte y6)) 3 (vp_nar .byte y8)) 4 (vp_nar .byte y10)) 5 (vp_nar .byte y12)) 6 (vp_nar .byte y14)) 7 (vp_nar .byte y16)) 8 (vp_nar .byte y18)) 9 (vp_nar .byte y20)) 10 (vp_nar .byte y22)) 11 (vp_nar .byte y24)) 12 (vp_nar .byte y26)) 13 (vp_nar .byte y28)) 14 (vp_nar .byte y30)) 15 (vp_nar .byte y32)) 16 (vp_nar .byte y34)) 17 (vp_nar .byte y36)) 18 (vp_nar .byte y38)) 19 (vp_nar .byte y40))))] t) A) := by
  refine Met.ofW (cc := prog_13_method_82_code) (maxL := 8) (ret := (some .int)) (by decide) rfl ?_
  intro p e s m args below meth c s₁ B hml hv
  obtain ⟨rfl, hsz, hZ, hP, hK, hD0⟩ := hv
  have hx := B.exec
  have hb := B.bytes
  have hr := B.returns
  have hts := atoms_spec (ws := wyM_feed) B.pre
  have htx := fun w h => hts w (List.mem_cons_of_mem _ h)
  have hown : s.vm.findClass "ValueBenchModel" = some m.cls := findClass_of_methodNamed B.named
  have hlocks := B.notSynchronized
  subst hsz
  have hD := hD0.self (sz := s.heap.size)
  generalize hAe : va_A [(a0, .inr (5, [v7, v8, v9, v10, v11, v12, v13, v14, v15, v16, v17, v18, v19, v20, v21, v22, v23, v24, v25, v26, v27, v28, v29, v30, v31, v32, .ref a1, .int 0, v33, v34, v35, v36])), (a1, .inl (cT 0, 4096, .inl f37))] s.heap.size = A at hD hZ ⊢
  have hA : ∀ q : Nat, s.heap.size ≤ q → A q := fun q h => by rw [← hAe]; exact Or.inr h
  have hS : va_S A s.heap s.heap [] := va_S.rf
  have hP : va_P D xcl [(a0, .inr (5, [v7, v8, v9, v10, v11, v12, v13, v14, v15, v16, v17, v18, v19, v20, v21, v22, v23, v24, v25, v26, v27, v28, v29, v30, v31, v32, .ref a1, .int 0, v33, v34, v35, v36])), (a1, .inl (cT 0, 4096, .inl f37))] s.heap := hP
  have hl := lv_entry ([.ref a0, .int x2, .int x3, .int x4, .int x5, .int x6]) (n := 8) (Nat.le_of_ble_eq_true rfl)
  rw [lg_entry_eq]
  generalize (lg_sl ([.ref a0, .int x2, .int x3, .int x4, .int x5, .int x6]) ++ List.replicate (8 - (lg_sl ([.ref a0, .int x2, .int x3, .int x4, .int x5, .int x6])).length) Slot.unset).toArray = ls at hl ⊢
  have hl : lv_has ls 8 [(0, .ref a0), (1, .int x2), (2, .int x3), (3, .int x4), (4, .int x5), (5, .int x6)] := hl
  refine lv_aload_n hx hb dM_feed_0 rfl (lv_at hl 0 rfl) ?_
  refine lv_iconst (v := 0) hx hb dM_feed_1 (by decide) ?_
  refine va_put (D := D) (ci := 5) (v := .int 0) (ty := .int) (C := "ValueBenchModel") (T := TM) (N := 32) hx hb htx inM tyM tyM_ok nmM hown hK hP hD hS 0 rfl rfl 0 (by decide) (htx _ kw_5_87) (fun _ h9 => h9) rfl (by decide +kernel) rfl rfl (Nat.le_of_ble_eq_true rfl) dM_feed_2 (fun H locs hP hD hS => ?_)
  obtain ⟨hP, hD⟩ : xPD D xcl A [(a0, .inr (5, [.int 0, v8, v9, v10, v11, v12, v13, v14, v15, v16, v17, v18, v19, v20, v21, v22, v23, v24, v25, v26, v27, v28, v29, v30, v31, v32, .ref a1, .int 0, v33, v34, v35, v36])), (a1, .inl (cT 0, 4096, .inl f37))] H := ⟨hP, hD⟩
  refine lv_aload_n hx hb dM_feed_5 rfl (lv_at hl 0 rfl) ?_
  refine va_get (D := D) (ci := 5) (v := .int 0) (C := "ValueBenchModel") (T := TM) (N := 32) hx hb htx inM hown hK hP 0 rfl rfl 27 (by decide) (htx _ kw_5_114) (fun _ h9 => h9) rfl dM_feed_6 ?_
  refine lv_bipush (v := 20) hx hb dM_feed_9 (by decide) ?_
  refine lv_iadd hx hb dM_feed_11 ?_
  refine W.eq (g2 := F0 m 12 ls [.int 20]) rfl ?_
  refine lv_sipush (v := 4096) hx hb dM_feed_12 (by decide) ?_
  refine lv_icmp_le (tgt := 24) hx hb dM_feed_15 (by decide) (fun _ => ?_) (fun h => ((by revert h; decide : False)).elim)
  refine lv_iconst (v := 0) hx hb dM_feed_24 (by decide) ?_
  refine lv_istore (lv' := [(6, .int 0), (0, .ref a0), (1, .int x2), (2, .int x3), (3, .int x4), (4, .int x5), (5, .int x6)]) hx hb dM_feed_25 hl (by decide) rfl (fun ls hl => ?_)
  refine lv_iload hx hb dM_feed_27 (lv_at hl 0 rfl) ?_
  refine lv_bipush (v := 20) hx hb dM_feed_29 (by decide) ?_
  refine lv_icmp_ge (tgt := 121) hx hb dM_feed_31 (by decide) (fun h => ((by revert h; decide : False)).elim) (fun _ => ?_)
  refine lv_iload hx hb dM_feed_34 (lv_at hl 0 rfl) ?_
  refine lv_iconst (v := 4) hx hb dM_feed_36 (by decide) ?_
  refine lv_icmp_ge (tgt := 44) hx hb dM_feed_37 (by decide) (fun h => ((by revert h; decide : False)).elim) (fun _ => ?_)
  refine lv_iload_n hx hb dM_feed_40 rfl (lv_at hl 2 rfl) ?_
  refine lv_goto (tgt := 80) hx hb dM_feed_41 (by decide) ?_
  refine lv_istore (lv' := [(7, .int x2), (6, .int 0), (0, .ref a0), (1, .int x2), (2, .int x3), (3, .int x4), (4, .int x5), (5, .int x6)]) hx hb dM_feed_80 hl (by decide) rfl (fun ls hl => ?_)
  refine lv_aload_n hx hb dM_feed_82 rfl (lv_at hl 2 rfl) ?_
  refine va_get (D := D) (ci := 5) (v := .ref a1) (C := "ValueBenchModel") (T := TM) (N := 32) hx hb htx inM hown hK hP 0 rfl rfl 26 (by decide) (htx _ kw_5_113) (fun _ h9 => h9) rfl dM_feed_83 ?_
  refine lv_aload_n hx hb dM_feed_86 rfl (lv_at hl 2 rfl) ?_
  refine va_get (D := D) (ci := 5) (v := .int 0) (C := "ValueBenchModel") (T := TM) (N := 32) hx hb htx inM hown hK hP 0 rfl rfl 27 (by decide) (htx _ kw_5_114) (fun _ h9 => h9) rfl dM_feed_87 ?_
  refine lv_iload hx hb dM_feed_90 (lv_at hl 0 rfl) ?_
  refine lv_bipush (v := 24) hx hb dM_feed_92 (by decide) ?_
  refine lv_bipush (v := 8) hx hb dM_feed_94 (by decide) ?_
  refine lv_iload hx hb dM_feed_96 (lv_at hl 1 rfl) ?_
  refine lv_iconst (v := 4) hx hb dM_feed_98 (by decide) ?_
  refine lv_irem hx hb dM_feed_99 (by decide) ?_
  refine W.eq (g2 := F0 m 100 ls [.int 0, .int 8, .int 24, .int x2, .int 0, .ref a1]) rfl ?_
  refine lv_imul hx hb dM_feed_100 ?_
  refine W.eq (g2 := F0 m 101 ls [.int 0, .int 24, .int x2, .int 0, .ref a1]) rfl ?_
  refine lv_isub hx hb dM_feed_101 ?_
  refine W.eq (g2 := F0 m 102 ls [.int 24, .int x2, .int 0, .ref a1]) rfl ?_
  refine lv_ishr hx hb dM_feed_102 ?_
  refine lv_topi (fun y1 ey1 => ?_)
  refine lv_i2b hx hb dM_feed_103 rfl ?_
  refine lv_topi (fun y2 ey2 => ?_)
  refine va_bast hx hb hK hP hD hS 1 0 rfl rfl (show ¬ ((0 : Int32) < 0 ∨ 4096 ≤ (0 : Int32).toNatClampNeg) by decide) dM_feed_104 (fun H locs hP hD hS => ?_)
  obtain ⟨hP, hD⟩ : xPD D xcl A [(a0, .inr (5, [.int 0, v8, v9, v10, v11, v12, v13, v14, v15, v16, v17, v18, v19, v20, v21, v22, v23, v24, v25, v26, v27, v28, v29, v30, v31, v32, .ref a1, .int 0, v33, v34, v35, v36])), (a1, .inl (cT 0, 4096, .inl (upd f37 0 (vp_nar .byte y2))))] H := ⟨hP, hD⟩
  refine lv_aload_n hx hb dM_feed_105 rfl (lv_at hl 2 rfl) ?_
  refine lv_dup hx hb dM_feed_106 rfl ?_
  refine va_get (D := D) (ci := 5) (v := .int 0) (C := "ValueBenchModel") (T := TM) (N := 32) hx hb htx inM hown hK hP 0 rfl rfl 27 (by decide) (htx _ kw_5_114) (fun _ h9 => h9) rfl dM_feed_107 ?_
  refine lv_iconst (v := 1) hx hb dM_feed_110 (by decide) ?_
  refine lv_iadd hx hb dM_feed_111 ?_
  refine W.eq (g2 := F0 m 112 ls [.int 1, .ref a0]) rfl ?_
  refine va_put (D := D) (ci := 5) (v := .int 1) (ty := .int) (C := "ValueBenchModel") (T := TM) (N := 32) hx hb htx inM tyM tyM_ok nmM hown hK hP hD hS 0 rfl rfl 27 (by decide) (htx _ kw_5_114) (fun _ h9 => h9) rfl (by decide +kernel) rfl rfl (Nat.le_of_ble_eq_true rfl) dM_feed_112 (fun H locs hP hD hS => ?_)
  obtain ⟨hP, hD⟩ : xPD D xcl A [(a0, .inr (5, [.int 0, v8, v9, v10, v11, v12, v13, v14, v15, v16, v17, v18, v19, v20, v21, v22, v23, v24, v25, v26, v27, v28, v29, v30, v31, v32, .ref a1, .int 1, v33, v34, v35, v36])), (a1, .inl (cT 0, 4096, .inl (upd f37 0 (vp_nar .byte y2))))] H := ⟨hP, hD⟩
  refine lv_iinc (v := 1) (lv' := [(6, .int 1), (7, .int x2), (0, .ref a0), (1, .int x2), (2, .int x3), (3, .int x4), (4, .int x5), (5, .int x6)]) hx hb dM_feed_115 hl (k := 1) rfl (by decide) (by decide) rfl (fun ls hl => ?_)
  refine lv_goto (tgt := 27) hx hb dM_feed_118 (by decide) ?_
  refine lv_iload hx hb dM_feed_27 (lv_at hl 0 rfl) ?_
  refine lv_bipush (v := 20) hx hb dM_feed_29 (by decide) ?_
  refine lv_icmp_ge (tgt := 121) hx hb dM_feed_31 (by decide) (fun h => ((by revert h; decide : False)).elim) (fun _ => ?_)
  refine lv_iload hx hb dM_feed_34 (lv_at hl 0 rfl) ?_
  refine lv_iconst (v := 4) hx hb dM_feed_36 (by decide) ?_
  refine lv_icmp_ge (tgt := 44) hx hb dM_feed_37 (by decide) (fun h => ((by revert h; decide : False)).elim) (fun _ => ?_)
  refine lv_iload_n hx hb dM_feed_40 rfl (lv_at hl 3 rfl) ?_
  refine lv_goto (tgt := 80) hx hb dM_feed_41 (by decide) ?_
  refine lv_istore (lv' := [(7, .int x2), (6, .int 1), (0, .ref a0), (1, .int x2), (2, .int x3), (3, .int x4), (4, .int x5), (5, .int x6)]) hx hb dM_feed_80 hl (by decide) rfl (fun ls hl => ?_)
  refine lv_aload_n hx hb dM_feed_82 rfl (lv_at hl 2 rfl) ?_
  refine va_get (D := D) (ci := 5) (v := .ref a1) (C := "ValueBenchModel") (T := TM) (N := 32) hx hb htx inM hown hK hP 0 rfl rfl 26 (by decide) (htx _ kw_5_113) (fun _ h9 => h9) rfl dM_feed_83 ?_
  refine lv_aload_n hx hb dM_feed_86 rfl (lv_at hl 2 rfl) ?_
  refine va_get (D := D) (ci := 5) (v := .int 1) (C := "ValueBenchModel") (T := TM) (N := 32) hx hb htx inM hown hK hP 0 rfl rfl 27 (by decide) (htx _ kw_5_114) (fun _ h9 => h9) rfl dM_feed_87 ?_
  refine lv_iload hx hb dM_feed_90 (lv_at hl 0 rfl) ?_
  refine lv_bipush (v := 24) hx hb dM_feed_92 (by decide) ?_
  refine lv_bipush (v := 8) hx hb dM_feed_94 (by decide) ?_
  refine lv_iload hx hb dM_feed_96 (lv_at hl 1 rfl) ?_
  refine lv_iconst (v := 4) hx hb dM_feed_98 (by decide) ?_
  refine lv_irem hx hb dM_feed_99 (by decide) ?_
  refine W.eq (g2 := F0 m 100 ls [.int 1, .int 8, .int 24, .int x2, .int 1, .ref a1]) rfl ?_
  refine lv_imul hx hb dM_feed_100 ?_
  refine W.eq (g2 := F0 m 101 ls [.int 8, .int 24, .int x2, .int 1, .ref a1]) rfl ?_
  refine lv_isub hx hb dM_feed_101 ?_
  refine W.eq (g2 := F0 m 102 ls [.int 16, .int x2, .int 1, .ref a1]) rfl ?_
  refine lv_ishr hx hb dM_feed_102 ?_
  refine lv_topi (fun y3 ey3 => ?_)
  refine lv_i2b hx hb dM_feed_103 rfl ?_
  refine lv_topi (fun y4 ey4 => ?_)
  refine va_bast hx hb hK hP hD hS 1 0 rfl rfl (show ¬ ((1 : Int32) < 0 ∨ 4096 ≤ (1 : Int32).toNatClampNeg) by decide) dM_feed_104 (fun H locs hP hD hS => ?_)
  obtain ⟨hP, hD⟩ : xPD D xcl A [(a0, .inr (5, [.int 0, v8, v9, v10, v11, v12, v13, v14, v15, v16, v17, v18, v19, v20, v21, v22, v23, v24, v25, v26, v27, v28, v29, v30, v31, v32, .ref a1, .int 1, v33, v34, v35, v36])), (a1, .inl (cT 0, 4096, .inl (upd (upd f37 0 (vp_nar .byte y2)) 1 (vp_nar .byte y4))))] H := ⟨hP, hD⟩
  refine lv_aload_n hx hb dM_feed_105 rfl (lv_at hl 2 rfl) ?_
  refine lv_dup hx hb dM_feed_106 rfl ?_
  refine va_get (D := D) (ci := 5) (v := .int 1) (C := "ValueBenchModel") (T := TM) (N := 32) hx hb htx inM hown hK hP 0 rfl rfl 27 (by decide) (htx _ kw_5_114) (fun _ h9 => h9) rfl dM_feed_107 ?_
  refine lv_iconst (v := 1) hx hb dM_feed_110 (by decide) ?_
  refine lv_iadd hx hb dM_feed_111 ?_
  refine W.eq (g2 := F0 m 112 ls [.int 2, .ref a0]) rfl ?_
  refine va_put (D := D) (ci := 5) (v := .int 2) (ty := .int) (C := "ValueBenchModel") (T := TM) (N := 32) hx hb htx inM tyM tyM_ok nmM hown hK hP hD hS 0 rfl rfl 27 (by decide) (htx _ kw_5_114) (fun _ h9 => h9) rfl (by decide +kernel) rfl rfl (Nat.le_of_ble_eq_true rfl) dM_feed_112 (fun H locs hP hD hS => ?_)
  obtain ⟨hP, hD⟩ : xPD D xcl A [(a0, .inr (5, [.int 0, v8, v9, v10, v11, v12, v13, v14, v15, v16, v17, v18, v19, v20, v21, v22, v23, v24, v25, v26, v27, v28, v29, v30, v31, v32, .ref a1, .int 2, v33, v34, v35, v36])), (a1, .inl (cT 0, 4096, .inl (upd (upd f37 0 (vp_nar .byte y2)) 1 (vp_nar .byte y4))))] H := ⟨hP, hD⟩
  refine lv_iinc (v := 2) (lv' := [(6, .int 2), (7, .int x2), (0, .ref a0), (1, .int x2), (2, .int x3), (3, .int x4), (4, .int x5), (5, .int x6)]) hx hb dM_feed_115 hl (k := 1) rfl (by decide) (by decide) rfl (fun ls hl => ?_)
  refine lv_goto (tgt := 27) hx hb dM_feed_118 (by decide) ?_
  refine lv_iload hx hb dM_feed_27 (lv_at hl 0 rfl) ?_
  refine lv_bipush (v := 20) hx hb dM_feed_29 (by decide) ?_
  refine lv_icmp_ge (tgt := 121) hx hb dM_feed_31 (by decide) (fun h => ((by revert h; decide : False)).elim) (fun _ => ?_)
  refine lv_iload hx hb dM_feed_34 (lv_at hl 0 rfl) ?_
  refine lv_iconst (v := 4) hx hb dM_feed_36 (by decide) ?_
  refine lv_icmp_ge (tgt := 44) hx hb dM_feed_37 (by decide) (fun h => ((by revert h; decide : False)).elim) (fun _ => ?_)
  refine lv_iload_n hx hb dM_feed_40 rfl (lv_at hl 3 rfl) ?_
  refine lv_goto (tgt := 80) hx hb dM_feed_41 (by decide) ?_
  refine lv_istore (lv' := [(7, .int x2), (6, .int 2), (0, .ref a0), (1, .int x2), (2, .int x3), (3, .int x4), (4, .int x5), (5, .int x6)]) hx hb dM_feed_80 hl (by decide) rfl (fun ls hl => ?_)
  refine lv_aload_n hx hb dM_feed_82 rfl (lv_at hl 2 rfl) ?_
  refine va_get (D := D) (ci := 5) (v := .ref a1) (C := "ValueBenchModel") (T := TM) (N := 32) hx hb htx inM hown hK hP 0 rfl rfl 26 (by decide) (htx _ kw_5_113) (fun _ h9 => h9) rfl dM_feed_83 ?_
  refine lv_aload_n hx hb dM_feed_86 rfl (lv_at hl 2 rfl) ?_
  refine va_get (D := D) (ci := 5) (v := .int 2) (C := "ValueBenchModel") (T := TM) (N := 32) hx hb htx inM hown hK hP 0 rfl rfl 27 (by decide) (htx _ kw_5_114) (fun _ h9 => h9) rfl dM_feed_87 ?_
  refine lv_iload hx hb dM_feed_90 (lv_at hl 0 rfl) ?_
  refine lv_bipush (v := 24) hx hb dM_feed_92 (by decide) ?_
  refine lv_bipush (v := 8) hx hb dM_feed_94 (by decide) ?_
  refine lv_iload hx hb dM_feed_96 (lv_at hl 1 rfl) ?_
  refine lv_iconst (v := 4) hx hb dM_feed_98 (by decide) ?_
  refine lv_irem hx hb dM_feed_99 (by decide) ?_
  refine W.eq (g2 := F0 m 100 ls [.int 2, .int 8, .int 24, .int x2, .int 2, .ref a1]) rfl ?_
  refine lv_imul hx hb dM_feed_100 ?_
  refine W.eq (g2 := F0 m 101 ls [.int 16, .int 24, .int x2, .int 2, .ref a1]) rfl ?_
  refine lv_isub hx hb dM_feed_101 ?_
  refine W.eq (g2 := F0 m 102 ls [.int 8, .int x2, .int 2, .ref a1]) rfl ?_
  refine lv_ishr hx hb dM_feed_102 ?_
  refine lv_topi (fun y5 ey5 => ?_)
  refine lv_i2b hx hb dM_feed_103 rfl ?_
  refine lv_topi (fun y6 ey6 => ?_)
  refine va_bast hx hb hK hP hD hS 1 0 rfl rfl (show ¬ ((2 : Int32) < 0 ∨ 4096 ≤ (2 : Int32).toNatClampNeg) by decide) dM_feed_104 (fun H locs hP hD hS => ?_)
  obtain ⟨hP, hD⟩ : xPD D xcl A [(a0, .inr (5, [.int 0, v8, v9, v10, v11, v12, v13, v14, v15, v16, v17, v18, v19, v20, v21, v22, v23, v24, v25, v26, v27, v28, v29, v30, v31, v32, .ref a1, .int 2, v33, v34, v35, v36])), (a1, .inl (cT 0, 4096, .inl (upd (upd (upd f37 0 (vp_nar .byte y2)) 1 (vp_nar .byte y4)) 2 (vp_nar .byte y6))))] H := ⟨hP, hD⟩
  refine lv_aload_n hx hb dM_feed_105 rfl (lv_at hl 2 rfl) ?_
  refine lv_dup hx hb dM_feed_106 rfl ?_
  refine va_get (D := D) (ci := 5) (v := .int 2) (C := "ValueBenchModel") (T := TM) (N := 32) hx hb htx inM hown hK hP 0 rfl rfl 27 (by decide) (htx _ kw_5_114) (fun _ h9 => h9) rfl dM_feed_107 ?_
  refine lv_iconst (v := 1) hx hb dM_feed_110 (by decide) ?_
  refine lv_iadd hx hb dM_feed_111 ?_
  refine W.eq (g2 := F0 m 112 ls [.int 3, .ref a0]) rfl ?_
  refine va_put (D := D) (ci := 5) (v := .int 3) (ty := .int) (C := "ValueBenchModel") (T := TM) (N := 32) hx hb htx inM tyM tyM_ok nmM hown hK hP hD hS 0 rfl rfl 27 (by decide) (htx _ kw_5_114) (fun _ h9 => h9) rfl (by decide +kernel) rfl rfl (Nat.le_of_ble_eq_true rfl) dM_feed_112 (fun H locs hP hD hS => ?_)
  obtain ⟨hP, hD⟩ : xPD D xcl A [(a0, .inr (5, [.int 0, v8, v9, v10, v11, v12, v13, v14, v15, v16, v17, v18, v19, v20, v21, v22, v23, v24, v25, v26, v27, v28, v29, v30, v31, v32, .ref a1, .int 3, v33, v34, v35, v36])), (a1, .inl (cT 0, 4096, .inl (upd (upd (upd f37 0 (vp_nar .byte y2)) 1 (vp_nar .byte y4)) 2 (vp_nar .byte y6))))] H := ⟨hP, hD⟩
  refine lv_iinc (v := 3) (lv' := [(6, .int 3), (7, .int x2), (0, .ref a0), (1, .int x2), (2, .int x3), (3, .int x4), (4, .int x5), (5, .int x6)]) hx hb dM_feed_115 hl (k := 1) rfl (by decide) (by decide) rfl (fun ls hl => ?_)
  refine lv_goto (tgt := 27) hx hb dM_feed_118 (by decide) ?_
  refine lv_iload hx hb dM_feed_27 (lv_at hl 0 rfl) ?_
  refine lv_bipush (v := 20) hx hb dM_feed_29 (by decide) ?_
  refine lv_icmp_ge (tgt := 121) hx hb dM_feed_31 (by decide) (fun h => ((by revert h; decide : False)).elim) (fun _ => ?_)
  refine lv_iload hx hb dM_feed_34 (lv_at hl 0 rfl) ?_
  refine lv_iconst (v := 4) hx hb dM_feed_36 (by decide) ?_
  refine lv_icmp_ge (tgt := 44) hx hb dM_feed_37 (by decide) (fun h => ((by revert h; decide : False)).elim) (fun _ => ?_)
  refine lv_iload_n hx hb dM_feed_40 rfl (lv_at hl 3 rfl) ?_
  refine lv_goto (tgt := 80) hx hb dM_feed_41 (by decide) ?_
  refine lv_istore (lv' := [(7, .int x2), (6, .int 3), (0, .ref a0), (1, .int x2), (2, .int x3), (3, .int x4), (4, .int x5), (5, .int x6)]) hx hb dM_feed_80 hl (by decide) rfl (fun ls hl => ?_)
  refine lv_aload_n hx hb dM_feed_82 rfl (lv_at hl 2 rfl) ?_
  refine va_get (D := D) (ci := 5) (v := .ref a1) (C := "ValueBenchModel") (T := TM) (N := 32) hx hb htx inM hown hK hP 0 rfl rfl 26 (by decide) (htx _ kw_5_113) (fun _ h9 => h9) rfl dM_feed_83 ?_
  refine lv_aload_n hx hb dM_feed_86 rfl (lv_at hl 2 rfl) ?_
  refine va_get (D := D) (ci := 5) (v := .int 3) (C := "ValueBenchModel") (T := TM) (N := 32) hx hb htx inM hown hK hP 0 rfl rfl 27 (by decide) (htx _ kw_5_114) (fun _ h9 => h9) rfl dM_feed_87 ?_
  refine lv_iload hx hb dM_feed_90 (lv_at hl 0 rfl) ?_
  refine lv_bipush (v := 24) hx hb dM_feed_92 (by decide) ?_
  refine lv_bipush (v := 8) hx hb dM_feed_94 (by decide) ?_
  refine lv_iload hx hb dM_feed_96 (lv_at hl 1 rfl) ?_
  refine lv_iconst (v := 4) hx hb dM_feed_98 (by decide) ?_
  refine lv_irem hx hb dM_feed_99 (by decide) ?_
  refine W.eq (g2 := F0 m 100 ls [.int 3, .int 8, .int 24, .int x2, .int 3, .ref a1]) rfl ?_
  refine lv_imul hx hb dM_feed_100 ?_
  refine W.eq (g2 := F0 m 101 ls [.int 24, .int 24, .int x2, .int 3, .ref a1]) rfl ?_
  refine lv_isub hx hb dM_feed_101 ?_
  refine W.eq (g2 := F0 m 102 ls [.int 0, .int x2, .int 3, .ref a1]) rfl ?_
  refine lv_ishr hx hb dM_feed_102 ?_
  refine lv_topi (fun y7 ey7 => ?_)
  refine lv_i2b hx hb dM_feed_103 rfl ?_
  refine lv_topi (fun y8 ey8 => ?_)
  refine va_bast hx hb hK hP hD hS 1 0 rfl rfl (show ¬ ((3 : Int32) < 0 ∨ 4096 ≤ (3 : Int32).toNatClampNeg) by decide) dM_feed_104 (fun H locs hP hD hS => ?_)
  obtain ⟨hP, hD⟩ : xPD D xcl A [(a0, .inr (5, [.int 0, v8, v9, v10, v11, v12, v13, v14, v15, v16, v17, v18, v19, v20, v21, v22, v23, v24, v25, v26, v27, v28, v29, v30, v31, v32, .ref a1, .int 3, v33, v34, v35, v36])), (a1, .inl (cT 0, 4096, .inl (upd (upd (upd (upd f37 0 (vp_nar .byte y2)) 1 (vp_nar .byte y4)) 2 (vp_nar .byte y6)) 3 (vp_nar .byte y8))))] H := ⟨hP, hD⟩
  refine lv_aload_n hx hb dM_feed_105 rfl (lv_at hl 2 rfl) ?_
  refine lv_dup hx hb dM_feed_106 rfl ?_
  refine va_get (D := D) (ci := 5) (v := .int 3) (C := "ValueBenchModel") (T := TM) (N := 32) hx hb htx inM hown hK hP 0 rfl rfl 27 (by decide) (htx _ kw_5_114) (fun _ h9 => h9) rfl dM_feed_107 ?_
  refine lv_iconst (v := 1) hx hb dM_feed_110 (by decide) ?_
  refine lv_iadd hx hb dM_feed_111 ?_
  refine W.eq (g2 := F0 m 112 ls [.int 4, .ref a0]) rfl ?_
  refine va_put (D := D) (ci := 5) (v := .int 4) (ty := .int) (C := "ValueBenchModel") (T := TM) (N := 32) hx hb htx inM tyM tyM_ok nmM hown hK hP hD hS 0 rfl rfl 27 (by decide) (htx _ kw_5_114) (fun _ h9 => h9) rfl (by decide +kernel) rfl rfl (Nat.le_of_ble_eq_true rfl) dM_feed_112 (fun H locs hP hD hS => ?_)
  obtain ⟨hP, hD⟩ : xPD D xcl A [(a0, .inr (5, [.int 0, v8, v9, v10, v11, v12, v13, v14, v15, v16, v17, v18, v19, v20, v21, v22, v23, v24, v25, v26, v27, v28, v29, v30, v31, v32, .ref a1, .int 4, v33, v34, v35, v36])), (a1, .inl (cT 0, 4096, .inl (upd (upd (upd (upd f37 0 (vp_nar .byte y2)) 1 (vp_nar .byte y4)) 2 (vp_nar .byte y6)) 3 (vp_nar .byte y8))))] H := ⟨hP, hD⟩
  refine lv_iinc (v := 4) (lv' := [(6, .int 4), (7, .int x2), (0, .ref a0), (1, .int x2), (2, .int x3), (3, .int x4), (4, .int x5), (5, .int x6)]) hx hb dM_feed_115 hl (k := 1) rfl (by decide) (by decide) rfl (fun ls hl => ?_)
  refine lv_goto (tgt := 27) hx hb dM_feed_118 (by decide) ?_
  refine lv_iload hx hb dM_feed_27 (lv_at hl 0 rfl) ?_
  refine lv_bipush (v := 20) hx hb dM_feed_29 (by decide) ?_
  refine lv_icmp_ge (tgt := 121) hx hb dM_feed_31 (by decide) (fun h => ((by revert h; decide : False)).elim) (fun _ => ?_)
  refine lv_iload hx hb dM_feed_34 (lv_at hl 0 rfl) ?_
  refine lv_iconst (v := 4) hx hb dM_feed_36 (by decide) ?_
  refine lv_icmp_ge (tgt := 44) hx hb dM_feed_37 (by decide) (fun _ => ?_) (fun h => ((by revert h; decide : False)).elim)
  refine lv_iload hx hb dM_feed_44 (lv_at hl 0 rfl) ?_
  refine lv_bipush (v := 8) hx hb dM_feed_46 (by decide) ?_
  refine lv_icmp_ge (tgt := 55) hx hb dM_feed_48 (by decide) (fun h => ((by revert h; decide : False)).elim) (fun _ => ?_)
  refine lv_iload_n hx hb dM_feed_51 rfl (lv_at hl 4 rfl) ?_
  refine lv_goto (tgt := 80) hx hb dM_feed_52 (by decide) ?_
  refine lv_istore (lv' := [(7, .int x3), (6, .int 4), (0, .ref a0), (1, .int x2), (2, .int x3), (3, .int x4), (4, .int x5), (5, .int x6)]) hx hb dM_feed_80 hl (by decide) rfl (fun ls hl => ?_)
  refine lv_aload_n hx hb dM_feed_82 rfl (lv_at hl 2 rfl) ?_
  refine va_get (D := D) (ci := 5) (v := .ref a1) (C := "ValueBenchModel") (T := TM) (N := 32) hx hb htx inM hown hK hP 0 rfl rfl 26 (by decide) (htx _ kw_5_113) (fun _ h9 => h9) rfl dM_feed_83 ?_
  refine lv_aload_n hx hb dM_feed_86 rfl (lv_at hl 2 rfl) ?_
  refine va_get (D := D) (ci := 5) (v := .int 4) (C := "ValueBenchModel") (T := TM) (N := 32) hx hb htx inM hown hK hP 0 rfl rfl 27 (by decide) (htx _ kw_5_114) (fun _ h9 => h9) rfl dM_feed_87 ?_
  refine lv_iload hx hb dM_feed_90 (lv_at hl 0 rfl) ?_
  refine lv_bipush (v := 24) hx hb dM_feed_92 (by decide) ?_
  refine lv_bipush (v := 8) hx hb dM_feed_94 (by decide) ?_
  refine lv_iload hx hb dM_feed_96 (lv_at hl 1 rfl) ?_
  refine lv_iconst (v := 4) hx hb dM_feed_98 (by decide) ?_
  refine lv_irem hx hb dM_feed_99 (by decide) ?_
  refine W.eq (g2 := F0 m 100 ls [.int 0, .int 8, .int 24, .int x3, .int 4, .ref a1]) rfl ?_
  refine lv_imul hx hb dM_feed_100 ?_
  refine W.eq (g2 := F0 m 101 ls [.int 0, .int 24, .int x3, .int 4, .ref a1]) rfl ?_
  refine lv_isub hx hb dM_feed_101 ?_
  refine W.eq (g2 := F0 m 102 ls [.int 24, .int x3, .int 4, .ref a1]) rfl ?_
  refine lv_ishr hx hb dM_feed_102 ?_
  refine lv_topi (fun y9 ey9 => ?_)
  refine lv_i2b hx hb dM_feed_103 rfl ?_
  refine lv_topi (fun y10 ey10 => ?_)
  refine va_bast hx hb hK hP hD hS 1 0 rfl rfl (show ¬ ((4 : Int32) < 0 ∨ 4096 ≤ (4 : Int32).toNatClampNeg) by decide) dM_feed_104 (fun H locs hP hD hS => ?_)
  obtain ⟨hP, hD⟩ : xPD D xcl A [(a0, .inr (5, [.int 0, v8, v9, v10, v11, v12, v13, v14, v15, v16, v17, v18, v19, v20, v21, v22, v23, v24, v25, v26, v27, v28, v29, v30, v31, v32, .ref a1, .int 4, v33, v34, v35, v36])), (a1, .inl (cT 0, 4096, .inl (upd (upd (upd (upd (upd f37 0 (vp_nar .byte y2)) 1 (vp_nar .byte y4)) 2 (vp_nar .byte y6)) 3 (vp_nar .byte y8)) 4 (vp_nar .byte y10))))] H := ⟨hP, hD⟩
  refine lv_aload_n hx hb dM_feed_105 rfl (lv_at hl 2 rfl) ?_
  refine lv_dup hx hb dM_feed_106 rfl ?_
  refine va_get (D := D) (ci := 5) (v := .int 4) (C := "ValueBenchModel") (T := TM) (N := 32) hx hb htx inM hown hK hP 0 rfl rfl 27 (by decide) (htx _ kw_5_114) (fun _ h9 => h9) rfl dM_feed_107 ?_
  refine lv_iconst (v := 1) hx hb dM_feed_110 (by decide) ?_
  refine lv_iadd hx hb dM_feed_111 ?_
  refine W.eq (g2 := F0 m 112 ls [.int 5, .ref a0]) rfl ?_
  refine va_put (D := D) (ci := 5) (v := .int 5) (ty := .int) (C := "ValueBenchModel") (T := TM) (N := 32) hx hb htx inM tyM tyM_ok nmM hown hK hP hD hS 0 rfl rfl 27 (by decide) (htx _ kw_5_114) (fun _ h9 => h9) rfl (by decide +kernel) rfl rfl (Nat.le_of_ble_eq_true rfl) dM_feed_112 (fun H locs hP hD hS => ?_)
  obtain ⟨hP, hD⟩ : xPD D xcl A [(a0, .inr (5, [.int 0, v8, v9, v10, v11, v12, v13, v14, v15, v16, v17, v18, v19, v20, v21, v22, v23, v24, v25, v26, v27, v28, v29, v30, v31, v32, .ref a1, .int 5, v33, v34, v35, v36])), (a1, .inl (cT 0, 4096, .inl (upd (upd (upd (upd (upd f37 0 (vp_nar .byte y2)) 1 (vp_nar .byte y4)) 2 (vp_nar .byte y6)) 3 (vp_nar .byte y8)) 4 (vp_nar .byte y10))))] H := ⟨hP, hD⟩
  refine lv_iinc (v := 5) (lv' := [(6, .int 5), (7, .int x3), (0, .ref a0), (1, .int x2), (2, .int x3), (3, .int x4), (4, .int x5), (5, .int x6)]) hx hb dM_feed_115 hl (k := 1) rfl (by decide) (by decide) rfl (fun ls hl => ?_)
  refine lv_goto (tgt := 27) hx hb dM_feed_118 (by decide) ?_
  refine lv_iload hx hb dM_feed_27 (lv_at hl 0 rfl) ?_
  refine lv_bipush (v := 20) hx hb dM_feed_29 (by decide) ?_
  refine lv_icmp_ge (tgt := 121) hx hb dM_feed_31 (by decide) (fun h => ((by revert h; decide : False)).elim) (fun _ => ?_)
  refine lv_iload hx hb dM_feed_34 (lv_at hl 0 rfl) ?_
  refine lv_iconst (v := 4) hx hb dM_feed_36 (by decide) ?_
  refine lv_icmp_ge (tgt := 44) hx hb dM_feed_37 (by decide) (fun _ => ?_) (fun h => ((by revert h; decide : False)).elim)
  refine lv_iload hx hb dM_feed_44 (lv_at hl 0 rfl) ?_
  refine lv_bipush (v := 8) hx hb dM_feed_46 (by decide) ?_
  refine lv_icmp_ge (tgt := 55) hx hb dM_feed_48 (by decide) (fun h => ((by revert h; decide : False)).elim) (fun _ => ?_)
  refine lv_iload_n hx hb dM_feed_51 rfl (lv_at hl 4 rfl) ?_
  refine lv_goto (tgt := 80) hx hb dM_feed_52 (by decide) ?_
  refine lv_istore (lv' := [(7, .int x3), (6, .int 5), (0, .ref a0), (1, .int x2), (2, .int x3), (3, .int x4), (4, .int x5), (5, .int x6)]) hx hb dM_feed_80 hl (by decide) rfl (fun ls hl => ?_)
  refine lv_aload_n hx hb dM_feed_82 rfl (lv_at hl 2 rfl) ?_
  refine va_get (D := D) (ci := 5) (v := .ref a1) (C := "ValueBenchModel") (T := TM) (N := 32) hx hb htx inM hown hK hP 0 rfl rfl 26 (by decide) (htx _ kw_5_113) (fun _ h9 => h9) rfl dM_feed_83 ?_
  refine lv_aload_n hx hb dM_feed_86 rfl (lv_at hl 2 rfl) ?_
  refine va_get (D := D) (ci := 5) (v := .int 5) (C := "ValueBenchModel") (T := TM) (N := 32) hx hb htx inM hown hK hP 0 rfl rfl 27 (by decide) (htx _ kw_5_114) (fun _ h9 => h9) rfl dM_feed_87 ?_
  refine lv_iload hx hb dM_feed_90 (lv_at hl 0 rfl) ?_
  refine lv_bipush (v := 24) hx hb dM_feed_92 (by decide) ?_
  refine lv_bipush (v := 8) hx hb dM_feed_94 (by decide) ?_
  refine lv_iload hx hb dM_feed_96 (lv_at hl 1 rfl) ?_
  refine lv_iconst (v := 4) hx hb dM_feed_98 (by decide) ?_
  refine lv_irem hx hb dM_feed_99 (by decide) ?_
  refine W.eq (g2 := F0 m 100 ls [.int 1, .int 8, .int 24, .int x3, .int 5, .ref a1]) rfl ?_
  refine lv_imul hx hb dM_feed_100 ?_
  refine W.eq (g2 := F0 m 101 ls [.int 8, .int 24, .int x3, .int 5, .ref a1]) rfl ?_
  refine lv_isub hx hb dM_feed_101 ?_
  refine W.eq (g2 := F0 m 102 ls [.int 16, .int x3, .int 5, .ref a1]) rfl ?_
  refine lv_ishr hx hb dM_feed_102 ?_
  refine lv_topi (fun y11 ey11 => ?_)
  refine lv_i2b hx hb dM_feed_103 rfl ?_
  refine lv_topi (fun y12 ey12 => ?_)
  refine va_bast hx hb hK hP hD hS 1 0 rfl rfl (show ¬ ((5 : Int32) < 0 ∨ 4096 ≤ (5 : Int32).toNatClampNeg) by decide) dM_feed_104 (fun H locs hP hD hS => ?_)
  obtain ⟨hP, hD⟩ : xPD D xcl A [(a0, .inr (5, [.int 0, v8, v9, v10, v11, v12, v13, v14, v15, v16, v17, v18, v19, v20, v21, v22, v23, v24, v25, v26, v27, v28, v29, v30, v31, v32, .ref a1, .int 5, v33, v34, v35, v36])), (a1, .inl (cT 0, 4096, .inl (upd (upd (upd (upd (upd (upd f37 0 (vp_nar .byte y2)) 1 (vp_nar .byte y4)) 2 (vp_nar .byte y6)) 3 (vp_nar .byte y8)) 4 (vp_nar .byte y10)) 5 (vp_nar .byte y12))))] H := ⟨hP, hD⟩
  refine lv_aload_n hx hb dM_feed_105 rfl (lv_at hl 2 rfl) ?_
  refine lv_dup hx hb dM_feed_106 rfl ?_
  refine va_get (D := D) (ci := 5) (v := .int 5) (C := "ValueBenchModel") (T := TM) (N := 32) hx hb htx inM hown hK hP 0 rfl rfl 27 (by decide) (htx _ kw_5_114) (fun _ h9 => h9) rfl dM_feed_107 ?_
  refine lv_iconst (v := 1) hx hb dM_feed_110 (by decide) ?_
  refine lv_iadd hx hb dM_feed_111 ?_
  refine W.eq (g2 := F0 m 112 ls [.int 6, .ref a0]) rfl ?_
  refine va_put (D := D) (ci := 5) (v := .int 6) (ty := .int) (C := "ValueBenchModel") (T := TM) (N := 32) hx hb htx inM tyM tyM_ok nmM hown hK hP hD hS 0 rfl rfl 27 (by decide) (htx _ kw_5_114) (fun _ h9 => h9) rfl (by decide +kernel) rfl rfl (Nat.le_of_ble_eq_true rfl) dM_feed_112 (fun H locs hP hD hS => ?_)
  obtain ⟨hP, hD⟩ : xPD D xcl A [(a0, .inr (5, [.int 0, v8, v9, v10, v11, v12, v13, v14, v15, v16, v17, v18, v19, v20, v21, v22, v23, v24, v25, v26, v27, v28, v29, v30, v31, v32, .ref a1, .int 6, v33, v34, v35, v36])), (a1, .inl (cT 0, 4096, .inl (upd (upd (upd (upd (upd (upd f37 0 (vp_nar .byte y2)) 1 (vp_nar .byte y4)) 2 (vp_nar .byte y6)) 3 (vp_nar .byte y8)) 4 (vp_nar .byte y10)) 5 (vp_nar .byte y12))))] H := ⟨hP, hD⟩
  refine lv_iinc (v := 6) (lv' := [(6, .int 6), (7, .int x3), (0, .ref a0), (1, .int x2), (2, .int x3), (3, .int x4), (4, .int x5), (5, .int x6)]) hx hb dM_feed_115 hl (k := 1) rfl (by decide) (by decide) rfl (fun ls hl => ?_)
  refine lv_goto (tgt := 27) hx hb dM_feed_118 (by decide) ?_
  refine lv_iload hx hb dM_feed_27 (lv_at hl 0 rfl) ?_
  refine lv_bipush (v := 20) hx hb dM_feed_29 (by decide) ?_
  refine lv_icmp_ge (tgt := 121) hx hb dM_feed_31 (by decide) (fun h => ((by revert h; decide : False)).elim) (fun _ => ?_)
  refine lv_iload hx hb dM_feed_34 (lv_at hl 0 rfl) ?_
  refine lv_iconst (v := 4) hx hb dM_feed_36 (by decide) ?_
  refine lv_icmp_ge (tgt := 44) hx hb dM_feed_37 (by decide) (fun _ => ?_) (fun h => ((by revert h; decide : False)).elim)
  refine lv_iload hx hb dM_feed_44 (lv_at hl 0 rfl) ?_
  refine lv_bipush (v := 8) hx hb dM_feed_46 (by decide) ?_
  refine lv_icmp_ge (tgt := 55) hx hb dM_feed_48 (by decide) (fun h => ((by revert h; decide : False)).elim) (fun _ => ?_)
  refine lv_iload_n hx hb dM_feed_51 rfl (lv_at hl 4 rfl) ?_
  refine lv_goto (tgt := 80) hx hb dM_feed_52 (by decide) ?_
  refine lv_istore (lv' := [(7, .int x3), (6, .int 6), (0, .ref a0), (1, .int x2), (2, .int x3), (3, .int x4), (4, .int x5), (5, .int x6)]) hx hb dM_feed_80 hl (by decide) rfl (fun ls hl => ?_)
  refine lv_aload_n hx hb dM_feed_82 rfl (lv_at hl 2 rfl) ?_
  refine va_get (D := D) (ci := 5) (v := .ref a1) (C := "ValueBenchModel") (T := TM) (N := 32) hx hb htx inM hown hK hP 0 rfl rfl 26 (by decide) (htx _ kw_5_113) (fun _ h9 => h9) rfl dM_feed_83 ?_
  refine lv_aload_n hx hb dM_feed_86 rfl (lv_at hl 2 rfl) ?_
  refine va_get (D := D) (ci := 5) (v := .int 6) (C := "ValueBenchModel") (T := TM) (N := 32) hx hb htx inM hown hK hP 0 rfl rfl 27 (by decide) (htx _ kw_5_114) (fun _ h9 => h9) rfl dM_feed_87 ?_
  refine lv_iload hx hb dM_feed_90 (lv_at hl 0 rfl) ?_
  refine lv_bipush (v := 24) hx hb dM_feed_92 (by decide) ?_
  refine lv_bipush (v := 8) hx hb dM_feed_94 (by decide) ?_
  refine lv_iload hx hb dM_feed_96 (lv_at hl 1 rfl) ?_
  refine lv_iconst (v := 4) hx hb dM_feed_98 (by decide) ?_
  refine lv_irem hx hb dM_feed_99 (by decide) ?_
  refine W.eq (g2 := F0 m 100 ls [.int 2, .int 8, .int 24, .int x3, .int 6, .ref a1]) rfl ?_
  refine lv_imul hx hb dM_feed_100 ?_
  refine W.eq (g2 := F0 m 101 ls [.int 16, .int 24, .int x3, .int 6, .ref a1]) rfl ?_
  refine lv_isub hx hb dM_feed_101 ?_
  refine W.eq (g2 := F0 m 102 ls [.int 8, .int x3, .int 6, .ref a1]) rfl ?_
  refine lv_ishr hx hb dM_feed_102 ?_
  refine lv_topi (fun y13 ey13 => ?_)
  refine lv_i2b hx hb dM_feed_103 rfl ?_
  refine lv_topi (fun y14 ey14 => ?_)
  refine va_bast hx hb hK hP hD hS 1 0 rfl rfl (show ¬ ((6 : Int32) < 0 ∨ 4096 ≤ (6 : Int32).toNatClampNeg) by decide) dM_feed_104 (fun H locs hP hD hS => ?_)
  obtain ⟨hP, hD⟩ : xPD D xcl A [(a0, .inr (5, [.int 0, v8, v9, v10, v11, v12, v13, v14, v15, v16, v17, v18, v19, v20, v21, v22, v23, v24, v25, v26, v27, v28, v29, v30, v31, v32, .ref a1, .int 6, v33, v34, v35, v36])), (a1, .inl (cT 0, 4096, .inl (upd (upd (upd (upd (upd (upd (upd f37 0 (vp_nar .byte y2)) 1 (vp_nar .byte y4)) 2 (vp_nar .byte y6)) 3 (vp_nar .byte y8)) 4 (vp_nar .byte y10)) 5 (vp_nar .byte y12)) 6 (vp_nar .byte y14))))] H := ⟨hP, hD⟩
  refine lv_aload_n hx hb dM_feed_105 rfl (lv_at hl 2 rfl) ?_
  refine lv_dup hx hb dM_feed_106 rfl ?_
  refine va_get (D := D) (ci := 5) (v := .int 6) (C := "ValueBenchModel") (T := TM) (N := 32) hx hb htx inM hown hK hP 0 rfl rfl 27 (by decide) (htx _ kw_5_114) (fun _ h9 => h9) rfl dM_feed_107 ?_
  refine lv_iconst (v := 1) hx hb dM_feed_110 (by decide) ?_
  refine lv_iadd hx hb dM_feed_111 ?_
  refine W.eq (g2 := F0 m 112 ls [.int 7, .ref a0]) rfl ?_
  refine va_put (D := D) (ci := 5) (v := .int 7) (ty := .int) (C := "ValueBenchModel") (T := TM) (N := 32) hx hb htx inM tyM tyM_ok nmM hown hK hP hD hS 0 rfl rfl 27 (by decide) (htx _ kw_5_114) (fun _ h9 => h9) rfl (by decide +kernel) rfl rfl (Nat.le_of_ble_eq_true rfl) dM_feed_112 (fun H locs hP hD hS => ?_)
  obtain ⟨hP, hD⟩ : xPD D xcl A [(a0, .inr (5, [.int 0, v8, v9, v10, v11, v12, v13, v14, v15, v16, v17, v18, v19, v20, v21, v22, v23, v24, v25, v26, v27, v28, v29, v30, v31, v32, .ref a1, .int 7, v33, v34, v35, v36])), (a1, .inl (cT 0, 4096, .inl (upd (upd (upd (upd (upd (upd (upd f37 0 (vp_nar .byte y2)) 1 (vp_nar .byte y4)) 2 (vp_nar .byte y6)) 3 (vp_nar .byte y8)) 4 (vp_nar .byte y10)) 5 (vp_nar .byte y12)) 6 (vp_nar .byte y14))))] H := ⟨hP, hD⟩
  refine lv_iinc (v := 7) (lv' := [(6, .int 7), (7, .int x3), (0, .ref a0), (1, .int x2), (2, .int x3), (3, .int x4), (4, .int x5), (5, .int x6)]) hx hb dM_feed_115 hl (k := 1) rfl (by decide) (by decide) rfl (fun ls hl => ?_)
  refine lv_goto (tgt := 27) hx hb dM_feed_118 (by decide) ?_
  refine lv_iload hx hb dM_feed_27 (lv_at hl 0 rfl) ?_
  refine lv_bipush (v := 20) hx hb dM_feed_29 (by decide) ?_
  refine lv_icmp_ge (tgt := 121) hx hb dM_feed_31 (by decide) (fun h => ((by revert h; decide : False)).elim) (fun _ => ?_)
  refine lv_iload hx hb dM_feed_34 (lv_at hl 0 rfl) ?_
  refine lv_iconst (v := 4) hx hb dM_feed_36 (by decide) ?_
  refine lv_icmp_ge (tgt := 44) hx hb dM_feed_37 (by decide) (fun _ => ?_) (fun h => ((by revert h; decide : False)).elim)
  refine lv_iload hx hb dM_feed_44 (lv_at hl 0 rfl) ?_
  refine lv_bipush (v := 8) hx hb dM_feed_46 (by decide) ?_
  refine lv_icmp_ge (tgt := 55) hx hb dM_feed_48 (by decide) (fun h => ((by revert h; decide : False)).elim) (fun _ => ?_)
  refine lv_iload_n hx hb dM_feed_51 rfl (lv_at hl 4 rfl) ?_
  refine lv_goto (tgt := 80) hx hb dM_feed_52 (by decide) ?_
  refine lv_istore (lv' := [(7, .int x3), (6, .int 7), (0, .ref a0), (1, .int x2), (2, .int x3), (3, .int x4), (4, .int x5), (5, .int x6)]) hx hb dM_feed_80 hl (by decide) rfl (fun ls hl => ?_)
  refine lv_aload_n hx hb dM_feed_82 rfl (lv_at hl 2 rfl) ?_
  refine va_get (D := D) (ci := 5) (v := .ref a1) (C := "ValueBenchModel") (T := TM) (N := 32) hx hb htx inM hown hK hP 0 rfl rfl 26 (by decide) (htx _ kw_5_113) (fun _ h9 => h9) rfl dM_feed_83 ?_
  refine lv_aload_n hx hb dM_feed_86 rfl (lv_at hl 2 rfl) ?_
  refine va_get (D := D) (ci := 5) (v := .int 7) (C := "ValueBenchModel") (T := TM) (N := 32) hx hb htx inM hown hK hP 0 rfl rfl 27 (by decide) (htx _ kw_5_114) (fun _ h9 => h9) rfl dM_feed_87 ?_
  refine lv_iload hx hb dM_feed_90 (lv_at hl 0 rfl) ?_
  refine lv_bipush (v := 24) hx hb dM_feed_92 (by decide) ?_
  refine lv_bipush (v := 8) hx hb dM_feed_94 (by decide) ?_
  refine lv_iload hx hb dM_feed_96 (lv_at hl 1 rfl) ?_
  refine lv_iconst (v := 4) hx hb dM_feed_98 (by decide) ?_
  refine lv_irem hx hb dM_feed_99 (by decide) ?_
  refine W.eq (g2 := F0 m 100 ls [.int 3, .int 8, .int 24, .int x3, .int 7, .ref a1]) rfl ?_
  refine lv_imul hx hb dM_feed_100 ?_
  refine W.eq (g2 := F0 m 101 ls [.int 24, .int 24, .int x3, .int 7, .ref a1]) rfl ?_
  refine lv_isub hx hb dM_feed_101 ?_
  refine W.eq (g2 := F0 m 102 ls [.int 0, .int x3, .int 7, .ref a1]) rfl ?_
  refine lv_ishr hx hb dM_feed_102 ?_
  refine lv_topi (fun y15 ey15 => ?_)
  refine lv_i2b hx hb dM_feed_103 rfl ?_
  refine lv_topi (fun y16 ey16 => ?_)
  refine va_bast hx hb hK hP hD hS 1 0 rfl rfl (show ¬ ((7 : Int32) < 0 ∨ 4096 ≤ (7 : Int32).toNatClampNeg) by decide) dM_feed_104 (fun H locs hP hD hS => ?_)
  obtain ⟨hP, hD⟩ : xPD D xcl A [(a0, .inr (5, [.int 0, v8, v9, v10, v11, v12, v13, v14, v15, v16, v17, v18, v19, v20, v21, v22, v23, v24, v25, v26, v27, v28, v29, v30, v31, v32, .ref a1, .int 7, v33, v34, v35, v36])), (a1, .inl (cT 0, 4096, .inl (upd (upd (upd (upd (upd (upd (upd (upd f37 0 (vp_nar .byte y2)) 1 (vp_nar .byte y4)) 2 (vp_nar .byte y6)) 3 (vp_nar .byte y8)) 4 (vp_nar .byte y10)) 5 (vp_nar .byte y12)) 6 (vp_nar .byte y14)) 7 (vp_nar .byte y16))))] H := ⟨hP, hD⟩
  refine lv_aload_n hx hb dM_feed_105 rfl (lv_at hl 2 rfl) ?_
  refine lv_dup hx hb dM_feed_106 rfl ?_
  refine va_get (D := D) (ci := 5) (v := .int 7) (C := "ValueBenchModel") (T := TM) (N := 32) hx hb htx inM hown hK hP 0 rfl rfl 27 (by decide) (htx _ kw_5_114) (fun _ h9 => h9) rfl dM_feed_107 ?_
  refine lv_iconst (v := 1) hx hb dM_feed_110 (by decide) ?_
  refine lv_iadd hx hb dM_feed_111 ?_
  refine W.eq (g2 := F0 m 112 ls [.int 8, .ref a0]) rfl ?_
  refine va_put (D := D) (ci := 5) (v := .int 8) (ty := .int) (C := "ValueBenchModel") (T := TM) (N := 32) hx hb htx inM tyM tyM_ok nmM hown hK hP hD hS 0 rfl rfl 27 (by decide) (htx _ kw_5_114) (fun _ h9 => h9) rfl (by decide +kernel) rfl rfl (Nat.le_of_ble_eq_true rfl) dM_feed_112 (fun H locs hP hD hS => ?_)
  obtain ⟨hP, hD⟩ : xPD D xcl A [(a0, .inr (5, [.int 0, v8, v9, v10, v11, v12, v13, v14, v15, v16, v17, v18, v19, v20, v21, v22, v23, v24, v25, v26, v27, v28, v29, v30, v31, v32, .ref a1, .int 8, v33, v34, v35, v36])), (a1, .inl (cT 0, 4096, .inl (upd (upd (upd (upd (upd (upd (upd (upd f37 0 (vp_nar .byte y2)) 1 (vp_nar .byte y4)) 2 (vp_nar .byte y6)) 3 (vp_nar .byte y8)) 4 (vp_nar .byte y10)) 5 (vp_nar .byte y12)) 6 (vp_nar .byte y14)) 7 (vp_nar .byte y16))))] H := ⟨hP, hD⟩
  refine lv_iinc (v := 8) (lv' := [(6, .int 8), (7, .int x3), (0, .ref a0), (1, .int x2), (2, .int x3), (3, .int x4), (4, .int x5), (5, .int x6)]) hx hb dM_feed_115 hl (k := 1) rfl (by decide) (by decide) rfl (fun ls hl => ?_)
  refine lv_goto (tgt := 27) hx hb dM_feed_118 (by decide) ?_
  refine lv_iload hx hb dM_feed_27 (lv_at hl 0 rfl) ?_
  refine lv_bipush (v := 20) hx hb dM_feed_29 (by decide) ?_
  refine lv_icmp_ge (tgt := 121) hx hb dM_feed_31 (by decide) (fun h => ((by revert h; decide : False)).elim) (fun _ => ?_)
  refine lv_iload hx hb dM_feed_34 (lv_at hl 0 rfl) ?_
  refine lv_iconst (v := 4) hx hb dM_feed_36 (by decide) ?_
  refine lv_icmp_ge (tgt := 44) hx hb dM_feed_37 (by decide) (fun _ => ?_) (fun h => ((by revert h; decide : False)).elim)
  refine lv_iload hx hb dM_feed_44 (lv_at hl 0 rfl) ?_
  refine lv_bipush (v := 8) hx hb dM_feed_46 (by decide) ?_
  refine lv_icmp_ge (tgt := 55) hx hb dM_feed_48 (by decide) (fun _ => ?_) (fun h => ((by revert h; decide : False)).elim)
  refine lv_iload hx hb dM_feed_55 (lv_at hl 0 rfl) ?_
  refine lv_bipush (v := 12) hx hb dM_feed_57 (by decide) ?_
  refine lv_icmp_ge (tgt := 66) hx hb dM_feed_59 (by decide) (fun h => ((by revert h; decide : False)).elim) (fun _ => ?_)
  refine lv_iload_n hx hb dM_feed_62 rfl (lv_at hl 5 rfl) ?_
  refine lv_goto (tgt := 80) hx hb dM_feed_63 (by decide) ?_
  refine lv_istore (lv' := [(7, .int x4), (6, .int 8), (0, .ref a0), (1, .int x2), (2, .int x3), (3, .int x4), (4, .int x5), (5, .int x6)]) hx hb dM_feed_80 hl (by decide) rfl (fun ls hl => ?_)
  refine lv_aload_n hx hb dM_feed_82 rfl (lv_at hl 2 rfl) ?_
  refine va_get (D := D) (ci := 5) (v := .ref a1) (C := "ValueBenchModel") (T := TM) (N := 32) hx hb htx inM hown hK hP 0 rfl rfl 26 (by decide) (htx _ kw_5_113) (fun _ h9 => h9) rfl dM_feed_83 ?_
  refine lv_aload_n hx hb dM_feed_86 rfl (lv_at hl 2 rfl) ?_
  refine va_get (D := D) (ci := 5) (v := .int 8) (C := "ValueBenchModel") (T := TM) (N := 32) hx hb htx inM hown hK hP 0 rfl rfl 27 (by decide) (htx _ kw_5_114) (fun _ h9 => h9) rfl dM_feed_87 ?_
  refine lv_iload hx hb dM_feed_90 (lv_at hl 0 rfl) ?_
  refine lv_bipush (v := 24) hx hb dM_feed_92 (by decide) ?_
  refine lv_bipush (v := 8) hx hb dM_feed_94 (by decide) ?_
  refine lv_iload hx hb dM_feed_96 (lv_at hl 1 rfl) ?_
  refine lv_iconst (v := 4) hx hb dM_feed_98 (by decide) ?_
  refine lv_irem hx hb dM_feed_99 (by decide) ?_
  refine W.eq (g2 := F0 m 100 ls [.int 0, .int 8, .int 24, .int x4, .int 8, .ref a1]) rfl ?_
  refine lv_imul hx hb dM_feed_100 ?_
  refine W.eq (g2 := F0 m 101 ls [.int 0, .int 24, .int x4, .int 8, .ref a1]) rfl ?_
  refine lv_isub hx hb dM_feed_101 ?_
  refine W.eq (g2 := F0 m 102 ls [.int 24, .int x4, .int 8, .ref a1]) rfl ?_
  refine lv_ishr hx hb dM_feed_102 ?_
  refine lv_topi (fun y17 ey17 => ?_)
  refine lv_i2b hx hb dM_feed_103 rfl ?_
  refine lv_topi (fun y18 ey18 => ?_)
  refine va_bast hx hb hK hP hD hS 1 0 rfl rfl (show ¬ ((8 : Int32) < 0 ∨ 4096 ≤ (8 : Int32).toNatClampNeg) by decide) dM_feed_104 (fun H locs hP hD hS => ?_)
  obtain ⟨hP, hD⟩ : xPD D xcl A [(a0, .inr (5, [.int 0, v8, v9, v10, v11, v12, v13, v14, v15, v16, v17, v18, v19, v20, v21, v22, v23, v24, v25, v26, v27, v28, v29, v30, v31, v32, .ref a1, .int 8, v33, v34, v35, v36])), (a1, .inl (cT 0, 4096, .inl (upd (upd (upd (upd (upd (upd (upd (upd (upd f37 0 (vp_nar .byte y2)) 1 (vp_nar .byte y4)) 2 (vp_nar .byte y6)) 3 (vp_nar .byte y8)) 4 (vp_nar .byte y10)) 5 (vp_nar .byte y12)) 6 (vp_nar .byte y14)) 7 (vp_nar .byte y16)) 8 (vp_nar .byte y18))))] H := ⟨hP, hD⟩
  refine lv_aload_n hx hb dM_feed_105 rfl (lv_at hl 2 rfl) ?_
  refine lv_dup hx hb dM_feed_106 rfl ?_
  refine va_get (D := D) (ci := 5) (v := .int 8) (C := "ValueBenchModel") (T := TM) (N := 32) hx hb htx inM hown hK hP 0 rfl rfl 27 (by decide) (htx _ kw_5_114) (fun _ h9 => h9) rfl dM_feed_107 ?_
  refine lv_iconst (v := 1) hx hb dM_feed_110 (by decide) ?_
  refine lv_iadd hx hb dM_feed_111 ?_
  refine W.eq (g2 := F0 m 112 ls [.int 9, .ref a0]) rfl ?_
  refine va_put (D := D) (ci := 5) (v := .int 9) (ty := .int) (C := "ValueBenchModel") (T := TM) (N := 32) hx hb htx inM tyM tyM_ok nmM hown hK hP hD hS 0 rfl rfl 27 (by decide) (htx _ kw_5_114) (fun _ h9 => h9) rfl (by decide +kernel) rfl rfl (Nat.le_of_ble_eq_true rfl) dM_feed_112 (fun H locs hP hD hS => ?_)
  obtain ⟨hP, hD⟩ : xPD D xcl A [(a0, .inr (5, [.int 0, v8, v9, v10, v11, v12, v13, v14, v15, v16, v17, v18, v19, v20, v21, v22, v23, v24, v25, v26, v27, v28, v29, v30, v31, v32, .ref a1, .int 9, v33, v34, v35, v36])), (a1, .inl (cT 0, 4096, .inl (upd (upd (upd (upd (upd (upd (upd (upd (upd f37 0 (vp_nar .byte y2)) 1 (vp_nar .byte y4)) 2 (vp_nar .byte y6)) 3 (vp_nar .byte y8)) 4 (vp_nar .byte y10)) 5 (vp_nar .byte y12)) 6 (vp_nar .byte y14)) 7 (vp_nar .byte y16)) 8 (vp_nar .byte y18))))] H := ⟨hP, hD⟩
  refine lv_iinc (v := 9) (lv' := [(6, .int 9), (7, .int x4), (0, .ref a0), (1, .int x2), (2, .int x3), (3, .int x4), (4, .int x5), (5, .int x6)]) hx hb dM_feed_115 hl (k := 1) rfl (by decide) (by decide) rfl (fun ls hl => ?_)
  refine lv_goto (tgt := 27) hx hb dM_feed_118 (by decide) ?_
  refine lv_iload hx hb dM_feed_27 (lv_at hl 0 rfl) ?_
  refine lv_bipush (v := 20) hx hb dM_feed_29 (by decide) ?_
  refine lv_icmp_ge (tgt := 121) hx hb dM_feed_31 (by decide) (fun h => ((by revert h; decide : False)).elim) (fun _ => ?_)
  refine lv_iload hx hb dM_feed_34 (lv_at hl 0 rfl) ?_
  refine lv_iconst (v := 4) hx hb dM_feed_36 (by decide) ?_
  refine lv_icmp_ge (tgt := 44) hx hb dM_feed_37 (by decide) (fun _ => ?_) (fun h => ((by revert h; decide : False)).elim)
  refine lv_iload hx hb dM_feed_44 (lv_at hl 0 rfl) ?_
  refine lv_bipush (v := 8) hx hb dM_feed_46 (by decide) ?_
  refine lv_icmp_ge (tgt := 55) hx hb dM_feed_48 (by decide) (fun _ => ?_) (fun h => ((by revert h; decide : False)).elim)
  refine lv_iload hx hb dM_feed_55 (lv_at hl 0 rfl) ?_
  refine lv_bipush (v := 12) hx hb dM_feed_57 (by decide) ?_
  refine lv_icmp_ge (tgt := 66) hx hb dM_feed_59 (by decide) (fun h => ((by revert h; decide : False)).elim) (fun _ => ?_)
  refine lv_iload_n hx hb dM_feed_62 rfl (lv_at hl 5 rfl) ?_
  refine lv_goto (tgt := 80) hx hb dM_feed_63 (by decide) ?_
  refine lv_istore (lv' := [(7, .int x4), (6, .int 9), (0, .ref a0), (1, .int x2), (2, .int x3), (3, .int x4), (4, .int x5), (5, .int x6)]) hx hb dM_feed_80 hl (by decide) rfl (fun ls hl => ?_)
  refine lv_aload_n hx hb dM_feed_82 rfl (lv_at hl 2 rfl) ?_
  refine va_get (D := D) (ci := 5) (v := .ref a1) (C := "ValueBenchModel") (T := TM) (N := 32) hx hb htx inM hown hK hP 0 rfl rfl 26 (by decide) (htx _ kw_5_113) (fun _ h9 => h9) rfl dM_feed_83 ?_
  refine lv_aload_n hx hb dM_feed_86 rfl (lv_at hl 2 rfl) ?_
  refine va_get (D := D) (ci := 5) (v := .int 9) (C := "ValueBenchModel") (T := TM) (N := 32) hx hb htx inM hown hK hP 0 rfl rfl 27 (by decide) (htx _ kw_5_114) (fun _ h9 => h9) rfl dM_feed_87 ?_
  refine lv_iload hx hb dM_feed_90 (lv_at hl 0 rfl) ?_
  refine lv_bipush (v := 24) hx hb dM_feed_92 (by decide) ?_
  refine lv_bipush (v := 8) hx hb dM_feed_94 (by decide) ?_
  refine lv_iload hx hb dM_feed_96 (lv_at hl 1 rfl) ?_
  refine lv_iconst (v := 4) hx hb dM_feed_98 (by decide) ?_
  refine lv_irem hx hb dM_feed_99 (by decide) ?_
  refine W.eq (g2 := F0 m 100 ls [.int 1, .int 8, .int 24, .int x4, .int 9, .ref a1]) rfl ?_
  refine lv_imul hx hb dM_feed_100 ?_
  refine W.eq (g2 := F0 m 101 ls [.int 8, .int 24, .int x4, .int 9, .ref a1]) rfl ?_
  refine lv_isub hx hb dM_feed_101 ?_
  refine W.eq (g2 := F0 m 102 ls [.int 16, .int x4, .int 9, .ref a1]) rfl ?_
  refine lv_ishr hx hb dM_feed_102 ?_
  refine lv_topi (fun y19 ey19 => ?_)
  refine lv_i2b hx hb dM_feed_103 rfl ?_
  refine lv_topi (fun y20 ey20 => ?_)
  refine va_bast hx hb hK hP hD hS 1 0 rfl rfl (show ¬ ((9 : Int32) < 0 ∨ 4096 ≤ (9 : Int32).toNatClampNeg) by decide) dM_feed_104 (fun H locs hP hD hS => ?_)
  obtain ⟨hP, hD⟩ : xPD D xcl A [(a0, .inr (5, [.int 0, v8, v9, v10, v11, v12, v13, v14, v15, v16, v17, v18, v19, v20, v21, v22, v23, v24, v25, v26, v27, v28, v29, v30, v31, v32, .ref a1, .int 9, v33, v34, v35, v36])), (a1, .inl (cT 0, 4096, .inl (upd (upd (upd (upd (upd (upd (upd (upd (upd (upd f37 0 (vp_nar .byte y2)) 1 (vp_nar .byte y4)) 2 (vp_nar .byte y6)) 3 (vp_nar .byte y8)) 4 (vp_nar .byte y10)) 5 (vp_nar .byte y12)) 6 (vp_nar .byte y14)) 7 (vp_nar .byte y16)) 8 (vp_nar .byte y18)) 9 (vp_nar .byte y20))))] H := ⟨hP, hD⟩
  refine lv_aload_n hx hb dM_feed_105 rfl (lv_at hl 2 rfl) ?_
  refine lv_dup hx hb dM_feed_106 rfl ?_
  refine va_get (D := D) (ci := 5) (v := .int 9) (C := "ValueBenchModel") (T := TM) (N := 32) hx hb htx inM hown hK hP 0 rfl rfl 27 (by decide) (htx _ kw_5_114) (fun _ h9 => h9) rfl dM_feed_107 ?_
  refine lv_iconst (v := 1) hx hb dM_feed_110 (by decide) ?_
  refine lv_iadd hx hb dM_feed_111 ?_
  refine W.eq (g2 := F0 m 112 ls [.int 10, .ref a0]) rfl ?_
  refine va_put (D := D) (ci := 5) (v := .int 10) (ty := .int) (C := "ValueBenchModel") (T := TM) (N := 32) hx hb htx inM tyM tyM_ok nmM hown hK hP hD hS 0 rfl rfl 27 (by decide) (htx _ kw_5_114) (fun _ h9 => h9) rfl (by decide +kernel) rfl rfl (Nat.le_of_ble_eq_true rfl) dM_feed_112 (fun H locs hP hD hS => ?_)
  obtain ⟨hP, hD⟩ : xPD D xcl A [(a0, .inr (5, [.int 0, v8, v9, v10, v11, v12, v13, v14, v15, v16, v17, v18, v19, v20, v21, v22, v23, v24, v25, v26, v27, v28, v29, v30, v31, v32, .ref a1, .int 10, v33, v34, v35, v36])), (a1, .inl (cT 0, 4096, .inl (upd (upd (upd (upd (upd (upd (upd (upd (upd (upd f37 0 (vp_nar .byte y2)) 1 (vp_nar .byte y4)) 2 (vp_nar .byte y6)) 3 (vp_nar .byte y8)) 4 (vp_nar .byte y10)) 5 (vp_nar .byte y12)) 6 (vp_nar .byte y14)) 7 (vp_nar .byte y16)) 8 (vp_nar .byte y18)) 9 (vp_nar .byte y20))))] H := ⟨hP, hD⟩
  refine lv_iinc (v := 10) (lv' := [(6, .int 10), (7, .int x4), (0, .ref a0), (1, .int x2), (2, .int x3), (3, .int x4), (4, .int x5), (5, .int x6)]) hx hb dM_feed_115 hl (k := 1) rfl (by decide) (by decide) rfl (fun ls hl => ?_)
  refine lv_goto (tgt := 27) hx hb dM_feed_118 (by decide) ?_
  refine lv_iload hx hb dM_feed_27 (lv_at hl 0 rfl) ?_
  refine lv_bipush (v := 20) hx hb dM_feed_29 (by decide) ?_
  refine lv_icmp_ge (tgt := 121) hx hb dM_feed_31 (by decide) (fun h => ((by revert h; decide : False)).elim) (fun _ => ?_)
  refine lv_iload hx hb dM_feed_34 (lv_at hl 0 rfl) ?_
  refine lv_iconst (v := 4) hx hb dM_feed_36 (by decide) ?_
  refine lv_icmp_ge (tgt := 44) hx hb dM_feed_37 (by decide) (fun _ => ?_) (fun h => ((by revert h; decide : False)).elim)
  refine lv_iload hx hb dM_feed_44 (lv_at hl 0 rfl) ?_
  refine lv_bipush (v := 8) hx hb dM_feed_46 (by decide) ?_
  refine lv_icmp_ge (tgt := 55) hx hb dM_feed_48 (by decide) (fun _ => ?_) (fun h => ((by revert h; decide : False)).elim)
  refine lv_iload hx hb dM_feed_55 (lv_at hl 0 rfl) ?_
  refine lv_bipush (v := 12) hx hb dM_feed_57 (by decide) ?_
  refine lv_icmp_ge (tgt := 66) hx hb dM_feed_59 (by decide) (fun h => ((by revert h; decide : False)).elim) (fun _ => ?_)
  refine lv_iload_n hx hb dM_feed_62 rfl (lv_at hl 5 rfl) ?_
  refine lv_goto (tgt := 80) hx hb dM_feed_63 (by decide) ?_
  refine lv_istore (lv' := [(7, .int x4), (6, .int 10), (0, .ref a0), (1, .int x2), (2, .int x3), (3, .int x4), (4, .int x5), (5, .int x6)]) hx hb dM_feed_80 hl (by decide) rfl (fun ls hl => ?_)
  refine lv_aload_n hx hb dM_feed_82 rfl (lv_at hl 2 rfl) ?_
  refine va_get (D := D) (ci := 5) (v := .ref a1) (C := "ValueBenchModel") (T := TM) (N := 32) hx hb htx inM hown hK hP 0 rfl rfl 26 (by decide) (htx _ kw_5_113) (fun _ h9 => h9) rfl dM_feed_83 ?_
  refine lv_aload_n hx hb dM_feed_86 rfl (lv_at hl 2 rfl) ?_
  refine va_get (D := D) (ci := 5) (v := .int 10) (C := "ValueBenchModel") (T := TM) (N := 32) hx hb htx inM hown hK hP 0 rfl rfl 27 (by decide) (htx _ kw_5_114) (fun _ h9 => h9) rfl dM_feed_87 ?_
  refine lv_iload hx hb dM_feed_90 (lv_at hl 0 rfl) ?_
  refine lv_bipush (v := 24) hx hb dM_feed_92 (by decide) ?_
  refine lv_bipush (v := 8) hx hb dM_feed_94 (by decide) ?_
  refine lv_iload hx hb dM_feed_96 (lv_at hl 1 rfl) ?_
  refine lv_iconst (v := 4) hx hb dM_feed_98 (by decide) ?_
  refine lv_irem hx hb dM_feed_99 (by decide) ?_
  refine W.eq (g2 := F0 m 100 ls [.int 2, .int 8, .int 24, .int x4, .int 10, .ref a1]) rfl ?_
  refine lv_imul hx hb dM_feed_100 ?_
  refine W.eq (g2 := F0 m 101 ls [.int 16, .int 24, .int x4, .int 10, .ref a1]) rfl ?_
  refine lv_isub hx hb dM_feed_101 ?_
  refine W.eq (g2 := F0 m 102 ls [.int 8, .int x4, .int 10, .ref a1]) rfl ?_
  refine lv_ishr hx hb dM_feed_102 ?_
  refine lv_topi (fun y21 ey21 => ?_)
  refine lv_i2b hx hb dM_feed_103 rfl ?_
  refine lv_topi (fun y22 ey22 => ?_)
  refine va_bast hx hb hK hP hD hS 1 0 rfl rfl (show ¬ ((10 : Int32) < 0 ∨ 4096 ≤ (10 : Int32).toNatClampNeg) by decide) dM_feed_104 (fun H locs hP hD hS => ?_)
  obtain ⟨hP, hD⟩ : xPD D xcl A [(a0, .inr (5, [.int 0, v8, v9, v10, v11, v12, v13, v14, v15, v16, v17, v18, v19, v20, v21, v22, v23, v24, v25, v26, v27, v28, v29, v30, v31, v32, .ref a1, .int 10, v33, v34, v35, v36])), (a1, .inl (cT 0, 4096, .inl (upd (upd (upd (upd (upd (upd (upd (upd (upd (upd (upd f37 0 (vp_nar .byte y2)) 1 (vp_nar .byte y4)) 2 (vp_nar .byte y6)) 3 (vp_nar .byte y8)) 4 (vp_nar .byte y10)) 5 (vp_nar .byte y12)) 6 (vp_nar .byte y14)) 7 (vp_nar .byte y16)) 8 (vp_nar .byte y18)) 9 (vp_nar .byte y20)) 10 (vp_nar .byte y22))))] H := ⟨hP, hD⟩
  refine lv_aload_n hx hb dM_feed_105 rfl (lv_at hl 2 rfl) ?_
  refine lv_dup hx hb dM_feed_106 rfl ?_
  refine va_get (D := D) (ci := 5) (v := .int 10) (C := "ValueBenchModel") (T := TM) (N := 32) hx hb htx inM hown hK hP 0 rfl rfl 27 (by decide) (htx _ kw_5_114) (fun _ h9 => h9) rfl dM_feed_107 ?_
  refine lv_iconst (v := 1) hx hb dM_feed_110 (by decide) ?_
  refine lv_iadd hx hb dM_feed_111 ?_
  refine W.eq (g2 := F0 m 112 ls [.int 11, .ref a0]) rfl ?_
  refine va_put (D := D) (ci := 5) (v := .int 11) (ty := .int) (C := "ValueBenchModel") (T := TM) (N := 32) hx hb htx inM tyM tyM_ok nmM hown hK hP hD hS 0 rfl rfl 27 (by decide) (htx _ kw_5_114) (fun _ h9 => h9) rfl (by decide +kernel) rfl rfl (Nat.le_of_ble_eq_true rfl) dM_feed_112 (fun H locs hP hD hS => ?_)
  obtain ⟨hP, hD⟩ : xPD D xcl A [(a0, .inr (5, [.int 0, v8, v9, v10, v11, v12, v13, v14, v15, v16, v17, v18, v19, v20, v21, v22, v23, v24, v25, v26, v27, v28, v29, v30, v31, v32, .ref a1, .int 11, v33, v34, v35, v36])), (a1, .inl (cT 0, 4096, .inl (upd (upd (upd (upd (upd (upd (upd (upd (upd (upd (upd f37 0 (vp_nar .byte y2)) 1 (vp_nar .byte y4)) 2 (vp_nar .byte y6)) 3 (vp_nar .byte y8)) 4 (vp_nar .byte y10)) 5 (vp_nar .byte y12)) 6 (vp_nar .byte y14)) 7 (vp_nar .byte y16)) 8 (vp_nar .byte y18)) 9 (vp_nar .byte y20)) 10 (vp_nar .byte y22))))] H := ⟨hP, hD⟩
  refine lv_iinc (v := 11) (lv' := [(6, .int 11), (7, .int x4), (0, .ref a0), (1, .int x2), (2, .int x3), (3, .int x4), (4, .int x5), (5, .int x6)]) hx hb dM_feed_115 hl (k := 1) rfl (by decide) (by decide) rfl (fun ls hl => ?_)
  refine lv_goto (tgt := 27) hx hb dM_feed_118 (by decide) ?_
  refine lv_iload hx hb dM_feed_27 (lv_at hl 0 rfl) ?_
  refine lv_bipush (v := 20) hx hb dM_feed_29 (by decide) ?_
  refine lv_icmp_ge (tgt := 121) hx hb dM_feed_31 (by decide) (fun h => ((by revert h; decide : False)).elim) (fun _ => ?_)
  refine lv_iload hx hb dM_feed_34 (lv_at hl 0 rfl) ?_
  refine lv_iconst (v := 4) hx hb dM_feed_36 (by decide) ?_
  refine lv_icmp_ge (tgt := 44) hx hb dM_feed_37 (by decide) (fun _ => ?_) (fun h => ((by revert h; decide : False)).elim)
  refine lv_iload hx hb dM_feed_44 (lv_at hl 0 rfl) ?_
  refine lv_bipush (v := 8) hx hb dM_feed_46 (by decide) ?_
  refine lv_icmp_ge (tgt := 55) hx hb dM_feed_48 (by decide) (fun _ => ?_) (fun h => ((by revert h; decide : False)).elim)
  refine lv_iload hx hb dM_feed_55 (lv_at hl 0 rfl) ?_
  refine lv_bipush (v := 12) hx hb dM_feed_57 (by decide) ?_
  refine lv_icmp_ge (tgt := 66) hx hb dM_feed_59 (by decide) (fun h => ((by revert h; decide : False)).elim) (fun _ => ?_)
  refine lv_iload_n hx hb dM_feed_62 rfl (lv_at hl 5 rfl) ?_
  refine lv_goto (tgt := 80) hx hb dM_feed_63 (by decide) ?_
  refine lv_istore (lv' := [(7, .int x4), (6, .int 11), (0, .ref a0), (1, .int x2), (2, .int x3), (3, .int x4), (4, .int x5), (5, .int x6)]) hx hb dM_feed_80 hl (by decide) rfl (fun ls hl => ?_)
  refine lv_aload_n hx hb dM_feed_82 rfl (lv_at hl 2 rfl) ?_
  refine va_get (D := D) (ci := 5) (v := .ref a1) (C := "ValueBenchModel") (T := TM) (N := 32) hx hb htx inM hown hK hP 0 rfl rfl 26 (by decide) (htx _ kw_5_113) (fun _ h9 => h9) rfl dM_feed_83 ?_
  refine lv_aload_n hx hb dM_feed_86 rfl (lv_at hl 2 rfl) ?_
  refine va_get (D := D) (ci := 5) (v := .int 11) (C := "ValueBenchModel") (T := TM) (N := 32) hx hb htx inM hown hK hP 0 rfl rfl 27 (by decide) (htx _ kw_5_114) (fun _ h9 => h9) rfl dM_feed_87 ?_
  refine lv_iload hx hb dM_feed_90 (lv_at hl 0 rfl) ?_
  refine lv_bipush (v := 24) hx hb dM_feed_92 (by decide) ?_
  refine lv_bipush (v := 8) hx hb dM_feed_94 (by decide) ?_
  refine lv_iload hx hb dM_feed_96 (lv_at hl 1 rfl) ?_
  refine lv_iconst (v := 4) hx hb dM_feed_98 (by decide) ?_
  refine lv_irem hx hb dM_feed_99 (by decide) ?_
  refine W.eq (g2 := F0 m 100 ls [.int 3, .int 8, .int 24, .int x4, .int 11, .ref a1]) rfl ?_
  refine lv_imul hx hb dM_feed_100 ?_
  refine W.eq (g2 := F0 m 101 ls [.int 24, .int 24, .int x4, .int 11, .ref a1]) rfl ?_
  refine lv_isub hx hb dM_feed_101 ?_
  refine W.eq (g2 := F0 m 102 ls [.int 0, .int x4, .int 11, .ref a1]) rfl ?_
  refine lv_ishr hx hb dM_feed_102 ?_
  refine lv_topi (fun y23 ey23 => ?_)
  refine lv_i2b hx hb dM_feed_103 rfl ?_
  refine lv_topi (fun y24 ey24 => ?_)
  refine va_bast hx hb hK hP hD hS 1 0 rfl rfl (show ¬ ((11 : Int32) < 0 ∨ 4096 ≤ (11 : Int32).toNatClampNeg) by decide) dM_feed_104 (fun H locs hP hD hS => ?_)
  obtain ⟨hP, hD⟩ : xPD D xcl A [(a0, .inr (5, [.int 0, v8, v9, v10, v11, v12, v13, v14, v15, v16, v17, v18, v19, v20, v21, v22, v23, v24, v25, v26, v27, v28, v29, v30, v31, v32, .ref a1, .int 11, v33, v34, v35, v36])), (a1, .inl (cT 0, 4096, .inl (upd (upd (upd (upd (upd (upd (upd (upd (upd (upd (upd (upd f37 0 (vp_nar .byte y2)) 1 (vp_nar .byte y4)) 2 (vp_nar .byte y6)) 3 (vp_nar .byte y8)) 4 (vp_nar .byte y10)) 5 (vp_nar .byte y12)) 6 (vp_nar .byte y14)) 7 (vp_nar .byte y16)) 8 (vp_nar .byte y18)) 9 (vp_nar .byte y20)) 10 (vp_nar .byte y22)) 11 (vp_nar .byte y24))))] H := ⟨hP, hD⟩
  refine lv_aload_n hx hb dM_feed_105 rfl (lv_at hl 2 rfl) ?_
  refine lv_dup hx hb dM_feed_106 rfl ?_
  refine va_get (D := D) (ci := 5) (v := .int 11) (C := "ValueBenchModel") (T := TM) (N := 32) hx hb htx inM hown hK hP 0 rfl rfl 27 (by decide) (htx _ kw_5_114) (fun _ h9 => h9) rfl dM_feed_107 ?_
  refine lv_iconst (v := 1) hx hb dM_feed_110 (by decide) ?_
  refine lv_iadd hx hb dM_feed_111 ?_
  refine W.eq (g2 := F0 m 112 ls [.int 12, .ref a0]) rfl ?_
  refine va_put (D := D) (ci := 5) (v := .int 12) (ty := .int) (C := "ValueBenchModel") (T := TM) (N := 32) hx hb htx inM tyM tyM_ok nmM hown hK hP hD hS 0 rfl rfl 27 (by decide) (htx _ kw_5_114) (fun _ h9 => h9) rfl (by decide +kernel) rfl rfl (Nat.le_of_ble_eq_true rfl) dM_feed_112 (fun H locs hP hD hS => ?_)
  obtain ⟨hP, hD⟩ : xPD D xcl A [(a0, .inr (5, [.int 0, v8, v9, v10, v11, v12, v13, v14, v15, v16, v17, v18, v19, v20, v21, v22, v23, v24, v25, v26, v27, v28, v29, v30, v31, v32, .ref a1, .int 12, v33, v34, v35, v36])), (a1, .inl (cT 0, 4096, .inl (upd (upd (upd (upd (upd (upd (upd (upd (upd (upd (upd (upd f37 0 (vp_nar .byte y2)) 1 (vp_nar .byte y4)) 2 (vp_nar .byte y6)) 3 (vp_nar .byte y8)) 4 (vp_nar .byte y10)) 5 (vp_nar .byte y12)) 6 (vp_nar .byte y14)) 7 (vp_nar .byte y16)) 8 (vp_nar .byte y18)) 9 (vp_nar .byte y20)) 10 (vp_nar .byte y22)) 11 (vp_nar .byte y24))))] H := ⟨hP, hD⟩
  refine lv_iinc (v := 12) (lv' := [(6, .int 12), (7, .int x4), (0, .ref a0), (1, .int x2), (2, .int x3), (3, .int x4), (4, .int x5), (5, .int x6)]) hx hb dM_feed_115 hl (k := 1) rfl (by decide) (by decide) rfl (fun ls hl => ?_)
  refine lv_goto (tgt := 27) hx hb dM_feed_118 (by decide) ?_
  refine lv_iload hx hb dM_feed_27 (lv_at hl 0 rfl) ?_
  refine lv_bipush (v := 20) hx hb dM_feed_29 (by decide) ?_
  refine lv_icmp_ge (tgt := 121) hx hb dM_feed_31 (by decide) (fun h => ((by revert h; decide : False)).elim) (fun _ => ?_)
  refine lv_iload hx hb dM_feed_34 (lv_at hl 0 rfl) ?_
  refine lv_iconst (v := 4) hx hb dM_feed_36 (by decide) ?_
  refine lv_icmp_ge (tgt := 44) hx hb dM_feed_37 (by decide) (fun _ => ?_) (fun h => ((by revert h; decide : False)).elim)
  refine lv_iload hx hb dM_feed_44 (lv_at hl 0 rfl) ?_
  refine lv_bipush (v := 8) hx hb dM_feed_46 (by decide) ?_
  refine lv_icmp_ge (tgt := 55) hx hb dM_feed_48 (by decide) (fun _ => ?_) (fun h => ((by revert h; decide : False)).elim)
  refine lv_iload hx hb dM_feed_55 (lv_at hl 0 rfl) ?_
  refine lv_bipush (v := 12) hx hb dM_feed_57 (by decide) ?_
  refine lv_icmp_ge (tgt := 66) hx hb dM_feed_59 (by decide) (fun _ => ?_) (fun h => ((by revert h; decide : False)).elim)
  refine lv_iload hx hb dM_feed_66 (lv_at hl 0 rfl) ?_
  refine lv_bipush (v := 16) hx hb dM_feed_68 (by decide) ?_
  refine lv_icmp_ge (tgt := 78) hx hb dM_feed_70 (by decide) (fun h => ((by revert h; decide : False)).elim) (fun _ => ?_)
  refine lv_iload hx hb dM_feed_73 (lv_at hl 6 rfl) ?_
  refine lv_goto (tgt := 80) hx hb dM_feed_75 (by decide) ?_
  refine lv_istore (lv' := [(7, .int x5), (6, .int 12), (0, .ref a0), (1, .int x2), (2, .int x3), (3, .int x4), (4, .int x5), (5, .int x6)]) hx hb dM_feed_80 hl (by decide) rfl (fun ls hl => ?_)
  refine lv_aload_n hx hb dM_feed_82 rfl (lv_at hl 2 rfl) ?_
  refine va_get (D := D) (ci := 5) (v := .ref a1) (C := "ValueBenchModel") (T := TM) (N := 32) hx hb htx inM hown hK hP 0 rfl rfl 26 (by decide) (htx _ kw_5_113) (fun _ h9 => h9) rfl dM_feed_83 ?_
  refine lv_aload_n hx hb dM_feed_86 rfl (lv_at hl 2 rfl) ?_
  refine va_get (D := D) (ci := 5) (v := .int 12) (C := "ValueBenchModel") (T := TM) (N := 32) hx hb htx inM hown hK hP 0 rfl rfl 27 (by decide) (htx _ kw_5_114) (fun _ h9 => h9) rfl dM_feed_87 ?_
  refine lv_iload hx hb dM_feed_90 (lv_at hl 0 rfl) ?_
  refine lv_bipush (v := 24) hx hb dM_feed_92 (by decide) ?_
  refine lv_bipush (v := 8) hx hb dM_feed_94 (by decide) ?_
  refine lv_iload hx hb dM_feed_96 (lv_at hl 1 rfl) ?_
  refine lv_iconst (v := 4) hx hb dM_feed_98 (by decide) ?_
  refine lv_irem hx hb dM_feed_99 (by decide) ?_
  refine W.eq (g2 := F0 m 100 ls [.int 0, .int 8, .int 24, .int x5, .int 12, .ref a1]) rfl ?_
  refine lv_imul hx hb dM_feed_100 ?_
  refine W.eq (g2 := F0 m 101 ls [.int 0, .int 24, .int x5, .int 12, .ref a1]) rfl ?_
  refine lv_isub hx hb dM_feed_101 ?_
  refine W.eq (g2 := F0 m 102 ls [.int 24, .int x5, .int 12, .ref a1]) rfl ?_
  refine lv_ishr hx hb dM_feed_102 ?_
  refine lv_topi (fun y25 ey25 => ?_)
  refine lv_i2b hx hb dM_feed_103 rfl ?_
  refine lv_topi (fun y26 ey26 => ?_)
  refine va_bast hx hb hK hP hD hS 1 0 rfl rfl (show ¬ ((12 : Int32) < 0 ∨ 4096 ≤ (12 : Int32).toNatClampNeg) by decide) dM_feed_104 (fun H locs hP hD hS => ?_)
  obtain ⟨hP, hD⟩ : xPD D xcl A [(a0, .inr (5, [.int 0, v8, v9, v10, v11, v12, v13, v14, v15, v16, v17, v18, v19, v20, v21, v22, v23, v24, v25, v26, v27, v28, v29, v30, v31, v32, .ref a1, .int 12, v33, v34, v35, v36])), (a1, .inl (cT 0, 4096, .inl (upd (upd (upd (upd (upd (upd (upd (upd (upd (upd (upd (upd (upd f37 0 (vp_nar .byte y2)) 1 (vp_nar .byte y4)) 2 (vp_nar .byte y6)) 3 (vp_nar .byte y8)) 4 (vp_nar .byte y10)) 5 (vp_nar .byte y12)) 6 (vp_nar .byte y14)) 7 (vp_nar .byte y16)) 8 (vp_nar .byte y18)) 9 (vp_nar .byte y20)) 10 (vp_nar .byte y22)) 11 (vp_nar .byte y24)) 12 (vp_nar .byte y26))))] H := ⟨hP, hD⟩
  refine lv_aload_n hx hb dM_feed_105 rfl (lv_at hl 2 rfl) ?_
  refine lv_dup hx hb dM_feed_106 rfl ?_
  refine va_get (D := D) (ci := 5) (v := .int 12) (C := "ValueBenchModel") (T := TM) (N := 32) hx hb htx inM hown hK hP 0 rfl rfl 27 (by decide) (htx _ kw_5_114) (fun _ h9 => h9) rfl dM_feed_107 ?_
  refine lv_iconst (v := 1) hx hb dM_feed_110 (by decide) ?_
  refine lv_iadd hx hb dM_feed_111 ?_
  refine W.eq (g2 := F0 m 112 ls [.int 13, .ref a0]) rfl ?_
  refine va_put (D := D) (ci := 5) (v := .int 13) (ty := .int) (C := "ValueBenchModel") (T := TM) (N := 32) hx hb htx inM tyM tyM_ok nmM hown hK hP hD hS 0 rfl rfl 27 (by decide) (htx _ kw_5_114) (fun _ h9 => h9) rfl (by decide +kernel) rfl rfl (Nat.le_of_ble_eq_true rfl) dM_feed_112 (fun H locs hP hD hS => ?_)
  obtain ⟨hP, hD⟩ : xPD D xcl A [(a0, .inr (5, [.int 0, v8, v9, v10, v11, v12, v13, v14, v15, v16, v17, v18, v19, v20, v21, v22, v23, v24, v25, v26, v27, v28, v29, v30, v31, v32, .ref a1, .int 13, v33, v34, v35, v36])), (a1, .inl (cT 0, 4096, .inl (upd (upd (upd (upd (upd (upd (upd (upd (upd (upd (upd (upd (upd f37 0 (vp_nar .byte y2)) 1 (vp_nar .byte y4)) 2 (vp_nar .byte y6)) 3 (vp_nar .byte y8)) 4 (vp_nar .byte y10)) 5 (vp_nar .byte y12)) 6 (vp_nar .byte y14)) 7 (vp_nar .byte y16)) 8 (vp_nar .byte y18)) 9 (vp_nar .byte y20)) 10 (vp_nar .byte y22)) 11 (vp_nar .byte y24)) 12 (vp_nar .byte y26))))] H := ⟨hP, hD⟩
  refine lv_iinc (v := 13) (lv' := [(6, .int 13), (7, .int x5), (0, .ref a0), (1, .int x2), (2, .int x3), (3, .int x4), (4, .int x5), (5, .int x6)]) hx hb dM_feed_115 hl (k := 1) rfl (by decide) (by decide) rfl (fun ls hl => ?_)
  refine lv_goto (tgt := 27) hx hb dM_feed_118 (by decide) ?_
  refine lv_iload hx hb dM_feed_27 (lv_at hl 0 rfl) ?_
  refine lv_bipush (v := 20) hx hb dM_feed_29 (by decide) ?_
  refine lv_icmp_ge (tgt := 121) hx hb dM_feed_31 (by decide) (fun h => ((by revert h; decide : False)).elim) (fun _ => ?_)
  refine lv_iload hx hb dM_feed_34 (lv_at hl 0 rfl) ?_
  refine lv_iconst (v := 4) hx hb dM_feed_36 (by decide) ?_
  refine lv_icmp_ge (tgt := 44) hx hb dM_feed_37 (by decide) (fun _ => ?_) (fun h => ((by revert h; decide : False)).elim)
  refine lv_iload hx hb dM_feed_44 (lv_at hl 0 rfl) ?_
  refine lv_bipush (v := 8) hx hb dM_feed_46 (by decide) ?_
  refine lv_icmp_ge (tgt := 55) hx hb dM_feed_48 (by decide) (fun _ => ?_) (fun h => ((by revert h; decide : False)).elim)
  refine lv_iload hx hb dM_feed_55 (lv_at hl 0 rfl) ?_
  refine lv_bipush (v := 12) hx hb dM_feed_57 (by decide) ?_
  refine lv_icmp_ge (tgt := 66) hx hb dM_feed_59 (by decide) (fun _ => ?_) (fun h => ((by revert h; decide : False)).elim)
  refine lv_iload hx hb dM_feed_66 (lv_at hl 0 rfl) ?_
  refine lv_bipush (v := 16) hx hb dM_feed_68 (by decide) ?_
  refine lv_icmp_ge (tgt := 78) hx hb dM_feed_70 (by decide) (fun h => ((by revert h; decide : False)).elim) (fun _ => ?_)
  refine lv_iload hx hb dM_feed_73 (lv_at hl 6 rfl) ?_
  refine lv_goto (tgt := 80) hx hb dM_feed_75 (by decide) ?_
  refine lv_istore (lv' := [(7, .int x5), (6, .int 13), (0, .ref a0), (1, .int x2), (2, .int x3), (3, .int x4), (4, .int x5), (5, .int x6)]) hx hb dM_feed_80 hl (by decide) rfl (fun ls hl => ?_)
  refine lv_aload_n hx hb dM_feed_82 rfl (lv_at hl 2 rfl) ?_
  refine va_get (D := D) (ci := 5) (v := .ref a1) (C := "ValueBenchModel") (T := TM) (N := 32) hx hb htx inM hown hK hP 0 rfl rfl 26 (by decide) (htx _ kw_5_113) (fun _ h9 => h9) rfl dM_feed_83 ?_
  refine lv_aload_n hx hb dM_feed_86 rfl (lv_at hl 2 rfl) ?_
  refine va_get (D := D) (ci := 5) (v := .int 13) (C := "ValueBenchModel") (T := TM) (N := 32) hx hb htx inM hown hK hP 0 rfl rfl 27 (by decide) (htx _ kw_5_114) (fun _ h9 => h9) rfl dM_feed_87 ?_
  refine lv_iload hx hb dM_feed_90 (lv_at hl 0 rfl) ?_
  refine lv_bipush (v := 24) hx hb dM_feed_92 (by decide) ?_
  refine lv_bipush (v := 8) hx hb dM_feed_94 (by decide) ?_
  refine lv_iload hx hb dM_feed_96 (lv_at hl 1 rfl) ?_
  refine lv_iconst (v := 4) hx hb dM_feed_98 (by decide) ?_
  refine lv_irem hx hb dM_feed_99 (by decide) ?_
  refine W.eq (g2 := F0 m 100 ls [.int 1, .int 8, .int 24, .int x5, .int 13, .ref a1]) rfl ?_
  refine lv_imul hx hb dM_feed_100 ?_
  refine W.eq (g2 := F0 m 101 ls [.int 8, .int 24, .int x5, .int 13, .ref a1]) rfl ?_
  refine lv_isub hx hb dM_feed_101 ?_
  refine W.eq (g2 := F0 m 102 ls [.int 16, .int x5, .int 13, .ref a1]) rfl ?_
  refine lv_ishr hx hb dM_feed_102 ?_
  refine lv_topi (fun y27 ey27 => ?_)
  refine lv_i2b hx hb dM_feed_103 rfl ?_
  refine lv_topi (fun y28 ey28 => ?_)
  refine va_bast hx hb hK hP hD hS 1 0 rfl rfl (show ¬ ((13 : Int32) < 0 ∨ 4096 ≤ (13 : Int32).toNatClampNeg) by decide) dM_feed_104 (fun H locs hP hD hS => ?_)
  obtain ⟨hP, hD⟩ : xPD D xcl A [(a0, .inr (5, [.int 0, v8, v9, v10, v11, v12, v13, v14, v15, v16, v17, v18, v19, v20, v21, v22, v23, v24, v25, v26, v27, v28, v29, v30, v31, v32, .ref a1, .int 13, v33, v34, v35, v36])), (a1, .inl (cT 0, 4096, .inl (upd (upd (upd (upd (upd (upd (upd (upd (upd (upd (upd (upd (upd (upd f37 0 (vp_nar .byte y2)) 1 (vp_nar .byte y4)) 2 (vp_nar .byte y6)) 3 (vp_nar .byte y8)) 4 (vp_nar .byte y10)) 5 (vp_nar .byte y12)) 6 (vp_nar .byte y14)) 7 (vp_nar .byte y16)) 8 (vp_nar .byte y18)) 9 (vp_nar .byte y20)) 10 (vp_nar .byte y22)) 11 (vp_nar .byte y24)) 12 (vp_nar .byte y26)) 13 (vp_nar .byte y28))))] H := ⟨hP, hD⟩
  refine lv_aload_n hx hb dM_feed_105 rfl (lv_at hl 2 rfl) ?_
  refine lv_dup hx hb dM_feed_106 rfl ?_
  refine va_get (D := D) (ci := 5) (v := .int 13) (C := "ValueBenchModel") (T := TM) (N := 32) hx hb htx inM hown hK hP 0 rfl rfl 27 (by decide) (htx _ kw_5_114) (fun _ h9 => h9) rfl dM_feed_107 ?_
  refine lv_iconst (v := 1) hx hb dM_feed_110 (by decide) ?_
  refine lv_iadd hx hb dM_feed_111 ?_
  refine W.eq (g2 := F0 m 112 ls [.int 14, .ref a0]) rfl ?_
  refine va_put (D := D) (ci := 5) (v := .int 14) (ty := .int) (C := "ValueBenchModel") (T := TM) (N := 32) hx hb htx inM tyM tyM_ok nmM hown hK hP hD hS 0 rfl rfl 27 (by decide) (htx _ kw_5_114) (fun _ h9 => h9) rfl (by decide +kernel) rfl rfl (Nat.le_of_ble_eq_true rfl) dM_feed_112 (fun H locs hP hD hS => ?_)
  obtain ⟨hP, hD⟩ : xPD D xcl A [(a0, .inr (5, [.int 0, v8, v9, v10, v11, v12, v13, v14, v15, v16, v17, v18, v19, v20, v21, v22, v23, v24, v25, v26, v27, v28, v29, v30, v31, v32, .ref a1, .int 14, v33, v34, v35, v36])), (a1, .inl (cT 0, 4096, .inl (upd (upd (upd (upd (upd (upd (upd (upd (upd (upd (upd (upd (upd (upd f37 0 (vp_nar .byte y2)) 1 (vp_nar .byte y4)) 2 (vp_nar .byte y6)) 3 (vp_nar .byte y8)) 4 (vp_nar .byte y10)) 5 (vp_nar .byte y12)) 6 (vp_nar .byte y14)) 7 (vp_nar .byte y16)) 8 (vp_nar .byte y18)) 9 (vp_nar .byte y20)) 10 (vp_nar .byte y22)) 11 (vp_nar .byte y24)) 12 (vp_nar .byte y26)) 13 (vp_nar .byte y28))))] H := ⟨hP, hD⟩
  refine lv_iinc (v := 14) (lv' := [(6, .int 14), (7, .int x5), (0, .ref a0), (1, .int x2), (2, .int x3), (3, .int x4), (4, .int x5), (5, .int x6)]) hx hb dM_feed_115 hl (k := 1) rfl (by decide) (by decide) rfl (fun ls hl => ?_)
  refine lv_goto (tgt := 27) hx hb dM_feed_118 (by decide) ?_
  refine lv_iload hx hb dM_feed_27 (lv_at hl 0 rfl) ?_
  refine lv_bipush (v := 20) hx hb dM_feed_29 (by decide) ?_
  refine lv_icmp_ge (tgt := 121) hx hb dM_feed_31 (by decide) (fun h => ((by revert h; decide : False)).elim) (fun _ => ?_)
  refine lv_iload hx hb dM_feed_34 (lv_at hl 0 rfl) ?_
  refine lv_iconst (v := 4) hx hb dM_feed_36 (by decide) ?_
  refine lv_icmp_ge (tgt := 44) hx hb dM_feed_37 (by decide) (fun _ => ?_) (fun h => ((by revert h; decide : False)).elim)
  refine lv_iload hx hb dM_feed_44 (lv_at hl 0 rfl) ?_
  refine lv_bipush (v := 8) hx hb dM_feed_46 (by decide) ?_
  refine lv_icmp_ge (tgt := 55) hx hb dM_feed_48 (by decide) (fun _ => ?_) (fun h => ((by revert h; decide : False)).elim)
  refine lv_iload hx hb dM_feed_55 (lv_at hl 0 rfl) ?_
  refine lv_bipush (v := 12) hx hb dM_feed_57 (by decide) ?_
  refine lv_icmp_ge (tgt := 66) hx hb dM_feed_59 (by decide) (fun _ => ?_) (fun h => ((by revert h; decide : False)).elim)
  refine lv_iload hx hb dM_feed_66 (lv_at hl 0 rfl) ?_
  refine lv_bipush (v := 16) hx hb dM_feed_68 (by decide) ?_
  refine lv_icmp_ge (tgt := 78) hx hb dM_feed_70 (by decide) (fun h => ((by revert h; decide : False)).elim) (fun _ => ?_)
  refine lv_iload hx hb dM_feed_73 (lv_at hl 6 rfl) ?_
  refine lv_goto (tgt := 80) hx hb dM_feed_75 (by decide) ?_
  refine lv_istore (lv' := [(7, .int x5), (6, .int 14), (0, .ref a0), (1, .int x2), (2, .int x3), (3, .int x4), (4, .int x5), (5, .int x6)]) hx hb dM_feed_80 hl (by decide) rfl (fun ls hl => ?_)
  refine lv_aload_n hx hb dM_feed_82 rfl (lv_at hl 2 rfl) ?_
  refine va_get (D := D) (ci := 5) (v := .ref a1) (C := "ValueBenchModel") (T := TM) (N := 32) hx hb htx inM hown hK hP 0 rfl rfl 26 (by decide) (htx _ kw_5_113) (fun _ h9 => h9) rfl dM_feed_83 ?_
  refine lv_aload_n hx hb dM_feed_86 rfl (lv_at hl 2 rfl) ?_
  refine va_get (D := D) (ci := 5) (v := .int 14) (C := "ValueBenchModel") (T := TM) (N := 32) hx hb htx inM hown hK hP 0 rfl rfl 27 (by decide) (htx _ kw_5_114) (fun _ h9 => h9) rfl dM_feed_87 ?_
  refine lv_iload hx hb dM_feed_90 (lv_at hl 0 rfl) ?_
  refine lv_bipush (v := 24) hx hb dM_feed_92 (by decide) ?_
  refine lv_bipush (v := 8) hx hb dM_feed_94 (by decide) ?_
  refine lv_iload hx hb dM_feed_96 (lv_at hl 1 rfl) ?_
  refine lv_iconst (v := 4) hx hb dM_feed_98 (by decide) ?_
  refine lv_irem hx hb dM_feed_99 (by decide) ?_
  refine W.eq (g2 := F0 m 100 ls [.int 2, .int 8, .int 24, .int x5, .int 14, .ref a1]) rfl ?_
  refine lv_imul hx hb dM_feed_100 ?_
  refine W.eq (g2 := F0 m 101 ls [.int 16, .int 24, .int x5, .int 14, .ref a1]) rfl ?_
  refine lv_isub hx hb dM_feed_101 ?_
  refine W.eq (g2 := F0 m 102 ls [.int 8, .int x5, .int 14, .ref a1]) rfl ?_
  refine lv_ishr hx hb dM_feed_102 ?_
  refine lv_topi (fun y29 ey29 => ?_)
  refine lv_i2b hx hb dM_feed_103 rfl ?_
  refine lv_topi (fun y30 ey30 => ?_)
  refine va_bast hx hb hK hP hD hS 1 0 rfl rfl (show ¬ ((14 : Int32) < 0 ∨ 4096 ≤ (14 : Int32).toNatClampNeg) by decide) dM_feed_104 (fun H locs hP hD hS => ?_)
  obtain ⟨hP, hD⟩ : xPD D xcl A [(a0, .inr (5, [.int 0, v8, v9, v10, v11, v12, v13, v14, v15, v16, v17, v18, v19, v20, v21, v22, v23, v24, v25, v26, v27, v28, v29, v30, v31, v32, .ref a1, .int 14, v33, v34, v35, v36])), (a1, .inl (cT 0, 4096, .inl (upd (upd (upd (upd (upd (upd (upd (upd (upd (upd (upd (upd (upd (upd (upd f37 0 (vp_nar .byte y2)) 1 (vp_nar .byte y4)) 2 (vp_nar .byte y6)) 3 (vp_nar .byte y8)) 4 (vp_nar .byte y10)) 5 (vp_nar .byte y12)) 6 (vp_nar .byte y14)) 7 (vp_nar .byte y16)) 8 (vp_nar .byte y18)) 9 (vp_nar .byte y20)) 10 (vp_nar .byte y22)) 11 (vp_nar .byte y24)) 12 (vp_nar .byte y26)) 13 (vp_nar .byte y28)) 14 (vp_nar .byte y30))))] H := ⟨hP, hD⟩
  refine lv_aload_n hx hb dM_feed_105 rfl (lv_at hl 2 rfl) ?_
  refine lv_dup hx hb dM_feed_106 rfl ?_
  refine va_get (D := D) (ci := 5) (v := .int 14) (C := "ValueBenchModel") (T := TM) (N := 32) hx hb htx inM hown hK hP 0 rfl rfl 27 (by decide) (htx _ kw_5_114) (fun _ h9 => h9) rfl dM_feed_107 ?_
  refine lv_iconst (v := 1) hx hb dM_feed_110 (by decide) ?_
  refine lv_iadd hx hb dM_feed_111 ?_
  refine W.eq (g2 := F0 m 112 ls [.int 15, .ref a0]) rfl ?_
  refine va_put (D := D) (ci := 5) (v := .int 15) (ty := .int) (C := "ValueBenchModel") (T := TM) (N := 32) hx hb htx inM tyM tyM_ok nmM hown hK hP hD hS 0 rfl rfl 27 (by decide) (htx _ kw_5_114) (fun _ h9 => h9) rfl (by decide +kernel) rfl rfl (Nat.le_of_ble_eq_true rfl) dM_feed_112 (fun H locs hP hD hS => ?_)
  obtain ⟨hP, hD⟩ : xPD D xcl A [(a0, .inr (5, [.int 0, v8, v9, v10, v11, v12, v13, v14, v15, v16, v17, v18, v19, v20, v21, v22, v23, v24, v25, v26, v27, v28, v29, v30, v31, v32, .ref a1, .int 15, v33, v34, v35, v36])), (a1, .inl (cT 0, 4096, .inl (upd (upd (upd (upd (upd (upd (upd (upd (upd (upd (upd (upd (upd (upd (upd f37 0 (vp_nar .byte y2)) 1 (vp_nar .byte y4)) 2 (vp_nar .byte y6)) 3 (vp_nar .byte y8)) 4 (vp_nar .byte y10)) 5 (vp_nar .byte y12)) 6 (vp_nar .byte y14)) 7 (vp_nar .byte y16)) 8 (vp_nar .byte y18)) 9 (vp_nar .byte y20)) 10 (vp_nar .byte y22)) 11 (vp_nar .byte y24)) 12 (vp_nar .byte y26)) 13 (vp_nar .byte y28)) 14 (vp_nar .byte y30))))] H := ⟨hP, hD⟩
  refine lv_iinc (v := 15) (lv' := [(6, .int 15), (7, .int x5), (0, .ref a0), (1, .int x2), (2, .int x3), (3, .int x4), (4, .int x5), (5, .int x6)]) hx hb dM_feed_115 hl (k := 1) rfl (by decide) (by decide) rfl (fun ls hl => ?_)
  refine lv_goto (tgt := 27) hx hb dM_feed_118 (by decide) ?_
  refine lv_iload hx hb dM_feed_27 (lv_at hl 0 rfl) ?_
  refine lv_bipush (v := 20) hx hb dM_feed_29 (by decide) ?_
  refine lv_icmp_ge (tgt := 121) hx hb dM_feed_31 (by decide) (fun h => ((by revert h; decide : False)).elim) (fun _ => ?_)
  refine lv_iload hx hb dM_feed_34 (lv_at hl 0 rfl) ?_
  refine lv_iconst (v := 4) hx hb dM_feed_36 (by decide) ?_
  refine lv_icmp_ge (tgt := 44) hx hb dM_feed_37 (by decide) (fun _ => ?_) (fun h => ((by revert h; decide : False)).elim)
  refine lv_iload hx hb dM_feed_44 (lv_at hl 0 rfl) ?_
  refine lv_bipush (v := 8) hx hb dM_feed_46 (by decide) ?_
  refine lv_icmp_ge (tgt := 55) hx hb dM_feed_48 (by decide) (fun _ => ?_) (fun h => ((by revert h; decide : False)).elim)
  refine lv_iload hx hb dM_feed_55 (lv_at hl 0 rfl) ?_
  refine lv_bipush (v := 12) hx hb dM_feed_57 (by decide) ?_
  refine lv_icmp_ge (tgt := 66) hx hb dM_feed_59 (by decide) (fun _ => ?_) (fun h => ((by revert h; decide : False)).elim)
  refine lv_iload hx hb dM_feed_66 (lv_at hl 0 rfl) ?_
  refine lv_bipush (v := 16) hx hb dM_feed_68 (by decide) ?_
  refine lv_icmp_ge (tgt := 78) hx hb dM_feed_70 (by decide) (fun h => ((by revert h; decide : False)).elim) (fun _ => ?_)
  refine lv_iload hx hb dM_feed_73 (lv_at hl 6 rfl) ?_
  refine lv_goto (tgt := 80) hx hb dM_feed_75 (by decide) ?_
  refine lv_istore (lv' := [(7, .int x5), (6, .int 15), (0, .ref a0), (1, .int x2), (2, .int x3), (3, .int x4), (4, .int x5), (5, .int x6)]) hx hb dM_feed_80 hl (by decide) rfl (fun ls hl => ?_)
  refine lv_aload_n hx hb dM_feed_82 rfl (lv_at hl 2 rfl) ?_
  refine va_get (D := D) (ci := 5) (v := .ref a1) (C := "ValueBenchModel") (T := TM) (N := 32) hx hb htx inM hown hK hP 0 rfl rfl 26 (by decide) (htx _ kw_5_113) (fun _ h9 => h9) rfl dM_feed_83 ?_
  refine lv_aload_n hx hb dM_feed_86 rfl (lv_at hl 2 rfl) ?_
  refine va_get (D := D) (ci := 5) (v := .int 15) (C := "ValueBenchModel") (T := TM) (N := 32) hx hb htx inM hown hK hP 0 rfl rfl 27 (by decide) (htx _ kw_5_114) (fun _ h9 => h9) rfl dM_feed_87 ?_
  refine lv_iload hx hb dM_feed_90 (lv_at hl 0 rfl) ?_
  refine lv_bipush (v := 24) hx hb dM_feed_92 (by decide) ?_
  refine lv_bipush (v := 8) hx hb dM_feed_94 (by decide) ?_
  refine lv_iload hx hb dM_feed_96 (lv_at hl 1 rfl) ?_
  refine lv_iconst (v := 4) hx hb dM_feed_98 (by decide) ?_
  refine lv_irem hx hb dM_feed_99 (by decide) ?_
  refine W.eq (g2 := F0 m 100 ls [.int 3, .int 8, .int 24, .int x5, .int 15, .ref a1]) rfl ?_
  refine lv_imul hx hb dM_feed_100 ?_
  refine W.eq (g2 := F0 m 101 ls [.int 24, .int 24, .int x5, .int 15, .ref a1]) rfl ?_
  refine lv_isub hx hb dM_feed_101 ?_
  refine W.eq (g2 := F0 m 102 ls [.int 0, .int x5, .int 15, .ref a1]) rfl ?_
  refine lv_ishr hx hb dM_feed_102 ?_
  refine lv_topi (fun y31 ey31 => ?_)
  refine lv_i2b hx hb dM_feed_103 rfl ?_
  refine lv_topi (fun y32 ey32 => ?_)
  refine va_bast hx hb hK hP hD hS 1 0 rfl rfl (show ¬ ((15 : Int32) < 0 ∨ 4096 ≤ (15 : Int32).toNatClampNeg) by decide) dM_feed_104 (fun H locs hP hD hS => ?_)
  obtain ⟨hP, hD⟩ : xPD D xcl A [(a0, .inr (5, [.int 0, v8, v9, v10, v11, v12, v13, v14, v15, v16, v17, v18, v19, v20, v21, v22, v23, v24, v25, v26, v27, v28, v29, v30, v31, v32, .ref a1, .int 15, v33, v34, v35, v36])), (a1, .inl (cT 0, 4096, .inl (upd (upd (upd (upd (upd (upd (upd (upd (upd (upd (upd (upd (upd (upd (upd (upd f37 0 (vp_nar .byte y2)) 1 (vp_nar .byte y4)) 2 (vp_nar .byte y6)) 3 (vp_nar .byte y8)) 4 (vp_nar .byte y10)) 5 (vp_nar .byte y12)) 6 (vp_nar .byte y14)) 7 (vp_nar .byte y16)) 8 (vp_nar .byte y18)) 9 (vp_nar .byte y20)) 10 (vp_nar .byte y22)) 11 (vp_nar .byte y24)) 12 (vp_nar .byte y26)) 13 (vp_nar .byte y28)) 14 (vp_nar .byte y30)) 15 (vp_nar .byte y32))))] H := ⟨hP, hD⟩
  refine lv_aload_n hx hb dM_feed_105 rfl (lv_at hl 2 rfl) ?_
  refine lv_dup hx hb dM_feed_106 rfl ?_
  refine va_get (D := D) (ci := 5) (v := .int 15) (C := "ValueBenchModel") (T := TM) (N := 32) hx hb htx inM hown hK hP 0 rfl rfl 27 (by decide) (htx _ kw_5_114) (fun _ h9 => h9) rfl dM_feed_107 ?_
  refine lv_iconst (v := 1) hx hb dM_feed_110 (by decide) ?_
  refine lv_iadd hx hb dM_feed_111 ?_
  refine W.eq (g2 := F0 m 112 ls [.int 16, .ref a0]) rfl ?_
  refine va_put (D := D) (ci := 5) (v := .int 16) (ty := .int) (C := "ValueBenchModel") (T := TM) (N := 32) hx hb htx inM tyM tyM_ok nmM hown hK hP hD hS 0 rfl rfl 27 (by decide) (htx _ kw_5_114) (fun _ h9 => h9) rfl (by decide +kernel) rfl rfl (Nat.le_of_ble_eq_true rfl) dM_feed_112 (fun H locs hP hD hS => ?_)
  obtain ⟨hP, hD⟩ : xPD D xcl A [(a0, .inr (5, [.int 0, v8, v9, v10, v11, v12, v13, v14, v15, v16, v17, v18, v19, v20, v21, v22, v23, v24, v25, v26, v27, v28, v29, v30, v31, v32, .ref a1, .int 16, v33, v34, v35, v36])), (a1, .inl (cT 0, 4096, .inl (upd (upd (upd (upd (upd (upd (upd (upd (upd (upd (upd (upd (upd (upd (upd (upd f37 0 (vp_nar .byte y2)) 1 (vp_nar .byte y4)) 2 (vp_nar .byte y6)) 3 (vp_nar .byte y8)) 4 (vp_nar .byte y10)) 5 (vp_nar .byte y12)) 6 (vp_nar .byte y14)) 7 (vp_nar .byte y16)) 8 (vp_nar .byte y18)) 9 (vp_nar .byte y20)) 10 (vp_nar .byte y22)) 11 (vp_nar .byte y24)) 12 (vp_nar .byte y26)) 13 (vp_nar .byte y28)) 14 (vp_nar .byte y30)) 15 (vp_nar .byte y32))))] H := ⟨hP, hD⟩
  refine lv_iinc (v := 16) (lv' := [(6, .int 16), (7, .int x5), (0, .ref a0), (1, .int x2), (2, .int x3), (3, .int x4), (4, .int x5), (5, .int x6)]) hx hb dM_feed_115 hl (k := 1) rfl (by decide) (by decide) rfl (fun ls hl => ?_)
  refine lv_goto (tgt := 27) hx hb dM_feed_118 (by decide) ?_
  refine lv_iload hx hb dM_feed_27 (lv_at hl 0 rfl) ?_
  refine lv_bipush (v := 20) hx hb dM_feed_29 (by decide) ?_
  refine lv_icmp_ge (tgt := 121) hx hb dM_feed_31 (by decide) (fun h => ((by revert h; decide : False)).elim) (fun _ => ?_)
  refine lv_iload hx hb dM_feed_34 (lv_at hl 0 rfl) ?_
  refine lv_iconst (v := 4) hx hb dM_feed_36 (by decide) ?_
  refine lv_icmp_ge (tgt := 44) hx hb dM_feed_37 (by decide) (fun _ => ?_) (fun h => ((by revert h; decide : False)).elim)
  refine lv_iload hx hb dM_feed_44 (lv_at hl 0 rfl) ?_
  refine lv_bipush (v := 8) hx hb dM_feed_46 (by decide) ?_
  refine lv_icmp_ge (tgt := 55) hx hb dM_feed_48 (by decide) (fun _ => ?_) (fun h => ((by revert h; decide : False)).elim)
  refine lv_iload hx hb dM_feed_55 (lv_at hl 0 rfl) ?_
  refine lv_bipush (v := 12) hx hb dM_feed_57 (by decide) ?_
  refine lv_icmp_ge (tgt := 66) hx hb dM_feed_59 (by decide) (fun _ => ?_) (fun h => ((by revert h; decide : False)).elim)
  refine lv_iload hx hb dM_feed_66 (lv_at hl 0 rfl) ?_
  refine lv_bipush (v := 16) hx hb dM_feed_68 (by decide) ?_
  refine lv_icmp_ge (tgt := 78) hx hb dM_feed_70 (by decide) (fun _ => ?_) (fun h => ((by revert h; decide : False)).elim)
  refine lv_iload hx hb dM_feed_78 (lv_at hl 7 rfl) ?_
  refine lv_istore (lv' := [(7, .int x6), (6, .int 16), (0, .ref a0), (1, .int x2), (2, .int x3), (3, .int x4), (4, .int x5), (5, .int x6)]) hx hb dM_feed_80 hl (by decide) rfl (fun ls hl => ?_)
  refine lv_aload_n hx hb dM_feed_82 rfl (lv_at hl 2 rfl) ?_
  refine va_get (D := D) (ci := 5) (v := .ref a1) (C := "ValueBenchModel") (T := TM) (N := 32) hx hb htx inM hown hK hP 0 rfl rfl 26 (by decide) (htx _ kw_5_113) (fun _ h9 => h9) rfl dM_feed_83 ?_
  refine lv_aload_n hx hb dM_feed_86 rfl (lv_at hl 2 rfl) ?_
  refine va_get (D := D) (ci := 5) (v := .int 16) (C := "ValueBenchModel") (T := TM) (N := 32) hx hb htx inM hown hK hP 0 rfl rfl 27 (by decide) (htx _ kw_5_114) (fun _ h9 => h9) rfl dM_feed_87 ?_
  refine lv_iload hx hb dM_feed_90 (lv_at hl 0 rfl) ?_
  refine lv_bipush (v := 24) hx hb dM_feed_92 (by decide) ?_
  refine lv_bipush (v := 8) hx hb dM_feed_94 (by decide) ?_
  refine lv_iload hx hb dM_feed_96 (lv_at hl 1 rfl) ?_
  refine lv_iconst (v := 4) hx hb dM_feed_98 (by decide) ?_
  refine lv_irem hx hb dM_feed_99 (by decide) ?_
  refine W.eq (g2 := F0 m 100 ls [.int 0, .int 8, .int 24, .int x6, .int 16, .ref a1]) rfl ?_
  refine lv_imul hx hb dM_feed_100 ?_
  refine W.eq (g2 := F0 m 101 ls [.int 0, .int 24, .int x6, .int 16, .ref a1]) rfl ?_
  refine lv_isub hx hb dM_feed_101 ?_
  refine W.eq (g2 := F0 m 102 ls [.int 24, .int x6, .int 16, .ref a1]) rfl ?_
  refine lv_ishr hx hb dM_feed_102 ?_
  refine lv_topi (fun y33 ey33 => ?_)
  refine lv_i2b hx hb dM_feed_103 rfl ?_
  refine lv_topi (fun y34 ey34 => ?_)
  refine va_bast hx hb hK hP hD hS 1 0 rfl rfl (show ¬ ((16 : Int32) < 0 ∨ 4096 ≤ (16 : Int32).toNatClampNeg) by decide) dM_feed_104 (fun H locs hP hD hS => ?_)
  obtain ⟨hP, hD⟩ : xPD D xcl A [(a0, .inr (5, [.int 0, v8, v9, v10, v11, v12, v13, v14, v15, v16, v17, v18, v19, v20, v21, v22, v23, v24, v25, v26, v27, v28, v29, v30, v31, v32, .ref a1, .int 16, v33, v34, v35, v36])), (a1, .inl (cT 0, 4096, .inl (upd (upd (upd (upd (upd (upd (upd (upd (upd (upd (upd (upd (upd (upd (upd (upd (upd f37 0 (vp_nar .byte y2)) 1 (vp_nar .byte y4)) 2 (vp_nar .byte y6)) 3 (vp_nar .byte y8)) 4 (vp_nar .byte y10)) 5 (vp_nar .byte y12)) 6 (vp_nar .byte y14)) 7 (vp_nar .byte y16)) 8 (vp_nar .byte y18)) 9 (vp_nar .byte y20)) 10 (vp_nar .byte y22)) 11 (vp_nar .byte y24)) 12 (vp_nar .byte y26)) 13 (vp_nar .byte y28)) 14 (vp_nar .byte y30)) 15 (vp_nar .byte y32)) 16 (vp_nar .byte y34))))] H := ⟨hP, hD⟩
  refine lv_aload_n hx hb dM_feed_105 rfl (lv_at hl 2 rfl) ?_
  refine lv_dup hx hb dM_feed_106 rfl ?_
  refine va_get (D := D) (ci := 5) (v := .int 16) (C := "ValueBenchModel") (T := TM) (N := 32) hx hb htx inM hown hK hP 0 rfl rfl 27 (by decide) (htx _ kw_5_114) (fun _ h9 => h9) rfl dM_feed_107 ?_
  refine lv_iconst (v := 1) hx hb dM_feed_110 (by decide) ?_
  refine lv_iadd hx hb dM_feed_111 ?_
  refine W.eq (g2 := F0 m 112 ls [.int 17, .ref a0]) rfl ?_
  refine va_put (D := D) (ci := 5) (v := .int 17) (ty := .int) (C := "ValueBenchModel") (T := TM) (N := 32) hx hb htx inM tyM tyM_ok nmM hown hK hP hD hS 0 rfl rfl 27 (by decide) (htx _ kw_5_114) (fun _ h9 => h9) rfl (by decide +kernel) rfl rfl (Nat.le_of_ble_eq_true rfl) dM_feed_112 (fun H locs hP hD hS => ?_)
  obtain ⟨hP, hD⟩ : xPD D xcl A [(a0, .inr (5, [.int 0, v8, v9, v10, v11, v12, v13, v14, v15, v16, v17, v18, v19, v20, v21, v22, v23, v24, v25, v26, v27, v28, v29, v30, v31, v32, .ref a1, .int 17, v33, v34, v35, v36])), (a1, .inl (cT 0, 4096, .inl (upd (upd (upd (upd (upd (upd (upd (upd (upd (upd (upd (upd (upd (upd (upd (upd (upd f37 0 (vp_nar .byte y2)) 1 (vp_nar .byte y4)) 2 (vp_nar .byte y6)) 3 (vp_nar .byte y8)) 4 (vp_nar .byte y10)) 5 (vp_nar .byte y12)) 6 (vp_nar .byte y14)) 7 (vp_nar .byte y16)) 8 (vp_nar .byte y18)) 9 (vp_nar .byte y20)) 10 (vp_nar .byte y22)) 11 (vp_nar .byte y24)) 12 (vp_nar .byte y26)) 13 (vp_nar .byte y28)) 14 (vp_nar .byte y30)) 15 (vp_nar .byte y32)) 16 (vp_nar .byte y34))))] H := ⟨hP, hD⟩
  refine lv_iinc (v := 17) (lv' := [(6, .int 17), (7, .int x6), (0, .ref a0), (1, .int x2), (2, .int x3), (3, .int x4), (4, .int x5), (5, .int x6)]) hx hb dM_feed_115 hl (k := 1) rfl (by decide) (by decide) rfl (fun ls hl => ?_)
  refine lv_goto (tgt := 27) hx hb dM_feed_118 (by decide) ?_
  refine lv_iload hx hb dM_feed_27 (lv_at hl 0 rfl) ?_
  refine lv_bipush (v := 20) hx hb dM_feed_29 (by decide) ?_
  refine lv_icmp_ge (tgt := 121) hx hb dM_feed_31 (by decide) (fun h => ((by revert h; decide : False)).elim) (fun _ => ?_)
  refine lv_iload hx hb dM_feed_34 (lv_at hl 0 rfl) ?_
  refine lv_iconst (v := 4) hx hb dM_feed_36 (by decide) ?_
  refine lv_icmp_ge (tgt := 44) hx hb dM_feed_37 (by decide) (fun _ => ?_) (fun h => ((by revert h; decide : False)).elim)
  refine lv_iload hx hb dM_feed_44 (lv_at hl 0 rfl) ?_
  refine lv_bipush (v := 8) hx hb dM_feed_46 (by decide) ?_
  refine lv_icmp_ge (tgt := 55) hx hb dM_feed_48 (by decide) (fun _ => ?_) (fun h => ((by revert h; decide : False)).elim)
  refine lv_iload hx hb dM_feed_55 (lv_at hl 0 rfl) ?_
  refine lv_bipush (v := 12) hx hb dM_feed_57 (by decide) ?_
  refine lv_icmp_ge (tgt := 66) hx hb dM_feed_59 (by decide) (fun _ => ?_) (fun h => ((by revert h; decide : False)).elim)
  refine lv_iload hx hb dM_feed_66 (lv_at hl 0 rfl) ?_
  refine lv_bipush (v := 16) hx hb dM_feed_68 (by decide) ?_
  refine lv_icmp_ge (tgt := 78) hx hb dM_feed_70 (by decide) (fun _ => ?_) (fun h => ((by revert h; decide : False)).elim)
  refine lv_iload hx hb dM_feed_78 (lv_at hl 7 rfl) ?_
  refine lv_istore (lv' := [(7, .int x6), (6, .int 17), (0, .ref a0), (1, .int x2), (2, .int x3), (3, .int x4), (4, .int x5), (5, .int x6)]) hx hb dM_feed_80 hl (by decide) rfl (fun ls hl => ?_)
  refine lv_aload_n hx hb dM_feed_82 rfl (lv_at hl 2 rfl) ?_
  refine va_get (D := D) (ci := 5) (v := .ref a1) (C := "ValueBenchModel") (T := TM) (N := 32) hx hb htx inM hown hK hP 0 rfl rfl 26 (by decide) (htx _ kw_5_113) (fun _ h9 => h9) rfl dM_feed_83 ?_
  refine lv_aload_n hx hb dM_feed_86 rfl (lv_at hl 2 rfl) ?_
  refine va_get (D := D) (ci := 5) (v := .int 17) (C := "ValueBenchModel") (T := TM) (N := 32) hx hb htx inM hown hK hP 0 rfl rfl 27 (by decide) (htx _ kw_5_114) (fun _ h9 => h9) rfl dM_feed_87 ?_
  refine lv_iload hx hb dM_feed_90 (lv_at hl 0 rfl) ?_
  refine lv_bipush (v := 24) hx hb dM_feed_92 (by decide) ?_
  refine lv_bipush (v := 8) hx hb dM_feed_94 (by decide) ?_
  refine lv_iload hx hb dM_feed_96 (lv_at hl 1 rfl) ?_
  refine lv_iconst (v := 4) hx hb dM_feed_98 (by decide) ?_
  refine lv_irem hx hb dM_feed_99 (by decide) ?_
  refine W.eq (g2 := F0 m 100 ls [.int 1, .int 8, .int 24, .int x6, .int 17, .ref a1]) rfl ?_
  refine lv_imul hx hb dM_feed_100 ?_
  refine W.eq (g2 := F0 m 101 ls [.int 8, .int 24, .int x6, .int 17, .ref a1]) rfl ?_
  refine lv_isub hx hb dM_feed_101 ?_
  refine W.eq (g2 := F0 m 102 ls [.int 16, .int x6, .int 17, .ref a1]) rfl ?_
  refine lv_ishr hx hb dM_feed_102 ?_
  refine lv_topi (fun y35 ey35 => ?_)
  refine lv_i2b hx hb dM_feed_103 rfl ?_
  refine lv_topi (fun y36 ey36 => ?_)
  refine va_bast hx hb hK hP hD hS 1 0 rfl rfl (show ¬ ((17 : Int32) < 0 ∨ 4096 ≤ (17 : Int32).toNatClampNeg) by decide) dM_feed_104 (fun H locs hP hD hS => ?_)
  obtain ⟨hP, hD⟩ : xPD D xcl A [(a0, .inr (5, [.int 0, v8, v9, v10, v11, v12, v13, v14, v15, v16, v17, v18, v19, v20, v21, v22, v23, v24, v25, v26, v27, v28, v29, v30, v31, v32, .ref a1, .int 17, v33, v34, v35, v36])), (a1, .inl (cT 0, 4096, .inl (upd (upd (upd (upd (upd (upd (upd (upd (upd (upd (upd (upd (upd (upd (upd (upd (upd (upd f37 0 (vp_nar .byte y2)) 1 (vp_nar .byte y4)) 2 (vp_nar .byte y6)) 3 (vp_nar .byte y8)) 4 (vp_nar .byte y10)) 5 (vp_nar .byte y12)) 6 (vp_nar .byte y14)) 7 (vp_nar .byte y16)) 8 (vp_nar .byte y18)) 9 (vp_nar .byte y20)) 10 (vp_nar .byte y22)) 11 (vp_nar .byte y24)) 12 (vp_nar .byte y26)) 13 (vp_nar .byte y28)) 14 (vp_nar .byte y30)) 15 (vp_nar .byte y32)) 16 (vp_nar .byte y34)) 17 (vp_nar .byte y36))))] H := ⟨hP, hD⟩
  refine lv_aload_n hx hb dM_feed_105 rfl (lv_at hl 2 rfl) ?_
  refine lv_dup hx hb dM_feed_106 rfl ?_
  refine va_get (D := D) (ci := 5) (v := .int 17) (C := "ValueBenchModel") (T := TM) (N := 32) hx hb htx inM hown hK hP 0 rfl rfl 27 (by decide) (htx _ kw_5_114) (fun _ h9 => h9) rfl dM_feed_107 ?_
  refine lv_iconst (v := 1) hx hb dM_feed_110 (by decide) ?_
  refine lv_iadd hx hb dM_feed_111 ?_
  refine W.eq (g2 := F0 m 112 ls [.int 18, .ref a0]) rfl ?_
  refine va_put (D := D) (ci := 5) (v := .int 18) (ty := .int) (C := "ValueBenchModel") (T := TM) (N := 32) hx hb htx inM tyM tyM_ok nmM hown hK hP hD hS 0 rfl rfl 27 (by decide) (htx _ kw_5_114) (fun _ h9 => h9) rfl (by decide +kernel) rfl rfl (Nat.le_of_ble_eq_true rfl) dM_feed_112 (fun H locs hP hD hS => ?_)
  obtain ⟨hP, hD⟩ : xPD D xcl A [(a0, .inr (5, [.int 0, v8, v9, v10, v11, v12, v13, v14, v15, v16, v17, v18, v19, v20, v21, v22, v23, v24, v25, v26, v27, v28, v29, v30, v31, v32, .ref a1, .int 18, v33, v34, v35, v36])), (a1, .inl (cT 0, 4096, .inl (upd (upd (upd (upd (upd (upd (upd (upd (upd (upd (upd (upd (upd (upd (upd (upd (upd (upd f37 0 (vp_nar .byte y2)) 1 (vp_nar .byte y4)) 2 (vp_nar .byte y6)) 3 (vp_nar .byte y8)) 4 (vp_nar .byte y10)) 5 (vp_nar .byte y12)) 6 (vp_nar .byte y14)) 7 (vp_nar .byte y16)) 8 (vp_nar .byte y18)) 9 (vp_nar .byte y20)) 10 (vp_nar .byte y22)) 11 (vp_nar .byte y24)) 12 (vp_nar .byte y26)) 13 (vp_nar .byte y28)) 14 (vp_nar .byte y30)) 15 (vp_nar .byte y32)) 16 (vp_nar .byte y34)) 17 (vp_nar .byte y36))))] H := ⟨hP, hD⟩
  refine lv_iinc (v := 18) (lv' := [(6, .int 18), (7, .int x6), (0, .ref a0), (1, .int x2), (2, .int x3), (3, .int x4), (4, .int x5), (5, .int x6)]) hx hb dM_feed_115 hl (k := 1) rfl (by decide) (by decide) rfl (fun ls hl => ?_)
  refine lv_goto (tgt := 27) hx hb dM_feed_118 (by decide) ?_
  refine lv_iload hx hb dM_feed_27 (lv_at hl 0 rfl) ?_
  refine lv_bipush (v := 20) hx hb dM_feed_29 (by decide) ?_
  refine lv_icmp_ge (tgt := 121) hx hb dM_feed_31 (by decide) (fun h => ((by revert h; decide : False)).elim) (fun _ => ?_)
  refine lv_iload hx hb dM_feed_34 (lv_at hl 0 rfl) ?_
  refine lv_iconst (v := 4) hx hb dM_feed_36 (by decide) ?_
  refine lv_icmp_ge (tgt := 44) hx hb dM_feed_37 (by decide) (fun _ => ?_) (fun h => ((by revert h; decide : False)).elim)
  refine lv_iload hx hb dM_feed_44 (lv_at hl 0 rfl) ?_
  refine lv_bipush (v := 8) hx hb dM_feed_46 (by decide) ?_
  refine lv_icmp_ge (tgt := 55) hx hb dM_feed_48 (by decide) (fun _ => ?_) (fun h => ((by revert h; decide : False)).elim)
  refine lv_iload hx hb dM_feed_55 (lv_at hl 0 rfl) ?_
  refine lv_bipush (v := 12) hx hb dM_feed_57 (by decide) ?_
  refine lv_icmp_ge (tgt := 66) hx hb dM_feed_59 (by decide) (fun _ => ?_) (fun h => ((by revert h; decide : False)).elim)
  refine lv_iload hx hb dM_feed_66 (lv_at hl 0 rfl) ?_
  refine lv_bipush (v := 16) hx hb dM_feed_68 (by decide) ?_
  refine lv_icmp_ge (tgt := 78) hx hb dM_feed_70 (by decide) (fun _ => ?_) (fun h => ((by revert h; decide : False)).elim)
  refine lv_iload hx hb dM_feed_78 (lv_at hl 7 rfl) ?_
  refine lv_istore (lv' := [(7, .int x6), (6, .int 18), (0, .ref a0), (1, .int x2), (2, .int x3), (3, .int x4), (4, .int x5), (5, .int x6)]) hx hb dM_feed_80 hl (by decide) rfl (fun ls hl => ?_)
  refine lv_aload_n hx hb dM_feed_82 rfl (lv_at hl 2 rfl) ?_
  refine va_get (D := D) (ci := 5) (v := .ref a1) (C := "ValueBenchModel") (T := TM) (N := 32) hx hb htx inM hown hK hP 0 rfl rfl 26 (by decide) (htx _ kw_5_113) (fun _ h9 => h9) rfl dM_feed_83 ?_
  refine lv_aload_n hx hb dM_feed_86 rfl (lv_at hl 2 rfl) ?_
  refine va_get (D := D) (ci := 5) (v := .int 18) (C := "ValueBenchModel") (T := TM) (N := 32) hx hb htx inM hown hK hP 0 rfl rfl 27 (by decide) (htx _ kw_5_114) (fun _ h9 => h9) rfl dM_feed_87 ?_
  refine lv_iload hx hb dM_feed_90 (lv_at hl 0 rfl) ?_
  refine lv_bipush (v := 24) hx hb dM_feed_92 (by decide) ?_
  refine lv_bipush (v := 8) hx hb dM_feed_94 (by decide) ?_
  refine lv_iload hx hb dM_feed_96 (lv_at hl 1 rfl) ?_
  refine lv_iconst (v := 4) hx hb dM_feed_98 (by decide) ?_
  refine lv_irem hx hb dM_feed_99 (by decide) ?_
  refine W.eq (g2 := F0 m 100 ls [.int 2, .int 8, .int 24, .int x6, .int 18, .ref a1]) rfl ?_
  refine lv_imul hx hb dM_feed_100 ?_
  refine W.eq (g2 := F0 m 101 ls [.int 16, .int 24, .int x6, .int 18, .ref a1]) rfl ?_
  refine lv_isub hx hb dM_feed_101 ?_
  refine W.eq (g2 := F0 m 102 ls [.int 8, .int x6, .int 18, .ref a1]) rfl ?_
  refine lv_ishr hx hb dM_feed_102 ?_
  refine lv_topi (fun y37 ey37 => ?_)
  refine lv_i2b hx hb dM_feed_103 rfl ?_
  refine lv_topi (fun y38 ey38 => ?_)
  refine va_bast hx hb hK hP hD hS 1 0 rfl rfl (show ¬ ((18 : Int32) < 0 ∨ 4096 ≤ (18 : Int32).toNatClampNeg) by decide) dM_feed_104 (fun H locs hP hD hS => ?_)
  obtain ⟨hP, hD⟩ : xPD D xcl A [(a0, .inr (5, [.int 0, v8, v9, v10, v11, v12, v13, v14, v15, v16, v17, v18, v19, v20, v21, v22, v23, v24, v25, v26, v27, v28, v29, v30, v31, v32, .ref a1, .int 18, v33, v34, v35, v36])), (a1, .inl (cT 0, 4096, .inl (upd (upd (upd (upd (upd (upd (upd (upd (upd (upd (upd (upd (upd (upd (upd (upd (upd (upd (upd f37 0 (vp_nar .byte y2)) 1 (vp_nar .byte y4)) 2 (vp_nar .byte y6)) 3 (vp_nar .byte y8)) 4 (vp_nar .byte y10)) 5 (vp_nar .byte y12)) 6 (vp_nar .byte y14)) 7 (vp_nar .byte y16)) 8 (vp_nar .byte y18)) 9 (vp_nar .byte y20)) 10 (vp_nar .byte y22)) 11 (vp_nar .byte y24)) 12 (vp_nar .byte y26)) 13 (vp_nar .byte y28)) 14 (vp_nar .byte y30)) 15 (vp_nar .byte y32)) 16 (vp_nar .byte y34)) 17 (vp_nar .byte y36)) 18 (vp_nar .byte y38))))] H := ⟨hP, hD⟩
  refine lv_aload_n hx hb dM_feed_105 rfl (lv_at hl 2 rfl) ?_
  refine lv_dup hx hb dM_feed_106 rfl ?_
  refine va_get (D := D) (ci := 5) (v := .int 18) (C := "ValueBenchModel") (T := TM) (N := 32) hx hb htx inM hown hK hP 0 rfl rfl 27 (by decide) (htx _ kw_5_114) (fun _ h9 => h9) rfl dM_feed_107 ?_
  refine lv_iconst (v := 1) hx hb dM_feed_110 (by decide) ?_
  refine lv_iadd hx hb dM_feed_111 ?_
  refine W.eq (g2 := F0 m 112 ls [.int 19, .ref a0]) rfl ?_
  refine va_put (D := D) (ci := 5) (v := .int 19) (ty := .int) (C := "ValueBenchModel") (T := TM) (N := 32) hx hb htx inM tyM tyM_ok nmM hown hK hP hD hS 0 rfl rfl 27 (by decide) (htx _ kw_5_114) (fun _ h9 => h9) rfl (by decide +kernel) rfl rfl (Nat.le_of_ble_eq_true rfl) dM_feed_112 (fun H locs hP hD hS => ?_)
  obtain ⟨hP, hD⟩ : xPD D xcl A [(a0, .inr (5, [.int 0, v8, v9, v10, v11, v12, v13, v14, v15, v16, v17, v18, v19, v20, v21, v22, v23, v24, v25, v26, v27, v28, v29, v30, v31, v32, .ref a1, .int 19, v33, v34, v35, v36])), (a1, .inl (cT 0, 4096, .inl (upd (upd (upd (upd (upd (upd (upd (upd (upd (upd (upd (upd (upd (upd (upd (upd (upd (upd (upd f37 0 (vp_nar .byte y2)) 1 (vp_nar .byte y4)) 2 (vp_nar .byte y6)) 3 (vp_nar .byte y8)) 4 (vp_nar .byte y10)) 5 (vp_nar .byte y12)) 6 (vp_nar .byte y14)) 7 (vp_nar .byte y16)) 8 (vp_nar .byte y18)) 9 (vp_nar .byte y20)) 10 (vp_nar .byte y22)) 11 (vp_nar .byte y24)) 12 (vp_nar .byte y26)) 13 (vp_nar .byte y28)) 14 (vp_nar .byte y30)) 15 (vp_nar .byte y32)) 16 (vp_nar .byte y34)) 17 (vp_nar .byte y36)) 18 (vp_nar .byte y38))))] H := ⟨hP, hD⟩
  refine lv_iinc (v := 19) (lv' := [(6, .int 19), (7, .int x6), (0, .ref a0), (1, .int x2), (2, .int x3), (3, .int x4), (4, .int x5), (5, .int x6)]) hx hb dM_feed_115 hl (k := 1) rfl (by decide) (by decide) rfl (fun ls hl => ?_)
  refine lv_goto (tgt := 27) hx hb dM_feed_118 (by decide) ?_
  refine lv_iload hx hb dM_feed_27 (lv_at hl 0 rfl) ?_
  refine lv_bipush (v := 20) hx hb dM_feed_29 (by decide) ?_
  refine lv_icmp_ge (tgt := 121) hx hb dM_feed_31 (by decide) (fun h => ((by revert h; decide : False)).elim) (fun _ => ?_)
  refine lv_iload hx hb dM_feed_34 (lv_at hl 0 rfl) ?_
  refine lv_iconst (v := 4) hx hb dM_feed_36 (by decide) ?_
  refine lv_icmp_ge (tgt := 44) hx hb dM_feed_37 (by decide) (fun _ => ?_) (fun h => ((by revert h; decide : False)).elim)
  refine lv_iload hx hb dM_feed_44 (lv_at hl 0 rfl) ?_
  refine lv_bipush (v := 8) hx hb dM_feed_46 (by decide) ?_
  refine lv_icmp_ge (tgt := 55) hx hb dM_feed_48 (by decide) (fun _ => ?_) (fun h => ((by revert h; decide : False)).elim)
  refine lv_iload hx hb dM_feed_55 (lv_at hl 0 rfl) ?_
  refine lv_bipush (v := 12) hx hb dM_feed_57 (by decide) ?_
  refine lv_icmp_ge (tgt := 66) hx hb dM_feed_59 (by decide) (fun _ => ?_) (fun h => ((by revert h; decide : False)).elim)
  refine lv_iload hx hb dM_feed_66 (lv_at hl 0 rfl) ?_
  refine lv_bipush (v := 16) hx hb dM_feed_68 (by decide) ?_
  refine lv_icmp_ge (tgt := 78) hx hb dM_feed_70 (by decide) (fun _ => ?_) (fun h => ((by revert h; decide : False)).elim)
  refine lv_iload hx hb dM_feed_78 (lv_at hl 7 rfl) ?_
  refine lv_istore (lv' := [(7, .int x6), (6, .int 19), (0, .ref a0), (1, .int x2), (2, .int x3), (3, .int x4), (4, .int x5), (5, .int x6)]) hx hb dM_feed_80 hl (by decide) rfl (fun ls hl => ?_)
  refine lv_aload_n hx hb dM_feed_82 rfl (lv_at hl 2 rfl) ?_
  refine va_get (D := D) (ci := 5) (v := .ref a1) (C := "ValueBenchModel") (T := TM) (N := 32) hx hb htx inM hown hK hP 0 rfl rfl 26 (by decide) (htx _ kw_5_113) (fun _ h9 => h9) rfl dM_feed_83 ?_
  refine lv_aload_n hx hb dM_feed_86 rfl (lv_at hl 2 rfl) ?_
  refine va_get (D := D) (ci := 5) (v := .int 19) (C := "ValueBenchModel") (T := TM) (N := 32) hx hb htx inM hown hK hP 0 rfl rfl 27 (by decide) (htx _ kw_5_114) (fun _ h9 => h9) rfl dM_feed_87 ?_
  refine lv_iload hx hb dM_feed_90 (lv_at hl 0 rfl) ?_
  refine lv_bipush (v := 24) hx hb dM_feed_92 (by decide) ?_
  refine lv_bipush (v := 8) hx hb dM_feed_94 (by decide) ?_
  refine lv_iload hx hb dM_feed_96 (lv_at hl 1 rfl) ?_
  refine lv_iconst (v := 4) hx hb dM_feed_98 (by decide) ?_
  refine lv_irem hx hb dM_feed_99 (by decide) ?_
  refine W.eq (g2 := F0 m 100 ls [.int 3, .int 8, .int 24, .int x6, .int 19, .ref a1]) rfl ?_
  refine lv_imul hx hb dM_feed_100 ?_
  refine W.eq (g2 := F0 m 101 ls [.int 24, .int 24, .int x6, .int 19, .ref a1]) rfl ?_
  refine lv_isub hx hb dM_feed_101 ?_
  refine W.eq (g2 := F0 m 102 ls [.int 0, .int x6, .int 19, .ref a1]) rfl ?_
  refine lv_ishr hx hb dM_feed_102 ?_
  refine lv_topi (fun y39 ey39 => ?_)
  refine lv_i2b hx hb dM_feed_103 rfl ?_
  refine lv_topi (fun y40 ey40 => ?_)
  refine va_bast hx hb hK hP hD hS 1 0 rfl rfl (show ¬ ((19 : Int32) < 0 ∨ 4096 ≤ (19 : Int32).toNatClampNeg) by decide) dM_feed_104 (fun H locs hP hD hS => ?_)
  obtain ⟨hP, hD⟩ : xPD D xcl A [(a0, .inr (5, [.int 0, v8, v9, v10, v11, v12, v13, v14, v15, v16, v17, v18, v19, v20, v21, v22, v23, v24, v25, v26, v27, v28, v29, v30, v31, v32, .ref a1, .int 19, v33, v34, v35, v36])), (a1, .inl (cT 0, 4096, .inl (upd (upd (upd (upd (upd (upd (upd (upd (upd (upd (upd (upd (upd (upd (upd (upd (upd (upd (upd (upd f37 0 (vp_nar .byte y2)) 1 (vp_nar .byte y4)) 2 (vp_nar .byte y6)) 3 (vp_nar .byte y8)) 4 (vp_nar .byte y10)) 5 (vp_nar .byte y12)) 6 (vp_nar .byte y14)) 7 (vp_nar .byte y16)) 8 (vp_nar .byte y18)) 9 (vp_nar .byte y20)) 10 (vp_nar .byte y22)) 11 (vp_nar .byte y24)) 12 (vp_nar .byte y26)) 13 (vp_nar .byte y28)) 14 (vp_nar .byte y30)) 15 (vp_nar .byte y32)) 16 (vp_nar .byte y34)) 17 (vp_nar .byte y36)) 18 (vp_nar .byte y38)) 19 (vp_nar .byte y40))))] H := ⟨hP, hD⟩
  refine lv_aload_n hx hb dM_feed_105 rfl (lv_at hl 2 rfl) ?_
  refine lv_dup hx hb dM_feed_106 rfl ?_
  refine va_get (D := D) (ci := 5) (v := .int 19) (C := "ValueBenchModel") (T := TM) (N := 32) hx hb htx inM hown hK hP 0 rfl rfl 27 (by decide) (htx _ kw_5_114) (fun _ h9 => h9) rfl dM_feed_107 ?_
  refine lv_iconst (v := 1) hx hb dM_feed_110 (by decide) ?_
  refine lv_iadd hx hb dM_feed_111 ?_
  refine W.eq (g2 := F0 m 112 ls [.int 20, .ref a0]) rfl ?_
  refine va_put (D := D) (ci := 5) (v := .int 20) (ty := .int) (C := "ValueBenchModel") (T := TM) (N := 32) hx hb htx inM tyM tyM_ok nmM hown hK hP hD hS 0 rfl rfl 27 (by decide) (htx _ kw_5_114) (fun _ h9 => h9) rfl (by decide +kernel) rfl rfl (Nat.le_of_ble_eq_true rfl) dM_feed_112 (fun H locs hP hD hS => ?_)
  obtain ⟨hP, hD⟩ : xPD D xcl A [(a0, .inr (5, [.int 0, v8, v9, v10, v11, v12, v13, v14, v15, v16, v17, v18, v19, v20, v21, v22, v23, v24, v25, v26, v27, v28, v29, v30, v31, v32, .ref a1, .int 20, v33, v34, v35, v36])), (a1, .inl (cT 0, 4096, .inl (upd (upd (upd (upd (upd (upd (upd (upd (upd (upd (upd (upd (upd (upd (upd (upd (upd (upd (upd (upd f37 0 (vp_nar .byte y2)) 1 (vp_nar .byte y4)) 2 (vp_nar .byte y6)) 3 (vp_nar .byte y8)) 4 (vp_nar .byte y10)) 5 (vp_nar .byte y12)) 6 (vp_nar .byte y14)) 7 (vp_nar .byte y16)) 8 (vp_nar .byte y18)) 9 (vp_nar .byte y20)) 10 (vp_nar .byte y22)) 11 (vp_nar .byte y24)) 12 (vp_nar .byte y26)) 13 (vp_nar .byte y28)) 14 (vp_nar .byte y30)) 15 (vp_nar .byte y32)) 16 (vp_nar .byte y34)) 17 (vp_nar .byte y36)) 18 (vp_nar .byte y38)) 19 (vp_nar .byte y40))))] H := ⟨hP, hD⟩
  refine lv_iinc (v := 20) (lv' := [(6, .int 20), (7, .int x6), (0, .ref a0), (1, .int x2), (2, .int x3), (3, .int x4), (4, .int x5), (5, .int x6)]) hx hb dM_feed_115 hl (k := 1) rfl (by decide) (by decide) rfl (fun ls hl => ?_)
  refine lv_goto (tgt := 27) hx hb dM_feed_118 (by decide) ?_
  refine lv_iload hx hb dM_feed_27 (lv_at hl 0 rfl) ?_
  refine lv_bipush (v := 20) hx hb dM_feed_29 (by decide) ?_
  refine lv_icmp_ge (tgt := 121) hx hb dM_feed_31 (by decide) (fun _ => ?_) (fun h => ((by revert h; decide : False)).elim)
  refine lv_aload_n hx hb dM_feed_121 rfl (lv_at hl 2 rfl) ?_
  refine va_get (D := D) (ci := 5) (v := .int 20) (C := "ValueBenchModel") (T := TM) (N := 32) hx hb htx inM hown hK hP 0 rfl rfl 27 (by decide) (htx _ kw_5_114) (fun _ h9 => h9) rfl dM_feed_122 ?_
  obtain ⟨hP9, hD9⟩ := xsub (wc := [(a0, .inr (5, [.int 0, v8, v9, v10, v11, v12, v13, v14, v15, v16, v17, v18, v19, v20, v21, v22, v23, v24, v25, v26, v27, v28, v29, v30, v31, v32, .ref a1, .int 20, v33, v34, v35, v36])), (a1, .inl (cT 0, 4096, .inl (upd (upd (upd (upd (upd (upd (upd (upd (upd (upd (upd (upd (upd (upd (upd (upd (upd (upd (upd (upd f37 0 (vp_nar .byte y2)) 1 (vp_nar .byte y4)) 2 (vp_nar .byte y6)) 3 (vp_nar .byte y8)) 4 (vp_nar .byte y10)) 5 (vp_nar .byte y12)) 6 (vp_nar .byte y14)) 7 (vp_nar .byte y16)) 8 (vp_nar .byte y18)) 9 (vp_nar .byte y20)) 10 (vp_nar .byte y22)) 11 (vp_nar .byte y24)) 12 (vp_nar .byte y26)) 13 (vp_nar .byte y28)) 14 (vp_nar .byte y30)) 15 (vp_nar .byte y32)) 16 (vp_nar .byte y34)) 17 (vp_nar .byte y36)) 18 (vp_nar .byte y38)) 19 (vp_nar .byte y40))))]) hP hD [0, 1] rfl rfl (by decide)
  refine W.widen (k := 0) (n := 0) (Nat.le_of_ble_eq_true rfl) (Nat.le_of_ble_eq_true rfl) ?_
  exact W.iret (v := 20) hx hb hr (fun t ht hW => ⟨⟨20, (), rfl, rfl, y2, y4, y6, y8, y10, y12, y14, y16, y18, y20, y22, y24, y26, y28, y30, y32, y34, y36, y38, y40, by rw [ht]; exact hP9, va_K.moved hW.alike hK, hD9⟩, hS.F ht⟩) hS.2.2 dM_feed_125
set_option maxHeartbeats 400000000 in
set_option maxRecDepth 100000 in
theorem cM_end_0 (l : Launch) (hl9 : l.stackTraces = false) (D : va_G) (cT : Nat → ClassId) (aK aV : Nat → Nat) (sz : Nat) (a0 : Nat) (v1 : Value) (v2 : Value) (v3 : Value) (v4 : Value) (v5 : Value) (v6 : Value) (v7 : Value) (v8 : Value) (v9 : Value) (v10 : Value) (v11 : Value) (v12 : Value) (v13 : Value) (v14 : Value) (v15 : Value) (v16 : Value) (v17 : Value) (v18 : Value) (v19 : Value) (v20 : Value) (v21 : Value) (v22 : Value) (v23 : Value) (v24 : Value) (v25 : Value) (v26 : Value) (v27 : Value) (v28 : Value) (v29 : Value) (v30 : Value) (v31 : Value) : xMet l yM_end wyM_end 0 0 0 0 D cT aK aV sz [.ref a0, .int 0] [(a0, .inr (5, [v1, v2, v3, v4, v5, v6, v7, v8, v9, v10, v11, v12, v13, v14, v15, v16, v17, v18, v19, v20, v21, v22, v23, v24, v25, v26, v27, .int 0, v28, v29, v30, v31]))] (fun A => va_Qi (fun (r : Int32) (_ : Unit) => r = 0) (fun _ t => xB D xcl cT A [(a0, .inr (5, [.int 0, v2, v3, v4, v5, v6, v7, v8, v9, v10, v11, v12, v13, v14, v15, v16, v17, v18, v19, v20, v21, v22, v23, v24, v25, v26, v27, .int 0, v28, v29, v30, v31]))] t) A) := by
  refine Met.ofW (cc := prog_13_method_83_code) (maxL := 2) (ret := (some .int)) (by decide) rfl ?_
  intro p e s m args below meth c s₁ B hml hv
  obtain ⟨rfl, hsz, hZ, hP, hK, hD0⟩ := hv
  have hx := B.exec
  have hb := B.bytes
  have hr := B.returns
  have hts := atoms_spec (ws := wyM_end) B.pre
  have htx := fun w h => hts w (List.mem_cons_of_mem _ h)
  have hown : s.vm.findClass "ValueBenchModel" = some m.cls := findClass_of_methodNamed B.named
  have hlocks := B.notSynchronized
  subst hsz
  have hD := hD0.self (sz := s.heap.size)
  generalize hAe : va_A [(a0, .inr (5, [v1, v2, v3, v4, v5, v6, v7, v8, v9, v10, v11, v12, v13, v14, v15, v16, v17, v18, v19, v20, v21, v22, v23, v24, v25, v26, v27, .int 0, v28, v29, v30, v31]))] s.heap.size = A at hD hZ ⊢
  have hA : ∀ q : Nat, s.heap.size ≤ q → A q := fun q h => by rw [← hAe]; exact Or.inr h
  have hS : va_S A s.heap s.heap [] := va_S.rf
  have hP : va_P D xcl [(a0, .inr (5, [v1, v2, v3, v4, v5, v6, v7, v8, v9, v10, v11, v12, v13, v14, v15, v16, v17, v18, v19, v20, v21, v22, v23, v24, v25, v26, v27, .int 0, v28, v29, v30, v31]))] s.heap := hP
  have hl := lv_entry ([.ref a0, .int 0]) (n := 2) (Nat.le_of_ble_eq_true rfl)
  rw [lg_entry_eq]
  generalize (lg_sl ([.ref a0, .int 0]) ++ List.replicate (2 - (lg_sl ([.ref a0, .int 0])).length) Slot.unset).toArray = ls at hl ⊢
  have hl : lv_has ls 2 [(0, .ref a0), (1, .int 0)] := hl
  refine lv_aload_n hx hb dM_end_0 rfl (lv_at hl 0 rfl) ?_
  refine lv_iconst (v := 0) hx hb dM_end_1 (by decide) ?_
  refine va_put (D := D) (ci := 5) (v := .int 0) (ty := .int) (C := "ValueBenchModel") (T := TM) (N := 32) hx hb htx inM tyM tyM_ok nmM hown hK hP hD hS 0 rfl rfl 0 (by decide) (htx _ kw_5_87) (fun _ h9 => h9) rfl (by decide +kernel) rfl rfl (Nat.le_of_ble_eq_true rfl) dM_end_2 (fun H locs hP hD hS => ?_)
  obtain ⟨hP, hD⟩ : xPD D xcl A [(a0, .inr (5, [.int 0, v2, v3, v4, v5, v6, v7, v8, v9, v10, v11, v12, v13, v14, v15, v16, v17, v18, v19, v20, v21, v22, v23, v24, v25, v26, v27, .int 0, v28, v29, v30, v31]))] H := ⟨hP, hD⟩
  refine lv_iload_n hx hb dM_end_5 rfl (lv_at hl 1 rfl) ?_
  refine lv_if_lt (tgt := 17) hx hb dM_end_6 (by decide) (fun h => ((by revert h; decide : False)).elim) (fun _ => ?_)
  refine lv_iload_n hx hb dM_end_9 rfl (lv_at hl 1 rfl) ?_
  refine lv_aload_n hx hb dM_end_10 rfl (lv_at hl 0 rfl) ?_
  refine va_get (D := D) (ci := 5) (v := .int 0) (C := "ValueBenchModel") (T := TM) (N := 32) hx hb htx inM hown hK hP 0 rfl rfl 27 (by decide) (htx _ kw_5_114) (fun _ h9 => h9) rfl dM_end_11 ?_
  refine lv_icmp_le (tgt := 23) hx hb dM_end_14 (by decide) (fun _ => ?_) (fun h => ((by revert h; decide : False)).elim)
  refine lv_aload_n hx hb dM_end_23 rfl (lv_at hl 0 rfl) ?_
  refine lv_iload_n hx hb dM_end_24 rfl (lv_at hl 1 rfl) ?_
  refine va_put (D := D) (ci := 5) (v := .int 0) (ty := .int) (C := "ValueBenchModel") (T := TM) (N := 32) hx hb htx inM tyM tyM_ok nmM hown hK hP hD hS 0 rfl rfl 27 (by decide) (htx _ kw_5_114) (fun _ h9 => h9) rfl (by decide +kernel) rfl rfl (Nat.le_of_ble_eq_true rfl) dM_end_25 (fun H locs hP hD hS => ?_)
  obtain ⟨hP, hD⟩ : xPD D xcl A [(a0, .inr (5, [.int 0, v2, v3, v4, v5, v6, v7, v8, v9, v10, v11, v12, v13, v14, v15, v16, v17, v18, v19, v20, v21, v22, v23, v24, v25, v26, v27, .int 0, v28, v29, v30, v31]))] H := ⟨hP, hD⟩
  refine lv_iload_n hx hb dM_end_28 rfl (lv_at hl 1 rfl) ?_
  obtain ⟨hP9, hD9⟩ := xsub (wc := [(a0, .inr (5, [.int 0, v2, v3, v4, v5, v6, v7, v8, v9, v10, v11, v12, v13, v14, v15, v16, v17, v18, v19, v20, v21, v22, v23, v24, v25, v26, v27, .int 0, v28, v29, v30, v31]))]) hP hD [0] rfl rfl (by decide)
  refine W.widen (k := 0) (n := 0) (Nat.le_of_ble_eq_true rfl) (Nat.le_of_ble_eq_true rfl) ?_
  exact W.iret (v := 0) hx hb hr (fun t ht hW => ⟨⟨0, (), rfl, rfl, by rw [ht]; exact hP9, va_K.moved hW.alike hK, hD9⟩, hS.F ht⟩) hS.2.2 dM_end_29
set_option maxHeartbeats 400000000 in
set_option maxRecDepth 100000 in
theorem cM_fail_0 (l : Launch) (hl9 : l.stackTraces = false) (D : va_G) (cT : Nat → ClassId) (aK aV : Nat → Nat) (sz : Nat) (a0 : Nat) (v1 : Value) (v2 : Value) (v3 : Value) (v4 : Value) (v5 : Value) (v6 : Value) (v7 : Value) (v8 : Value) (v9 : Value) (v10 : Value) (v11 : Value) (v12 : Value) (v13 : Value) (v14 : Value) (v15 : Value) (v16 : Value) (v17 : Value) (v18 : Value) (v19 : Value) (v20 : Value) (v21 : Value) (v22 : Value) (v23 : Value) (v24 : Value) (v25 : Value) (v26 : Value) (v27 : Value) (v28 : Value) (v29 : Value) (v30 : Value) (v31 : Value) (v32 : Value) : xMet l yM_fail wyM_fail 0 0 0 0 D cT aK aV sz [.ref a0, .int 1] [(a0, .inr (5, [v1, v2, v3, v4, v5, v6, v7, v8, v9, v10, v11, v12, v13, v14, v15, v16, v17, v18, v19, v20, v21, v22, v23, v24, v25, v26, v27, v28, v29, v30, v31, v32]))] (fun A => va_Qi (fun (r : Int32) (_ : Unit) => r = 0) (fun _ t => xB D xcl cT A [(a0, .inr (5, [.int 1, v2, v3, v4, v5, v6, v7, v8, v9, v10, v11, v12, v13, v14, v15, v16, v17, v18, v19, v20, v21, v22, v23, v24, v25, v26, v27, v28, v29, v30, v31, v32]))] t) A) := by
  refine Met.ofW (cc := prog_13_method_3_code) (maxL := 2) (ret := (some .int)) (by decide) rfl ?_
  intro p e s m args below meth c s₁ B hml hv
  obtain ⟨rfl, hsz, hZ, hP, hK, hD0⟩ := hv
  have hx := B.exec
  have hb := B.bytes
  have hr := B.returns
  have hts := atoms_spec (ws := wyM_fail) B.pre
  have htx := fun w h => hts w (List.mem_cons_of_mem _ h)
  have hown : s.vm.findClass "ValueBenchModel" = some m.cls := findClass_of_methodNamed B.named
  have hlocks := B.notSynchronized
  subst hsz
  have hD := hD0.self (sz := s.heap.size)
  generalize hAe : va_A [(a0, .inr (5, [v1, v2, v3, v4, v5, v6, v7, v8, v9, v10, v11, v12, v13, v14, v15, v16, v17, v18, v19, v20, v21, v22, v23, v24, v25, v26, v27, v28, v29, v30, v31, v32]))] s.heap.size = A at hD hZ ⊢
  have hA : ∀ q : Nat, s.heap.size ≤ q → A q := fun q h => by rw [← hAe]; exact Or.inr h
  have hS : va_S A s.heap s.heap [] := va_S.rf
  have hP : va_P D xcl [(a0, .inr (5, [v1, v2, v3, v4, v5, v6, v7, v8, v9, v10, v11, v12, v13, v14, v15, v16, v17, v18, v19, v20, v21, v22, v23, v24, v25, v26, v27, v28, v29, v30, v31, v32]))] s.heap := hP
  have hl := lv_entry ([.ref a0, .int 1]) (n := 2) (Nat.le_of_ble_eq_true rfl)
  rw [lg_entry_eq]
  generalize (lg_sl ([.ref a0, .int 1]) ++ List.replicate (2 - (lg_sl ([.ref a0, .int 1])).length) Slot.unset).toArray = ls at hl ⊢
  have hl : lv_has ls 2 [(0, .ref a0), (1, .int 1)] := hl
  refine lv_aload_n hx hb dM_fail_0 rfl (lv_at hl 0 rfl) ?_
  refine lv_iload_n hx hb dM_fail_1 rfl (lv_at hl 1 rfl) ?_
  refine va_put (D := D) (ci := 5) (v := .int 1) (ty := .int) (C := "ValueBenchModel") (T := TM) (N := 32) hx hb htx inM tyM tyM_ok nmM hown hK hP hD hS 0 rfl rfl 0 (by decide) (htx _ kw_5_87) (fun _ h9 => h9) rfl (by decide +kernel) rfl rfl (Nat.le_of_ble_eq_true rfl) dM_fail_2 (fun H locs hP hD hS => ?_)
  obtain ⟨hP, hD⟩ : xPD D xcl A [(a0, .inr (5, [.int 1, v2, v3, v4, v5, v6, v7, v8, v9, v10, v11, v12, v13, v14, v15, v16, v17, v18, v19, v20, v21, v22, v23, v24, v25, v26, v27, v28, v29, v30, v31, v32]))] H := ⟨hP, hD⟩
  refine lv_iconst (v := 0) hx hb dM_fail_5 (by decide) ?_
  obtain ⟨hP9, hD9⟩ := xsub (wc := [(a0, .inr (5, [.int 1, v2, v3, v4, v5, v6, v7, v8, v9, v10, v11, v12, v13, v14, v15, v16, v17, v18, v19, v20, v21, v22, v23, v24, v25, v26, v27, v28, v29, v30, v31, v32]))]) hP hD [0] rfl rfl (by decide)
  refine W.widen (k := 0) (n := 0) (Nat.le_of_ble_eq_true rfl) (Nat.le_of_ble_eq_true rfl) ?_
  exact W.iret (v := 0) hx hb hr (fun t ht hW => ⟨⟨0, (), rfl, rfl, by rw [ht]; exact hP9, va_K.moved hW.alike hK, hD9⟩, hS.F ht⟩) hS.2.2 dM_fail_6
set_option maxHeartbeats 400000000 in
set_option maxRecDepth 100000 in
theorem cM_end_1 (l : Launch) (hl9 : l.stackTraces = false) (D : va_G) (cT : Nat → ClassId) (aK aV : Nat → Nat) (sz : Nat) (a0 : Nat) (x1 : Int32) (v3 : Value) (v4 : Value) (v5 : Value) (v6 : Value) (v7 : Value) (v8 : Value) (v9 : Value) (v10 : Value) (v11 : Value) (v12 : Value) (v13 : Value) (v14 : Value) (v15 : Value) (v16 : Value) (v17 : Value) (v18 : Value) (v19 : Value) (v20 : Value) (v21 : Value) (v22 : Value) (v23 : Value) (v24 : Value) (v25 : Value) (v26 : Value) (v27 : Value) (v28 : Value) (v29 : Value) (v30 : Value) (v31 : Value) (v32 : Value) (v33 : Value) (v34 : Value) (h2 : x1 < 0) : xMet l yM_end wyM_end 1 0 0 21 D cT aK aV sz [.ref a0, .int x1] [(a0, .inr (5, [v3, v4, v5, v6, v7, v8, v9, v10, v11, v12, v13, v14, v15, v16, v17, v18, v19, v20, v21, v22, v23, v24, v25, v26, v27, v28, v29, v30, v31, v32, v33, v34]))] (fun A => va_Qi (fun (r : Int32) (_ : Unit) => r = 0) (fun _ t => xB D xcl cT A [(a0, .inr (5, [.int 1, v4, v5, v6, v7, v8, v9, v10, v11, v12, v13, v14, v15, v16, v17, v18, v19, v20, v21, v22, v23, v24, v25, v26, v27, v28, v29, v30, v31, v32, v33, v34]))] t) A) := by
  refine Met.ofW (cc := prog_13_method_83_code) (maxL := 2) (ret := (some .int)) (by decide) rfl ?_
  intro p e s m args below meth c s₁ B hml hv
  obtain ⟨rfl, hsz, hZ, hP, hK, hD0⟩ := hv
  have hx := B.exec
  have hb := B.bytes
  have hr := B.returns
  have hts := atoms_spec (ws := wyM_end) B.pre
  have htx := fun w h => hts w (List.mem_cons_of_mem _ h)
  have hown : s.vm.findClass "ValueBenchModel" = some m.cls := findClass_of_methodNamed B.named
  have hlocks := B.notSynchronized
  subst hsz
  have hD := hD0.self (sz := s.heap.size)
  generalize hAe : va_A [(a0, .inr (5, [v3, v4, v5, v6, v7, v8, v9, v10, v11, v12, v13, v14, v15, v16, v17, v18, v19, v20, v21, v22, v23, v24, v25, v26, v27, v28, v29, v30, v31, v32, v33, v34]))] s.heap.size = A at hD hZ ⊢
  have hA : ∀ q : Nat, s.heap.size ≤ q → A q := fun q h => by rw [← hAe]; exact Or.inr h
  have hS : va_S A s.heap s.heap [] := va_S.rf
  have hP : va_P D xcl [(a0, .inr (5, [v3, v4, v5, v6, v7, v8, v9, v10, v11, v12, v13, v14, v15, v16, v17, v18, v19, v20, v21, v22, v23, v24, v25, v26, v27, v28, v29, v30, v31, v32, v33, v34]))] s.heap := hP
  have hl := lv_entry ([.ref a0, .int x1]) (n := 2) (Nat.le_of_ble_eq_true rfl)
  rw [lg_entry_eq]
  generalize (lg_sl ([.ref a0, .int x1]) ++ List.replicate (2 - (lg_sl ([.ref a0, .int x1])).length) Slot.unset).toArray = ls at hl ⊢
  have hl : lv_has ls 2 [(0, .ref a0), (1, .int x1)] := hl
  refine lv_aload_n hx hb dM_end_0 rfl (lv_at hl 0 rfl) ?_
  refine lv_iconst (v := 0) hx hb dM_end_1 (by decide) ?_
  refine va_put (D := D) (ci := 5) (v := .int 0) (ty := .int) (C := "ValueBenchModel") (T := TM) (N := 32) hx hb htx inM tyM tyM_ok nmM hown hK hP hD hS 0 rfl rfl 0 (by decide) (htx _ kw_5_87) (fun _ h9 => h9) rfl (by decide +kernel) rfl rfl (Nat.le_of_ble_eq_true rfl) dM_end_2 (fun H locs hP hD hS => ?_)
  obtain ⟨hP, hD⟩ : xPD D xcl A [(a0, .inr (5, [.int 0, v4, v5, v6, v7, v8, v9, v10, v11, v12, v13, v14, v15, v16, v17, v18, v19, v20, v21, v22, v23, v24, v25, v26, v27, v28, v29, v30, v31, v32, v33, v34]))] H := ⟨hP, hD⟩
  refine lv_iload_n hx hb dM_end_5 rfl (lv_at hl 1 rfl) ?_
  refine lv_if_lt (tgt := 17) hx hb dM_end_6 (by decide) (fun _ => ?_) (fun h => by first | exact absurd h h2 | exact absurd h2 h)
  refine lv_aload_n hx hb dM_end_17 rfl (lv_at hl 0 rfl) ?_
  refine lv_iconst (v := 1) hx hb dM_end_18 (by decide) ?_
  obtain ⟨hPc, hDc, hFc⟩ := xcut (wc := [(a0, .inr (5, [.int 0, v4, v5, v6, v7, v8, v9, v10, v11, v12, v13, v14, v15, v16, v17, v18, v19, v20, v21, v22, v23, v24, v25, v26, v27, v28, v29, v30, v31, v32, v33, v34]))]) hP hD hS hA [0] rfl rfl (by decide)
  refine va_calli (va_runV (C := "ValueBenchModel") (As := [.int 1]) (rest := []) ⟨hx, hb, hml, hown, htx⟩ (cM_fail_0 l hl9 D cT aK aV H.size a0 (.int 0) v4 v5 v6 v7 v8 v9 v10 v11 v12 v13 v14 v15 v16 v17 v18 v19 v20 v21 v22 v23 v24 v25 v26 v27 v28 v29 v30 v31 v32 v33 v34) ⟨callB_of 1 htx (xw_goodC kw_5_195) rfl rfl rfl (htx _ kw_1_5) (htx _ kw_5_192) ⟨by decide, by decide, by decide +kernel⟩ ⟨Nat.le_of_ble_eq_true rfl, Nat.le_of_ble_eq_true rfl⟩, (htx _ kw_5_194), (htx _ kp_M_fail)⟩ ⟨xPre_blind, va_recv hK hP (ci := 5) rfl (q0 := 0) rfl, (fun U hU hW => ⟨rfl, xPre_of hZ hS hFc hPc hDc hK U hU hW⟩)⟩ rfl rfl hl.1 rfl (lv_room (Nat.le_of_ble_eq_true rfl)) dM_end_19 ⟨Nat.le_of_ble_eq_true rfl, Nat.le_of_ble_eq_true rfl⟩) hS (fun q _ h => hFc q h) hFc (fun r1 u9 t H1 locs ht hvm hr9 hB hz1 hk1 hS => ?_)
  obtain ⟨hP1, hK1, hD1⟩ := hB
  rw [ht] at hP1
  obtain ⟨hP, hD⟩ := xjoin (W := [(a0, .inr (5, [.int 1, v4, v5, v6, v7, v8, v9, v10, v11, v12, v13, v14, v15, v16, v17, v18, v19, v20, v21, v22, v23, v24, v25, v26, v27, v28, v29, v30, v31, v32, v33, v34]))]) hP hD [0] [] 0 rfl rfl (by decide) (by decide) hk1 hFc hP1 hD1
  generalize H1 = H at hP hS ⊢
  rw [hr9]
  refine W.eq (g2 := F0 m 22 ls [.int 0]) rfl ?_
  obtain ⟨hP9, hD9⟩ := xsub (wc := [(a0, .inr (5, [.int 1, v4, v5, v6, v7, v8, v9, v10, v11, v12, v13, v14, v15, v16, v17, v18, v19, v20, v21, v22, v23, v24, v25, v26, v27, v28, v29, v30, v31, v32, v33, v34]))]) hP hD [0] rfl rfl (by decide)
  refine W.widen (k := 0) (n := 0) (Nat.le_of_ble_eq_true rfl) (Nat.le_of_ble_eq_true rfl) ?_
  exact W.iret (v := 0) hx hb hr (fun t ht hW => ⟨⟨0, (), rfl, rfl, by rw [ht]; exact hP9, va_K.moved hW.alike hK, hD9⟩, hS.F ht⟩) hS.2.2 dM_end_22
set_option maxHeartbeats 400000000 in
set_option maxRecDepth 100000 in
theorem cM_end_2 (l : Launch) (hl9 : l.stackTraces = false) (D : va_G) (cT : Nat → ClassId) (aK aV : Nat → Nat) (sz : Nat) (a0 : Nat) (x1 : Int32) (v5 : Value) (v6 : Value) (v7 : Value) (v8 : Value) (v9 : Value) (v10 : Value) (v11 : Value) (v12 : Value) (v13 : Value) (v14 : Value) (v15 : Value) (v16 : Value) (v17 : Value) (v18 : Value) (v19 : Value) (v20 : Value) (v21 : Value) (v22 : Value) (v23 : Value) (v24 : Value) (v25 : Value) (v26 : Value) (v27 : Value) (v28 : Value) (v29 : Value) (v30 : Value) (v31 : Value) (v32 : Value) (v33 : Value) (v34 : Value) (v35 : Value) (h2 : ¬ x1 < 0) (h3 : 0 < x1) (h4 : ¬ x1 ≤ 0) : xMet l yM_end wyM_end 1 0 0 21 D cT aK aV sz [.ref a0, .int x1] [(a0, .inr (5, [v5, v6, v7, v8, v9, v10, v11, v12, v13, v14, v15, v16, v17, v18, v19, v20, v21, v22, v23, v24, v25, v26, v27, v28, v29, v30, v31, .int 0, v32, v33, v34, v35]))] (fun A => va_Qi (fun (r : Int32) (_ : Unit) => r = 0) (fun _ t => xB D xcl cT A [(a0, .inr (5, [.int 1, v6, v7, v8, v9, v10, v11, v12, v13, v14, v15, v16, v17, v18, v19, v20, v21, v22, v23, v24, v25, v26, v27, v28, v29, v30, v31, .int 0, v32, v33, v34, v35]))] t) A) := by
  refine Met.ofW (cc := prog_13_method_83_code) (maxL := 2) (ret := (some .int)) (by decide) rfl ?_
  intro p e s m args below meth c s₁ B hml hv
  obtain ⟨rfl, hsz, hZ, hP, hK, hD0⟩ := hv
  have hx := B.exec
  have hb := B.bytes
  have hr := B.returns
  have hts := atoms_spec (ws := wyM_end) B.pre
  have htx := fun w h => hts w (List.mem_cons_of_mem _ h)
  have hown : s.vm.findClass "ValueBenchModel" = some m.cls := findClass_of_methodNamed B.named
  have hlocks := B.notSynchronized
  subst hsz
  have hD := hD0.self (sz := s.heap.size)
  generalize hAe : va_A [(a0, .inr (5, [v5, v6, v7, v8, v9, v10, v11, v12, v13, v14, v15, v16, v17, v18, v19, v20, v21, v22, v23, v24, v25, v26, v27, v28, v29, v30, v31, .int 0, v32, v33, v34, v35]))] s.heap.size = A at hD hZ ⊢
  have hA : ∀ q : Nat, s.heap.size ≤ q → A q := fun q h => by rw [← hAe]; exact Or.inr h
  have hS : va_S A s.heap s.heap [] := va_S.rf
  have hP : va_P D xcl [(a0, .inr (5, [v5, v6, v7, v8, v9, v10, v11, v12, v13, v14, v15, v16, v17, v18, v19, v20, v21, v22, v23, v24, v25, v26, v27, v28, v29, v30, v31, .int 0, v32, v33, v34, v35]))] s.heap := hP
  have hl := lv_entry ([.ref a0, .int x1]) (n := 2) (Nat.le_of_ble_eq_true rfl)
  rw [lg_entry_eq]
  generalize (lg_sl ([.ref a0, .int x1]) ++ List.replicate (2 - (lg_sl ([.ref a0, .int x1])).length) Slot.unset).toArray = ls at hl ⊢
  have hl : lv_has ls 2 [(0, .ref a0), (1, .int x1)] := hl
  refine lv_aload_n hx hb dM_end_0 rfl (lv_at hl 0 rfl) ?_
  refine lv_iconst (v := 0) hx hb dM_end_1 (by decide) ?_
  refine va_put (D := D) (ci := 5) (v := .int 0) (ty := .int) (C := "ValueBenchModel") (T := TM) (N := 32) hx hb htx inM tyM tyM_ok nmM hown hK hP hD hS 0 rfl rfl 0 (by decide) (htx _ kw_5_87) (fun _ h9 => h9) rfl (by decide +kernel) rfl rfl (Nat.le_of_ble_eq_true rfl) dM_end_2 (fun H locs hP hD hS => ?_)
  obtain ⟨hP, hD⟩ : xPD D xcl A [(a0, .inr (5, [.int 0, v6, v7, v8, v9, v10, v11, v12, v13, v14, v15, v16, v17, v18, v19, v20, v21, v22, v23, v24, v25, v26, v27, v28, v29, v30, v31, .int 0, v32, v33, v34, v35]))] H := ⟨hP, hD⟩
  refine lv_iload_n hx hb dM_end_5 rfl (lv_at hl 1 rfl) ?_
  refine lv_if_lt (tgt := 17) hx hb dM_end_6 (by decide) (fun h => by first | exact absurd h h2 | exact absurd h h3 | exact absurd h h4 | exact absurd h2 h | exact absurd h3 h | exact absurd h4 h) (fun _ => ?_)
  refine lv_iload_n hx hb dM_end_9 rfl (lv_at hl 1 rfl) ?_
  refine lv_aload_n hx hb dM_end_10 rfl (lv_at hl 0 rfl) ?_
  refine va_get (D := D) (ci := 5) (v := .int 0) (C := "ValueBenchModel") (T := TM) (N := 32) hx hb htx inM hown hK hP 0 rfl rfl 27 (by decide) (htx _ kw_5_114) (fun _ h9 => h9) rfl dM_end_11 ?_
  refine lv_icmp_le (tgt := 23) hx hb dM_end_14 (by decide) (fun h => by first | exact absurd h h2 | exact absurd h h3 | exact absurd h h4 | exact absurd h2 h | exact absurd h3 h | exact absurd h4 h) (fun _ => ?_)
  refine lv_aload_n hx hb dM_end_17 rfl (lv_at hl 0 rfl) ?_
  refine lv_iconst (v := 1) hx hb dM_end_18 (by decide) ?_
  obtain ⟨hPc, hDc, hFc⟩ := xcut (wc := [(a0, .inr (5, [.int 0, v6, v7, v8, v9, v10, v11, v12, v13, v14, v15, v16, v17, v18, v19, v20, v21, v22, v23, v24, v25, v26, v27, v28, v29, v30, v31, .int 0, v32, v33, v34, v35]))]) hP hD hS hA [0] rfl rfl (by decide)
  refine va_calli (va_runV (C := "ValueBenchModel") (As := [.int 1]) (rest := []) ⟨hx, hb, hml, hown, htx⟩ (cM_fail_0 l hl9 D cT aK aV H.size a0 (.int 0) v6 v7 v8 v9 v10 v11 v12 v13 v14 v15 v16 v17 v18 v19 v20 v21 v22 v23 v24 v25 v26 v27 v28 v29 v30 v31 (.int 0) v32 v33 v34 v35) ⟨callB_of 1 htx (xw_goodC kw_5_195) rfl rfl rfl (htx _ kw_1_5) (htx _ kw_5_192) ⟨by decide, by decide, by decide +kernel⟩ ⟨Nat.le_of_ble_eq_true rfl, Nat.le_of_ble_eq_true rfl⟩, (htx _ kw_5_194), (htx _ kp_M_fail)⟩ ⟨xPre_blind, va_recv hK hP (ci := 5) rfl (q0 := 0) rfl, (fun U hU hW => ⟨rfl, xPre_of hZ hS hFc hPc hDc hK U hU hW⟩)⟩ rfl rfl hl.1 rfl (lv_room (Nat.le_of_ble_eq_true rfl)) dM_end_19 ⟨Nat.le_of_ble_eq_true rfl, Nat.le_of_ble_eq_true rfl⟩) hS (fun q _ h => hFc q h) hFc (fun r1 u9 t H1 locs ht hvm hr9 hB hz1 hk1 hS => ?_)
  obtain ⟨hP1, hK1, hD1⟩ := hB
  rw [ht] at hP1
  obtain ⟨hP, hD⟩ := xjoin (W := [(a0, .inr (5, [.int 1, v6, v7, v8, v9, v10, v11, v12, v13, v14, v15, v16, v17, v18, v19, v20, v21, v22, v23, v24, v25, v26, v27, v28, v29, v30, v31, .int 0, v32, v33, v34, v35]))]) hP hD [0] [] 0 rfl rfl (by decide) (by decide) hk1 hFc hP1 hD1
  generalize H1 = H at hP hS ⊢
  rw [hr9]
  refine W.eq (g2 := F0 m 22 ls [.int 0]) rfl ?_
  obtain ⟨hP9, hD9⟩ := xsub (wc := [(a0, .inr (5, [.int 1, v6, v7, v8, v9, v10, v11, v12, v13, v14, v15, v16, v17, v18, v19, v20, v21, v22, v23, v24, v25, v26, v27, v28, v29, v30, v31, .int 0, v32, v33, v34, v35]))]) hP hD [0] rfl rfl (by decide)
  refine W.widen (k := 0) (n := 0) (Nat.le_of_ble_eq_true rfl) (Nat.le_of_ble_eq_true rfl) ?_
  exact W.iret (v := 0) hx hb hr (fun t ht hW => ⟨⟨0, (), rfl, rfl, by rw [ht]; exact hP9, va_K.moved hW.alike hK, hD9⟩, hS.F ht⟩) hS.2.2 dM_end_22
set_option maxHeartbeats 400000000 in
set_option maxRecDepth 100000 in
theorem cM_count_0 (l : Launch) (hl9 : l.stackTraces = false) (D : va_G) (cT : Nat → ClassId) (aK aV : Nat → Nat) (sz : Nat) (a0 : Nat) (v1 : Value) (v2 : Value) (v3 : Value) (v4 : Value) (v5 : Value) (v6 : Value) (v7 : Value) (v8 : Value) (v9 : Value) (v10 : Value) (v11 : Value) (v12 : Value) (v13 : Value) (v14 : Value) (v15 : Value) (v16 : Value) (v17 : Value) (v18 : Value) (v19 : Value) (v20 : Value) (v21 : Value) (v22 : Value) (v23 : Value) (v24 : Value) (v25 : Value) (v26 : Value) (v27 : Value) (v28 : Value) (v29 : Value) (v30 : Value) (v31 : Value) : xMet l yM_count wyM_count 0 0 0 0 D cT aK aV sz [.ref a0, .int 0] [(a0, .inr (5, [v1, v2, v3, v4, v5, v6, v7, v8, v9, v10, v11, v12, v13, v14, v15, v16, v17, v18, v19, v20, v21, v22, v23, v24, v25, v26, v27, .int 0, v28, v29, v30, v31]))] (fun A => va_Qi (fun (r : Int32) (_ : Unit) => r = 0) (fun _ t => xB D xcl cT A [(a0, .inr (5, [.int 0, v2, v3, v4, v5, v6, v7, v8, v9, v10, v11, v12, v13, v14, v15, v16, v17, v18, v19, v20, v21, v22, v23, v24, v25, v26, v27, .int 0, v28, v29, v30, v31]))] t) A) := by
  refine Met.ofW (cc := prog_13_method_88_code) (maxL := 2) (ret := (some .int)) (by decide) rfl ?_
  intro p e s m args below meth c s₁ B hml hv
  obtain ⟨rfl, hsz, hZ, hP, hK, hD0⟩ := hv
  have hx := B.exec
  have hb := B.bytes
  have hr := B.returns
  have hts := atoms_spec (ws := wyM_count) B.pre
  have htx := fun w h => hts w (List.mem_cons_of_mem _ h)
  have hown : s.vm.findClass "ValueBenchModel" = some m.cls := findClass_of_methodNamed B.named
  have hlocks := B.notSynchronized
  subst hsz
  have hD := hD0.self (sz := s.heap.size)
  generalize hAe : va_A [(a0, .inr (5, [v1, v2, v3, v4, v5, v6, v7, v8, v9, v10, v11, v12, v13, v14, v15, v16, v17, v18, v19, v20, v21, v22, v23, v24, v25, v26, v27, .int 0, v28, v29, v30, v31]))] s.heap.size = A at hD hZ ⊢
  have hA : ∀ q : Nat, s.heap.size ≤ q → A q := fun q h => by rw [← hAe]; exact Or.inr h
  have hS : va_S A s.heap s.heap [] := va_S.rf
  have hP : va_P D xcl [(a0, .inr (5, [v1, v2, v3, v4, v5, v6, v7, v8, v9, v10, v11, v12, v13, v14, v15, v16, v17, v18, v19, v20, v21, v22, v23, v24, v25, v26, v27, .int 0, v28, v29, v30, v31]))] s.heap := hP
  have hl := lv_entry ([.ref a0, .int 0]) (n := 2) (Nat.le_of_ble_eq_true rfl)
  rw [lg_entry_eq]
  generalize (lg_sl ([.ref a0, .int 0]) ++ List.replicate (2 - (lg_sl ([.ref a0, .int 0])).length) Slot.unset).toArray = ls at hl ⊢
  have hl : lv_has ls 2 [(0, .ref a0), (1, .int 0)] := hl
  refine lv_aload_n hx hb dM_count_0 rfl (lv_at hl 0 rfl) ?_
  refine lv_iconst (v := 0) hx hb dM_count_1 (by decide) ?_
  refine va_put (D := D) (ci := 5) (v := .int 0) (ty := .int) (C := "ValueBenchModel") (T := TM) (N := 32) hx hb htx inM tyM tyM_ok nmM hown hK hP hD hS 0 rfl rfl 0 (by decide) (htx _ kw_5_87) (fun _ h9 => h9) rfl (by decide +kernel) rfl rfl (Nat.le_of_ble_eq_true rfl) dM_count_2 (fun H locs hP hD hS => ?_)
  obtain ⟨hP, hD⟩ : xPD D xcl A [(a0, .inr (5, [.int 0, v2, v3, v4, v5, v6, v7, v8, v9, v10, v11, v12, v13, v14, v15, v16, v17, v18, v19, v20, v21, v22, v23, v24, v25, v26, v27, .int 0, v28, v29, v30, v31]))] H := ⟨hP, hD⟩
  refine lv_iload_n hx hb dM_count_5 rfl (lv_at hl 1 rfl) ?_
  refine lv_if_lt (tgt := 14) hx hb dM_count_6 (by decide) (fun h => ((by revert h; decide : False)).elim) (fun _ => ?_)
  refine lv_iload_n hx hb dM_count_9 rfl (lv_at hl 1 rfl) ?_
  refine lv_iconst (v := 3) hx hb dM_count_10 (by decide) ?_
  refine lv_icmp_le (tgt := 20) hx hb dM_count_11 (by decide) (fun _ => ?_) (fun h => ((by revert h; decide : False)).elim)
  refine lv_iload_n hx hb dM_count_20 rfl (lv_at hl 1 rfl) ?_
  refine lv_if_ne (tgt := 31) hx hb dM_count_21 (by decide) (fun h => ((by revert h; decide : False)).elim) (fun _ => ?_)
  refine lv_aload_n hx hb dM_count_24 rfl (lv_at hl 0 rfl) ?_
  refine va_get (D := D) (ci := 5) (v := .int 0) (C := "ValueBenchModel") (T := TM) (N := 32) hx hb htx inM hown hK hP 0 rfl rfl 27 (by decide) (htx _ kw_5_114) (fun _ h9 => h9) rfl dM_count_25 ?_
  refine lv_goto (tgt := 59) hx hb dM_count_28 (by decide) ?_
  obtain ⟨hP9, hD9⟩ := xsub (wc := [(a0, .inr (5, [.int 0, v2, v3, v4, v5, v6, v7, v8, v9, v10, v11, v12, v13, v14, v15, v16, v17, v18, v19, v20, v21, v22, v23, v24, v25, v26, v27, .int 0, v28, v29, v30, v31]))]) hP hD [0] rfl rfl (by decide)
  refine W.widen (k := 0) (n := 0) (Nat.le_of_ble_eq_true rfl) (Nat.le_of_ble_eq_true rfl) ?_
  exact W.iret (v := 0) hx hb hr (fun t ht hW => ⟨⟨0, (), rfl, rfl, by rw [ht]; exact hP9, va_K.moved hW.alike hK, hD9⟩, hS.F ht⟩) hS.2.2 dM_count_59
set_option maxHeartbeats 400000000 in
set_option maxRecDepth 100000 in
theorem cM_count_1 (l : Launch) (hl9 : l.stackTraces = false) (D : va_G) (cT : Nat → ClassId) (aK aV : Nat → Nat) (sz : Nat) (a0 : Nat) (v1 : Value) (v2 : Value) (v3 : Value) (v4 : Value) (v5 : Value) (v6 : Value) (v7 : Value) (v8 : Value) (v9 : Value) (v10 : Value) (v11 : Value) (v12 : Value) (v13 : Value) (v14 : Value) (v15 : Value) (v16 : Value) (v17 : Value) (v18 : Value) (v19 : Value) (v20 : Value) (v21 : Value) (v22 : Value) (v23 : Value) (v24 : Value) (v25 : Value) (v26 : Value) (v27 : Value) (v28 : Value) (v29 : Value) (v30 : Value) (v31 : Value) : xMet l yM_count wyM_count 0 0 0 0 D cT aK aV sz [.ref a0, .int 1] [(a0, .inr (5, [v1, v2, v3, v4, v5, v6, v7, v8, v9, v10, v11, v12, v13, v14, v15, v16, v17, v18, v19, v20, v21, v22, v23, v24, v25, v26, v27, v28, v29, .int 0, v30, v31]))] (fun A => va_Qi (fun (r : Int32) (_ : Unit) => r = 0) (fun _ t => xB D xcl cT A [(a0, .inr (5, [.int 0, v2, v3, v4, v5, v6, v7, v8, v9, v10, v11, v12, v13, v14, v15, v16, v17, v18, v19, v20, v21, v22, v23, v24, v25, v26, v27, v28, v29, .int 0, v30, v31]))] t) A) := by
  refine Met.ofW (cc := prog_13_method_88_code) (maxL := 2) (ret := (some .int)) (by decide) rfl ?_
  intro p e s m args below meth c s₁ B hml hv
  obtain ⟨rfl, hsz, hZ, hP, hK, hD0⟩ := hv
  have hx := B.exec
  have hb := B.bytes
  have hr := B.returns
  have hts := atoms_spec (ws := wyM_count) B.pre
  have htx := fun w h => hts w (List.mem_cons_of_mem _ h)
  have hown : s.vm.findClass "ValueBenchModel" = some m.cls := findClass_of_methodNamed B.named
  have hlocks := B.notSynchronized
  subst hsz
  have hD := hD0.self (sz := s.heap.size)
  generalize hAe : va_A [(a0, .inr (5, [v1, v2, v3, v4, v5, v6, v7, v8, v9, v10, v11, v12, v13, v14, v15, v16, v17, v18, v19, v20, v21, v22, v23, v24, v25, v26, v27, v28, v29, .int 0, v30, v31]))] s.heap.size = A at hD hZ ⊢
  have hA : ∀ q : Nat, s.heap.size ≤ q → A q := fun q h => by rw [← hAe]; exact Or.inr h
  have hS : va_S A s.heap s.heap [] := va_S.rf
  have hP : va_P D xcl [(a0, .inr (5, [v1, v2, v3, v4, v5, v6, v7, v8, v9, v10, v11, v12, v13, v14, v15, v16, v17, v18, v19, v20, v21, v22, v23, v24, v25, v26, v27, v28, v29, .int 0, v30, v31]))] s.heap := hP
  have hl := lv_entry ([.ref a0, .int 1]) (n := 2) (Nat.le_of_ble_eq_true rfl)
  rw [lg_entry_eq]
  generalize (lg_sl ([.ref a0, .int 1]) ++ List.replicate (2 - (lg_sl ([.ref a0, .int 1])).length) Slot.unset).toArray = ls at hl ⊢
  have hl : lv_has ls 2 [(0, .ref a0), (1, .int 1)] := hl
  refine lv_aload_n hx hb dM_count_0 rfl (lv_at hl 0 rfl) ?_
  refine lv_iconst (v := 0) hx hb dM_count_1 (by decide) ?_
  refine va_put (D := D) (ci := 5) (v := .int 0) (ty := .int) (C := "ValueBenchModel") (T := TM) (N := 32) hx hb htx inM tyM tyM_ok nmM hown hK hP hD hS 0 rfl rfl 0 (by decide) (htx _ kw_5_87) (fun _ h9 => h9) rfl (by decide +kernel) rfl rfl (Nat.le_of_ble_eq_true rfl) dM_count_2 (fun H locs hP hD hS => ?_)
  obtain ⟨hP, hD⟩ : xPD D xcl A [(a0, .inr (5, [.int 0, v2, v3, v4, v5, v6, v7, v8, v9, v10, v11, v12, v13, v14, v15, v16, v17, v18, v19, v20, v21, v22, v23, v24, v25, v26, v27, v28, v29, .int 0, v30, v31]))] H := ⟨hP, hD⟩
  refine lv_iload_n hx hb dM_count_5 rfl (lv_at hl 1 rfl) ?_
  refine lv_if_lt (tgt := 14) hx hb dM_count_6 (by decide) (fun h => ((by revert h; decide : False)).elim) (fun _ => ?_)
  refine lv_iload_n hx hb dM_count_9 rfl (lv_at hl 1 rfl) ?_
  refine lv_iconst (v := 3) hx hb dM_count_10 (by decide) ?_
  refine lv_icmp_le (tgt := 20) hx hb dM_count_11 (by decide) (fun _ => ?_) (fun h => ((by revert h; decide : False)).elim)
  refine lv_iload_n hx hb dM_count_20 rfl (lv_at hl 1 rfl) ?_
  refine lv_if_ne (tgt := 31) hx hb dM_count_21 (by decide) (fun _ => ?_) (fun h => ((by revert h; decide : False)).elim)
  refine lv_iload_n hx hb dM_count_31 rfl (lv_at hl 1 rfl) ?_
  refine lv_iconst (v := 1) hx hb dM_count_32 (by decide) ?_
  refine lv_icmp_ne (tgt := 43) hx hb dM_count_33 (by decide) (fun h => ((by revert h; decide : False)).elim) (fun _ => ?_)
  refine lv_aload_n hx hb dM_count_36 rfl (lv_at hl 0 rfl) ?_
  refine va_get (D := D) (ci := 5) (v := .int 0) (C := "ValueBenchModel") (T := TM) (N := 32) hx hb htx inM hown hK hP 0 rfl rfl 29 (by decide) (htx _ kw_5_116) (fun _ h9 => h9) rfl dM_count_37 ?_
  refine lv_goto (tgt := 59) hx hb dM_count_40 (by decide) ?_
  obtain ⟨hP9, hD9⟩ := xsub (wc := [(a0, .inr (5, [.int 0, v2, v3, v4, v5, v6, v7, v8, v9, v10, v11, v12, v13, v14, v15, v16, v17, v18, v19, v20, v21, v22, v23, v24, v25, v26, v27, v28, v29, .int 0, v30, v31]))]) hP hD [0] rfl rfl (by decide)
  refine W.widen (k := 0) (n := 0) (Nat.le_of_ble_eq_true rfl) (Nat.le_of_ble_eq_true rfl) ?_
  exact W.iret (v := 0) hx hb hr (fun t ht hW => ⟨⟨0, (), rfl, rfl, by rw [ht]; exact hP9, va_K.moved hW.alike hK, hD9⟩, hS.F ht⟩) hS.2.2 dM_count_59
set_option maxHeartbeats 400000000 in
set_option maxRecDepth 100000 in
theorem cM_count_2 (l : Launch) (hl9 : l.stackTraces = false) (D : va_G) (cT : Nat → ClassId) (aK aV : Nat → Nat) (sz : Nat) (a0 : Nat) (v1 : Value) (v2 : Value) (v3 : Value) (v4 : Value) (v5 : Value) (v6 : Value) (v7 : Value) (v8 : Value) (v9 : Value) (v10 : Value) (v11 : Value) (v12 : Value) (v13 : Value) (v14 : Value) (v15 : Value) (v16 : Value) (v17 : Value) (v18 : Value) (v19 : Value) (v20 : Value) (v21 : Value) (v22 : Value) (v23 : Value) (v24 : Value) (v25 : Value) (v26 : Value) (v27 : Value) (v28 : Value) (v29 : Value) (v30 : Value) (v31 : Value) : xMet l yM_count wyM_count 0 0 0 0 D cT aK aV sz [.ref a0, .int 2] [(a0, .inr (5, [v1, v2, v3, v4, v5, v6, v7, v8, v9, v10, v11, v12, v13, v14, v15, v16, v17, v18, v19, v20, v21, v22, v23, v24, v25, v26, v27, v28, v29, v30, v31, .int (-1)]))] (fun A => va_Qi (fun (r : Int32) (_ : Unit) => r = (-1)) (fun _ t => xB D xcl cT A [(a0, .inr (5, [.int 0, v2, v3, v4, v5, v6, v7, v8, v9, v10, v11, v12, v13, v14, v15, v16, v17, v18, v19, v20, v21, v22, v23, v24, v25, v26, v27, v28, v29, v30, v31, .int (-1)]))] t) A) := by
  refine Met.ofW (cc := prog_13_method_88_code) (maxL := 2) (ret := (some .int)) (by decide) rfl ?_
  intro p e s m args below meth c s₁ B hml hv
  obtain ⟨rfl, hsz, hZ, hP, hK, hD0⟩ := hv
  have hx := B.exec
  have hb := B.bytes
  have hr := B.returns
  have hts := atoms_spec (ws := wyM_count) B.pre
  have htx := fun w h => hts w (List.mem_cons_of_mem _ h)
  have hown : s.vm.findClass "ValueBenchModel" = some m.cls := findClass_of_methodNamed B.named
  have hlocks := B.notSynchronized
  subst hsz
  have hD := hD0.self (sz := s.heap.size)
  generalize hAe : va_A [(a0, .inr (5, [v1, v2, v3, v4, v5, v6, v7, v8, v9, v10, v11, v12, v13, v14, v15, v16, v17, v18, v19, v20, v21, v22, v23, v24, v25, v26, v27, v28, v29, v30, v31, .int (-1)]))] s.heap.size = A at hD hZ ⊢
  have hA : ∀ q : Nat, s.heap.size ≤ q → A q := fun q h => by rw [← hAe]; exact Or.inr h
  have hS : va_S A s.heap s.heap [] := va_S.rf
  have hP : va_P D xcl [(a0, .inr (5, [v1, v2, v3, v4, v5, v6, v7, v8, v9, v10, v11, v12, v13, v14, v15, v16, v17, v18, v19, v20, v21, v22, v23, v24, v25, v26, v27, v28, v29, v30, v31, .int (-1)]))] s.heap := hP
  have hl := lv_entry ([.ref a0, .int 2]) (n := 2) (Nat.le_of_ble_eq_true rfl)
  rw [lg_entry_eq]
  generalize (lg_sl ([.ref a0, .int 2]) ++ List.replicate (2 - (lg_sl ([.ref a0, .int 2])).length) Slot.unset).toArray = ls at hl ⊢
  have hl : lv_has ls 2 [(0, .ref a0), (1, .int 2)] := hl
  refine lv_aload_n hx hb dM_count_0 rfl (lv_at hl 0 rfl) ?_
  refine lv_iconst (v := 0) hx hb dM_count_1 (by decide) ?_
  refine va_put (D := D) (ci := 5) (v := .int 0) (ty := .int) (C := "ValueBenchModel") (T := TM) (N := 32) hx hb htx inM tyM tyM_ok nmM hown hK hP hD hS 0 rfl rfl 0 (by decide) (htx _ kw_5_87) (fun _ h9 => h9) rfl (by decide +kernel) rfl rfl (Nat.le_of_ble_eq_true rfl) dM_count_2 (fun H locs hP hD hS => ?_)
  obtain ⟨hP, hD⟩ : xPD D xcl A [(a0, .inr (5, [.int 0, v2, v3, v4, v5, v6, v7, v8, v9, v10, v11, v12, v13, v14, v15, v16, v17, v18, v19, v20, v21, v22, v23, v24, v25, v26, v27, v28, v29, v30, v31, .int (-1)]))] H := ⟨hP, hD⟩
  refine lv_iload_n hx hb dM_count_5 rfl (lv_at hl 1 rfl) ?_
  refine lv_if_lt (tgt := 14) hx hb dM_count_6 (by decide) (fun h => ((by revert h; decide : False)).elim) (fun _ => ?_)
  refine lv_iload_n hx hb dM_count_9 rfl (lv_at hl 1 rfl) ?_
  refine lv_iconst (v := 3) hx hb dM_count_10 (by decide) ?_
  refine lv_icmp_le (tgt := 20) hx hb dM_count_11 (by decide) (fun _ => ?_) (fun h => ((by revert h; decide : False)).elim)
  refine lv_iload_n hx hb dM_count_20 rfl (lv_at hl 1 rfl) ?_
  refine lv_if_ne (tgt := 31) hx hb dM_count_21 (by decide) (fun _ => ?_) (fun h => ((by revert h; decide : False)).elim)
  refine lv_iload_n hx hb dM_count_31 rfl (lv_at hl 1 rfl) ?_
  refine lv_iconst (v := 1) hx hb dM_count_32 (by decide) ?_
  refine lv_icmp_ne (tgt := 43) hx hb dM_count_33 (by decide) (fun _ => ?_) (fun h => ((by revert h; decide : False)).elim)
  refine lv_iload_n hx hb dM_count_43 rfl (lv_at hl 1 rfl) ?_
  refine lv_iconst (v := 2) hx hb dM_count_44 (by decide) ?_
  refine lv_icmp_ne (tgt := 55) hx hb dM_count_45 (by decide) (fun h => ((by revert h; decide : False)).elim) (fun _ => ?_)
  refine lv_aload_n hx hb dM_count_48 rfl (lv_at hl 0 rfl) ?_
  refine va_get (D := D) (ci := 5) (v := .int (-1)) (C := "ValueBenchModel") (T := TM) (N := 32) hx hb htx inM hown hK hP 0 rfl rfl 31 (by decide) (htx _ kw_5_118) (fun _ h9 => h9) rfl dM_count_49 ?_
  refine lv_goto (tgt := 59) hx hb dM_count_52 (by decide) ?_
  obtain ⟨hP9, hD9⟩ := xsub (wc := [(a0, .inr (5, [.int 0, v2, v3, v4, v5, v6, v7, v8, v9, v10, v11, v12, v13, v14, v15, v16, v17, v18, v19, v20, v21, v22, v23, v24, v25, v26, v27, v28, v29, v30, v31, .int (-1)]))]) hP hD [0] rfl rfl (by decide)
  refine W.widen (k := 0) (n := 0) (Nat.le_of_ble_eq_true rfl) (Nat.le_of_ble_eq_true rfl) ?_
  exact W.iret (v := (-1)) hx hb hr (fun t ht hW => ⟨⟨(-1), (), rfl, rfl, by rw [ht]; exact hP9, va_K.moved hW.alike hK, hD9⟩, hS.F ht⟩) hS.2.2 dM_count_59
set_option maxHeartbeats 400000000 in
set_option maxRecDepth 100000 in
theorem cM_count_3 (l : Launch) (hl9 : l.stackTraces = false) (D : va_G) (cT : Nat → ClassId) (aK aV : Nat → Nat) (sz : Nat) (a0 : Nat) (v1 : Value) (v2 : Value) (v3 : Value) (v4 : Value) (v5 : Value) (v6 : Value) (v7 : Value) (v8 : Value) (v9 : Value) (v10 : Value) (v11 : Value) (v12 : Value) (v13 : Value) (v14 : Value) (v15 : Value) (v16 : Value) (v17 : Value) (v18 : Value) (v19 : Value) (v20 : Value) (v21 : Value) (v22 : Value) (v23 : Value) (v24 : Value) (v25 : Value) (v26 : Value) (v27 : Value) (v28 : Value) (v29 : Value) (v30 : Value) (v31 : Value) : xMet l yM_count wyM_count 0 0 0 0 D cT aK aV sz [.ref a0, .int 3] [(a0, .inr (5, [v1, v2, v3, v4, v5, v6, v7, v8, v9, v10, v11, v12, v13, v14, v15, v16, v17, v18, v19, v20, v21, v22, v23, v24, v25, v26, v27, v28, v29, v30, .int 0, v31]))] (fun A => va_Qi (fun (r : Int32) (_ : Unit) => r = 0) (fun _ t => xB D xcl cT A [(a0, .inr (5, [.int 0, v2, v3, v4, v5, v6, v7, v8, v9, v10, v11, v12, v13, v14, v15, v16, v17, v18, v19, v20, v21, v22, v23, v24, v25, v26, v27, v28, v29, v30, .int 0, v31]))] t) A) := by
  refine Met.ofW (cc := prog_13_method_88_code) (maxL := 2) (ret := (some .int)) (by decide) rfl ?_
  intro p e s m args below meth c s₁ B hml hv
  obtain ⟨rfl, hsz, hZ, hP, hK, hD0⟩ := hv
  have hx := B.exec
  have hb := B.bytes
  have hr := B.returns
  have hts := atoms_spec (ws := wyM_count) B.pre
  have htx := fun w h => hts w (List.mem_cons_of_mem _ h)
  have hown : s.vm.findClass "ValueBenchModel" = some m.cls := findClass_of_methodNamed B.named
  have hlocks := B.notSynchronized
  subst hsz
  have hD := hD0.self (sz := s.heap.size)
  generalize hAe : va_A [(a0, .inr (5, [v1, v2, v3, v4, v5, v6, v7, v8, v9, v10, v11, v12, v13, v14, v15, v16, v17, v18, v19, v20, v21, v22, v23, v24, v25, v26, v27, v28, v29, v30, .int 0, v31]))] s.heap.size = A at hD hZ ⊢
  have hA : ∀ q : Nat, s.heap.size ≤ q → A q := fun q h => by rw [← hAe]; exact Or.inr h
  have hS : va_S A s.heap s.heap [] := va_S.rf
  have hP : va_P D xcl [(a0, .inr (5, [v1, v2, v3, v4, v5, v6, v7, v8, v9, v10, v11, v12, v13, v14, v15, v16, v17, v18, v19, v20, v21, v22, v23, v24, v25, v26, v27, v28, v29, v30, .int 0, v31]))] s.heap := hP
  have hl := lv_entry ([.ref a0, .int 3]) (n := 2) (Nat.le_of_ble_eq_true rfl)
  rw [lg_entry_eq]
  generalize (lg_sl ([.ref a0, .int 3]) ++ List.replicate (2 - (lg_sl ([.ref a0, .int 3])).length) Slot.unset).toArray = ls at hl ⊢
  have hl : lv_has ls 2 [(0, .ref a0), (1, .int 3)] := hl
  refine lv_aload_n hx hb dM_count_0 rfl (lv_at hl 0 rfl) ?_
  refine lv_iconst (v := 0) hx hb dM_count_1 (by decide) ?_
  refine va_put (D := D) (ci := 5) (v := .int 0) (ty := .int) (C := "ValueBenchModel") (T := TM) (N := 32) hx hb htx inM tyM tyM_ok nmM hown hK hP hD hS 0 rfl rfl 0 (by decide) (htx _ kw_5_87) (fun _ h9 => h9) rfl (by decide +kernel) rfl rfl (Nat.le_of_ble_eq_true rfl) dM_count_2 (fun H locs hP hD hS => ?_)
  obtain ⟨hP, hD⟩ : xPD D xcl A [(a0, .inr (5, [.int 0, v2, v3, v4, v5, v6, v7, v8, v9, v10, v11, v12, v13, v14, v15, v16, v17, v18, v19, v20, v21, v22, v23, v24, v25, v26, v27, v28, v29, v30, .int 0, v31]))] H := ⟨hP, hD⟩
  refine lv_iload_n hx hb dM_count_5 rfl (lv_at hl 1 rfl) ?_
  refine lv_if_lt (tgt := 14) hx hb dM_count_6 (by decide) (fun h => ((by revert h; decide : False)).elim) (fun _ => ?_)
  refine lv_iload_n hx hb dM_count_9 rfl (lv_at hl 1 rfl) ?_
  refine lv_iconst (v := 3) hx hb dM_count_10 (by decide) ?_
  refine lv_icmp_le (tgt := 20) hx hb dM_count_11 (by decide) (fun _ => ?_) (fun h => ((by revert h; decide : False)).elim)
  refine lv_iload_n hx hb dM_count_20 rfl (lv_at hl 1 rfl) ?_
  refine lv_if_ne (tgt := 31) hx hb dM_count_21 (by decide) (fun _ => ?_) (fun h => ((by revert h; decide : False)).elim)
  refine lv_iload_n hx hb dM_count_31 rfl (lv_at hl 1 rfl) ?_
  refine lv_iconst (v := 1) hx hb dM_count_32 (by decide) ?_
  refine lv_icmp_ne (tgt := 43) hx hb dM_count_33 (by decide) (fun _ => ?_) (fun h => ((by revert h; decide : False)).elim)
  refine lv_iload_n hx hb dM_count_43 rfl (lv_at hl 1 rfl) ?_
  refine lv_iconst (v := 2) hx hb dM_count_44 (by decide) ?_
  refine lv_icmp_ne (tgt := 55) hx hb dM_count_45 (by decide) (fun _ => ?_) (fun h => ((by revert h; decide : False)).elim)
  refine lv_aload_n hx hb dM_count_55 rfl (lv_at hl 0 rfl) ?_
  refine va_get (D := D) (ci := 5) (v := .int 0) (C := "ValueBenchModel") (T := TM) (N := 32) hx hb htx inM hown hK hP 0 rfl rfl 30 (by decide) (htx _ kw_5_117) (fun _ h9 => h9) rfl dM_count_56 ?_
  obtain ⟨hP9, hD9⟩ := xsub (wc := [(a0, .inr (5, [.int 0, v2, v3, v4, v5, v6, v7, v8, v9, v10, v11, v12, v13, v14, v15, v16, v17, v18, v19, v20, v21, v22, v23, v24, v25, v26, v27, v28, v29, v30, .int 0, v31]))]) hP hD [0] rfl rfl (by decide)
  refine W.widen (k := 0) (n := 0) (Nat.le_of_ble_eq_true rfl) (Nat.le_of_ble_eq_true rfl) ?_
  exact W.iret (v := 0) hx hb hr (fun t ht hW => ⟨⟨0, (), rfl, rfl, by rw [ht]; exact hP9, va_K.moved hW.alike hK, hD9⟩, hS.F ht⟩) hS.2.2 dM_count_59
set_option maxHeartbeats 400000000 in
set_option maxRecDepth 100000 in
theorem cM_count_4 (l : Launch) (hl9 : l.stackTraces = false) (D : va_G) (cT : Nat → ClassId) (aK aV : Nat → Nat) (sz : Nat) (a0 : Nat) (x1 : Int32) (v3 : Value) (v4 : Value) (v5 : Value) (v6 : Value) (v7 : Value) (v8 : Value) (v9 : Value) (v10 : Value) (v11 : Value) (v12 : Value) (v13 : Value) (v14 : Value) (v15 : Value) (v16 : Value) (v17 : Value) (v18 : Value) (v19 : Value) (v20 : Value) (v21 : Value) (v22 : Value) (v23 : Value) (v24 : Value) (v25 : Value) (v26 : Value) (v27 : Value) (v28 : Value) (v29 : Value) (v30 : Value) (v31 : Value) (v32 : Value) (v33 : Value) (v34 : Value) (h2 : x1 < 0) : xMet l yM_count wyM_count 1 0 0 21 D cT aK aV sz [.ref a0, .int x1] [(a0, .inr (5, [v3, v4, v5, v6, v7, v8, v9, v10, v11, v12, v13, v14, v15, v16, v17, v18, v19, v20, v21, v22, v23, v24, v25, v26, v27, v28, v29, v30, v31, v32, v33, v34]))] (fun A => va_Qi (fun (r : Int32) (_ : Unit) => r = 0) (fun _ t => xB D xcl cT A [(a0, .inr (5, [.int 1, v4, v5, v6, v7, v8, v9, v10, v11, v12, v13, v14, v15, v16, v17, v18, v19, v20, v21, v22, v23, v24, v25, v26, v27, v28, v29, v30, v31, v32, v33, v34]))] t) A) := by
  refine Met.ofW (cc := prog_13_method_88_code) (maxL := 2) (ret := (some .int)) (by decide) rfl ?_
  intro p e s m args below meth c s₁ B hml hv
  obtain ⟨rfl, hsz, hZ, hP, hK, hD0⟩ := hv
  have hx := B.exec
  have hb := B.bytes
  have hr := B.returns
  have hts := atoms_spec (ws := wyM_count) B.pre
  have htx := fun w h => hts w (List.mem_cons_of_mem _ h)
  have hown : s.vm.findClass "ValueBenchModel" = some m.cls := findClass_of_methodNamed B.named
  have hlocks := B.notSynchronized
  subst hsz
  have hD := hD0.self (sz := s.heap.size)
  generalize hAe : va_A [(a0, .inr (5, [v3, v4, v5, v6, v7, v8, v9, v10, v11, v12, v13, v14, v15, v16, v17, v18, v19, v20, v21, v22, v23, v24, v25, v26, v27, v28, v29, v30, v31, v32, v33, v34]))] s.heap.size = A at hD hZ ⊢
  have hA : ∀ q : Nat, s.heap.size ≤ q → A q := fun q h => by rw [← hAe]; exact Or.inr h
  have hS : va_S A s.heap s.heap [] := va_S.rf
  have hP : va_P D xcl [(a0, .inr (5, [v3, v4, v5, v6, v7, v8, v9, v10, v11, v12, v13, v14, v15, v16, v17, v18, v19, v20, v21, v22, v23, v24, v25, v26, v27, v28, v29, v30, v31, v32, v33, v34]))] s.heap := hP
  have hl := lv_entry ([.ref a0, .int x1]) (n := 2) (Nat.le_of_ble_eq_true rfl)
  rw [lg_entry_eq]
  generalize (lg_sl ([.ref a0, .int x1]) ++ List.replicate (2 - (lg_sl ([.ref a0, .int x1])).length) Slot.unset).toArray = ls at hl ⊢
  have hl : lv_has ls 2 [(0, .ref a0), (1, .int x1)] := hl
  refine lv_aload_n hx hb dM_count_0 rfl (lv_at hl 0 rfl) ?_
  refine lv_iconst (v := 0) hx hb dM_count_1 (by decide) ?_
  refine va_put (D := D) (ci := 5) (v := .int 0) (ty := .int) (C := "ValueBenchModel") (T := TM) (N := 32) hx hb htx inM tyM tyM_ok nmM hown hK hP hD hS 0 rfl rfl 0 (by decide) (htx _ kw_5_87) (fun _ h9 => h9) rfl (by decide +kernel) rfl rfl (Nat.le_of_ble_eq_true rfl) dM_count_2 (fun H locs hP hD hS => ?_)
  obtain ⟨hP, hD⟩ : xPD D xcl A [(a0, .inr (5, [.int 0, v4, v5, v6, v7, v8, v9, v10, v11, v12, v13, v14, v15, v16, v17, v18, v19, v20, v21, v22, v23, v24, v25, v26, v27, v28, v29, v30, v31, v32, v33, v34]))] H := ⟨hP, hD⟩
  refine lv_iload_n hx hb dM_count_5 rfl (lv_at hl 1 rfl) ?_
  refine lv_if_lt (tgt := 14) hx hb dM_count_6 (by decide) (fun _ => ?_) (fun h => by first | exact absurd h h2 | exact absurd h2 h)
  refine lv_aload_n hx hb dM_count_14 rfl (lv_at hl 0 rfl) ?_
  refine lv_iconst (v := 1) hx hb dM_count_15 (by decide) ?_
  obtain ⟨hPc, hDc, hFc⟩ := xcut (wc := [(a0, .inr (5, [.int 0, v4, v5, v6, v7, v8, v9, v10, v11, v12, v13, v14, v15, v16, v17, v18, v19, v20, v21, v22, v23, v24, v25, v26, v27, v28, v29, v30, v31, v32, v33, v34]))]) hP hD hS hA [0] rfl rfl (by decide)
  refine va_calli (va_runV (C := "ValueBenchModel") (As := [.int 1]) (rest := []) ⟨hx, hb, hml, hown, htx⟩ (cM_fail_0 l hl9 D cT aK aV H.size a0 (.int 0) v4 v5 v6 v7 v8 v9 v10 v11 v12 v13 v14 v15 v16 v17 v18 v19 v20 v21 v22 v23 v24 v25 v26 v27 v28 v29 v30 v31 v32 v33 v34) ⟨callB_of 1 htx (xw_goodC kw_5_195) rfl rfl rfl (htx _ kw_1_5) (htx _ kw_5_192) ⟨by decide, by decide, by decide +kernel⟩ ⟨Nat.le_of_ble_eq_true rfl, Nat.le_of_ble_eq_true rfl⟩, (htx _ kw_5_194), (htx _ kp_M_fail)⟩ ⟨xPre_blind, va_recv hK hP (ci := 5) rfl (q0 := 0) rfl, (fun U hU hW => ⟨rfl, xPre_of hZ hS hFc hPc hDc hK U hU hW⟩)⟩ rfl rfl hl.1 rfl (lv_room (Nat.le_of_ble_eq_true rfl)) dM_count_16 ⟨Nat.le_of_ble_eq_true rfl, Nat.le_of_ble_eq_true rfl⟩) hS (fun q _ h => hFc q h) hFc (fun r1 u9 t H1 locs ht hvm hr9 hB hz1 hk1 hS => ?_)
  obtain ⟨hP1, hK1, hD1⟩ := hB
  rw [ht] at hP1
  obtain ⟨hP, hD⟩ := xjoin (W := [(a0, .inr (5, [.int 1, v4, v5, v6, v7, v8, v9, v10, v11, v12, v13, v14, v15, v16, v17, v18, v19, v20, v21, v22, v23, v24, v25, v26, v27, v28, v29, v30, v31, v32, v33, v34]))]) hP hD [0] [] 0 rfl rfl (by decide) (by decide) hk1 hFc hP1 hD1
  generalize H1 = H at hP hS ⊢
  rw [hr9]
  refine W.eq (g2 := F0 m 19 ls [.int 0]) rfl ?_
  obtain ⟨hP9, hD9⟩ := xsub (wc := [(a0, .inr (5, [.int 1, v4, v5, v6, v7, v8, v9, v10, v11, v12, v13, v14, v15, v16, v17, v18, v19, v20, v21, v22, v23, v24, v25, v26, v27, v28, v29, v30, v31, v32, v33, v34]))]) hP hD [0] rfl rfl (by decide)
  refine W.widen (k := 0) (n := 0) (Nat.le_of_ble_eq_true rfl) (Nat.le_of_ble_eq_true rfl) ?_
  exact W.iret (v := 0) hx hb hr (fun t ht hW => ⟨⟨0, (), rfl, rfl, by rw [ht]; exact hP9, va_K.moved hW.alike hK, hD9⟩, hS.F ht⟩) hS.2.2 dM_count_19
set_option maxHeartbeats 400000000 in
set_option maxRecDepth 100000 in
theorem cM_count_5 (l : Launch) (hl9 : l.stackTraces = false) (D : va_G) (cT : Nat → ClassId) (aK aV : Nat → Nat) (sz : Nat) (a0 : Nat) (x1 : Int32) (v5 : Value) (v6 : Value) (v7 : Value) (v8 : Value) (v9 : Value) (v10 : Value) (v11 : Value) (v12 : Value) (v13 : Value) (v14 : Value) (v15 : Value) (v16 : Value) (v17 : Value) (v18 : Value) (v19 : Value) (v20 : Value) (v21 : Value) (v22 : Value) (v23 : Value) (v24 : Value) (v25 : Value) (v26 : Value) (v27 : Value) (v28 : Value) (v29 : Value) (v30 : Value) (v31 : Value) (v32 : Value) (v33 : Value) (v34 : Value) (v35 : Value) (v36 : Value) (h2 : ¬ x1 < 0) (h3 : 3 < x1) (h4 : ¬ x1 ≤ 3) : xMet l yM_count wyM_count 1 0 0 21 D cT aK aV sz [.ref a0, .int x1] [(a0, .inr (5, [v5, v6, v7, v8, v9, v10, v11, v12, v13, v14, v15, v16, v17, v18, v19, v20, v21, v22, v23, v24, v25, v26, v27, v28, v29, v30, v31, v32, v33, v34, v35, v36]))] (fun A => va_Qi (fun (r : Int32) (_ : Unit) => r = 0) (fun _ t => xB D xcl cT A [(a0, .inr (5, [.int 1, v6, v7, v8, v9, v10, v11, v12, v13, v14, v15, v16, v17, v18, v19, v20, v21, v22, v23, v24, v25, v26, v27, v28, v29, v30, v31, v32, v33, v34, v35, v36]))] t) A) := by
  refine Met.ofW (cc := prog_13_method_88_code) (maxL := 2) (ret := (some .int)) (by decide) rfl ?_
  intro p e s m args below meth c s₁ B hml hv
  obtain ⟨rfl, hsz, hZ, hP, hK, hD0⟩ := hv
  have hx := B.exec
  have hb := B.bytes
  have hr := B.returns
  have hts := atoms_spec (ws := wyM_count) B.pre
  have htx := fun w h => hts w (List.mem_cons_of_mem _ h)
  have hown : s.vm.findClass "ValueBenchModel" = some m.cls := findClass_of_methodNamed B.named
  have hlocks := B.notSynchronized
  subst hsz
  have hD := hD0.self (sz := s.heap.size)
  generalize hAe : va_A [(a0, .inr (5, [v5, v6, v7, v8, v9, v10, v11, v12, v13, v14, v15, v16, v17, v18, v19, v20, v21, v22, v23, v24, v25, v26, v27, v28, v29, v30, v31, v32, v33, v34, v35, v36]))] s.heap.size = A at hD hZ ⊢
  have hA : ∀ q : Nat, s.heap.size ≤ q → A q := fun q h => by rw [← hAe]; exact Or.inr h
  have hS : va_S A s.heap s.heap [] := va_S.rf
  have hP : va_P D xcl [(a0, .inr (5, [v5, v6, v7, v8, v9, v10, v11, v12, v13, v14, v15, v16, v17, v18, v19, v20, v21, v22, v23, v24, v25, v26, v27, v28, v29, v30, v31, v32, v33, v34, v35, v36]))] s.heap := hP
  have hl := lv_entry ([.ref a0, .int x1]) (n := 2) (Nat.le_of_ble_eq_true rfl)
  rw [lg_entry_eq]
  generalize (lg_sl ([.ref a0, .int x1]) ++ List.replicate (2 - (lg_sl ([.ref a0, .int x1])).length) Slot.unset).toArray = ls at hl ⊢
  have hl : lv_has ls 2 [(0, .ref a0), (1, .int x1)] := hl
  refine lv_aload_n hx hb dM_count_0 rfl (lv_at hl 0 rfl) ?_
  refine lv_iconst (v := 0) hx hb dM_count_1 (by decide) ?_
  refine va_put (D := D) (ci := 5) (v := .int 0) (ty := .int) (C := "ValueBenchModel") (T := TM) (N := 32) hx hb htx inM tyM tyM_ok nmM hown hK hP hD hS 0 rfl rfl 0 (by decide) (htx _ kw_5_87) (fun _ h9 => h9) rfl (by decide +kernel) rfl rfl (Nat.le_of_ble_eq_true rfl) dM_count_2 (fun H locs hP hD hS => ?_)
  obtain ⟨hP, hD⟩ : xPD D xcl A [(a0, .inr (5, [.int 0, v6, v7, v8, v9, v10, v11, v12, v13, v14, v15, v16, v17, v18, v19, v20, v21, v22, v23, v24, v25, v26, v27, v28, v29, v30, v31, v32, v33, v34, v35, v36]))] H := ⟨hP, hD⟩
  refine lv_iload_n hx hb dM_count_5 rfl (lv_at hl 1 rfl) ?_
  refine lv_if_lt (tgt := 14) hx hb dM_count_6 (by decide) (fun h => by first | exact absurd h h2 | exact absurd h h3 | exact absurd h h4 | exact absurd h2 h | exact absurd h3 h | exact absurd h4 h) (fun _ => ?_)
  refine lv_iload_n hx hb dM_count_9 rfl (lv_at hl 1 rfl) ?_
  refine lv_iconst (v := 3) hx hb dM_count_10 (by decide) ?_
  refine lv_icmp_le (tgt := 20) hx hb dM_count_11 (by decide) (fun h => by first | exact absurd h h2 | exact absurd h h3 | exact absurd h h4 | exact absurd h2 h | exact absurd h3 h | exact absurd h4 h) (fun _ => ?_)
  refine lv_aload_n hx hb dM_count_14 rfl (lv_at hl 0 rfl) ?_
  refine lv_iconst (v := 1) hx hb dM_count_15 (by decide) ?_
  obtain ⟨hPc, hDc, hFc⟩ := xcut (wc := [(a0, .inr (5, [.int 0, v6, v7, v8, v9, v10, v11, v12, v13, v14, v15, v16, v17, v18, v19, v20, v21, v22, v23, v24, v25, v26, v27, v28, v29, v30, v31, v32, v33, v34, v35, v36]))]) hP hD hS hA [0] rfl rfl (by decide)
  refine va_calli (va_runV (C := "ValueBenchModel") (As := [.int 1]) (rest := []) ⟨hx, hb, hml, hown, htx⟩ (cM_fail_0 l hl9 D cT aK aV H.size a0 (.int 0) v6 v7 v8 v9 v10 v11 v12 v13 v14 v15 v16 v17 v18 v19 v20 v21 v22 v23 v24 v25 v26 v27 v28 v29 v30 v31 v32 v33 v34 v35 v36) ⟨callB_of 1 htx (xw_goodC kw_5_195) rfl rfl rfl (htx _ kw_1_5) (htx _ kw_5_192) ⟨by decide, by decide, by decide +kernel⟩ ⟨Nat.le_of_ble_eq_true rfl, Nat.le_of_ble_eq_true rfl⟩, (htx _ kw_5_194), (htx _ kp_M_fail)⟩ ⟨xPre_blind, va_recv hK hP (ci := 5) rfl (q0 := 0) rfl, (fun U hU hW => ⟨rfl, xPre_of hZ hS hFc hPc hDc hK U hU hW⟩)⟩ rfl rfl hl.1 rfl (lv_room (Nat.le_of_ble_eq_true rfl)) dM_count_16 ⟨Nat.le_of_ble_eq_true rfl, Nat.le_of_ble_eq_true rfl⟩) hS (fun q _ h => hFc q h) hFc (fun r1 u9 t H1 locs ht hvm hr9 hB hz1 hk1 hS => ?_)
  obtain ⟨hP1, hK1, hD1⟩ := hB
  rw [ht] at hP1
  obtain ⟨hP, hD⟩ := xjoin (W := [(a0, .inr (5, [.int 1, v6, v7, v8, v9, v10, v11, v12, v13, v14, v15, v16, v17, v18, v19, v20, v21, v22, v23, v24, v25, v26, v27, v28, v29, v30, v31, v32, v33, v34, v35, v36]))]) hP hD [0] [] 0 rfl rfl (by decide) (by decide) hk1 hFc hP1 hD1
  generalize H1 = H at hP hS ⊢
  rw [hr9]
  refine W.eq (g2 := F0 m 19 ls [.int 0]) rfl ?_
  obtain ⟨hP9, hD9⟩ := xsub (wc := [(a0, .inr (5, [.int 1, v6, v7, v8, v9, v10, v11, v12, v13, v14, v15, v16, v17, v18, v19, v20, v21, v22, v23, v24, v25, v26, v27, v28, v29, v30, v31, v32, v33, v34, v35, v36]))]) hP hD [0] rfl rfl (by decide)
  refine W.widen (k := 0) (n := 0) (Nat.le_of_ble_eq_true rfl) (Nat.le_of_ble_eq_true rfl) ?_
  exact W.iret (v := 0) hx hb hr (fun t ht hW => ⟨⟨0, (), rfl, rfl, by rw [ht]; exact hP9, va_K.moved hW.alike hK, hD9⟩, hS.F ht⟩) hS.2.2 dM_count_19
set_option maxHeartbeats 400000000 in
set_option maxRecDepth 100000 in
theorem cM_word_0 (l : Launch) (hl9 : l.stackTraces = false) (D : va_G) (cT : Nat → ClassId) (aK aV : Nat → Nat) (sz : Nat) (a0 : Nat) (x1 : Int32) (v3 : Value) (v4 : Value) (v5 : Value) (v6 : Value) (v7 : Value) (v8 : Value) (v9 : Value) (v10 : Value) (v11 : Value) (v12 : Value) (v13 : Value) (v14 : Value) (v15 : Value) (v16 : Value) (v17 : Value) (v18 : Value) (v19 : Value) (v20 : Value) (v21 : Value) (v22 : Value) (v23 : Value) (v24 : Value) (v25 : Value) (v26 : Value) (v27 : Value) (v28 : Value) (v29 : Value) (v30 : Value) (v31 : Value) (v32 : Value) (v33 : Value) (v34 : Value) (h2 : x1 < 0) : xMet l yM_word wyM_word 1 0 0 21 D cT aK aV sz [.ref a0, .int x1] [(a0, .inr (5, [v3, v4, v5, v6, v7, v8, v9, v10, v11, v12, v13, v14, v15, v16, v17, v18, v19, v20, v21, v22, v23, v24, v25, v26, v27, v28, v29, v30, v31, v32, v33, v34]))] (fun A => va_Ql (fun (r : Int64) (_ : Unit) => r = 0) (fun _ t => xB D xcl cT A [(a0, .inr (5, [.int 1, v4, v5, v6, v7, v8, v9, v10, v11, v12, v13, v14, v15, v16, v17, v18, v19, v20, v21, v22, v23, v24, v25, v26, v27, v28, v29, v30, v31, v32, v33, v34]))] t) A) := by
  refine Met.ofW (cc := prog_13_method_87_code) (maxL := 5) (ret := (some .long)) (by decide) rfl ?_
  intro p e s m args below meth c s₁ B hml hv
  obtain ⟨rfl, hsz, hZ, hP, hK, hD0⟩ := hv
  have hx := B.exec
  have hb := B.bytes
  have hr := B.returns
  have hts := atoms_spec (ws := wyM_word) B.pre
  have htx := fun w h => hts w (List.mem_cons_of_mem _ h)
  have hown : s.vm.findClass "ValueBenchModel" = some m.cls := findClass_of_methodNamed B.named
  have hlocks := B.notSynchronized
  subst hsz
  have hD := hD0.self (sz := s.heap.size)
  generalize hAe : va_A [(a0, .inr (5, [v3, v4, v5, v6, v7, v8, v9, v10, v11, v12, v13, v14, v15, v16, v17, v18, v19, v20, v21, v22, v23, v24, v25, v26, v27, v28, v29, v30, v31, v32, v33, v34]))] s.heap.size = A at hD hZ ⊢
  have hA : ∀ q : Nat, s.heap.size ≤ q → A q := fun q h => by rw [← hAe]; exact Or.inr h
  have hS : va_S A s.heap s.heap [] := va_S.rf
  have hP : va_P D xcl [(a0, .inr (5, [v3, v4, v5, v6, v7, v8, v9, v10, v11, v12, v13, v14, v15, v16, v17, v18, v19, v20, v21, v22, v23, v24, v25, v26, v27, v28, v29, v30, v31, v32, v33, v34]))] s.heap := hP
  have hl := lv_entry ([.ref a0, .int x1]) (n := 5) (Nat.le_of_ble_eq_true rfl)
  rw [lg_entry_eq]
  generalize (lg_sl ([.ref a0, .int x1]) ++ List.replicate (5 - (lg_sl ([.ref a0, .int x1])).length) Slot.unset).toArray = ls at hl ⊢
  have hl : lv_has ls 5 [(0, .ref a0), (1, .int x1)] := hl
  refine lv_aload_n hx hb dM_word_0 rfl (lv_at hl 0 rfl) ?_
  refine lv_iconst (v := 0) hx hb dM_word_1 (by decide) ?_
  refine va_put (D := D) (ci := 5) (v := .int 0) (ty := .int) (C := "ValueBenchModel") (T := TM) (N := 32) hx hb htx inM tyM tyM_ok nmM hown hK hP hD hS 0 rfl rfl 0 (by decide) (htx _ kw_5_87) (fun _ h9 => h9) rfl (by decide +kernel) rfl rfl (Nat.le_of_ble_eq_true rfl) dM_word_2 (fun H locs hP hD hS => ?_)
  obtain ⟨hP, hD⟩ : xPD D xcl A [(a0, .inr (5, [.int 0, v4, v5, v6, v7, v8, v9, v10, v11, v12, v13, v14, v15, v16, v17, v18, v19, v20, v21, v22, v23, v24, v25, v26, v27, v28, v29, v30, v31, v32, v33, v34]))] H := ⟨hP, hD⟩
  refine lv_iload_n hx hb dM_word_5 rfl (lv_at hl 1 rfl) ?_
  refine lv_if_lt (tgt := 17) hx hb dM_word_6 (by decide) (fun _ => ?_) (fun h => by first | exact absurd h h2 | exact absurd h2 h)
  refine lv_aload_n hx hb dM_word_17 rfl (lv_at hl 0 rfl) ?_
  refine lv_iconst (v := 1) hx hb dM_word_18 (by decide) ?_
  obtain ⟨hPc, hDc, hFc⟩ := xcut (wc := [(a0, .inr (5, [.int 0, v4, v5, v6, v7, v8, v9, v10, v11, v12, v13, v14, v15, v16, v17, v18, v19, v20, v21, v22, v23, v24, v25, v26, v27, v28, v29, v30, v31, v32, v33, v34]))]) hP hD hS hA [0] rfl rfl (by decide)
  refine va_calli (va_runV (C := "ValueBenchModel") (As := [.int 1]) (rest := []) ⟨hx, hb, hml, hown, htx⟩ (cM_fail_0 l hl9 D cT aK aV H.size a0 (.int 0) v4 v5 v6 v7 v8 v9 v10 v11 v12 v13 v14 v15 v16 v17 v18 v19 v20 v21 v22 v23 v24 v25 v26 v27 v28 v29 v30 v31 v32 v33 v34) ⟨callB_of 1 htx (xw_goodC kw_5_195) rfl rfl rfl (htx _ kw_1_5) (htx _ kw_5_192) ⟨by decide, by decide, by decide +kernel⟩ ⟨Nat.le_of_ble_eq_true rfl, Nat.le_of_ble_eq_true rfl⟩, (htx _ kw_5_194), (htx _ kp_M_fail)⟩ ⟨xPre_blind, va_recv hK hP (ci := 5) rfl (q0 := 0) rfl, (fun U hU hW => ⟨rfl, xPre_of hZ hS hFc hPc hDc hK U hU hW⟩)⟩ rfl rfl hl.1 rfl (lv_room (Nat.le_of_ble_eq_true rfl)) dM_word_19 ⟨Nat.le_of_ble_eq_true rfl, Nat.le_of_ble_eq_true rfl⟩) hS (fun q _ h => hFc q h) hFc (fun r1 u9 t H1 locs ht hvm hr9 hB hz1 hk1 hS => ?_)
  obtain ⟨hP1, hK1, hD1⟩ := hB
  rw [ht] at hP1
  obtain ⟨hP, hD⟩ := xjoin (W := [(a0, .inr (5, [.int 1, v4, v5, v6, v7, v8, v9, v10, v11, v12, v13, v14, v15, v16, v17, v18, v19, v20, v21, v22, v23, v24, v25, v26, v27, v28, v29, v30, v31, v32, v33, v34]))]) hP hD [0] [] 0 rfl rfl (by decide) (by decide) hk1 hFc hP1 hD1
  generalize H1 = H at hP hS ⊢
  rw [hr9]
  refine W.eq (g2 := F0 m 22 ls [.int 0]) rfl ?_
  refine lv_i2l hx hb dM_word_22 rfl ?_
  refine W.eq (g2 := F0 m 23 ls [.long 0]) rfl ?_
  obtain ⟨hP9, hD9⟩ := xsub (wc := [(a0, .inr (5, [.int 1, v4, v5, v6, v7, v8, v9, v10, v11, v12, v13, v14, v15, v16, v17, v18, v19, v20, v21, v22, v23, v24, v25, v26, v27, v28, v29, v30, v31, v32, v33, v34]))]) hP hD [0] rfl rfl (by decide)
  refine W.widen (k := 0) (n := 0) (Nat.le_of_ble_eq_true rfl) (Nat.le_of_ble_eq_true rfl) ?_
  exact W.lret (v := 0) hx hb hr (fun t ht hW => ⟨⟨0, (), rfl, rfl, by rw [ht]; exact hP9, va_K.moved hW.alike hK, hD9⟩, hS.F ht⟩) hS.2.2 dM_word_23
set_option maxHeartbeats 400000000 in
set_option maxRecDepth 100000 in
theorem cM_word_1 (l : Launch) (hl9 : l.stackTraces = false) (D : va_G) (cT : Nat → ClassId) (aK aV : Nat → Nat) (sz : Nat) (a0 : Nat) (x1 : Int32) (v4 : Value) (v5 : Value) (v6 : Value) (v7 : Value) (v8 : Value) (v9 : Value) (v10 : Value) (v11 : Value) (v12 : Value) (v13 : Value) (v14 : Value) (v15 : Value) (v16 : Value) (v17 : Value) (v18 : Value) (v19 : Value) (v20 : Value) (v21 : Value) (v22 : Value) (v23 : Value) (v24 : Value) (v25 : Value) (v26 : Value) (v27 : Value) (v28 : Value) (v29 : Value) (v30 : Value) (v31 : Value) (v32 : Value) (v33 : Value) (v34 : Value) (h2 : ¬ x1 < 0) (h3 : 0 ≤ x1) : xMet l yM_word wyM_word 1 0 0 21 D cT aK aV sz [.ref a0, .int x1] [(a0, .inr (5, [v4, v5, v6, v7, v8, v9, v10, v11, v12, v13, v14, v15, v16, v17, v18, v19, v20, v21, v22, v23, v24, v25, v26, v27, v28, v29, v30, v31, v32, .int 0, v33, v34]))] (fun A => va_Ql (fun (r : Int64) (_ : Unit) => r = 0) (fun _ t => xB D xcl cT A [(a0, .inr (5, [.int 1, v5, v6, v7, v8, v9, v10, v11, v12, v13, v14, v15, v16, v17, v18, v19, v20, v21, v22, v23, v24, v25, v26, v27, v28, v29, v30, v31, v32, .int 0, v33, v34]))] t) A) := by
  refine Met.ofW (cc := prog_13_method_87_code) (maxL := 5) (ret := (some .long)) (by decide) rfl ?_
  intro p e s m args below meth c s₁ B hml hv
  obtain ⟨rfl, hsz, hZ, hP, hK, hD0⟩ := hv
  have hx := B.exec
  have hb := B.bytes
  have hr := B.returns
  have hts := atoms_spec (ws := wyM_word) B.pre
  have htx := fun w h => hts w (List.mem_cons_of_mem _ h)
  have hown : s.vm.findClass "ValueBenchModel" = some m.cls := findClass_of_methodNamed B.named
  have hlocks := B.notSynchronized
  subst hsz
  have hD := hD0.self (sz := s.heap.size)
  generalize hAe : va_A [(a0, .inr (5, [v4, v5, v6, v7, v8, v9, v10, v11, v12, v13, v14, v15, v16, v17, v18, v19, v20, v21, v22, v23, v24, v25, v26, v27, v28, v29, v30, v31, v32, .int 0, v33, v34]))] s.heap.size = A at hD hZ ⊢
  have hA : ∀ q : Nat, s.heap.size ≤ q → A q := fun q h => by rw [← hAe]; exact Or.inr h
  have hS : va_S A s.heap s.heap [] := va_S.rf
  have hP : va_P D xcl [(a0, .inr (5, [v4, v5, v6, v7, v8, v9, v10, v11, v12, v13, v14, v15, v16, v17, v18, v19, v20, v21, v22, v23, v24, v25, v26, v27, v28, v29, v30, v31, v32, .int 0, v33, v34]))] s.heap := hP
  have hl := lv_entry ([.ref a0, .int x1]) (n := 5) (Nat.le_of_ble_eq_true rfl)
  rw [lg_entry_eq]
  generalize (lg_sl ([.ref a0, .int x1]) ++ List.replicate (5 - (lg_sl ([.ref a0, .int x1])).length) Slot.unset).toArray = ls at hl ⊢
  have hl : lv_has ls 5 [(0, .ref a0), (1, .int x1)] := hl
  refine lv_aload_n hx hb dM_word_0 rfl (lv_at hl 0 rfl) ?_
  refine lv_iconst (v := 0) hx hb dM_word_1 (by decide) ?_
  refine va_put (D := D) (ci := 5) (v := .int 0) (ty := .int) (C := "ValueBenchModel") (T := TM) (N := 32) hx hb htx inM tyM tyM_ok nmM hown hK hP hD hS 0 rfl rfl 0 (by decide) (htx _ kw_5_87) (fun _ h9 => h9) rfl (by decide +kernel) rfl rfl (Nat.le_of_ble_eq_true rfl) dM_word_2 (fun H locs hP hD hS => ?_)
  obtain ⟨hP, hD⟩ : xPD D xcl A [(a0, .inr (5, [.int 0, v5, v6, v7, v8, v9, v10, v11, v12, v13, v14, v15, v16, v17, v18, v19, v20, v21, v22, v23, v24, v25, v26, v27, v28, v29, v30, v31, v32, .int 0, v33, v34]))] H := ⟨hP, hD⟩
  refine lv_iload_n hx hb dM_word_5 rfl (lv_at hl 1 rfl) ?_
  refine lv_if_lt (tgt := 17) hx hb dM_word_6 (by decide) (fun h => by first | exact absurd h h2 | exact absurd h h3 | exact absurd h2 h | exact absurd h3 h) (fun _ => ?_)
  refine lv_iload_n hx hb dM_word_9 rfl (lv_at hl 1 rfl) ?_
  refine lv_aload_n hx hb dM_word_10 rfl (lv_at hl 0 rfl) ?_
  refine va_get (D := D) (ci := 5) (v := .int 0) (C := "ValueBenchModel") (T := TM) (N := 32) hx hb htx inM hown hK hP 0 rfl rfl 29 (by decide) (htx _ kw_5_116) (fun _ h9 => h9) rfl dM_word_11 ?_
  refine lv_icmp_lt (tgt := 24) hx hb dM_word_14 (by decide) (fun h => by first | exact absurd h h2 | exact absurd h h3 | exact absurd h2 h | exact absurd h3 h) (fun _ => ?_)
  refine lv_aload_n hx hb dM_word_17 rfl (lv_at hl 0 rfl) ?_
  refine lv_iconst (v := 1) hx hb dM_word_18 (by decide) ?_
  obtain ⟨hPc, hDc, hFc⟩ := xcut (wc := [(a0, .inr (5, [.int 0, v5, v6, v7, v8, v9, v10, v11, v12, v13, v14, v15, v16, v17, v18, v19, v20, v21, v22, v23, v24, v25, v26, v27, v28, v29, v30, v31, v32, .int 0, v33, v34]))]) hP hD hS hA [0] rfl rfl (by decide)
  refine va_calli (va_runV (C := "ValueBenchModel") (As := [.int 1]) (rest := []) ⟨hx, hb, hml, hown, htx⟩ (cM_fail_0 l hl9 D cT aK aV H.size a0 (.int 0) v5 v6 v7 v8 v9 v10 v11 v12 v13 v14 v15 v16 v17 v18 v19 v20 v21 v22 v23 v24 v25 v26 v27 v28 v29 v30 v31 v32 (.int 0) v33 v34) ⟨callB_of 1 htx (xw_goodC kw_5_195) rfl rfl rfl (htx _ kw_1_5) (htx _ kw_5_192) ⟨by decide, by decide, by decide +kernel⟩ ⟨Nat.le_of_ble_eq_true rfl, Nat.le_of_ble_eq_true rfl⟩, (htx _ kw_5_194), (htx _ kp_M_fail)⟩ ⟨xPre_blind, va_recv hK hP (ci := 5) rfl (q0 := 0) rfl, (fun U hU hW => ⟨rfl, xPre_of hZ hS hFc hPc hDc hK U hU hW⟩)⟩ rfl rfl hl.1 rfl (lv_room (Nat.le_of_ble_eq_true rfl)) dM_word_19 ⟨Nat.le_of_ble_eq_true rfl, Nat.le_of_ble_eq_true rfl⟩) hS (fun q _ h => hFc q h) hFc (fun r1 u9 t H1 locs ht hvm hr9 hB hz1 hk1 hS => ?_)
  obtain ⟨hP1, hK1, hD1⟩ := hB
  rw [ht] at hP1
  obtain ⟨hP, hD⟩ := xjoin (W := [(a0, .inr (5, [.int 1, v5, v6, v7, v8, v9, v10, v11, v12, v13, v14, v15, v16, v17, v18, v19, v20, v21, v22, v23, v24, v25, v26, v27, v28, v29, v30, v31, v32, .int 0, v33, v34]))]) hP hD [0] [] 0 rfl rfl (by decide) (by decide) hk1 hFc hP1 hD1
  generalize H1 = H at hP hS ⊢
  rw [hr9]
  refine W.eq (g2 := F0 m 22 ls [.int 0]) rfl ?_
  refine lv_i2l hx hb dM_word_22 rfl ?_
  refine W.eq (g2 := F0 m 23 ls [.long 0]) rfl ?_
  obtain ⟨hP9, hD9⟩ := xsub (wc := [(a0, .inr (5, [.int 1, v5, v6, v7, v8, v9, v10, v11, v12, v13, v14, v15, v16, v17, v18, v19, v20, v21, v22, v23, v24, v25, v26, v27, v28, v29, v30, v31, v32, .int 0, v33, v34]))]) hP hD [0] rfl rfl (by decide)
  refine W.widen (k := 0) (n := 0) (Nat.le_of_ble_eq_true rfl) (Nat.le_of_ble_eq_true rfl) ?_
  exact W.lret (v := 0) hx hb hr (fun t ht hW => ⟨⟨0, (), rfl, rfl, by rw [ht]; exact hP9, va_K.moved hW.alike hK, hD9⟩, hS.F ht⟩) hS.2.2 dM_word_23
set_option maxHeartbeats 400000000 in
set_option maxRecDepth 100000 in
theorem cM_clear_0 (l : Launch) (hl9 : l.stackTraces = false) (D : va_G) (cT : Nat → ClassId) (aK aV : Nat → Nat) (sz : Nat) (a0 : Nat) (v1 : Value) (v2 : Value) (v3 : Value) (v4 : Value) (v5 : Value) (v6 : Value) (v7 : Value) (v8 : Value) (v9 : Value) (v10 : Value) (v11 : Value) (v12 : Value) (v13 : Value) (v14 : Value) (v15 : Value) (v16 : Value) (v17 : Value) (v18 : Value) (v19 : Value) (v20 : Value) (v21 : Value) (v22 : Value) (v23 : Value) (v24 : Value) (v25 : Value) (v26 : Value) (v27 : Value) (v28 : Value) (v29 : Value) (v30 : Value) (v31 : Value) (v32 : Value) : xMet l yM_clear wyM_clear 0 0 0 0 D cT aK aV sz [.ref a0] [(a0, .inr (5, [v1, v2, v3, v4, v5, v6, v7, v8, v9, v10, v11, v12, v13, v14, v15, v16, v17, v18, v19, v20, v21, v22, v23, v24, v25, v26, v27, v28, v29, v30, v31, v32]))] (fun A => va_Qv (fun _ : Unit => True) (fun _ t => xB D xcl cT A [(a0, .inr (5, [v1, v2, .int 0, v4, .int 0, v6, v7, .int 0, v9, .int 0, v11, v12, .int 0, v14, v15, v16, v17, v18, v19, v20, v21, v22, v23, v24, v25, v26, v27, v28, v29, v30, v31, v32]))] t) A) := by
  refine Met.ofW (cc := prog_13_method_18_code) (maxL := 1) (ret := none) (by decide) rfl ?_
  intro p e s m args below meth c s₁ B hml hv
  obtain ⟨rfl, hsz, hZ, hP, hK, hD0⟩ := hv
  have hx := B.exec
  have hb := B.bytes
  have hr := B.returns
  have hts := atoms_spec (ws := wyM_clear) B.pre
  have htx := fun w h => hts w (List.mem_cons_of_mem _ h)
  have hown : s.vm.findClass "ValueBenchModel" = some m.cls := findClass_of_methodNamed B.named
  have hlocks := B.notSynchronized
  subst hsz
  have hD := hD0.self (sz := s.heap.size)
  generalize hAe : va_A [(a0, .inr (5, [v1, v2, v3, v4, v5, v6, v7, v8, v9, v10, v11, v12, v13, v14, v15, v16, v17, v18, v19, v20, v21, v22, v23, v24, v25, v26, v27, v28, v29, v30, v31, v32]))] s.heap.size = A at hD hZ ⊢
  have hA : ∀ q : Nat, s.heap.size ≤ q → A q := fun q h => by rw [← hAe]; exact Or.inr h
  have hS : va_S A s.heap s.heap [] := va_S.rf
  have hP : va_P D xcl [(a0, .inr (5, [v1, v2, v3, v4, v5, v6, v7, v8, v9, v10, v11, v12, v13, v14, v15, v16, v17, v18, v19, v20, v21, v22, v23, v24, v25, v26, v27, v28, v29, v30, v31, v32]))] s.heap := hP
  have hl := lv_entry ([.ref a0]) (n := 1) (Nat.le_of_ble_eq_true rfl)
  rw [lg_entry_eq]
  generalize (lg_sl ([.ref a0]) ++ List.replicate (1 - (lg_sl ([.ref a0])).length) Slot.unset).toArray = ls at hl ⊢
  have hl : lv_has ls 1 [(0, .ref a0)] := hl
  refine lv_aload_n hx hb dM_clear_0 rfl (lv_at hl 0 rfl) ?_
  refine lv_iconst (v := 0) hx hb dM_clear_1 (by decide) ?_
  refine va_put (D := D) (ci := 5) (v := .int 0) (ty := .int) (C := "ValueBenchModel") (T := TM) (N := 32) hx hb htx inM tyM tyM_ok nmM hown hK hP hD hS 0 rfl rfl 2 (by decide) (htx _ kw_5_89) (fun _ h9 => h9) rfl (by decide +kernel) rfl rfl (Nat.le_of_ble_eq_true rfl) dM_clear_2 (fun H locs hP hD hS => ?_)
  obtain ⟨hP, hD⟩ : xPD D xcl A [(a0, .inr (5, [v1, v2, .int 0, v4, v5, v6, v7, v8, v9, v10, v11, v12, v13, v14, v15, v16, v17, v18, v19, v20, v21, v22, v23, v24, v25, v26, v27, v28, v29, v30, v31, v32]))] H := ⟨hP, hD⟩
  refine lv_aload_n hx hb dM_clear_5 rfl (lv_at hl 0 rfl) ?_
  refine lv_iconst (v := 0) hx hb dM_clear_6 (by decide) ?_
  refine va_put (D := D) (ci := 5) (v := .int 0) (ty := .int) (C := "ValueBenchModel") (T := TM) (N := 32) hx hb htx inM tyM tyM_ok nmM hown hK hP hD hS 0 rfl rfl 4 (by decide) (htx _ kw_5_91) (fun _ h9 => h9) rfl (by decide +kernel) rfl rfl (Nat.le_of_ble_eq_true rfl) dM_clear_7 (fun H locs hP hD hS => ?_)
  obtain ⟨hP, hD⟩ : xPD D xcl A [(a0, .inr (5, [v1, v2, .int 0, v4, .int 0, v6, v7, v8, v9, v10, v11, v12, v13, v14, v15, v16, v17, v18, v19, v20, v21, v22, v23, v24, v25, v26, v27, v28, v29, v30, v31, v32]))] H := ⟨hP, hD⟩
  refine lv_aload_n hx hb dM_clear_10 rfl (lv_at hl 0 rfl) ?_
  refine lv_iconst (v := 0) hx hb dM_clear_11 (by decide) ?_
  refine va_put (D := D) (ci := 5) (v := .int 0) (ty := .int) (C := "ValueBenchModel") (T := TM) (N := 32) hx hb htx inM tyM tyM_ok nmM hown hK hP hD hS 0 rfl rfl 7 (by decide) (htx _ kw_5_94) (fun _ h9 => h9) rfl (by decide +kernel) rfl rfl (Nat.le_of_ble_eq_true rfl) dM_clear_12 (fun H locs hP hD hS => ?_)
  obtain ⟨hP, hD⟩ : xPD D xcl A [(a0, .inr (5, [v1, v2, .int 0, v4, .int 0, v6, v7, .int 0, v9, v10, v11, v12, v13, v14, v15, v16, v17, v18, v19, v20, v21, v22, v23, v24, v25, v26, v27, v28, v29, v30, v31, v32]))] H := ⟨hP, hD⟩
  refine lv_aload_n hx hb dM_clear_15 rfl (lv_at hl 0 rfl) ?_
  refine lv_iconst (v := 0) hx hb dM_clear_16 (by decide) ?_
  refine va_put (D := D) (ci := 5) (v := .int 0) (ty := .int) (C := "ValueBenchModel") (T := TM) (N := 32) hx hb htx inM tyM tyM_ok nmM hown hK hP hD hS 0 rfl rfl 12 (by decide) (htx _ kw_5_99) (fun _ h9 => h9) rfl (by decide +kernel) rfl rfl (Nat.le_of_ble_eq_true rfl) dM_clear_17 (fun H locs hP hD hS => ?_)
  obtain ⟨hP, hD⟩ : xPD D xcl A [(a0, .inr (5, [v1, v2, .int 0, v4, .int 0, v6, v7, .int 0, v9, v10, v11, v12, .int 0, v14, v15, v16, v17, v18, v19, v20, v21, v22, v23, v24, v25, v26, v27, v28, v29, v30, v31, v32]))] H := ⟨hP, hD⟩
  refine lv_aload_n hx hb dM_clear_20 rfl (lv_at hl 0 rfl) ?_
  refine lv_iconst (v := 0) hx hb dM_clear_21 (by decide) ?_
  refine va_put (D := D) (ci := 5) (v := .int 0) (ty := .int) (C := "ValueBenchModel") (T := TM) (N := 32) hx hb htx inM tyM tyM_ok nmM hown hK hP hD hS 0 rfl rfl 9 (by decide) (htx _ kw_5_96) (fun _ h9 => h9) rfl (by decide +kernel) rfl rfl (Nat.le_of_ble_eq_true rfl) dM_clear_22 (fun H locs hP hD hS => ?_)
  obtain ⟨hP, hD⟩ : xPD D xcl A [(a0, .inr (5, [v1, v2, .int 0, v4, .int 0, v6, v7, .int 0, v9, .int 0, v11, v12, .int 0, v14, v15, v16, v17, v18, v19, v20, v21, v22, v23, v24, v25, v26, v27, v28, v29, v30, v31, v32]))] H := ⟨hP, hD⟩
  obtain ⟨hP9, hD9⟩ := xsub (wc := [(a0, .inr (5, [v1, v2, .int 0, v4, .int 0, v6, v7, .int 0, v9, .int 0, v11, v12, .int 0, v14, v15, v16, v17, v18, v19, v20, v21, v22, v23, v24, v25, v26, v27, v28, v29, v30, v31, v32]))]) hP hD [0] rfl rfl (by decide)
  refine W.widen (k := 0) (n := 0) (Nat.le_of_ble_eq_true rfl) (Nat.le_of_ble_eq_true rfl) ?_
  exact W.vret hx hb hr (fun t ht hW => ⟨⟨(), rfl, trivial, by rw [ht]; exact hP9, va_K.moved hW.alike hK, hD9⟩, hS.F ht⟩) hS.2.2 dM_clear_25
set_option maxHeartbeats 400000000 in
set_option maxRecDepth 100000 in
theorem cM_begin_0 (l : Launch) (hl9 : l.stackTraces = false) (D : va_G) (cT : Nat → ClassId) (aK aV : Nat → Nat) (sz : Nat) (a0 : Nat) (v1 : Value) (v2 : Value) (v3 : Value) (v4 : Value) (v5 : Value) (v6 : Value) (v7 : Value) (v8 : Value) (v9 : Value) (v10 : Value) (v11 : Value) (v12 : Value) (v13 : Value) (v14 : Value) (v15 : Value) (v16 : Value) (v17 : Value) (v18 : Value) (v19 : Value) (v20 : Value) (v21 : Value) (v22 : Value) (v23 : Value) (v24 : Value) (v25 : Value) (v26 : Value) (v27 : Value) (v28 : Value) (v29 : Value) (v30 : Value) (v31 : Value) (v32 : Value) : xMet l yM_begin wyM_begin 1 0 0 20 D cT aK aV sz [.ref a0] [(a0, .inr (5, [v1, v2, v3, v4, v5, v6, v7, v8, v9, v10, v11, v12, v13, v14, v15, v16, v17, v18, v19, v20, v21, v22, v23, v24, v25, v26, v27, v28, v29, v30, v31, v32]))] (fun A => va_Qv (fun _ : Unit => True) (fun _ t => xB D xcl cT A [(a0, .inr (5, [.int 0, v2, .int 0, v4, .int 0, v6, v7, .int 0, v9, .int 0, v11, v12, .int 0, v14, v15, v16, v17, v18, v19, v20, v21, v22, .int 0, .int 1000000000, v25, v26, v27, v28, v29, v30, v31, v32]))] t) A) := by
  refine Met.ofW (cc := prog_13_method_78_code) (maxL := 1) (ret := none) (by decide) rfl ?_
  intro p e s m args below meth c s₁ B hml hv
  obtain ⟨rfl, hsz, hZ, hP, hK, hD0⟩ := hv
  have hx := B.exec
  have hb := B.bytes
  have hr := B.returns
  have hts := atoms_spec (ws := wyM_begin) B.pre
  have htx := fun w h => hts w (List.mem_cons_of_mem _ h)
  have hown : s.vm.findClass "ValueBenchModel" = some m.cls := findClass_of_methodNamed B.named
  have hlocks := B.notSynchronized
  subst hsz
  have hD := hD0.self (sz := s.heap.size)
  generalize hAe : va_A [(a0, .inr (5, [v1, v2, v3, v4, v5, v6, v7, v8, v9, v10, v11, v12, v13, v14, v15, v16, v17, v18, v19, v20, v21, v22, v23, v24, v25, v26, v27, v28, v29, v30, v31, v32]))] s.heap.size = A at hD hZ ⊢
  have hA : ∀ q : Nat, s.heap.size ≤ q → A q := fun q h => by rw [← hAe]; exact Or.inr h
  have hS : va_S A s.heap s.heap [] := va_S.rf
  have hP : va_P D xcl [(a0, .inr (5, [v1, v2, v3, v4, v5, v6, v7, v8, v9, v10, v11, v12, v13, v14, v15, v16, v17, v18, v19, v20, v21, v22, v23, v24, v25, v26, v27, v28, v29, v30, v31, v32]))] s.heap := hP
  have hl := lv_entry ([.ref a0]) (n := 1) (Nat.le_of_ble_eq_true rfl)
  rw [lg_entry_eq]
  generalize (lg_sl ([.ref a0]) ++ List.replicate (1 - (lg_sl ([.ref a0])).length) Slot.unset).toArray = ls at hl ⊢
  have hl : lv_has ls 1 [(0, .ref a0)] := hl
  refine lv_aload_n hx hb dM_begin_0 rfl (lv_at hl 0 rfl) ?_
  refine lv_iconst (v := 0) hx hb dM_begin_1 (by decide) ?_
  refine va_put (D := D) (ci := 5) (v := .int 0) (ty := .int) (C := "ValueBenchModel") (T := TM) (N := 32) hx hb htx inM tyM tyM_ok nmM hown hK hP hD hS 0 rfl rfl 0 (by decide) (htx _ kw_5_87) (fun _ h9 => h9) rfl (by decide +kernel) rfl rfl (Nat.le_of_ble_eq_true rfl) dM_begin_2 (fun H locs hP hD hS => ?_)
  obtain ⟨hP, hD⟩ : xPD D xcl A [(a0, .inr (5, [.int 0, v2, v3, v4, v5, v6, v7, v8, v9, v10, v11, v12, v13, v14, v15, v16, v17, v18, v19, v20, v21, v22, v23, v24, v25, v26, v27, v28, v29, v30, v31, v32]))] H := ⟨hP, hD⟩
  refine lv_aload_n hx hb dM_begin_5 rfl (lv_at hl 0 rfl) ?_
  obtain ⟨hPc, hDc, hFc⟩ := xcut (wc := [(a0, .inr (5, [.int 0, v2, v3, v4, v5, v6, v7, v8, v9, v10, v11, v12, v13, v14, v15, v16, v17, v18, v19, v20, v21, v22, v23, v24, v25, v26, v27, v28, v29, v30, v31, v32]))]) hP hD hS hA [0] rfl rfl (by decide)
  refine va_callv (va_runV (C := "ValueBenchModel") (As := []) (rest := []) ⟨hx, hb, hml, hown, htx⟩ (cM_clear_0 l hl9 D cT aK aV H.size a0 (.int 0) v2 v3 v4 v5 v6 v7 v8 v9 v10 v11 v12 v13 v14 v15 v16 v17 v18 v19 v20 v21 v22 v23 v24 v25 v26 v27 v28 v29 v30 v31 v32) ⟨callB_of 0 htx (xw_goodC kw_5_213) rfl rfl rfl (htx _ kw_1_5) (htx _ kw_5_210) ⟨by decide, by decide, by decide +kernel⟩ ⟨Nat.le_of_ble_eq_true rfl, Nat.le_of_ble_eq_true rfl⟩, (htx _ kw_5_212), (htx _ kp_M_clear)⟩ ⟨xPre_blind, va_recv hK hP (ci := 5) rfl (q0 := 0) rfl, (fun U hU hW => ⟨rfl, xPre_of hZ hS hFc hPc hDc hK U hU hW⟩)⟩ rfl rfl hl.1 rfl (lv_room (Nat.le_of_ble_eq_true rfl)) dM_begin_6 ⟨Nat.le_of_ble_eq_true rfl, Nat.le_of_ble_eq_true rfl⟩) hS (fun q _ h => hFc q h) hFc (fun u9 t H1 locs ht hvm hr9 hB hz1 hk1 hS => ?_)
  obtain ⟨hP1, hK1, hD1⟩ := hB
  rw [ht] at hP1
  obtain ⟨hP, hD⟩ := xjoin (W := [(a0, .inr (5, [.int 0, v2, .int 0, v4, .int 0, v6, v7, .int 0, v9, .int 0, v11, v12, .int 0, v14, v15, v16, v17, v18, v19, v20, v21, v22, v23, v24, v25, v26, v27, v28, v29, v30, v31, v32]))]) hP hD [0] [] 0 rfl rfl (by decide) (by decide) hk1 hFc hP1 hD1
  generalize H1 = H at hP hS ⊢
  refine lv_aload_n hx hb dM_begin_9 rfl (lv_at hl 0 rfl) ?_
  refine lv_iconst (v := 0) hx hb dM_begin_10 (by decide) ?_
  refine va_put (D := D) (ci := 5) (v := .int 0) (ty := .int) (C := "ValueBenchModel") (T := TM) (N := 32) hx hb htx inM tyM tyM_ok nmM hown hK hP hD hS 0 rfl rfl 22 (by decide) (htx _ kw_5_109) (fun _ h9 => h9) rfl (by decide +kernel) rfl rfl (Nat.le_of_ble_eq_true rfl) dM_begin_11 (fun H locs hP hD hS => ?_)
  obtain ⟨hP, hD⟩ : xPD D xcl A [(a0, .inr (5, [.int 0, v2, .int 0, v4, .int 0, v6, v7, .int 0, v9, .int 0, v11, v12, .int 0, v14, v15, v16, v17, v18, v19, v20, v21, v22, .int 0, v24, v25, v26, v27, v28, v29, v30, v31, v32]))] H := ⟨hP, hD⟩
  refine lv_aload_n hx hb dM_begin_14 rfl (lv_at hl 0 rfl) ?_
  refine lv_ldc hx hb hown (htx _ kw_5_82) dM_begin_15 ?_
  refine va_put (D := D) (ci := 5) (v := .int 1000000000) (ty := .int) (C := "ValueBenchModel") (T := TM) (N := 32) hx hb htx inM tyM tyM_ok nmM hown hK hP hD hS 0 rfl rfl 23 (by decide) (htx _ kw_5_110) (fun _ h9 => h9) rfl (by decide +kernel) rfl rfl (Nat.le_of_ble_eq_true rfl) dM_begin_17 (fun H locs hP hD hS => ?_)
  obtain ⟨hP, hD⟩ : xPD D xcl A [(a0, .inr (5, [.int 0, v2, .int 0, v4, .int 0, v6, v7, .int 0, v9, .int 0, v11, v12, .int 0, v14, v15, v16, v17, v18, v19, v20, v21, v22, .int 0, .int 1000000000, v25, v26, v27, v28, v29, v30, v31, v32]))] H := ⟨hP, hD⟩
  obtain ⟨hP9, hD9⟩ := xsub (wc := [(a0, .inr (5, [.int 0, v2, .int 0, v4, .int 0, v6, v7, .int 0, v9, .int 0, v11, v12, .int 0, v14, v15, v16, v17, v18, v19, v20, v21, v22, .int 0, .int 1000000000, v25, v26, v27, v28, v29, v30, v31, v32]))]) hP hD [0] rfl rfl (by decide)
  refine W.widen (k := 0) (n := 0) (Nat.le_of_ble_eq_true rfl) (Nat.le_of_ble_eq_true rfl) ?_
  exact W.vret hx hb hr (fun t ht hW => ⟨⟨(), rfl, trivial, by rw [ht]; exact hP9, va_K.moved hW.alike hK, hD9⟩, hS.F ht⟩) hS.2.2 dM_begin_20
set_option maxHeartbeats 400000000 in
set_option maxRecDepth 100000 in
theorem cM_out_0 (l : Launch) (hl9 : l.stackTraces = false) (D : va_G) (cT : Nat → ClassId) (aK aV : Nat → Nat) (sz : Nat) (b0 : Nat) (x1 : Int32) (h2 : ¬ x1 < 0) (h3 : ¬ 7 < x1) (h4 : x1 ≤ 7) (h5 : vp_in x1 8) : xMet l yM_out wyM_out 0 0 0 0 D cT aK aV sz [.ref b0, .int x1] [] (fun A => va_Qi (fun (r : Int32) (_ : Unit) => r = 0) (fun _ t => xB D xcl cT A [] t) A) := by
  refine Met.ofW (cc := prog_13_method_77_code) (maxL := 2) (ret := (some .boolean)) (by decide) rfl ?_
  intro p e s m args below meth c s₁ B hml hv
  obtain ⟨rfl, hsz, hZ, hP, hK, hD0⟩ := hv
  have hx := B.exec
  have hb := B.bytes
  have hr := B.returns
  have hts := atoms_spec (ws := wyM_out) B.pre
  have htx := fun w h => hts w (List.mem_cons_of_mem _ h)
  have hown : s.vm.findClass "ValueBenchModel" = some m.cls := findClass_of_methodNamed B.named
  have hlocks := B.notSynchronized
  subst hsz
  have hD := hD0.self (sz := s.heap.size)
  generalize hAe : va_A [] s.heap.size = A at hD hZ ⊢
  have hA : ∀ q : Nat, s.heap.size ≤ q → A q := fun q h => by rw [← hAe]; exact Or.inr h
  have hS : va_S A s.heap s.heap [] := va_S.rf
  have hP : va_P D xcl [] s.heap := hP
  have hl := lv_entry ([.ref b0, .int x1]) (n := 2) (Nat.le_of_ble_eq_true rfl)
  rw [lg_entry_eq]
  generalize (lg_sl ([.ref b0, .int x1]) ++ List.replicate (2 - (lg_sl ([.ref b0, .int x1])).length) Slot.unset).toArray = ls at hl ⊢
  have hl : lv_has ls 2 [(0, .ref b0), (1, .int x1)] := hl
  refine lv_iload_n hx hb dM_out_0 rfl (lv_at hl 1 rfl) ?_
  refine lv_if_lt (tgt := 10) hx hb dM_out_1 (by decide) (fun h => by first | exact absurd h h2 | exact absurd h h3 | exact absurd h h4 | exact absurd h h5 | exact absurd h2 h | exact absurd h3 h | exact absurd h4 h | exact absurd h5 h) (fun _ => ?_)
  refine lv_iload_n hx hb dM_out_4 rfl (lv_at hl 1 rfl) ?_
  refine lv_bipush (v := 7) hx hb dM_out_5 (by decide) ?_
  refine lv_icmp_le (tgt := 14) hx hb dM_out_7 (by decide) (fun _ => ?_) (fun h => by first | exact absurd h h2 | exact absurd h h3 | exact absurd h h4 | exact absurd h h5 | exact absurd h2 h | exact absurd h3 h | exact absurd h4 h | exact absurd h5 h)
  refine lv_iconst (v := 0) hx hb dM_out_14 (by decide) ?_
  obtain ⟨hP9, hD9⟩ := xsub (wc := []) hP hD [] rfl rfl (by decide)
  refine W.widen (k := 0) (n := 0) (Nat.le_of_ble_eq_true rfl) (Nat.le_of_ble_eq_true rfl) ?_
  exact W.zret (v := 0) hx hb hr rfl (fun t ht hW => ⟨⟨0, (), rfl, rfl, by rw [ht]; exact hP9, va_K.moved hW.alike hK, hD9⟩, hS.F ht⟩) hS.2.2 dM_out_15
set_option maxHeartbeats 400000000 in
set_option maxRecDepth 100000 in
theorem cM_print0_0 (l : Launch) (hl9 : l.stackTraces = false) (D : va_G) (cT : Nat → ClassId) (aK aV : Nat → Nat) (sz : Nat) (a0 : Nat) (a1 : Nat) (a2 : Nat) (a3 : Nat) (a4 : Nat) (x5 : Int32) (v10 : Value) (v11 : Value) (v12 : Value) (v13 : Value) (v14 : Value) (v15 : Value) (v16 : Value) (v17 : Value) (v18 : Value) (v19 : Value) (v20 : Value) (v21 : Value) (v22 : Value) (v23 : Value) (v24 : Value) (v25 : Value) (v26 : Value) (v27 : Value) (v28 : Value) (v29 : Value) (v30 : Value) (v31 : Value) (v32 : Value) (v33 : Value) (v34 : Value) (v35 : Value) (v36 : Value) (v37 : Value) (v38 : Value) (f39 : Nat → Int32) (f41 : Nat → Option Nat) (f43 : Nat → Int32) (f44 : Nat → Int32) (h6 : ¬ x5 < 0) (h7 : ¬ 7 < x5) (h8 : x5 ≤ 7) (h9 : vp_in x5 8) (h40 : f39 x5.toNatClampNeg = 4) (h42 : f41 x5.toNatClampNeg = some a3) : xMet l yM_print0 wyM_print0 2 0 0 40 D cT aK aV sz [.ref a0, .int x5] [(a0, .inr (5, [v10, v11, v12, v13, v14, v15, v16, v17, v18, v19, v20, v21, v22, v23, v24, v25, v26, v27, v28, v29, v30, v31, v32, v33, .ref a2, .ref a1, v34, v35, .ref a4, v36, v37, v38])), (a1, .inl (cT 1, 8, .inl f39)), (a2, .inl (cT 5, 8, .inr (.inr (.inr (.inr f41))))), (a3, .inl (cT 0, 4096, .inl f43)), (a4, .inl (cT 0, 4096, .inl f44))] (fun A => va_Qi (fun (r : Int32) (_ : Unit) => r = 4) (fun _ t => xB D xcl cT A [(a0, .inr (5, [.int 0, v11, .int 0, v13, .int 0, v15, v16, .int 0, v18, .int 0, v20, v21, .int 0, v23, v24, v25, v26, v27, v28, v29, v30, v31, .int 0, .int 1000000000, .ref a2, .ref a1, v34, v35, .ref a4, .int 4, v37, v38])), (a1, .inl (cT 1, 8, .inl f39)), (a2, .inl (cT 5, 8, .inr (.inr (.inr (.inr f41))))), (a3, .inl (cT 0, 4096, .inl f43)), (a4, .inl (cT 0, 4096, .inl (upd (upd (upd (upd f44 0 (vp_nar .byte (f43 0))) 1 (vp_nar .byte (f43 1))) 2 (vp_nar .byte (f43 2))) 3 (vp_nar .byte (f43 3)))))] t) A) := by
  refine Met.ofW (cc := prog_13_method_85_code) (maxL := 3) (ret := (some .int)) (by decide) rfl ?_
  intro p e s m args below meth c s₁ B hml hv
  obtain ⟨rfl, hsz, hZ, hP, hK, hD0⟩ := hv
  have hx := B.exec
  have hb := B.bytes
  have hr := B.returns
  have hts := atoms_spec (ws := wyM_print0) B.pre
  have htx := fun w h => hts w (List.mem_cons_of_mem _ h)
  have hown : s.vm.findClass "ValueBenchModel" = some m.cls := findClass_of_methodNamed B.named
  have hlocks := B.notSynchronized
  subst hsz
  have hD := hD0.self (sz := s.heap.size)
  generalize hAe : va_A [(a0, .inr (5, [v10, v11, v12, v13, v14, v15, v16, v17, v18, v19, v20, v21, v22, v23, v24, v25, v26, v27, v28, v29, v30, v31, v32, v33, .ref a2, .ref a1, v34, v35, .ref a4, v36, v37, v38])), (a1, .inl (cT 1, 8, .inl f39)), (a2, .inl (cT 5, 8, .inr (.inr (.inr (.inr f41))))), (a3, .inl (cT 0, 4096, .inl f43)), (a4, .inl (cT 0, 4096, .inl f44))] s.heap.size = A at hD hZ ⊢
  have hA : ∀ q : Nat, s.heap.size ≤ q → A q := fun q h => by rw [← hAe]; exact Or.inr h
  have hS : va_S A s.heap s.heap [] := va_S.rf
  have hP : va_P D xcl [(a0, .inr (5, [v10, v11, v12, v13, v14, v15, v16, v17, v18, v19, v20, v21, v22, v23, v24, v25, v26, v27, v28, v29, v30, v31, v32, v33, .ref a2, .ref a1, v34, v35, .ref a4, v36, v37, v38])), (a1, .inl (cT 1, 8, .inl f39)), (a2, .inl (cT 5, 8, .inr (.inr (.inr (.inr f41))))), (a3, .inl (cT 0, 4096, .inl f43)), (a4, .inl (cT 0, 4096, .inl f44))] s.heap := hP
  have hl := lv_entry ([.ref a0, .int x5]) (n := 3) (Nat.le_of_ble_eq_true rfl)
  rw [lg_entry_eq]
  generalize (lg_sl ([.ref a0, .int x5]) ++ List.replicate (3 - (lg_sl ([.ref a0, .int x5])).length) Slot.unset).toArray = ls at hl ⊢
  have hl : lv_has ls 3 [(0, .ref a0), (1, .int x5)] := hl
  refine lv_aload_n hx hb dM_print0_0 rfl (lv_at hl 0 rfl) ?_
  obtain ⟨hPc, hDc, hFc⟩ := xcut (wc := [(a0, .inr (5, [v10, v11, v12, v13, v14, v15, v16, v17, v18, v19, v20, v21, v22, v23, v24, v25, v26, v27, v28, v29, v30, v31, v32, v33, .ref a2, .ref a1, v34, v35, .ref a4, v36, v37, v38]))]) hP hD hS hA [0] rfl rfl (by decide)
  refine va_callv (va_runV (C := "ValueBenchModel") (As := []) (rest := []) ⟨hx, hb, hml, hown, htx⟩ (cM_begin_0 l hl9 D cT aK aV s.heap.size a0 v10 v11 v12 v13 v14 v15 v16 v17 v18 v19 v20 v21 v22 v23 v24 v25 v26 v27 v28 v29 v30 v31 v32 v33 (.ref a2) (.ref a1) v34 v35 (.ref a4) v36 v37 v38) ⟨callB_of 0 htx (xw_goodC kw_5_209) rfl rfl rfl (htx _ kw_1_5) (htx _ kw_5_206) ⟨by decide, by decide, by decide +kernel⟩ ⟨Nat.le_of_ble_eq_true rfl, Nat.le_of_ble_eq_true rfl⟩, (htx _ kw_5_208), (htx _ kp_M_begin)⟩ ⟨xPre_blind, va_recv hK hP (ci := 5) rfl (q0 := 0) rfl, (fun U hU hW => ⟨rfl, xPre_of hZ hS hFc hPc hDc hK U hU hW⟩)⟩ rfl rfl hl.1 rfl (lv_room (Nat.le_of_ble_eq_true rfl)) dM_print0_1 ⟨Nat.le_of_ble_eq_true rfl, Nat.le_of_ble_eq_true rfl⟩) hS (fun q _ h => hFc q h) hFc (fun u9 t H1 locs ht hvm hr9 hB hz1 hk1 hS => ?_)
  obtain ⟨hP1, hK1, hD1⟩ := hB
  rw [ht] at hP1
  obtain ⟨hP, hD⟩ := xjoin (W := [(a1, .inl (cT 1, 8, .inl f39)), (a2, .inl (cT 5, 8, .inr (.inr (.inr (.inr f41))))), (a3, .inl (cT 0, 4096, .inl f43)), (a4, .inl (cT 0, 4096, .inl f44)), (a0, .inr (5, [.int 0, v11, .int 0, v13, .int 0, v15, v16, .int 0, v18, .int 0, v20, v21, .int 0, v23, v24, v25, v26, v27, v28, v29, v30, v31, .int 0, .int 1000000000, .ref a2, .ref a1, v34, v35, .ref a4, v36, v37, v38]))]) hP hD [0] [1, 2, 3, 4] 4 rfl rfl (by decide) (by decide) hk1 hFc hP1 hD1
  generalize H1 = H at hP hS ⊢
  refine lv_aload_n hx hb dM_print0_4 rfl (lv_at hl 0 rfl) ?_
  refine lv_iload_n hx hb dM_print0_5 rfl (lv_at hl 1 rfl) ?_
  obtain ⟨hPc, hDc, hFc⟩ := xcut (wc := []) hP hD hS hA [] rfl rfl (by decide)
  refine va_calli (va_runV (C := "ValueBenchModel") (As := [.int x5]) (rest := []) ⟨hx, hb, hml, hown, htx⟩ (cM_out_0 l hl9 D cT aK aV H.size a0 x5 h6 h7 h8 h9) ⟨callB_of 1 htx (xw_goodC kw_5_217) rfl rfl rfl (htx _ kw_1_5) (htx _ kw_5_214) ⟨by decide, by decide, by decide +kernel⟩ ⟨Nat.le_of_ble_eq_true rfl, Nat.le_of_ble_eq_true rfl⟩, (htx _ kw_5_216), (htx _ kp_M_out)⟩ ⟨xPre_blind, va_recv hK hP (ci := 5) rfl (q0 := 4) rfl, (fun U hU hW => ⟨rfl, xPre_of hZ hS hFc hPc hDc hK U hU hW⟩)⟩ rfl rfl hl.1 rfl (lv_room (Nat.le_of_ble_eq_true rfl)) dM_print0_6 ⟨Nat.le_of_ble_eq_true rfl, Nat.le_of_ble_eq_true rfl⟩) hS (fun q _ h => hFc q h) hFc (fun r1 u9 t H1 locs ht hvm hr9 hB hz1 hk1 hS => ?_)
  obtain ⟨hP1, hK1, hD1⟩ := hB
  rw [ht] at hP1
  obtain ⟨hP, hD⟩ := xjoin (W := [(a1, .inl (cT 1, 8, .inl f39)), (a2, .inl (cT 5, 8, .inr (.inr (.inr (.inr f41))))), (a3, .inl (cT 0, 4096, .inl f43)), (a4, .inl (cT 0, 4096, .inl f44)), (a0, .inr (5, [.int 0, v11, .int 0, v13, .int 0, v15, v16, .int 0, v18, .int 0, v20, v21, .int 0, v23, v24, v25, v26, v27, v28, v29, v30, v31, .int 0, .int 1000000000, .ref a2, .ref a1, v34, v35, .ref a4, v36, v37, v38]))]) hP hD [] [0, 1, 2, 3, 4] 5 rfl rfl (by decide) (by decide) hk1 hFc hP1 hD1
  generalize H1 = H at hP hS ⊢
  rw [hr9]
  refine W.eq (g2 := F0 m 9 ls [.int 0]) rfl ?_
  refine lv_if_eq (tgt := 18) hx hb dM_print0_9 (by decide) (fun _ => ?_) (fun h => ((by revert h; decide : False)).elim)
  refine lv_aload_n hx hb dM_print0_18 rfl (lv_at hl 0 rfl) ?_
  refine lv_aload_n hx hb dM_print0_19 rfl (lv_at hl 0 rfl) ?_
  refine va_get (D := D) (ci := 5) (v := .ref a1) (C := "ValueBenchModel") (T := TM) (N := 32) hx hb htx inM hown hK hP 4 rfl rfl 25 (by decide) (htx _ kw_5_112) (fun _ h9 => h9) rfl dM_print0_20 ?_
  refine lv_iload_n hx hb dM_print0_23 rfl (lv_at hl 1 rfl) ?_
  refine va_iald hx hb hK hP 0 1 rfl rfl h9 dM_print0_24 ?_
  refine W.eq (g2 := F0 m 25 ls [.int (f39 x5.toNatClampNeg), .ref a0]) rfl ?_
  rw [h40]
  refine W.eq (g2 := F0 m 25 ls [.int 4, .ref a0]) rfl ?_
  refine va_put (D := D) (ci := 5) (v := .int 4) (ty := .int) (C := "ValueBenchModel") (T := TM) (N := 32) hx hb htx inM tyM tyM_ok nmM hown hK hP hD hS 4 rfl rfl 29 (by decide) (htx _ kw_5_116) (fun _ h9 => h9) rfl (by decide +kernel) rfl rfl (Nat.le_of_ble_eq_true rfl) dM_print0_25 (fun H locs hP hD hS => ?_)
  obtain ⟨hP, hD⟩ : xPD D xcl A [(a1, .inl (cT 1, 8, .inl f39)), (a2, .inl (cT 5, 8, .inr (.inr (.inr (.inr f41))))), (a3, .inl (cT 0, 4096, .inl f43)), (a4, .inl (cT 0, 4096, .inl f44)), (a0, .inr (5, [.int 0, v11, .int 0, v13, .int 0, v15, v16, .int 0, v18, .int 0, v20, v21, .int 0, v23, v24, v25, v26, v27, v28, v29, v30, v31, .int 0, .int 1000000000, .ref a2, .ref a1, v34, v35, .ref a4, .int 4, v37, v38]))] H := ⟨hP, hD⟩
  refine lv_iconst (v := 0) hx hb dM_print0_28 (by decide) ?_
  refine lv_istore_n (lv' := [(2, .int 0), (0, .ref a0), (1, .int x5)]) hx hb dM_print0_29 rfl hl (by decide) rfl (fun ls hl => ?_)
  refine lv_iload_n hx hb dM_print0_30 rfl (lv_at hl 0 rfl) ?_
  refine lv_aload_n hx hb dM_print0_31 rfl (lv_at hl 1 rfl) ?_
  refine va_get (D := D) (ci := 5) (v := .int 4) (C := "ValueBenchModel") (T := TM) (N := 32) hx hb htx inM hown hK hP 4 rfl rfl 29 (by decide) (htx _ kw_5_116) (fun _ h9 => h9) rfl dM_print0_32 ?_
  refine lv_icmp_ge (tgt := 58) hx hb dM_print0_35 (by decide) (fun h => ((by revert h; decide : False)).elim) (fun _ => ?_)
  refine lv_aload_n hx hb dM_print0_38 rfl (lv_at hl 1 rfl) ?_
  refine va_get (D := D) (ci := 5) (v := .ref a4) (C := "ValueBenchModel") (T := TM) (N := 32) hx hb htx inM hown hK hP 4 rfl rfl 28 (by decide) (htx _ kw_5_115) (fun _ h9 => h9) rfl dM_print0_39 ?_
  refine lv_iload_n hx hb dM_print0_42 rfl (lv_at hl 0 rfl) ?_
  refine lv_aload_n hx hb dM_print0_43 rfl (lv_at hl 1 rfl) ?_
  refine va_get (D := D) (ci := 5) (v := .ref a2) (C := "ValueBenchModel") (T := TM) (N := 32) hx hb htx inM hown hK hP 4 rfl rfl 24 (by decide) (htx _ kw_5_111) (fun _ h9 => h9) rfl dM_print0_44 ?_
  refine lv_iload_n hx hb dM_print0_47 rfl (lv_at hl 2 rfl) ?_
  refine xx_aldA hx hb hK hP 1 5 rfl rfl h9 dM_print0_48 ?_
  refine W.eq (g2 := F0 m 49 ls [va_rf (f41 x5.toNatClampNeg), .int 0, .ref a4]) rfl ?_
  rw [h42]
  refine W.eq (g2 := F0 m 49 ls [.ref a3, .int 0, .ref a4]) rfl ?_
  refine lv_iload_n hx hb dM_print0_49 rfl (lv_at hl 0 rfl) ?_
  refine va_bald hx hb hK hP 2 0 rfl rfl (show ¬ ((0 : Int32) < 0 ∨ 4096 ≤ (0 : Int32).toNatClampNeg) by decide) dM_print0_50 ?_
  refine W.eq (g2 := F0 m 51 ls [.int (f43 0), .int 0, .ref a4]) rfl ?_
  refine va_bast hx hb hK hP hD hS 3 0 rfl rfl (show ¬ ((0 : Int32) < 0 ∨ 4096 ≤ (0 : Int32).toNatClampNeg) by decide) dM_print0_51 (fun H locs hP hD hS => ?_)
  obtain ⟨hP, hD⟩ : xPD D xcl A [(a1, .inl (cT 1, 8, .inl f39)), (a2, .inl (cT 5, 8, .inr (.inr (.inr (.inr f41))))), (a3, .inl (cT 0, 4096, .inl f43)), (a4, .inl (cT 0, 4096, .inl (upd f44 0 (vp_nar .byte (f43 0))))), (a0, .inr (5, [.int 0, v11, .int 0, v13, .int 0, v15, v16, .int 0, v18, .int 0, v20, v21, .int 0, v23, v24, v25, v26, v27, v28, v29, v30, v31, .int 0, .int 1000000000, .ref a2, .ref a1, v34, v35, .ref a4, .int 4, v37, v38]))] H := ⟨hP, hD⟩
  refine lv_iinc (v := 1) (lv' := [(2, .int 1), (0, .ref a0), (1, .int x5)]) hx hb dM_print0_52 hl (k := 0) rfl (by decide) (by decide) rfl (fun ls hl => ?_)
  refine lv_goto (tgt := 30) hx hb dM_print0_55 (by decide) ?_
  refine lv_iload_n hx hb dM_print0_30 rfl (lv_at hl 0 rfl) ?_
  refine lv_aload_n hx hb dM_print0_31 rfl (lv_at hl 1 rfl) ?_
  refine va_get (D := D) (ci := 5) (v := .int 4) (C := "ValueBenchModel") (T := TM) (N := 32) hx hb htx inM hown hK hP 4 rfl rfl 29 (by decide) (htx _ kw_5_116) (fun _ h9 => h9) rfl dM_print0_32 ?_
  refine lv_icmp_ge (tgt := 58) hx hb dM_print0_35 (by decide) (fun h => ((by revert h; decide : False)).elim) (fun _ => ?_)
  refine lv_aload_n hx hb dM_print0_38 rfl (lv_at hl 1 rfl) ?_
  refine va_get (D := D) (ci := 5) (v := .ref a4) (C := "ValueBenchModel") (T := TM) (N := 32) hx hb htx inM hown hK hP 4 rfl rfl 28 (by decide) (htx _ kw_5_115) (fun _ h9 => h9) rfl dM_print0_39 ?_
  refine lv_iload_n hx hb dM_print0_42 rfl (lv_at hl 0 rfl) ?_
  refine lv_aload_n hx hb dM_print0_43 rfl (lv_at hl 1 rfl) ?_
  refine va_get (D := D) (ci := 5) (v := .ref a2) (C := "ValueBenchModel") (T := TM) (N := 32) hx hb htx inM hown hK hP 4 rfl rfl 24 (by decide) (htx _ kw_5_111) (fun _ h9 => h9) rfl dM_print0_44 ?_
  refine lv_iload_n hx hb dM_print0_47 rfl (lv_at hl 2 rfl) ?_
  refine xx_aldA hx hb hK hP 1 5 rfl rfl h9 dM_print0_48 ?_
  refine W.eq (g2 := F0 m 49 ls [va_rf (f41 x5.toNatClampNeg), .int 1, .ref a4]) rfl ?_
  rw [h42]
  refine W.eq (g2 := F0 m 49 ls [.ref a3, .int 1, .ref a4]) rfl ?_
  refine lv_iload_n hx hb dM_print0_49 rfl (lv_at hl 0 rfl) ?_
  refine va_bald hx hb hK hP 2 0 rfl rfl (show ¬ ((1 : Int32) < 0 ∨ 4096 ≤ (1 : Int32).toNatClampNeg) by decide) dM_print0_50 ?_
  refine W.eq (g2 := F0 m 51 ls [.int (f43 1), .int 1, .ref a4]) rfl ?_
  refine va_bast hx hb hK hP hD hS 3 0 rfl rfl (show ¬ ((1 : Int32) < 0 ∨ 4096 ≤ (1 : Int32).toNatClampNeg) by decide) dM_print0_51 (fun H locs hP hD hS => ?_)
  obtain ⟨hP, hD⟩ : xPD D xcl A [(a1, .inl (cT 1, 8, .inl f39)), (a2, .inl (cT 5, 8, .inr (.inr (.inr (.inr f41))))), (a3, .inl (cT 0, 4096, .inl f43)), (a4, .inl (cT 0, 4096, .inl (upd (upd f44 0 (vp_nar .byte (f43 0))) 1 (vp_nar .byte (f43 1))))), (a0, .inr (5, [.int 0, v11, .int 0, v13, .int 0, v15, v16, .int 0, v18, .int 0, v20, v21, .int 0, v23, v24, v25, v26, v27, v28, v29, v30, v31, .int 0, .int 1000000000, .ref a2, .ref a1, v34, v35, .ref a4, .int 4, v37, v38]))] H := ⟨hP, hD⟩
  refine lv_iinc (v := 2) (lv' := [(2, .int 2), (0, .ref a0), (1, .int x5)]) hx hb dM_print0_52 hl (k := 0) rfl (by decide) (by decide) rfl (fun ls hl => ?_)
  refine lv_goto (tgt := 30) hx hb dM_print0_55 (by decide) ?_
  refine lv_iload_n hx hb dM_print0_30 rfl (lv_at hl 0 rfl) ?_
  refine lv_aload_n hx hb dM_print0_31 rfl (lv_at hl 1 rfl) ?_
  refine va_get (D := D) (ci := 5) (v := .int 4) (C := "ValueBenchModel") (T := TM) (N := 32) hx hb htx inM hown hK hP 4 rfl rfl 29 (by decide) (htx _ kw_5_116) (fun _ h9 => h9) rfl dM_print0_32 ?_
  refine lv_icmp_ge (tgt := 58) hx hb dM_print0_35 (by decide) (fun h => ((by revert h; decide : False)).elim) (fun _ => ?_)
  refine lv_aload_n hx hb dM_print0_38 rfl (lv_at hl 1 rfl) ?_
  refine va_get (D := D) (ci := 5) (v := .ref a4) (C := "ValueBenchModel") (T := TM) (N := 32) hx hb htx inM hown hK hP 4 rfl rfl 28 (by decide) (htx _ kw_5_115) (fun _ h9 => h9) rfl dM_print0_39 ?_
  refine lv_iload_n hx hb dM_print0_42 rfl (lv_at hl 0 rfl) ?_
  refine lv_aload_n hx hb dM_print0_43 rfl (lv_at hl 1 rfl) ?_
  refine va_get (D := D) (ci := 5) (v := .ref a2) (C := "ValueBenchModel") (T := TM) (N := 32) hx hb htx inM hown hK hP 4 rfl rfl 24 (by decide) (htx _ kw_5_111) (fun _ h9 => h9) rfl dM_print0_44 ?_
  refine lv_iload_n hx hb dM_print0_47 rfl (lv_at hl 2 rfl) ?_
  refine xx_aldA hx hb hK hP 1 5 rfl rfl h9 dM_print0_48 ?_
  refine W.eq (g2 := F0 m 49 ls [va_rf (f41 x5.toNatClampNeg), .int 2, .ref a4]) rfl ?_
  rw [h42]
  refine W.eq (g2 := F0 m 49 ls [.ref a3, .int 2, .ref a4]) rfl ?_
  refine lv_iload_n hx hb dM_print0_49 rfl (lv_at hl 0 rfl) ?_
  refine va_bald hx hb hK hP 2 0 rfl rfl (show ¬ ((2 : Int32) < 0 ∨ 4096 ≤ (2 : Int32).toNatClampNeg) by decide) dM_print0_50 ?_
  refine W.eq (g2 := F0 m 51 ls [.int (f43 2), .int 2, .ref a4]) rfl ?_
  refine va_bast hx hb hK hP hD hS 3 0 rfl rfl (show ¬ ((2 : Int32) < 0 ∨ 4096 ≤ (2 : Int32).toNatClampNeg) by decide) dM_print0_51 (fun H locs hP hD hS => ?_)
  obtain ⟨hP, hD⟩ : xPD D xcl A [(a1, .inl (cT 1, 8, .inl f39)), (a2, .inl (cT 5, 8, .inr (.inr (.inr (.inr f41))))), (a3, .inl (cT 0, 4096, .inl f43)), (a4, .inl (cT 0, 4096, .inl (upd (upd (upd f44 0 (vp_nar .byte (f43 0))) 1 (vp_nar .byte (f43 1))) 2 (vp_nar .byte (f43 2))))), (a0, .inr (5, [.int 0, v11, .int 0, v13, .int 0, v15, v16, .int 0, v18, .int 0, v20, v21, .int 0, v23, v24, v25, v26, v27, v28, v29, v30, v31, .int 0, .int 1000000000, .ref a2, .ref a1, v34, v35, .ref a4, .int 4, v37, v38]))] H := ⟨hP, hD⟩
  refine lv_iinc (v := 3) (lv' := [(2, .int 3), (0, .ref a0), (1, .int x5)]) hx hb dM_print0_52 hl (k := 0) rfl (by decide) (by decide) rfl (fun ls hl => ?_)
  refine lv_goto (tgt := 30) hx hb dM_print0_55 (by decide) ?_
  refine lv_iload_n hx hb dM_print0_30 rfl (lv_at hl 0 rfl) ?_
  refine lv_aload_n hx hb dM_print0_31 rfl (lv_at hl 1 rfl) ?_
  refine va_get (D := D) (ci := 5) (v := .int 4) (C := "ValueBenchModel") (T := TM) (N := 32) hx hb htx inM hown hK hP 4 rfl rfl 29 (by decide) (htx _ kw_5_116) (fun _ h9 => h9) rfl dM_print0_32 ?_
  refine lv_icmp_ge (tgt := 58) hx hb dM_print0_35 (by decide) (fun h => ((by revert h; decide : False)).elim) (fun _ => ?_)
  refine lv_aload_n hx hb dM_print0_38 rfl (lv_at hl 1 rfl) ?_
  refine va_get (D := D) (ci := 5) (v := .ref a4) (C := "ValueBenchModel") (T := TM) (N := 32) hx hb htx inM hown hK hP 4 rfl rfl 28 (by decide) (htx _ kw_5_115) (fun _ h9 => h9) rfl dM_print0_39 ?_
  refine lv_iload_n hx hb dM_print0_42 rfl (lv_at hl 0 rfl) ?_
  refine lv_aload_n hx hb dM_print0_43 rfl (lv_at hl 1 rfl) ?_
  refine va_get (D := D) (ci := 5) (v := .ref a2) (C := "ValueBenchModel") (T := TM) (N := 32) hx hb htx inM hown hK hP 4 rfl rfl 24 (by decide) (htx _ kw_5_111) (fun _ h9 => h9) rfl dM_print0_44 ?_
  refine lv_iload_n hx hb dM_print0_47 rfl (lv_at hl 2 rfl) ?_
  refine xx_aldA hx hb hK hP 1 5 rfl rfl h9 dM_print0_48 ?_
  refine W.eq (g2 := F0 m 49 ls [va_rf (f41 x5.toNatClampNeg), .int 3, .ref a4]) rfl ?_
  rw [h42]
  refine W.eq (g2 := F0 m 49 ls [.ref a3, .int 3, .ref a4]) rfl ?_
  refine lv_iload_n hx hb dM_print0_49 rfl (lv_at hl 0 rfl) ?_
  refine va_bald hx hb hK hP 2 0 rfl rfl (show ¬ ((3 : Int32) < 0 ∨ 4096 ≤ (3 : Int32).toNatClampNeg) by decide) dM_print0_50 ?_
  refine W.eq (g2 := F0 m 51 ls [.int (f43 3), .int 3, .ref a4]) rfl ?_
  refine va_bast hx hb hK hP hD hS 3 0 rfl rfl (show ¬ ((3 : Int32) < 0 ∨ 4096 ≤ (3 : Int32).toNatClampNeg) by decide) dM_print0_51 (fun H locs hP hD hS => ?_)
  obtain ⟨hP, hD⟩ : xPD D xcl A [(a1, .inl (cT 1, 8, .inl f39)), (a2, .inl (cT 5, 8, .inr (.inr (.inr (.inr f41))))), (a3, .inl (cT 0, 4096, .inl f43)), (a4, .inl (cT 0, 4096, .inl (upd (upd (upd (upd f44 0 (vp_nar .byte (f43 0))) 1 (vp_nar .byte (f43 1))) 2 (vp_nar .byte (f43 2))) 3 (vp_nar .byte (f43 3))))), (a0, .inr (5, [.int 0, v11, .int 0, v13, .int 0, v15, v16, .int 0, v18, .int 0, v20, v21, .int 0, v23, v24, v25, v26, v27, v28, v29, v30, v31, .int 0, .int 1000000000, .ref a2, .ref a1, v34, v35, .ref a4, .int 4, v37, v38]))] H := ⟨hP, hD⟩
  refine lv_iinc (v := 4) (lv' := [(2, .int 4), (0, .ref a0), (1, .int x5)]) hx hb dM_print0_52 hl (k := 0) rfl (by decide) (by decide) rfl (fun ls hl => ?_)
  refine lv_goto (tgt := 30) hx hb dM_print0_55 (by decide) ?_
  refine lv_iload_n hx hb dM_print0_30 rfl (lv_at hl 0 rfl) ?_
  refine lv_aload_n hx hb dM_print0_31 rfl (lv_at hl 1 rfl) ?_
  refine va_get (D := D) (ci := 5) (v := .int 4) (C := "ValueBenchModel") (T := TM) (N := 32) hx hb htx inM hown hK hP 4 rfl rfl 29 (by decide) (htx _ kw_5_116) (fun _ h9 => h9) rfl dM_print0_32 ?_
  refine lv_icmp_ge (tgt := 58) hx hb dM_print0_35 (by decide) (fun _ => ?_) (fun h => ((by revert h; decide : False)).elim)
  refine lv_aload_n hx hb dM_print0_58 rfl (lv_at hl 1 rfl) ?_
  refine va_get (D := D) (ci := 5) (v := .int 4) (C := "ValueBenchModel") (T := TM) (N := 32) hx hb htx inM hown hK hP 4 rfl rfl 29 (by decide) (htx _ kw_5_116) (fun _ h9 => h9) rfl dM_print0_59 ?_
  obtain ⟨hP9, hD9⟩ := xsub (wc := [(a0, .inr (5, [.int 0, v11, .int 0, v13, .int 0, v15, v16, .int 0, v18, .int 0, v20, v21, .int 0, v23, v24, v25, v26, v27, v28, v29, v30, v31, .int 0, .int 1000000000, .ref a2, .ref a1, v34, v35, .ref a4, .int 4, v37, v38])), (a1, .inl (cT 1, 8, .inl f39)), (a2, .inl (cT 5, 8, .inr (.inr (.inr (.inr f41))))), (a3, .inl (cT 0, 4096, .inl f43)), (a4, .inl (cT 0, 4096, .inl (upd (upd (upd (upd f44 0 (vp_nar .byte (f43 0))) 1 (vp_nar .byte (f43 1))) 2 (vp_nar .byte (f43 2))) 3 (vp_nar .byte (f43 3)))))]) hP hD [4, 0, 1, 2, 3] rfl rfl (by decide)
  refine W.widen (k := 0) (n := 0) (Nat.le_of_ble_eq_true rfl) (Nat.le_of_ble_eq_true rfl) ?_
  exact W.iret (v := 4) hx hb hr (fun t ht hW => ⟨⟨4, (), rfl, rfl, by rw [ht]; exact hP9, va_K.moved hW.alike hK, hD9⟩, hS.F ht⟩) hS.2.2 dM_print0_62
