set_option maxHeartbeats 400000000 in
set_option maxRecDepth 100000 in
theorem cL_two_13 (l : Launch) (hl9 : l.stackTraces = false) (D : va_G) (cT : Nat → ClassId) (aK aV : Nat → Nat) (sz : Nat) (a0 : Nat) (a1 : Nat) (a2 : Nat) (a3 : Nat) (a4 : Nat) (x5 : Int32) (x10 : Int32) (x15 : Int32) (v20 : Value) (v21 : Value) (b22 : Nat) (v23 : Value) (v24 : Value) (v25 : Value) (v26 : Value) (v27 : Value) (v28 : Value) (f29 : Nat → Option Nat) (v32 : Value) (f33 : Nat → Int64) (h6 : ¬ x5 < 0) (h7 : ¬ 7 < x5) (h8 : x5 ≤ 7) (h9 : vp_in x5 8) (h11 : ¬ x10 < 0) (h12 : ¬ 7 < x10) (h13 : x10 ≤ 7) (h14 : vp_in x10 8) (h16 : ¬ x15 < 0) (h17 : ¬ 7 < x15) (h18 : x15 ≤ 7) (h19 : vp_in x15 8) (h30 : f29 x10.toNatClampNeg = some a3) (h31 : f29 x15.toNatClampNeg = some a3) (h34 : f33 0 = 0) : xMet l yL_two wyL_two 8 1 6 145 D cT aK aV sz [.ref a0, .int x5, .int 6, .int x10, .int x15] [(a0, .inr (0, [v20, v21, .ref b22, .ref a2, v23, .ref a1, v24, v25])), (a1, .inr (2, [v26, v27, v28])), (a2, .inl (cT 3, 8, .inr (.inr (.inr (.inr f29))))), (a3, .inr (2, [.ref a4, .int 1, v32])), (a4, .inl (cT 2, 4096, .inr (.inl f33)))] (fun A => va_Qi (fun (r : Int32) (_ : Unit) => r = 2) (fun _ t => xB D xcl cT A [(a0, .inr (0, [v20, v21, .ref b22, .ref a2, v23, .ref a1, v24, .int 1])), (a1, .inr (2, [v26, .int 0, .int 0])), (a2, .inl (cT 3, 8, .inr (.inr (.inr (.inr f29))))), (a3, .inr (2, [.ref a4, .int 1, v32])), (a4, .inl (cT 2, 4096, .inr (.inl f33)))] t) A) := by
  refine va_MetW (cc := method_11_code) (maxL := 6) (ret := (some .int)) (hh := [(0, 9, 12, 19), (0, 9, 16, 33), (0, 9, 20, 13)]) (by decide) rfl ?_
  intro p e s m args below meth c s₁ B hml hv
  obtain ⟨rfl, hsz, hZ, hP, hK, hD0⟩ := hv
  have hx := B.exec
  have hb := B.bytes
  have hr := B.returns
  have hts := atoms_spec (ws := wyL_two) B.pre
  have htx := fun w h => hts w (List.mem_cons_of_mem _ h)
  have hown : s.vm.findClass "ValueBenchLaw" = some m.cls := findClass_of_methodNamed B.named
  have hlocks := B.notSynchronized
  subst hsz
  have hD := hD0.self (sz := s.heap.size)
  generalize hAe : va_A [(a0, .inr (0, [v20, v21, .ref b22, .ref a2, v23, .ref a1, v24, v25])), (a1, .inr (2, [v26, v27, v28])), (a2, .inl (cT 3, 8, .inr (.inr (.inr (.inr f29))))), (a3, .inr (2, [.ref a4, .int 1, v32])), (a4, .inl (cT 2, 4096, .inr (.inl f33)))] s.heap.size = A at hD hZ ⊢
  have hA : ∀ q : Nat, s.heap.size ≤ q → A q := fun q h => by rw [← hAe]; exact Or.inr h
  have hS : va_S A s.heap s.heap [] := va_S.rf
  have hP : va_P D xcl [(a0, .inr (0, [v20, v21, .ref b22, .ref a2, v23, .ref a1, v24, v25])), (a1, .inr (2, [v26, v27, v28])), (a2, .inl (cT 3, 8, .inr (.inr (.inr (.inr f29))))), (a3, .inr (2, [.ref a4, .int 1, v32])), (a4, .inl (cT 2, 4096, .inr (.inl f33)))] s.heap := hP
  have hl := lv_entry ([.ref a0, .int x5, .int 6, .int x10, .int x15]) (n := 6) (Nat.le_of_ble_eq_true rfl)
  rw [lg_entry_eq]
  generalize (lg_sl ([.ref a0, .int x5, .int 6, .int x10, .int x15]) ++ List.replicate (6 - (lg_sl ([.ref a0, .int x5, .int 6, .int x10, .int x15])).length) Slot.unset).toArray = ls at hl ⊢
  have hl : lv_has ls 6 [(0, .ref a0), (1, .int x5), (2, .int 6), (3, .int x10), (4, .int x15)] := hl
  have htab := vx_table (x := yL_two) B (hts _ List.mem_cons_self)
  refine lv_aload_n hx hb dL_two_0 rfl (lv_at hl 0 rfl) ?_
  refine lv_iload_n hx hb dL_two_1 rfl (lv_at hl 1 rfl) ?_
  refine lv_iload_n hx hb dL_two_2 rfl (lv_at hl 2 rfl) ?_
  refine lv_iload_n hx hb dL_two_3 rfl (lv_at hl 3 rfl) ?_
  refine lv_iload hx hb dL_two_4 (lv_at hl 4 rfl) ?_
  obtain ⟨hPc, hDc, hFc⟩ := xcut (wc := [(a0, .inr (0, [v20, v21, .ref b22, .ref a2, v23, .ref a1, v24, v25])), (a1, .inr (2, [v26, v27, v28])), (a2, .inl (cT 3, 8, .inr (.inr (.inr (.inr f29))))), (a3, .inr (2, [.ref a4, .int 1, v32])), (a4, .inl (cT 2, 4096, .inr (.inl f33)))]) hP hD hS hA [0, 1, 2, 3, 4] rfl rfl (by decide)
  refine xx_thr (vx_runV (C := "ValueBench") (As := [.int x5, .int 6, .int x10, .int x15]) (rest := []) ⟨hx, hb, hml, hown, htx⟩ (cB_two_13 l hl9 D cT aK aV s.heap.size a0 a1 a2 a3 a4 x5 x10 x15 v20 v21 b22 v23 v24 v25 v26 v27 v28 f29 v32 f33 h6 h7 h8 h9 h11 h12 h13 h14 h16 h17 h18 h19 (by first | rfl | exact h30 | exact h31 | exact h34) (by first | rfl | exact h30 | exact h31 | exact h34) (by first | rfl | exact h30 | exact h31 | exact h34)) ⟨callB_of 4 htx (xw_goodC kw_4_143) rfl rfl rfl (htx _ kw_1_1) (htx _ kw_4_140) ⟨by decide, by decide, by decide +kernel⟩ ⟨Nat.le_of_ble_eq_true rfl, Nat.le_of_ble_eq_true rfl⟩, (htx _ kw_4_141), (htx _ kw_4_142)⟩ ⟨xPre_blind, va_recv hK hP (ci := 0) rfl (q0 := 0) rfl, (fun U hU hW => ⟨rfl, xPre_of hZ hS hFc hPc hDc hK U hU hW⟩)⟩ rfl rfl hl.1 rfl (lv_room (Nat.le_of_ble_eq_true rfl)) dL_two_6 ⟨Nat.le_of_ble_eq_true rfl, Nat.le_of_ble_eq_true rfl⟩) hS hFc (fun q _ h => hFc q h) (fun E ce q9 u9 t H1 locs ht hvm _ hB hz1 hk1 hS hce hcv hcl => ?_)
  obtain ⟨rfl, hP1, hK1, hD1⟩ := hB
  rw [ht] at hP1
  obtain ⟨hP, hD⟩ := xjoin (W := [(a0, .inr (0, [v20, v21, .ref b22, .ref a2, v23, .ref a1, v24, .int 1])), (a1, .inr (2, [v26, .int 0, .int 0])), (a2, .inl (cT 3, 8, .inr (.inr (.inr (.inr f29))))), (a3, .inr (2, [.ref a4, .int 1, v32])), (a4, .inl (cT 2, 4096, .inr (.inl f33)))]) hP hD [0, 1, 2, 3, 4] [] 0 rfl rfl (by decide) (by decide) hk1 hFc hP1 hD1
  generalize H1 = H at hP hS hce ⊢
  refine vx_catch (own := "ValueBenchLaw") (name := "java/lang/ArithmeticException") (E := "java/lang/ArithmeticException") hown [⟨0, 9, 12, 19⟩] ⟨0, 9, 16, 33⟩ [⟨0, 9, 20, 13⟩] (by rw [htab]; rfl) (by intro z hz; rcases List.mem_cons.mp hz with rfl | hz; (exact Or.inr ⟨by decide, "java/lang/IllegalArgumentException", htx _ kw_1_211, hZ.2.2.2.2.2.2.2.1 _ (List.mem_of_getElem? (i := 10) rfl)⟩); cases hz) (by decide) (by decide) (htx _ kw_3_98) ((hZ.2.2.2.2.2.1 _ (List.mem_of_getElem? (i := 3) rfl)).use rfl) hce hcv hcl ?_
  refine lv_astore (lv' := [(5, .ref q9), (0, .ref a0), (1, .int x5), (2, .int 6), (3, .int x10), (4, .int x15)]) hx hb dL_two_16 hl (by decide) rfl (fun ls hl => ?_)
  refine lv_iconst (v := 2) hx hb dL_two_18 (by decide) ?_
  obtain ⟨hP9, hD9⟩ := xsub (wc := [(a0, .inr (0, [v20, v21, .ref b22, .ref a2, v23, .ref a1, v24, .int 1])), (a1, .inr (2, [v26, .int 0, .int 0])), (a2, .inl (cT 3, 8, .inr (.inr (.inr (.inr f29))))), (a3, .inr (2, [.ref a4, .int 1, v32])), (a4, .inl (cT 2, 4096, .inr (.inl f33)))]) hP hD [0, 1, 2, 3, 4] rfl rfl (by decide)
  refine W.widen (k := 1) (n := 6) (Nat.le_of_ble_eq_true rfl) (Nat.le_of_ble_eq_true rfl) ?_
  exact W.iret (v := 2) hx hb hr (fun t ht hW => ⟨⟨2, (), rfl, rfl, by rw [ht]; exact hP9, va_K.moved hW.alike hK, hD9⟩, hS.F ht⟩) hS.2.2 dL_two_19
set_option maxHeartbeats 400000000 in
set_option maxRecDepth 100000 in
theorem cB_isWithin_36 (l : Launch) (hl9 : l.stackTraces = false) (D : va_G) (cT : Nat → ClassId) (aK aV : Nat → Nat) (sz : Nat) : xMet l yB_isWithin wyB_isWithin 0 0 0 0 D cT aK aV sz [.int 7, .int 9] [] (fun A => va_Qi (fun (r : Int32) (_ : Unit) => r = 1) (fun _ t => xB D xcl cT A [] t) A) := by
  refine Met.ofW (cc := prog_1_method_15_code) (maxL := 2) (ret := (some .boolean)) (by decide) rfl ?_
  intro p e s m args below meth c s₁ B hml hv
  obtain ⟨rfl, hsz, hZ, hP, hK, hD0⟩ := hv
  have hx := B.exec
  have hb := B.bytes
  have hr := B.returns
  have hts := atoms_spec (ws := wyB_isWithin) B.pre
  have htx := fun w h => hts w (List.mem_cons_of_mem _ h)
  have hown : s.vm.findClass "ValueBench" = some m.cls := findClass_of_methodNamed B.named
  have hlocks := B.notSynchronized
  subst hsz
  have hD := hD0.self (sz := s.heap.size)
  generalize hAe : va_A [] s.heap.size = A at hD hZ ⊢
  have hA : ∀ q : Nat, s.heap.size ≤ q → A q := fun q h => by rw [← hAe]; exact Or.inr h
  have hS : va_S A s.heap s.heap [] := va_S.rf
  have hP : va_P D xcl [] s.heap := hP
  have hl := lv_entry ([.int 7, .int 9]) (n := 2) (Nat.le_of_ble_eq_true rfl)
  rw [lg_entry_eq]
  generalize (lg_sl ([.int 7, .int 9]) ++ List.replicate (2 - (lg_sl ([.int 7, .int 9])).length) Slot.unset).toArray = ls at hl ⊢
  have hl : lv_has ls 2 [(0, .int 7), (1, .int 9)] := hl
  refine lv_iload_n hx hb dB_isWithin_0 rfl (lv_at hl 0 rfl) ?_
  refine lv_if_lt (tgt := 13) hx hb dB_isWithin_1 (by decide) (fun h => ((by revert h; decide : False)).elim) (fun _ => ?_)
  refine lv_iload_n hx hb dB_isWithin_4 rfl (lv_at hl 0 rfl) ?_
  refine lv_iload_n hx hb dB_isWithin_5 rfl (lv_at hl 1 rfl) ?_
  refine lv_icmp_gt (tgt := 13) hx hb dB_isWithin_6 (by decide) (fun h => ((by revert h; decide : False)).elim) (fun _ => ?_)
  refine lv_iconst (v := 1) hx hb dB_isWithin_9 (by decide) ?_
  refine lv_goto (tgt := 14) hx hb dB_isWithin_10 (by decide) ?_
  obtain ⟨hP9, hD9⟩ := xsub (wc := []) hP hD [] rfl rfl (by decide)
  refine W.widen (k := 0) (n := 0) (Nat.le_of_ble_eq_true rfl) (Nat.le_of_ble_eq_true rfl) ?_
  exact W.zret (v := 1) hx hb hr rfl (fun t ht hW => ⟨⟨1, (), rfl, rfl, by rw [ht]; exact hP9, va_K.moved hW.alike hK, hD9⟩, hS.F ht⟩) hS.2.2 dB_isWithin_14
set_option maxHeartbeats 400000000 in
set_option maxRecDepth 100000 in
theorem cR_put_7 (l : Launch) (hl9 : l.stackTraces = false) (D : va_G) (cT : Nat → ClassId) (aK aV : Nat → Nat) (sz : Nat) (a0 : Nat) (a1 : Nat) (f2 : Nat → Int64) : xMet l yR_put wyR_put 0 0 0 0 D cT aK aV sz [.ref a0, .long 0] [(a0, .inr (2, [.ref a1, .int 0, .int 0])), (a1, .inl (cT 2, 4096, .inr (.inl f2)))] (fun A => va_Qv (fun _ : Unit => True) (fun _ t => xB D xcl cT A [(a0, .inr (2, [.ref a1, .int 1, .int 0])), (a1, .inl (cT 2, 4096, .inr (.inl (vp_updL f2 0 0))))] t) A) := by
  refine Met.ofW (cc := prog_8_method_16_code) (maxL := 3) (ret := none) (by decide) rfl ?_
  intro p e s m args below meth c s₁ B hml hv
  obtain ⟨rfl, hsz, hZ, hP, hK, hD0⟩ := hv
  have hx := B.exec
  have hb := B.bytes
  have hr := B.returns
  have hts := atoms_spec (ws := wyR_put) B.pre
  have htx := fun w h => hts w (List.mem_cons_of_mem _ h)
  have hown : s.vm.findClass "ValueBench$Row" = some m.cls := findClass_of_methodNamed B.named
  have hlocks := B.notSynchronized
  subst hsz
  have hD := hD0.self (sz := s.heap.size)
  generalize hAe : va_A [(a0, .inr (2, [.ref a1, .int 0, .int 0])), (a1, .inl (cT 2, 4096, .inr (.inl f2)))] s.heap.size = A at hD hZ ⊢
  have hA : ∀ q : Nat, s.heap.size ≤ q → A q := fun q h => by rw [← hAe]; exact Or.inr h
  have hS : va_S A s.heap s.heap [] := va_S.rf
  have hP : va_P D xcl [(a0, .inr (2, [.ref a1, .int 0, .int 0])), (a1, .inl (cT 2, 4096, .inr (.inl f2)))] s.heap := hP
  have hl := lv_entry ([.ref a0, .long 0]) (n := 3) (Nat.le_of_ble_eq_true rfl)
  rw [lg_entry_eq]
  generalize (lg_sl ([.ref a0, .long 0]) ++ List.replicate (3 - (lg_sl ([.ref a0, .long 0])).length) Slot.unset).toArray = ls at hl ⊢
  have hl : lv_has ls 3 [(0, .ref a0), (1, .long 0)] := hl
  refine lv_aload_n hx hb dR_put_0 rfl (lv_at hl 0 rfl) ?_
  refine va_get (D := D) (ci := 2) (v := .int 0) (C := "ValueBench$Row") (T := TR) (N := 3) hx hb htx inR hown hK hP 0 rfl rfl 2 (by decide) (htx _ kw_1_86) (fun _ h9 => h9) rfl dR_put_1 ?_
  refine lv_if_ne (tgt := 17) hx hb dR_put_4 (by decide) (fun h => ((by revert h; decide : False)).elim) (fun _ => ?_)
  refine lv_aload_n hx hb dR_put_7 rfl (lv_at hl 0 rfl) ?_
  refine va_get (D := D) (ci := 2) (v := .int 0) (C := "ValueBench$Row") (T := TR) (N := 3) hx hb htx inR hown hK hP 0 rfl rfl 1 (by decide) (htx _ kw_1_85) (fun _ h9 => h9) rfl dR_put_8 ?_
  refine lv_sipush (v := 4096) hx hb dR_put_11 (by decide) ?_
  refine lv_icmp_lt (tgt := 23) hx hb dR_put_14 (by decide) (fun _ => ?_) (fun h => ((by revert h; decide : False)).elim)
  refine lv_aload_n hx hb dR_put_23 rfl (lv_at hl 0 rfl) ?_
  refine va_get (D := D) (ci := 2) (v := .ref a1) (C := "ValueBench$Row") (T := TR) (N := 3) hx hb htx inR hown hK hP 0 rfl rfl 0 (by decide) (htx _ kw_1_84) (fun _ h9 => h9) rfl dR_put_24 ?_
  refine lv_aload_n hx hb dR_put_27 rfl (lv_at hl 0 rfl) ?_
  refine va_get (D := D) (ci := 2) (v := .int 0) (C := "ValueBench$Row") (T := TR) (N := 3) hx hb htx inR hown hK hP 0 rfl rfl 1 (by decide) (htx _ kw_1_85) (fun _ h9 => h9) rfl dR_put_28 ?_
  refine lv_lload_n hx hb dR_put_31 rfl (lv_at hl 1 rfl) ?_
  refine va_last hx hb hK hP hD hS 1 2 rfl rfl (show ¬ ((0 : Int32) < 0 ∨ 4096 ≤ (0 : Int32).toNatClampNeg) by decide) dR_put_32 (fun H locs hP hD hS => ?_)
  obtain ⟨hP, hD⟩ : xPD D xcl A [(a0, .inr (2, [.ref a1, .int 0, .int 0])), (a1, .inl (cT 2, 4096, .inr (.inl (vp_updL f2 0 0))))] H := ⟨hP, hD⟩
  refine lv_aload_n hx hb dR_put_33 rfl (lv_at hl 0 rfl) ?_
  refine lv_dup hx hb dR_put_34 rfl ?_
  refine va_get (D := D) (ci := 2) (v := .int 0) (C := "ValueBench$Row") (T := TR) (N := 3) hx hb htx inR hown hK hP 0 rfl rfl 1 (by decide) (htx _ kw_1_85) (fun _ h9 => h9) rfl dR_put_35 ?_
  refine lv_iconst (v := 1) hx hb dR_put_38 (by decide) ?_
  refine lv_iadd hx hb dR_put_39 ?_
  refine W.eq (g2 := F0 m 40 ls [.int 1, .ref a0]) rfl ?_
  refine va_put (D := D) (ci := 2) (v := .int 1) (ty := .int) (C := "ValueBench$Row") (T := TR) (N := 3) hx hb htx inR tyR tyR_ok nmR hown hK hP hD hS 0 rfl rfl 1 (by decide) (htx _ kw_1_85) (fun _ h9 => h9) rfl (by decide +kernel) rfl rfl (Nat.le_of_ble_eq_true rfl) dR_put_40 (fun H locs hP hD hS => ?_)
  obtain ⟨hP, hD⟩ : xPD D xcl A [(a0, .inr (2, [.ref a1, .int 1, .int 0])), (a1, .inl (cT 2, 4096, .inr (.inl (vp_updL f2 0 0))))] H := ⟨hP, hD⟩
  obtain ⟨hP9, hD9⟩ := xsub (wc := [(a0, .inr (2, [.ref a1, .int 1, .int 0])), (a1, .inl (cT 2, 4096, .inr (.inl (vp_updL f2 0 0))))]) hP hD [0, 1] rfl rfl (by decide)
  refine W.widen (k := 0) (n := 0) (Nat.le_of_ble_eq_true rfl) (Nat.le_of_ble_eq_true rfl) ?_
  exact W.vret hx hb hr (fun t ht hW => ⟨⟨(), rfl, trivial, by rw [ht]; exact hP9, va_K.moved hW.alike hK, hD9⟩, hS.F ht⟩) hS.2.2 dR_put_43
set_option maxHeartbeats 400000000 in
set_option maxRecDepth 100000 in
theorem cR_putNull_0 (l : Launch) (hl9 : l.stackTraces = false) (D : va_G) (cT : Nat → ClassId) (aK aV : Nat → Nat) (sz : Nat) (a0 : Nat) (a1 : Nat) (f2 : Nat → Int64) : xMet l yR_putNull wyR_putNull 1 0 0 22 D cT aK aV sz [.ref a0] [(a0, .inr (2, [.ref a1, .int 0, .int 0])), (a1, .inl (cT 2, 4096, .inr (.inl f2)))] (fun A => va_Qv (fun _ : Unit => True) (fun _ t => xB D xcl cT A [(a0, .inr (2, [.ref a1, .int 1, .int 0])), (a1, .inl (cT 2, 4096, .inr (.inl (vp_updL f2 0 0))))] t) A) := by
  refine Met.ofW (cc := prog_8_method_19_code) (maxL := 1) (ret := none) (by decide) rfl ?_
  intro p e s m args below meth c s₁ B hml hv
  obtain ⟨rfl, hsz, hZ, hP, hK, hD0⟩ := hv
  have hx := B.exec
  have hb := B.bytes
  have hr := B.returns
  have hts := atoms_spec (ws := wyR_putNull) B.pre
  have htx := fun w h => hts w (List.mem_cons_of_mem _ h)
  have hown : s.vm.findClass "ValueBench$Row" = some m.cls := findClass_of_methodNamed B.named
  have hlocks := B.notSynchronized
  subst hsz
  have hD := hD0.self (sz := s.heap.size)
  generalize hAe : va_A [(a0, .inr (2, [.ref a1, .int 0, .int 0])), (a1, .inl (cT 2, 4096, .inr (.inl f2)))] s.heap.size = A at hD hZ ⊢
  have hA : ∀ q : Nat, s.heap.size ≤ q → A q := fun q h => by rw [← hAe]; exact Or.inr h
  have hS : va_S A s.heap s.heap [] := va_S.rf
  have hP : va_P D xcl [(a0, .inr (2, [.ref a1, .int 0, .int 0])), (a1, .inl (cT 2, 4096, .inr (.inl f2)))] s.heap := hP
  have hl := lv_entry ([.ref a0]) (n := 1) (Nat.le_of_ble_eq_true rfl)
  rw [lg_entry_eq]
  generalize (lg_sl ([.ref a0]) ++ List.replicate (1 - (lg_sl ([.ref a0])).length) Slot.unset).toArray = ls at hl ⊢
  have hl : lv_has ls 1 [(0, .ref a0)] := hl
  refine lv_aload_n hx hb dR_putNull_0 rfl (lv_at hl 0 rfl) ?_
  refine lv_lconst (v := 0) hx hb dR_putNull_1 (by decide) ?_
  obtain ⟨hPc, hDc, hFc⟩ := xcut (wc := [(a0, .inr (2, [.ref a1, .int 0, .int 0])), (a1, .inl (cT 2, 4096, .inr (.inl f2)))]) hP hD hS hA [0, 1] rfl rfl (by decide)
  refine va_callv (va_runV (C := "ValueBench$Row") (As := [.long 0]) (rest := []) ⟨hx, hb, hml, hown, htx⟩ (cR_put_7 l hl9 D cT aK aV s.heap.size a0 a1 f2) ⟨callB_of 1 htx (xw_goodC kw_2_126) rfl rfl rfl (htx _ kw_1_4) (htx _ kw_2_137) ⟨by decide, by decide, by decide +kernel⟩ ⟨Nat.le_of_ble_eq_true rfl, Nat.le_of_ble_eq_true rfl⟩, (htx _ kw_2_124), (htx _ kw_2_125)⟩ ⟨xPre_blind, va_recv hK hP (ci := 2) rfl (q0 := 0) rfl, (fun U hU hW => ⟨rfl, xPre_of hZ hS hFc hPc hDc hK U hU hW⟩)⟩ rfl rfl hl.1 rfl (lv_room (Nat.le_of_ble_eq_true rfl)) dR_putNull_2 ⟨Nat.le_of_ble_eq_true rfl, Nat.le_of_ble_eq_true rfl⟩) hS (fun q _ h => hFc q h) hFc (fun u9 t H1 locs ht hvm hr9 hB hz1 hk1 hS => ?_)
  obtain ⟨hP1, hK1, hD1⟩ := hB
  rw [ht] at hP1
  obtain ⟨hP, hD⟩ := xjoin (W := [(a0, .inr (2, [.ref a1, .int 1, .int 0])), (a1, .inl (cT 2, 4096, .inr (.inl (vp_updL f2 0 0))))]) hP hD [0, 1] [] 0 rfl rfl (by decide) (by decide) hk1 hFc hP1 hD1
  generalize H1 = H at hP hS ⊢
  obtain ⟨hP9, hD9⟩ := xsub (wc := [(a0, .inr (2, [.ref a1, .int 1, .int 0])), (a1, .inl (cT 2, 4096, .inr (.inl (vp_updL f2 0 0))))]) hP hD [0, 1] rfl rfl (by decide)
  refine W.widen (k := 0) (n := 0) (Nat.le_of_ble_eq_true rfl) (Nat.le_of_ble_eq_true rfl) ?_
  exact W.vret hx hb hr (fun t ht hW => ⟨⟨(), rfl, trivial, by rw [ht]; exact hP9, va_K.moved hW.alike hK, hD9⟩, hS.F ht⟩) hS.2.2 dR_putNull_5
set_option maxHeartbeats 400000000 in
set_option maxRecDepth 100000 in
theorem cH_nothing_0 (l : Launch) (hl9 : l.stackTraces = false) (D : va_G) (cT : Nat → ClassId) (aK aV : Nat → Nat) (sz : Nat) (a0 : Nat) (a1 : Nat) (f2 : Nat → Int64) : xMet l yH_nothing wyH_nothing 2 0 0 42 D cT aK aV sz [.ref a0] [(a0, .inr (2, [.ref a1, .int 0, .int 0])), (a1, .inl (cT 2, 4096, .inr (.inl f2)))] (fun A => va_Qi (fun (r : Int32) (_ : Unit) => r = 0) (fun _ t => xB D xcl cT A [(a0, .inr (2, [.ref a1, .int 1, .int 0])), (a1, .inl (cT 2, 4096, .inr (.inl (vp_updL f2 0 0))))] t) A) := by
  refine Met.ofW (cc := prog_5_method_4_code) (maxL := 1) (ret := (some .int)) (by decide) rfl ?_
  intro p e s m args below meth c s₁ B hml hv
  obtain ⟨rfl, hsz, hZ, hP, hK, hD0⟩ := hv
  have hx := B.exec
  have hb := B.bytes
  have hr := B.returns
  have hts := atoms_spec (ws := wyH_nothing) B.pre
  have htx := fun w h => hts w (List.mem_cons_of_mem _ h)
  have hown : s.vm.findClass "ValueBench$Pairs" = some m.cls := findClass_of_methodNamed B.named
  have hlocks := B.notSynchronized
  subst hsz
  have hD := hD0.self (sz := s.heap.size)
  generalize hAe : va_A [(a0, .inr (2, [.ref a1, .int 0, .int 0])), (a1, .inl (cT 2, 4096, .inr (.inl f2)))] s.heap.size = A at hD hZ ⊢
  have hA : ∀ q : Nat, s.heap.size ≤ q → A q := fun q h => by rw [← hAe]; exact Or.inr h
  have hS : va_S A s.heap s.heap [] := va_S.rf
  have hP : va_P D xcl [(a0, .inr (2, [.ref a1, .int 0, .int 0])), (a1, .inl (cT 2, 4096, .inr (.inl f2)))] s.heap := hP
  have hl := lv_entry ([.ref a0]) (n := 1) (Nat.le_of_ble_eq_true rfl)
  rw [lg_entry_eq]
  generalize (lg_sl ([.ref a0]) ++ List.replicate (1 - (lg_sl ([.ref a0])).length) Slot.unset).toArray = ls at hl ⊢
  have hl : lv_has ls 1 [(0, .ref a0)] := hl
  refine lv_aload_n hx hb dH_nothing_0 rfl (lv_at hl 0 rfl) ?_
  obtain ⟨hPc, hDc, hFc⟩ := xcut (wc := [(a0, .inr (2, [.ref a1, .int 0, .int 0])), (a1, .inl (cT 2, 4096, .inr (.inl f2)))]) hP hD hS hA [0, 1] rfl rfl (by decide)
  refine va_callv (va_runV (C := "ValueBench$Row") (As := []) (rest := []) ⟨hx, hb, hml, hown, htx⟩ (cR_putNull_0 l hl9 D cT aK aV s.heap.size a0 a1 f2) ⟨callB_of 0 htx (xw_goodC kw_3_196) rfl rfl rfl (htx _ kw_1_4) (htx _ kw_4_222) ⟨by decide, by decide, by decide +kernel⟩ ⟨Nat.le_of_ble_eq_true rfl, Nat.le_of_ble_eq_true rfl⟩, (htx _ kw_3_194), (htx _ kw_3_195)⟩ ⟨xPre_blind, va_recv hK hP (ci := 2) rfl (q0 := 0) rfl, (fun U hU hW => ⟨rfl, xPre_of hZ hS hFc hPc hDc hK U hU hW⟩)⟩ rfl rfl hl.1 rfl (lv_room (Nat.le_of_ble_eq_true rfl)) dH_nothing_1 ⟨Nat.le_of_ble_eq_true rfl, Nat.le_of_ble_eq_true rfl⟩) hS (fun q _ h => hFc q h) hFc (fun u9 t H1 locs ht hvm hr9 hB hz1 hk1 hS => ?_)
  obtain ⟨hP1, hK1, hD1⟩ := hB
  rw [ht] at hP1
  obtain ⟨hP, hD⟩ := xjoin (W := [(a0, .inr (2, [.ref a1, .int 1, .int 0])), (a1, .inl (cT 2, 4096, .inr (.inl (vp_updL f2 0 0))))]) hP hD [0, 1] [] 0 rfl rfl (by decide) (by decide) hk1 hFc hP1 hD1
  generalize H1 = H at hP hS ⊢
  refine lv_iconst (v := 0) hx hb dH_nothing_4 (by decide) ?_
  obtain ⟨hP9, hD9⟩ := xsub (wc := [(a0, .inr (2, [.ref a1, .int 1, .int 0])), (a1, .inl (cT 2, 4096, .inr (.inl (vp_updL f2 0 0))))]) hP hD [0, 1] rfl rfl (by decide)
  refine W.widen (k := 0) (n := 0) (Nat.le_of_ble_eq_true rfl) (Nat.le_of_ble_eq_true rfl) ?_
  exact W.iret (v := 0) hx hb hr (fun t ht hW => ⟨⟨0, (), rfl, rfl, by rw [ht]; exact hP9, va_K.moved hW.alike hK, hD9⟩, hS.F ht⟩) hS.2.2 dH_nothing_5
set_option maxHeartbeats 400000000 in
set_option maxRecDepth 100000 in
theorem cH_indices_0 (l : Launch) (hl9 : l.stackTraces = false) (D : va_G) (cT : Nat → ClassId) (aK aV : Nat → Nat) (sz : Nat) (a0 : Nat) (a1 : Nat) (a2 : Nat) (a3 : Nat) (b4 : Nat) (v5 : Value) (f6 : Nat → Int64) (f8 : Nat → Int64) (h7 : f6 0 = 0) : xMet l yH_indices wyH_indices 3 0 0 62 D cT aK aV sz [.ref a0, .ref b4, .ref a2] [(a0, .inr (2, [.ref a1, .int 1, v5])), (a1, .inl (cT 2, 4096, .inr (.inl f6))), (a2, .inr (2, [.ref a3, .int 0, .int 0])), (a3, .inl (cT 2, 4096, .inr (.inl f8)))] (fun A => va_Qi (fun (r : Int32) (_ : Unit) => r = 0) (fun _ t => xB D xcl cT A [(a0, .inr (2, [.ref a1, .int 1, v5])), (a1, .inl (cT 2, 4096, .inr (.inl f6))), (a2, .inr (2, [.ref a3, .int 1, .int 0])), (a3, .inl (cT 2, 4096, .inr (.inl (vp_updL f8 0 0))))] t) A) := by
  refine Met.ofW (cc := prog_5_method_22_code) (maxL := 6) (ret := (some .int)) (by decide) rfl ?_
  intro p e s m args below meth c s₁ B hml hv
  obtain ⟨rfl, hsz, hZ, hP, hK, hD0⟩ := hv
  have hx := B.exec
  have hb := B.bytes
  have hr := B.returns
  have hts := atoms_spec (ws := wyH_indices) B.pre
  have htx := fun w h => hts w (List.mem_cons_of_mem _ h)
  have hown : s.vm.findClass "ValueBench$Pairs" = some m.cls := findClass_of_methodNamed B.named
  have hlocks := B.notSynchronized
  subst hsz
  have hD := hD0.self (sz := s.heap.size)
  generalize hAe : va_A [(a0, .inr (2, [.ref a1, .int 1, v5])), (a1, .inl (cT 2, 4096, .inr (.inl f6))), (a2, .inr (2, [.ref a3, .int 0, .int 0])), (a3, .inl (cT 2, 4096, .inr (.inl f8)))] s.heap.size = A at hD hZ ⊢
  have hA : ∀ q : Nat, s.heap.size ≤ q → A q := fun q h => by rw [← hAe]; exact Or.inr h
  have hS : va_S A s.heap s.heap [] := va_S.rf
  have hP : va_P D xcl [(a0, .inr (2, [.ref a1, .int 1, v5])), (a1, .inl (cT 2, 4096, .inr (.inl f6))), (a2, .inr (2, [.ref a3, .int 0, .int 0])), (a3, .inl (cT 2, 4096, .inr (.inl f8)))] s.heap := hP
  have hl := lv_entry ([.ref a0, .ref b4, .ref a2]) (n := 6) (Nat.le_of_ble_eq_true rfl)
  rw [lg_entry_eq]
  generalize (lg_sl ([.ref a0, .ref b4, .ref a2]) ++ List.replicate (6 - (lg_sl ([.ref a0, .ref b4, .ref a2])).length) Slot.unset).toArray = ls at hl ⊢
  have hl : lv_has ls 6 [(0, .ref a0), (1, .ref b4), (2, .ref a2)] := hl
  refine lv_aload_n hx hb dH_indices_0 rfl (lv_at hl 0 rfl) ?_
  refine lv_iconst (v := 0) hx hb dH_indices_1 (by decide) ?_
  refine lv_iconst (v := 0) hx hb dH_indices_2 (by decide) ?_
  obtain ⟨hPc, hDc, hFc⟩ := xcut (wc := [(a0, .inr (2, [.ref a1, .int 1, v5])), (a1, .inl (cT 2, 4096, .inr (.inl f6)))]) hP hD hS hA [0, 1] rfl rfl (by decide)
  refine va_calli (va_runV (C := "ValueBench$Row") (As := [.int 0, .int 0]) (rest := []) ⟨hx, hb, hml, hown, htx⟩ (cR_is_0 l hl9 D cT aK aV s.heap.size a0 a1 v5 f6 (by first | rfl | exact h7)) ⟨callB_of 2 htx (xw_goodC kw_3_75) rfl rfl rfl (htx _ kw_1_4) (htx _ kw_4_150) ⟨by decide, by decide, by decide +kernel⟩ ⟨Nat.le_of_ble_eq_true rfl, Nat.le_of_ble_eq_true rfl⟩, (htx _ kw_3_73), (htx _ kw_3_74)⟩ ⟨xPre_blind, va_recv hK hP (ci := 2) rfl (q0 := 0) rfl, (fun U hU hW => ⟨rfl, xPre_of hZ hS hFc hPc hDc hK U hU hW⟩)⟩ rfl rfl hl.1 rfl (lv_room (Nat.le_of_ble_eq_true rfl)) dH_indices_3 ⟨Nat.le_of_ble_eq_true rfl, Nat.le_of_ble_eq_true rfl⟩) hS (fun q _ h => hFc q h) hFc (fun r1 u9 t H1 locs ht hvm hr9 hB hz1 hk1 hS => ?_)
  obtain ⟨hP1, hK1, hD1⟩ := hB
  rw [ht] at hP1
  obtain ⟨hP, hD⟩ := xjoin (W := [(a2, .inr (2, [.ref a3, .int 0, .int 0])), (a3, .inl (cT 2, 4096, .inr (.inl f8))), (a0, .inr (2, [.ref a1, .int 1, v5])), (a1, .inl (cT 2, 4096, .inr (.inl f6)))]) hP hD [0, 1] [2, 3] 2 rfl rfl (by decide) (by decide) hk1 hFc hP1 hD1
  generalize H1 = H at hP hS ⊢
  rw [hr9]
  refine W.eq (g2 := F0 m 6 ls [.int 1]) rfl ?_
  refine lv_if_eq (tgt := 14) hx hb dH_indices_6 (by decide) (fun h => ((by revert h; decide : False)).elim) (fun _ => ?_)
  refine lv_aload_n hx hb dH_indices_9 rfl (lv_at hl 2 rfl) ?_
  obtain ⟨hPc, hDc, hFc⟩ := xcut (wc := [(a2, .inr (2, [.ref a3, .int 0, .int 0])), (a3, .inl (cT 2, 4096, .inr (.inl f8)))]) hP hD hS hA [0, 1] rfl rfl (by decide)
  refine va_calli (va_runS (As := [.ref a2]) (rest := []) ⟨hx, hb, hml, hown, htx⟩ (cH_nothing_0 l hl9 D cT aK aV H.size a2 a3 f8) ⟨callB_of 1 htx (xw_goodC kw_4_221) rfl rfl rfl (htx _ kw_1_27) (htx _ kw_4_219) ⟨by decide, by decide, by decide +kernel⟩ ⟨Nat.le_of_ble_eq_true rfl, Nat.le_of_ble_eq_true rfl⟩, htx _ kw_4_220⟩ ⟨xPre_blind, (fun U hU hW => ⟨rfl, xPre_of hZ hS hFc hPc hDc hK U hU hW⟩)⟩ rfl rfl hl.1 rfl (lv_room (Nat.le_of_ble_eq_true rfl)) dH_indices_10 ⟨Nat.le_of_ble_eq_true rfl, Nat.le_of_ble_eq_true rfl⟩) hS (fun q _ h => hFc q h) hFc (fun r2 u9 t H1 locs ht hvm hr9 hB hz1 hk1 hS => ?_)
  obtain ⟨hP1, hK1, hD1⟩ := hB
  rw [ht] at hP1
  obtain ⟨hP, hD⟩ := xjoin (W := [(a0, .inr (2, [.ref a1, .int 1, v5])), (a1, .inl (cT 2, 4096, .inr (.inl f6))), (a2, .inr (2, [.ref a3, .int 1, .int 0])), (a3, .inl (cT 2, 4096, .inr (.inl (vp_updL f8 0 0))))]) hP hD [0, 1] [2, 3] 2 rfl rfl (by decide) (by decide) hk1 hFc hP1 hD1
  generalize H1 = H at hP hS ⊢
  rw [hr9]
  refine W.eq (g2 := F0 m 13 ls [.int 0]) rfl ?_
  obtain ⟨hP9, hD9⟩ := xsub (wc := [(a0, .inr (2, [.ref a1, .int 1, v5])), (a1, .inl (cT 2, 4096, .inr (.inl f6))), (a2, .inr (2, [.ref a3, .int 1, .int 0])), (a3, .inl (cT 2, 4096, .inr (.inl (vp_updL f8 0 0))))]) hP hD [0, 1, 2, 3] rfl rfl (by decide)
  refine W.widen (k := 0) (n := 0) (Nat.le_of_ble_eq_true rfl) (Nat.le_of_ble_eq_true rfl) ?_
  exact W.iret (v := 0) hx hb hr (fun t ht hW => ⟨⟨0, (), rfl, rfl, by rw [ht]; exact hP9, va_K.moved hW.alike hK, hD9⟩, hS.F ht⟩) hS.2.2 dH_indices_13
set_option maxHeartbeats 400000000 in
set_option maxRecDepth 100000 in
theorem cH_apply_14 (l : Launch) (hl9 : l.stackTraces = false) (D : va_G) (cT : Nat → ClassId) (aK aV : Nat → Nat) (sz : Nat) (a0 : Nat) (a1 : Nat) (a2 : Nat) (a3 : Nat) (b4 : Nat) (b5 : Nat) (v6 : Value) (f7 : Nat → Int64) (f9 : Nat → Int64) (h8 : f7 0 = 0) : xMet l yH_apply wyH_apply 4 0 0 87 D cT aK aV sz [.int 7, .ref a0, .ref b4, .ref b5, .ref a2] [(a0, .inr (2, [.ref a1, .int 1, v6])), (a1, .inl (cT 2, 4096, .inr (.inl f7))), (a2, .inr (2, [.ref a3, .int 0, .int 0])), (a3, .inl (cT 2, 4096, .inr (.inl f9)))] (fun A => va_Qi (fun (r : Int32) (_ : Unit) => r = 0) (fun _ t => xB D xcl cT A [(a0, .inr (2, [.ref a1, .int 1, v6])), (a1, .inl (cT 2, 4096, .inr (.inl f7))), (a2, .inr (2, [.ref a3, .int 1, .int 0])), (a3, .inl (cT 2, 4096, .inr (.inl (vp_updL f9 0 0))))] t) A) := by
  refine Met.ofW (cc := prog_5_method_2_code) (maxL := 5) (ret := (some .int)) (by decide) rfl ?_
  intro p e s m args below meth c s₁ B hml hv
  obtain ⟨rfl, hsz, hZ, hP, hK, hD0⟩ := hv
  have hx := B.exec
  have hb := B.bytes
  have hr := B.returns
  have hts := atoms_spec (ws := wyH_apply) B.pre
  have htx := fun w h => hts w (List.mem_cons_of_mem _ h)
  have hown : s.vm.findClass "ValueBench$Pairs" = some m.cls := findClass_of_methodNamed B.named
  have hlocks := B.notSynchronized
  subst hsz
  have hD := hD0.self (sz := s.heap.size)
  generalize hAe : va_A [(a0, .inr (2, [.ref a1, .int 1, v6])), (a1, .inl (cT 2, 4096, .inr (.inl f7))), (a2, .inr (2, [.ref a3, .int 0, .int 0])), (a3, .inl (cT 2, 4096, .inr (.inl f9)))] s.heap.size = A at hD hZ ⊢
  have hA : ∀ q : Nat, s.heap.size ≤ q → A q := fun q h => by rw [← hAe]; exact Or.inr h
  have hS : va_S A s.heap s.heap [] := va_S.rf
  have hP : va_P D xcl [(a0, .inr (2, [.ref a1, .int 1, v6])), (a1, .inl (cT 2, 4096, .inr (.inl f7))), (a2, .inr (2, [.ref a3, .int 0, .int 0])), (a3, .inl (cT 2, 4096, .inr (.inl f9)))] s.heap := hP
  have hl := lv_entry ([.int 7, .ref a0, .ref b4, .ref b5, .ref a2]) (n := 5) (Nat.le_of_ble_eq_true rfl)
  rw [lg_entry_eq]
  generalize (lg_sl ([.int 7, .ref a0, .ref b4, .ref b5, .ref a2]) ++ List.replicate (5 - (lg_sl ([.int 7, .ref a0, .ref b4, .ref b5, .ref a2])).length) Slot.unset).toArray = ls at hl ⊢
  have hl : lv_has ls 5 [(0, .int 7), (1, .ref a0), (2, .ref b4), (3, .ref b5), (4, .ref a2)] := hl
  refine lv_iload_n hx hb dH_apply_0 rfl (lv_at hl 0 rfl) ?_
  refine lv_tableIn (off := 138) (tgt := 139) hx hb dH_apply_1 (by decide) (by decide) (by decide) (by decide) ?_
  refine lv_aload_n hx hb dH_apply_139 rfl (lv_at hl 1 rfl) ?_
  refine lv_aload_n hx hb dH_apply_140 rfl (lv_at hl 2 rfl) ?_
  refine lv_aload hx hb dH_apply_141 (lv_at hl 4 rfl) ?_
  obtain ⟨hPc, hDc, hFc⟩ := xcut (wc := [(a0, .inr (2, [.ref a1, .int 1, v6])), (a1, .inl (cT 2, 4096, .inr (.inl f7))), (a2, .inr (2, [.ref a3, .int 0, .int 0])), (a3, .inl (cT 2, 4096, .inr (.inl f9)))]) hP hD hS hA [0, 1, 2, 3] rfl rfl (by decide)
  refine va_calli (va_runS (As := [.ref a0, .ref b4, .ref a2]) (rest := []) ⟨hx, hb, hml, hown, htx⟩ (cH_indices_0 l hl9 D cT aK aV s.heap.size a0 a1 a2 a3 b4 v6 f7 f9 (by first | rfl | exact h8)) ⟨callB_of 3 htx (xw_goodC kw_4_218) rfl rfl rfl (htx _ kw_1_27) (htx _ kw_4_216) ⟨by decide, by decide, by decide +kernel⟩ ⟨Nat.le_of_ble_eq_true rfl, Nat.le_of_ble_eq_true rfl⟩, htx _ kw_4_217⟩ ⟨xPre_blind, (fun U hU hW => ⟨rfl, xPre_of hZ hS hFc hPc hDc hK U hU hW⟩)⟩ rfl rfl hl.1 rfl (lv_room (Nat.le_of_ble_eq_true rfl)) dH_apply_143 ⟨Nat.le_of_ble_eq_true rfl, Nat.le_of_ble_eq_true rfl⟩) hS (fun q _ h => hFc q h) hFc (fun r1 u9 t H1 locs ht hvm hr9 hB hz1 hk1 hS => ?_)
  obtain ⟨hP1, hK1, hD1⟩ := hB
  rw [ht] at hP1
  obtain ⟨hP, hD⟩ := xjoin (W := [(a0, .inr (2, [.ref a1, .int 1, v6])), (a1, .inl (cT 2, 4096, .inr (.inl f7))), (a2, .inr (2, [.ref a3, .int 1, .int 0])), (a3, .inl (cT 2, 4096, .inr (.inl (vp_updL f9 0 0))))]) hP hD [0, 1, 2, 3] [] 0 rfl rfl (by decide) (by decide) hk1 hFc hP1 hD1
  generalize H1 = H at hP hS ⊢
  rw [hr9]
  refine W.eq (g2 := F0 m 146 ls [.int 0]) rfl ?_
  obtain ⟨hP9, hD9⟩ := xsub (wc := [(a0, .inr (2, [.ref a1, .int 1, v6])), (a1, .inl (cT 2, 4096, .inr (.inl f7))), (a2, .inr (2, [.ref a3, .int 1, .int 0])), (a3, .inl (cT 2, 4096, .inr (.inl (vp_updL f9 0 0))))]) hP hD [0, 1, 2, 3] rfl rfl (by decide)
  refine W.widen (k := 0) (n := 0) (Nat.le_of_ble_eq_true rfl) (Nat.le_of_ble_eq_true rfl) ?_
  exact W.iret (v := 0) hx hb hr (fun t ht hW => ⟨⟨0, (), rfl, rfl, by rw [ht]; exact hP9, va_K.moved hW.alike hK, hD9⟩, hS.F ht⟩) hS.2.2 dH_apply_146
set_option maxHeartbeats 400000000 in
set_option maxRecDepth 100000 in
theorem cB_two_14 (l : Launch) (hl9 : l.stackTraces = false) (D : va_G) (cT : Nat → ClassId) (aK aV : Nat → Nat) (sz : Nat) (a0 : Nat) (a1 : Nat) (a2 : Nat) (a3 : Nat) (a4 : Nat) (a5 : Nat) (a6 : Nat) (a7 : Nat) (x8 : Int32) (x13 : Int32) (x18 : Int32) (v23 : Value) (v24 : Value) (v25 : Value) (v26 : Value) (v27 : Value) (v28 : Value) (v29 : Value) (f30 : Nat → Option Nat) (b32 : Nat) (b34 : Nat) (v36 : Value) (f37 : Nat → Int64) (f39 : Nat → Int64) (v40 : Value) (v41 : Value) (f42 : Nat → Int32) (h9 : ¬ x8 < 0) (h10 : ¬ 7 < x8) (h11 : x8 ≤ 7) (h12 : vp_in x8 8) (h14 : ¬ x13 < 0) (h15 : ¬ 7 < x13) (h16 : x13 ≤ 7) (h17 : vp_in x13 8) (h19 : ¬ x18 < 0) (h20 : ¬ 7 < x18) (h21 : x18 ≤ 7) (h22 : vp_in x18 8) (h31 : f30 x13.toNatClampNeg = some a3) (h33 : f30 x18.toNatClampNeg = some b32) (h35 : f30 x8.toNatClampNeg = some b34) (h38 : f37 0 = 0) : xMet l yB_two wyB_two 7 0 0 152 D cT aK aV sz [.ref a0, .int x8, .int 7, .int x13, .int x18] [(a0, .inr (0, [v23, v24, .ref a6, .ref a2, v25, .ref a1, v26, v27])), (a1, .inr (2, [.ref a5, v28, v29])), (a2, .inl (cT 3, 8, .inr (.inr (.inr (.inr f30))))), (a3, .inr (2, [.ref a4, .int 1, v36])), (a4, .inl (cT 2, 4096, .inr (.inl f37))), (a5, .inl (cT 2, 4096, .inr (.inl f39))), (a6, .inr (1, [.ref a7, v40, v41])), (a7, .inl (cT 0, 4096, .inl f42))] (fun A => va_Qv (fun _ : Unit => True) (fun _ t => ∃ (y7 : Int32) (y8 : Int32) (y9 : Int32) (y10 : Int32), xB D xcl cT A [(a0, .inr (0, [v23, v24, .ref a6, .ref a2, v25, .ref b34, v26, v27])), (a1, .inr (2, [.ref a5, .int 1, .int 0])), (a2, .inl (cT 3, 8, .inr (.inr (.inr (.inr (va_up f30 x8.toNatClampNeg (some a1))))))), (a3, .inr (2, [.ref a4, .int 1, v36])), (a4, .inl (cT 2, 4096, .inr (.inl f37))), (a5, .inl (cT 2, 4096, .inr (.inl (vp_updL f39 0 0)))), (a6, .inr (1, [.ref a7, .int 4, .int 0])), (a7, .inl (cT 0, 4096, .inl (upd (upd (upd (upd f42 0 (vp_nar .byte y7)) 1 (vp_nar .byte y8)) 2 (vp_nar .byte y9)) 3 (vp_nar .byte y10))))] t) A) := by
  refine Met.ofW (cc := prog_1_method_10_code) (maxL := 5) (ret := none) (by decide) rfl ?_
  intro p e s m args below meth c s₁ B hml hv
  obtain ⟨rfl, hsz, hZ, hP, hK, hD0⟩ := hv
  have hx := B.exec
  have hb := B.bytes
  have hr := B.returns
  have hts := atoms_spec (ws := wyB_two) B.pre
  have htx := fun w h => hts w (List.mem_cons_of_mem _ h)
  have hown : s.vm.findClass "ValueBench" = some m.cls := findClass_of_methodNamed B.named
  have hlocks := B.notSynchronized
  subst hsz
  have hD := hD0.self (sz := s.heap.size)
  generalize hAe : va_A [(a0, .inr (0, [v23, v24, .ref a6, .ref a2, v25, .ref a1, v26, v27])), (a1, .inr (2, [.ref a5, v28, v29])), (a2, .inl (cT 3, 8, .inr (.inr (.inr (.inr f30))))), (a3, .inr (2, [.ref a4, .int 1, v36])), (a4, .inl (cT 2, 4096, .inr (.inl f37))), (a5, .inl (cT 2, 4096, .inr (.inl f39))), (a6, .inr (1, [.ref a7, v40, v41])), (a7, .inl (cT 0, 4096, .inl f42))] s.heap.size = A at hD hZ ⊢
  have hA : ∀ q : Nat, s.heap.size ≤ q → A q := fun q h => by rw [← hAe]; exact Or.inr h
  have hS : va_S A s.heap s.heap [] := va_S.rf
  have hP : va_P D xcl [(a0, .inr (0, [v23, v24, .ref a6, .ref a2, v25, .ref a1, v26, v27])), (a1, .inr (2, [.ref a5, v28, v29])), (a2, .inl (cT 3, 8, .inr (.inr (.inr (.inr f30))))), (a3, .inr (2, [.ref a4, .int 1, v36])), (a4, .inl (cT 2, 4096, .inr (.inl f37))), (a5, .inl (cT 2, 4096, .inr (.inl f39))), (a6, .inr (1, [.ref a7, v40, v41])), (a7, .inl (cT 0, 4096, .inl f42))] s.heap := hP
  have hl := lv_entry ([.ref a0, .int x8, .int 7, .int x13, .int x18]) (n := 5) (Nat.le_of_ble_eq_true rfl)
  rw [lg_entry_eq]
  generalize (lg_sl ([.ref a0, .int x8, .int 7, .int x13, .int x18]) ++ List.replicate (5 - (lg_sl ([.ref a0, .int x8, .int 7, .int x13, .int x18])).length) Slot.unset).toArray = ls at hl ⊢
  have hl : lv_has ls 5 [(0, .ref a0), (1, .int x8), (2, .int 7), (3, .int x13), (4, .int x18)] := hl
  refine lv_iload_n hx hb dB_two_0 rfl (lv_at hl 1 rfl) ?_
  obtain ⟨hPc, hDc, hFc⟩ := xcut (wc := []) hP hD hS hA [] rfl rfl (by decide)
  refine va_calli (va_runS (As := [.int x8]) (rest := []) ⟨hx, hb, hml, hown, htx⟩ (cB_isRegister_0 l hl9 D cT aK aV s.heap.size x8 h9 h10 h11 h12) ⟨callB_of 1 htx (xw_goodC kw_2_18) rfl rfl rfl (htx _ kw_1_1) (htx _ kw_2_16) ⟨by decide, by decide, by decide +kernel⟩ ⟨Nat.le_of_ble_eq_true rfl, Nat.le_of_ble_eq_true rfl⟩, htx _ kw_2_17⟩ ⟨xPre_blind, (fun U hU hW => ⟨rfl, xPre_of hZ hS hFc hPc hDc hK U hU hW⟩)⟩ rfl rfl hl.1 rfl (lv_room (Nat.le_of_ble_eq_true rfl)) dB_two_1 ⟨Nat.le_of_ble_eq_true rfl, Nat.le_of_ble_eq_true rfl⟩) hS (fun q _ h => hFc q h) hFc (fun r1 u9 t H1 locs ht hvm hr9 hB hz1 hk1 hS => ?_)
  obtain ⟨hP1, hK1, hD1⟩ := hB
  rw [ht] at hP1
  obtain ⟨hP, hD⟩ := xjoin (W := [(a0, .inr (0, [v23, v24, .ref a6, .ref a2, v25, .ref a1, v26, v27])), (a1, .inr (2, [.ref a5, v28, v29])), (a2, .inl (cT 3, 8, .inr (.inr (.inr (.inr f30))))), (a3, .inr (2, [.ref a4, .int 1, v36])), (a4, .inl (cT 2, 4096, .inr (.inl f37))), (a5, .inl (cT 2, 4096, .inr (.inl f39))), (a6, .inr (1, [.ref a7, v40, v41])), (a7, .inl (cT 0, 4096, .inl f42))]) hP hD [] [0, 1, 2, 3, 4, 5, 6, 7] 8 rfl rfl (by decide) (by decide) hk1 hFc hP1 hD1
  generalize H1 = H at hP hS ⊢
  rw [hr9]
  refine W.eq (g2 := F0 m 4 ls [.int 1]) rfl ?_
  refine lv_if_eq (tgt := 35) hx hb dB_two_4 (by decide) (fun h => ((by revert h; decide : False)).elim) (fun _ => ?_)
  refine lv_iload_n hx hb dB_two_7 rfl (lv_at hl 2 rfl) ?_
  refine lv_bipush (v := 9) hx hb dB_two_8 (by decide) ?_
  obtain ⟨hPc, hDc, hFc⟩ := xcut (wc := []) hP hD hS hA [] rfl rfl (by decide)
  refine va_calli (va_runS (As := [.int 7, .int 9]) (rest := []) ⟨hx, hb, hml, hown, htx⟩ (cB_isWithin_36 l hl9 D cT aK aV H.size) ⟨callB_of 2 htx (xw_goodC kw_1_218) rfl rfl rfl (htx _ kw_1_1) (htx _ kw_1_216) ⟨by decide, by decide, by decide +kernel⟩ ⟨Nat.le_of_ble_eq_true rfl, Nat.le_of_ble_eq_true rfl⟩, htx _ kw_1_217⟩ ⟨xPre_blind, (fun U hU hW => ⟨rfl, xPre_of hZ hS hFc hPc hDc hK U hU hW⟩)⟩ rfl rfl hl.1 rfl (lv_room (Nat.le_of_ble_eq_true rfl)) dB_two_10 ⟨Nat.le_of_ble_eq_true rfl, Nat.le_of_ble_eq_true rfl⟩) hS (fun q _ h => hFc q h) hFc (fun r2 u9 t H1 locs ht hvm hr9 hB hz1 hk1 hS => ?_)
  obtain ⟨hP1, hK1, hD1⟩ := hB
  rw [ht] at hP1
  obtain ⟨hP, hD⟩ := xjoin (W := [(a0, .inr (0, [v23, v24, .ref a6, .ref a2, v25, .ref a1, v26, v27])), (a1, .inr (2, [.ref a5, v28, v29])), (a2, .inl (cT 3, 8, .inr (.inr (.inr (.inr f30))))), (a3, .inr (2, [.ref a4, .int 1, v36])), (a4, .inl (cT 2, 4096, .inr (.inl f37))), (a5, .inl (cT 2, 4096, .inr (.inl f39))), (a6, .inr (1, [.ref a7, v40, v41])), (a7, .inl (cT 0, 4096, .inl f42))]) hP hD [] [0, 1, 2, 3, 4, 5, 6, 7] 8 rfl rfl (by decide) (by decide) hk1 hFc hP1 hD1
  generalize H1 = H at hP hS ⊢
  rw [hr9]
  refine W.eq (g2 := F0 m 13 ls [.int 1]) rfl ?_
  refine lv_if_eq (tgt := 35) hx hb dB_two_13 (by decide) (fun h => ((by revert h; decide : False)).elim) (fun _ => ?_)
  refine lv_iload_n hx hb dB_two_16 rfl (lv_at hl 3 rfl) ?_
  obtain ⟨hPc, hDc, hFc⟩ := xcut (wc := []) hP hD hS hA [] rfl rfl (by decide)
  refine va_calli (va_runS (As := [.int x13]) (rest := []) ⟨hx, hb, hml, hown, htx⟩ (cB_isRegister_0 l hl9 D cT aK aV H.size x13 h14 h15 h16 h17) ⟨callB_of 1 htx (xw_goodC kw_2_18) rfl rfl rfl (htx _ kw_1_1) (htx _ kw_2_16) ⟨by decide, by decide, by decide +kernel⟩ ⟨Nat.le_of_ble_eq_true rfl, Nat.le_of_ble_eq_true rfl⟩, htx _ kw_2_17⟩ ⟨xPre_blind, (fun U hU hW => ⟨rfl, xPre_of hZ hS hFc hPc hDc hK U hU hW⟩)⟩ rfl rfl hl.1 rfl (lv_room (Nat.le_of_ble_eq_true rfl)) dB_two_17 ⟨Nat.le_of_ble_eq_true rfl, Nat.le_of_ble_eq_true rfl⟩) hS (fun q _ h => hFc q h) hFc (fun r3 u9 t H1 locs ht hvm hr9 hB hz1 hk1 hS => ?_)
  obtain ⟨hP1, hK1, hD1⟩ := hB
  rw [ht] at hP1
  obtain ⟨hP, hD⟩ := xjoin (W := [(a0, .inr (0, [v23, v24, .ref a6, .ref a2, v25, .ref a1, v26, v27])), (a1, .inr (2, [.ref a5, v28, v29])), (a2, .inl (cT 3, 8, .inr (.inr (.inr (.inr f30))))), (a3, .inr (2, [.ref a4, .int 1, v36])), (a4, .inl (cT 2, 4096, .inr (.inl f37))), (a5, .inl (cT 2, 4096, .inr (.inl f39))), (a6, .inr (1, [.ref a7, v40, v41])), (a7, .inl (cT 0, 4096, .inl f42))]) hP hD [] [0, 1, 2, 3, 4, 5, 6, 7] 8 rfl rfl (by decide) (by decide) hk1 hFc hP1 hD1
  generalize H1 = H at hP hS ⊢
  rw [hr9]
  refine W.eq (g2 := F0 m 20 ls [.int 1]) rfl ?_
  refine lv_if_eq (tgt := 35) hx hb dB_two_20 (by decide) (fun h => ((by revert h; decide : False)).elim) (fun _ => ?_)
  refine lv_iload hx hb dB_two_23 (lv_at hl 4 rfl) ?_
  obtain ⟨hPc, hDc, hFc⟩ := xcut (wc := []) hP hD hS hA [] rfl rfl (by decide)
  refine va_calli (va_runS (As := [.int x18]) (rest := []) ⟨hx, hb, hml, hown, htx⟩ (cB_isRegister_0 l hl9 D cT aK aV H.size x18 h19 h20 h21 h22) ⟨callB_of 1 htx (xw_goodC kw_2_18) rfl rfl rfl (htx _ kw_1_1) (htx _ kw_2_16) ⟨by decide, by decide, by decide +kernel⟩ ⟨Nat.le_of_ble_eq_true rfl, Nat.le_of_ble_eq_true rfl⟩, htx _ kw_2_17⟩ ⟨xPre_blind, (fun U hU hW => ⟨rfl, xPre_of hZ hS hFc hPc hDc hK U hU hW⟩)⟩ rfl rfl hl.1 rfl (lv_room (Nat.le_of_ble_eq_true rfl)) dB_two_25 ⟨Nat.le_of_ble_eq_true rfl, Nat.le_of_ble_eq_true rfl⟩) hS (fun q _ h => hFc q h) hFc (fun r4 u9 t H1 locs ht hvm hr9 hB hz1 hk1 hS => ?_)
  obtain ⟨hP1, hK1, hD1⟩ := hB
  rw [ht] at hP1
  obtain ⟨hP, hD⟩ := xjoin (W := [(a0, .inr (0, [v23, v24, .ref a6, .ref a2, v25, .ref a1, v26, v27])), (a1, .inr (2, [.ref a5, v28, v29])), (a2, .inl (cT 3, 8, .inr (.inr (.inr (.inr f30))))), (a3, .inr (2, [.ref a4, .int 1, v36])), (a4, .inl (cT 2, 4096, .inr (.inl f37))), (a5, .inl (cT 2, 4096, .inr (.inl f39))), (a6, .inr (1, [.ref a7, v40, v41])), (a7, .inl (cT 0, 4096, .inl f42))]) hP hD [] [0, 1, 2, 3, 4, 5, 6, 7] 8 rfl rfl (by decide) (by decide) hk1 hFc hP1 hD1
  generalize H1 = H at hP hS ⊢
  rw [hr9]
  refine W.eq (g2 := F0 m 28 ls [.int 1]) rfl ?_
  refine lv_if_eq (tgt := 35) hx hb dB_two_28 (by decide) (fun h => ((by revert h; decide : False)).elim) (fun _ => ?_)
  refine lv_iconst (v := 1) hx hb dB_two_31 (by decide) ?_
  refine lv_goto (tgt := 36) hx hb dB_two_32 (by decide) ?_
  obtain ⟨hPc, hDc, hFc⟩ := xcut (wc := []) hP hD hS hA [] rfl rfl (by decide)
  refine va_callv (va_runS (As := [.int 1]) (rest := []) ⟨hx, hb, hml, hown, htx⟩ (cB_demand_0 l hl9 D cT aK aV H.size) ⟨callB_of 1 htx (xw_goodC kw_1_221) rfl rfl rfl (htx _ kw_1_1) (htx _ kw_1_219) ⟨by decide, by decide, by decide +kernel⟩ ⟨Nat.le_of_ble_eq_true rfl, Nat.le_of_ble_eq_true rfl⟩, htx _ kw_1_220⟩ ⟨xPre_blind, (fun U hU hW => ⟨rfl, xPre_of hZ hS hFc hPc hDc hK U hU hW⟩)⟩ rfl rfl hl.1 rfl (lv_room (Nat.le_of_ble_eq_true rfl)) dB_two_36 ⟨Nat.le_of_ble_eq_true rfl, Nat.le_of_ble_eq_true rfl⟩) hS (fun q _ h => hFc q h) hFc (fun u9 t H1 locs ht hvm hr9 hB hz1 hk1 hS => ?_)
  obtain ⟨hP1, hK1, hD1⟩ := hB
  rw [ht] at hP1
  obtain ⟨hP, hD⟩ := xjoin (W := [(a0, .inr (0, [v23, v24, .ref a6, .ref a2, v25, .ref a1, v26, v27])), (a1, .inr (2, [.ref a5, v28, v29])), (a2, .inl (cT 3, 8, .inr (.inr (.inr (.inr f30))))), (a3, .inr (2, [.ref a4, .int 1, v36])), (a4, .inl (cT 2, 4096, .inr (.inl f37))), (a5, .inl (cT 2, 4096, .inr (.inl f39))), (a6, .inr (1, [.ref a7, v40, v41])), (a7, .inl (cT 0, 4096, .inl f42))]) hP hD [] [0, 1, 2, 3, 4, 5, 6, 7] 8 rfl rfl (by decide) (by decide) hk1 hFc hP1 hD1
  generalize H1 = H at hP hS ⊢
  refine lv_aload_n hx hb dB_two_39 rfl (lv_at hl 0 rfl) ?_
  refine va_get (D := D) (ci := 0) (v := .ref a1) (C := "ValueBench") (T := TB) (N := 8) hx hb htx inB hown hK hP 0 rfl rfl 5 (by decide) (htx _ kw_1_100) (fun _ h9 => h9) rfl dB_two_40 ?_
  obtain ⟨hPc, hDc, hFc⟩ := xcut (wc := [(a1, .inr (2, [.ref a5, v28, v29]))]) hP hD hS hA [1] rfl rfl (by decide)
  refine va_callv (va_runV (C := "ValueBench$Row") (As := []) (rest := []) ⟨hx, hb, hml, hown, htx⟩ (cR_clear_0 l hl9 D cT aK aV H.size a1 (.ref a5) v28 v29) ⟨callB_of 0 htx (xw_goodC kw_2_22) rfl rfl rfl (htx _ kw_1_4) (htx _ kw_2_19) ⟨by decide, by decide, by decide +kernel⟩ ⟨Nat.le_of_ble_eq_true rfl, Nat.le_of_ble_eq_true rfl⟩, (htx _ kw_2_20), (htx _ kw_2_21)⟩ ⟨xPre_blind, va_recv hK hP (ci := 2) rfl (q0 := 1) rfl, (fun U hU hW => ⟨rfl, xPre_of hZ hS hFc hPc hDc hK U hU hW⟩)⟩ rfl rfl hl.1 rfl (lv_room (Nat.le_of_ble_eq_true rfl)) dB_two_43 ⟨Nat.le_of_ble_eq_true rfl, Nat.le_of_ble_eq_true rfl⟩) hS (fun q _ h => hFc q h) hFc (fun u9 t H1 locs ht hvm hr9 hB hz1 hk1 hS => ?_)
  obtain ⟨hP1, hK1, hD1⟩ := hB
  rw [ht] at hP1
  obtain ⟨hP, hD⟩ := xjoin (W := [(a0, .inr (0, [v23, v24, .ref a6, .ref a2, v25, .ref a1, v26, v27])), (a2, .inl (cT 3, 8, .inr (.inr (.inr (.inr f30))))), (a3, .inr (2, [.ref a4, .int 1, v36])), (a4, .inl (cT 2, 4096, .inr (.inl f37))), (a5, .inl (cT 2, 4096, .inr (.inl f39))), (a6, .inr (1, [.ref a7, v40, v41])), (a7, .inl (cT 0, 4096, .inl f42)), (a1, .inr (2, [.ref a5, .int 0, .int 0]))]) hP hD [1] [0, 2, 3, 4, 5, 6, 7] 7 rfl rfl (by decide) (by decide) hk1 hFc hP1 hD1
  generalize H1 = H at hP hS ⊢
  refine lv_aload_n hx hb dB_two_46 rfl (lv_at hl 0 rfl) ?_
  refine lv_iload_n hx hb dB_two_47 rfl (lv_at hl 2 rfl) ?_
  refine lv_aload_n hx hb dB_two_48 rfl (lv_at hl 0 rfl) ?_
  refine va_get (D := D) (ci := 0) (v := .ref a2) (C := "ValueBench") (T := TB) (N := 8) hx hb htx inB hown hK hP 0 rfl rfl 3 (by decide) (htx _ kw_1_98) (fun _ h9 => h9) rfl dB_two_49 ?_
  refine lv_iload_n hx hb dB_two_52 rfl (lv_at hl 3 rfl) ?_
  refine va_aldq hx hb hK hP 1 3 rfl rfl h17 dB_two_53 ?_
  refine W.eq (g2 := F0 m 54 ls [va_rf (f30 x13.toNatClampNeg), .int 7, .ref a0]) rfl ?_
  rw [h31]
  refine W.eq (g2 := F0 m 54 ls [.ref a3, .int 7, .ref a0]) rfl ?_
  refine lv_aload_n hx hb dB_two_54 rfl (lv_at hl 0 rfl) ?_
  refine va_get (D := D) (ci := 0) (v := .ref a2) (C := "ValueBench") (T := TB) (N := 8) hx hb htx inB hown hK hP 0 rfl rfl 3 (by decide) (htx _ kw_1_98) (fun _ h9 => h9) rfl dB_two_55 ?_
  refine lv_iload hx hb dB_two_58 (lv_at hl 4 rfl) ?_
  refine va_aldq hx hb hK hP 1 3 rfl rfl h22 dB_two_60 ?_
  refine W.eq (g2 := F0 m 61 ls [va_rf (f30 x18.toNatClampNeg), .ref a3, .int 7, .ref a0]) rfl ?_
  rw [h33]
  refine W.eq (g2 := F0 m 61 ls [.ref b32, .ref a3, .int 7, .ref a0]) rfl ?_
  refine lv_aload_n hx hb dB_two_61 rfl (lv_at hl 0 rfl) ?_
  refine va_get (D := D) (ci := 0) (v := .ref a6) (C := "ValueBench") (T := TB) (N := 8) hx hb htx inB hown hK hP 0 rfl rfl 2 (by decide) (htx _ kw_1_97) (fun _ h9 => h9) rfl dB_two_62 ?_
  refine lv_aload_n hx hb dB_two_65 rfl (lv_at hl 0 rfl) ?_
  refine va_get (D := D) (ci := 0) (v := .ref a1) (C := "ValueBench") (T := TB) (N := 8) hx hb htx inB hown hK hP 0 rfl rfl 5 (by decide) (htx _ kw_1_100) (fun _ h9 => h9) rfl dB_two_66 ?_
  obtain ⟨hPc, hDc, hFc⟩ := xcut (wc := [(a3, .inr (2, [.ref a4, .int 1, v36])), (a4, .inl (cT 2, 4096, .inr (.inl f37))), (a1, .inr (2, [.ref a5, .int 0, .int 0])), (a5, .inl (cT 2, 4096, .inr (.inl f39)))]) hP hD hS hA [2, 3, 7, 4] rfl rfl (by decide)
  refine va_calli (va_runS (As := [.int 7, .ref a3, .ref b32, .ref a6, .ref a1]) (rest := [.ref a0]) ⟨hx, hb, hml, hown, htx⟩ (cH_apply_14 l hl9 D cT aK aV H.size a3 a4 a1 a5 b32 a6 v36 f37 f39 (by first | rfl | exact h31 | exact h33 | exact h35 | exact h38)) ⟨callB_of 5 htx (xw_goodC kw_4_146) rfl rfl rfl (htx _ kw_1_27) (htx _ kw_4_144) ⟨by decide, by decide, by decide +kernel⟩ ⟨Nat.le_of_ble_eq_true rfl, Nat.le_of_ble_eq_true rfl⟩, htx _ kw_4_145⟩ ⟨xPre_blind, (fun U hU hW => ⟨rfl, xPre_of hZ hS hFc hPc hDc hK U hU hW⟩)⟩ rfl rfl hl.1 rfl (lv_room (Nat.le_of_ble_eq_true rfl)) dB_two_69 ⟨Nat.le_of_ble_eq_true rfl, Nat.le_of_ble_eq_true rfl⟩) hS (fun q _ h => hFc q h) hFc (fun r5 u9 t H1 locs ht hvm hr9 hB hz1 hk1 hS => ?_)
  obtain ⟨hP1, hK1, hD1⟩ := hB
  rw [ht] at hP1
  obtain ⟨hP, hD⟩ := xjoin (W := [(a0, .inr (0, [v23, v24, .ref a6, .ref a2, v25, .ref a1, v26, v27])), (a2, .inl (cT 3, 8, .inr (.inr (.inr (.inr f30))))), (a6, .inr (1, [.ref a7, v40, v41])), (a7, .inl (cT 0, 4096, .inl f42)), (a3, .inr (2, [.ref a4, .int 1, v36])), (a4, .inl (cT 2, 4096, .inr (.inl f37))), (a1, .inr (2, [.ref a5, .int 1, .int 0])), (a5, .inl (cT 2, 4096, .inr (.inl (vp_updL f39 0 0))))]) hP hD [2, 3, 7, 4] [0, 1, 5, 6] 4 rfl rfl (by decide) (by decide) hk1 hFc hP1 hD1
  generalize H1 = H at hP hS ⊢
  rw [hr9]
  refine W.eq (g2 := F0 m 72 ls [.int 0, .ref a0]) rfl ?_
  obtain ⟨hPc, hDc, hFc⟩ := xcut (wc := []) hP hD hS hA [] rfl rfl (by decide)
  refine va_callv (va_runV (C := "ValueBench") (As := [.int 0]) (rest := []) ⟨hx, hb, hml, hown, htx⟩ (cB_demandDone_0 l hl9 D cT aK aV H.size a0) ⟨callB_of 1 htx (xw_goodC kw_3_222) rfl rfl rfl (htx _ kw_1_1) (htx _ kw_3_219) ⟨by decide, by decide, by decide +kernel⟩ ⟨Nat.le_of_ble_eq_true rfl, Nat.le_of_ble_eq_true rfl⟩, (htx _ kw_3_221), (htx _ kp_B_demandDone)⟩ ⟨xPre_blind, va_recv hK hP (ci := 0) rfl (q0 := 0) rfl, (fun U hU hW => ⟨rfl, xPre_of hZ hS hFc hPc hDc hK U hU hW⟩)⟩ rfl rfl hl.1 rfl (lv_room (Nat.le_of_ble_eq_true rfl)) dB_two_72 ⟨Nat.le_of_ble_eq_true rfl, Nat.le_of_ble_eq_true rfl⟩) hS (fun q _ h => hFc q h) hFc (fun u9 t H1 locs ht hvm hr9 hB hz1 hk1 hS => ?_)
  obtain ⟨hP1, hK1, hD1⟩ := hB
  rw [ht] at hP1
  obtain ⟨hP, hD⟩ := xjoin (W := [(a0, .inr (0, [v23, v24, .ref a6, .ref a2, v25, .ref a1, v26, v27])), (a2, .inl (cT 3, 8, .inr (.inr (.inr (.inr f30))))), (a6, .inr (1, [.ref a7, v40, v41])), (a7, .inl (cT 0, 4096, .inl f42)), (a3, .inr (2, [.ref a4, .int 1, v36])), (a4, .inl (cT 2, 4096, .inr (.inl f37))), (a1, .inr (2, [.ref a5, .int 1, .int 0])), (a5, .inl (cT 2, 4096, .inr (.inl (vp_updL f39 0 0))))]) hP hD [] [0, 1, 2, 3, 4, 5, 6, 7] 8 rfl rfl (by decide) (by decide) hk1 hFc hP1 hD1
  generalize H1 = H at hP hS ⊢
  refine lv_aload_n hx hb dB_two_75 rfl (lv_at hl 0 rfl) ?_
  refine lv_iload_n hx hb dB_two_76 rfl (lv_at hl 1 rfl) ?_
  obtain ⟨hPc, hDc, hFc⟩ := xcut (wc := [(a0, .inr (0, [v23, v24, .ref a6, .ref a2, v25, .ref a1, v26, v27])), (a6, .inr (1, [.ref a7, v40, v41])), (a1, .inr (2, [.ref a5, .int 1, .int 0])), (a5, .inl (cT 2, 4096, .inr (.inl (vp_updL f39 0 0)))), (a7, .inl (cT 0, 4096, .inl f42)), (a2, .inl (cT 3, 8, .inr (.inr (.inr (.inr f30)))))]) hP hD hS hA [0, 2, 6, 7, 3, 1] rfl rfl (by decide)
  refine va_calli (va_runV (C := "ValueBench") (As := [.int x8]) (rest := []) ⟨hx, hb, hml, hown, htx⟩ (cB_keepSpare_4 l hl9 D cT aK aV H.size a0 a6 a1 a5 a7 a2 x8 v23 v24 v25 v26 v27 v40 v41 (vp_updL f39 0 0) f42 f30 b34 h9 h10 h11 h12 (by first | rfl | exact h31 | exact h33 | exact h35 | exact h38) (by first | rfl | exact h31 | exact h33 | exact h35 | exact h38)) ⟨callB_of 1 htx (xw_goodC kw_3_17) rfl rfl rfl (htx _ kw_1_1) (htx _ kw_3_14) ⟨by decide, by decide, by decide +kernel⟩ ⟨Nat.le_of_ble_eq_true rfl, Nat.le_of_ble_eq_true rfl⟩, (htx _ kw_3_16), (htx _ kp_B_keepSpare)⟩ ⟨xPre_blind, va_recv hK hP (ci := 0) rfl (q0 := 0) rfl, (fun U hU hW => ⟨rfl, xPre_of hZ hS hFc hPc hDc hK U hU hW⟩)⟩ rfl rfl hl.1 rfl (lv_room (Nat.le_of_ble_eq_true rfl)) dB_two_77 ⟨Nat.le_of_ble_eq_true rfl, Nat.le_of_ble_eq_true rfl⟩) hS (fun q _ h => hFc q h) hFc (fun r6 u9 t H1 locs ht hvm hr9 hB hz1 hk1 hS => ?_)
  obtain ⟨y7, y8, y9, y10, hP1, hK1, hD1⟩ := hB
  rw [ht] at hP1
  obtain ⟨hP, hD⟩ := xjoin (W := [(a3, .inr (2, [.ref a4, .int 1, v36])), (a4, .inl (cT 2, 4096, .inr (.inl f37))), (a0, .inr (0, [v23, v24, .ref a6, .ref a2, v25, .ref b34, v26, v27])), (a6, .inr (1, [.ref a7, .int 4, .int 0])), (a1, .inr (2, [.ref a5, .int 1, .int 0])), (a5, .inl (cT 2, 4096, .inr (.inl (vp_updL f39 0 0)))), (a7, .inl (cT 0, 4096, .inl (upd (upd (upd (upd f42 0 (vp_nar .byte y7)) 1 (vp_nar .byte y8)) 2 (vp_nar .byte y9)) 3 (vp_nar .byte y10)))), (a2, .inl (cT 3, 8, .inr (.inr (.inr (.inr (va_up f30 x8.toNatClampNeg (some a1)))))))]) hP hD [0, 2, 6, 7, 3, 1] [4, 5] 2 rfl rfl (by decide) (by decide) hk1 hFc hP1 hD1
  generalize H1 = H at hP hS ⊢
  rw [hr9]
  refine W.eq (g2 := F0 m 80 ls [.int 4]) rfl ?_
  refine lv_pop hx hb dB_two_80 rfl ?_
  obtain ⟨hP9, hD9⟩ := xsub (wc := [(a0, .inr (0, [v23, v24, .ref a6, .ref a2, v25, .ref b34, v26, v27])), (a1, .inr (2, [.ref a5, .int 1, .int 0])), (a2, .inl (cT 3, 8, .inr (.inr (.inr (.inr (va_up f30 x8.toNatClampNeg (some a1))))))), (a3, .inr (2, [.ref a4, .int 1, v36])), (a4, .inl (cT 2, 4096, .inr (.inl f37))), (a5, .inl (cT 2, 4096, .inr (.inl (vp_updL f39 0 0)))), (a6, .inr (1, [.ref a7, .int 4, .int 0])), (a7, .inl (cT 0, 4096, .inl (upd (upd (upd (upd f42 0 (vp_nar .byte y7)) 1 (vp_nar .byte y8)) 2 (vp_nar .byte y9)) 3 (vp_nar .byte y10))))]) hP hD [2, 4, 7, 0, 1, 5, 3, 6] rfl rfl (by decide)
  refine W.widen (k := 0) (n := 0) (Nat.le_of_ble_eq_true rfl) (Nat.le_of_ble_eq_true rfl) ?_
  exact W.vret hx hb hr (fun t ht hW => ⟨⟨(), rfl, trivial, y7, y8, y9, y10, by rw [ht]; exact hP9, va_K.moved hW.alike hK, hD9⟩, hS.F ht⟩) hS.2.2 dB_two_81
set_option maxHeartbeats 400000000 in
set_option maxRecDepth 100000 in
theorem cL_two_14 (l : Launch) (hl9 : l.stackTraces = false) (D : va_G) (cT : Nat → ClassId) (aK aV : Nat → Nat) (sz : Nat) (a0 : Nat) (a1 : Nat) (a2 : Nat) (a3 : Nat) (a4 : Nat) (a5 : Nat) (a6 : Nat) (a7 : Nat) (x8 : Int32) (x13 : Int32) (x18 : Int32) (v23 : Value) (v24 : Value) (v25 : Value) (v26 : Value) (v27 : Value) (v28 : Value) (v29 : Value) (f30 : Nat → Option Nat) (b32 : Nat) (b34 : Nat) (v36 : Value) (f37 : Nat → Int64) (f39 : Nat → Int64) (v40 : Value) (v41 : Value) (f42 : Nat → Int32) (h9 : ¬ x8 < 0) (h10 : ¬ 7 < x8) (h11 : x8 ≤ 7) (h12 : vp_in x8 8) (h14 : ¬ x13 < 0) (h15 : ¬ 7 < x13) (h16 : x13 ≤ 7) (h17 : vp_in x13 8) (h19 : ¬ x18 < 0) (h20 : ¬ 7 < x18) (h21 : x18 ≤ 7) (h22 : vp_in x18 8) (h31 : f30 x13.toNatClampNeg = some a3) (h33 : f30 x18.toNatClampNeg = some b32) (h35 : f30 x8.toNatClampNeg = some b34) (h38 : f37 0 = 0) : xMet l yL_two wyL_two 8 0 0 176 D cT aK aV sz [.ref a0, .int x8, .int 7, .int x13, .int x18] [(a0, .inr (0, [v23, v24, .ref a6, .ref a2, v25, .ref a1, v26, v27])), (a1, .inr (2, [.ref a5, v28, v29])), (a2, .inl (cT 3, 8, .inr (.inr (.inr (.inr f30))))), (a3, .inr (2, [.ref a4, .int 1, v36])), (a4, .inl (cT 2, 4096, .inr (.inl f37))), (a5, .inl (cT 2, 4096, .inr (.inl f39))), (a6, .inr (1, [.ref a7, v40, v41])), (a7, .inl (cT 0, 4096, .inl f42))] (fun A => va_Qi (fun (r : Int32) (_ : Unit) => r = 0) (fun _ t => ∃ (y1 : Int32) (y2 : Int32) (y3 : Int32) (y4 : Int32), xB D xcl cT A [(a0, .inr (0, [v23, v24, .ref a6, .ref a2, v25, .ref a1, v26, v27])), (a1, .inr (2, [.ref a5, .int 1, .int 0])), (a2, .inl (cT 3, 8, .inr (.inr (.inr (.inr (va_up f30 x8.toNatClampNeg (some a1))))))), (a3, .inr (2, [.ref a4, .int 1, v36])), (a4, .inl (cT 2, 4096, .inr (.inl f37))), (a5, .inl (cT 2, 4096, .inr (.inl (vp_updL f39 0 0)))), (a6, .inr (1, [.ref a7, .int 4, .int 0])), (a7, .inl (cT 0, 4096, .inl (upd (upd (upd (upd f42 0 (vp_nar .byte y1)) 1 (vp_nar .byte y2)) 2 (vp_nar .byte y3)) 3 (vp_nar .byte y4))))] t) A) := by
  refine va_MetW (cc := method_11_code) (maxL := 6) (ret := (some .int)) (hh := [(0, 9, 12, 19), (0, 9, 16, 33), (0, 9, 20, 13)]) (by decide) rfl ?_
  intro p e s m args below meth c s₁ B hml hv
  obtain ⟨rfl, hsz, hZ, hP, hK, hD0⟩ := hv
  have hx := B.exec
  have hb := B.bytes
  have hr := B.returns
  have hts := atoms_spec (ws := wyL_two) B.pre
  have htx := fun w h => hts w (List.mem_cons_of_mem _ h)
  have hown : s.vm.findClass "ValueBenchLaw" = some m.cls := findClass_of_methodNamed B.named
  have hlocks := B.notSynchronized
  subst hsz
  have hD := hD0.self (sz := s.heap.size)
  generalize hAe : va_A [(a0, .inr (0, [v23, v24, .ref a6, .ref a2, v25, .ref a1, v26, v27])), (a1, .inr (2, [.ref a5, v28, v29])), (a2, .inl (cT 3, 8, .inr (.inr (.inr (.inr f30))))), (a3, .inr (2, [.ref a4, .int 1, v36])), (a4, .inl (cT 2, 4096, .inr (.inl f37))), (a5, .inl (cT 2, 4096, .inr (.inl f39))), (a6, .inr (1, [.ref a7, v40, v41])), (a7, .inl (cT 0, 4096, .inl f42))] s.heap.size = A at hD hZ ⊢
  have hA : ∀ q : Nat, s.heap.size ≤ q → A q := fun q h => by rw [← hAe]; exact Or.inr h
  have hS : va_S A s.heap s.heap [] := va_S.rf
  have hP : va_P D xcl [(a0, .inr (0, [v23, v24, .ref a6, .ref a2, v25, .ref a1, v26, v27])), (a1, .inr (2, [.ref a5, v28, v29])), (a2, .inl (cT 3, 8, .inr (.inr (.inr (.inr f30))))), (a3, .inr (2, [.ref a4, .int 1, v36])), (a4, .inl (cT 2, 4096, .inr (.inl f37))), (a5, .inl (cT 2, 4096, .inr (.inl f39))), (a6, .inr (1, [.ref a7, v40, v41])), (a7, .inl (cT 0, 4096, .inl f42))] s.heap := hP
  have hl := lv_entry ([.ref a0, .int x8, .int 7, .int x13, .int x18]) (n := 6) (Nat.le_of_ble_eq_true rfl)
  rw [lg_entry_eq]
  generalize (lg_sl ([.ref a0, .int x8, .int 7, .int x13, .int x18]) ++ List.replicate (6 - (lg_sl ([.ref a0, .int x8, .int 7, .int x13, .int x18])).length) Slot.unset).toArray = ls at hl ⊢
  have hl : lv_has ls 6 [(0, .ref a0), (1, .int x8), (2, .int 7), (3, .int x13), (4, .int x18)] := hl
  have htab := vx_table (x := yL_two) B (hts _ List.mem_cons_self)
  refine lv_aload_n hx hb dL_two_0 rfl (lv_at hl 0 rfl) ?_
  refine lv_iload_n hx hb dL_two_1 rfl (lv_at hl 1 rfl) ?_
  refine lv_iload_n hx hb dL_two_2 rfl (lv_at hl 2 rfl) ?_
  refine lv_iload_n hx hb dL_two_3 rfl (lv_at hl 3 rfl) ?_
  refine lv_iload hx hb dL_two_4 (lv_at hl 4 rfl) ?_
  obtain ⟨hPc, hDc, hFc⟩ := xcut (wc := [(a0, .inr (0, [v23, v24, .ref a6, .ref a2, v25, .ref a1, v26, v27])), (a1, .inr (2, [.ref a5, v28, v29])), (a2, .inl (cT 3, 8, .inr (.inr (.inr (.inr f30))))), (a3, .inr (2, [.ref a4, .int 1, v36])), (a4, .inl (cT 2, 4096, .inr (.inl f37))), (a5, .inl (cT 2, 4096, .inr (.inl f39))), (a6, .inr (1, [.ref a7, v40, v41])), (a7, .inl (cT 0, 4096, .inl f42))]) hP hD hS hA [0, 1, 2, 3, 4, 5, 6, 7] rfl rfl (by decide)
  refine va_callv (va_runV (C := "ValueBench") (As := [.int x8, .int 7, .int x13, .int x18]) (rest := []) ⟨hx, hb, hml, hown, htx⟩ (cB_two_14 l hl9 D cT aK aV s.heap.size a0 a1 a2 a3 a4 a5 a6 a7 x8 x13 x18 v23 v24 v25 v26 v27 v28 v29 f30 b32 b34 v36 f37 f39 v40 v41 f42 h9 h10 h11 h12 h14 h15 h16 h17 h19 h20 h21 h22 (by first | rfl | exact h31 | exact h33 | exact h35 | exact h38) (by first | rfl | exact h31 | exact h33 | exact h35 | exact h38) (by first | rfl | exact h31 | exact h33 | exact h35 | exact h38) (by first | rfl | exact h31 | exact h33 | exact h35 | exact h38)) ⟨callB_of 4 htx (xw_goodC kw_4_143) rfl rfl rfl (htx _ kw_1_1) (htx _ kw_4_140) ⟨by decide, by decide, by decide +kernel⟩ ⟨Nat.le_of_ble_eq_true rfl, Nat.le_of_ble_eq_true rfl⟩, (htx _ kw_4_141), (htx _ kw_4_142)⟩ ⟨xPre_blind, va_recv hK hP (ci := 0) rfl (q0 := 0) rfl, (fun U hU hW => ⟨rfl, xPre_of hZ hS hFc hPc hDc hK U hU hW⟩)⟩ rfl rfl hl.1 rfl (lv_room (Nat.le_of_ble_eq_true rfl)) dL_two_6 ⟨Nat.le_of_ble_eq_true rfl, Nat.le_of_ble_eq_true rfl⟩) hS (fun q _ h => hFc q h) hFc (fun u9 t H1 locs ht hvm hr9 hB hz1 hk1 hS => ?_)
  obtain ⟨y1, y2, y3, y4, hP1, hK1, hD1⟩ := hB
  rw [ht] at hP1
  obtain ⟨hP, hD⟩ := xjoin (W := [(a0, .inr (0, [v23, v24, .ref a6, .ref a2, v25, .ref a1, v26, v27])), (a1, .inr (2, [.ref a5, .int 1, .int 0])), (a2, .inl (cT 3, 8, .inr (.inr (.inr (.inr (va_up f30 x8.toNatClampNeg (some a1))))))), (a3, .inr (2, [.ref a4, .int 1, v36])), (a4, .inl (cT 2, 4096, .inr (.inl f37))), (a5, .inl (cT 2, 4096, .inr (.inl (vp_updL f39 0 0)))), (a6, .inr (1, [.ref a7, .int 4, .int 0])), (a7, .inl (cT 0, 4096, .inl (upd (upd (upd (upd f42 0 (vp_nar .byte y1)) 1 (vp_nar .byte y2)) 2 (vp_nar .byte y3)) 3 (vp_nar .byte y4))))]) hP hD [0, 1, 2, 3, 4, 5, 6, 7] [] 0 rfl rfl (by decide) (by decide) hk1 hFc hP1 hD1
  generalize H1 = H at hP hS ⊢
  refine lv_goto (tgt := 24) hx hb dL_two_9 (by decide) ?_
  refine lv_iconst (v := 0) hx hb dL_two_24 (by decide) ?_
  obtain ⟨hP9, hD9⟩ := xsub (wc := [(a0, .inr (0, [v23, v24, .ref a6, .ref a2, v25, .ref a1, v26, v27])), (a1, .inr (2, [.ref a5, .int 1, .int 0])), (a2, .inl (cT 3, 8, .inr (.inr (.inr (.inr (va_up f30 x8.toNatClampNeg (some a1))))))), (a3, .inr (2, [.ref a4, .int 1, v36])), (a4, .inl (cT 2, 4096, .inr (.inl f37))), (a5, .inl (cT 2, 4096, .inr (.inl (vp_updL f39 0 0)))), (a6, .inr (1, [.ref a7, .int 4, .int 0])), (a7, .inl (cT 0, 4096, .inl (upd (upd (upd (upd f42 0 (vp_nar .byte y1)) 1 (vp_nar .byte y2)) 2 (vp_nar .byte y3)) 3 (vp_nar .byte y4))))]) hP hD [0, 1, 2, 3, 4, 5, 6, 7] rfl rfl (by decide)
  refine W.widen (k := 0) (n := 0) (Nat.le_of_ble_eq_true rfl) (Nat.le_of_ble_eq_true rfl) ?_
  exact W.iret (v := 0) hx hb hr (fun t ht hW => ⟨⟨0, (), rfl, rfl, y1, y2, y3, y4, by rw [ht]; exact hP9, va_K.moved hW.alike hK, hD9⟩, hS.F ht⟩) hS.2.2 dL_two_25
set_option maxHeartbeats 400000000 in
set_option maxRecDepth 100000 in
theorem cH_indices_1 (l : Launch) (hl9 : l.stackTraces = false) (D : va_G) (cT : Nat → ClassId) (aK aV : Nat → Nat) (sz : Nat) (a0 : Nat) (a1 : Nat) (a2 : Nat) (a3 : Nat) (v4 : Value) (f5 : Nat → Int64) (f7 : Nat → Int64) (h6 : f5 0 = 0) : xMet l yH_indices wyH_indices 3 0 0 62 D cT aK aV sz [.ref a0, .ref a0, .ref a2] [(a0, .inr (2, [.ref a1, .int 1, v4])), (a1, .inl (cT 2, 4096, .inr (.inl f5))), (a2, .inr (2, [.ref a3, .int 0, .int 0])), (a3, .inl (cT 2, 4096, .inr (.inl f7)))] (fun A => va_Qi (fun (r : Int32) (_ : Unit) => r = 0) (fun _ t => xB D xcl cT A [(a0, .inr (2, [.ref a1, .int 1, v4])), (a1, .inl (cT 2, 4096, .inr (.inl f5))), (a2, .inr (2, [.ref a3, .int 1, .int 0])), (a3, .inl (cT 2, 4096, .inr (.inl (vp_updL f7 0 0))))] t) A) := by
  refine Met.ofW (cc := prog_5_method_22_code) (maxL := 6) (ret := (some .int)) (by decide) rfl ?_
  intro p e s m args below meth c s₁ B hml hv
  obtain ⟨rfl, hsz, hZ, hP, hK, hD0⟩ := hv
  have hx := B.exec
  have hb := B.bytes
  have hr := B.returns
  have hts := atoms_spec (ws := wyH_indices) B.pre
  have htx := fun w h => hts w (List.mem_cons_of_mem _ h)
  have hown : s.vm.findClass "ValueBench$Pairs" = some m.cls := findClass_of_methodNamed B.named
  have hlocks := B.notSynchronized
  subst hsz
  have hD := hD0.self (sz := s.heap.size)
  generalize hAe : va_A [(a0, .inr (2, [.ref a1, .int 1, v4])), (a1, .inl (cT 2, 4096, .inr (.inl f5))), (a2, .inr (2, [.ref a3, .int 0, .int 0])), (a3, .inl (cT 2, 4096, .inr (.inl f7)))] s.heap.size = A at hD hZ ⊢
  have hA : ∀ q : Nat, s.heap.size ≤ q → A q := fun q h => by rw [← hAe]; exact Or.inr h
  have hS : va_S A s.heap s.heap [] := va_S.rf
  have hP : va_P D xcl [(a0, .inr (2, [.ref a1, .int 1, v4])), (a1, .inl (cT 2, 4096, .inr (.inl f5))), (a2, .inr (2, [.ref a3, .int 0, .int 0])), (a3, .inl (cT 2, 4096, .inr (.inl f7)))] s.heap := hP
  have hl := lv_entry ([.ref a0, .ref a0, .ref a2]) (n := 6) (Nat.le_of_ble_eq_true rfl)
  rw [lg_entry_eq]
  generalize (lg_sl ([.ref a0, .ref a0, .ref a2]) ++ List.replicate (6 - (lg_sl ([.ref a0, .ref a0, .ref a2])).length) Slot.unset).toArray = ls at hl ⊢
  have hl : lv_has ls 6 [(0, .ref a0), (1, .ref a0), (2, .ref a2)] := hl
  refine lv_aload_n hx hb dH_indices_0 rfl (lv_at hl 0 rfl) ?_
  refine lv_iconst (v := 0) hx hb dH_indices_1 (by decide) ?_
  refine lv_iconst (v := 0) hx hb dH_indices_2 (by decide) ?_
  obtain ⟨hPc, hDc, hFc⟩ := xcut (wc := [(a0, .inr (2, [.ref a1, .int 1, v4])), (a1, .inl (cT 2, 4096, .inr (.inl f5)))]) hP hD hS hA [0, 1] rfl rfl (by decide)
  refine va_calli (va_runV (C := "ValueBench$Row") (As := [.int 0, .int 0]) (rest := []) ⟨hx, hb, hml, hown, htx⟩ (cR_is_0 l hl9 D cT aK aV s.heap.size a0 a1 v4 f5 (by first | rfl | exact h6)) ⟨callB_of 2 htx (xw_goodC kw_3_75) rfl rfl rfl (htx _ kw_1_4) (htx _ kw_4_150) ⟨by decide, by decide, by decide +kernel⟩ ⟨Nat.le_of_ble_eq_true rfl, Nat.le_of_ble_eq_true rfl⟩, (htx _ kw_3_73), (htx _ kw_3_74)⟩ ⟨xPre_blind, va_recv hK hP (ci := 2) rfl (q0 := 0) rfl, (fun U hU hW => ⟨rfl, xPre_of hZ hS hFc hPc hDc hK U hU hW⟩)⟩ rfl rfl hl.1 rfl (lv_room (Nat.le_of_ble_eq_true rfl)) dH_indices_3 ⟨Nat.le_of_ble_eq_true rfl, Nat.le_of_ble_eq_true rfl⟩) hS (fun q _ h => hFc q h) hFc (fun r1 u9 t H1 locs ht hvm hr9 hB hz1 hk1 hS => ?_)
  obtain ⟨hP1, hK1, hD1⟩ := hB
  rw [ht] at hP1
  obtain ⟨hP, hD⟩ := xjoin (W := [(a2, .inr (2, [.ref a3, .int 0, .int 0])), (a3, .inl (cT 2, 4096, .inr (.inl f7))), (a0, .inr (2, [.ref a1, .int 1, v4])), (a1, .inl (cT 2, 4096, .inr (.inl f5)))]) hP hD [0, 1] [2, 3] 2 rfl rfl (by decide) (by decide) hk1 hFc hP1 hD1
  generalize H1 = H at hP hS ⊢
  rw [hr9]
  refine W.eq (g2 := F0 m 6 ls [.int 1]) rfl ?_
  refine lv_if_eq (tgt := 14) hx hb dH_indices_6 (by decide) (fun h => ((by revert h; decide : False)).elim) (fun _ => ?_)
  refine lv_aload_n hx hb dH_indices_9 rfl (lv_at hl 2 rfl) ?_
  obtain ⟨hPc, hDc, hFc⟩ := xcut (wc := [(a2, .inr (2, [.ref a3, .int 0, .int 0])), (a3, .inl (cT 2, 4096, .inr (.inl f7)))]) hP hD hS hA [0, 1] rfl rfl (by decide)
  refine va_calli (va_runS (As := [.ref a2]) (rest := []) ⟨hx, hb, hml, hown, htx⟩ (cH_nothing_0 l hl9 D cT aK aV H.size a2 a3 f7) ⟨callB_of 1 htx (xw_goodC kw_4_221) rfl rfl rfl (htx _ kw_1_27) (htx _ kw_4_219) ⟨by decide, by decide, by decide +kernel⟩ ⟨Nat.le_of_ble_eq_true rfl, Nat.le_of_ble_eq_true rfl⟩, htx _ kw_4_220⟩ ⟨xPre_blind, (fun U hU hW => ⟨rfl, xPre_of hZ hS hFc hPc hDc hK U hU hW⟩)⟩ rfl rfl hl.1 rfl (lv_room (Nat.le_of_ble_eq_true rfl)) dH_indices_10 ⟨Nat.le_of_ble_eq_true rfl, Nat.le_of_ble_eq_true rfl⟩) hS (fun q _ h => hFc q h) hFc (fun r2 u9 t H1 locs ht hvm hr9 hB hz1 hk1 hS => ?_)
  obtain ⟨hP1, hK1, hD1⟩ := hB
  rw [ht] at hP1
  obtain ⟨hP, hD⟩ := xjoin (W := [(a0, .inr (2, [.ref a1, .int 1, v4])), (a1, .inl (cT 2, 4096, .inr (.inl f5))), (a2, .inr (2, [.ref a3, .int 1, .int 0])), (a3, .inl (cT 2, 4096, .inr (.inl (vp_updL f7 0 0))))]) hP hD [0, 1] [2, 3] 2 rfl rfl (by decide) (by decide) hk1 hFc hP1 hD1
  generalize H1 = H at hP hS ⊢
  rw [hr9]
  refine W.eq (g2 := F0 m 13 ls [.int 0]) rfl ?_
  obtain ⟨hP9, hD9⟩ := xsub (wc := [(a0, .inr (2, [.ref a1, .int 1, v4])), (a1, .inl (cT 2, 4096, .inr (.inl f5))), (a2, .inr (2, [.ref a3, .int 1, .int 0])), (a3, .inl (cT 2, 4096, .inr (.inl (vp_updL f7 0 0))))]) hP hD [0, 1, 2, 3] rfl rfl (by decide)
  refine W.widen (k := 0) (n := 0) (Nat.le_of_ble_eq_true rfl) (Nat.le_of_ble_eq_true rfl) ?_
  exact W.iret (v := 0) hx hb hr (fun t ht hW => ⟨⟨0, (), rfl, rfl, by rw [ht]; exact hP9, va_K.moved hW.alike hK, hD9⟩, hS.F ht⟩) hS.2.2 dH_indices_13
set_option maxHeartbeats 400000000 in
set_option maxRecDepth 100000 in
theorem cH_apply_15 (l : Launch) (hl9 : l.stackTraces = false) (D : va_G) (cT : Nat → ClassId) (aK aV : Nat → Nat) (sz : Nat) (a0 : Nat) (a1 : Nat) (a2 : Nat) (a3 : Nat) (b4 : Nat) (v5 : Value) (f6 : Nat → Int64) (f8 : Nat → Int64) (h7 : f6 0 = 0) : xMet l yH_apply wyH_apply 4 0 0 87 D cT aK aV sz [.int 7, .ref a0, .ref a0, .ref b4, .ref a2] [(a0, .inr (2, [.ref a1, .int 1, v5])), (a1, .inl (cT 2, 4096, .inr (.inl f6))), (a2, .inr (2, [.ref a3, .int 0, .int 0])), (a3, .inl (cT 2, 4096, .inr (.inl f8)))] (fun A => va_Qi (fun (r : Int32) (_ : Unit) => r = 0) (fun _ t => xB D xcl cT A [(a0, .inr (2, [.ref a1, .int 1, v5])), (a1, .inl (cT 2, 4096, .inr (.inl f6))), (a2, .inr (2, [.ref a3, .int 1, .int 0])), (a3, .inl (cT 2, 4096, .inr (.inl (vp_updL f8 0 0))))] t) A) := by
  refine Met.ofW (cc := prog_5_method_2_code) (maxL := 5) (ret := (some .int)) (by decide) rfl ?_
  intro p e s m args below meth c s₁ B hml hv
  obtain ⟨rfl, hsz, hZ, hP, hK, hD0⟩ := hv
  have hx := B.exec
  have hb := B.bytes
  have hr := B.returns
  have hts := atoms_spec (ws := wyH_apply) B.pre
  have htx := fun w h => hts w (List.mem_cons_of_mem _ h)
  have hown : s.vm.findClass "ValueBench$Pairs" = some m.cls := findClass_of_methodNamed B.named
  have hlocks := B.notSynchronized
  subst hsz
  have hD := hD0.self (sz := s.heap.size)
  generalize hAe : va_A [(a0, .inr (2, [.ref a1, .int 1, v5])), (a1, .inl (cT 2, 4096, .inr (.inl f6))), (a2, .inr (2, [.ref a3, .int 0, .int 0])), (a3, .inl (cT 2, 4096, .inr (.inl f8)))] s.heap.size = A at hD hZ ⊢
  have hA : ∀ q : Nat, s.heap.size ≤ q → A q := fun q h => by rw [← hAe]; exact Or.inr h
  have hS : va_S A s.heap s.heap [] := va_S.rf
  have hP : va_P D xcl [(a0, .inr (2, [.ref a1, .int 1, v5])), (a1, .inl (cT 2, 4096, .inr (.inl f6))), (a2, .inr (2, [.ref a3, .int 0, .int 0])), (a3, .inl (cT 2, 4096, .inr (.inl f8)))] s.heap := hP
  have hl := lv_entry ([.int 7, .ref a0, .ref a0, .ref b4, .ref a2]) (n := 5) (Nat.le_of_ble_eq_true rfl)
  rw [lg_entry_eq]
  generalize (lg_sl ([.int 7, .ref a0, .ref a0, .ref b4, .ref a2]) ++ List.replicate (5 - (lg_sl ([.int 7, .ref a0, .ref a0, .ref b4, .ref a2])).length) Slot.unset).toArray = ls at hl ⊢
  have hl : lv_has ls 5 [(0, .int 7), (1, .ref a0), (2, .ref a0), (3, .ref b4), (4, .ref a2)] := hl
  refine lv_iload_n hx hb dH_apply_0 rfl (lv_at hl 0 rfl) ?_
  refine lv_tableIn (off := 138) (tgt := 139) hx hb dH_apply_1 (by decide) (by decide) (by decide) (by decide) ?_
  refine lv_aload_n hx hb dH_apply_139 rfl (lv_at hl 1 rfl) ?_
  refine lv_aload_n hx hb dH_apply_140 rfl (lv_at hl 2 rfl) ?_
  refine lv_aload hx hb dH_apply_141 (lv_at hl 4 rfl) ?_
  obtain ⟨hPc, hDc, hFc⟩ := xcut (wc := [(a0, .inr (2, [.ref a1, .int 1, v5])), (a1, .inl (cT 2, 4096, .inr (.inl f6))), (a2, .inr (2, [.ref a3, .int 0, .int 0])), (a3, .inl (cT 2, 4096, .inr (.inl f8)))]) hP hD hS hA [0, 1, 2, 3] rfl rfl (by decide)
  refine va_calli (va_runS (As := [.ref a0, .ref a0, .ref a2]) (rest := []) ⟨hx, hb, hml, hown, htx⟩ (cH_indices_1 l hl9 D cT aK aV s.heap.size a0 a1 a2 a3 v5 f6 f8 (by first | rfl | exact h7)) ⟨callB_of 3 htx (xw_goodC kw_4_218) rfl rfl rfl (htx _ kw_1_27) (htx _ kw_4_216) ⟨by decide, by decide, by decide +kernel⟩ ⟨Nat.le_of_ble_eq_true rfl, Nat.le_of_ble_eq_true rfl⟩, htx _ kw_4_217⟩ ⟨xPre_blind, (fun U hU hW => ⟨rfl, xPre_of hZ hS hFc hPc hDc hK U hU hW⟩)⟩ rfl rfl hl.1 rfl (lv_room (Nat.le_of_ble_eq_true rfl)) dH_apply_143 ⟨Nat.le_of_ble_eq_true rfl, Nat.le_of_ble_eq_true rfl⟩) hS (fun q _ h => hFc q h) hFc (fun r1 u9 t H1 locs ht hvm hr9 hB hz1 hk1 hS => ?_)
  obtain ⟨hP1, hK1, hD1⟩ := hB
  rw [ht] at hP1
  obtain ⟨hP, hD⟩ := xjoin (W := [(a0, .inr (2, [.ref a1, .int 1, v5])), (a1, .inl (cT 2, 4096, .inr (.inl f6))), (a2, .inr (2, [.ref a3, .int 1, .int 0])), (a3, .inl (cT 2, 4096, .inr (.inl (vp_updL f8 0 0))))]) hP hD [0, 1, 2, 3] [] 0 rfl rfl (by decide) (by decide) hk1 hFc hP1 hD1
  generalize H1 = H at hP hS ⊢
  rw [hr9]
  refine W.eq (g2 := F0 m 146 ls [.int 0]) rfl ?_
  obtain ⟨hP9, hD9⟩ := xsub (wc := [(a0, .inr (2, [.ref a1, .int 1, v5])), (a1, .inl (cT 2, 4096, .inr (.inl f6))), (a2, .inr (2, [.ref a3, .int 1, .int 0])), (a3, .inl (cT 2, 4096, .inr (.inl (vp_updL f8 0 0))))]) hP hD [0, 1, 2, 3] rfl rfl (by decide)
  refine W.widen (k := 0) (n := 0) (Nat.le_of_ble_eq_true rfl) (Nat.le_of_ble_eq_true rfl) ?_
  exact W.iret (v := 0) hx hb hr (fun t ht hW => ⟨⟨0, (), rfl, rfl, by rw [ht]; exact hP9, va_K.moved hW.alike hK, hD9⟩, hS.F ht⟩) hS.2.2 dH_apply_146
set_option maxHeartbeats 400000000 in
set_option maxRecDepth 100000 in
theorem cB_two_15 (l : Launch) (hl9 : l.stackTraces = false) (D : va_G) (cT : Nat → ClassId) (aK aV : Nat → Nat) (sz : Nat) (a0 : Nat) (a1 : Nat) (a2 : Nat) (a3 : Nat) (a4 : Nat) (a5 : Nat) (a6 : Nat) (a7 : Nat) (x8 : Int32) (x13 : Int32) (x18 : Int32) (v23 : Value) (v24 : Value) (v25 : Value) (v26 : Value) (v27 : Value) (v28 : Value) (v29 : Value) (f30 : Nat → Option Nat) (b33 : Nat) (v35 : Value) (f36 : Nat → Int64) (f38 : Nat → Int64) (v39 : Value) (v40 : Value) (f41 : Nat → Int32) (h9 : ¬ x8 < 0) (h10 : ¬ 7 < x8) (h11 : x8 ≤ 7) (h12 : vp_in x8 8) (h14 : ¬ x13 < 0) (h15 : ¬ 7 < x13) (h16 : x13 ≤ 7) (h17 : vp_in x13 8) (h19 : ¬ x18 < 0) (h20 : ¬ 7 < x18) (h21 : x18 ≤ 7) (h22 : vp_in x18 8) (h31 : f30 x13.toNatClampNeg = some a3) (h32 : f30 x18.toNatClampNeg = some a3) (h34 : f30 x8.toNatClampNeg = some b33) (h37 : f36 0 = 0) : xMet l yB_two wyB_two 7 0 0 152 D cT aK aV sz [.ref a0, .int x8, .int 7, .int x13, .int x18] [(a0, .inr (0, [v23, v24, .ref a6, .ref a2, v25, .ref a1, v26, v27])), (a1, .inr (2, [.ref a5, v28, v29])), (a2, .inl (cT 3, 8, .inr (.inr (.inr (.inr f30))))), (a3, .inr (2, [.ref a4, .int 1, v35])), (a4, .inl (cT 2, 4096, .inr (.inl f36))), (a5, .inl (cT 2, 4096, .inr (.inl f38))), (a6, .inr (1, [.ref a7, v39, v40])), (a7, .inl (cT 0, 4096, .inl f41))] (fun A => va_Qv (fun _ : Unit => True) (fun _ t => ∃ (y7 : Int32) (y8 : Int32) (y9 : Int32) (y10 : Int32), xB D xcl cT A [(a0, .inr (0, [v23, v24, .ref a6, .ref a2, v25, .ref b33, v26, v27])), (a1, .inr (2, [.ref a5, .int 1, .int 0])), (a2, .inl (cT 3, 8, .inr (.inr (.inr (.inr (va_up f30 x8.toNatClampNeg (some a1))))))), (a3, .inr (2, [.ref a4, .int 1, v35])), (a4, .inl (cT 2, 4096, .inr (.inl f36))), (a5, .inl (cT 2, 4096, .inr (.inl (vp_updL f38 0 0)))), (a6, .inr (1, [.ref a7, .int 4, .int 0])), (a7, .inl (cT 0, 4096, .inl (upd (upd (upd (upd f41 0 (vp_nar .byte y7)) 1 (vp_nar .byte y8)) 2 (vp_nar .byte y9)) 3 (vp_nar .byte y10))))] t) A) := by
  refine Met.ofW (cc := prog_1_method_10_code) (maxL := 5) (ret := none) (by decide) rfl ?_
  intro p e s m args below meth c s₁ B hml hv
  obtain ⟨rfl, hsz, hZ, hP, hK, hD0⟩ := hv
  have hx := B.exec
  have hb := B.bytes
  have hr := B.returns
  have hts := atoms_spec (ws := wyB_two) B.pre
  have htx := fun w h => hts w (List.mem_cons_of_mem _ h)
  have hown : s.vm.findClass "ValueBench" = some m.cls := findClass_of_methodNamed B.named
  have hlocks := B.notSynchronized
  subst hsz
  have hD := hD0.self (sz := s.heap.size)
  generalize hAe : va_A [(a0, .inr (0, [v23, v24, .ref a6, .ref a2, v25, .ref a1, v26, v27])), (a1, .inr (2, [.ref a5, v28, v29])), (a2, .inl (cT 3, 8, .inr (.inr (.inr (.inr f30))))), (a3, .inr (2, [.ref a4, .int 1, v35])), (a4, .inl (cT 2, 4096, .inr (.inl f36))), (a5, .inl (cT 2, 4096, .inr (.inl f38))), (a6, .inr (1, [.ref a7, v39, v40])), (a7, .inl (cT 0, 4096, .inl f41))] s.heap.size = A at hD hZ ⊢
  have hA : ∀ q : Nat, s.heap.size ≤ q → A q := fun q h => by rw [← hAe]; exact Or.inr h
  have hS : va_S A s.heap s.heap [] := va_S.rf
  have hP : va_P D xcl [(a0, .inr (0, [v23, v24, .ref a6, .ref a2, v25, .ref a1, v26, v27])), (a1, .inr (2, [.ref a5, v28, v29])), (a2, .inl (cT 3, 8, .inr (.inr (.inr (.inr f30))))), (a3, .inr (2, [.ref a4, .int 1, v35])), (a4, .inl (cT 2, 4096, .inr (.inl f36))), (a5, .inl (cT 2, 4096, .inr (.inl f38))), (a6, .inr (1, [.ref a7, v39, v40])), (a7, .inl (cT 0, 4096, .inl f41))] s.heap := hP
  have hl := lv_entry ([.ref a0, .int x8, .int 7, .int x13, .int x18]) (n := 5) (Nat.le_of_ble_eq_true rfl)
  rw [lg_entry_eq]
  generalize (lg_sl ([.ref a0, .int x8, .int 7, .int x13, .int x18]) ++ List.replicate (5 - (lg_sl ([.ref a0, .int x8, .int 7, .int x13, .int x18])).length) Slot.unset).toArray = ls at hl ⊢
  have hl : lv_has ls 5 [(0, .ref a0), (1, .int x8), (2, .int 7), (3, .int x13), (4, .int x18)] := hl
  refine lv_iload_n hx hb dB_two_0 rfl (lv_at hl 1 rfl) ?_
  obtain ⟨hPc, hDc, hFc⟩ := xcut (wc := []) hP hD hS hA [] rfl rfl (by decide)
  refine va_calli (va_runS (As := [.int x8]) (rest := []) ⟨hx, hb, hml, hown, htx⟩ (cB_isRegister_0 l hl9 D cT aK aV s.heap.size x8 h9 h10 h11 h12) ⟨callB_of 1 htx (xw_goodC kw_2_18) rfl rfl rfl (htx _ kw_1_1) (htx _ kw_2_16) ⟨by decide, by decide, by decide +kernel⟩ ⟨Nat.le_of_ble_eq_true rfl, Nat.le_of_ble_eq_true rfl⟩, htx _ kw_2_17⟩ ⟨xPre_blind, (fun U hU hW => ⟨rfl, xPre_of hZ hS hFc hPc hDc hK U hU hW⟩)⟩ rfl rfl hl.1 rfl (lv_room (Nat.le_of_ble_eq_true rfl)) dB_two_1 ⟨Nat.le_of_ble_eq_true rfl, Nat.le_of_ble_eq_true rfl⟩) hS (fun q _ h => hFc q h) hFc (fun r1 u9 t H1 locs ht hvm hr9 hB hz1 hk1 hS => ?_)
  obtain ⟨hP1, hK1, hD1⟩ := hB
  rw [ht] at hP1
  obtain ⟨hP, hD⟩ := xjoin (W := [(a0, .inr (0, [v23, v24, .ref a6, .ref a2, v25, .ref a1, v26, v27])), (a1, .inr (2, [.ref a5, v28, v29])), (a2, .inl (cT 3, 8, .inr (.inr (.inr (.inr f30))))), (a3, .inr (2, [.ref a4, .int 1, v35])), (a4, .inl (cT 2, 4096, .inr (.inl f36))), (a5, .inl (cT 2, 4096, .inr (.inl f38))), (a6, .inr (1, [.ref a7, v39, v40])), (a7, .inl (cT 0, 4096, .inl f41))]) hP hD [] [0, 1, 2, 3, 4, 5, 6, 7] 8 rfl rfl (by decide) (by decide) hk1 hFc hP1 hD1
  generalize H1 = H at hP hS ⊢
  rw [hr9]
  refine W.eq (g2 := F0 m 4 ls [.int 1]) rfl ?_
  refine lv_if_eq (tgt := 35) hx hb dB_two_4 (by decide) (fun h => ((by revert h; decide : False)).elim) (fun _ => ?_)
  refine lv_iload_n hx hb dB_two_7 rfl (lv_at hl 2 rfl) ?_
  refine lv_bipush (v := 9) hx hb dB_two_8 (by decide) ?_
  obtain ⟨hPc, hDc, hFc⟩ := xcut (wc := []) hP hD hS hA [] rfl rfl (by decide)
  refine va_calli (va_runS (As := [.int 7, .int 9]) (rest := []) ⟨hx, hb, hml, hown, htx⟩ (cB_isWithin_36 l hl9 D cT aK aV H.size) ⟨callB_of 2 htx (xw_goodC kw_1_218) rfl rfl rfl (htx _ kw_1_1) (htx _ kw_1_216) ⟨by decide, by decide, by decide +kernel⟩ ⟨Nat.le_of_ble_eq_true rfl, Nat.le_of_ble_eq_true rfl⟩, htx _ kw_1_217⟩ ⟨xPre_blind, (fun U hU hW => ⟨rfl, xPre_of hZ hS hFc hPc hDc hK U hU hW⟩)⟩ rfl rfl hl.1 rfl (lv_room (Nat.le_of_ble_eq_true rfl)) dB_two_10 ⟨Nat.le_of_ble_eq_true rfl, Nat.le_of_ble_eq_true rfl⟩) hS (fun q _ h => hFc q h) hFc (fun r2 u9 t H1 locs ht hvm hr9 hB hz1 hk1 hS => ?_)
  obtain ⟨hP1, hK1, hD1⟩ := hB
  rw [ht] at hP1
  obtain ⟨hP, hD⟩ := xjoin (W := [(a0, .inr (0, [v23, v24, .ref a6, .ref a2, v25, .ref a1, v26, v27])), (a1, .inr (2, [.ref a5, v28, v29])), (a2, .inl (cT 3, 8, .inr (.inr (.inr (.inr f30))))), (a3, .inr (2, [.ref a4, .int 1, v35])), (a4, .inl (cT 2, 4096, .inr (.inl f36))), (a5, .inl (cT 2, 4096, .inr (.inl f38))), (a6, .inr (1, [.ref a7, v39, v40])), (a7, .inl (cT 0, 4096, .inl f41))]) hP hD [] [0, 1, 2, 3, 4, 5, 6, 7] 8 rfl rfl (by decide) (by decide) hk1 hFc hP1 hD1
  generalize H1 = H at hP hS ⊢
  rw [hr9]
  refine W.eq (g2 := F0 m 13 ls [.int 1]) rfl ?_
  refine lv_if_eq (tgt := 35) hx hb dB_two_13 (by decide) (fun h => ((by revert h; decide : False)).elim) (fun _ => ?_)
  refine lv_iload_n hx hb dB_two_16 rfl (lv_at hl 3 rfl) ?_
  obtain ⟨hPc, hDc, hFc⟩ := xcut (wc := []) hP hD hS hA [] rfl rfl (by decide)
  refine va_calli (va_runS (As := [.int x13]) (rest := []) ⟨hx, hb, hml, hown, htx⟩ (cB_isRegister_0 l hl9 D cT aK aV H.size x13 h14 h15 h16 h17) ⟨callB_of 1 htx (xw_goodC kw_2_18) rfl rfl rfl (htx _ kw_1_1) (htx _ kw_2_16) ⟨by decide, by decide, by decide +kernel⟩ ⟨Nat.le_of_ble_eq_true rfl, Nat.le_of_ble_eq_true rfl⟩, htx _ kw_2_17⟩ ⟨xPre_blind, (fun U hU hW => ⟨rfl, xPre_of hZ hS hFc hPc hDc hK U hU hW⟩)⟩ rfl rfl hl.1 rfl (lv_room (Nat.le_of_ble_eq_true rfl)) dB_two_17 ⟨Nat.le_of_ble_eq_true rfl, Nat.le_of_ble_eq_true rfl⟩) hS (fun q _ h => hFc q h) hFc (fun r3 u9 t H1 locs ht hvm hr9 hB hz1 hk1 hS => ?_)
  obtain ⟨hP1, hK1, hD1⟩ := hB
  rw [ht] at hP1
  obtain ⟨hP, hD⟩ := xjoin (W := [(a0, .inr (0, [v23, v24, .ref a6, .ref a2, v25, .ref a1, v26, v27])), (a1, .inr (2, [.ref a5, v28, v29])), (a2, .inl (cT 3, 8, .inr (.inr (.inr (.inr f30))))), (a3, .inr (2, [.ref a4, .int 1, v35])), (a4, .inl (cT 2, 4096, .inr (.inl f36))), (a5, .inl (cT 2, 4096, .inr (.inl f38))), (a6, .inr (1, [.ref a7, v39, v40])), (a7, .inl (cT 0, 4096, .inl f41))]) hP hD [] [0, 1, 2, 3, 4, 5, 6, 7] 8 rfl rfl (by decide) (by decide) hk1 hFc hP1 hD1
  generalize H1 = H at hP hS ⊢
  rw [hr9]
  refine W.eq (g2 := F0 m 20 ls [.int 1]) rfl ?_
  refine lv_if_eq (tgt := 35) hx hb dB_two_20 (by decide) (fun h => ((by revert h; decide : False)).elim) (fun _ => ?_)
  refine lv_iload hx hb dB_two_23 (lv_at hl 4 rfl) ?_
  obtain ⟨hPc, hDc, hFc⟩ := xcut (wc := []) hP hD hS hA [] rfl rfl (by decide)
  refine va_calli (va_runS (As := [.int x18]) (rest := []) ⟨hx, hb, hml, hown, htx⟩ (cB_isRegister_0 l hl9 D cT aK aV H.size x18 h19 h20 h21 h22) ⟨callB_of 1 htx (xw_goodC kw_2_18) rfl rfl rfl (htx _ kw_1_1) (htx _ kw_2_16) ⟨by decide, by decide, by decide +kernel⟩ ⟨Nat.le_of_ble_eq_true rfl, Nat.le_of_ble_eq_true rfl⟩, htx _ kw_2_17⟩ ⟨xPre_blind, (fun U hU hW => ⟨rfl, xPre_of hZ hS hFc hPc hDc hK U hU hW⟩)⟩ rfl rfl hl.1 rfl (lv_room (Nat.le_of_ble_eq_true rfl)) dB_two_25 ⟨Nat.le_of_ble_eq_true rfl, Nat.le_of_ble_eq_true rfl⟩) hS (fun q _ h => hFc q h) hFc (fun r4 u9 t H1 locs ht hvm hr9 hB hz1 hk1 hS => ?_)
  obtain ⟨hP1, hK1, hD1⟩ := hB
  rw [ht] at hP1
  obtain ⟨hP, hD⟩ := xjoin (W := [(a0, .inr (0, [v23, v24, .ref a6, .ref a2, v25, .ref a1, v26, v27])), (a1, .inr (2, [.ref a5, v28, v29])), (a2, .inl (cT 3, 8, .inr (.inr (.inr (.inr f30))))), (a3, .inr (2, [.ref a4, .int 1, v35])), (a4, .inl (cT 2, 4096, .inr (.inl f36))), (a5, .inl (cT 2, 4096, .inr (.inl f38))), (a6, .inr (1, [.ref a7, v39, v40])), (a7, .inl (cT 0, 4096, .inl f41))]) hP hD [] [0, 1, 2, 3, 4, 5, 6, 7] 8 rfl rfl (by decide) (by decide) hk1 hFc hP1 hD1
  generalize H1 = H at hP hS ⊢
  rw [hr9]
  refine W.eq (g2 := F0 m 28 ls [.int 1]) rfl ?_
  refine lv_if_eq (tgt := 35) hx hb dB_two_28 (by decide) (fun h => ((by revert h; decide : False)).elim) (fun _ => ?_)
  refine lv_iconst (v := 1) hx hb dB_two_31 (by decide) ?_
  refine lv_goto (tgt := 36) hx hb dB_two_32 (by decide) ?_
  obtain ⟨hPc, hDc, hFc⟩ := xcut (wc := []) hP hD hS hA [] rfl rfl (by decide)
  refine va_callv (va_runS (As := [.int 1]) (rest := []) ⟨hx, hb, hml, hown, htx⟩ (cB_demand_0 l hl9 D cT aK aV H.size) ⟨callB_of 1 htx (xw_goodC kw_1_221) rfl rfl rfl (htx _ kw_1_1) (htx _ kw_1_219) ⟨by decide, by decide, by decide +kernel⟩ ⟨Nat.le_of_ble_eq_true rfl, Nat.le_of_ble_eq_true rfl⟩, htx _ kw_1_220⟩ ⟨xPre_blind, (fun U hU hW => ⟨rfl, xPre_of hZ hS hFc hPc hDc hK U hU hW⟩)⟩ rfl rfl hl.1 rfl (lv_room (Nat.le_of_ble_eq_true rfl)) dB_two_36 ⟨Nat.le_of_ble_eq_true rfl, Nat.le_of_ble_eq_true rfl⟩) hS (fun q _ h => hFc q h) hFc (fun u9 t H1 locs ht hvm hr9 hB hz1 hk1 hS => ?_)
  obtain ⟨hP1, hK1, hD1⟩ := hB
  rw [ht] at hP1
  obtain ⟨hP, hD⟩ := xjoin (W := [(a0, .inr (0, [v23, v24, .ref a6, .ref a2, v25, .ref a1, v26, v27])), (a1, .inr (2, [.ref a5, v28, v29])), (a2, .inl (cT 3, 8, .inr (.inr (.inr (.inr f30))))), (a3, .inr (2, [.ref a4, .int 1, v35])), (a4, .inl (cT 2, 4096, .inr (.inl f36))), (a5, .inl (cT 2, 4096, .inr (.inl f38))), (a6, .inr (1, [.ref a7, v39, v40])), (a7, .inl (cT 0, 4096, .inl f41))]) hP hD [] [0, 1, 2, 3, 4, 5, 6, 7] 8 rfl rfl (by decide) (by decide) hk1 hFc hP1 hD1
  generalize H1 = H at hP hS ⊢
  refine lv_aload_n hx hb dB_two_39 rfl (lv_at hl 0 rfl) ?_
  refine va_get (D := D) (ci := 0) (v := .ref a1) (C := "ValueBench") (T := TB) (N := 8) hx hb htx inB hown hK hP 0 rfl rfl 5 (by decide) (htx _ kw_1_100) (fun _ h9 => h9) rfl dB_two_40 ?_
  obtain ⟨hPc, hDc, hFc⟩ := xcut (wc := [(a1, .inr (2, [.ref a5, v28, v29]))]) hP hD hS hA [1] rfl rfl (by decide)
  refine va_callv (va_runV (C := "ValueBench$Row") (As := []) (rest := []) ⟨hx, hb, hml, hown, htx⟩ (cR_clear_0 l hl9 D cT aK aV H.size a1 (.ref a5) v28 v29) ⟨callB_of 0 htx (xw_goodC kw_2_22) rfl rfl rfl (htx _ kw_1_4) (htx _ kw_2_19) ⟨by decide, by decide, by decide +kernel⟩ ⟨Nat.le_of_ble_eq_true rfl, Nat.le_of_ble_eq_true rfl⟩, (htx _ kw_2_20), (htx _ kw_2_21)⟩ ⟨xPre_blind, va_recv hK hP (ci := 2) rfl (q0 := 1) rfl, (fun U hU hW => ⟨rfl, xPre_of hZ hS hFc hPc hDc hK U hU hW⟩)⟩ rfl rfl hl.1 rfl (lv_room (Nat.le_of_ble_eq_true rfl)) dB_two_43 ⟨Nat.le_of_ble_eq_true rfl, Nat.le_of_ble_eq_true rfl⟩) hS (fun q _ h => hFc q h) hFc (fun u9 t H1 locs ht hvm hr9 hB hz1 hk1 hS => ?_)
  obtain ⟨hP1, hK1, hD1⟩ := hB
  rw [ht] at hP1
  obtain ⟨hP, hD⟩ := xjoin (W := [(a0, .inr (0, [v23, v24, .ref a6, .ref a2, v25, .ref a1, v26, v27])), (a2, .inl (cT 3, 8, .inr (.inr (.inr (.inr f30))))), (a3, .inr (2, [.ref a4, .int 1, v35])), (a4, .inl (cT 2, 4096, .inr (.inl f36))), (a5, .inl (cT 2, 4096, .inr (.inl f38))), (a6, .inr (1, [.ref a7, v39, v40])), (a7, .inl (cT 0, 4096, .inl f41)), (a1, .inr (2, [.ref a5, .int 0, .int 0]))]) hP hD [1] [0, 2, 3, 4, 5, 6, 7] 7 rfl rfl (by decide) (by decide) hk1 hFc hP1 hD1
  generalize H1 = H at hP hS ⊢
  refine lv_aload_n hx hb dB_two_46 rfl (lv_at hl 0 rfl) ?_
  refine lv_iload_n hx hb dB_two_47 rfl (lv_at hl 2 rfl) ?_
  refine lv_aload_n hx hb dB_two_48 rfl (lv_at hl 0 rfl) ?_
  refine va_get (D := D) (ci := 0) (v := .ref a2) (C := "ValueBench") (T := TB) (N := 8) hx hb htx inB hown hK hP 0 rfl rfl 3 (by decide) (htx _ kw_1_98) (fun _ h9 => h9) rfl dB_two_49 ?_
  refine lv_iload_n hx hb dB_two_52 rfl (lv_at hl 3 rfl) ?_
  refine va_aldq hx hb hK hP 1 3 rfl rfl h17 dB_two_53 ?_
  refine W.eq (g2 := F0 m 54 ls [va_rf (f30 x13.toNatClampNeg), .int 7, .ref a0]) rfl ?_
  rw [h31]
  refine W.eq (g2 := F0 m 54 ls [.ref a3, .int 7, .ref a0]) rfl ?_
  refine lv_aload_n hx hb dB_two_54 rfl (lv_at hl 0 rfl) ?_
  refine va_get (D := D) (ci := 0) (v := .ref a2) (C := "ValueBench") (T := TB) (N := 8) hx hb htx inB hown hK hP 0 rfl rfl 3 (by decide) (htx _ kw_1_98) (fun _ h9 => h9) rfl dB_two_55 ?_
  refine lv_iload hx hb dB_two_58 (lv_at hl 4 rfl) ?_
  refine va_aldq hx hb hK hP 1 3 rfl rfl h22 dB_two_60 ?_
  refine W.eq (g2 := F0 m 61 ls [va_rf (f30 x18.toNatClampNeg), .ref a3, .int 7, .ref a0]) rfl ?_
  rw [h32]
  refine W.eq (g2 := F0 m 61 ls [.ref a3, .ref a3, .int 7, .ref a0]) rfl ?_
  refine lv_aload_n hx hb dB_two_61 rfl (lv_at hl 0 rfl) ?_
  refine va_get (D := D) (ci := 0) (v := .ref a6) (C := "ValueBench") (T := TB) (N := 8) hx hb htx inB hown hK hP 0 rfl rfl 2 (by decide) (htx _ kw_1_97) (fun _ h9 => h9) rfl dB_two_62 ?_
  refine lv_aload_n hx hb dB_two_65 rfl (lv_at hl 0 rfl) ?_
  refine va_get (D := D) (ci := 0) (v := .ref a1) (C := "ValueBench") (T := TB) (N := 8) hx hb htx inB hown hK hP 0 rfl rfl 5 (by decide) (htx _ kw_1_100) (fun _ h9 => h9) rfl dB_two_66 ?_
  obtain ⟨hPc, hDc, hFc⟩ := xcut (wc := [(a3, .inr (2, [.ref a4, .int 1, v35])), (a4, .inl (cT 2, 4096, .inr (.inl f36))), (a1, .inr (2, [.ref a5, .int 0, .int 0])), (a5, .inl (cT 2, 4096, .inr (.inl f38)))]) hP hD hS hA [2, 3, 7, 4] rfl rfl (by decide)
  refine va_calli (va_runS (As := [.int 7, .ref a3, .ref a3, .ref a6, .ref a1]) (rest := [.ref a0]) ⟨hx, hb, hml, hown, htx⟩ (cH_apply_15 l hl9 D cT aK aV H.size a3 a4 a1 a5 a6 v35 f36 f38 (by first | rfl | exact h31 | exact h32 | exact h34 | exact h37)) ⟨callB_of 5 htx (xw_goodC kw_4_146) rfl rfl rfl (htx _ kw_1_27) (htx _ kw_4_144) ⟨by decide, by decide, by decide +kernel⟩ ⟨Nat.le_of_ble_eq_true rfl, Nat.le_of_ble_eq_true rfl⟩, htx _ kw_4_145⟩ ⟨xPre_blind, (fun U hU hW => ⟨rfl, xPre_of hZ hS hFc hPc hDc hK U hU hW⟩)⟩ rfl rfl hl.1 rfl (lv_room (Nat.le_of_ble_eq_true rfl)) dB_two_69 ⟨Nat.le_of_ble_eq_true rfl, Nat.le_of_ble_eq_true rfl⟩) hS (fun q _ h => hFc q h) hFc (fun r5 u9 t H1 locs ht hvm hr9 hB hz1 hk1 hS => ?_)
  obtain ⟨hP1, hK1, hD1⟩ := hB
  rw [ht] at hP1
  obtain ⟨hP, hD⟩ := xjoin (W := [(a0, .inr (0, [v23, v24, .ref a6, .ref a2, v25, .ref a1, v26, v27])), (a2, .inl (cT 3, 8, .inr (.inr (.inr (.inr f30))))), (a6, .inr (1, [.ref a7, v39, v40])), (a7, .inl (cT 0, 4096, .inl f41)), (a3, .inr (2, [.ref a4, .int 1, v35])), (a4, .inl (cT 2, 4096, .inr (.inl f36))), (a1, .inr (2, [.ref a5, .int 1, .int 0])), (a5, .inl (cT 2, 4096, .inr (.inl (vp_updL f38 0 0))))]) hP hD [2, 3, 7, 4] [0, 1, 5, 6] 4 rfl rfl (by decide) (by decide) hk1 hFc hP1 hD1
  generalize H1 = H at hP hS ⊢
  rw [hr9]
  refine W.eq (g2 := F0 m 72 ls [.int 0, .ref a0]) rfl ?_
  obtain ⟨hPc, hDc, hFc⟩ := xcut (wc := []) hP hD hS hA [] rfl rfl (by decide)
  refine va_callv (va_runV (C := "ValueBench") (As := [.int 0]) (rest := []) ⟨hx, hb, hml, hown, htx⟩ (cB_demandDone_0 l hl9 D cT aK aV H.size a0) ⟨callB_of 1 htx (xw_goodC kw_3_222) rfl rfl rfl (htx _ kw_1_1) (htx _ kw_3_219) ⟨by decide, by decide, by decide +kernel⟩ ⟨Nat.le_of_ble_eq_true rfl, Nat.le_of_ble_eq_true rfl⟩, (htx _ kw_3_221), (htx _ kp_B_demandDone)⟩ ⟨xPre_blind, va_recv hK hP (ci := 0) rfl (q0 := 0) rfl, (fun U hU hW => ⟨rfl, xPre_of hZ hS hFc hPc hDc hK U hU hW⟩)⟩ rfl rfl hl.1 rfl (lv_room (Nat.le_of_ble_eq_true rfl)) dB_two_72 ⟨Nat.le_of_ble_eq_true rfl, Nat.le_of_ble_eq_true rfl⟩) hS (fun q _ h => hFc q h) hFc (fun u9 t H1 locs ht hvm hr9 hB hz1 hk1 hS => ?_)
  obtain ⟨hP1, hK1, hD1⟩ := hB
  rw [ht] at hP1
  obtain ⟨hP, hD⟩ := xjoin (W := [(a0, .inr (0, [v23, v24, .ref a6, .ref a2, v25, .ref a1, v26, v27])), (a2, .inl (cT 3, 8, .inr (.inr (.inr (.inr f30))))), (a6, .inr (1, [.ref a7, v39, v40])), (a7, .inl (cT 0, 4096, .inl f41)), (a3, .inr (2, [.ref a4, .int 1, v35])), (a4, .inl (cT 2, 4096, .inr (.inl f36))), (a1, .inr (2, [.ref a5, .int 1, .int 0])), (a5, .inl (cT 2, 4096, .inr (.inl (vp_updL f38 0 0))))]) hP hD [] [0, 1, 2, 3, 4, 5, 6, 7] 8 rfl rfl (by decide) (by decide) hk1 hFc hP1 hD1
  generalize H1 = H at hP hS ⊢
  refine lv_aload_n hx hb dB_two_75 rfl (lv_at hl 0 rfl) ?_
  refine lv_iload_n hx hb dB_two_76 rfl (lv_at hl 1 rfl) ?_
  obtain ⟨hPc, hDc, hFc⟩ := xcut (wc := [(a0, .inr (0, [v23, v24, .ref a6, .ref a2, v25, .ref a1, v26, v27])), (a6, .inr (1, [.ref a7, v39, v40])), (a1, .inr (2, [.ref a5, .int 1, .int 0])), (a5, .inl (cT 2, 4096, .inr (.inl (vp_updL f38 0 0)))), (a7, .inl (cT 0, 4096, .inl f41)), (a2, .inl (cT 3, 8, .inr (.inr (.inr (.inr f30)))))]) hP hD hS hA [0, 2, 6, 7, 3, 1] rfl rfl (by decide)
  refine va_calli (va_runV (C := "ValueBench") (As := [.int x8]) (rest := []) ⟨hx, hb, hml, hown, htx⟩ (cB_keepSpare_4 l hl9 D cT aK aV H.size a0 a6 a1 a5 a7 a2 x8 v23 v24 v25 v26 v27 v39 v40 (vp_updL f38 0 0) f41 f30 b33 h9 h10 h11 h12 (by first | rfl | exact h31 | exact h32 | exact h34 | exact h37) (by first | rfl | exact h31 | exact h32 | exact h34 | exact h37)) ⟨callB_of 1 htx (xw_goodC kw_3_17) rfl rfl rfl (htx _ kw_1_1) (htx _ kw_3_14) ⟨by decide, by decide, by decide +kernel⟩ ⟨Nat.le_of_ble_eq_true rfl, Nat.le_of_ble_eq_true rfl⟩, (htx _ kw_3_16), (htx _ kp_B_keepSpare)⟩ ⟨xPre_blind, va_recv hK hP (ci := 0) rfl (q0 := 0) rfl, (fun U hU hW => ⟨rfl, xPre_of hZ hS hFc hPc hDc hK U hU hW⟩)⟩ rfl rfl hl.1 rfl (lv_room (Nat.le_of_ble_eq_true rfl)) dB_two_77 ⟨Nat.le_of_ble_eq_true rfl, Nat.le_of_ble_eq_true rfl⟩) hS (fun q _ h => hFc q h) hFc (fun r6 u9 t H1 locs ht hvm hr9 hB hz1 hk1 hS => ?_)
  obtain ⟨y7, y8, y9, y10, hP1, hK1, hD1⟩ := hB
  rw [ht] at hP1
  obtain ⟨hP, hD⟩ := xjoin (W := [(a3, .inr (2, [.ref a4, .int 1, v35])), (a4, .inl (cT 2, 4096, .inr (.inl f36))), (a0, .inr (0, [v23, v24, .ref a6, .ref a2, v25, .ref b33, v26, v27])), (a6, .inr (1, [.ref a7, .int 4, .int 0])), (a1, .inr (2, [.ref a5, .int 1, .int 0])), (a5, .inl (cT 2, 4096, .inr (.inl (vp_updL f38 0 0)))), (a7, .inl (cT 0, 4096, .inl (upd (upd (upd (upd f41 0 (vp_nar .byte y7)) 1 (vp_nar .byte y8)) 2 (vp_nar .byte y9)) 3 (vp_nar .byte y10)))), (a2, .inl (cT 3, 8, .inr (.inr (.inr (.inr (va_up f30 x8.toNatClampNeg (some a1)))))))]) hP hD [0, 2, 6, 7, 3, 1] [4, 5] 2 rfl rfl (by decide) (by decide) hk1 hFc hP1 hD1
  generalize H1 = H at hP hS ⊢
  rw [hr9]
  refine W.eq (g2 := F0 m 80 ls [.int 4]) rfl ?_
  refine lv_pop hx hb dB_two_80 rfl ?_
  obtain ⟨hP9, hD9⟩ := xsub (wc := [(a0, .inr (0, [v23, v24, .ref a6, .ref a2, v25, .ref b33, v26, v27])), (a1, .inr (2, [.ref a5, .int 1, .int 0])), (a2, .inl (cT 3, 8, .inr (.inr (.inr (.inr (va_up f30 x8.toNatClampNeg (some a1))))))), (a3, .inr (2, [.ref a4, .int 1, v35])), (a4, .inl (cT 2, 4096, .inr (.inl f36))), (a5, .inl (cT 2, 4096, .inr (.inl (vp_updL f38 0 0)))), (a6, .inr (1, [.ref a7, .int 4, .int 0])), (a7, .inl (cT 0, 4096, .inl (upd (upd (upd (upd f41 0 (vp_nar .byte y7)) 1 (vp_nar .byte y8)) 2 (vp_nar .byte y9)) 3 (vp_nar .byte y10))))]) hP hD [2, 4, 7, 0, 1, 5, 3, 6] rfl rfl (by decide)
  refine W.widen (k := 0) (n := 0) (Nat.le_of_ble_eq_true rfl) (Nat.le_of_ble_eq_true rfl) ?_
  exact W.vret hx hb hr (fun t ht hW => ⟨⟨(), rfl, trivial, y7, y8, y9, y10, by rw [ht]; exact hP9, va_K.moved hW.alike hK, hD9⟩, hS.F ht⟩) hS.2.2 dB_two_81
set_option maxHeartbeats 400000000 in
set_option maxRecDepth 100000 in
theorem cL_two_15 (l : Launch) (hl9 : l.stackTraces = false) (D : va_G) (cT : Nat → ClassId) (aK aV : Nat → Nat) (sz : Nat) (a0 : Nat) (a1 : Nat) (a2 : Nat) (a3 : Nat) (a4 : Nat) (a5 : Nat) (a6 : Nat) (a7 : Nat) (x8 : Int32) (x13 : Int32) (x18 : Int32) (v23 : Value) (v24 : Value) (v25 : Value) (v26 : Value) (v27 : Value) (v28 : Value) (v29 : Value) (f30 : Nat → Option Nat) (b33 : Nat) (v35 : Value) (f36 : Nat → Int64) (f38 : Nat → Int64) (v39 : Value) (v40 : Value) (f41 : Nat → Int32) (h9 : ¬ x8 < 0) (h10 : ¬ 7 < x8) (h11 : x8 ≤ 7) (h12 : vp_in x8 8) (h14 : ¬ x13 < 0) (h15 : ¬ 7 < x13) (h16 : x13 ≤ 7) (h17 : vp_in x13 8) (h19 : ¬ x18 < 0) (h20 : ¬ 7 < x18) (h21 : x18 ≤ 7) (h22 : vp_in x18 8) (h31 : f30 x13.toNatClampNeg = some a3) (h32 : f30 x18.toNatClampNeg = some a3) (h34 : f30 x8.toNatClampNeg = some b33) (h37 : f36 0 = 0) : xMet l yL_two wyL_two 8 0 0 176 D cT aK aV sz [.ref a0, .int x8, .int 7, .int x13, .int x18] [(a0, .inr (0, [v23, v24, .ref a6, .ref a2, v25, .ref a1, v26, v27])), (a1, .inr (2, [.ref a5, v28, v29])), (a2, .inl (cT 3, 8, .inr (.inr (.inr (.inr f30))))), (a3, .inr (2, [.ref a4, .int 1, v35])), (a4, .inl (cT 2, 4096, .inr (.inl f36))), (a5, .inl (cT 2, 4096, .inr (.inl f38))), (a6, .inr (1, [.ref a7, v39, v40])), (a7, .inl (cT 0, 4096, .inl f41))] (fun A => va_Qi (fun (r : Int32) (_ : Unit) => r = 0) (fun _ t => ∃ (y1 : Int32) (y2 : Int32) (y3 : Int32) (y4 : Int32), xB D xcl cT A [(a0, .inr (0, [v23, v24, .ref a6, .ref a2, v25, .ref a1, v26, v27])), (a1, .inr (2, [.ref a5, .int 1, .int 0])), (a2, .inl (cT 3, 8, .inr (.inr (.inr (.inr (va_up f30 x8.toNatClampNeg (some a1))))))), (a3, .inr (2, [.ref a4, .int 1, v35])), (a4, .inl (cT 2, 4096, .inr (.inl f36))), (a5, .inl (cT 2, 4096, .inr (.inl (vp_updL f38 0 0)))), (a6, .inr (1, [.ref a7, .int 4, .int 0])), (a7, .inl (cT 0, 4096, .inl (upd (upd (upd (upd f41 0 (vp_nar .byte y1)) 1 (vp_nar .byte y2)) 2 (vp_nar .byte y3)) 3 (vp_nar .byte y4))))] t) A) := by
  refine va_MetW (cc := method_11_code) (maxL := 6) (ret := (some .int)) (hh := [(0, 9, 12, 19), (0, 9, 16, 33), (0, 9, 20, 13)]) (by decide) rfl ?_
  intro p e s m args below meth c s₁ B hml hv
  obtain ⟨rfl, hsz, hZ, hP, hK, hD0⟩ := hv
  have hx := B.exec
  have hb := B.bytes
  have hr := B.returns
  have hts := atoms_spec (ws := wyL_two) B.pre
  have htx := fun w h => hts w (List.mem_cons_of_mem _ h)
  have hown : s.vm.findClass "ValueBenchLaw" = some m.cls := findClass_of_methodNamed B.named
  have hlocks := B.notSynchronized
  subst hsz
  have hD := hD0.self (sz := s.heap.size)
  generalize hAe : va_A [(a0, .inr (0, [v23, v24, .ref a6, .ref a2, v25, .ref a1, v26, v27])), (a1, .inr (2, [.ref a5, v28, v29])), (a2, .inl (cT 3, 8, .inr (.inr (.inr (.inr f30))))), (a3, .inr (2, [.ref a4, .int 1, v35])), (a4, .inl (cT 2, 4096, .inr (.inl f36))), (a5, .inl (cT 2, 4096, .inr (.inl f38))), (a6, .inr (1, [.ref a7, v39, v40])), (a7, .inl (cT 0, 4096, .inl f41))] s.heap.size = A at hD hZ ⊢
  have hA : ∀ q : Nat, s.heap.size ≤ q → A q := fun q h => by rw [← hAe]; exact Or.inr h
  have hS : va_S A s.heap s.heap [] := va_S.rf
  have hP : va_P D xcl [(a0, .inr (0, [v23, v24, .ref a6, .ref a2, v25, .ref a1, v26, v27])), (a1, .inr (2, [.ref a5, v28, v29])), (a2, .inl (cT 3, 8, .inr (.inr (.inr (.inr f30))))), (a3, .inr (2, [.ref a4, .int 1, v35])), (a4, .inl (cT 2, 4096, .inr (.inl f36))), (a5, .inl (cT 2, 4096, .inr (.inl f38))), (a6, .inr (1, [.ref a7, v39, v40])), (a7, .inl (cT 0, 4096, .inl f41))] s.heap := hP
  have hl := lv_entry ([.ref a0, .int x8, .int 7, .int x13, .int x18]) (n := 6) (Nat.le_of_ble_eq_true rfl)
  rw [lg_entry_eq]
  generalize (lg_sl ([.ref a0, .int x8, .int 7, .int x13, .int x18]) ++ List.replicate (6 - (lg_sl ([.ref a0, .int x8, .int 7, .int x13, .int x18])).length) Slot.unset).toArray = ls at hl ⊢
  have hl : lv_has ls 6 [(0, .ref a0), (1, .int x8), (2, .int 7), (3, .int x13), (4, .int x18)] := hl
  have htab := vx_table (x := yL_two) B (hts _ List.mem_cons_self)
  refine lv_aload_n hx hb dL_two_0 rfl (lv_at hl 0 rfl) ?_
  refine lv_iload_n hx hb dL_two_1 rfl (lv_at hl 1 rfl) ?_
  refine lv_iload_n hx hb dL_two_2 rfl (lv_at hl 2 rfl) ?_
  refine lv_iload_n hx hb dL_two_3 rfl (lv_at hl 3 rfl) ?_
  refine lv_iload hx hb dL_two_4 (lv_at hl 4 rfl) ?_
  obtain ⟨hPc, hDc, hFc⟩ := xcut (wc := [(a0, .inr (0, [v23, v24, .ref a6, .ref a2, v25, .ref a1, v26, v27])), (a1, .inr (2, [.ref a5, v28, v29])), (a2, .inl (cT 3, 8, .inr (.inr (.inr (.inr f30))))), (a3, .inr (2, [.ref a4, .int 1, v35])), (a4, .inl (cT 2, 4096, .inr (.inl f36))), (a5, .inl (cT 2, 4096, .inr (.inl f38))), (a6, .inr (1, [.ref a7, v39, v40])), (a7, .inl (cT 0, 4096, .inl f41))]) hP hD hS hA [0, 1, 2, 3, 4, 5, 6, 7] rfl rfl (by decide)
  refine va_callv (va_runV (C := "ValueBench") (As := [.int x8, .int 7, .int x13, .int x18]) (rest := []) ⟨hx, hb, hml, hown, htx⟩ (cB_two_15 l hl9 D cT aK aV s.heap.size a0 a1 a2 a3 a4 a5 a6 a7 x8 x13 x18 v23 v24 v25 v26 v27 v28 v29 f30 b33 v35 f36 f38 v39 v40 f41 h9 h10 h11 h12 h14 h15 h16 h17 h19 h20 h21 h22 (by first | rfl | exact h31 | exact h32 | exact h34 | exact h37) (by first | rfl | exact h31 | exact h32 | exact h34 | exact h37) (by first | rfl | exact h31 | exact h32 | exact h34 | exact h37) (by first | rfl | exact h31 | exact h32 | exact h34 | exact h37)) ⟨callB_of 4 htx (xw_goodC kw_4_143) rfl rfl rfl (htx _ kw_1_1) (htx _ kw_4_140) ⟨by decide, by decide, by decide +kernel⟩ ⟨Nat.le_of_ble_eq_true rfl, Nat.le_of_ble_eq_true rfl⟩, (htx _ kw_4_141), (htx _ kw_4_142)⟩ ⟨xPre_blind, va_recv hK hP (ci := 0) rfl (q0 := 0) rfl, (fun U hU hW => ⟨rfl, xPre_of hZ hS hFc hPc hDc hK U hU hW⟩)⟩ rfl rfl hl.1 rfl (lv_room (Nat.le_of_ble_eq_true rfl)) dL_two_6 ⟨Nat.le_of_ble_eq_true rfl, Nat.le_of_ble_eq_true rfl⟩) hS (fun q _ h => hFc q h) hFc (fun u9 t H1 locs ht hvm hr9 hB hz1 hk1 hS => ?_)
  obtain ⟨y1, y2, y3, y4, hP1, hK1, hD1⟩ := hB
  rw [ht] at hP1
  obtain ⟨hP, hD⟩ := xjoin (W := [(a0, .inr (0, [v23, v24, .ref a6, .ref a2, v25, .ref a1, v26, v27])), (a1, .inr (2, [.ref a5, .int 1, .int 0])), (a2, .inl (cT 3, 8, .inr (.inr (.inr (.inr (va_up f30 x8.toNatClampNeg (some a1))))))), (a3, .inr (2, [.ref a4, .int 1, v35])), (a4, .inl (cT 2, 4096, .inr (.inl f36))), (a5, .inl (cT 2, 4096, .inr (.inl (vp_updL f38 0 0)))), (a6, .inr (1, [.ref a7, .int 4, .int 0])), (a7, .inl (cT 0, 4096, .inl (upd (upd (upd (upd f41 0 (vp_nar .byte y1)) 1 (vp_nar .byte y2)) 2 (vp_nar .byte y3)) 3 (vp_nar .byte y4))))]) hP hD [0, 1, 2, 3, 4, 5, 6, 7] [] 0 rfl rfl (by decide) (by decide) hk1 hFc hP1 hD1
  generalize H1 = H at hP hS ⊢
  refine lv_goto (tgt := 24) hx hb dL_two_9 (by decide) ?_
  refine lv_iconst (v := 0) hx hb dL_two_24 (by decide) ?_
  obtain ⟨hP9, hD9⟩ := xsub (wc := [(a0, .inr (0, [v23, v24, .ref a6, .ref a2, v25, .ref a1, v26, v27])), (a1, .inr (2, [.ref a5, .int 1, .int 0])), (a2, .inl (cT 3, 8, .inr (.inr (.inr (.inr (va_up f30 x8.toNatClampNeg (some a1))))))), (a3, .inr (2, [.ref a4, .int 1, v35])), (a4, .inl (cT 2, 4096, .inr (.inl f36))), (a5, .inl (cT 2, 4096, .inr (.inl (vp_updL f38 0 0)))), (a6, .inr (1, [.ref a7, .int 4, .int 0])), (a7, .inl (cT 0, 4096, .inl (upd (upd (upd (upd f41 0 (vp_nar .byte y1)) 1 (vp_nar .byte y2)) 2 (vp_nar .byte y3)) 3 (vp_nar .byte y4))))]) hP hD [0, 1, 2, 3, 4, 5, 6, 7] rfl rfl (by decide)
  refine W.widen (k := 0) (n := 0) (Nat.le_of_ble_eq_true rfl) (Nat.le_of_ble_eq_true rfl) ?_
  exact W.iret (v := 0) hx hb hr (fun t ht hW => ⟨⟨0, (), rfl, rfl, y1, y2, y3, y4, by rw [ht]; exact hP9, va_K.moved hW.alike hK, hD9⟩, hS.F ht⟩) hS.2.2 dL_two_25
set_option maxHeartbeats 400000000 in
set_option maxRecDepth 100000 in
theorem cB_isWithin_37 (l : Launch) (hl9 : l.stackTraces = false) (D : va_G) (cT : Nat → ClassId) (aK aV : Nat → Nat) (sz : Nat) : xMet l yB_isWithin wyB_isWithin 0 0 0 0 D cT aK aV sz [.int 8, .int 9] [] (fun A => va_Qi (fun (r : Int32) (_ : Unit) => r = 1) (fun _ t => xB D xcl cT A [] t) A) := by
  refine Met.ofW (cc := prog_1_method_15_code) (maxL := 2) (ret := (some .boolean)) (by decide) rfl ?_
  intro p e s m args below meth c s₁ B hml hv
  obtain ⟨rfl, hsz, hZ, hP, hK, hD0⟩ := hv
  have hx := B.exec
  have hb := B.bytes
  have hr := B.returns
  have hts := atoms_spec (ws := wyB_isWithin) B.pre
  have htx := fun w h => hts w (List.mem_cons_of_mem _ h)
  have hown : s.vm.findClass "ValueBench" = some m.cls := findClass_of_methodNamed B.named
  have hlocks := B.notSynchronized
  subst hsz
  have hD := hD0.self (sz := s.heap.size)
  generalize hAe : va_A [] s.heap.size = A at hD hZ ⊢
  have hA : ∀ q : Nat, s.heap.size ≤ q → A q := fun q h => by rw [← hAe]; exact Or.inr h
  have hS : va_S A s.heap s.heap [] := va_S.rf
  have hP : va_P D xcl [] s.heap := hP
  have hl := lv_entry ([.int 8, .int 9]) (n := 2) (Nat.le_of_ble_eq_true rfl)
  rw [lg_entry_eq]
  generalize (lg_sl ([.int 8, .int 9]) ++ List.replicate (2 - (lg_sl ([.int 8, .int 9])).length) Slot.unset).toArray = ls at hl ⊢
  have hl : lv_has ls 2 [(0, .int 8), (1, .int 9)] := hl
  refine lv_iload_n hx hb dB_isWithin_0 rfl (lv_at hl 0 rfl) ?_
  refine lv_if_lt (tgt := 13) hx hb dB_isWithin_1 (by decide) (fun h => ((by revert h; decide : False)).elim) (fun _ => ?_)
  refine lv_iload_n hx hb dB_isWithin_4 rfl (lv_at hl 0 rfl) ?_
  refine lv_iload_n hx hb dB_isWithin_5 rfl (lv_at hl 1 rfl) ?_
  refine lv_icmp_gt (tgt := 13) hx hb dB_isWithin_6 (by decide) (fun h => ((by revert h; decide : False)).elim) (fun _ => ?_)
  refine lv_iconst (v := 1) hx hb dB_isWithin_9 (by decide) ?_
  refine lv_goto (tgt := 14) hx hb dB_isWithin_10 (by decide) ?_
  obtain ⟨hP9, hD9⟩ := xsub (wc := []) hP hD [] rfl rfl (by decide)
  refine W.widen (k := 0) (n := 0) (Nat.le_of_ble_eq_true rfl) (Nat.le_of_ble_eq_true rfl) ?_
  exact W.zret (v := 1) hx hb hr rfl (fun t ht hW => ⟨⟨1, (), rfl, rfl, by rw [ht]; exact hP9, va_K.moved hW.alike hK, hD9⟩, hS.F ht⟩) hS.2.2 dB_isWithin_14
set_option maxHeartbeats 400000000 in
set_option maxRecDepth 100000 in
theorem cH_flat_0 (l : Launch) (hl9 : l.stackTraces = false) (D : va_G) (cT : Nat → ClassId) (aK aV : Nat → Nat) (sz : Nat) (a0 : Nat) (a1 : Nat) (b2 : Nat) (b3 : Nat) (v4 : Value) (f5 : Nat → Int64) (h6 : f5 0 = 0) : xMet l yH_flat wyH_flat 2 0 0 43 D cT aK aV sz [.ref a0, .ref b2, .ref b3] [(a0, .inr (2, [.ref a1, .int 1, v4])), (a1, .inl (cT 2, 4096, .inr (.inl f5)))] (fun A => va_Qi (fun (r : Int32) (_ : Unit) => r = 1) (fun _ t => xB D xcl cT A [(a0, .inr (2, [.ref a1, .int 1, v4])), (a1, .inl (cT 2, 4096, .inr (.inl f5)))] t) A) := by
  refine Met.ofW (cc := prog_5_method_26_code) (maxL := 5) (ret := (some .int)) (by decide) rfl ?_
  intro p e s m args below meth c s₁ B hml hv
  obtain ⟨rfl, hsz, hZ, hP, hK, hD0⟩ := hv
  have hx := B.exec
  have hb := B.bytes
  have hr := B.returns
  have hts := atoms_spec (ws := wyH_flat) B.pre
  have htx := fun w h => hts w (List.mem_cons_of_mem _ h)
  have hown : s.vm.findClass "ValueBench$Pairs" = some m.cls := findClass_of_methodNamed B.named
  have hlocks := B.notSynchronized
  subst hsz
  have hD := hD0.self (sz := s.heap.size)
  generalize hAe : va_A [(a0, .inr (2, [.ref a1, .int 1, v4])), (a1, .inl (cT 2, 4096, .inr (.inl f5)))] s.heap.size = A at hD hZ ⊢
  have hA : ∀ q : Nat, s.heap.size ≤ q → A q := fun q h => by rw [← hAe]; exact Or.inr h
  have hS : va_S A s.heap s.heap [] := va_S.rf
  have hP : va_P D xcl [(a0, .inr (2, [.ref a1, .int 1, v4])), (a1, .inl (cT 2, 4096, .inr (.inl f5)))] s.heap := hP
  have hl := lv_entry ([.ref a0, .ref b2, .ref b3]) (n := 5) (Nat.le_of_ble_eq_true rfl)
  rw [lg_entry_eq]
  generalize (lg_sl ([.ref a0, .ref b2, .ref b3]) ++ List.replicate (5 - (lg_sl ([.ref a0, .ref b2, .ref b3])).length) Slot.unset).toArray = ls at hl ⊢
  have hl : lv_has ls 5 [(0, .ref a0), (1, .ref b2), (2, .ref b3)] := hl
  refine lv_aload_n hx hb dH_flat_0 rfl (lv_at hl 0 rfl) ?_
  refine lv_iconst (v := 0) hx hb dH_flat_1 (by decide) ?_
  refine lv_iconst (v := 5) hx hb dH_flat_2 (by decide) ?_
  obtain ⟨hPc, hDc, hFc⟩ := xcut (wc := [(a0, .inr (2, [.ref a1, .int 1, v4])), (a1, .inl (cT 2, 4096, .inr (.inl f5)))]) hP hD hS hA [0, 1] rfl rfl (by decide)
  refine va_calli (va_runV (C := "ValueBench$Row") (As := [.int 0, .int 5]) (rest := []) ⟨hx, hb, hml, hown, htx⟩ (cR_is_2 l hl9 D cT aK aV s.heap.size a0 a1 v4 f5 (by first | rfl | exact h6)) ⟨callB_of 2 htx (xw_goodC kw_3_75) rfl rfl rfl (htx _ kw_1_4) (htx _ kw_4_150) ⟨by decide, by decide, by decide +kernel⟩ ⟨Nat.le_of_ble_eq_true rfl, Nat.le_of_ble_eq_true rfl⟩, (htx _ kw_3_73), (htx _ kw_3_74)⟩ ⟨xPre_blind, va_recv hK hP (ci := 2) rfl (q0 := 0) rfl, (fun U hU hW => ⟨rfl, xPre_of hZ hS hFc hPc hDc hK U hU hW⟩)⟩ rfl rfl hl.1 rfl (lv_room (Nat.le_of_ble_eq_true rfl)) dH_flat_3 ⟨Nat.le_of_ble_eq_true rfl, Nat.le_of_ble_eq_true rfl⟩) hS (fun q _ h => hFc q h) hFc (fun r1 u9 t H1 locs ht hvm hr9 hB hz1 hk1 hS => ?_)
  obtain ⟨hP1, hK1, hD1⟩ := hB
  rw [ht] at hP1
  obtain ⟨hP, hD⟩ := xjoin (W := [(a0, .inr (2, [.ref a1, .int 1, v4])), (a1, .inl (cT 2, 4096, .inr (.inl f5)))]) hP hD [0, 1] [] 0 rfl rfl (by decide) (by decide) hk1 hFc hP1 hD1
  generalize H1 = H at hP hS ⊢
  rw [hr9]
  refine W.eq (g2 := F0 m 6 ls [.int 0]) rfl ?_
  refine lv_if_eq (tgt := 18) hx hb dH_flat_6 (by decide) (fun _ => ?_) (fun h => ((by revert h; decide : False)).elim)
  refine lv_iconst (v := 1) hx hb dH_flat_18 (by decide) ?_
  obtain ⟨hP9, hD9⟩ := xsub (wc := [(a0, .inr (2, [.ref a1, .int 1, v4])), (a1, .inl (cT 2, 4096, .inr (.inl f5)))]) hP hD [0, 1] rfl rfl (by decide)
  refine W.widen (k := 0) (n := 0) (Nat.le_of_ble_eq_true rfl) (Nat.le_of_ble_eq_true rfl) ?_
  exact W.iret (v := 1) hx hb hr (fun t ht hW => ⟨⟨1, (), rfl, rfl, by rw [ht]; exact hP9, va_K.moved hW.alike hK, hD9⟩, hS.F ht⟩) hS.2.2 dH_flat_19
set_option maxHeartbeats 400000000 in
set_option maxRecDepth 100000 in
theorem cH_apply_16 (l : Launch) (hl9 : l.stackTraces = false) (D : va_G) (cT : Nat → ClassId) (aK aV : Nat → Nat) (sz : Nat) (a0 : Nat) (a1 : Nat) (b2 : Nat) (b3 : Nat) (b4 : Nat) (v5 : Value) (f6 : Nat → Int64) (h7 : f6 0 = 0) : xMet l yH_apply wyH_apply 3 0 0 67 D cT aK aV sz [.int 8, .ref a0, .ref b2, .ref b3, .ref b4] [(a0, .inr (2, [.ref a1, .int 1, v5])), (a1, .inl (cT 2, 4096, .inr (.inl f6)))] (fun A => va_Qi (fun (r : Int32) (_ : Unit) => r = 1) (fun _ t => xB D xcl cT A [(a0, .inr (2, [.ref a1, .int 1, v5])), (a1, .inl (cT 2, 4096, .inr (.inl f6)))] t) A) := by
  refine Met.ofW (cc := prog_5_method_2_code) (maxL := 5) (ret := (some .int)) (by decide) rfl ?_
  intro p e s m args below meth c s₁ B hml hv
  obtain ⟨rfl, hsz, hZ, hP, hK, hD0⟩ := hv
  have hx := B.exec
  have hb := B.bytes
  have hr := B.returns
  have hts := atoms_spec (ws := wyH_apply) B.pre
  have htx := fun w h => hts w (List.mem_cons_of_mem _ h)
  have hown : s.vm.findClass "ValueBench$Pairs" = some m.cls := findClass_of_methodNamed B.named
  have hlocks := B.notSynchronized
  subst hsz
  have hD := hD0.self (sz := s.heap.size)
  generalize hAe : va_A [(a0, .inr (2, [.ref a1, .int 1, v5])), (a1, .inl (cT 2, 4096, .inr (.inl f6)))] s.heap.size = A at hD hZ ⊢
  have hA : ∀ q : Nat, s.heap.size ≤ q → A q := fun q h => by rw [← hAe]; exact Or.inr h
  have hS : va_S A s.heap s.heap [] := va_S.rf
  have hP : va_P D xcl [(a0, .inr (2, [.ref a1, .int 1, v5])), (a1, .inl (cT 2, 4096, .inr (.inl f6)))] s.heap := hP
  have hl := lv_entry ([.int 8, .ref a0, .ref b2, .ref b3, .ref b4]) (n := 5) (Nat.le_of_ble_eq_true rfl)
  rw [lg_entry_eq]
  generalize (lg_sl ([.int 8, .ref a0, .ref b2, .ref b3, .ref b4]) ++ List.replicate (5 - (lg_sl ([.int 8, .ref a0, .ref b2, .ref b3, .ref b4])).length) Slot.unset).toArray = ls at hl ⊢
  have hl : lv_has ls 5 [(0, .int 8), (1, .ref a0), (2, .ref b2), (3, .ref b3), (4, .ref b4)] := hl
  refine lv_iload_n hx hb dH_apply_0 rfl (lv_at hl 0 rfl) ?_
  refine lv_tableIn (off := 146) (tgt := 147) hx hb dH_apply_1 (by decide) (by decide) (by decide) (by decide) ?_
  refine lv_aload_n hx hb dH_apply_147 rfl (lv_at hl 1 rfl) ?_
  refine lv_aload_n hx hb dH_apply_148 rfl (lv_at hl 2 rfl) ?_
  refine lv_aload hx hb dH_apply_149 (lv_at hl 4 rfl) ?_
  obtain ⟨hPc, hDc, hFc⟩ := xcut (wc := [(a0, .inr (2, [.ref a1, .int 1, v5])), (a1, .inl (cT 2, 4096, .inr (.inl f6)))]) hP hD hS hA [0, 1] rfl rfl (by decide)
  refine va_calli (va_runS (As := [.ref a0, .ref b2, .ref b4]) (rest := []) ⟨hx, hb, hml, hown, htx⟩ (cH_flat_0 l hl9 D cT aK aV s.heap.size a0 a1 b2 b4 v5 f6 (by first | rfl | exact h7)) ⟨callB_of 3 htx (xw_goodC kw_4_238) rfl rfl rfl (htx _ kw_1_27) (htx _ kw_4_236) ⟨by decide, by decide, by decide +kernel⟩ ⟨Nat.le_of_ble_eq_true rfl, Nat.le_of_ble_eq_true rfl⟩, htx _ kw_4_237⟩ ⟨xPre_blind, (fun U hU hW => ⟨rfl, xPre_of hZ hS hFc hPc hDc hK U hU hW⟩)⟩ rfl rfl hl.1 rfl (lv_room (Nat.le_of_ble_eq_true rfl)) dH_apply_151 ⟨Nat.le_of_ble_eq_true rfl, Nat.le_of_ble_eq_true rfl⟩) hS (fun q _ h => hFc q h) hFc (fun r1 u9 t H1 locs ht hvm hr9 hB hz1 hk1 hS => ?_)
  obtain ⟨hP1, hK1, hD1⟩ := hB
  rw [ht] at hP1
  obtain ⟨hP, hD⟩ := xjoin (W := [(a0, .inr (2, [.ref a1, .int 1, v5])), (a1, .inl (cT 2, 4096, .inr (.inl f6)))]) hP hD [0, 1] [] 0 rfl rfl (by decide) (by decide) hk1 hFc hP1 hD1
  generalize H1 = H at hP hS ⊢
  rw [hr9]
  refine W.eq (g2 := F0 m 154 ls [.int 1]) rfl ?_
  obtain ⟨hP9, hD9⟩ := xsub (wc := [(a0, .inr (2, [.ref a1, .int 1, v5])), (a1, .inl (cT 2, 4096, .inr (.inl f6)))]) hP hD [0, 1] rfl rfl (by decide)
  refine W.widen (k := 0) (n := 0) (Nat.le_of_ble_eq_true rfl) (Nat.le_of_ble_eq_true rfl) ?_
  exact W.iret (v := 1) hx hb hr (fun t ht hW => ⟨⟨1, (), rfl, rfl, by rw [ht]; exact hP9, va_K.moved hW.alike hK, hD9⟩, hS.F ht⟩) hS.2.2 dH_apply_154
set_option maxHeartbeats 400000000 in
set_option maxRecDepth 100000 in
theorem cB_two_16 (l : Launch) (hl9 : l.stackTraces = false) (D : va_G) (cT : Nat → ClassId) (aK aV : Nat → Nat) (sz : Nat) (a0 : Nat) (a1 : Nat) (a2 : Nat) (a3 : Nat) (a4 : Nat) (x5 : Int32) (x10 : Int32) (x15 : Int32) (v20 : Value) (v21 : Value) (b22 : Nat) (v23 : Value) (v24 : Value) (v25 : Value) (v26 : Value) (v27 : Value) (v28 : Value) (f29 : Nat → Option Nat) (b31 : Nat) (v33 : Value) (f34 : Nat → Int64) (h6 : ¬ x5 < 0) (h7 : ¬ 7 < x5) (h8 : x5 ≤ 7) (h9 : vp_in x5 8) (h11 : ¬ x10 < 0) (h12 : ¬ 7 < x10) (h13 : x10 ≤ 7) (h14 : vp_in x10 8) (h16 : ¬ x15 < 0) (h17 : ¬ 7 < x15) (h18 : x15 ≤ 7) (h19 : vp_in x15 8) (h30 : f29 x10.toNatClampNeg = some a3) (h32 : f29 x15.toNatClampNeg = some b31) (h35 : f34 0 = 0) : xMetX l yB_two wyB_two 7 1 6 121 D cT aK aV sz [.ref a0, .int x5, .int 8, .int x10, .int x15] [(a0, .inr (0, [v20, v21, .ref b22, .ref a2, v23, .ref a1, v24, v25])), (a1, .inr (2, [v26, v27, v28])), (a2, .inl (cT 3, 8, .inr (.inr (.inr (.inr f29))))), (a3, .inr (2, [.ref a4, .int 1, v33])), (a4, .inl (cT 2, 4096, .inr (.inl f34)))] "java/lang/ArithmeticException" (fun A t => xB D xcl cT A [(a0, .inr (0, [v20, v21, .ref b22, .ref a2, v23, .ref a1, v24, .int 1])), (a1, .inr (2, [v26, .int 0, .int 0])), (a2, .inl (cT 3, 8, .inr (.inr (.inr (.inr f29))))), (a3, .inr (2, [.ref a4, .int 1, v33])), (a4, .inl (cT 2, 4096, .inr (.inl f34)))] t) := by
  refine vx_ofW (cc := prog_1_method_10_code) (maxL := 5) (ret := none) (by decide) rfl ?_
  intro p e s m args below meth c s₁ B hml hne hv
  obtain ⟨rfl, hsz, hZ, hP, hK, hD0⟩ := hv
  have hx := B.exec
  have hb := B.bytes
  have hr := B.returns
  have hts := atoms_spec (ws := wyB_two) B.pre
  have htx := fun w h => hts w (List.mem_cons_of_mem _ h)
  have hown : s.vm.findClass "ValueBench" = some m.cls := findClass_of_methodNamed B.named
  have hlocks := B.notSynchronized
  subst hsz
  have hD := hD0.self (sz := s.heap.size)
  generalize hAe : va_A [(a0, .inr (0, [v20, v21, .ref b22, .ref a2, v23, .ref a1, v24, v25])), (a1, .inr (2, [v26, v27, v28])), (a2, .inl (cT 3, 8, .inr (.inr (.inr (.inr f29))))), (a3, .inr (2, [.ref a4, .int 1, v33])), (a4, .inl (cT 2, 4096, .inr (.inl f34)))] s.heap.size = A at hD hZ ⊢
  have hA : ∀ q : Nat, s.heap.size ≤ q → A q := fun q h => by rw [← hAe]; exact Or.inr h
  have hS : va_S A s.heap s.heap [] := va_S.rf
  have hP : va_P D xcl [(a0, .inr (0, [v20, v21, .ref b22, .ref a2, v23, .ref a1, v24, v25])), (a1, .inr (2, [v26, v27, v28])), (a2, .inl (cT 3, 8, .inr (.inr (.inr (.inr f29))))), (a3, .inr (2, [.ref a4, .int 1, v33])), (a4, .inl (cT 2, 4096, .inr (.inl f34)))] s.heap := hP
  have hl := lv_entry ([.ref a0, .int x5, .int 8, .int x10, .int x15]) (n := 5) (Nat.le_of_ble_eq_true rfl)
  rw [lg_entry_eq]
  generalize (lg_sl ([.ref a0, .int x5, .int 8, .int x10, .int x15]) ++ List.replicate (5 - (lg_sl ([.ref a0, .int x5, .int 8, .int x10, .int x15])).length) Slot.unset).toArray = ls at hl ⊢
  have hl : lv_has ls 5 [(0, .ref a0), (1, .int x5), (2, .int 8), (3, .int x10), (4, .int x15)] := hl
  refine lv_iload_n hx hb dB_two_0 rfl (lv_at hl 1 rfl) ?_
  obtain ⟨hPc, hDc, hFc⟩ := xcut (wc := []) hP hD hS hA [] rfl rfl (by decide)
  refine va_calli (va_runS (As := [.int x5]) (rest := []) ⟨hx, hb, hml, hown, htx⟩ (cB_isRegister_0 l hl9 D cT aK aV s.heap.size x5 h6 h7 h8 h9) ⟨callB_of 1 htx (xw_goodC kw_2_18) rfl rfl rfl (htx _ kw_1_1) (htx _ kw_2_16) ⟨by decide, by decide, by decide +kernel⟩ ⟨Nat.le_of_ble_eq_true rfl, Nat.le_of_ble_eq_true rfl⟩, htx _ kw_2_17⟩ ⟨xPre_blind, (fun U hU hW => ⟨rfl, xPre_of hZ hS hFc hPc hDc hK U hU hW⟩)⟩ rfl rfl hl.1 rfl (lv_room (Nat.le_of_ble_eq_true rfl)) dB_two_1 ⟨Nat.le_of_ble_eq_true rfl, Nat.le_of_ble_eq_true rfl⟩) hS (fun q _ h => hFc q h) hFc (fun r1 u9 t H1 locs ht hvm hr9 hB hz1 hk1 hS => ?_)
  obtain ⟨hP1, hK1, hD1⟩ := hB
  rw [ht] at hP1
  obtain ⟨hP, hD⟩ := xjoin (W := [(a0, .inr (0, [v20, v21, .ref b22, .ref a2, v23, .ref a1, v24, v25])), (a1, .inr (2, [v26, v27, v28])), (a2, .inl (cT 3, 8, .inr (.inr (.inr (.inr f29))))), (a3, .inr (2, [.ref a4, .int 1, v33])), (a4, .inl (cT 2, 4096, .inr (.inl f34)))]) hP hD [] [0, 1, 2, 3, 4] 5 rfl rfl (by decide) (by decide) hk1 hFc hP1 hD1
  generalize H1 = H at hP hS ⊢
  rw [hr9]
  refine W.eq (g2 := F0 m 4 ls [.int 1]) rfl ?_
  refine lv_if_eq (tgt := 35) hx hb dB_two_4 (by decide) (fun h => ((by revert h; decide : False)).elim) (fun _ => ?_)
  refine lv_iload_n hx hb dB_two_7 rfl (lv_at hl 2 rfl) ?_
  refine lv_bipush (v := 9) hx hb dB_two_8 (by decide) ?_
  obtain ⟨hPc, hDc, hFc⟩ := xcut (wc := []) hP hD hS hA [] rfl rfl (by decide)
  refine va_calli (va_runS (As := [.int 8, .int 9]) (rest := []) ⟨hx, hb, hml, hown, htx⟩ (cB_isWithin_37 l hl9 D cT aK aV H.size) ⟨callB_of 2 htx (xw_goodC kw_1_218) rfl rfl rfl (htx _ kw_1_1) (htx _ kw_1_216) ⟨by decide, by decide, by decide +kernel⟩ ⟨Nat.le_of_ble_eq_true rfl, Nat.le_of_ble_eq_true rfl⟩, htx _ kw_1_217⟩ ⟨xPre_blind, (fun U hU hW => ⟨rfl, xPre_of hZ hS hFc hPc hDc hK U hU hW⟩)⟩ rfl rfl hl.1 rfl (lv_room (Nat.le_of_ble_eq_true rfl)) dB_two_10 ⟨Nat.le_of_ble_eq_true rfl, Nat.le_of_ble_eq_true rfl⟩) hS (fun q _ h => hFc q h) hFc (fun r2 u9 t H1 locs ht hvm hr9 hB hz1 hk1 hS => ?_)
  obtain ⟨hP1, hK1, hD1⟩ := hB
  rw [ht] at hP1
  obtain ⟨hP, hD⟩ := xjoin (W := [(a0, .inr (0, [v20, v21, .ref b22, .ref a2, v23, .ref a1, v24, v25])), (a1, .inr (2, [v26, v27, v28])), (a2, .inl (cT 3, 8, .inr (.inr (.inr (.inr f29))))), (a3, .inr (2, [.ref a4, .int 1, v33])), (a4, .inl (cT 2, 4096, .inr (.inl f34)))]) hP hD [] [0, 1, 2, 3, 4] 5 rfl rfl (by decide) (by decide) hk1 hFc hP1 hD1
  generalize H1 = H at hP hS ⊢
  rw [hr9]
  refine W.eq (g2 := F0 m 13 ls [.int 1]) rfl ?_
  refine lv_if_eq (tgt := 35) hx hb dB_two_13 (by decide) (fun h => ((by revert h; decide : False)).elim) (fun _ => ?_)
  refine lv_iload_n hx hb dB_two_16 rfl (lv_at hl 3 rfl) ?_
  obtain ⟨hPc, hDc, hFc⟩ := xcut (wc := []) hP hD hS hA [] rfl rfl (by decide)
  refine va_calli (va_runS (As := [.int x10]) (rest := []) ⟨hx, hb, hml, hown, htx⟩ (cB_isRegister_0 l hl9 D cT aK aV H.size x10 h11 h12 h13 h14) ⟨callB_of 1 htx (xw_goodC kw_2_18) rfl rfl rfl (htx _ kw_1_1) (htx _ kw_2_16) ⟨by decide, by decide, by decide +kernel⟩ ⟨Nat.le_of_ble_eq_true rfl, Nat.le_of_ble_eq_true rfl⟩, htx _ kw_2_17⟩ ⟨xPre_blind, (fun U hU hW => ⟨rfl, xPre_of hZ hS hFc hPc hDc hK U hU hW⟩)⟩ rfl rfl hl.1 rfl (lv_room (Nat.le_of_ble_eq_true rfl)) dB_two_17 ⟨Nat.le_of_ble_eq_true rfl, Nat.le_of_ble_eq_true rfl⟩) hS (fun q _ h => hFc q h) hFc (fun r3 u9 t H1 locs ht hvm hr9 hB hz1 hk1 hS => ?_)
  obtain ⟨hP1, hK1, hD1⟩ := hB
  rw [ht] at hP1
  obtain ⟨hP, hD⟩ := xjoin (W := [(a0, .inr (0, [v20, v21, .ref b22, .ref a2, v23, .ref a1, v24, v25])), (a1, .inr (2, [v26, v27, v28])), (a2, .inl (cT 3, 8, .inr (.inr (.inr (.inr f29))))), (a3, .inr (2, [.ref a4, .int 1, v33])), (a4, .inl (cT 2, 4096, .inr (.inl f34)))]) hP hD [] [0, 1, 2, 3, 4] 5 rfl rfl (by decide) (by decide) hk1 hFc hP1 hD1
  generalize H1 = H at hP hS ⊢
  rw [hr9]
  refine W.eq (g2 := F0 m 20 ls [.int 1]) rfl ?_
  refine lv_if_eq (tgt := 35) hx hb dB_two_20 (by decide) (fun h => ((by revert h; decide : False)).elim) (fun _ => ?_)
  refine lv_iload hx hb dB_two_23 (lv_at hl 4 rfl) ?_
  obtain ⟨hPc, hDc, hFc⟩ := xcut (wc := []) hP hD hS hA [] rfl rfl (by decide)
  refine va_calli (va_runS (As := [.int x15]) (rest := []) ⟨hx, hb, hml, hown, htx⟩ (cB_isRegister_0 l hl9 D cT aK aV H.size x15 h16 h17 h18 h19) ⟨callB_of 1 htx (xw_goodC kw_2_18) rfl rfl rfl (htx _ kw_1_1) (htx _ kw_2_16) ⟨by decide, by decide, by decide +kernel⟩ ⟨Nat.le_of_ble_eq_true rfl, Nat.le_of_ble_eq_true rfl⟩, htx _ kw_2_17⟩ ⟨xPre_blind, (fun U hU hW => ⟨rfl, xPre_of hZ hS hFc hPc hDc hK U hU hW⟩)⟩ rfl rfl hl.1 rfl (lv_room (Nat.le_of_ble_eq_true rfl)) dB_two_25 ⟨Nat.le_of_ble_eq_true rfl, Nat.le_of_ble_eq_true rfl⟩) hS (fun q _ h => hFc q h) hFc (fun r4 u9 t H1 locs ht hvm hr9 hB hz1 hk1 hS => ?_)
  obtain ⟨hP1, hK1, hD1⟩ := hB
  rw [ht] at hP1
  obtain ⟨hP, hD⟩ := xjoin (W := [(a0, .inr (0, [v20, v21, .ref b22, .ref a2, v23, .ref a1, v24, v25])), (a1, .inr (2, [v26, v27, v28])), (a2, .inl (cT 3, 8, .inr (.inr (.inr (.inr f29))))), (a3, .inr (2, [.ref a4, .int 1, v33])), (a4, .inl (cT 2, 4096, .inr (.inl f34)))]) hP hD [] [0, 1, 2, 3, 4] 5 rfl rfl (by decide) (by decide) hk1 hFc hP1 hD1
  generalize H1 = H at hP hS ⊢
  rw [hr9]
  refine W.eq (g2 := F0 m 28 ls [.int 1]) rfl ?_
  refine lv_if_eq (tgt := 35) hx hb dB_two_28 (by decide) (fun h => ((by revert h; decide : False)).elim) (fun _ => ?_)
  refine lv_iconst (v := 1) hx hb dB_two_31 (by decide) ?_
  refine lv_goto (tgt := 36) hx hb dB_two_32 (by decide) ?_
  obtain ⟨hPc, hDc, hFc⟩ := xcut (wc := []) hP hD hS hA [] rfl rfl (by decide)
  refine va_callv (va_runS (As := [.int 1]) (rest := []) ⟨hx, hb, hml, hown, htx⟩ (cB_demand_0 l hl9 D cT aK aV H.size) ⟨callB_of 1 htx (xw_goodC kw_1_221) rfl rfl rfl (htx _ kw_1_1) (htx _ kw_1_219) ⟨by decide, by decide, by decide +kernel⟩ ⟨Nat.le_of_ble_eq_true rfl, Nat.le_of_ble_eq_true rfl⟩, htx _ kw_1_220⟩ ⟨xPre_blind, (fun U hU hW => ⟨rfl, xPre_of hZ hS hFc hPc hDc hK U hU hW⟩)⟩ rfl rfl hl.1 rfl (lv_room (Nat.le_of_ble_eq_true rfl)) dB_two_36 ⟨Nat.le_of_ble_eq_true rfl, Nat.le_of_ble_eq_true rfl⟩) hS (fun q _ h => hFc q h) hFc (fun u9 t H1 locs ht hvm hr9 hB hz1 hk1 hS => ?_)
  obtain ⟨hP1, hK1, hD1⟩ := hB
  rw [ht] at hP1
  obtain ⟨hP, hD⟩ := xjoin (W := [(a0, .inr (0, [v20, v21, .ref b22, .ref a2, v23, .ref a1, v24, v25])), (a1, .inr (2, [v26, v27, v28])), (a2, .inl (cT 3, 8, .inr (.inr (.inr (.inr f29))))), (a3, .inr (2, [.ref a4, .int 1, v33])), (a4, .inl (cT 2, 4096, .inr (.inl f34)))]) hP hD [] [0, 1, 2, 3, 4] 5 rfl rfl (by decide) (by decide) hk1 hFc hP1 hD1
  generalize H1 = H at hP hS ⊢
  refine lv_aload_n hx hb dB_two_39 rfl (lv_at hl 0 rfl) ?_
  refine va_get (D := D) (ci := 0) (v := .ref a1) (C := "ValueBench") (T := TB) (N := 8) hx hb htx inB hown hK hP 0 rfl rfl 5 (by decide) (htx _ kw_1_100) (fun _ h9 => h9) rfl dB_two_40 ?_
  obtain ⟨hPc, hDc, hFc⟩ := xcut (wc := [(a1, .inr (2, [v26, v27, v28]))]) hP hD hS hA [1] rfl rfl (by decide)
  refine va_callv (va_runV (C := "ValueBench$Row") (As := []) (rest := []) ⟨hx, hb, hml, hown, htx⟩ (cR_clear_0 l hl9 D cT aK aV H.size a1 v26 v27 v28) ⟨callB_of 0 htx (xw_goodC kw_2_22) rfl rfl rfl (htx _ kw_1_4) (htx _ kw_2_19) ⟨by decide, by decide, by decide +kernel⟩ ⟨Nat.le_of_ble_eq_true rfl, Nat.le_of_ble_eq_true rfl⟩, (htx _ kw_2_20), (htx _ kw_2_21)⟩ ⟨xPre_blind, va_recv hK hP (ci := 2) rfl (q0 := 1) rfl, (fun U hU hW => ⟨rfl, xPre_of hZ hS hFc hPc hDc hK U hU hW⟩)⟩ rfl rfl hl.1 rfl (lv_room (Nat.le_of_ble_eq_true rfl)) dB_two_43 ⟨Nat.le_of_ble_eq_true rfl, Nat.le_of_ble_eq_true rfl⟩) hS (fun q _ h => hFc q h) hFc (fun u9 t H1 locs ht hvm hr9 hB hz1 hk1 hS => ?_)
  obtain ⟨hP1, hK1, hD1⟩ := hB
  rw [ht] at hP1
  obtain ⟨hP, hD⟩ := xjoin (W := [(a0, .inr (0, [v20, v21, .ref b22, .ref a2, v23, .ref a1, v24, v25])), (a2, .inl (cT 3, 8, .inr (.inr (.inr (.inr f29))))), (a3, .inr (2, [.ref a4, .int 1, v33])), (a4, .inl (cT 2, 4096, .inr (.inl f34))), (a1, .inr (2, [v26, .int 0, .int 0]))]) hP hD [1] [0, 2, 3, 4] 4 rfl rfl (by decide) (by decide) hk1 hFc hP1 hD1
  generalize H1 = H at hP hS ⊢
  refine lv_aload_n hx hb dB_two_46 rfl (lv_at hl 0 rfl) ?_
  refine lv_iload_n hx hb dB_two_47 rfl (lv_at hl 2 rfl) ?_
  refine lv_aload_n hx hb dB_two_48 rfl (lv_at hl 0 rfl) ?_
  refine va_get (D := D) (ci := 0) (v := .ref a2) (C := "ValueBench") (T := TB) (N := 8) hx hb htx inB hown hK hP 0 rfl rfl 3 (by decide) (htx _ kw_1_98) (fun _ h9 => h9) rfl dB_two_49 ?_
  refine lv_iload_n hx hb dB_two_52 rfl (lv_at hl 3 rfl) ?_
  refine va_aldq hx hb hK hP 1 3 rfl rfl h14 dB_two_53 ?_
  refine W.eq (g2 := F0 m 54 ls [va_rf (f29 x10.toNatClampNeg), .int 8, .ref a0]) rfl ?_
  rw [h30]
  refine W.eq (g2 := F0 m 54 ls [.ref a3, .int 8, .ref a0]) rfl ?_
  refine lv_aload_n hx hb dB_two_54 rfl (lv_at hl 0 rfl) ?_
  refine va_get (D := D) (ci := 0) (v := .ref a2) (C := "ValueBench") (T := TB) (N := 8) hx hb htx inB hown hK hP 0 rfl rfl 3 (by decide) (htx _ kw_1_98) (fun _ h9 => h9) rfl dB_two_55 ?_
  refine lv_iload hx hb dB_two_58 (lv_at hl 4 rfl) ?_
  refine va_aldq hx hb hK hP 1 3 rfl rfl h19 dB_two_60 ?_
  refine W.eq (g2 := F0 m 61 ls [va_rf (f29 x15.toNatClampNeg), .ref a3, .int 8, .ref a0]) rfl ?_
  rw [h32]
  refine W.eq (g2 := F0 m 61 ls [.ref b31, .ref a3, .int 8, .ref a0]) rfl ?_
  refine lv_aload_n hx hb dB_two_61 rfl (lv_at hl 0 rfl) ?_
  refine va_get (D := D) (ci := 0) (v := .ref b22) (C := "ValueBench") (T := TB) (N := 8) hx hb htx inB hown hK hP 0 rfl rfl 2 (by decide) (htx _ kw_1_97) (fun _ h9 => h9) rfl dB_two_62 ?_
  refine lv_aload_n hx hb dB_two_65 rfl (lv_at hl 0 rfl) ?_
  refine va_get (D := D) (ci := 0) (v := .ref a1) (C := "ValueBench") (T := TB) (N := 8) hx hb htx inB hown hK hP 0 rfl rfl 5 (by decide) (htx _ kw_1_100) (fun _ h9 => h9) rfl dB_two_66 ?_
  obtain ⟨hPc, hDc, hFc⟩ := xcut (wc := [(a3, .inr (2, [.ref a4, .int 1, v33])), (a4, .inl (cT 2, 4096, .inr (.inl f34)))]) hP hD hS hA [2, 3] rfl rfl (by decide)
  refine va_calli (va_runS (As := [.int 8, .ref a3, .ref b31, .ref b22, .ref a1]) (rest := [.ref a0]) ⟨hx, hb, hml, hown, htx⟩ (cH_apply_16 l hl9 D cT aK aV H.size a3 a4 b31 b22 a1 v33 f34 (by first | rfl | exact h30 | exact h32 | exact h35)) ⟨callB_of 5 htx (xw_goodC kw_4_146) rfl rfl rfl (htx _ kw_1_27) (htx _ kw_4_144) ⟨by decide, by decide, by decide +kernel⟩ ⟨Nat.le_of_ble_eq_true rfl, Nat.le_of_ble_eq_true rfl⟩, htx _ kw_4_145⟩ ⟨xPre_blind, (fun U hU hW => ⟨rfl, xPre_of hZ hS hFc hPc hDc hK U hU hW⟩)⟩ rfl rfl hl.1 rfl (lv_room (Nat.le_of_ble_eq_true rfl)) dB_two_69 ⟨Nat.le_of_ble_eq_true rfl, Nat.le_of_ble_eq_true rfl⟩) hS (fun q _ h => hFc q h) hFc (fun r5 u9 t H1 locs ht hvm hr9 hB hz1 hk1 hS => ?_)
  obtain ⟨hP1, hK1, hD1⟩ := hB
  rw [ht] at hP1
  obtain ⟨hP, hD⟩ := xjoin (W := [(a0, .inr (0, [v20, v21, .ref b22, .ref a2, v23, .ref a1, v24, v25])), (a2, .inl (cT 3, 8, .inr (.inr (.inr (.inr f29))))), (a1, .inr (2, [v26, .int 0, .int 0])), (a3, .inr (2, [.ref a4, .int 1, v33])), (a4, .inl (cT 2, 4096, .inr (.inl f34)))]) hP hD [2, 3] [0, 1, 4] 3 rfl rfl (by decide) (by decide) hk1 hFc hP1 hD1
  generalize H1 = H at hP hS ⊢
  rw [hr9]
  refine W.eq (g2 := F0 m 72 ls [.int 1, .ref a0]) rfl ?_
  obtain ⟨hPc, hDc, hFc⟩ := xcut (wc := [(a0, .inr (0, [v20, v21, .ref b22, .ref a2, v23, .ref a1, v24, v25]))]) hP hD hS hA [0] rfl rfl (by decide)
  refine xx_thr (vx_runV (C := "ValueBench") (As := [.int 1]) (rest := []) ⟨hx, hb, hml, hown, htx⟩ (cB_demandDone_1 l hl9 D cT aK aV H.size a0 v20 v21 (.ref b22) (.ref a2) v23 (.ref a1) v24 v25) ⟨callB_of 1 htx (xw_goodC kw_3_222) rfl rfl rfl (htx _ kw_1_1) (htx _ kw_3_219) ⟨by decide, by decide, by decide +kernel⟩ ⟨Nat.le_of_ble_eq_true rfl, Nat.le_of_ble_eq_true rfl⟩, (htx _ kw_3_221), (htx _ kp_B_demandDone)⟩ ⟨xPre_blind, va_recv hK hP (ci := 0) rfl (q0 := 0) rfl, (fun U hU hW => ⟨rfl, xPre_of hZ hS hFc hPc hDc hK U hU hW⟩)⟩ rfl rfl hl.1 rfl (lv_room (Nat.le_of_ble_eq_true rfl)) dB_two_72 ⟨Nat.le_of_ble_eq_true rfl, Nat.le_of_ble_eq_true rfl⟩) hS hFc (fun q _ h => hFc q h) (fun E ce q9 u9 t H1 locs ht hvm _ hB hz1 hk1 hS hce hcv hcl => ?_)
  obtain ⟨rfl, hP1, hK1, hD1⟩ := hB
  rw [ht] at hP1
  obtain ⟨hP, hD⟩ := xjoin (W := [(a2, .inl (cT 3, 8, .inr (.inr (.inr (.inr f29))))), (a1, .inr (2, [v26, .int 0, .int 0])), (a3, .inr (2, [.ref a4, .int 1, v33])), (a4, .inl (cT 2, 4096, .inr (.inl f34))), (a0, .inr (0, [v20, v21, .ref b22, .ref a2, v23, .ref a1, v24, .int 1]))]) hP hD [0] [1, 2, 3, 4] 4 rfl rfl (by decide) (by decide) hk1 hFc hP1 hD1
  generalize H1 = H at hP hS hce ⊢
  obtain ⟨hP9, hD9⟩ := xsub (wc := [(a0, .inr (0, [v20, v21, .ref b22, .ref a2, v23, .ref a1, v24, .int 1])), (a1, .inr (2, [v26, .int 0, .int 0])), (a2, .inl (cT 3, 8, .inr (.inr (.inr (.inr f29))))), (a3, .inr (2, [.ref a4, .int 1, v33])), (a4, .inl (cT 2, 4096, .inr (.inl f34)))]) hP hD [4, 1, 0, 2, 3] rfl rfl (by decide)
  exact vx_out (E := "java/lang/ArithmeticException") (fun x h => (hne x h).elim) hlocks hce hcv hcl (fun t ht ha => ⟨(), trivial, ⟨rfl, by rw [ht]; exact hP9, va_K.moved ha hK, hD9⟩, hS.F ht⟩) hS.2.2 (Nat.le_of_ble_eq_true rfl) (Nat.le_of_ble_eq_true rfl)
set_option maxHeartbeats 400000000 in
set_option maxRecDepth 100000 in
theorem cL_two_16 (l : Launch) (hl9 : l.stackTraces = false) (D : va_G) (cT : Nat → ClassId) (aK aV : Nat → Nat) (sz : Nat) (a0 : Nat) (a1 : Nat) (a2 : Nat) (a3 : Nat) (a4 : Nat) (x5 : Int32) (x10 : Int32) (x15 : Int32) (v20 : Value) (v21 : Value) (b22 : Nat) (v23 : Value) (v24 : Value) (v25 : Value) (v26 : Value) (v27 : Value) (v28 : Value) (f29 : Nat → Option Nat) (b31 : Nat) (v33 : Value) (f34 : Nat → Int64) (h6 : ¬ x5 < 0) (h7 : ¬ 7 < x5) (h8 : x5 ≤ 7) (h9 : vp_in x5 8) (h11 : ¬ x10 < 0) (h12 : ¬ 7 < x10) (h13 : x10 ≤ 7) (h14 : vp_in x10 8) (h16 : ¬ x15 < 0) (h17 : ¬ 7 < x15) (h18 : x15 ≤ 7) (h19 : vp_in x15 8) (h30 : f29 x10.toNatClampNeg = some a3) (h32 : f29 x15.toNatClampNeg = some b31) (h35 : f34 0 = 0) : xMet l yL_two wyL_two 8 1 6 145 D cT aK aV sz [.ref a0, .int x5, .int 8, .int x10, .int x15] [(a0, .inr (0, [v20, v21, .ref b22, .ref a2, v23, .ref a1, v24, v25])), (a1, .inr (2, [v26, v27, v28])), (a2, .inl (cT 3, 8, .inr (.inr (.inr (.inr f29))))), (a3, .inr (2, [.ref a4, .int 1, v33])), (a4, .inl (cT 2, 4096, .inr (.inl f34)))] (fun A => va_Qi (fun (r : Int32) (_ : Unit) => r = 2) (fun _ t => xB D xcl cT A [(a0, .inr (0, [v20, v21, .ref b22, .ref a2, v23, .ref a1, v24, .int 1])), (a1, .inr (2, [v26, .int 0, .int 0])), (a2, .inl (cT 3, 8, .inr (.inr (.inr (.inr f29))))), (a3, .inr (2, [.ref a4, .int 1, v33])), (a4, .inl (cT 2, 4096, .inr (.inl f34)))] t) A) := by
  refine va_MetW (cc := method_11_code) (maxL := 6) (ret := (some .int)) (hh := [(0, 9, 12, 19), (0, 9, 16, 33), (0, 9, 20, 13)]) (by decide) rfl ?_
  intro p e s m args below meth c s₁ B hml hv
  obtain ⟨rfl, hsz, hZ, hP, hK, hD0⟩ := hv
  have hx := B.exec
  have hb := B.bytes
  have hr := B.returns
  have hts := atoms_spec (ws := wyL_two) B.pre
  have htx := fun w h => hts w (List.mem_cons_of_mem _ h)
  have hown : s.vm.findClass "ValueBenchLaw" = some m.cls := findClass_of_methodNamed B.named
  have hlocks := B.notSynchronized
  subst hsz
  have hD := hD0.self (sz := s.heap.size)
  generalize hAe : va_A [(a0, .inr (0, [v20, v21, .ref b22, .ref a2, v23, .ref a1, v24, v25])), (a1, .inr (2, [v26, v27, v28])), (a2, .inl (cT 3, 8, .inr (.inr (.inr (.inr f29))))), (a3, .inr (2, [.ref a4, .int 1, v33])), (a4, .inl (cT 2, 4096, .inr (.inl f34)))] s.heap.size = A at hD hZ ⊢
  have hA : ∀ q : Nat, s.heap.size ≤ q → A q := fun q h => by rw [← hAe]; exact Or.inr h
  have hS : va_S A s.heap s.heap [] := va_S.rf
  have hP : va_P D xcl [(a0, .inr (0, [v20, v21, .ref b22, .ref a2, v23, .ref a1, v24, v25])), (a1, .inr (2, [v26, v27, v28])), (a2, .inl (cT 3, 8, .inr (.inr (.inr (.inr f29))))), (a3, .inr (2, [.ref a4, .int 1, v33])), (a4, .inl (cT 2, 4096, .inr (.inl f34)))] s.heap := hP
  have hl := lv_entry ([.ref a0, .int x5, .int 8, .int x10, .int x15]) (n := 6) (Nat.le_of_ble_eq_true rfl)
  rw [lg_entry_eq]
  generalize (lg_sl ([.ref a0, .int x5, .int 8, .int x10, .int x15]) ++ List.replicate (6 - (lg_sl ([.ref a0, .int x5, .int 8, .int x10, .int x15])).length) Slot.unset).toArray = ls at hl ⊢
  have hl : lv_has ls 6 [(0, .ref a0), (1, .int x5), (2, .int 8), (3, .int x10), (4, .int x15)] := hl
  have htab := vx_table (x := yL_two) B (hts _ List.mem_cons_self)
  refine lv_aload_n hx hb dL_two_0 rfl (lv_at hl 0 rfl) ?_
  refine lv_iload_n hx hb dL_two_1 rfl (lv_at hl 1 rfl) ?_
  refine lv_iload_n hx hb dL_two_2 rfl (lv_at hl 2 rfl) ?_
  refine lv_iload_n hx hb dL_two_3 rfl (lv_at hl 3 rfl) ?_
  refine lv_iload hx hb dL_two_4 (lv_at hl 4 rfl) ?_
  obtain ⟨hPc, hDc, hFc⟩ := xcut (wc := [(a0, .inr (0, [v20, v21, .ref b22, .ref a2, v23, .ref a1, v24, v25])), (a1, .inr (2, [v26, v27, v28])), (a2, .inl (cT 3, 8, .inr (.inr (.inr (.inr f29))))), (a3, .inr (2, [.ref a4, .int 1, v33])), (a4, .inl (cT 2, 4096, .inr (.inl f34)))]) hP hD hS hA [0, 1, 2, 3, 4] rfl rfl (by decide)
  refine xx_thr (vx_runV (C := "ValueBench") (As := [.int x5, .int 8, .int x10, .int x15]) (rest := []) ⟨hx, hb, hml, hown, htx⟩ (cB_two_16 l hl9 D cT aK aV s.heap.size a0 a1 a2 a3 a4 x5 x10 x15 v20 v21 b22 v23 v24 v25 v26 v27 v28 f29 b31 v33 f34 h6 h7 h8 h9 h11 h12 h13 h14 h16 h17 h18 h19 (by first | rfl | exact h30 | exact h32 | exact h35) (by first | rfl | exact h30 | exact h32 | exact h35) (by first | rfl | exact h30 | exact h32 | exact h35)) ⟨callB_of 4 htx (xw_goodC kw_4_143) rfl rfl rfl (htx _ kw_1_1) (htx _ kw_4_140) ⟨by decide, by decide, by decide +kernel⟩ ⟨Nat.le_of_ble_eq_true rfl, Nat.le_of_ble_eq_true rfl⟩, (htx _ kw_4_141), (htx _ kw_4_142)⟩ ⟨xPre_blind, va_recv hK hP (ci := 0) rfl (q0 := 0) rfl, (fun U hU hW => ⟨rfl, xPre_of hZ hS hFc hPc hDc hK U hU hW⟩)⟩ rfl rfl hl.1 rfl (lv_room (Nat.le_of_ble_eq_true rfl)) dL_two_6 ⟨Nat.le_of_ble_eq_true rfl, Nat.le_of_ble_eq_true rfl⟩) hS hFc (fun q _ h => hFc q h) (fun E ce q9 u9 t H1 locs ht hvm _ hB hz1 hk1 hS hce hcv hcl => ?_)
  obtain ⟨rfl, hP1, hK1, hD1⟩ := hB
  rw [ht] at hP1
  obtain ⟨hP, hD⟩ := xjoin (W := [(a0, .inr (0, [v20, v21, .ref b22, .ref a2, v23, .ref a1, v24, .int 1])), (a1, .inr (2, [v26, .int 0, .int 0])), (a2, .inl (cT 3, 8, .inr (.inr (.inr (.inr f29))))), (a3, .inr (2, [.ref a4, .int 1, v33])), (a4, .inl (cT 2, 4096, .inr (.inl f34)))]) hP hD [0, 1, 2, 3, 4] [] 0 rfl rfl (by decide) (by decide) hk1 hFc hP1 hD1
  generalize H1 = H at hP hS hce ⊢
  refine vx_catch (own := "ValueBenchLaw") (name := "java/lang/ArithmeticException") (E := "java/lang/ArithmeticException") hown [⟨0, 9, 12, 19⟩] ⟨0, 9, 16, 33⟩ [⟨0, 9, 20, 13⟩] (by rw [htab]; rfl) (by intro z hz; rcases List.mem_cons.mp hz with rfl | hz; (exact Or.inr ⟨by decide, "java/lang/IllegalArgumentException", htx _ kw_1_211, hZ.2.2.2.2.2.2.2.1 _ (List.mem_of_getElem? (i := 10) rfl)⟩); cases hz) (by decide) (by decide) (htx _ kw_3_98) ((hZ.2.2.2.2.2.1 _ (List.mem_of_getElem? (i := 3) rfl)).use rfl) hce hcv hcl ?_
  refine lv_astore (lv' := [(5, .ref q9), (0, .ref a0), (1, .int x5), (2, .int 8), (3, .int x10), (4, .int x15)]) hx hb dL_two_16 hl (by decide) rfl (fun ls hl => ?_)
  refine lv_iconst (v := 2) hx hb dL_two_18 (by decide) ?_
  obtain ⟨hP9, hD9⟩ := xsub (wc := [(a0, .inr (0, [v20, v21, .ref b22, .ref a2, v23, .ref a1, v24, .int 1])), (a1, .inr (2, [v26, .int 0, .int 0])), (a2, .inl (cT 3, 8, .inr (.inr (.inr (.inr f29))))), (a3, .inr (2, [.ref a4, .int 1, v33])), (a4, .inl (cT 2, 4096, .inr (.inl f34)))]) hP hD [0, 1, 2, 3, 4] rfl rfl (by decide)
  refine W.widen (k := 1) (n := 6) (Nat.le_of_ble_eq_true rfl) (Nat.le_of_ble_eq_true rfl) ?_
  exact W.iret (v := 2) hx hb hr (fun t ht hW => ⟨⟨2, (), rfl, rfl, by rw [ht]; exact hP9, va_K.moved hW.alike hK, hD9⟩, hS.F ht⟩) hS.2.2 dL_two_19
set_option maxHeartbeats 400000000 in
set_option maxRecDepth 100000 in
theorem cH_flat_1 (l : Launch) (hl9 : l.stackTraces = false) (D : va_G) (cT : Nat → ClassId) (aK aV : Nat → Nat) (sz : Nat) (a0 : Nat) (a1 : Nat) (b2 : Nat) (v3 : Value) (f4 : Nat → Int64) (h5 : f4 0 = 0) : xMet l yH_flat wyH_flat 2 0 0 43 D cT aK aV sz [.ref a0, .ref a0, .ref b2] [(a0, .inr (2, [.ref a1, .int 1, v3])), (a1, .inl (cT 2, 4096, .inr (.inl f4)))] (fun A => va_Qi (fun (r : Int32) (_ : Unit) => r = 1) (fun _ t => xB D xcl cT A [(a0, .inr (2, [.ref a1, .int 1, v3])), (a1, .inl (cT 2, 4096, .inr (.inl f4)))] t) A) := by
  refine Met.ofW (cc := prog_5_method_26_code) (maxL := 5) (ret := (some .int)) (by decide) rfl ?_
  intro p e s m args below meth c s₁ B hml hv
  obtain ⟨rfl, hsz, hZ, hP, hK, hD0⟩ := hv
  have hx := B.exec
  have hb := B.bytes
  have hr := B.returns
  have hts := atoms_spec (ws := wyH_flat) B.pre
  have htx := fun w h => hts w (List.mem_cons_of_mem _ h)
  have hown : s.vm.findClass "ValueBench$Pairs" = some m.cls := findClass_of_methodNamed B.named
  have hlocks := B.notSynchronized
  subst hsz
  have hD := hD0.self (sz := s.heap.size)
  generalize hAe : va_A [(a0, .inr (2, [.ref a1, .int 1, v3])), (a1, .inl (cT 2, 4096, .inr (.inl f4)))] s.heap.size = A at hD hZ ⊢
  have hA : ∀ q : Nat, s.heap.size ≤ q → A q := fun q h => by rw [← hAe]; exact Or.inr h
  have hS : va_S A s.heap s.heap [] := va_S.rf
  have hP : va_P D xcl [(a0, .inr (2, [.ref a1, .int 1, v3])), (a1, .inl (cT 2, 4096, .inr (.inl f4)))] s.heap := hP
  have hl := lv_entry ([.ref a0, .ref a0, .ref b2]) (n := 5) (Nat.le_of_ble_eq_true rfl)
  rw [lg_entry_eq]
  generalize (lg_sl ([.ref a0, .ref a0, .ref b2]) ++ List.replicate (5 - (lg_sl ([.ref a0, .ref a0, .ref b2])).length) Slot.unset).toArray = ls at hl ⊢
  have hl : lv_has ls 5 [(0, .ref a0), (1, .ref a0), (2, .ref b2)] := hl
  refine lv_aload_n hx hb dH_flat_0 rfl (lv_at hl 0 rfl) ?_
  refine lv_iconst (v := 0) hx hb dH_flat_1 (by decide) ?_
  refine lv_iconst (v := 5) hx hb dH_flat_2 (by decide) ?_
  obtain ⟨hPc, hDc, hFc⟩ := xcut (wc := [(a0, .inr (2, [.ref a1, .int 1, v3])), (a1, .inl (cT 2, 4096, .inr (.inl f4)))]) hP hD hS hA [0, 1] rfl rfl (by decide)
  refine va_calli (va_runV (C := "ValueBench$Row") (As := [.int 0, .int 5]) (rest := []) ⟨hx, hb, hml, hown, htx⟩ (cR_is_2 l hl9 D cT aK aV s.heap.size a0 a1 v3 f4 (by first | rfl | exact h5)) ⟨callB_of 2 htx (xw_goodC kw_3_75) rfl rfl rfl (htx _ kw_1_4) (htx _ kw_4_150) ⟨by decide, by decide, by decide +kernel⟩ ⟨Nat.le_of_ble_eq_true rfl, Nat.le_of_ble_eq_true rfl⟩, (htx _ kw_3_73), (htx _ kw_3_74)⟩ ⟨xPre_blind, va_recv hK hP (ci := 2) rfl (q0 := 0) rfl, (fun U hU hW => ⟨rfl, xPre_of hZ hS hFc hPc hDc hK U hU hW⟩)⟩ rfl rfl hl.1 rfl (lv_room (Nat.le_of_ble_eq_true rfl)) dH_flat_3 ⟨Nat.le_of_ble_eq_true rfl, Nat.le_of_ble_eq_true rfl⟩) hS (fun q _ h => hFc q h) hFc (fun r1 u9 t H1 locs ht hvm hr9 hB hz1 hk1 hS => ?_)
  obtain ⟨hP1, hK1, hD1⟩ := hB
  rw [ht] at hP1
  obtain ⟨hP, hD⟩ := xjoin (W := [(a0, .inr (2, [.ref a1, .int 1, v3])), (a1, .inl (cT 2, 4096, .inr (.inl f4)))]) hP hD [0, 1] [] 0 rfl rfl (by decide) (by decide) hk1 hFc hP1 hD1
  generalize H1 = H at hP hS ⊢
  rw [hr9]
  refine W.eq (g2 := F0 m 6 ls [.int 0]) rfl ?_
  refine lv_if_eq (tgt := 18) hx hb dH_flat_6 (by decide) (fun _ => ?_) (fun h => ((by revert h; decide : False)).elim)
  refine lv_iconst (v := 1) hx hb dH_flat_18 (by decide) ?_
  obtain ⟨hP9, hD9⟩ := xsub (wc := [(a0, .inr (2, [.ref a1, .int 1, v3])), (a1, .inl (cT 2, 4096, .inr (.inl f4)))]) hP hD [0, 1] rfl rfl (by decide)
  refine W.widen (k := 0) (n := 0) (Nat.le_of_ble_eq_true rfl) (Nat.le_of_ble_eq_true rfl) ?_
  exact W.iret (v := 1) hx hb hr (fun t ht hW => ⟨⟨1, (), rfl, rfl, by rw [ht]; exact hP9, va_K.moved hW.alike hK, hD9⟩, hS.F ht⟩) hS.2.2 dH_flat_19
set_option maxHeartbeats 400000000 in
set_option maxRecDepth 100000 in
theorem cH_apply_17 (l : Launch) (hl9 : l.stackTraces = false) (D : va_G) (cT : Nat → ClassId) (aK aV : Nat → Nat) (sz : Nat) (a0 : Nat) (a1 : Nat) (b2 : Nat) (b3 : Nat) (v4 : Value) (f5 : Nat → Int64) (h6 : f5 0 = 0) : xMet l yH_apply wyH_apply 3 0 0 67 D cT aK aV sz [.int 8, .ref a0, .ref a0, .ref b2, .ref b3] [(a0, .inr (2, [.ref a1, .int 1, v4])), (a1, .inl (cT 2, 4096, .inr (.inl f5)))] (fun A => va_Qi (fun (r : Int32) (_ : Unit) => r = 1) (fun _ t => xB D xcl cT A [(a0, .inr (2, [.ref a1, .int 1, v4])), (a1, .inl (cT 2, 4096, .inr (.inl f5)))] t) A) := by
  refine Met.ofW (cc := prog_5_method_2_code) (maxL := 5) (ret := (some .int)) (by decide) rfl ?_
  intro p e s m args below meth c s₁ B hml hv
  obtain ⟨rfl, hsz, hZ, hP, hK, hD0⟩ := hv
  have hx := B.exec
  have hb := B.bytes
  have hr := B.returns
  have hts := atoms_spec (ws := wyH_apply) B.pre
  have htx := fun w h => hts w (List.mem_cons_of_mem _ h)
  have hown : s.vm.findClass "ValueBench$Pairs" = some m.cls := findClass_of_methodNamed B.named
  have hlocks := B.notSynchronized
  subst hsz
  have hD := hD0.self (sz := s.heap.size)
  generalize hAe : va_A [(a0, .inr (2, [.ref a1, .int 1, v4])), (a1, .inl (cT 2, 4096, .inr (.inl f5)))] s.heap.size = A at hD hZ ⊢
  have hA : ∀ q : Nat, s.heap.size ≤ q → A q := fun q h => by rw [← hAe]; exact Or.inr h
  have hS : va_S A s.heap s.heap [] := va_S.rf
  have hP : va_P D xcl [(a0, .inr (2, [.ref a1, .int 1, v4])), (a1, .inl (cT 2, 4096, .inr (.inl f5)))] s.heap := hP
  have hl := lv_entry ([.int 8, .ref a0, .ref a0, .ref b2, .ref b3]) (n := 5) (Nat.le_of_ble_eq_true rfl)
  rw [lg_entry_eq]
  generalize (lg_sl ([.int 8, .ref a0, .ref a0, .ref b2, .ref b3]) ++ List.replicate (5 - (lg_sl ([.int 8, .ref a0, .ref a0, .ref b2, .ref b3])).length) Slot.unset).toArray = ls at hl ⊢
  have hl : lv_has ls 5 [(0, .int 8), (1, .ref a0), (2, .ref a0), (3, .ref b2), (4, .ref b3)] := hl
  refine lv_iload_n hx hb dH_apply_0 rfl (lv_at hl 0 rfl) ?_
  refine lv_tableIn (off := 146) (tgt := 147) hx hb dH_apply_1 (by decide) (by decide) (by decide) (by decide) ?_
  refine lv_aload_n hx hb dH_apply_147 rfl (lv_at hl 1 rfl) ?_
  refine lv_aload_n hx hb dH_apply_148 rfl (lv_at hl 2 rfl) ?_
  refine lv_aload hx hb dH_apply_149 (lv_at hl 4 rfl) ?_
  obtain ⟨hPc, hDc, hFc⟩ := xcut (wc := [(a0, .inr (2, [.ref a1, .int 1, v4])), (a1, .inl (cT 2, 4096, .inr (.inl f5)))]) hP hD hS hA [0, 1] rfl rfl (by decide)
  refine va_calli (va_runS (As := [.ref a0, .ref a0, .ref b3]) (rest := []) ⟨hx, hb, hml, hown, htx⟩ (cH_flat_1 l hl9 D cT aK aV s.heap.size a0 a1 b3 v4 f5 (by first | rfl | exact h6)) ⟨callB_of 3 htx (xw_goodC kw_4_238) rfl rfl rfl (htx _ kw_1_27) (htx _ kw_4_236) ⟨by decide, by decide, by decide +kernel⟩ ⟨Nat.le_of_ble_eq_true rfl, Nat.le_of_ble_eq_true rfl⟩, htx _ kw_4_237⟩ ⟨xPre_blind, (fun U hU hW => ⟨rfl, xPre_of hZ hS hFc hPc hDc hK U hU hW⟩)⟩ rfl rfl hl.1 rfl (lv_room (Nat.le_of_ble_eq_true rfl)) dH_apply_151 ⟨Nat.le_of_ble_eq_true rfl, Nat.le_of_ble_eq_true rfl⟩) hS (fun q _ h => hFc q h) hFc (fun r1 u9 t H1 locs ht hvm hr9 hB hz1 hk1 hS => ?_)
  obtain ⟨hP1, hK1, hD1⟩ := hB
  rw [ht] at hP1
  obtain ⟨hP, hD⟩ := xjoin (W := [(a0, .inr (2, [.ref a1, .int 1, v4])), (a1, .inl (cT 2, 4096, .inr (.inl f5)))]) hP hD [0, 1] [] 0 rfl rfl (by decide) (by decide) hk1 hFc hP1 hD1
  generalize H1 = H at hP hS ⊢
  rw [hr9]
  refine W.eq (g2 := F0 m 154 ls [.int 1]) rfl ?_
  obtain ⟨hP9, hD9⟩ := xsub (wc := [(a0, .inr (2, [.ref a1, .int 1, v4])), (a1, .inl (cT 2, 4096, .inr (.inl f5)))]) hP hD [0, 1] rfl rfl (by decide)
  refine W.widen (k := 0) (n := 0) (Nat.le_of_ble_eq_true rfl) (Nat.le_of_ble_eq_true rfl) ?_
  exact W.iret (v := 1) hx hb hr (fun t ht hW => ⟨⟨1, (), rfl, rfl, by rw [ht]; exact hP9, va_K.moved hW.alike hK, hD9⟩, hS.F ht⟩) hS.2.2 dH_apply_154
set_option maxHeartbeats 400000000 in
set_option maxRecDepth 100000 in
theorem cB_two_17 (l : Launch) (hl9 : l.stackTraces = false) (D : va_G) (cT : Nat → ClassId) (aK aV : Nat → Nat) (sz : Nat) (a0 : Nat) (a1 : Nat) (a2 : Nat) (a3 : Nat) (a4 : Nat) (x5 : Int32) (x10 : Int32) (x15 : Int32) (v20 : Value) (v21 : Value) (b22 : Nat) (v23 : Value) (v24 : Value) (v25 : Value) (v26 : Value) (v27 : Value) (v28 : Value) (f29 : Nat → Option Nat) (v32 : Value) (f33 : Nat → Int64) (h6 : ¬ x5 < 0) (h7 : ¬ 7 < x5) (h8 : x5 ≤ 7) (h9 : vp_in x5 8) (h11 : ¬ x10 < 0) (h12 : ¬ 7 < x10) (h13 : x10 ≤ 7) (h14 : vp_in x10 8) (h16 : ¬ x15 < 0) (h17 : ¬ 7 < x15) (h18 : x15 ≤ 7) (h19 : vp_in x15 8) (h30 : f29 x10.toNatClampNeg = some a3) (h31 : f29 x15.toNatClampNeg = some a3) (h34 : f33 0 = 0) : xMetX l yB_two wyB_two 7 1 6 121 D cT aK aV sz [.ref a0, .int x5, .int 8, .int x10, .int x15] [(a0, .inr (0, [v20, v21, .ref b22, .ref a2, v23, .ref a1, v24, v25])), (a1, .inr (2, [v26, v27, v28])), (a2, .inl (cT 3, 8, .inr (.inr (.inr (.inr f29))))), (a3, .inr (2, [.ref a4, .int 1, v32])), (a4, .inl (cT 2, 4096, .inr (.inl f33)))] "java/lang/ArithmeticException" (fun A t => xB D xcl cT A [(a0, .inr (0, [v20, v21, .ref b22, .ref a2, v23, .ref a1, v24, .int 1])), (a1, .inr (2, [v26, .int 0, .int 0])), (a2, .inl (cT 3, 8, .inr (.inr (.inr (.inr f29))))), (a3, .inr (2, [.ref a4, .int 1, v32])), (a4, .inl (cT 2, 4096, .inr (.inl f33)))] t) := by
  refine vx_ofW (cc := prog_1_method_10_code) (maxL := 5) (ret := none) (by decide) rfl ?_
  intro p e s m args below meth c s₁ B hml hne hv
  obtain ⟨rfl, hsz, hZ, hP, hK, hD0⟩ := hv
  have hx := B.exec
  have hb := B.bytes
  have hr := B.returns
  have hts := atoms_spec (ws := wyB_two) B.pre
  have htx := fun w h => hts w (List.mem_cons_of_mem _ h)
  have hown : s.vm.findClass "ValueBench" = some m.cls := findClass_of_methodNamed B.named
  have hlocks := B.notSynchronized
  subst hsz
  have hD := hD0.self (sz := s.heap.size)
  generalize hAe : va_A [(a0, .inr (0, [v20, v21, .ref b22, .ref a2, v23, .ref a1, v24, v25])), (a1, .inr (2, [v26, v27, v28])), (a2, .inl (cT 3, 8, .inr (.inr (.inr (.inr f29))))), (a3, .inr (2, [.ref a4, .int 1, v32])), (a4, .inl (cT 2, 4096, .inr (.inl f33)))] s.heap.size = A at hD hZ ⊢
  have hA : ∀ q : Nat, s.heap.size ≤ q → A q := fun q h => by rw [← hAe]; exact Or.inr h
  have hS : va_S A s.heap s.heap [] := va_S.rf
  have hP : va_P D xcl [(a0, .inr (0, [v20, v21, .ref b22, .ref a2, v23, .ref a1, v24, v25])), (a1, .inr (2, [v26, v27, v28])), (a2, .inl (cT 3, 8, .inr (.inr (.inr (.inr f29))))), (a3, .inr (2, [.ref a4, .int 1, v32])), (a4, .inl (cT 2, 4096, .inr (.inl f33)))] s.heap := hP
  have hl := lv_entry ([.ref a0, .int x5, .int 8, .int x10, .int x15]) (n := 5) (Nat.le_of_ble_eq_true rfl)
  rw [lg_entry_eq]
  generalize (lg_sl ([.ref a0, .int x5, .int 8, .int x10, .int x15]) ++ List.replicate (5 - (lg_sl ([.ref a0, .int x5, .int 8, .int x10, .int x15])).length) Slot.unset).toArray = ls at hl ⊢
  have hl : lv_has ls 5 [(0, .ref a0), (1, .int x5), (2, .int 8), (3, .int x10), (4, .int x15)] := hl
  refine lv_iload_n hx hb dB_two_0 rfl (lv_at hl 1 rfl) ?_
  obtain ⟨hPc, hDc, hFc⟩ := xcut (wc := []) hP hD hS hA [] rfl rfl (by decide)
  refine va_calli (va_runS (As := [.int x5]) (rest := []) ⟨hx, hb, hml, hown, htx⟩ (cB_isRegister_0 l hl9 D cT aK aV s.heap.size x5 h6 h7 h8 h9) ⟨callB_of 1 htx (xw_goodC kw_2_18) rfl rfl rfl (htx _ kw_1_1) (htx _ kw_2_16) ⟨by decide, by decide, by decide +kernel⟩ ⟨Nat.le_of_ble_eq_true rfl, Nat.le_of_ble_eq_true rfl⟩, htx _ kw_2_17⟩ ⟨xPre_blind, (fun U hU hW => ⟨rfl, xPre_of hZ hS hFc hPc hDc hK U hU hW⟩)⟩ rfl rfl hl.1 rfl (lv_room (Nat.le_of_ble_eq_true rfl)) dB_two_1 ⟨Nat.le_of_ble_eq_true rfl, Nat.le_of_ble_eq_true rfl⟩) hS (fun q _ h => hFc q h) hFc (fun r1 u9 t H1 locs ht hvm hr9 hB hz1 hk1 hS => ?_)
  obtain ⟨hP1, hK1, hD1⟩ := hB
  rw [ht] at hP1
  obtain ⟨hP, hD⟩ := xjoin (W := [(a0, .inr (0, [v20, v21, .ref b22, .ref a2, v23, .ref a1, v24, v25])), (a1, .inr (2, [v26, v27, v28])), (a2, .inl (cT 3, 8, .inr (.inr (.inr (.inr f29))))), (a3, .inr (2, [.ref a4, .int 1, v32])), (a4, .inl (cT 2, 4096, .inr (.inl f33)))]) hP hD [] [0, 1, 2, 3, 4] 5 rfl rfl (by decide) (by decide) hk1 hFc hP1 hD1
  generalize H1 = H at hP hS ⊢
  rw [hr9]
  refine W.eq (g2 := F0 m 4 ls [.int 1]) rfl ?_
  refine lv_if_eq (tgt := 35) hx hb dB_two_4 (by decide) (fun h => ((by revert h; decide : False)).elim) (fun _ => ?_)
  refine lv_iload_n hx hb dB_two_7 rfl (lv_at hl 2 rfl) ?_
  refine lv_bipush (v := 9) hx hb dB_two_8 (by decide) ?_
  obtain ⟨hPc, hDc, hFc⟩ := xcut (wc := []) hP hD hS hA [] rfl rfl (by decide)
  refine va_calli (va_runS (As := [.int 8, .int 9]) (rest := []) ⟨hx, hb, hml, hown, htx⟩ (cB_isWithin_37 l hl9 D cT aK aV H.size) ⟨callB_of 2 htx (xw_goodC kw_1_218) rfl rfl rfl (htx _ kw_1_1) (htx _ kw_1_216) ⟨by decide, by decide, by decide +kernel⟩ ⟨Nat.le_of_ble_eq_true rfl, Nat.le_of_ble_eq_true rfl⟩, htx _ kw_1_217⟩ ⟨xPre_blind, (fun U hU hW => ⟨rfl, xPre_of hZ hS hFc hPc hDc hK U hU hW⟩)⟩ rfl rfl hl.1 rfl (lv_room (Nat.le_of_ble_eq_true rfl)) dB_two_10 ⟨Nat.le_of_ble_eq_true rfl, Nat.le_of_ble_eq_true rfl⟩) hS (fun q _ h => hFc q h) hFc (fun r2 u9 t H1 locs ht hvm hr9 hB hz1 hk1 hS => ?_)
  obtain ⟨hP1, hK1, hD1⟩ := hB
  rw [ht] at hP1
  obtain ⟨hP, hD⟩ := xjoin (W := [(a0, .inr (0, [v20, v21, .ref b22, .ref a2, v23, .ref a1, v24, v25])), (a1, .inr (2, [v26, v27, v28])), (a2, .inl (cT 3, 8, .inr (.inr (.inr (.inr f29))))), (a3, .inr (2, [.ref a4, .int 1, v32])), (a4, .inl (cT 2, 4096, .inr (.inl f33)))]) hP hD [] [0, 1, 2, 3, 4] 5 rfl rfl (by decide) (by decide) hk1 hFc hP1 hD1
  generalize H1 = H at hP hS ⊢
  rw [hr9]
  refine W.eq (g2 := F0 m 13 ls [.int 1]) rfl ?_
  refine lv_if_eq (tgt := 35) hx hb dB_two_13 (by decide) (fun h => ((by revert h; decide : False)).elim) (fun _ => ?_)
  refine lv_iload_n hx hb dB_two_16 rfl (lv_at hl 3 rfl) ?_
  obtain ⟨hPc, hDc, hFc⟩ := xcut (wc := []) hP hD hS hA [] rfl rfl (by decide)
  refine va_calli (va_runS (As := [.int x10]) (rest := []) ⟨hx, hb, hml, hown, htx⟩ (cB_isRegister_0 l hl9 D cT aK aV H.size x10 h11 h12 h13 h14) ⟨callB_of 1 htx (xw_goodC kw_2_18) rfl rfl rfl (htx _ kw_1_1) (htx _ kw_2_16) ⟨by decide, by decide, by decide +kernel⟩ ⟨Nat.le_of_ble_eq_true rfl, Nat.le_of_ble_eq_true rfl⟩, htx _ kw_2_17⟩ ⟨xPre_blind, (fun U hU hW => ⟨rfl, xPre_of hZ hS hFc hPc hDc hK U hU hW⟩)⟩ rfl rfl hl.1 rfl (lv_room (Nat.le_of_ble_eq_true rfl)) dB_two_17 ⟨Nat.le_of_ble_eq_true rfl, Nat.le_of_ble_eq_true rfl⟩) hS (fun q _ h => hFc q h) hFc (fun r3 u9 t H1 locs ht hvm hr9 hB hz1 hk1 hS => ?_)
  obtain ⟨hP1, hK1, hD1⟩ := hB
  rw [ht] at hP1
  obtain ⟨hP, hD⟩ := xjoin (W := [(a0, .inr (0, [v20, v21, .ref b22, .ref a2, v23, .ref a1, v24, v25])), (a1, .inr (2, [v26, v27, v28])), (a2, .inl (cT 3, 8, .inr (.inr (.inr (.inr f29))))), (a3, .inr (2, [.ref a4, .int 1, v32])), (a4, .inl (cT 2, 4096, .inr (.inl f33)))]) hP hD [] [0, 1, 2, 3, 4] 5 rfl rfl (by decide) (by decide) hk1 hFc hP1 hD1
  generalize H1 = H at hP hS ⊢
  rw [hr9]
  refine W.eq (g2 := F0 m 20 ls [.int 1]) rfl ?_
  refine lv_if_eq (tgt := 35) hx hb dB_two_20 (by decide) (fun h => ((by revert h; decide : False)).elim) (fun _ => ?_)
  refine lv_iload hx hb dB_two_23 (lv_at hl 4 rfl) ?_
  obtain ⟨hPc, hDc, hFc⟩ := xcut (wc := []) hP hD hS hA [] rfl rfl (by decide)
  refine va_calli (va_runS (As := [.int x15]) (rest := []) ⟨hx, hb, hml, hown, htx⟩ (cB_isRegister_0 l hl9 D cT aK aV H.size x15 h16 h17 h18 h19) ⟨callB_of 1 htx (xw_goodC kw_2_18) rfl rfl rfl (htx _ kw_1_1) (htx _ kw_2_16) ⟨by decide, by decide, by decide +kernel⟩ ⟨Nat.le_of_ble_eq_true rfl, Nat.le_of_ble_eq_true rfl⟩, htx _ kw_2_17⟩ ⟨xPre_blind, (fun U hU hW => ⟨rfl, xPre_of hZ hS hFc hPc hDc hK U hU hW⟩)⟩ rfl rfl hl.1 rfl (lv_room (Nat.le_of_ble_eq_true rfl)) dB_two_25 ⟨Nat.le_of_ble_eq_true rfl, Nat.le_of_ble_eq_true rfl⟩) hS (fun q _ h => hFc q h) hFc (fun r4 u9 t H1 locs ht hvm hr9 hB hz1 hk1 hS => ?_)
  obtain ⟨hP1, hK1, hD1⟩ := hB
  rw [ht] at hP1
  obtain ⟨hP, hD⟩ := xjoin (W := [(a0, .inr (0, [v20, v21, .ref b22, .ref a2, v23, .ref a1, v24, v25])), (a1, .inr (2, [v26, v27, v28])), (a2, .inl (cT 3, 8, .inr (.inr (.inr (.inr f29))))), (a3, .inr (2, [.ref a4, .int 1, v32])), (a4, .inl (cT 2, 4096, .inr (.inl f33)))]) hP hD [] [0, 1, 2, 3, 4] 5 rfl rfl (by decide) (by decide) hk1 hFc hP1 hD1
  generalize H1 = H at hP hS ⊢
  rw [hr9]
  refine W.eq (g2 := F0 m 28 ls [.int 1]) rfl ?_
  refine lv_if_eq (tgt := 35) hx hb dB_two_28 (by decide) (fun h => ((by revert h; decide : False)).elim) (fun _ => ?_)
  refine lv_iconst (v := 1) hx hb dB_two_31 (by decide) ?_
  refine lv_goto (tgt := 36) hx hb dB_two_32 (by decide) ?_
  obtain ⟨hPc, hDc, hFc⟩ := xcut (wc := []) hP hD hS hA [] rfl rfl (by decide)
  refine va_callv (va_runS (As := [.int 1]) (rest := []) ⟨hx, hb, hml, hown, htx⟩ (cB_demand_0 l hl9 D cT aK aV H.size) ⟨callB_of 1 htx (xw_goodC kw_1_221) rfl rfl rfl (htx _ kw_1_1) (htx _ kw_1_219) ⟨by decide, by decide, by decide +kernel⟩ ⟨Nat.le_of_ble_eq_true rfl, Nat.le_of_ble_eq_true rfl⟩, htx _ kw_1_220⟩ ⟨xPre_blind, (fun U hU hW => ⟨rfl, xPre_of hZ hS hFc hPc hDc hK U hU hW⟩)⟩ rfl rfl hl.1 rfl (lv_room (Nat.le_of_ble_eq_true rfl)) dB_two_36 ⟨Nat.le_of_ble_eq_true rfl, Nat.le_of_ble_eq_true rfl⟩) hS (fun q _ h => hFc q h) hFc (fun u9 t H1 locs ht hvm hr9 hB hz1 hk1 hS => ?_)
  obtain ⟨hP1, hK1, hD1⟩ := hB
  rw [ht] at hP1
  obtain ⟨hP, hD⟩ := xjoin (W := [(a0, .inr (0, [v20, v21, .ref b22, .ref a2, v23, .ref a1, v24, v25])), (a1, .inr (2, [v26, v27, v28])), (a2, .inl (cT 3, 8, .inr (.inr (.inr (.inr f29))))), (a3, .inr (2, [.ref a4, .int 1, v32])), (a4, .inl (cT 2, 4096, .inr (.inl f33)))]) hP hD [] [0, 1, 2, 3, 4] 5 rfl rfl (by decide) (by decide) hk1 hFc hP1 hD1
  generalize H1 = H at hP hS ⊢
  refine lv_aload_n hx hb dB_two_39 rfl (lv_at hl 0 rfl) ?_
  refine va_get (D := D) (ci := 0) (v := .ref a1) (C := "ValueBench") (T := TB) (N := 8) hx hb htx inB hown hK hP 0 rfl rfl 5 (by decide) (htx _ kw_1_100) (fun _ h9 => h9) rfl dB_two_40 ?_
  obtain ⟨hPc, hDc, hFc⟩ := xcut (wc := [(a1, .inr (2, [v26, v27, v28]))]) hP hD hS hA [1] rfl rfl (by decide)
  refine va_callv (va_runV (C := "ValueBench$Row") (As := []) (rest := []) ⟨hx, hb, hml, hown, htx⟩ (cR_clear_0 l hl9 D cT aK aV H.size a1 v26 v27 v28) ⟨callB_of 0 htx (xw_goodC kw_2_22) rfl rfl rfl (htx _ kw_1_4) (htx _ kw_2_19) ⟨by decide, by decide, by decide +kernel⟩ ⟨Nat.le_of_ble_eq_true rfl, Nat.le_of_ble_eq_true rfl⟩, (htx _ kw_2_20), (htx _ kw_2_21)⟩ ⟨xPre_blind, va_recv hK hP (ci := 2) rfl (q0 := 1) rfl, (fun U hU hW => ⟨rfl, xPre_of hZ hS hFc hPc hDc hK U hU hW⟩)⟩ rfl rfl hl.1 rfl (lv_room (Nat.le_of_ble_eq_true rfl)) dB_two_43 ⟨Nat.le_of_ble_eq_true rfl, Nat.le_of_ble_eq_true rfl⟩) hS (fun q _ h => hFc q h) hFc (fun u9 t H1 locs ht hvm hr9 hB hz1 hk1 hS => ?_)
  obtain ⟨hP1, hK1, hD1⟩ := hB
  rw [ht] at hP1
  obtain ⟨hP, hD⟩ := xjoin (W := [(a0, .inr (0, [v20, v21, .ref b22, .ref a2, v23, .ref a1, v24, v25])), (a2, .inl (cT 3, 8, .inr (.inr (.inr (.inr f29))))), (a3, .inr (2, [.ref a4, .int 1, v32])), (a4, .inl (cT 2, 4096, .inr (.inl f33))), (a1, .inr (2, [v26, .int 0, .int 0]))]) hP hD [1] [0, 2, 3, 4] 4 rfl rfl (by decide) (by decide) hk1 hFc hP1 hD1
  generalize H1 = H at hP hS ⊢
  refine lv_aload_n hx hb dB_two_46 rfl (lv_at hl 0 rfl) ?_
  refine lv_iload_n hx hb dB_two_47 rfl (lv_at hl 2 rfl) ?_
  refine lv_aload_n hx hb dB_two_48 rfl (lv_at hl 0 rfl) ?_
  refine va_get (D := D) (ci := 0) (v := .ref a2) (C := "ValueBench") (T := TB) (N := 8) hx hb htx inB hown hK hP 0 rfl rfl 3 (by decide) (htx _ kw_1_98) (fun _ h9 => h9) rfl dB_two_49 ?_
  refine lv_iload_n hx hb dB_two_52 rfl (lv_at hl 3 rfl) ?_
  refine va_aldq hx hb hK hP 1 3 rfl rfl h14 dB_two_53 ?_
  refine W.eq (g2 := F0 m 54 ls [va_rf (f29 x10.toNatClampNeg), .int 8, .ref a0]) rfl ?_
  rw [h30]
  refine W.eq (g2 := F0 m 54 ls [.ref a3, .int 8, .ref a0]) rfl ?_
  refine lv_aload_n hx hb dB_two_54 rfl (lv_at hl 0 rfl) ?_
  refine va_get (D := D) (ci := 0) (v := .ref a2) (C := "ValueBench") (T := TB) (N := 8) hx hb htx inB hown hK hP 0 rfl rfl 3 (by decide) (htx _ kw_1_98) (fun _ h9 => h9) rfl dB_two_55 ?_
  refine lv_iload hx hb dB_two_58 (lv_at hl 4 rfl) ?_
  refine va_aldq hx hb hK hP 1 3 rfl rfl h19 dB_two_60 ?_
  refine W.eq (g2 := F0 m 61 ls [va_rf (f29 x15.toNatClampNeg), .ref a3, .int 8, .ref a0]) rfl ?_
  rw [h31]
  refine W.eq (g2 := F0 m 61 ls [.ref a3, .ref a3, .int 8, .ref a0]) rfl ?_
  refine lv_aload_n hx hb dB_two_61 rfl (lv_at hl 0 rfl) ?_
  refine va_get (D := D) (ci := 0) (v := .ref b22) (C := "ValueBench") (T := TB) (N := 8) hx hb htx inB hown hK hP 0 rfl rfl 2 (by decide) (htx _ kw_1_97) (fun _ h9 => h9) rfl dB_two_62 ?_
  refine lv_aload_n hx hb dB_two_65 rfl (lv_at hl 0 rfl) ?_
  refine va_get (D := D) (ci := 0) (v := .ref a1) (C := "ValueBench") (T := TB) (N := 8) hx hb htx inB hown hK hP 0 rfl rfl 5 (by decide) (htx _ kw_1_100) (fun _ h9 => h9) rfl dB_two_66 ?_
  obtain ⟨hPc, hDc, hFc⟩ := xcut (wc := [(a3, .inr (2, [.ref a4, .int 1, v32])), (a4, .inl (cT 2, 4096, .inr (.inl f33)))]) hP hD hS hA [2, 3] rfl rfl (by decide)
  refine va_calli (va_runS (As := [.int 8, .ref a3, .ref a3, .ref b22, .ref a1]) (rest := [.ref a0]) ⟨hx, hb, hml, hown, htx⟩ (cH_apply_17 l hl9 D cT aK aV H.size a3 a4 b22 a1 v32 f33 (by first | rfl | exact h30 | exact h31 | exact h34)) ⟨callB_of 5 htx (xw_goodC kw_4_146) rfl rfl rfl (htx _ kw_1_27) (htx _ kw_4_144) ⟨by decide, by decide, by decide +kernel⟩ ⟨Nat.le_of_ble_eq_true rfl, Nat.le_of_ble_eq_true rfl⟩, htx _ kw_4_145⟩ ⟨xPre_blind, (fun U hU hW => ⟨rfl, xPre_of hZ hS hFc hPc hDc hK U hU hW⟩)⟩ rfl rfl hl.1 rfl (lv_room (Nat.le_of_ble_eq_true rfl)) dB_two_69 ⟨Nat.le_of_ble_eq_true rfl, Nat.le_of_ble_eq_true rfl⟩) hS (fun q _ h => hFc q h) hFc (fun r5 u9 t H1 locs ht hvm hr9 hB hz1 hk1 hS => ?_)
  obtain ⟨hP1, hK1, hD1⟩ := hB
  rw [ht] at hP1
  obtain ⟨hP, hD⟩ := xjoin (W := [(a0, .inr (0, [v20, v21, .ref b22, .ref a2, v23, .ref a1, v24, v25])), (a2, .inl (cT 3, 8, .inr (.inr (.inr (.inr f29))))), (a1, .inr (2, [v26, .int 0, .int 0])), (a3, .inr (2, [.ref a4, .int 1, v32])), (a4, .inl (cT 2, 4096, .inr (.inl f33)))]) hP hD [2, 3] [0, 1, 4] 3 rfl rfl (by decide) (by decide) hk1 hFc hP1 hD1
  generalize H1 = H at hP hS ⊢
  rw [hr9]
  refine W.eq (g2 := F0 m 72 ls [.int 1, .ref a0]) rfl ?_
  obtain ⟨hPc, hDc, hFc⟩ := xcut (wc := [(a0, .inr (0, [v20, v21, .ref b22, .ref a2, v23, .ref a1, v24, v25]))]) hP hD hS hA [0] rfl rfl (by decide)
  refine xx_thr (vx_runV (C := "ValueBench") (As := [.int 1]) (rest := []) ⟨hx, hb, hml, hown, htx⟩ (cB_demandDone_1 l hl9 D cT aK aV H.size a0 v20 v21 (.ref b22) (.ref a2) v23 (.ref a1) v24 v25) ⟨callB_of 1 htx (xw_goodC kw_3_222) rfl rfl rfl (htx _ kw_1_1) (htx _ kw_3_219) ⟨by decide, by decide, by decide +kernel⟩ ⟨Nat.le_of_ble_eq_true rfl, Nat.le_of_ble_eq_true rfl⟩, (htx _ kw_3_221), (htx _ kp_B_demandDone)⟩ ⟨xPre_blind, va_recv hK hP (ci := 0) rfl (q0 := 0) rfl, (fun U hU hW => ⟨rfl, xPre_of hZ hS hFc hPc hDc hK U hU hW⟩)⟩ rfl rfl hl.1 rfl (lv_room (Nat.le_of_ble_eq_true rfl)) dB_two_72 ⟨Nat.le_of_ble_eq_true rfl, Nat.le_of_ble_eq_true rfl⟩) hS hFc (fun q _ h => hFc q h) (fun E ce q9 u9 t H1 locs ht hvm _ hB hz1 hk1 hS hce hcv hcl => ?_)
  obtain ⟨rfl, hP1, hK1, hD1⟩ := hB
  rw [ht] at hP1
  obtain ⟨hP, hD⟩ := xjoin (W := [(a2, .inl (cT 3, 8, .inr (.inr (.inr (.inr f29))))), (a1, .inr (2, [v26, .int 0, .int 0])), (a3, .inr (2, [.ref a4, .int 1, v32])), (a4, .inl (cT 2, 4096, .inr (.inl f33))), (a0, .inr (0, [v20, v21, .ref b22, .ref a2, v23, .ref a1, v24, .int 1]))]) hP hD [0] [1, 2, 3, 4] 4 rfl rfl (by decide) (by decide) hk1 hFc hP1 hD1
  generalize H1 = H at hP hS hce ⊢
  obtain ⟨hP9, hD9⟩ := xsub (wc := [(a0, .inr (0, [v20, v21, .ref b22, .ref a2, v23, .ref a1, v24, .int 1])), (a1, .inr (2, [v26, .int 0, .int 0])), (a2, .inl (cT 3, 8, .inr (.inr (.inr (.inr f29))))), (a3, .inr (2, [.ref a4, .int 1, v32])), (a4, .inl (cT 2, 4096, .inr (.inl f33)))]) hP hD [4, 1, 0, 2, 3] rfl rfl (by decide)
  exact vx_out (E := "java/lang/ArithmeticException") (fun x h => (hne x h).elim) hlocks hce hcv hcl (fun t ht ha => ⟨(), trivial, ⟨rfl, by rw [ht]; exact hP9, va_K.moved ha hK, hD9⟩, hS.F ht⟩) hS.2.2 (Nat.le_of_ble_eq_true rfl) (Nat.le_of_ble_eq_true rfl)
set_option maxHeartbeats 400000000 in
set_option maxRecDepth 100000 in
theorem cL_two_17 (l : Launch) (hl9 : l.stackTraces = false) (D : va_G) (cT : Nat → ClassId) (aK aV : Nat → Nat) (sz : Nat) (a0 : Nat) (a1 : Nat) (a2 : Nat) (a3 : Nat) (a4 : Nat) (x5 : Int32) (x10 : Int32) (x15 : Int32) (v20 : Value) (v21 : Value) (b22 : Nat) (v23 : Value) (v24 : Value) (v25 : Value) (v26 : Value) (v27 : Value) (v28 : Value) (f29 : Nat → Option Nat) (v32 : Value) (f33 : Nat → Int64) (h6 : ¬ x5 < 0) (h7 : ¬ 7 < x5) (h8 : x5 ≤ 7) (h9 : vp_in x5 8) (h11 : ¬ x10 < 0) (h12 : ¬ 7 < x10) (h13 : x10 ≤ 7) (h14 : vp_in x10 8) (h16 : ¬ x15 < 0) (h17 : ¬ 7 < x15) (h18 : x15 ≤ 7) (h19 : vp_in x15 8) (h30 : f29 x10.toNatClampNeg = some a3) (h31 : f29 x15.toNatClampNeg = some a3) (h34 : f33 0 = 0) : xMet l yL_two wyL_two 8 1 6 145 D cT aK aV sz [.ref a0, .int x5, .int 8, .int x10, .int x15] [(a0, .inr (0, [v20, v21, .ref b22, .ref a2, v23, .ref a1, v24, v25])), (a1, .inr (2, [v26, v27, v28])), (a2, .inl (cT 3, 8, .inr (.inr (.inr (.inr f29))))), (a3, .inr (2, [.ref a4, .int 1, v32])), (a4, .inl (cT 2, 4096, .inr (.inl f33)))] (fun A => va_Qi (fun (r : Int32) (_ : Unit) => r = 2) (fun _ t => xB D xcl cT A [(a0, .inr (0, [v20, v21, .ref b22, .ref a2, v23, .ref a1, v24, .int 1])), (a1, .inr (2, [v26, .int 0, .int 0])), (a2, .inl (cT 3, 8, .inr (.inr (.inr (.inr f29))))), (a3, .inr (2, [.ref a4, .int 1, v32])), (a4, .inl (cT 2, 4096, .inr (.inl f33)))] t) A) := by
  refine va_MetW (cc := method_11_code) (maxL := 6) (ret := (some .int)) (hh := [(0, 9, 12, 19), (0, 9, 16, 33), (0, 9, 20, 13)]) (by decide) rfl ?_
  intro p e s m args below meth c s₁ B hml hv
  obtain ⟨rfl, hsz, hZ, hP, hK, hD0⟩ := hv
  have hx := B.exec
  have hb := B.bytes
  have hr := B.returns
  have hts := atoms_spec (ws := wyL_two) B.pre
  have htx := fun w h => hts w (List.mem_cons_of_mem _ h)
  have hown : s.vm.findClass "ValueBenchLaw" = some m.cls := findClass_of_methodNamed B.named
  have hlocks := B.notSynchronized
  subst hsz
  have hD := hD0.self (sz := s.heap.size)
  generalize hAe : va_A [(a0, .inr (0, [v20, v21, .ref b22, .ref a2, v23, .ref a1, v24, v25])), (a1, .inr (2, [v26, v27, v28])), (a2, .inl (cT 3, 8, .inr (.inr (.inr (.inr f29))))), (a3, .inr (2, [.ref a4, .int 1, v32])), (a4, .inl (cT 2, 4096, .inr (.inl f33)))] s.heap.size = A at hD hZ ⊢
  have hA : ∀ q : Nat, s.heap.size ≤ q → A q := fun q h => by rw [← hAe]; exact Or.inr h
  have hS : va_S A s.heap s.heap [] := va_S.rf
  have hP : va_P D xcl [(a0, .inr (0, [v20, v21, .ref b22, .ref a2, v23, .ref a1, v24, v25])), (a1, .inr (2, [v26, v27, v28])), (a2, .inl (cT 3, 8, .inr (.inr (.inr (.inr f29))))), (a3, .inr (2, [.ref a4, .int 1, v32])), (a4, .inl (cT 2, 4096, .inr (.inl f33)))] s.heap := hP
  have hl := lv_entry ([.ref a0, .int x5, .int 8, .int x10, .int x15]) (n := 6) (Nat.le_of_ble_eq_true rfl)
  rw [lg_entry_eq]
  generalize (lg_sl ([.ref a0, .int x5, .int 8, .int x10, .int x15]) ++ List.replicate (6 - (lg_sl ([.ref a0, .int x5, .int 8, .int x10, .int x15])).length) Slot.unset).toArray = ls at hl ⊢
  have hl : lv_has ls 6 [(0, .ref a0), (1, .int x5), (2, .int 8), (3, .int x10), (4, .int x15)] := hl
  have htab := vx_table (x := yL_two) B (hts _ List.mem_cons_self)
  refine lv_aload_n hx hb dL_two_0 rfl (lv_at hl 0 rfl) ?_
  refine lv_iload_n hx hb dL_two_1 rfl (lv_at hl 1 rfl) ?_
  refine lv_iload_n hx hb dL_two_2 rfl (lv_at hl 2 rfl) ?_
  refine lv_iload_n hx hb dL_two_3 rfl (lv_at hl 3 rfl) ?_
  refine lv_iload hx hb dL_two_4 (lv_at hl 4 rfl) ?_
  obtain ⟨hPc, hDc, hFc⟩ := xcut (wc := [(a0, .inr (0, [v20, v21, .ref b22, .ref a2, v23, .ref a1, v24, v25])), (a1, .inr (2, [v26, v27, v28])), (a2, .inl (cT 3, 8, .inr (.inr (.inr (.inr f29))))), (a3, .inr (2, [.ref a4, .int 1, v32])), (a4, .inl (cT 2, 4096, .inr (.inl f33)))]) hP hD hS hA [0, 1, 2, 3, 4] rfl rfl (by decide)
  refine xx_thr (vx_runV (C := "ValueBench") (As := [.int x5, .int 8, .int x10, .int x15]) (rest := []) ⟨hx, hb, hml, hown, htx⟩ (cB_two_17 l hl9 D cT aK aV s.heap.size a0 a1 a2 a3 a4 x5 x10 x15 v20 v21 b22 v23 v24 v25 v26 v27 v28 f29 v32 f33 h6 h7 h8 h9 h11 h12 h13 h14 h16 h17 h18 h19 (by first | rfl | exact h30 | exact h31 | exact h34) (by first | rfl | exact h30 | exact h31 | exact h34) (by first | rfl | exact h30 | exact h31 | exact h34)) ⟨callB_of 4 htx (xw_goodC kw_4_143) rfl rfl rfl (htx _ kw_1_1) (htx _ kw_4_140) ⟨by decide, by decide, by decide +kernel⟩ ⟨Nat.le_of_ble_eq_true rfl, Nat.le_of_ble_eq_true rfl⟩, (htx _ kw_4_141), (htx _ kw_4_142)⟩ ⟨xPre_blind, va_recv hK hP (ci := 0) rfl (q0 := 0) rfl, (fun U hU hW => ⟨rfl, xPre_of hZ hS hFc hPc hDc hK U hU hW⟩)⟩ rfl rfl hl.1 rfl (lv_room (Nat.le_of_ble_eq_true rfl)) dL_two_6 ⟨Nat.le_of_ble_eq_true rfl, Nat.le_of_ble_eq_true rfl⟩) hS hFc (fun q _ h => hFc q h) (fun E ce q9 u9 t H1 locs ht hvm _ hB hz1 hk1 hS hce hcv hcl => ?_)
  obtain ⟨rfl, hP1, hK1, hD1⟩ := hB
  rw [ht] at hP1
  obtain ⟨hP, hD⟩ := xjoin (W := [(a0, .inr (0, [v20, v21, .ref b22, .ref a2, v23, .ref a1, v24, .int 1])), (a1, .inr (2, [v26, .int 0, .int 0])), (a2, .inl (cT 3, 8, .inr (.inr (.inr (.inr f29))))), (a3, .inr (2, [.ref a4, .int 1, v32])), (a4, .inl (cT 2, 4096, .inr (.inl f33)))]) hP hD [0, 1, 2, 3, 4] [] 0 rfl rfl (by decide) (by decide) hk1 hFc hP1 hD1
  generalize H1 = H at hP hS hce ⊢
  refine vx_catch (own := "ValueBenchLaw") (name := "java/lang/ArithmeticException") (E := "java/lang/ArithmeticException") hown [⟨0, 9, 12, 19⟩] ⟨0, 9, 16, 33⟩ [⟨0, 9, 20, 13⟩] (by rw [htab]; rfl) (by intro z hz; rcases List.mem_cons.mp hz with rfl | hz; (exact Or.inr ⟨by decide, "java/lang/IllegalArgumentException", htx _ kw_1_211, hZ.2.2.2.2.2.2.2.1 _ (List.mem_of_getElem? (i := 10) rfl)⟩); cases hz) (by decide) (by decide) (htx _ kw_3_98) ((hZ.2.2.2.2.2.1 _ (List.mem_of_getElem? (i := 3) rfl)).use rfl) hce hcv hcl ?_
  refine lv_astore (lv' := [(5, .ref q9), (0, .ref a0), (1, .int x5), (2, .int 8), (3, .int x10), (4, .int x15)]) hx hb dL_two_16 hl (by decide) rfl (fun ls hl => ?_)
  refine lv_iconst (v := 2) hx hb dL_two_18 (by decide) ?_
  obtain ⟨hP9, hD9⟩ := xsub (wc := [(a0, .inr (0, [v20, v21, .ref b22, .ref a2, v23, .ref a1, v24, .int 1])), (a1, .inr (2, [v26, .int 0, .int 0])), (a2, .inl (cT 3, 8, .inr (.inr (.inr (.inr f29))))), (a3, .inr (2, [.ref a4, .int 1, v32])), (a4, .inl (cT 2, 4096, .inr (.inl f33)))]) hP hD [0, 1, 2, 3, 4] rfl rfl (by decide)
  refine W.widen (k := 1) (n := 6) (Nat.le_of_ble_eq_true rfl) (Nat.le_of_ble_eq_true rfl) ?_
  exact W.iret (v := 2) hx hb hr (fun t ht hW => ⟨⟨2, (), rfl, rfl, by rw [ht]; exact hP9, va_K.moved hW.alike hK, hD9⟩, hS.F ht⟩) hS.2.2 dL_two_19
set_option maxHeartbeats 400000000 in
set_option maxRecDepth 100000 in
theorem cB_isWithin_38 (l : Launch) (hl9 : l.stackTraces = false) (D : va_G) (cT : Nat → ClassId) (aK aV : Nat → Nat) (sz : Nat) : xMet l yB_isWithin wyB_isWithin 0 0 0 0 D cT aK aV sz [.int 9, .int 9] [] (fun A => va_Qi (fun (r : Int32) (_ : Unit) => r = 1) (fun _ t => xB D xcl cT A [] t) A) := by
  refine Met.ofW (cc := prog_1_method_15_code) (maxL := 2) (ret := (some .boolean)) (by decide) rfl ?_
  intro p e s m args below meth c s₁ B hml hv
  obtain ⟨rfl, hsz, hZ, hP, hK, hD0⟩ := hv
  have hx := B.exec
  have hb := B.bytes
  have hr := B.returns
  have hts := atoms_spec (ws := wyB_isWithin) B.pre
  have htx := fun w h => hts w (List.mem_cons_of_mem _ h)
  have hown : s.vm.findClass "ValueBench" = some m.cls := findClass_of_methodNamed B.named
  have hlocks := B.notSynchronized
  subst hsz
  have hD := hD0.self (sz := s.heap.size)
  generalize hAe : va_A [] s.heap.size = A at hD hZ ⊢
  have hA : ∀ q : Nat, s.heap.size ≤ q → A q := fun q h => by rw [← hAe]; exact Or.inr h
  have hS : va_S A s.heap s.heap [] := va_S.rf
  have hP : va_P D xcl [] s.heap := hP
  have hl := lv_entry ([.int 9, .int 9]) (n := 2) (Nat.le_of_ble_eq_true rfl)
  rw [lg_entry_eq]
  generalize (lg_sl ([.int 9, .int 9]) ++ List.replicate (2 - (lg_sl ([.int 9, .int 9])).length) Slot.unset).toArray = ls at hl ⊢
  have hl : lv_has ls 2 [(0, .int 9), (1, .int 9)] := hl
  refine lv_iload_n hx hb dB_isWithin_0 rfl (lv_at hl 0 rfl) ?_
  refine lv_if_lt (tgt := 13) hx hb dB_isWithin_1 (by decide) (fun h => ((by revert h; decide : False)).elim) (fun _ => ?_)
  refine lv_iload_n hx hb dB_isWithin_4 rfl (lv_at hl 0 rfl) ?_
  refine lv_iload_n hx hb dB_isWithin_5 rfl (lv_at hl 1 rfl) ?_
  refine lv_icmp_gt (tgt := 13) hx hb dB_isWithin_6 (by decide) (fun h => ((by revert h; decide : False)).elim) (fun _ => ?_)
  refine lv_iconst (v := 1) hx hb dB_isWithin_9 (by decide) ?_
  refine lv_goto (tgt := 14) hx hb dB_isWithin_10 (by decide) ?_
  obtain ⟨hP9, hD9⟩ := xsub (wc := []) hP hD [] rfl rfl (by decide)
  refine W.widen (k := 0) (n := 0) (Nat.le_of_ble_eq_true rfl) (Nat.le_of_ble_eq_true rfl) ?_
  exact W.zret (v := 1) hx hb hr rfl (fun t ht hW => ⟨⟨1, (), rfl, rfl, by rw [ht]; exact hP9, va_K.moved hW.alike hK, hD9⟩, hS.F ht⟩) hS.2.2 dB_isWithin_14
set_option maxHeartbeats 400000000 in
set_option maxRecDepth 100000 in
theorem cH_at_0 (l : Launch) (hl9 : l.stackTraces = false) (D : va_G) (cT : Nat → ClassId) (aK aV : Nat → Nat) (sz : Nat) (a0 : Nat) (a1 : Nat) (a2 : Nat) (a3 : Nat) (a4 : Nat) (a5 : Nat) (v6 : Value) (f7 : Nat → Int64) (v9 : Value) (f10 : Nat → Int64) (f12 : Nat → Int64) (h8 : f7 0 = 0) (h11 : f10 0 = 0) : xMet l yH_at wyH_at 3 0 0 62 D cT aK aV sz [.ref a0, .ref a2, .ref a4] [(a0, .inr (2, [.ref a1, .int 1, v6])), (a1, .inl (cT 2, 4096, .inr (.inl f7))), (a2, .inr (2, [.ref a3, .int 1, v9])), (a3, .inl (cT 2, 4096, .inr (.inl f10))), (a4, .inr (2, [.ref a5, .int 0, .int 0])), (a5, .inl (cT 2, 4096, .inr (.inl f12)))] (fun A => va_Qi (fun (r : Int32) (_ : Unit) => r = 0) (fun _ t => xB D xcl cT A [(a0, .inr (2, [.ref a1, .int 1, v6])), (a1, .inl (cT 2, 4096, .inr (.inl f7))), (a2, .inr (2, [.ref a3, .int 1, v9])), (a3, .inl (cT 2, 4096, .inr (.inl f10))), (a4, .inr (2, [.ref a5, .int 1, .int 0])), (a5, .inl (cT 2, 4096, .inr (.inl (vp_updL f12 0 0))))] t) A) := by
  refine Met.ofW (cc := prog_5_method_28_code) (maxL := 4) (ret := (some .int)) (by decide) rfl ?_
  intro p e s m args below meth c s₁ B hml hv
  obtain ⟨rfl, hsz, hZ, hP, hK, hD0⟩ := hv
  have hx := B.exec
  have hb := B.bytes
  have hr := B.returns
  have hts := atoms_spec (ws := wyH_at) B.pre
  have htx := fun w h => hts w (List.mem_cons_of_mem _ h)
  have hown : s.vm.findClass "ValueBench$Pairs" = some m.cls := findClass_of_methodNamed B.named
  have hlocks := B.notSynchronized
  subst hsz
  have hD := hD0.self (sz := s.heap.size)
  generalize hAe : va_A [(a0, .inr (2, [.ref a1, .int 1, v6])), (a1, .inl (cT 2, 4096, .inr (.inl f7))), (a2, .inr (2, [.ref a3, .int 1, v9])), (a3, .inl (cT 2, 4096, .inr (.inl f10))), (a4, .inr (2, [.ref a5, .int 0, .int 0])), (a5, .inl (cT 2, 4096, .inr (.inl f12)))] s.heap.size = A at hD hZ ⊢
  have hA : ∀ q : Nat, s.heap.size ≤ q → A q := fun q h => by rw [← hAe]; exact Or.inr h
  have hS : va_S A s.heap s.heap [] := va_S.rf
  have hP : va_P D xcl [(a0, .inr (2, [.ref a1, .int 1, v6])), (a1, .inl (cT 2, 4096, .inr (.inl f7))), (a2, .inr (2, [.ref a3, .int 1, v9])), (a3, .inl (cT 2, 4096, .inr (.inl f10))), (a4, .inr (2, [.ref a5, .int 0, .int 0])), (a5, .inl (cT 2, 4096, .inr (.inl f12)))] s.heap := hP
  have hl := lv_entry ([.ref a0, .ref a2, .ref a4]) (n := 4) (Nat.le_of_ble_eq_true rfl)
  rw [lg_entry_eq]
  generalize (lg_sl ([.ref a0, .ref a2, .ref a4]) ++ List.replicate (4 - (lg_sl ([.ref a0, .ref a2, .ref a4])).length) Slot.unset).toArray = ls at hl ⊢
  have hl : lv_has ls 4 [(0, .ref a0), (1, .ref a2), (2, .ref a4)] := hl
  refine lv_aload_n hx hb dH_at_0 rfl (lv_at hl 0 rfl) ?_
  refine lv_iconst (v := 0) hx hb dH_at_1 (by decide) ?_
  refine lv_bipush (v := 6) hx hb dH_at_2 (by decide) ?_
  obtain ⟨hPc, hDc, hFc⟩ := xcut (wc := [(a0, .inr (2, [.ref a1, .int 1, v6])), (a1, .inl (cT 2, 4096, .inr (.inl f7)))]) hP hD hS hA [0, 1] rfl rfl (by decide)
  refine va_calli (va_runV (C := "ValueBench$Row") (As := [.int 0, .int 6]) (rest := []) ⟨hx, hb, hml, hown, htx⟩ (cR_is_1 l hl9 D cT aK aV s.heap.size a0 a1 v6 f7 (by first | rfl | exact h8 | exact h11)) ⟨callB_of 2 htx (xw_goodC kw_3_75) rfl rfl rfl (htx _ kw_1_4) (htx _ kw_4_150) ⟨by decide, by decide, by decide +kernel⟩ ⟨Nat.le_of_ble_eq_true rfl, Nat.le_of_ble_eq_true rfl⟩, (htx _ kw_3_73), (htx _ kw_3_74)⟩ ⟨xPre_blind, va_recv hK hP (ci := 2) rfl (q0 := 0) rfl, (fun U hU hW => ⟨rfl, xPre_of hZ hS hFc hPc hDc hK U hU hW⟩)⟩ rfl rfl hl.1 rfl (lv_room (Nat.le_of_ble_eq_true rfl)) dH_at_4 ⟨Nat.le_of_ble_eq_true rfl, Nat.le_of_ble_eq_true rfl⟩) hS (fun q _ h => hFc q h) hFc (fun r1 u9 t H1 locs ht hvm hr9 hB hz1 hk1 hS => ?_)
  obtain ⟨hP1, hK1, hD1⟩ := hB
  rw [ht] at hP1
  obtain ⟨hP, hD⟩ := xjoin (W := [(a2, .inr (2, [.ref a3, .int 1, v9])), (a3, .inl (cT 2, 4096, .inr (.inl f10))), (a4, .inr (2, [.ref a5, .int 0, .int 0])), (a5, .inl (cT 2, 4096, .inr (.inl f12))), (a0, .inr (2, [.ref a1, .int 1, v6])), (a1, .inl (cT 2, 4096, .inr (.inl f7)))]) hP hD [0, 1] [2, 3, 4, 5] 4 rfl rfl (by decide) (by decide) hk1 hFc hP1 hD1
  generalize H1 = H at hP hS ⊢
  rw [hr9]
  refine W.eq (g2 := F0 m 7 ls [.int 0]) rfl ?_
  refine lv_if_eq (tgt := 46) hx hb dH_at_7 (by decide) (fun _ => ?_) (fun h => ((by revert h; decide : False)).elim)
  refine lv_aload_n hx hb dH_at_46 rfl (lv_at hl 0 rfl) ?_
  refine lv_iconst (v := 0) hx hb dH_at_47 (by decide) ?_
  refine lv_iconst (v := 5) hx hb dH_at_48 (by decide) ?_
  obtain ⟨hPc, hDc, hFc⟩ := xcut (wc := [(a0, .inr (2, [.ref a1, .int 1, v6])), (a1, .inl (cT 2, 4096, .inr (.inl f7)))]) hP hD hS hA [4, 5] rfl rfl (by decide)
  refine va_calli (va_runV (C := "ValueBench$Row") (As := [.int 0, .int 5]) (rest := []) ⟨hx, hb, hml, hown, htx⟩ (cR_is_2 l hl9 D cT aK aV H.size a0 a1 v6 f7 (by first | rfl | exact h8 | exact h11)) ⟨callB_of 2 htx (xw_goodC kw_3_75) rfl rfl rfl (htx _ kw_1_4) (htx _ kw_4_150) ⟨by decide, by decide, by decide +kernel⟩ ⟨Nat.le_of_ble_eq_true rfl, Nat.le_of_ble_eq_true rfl⟩, (htx _ kw_3_73), (htx _ kw_3_74)⟩ ⟨xPre_blind, va_recv hK hP (ci := 2) rfl (q0 := 4) rfl, (fun U hU hW => ⟨rfl, xPre_of hZ hS hFc hPc hDc hK U hU hW⟩)⟩ rfl rfl hl.1 rfl (lv_room (Nat.le_of_ble_eq_true rfl)) dH_at_49 ⟨Nat.le_of_ble_eq_true rfl, Nat.le_of_ble_eq_true rfl⟩) hS (fun q _ h => hFc q h) hFc (fun r2 u9 t H1 locs ht hvm hr9 hB hz1 hk1 hS => ?_)
  obtain ⟨hP1, hK1, hD1⟩ := hB
  rw [ht] at hP1
  obtain ⟨hP, hD⟩ := xjoin (W := [(a2, .inr (2, [.ref a3, .int 1, v9])), (a3, .inl (cT 2, 4096, .inr (.inl f10))), (a4, .inr (2, [.ref a5, .int 0, .int 0])), (a5, .inl (cT 2, 4096, .inr (.inl f12))), (a0, .inr (2, [.ref a1, .int 1, v6])), (a1, .inl (cT 2, 4096, .inr (.inl f7)))]) hP hD [4, 5] [0, 1, 2, 3] 4 rfl rfl (by decide) (by decide) hk1 hFc hP1 hD1
  generalize H1 = H at hP hS ⊢
  rw [hr9]
  refine W.eq (g2 := F0 m 52 ls [.int 0]) rfl ?_
  refine lv_if_eq (tgt := 75) hx hb dH_at_52 (by decide) (fun _ => ?_) (fun h => ((by revert h; decide : False)).elim)
  refine lv_aload_n hx hb dH_at_75 rfl (lv_at hl 0 rfl) ?_
  refine lv_iconst (v := 0) hx hb dH_at_76 (by decide) ?_
  refine lv_iconst (v := 0) hx hb dH_at_77 (by decide) ?_
  obtain ⟨hPc, hDc, hFc⟩ := xcut (wc := [(a0, .inr (2, [.ref a1, .int 1, v6])), (a1, .inl (cT 2, 4096, .inr (.inl f7)))]) hP hD hS hA [4, 5] rfl rfl (by decide)
  refine va_calli (va_runV (C := "ValueBench$Row") (As := [.int 0, .int 0]) (rest := []) ⟨hx, hb, hml, hown, htx⟩ (cR_is_0 l hl9 D cT aK aV H.size a0 a1 v6 f7 (by first | rfl | exact h8 | exact h11)) ⟨callB_of 2 htx (xw_goodC kw_3_75) rfl rfl rfl (htx _ kw_1_4) (htx _ kw_4_150) ⟨by decide, by decide, by decide +kernel⟩ ⟨Nat.le_of_ble_eq_true rfl, Nat.le_of_ble_eq_true rfl⟩, (htx _ kw_3_73), (htx _ kw_3_74)⟩ ⟨xPre_blind, va_recv hK hP (ci := 2) rfl (q0 := 4) rfl, (fun U hU hW => ⟨rfl, xPre_of hZ hS hFc hPc hDc hK U hU hW⟩)⟩ rfl rfl hl.1 rfl (lv_room (Nat.le_of_ble_eq_true rfl)) dH_at_78 ⟨Nat.le_of_ble_eq_true rfl, Nat.le_of_ble_eq_true rfl⟩) hS (fun q _ h => hFc q h) hFc (fun r3 u9 t H1 locs ht hvm hr9 hB hz1 hk1 hS => ?_)
  obtain ⟨hP1, hK1, hD1⟩ := hB
  rw [ht] at hP1
  obtain ⟨hP, hD⟩ := xjoin (W := [(a2, .inr (2, [.ref a3, .int 1, v9])), (a3, .inl (cT 2, 4096, .inr (.inl f10))), (a4, .inr (2, [.ref a5, .int 0, .int 0])), (a5, .inl (cT 2, 4096, .inr (.inl f12))), (a0, .inr (2, [.ref a1, .int 1, v6])), (a1, .inl (cT 2, 4096, .inr (.inl f7)))]) hP hD [4, 5] [0, 1, 2, 3] 4 rfl rfl (by decide) (by decide) hk1 hFc hP1 hD1
  generalize H1 = H at hP hS ⊢
  rw [hr9]
  refine W.eq (g2 := F0 m 81 ls [.int 1]) rfl ?_
  refine lv_if_eq (tgt := 115) hx hb dH_at_81 (by decide) (fun h => ((by revert h; decide : False)).elim) (fun _ => ?_)
  refine lv_aload_n hx hb dH_at_84 rfl (lv_at hl 1 rfl) ?_
  refine lv_iconst (v := 0) hx hb dH_at_85 (by decide) ?_
  refine lv_iconst (v := 0) hx hb dH_at_86 (by decide) ?_
  obtain ⟨hPc, hDc, hFc⟩ := xcut (wc := [(a2, .inr (2, [.ref a3, .int 1, v9])), (a3, .inl (cT 2, 4096, .inr (.inl f10)))]) hP hD hS hA [0, 1] rfl rfl (by decide)
  refine va_calli (va_runV (C := "ValueBench$Row") (As := [.int 0, .int 0]) (rest := []) ⟨hx, hb, hml, hown, htx⟩ (cR_is_0 l hl9 D cT aK aV H.size a2 a3 v9 f10 (by first | rfl | exact h8 | exact h11)) ⟨callB_of 2 htx (xw_goodC kw_3_75) rfl rfl rfl (htx _ kw_1_4) (htx _ kw_4_150) ⟨by decide, by decide, by decide +kernel⟩ ⟨Nat.le_of_ble_eq_true rfl, Nat.le_of_ble_eq_true rfl⟩, (htx _ kw_3_73), (htx _ kw_3_74)⟩ ⟨xPre_blind, va_recv hK hP (ci := 2) rfl (q0 := 0) rfl, (fun U hU hW => ⟨rfl, xPre_of hZ hS hFc hPc hDc hK U hU hW⟩)⟩ rfl rfl hl.1 rfl (lv_room (Nat.le_of_ble_eq_true rfl)) dH_at_87 ⟨Nat.le_of_ble_eq_true rfl, Nat.le_of_ble_eq_true rfl⟩) hS (fun q _ h => hFc q h) hFc (fun r4 u9 t H1 locs ht hvm hr9 hB hz1 hk1 hS => ?_)
  obtain ⟨hP1, hK1, hD1⟩ := hB
  rw [ht] at hP1
  obtain ⟨hP, hD⟩ := xjoin (W := [(a4, .inr (2, [.ref a5, .int 0, .int 0])), (a5, .inl (cT 2, 4096, .inr (.inl f12))), (a0, .inr (2, [.ref a1, .int 1, v6])), (a1, .inl (cT 2, 4096, .inr (.inl f7))), (a2, .inr (2, [.ref a3, .int 1, v9])), (a3, .inl (cT 2, 4096, .inr (.inl f10)))]) hP hD [0, 1] [2, 3, 4, 5] 4 rfl rfl (by decide) (by decide) hk1 hFc hP1 hD1
  generalize H1 = H at hP hS ⊢
  rw [hr9]
  refine W.eq (g2 := F0 m 90 ls [.int 1]) rfl ?_
  refine lv_if_ne (tgt := 111) hx hb dH_at_90 (by decide) (fun _ => ?_) (fun h => ((by revert h; decide : False)).elim)
  refine lv_iconst (v := 1) hx hb dH_at_111 (by decide) ?_
  refine lv_goto (tgt := 116) hx hb dH_at_112 (by decide) ?_
  refine lv_istore_n (lv' := [(3, .int 1), (0, .ref a0), (1, .ref a2), (2, .ref a4)]) hx hb dH_at_116 rfl hl (by decide) rfl (fun ls hl => ?_)
  refine lv_iload_n hx hb dH_at_117 rfl (lv_at hl 0 rfl) ?_
  refine lv_if_eq (tgt := 128) hx hb dH_at_118 (by decide) (fun h => ((by revert h; decide : False)).elim) (fun _ => ?_)
  refine lv_aload_n hx hb dH_at_121 rfl (lv_at hl 3 rfl) ?_
  obtain ⟨hPc, hDc, hFc⟩ := xcut (wc := [(a4, .inr (2, [.ref a5, .int 0, .int 0])), (a5, .inl (cT 2, 4096, .inr (.inl f12)))]) hP hD hS hA [0, 1] rfl rfl (by decide)
  refine va_calli (va_runS (As := [.ref a4]) (rest := []) ⟨hx, hb, hml, hown, htx⟩ (cH_nothing_0 l hl9 D cT aK aV H.size a4 a5 f12) ⟨callB_of 1 htx (xw_goodC kw_4_221) rfl rfl rfl (htx _ kw_1_27) (htx _ kw_4_219) ⟨by decide, by decide, by decide +kernel⟩ ⟨Nat.le_of_ble_eq_true rfl, Nat.le_of_ble_eq_true rfl⟩, htx _ kw_4_220⟩ ⟨xPre_blind, (fun U hU hW => ⟨rfl, xPre_of hZ hS hFc hPc hDc hK U hU hW⟩)⟩ rfl rfl hl.1 rfl (lv_room (Nat.le_of_ble_eq_true rfl)) dH_at_122 ⟨Nat.le_of_ble_eq_true rfl, Nat.le_of_ble_eq_true rfl⟩) hS (fun q _ h => hFc q h) hFc (fun r5 u9 t H1 locs ht hvm hr9 hB hz1 hk1 hS => ?_)
  obtain ⟨hP1, hK1, hD1⟩ := hB
  rw [ht] at hP1
  obtain ⟨hP, hD⟩ := xjoin (W := [(a0, .inr (2, [.ref a1, .int 1, v6])), (a1, .inl (cT 2, 4096, .inr (.inl f7))), (a2, .inr (2, [.ref a3, .int 1, v9])), (a3, .inl (cT 2, 4096, .inr (.inl f10))), (a4, .inr (2, [.ref a5, .int 1, .int 0])), (a5, .inl (cT 2, 4096, .inr (.inl (vp_updL f12 0 0))))]) hP hD [0, 1] [2, 3, 4, 5] 4 rfl rfl (by decide) (by decide) hk1 hFc hP1 hD1
  generalize H1 = H at hP hS ⊢
  rw [hr9]
  refine W.eq (g2 := F0 m 125 ls [.int 0]) rfl ?_
  refine lv_goto (tgt := 129) hx hb dH_at_125 (by decide) ?_
  obtain ⟨hP9, hD9⟩ := xsub (wc := [(a0, .inr (2, [.ref a1, .int 1, v6])), (a1, .inl (cT 2, 4096, .inr (.inl f7))), (a2, .inr (2, [.ref a3, .int 1, v9])), (a3, .inl (cT 2, 4096, .inr (.inl f10))), (a4, .inr (2, [.ref a5, .int 1, .int 0])), (a5, .inl (cT 2, 4096, .inr (.inl (vp_updL f12 0 0))))]) hP hD [0, 1, 2, 3, 4, 5] rfl rfl (by decide)
  refine W.widen (k := 0) (n := 0) (Nat.le_of_ble_eq_true rfl) (Nat.le_of_ble_eq_true rfl) ?_
  exact W.iret (v := 0) hx hb hr (fun t ht hW => ⟨⟨0, (), rfl, rfl, by rw [ht]; exact hP9, va_K.moved hW.alike hK, hD9⟩, hS.F ht⟩) hS.2.2 dH_at_129
set_option maxHeartbeats 400000000 in
set_option maxRecDepth 100000 in
theorem cH_apply_18 (l : Launch) (hl9 : l.stackTraces = false) (D : va_G) (cT : Nat → ClassId) (aK aV : Nat → Nat) (sz : Nat) (a0 : Nat) (a1 : Nat) (a2 : Nat) (a3 : Nat) (a4 : Nat) (a5 : Nat) (b6 : Nat) (v7 : Value) (f8 : Nat → Int64) (v10 : Value) (f11 : Nat → Int64) (f13 : Nat → Int64) (h9 : f8 0 = 0) (h12 : f11 0 = 0) : xMet l yH_apply wyH_apply 4 0 0 85 D cT aK aV sz [.int 9, .ref a0, .ref a2, .ref b6, .ref a4] [(a0, .inr (2, [.ref a1, .int 1, v7])), (a1, .inl (cT 2, 4096, .inr (.inl f8))), (a2, .inr (2, [.ref a3, .int 1, v10])), (a3, .inl (cT 2, 4096, .inr (.inl f11))), (a4, .inr (2, [.ref a5, .int 0, .int 0])), (a5, .inl (cT 2, 4096, .inr (.inl f13)))] (fun A => va_Qi (fun (r : Int32) (_ : Unit) => r = 0) (fun _ t => xB D xcl cT A [(a0, .inr (2, [.ref a1, .int 1, v7])), (a1, .inl (cT 2, 4096, .inr (.inl f8))), (a2, .inr (2, [.ref a3, .int 1, v10])), (a3, .inl (cT 2, 4096, .inr (.inl f11))), (a4, .inr (2, [.ref a5, .int 1, .int 0])), (a5, .inl (cT 2, 4096, .inr (.inl (vp_updL f13 0 0))))] t) A) := by
  refine Met.ofW (cc := prog_5_method_2_code) (maxL := 5) (ret := (some .int)) (by decide) rfl ?_
  intro p e s m args below meth c s₁ B hml hv
  obtain ⟨rfl, hsz, hZ, hP, hK, hD0⟩ := hv
  have hx := B.exec
  have hb := B.bytes
  have hr := B.returns
  have hts := atoms_spec (ws := wyH_apply) B.pre
  have htx := fun w h => hts w (List.mem_cons_of_mem _ h)
  have hown : s.vm.findClass "ValueBench$Pairs" = some m.cls := findClass_of_methodNamed B.named
  have hlocks := B.notSynchronized
  subst hsz
  have hD := hD0.self (sz := s.heap.size)
  generalize hAe : va_A [(a0, .inr (2, [.ref a1, .int 1, v7])), (a1, .inl (cT 2, 4096, .inr (.inl f8))), (a2, .inr (2, [.ref a3, .int 1, v10])), (a3, .inl (cT 2, 4096, .inr (.inl f11))), (a4, .inr (2, [.ref a5, .int 0, .int 0])), (a5, .inl (cT 2, 4096, .inr (.inl f13)))] s.heap.size = A at hD hZ ⊢
  have hA : ∀ q : Nat, s.heap.size ≤ q → A q := fun q h => by rw [← hAe]; exact Or.inr h
  have hS : va_S A s.heap s.heap [] := va_S.rf
  have hP : va_P D xcl [(a0, .inr (2, [.ref a1, .int 1, v7])), (a1, .inl (cT 2, 4096, .inr (.inl f8))), (a2, .inr (2, [.ref a3, .int 1, v10])), (a3, .inl (cT 2, 4096, .inr (.inl f11))), (a4, .inr (2, [.ref a5, .int 0, .int 0])), (a5, .inl (cT 2, 4096, .inr (.inl f13)))] s.heap := hP
  have hl := lv_entry ([.int 9, .ref a0, .ref a2, .ref b6, .ref a4]) (n := 5) (Nat.le_of_ble_eq_true rfl)
  rw [lg_entry_eq]
  generalize (lg_sl ([.int 9, .ref a0, .ref a2, .ref b6, .ref a4]) ++ List.replicate (5 - (lg_sl ([.int 9, .ref a0, .ref a2, .ref b6, .ref a4])).length) Slot.unset).toArray = ls at hl ⊢
  have hl : lv_has ls 5 [(0, .int 9), (1, .ref a0), (2, .ref a2), (3, .ref b6), (4, .ref a4)] := hl
  refine lv_iload_n hx hb dH_apply_0 rfl (lv_at hl 0 rfl) ?_
  refine lv_tableOut (tgt := 155) hx hb dH_apply_1 (by decide) (by decide) ?_
  refine lv_aload_n hx hb dH_apply_155 rfl (lv_at hl 1 rfl) ?_
  refine lv_iconst (v := 0) hx hb dH_apply_156 (by decide) ?_
  refine lv_iconst (v := 5) hx hb dH_apply_157 (by decide) ?_
  obtain ⟨hPc, hDc, hFc⟩ := xcut (wc := [(a0, .inr (2, [.ref a1, .int 1, v7])), (a1, .inl (cT 2, 4096, .inr (.inl f8)))]) hP hD hS hA [0, 1] rfl rfl (by decide)
  refine va_calli (va_runV (C := "ValueBench$Row") (As := [.int 0, .int 5]) (rest := []) ⟨hx, hb, hml, hown, htx⟩ (cR_is_2 l hl9 D cT aK aV s.heap.size a0 a1 v7 f8 (by first | rfl | exact h9 | exact h12)) ⟨callB_of 2 htx (xw_goodC kw_3_75) rfl rfl rfl (htx _ kw_1_4) (htx _ kw_4_150) ⟨by decide, by decide, by decide +kernel⟩ ⟨Nat.le_of_ble_eq_true rfl, Nat.le_of_ble_eq_true rfl⟩, (htx _ kw_3_73), (htx _ kw_3_74)⟩ ⟨xPre_blind, va_recv hK hP (ci := 2) rfl (q0 := 0) rfl, (fun U hU hW => ⟨rfl, xPre_of hZ hS hFc hPc hDc hK U hU hW⟩)⟩ rfl rfl hl.1 rfl (lv_room (Nat.le_of_ble_eq_true rfl)) dH_apply_158 ⟨Nat.le_of_ble_eq_true rfl, Nat.le_of_ble_eq_true rfl⟩) hS (fun q _ h => hFc q h) hFc (fun r1 u9 t H1 locs ht hvm hr9 hB hz1 hk1 hS => ?_)
  obtain ⟨hP1, hK1, hD1⟩ := hB
  rw [ht] at hP1
  obtain ⟨hP, hD⟩ := xjoin (W := [(a2, .inr (2, [.ref a3, .int 1, v10])), (a3, .inl (cT 2, 4096, .inr (.inl f11))), (a4, .inr (2, [.ref a5, .int 0, .int 0])), (a5, .inl (cT 2, 4096, .inr (.inl f13))), (a0, .inr (2, [.ref a1, .int 1, v7])), (a1, .inl (cT 2, 4096, .inr (.inl f8)))]) hP hD [0, 1] [2, 3, 4, 5] 4 rfl rfl (by decide) (by decide) hk1 hFc hP1 hD1
  generalize H1 = H at hP hS ⊢
  rw [hr9]
  refine W.eq (g2 := F0 m 161 ls [.int 0]) rfl ?_
  refine lv_if_eq (tgt := 183) hx hb dH_apply_161 (by decide) (fun _ => ?_) (fun h => ((by revert h; decide : False)).elim)
  refine lv_aload_n hx hb dH_apply_183 rfl (lv_at hl 1 rfl) ?_
  refine lv_aload_n hx hb dH_apply_184 rfl (lv_at hl 2 rfl) ?_
  refine lv_aload hx hb dH_apply_185 (lv_at hl 4 rfl) ?_
  obtain ⟨hPc, hDc, hFc⟩ := xcut (wc := [(a0, .inr (2, [.ref a1, .int 1, v7])), (a1, .inl (cT 2, 4096, .inr (.inl f8))), (a2, .inr (2, [.ref a3, .int 1, v10])), (a3, .inl (cT 2, 4096, .inr (.inl f11))), (a4, .inr (2, [.ref a5, .int 0, .int 0])), (a5, .inl (cT 2, 4096, .inr (.inl f13)))]) hP hD hS hA [4, 5, 0, 1, 2, 3] rfl rfl (by decide)
  refine va_calli (va_runS (As := [.ref a0, .ref a2, .ref a4]) (rest := []) ⟨hx, hb, hml, hown, htx⟩ (cH_at_0 l hl9 D cT aK aV H.size a0 a1 a2 a3 a4 a5 v7 f8 v10 f11 f13 (by first | rfl | exact h9 | exact h12) (by first | rfl | exact h9 | exact h12)) ⟨callB_of 3 htx (xw_goodC kw_5_4) rfl rfl rfl (htx _ kw_1_27) (htx _ kw_5_2) ⟨by decide, by decide, by decide +kernel⟩ ⟨Nat.le_of_ble_eq_true rfl, Nat.le_of_ble_eq_true rfl⟩, htx _ kw_5_3⟩ ⟨xPre_blind, (fun U hU hW => ⟨rfl, xPre_of hZ hS hFc hPc hDc hK U hU hW⟩)⟩ rfl rfl hl.1 rfl (lv_room (Nat.le_of_ble_eq_true rfl)) dH_apply_187 ⟨Nat.le_of_ble_eq_true rfl, Nat.le_of_ble_eq_true rfl⟩) hS (fun q _ h => hFc q h) hFc (fun r2 u9 t H1 locs ht hvm hr9 hB hz1 hk1 hS => ?_)
  obtain ⟨hP1, hK1, hD1⟩ := hB
  rw [ht] at hP1
  obtain ⟨hP, hD⟩ := xjoin (W := [(a0, .inr (2, [.ref a1, .int 1, v7])), (a1, .inl (cT 2, 4096, .inr (.inl f8))), (a2, .inr (2, [.ref a3, .int 1, v10])), (a3, .inl (cT 2, 4096, .inr (.inl f11))), (a4, .inr (2, [.ref a5, .int 1, .int 0])), (a5, .inl (cT 2, 4096, .inr (.inl (vp_updL f13 0 0))))]) hP hD [4, 5, 0, 1, 2, 3] [] 0 rfl rfl (by decide) (by decide) hk1 hFc hP1 hD1
  generalize H1 = H at hP hS ⊢
  rw [hr9]
  refine W.eq (g2 := F0 m 190 ls [.int 0]) rfl ?_
  obtain ⟨hP9, hD9⟩ := xsub (wc := [(a0, .inr (2, [.ref a1, .int 1, v7])), (a1, .inl (cT 2, 4096, .inr (.inl f8))), (a2, .inr (2, [.ref a3, .int 1, v10])), (a3, .inl (cT 2, 4096, .inr (.inl f11))), (a4, .inr (2, [.ref a5, .int 1, .int 0])), (a5, .inl (cT 2, 4096, .inr (.inl (vp_updL f13 0 0))))]) hP hD [0, 1, 2, 3, 4, 5] rfl rfl (by decide)
  refine W.widen (k := 0) (n := 0) (Nat.le_of_ble_eq_true rfl) (Nat.le_of_ble_eq_true rfl) ?_
  exact W.iret (v := 0) hx hb hr (fun t ht hW => ⟨⟨0, (), rfl, rfl, by rw [ht]; exact hP9, va_K.moved hW.alike hK, hD9⟩, hS.F ht⟩) hS.2.2 dH_apply_190
set_option maxHeartbeats 400000000 in
set_option maxRecDepth 100000 in
theorem cB_two_18 (l : Launch) (hl9 : l.stackTraces = false) (D : va_G) (cT : Nat → ClassId) (aK aV : Nat → Nat) (sz : Nat) (a0 : Nat) (a1 : Nat) (a2 : Nat) (a3 : Nat) (a4 : Nat) (a5 : Nat) (a6 : Nat) (a7 : Nat) (a8 : Nat) (a9 : Nat) (x10 : Int32) (x15 : Int32) (x20 : Int32) (v25 : Value) (v26 : Value) (v27 : Value) (v28 : Value) (v29 : Value) (v30 : Value) (v31 : Value) (f32 : Nat → Option Nat) (b35 : Nat) (v37 : Value) (f38 : Nat → Int64) (v40 : Value) (f41 : Nat → Int64) (f43 : Nat → Int64) (v44 : Value) (v45 : Value) (f46 : Nat → Int32) (h11 : ¬ x10 < 0) (h12 : ¬ 7 < x10) (h13 : x10 ≤ 7) (h14 : vp_in x10 8) (h16 : ¬ x15 < 0) (h17 : ¬ 7 < x15) (h18 : x15 ≤ 7) (h19 : vp_in x15 8) (h21 : ¬ x20 < 0) (h22 : ¬ 7 < x20) (h23 : x20 ≤ 7) (h24 : vp_in x20 8) (h33 : f32 x15.toNatClampNeg = some a3) (h34 : f32 x20.toNatClampNeg = some a5) (h36 : f32 x10.toNatClampNeg = some b35) (h39 : f38 0 = 0) (h42 : f41 0 = 0) : xMet l yB_two wyB_two 7 0 0 152 D cT aK aV sz [.ref a0, .int x10, .int 9, .int x15, .int x20] [(a0, .inr (0, [v25, v26, .ref a8, .ref a2, v27, .ref a1, v28, v29])), (a1, .inr (2, [.ref a7, v30, v31])), (a2, .inl (cT 3, 8, .inr (.inr (.inr (.inr f32))))), (a3, .inr (2, [.ref a4, .int 1, v37])), (a4, .inl (cT 2, 4096, .inr (.inl f38))), (a5, .inr (2, [.ref a6, .int 1, v40])), (a6, .inl (cT 2, 4096, .inr (.inl f41))), (a7, .inl (cT 2, 4096, .inr (.inl f43))), (a8, .inr (1, [.ref a9, v44, v45])), (a9, .inl (cT 0, 4096, .inl f46))] (fun A => va_Qv (fun _ : Unit => True) (fun _ t => ∃ (y7 : Int32) (y8 : Int32) (y9 : Int32) (y10 : Int32), xB D xcl cT A [(a0, .inr (0, [v25, v26, .ref a8, .ref a2, v27, .ref b35, v28, v29])), (a1, .inr (2, [.ref a7, .int 1, .int 0])), (a2, .inl (cT 3, 8, .inr (.inr (.inr (.inr (va_up f32 x10.toNatClampNeg (some a1))))))), (a3, .inr (2, [.ref a4, .int 1, v37])), (a4, .inl (cT 2, 4096, .inr (.inl f38))), (a5, .inr (2, [.ref a6, .int 1, v40])), (a6, .inl (cT 2, 4096, .inr (.inl f41))), (a7, .inl (cT 2, 4096, .inr (.inl (vp_updL f43 0 0)))), (a8, .inr (1, [.ref a9, .int 4, .int 0])), (a9, .inl (cT 0, 4096, .inl (upd (upd (upd (upd f46 0 (vp_nar .byte y7)) 1 (vp_nar .byte y8)) 2 (vp_nar .byte y9)) 3 (vp_nar .byte y10))))] t) A) := by
  refine Met.ofW (cc := prog_1_method_10_code) (maxL := 5) (ret := none) (by decide) rfl ?_
  intro p e s m args below meth c s₁ B hml hv
  obtain ⟨rfl, hsz, hZ, hP, hK, hD0⟩ := hv
  have hx := B.exec
  have hb := B.bytes
  have hr := B.returns
  have hts := atoms_spec (ws := wyB_two) B.pre
  have htx := fun w h => hts w (List.mem_cons_of_mem _ h)
  have hown : s.vm.findClass "ValueBench" = some m.cls := findClass_of_methodNamed B.named
  have hlocks := B.notSynchronized
  subst hsz
  have hD := hD0.self (sz := s.heap.size)
  generalize hAe : va_A [(a0, .inr (0, [v25, v26, .ref a8, .ref a2, v27, .ref a1, v28, v29])), (a1, .inr (2, [.ref a7, v30, v31])), (a2, .inl (cT 3, 8, .inr (.inr (.inr (.inr f32))))), (a3, .inr (2, [.ref a4, .int 1, v37])), (a4, .inl (cT 2, 4096, .inr (.inl f38))), (a5, .inr (2, [.ref a6, .int 1, v40])), (a6, .inl (cT 2, 4096, .inr (.inl f41))), (a7, .inl (cT 2, 4096, .inr (.inl f43))), (a8, .inr (1, [.ref a9, v44, v45])), (a9, .inl (cT 0, 4096, .inl f46))] s.heap.size = A at hD hZ ⊢
  have hA : ∀ q : Nat, s.heap.size ≤ q → A q := fun q h => by rw [← hAe]; exact Or.inr h
  have hS : va_S A s.heap s.heap [] := va_S.rf
  have hP : va_P D xcl [(a0, .inr (0, [v25, v26, .ref a8, .ref a2, v27, .ref a1, v28, v29])), (a1, .inr (2, [.ref a7, v30, v31])), (a2, .inl (cT 3, 8, .inr (.inr (.inr (.inr f32))))), (a3, .inr (2, [.ref a4, .int 1, v37])), (a4, .inl (cT 2, 4096, .inr (.inl f38))), (a5, .inr (2, [.ref a6, .int 1, v40])), (a6, .inl (cT 2, 4096, .inr (.inl f41))), (a7, .inl (cT 2, 4096, .inr (.inl f43))), (a8, .inr (1, [.ref a9, v44, v45])), (a9, .inl (cT 0, 4096, .inl f46))] s.heap := hP
  have hl := lv_entry ([.ref a0, .int x10, .int 9, .int x15, .int x20]) (n := 5) (Nat.le_of_ble_eq_true rfl)
  rw [lg_entry_eq]
  generalize (lg_sl ([.ref a0, .int x10, .int 9, .int x15, .int x20]) ++ List.replicate (5 - (lg_sl ([.ref a0, .int x10, .int 9, .int x15, .int x20])).length) Slot.unset).toArray = ls at hl ⊢
  have hl : lv_has ls 5 [(0, .ref a0), (1, .int x10), (2, .int 9), (3, .int x15), (4, .int x20)] := hl
  refine lv_iload_n hx hb dB_two_0 rfl (lv_at hl 1 rfl) ?_
  obtain ⟨hPc, hDc, hFc⟩ := xcut (wc := []) hP hD hS hA [] rfl rfl (by decide)
  refine va_calli (va_runS (As := [.int x10]) (rest := []) ⟨hx, hb, hml, hown, htx⟩ (cB_isRegister_0 l hl9 D cT aK aV s.heap.size x10 h11 h12 h13 h14) ⟨callB_of 1 htx (xw_goodC kw_2_18) rfl rfl rfl (htx _ kw_1_1) (htx _ kw_2_16) ⟨by decide, by decide, by decide +kernel⟩ ⟨Nat.le_of_ble_eq_true rfl, Nat.le_of_ble_eq_true rfl⟩, htx _ kw_2_17⟩ ⟨xPre_blind, (fun U hU hW => ⟨rfl, xPre_of hZ hS hFc hPc hDc hK U hU hW⟩)⟩ rfl rfl hl.1 rfl (lv_room (Nat.le_of_ble_eq_true rfl)) dB_two_1 ⟨Nat.le_of_ble_eq_true rfl, Nat.le_of_ble_eq_true rfl⟩) hS (fun q _ h => hFc q h) hFc (fun r1 u9 t H1 locs ht hvm hr9 hB hz1 hk1 hS => ?_)
  obtain ⟨hP1, hK1, hD1⟩ := hB
  rw [ht] at hP1
  obtain ⟨hP, hD⟩ := xjoin (W := [(a0, .inr (0, [v25, v26, .ref a8, .ref a2, v27, .ref a1, v28, v29])), (a1, .inr (2, [.ref a7, v30, v31])), (a2, .inl (cT 3, 8, .inr (.inr (.inr (.inr f32))))), (a3, .inr (2, [.ref a4, .int 1, v37])), (a4, .inl (cT 2, 4096, .inr (.inl f38))), (a5, .inr (2, [.ref a6, .int 1, v40])), (a6, .inl (cT 2, 4096, .inr (.inl f41))), (a7, .inl (cT 2, 4096, .inr (.inl f43))), (a8, .inr (1, [.ref a9, v44, v45])), (a9, .inl (cT 0, 4096, .inl f46))]) hP hD [] [0, 1, 2, 3, 4, 5, 6, 7, 8, 9] 10 rfl rfl (by decide) (by decide) hk1 hFc hP1 hD1
  generalize H1 = H at hP hS ⊢
  rw [hr9]
  refine W.eq (g2 := F0 m 4 ls [.int 1]) rfl ?_
  refine lv_if_eq (tgt := 35) hx hb dB_two_4 (by decide) (fun h => ((by revert h; decide : False)).elim) (fun _ => ?_)
  refine lv_iload_n hx hb dB_two_7 rfl (lv_at hl 2 rfl) ?_
  refine lv_bipush (v := 9) hx hb dB_two_8 (by decide) ?_
  obtain ⟨hPc, hDc, hFc⟩ := xcut (wc := []) hP hD hS hA [] rfl rfl (by decide)
  refine va_calli (va_runS (As := [.int 9, .int 9]) (rest := []) ⟨hx, hb, hml, hown, htx⟩ (cB_isWithin_38 l hl9 D cT aK aV H.size) ⟨callB_of 2 htx (xw_goodC kw_1_218) rfl rfl rfl (htx _ kw_1_1) (htx _ kw_1_216) ⟨by decide, by decide, by decide +kernel⟩ ⟨Nat.le_of_ble_eq_true rfl, Nat.le_of_ble_eq_true rfl⟩, htx _ kw_1_217⟩ ⟨xPre_blind, (fun U hU hW => ⟨rfl, xPre_of hZ hS hFc hPc hDc hK U hU hW⟩)⟩ rfl rfl hl.1 rfl (lv_room (Nat.le_of_ble_eq_true rfl)) dB_two_10 ⟨Nat.le_of_ble_eq_true rfl, Nat.le_of_ble_eq_true rfl⟩) hS (fun q _ h => hFc q h) hFc (fun r2 u9 t H1 locs ht hvm hr9 hB hz1 hk1 hS => ?_)
  obtain ⟨hP1, hK1, hD1⟩ := hB
  rw [ht] at hP1
  obtain ⟨hP, hD⟩ := xjoin (W := [(a0, .inr (0, [v25, v26, .ref a8, .ref a2, v27, .ref a1, v28, v29])), (a1, .inr (2, [.ref a7, v30, v31])), (a2, .inl (cT 3, 8, .inr (.inr (.inr (.inr f32))))), (a3, .inr (2, [.ref a4, .int 1, v37])), (a4, .inl (cT 2, 4096, .inr (.inl f38))), (a5, .inr (2, [.ref a6, .int 1, v40])), (a6, .inl (cT 2, 4096, .inr (.inl f41))), (a7, .inl (cT 2, 4096, .inr (.inl f43))), (a8, .inr (1, [.ref a9, v44, v45])), (a9, .inl (cT 0, 4096, .inl f46))]) hP hD [] [0, 1, 2, 3, 4, 5, 6, 7, 8, 9] 10 rfl rfl (by decide) (by decide) hk1 hFc hP1 hD1
  generalize H1 = H at hP hS ⊢
  rw [hr9]
  refine W.eq (g2 := F0 m 13 ls [.int 1]) rfl ?_
  refine lv_if_eq (tgt := 35) hx hb dB_two_13 (by decide) (fun h => ((by revert h; decide : False)).elim) (fun _ => ?_)
  refine lv_iload_n hx hb dB_two_16 rfl (lv_at hl 3 rfl) ?_
  obtain ⟨hPc, hDc, hFc⟩ := xcut (wc := []) hP hD hS hA [] rfl rfl (by decide)
  refine va_calli (va_runS (As := [.int x15]) (rest := []) ⟨hx, hb, hml, hown, htx⟩ (cB_isRegister_0 l hl9 D cT aK aV H.size x15 h16 h17 h18 h19) ⟨callB_of 1 htx (xw_goodC kw_2_18) rfl rfl rfl (htx _ kw_1_1) (htx _ kw_2_16) ⟨by decide, by decide, by decide +kernel⟩ ⟨Nat.le_of_ble_eq_true rfl, Nat.le_of_ble_eq_true rfl⟩, htx _ kw_2_17⟩ ⟨xPre_blind, (fun U hU hW => ⟨rfl, xPre_of hZ hS hFc hPc hDc hK U hU hW⟩)⟩ rfl rfl hl.1 rfl (lv_room (Nat.le_of_ble_eq_true rfl)) dB_two_17 ⟨Nat.le_of_ble_eq_true rfl, Nat.le_of_ble_eq_true rfl⟩) hS (fun q _ h => hFc q h) hFc (fun r3 u9 t H1 locs ht hvm hr9 hB hz1 hk1 hS => ?_)
  obtain ⟨hP1, hK1, hD1⟩ := hB
  rw [ht] at hP1
  obtain ⟨hP, hD⟩ := xjoin (W := [(a0, .inr (0, [v25, v26, .ref a8, .ref a2, v27, .ref a1, v28, v29])), (a1, .inr (2, [.ref a7, v30, v31])), (a2, .inl (cT 3, 8, .inr (.inr (.inr (.inr f32))))), (a3, .inr (2, [.ref a4, .int 1, v37])), (a4, .inl (cT 2, 4096, .inr (.inl f38))), (a5, .inr (2, [.ref a6, .int 1, v40])), (a6, .inl (cT 2, 4096, .inr (.inl f41))), (a7, .inl (cT 2, 4096, .inr (.inl f43))), (a8, .inr (1, [.ref a9, v44, v45])), (a9, .inl (cT 0, 4096, .inl f46))]) hP hD [] [0, 1, 2, 3, 4, 5, 6, 7, 8, 9] 10 rfl rfl (by decide) (by decide) hk1 hFc hP1 hD1
  generalize H1 = H at hP hS ⊢
  rw [hr9]
  refine W.eq (g2 := F0 m 20 ls [.int 1]) rfl ?_
  refine lv_if_eq (tgt := 35) hx hb dB_two_20 (by decide) (fun h => ((by revert h; decide : False)).elim) (fun _ => ?_)
  refine lv_iload hx hb dB_two_23 (lv_at hl 4 rfl) ?_
  obtain ⟨hPc, hDc, hFc⟩ := xcut (wc := []) hP hD hS hA [] rfl rfl (by decide)
  refine va_calli (va_runS (As := [.int x20]) (rest := []) ⟨hx, hb, hml, hown, htx⟩ (cB_isRegister_0 l hl9 D cT aK aV H.size x20 h21 h22 h23 h24) ⟨callB_of 1 htx (xw_goodC kw_2_18) rfl rfl rfl (htx _ kw_1_1) (htx _ kw_2_16) ⟨by decide, by decide, by decide +kernel⟩ ⟨Nat.le_of_ble_eq_true rfl, Nat.le_of_ble_eq_true rfl⟩, htx _ kw_2_17⟩ ⟨xPre_blind, (fun U hU hW => ⟨rfl, xPre_of hZ hS hFc hPc hDc hK U hU hW⟩)⟩ rfl rfl hl.1 rfl (lv_room (Nat.le_of_ble_eq_true rfl)) dB_two_25 ⟨Nat.le_of_ble_eq_true rfl, Nat.le_of_ble_eq_true rfl⟩) hS (fun q _ h => hFc q h) hFc (fun r4 u9 t H1 locs ht hvm hr9 hB hz1 hk1 hS => ?_)
  obtain ⟨hP1, hK1, hD1⟩ := hB
  rw [ht] at hP1
  obtain ⟨hP, hD⟩ := xjoin (W := [(a0, .inr (0, [v25, v26, .ref a8, .ref a2, v27, .ref a1, v28, v29])), (a1, .inr (2, [.ref a7, v30, v31])), (a2, .inl (cT 3, 8, .inr (.inr (.inr (.inr f32))))), (a3, .inr (2, [.ref a4, .int 1, v37])), (a4, .inl (cT 2, 4096, .inr (.inl f38))), (a5, .inr (2, [.ref a6, .int 1, v40])), (a6, .inl (cT 2, 4096, .inr (.inl f41))), (a7, .inl (cT 2, 4096, .inr (.inl f43))), (a8, .inr (1, [.ref a9, v44, v45])), (a9, .inl (cT 0, 4096, .inl f46))]) hP hD [] [0, 1, 2, 3, 4, 5, 6, 7, 8, 9] 10 rfl rfl (by decide) (by decide) hk1 hFc hP1 hD1
  generalize H1 = H at hP hS ⊢
  rw [hr9]
  refine W.eq (g2 := F0 m 28 ls [.int 1]) rfl ?_
  refine lv_if_eq (tgt := 35) hx hb dB_two_28 (by decide) (fun h => ((by revert h; decide : False)).elim) (fun _ => ?_)
  refine lv_iconst (v := 1) hx hb dB_two_31 (by decide) ?_
  refine lv_goto (tgt := 36) hx hb dB_two_32 (by decide) ?_
  obtain ⟨hPc, hDc, hFc⟩ := xcut (wc := []) hP hD hS hA [] rfl rfl (by decide)
  refine va_callv (va_runS (As := [.int 1]) (rest := []) ⟨hx, hb, hml, hown, htx⟩ (cB_demand_0 l hl9 D cT aK aV H.size) ⟨callB_of 1 htx (xw_goodC kw_1_221) rfl rfl rfl (htx _ kw_1_1) (htx _ kw_1_219) ⟨by decide, by decide, by decide +kernel⟩ ⟨Nat.le_of_ble_eq_true rfl, Nat.le_of_ble_eq_true rfl⟩, htx _ kw_1_220⟩ ⟨xPre_blind, (fun U hU hW => ⟨rfl, xPre_of hZ hS hFc hPc hDc hK U hU hW⟩)⟩ rfl rfl hl.1 rfl (lv_room (Nat.le_of_ble_eq_true rfl)) dB_two_36 ⟨Nat.le_of_ble_eq_true rfl, Nat.le_of_ble_eq_true rfl⟩) hS (fun q _ h => hFc q h) hFc (fun u9 t H1 locs ht hvm hr9 hB hz1 hk1 hS => ?_)
  obtain ⟨hP1, hK1, hD1⟩ := hB
  rw [ht] at hP1
  obtain ⟨hP, hD⟩ := xjoin (W := [(a0, .inr (0, [v25, v26, .ref a8, .ref a2, v27, .ref a1, v28, v29])), (a1, .inr (2, [.ref a7, v30, v31])), (a2, .inl (cT 3, 8, .inr (.inr (.inr (.inr f32))))), (a3, .inr (2, [.ref a4, .int 1, v37])), (a4, .inl (cT 2, 4096, .inr (.inl f38))), (a5, .inr (2, [.ref a6, .int 1, v40])), (a6, .inl (cT 2, 4096, .inr (.inl f41))), (a7, .inl (cT 2, 4096, .inr (.inl f43))), (a8, .inr (1, [.ref a9, v44, v45])), (a9, .inl (cT 0, 4096, .inl f46))]) hP hD [] [0, 1, 2, 3, 4, 5, 6, 7, 8, 9] 10 rfl rfl (by decide) (by decide) hk1 hFc hP1 hD1
  generalize H1 = H at hP hS ⊢
  refine lv_aload_n hx hb dB_two_39 rfl (lv_at hl 0 rfl) ?_
  refine va_get (D := D) (ci := 0) (v := .ref a1) (C := "ValueBench") (T := TB) (N := 8) hx hb htx inB hown hK hP 0 rfl rfl 5 (by decide) (htx _ kw_1_100) (fun _ h9 => h9) rfl dB_two_40 ?_
  obtain ⟨hPc, hDc, hFc⟩ := xcut (wc := [(a1, .inr (2, [.ref a7, v30, v31]))]) hP hD hS hA [1] rfl rfl (by decide)
  refine va_callv (va_runV (C := "ValueBench$Row") (As := []) (rest := []) ⟨hx, hb, hml, hown, htx⟩ (cR_clear_0 l hl9 D cT aK aV H.size a1 (.ref a7) v30 v31) ⟨callB_of 0 htx (xw_goodC kw_2_22) rfl rfl rfl (htx _ kw_1_4) (htx _ kw_2_19) ⟨by decide, by decide, by decide +kernel⟩ ⟨Nat.le_of_ble_eq_true rfl, Nat.le_of_ble_eq_true rfl⟩, (htx _ kw_2_20), (htx _ kw_2_21)⟩ ⟨xPre_blind, va_recv hK hP (ci := 2) rfl (q0 := 1) rfl, (fun U hU hW => ⟨rfl, xPre_of hZ hS hFc hPc hDc hK U hU hW⟩)⟩ rfl rfl hl.1 rfl (lv_room (Nat.le_of_ble_eq_true rfl)) dB_two_43 ⟨Nat.le_of_ble_eq_true rfl, Nat.le_of_ble_eq_true rfl⟩) hS (fun q _ h => hFc q h) hFc (fun u9 t H1 locs ht hvm hr9 hB hz1 hk1 hS => ?_)
  obtain ⟨hP1, hK1, hD1⟩ := hB
  rw [ht] at hP1
  obtain ⟨hP, hD⟩ := xjoin (W := [(a0, .inr (0, [v25, v26, .ref a8, .ref a2, v27, .ref a1, v28, v29])), (a2, .inl (cT 3, 8, .inr (.inr (.inr (.inr f32))))), (a3, .inr (2, [.ref a4, .int 1, v37])), (a4, .inl (cT 2, 4096, .inr (.inl f38))), (a5, .inr (2, [.ref a6, .int 1, v40])), (a6, .inl (cT 2, 4096, .inr (.inl f41))), (a7, .inl (cT 2, 4096, .inr (.inl f43))), (a8, .inr (1, [.ref a9, v44, v45])), (a9, .inl (cT 0, 4096, .inl f46)), (a1, .inr (2, [.ref a7, .int 0, .int 0]))]) hP hD [1] [0, 2, 3, 4, 5, 6, 7, 8, 9] 9 rfl rfl (by decide) (by decide) hk1 hFc hP1 hD1
  generalize H1 = H at hP hS ⊢
  refine lv_aload_n hx hb dB_two_46 rfl (lv_at hl 0 rfl) ?_
  refine lv_iload_n hx hb dB_two_47 rfl (lv_at hl 2 rfl) ?_
  refine lv_aload_n hx hb dB_two_48 rfl (lv_at hl 0 rfl) ?_
  refine va_get (D := D) (ci := 0) (v := .ref a2) (C := "ValueBench") (T := TB) (N := 8) hx hb htx inB hown hK hP 0 rfl rfl 3 (by decide) (htx _ kw_1_98) (fun _ h9 => h9) rfl dB_two_49 ?_
  refine lv_iload_n hx hb dB_two_52 rfl (lv_at hl 3 rfl) ?_
  refine va_aldq hx hb hK hP 1 3 rfl rfl h19 dB_two_53 ?_
  refine W.eq (g2 := F0 m 54 ls [va_rf (f32 x15.toNatClampNeg), .int 9, .ref a0]) rfl ?_
  rw [h33]
  refine W.eq (g2 := F0 m 54 ls [.ref a3, .int 9, .ref a0]) rfl ?_
  refine lv_aload_n hx hb dB_two_54 rfl (lv_at hl 0 rfl) ?_
  refine va_get (D := D) (ci := 0) (v := .ref a2) (C := "ValueBench") (T := TB) (N := 8) hx hb htx inB hown hK hP 0 rfl rfl 3 (by decide) (htx _ kw_1_98) (fun _ h9 => h9) rfl dB_two_55 ?_
  refine lv_iload hx hb dB_two_58 (lv_at hl 4 rfl) ?_
  refine va_aldq hx hb hK hP 1 3 rfl rfl h24 dB_two_60 ?_
  refine W.eq (g2 := F0 m 61 ls [va_rf (f32 x20.toNatClampNeg), .ref a3, .int 9, .ref a0]) rfl ?_
  rw [h34]
  refine W.eq (g2 := F0 m 61 ls [.ref a5, .ref a3, .int 9, .ref a0]) rfl ?_
  refine lv_aload_n hx hb dB_two_61 rfl (lv_at hl 0 rfl) ?_
  refine va_get (D := D) (ci := 0) (v := .ref a8) (C := "ValueBench") (T := TB) (N := 8) hx hb htx inB hown hK hP 0 rfl rfl 2 (by decide) (htx _ kw_1_97) (fun _ h9 => h9) rfl dB_two_62 ?_
  refine lv_aload_n hx hb dB_two_65 rfl (lv_at hl 0 rfl) ?_
  refine va_get (D := D) (ci := 0) (v := .ref a1) (C := "ValueBench") (T := TB) (N := 8) hx hb htx inB hown hK hP 0 rfl rfl 5 (by decide) (htx _ kw_1_100) (fun _ h9 => h9) rfl dB_two_66 ?_
  obtain ⟨hPc, hDc, hFc⟩ := xcut (wc := [(a3, .inr (2, [.ref a4, .int 1, v37])), (a4, .inl (cT 2, 4096, .inr (.inl f38))), (a5, .inr (2, [.ref a6, .int 1, v40])), (a6, .inl (cT 2, 4096, .inr (.inl f41))), (a1, .inr (2, [.ref a7, .int 0, .int 0])), (a7, .inl (cT 2, 4096, .inr (.inl f43)))]) hP hD hS hA [2, 3, 4, 5, 9, 6] rfl rfl (by decide)
  refine va_calli (va_runS (As := [.int 9, .ref a3, .ref a5, .ref a8, .ref a1]) (rest := [.ref a0]) ⟨hx, hb, hml, hown, htx⟩ (cH_apply_18 l hl9 D cT aK aV H.size a3 a4 a5 a6 a1 a7 a8 v37 f38 v40 f41 f43 (by first | rfl | exact h33 | exact h34 | exact h36 | exact h39 | exact h42) (by first | rfl | exact h33 | exact h34 | exact h36 | exact h39 | exact h42)) ⟨callB_of 5 htx (xw_goodC kw_4_146) rfl rfl rfl (htx _ kw_1_27) (htx _ kw_4_144) ⟨by decide, by decide, by decide +kernel⟩ ⟨Nat.le_of_ble_eq_true rfl, Nat.le_of_ble_eq_true rfl⟩, htx _ kw_4_145⟩ ⟨xPre_blind, (fun U hU hW => ⟨rfl, xPre_of hZ hS hFc hPc hDc hK U hU hW⟩)⟩ rfl rfl hl.1 rfl (lv_room (Nat.le_of_ble_eq_true rfl)) dB_two_69 ⟨Nat.le_of_ble_eq_true rfl, Nat.le_of_ble_eq_true rfl⟩) hS (fun q _ h => hFc q h) hFc (fun r5 u9 t H1 locs ht hvm hr9 hB hz1 hk1 hS => ?_)
  obtain ⟨hP1, hK1, hD1⟩ := hB
  rw [ht] at hP1
  obtain ⟨hP, hD⟩ := xjoin (W := [(a0, .inr (0, [v25, v26, .ref a8, .ref a2, v27, .ref a1, v28, v29])), (a2, .inl (cT 3, 8, .inr (.inr (.inr (.inr f32))))), (a8, .inr (1, [.ref a9, v44, v45])), (a9, .inl (cT 0, 4096, .inl f46)), (a3, .inr (2, [.ref a4, .int 1, v37])), (a4, .inl (cT 2, 4096, .inr (.inl f38))), (a5, .inr (2, [.ref a6, .int 1, v40])), (a6, .inl (cT 2, 4096, .inr (.inl f41))), (a1, .inr (2, [.ref a7, .int 1, .int 0])), (a7, .inl (cT 2, 4096, .inr (.inl (vp_updL f43 0 0))))]) hP hD [2, 3, 4, 5, 9, 6] [0, 1, 7, 8] 4 rfl rfl (by decide) (by decide) hk1 hFc hP1 hD1
  generalize H1 = H at hP hS ⊢
  rw [hr9]
  refine W.eq (g2 := F0 m 72 ls [.int 0, .ref a0]) rfl ?_
  obtain ⟨hPc, hDc, hFc⟩ := xcut (wc := []) hP hD hS hA [] rfl rfl (by decide)
  refine va_callv (va_runV (C := "ValueBench") (As := [.int 0]) (rest := []) ⟨hx, hb, hml, hown, htx⟩ (cB_demandDone_0 l hl9 D cT aK aV H.size a0) ⟨callB_of 1 htx (xw_goodC kw_3_222) rfl rfl rfl (htx _ kw_1_1) (htx _ kw_3_219) ⟨by decide, by decide, by decide +kernel⟩ ⟨Nat.le_of_ble_eq_true rfl, Nat.le_of_ble_eq_true rfl⟩, (htx _ kw_3_221), (htx _ kp_B_demandDone)⟩ ⟨xPre_blind, va_recv hK hP (ci := 0) rfl (q0 := 0) rfl, (fun U hU hW => ⟨rfl, xPre_of hZ hS hFc hPc hDc hK U hU hW⟩)⟩ rfl rfl hl.1 rfl (lv_room (Nat.le_of_ble_eq_true rfl)) dB_two_72 ⟨Nat.le_of_ble_eq_true rfl, Nat.le_of_ble_eq_true rfl⟩) hS (fun q _ h => hFc q h) hFc (fun u9 t H1 locs ht hvm hr9 hB hz1 hk1 hS => ?_)
  obtain ⟨hP1, hK1, hD1⟩ := hB
  rw [ht] at hP1
  obtain ⟨hP, hD⟩ := xjoin (W := [(a0, .inr (0, [v25, v26, .ref a8, .ref a2, v27, .ref a1, v28, v29])), (a2, .inl (cT 3, 8, .inr (.inr (.inr (.inr f32))))), (a8, .inr (1, [.ref a9, v44, v45])), (a9, .inl (cT 0, 4096, .inl f46)), (a3, .inr (2, [.ref a4, .int 1, v37])), (a4, .inl (cT 2, 4096, .inr (.inl f38))), (a5, .inr (2, [.ref a6, .int 1, v40])), (a6, .inl (cT 2, 4096, .inr (.inl f41))), (a1, .inr (2, [.ref a7, .int 1, .int 0])), (a7, .inl (cT 2, 4096, .inr (.inl (vp_updL f43 0 0))))]) hP hD [] [0, 1, 2, 3, 4, 5, 6, 7, 8, 9] 10 rfl rfl (by decide) (by decide) hk1 hFc hP1 hD1
  generalize H1 = H at hP hS ⊢
  refine lv_aload_n hx hb dB_two_75 rfl (lv_at hl 0 rfl) ?_
  refine lv_iload_n hx hb dB_two_76 rfl (lv_at hl 1 rfl) ?_
  obtain ⟨hPc, hDc, hFc⟩ := xcut (wc := [(a0, .inr (0, [v25, v26, .ref a8, .ref a2, v27, .ref a1, v28, v29])), (a8, .inr (1, [.ref a9, v44, v45])), (a1, .inr (2, [.ref a7, .int 1, .int 0])), (a7, .inl (cT 2, 4096, .inr (.inl (vp_updL f43 0 0)))), (a9, .inl (cT 0, 4096, .inl f46)), (a2, .inl (cT 3, 8, .inr (.inr (.inr (.inr f32)))))]) hP hD hS hA [0, 2, 8, 9, 3, 1] rfl rfl (by decide)
  refine va_calli (va_runV (C := "ValueBench") (As := [.int x10]) (rest := []) ⟨hx, hb, hml, hown, htx⟩ (cB_keepSpare_4 l hl9 D cT aK aV H.size a0 a8 a1 a7 a9 a2 x10 v25 v26 v27 v28 v29 v44 v45 (vp_updL f43 0 0) f46 f32 b35 h11 h12 h13 h14 (by first | rfl | exact h33 | exact h34 | exact h36 | exact h39 | exact h42) (by first | rfl | exact h33 | exact h34 | exact h36 | exact h39 | exact h42)) ⟨callB_of 1 htx (xw_goodC kw_3_17) rfl rfl rfl (htx _ kw_1_1) (htx _ kw_3_14) ⟨by decide, by decide, by decide +kernel⟩ ⟨Nat.le_of_ble_eq_true rfl, Nat.le_of_ble_eq_true rfl⟩, (htx _ kw_3_16), (htx _ kp_B_keepSpare)⟩ ⟨xPre_blind, va_recv hK hP (ci := 0) rfl (q0 := 0) rfl, (fun U hU hW => ⟨rfl, xPre_of hZ hS hFc hPc hDc hK U hU hW⟩)⟩ rfl rfl hl.1 rfl (lv_room (Nat.le_of_ble_eq_true rfl)) dB_two_77 ⟨Nat.le_of_ble_eq_true rfl, Nat.le_of_ble_eq_true rfl⟩) hS (fun q _ h => hFc q h) hFc (fun r6 u9 t H1 locs ht hvm hr9 hB hz1 hk1 hS => ?_)
  obtain ⟨y7, y8, y9, y10, hP1, hK1, hD1⟩ := hB
  rw [ht] at hP1
  obtain ⟨hP, hD⟩ := xjoin (W := [(a3, .inr (2, [.ref a4, .int 1, v37])), (a4, .inl (cT 2, 4096, .inr (.inl f38))), (a5, .inr (2, [.ref a6, .int 1, v40])), (a6, .inl (cT 2, 4096, .inr (.inl f41))), (a0, .inr (0, [v25, v26, .ref a8, .ref a2, v27, .ref b35, v28, v29])), (a8, .inr (1, [.ref a9, .int 4, .int 0])), (a1, .inr (2, [.ref a7, .int 1, .int 0])), (a7, .inl (cT 2, 4096, .inr (.inl (vp_updL f43 0 0)))), (a9, .inl (cT 0, 4096, .inl (upd (upd (upd (upd f46 0 (vp_nar .byte y7)) 1 (vp_nar .byte y8)) 2 (vp_nar .byte y9)) 3 (vp_nar .byte y10)))), (a2, .inl (cT 3, 8, .inr (.inr (.inr (.inr (va_up f32 x10.toNatClampNeg (some a1)))))))]) hP hD [0, 2, 8, 9, 3, 1] [4, 5, 6, 7] 4 rfl rfl (by decide) (by decide) hk1 hFc hP1 hD1
  generalize H1 = H at hP hS ⊢
  rw [hr9]
  refine W.eq (g2 := F0 m 80 ls [.int 4]) rfl ?_
  refine lv_pop hx hb dB_two_80 rfl ?_
  obtain ⟨hP9, hD9⟩ := xsub (wc := [(a0, .inr (0, [v25, v26, .ref a8, .ref a2, v27, .ref b35, v28, v29])), (a1, .inr (2, [.ref a7, .int 1, .int 0])), (a2, .inl (cT 3, 8, .inr (.inr (.inr (.inr (va_up f32 x10.toNatClampNeg (some a1))))))), (a3, .inr (2, [.ref a4, .int 1, v37])), (a4, .inl (cT 2, 4096, .inr (.inl f38))), (a5, .inr (2, [.ref a6, .int 1, v40])), (a6, .inl (cT 2, 4096, .inr (.inl f41))), (a7, .inl (cT 2, 4096, .inr (.inl (vp_updL f43 0 0)))), (a8, .inr (1, [.ref a9, .int 4, .int 0])), (a9, .inl (cT 0, 4096, .inl (upd (upd (upd (upd f46 0 (vp_nar .byte y7)) 1 (vp_nar .byte y8)) 2 (vp_nar .byte y9)) 3 (vp_nar .byte y10))))]) hP hD [4, 6, 9, 0, 1, 2, 3, 7, 5, 8] rfl rfl (by decide)
  refine W.widen (k := 0) (n := 0) (Nat.le_of_ble_eq_true rfl) (Nat.le_of_ble_eq_true rfl) ?_
  exact W.vret hx hb hr (fun t ht hW => ⟨⟨(), rfl, trivial, y7, y8, y9, y10, by rw [ht]; exact hP9, va_K.moved hW.alike hK, hD9⟩, hS.F ht⟩) hS.2.2 dB_two_81
set_option maxHeartbeats 400000000 in
set_option maxRecDepth 100000 in
theorem cL_two_18 (l : Launch) (hl9 : l.stackTraces = false) (D : va_G) (cT : Nat → ClassId) (aK aV : Nat → Nat) (sz : Nat) (a0 : Nat) (a1 : Nat) (a2 : Nat) (a3 : Nat) (a4 : Nat) (a5 : Nat) (a6 : Nat) (a7 : Nat) (a8 : Nat) (a9 : Nat) (x10 : Int32) (x15 : Int32) (x20 : Int32) (v25 : Value) (v26 : Value) (v27 : Value) (v28 : Value) (v29 : Value) (v30 : Value) (v31 : Value) (f32 : Nat → Option Nat) (b35 : Nat) (v37 : Value) (f38 : Nat → Int64) (v40 : Value) (f41 : Nat → Int64) (f43 : Nat → Int64) (v44 : Value) (v45 : Value) (f46 : Nat → Int32) (h11 : ¬ x10 < 0) (h12 : ¬ 7 < x10) (h13 : x10 ≤ 7) (h14 : vp_in x10 8) (h16 : ¬ x15 < 0) (h17 : ¬ 7 < x15) (h18 : x15 ≤ 7) (h19 : vp_in x15 8) (h21 : ¬ x20 < 0) (h22 : ¬ 7 < x20) (h23 : x20 ≤ 7) (h24 : vp_in x20 8) (h33 : f32 x15.toNatClampNeg = some a3) (h34 : f32 x20.toNatClampNeg = some a5) (h36 : f32 x10.toNatClampNeg = some b35) (h39 : f38 0 = 0) (h42 : f41 0 = 0) : xMet l yL_two wyL_two 8 0 0 176 D cT aK aV sz [.ref a0, .int x10, .int 9, .int x15, .int x20] [(a0, .inr (0, [v25, v26, .ref a8, .ref a2, v27, .ref a1, v28, v29])), (a1, .inr (2, [.ref a7, v30, v31])), (a2, .inl (cT 3, 8, .inr (.inr (.inr (.inr f32))))), (a3, .inr (2, [.ref a4, .int 1, v37])), (a4, .inl (cT 2, 4096, .inr (.inl f38))), (a5, .inr (2, [.ref a6, .int 1, v40])), (a6, .inl (cT 2, 4096, .inr (.inl f41))), (a7, .inl (cT 2, 4096, .inr (.inl f43))), (a8, .inr (1, [.ref a9, v44, v45])), (a9, .inl (cT 0, 4096, .inl f46))] (fun A => va_Qi (fun (r : Int32) (_ : Unit) => r = 0) (fun _ t => ∃ (y1 : Int32) (y2 : Int32) (y3 : Int32) (y4 : Int32), xB D xcl cT A [(a0, .inr (0, [v25, v26, .ref a8, .ref a2, v27, .ref a1, v28, v29])), (a1, .inr (2, [.ref a7, .int 1, .int 0])), (a2, .inl (cT 3, 8, .inr (.inr (.inr (.inr (va_up f32 x10.toNatClampNeg (some a1))))))), (a3, .inr (2, [.ref a4, .int 1, v37])), (a4, .inl (cT 2, 4096, .inr (.inl f38))), (a5, .inr (2, [.ref a6, .int 1, v40])), (a6, .inl (cT 2, 4096, .inr (.inl f41))), (a7, .inl (cT 2, 4096, .inr (.inl (vp_updL f43 0 0)))), (a8, .inr (1, [.ref a9, .int 4, .int 0])), (a9, .inl (cT 0, 4096, .inl (upd (upd (upd (upd f46 0 (vp_nar .byte y1)) 1 (vp_nar .byte y2)) 2 (vp_nar .byte y3)) 3 (vp_nar .byte y4))))] t) A) := by
  refine va_MetW (cc := method_11_code) (maxL := 6) (ret := (some .int)) (hh := [(0, 9, 12, 19), (0, 9, 16, 33), (0, 9, 20, 13)]) (by decide) rfl ?_
  intro p e s m args below meth c s₁ B hml hv
  obtain ⟨rfl, hsz, hZ, hP, hK, hD0⟩ := hv
  have hx := B.exec
  have hb := B.bytes
  have hr := B.returns
  have hts := atoms_spec (ws := wyL_two) B.pre
  have htx := fun w h => hts w (List.mem_cons_of_mem _ h)
  have hown : s.vm.findClass "ValueBenchLaw" = some m.cls := findClass_of_methodNamed B.named
  have hlocks := B.notSynchronized
  subst hsz
  have hD := hD0.self (sz := s.heap.size)
  generalize hAe : va_A [(a0, .inr (0, [v25, v26, .ref a8, .ref a2, v27, .ref a1, v28, v29])), (a1, .inr (2, [.ref a7, v30, v31])), (a2, .inl (cT 3, 8, .inr (.inr (.inr (.inr f32))))), (a3, .inr (2, [.ref a4, .int 1, v37])), (a4, .inl (cT 2, 4096, .inr (.inl f38))), (a5, .inr (2, [.ref a6, .int 1, v40])), (a6, .inl (cT 2, 4096, .inr (.inl f41))), (a7, .inl (cT 2, 4096, .inr (.inl f43))), (a8, .inr (1, [.ref a9, v44, v45])), (a9, .inl (cT 0, 4096, .inl f46))] s.heap.size = A at hD hZ ⊢
  have hA : ∀ q : Nat, s.heap.size ≤ q → A q := fun q h => by rw [← hAe]; exact Or.inr h
  have hS : va_S A s.heap s.heap [] := va_S.rf
  have hP : va_P D xcl [(a0, .inr (0, [v25, v26, .ref a8, .ref a2, v27, .ref a1, v28, v29])), (a1, .inr (2, [.ref a7, v30, v31])), (a2, .inl (cT 3, 8, .inr (.inr (.inr (.inr f32))))), (a3, .inr (2, [.ref a4, .int 1, v37])), (a4, .inl (cT 2, 4096, .inr (.inl f38))), (a5, .inr (2, [.ref a6, .int 1, v40])), (a6, .inl (cT 2, 4096, .inr (.inl f41))), (a7, .inl (cT 2, 4096, .inr (.inl f43))), (a8, .inr (1, [.ref a9, v44, v45])), (a9, .inl (cT 0, 4096, .inl f46))] s.heap := hP
  have hl := lv_entry ([.ref a0, .int x10, .int 9, .int x15, .int x20]) (n := 6) (Nat.le_of_ble_eq_true rfl)
  rw [lg_entry_eq]
  generalize (lg_sl ([.ref a0, .int x10, .int 9, .int x15, .int x20]) ++ List.replicate (6 - (lg_sl ([.ref a0, .int x10, .int 9, .int x15, .int x20])).length) Slot.unset).toArray = ls at hl ⊢
  have hl : lv_has ls 6 [(0, .ref a0), (1, .int x10), (2, .int 9), (3, .int x15), (4, .int x20)] := hl
  have htab := vx_table (x := yL_two) B (hts _ List.mem_cons_self)
  refine lv_aload_n hx hb dL_two_0 rfl (lv_at hl 0 rfl) ?_
  refine lv_iload_n hx hb dL_two_1 rfl (lv_at hl 1 rfl) ?_
  refine lv_iload_n hx hb dL_two_2 rfl (lv_at hl 2 rfl) ?_
  refine lv_iload_n hx hb dL_two_3 rfl (lv_at hl 3 rfl) ?_
  refine lv_iload hx hb dL_two_4 (lv_at hl 4 rfl) ?_
  obtain ⟨hPc, hDc, hFc⟩ := xcut (wc := [(a0, .inr (0, [v25, v26, .ref a8, .ref a2, v27, .ref a1, v28, v29])), (a1, .inr (2, [.ref a7, v30, v31])), (a2, .inl (cT 3, 8, .inr (.inr (.inr (.inr f32))))), (a3, .inr (2, [.ref a4, .int 1, v37])), (a4, .inl (cT 2, 4096, .inr (.inl f38))), (a5, .inr (2, [.ref a6, .int 1, v40])), (a6, .inl (cT 2, 4096, .inr (.inl f41))), (a7, .inl (cT 2, 4096, .inr (.inl f43))), (a8, .inr (1, [.ref a9, v44, v45])), (a9, .inl (cT 0, 4096, .inl f46))]) hP hD hS hA [0, 1, 2, 3, 4, 5, 6, 7, 8, 9] rfl rfl (by decide)
  refine va_callv (va_runV (C := "ValueBench") (As := [.int x10, .int 9, .int x15, .int x20]) (rest := []) ⟨hx, hb, hml, hown, htx⟩ (cB_two_18 l hl9 D cT aK aV s.heap.size a0 a1 a2 a3 a4 a5 a6 a7 a8 a9 x10 x15 x20 v25 v26 v27 v28 v29 v30 v31 f32 b35 v37 f38 v40 f41 f43 v44 v45 f46 h11 h12 h13 h14 h16 h17 h18 h19 h21 h22 h23 h24 (by first | rfl | exact h33 | exact h34 | exact h36 | exact h39 | exact h42) (by first | rfl | exact h33 | exact h34 | exact h36 | exact h39 | exact h42) (by first | rfl | exact h33 | exact h34 | exact h36 | exact h39 | exact h42) (by first | rfl | exact h33 | exact h34 | exact h36 | exact h39 | exact h42) (by first | rfl | exact h33 | exact h34 | exact h36 | exact h39 | exact h42)) ⟨callB_of 4 htx (xw_goodC kw_4_143) rfl rfl rfl (htx _ kw_1_1) (htx _ kw_4_140) ⟨by decide, by decide, by decide +kernel⟩ ⟨Nat.le_of_ble_eq_true rfl, Nat.le_of_ble_eq_true rfl⟩, (htx _ kw_4_141), (htx _ kw_4_142)⟩ ⟨xPre_blind, va_recv hK hP (ci := 0) rfl (q0 := 0) rfl, (fun U hU hW => ⟨rfl, xPre_of hZ hS hFc hPc hDc hK U hU hW⟩)⟩ rfl rfl hl.1 rfl (lv_room (Nat.le_of_ble_eq_true rfl)) dL_two_6 ⟨Nat.le_of_ble_eq_true rfl, Nat.le_of_ble_eq_true rfl⟩) hS (fun q _ h => hFc q h) hFc (fun u9 t H1 locs ht hvm hr9 hB hz1 hk1 hS => ?_)
  obtain ⟨y1, y2, y3, y4, hP1, hK1, hD1⟩ := hB
  rw [ht] at hP1
  obtain ⟨hP, hD⟩ := xjoin (W := [(a0, .inr (0, [v25, v26, .ref a8, .ref a2, v27, .ref a1, v28, v29])), (a1, .inr (2, [.ref a7, .int 1, .int 0])), (a2, .inl (cT 3, 8, .inr (.inr (.inr (.inr (va_up f32 x10.toNatClampNeg (some a1))))))), (a3, .inr (2, [.ref a4, .int 1, v37])), (a4, .inl (cT 2, 4096, .inr (.inl f38))), (a5, .inr (2, [.ref a6, .int 1, v40])), (a6, .inl (cT 2, 4096, .inr (.inl f41))), (a7, .inl (cT 2, 4096, .inr (.inl (vp_updL f43 0 0)))), (a8, .inr (1, [.ref a9, .int 4, .int 0])), (a9, .inl (cT 0, 4096, .inl (upd (upd (upd (upd f46 0 (vp_nar .byte y1)) 1 (vp_nar .byte y2)) 2 (vp_nar .byte y3)) 3 (vp_nar .byte y4))))]) hP hD [0, 1, 2, 3, 4, 5, 6, 7, 8, 9] [] 0 rfl rfl (by decide) (by decide) hk1 hFc hP1 hD1
  generalize H1 = H at hP hS ⊢
  refine lv_goto (tgt := 24) hx hb dL_two_9 (by decide) ?_
  refine lv_iconst (v := 0) hx hb dL_two_24 (by decide) ?_
  obtain ⟨hP9, hD9⟩ := xsub (wc := [(a0, .inr (0, [v25, v26, .ref a8, .ref a2, v27, .ref a1, v28, v29])), (a1, .inr (2, [.ref a7, .int 1, .int 0])), (a2, .inl (cT 3, 8, .inr (.inr (.inr (.inr (va_up f32 x10.toNatClampNeg (some a1))))))), (a3, .inr (2, [.ref a4, .int 1, v37])), (a4, .inl (cT 2, 4096, .inr (.inl f38))), (a5, .inr (2, [.ref a6, .int 1, v40])), (a6, .inl (cT 2, 4096, .inr (.inl f41))), (a7, .inl (cT 2, 4096, .inr (.inl (vp_updL f43 0 0)))), (a8, .inr (1, [.ref a9, .int 4, .int 0])), (a9, .inl (cT 0, 4096, .inl (upd (upd (upd (upd f46 0 (vp_nar .byte y1)) 1 (vp_nar .byte y2)) 2 (vp_nar .byte y3)) 3 (vp_nar .byte y4))))]) hP hD [0, 1, 2, 3, 4, 5, 6, 7, 8, 9] rfl rfl (by decide)
  refine W.widen (k := 0) (n := 0) (Nat.le_of_ble_eq_true rfl) (Nat.le_of_ble_eq_true rfl) ?_
  exact W.iret (v := 0) hx hb hr (fun t ht hW => ⟨⟨0, (), rfl, rfl, y1, y2, y3, y4, by rw [ht]; exact hP9, va_K.moved hW.alike hK, hD9⟩, hS.F ht⟩) hS.2.2 dL_two_25
set_option maxHeartbeats 400000000 in
set_option maxRecDepth 100000 in
theorem cH_at_1 (l : Launch) (hl9 : l.stackTraces = false) (D : va_G) (cT : Nat → ClassId) (aK aV : Nat → Nat) (sz : Nat) (a0 : Nat) (a1 : Nat) (a2 : Nat) (a3 : Nat) (v4 : Value) (f5 : Nat → Int64) (f7 : Nat → Int64) (h6 : f5 0 = 0) : xMet l yH_at wyH_at 3 0 0 62 D cT aK aV sz [.ref a0, .ref a0, .ref a2] [(a0, .inr (2, [.ref a1, .int 1, v4])), (a1, .inl (cT 2, 4096, .inr (.inl f5))), (a2, .inr (2, [.ref a3, .int 0, .int 0])), (a3, .inl (cT 2, 4096, .inr (.inl f7)))] (fun A => va_Qi (fun (r : Int32) (_ : Unit) => r = 0) (fun _ t => xB D xcl cT A [(a0, .inr (2, [.ref a1, .int 1, v4])), (a1, .inl (cT 2, 4096, .inr (.inl f5))), (a2, .inr (2, [.ref a3, .int 1, .int 0])), (a3, .inl (cT 2, 4096, .inr (.inl (vp_updL f7 0 0))))] t) A) := by
  refine Met.ofW (cc := prog_5_method_28_code) (maxL := 4) (ret := (some .int)) (by decide) rfl ?_
  intro p e s m args below meth c s₁ B hml hv
  obtain ⟨rfl, hsz, hZ, hP, hK, hD0⟩ := hv
  have hx := B.exec
  have hb := B.bytes
  have hr := B.returns
  have hts := atoms_spec (ws := wyH_at) B.pre
  have htx := fun w h => hts w (List.mem_cons_of_mem _ h)
  have hown : s.vm.findClass "ValueBench$Pairs" = some m.cls := findClass_of_methodNamed B.named
  have hlocks := B.notSynchronized
  subst hsz
  have hD := hD0.self (sz := s.heap.size)
  generalize hAe : va_A [(a0, .inr (2, [.ref a1, .int 1, v4])), (a1, .inl (cT 2, 4096, .inr (.inl f5))), (a2, .inr (2, [.ref a3, .int 0, .int 0])), (a3, .inl (cT 2, 4096, .inr (.inl f7)))] s.heap.size = A at hD hZ ⊢
  have hA : ∀ q : Nat, s.heap.size ≤ q → A q := fun q h => by rw [← hAe]; exact Or.inr h
  have hS : va_S A s.heap s.heap [] := va_S.rf
  have hP : va_P D xcl [(a0, .inr (2, [.ref a1, .int 1, v4])), (a1, .inl (cT 2, 4096, .inr (.inl f5))), (a2, .inr (2, [.ref a3, .int 0, .int 0])), (a3, .inl (cT 2, 4096, .inr (.inl f7)))] s.heap := hP
  have hl := lv_entry ([.ref a0, .ref a0, .ref a2]) (n := 4) (Nat.le_of_ble_eq_true rfl)
  rw [lg_entry_eq]
  generalize (lg_sl ([.ref a0, .ref a0, .ref a2]) ++ List.replicate (4 - (lg_sl ([.ref a0, .ref a0, .ref a2])).length) Slot.unset).toArray = ls at hl ⊢
  have hl : lv_has ls 4 [(0, .ref a0), (1, .ref a0), (2, .ref a2)] := hl
  refine lv_aload_n hx hb dH_at_0 rfl (lv_at hl 0 rfl) ?_
  refine lv_iconst (v := 0) hx hb dH_at_1 (by decide) ?_
  refine lv_bipush (v := 6) hx hb dH_at_2 (by decide) ?_
  obtain ⟨hPc, hDc, hFc⟩ := xcut (wc := [(a0, .inr (2, [.ref a1, .int 1, v4])), (a1, .inl (cT 2, 4096, .inr (.inl f5)))]) hP hD hS hA [0, 1] rfl rfl (by decide)
  refine va_calli (va_runV (C := "ValueBench$Row") (As := [.int 0, .int 6]) (rest := []) ⟨hx, hb, hml, hown, htx⟩ (cR_is_1 l hl9 D cT aK aV s.heap.size a0 a1 v4 f5 (by first | rfl | exact h6)) ⟨callB_of 2 htx (xw_goodC kw_3_75) rfl rfl rfl (htx _ kw_1_4) (htx _ kw_4_150) ⟨by decide, by decide, by decide +kernel⟩ ⟨Nat.le_of_ble_eq_true rfl, Nat.le_of_ble_eq_true rfl⟩, (htx _ kw_3_73), (htx _ kw_3_74)⟩ ⟨xPre_blind, va_recv hK hP (ci := 2) rfl (q0 := 0) rfl, (fun U hU hW => ⟨rfl, xPre_of hZ hS hFc hPc hDc hK U hU hW⟩)⟩ rfl rfl hl.1 rfl (lv_room (Nat.le_of_ble_eq_true rfl)) dH_at_4 ⟨Nat.le_of_ble_eq_true rfl, Nat.le_of_ble_eq_true rfl⟩) hS (fun q _ h => hFc q h) hFc (fun r1 u9 t H1 locs ht hvm hr9 hB hz1 hk1 hS => ?_)
  obtain ⟨hP1, hK1, hD1⟩ := hB
  rw [ht] at hP1
  obtain ⟨hP, hD⟩ := xjoin (W := [(a2, .inr (2, [.ref a3, .int 0, .int 0])), (a3, .inl (cT 2, 4096, .inr (.inl f7))), (a0, .inr (2, [.ref a1, .int 1, v4])), (a1, .inl (cT 2, 4096, .inr (.inl f5)))]) hP hD [0, 1] [2, 3] 2 rfl rfl (by decide) (by decide) hk1 hFc hP1 hD1
  generalize H1 = H at hP hS ⊢
  rw [hr9]
  refine W.eq (g2 := F0 m 7 ls [.int 0]) rfl ?_
  refine lv_if_eq (tgt := 46) hx hb dH_at_7 (by decide) (fun _ => ?_) (fun h => ((by revert h; decide : False)).elim)
  refine lv_aload_n hx hb dH_at_46 rfl (lv_at hl 0 rfl) ?_
  refine lv_iconst (v := 0) hx hb dH_at_47 (by decide) ?_
  refine lv_iconst (v := 5) hx hb dH_at_48 (by decide) ?_
  obtain ⟨hPc, hDc, hFc⟩ := xcut (wc := [(a0, .inr (2, [.ref a1, .int 1, v4])), (a1, .inl (cT 2, 4096, .inr (.inl f5)))]) hP hD hS hA [2, 3] rfl rfl (by decide)
  refine va_calli (va_runV (C := "ValueBench$Row") (As := [.int 0, .int 5]) (rest := []) ⟨hx, hb, hml, hown, htx⟩ (cR_is_2 l hl9 D cT aK aV H.size a0 a1 v4 f5 (by first | rfl | exact h6)) ⟨callB_of 2 htx (xw_goodC kw_3_75) rfl rfl rfl (htx _ kw_1_4) (htx _ kw_4_150) ⟨by decide, by decide, by decide +kernel⟩ ⟨Nat.le_of_ble_eq_true rfl, Nat.le_of_ble_eq_true rfl⟩, (htx _ kw_3_73), (htx _ kw_3_74)⟩ ⟨xPre_blind, va_recv hK hP (ci := 2) rfl (q0 := 2) rfl, (fun U hU hW => ⟨rfl, xPre_of hZ hS hFc hPc hDc hK U hU hW⟩)⟩ rfl rfl hl.1 rfl (lv_room (Nat.le_of_ble_eq_true rfl)) dH_at_49 ⟨Nat.le_of_ble_eq_true rfl, Nat.le_of_ble_eq_true rfl⟩) hS (fun q _ h => hFc q h) hFc (fun r2 u9 t H1 locs ht hvm hr9 hB hz1 hk1 hS => ?_)
  obtain ⟨hP1, hK1, hD1⟩ := hB
  rw [ht] at hP1
  obtain ⟨hP, hD⟩ := xjoin (W := [(a2, .inr (2, [.ref a3, .int 0, .int 0])), (a3, .inl (cT 2, 4096, .inr (.inl f7))), (a0, .inr (2, [.ref a1, .int 1, v4])), (a1, .inl (cT 2, 4096, .inr (.inl f5)))]) hP hD [2, 3] [0, 1] 2 rfl rfl (by decide) (by decide) hk1 hFc hP1 hD1
  generalize H1 = H at hP hS ⊢
  rw [hr9]
  refine W.eq (g2 := F0 m 52 ls [.int 0]) rfl ?_
  refine lv_if_eq (tgt := 75) hx hb dH_at_52 (by decide) (fun _ => ?_) (fun h => ((by revert h; decide : False)).elim)
  refine lv_aload_n hx hb dH_at_75 rfl (lv_at hl 0 rfl) ?_
  refine lv_iconst (v := 0) hx hb dH_at_76 (by decide) ?_
  refine lv_iconst (v := 0) hx hb dH_at_77 (by decide) ?_
  obtain ⟨hPc, hDc, hFc⟩ := xcut (wc := [(a0, .inr (2, [.ref a1, .int 1, v4])), (a1, .inl (cT 2, 4096, .inr (.inl f5)))]) hP hD hS hA [2, 3] rfl rfl (by decide)
  refine va_calli (va_runV (C := "ValueBench$Row") (As := [.int 0, .int 0]) (rest := []) ⟨hx, hb, hml, hown, htx⟩ (cR_is_0 l hl9 D cT aK aV H.size a0 a1 v4 f5 (by first | rfl | exact h6)) ⟨callB_of 2 htx (xw_goodC kw_3_75) rfl rfl rfl (htx _ kw_1_4) (htx _ kw_4_150) ⟨by decide, by decide, by decide +kernel⟩ ⟨Nat.le_of_ble_eq_true rfl, Nat.le_of_ble_eq_true rfl⟩, (htx _ kw_3_73), (htx _ kw_3_74)⟩ ⟨xPre_blind, va_recv hK hP (ci := 2) rfl (q0 := 2) rfl, (fun U hU hW => ⟨rfl, xPre_of hZ hS hFc hPc hDc hK U hU hW⟩)⟩ rfl rfl hl.1 rfl (lv_room (Nat.le_of_ble_eq_true rfl)) dH_at_78 ⟨Nat.le_of_ble_eq_true rfl, Nat.le_of_ble_eq_true rfl⟩) hS (fun q _ h => hFc q h) hFc (fun r3 u9 t H1 locs ht hvm hr9 hB hz1 hk1 hS => ?_)
  obtain ⟨hP1, hK1, hD1⟩ := hB
  rw [ht] at hP1
  obtain ⟨hP, hD⟩ := xjoin (W := [(a2, .inr (2, [.ref a3, .int 0, .int 0])), (a3, .inl (cT 2, 4096, .inr (.inl f7))), (a0, .inr (2, [.ref a1, .int 1, v4])), (a1, .inl (cT 2, 4096, .inr (.inl f5)))]) hP hD [2, 3] [0, 1] 2 rfl rfl (by decide) (by decide) hk1 hFc hP1 hD1
  generalize H1 = H at hP hS ⊢
  rw [hr9]
  refine W.eq (g2 := F0 m 81 ls [.int 1]) rfl ?_
  refine lv_if_eq (tgt := 115) hx hb dH_at_81 (by decide) (fun h => ((by revert h; decide : False)).elim) (fun _ => ?_)
  refine lv_aload_n hx hb dH_at_84 rfl (lv_at hl 1 rfl) ?_
  refine lv_iconst (v := 0) hx hb dH_at_85 (by decide) ?_
  refine lv_iconst (v := 0) hx hb dH_at_86 (by decide) ?_
  obtain ⟨hPc, hDc, hFc⟩ := xcut (wc := [(a0, .inr (2, [.ref a1, .int 1, v4])), (a1, .inl (cT 2, 4096, .inr (.inl f5)))]) hP hD hS hA [2, 3] rfl rfl (by decide)
  refine va_calli (va_runV (C := "ValueBench$Row") (As := [.int 0, .int 0]) (rest := []) ⟨hx, hb, hml, hown, htx⟩ (cR_is_0 l hl9 D cT aK aV H.size a0 a1 v4 f5 (by first | rfl | exact h6)) ⟨callB_of 2 htx (xw_goodC kw_3_75) rfl rfl rfl (htx _ kw_1_4) (htx _ kw_4_150) ⟨by decide, by decide, by decide +kernel⟩ ⟨Nat.le_of_ble_eq_true rfl, Nat.le_of_ble_eq_true rfl⟩, (htx _ kw_3_73), (htx _ kw_3_74)⟩ ⟨xPre_blind, va_recv hK hP (ci := 2) rfl (q0 := 2) rfl, (fun U hU hW => ⟨rfl, xPre_of hZ hS hFc hPc hDc hK U hU hW⟩)⟩ rfl rfl hl.1 rfl (lv_room (Nat.le_of_ble_eq_true rfl)) dH_at_87 ⟨Nat.le_of_ble_eq_true rfl, Nat.le_of_ble_eq_true rfl⟩) hS (fun q _ h => hFc q h) hFc (fun r4 u9 t H1 locs ht hvm hr9 hB hz1 hk1 hS => ?_)
  obtain ⟨hP1, hK1, hD1⟩ := hB
  rw [ht] at hP1
  obtain ⟨hP, hD⟩ := xjoin (W := [(a2, .inr (2, [.ref a3, .int 0, .int 0])), (a3, .inl (cT 2, 4096, .inr (.inl f7))), (a0, .inr (2, [.ref a1, .int 1, v4])), (a1, .inl (cT 2, 4096, .inr (.inl f5)))]) hP hD [2, 3] [0, 1] 2 rfl rfl (by decide) (by decide) hk1 hFc hP1 hD1
  generalize H1 = H at hP hS ⊢
  rw [hr9]
  refine W.eq (g2 := F0 m 90 ls [.int 1]) rfl ?_
  refine lv_if_ne (tgt := 111) hx hb dH_at_90 (by decide) (fun _ => ?_) (fun h => ((by revert h; decide : False)).elim)
  refine lv_iconst (v := 1) hx hb dH_at_111 (by decide) ?_
  refine lv_goto (tgt := 116) hx hb dH_at_112 (by decide) ?_
  refine lv_istore_n (lv' := [(3, .int 1), (0, .ref a0), (1, .ref a0), (2, .ref a2)]) hx hb dH_at_116 rfl hl (by decide) rfl (fun ls hl => ?_)
  refine lv_iload_n hx hb dH_at_117 rfl (lv_at hl 0 rfl) ?_
  refine lv_if_eq (tgt := 128) hx hb dH_at_118 (by decide) (fun h => ((by revert h; decide : False)).elim) (fun _ => ?_)
  refine lv_aload_n hx hb dH_at_121 rfl (lv_at hl 3 rfl) ?_
  obtain ⟨hPc, hDc, hFc⟩ := xcut (wc := [(a2, .inr (2, [.ref a3, .int 0, .int 0])), (a3, .inl (cT 2, 4096, .inr (.inl f7)))]) hP hD hS hA [0, 1] rfl rfl (by decide)
  refine va_calli (va_runS (As := [.ref a2]) (rest := []) ⟨hx, hb, hml, hown, htx⟩ (cH_nothing_0 l hl9 D cT aK aV H.size a2 a3 f7) ⟨callB_of 1 htx (xw_goodC kw_4_221) rfl rfl rfl (htx _ kw_1_27) (htx _ kw_4_219) ⟨by decide, by decide, by decide +kernel⟩ ⟨Nat.le_of_ble_eq_true rfl, Nat.le_of_ble_eq_true rfl⟩, htx _ kw_4_220⟩ ⟨xPre_blind, (fun U hU hW => ⟨rfl, xPre_of hZ hS hFc hPc hDc hK U hU hW⟩)⟩ rfl rfl hl.1 rfl (lv_room (Nat.le_of_ble_eq_true rfl)) dH_at_122 ⟨Nat.le_of_ble_eq_true rfl, Nat.le_of_ble_eq_true rfl⟩) hS (fun q _ h => hFc q h) hFc (fun r5 u9 t H1 locs ht hvm hr9 hB hz1 hk1 hS => ?_)
  obtain ⟨hP1, hK1, hD1⟩ := hB
  rw [ht] at hP1
  obtain ⟨hP, hD⟩ := xjoin (W := [(a0, .inr (2, [.ref a1, .int 1, v4])), (a1, .inl (cT 2, 4096, .inr (.inl f5))), (a2, .inr (2, [.ref a3, .int 1, .int 0])), (a3, .inl (cT 2, 4096, .inr (.inl (vp_updL f7 0 0))))]) hP hD [0, 1] [2, 3] 2 rfl rfl (by decide) (by decide) hk1 hFc hP1 hD1
  generalize H1 = H at hP hS ⊢
  rw [hr9]
  refine W.eq (g2 := F0 m 125 ls [.int 0]) rfl ?_
  refine lv_goto (tgt := 129) hx hb dH_at_125 (by decide) ?_
  obtain ⟨hP9, hD9⟩ := xsub (wc := [(a0, .inr (2, [.ref a1, .int 1, v4])), (a1, .inl (cT 2, 4096, .inr (.inl f5))), (a2, .inr (2, [.ref a3, .int 1, .int 0])), (a3, .inl (cT 2, 4096, .inr (.inl (vp_updL f7 0 0))))]) hP hD [0, 1, 2, 3] rfl rfl (by decide)
  refine W.widen (k := 0) (n := 0) (Nat.le_of_ble_eq_true rfl) (Nat.le_of_ble_eq_true rfl) ?_
  exact W.iret (v := 0) hx hb hr (fun t ht hW => ⟨⟨0, (), rfl, rfl, by rw [ht]; exact hP9, va_K.moved hW.alike hK, hD9⟩, hS.F ht⟩) hS.2.2 dH_at_129
set_option maxHeartbeats 400000000 in
set_option maxRecDepth 100000 in
theorem cH_apply_19 (l : Launch) (hl9 : l.stackTraces = false) (D : va_G) (cT : Nat → ClassId) (aK aV : Nat → Nat) (sz : Nat) (a0 : Nat) (a1 : Nat) (a2 : Nat) (a3 : Nat) (b4 : Nat) (v5 : Value) (f6 : Nat → Int64) (f8 : Nat → Int64) (h7 : f6 0 = 0) : xMet l yH_apply wyH_apply 4 0 0 85 D cT aK aV sz [.int 9, .ref a0, .ref a0, .ref b4, .ref a2] [(a0, .inr (2, [.ref a1, .int 1, v5])), (a1, .inl (cT 2, 4096, .inr (.inl f6))), (a2, .inr (2, [.ref a3, .int 0, .int 0])), (a3, .inl (cT 2, 4096, .inr (.inl f8)))] (fun A => va_Qi (fun (r : Int32) (_ : Unit) => r = 0) (fun _ t => xB D xcl cT A [(a0, .inr (2, [.ref a1, .int 1, v5])), (a1, .inl (cT 2, 4096, .inr (.inl f6))), (a2, .inr (2, [.ref a3, .int 1, .int 0])), (a3, .inl (cT 2, 4096, .inr (.inl (vp_updL f8 0 0))))] t) A) := by
  refine Met.ofW (cc := prog_5_method_2_code) (maxL := 5) (ret := (some .int)) (by decide) rfl ?_
  intro p e s m args below meth c s₁ B hml hv
  obtain ⟨rfl, hsz, hZ, hP, hK, hD0⟩ := hv
  have hx := B.exec
  have hb := B.bytes
  have hr := B.returns
  have hts := atoms_spec (ws := wyH_apply) B.pre
  have htx := fun w h => hts w (List.mem_cons_of_mem _ h)
  have hown : s.vm.findClass "ValueBench$Pairs" = some m.cls := findClass_of_methodNamed B.named
  have hlocks := B.notSynchronized
  subst hsz
  have hD := hD0.self (sz := s.heap.size)
  generalize hAe : va_A [(a0, .inr (2, [.ref a1, .int 1, v5])), (a1, .inl (cT 2, 4096, .inr (.inl f6))), (a2, .inr (2, [.ref a3, .int 0, .int 0])), (a3, .inl (cT 2, 4096, .inr (.inl f8)))] s.heap.size = A at hD hZ ⊢
  have hA : ∀ q : Nat, s.heap.size ≤ q → A q := fun q h => by rw [← hAe]; exact Or.inr h
  have hS : va_S A s.heap s.heap [] := va_S.rf
  have hP : va_P D xcl [(a0, .inr (2, [.ref a1, .int 1, v5])), (a1, .inl (cT 2, 4096, .inr (.inl f6))), (a2, .inr (2, [.ref a3, .int 0, .int 0])), (a3, .inl (cT 2, 4096, .inr (.inl f8)))] s.heap := hP
  have hl := lv_entry ([.int 9, .ref a0, .ref a0, .ref b4, .ref a2]) (n := 5) (Nat.le_of_ble_eq_true rfl)
  rw [lg_entry_eq]
  generalize (lg_sl ([.int 9, .ref a0, .ref a0, .ref b4, .ref a2]) ++ List.replicate (5 - (lg_sl ([.int 9, .ref a0, .ref a0, .ref b4, .ref a2])).length) Slot.unset).toArray = ls at hl ⊢
  have hl : lv_has ls 5 [(0, .int 9), (1, .ref a0), (2, .ref a0), (3, .ref b4), (4, .ref a2)] := hl
  refine lv_iload_n hx hb dH_apply_0 rfl (lv_at hl 0 rfl) ?_
  refine lv_tableOut (tgt := 155) hx hb dH_apply_1 (by decide) (by decide) ?_
  refine lv_aload_n hx hb dH_apply_155 rfl (lv_at hl 1 rfl) ?_
  refine lv_iconst (v := 0) hx hb dH_apply_156 (by decide) ?_
  refine lv_iconst (v := 5) hx hb dH_apply_157 (by decide) ?_
  obtain ⟨hPc, hDc, hFc⟩ := xcut (wc := [(a0, .inr (2, [.ref a1, .int 1, v5])), (a1, .inl (cT 2, 4096, .inr (.inl f6)))]) hP hD hS hA [0, 1] rfl rfl (by decide)
  refine va_calli (va_runV (C := "ValueBench$Row") (As := [.int 0, .int 5]) (rest := []) ⟨hx, hb, hml, hown, htx⟩ (cR_is_2 l hl9 D cT aK aV s.heap.size a0 a1 v5 f6 (by first | rfl | exact h7)) ⟨callB_of 2 htx (xw_goodC kw_3_75) rfl rfl rfl (htx _ kw_1_4) (htx _ kw_4_150) ⟨by decide, by decide, by decide +kernel⟩ ⟨Nat.le_of_ble_eq_true rfl, Nat.le_of_ble_eq_true rfl⟩, (htx _ kw_3_73), (htx _ kw_3_74)⟩ ⟨xPre_blind, va_recv hK hP (ci := 2) rfl (q0 := 0) rfl, (fun U hU hW => ⟨rfl, xPre_of hZ hS hFc hPc hDc hK U hU hW⟩)⟩ rfl rfl hl.1 rfl (lv_room (Nat.le_of_ble_eq_true rfl)) dH_apply_158 ⟨Nat.le_of_ble_eq_true rfl, Nat.le_of_ble_eq_true rfl⟩) hS (fun q _ h => hFc q h) hFc (fun r1 u9 t H1 locs ht hvm hr9 hB hz1 hk1 hS => ?_)
  obtain ⟨hP1, hK1, hD1⟩ := hB
  rw [ht] at hP1
  obtain ⟨hP, hD⟩ := xjoin (W := [(a2, .inr (2, [.ref a3, .int 0, .int 0])), (a3, .inl (cT 2, 4096, .inr (.inl f8))), (a0, .inr (2, [.ref a1, .int 1, v5])), (a1, .inl (cT 2, 4096, .inr (.inl f6)))]) hP hD [0, 1] [2, 3] 2 rfl rfl (by decide) (by decide) hk1 hFc hP1 hD1
  generalize H1 = H at hP hS ⊢
  rw [hr9]
  refine W.eq (g2 := F0 m 161 ls [.int 0]) rfl ?_
  refine lv_if_eq (tgt := 183) hx hb dH_apply_161 (by decide) (fun _ => ?_) (fun h => ((by revert h; decide : False)).elim)
  refine lv_aload_n hx hb dH_apply_183 rfl (lv_at hl 1 rfl) ?_
  refine lv_aload_n hx hb dH_apply_184 rfl (lv_at hl 2 rfl) ?_
  refine lv_aload hx hb dH_apply_185 (lv_at hl 4 rfl) ?_
  obtain ⟨hPc, hDc, hFc⟩ := xcut (wc := [(a0, .inr (2, [.ref a1, .int 1, v5])), (a1, .inl (cT 2, 4096, .inr (.inl f6))), (a2, .inr (2, [.ref a3, .int 0, .int 0])), (a3, .inl (cT 2, 4096, .inr (.inl f8)))]) hP hD hS hA [2, 3, 0, 1] rfl rfl (by decide)
  refine va_calli (va_runS (As := [.ref a0, .ref a0, .ref a2]) (rest := []) ⟨hx, hb, hml, hown, htx⟩ (cH_at_1 l hl9 D cT aK aV H.size a0 a1 a2 a3 v5 f6 f8 (by first | rfl | exact h7)) ⟨callB_of 3 htx (xw_goodC kw_5_4) rfl rfl rfl (htx _ kw_1_27) (htx _ kw_5_2) ⟨by decide, by decide, by decide +kernel⟩ ⟨Nat.le_of_ble_eq_true rfl, Nat.le_of_ble_eq_true rfl⟩, htx _ kw_5_3⟩ ⟨xPre_blind, (fun U hU hW => ⟨rfl, xPre_of hZ hS hFc hPc hDc hK U hU hW⟩)⟩ rfl rfl hl.1 rfl (lv_room (Nat.le_of_ble_eq_true rfl)) dH_apply_187 ⟨Nat.le_of_ble_eq_true rfl, Nat.le_of_ble_eq_true rfl⟩) hS (fun q _ h => hFc q h) hFc (fun r2 u9 t H1 locs ht hvm hr9 hB hz1 hk1 hS => ?_)
  obtain ⟨hP1, hK1, hD1⟩ := hB
  rw [ht] at hP1
  obtain ⟨hP, hD⟩ := xjoin (W := [(a0, .inr (2, [.ref a1, .int 1, v5])), (a1, .inl (cT 2, 4096, .inr (.inl f6))), (a2, .inr (2, [.ref a3, .int 1, .int 0])), (a3, .inl (cT 2, 4096, .inr (.inl (vp_updL f8 0 0))))]) hP hD [2, 3, 0, 1] [] 0 rfl rfl (by decide) (by decide) hk1 hFc hP1 hD1
  generalize H1 = H at hP hS ⊢
  rw [hr9]
  refine W.eq (g2 := F0 m 190 ls [.int 0]) rfl ?_
  obtain ⟨hP9, hD9⟩ := xsub (wc := [(a0, .inr (2, [.ref a1, .int 1, v5])), (a1, .inl (cT 2, 4096, .inr (.inl f6))), (a2, .inr (2, [.ref a3, .int 1, .int 0])), (a3, .inl (cT 2, 4096, .inr (.inl (vp_updL f8 0 0))))]) hP hD [0, 1, 2, 3] rfl rfl (by decide)
  refine W.widen (k := 0) (n := 0) (Nat.le_of_ble_eq_true rfl) (Nat.le_of_ble_eq_true rfl) ?_
  exact W.iret (v := 0) hx hb hr (fun t ht hW => ⟨⟨0, (), rfl, rfl, by rw [ht]; exact hP9, va_K.moved hW.alike hK, hD9⟩, hS.F ht⟩) hS.2.2 dH_apply_190
set_option maxHeartbeats 400000000 in
set_option maxRecDepth 100000 in
theorem cB_two_19 (l : Launch) (hl9 : l.stackTraces = false) (D : va_G) (cT : Nat → ClassId) (aK aV : Nat → Nat) (sz : Nat) (a0 : Nat) (a1 : Nat) (a2 : Nat) (a3 : Nat) (a4 : Nat) (a5 : Nat) (a6 : Nat) (a7 : Nat) (x8 : Int32) (x13 : Int32) (x18 : Int32) (v23 : Value) (v24 : Value) (v25 : Value) (v26 : Value) (v27 : Value) (v28 : Value) (v29 : Value) (f30 : Nat → Option Nat) (b33 : Nat) (v35 : Value) (f36 : Nat → Int64) (f38 : Nat → Int64) (v39 : Value) (v40 : Value) (f41 : Nat → Int32) (h9 : ¬ x8 < 0) (h10 : ¬ 7 < x8) (h11 : x8 ≤ 7) (h12 : vp_in x8 8) (h14 : ¬ x13 < 0) (h15 : ¬ 7 < x13) (h16 : x13 ≤ 7) (h17 : vp_in x13 8) (h19 : ¬ x18 < 0) (h20 : ¬ 7 < x18) (h21 : x18 ≤ 7) (h22 : vp_in x18 8) (h31 : f30 x13.toNatClampNeg = some a3) (h32 : f30 x18.toNatClampNeg = some a3) (h34 : f30 x8.toNatClampNeg = some b33) (h37 : f36 0 = 0) : xMet l yB_two wyB_two 7 0 0 152 D cT aK aV sz [.ref a0, .int x8, .int 9, .int x13, .int x18] [(a0, .inr (0, [v23, v24, .ref a6, .ref a2, v25, .ref a1, v26, v27])), (a1, .inr (2, [.ref a5, v28, v29])), (a2, .inl (cT 3, 8, .inr (.inr (.inr (.inr f30))))), (a3, .inr (2, [.ref a4, .int 1, v35])), (a4, .inl (cT 2, 4096, .inr (.inl f36))), (a5, .inl (cT 2, 4096, .inr (.inl f38))), (a6, .inr (1, [.ref a7, v39, v40])), (a7, .inl (cT 0, 4096, .inl f41))] (fun A => va_Qv (fun _ : Unit => True) (fun _ t => ∃ (y7 : Int32) (y8 : Int32) (y9 : Int32) (y10 : Int32), xB D xcl cT A [(a0, .inr (0, [v23, v24, .ref a6, .ref a2, v25, .ref b33, v26, v27])), (a1, .inr (2, [.ref a5, .int 1, .int 0])), (a2, .inl (cT 3, 8, .inr (.inr (.inr (.inr (va_up f30 x8.toNatClampNeg (some a1))))))), (a3, .inr (2, [.ref a4, .int 1, v35])), (a4, .inl (cT 2, 4096, .inr (.inl f36))), (a5, .inl (cT 2, 4096, .inr (.inl (vp_updL f38 0 0)))), (a6, .inr (1, [.ref a7, .int 4, .int 0])), (a7, .inl (cT 0, 4096, .inl (upd (upd (upd (upd f41 0 (vp_nar .byte y7)) 1 (vp_nar .byte y8)) 2 (vp_nar .byte y9)) 3 (vp_nar .byte y10))))] t) A) := by
  refine Met.ofW (cc := prog_1_method_10_code) (maxL := 5) (ret := none) (by decide) rfl ?_
  intro p e s m args below meth c s₁ B hml hv
  obtain ⟨rfl, hsz, hZ, hP, hK, hD0⟩ := hv
  have hx := B.exec
  have hb := B.bytes
  have hr := B.returns
  have hts := atoms_spec (ws := wyB_two) B.pre
  have htx := fun w h => hts w (List.mem_cons_of_mem _ h)
  have hown : s.vm.findClass "ValueBench" = some m.cls := findClass_of_methodNamed B.named
  have hlocks := B.notSynchronized
  subst hsz
  have hD := hD0.self (sz := s.heap.size)
  generalize hAe : va_A [(a0, .inr (0, [v23, v24, .ref a6, .ref a2, v25, .ref a1, v26, v27])), (a1, .inr (2, [.ref a5, v28, v29])), (a2, .inl (cT 3, 8, .inr (.inr (.inr (.inr f30))))), (a3, .inr (2, [.ref a4, .int 1, v35])), (a4, .inl (cT 2, 4096, .inr (.inl f36))), (a5, .inl (cT 2, 4096, .inr (.inl f38))), (a6, .inr (1, [.ref a7, v39, v40])), (a7, .inl (cT 0, 4096, .inl f41))] s.heap.size = A at hD hZ ⊢
  have hA : ∀ q : Nat, s.heap.size ≤ q → A q := fun q h => by rw [← hAe]; exact Or.inr h
  have hS : va_S A s.heap s.heap [] := va_S.rf
  have hP : va_P D xcl [(a0, .inr (0, [v23, v24, .ref a6, .ref a2, v25, .ref a1, v26, v27])), (a1, .inr (2, [.ref a5, v28, v29])), (a2, .inl (cT 3, 8, .inr (.inr (.inr (.inr f30))))), (a3, .inr (2, [.ref a4, .int 1, v35])), (a4, .inl (cT 2, 4096, .inr (.inl f36))), (a5, .inl (cT 2, 4096, .inr (.inl f38))), (a6, .inr (1, [.ref a7, v39, v40])), (a7, .inl (cT 0, 4096, .inl f41))] s.heap := hP
  have hl := lv_entry ([.ref a0, .int x8, .int 9, .int x13, .int x18]) (n := 5) (Nat.le_of_ble_eq_true rfl)
  rw [lg_entry_eq]
  generalize (lg_sl ([.ref a0, .int x8, .int 9, .int x13, .int x18]) ++ List.replicate (5 - (lg_sl ([.ref a0, .int x8, .int 9, .int x13, .int x18])).length) Slot.unset).toArray = ls at hl ⊢
  have hl : lv_has ls 5 [(0, .ref a0), (1, .int x8), (2, .int 9), (3, .int x13), (4, .int x18)] := hl
  refine lv_iload_n hx hb dB_two_0 rfl (lv_at hl 1 rfl) ?_
  obtain ⟨hPc, hDc, hFc⟩ := xcut (wc := []) hP hD hS hA [] rfl rfl (by decide)
  refine va_calli (va_runS (As := [.int x8]) (rest := []) ⟨hx, hb, hml, hown, htx⟩ (cB_isRegister_0 l hl9 D cT aK aV s.heap.size x8 h9 h10 h11 h12) ⟨callB_of 1 htx (xw_goodC kw_2_18) rfl rfl rfl (htx _ kw_1_1) (htx _ kw_2_16) ⟨by decide, by decide, by decide +kernel⟩ ⟨Nat.le_of_ble_eq_true rfl, Nat.le_of_ble_eq_true rfl⟩, htx _ kw_2_17⟩ ⟨xPre_blind, (fun U hU hW => ⟨rfl, xPre_of hZ hS hFc hPc hDc hK U hU hW⟩)⟩ rfl rfl hl.1 rfl (lv_room (Nat.le_of_ble_eq_true rfl)) dB_two_1 ⟨Nat.le_of_ble_eq_true rfl, Nat.le_of_ble_eq_true rfl⟩) hS (fun q _ h => hFc q h) hFc (fun r1 u9 t H1 locs ht hvm hr9 hB hz1 hk1 hS => ?_)
  obtain ⟨hP1, hK1, hD1⟩ := hB
  rw [ht] at hP1
  obtain ⟨hP, hD⟩ := xjoin (W := [(a0, .inr (0, [v23, v24, .ref a6, .ref a2, v25, .ref a1, v26, v27])), (a1, .inr (2, [.ref a5, v28, v29])), (a2, .inl (cT 3, 8, .inr (.inr (.inr (.inr f30))))), (a3, .inr (2, [.ref a4, .int 1, v35])), (a4, .inl (cT 2, 4096, .inr (.inl f36))), (a5, .inl (cT 2, 4096, .inr (.inl f38))), (a6, .inr (1, [.ref a7, v39, v40])), (a7, .inl (cT 0, 4096, .inl f41))]) hP hD [] [0, 1, 2, 3, 4, 5, 6, 7] 8 rfl rfl (by decide) (by decide) hk1 hFc hP1 hD1
  generalize H1 = H at hP hS ⊢
  rw [hr9]
  refine W.eq (g2 := F0 m 4 ls [.int 1]) rfl ?_
  refine lv_if_eq (tgt := 35) hx hb dB_two_4 (by decide) (fun h => ((by revert h; decide : False)).elim) (fun _ => ?_)
  refine lv_iload_n hx hb dB_two_7 rfl (lv_at hl 2 rfl) ?_
  refine lv_bipush (v := 9) hx hb dB_two_8 (by decide) ?_
  obtain ⟨hPc, hDc, hFc⟩ := xcut (wc := []) hP hD hS hA [] rfl rfl (by decide)
  refine va_calli (va_runS (As := [.int 9, .int 9]) (rest := []) ⟨hx, hb, hml, hown, htx⟩ (cB_isWithin_38 l hl9 D cT aK aV H.size) ⟨callB_of 2 htx (xw_goodC kw_1_218) rfl rfl rfl (htx _ kw_1_1) (htx _ kw_1_216) ⟨by decide, by decide, by decide +kernel⟩ ⟨Nat.le_of_ble_eq_true rfl, Nat.le_of_ble_eq_true rfl⟩, htx _ kw_1_217⟩ ⟨xPre_blind, (fun U hU hW => ⟨rfl, xPre_of hZ hS hFc hPc hDc hK U hU hW⟩)⟩ rfl rfl hl.1 rfl (lv_room (Nat.le_of_ble_eq_true rfl)) dB_two_10 ⟨Nat.le_of_ble_eq_true rfl, Nat.le_of_ble_eq_true rfl⟩) hS (fun q _ h => hFc q h) hFc (fun r2 u9 t H1 locs ht hvm hr9 hB hz1 hk1 hS => ?_)
  obtain ⟨hP1, hK1, hD1⟩ := hB
  rw [ht] at hP1
  obtain ⟨hP, hD⟩ := xjoin (W := [(a0, .inr (0, [v23, v24, .ref a6, .ref a2, v25, .ref a1, v26, v27])), (a1, .inr (2, [.ref a5, v28, v29])), (a2, .inl (cT 3, 8, .inr (.inr (.inr (.inr f30))))), (a3, .inr (2, [.ref a4, .int 1, v35])), (a4, .inl (cT 2, 4096, .inr (.inl f36))), (a5, .inl (cT 2, 4096, .inr (.inl f38))), (a6, .inr (1, [.ref a7, v39, v40])), (a7, .inl (cT 0, 4096, .inl f41))]) hP hD [] [0, 1, 2, 3, 4, 5, 6, 7] 8 rfl rfl (by decide) (by decide) hk1 hFc hP1 hD1
  generalize H1 = H at hP hS ⊢
  rw [hr9]
  refine W.eq (g2 := F0 m 13 ls [.int 1]) rfl ?_
  refine lv_if_eq (tgt := 35) hx hb dB_two_13 (by decide) (fun h => ((by revert h; decide : False)).elim) (fun _ => ?_)
  refine lv_iload_n hx hb dB_two_16 rfl (lv_at hl 3 rfl) ?_
  obtain ⟨hPc, hDc, hFc⟩ := xcut (wc := []) hP hD hS hA [] rfl rfl (by decide)
  refine va_calli (va_runS (As := [.int x13]) (rest := []) ⟨hx, hb, hml, hown, htx⟩ (cB_isRegister_0 l hl9 D cT aK aV H.size x13 h14 h15 h16 h17) ⟨callB_of 1 htx (xw_goodC kw_2_18) rfl rfl rfl (htx _ kw_1_1) (htx _ kw_2_16) ⟨by decide, by decide, by decide +kernel⟩ ⟨Nat.le_of_ble_eq_true rfl, Nat.le_of_ble_eq_true rfl⟩, htx _ kw_2_17⟩ ⟨xPre_blind, (fun U hU hW => ⟨rfl, xPre_of hZ hS hFc hPc hDc hK U hU hW⟩)⟩ rfl rfl hl.1 rfl (lv_room (Nat.le_of_ble_eq_true rfl)) dB_two_17 ⟨Nat.le_of_ble_eq_true rfl, Nat.le_of_ble_eq_true rfl⟩) hS (fun q _ h => hFc q h) hFc (fun r3 u9 t H1 locs ht hvm hr9 hB hz1 hk1 hS => ?_)
  obtain ⟨hP1, hK1, hD1⟩ := hB
  rw [ht] at hP1
  obtain ⟨hP, hD⟩ := xjoin (W := [(a0, .inr (0, [v23, v24, .ref a6, .ref a2, v25, .ref a1, v26, v27])), (a1, .inr (2, [.ref a5, v28, v29])), (a2, .inl (cT 3, 8, .inr (.inr (.inr (.inr f30))))), (a3, .inr (2, [.ref a4, .int 1, v35])), (a4, .inl (cT 2, 4096, .inr (.inl f36))), (a5, .inl (cT 2, 4096, .inr (.inl f38))), (a6, .inr (1, [.ref a7, v39, v40])), (a7, .inl (cT 0, 4096, .inl f41))]) hP hD [] [0, 1, 2, 3, 4, 5, 6, 7] 8 rfl rfl (by decide) (by decide) hk1 hFc hP1 hD1
  generalize H1 = H at hP hS ⊢
  rw [hr9]
  refine W.eq (g2 := F0 m 20 ls [.int 1]) rfl ?_
  refine lv_if_eq (tgt := 35) hx hb dB_two_20 (by decide) (fun h => ((by revert h; decide : False)).elim) (fun _ => ?_)
  refine lv_iload hx hb dB_two_23 (lv_at hl 4 rfl) ?_
  obtain ⟨hPc, hDc, hFc⟩ := xcut (wc := []) hP hD hS hA [] rfl rfl (by decide)
  refine va_calli (va_runS (As := [.int x18]) (rest := []) ⟨hx, hb, hml, hown, htx⟩ (cB_isRegister_0 l hl9 D cT aK aV H.size x18 h19 h20 h21 h22) ⟨callB_of 1 htx (xw_goodC kw_2_18) rfl rfl rfl (htx _ kw_1_1) (htx _ kw_2_16) ⟨by decide, by decide, by decide +kernel⟩ ⟨Nat.le_of_ble_eq_true rfl, Nat.le_of_ble_eq_true rfl⟩, htx _ kw_2_17⟩ ⟨xPre_blind, (fun U hU hW => ⟨rfl, xPre_of hZ hS hFc hPc hDc hK U hU hW⟩)⟩ rfl rfl hl.1 rfl (lv_room (Nat.le_of_ble_eq_true rfl)) dB_two_25 ⟨Nat.le_of_ble_eq_true rfl, Nat.le_of_ble_eq_true rfl⟩) hS (fun q _ h => hFc q h) hFc (fun r4 u9 t H1 locs ht hvm hr9 hB hz1 hk1 hS => ?_)
  obtain ⟨hP1, hK1, hD1⟩ := hB
  rw [ht] at hP1
  obtain ⟨hP, hD⟩ := xjoin (W := [(a0, .inr (0, [v23, v24, .ref a6, .ref a2, v25, .ref a1, v26, v27])), (a1, .inr (2, [.ref a5, v28, v29])), (a2, .inl (cT 3, 8, .inr (.inr (.inr (.inr f30))))), (a3, .inr (2, [.ref a4, .int 1, v35])), (a4, .inl (cT 2, 4096, .inr (.inl f36))), (a5, .inl (cT 2, 4096, .inr (.inl f38))), (a6, .inr (1, [.ref a7, v39, v40])), (a7, .inl (cT 0, 4096, .inl f41))]) hP hD [] [0, 1, 2, 3, 4, 5, 6, 7] 8 rfl rfl (by decide) (by decide) hk1 hFc hP1 hD1
  generalize H1 = H at hP hS ⊢
  rw [hr9]
  refine W.eq (g2 := F0 m 28 ls [.int 1]) rfl ?_
  refine lv_if_eq (tgt := 35) hx hb dB_two_28 (by decide) (fun h => ((by revert h; decide : False)).elim) (fun _ => ?_)
  refine lv_iconst (v := 1) hx hb dB_two_31 (by decide) ?_
  refine lv_goto (tgt := 36) hx hb dB_two_32 (by decide) ?_
  obtain ⟨hPc, hDc, hFc⟩ := xcut (wc := []) hP hD hS hA [] rfl rfl (by decide)
  refine va_callv (va_runS (As := [.int 1]) (rest := []) ⟨hx, hb, hml, hown, htx⟩ (cB_demand_0 l hl9 D cT aK aV H.size) ⟨callB_of 1 htx (xw_goodC kw_1_221) rfl rfl rfl (htx _ kw_1_1) (htx _ kw_1_219) ⟨by decide, by decide, by decide +kernel⟩ ⟨Nat.le_of_ble_eq_true rfl, Nat.le_of_ble_eq_true rfl⟩, htx _ kw_1_220⟩ ⟨xPre_blind, (fun U hU hW => ⟨rfl, xPre_of hZ hS hFc hPc hDc hK U hU hW⟩)⟩ rfl rfl hl.1 rfl (lv_room (Nat.le_of_ble_eq_true rfl)) dB_two_36 ⟨Nat.le_of_ble_eq_true rfl, Nat.le_of_ble_eq_true rfl⟩) hS (fun q _ h => hFc q h) hFc (fun u9 t H1 locs ht hvm hr9 hB hz1 hk1 hS => ?_)
  obtain ⟨hP1, hK1, hD1⟩ := hB
  rw [ht] at hP1
  obtain ⟨hP, hD⟩ := xjoin (W := [(a0, .inr (0, [v23, v24, .ref a6, .ref a2, v25, .ref a1, v26, v27])), (a1, .inr (2, [.ref a5, v28, v29])), (a2, .inl (cT 3, 8, .inr (.inr (.inr (.inr f30))))), (a3, .inr (2, [.ref a4, .int 1, v35])), (a4, .inl (cT 2, 4096, .inr (.inl f36))), (a5, .inl (cT 2, 4096, .inr (.inl f38))), (a6, .inr (1, [.ref a7, v39, v40])), (a7, .inl (cT 0, 4096, .inl f41))]) hP hD [] [0, 1, 2, 3, 4, 5, 6, 7] 8 rfl rfl (by decide) (by decide) hk1 hFc hP1 hD1
  generalize H1 = H at hP hS ⊢
  refine lv_aload_n hx hb dB_two_39 rfl (lv_at hl 0 rfl) ?_
  refine va_get (D := D) (ci := 0) (v := .ref a1) (C := "ValueBench") (T := TB) (N := 8) hx hb htx inB hown hK hP 0 rfl rfl 5 (by decide) (htx _ kw_1_100) (fun _ h9 => h9) rfl dB_two_40 ?_
  obtain ⟨hPc, hDc, hFc⟩ := xcut (wc := [(a1, .inr (2, [.ref a5, v28, v29]))]) hP hD hS hA [1] rfl rfl (by decide)
  refine va_callv (va_runV (C := "ValueBench$Row") (As := []) (rest := []) ⟨hx, hb, hml, hown, htx⟩ (cR_clear_0 l hl9 D cT aK aV H.size a1 (.ref a5) v28 v29) ⟨callB_of 0 htx (xw_goodC kw_2_22) rfl rfl rfl (htx _ kw_1_4) (htx _ kw_2_19) ⟨by decide, by decide, by decide +kernel⟩ ⟨Nat.le_of_ble_eq_true rfl, Nat.le_of_ble_eq_true rfl⟩, (htx _ kw_2_20), (htx _ kw_2_21)⟩ ⟨xPre_blind, va_recv hK hP (ci := 2) rfl (q0 := 1) rfl, (fun U hU hW => ⟨rfl, xPre_of hZ hS hFc hPc hDc hK U hU hW⟩)⟩ rfl rfl hl.1 rfl (lv_room (Nat.le_of_ble_eq_true rfl)) dB_two_43 ⟨Nat.le_of_ble_eq_true rfl, Nat.le_of_ble_eq_true rfl⟩) hS (fun q _ h => hFc q h) hFc (fun u9 t H1 locs ht hvm hr9 hB hz1 hk1 hS => ?_)
  obtain ⟨hP1, hK1, hD1⟩ := hB
  rw [ht] at hP1
  obtain ⟨hP, hD⟩ := xjoin (W := [(a0, .inr (0, [v23, v24, .ref a6, .ref a2, v25, .ref a1, v26, v27])), (a2, .inl (cT 3, 8, .inr (.inr (.inr (.inr f30))))), (a3, .inr (2, [.ref a4, .int 1, v35])), (a4, .inl (cT 2, 4096, .inr (.inl f36))), (a5, .inl (cT 2, 4096, .inr (.inl f38))), (a6, .inr (1, [.ref a7, v39, v40])), (a7, .inl (cT 0, 4096, .inl f41)), (a1, .inr (2, [.ref a5, .int 0, .int 0]))]) hP hD [1] [0, 2, 3, 4, 5, 6, 7] 7 rfl rfl (by decide) (by decide) hk1 hFc hP1 hD1
  generalize H1 = H at hP hS ⊢
  refine lv_aload_n hx hb dB_two_46 rfl (lv_at hl 0 rfl) ?_
  refine lv_iload_n hx hb dB_two_47 rfl (lv_at hl 2 rfl) ?_
  refine lv_aload_n hx hb dB_two_48 rfl (lv_at hl 0 rfl) ?_
  refine va_get (D := D) (ci := 0) (v := .ref a2) (C := "ValueBench") (T := TB) (N := 8) hx hb htx inB hown hK hP 0 rfl rfl 3 (by decide) (htx _ kw_1_98) (fun _ h9 => h9) rfl dB_two_49 ?_
  refine lv_iload_n hx hb dB_two_52 rfl (lv_at hl 3 rfl) ?_
  refine va_aldq hx hb hK hP 1 3 rfl rfl h17 dB_two_53 ?_
  refine W.eq (g2 := F0 m 54 ls [va_rf (f30 x13.toNatClampNeg), .int 9, .ref a0]) rfl ?_
  rw [h31]
  refine W.eq (g2 := F0 m 54 ls [.ref a3, .int 9, .ref a0]) rfl ?_
  refine lv_aload_n hx hb dB_two_54 rfl (lv_at hl 0 rfl) ?_
  refine va_get (D := D) (ci := 0) (v := .ref a2) (C := "ValueBench") (T := TB) (N := 8) hx hb htx inB hown hK hP 0 rfl rfl 3 (by decide) (htx _ kw_1_98) (fun _ h9 => h9) rfl dB_two_55 ?_
  refine lv_iload hx hb dB_two_58 (lv_at hl 4 rfl) ?_
  refine va_aldq hx hb hK hP 1 3 rfl rfl h22 dB_two_60 ?_
  refine W.eq (g2 := F0 m 61 ls [va_rf (f30 x18.toNatClampNeg), .ref a3, .int 9, .ref a0]) rfl ?_
  rw [h32]
  refine W.eq (g2 := F0 m 61 ls [.ref a3, .ref a3, .int 9, .ref a0]) rfl ?_
  refine lv_aload_n hx hb dB_two_61 rfl (lv_at hl 0 rfl) ?_
  refine va_get (D := D) (ci := 0) (v := .ref a6) (C := "ValueBench") (T := TB) (N := 8) hx hb htx inB hown hK hP 0 rfl rfl 2 (by decide) (htx _ kw_1_97) (fun _ h9 => h9) rfl dB_two_62 ?_
  refine lv_aload_n hx hb dB_two_65 rfl (lv_at hl 0 rfl) ?_
  refine va_get (D := D) (ci := 0) (v := .ref a1) (C := "ValueBench") (T := TB) (N := 8) hx hb htx inB hown hK hP 0 rfl rfl 5 (by decide) (htx _ kw_1_100) (fun _ h9 => h9) rfl dB_two_66 ?_
  obtain ⟨hPc, hDc, hFc⟩ := xcut (wc := [(a3, .inr (2, [.ref a4, .int 1, v35])), (a4, .inl (cT 2, 4096, .inr (.inl f36))), (a1, .inr (2, [.ref a5, .int 0, .int 0])), (a5, .inl (cT 2, 4096, .inr (.inl f38)))]) hP hD hS hA [2, 3, 7, 4] rfl rfl (by decide)
  refine va_calli (va_runS (As := [.int 9, .ref a3, .ref a3, .ref a6, .ref a1]) (rest := [.ref a0]) ⟨hx, hb, hml, hown, htx⟩ (cH_apply_19 l hl9 D cT aK aV H.size a3 a4 a1 a5 a6 v35 f36 f38 (by first | rfl | exact h31 | exact h32 | exact h34 | exact h37)) ⟨callB_of 5 htx (xw_goodC kw_4_146) rfl rfl rfl (htx _ kw_1_27) (htx _ kw_4_144) ⟨by decide, by decide, by decide +kernel⟩ ⟨Nat.le_of_ble_eq_true rfl, Nat.le_of_ble_eq_true rfl⟩, htx _ kw_4_145⟩ ⟨xPre_blind, (fun U hU hW => ⟨rfl, xPre_of hZ hS hFc hPc hDc hK U hU hW⟩)⟩ rfl rfl hl.1 rfl (lv_room (Nat.le_of_ble_eq_true rfl)) dB_two_69 ⟨Nat.le_of_ble_eq_true rfl, Nat.le_of_ble_eq_true rfl⟩) hS (fun q _ h => hFc q h) hFc (fun r5 u9 t H1 locs ht hvm hr9 hB hz1 hk1 hS => ?_)
  obtain ⟨hP1, hK1, hD1⟩ := hB
  rw [ht] at hP1
  obtain ⟨hP, hD⟩ := xjoin (W := [(a0, .inr (0, [v23, v24, .ref a6, .ref a2, v25, .ref a1, v26, v27])), (a2, .inl (cT 3, 8, .inr (.inr (.inr (.inr f30))))), (a6, .inr (1, [.ref a7, v39, v40])), (a7, .inl (cT 0, 4096, .inl f41)), (a3, .inr (2, [.ref a4, .int 1, v35])), (a4, .inl (cT 2, 4096, .inr (.inl f36))), (a1, .inr (2, [.ref a5, .int 1, .int 0])), (a5, .inl (cT 2, 4096, .inr (.inl (vp_updL f38 0 0))))]) hP hD [2, 3, 7, 4] [0, 1, 5, 6] 4 rfl rfl (by decide) (by decide) hk1 hFc hP1 hD1
  generalize H1 = H at hP hS ⊢
  rw [hr9]
  refine W.eq (g2 := F0 m 72 ls [.int 0, .ref a0]) rfl ?_
  obtain ⟨hPc, hDc, hFc⟩ := xcut (wc := []) hP hD hS hA [] rfl rfl (by decide)
  refine va_callv (va_runV (C := "ValueBench") (As := [.int 0]) (rest := []) ⟨hx, hb, hml, hown, htx⟩ (cB_demandDone_0 l hl9 D cT aK aV H.size a0) ⟨callB_of 1 htx (xw_goodC kw_3_222) rfl rfl rfl (htx _ kw_1_1) (htx _ kw_3_219) ⟨by decide, by decide, by decide +kernel⟩ ⟨Nat.le_of_ble_eq_true rfl, Nat.le_of_ble_eq_true rfl⟩, (htx _ kw_3_221), (htx _ kp_B_demandDone)⟩ ⟨xPre_blind, va_recv hK hP (ci := 0) rfl (q0 := 0) rfl, (fun U hU hW => ⟨rfl, xPre_of hZ hS hFc hPc hDc hK U hU hW⟩)⟩ rfl rfl hl.1 rfl (lv_room (Nat.le_of_ble_eq_true rfl)) dB_two_72 ⟨Nat.le_of_ble_eq_true rfl, Nat.le_of_ble_eq_true rfl⟩) hS (fun q _ h => hFc q h) hFc (fun u9 t H1 locs ht hvm hr9 hB hz1 hk1 hS => ?_)
  obtain ⟨hP1, hK1, hD1⟩ := hB
  rw [ht] at hP1
  obtain ⟨hP, hD⟩ := xjoin (W := [(a0, .inr (0, [v23, v24, .ref a6, .ref a2, v25, .ref a1, v26, v27])), (a2, .inl (cT 3, 8, .inr (.inr (.inr (.inr f30))))), (a6, .inr (1, [.ref a7, v39, v40])), (a7, .inl (cT 0, 4096, .inl f41)), (a3, .inr (2, [.ref a4, .int 1, v35])), (a4, .inl (cT 2, 4096, .inr (.inl f36))), (a1, .inr (2, [.ref a5, .int 1, .int 0])), (a5, .inl (cT 2, 4096, .inr (.inl (vp_updL f38 0 0))))]) hP hD [] [0, 1, 2, 3, 4, 5, 6, 7] 8 rfl rfl (by decide) (by decide) hk1 hFc hP1 hD1
  generalize H1 = H at hP hS ⊢
  refine lv_aload_n hx hb dB_two_75 rfl (lv_at hl 0 rfl) ?_
  refine lv_iload_n hx hb dB_two_76 rfl (lv_at hl 1 rfl) ?_
  obtain ⟨hPc, hDc, hFc⟩ := xcut (wc := [(a0, .inr (0, [v23, v24, .ref a6, .ref a2, v25, .ref a1, v26, v27])), (a6, .inr (1, [.ref a7, v39, v40])), (a1, .inr (2, [.ref a5, .int 1, .int 0])), (a5, .inl (cT 2, 4096, .inr (.inl (vp_updL f38 0 0)))), (a7, .inl (cT 0, 4096, .inl f41)), (a2, .inl (cT 3, 8, .inr (.inr (.inr (.inr f30)))))]) hP hD hS hA [0, 2, 6, 7, 3, 1] rfl rfl (by decide)
  refine va_calli (va_runV (C := "ValueBench") (As := [.int x8]) (rest := []) ⟨hx, hb, hml, hown, htx⟩ (cB_keepSpare_4 l hl9 D cT aK aV H.size a0 a6 a1 a5 a7 a2 x8 v23 v24 v25 v26 v27 v39 v40 (vp_updL f38 0 0) f41 f30 b33 h9 h10 h11 h12 (by first | rfl | exact h31 | exact h32 | exact h34 | exact h37) (by first | rfl | exact h31 | exact h32 | exact h34 | exact h37)) ⟨callB_of 1 htx (xw_goodC kw_3_17) rfl rfl rfl (htx _ kw_1_1) (htx _ kw_3_14) ⟨by decide, by decide, by decide +kernel⟩ ⟨Nat.le_of_ble_eq_true rfl, Nat.le_of_ble_eq_true rfl⟩, (htx _ kw_3_16), (htx _ kp_B_keepSpare)⟩ ⟨xPre_blind, va_recv hK hP (ci := 0) rfl (q0 := 0) rfl, (fun U hU hW => ⟨rfl, xPre_of hZ hS hFc hPc hDc hK U hU hW⟩)⟩ rfl rfl hl.1 rfl (lv_room (Nat.le_of_ble_eq_true rfl)) dB_two_77 ⟨Nat.le_of_ble_eq_true rfl, Nat.le_of_ble_eq_true rfl⟩) hS (fun q _ h => hFc q h) hFc (fun r6 u9 t H1 locs ht hvm hr9 hB hz1 hk1 hS => ?_)
  obtain ⟨y7, y8, y9, y10, hP1, hK1, hD1⟩ := hB
  rw [ht] at hP1
  obtain ⟨hP, hD⟩ := xjoin (W := [(a3, .inr (2, [.ref a4, .int 1, v35])), (a4, .inl (cT 2, 4096, .inr (.inl f36))), (a0, .inr (0, [v23, v24, .ref a6, .ref a2, v25, .ref b33, v26, v27])), (a6, .inr (1, [.ref a7, .int 4, .int 0])), (a1, .inr (2, [.ref a5, .int 1, .int 0])), (a5, .inl (cT 2, 4096, .inr (.inl (vp_updL f38 0 0)))), (a7, .inl (cT 0, 4096, .inl (upd (upd (upd (upd f41 0 (vp_nar .byte y7)) 1 (vp_nar .byte y8)) 2 (vp_nar .byte y9)) 3 (vp_nar .byte y10)))), (a2, .inl (cT 3, 8, .inr (.inr (.inr (.inr (va_up f30 x8.toNatClampNeg (some a1)))))))]) hP hD [0, 2, 6, 7, 3, 1] [4, 5] 2 rfl rfl (by decide) (by decide) hk1 hFc hP1 hD1
  generalize H1 = H at hP hS ⊢
  rw [hr9]
  refine W.eq (g2 := F0 m 80 ls [.int 4]) rfl ?_
  refine lv_pop hx hb dB_two_80 rfl ?_
  obtain ⟨hP9, hD9⟩ := xsub (wc := [(a0, .inr (0, [v23, v24, .ref a6, .ref a2, v25, .ref b33, v26, v27])), (a1, .inr (2, [.ref a5, .int 1, .int 0])), (a2, .inl (cT 3, 8, .inr (.inr (.inr (.inr (va_up f30 x8.toNatClampNeg (some a1))))))), (a3, .inr (2, [.ref a4, .int 1, v35])), (a4, .inl (cT 2, 4096, .inr (.inl f36))), (a5, .inl (cT 2, 4096, .inr (.inl (vp_updL f38 0 0)))), (a6, .inr (1, [.ref a7, .int 4, .int 0])), (a7, .inl (cT 0, 4096, .inl (upd (upd (upd (upd f41 0 (vp_nar .byte y7)) 1 (vp_nar .byte y8)) 2 (vp_nar .byte y9)) 3 (vp_nar .byte y10))))]) hP hD [2, 4, 7, 0, 1, 5, 3, 6] rfl rfl (by decide)
  refine W.widen (k := 0) (n := 0) (Nat.le_of_ble_eq_true rfl) (Nat.le_of_ble_eq_true rfl) ?_
  exact W.vret hx hb hr (fun t ht hW => ⟨⟨(), rfl, trivial, y7, y8, y9, y10, by rw [ht]; exact hP9, va_K.moved hW.alike hK, hD9⟩, hS.F ht⟩) hS.2.2 dB_two_81
set_option maxHeartbeats 400000000 in
set_option maxRecDepth 100000 in
theorem cL_two_19 (l : Launch) (hl9 : l.stackTraces = false) (D : va_G) (cT : Nat → ClassId) (aK aV : Nat → Nat) (sz : Nat) (a0 : Nat) (a1 : Nat) (a2 : Nat) (a3 : Nat) (a4 : Nat) (a5 : Nat) (a6 : Nat) (a7 : Nat) (x8 : Int32) (x13 : Int32) (x18 : Int32) (v23 : Value) (v24 : Value) (v25 : Value) (v26 : Value) (v27 : Value) (v28 : Value) (v29 : Value) (f30 : Nat → Option Nat) (b33 : Nat) (v35 : Value) (f36 : Nat → Int64) (f38 : Nat → Int64) (v39 : Value) (v40 : Value) (f41 : Nat → Int32) (h9 : ¬ x8 < 0) (h10 : ¬ 7 < x8) (h11 : x8 ≤ 7) (h12 : vp_in x8 8) (h14 : ¬ x13 < 0) (h15 : ¬ 7 < x13) (h16 : x13 ≤ 7) (h17 : vp_in x13 8) (h19 : ¬ x18 < 0) (h20 : ¬ 7 < x18) (h21 : x18 ≤ 7) (h22 : vp_in x18 8) (h31 : f30 x13.toNatClampNeg = some a3) (h32 : f30 x18.toNatClampNeg = some a3) (h34 : f30 x8.toNatClampNeg = some b33) (h37 : f36 0 = 0) : xMet l yL_two wyL_two 8 0 0 176 D cT aK aV sz [.ref a0, .int x8, .int 9, .int x13, .int x18] [(a0, .inr (0, [v23, v24, .ref a6, .ref a2, v25, .ref a1, v26, v27])), (a1, .inr (2, [.ref a5, v28, v29])), (a2, .inl (cT 3, 8, .inr (.inr (.inr (.inr f30))))), (a3, .inr (2, [.ref a4, .int 1, v35])), (a4, .inl (cT 2, 4096, .inr (.inl f36))), (a5, .inl (cT 2, 4096, .inr (.inl f38))), (a6, .inr (1, [.ref a7, v39, v40])), (a7, .inl (cT 0, 4096, .inl f41))] (fun A => va_Qi (fun (r : Int32) (_ : Unit) => r = 0) (fun _ t => ∃ (y1 : Int32) (y2 : Int32) (y3 : Int32) (y4 : Int32), xB D xcl cT A [(a0, .inr (0, [v23, v24, .ref a6, .ref a2, v25, .ref a1, v26, v27])), (a1, .inr (2, [.ref a5, .int 1, .int 0])), (a2, .inl (cT 3, 8, .inr (.inr (.inr (.inr (va_up f30 x8.toNatClampNeg (some a1))))))), (a3, .inr (2, [.ref a4, .int 1, v35])), (a4, .inl (cT 2, 4096, .inr (.inl f36))), (a5, .inl (cT 2, 4096, .inr (.inl (vp_updL f38 0 0)))), (a6, .inr (1, [.ref a7, .int 4, .int 0])), (a7, .inl (cT 0, 4096, .inl (upd (upd (upd (upd f41 0 (vp_nar .byte y1)) 1 (vp_nar .byte y2)) 2 (vp_nar .byte y3)) 3 (vp_nar .byte y4))))] t) A) := by
  refine va_MetW (cc := method_11_code) (maxL := 6) (ret := (some .int)) (hh := [(0, 9, 12, 19), (0, 9, 16, 33), (0, 9, 20, 13)]) (by decide) rfl ?_
  intro p e s m args below meth c s₁ B hml hv
  obtain ⟨rfl, hsz, hZ, hP, hK, hD0⟩ := hv
  have hx := B.exec
  have hb := B.bytes
  have hr := B.returns
  have hts := atoms_spec (ws := wyL_two) B.pre
  have htx := fun w h => hts w (List.mem_cons_of_mem _ h)
  have hown : s.vm.findClass "ValueBenchLaw" = some m.cls := findClass_of_methodNamed B.named
  have hlocks := B.notSynchronized
  subst hsz
  have hD := hD0.self (sz := s.heap.size)
  generalize hAe : va_A [(a0, .inr (0, [v23, v24, .ref a6, .ref a2, v25, .ref a1, v26, v27])), (a1, .inr (2, [.ref a5, v28, v29])), (a2, .inl (cT 3, 8, .inr (.inr (.inr (.inr f30))))), (a3, .inr (2, [.ref a4, .int 1, v35])), (a4, .inl (cT 2, 4096, .inr (.inl f36))), (a5, .inl (cT 2, 4096, .inr (.inl f38))), (a6, .inr (1, [.ref a7, v39, v40])), (a7, .inl (cT 0, 4096, .inl f41))] s.heap.size = A at hD hZ ⊢
  have hA : ∀ q : Nat, s.heap.size ≤ q → A q := fun q h => by rw [← hAe]; exact Or.inr h
  have hS : va_S A s.heap s.heap [] := va_S.rf
  have hP : va_P D xcl [(a0, .inr (0, [v23, v24, .ref a6, .ref a2, v25, .ref a1, v26, v27])), (a1, .inr (2, [.ref a5, v28, v29])), (a2, .inl (cT 3, 8, .inr (.inr (.inr (.inr f30))))), (a3, .inr (2, [.ref a4, .int 1, v35])), (a4, .inl (cT 2, 4096, .inr (.inl f36))), (a5, .inl (cT 2, 4096, .inr (.inl f38))), (a6, .inr (1, [.ref a7, v39, v40])), (a7, .inl (cT 0, 4096, .inl f41))] s.heap := hP
  have hl := lv_entry ([.ref a0, .int x8, .int 9, .int x13, .int x18]) (n := 6) (Nat.le_of_ble_eq_true rfl)
  rw [lg_entry_eq]
  generalize (lg_sl ([.ref a0, .int x8, .int 9, .int x13, .int x18]) ++ List.replicate (6 - (lg_sl ([.ref a0, .int x8, .int 9, .int x13, .int x18])).length) Slot.unset).toArray = ls at hl ⊢
  have hl : lv_has ls 6 [(0, .ref a0), (1, .int x8), (2, .int 9), (3, .int x13), (4, .int x18)] := hl
  have htab := vx_table (x := yL_two) B (hts _ List.mem_cons_self)
  refine lv_aload_n hx hb dL_two_0 rfl (lv_at hl 0 rfl) ?_
  refine lv_iload_n hx hb dL_two_1 rfl (lv_at hl 1 rfl) ?_
  refine lv_iload_n hx hb dL_two_2 rfl (lv_at hl 2 rfl) ?_
  refine lv_iload_n hx hb dL_two_3 rfl (lv_at hl 3 rfl) ?_
  refine lv_iload hx hb dL_two_4 (lv_at hl 4 rfl) ?_
  obtain ⟨hPc, hDc, hFc⟩ := xcut (wc := [(a0, .inr (0, [v23, v24, .ref a6, .ref a2, v25, .ref a1, v26, v27])), (a1, .inr (2, [.ref a5, v28, v29])), (a2, .inl (cT 3, 8, .inr (.inr (.inr (.inr f30))))), (a3, .inr (2, [.ref a4, .int 1, v35])), (a4, .inl (cT 2, 4096, .inr (.inl f36))), (a5, .inl (cT 2, 4096, .inr (.inl f38))), (a6, .inr (1, [.ref a7, v39, v40])), (a7, .inl (cT 0, 4096, .inl f41))]) hP hD hS hA [0, 1, 2, 3, 4, 5, 6, 7] rfl rfl (by decide)
  refine va_callv (va_runV (C := "ValueBench") (As := [.int x8, .int 9, .int x13, .int x18]) (rest := []) ⟨hx, hb, hml, hown, htx⟩ (cB_two_19 l hl9 D cT aK aV s.heap.size a0 a1 a2 a3 a4 a5 a6 a7 x8 x13 x18 v23 v24 v25 v26 v27 v28 v29 f30 b33 v35 f36 f38 v39 v40 f41 h9 h10 h11 h12 h14 h15 h16 h17 h19 h20 h21 h22 (by first | rfl | exact h31 | exact h32 | exact h34 | exact h37) (by first | rfl | exact h31 | exact h32 | exact h34 | exact h37) (by first | rfl | exact h31 | exact h32 | exact h34 | exact h37) (by first | rfl | exact h31 | exact h32 | exact h34 | exact h37)) ⟨callB_of 4 htx (xw_goodC kw_4_143) rfl rfl rfl (htx _ kw_1_1) (htx _ kw_4_140) ⟨by decide, by decide, by decide +kernel⟩ ⟨Nat.le_of_ble_eq_true rfl, Nat.le_of_ble_eq_true rfl⟩, (htx _ kw_4_141), (htx _ kw_4_142)⟩ ⟨xPre_blind, va_recv hK hP (ci := 0) rfl (q0 := 0) rfl, (fun U hU hW => ⟨rfl, xPre_of hZ hS hFc hPc hDc hK U hU hW⟩)⟩ rfl rfl hl.1 rfl (lv_room (Nat.le_of_ble_eq_true rfl)) dL_two_6 ⟨Nat.le_of_ble_eq_true rfl, Nat.le_of_ble_eq_true rfl⟩) hS (fun q _ h => hFc q h) hFc (fun u9 t H1 locs ht hvm hr9 hB hz1 hk1 hS => ?_)
  obtain ⟨y1, y2, y3, y4, hP1, hK1, hD1⟩ := hB
  rw [ht] at hP1
  obtain ⟨hP, hD⟩ := xjoin (W := [(a0, .inr (0, [v23, v24, .ref a6, .ref a2, v25, .ref a1, v26, v27])), (a1, .inr (2, [.ref a5, .int 1, .int 0])), (a2, .inl (cT 3, 8, .inr (.inr (.inr (.inr (va_up f30 x8.toNatClampNeg (some a1))))))), (a3, .inr (2, [.ref a4, .int 1, v35])), (a4, .inl (cT 2, 4096, .inr (.inl f36))), (a5, .inl (cT 2, 4096, .inr (.inl (vp_updL f38 0 0)))), (a6, .inr (1, [.ref a7, .int 4, .int 0])), (a7, .inl (cT 0, 4096, .inl (upd (upd (upd (upd f41 0 (vp_nar .byte y1)) 1 (vp_nar .byte y2)) 2 (vp_nar .byte y3)) 3 (vp_nar .byte y4))))]) hP hD [0, 1, 2, 3, 4, 5, 6, 7] [] 0 rfl rfl (by decide) (by decide) hk1 hFc hP1 hD1
  generalize H1 = H at hP hS ⊢
  refine lv_goto (tgt := 24) hx hb dL_two_9 (by decide) ?_
  refine lv_iconst (v := 0) hx hb dL_two_24 (by decide) ?_
  obtain ⟨hP9, hD9⟩ := xsub (wc := [(a0, .inr (0, [v23, v24, .ref a6, .ref a2, v25, .ref a1, v26, v27])), (a1, .inr (2, [.ref a5, .int 1, .int 0])), (a2, .inl (cT 3, 8, .inr (.inr (.inr (.inr (va_up f30 x8.toNatClampNeg (some a1))))))), (a3, .inr (2, [.ref a4, .int 1, v35])), (a4, .inl (cT 2, 4096, .inr (.inl f36))), (a5, .inl (cT 2, 4096, .inr (.inl (vp_updL f38 0 0)))), (a6, .inr (1, [.ref a7, .int 4, .int 0])), (a7, .inl (cT 0, 4096, .inl (upd (upd (upd (upd f41 0 (vp_nar .byte y1)) 1 (vp_nar .byte y2)) 2 (vp_nar .byte y3)) 3 (vp_nar .byte y4))))]) hP hD [0, 1, 2, 3, 4, 5, 6, 7] rfl rfl (by decide)
  refine W.widen (k := 0) (n := 0) (Nat.le_of_ble_eq_true rfl) (Nat.le_of_ble_eq_true rfl) ?_
  exact W.iret (v := 0) hx hb hr (fun t ht hW => ⟨⟨0, (), rfl, rfl, y1, y2, y3, y4, by rw [ht]; exact hP9, va_K.moved hW.alike hK, hD9⟩, hS.F ht⟩) hS.2.2 dL_two_25
set_option maxHeartbeats 400000000 in
set_option maxRecDepth 100000 in
theorem cK_apply_0 (l : Launch) (hl9 : l.stackTraces = false) (D : va_G) (cT : Nat → ClassId) (aK aV : Nat → Nat) (sz : Nat) (a0 : Nat) (a1 : Nat) (x2 : Int32) (b3 : Nat) (b4 : Nat) (b5 : Nat) (v6 : Value) (f7 : Nat → Int64) (h8 : f7 0 = 0) : xMet l yK_apply wyK_apply 2 0 0 43 D cT aK aV sz [.int x2, .ref a0, .ref b3, .ref b4, .ref b5] [(a0, .inr (2, [.ref a1, .int 1, v6])), (a1, .inl (cT 2, 4096, .inr (.inl f7)))] (fun A => va_Qi (fun (r : Int32) (_ : Unit) => r = 1) (fun _ t => xB D xcl cT A [(a0, .inr (2, [.ref a1, .int 1, v6])), (a1, .inl (cT 2, 4096, .inr (.inl f7)))] t) A) := by
  refine Met.ofW (cc := prog_2_method_2_code) (maxL := 5) (ret := (some .int)) (by decide) rfl ?_
  intro p e s m args below meth c s₁ B hml hv
  obtain ⟨rfl, hsz, hZ, hP, hK, hD0⟩ := hv
  have hx := B.exec
  have hb := B.bytes
  have hr := B.returns
  have hts := atoms_spec (ws := wyK_apply) B.pre
  have htx := fun w h => hts w (List.mem_cons_of_mem _ h)
  have hown : s.vm.findClass "ValueBench$Keyed" = some m.cls := findClass_of_methodNamed B.named
  have hlocks := B.notSynchronized
  subst hsz
  have hD := hD0.self (sz := s.heap.size)
  generalize hAe : va_A [(a0, .inr (2, [.ref a1, .int 1, v6])), (a1, .inl (cT 2, 4096, .inr (.inl f7)))] s.heap.size = A at hD hZ ⊢
  have hA : ∀ q : Nat, s.heap.size ≤ q → A q := fun q h => by rw [← hAe]; exact Or.inr h
  have hS : va_S A s.heap s.heap [] := va_S.rf
  have hP : va_P D xcl [(a0, .inr (2, [.ref a1, .int 1, v6])), (a1, .inl (cT 2, 4096, .inr (.inl f7)))] s.heap := hP
  have hl := lv_entry ([.int x2, .ref a0, .ref b3, .ref b4, .ref b5]) (n := 5) (Nat.le_of_ble_eq_true rfl)
  rw [lg_entry_eq]
  generalize (lg_sl ([.int x2, .ref a0, .ref b3, .ref b4, .ref b5]) ++ List.replicate (5 - (lg_sl ([.int x2, .ref a0, .ref b3, .ref b4, .ref b5])).length) Slot.unset).toArray = ls at hl ⊢
  have hl : lv_has ls 5 [(0, .int x2), (1, .ref a0), (2, .ref b3), (3, .ref b4), (4, .ref b5)] := hl
  refine lv_aload_n hx hb dK_apply_0 rfl (lv_at hl 1 rfl) ?_
  refine lv_iconst (v := 0) hx hb dK_apply_1 (by decide) ?_
  refine lv_iconst (v := 5) hx hb dK_apply_2 (by decide) ?_
  obtain ⟨hPc, hDc, hFc⟩ := xcut (wc := [(a0, .inr (2, [.ref a1, .int 1, v6])), (a1, .inl (cT 2, 4096, .inr (.inl f7)))]) hP hD hS hA [0, 1] rfl rfl (by decide)
  refine va_calli (va_runV (C := "ValueBench$Row") (As := [.int 0, .int 5]) (rest := []) ⟨hx, hb, hml, hown, htx⟩ (cR_is_2 l hl9 D cT aK aV s.heap.size a0 a1 v6 f7 (by first | rfl | exact h8)) ⟨callB_of 2 htx (xw_goodC kw_3_75) rfl rfl rfl (htx _ kw_1_4) (htx _ kw_5_22) ⟨by decide, by decide, by decide +kernel⟩ ⟨Nat.le_of_ble_eq_true rfl, Nat.le_of_ble_eq_true rfl⟩, (htx _ kw_3_73), (htx _ kw_3_74)⟩ ⟨xPre_blind, va_recv hK hP (ci := 2) rfl (q0 := 0) rfl, (fun U hU hW => ⟨rfl, xPre_of hZ hS hFc hPc hDc hK U hU hW⟩)⟩ rfl rfl hl.1 rfl (lv_room (Nat.le_of_ble_eq_true rfl)) dK_apply_3 ⟨Nat.le_of_ble_eq_true rfl, Nat.le_of_ble_eq_true rfl⟩) hS (fun q _ h => hFc q h) hFc (fun r1 u9 t H1 locs ht hvm hr9 hB hz1 hk1 hS => ?_)
  obtain ⟨hP1, hK1, hD1⟩ := hB
  rw [ht] at hP1
  obtain ⟨hP, hD⟩ := xjoin (W := [(a0, .inr (2, [.ref a1, .int 1, v6])), (a1, .inl (cT 2, 4096, .inr (.inl f7)))]) hP hD [0, 1] [] 0 rfl rfl (by decide) (by decide) hk1 hFc hP1 hD1
  generalize H1 = H at hP hS ⊢
  rw [hr9]
  refine W.eq (g2 := F0 m 6 ls [.int 0]) rfl ?_
  refine lv_if_eq (tgt := 31) hx hb dK_apply_6 (by decide) (fun _ => ?_) (fun h => ((by revert h; decide : False)).elim)
  refine lv_iconst (v := 1) hx hb dK_apply_31 (by decide) ?_
  obtain ⟨hP9, hD9⟩ := xsub (wc := [(a0, .inr (2, [.ref a1, .int 1, v6])), (a1, .inl (cT 2, 4096, .inr (.inl f7)))]) hP hD [0, 1] rfl rfl (by decide)
  refine W.widen (k := 0) (n := 0) (Nat.le_of_ble_eq_true rfl) (Nat.le_of_ble_eq_true rfl) ?_
  exact W.iret (v := 1) hx hb hr (fun t ht hW => ⟨⟨1, (), rfl, rfl, by rw [ht]; exact hP9, va_K.moved hW.alike hK, hD9⟩, hS.F ht⟩) hS.2.2 dK_apply_32
set_option maxHeartbeats 400000000 in
set_option maxRecDepth 100000 in
theorem cB_sort_0 (l : Launch) (hl9 : l.stackTraces = false) (D : va_G) (cT : Nat → ClassId) (aK aV : Nat → Nat) (sz : Nat) (a0 : Nat) (a1 : Nat) (a2 : Nat) (a3 : Nat) (a4 : Nat) (x5 : Int32) (x10 : Int32) (x15 : Int32) (v20 : Value) (v21 : Value) (v22 : Value) (b23 : Nat) (v24 : Value) (v25 : Value) (v26 : Value) (v27 : Value) (v28 : Value) (f29 : Nat → Option Nat) (b31 : Nat) (v33 : Value) (f34 : Nat → Int64) (h6 : ¬ x5 < 0) (h7 : ¬ 7 < x5) (h8 : x5 ≤ 7) (h9 : vp_in x5 8) (h11 : ¬ x10 < 0) (h12 : ¬ 7 < x10) (h13 : x10 ≤ 7) (h14 : vp_in x10 8) (h16 : ¬ x15 < 0) (h17 : ¬ 7 < x15) (h18 : x15 ≤ 7) (h19 : vp_in x15 8) (h30 : f29 x10.toNatClampNeg = some a3) (h32 : f29 x15.toNatClampNeg = some b31) (h35 : f34 0 = 0) : xMetX l yB_sort wyB_sort 7 1 6 121 D cT aK aV sz [.ref a0, .int x5, .int 0, .int x10, .int x15] [(a0, .inr (0, [v20, v21, v22, .ref a2, .ref b23, .ref a1, v24, v25])), (a1, .inr (2, [v26, v27, v28])), (a2, .inl (cT 3, 8, .inr (.inr (.inr (.inr f29))))), (a3, .inr (2, [.ref a4, .int 1, v33])), (a4, .inl (cT 2, 4096, .inr (.inl f34)))] "java/lang/ArithmeticException" (fun A t => xB D xcl cT A [(a0, .inr (0, [v20, v21, v22, .ref a2, .ref b23, .ref a1, v24, .int 1])), (a1, .inr (2, [v26, .int 0, .int 0])), (a2, .inl (cT 3, 8, .inr (.inr (.inr (.inr f29))))), (a3, .inr (2, [.ref a4, .int 1, v33])), (a4, .inl (cT 2, 4096, .inr (.inl f34)))] t) := by
  refine vx_ofW (cc := prog_1_method_11_code) (maxL := 5) (ret := none) (by decide) rfl ?_
  intro p e s m args below meth c s₁ B hml hne hv
  obtain ⟨rfl, hsz, hZ, hP, hK, hD0⟩ := hv
  have hx := B.exec
  have hb := B.bytes
  have hr := B.returns
  have hts := atoms_spec (ws := wyB_sort) B.pre
  have htx := fun w h => hts w (List.mem_cons_of_mem _ h)
  have hown : s.vm.findClass "ValueBench" = some m.cls := findClass_of_methodNamed B.named
  have hlocks := B.notSynchronized
  subst hsz
  have hD := hD0.self (sz := s.heap.size)
  generalize hAe : va_A [(a0, .inr (0, [v20, v21, v22, .ref a2, .ref b23, .ref a1, v24, v25])), (a1, .inr (2, [v26, v27, v28])), (a2, .inl (cT 3, 8, .inr (.inr (.inr (.inr f29))))), (a3, .inr (2, [.ref a4, .int 1, v33])), (a4, .inl (cT 2, 4096, .inr (.inl f34)))] s.heap.size = A at hD hZ ⊢
  have hA : ∀ q : Nat, s.heap.size ≤ q → A q := fun q h => by rw [← hAe]; exact Or.inr h
  have hS : va_S A s.heap s.heap [] := va_S.rf
  have hP : va_P D xcl [(a0, .inr (0, [v20, v21, v22, .ref a2, .ref b23, .ref a1, v24, v25])), (a1, .inr (2, [v26, v27, v28])), (a2, .inl (cT 3, 8, .inr (.inr (.inr (.inr f29))))), (a3, .inr (2, [.ref a4, .int 1, v33])), (a4, .inl (cT 2, 4096, .inr (.inl f34)))] s.heap := hP
  have hl := lv_entry ([.ref a0, .int x5, .int 0, .int x10, .int x15]) (n := 5) (Nat.le_of_ble_eq_true rfl)
  rw [lg_entry_eq]
  generalize (lg_sl ([.ref a0, .int x5, .int 0, .int x10, .int x15]) ++ List.replicate (5 - (lg_sl ([.ref a0, .int x5, .int 0, .int x10, .int x15])).length) Slot.unset).toArray = ls at hl ⊢
  have hl : lv_has ls 5 [(0, .ref a0), (1, .int x5), (2, .int 0), (3, .int x10), (4, .int x15)] := hl
  refine lv_iload_n hx hb dB_sort_0 rfl (lv_at hl 1 rfl) ?_
  obtain ⟨hPc, hDc, hFc⟩ := xcut (wc := []) hP hD hS hA [] rfl rfl (by decide)
  refine va_calli (va_runS (As := [.int x5]) (rest := []) ⟨hx, hb, hml, hown, htx⟩ (cB_isRegister_0 l hl9 D cT aK aV s.heap.size x5 h6 h7 h8 h9) ⟨callB_of 1 htx (xw_goodC kw_2_18) rfl rfl rfl (htx _ kw_1_1) (htx _ kw_2_16) ⟨by decide, by decide, by decide +kernel⟩ ⟨Nat.le_of_ble_eq_true rfl, Nat.le_of_ble_eq_true rfl⟩, htx _ kw_2_17⟩ ⟨xPre_blind, (fun U hU hW => ⟨rfl, xPre_of hZ hS hFc hPc hDc hK U hU hW⟩)⟩ rfl rfl hl.1 rfl (lv_room (Nat.le_of_ble_eq_true rfl)) dB_sort_1 ⟨Nat.le_of_ble_eq_true rfl, Nat.le_of_ble_eq_true rfl⟩) hS (fun q _ h => hFc q h) hFc (fun r1 u9 t H1 locs ht hvm hr9 hB hz1 hk1 hS => ?_)
  obtain ⟨hP1, hK1, hD1⟩ := hB
  rw [ht] at hP1
  obtain ⟨hP, hD⟩ := xjoin (W := [(a0, .inr (0, [v20, v21, v22, .ref a2, .ref b23, .ref a1, v24, v25])), (a1, .inr (2, [v26, v27, v28])), (a2, .inl (cT 3, 8, .inr (.inr (.inr (.inr f29))))), (a3, .inr (2, [.ref a4, .int 1, v33])), (a4, .inl (cT 2, 4096, .inr (.inl f34)))]) hP hD [] [0, 1, 2, 3, 4] 5 rfl rfl (by decide) (by decide) hk1 hFc hP1 hD1
  generalize H1 = H at hP hS ⊢
  rw [hr9]
  refine W.eq (g2 := F0 m 4 ls [.int 1]) rfl ?_
  refine lv_if_eq (tgt := 34) hx hb dB_sort_4 (by decide) (fun h => ((by revert h; decide : False)).elim) (fun _ => ?_)
  refine lv_iload_n hx hb dB_sort_7 rfl (lv_at hl 2 rfl) ?_
  refine lv_iconst (v := 4) hx hb dB_sort_8 (by decide) ?_
  obtain ⟨hPc, hDc, hFc⟩ := xcut (wc := []) hP hD hS hA [] rfl rfl (by decide)
  refine va_calli (va_runS (As := [.int 0, .int 4]) (rest := []) ⟨hx, hb, hml, hown, htx⟩ (cB_isWithin_24 l hl9 D cT aK aV H.size) ⟨callB_of 2 htx (xw_goodC kw_1_218) rfl rfl rfl (htx _ kw_1_1) (htx _ kw_1_216) ⟨by decide, by decide, by decide +kernel⟩ ⟨Nat.le_of_ble_eq_true rfl, Nat.le_of_ble_eq_true rfl⟩, htx _ kw_1_217⟩ ⟨xPre_blind, (fun U hU hW => ⟨rfl, xPre_of hZ hS hFc hPc hDc hK U hU hW⟩)⟩ rfl rfl hl.1 rfl (lv_room (Nat.le_of_ble_eq_true rfl)) dB_sort_9 ⟨Nat.le_of_ble_eq_true rfl, Nat.le_of_ble_eq_true rfl⟩) hS (fun q _ h => hFc q h) hFc (fun r2 u9 t H1 locs ht hvm hr9 hB hz1 hk1 hS => ?_)
  obtain ⟨hP1, hK1, hD1⟩ := hB
  rw [ht] at hP1
  obtain ⟨hP, hD⟩ := xjoin (W := [(a0, .inr (0, [v20, v21, v22, .ref a2, .ref b23, .ref a1, v24, v25])), (a1, .inr (2, [v26, v27, v28])), (a2, .inl (cT 3, 8, .inr (.inr (.inr (.inr f29))))), (a3, .inr (2, [.ref a4, .int 1, v33])), (a4, .inl (cT 2, 4096, .inr (.inl f34)))]) hP hD [] [0, 1, 2, 3, 4] 5 rfl rfl (by decide) (by decide) hk1 hFc hP1 hD1
  generalize H1 = H at hP hS ⊢
  rw [hr9]
  refine W.eq (g2 := F0 m 12 ls [.int 1]) rfl ?_
  refine lv_if_eq (tgt := 34) hx hb dB_sort_12 (by decide) (fun h => ((by revert h; decide : False)).elim) (fun _ => ?_)
  refine lv_iload_n hx hb dB_sort_15 rfl (lv_at hl 3 rfl) ?_
  obtain ⟨hPc, hDc, hFc⟩ := xcut (wc := []) hP hD hS hA [] rfl rfl (by decide)
  refine va_calli (va_runS (As := [.int x10]) (rest := []) ⟨hx, hb, hml, hown, htx⟩ (cB_isRegister_0 l hl9 D cT aK aV H.size x10 h11 h12 h13 h14) ⟨callB_of 1 htx (xw_goodC kw_2_18) rfl rfl rfl (htx _ kw_1_1) (htx _ kw_2_16) ⟨by decide, by decide, by decide +kernel⟩ ⟨Nat.le_of_ble_eq_true rfl, Nat.le_of_ble_eq_true rfl⟩, htx _ kw_2_17⟩ ⟨xPre_blind, (fun U hU hW => ⟨rfl, xPre_of hZ hS hFc hPc hDc hK U hU hW⟩)⟩ rfl rfl hl.1 rfl (lv_room (Nat.le_of_ble_eq_true rfl)) dB_sort_16 ⟨Nat.le_of_ble_eq_true rfl, Nat.le_of_ble_eq_true rfl⟩) hS (fun q _ h => hFc q h) hFc (fun r3 u9 t H1 locs ht hvm hr9 hB hz1 hk1 hS => ?_)
  obtain ⟨hP1, hK1, hD1⟩ := hB
  rw [ht] at hP1
  obtain ⟨hP, hD⟩ := xjoin (W := [(a0, .inr (0, [v20, v21, v22, .ref a2, .ref b23, .ref a1, v24, v25])), (a1, .inr (2, [v26, v27, v28])), (a2, .inl (cT 3, 8, .inr (.inr (.inr (.inr f29))))), (a3, .inr (2, [.ref a4, .int 1, v33])), (a4, .inl (cT 2, 4096, .inr (.inl f34)))]) hP hD [] [0, 1, 2, 3, 4] 5 rfl rfl (by decide) (by decide) hk1 hFc hP1 hD1
  generalize H1 = H at hP hS ⊢
  rw [hr9]
  refine W.eq (g2 := F0 m 19 ls [.int 1]) rfl ?_
  refine lv_if_eq (tgt := 34) hx hb dB_sort_19 (by decide) (fun h => ((by revert h; decide : False)).elim) (fun _ => ?_)
  refine lv_iload hx hb dB_sort_22 (lv_at hl 4 rfl) ?_
  obtain ⟨hPc, hDc, hFc⟩ := xcut (wc := []) hP hD hS hA [] rfl rfl (by decide)
  refine va_calli (va_runS (As := [.int x15]) (rest := []) ⟨hx, hb, hml, hown, htx⟩ (cB_isRegister_0 l hl9 D cT aK aV H.size x15 h16 h17 h18 h19) ⟨callB_of 1 htx (xw_goodC kw_2_18) rfl rfl rfl (htx _ kw_1_1) (htx _ kw_2_16) ⟨by decide, by decide, by decide +kernel⟩ ⟨Nat.le_of_ble_eq_true rfl, Nat.le_of_ble_eq_true rfl⟩, htx _ kw_2_17⟩ ⟨xPre_blind, (fun U hU hW => ⟨rfl, xPre_of hZ hS hFc hPc hDc hK U hU hW⟩)⟩ rfl rfl hl.1 rfl (lv_room (Nat.le_of_ble_eq_true rfl)) dB_sort_24 ⟨Nat.le_of_ble_eq_true rfl, Nat.le_of_ble_eq_true rfl⟩) hS (fun q _ h => hFc q h) hFc (fun r4 u9 t H1 locs ht hvm hr9 hB hz1 hk1 hS => ?_)
  obtain ⟨hP1, hK1, hD1⟩ := hB
  rw [ht] at hP1
  obtain ⟨hP, hD⟩ := xjoin (W := [(a0, .inr (0, [v20, v21, v22, .ref a2, .ref b23, .ref a1, v24, v25])), (a1, .inr (2, [v26, v27, v28])), (a2, .inl (cT 3, 8, .inr (.inr (.inr (.inr f29))))), (a3, .inr (2, [.ref a4, .int 1, v33])), (a4, .inl (cT 2, 4096, .inr (.inl f34)))]) hP hD [] [0, 1, 2, 3, 4] 5 rfl rfl (by decide) (by decide) hk1 hFc hP1 hD1
  generalize H1 = H at hP hS ⊢
  rw [hr9]
  refine W.eq (g2 := F0 m 27 ls [.int 1]) rfl ?_
  refine lv_if_eq (tgt := 34) hx hb dB_sort_27 (by decide) (fun h => ((by revert h; decide : False)).elim) (fun _ => ?_)
  refine lv_iconst (v := 1) hx hb dB_sort_30 (by decide) ?_
  refine lv_goto (tgt := 35) hx hb dB_sort_31 (by decide) ?_
  obtain ⟨hPc, hDc, hFc⟩ := xcut (wc := []) hP hD hS hA [] rfl rfl (by decide)
  refine va_callv (va_runS (As := [.int 1]) (rest := []) ⟨hx, hb, hml, hown, htx⟩ (cB_demand_0 l hl9 D cT aK aV H.size) ⟨callB_of 1 htx (xw_goodC kw_1_221) rfl rfl rfl (htx _ kw_1_1) (htx _ kw_1_219) ⟨by decide, by decide, by decide +kernel⟩ ⟨Nat.le_of_ble_eq_true rfl, Nat.le_of_ble_eq_true rfl⟩, htx _ kw_1_220⟩ ⟨xPre_blind, (fun U hU hW => ⟨rfl, xPre_of hZ hS hFc hPc hDc hK U hU hW⟩)⟩ rfl rfl hl.1 rfl (lv_room (Nat.le_of_ble_eq_true rfl)) dB_sort_35 ⟨Nat.le_of_ble_eq_true rfl, Nat.le_of_ble_eq_true rfl⟩) hS (fun q _ h => hFc q h) hFc (fun u9 t H1 locs ht hvm hr9 hB hz1 hk1 hS => ?_)
  obtain ⟨hP1, hK1, hD1⟩ := hB
  rw [ht] at hP1
  obtain ⟨hP, hD⟩ := xjoin (W := [(a0, .inr (0, [v20, v21, v22, .ref a2, .ref b23, .ref a1, v24, v25])), (a1, .inr (2, [v26, v27, v28])), (a2, .inl (cT 3, 8, .inr (.inr (.inr (.inr f29))))), (a3, .inr (2, [.ref a4, .int 1, v33])), (a4, .inl (cT 2, 4096, .inr (.inl f34)))]) hP hD [] [0, 1, 2, 3, 4] 5 rfl rfl (by decide) (by decide) hk1 hFc hP1 hD1
  generalize H1 = H at hP hS ⊢
  refine lv_aload_n hx hb dB_sort_38 rfl (lv_at hl 0 rfl) ?_
  refine va_get (D := D) (ci := 0) (v := .ref a1) (C := "ValueBench") (T := TB) (N := 8) hx hb htx inB hown hK hP 0 rfl rfl 5 (by decide) (htx _ kw_1_100) (fun _ h9 => h9) rfl dB_sort_39 ?_
  obtain ⟨hPc, hDc, hFc⟩ := xcut (wc := [(a1, .inr (2, [v26, v27, v28]))]) hP hD hS hA [1] rfl rfl (by decide)
  refine va_callv (va_runV (C := "ValueBench$Row") (As := []) (rest := []) ⟨hx, hb, hml, hown, htx⟩ (cR_clear_0 l hl9 D cT aK aV H.size a1 v26 v27 v28) ⟨callB_of 0 htx (xw_goodC kw_2_22) rfl rfl rfl (htx _ kw_1_4) (htx _ kw_2_19) ⟨by decide, by decide, by decide +kernel⟩ ⟨Nat.le_of_ble_eq_true rfl, Nat.le_of_ble_eq_true rfl⟩, (htx _ kw_2_20), (htx _ kw_2_21)⟩ ⟨xPre_blind, va_recv hK hP (ci := 2) rfl (q0 := 1) rfl, (fun U hU hW => ⟨rfl, xPre_of hZ hS hFc hPc hDc hK U hU hW⟩)⟩ rfl rfl hl.1 rfl (lv_room (Nat.le_of_ble_eq_true rfl)) dB_sort_42 ⟨Nat.le_of_ble_eq_true rfl, Nat.le_of_ble_eq_true rfl⟩) hS (fun q _ h => hFc q h) hFc (fun u9 t H1 locs ht hvm hr9 hB hz1 hk1 hS => ?_)
  obtain ⟨hP1, hK1, hD1⟩ := hB
  rw [ht] at hP1
  obtain ⟨hP, hD⟩ := xjoin (W := [(a0, .inr (0, [v20, v21, v22, .ref a2, .ref b23, .ref a1, v24, v25])), (a2, .inl (cT 3, 8, .inr (.inr (.inr (.inr f29))))), (a3, .inr (2, [.ref a4, .int 1, v33])), (a4, .inl (cT 2, 4096, .inr (.inl f34))), (a1, .inr (2, [v26, .int 0, .int 0]))]) hP hD [1] [0, 2, 3, 4] 4 rfl rfl (by decide) (by decide) hk1 hFc hP1 hD1
  generalize H1 = H at hP hS ⊢
  refine lv_aload_n hx hb dB_sort_45 rfl (lv_at hl 0 rfl) ?_
  refine lv_iload_n hx hb dB_sort_46 rfl (lv_at hl 2 rfl) ?_
  refine lv_aload_n hx hb dB_sort_47 rfl (lv_at hl 0 rfl) ?_
  refine va_get (D := D) (ci := 0) (v := .ref a2) (C := "ValueBench") (T := TB) (N := 8) hx hb htx inB hown hK hP 0 rfl rfl 3 (by decide) (htx _ kw_1_98) (fun _ h9 => h9) rfl dB_sort_48 ?_
  refine lv_iload_n hx hb dB_sort_51 rfl (lv_at hl 3 rfl) ?_
  refine va_aldq hx hb hK hP 1 3 rfl rfl h14 dB_sort_52 ?_
  refine W.eq (g2 := F0 m 53 ls [va_rf (f29 x10.toNatClampNeg), .int 0, .ref a0]) rfl ?_
  rw [h30]
  refine W.eq (g2 := F0 m 53 ls [.ref a3, .int 0, .ref a0]) rfl ?_
  refine lv_aload_n hx hb dB_sort_53 rfl (lv_at hl 0 rfl) ?_
  refine va_get (D := D) (ci := 0) (v := .ref a2) (C := "ValueBench") (T := TB) (N := 8) hx hb htx inB hown hK hP 0 rfl rfl 3 (by decide) (htx _ kw_1_98) (fun _ h9 => h9) rfl dB_sort_54 ?_
  refine lv_iload hx hb dB_sort_57 (lv_at hl 4 rfl) ?_
  refine va_aldq hx hb hK hP 1 3 rfl rfl h19 dB_sort_59 ?_
  refine W.eq (g2 := F0 m 60 ls [va_rf (f29 x15.toNatClampNeg), .ref a3, .int 0, .ref a0]) rfl ?_
  rw [h32]
  refine W.eq (g2 := F0 m 60 ls [.ref b31, .ref a3, .int 0, .ref a0]) rfl ?_
  refine lv_aload_n hx hb dB_sort_60 rfl (lv_at hl 0 rfl) ?_
  refine va_get (D := D) (ci := 0) (v := .ref b23) (C := "ValueBench") (T := TB) (N := 8) hx hb htx inB hown hK hP 0 rfl rfl 4 (by decide) (htx _ kw_1_99) (fun _ h9 => h9) rfl dB_sort_61 ?_
  refine lv_aload_n hx hb dB_sort_64 rfl (lv_at hl 0 rfl) ?_
  refine va_get (D := D) (ci := 0) (v := .ref a1) (C := "ValueBench") (T := TB) (N := 8) hx hb htx inB hown hK hP 0 rfl rfl 5 (by decide) (htx _ kw_1_100) (fun _ h9 => h9) rfl dB_sort_65 ?_
  obtain ⟨hPc, hDc, hFc⟩ := xcut (wc := [(a3, .inr (2, [.ref a4, .int 1, v33])), (a4, .inl (cT 2, 4096, .inr (.inl f34)))]) hP hD hS hA [2, 3] rfl rfl (by decide)
  refine va_calli (va_runS (As := [.int 0, .ref a3, .ref b31, .ref b23, .ref a1]) (rest := [.ref a0]) ⟨hx, hb, hml, hown, htx⟩ (cK_apply_0 l hl9 D cT aK aV H.size a3 a4 0 b31 b23 a1 v33 f34 (by first | rfl | exact h30 | exact h32 | exact h35)) ⟨callB_of 5 htx (xw_goodC kw_5_21) rfl rfl rfl (htx _ kw_1_28) (htx _ kw_5_19) ⟨by decide, by decide, by decide +kernel⟩ ⟨Nat.le_of_ble_eq_true rfl, Nat.le_of_ble_eq_true rfl⟩, htx _ kw_5_20⟩ ⟨xPre_blind, (fun U hU hW => ⟨rfl, xPre_of hZ hS hFc hPc hDc hK U hU hW⟩)⟩ rfl rfl hl.1 rfl (lv_room (Nat.le_of_ble_eq_true rfl)) dB_sort_68 ⟨Nat.le_of_ble_eq_true rfl, Nat.le_of_ble_eq_true rfl⟩) hS (fun q _ h => hFc q h) hFc (fun r5 u9 t H1 locs ht hvm hr9 hB hz1 hk1 hS => ?_)
  obtain ⟨hP1, hK1, hD1⟩ := hB
  rw [ht] at hP1
  obtain ⟨hP, hD⟩ := xjoin (W := [(a0, .inr (0, [v20, v21, v22, .ref a2, .ref b23, .ref a1, v24, v25])), (a2, .inl (cT 3, 8, .inr (.inr (.inr (.inr f29))))), (a1, .inr (2, [v26, .int 0, .int 0])), (a3, .inr (2, [.ref a4, .int 1, v33])), (a4, .inl (cT 2, 4096, .inr (.inl f34)))]) hP hD [2, 3] [0, 1, 4] 3 rfl rfl (by decide) (by decide) hk1 hFc hP1 hD1
  generalize H1 = H at hP hS ⊢
  rw [hr9]
  refine W.eq (g2 := F0 m 71 ls [.int 1, .ref a0]) rfl ?_
  obtain ⟨hPc, hDc, hFc⟩ := xcut (wc := [(a0, .inr (0, [v20, v21, v22, .ref a2, .ref b23, .ref a1, v24, v25]))]) hP hD hS hA [0] rfl rfl (by decide)
  refine xx_thr (vx_runV (C := "ValueBench") (As := [.int 1]) (rest := []) ⟨hx, hb, hml, hown, htx⟩ (cB_demandDone_1 l hl9 D cT aK aV H.size a0 v20 v21 v22 (.ref a2) (.ref b23) (.ref a1) v24 v25) ⟨callB_of 1 htx (xw_goodC kw_3_222) rfl rfl rfl (htx _ kw_1_1) (htx _ kw_3_219) ⟨by decide, by decide, by decide +kernel⟩ ⟨Nat.le_of_ble_eq_true rfl, Nat.le_of_ble_eq_true rfl⟩, (htx _ kw_3_221), (htx _ kp_B_demandDone)⟩ ⟨xPre_blind, va_recv hK hP (ci := 0) rfl (q0 := 0) rfl, (fun U hU hW => ⟨rfl, xPre_of hZ hS hFc hPc hDc hK U hU hW⟩)⟩ rfl rfl hl.1 rfl (lv_room (Nat.le_of_ble_eq_true rfl)) dB_sort_71 ⟨Nat.le_of_ble_eq_true rfl, Nat.le_of_ble_eq_true rfl⟩) hS hFc (fun q _ h => hFc q h) (fun E ce q9 u9 t H1 locs ht hvm _ hB hz1 hk1 hS hce hcv hcl => ?_)
  obtain ⟨rfl, hP1, hK1, hD1⟩ := hB
  rw [ht] at hP1
  obtain ⟨hP, hD⟩ := xjoin (W := [(a2, .inl (cT 3, 8, .inr (.inr (.inr (.inr f29))))), (a1, .inr (2, [v26, .int 0, .int 0])), (a3, .inr (2, [.ref a4, .int 1, v33])), (a4, .inl (cT 2, 4096, .inr (.inl f34))), (a0, .inr (0, [v20, v21, v22, .ref a2, .ref b23, .ref a1, v24, .int 1]))]) hP hD [0] [1, 2, 3, 4] 4 rfl rfl (by decide) (by decide) hk1 hFc hP1 hD1
  generalize H1 = H at hP hS hce ⊢
  obtain ⟨hP9, hD9⟩ := xsub (wc := [(a0, .inr (0, [v20, v21, v22, .ref a2, .ref b23, .ref a1, v24, .int 1])), (a1, .inr (2, [v26, .int 0, .int 0])), (a2, .inl (cT 3, 8, .inr (.inr (.inr (.inr f29))))), (a3, .inr (2, [.ref a4, .int 1, v33])), (a4, .inl (cT 2, 4096, .inr (.inl f34)))]) hP hD [4, 1, 0, 2, 3] rfl rfl (by decide)
  exact vx_out (E := "java/lang/ArithmeticException") (fun x h => (hne x h).elim) hlocks hce hcv hcl (fun t ht ha => ⟨(), trivial, ⟨rfl, by rw [ht]; exact hP9, va_K.moved ha hK, hD9⟩, hS.F ht⟩) hS.2.2 (Nat.le_of_ble_eq_true rfl) (Nat.le_of_ble_eq_true rfl)
set_option maxHeartbeats 400000000 in
set_option maxRecDepth 100000 in
theorem cL_sort_0 (l : Launch) (hl9 : l.stackTraces = false) (D : va_G) (cT : Nat → ClassId) (aK aV : Nat → Nat) (sz : Nat) (a0 : Nat) (a1 : Nat) (a2 : Nat) (a3 : Nat) (a4 : Nat) (x5 : Int32) (x10 : Int32) (x15 : Int32) (v20 : Value) (v21 : Value) (v22 : Value) (b23 : Nat) (v24 : Value) (v25 : Value) (v26 : Value) (v27 : Value) (v28 : Value) (f29 : Nat → Option Nat) (b31 : Nat) (v33 : Value) (f34 : Nat → Int64) (h6 : ¬ x5 < 0) (h7 : ¬ 7 < x5) (h8 : x5 ≤ 7) (h9 : vp_in x5 8) (h11 : ¬ x10 < 0) (h12 : ¬ 7 < x10) (h13 : x10 ≤ 7) (h14 : vp_in x10 8) (h16 : ¬ x15 < 0) (h17 : ¬ 7 < x15) (h18 : x15 ≤ 7) (h19 : vp_in x15 8) (h30 : f29 x10.toNatClampNeg = some a3) (h32 : f29 x15.toNatClampNeg = some b31) (h35 : f34 0 = 0) : xMet l yL_sort wyL_sort 8 1 6 145 D cT aK aV sz [.ref a0, .int x5, .int 0, .int x10, .int x15] [(a0, .inr (0, [v20, v21, v22, .ref a2, .ref b23, .ref a1, v24, v25])), (a1, .inr (2, [v26, v27, v28])), (a2, .inl (cT 3, 8, .inr (.inr (.inr (.inr f29))))), (a3, .inr (2, [.ref a4, .int 1, v33])), (a4, .inl (cT 2, 4096, .inr (.inl f34)))] (fun A => va_Qi (fun (r : Int32) (_ : Unit) => r = 2) (fun _ t => xB D xcl cT A [(a0, .inr (0, [v20, v21, v22, .ref a2, .ref b23, .ref a1, v24, .int 1])), (a1, .inr (2, [v26, .int 0, .int 0])), (a2, .inl (cT 3, 8, .inr (.inr (.inr (.inr f29))))), (a3, .inr (2, [.ref a4, .int 1, v33])), (a4, .inl (cT 2, 4096, .inr (.inl f34)))] t) A) := by
  refine va_MetW (cc := method_12_code) (maxL := 6) (ret := (some .int)) (hh := [(0, 9, 12, 19), (0, 9, 16, 33), (0, 9, 20, 13)]) (by decide) rfl ?_
  intro p e s m args below meth c s₁ B hml hv
  obtain ⟨rfl, hsz, hZ, hP, hK, hD0⟩ := hv
  have hx := B.exec
  have hb := B.bytes
  have hr := B.returns
  have hts := atoms_spec (ws := wyL_sort) B.pre
  have htx := fun w h => hts w (List.mem_cons_of_mem _ h)
  have hown : s.vm.findClass "ValueBenchLaw" = some m.cls := findClass_of_methodNamed B.named
  have hlocks := B.notSynchronized
  subst hsz
  have hD := hD0.self (sz := s.heap.size)
  generalize hAe : va_A [(a0, .inr (0, [v20, v21, v22, .ref a2, .ref b23, .ref a1, v24, v25])), (a1, .inr (2, [v26, v27, v28])), (a2, .inl (cT 3, 8, .inr (.inr (.inr (.inr f29))))), (a3, .inr (2, [.ref a4, .int 1, v33])), (a4, .inl (cT 2, 4096, .inr (.inl f34)))] s.heap.size = A at hD hZ ⊢
  have hA : ∀ q : Nat, s.heap.size ≤ q → A q := fun q h => by rw [← hAe]; exact Or.inr h
  have hS : va_S A s.heap s.heap [] := va_S.rf
  have hP : va_P D xcl [(a0, .inr (0, [v20, v21, v22, .ref a2, .ref b23, .ref a1, v24, v25])), (a1, .inr (2, [v26, v27, v28])), (a2, .inl (cT 3, 8, .inr (.inr (.inr (.inr f29))))), (a3, .inr (2, [.ref a4, .int 1, v33])), (a4, .inl (cT 2, 4096, .inr (.inl f34)))] s.heap := hP
  have hl := lv_entry ([.ref a0, .int x5, .int 0, .int x10, .int x15]) (n := 6) (Nat.le_of_ble_eq_true rfl)
  rw [lg_entry_eq]
  generalize (lg_sl ([.ref a0, .int x5, .int 0, .int x10, .int x15]) ++ List.replicate (6 - (lg_sl ([.ref a0, .int x5, .int 0, .int x10, .int x15])).length) Slot.unset).toArray = ls at hl ⊢
  have hl : lv_has ls 6 [(0, .ref a0), (1, .int x5), (2, .int 0), (3, .int x10), (4, .int x15)] := hl
  have htab := vx_table (x := yL_sort) B (hts _ List.mem_cons_self)
  refine lv_aload_n hx hb dL_sort_0 rfl (lv_at hl 0 rfl) ?_
  refine lv_iload_n hx hb dL_sort_1 rfl (lv_at hl 1 rfl) ?_
  refine lv_iload_n hx hb dL_sort_2 rfl (lv_at hl 2 rfl) ?_
  refine lv_iload_n hx hb dL_sort_3 rfl (lv_at hl 3 rfl) ?_
  refine lv_iload hx hb dL_sort_4 (lv_at hl 4 rfl) ?_
  obtain ⟨hPc, hDc, hFc⟩ := xcut (wc := [(a0, .inr (0, [v20, v21, v22, .ref a2, .ref b23, .ref a1, v24, v25])), (a1, .inr (2, [v26, v27, v28])), (a2, .inl (cT 3, 8, .inr (.inr (.inr (.inr f29))))), (a3, .inr (2, [.ref a4, .int 1, v33])), (a4, .inl (cT 2, 4096, .inr (.inl f34)))]) hP hD hS hA [0, 1, 2, 3, 4] rfl rfl (by decide)
  refine xx_thr (vx_runV (C := "ValueBench") (As := [.int x5, .int 0, .int x10, .int x15]) (rest := []) ⟨hx, hb, hml, hown, htx⟩ (cB_sort_0 l hl9 D cT aK aV s.heap.size a0 a1 a2 a3 a4 x5 x10 x15 v20 v21 v22 b23 v24 v25 v26 v27 v28 f29 b31 v33 f34 h6 h7 h8 h9 h11 h12 h13 h14 h16 h17 h18 h19 (by first | rfl | exact h30 | exact h32 | exact h35) (by first | rfl | exact h30 | exact h32 | exact h35) (by first | rfl | exact h30 | exact h32 | exact h35)) ⟨callB_of 4 htx (xw_goodC kw_5_18) rfl rfl rfl (htx _ kw_1_1) (htx _ kw_5_15) ⟨by decide, by decide, by decide +kernel⟩ ⟨Nat.le_of_ble_eq_true rfl, Nat.le_of_ble_eq_true rfl⟩, (htx _ kw_5_16), (htx _ kw_5_17)⟩ ⟨xPre_blind, va_recv hK hP (ci := 0) rfl (q0 := 0) rfl, (fun U hU hW => ⟨rfl, xPre_of hZ hS hFc hPc hDc hK U hU hW⟩)⟩ rfl rfl hl.1 rfl (lv_room (Nat.le_of_ble_eq_true rfl)) dL_sort_6 ⟨Nat.le_of_ble_eq_true rfl, Nat.le_of_ble_eq_true rfl⟩) hS hFc (fun q _ h => hFc q h) (fun E ce q9 u9 t H1 locs ht hvm _ hB hz1 hk1 hS hce hcv hcl => ?_)
  obtain ⟨rfl, hP1, hK1, hD1⟩ := hB
  rw [ht] at hP1
  obtain ⟨hP, hD⟩ := xjoin (W := [(a0, .inr (0, [v20, v21, v22, .ref a2, .ref b23, .ref a1, v24, .int 1])), (a1, .inr (2, [v26, .int 0, .int 0])), (a2, .inl (cT 3, 8, .inr (.inr (.inr (.inr f29))))), (a3, .inr (2, [.ref a4, .int 1, v33])), (a4, .inl (cT 2, 4096, .inr (.inl f34)))]) hP hD [0, 1, 2, 3, 4] [] 0 rfl rfl (by decide) (by decide) hk1 hFc hP1 hD1
  generalize H1 = H at hP hS hce ⊢
  refine vx_catch (own := "ValueBenchLaw") (name := "java/lang/ArithmeticException") (E := "java/lang/ArithmeticException") hown [⟨0, 9, 12, 19⟩] ⟨0, 9, 16, 33⟩ [⟨0, 9, 20, 13⟩] (by rw [htab]; rfl) (by intro z hz; rcases List.mem_cons.mp hz with rfl | hz; (exact Or.inr ⟨by decide, "java/lang/IllegalArgumentException", htx _ kw_1_211, hZ.2.2.2.2.2.2.2.1 _ (List.mem_of_getElem? (i := 10) rfl)⟩); cases hz) (by decide) (by decide) (htx _ kw_3_98) ((hZ.2.2.2.2.2.1 _ (List.mem_of_getElem? (i := 3) rfl)).use rfl) hce hcv hcl ?_
  refine lv_astore (lv' := [(5, .ref q9), (0, .ref a0), (1, .int x5), (2, .int 0), (3, .int x10), (4, .int x15)]) hx hb dL_sort_16 hl (by decide) rfl (fun ls hl => ?_)
  refine lv_iconst (v := 2) hx hb dL_sort_18 (by decide) ?_
  obtain ⟨hP9, hD9⟩ := xsub (wc := [(a0, .inr (0, [v20, v21, v22, .ref a2, .ref b23, .ref a1, v24, .int 1])), (a1, .inr (2, [v26, .int 0, .int 0])), (a2, .inl (cT 3, 8, .inr (.inr (.inr (.inr f29))))), (a3, .inr (2, [.ref a4, .int 1, v33])), (a4, .inl (cT 2, 4096, .inr (.inl f34)))]) hP hD [0, 1, 2, 3, 4] rfl rfl (by decide)
  refine W.widen (k := 1) (n := 6) (Nat.le_of_ble_eq_true rfl) (Nat.le_of_ble_eq_true rfl) ?_
  exact W.iret (v := 2) hx hb hr (fun t ht hW => ⟨⟨2, (), rfl, rfl, by rw [ht]; exact hP9, va_K.moved hW.alike hK, hD9⟩, hS.F ht⟩) hS.2.2 dL_sort_19
set_option maxHeartbeats 400000000 in
set_option maxRecDepth 100000 in
theorem cK_apply_1 (l : Launch) (hl9 : l.stackTraces = false) (D : va_G) (cT : Nat → ClassId) (aK aV : Nat → Nat) (sz : Nat) (a0 : Nat) (a1 : Nat) (x2 : Int32) (b3 : Nat) (b4 : Nat) (v5 : Value) (f6 : Nat → Int64) (h7 : f6 0 = 0) : xMet l yK_apply wyK_apply 2 0 0 43 D cT aK aV sz [.int x2, .ref a0, .ref a0, .ref b3, .ref b4] [(a0, .inr (2, [.ref a1, .int 1, v5])), (a1, .inl (cT 2, 4096, .inr (.inl f6)))] (fun A => va_Qi (fun (r : Int32) (_ : Unit) => r = 1) (fun _ t => xB D xcl cT A [(a0, .inr (2, [.ref a1, .int 1, v5])), (a1, .inl (cT 2, 4096, .inr (.inl f6)))] t) A) := by
  refine Met.ofW (cc := prog_2_method_2_code) (maxL := 5) (ret := (some .int)) (by decide) rfl ?_
  intro p e s m args below meth c s₁ B hml hv
  obtain ⟨rfl, hsz, hZ, hP, hK, hD0⟩ := hv
  have hx := B.exec
  have hb := B.bytes
  have hr := B.returns
  have hts := atoms_spec (ws := wyK_apply) B.pre
  have htx := fun w h => hts w (List.mem_cons_of_mem _ h)
  have hown : s.vm.findClass "ValueBench$Keyed" = some m.cls := findClass_of_methodNamed B.named
  have hlocks := B.notSynchronized
  subst hsz
  have hD := hD0.self (sz := s.heap.size)
  generalize hAe : va_A [(a0, .inr (2, [.ref a1, .int 1, v5])), (a1, .inl (cT 2, 4096, .inr (.inl f6)))] s.heap.size = A at hD hZ ⊢
  have hA : ∀ q : Nat, s.heap.size ≤ q → A q := fun q h => by rw [← hAe]; exact Or.inr h
  have hS : va_S A s.heap s.heap [] := va_S.rf
  have hP : va_P D xcl [(a0, .inr (2, [.ref a1, .int 1, v5])), (a1, .inl (cT 2, 4096, .inr (.inl f6)))] s.heap := hP
  have hl := lv_entry ([.int x2, .ref a0, .ref a0, .ref b3, .ref b4]) (n := 5) (Nat.le_of_ble_eq_true rfl)
  rw [lg_entry_eq]
  generalize (lg_sl ([.int x2, .ref a0, .ref a0, .ref b3, .ref b4]) ++ List.replicate (5 - (lg_sl ([.int x2, .ref a0, .ref a0, .ref b3, .ref b4])).length) Slot.unset).toArray = ls at hl ⊢
  have hl : lv_has ls 5 [(0, .int x2), (1, .ref a0), (2, .ref a0), (3, .ref b3), (4, .ref b4)] := hl
  refine lv_aload_n hx hb dK_apply_0 rfl (lv_at hl 1 rfl) ?_
  refine lv_iconst (v := 0) hx hb dK_apply_1 (by decide) ?_
  refine lv_iconst (v := 5) hx hb dK_apply_2 (by decide) ?_
  obtain ⟨hPc, hDc, hFc⟩ := xcut (wc := [(a0, .inr (2, [.ref a1, .int 1, v5])), (a1, .inl (cT 2, 4096, .inr (.inl f6)))]) hP hD hS hA [0, 1] rfl rfl (by decide)
  refine va_calli (va_runV (C := "ValueBench$Row") (As := [.int 0, .int 5]) (rest := []) ⟨hx, hb, hml, hown, htx⟩ (cR_is_2 l hl9 D cT aK aV s.heap.size a0 a1 v5 f6 (by first | rfl | exact h7)) ⟨callB_of 2 htx (xw_goodC kw_3_75) rfl rfl rfl (htx _ kw_1_4) (htx _ kw_5_22) ⟨by decide, by decide, by decide +kernel⟩ ⟨Nat.le_of_ble_eq_true rfl, Nat.le_of_ble_eq_true rfl⟩, (htx _ kw_3_73), (htx _ kw_3_74)⟩ ⟨xPre_blind, va_recv hK hP (ci := 2) rfl (q0 := 0) rfl, (fun U hU hW => ⟨rfl, xPre_of hZ hS hFc hPc hDc hK U hU hW⟩)⟩ rfl rfl hl.1 rfl (lv_room (Nat.le_of_ble_eq_true rfl)) dK_apply_3 ⟨Nat.le_of_ble_eq_true rfl, Nat.le_of_ble_eq_true rfl⟩) hS (fun q _ h => hFc q h) hFc (fun r1 u9 t H1 locs ht hvm hr9 hB hz1 hk1 hS => ?_)
  obtain ⟨hP1, hK1, hD1⟩ := hB
  rw [ht] at hP1
  obtain ⟨hP, hD⟩ := xjoin (W := [(a0, .inr (2, [.ref a1, .int 1, v5])), (a1, .inl (cT 2, 4096, .inr (.inl f6)))]) hP hD [0, 1] [] 0 rfl rfl (by decide) (by decide) hk1 hFc hP1 hD1
  generalize H1 = H at hP hS ⊢
  rw [hr9]
  refine W.eq (g2 := F0 m 6 ls [.int 0]) rfl ?_
  refine lv_if_eq (tgt := 31) hx hb dK_apply_6 (by decide) (fun _ => ?_) (fun h => ((by revert h; decide : False)).elim)
  refine lv_iconst (v := 1) hx hb dK_apply_31 (by decide) ?_
  obtain ⟨hP9, hD9⟩ := xsub (wc := [(a0, .inr (2, [.ref a1, .int 1, v5])), (a1, .inl (cT 2, 4096, .inr (.inl f6)))]) hP hD [0, 1] rfl rfl (by decide)
  refine W.widen (k := 0) (n := 0) (Nat.le_of_ble_eq_true rfl) (Nat.le_of_ble_eq_true rfl) ?_
  exact W.iret (v := 1) hx hb hr (fun t ht hW => ⟨⟨1, (), rfl, rfl, by rw [ht]; exact hP9, va_K.moved hW.alike hK, hD9⟩, hS.F ht⟩) hS.2.2 dK_apply_32
set_option maxHeartbeats 400000000 in
set_option maxRecDepth 100000 in
theorem cB_sort_1 (l : Launch) (hl9 : l.stackTraces = false) (D : va_G) (cT : Nat → ClassId) (aK aV : Nat → Nat) (sz : Nat) (a0 : Nat) (a1 : Nat) (a2 : Nat) (a3 : Nat) (a4 : Nat) (x5 : Int32) (x10 : Int32) (x15 : Int32) (v20 : Value) (v21 : Value) (v22 : Value) (b23 : Nat) (v24 : Value) (v25 : Value) (v26 : Value) (v27 : Value) (v28 : Value) (f29 : Nat → Option Nat) (v32 : Value) (f33 : Nat → Int64) (h6 : ¬ x5 < 0) (h7 : ¬ 7 < x5) (h8 : x5 ≤ 7) (h9 : vp_in x5 8) (h11 : ¬ x10 < 0) (h12 : ¬ 7 < x10) (h13 : x10 ≤ 7) (h14 : vp_in x10 8) (h16 : ¬ x15 < 0) (h17 : ¬ 7 < x15) (h18 : x15 ≤ 7) (h19 : vp_in x15 8) (h30 : f29 x10.toNatClampNeg = some a3) (h31 : f29 x15.toNatClampNeg = some a3) (h34 : f33 0 = 0) : xMetX l yB_sort wyB_sort 7 1 6 121 D cT aK aV sz [.ref a0, .int x5, .int 0, .int x10, .int x15] [(a0, .inr (0, [v20, v21, v22, .ref a2, .ref b23, .ref a1, v24, v25])), (a1, .inr (2, [v26, v27, v28])), (a2, .inl (cT 3, 8, .inr (.inr (.inr (.inr f29))))), (a3, .inr (2, [.ref a4, .int 1, v32])), (a4, .inl (cT 2, 4096, .inr (.inl f33)))] "java/lang/ArithmeticException" (fun A t => xB D xcl cT A [(a0, .inr (0, [v20, v21, v22, .ref a2, .ref b23, .ref a1, v24, .int 1])), (a1, .inr (2, [v26, .int 0, .int 0])), (a2, .inl (cT 3, 8, .inr (.inr (.inr (.inr f29))))), (a3, .inr (2, [.ref a4, .int 1, v32])), (a4, .inl (cT 2, 4096, .inr (.inl f33)))] t) := by
  refine vx_ofW (cc := prog_1_method_11_code) (maxL := 5) (ret := none) (by decide) rfl ?_
  intro p e s m args below meth c s₁ B hml hne hv
  obtain ⟨rfl, hsz, hZ, hP, hK, hD0⟩ := hv
  have hx := B.exec
  have hb := B.bytes
  have hr := B.returns
  have hts := atoms_spec (ws := wyB_sort) B.pre
  have htx := fun w h => hts w (List.mem_cons_of_mem _ h)
  have hown : s.vm.findClass "ValueBench" = some m.cls := findClass_of_methodNamed B.named
  have hlocks := B.notSynchronized
  subst hsz
  have hD := hD0.self (sz := s.heap.size)
  generalize hAe : va_A [(a0, .inr (0, [v20, v21, v22, .ref a2, .ref b23, .ref a1, v24, v25])), (a1, .inr (2, [v26, v27, v28])), (a2, .inl (cT 3, 8, .inr (.inr (.inr (.inr f29))))), (a3, .inr (2, [.ref a4, .int 1, v32])), (a4, .inl (cT 2, 4096, .inr (.inl f33)))] s.heap.size = A at hD hZ ⊢
  have hA : ∀ q : Nat, s.heap.size ≤ q → A q := fun q h => by rw [← hAe]; exact Or.inr h
  have hS : va_S A s.heap s.heap [] := va_S.rf
  have hP : va_P D xcl [(a0, .inr (0, [v20, v21, v22, .ref a2, .ref b23, .ref a1, v24, v25])), (a1, .inr (2, [v26, v27, v28])), (a2, .inl (cT 3, 8, .inr (.inr (.inr (.inr f29))))), (a3, .inr (2, [.ref a4, .int 1, v32])), (a4, .inl (cT 2, 4096, .inr (.inl f33)))] s.heap := hP
  have hl := lv_entry ([.ref a0, .int x5, .int 0, .int x10, .int x15]) (n := 5) (Nat.le_of_ble_eq_true rfl)
  rw [lg_entry_eq]
  generalize (lg_sl ([.ref a0, .int x5, .int 0, .int x10, .int x15]) ++ List.replicate (5 - (lg_sl ([.ref a0, .int x5, .int 0, .int x10, .int x15])).length) Slot.unset).toArray = ls at hl ⊢
  have hl : lv_has ls 5 [(0, .ref a0), (1, .int x5), (2, .int 0), (3, .int x10), (4, .int x15)] := hl
  refine lv_iload_n hx hb dB_sort_0 rfl (lv_at hl 1 rfl) ?_
  obtain ⟨hPc, hDc, hFc⟩ := xcut (wc := []) hP hD hS hA [] rfl rfl (by decide)
  refine va_calli (va_runS (As := [.int x5]) (rest := []) ⟨hx, hb, hml, hown, htx⟩ (cB_isRegister_0 l hl9 D cT aK aV s.heap.size x5 h6 h7 h8 h9) ⟨callB_of 1 htx (xw_goodC kw_2_18) rfl rfl rfl (htx _ kw_1_1) (htx _ kw_2_16) ⟨by decide, by decide, by decide +kernel⟩ ⟨Nat.le_of_ble_eq_true rfl, Nat.le_of_ble_eq_true rfl⟩, htx _ kw_2_17⟩ ⟨xPre_blind, (fun U hU hW => ⟨rfl, xPre_of hZ hS hFc hPc hDc hK U hU hW⟩)⟩ rfl rfl hl.1 rfl (lv_room (Nat.le_of_ble_eq_true rfl)) dB_sort_1 ⟨Nat.le_of_ble_eq_true rfl, Nat.le_of_ble_eq_true rfl⟩) hS (fun q _ h => hFc q h) hFc (fun r1 u9 t H1 locs ht hvm hr9 hB hz1 hk1 hS => ?_)
  obtain ⟨hP1, hK1, hD1⟩ := hB
  rw [ht] at hP1
  obtain ⟨hP, hD⟩ := xjoin (W := [(a0, .inr (0, [v20, v21, v22, .ref a2, .ref b23, .ref a1, v24, v25])), (a1, .inr (2, [v26, v27, v28])), (a2, .inl (cT 3, 8, .inr (.inr (.inr (.inr f29))))), (a3, .inr (2, [.ref a4, .int 1, v32])), (a4, .inl (cT 2, 4096, .inr (.inl f33)))]) hP hD [] [0, 1, 2, 3, 4] 5 rfl rfl (by decide) (by decide) hk1 hFc hP1 hD1
  generalize H1 = H at hP hS ⊢
  rw [hr9]
  refine W.eq (g2 := F0 m 4 ls [.int 1]) rfl ?_
  refine lv_if_eq (tgt := 34) hx hb dB_sort_4 (by decide) (fun h => ((by revert h; decide : False)).elim) (fun _ => ?_)
  refine lv_iload_n hx hb dB_sort_7 rfl (lv_at hl 2 rfl) ?_
  refine lv_iconst (v := 4) hx hb dB_sort_8 (by decide) ?_
  obtain ⟨hPc, hDc, hFc⟩ := xcut (wc := []) hP hD hS hA [] rfl rfl (by decide)
  refine va_calli (va_runS (As := [.int 0, .int 4]) (rest := []) ⟨hx, hb, hml, hown, htx⟩ (cB_isWithin_24 l hl9 D cT aK aV H.size) ⟨callB_of 2 htx (xw_goodC kw_1_218) rfl rfl rfl (htx _ kw_1_1) (htx _ kw_1_216) ⟨by decide, by decide, by decide +kernel⟩ ⟨Nat.le_of_ble_eq_true rfl, Nat.le_of_ble_eq_true rfl⟩, htx _ kw_1_217⟩ ⟨xPre_blind, (fun U hU hW => ⟨rfl, xPre_of hZ hS hFc hPc hDc hK U hU hW⟩)⟩ rfl rfl hl.1 rfl (lv_room (Nat.le_of_ble_eq_true rfl)) dB_sort_9 ⟨Nat.le_of_ble_eq_true rfl, Nat.le_of_ble_eq_true rfl⟩) hS (fun q _ h => hFc q h) hFc (fun r2 u9 t H1 locs ht hvm hr9 hB hz1 hk1 hS => ?_)
  obtain ⟨hP1, hK1, hD1⟩ := hB
  rw [ht] at hP1
  obtain ⟨hP, hD⟩ := xjoin (W := [(a0, .inr (0, [v20, v21, v22, .ref a2, .ref b23, .ref a1, v24, v25])), (a1, .inr (2, [v26, v27, v28])), (a2, .inl (cT 3, 8, .inr (.inr (.inr (.inr f29))))), (a3, .inr (2, [.ref a4, .int 1, v32])), (a4, .inl (cT 2, 4096, .inr (.inl f33)))]) hP hD [] [0, 1, 2, 3, 4] 5 rfl rfl (by decide) (by decide) hk1 hFc hP1 hD1
  generalize H1 = H at hP hS ⊢
  rw [hr9]
  refine W.eq (g2 := F0 m 12 ls [.int 1]) rfl ?_
  refine lv_if_eq (tgt := 34) hx hb dB_sort_12 (by decide) (fun h => ((by revert h; decide : False)).elim) (fun _ => ?_)
  refine lv_iload_n hx hb dB_sort_15 rfl (lv_at hl 3 rfl) ?_
  obtain ⟨hPc, hDc, hFc⟩ := xcut (wc := []) hP hD hS hA [] rfl rfl (by decide)
  refine va_calli (va_runS (As := [.int x10]) (rest := []) ⟨hx, hb, hml, hown, htx⟩ (cB_isRegister_0 l hl9 D cT aK aV H.size x10 h11 h12 h13 h14) ⟨callB_of 1 htx (xw_goodC kw_2_18) rfl rfl rfl (htx _ kw_1_1) (htx _ kw_2_16) ⟨by decide, by decide, by decide +kernel⟩ ⟨Nat.le_of_ble_eq_true rfl, Nat.le_of_ble_eq_true rfl⟩, htx _ kw_2_17⟩ ⟨xPre_blind, (fun U hU hW => ⟨rfl, xPre_of hZ hS hFc hPc hDc hK U hU hW⟩)⟩ rfl rfl hl.1 rfl (lv_room (Nat.le_of_ble_eq_true rfl)) dB_sort_16 ⟨Nat.le_of_ble_eq_true rfl, Nat.le_of_ble_eq_true rfl⟩) hS (fun q _ h => hFc q h) hFc (fun r3 u9 t H1 locs ht hvm hr9 hB hz1 hk1 hS => ?_)
  obtain ⟨hP1, hK1, hD1⟩ := hB
  rw [ht] at hP1
  obtain ⟨hP, hD⟩ := xjoin (W := [(a0, .inr (0, [v20, v21, v22, .ref a2, .ref b23, .ref a1, v24, v25])), (a1, .inr (2, [v26, v27, v28])), (a2, .inl (cT 3, 8, .inr (.inr (.inr (.inr f29))))), (a3, .inr (2, [.ref a4, .int 1, v32])), (a4, .inl (cT 2, 4096, .inr (.inl f33)))]) hP hD [] [0, 1, 2, 3, 4] 5 rfl rfl (by decide) (by decide) hk1 hFc hP1 hD1
  generalize H1 = H at hP hS ⊢
  rw [hr9]
  refine W.eq (g2 := F0 m 19 ls [.int 1]) rfl ?_
  refine lv_if_eq (tgt := 34) hx hb dB_sort_19 (by decide) (fun h => ((by revert h; decide : False)).elim) (fun _ => ?_)
  refine lv_iload hx hb dB_sort_22 (lv_at hl 4 rfl) ?_
  obtain ⟨hPc, hDc, hFc⟩ := xcut (wc := []) hP hD hS hA [] rfl rfl (by decide)
  refine va_calli (va_runS (As := [.int x15]) (rest := []) ⟨hx, hb, hml, hown, htx⟩ (cB_isRegister_0 l hl9 D cT aK aV H.size x15 h16 h17 h18 h19) ⟨callB_of 1 htx (xw_goodC kw_2_18) rfl rfl rfl (htx _ kw_1_1) (htx _ kw_2_16) ⟨by decide, by decide, by decide +kernel⟩ ⟨Nat.le_of_ble_eq_true rfl, Nat.le_of_ble_eq_true rfl⟩, htx _ kw_2_17⟩ ⟨xPre_blind, (fun U hU hW => ⟨rfl, xPre_of hZ hS hFc hPc hDc hK U hU hW⟩)⟩ rfl rfl hl.1 rfl (lv_room (Nat.le_of_ble_eq_true rfl)) dB_sort_24 ⟨Nat.le_of_ble_eq_true rfl, Nat.le_of_ble_eq_true rfl⟩) hS (fun q _ h => hFc q h) hFc (fun r4 u9 t H1 locs ht hvm hr9 hB hz1 hk1 hS => ?_)
  obtain ⟨hP1, hK1, hD1⟩ := hB
  rw [ht] at hP1
  obtain ⟨hP, hD⟩ := xjoin (W := [(a0, .inr (0, [v20, v21, v22, .ref a2, .ref b23, .ref a1, v24, v25])), (a1, .inr (2, [v26, v27, v28])), (a2, .inl (cT 3, 8, .inr (.inr (.inr (.inr f29))))), (a3, .inr (2, [.ref a4, .int 1, v32])), (a4, .inl (cT 2, 4096, .inr (.inl f33)))]) hP hD [] [0, 1, 2, 3, 4] 5 rfl rfl (by decide) (by decide) hk1 hFc hP1 hD1
  generalize H1 = H at hP hS ⊢
  rw [hr9]
  refine W.eq (g2 := F0 m 27 ls [.int 1]) rfl ?_
  refine lv_if_eq (tgt := 34) hx hb dB_sort_27 (by decide) (fun h => ((by revert h; decide : False)).elim) (fun _ => ?_)
  refine lv_iconst (v := 1) hx hb dB_sort_30 (by decide) ?_
  refine lv_goto (tgt := 35) hx hb dB_sort_31 (by decide) ?_
  obtain ⟨hPc, hDc, hFc⟩ := xcut (wc := []) hP hD hS hA [] rfl rfl (by decide)
  refine va_callv (va_runS (As := [.int 1]) (rest := []) ⟨hx, hb, hml, hown, htx⟩ (cB_demand_0 l hl9 D cT aK aV H.size) ⟨callB_of 1 htx (xw_goodC kw_1_221) rfl rfl rfl (htx _ kw_1_1) (htx _ kw_1_219) ⟨by decide, by decide, by decide +kernel⟩ ⟨Nat.le_of_ble_eq_true rfl, Nat.le_of_ble_eq_true rfl⟩, htx _ kw_1_220⟩ ⟨xPre_blind, (fun U hU hW => ⟨rfl, xPre_of hZ hS hFc hPc hDc hK U hU hW⟩)⟩ rfl rfl hl.1 rfl (lv_room (Nat.le_of_ble_eq_true rfl)) dB_sort_35 ⟨Nat.le_of_ble_eq_true rfl, Nat.le_of_ble_eq_true rfl⟩) hS (fun q _ h => hFc q h) hFc (fun u9 t H1 locs ht hvm hr9 hB hz1 hk1 hS => ?_)
  obtain ⟨hP1, hK1, hD1⟩ := hB
  rw [ht] at hP1
  obtain ⟨hP, hD⟩ := xjoin (W := [(a0, .inr (0, [v20, v21, v22, .ref a2, .ref b23, .ref a1, v24, v25])), (a1, .inr (2, [v26, v27, v28])), (a2, .inl (cT 3, 8, .inr (.inr (.inr (.inr f29))))), (a3, .inr (2, [.ref a4, .int 1, v32])), (a4, .inl (cT 2, 4096, .inr (.inl f33)))]) hP hD [] [0, 1, 2, 3, 4] 5 rfl rfl (by decide) (by decide) hk1 hFc hP1 hD1
  generalize H1 = H at hP hS ⊢
  refine lv_aload_n hx hb dB_sort_38 rfl (lv_at hl 0 rfl) ?_
  refine va_get (D := D) (ci := 0) (v := .ref a1) (C := "ValueBench") (T := TB) (N := 8) hx hb htx inB hown hK hP 0 rfl rfl 5 (by decide) (htx _ kw_1_100) (fun _ h9 => h9) rfl dB_sort_39 ?_
  obtain ⟨hPc, hDc, hFc⟩ := xcut (wc := [(a1, .inr (2, [v26, v27, v28]))]) hP hD hS hA [1] rfl rfl (by decide)
  refine va_callv (va_runV (C := "ValueBench$Row") (As := []) (rest := []) ⟨hx, hb, hml, hown, htx⟩ (cR_clear_0 l hl9 D cT aK aV H.size a1 v26 v27 v28) ⟨callB_of 0 htx (xw_goodC kw_2_22) rfl rfl rfl (htx _ kw_1_4) (htx _ kw_2_19) ⟨by decide, by decide, by decide +kernel⟩ ⟨Nat.le_of_ble_eq_true rfl, Nat.le_of_ble_eq_true rfl⟩, (htx _ kw_2_20), (htx _ kw_2_21)⟩ ⟨xPre_blind, va_recv hK hP (ci := 2) rfl (q0 := 1) rfl, (fun U hU hW => ⟨rfl, xPre_of hZ hS hFc hPc hDc hK U hU hW⟩)⟩ rfl rfl hl.1 rfl (lv_room (Nat.le_of_ble_eq_true rfl)) dB_sort_42 ⟨Nat.le_of_ble_eq_true rfl, Nat.le_of_ble_eq_true rfl⟩) hS (fun q _ h => hFc q h) hFc (fun u9 t H1 locs ht hvm hr9 hB hz1 hk1 hS => ?_)
  obtain ⟨hP1, hK1, hD1⟩ := hB
  rw [ht] at hP1
  obtain ⟨hP, hD⟩ := xjoin (W := [(a0, .inr (0, [v20, v21, v22, .ref a2, .ref b23, .ref a1, v24, v25])), (a2, .inl (cT 3, 8, .inr (.inr (.inr (.inr f29))))), (a3, .inr (2, [.ref a4, .int 1, v32])), (a4, .inl (cT 2, 4096, .inr (.inl f33))), (a1, .inr (2, [v26, .int 0, .int 0]))]) hP hD [1] [0, 2, 3, 4] 4 rfl rfl (by decide) (by decide) hk1 hFc hP1 hD1
  generalize H1 = H at hP hS ⊢
  refine lv_aload_n hx hb dB_sort_45 rfl (lv_at hl 0 rfl) ?_
  refine lv_iload_n hx hb dB_sort_46 rfl (lv_at hl 2 rfl) ?_
  refine lv_aload_n hx hb dB_sort_47 rfl (lv_at hl 0 rfl) ?_
  refine va_get (D := D) (ci := 0) (v := .ref a2) (C := "ValueBench") (T := TB) (N := 8) hx hb htx inB hown hK hP 0 rfl rfl 3 (by decide) (htx _ kw_1_98) (fun _ h9 => h9) rfl dB_sort_48 ?_
  refine lv_iload_n hx hb dB_sort_51 rfl (lv_at hl 3 rfl) ?_
  refine va_aldq hx hb hK hP 1 3 rfl rfl h14 dB_sort_52 ?_
  refine W.eq (g2 := F0 m 53 ls [va_rf (f29 x10.toNatClampNeg), .int 0, .ref a0]) rfl ?_
  rw [h30]
  refine W.eq (g2 := F0 m 53 ls [.ref a3, .int 0, .ref a0]) rfl ?_
  refine lv_aload_n hx hb dB_sort_53 rfl (lv_at hl 0 rfl) ?_
  refine va_get (D := D) (ci := 0) (v := .ref a2) (C := "ValueBench") (T := TB) (N := 8) hx hb htx inB hown hK hP 0 rfl rfl 3 (by decide) (htx _ kw_1_98) (fun _ h9 => h9) rfl dB_sort_54 ?_
  refine lv_iload hx hb dB_sort_57 (lv_at hl 4 rfl) ?_
  refine va_aldq hx hb hK hP 1 3 rfl rfl h19 dB_sort_59 ?_
  refine W.eq (g2 := F0 m 60 ls [va_rf (f29 x15.toNatClampNeg), .ref a3, .int 0, .ref a0]) rfl ?_
  rw [h31]
  refine W.eq (g2 := F0 m 60 ls [.ref a3, .ref a3, .int 0, .ref a0]) rfl ?_
  refine lv_aload_n hx hb dB_sort_60 rfl (lv_at hl 0 rfl) ?_
  refine va_get (D := D) (ci := 0) (v := .ref b23) (C := "ValueBench") (T := TB) (N := 8) hx hb htx inB hown hK hP 0 rfl rfl 4 (by decide) (htx _ kw_1_99) (fun _ h9 => h9) rfl dB_sort_61 ?_
  refine lv_aload_n hx hb dB_sort_64 rfl (lv_at hl 0 rfl) ?_
  refine va_get (D := D) (ci := 0) (v := .ref a1) (C := "ValueBench") (T := TB) (N := 8) hx hb htx inB hown hK hP 0 rfl rfl 5 (by decide) (htx _ kw_1_100) (fun _ h9 => h9) rfl dB_sort_65 ?_
  obtain ⟨hPc, hDc, hFc⟩ := xcut (wc := [(a3, .inr (2, [.ref a4, .int 1, v32])), (a4, .inl (cT 2, 4096, .inr (.inl f33)))]) hP hD hS hA [2, 3] rfl rfl (by decide)
  refine va_calli (va_runS (As := [.int 0, .ref a3, .ref a3, .ref b23, .ref a1]) (rest := [.ref a0]) ⟨hx, hb, hml, hown, htx⟩ (cK_apply_1 l hl9 D cT aK aV H.size a3 a4 0 b23 a1 v32 f33 (by first | rfl | exact h30 | exact h31 | exact h34)) ⟨callB_of 5 htx (xw_goodC kw_5_21) rfl rfl rfl (htx _ kw_1_28) (htx _ kw_5_19) ⟨by decide, by decide, by decide +kernel⟩ ⟨Nat.le_of_ble_eq_true rfl, Nat.le_of_ble_eq_true rfl⟩, htx _ kw_5_20⟩ ⟨xPre_blind, (fun U hU hW => ⟨rfl, xPre_of hZ hS hFc hPc hDc hK U hU hW⟩)⟩ rfl rfl hl.1 rfl (lv_room (Nat.le_of_ble_eq_true rfl)) dB_sort_68 ⟨Nat.le_of_ble_eq_true rfl, Nat.le_of_ble_eq_true rfl⟩) hS (fun q _ h => hFc q h) hFc (fun r5 u9 t H1 locs ht hvm hr9 hB hz1 hk1 hS => ?_)
  obtain ⟨hP1, hK1, hD1⟩ := hB
  rw [ht] at hP1
  obtain ⟨hP, hD⟩ := xjoin (W := [(a0, .inr (0, [v20, v21, v22, .ref a2, .ref b23, .ref a1, v24, v25])), (a2, .inl (cT 3, 8, .inr (.inr (.inr (.inr f29))))), (a1, .inr (2, [v26, .int 0, .int 0])), (a3, .inr (2, [.ref a4, .int 1, v32])), (a4, .inl (cT 2, 4096, .inr (.inl f33)))]) hP hD [2, 3] [0, 1, 4] 3 rfl rfl (by decide) (by decide) hk1 hFc hP1 hD1
  generalize H1 = H at hP hS ⊢
  rw [hr9]
  refine W.eq (g2 := F0 m 71 ls [.int 1, .ref a0]) rfl ?_
  obtain ⟨hPc, hDc, hFc⟩ := xcut (wc := [(a0, .inr (0, [v20, v21, v22, .ref a2, .ref b23, .ref a1, v24, v25]))]) hP hD hS hA [0] rfl rfl (by decide)
  refine xx_thr (vx_runV (C := "ValueBench") (As := [.int 1]) (rest := []) ⟨hx, hb, hml, hown, htx⟩ (cB_demandDone_1 l hl9 D cT aK aV H.size a0 v20 v21 v22 (.ref a2) (.ref b23) (.ref a1) v24 v25) ⟨callB_of 1 htx (xw_goodC kw_3_222) rfl rfl rfl (htx _ kw_1_1) (htx _ kw_3_219) ⟨by decide, by decide, by decide +kernel⟩ ⟨Nat.le_of_ble_eq_true rfl, Nat.le_of_ble_eq_true rfl⟩, (htx _ kw_3_221), (htx _ kp_B_demandDone)⟩ ⟨xPre_blind, va_recv hK hP (ci := 0) rfl (q0 := 0) rfl, (fun U hU hW => ⟨rfl, xPre_of hZ hS hFc hPc hDc hK U hU hW⟩)⟩ rfl rfl hl.1 rfl (lv_room (Nat.le_of_ble_eq_true rfl)) dB_sort_71 ⟨Nat.le_of_ble_eq_true rfl, Nat.le_of_ble_eq_true rfl⟩) hS hFc (fun q _ h => hFc q h) (fun E ce q9 u9 t H1 locs ht hvm _ hB hz1 hk1 hS hce hcv hcl => ?_)
  obtain ⟨rfl, hP1, hK1, hD1⟩ := hB
  rw [ht] at hP1
  obtain ⟨hP, hD⟩ := xjoin (W := [(a2, .inl (cT 3, 8, .inr (.inr (.inr (.inr f29))))), (a1, .inr (2, [v26, .int 0, .int 0])), (a3, .inr (2, [.ref a4, .int 1, v32])), (a4, .inl (cT 2, 4096, .inr (.inl f33))), (a0, .inr (0, [v20, v21, v22, .ref a2, .ref b23, .ref a1, v24, .int 1]))]) hP hD [0] [1, 2, 3, 4] 4 rfl rfl (by decide) (by decide) hk1 hFc hP1 hD1
  generalize H1 = H at hP hS hce ⊢
  obtain ⟨hP9, hD9⟩ := xsub (wc := [(a0, .inr (0, [v20, v21, v22, .ref a2, .ref b23, .ref a1, v24, .int 1])), (a1, .inr (2, [v26, .int 0, .int 0])), (a2, .inl (cT 3, 8, .inr (.inr (.inr (.inr f29))))), (a3, .inr (2, [.ref a4, .int 1, v32])), (a4, .inl (cT 2, 4096, .inr (.inl f33)))]) hP hD [4, 1, 0, 2, 3] rfl rfl (by decide)
  exact vx_out (E := "java/lang/ArithmeticException") (fun x h => (hne x h).elim) hlocks hce hcv hcl (fun t ht ha => ⟨(), trivial, ⟨rfl, by rw [ht]; exact hP9, va_K.moved ha hK, hD9⟩, hS.F ht⟩) hS.2.2 (Nat.le_of_ble_eq_true rfl) (Nat.le_of_ble_eq_true rfl)
set_option maxHeartbeats 400000000 in
set_option maxRecDepth 100000 in
theorem cL_sort_1 (l : Launch) (hl9 : l.stackTraces = false) (D : va_G) (cT : Nat → ClassId) (aK aV : Nat → Nat) (sz : Nat) (a0 : Nat) (a1 : Nat) (a2 : Nat) (a3 : Nat) (a4 : Nat) (x5 : Int32) (x10 : Int32) (x15 : Int32) (v20 : Value) (v21 : Value) (v22 : Value) (b23 : Nat) (v24 : Value) (v25 : Value) (v26 : Value) (v27 : Value) (v28 : Value) (f29 : Nat → Option Nat) (v32 : Value) (f33 : Nat → Int64) (h6 : ¬ x5 < 0) (h7 : ¬ 7 < x5) (h8 : x5 ≤ 7) (h9 : vp_in x5 8) (h11 : ¬ x10 < 0) (h12 : ¬ 7 < x10) (h13 : x10 ≤ 7) (h14 : vp_in x10 8) (h16 : ¬ x15 < 0) (h17 : ¬ 7 < x15) (h18 : x15 ≤ 7) (h19 : vp_in x15 8) (h30 : f29 x10.toNatClampNeg = some a3) (h31 : f29 x15.toNatClampNeg = some a3) (h34 : f33 0 = 0) : xMet l yL_sort wyL_sort 8 1 6 145 D cT aK aV sz [.ref a0, .int x5, .int 0, .int x10, .int x15] [(a0, .inr (0, [v20, v21, v22, .ref a2, .ref b23, .ref a1, v24, v25])), (a1, .inr (2, [v26, v27, v28])), (a2, .inl (cT 3, 8, .inr (.inr (.inr (.inr f29))))), (a3, .inr (2, [.ref a4, .int 1, v32])), (a4, .inl (cT 2, 4096, .inr (.inl f33)))] (fun A => va_Qi (fun (r : Int32) (_ : Unit) => r = 2) (fun _ t => xB D xcl cT A [(a0, .inr (0, [v20, v21, v22, .ref a2, .ref b23, .ref a1, v24, .int 1])), (a1, .inr (2, [v26, .int 0, .int 0])), (a2, .inl (cT 3, 8, .inr (.inr (.inr (.inr f29))))), (a3, .inr (2, [.ref a4, .int 1, v32])), (a4, .inl (cT 2, 4096, .inr (.inl f33)))] t) A) := by
  refine va_MetW (cc := method_12_code) (maxL := 6) (ret := (some .int)) (hh := [(0, 9, 12, 19), (0, 9, 16, 33), (0, 9, 20, 13)]) (by decide) rfl ?_
  intro p e s m args below meth c s₁ B hml hv
  obtain ⟨rfl, hsz, hZ, hP, hK, hD0⟩ := hv
  have hx := B.exec
  have hb := B.bytes
  have hr := B.returns
  have hts := atoms_spec (ws := wyL_sort) B.pre
  have htx := fun w h => hts w (List.mem_cons_of_mem _ h)
  have hown : s.vm.findClass "ValueBenchLaw" = some m.cls := findClass_of_methodNamed B.named
  have hlocks := B.notSynchronized
  subst hsz
  have hD := hD0.self (sz := s.heap.size)
  generalize hAe : va_A [(a0, .inr (0, [v20, v21, v22, .ref a2, .ref b23, .ref a1, v24, v25])), (a1, .inr (2, [v26, v27, v28])), (a2, .inl (cT 3, 8, .inr (.inr (.inr (.inr f29))))), (a3, .inr (2, [.ref a4, .int 1, v32])), (a4, .inl (cT 2, 4096, .inr (.inl f33)))] s.heap.size = A at hD hZ ⊢
  have hA : ∀ q : Nat, s.heap.size ≤ q → A q := fun q h => by rw [← hAe]; exact Or.inr h
  have hS : va_S A s.heap s.heap [] := va_S.rf
  have hP : va_P D xcl [(a0, .inr (0, [v20, v21, v22, .ref a2, .ref b23, .ref a1, v24, v25])), (a1, .inr (2, [v26, v27, v28])), (a2, .inl (cT 3, 8, .inr (.inr (.inr (.inr f29))))), (a3, .inr (2, [.ref a4, .int 1, v32])), (a4, .inl (cT 2, 4096, .inr (.inl f33)))] s.heap := hP
  have hl := lv_entry ([.ref a0, .int x5, .int 0, .int x10, .int x15]) (n := 6) (Nat.le_of_ble_eq_true rfl)
  rw [lg_entry_eq]
  generalize (lg_sl ([.ref a0, .int x5, .int 0, .int x10, .int x15]) ++ List.replicate (6 - (lg_sl ([.ref a0, .int x5, .int 0, .int x10, .int x15])).length) Slot.unset).toArray = ls at hl ⊢
  have hl : lv_has ls 6 [(0, .ref a0), (1, .int x5), (2, .int 0), (3, .int x10), (4, .int x15)] := hl
  have htab := vx_table (x := yL_sort) B (hts _ List.mem_cons_self)
  refine lv_aload_n hx hb dL_sort_0 rfl (lv_at hl 0 rfl) ?_
  refine lv_iload_n hx hb dL_sort_1 rfl (lv_at hl 1 rfl) ?_
  refine lv_iload_n hx hb dL_sort_2 rfl (lv_at hl 2 rfl) ?_
  refine lv_iload_n hx hb dL_sort_3 rfl (lv_at hl 3 rfl) ?_
  refine lv_iload hx hb dL_sort_4 (lv_at hl 4 rfl) ?_
  obtain ⟨hPc, hDc, hFc⟩ := xcut (wc := [(a0, .inr (0, [v20, v21, v22, .ref a2, .ref b23, .ref a1, v24, v25])), (a1, .inr (2, [v26, v27, v28])), (a2, .inl (cT 3, 8, .inr (.inr (.inr (.inr f29))))), (a3, .inr (2, [.ref a4, .int 1, v32])), (a4, .inl (cT 2, 4096, .inr (.inl f33)))]) hP hD hS hA [0, 1, 2, 3, 4] rfl rfl (by decide)
  refine xx_thr (vx_runV (C := "ValueBench") (As := [.int x5, .int 0, .int x10, .int x15]) (rest := []) ⟨hx, hb, hml, hown, htx⟩ (cB_sort_1 l hl9 D cT aK aV s.heap.size a0 a1 a2 a3 a4 x5 x10 x15 v20 v21 v22 b23 v24 v25 v26 v27 v28 f29 v32 f33 h6 h7 h8 h9 h11 h12 h13 h14 h16 h17 h18 h19 (by first | rfl | exact h30 | exact h31 | exact h34) (by first | rfl | exact h30 | exact h31 | exact h34) (by first | rfl | exact h30 | exact h31 | exact h34)) ⟨callB_of 4 htx (xw_goodC kw_5_18) rfl rfl rfl (htx _ kw_1_1) (htx _ kw_5_15) ⟨by decide, by decide, by decide +kernel⟩ ⟨Nat.le_of_ble_eq_true rfl, Nat.le_of_ble_eq_true rfl⟩, (htx _ kw_5_16), (htx _ kw_5_17)⟩ ⟨xPre_blind, va_recv hK hP (ci := 0) rfl (q0 := 0) rfl, (fun U hU hW => ⟨rfl, xPre_of hZ hS hFc hPc hDc hK U hU hW⟩)⟩ rfl rfl hl.1 rfl (lv_room (Nat.le_of_ble_eq_true rfl)) dL_sort_6 ⟨Nat.le_of_ble_eq_true rfl, Nat.le_of_ble_eq_true rfl⟩) hS hFc (fun q _ h => hFc q h) (fun E ce q9 u9 t H1 locs ht hvm _ hB hz1 hk1 hS hce hcv hcl => ?_)
  obtain ⟨rfl, hP1, hK1, hD1⟩ := hB
  rw [ht] at hP1
  obtain ⟨hP, hD⟩ := xjoin (W := [(a0, .inr (0, [v20, v21, v22, .ref a2, .ref b23, .ref a1, v24, .int 1])), (a1, .inr (2, [v26, .int 0, .int 0])), (a2, .inl (cT 3, 8, .inr (.inr (.inr (.inr f29))))), (a3, .inr (2, [.ref a4, .int 1, v32])), (a4, .inl (cT 2, 4096, .inr (.inl f33)))]) hP hD [0, 1, 2, 3, 4] [] 0 rfl rfl (by decide) (by decide) hk1 hFc hP1 hD1
  generalize H1 = H at hP hS hce ⊢
  refine vx_catch (own := "ValueBenchLaw") (name := "java/lang/ArithmeticException") (E := "java/lang/ArithmeticException") hown [⟨0, 9, 12, 19⟩] ⟨0, 9, 16, 33⟩ [⟨0, 9, 20, 13⟩] (by rw [htab]; rfl) (by intro z hz; rcases List.mem_cons.mp hz with rfl | hz; (exact Or.inr ⟨by decide, "java/lang/IllegalArgumentException", htx _ kw_1_211, hZ.2.2.2.2.2.2.2.1 _ (List.mem_of_getElem? (i := 10) rfl)⟩); cases hz) (by decide) (by decide) (htx _ kw_3_98) ((hZ.2.2.2.2.2.1 _ (List.mem_of_getElem? (i := 3) rfl)).use rfl) hce hcv hcl ?_
  refine lv_astore (lv' := [(5, .ref q9), (0, .ref a0), (1, .int x5), (2, .int 0), (3, .int x10), (4, .int x15)]) hx hb dL_sort_16 hl (by decide) rfl (fun ls hl => ?_)
  refine lv_iconst (v := 2) hx hb dL_sort_18 (by decide) ?_
  obtain ⟨hP9, hD9⟩ := xsub (wc := [(a0, .inr (0, [v20, v21, v22, .ref a2, .ref b23, .ref a1, v24, .int 1])), (a1, .inr (2, [v26, .int 0, .int 0])), (a2, .inl (cT 3, 8, .inr (.inr (.inr (.inr f29))))), (a3, .inr (2, [.ref a4, .int 1, v32])), (a4, .inl (cT 2, 4096, .inr (.inl f33)))]) hP hD [0, 1, 2, 3, 4] rfl rfl (by decide)
  refine W.widen (k := 1) (n := 6) (Nat.le_of_ble_eq_true rfl) (Nat.le_of_ble_eq_true rfl) ?_
  exact W.iret (v := 2) hx hb hr (fun t ht hW => ⟨⟨2, (), rfl, rfl, by rw [ht]; exact hP9, va_K.moved hW.alike hK, hD9⟩, hS.F ht⟩) hS.2.2 dL_sort_19
set_option maxHeartbeats 400000000 in
set_option maxRecDepth 100000 in
theorem cB_sort_2 (l : Launch) (hl9 : l.stackTraces = false) (D : va_G) (cT : Nat → ClassId) (aK aV : Nat → Nat) (sz : Nat) (a0 : Nat) (a1 : Nat) (a2 : Nat) (a3 : Nat) (a4 : Nat) (x5 : Int32) (x10 : Int32) (x15 : Int32) (v20 : Value) (v21 : Value) (v22 : Value) (b23 : Nat) (v24 : Value) (v25 : Value) (v26 : Value) (v27 : Value) (v28 : Value) (f29 : Nat → Option Nat) (b31 : Nat) (v33 : Value) (f34 : Nat → Int64) (h6 : ¬ x5 < 0) (h7 : ¬ 7 < x5) (h8 : x5 ≤ 7) (h9 : vp_in x5 8) (h11 : ¬ x10 < 0) (h12 : ¬ 7 < x10) (h13 : x10 ≤ 7) (h14 : vp_in x10 8) (h16 : ¬ x15 < 0) (h17 : ¬ 7 < x15) (h18 : x15 ≤ 7) (h19 : vp_in x15 8) (h30 : f29 x10.toNatClampNeg = some a3) (h32 : f29 x15.toNatClampNeg = some b31) (h35 : f34 0 = 0) : xMetX l yB_sort wyB_sort 7 1 6 121 D cT aK aV sz [.ref a0, .int x5, .int 1, .int x10, .int x15] [(a0, .inr (0, [v20, v21, v22, .ref a2, .ref b23, .ref a1, v24, v25])), (a1, .inr (2, [v26, v27, v28])), (a2, .inl (cT 3, 8, .inr (.inr (.inr (.inr f29))))), (a3, .inr (2, [.ref a4, .int 1, v33])), (a4, .inl (cT 2, 4096, .inr (.inl f34)))] "java/lang/ArithmeticException" (fun A t => xB D xcl cT A [(a0, .inr (0, [v20, v21, v22, .ref a2, .ref b23, .ref a1, v24, .int 1])), (a1, .inr (2, [v26, .int 0, .int 0])), (a2, .inl (cT 3, 8, .inr (.inr (.inr (.inr f29))))), (a3, .inr (2, [.ref a4, .int 1, v33])), (a4, .inl (cT 2, 4096, .inr (.inl f34)))] t) := by
  refine vx_ofW (cc := prog_1_method_11_code) (maxL := 5) (ret := none) (by decide) rfl ?_
  intro p e s m args below meth c s₁ B hml hne hv
  obtain ⟨rfl, hsz, hZ, hP, hK, hD0⟩ := hv
  have hx := B.exec
  have hb := B.bytes
  have hr := B.returns
  have hts := atoms_spec (ws := wyB_sort) B.pre
  have htx := fun w h => hts w (List.mem_cons_of_mem _ h)
  have hown : s.vm.findClass "ValueBench" = some m.cls := findClass_of_methodNamed B.named
  have hlocks := B.notSynchronized
  subst hsz
  have hD := hD0.self (sz := s.heap.size)
  generalize hAe : va_A [(a0, .inr (0, [v20, v21, v22, .ref a2, .ref b23, .ref a1, v24, v25])), (a1, .inr (2, [v26, v27, v28])), (a2, .inl (cT 3, 8, .inr (.inr (.inr (.inr f29))))), (a3, .inr (2, [.ref a4, .int 1, v33])), (a4, .inl (cT 2, 4096, .inr (.inl f34)))] s.heap.size = A at hD hZ ⊢
  have hA : ∀ q : Nat, s.heap.size ≤ q → A q := fun q h => by rw [← hAe]; exact Or.inr h
  have hS : va_S A s.heap s.heap [] := va_S.rf
  have hP : va_P D xcl [(a0, .inr (0, [v20, v21, v22, .ref a2, .ref b23, .ref a1, v24, v25])), (a1, .inr (2, [v26, v27, v28])), (a2, .inl (cT 3, 8, .inr (.inr (.inr (.inr f29))))), (a3, .inr (2, [.ref a4, .int 1, v33])), (a4, .inl (cT 2, 4096, .inr (.inl f34)))] s.heap := hP
  have hl := lv_entry ([.ref a0, .int x5, .int 1, .int x10, .int x15]) (n := 5) (Nat.le_of_ble_eq_true rfl)
  rw [lg_entry_eq]
  generalize (lg_sl ([.ref a0, .int x5, .int 1, .int x10, .int x15]) ++ List.replicate (5 - (lg_sl ([.ref a0, .int x5, .int 1, .int x10, .int x15])).length) Slot.unset).toArray = ls at hl ⊢
  have hl : lv_has ls 5 [(0, .ref a0), (1, .int x5), (2, .int 1), (3, .int x10), (4, .int x15)] := hl
  refine lv_iload_n hx hb dB_sort_0 rfl (lv_at hl 1 rfl) ?_
  obtain ⟨hPc, hDc, hFc⟩ := xcut (wc := []) hP hD hS hA [] rfl rfl (by decide)
  refine va_calli (va_runS (As := [.int x5]) (rest := []) ⟨hx, hb, hml, hown, htx⟩ (cB_isRegister_0 l hl9 D cT aK aV s.heap.size x5 h6 h7 h8 h9) ⟨callB_of 1 htx (xw_goodC kw_2_18) rfl rfl rfl (htx _ kw_1_1) (htx _ kw_2_16) ⟨by decide, by decide, by decide +kernel⟩ ⟨Nat.le_of_ble_eq_true rfl, Nat.le_of_ble_eq_true rfl⟩, htx _ kw_2_17⟩ ⟨xPre_blind, (fun U hU hW => ⟨rfl, xPre_of hZ hS hFc hPc hDc hK U hU hW⟩)⟩ rfl rfl hl.1 rfl (lv_room (Nat.le_of_ble_eq_true rfl)) dB_sort_1 ⟨Nat.le_of_ble_eq_true rfl, Nat.le_of_ble_eq_true rfl⟩) hS (fun q _ h => hFc q h) hFc (fun r1 u9 t H1 locs ht hvm hr9 hB hz1 hk1 hS => ?_)
  obtain ⟨hP1, hK1, hD1⟩ := hB
  rw [ht] at hP1
  obtain ⟨hP, hD⟩ := xjoin (W := [(a0, .inr (0, [v20, v21, v22, .ref a2, .ref b23, .ref a1, v24, v25])), (a1, .inr (2, [v26, v27, v28])), (a2, .inl (cT 3, 8, .inr (.inr (.inr (.inr f29))))), (a3, .inr (2, [.ref a4, .int 1, v33])), (a4, .inl (cT 2, 4096, .inr (.inl f34)))]) hP hD [] [0, 1, 2, 3, 4] 5 rfl rfl (by decide) (by decide) hk1 hFc hP1 hD1
  generalize H1 = H at hP hS ⊢
  rw [hr9]
  refine W.eq (g2 := F0 m 4 ls [.int 1]) rfl ?_
  refine lv_if_eq (tgt := 34) hx hb dB_sort_4 (by decide) (fun h => ((by revert h; decide : False)).elim) (fun _ => ?_)
  refine lv_iload_n hx hb dB_sort_7 rfl (lv_at hl 2 rfl) ?_
  refine lv_iconst (v := 4) hx hb dB_sort_8 (by decide) ?_
  obtain ⟨hPc, hDc, hFc⟩ := xcut (wc := []) hP hD hS hA [] rfl rfl (by decide)
  refine va_calli (va_runS (As := [.int 1, .int 4]) (rest := []) ⟨hx, hb, hml, hown, htx⟩ (cB_isWithin_25 l hl9 D cT aK aV H.size) ⟨callB_of 2 htx (xw_goodC kw_1_218) rfl rfl rfl (htx _ kw_1_1) (htx _ kw_1_216) ⟨by decide, by decide, by decide +kernel⟩ ⟨Nat.le_of_ble_eq_true rfl, Nat.le_of_ble_eq_true rfl⟩, htx _ kw_1_217⟩ ⟨xPre_blind, (fun U hU hW => ⟨rfl, xPre_of hZ hS hFc hPc hDc hK U hU hW⟩)⟩ rfl rfl hl.1 rfl (lv_room (Nat.le_of_ble_eq_true rfl)) dB_sort_9 ⟨Nat.le_of_ble_eq_true rfl, Nat.le_of_ble_eq_true rfl⟩) hS (fun q _ h => hFc q h) hFc (fun r2 u9 t H1 locs ht hvm hr9 hB hz1 hk1 hS => ?_)
  obtain ⟨hP1, hK1, hD1⟩ := hB
  rw [ht] at hP1
  obtain ⟨hP, hD⟩ := xjoin (W := [(a0, .inr (0, [v20, v21, v22, .ref a2, .ref b23, .ref a1, v24, v25])), (a1, .inr (2, [v26, v27, v28])), (a2, .inl (cT 3, 8, .inr (.inr (.inr (.inr f29))))), (a3, .inr (2, [.ref a4, .int 1, v33])), (a4, .inl (cT 2, 4096, .inr (.inl f34)))]) hP hD [] [0, 1, 2, 3, 4] 5 rfl rfl (by decide) (by decide) hk1 hFc hP1 hD1
  generalize H1 = H at hP hS ⊢
  rw [hr9]
  refine W.eq (g2 := F0 m 12 ls [.int 1]) rfl ?_
  refine lv_if_eq (tgt := 34) hx hb dB_sort_12 (by decide) (fun h => ((by revert h; decide : False)).elim) (fun _ => ?_)
  refine lv_iload_n hx hb dB_sort_15 rfl (lv_at hl 3 rfl) ?_
  obtain ⟨hPc, hDc, hFc⟩ := xcut (wc := []) hP hD hS hA [] rfl rfl (by decide)
  refine va_calli (va_runS (As := [.int x10]) (rest := []) ⟨hx, hb, hml, hown, htx⟩ (cB_isRegister_0 l hl9 D cT aK aV H.size x10 h11 h12 h13 h14) ⟨callB_of 1 htx (xw_goodC kw_2_18) rfl rfl rfl (htx _ kw_1_1) (htx _ kw_2_16) ⟨by decide, by decide, by decide +kernel⟩ ⟨Nat.le_of_ble_eq_true rfl, Nat.le_of_ble_eq_true rfl⟩, htx _ kw_2_17⟩ ⟨xPre_blind, (fun U hU hW => ⟨rfl, xPre_of hZ hS hFc hPc hDc hK U hU hW⟩)⟩ rfl rfl hl.1 rfl (lv_room (Nat.le_of_ble_eq_true rfl)) dB_sort_16 ⟨Nat.le_of_ble_eq_true rfl, Nat.le_of_ble_eq_true rfl⟩) hS (fun q _ h => hFc q h) hFc (fun r3 u9 t H1 locs ht hvm hr9 hB hz1 hk1 hS => ?_)
  obtain ⟨hP1, hK1, hD1⟩ := hB
  rw [ht] at hP1
  obtain ⟨hP, hD⟩ := xjoin (W := [(a0, .inr (0, [v20, v21, v22, .ref a2, .ref b23, .ref a1, v24, v25])), (a1, .inr (2, [v26, v27, v28])), (a2, .inl (cT 3, 8, .inr (.inr (.inr (.inr f29))))), (a3, .inr (2, [.ref a4, .int 1, v33])), (a4, .inl (cT 2, 4096, .inr (.inl f34)))]) hP hD [] [0, 1, 2, 3, 4] 5 rfl rfl (by decide) (by decide) hk1 hFc hP1 hD1
  generalize H1 = H at hP hS ⊢
  rw [hr9]
  refine W.eq (g2 := F0 m 19 ls [.int 1]) rfl ?_
  refine lv_if_eq (tgt := 34) hx hb dB_sort_19 (by decide) (fun h => ((by revert h; decide : False)).elim) (fun _ => ?_)
  refine lv_iload hx hb dB_sort_22 (lv_at hl 4 rfl) ?_
  obtain ⟨hPc, hDc, hFc⟩ := xcut (wc := []) hP hD hS hA [] rfl rfl (by decide)
  refine va_calli (va_runS (As := [.int x15]) (rest := []) ⟨hx, hb, hml, hown, htx⟩ (cB_isRegister_0 l hl9 D cT aK aV H.size x15 h16 h17 h18 h19) ⟨callB_of 1 htx (xw_goodC kw_2_18) rfl rfl rfl (htx _ kw_1_1) (htx _ kw_2_16) ⟨by decide, by decide, by decide +kernel⟩ ⟨Nat.le_of_ble_eq_true rfl, Nat.le_of_ble_eq_true rfl⟩, htx _ kw_2_17⟩ ⟨xPre_blind, (fun U hU hW => ⟨rfl, xPre_of hZ hS hFc hPc hDc hK U hU hW⟩)⟩ rfl rfl hl.1 rfl (lv_room (Nat.le_of_ble_eq_true rfl)) dB_sort_24 ⟨Nat.le_of_ble_eq_true rfl, Nat.le_of_ble_eq_true rfl⟩) hS (fun q _ h => hFc q h) hFc (fun r4 u9 t H1 locs ht hvm hr9 hB hz1 hk1 hS => ?_)
  obtain ⟨hP1, hK1, hD1⟩ := hB
  rw [ht] at hP1
  obtain ⟨hP, hD⟩ := xjoin (W := [(a0, .inr (0, [v20, v21, v22, .ref a2, .ref b23, .ref a1, v24, v25])), (a1, .inr (2, [v26, v27, v28])), (a2, .inl (cT 3, 8, .inr (.inr (.inr (.inr f29))))), (a3, .inr (2, [.ref a4, .int 1, v33])), (a4, .inl (cT 2, 4096, .inr (.inl f34)))]) hP hD [] [0, 1, 2, 3, 4] 5 rfl rfl (by decide) (by decide) hk1 hFc hP1 hD1
  generalize H1 = H at hP hS ⊢
  rw [hr9]
  refine W.eq (g2 := F0 m 27 ls [.int 1]) rfl ?_
  refine lv_if_eq (tgt := 34) hx hb dB_sort_27 (by decide) (fun h => ((by revert h; decide : False)).elim) (fun _ => ?_)
  refine lv_iconst (v := 1) hx hb dB_sort_30 (by decide) ?_
  refine lv_goto (tgt := 35) hx hb dB_sort_31 (by decide) ?_
  obtain ⟨hPc, hDc, hFc⟩ := xcut (wc := []) hP hD hS hA [] rfl rfl (by decide)
  refine va_callv (va_runS (As := [.int 1]) (rest := []) ⟨hx, hb, hml, hown, htx⟩ (cB_demand_0 l hl9 D cT aK aV H.size) ⟨callB_of 1 htx (xw_goodC kw_1_221) rfl rfl rfl (htx _ kw_1_1) (htx _ kw_1_219) ⟨by decide, by decide, by decide +kernel⟩ ⟨Nat.le_of_ble_eq_true rfl, Nat.le_of_ble_eq_true rfl⟩, htx _ kw_1_220⟩ ⟨xPre_blind, (fun U hU hW => ⟨rfl, xPre_of hZ hS hFc hPc hDc hK U hU hW⟩)⟩ rfl rfl hl.1 rfl (lv_room (Nat.le_of_ble_eq_true rfl)) dB_sort_35 ⟨Nat.le_of_ble_eq_true rfl, Nat.le_of_ble_eq_true rfl⟩) hS (fun q _ h => hFc q h) hFc (fun u9 t H1 locs ht hvm hr9 hB hz1 hk1 hS => ?_)
  obtain ⟨hP1, hK1, hD1⟩ := hB
  rw [ht] at hP1
  obtain ⟨hP, hD⟩ := xjoin (W := [(a0, .inr (0, [v20, v21, v22, .ref a2, .ref b23, .ref a1, v24, v25])), (a1, .inr (2, [v26, v27, v28])), (a2, .inl (cT 3, 8, .inr (.inr (.inr (.inr f29))))), (a3, .inr (2, [.ref a4, .int 1, v33])), (a4, .inl (cT 2, 4096, .inr (.inl f34)))]) hP hD [] [0, 1, 2, 3, 4] 5 rfl rfl (by decide) (by decide) hk1 hFc hP1 hD1
  generalize H1 = H at hP hS ⊢
  refine lv_aload_n hx hb dB_sort_38 rfl (lv_at hl 0 rfl) ?_
  refine va_get (D := D) (ci := 0) (v := .ref a1) (C := "ValueBench") (T := TB) (N := 8) hx hb htx inB hown hK hP 0 rfl rfl 5 (by decide) (htx _ kw_1_100) (fun _ h9 => h9) rfl dB_sort_39 ?_
  obtain ⟨hPc, hDc, hFc⟩ := xcut (wc := [(a1, .inr (2, [v26, v27, v28]))]) hP hD hS hA [1] rfl rfl (by decide)
  refine va_callv (va_runV (C := "ValueBench$Row") (As := []) (rest := []) ⟨hx, hb, hml, hown, htx⟩ (cR_clear_0 l hl9 D cT aK aV H.size a1 v26 v27 v28) ⟨callB_of 0 htx (xw_goodC kw_2_22) rfl rfl rfl (htx _ kw_1_4) (htx _ kw_2_19) ⟨by decide, by decide, by decide +kernel⟩ ⟨Nat.le_of_ble_eq_true rfl, Nat.le_of_ble_eq_true rfl⟩, (htx _ kw_2_20), (htx _ kw_2_21)⟩ ⟨xPre_blind, va_recv hK hP (ci := 2) rfl (q0 := 1) rfl, (fun U hU hW => ⟨rfl, xPre_of hZ hS hFc hPc hDc hK U hU hW⟩)⟩ rfl rfl hl.1 rfl (lv_room (Nat.le_of_ble_eq_true rfl)) dB_sort_42 ⟨Nat.le_of_ble_eq_true rfl, Nat.le_of_ble_eq_true rfl⟩) hS (fun q _ h => hFc q h) hFc (fun u9 t H1 locs ht hvm hr9 hB hz1 hk1 hS => ?_)
  obtain ⟨hP1, hK1, hD1⟩ := hB
  rw [ht] at hP1
  obtain ⟨hP, hD⟩ := xjoin (W := [(a0, .inr (0, [v20, v21, v22, .ref a2, .ref b23, .ref a1, v24, v25])), (a2, .inl (cT 3, 8, .inr (.inr (.inr (.inr f29))))), (a3, .inr (2, [.ref a4, .int 1, v33])), (a4, .inl (cT 2, 4096, .inr (.inl f34))), (a1, .inr (2, [v26, .int 0, .int 0]))]) hP hD [1] [0, 2, 3, 4] 4 rfl rfl (by decide) (by decide) hk1 hFc hP1 hD1
  generalize H1 = H at hP hS ⊢
  refine lv_aload_n hx hb dB_sort_45 rfl (lv_at hl 0 rfl) ?_
  refine lv_iload_n hx hb dB_sort_46 rfl (lv_at hl 2 rfl) ?_
  refine lv_aload_n hx hb dB_sort_47 rfl (lv_at hl 0 rfl) ?_
  refine va_get (D := D) (ci := 0) (v := .ref a2) (C := "ValueBench") (T := TB) (N := 8) hx hb htx inB hown hK hP 0 rfl rfl 3 (by decide) (htx _ kw_1_98) (fun _ h9 => h9) rfl dB_sort_48 ?_
  refine lv_iload_n hx hb dB_sort_51 rfl (lv_at hl 3 rfl) ?_
  refine va_aldq hx hb hK hP 1 3 rfl rfl h14 dB_sort_52 ?_
  refine W.eq (g2 := F0 m 53 ls [va_rf (f29 x10.toNatClampNeg), .int 1, .ref a0]) rfl ?_
  rw [h30]
  refine W.eq (g2 := F0 m 53 ls [.ref a3, .int 1, .ref a0]) rfl ?_
  refine lv_aload_n hx hb dB_sort_53 rfl (lv_at hl 0 rfl) ?_
  refine va_get (D := D) (ci := 0) (v := .ref a2) (C := "ValueBench") (T := TB) (N := 8) hx hb htx inB hown hK hP 0 rfl rfl 3 (by decide) (htx _ kw_1_98) (fun _ h9 => h9) rfl dB_sort_54 ?_
  refine lv_iload hx hb dB_sort_57 (lv_at hl 4 rfl) ?_
  refine va_aldq hx hb hK hP 1 3 rfl rfl h19 dB_sort_59 ?_
  refine W.eq (g2 := F0 m 60 ls [va_rf (f29 x15.toNatClampNeg), .ref a3, .int 1, .ref a0]) rfl ?_
  rw [h32]
  refine W.eq (g2 := F0 m 60 ls [.ref b31, .ref a3, .int 1, .ref a0]) rfl ?_
  refine lv_aload_n hx hb dB_sort_60 rfl (lv_at hl 0 rfl) ?_
  refine va_get (D := D) (ci := 0) (v := .ref b23) (C := "ValueBench") (T := TB) (N := 8) hx hb htx inB hown hK hP 0 rfl rfl 4 (by decide) (htx _ kw_1_99) (fun _ h9 => h9) rfl dB_sort_61 ?_
  refine lv_aload_n hx hb dB_sort_64 rfl (lv_at hl 0 rfl) ?_
  refine va_get (D := D) (ci := 0) (v := .ref a1) (C := "ValueBench") (T := TB) (N := 8) hx hb htx inB hown hK hP 0 rfl rfl 5 (by decide) (htx _ kw_1_100) (fun _ h9 => h9) rfl dB_sort_65 ?_
  obtain ⟨hPc, hDc, hFc⟩ := xcut (wc := [(a3, .inr (2, [.ref a4, .int 1, v33])), (a4, .inl (cT 2, 4096, .inr (.inl f34)))]) hP hD hS hA [2, 3] rfl rfl (by decide)
  refine va_calli (va_runS (As := [.int 1, .ref a3, .ref b31, .ref b23, .ref a1]) (rest := [.ref a0]) ⟨hx, hb, hml, hown, htx⟩ (cK_apply_0 l hl9 D cT aK aV H.size a3 a4 1 b31 b23 a1 v33 f34 (by first | rfl | exact h30 | exact h32 | exact h35)) ⟨callB_of 5 htx (xw_goodC kw_5_21) rfl rfl rfl (htx _ kw_1_28) (htx _ kw_5_19) ⟨by decide, by decide, by decide +kernel⟩ ⟨Nat.le_of_ble_eq_true rfl, Nat.le_of_ble_eq_true rfl⟩, htx _ kw_5_20⟩ ⟨xPre_blind, (fun U hU hW => ⟨rfl, xPre_of hZ hS hFc hPc hDc hK U hU hW⟩)⟩ rfl rfl hl.1 rfl (lv_room (Nat.le_of_ble_eq_true rfl)) dB_sort_68 ⟨Nat.le_of_ble_eq_true rfl, Nat.le_of_ble_eq_true rfl⟩) hS (fun q _ h => hFc q h) hFc (fun r5 u9 t H1 locs ht hvm hr9 hB hz1 hk1 hS => ?_)
  obtain ⟨hP1, hK1, hD1⟩ := hB
  rw [ht] at hP1
  obtain ⟨hP, hD⟩ := xjoin (W := [(a0, .inr (0, [v20, v21, v22, .ref a2, .ref b23, .ref a1, v24, v25])), (a2, .inl (cT 3, 8, .inr (.inr (.inr (.inr f29))))), (a1, .inr (2, [v26, .int 0, .int 0])), (a3, .inr (2, [.ref a4, .int 1, v33])), (a4, .inl (cT 2, 4096, .inr (.inl f34)))]) hP hD [2, 3] [0, 1, 4] 3 rfl rfl (by decide) (by decide) hk1 hFc hP1 hD1
  generalize H1 = H at hP hS ⊢
  rw [hr9]
  refine W.eq (g2 := F0 m 71 ls [.int 1, .ref a0]) rfl ?_
  obtain ⟨hPc, hDc, hFc⟩ := xcut (wc := [(a0, .inr (0, [v20, v21, v22, .ref a2, .ref b23, .ref a1, v24, v25]))]) hP hD hS hA [0] rfl rfl (by decide)
  refine xx_thr (vx_runV (C := "ValueBench") (As := [.int 1]) (rest := []) ⟨hx, hb, hml, hown, htx⟩ (cB_demandDone_1 l hl9 D cT aK aV H.size a0 v20 v21 v22 (.ref a2) (.ref b23) (.ref a1) v24 v25) ⟨callB_of 1 htx (xw_goodC kw_3_222) rfl rfl rfl (htx _ kw_1_1) (htx _ kw_3_219) ⟨by decide, by decide, by decide +kernel⟩ ⟨Nat.le_of_ble_eq_true rfl, Nat.le_of_ble_eq_true rfl⟩, (htx _ kw_3_221), (htx _ kp_B_demandDone)⟩ ⟨xPre_blind, va_recv hK hP (ci := 0) rfl (q0 := 0) rfl, (fun U hU hW => ⟨rfl, xPre_of hZ hS hFc hPc hDc hK U hU hW⟩)⟩ rfl rfl hl.1 rfl (lv_room (Nat.le_of_ble_eq_true rfl)) dB_sort_71 ⟨Nat.le_of_ble_eq_true rfl, Nat.le_of_ble_eq_true rfl⟩) hS hFc (fun q _ h => hFc q h) (fun E ce q9 u9 t H1 locs ht hvm _ hB hz1 hk1 hS hce hcv hcl => ?_)
  obtain ⟨rfl, hP1, hK1, hD1⟩ := hB
  rw [ht] at hP1
  obtain ⟨hP, hD⟩ := xjoin (W := [(a2, .inl (cT 3, 8, .inr (.inr (.inr (.inr f29))))), (a1, .inr (2, [v26, .int 0, .int 0])), (a3, .inr (2, [.ref a4, .int 1, v33])), (a4, .inl (cT 2, 4096, .inr (.inl f34))), (a0, .inr (0, [v20, v21, v22, .ref a2, .ref b23, .ref a1, v24, .int 1]))]) hP hD [0] [1, 2, 3, 4] 4 rfl rfl (by decide) (by decide) hk1 hFc hP1 hD1
  generalize H1 = H at hP hS hce ⊢
  obtain ⟨hP9, hD9⟩ := xsub (wc := [(a0, .inr (0, [v20, v21, v22, .ref a2, .ref b23, .ref a1, v24, .int 1])), (a1, .inr (2, [v26, .int 0, .int 0])), (a2, .inl (cT 3, 8, .inr (.inr (.inr (.inr f29))))), (a3, .inr (2, [.ref a4, .int 1, v33])), (a4, .inl (cT 2, 4096, .inr (.inl f34)))]) hP hD [4, 1, 0, 2, 3] rfl rfl (by decide)
  exact vx_out (E := "java/lang/ArithmeticException") (fun x h => (hne x h).elim) hlocks hce hcv hcl (fun t ht ha => ⟨(), trivial, ⟨rfl, by rw [ht]; exact hP9, va_K.moved ha hK, hD9⟩, hS.F ht⟩) hS.2.2 (Nat.le_of_ble_eq_true rfl) (Nat.le_of_ble_eq_true rfl)
set_option maxHeartbeats 400000000 in
set_option maxRecDepth 100000 in
theorem cL_sort_2 (l : Launch) (hl9 : l.stackTraces = false) (D : va_G) (cT : Nat → ClassId) (aK aV : Nat → Nat) (sz : Nat) (a0 : Nat) (a1 : Nat) (a2 : Nat) (a3 : Nat) (a4 : Nat) (x5 : Int32) (x10 : Int32) (x15 : Int32) (v20 : Value) (v21 : Value) (v22 : Value) (b23 : Nat) (v24 : Value) (v25 : Value) (v26 : Value) (v27 : Value) (v28 : Value) (f29 : Nat → Option Nat) (b31 : Nat) (v33 : Value) (f34 : Nat → Int64) (h6 : ¬ x5 < 0) (h7 : ¬ 7 < x5) (h8 : x5 ≤ 7) (h9 : vp_in x5 8) (h11 : ¬ x10 < 0) (h12 : ¬ 7 < x10) (h13 : x10 ≤ 7) (h14 : vp_in x10 8) (h16 : ¬ x15 < 0) (h17 : ¬ 7 < x15) (h18 : x15 ≤ 7) (h19 : vp_in x15 8) (h30 : f29 x10.toNatClampNeg = some a3) (h32 : f29 x15.toNatClampNeg = some b31) (h35 : f34 0 = 0) : xMet l yL_sort wyL_sort 8 1 6 145 D cT aK aV sz [.ref a0, .int x5, .int 1, .int x10, .int x15] [(a0, .inr (0, [v20, v21, v22, .ref a2, .ref b23, .ref a1, v24, v25])), (a1, .inr (2, [v26, v27, v28])), (a2, .inl (cT 3, 8, .inr (.inr (.inr (.inr f29))))), (a3, .inr (2, [.ref a4, .int 1, v33])), (a4, .inl (cT 2, 4096, .inr (.inl f34)))] (fun A => va_Qi (fun (r : Int32) (_ : Unit) => r = 2) (fun _ t => xB D xcl cT A [(a0, .inr (0, [v20, v21, v22, .ref a2, .ref b23, .ref a1, v24, .int 1])), (a1, .inr (2, [v26, .int 0, .int 0])), (a2, .inl (cT 3, 8, .inr (.inr (.inr (.inr f29))))), (a3, .inr (2, [.ref a4, .int 1, v33])), (a4, .inl (cT 2, 4096, .inr (.inl f34)))] t) A) := by
  refine va_MetW (cc := method_12_code) (maxL := 6) (ret := (some .int)) (hh := [(0, 9, 12, 19), (0, 9, 16, 33), (0, 9, 20, 13)]) (by decide) rfl ?_
  intro p e s m args below meth c s₁ B hml hv
  obtain ⟨rfl, hsz, hZ, hP, hK, hD0⟩ := hv
  have hx := B.exec
  have hb := B.bytes
  have hr := B.returns
  have hts := atoms_spec (ws := wyL_sort) B.pre
  have htx := fun w h => hts w (List.mem_cons_of_mem _ h)
  have hown : s.vm.findClass "ValueBenchLaw" = some m.cls := findClass_of_methodNamed B.named
  have hlocks := B.notSynchronized
  subst hsz
  have hD := hD0.self (sz := s.heap.size)
  generalize hAe : va_A [(a0, .inr (0, [v20, v21, v22, .ref a2, .ref b23, .ref a1, v24, v25])), (a1, .inr (2, [v26, v27, v28])), (a2, .inl (cT 3, 8, .inr (.inr (.inr (.inr f29))))), (a3, .inr (2, [.ref a4, .int 1, v33])), (a4, .inl (cT 2, 4096, .inr (.inl f34)))] s.heap.size = A at hD hZ ⊢
  have hA : ∀ q : Nat, s.heap.size ≤ q → A q := fun q h => by rw [← hAe]; exact Or.inr h
  have hS : va_S A s.heap s.heap [] := va_S.rf
  have hP : va_P D xcl [(a0, .inr (0, [v20, v21, v22, .ref a2, .ref b23, .ref a1, v24, v25])), (a1, .inr (2, [v26, v27, v28])), (a2, .inl (cT 3, 8, .inr (.inr (.inr (.inr f29))))), (a3, .inr (2, [.ref a4, .int 1, v33])), (a4, .inl (cT 2, 4096, .inr (.inl f34)))] s.heap := hP
  have hl := lv_entry ([.ref a0, .int x5, .int 1, .int x10, .int x15]) (n := 6) (Nat.le_of_ble_eq_true rfl)
  rw [lg_entry_eq]
  generalize (lg_sl ([.ref a0, .int x5, .int 1, .int x10, .int x15]) ++ List.replicate (6 - (lg_sl ([.ref a0, .int x5, .int 1, .int x10, .int x15])).length) Slot.unset).toArray = ls at hl ⊢
  have hl : lv_has ls 6 [(0, .ref a0), (1, .int x5), (2, .int 1), (3, .int x10), (4, .int x15)] := hl
  have htab := vx_table (x := yL_sort) B (hts _ List.mem_cons_self)
  refine lv_aload_n hx hb dL_sort_0 rfl (lv_at hl 0 rfl) ?_
  refine lv_iload_n hx hb dL_sort_1 rfl (lv_at hl 1 rfl) ?_
  refine lv_iload_n hx hb dL_sort_2 rfl (lv_at hl 2 rfl) ?_
  refine lv_iload_n hx hb dL_sort_3 rfl (lv_at hl 3 rfl) ?_
  refine lv_iload hx hb dL_sort_4 (lv_at hl 4 rfl) ?_
  obtain ⟨hPc, hDc, hFc⟩ := xcut (wc := [(a0, .inr (0, [v20, v21, v22, .ref a2, .ref b23, .ref a1, v24, v25])), (a1, .inr (2, [v26, v27, v28])), (a2, .inl (cT 3, 8, .inr (.inr (.inr (.inr f29))))), (a3, .inr (2, [.ref a4, .int 1, v33])), (a4, .inl (cT 2, 4096, .inr (.inl f34)))]) hP hD hS hA [0, 1, 2, 3, 4] rfl rfl (by decide)
  refine xx_thr (vx_runV (C := "ValueBench") (As := [.int x5, .int 1, .int x10, .int x15]) (rest := []) ⟨hx, hb, hml, hown, htx⟩ (cB_sort_2 l hl9 D cT aK aV s.heap.size a0 a1 a2 a3 a4 x5 x10 x15 v20 v21 v22 b23 v24 v25 v26 v27 v28 f29 b31 v33 f34 h6 h7 h8 h9 h11 h12 h13 h14 h16 h17 h18 h19 (by first | rfl | exact h30 | exact h32 | exact h35) (by first | rfl | exact h30 | exact h32 | exact h35) (by first | rfl | exact h30 | exact h32 | exact h35)) ⟨callB_of 4 htx (xw_goodC kw_5_18) rfl rfl rfl (htx _ kw_1_1) (htx _ kw_5_15) ⟨by decide, by decide, by decide +kernel⟩ ⟨Nat.le_of_ble_eq_true rfl, Nat.le_of_ble_eq_true rfl⟩, (htx _ kw_5_16), (htx _ kw_5_17)⟩ ⟨xPre_blind, va_recv hK hP (ci := 0) rfl (q0 := 0) rfl, (fun U hU hW => ⟨rfl, xPre_of hZ hS hFc hPc hDc hK U hU hW⟩)⟩ rfl rfl hl.1 rfl (lv_room (Nat.le_of_ble_eq_true rfl)) dL_sort_6 ⟨Nat.le_of_ble_eq_true rfl, Nat.le_of_ble_eq_true rfl⟩) hS hFc (fun q _ h => hFc q h) (fun E ce q9 u9 t H1 locs ht hvm _ hB hz1 hk1 hS hce hcv hcl => ?_)
  obtain ⟨rfl, hP1, hK1, hD1⟩ := hB
  rw [ht] at hP1
  obtain ⟨hP, hD⟩ := xjoin (W := [(a0, .inr (0, [v20, v21, v22, .ref a2, .ref b23, .ref a1, v24, .int 1])), (a1, .inr (2, [v26, .int 0, .int 0])), (a2, .inl (cT 3, 8, .inr (.inr (.inr (.inr f29))))), (a3, .inr (2, [.ref a4, .int 1, v33])), (a4, .inl (cT 2, 4096, .inr (.inl f34)))]) hP hD [0, 1, 2, 3, 4] [] 0 rfl rfl (by decide) (by decide) hk1 hFc hP1 hD1
  generalize H1 = H at hP hS hce ⊢
  refine vx_catch (own := "ValueBenchLaw") (name := "java/lang/ArithmeticException") (E := "java/lang/ArithmeticException") hown [⟨0, 9, 12, 19⟩] ⟨0, 9, 16, 33⟩ [⟨0, 9, 20, 13⟩] (by rw [htab]; rfl) (by intro z hz; rcases List.mem_cons.mp hz with rfl | hz; (exact Or.inr ⟨by decide, "java/lang/IllegalArgumentException", htx _ kw_1_211, hZ.2.2.2.2.2.2.2.1 _ (List.mem_of_getElem? (i := 10) rfl)⟩); cases hz) (by decide) (by decide) (htx _ kw_3_98) ((hZ.2.2.2.2.2.1 _ (List.mem_of_getElem? (i := 3) rfl)).use rfl) hce hcv hcl ?_
  refine lv_astore (lv' := [(5, .ref q9), (0, .ref a0), (1, .int x5), (2, .int 1), (3, .int x10), (4, .int x15)]) hx hb dL_sort_16 hl (by decide) rfl (fun ls hl => ?_)
  refine lv_iconst (v := 2) hx hb dL_sort_18 (by decide) ?_
  obtain ⟨hP9, hD9⟩ := xsub (wc := [(a0, .inr (0, [v20, v21, v22, .ref a2, .ref b23, .ref a1, v24, .int 1])), (a1, .inr (2, [v26, .int 0, .int 0])), (a2, .inl (cT 3, 8, .inr (.inr (.inr (.inr f29))))), (a3, .inr (2, [.ref a4, .int 1, v33])), (a4, .inl (cT 2, 4096, .inr (.inl f34)))]) hP hD [0, 1, 2, 3, 4] rfl rfl (by decide)
  refine W.widen (k := 1) (n := 6) (Nat.le_of_ble_eq_true rfl) (Nat.le_of_ble_eq_true rfl) ?_
  exact W.iret (v := 2) hx hb hr (fun t ht hW => ⟨⟨2, (), rfl, rfl, by rw [ht]; exact hP9, va_K.moved hW.alike hK, hD9⟩, hS.F ht⟩) hS.2.2 dL_sort_19
set_option maxHeartbeats 400000000 in
set_option maxRecDepth 100000 in
theorem cB_sort_3 (l : Launch) (hl9 : l.stackTraces = false) (D : va_G) (cT : Nat → ClassId) (aK aV : Nat → Nat) (sz : Nat) (a0 : Nat) (a1 : Nat) (a2 : Nat) (a3 : Nat) (a4 : Nat) (x5 : Int32) (x10 : Int32) (x15 : Int32) (v20 : Value) (v21 : Value) (v22 : Value) (b23 : Nat) (v24 : Value) (v25 : Value) (v26 : Value) (v27 : Value) (v28 : Value) (f29 : Nat → Option Nat) (v32 : Value) (f33 : Nat → Int64) (h6 : ¬ x5 < 0) (h7 : ¬ 7 < x5) (h8 : x5 ≤ 7) (h9 : vp_in x5 8) (h11 : ¬ x10 < 0) (h12 : ¬ 7 < x10) (h13 : x10 ≤ 7) (h14 : vp_in x10 8) (h16 : ¬ x15 < 0) (h17 : ¬ 7 < x15) (h18 : x15 ≤ 7) (h19 : vp_in x15 8) (h30 : f29 x10.toNatClampNeg = some a3) (h31 : f29 x15.toNatClampNeg = some a3) (h34 : f33 0 = 0) : xMetX l yB_sort wyB_sort 7 1 6 121 D cT aK aV sz [.ref a0, .int x5, .int 1, .int x10, .int x15] [(a0, .inr (0, [v20, v21, v22, .ref a2, .ref b23, .ref a1, v24, v25])), (a1, .inr (2, [v26, v27, v28])), (a2, .inl (cT 3, 8, .inr (.inr (.inr (.inr f29))))), (a3, .inr (2, [.ref a4, .int 1, v32])), (a4, .inl (cT 2, 4096, .inr (.inl f33)))] "java/lang/ArithmeticException" (fun A t => xB D xcl cT A [(a0, .inr (0, [v20, v21, v22, .ref a2, .ref b23, .ref a1, v24, .int 1])), (a1, .inr (2, [v26, .int 0, .int 0])), (a2, .inl (cT 3, 8, .inr (.inr (.inr (.inr f29))))), (a3, .inr (2, [.ref a4, .int 1, v32])), (a4, .inl (cT 2, 4096, .inr (.inl f33)))] t) := by
  refine vx_ofW (cc := prog_1_method_11_code) (maxL := 5) (ret := none) (by decide) rfl ?_
  intro p e s m args below meth c s₁ B hml hne hv
  obtain ⟨rfl, hsz, hZ, hP, hK, hD0⟩ := hv
  have hx := B.exec
  have hb := B.bytes
  have hr := B.returns
  have hts := atoms_spec (ws := wyB_sort) B.pre
  have htx := fun w h => hts w (List.mem_cons_of_mem _ h)
  have hown : s.vm.findClass "ValueBench" = some m.cls := findClass_of_methodNamed B.named
  have hlocks := B.notSynchronized
  subst hsz
  have hD := hD0.self (sz := s.heap.size)
  generalize hAe : va_A [(a0, .inr (0, [v20, v21, v22, .ref a2, .ref b23, .ref a1, v24, v25])), (a1, .inr (2, [v26, v27, v28])), (a2, .inl (cT 3, 8, .inr (.inr (.inr (.inr f29))))), (a3, .inr (2, [.ref a4, .int 1, v32])), (a4, .inl (cT 2, 4096, .inr (.inl f33)))] s.heap.size = A at hD hZ ⊢
  have hA : ∀ q : Nat, s.heap.size ≤ q → A q := fun q h => by rw [← hAe]; exact Or.inr h
  have hS : va_S A s.heap s.heap [] := va_S.rf
  have hP : va_P D xcl [(a0, .inr (0, [v20, v21, v22, .ref a2, .ref b23, .ref a1, v24, v25])), (a1, .inr (2, [v26, v27, v28])), (a2, .inl (cT 3, 8, .inr (.inr (.inr (.inr f29))))), (a3, .inr (2, [.ref a4, .int 1, v32])), (a4, .inl (cT 2, 4096, .inr (.inl f33)))] s.heap := hP
  have hl := lv_entry ([.ref a0, .int x5, .int 1, .int x10, .int x15]) (n := 5) (Nat.le_of_ble_eq_true rfl)
  rw [lg_entry_eq]
  generalize (lg_sl ([.ref a0, .int x5, .int 1, .int x10, .int x15]) ++ List.replicate (5 - (lg_sl ([.ref a0, .int x5, .int 1, .int x10, .int x15])).length) Slot.unset).toArray = ls at hl ⊢
  have hl : lv_has ls 5 [(0, .ref a0), (1, .int x5), (2, .int 1), (3, .int x10), (4, .int x15)] := hl
  refine lv_iload_n hx hb dB_sort_0 rfl (lv_at hl 1 rfl) ?_
  obtain ⟨hPc, hDc, hFc⟩ := xcut (wc := []) hP hD hS hA [] rfl rfl (by decide)
  refine va_calli (va_runS (As := [.int x5]) (rest := []) ⟨hx, hb, hml, hown, htx⟩ (cB_isRegister_0 l hl9 D cT aK aV s.heap.size x5 h6 h7 h8 h9) ⟨callB_of 1 htx (xw_goodC kw_2_18) rfl rfl rfl (htx _ kw_1_1) (htx _ kw_2_16) ⟨by decide, by decide, by decide +kernel⟩ ⟨Nat.le_of_ble_eq_true rfl, Nat.le_of_ble_eq_true rfl⟩, htx _ kw_2_17⟩ ⟨xPre_blind, (fun U hU hW => ⟨rfl, xPre_of hZ hS hFc hPc hDc hK U hU hW⟩)⟩ rfl rfl hl.1 rfl (lv_room (Nat.le_of_ble_eq_true rfl)) dB_sort_1 ⟨Nat.le_of_ble_eq_true rfl, Nat.le_of_ble_eq_true rfl⟩) hS (fun q _ h => hFc q h) hFc (fun r1 u9 t H1 locs ht hvm hr9 hB hz1 hk1 hS => ?_)
  obtain ⟨hP1, hK1, hD1⟩ := hB
  rw [ht] at hP1
  obtain ⟨hP, hD⟩ := xjoin (W := [(a0, .inr (0, [v20, v21, v22, .ref a2, .ref b23, .ref a1, v24, v25])), (a1, .inr (2, [v26, v27, v28])), (a2, .inl (cT 3, 8, .inr (.inr (.inr (.inr f29))))), (a3, .inr (2, [.ref a4, .int 1, v32])), (a4, .inl (cT 2, 4096, .inr (.inl f33)))]) hP hD [] [0, 1, 2, 3, 4] 5 rfl rfl (by decide) (by decide) hk1 hFc hP1 hD1
  generalize H1 = H at hP hS ⊢
  rw [hr9]
  refine W.eq (g2 := F0 m 4 ls [.int 1]) rfl ?_
  refine lv_if_eq (tgt := 34) hx hb dB_sort_4 (by decide) (fun h => ((by revert h; decide : False)).elim) (fun _ => ?_)
  refine lv_iload_n hx hb dB_sort_7 rfl (lv_at hl 2 rfl) ?_
  refine lv_iconst (v := 4) hx hb dB_sort_8 (by decide) ?_
  obtain ⟨hPc, hDc, hFc⟩ := xcut (wc := []) hP hD hS hA [] rfl rfl (by decide)
  refine va_calli (va_runS (As := [.int 1, .int 4]) (rest := []) ⟨hx, hb, hml, hown, htx⟩ (cB_isWithin_25 l hl9 D cT aK aV H.size) ⟨callB_of 2 htx (xw_goodC kw_1_218) rfl rfl rfl (htx _ kw_1_1) (htx _ kw_1_216) ⟨by decide, by decide, by decide +kernel⟩ ⟨Nat.le_of_ble_eq_true rfl, Nat.le_of_ble_eq_true rfl⟩, htx _ kw_1_217⟩ ⟨xPre_blind, (fun U hU hW => ⟨rfl, xPre_of hZ hS hFc hPc hDc hK U hU hW⟩)⟩ rfl rfl hl.1 rfl (lv_room (Nat.le_of_ble_eq_true rfl)) dB_sort_9 ⟨Nat.le_of_ble_eq_true rfl, Nat.le_of_ble_eq_true rfl⟩) hS (fun q _ h => hFc q h) hFc (fun r2 u9 t H1 locs ht hvm hr9 hB hz1 hk1 hS => ?_)
  obtain ⟨hP1, hK1, hD1⟩ := hB
  rw [ht] at hP1
  obtain ⟨hP, hD⟩ := xjoin (W := [(a0, .inr (0, [v20, v21, v22, .ref a2, .ref b23, .ref a1, v24, v25])), (a1, .inr (2, [v26, v27, v28])), (a2, .inl (cT 3, 8, .inr (.inr (.inr (.inr f29))))), (a3, .inr (2, [.ref a4, .int 1, v32])), (a4, .inl (cT 2, 4096, .inr (.inl f33)))]) hP hD [] [0, 1, 2, 3, 4] 5 rfl rfl (by decide) (by decide) hk1 hFc hP1 hD1
  generalize H1 = H at hP hS ⊢
  rw [hr9]
  refine W.eq (g2 := F0 m 12 ls [.int 1]) rfl ?_
  refine lv_if_eq (tgt := 34) hx hb dB_sort_12 (by decide) (fun h => ((by revert h; decide : False)).elim) (fun _ => ?_)
  refine lv_iload_n hx hb dB_sort_15 rfl (lv_at hl 3 rfl) ?_
  obtain ⟨hPc, hDc, hFc⟩ := xcut (wc := []) hP hD hS hA [] rfl rfl (by decide)
  refine va_calli (va_runS (As := [.int x10]) (rest := []) ⟨hx, hb, hml, hown, htx⟩ (cB_isRegister_0 l hl9 D cT aK aV H.size x10 h11 h12 h13 h14) ⟨callB_of 1 htx (xw_goodC kw_2_18) rfl rfl rfl (htx _ kw_1_1) (htx _ kw_2_16) ⟨by decide, by decide, by decide +kernel⟩ ⟨Nat.le_of_ble_eq_true rfl, Nat.le_of_ble_eq_true rfl⟩, htx _ kw_2_17⟩ ⟨xPre_blind, (fun U hU hW => ⟨rfl, xPre_of hZ hS hFc hPc hDc hK U hU hW⟩)⟩ rfl rfl hl.1 rfl (lv_room (Nat.le_of_ble_eq_true rfl)) dB_sort_16 ⟨Nat.le_of_ble_eq_true rfl, Nat.le_of_ble_eq_true rfl⟩) hS (fun q _ h => hFc q h) hFc (fun r3 u9 t H1 locs ht hvm hr9 hB hz1 hk1 hS => ?_)
  obtain ⟨hP1, hK1, hD1⟩ := hB
  rw [ht] at hP1
  obtain ⟨hP, hD⟩ := xjoin (W := [(a0, .inr (0, [v20, v21, v22, .ref a2, .ref b23, .ref a1, v24, v25])), (a1, .inr (2, [v26, v27, v28])), (a2, .inl (cT 3, 8, .inr (.inr (.inr (.inr f29))))), (a3, .inr (2, [.ref a4, .int 1, v32])), (a4, .inl (cT 2, 4096, .inr (.inl f33)))]) hP hD [] [0, 1, 2, 3, 4] 5 rfl rfl (by decide) (by decide) hk1 hFc hP1 hD1
  generalize H1 = H at hP hS ⊢
  rw [hr9]
  refine W.eq (g2 := F0 m 19 ls [.int 1]) rfl ?_
  refine lv_if_eq (tgt := 34) hx hb dB_sort_19 (by decide) (fun h => ((by revert h; decide : False)).elim) (fun _ => ?_)
  refine lv_iload hx hb dB_sort_22 (lv_at hl 4 rfl) ?_
  obtain ⟨hPc, hDc, hFc⟩ := xcut (wc := []) hP hD hS hA [] rfl rfl (by decide)
  refine va_calli (va_runS (As := [.int x15]) (rest := []) ⟨hx, hb, hml, hown, htx⟩ (cB_isRegister_0 l hl9 D cT aK aV H.size x15 h16 h17 h18 h19) ⟨callB_of 1 htx (xw_goodC kw_2_18) rfl rfl rfl (htx _ kw_1_1) (htx _ kw_2_16) ⟨by decide, by decide, by decide +kernel⟩ ⟨Nat.le_of_ble_eq_true rfl, Nat.le_of_ble_eq_true rfl⟩, htx _ kw_2_17⟩ ⟨xPre_blind, (fun U hU hW => ⟨rfl, xPre_of hZ hS hFc hPc hDc hK U hU hW⟩)⟩ rfl rfl hl.1 rfl (lv_room (Nat.le_of_ble_eq_true rfl)) dB_sort_24 ⟨Nat.le_of_ble_eq_true rfl, Nat.le_of_ble_eq_true rfl⟩) hS (fun q _ h => hFc q h) hFc (fun r4 u9 t H1 locs ht hvm hr9 hB hz1 hk1 hS => ?_)
  obtain ⟨hP1, hK1, hD1⟩ := hB
  rw [ht] at hP1
  obtain ⟨hP, hD⟩ := xjoin (W := [(a0, .inr (0, [v20, v21, v22, .ref a2, .ref b23, .ref a1, v24, v25])), (a1, .inr (2, [v26, v27, v28])), (a2, .inl (cT 3, 8, .inr (.inr (.inr (.inr f29))))), (a3, .inr (2, [.ref a4, .int 1, v32])), (a4, .inl (cT 2, 4096, .inr (.inl f33)))]) hP hD [] [0, 1, 2, 3, 4] 5 rfl rfl (by decide) (by decide) hk1 hFc hP1 hD1
  generalize H1 = H at hP hS ⊢
  rw [hr9]
  refine W.eq (g2 := F0 m 27 ls [.int 1]) rfl ?_
  refine lv_if_eq (tgt := 34) hx hb dB_sort_27 (by decide) (fun h => ((by revert h; decide : False)).elim) (fun _ => ?_)
  refine lv_iconst (v := 1) hx hb dB_sort_30 (by decide) ?_
  refine lv_goto (tgt := 35) hx hb dB_sort_31 (by decide) ?_
  obtain ⟨hPc, hDc, hFc⟩ := xcut (wc := []) hP hD hS hA [] rfl rfl (by decide)
  refine va_callv (va_runS (As := [.int 1]) (rest := []) ⟨hx, hb, hml, hown, htx⟩ (cB_demand_0 l hl9 D cT aK aV H.size) ⟨callB_of 1 htx (xw_goodC kw_1_221) rfl rfl rfl (htx _ kw_1_1) (htx _ kw_1_219) ⟨by decide, by decide, by decide +kernel⟩ ⟨Nat.le_of_ble_eq_true rfl, Nat.le_of_ble_eq_true rfl⟩, htx _ kw_1_220⟩ ⟨xPre_blind, (fun U hU hW => ⟨rfl, xPre_of hZ hS hFc hPc hDc hK U hU hW⟩)⟩ rfl rfl hl.1 rfl (lv_room (Nat.le_of_ble_eq_true rfl)) dB_sort_35 ⟨Nat.le_of_ble_eq_true rfl, Nat.le_of_ble_eq_true rfl⟩) hS (fun q _ h => hFc q h) hFc (fun u9 t H1 locs ht hvm hr9 hB hz1 hk1 hS => ?_)
  obtain ⟨hP1, hK1, hD1⟩ := hB
  rw [ht] at hP1
  obtain ⟨hP, hD⟩ := xjoin (W := [(a0, .inr (0, [v20, v21, v22, .ref a2, .ref b23, .ref a1, v24, v25])), (a1, .inr (2, [v26, v27, v28])), (a2, .inl (cT 3, 8, .inr (.inr (.inr (.inr f29))))), (a3, .inr (2, [.ref a4, .int 1, v32])), (a4, .inl (cT 2, 4096, .inr (.inl f33)))]) hP hD [] [0, 1, 2, 3, 4] 5 rfl rfl (by decide) (by decide) hk1 hFc hP1 hD1
  generalize H1 = H at hP hS ⊢
  refine lv_aload_n hx hb dB_sort_38 rfl (lv_at hl 0 rfl) ?_
  refine va_get (D := D) (ci := 0) (v := .ref a1) (C := "ValueBench") (T := TB) (N := 8) hx hb htx inB hown hK hP 0 rfl rfl 5 (by decide) (htx _ kw_1_100) (fun _ h9 => h9) rfl dB_sort_39 ?_
  obtain ⟨hPc, hDc, hFc⟩ := xcut (wc := [(a1, .inr (2, [v26, v27, v28]))]) hP hD hS hA [1] rfl rfl (by decide)
  refine va_callv (va_runV (C := "ValueBench$Row") (As := []) (rest := []) ⟨hx, hb, hml, hown, htx⟩ (cR_clear_0 l hl9 D cT aK aV H.size a1 v26 v27 v28) ⟨callB_of 0 htx (xw_goodC kw_2_22) rfl rfl rfl (htx _ kw_1_4) (htx _ kw_2_19) ⟨by decide, by decide, by decide +kernel⟩ ⟨Nat.le_of_ble_eq_true rfl, Nat.le_of_ble_eq_true rfl⟩, (htx _ kw_2_20), (htx _ kw_2_21)⟩ ⟨xPre_blind, va_recv hK hP (ci := 2) rfl (q0 := 1) rfl, (fun U hU hW => ⟨rfl, xPre_of hZ hS hFc hPc hDc hK U hU hW⟩)⟩ rfl rfl hl.1 rfl (lv_room (Nat.le_of_ble_eq_true rfl)) dB_sort_42 ⟨Nat.le_of_ble_eq_true rfl, Nat.le_of_ble_eq_true rfl⟩) hS (fun q _ h => hFc q h) hFc (fun u9 t H1 locs ht hvm hr9 hB hz1 hk1 hS => ?_)
  obtain ⟨hP1, hK1, hD1⟩ := hB
  rw [ht] at hP1
  obtain ⟨hP, hD⟩ := xjoin (W := [(a0, .inr (0, [v20, v21, v22, .ref a2, .ref b23, .ref a1, v24, v25])), (a2, .inl (cT 3, 8, .inr (.inr (.inr (.inr f29))))), (a3, .inr (2, [.ref a4, .int 1, v32])), (a4, .inl (cT 2, 4096, .inr (.inl f33))), (a1, .inr (2, [v26, .int 0, .int 0]))]) hP hD [1] [0, 2, 3, 4] 4 rfl rfl (by decide) (by decide) hk1 hFc hP1 hD1
  generalize H1 = H at hP hS ⊢
  refine lv_aload_n hx hb dB_sort_45 rfl (lv_at hl 0 rfl) ?_
  refine lv_iload_n hx hb dB_sort_46 rfl (lv_at hl 2 rfl) ?_
  refine lv_aload_n hx hb dB_sort_47 rfl (lv_at hl 0 rfl) ?_
  refine va_get (D := D) (ci := 0) (v := .ref a2) (C := "ValueBench") (T := TB) (N := 8) hx hb htx inB hown hK hP 0 rfl rfl 3 (by decide) (htx _ kw_1_98) (fun _ h9 => h9) rfl dB_sort_48 ?_
  refine lv_iload_n hx hb dB_sort_51 rfl (lv_at hl 3 rfl) ?_
  refine va_aldq hx hb hK hP 1 3 rfl rfl h14 dB_sort_52 ?_
  refine W.eq (g2 := F0 m 53 ls [va_rf (f29 x10.toNatClampNeg), .int 1, .ref a0]) rfl ?_
  rw [h30]
  refine W.eq (g2 := F0 m 53 ls [.ref a3, .int 1, .ref a0]) rfl ?_
  refine lv_aload_n hx hb dB_sort_53 rfl (lv_at hl 0 rfl) ?_
  refine va_get (D := D) (ci := 0) (v := .ref a2) (C := "ValueBench") (T := TB) (N := 8) hx hb htx inB hown hK hP 0 rfl rfl 3 (by decide) (htx _ kw_1_98) (fun _ h9 => h9) rfl dB_sort_54 ?_
  refine lv_iload hx hb dB_sort_57 (lv_at hl 4 rfl) ?_
  refine va_aldq hx hb hK hP 1 3 rfl rfl h19 dB_sort_59 ?_
  refine W.eq (g2 := F0 m 60 ls [va_rf (f29 x15.toNatClampNeg), .ref a3, .int 1, .ref a0]) rfl ?_
  rw [h31]
  refine W.eq (g2 := F0 m 60 ls [.ref a3, .ref a3, .int 1, .ref a0]) rfl ?_
  refine lv_aload_n hx hb dB_sort_60 rfl (lv_at hl 0 rfl) ?_
  refine va_get (D := D) (ci := 0) (v := .ref b23) (C := "ValueBench") (T := TB) (N := 8) hx hb htx inB hown hK hP 0 rfl rfl 4 (by decide) (htx _ kw_1_99) (fun _ h9 => h9) rfl dB_sort_61 ?_
  refine lv_aload_n hx hb dB_sort_64 rfl (lv_at hl 0 rfl) ?_
  refine va_get (D := D) (ci := 0) (v := .ref a1) (C := "ValueBench") (T := TB) (N := 8) hx hb htx inB hown hK hP 0 rfl rfl 5 (by decide) (htx _ kw_1_100) (fun _ h9 => h9) rfl dB_sort_65 ?_
  obtain ⟨hPc, hDc, hFc⟩ := xcut (wc := [(a3, .inr (2, [.ref a4, .int 1, v32])), (a4, .inl (cT 2, 4096, .inr (.inl f33)))]) hP hD hS hA [2, 3] rfl rfl (by decide)
  refine va_calli (va_runS (As := [.int 1, .ref a3, .ref a3, .ref b23, .ref a1]) (rest := [.ref a0]) ⟨hx, hb, hml, hown, htx⟩ (cK_apply_1 l hl9 D cT aK aV H.size a3 a4 1 b23 a1 v32 f33 (by first | rfl | exact h30 | exact h31 | exact h34)) ⟨callB_of 5 htx (xw_goodC kw_5_21) rfl rfl rfl (htx _ kw_1_28) (htx _ kw_5_19) ⟨by decide, by decide, by decide +kernel⟩ ⟨Nat.le_of_ble_eq_true rfl, Nat.le_of_ble_eq_true rfl⟩, htx _ kw_5_20⟩ ⟨xPre_blind, (fun U hU hW => ⟨rfl, xPre_of hZ hS hFc hPc hDc hK U hU hW⟩)⟩ rfl rfl hl.1 rfl (lv_room (Nat.le_of_ble_eq_true rfl)) dB_sort_68 ⟨Nat.le_of_ble_eq_true rfl, Nat.le_of_ble_eq_true rfl⟩) hS (fun q _ h => hFc q h) hFc (fun r5 u9 t H1 locs ht hvm hr9 hB hz1 hk1 hS => ?_)
  obtain ⟨hP1, hK1, hD1⟩ := hB
  rw [ht] at hP1
  obtain ⟨hP, hD⟩ := xjoin (W := [(a0, .inr (0, [v20, v21, v22, .ref a2, .ref b23, .ref a1, v24, v25])), (a2, .inl (cT 3, 8, .inr (.inr (.inr (.inr f29))))), (a1, .inr (2, [v26, .int 0, .int 0])), (a3, .inr (2, [.ref a4, .int 1, v32])), (a4, .inl (cT 2, 4096, .inr (.inl f33)))]) hP hD [2, 3] [0, 1, 4] 3 rfl rfl (by decide) (by decide) hk1 hFc hP1 hD1
  generalize H1 = H at hP hS ⊢
  rw [hr9]
  refine W.eq (g2 := F0 m 71 ls [.int 1, .ref a0]) rfl ?_
  obtain ⟨hPc, hDc, hFc⟩ := xcut (wc := [(a0, .inr (0, [v20, v21, v22, .ref a2, .ref b23, .ref a1, v24, v25]))]) hP hD hS hA [0] rfl rfl (by decide)
  refine xx_thr (vx_runV (C := "ValueBench") (As := [.int 1]) (rest := []) ⟨hx, hb, hml, hown, htx⟩ (cB_demandDone_1 l hl9 D cT aK aV H.size a0 v20 v21 v22 (.ref a2) (.ref b23) (.ref a1) v24 v25) ⟨callB_of 1 htx (xw_goodC kw_3_222) rfl rfl rfl (htx _ kw_1_1) (htx _ kw_3_219) ⟨by decide, by decide, by decide +kernel⟩ ⟨Nat.le_of_ble_eq_true rfl, Nat.le_of_ble_eq_true rfl⟩, (htx _ kw_3_221), (htx _ kp_B_demandDone)⟩ ⟨xPre_blind, va_recv hK hP (ci := 0) rfl (q0 := 0) rfl, (fun U hU hW => ⟨rfl, xPre_of hZ hS hFc hPc hDc hK U hU hW⟩)⟩ rfl rfl hl.1 rfl (lv_room (Nat.le_of_ble_eq_true rfl)) dB_sort_71 ⟨Nat.le_of_ble_eq_true rfl, Nat.le_of_ble_eq_true rfl⟩) hS hFc (fun q _ h => hFc q h) (fun E ce q9 u9 t H1 locs ht hvm _ hB hz1 hk1 hS hce hcv hcl => ?_)
  obtain ⟨rfl, hP1, hK1, hD1⟩ := hB
  rw [ht] at hP1
  obtain ⟨hP, hD⟩ := xjoin (W := [(a2, .inl (cT 3, 8, .inr (.inr (.inr (.inr f29))))), (a1, .inr (2, [v26, .int 0, .int 0])), (a3, .inr (2, [.ref a4, .int 1, v32])), (a4, .inl (cT 2, 4096, .inr (.inl f33))), (a0, .inr (0, [v20, v21, v22, .ref a2, .ref b23, .ref a1, v24, .int 1]))]) hP hD [0] [1, 2, 3, 4] 4 rfl rfl (by decide) (by decide) hk1 hFc hP1 hD1
  generalize H1 = H at hP hS hce ⊢
  obtain ⟨hP9, hD9⟩ := xsub (wc := [(a0, .inr (0, [v20, v21, v22, .ref a2, .ref b23, .ref a1, v24, .int 1])), (a1, .inr (2, [v26, .int 0, .int 0])), (a2, .inl (cT 3, 8, .inr (.inr (.inr (.inr f29))))), (a3, .inr (2, [.ref a4, .int 1, v32])), (a4, .inl (cT 2, 4096, .inr (.inl f33)))]) hP hD [4, 1, 0, 2, 3] rfl rfl (by decide)
  exact vx_out (E := "java/lang/ArithmeticException") (fun x h => (hne x h).elim) hlocks hce hcv hcl (fun t ht ha => ⟨(), trivial, ⟨rfl, by rw [ht]; exact hP9, va_K.moved ha hK, hD9⟩, hS.F ht⟩) hS.2.2 (Nat.le_of_ble_eq_true rfl) (Nat.le_of_ble_eq_true rfl)
