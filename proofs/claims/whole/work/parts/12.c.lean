set_option maxHeartbeats 4000000 in
set_option maxRecDepth 100000 in
theorem cR_open_0 (l : Launch) (hl9 : l.stackTraces = false) (D : va_G) (cT : Nat → ClassId) (aK aV : Nat → Nat) (sz : Nat) (a0 : Nat) (a1 : Nat) (f2 : Nat → Int64) : Met l yR_open wyR_open ({ frames := 1, cells := 0, slots := 0, locals := 22 }) (va_Pc [.ref a0] (xPre D xcl cT aK aV sz [(a0, .inr (2, [.ref a1, .int 0, .int 0])), (a1, .inl (cT 2, 4096, .inr (.inl f2)))])) (va_Qi (fun (r : Int32) (_ : Unit) => r = 0) (fun _ t => xB D xcl cT (va_A [(a0, .inr (2, [.ref a1, .int 0, .int 0])), (a1, .inl (cT 2, 4096, .inr (.inl f2)))] sz) [(a0, .inr (2, [.ref a1, .int 1, .int 0])), (a1, .inl (cT 2, 4096, .inr (.inl (vp_updL f2 0 0))))] t) (va_A [(a0, .inr (2, [.ref a1, .int 0, .int 0])), (a1, .inl (cT 2, 4096, .inr (.inl f2)))] sz)) 0 0 (va_A [(a0, .inr (2, [.ref a1, .int 0, .int 0])), (a1, .inl (cT 2, 4096, .inr (.inl f2)))] sz) := by
  refine Met.ofW (cc := prog_8_method_25_code) (maxL := 1) (ret := (some .int)) (by decide) rfl ?_
  intro p e s m args below meth c s₁ B hml hv
  obtain ⟨rfl, hsz, hZ, hP, hK, hD0⟩ := hv
  have hx := B.exec
  have hb := B.bytes
  have hr := B.returns
  have hts := atoms_spec (ws := wyR_open) B.pre
  have htx := fun w h => hts w (List.mem_cons_of_mem _ h)
  have hown : s.vm.findClass "ValueBench$Row" = some m.cls := findClass_of_methodNamed B.named
  have hlocks := B.notSynchronized
  subst hsz
  have hD := hD0.self (sz := s.heap.size)
  generalize hAe : va_A [(a0, .inr (2, [.ref a1, .int 0, .int 0])), (a1, .inl (cT 2, 4096, .inr (.inl f2)))] s.heap.size = A at hD hZ ⊢
  have hA : ∀ q : Nat, s.heap.size ≤ q → A q := fun q h => by rw [← hAe]; exact Or.inr h
  have hS : va_S A s.heap s.heap [] := va_S.rf
  have hP : va_P D xcl [(a0, .inr (2, [.ref a1, .int 0, .int 0])), (a1, .inl (cT 2, 4096, .inr (.inl f2)))] s.heap := hP
  have hl := lv_entry ([.ref a0]) (n := 1) (Nat.le_of_ble_eq_true rfl)
  rw [lg_entry_eq]
  generalize (lg_sl ([.ref a0]) ++ List.replicate (1 - (lg_sl ([.ref a0])).length) Slot.unset).toArray = ls at hl ⊢
  have hl : lv_has ls 1 [(0, .ref a0)] := hl
  refine lv_aload_n hx hb dR_open_0 rfl (lv_at hl 0 rfl) ?_
  refine lv_lconst (v := 0) hx hb dR_open_1 (by decide) ?_
  have hPc := hP.sub (ws' := [(a0, .inr (2, [.ref a1, .int 0, .int 0])), (a1, .inl (cT 2, 4096, .inr (.inl f2)))]) [0, 1] rfl
  have hDc := hD.sub (ws' := [(a0, .inr (2, [.ref a1, .int 0, .int 0])), (a1, .inl (cT 2, 4096, .inr (.inl f2)))]) [0, 1] (by decide) rfl
  have hFc := va_free (wc := [(a0, .inr (2, [.ref a1, .int 0, .int 0])), (a1, .inl (cT 2, 4096, .inr (.inl f2)))]) hD hS hA [0, 1] rfl
  refine va_callv (va_runV (C := "ValueBench$Row") (As := [.long 0]) (rest := []) ⟨hx, hb, hml, hown, htx⟩ (cR_put_2 l hl9 D cT aK aV s.heap.size a0 a1 0 f2) ⟨callB_of 1 htx (xw_goodC kw_2_126) rfl rfl rfl (htx _ kw_1_4) (htx _ kw_2_137) ⟨by decide, by decide, by decide +kernel⟩ ⟨Nat.le_of_ble_eq_true rfl, Nat.le_of_ble_eq_true rfl⟩, (htx _ kw_2_124), (htx _ kw_2_125)⟩ ⟨xPre_blind, va_recv hK hP (ci := 2) rfl (q0 := 0) rfl, (fun U hU hW => ⟨rfl, xPre_of hZ hS hFc hPc hDc hK U hU hW⟩)⟩ rfl rfl hl.1 rfl (lv_room (Nat.le_of_ble_eq_true rfl)) dR_open_2 ⟨Nat.le_of_ble_eq_true rfl, Nat.le_of_ble_eq_true rfl⟩) hS (fun q _ h => hFc q h) hFc (fun u9 t H1 locs ht hvm hr9 hB hz1 hk1 hS => ?_)
  obtain ⟨hP1, hK1, hD1⟩ := hB
  rw [ht] at hP1
  obtain ⟨hP, hD⟩ := va_join (wr := []) (w1 := [(a0, .inr (2, [.ref a1, .int 1, .int 0])), (a1, .inl (cT 2, 4096, .inr (.inl (vp_updL f2 0 0))))]) hP hD [0, 1] [] rfl rfl (by decide) (by decide) hk1 hFc hP1 hD1
  generalize H1 = H at hP hS ⊢
  have hP : va_P D xcl [(a0, .inr (2, [.ref a1, .int 1, .int 0])), (a1, .inl (cT 2, 4096, .inr (.inl (vp_updL f2 0 0))))] H := hP
  have hD : va_D A [(a0, .inr (2, [.ref a1, .int 1, .int 0])), (a1, .inl (cT 2, 4096, .inr (.inl (vp_updL f2 0 0))))] := hD
  refine lv_aload_n hx hb dR_open_5 rfl (lv_at hl 0 rfl) ?_
  refine va_get (D := D) (ci := 2) (v := .int 1) (C := "ValueBench$Row") (T := TR) (N := 3) hx hb htx inR hown hK hP 0 rfl rfl 1 (by decide) (htx _ kw_1_85) (fun _ h9 => h9) rfl dR_open_6 ?_
  refine lv_iconst (v := 1) hx hb dR_open_9 (by decide) ?_
  refine lv_isub hx hb dR_open_10 ?_
  refine W.eq (g2 := F0 m 11 ls [.int 0]) rfl ?_
  have hP9 := hP.sub (ws' := [(a0, .inr (2, [.ref a1, .int 1, .int 0])), (a1, .inl (cT 2, 4096, .inr (.inl (vp_updL f2 0 0))))]) [0, 1] rfl
  have hD9 := hD.sub (ws' := [(a0, .inr (2, [.ref a1, .int 1, .int 0])), (a1, .inl (cT 2, 4096, .inr (.inl (vp_updL f2 0 0))))]) [0, 1] (by decide) rfl
  refine W.widen (k := 0) (n := 0) (Nat.le_of_ble_eq_true rfl) (Nat.le_of_ble_eq_true rfl) ?_
  exact W.iret (v := 0) hx hb hr (fun t ht hW => ⟨⟨0, (), rfl, rfl, by rw [ht]; exact hP9, va_K.moved hW.alike hK, hD9⟩, hS.F ht⟩) hS.2.2 dR_open_11
set_option maxHeartbeats 4000000 in
set_option maxRecDepth 100000 in
theorem cT_at_1 (l : Launch) (hl9 : l.stackTraces = false) (D : va_G) (cT : Nat → ClassId) (aK aV : Nat → Nat) (sz : Nat) (a0 : Nat) (a1 : Nat) (v2 : Value) (f3 : Nat → Int32) (h4 : f3 0 = 110) : Met l yT_at wyT_at ({ frames := 0, cells := 0, slots := 0, locals := 0 }) (va_Pc [.ref a0, .int 0] (xPre D xcl cT aK aV sz [(a0, .inr (1, [.ref a1, .int 4, v2])), (a1, .inl (cT 0, 4096, .inl f3))])) (va_Qi (fun (r : Int32) (_ : Unit) => r = 110) (fun _ t => xB D xcl cT (va_A [(a0, .inr (1, [.ref a1, .int 4, v2])), (a1, .inl (cT 0, 4096, .inl f3))] sz) [(a0, .inr (1, [.ref a1, .int 4, v2])), (a1, .inl (cT 0, 4096, .inl f3))] t) (va_A [(a0, .inr (1, [.ref a1, .int 4, v2])), (a1, .inl (cT 0, 4096, .inl f3))] sz)) 0 0 (va_A [(a0, .inr (1, [.ref a1, .int 4, v2])), (a1, .inl (cT 0, 4096, .inl f3))] sz) := by
  refine Met.ofW (cc := prog_11_method_7_code) (maxL := 2) (ret := (some .int)) (by decide) rfl ?_
  intro p e s m args below meth c s₁ B hml hv
  obtain ⟨rfl, hsz, hZ, hP, hK, hD0⟩ := hv
  have hx := B.exec
  have hb := B.bytes
  have hr := B.returns
  have hts := atoms_spec (ws := wyT_at) B.pre
  have htx := fun w h => hts w (List.mem_cons_of_mem _ h)
  have hown : s.vm.findClass "ValueBench$Text" = some m.cls := findClass_of_methodNamed B.named
  have hlocks := B.notSynchronized
  subst hsz
  have hD := hD0.self (sz := s.heap.size)
  generalize hAe : va_A [(a0, .inr (1, [.ref a1, .int 4, v2])), (a1, .inl (cT 0, 4096, .inl f3))] s.heap.size = A at hD hZ ⊢
  have hA : ∀ q : Nat, s.heap.size ≤ q → A q := fun q h => by rw [← hAe]; exact Or.inr h
  have hS : va_S A s.heap s.heap [] := va_S.rf
  have hP : va_P D xcl [(a0, .inr (1, [.ref a1, .int 4, v2])), (a1, .inl (cT 0, 4096, .inl f3))] s.heap := hP
  have hl := lv_entry ([.ref a0, .int 0]) (n := 2) (Nat.le_of_ble_eq_true rfl)
  rw [lg_entry_eq]
  generalize (lg_sl ([.ref a0, .int 0]) ++ List.replicate (2 - (lg_sl ([.ref a0, .int 0])).length) Slot.unset).toArray = ls at hl ⊢
  have hl : lv_has ls 2 [(0, .ref a0), (1, .int 0)] := hl
  refine lv_iload_n hx hb dT_at_0 rfl (lv_at hl 1 rfl) ?_
  refine lv_if_lt (tgt := 25) hx hb dT_at_1 (by decide) (fun h => ((by revert h; decide : False)).elim) (fun _ => ?_)
  refine lv_iload_n hx hb dT_at_4 rfl (lv_at hl 1 rfl) ?_
  refine lv_aload_n hx hb dT_at_5 rfl (lv_at hl 0 rfl) ?_
  refine va_get (D := D) (ci := 1) (v := .int 4) (C := "ValueBench$Text") (T := TT) (N := 3) hx hb htx inT hown hK hP 0 rfl rfl 1 (by decide) (htx _ kw_1_44) (fun _ h9 => h9) rfl dT_at_6 ?_
  refine lv_icmp_ge (tgt := 25) hx hb dT_at_9 (by decide) (fun h => ((by revert h; decide : False)).elim) (fun _ => ?_)
  refine lv_aload_n hx hb dT_at_12 rfl (lv_at hl 0 rfl) ?_
  refine va_get (D := D) (ci := 1) (v := .ref a1) (C := "ValueBench$Text") (T := TT) (N := 3) hx hb htx inT hown hK hP 0 rfl rfl 0 (by decide) (htx _ kw_1_43) (fun _ h9 => h9) rfl dT_at_13 ?_
  refine lv_iload_n hx hb dT_at_16 rfl (lv_at hl 1 rfl) ?_
  refine va_bald hx hb hK hP 1 0 rfl rfl (show ¬ ((0 : Int32) < 0 ∨ 4096 ≤ (0 : Int32).toNatClampNeg) by decide) dT_at_17 ?_
  refine W.eq (g2 := F0 m 18 ls [.int (f3 0)]) rfl ?_
  rw [h4]
  refine W.eq (g2 := F0 m 18 ls [.int 110]) rfl ?_
  refine lv_sipush (v := 255) hx hb dT_at_18 (by decide) ?_
  refine lv_iand hx hb dT_at_21 ?_
  refine W.eq (g2 := F0 m 22 ls [.int 110]) rfl ?_
  refine lv_goto (tgt := 26) hx hb dT_at_22 (by decide) ?_
  have hP9 := hP.sub (ws' := [(a0, .inr (1, [.ref a1, .int 4, v2])), (a1, .inl (cT 0, 4096, .inl f3))]) [0, 1] rfl
  have hD9 := hD.sub (ws' := [(a0, .inr (1, [.ref a1, .int 4, v2])), (a1, .inl (cT 0, 4096, .inl f3))]) [0, 1] (by decide) rfl
  refine W.widen (k := 0) (n := 0) (Nat.le_of_ble_eq_true rfl) (Nat.le_of_ble_eq_true rfl) ?_
  exact W.iret (v := 110) hx hb hr (fun t ht hW => ⟨⟨110, (), rfl, rfl, by rw [ht]; exact hP9, va_K.moved hW.alike hK, hD9⟩, hS.F ht⟩) hS.2.2 dT_at_26
set_option maxHeartbeats 4000000 in
set_option maxRecDepth 100000 in
theorem cR_put_3 (l : Launch) (hl9 : l.stackTraces = false) (D : va_G) (cT : Nat → ClassId) (aK aV : Nat → Nat) (sz : Nat) (a0 : Nat) (a1 : Nat) (f2 : Nat → Int64) : Met l yR_put wyR_put ({ frames := 0, cells := 0, slots := 0, locals := 0 }) (va_Pc [.ref a0, .long 110] (xPre D xcl cT aK aV sz [(a0, .inr (2, [.ref a1, .int 1, .int 0])), (a1, .inl (cT 2, 4096, .inr (.inl f2)))])) (va_Qv (fun _ : Unit => True) (fun _ t => xB D xcl cT (va_A [(a0, .inr (2, [.ref a1, .int 1, .int 0])), (a1, .inl (cT 2, 4096, .inr (.inl f2)))] sz) [(a0, .inr (2, [.ref a1, .int 2, .int 0])), (a1, .inl (cT 2, 4096, .inr (.inl (vp_updL f2 1 110))))] t) (va_A [(a0, .inr (2, [.ref a1, .int 1, .int 0])), (a1, .inl (cT 2, 4096, .inr (.inl f2)))] sz)) 0 0 (va_A [(a0, .inr (2, [.ref a1, .int 1, .int 0])), (a1, .inl (cT 2, 4096, .inr (.inl f2)))] sz) := by
  refine Met.ofW (cc := prog_8_method_16_code) (maxL := 3) (ret := none) (by decide) rfl ?_
  intro p e s m args below meth c s₁ B hml hv
  obtain ⟨rfl, hsz, hZ, hP, hK, hD0⟩ := hv
  have hx := B.exec
  have hb := B.bytes
  have hr := B.returns
  have hts := atoms_spec (ws := wyR_put) B.pre
  have htx := fun w h => hts w (List.mem_cons_of_mem _ h)
  have hown : s.vm.findClass "ValueBench$Row" = some m.cls := findClass_of_methodNamed B.named
  have hlocks := B.notSynchronized
  subst hsz
  have hD := hD0.self (sz := s.heap.size)
  generalize hAe : va_A [(a0, .inr (2, [.ref a1, .int 1, .int 0])), (a1, .inl (cT 2, 4096, .inr (.inl f2)))] s.heap.size = A at hD hZ ⊢
  have hA : ∀ q : Nat, s.heap.size ≤ q → A q := fun q h => by rw [← hAe]; exact Or.inr h
  have hS : va_S A s.heap s.heap [] := va_S.rf
  have hP : va_P D xcl [(a0, .inr (2, [.ref a1, .int 1, .int 0])), (a1, .inl (cT 2, 4096, .inr (.inl f2)))] s.heap := hP
  have hl := lv_entry ([.ref a0, .long 110]) (n := 3) (Nat.le_of_ble_eq_true rfl)
  rw [lg_entry_eq]
  generalize (lg_sl ([.ref a0, .long 110]) ++ List.replicate (3 - (lg_sl ([.ref a0, .long 110])).length) Slot.unset).toArray = ls at hl ⊢
  have hl : lv_has ls 3 [(0, .ref a0), (1, .long 110)] := hl
  refine lv_aload_n hx hb dR_put_0 rfl (lv_at hl 0 rfl) ?_
  refine va_get (D := D) (ci := 2) (v := .int 0) (C := "ValueBench$Row") (T := TR) (N := 3) hx hb htx inR hown hK hP 0 rfl rfl 2 (by decide) (htx _ kw_1_86) (fun _ h9 => h9) rfl dR_put_1 ?_
  refine lv_if_ne (tgt := 17) hx hb dR_put_4 (by decide) (fun h => ((by revert h; decide : False)).elim) (fun _ => ?_)
  refine lv_aload_n hx hb dR_put_7 rfl (lv_at hl 0 rfl) ?_
  refine va_get (D := D) (ci := 2) (v := .int 1) (C := "ValueBench$Row") (T := TR) (N := 3) hx hb htx inR hown hK hP 0 rfl rfl 1 (by decide) (htx _ kw_1_85) (fun _ h9 => h9) rfl dR_put_8 ?_
  refine lv_sipush (v := 4096) hx hb dR_put_11 (by decide) ?_
  refine lv_icmp_lt (tgt := 23) hx hb dR_put_14 (by decide) (fun _ => ?_) (fun h => ((by revert h; decide : False)).elim)
  refine lv_aload_n hx hb dR_put_23 rfl (lv_at hl 0 rfl) ?_
  refine va_get (D := D) (ci := 2) (v := .ref a1) (C := "ValueBench$Row") (T := TR) (N := 3) hx hb htx inR hown hK hP 0 rfl rfl 0 (by decide) (htx _ kw_1_84) (fun _ h9 => h9) rfl dR_put_24 ?_
  refine lv_aload_n hx hb dR_put_27 rfl (lv_at hl 0 rfl) ?_
  refine va_get (D := D) (ci := 2) (v := .int 1) (C := "ValueBench$Row") (T := TR) (N := 3) hx hb htx inR hown hK hP 0 rfl rfl 1 (by decide) (htx _ kw_1_85) (fun _ h9 => h9) rfl dR_put_28 ?_
  refine lv_lload_n hx hb dR_put_31 rfl (lv_at hl 1 rfl) ?_
  refine va_last hx hb hK hP hD hS 1 2 rfl rfl (show ¬ ((1 : Int32) < 0 ∨ 4096 ≤ (1 : Int32).toNatClampNeg) by decide) dR_put_32 (fun H locs hP hD hS => ?_)
  have hP : va_P D xcl [(a0, .inr (2, [.ref a1, .int 1, .int 0])), (a1, .inl (cT 2, 4096, .inr (.inl (vp_updL f2 1 110))))] H := hP
  have hD : va_D A [(a0, .inr (2, [.ref a1, .int 1, .int 0])), (a1, .inl (cT 2, 4096, .inr (.inl (vp_updL f2 1 110))))] := hD
  refine lv_aload_n hx hb dR_put_33 rfl (lv_at hl 0 rfl) ?_
  refine lv_dup hx hb dR_put_34 rfl ?_
  refine va_get (D := D) (ci := 2) (v := .int 1) (C := "ValueBench$Row") (T := TR) (N := 3) hx hb htx inR hown hK hP 0 rfl rfl 1 (by decide) (htx _ kw_1_85) (fun _ h9 => h9) rfl dR_put_35 ?_
  refine lv_iconst (v := 1) hx hb dR_put_38 (by decide) ?_
  refine lv_iadd hx hb dR_put_39 ?_
  refine W.eq (g2 := F0 m 40 ls [.int 2, .ref a0]) rfl ?_
  refine va_put (D := D) (ci := 2) (v := .int 2) (ty := .int) (C := "ValueBench$Row") (T := TR) (N := 3) hx hb htx inR tyR tyR_ok nmR hown hK hP hD hS 0 rfl rfl 1 (by decide) (htx _ kw_1_85) (fun _ h9 => h9) rfl (by decide +kernel) rfl rfl (Nat.le_of_ble_eq_true rfl) dR_put_40 (fun H locs hP hD hS => ?_)
  have hP : va_P D xcl [(a0, .inr (2, [.ref a1, .int 2, .int 0])), (a1, .inl (cT 2, 4096, .inr (.inl (vp_updL f2 1 110))))] H := hP
  have hD : va_D A [(a0, .inr (2, [.ref a1, .int 2, .int 0])), (a1, .inl (cT 2, 4096, .inr (.inl (vp_updL f2 1 110))))] := hD
  have hP9 := hP.sub (ws' := [(a0, .inr (2, [.ref a1, .int 2, .int 0])), (a1, .inl (cT 2, 4096, .inr (.inl (vp_updL f2 1 110))))]) [0, 1] rfl
  have hD9 := hD.sub (ws' := [(a0, .inr (2, [.ref a1, .int 2, .int 0])), (a1, .inl (cT 2, 4096, .inr (.inl (vp_updL f2 1 110))))]) [0, 1] (by decide) rfl
  refine W.widen (k := 0) (n := 0) (Nat.le_of_ble_eq_true rfl) (Nat.le_of_ble_eq_true rfl) ?_
  exact W.vret hx hb hr (fun t ht hW => ⟨⟨(), rfl, trivial, by rw [ht]; exact hP9, va_K.moved hW.alike hK, hD9⟩, hS.F ht⟩) hS.2.2 dR_put_43
set_option maxHeartbeats 4000000 in
set_option maxRecDepth 100000 in
theorem cT_at_2 (l : Launch) (hl9 : l.stackTraces = false) (D : va_G) (cT : Nat → ClassId) (aK aV : Nat → Nat) (sz : Nat) (a0 : Nat) (a1 : Nat) (v2 : Value) (f3 : Nat → Int32) (h4 : f3 1 = 117) : Met l yT_at wyT_at ({ frames := 0, cells := 0, slots := 0, locals := 0 }) (va_Pc [.ref a0, .int 1] (xPre D xcl cT aK aV sz [(a0, .inr (1, [.ref a1, .int 4, v2])), (a1, .inl (cT 0, 4096, .inl f3))])) (va_Qi (fun (r : Int32) (_ : Unit) => r = 117) (fun _ t => xB D xcl cT (va_A [(a0, .inr (1, [.ref a1, .int 4, v2])), (a1, .inl (cT 0, 4096, .inl f3))] sz) [(a0, .inr (1, [.ref a1, .int 4, v2])), (a1, .inl (cT 0, 4096, .inl f3))] t) (va_A [(a0, .inr (1, [.ref a1, .int 4, v2])), (a1, .inl (cT 0, 4096, .inl f3))] sz)) 0 0 (va_A [(a0, .inr (1, [.ref a1, .int 4, v2])), (a1, .inl (cT 0, 4096, .inl f3))] sz) := by
  refine Met.ofW (cc := prog_11_method_7_code) (maxL := 2) (ret := (some .int)) (by decide) rfl ?_
  intro p e s m args below meth c s₁ B hml hv
  obtain ⟨rfl, hsz, hZ, hP, hK, hD0⟩ := hv
  have hx := B.exec
  have hb := B.bytes
  have hr := B.returns
  have hts := atoms_spec (ws := wyT_at) B.pre
  have htx := fun w h => hts w (List.mem_cons_of_mem _ h)
  have hown : s.vm.findClass "ValueBench$Text" = some m.cls := findClass_of_methodNamed B.named
  have hlocks := B.notSynchronized
  subst hsz
  have hD := hD0.self (sz := s.heap.size)
  generalize hAe : va_A [(a0, .inr (1, [.ref a1, .int 4, v2])), (a1, .inl (cT 0, 4096, .inl f3))] s.heap.size = A at hD hZ ⊢
  have hA : ∀ q : Nat, s.heap.size ≤ q → A q := fun q h => by rw [← hAe]; exact Or.inr h
  have hS : va_S A s.heap s.heap [] := va_S.rf
  have hP : va_P D xcl [(a0, .inr (1, [.ref a1, .int 4, v2])), (a1, .inl (cT 0, 4096, .inl f3))] s.heap := hP
  have hl := lv_entry ([.ref a0, .int 1]) (n := 2) (Nat.le_of_ble_eq_true rfl)
  rw [lg_entry_eq]
  generalize (lg_sl ([.ref a0, .int 1]) ++ List.replicate (2 - (lg_sl ([.ref a0, .int 1])).length) Slot.unset).toArray = ls at hl ⊢
  have hl : lv_has ls 2 [(0, .ref a0), (1, .int 1)] := hl
  refine lv_iload_n hx hb dT_at_0 rfl (lv_at hl 1 rfl) ?_
  refine lv_if_lt (tgt := 25) hx hb dT_at_1 (by decide) (fun h => ((by revert h; decide : False)).elim) (fun _ => ?_)
  refine lv_iload_n hx hb dT_at_4 rfl (lv_at hl 1 rfl) ?_
  refine lv_aload_n hx hb dT_at_5 rfl (lv_at hl 0 rfl) ?_
  refine va_get (D := D) (ci := 1) (v := .int 4) (C := "ValueBench$Text") (T := TT) (N := 3) hx hb htx inT hown hK hP 0 rfl rfl 1 (by decide) (htx _ kw_1_44) (fun _ h9 => h9) rfl dT_at_6 ?_
  refine lv_icmp_ge (tgt := 25) hx hb dT_at_9 (by decide) (fun h => ((by revert h; decide : False)).elim) (fun _ => ?_)
  refine lv_aload_n hx hb dT_at_12 rfl (lv_at hl 0 rfl) ?_
  refine va_get (D := D) (ci := 1) (v := .ref a1) (C := "ValueBench$Text") (T := TT) (N := 3) hx hb htx inT hown hK hP 0 rfl rfl 0 (by decide) (htx _ kw_1_43) (fun _ h9 => h9) rfl dT_at_13 ?_
  refine lv_iload_n hx hb dT_at_16 rfl (lv_at hl 1 rfl) ?_
  refine va_bald hx hb hK hP 1 0 rfl rfl (show ¬ ((1 : Int32) < 0 ∨ 4096 ≤ (1 : Int32).toNatClampNeg) by decide) dT_at_17 ?_
  refine W.eq (g2 := F0 m 18 ls [.int (f3 1)]) rfl ?_
  rw [h4]
  refine W.eq (g2 := F0 m 18 ls [.int 117]) rfl ?_
  refine lv_sipush (v := 255) hx hb dT_at_18 (by decide) ?_
  refine lv_iand hx hb dT_at_21 ?_
  refine W.eq (g2 := F0 m 22 ls [.int 117]) rfl ?_
  refine lv_goto (tgt := 26) hx hb dT_at_22 (by decide) ?_
  have hP9 := hP.sub (ws' := [(a0, .inr (1, [.ref a1, .int 4, v2])), (a1, .inl (cT 0, 4096, .inl f3))]) [0, 1] rfl
  have hD9 := hD.sub (ws' := [(a0, .inr (1, [.ref a1, .int 4, v2])), (a1, .inl (cT 0, 4096, .inl f3))]) [0, 1] (by decide) rfl
  refine W.widen (k := 0) (n := 0) (Nat.le_of_ble_eq_true rfl) (Nat.le_of_ble_eq_true rfl) ?_
  exact W.iret (v := 117) hx hb hr (fun t ht hW => ⟨⟨117, (), rfl, rfl, by rw [ht]; exact hP9, va_K.moved hW.alike hK, hD9⟩, hS.F ht⟩) hS.2.2 dT_at_26
set_option maxHeartbeats 4000000 in
set_option maxRecDepth 100000 in
theorem cR_put_4 (l : Launch) (hl9 : l.stackTraces = false) (D : va_G) (cT : Nat → ClassId) (aK aV : Nat → Nat) (sz : Nat) (a0 : Nat) (a1 : Nat) (f2 : Nat → Int64) : Met l yR_put wyR_put ({ frames := 0, cells := 0, slots := 0, locals := 0 }) (va_Pc [.ref a0, .long 117] (xPre D xcl cT aK aV sz [(a0, .inr (2, [.ref a1, .int 2, .int 0])), (a1, .inl (cT 2, 4096, .inr (.inl f2)))])) (va_Qv (fun _ : Unit => True) (fun _ t => xB D xcl cT (va_A [(a0, .inr (2, [.ref a1, .int 2, .int 0])), (a1, .inl (cT 2, 4096, .inr (.inl f2)))] sz) [(a0, .inr (2, [.ref a1, .int 3, .int 0])), (a1, .inl (cT 2, 4096, .inr (.inl (vp_updL f2 2 117))))] t) (va_A [(a0, .inr (2, [.ref a1, .int 2, .int 0])), (a1, .inl (cT 2, 4096, .inr (.inl f2)))] sz)) 0 0 (va_A [(a0, .inr (2, [.ref a1, .int 2, .int 0])), (a1, .inl (cT 2, 4096, .inr (.inl f2)))] sz) := by
  refine Met.ofW (cc := prog_8_method_16_code) (maxL := 3) (ret := none) (by decide) rfl ?_
  intro p e s m args below meth c s₁ B hml hv
  obtain ⟨rfl, hsz, hZ, hP, hK, hD0⟩ := hv
  have hx := B.exec
  have hb := B.bytes
  have hr := B.returns
  have hts := atoms_spec (ws := wyR_put) B.pre
  have htx := fun w h => hts w (List.mem_cons_of_mem _ h)
  have hown : s.vm.findClass "ValueBench$Row" = some m.cls := findClass_of_methodNamed B.named
  have hlocks := B.notSynchronized
  subst hsz
  have hD := hD0.self (sz := s.heap.size)
  generalize hAe : va_A [(a0, .inr (2, [.ref a1, .int 2, .int 0])), (a1, .inl (cT 2, 4096, .inr (.inl f2)))] s.heap.size = A at hD hZ ⊢
  have hA : ∀ q : Nat, s.heap.size ≤ q → A q := fun q h => by rw [← hAe]; exact Or.inr h
  have hS : va_S A s.heap s.heap [] := va_S.rf
  have hP : va_P D xcl [(a0, .inr (2, [.ref a1, .int 2, .int 0])), (a1, .inl (cT 2, 4096, .inr (.inl f2)))] s.heap := hP
  have hl := lv_entry ([.ref a0, .long 117]) (n := 3) (Nat.le_of_ble_eq_true rfl)
  rw [lg_entry_eq]
  generalize (lg_sl ([.ref a0, .long 117]) ++ List.replicate (3 - (lg_sl ([.ref a0, .long 117])).length) Slot.unset).toArray = ls at hl ⊢
  have hl : lv_has ls 3 [(0, .ref a0), (1, .long 117)] := hl
  refine lv_aload_n hx hb dR_put_0 rfl (lv_at hl 0 rfl) ?_
  refine va_get (D := D) (ci := 2) (v := .int 0) (C := "ValueBench$Row") (T := TR) (N := 3) hx hb htx inR hown hK hP 0 rfl rfl 2 (by decide) (htx _ kw_1_86) (fun _ h9 => h9) rfl dR_put_1 ?_
  refine lv_if_ne (tgt := 17) hx hb dR_put_4 (by decide) (fun h => ((by revert h; decide : False)).elim) (fun _ => ?_)
  refine lv_aload_n hx hb dR_put_7 rfl (lv_at hl 0 rfl) ?_
  refine va_get (D := D) (ci := 2) (v := .int 2) (C := "ValueBench$Row") (T := TR) (N := 3) hx hb htx inR hown hK hP 0 rfl rfl 1 (by decide) (htx _ kw_1_85) (fun _ h9 => h9) rfl dR_put_8 ?_
  refine lv_sipush (v := 4096) hx hb dR_put_11 (by decide) ?_
  refine lv_icmp_lt (tgt := 23) hx hb dR_put_14 (by decide) (fun _ => ?_) (fun h => ((by revert h; decide : False)).elim)
  refine lv_aload_n hx hb dR_put_23 rfl (lv_at hl 0 rfl) ?_
  refine va_get (D := D) (ci := 2) (v := .ref a1) (C := "ValueBench$Row") (T := TR) (N := 3) hx hb htx inR hown hK hP 0 rfl rfl 0 (by decide) (htx _ kw_1_84) (fun _ h9 => h9) rfl dR_put_24 ?_
  refine lv_aload_n hx hb dR_put_27 rfl (lv_at hl 0 rfl) ?_
  refine va_get (D := D) (ci := 2) (v := .int 2) (C := "ValueBench$Row") (T := TR) (N := 3) hx hb htx inR hown hK hP 0 rfl rfl 1 (by decide) (htx _ kw_1_85) (fun _ h9 => h9) rfl dR_put_28 ?_
  refine lv_lload_n hx hb dR_put_31 rfl (lv_at hl 1 rfl) ?_
  refine va_last hx hb hK hP hD hS 1 2 rfl rfl (show ¬ ((2 : Int32) < 0 ∨ 4096 ≤ (2 : Int32).toNatClampNeg) by decide) dR_put_32 (fun H locs hP hD hS => ?_)
  have hP : va_P D xcl [(a0, .inr (2, [.ref a1, .int 2, .int 0])), (a1, .inl (cT 2, 4096, .inr (.inl (vp_updL f2 2 117))))] H := hP
  have hD : va_D A [(a0, .inr (2, [.ref a1, .int 2, .int 0])), (a1, .inl (cT 2, 4096, .inr (.inl (vp_updL f2 2 117))))] := hD
  refine lv_aload_n hx hb dR_put_33 rfl (lv_at hl 0 rfl) ?_
  refine lv_dup hx hb dR_put_34 rfl ?_
  refine va_get (D := D) (ci := 2) (v := .int 2) (C := "ValueBench$Row") (T := TR) (N := 3) hx hb htx inR hown hK hP 0 rfl rfl 1 (by decide) (htx _ kw_1_85) (fun _ h9 => h9) rfl dR_put_35 ?_
  refine lv_iconst (v := 1) hx hb dR_put_38 (by decide) ?_
  refine lv_iadd hx hb dR_put_39 ?_
  refine W.eq (g2 := F0 m 40 ls [.int 3, .ref a0]) rfl ?_
  refine va_put (D := D) (ci := 2) (v := .int 3) (ty := .int) (C := "ValueBench$Row") (T := TR) (N := 3) hx hb htx inR tyR tyR_ok nmR hown hK hP hD hS 0 rfl rfl 1 (by decide) (htx _ kw_1_85) (fun _ h9 => h9) rfl (by decide +kernel) rfl rfl (Nat.le_of_ble_eq_true rfl) dR_put_40 (fun H locs hP hD hS => ?_)
  have hP : va_P D xcl [(a0, .inr (2, [.ref a1, .int 3, .int 0])), (a1, .inl (cT 2, 4096, .inr (.inl (vp_updL f2 2 117))))] H := hP
  have hD : va_D A [(a0, .inr (2, [.ref a1, .int 3, .int 0])), (a1, .inl (cT 2, 4096, .inr (.inl (vp_updL f2 2 117))))] := hD
  have hP9 := hP.sub (ws' := [(a0, .inr (2, [.ref a1, .int 3, .int 0])), (a1, .inl (cT 2, 4096, .inr (.inl (vp_updL f2 2 117))))]) [0, 1] rfl
  have hD9 := hD.sub (ws' := [(a0, .inr (2, [.ref a1, .int 3, .int 0])), (a1, .inl (cT 2, 4096, .inr (.inl (vp_updL f2 2 117))))]) [0, 1] (by decide) rfl
  refine W.widen (k := 0) (n := 0) (Nat.le_of_ble_eq_true rfl) (Nat.le_of_ble_eq_true rfl) ?_
  exact W.vret hx hb hr (fun t ht hW => ⟨⟨(), rfl, trivial, by rw [ht]; exact hP9, va_K.moved hW.alike hK, hD9⟩, hS.F ht⟩) hS.2.2 dR_put_43
set_option maxHeartbeats 4000000 in
set_option maxRecDepth 100000 in
theorem cT_at_3 (l : Launch) (hl9 : l.stackTraces = false) (D : va_G) (cT : Nat → ClassId) (aK aV : Nat → Nat) (sz : Nat) (a0 : Nat) (a1 : Nat) (v2 : Value) (f3 : Nat → Int32) (h4 : f3 2 = 108) : Met l yT_at wyT_at ({ frames := 0, cells := 0, slots := 0, locals := 0 }) (va_Pc [.ref a0, .int 2] (xPre D xcl cT aK aV sz [(a0, .inr (1, [.ref a1, .int 4, v2])), (a1, .inl (cT 0, 4096, .inl f3))])) (va_Qi (fun (r : Int32) (_ : Unit) => r = 108) (fun _ t => xB D xcl cT (va_A [(a0, .inr (1, [.ref a1, .int 4, v2])), (a1, .inl (cT 0, 4096, .inl f3))] sz) [(a0, .inr (1, [.ref a1, .int 4, v2])), (a1, .inl (cT 0, 4096, .inl f3))] t) (va_A [(a0, .inr (1, [.ref a1, .int 4, v2])), (a1, .inl (cT 0, 4096, .inl f3))] sz)) 0 0 (va_A [(a0, .inr (1, [.ref a1, .int 4, v2])), (a1, .inl (cT 0, 4096, .inl f3))] sz) := by
  refine Met.ofW (cc := prog_11_method_7_code) (maxL := 2) (ret := (some .int)) (by decide) rfl ?_
  intro p e s m args below meth c s₁ B hml hv
  obtain ⟨rfl, hsz, hZ, hP, hK, hD0⟩ := hv
  have hx := B.exec
  have hb := B.bytes
  have hr := B.returns
  have hts := atoms_spec (ws := wyT_at) B.pre
  have htx := fun w h => hts w (List.mem_cons_of_mem _ h)
  have hown : s.vm.findClass "ValueBench$Text" = some m.cls := findClass_of_methodNamed B.named
  have hlocks := B.notSynchronized
  subst hsz
  have hD := hD0.self (sz := s.heap.size)
  generalize hAe : va_A [(a0, .inr (1, [.ref a1, .int 4, v2])), (a1, .inl (cT 0, 4096, .inl f3))] s.heap.size = A at hD hZ ⊢
  have hA : ∀ q : Nat, s.heap.size ≤ q → A q := fun q h => by rw [← hAe]; exact Or.inr h
  have hS : va_S A s.heap s.heap [] := va_S.rf
  have hP : va_P D xcl [(a0, .inr (1, [.ref a1, .int 4, v2])), (a1, .inl (cT 0, 4096, .inl f3))] s.heap := hP
  have hl := lv_entry ([.ref a0, .int 2]) (n := 2) (Nat.le_of_ble_eq_true rfl)
  rw [lg_entry_eq]
  generalize (lg_sl ([.ref a0, .int 2]) ++ List.replicate (2 - (lg_sl ([.ref a0, .int 2])).length) Slot.unset).toArray = ls at hl ⊢
  have hl : lv_has ls 2 [(0, .ref a0), (1, .int 2)] := hl
  refine lv_iload_n hx hb dT_at_0 rfl (lv_at hl 1 rfl) ?_
  refine lv_if_lt (tgt := 25) hx hb dT_at_1 (by decide) (fun h => ((by revert h; decide : False)).elim) (fun _ => ?_)
  refine lv_iload_n hx hb dT_at_4 rfl (lv_at hl 1 rfl) ?_
  refine lv_aload_n hx hb dT_at_5 rfl (lv_at hl 0 rfl) ?_
  refine va_get (D := D) (ci := 1) (v := .int 4) (C := "ValueBench$Text") (T := TT) (N := 3) hx hb htx inT hown hK hP 0 rfl rfl 1 (by decide) (htx _ kw_1_44) (fun _ h9 => h9) rfl dT_at_6 ?_
  refine lv_icmp_ge (tgt := 25) hx hb dT_at_9 (by decide) (fun h => ((by revert h; decide : False)).elim) (fun _ => ?_)
  refine lv_aload_n hx hb dT_at_12 rfl (lv_at hl 0 rfl) ?_
  refine va_get (D := D) (ci := 1) (v := .ref a1) (C := "ValueBench$Text") (T := TT) (N := 3) hx hb htx inT hown hK hP 0 rfl rfl 0 (by decide) (htx _ kw_1_43) (fun _ h9 => h9) rfl dT_at_13 ?_
  refine lv_iload_n hx hb dT_at_16 rfl (lv_at hl 1 rfl) ?_
  refine va_bald hx hb hK hP 1 0 rfl rfl (show ¬ ((2 : Int32) < 0 ∨ 4096 ≤ (2 : Int32).toNatClampNeg) by decide) dT_at_17 ?_
  refine W.eq (g2 := F0 m 18 ls [.int (f3 2)]) rfl ?_
  rw [h4]
  refine W.eq (g2 := F0 m 18 ls [.int 108]) rfl ?_
  refine lv_sipush (v := 255) hx hb dT_at_18 (by decide) ?_
  refine lv_iand hx hb dT_at_21 ?_
  refine W.eq (g2 := F0 m 22 ls [.int 108]) rfl ?_
  refine lv_goto (tgt := 26) hx hb dT_at_22 (by decide) ?_
  have hP9 := hP.sub (ws' := [(a0, .inr (1, [.ref a1, .int 4, v2])), (a1, .inl (cT 0, 4096, .inl f3))]) [0, 1] rfl
  have hD9 := hD.sub (ws' := [(a0, .inr (1, [.ref a1, .int 4, v2])), (a1, .inl (cT 0, 4096, .inl f3))]) [0, 1] (by decide) rfl
  refine W.widen (k := 0) (n := 0) (Nat.le_of_ble_eq_true rfl) (Nat.le_of_ble_eq_true rfl) ?_
  exact W.iret (v := 108) hx hb hr (fun t ht hW => ⟨⟨108, (), rfl, rfl, by rw [ht]; exact hP9, va_K.moved hW.alike hK, hD9⟩, hS.F ht⟩) hS.2.2 dT_at_26
set_option maxHeartbeats 4000000 in
set_option maxRecDepth 100000 in
theorem cR_put_5 (l : Launch) (hl9 : l.stackTraces = false) (D : va_G) (cT : Nat → ClassId) (aK aV : Nat → Nat) (sz : Nat) (a0 : Nat) (a1 : Nat) (f2 : Nat → Int64) : Met l yR_put wyR_put ({ frames := 0, cells := 0, slots := 0, locals := 0 }) (va_Pc [.ref a0, .long 108] (xPre D xcl cT aK aV sz [(a0, .inr (2, [.ref a1, .int 3, .int 0])), (a1, .inl (cT 2, 4096, .inr (.inl f2)))])) (va_Qv (fun _ : Unit => True) (fun _ t => xB D xcl cT (va_A [(a0, .inr (2, [.ref a1, .int 3, .int 0])), (a1, .inl (cT 2, 4096, .inr (.inl f2)))] sz) [(a0, .inr (2, [.ref a1, .int 4, .int 0])), (a1, .inl (cT 2, 4096, .inr (.inl (vp_updL f2 3 108))))] t) (va_A [(a0, .inr (2, [.ref a1, .int 3, .int 0])), (a1, .inl (cT 2, 4096, .inr (.inl f2)))] sz)) 0 0 (va_A [(a0, .inr (2, [.ref a1, .int 3, .int 0])), (a1, .inl (cT 2, 4096, .inr (.inl f2)))] sz) := by
  refine Met.ofW (cc := prog_8_method_16_code) (maxL := 3) (ret := none) (by decide) rfl ?_
  intro p e s m args below meth c s₁ B hml hv
  obtain ⟨rfl, hsz, hZ, hP, hK, hD0⟩ := hv
  have hx := B.exec
  have hb := B.bytes
  have hr := B.returns
  have hts := atoms_spec (ws := wyR_put) B.pre
  have htx := fun w h => hts w (List.mem_cons_of_mem _ h)
  have hown : s.vm.findClass "ValueBench$Row" = some m.cls := findClass_of_methodNamed B.named
  have hlocks := B.notSynchronized
  subst hsz
  have hD := hD0.self (sz := s.heap.size)
  generalize hAe : va_A [(a0, .inr (2, [.ref a1, .int 3, .int 0])), (a1, .inl (cT 2, 4096, .inr (.inl f2)))] s.heap.size = A at hD hZ ⊢
  have hA : ∀ q : Nat, s.heap.size ≤ q → A q := fun q h => by rw [← hAe]; exact Or.inr h
  have hS : va_S A s.heap s.heap [] := va_S.rf
  have hP : va_P D xcl [(a0, .inr (2, [.ref a1, .int 3, .int 0])), (a1, .inl (cT 2, 4096, .inr (.inl f2)))] s.heap := hP
  have hl := lv_entry ([.ref a0, .long 108]) (n := 3) (Nat.le_of_ble_eq_true rfl)
  rw [lg_entry_eq]
  generalize (lg_sl ([.ref a0, .long 108]) ++ List.replicate (3 - (lg_sl ([.ref a0, .long 108])).length) Slot.unset).toArray = ls at hl ⊢
  have hl : lv_has ls 3 [(0, .ref a0), (1, .long 108)] := hl
  refine lv_aload_n hx hb dR_put_0 rfl (lv_at hl 0 rfl) ?_
  refine va_get (D := D) (ci := 2) (v := .int 0) (C := "ValueBench$Row") (T := TR) (N := 3) hx hb htx inR hown hK hP 0 rfl rfl 2 (by decide) (htx _ kw_1_86) (fun _ h9 => h9) rfl dR_put_1 ?_
  refine lv_if_ne (tgt := 17) hx hb dR_put_4 (by decide) (fun h => ((by revert h; decide : False)).elim) (fun _ => ?_)
  refine lv_aload_n hx hb dR_put_7 rfl (lv_at hl 0 rfl) ?_
  refine va_get (D := D) (ci := 2) (v := .int 3) (C := "ValueBench$Row") (T := TR) (N := 3) hx hb htx inR hown hK hP 0 rfl rfl 1 (by decide) (htx _ kw_1_85) (fun _ h9 => h9) rfl dR_put_8 ?_
  refine lv_sipush (v := 4096) hx hb dR_put_11 (by decide) ?_
  refine lv_icmp_lt (tgt := 23) hx hb dR_put_14 (by decide) (fun _ => ?_) (fun h => ((by revert h; decide : False)).elim)
  refine lv_aload_n hx hb dR_put_23 rfl (lv_at hl 0 rfl) ?_
  refine va_get (D := D) (ci := 2) (v := .ref a1) (C := "ValueBench$Row") (T := TR) (N := 3) hx hb htx inR hown hK hP 0 rfl rfl 0 (by decide) (htx _ kw_1_84) (fun _ h9 => h9) rfl dR_put_24 ?_
  refine lv_aload_n hx hb dR_put_27 rfl (lv_at hl 0 rfl) ?_
  refine va_get (D := D) (ci := 2) (v := .int 3) (C := "ValueBench$Row") (T := TR) (N := 3) hx hb htx inR hown hK hP 0 rfl rfl 1 (by decide) (htx _ kw_1_85) (fun _ h9 => h9) rfl dR_put_28 ?_
  refine lv_lload_n hx hb dR_put_31 rfl (lv_at hl 1 rfl) ?_
  refine va_last hx hb hK hP hD hS 1 2 rfl rfl (show ¬ ((3 : Int32) < 0 ∨ 4096 ≤ (3 : Int32).toNatClampNeg) by decide) dR_put_32 (fun H locs hP hD hS => ?_)
  have hP : va_P D xcl [(a0, .inr (2, [.ref a1, .int 3, .int 0])), (a1, .inl (cT 2, 4096, .inr (.inl (vp_updL f2 3 108))))] H := hP
  have hD : va_D A [(a0, .inr (2, [.ref a1, .int 3, .int 0])), (a1, .inl (cT 2, 4096, .inr (.inl (vp_updL f2 3 108))))] := hD
  refine lv_aload_n hx hb dR_put_33 rfl (lv_at hl 0 rfl) ?_
  refine lv_dup hx hb dR_put_34 rfl ?_
  refine va_get (D := D) (ci := 2) (v := .int 3) (C := "ValueBench$Row") (T := TR) (N := 3) hx hb htx inR hown hK hP 0 rfl rfl 1 (by decide) (htx _ kw_1_85) (fun _ h9 => h9) rfl dR_put_35 ?_
  refine lv_iconst (v := 1) hx hb dR_put_38 (by decide) ?_
  refine lv_iadd hx hb dR_put_39 ?_
  refine W.eq (g2 := F0 m 40 ls [.int 4, .ref a0]) rfl ?_
  refine va_put (D := D) (ci := 2) (v := .int 4) (ty := .int) (C := "ValueBench$Row") (T := TR) (N := 3) hx hb htx inR tyR tyR_ok nmR hown hK hP hD hS 0 rfl rfl 1 (by decide) (htx _ kw_1_85) (fun _ h9 => h9) rfl (by decide +kernel) rfl rfl (Nat.le_of_ble_eq_true rfl) dR_put_40 (fun H locs hP hD hS => ?_)
  have hP : va_P D xcl [(a0, .inr (2, [.ref a1, .int 4, .int 0])), (a1, .inl (cT 2, 4096, .inr (.inl (vp_updL f2 3 108))))] H := hP
  have hD : va_D A [(a0, .inr (2, [.ref a1, .int 4, .int 0])), (a1, .inl (cT 2, 4096, .inr (.inl (vp_updL f2 3 108))))] := hD
  have hP9 := hP.sub (ws' := [(a0, .inr (2, [.ref a1, .int 4, .int 0])), (a1, .inl (cT 2, 4096, .inr (.inl (vp_updL f2 3 108))))]) [0, 1] rfl
  have hD9 := hD.sub (ws' := [(a0, .inr (2, [.ref a1, .int 4, .int 0])), (a1, .inl (cT 2, 4096, .inr (.inl (vp_updL f2 3 108))))]) [0, 1] (by decide) rfl
  refine W.widen (k := 0) (n := 0) (Nat.le_of_ble_eq_true rfl) (Nat.le_of_ble_eq_true rfl) ?_
  exact W.vret hx hb hr (fun t ht hW => ⟨⟨(), rfl, trivial, by rw [ht]; exact hP9, va_K.moved hW.alike hK, hD9⟩, hS.F ht⟩) hS.2.2 dR_put_43
set_option maxHeartbeats 4000000 in
set_option maxRecDepth 100000 in
theorem cT_at_4 (l : Launch) (hl9 : l.stackTraces = false) (D : va_G) (cT : Nat → ClassId) (aK aV : Nat → Nat) (sz : Nat) (a0 : Nat) (a1 : Nat) (v2 : Value) (f3 : Nat → Int32) (h4 : f3 3 = 108) : Met l yT_at wyT_at ({ frames := 0, cells := 0, slots := 0, locals := 0 }) (va_Pc [.ref a0, .int 3] (xPre D xcl cT aK aV sz [(a0, .inr (1, [.ref a1, .int 4, v2])), (a1, .inl (cT 0, 4096, .inl f3))])) (va_Qi (fun (r : Int32) (_ : Unit) => r = 108) (fun _ t => xB D xcl cT (va_A [(a0, .inr (1, [.ref a1, .int 4, v2])), (a1, .inl (cT 0, 4096, .inl f3))] sz) [(a0, .inr (1, [.ref a1, .int 4, v2])), (a1, .inl (cT 0, 4096, .inl f3))] t) (va_A [(a0, .inr (1, [.ref a1, .int 4, v2])), (a1, .inl (cT 0, 4096, .inl f3))] sz)) 0 0 (va_A [(a0, .inr (1, [.ref a1, .int 4, v2])), (a1, .inl (cT 0, 4096, .inl f3))] sz) := by
  refine Met.ofW (cc := prog_11_method_7_code) (maxL := 2) (ret := (some .int)) (by decide) rfl ?_
  intro p e s m args below meth c s₁ B hml hv
  obtain ⟨rfl, hsz, hZ, hP, hK, hD0⟩ := hv
  have hx := B.exec
  have hb := B.bytes
  have hr := B.returns
  have hts := atoms_spec (ws := wyT_at) B.pre
  have htx := fun w h => hts w (List.mem_cons_of_mem _ h)
  have hown : s.vm.findClass "ValueBench$Text" = some m.cls := findClass_of_methodNamed B.named
  have hlocks := B.notSynchronized
  subst hsz
  have hD := hD0.self (sz := s.heap.size)
  generalize hAe : va_A [(a0, .inr (1, [.ref a1, .int 4, v2])), (a1, .inl (cT 0, 4096, .inl f3))] s.heap.size = A at hD hZ ⊢
  have hA : ∀ q : Nat, s.heap.size ≤ q → A q := fun q h => by rw [← hAe]; exact Or.inr h
  have hS : va_S A s.heap s.heap [] := va_S.rf
  have hP : va_P D xcl [(a0, .inr (1, [.ref a1, .int 4, v2])), (a1, .inl (cT 0, 4096, .inl f3))] s.heap := hP
  have hl := lv_entry ([.ref a0, .int 3]) (n := 2) (Nat.le_of_ble_eq_true rfl)
  rw [lg_entry_eq]
  generalize (lg_sl ([.ref a0, .int 3]) ++ List.replicate (2 - (lg_sl ([.ref a0, .int 3])).length) Slot.unset).toArray = ls at hl ⊢
  have hl : lv_has ls 2 [(0, .ref a0), (1, .int 3)] := hl
  refine lv_iload_n hx hb dT_at_0 rfl (lv_at hl 1 rfl) ?_
  refine lv_if_lt (tgt := 25) hx hb dT_at_1 (by decide) (fun h => ((by revert h; decide : False)).elim) (fun _ => ?_)
  refine lv_iload_n hx hb dT_at_4 rfl (lv_at hl 1 rfl) ?_
  refine lv_aload_n hx hb dT_at_5 rfl (lv_at hl 0 rfl) ?_
  refine va_get (D := D) (ci := 1) (v := .int 4) (C := "ValueBench$Text") (T := TT) (N := 3) hx hb htx inT hown hK hP 0 rfl rfl 1 (by decide) (htx _ kw_1_44) (fun _ h9 => h9) rfl dT_at_6 ?_
  refine lv_icmp_ge (tgt := 25) hx hb dT_at_9 (by decide) (fun h => ((by revert h; decide : False)).elim) (fun _ => ?_)
  refine lv_aload_n hx hb dT_at_12 rfl (lv_at hl 0 rfl) ?_
  refine va_get (D := D) (ci := 1) (v := .ref a1) (C := "ValueBench$Text") (T := TT) (N := 3) hx hb htx inT hown hK hP 0 rfl rfl 0 (by decide) (htx _ kw_1_43) (fun _ h9 => h9) rfl dT_at_13 ?_
  refine lv_iload_n hx hb dT_at_16 rfl (lv_at hl 1 rfl) ?_
  refine va_bald hx hb hK hP 1 0 rfl rfl (show ¬ ((3 : Int32) < 0 ∨ 4096 ≤ (3 : Int32).toNatClampNeg) by decide) dT_at_17 ?_
  refine W.eq (g2 := F0 m 18 ls [.int (f3 3)]) rfl ?_
  rw [h4]
  refine W.eq (g2 := F0 m 18 ls [.int 108]) rfl ?_
  refine lv_sipush (v := 255) hx hb dT_at_18 (by decide) ?_
  refine lv_iand hx hb dT_at_21 ?_
  refine W.eq (g2 := F0 m 22 ls [.int 108]) rfl ?_
  refine lv_goto (tgt := 26) hx hb dT_at_22 (by decide) ?_
  have hP9 := hP.sub (ws' := [(a0, .inr (1, [.ref a1, .int 4, v2])), (a1, .inl (cT 0, 4096, .inl f3))]) [0, 1] rfl
  have hD9 := hD.sub (ws' := [(a0, .inr (1, [.ref a1, .int 4, v2])), (a1, .inl (cT 0, 4096, .inl f3))]) [0, 1] (by decide) rfl
  refine W.widen (k := 0) (n := 0) (Nat.le_of_ble_eq_true rfl) (Nat.le_of_ble_eq_true rfl) ?_
  exact W.iret (v := 108) hx hb hr (fun t ht hW => ⟨⟨108, (), rfl, rfl, by rw [ht]; exact hP9, va_K.moved hW.alike hK, hD9⟩, hS.F ht⟩) hS.2.2 dT_at_26
set_option maxHeartbeats 4000000 in
set_option maxRecDepth 100000 in
theorem cR_put_6 (l : Launch) (hl9 : l.stackTraces = false) (D : va_G) (cT : Nat → ClassId) (aK aV : Nat → Nat) (sz : Nat) (a0 : Nat) (a1 : Nat) (f2 : Nat → Int64) : Met l yR_put wyR_put ({ frames := 0, cells := 0, slots := 0, locals := 0 }) (va_Pc [.ref a0, .long 108] (xPre D xcl cT aK aV sz [(a0, .inr (2, [.ref a1, .int 4, .int 0])), (a1, .inl (cT 2, 4096, .inr (.inl f2)))])) (va_Qv (fun _ : Unit => True) (fun _ t => xB D xcl cT (va_A [(a0, .inr (2, [.ref a1, .int 4, .int 0])), (a1, .inl (cT 2, 4096, .inr (.inl f2)))] sz) [(a0, .inr (2, [.ref a1, .int 5, .int 0])), (a1, .inl (cT 2, 4096, .inr (.inl (vp_updL f2 4 108))))] t) (va_A [(a0, .inr (2, [.ref a1, .int 4, .int 0])), (a1, .inl (cT 2, 4096, .inr (.inl f2)))] sz)) 0 0 (va_A [(a0, .inr (2, [.ref a1, .int 4, .int 0])), (a1, .inl (cT 2, 4096, .inr (.inl f2)))] sz) := by
  refine Met.ofW (cc := prog_8_method_16_code) (maxL := 3) (ret := none) (by decide) rfl ?_
  intro p e s m args below meth c s₁ B hml hv
  obtain ⟨rfl, hsz, hZ, hP, hK, hD0⟩ := hv
  have hx := B.exec
  have hb := B.bytes
  have hr := B.returns
  have hts := atoms_spec (ws := wyR_put) B.pre
  have htx := fun w h => hts w (List.mem_cons_of_mem _ h)
  have hown : s.vm.findClass "ValueBench$Row" = some m.cls := findClass_of_methodNamed B.named
  have hlocks := B.notSynchronized
  subst hsz
  have hD := hD0.self (sz := s.heap.size)
  generalize hAe : va_A [(a0, .inr (2, [.ref a1, .int 4, .int 0])), (a1, .inl (cT 2, 4096, .inr (.inl f2)))] s.heap.size = A at hD hZ ⊢
  have hA : ∀ q : Nat, s.heap.size ≤ q → A q := fun q h => by rw [← hAe]; exact Or.inr h
  have hS : va_S A s.heap s.heap [] := va_S.rf
  have hP : va_P D xcl [(a0, .inr (2, [.ref a1, .int 4, .int 0])), (a1, .inl (cT 2, 4096, .inr (.inl f2)))] s.heap := hP
  have hl := lv_entry ([.ref a0, .long 108]) (n := 3) (Nat.le_of_ble_eq_true rfl)
  rw [lg_entry_eq]
  generalize (lg_sl ([.ref a0, .long 108]) ++ List.replicate (3 - (lg_sl ([.ref a0, .long 108])).length) Slot.unset).toArray = ls at hl ⊢
  have hl : lv_has ls 3 [(0, .ref a0), (1, .long 108)] := hl
  refine lv_aload_n hx hb dR_put_0 rfl (lv_at hl 0 rfl) ?_
  refine va_get (D := D) (ci := 2) (v := .int 0) (C := "ValueBench$Row") (T := TR) (N := 3) hx hb htx inR hown hK hP 0 rfl rfl 2 (by decide) (htx _ kw_1_86) (fun _ h9 => h9) rfl dR_put_1 ?_
  refine lv_if_ne (tgt := 17) hx hb dR_put_4 (by decide) (fun h => ((by revert h; decide : False)).elim) (fun _ => ?_)
  refine lv_aload_n hx hb dR_put_7 rfl (lv_at hl 0 rfl) ?_
  refine va_get (D := D) (ci := 2) (v := .int 4) (C := "ValueBench$Row") (T := TR) (N := 3) hx hb htx inR hown hK hP 0 rfl rfl 1 (by decide) (htx _ kw_1_85) (fun _ h9 => h9) rfl dR_put_8 ?_
  refine lv_sipush (v := 4096) hx hb dR_put_11 (by decide) ?_
  refine lv_icmp_lt (tgt := 23) hx hb dR_put_14 (by decide) (fun _ => ?_) (fun h => ((by revert h; decide : False)).elim)
  refine lv_aload_n hx hb dR_put_23 rfl (lv_at hl 0 rfl) ?_
  refine va_get (D := D) (ci := 2) (v := .ref a1) (C := "ValueBench$Row") (T := TR) (N := 3) hx hb htx inR hown hK hP 0 rfl rfl 0 (by decide) (htx _ kw_1_84) (fun _ h9 => h9) rfl dR_put_24 ?_
  refine lv_aload_n hx hb dR_put_27 rfl (lv_at hl 0 rfl) ?_
  refine va_get (D := D) (ci := 2) (v := .int 4) (C := "ValueBench$Row") (T := TR) (N := 3) hx hb htx inR hown hK hP 0 rfl rfl 1 (by decide) (htx _ kw_1_85) (fun _ h9 => h9) rfl dR_put_28 ?_
  refine lv_lload_n hx hb dR_put_31 rfl (lv_at hl 1 rfl) ?_
  refine va_last hx hb hK hP hD hS 1 2 rfl rfl (show ¬ ((4 : Int32) < 0 ∨ 4096 ≤ (4 : Int32).toNatClampNeg) by decide) dR_put_32 (fun H locs hP hD hS => ?_)
  have hP : va_P D xcl [(a0, .inr (2, [.ref a1, .int 4, .int 0])), (a1, .inl (cT 2, 4096, .inr (.inl (vp_updL f2 4 108))))] H := hP
  have hD : va_D A [(a0, .inr (2, [.ref a1, .int 4, .int 0])), (a1, .inl (cT 2, 4096, .inr (.inl (vp_updL f2 4 108))))] := hD
  refine lv_aload_n hx hb dR_put_33 rfl (lv_at hl 0 rfl) ?_
  refine lv_dup hx hb dR_put_34 rfl ?_
  refine va_get (D := D) (ci := 2) (v := .int 4) (C := "ValueBench$Row") (T := TR) (N := 3) hx hb htx inR hown hK hP 0 rfl rfl 1 (by decide) (htx _ kw_1_85) (fun _ h9 => h9) rfl dR_put_35 ?_
  refine lv_iconst (v := 1) hx hb dR_put_38 (by decide) ?_
  refine lv_iadd hx hb dR_put_39 ?_
  refine W.eq (g2 := F0 m 40 ls [.int 5, .ref a0]) rfl ?_
  refine va_put (D := D) (ci := 2) (v := .int 5) (ty := .int) (C := "ValueBench$Row") (T := TR) (N := 3) hx hb htx inR tyR tyR_ok nmR hown hK hP hD hS 0 rfl rfl 1 (by decide) (htx _ kw_1_85) (fun _ h9 => h9) rfl (by decide +kernel) rfl rfl (Nat.le_of_ble_eq_true rfl) dR_put_40 (fun H locs hP hD hS => ?_)
  have hP : va_P D xcl [(a0, .inr (2, [.ref a1, .int 5, .int 0])), (a1, .inl (cT 2, 4096, .inr (.inl (vp_updL f2 4 108))))] H := hP
  have hD : va_D A [(a0, .inr (2, [.ref a1, .int 5, .int 0])), (a1, .inl (cT 2, 4096, .inr (.inl (vp_updL f2 4 108))))] := hD
  have hP9 := hP.sub (ws' := [(a0, .inr (2, [.ref a1, .int 5, .int 0])), (a1, .inl (cT 2, 4096, .inr (.inl (vp_updL f2 4 108))))]) [0, 1] rfl
  have hD9 := hD.sub (ws' := [(a0, .inr (2, [.ref a1, .int 5, .int 0])), (a1, .inl (cT 2, 4096, .inr (.inl (vp_updL f2 4 108))))]) [0, 1] (by decide) rfl
  refine W.widen (k := 0) (n := 0) (Nat.le_of_ble_eq_true rfl) (Nat.le_of_ble_eq_true rfl) ?_
  exact W.vret hx hb hr (fun t ht hW => ⟨⟨(), rfl, trivial, by rw [ht]; exact hP9, va_K.moved hW.alike hK, hD9⟩, hS.F ht⟩) hS.2.2 dR_put_43
set_option maxHeartbeats 4000000 in
set_option maxRecDepth 100000 in
theorem cR_close_0 (l : Launch) (hl9 : l.stackTraces = false) (D : va_G) (cT : Nat → ClassId) (aK aV : Nat → Nat) (sz : Nat) (a0 : Nat) (a1 : Nat) (f2 : Nat → Int64) : Met l yR_close wyR_close ({ frames := 0, cells := 0, slots := 0, locals := 0 }) (va_Pc [.ref a0, .int 0, .int 4, .int 4] (xPre D xcl cT aK aV sz [(a0, .inr (2, [.ref a1, .int 5, .int 0])), (a1, .inl (cT 2, 4096, .inr (.inl f2)))])) (va_Qv (fun _ : Unit => True) (fun _ t => xB D xcl cT (va_A [(a0, .inr (2, [.ref a1, .int 5, .int 0])), (a1, .inl (cT 2, 4096, .inr (.inl f2)))] sz) [(a0, .inr (2, [.ref a1, .int 5, .int 0])), (a1, .inl (cT 2, 4096, .inr (.inl (vp_updL f2 0 2621476))))] t) (va_A [(a0, .inr (2, [.ref a1, .int 5, .int 0])), (a1, .inl (cT 2, 4096, .inr (.inl f2)))] sz)) 0 0 (va_A [(a0, .inr (2, [.ref a1, .int 5, .int 0])), (a1, .inl (cT 2, 4096, .inr (.inl f2)))] sz) := by
  refine Met.ofW (cc := prog_8_method_26_code) (maxL := 4) (ret := none) (by decide) rfl ?_
  intro p e s m args below meth c s₁ B hml hv
  obtain ⟨rfl, hsz, hZ, hP, hK, hD0⟩ := hv
  have hx := B.exec
  have hb := B.bytes
  have hr := B.returns
  have hts := atoms_spec (ws := wyR_close) B.pre
  have htx := fun w h => hts w (List.mem_cons_of_mem _ h)
  have hown : s.vm.findClass "ValueBench$Row" = some m.cls := findClass_of_methodNamed B.named
  have hlocks := B.notSynchronized
  subst hsz
  have hD := hD0.self (sz := s.heap.size)
  generalize hAe : va_A [(a0, .inr (2, [.ref a1, .int 5, .int 0])), (a1, .inl (cT 2, 4096, .inr (.inl f2)))] s.heap.size = A at hD hZ ⊢
  have hA : ∀ q : Nat, s.heap.size ≤ q → A q := fun q h => by rw [← hAe]; exact Or.inr h
  have hS : va_S A s.heap s.heap [] := va_S.rf
  have hP : va_P D xcl [(a0, .inr (2, [.ref a1, .int 5, .int 0])), (a1, .inl (cT 2, 4096, .inr (.inl f2)))] s.heap := hP
  have hl := lv_entry ([.ref a0, .int 0, .int 4, .int 4]) (n := 4) (Nat.le_of_ble_eq_true rfl)
  rw [lg_entry_eq]
  generalize (lg_sl ([.ref a0, .int 0, .int 4, .int 4]) ++ List.replicate (4 - (lg_sl ([.ref a0, .int 0, .int 4, .int 4])).length) Slot.unset).toArray = ls at hl ⊢
  have hl : lv_has ls 4 [(0, .ref a0), (1, .int 0), (2, .int 4), (3, .int 4)] := hl
  refine lv_aload_n hx hb dR_close_0 rfl (lv_at hl 0 rfl) ?_
  refine va_get (D := D) (ci := 2) (v := .int 0) (C := "ValueBench$Row") (T := TR) (N := 3) hx hb htx inR hown hK hP 0 rfl rfl 2 (by decide) (htx _ kw_1_86) (fun _ h9 => h9) rfl dR_close_1 ?_
  refine lv_if_ne (tgt := 43) hx hb dR_close_4 (by decide) (fun h => ((by revert h; decide : False)).elim) (fun _ => ?_)
  refine lv_iload_n hx hb dR_close_7 rfl (lv_at hl 1 rfl) ?_
  refine lv_if_lt (tgt := 43) hx hb dR_close_8 (by decide) (fun h => ((by revert h; decide : False)).elim) (fun _ => ?_)
  refine lv_iload_n hx hb dR_close_11 rfl (lv_at hl 1 rfl) ?_
  refine lv_aload_n hx hb dR_close_12 rfl (lv_at hl 0 rfl) ?_
  refine va_get (D := D) (ci := 2) (v := .int 5) (C := "ValueBench$Row") (T := TR) (N := 3) hx hb htx inR hown hK hP 0 rfl rfl 1 (by decide) (htx _ kw_1_85) (fun _ h9 => h9) rfl dR_close_13 ?_
  refine lv_icmp_ge (tgt := 43) hx hb dR_close_16 (by decide) (fun h => ((by revert h; decide : False)).elim) (fun _ => ?_)
  refine lv_aload_n hx hb dR_close_19 rfl (lv_at hl 0 rfl) ?_
  refine va_get (D := D) (ci := 2) (v := .ref a1) (C := "ValueBench$Row") (T := TR) (N := 3) hx hb htx inR hown hK hP 0 rfl rfl 0 (by decide) (htx _ kw_1_84) (fun _ h9 => h9) rfl dR_close_20 ?_
  refine lv_iload_n hx hb dR_close_23 rfl (lv_at hl 1 rfl) ?_
  refine lv_aload_n hx hb dR_close_24 rfl (lv_at hl 0 rfl) ?_
  refine va_get (D := D) (ci := 2) (v := .int 5) (C := "ValueBench$Row") (T := TR) (N := 3) hx hb htx inR hown hK hP 0 rfl rfl 1 (by decide) (htx _ kw_1_85) (fun _ h9 => h9) rfl dR_close_25 ?_
  refine lv_iload_n hx hb dR_close_28 rfl (lv_at hl 1 rfl) ?_
  refine lv_isub hx hb dR_close_29 ?_
  refine W.eq (g2 := F0 m 30 ls [.int 5, .int 0, .ref a1]) rfl ?_
  refine lv_i2l hx hb dR_close_30 rfl ?_
  refine W.eq (g2 := F0 m 31 ls [.long 5, .int 0, .ref a1]) rfl ?_
  refine lv_bipush (v := 19) hx hb dR_close_31 (by decide) ?_
  refine lv_lshl hx hb dR_close_33 rfl ?_
  refine W.eq (g2 := F0 m 34 ls [.long 2621440, .int 0, .ref a1]) rfl ?_
  refine lv_iload_n hx hb dR_close_34 rfl (lv_at hl 3 rfl) ?_
  refine lv_i2l hx hb dR_close_35 rfl ?_
  refine W.eq (g2 := F0 m 36 ls [.long 4, .long 2621440, .int 0, .ref a1]) rfl ?_
  refine lv_iconst (v := 3) hx hb dR_close_36 (by decide) ?_
  refine lv_lshl hx hb dR_close_37 rfl ?_
  refine W.eq (g2 := F0 m 38 ls [.long 32, .long 2621440, .int 0, .ref a1]) rfl ?_
  refine lv_lor hx hb dR_close_38 ?_
  refine W.eq (g2 := F0 m 39 ls [.long 2621472, .int 0, .ref a1]) rfl ?_
  refine lv_iload_n hx hb dR_close_39 rfl (lv_at hl 2 rfl) ?_
  refine lv_i2l hx hb dR_close_40 rfl ?_
  refine W.eq (g2 := F0 m 41 ls [.long 4, .long 2621472, .int 0, .ref a1]) rfl ?_
  refine lv_lor hx hb dR_close_41 ?_
  refine W.eq (g2 := F0 m 42 ls [.long 2621476, .int 0, .ref a1]) rfl ?_
  refine va_last hx hb hK hP hD hS 1 2 rfl rfl (show ¬ ((0 : Int32) < 0 ∨ 4096 ≤ (0 : Int32).toNatClampNeg) by decide) dR_close_42 (fun H locs hP hD hS => ?_)
  have hP : va_P D xcl [(a0, .inr (2, [.ref a1, .int 5, .int 0])), (a1, .inl (cT 2, 4096, .inr (.inl (vp_updL f2 0 2621476))))] H := hP
  have hD : va_D A [(a0, .inr (2, [.ref a1, .int 5, .int 0])), (a1, .inl (cT 2, 4096, .inr (.inl (vp_updL f2 0 2621476))))] := hD
  have hP9 := hP.sub (ws' := [(a0, .inr (2, [.ref a1, .int 5, .int 0])), (a1, .inl (cT 2, 4096, .inr (.inl (vp_updL f2 0 2621476))))]) [0, 1] rfl
  have hD9 := hD.sub (ws' := [(a0, .inr (2, [.ref a1, .int 5, .int 0])), (a1, .inl (cT 2, 4096, .inr (.inl (vp_updL f2 0 2621476))))]) [0, 1] (by decide) rfl
  refine W.widen (k := 0) (n := 0) (Nat.le_of_ble_eq_true rfl) (Nat.le_of_ble_eq_true rfl) ?_
  exact W.vret hx hb hr (fun t ht hW => ⟨⟨(), rfl, trivial, by rw [ht]; exact hP9, va_K.moved hW.alike hK, hD9⟩, hS.F ht⟩) hS.2.2 dR_close_43
set_option maxHeartbeats 4000000 in
set_option maxRecDepth 100000 in
theorem cR_putText_0 (l : Launch) (hl9 : l.stackTraces = false) (D : va_G) (cT : Nat → ClassId) (aK aV : Nat → Nat) (sz : Nat) (a0 : Nat) (a1 : Nat) (a2 : Nat) (a3 : Nat) (f4 : Nat → Int64) (f5 : Nat → Int32) (h6 : f5 0 = 110) (h7 : f5 1 = 117) (h8 : f5 2 = 108) (h9 : f5 3 = 108) : Met l yR_putText wyR_putText ({ frames := 2, cells := 0, slots := 0, locals := 42 }) (va_Pc [.ref a0, .ref a2] (xPre D xcl cT aK aV sz [(a0, .inr (2, [.ref a1, .int 0, .int 0])), (a1, .inl (cT 2, 4096, .inr (.inl f4))), (a2, .inr (1, [.ref a3, .int 4, .int 0])), (a3, .inl (cT 0, 4096, .inl f5))])) (va_Qv (fun _ : Unit => True) (fun _ t => xB D xcl cT (va_A [(a0, .inr (2, [.ref a1, .int 0, .int 0])), (a1, .inl (cT 2, 4096, .inr (.inl f4))), (a2, .inr (1, [.ref a3, .int 4, .int 0])), (a3, .inl (cT 0, 4096, .inl f5))] sz) [(a0, .inr (2, [.ref a1, .int 5, .int 0])), (a1, .inl (cT 2, 4096, .inr (.inl (vp_updL (vp_updL (vp_updL (vp_updL (vp_updL (vp_updL f4 0 0) 1 110) 2 117) 3 108) 4 108) 0 2621476)))), (a2, .inr (1, [.ref a3, .int 4, .int 0])), (a3, .inl (cT 0, 4096, .inl f5))] t) (va_A [(a0, .inr (2, [.ref a1, .int 0, .int 0])), (a1, .inl (cT 2, 4096, .inr (.inl f4))), (a2, .inr (1, [.ref a3, .int 4, .int 0])), (a3, .inl (cT 0, 4096, .inl f5))] sz)) 0 0 (va_A [(a0, .inr (2, [.ref a1, .int 0, .int 0])), (a1, .inl (cT 2, 4096, .inr (.inl f4))), (a2, .inr (1, [.ref a3, .int 4, .int 0])), (a3, .inl (cT 0, 4096, .inl f5))] sz) := by
  refine Met.ofW (cc := prog_8_method_20_code) (maxL := 4) (ret := none) (by decide) rfl ?_
  intro p e s m args below meth c s₁ B hml hv
  obtain ⟨rfl, hsz, hZ, hP, hK, hD0⟩ := hv
  have hx := B.exec
  have hb := B.bytes
  have hr := B.returns
  have hts := atoms_spec (ws := wyR_putText) B.pre
  have htx := fun w h => hts w (List.mem_cons_of_mem _ h)
  have hown : s.vm.findClass "ValueBench$Row" = some m.cls := findClass_of_methodNamed B.named
  have hlocks := B.notSynchronized
  subst hsz
  have hD := hD0.self (sz := s.heap.size)
  generalize hAe : va_A [(a0, .inr (2, [.ref a1, .int 0, .int 0])), (a1, .inl (cT 2, 4096, .inr (.inl f4))), (a2, .inr (1, [.ref a3, .int 4, .int 0])), (a3, .inl (cT 0, 4096, .inl f5))] s.heap.size = A at hD hZ ⊢
  have hA : ∀ q : Nat, s.heap.size ≤ q → A q := fun q h => by rw [← hAe]; exact Or.inr h
  have hS : va_S A s.heap s.heap [] := va_S.rf
  have hP : va_P D xcl [(a0, .inr (2, [.ref a1, .int 0, .int 0])), (a1, .inl (cT 2, 4096, .inr (.inl f4))), (a2, .inr (1, [.ref a3, .int 4, .int 0])), (a3, .inl (cT 0, 4096, .inl f5))] s.heap := hP
  have hl := lv_entry ([.ref a0, .ref a2]) (n := 4) (Nat.le_of_ble_eq_true rfl)
  rw [lg_entry_eq]
  generalize (lg_sl ([.ref a0, .ref a2]) ++ List.replicate (4 - (lg_sl ([.ref a0, .ref a2])).length) Slot.unset).toArray = ls at hl ⊢
  have hl : lv_has ls 4 [(0, .ref a0), (1, .ref a2)] := hl
  refine lv_aload_n hx hb dR_putText_0 rfl (lv_at hl 0 rfl) ?_
  have hPc := hP.sub (ws' := [(a0, .inr (2, [.ref a1, .int 0, .int 0])), (a1, .inl (cT 2, 4096, .inr (.inl f4)))]) [0, 1] rfl
  have hDc := hD.sub (ws' := [(a0, .inr (2, [.ref a1, .int 0, .int 0])), (a1, .inl (cT 2, 4096, .inr (.inl f4)))]) [0, 1] (by decide) rfl
  have hFc := va_free (wc := [(a0, .inr (2, [.ref a1, .int 0, .int 0])), (a1, .inl (cT 2, 4096, .inr (.inl f4)))]) hD hS hA [0, 1] rfl
  refine va_calli (va_runV (C := "ValueBench$Row") (As := []) (rest := []) ⟨hx, hb, hml, hown, htx⟩ (cR_open_0 l hl9 D cT aK aV s.heap.size a0 a1 f4) ⟨callB_of 0 htx (xw_goodC kw_2_136) rfl rfl rfl (htx _ kw_1_4) (htx _ kw_3_209) ⟨by decide, by decide, by decide +kernel⟩ ⟨Nat.le_of_ble_eq_true rfl, Nat.le_of_ble_eq_true rfl⟩, (htx _ kw_2_134), (htx _ kw_2_135)⟩ ⟨xPre_blind, va_recv hK hP (ci := 2) rfl (q0 := 0) rfl, (fun U hU hW => ⟨rfl, xPre_of hZ hS hFc hPc hDc hK U hU hW⟩)⟩ rfl rfl hl.1 rfl (lv_room (Nat.le_of_ble_eq_true rfl)) dR_putText_1 ⟨Nat.le_of_ble_eq_true rfl, Nat.le_of_ble_eq_true rfl⟩) hS (fun q _ h => hFc q h) hFc (fun r1 u9 t H1 locs ht hvm hr9 hB hz1 hk1 hS => ?_)
  obtain ⟨hP1, hK1, hD1⟩ := hB
  rw [ht] at hP1
  obtain ⟨hP, hD⟩ := va_join (wr := [(a2, .inr (1, [.ref a3, .int 4, .int 0])), (a3, .inl (cT 0, 4096, .inl f5))]) (w1 := [(a0, .inr (2, [.ref a1, .int 1, .int 0])), (a1, .inl (cT 2, 4096, .inr (.inl (vp_updL f4 0 0))))]) hP hD [0, 1] [2, 3] rfl rfl (by decide) (by decide) hk1 hFc hP1 hD1
  generalize H1 = H at hP hS ⊢
  have hP : va_P D xcl [(a2, .inr (1, [.ref a3, .int 4, .int 0])), (a3, .inl (cT 0, 4096, .inl f5)), (a0, .inr (2, [.ref a1, .int 1, .int 0])), (a1, .inl (cT 2, 4096, .inr (.inl (vp_updL f4 0 0))))] H := hP
  have hD : va_D A [(a2, .inr (1, [.ref a3, .int 4, .int 0])), (a3, .inl (cT 0, 4096, .inl f5)), (a0, .inr (2, [.ref a1, .int 1, .int 0])), (a1, .inl (cT 2, 4096, .inr (.inl (vp_updL f4 0 0))))] := hD
  rw [hr9]
  refine W.eq (g2 := F0 m 4 ls [.int 0]) rfl ?_
  refine lv_istore_n (lv' := [(2, .int 0), (0, .ref a0), (1, .ref a2)]) hx hb dR_putText_4 rfl hl (by decide) rfl (fun ls hl => ?_)
  refine lv_iconst (v := 0) hx hb dR_putText_5 (by decide) ?_
  refine lv_istore_n (lv' := [(3, .int 0), (2, .int 0), (0, .ref a0), (1, .ref a2)]) hx hb dR_putText_6 rfl hl (by decide) rfl (fun ls hl => ?_)
  refine lv_iload_n hx hb dR_putText_7 rfl (lv_at hl 0 rfl) ?_
  refine lv_aload_n hx hb dR_putText_8 rfl (lv_at hl 3 rfl) ?_
  have hPc := hP.sub (ws' := [(a2, .inr (1, [.ref a3, .int 4, .int 0]))]) [0] rfl
  have hDc := hD.sub (ws' := [(a2, .inr (1, [.ref a3, .int 4, .int 0]))]) [0] (by decide) rfl
  have hFc := va_free (wc := [(a2, .inr (1, [.ref a3, .int 4, .int 0]))]) hD hS hA [0] rfl
  refine va_calli (va_runV (C := "ValueBench$Text") (As := []) (rest := [.int 0]) ⟨hx, hb, hml, hown, htx⟩ (cT_size_3 l hl9 D cT aK aV H.size a2 (.ref a3) (.int 0)) ⟨callB_of 0 htx (xw_goodC kw_1_131) rfl rfl rfl (htx _ kw_1_2) (htx _ kw_4_87) ⟨by decide, by decide, by decide +kernel⟩ ⟨Nat.le_of_ble_eq_true rfl, Nat.le_of_ble_eq_true rfl⟩, (htx _ kw_1_129), (htx _ kw_1_130)⟩ ⟨xPre_blind, va_recv hK hP (ci := 1) rfl (q0 := 0) rfl, (fun U hU hW => ⟨rfl, xPre_of hZ hS hFc hPc hDc hK U hU hW⟩)⟩ rfl rfl hl.1 rfl (lv_room (Nat.le_of_ble_eq_true rfl)) dR_putText_9 ⟨Nat.le_of_ble_eq_true rfl, Nat.le_of_ble_eq_true rfl⟩) hS (fun q _ h => hFc q h) hFc (fun r2 u9 t H1 locs ht hvm hr9 hB hz1 hk1 hS => ?_)
  obtain ⟨hP1, hK1, hD1⟩ := hB
  rw [ht] at hP1
  obtain ⟨hP, hD⟩ := va_join (wr := [(a3, .inl (cT 0, 4096, .inl f5)), (a0, .inr (2, [.ref a1, .int 1, .int 0])), (a1, .inl (cT 2, 4096, .inr (.inl (vp_updL f4 0 0))))]) (w1 := [(a2, .inr (1, [.ref a3, .int 4, .int 0]))]) hP hD [0] [1, 2, 3] rfl rfl (by decide) (by decide) hk1 hFc hP1 hD1
  generalize H1 = H at hP hS ⊢
  have hP : va_P D xcl [(a3, .inl (cT 0, 4096, .inl f5)), (a0, .inr (2, [.ref a1, .int 1, .int 0])), (a1, .inl (cT 2, 4096, .inr (.inl (vp_updL f4 0 0)))), (a2, .inr (1, [.ref a3, .int 4, .int 0]))] H := hP
  have hD : va_D A [(a3, .inl (cT 0, 4096, .inl f5)), (a0, .inr (2, [.ref a1, .int 1, .int 0])), (a1, .inl (cT 2, 4096, .inr (.inl (vp_updL f4 0 0)))), (a2, .inr (1, [.ref a3, .int 4, .int 0]))] := hD
  rw [hr9]
  refine W.eq (g2 := F0 m 12 ls [.int 4, .int 0]) rfl ?_
  refine lv_icmp_ge (tgt := 31) hx hb dR_putText_12 (by decide) (fun h => ((by revert h; decide : False)).elim) (fun _ => ?_)
  refine lv_aload_n hx hb dR_putText_15 rfl (lv_at hl 2 rfl) ?_
  refine lv_aload_n hx hb dR_putText_16 rfl (lv_at hl 3 rfl) ?_
  refine lv_iload_n hx hb dR_putText_17 rfl (lv_at hl 0 rfl) ?_
  have hPc := hP.sub (ws' := [(a2, .inr (1, [.ref a3, .int 4, .int 0])), (a3, .inl (cT 0, 4096, .inl f5))]) [3, 0] rfl
  have hDc := hD.sub (ws' := [(a2, .inr (1, [.ref a3, .int 4, .int 0])), (a3, .inl (cT 0, 4096, .inl f5))]) [3, 0] (by decide) rfl
  have hFc := va_free (wc := [(a2, .inr (1, [.ref a3, .int 4, .int 0])), (a3, .inl (cT 0, 4096, .inl f5))]) hD hS hA [3, 0] rfl
  refine va_calli (va_runV (C := "ValueBench$Text") (As := [.int 0]) (rest := [.ref a0]) ⟨hx, hb, hml, hown, htx⟩ (cT_at_1 l hl9 D cT aK aV H.size a2 a3 (.int 0) f5 (by first | rfl | exact h6 | exact h7 | exact h8 | exact h9)) ⟨callB_of 1 htx (xw_goodC kw_2_58) rfl rfl rfl (htx _ kw_1_2) (htx _ kw_4_88) ⟨by decide, by decide, by decide +kernel⟩ ⟨Nat.le_of_ble_eq_true rfl, Nat.le_of_ble_eq_true rfl⟩, (htx _ kw_2_56), (htx _ kw_2_57)⟩ ⟨xPre_blind, va_recv hK hP (ci := 1) rfl (q0 := 3) rfl, (fun U hU hW => ⟨rfl, xPre_of hZ hS hFc hPc hDc hK U hU hW⟩)⟩ rfl rfl hl.1 rfl (lv_room (Nat.le_of_ble_eq_true rfl)) dR_putText_18 ⟨Nat.le_of_ble_eq_true rfl, Nat.le_of_ble_eq_true rfl⟩) hS (fun q _ h => hFc q h) hFc (fun r3 u9 t H1 locs ht hvm hr9 hB hz1 hk1 hS => ?_)
  obtain ⟨hP1, hK1, hD1⟩ := hB
  rw [ht] at hP1
  obtain ⟨hP, hD⟩ := va_join (wr := [(a0, .inr (2, [.ref a1, .int 1, .int 0])), (a1, .inl (cT 2, 4096, .inr (.inl (vp_updL f4 0 0))))]) (w1 := [(a2, .inr (1, [.ref a3, .int 4, .int 0])), (a3, .inl (cT 0, 4096, .inl f5))]) hP hD [3, 0] [1, 2] rfl rfl (by decide) (by decide) hk1 hFc hP1 hD1
  generalize H1 = H at hP hS ⊢
  have hP : va_P D xcl [(a0, .inr (2, [.ref a1, .int 1, .int 0])), (a1, .inl (cT 2, 4096, .inr (.inl (vp_updL f4 0 0)))), (a2, .inr (1, [.ref a3, .int 4, .int 0])), (a3, .inl (cT 0, 4096, .inl f5))] H := hP
  have hD : va_D A [(a0, .inr (2, [.ref a1, .int 1, .int 0])), (a1, .inl (cT 2, 4096, .inr (.inl (vp_updL f4 0 0)))), (a2, .inr (1, [.ref a3, .int 4, .int 0])), (a3, .inl (cT 0, 4096, .inl f5))] := hD
  rw [hr9]
  refine W.eq (g2 := F0 m 21 ls [.int 110, .ref a0]) rfl ?_
  refine lv_i2l hx hb dR_putText_21 rfl ?_
  refine W.eq (g2 := F0 m 22 ls [.long 110, .ref a0]) rfl ?_
  have hPc := hP.sub (ws' := [(a0, .inr (2, [.ref a1, .int 1, .int 0])), (a1, .inl (cT 2, 4096, .inr (.inl (vp_updL f4 0 0))))]) [0, 1] rfl
  have hDc := hD.sub (ws' := [(a0, .inr (2, [.ref a1, .int 1, .int 0])), (a1, .inl (cT 2, 4096, .inr (.inl (vp_updL f4 0 0))))]) [0, 1] (by decide) rfl
  have hFc := va_free (wc := [(a0, .inr (2, [.ref a1, .int 1, .int 0])), (a1, .inl (cT 2, 4096, .inr (.inl (vp_updL f4 0 0))))]) hD hS hA [0, 1] rfl
  refine va_callv (va_runV (C := "ValueBench$Row") (As := [.long 110]) (rest := []) ⟨hx, hb, hml, hown, htx⟩ (cR_put_3 l hl9 D cT aK aV H.size a0 a1 (vp_updL f4 0 0)) ⟨callB_of 1 htx (xw_goodC kw_2_126) rfl rfl rfl (htx _ kw_1_4) (htx _ kw_2_137) ⟨by decide, by decide, by decide +kernel⟩ ⟨Nat.le_of_ble_eq_true rfl, Nat.le_of_ble_eq_true rfl⟩, (htx _ kw_2_124), (htx _ kw_2_125)⟩ ⟨xPre_blind, va_recv hK hP (ci := 2) rfl (q0 := 0) rfl, (fun U hU hW => ⟨rfl, xPre_of hZ hS hFc hPc hDc hK U hU hW⟩)⟩ rfl rfl hl.1 rfl (lv_room (Nat.le_of_ble_eq_true rfl)) dR_putText_22 ⟨Nat.le_of_ble_eq_true rfl, Nat.le_of_ble_eq_true rfl⟩) hS (fun q _ h => hFc q h) hFc (fun u9 t H1 locs ht hvm hr9 hB hz1 hk1 hS => ?_)
  obtain ⟨hP1, hK1, hD1⟩ := hB
  rw [ht] at hP1
  obtain ⟨hP, hD⟩ := va_join (wr := [(a2, .inr (1, [.ref a3, .int 4, .int 0])), (a3, .inl (cT 0, 4096, .inl f5))]) (w1 := [(a0, .inr (2, [.ref a1, .int 2, .int 0])), (a1, .inl (cT 2, 4096, .inr (.inl (vp_updL (vp_updL f4 0 0) 1 110))))]) hP hD [0, 1] [2, 3] rfl rfl (by decide) (by decide) hk1 hFc hP1 hD1
  generalize H1 = H at hP hS ⊢
  have hP : va_P D xcl [(a2, .inr (1, [.ref a3, .int 4, .int 0])), (a3, .inl (cT 0, 4096, .inl f5)), (a0, .inr (2, [.ref a1, .int 2, .int 0])), (a1, .inl (cT 2, 4096, .inr (.inl (vp_updL (vp_updL f4 0 0) 1 110))))] H := hP
  have hD : va_D A [(a2, .inr (1, [.ref a3, .int 4, .int 0])), (a3, .inl (cT 0, 4096, .inl f5)), (a0, .inr (2, [.ref a1, .int 2, .int 0])), (a1, .inl (cT 2, 4096, .inr (.inl (vp_updL (vp_updL f4 0 0) 1 110))))] := hD
  refine lv_iinc (v := 1) (lv' := [(3, .int 1), (2, .int 0), (0, .ref a0), (1, .ref a2)]) hx hb dR_putText_25 hl (k := 0) rfl (by decide) (by decide) rfl (fun ls hl => ?_)
  refine lv_goto (tgt := 7) hx hb dR_putText_28 (by decide) ?_
  refine lv_iload_n hx hb dR_putText_7 rfl (lv_at hl 0 rfl) ?_
  refine lv_aload_n hx hb dR_putText_8 rfl (lv_at hl 3 rfl) ?_
  have hPc := hP.sub (ws' := [(a2, .inr (1, [.ref a3, .int 4, .int 0]))]) [0] rfl
  have hDc := hD.sub (ws' := [(a2, .inr (1, [.ref a3, .int 4, .int 0]))]) [0] (by decide) rfl
  have hFc := va_free (wc := [(a2, .inr (1, [.ref a3, .int 4, .int 0]))]) hD hS hA [0] rfl
  refine va_calli (va_runV (C := "ValueBench$Text") (As := []) (rest := [.int 1]) ⟨hx, hb, hml, hown, htx⟩ (cT_size_3 l hl9 D cT aK aV H.size a2 (.ref a3) (.int 0)) ⟨callB_of 0 htx (xw_goodC kw_1_131) rfl rfl rfl (htx _ kw_1_2) (htx _ kw_4_87) ⟨by decide, by decide, by decide +kernel⟩ ⟨Nat.le_of_ble_eq_true rfl, Nat.le_of_ble_eq_true rfl⟩, (htx _ kw_1_129), (htx _ kw_1_130)⟩ ⟨xPre_blind, va_recv hK hP (ci := 1) rfl (q0 := 0) rfl, (fun U hU hW => ⟨rfl, xPre_of hZ hS hFc hPc hDc hK U hU hW⟩)⟩ rfl rfl hl.1 rfl (lv_room (Nat.le_of_ble_eq_true rfl)) dR_putText_9 ⟨Nat.le_of_ble_eq_true rfl, Nat.le_of_ble_eq_true rfl⟩) hS (fun q _ h => hFc q h) hFc (fun r4 u9 t H1 locs ht hvm hr9 hB hz1 hk1 hS => ?_)
  obtain ⟨hP1, hK1, hD1⟩ := hB
  rw [ht] at hP1
  obtain ⟨hP, hD⟩ := va_join (wr := [(a3, .inl (cT 0, 4096, .inl f5)), (a0, .inr (2, [.ref a1, .int 2, .int 0])), (a1, .inl (cT 2, 4096, .inr (.inl (vp_updL (vp_updL f4 0 0) 1 110))))]) (w1 := [(a2, .inr (1, [.ref a3, .int 4, .int 0]))]) hP hD [0] [1, 2, 3] rfl rfl (by decide) (by decide) hk1 hFc hP1 hD1
  generalize H1 = H at hP hS ⊢
  have hP : va_P D xcl [(a3, .inl (cT 0, 4096, .inl f5)), (a0, .inr (2, [.ref a1, .int 2, .int 0])), (a1, .inl (cT 2, 4096, .inr (.inl (vp_updL (vp_updL f4 0 0) 1 110)))), (a2, .inr (1, [.ref a3, .int 4, .int 0]))] H := hP
  have hD : va_D A [(a3, .inl (cT 0, 4096, .inl f5)), (a0, .inr (2, [.ref a1, .int 2, .int 0])), (a1, .inl (cT 2, 4096, .inr (.inl (vp_updL (vp_updL f4 0 0) 1 110)))), (a2, .inr (1, [.ref a3, .int 4, .int 0]))] := hD
  rw [hr9]
  refine W.eq (g2 := F0 m 12 ls [.int 4, .int 1]) rfl ?_
  refine lv_icmp_ge (tgt := 31) hx hb dR_putText_12 (by decide) (fun h => ((by revert h; decide : False)).elim) (fun _ => ?_)
  refine lv_aload_n hx hb dR_putText_15 rfl (lv_at hl 2 rfl) ?_
  refine lv_aload_n hx hb dR_putText_16 rfl (lv_at hl 3 rfl) ?_
  refine lv_iload_n hx hb dR_putText_17 rfl (lv_at hl 0 rfl) ?_
  have hPc := hP.sub (ws' := [(a2, .inr (1, [.ref a3, .int 4, .int 0])), (a3, .inl (cT 0, 4096, .inl f5))]) [3, 0] rfl
  have hDc := hD.sub (ws' := [(a2, .inr (1, [.ref a3, .int 4, .int 0])), (a3, .inl (cT 0, 4096, .inl f5))]) [3, 0] (by decide) rfl
  have hFc := va_free (wc := [(a2, .inr (1, [.ref a3, .int 4, .int 0])), (a3, .inl (cT 0, 4096, .inl f5))]) hD hS hA [3, 0] rfl
  refine va_calli (va_runV (C := "ValueBench$Text") (As := [.int 1]) (rest := [.ref a0]) ⟨hx, hb, hml, hown, htx⟩ (cT_at_2 l hl9 D cT aK aV H.size a2 a3 (.int 0) f5 (by first | rfl | exact h6 | exact h7 | exact h8 | exact h9)) ⟨callB_of 1 htx (xw_goodC kw_2_58) rfl rfl rfl (htx _ kw_1_2) (htx _ kw_4_88) ⟨by decide, by decide, by decide +kernel⟩ ⟨Nat.le_of_ble_eq_true rfl, Nat.le_of_ble_eq_true rfl⟩, (htx _ kw_2_56), (htx _ kw_2_57)⟩ ⟨xPre_blind, va_recv hK hP (ci := 1) rfl (q0 := 3) rfl, (fun U hU hW => ⟨rfl, xPre_of hZ hS hFc hPc hDc hK U hU hW⟩)⟩ rfl rfl hl.1 rfl (lv_room (Nat.le_of_ble_eq_true rfl)) dR_putText_18 ⟨Nat.le_of_ble_eq_true rfl, Nat.le_of_ble_eq_true rfl⟩) hS (fun q _ h => hFc q h) hFc (fun r5 u9 t H1 locs ht hvm hr9 hB hz1 hk1 hS => ?_)
  obtain ⟨hP1, hK1, hD1⟩ := hB
  rw [ht] at hP1
  obtain ⟨hP, hD⟩ := va_join (wr := [(a0, .inr (2, [.ref a1, .int 2, .int 0])), (a1, .inl (cT 2, 4096, .inr (.inl (vp_updL (vp_updL f4 0 0) 1 110))))]) (w1 := [(a2, .inr (1, [.ref a3, .int 4, .int 0])), (a3, .inl (cT 0, 4096, .inl f5))]) hP hD [3, 0] [1, 2] rfl rfl (by decide) (by decide) hk1 hFc hP1 hD1
  generalize H1 = H at hP hS ⊢
  have hP : va_P D xcl [(a0, .inr (2, [.ref a1, .int 2, .int 0])), (a1, .inl (cT 2, 4096, .inr (.inl (vp_updL (vp_updL f4 0 0) 1 110)))), (a2, .inr (1, [.ref a3, .int 4, .int 0])), (a3, .inl (cT 0, 4096, .inl f5))] H := hP
  have hD : va_D A [(a0, .inr (2, [.ref a1, .int 2, .int 0])), (a1, .inl (cT 2, 4096, .inr (.inl (vp_updL (vp_updL f4 0 0) 1 110)))), (a2, .inr (1, [.ref a3, .int 4, .int 0])), (a3, .inl (cT 0, 4096, .inl f5))] := hD
  rw [hr9]
  refine W.eq (g2 := F0 m 21 ls [.int 117, .ref a0]) rfl ?_
  refine lv_i2l hx hb dR_putText_21 rfl ?_
  refine W.eq (g2 := F0 m 22 ls [.long 117, .ref a0]) rfl ?_
  have hPc := hP.sub (ws' := [(a0, .inr (2, [.ref a1, .int 2, .int 0])), (a1, .inl (cT 2, 4096, .inr (.inl (vp_updL (vp_updL f4 0 0) 1 110))))]) [0, 1] rfl
  have hDc := hD.sub (ws' := [(a0, .inr (2, [.ref a1, .int 2, .int 0])), (a1, .inl (cT 2, 4096, .inr (.inl (vp_updL (vp_updL f4 0 0) 1 110))))]) [0, 1] (by decide) rfl
  have hFc := va_free (wc := [(a0, .inr (2, [.ref a1, .int 2, .int 0])), (a1, .inl (cT 2, 4096, .inr (.inl (vp_updL (vp_updL f4 0 0) 1 110))))]) hD hS hA [0, 1] rfl
  refine va_callv (va_runV (C := "ValueBench$Row") (As := [.long 117]) (rest := []) ⟨hx, hb, hml, hown, htx⟩ (cR_put_4 l hl9 D cT aK aV H.size a0 a1 (vp_updL (vp_updL f4 0 0) 1 110)) ⟨callB_of 1 htx (xw_goodC kw_2_126) rfl rfl rfl (htx _ kw_1_4) (htx _ kw_2_137) ⟨by decide, by decide, by decide +kernel⟩ ⟨Nat.le_of_ble_eq_true rfl, Nat.le_of_ble_eq_true rfl⟩, (htx _ kw_2_124), (htx _ kw_2_125)⟩ ⟨xPre_blind, va_recv hK hP (ci := 2) rfl (q0 := 0) rfl, (fun U hU hW => ⟨rfl, xPre_of hZ hS hFc hPc hDc hK U hU hW⟩)⟩ rfl rfl hl.1 rfl (lv_room (Nat.le_of_ble_eq_true rfl)) dR_putText_22 ⟨Nat.le_of_ble_eq_true rfl, Nat.le_of_ble_eq_true rfl⟩) hS (fun q _ h => hFc q h) hFc (fun u9 t H1 locs ht hvm hr9 hB hz1 hk1 hS => ?_)
  obtain ⟨hP1, hK1, hD1⟩ := hB
  rw [ht] at hP1
  obtain ⟨hP, hD⟩ := va_join (wr := [(a2, .inr (1, [.ref a3, .int 4, .int 0])), (a3, .inl (cT 0, 4096, .inl f5))]) (w1 := [(a0, .inr (2, [.ref a1, .int 3, .int 0])), (a1, .inl (cT 2, 4096, .inr (.inl (vp_updL (vp_updL (vp_updL f4 0 0) 1 110) 2 117))))]) hP hD [0, 1] [2, 3] rfl rfl (by decide) (by decide) hk1 hFc hP1 hD1
  generalize H1 = H at hP hS ⊢
  have hP : va_P D xcl [(a2, .inr (1, [.ref a3, .int 4, .int 0])), (a3, .inl (cT 0, 4096, .inl f5)), (a0, .inr (2, [.ref a1, .int 3, .int 0])), (a1, .inl (cT 2, 4096, .inr (.inl (vp_updL (vp_updL (vp_updL f4 0 0) 1 110) 2 117))))] H := hP
  have hD : va_D A [(a2, .inr (1, [.ref a3, .int 4, .int 0])), (a3, .inl (cT 0, 4096, .inl f5)), (a0, .inr (2, [.ref a1, .int 3, .int 0])), (a1, .inl (cT 2, 4096, .inr (.inl (vp_updL (vp_updL (vp_updL f4 0 0) 1 110) 2 117))))] := hD
  refine lv_iinc (v := 2) (lv' := [(3, .int 2), (2, .int 0), (0, .ref a0), (1, .ref a2)]) hx hb dR_putText_25 hl (k := 0) rfl (by decide) (by decide) rfl (fun ls hl => ?_)
  refine lv_goto (tgt := 7) hx hb dR_putText_28 (by decide) ?_
  refine lv_iload_n hx hb dR_putText_7 rfl (lv_at hl 0 rfl) ?_
  refine lv_aload_n hx hb dR_putText_8 rfl (lv_at hl 3 rfl) ?_
  have hPc := hP.sub (ws' := [(a2, .inr (1, [.ref a3, .int 4, .int 0]))]) [0] rfl
  have hDc := hD.sub (ws' := [(a2, .inr (1, [.ref a3, .int 4, .int 0]))]) [0] (by decide) rfl
  have hFc := va_free (wc := [(a2, .inr (1, [.ref a3, .int 4, .int 0]))]) hD hS hA [0] rfl
  refine va_calli (va_runV (C := "ValueBench$Text") (As := []) (rest := [.int 2]) ⟨hx, hb, hml, hown, htx⟩ (cT_size_3 l hl9 D cT aK aV H.size a2 (.ref a3) (.int 0)) ⟨callB_of 0 htx (xw_goodC kw_1_131) rfl rfl rfl (htx _ kw_1_2) (htx _ kw_4_87) ⟨by decide, by decide, by decide +kernel⟩ ⟨Nat.le_of_ble_eq_true rfl, Nat.le_of_ble_eq_true rfl⟩, (htx _ kw_1_129), (htx _ kw_1_130)⟩ ⟨xPre_blind, va_recv hK hP (ci := 1) rfl (q0 := 0) rfl, (fun U hU hW => ⟨rfl, xPre_of hZ hS hFc hPc hDc hK U hU hW⟩)⟩ rfl rfl hl.1 rfl (lv_room (Nat.le_of_ble_eq_true rfl)) dR_putText_9 ⟨Nat.le_of_ble_eq_true rfl, Nat.le_of_ble_eq_true rfl⟩) hS (fun q _ h => hFc q h) hFc (fun r6 u9 t H1 locs ht hvm hr9 hB hz1 hk1 hS => ?_)
  obtain ⟨hP1, hK1, hD1⟩ := hB
  rw [ht] at hP1
  obtain ⟨hP, hD⟩ := va_join (wr := [(a3, .inl (cT 0, 4096, .inl f5)), (a0, .inr (2, [.ref a1, .int 3, .int 0])), (a1, .inl (cT 2, 4096, .inr (.inl (vp_updL (vp_updL (vp_updL f4 0 0) 1 110) 2 117))))]) (w1 := [(a2, .inr (1, [.ref a3, .int 4, .int 0]))]) hP hD [0] [1, 2, 3] rfl rfl (by decide) (by decide) hk1 hFc hP1 hD1
  generalize H1 = H at hP hS ⊢
  have hP : va_P D xcl [(a3, .inl (cT 0, 4096, .inl f5)), (a0, .inr (2, [.ref a1, .int 3, .int 0])), (a1, .inl (cT 2, 4096, .inr (.inl (vp_updL (vp_updL (vp_updL f4 0 0) 1 110) 2 117)))), (a2, .inr (1, [.ref a3, .int 4, .int 0]))] H := hP
  have hD : va_D A [(a3, .inl (cT 0, 4096, .inl f5)), (a0, .inr (2, [.ref a1, .int 3, .int 0])), (a1, .inl (cT 2, 4096, .inr (.inl (vp_updL (vp_updL (vp_updL f4 0 0) 1 110) 2 117)))), (a2, .inr (1, [.ref a3, .int 4, .int 0]))] := hD
  rw [hr9]
  refine W.eq (g2 := F0 m 12 ls [.int 4, .int 2]) rfl ?_
  refine lv_icmp_ge (tgt := 31) hx hb dR_putText_12 (by decide) (fun h => ((by revert h; decide : False)).elim) (fun _ => ?_)
  refine lv_aload_n hx hb dR_putText_15 rfl (lv_at hl 2 rfl) ?_
  refine lv_aload_n hx hb dR_putText_16 rfl (lv_at hl 3 rfl) ?_
  refine lv_iload_n hx hb dR_putText_17 rfl (lv_at hl 0 rfl) ?_
  have hPc := hP.sub (ws' := [(a2, .inr (1, [.ref a3, .int 4, .int 0])), (a3, .inl (cT 0, 4096, .inl f5))]) [3, 0] rfl
  have hDc := hD.sub (ws' := [(a2, .inr (1, [.ref a3, .int 4, .int 0])), (a3, .inl (cT 0, 4096, .inl f5))]) [3, 0] (by decide) rfl
  have hFc := va_free (wc := [(a2, .inr (1, [.ref a3, .int 4, .int 0])), (a3, .inl (cT 0, 4096, .inl f5))]) hD hS hA [3, 0] rfl
  refine va_calli (va_runV (C := "ValueBench$Text") (As := [.int 2]) (rest := [.ref a0]) ⟨hx, hb, hml, hown, htx⟩ (cT_at_3 l hl9 D cT aK aV H.size a2 a3 (.int 0) f5 (by first | rfl | exact h6 | exact h7 | exact h8 | exact h9)) ⟨callB_of 1 htx (xw_goodC kw_2_58) rfl rfl rfl (htx _ kw_1_2) (htx _ kw_4_88) ⟨by decide, by decide, by decide +kernel⟩ ⟨Nat.le_of_ble_eq_true rfl, Nat.le_of_ble_eq_true rfl⟩, (htx _ kw_2_56), (htx _ kw_2_57)⟩ ⟨xPre_blind, va_recv hK hP (ci := 1) rfl (q0 := 3) rfl, (fun U hU hW => ⟨rfl, xPre_of hZ hS hFc hPc hDc hK U hU hW⟩)⟩ rfl rfl hl.1 rfl (lv_room (Nat.le_of_ble_eq_true rfl)) dR_putText_18 ⟨Nat.le_of_ble_eq_true rfl, Nat.le_of_ble_eq_true rfl⟩) hS (fun q _ h => hFc q h) hFc (fun r7 u9 t H1 locs ht hvm hr9 hB hz1 hk1 hS => ?_)
  obtain ⟨hP1, hK1, hD1⟩ := hB
  rw [ht] at hP1
  obtain ⟨hP, hD⟩ := va_join (wr := [(a0, .inr (2, [.ref a1, .int 3, .int 0])), (a1, .inl (cT 2, 4096, .inr (.inl (vp_updL (vp_updL (vp_updL f4 0 0) 1 110) 2 117))))]) (w1 := [(a2, .inr (1, [.ref a3, .int 4, .int 0])), (a3, .inl (cT 0, 4096, .inl f5))]) hP hD [3, 0] [1, 2] rfl rfl (by decide) (by decide) hk1 hFc hP1 hD1
  generalize H1 = H at hP hS ⊢
  have hP : va_P D xcl [(a0, .inr (2, [.ref a1, .int 3, .int 0])), (a1, .inl (cT 2, 4096, .inr (.inl (vp_updL (vp_updL (vp_updL f4 0 0) 1 110) 2 117)))), (a2, .inr (1, [.ref a3, .int 4, .int 0])), (a3, .inl (cT 0, 4096, .inl f5))] H := hP
  have hD : va_D A [(a0, .inr (2, [.ref a1, .int 3, .int 0])), (a1, .inl (cT 2, 4096, .inr (.inl (vp_updL (vp_updL (vp_updL f4 0 0) 1 110) 2 117)))), (a2, .inr (1, [.ref a3, .int 4, .int 0])), (a3, .inl (cT 0, 4096, .inl f5))] := hD
  rw [hr9]
  refine W.eq (g2 := F0 m 21 ls [.int 108, .ref a0]) rfl ?_
  refine lv_i2l hx hb dR_putText_21 rfl ?_
  refine W.eq (g2 := F0 m 22 ls [.long 108, .ref a0]) rfl ?_
  have hPc := hP.sub (ws' := [(a0, .inr (2, [.ref a1, .int 3, .int 0])), (a1, .inl (cT 2, 4096, .inr (.inl (vp_updL (vp_updL (vp_updL f4 0 0) 1 110) 2 117))))]) [0, 1] rfl
  have hDc := hD.sub (ws' := [(a0, .inr (2, [.ref a1, .int 3, .int 0])), (a1, .inl (cT 2, 4096, .inr (.inl (vp_updL (vp_updL (vp_updL f4 0 0) 1 110) 2 117))))]) [0, 1] (by decide) rfl
  have hFc := va_free (wc := [(a0, .inr (2, [.ref a1, .int 3, .int 0])), (a1, .inl (cT 2, 4096, .inr (.inl (vp_updL (vp_updL (vp_updL f4 0 0) 1 110) 2 117))))]) hD hS hA [0, 1] rfl
  refine va_callv (va_runV (C := "ValueBench$Row") (As := [.long 108]) (rest := []) ⟨hx, hb, hml, hown, htx⟩ (cR_put_5 l hl9 D cT aK aV H.size a0 a1 (vp_updL (vp_updL (vp_updL f4 0 0) 1 110) 2 117)) ⟨callB_of 1 htx (xw_goodC kw_2_126) rfl rfl rfl (htx _ kw_1_4) (htx _ kw_2_137) ⟨by decide, by decide, by decide +kernel⟩ ⟨Nat.le_of_ble_eq_true rfl, Nat.le_of_ble_eq_true rfl⟩, (htx _ kw_2_124), (htx _ kw_2_125)⟩ ⟨xPre_blind, va_recv hK hP (ci := 2) rfl (q0 := 0) rfl, (fun U hU hW => ⟨rfl, xPre_of hZ hS hFc hPc hDc hK U hU hW⟩)⟩ rfl rfl hl.1 rfl (lv_room (Nat.le_of_ble_eq_true rfl)) dR_putText_22 ⟨Nat.le_of_ble_eq_true rfl, Nat.le_of_ble_eq_true rfl⟩) hS (fun q _ h => hFc q h) hFc (fun u9 t H1 locs ht hvm hr9 hB hz1 hk1 hS => ?_)
  obtain ⟨hP1, hK1, hD1⟩ := hB
  rw [ht] at hP1
  obtain ⟨hP, hD⟩ := va_join (wr := [(a2, .inr (1, [.ref a3, .int 4, .int 0])), (a3, .inl (cT 0, 4096, .inl f5))]) (w1 := [(a0, .inr (2, [.ref a1, .int 4, .int 0])), (a1, .inl (cT 2, 4096, .inr (.inl (vp_updL (vp_updL (vp_updL (vp_updL f4 0 0) 1 110) 2 117) 3 108))))]) hP hD [0, 1] [2, 3] rfl rfl (by decide) (by decide) hk1 hFc hP1 hD1
  generalize H1 = H at hP hS ⊢
  have hP : va_P D xcl [(a2, .inr (1, [.ref a3, .int 4, .int 0])), (a3, .inl (cT 0, 4096, .inl f5)), (a0, .inr (2, [.ref a1, .int 4, .int 0])), (a1, .inl (cT 2, 4096, .inr (.inl (vp_updL (vp_updL (vp_updL (vp_updL f4 0 0) 1 110) 2 117) 3 108))))] H := hP
  have hD : va_D A [(a2, .inr (1, [.ref a3, .int 4, .int 0])), (a3, .inl (cT 0, 4096, .inl f5)), (a0, .inr (2, [.ref a1, .int 4, .int 0])), (a1, .inl (cT 2, 4096, .inr (.inl (vp_updL (vp_updL (vp_updL (vp_updL f4 0 0) 1 110) 2 117) 3 108))))] := hD
  refine lv_iinc (v := 3) (lv' := [(3, .int 3), (2, .int 0), (0, .ref a0), (1, .ref a2)]) hx hb dR_putText_25 hl (k := 0) rfl (by decide) (by decide) rfl (fun ls hl => ?_)
  refine lv_goto (tgt := 7) hx hb dR_putText_28 (by decide) ?_
  refine lv_iload_n hx hb dR_putText_7 rfl (lv_at hl 0 rfl) ?_
  refine lv_aload_n hx hb dR_putText_8 rfl (lv_at hl 3 rfl) ?_
  have hPc := hP.sub (ws' := [(a2, .inr (1, [.ref a3, .int 4, .int 0]))]) [0] rfl
  have hDc := hD.sub (ws' := [(a2, .inr (1, [.ref a3, .int 4, .int 0]))]) [0] (by decide) rfl
  have hFc := va_free (wc := [(a2, .inr (1, [.ref a3, .int 4, .int 0]))]) hD hS hA [0] rfl
  refine va_calli (va_runV (C := "ValueBench$Text") (As := []) (rest := [.int 3]) ⟨hx, hb, hml, hown, htx⟩ (cT_size_3 l hl9 D cT aK aV H.size a2 (.ref a3) (.int 0)) ⟨callB_of 0 htx (xw_goodC kw_1_131) rfl rfl rfl (htx _ kw_1_2) (htx _ kw_4_87) ⟨by decide, by decide, by decide +kernel⟩ ⟨Nat.le_of_ble_eq_true rfl, Nat.le_of_ble_eq_true rfl⟩, (htx _ kw_1_129), (htx _ kw_1_130)⟩ ⟨xPre_blind, va_recv hK hP (ci := 1) rfl (q0 := 0) rfl, (fun U hU hW => ⟨rfl, xPre_of hZ hS hFc hPc hDc hK U hU hW⟩)⟩ rfl rfl hl.1 rfl (lv_room (Nat.le_of_ble_eq_true rfl)) dR_putText_9 ⟨Nat.le_of_ble_eq_true rfl, Nat.le_of_ble_eq_true rfl⟩) hS (fun q _ h => hFc q h) hFc (fun r8 u9 t H1 locs ht hvm hr9 hB hz1 hk1 hS => ?_)
  obtain ⟨hP1, hK1, hD1⟩ := hB
  rw [ht] at hP1
  obtain ⟨hP, hD⟩ := va_join (wr := [(a3, .inl (cT 0, 4096, .inl f5)), (a0, .inr (2, [.ref a1, .int 4, .int 0])), (a1, .inl (cT 2, 4096, .inr (.inl (vp_updL (vp_updL (vp_updL (vp_updL f4 0 0) 1 110) 2 117) 3 108))))]) (w1 := [(a2, .inr (1, [.ref a3, .int 4, .int 0]))]) hP hD [0] [1, 2, 3] rfl rfl (by decide) (by decide) hk1 hFc hP1 hD1
  generalize H1 = H at hP hS ⊢
  have hP : va_P D xcl [(a3, .inl (cT 0, 4096, .inl f5)), (a0, .inr (2, [.ref a1, .int 4, .int 0])), (a1, .inl (cT 2, 4096, .inr (.inl (vp_updL (vp_updL (vp_updL (vp_updL f4 0 0) 1 110) 2 117) 3 108)))), (a2, .inr (1, [.ref a3, .int 4, .int 0]))] H := hP
  have hD : va_D A [(a3, .inl (cT 0, 4096, .inl f5)), (a0, .inr (2, [.ref a1, .int 4, .int 0])), (a1, .inl (cT 2, 4096, .inr (.inl (vp_updL (vp_updL (vp_updL (vp_updL f4 0 0) 1 110) 2 117) 3 108)))), (a2, .inr (1, [.ref a3, .int 4, .int 0]))] := hD
  rw [hr9]
  refine W.eq (g2 := F0 m 12 ls [.int 4, .int 3]) rfl ?_
  refine lv_icmp_ge (tgt := 31) hx hb dR_putText_12 (by decide) (fun h => ((by revert h; decide : False)).elim) (fun _ => ?_)
  refine lv_aload_n hx hb dR_putText_15 rfl (lv_at hl 2 rfl) ?_
  refine lv_aload_n hx hb dR_putText_16 rfl (lv_at hl 3 rfl) ?_
  refine lv_iload_n hx hb dR_putText_17 rfl (lv_at hl 0 rfl) ?_
  have hPc := hP.sub (ws' := [(a2, .inr (1, [.ref a3, .int 4, .int 0])), (a3, .inl (cT 0, 4096, .inl f5))]) [3, 0] rfl
  have hDc := hD.sub (ws' := [(a2, .inr (1, [.ref a3, .int 4, .int 0])), (a3, .inl (cT 0, 4096, .inl f5))]) [3, 0] (by decide) rfl
  have hFc := va_free (wc := [(a2, .inr (1, [.ref a3, .int 4, .int 0])), (a3, .inl (cT 0, 4096, .inl f5))]) hD hS hA [3, 0] rfl
  refine va_calli (va_runV (C := "ValueBench$Text") (As := [.int 3]) (rest := [.ref a0]) ⟨hx, hb, hml, hown, htx⟩ (cT_at_4 l hl9 D cT aK aV H.size a2 a3 (.int 0) f5 (by first | rfl | exact h6 | exact h7 | exact h8 | exact h9)) ⟨callB_of 1 htx (xw_goodC kw_2_58) rfl rfl rfl (htx _ kw_1_2) (htx _ kw_4_88) ⟨by decide, by decide, by decide +kernel⟩ ⟨Nat.le_of_ble_eq_true rfl, Nat.le_of_ble_eq_true rfl⟩, (htx _ kw_2_56), (htx _ kw_2_57)⟩ ⟨xPre_blind, va_recv hK hP (ci := 1) rfl (q0 := 3) rfl, (fun U hU hW => ⟨rfl, xPre_of hZ hS hFc hPc hDc hK U hU hW⟩)⟩ rfl rfl hl.1 rfl (lv_room (Nat.le_of_ble_eq_true rfl)) dR_putText_18 ⟨Nat.le_of_ble_eq_true rfl, Nat.le_of_ble_eq_true rfl⟩) hS (fun q _ h => hFc q h) hFc (fun r9 u9 t H1 locs ht hvm hr9 hB hz1 hk1 hS => ?_)
  obtain ⟨hP1, hK1, hD1⟩ := hB
  rw [ht] at hP1
  obtain ⟨hP, hD⟩ := va_join (wr := [(a0, .inr (2, [.ref a1, .int 4, .int 0])), (a1, .inl (cT 2, 4096, .inr (.inl (vp_updL (vp_updL (vp_updL (vp_updL f4 0 0) 1 110) 2 117) 3 108))))]) (w1 := [(a2, .inr (1, [.ref a3, .int 4, .int 0])), (a3, .inl (cT 0, 4096, .inl f5))]) hP hD [3, 0] [1, 2] rfl rfl (by decide) (by decide) hk1 hFc hP1 hD1
  generalize H1 = H at hP hS ⊢
  have hP : va_P D xcl [(a0, .inr (2, [.ref a1, .int 4, .int 0])), (a1, .inl (cT 2, 4096, .inr (.inl (vp_updL (vp_updL (vp_updL (vp_updL f4 0 0) 1 110) 2 117) 3 108)))), (a2, .inr (1, [.ref a3, .int 4, .int 0])), (a3, .inl (cT 0, 4096, .inl f5))] H := hP
  have hD : va_D A [(a0, .inr (2, [.ref a1, .int 4, .int 0])), (a1, .inl (cT 2, 4096, .inr (.inl (vp_updL (vp_updL (vp_updL (vp_updL f4 0 0) 1 110) 2 117) 3 108)))), (a2, .inr (1, [.ref a3, .int 4, .int 0])), (a3, .inl (cT 0, 4096, .inl f5))] := hD
  rw [hr9]
  refine W.eq (g2 := F0 m 21 ls [.int 108, .ref a0]) rfl ?_
  refine lv_i2l hx hb dR_putText_21 rfl ?_
  refine W.eq (g2 := F0 m 22 ls [.long 108, .ref a0]) rfl ?_
  have hPc := hP.sub (ws' := [(a0, .inr (2, [.ref a1, .int 4, .int 0])), (a1, .inl (cT 2, 4096, .inr (.inl (vp_updL (vp_updL (vp_updL (vp_updL f4 0 0) 1 110) 2 117) 3 108))))]) [0, 1] rfl
  have hDc := hD.sub (ws' := [(a0, .inr (2, [.ref a1, .int 4, .int 0])), (a1, .inl (cT 2, 4096, .inr (.inl (vp_updL (vp_updL (vp_updL (vp_updL f4 0 0) 1 110) 2 117) 3 108))))]) [0, 1] (by decide) rfl
  have hFc := va_free (wc := [(a0, .inr (2, [.ref a1, .int 4, .int 0])), (a1, .inl (cT 2, 4096, .inr (.inl (vp_updL (vp_updL (vp_updL (vp_updL f4 0 0) 1 110) 2 117) 3 108))))]) hD hS hA [0, 1] rfl
  refine va_callv (va_runV (C := "ValueBench$Row") (As := [.long 108]) (rest := []) ⟨hx, hb, hml, hown, htx⟩ (cR_put_6 l hl9 D cT aK aV H.size a0 a1 (vp_updL (vp_updL (vp_updL (vp_updL f4 0 0) 1 110) 2 117) 3 108)) ⟨callB_of 1 htx (xw_goodC kw_2_126) rfl rfl rfl (htx _ kw_1_4) (htx _ kw_2_137) ⟨by decide, by decide, by decide +kernel⟩ ⟨Nat.le_of_ble_eq_true rfl, Nat.le_of_ble_eq_true rfl⟩, (htx _ kw_2_124), (htx _ kw_2_125)⟩ ⟨xPre_blind, va_recv hK hP (ci := 2) rfl (q0 := 0) rfl, (fun U hU hW => ⟨rfl, xPre_of hZ hS hFc hPc hDc hK U hU hW⟩)⟩ rfl rfl hl.1 rfl (lv_room (Nat.le_of_ble_eq_true rfl)) dR_putText_22 ⟨Nat.le_of_ble_eq_true rfl, Nat.le_of_ble_eq_true rfl⟩) hS (fun q _ h => hFc q h) hFc (fun u9 t H1 locs ht hvm hr9 hB hz1 hk1 hS => ?_)
  obtain ⟨hP1, hK1, hD1⟩ := hB
  rw [ht] at hP1
  obtain ⟨hP, hD⟩ := va_join (wr := [(a2, .inr (1, [.ref a3, .int 4, .int 0])), (a3, .inl (cT 0, 4096, .inl f5))]) (w1 := [(a0, .inr (2, [.ref a1, .int 5, .int 0])), (a1, .inl (cT 2, 4096, .inr (.inl (vp_updL (vp_updL (vp_updL (vp_updL (vp_updL f4 0 0) 1 110) 2 117) 3 108) 4 108))))]) hP hD [0, 1] [2, 3] rfl rfl (by decide) (by decide) hk1 hFc hP1 hD1
  generalize H1 = H at hP hS ⊢
  have hP : va_P D xcl [(a2, .inr (1, [.ref a3, .int 4, .int 0])), (a3, .inl (cT 0, 4096, .inl f5)), (a0, .inr (2, [.ref a1, .int 5, .int 0])), (a1, .inl (cT 2, 4096, .inr (.inl (vp_updL (vp_updL (vp_updL (vp_updL (vp_updL f4 0 0) 1 110) 2 117) 3 108) 4 108))))] H := hP
  have hD : va_D A [(a2, .inr (1, [.ref a3, .int 4, .int 0])), (a3, .inl (cT 0, 4096, .inl f5)), (a0, .inr (2, [.ref a1, .int 5, .int 0])), (a1, .inl (cT 2, 4096, .inr (.inl (vp_updL (vp_updL (vp_updL (vp_updL (vp_updL f4 0 0) 1 110) 2 117) 3 108) 4 108))))] := hD
  refine lv_iinc (v := 4) (lv' := [(3, .int 4), (2, .int 0), (0, .ref a0), (1, .ref a2)]) hx hb dR_putText_25 hl (k := 0) rfl (by decide) (by decide) rfl (fun ls hl => ?_)
  refine lv_goto (tgt := 7) hx hb dR_putText_28 (by decide) ?_
  refine lv_iload_n hx hb dR_putText_7 rfl (lv_at hl 0 rfl) ?_
  refine lv_aload_n hx hb dR_putText_8 rfl (lv_at hl 3 rfl) ?_
  have hPc := hP.sub (ws' := [(a2, .inr (1, [.ref a3, .int 4, .int 0]))]) [0] rfl
  have hDc := hD.sub (ws' := [(a2, .inr (1, [.ref a3, .int 4, .int 0]))]) [0] (by decide) rfl
  have hFc := va_free (wc := [(a2, .inr (1, [.ref a3, .int 4, .int 0]))]) hD hS hA [0] rfl
  refine va_calli (va_runV (C := "ValueBench$Text") (As := []) (rest := [.int 4]) ⟨hx, hb, hml, hown, htx⟩ (cT_size_3 l hl9 D cT aK aV H.size a2 (.ref a3) (.int 0)) ⟨callB_of 0 htx (xw_goodC kw_1_131) rfl rfl rfl (htx _ kw_1_2) (htx _ kw_4_87) ⟨by decide, by decide, by decide +kernel⟩ ⟨Nat.le_of_ble_eq_true rfl, Nat.le_of_ble_eq_true rfl⟩, (htx _ kw_1_129), (htx _ kw_1_130)⟩ ⟨xPre_blind, va_recv hK hP (ci := 1) rfl (q0 := 0) rfl, (fun U hU hW => ⟨rfl, xPre_of hZ hS hFc hPc hDc hK U hU hW⟩)⟩ rfl rfl hl.1 rfl (lv_room (Nat.le_of_ble_eq_true rfl)) dR_putText_9 ⟨Nat.le_of_ble_eq_true rfl, Nat.le_of_ble_eq_true rfl⟩) hS (fun q _ h => hFc q h) hFc (fun r10 u9 t H1 locs ht hvm hr9 hB hz1 hk1 hS => ?_)
  obtain ⟨hP1, hK1, hD1⟩ := hB
  rw [ht] at hP1
  obtain ⟨hP, hD⟩ := va_join (wr := [(a3, .inl (cT 0, 4096, .inl f5)), (a0, .inr (2, [.ref a1, .int 5, .int 0])), (a1, .inl (cT 2, 4096, .inr (.inl (vp_updL (vp_updL (vp_updL (vp_updL (vp_updL f4 0 0) 1 110) 2 117) 3 108) 4 108))))]) (w1 := [(a2, .inr (1, [.ref a3, .int 4, .int 0]))]) hP hD [0] [1, 2, 3] rfl rfl (by decide) (by decide) hk1 hFc hP1 hD1
  generalize H1 = H at hP hS ⊢
  have hP : va_P D xcl [(a3, .inl (cT 0, 4096, .inl f5)), (a0, .inr (2, [.ref a1, .int 5, .int 0])), (a1, .inl (cT 2, 4096, .inr (.inl (vp_updL (vp_updL (vp_updL (vp_updL (vp_updL f4 0 0) 1 110) 2 117) 3 108) 4 108)))), (a2, .inr (1, [.ref a3, .int 4, .int 0]))] H := hP
  have hD : va_D A [(a3, .inl (cT 0, 4096, .inl f5)), (a0, .inr (2, [.ref a1, .int 5, .int 0])), (a1, .inl (cT 2, 4096, .inr (.inl (vp_updL (vp_updL (vp_updL (vp_updL (vp_updL f4 0 0) 1 110) 2 117) 3 108) 4 108)))), (a2, .inr (1, [.ref a3, .int 4, .int 0]))] := hD
  rw [hr9]
  refine W.eq (g2 := F0 m 12 ls [.int 4, .int 4]) rfl ?_
  refine lv_icmp_ge (tgt := 31) hx hb dR_putText_12 (by decide) (fun _ => ?_) (fun h => ((by revert h; decide : False)).elim)
  refine lv_aload_n hx hb dR_putText_31 rfl (lv_at hl 2 rfl) ?_
  refine lv_iload_n hx hb dR_putText_32 rfl (lv_at hl 1 rfl) ?_
  refine lv_iconst (v := 4) hx hb dR_putText_33 (by decide) ?_
  refine lv_aload_n hx hb dR_putText_34 rfl (lv_at hl 3 rfl) ?_
  have hPc := hP.sub (ws' := [(a2, .inr (1, [.ref a3, .int 4, .int 0]))]) [3] rfl
  have hDc := hD.sub (ws' := [(a2, .inr (1, [.ref a3, .int 4, .int 0]))]) [3] (by decide) rfl
  have hFc := va_free (wc := [(a2, .inr (1, [.ref a3, .int 4, .int 0]))]) hD hS hA [3] rfl
  refine va_calli (va_runV (C := "ValueBench$Text") (As := []) (rest := [.int 4, .int 0, .ref a0]) ⟨hx, hb, hml, hown, htx⟩ (cT_size_3 l hl9 D cT aK aV H.size a2 (.ref a3) (.int 0)) ⟨callB_of 0 htx (xw_goodC kw_1_131) rfl rfl rfl (htx _ kw_1_2) (htx _ kw_4_87) ⟨by decide, by decide, by decide +kernel⟩ ⟨Nat.le_of_ble_eq_true rfl, Nat.le_of_ble_eq_true rfl⟩, (htx _ kw_1_129), (htx _ kw_1_130)⟩ ⟨xPre_blind, va_recv hK hP (ci := 1) rfl (q0 := 3) rfl, (fun U hU hW => ⟨rfl, xPre_of hZ hS hFc hPc hDc hK U hU hW⟩)⟩ rfl rfl hl.1 rfl (lv_room (Nat.le_of_ble_eq_true rfl)) dR_putText_35 ⟨Nat.le_of_ble_eq_true rfl, Nat.le_of_ble_eq_true rfl⟩) hS (fun q _ h => hFc q h) hFc (fun r11 u9 t H1 locs ht hvm hr9 hB hz1 hk1 hS => ?_)
  obtain ⟨hP1, hK1, hD1⟩ := hB
  rw [ht] at hP1
  obtain ⟨hP, hD⟩ := va_join (wr := [(a3, .inl (cT 0, 4096, .inl f5)), (a0, .inr (2, [.ref a1, .int 5, .int 0])), (a1, .inl (cT 2, 4096, .inr (.inl (vp_updL (vp_updL (vp_updL (vp_updL (vp_updL f4 0 0) 1 110) 2 117) 3 108) 4 108))))]) (w1 := [(a2, .inr (1, [.ref a3, .int 4, .int 0]))]) hP hD [3] [0, 1, 2] rfl rfl (by decide) (by decide) hk1 hFc hP1 hD1
  generalize H1 = H at hP hS ⊢
  have hP : va_P D xcl [(a3, .inl (cT 0, 4096, .inl f5)), (a0, .inr (2, [.ref a1, .int 5, .int 0])), (a1, .inl (cT 2, 4096, .inr (.inl (vp_updL (vp_updL (vp_updL (vp_updL (vp_updL f4 0 0) 1 110) 2 117) 3 108) 4 108)))), (a2, .inr (1, [.ref a3, .int 4, .int 0]))] H := hP
  have hD : va_D A [(a3, .inl (cT 0, 4096, .inl f5)), (a0, .inr (2, [.ref a1, .int 5, .int 0])), (a1, .inl (cT 2, 4096, .inr (.inl (vp_updL (vp_updL (vp_updL (vp_updL (vp_updL f4 0 0) 1 110) 2 117) 3 108) 4 108)))), (a2, .inr (1, [.ref a3, .int 4, .int 0]))] := hD
  rw [hr9]
  refine W.eq (g2 := F0 m 38 ls [.int 4, .int 4, .int 0, .ref a0]) rfl ?_
  have hPc := hP.sub (ws' := [(a0, .inr (2, [.ref a1, .int 5, .int 0])), (a1, .inl (cT 2, 4096, .inr (.inl (vp_updL (vp_updL (vp_updL (vp_updL (vp_updL f4 0 0) 1 110) 2 117) 3 108) 4 108))))]) [1, 2] rfl
  have hDc := hD.sub (ws' := [(a0, .inr (2, [.ref a1, .int 5, .int 0])), (a1, .inl (cT 2, 4096, .inr (.inl (vp_updL (vp_updL (vp_updL (vp_updL (vp_updL f4 0 0) 1 110) 2 117) 3 108) 4 108))))]) [1, 2] (by decide) rfl
  have hFc := va_free (wc := [(a0, .inr (2, [.ref a1, .int 5, .int 0])), (a1, .inl (cT 2, 4096, .inr (.inl (vp_updL (vp_updL (vp_updL (vp_updL (vp_updL f4 0 0) 1 110) 2 117) 3 108) 4 108))))]) hD hS hA [1, 2] rfl
  refine va_callv (va_runV (C := "ValueBench$Row") (As := [.int 0, .int 4, .int 4]) (rest := []) ⟨hx, hb, hml, hown, htx⟩ (cR_close_0 l hl9 D cT aK aV H.size a0 a1 (vp_updL (vp_updL (vp_updL (vp_updL (vp_updL f4 0 0) 1 110) 2 117) 3 108) 4 108)) ⟨callB_of 3 htx (xw_goodC kw_2_167) rfl rfl rfl (htx _ kw_1_4) (htx _ kw_3_210) ⟨by decide, by decide, by decide +kernel⟩ ⟨Nat.le_of_ble_eq_true rfl, Nat.le_of_ble_eq_true rfl⟩, (htx _ kw_2_165), (htx _ kw_2_166)⟩ ⟨xPre_blind, va_recv hK hP (ci := 2) rfl (q0 := 1) rfl, (fun U hU hW => ⟨rfl, xPre_of hZ hS hFc hPc hDc hK U hU hW⟩)⟩ rfl rfl hl.1 rfl (lv_room (Nat.le_of_ble_eq_true rfl)) dR_putText_38 ⟨Nat.le_of_ble_eq_true rfl, Nat.le_of_ble_eq_true rfl⟩) hS (fun q _ h => hFc q h) hFc (fun u9 t H1 locs ht hvm hr9 hB hz1 hk1 hS => ?_)
  obtain ⟨hP1, hK1, hD1⟩ := hB
  rw [ht] at hP1
  obtain ⟨hP, hD⟩ := va_join (wr := [(a3, .inl (cT 0, 4096, .inl f5)), (a2, .inr (1, [.ref a3, .int 4, .int 0]))]) (w1 := [(a0, .inr (2, [.ref a1, .int 5, .int 0])), (a1, .inl (cT 2, 4096, .inr (.inl (vp_updL (vp_updL (vp_updL (vp_updL (vp_updL (vp_updL f4 0 0) 1 110) 2 117) 3 108) 4 108) 0 2621476))))]) hP hD [1, 2] [0, 3] rfl rfl (by decide) (by decide) hk1 hFc hP1 hD1
  generalize H1 = H at hP hS ⊢
  have hP : va_P D xcl [(a3, .inl (cT 0, 4096, .inl f5)), (a2, .inr (1, [.ref a3, .int 4, .int 0])), (a0, .inr (2, [.ref a1, .int 5, .int 0])), (a1, .inl (cT 2, 4096, .inr (.inl (vp_updL (vp_updL (vp_updL (vp_updL (vp_updL (vp_updL f4 0 0) 1 110) 2 117) 3 108) 4 108) 0 2621476))))] H := hP
  have hD : va_D A [(a3, .inl (cT 0, 4096, .inl f5)), (a2, .inr (1, [.ref a3, .int 4, .int 0])), (a0, .inr (2, [.ref a1, .int 5, .int 0])), (a1, .inl (cT 2, 4096, .inr (.inl (vp_updL (vp_updL (vp_updL (vp_updL (vp_updL (vp_updL f4 0 0) 1 110) 2 117) 3 108) 4 108) 0 2621476))))] := hD
  refine lv_aload_n hx hb dR_putText_41 rfl (lv_at hl 2 rfl) ?_
  refine lv_aload_n hx hb dR_putText_42 rfl (lv_at hl 2 rfl) ?_
  refine va_get (D := D) (ci := 2) (v := .int 0) (C := "ValueBench$Row") (T := TR) (N := 3) hx hb htx inR hown hK hP 2 rfl rfl 2 (by decide) (htx _ kw_1_86) (fun _ h9 => h9) rfl dR_putText_43 ?_
  refine lv_if_ne (tgt := 56) hx hb dR_putText_46 (by decide) (fun h => ((by revert h; decide : False)).elim) (fun _ => ?_)
  refine lv_aload_n hx hb dR_putText_49 rfl (lv_at hl 3 rfl) ?_
  have hPc := hP.sub (ws' := [(a2, .inr (1, [.ref a3, .int 4, .int 0]))]) [1] rfl
  have hDc := hD.sub (ws' := [(a2, .inr (1, [.ref a3, .int 4, .int 0]))]) [1] (by decide) rfl
  have hFc := va_free (wc := [(a2, .inr (1, [.ref a3, .int 4, .int 0]))]) hD hS hA [1] rfl
  refine va_calli (va_runV (C := "ValueBench$Text") (As := []) (rest := [.ref a0]) ⟨hx, hb, hml, hown, htx⟩ (cT_isOver_0 l hl9 D cT aK aV H.size a2 (.ref a3) (.int 4)) ⟨callB_of 0 htx (xw_goodC kw_3_86) rfl rfl rfl (htx _ kw_1_2) (htx _ kw_4_89) ⟨by decide, by decide, by decide +kernel⟩ ⟨Nat.le_of_ble_eq_true rfl, Nat.le_of_ble_eq_true rfl⟩, (htx _ kw_3_84), (htx _ kw_3_85)⟩ ⟨xPre_blind, va_recv hK hP (ci := 1) rfl (q0 := 1) rfl, (fun U hU hW => ⟨rfl, xPre_of hZ hS hFc hPc hDc hK U hU hW⟩)⟩ rfl rfl hl.1 rfl (lv_room (Nat.le_of_ble_eq_true rfl)) dR_putText_50 ⟨Nat.le_of_ble_eq_true rfl, Nat.le_of_ble_eq_true rfl⟩) hS (fun q _ h => hFc q h) hFc (fun r12 u9 t H1 locs ht hvm hr9 hB hz1 hk1 hS => ?_)
  obtain ⟨hP1, hK1, hD1⟩ := hB
  rw [ht] at hP1
  obtain ⟨hP, hD⟩ := va_join (wr := [(a3, .inl (cT 0, 4096, .inl f5)), (a0, .inr (2, [.ref a1, .int 5, .int 0])), (a1, .inl (cT 2, 4096, .inr (.inl (vp_updL (vp_updL (vp_updL (vp_updL (vp_updL (vp_updL f4 0 0) 1 110) 2 117) 3 108) 4 108) 0 2621476))))]) (w1 := [(a2, .inr (1, [.ref a3, .int 4, .int 0]))]) hP hD [1] [0, 2, 3] rfl rfl (by decide) (by decide) hk1 hFc hP1 hD1
  generalize H1 = H at hP hS ⊢
  have hP : va_P D xcl [(a3, .inl (cT 0, 4096, .inl f5)), (a0, .inr (2, [.ref a1, .int 5, .int 0])), (a1, .inl (cT 2, 4096, .inr (.inl (vp_updL (vp_updL (vp_updL (vp_updL (vp_updL (vp_updL f4 0 0) 1 110) 2 117) 3 108) 4 108) 0 2621476)))), (a2, .inr (1, [.ref a3, .int 4, .int 0]))] H := hP
  have hD : va_D A [(a3, .inl (cT 0, 4096, .inl f5)), (a0, .inr (2, [.ref a1, .int 5, .int 0])), (a1, .inl (cT 2, 4096, .inr (.inl (vp_updL (vp_updL (vp_updL (vp_updL (vp_updL (vp_updL f4 0 0) 1 110) 2 117) 3 108) 4 108) 0 2621476)))), (a2, .inr (1, [.ref a3, .int 4, .int 0]))] := hD
  rw [hr9]
  refine W.eq (g2 := F0 m 53 ls [.int 0, .ref a0]) rfl ?_
  refine lv_if_eq (tgt := 60) hx hb dR_putText_53 (by decide) (fun _ => ?_) (fun h => ((by revert h; decide : False)).elim)
  refine lv_iconst (v := 0) hx hb dR_putText_60 (by decide) ?_
  refine va_put (D := D) (ci := 2) (v := .int 0) (ty := .boolean) (C := "ValueBench$Row") (T := TR) (N := 3) hx hb htx inR tyR tyR_ok nmR hown hK hP hD hS 1 rfl rfl 2 (by decide) (htx _ kw_1_86) (fun _ h9 => h9) rfl (by decide +kernel) rfl rfl (Nat.le_of_ble_eq_true rfl) dR_putText_61 (fun H locs hP hD hS => ?_)
  have hP : va_P D xcl [(a3, .inl (cT 0, 4096, .inl f5)), (a0, .inr (2, [.ref a1, .int 5, .int 0])), (a1, .inl (cT 2, 4096, .inr (.inl (vp_updL (vp_updL (vp_updL (vp_updL (vp_updL (vp_updL f4 0 0) 1 110) 2 117) 3 108) 4 108) 0 2621476)))), (a2, .inr (1, [.ref a3, .int 4, .int 0]))] H := hP
  have hD : va_D A [(a3, .inl (cT 0, 4096, .inl f5)), (a0, .inr (2, [.ref a1, .int 5, .int 0])), (a1, .inl (cT 2, 4096, .inr (.inl (vp_updL (vp_updL (vp_updL (vp_updL (vp_updL (vp_updL f4 0 0) 1 110) 2 117) 3 108) 4 108) 0 2621476)))), (a2, .inr (1, [.ref a3, .int 4, .int 0]))] := hD
  have hP9 := hP.sub (ws' := [(a0, .inr (2, [.ref a1, .int 5, .int 0])), (a1, .inl (cT 2, 4096, .inr (.inl (vp_updL (vp_updL (vp_updL (vp_updL (vp_updL (vp_updL f4 0 0) 1 110) 2 117) 3 108) 4 108) 0 2621476)))), (a2, .inr (1, [.ref a3, .int 4, .int 0])), (a3, .inl (cT 0, 4096, .inl f5))]) [1, 2, 3, 0] rfl
  have hD9 := hD.sub (ws' := [(a0, .inr (2, [.ref a1, .int 5, .int 0])), (a1, .inl (cT 2, 4096, .inr (.inl (vp_updL (vp_updL (vp_updL (vp_updL (vp_updL (vp_updL f4 0 0) 1 110) 2 117) 3 108) 4 108) 0 2621476)))), (a2, .inr (1, [.ref a3, .int 4, .int 0])), (a3, .inl (cT 0, 4096, .inl f5))]) [1, 2, 3, 0] (by decide) rfl
  refine W.widen (k := 0) (n := 0) (Nat.le_of_ble_eq_true rfl) (Nat.le_of_ble_eq_true rfl) ?_
  exact W.vret hx hb hr (fun t ht hW => ⟨⟨(), rfl, trivial, by rw [ht]; exact hP9, va_K.moved hW.alike hK, hD9⟩, hS.F ht⟩) hS.2.2 dR_putText_64
set_option maxHeartbeats 4000000 in
set_option maxRecDepth 100000 in
theorem cG_printed_0 (l : Launch) (hl9 : l.stackTraces = false) (D : va_G) (cT : Nat → ClassId) (aK aV : Nat → Nat) (sz : Nat) (a0 : Nat) (a1 : Nat) (a2 : Nat) (a3 : Nat) (a4 : Nat) (a5 : Nat) (v6 : Value) (v7 : Value) (v8 : Value) (f9 : Nat → Int64) (f11 : Nat → Int32) (f12 : Nat → Int64) (h10 : f9 0 = 0) : Met l yG_printed wyG_printed ({ frames := 6, cells := 0, slots := 0, locals := 130 }) (va_Pc [.ref a1, .ref a0, .ref a4] (xPre D xcl cT aK aV sz [(a0, .inr (1, [.ref a3, v6, v7])), (a1, .inr (2, [.ref a2, .int 1, v8])), (a2, .inl (cT 2, 4096, .inr (.inl f9))), (a3, .inl (cT 0, 4096, .inl f11)), (a4, .inr (2, [.ref a5, .int 0, .int 0])), (a5, .inl (cT 2, 4096, .inr (.inl f12)))])) (va_Qi (fun (r : Int32) (_ : Unit) => r = 0) (fun _ t => xB D xcl cT (va_A [(a0, .inr (1, [.ref a3, v6, v7])), (a1, .inr (2, [.ref a2, .int 1, v8])), (a2, .inl (cT 2, 4096, .inr (.inl f9))), (a3, .inl (cT 0, 4096, .inl f11)), (a4, .inr (2, [.ref a5, .int 0, .int 0])), (a5, .inl (cT 2, 4096, .inr (.inl f12)))] sz) [(a0, .inr (1, [.ref a3, .int 4, .int 0])), (a1, .inr (2, [.ref a2, .int 1, v8])), (a2, .inl (cT 2, 4096, .inr (.inl f9))), (a3, .inl (cT 0, 4096, .inl (upd (upd (upd (upd f11 0 110) 1 117) 2 108) 3 108))), (a4, .inr (2, [.ref a5, .int 5, .int 0])), (a5, .inl (cT 2, 4096, .inr (.inl (vp_updL (vp_updL (vp_updL (vp_updL (vp_updL (vp_updL f12 0 0) 1 110) 2 117) 3 108) 4 108) 0 2621476))))] t) (va_A [(a0, .inr (1, [.ref a3, v6, v7])), (a1, .inr (2, [.ref a2, .int 1, v8])), (a2, .inl (cT 2, 4096, .inr (.inl f9))), (a3, .inl (cT 0, 4096, .inl f11)), (a4, .inr (2, [.ref a5, .int 0, .int 0])), (a5, .inl (cT 2, 4096, .inr (.inl f12)))] sz)) 0 0 (va_A [(a0, .inr (1, [.ref a3, v6, v7])), (a1, .inr (2, [.ref a2, .int 1, v8])), (a2, .inl (cT 2, 4096, .inr (.inl f9))), (a3, .inl (cT 0, 4096, .inl f11)), (a4, .inr (2, [.ref a5, .int 0, .int 0])), (a5, .inl (cT 2, 4096, .inr (.inl f12)))] sz) := by
  refine Met.ofW (cc := prog_9_method_7_code) (maxL := 3) (ret := (some .int)) (by decide) rfl ?_
  intro p e s m args below meth c s₁ B hml hv
  obtain ⟨rfl, hsz, hZ, hP, hK, hD0⟩ := hv
  have hx := B.exec
  have hb := B.bytes
  have hr := B.returns
  have hts := atoms_spec (ws := wyG_printed) B.pre
  have htx := fun w h => hts w (List.mem_cons_of_mem _ h)
  have hown : s.vm.findClass "ValueBench$Singles" = some m.cls := findClass_of_methodNamed B.named
  have hlocks := B.notSynchronized
  subst hsz
  have hD := hD0.self (sz := s.heap.size)
  generalize hAe : va_A [(a0, .inr (1, [.ref a3, v6, v7])), (a1, .inr (2, [.ref a2, .int 1, v8])), (a2, .inl (cT 2, 4096, .inr (.inl f9))), (a3, .inl (cT 0, 4096, .inl f11)), (a4, .inr (2, [.ref a5, .int 0, .int 0])), (a5, .inl (cT 2, 4096, .inr (.inl f12)))] s.heap.size = A at hD hZ ⊢
  have hA : ∀ q : Nat, s.heap.size ≤ q → A q := fun q h => by rw [← hAe]; exact Or.inr h
  have hS : va_S A s.heap s.heap [] := va_S.rf
  have hP : va_P D xcl [(a0, .inr (1, [.ref a3, v6, v7])), (a1, .inr (2, [.ref a2, .int 1, v8])), (a2, .inl (cT 2, 4096, .inr (.inl f9))), (a3, .inl (cT 0, 4096, .inl f11)), (a4, .inr (2, [.ref a5, .int 0, .int 0])), (a5, .inl (cT 2, 4096, .inr (.inl f12)))] s.heap := hP
  have hl := lv_entry ([.ref a1, .ref a0, .ref a4]) (n := 3) (Nat.le_of_ble_eq_true rfl)
  rw [lg_entry_eq]
  generalize (lg_sl ([.ref a1, .ref a0, .ref a4]) ++ List.replicate (3 - (lg_sl ([.ref a1, .ref a0, .ref a4])).length) Slot.unset).toArray = ls at hl ⊢
  have hl : lv_has ls 3 [(0, .ref a1), (1, .ref a0), (2, .ref a4)] := hl
  refine lv_aload_n hx hb dG_printed_0 rfl (lv_at hl 1 rfl) ?_
  have hPc := hP.sub (ws' := [(a0, .inr (1, [.ref a3, v6, v7]))]) [0] rfl
  have hDc := hD.sub (ws' := [(a0, .inr (1, [.ref a3, v6, v7]))]) [0] (by decide) rfl
  have hFc := va_free (wc := [(a0, .inr (1, [.ref a3, v6, v7]))]) hD hS hA [0] rfl
  refine va_callv (va_runV (C := "ValueBench$Text") (As := []) (rest := []) ⟨hx, hb, hml, hown, htx⟩ (cT_clear_0 l hl9 D cT aK aV s.heap.size a0 (.ref a3) v6 v7) ⟨callB_of 0 htx (xw_goodC kw_2_237) rfl rfl rfl (htx _ kw_1_2) (htx _ kw_4_81) ⟨by decide, by decide, by decide +kernel⟩ ⟨Nat.le_of_ble_eq_true rfl, Nat.le_of_ble_eq_true rfl⟩, (htx _ kw_2_235), (htx _ kw_2_236)⟩ ⟨xPre_blind, va_recv hK hP (ci := 1) rfl (q0 := 0) rfl, (fun U hU hW => ⟨rfl, xPre_of hZ hS hFc hPc hDc hK U hU hW⟩)⟩ rfl rfl hl.1 rfl (lv_room (Nat.le_of_ble_eq_true rfl)) dG_printed_1 ⟨Nat.le_of_ble_eq_true rfl, Nat.le_of_ble_eq_true rfl⟩) hS (fun q _ h => hFc q h) hFc (fun u9 t H1 locs ht hvm hr9 hB hz1 hk1 hS => ?_)
  obtain ⟨hP1, hK1, hD1⟩ := hB
  rw [ht] at hP1
  obtain ⟨hP, hD⟩ := va_join (wr := [(a1, .inr (2, [.ref a2, .int 1, v8])), (a2, .inl (cT 2, 4096, .inr (.inl f9))), (a3, .inl (cT 0, 4096, .inl f11)), (a4, .inr (2, [.ref a5, .int 0, .int 0])), (a5, .inl (cT 2, 4096, .inr (.inl f12)))]) (w1 := [(a0, .inr (1, [.ref a3, .int 0, .int 0]))]) hP hD [0] [1, 2, 3, 4, 5] rfl rfl (by decide) (by decide) hk1 hFc hP1 hD1
  generalize H1 = H at hP hS ⊢
  have hP : va_P D xcl [(a1, .inr (2, [.ref a2, .int 1, v8])), (a2, .inl (cT 2, 4096, .inr (.inl f9))), (a3, .inl (cT 0, 4096, .inl f11)), (a4, .inr (2, [.ref a5, .int 0, .int 0])), (a5, .inl (cT 2, 4096, .inr (.inl f12))), (a0, .inr (1, [.ref a3, .int 0, .int 0]))] H := hP
  have hD : va_D A [(a1, .inr (2, [.ref a2, .int 1, v8])), (a2, .inl (cT 2, 4096, .inr (.inl f9))), (a3, .inl (cT 0, 4096, .inl f11)), (a4, .inr (2, [.ref a5, .int 0, .int 0])), (a5, .inl (cT 2, 4096, .inr (.inl f12))), (a0, .inr (1, [.ref a3, .int 0, .int 0]))] := hD
  refine lv_aload_n hx hb dG_printed_4 rfl (lv_at hl 0 rfl) ?_
  refine lv_iconst (v := 0) hx hb dG_printed_5 (by decide) ?_
  refine lv_aload_n hx hb dG_printed_6 rfl (lv_at hl 1 rfl) ?_
  refine lv_iconst (v := 0) hx hb dG_printed_7 (by decide) ?_
  have hPc := hP.sub (ws' := [(a1, .inr (2, [.ref a2, .int 1, v8])), (a2, .inl (cT 2, 4096, .inr (.inl f9))), (a0, .inr (1, [.ref a3, .int 0, .int 0])), (a3, .inl (cT 0, 4096, .inl f11))]) [0, 1, 5, 2] rfl
  have hDc := hD.sub (ws' := [(a1, .inr (2, [.ref a2, .int 1, v8])), (a2, .inl (cT 2, 4096, .inr (.inl f9))), (a0, .inr (1, [.ref a3, .int 0, .int 0])), (a3, .inl (cT 0, 4096, .inl f11))]) [0, 1, 5, 2] (by decide) rfl
  have hFc := va_free (wc := [(a1, .inr (2, [.ref a2, .int 1, v8])), (a2, .inl (cT 2, 4096, .inr (.inl f9))), (a0, .inr (1, [.ref a3, .int 0, .int 0])), (a3, .inl (cT 0, 4096, .inl f11))]) hD hS hA [0, 1, 5, 2] rfl
  refine va_callv (va_runS (As := [.ref a1, .int 0, .ref a0, .int 0]) (rest := []) ⟨hx, hb, hml, hown, htx⟩ (cP_write_3 l hl9 D cT aK aV H.size a1 a2 a0 a3 0 v8 f9 (.int 0) f11 (by first | rfl | exact h10)) ⟨callB_of 4 htx (xw_goodC kw_3_20) rfl rfl rfl (htx _ kw_1_18) (htx _ kw_4_82) ⟨by decide, by decide, by decide +kernel⟩ ⟨Nat.le_of_ble_eq_true rfl, Nat.le_of_ble_eq_true rfl⟩, htx _ kw_3_19⟩ ⟨xPre_blind, (fun U hU hW => ⟨rfl, xPre_of hZ hS hFc hPc hDc hK U hU hW⟩)⟩ rfl rfl hl.1 rfl (lv_room (Nat.le_of_ble_eq_true rfl)) dG_printed_8 ⟨Nat.le_of_ble_eq_true rfl, Nat.le_of_ble_eq_true rfl⟩) hS (fun q _ h => hFc q h) hFc (fun u9 t H1 locs ht hvm hr9 hB hz1 hk1 hS => ?_)
  obtain ⟨hP1, hK1, hD1⟩ := hB
  rw [ht] at hP1
  obtain ⟨hP, hD⟩ := va_join (wr := [(a4, .inr (2, [.ref a5, .int 0, .int 0])), (a5, .inl (cT 2, 4096, .inr (.inl f12)))]) (w1 := [(a1, .inr (2, [.ref a2, .int 1, v8])), (a2, .inl (cT 2, 4096, .inr (.inl f9))), (a0, .inr (1, [.ref a3, .int 4, .int 0])), (a3, .inl (cT 0, 4096, .inl (upd (upd (upd (upd f11 0 110) 1 117) 2 108) 3 108)))]) hP hD [0, 1, 5, 2] [3, 4] rfl rfl (by decide) (by decide) hk1 hFc hP1 hD1
  generalize H1 = H at hP hS ⊢
  have hP : va_P D xcl [(a4, .inr (2, [.ref a5, .int 0, .int 0])), (a5, .inl (cT 2, 4096, .inr (.inl f12))), (a1, .inr (2, [.ref a2, .int 1, v8])), (a2, .inl (cT 2, 4096, .inr (.inl f9))), (a0, .inr (1, [.ref a3, .int 4, .int 0])), (a3, .inl (cT 0, 4096, .inl (upd (upd (upd (upd f11 0 110) 1 117) 2 108) 3 108)))] H := hP
  have hD : va_D A [(a4, .inr (2, [.ref a5, .int 0, .int 0])), (a5, .inl (cT 2, 4096, .inr (.inl f12))), (a1, .inr (2, [.ref a2, .int 1, v8])), (a2, .inl (cT 2, 4096, .inr (.inl f9))), (a0, .inr (1, [.ref a3, .int 4, .int 0])), (a3, .inl (cT 0, 4096, .inl (upd (upd (upd (upd f11 0 110) 1 117) 2 108) 3 108)))] := hD
  refine lv_aload_n hx hb dG_printed_11 rfl (lv_at hl 2 rfl) ?_
  refine lv_aload_n hx hb dG_printed_12 rfl (lv_at hl 1 rfl) ?_
  have hPc := hP.sub (ws' := [(a4, .inr (2, [.ref a5, .int 0, .int 0])), (a5, .inl (cT 2, 4096, .inr (.inl f12))), (a0, .inr (1, [.ref a3, .int 4, .int 0])), (a3, .inl (cT 0, 4096, .inl (upd (upd (upd (upd f11 0 110) 1 117) 2 108) 3 108)))]) [0, 1, 4, 5] rfl
  have hDc := hD.sub (ws' := [(a4, .inr (2, [.ref a5, .int 0, .int 0])), (a5, .inl (cT 2, 4096, .inr (.inl f12))), (a0, .inr (1, [.ref a3, .int 4, .int 0])), (a3, .inl (cT 0, 4096, .inl (upd (upd (upd (upd f11 0 110) 1 117) 2 108) 3 108)))]) [0, 1, 4, 5] (by decide) rfl
  have hFc := va_free (wc := [(a4, .inr (2, [.ref a5, .int 0, .int 0])), (a5, .inl (cT 2, 4096, .inr (.inl f12))), (a0, .inr (1, [.ref a3, .int 4, .int 0])), (a3, .inl (cT 0, 4096, .inl (upd (upd (upd (upd f11 0 110) 1 117) 2 108) 3 108)))]) hD hS hA [0, 1, 4, 5] rfl
  refine va_callv (va_runV (C := "ValueBench$Row") (As := [.ref a0]) (rest := []) ⟨hx, hb, hml, hown, htx⟩ (cR_putText_0 l hl9 D cT aK aV H.size a4 a5 a0 a3 f12 (upd (upd (upd (upd f11 0 110) 1 117) 2 108) 3 108) (by first | rfl | exact h10) (by first | rfl | exact h10) (by first | rfl | exact h10) (by first | rfl | exact h10)) ⟨callB_of 1 htx (xw_goodC kw_4_86) rfl rfl rfl (htx _ kw_1_4) (htx _ kw_4_83) ⟨by decide, by decide, by decide +kernel⟩ ⟨Nat.le_of_ble_eq_true rfl, Nat.le_of_ble_eq_true rfl⟩, (htx _ kw_4_84), (htx _ kw_4_85)⟩ ⟨xPre_blind, va_recv hK hP (ci := 2) rfl (q0 := 0) rfl, (fun U hU hW => ⟨rfl, xPre_of hZ hS hFc hPc hDc hK U hU hW⟩)⟩ rfl rfl hl.1 rfl (lv_room (Nat.le_of_ble_eq_true rfl)) dG_printed_13 ⟨Nat.le_of_ble_eq_true rfl, Nat.le_of_ble_eq_true rfl⟩) hS (fun q _ h => hFc q h) hFc (fun u9 t H1 locs ht hvm hr9 hB hz1 hk1 hS => ?_)
  obtain ⟨hP1, hK1, hD1⟩ := hB
  rw [ht] at hP1
  obtain ⟨hP, hD⟩ := va_join (wr := [(a1, .inr (2, [.ref a2, .int 1, v8])), (a2, .inl (cT 2, 4096, .inr (.inl f9)))]) (w1 := [(a4, .inr (2, [.ref a5, .int 5, .int 0])), (a5, .inl (cT 2, 4096, .inr (.inl (vp_updL (vp_updL (vp_updL (vp_updL (vp_updL (vp_updL f12 0 0) 1 110) 2 117) 3 108) 4 108) 0 2621476)))), (a0, .inr (1, [.ref a3, .int 4, .int 0])), (a3, .inl (cT 0, 4096, .inl (upd (upd (upd (upd f11 0 110) 1 117) 2 108) 3 108)))]) hP hD [0, 1, 4, 5] [2, 3] rfl rfl (by decide) (by decide) hk1 hFc hP1 hD1
  generalize H1 = H at hP hS ⊢
  have hP : va_P D xcl [(a1, .inr (2, [.ref a2, .int 1, v8])), (a2, .inl (cT 2, 4096, .inr (.inl f9))), (a4, .inr (2, [.ref a5, .int 5, .int 0])), (a5, .inl (cT 2, 4096, .inr (.inl (vp_updL (vp_updL (vp_updL (vp_updL (vp_updL (vp_updL f12 0 0) 1 110) 2 117) 3 108) 4 108) 0 2621476)))), (a0, .inr (1, [.ref a3, .int 4, .int 0])), (a3, .inl (cT 0, 4096, .inl (upd (upd (upd (upd f11 0 110) 1 117) 2 108) 3 108)))] H := hP
  have hD : va_D A [(a1, .inr (2, [.ref a2, .int 1, v8])), (a2, .inl (cT 2, 4096, .inr (.inl f9))), (a4, .inr (2, [.ref a5, .int 5, .int 0])), (a5, .inl (cT 2, 4096, .inr (.inl (vp_updL (vp_updL (vp_updL (vp_updL (vp_updL (vp_updL f12 0 0) 1 110) 2 117) 3 108) 4 108) 0 2621476)))), (a0, .inr (1, [.ref a3, .int 4, .int 0])), (a3, .inl (cT 0, 4096, .inl (upd (upd (upd (upd f11 0 110) 1 117) 2 108) 3 108)))] := hD
  refine lv_iconst (v := 0) hx hb dG_printed_16 (by decide) ?_
  have hP9 := hP.sub (ws' := [(a0, .inr (1, [.ref a3, .int 4, .int 0])), (a1, .inr (2, [.ref a2, .int 1, v8])), (a2, .inl (cT 2, 4096, .inr (.inl f9))), (a3, .inl (cT 0, 4096, .inl (upd (upd (upd (upd f11 0 110) 1 117) 2 108) 3 108))), (a4, .inr (2, [.ref a5, .int 5, .int 0])), (a5, .inl (cT 2, 4096, .inr (.inl (vp_updL (vp_updL (vp_updL (vp_updL (vp_updL (vp_updL f12 0 0) 1 110) 2 117) 3 108) 4 108) 0 2621476))))]) [4, 0, 1, 5, 2, 3] rfl
  have hD9 := hD.sub (ws' := [(a0, .inr (1, [.ref a3, .int 4, .int 0])), (a1, .inr (2, [.ref a2, .int 1, v8])), (a2, .inl (cT 2, 4096, .inr (.inl f9))), (a3, .inl (cT 0, 4096, .inl (upd (upd (upd (upd f11 0 110) 1 117) 2 108) 3 108))), (a4, .inr (2, [.ref a5, .int 5, .int 0])), (a5, .inl (cT 2, 4096, .inr (.inl (vp_updL (vp_updL (vp_updL (vp_updL (vp_updL (vp_updL f12 0 0) 1 110) 2 117) 3 108) 4 108) 0 2621476))))]) [4, 0, 1, 5, 2, 3] (by decide) rfl
  refine W.widen (k := 0) (n := 0) (Nat.le_of_ble_eq_true rfl) (Nat.le_of_ble_eq_true rfl) ?_
  exact W.iret (v := 0) hx hb hr (fun t ht hW => ⟨⟨0, (), rfl, rfl, by rw [ht]; exact hP9, va_K.moved hW.alike hK, hD9⟩, hS.F ht⟩) hS.2.2 dG_printed_17
set_option maxHeartbeats 4000000 in
set_option maxRecDepth 100000 in
theorem cG_apply_4 (l : Launch) (hl9 : l.stackTraces = false) (D : va_G) (cT : Nat → ClassId) (aK aV : Nat → Nat) (sz : Nat) (a0 : Nat) (a1 : Nat) (a2 : Nat) (a3 : Nat) (a4 : Nat) (a5 : Nat) (b6 : Nat) (v7 : Value) (f8 : Nat → Int64) (v10 : Value) (v11 : Value) (f12 : Nat → Int32) (f13 : Nat → Int64) (h9 : f8 0 = 0) : Met l yG_apply wyG_apply ({ frames := 7, cells := 0, slots := 0, locals := 152 }) (va_Pc [.int 4, .ref a0, .ref a2, .ref b6, .ref a4] (xPre D xcl cT aK aV sz [(a0, .inr (2, [.ref a1, .int 1, v7])), (a1, .inl (cT 2, 4096, .inr (.inl f8))), (a2, .inr (1, [.ref a3, v10, v11])), (a3, .inl (cT 0, 4096, .inl f12)), (a4, .inr (2, [.ref a5, .int 0, .int 0])), (a5, .inl (cT 2, 4096, .inr (.inl f13)))])) (va_Qi (fun (r : Int32) (_ : Unit) => r = 0) (fun _ t => xB D xcl cT (va_A [(a0, .inr (2, [.ref a1, .int 1, v7])), (a1, .inl (cT 2, 4096, .inr (.inl f8))), (a2, .inr (1, [.ref a3, v10, v11])), (a3, .inl (cT 0, 4096, .inl f12)), (a4, .inr (2, [.ref a5, .int 0, .int 0])), (a5, .inl (cT 2, 4096, .inr (.inl f13)))] sz) [(a0, .inr (2, [.ref a1, .int 1, v7])), (a1, .inl (cT 2, 4096, .inr (.inl f8))), (a2, .inr (1, [.ref a3, .int 4, .int 0])), (a3, .inl (cT 0, 4096, .inl (upd (upd (upd (upd f12 0 110) 1 117) 2 108) 3 108))), (a4, .inr (2, [.ref a5, .int 5, .int 0])), (a5, .inl (cT 2, 4096, .inr (.inl (vp_updL (vp_updL (vp_updL (vp_updL (vp_updL (vp_updL f13 0 0) 1 110) 2 117) 3 108) 4 108) 0 2621476))))] t) (va_A [(a0, .inr (2, [.ref a1, .int 1, v7])), (a1, .inl (cT 2, 4096, .inr (.inl f8))), (a2, .inr (1, [.ref a3, v10, v11])), (a3, .inl (cT 0, 4096, .inl f12)), (a4, .inr (2, [.ref a5, .int 0, .int 0])), (a5, .inl (cT 2, 4096, .inr (.inl f13)))] sz)) 0 0 (va_A [(a0, .inr (2, [.ref a1, .int 1, v7])), (a1, .inl (cT 2, 4096, .inr (.inl f8))), (a2, .inr (1, [.ref a3, v10, v11])), (a3, .inl (cT 0, 4096, .inl f12)), (a4, .inr (2, [.ref a5, .int 0, .int 0])), (a5, .inl (cT 2, 4096, .inr (.inl f13)))] sz) := by
  refine Met.ofW (cc := prog_9_method_2_code) (maxL := 5) (ret := (some .int)) (by decide) rfl ?_
  intro p e s m args below meth c s₁ B hml hv
  obtain ⟨rfl, hsz, hZ, hP, hK, hD0⟩ := hv
  have hx := B.exec
  have hb := B.bytes
  have hr := B.returns
  have hts := atoms_spec (ws := wyG_apply) B.pre
  have htx := fun w h => hts w (List.mem_cons_of_mem _ h)
  have hown : s.vm.findClass "ValueBench$Singles" = some m.cls := findClass_of_methodNamed B.named
  have hlocks := B.notSynchronized
  subst hsz
  have hD := hD0.self (sz := s.heap.size)
  generalize hAe : va_A [(a0, .inr (2, [.ref a1, .int 1, v7])), (a1, .inl (cT 2, 4096, .inr (.inl f8))), (a2, .inr (1, [.ref a3, v10, v11])), (a3, .inl (cT 0, 4096, .inl f12)), (a4, .inr (2, [.ref a5, .int 0, .int 0])), (a5, .inl (cT 2, 4096, .inr (.inl f13)))] s.heap.size = A at hD hZ ⊢
  have hA : ∀ q : Nat, s.heap.size ≤ q → A q := fun q h => by rw [← hAe]; exact Or.inr h
  have hS : va_S A s.heap s.heap [] := va_S.rf
  have hP : va_P D xcl [(a0, .inr (2, [.ref a1, .int 1, v7])), (a1, .inl (cT 2, 4096, .inr (.inl f8))), (a2, .inr (1, [.ref a3, v10, v11])), (a3, .inl (cT 0, 4096, .inl f12)), (a4, .inr (2, [.ref a5, .int 0, .int 0])), (a5, .inl (cT 2, 4096, .inr (.inl f13)))] s.heap := hP
  have hl := lv_entry ([.int 4, .ref a0, .ref a2, .ref b6, .ref a4]) (n := 5) (Nat.le_of_ble_eq_true rfl)
  rw [lg_entry_eq]
  generalize (lg_sl ([.int 4, .ref a0, .ref a2, .ref b6, .ref a4]) ++ List.replicate (5 - (lg_sl ([.int 4, .ref a0, .ref a2, .ref b6, .ref a4])).length) Slot.unset).toArray = ls at hl ⊢
  have hl : lv_has ls 5 [(0, .int 4), (1, .ref a0), (2, .ref a2), (3, .ref b6), (4, .ref a4)] := hl
  refine lv_iload_n hx hb dG_apply_0 rfl (lv_at hl 0 rfl) ?_
  refine lv_tableIn (off := 138) (tgt := 139) hx hb dG_apply_1 (by decide) (by decide) (by decide) (by decide) ?_
  refine lv_aload_n hx hb dG_apply_139 rfl (lv_at hl 1 rfl) ?_
  refine lv_iconst (v := 0) hx hb dG_apply_140 (by decide) ?_
  refine lv_iconst (v := 4) hx hb dG_apply_141 (by decide) ?_
  have hPc := hP.sub (ws' := [(a0, .inr (2, [.ref a1, .int 1, v7])), (a1, .inl (cT 2, 4096, .inr (.inl f8)))]) [0, 1] rfl
  have hDc := hD.sub (ws' := [(a0, .inr (2, [.ref a1, .int 1, v7])), (a1, .inl (cT 2, 4096, .inr (.inl f8)))]) [0, 1] (by decide) rfl
  have hFc := va_free (wc := [(a0, .inr (2, [.ref a1, .int 1, v7])), (a1, .inl (cT 2, 4096, .inr (.inl f8)))]) hD hS hA [0, 1] rfl
  refine va_calli (va_runV (C := "ValueBench$Row") (As := [.int 0, .int 4]) (rest := []) ⟨hx, hb, hml, hown, htx⟩ (cR_is_3 l hl9 D cT aK aV s.heap.size a0 a1 v7 f8 (by first | rfl | exact h9)) ⟨callB_of 2 htx (xw_goodC kw_3_75) rfl rfl rfl (htx _ kw_1_4) (htx _ kw_4_29) ⟨by decide, by decide, by decide +kernel⟩ ⟨Nat.le_of_ble_eq_true rfl, Nat.le_of_ble_eq_true rfl⟩, (htx _ kw_3_73), (htx _ kw_3_74)⟩ ⟨xPre_blind, va_recv hK hP (ci := 2) rfl (q0 := 0) rfl, (fun U hU hW => ⟨rfl, xPre_of hZ hS hFc hPc hDc hK U hU hW⟩)⟩ rfl rfl hl.1 rfl (lv_room (Nat.le_of_ble_eq_true rfl)) dG_apply_142 ⟨Nat.le_of_ble_eq_true rfl, Nat.le_of_ble_eq_true rfl⟩) hS (fun q _ h => hFc q h) hFc (fun r1 u9 t H1 locs ht hvm hr9 hB hz1 hk1 hS => ?_)
  obtain ⟨hP1, hK1, hD1⟩ := hB
  rw [ht] at hP1
  obtain ⟨hP, hD⟩ := va_join (wr := [(a2, .inr (1, [.ref a3, v10, v11])), (a3, .inl (cT 0, 4096, .inl f12)), (a4, .inr (2, [.ref a5, .int 0, .int 0])), (a5, .inl (cT 2, 4096, .inr (.inl f13)))]) (w1 := [(a0, .inr (2, [.ref a1, .int 1, v7])), (a1, .inl (cT 2, 4096, .inr (.inl f8)))]) hP hD [0, 1] [2, 3, 4, 5] rfl rfl (by decide) (by decide) hk1 hFc hP1 hD1
  generalize H1 = H at hP hS ⊢
  have hP : va_P D xcl [(a2, .inr (1, [.ref a3, v10, v11])), (a3, .inl (cT 0, 4096, .inl f12)), (a4, .inr (2, [.ref a5, .int 0, .int 0])), (a5, .inl (cT 2, 4096, .inr (.inl f13))), (a0, .inr (2, [.ref a1, .int 1, v7])), (a1, .inl (cT 2, 4096, .inr (.inl f8)))] H := hP
  have hD : va_D A [(a2, .inr (1, [.ref a3, v10, v11])), (a3, .inl (cT 0, 4096, .inl f12)), (a4, .inr (2, [.ref a5, .int 0, .int 0])), (a5, .inl (cT 2, 4096, .inr (.inl f13))), (a0, .inr (2, [.ref a1, .int 1, v7])), (a1, .inl (cT 2, 4096, .inr (.inl f8)))] := hD
  rw [hr9]
  refine W.eq (g2 := F0 m 145 ls [.int 0]) rfl ?_
  refine lv_if_eq (tgt := 157) hx hb dG_apply_145 (by decide) (fun _ => ?_) (fun h => ((by revert h; decide : False)).elim)
  refine lv_aload_n hx hb dG_apply_157 rfl (lv_at hl 1 rfl) ?_
  refine lv_aload_n hx hb dG_apply_158 rfl (lv_at hl 2 rfl) ?_
  refine lv_aload hx hb dG_apply_159 (lv_at hl 4 rfl) ?_
  have hPc := hP.sub (ws' := [(a2, .inr (1, [.ref a3, v10, v11])), (a0, .inr (2, [.ref a1, .int 1, v7])), (a1, .inl (cT 2, 4096, .inr (.inl f8))), (a3, .inl (cT 0, 4096, .inl f12)), (a4, .inr (2, [.ref a5, .int 0, .int 0])), (a5, .inl (cT 2, 4096, .inr (.inl f13)))]) [0, 4, 5, 1, 2, 3] rfl
  have hDc := hD.sub (ws' := [(a2, .inr (1, [.ref a3, v10, v11])), (a0, .inr (2, [.ref a1, .int 1, v7])), (a1, .inl (cT 2, 4096, .inr (.inl f8))), (a3, .inl (cT 0, 4096, .inl f12)), (a4, .inr (2, [.ref a5, .int 0, .int 0])), (a5, .inl (cT 2, 4096, .inr (.inl f13)))]) [0, 4, 5, 1, 2, 3] (by decide) rfl
  have hFc := va_free (wc := [(a2, .inr (1, [.ref a3, v10, v11])), (a0, .inr (2, [.ref a1, .int 1, v7])), (a1, .inl (cT 2, 4096, .inr (.inl f8))), (a3, .inl (cT 0, 4096, .inl f12)), (a4, .inr (2, [.ref a5, .int 0, .int 0])), (a5, .inl (cT 2, 4096, .inr (.inl f13)))]) hD hS hA [0, 4, 5, 1, 2, 3] rfl
  refine va_calli (va_runS (As := [.ref a0, .ref a2, .ref a4]) (rest := []) ⟨hx, hb, hml, hown, htx⟩ (cG_printed_0 l hl9 D cT aK aV H.size a2 a0 a1 a3 a4 a5 v10 v11 v7 f8 f12 f13 (by first | rfl | exact h9)) ⟨callB_of 3 htx (xw_goodC kw_4_80) rfl rfl rfl (htx _ kw_1_26) (htx _ kw_4_78) ⟨by decide, by decide, by decide +kernel⟩ ⟨Nat.le_of_ble_eq_true rfl, Nat.le_of_ble_eq_true rfl⟩, htx _ kw_4_79⟩ ⟨xPre_blind, (fun U hU hW => ⟨rfl, xPre_of hZ hS hFc hPc hDc hK U hU hW⟩)⟩ rfl rfl hl.1 rfl (lv_room (Nat.le_of_ble_eq_true rfl)) dG_apply_161 ⟨Nat.le_of_ble_eq_true rfl, Nat.le_of_ble_eq_true rfl⟩) hS (fun q _ h => hFc q h) hFc (fun r2 u9 t H1 locs ht hvm hr9 hB hz1 hk1 hS => ?_)
  obtain ⟨hP1, hK1, hD1⟩ := hB
  rw [ht] at hP1
  obtain ⟨hP, hD⟩ := va_join (wr := []) (w1 := [(a2, .inr (1, [.ref a3, .int 4, .int 0])), (a0, .inr (2, [.ref a1, .int 1, v7])), (a1, .inl (cT 2, 4096, .inr (.inl f8))), (a3, .inl (cT 0, 4096, .inl (upd (upd (upd (upd f12 0 110) 1 117) 2 108) 3 108))), (a4, .inr (2, [.ref a5, .int 5, .int 0])), (a5, .inl (cT 2, 4096, .inr (.inl (vp_updL (vp_updL (vp_updL (vp_updL (vp_updL (vp_updL f13 0 0) 1 110) 2 117) 3 108) 4 108) 0 2621476))))]) hP hD [0, 4, 5, 1, 2, 3] [] rfl rfl (by decide) (by decide) hk1 hFc hP1 hD1
  generalize H1 = H at hP hS ⊢
  have hP : va_P D xcl [(a2, .inr (1, [.ref a3, .int 4, .int 0])), (a0, .inr (2, [.ref a1, .int 1, v7])), (a1, .inl (cT 2, 4096, .inr (.inl f8))), (a3, .inl (cT 0, 4096, .inl (upd (upd (upd (upd f12 0 110) 1 117) 2 108) 3 108))), (a4, .inr (2, [.ref a5, .int 5, .int 0])), (a5, .inl (cT 2, 4096, .inr (.inl (vp_updL (vp_updL (vp_updL (vp_updL (vp_updL (vp_updL f13 0 0) 1 110) 2 117) 3 108) 4 108) 0 2621476))))] H := hP
  have hD : va_D A [(a2, .inr (1, [.ref a3, .int 4, .int 0])), (a0, .inr (2, [.ref a1, .int 1, v7])), (a1, .inl (cT 2, 4096, .inr (.inl f8))), (a3, .inl (cT 0, 4096, .inl (upd (upd (upd (upd f12 0 110) 1 117) 2 108) 3 108))), (a4, .inr (2, [.ref a5, .int 5, .int 0])), (a5, .inl (cT 2, 4096, .inr (.inl (vp_updL (vp_updL (vp_updL (vp_updL (vp_updL (vp_updL f13 0 0) 1 110) 2 117) 3 108) 4 108) 0 2621476))))] := hD
  rw [hr9]
  refine W.eq (g2 := F0 m 164 ls [.int 0]) rfl ?_
  have hP9 := hP.sub (ws' := [(a0, .inr (2, [.ref a1, .int 1, v7])), (a1, .inl (cT 2, 4096, .inr (.inl f8))), (a2, .inr (1, [.ref a3, .int 4, .int 0])), (a3, .inl (cT 0, 4096, .inl (upd (upd (upd (upd f12 0 110) 1 117) 2 108) 3 108))), (a4, .inr (2, [.ref a5, .int 5, .int 0])), (a5, .inl (cT 2, 4096, .inr (.inl (vp_updL (vp_updL (vp_updL (vp_updL (vp_updL (vp_updL f13 0 0) 1 110) 2 117) 3 108) 4 108) 0 2621476))))]) [1, 2, 0, 3, 4, 5] rfl
  have hD9 := hD.sub (ws' := [(a0, .inr (2, [.ref a1, .int 1, v7])), (a1, .inl (cT 2, 4096, .inr (.inl f8))), (a2, .inr (1, [.ref a3, .int 4, .int 0])), (a3, .inl (cT 0, 4096, .inl (upd (upd (upd (upd f12 0 110) 1 117) 2 108) 3 108))), (a4, .inr (2, [.ref a5, .int 5, .int 0])), (a5, .inl (cT 2, 4096, .inr (.inl (vp_updL (vp_updL (vp_updL (vp_updL (vp_updL (vp_updL f13 0 0) 1 110) 2 117) 3 108) 4 108) 0 2621476))))]) [1, 2, 0, 3, 4, 5] (by decide) rfl
  refine W.widen (k := 0) (n := 0) (Nat.le_of_ble_eq_true rfl) (Nat.le_of_ble_eq_true rfl) ?_
  exact W.iret (v := 0) hx hb hr (fun t ht hW => ⟨⟨0, (), rfl, rfl, by rw [ht]; exact hP9, va_K.moved hW.alike hK, hD9⟩, hS.F ht⟩) hS.2.2 dG_apply_164
set_option maxHeartbeats 4000000 in
set_option maxRecDepth 100000 in
theorem cR_kind_3 (l : Launch) (hl9 : l.stackTraces = false) (D : va_G) (cT : Nat → ClassId) (aK aV : Nat → Nat) (sz : Nat) (a0 : Nat) (a1 : Nat) (v2 : Value) (f3 : Nat → Int64) (h4 : f3 0 = 2621476) : Met l yR_kind wyR_kind ({ frames := 0, cells := 0, slots := 0, locals := 0 }) (va_Pc [.ref a0, .int 0] (xPre D xcl cT aK aV sz [(a0, .inr (2, [.ref a1, .int 5, v2])), (a1, .inl (cT 2, 4096, .inr (.inl f3)))])) (va_Qi (fun (r : Int32) (_ : Unit) => r = 4) (fun _ t => xB D xcl cT (va_A [(a0, .inr (2, [.ref a1, .int 5, v2])), (a1, .inl (cT 2, 4096, .inr (.inl f3)))] sz) [(a0, .inr (2, [.ref a1, .int 5, v2])), (a1, .inl (cT 2, 4096, .inr (.inl f3)))] t) (va_A [(a0, .inr (2, [.ref a1, .int 5, v2])), (a1, .inl (cT 2, 4096, .inr (.inl f3)))] sz)) 0 0 (va_A [(a0, .inr (2, [.ref a1, .int 5, v2])), (a1, .inl (cT 2, 4096, .inr (.inl f3)))] sz) := by
  refine Met.ofW (cc := prog_8_method_6_code) (maxL := 2) (ret := (some .int)) (by decide) rfl ?_
  intro p e s m args below meth c s₁ B hml hv
  obtain ⟨rfl, hsz, hZ, hP, hK, hD0⟩ := hv
  have hx := B.exec
  have hb := B.bytes
  have hr := B.returns
  have hts := atoms_spec (ws := wyR_kind) B.pre
  have htx := fun w h => hts w (List.mem_cons_of_mem _ h)
  have hown : s.vm.findClass "ValueBench$Row" = some m.cls := findClass_of_methodNamed B.named
  have hlocks := B.notSynchronized
  subst hsz
  have hD := hD0.self (sz := s.heap.size)
  generalize hAe : va_A [(a0, .inr (2, [.ref a1, .int 5, v2])), (a1, .inl (cT 2, 4096, .inr (.inl f3)))] s.heap.size = A at hD hZ ⊢
  have hA : ∀ q : Nat, s.heap.size ≤ q → A q := fun q h => by rw [← hAe]; exact Or.inr h
  have hS : va_S A s.heap s.heap [] := va_S.rf
  have hP : va_P D xcl [(a0, .inr (2, [.ref a1, .int 5, v2])), (a1, .inl (cT 2, 4096, .inr (.inl f3)))] s.heap := hP
  have hl := lv_entry ([.ref a0, .int 0]) (n := 2) (Nat.le_of_ble_eq_true rfl)
  rw [lg_entry_eq]
  generalize (lg_sl ([.ref a0, .int 0]) ++ List.replicate (2 - (lg_sl ([.ref a0, .int 0])).length) Slot.unset).toArray = ls at hl ⊢
  have hl : lv_has ls 2 [(0, .ref a0), (1, .int 0)] := hl
  refine lv_iload_n hx hb dR_kind_0 rfl (lv_at hl 1 rfl) ?_
  refine lv_if_lt (tgt := 25) hx hb dR_kind_1 (by decide) (fun h => ((by revert h; decide : False)).elim) (fun _ => ?_)
  refine lv_iload_n hx hb dR_kind_4 rfl (lv_at hl 1 rfl) ?_
  refine lv_aload_n hx hb dR_kind_5 rfl (lv_at hl 0 rfl) ?_
  refine va_get (D := D) (ci := 2) (v := .int 5) (C := "ValueBench$Row") (T := TR) (N := 3) hx hb htx inR hown hK hP 0 rfl rfl 1 (by decide) (htx _ kw_1_85) (fun _ h9 => h9) rfl dR_kind_6 ?_
  refine lv_icmp_ge (tgt := 25) hx hb dR_kind_9 (by decide) (fun h => ((by revert h; decide : False)).elim) (fun _ => ?_)
  refine lv_aload_n hx hb dR_kind_12 rfl (lv_at hl 0 rfl) ?_
  refine va_get (D := D) (ci := 2) (v := .ref a1) (C := "ValueBench$Row") (T := TR) (N := 3) hx hb htx inR hown hK hP 0 rfl rfl 0 (by decide) (htx _ kw_1_84) (fun _ h9 => h9) rfl dR_kind_13 ?_
  refine lv_iload_n hx hb dR_kind_16 rfl (lv_at hl 1 rfl) ?_
  refine va_lald hx hb hK hP 1 2 rfl rfl (show ¬ ((0 : Int32) < 0 ∨ 4096 ≤ (0 : Int32).toNatClampNeg) by decide) dR_kind_17 ?_
  refine W.eq (g2 := F0 m 18 ls [.long (f3 0)]) rfl ?_
  rw [h4]
  refine W.eq (g2 := F0 m 18 ls [.long 2621476]) rfl ?_
  refine lv_l2i hx hb dR_kind_18 rfl ?_
  refine W.eq (g2 := F0 m 19 ls [.int 2621476]) rfl ?_
  refine lv_bipush (v := 7) hx hb dR_kind_19 (by decide) ?_
  refine lv_iand hx hb dR_kind_21 ?_
  refine W.eq (g2 := F0 m 22 ls [.int 4]) rfl ?_
  refine lv_goto (tgt := 26) hx hb dR_kind_22 (by decide) ?_
  have hP9 := hP.sub (ws' := [(a0, .inr (2, [.ref a1, .int 5, v2])), (a1, .inl (cT 2, 4096, .inr (.inl f3)))]) [0, 1] rfl
  have hD9 := hD.sub (ws' := [(a0, .inr (2, [.ref a1, .int 5, v2])), (a1, .inl (cT 2, 4096, .inr (.inl f3)))]) [0, 1] (by decide) rfl
  refine W.widen (k := 0) (n := 0) (Nat.le_of_ble_eq_true rfl) (Nat.le_of_ble_eq_true rfl) ?_
  exact W.iret (v := 4) hx hb hr (fun t ht hW => ⟨⟨4, (), rfl, rfl, by rw [ht]; exact hP9, va_K.moved hW.alike hK, hD9⟩, hS.F ht⟩) hS.2.2 dR_kind_26
set_option maxHeartbeats 4000000 in
set_option maxRecDepth 100000 in
theorem cR_length_0 (l : Launch) (hl9 : l.stackTraces = false) (D : va_G) (cT : Nat → ClassId) (aK aV : Nat → Nat) (sz : Nat) (a0 : Nat) (a1 : Nat) (v2 : Value) (f3 : Nat → Int64) (h4 : f3 0 = 2621476) : Met l yR_length wyR_length ({ frames := 0, cells := 0, slots := 0, locals := 0 }) (va_Pc [.ref a0, .int 0] (xPre D xcl cT aK aV sz [(a0, .inr (2, [.ref a1, .int 5, v2])), (a1, .inl (cT 2, 4096, .inr (.inl f3)))])) (va_Qi (fun (r : Int32) (_ : Unit) => r = 4) (fun _ t => xB D xcl cT (va_A [(a0, .inr (2, [.ref a1, .int 5, v2])), (a1, .inl (cT 2, 4096, .inr (.inl f3)))] sz) [(a0, .inr (2, [.ref a1, .int 5, v2])), (a1, .inl (cT 2, 4096, .inr (.inl f3)))] t) (va_A [(a0, .inr (2, [.ref a1, .int 5, v2])), (a1, .inl (cT 2, 4096, .inr (.inl f3)))] sz)) 0 0 (va_A [(a0, .inr (2, [.ref a1, .int 5, v2])), (a1, .inl (cT 2, 4096, .inr (.inl f3)))] sz) := by
  refine Met.ofW (cc := prog_8_method_9_code) (maxL := 2) (ret := (some .int)) (by decide) rfl ?_
  intro p e s m args below meth c s₁ B hml hv
  obtain ⟨rfl, hsz, hZ, hP, hK, hD0⟩ := hv
  have hx := B.exec
  have hb := B.bytes
  have hr := B.returns
  have hts := atoms_spec (ws := wyR_length) B.pre
  have htx := fun w h => hts w (List.mem_cons_of_mem _ h)
  have hown : s.vm.findClass "ValueBench$Row" = some m.cls := findClass_of_methodNamed B.named
  have hlocks := B.notSynchronized
  subst hsz
  have hD := hD0.self (sz := s.heap.size)
  generalize hAe : va_A [(a0, .inr (2, [.ref a1, .int 5, v2])), (a1, .inl (cT 2, 4096, .inr (.inl f3)))] s.heap.size = A at hD hZ ⊢
  have hA : ∀ q : Nat, s.heap.size ≤ q → A q := fun q h => by rw [← hAe]; exact Or.inr h
  have hS : va_S A s.heap s.heap [] := va_S.rf
  have hP : va_P D xcl [(a0, .inr (2, [.ref a1, .int 5, v2])), (a1, .inl (cT 2, 4096, .inr (.inl f3)))] s.heap := hP
  have hl := lv_entry ([.ref a0, .int 0]) (n := 2) (Nat.le_of_ble_eq_true rfl)
  rw [lg_entry_eq]
  generalize (lg_sl ([.ref a0, .int 0]) ++ List.replicate (2 - (lg_sl ([.ref a0, .int 0])).length) Slot.unset).toArray = ls at hl ⊢
  have hl : lv_has ls 2 [(0, .ref a0), (1, .int 0)] := hl
  refine lv_iload_n hx hb dR_length_0 rfl (lv_at hl 1 rfl) ?_
  refine lv_if_lt (tgt := 27) hx hb dR_length_1 (by decide) (fun h => ((by revert h; decide : False)).elim) (fun _ => ?_)
  refine lv_iload_n hx hb dR_length_4 rfl (lv_at hl 1 rfl) ?_
  refine lv_aload_n hx hb dR_length_5 rfl (lv_at hl 0 rfl) ?_
  refine va_get (D := D) (ci := 2) (v := .int 5) (C := "ValueBench$Row") (T := TR) (N := 3) hx hb htx inR hown hK hP 0 rfl rfl 1 (by decide) (htx _ kw_1_85) (fun _ h9 => h9) rfl dR_length_6 ?_
  refine lv_icmp_ge (tgt := 27) hx hb dR_length_9 (by decide) (fun h => ((by revert h; decide : False)).elim) (fun _ => ?_)
  refine lv_aload_n hx hb dR_length_12 rfl (lv_at hl 0 rfl) ?_
  refine va_get (D := D) (ci := 2) (v := .ref a1) (C := "ValueBench$Row") (T := TR) (N := 3) hx hb htx inR hown hK hP 0 rfl rfl 0 (by decide) (htx _ kw_1_84) (fun _ h9 => h9) rfl dR_length_13 ?_
  refine lv_iload_n hx hb dR_length_16 rfl (lv_at hl 1 rfl) ?_
  refine va_lald hx hb hK hP 1 2 rfl rfl (show ¬ ((0 : Int32) < 0 ∨ 4096 ≤ (0 : Int32).toNatClampNeg) by decide) dR_length_17 ?_
  refine W.eq (g2 := F0 m 18 ls [.long (f3 0)]) rfl ?_
  rw [h4]
  refine W.eq (g2 := F0 m 18 ls [.long 2621476]) rfl ?_
  refine lv_iconst (v := 3) hx hb dR_length_18 (by decide) ?_
  refine lv_lshr hx hb dR_length_19 rfl ?_
  refine W.eq (g2 := F0 m 20 ls [.long 327684]) rfl ?_
  refine lv_l2i hx hb dR_length_20 rfl ?_
  refine W.eq (g2 := F0 m 21 ls [.int 327684]) rfl ?_
  refine lv_ldc hx hb hown (htx _ kw_2_192) dR_length_21 ?_
  refine lv_iand hx hb dR_length_23 ?_
  refine W.eq (g2 := F0 m 24 ls [.int 4]) rfl ?_
  refine lv_goto (tgt := 28) hx hb dR_length_24 (by decide) ?_
  have hP9 := hP.sub (ws' := [(a0, .inr (2, [.ref a1, .int 5, v2])), (a1, .inl (cT 2, 4096, .inr (.inl f3)))]) [0, 1] rfl
  have hD9 := hD.sub (ws' := [(a0, .inr (2, [.ref a1, .int 5, v2])), (a1, .inl (cT 2, 4096, .inr (.inl f3)))]) [0, 1] (by decide) rfl
  refine W.widen (k := 0) (n := 0) (Nat.le_of_ble_eq_true rfl) (Nat.le_of_ble_eq_true rfl) ?_
  exact W.iret (v := 4) hx hb hr (fun t ht hW => ⟨⟨4, (), rfl, rfl, by rw [ht]; exact hP9, va_K.moved hW.alike hK, hD9⟩, hS.F ht⟩) hS.2.2 dR_length_28
set_option maxHeartbeats 4000000 in
set_option maxRecDepth 100000 in
theorem cR_code_0 (l : Launch) (hl9 : l.stackTraces = false) (D : va_G) (cT : Nat → ClassId) (aK aV : Nat → Nat) (sz : Nat) (a0 : Nat) (a1 : Nat) (v2 : Value) (f3 : Nat → Int64) (h4 : f3 1 = 110) : Met l yR_code wyR_code ({ frames := 0, cells := 0, slots := 0, locals := 0 }) (va_Pc [.ref a0, .int 0, .int 0] (xPre D xcl cT aK aV sz [(a0, .inr (2, [.ref a1, .int 5, v2])), (a1, .inl (cT 2, 4096, .inr (.inl f3)))])) (va_Qi (fun (r : Int32) (_ : Unit) => r = 110) (fun _ t => xB D xcl cT (va_A [(a0, .inr (2, [.ref a1, .int 5, v2])), (a1, .inl (cT 2, 4096, .inr (.inl f3)))] sz) [(a0, .inr (2, [.ref a1, .int 5, v2])), (a1, .inl (cT 2, 4096, .inr (.inl f3)))] t) (va_A [(a0, .inr (2, [.ref a1, .int 5, v2])), (a1, .inl (cT 2, 4096, .inr (.inl f3)))] sz)) 0 0 (va_A [(a0, .inr (2, [.ref a1, .int 5, v2])), (a1, .inl (cT 2, 4096, .inr (.inl f3)))] sz) := by
  refine Met.ofW (cc := prog_8_method_10_code) (maxL := 4) (ret := (some .int)) (by decide) rfl ?_
  intro p e s m args below meth c s₁ B hml hv
  obtain ⟨rfl, hsz, hZ, hP, hK, hD0⟩ := hv
  have hx := B.exec
  have hb := B.bytes
  have hr := B.returns
  have hts := atoms_spec (ws := wyR_code) B.pre
  have htx := fun w h => hts w (List.mem_cons_of_mem _ h)
  have hown : s.vm.findClass "ValueBench$Row" = some m.cls := findClass_of_methodNamed B.named
  have hlocks := B.notSynchronized
  subst hsz
  have hD := hD0.self (sz := s.heap.size)
  generalize hAe : va_A [(a0, .inr (2, [.ref a1, .int 5, v2])), (a1, .inl (cT 2, 4096, .inr (.inl f3)))] s.heap.size = A at hD hZ ⊢
  have hA : ∀ q : Nat, s.heap.size ≤ q → A q := fun q h => by rw [← hAe]; exact Or.inr h
  have hS : va_S A s.heap s.heap [] := va_S.rf
  have hP : va_P D xcl [(a0, .inr (2, [.ref a1, .int 5, v2])), (a1, .inl (cT 2, 4096, .inr (.inl f3)))] s.heap := hP
  have hl := lv_entry ([.ref a0, .int 0, .int 0]) (n := 4) (Nat.le_of_ble_eq_true rfl)
  rw [lg_entry_eq]
  generalize (lg_sl ([.ref a0, .int 0, .int 0]) ++ List.replicate (4 - (lg_sl ([.ref a0, .int 0, .int 0])).length) Slot.unset).toArray = ls at hl ⊢
  have hl : lv_has ls 4 [(0, .ref a0), (1, .int 0), (2, .int 0)] := hl
  refine lv_iload_n hx hb dR_code_0 rfl (lv_at hl 1 rfl) ?_
  refine lv_iconst (v := 1) hx hb dR_code_1 (by decide) ?_
  refine lv_iadd hx hb dR_code_2 ?_
  refine W.eq (g2 := F0 m 3 ls [.int 1]) rfl ?_
  refine lv_iload_n hx hb dR_code_3 rfl (lv_at hl 2 rfl) ?_
  refine lv_iadd hx hb dR_code_4 ?_
  refine W.eq (g2 := F0 m 5 ls [.int 1]) rfl ?_
  refine lv_istore_n (lv' := [(3, .int 1), (0, .ref a0), (1, .int 0), (2, .int 0)]) hx hb dR_code_5 rfl hl (by decide) rfl (fun ls hl => ?_)
  refine lv_iload_n hx hb dR_code_6 rfl (lv_at hl 0 rfl) ?_
  refine lv_if_lt (tgt := 28) hx hb dR_code_7 (by decide) (fun h => ((by revert h; decide : False)).elim) (fun _ => ?_)
  refine lv_iload_n hx hb dR_code_10 rfl (lv_at hl 0 rfl) ?_
  refine lv_aload_n hx hb dR_code_11 rfl (lv_at hl 1 rfl) ?_
  refine va_get (D := D) (ci := 2) (v := .int 5) (C := "ValueBench$Row") (T := TR) (N := 3) hx hb htx inR hown hK hP 0 rfl rfl 1 (by decide) (htx _ kw_1_85) (fun _ h9 => h9) rfl dR_code_12 ?_
  refine lv_icmp_ge (tgt := 28) hx hb dR_code_15 (by decide) (fun h => ((by revert h; decide : False)).elim) (fun _ => ?_)
  refine lv_aload_n hx hb dR_code_18 rfl (lv_at hl 1 rfl) ?_
  refine va_get (D := D) (ci := 2) (v := .ref a1) (C := "ValueBench$Row") (T := TR) (N := 3) hx hb htx inR hown hK hP 0 rfl rfl 0 (by decide) (htx _ kw_1_84) (fun _ h9 => h9) rfl dR_code_19 ?_
  refine lv_iload_n hx hb dR_code_22 rfl (lv_at hl 0 rfl) ?_
  refine va_lald hx hb hK hP 1 2 rfl rfl (show ¬ ((1 : Int32) < 0 ∨ 4096 ≤ (1 : Int32).toNatClampNeg) by decide) dR_code_23 ?_
  refine W.eq (g2 := F0 m 24 ls [.long (f3 1)]) rfl ?_
  rw [h4]
  refine W.eq (g2 := F0 m 24 ls [.long 110]) rfl ?_
  refine lv_l2i hx hb dR_code_24 rfl ?_
  refine W.eq (g2 := F0 m 25 ls [.int 110]) rfl ?_
  refine lv_goto (tgt := 29) hx hb dR_code_25 (by decide) ?_
  have hP9 := hP.sub (ws' := [(a0, .inr (2, [.ref a1, .int 5, v2])), (a1, .inl (cT 2, 4096, .inr (.inl f3)))]) [0, 1] rfl
  have hD9 := hD.sub (ws' := [(a0, .inr (2, [.ref a1, .int 5, v2])), (a1, .inl (cT 2, 4096, .inr (.inl f3)))]) [0, 1] (by decide) rfl
  refine W.widen (k := 0) (n := 0) (Nat.le_of_ble_eq_true rfl) (Nat.le_of_ble_eq_true rfl) ?_
  exact W.iret (v := 110) hx hb hr (fun t ht hW => ⟨⟨110, (), rfl, rfl, by rw [ht]; exact hP9, va_K.moved hW.alike hK, hD9⟩, hS.F ht⟩) hS.2.2 dR_code_29
set_option maxHeartbeats 4000000 in
set_option maxRecDepth 100000 in
theorem cP_letterOf_0 (l : Launch) (hl9 : l.stackTraces = false) (D : va_G) (cT : Nat → ClassId) (aK aV : Nat → Nat) (sz : Nat) : Met l yP_letterOf wyP_letterOf ({ frames := 0, cells := 0, slots := 0, locals := 0 }) (va_Pc [.int 110] (xPre D xcl cT aK aV sz [])) (va_Qi (fun (r : Int32) (_ : Unit) => r = (-1)) (fun _ t => xB D xcl cT (va_A [] sz) [] t) (va_A [] sz)) 0 0 (va_A [] sz) := by
  refine Met.ofW (cc := prog_6_method_6_code) (maxL := 1) (ret := (some .int)) (by decide) rfl ?_
  intro p e s m args below meth c s₁ B hml hv
  obtain ⟨rfl, hsz, hZ, hP, hK, hD0⟩ := hv
  have hx := B.exec
  have hb := B.bytes
  have hr := B.returns
  have hts := atoms_spec (ws := wyP_letterOf) B.pre
  have htx := fun w h => hts w (List.mem_cons_of_mem _ h)
  have hown : s.vm.findClass "ValueBench$Printer" = some m.cls := findClass_of_methodNamed B.named
  have hlocks := B.notSynchronized
  subst hsz
  have hD := hD0.self (sz := s.heap.size)
  generalize hAe : va_A [] s.heap.size = A at hD hZ ⊢
  have hA : ∀ q : Nat, s.heap.size ≤ q → A q := fun q h => by rw [← hAe]; exact Or.inr h
  have hS : va_S A s.heap s.heap [] := va_S.rf
  have hP : va_P D xcl [] s.heap := hP
  have hl := lv_entry ([.int 110]) (n := 1) (Nat.le_of_ble_eq_true rfl)
  rw [lg_entry_eq]
  generalize (lg_sl ([.int 110]) ++ List.replicate (1 - (lg_sl ([.int 110])).length) Slot.unset).toArray = ls at hl ⊢
  have hl : lv_has ls 1 [(0, .int 110)] := hl
  refine lv_iload_n hx hb dP_letterOf_0 rfl (lv_at hl 0 rfl) ?_
  refine lv_lookup (off := 84) (tgt := 85) hx hb dP_letterOf_1 (by decide) (by decide) (by decide) ?_
  refine lv_iconst (v := (-1)) hx hb dP_letterOf_85 (by decide) ?_
  have hP9 := hP.sub (ws' := []) [] rfl
  have hD9 := hD.sub (ws' := []) [] (by decide) rfl
  refine W.widen (k := 0) (n := 0) (Nat.le_of_ble_eq_true rfl) (Nat.le_of_ble_eq_true rfl) ?_
  exact W.iret (v := (-1)) hx hb hr (fun t ht hW => ⟨⟨(-1), (), rfl, rfl, by rw [ht]; exact hP9, va_K.moved hW.alike hK, hD9⟩, hS.F ht⟩) hS.2.2 dP_letterOf_86
set_option maxHeartbeats 4000000 in
set_option maxRecDepth 100000 in
theorem cP_writeCode_0 (l : Launch) (hl9 : l.stackTraces = false) (D : va_G) (cT : Nat → ClassId) (aK aV : Nat → Nat) (sz : Nat) (a0 : Nat) (a1 : Nat) (v2 : Value) (f3 : Nat → Int32) : Met l yP_writeCode wyP_writeCode ({ frames := 1, cells := 0, slots := 0, locals := 21 }) (va_Pc [.int 110, .ref a0] (xPre D xcl cT aK aV sz [(a0, .inr (1, [.ref a1, .int 1, v2])), (a1, .inl (cT 0, 4096, .inl f3))])) (va_Qv (fun _ : Unit => True) (fun _ t => ∃ (y2 : Int32), xB D xcl cT (va_A [(a0, .inr (1, [.ref a1, .int 1, v2])), (a1, .inl (cT 0, 4096, .inl f3))] sz) [(a0, .inr (1, [.ref a1, .int 2, v2])), (a1, .inl (cT 0, 4096, .inl (upd f3 1 (vp_nar .byte y2))))] t) (va_A [(a0, .inr (1, [.ref a1, .int 1, v2])), (a1, .inl (cT 0, 4096, .inl f3))] sz)) 0 0 (va_A [(a0, .inr (1, [.ref a1, .int 1, v2])), (a1, .inl (cT 0, 4096, .inl f3))] sz) := by
  refine Met.ofW (cc := prog_6_method_5_code) (maxL := 3) (ret := none) (by decide) rfl ?_
  intro p e s m args below meth c s₁ B hml hv
  obtain ⟨rfl, hsz, hZ, hP, hK, hD0⟩ := hv
  have hx := B.exec
  have hb := B.bytes
  have hr := B.returns
  have hts := atoms_spec (ws := wyP_writeCode) B.pre
  have htx := fun w h => hts w (List.mem_cons_of_mem _ h)
  have hown : s.vm.findClass "ValueBench$Printer" = some m.cls := findClass_of_methodNamed B.named
  have hlocks := B.notSynchronized
  subst hsz
  have hD := hD0.self (sz := s.heap.size)
  generalize hAe : va_A [(a0, .inr (1, [.ref a1, .int 1, v2])), (a1, .inl (cT 0, 4096, .inl f3))] s.heap.size = A at hD hZ ⊢
  have hA : ∀ q : Nat, s.heap.size ≤ q → A q := fun q h => by rw [← hAe]; exact Or.inr h
  have hS : va_S A s.heap s.heap [] := va_S.rf
  have hP : va_P D xcl [(a0, .inr (1, [.ref a1, .int 1, v2])), (a1, .inl (cT 0, 4096, .inl f3))] s.heap := hP
  have hl := lv_entry ([.int 110, .ref a0]) (n := 3) (Nat.le_of_ble_eq_true rfl)
  rw [lg_entry_eq]
  generalize (lg_sl ([.int 110, .ref a0]) ++ List.replicate (3 - (lg_sl ([.int 110, .ref a0])).length) Slot.unset).toArray = ls at hl ⊢
  have hl : lv_has ls 3 [(0, .int 110), (1, .ref a0)] := hl
  refine lv_iload_n hx hb dP_writeCode_0 rfl (lv_at hl 0 rfl) ?_
  have hPc := hP.sub (ws' := []) [] rfl
  have hDc := hD.sub (ws' := []) [] (by decide) rfl
  have hFc := va_free (wc := []) hD hS hA [] rfl
  refine va_calli (va_runS (As := [.int 110]) (rest := []) ⟨hx, hb, hml, hown, htx⟩ (cP_letterOf_0 l hl9 D cT aK aV s.heap.size) ⟨callB_of 1 htx (xw_goodC kw_3_62) rfl rfl rfl (htx _ kw_1_18) (htx _ kw_3_60) ⟨by decide, by decide, by decide +kernel⟩ ⟨Nat.le_of_ble_eq_true rfl, Nat.le_of_ble_eq_true rfl⟩, htx _ kw_3_61⟩ ⟨xPre_blind, (fun U hU hW => ⟨rfl, xPre_of hZ hS hFc hPc hDc hK U hU hW⟩)⟩ rfl rfl hl.1 rfl (lv_room (Nat.le_of_ble_eq_true rfl)) dP_writeCode_1 ⟨Nat.le_of_ble_eq_true rfl, Nat.le_of_ble_eq_true rfl⟩) hS (fun q _ h => hFc q h) hFc (fun r1 u9 t H1 locs ht hvm hr9 hB hz1 hk1 hS => ?_)
  obtain ⟨hP1, hK1, hD1⟩ := hB
  rw [ht] at hP1
  obtain ⟨hP, hD⟩ := va_join (wr := [(a0, .inr (1, [.ref a1, .int 1, v2])), (a1, .inl (cT 0, 4096, .inl f3))]) (w1 := []) hP hD [] [0, 1] rfl rfl (by decide) (by decide) hk1 hFc hP1 hD1
  generalize H1 = H at hP hS ⊢
  have hP : va_P D xcl [(a0, .inr (1, [.ref a1, .int 1, v2])), (a1, .inl (cT 0, 4096, .inl f3))] H := hP
  have hD : va_D A [(a0, .inr (1, [.ref a1, .int 1, v2])), (a1, .inl (cT 0, 4096, .inl f3))] := hD
  rw [hr9]
  refine W.eq (g2 := F0 m 4 ls [.int (-1)]) rfl ?_
  refine lv_istore_n (lv' := [(2, .int (-1)), (0, .int 110), (1, .ref a0)]) hx hb dP_writeCode_4 rfl hl (by decide) rfl (fun ls hl => ?_)
  refine lv_iload_n hx hb dP_writeCode_5 rfl (lv_at hl 0 rfl) ?_
  refine lv_iconst (v := (-1)) hx hb dP_writeCode_6 (by decide) ?_
  refine lv_icmp_eq (tgt := 24) hx hb dP_writeCode_7 (by decide) (fun _ => ?_) (fun h => ((by revert h; decide : False)).elim)
  refine lv_iload_n hx hb dP_writeCode_24 rfl (lv_at hl 1 rfl) ?_
  refine lv_bipush (v := 32) hx hb dP_writeCode_25 (by decide) ?_
  refine lv_icmp_lt (tgt := 36) hx hb dP_writeCode_27 (by decide) (fun h => ((by revert h; decide : False)).elim) (fun _ => ?_)
  refine lv_iload_n hx hb dP_writeCode_30 rfl (lv_at hl 1 rfl) ?_
  refine lv_bipush (v := 127) hx hb dP_writeCode_31 (by decide) ?_
  refine lv_icmp_ne (tgt := 91) hx hb dP_writeCode_33 (by decide) (fun _ => ?_) (fun h => ((by revert h; decide : False)).elim)
  refine lv_aload_n hx hb dP_writeCode_91 rfl (lv_at hl 2 rfl) ?_
  refine lv_iload_n hx hb dP_writeCode_92 rfl (lv_at hl 1 rfl) ?_
  have hPc := hP.sub (ws' := [(a0, .inr (1, [.ref a1, .int 1, v2])), (a1, .inl (cT 0, 4096, .inl f3))]) [0, 1] rfl
  have hDc := hD.sub (ws' := [(a0, .inr (1, [.ref a1, .int 1, v2])), (a1, .inl (cT 0, 4096, .inl f3))]) [0, 1] (by decide) rfl
  have hFc := va_free (wc := [(a0, .inr (1, [.ref a1, .int 1, v2])), (a1, .inl (cT 0, 4096, .inl f3))]) hD hS hA [0, 1] rfl
  refine va_callv (va_runV (C := "ValueBench$Text") (As := [.int 110]) (rest := []) ⟨hx, hb, hml, hown, htx⟩ (cT_add_1 l hl9 D cT aK aV H.size a0 a1 110 v2 f3) ⟨callB_of 1 htx (xw_goodC kw_1_207) rfl rfl rfl (htx _ kw_1_2) (htx _ kw_3_51) ⟨by decide, by decide, by decide +kernel⟩ ⟨Nat.le_of_ble_eq_true rfl, Nat.le_of_ble_eq_true rfl⟩, (htx _ kw_1_205), (htx _ kw_1_206)⟩ ⟨xPre_blind, va_recv hK hP (ci := 1) rfl (q0 := 0) rfl, (fun U hU hW => ⟨rfl, xPre_of hZ hS hFc hPc hDc hK U hU hW⟩)⟩ rfl rfl hl.1 rfl (lv_room (Nat.le_of_ble_eq_true rfl)) dP_writeCode_93 ⟨Nat.le_of_ble_eq_true rfl, Nat.le_of_ble_eq_true rfl⟩) hS (fun q _ h => hFc q h) hFc (fun u9 t H1 locs ht hvm hr9 hB hz1 hk1 hS => ?_)
  obtain ⟨y2, hP1, hK1, hD1⟩ := hB
  rw [ht] at hP1
  obtain ⟨hP, hD⟩ := va_join (wr := []) (w1 := [(a0, .inr (1, [.ref a1, .int 2, v2])), (a1, .inl (cT 0, 4096, .inl (upd f3 1 (vp_nar .byte y2))))]) hP hD [0, 1] [] rfl rfl (by decide) (by decide) hk1 hFc hP1 hD1
  generalize H1 = H at hP hS ⊢
  have hP : va_P D xcl [(a0, .inr (1, [.ref a1, .int 2, v2])), (a1, .inl (cT 0, 4096, .inl (upd f3 1 (vp_nar .byte y2))))] H := hP
  have hD : va_D A [(a0, .inr (1, [.ref a1, .int 2, v2])), (a1, .inl (cT 0, 4096, .inl (upd f3 1 (vp_nar .byte y2))))] := hD
  have hP9 := hP.sub (ws' := [(a0, .inr (1, [.ref a1, .int 2, v2])), (a1, .inl (cT 0, 4096, .inl (upd f3 1 (vp_nar .byte y2))))]) [0, 1] rfl
  have hD9 := hD.sub (ws' := [(a0, .inr (1, [.ref a1, .int 2, v2])), (a1, .inl (cT 0, 4096, .inl (upd f3 1 (vp_nar .byte y2))))]) [0, 1] (by decide) rfl
  refine W.widen (k := 0) (n := 0) (Nat.le_of_ble_eq_true rfl) (Nat.le_of_ble_eq_true rfl) ?_
  exact W.vret hx hb hr (fun t ht hW => ⟨⟨(), rfl, trivial, y2, by rw [ht]; exact hP9, va_K.moved hW.alike hK, hD9⟩, hS.F ht⟩) hS.2.2 dP_writeCode_96
set_option maxHeartbeats 4000000 in
set_option maxRecDepth 100000 in
theorem cR_code_1 (l : Launch) (hl9 : l.stackTraces = false) (D : va_G) (cT : Nat → ClassId) (aK aV : Nat → Nat) (sz : Nat) (a0 : Nat) (a1 : Nat) (v2 : Value) (f3 : Nat → Int64) (h4 : f3 2 = 117) : Met l yR_code wyR_code ({ frames := 0, cells := 0, slots := 0, locals := 0 }) (va_Pc [.ref a0, .int 0, .int 1] (xPre D xcl cT aK aV sz [(a0, .inr (2, [.ref a1, .int 5, v2])), (a1, .inl (cT 2, 4096, .inr (.inl f3)))])) (va_Qi (fun (r : Int32) (_ : Unit) => r = 117) (fun _ t => xB D xcl cT (va_A [(a0, .inr (2, [.ref a1, .int 5, v2])), (a1, .inl (cT 2, 4096, .inr (.inl f3)))] sz) [(a0, .inr (2, [.ref a1, .int 5, v2])), (a1, .inl (cT 2, 4096, .inr (.inl f3)))] t) (va_A [(a0, .inr (2, [.ref a1, .int 5, v2])), (a1, .inl (cT 2, 4096, .inr (.inl f3)))] sz)) 0 0 (va_A [(a0, .inr (2, [.ref a1, .int 5, v2])), (a1, .inl (cT 2, 4096, .inr (.inl f3)))] sz) := by
  refine Met.ofW (cc := prog_8_method_10_code) (maxL := 4) (ret := (some .int)) (by decide) rfl ?_
  intro p e s m args below meth c s₁ B hml hv
  obtain ⟨rfl, hsz, hZ, hP, hK, hD0⟩ := hv
  have hx := B.exec
  have hb := B.bytes
  have hr := B.returns
  have hts := atoms_spec (ws := wyR_code) B.pre
  have htx := fun w h => hts w (List.mem_cons_of_mem _ h)
  have hown : s.vm.findClass "ValueBench$Row" = some m.cls := findClass_of_methodNamed B.named
  have hlocks := B.notSynchronized
  subst hsz
  have hD := hD0.self (sz := s.heap.size)
  generalize hAe : va_A [(a0, .inr (2, [.ref a1, .int 5, v2])), (a1, .inl (cT 2, 4096, .inr (.inl f3)))] s.heap.size = A at hD hZ ⊢
  have hA : ∀ q : Nat, s.heap.size ≤ q → A q := fun q h => by rw [← hAe]; exact Or.inr h
  have hS : va_S A s.heap s.heap [] := va_S.rf
  have hP : va_P D xcl [(a0, .inr (2, [.ref a1, .int 5, v2])), (a1, .inl (cT 2, 4096, .inr (.inl f3)))] s.heap := hP
  have hl := lv_entry ([.ref a0, .int 0, .int 1]) (n := 4) (Nat.le_of_ble_eq_true rfl)
  rw [lg_entry_eq]
  generalize (lg_sl ([.ref a0, .int 0, .int 1]) ++ List.replicate (4 - (lg_sl ([.ref a0, .int 0, .int 1])).length) Slot.unset).toArray = ls at hl ⊢
  have hl : lv_has ls 4 [(0, .ref a0), (1, .int 0), (2, .int 1)] := hl
  refine lv_iload_n hx hb dR_code_0 rfl (lv_at hl 1 rfl) ?_
  refine lv_iconst (v := 1) hx hb dR_code_1 (by decide) ?_
  refine lv_iadd hx hb dR_code_2 ?_
  refine W.eq (g2 := F0 m 3 ls [.int 1]) rfl ?_
  refine lv_iload_n hx hb dR_code_3 rfl (lv_at hl 2 rfl) ?_
  refine lv_iadd hx hb dR_code_4 ?_
  refine W.eq (g2 := F0 m 5 ls [.int 2]) rfl ?_
  refine lv_istore_n (lv' := [(3, .int 2), (0, .ref a0), (1, .int 0), (2, .int 1)]) hx hb dR_code_5 rfl hl (by decide) rfl (fun ls hl => ?_)
  refine lv_iload_n hx hb dR_code_6 rfl (lv_at hl 0 rfl) ?_
  refine lv_if_lt (tgt := 28) hx hb dR_code_7 (by decide) (fun h => ((by revert h; decide : False)).elim) (fun _ => ?_)
  refine lv_iload_n hx hb dR_code_10 rfl (lv_at hl 0 rfl) ?_
  refine lv_aload_n hx hb dR_code_11 rfl (lv_at hl 1 rfl) ?_
  refine va_get (D := D) (ci := 2) (v := .int 5) (C := "ValueBench$Row") (T := TR) (N := 3) hx hb htx inR hown hK hP 0 rfl rfl 1 (by decide) (htx _ kw_1_85) (fun _ h9 => h9) rfl dR_code_12 ?_
  refine lv_icmp_ge (tgt := 28) hx hb dR_code_15 (by decide) (fun h => ((by revert h; decide : False)).elim) (fun _ => ?_)
  refine lv_aload_n hx hb dR_code_18 rfl (lv_at hl 1 rfl) ?_
  refine va_get (D := D) (ci := 2) (v := .ref a1) (C := "ValueBench$Row") (T := TR) (N := 3) hx hb htx inR hown hK hP 0 rfl rfl 0 (by decide) (htx _ kw_1_84) (fun _ h9 => h9) rfl dR_code_19 ?_
  refine lv_iload_n hx hb dR_code_22 rfl (lv_at hl 0 rfl) ?_
  refine va_lald hx hb hK hP 1 2 rfl rfl (show ¬ ((2 : Int32) < 0 ∨ 4096 ≤ (2 : Int32).toNatClampNeg) by decide) dR_code_23 ?_
  refine W.eq (g2 := F0 m 24 ls [.long (f3 2)]) rfl ?_
  rw [h4]
  refine W.eq (g2 := F0 m 24 ls [.long 117]) rfl ?_
  refine lv_l2i hx hb dR_code_24 rfl ?_
  refine W.eq (g2 := F0 m 25 ls [.int 117]) rfl ?_
  refine lv_goto (tgt := 29) hx hb dR_code_25 (by decide) ?_
  have hP9 := hP.sub (ws' := [(a0, .inr (2, [.ref a1, .int 5, v2])), (a1, .inl (cT 2, 4096, .inr (.inl f3)))]) [0, 1] rfl
  have hD9 := hD.sub (ws' := [(a0, .inr (2, [.ref a1, .int 5, v2])), (a1, .inl (cT 2, 4096, .inr (.inl f3)))]) [0, 1] (by decide) rfl
  refine W.widen (k := 0) (n := 0) (Nat.le_of_ble_eq_true rfl) (Nat.le_of_ble_eq_true rfl) ?_
  exact W.iret (v := 117) hx hb hr (fun t ht hW => ⟨⟨117, (), rfl, rfl, by rw [ht]; exact hP9, va_K.moved hW.alike hK, hD9⟩, hS.F ht⟩) hS.2.2 dR_code_29
set_option maxHeartbeats 4000000 in
set_option maxRecDepth 100000 in
theorem cP_letterOf_1 (l : Launch) (hl9 : l.stackTraces = false) (D : va_G) (cT : Nat → ClassId) (aK aV : Nat → Nat) (sz : Nat) : Met l yP_letterOf wyP_letterOf ({ frames := 0, cells := 0, slots := 0, locals := 0 }) (va_Pc [.int 117] (xPre D xcl cT aK aV sz [])) (va_Qi (fun (r : Int32) (_ : Unit) => r = (-1)) (fun _ t => xB D xcl cT (va_A [] sz) [] t) (va_A [] sz)) 0 0 (va_A [] sz) := by
  refine Met.ofW (cc := prog_6_method_6_code) (maxL := 1) (ret := (some .int)) (by decide) rfl ?_
  intro p e s m args below meth c s₁ B hml hv
  obtain ⟨rfl, hsz, hZ, hP, hK, hD0⟩ := hv
  have hx := B.exec
  have hb := B.bytes
  have hr := B.returns
  have hts := atoms_spec (ws := wyP_letterOf) B.pre
  have htx := fun w h => hts w (List.mem_cons_of_mem _ h)
  have hown : s.vm.findClass "ValueBench$Printer" = some m.cls := findClass_of_methodNamed B.named
  have hlocks := B.notSynchronized
  subst hsz
  have hD := hD0.self (sz := s.heap.size)
  generalize hAe : va_A [] s.heap.size = A at hD hZ ⊢
  have hA : ∀ q : Nat, s.heap.size ≤ q → A q := fun q h => by rw [← hAe]; exact Or.inr h
  have hS : va_S A s.heap s.heap [] := va_S.rf
  have hP : va_P D xcl [] s.heap := hP
  have hl := lv_entry ([.int 117]) (n := 1) (Nat.le_of_ble_eq_true rfl)
  rw [lg_entry_eq]
  generalize (lg_sl ([.int 117]) ++ List.replicate (1 - (lg_sl ([.int 117])).length) Slot.unset).toArray = ls at hl ⊢
  have hl : lv_has ls 1 [(0, .int 117)] := hl
  refine lv_iload_n hx hb dP_letterOf_0 rfl (lv_at hl 0 rfl) ?_
  refine lv_lookup (off := 84) (tgt := 85) hx hb dP_letterOf_1 (by decide) (by decide) (by decide) ?_
  refine lv_iconst (v := (-1)) hx hb dP_letterOf_85 (by decide) ?_
  have hP9 := hP.sub (ws' := []) [] rfl
  have hD9 := hD.sub (ws' := []) [] (by decide) rfl
  refine W.widen (k := 0) (n := 0) (Nat.le_of_ble_eq_true rfl) (Nat.le_of_ble_eq_true rfl) ?_
  exact W.iret (v := (-1)) hx hb hr (fun t ht hW => ⟨⟨(-1), (), rfl, rfl, by rw [ht]; exact hP9, va_K.moved hW.alike hK, hD9⟩, hS.F ht⟩) hS.2.2 dP_letterOf_86
set_option maxHeartbeats 4000000 in
set_option maxRecDepth 100000 in
theorem cP_writeCode_1 (l : Launch) (hl9 : l.stackTraces = false) (D : va_G) (cT : Nat → ClassId) (aK aV : Nat → Nat) (sz : Nat) (a0 : Nat) (a1 : Nat) (v2 : Value) (f3 : Nat → Int32) : Met l yP_writeCode wyP_writeCode ({ frames := 1, cells := 0, slots := 0, locals := 21 }) (va_Pc [.int 117, .ref a0] (xPre D xcl cT aK aV sz [(a0, .inr (1, [.ref a1, .int 2, v2])), (a1, .inl (cT 0, 4096, .inl f3))])) (va_Qv (fun _ : Unit => True) (fun _ t => ∃ (y2 : Int32), xB D xcl cT (va_A [(a0, .inr (1, [.ref a1, .int 2, v2])), (a1, .inl (cT 0, 4096, .inl f3))] sz) [(a0, .inr (1, [.ref a1, .int 3, v2])), (a1, .inl (cT 0, 4096, .inl (upd f3 2 (vp_nar .byte y2))))] t) (va_A [(a0, .inr (1, [.ref a1, .int 2, v2])), (a1, .inl (cT 0, 4096, .inl f3))] sz)) 0 0 (va_A [(a0, .inr (1, [.ref a1, .int 2, v2])), (a1, .inl (cT 0, 4096, .inl f3))] sz) := by
  refine Met.ofW (cc := prog_6_method_5_code) (maxL := 3) (ret := none) (by decide) rfl ?_
  intro p e s m args below meth c s₁ B hml hv
  obtain ⟨rfl, hsz, hZ, hP, hK, hD0⟩ := hv
  have hx := B.exec
  have hb := B.bytes
  have hr := B.returns
  have hts := atoms_spec (ws := wyP_writeCode) B.pre
  have htx := fun w h => hts w (List.mem_cons_of_mem _ h)
  have hown : s.vm.findClass "ValueBench$Printer" = some m.cls := findClass_of_methodNamed B.named
  have hlocks := B.notSynchronized
  subst hsz
  have hD := hD0.self (sz := s.heap.size)
  generalize hAe : va_A [(a0, .inr (1, [.ref a1, .int 2, v2])), (a1, .inl (cT 0, 4096, .inl f3))] s.heap.size = A at hD hZ ⊢
  have hA : ∀ q : Nat, s.heap.size ≤ q → A q := fun q h => by rw [← hAe]; exact Or.inr h
  have hS : va_S A s.heap s.heap [] := va_S.rf
  have hP : va_P D xcl [(a0, .inr (1, [.ref a1, .int 2, v2])), (a1, .inl (cT 0, 4096, .inl f3))] s.heap := hP
  have hl := lv_entry ([.int 117, .ref a0]) (n := 3) (Nat.le_of_ble_eq_true rfl)
  rw [lg_entry_eq]
  generalize (lg_sl ([.int 117, .ref a0]) ++ List.replicate (3 - (lg_sl ([.int 117, .ref a0])).length) Slot.unset).toArray = ls at hl ⊢
  have hl : lv_has ls 3 [(0, .int 117), (1, .ref a0)] := hl
  refine lv_iload_n hx hb dP_writeCode_0 rfl (lv_at hl 0 rfl) ?_
  have hPc := hP.sub (ws' := []) [] rfl
  have hDc := hD.sub (ws' := []) [] (by decide) rfl
  have hFc := va_free (wc := []) hD hS hA [] rfl
  refine va_calli (va_runS (As := [.int 117]) (rest := []) ⟨hx, hb, hml, hown, htx⟩ (cP_letterOf_1 l hl9 D cT aK aV s.heap.size) ⟨callB_of 1 htx (xw_goodC kw_3_62) rfl rfl rfl (htx _ kw_1_18) (htx _ kw_3_60) ⟨by decide, by decide, by decide +kernel⟩ ⟨Nat.le_of_ble_eq_true rfl, Nat.le_of_ble_eq_true rfl⟩, htx _ kw_3_61⟩ ⟨xPre_blind, (fun U hU hW => ⟨rfl, xPre_of hZ hS hFc hPc hDc hK U hU hW⟩)⟩ rfl rfl hl.1 rfl (lv_room (Nat.le_of_ble_eq_true rfl)) dP_writeCode_1 ⟨Nat.le_of_ble_eq_true rfl, Nat.le_of_ble_eq_true rfl⟩) hS (fun q _ h => hFc q h) hFc (fun r1 u9 t H1 locs ht hvm hr9 hB hz1 hk1 hS => ?_)
  obtain ⟨hP1, hK1, hD1⟩ := hB
  rw [ht] at hP1
  obtain ⟨hP, hD⟩ := va_join (wr := [(a0, .inr (1, [.ref a1, .int 2, v2])), (a1, .inl (cT 0, 4096, .inl f3))]) (w1 := []) hP hD [] [0, 1] rfl rfl (by decide) (by decide) hk1 hFc hP1 hD1
  generalize H1 = H at hP hS ⊢
  have hP : va_P D xcl [(a0, .inr (1, [.ref a1, .int 2, v2])), (a1, .inl (cT 0, 4096, .inl f3))] H := hP
  have hD : va_D A [(a0, .inr (1, [.ref a1, .int 2, v2])), (a1, .inl (cT 0, 4096, .inl f3))] := hD
  rw [hr9]
  refine W.eq (g2 := F0 m 4 ls [.int (-1)]) rfl ?_
  refine lv_istore_n (lv' := [(2, .int (-1)), (0, .int 117), (1, .ref a0)]) hx hb dP_writeCode_4 rfl hl (by decide) rfl (fun ls hl => ?_)
  refine lv_iload_n hx hb dP_writeCode_5 rfl (lv_at hl 0 rfl) ?_
  refine lv_iconst (v := (-1)) hx hb dP_writeCode_6 (by decide) ?_
  refine lv_icmp_eq (tgt := 24) hx hb dP_writeCode_7 (by decide) (fun _ => ?_) (fun h => ((by revert h; decide : False)).elim)
  refine lv_iload_n hx hb dP_writeCode_24 rfl (lv_at hl 1 rfl) ?_
  refine lv_bipush (v := 32) hx hb dP_writeCode_25 (by decide) ?_
  refine lv_icmp_lt (tgt := 36) hx hb dP_writeCode_27 (by decide) (fun h => ((by revert h; decide : False)).elim) (fun _ => ?_)
  refine lv_iload_n hx hb dP_writeCode_30 rfl (lv_at hl 1 rfl) ?_
  refine lv_bipush (v := 127) hx hb dP_writeCode_31 (by decide) ?_
  refine lv_icmp_ne (tgt := 91) hx hb dP_writeCode_33 (by decide) (fun _ => ?_) (fun h => ((by revert h; decide : False)).elim)
  refine lv_aload_n hx hb dP_writeCode_91 rfl (lv_at hl 2 rfl) ?_
  refine lv_iload_n hx hb dP_writeCode_92 rfl (lv_at hl 1 rfl) ?_
  have hPc := hP.sub (ws' := [(a0, .inr (1, [.ref a1, .int 2, v2])), (a1, .inl (cT 0, 4096, .inl f3))]) [0, 1] rfl
  have hDc := hD.sub (ws' := [(a0, .inr (1, [.ref a1, .int 2, v2])), (a1, .inl (cT 0, 4096, .inl f3))]) [0, 1] (by decide) rfl
  have hFc := va_free (wc := [(a0, .inr (1, [.ref a1, .int 2, v2])), (a1, .inl (cT 0, 4096, .inl f3))]) hD hS hA [0, 1] rfl
  refine va_callv (va_runV (C := "ValueBench$Text") (As := [.int 117]) (rest := []) ⟨hx, hb, hml, hown, htx⟩ (cT_add_2 l hl9 D cT aK aV H.size a0 a1 117 v2 f3) ⟨callB_of 1 htx (xw_goodC kw_1_207) rfl rfl rfl (htx _ kw_1_2) (htx _ kw_3_51) ⟨by decide, by decide, by decide +kernel⟩ ⟨Nat.le_of_ble_eq_true rfl, Nat.le_of_ble_eq_true rfl⟩, (htx _ kw_1_205), (htx _ kw_1_206)⟩ ⟨xPre_blind, va_recv hK hP (ci := 1) rfl (q0 := 0) rfl, (fun U hU hW => ⟨rfl, xPre_of hZ hS hFc hPc hDc hK U hU hW⟩)⟩ rfl rfl hl.1 rfl (lv_room (Nat.le_of_ble_eq_true rfl)) dP_writeCode_93 ⟨Nat.le_of_ble_eq_true rfl, Nat.le_of_ble_eq_true rfl⟩) hS (fun q _ h => hFc q h) hFc (fun u9 t H1 locs ht hvm hr9 hB hz1 hk1 hS => ?_)
  obtain ⟨y2, hP1, hK1, hD1⟩ := hB
  rw [ht] at hP1
  obtain ⟨hP, hD⟩ := va_join (wr := []) (w1 := [(a0, .inr (1, [.ref a1, .int 3, v2])), (a1, .inl (cT 0, 4096, .inl (upd f3 2 (vp_nar .byte y2))))]) hP hD [0, 1] [] rfl rfl (by decide) (by decide) hk1 hFc hP1 hD1
  generalize H1 = H at hP hS ⊢
  have hP : va_P D xcl [(a0, .inr (1, [.ref a1, .int 3, v2])), (a1, .inl (cT 0, 4096, .inl (upd f3 2 (vp_nar .byte y2))))] H := hP
  have hD : va_D A [(a0, .inr (1, [.ref a1, .int 3, v2])), (a1, .inl (cT 0, 4096, .inl (upd f3 2 (vp_nar .byte y2))))] := hD
  have hP9 := hP.sub (ws' := [(a0, .inr (1, [.ref a1, .int 3, v2])), (a1, .inl (cT 0, 4096, .inl (upd f3 2 (vp_nar .byte y2))))]) [0, 1] rfl
  have hD9 := hD.sub (ws' := [(a0, .inr (1, [.ref a1, .int 3, v2])), (a1, .inl (cT 0, 4096, .inl (upd f3 2 (vp_nar .byte y2))))]) [0, 1] (by decide) rfl
  refine W.widen (k := 0) (n := 0) (Nat.le_of_ble_eq_true rfl) (Nat.le_of_ble_eq_true rfl) ?_
  exact W.vret hx hb hr (fun t ht hW => ⟨⟨(), rfl, trivial, y2, by rw [ht]; exact hP9, va_K.moved hW.alike hK, hD9⟩, hS.F ht⟩) hS.2.2 dP_writeCode_96
set_option maxHeartbeats 4000000 in
set_option maxRecDepth 100000 in
theorem cR_code_2 (l : Launch) (hl9 : l.stackTraces = false) (D : va_G) (cT : Nat → ClassId) (aK aV : Nat → Nat) (sz : Nat) (a0 : Nat) (a1 : Nat) (v2 : Value) (f3 : Nat → Int64) (h4 : f3 3 = 108) : Met l yR_code wyR_code ({ frames := 0, cells := 0, slots := 0, locals := 0 }) (va_Pc [.ref a0, .int 0, .int 2] (xPre D xcl cT aK aV sz [(a0, .inr (2, [.ref a1, .int 5, v2])), (a1, .inl (cT 2, 4096, .inr (.inl f3)))])) (va_Qi (fun (r : Int32) (_ : Unit) => r = 108) (fun _ t => xB D xcl cT (va_A [(a0, .inr (2, [.ref a1, .int 5, v2])), (a1, .inl (cT 2, 4096, .inr (.inl f3)))] sz) [(a0, .inr (2, [.ref a1, .int 5, v2])), (a1, .inl (cT 2, 4096, .inr (.inl f3)))] t) (va_A [(a0, .inr (2, [.ref a1, .int 5, v2])), (a1, .inl (cT 2, 4096, .inr (.inl f3)))] sz)) 0 0 (va_A [(a0, .inr (2, [.ref a1, .int 5, v2])), (a1, .inl (cT 2, 4096, .inr (.inl f3)))] sz) := by
  refine Met.ofW (cc := prog_8_method_10_code) (maxL := 4) (ret := (some .int)) (by decide) rfl ?_
  intro p e s m args below meth c s₁ B hml hv
  obtain ⟨rfl, hsz, hZ, hP, hK, hD0⟩ := hv
  have hx := B.exec
  have hb := B.bytes
  have hr := B.returns
  have hts := atoms_spec (ws := wyR_code) B.pre
  have htx := fun w h => hts w (List.mem_cons_of_mem _ h)
  have hown : s.vm.findClass "ValueBench$Row" = some m.cls := findClass_of_methodNamed B.named
  have hlocks := B.notSynchronized
  subst hsz
  have hD := hD0.self (sz := s.heap.size)
  generalize hAe : va_A [(a0, .inr (2, [.ref a1, .int 5, v2])), (a1, .inl (cT 2, 4096, .inr (.inl f3)))] s.heap.size = A at hD hZ ⊢
  have hA : ∀ q : Nat, s.heap.size ≤ q → A q := fun q h => by rw [← hAe]; exact Or.inr h
  have hS : va_S A s.heap s.heap [] := va_S.rf
  have hP : va_P D xcl [(a0, .inr (2, [.ref a1, .int 5, v2])), (a1, .inl (cT 2, 4096, .inr (.inl f3)))] s.heap := hP
  have hl := lv_entry ([.ref a0, .int 0, .int 2]) (n := 4) (Nat.le_of_ble_eq_true rfl)
  rw [lg_entry_eq]
  generalize (lg_sl ([.ref a0, .int 0, .int 2]) ++ List.replicate (4 - (lg_sl ([.ref a0, .int 0, .int 2])).length) Slot.unset).toArray = ls at hl ⊢
  have hl : lv_has ls 4 [(0, .ref a0), (1, .int 0), (2, .int 2)] := hl
  refine lv_iload_n hx hb dR_code_0 rfl (lv_at hl 1 rfl) ?_
  refine lv_iconst (v := 1) hx hb dR_code_1 (by decide) ?_
  refine lv_iadd hx hb dR_code_2 ?_
  refine W.eq (g2 := F0 m 3 ls [.int 1]) rfl ?_
  refine lv_iload_n hx hb dR_code_3 rfl (lv_at hl 2 rfl) ?_
  refine lv_iadd hx hb dR_code_4 ?_
  refine W.eq (g2 := F0 m 5 ls [.int 3]) rfl ?_
  refine lv_istore_n (lv' := [(3, .int 3), (0, .ref a0), (1, .int 0), (2, .int 2)]) hx hb dR_code_5 rfl hl (by decide) rfl (fun ls hl => ?_)
  refine lv_iload_n hx hb dR_code_6 rfl (lv_at hl 0 rfl) ?_
  refine lv_if_lt (tgt := 28) hx hb dR_code_7 (by decide) (fun h => ((by revert h; decide : False)).elim) (fun _ => ?_)
  refine lv_iload_n hx hb dR_code_10 rfl (lv_at hl 0 rfl) ?_
  refine lv_aload_n hx hb dR_code_11 rfl (lv_at hl 1 rfl) ?_
  refine va_get (D := D) (ci := 2) (v := .int 5) (C := "ValueBench$Row") (T := TR) (N := 3) hx hb htx inR hown hK hP 0 rfl rfl 1 (by decide) (htx _ kw_1_85) (fun _ h9 => h9) rfl dR_code_12 ?_
  refine lv_icmp_ge (tgt := 28) hx hb dR_code_15 (by decide) (fun h => ((by revert h; decide : False)).elim) (fun _ => ?_)
  refine lv_aload_n hx hb dR_code_18 rfl (lv_at hl 1 rfl) ?_
  refine va_get (D := D) (ci := 2) (v := .ref a1) (C := "ValueBench$Row") (T := TR) (N := 3) hx hb htx inR hown hK hP 0 rfl rfl 0 (by decide) (htx _ kw_1_84) (fun _ h9 => h9) rfl dR_code_19 ?_
  refine lv_iload_n hx hb dR_code_22 rfl (lv_at hl 0 rfl) ?_
  refine va_lald hx hb hK hP 1 2 rfl rfl (show ¬ ((3 : Int32) < 0 ∨ 4096 ≤ (3 : Int32).toNatClampNeg) by decide) dR_code_23 ?_
  refine W.eq (g2 := F0 m 24 ls [.long (f3 3)]) rfl ?_
  rw [h4]
  refine W.eq (g2 := F0 m 24 ls [.long 108]) rfl ?_
  refine lv_l2i hx hb dR_code_24 rfl ?_
  refine W.eq (g2 := F0 m 25 ls [.int 108]) rfl ?_
  refine lv_goto (tgt := 29) hx hb dR_code_25 (by decide) ?_
  have hP9 := hP.sub (ws' := [(a0, .inr (2, [.ref a1, .int 5, v2])), (a1, .inl (cT 2, 4096, .inr (.inl f3)))]) [0, 1] rfl
  have hD9 := hD.sub (ws' := [(a0, .inr (2, [.ref a1, .int 5, v2])), (a1, .inl (cT 2, 4096, .inr (.inl f3)))]) [0, 1] (by decide) rfl
  refine W.widen (k := 0) (n := 0) (Nat.le_of_ble_eq_true rfl) (Nat.le_of_ble_eq_true rfl) ?_
  exact W.iret (v := 108) hx hb hr (fun t ht hW => ⟨⟨108, (), rfl, rfl, by rw [ht]; exact hP9, va_K.moved hW.alike hK, hD9⟩, hS.F ht⟩) hS.2.2 dR_code_29
set_option maxHeartbeats 4000000 in
set_option maxRecDepth 100000 in
theorem cP_letterOf_2 (l : Launch) (hl9 : l.stackTraces = false) (D : va_G) (cT : Nat → ClassId) (aK aV : Nat → Nat) (sz : Nat) : Met l yP_letterOf wyP_letterOf ({ frames := 0, cells := 0, slots := 0, locals := 0 }) (va_Pc [.int 108] (xPre D xcl cT aK aV sz [])) (va_Qi (fun (r : Int32) (_ : Unit) => r = (-1)) (fun _ t => xB D xcl cT (va_A [] sz) [] t) (va_A [] sz)) 0 0 (va_A [] sz) := by
  refine Met.ofW (cc := prog_6_method_6_code) (maxL := 1) (ret := (some .int)) (by decide) rfl ?_
  intro p e s m args below meth c s₁ B hml hv
  obtain ⟨rfl, hsz, hZ, hP, hK, hD0⟩ := hv
  have hx := B.exec
  have hb := B.bytes
  have hr := B.returns
  have hts := atoms_spec (ws := wyP_letterOf) B.pre
  have htx := fun w h => hts w (List.mem_cons_of_mem _ h)
  have hown : s.vm.findClass "ValueBench$Printer" = some m.cls := findClass_of_methodNamed B.named
  have hlocks := B.notSynchronized
  subst hsz
  have hD := hD0.self (sz := s.heap.size)
  generalize hAe : va_A [] s.heap.size = A at hD hZ ⊢
  have hA : ∀ q : Nat, s.heap.size ≤ q → A q := fun q h => by rw [← hAe]; exact Or.inr h
  have hS : va_S A s.heap s.heap [] := va_S.rf
  have hP : va_P D xcl [] s.heap := hP
  have hl := lv_entry ([.int 108]) (n := 1) (Nat.le_of_ble_eq_true rfl)
  rw [lg_entry_eq]
  generalize (lg_sl ([.int 108]) ++ List.replicate (1 - (lg_sl ([.int 108])).length) Slot.unset).toArray = ls at hl ⊢
  have hl : lv_has ls 1 [(0, .int 108)] := hl
  refine lv_iload_n hx hb dP_letterOf_0 rfl (lv_at hl 0 rfl) ?_
  refine lv_lookup (off := 84) (tgt := 85) hx hb dP_letterOf_1 (by decide) (by decide) (by decide) ?_
  refine lv_iconst (v := (-1)) hx hb dP_letterOf_85 (by decide) ?_
  have hP9 := hP.sub (ws' := []) [] rfl
  have hD9 := hD.sub (ws' := []) [] (by decide) rfl
  refine W.widen (k := 0) (n := 0) (Nat.le_of_ble_eq_true rfl) (Nat.le_of_ble_eq_true rfl) ?_
  exact W.iret (v := (-1)) hx hb hr (fun t ht hW => ⟨⟨(-1), (), rfl, rfl, by rw [ht]; exact hP9, va_K.moved hW.alike hK, hD9⟩, hS.F ht⟩) hS.2.2 dP_letterOf_86
set_option maxHeartbeats 4000000 in
set_option maxRecDepth 100000 in
theorem cP_writeCode_2 (l : Launch) (hl9 : l.stackTraces = false) (D : va_G) (cT : Nat → ClassId) (aK aV : Nat → Nat) (sz : Nat) (a0 : Nat) (a1 : Nat) (v2 : Value) (f3 : Nat → Int32) : Met l yP_writeCode wyP_writeCode ({ frames := 1, cells := 0, slots := 0, locals := 21 }) (va_Pc [.int 108, .ref a0] (xPre D xcl cT aK aV sz [(a0, .inr (1, [.ref a1, .int 3, v2])), (a1, .inl (cT 0, 4096, .inl f3))])) (va_Qv (fun _ : Unit => True) (fun _ t => ∃ (y2 : Int32), xB D xcl cT (va_A [(a0, .inr (1, [.ref a1, .int 3, v2])), (a1, .inl (cT 0, 4096, .inl f3))] sz) [(a0, .inr (1, [.ref a1, .int 4, v2])), (a1, .inl (cT 0, 4096, .inl (upd f3 3 (vp_nar .byte y2))))] t) (va_A [(a0, .inr (1, [.ref a1, .int 3, v2])), (a1, .inl (cT 0, 4096, .inl f3))] sz)) 0 0 (va_A [(a0, .inr (1, [.ref a1, .int 3, v2])), (a1, .inl (cT 0, 4096, .inl f3))] sz) := by
  refine Met.ofW (cc := prog_6_method_5_code) (maxL := 3) (ret := none) (by decide) rfl ?_
  intro p e s m args below meth c s₁ B hml hv
  obtain ⟨rfl, hsz, hZ, hP, hK, hD0⟩ := hv
  have hx := B.exec
  have hb := B.bytes
  have hr := B.returns
  have hts := atoms_spec (ws := wyP_writeCode) B.pre
  have htx := fun w h => hts w (List.mem_cons_of_mem _ h)
  have hown : s.vm.findClass "ValueBench$Printer" = some m.cls := findClass_of_methodNamed B.named
  have hlocks := B.notSynchronized
  subst hsz
  have hD := hD0.self (sz := s.heap.size)
  generalize hAe : va_A [(a0, .inr (1, [.ref a1, .int 3, v2])), (a1, .inl (cT 0, 4096, .inl f3))] s.heap.size = A at hD hZ ⊢
  have hA : ∀ q : Nat, s.heap.size ≤ q → A q := fun q h => by rw [← hAe]; exact Or.inr h
  have hS : va_S A s.heap s.heap [] := va_S.rf
  have hP : va_P D xcl [(a0, .inr (1, [.ref a1, .int 3, v2])), (a1, .inl (cT 0, 4096, .inl f3))] s.heap := hP
  have hl := lv_entry ([.int 108, .ref a0]) (n := 3) (Nat.le_of_ble_eq_true rfl)
  rw [lg_entry_eq]
  generalize (lg_sl ([.int 108, .ref a0]) ++ List.replicate (3 - (lg_sl ([.int 108, .ref a0])).length) Slot.unset).toArray = ls at hl ⊢
  have hl : lv_has ls 3 [(0, .int 108), (1, .ref a0)] := hl
  refine lv_iload_n hx hb dP_writeCode_0 rfl (lv_at hl 0 rfl) ?_
  have hPc := hP.sub (ws' := []) [] rfl
  have hDc := hD.sub (ws' := []) [] (by decide) rfl
  have hFc := va_free (wc := []) hD hS hA [] rfl
  refine va_calli (va_runS (As := [.int 108]) (rest := []) ⟨hx, hb, hml, hown, htx⟩ (cP_letterOf_2 l hl9 D cT aK aV s.heap.size) ⟨callB_of 1 htx (xw_goodC kw_3_62) rfl rfl rfl (htx _ kw_1_18) (htx _ kw_3_60) ⟨by decide, by decide, by decide +kernel⟩ ⟨Nat.le_of_ble_eq_true rfl, Nat.le_of_ble_eq_true rfl⟩, htx _ kw_3_61⟩ ⟨xPre_blind, (fun U hU hW => ⟨rfl, xPre_of hZ hS hFc hPc hDc hK U hU hW⟩)⟩ rfl rfl hl.1 rfl (lv_room (Nat.le_of_ble_eq_true rfl)) dP_writeCode_1 ⟨Nat.le_of_ble_eq_true rfl, Nat.le_of_ble_eq_true rfl⟩) hS (fun q _ h => hFc q h) hFc (fun r1 u9 t H1 locs ht hvm hr9 hB hz1 hk1 hS => ?_)
  obtain ⟨hP1, hK1, hD1⟩ := hB
  rw [ht] at hP1
  obtain ⟨hP, hD⟩ := va_join (wr := [(a0, .inr (1, [.ref a1, .int 3, v2])), (a1, .inl (cT 0, 4096, .inl f3))]) (w1 := []) hP hD [] [0, 1] rfl rfl (by decide) (by decide) hk1 hFc hP1 hD1
  generalize H1 = H at hP hS ⊢
  have hP : va_P D xcl [(a0, .inr (1, [.ref a1, .int 3, v2])), (a1, .inl (cT 0, 4096, .inl f3))] H := hP
  have hD : va_D A [(a0, .inr (1, [.ref a1, .int 3, v2])), (a1, .inl (cT 0, 4096, .inl f3))] := hD
  rw [hr9]
  refine W.eq (g2 := F0 m 4 ls [.int (-1)]) rfl ?_
  refine lv_istore_n (lv' := [(2, .int (-1)), (0, .int 108), (1, .ref a0)]) hx hb dP_writeCode_4 rfl hl (by decide) rfl (fun ls hl => ?_)
  refine lv_iload_n hx hb dP_writeCode_5 rfl (lv_at hl 0 rfl) ?_
  refine lv_iconst (v := (-1)) hx hb dP_writeCode_6 (by decide) ?_
  refine lv_icmp_eq (tgt := 24) hx hb dP_writeCode_7 (by decide) (fun _ => ?_) (fun h => ((by revert h; decide : False)).elim)
  refine lv_iload_n hx hb dP_writeCode_24 rfl (lv_at hl 1 rfl) ?_
  refine lv_bipush (v := 32) hx hb dP_writeCode_25 (by decide) ?_
  refine lv_icmp_lt (tgt := 36) hx hb dP_writeCode_27 (by decide) (fun h => ((by revert h; decide : False)).elim) (fun _ => ?_)
  refine lv_iload_n hx hb dP_writeCode_30 rfl (lv_at hl 1 rfl) ?_
  refine lv_bipush (v := 127) hx hb dP_writeCode_31 (by decide) ?_
  refine lv_icmp_ne (tgt := 91) hx hb dP_writeCode_33 (by decide) (fun _ => ?_) (fun h => ((by revert h; decide : False)).elim)
  refine lv_aload_n hx hb dP_writeCode_91 rfl (lv_at hl 2 rfl) ?_
  refine lv_iload_n hx hb dP_writeCode_92 rfl (lv_at hl 1 rfl) ?_
  have hPc := hP.sub (ws' := [(a0, .inr (1, [.ref a1, .int 3, v2])), (a1, .inl (cT 0, 4096, .inl f3))]) [0, 1] rfl
  have hDc := hD.sub (ws' := [(a0, .inr (1, [.ref a1, .int 3, v2])), (a1, .inl (cT 0, 4096, .inl f3))]) [0, 1] (by decide) rfl
  have hFc := va_free (wc := [(a0, .inr (1, [.ref a1, .int 3, v2])), (a1, .inl (cT 0, 4096, .inl f3))]) hD hS hA [0, 1] rfl
  refine va_callv (va_runV (C := "ValueBench$Text") (As := [.int 108]) (rest := []) ⟨hx, hb, hml, hown, htx⟩ (cT_add_3 l hl9 D cT aK aV H.size a0 a1 108 v2 f3) ⟨callB_of 1 htx (xw_goodC kw_1_207) rfl rfl rfl (htx _ kw_1_2) (htx _ kw_3_51) ⟨by decide, by decide, by decide +kernel⟩ ⟨Nat.le_of_ble_eq_true rfl, Nat.le_of_ble_eq_true rfl⟩, (htx _ kw_1_205), (htx _ kw_1_206)⟩ ⟨xPre_blind, va_recv hK hP (ci := 1) rfl (q0 := 0) rfl, (fun U hU hW => ⟨rfl, xPre_of hZ hS hFc hPc hDc hK U hU hW⟩)⟩ rfl rfl hl.1 rfl (lv_room (Nat.le_of_ble_eq_true rfl)) dP_writeCode_93 ⟨Nat.le_of_ble_eq_true rfl, Nat.le_of_ble_eq_true rfl⟩) hS (fun q _ h => hFc q h) hFc (fun u9 t H1 locs ht hvm hr9 hB hz1 hk1 hS => ?_)
  obtain ⟨y2, hP1, hK1, hD1⟩ := hB
  rw [ht] at hP1
  obtain ⟨hP, hD⟩ := va_join (wr := []) (w1 := [(a0, .inr (1, [.ref a1, .int 4, v2])), (a1, .inl (cT 0, 4096, .inl (upd f3 3 (vp_nar .byte y2))))]) hP hD [0, 1] [] rfl rfl (by decide) (by decide) hk1 hFc hP1 hD1
  generalize H1 = H at hP hS ⊢
  have hP : va_P D xcl [(a0, .inr (1, [.ref a1, .int 4, v2])), (a1, .inl (cT 0, 4096, .inl (upd f3 3 (vp_nar .byte y2))))] H := hP
  have hD : va_D A [(a0, .inr (1, [.ref a1, .int 4, v2])), (a1, .inl (cT 0, 4096, .inl (upd f3 3 (vp_nar .byte y2))))] := hD
  have hP9 := hP.sub (ws' := [(a0, .inr (1, [.ref a1, .int 4, v2])), (a1, .inl (cT 0, 4096, .inl (upd f3 3 (vp_nar .byte y2))))]) [0, 1] rfl
  have hD9 := hD.sub (ws' := [(a0, .inr (1, [.ref a1, .int 4, v2])), (a1, .inl (cT 0, 4096, .inl (upd f3 3 (vp_nar .byte y2))))]) [0, 1] (by decide) rfl
  refine W.widen (k := 0) (n := 0) (Nat.le_of_ble_eq_true rfl) (Nat.le_of_ble_eq_true rfl) ?_
  exact W.vret hx hb hr (fun t ht hW => ⟨⟨(), rfl, trivial, y2, by rw [ht]; exact hP9, va_K.moved hW.alike hK, hD9⟩, hS.F ht⟩) hS.2.2 dP_writeCode_96
set_option maxHeartbeats 4000000 in
set_option maxRecDepth 100000 in
theorem cR_code_3 (l : Launch) (hl9 : l.stackTraces = false) (D : va_G) (cT : Nat → ClassId) (aK aV : Nat → Nat) (sz : Nat) (a0 : Nat) (a1 : Nat) (v2 : Value) (f3 : Nat → Int64) (h4 : f3 4 = 108) : Met l yR_code wyR_code ({ frames := 0, cells := 0, slots := 0, locals := 0 }) (va_Pc [.ref a0, .int 0, .int 3] (xPre D xcl cT aK aV sz [(a0, .inr (2, [.ref a1, .int 5, v2])), (a1, .inl (cT 2, 4096, .inr (.inl f3)))])) (va_Qi (fun (r : Int32) (_ : Unit) => r = 108) (fun _ t => xB D xcl cT (va_A [(a0, .inr (2, [.ref a1, .int 5, v2])), (a1, .inl (cT 2, 4096, .inr (.inl f3)))] sz) [(a0, .inr (2, [.ref a1, .int 5, v2])), (a1, .inl (cT 2, 4096, .inr (.inl f3)))] t) (va_A [(a0, .inr (2, [.ref a1, .int 5, v2])), (a1, .inl (cT 2, 4096, .inr (.inl f3)))] sz)) 0 0 (va_A [(a0, .inr (2, [.ref a1, .int 5, v2])), (a1, .inl (cT 2, 4096, .inr (.inl f3)))] sz) := by
  refine Met.ofW (cc := prog_8_method_10_code) (maxL := 4) (ret := (some .int)) (by decide) rfl ?_
  intro p e s m args below meth c s₁ B hml hv
  obtain ⟨rfl, hsz, hZ, hP, hK, hD0⟩ := hv
  have hx := B.exec
  have hb := B.bytes
  have hr := B.returns
  have hts := atoms_spec (ws := wyR_code) B.pre
  have htx := fun w h => hts w (List.mem_cons_of_mem _ h)
  have hown : s.vm.findClass "ValueBench$Row" = some m.cls := findClass_of_methodNamed B.named
  have hlocks := B.notSynchronized
  subst hsz
  have hD := hD0.self (sz := s.heap.size)
  generalize hAe : va_A [(a0, .inr (2, [.ref a1, .int 5, v2])), (a1, .inl (cT 2, 4096, .inr (.inl f3)))] s.heap.size = A at hD hZ ⊢
  have hA : ∀ q : Nat, s.heap.size ≤ q → A q := fun q h => by rw [← hAe]; exact Or.inr h
  have hS : va_S A s.heap s.heap [] := va_S.rf
  have hP : va_P D xcl [(a0, .inr (2, [.ref a1, .int 5, v2])), (a1, .inl (cT 2, 4096, .inr (.inl f3)))] s.heap := hP
  have hl := lv_entry ([.ref a0, .int 0, .int 3]) (n := 4) (Nat.le_of_ble_eq_true rfl)
  rw [lg_entry_eq]
  generalize (lg_sl ([.ref a0, .int 0, .int 3]) ++ List.replicate (4 - (lg_sl ([.ref a0, .int 0, .int 3])).length) Slot.unset).toArray = ls at hl ⊢
  have hl : lv_has ls 4 [(0, .ref a0), (1, .int 0), (2, .int 3)] := hl
  refine lv_iload_n hx hb dR_code_0 rfl (lv_at hl 1 rfl) ?_
  refine lv_iconst (v := 1) hx hb dR_code_1 (by decide) ?_
  refine lv_iadd hx hb dR_code_2 ?_
  refine W.eq (g2 := F0 m 3 ls [.int 1]) rfl ?_
  refine lv_iload_n hx hb dR_code_3 rfl (lv_at hl 2 rfl) ?_
  refine lv_iadd hx hb dR_code_4 ?_
  refine W.eq (g2 := F0 m 5 ls [.int 4]) rfl ?_
  refine lv_istore_n (lv' := [(3, .int 4), (0, .ref a0), (1, .int 0), (2, .int 3)]) hx hb dR_code_5 rfl hl (by decide) rfl (fun ls hl => ?_)
  refine lv_iload_n hx hb dR_code_6 rfl (lv_at hl 0 rfl) ?_
  refine lv_if_lt (tgt := 28) hx hb dR_code_7 (by decide) (fun h => ((by revert h; decide : False)).elim) (fun _ => ?_)
  refine lv_iload_n hx hb dR_code_10 rfl (lv_at hl 0 rfl) ?_
  refine lv_aload_n hx hb dR_code_11 rfl (lv_at hl 1 rfl) ?_
  refine va_get (D := D) (ci := 2) (v := .int 5) (C := "ValueBench$Row") (T := TR) (N := 3) hx hb htx inR hown hK hP 0 rfl rfl 1 (by decide) (htx _ kw_1_85) (fun _ h9 => h9) rfl dR_code_12 ?_
  refine lv_icmp_ge (tgt := 28) hx hb dR_code_15 (by decide) (fun h => ((by revert h; decide : False)).elim) (fun _ => ?_)
  refine lv_aload_n hx hb dR_code_18 rfl (lv_at hl 1 rfl) ?_
  refine va_get (D := D) (ci := 2) (v := .ref a1) (C := "ValueBench$Row") (T := TR) (N := 3) hx hb htx inR hown hK hP 0 rfl rfl 0 (by decide) (htx _ kw_1_84) (fun _ h9 => h9) rfl dR_code_19 ?_
  refine lv_iload_n hx hb dR_code_22 rfl (lv_at hl 0 rfl) ?_
  refine va_lald hx hb hK hP 1 2 rfl rfl (show ¬ ((4 : Int32) < 0 ∨ 4096 ≤ (4 : Int32).toNatClampNeg) by decide) dR_code_23 ?_
  refine W.eq (g2 := F0 m 24 ls [.long (f3 4)]) rfl ?_
  rw [h4]
  refine W.eq (g2 := F0 m 24 ls [.long 108]) rfl ?_
  refine lv_l2i hx hb dR_code_24 rfl ?_
  refine W.eq (g2 := F0 m 25 ls [.int 108]) rfl ?_
  refine lv_goto (tgt := 29) hx hb dR_code_25 (by decide) ?_
  have hP9 := hP.sub (ws' := [(a0, .inr (2, [.ref a1, .int 5, v2])), (a1, .inl (cT 2, 4096, .inr (.inl f3)))]) [0, 1] rfl
  have hD9 := hD.sub (ws' := [(a0, .inr (2, [.ref a1, .int 5, v2])), (a1, .inl (cT 2, 4096, .inr (.inl f3)))]) [0, 1] (by decide) rfl
  refine W.widen (k := 0) (n := 0) (Nat.le_of_ble_eq_true rfl) (Nat.le_of_ble_eq_true rfl) ?_
  exact W.iret (v := 108) hx hb hr (fun t ht hW => ⟨⟨108, (), rfl, rfl, by rw [ht]; exact hP9, va_K.moved hW.alike hK, hD9⟩, hS.F ht⟩) hS.2.2 dR_code_29
set_option maxHeartbeats 4000000 in
set_option maxRecDepth 100000 in
theorem cP_writeCode_3 (l : Launch) (hl9 : l.stackTraces = false) (D : va_G) (cT : Nat → ClassId) (aK aV : Nat → Nat) (sz : Nat) (a0 : Nat) (a1 : Nat) (v2 : Value) (f3 : Nat → Int32) : Met l yP_writeCode wyP_writeCode ({ frames := 1, cells := 0, slots := 0, locals := 21 }) (va_Pc [.int 108, .ref a0] (xPre D xcl cT aK aV sz [(a0, .inr (1, [.ref a1, .int 4, v2])), (a1, .inl (cT 0, 4096, .inl f3))])) (va_Qv (fun _ : Unit => True) (fun _ t => ∃ (y2 : Int32), xB D xcl cT (va_A [(a0, .inr (1, [.ref a1, .int 4, v2])), (a1, .inl (cT 0, 4096, .inl f3))] sz) [(a0, .inr (1, [.ref a1, .int 5, v2])), (a1, .inl (cT 0, 4096, .inl (upd f3 4 (vp_nar .byte y2))))] t) (va_A [(a0, .inr (1, [.ref a1, .int 4, v2])), (a1, .inl (cT 0, 4096, .inl f3))] sz)) 0 0 (va_A [(a0, .inr (1, [.ref a1, .int 4, v2])), (a1, .inl (cT 0, 4096, .inl f3))] sz) := by
  refine Met.ofW (cc := prog_6_method_5_code) (maxL := 3) (ret := none) (by decide) rfl ?_
  intro p e s m args below meth c s₁ B hml hv
  obtain ⟨rfl, hsz, hZ, hP, hK, hD0⟩ := hv
  have hx := B.exec
  have hb := B.bytes
  have hr := B.returns
  have hts := atoms_spec (ws := wyP_writeCode) B.pre
  have htx := fun w h => hts w (List.mem_cons_of_mem _ h)
  have hown : s.vm.findClass "ValueBench$Printer" = some m.cls := findClass_of_methodNamed B.named
  have hlocks := B.notSynchronized
  subst hsz
  have hD := hD0.self (sz := s.heap.size)
  generalize hAe : va_A [(a0, .inr (1, [.ref a1, .int 4, v2])), (a1, .inl (cT 0, 4096, .inl f3))] s.heap.size = A at hD hZ ⊢
  have hA : ∀ q : Nat, s.heap.size ≤ q → A q := fun q h => by rw [← hAe]; exact Or.inr h
  have hS : va_S A s.heap s.heap [] := va_S.rf
  have hP : va_P D xcl [(a0, .inr (1, [.ref a1, .int 4, v2])), (a1, .inl (cT 0, 4096, .inl f3))] s.heap := hP
  have hl := lv_entry ([.int 108, .ref a0]) (n := 3) (Nat.le_of_ble_eq_true rfl)
  rw [lg_entry_eq]
  generalize (lg_sl ([.int 108, .ref a0]) ++ List.replicate (3 - (lg_sl ([.int 108, .ref a0])).length) Slot.unset).toArray = ls at hl ⊢
  have hl : lv_has ls 3 [(0, .int 108), (1, .ref a0)] := hl
  refine lv_iload_n hx hb dP_writeCode_0 rfl (lv_at hl 0 rfl) ?_
  have hPc := hP.sub (ws' := []) [] rfl
  have hDc := hD.sub (ws' := []) [] (by decide) rfl
  have hFc := va_free (wc := []) hD hS hA [] rfl
  refine va_calli (va_runS (As := [.int 108]) (rest := []) ⟨hx, hb, hml, hown, htx⟩ (cP_letterOf_2 l hl9 D cT aK aV s.heap.size) ⟨callB_of 1 htx (xw_goodC kw_3_62) rfl rfl rfl (htx _ kw_1_18) (htx _ kw_3_60) ⟨by decide, by decide, by decide +kernel⟩ ⟨Nat.le_of_ble_eq_true rfl, Nat.le_of_ble_eq_true rfl⟩, htx _ kw_3_61⟩ ⟨xPre_blind, (fun U hU hW => ⟨rfl, xPre_of hZ hS hFc hPc hDc hK U hU hW⟩)⟩ rfl rfl hl.1 rfl (lv_room (Nat.le_of_ble_eq_true rfl)) dP_writeCode_1 ⟨Nat.le_of_ble_eq_true rfl, Nat.le_of_ble_eq_true rfl⟩) hS (fun q _ h => hFc q h) hFc (fun r1 u9 t H1 locs ht hvm hr9 hB hz1 hk1 hS => ?_)
  obtain ⟨hP1, hK1, hD1⟩ := hB
  rw [ht] at hP1
  obtain ⟨hP, hD⟩ := va_join (wr := [(a0, .inr (1, [.ref a1, .int 4, v2])), (a1, .inl (cT 0, 4096, .inl f3))]) (w1 := []) hP hD [] [0, 1] rfl rfl (by decide) (by decide) hk1 hFc hP1 hD1
  generalize H1 = H at hP hS ⊢
  have hP : va_P D xcl [(a0, .inr (1, [.ref a1, .int 4, v2])), (a1, .inl (cT 0, 4096, .inl f3))] H := hP
  have hD : va_D A [(a0, .inr (1, [.ref a1, .int 4, v2])), (a1, .inl (cT 0, 4096, .inl f3))] := hD
  rw [hr9]
  refine W.eq (g2 := F0 m 4 ls [.int (-1)]) rfl ?_
  refine lv_istore_n (lv' := [(2, .int (-1)), (0, .int 108), (1, .ref a0)]) hx hb dP_writeCode_4 rfl hl (by decide) rfl (fun ls hl => ?_)
  refine lv_iload_n hx hb dP_writeCode_5 rfl (lv_at hl 0 rfl) ?_
  refine lv_iconst (v := (-1)) hx hb dP_writeCode_6 (by decide) ?_
  refine lv_icmp_eq (tgt := 24) hx hb dP_writeCode_7 (by decide) (fun _ => ?_) (fun h => ((by revert h; decide : False)).elim)
  refine lv_iload_n hx hb dP_writeCode_24 rfl (lv_at hl 1 rfl) ?_
  refine lv_bipush (v := 32) hx hb dP_writeCode_25 (by decide) ?_
  refine lv_icmp_lt (tgt := 36) hx hb dP_writeCode_27 (by decide) (fun h => ((by revert h; decide : False)).elim) (fun _ => ?_)
  refine lv_iload_n hx hb dP_writeCode_30 rfl (lv_at hl 1 rfl) ?_
  refine lv_bipush (v := 127) hx hb dP_writeCode_31 (by decide) ?_
  refine lv_icmp_ne (tgt := 91) hx hb dP_writeCode_33 (by decide) (fun _ => ?_) (fun h => ((by revert h; decide : False)).elim)
  refine lv_aload_n hx hb dP_writeCode_91 rfl (lv_at hl 2 rfl) ?_
  refine lv_iload_n hx hb dP_writeCode_92 rfl (lv_at hl 1 rfl) ?_
  have hPc := hP.sub (ws' := [(a0, .inr (1, [.ref a1, .int 4, v2])), (a1, .inl (cT 0, 4096, .inl f3))]) [0, 1] rfl
  have hDc := hD.sub (ws' := [(a0, .inr (1, [.ref a1, .int 4, v2])), (a1, .inl (cT 0, 4096, .inl f3))]) [0, 1] (by decide) rfl
  have hFc := va_free (wc := [(a0, .inr (1, [.ref a1, .int 4, v2])), (a1, .inl (cT 0, 4096, .inl f3))]) hD hS hA [0, 1] rfl
  refine va_callv (va_runV (C := "ValueBench$Text") (As := [.int 108]) (rest := []) ⟨hx, hb, hml, hown, htx⟩ (cT_add_4 l hl9 D cT aK aV H.size a0 a1 108 v2 f3) ⟨callB_of 1 htx (xw_goodC kw_1_207) rfl rfl rfl (htx _ kw_1_2) (htx _ kw_3_51) ⟨by decide, by decide, by decide +kernel⟩ ⟨Nat.le_of_ble_eq_true rfl, Nat.le_of_ble_eq_true rfl⟩, (htx _ kw_1_205), (htx _ kw_1_206)⟩ ⟨xPre_blind, va_recv hK hP (ci := 1) rfl (q0 := 0) rfl, (fun U hU hW => ⟨rfl, xPre_of hZ hS hFc hPc hDc hK U hU hW⟩)⟩ rfl rfl hl.1 rfl (lv_room (Nat.le_of_ble_eq_true rfl)) dP_writeCode_93 ⟨Nat.le_of_ble_eq_true rfl, Nat.le_of_ble_eq_true rfl⟩) hS (fun q _ h => hFc q h) hFc (fun u9 t H1 locs ht hvm hr9 hB hz1 hk1 hS => ?_)
  obtain ⟨y2, hP1, hK1, hD1⟩ := hB
  rw [ht] at hP1
  obtain ⟨hP, hD⟩ := va_join (wr := []) (w1 := [(a0, .inr (1, [.ref a1, .int 5, v2])), (a1, .inl (cT 0, 4096, .inl (upd f3 4 (vp_nar .byte y2))))]) hP hD [0, 1] [] rfl rfl (by decide) (by decide) hk1 hFc hP1 hD1
  generalize H1 = H at hP hS ⊢
  have hP : va_P D xcl [(a0, .inr (1, [.ref a1, .int 5, v2])), (a1, .inl (cT 0, 4096, .inl (upd f3 4 (vp_nar .byte y2))))] H := hP
  have hD : va_D A [(a0, .inr (1, [.ref a1, .int 5, v2])), (a1, .inl (cT 0, 4096, .inl (upd f3 4 (vp_nar .byte y2))))] := hD
  have hP9 := hP.sub (ws' := [(a0, .inr (1, [.ref a1, .int 5, v2])), (a1, .inl (cT 0, 4096, .inl (upd f3 4 (vp_nar .byte y2))))]) [0, 1] rfl
  have hD9 := hD.sub (ws' := [(a0, .inr (1, [.ref a1, .int 5, v2])), (a1, .inl (cT 0, 4096, .inl (upd f3 4 (vp_nar .byte y2))))]) [0, 1] (by decide) rfl
  refine W.widen (k := 0) (n := 0) (Nat.le_of_ble_eq_true rfl) (Nat.le_of_ble_eq_true rfl) ?_
  exact W.vret hx hb hr (fun t ht hW => ⟨⟨(), rfl, trivial, y2, by rw [ht]; exact hP9, va_K.moved hW.alike hK, hD9⟩, hS.F ht⟩) hS.2.2 dP_writeCode_96
set_option maxHeartbeats 4000000 in
set_option maxRecDepth 100000 in
theorem cT_add_26 (l : Launch) (hl9 : l.stackTraces = false) (D : va_G) (cT : Nat → ClassId) (aK aV : Nat → Nat) (sz : Nat) (a0 : Nat) (a1 : Nat) (x2 : Int32) (v3 : Value) (f4 : Nat → Int32) : Met l yT_add wyT_add ({ frames := 0, cells := 0, slots := 0, locals := 0 }) (va_Pc [.ref a0, .int x2] (xPre D xcl cT aK aV sz [(a0, .inr (1, [.ref a1, .int 5, v3])), (a1, .inl (cT 0, 4096, .inl f4))])) (va_Qv (fun _ : Unit => True) (fun _ t => ∃ (y1 : Int32), xB D xcl cT (va_A [(a0, .inr (1, [.ref a1, .int 5, v3])), (a1, .inl (cT 0, 4096, .inl f4))] sz) [(a0, .inr (1, [.ref a1, .int 6, v3])), (a1, .inl (cT 0, 4096, .inl (upd f4 5 (vp_nar .byte y1))))] t) (va_A [(a0, .inr (1, [.ref a1, .int 5, v3])), (a1, .inl (cT 0, 4096, .inl f4))] sz)) 0 0 (va_A [(a0, .inr (1, [.ref a1, .int 5, v3])), (a1, .inl (cT 0, 4096, .inl f4))] sz) := by
  refine Met.ofW (cc := prog_11_method_8_code) (maxL := 2) (ret := none) (by decide) rfl ?_
  intro p e s m args below meth c s₁ B hml hv
  obtain ⟨rfl, hsz, hZ, hP, hK, hD0⟩ := hv
  have hx := B.exec
  have hb := B.bytes
  have hr := B.returns
  have hts := atoms_spec (ws := wyT_add) B.pre
  have htx := fun w h => hts w (List.mem_cons_of_mem _ h)
  have hown : s.vm.findClass "ValueBench$Text" = some m.cls := findClass_of_methodNamed B.named
  have hlocks := B.notSynchronized
  subst hsz
  have hD := hD0.self (sz := s.heap.size)
  generalize hAe : va_A [(a0, .inr (1, [.ref a1, .int 5, v3])), (a1, .inl (cT 0, 4096, .inl f4))] s.heap.size = A at hD hZ ⊢
  have hA : ∀ q : Nat, s.heap.size ≤ q → A q := fun q h => by rw [← hAe]; exact Or.inr h
  have hS : va_S A s.heap s.heap [] := va_S.rf
  have hP : va_P D xcl [(a0, .inr (1, [.ref a1, .int 5, v3])), (a1, .inl (cT 0, 4096, .inl f4))] s.heap := hP
  have hl := lv_entry ([.ref a0, .int x2]) (n := 2) (Nat.le_of_ble_eq_true rfl)
  rw [lg_entry_eq]
  generalize (lg_sl ([.ref a0, .int x2]) ++ List.replicate (2 - (lg_sl ([.ref a0, .int x2])).length) Slot.unset).toArray = ls at hl ⊢
  have hl : lv_has ls 2 [(0, .ref a0), (1, .int x2)] := hl
  refine lv_aload_n hx hb dT_add_0 rfl (lv_at hl 0 rfl) ?_
  refine va_get (D := D) (ci := 1) (v := .int 5) (C := "ValueBench$Text") (T := TT) (N := 3) hx hb htx inT hown hK hP 0 rfl rfl 1 (by decide) (htx _ kw_1_44) (fun _ h9 => h9) rfl dT_add_1 ?_
  refine lv_sipush (v := 4096) hx hb dT_add_4 (by decide) ?_
  refine lv_icmp_lt (tgt := 16) hx hb dT_add_7 (by decide) (fun _ => ?_) (fun h => ((by revert h; decide : False)).elim)
  refine lv_aload_n hx hb dT_add_16 rfl (lv_at hl 0 rfl) ?_
  refine va_get (D := D) (ci := 1) (v := .ref a1) (C := "ValueBench$Text") (T := TT) (N := 3) hx hb htx inT hown hK hP 0 rfl rfl 0 (by decide) (htx _ kw_1_43) (fun _ h9 => h9) rfl dT_add_17 ?_
  refine lv_aload_n hx hb dT_add_20 rfl (lv_at hl 0 rfl) ?_
  refine va_get (D := D) (ci := 1) (v := .int 5) (C := "ValueBench$Text") (T := TT) (N := 3) hx hb htx inT hown hK hP 0 rfl rfl 1 (by decide) (htx _ kw_1_44) (fun _ h9 => h9) rfl dT_add_21 ?_
  refine lv_iload_n hx hb dT_add_24 rfl (lv_at hl 1 rfl) ?_
  refine lv_i2b hx hb dT_add_25 rfl ?_
  refine lv_topi (fun y1 ey1 => ?_)
  refine va_bast hx hb hK hP hD hS 1 0 rfl rfl (show ¬ ((5 : Int32) < 0 ∨ 4096 ≤ (5 : Int32).toNatClampNeg) by decide) dT_add_26 (fun H locs hP hD hS => ?_)
  have hP : va_P D xcl [(a0, .inr (1, [.ref a1, .int 5, v3])), (a1, .inl (cT 0, 4096, .inl (upd f4 5 (vp_nar .byte y1))))] H := hP
  have hD : va_D A [(a0, .inr (1, [.ref a1, .int 5, v3])), (a1, .inl (cT 0, 4096, .inl (upd f4 5 (vp_nar .byte y1))))] := hD
  refine lv_aload_n hx hb dT_add_27 rfl (lv_at hl 0 rfl) ?_
  refine lv_dup hx hb dT_add_28 rfl ?_
  refine va_get (D := D) (ci := 1) (v := .int 5) (C := "ValueBench$Text") (T := TT) (N := 3) hx hb htx inT hown hK hP 0 rfl rfl 1 (by decide) (htx _ kw_1_44) (fun _ h9 => h9) rfl dT_add_29 ?_
  refine lv_iconst (v := 1) hx hb dT_add_32 (by decide) ?_
  refine lv_iadd hx hb dT_add_33 ?_
  refine W.eq (g2 := F0 m 34 ls [.int 6, .ref a0]) rfl ?_
  refine va_put (D := D) (ci := 1) (v := .int 6) (ty := .int) (C := "ValueBench$Text") (T := TT) (N := 3) hx hb htx inT tyT tyT_ok nmT hown hK hP hD hS 0 rfl rfl 1 (by decide) (htx _ kw_1_44) (fun _ h9 => h9) rfl (by decide +kernel) rfl rfl (Nat.le_of_ble_eq_true rfl) dT_add_34 (fun H locs hP hD hS => ?_)
  have hP : va_P D xcl [(a0, .inr (1, [.ref a1, .int 6, v3])), (a1, .inl (cT 0, 4096, .inl (upd f4 5 (vp_nar .byte y1))))] H := hP
  have hD : va_D A [(a0, .inr (1, [.ref a1, .int 6, v3])), (a1, .inl (cT 0, 4096, .inl (upd f4 5 (vp_nar .byte y1))))] := hD
  have hP9 := hP.sub (ws' := [(a0, .inr (1, [.ref a1, .int 6, v3])), (a1, .inl (cT 0, 4096, .inl (upd f4 5 (vp_nar .byte y1))))]) [0, 1] rfl
  have hD9 := hD.sub (ws' := [(a0, .inr (1, [.ref a1, .int 6, v3])), (a1, .inl (cT 0, 4096, .inl (upd f4 5 (vp_nar .byte y1))))]) [0, 1] (by decide) rfl
  refine W.widen (k := 0) (n := 0) (Nat.le_of_ble_eq_true rfl) (Nat.le_of_ble_eq_true rfl) ?_
  exact W.vret hx hb hr (fun t ht hW => ⟨⟨(), rfl, trivial, y1, by rw [ht]; exact hP9, va_K.moved hW.alike hK, hD9⟩, hS.F ht⟩) hS.2.2 dT_add_37
set_option maxHeartbeats 4000000 in
set_option maxRecDepth 100000 in
theorem cP_writeString_0 (l : Launch) (hl9 : l.stackTraces = false) (D : va_G) (cT : Nat → ClassId) (aK aV : Nat → Nat) (sz : Nat) (a0 : Nat) (a1 : Nat) (a2 : Nat) (a3 : Nat) (v4 : Value) (f5 : Nat → Int32) (v6 : Value) (f7 : Nat → Int64) (h8 : f7 0 = 2621476) (h9 : f7 1 = 110) (h10 : f7 2 = 117) (h11 : f7 3 = 108) (h12 : f7 4 = 108) : Met l yP_writeString wyP_writeString ({ frames := 2, cells := 0, slots := 0, locals := 43 }) (va_Pc [.ref a2, .int 0, .ref a0] (xPre D xcl cT aK aV sz [(a0, .inr (1, [.ref a1, .int 0, v4])), (a1, .inl (cT 0, 4096, .inl f5)), (a2, .inr (2, [.ref a3, .int 5, v6])), (a3, .inl (cT 2, 4096, .inr (.inl f7)))])) (va_Qv (fun _ : Unit => True) (fun _ t => ∃ (y1 : Int32) (y4 : Int32) (y7 : Int32) (y10 : Int32) (y13 : Int32) (y15 : Int32), xB D xcl cT (va_A [(a0, .inr (1, [.ref a1, .int 0, v4])), (a1, .inl (cT 0, 4096, .inl f5)), (a2, .inr (2, [.ref a3, .int 5, v6])), (a3, .inl (cT 2, 4096, .inr (.inl f7)))] sz) [(a0, .inr (1, [.ref a1, .int 6, v4])), (a1, .inl (cT 0, 4096, .inl (upd (upd (upd (upd (upd (upd f5 0 (vp_nar .byte y1)) 1 (vp_nar .byte y4)) 2 (vp_nar .byte y7)) 3 (vp_nar .byte y10)) 4 (vp_nar .byte y13)) 5 (vp_nar .byte y15)))), (a2, .inr (2, [.ref a3, .int 5, v6])), (a3, .inl (cT 2, 4096, .inr (.inl f7)))] t) (va_A [(a0, .inr (1, [.ref a1, .int 0, v4])), (a1, .inl (cT 0, 4096, .inl f5)), (a2, .inr (2, [.ref a3, .int 5, v6])), (a3, .inl (cT 2, 4096, .inr (.inl f7)))] sz)) 0 0 (va_A [(a0, .inr (1, [.ref a1, .int 0, v4])), (a1, .inl (cT 0, 4096, .inl f5)), (a2, .inr (2, [.ref a3, .int 5, v6])), (a3, .inl (cT 2, 4096, .inr (.inl f7)))] sz) := by
  refine Met.ofW (cc := prog_6_method_4_code) (maxL := 4) (ret := none) (by decide) rfl ?_
  intro p e s m args below meth c s₁ B hml hv
  obtain ⟨rfl, hsz, hZ, hP, hK, hD0⟩ := hv
  have hx := B.exec
  have hb := B.bytes
  have hr := B.returns
  have hts := atoms_spec (ws := wyP_writeString) B.pre
  have htx := fun w h => hts w (List.mem_cons_of_mem _ h)
  have hown : s.vm.findClass "ValueBench$Printer" = some m.cls := findClass_of_methodNamed B.named
  have hlocks := B.notSynchronized
  subst hsz
  have hD := hD0.self (sz := s.heap.size)
  generalize hAe : va_A [(a0, .inr (1, [.ref a1, .int 0, v4])), (a1, .inl (cT 0, 4096, .inl f5)), (a2, .inr (2, [.ref a3, .int 5, v6])), (a3, .inl (cT 2, 4096, .inr (.inl f7)))] s.heap.size = A at hD hZ ⊢
  have hA : ∀ q : Nat, s.heap.size ≤ q → A q := fun q h => by rw [← hAe]; exact Or.inr h
  have hS : va_S A s.heap s.heap [] := va_S.rf
  have hP : va_P D xcl [(a0, .inr (1, [.ref a1, .int 0, v4])), (a1, .inl (cT 0, 4096, .inl f5)), (a2, .inr (2, [.ref a3, .int 5, v6])), (a3, .inl (cT 2, 4096, .inr (.inl f7)))] s.heap := hP
  have hl := lv_entry ([.ref a2, .int 0, .ref a0]) (n := 4) (Nat.le_of_ble_eq_true rfl)
  rw [lg_entry_eq]
  generalize (lg_sl ([.ref a2, .int 0, .ref a0]) ++ List.replicate (4 - (lg_sl ([.ref a2, .int 0, .ref a0])).length) Slot.unset).toArray = ls at hl ⊢
  have hl : lv_has ls 4 [(0, .ref a2), (1, .int 0), (2, .ref a0)] := hl
  refine lv_aload_n hx hb dP_writeString_0 rfl (lv_at hl 2 rfl) ?_
  refine lv_bipush (v := 34) hx hb dP_writeString_1 (by decide) ?_
  have hPc := hP.sub (ws' := [(a0, .inr (1, [.ref a1, .int 0, v4])), (a1, .inl (cT 0, 4096, .inl f5))]) [0, 1] rfl
  have hDc := hD.sub (ws' := [(a0, .inr (1, [.ref a1, .int 0, v4])), (a1, .inl (cT 0, 4096, .inl f5))]) [0, 1] (by decide) rfl
  have hFc := va_free (wc := [(a0, .inr (1, [.ref a1, .int 0, v4])), (a1, .inl (cT 0, 4096, .inl f5))]) hD hS hA [0, 1] rfl
  refine va_callv (va_runV (C := "ValueBench$Text") (As := [.int 34]) (rest := []) ⟨hx, hb, hml, hown, htx⟩ (cT_add_0 l hl9 D cT aK aV s.heap.size a0 a1 34 v4 f5) ⟨callB_of 1 htx (xw_goodC kw_1_207) rfl rfl rfl (htx _ kw_1_2) (htx _ kw_3_51) ⟨by decide, by decide, by decide +kernel⟩ ⟨Nat.le_of_ble_eq_true rfl, Nat.le_of_ble_eq_true rfl⟩, (htx _ kw_1_205), (htx _ kw_1_206)⟩ ⟨xPre_blind, va_recv hK hP (ci := 1) rfl (q0 := 0) rfl, (fun U hU hW => ⟨rfl, xPre_of hZ hS hFc hPc hDc hK U hU hW⟩)⟩ rfl rfl hl.1 rfl (lv_room (Nat.le_of_ble_eq_true rfl)) dP_writeString_3 ⟨Nat.le_of_ble_eq_true rfl, Nat.le_of_ble_eq_true rfl⟩) hS (fun q _ h => hFc q h) hFc (fun u9 t H1 locs ht hvm hr9 hB hz1 hk1 hS => ?_)
  obtain ⟨y1, hP1, hK1, hD1⟩ := hB
  rw [ht] at hP1
  obtain ⟨hP, hD⟩ := va_join (wr := [(a2, .inr (2, [.ref a3, .int 5, v6])), (a3, .inl (cT 2, 4096, .inr (.inl f7)))]) (w1 := [(a0, .inr (1, [.ref a1, .int 1, v4])), (a1, .inl (cT 0, 4096, .inl (upd f5 0 (vp_nar .byte y1))))]) hP hD [0, 1] [2, 3] rfl rfl (by decide) (by decide) hk1 hFc hP1 hD1
  generalize H1 = H at hP hS ⊢
  have hP : va_P D xcl [(a2, .inr (2, [.ref a3, .int 5, v6])), (a3, .inl (cT 2, 4096, .inr (.inl f7))), (a0, .inr (1, [.ref a1, .int 1, v4])), (a1, .inl (cT 0, 4096, .inl (upd f5 0 (vp_nar .byte y1))))] H := hP
  have hD : va_D A [(a2, .inr (2, [.ref a3, .int 5, v6])), (a3, .inl (cT 2, 4096, .inr (.inl f7))), (a0, .inr (1, [.ref a1, .int 1, v4])), (a1, .inl (cT 0, 4096, .inl (upd f5 0 (vp_nar .byte y1))))] := hD
  refine lv_iconst (v := 0) hx hb dP_writeString_6 (by decide) ?_
  refine lv_istore_n (lv' := [(3, .int 0), (0, .ref a2), (1, .int 0), (2, .ref a0)]) hx hb dP_writeString_7 rfl hl (by decide) rfl (fun ls hl => ?_)
  refine lv_iload_n hx hb dP_writeString_8 rfl (lv_at hl 0 rfl) ?_
  refine lv_aload_n hx hb dP_writeString_9 rfl (lv_at hl 1 rfl) ?_
  refine lv_iload_n hx hb dP_writeString_10 rfl (lv_at hl 2 rfl) ?_
  have hPc := hP.sub (ws' := [(a2, .inr (2, [.ref a3, .int 5, v6])), (a3, .inl (cT 2, 4096, .inr (.inl f7)))]) [0, 1] rfl
  have hDc := hD.sub (ws' := [(a2, .inr (2, [.ref a3, .int 5, v6])), (a3, .inl (cT 2, 4096, .inr (.inl f7)))]) [0, 1] (by decide) rfl
  have hFc := va_free (wc := [(a2, .inr (2, [.ref a3, .int 5, v6])), (a3, .inl (cT 2, 4096, .inr (.inl f7)))]) hD hS hA [0, 1] rfl
  refine va_calli (va_runV (C := "ValueBench$Row") (As := [.int 0]) (rest := [.int 0]) ⟨hx, hb, hml, hown, htx⟩ (cR_length_0 l hl9 D cT aK aV H.size a2 a3 v6 f7 (by first | rfl | exact h8 | exact h9 | exact h10 | exact h11 | exact h12)) ⟨callB_of 1 htx (xw_goodC kw_2_191) rfl rfl rfl (htx _ kw_1_4) (htx _ kw_3_52) ⟨by decide, by decide, by decide +kernel⟩ ⟨Nat.le_of_ble_eq_true rfl, Nat.le_of_ble_eq_true rfl⟩, (htx _ kw_2_189), (htx _ kw_2_190)⟩ ⟨xPre_blind, va_recv hK hP (ci := 2) rfl (q0 := 0) rfl, (fun U hU hW => ⟨rfl, xPre_of hZ hS hFc hPc hDc hK U hU hW⟩)⟩ rfl rfl hl.1 rfl (lv_room (Nat.le_of_ble_eq_true rfl)) dP_writeString_11 ⟨Nat.le_of_ble_eq_true rfl, Nat.le_of_ble_eq_true rfl⟩) hS (fun q _ h => hFc q h) hFc (fun r2 u9 t H1 locs ht hvm hr9 hB hz1 hk1 hS => ?_)
  obtain ⟨hP1, hK1, hD1⟩ := hB
  rw [ht] at hP1
  obtain ⟨hP, hD⟩ := va_join (wr := [(a0, .inr (1, [.ref a1, .int 1, v4])), (a1, .inl (cT 0, 4096, .inl (upd f5 0 (vp_nar .byte y1))))]) (w1 := [(a2, .inr (2, [.ref a3, .int 5, v6])), (a3, .inl (cT 2, 4096, .inr (.inl f7)))]) hP hD [0, 1] [2, 3] rfl rfl (by decide) (by decide) hk1 hFc hP1 hD1
  generalize H1 = H at hP hS ⊢
  have hP : va_P D xcl [(a0, .inr (1, [.ref a1, .int 1, v4])), (a1, .inl (cT 0, 4096, .inl (upd f5 0 (vp_nar .byte y1)))), (a2, .inr (2, [.ref a3, .int 5, v6])), (a3, .inl (cT 2, 4096, .inr (.inl f7)))] H := hP
  have hD : va_D A [(a0, .inr (1, [.ref a1, .int 1, v4])), (a1, .inl (cT 0, 4096, .inl (upd f5 0 (vp_nar .byte y1)))), (a2, .inr (2, [.ref a3, .int 5, v6])), (a3, .inl (cT 2, 4096, .inr (.inl f7)))] := hD
  rw [hr9]
  refine W.eq (g2 := F0 m 14 ls [.int 4, .int 0]) rfl ?_
  refine lv_icmp_ge (tgt := 33) hx hb dP_writeString_14 (by decide) (fun h => ((by revert h; decide : False)).elim) (fun _ => ?_)
  refine lv_aload_n hx hb dP_writeString_17 rfl (lv_at hl 1 rfl) ?_
  refine lv_iload_n hx hb dP_writeString_18 rfl (lv_at hl 2 rfl) ?_
  refine lv_iload_n hx hb dP_writeString_19 rfl (lv_at hl 0 rfl) ?_
  have hPc := hP.sub (ws' := [(a2, .inr (2, [.ref a3, .int 5, v6])), (a3, .inl (cT 2, 4096, .inr (.inl f7)))]) [2, 3] rfl
  have hDc := hD.sub (ws' := [(a2, .inr (2, [.ref a3, .int 5, v6])), (a3, .inl (cT 2, 4096, .inr (.inl f7)))]) [2, 3] (by decide) rfl
  have hFc := va_free (wc := [(a2, .inr (2, [.ref a3, .int 5, v6])), (a3, .inl (cT 2, 4096, .inr (.inl f7)))]) hD hS hA [2, 3] rfl
  refine va_calli (va_runV (C := "ValueBench$Row") (As := [.int 0, .int 0]) (rest := []) ⟨hx, hb, hml, hown, htx⟩ (cR_code_0 l hl9 D cT aK aV H.size a2 a3 v6 f7 (by first | rfl | exact h8 | exact h9 | exact h10 | exact h11 | exact h12)) ⟨callB_of 2 htx (xw_goodC kw_3_56) rfl rfl rfl (htx _ kw_1_4) (htx _ kw_3_53) ⟨by decide, by decide, by decide +kernel⟩ ⟨Nat.le_of_ble_eq_true rfl, Nat.le_of_ble_eq_true rfl⟩, (htx _ kw_3_54), (htx _ kw_3_55)⟩ ⟨xPre_blind, va_recv hK hP (ci := 2) rfl (q0 := 2) rfl, (fun U hU hW => ⟨rfl, xPre_of hZ hS hFc hPc hDc hK U hU hW⟩)⟩ rfl rfl hl.1 rfl (lv_room (Nat.le_of_ble_eq_true rfl)) dP_writeString_20 ⟨Nat.le_of_ble_eq_true rfl, Nat.le_of_ble_eq_true rfl⟩) hS (fun q _ h => hFc q h) hFc (fun r3 u9 t H1 locs ht hvm hr9 hB hz1 hk1 hS => ?_)
  obtain ⟨hP1, hK1, hD1⟩ := hB
  rw [ht] at hP1
  obtain ⟨hP, hD⟩ := va_join (wr := [(a0, .inr (1, [.ref a1, .int 1, v4])), (a1, .inl (cT 0, 4096, .inl (upd f5 0 (vp_nar .byte y1))))]) (w1 := [(a2, .inr (2, [.ref a3, .int 5, v6])), (a3, .inl (cT 2, 4096, .inr (.inl f7)))]) hP hD [2, 3] [0, 1] rfl rfl (by decide) (by decide) hk1 hFc hP1 hD1
  generalize H1 = H at hP hS ⊢
  have hP : va_P D xcl [(a0, .inr (1, [.ref a1, .int 1, v4])), (a1, .inl (cT 0, 4096, .inl (upd f5 0 (vp_nar .byte y1)))), (a2, .inr (2, [.ref a3, .int 5, v6])), (a3, .inl (cT 2, 4096, .inr (.inl f7)))] H := hP
  have hD : va_D A [(a0, .inr (1, [.ref a1, .int 1, v4])), (a1, .inl (cT 0, 4096, .inl (upd f5 0 (vp_nar .byte y1)))), (a2, .inr (2, [.ref a3, .int 5, v6])), (a3, .inl (cT 2, 4096, .inr (.inl f7)))] := hD
  rw [hr9]
  refine W.eq (g2 := F0 m 23 ls [.int 110]) rfl ?_
  refine lv_aload_n hx hb dP_writeString_23 rfl (lv_at hl 3 rfl) ?_
  have hPc := hP.sub (ws' := [(a0, .inr (1, [.ref a1, .int 1, v4])), (a1, .inl (cT 0, 4096, .inl (upd f5 0 (vp_nar .byte y1))))]) [0, 1] rfl
  have hDc := hD.sub (ws' := [(a0, .inr (1, [.ref a1, .int 1, v4])), (a1, .inl (cT 0, 4096, .inl (upd f5 0 (vp_nar .byte y1))))]) [0, 1] (by decide) rfl
  have hFc := va_free (wc := [(a0, .inr (1, [.ref a1, .int 1, v4])), (a1, .inl (cT 0, 4096, .inl (upd f5 0 (vp_nar .byte y1))))]) hD hS hA [0, 1] rfl
  refine va_callv (va_runS (As := [.int 110, .ref a0]) (rest := []) ⟨hx, hb, hml, hown, htx⟩ (cP_writeCode_0 l hl9 D cT aK aV H.size a0 a1 v4 (upd f5 0 (vp_nar .byte y1))) ⟨callB_of 2 htx (xw_goodC kw_3_59) rfl rfl rfl (htx _ kw_1_18) (htx _ kw_3_57) ⟨by decide, by decide, by decide +kernel⟩ ⟨Nat.le_of_ble_eq_true rfl, Nat.le_of_ble_eq_true rfl⟩, htx _ kw_3_58⟩ ⟨xPre_blind, (fun U hU hW => ⟨rfl, xPre_of hZ hS hFc hPc hDc hK U hU hW⟩)⟩ rfl rfl hl.1 rfl (lv_room (Nat.le_of_ble_eq_true rfl)) dP_writeString_24 ⟨Nat.le_of_ble_eq_true rfl, Nat.le_of_ble_eq_true rfl⟩) hS (fun q _ h => hFc q h) hFc (fun u9 t H1 locs ht hvm hr9 hB hz1 hk1 hS => ?_)
  obtain ⟨y4, hP1, hK1, hD1⟩ := hB
  rw [ht] at hP1
  obtain ⟨hP, hD⟩ := va_join (wr := [(a2, .inr (2, [.ref a3, .int 5, v6])), (a3, .inl (cT 2, 4096, .inr (.inl f7)))]) (w1 := [(a0, .inr (1, [.ref a1, .int 2, v4])), (a1, .inl (cT 0, 4096, .inl (upd (upd f5 0 (vp_nar .byte y1)) 1 (vp_nar .byte y4))))]) hP hD [0, 1] [2, 3] rfl rfl (by decide) (by decide) hk1 hFc hP1 hD1
  generalize H1 = H at hP hS ⊢
  have hP : va_P D xcl [(a2, .inr (2, [.ref a3, .int 5, v6])), (a3, .inl (cT 2, 4096, .inr (.inl f7))), (a0, .inr (1, [.ref a1, .int 2, v4])), (a1, .inl (cT 0, 4096, .inl (upd (upd f5 0 (vp_nar .byte y1)) 1 (vp_nar .byte y4))))] H := hP
  have hD : va_D A [(a2, .inr (2, [.ref a3, .int 5, v6])), (a3, .inl (cT 2, 4096, .inr (.inl f7))), (a0, .inr (1, [.ref a1, .int 2, v4])), (a1, .inl (cT 0, 4096, .inl (upd (upd f5 0 (vp_nar .byte y1)) 1 (vp_nar .byte y4))))] := hD
  refine lv_iinc (v := 1) (lv' := [(3, .int 1), (0, .ref a2), (1, .int 0), (2, .ref a0)]) hx hb dP_writeString_27 hl (k := 0) rfl (by decide) (by decide) rfl (fun ls hl => ?_)
  refine lv_goto (tgt := 8) hx hb dP_writeString_30 (by decide) ?_
  refine lv_iload_n hx hb dP_writeString_8 rfl (lv_at hl 0 rfl) ?_
  refine lv_aload_n hx hb dP_writeString_9 rfl (lv_at hl 1 rfl) ?_
  refine lv_iload_n hx hb dP_writeString_10 rfl (lv_at hl 2 rfl) ?_
  have hPc := hP.sub (ws' := [(a2, .inr (2, [.ref a3, .int 5, v6])), (a3, .inl (cT 2, 4096, .inr (.inl f7)))]) [0, 1] rfl
  have hDc := hD.sub (ws' := [(a2, .inr (2, [.ref a3, .int 5, v6])), (a3, .inl (cT 2, 4096, .inr (.inl f7)))]) [0, 1] (by decide) rfl
  have hFc := va_free (wc := [(a2, .inr (2, [.ref a3, .int 5, v6])), (a3, .inl (cT 2, 4096, .inr (.inl f7)))]) hD hS hA [0, 1] rfl
  refine va_calli (va_runV (C := "ValueBench$Row") (As := [.int 0]) (rest := [.int 1]) ⟨hx, hb, hml, hown, htx⟩ (cR_length_0 l hl9 D cT aK aV H.size a2 a3 v6 f7 (by first | rfl | exact h8 | exact h9 | exact h10 | exact h11 | exact h12)) ⟨callB_of 1 htx (xw_goodC kw_2_191) rfl rfl rfl (htx _ kw_1_4) (htx _ kw_3_52) ⟨by decide, by decide, by decide +kernel⟩ ⟨Nat.le_of_ble_eq_true rfl, Nat.le_of_ble_eq_true rfl⟩, (htx _ kw_2_189), (htx _ kw_2_190)⟩ ⟨xPre_blind, va_recv hK hP (ci := 2) rfl (q0 := 0) rfl, (fun U hU hW => ⟨rfl, xPre_of hZ hS hFc hPc hDc hK U hU hW⟩)⟩ rfl rfl hl.1 rfl (lv_room (Nat.le_of_ble_eq_true rfl)) dP_writeString_11 ⟨Nat.le_of_ble_eq_true rfl, Nat.le_of_ble_eq_true rfl⟩) hS (fun q _ h => hFc q h) hFc (fun r5 u9 t H1 locs ht hvm hr9 hB hz1 hk1 hS => ?_)
  obtain ⟨hP1, hK1, hD1⟩ := hB
  rw [ht] at hP1
  obtain ⟨hP, hD⟩ := va_join (wr := [(a0, .inr (1, [.ref a1, .int 2, v4])), (a1, .inl (cT 0, 4096, .inl (upd (upd f5 0 (vp_nar .byte y1)) 1 (vp_nar .byte y4))))]) (w1 := [(a2, .inr (2, [.ref a3, .int 5, v6])), (a3, .inl (cT 2, 4096, .inr (.inl f7)))]) hP hD [0, 1] [2, 3] rfl rfl (by decide) (by decide) hk1 hFc hP1 hD1
  generalize H1 = H at hP hS ⊢
  have hP : va_P D xcl [(a0, .inr (1, [.ref a1, .int 2, v4])), (a1, .inl (cT 0, 4096, .inl (upd (upd f5 0 (vp_nar .byte y1)) 1 (vp_nar .byte y4)))), (a2, .inr (2, [.ref a3, .int 5, v6])), (a3, .inl (cT 2, 4096, .inr (.inl f7)))] H := hP
  have hD : va_D A [(a0, .inr (1, [.ref a1, .int 2, v4])), (a1, .inl (cT 0, 4096, .inl (upd (upd f5 0 (vp_nar .byte y1)) 1 (vp_nar .byte y4)))), (a2, .inr (2, [.ref a3, .int 5, v6])), (a3, .inl (cT 2, 4096, .inr (.inl f7)))] := hD
  rw [hr9]
  refine W.eq (g2 := F0 m 14 ls [.int 4, .int 1]) rfl ?_
  refine lv_icmp_ge (tgt := 33) hx hb dP_writeString_14 (by decide) (fun h => ((by revert h; decide : False)).elim) (fun _ => ?_)
  refine lv_aload_n hx hb dP_writeString_17 rfl (lv_at hl 1 rfl) ?_
  refine lv_iload_n hx hb dP_writeString_18 rfl (lv_at hl 2 rfl) ?_
  refine lv_iload_n hx hb dP_writeString_19 rfl (lv_at hl 0 rfl) ?_
  have hPc := hP.sub (ws' := [(a2, .inr (2, [.ref a3, .int 5, v6])), (a3, .inl (cT 2, 4096, .inr (.inl f7)))]) [2, 3] rfl
  have hDc := hD.sub (ws' := [(a2, .inr (2, [.ref a3, .int 5, v6])), (a3, .inl (cT 2, 4096, .inr (.inl f7)))]) [2, 3] (by decide) rfl
  have hFc := va_free (wc := [(a2, .inr (2, [.ref a3, .int 5, v6])), (a3, .inl (cT 2, 4096, .inr (.inl f7)))]) hD hS hA [2, 3] rfl
  refine va_calli (va_runV (C := "ValueBench$Row") (As := [.int 0, .int 1]) (rest := []) ⟨hx, hb, hml, hown, htx⟩ (cR_code_1 l hl9 D cT aK aV H.size a2 a3 v6 f7 (by first | rfl | exact h8 | exact h9 | exact h10 | exact h11 | exact h12)) ⟨callB_of 2 htx (xw_goodC kw_3_56) rfl rfl rfl (htx _ kw_1_4) (htx _ kw_3_53) ⟨by decide, by decide, by decide +kernel⟩ ⟨Nat.le_of_ble_eq_true rfl, Nat.le_of_ble_eq_true rfl⟩, (htx _ kw_3_54), (htx _ kw_3_55)⟩ ⟨xPre_blind, va_recv hK hP (ci := 2) rfl (q0 := 2) rfl, (fun U hU hW => ⟨rfl, xPre_of hZ hS hFc hPc hDc hK U hU hW⟩)⟩ rfl rfl hl.1 rfl (lv_room (Nat.le_of_ble_eq_true rfl)) dP_writeString_20 ⟨Nat.le_of_ble_eq_true rfl, Nat.le_of_ble_eq_true rfl⟩) hS (fun q _ h => hFc q h) hFc (fun r6 u9 t H1 locs ht hvm hr9 hB hz1 hk1 hS => ?_)
  obtain ⟨hP1, hK1, hD1⟩ := hB
  rw [ht] at hP1
  obtain ⟨hP, hD⟩ := va_join (wr := [(a0, .inr (1, [.ref a1, .int 2, v4])), (a1, .inl (cT 0, 4096, .inl (upd (upd f5 0 (vp_nar .byte y1)) 1 (vp_nar .byte y4))))]) (w1 := [(a2, .inr (2, [.ref a3, .int 5, v6])), (a3, .inl (cT 2, 4096, .inr (.inl f7)))]) hP hD [2, 3] [0, 1] rfl rfl (by decide) (by decide) hk1 hFc hP1 hD1
  generalize H1 = H at hP hS ⊢
  have hP : va_P D xcl [(a0, .inr (1, [.ref a1, .int 2, v4])), (a1, .inl (cT 0, 4096, .inl (upd (upd f5 0 (vp_nar .byte y1)) 1 (vp_nar .byte y4)))), (a2, .inr (2, [.ref a3, .int 5, v6])), (a3, .inl (cT 2, 4096, .inr (.inl f7)))] H := hP
  have hD : va_D A [(a0, .inr (1, [.ref a1, .int 2, v4])), (a1, .inl (cT 0, 4096, .inl (upd (upd f5 0 (vp_nar .byte y1)) 1 (vp_nar .byte y4)))), (a2, .inr (2, [.ref a3, .int 5, v6])), (a3, .inl (cT 2, 4096, .inr (.inl f7)))] := hD
  rw [hr9]
  refine W.eq (g2 := F0 m 23 ls [.int 117]) rfl ?_
  refine lv_aload_n hx hb dP_writeString_23 rfl (lv_at hl 3 rfl) ?_
  have hPc := hP.sub (ws' := [(a0, .inr (1, [.ref a1, .int 2, v4])), (a1, .inl (cT 0, 4096, .inl (upd (upd f5 0 (vp_nar .byte y1)) 1 (vp_nar .byte y4))))]) [0, 1] rfl
  have hDc := hD.sub (ws' := [(a0, .inr (1, [.ref a1, .int 2, v4])), (a1, .inl (cT 0, 4096, .inl (upd (upd f5 0 (vp_nar .byte y1)) 1 (vp_nar .byte y4))))]) [0, 1] (by decide) rfl
  have hFc := va_free (wc := [(a0, .inr (1, [.ref a1, .int 2, v4])), (a1, .inl (cT 0, 4096, .inl (upd (upd f5 0 (vp_nar .byte y1)) 1 (vp_nar .byte y4))))]) hD hS hA [0, 1] rfl
  refine va_callv (va_runS (As := [.int 117, .ref a0]) (rest := []) ⟨hx, hb, hml, hown, htx⟩ (cP_writeCode_1 l hl9 D cT aK aV H.size a0 a1 v4 (upd (upd f5 0 (vp_nar .byte y1)) 1 (vp_nar .byte y4))) ⟨callB_of 2 htx (xw_goodC kw_3_59) rfl rfl rfl (htx _ kw_1_18) (htx _ kw_3_57) ⟨by decide, by decide, by decide +kernel⟩ ⟨Nat.le_of_ble_eq_true rfl, Nat.le_of_ble_eq_true rfl⟩, htx _ kw_3_58⟩ ⟨xPre_blind, (fun U hU hW => ⟨rfl, xPre_of hZ hS hFc hPc hDc hK U hU hW⟩)⟩ rfl rfl hl.1 rfl (lv_room (Nat.le_of_ble_eq_true rfl)) dP_writeString_24 ⟨Nat.le_of_ble_eq_true rfl, Nat.le_of_ble_eq_true rfl⟩) hS (fun q _ h => hFc q h) hFc (fun u9 t H1 locs ht hvm hr9 hB hz1 hk1 hS => ?_)
  obtain ⟨y7, hP1, hK1, hD1⟩ := hB
  rw [ht] at hP1
  obtain ⟨hP, hD⟩ := va_join (wr := [(a2, .inr (2, [.ref a3, .int 5, v6])), (a3, .inl (cT 2, 4096, .inr (.inl f7)))]) (w1 := [(a0, .inr (1, [.ref a1, .int 3, v4])), (a1, .inl (cT 0, 4096, .inl (upd (upd (upd f5 0 (vp_nar .byte y1)) 1 (vp_nar .byte y4)) 2 (vp_nar .byte y7))))]) hP hD [0, 1] [2, 3] rfl rfl (by decide) (by decide) hk1 hFc hP1 hD1
  generalize H1 = H at hP hS ⊢
  have hP : va_P D xcl [(a2, .inr (2, [.ref a3, .int 5, v6])), (a3, .inl (cT 2, 4096, .inr (.inl f7))), (a0, .inr (1, [.ref a1, .int 3, v4])), (a1, .inl (cT 0, 4096, .inl (upd (upd (upd f5 0 (vp_nar .byte y1)) 1 (vp_nar .byte y4)) 2 (vp_nar .byte y7))))] H := hP
  have hD : va_D A [(a2, .inr (2, [.ref a3, .int 5, v6])), (a3, .inl (cT 2, 4096, .inr (.inl f7))), (a0, .inr (1, [.ref a1, .int 3, v4])), (a1, .inl (cT 0, 4096, .inl (upd (upd (upd f5 0 (vp_nar .byte y1)) 1 (vp_nar .byte y4)) 2 (vp_nar .byte y7))))] := hD
  refine lv_iinc (v := 2) (lv' := [(3, .int 2), (0, .ref a2), (1, .int 0), (2, .ref a0)]) hx hb dP_writeString_27 hl (k := 0) rfl (by decide) (by decide) rfl (fun ls hl => ?_)
  refine lv_goto (tgt := 8) hx hb dP_writeString_30 (by decide) ?_
  refine lv_iload_n hx hb dP_writeString_8 rfl (lv_at hl 0 rfl) ?_
  refine lv_aload_n hx hb dP_writeString_9 rfl (lv_at hl 1 rfl) ?_
  refine lv_iload_n hx hb dP_writeString_10 rfl (lv_at hl 2 rfl) ?_
  have hPc := hP.sub (ws' := [(a2, .inr (2, [.ref a3, .int 5, v6])), (a3, .inl (cT 2, 4096, .inr (.inl f7)))]) [0, 1] rfl
  have hDc := hD.sub (ws' := [(a2, .inr (2, [.ref a3, .int 5, v6])), (a3, .inl (cT 2, 4096, .inr (.inl f7)))]) [0, 1] (by decide) rfl
  have hFc := va_free (wc := [(a2, .inr (2, [.ref a3, .int 5, v6])), (a3, .inl (cT 2, 4096, .inr (.inl f7)))]) hD hS hA [0, 1] rfl
  refine va_calli (va_runV (C := "ValueBench$Row") (As := [.int 0]) (rest := [.int 2]) ⟨hx, hb, hml, hown, htx⟩ (cR_length_0 l hl9 D cT aK aV H.size a2 a3 v6 f7 (by first | rfl | exact h8 | exact h9 | exact h10 | exact h11 | exact h12)) ⟨callB_of 1 htx (xw_goodC kw_2_191) rfl rfl rfl (htx _ kw_1_4) (htx _ kw_3_52) ⟨by decide, by decide, by decide +kernel⟩ ⟨Nat.le_of_ble_eq_true rfl, Nat.le_of_ble_eq_true rfl⟩, (htx _ kw_2_189), (htx _ kw_2_190)⟩ ⟨xPre_blind, va_recv hK hP (ci := 2) rfl (q0 := 0) rfl, (fun U hU hW => ⟨rfl, xPre_of hZ hS hFc hPc hDc hK U hU hW⟩)⟩ rfl rfl hl.1 rfl (lv_room (Nat.le_of_ble_eq_true rfl)) dP_writeString_11 ⟨Nat.le_of_ble_eq_true rfl, Nat.le_of_ble_eq_true rfl⟩) hS (fun q _ h => hFc q h) hFc (fun r8 u9 t H1 locs ht hvm hr9 hB hz1 hk1 hS => ?_)
  obtain ⟨hP1, hK1, hD1⟩ := hB
  rw [ht] at hP1
  obtain ⟨hP, hD⟩ := va_join (wr := [(a0, .inr (1, [.ref a1, .int 3, v4])), (a1, .inl (cT 0, 4096, .inl (upd (upd (upd f5 0 (vp_nar .byte y1)) 1 (vp_nar .byte y4)) 2 (vp_nar .byte y7))))]) (w1 := [(a2, .inr (2, [.ref a3, .int 5, v6])), (a3, .inl (cT 2, 4096, .inr (.inl f7)))]) hP hD [0, 1] [2, 3] rfl rfl (by decide) (by decide) hk1 hFc hP1 hD1
  generalize H1 = H at hP hS ⊢
  have hP : va_P D xcl [(a0, .inr (1, [.ref a1, .int 3, v4])), (a1, .inl (cT 0, 4096, .inl (upd (upd (upd f5 0 (vp_nar .byte y1)) 1 (vp_nar .byte y4)) 2 (vp_nar .byte y7)))), (a2, .inr (2, [.ref a3, .int 5, v6])), (a3, .inl (cT 2, 4096, .inr (.inl f7)))] H := hP
  have hD : va_D A [(a0, .inr (1, [.ref a1, .int 3, v4])), (a1, .inl (cT 0, 4096, .inl (upd (upd (upd f5 0 (vp_nar .byte y1)) 1 (vp_nar .byte y4)) 2 (vp_nar .byte y7)))), (a2, .inr (2, [.ref a3, .int 5, v6])), (a3, .inl (cT 2, 4096, .inr (.inl f7)))] := hD
  rw [hr9]
  refine W.eq (g2 := F0 m 14 ls [.int 4, .int 2]) rfl ?_
  refine lv_icmp_ge (tgt := 33) hx hb dP_writeString_14 (by decide) (fun h => ((by revert h; decide : False)).elim) (fun _ => ?_)
  refine lv_aload_n hx hb dP_writeString_17 rfl (lv_at hl 1 rfl) ?_
  refine lv_iload_n hx hb dP_writeString_18 rfl (lv_at hl 2 rfl) ?_
  refine lv_iload_n hx hb dP_writeString_19 rfl (lv_at hl 0 rfl) ?_
  have hPc := hP.sub (ws' := [(a2, .inr (2, [.ref a3, .int 5, v6])), (a3, .inl (cT 2, 4096, .inr (.inl f7)))]) [2, 3] rfl
  have hDc := hD.sub (ws' := [(a2, .inr (2, [.ref a3, .int 5, v6])), (a3, .inl (cT 2, 4096, .inr (.inl f7)))]) [2, 3] (by decide) rfl
  have hFc := va_free (wc := [(a2, .inr (2, [.ref a3, .int 5, v6])), (a3, .inl (cT 2, 4096, .inr (.inl f7)))]) hD hS hA [2, 3] rfl
  refine va_calli (va_runV (C := "ValueBench$Row") (As := [.int 0, .int 2]) (rest := []) ⟨hx, hb, hml, hown, htx⟩ (cR_code_2 l hl9 D cT aK aV H.size a2 a3 v6 f7 (by first | rfl | exact h8 | exact h9 | exact h10 | exact h11 | exact h12)) ⟨callB_of 2 htx (xw_goodC kw_3_56) rfl rfl rfl (htx _ kw_1_4) (htx _ kw_3_53) ⟨by decide, by decide, by decide +kernel⟩ ⟨Nat.le_of_ble_eq_true rfl, Nat.le_of_ble_eq_true rfl⟩, (htx _ kw_3_54), (htx _ kw_3_55)⟩ ⟨xPre_blind, va_recv hK hP (ci := 2) rfl (q0 := 2) rfl, (fun U hU hW => ⟨rfl, xPre_of hZ hS hFc hPc hDc hK U hU hW⟩)⟩ rfl rfl hl.1 rfl (lv_room (Nat.le_of_ble_eq_true rfl)) dP_writeString_20 ⟨Nat.le_of_ble_eq_true rfl, Nat.le_of_ble_eq_true rfl⟩) hS (fun q _ h => hFc q h) hFc (fun r9 u9 t H1 locs ht hvm hr9 hB hz1 hk1 hS => ?_)
  obtain ⟨hP1, hK1, hD1⟩ := hB
  rw [ht] at hP1
  obtain ⟨hP, hD⟩ := va_join (wr := [(a0, .inr (1, [.ref a1, .int 3, v4])), (a1, .inl (cT 0, 4096, .inl (upd (upd (upd f5 0 (vp_nar .byte y1)) 1 (vp_nar .byte y4)) 2 (vp_nar .byte y7))))]) (w1 := [(a2, .inr (2, [.ref a3, .int 5, v6])), (a3, .inl (cT 2, 4096, .inr (.inl f7)))]) hP hD [2, 3] [0, 1] rfl rfl (by decide) (by decide) hk1 hFc hP1 hD1
  generalize H1 = H at hP hS ⊢
  have hP : va_P D xcl [(a0, .inr (1, [.ref a1, .int 3, v4])), (a1, .inl (cT 0, 4096, .inl (upd (upd (upd f5 0 (vp_nar .byte y1)) 1 (vp_nar .byte y4)) 2 (vp_nar .byte y7)))), (a2, .inr (2, [.ref a3, .int 5, v6])), (a3, .inl (cT 2, 4096, .inr (.inl f7)))] H := hP
  have hD : va_D A [(a0, .inr (1, [.ref a1, .int 3, v4])), (a1, .inl (cT 0, 4096, .inl (upd (upd (upd f5 0 (vp_nar .byte y1)) 1 (vp_nar .byte y4)) 2 (vp_nar .byte y7)))), (a2, .inr (2, [.ref a3, .int 5, v6])), (a3, .inl (cT 2, 4096, .inr (.inl f7)))] := hD
  rw [hr9]
  refine W.eq (g2 := F0 m 23 ls [.int 108]) rfl ?_
  refine lv_aload_n hx hb dP_writeString_23 rfl (lv_at hl 3 rfl) ?_
  have hPc := hP.sub (ws' := [(a0, .inr (1, [.ref a1, .int 3, v4])), (a1, .inl (cT 0, 4096, .inl (upd (upd (upd f5 0 (vp_nar .byte y1)) 1 (vp_nar .byte y4)) 2 (vp_nar .byte y7))))]) [0, 1] rfl
  have hDc := hD.sub (ws' := [(a0, .inr (1, [.ref a1, .int 3, v4])), (a1, .inl (cT 0, 4096, .inl (upd (upd (upd f5 0 (vp_nar .byte y1)) 1 (vp_nar .byte y4)) 2 (vp_nar .byte y7))))]) [0, 1] (by decide) rfl
  have hFc := va_free (wc := [(a0, .inr (1, [.ref a1, .int 3, v4])), (a1, .inl (cT 0, 4096, .inl (upd (upd (upd f5 0 (vp_nar .byte y1)) 1 (vp_nar .byte y4)) 2 (vp_nar .byte y7))))]) hD hS hA [0, 1] rfl
  refine va_callv (va_runS (As := [.int 108, .ref a0]) (rest := []) ⟨hx, hb, hml, hown, htx⟩ (cP_writeCode_2 l hl9 D cT aK aV H.size a0 a1 v4 (upd (upd (upd f5 0 (vp_nar .byte y1)) 1 (vp_nar .byte y4)) 2 (vp_nar .byte y7))) ⟨callB_of 2 htx (xw_goodC kw_3_59) rfl rfl rfl (htx _ kw_1_18) (htx _ kw_3_57) ⟨by decide, by decide, by decide +kernel⟩ ⟨Nat.le_of_ble_eq_true rfl, Nat.le_of_ble_eq_true rfl⟩, htx _ kw_3_58⟩ ⟨xPre_blind, (fun U hU hW => ⟨rfl, xPre_of hZ hS hFc hPc hDc hK U hU hW⟩)⟩ rfl rfl hl.1 rfl (lv_room (Nat.le_of_ble_eq_true rfl)) dP_writeString_24 ⟨Nat.le_of_ble_eq_true rfl, Nat.le_of_ble_eq_true rfl⟩) hS (fun q _ h => hFc q h) hFc (fun u9 t H1 locs ht hvm hr9 hB hz1 hk1 hS => ?_)
  obtain ⟨y10, hP1, hK1, hD1⟩ := hB
  rw [ht] at hP1
  obtain ⟨hP, hD⟩ := va_join (wr := [(a2, .inr (2, [.ref a3, .int 5, v6])), (a3, .inl (cT 2, 4096, .inr (.inl f7)))]) (w1 := [(a0, .inr (1, [.ref a1, .int 4, v4])), (a1, .inl (cT 0, 4096, .inl (upd (upd (upd (upd f5 0 (vp_nar .byte y1)) 1 (vp_nar .byte y4)) 2 (vp_nar .byte y7)) 3 (vp_nar .byte y10))))]) hP hD [0, 1] [2, 3] rfl rfl (by decide) (by decide) hk1 hFc hP1 hD1
  generalize H1 = H at hP hS ⊢
  have hP : va_P D xcl [(a2, .inr (2, [.ref a3, .int 5, v6])), (a3, .inl (cT 2, 4096, .inr (.inl f7))), (a0, .inr (1, [.ref a1, .int 4, v4])), (a1, .inl (cT 0, 4096, .inl (upd (upd (upd (upd f5 0 (vp_nar .byte y1)) 1 (vp_nar .byte y4)) 2 (vp_nar .byte y7)) 3 (vp_nar .byte y10))))] H := hP
  have hD : va_D A [(a2, .inr (2, [.ref a3, .int 5, v6])), (a3, .inl (cT 2, 4096, .inr (.inl f7))), (a0, .inr (1, [.ref a1, .int 4, v4])), (a1, .inl (cT 0, 4096, .inl (upd (upd (upd (upd f5 0 (vp_nar .byte y1)) 1 (vp_nar .byte y4)) 2 (vp_nar .byte y7)) 3 (vp_nar .byte y10))))] := hD
  refine lv_iinc (v := 3) (lv' := [(3, .int 3), (0, .ref a2), (1, .int 0), (2, .ref a0)]) hx hb dP_writeString_27 hl (k := 0) rfl (by decide) (by decide) rfl (fun ls hl => ?_)
  refine lv_goto (tgt := 8) hx hb dP_writeString_30 (by decide) ?_
  refine lv_iload_n hx hb dP_writeString_8 rfl (lv_at hl 0 rfl) ?_
  refine lv_aload_n hx hb dP_writeString_9 rfl (lv_at hl 1 rfl) ?_
  refine lv_iload_n hx hb dP_writeString_10 rfl (lv_at hl 2 rfl) ?_
  have hPc := hP.sub (ws' := [(a2, .inr (2, [.ref a3, .int 5, v6])), (a3, .inl (cT 2, 4096, .inr (.inl f7)))]) [0, 1] rfl
  have hDc := hD.sub (ws' := [(a2, .inr (2, [.ref a3, .int 5, v6])), (a3, .inl (cT 2, 4096, .inr (.inl f7)))]) [0, 1] (by decide) rfl
  have hFc := va_free (wc := [(a2, .inr (2, [.ref a3, .int 5, v6])), (a3, .inl (cT 2, 4096, .inr (.inl f7)))]) hD hS hA [0, 1] rfl
  refine va_calli (va_runV (C := "ValueBench$Row") (As := [.int 0]) (rest := [.int 3]) ⟨hx, hb, hml, hown, htx⟩ (cR_length_0 l hl9 D cT aK aV H.size a2 a3 v6 f7 (by first | rfl | exact h8 | exact h9 | exact h10 | exact h11 | exact h12)) ⟨callB_of 1 htx (xw_goodC kw_2_191) rfl rfl rfl (htx _ kw_1_4) (htx _ kw_3_52) ⟨by decide, by decide, by decide +kernel⟩ ⟨Nat.le_of_ble_eq_true rfl, Nat.le_of_ble_eq_true rfl⟩, (htx _ kw_2_189), (htx _ kw_2_190)⟩ ⟨xPre_blind, va_recv hK hP (ci := 2) rfl (q0 := 0) rfl, (fun U hU hW => ⟨rfl, xPre_of hZ hS hFc hPc hDc hK U hU hW⟩)⟩ rfl rfl hl.1 rfl (lv_room (Nat.le_of_ble_eq_true rfl)) dP_writeString_11 ⟨Nat.le_of_ble_eq_true rfl, Nat.le_of_ble_eq_true rfl⟩) hS (fun q _ h => hFc q h) hFc (fun r11 u9 t H1 locs ht hvm hr9 hB hz1 hk1 hS => ?_)
  obtain ⟨hP1, hK1, hD1⟩ := hB
  rw [ht] at hP1
  obtain ⟨hP, hD⟩ := va_join (wr := [(a0, .inr (1, [.ref a1, .int 4, v4])), (a1, .inl (cT 0, 4096, .inl (upd (upd (upd (upd f5 0 (vp_nar .byte y1)) 1 (vp_nar .byte y4)) 2 (vp_nar .byte y7)) 3 (vp_nar .byte y10))))]) (w1 := [(a2, .inr (2, [.ref a3, .int 5, v6])), (a3, .inl (cT 2, 4096, .inr (.inl f7)))]) hP hD [0, 1] [2, 3] rfl rfl (by decide) (by decide) hk1 hFc hP1 hD1
  generalize H1 = H at hP hS ⊢
  have hP : va_P D xcl [(a0, .inr (1, [.ref a1, .int 4, v4])), (a1, .inl (cT 0, 4096, .inl (upd (upd (upd (upd f5 0 (vp_nar .byte y1)) 1 (vp_nar .byte y4)) 2 (vp_nar .byte y7)) 3 (vp_nar .byte y10)))), (a2, .inr (2, [.ref a3, .int 5, v6])), (a3, .inl (cT 2, 4096, .inr (.inl f7)))] H := hP
  have hD : va_D A [(a0, .inr (1, [.ref a1, .int 4, v4])), (a1, .inl (cT 0, 4096, .inl (upd (upd (upd (upd f5 0 (vp_nar .byte y1)) 1 (vp_nar .byte y4)) 2 (vp_nar .byte y7)) 3 (vp_nar .byte y10)))), (a2, .inr (2, [.ref a3, .int 5, v6])), (a3, .inl (cT 2, 4096, .inr (.inl f7)))] := hD
  rw [hr9]
  refine W.eq (g2 := F0 m 14 ls [.int 4, .int 3]) rfl ?_
  refine lv_icmp_ge (tgt := 33) hx hb dP_writeString_14 (by decide) (fun h => ((by revert h; decide : False)).elim) (fun _ => ?_)
  refine lv_aload_n hx hb dP_writeString_17 rfl (lv_at hl 1 rfl) ?_
  refine lv_iload_n hx hb dP_writeString_18 rfl (lv_at hl 2 rfl) ?_
  refine lv_iload_n hx hb dP_writeString_19 rfl (lv_at hl 0 rfl) ?_
  have hPc := hP.sub (ws' := [(a2, .inr (2, [.ref a3, .int 5, v6])), (a3, .inl (cT 2, 4096, .inr (.inl f7)))]) [2, 3] rfl
  have hDc := hD.sub (ws' := [(a2, .inr (2, [.ref a3, .int 5, v6])), (a3, .inl (cT 2, 4096, .inr (.inl f7)))]) [2, 3] (by decide) rfl
  have hFc := va_free (wc := [(a2, .inr (2, [.ref a3, .int 5, v6])), (a3, .inl (cT 2, 4096, .inr (.inl f7)))]) hD hS hA [2, 3] rfl
  refine va_calli (va_runV (C := "ValueBench$Row") (As := [.int 0, .int 3]) (rest := []) ⟨hx, hb, hml, hown, htx⟩ (cR_code_3 l hl9 D cT aK aV H.size a2 a3 v6 f7 (by first | rfl | exact h8 | exact h9 | exact h10 | exact h11 | exact h12)) ⟨callB_of 2 htx (xw_goodC kw_3_56) rfl rfl rfl (htx _ kw_1_4) (htx _ kw_3_53) ⟨by decide, by decide, by decide +kernel⟩ ⟨Nat.le_of_ble_eq_true rfl, Nat.le_of_ble_eq_true rfl⟩, (htx _ kw_3_54), (htx _ kw_3_55)⟩ ⟨xPre_blind, va_recv hK hP (ci := 2) rfl (q0 := 2) rfl, (fun U hU hW => ⟨rfl, xPre_of hZ hS hFc hPc hDc hK U hU hW⟩)⟩ rfl rfl hl.1 rfl (lv_room (Nat.le_of_ble_eq_true rfl)) dP_writeString_20 ⟨Nat.le_of_ble_eq_true rfl, Nat.le_of_ble_eq_true rfl⟩) hS (fun q _ h => hFc q h) hFc (fun r12 u9 t H1 locs ht hvm hr9 hB hz1 hk1 hS => ?_)
  obtain ⟨hP1, hK1, hD1⟩ := hB
  rw [ht] at hP1
  obtain ⟨hP, hD⟩ := va_join (wr := [(a0, .inr (1, [.ref a1, .int 4, v4])), (a1, .inl (cT 0, 4096, .inl (upd (upd (upd (upd f5 0 (vp_nar .byte y1)) 1 (vp_nar .byte y4)) 2 (vp_nar .byte y7)) 3 (vp_nar .byte y10))))]) (w1 := [(a2, .inr (2, [.ref a3, .int 5, v6])), (a3, .inl (cT 2, 4096, .inr (.inl f7)))]) hP hD [2, 3] [0, 1] rfl rfl (by decide) (by decide) hk1 hFc hP1 hD1
  generalize H1 = H at hP hS ⊢
  have hP : va_P D xcl [(a0, .inr (1, [.ref a1, .int 4, v4])), (a1, .inl (cT 0, 4096, .inl (upd (upd (upd (upd f5 0 (vp_nar .byte y1)) 1 (vp_nar .byte y4)) 2 (vp_nar .byte y7)) 3 (vp_nar .byte y10)))), (a2, .inr (2, [.ref a3, .int 5, v6])), (a3, .inl (cT 2, 4096, .inr (.inl f7)))] H := hP
  have hD : va_D A [(a0, .inr (1, [.ref a1, .int 4, v4])), (a1, .inl (cT 0, 4096, .inl (upd (upd (upd (upd f5 0 (vp_nar .byte y1)) 1 (vp_nar .byte y4)) 2 (vp_nar .byte y7)) 3 (vp_nar .byte y10)))), (a2, .inr (2, [.ref a3, .int 5, v6])), (a3, .inl (cT 2, 4096, .inr (.inl f7)))] := hD
  rw [hr9]
  refine W.eq (g2 := F0 m 23 ls [.int 108]) rfl ?_
  refine lv_aload_n hx hb dP_writeString_23 rfl (lv_at hl 3 rfl) ?_
  have hPc := hP.sub (ws' := [(a0, .inr (1, [.ref a1, .int 4, v4])), (a1, .inl (cT 0, 4096, .inl (upd (upd (upd (upd f5 0 (vp_nar .byte y1)) 1 (vp_nar .byte y4)) 2 (vp_nar .byte y7)) 3 (vp_nar .byte y10))))]) [0, 1] rfl
  have hDc := hD.sub (ws' := [(a0, .inr (1, [.ref a1, .int 4, v4])), (a1, .inl (cT 0, 4096, .inl (upd (upd (upd (upd f5 0 (vp_nar .byte y1)) 1 (vp_nar .byte y4)) 2 (vp_nar .byte y7)) 3 (vp_nar .byte y10))))]) [0, 1] (by decide) rfl
  have hFc := va_free (wc := [(a0, .inr (1, [.ref a1, .int 4, v4])), (a1, .inl (cT 0, 4096, .inl (upd (upd (upd (upd f5 0 (vp_nar .byte y1)) 1 (vp_nar .byte y4)) 2 (vp_nar .byte y7)) 3 (vp_nar .byte y10))))]) hD hS hA [0, 1] rfl
  refine va_callv (va_runS (As := [.int 108, .ref a0]) (rest := []) ⟨hx, hb, hml, hown, htx⟩ (cP_writeCode_3 l hl9 D cT aK aV H.size a0 a1 v4 (upd (upd (upd (upd f5 0 (vp_nar .byte y1)) 1 (vp_nar .byte y4)) 2 (vp_nar .byte y7)) 3 (vp_nar .byte y10))) ⟨callB_of 2 htx (xw_goodC kw_3_59) rfl rfl rfl (htx _ kw_1_18) (htx _ kw_3_57) ⟨by decide, by decide, by decide +kernel⟩ ⟨Nat.le_of_ble_eq_true rfl, Nat.le_of_ble_eq_true rfl⟩, htx _ kw_3_58⟩ ⟨xPre_blind, (fun U hU hW => ⟨rfl, xPre_of hZ hS hFc hPc hDc hK U hU hW⟩)⟩ rfl rfl hl.1 rfl (lv_room (Nat.le_of_ble_eq_true rfl)) dP_writeString_24 ⟨Nat.le_of_ble_eq_true rfl, Nat.le_of_ble_eq_true rfl⟩) hS (fun q _ h => hFc q h) hFc (fun u9 t H1 locs ht hvm hr9 hB hz1 hk1 hS => ?_)
  obtain ⟨y13, hP1, hK1, hD1⟩ := hB
  rw [ht] at hP1
  obtain ⟨hP, hD⟩ := va_join (wr := [(a2, .inr (2, [.ref a3, .int 5, v6])), (a3, .inl (cT 2, 4096, .inr (.inl f7)))]) (w1 := [(a0, .inr (1, [.ref a1, .int 5, v4])), (a1, .inl (cT 0, 4096, .inl (upd (upd (upd (upd (upd f5 0 (vp_nar .byte y1)) 1 (vp_nar .byte y4)) 2 (vp_nar .byte y7)) 3 (vp_nar .byte y10)) 4 (vp_nar .byte y13))))]) hP hD [0, 1] [2, 3] rfl rfl (by decide) (by decide) hk1 hFc hP1 hD1
  generalize H1 = H at hP hS ⊢
  have hP : va_P D xcl [(a2, .inr (2, [.ref a3, .int 5, v6])), (a3, .inl (cT 2, 4096, .inr (.inl f7))), (a0, .inr (1, [.ref a1, .int 5, v4])), (a1, .inl (cT 0, 4096, .inl (upd (upd (upd (upd (upd f5 0 (vp_nar .byte y1)) 1 (vp_nar .byte y4)) 2 (vp_nar .byte y7)) 3 (vp_nar .byte y10)) 4 (vp_nar .byte y13))))] H := hP
  have hD : va_D A [(a2, .inr (2, [.ref a3, .int 5, v6])), (a3, .inl (cT 2, 4096, .inr (.inl f7))), (a0, .inr (1, [.ref a1, .int 5, v4])), (a1, .inl (cT 0, 4096, .inl (upd (upd (upd (upd (upd f5 0 (vp_nar .byte y1)) 1 (vp_nar .byte y4)) 2 (vp_nar .byte y7)) 3 (vp_nar .byte y10)) 4 (vp_nar .byte y13))))] := hD
  refine lv_iinc (v := 4) (lv' := [(3, .int 4), (0, .ref a2), (1, .int 0), (2, .ref a0)]) hx hb dP_writeString_27 hl (k := 0) rfl (by decide) (by decide) rfl (fun ls hl => ?_)
  refine lv_goto (tgt := 8) hx hb dP_writeString_30 (by decide) ?_
  refine lv_iload_n hx hb dP_writeString_8 rfl (lv_at hl 0 rfl) ?_
  refine lv_aload_n hx hb dP_writeString_9 rfl (lv_at hl 1 rfl) ?_
  refine lv_iload_n hx hb dP_writeString_10 rfl (lv_at hl 2 rfl) ?_
  have hPc := hP.sub (ws' := [(a2, .inr (2, [.ref a3, .int 5, v6])), (a3, .inl (cT 2, 4096, .inr (.inl f7)))]) [0, 1] rfl
  have hDc := hD.sub (ws' := [(a2, .inr (2, [.ref a3, .int 5, v6])), (a3, .inl (cT 2, 4096, .inr (.inl f7)))]) [0, 1] (by decide) rfl
  have hFc := va_free (wc := [(a2, .inr (2, [.ref a3, .int 5, v6])), (a3, .inl (cT 2, 4096, .inr (.inl f7)))]) hD hS hA [0, 1] rfl
  refine va_calli (va_runV (C := "ValueBench$Row") (As := [.int 0]) (rest := [.int 4]) ⟨hx, hb, hml, hown, htx⟩ (cR_length_0 l hl9 D cT aK aV H.size a2 a3 v6 f7 (by first | rfl | exact h8 | exact h9 | exact h10 | exact h11 | exact h12)) ⟨callB_of 1 htx (xw_goodC kw_2_191) rfl rfl rfl (htx _ kw_1_4) (htx _ kw_3_52) ⟨by decide, by decide, by decide +kernel⟩ ⟨Nat.le_of_ble_eq_true rfl, Nat.le_of_ble_eq_true rfl⟩, (htx _ kw_2_189), (htx _ kw_2_190)⟩ ⟨xPre_blind, va_recv hK hP (ci := 2) rfl (q0 := 0) rfl, (fun U hU hW => ⟨rfl, xPre_of hZ hS hFc hPc hDc hK U hU hW⟩)⟩ rfl rfl hl.1 rfl (lv_room (Nat.le_of_ble_eq_true rfl)) dP_writeString_11 ⟨Nat.le_of_ble_eq_true rfl, Nat.le_of_ble_eq_true rfl⟩) hS (fun q _ h => hFc q h) hFc (fun r14 u9 t H1 locs ht hvm hr9 hB hz1 hk1 hS => ?_)
  obtain ⟨hP1, hK1, hD1⟩ := hB
  rw [ht] at hP1
  obtain ⟨hP, hD⟩ := va_join (wr := [(a0, .inr (1, [.ref a1, .int 5, v4])), (a1, .inl (cT 0, 4096, .inl (upd (upd (upd (upd (upd f5 0 (vp_nar .byte y1)) 1 (vp_nar .byte y4)) 2 (vp_nar .byte y7)) 3 (vp_nar .byte y10)) 4 (vp_nar .byte y13))))]) (w1 := [(a2, .inr (2, [.ref a3, .int 5, v6])), (a3, .inl (cT 2, 4096, .inr (.inl f7)))]) hP hD [0, 1] [2, 3] rfl rfl (by decide) (by decide) hk1 hFc hP1 hD1
  generalize H1 = H at hP hS ⊢
  have hP : va_P D xcl [(a0, .inr (1, [.ref a1, .int 5, v4])), (a1, .inl (cT 0, 4096, .inl (upd (upd (upd (upd (upd f5 0 (vp_nar .byte y1)) 1 (vp_nar .byte y4)) 2 (vp_nar .byte y7)) 3 (vp_nar .byte y10)) 4 (vp_nar .byte y13)))), (a2, .inr (2, [.ref a3, .int 5, v6])), (a3, .inl (cT 2, 4096, .inr (.inl f7)))] H := hP
  have hD : va_D A [(a0, .inr (1, [.ref a1, .int 5, v4])), (a1, .inl (cT 0, 4096, .inl (upd (upd (upd (upd (upd f5 0 (vp_nar .byte y1)) 1 (vp_nar .byte y4)) 2 (vp_nar .byte y7)) 3 (vp_nar .byte y10)) 4 (vp_nar .byte y13)))), (a2, .inr (2, [.ref a3, .int 5, v6])), (a3, .inl (cT 2, 4096, .inr (.inl f7)))] := hD
  rw [hr9]
  refine W.eq (g2 := F0 m 14 ls [.int 4, .int 4]) rfl ?_
  refine lv_icmp_ge (tgt := 33) hx hb dP_writeString_14 (by decide) (fun _ => ?_) (fun h => ((by revert h; decide : False)).elim)
  refine lv_aload_n hx hb dP_writeString_33 rfl (lv_at hl 3 rfl) ?_
  refine lv_bipush (v := 34) hx hb dP_writeString_34 (by decide) ?_
  have hPc := hP.sub (ws' := [(a0, .inr (1, [.ref a1, .int 5, v4])), (a1, .inl (cT 0, 4096, .inl (upd (upd (upd (upd (upd f5 0 (vp_nar .byte y1)) 1 (vp_nar .byte y4)) 2 (vp_nar .byte y7)) 3 (vp_nar .byte y10)) 4 (vp_nar .byte y13))))]) [0, 1] rfl
  have hDc := hD.sub (ws' := [(a0, .inr (1, [.ref a1, .int 5, v4])), (a1, .inl (cT 0, 4096, .inl (upd (upd (upd (upd (upd f5 0 (vp_nar .byte y1)) 1 (vp_nar .byte y4)) 2 (vp_nar .byte y7)) 3 (vp_nar .byte y10)) 4 (vp_nar .byte y13))))]) [0, 1] (by decide) rfl
  have hFc := va_free (wc := [(a0, .inr (1, [.ref a1, .int 5, v4])), (a1, .inl (cT 0, 4096, .inl (upd (upd (upd (upd (upd f5 0 (vp_nar .byte y1)) 1 (vp_nar .byte y4)) 2 (vp_nar .byte y7)) 3 (vp_nar .byte y10)) 4 (vp_nar .byte y13))))]) hD hS hA [0, 1] rfl
  refine va_callv (va_runV (C := "ValueBench$Text") (As := [.int 34]) (rest := []) ⟨hx, hb, hml, hown, htx⟩ (cT_add_26 l hl9 D cT aK aV H.size a0 a1 34 v4 (upd (upd (upd (upd (upd f5 0 (vp_nar .byte y1)) 1 (vp_nar .byte y4)) 2 (vp_nar .byte y7)) 3 (vp_nar .byte y10)) 4 (vp_nar .byte y13))) ⟨callB_of 1 htx (xw_goodC kw_1_207) rfl rfl rfl (htx _ kw_1_2) (htx _ kw_3_51) ⟨by decide, by decide, by decide +kernel⟩ ⟨Nat.le_of_ble_eq_true rfl, Nat.le_of_ble_eq_true rfl⟩, (htx _ kw_1_205), (htx _ kw_1_206)⟩ ⟨xPre_blind, va_recv hK hP (ci := 1) rfl (q0 := 0) rfl, (fun U hU hW => ⟨rfl, xPre_of hZ hS hFc hPc hDc hK U hU hW⟩)⟩ rfl rfl hl.1 rfl (lv_room (Nat.le_of_ble_eq_true rfl)) dP_writeString_36 ⟨Nat.le_of_ble_eq_true rfl, Nat.le_of_ble_eq_true rfl⟩) hS (fun q _ h => hFc q h) hFc (fun u9 t H1 locs ht hvm hr9 hB hz1 hk1 hS => ?_)
  obtain ⟨y15, hP1, hK1, hD1⟩ := hB
  rw [ht] at hP1
  obtain ⟨hP, hD⟩ := va_join (wr := [(a2, .inr (2, [.ref a3, .int 5, v6])), (a3, .inl (cT 2, 4096, .inr (.inl f7)))]) (w1 := [(a0, .inr (1, [.ref a1, .int 6, v4])), (a1, .inl (cT 0, 4096, .inl (upd (upd (upd (upd (upd (upd f5 0 (vp_nar .byte y1)) 1 (vp_nar .byte y4)) 2 (vp_nar .byte y7)) 3 (vp_nar .byte y10)) 4 (vp_nar .byte y13)) 5 (vp_nar .byte y15))))]) hP hD [0, 1] [2, 3] rfl rfl (by decide) (by decide) hk1 hFc hP1 hD1
  generalize H1 = H at hP hS ⊢
  have hP : va_P D xcl [(a2, .inr (2, [.ref a3, .int 5, v6])), (a3, .inl (cT 2, 4096, .inr (.inl f7))), (a0, .inr (1, [.ref a1, .int 6, v4])), (a1, .inl (cT 0, 4096, .inl (upd (upd (upd (upd (upd (upd f5 0 (vp_nar .byte y1)) 1 (vp_nar .byte y4)) 2 (vp_nar .byte y7)) 3 (vp_nar .byte y10)) 4 (vp_nar .byte y13)) 5 (vp_nar .byte y15))))] H := hP
  have hD : va_D A [(a2, .inr (2, [.ref a3, .int 5, v6])), (a3, .inl (cT 2, 4096, .inr (.inl f7))), (a0, .inr (1, [.ref a1, .int 6, v4])), (a1, .inl (cT 0, 4096, .inl (upd (upd (upd (upd (upd (upd f5 0 (vp_nar .byte y1)) 1 (vp_nar .byte y4)) 2 (vp_nar .byte y7)) 3 (vp_nar .byte y10)) 4 (vp_nar .byte y13)) 5 (vp_nar .byte y15))))] := hD
  have hP9 := hP.sub (ws' := [(a0, .inr (1, [.ref a1, .int 6, v4])), (a1, .inl (cT 0, 4096, .inl (upd (upd (upd (upd (upd (upd f5 0 (vp_nar .byte y1)) 1 (vp_nar .byte y4)) 2 (vp_nar .byte y7)) 3 (vp_nar .byte y10)) 4 (vp_nar .byte y13)) 5 (vp_nar .byte y15)))), (a2, .inr (2, [.ref a3, .int 5, v6])), (a3, .inl (cT 2, 4096, .inr (.inl f7)))]) [2, 3, 0, 1] rfl
  have hD9 := hD.sub (ws' := [(a0, .inr (1, [.ref a1, .int 6, v4])), (a1, .inl (cT 0, 4096, .inl (upd (upd (upd (upd (upd (upd f5 0 (vp_nar .byte y1)) 1 (vp_nar .byte y4)) 2 (vp_nar .byte y7)) 3 (vp_nar .byte y10)) 4 (vp_nar .byte y13)) 5 (vp_nar .byte y15)))), (a2, .inr (2, [.ref a3, .int 5, v6])), (a3, .inl (cT 2, 4096, .inr (.inl f7)))]) [2, 3, 0, 1] (by decide) rfl
  refine W.widen (k := 0) (n := 0) (Nat.le_of_ble_eq_true rfl) (Nat.le_of_ble_eq_true rfl) ?_
  exact W.vret hx hb hr (fun t ht hW => ⟨⟨(), rfl, trivial, y1, y4, y7, y10, y13, y15, by rw [ht]; exact hP9, va_K.moved hW.alike hK, hD9⟩, hS.F ht⟩) hS.2.2 dP_writeString_39
