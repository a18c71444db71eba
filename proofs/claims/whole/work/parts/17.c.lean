set_option maxHeartbeats 400000000 in
set_option maxRecDepth 100000 in
theorem cT_size_0 (l : Launch) (hl9 : l.stackTraces = false) (D : va_G) (cT : Nat → ClassId) (aK aV : Nat → Nat) (sz : Nat) (a0 : Nat) (v1 : Value) (v2 : Value) : xMet l yT_size wyT_size 0 0 0 0 D cT aK aV sz [.ref a0] [(a0, .inr (1, [v1, .int 0, v2]))] (fun A => va_Qi (fun (r : Int32) (_ : Unit) => r = 0) (fun _ t => xB D xcl cT A [(a0, .inr (1, [v1, .int 0, v2]))] t) A) := by
  refine Met.ofW (cc := prog_11_method_4_code) (maxL := 1) (ret := (some .int)) (by decide) rfl ?_
  intro p e s m args below meth c s₁ B hml hv
  obtain ⟨rfl, hsz, hZ, hP, hK, hD0⟩ := hv
  have hx := B.exec
  have hb := B.bytes
  have hr := B.returns
  have hts := atoms_spec (ws := wyT_size) B.pre
  have htx := fun w h => hts w (List.mem_cons_of_mem _ h)
  have hown : s.vm.findClass "ValueBench$Text" = some m.cls := findClass_of_methodNamed B.named
  have hlocks := B.notSynchronized
  subst hsz
  have hD := hD0.self (sz := s.heap.size)
  generalize hAe : va_A [(a0, .inr (1, [v1, .int 0, v2]))] s.heap.size = A at hD hZ ⊢
  have hA : ∀ q : Nat, s.heap.size ≤ q → A q := fun q h => by rw [← hAe]; exact Or.inr h
  have hS : va_S A s.heap s.heap [] := va_S.rf
  have hP : va_P D xcl [(a0, .inr (1, [v1, .int 0, v2]))] s.heap := hP
  have hl := lv_entry ([.ref a0]) (n := 1) (Nat.le_of_ble_eq_true rfl)
  rw [lg_entry_eq]
  generalize (lg_sl ([.ref a0]) ++ List.replicate (1 - (lg_sl ([.ref a0])).length) Slot.unset).toArray = ls at hl ⊢
  have hl : lv_has ls 1 [(0, .ref a0)] := hl
  refine lv_aload_n hx hb dT_size_0 rfl (lv_at hl 0 rfl) ?_
  refine va_get (D := D) (ci := 1) (v := .int 0) (C := "ValueBench$Text") (T := TT) (N := 3) hx hb htx inT hown hK hP 0 rfl rfl 1 (by decide) (htx _ kw_1_44) (fun _ h9 => h9) rfl dT_size_1 ?_
  obtain ⟨hP9, hD9⟩ := xsub (wc := [(a0, .inr (1, [v1, .int 0, v2]))]) hP hD [0] rfl rfl (by decide)
  refine W.widen (k := 0) (n := 0) (Nat.le_of_ble_eq_true rfl) (Nat.le_of_ble_eq_true rfl) ?_
  exact W.iret (v := 0) hx hb hr (fun t ht hW => ⟨⟨0, (), rfl, rfl, by rw [ht]; exact hP9, va_K.moved hW.alike hK, hD9⟩, hS.F ht⟩) hS.2.2 dT_size_4
set_option maxHeartbeats 400000000 in
set_option maxRecDepth 100000 in
theorem cT_add_0 (l : Launch) (hl9 : l.stackTraces = false) (D : va_G) (cT : Nat → ClassId) (aK aV : Nat → Nat) (sz : Nat) (a0 : Nat) (a1 : Nat) (x2 : Int32) (v3 : Value) (f4 : Nat → Int32) : xMet l yT_add wyT_add 0 0 0 0 D cT aK aV sz [.ref a0, .int x2] [(a0, .inr (1, [.ref a1, .int 0, v3])), (a1, .inl (cT 0, 4096, .inl f4))] (fun A => va_Qv (fun _ : Unit => True) (fun _ t => ∃ (y1 : Int32), xB D xcl cT A [(a0, .inr (1, [.ref a1, .int 1, v3])), (a1, .inl (cT 0, 4096, .inl (upd f4 0 (vp_nar .byte y1))))] t) A) := by
  refine Met.ofW (cc := prog_11_method_8_code) (maxL := 2) (ret := none) (by decide) rfl ?_
  intro p e s m args below meth c s₁ B hml hv
  obtain ⟨rfl, hsz, hZ, hP, hK, hD0⟩ := hv
  have hx := B.exec
  have hb := B.bytes
  have hr := B.returns
  have hts := atoms_spec (ws := wyT_add) B.pre
  have htx := fun w h => hts w (List.mem_cons_of_mem _ h)
  have hown : s.vm.findClass "ValueBench$Text" = some m.cls := findClass_of_methodNamed B.named
  have hlocks := B.notSynchronized
  subst hsz
  have hD := hD0.self (sz := s.heap.size)
  generalize hAe : va_A [(a0, .inr (1, [.ref a1, .int 0, v3])), (a1, .inl (cT 0, 4096, .inl f4))] s.heap.size = A at hD hZ ⊢
  have hA : ∀ q : Nat, s.heap.size ≤ q → A q := fun q h => by rw [← hAe]; exact Or.inr h
  have hS : va_S A s.heap s.heap [] := va_S.rf
  have hP : va_P D xcl [(a0, .inr (1, [.ref a1, .int 0, v3])), (a1, .inl (cT 0, 4096, .inl f4))] s.heap := hP
  have hl := lv_entry ([.ref a0, .int x2]) (n := 2) (Nat.le_of_ble_eq_true rfl)
  rw [lg_entry_eq]
  generalize (lg_sl ([.ref a0, .int x2]) ++ List.replicate (2 - (lg_sl ([.ref a0, .int x2])).length) Slot.unset).toArray = ls at hl ⊢
  have hl : lv_has ls 2 [(0, .ref a0), (1, .int x2)] := hl
  refine lv_aload_n hx hb dT_add_0 rfl (lv_at hl 0 rfl) ?_
  refine va_get (D := D) (ci := 1) (v := .int 0) (C := "ValueBench$Text") (T := TT) (N := 3) hx hb htx inT hown hK hP 0 rfl rfl 1 (by decide) (htx _ kw_1_44) (fun _ h9 => h9) rfl dT_add_1 ?_
  refine lv_sipush (v := 4096) hx hb dT_add_4 (by decide) ?_
  refine lv_icmp_lt (tgt := 16) hx hb dT_add_7 (by decide) (fun _ => ?_) (fun h => ((by revert h; decide : False)).elim)
  refine lv_aload_n hx hb dT_add_16 rfl (lv_at hl 0 rfl) ?_
  refine va_get (D := D) (ci := 1) (v := .ref a1) (C := "ValueBench$Text") (T := TT) (N := 3) hx hb htx inT hown hK hP 0 rfl rfl 0 (by decide) (htx _ kw_1_43) (fun _ h9 => h9) rfl dT_add_17 ?_
  refine lv_aload_n hx hb dT_add_20 rfl (lv_at hl 0 rfl) ?_
  refine va_get (D := D) (ci := 1) (v := .int 0) (C := "ValueBench$Text") (T := TT) (N := 3) hx hb htx inT hown hK hP 0 rfl rfl 1 (by decide) (htx _ kw_1_44) (fun _ h9 => h9) rfl dT_add_21 ?_
  refine lv_iload_n hx hb dT_add_24 rfl (lv_at hl 1 rfl) ?_
  refine lv_i2b hx hb dT_add_25 rfl ?_
  refine lv_topi (fun y1 ey1 => ?_)
  refine va_bast hx hb hK hP hD hS 1 0 rfl rfl (show ¬ ((0 : Int32) < 0 ∨ 4096 ≤ (0 : Int32).toNatClampNeg) by decide) dT_add_26 (fun H locs hP hD hS => ?_)
  obtain ⟨hP, hD⟩ : xPD D xcl A [(a0, .inr (1, [.ref a1, .int 0, v3])), (a1, .inl (cT 0, 4096, .inl (upd f4 0 (vp_nar .byte y1))))] H := ⟨hP, hD⟩
  refine lv_aload_n hx hb dT_add_27 rfl (lv_at hl 0 rfl) ?_
  refine lv_dup hx hb dT_add_28 rfl ?_
  refine va_get (D := D) (ci := 1) (v := .int 0) (C := "ValueBench$Text") (T := TT) (N := 3) hx hb htx inT hown hK hP 0 rfl rfl 1 (by decide) (htx _ kw_1_44) (fun _ h9 => h9) rfl dT_add_29 ?_
  refine lv_iconst (v := 1) hx hb dT_add_32 (by decide) ?_
  refine lv_iadd hx hb dT_add_33 ?_
  refine W.eq (g2 := F0 m 34 ls [.int 1, .ref a0]) rfl ?_
  refine va_put (D := D) (ci := 1) (v := .int 1) (ty := .int) (C := "ValueBench$Text") (T := TT) (N := 3) hx hb htx inT tyT tyT_ok nmT hown hK hP hD hS 0 rfl rfl 1 (by decide) (htx _ kw_1_44) (fun _ h9 => h9) rfl (by decide +kernel) rfl rfl (Nat.le_of_ble_eq_true rfl) dT_add_34 (fun H locs hP hD hS => ?_)
  obtain ⟨hP, hD⟩ : xPD D xcl A [(a0, .inr (1, [.ref a1, .int 1, v3])), (a1, .inl (cT 0, 4096, .inl (upd f4 0 (vp_nar .byte y1))))] H := ⟨hP, hD⟩
  obtain ⟨hP9, hD9⟩ := xsub (wc := [(a0, .inr (1, [.ref a1, .int 1, v3])), (a1, .inl (cT 0, 4096, .inl (upd f4 0 (vp_nar .byte y1))))]) hP hD [0, 1] rfl rfl (by decide)
  refine W.widen (k := 0) (n := 0) (Nat.le_of_ble_eq_true rfl) (Nat.le_of_ble_eq_true rfl) ?_
  exact W.vret hx hb hr (fun t ht hW => ⟨⟨(), rfl, trivial, y1, by rw [ht]; exact hP9, va_K.moved hW.alike hK, hD9⟩, hS.F ht⟩) hS.2.2 dT_add_37
set_option maxHeartbeats 400000000 in
set_option maxRecDepth 100000 in
theorem cT_add_1 (l : Launch) (hl9 : l.stackTraces = false) (D : va_G) (cT : Nat → ClassId) (aK aV : Nat → Nat) (sz : Nat) (a0 : Nat) (a1 : Nat) (x2 : Int32) (v3 : Value) (f4 : Nat → Int32) : xMet l yT_add wyT_add 0 0 0 0 D cT aK aV sz [.ref a0, .int x2] [(a0, .inr (1, [.ref a1, .int 1, v3])), (a1, .inl (cT 0, 4096, .inl f4))] (fun A => va_Qv (fun _ : Unit => True) (fun _ t => ∃ (y1 : Int32), xB D xcl cT A [(a0, .inr (1, [.ref a1, .int 2, v3])), (a1, .inl (cT 0, 4096, .inl (upd f4 1 (vp_nar .byte y1))))] t) A) := by
  refine Met.ofW (cc := prog_11_method_8_code) (maxL := 2) (ret := none) (by decide) rfl ?_
  intro p e s m args below meth c s₁ B hml hv
  obtain ⟨rfl, hsz, hZ, hP, hK, hD0⟩ := hv
  have hx := B.exec
  have hb := B.bytes
  have hr := B.returns
  have hts := atoms_spec (ws := wyT_add) B.pre
  have htx := fun w h => hts w (List.mem_cons_of_mem _ h)
  have hown : s.vm.findClass "ValueBench$Text" = some m.cls := findClass_of_methodNamed B.named
  have hlocks := B.notSynchronized
  subst hsz
  have hD := hD0.self (sz := s.heap.size)
  generalize hAe : va_A [(a0, .inr (1, [.ref a1, .int 1, v3])), (a1, .inl (cT 0, 4096, .inl f4))] s.heap.size = A at hD hZ ⊢
  have hA : ∀ q : Nat, s.heap.size ≤ q → A q := fun q h => by rw [← hAe]; exact Or.inr h
  have hS : va_S A s.heap s.heap [] := va_S.rf
  have hP : va_P D xcl [(a0, .inr (1, [.ref a1, .int 1, v3])), (a1, .inl (cT 0, 4096, .inl f4))] s.heap := hP
  have hl := lv_entry ([.ref a0, .int x2]) (n := 2) (Nat.le_of_ble_eq_true rfl)
  rw [lg_entry_eq]
  generalize (lg_sl ([.ref a0, .int x2]) ++ List.replicate (2 - (lg_sl ([.ref a0, .int x2])).length) Slot.unset).toArray = ls at hl ⊢
  have hl : lv_has ls 2 [(0, .ref a0), (1, .int x2)] := hl
  refine lv_aload_n hx hb dT_add_0 rfl (lv_at hl 0 rfl) ?_
  refine va_get (D := D) (ci := 1) (v := .int 1) (C := "ValueBench$Text") (T := TT) (N := 3) hx hb htx inT hown hK hP 0 rfl rfl 1 (by decide) (htx _ kw_1_44) (fun _ h9 => h9) rfl dT_add_1 ?_
  refine lv_sipush (v := 4096) hx hb dT_add_4 (by decide) ?_
  refine lv_icmp_lt (tgt := 16) hx hb dT_add_7 (by decide) (fun _ => ?_) (fun h => ((by revert h; decide : False)).elim)
  refine lv_aload_n hx hb dT_add_16 rfl (lv_at hl 0 rfl) ?_
  refine va_get (D := D) (ci := 1) (v := .ref a1) (C := "ValueBench$Text") (T := TT) (N := 3) hx hb htx inT hown hK hP 0 rfl rfl 0 (by decide) (htx _ kw_1_43) (fun _ h9 => h9) rfl dT_add_17 ?_
  refine lv_aload_n hx hb dT_add_20 rfl (lv_at hl 0 rfl) ?_
  refine va_get (D := D) (ci := 1) (v := .int 1) (C := "ValueBench$Text") (T := TT) (N := 3) hx hb htx inT hown hK hP 0 rfl rfl 1 (by decide) (htx _ kw_1_44) (fun _ h9 => h9) rfl dT_add_21 ?_
  refine lv_iload_n hx hb dT_add_24 rfl (lv_at hl 1 rfl) ?_
  refine lv_i2b hx hb dT_add_25 rfl ?_
  refine lv_topi (fun y1 ey1 => ?_)
  refine va_bast hx hb hK hP hD hS 1 0 rfl rfl (show ¬ ((1 : Int32) < 0 ∨ 4096 ≤ (1 : Int32).toNatClampNeg) by decide) dT_add_26 (fun H locs hP hD hS => ?_)
  obtain ⟨hP, hD⟩ : xPD D xcl A [(a0, .inr (1, [.ref a1, .int 1, v3])), (a1, .inl (cT 0, 4096, .inl (upd f4 1 (vp_nar .byte y1))))] H := ⟨hP, hD⟩
  refine lv_aload_n hx hb dT_add_27 rfl (lv_at hl 0 rfl) ?_
  refine lv_dup hx hb dT_add_28 rfl ?_
  refine va_get (D := D) (ci := 1) (v := .int 1) (C := "ValueBench$Text") (T := TT) (N := 3) hx hb htx inT hown hK hP 0 rfl rfl 1 (by decide) (htx _ kw_1_44) (fun _ h9 => h9) rfl dT_add_29 ?_
  refine lv_iconst (v := 1) hx hb dT_add_32 (by decide) ?_
  refine lv_iadd hx hb dT_add_33 ?_
  refine W.eq (g2 := F0 m 34 ls [.int 2, .ref a0]) rfl ?_
  refine va_put (D := D) (ci := 1) (v := .int 2) (ty := .int) (C := "ValueBench$Text") (T := TT) (N := 3) hx hb htx inT tyT tyT_ok nmT hown hK hP hD hS 0 rfl rfl 1 (by decide) (htx _ kw_1_44) (fun _ h9 => h9) rfl (by decide +kernel) rfl rfl (Nat.le_of_ble_eq_true rfl) dT_add_34 (fun H locs hP hD hS => ?_)
  obtain ⟨hP, hD⟩ : xPD D xcl A [(a0, .inr (1, [.ref a1, .int 2, v3])), (a1, .inl (cT 0, 4096, .inl (upd f4 1 (vp_nar .byte y1))))] H := ⟨hP, hD⟩
  obtain ⟨hP9, hD9⟩ := xsub (wc := [(a0, .inr (1, [.ref a1, .int 2, v3])), (a1, .inl (cT 0, 4096, .inl (upd f4 1 (vp_nar .byte y1))))]) hP hD [0, 1] rfl rfl (by decide)
  refine W.widen (k := 0) (n := 0) (Nat.le_of_ble_eq_true rfl) (Nat.le_of_ble_eq_true rfl) ?_
  exact W.vret hx hb hr (fun t ht hW => ⟨⟨(), rfl, trivial, y1, by rw [ht]; exact hP9, va_K.moved hW.alike hK, hD9⟩, hS.F ht⟩) hS.2.2 dT_add_37
set_option maxHeartbeats 400000000 in
set_option maxRecDepth 100000 in
theorem cT_add_2 (l : Launch) (hl9 : l.stackTraces = false) (D : va_G) (cT : Nat → ClassId) (aK aV : Nat → Nat) (sz : Nat) (a0 : Nat) (a1 : Nat) (x2 : Int32) (v3 : Value) (f4 : Nat → Int32) : xMet l yT_add wyT_add 0 0 0 0 D cT aK aV sz [.ref a0, .int x2] [(a0, .inr (1, [.ref a1, .int 2, v3])), (a1, .inl (cT 0, 4096, .inl f4))] (fun A => va_Qv (fun _ : Unit => True) (fun _ t => ∃ (y1 : Int32), xB D xcl cT A [(a0, .inr (1, [.ref a1, .int 3, v3])), (a1, .inl (cT 0, 4096, .inl (upd f4 2 (vp_nar .byte y1))))] t) A) := by
  refine Met.ofW (cc := prog_11_method_8_code) (maxL := 2) (ret := none) (by decide) rfl ?_
  intro p e s m args below meth c s₁ B hml hv
  obtain ⟨rfl, hsz, hZ, hP, hK, hD0⟩ := hv
  have hx := B.exec
  have hb := B.bytes
  have hr := B.returns
  have hts := atoms_spec (ws := wyT_add) B.pre
  have htx := fun w h => hts w (List.mem_cons_of_mem _ h)
  have hown : s.vm.findClass "ValueBench$Text" = some m.cls := findClass_of_methodNamed B.named
  have hlocks := B.notSynchronized
  subst hsz
  have hD := hD0.self (sz := s.heap.size)
  generalize hAe : va_A [(a0, .inr (1, [.ref a1, .int 2, v3])), (a1, .inl (cT 0, 4096, .inl f4))] s.heap.size = A at hD hZ ⊢
  have hA : ∀ q : Nat, s.heap.size ≤ q → A q := fun q h => by rw [← hAe]; exact Or.inr h
  have hS : va_S A s.heap s.heap [] := va_S.rf
  have hP : va_P D xcl [(a0, .inr (1, [.ref a1, .int 2, v3])), (a1, .inl (cT 0, 4096, .inl f4))] s.heap := hP
  have hl := lv_entry ([.ref a0, .int x2]) (n := 2) (Nat.le_of_ble_eq_true rfl)
  rw [lg_entry_eq]
  generalize (lg_sl ([.ref a0, .int x2]) ++ List.replicate (2 - (lg_sl ([.ref a0, .int x2])).length) Slot.unset).toArray = ls at hl ⊢
  have hl : lv_has ls 2 [(0, .ref a0), (1, .int x2)] := hl
  refine lv_aload_n hx hb dT_add_0 rfl (lv_at hl 0 rfl) ?_
  refine va_get (D := D) (ci := 1) (v := .int 2) (C := "ValueBench$Text") (T := TT) (N := 3) hx hb htx inT hown hK hP 0 rfl rfl 1 (by decide) (htx _ kw_1_44) (fun _ h9 => h9) rfl dT_add_1 ?_
  refine lv_sipush (v := 4096) hx hb dT_add_4 (by decide) ?_
  refine lv_icmp_lt (tgt := 16) hx hb dT_add_7 (by decide) (fun _ => ?_) (fun h => ((by revert h; decide : False)).elim)
  refine lv_aload_n hx hb dT_add_16 rfl (lv_at hl 0 rfl) ?_
  refine va_get (D := D) (ci := 1) (v := .ref a1) (C := "ValueBench$Text") (T := TT) (N := 3) hx hb htx inT hown hK hP 0 rfl rfl 0 (by decide) (htx _ kw_1_43) (fun _ h9 => h9) rfl dT_add_17 ?_
  refine lv_aload_n hx hb dT_add_20 rfl (lv_at hl 0 rfl) ?_
  refine va_get (D := D) (ci := 1) (v := .int 2) (C := "ValueBench$Text") (T := TT) (N := 3) hx hb htx inT hown hK hP 0 rfl rfl 1 (by decide) (htx _ kw_1_44) (fun _ h9 => h9) rfl dT_add_21 ?_
  refine lv_iload_n hx hb dT_add_24 rfl (lv_at hl 1 rfl) ?_
  refine lv_i2b hx hb dT_add_25 rfl ?_
  refine lv_topi (fun y1 ey1 => ?_)
  refine va_bast hx hb hK hP hD hS 1 0 rfl rfl (show ¬ ((2 : Int32) < 0 ∨ 4096 ≤ (2 : Int32).toNatClampNeg) by decide) dT_add_26 (fun H locs hP hD hS => ?_)
  obtain ⟨hP, hD⟩ : xPD D xcl A [(a0, .inr (1, [.ref a1, .int 2, v3])), (a1, .inl (cT 0, 4096, .inl (upd f4 2 (vp_nar .byte y1))))] H := ⟨hP, hD⟩
  refine lv_aload_n hx hb dT_add_27 rfl (lv_at hl 0 rfl) ?_
  refine lv_dup hx hb dT_add_28 rfl ?_
  refine va_get (D := D) (ci := 1) (v := .int 2) (C := "ValueBench$Text") (T := TT) (N := 3) hx hb htx inT hown hK hP 0 rfl rfl 1 (by decide) (htx _ kw_1_44) (fun _ h9 => h9) rfl dT_add_29 ?_
  refine lv_iconst (v := 1) hx hb dT_add_32 (by decide) ?_
  refine lv_iadd hx hb dT_add_33 ?_
  refine W.eq (g2 := F0 m 34 ls [.int 3, .ref a0]) rfl ?_
  refine va_put (D := D) (ci := 1) (v := .int 3) (ty := .int) (C := "ValueBench$Text") (T := TT) (N := 3) hx hb htx inT tyT tyT_ok nmT hown hK hP hD hS 0 rfl rfl 1 (by decide) (htx _ kw_1_44) (fun _ h9 => h9) rfl (by decide +kernel) rfl rfl (Nat.le_of_ble_eq_true rfl) dT_add_34 (fun H locs hP hD hS => ?_)
  obtain ⟨hP, hD⟩ : xPD D xcl A [(a0, .inr (1, [.ref a1, .int 3, v3])), (a1, .inl (cT 0, 4096, .inl (upd f4 2 (vp_nar .byte y1))))] H := ⟨hP, hD⟩
  obtain ⟨hP9, hD9⟩ := xsub (wc := [(a0, .inr (1, [.ref a1, .int 3, v3])), (a1, .inl (cT 0, 4096, .inl (upd f4 2 (vp_nar .byte y1))))]) hP hD [0, 1] rfl rfl (by decide)
  refine W.widen (k := 0) (n := 0) (Nat.le_of_ble_eq_true rfl) (Nat.le_of_ble_eq_true rfl) ?_
  exact W.vret hx hb hr (fun t ht hW => ⟨⟨(), rfl, trivial, y1, by rw [ht]; exact hP9, va_K.moved hW.alike hK, hD9⟩, hS.F ht⟩) hS.2.2 dT_add_37
set_option maxHeartbeats 400000000 in
set_option maxRecDepth 100000 in
theorem cT_add_3 (l : Launch) (hl9 : l.stackTraces = false) (D : va_G) (cT : Nat → ClassId) (aK aV : Nat → Nat) (sz : Nat) (a0 : Nat) (a1 : Nat) (x2 : Int32) (v3 : Value) (f4 : Nat → Int32) : xMet l yT_add wyT_add 0 0 0 0 D cT aK aV sz [.ref a0, .int x2] [(a0, .inr (1, [.ref a1, .int 3, v3])), (a1, .inl (cT 0, 4096, .inl f4))] (fun A => va_Qv (fun _ : Unit => True) (fun _ t => ∃ (y1 : Int32), xB D xcl cT A [(a0, .inr (1, [.ref a1, .int 4, v3])), (a1, .inl (cT 0, 4096, .inl (upd f4 3 (vp_nar .byte y1))))] t) A) := by
  refine Met.ofW (cc := prog_11_method_8_code) (maxL := 2) (ret := none) (by decide) rfl ?_
  intro p e s m args below meth c s₁ B hml hv
  obtain ⟨rfl, hsz, hZ, hP, hK, hD0⟩ := hv
  have hx := B.exec
  have hb := B.bytes
  have hr := B.returns
  have hts := atoms_spec (ws := wyT_add) B.pre
  have htx := fun w h => hts w (List.mem_cons_of_mem _ h)
  have hown : s.vm.findClass "ValueBench$Text" = some m.cls := findClass_of_methodNamed B.named
  have hlocks := B.notSynchronized
  subst hsz
  have hD := hD0.self (sz := s.heap.size)
  generalize hAe : va_A [(a0, .inr (1, [.ref a1, .int 3, v3])), (a1, .inl (cT 0, 4096, .inl f4))] s.heap.size = A at hD hZ ⊢
  have hA : ∀ q : Nat, s.heap.size ≤ q → A q := fun q h => by rw [← hAe]; exact Or.inr h
  have hS : va_S A s.heap s.heap [] := va_S.rf
  have hP : va_P D xcl [(a0, .inr (1, [.ref a1, .int 3, v3])), (a1, .inl (cT 0, 4096, .inl f4))] s.heap := hP
  have hl := lv_entry ([.ref a0, .int x2]) (n := 2) (Nat.le_of_ble_eq_true rfl)
  rw [lg_entry_eq]
  generalize (lg_sl ([.ref a0, .int x2]) ++ List.replicate (2 - (lg_sl ([.ref a0, .int x2])).length) Slot.unset).toArray = ls at hl ⊢
  have hl : lv_has ls 2 [(0, .ref a0), (1, .int x2)] := hl
  refine lv_aload_n hx hb dT_add_0 rfl (lv_at hl 0 rfl) ?_
  refine va_get (D := D) (ci := 1) (v := .int 3) (C := "ValueBench$Text") (T := TT) (N := 3) hx hb htx inT hown hK hP 0 rfl rfl 1 (by decide) (htx _ kw_1_44) (fun _ h9 => h9) rfl dT_add_1 ?_
  refine lv_sipush (v := 4096) hx hb dT_add_4 (by decide) ?_
  refine lv_icmp_lt (tgt := 16) hx hb dT_add_7 (by decide) (fun _ => ?_) (fun h => ((by revert h; decide : False)).elim)
  refine lv_aload_n hx hb dT_add_16 rfl (lv_at hl 0 rfl) ?_
  refine va_get (D := D) (ci := 1) (v := .ref a1) (C := "ValueBench$Text") (T := TT) (N := 3) hx hb htx inT hown hK hP 0 rfl rfl 0 (by decide) (htx _ kw_1_43) (fun _ h9 => h9) rfl dT_add_17 ?_
  refine lv_aload_n hx hb dT_add_20 rfl (lv_at hl 0 rfl) ?_
  refine va_get (D := D) (ci := 1) (v := .int 3) (C := "ValueBench$Text") (T := TT) (N := 3) hx hb htx inT hown hK hP 0 rfl rfl 1 (by decide) (htx _ kw_1_44) (fun _ h9 => h9) rfl dT_add_21 ?_
  refine lv_iload_n hx hb dT_add_24 rfl (lv_at hl 1 rfl) ?_
  refine lv_i2b hx hb dT_add_25 rfl ?_
  refine lv_topi (fun y1 ey1 => ?_)
  refine va_bast hx hb hK hP hD hS 1 0 rfl rfl (show ¬ ((3 : Int32) < 0 ∨ 4096 ≤ (3 : Int32).toNatClampNeg) by decide) dT_add_26 (fun H locs hP hD hS => ?_)
  obtain ⟨hP, hD⟩ : xPD D xcl A [(a0, .inr (1, [.ref a1, .int 3, v3])), (a1, .inl (cT 0, 4096, .inl (upd f4 3 (vp_nar .byte y1))))] H := ⟨hP, hD⟩
  refine lv_aload_n hx hb dT_add_27 rfl (lv_at hl 0 rfl) ?_
  refine lv_dup hx hb dT_add_28 rfl ?_
  refine va_get (D := D) (ci := 1) (v := .int 3) (C := "ValueBench$Text") (T := TT) (N := 3) hx hb htx inT hown hK hP 0 rfl rfl 1 (by decide) (htx _ kw_1_44) (fun _ h9 => h9) rfl dT_add_29 ?_
  refine lv_iconst (v := 1) hx hb dT_add_32 (by decide) ?_
  refine lv_iadd hx hb dT_add_33 ?_
  refine W.eq (g2 := F0 m 34 ls [.int 4, .ref a0]) rfl ?_
  refine va_put (D := D) (ci := 1) (v := .int 4) (ty := .int) (C := "ValueBench$Text") (T := TT) (N := 3) hx hb htx inT tyT tyT_ok nmT hown hK hP hD hS 0 rfl rfl 1 (by decide) (htx _ kw_1_44) (fun _ h9 => h9) rfl (by decide +kernel) rfl rfl (Nat.le_of_ble_eq_true rfl) dT_add_34 (fun H locs hP hD hS => ?_)
  obtain ⟨hP, hD⟩ : xPD D xcl A [(a0, .inr (1, [.ref a1, .int 4, v3])), (a1, .inl (cT 0, 4096, .inl (upd f4 3 (vp_nar .byte y1))))] H := ⟨hP, hD⟩
  obtain ⟨hP9, hD9⟩ := xsub (wc := [(a0, .inr (1, [.ref a1, .int 4, v3])), (a1, .inl (cT 0, 4096, .inl (upd f4 3 (vp_nar .byte y1))))]) hP hD [0, 1] rfl rfl (by decide)
  refine W.widen (k := 0) (n := 0) (Nat.le_of_ble_eq_true rfl) (Nat.le_of_ble_eq_true rfl) ?_
  exact W.vret hx hb hr (fun t ht hW => ⟨⟨(), rfl, trivial, y1, by rw [ht]; exact hP9, va_K.moved hW.alike hK, hD9⟩, hS.F ht⟩) hS.2.2 dT_add_37
set_option maxHeartbeats 400000000 in
set_option maxRecDepth 100000 in
theorem cT_addInt_0 (l : Launch) (hl9 : l.stackTraces = false) (D : va_G) (cT : Nat → ClassId) (aK aV : Nat → Nat) (sz : Nat) (a0 : Nat) (a1 : Nat) (x2 : Int32) (v3 : Value) (f4 : Nat → Int32) : xMet l yT_addInt wyT_addInt 1 0 0 21 D cT aK aV sz [.ref a0, .int x2] [(a0, .inr (1, [.ref a1, .int 0, v3])), (a1, .inl (cT 0, 4096, .inl f4))] (fun A => va_Qv (fun _ : Unit => True) (fun _ t => ∃ (y2 : Int32) (y4 : Int32) (y6 : Int32) (y8 : Int32), xB D xcl cT A [(a0, .inr (1, [.ref a1, .int 4, v3])), (a1, .inl (cT 0, 4096, .inl (upd (upd (upd (upd f4 0 (vp_nar .byte y2)) 1 (vp_nar .byte y4)) 2 (vp_nar .byte y6)) 3 (vp_nar .byte y8))))] t) A) := by
  refine Met.ofW (cc := prog_11_method_9_code) (maxL := 3) (ret := none) (by decide) rfl ?_
  intro p e s m args below meth c s₁ B hml hv
  obtain ⟨rfl, hsz, hZ, hP, hK, hD0⟩ := hv
  have hx := B.exec
  have hb := B.bytes
  have hr := B.returns
  have hts := atoms_spec (ws := wyT_addInt) B.pre
  have htx := fun w h => hts w (List.mem_cons_of_mem _ h)
  have hown : s.vm.findClass "ValueBench$Text" = some m.cls := findClass_of_methodNamed B.named
  have hlocks := B.notSynchronized
  subst hsz
  have hD := hD0.self (sz := s.heap.size)
  generalize hAe : va_A [(a0, .inr (1, [.ref a1, .int 0, v3])), (a1, .inl (cT 0, 4096, .inl f4))] s.heap.size = A at hD hZ ⊢
  have hA : ∀ q : Nat, s.heap.size ≤ q → A q := fun q h => by rw [← hAe]; exact Or.inr h
  have hS : va_S A s.heap s.heap [] := va_S.rf
  have hP : va_P D xcl [(a0, .inr (1, [.ref a1, .int 0, v3])), (a1, .inl (cT 0, 4096, .inl f4))] s.heap := hP
  have hl := lv_entry ([.ref a0, .int x2]) (n := 3) (Nat.le_of_ble_eq_true rfl)
  rw [lg_entry_eq]
  generalize (lg_sl ([.ref a0, .int x2]) ++ List.replicate (3 - (lg_sl ([.ref a0, .int x2])).length) Slot.unset).toArray = ls at hl ⊢
  have hl : lv_has ls 3 [(0, .ref a0), (1, .int x2)] := hl
  refine lv_bipush (v := 24) hx hb dT_addInt_0 (by decide) ?_
  refine lv_istore_n (lv' := [(2, .int 24), (0, .ref a0), (1, .int x2)]) hx hb dT_addInt_2 rfl hl (by decide) rfl (fun ls hl => ?_)
  refine lv_iload_n hx hb dT_addInt_3 rfl (lv_at hl 0 rfl) ?_
  refine lv_if_lt (tgt := 20) hx hb dT_addInt_4 (by decide) (fun h => ((by revert h; decide : False)).elim) (fun _ => ?_)
  refine lv_aload_n hx hb dT_addInt_7 rfl (lv_at hl 1 rfl) ?_
  refine lv_iload_n hx hb dT_addInt_8 rfl (lv_at hl 2 rfl) ?_
  refine lv_iload_n hx hb dT_addInt_9 rfl (lv_at hl 0 rfl) ?_
  refine lv_ishr hx hb dT_addInt_10 ?_
  refine lv_topi (fun y1 ey1 => ?_)
  obtain ⟨hPc, hDc, hFc⟩ := xcut (wc := [(a0, .inr (1, [.ref a1, .int 0, v3])), (a1, .inl (cT 0, 4096, .inl f4))]) hP hD hS hA [0, 1] rfl rfl (by decide)
  refine va_callv (va_runV (C := "ValueBench$Text") (As := [.int y1]) (rest := []) ⟨hx, hb, hml, hown, htx⟩ (cT_add_0 l hl9 D cT aK aV s.heap.size a0 a1 y1 v3 f4) ⟨callB_of 1 htx (xw_goodC kw_1_207) rfl rfl rfl (htx _ kw_1_2) (htx _ kw_1_204) ⟨by decide, by decide, by decide +kernel⟩ ⟨Nat.le_of_ble_eq_true rfl, Nat.le_of_ble_eq_true rfl⟩, (htx _ kw_1_205), (htx _ kw_1_206)⟩ ⟨xPre_blind, va_recv hK hP (ci := 1) rfl (q0 := 0) rfl, (fun U hU hW => ⟨rfl, xPre_of hZ hS hFc hPc hDc hK U hU hW⟩)⟩ rfl rfl hl.1 rfl (lv_room (Nat.le_of_ble_eq_true rfl)) dT_addInt_11 ⟨Nat.le_of_ble_eq_true rfl, Nat.le_of_ble_eq_true rfl⟩) hS (fun q _ h => hFc q h) hFc (fun u9 t H1 locs ht hvm hr9 hB hz1 hk1 hS => ?_)
  obtain ⟨y2, hP1, hK1, hD1⟩ := hB
  rw [ht] at hP1
  obtain ⟨hP, hD⟩ := xjoin (W := [(a0, .inr (1, [.ref a1, .int 1, v3])), (a1, .inl (cT 0, 4096, .inl (upd f4 0 (vp_nar .byte y2))))]) hP hD [0, 1] [] 0 rfl rfl (by decide) (by decide) hk1 hFc hP1 hD1
  generalize H1 = H at hP hS ⊢
  refine lv_iinc (v := 16) (lv' := [(2, .int 16), (0, .ref a0), (1, .int x2)]) hx hb dT_addInt_14 hl (k := 0) rfl (by decide) (by decide) rfl (fun ls hl => ?_)
  refine lv_goto (tgt := 3) hx hb dT_addInt_17 (by decide) ?_
  refine lv_iload_n hx hb dT_addInt_3 rfl (lv_at hl 0 rfl) ?_
  refine lv_if_lt (tgt := 20) hx hb dT_addInt_4 (by decide) (fun h => ((by revert h; decide : False)).elim) (fun _ => ?_)
  refine lv_aload_n hx hb dT_addInt_7 rfl (lv_at hl 1 rfl) ?_
  refine lv_iload_n hx hb dT_addInt_8 rfl (lv_at hl 2 rfl) ?_
  refine lv_iload_n hx hb dT_addInt_9 rfl (lv_at hl 0 rfl) ?_
  refine lv_ishr hx hb dT_addInt_10 ?_
  refine lv_topi (fun y3 ey3 => ?_)
  obtain ⟨hPc, hDc, hFc⟩ := xcut (wc := [(a0, .inr (1, [.ref a1, .int 1, v3])), (a1, .inl (cT 0, 4096, .inl (upd f4 0 (vp_nar .byte y2))))]) hP hD hS hA [0, 1] rfl rfl (by decide)
  refine va_callv (va_runV (C := "ValueBench$Text") (As := [.int y3]) (rest := []) ⟨hx, hb, hml, hown, htx⟩ (cT_add_1 l hl9 D cT aK aV H.size a0 a1 y3 v3 (upd f4 0 (vp_nar .byte y2))) ⟨callB_of 1 htx (xw_goodC kw_1_207) rfl rfl rfl (htx _ kw_1_2) (htx _ kw_1_204) ⟨by decide, by decide, by decide +kernel⟩ ⟨Nat.le_of_ble_eq_true rfl, Nat.le_of_ble_eq_true rfl⟩, (htx _ kw_1_205), (htx _ kw_1_206)⟩ ⟨xPre_blind, va_recv hK hP (ci := 1) rfl (q0 := 0) rfl, (fun U hU hW => ⟨rfl, xPre_of hZ hS hFc hPc hDc hK U hU hW⟩)⟩ rfl rfl hl.1 rfl (lv_room (Nat.le_of_ble_eq_true rfl)) dT_addInt_11 ⟨Nat.le_of_ble_eq_true rfl, Nat.le_of_ble_eq_true rfl⟩) hS (fun q _ h => hFc q h) hFc (fun u9 t H1 locs ht hvm hr9 hB hz1 hk1 hS => ?_)
  obtain ⟨y4, hP1, hK1, hD1⟩ := hB
  rw [ht] at hP1
  obtain ⟨hP, hD⟩ := xjoin (W := [(a0, .inr (1, [.ref a1, .int 2, v3])), (a1, .inl (cT 0, 4096, .inl (upd (upd f4 0 (vp_nar .byte y2)) 1 (vp_nar .byte y4))))]) hP hD [0, 1] [] 0 rfl rfl (by decide) (by decide) hk1 hFc hP1 hD1
  generalize H1 = H at hP hS ⊢
  refine lv_iinc (v := 8) (lv' := [(2, .int 8), (0, .ref a0), (1, .int x2)]) hx hb dT_addInt_14 hl (k := 0) rfl (by decide) (by decide) rfl (fun ls hl => ?_)
  refine lv_goto (tgt := 3) hx hb dT_addInt_17 (by decide) ?_
  refine lv_iload_n hx hb dT_addInt_3 rfl (lv_at hl 0 rfl) ?_
  refine lv_if_lt (tgt := 20) hx hb dT_addInt_4 (by decide) (fun h => ((by revert h; decide : False)).elim) (fun _ => ?_)
  refine lv_aload_n hx hb dT_addInt_7 rfl (lv_at hl 1 rfl) ?_
  refine lv_iload_n hx hb dT_addInt_8 rfl (lv_at hl 2 rfl) ?_
  refine lv_iload_n hx hb dT_addInt_9 rfl (lv_at hl 0 rfl) ?_
  refine lv_ishr hx hb dT_addInt_10 ?_
  refine lv_topi (fun y5 ey5 => ?_)
  obtain ⟨hPc, hDc, hFc⟩ := xcut (wc := [(a0, .inr (1, [.ref a1, .int 2, v3])), (a1, .inl (cT 0, 4096, .inl (upd (upd f4 0 (vp_nar .byte y2)) 1 (vp_nar .byte y4))))]) hP hD hS hA [0, 1] rfl rfl (by decide)
  refine va_callv (va_runV (C := "ValueBench$Text") (As := [.int y5]) (rest := []) ⟨hx, hb, hml, hown, htx⟩ (cT_add_2 l hl9 D cT aK aV H.size a0 a1 y5 v3 (upd (upd f4 0 (vp_nar .byte y2)) 1 (vp_nar .byte y4))) ⟨callB_of 1 htx (xw_goodC kw_1_207) rfl rfl rfl (htx _ kw_1_2) (htx _ kw_1_204) ⟨by decide, by decide, by decide +kernel⟩ ⟨Nat.le_of_ble_eq_true rfl, Nat.le_of_ble_eq_true rfl⟩, (htx _ kw_1_205), (htx _ kw_1_206)⟩ ⟨xPre_blind, va_recv hK hP (ci := 1) rfl (q0 := 0) rfl, (fun U hU hW => ⟨rfl, xPre_of hZ hS hFc hPc hDc hK U hU hW⟩)⟩ rfl rfl hl.1 rfl (lv_room (Nat.le_of_ble_eq_true rfl)) dT_addInt_11 ⟨Nat.le_of_ble_eq_true rfl, Nat.le_of_ble_eq_true rfl⟩) hS (fun q _ h => hFc q h) hFc (fun u9 t H1 locs ht hvm hr9 hB hz1 hk1 hS => ?_)
  obtain ⟨y6, hP1, hK1, hD1⟩ := hB
  rw [ht] at hP1
  obtain ⟨hP, hD⟩ := xjoin (W := [(a0, .inr (1, [.ref a1, .int 3, v3])), (a1, .inl (cT 0, 4096, .inl (upd (upd (upd f4 0 (vp_nar .byte y2)) 1 (vp_nar .byte y4)) 2 (vp_nar .byte y6))))]) hP hD [0, 1] [] 0 rfl rfl (by decide) (by decide) hk1 hFc hP1 hD1
  generalize H1 = H at hP hS ⊢
  refine lv_iinc (v := 0) (lv' := [(2, .int 0), (0, .ref a0), (1, .int x2)]) hx hb dT_addInt_14 hl (k := 0) rfl (by decide) (by decide) rfl (fun ls hl => ?_)
  refine lv_goto (tgt := 3) hx hb dT_addInt_17 (by decide) ?_
  refine lv_iload_n hx hb dT_addInt_3 rfl (lv_at hl 0 rfl) ?_
  refine lv_if_lt (tgt := 20) hx hb dT_addInt_4 (by decide) (fun h => ((by revert h; decide : False)).elim) (fun _ => ?_)
  refine lv_aload_n hx hb dT_addInt_7 rfl (lv_at hl 1 rfl) ?_
  refine lv_iload_n hx hb dT_addInt_8 rfl (lv_at hl 2 rfl) ?_
  refine lv_iload_n hx hb dT_addInt_9 rfl (lv_at hl 0 rfl) ?_
  refine lv_ishr hx hb dT_addInt_10 ?_
  refine lv_topi (fun y7 ey7 => ?_)
  obtain ⟨hPc, hDc, hFc⟩ := xcut (wc := [(a0, .inr (1, [.ref a1, .int 3, v3])), (a1, .inl (cT 0, 4096, .inl (upd (upd (upd f4 0 (vp_nar .byte y2)) 1 (vp_nar .byte y4)) 2 (vp_nar .byte y6))))]) hP hD hS hA [0, 1] rfl rfl (by decide)
  refine va_callv (va_runV (C := "ValueBench$Text") (As := [.int y7]) (rest := []) ⟨hx, hb, hml, hown, htx⟩ (cT_add_3 l hl9 D cT aK aV H.size a0 a1 y7 v3 (upd (upd (upd f4 0 (vp_nar .byte y2)) 1 (vp_nar .byte y4)) 2 (vp_nar .byte y6))) ⟨callB_of 1 htx (xw_goodC kw_1_207) rfl rfl rfl (htx _ kw_1_2) (htx _ kw_1_204) ⟨by decide, by decide, by decide +kernel⟩ ⟨Nat.le_of_ble_eq_true rfl, Nat.le_of_ble_eq_true rfl⟩, (htx _ kw_1_205), (htx _ kw_1_206)⟩ ⟨xPre_blind, va_recv hK hP (ci := 1) rfl (q0 := 0) rfl, (fun U hU hW => ⟨rfl, xPre_of hZ hS hFc hPc hDc hK U hU hW⟩)⟩ rfl rfl hl.1 rfl (lv_room (Nat.le_of_ble_eq_true rfl)) dT_addInt_11 ⟨Nat.le_of_ble_eq_true rfl, Nat.le_of_ble_eq_true rfl⟩) hS (fun q _ h => hFc q h) hFc (fun u9 t H1 locs ht hvm hr9 hB hz1 hk1 hS => ?_)
  obtain ⟨y8, hP1, hK1, hD1⟩ := hB
  rw [ht] at hP1
  obtain ⟨hP, hD⟩ := xjoin (W := [(a0, .inr (1, [.ref a1, .int 4, v3])), (a1, .inl (cT 0, 4096, .inl (upd (upd (upd (upd f4 0 (vp_nar .byte y2)) 1 (vp_nar .byte y4)) 2 (vp_nar .byte y6)) 3 (vp_nar .byte y8))))]) hP hD [0, 1] [] 0 rfl rfl (by decide) (by decide) hk1 hFc hP1 hD1
  generalize H1 = H at hP hS ⊢
  refine lv_iinc (v := (-8)) (lv' := [(2, .int (-8)), (0, .ref a0), (1, .int x2)]) hx hb dT_addInt_14 hl (k := 0) rfl (by decide) (by decide) rfl (fun ls hl => ?_)
  refine lv_goto (tgt := 3) hx hb dT_addInt_17 (by decide) ?_
  refine lv_iload_n hx hb dT_addInt_3 rfl (lv_at hl 0 rfl) ?_
  refine lv_if_lt (tgt := 20) hx hb dT_addInt_4 (by decide) (fun _ => ?_) (fun h => ((by revert h; decide : False)).elim)
  obtain ⟨hP9, hD9⟩ := xsub (wc := [(a0, .inr (1, [.ref a1, .int 4, v3])), (a1, .inl (cT 0, 4096, .inl (upd (upd (upd (upd f4 0 (vp_nar .byte y2)) 1 (vp_nar .byte y4)) 2 (vp_nar .byte y6)) 3 (vp_nar .byte y8))))]) hP hD [0, 1] rfl rfl (by decide)
  refine W.widen (k := 0) (n := 0) (Nat.le_of_ble_eq_true rfl) (Nat.le_of_ble_eq_true rfl) ?_
  exact W.vret hx hb hr (fun t ht hW => ⟨⟨(), rfl, trivial, y2, y4, y6, y8, by rw [ht]; exact hP9, va_K.moved hW.alike hK, hD9⟩, hS.F ht⟩) hS.2.2 dT_addInt_20
set_option maxHeartbeats 400000000 in
set_option maxRecDepth 100000 in
theorem cT_add_4 (l : Launch) (hl9 : l.stackTraces = false) (D : va_G) (cT : Nat → ClassId) (aK aV : Nat → Nat) (sz : Nat) (a0 : Nat) (a1 : Nat) (x2 : Int32) (v3 : Value) (f4 : Nat → Int32) : xMet l yT_add wyT_add 0 0 0 0 D cT aK aV sz [.ref a0, .int x2] [(a0, .inr (1, [.ref a1, .int 4, v3])), (a1, .inl (cT 0, 4096, .inl f4))] (fun A => va_Qv (fun _ : Unit => True) (fun _ t => ∃ (y1 : Int32), xB D xcl cT A [(a0, .inr (1, [.ref a1, .int 5, v3])), (a1, .inl (cT 0, 4096, .inl (upd f4 4 (vp_nar .byte y1))))] t) A) := by
  refine Met.ofW (cc := prog_11_method_8_code) (maxL := 2) (ret := none) (by decide) rfl ?_
  intro p e s m args below meth c s₁ B hml hv
  obtain ⟨rfl, hsz, hZ, hP, hK, hD0⟩ := hv
  have hx := B.exec
  have hb := B.bytes
  have hr := B.returns
  have hts := atoms_spec (ws := wyT_add) B.pre
  have htx := fun w h => hts w (List.mem_cons_of_mem _ h)
  have hown : s.vm.findClass "ValueBench$Text" = some m.cls := findClass_of_methodNamed B.named
  have hlocks := B.notSynchronized
  subst hsz
  have hD := hD0.self (sz := s.heap.size)
  generalize hAe : va_A [(a0, .inr (1, [.ref a1, .int 4, v3])), (a1, .inl (cT 0, 4096, .inl f4))] s.heap.size = A at hD hZ ⊢
  have hA : ∀ q : Nat, s.heap.size ≤ q → A q := fun q h => by rw [← hAe]; exact Or.inr h
  have hS : va_S A s.heap s.heap [] := va_S.rf
  have hP : va_P D xcl [(a0, .inr (1, [.ref a1, .int 4, v3])), (a1, .inl (cT 0, 4096, .inl f4))] s.heap := hP
  have hl := lv_entry ([.ref a0, .int x2]) (n := 2) (Nat.le_of_ble_eq_true rfl)
  rw [lg_entry_eq]
  generalize (lg_sl ([.ref a0, .int x2]) ++ List.replicate (2 - (lg_sl ([.ref a0, .int x2])).length) Slot.unset).toArray = ls at hl ⊢
  have hl : lv_has ls 2 [(0, .ref a0), (1, .int x2)] := hl
  refine lv_aload_n hx hb dT_add_0 rfl (lv_at hl 0 rfl) ?_
  refine va_get (D := D) (ci := 1) (v := .int 4) (C := "ValueBench$Text") (T := TT) (N := 3) hx hb htx inT hown hK hP 0 rfl rfl 1 (by decide) (htx _ kw_1_44) (fun _ h9 => h9) rfl dT_add_1 ?_
  refine lv_sipush (v := 4096) hx hb dT_add_4 (by decide) ?_
  refine lv_icmp_lt (tgt := 16) hx hb dT_add_7 (by decide) (fun _ => ?_) (fun h => ((by revert h; decide : False)).elim)
  refine lv_aload_n hx hb dT_add_16 rfl (lv_at hl 0 rfl) ?_
  refine va_get (D := D) (ci := 1) (v := .ref a1) (C := "ValueBench$Text") (T := TT) (N := 3) hx hb htx inT hown hK hP 0 rfl rfl 0 (by decide) (htx _ kw_1_43) (fun _ h9 => h9) rfl dT_add_17 ?_
  refine lv_aload_n hx hb dT_add_20 rfl (lv_at hl 0 rfl) ?_
  refine va_get (D := D) (ci := 1) (v := .int 4) (C := "ValueBench$Text") (T := TT) (N := 3) hx hb htx inT hown hK hP 0 rfl rfl 1 (by decide) (htx _ kw_1_44) (fun _ h9 => h9) rfl dT_add_21 ?_
  refine lv_iload_n hx hb dT_add_24 rfl (lv_at hl 1 rfl) ?_
  refine lv_i2b hx hb dT_add_25 rfl ?_
  refine lv_topi (fun y1 ey1 => ?_)
  refine va_bast hx hb hK hP hD hS 1 0 rfl rfl (show ¬ ((4 : Int32) < 0 ∨ 4096 ≤ (4 : Int32).toNatClampNeg) by decide) dT_add_26 (fun H locs hP hD hS => ?_)
  obtain ⟨hP, hD⟩ : xPD D xcl A [(a0, .inr (1, [.ref a1, .int 4, v3])), (a1, .inl (cT 0, 4096, .inl (upd f4 4 (vp_nar .byte y1))))] H := ⟨hP, hD⟩
  refine lv_aload_n hx hb dT_add_27 rfl (lv_at hl 0 rfl) ?_
  refine lv_dup hx hb dT_add_28 rfl ?_
  refine va_get (D := D) (ci := 1) (v := .int 4) (C := "ValueBench$Text") (T := TT) (N := 3) hx hb htx inT hown hK hP 0 rfl rfl 1 (by decide) (htx _ kw_1_44) (fun _ h9 => h9) rfl dT_add_29 ?_
  refine lv_iconst (v := 1) hx hb dT_add_32 (by decide) ?_
  refine lv_iadd hx hb dT_add_33 ?_
  refine W.eq (g2 := F0 m 34 ls [.int 5, .ref a0]) rfl ?_
  refine va_put (D := D) (ci := 1) (v := .int 5) (ty := .int) (C := "ValueBench$Text") (T := TT) (N := 3) hx hb htx inT tyT tyT_ok nmT hown hK hP hD hS 0 rfl rfl 1 (by decide) (htx _ kw_1_44) (fun _ h9 => h9) rfl (by decide +kernel) rfl rfl (Nat.le_of_ble_eq_true rfl) dT_add_34 (fun H locs hP hD hS => ?_)
  obtain ⟨hP, hD⟩ : xPD D xcl A [(a0, .inr (1, [.ref a1, .int 5, v3])), (a1, .inl (cT 0, 4096, .inl (upd f4 4 (vp_nar .byte y1))))] H := ⟨hP, hD⟩
  obtain ⟨hP9, hD9⟩ := xsub (wc := [(a0, .inr (1, [.ref a1, .int 5, v3])), (a1, .inl (cT 0, 4096, .inl (upd f4 4 (vp_nar .byte y1))))]) hP hD [0, 1] rfl rfl (by decide)
  refine W.widen (k := 0) (n := 0) (Nat.le_of_ble_eq_true rfl) (Nat.le_of_ble_eq_true rfl) ?_
  exact W.vret hx hb hr (fun t ht hW => ⟨⟨(), rfl, trivial, y1, by rw [ht]; exact hP9, va_K.moved hW.alike hK, hD9⟩, hS.F ht⟩) hS.2.2 dT_add_37
set_option maxHeartbeats 400000000 in
set_option maxRecDepth 100000 in
theorem cT_add_5 (l : Launch) (hl9 : l.stackTraces = false) (D : va_G) (cT : Nat → ClassId) (aK aV : Nat → Nat) (sz : Nat) (a0 : Nat) (a1 : Nat) (x2 : Int32) (v3 : Value) (f4 : Nat → Int32) : xMet l yT_add wyT_add 0 0 0 0 D cT aK aV sz [.ref a0, .int x2] [(a0, .inr (1, [.ref a1, .int 5, v3])), (a1, .inl (cT 0, 4096, .inl f4))] (fun A => va_Qv (fun _ : Unit => True) (fun _ t => ∃ (y1 : Int32), xB D xcl cT A [(a0, .inr (1, [.ref a1, .int 6, v3])), (a1, .inl (cT 0, 4096, .inl (upd f4 5 (vp_nar .byte y1))))] t) A) := by
  refine Met.ofW (cc := prog_11_method_8_code) (maxL := 2) (ret := none) (by decide) rfl ?_
  intro p e s m args below meth c s₁ B hml hv
  obtain ⟨rfl, hsz, hZ, hP, hK, hD0⟩ := hv
  have hx := B.exec
  have hb := B.bytes
  have hr := B.returns
  have hts := atoms_spec (ws := wyT_add) B.pre
  have htx := fun w h => hts w (List.mem_cons_of_mem _ h)
  have hown : s.vm.findClass "ValueBench$Text" = some m.cls := findClass_of_methodNamed B.named
  have hlocks := B.notSynchronized
  subst hsz
  have hD := hD0.self (sz := s.heap.size)
  generalize hAe : va_A [(a0, .inr (1, [.ref a1, .int 5, v3])), (a1, .inl (cT 0, 4096, .inl f4))] s.heap.size = A at hD hZ ⊢
  have hA : ∀ q : Nat, s.heap.size ≤ q → A q := fun q h => by rw [← hAe]; exact Or.inr h
  have hS : va_S A s.heap s.heap [] := va_S.rf
  have hP : va_P D xcl [(a0, .inr (1, [.ref a1, .int 5, v3])), (a1, .inl (cT 0, 4096, .inl f4))] s.heap := hP
  have hl := lv_entry ([.ref a0, .int x2]) (n := 2) (Nat.le_of_ble_eq_true rfl)
  rw [lg_entry_eq]
  generalize (lg_sl ([.ref a0, .int x2]) ++ List.replicate (2 - (lg_sl ([.ref a0, .int x2])).length) Slot.unset).toArray = ls at hl ⊢
  have hl : lv_has ls 2 [(0, .ref a0), (1, .int x2)] := hl
  refine lv_aload_n hx hb dT_add_0 rfl (lv_at hl 0 rfl) ?_
  refine va_get (D := D) (ci := 1) (v := .int 5) (C := "ValueBench$Text") (T := TT) (N := 3) hx hb htx inT hown hK hP 0 rfl rfl 1 (by decide) (htx _ kw_1_44) (fun _ h9 => h9) rfl dT_add_1 ?_
  refine lv_sipush (v := 4096) hx hb dT_add_4 (by decide) ?_
  refine lv_icmp_lt (tgt := 16) hx hb dT_add_7 (by decide) (fun _ => ?_) (fun h => ((by revert h; decide : False)).elim)
  refine lv_aload_n hx hb dT_add_16 rfl (lv_at hl 0 rfl) ?_
  refine va_get (D := D) (ci := 1) (v := .ref a1) (C := "ValueBench$Text") (T := TT) (N := 3) hx hb htx inT hown hK hP 0 rfl rfl 0 (by decide) (htx _ kw_1_43) (fun _ h9 => h9) rfl dT_add_17 ?_
  refine lv_aload_n hx hb dT_add_20 rfl (lv_at hl 0 rfl) ?_
  refine va_get (D := D) (ci := 1) (v := .int 5) (C := "ValueBench$Text") (T := TT) (N := 3) hx hb htx inT hown hK hP 0 rfl rfl 1 (by decide) (htx _ kw_1_44) (fun _ h9 => h9) rfl dT_add_21 ?_
  refine lv_iload_n hx hb dT_add_24 rfl (lv_at hl 1 rfl) ?_
  refine lv_i2b hx hb dT_add_25 rfl ?_
  refine lv_topi (fun y1 ey1 => ?_)
  refine va_bast hx hb hK hP hD hS 1 0 rfl rfl (show ¬ ((5 : Int32) < 0 ∨ 4096 ≤ (5 : Int32).toNatClampNeg) by decide) dT_add_26 (fun H locs hP hD hS => ?_)
  obtain ⟨hP, hD⟩ : xPD D xcl A [(a0, .inr (1, [.ref a1, .int 5, v3])), (a1, .inl (cT 0, 4096, .inl (upd f4 5 (vp_nar .byte y1))))] H := ⟨hP, hD⟩
  refine lv_aload_n hx hb dT_add_27 rfl (lv_at hl 0 rfl) ?_
  refine lv_dup hx hb dT_add_28 rfl ?_
  refine va_get (D := D) (ci := 1) (v := .int 5) (C := "ValueBench$Text") (T := TT) (N := 3) hx hb htx inT hown hK hP 0 rfl rfl 1 (by decide) (htx _ kw_1_44) (fun _ h9 => h9) rfl dT_add_29 ?_
  refine lv_iconst (v := 1) hx hb dT_add_32 (by decide) ?_
  refine lv_iadd hx hb dT_add_33 ?_
  refine W.eq (g2 := F0 m 34 ls [.int 6, .ref a0]) rfl ?_
  refine va_put (D := D) (ci := 1) (v := .int 6) (ty := .int) (C := "ValueBench$Text") (T := TT) (N := 3) hx hb htx inT tyT tyT_ok nmT hown hK hP hD hS 0 rfl rfl 1 (by decide) (htx _ kw_1_44) (fun _ h9 => h9) rfl (by decide +kernel) rfl rfl (Nat.le_of_ble_eq_true rfl) dT_add_34 (fun H locs hP hD hS => ?_)
  obtain ⟨hP, hD⟩ : xPD D xcl A [(a0, .inr (1, [.ref a1, .int 6, v3])), (a1, .inl (cT 0, 4096, .inl (upd f4 5 (vp_nar .byte y1))))] H := ⟨hP, hD⟩
  obtain ⟨hP9, hD9⟩ := xsub (wc := [(a0, .inr (1, [.ref a1, .int 6, v3])), (a1, .inl (cT 0, 4096, .inl (upd f4 5 (vp_nar .byte y1))))]) hP hD [0, 1] rfl rfl (by decide)
  refine W.widen (k := 0) (n := 0) (Nat.le_of_ble_eq_true rfl) (Nat.le_of_ble_eq_true rfl) ?_
  exact W.vret hx hb hr (fun t ht hW => ⟨⟨(), rfl, trivial, y1, by rw [ht]; exact hP9, va_K.moved hW.alike hK, hD9⟩, hS.F ht⟩) hS.2.2 dT_add_37
set_option maxHeartbeats 400000000 in
set_option maxRecDepth 100000 in
theorem cT_add_6 (l : Launch) (hl9 : l.stackTraces = false) (D : va_G) (cT : Nat → ClassId) (aK aV : Nat → Nat) (sz : Nat) (a0 : Nat) (a1 : Nat) (x2 : Int32) (v3 : Value) (f4 : Nat → Int32) : xMet l yT_add wyT_add 0 0 0 0 D cT aK aV sz [.ref a0, .int x2] [(a0, .inr (1, [.ref a1, .int 6, v3])), (a1, .inl (cT 0, 4096, .inl f4))] (fun A => va_Qv (fun _ : Unit => True) (fun _ t => ∃ (y1 : Int32), xB D xcl cT A [(a0, .inr (1, [.ref a1, .int 7, v3])), (a1, .inl (cT 0, 4096, .inl (upd f4 6 (vp_nar .byte y1))))] t) A) := by
  refine Met.ofW (cc := prog_11_method_8_code) (maxL := 2) (ret := none) (by decide) rfl ?_
  intro p e s m args below meth c s₁ B hml hv
  obtain ⟨rfl, hsz, hZ, hP, hK, hD0⟩ := hv
  have hx := B.exec
  have hb := B.bytes
  have hr := B.returns
  have hts := atoms_spec (ws := wyT_add) B.pre
  have htx := fun w h => hts w (List.mem_cons_of_mem _ h)
  have hown : s.vm.findClass "ValueBench$Text" = some m.cls := findClass_of_methodNamed B.named
  have hlocks := B.notSynchronized
  subst hsz
  have hD := hD0.self (sz := s.heap.size)
  generalize hAe : va_A [(a0, .inr (1, [.ref a1, .int 6, v3])), (a1, .inl (cT 0, 4096, .inl f4))] s.heap.size = A at hD hZ ⊢
  have hA : ∀ q : Nat, s.heap.size ≤ q → A q := fun q h => by rw [← hAe]; exact Or.inr h
  have hS : va_S A s.heap s.heap [] := va_S.rf
  have hP : va_P D xcl [(a0, .inr (1, [.ref a1, .int 6, v3])), (a1, .inl (cT 0, 4096, .inl f4))] s.heap := hP
  have hl := lv_entry ([.ref a0, .int x2]) (n := 2) (Nat.le_of_ble_eq_true rfl)
  rw [lg_entry_eq]
  generalize (lg_sl ([.ref a0, .int x2]) ++ List.replicate (2 - (lg_sl ([.ref a0, .int x2])).length) Slot.unset).toArray = ls at hl ⊢
  have hl : lv_has ls 2 [(0, .ref a0), (1, .int x2)] := hl
  refine lv_aload_n hx hb dT_add_0 rfl (lv_at hl 0 rfl) ?_
  refine va_get (D := D) (ci := 1) (v := .int 6) (C := "ValueBench$Text") (T := TT) (N := 3) hx hb htx inT hown hK hP 0 rfl rfl 1 (by decide) (htx _ kw_1_44) (fun _ h9 => h9) rfl dT_add_1 ?_
  refine lv_sipush (v := 4096) hx hb dT_add_4 (by decide) ?_
  refine lv_icmp_lt (tgt := 16) hx hb dT_add_7 (by decide) (fun _ => ?_) (fun h => ((by revert h; decide : False)).elim)
  refine lv_aload_n hx hb dT_add_16 rfl (lv_at hl 0 rfl) ?_
  refine va_get (D := D) (ci := 1) (v := .ref a1) (C := "ValueBench$Text") (T := TT) (N := 3) hx hb htx inT hown hK hP 0 rfl rfl 0 (by decide) (htx _ kw_1_43) (fun _ h9 => h9) rfl dT_add_17 ?_
  refine lv_aload_n hx hb dT_add_20 rfl (lv_at hl 0 rfl) ?_
  refine va_get (D := D) (ci := 1) (v := .int 6) (C := "ValueBench$Text") (T := TT) (N := 3) hx hb htx inT hown hK hP 0 rfl rfl 1 (by decide) (htx _ kw_1_44) (fun _ h9 => h9) rfl dT_add_21 ?_
  refine lv_iload_n hx hb dT_add_24 rfl (lv_at hl 1 rfl) ?_
  refine lv_i2b hx hb dT_add_25 rfl ?_
  refine lv_topi (fun y1 ey1 => ?_)
  refine va_bast hx hb hK hP hD hS 1 0 rfl rfl (show ¬ ((6 : Int32) < 0 ∨ 4096 ≤ (6 : Int32).toNatClampNeg) by decide) dT_add_26 (fun H locs hP hD hS => ?_)
  obtain ⟨hP, hD⟩ : xPD D xcl A [(a0, .inr (1, [.ref a1, .int 6, v3])), (a1, .inl (cT 0, 4096, .inl (upd f4 6 (vp_nar .byte y1))))] H := ⟨hP, hD⟩
  refine lv_aload_n hx hb dT_add_27 rfl (lv_at hl 0 rfl) ?_
  refine lv_dup hx hb dT_add_28 rfl ?_
  refine va_get (D := D) (ci := 1) (v := .int 6) (C := "ValueBench$Text") (T := TT) (N := 3) hx hb htx inT hown hK hP 0 rfl rfl 1 (by decide) (htx _ kw_1_44) (fun _ h9 => h9) rfl dT_add_29 ?_
  refine lv_iconst (v := 1) hx hb dT_add_32 (by decide) ?_
  refine lv_iadd hx hb dT_add_33 ?_
  refine W.eq (g2 := F0 m 34 ls [.int 7, .ref a0]) rfl ?_
  refine va_put (D := D) (ci := 1) (v := .int 7) (ty := .int) (C := "ValueBench$Text") (T := TT) (N := 3) hx hb htx inT tyT tyT_ok nmT hown hK hP hD hS 0 rfl rfl 1 (by decide) (htx _ kw_1_44) (fun _ h9 => h9) rfl (by decide +kernel) rfl rfl (Nat.le_of_ble_eq_true rfl) dT_add_34 (fun H locs hP hD hS => ?_)
  obtain ⟨hP, hD⟩ : xPD D xcl A [(a0, .inr (1, [.ref a1, .int 7, v3])), (a1, .inl (cT 0, 4096, .inl (upd f4 6 (vp_nar .byte y1))))] H := ⟨hP, hD⟩
  obtain ⟨hP9, hD9⟩ := xsub (wc := [(a0, .inr (1, [.ref a1, .int 7, v3])), (a1, .inl (cT 0, 4096, .inl (upd f4 6 (vp_nar .byte y1))))]) hP hD [0, 1] rfl rfl (by decide)
  refine W.widen (k := 0) (n := 0) (Nat.le_of_ble_eq_true rfl) (Nat.le_of_ble_eq_true rfl) ?_
  exact W.vret hx hb hr (fun t ht hW => ⟨⟨(), rfl, trivial, y1, by rw [ht]; exact hP9, va_K.moved hW.alike hK, hD9⟩, hS.F ht⟩) hS.2.2 dT_add_37
set_option maxHeartbeats 400000000 in
set_option maxRecDepth 100000 in
theorem cT_add_7 (l : Launch) (hl9 : l.stackTraces = false) (D : va_G) (cT : Nat → ClassId) (aK aV : Nat → Nat) (sz : Nat) (a0 : Nat) (a1 : Nat) (x2 : Int32) (v3 : Value) (f4 : Nat → Int32) : xMet l yT_add wyT_add 0 0 0 0 D cT aK aV sz [.ref a0, .int x2] [(a0, .inr (1, [.ref a1, .int 7, v3])), (a1, .inl (cT 0, 4096, .inl f4))] (fun A => va_Qv (fun _ : Unit => True) (fun _ t => ∃ (y1 : Int32), xB D xcl cT A [(a0, .inr (1, [.ref a1, .int 8, v3])), (a1, .inl (cT 0, 4096, .inl (upd f4 7 (vp_nar .byte y1))))] t) A) := by
  refine Met.ofW (cc := prog_11_method_8_code) (maxL := 2) (ret := none) (by decide) rfl ?_
  intro p e s m args below meth c s₁ B hml hv
  obtain ⟨rfl, hsz, hZ, hP, hK, hD0⟩ := hv
  have hx := B.exec
  have hb := B.bytes
  have hr := B.returns
  have hts := atoms_spec (ws := wyT_add) B.pre
  have htx := fun w h => hts w (List.mem_cons_of_mem _ h)
  have hown : s.vm.findClass "ValueBench$Text" = some m.cls := findClass_of_methodNamed B.named
  have hlocks := B.notSynchronized
  subst hsz
  have hD := hD0.self (sz := s.heap.size)
  generalize hAe : va_A [(a0, .inr (1, [.ref a1, .int 7, v3])), (a1, .inl (cT 0, 4096, .inl f4))] s.heap.size = A at hD hZ ⊢
  have hA : ∀ q : Nat, s.heap.size ≤ q → A q := fun q h => by rw [← hAe]; exact Or.inr h
  have hS : va_S A s.heap s.heap [] := va_S.rf
  have hP : va_P D xcl [(a0, .inr (1, [.ref a1, .int 7, v3])), (a1, .inl (cT 0, 4096, .inl f4))] s.heap := hP
  have hl := lv_entry ([.ref a0, .int x2]) (n := 2) (Nat.le_of_ble_eq_true rfl)
  rw [lg_entry_eq]
  generalize (lg_sl ([.ref a0, .int x2]) ++ List.replicate (2 - (lg_sl ([.ref a0, .int x2])).length) Slot.unset).toArray = ls at hl ⊢
  have hl : lv_has ls 2 [(0, .ref a0), (1, .int x2)] := hl
  refine lv_aload_n hx hb dT_add_0 rfl (lv_at hl 0 rfl) ?_
  refine va_get (D := D) (ci := 1) (v := .int 7) (C := "ValueBench$Text") (T := TT) (N := 3) hx hb htx inT hown hK hP 0 rfl rfl 1 (by decide) (htx _ kw_1_44) (fun _ h9 => h9) rfl dT_add_1 ?_
  refine lv_sipush (v := 4096) hx hb dT_add_4 (by decide) ?_
  refine lv_icmp_lt (tgt := 16) hx hb dT_add_7 (by decide) (fun _ => ?_) (fun h => ((by revert h; decide : False)).elim)
  refine lv_aload_n hx hb dT_add_16 rfl (lv_at hl 0 rfl) ?_
  refine va_get (D := D) (ci := 1) (v := .ref a1) (C := "ValueBench$Text") (T := TT) (N := 3) hx hb htx inT hown hK hP 0 rfl rfl 0 (by decide) (htx _ kw_1_43) (fun _ h9 => h9) rfl dT_add_17 ?_
  refine lv_aload_n hx hb dT_add_20 rfl (lv_at hl 0 rfl) ?_
  refine va_get (D := D) (ci := 1) (v := .int 7) (C := "ValueBench$Text") (T := TT) (N := 3) hx hb htx inT hown hK hP 0 rfl rfl 1 (by decide) (htx _ kw_1_44) (fun _ h9 => h9) rfl dT_add_21 ?_
  refine lv_iload_n hx hb dT_add_24 rfl (lv_at hl 1 rfl) ?_
  refine lv_i2b hx hb dT_add_25 rfl ?_
  refine lv_topi (fun y1 ey1 => ?_)
  refine va_bast hx hb hK hP hD hS 1 0 rfl rfl (show ¬ ((7 : Int32) < 0 ∨ 4096 ≤ (7 : Int32).toNatClampNeg) by decide) dT_add_26 (fun H locs hP hD hS => ?_)
  obtain ⟨hP, hD⟩ : xPD D xcl A [(a0, .inr (1, [.ref a1, .int 7, v3])), (a1, .inl (cT 0, 4096, .inl (upd f4 7 (vp_nar .byte y1))))] H := ⟨hP, hD⟩
  refine lv_aload_n hx hb dT_add_27 rfl (lv_at hl 0 rfl) ?_
  refine lv_dup hx hb dT_add_28 rfl ?_
  refine va_get (D := D) (ci := 1) (v := .int 7) (C := "ValueBench$Text") (T := TT) (N := 3) hx hb htx inT hown hK hP 0 rfl rfl 1 (by decide) (htx _ kw_1_44) (fun _ h9 => h9) rfl dT_add_29 ?_
  refine lv_iconst (v := 1) hx hb dT_add_32 (by decide) ?_
  refine lv_iadd hx hb dT_add_33 ?_
  refine W.eq (g2 := F0 m 34 ls [.int 8, .ref a0]) rfl ?_
  refine va_put (D := D) (ci := 1) (v := .int 8) (ty := .int) (C := "ValueBench$Text") (T := TT) (N := 3) hx hb htx inT tyT tyT_ok nmT hown hK hP hD hS 0 rfl rfl 1 (by decide) (htx _ kw_1_44) (fun _ h9 => h9) rfl (by decide +kernel) rfl rfl (Nat.le_of_ble_eq_true rfl) dT_add_34 (fun H locs hP hD hS => ?_)
  obtain ⟨hP, hD⟩ : xPD D xcl A [(a0, .inr (1, [.ref a1, .int 8, v3])), (a1, .inl (cT 0, 4096, .inl (upd f4 7 (vp_nar .byte y1))))] H := ⟨hP, hD⟩
  obtain ⟨hP9, hD9⟩ := xsub (wc := [(a0, .inr (1, [.ref a1, .int 8, v3])), (a1, .inl (cT 0, 4096, .inl (upd f4 7 (vp_nar .byte y1))))]) hP hD [0, 1] rfl rfl (by decide)
  refine W.widen (k := 0) (n := 0) (Nat.le_of_ble_eq_true rfl) (Nat.le_of_ble_eq_true rfl) ?_
  exact W.vret hx hb hr (fun t ht hW => ⟨⟨(), rfl, trivial, y1, by rw [ht]; exact hP9, va_K.moved hW.alike hK, hD9⟩, hS.F ht⟩) hS.2.2 dT_add_37
set_option maxHeartbeats 400000000 in
set_option maxRecDepth 100000 in
theorem cT_addInt_1 (l : Launch) (hl9 : l.stackTraces = false) (D : va_G) (cT : Nat → ClassId) (aK aV : Nat → Nat) (sz : Nat) (a0 : Nat) (a1 : Nat) (x2 : Int32) (v3 : Value) (f4 : Nat → Int32) : xMet l yT_addInt wyT_addInt 1 0 0 21 D cT aK aV sz [.ref a0, .int x2] [(a0, .inr (1, [.ref a1, .int 4, v3])), (a1, .inl (cT 0, 4096, .inl f4))] (fun A => va_Qv (fun _ : Unit => True) (fun _ t => ∃ (y2 : Int32) (y4 : Int32) (y6 : Int32) (y8 : Int32), xB D xcl cT A [(a0, .inr (1, [.ref a1, .int 8, v3])), (a1, .inl (cT 0, 4096, .inl (upd (upd (upd (upd f4 4 (vp_nar .byte y2)) 5 (vp_nar .byte y4)) 6 (vp_nar .byte y6)) 7 (vp_nar .byte y8))))] t) A) := by
  refine Met.ofW (cc := prog_11_method_9_code) (maxL := 3) (ret := none) (by decide) rfl ?_
  intro p e s m args below meth c s₁ B hml hv
  obtain ⟨rfl, hsz, hZ, hP, hK, hD0⟩ := hv
  have hx := B.exec
  have hb := B.bytes
  have hr := B.returns
  have hts := atoms_spec (ws := wyT_addInt) B.pre
  have htx := fun w h => hts w (List.mem_cons_of_mem _ h)
  have hown : s.vm.findClass "ValueBench$Text" = some m.cls := findClass_of_methodNamed B.named
  have hlocks := B.notSynchronized
  subst hsz
  have hD := hD0.self (sz := s.heap.size)
  generalize hAe : va_A [(a0, .inr (1, [.ref a1, .int 4, v3])), (a1, .inl (cT 0, 4096, .inl f4))] s.heap.size = A at hD hZ ⊢
  have hA : ∀ q : Nat, s.heap.size ≤ q → A q := fun q h => by rw [← hAe]; exact Or.inr h
  have hS : va_S A s.heap s.heap [] := va_S.rf
  have hP : va_P D xcl [(a0, .inr (1, [.ref a1, .int 4, v3])), (a1, .inl (cT 0, 4096, .inl f4))] s.heap := hP
  have hl := lv_entry ([.ref a0, .int x2]) (n := 3) (Nat.le_of_ble_eq_true rfl)
  rw [lg_entry_eq]
  generalize (lg_sl ([.ref a0, .int x2]) ++ List.replicate (3 - (lg_sl ([.ref a0, .int x2])).length) Slot.unset).toArray = ls at hl ⊢
  have hl : lv_has ls 3 [(0, .ref a0), (1, .int x2)] := hl
  refine lv_bipush (v := 24) hx hb dT_addInt_0 (by decide) ?_
  refine lv_istore_n (lv' := [(2, .int 24), (0, .ref a0), (1, .int x2)]) hx hb dT_addInt_2 rfl hl (by decide) rfl (fun ls hl => ?_)
  refine lv_iload_n hx hb dT_addInt_3 rfl (lv_at hl 0 rfl) ?_
  refine lv_if_lt (tgt := 20) hx hb dT_addInt_4 (by decide) (fun h => ((by revert h; decide : False)).elim) (fun _ => ?_)
  refine lv_aload_n hx hb dT_addInt_7 rfl (lv_at hl 1 rfl) ?_
  refine lv_iload_n hx hb dT_addInt_8 rfl (lv_at hl 2 rfl) ?_
  refine lv_iload_n hx hb dT_addInt_9 rfl (lv_at hl 0 rfl) ?_
  refine lv_ishr hx hb dT_addInt_10 ?_
  refine lv_topi (fun y1 ey1 => ?_)
  obtain ⟨hPc, hDc, hFc⟩ := xcut (wc := [(a0, .inr (1, [.ref a1, .int 4, v3])), (a1, .inl (cT 0, 4096, .inl f4))]) hP hD hS hA [0, 1] rfl rfl (by decide)
  refine va_callv (va_runV (C := "ValueBench$Text") (As := [.int y1]) (rest := []) ⟨hx, hb, hml, hown, htx⟩ (cT_add_4 l hl9 D cT aK aV s.heap.size a0 a1 y1 v3 f4) ⟨callB_of 1 htx (xw_goodC kw_1_207) rfl rfl rfl (htx _ kw_1_2) (htx _ kw_1_204) ⟨by decide, by decide, by decide +kernel⟩ ⟨Nat.le_of_ble_eq_true rfl, Nat.le_of_ble_eq_true rfl⟩, (htx _ kw_1_205), (htx _ kw_1_206)⟩ ⟨xPre_blind, va_recv hK hP (ci := 1) rfl (q0 := 0) rfl, (fun U hU hW => ⟨rfl, xPre_of hZ hS hFc hPc hDc hK U hU hW⟩)⟩ rfl rfl hl.1 rfl (lv_room (Nat.le_of_ble_eq_true rfl)) dT_addInt_11 ⟨Nat.le_of_ble_eq_true rfl, Nat.le_of_ble_eq_true rfl⟩) hS (fun q _ h => hFc q h) hFc (fun u9 t H1 locs ht hvm hr9 hB hz1 hk1 hS => ?_)
  obtain ⟨y2, hP1, hK1, hD1⟩ := hB
  rw [ht] at hP1
  obtain ⟨hP, hD⟩ := xjoin (W := [(a0, .inr (1, [.ref a1, .int 5, v3])), (a1, .inl (cT 0, 4096, .inl (upd f4 4 (vp_nar .byte y2))))]) hP hD [0, 1] [] 0 rfl rfl (by decide) (by decide) hk1 hFc hP1 hD1
  generalize H1 = H at hP hS ⊢
  refine lv_iinc (v := 16) (lv' := [(2, .int 16), (0, .ref a0), (1, .int x2)]) hx hb dT_addInt_14 hl (k := 0) rfl (by decide) (by decide) rfl (fun ls hl => ?_)
  refine lv_goto (tgt := 3) hx hb dT_addInt_17 (by decide) ?_
  refine lv_iload_n hx hb dT_addInt_3 rfl (lv_at hl 0 rfl) ?_
  refine lv_if_lt (tgt := 20) hx hb dT_addInt_4 (by decide) (fun h => ((by revert h; decide : False)).elim) (fun _ => ?_)
  refine lv_aload_n hx hb dT_addInt_7 rfl (lv_at hl 1 rfl) ?_
  refine lv_iload_n hx hb dT_addInt_8 rfl (lv_at hl 2 rfl) ?_
  refine lv_iload_n hx hb dT_addInt_9 rfl (lv_at hl 0 rfl) ?_
  refine lv_ishr hx hb dT_addInt_10 ?_
  refine lv_topi (fun y3 ey3 => ?_)
  obtain ⟨hPc, hDc, hFc⟩ := xcut (wc := [(a0, .inr (1, [.ref a1, .int 5, v3])), (a1, .inl (cT 0, 4096, .inl (upd f4 4 (vp_nar .byte y2))))]) hP hD hS hA [0, 1] rfl rfl (by decide)
  refine va_callv (va_runV (C := "ValueBench$Text") (As := [.int y3]) (rest := []) ⟨hx, hb, hml, hown, htx⟩ (cT_add_5 l hl9 D cT aK aV H.size a0 a1 y3 v3 (upd f4 4 (vp_nar .byte y2))) ⟨callB_of 1 htx (xw_goodC kw_1_207) rfl rfl rfl (htx _ kw_1_2) (htx _ kw_1_204) ⟨by decide, by decide, by decide +kernel⟩ ⟨Nat.le_of_ble_eq_true rfl, Nat.le_of_ble_eq_true rfl⟩, (htx _ kw_1_205), (htx _ kw_1_206)⟩ ⟨xPre_blind, va_recv hK hP (ci := 1) rfl (q0 := 0) rfl, (fun U hU hW => ⟨rfl, xPre_of hZ hS hFc hPc hDc hK U hU hW⟩)⟩ rfl rfl hl.1 rfl (lv_room (Nat.le_of_ble_eq_true rfl)) dT_addInt_11 ⟨Nat.le_of_ble_eq_true rfl, Nat.le_of_ble_eq_true rfl⟩) hS (fun q _ h => hFc q h) hFc (fun u9 t H1 locs ht hvm hr9 hB hz1 hk1 hS => ?_)
  obtain ⟨y4, hP1, hK1, hD1⟩ := hB
  rw [ht] at hP1
  obtain ⟨hP, hD⟩ := xjoin (W := [(a0, .inr (1, [.ref a1, .int 6, v3])), (a1, .inl (cT 0, 4096, .inl (upd (upd f4 4 (vp_nar .byte y2)) 5 (vp_nar .byte y4))))]) hP hD [0, 1] [] 0 rfl rfl (by decide) (by decide) hk1 hFc hP1 hD1
  generalize H1 = H at hP hS ⊢
  refine lv_iinc (v := 8) (lv' := [(2, .int 8), (0, .ref a0), (1, .int x2)]) hx hb dT_addInt_14 hl (k := 0) rfl (by decide) (by decide) rfl (fun ls hl => ?_)
  refine lv_goto (tgt := 3) hx hb dT_addInt_17 (by decide) ?_
  refine lv_iload_n hx hb dT_addInt_3 rfl (lv_at hl 0 rfl) ?_
  refine lv_if_lt (tgt := 20) hx hb dT_addInt_4 (by decide) (fun h => ((by revert h; decide : False)).elim) (fun _ => ?_)
  refine lv_aload_n hx hb dT_addInt_7 rfl (lv_at hl 1 rfl) ?_
  refine lv_iload_n hx hb dT_addInt_8 rfl (lv_at hl 2 rfl) ?_
  refine lv_iload_n hx hb dT_addInt_9 rfl (lv_at hl 0 rfl) ?_
  refine lv_ishr hx hb dT_addInt_10 ?_
  refine lv_topi (fun y5 ey5 => ?_)
  obtain ⟨hPc, hDc, hFc⟩ := xcut (wc := [(a0, .inr (1, [.ref a1, .int 6, v3])), (a1, .inl (cT 0, 4096, .inl (upd (upd f4 4 (vp_nar .byte y2)) 5 (vp_nar .byte y4))))]) hP hD hS hA [0, 1] rfl rfl (by decide)
  refine va_callv (va_runV (C := "ValueBench$Text") (As := [.int y5]) (rest := []) ⟨hx, hb, hml, hown, htx⟩ (cT_add_6 l hl9 D cT aK aV H.size a0 a1 y5 v3 (upd (upd f4 4 (vp_nar .byte y2)) 5 (vp_nar .byte y4))) ⟨callB_of 1 htx (xw_goodC kw_1_207) rfl rfl rfl (htx _ kw_1_2) (htx _ kw_1_204) ⟨by decide, by decide, by decide +kernel⟩ ⟨Nat.le_of_ble_eq_true rfl, Nat.le_of_ble_eq_true rfl⟩, (htx _ kw_1_205), (htx _ kw_1_206)⟩ ⟨xPre_blind, va_recv hK hP (ci := 1) rfl (q0 := 0) rfl, (fun U hU hW => ⟨rfl, xPre_of hZ hS hFc hPc hDc hK U hU hW⟩)⟩ rfl rfl hl.1 rfl (lv_room (Nat.le_of_ble_eq_true rfl)) dT_addInt_11 ⟨Nat.le_of_ble_eq_true rfl, Nat.le_of_ble_eq_true rfl⟩) hS (fun q _ h => hFc q h) hFc (fun u9 t H1 locs ht hvm hr9 hB hz1 hk1 hS => ?_)
  obtain ⟨y6, hP1, hK1, hD1⟩ := hB
  rw [ht] at hP1
  obtain ⟨hP, hD⟩ := xjoin (W := [(a0, .inr (1, [.ref a1, .int 7, v3])), (a1, .inl (cT 0, 4096, .inl (upd (upd (upd f4 4 (vp_nar .byte y2)) 5 (vp_nar .byte y4)) 6 (vp_nar .byte y6))))]) hP hD [0, 1] [] 0 rfl rfl (by decide) (by decide) hk1 hFc hP1 hD1
  generalize H1 = H at hP hS ⊢
  refine lv_iinc (v := 0) (lv' := [(2, .int 0), (0, .ref a0), (1, .int x2)]) hx hb dT_addInt_14 hl (k := 0) rfl (by decide) (by decide) rfl (fun ls hl => ?_)
  refine lv_goto (tgt := 3) hx hb dT_addInt_17 (by decide) ?_
  refine lv_iload_n hx hb dT_addInt_3 rfl (lv_at hl 0 rfl) ?_
  refine lv_if_lt (tgt := 20) hx hb dT_addInt_4 (by decide) (fun h => ((by revert h; decide : False)).elim) (fun _ => ?_)
  refine lv_aload_n hx hb dT_addInt_7 rfl (lv_at hl 1 rfl) ?_
  refine lv_iload_n hx hb dT_addInt_8 rfl (lv_at hl 2 rfl) ?_
  refine lv_iload_n hx hb dT_addInt_9 rfl (lv_at hl 0 rfl) ?_
  refine lv_ishr hx hb dT_addInt_10 ?_
  refine lv_topi (fun y7 ey7 => ?_)
  obtain ⟨hPc, hDc, hFc⟩ := xcut (wc := [(a0, .inr (1, [.ref a1, .int 7, v3])), (a1, .inl (cT 0, 4096, .inl (upd (upd (upd f4 4 (vp_nar .byte y2)) 5 (vp_nar .byte y4)) 6 (vp_nar .byte y6))))]) hP hD hS hA [0, 1] rfl rfl (by decide)
  refine va_callv (va_runV (C := "ValueBench$Text") (As := [.int y7]) (rest := []) ⟨hx, hb, hml, hown, htx⟩ (cT_add_7 l hl9 D cT aK aV H.size a0 a1 y7 v3 (upd (upd (upd f4 4 (vp_nar .byte y2)) 5 (vp_nar .byte y4)) 6 (vp_nar .byte y6))) ⟨callB_of 1 htx (xw_goodC kw_1_207) rfl rfl rfl (htx _ kw_1_2) (htx _ kw_1_204) ⟨by decide, by decide, by decide +kernel⟩ ⟨Nat.le_of_ble_eq_true rfl, Nat.le_of_ble_eq_true rfl⟩, (htx _ kw_1_205), (htx _ kw_1_206)⟩ ⟨xPre_blind, va_recv hK hP (ci := 1) rfl (q0 := 0) rfl, (fun U hU hW => ⟨rfl, xPre_of hZ hS hFc hPc hDc hK U hU hW⟩)⟩ rfl rfl hl.1 rfl (lv_room (Nat.le_of_ble_eq_true rfl)) dT_addInt_11 ⟨Nat.le_of_ble_eq_true rfl, Nat.le_of_ble_eq_true rfl⟩) hS (fun q _ h => hFc q h) hFc (fun u9 t H1 locs ht hvm hr9 hB hz1 hk1 hS => ?_)
  obtain ⟨y8, hP1, hK1, hD1⟩ := hB
  rw [ht] at hP1
  obtain ⟨hP, hD⟩ := xjoin (W := [(a0, .inr (1, [.ref a1, .int 8, v3])), (a1, .inl (cT 0, 4096, .inl (upd (upd (upd (upd f4 4 (vp_nar .byte y2)) 5 (vp_nar .byte y4)) 6 (vp_nar .byte y6)) 7 (vp_nar .byte y8))))]) hP hD [0, 1] [] 0 rfl rfl (by decide) (by decide) hk1 hFc hP1 hD1
  generalize H1 = H at hP hS ⊢
  refine lv_iinc (v := (-8)) (lv' := [(2, .int (-8)), (0, .ref a0), (1, .int x2)]) hx hb dT_addInt_14 hl (k := 0) rfl (by decide) (by decide) rfl (fun ls hl => ?_)
  refine lv_goto (tgt := 3) hx hb dT_addInt_17 (by decide) ?_
  refine lv_iload_n hx hb dT_addInt_3 rfl (lv_at hl 0 rfl) ?_
  refine lv_if_lt (tgt := 20) hx hb dT_addInt_4 (by decide) (fun _ => ?_) (fun h => ((by revert h; decide : False)).elim)
  obtain ⟨hP9, hD9⟩ := xsub (wc := [(a0, .inr (1, [.ref a1, .int 8, v3])), (a1, .inl (cT 0, 4096, .inl (upd (upd (upd (upd f4 4 (vp_nar .byte y2)) 5 (vp_nar .byte y4)) 6 (vp_nar .byte y6)) 7 (vp_nar .byte y8))))]) hP hD [0, 1] rfl rfl (by decide)
  refine W.widen (k := 0) (n := 0) (Nat.le_of_ble_eq_true rfl) (Nat.le_of_ble_eq_true rfl) ?_
  exact W.vret hx hb hr (fun t ht hW => ⟨⟨(), rfl, trivial, y2, y4, y6, y8, by rw [ht]; exact hP9, va_K.moved hW.alike hK, hD9⟩, hS.F ht⟩) hS.2.2 dT_addInt_20
set_option maxHeartbeats 400000000 in
set_option maxRecDepth 100000 in
theorem cT_add_8 (l : Launch) (hl9 : l.stackTraces = false) (D : va_G) (cT : Nat → ClassId) (aK aV : Nat → Nat) (sz : Nat) (a0 : Nat) (a1 : Nat) (x2 : Int32) (v3 : Value) (f4 : Nat → Int32) : xMet l yT_add wyT_add 0 0 0 0 D cT aK aV sz [.ref a0, .int x2] [(a0, .inr (1, [.ref a1, .int 8, v3])), (a1, .inl (cT 0, 4096, .inl f4))] (fun A => va_Qv (fun _ : Unit => True) (fun _ t => ∃ (y1 : Int32), xB D xcl cT A [(a0, .inr (1, [.ref a1, .int 9, v3])), (a1, .inl (cT 0, 4096, .inl (upd f4 8 (vp_nar .byte y1))))] t) A) := by
  refine Met.ofW (cc := prog_11_method_8_code) (maxL := 2) (ret := none) (by decide) rfl ?_
  intro p e s m args below meth c s₁ B hml hv
  obtain ⟨rfl, hsz, hZ, hP, hK, hD0⟩ := hv
  have hx := B.exec
  have hb := B.bytes
  have hr := B.returns
  have hts := atoms_spec (ws := wyT_add) B.pre
  have htx := fun w h => hts w (List.mem_cons_of_mem _ h)
  have hown : s.vm.findClass "ValueBench$Text" = some m.cls := findClass_of_methodNamed B.named
  have hlocks := B.notSynchronized
  subst hsz
  have hD := hD0.self (sz := s.heap.size)
  generalize hAe : va_A [(a0, .inr (1, [.ref a1, .int 8, v3])), (a1, .inl (cT 0, 4096, .inl f4))] s.heap.size = A at hD hZ ⊢
  have hA : ∀ q : Nat, s.heap.size ≤ q → A q := fun q h => by rw [← hAe]; exact Or.inr h
  have hS : va_S A s.heap s.heap [] := va_S.rf
  have hP : va_P D xcl [(a0, .inr (1, [.ref a1, .int 8, v3])), (a1, .inl (cT 0, 4096, .inl f4))] s.heap := hP
  have hl := lv_entry ([.ref a0, .int x2]) (n := 2) (Nat.le_of_ble_eq_true rfl)
  rw [lg_entry_eq]
  generalize (lg_sl ([.ref a0, .int x2]) ++ List.replicate (2 - (lg_sl ([.ref a0, .int x2])).length) Slot.unset).toArray = ls at hl ⊢
  have hl : lv_has ls 2 [(0, .ref a0), (1, .int x2)] := hl
  refine lv_aload_n hx hb dT_add_0 rfl (lv_at hl 0 rfl) ?_
  refine va_get (D := D) (ci := 1) (v := .int 8) (C := "ValueBench$Text") (T := TT) (N := 3) hx hb htx inT hown hK hP 0 rfl rfl 1 (by decide) (htx _ kw_1_44) (fun _ h9 => h9) rfl dT_add_1 ?_
  refine lv_sipush (v := 4096) hx hb dT_add_4 (by decide) ?_
  refine lv_icmp_lt (tgt := 16) hx hb dT_add_7 (by decide) (fun _ => ?_) (fun h => ((by revert h; decide : False)).elim)
  refine lv_aload_n hx hb dT_add_16 rfl (lv_at hl 0 rfl) ?_
  refine va_get (D := D) (ci := 1) (v := .ref a1) (C := "ValueBench$Text") (T := TT) (N := 3) hx hb htx inT hown hK hP 0 rfl rfl 0 (by decide) (htx _ kw_1_43) (fun _ h9 => h9) rfl dT_add_17 ?_
  refine lv_aload_n hx hb dT_add_20 rfl (lv_at hl 0 rfl) ?_
  refine va_get (D := D) (ci := 1) (v := .int 8) (C := "ValueBench$Text") (T := TT) (N := 3) hx hb htx inT hown hK hP 0 rfl rfl 1 (by decide) (htx _ kw_1_44) (fun _ h9 => h9) rfl dT_add_21 ?_
  refine lv_iload_n hx hb dT_add_24 rfl (lv_at hl 1 rfl) ?_
  refine lv_i2b hx hb dT_add_25 rfl ?_
  refine lv_topi (fun y1 ey1 => ?_)
  refine va_bast hx hb hK hP hD hS 1 0 rfl rfl (show ¬ ((8 : Int32) < 0 ∨ 4096 ≤ (8 : Int32).toNatClampNeg) by decide) dT_add_26 (fun H locs hP hD hS => ?_)
  obtain ⟨hP, hD⟩ : xPD D xcl A [(a0, .inr (1, [.ref a1, .int 8, v3])), (a1, .inl (cT 0, 4096, .inl (upd f4 8 (vp_nar .byte y1))))] H := ⟨hP, hD⟩
  refine lv_aload_n hx hb dT_add_27 rfl (lv_at hl 0 rfl) ?_
  refine lv_dup hx hb dT_add_28 rfl ?_
  refine va_get (D := D) (ci := 1) (v := .int 8) (C := "ValueBench$Text") (T := TT) (N := 3) hx hb htx inT hown hK hP 0 rfl rfl 1 (by decide) (htx _ kw_1_44) (fun _ h9 => h9) rfl dT_add_29 ?_
  refine lv_iconst (v := 1) hx hb dT_add_32 (by decide) ?_
  refine lv_iadd hx hb dT_add_33 ?_
  refine W.eq (g2 := F0 m 34 ls [.int 9, .ref a0]) rfl ?_
  refine va_put (D := D) (ci := 1) (v := .int 9) (ty := .int) (C := "ValueBench$Text") (T := TT) (N := 3) hx hb htx inT tyT tyT_ok nmT hown hK hP hD hS 0 rfl rfl 1 (by decide) (htx _ kw_1_44) (fun _ h9 => h9) rfl (by decide +kernel) rfl rfl (Nat.le_of_ble_eq_true rfl) dT_add_34 (fun H locs hP hD hS => ?_)
  obtain ⟨hP, hD⟩ : xPD D xcl A [(a0, .inr (1, [.ref a1, .int 9, v3])), (a1, .inl (cT 0, 4096, .inl (upd f4 8 (vp_nar .byte y1))))] H := ⟨hP, hD⟩
  obtain ⟨hP9, hD9⟩ := xsub (wc := [(a0, .inr (1, [.ref a1, .int 9, v3])), (a1, .inl (cT 0, 4096, .inl (upd f4 8 (vp_nar .byte y1))))]) hP hD [0, 1] rfl rfl (by decide)
  refine W.widen (k := 0) (n := 0) (Nat.le_of_ble_eq_true rfl) (Nat.le_of_ble_eq_true rfl) ?_
  exact W.vret hx hb hr (fun t ht hW => ⟨⟨(), rfl, trivial, y1, by rw [ht]; exact hP9, va_K.moved hW.alike hK, hD9⟩, hS.F ht⟩) hS.2.2 dT_add_37
set_option maxHeartbeats 400000000 in
set_option maxRecDepth 100000 in
theorem cT_add_9 (l : Launch) (hl9 : l.stackTraces = false) (D : va_G) (cT : Nat → ClassId) (aK aV : Nat → Nat) (sz : Nat) (a0 : Nat) (a1 : Nat) (x2 : Int32) (v3 : Value) (f4 : Nat → Int32) : xMet l yT_add wyT_add 0 0 0 0 D cT aK aV sz [.ref a0, .int x2] [(a0, .inr (1, [.ref a1, .int 9, v3])), (a1, .inl (cT 0, 4096, .inl f4))] (fun A => va_Qv (fun _ : Unit => True) (fun _ t => ∃ (y1 : Int32), xB D xcl cT A [(a0, .inr (1, [.ref a1, .int 10, v3])), (a1, .inl (cT 0, 4096, .inl (upd f4 9 (vp_nar .byte y1))))] t) A) := by
  refine Met.ofW (cc := prog_11_method_8_code) (maxL := 2) (ret := none) (by decide) rfl ?_
  intro p e s m args below meth c s₁ B hml hv
  obtain ⟨rfl, hsz, hZ, hP, hK, hD0⟩ := hv
  have hx := B.exec
  have hb := B.bytes
  have hr := B.returns
  have hts := atoms_spec (ws := wyT_add) B.pre
  have htx := fun w h => hts w (List.mem_cons_of_mem _ h)
  have hown : s.vm.findClass "ValueBench$Text" = some m.cls := findClass_of_methodNamed B.named
  have hlocks := B.notSynchronized
  subst hsz
  have hD := hD0.self (sz := s.heap.size)
  generalize hAe : va_A [(a0, .inr (1, [.ref a1, .int 9, v3])), (a1, .inl (cT 0, 4096, .inl f4))] s.heap.size = A at hD hZ ⊢
  have hA : ∀ q : Nat, s.heap.size ≤ q → A q := fun q h => by rw [← hAe]; exact Or.inr h
  have hS : va_S A s.heap s.heap [] := va_S.rf
  have hP : va_P D xcl [(a0, .inr (1, [.ref a1, .int 9, v3])), (a1, .inl (cT 0, 4096, .inl f4))] s.heap := hP
  have hl := lv_entry ([.ref a0, .int x2]) (n := 2) (Nat.le_of_ble_eq_true rfl)
  rw [lg_entry_eq]
  generalize (lg_sl ([.ref a0, .int x2]) ++ List.replicate (2 - (lg_sl ([.ref a0, .int x2])).length) Slot.unset).toArray = ls at hl ⊢
  have hl : lv_has ls 2 [(0, .ref a0), (1, .int x2)] := hl
  refine lv_aload_n hx hb dT_add_0 rfl (lv_at hl 0 rfl) ?_
  refine va_get (D := D) (ci := 1) (v := .int 9) (C := "ValueBench$Text") (T := TT) (N := 3) hx hb htx inT hown hK hP 0 rfl rfl 1 (by decide) (htx _ kw_1_44) (fun _ h9 => h9) rfl dT_add_1 ?_
  refine lv_sipush (v := 4096) hx hb dT_add_4 (by decide) ?_
  refine lv_icmp_lt (tgt := 16) hx hb dT_add_7 (by decide) (fun _ => ?_) (fun h => ((by revert h; decide : False)).elim)
  refine lv_aload_n hx hb dT_add_16 rfl (lv_at hl 0 rfl) ?_
  refine va_get (D := D) (ci := 1) (v := .ref a1) (C := "ValueBench$Text") (T := TT) (N := 3) hx hb htx inT hown hK hP 0 rfl rfl 0 (by decide) (htx _ kw_1_43) (fun _ h9 => h9) rfl dT_add_17 ?_
  refine lv_aload_n hx hb dT_add_20 rfl (lv_at hl 0 rfl) ?_
  refine va_get (D := D) (ci := 1) (v := .int 9) (C := "ValueBench$Text") (T := TT) (N := 3) hx hb htx inT hown hK hP 0 rfl rfl 1 (by decide) (htx _ kw_1_44) (fun _ h9 => h9) rfl dT_add_21 ?_
  refine lv_iload_n hx hb dT_add_24 rfl (lv_at hl 1 rfl) ?_
  refine lv_i2b hx hb dT_add_25 rfl ?_
  refine lv_topi (fun y1 ey1 => ?_)
  refine va_bast hx hb hK hP hD hS 1 0 rfl rfl (show ¬ ((9 : Int32) < 0 ∨ 4096 ≤ (9 : Int32).toNatClampNeg) by decide) dT_add_26 (fun H locs hP hD hS => ?_)
  obtain ⟨hP, hD⟩ : xPD D xcl A [(a0, .inr (1, [.ref a1, .int 9, v3])), (a1, .inl (cT 0, 4096, .inl (upd f4 9 (vp_nar .byte y1))))] H := ⟨hP, hD⟩
  refine lv_aload_n hx hb dT_add_27 rfl (lv_at hl 0 rfl) ?_
  refine lv_dup hx hb dT_add_28 rfl ?_
  refine va_get (D := D) (ci := 1) (v := .int 9) (C := "ValueBench$Text") (T := TT) (N := 3) hx hb htx inT hown hK hP 0 rfl rfl 1 (by decide) (htx _ kw_1_44) (fun _ h9 => h9) rfl dT_add_29 ?_
  refine lv_iconst (v := 1) hx hb dT_add_32 (by decide) ?_
  refine lv_iadd hx hb dT_add_33 ?_
  refine W.eq (g2 := F0 m 34 ls [.int 10, .ref a0]) rfl ?_
  refine va_put (D := D) (ci := 1) (v := .int 10) (ty := .int) (C := "ValueBench$Text") (T := TT) (N := 3) hx hb htx inT tyT tyT_ok nmT hown hK hP hD hS 0 rfl rfl 1 (by decide) (htx _ kw_1_44) (fun _ h9 => h9) rfl (by decide +kernel) rfl rfl (Nat.le_of_ble_eq_true rfl) dT_add_34 (fun H locs hP hD hS => ?_)
  obtain ⟨hP, hD⟩ : xPD D xcl A [(a0, .inr (1, [.ref a1, .int 10, v3])), (a1, .inl (cT 0, 4096, .inl (upd f4 9 (vp_nar .byte y1))))] H := ⟨hP, hD⟩
  obtain ⟨hP9, hD9⟩ := xsub (wc := [(a0, .inr (1, [.ref a1, .int 10, v3])), (a1, .inl (cT 0, 4096, .inl (upd f4 9 (vp_nar .byte y1))))]) hP hD [0, 1] rfl rfl (by decide)
  refine W.widen (k := 0) (n := 0) (Nat.le_of_ble_eq_true rfl) (Nat.le_of_ble_eq_true rfl) ?_
  exact W.vret hx hb hr (fun t ht hW => ⟨⟨(), rfl, trivial, y1, by rw [ht]; exact hP9, va_K.moved hW.alike hK, hD9⟩, hS.F ht⟩) hS.2.2 dT_add_37
set_option maxHeartbeats 400000000 in
set_option maxRecDepth 100000 in
theorem cT_add_10 (l : Launch) (hl9 : l.stackTraces = false) (D : va_G) (cT : Nat → ClassId) (aK aV : Nat → Nat) (sz : Nat) (a0 : Nat) (a1 : Nat) (x2 : Int32) (v3 : Value) (f4 : Nat → Int32) : xMet l yT_add wyT_add 0 0 0 0 D cT aK aV sz [.ref a0, .int x2] [(a0, .inr (1, [.ref a1, .int 10, v3])), (a1, .inl (cT 0, 4096, .inl f4))] (fun A => va_Qv (fun _ : Unit => True) (fun _ t => ∃ (y1 : Int32), xB D xcl cT A [(a0, .inr (1, [.ref a1, .int 11, v3])), (a1, .inl (cT 0, 4096, .inl (upd f4 10 (vp_nar .byte y1))))] t) A) := by
  refine Met.ofW (cc := prog_11_method_8_code) (maxL := 2) (ret := none) (by decide) rfl ?_
  intro p e s m args below meth c s₁ B hml hv
  obtain ⟨rfl, hsz, hZ, hP, hK, hD0⟩ := hv
  have hx := B.exec
  have hb := B.bytes
  have hr := B.returns
  have hts := atoms_spec (ws := wyT_add) B.pre
  have htx := fun w h => hts w (List.mem_cons_of_mem _ h)
  have hown : s.vm.findClass "ValueBench$Text" = some m.cls := findClass_of_methodNamed B.named
  have hlocks := B.notSynchronized
  subst hsz
  have hD := hD0.self (sz := s.heap.size)
  generalize hAe : va_A [(a0, .inr (1, [.ref a1, .int 10, v3])), (a1, .inl (cT 0, 4096, .inl f4))] s.heap.size = A at hD hZ ⊢
  have hA : ∀ q : Nat, s.heap.size ≤ q → A q := fun q h => by rw [← hAe]; exact Or.inr h
  have hS : va_S A s.heap s.heap [] := va_S.rf
  have hP : va_P D xcl [(a0, .inr (1, [.ref a1, .int 10, v3])), (a1, .inl (cT 0, 4096, .inl f4))] s.heap := hP
  have hl := lv_entry ([.ref a0, .int x2]) (n := 2) (Nat.le_of_ble_eq_true rfl)
  rw [lg_entry_eq]
  generalize (lg_sl ([.ref a0, .int x2]) ++ List.replicate (2 - (lg_sl ([.ref a0, .int x2])).length) Slot.unset).toArray = ls at hl ⊢
  have hl : lv_has ls 2 [(0, .ref a0), (1, .int x2)] := hl
  refine lv_aload_n hx hb dT_add_0 rfl (lv_at hl 0 rfl) ?_
  refine va_get (D := D) (ci := 1) (v := .int 10) (C := "ValueBench$Text") (T := TT) (N := 3) hx hb htx inT hown hK hP 0 rfl rfl 1 (by decide) (htx _ kw_1_44) (fun _ h9 => h9) rfl dT_add_1 ?_
  refine lv_sipush (v := 4096) hx hb dT_add_4 (by decide) ?_
  refine lv_icmp_lt (tgt := 16) hx hb dT_add_7 (by decide) (fun _ => ?_) (fun h => ((by revert h; decide : False)).elim)
  refine lv_aload_n hx hb dT_add_16 rfl (lv_at hl 0 rfl) ?_
  refine va_get (D := D) (ci := 1) (v := .ref a1) (C := "ValueBench$Text") (T := TT) (N := 3) hx hb htx inT hown hK hP 0 rfl rfl 0 (by decide) (htx _ kw_1_43) (fun _ h9 => h9) rfl dT_add_17 ?_
  refine lv_aload_n hx hb dT_add_20 rfl (lv_at hl 0 rfl) ?_
  refine va_get (D := D) (ci := 1) (v := .int 10) (C := "ValueBench$Text") (T := TT) (N := 3) hx hb htx inT hown hK hP 0 rfl rfl 1 (by decide) (htx _ kw_1_44) (fun _ h9 => h9) rfl dT_add_21 ?_
  refine lv_iload_n hx hb dT_add_24 rfl (lv_at hl 1 rfl) ?_
  refine lv_i2b hx hb dT_add_25 rfl ?_
  refine lv_topi (fun y1 ey1 => ?_)
  refine va_bast hx hb hK hP hD hS 1 0 rfl rfl (show ¬ ((10 : Int32) < 0 ∨ 4096 ≤ (10 : Int32).toNatClampNeg) by decide) dT_add_26 (fun H locs hP hD hS => ?_)
  obtain ⟨hP, hD⟩ : xPD D xcl A [(a0, .inr (1, [.ref a1, .int 10, v3])), (a1, .inl (cT 0, 4096, .inl (upd f4 10 (vp_nar .byte y1))))] H := ⟨hP, hD⟩
  refine lv_aload_n hx hb dT_add_27 rfl (lv_at hl 0 rfl) ?_
  refine lv_dup hx hb dT_add_28 rfl ?_
  refine va_get (D := D) (ci := 1) (v := .int 10) (C := "ValueBench$Text") (T := TT) (N := 3) hx hb htx inT hown hK hP 0 rfl rfl 1 (by decide) (htx _ kw_1_44) (fun _ h9 => h9) rfl dT_add_29 ?_
  refine lv_iconst (v := 1) hx hb dT_add_32 (by decide) ?_
  refine lv_iadd hx hb dT_add_33 ?_
  refine W.eq (g2 := F0 m 34 ls [.int 11, .ref a0]) rfl ?_
  refine va_put (D := D) (ci := 1) (v := .int 11) (ty := .int) (C := "ValueBench$Text") (T := TT) (N := 3) hx hb htx inT tyT tyT_ok nmT hown hK hP hD hS 0 rfl rfl 1 (by decide) (htx _ kw_1_44) (fun _ h9 => h9) rfl (by decide +kernel) rfl rfl (Nat.le_of_ble_eq_true rfl) dT_add_34 (fun H locs hP hD hS => ?_)
  obtain ⟨hP, hD⟩ : xPD D xcl A [(a0, .inr (1, [.ref a1, .int 11, v3])), (a1, .inl (cT 0, 4096, .inl (upd f4 10 (vp_nar .byte y1))))] H := ⟨hP, hD⟩
  obtain ⟨hP9, hD9⟩ := xsub (wc := [(a0, .inr (1, [.ref a1, .int 11, v3])), (a1, .inl (cT 0, 4096, .inl (upd f4 10 (vp_nar .byte y1))))]) hP hD [0, 1] rfl rfl (by decide)
  refine W.widen (k := 0) (n := 0) (Nat.le_of_ble_eq_true rfl) (Nat.le_of_ble_eq_true rfl) ?_
  exact W.vret hx hb hr (fun t ht hW => ⟨⟨(), rfl, trivial, y1, by rw [ht]; exact hP9, va_K.moved hW.alike hK, hD9⟩, hS.F ht⟩) hS.2.2 dT_add_37
set_option maxHeartbeats 400000000 in
set_option maxRecDepth 100000 in
theorem cT_add_11 (l : Launch) (hl9 : l.stackTraces = false) (D : va_G) (cT : Nat → ClassId) (aK aV : Nat → Nat) (sz : Nat) (a0 : Nat) (a1 : Nat) (x2 : Int32) (v3 : Value) (f4 : Nat → Int32) : xMet l yT_add wyT_add 0 0 0 0 D cT aK aV sz [.ref a0, .int x2] [(a0, .inr (1, [.ref a1, .int 11, v3])), (a1, .inl (cT 0, 4096, .inl f4))] (fun A => va_Qv (fun _ : Unit => True) (fun _ t => ∃ (y1 : Int32), xB D xcl cT A [(a0, .inr (1, [.ref a1, .int 12, v3])), (a1, .inl (cT 0, 4096, .inl (upd f4 11 (vp_nar .byte y1))))] t) A) := by
  refine Met.ofW (cc := prog_11_method_8_code) (maxL := 2) (ret := none) (by decide) rfl ?_
  intro p e s m args below meth c s₁ B hml hv
  obtain ⟨rfl, hsz, hZ, hP, hK, hD0⟩ := hv
  have hx := B.exec
  have hb := B.bytes
  have hr := B.returns
  have hts := atoms_spec (ws := wyT_add) B.pre
  have htx := fun w h => hts w (List.mem_cons_of_mem _ h)
  have hown : s.vm.findClass "ValueBench$Text" = some m.cls := findClass_of_methodNamed B.named
  have hlocks := B.notSynchronized
  subst hsz
  have hD := hD0.self (sz := s.heap.size)
  generalize hAe : va_A [(a0, .inr (1, [.ref a1, .int 11, v3])), (a1, .inl (cT 0, 4096, .inl f4))] s.heap.size = A at hD hZ ⊢
  have hA : ∀ q : Nat, s.heap.size ≤ q → A q := fun q h => by rw [← hAe]; exact Or.inr h
  have hS : va_S A s.heap s.heap [] := va_S.rf
  have hP : va_P D xcl [(a0, .inr (1, [.ref a1, .int 11, v3])), (a1, .inl (cT 0, 4096, .inl f4))] s.heap := hP
  have hl := lv_entry ([.ref a0, .int x2]) (n := 2) (Nat.le_of_ble_eq_true rfl)
  rw [lg_entry_eq]
  generalize (lg_sl ([.ref a0, .int x2]) ++ List.replicate (2 - (lg_sl ([.ref a0, .int x2])).length) Slot.unset).toArray = ls at hl ⊢
  have hl : lv_has ls 2 [(0, .ref a0), (1, .int x2)] := hl
  refine lv_aload_n hx hb dT_add_0 rfl (lv_at hl 0 rfl) ?_
  refine va_get (D := D) (ci := 1) (v := .int 11) (C := "ValueBench$Text") (T := TT) (N := 3) hx hb htx inT hown hK hP 0 rfl rfl 1 (by decide) (htx _ kw_1_44) (fun _ h9 => h9) rfl dT_add_1 ?_
  refine lv_sipush (v := 4096) hx hb dT_add_4 (by decide) ?_
  refine lv_icmp_lt (tgt := 16) hx hb dT_add_7 (by decide) (fun _ => ?_) (fun h => ((by revert h; decide : False)).elim)
  refine lv_aload_n hx hb dT_add_16 rfl (lv_at hl 0 rfl) ?_
  refine va_get (D := D) (ci := 1) (v := .ref a1) (C := "ValueBench$Text") (T := TT) (N := 3) hx hb htx inT hown hK hP 0 rfl rfl 0 (by decide) (htx _ kw_1_43) (fun _ h9 => h9) rfl dT_add_17 ?_
  refine lv_aload_n hx hb dT_add_20 rfl (lv_at hl 0 rfl) ?_
  refine va_get (D := D) (ci := 1) (v := .int 11) (C := "ValueBench$Text") (T := TT) (N := 3) hx hb htx inT hown hK hP 0 rfl rfl 1 (by decide) (htx _ kw_1_44) (fun _ h9 => h9) rfl dT_add_21 ?_
  refine lv_iload_n hx hb dT_add_24 rfl (lv_at hl 1 rfl) ?_
  refine lv_i2b hx hb dT_add_25 rfl ?_
  refine lv_topi (fun y1 ey1 => ?_)
  refine va_bast hx hb hK hP hD hS 1 0 rfl rfl (show ¬ ((11 : Int32) < 0 ∨ 4096 ≤ (11 : Int32).toNatClampNeg) by decide) dT_add_26 (fun H locs hP hD hS => ?_)
  obtain ⟨hP, hD⟩ : xPD D xcl A [(a0, .inr (1, [.ref a1, .int 11, v3])), (a1, .inl (cT 0, 4096, .inl (upd f4 11 (vp_nar .byte y1))))] H := ⟨hP, hD⟩
  refine lv_aload_n hx hb dT_add_27 rfl (lv_at hl 0 rfl) ?_
  refine lv_dup hx hb dT_add_28 rfl ?_
  refine va_get (D := D) (ci := 1) (v := .int 11) (C := "ValueBench$Text") (T := TT) (N := 3) hx hb htx inT hown hK hP 0 rfl rfl 1 (by decide) (htx _ kw_1_44) (fun _ h9 => h9) rfl dT_add_29 ?_
  refine lv_iconst (v := 1) hx hb dT_add_32 (by decide) ?_
  refine lv_iadd hx hb dT_add_33 ?_
  refine W.eq (g2 := F0 m 34 ls [.int 12, .ref a0]) rfl ?_
  refine va_put (D := D) (ci := 1) (v := .int 12) (ty := .int) (C := "ValueBench$Text") (T := TT) (N := 3) hx hb htx inT tyT tyT_ok nmT hown hK hP hD hS 0 rfl rfl 1 (by decide) (htx _ kw_1_44) (fun _ h9 => h9) rfl (by decide +kernel) rfl rfl (Nat.le_of_ble_eq_true rfl) dT_add_34 (fun H locs hP hD hS => ?_)
  obtain ⟨hP, hD⟩ : xPD D xcl A [(a0, .inr (1, [.ref a1, .int 12, v3])), (a1, .inl (cT 0, 4096, .inl (upd f4 11 (vp_nar .byte y1))))] H := ⟨hP, hD⟩
  obtain ⟨hP9, hD9⟩ := xsub (wc := [(a0, .inr (1, [.ref a1, .int 12, v3])), (a1, .inl (cT 0, 4096, .inl (upd f4 11 (vp_nar .byte y1))))]) hP hD [0, 1] rfl rfl (by decide)
  refine W.widen (k := 0) (n := 0) (Nat.le_of_ble_eq_true rfl) (Nat.le_of_ble_eq_true rfl) ?_
  exact W.vret hx hb hr (fun t ht hW => ⟨⟨(), rfl, trivial, y1, by rw [ht]; exact hP9, va_K.moved hW.alike hK, hD9⟩, hS.F ht⟩) hS.2.2 dT_add_37
set_option maxHeartbeats 400000000 in
set_option maxRecDepth 100000 in
theorem cT_addInt_2 (l : Launch) (hl9 : l.stackTraces = false) (D : va_G) (cT : Nat → ClassId) (aK aV : Nat → Nat) (sz : Nat) (a0 : Nat) (a1 : Nat) (x2 : Int32) (v3 : Value) (f4 : Nat → Int32) : xMet l yT_addInt wyT_addInt 1 0 0 21 D cT aK aV sz [.ref a0, .int x2] [(a0, .inr (1, [.ref a1, .int 8, v3])), (a1, .inl (cT 0, 4096, .inl f4))] (fun A => va_Qv (fun _ : Unit => True) (fun _ t => ∃ (y2 : Int32) (y4 : Int32) (y6 : Int32) (y8 : Int32), xB D xcl cT A [(a0, .inr (1, [.ref a1, .int 12, v3])), (a1, .inl (cT 0, 4096, .inl (upd (upd (upd (upd f4 8 (vp_nar .byte y2)) 9 (vp_nar .byte y4)) 10 (vp_nar .byte y6)) 11 (vp_nar .byte y8))))] t) A) := by
  refine Met.ofW (cc := prog_11_method_9_code) (maxL := 3) (ret := none) (by decide) rfl ?_
  intro p e s m args below meth c s₁ B hml hv
  obtain ⟨rfl, hsz, hZ, hP, hK, hD0⟩ := hv
  have hx := B.exec
  have hb := B.bytes
  have hr := B.returns
  have hts := atoms_spec (ws := wyT_addInt) B.pre
  have htx := fun w h => hts w (List.mem_cons_of_mem _ h)
  have hown : s.vm.findClass "ValueBench$Text" = some m.cls := findClass_of_methodNamed B.named
  have hlocks := B.notSynchronized
  subst hsz
  have hD := hD0.self (sz := s.heap.size)
  generalize hAe : va_A [(a0, .inr (1, [.ref a1, .int 8, v3])), (a1, .inl (cT 0, 4096, .inl f4))] s.heap.size = A at hD hZ ⊢
  have hA : ∀ q : Nat, s.heap.size ≤ q → A q := fun q h => by rw [← hAe]; exact Or.inr h
  have hS : va_S A s.heap s.heap [] := va_S.rf
  have hP : va_P D xcl [(a0, .inr (1, [.ref a1, .int 8, v3])), (a1, .inl (cT 0, 4096, .inl f4))] s.heap := hP
  have hl := lv_entry ([.ref a0, .int x2]) (n := 3) (Nat.le_of_ble_eq_true rfl)
  rw [lg_entry_eq]
  generalize (lg_sl ([.ref a0, .int x2]) ++ List.replicate (3 - (lg_sl ([.ref a0, .int x2])).length) Slot.unset).toArray = ls at hl ⊢
  have hl : lv_has ls 3 [(0, .ref a0), (1, .int x2)] := hl
  refine lv_bipush (v := 24) hx hb dT_addInt_0 (by decide) ?_
  refine lv_istore_n (lv' := [(2, .int 24), (0, .ref a0), (1, .int x2)]) hx hb dT_addInt_2 rfl hl (by decide) rfl (fun ls hl => ?_)
  refine lv_iload_n hx hb dT_addInt_3 rfl (lv_at hl 0 rfl) ?_
  refine lv_if_lt (tgt := 20) hx hb dT_addInt_4 (by decide) (fun h => ((by revert h; decide : False)).elim) (fun _ => ?_)
  refine lv_aload_n hx hb dT_addInt_7 rfl (lv_at hl 1 rfl) ?_
  refine lv_iload_n hx hb dT_addInt_8 rfl (lv_at hl 2 rfl) ?_
  refine lv_iload_n hx hb dT_addInt_9 rfl (lv_at hl 0 rfl) ?_
  refine lv_ishr hx hb dT_addInt_10 ?_
  refine lv_topi (fun y1 ey1 => ?_)
  obtain ⟨hPc, hDc, hFc⟩ := xcut (wc := [(a0, .inr (1, [.ref a1, .int 8, v3])), (a1, .inl (cT 0, 4096, .inl f4))]) hP hD hS hA [0, 1] rfl rfl (by decide)
  refine va_callv (va_runV (C := "ValueBench$Text") (As := [.int y1]) (rest := []) ⟨hx, hb, hml, hown, htx⟩ (cT_add_8 l hl9 D cT aK aV s.heap.size a0 a1 y1 v3 f4) ⟨callB_of 1 htx (xw_goodC kw_1_207) rfl rfl rfl (htx _ kw_1_2) (htx _ kw_1_204) ⟨by decide, by decide, by decide +kernel⟩ ⟨Nat.le_of_ble_eq_true rfl, Nat.le_of_ble_eq_true rfl⟩, (htx _ kw_1_205), (htx _ kw_1_206)⟩ ⟨xPre_blind, va_recv hK hP (ci := 1) rfl (q0 := 0) rfl, (fun U hU hW => ⟨rfl, xPre_of hZ hS hFc hPc hDc hK U hU hW⟩)⟩ rfl rfl hl.1 rfl (lv_room (Nat.le_of_ble_eq_true rfl)) dT_addInt_11 ⟨Nat.le_of_ble_eq_true rfl, Nat.le_of_ble_eq_true rfl⟩) hS (fun q _ h => hFc q h) hFc (fun u9 t H1 locs ht hvm hr9 hB hz1 hk1 hS => ?_)
  obtain ⟨y2, hP1, hK1, hD1⟩ := hB
  rw [ht] at hP1
  obtain ⟨hP, hD⟩ := xjoin (W := [(a0, .inr (1, [.ref a1, .int 9, v3])), (a1, .inl (cT 0, 4096, .inl (upd f4 8 (vp_nar .byte y2))))]) hP hD [0, 1] [] 0 rfl rfl (by decide) (by decide) hk1 hFc hP1 hD1
  generalize H1 = H at hP hS ⊢
  refine lv_iinc (v := 16) (lv' := [(2, .int 16), (0, .ref a0), (1, .int x2)]) hx hb dT_addInt_14 hl (k := 0) rfl (by decide) (by decide) rfl (fun ls hl => ?_)
  refine lv_goto (tgt := 3) hx hb dT_addInt_17 (by decide) ?_
  refine lv_iload_n hx hb dT_addInt_3 rfl (lv_at hl 0 rfl) ?_
  refine lv_if_lt (tgt := 20) hx hb dT_addInt_4 (by decide) (fun h => ((by revert h; decide : False)).elim) (fun _ => ?_)
  refine lv_aload_n hx hb dT_addInt_7 rfl (lv_at hl 1 rfl) ?_
  refine lv_iload_n hx hb dT_addInt_8 rfl (lv_at hl 2 rfl) ?_
  refine lv_iload_n hx hb dT_addInt_9 rfl (lv_at hl 0 rfl) ?_
  refine lv_ishr hx hb dT_addInt_10 ?_
  refine lv_topi (fun y3 ey3 => ?_)
  obtain ⟨hPc, hDc, hFc⟩ := xcut (wc := [(a0, .inr (1, [.ref a1, .int 9, v3])), (a1, .inl (cT 0, 4096, .inl (upd f4 8 (vp_nar .byte y2))))]) hP hD hS hA [0, 1] rfl rfl (by decide)
  refine va_callv (va_runV (C := "ValueBench$Text") (As := [.int y3]) (rest := []) ⟨hx, hb, hml, hown, htx⟩ (cT_add_9 l hl9 D cT aK aV H.size a0 a1 y3 v3 (upd f4 8 (vp_nar .byte y2))) ⟨callB_of 1 htx (xw_goodC kw_1_207) rfl rfl rfl (htx _ kw_1_2) (htx _ kw_1_204) ⟨by decide, by decide, by decide +kernel⟩ ⟨Nat.le_of_ble_eq_true rfl, Nat.le_of_ble_eq_true rfl⟩, (htx _ kw_1_205), (htx _ kw_1_206)⟩ ⟨xPre_blind, va_recv hK hP (ci := 1) rfl (q0 := 0) rfl, (fun U hU hW => ⟨rfl, xPre_of hZ hS hFc hPc hDc hK U hU hW⟩)⟩ rfl rfl hl.1 rfl (lv_room (Nat.le_of_ble_eq_true rfl)) dT_addInt_11 ⟨Nat.le_of_ble_eq_true rfl, Nat.le_of_ble_eq_true rfl⟩) hS (fun q _ h => hFc q h) hFc (fun u9 t H1 locs ht hvm hr9 hB hz1 hk1 hS => ?_)
  obtain ⟨y4, hP1, hK1, hD1⟩ := hB
  rw [ht] at hP1
  obtain ⟨hP, hD⟩ := xjoin (W := [(a0, .inr (1, [.ref a1, .int 10, v3])), (a1, .inl (cT 0, 4096, .inl (upd (upd f4 8 (vp_nar .byte y2)) 9 (vp_nar .byte y4))))]) hP hD [0, 1] [] 0 rfl rfl (by decide) (by decide) hk1 hFc hP1 hD1
  generalize H1 = H at hP hS ⊢
  refine lv_iinc (v := 8) (lv' := [(2, .int 8), (0, .ref a0), (1, .int x2)]) hx hb dT_addInt_14 hl (k := 0) rfl (by decide) (by decide) rfl (fun ls hl => ?_)
  refine lv_goto (tgt := 3) hx hb dT_addInt_17 (by decide) ?_
  refine lv_iload_n hx hb dT_addInt_3 rfl (lv_at hl 0 rfl) ?_
  refine lv_if_lt (tgt := 20) hx hb dT_addInt_4 (by decide) (fun h => ((by revert h; decide : False)).elim) (fun _ => ?_)
  refine lv_aload_n hx hb dT_addInt_7 rfl (lv_at hl 1 rfl) ?_
  refine lv_iload_n hx hb dT_addInt_8 rfl (lv_at hl 2 rfl) ?_
  refine lv_iload_n hx hb dT_addInt_9 rfl (lv_at hl 0 rfl) ?_
  refine lv_ishr hx hb dT_addInt_10 ?_
  refine lv_topi (fun y5 ey5 => ?_)
  obtain ⟨hPc, hDc, hFc⟩ := xcut (wc := [(a0, .inr (1, [.ref a1, .int 10, v3])), (a1, .inl (cT 0, 4096, .inl (upd (upd f4 8 (vp_nar .byte y2)) 9 (vp_nar .byte y4))))]) hP hD hS hA [0, 1] rfl rfl (by decide)
  refine va_callv (va_runV (C := "ValueBench$Text") (As := [.int y5]) (rest := []) ⟨hx, hb, hml, hown, htx⟩ (cT_add_10 l hl9 D cT aK aV H.size a0 a1 y5 v3 (upd (upd f4 8 (vp_nar .byte y2)) 9 (vp_nar .byte y4))) ⟨callB_of 1 htx (xw_goodC kw_1_207) rfl rfl rfl (htx _ kw_1_2) (htx _ kw_1_204) ⟨by decide, by decide, by decide +kernel⟩ ⟨Nat.le_of_ble_eq_true rfl, Nat.le_of_ble_eq_true rfl⟩, (htx _ kw_1_205), (htx _ kw_1_206)⟩ ⟨xPre_blind, va_recv hK hP (ci := 1) rfl (q0 := 0) rfl, (fun U hU hW => ⟨rfl, xPre_of hZ hS hFc hPc hDc hK U hU hW⟩)⟩ rfl rfl hl.1 rfl (lv_room (Nat.le_of_ble_eq_true rfl)) dT_addInt_11 ⟨Nat.le_of_ble_eq_true rfl, Nat.le_of_ble_eq_true rfl⟩) hS (fun q _ h => hFc q h) hFc (fun u9 t H1 locs ht hvm hr9 hB hz1 hk1 hS => ?_)
  obtain ⟨y6, hP1, hK1, hD1⟩ := hB
  rw [ht] at hP1
  obtain ⟨hP, hD⟩ := xjoin (W := [(a0, .inr (1, [.ref a1, .int 11, v3])), (a1, .inl (cT 0, 4096, .inl (upd (upd (upd f4 8 (vp_nar .byte y2)) 9 (vp_nar .byte y4)) 10 (vp_nar .byte y6))))]) hP hD [0, 1] [] 0 rfl rfl (by decide) (by decide) hk1 hFc hP1 hD1
  generalize H1 = H at hP hS ⊢
  refine lv_iinc (v := 0) (lv' := [(2, .int 0), (0, .ref a0), (1, .int x2)]) hx hb dT_addInt_14 hl (k := 0) rfl (by decide) (by decide) rfl (fun ls hl => ?_)
  refine lv_goto (tgt := 3) hx hb dT_addInt_17 (by decide) ?_
  refine lv_iload_n hx hb dT_addInt_3 rfl (lv_at hl 0 rfl) ?_
  refine lv_if_lt (tgt := 20) hx hb dT_addInt_4 (by decide) (fun h => ((by revert h; decide : False)).elim) (fun _ => ?_)
  refine lv_aload_n hx hb dT_addInt_7 rfl (lv_at hl 1 rfl) ?_
  refine lv_iload_n hx hb dT_addInt_8 rfl (lv_at hl 2 rfl) ?_
  refine lv_iload_n hx hb dT_addInt_9 rfl (lv_at hl 0 rfl) ?_
  refine lv_ishr hx hb dT_addInt_10 ?_
  refine lv_topi (fun y7 ey7 => ?_)
  obtain ⟨hPc, hDc, hFc⟩ := xcut (wc := [(a0, .inr (1, [.ref a1, .int 11, v3])), (a1, .inl (cT 0, 4096, .inl (upd (upd (upd f4 8 (vp_nar .byte y2)) 9 (vp_nar .byte y4)) 10 (vp_nar .byte y6))))]) hP hD hS hA [0, 1] rfl rfl (by decide)
  refine va_callv (va_runV (C := "ValueBench$Text") (As := [.int y7]) (rest := []) ⟨hx, hb, hml, hown, htx⟩ (cT_add_11 l hl9 D cT aK aV H.size a0 a1 y7 v3 (upd (upd (upd f4 8 (vp_nar .byte y2)) 9 (vp_nar .byte y4)) 10 (vp_nar .byte y6))) ⟨callB_of 1 htx (xw_goodC kw_1_207) rfl rfl rfl (htx _ kw_1_2) (htx _ kw_1_204) ⟨by decide, by decide, by decide +kernel⟩ ⟨Nat.le_of_ble_eq_true rfl, Nat.le_of_ble_eq_true rfl⟩, (htx _ kw_1_205), (htx _ kw_1_206)⟩ ⟨xPre_blind, va_recv hK hP (ci := 1) rfl (q0 := 0) rfl, (fun U hU hW => ⟨rfl, xPre_of hZ hS hFc hPc hDc hK U hU hW⟩)⟩ rfl rfl hl.1 rfl (lv_room (Nat.le_of_ble_eq_true rfl)) dT_addInt_11 ⟨Nat.le_of_ble_eq_true rfl, Nat.le_of_ble_eq_true rfl⟩) hS (fun q _ h => hFc q h) hFc (fun u9 t H1 locs ht hvm hr9 hB hz1 hk1 hS => ?_)
  obtain ⟨y8, hP1, hK1, hD1⟩ := hB
  rw [ht] at hP1
  obtain ⟨hP, hD⟩ := xjoin (W := [(a0, .inr (1, [.ref a1, .int 12, v3])), (a1, .inl (cT 0, 4096, .inl (upd (upd (upd (upd f4 8 (vp_nar .byte y2)) 9 (vp_nar .byte y4)) 10 (vp_nar .byte y6)) 11 (vp_nar .byte y8))))]) hP hD [0, 1] [] 0 rfl rfl (by decide) (by decide) hk1 hFc hP1 hD1
  generalize H1 = H at hP hS ⊢
  refine lv_iinc (v := (-8)) (lv' := [(2, .int (-8)), (0, .ref a0), (1, .int x2)]) hx hb dT_addInt_14 hl (k := 0) rfl (by decide) (by decide) rfl (fun ls hl => ?_)
  refine lv_goto (tgt := 3) hx hb dT_addInt_17 (by decide) ?_
  refine lv_iload_n hx hb dT_addInt_3 rfl (lv_at hl 0 rfl) ?_
  refine lv_if_lt (tgt := 20) hx hb dT_addInt_4 (by decide) (fun _ => ?_) (fun h => ((by revert h; decide : False)).elim)
  obtain ⟨hP9, hD9⟩ := xsub (wc := [(a0, .inr (1, [.ref a1, .int 12, v3])), (a1, .inl (cT 0, 4096, .inl (upd (upd (upd (upd f4 8 (vp_nar .byte y2)) 9 (vp_nar .byte y4)) 10 (vp_nar .byte y6)) 11 (vp_nar .byte y8))))]) hP hD [0, 1] rfl rfl (by decide)
  refine W.widen (k := 0) (n := 0) (Nat.le_of_ble_eq_true rfl) (Nat.le_of_ble_eq_true rfl) ?_
  exact W.vret hx hb hr (fun t ht hW => ⟨⟨(), rfl, trivial, y2, y4, y6, y8, by rw [ht]; exact hP9, va_K.moved hW.alike hK, hD9⟩, hS.F ht⟩) hS.2.2 dT_addInt_20
set_option maxHeartbeats 400000000 in
set_option maxRecDepth 100000 in
theorem cT_add_12 (l : Launch) (hl9 : l.stackTraces = false) (D : va_G) (cT : Nat → ClassId) (aK aV : Nat → Nat) (sz : Nat) (a0 : Nat) (a1 : Nat) (x2 : Int32) (v3 : Value) (f4 : Nat → Int32) : xMet l yT_add wyT_add 0 0 0 0 D cT aK aV sz [.ref a0, .int x2] [(a0, .inr (1, [.ref a1, .int 12, v3])), (a1, .inl (cT 0, 4096, .inl f4))] (fun A => va_Qv (fun _ : Unit => True) (fun _ t => ∃ (y1 : Int32), xB D xcl cT A [(a0, .inr (1, [.ref a1, .int 13, v3])), (a1, .inl (cT 0, 4096, .inl (upd f4 12 (vp_nar .byte y1))))] t) A) := by
  refine Met.ofW (cc := prog_11_method_8_code) (maxL := 2) (ret := none) (by decide) rfl ?_
  intro p e s m args below meth c s₁ B hml hv
  obtain ⟨rfl, hsz, hZ, hP, hK, hD0⟩ := hv
  have hx := B.exec
  have hb := B.bytes
  have hr := B.returns
  have hts := atoms_spec (ws := wyT_add) B.pre
  have htx := fun w h => hts w (List.mem_cons_of_mem _ h)
  have hown : s.vm.findClass "ValueBench$Text" = some m.cls := findClass_of_methodNamed B.named
  have hlocks := B.notSynchronized
  subst hsz
  have hD := hD0.self (sz := s.heap.size)
  generalize hAe : va_A [(a0, .inr (1, [.ref a1, .int 12, v3])), (a1, .inl (cT 0, 4096, .inl f4))] s.heap.size = A at hD hZ ⊢
  have hA : ∀ q : Nat, s.heap.size ≤ q → A q := fun q h => by rw [← hAe]; exact Or.inr h
  have hS : va_S A s.heap s.heap [] := va_S.rf
  have hP : va_P D xcl [(a0, .inr (1, [.ref a1, .int 12, v3])), (a1, .inl (cT 0, 4096, .inl f4))] s.heap := hP
  have hl := lv_entry ([.ref a0, .int x2]) (n := 2) (Nat.le_of_ble_eq_true rfl)
  rw [lg_entry_eq]
  generalize (lg_sl ([.ref a0, .int x2]) ++ List.replicate (2 - (lg_sl ([.ref a0, .int x2])).length) Slot.unset).toArray = ls at hl ⊢
  have hl : lv_has ls 2 [(0, .ref a0), (1, .int x2)] := hl
  refine lv_aload_n hx hb dT_add_0 rfl (lv_at hl 0 rfl) ?_
  refine va_get (D := D) (ci := 1) (v := .int 12) (C := "ValueBench$Text") (T := TT) (N := 3) hx hb htx inT hown hK hP 0 rfl rfl 1 (by decide) (htx _ kw_1_44) (fun _ h9 => h9) rfl dT_add_1 ?_
  refine lv_sipush (v := 4096) hx hb dT_add_4 (by decide) ?_
  refine lv_icmp_lt (tgt := 16) hx hb dT_add_7 (by decide) (fun _ => ?_) (fun h => ((by revert h; decide : False)).elim)
  refine lv_aload_n hx hb dT_add_16 rfl (lv_at hl 0 rfl) ?_
  refine va_get (D := D) (ci := 1) (v := .ref a1) (C := "ValueBench$Text") (T := TT) (N := 3) hx hb htx inT hown hK hP 0 rfl rfl 0 (by decide) (htx _ kw_1_43) (fun _ h9 => h9) rfl dT_add_17 ?_
  refine lv_aload_n hx hb dT_add_20 rfl (lv_at hl 0 rfl) ?_
  refine va_get (D := D) (ci := 1) (v := .int 12) (C := "ValueBench$Text") (T := TT) (N := 3) hx hb htx inT hown hK hP 0 rfl rfl 1 (by decide) (htx _ kw_1_44) (fun _ h9 => h9) rfl dT_add_21 ?_
  refine lv_iload_n hx hb dT_add_24 rfl (lv_at hl 1 rfl) ?_
  refine lv_i2b hx hb dT_add_25 rfl ?_
  refine lv_topi (fun y1 ey1 => ?_)
  refine va_bast hx hb hK hP hD hS 1 0 rfl rfl (show ¬ ((12 : Int32) < 0 ∨ 4096 ≤ (12 : Int32).toNatClampNeg) by decide) dT_add_26 (fun H locs hP hD hS => ?_)
  obtain ⟨hP, hD⟩ : xPD D xcl A [(a0, .inr (1, [.ref a1, .int 12, v3])), (a1, .inl (cT 0, 4096, .inl (upd f4 12 (vp_nar .byte y1))))] H := ⟨hP, hD⟩
  refine lv_aload_n hx hb dT_add_27 rfl (lv_at hl 0 rfl) ?_
  refine lv_dup hx hb dT_add_28 rfl ?_
  refine va_get (D := D) (ci := 1) (v := .int 12) (C := "ValueBench$Text") (T := TT) (N := 3) hx hb htx inT hown hK hP 0 rfl rfl 1 (by decide) (htx _ kw_1_44) (fun _ h9 => h9) rfl dT_add_29 ?_
  refine lv_iconst (v := 1) hx hb dT_add_32 (by decide) ?_
  refine lv_iadd hx hb dT_add_33 ?_
  refine W.eq (g2 := F0 m 34 ls [.int 13, .ref a0]) rfl ?_
  refine va_put (D := D) (ci := 1) (v := .int 13) (ty := .int) (C := "ValueBench$Text") (T := TT) (N := 3) hx hb htx inT tyT tyT_ok nmT hown hK hP hD hS 0 rfl rfl 1 (by decide) (htx _ kw_1_44) (fun _ h9 => h9) rfl (by decide +kernel) rfl rfl (Nat.le_of_ble_eq_true rfl) dT_add_34 (fun H locs hP hD hS => ?_)
  obtain ⟨hP, hD⟩ : xPD D xcl A [(a0, .inr (1, [.ref a1, .int 13, v3])), (a1, .inl (cT 0, 4096, .inl (upd f4 12 (vp_nar .byte y1))))] H := ⟨hP, hD⟩
  obtain ⟨hP9, hD9⟩ := xsub (wc := [(a0, .inr (1, [.ref a1, .int 13, v3])), (a1, .inl (cT 0, 4096, .inl (upd f4 12 (vp_nar .byte y1))))]) hP hD [0, 1] rfl rfl (by decide)
  refine W.widen (k := 0) (n := 0) (Nat.le_of_ble_eq_true rfl) (Nat.le_of_ble_eq_true rfl) ?_
  exact W.vret hx hb hr (fun t ht hW => ⟨⟨(), rfl, trivial, y1, by rw [ht]; exact hP9, va_K.moved hW.alike hK, hD9⟩, hS.F ht⟩) hS.2.2 dT_add_37
set_option maxHeartbeats 400000000 in
set_option maxRecDepth 100000 in
theorem cT_add_13 (l : Launch) (hl9 : l.stackTraces = false) (D : va_G) (cT : Nat → ClassId) (aK aV : Nat → Nat) (sz : Nat) (a0 : Nat) (a1 : Nat) (x2 : Int32) (v3 : Value) (f4 : Nat → Int32) : xMet l yT_add wyT_add 0 0 0 0 D cT aK aV sz [.ref a0, .int x2] [(a0, .inr (1, [.ref a1, .int 13, v3])), (a1, .inl (cT 0, 4096, .inl f4))] (fun A => va_Qv (fun _ : Unit => True) (fun _ t => ∃ (y1 : Int32), xB D xcl cT A [(a0, .inr (1, [.ref a1, .int 14, v3])), (a1, .inl (cT 0, 4096, .inl (upd f4 13 (vp_nar .byte y1))))] t) A) := by
  refine Met.ofW (cc := prog_11_method_8_code) (maxL := 2) (ret := none) (by decide) rfl ?_
  intro p e s m args below meth c s₁ B hml hv
  obtain ⟨rfl, hsz, hZ, hP, hK, hD0⟩ := hv
  have hx := B.exec
  have hb := B.bytes
  have hr := B.returns
  have hts := atoms_spec (ws := wyT_add) B.pre
  have htx := fun w h => hts w (List.mem_cons_of_mem _ h)
  have hown : s.vm.findClass "ValueBench$Text" = some m.cls := findClass_of_methodNamed B.named
  have hlocks := B.notSynchronized
  subst hsz
  have hD := hD0.self (sz := s.heap.size)
  generalize hAe : va_A [(a0, .inr (1, [.ref a1, .int 13, v3])), (a1, .inl (cT 0, 4096, .inl f4))] s.heap.size = A at hD hZ ⊢
  have hA : ∀ q : Nat, s.heap.size ≤ q → A q := fun q h => by rw [← hAe]; exact Or.inr h
  have hS : va_S A s.heap s.heap [] := va_S.rf
  have hP : va_P D xcl [(a0, .inr (1, [.ref a1, .int 13, v3])), (a1, .inl (cT 0, 4096, .inl f4))] s.heap := hP
  have hl := lv_entry ([.ref a0, .int x2]) (n := 2) (Nat.le_of_ble_eq_true rfl)
  rw [lg_entry_eq]
  generalize (lg_sl ([.ref a0, .int x2]) ++ List.replicate (2 - (lg_sl ([.ref a0, .int x2])).length) Slot.unset).toArray = ls at hl ⊢
  have hl : lv_has ls 2 [(0, .ref a0), (1, .int x2)] := hl
  refine lv_aload_n hx hb dT_add_0 rfl (lv_at hl 0 rfl) ?_
  refine va_get (D := D) (ci := 1) (v := .int 13) (C := "ValueBench$Text") (T := TT) (N := 3) hx hb htx inT hown hK hP 0 rfl rfl 1 (by decide) (htx _ kw_1_44) (fun _ h9 => h9) rfl dT_add_1 ?_
  refine lv_sipush (v := 4096) hx hb dT_add_4 (by decide) ?_
  refine lv_icmp_lt (tgt := 16) hx hb dT_add_7 (by decide) (fun _ => ?_) (fun h => ((by revert h; decide : False)).elim)
  refine lv_aload_n hx hb dT_add_16 rfl (lv_at hl 0 rfl) ?_
  refine va_get (D := D) (ci := 1) (v := .ref a1) (C := "ValueBench$Text") (T := TT) (N := 3) hx hb htx inT hown hK hP 0 rfl rfl 0 (by decide) (htx _ kw_1_43) (fun _ h9 => h9) rfl dT_add_17 ?_
  refine lv_aload_n hx hb dT_add_20 rfl (lv_at hl 0 rfl) ?_
  refine va_get (D := D) (ci := 1) (v := .int 13) (C := "ValueBench$Text") (T := TT) (N := 3) hx hb htx inT hown hK hP 0 rfl rfl 1 (by decide) (htx _ kw_1_44) (fun _ h9 => h9) rfl dT_add_21 ?_
  refine lv_iload_n hx hb dT_add_24 rfl (lv_at hl 1 rfl) ?_
  refine lv_i2b hx hb dT_add_25 rfl ?_
  refine lv_topi (fun y1 ey1 => ?_)
  refine va_bast hx hb hK hP hD hS 1 0 rfl rfl (show ¬ ((13 : Int32) < 0 ∨ 4096 ≤ (13 : Int32).toNatClampNeg) by decide) dT_add_26 (fun H locs hP hD hS => ?_)
  obtain ⟨hP, hD⟩ : xPD D xcl A [(a0, .inr (1, [.ref a1, .int 13, v3])), (a1, .inl (cT 0, 4096, .inl (upd f4 13 (vp_nar .byte y1))))] H := ⟨hP, hD⟩
  refine lv_aload_n hx hb dT_add_27 rfl (lv_at hl 0 rfl) ?_
  refine lv_dup hx hb dT_add_28 rfl ?_
  refine va_get (D := D) (ci := 1) (v := .int 13) (C := "ValueBench$Text") (T := TT) (N := 3) hx hb htx inT hown hK hP 0 rfl rfl 1 (by decide) (htx _ kw_1_44) (fun _ h9 => h9) rfl dT_add_29 ?_
  refine lv_iconst (v := 1) hx hb dT_add_32 (by decide) ?_
  refine lv_iadd hx hb dT_add_33 ?_
  refine W.eq (g2 := F0 m 34 ls [.int 14, .ref a0]) rfl ?_
  refine va_put (D := D) (ci := 1) (v := .int 14) (ty := .int) (C := "ValueBench$Text") (T := TT) (N := 3) hx hb htx inT tyT tyT_ok nmT hown hK hP hD hS 0 rfl rfl 1 (by decide) (htx _ kw_1_44) (fun _ h9 => h9) rfl (by decide +kernel) rfl rfl (Nat.le_of_ble_eq_true rfl) dT_add_34 (fun H locs hP hD hS => ?_)
  obtain ⟨hP, hD⟩ : xPD D xcl A [(a0, .inr (1, [.ref a1, .int 14, v3])), (a1, .inl (cT 0, 4096, .inl (upd f4 13 (vp_nar .byte y1))))] H := ⟨hP, hD⟩
  obtain ⟨hP9, hD9⟩ := xsub (wc := [(a0, .inr (1, [.ref a1, .int 14, v3])), (a1, .inl (cT 0, 4096, .inl (upd f4 13 (vp_nar .byte y1))))]) hP hD [0, 1] rfl rfl (by decide)
  refine W.widen (k := 0) (n := 0) (Nat.le_of_ble_eq_true rfl) (Nat.le_of_ble_eq_true rfl) ?_
  exact W.vret hx hb hr (fun t ht hW => ⟨⟨(), rfl, trivial, y1, by rw [ht]; exact hP9, va_K.moved hW.alike hK, hD9⟩, hS.F ht⟩) hS.2.2 dT_add_37
set_option maxHeartbeats 400000000 in
set_option maxRecDepth 100000 in
theorem cT_add_14 (l : Launch) (hl9 : l.stackTraces = false) (D : va_G) (cT : Nat → ClassId) (aK aV : Nat → Nat) (sz : Nat) (a0 : Nat) (a1 : Nat) (x2 : Int32) (v3 : Value) (f4 : Nat → Int32) : xMet l yT_add wyT_add 0 0 0 0 D cT aK aV sz [.ref a0, .int x2] [(a0, .inr (1, [.ref a1, .int 14, v3])), (a1, .inl (cT 0, 4096, .inl f4))] (fun A => va_Qv (fun _ : Unit => True) (fun _ t => ∃ (y1 : Int32), xB D xcl cT A [(a0, .inr (1, [.ref a1, .int 15, v3])), (a1, .inl (cT 0, 4096, .inl (upd f4 14 (vp_nar .byte y1))))] t) A) := by
  refine Met.ofW (cc := prog_11_method_8_code) (maxL := 2) (ret := none) (by decide) rfl ?_
  intro p e s m args below meth c s₁ B hml hv
  obtain ⟨rfl, hsz, hZ, hP, hK, hD0⟩ := hv
  have hx := B.exec
  have hb := B.bytes
  have hr := B.returns
  have hts := atoms_spec (ws := wyT_add) B.pre
  have htx := fun w h => hts w (List.mem_cons_of_mem _ h)
  have hown : s.vm.findClass "ValueBench$Text" = some m.cls := findClass_of_methodNamed B.named
  have hlocks := B.notSynchronized
  subst hsz
  have hD := hD0.self (sz := s.heap.size)
  generalize hAe : va_A [(a0, .inr (1, [.ref a1, .int 14, v3])), (a1, .inl (cT 0, 4096, .inl f4))] s.heap.size = A at hD hZ ⊢
  have hA : ∀ q : Nat, s.heap.size ≤ q → A q := fun q h => by rw [← hAe]; exact Or.inr h
  have hS : va_S A s.heap s.heap [] := va_S.rf
  have hP : va_P D xcl [(a0, .inr (1, [.ref a1, .int 14, v3])), (a1, .inl (cT 0, 4096, .inl f4))] s.heap := hP
  have hl := lv_entry ([.ref a0, .int x2]) (n := 2) (Nat.le_of_ble_eq_true rfl)
  rw [lg_entry_eq]
  generalize (lg_sl ([.ref a0, .int x2]) ++ List.replicate (2 - (lg_sl ([.ref a0, .int x2])).length) Slot.unset).toArray = ls at hl ⊢
  have hl : lv_has ls 2 [(0, .ref a0), (1, .int x2)] := hl
  refine lv_aload_n hx hb dT_add_0 rfl (lv_at hl 0 rfl) ?_
  refine va_get (D := D) (ci := 1) (v := .int 14) (C := "ValueBench$Text") (T := TT) (N := 3) hx hb htx inT hown hK hP 0 rfl rfl 1 (by decide) (htx _ kw_1_44) (fun _ h9 => h9) rfl dT_add_1 ?_
  refine lv_sipush (v := 4096) hx hb dT_add_4 (by decide) ?_
  refine lv_icmp_lt (tgt := 16) hx hb dT_add_7 (by decide) (fun _ => ?_) (fun h => ((by revert h; decide : False)).elim)
  refine lv_aload_n hx hb dT_add_16 rfl (lv_at hl 0 rfl) ?_
  refine va_get (D := D) (ci := 1) (v := .ref a1) (C := "ValueBench$Text") (T := TT) (N := 3) hx hb htx inT hown hK hP 0 rfl rfl 0 (by decide) (htx _ kw_1_43) (fun _ h9 => h9) rfl dT_add_17 ?_
  refine lv_aload_n hx hb dT_add_20 rfl (lv_at hl 0 rfl) ?_
  refine va_get (D := D) (ci := 1) (v := .int 14) (C := "ValueBench$Text") (T := TT) (N := 3) hx hb htx inT hown hK hP 0 rfl rfl 1 (by decide) (htx _ kw_1_44) (fun _ h9 => h9) rfl dT_add_21 ?_
  refine lv_iload_n hx hb dT_add_24 rfl (lv_at hl 1 rfl) ?_
  refine lv_i2b hx hb dT_add_25 rfl ?_
  refine lv_topi (fun y1 ey1 => ?_)
  refine va_bast hx hb hK hP hD hS 1 0 rfl rfl (show ¬ ((14 : Int32) < 0 ∨ 4096 ≤ (14 : Int32).toNatClampNeg) by decide) dT_add_26 (fun H locs hP hD hS => ?_)
  obtain ⟨hP, hD⟩ : xPD D xcl A [(a0, .inr (1, [.ref a1, .int 14, v3])), (a1, .inl (cT 0, 4096, .inl (upd f4 14 (vp_nar .byte y1))))] H := ⟨hP, hD⟩
  refine lv_aload_n hx hb dT_add_27 rfl (lv_at hl 0 rfl) ?_
  refine lv_dup hx hb dT_add_28 rfl ?_
  refine va_get (D := D) (ci := 1) (v := .int 14) (C := "ValueBench$Text") (T := TT) (N := 3) hx hb htx inT hown hK hP 0 rfl rfl 1 (by decide) (htx _ kw_1_44) (fun _ h9 => h9) rfl dT_add_29 ?_
  refine lv_iconst (v := 1) hx hb dT_add_32 (by decide) ?_
  refine lv_iadd hx hb dT_add_33 ?_
  refine W.eq (g2 := F0 m 34 ls [.int 15, .ref a0]) rfl ?_
  refine va_put (D := D) (ci := 1) (v := .int 15) (ty := .int) (C := "ValueBench$Text") (T := TT) (N := 3) hx hb htx inT tyT tyT_ok nmT hown hK hP hD hS 0 rfl rfl 1 (by decide) (htx _ kw_1_44) (fun _ h9 => h9) rfl (by decide +kernel) rfl rfl (Nat.le_of_ble_eq_true rfl) dT_add_34 (fun H locs hP hD hS => ?_)
  obtain ⟨hP, hD⟩ : xPD D xcl A [(a0, .inr (1, [.ref a1, .int 15, v3])), (a1, .inl (cT 0, 4096, .inl (upd f4 14 (vp_nar .byte y1))))] H := ⟨hP, hD⟩
  obtain ⟨hP9, hD9⟩ := xsub (wc := [(a0, .inr (1, [.ref a1, .int 15, v3])), (a1, .inl (cT 0, 4096, .inl (upd f4 14 (vp_nar .byte y1))))]) hP hD [0, 1] rfl rfl (by decide)
  refine W.widen (k := 0) (n := 0) (Nat.le_of_ble_eq_true rfl) (Nat.le_of_ble_eq_true rfl) ?_
  exact W.vret hx hb hr (fun t ht hW => ⟨⟨(), rfl, trivial, y1, by rw [ht]; exact hP9, va_K.moved hW.alike hK, hD9⟩, hS.F ht⟩) hS.2.2 dT_add_37
set_option maxHeartbeats 400000000 in
set_option maxRecDepth 100000 in
theorem cT_add_15 (l : Launch) (hl9 : l.stackTraces = false) (D : va_G) (cT : Nat → ClassId) (aK aV : Nat → Nat) (sz : Nat) (a0 : Nat) (a1 : Nat) (x2 : Int32) (v3 : Value) (f4 : Nat → Int32) : xMet l yT_add wyT_add 0 0 0 0 D cT aK aV sz [.ref a0, .int x2] [(a0, .inr (1, [.ref a1, .int 15, v3])), (a1, .inl (cT 0, 4096, .inl f4))] (fun A => va_Qv (fun _ : Unit => True) (fun _ t => ∃ (y1 : Int32), xB D xcl cT A [(a0, .inr (1, [.ref a1, .int 16, v3])), (a1, .inl (cT 0, 4096, .inl (upd f4 15 (vp_nar .byte y1))))] t) A) := by
  refine Met.ofW (cc := prog_11_method_8_code) (maxL := 2) (ret := none) (by decide) rfl ?_
  intro p e s m args below meth c s₁ B hml hv
  obtain ⟨rfl, hsz, hZ, hP, hK, hD0⟩ := hv
  have hx := B.exec
  have hb := B.bytes
  have hr := B.returns
  have hts := atoms_spec (ws := wyT_add) B.pre
  have htx := fun w h => hts w (List.mem_cons_of_mem _ h)
  have hown : s.vm.findClass "ValueBench$Text" = some m.cls := findClass_of_methodNamed B.named
  have hlocks := B.notSynchronized
  subst hsz
  have hD := hD0.self (sz := s.heap.size)
  generalize hAe : va_A [(a0, .inr (1, [.ref a1, .int 15, v3])), (a1, .inl (cT 0, 4096, .inl f4))] s.heap.size = A at hD hZ ⊢
  have hA : ∀ q : Nat, s.heap.size ≤ q → A q := fun q h => by rw [← hAe]; exact Or.inr h
  have hS : va_S A s.heap s.heap [] := va_S.rf
  have hP : va_P D xcl [(a0, .inr (1, [.ref a1, .int 15, v3])), (a1, .inl (cT 0, 4096, .inl f4))] s.heap := hP
  have hl := lv_entry ([.ref a0, .int x2]) (n := 2) (Nat.le_of_ble_eq_true rfl)
  rw [lg_entry_eq]
  generalize (lg_sl ([.ref a0, .int x2]) ++ List.replicate (2 - (lg_sl ([.ref a0, .int x2])).length) Slot.unset).toArray = ls at hl ⊢
  have hl : lv_has ls 2 [(0, .ref a0), (1, .int x2)] := hl
  refine lv_aload_n hx hb dT_add_0 rfl (lv_at hl 0 rfl) ?_
  refine va_get (D := D) (ci := 1) (v := .int 15) (C := "ValueBench$Text") (T := TT) (N := 3) hx hb htx inT hown hK hP 0 rfl rfl 1 (by decide) (htx _ kw_1_44) (fun _ h9 => h9) rfl dT_add_1 ?_
  refine lv_sipush (v := 4096) hx hb dT_add_4 (by decide) ?_
  refine lv_icmp_lt (tgt := 16) hx hb dT_add_7 (by decide) (fun _ => ?_) (fun h => ((by revert h; decide : False)).elim)
  refine lv_aload_n hx hb dT_add_16 rfl (lv_at hl 0 rfl) ?_
  refine va_get (D := D) (ci := 1) (v := .ref a1) (C := "ValueBench$Text") (T := TT) (N := 3) hx hb htx inT hown hK hP 0 rfl rfl 0 (by decide) (htx _ kw_1_43) (fun _ h9 => h9) rfl dT_add_17 ?_
  refine lv_aload_n hx hb dT_add_20 rfl (lv_at hl 0 rfl) ?_
  refine va_get (D := D) (ci := 1) (v := .int 15) (C := "ValueBench$Text") (T := TT) (N := 3) hx hb htx inT hown hK hP 0 rfl rfl 1 (by decide) (htx _ kw_1_44) (fun _ h9 => h9) rfl dT_add_21 ?_
  refine lv_iload_n hx hb dT_add_24 rfl (lv_at hl 1 rfl) ?_
  refine lv_i2b hx hb dT_add_25 rfl ?_
  refine lv_topi (fun y1 ey1 => ?_)
  refine va_bast hx hb hK hP hD hS 1 0 rfl rfl (show ¬ ((15 : Int32) < 0 ∨ 4096 ≤ (15 : Int32).toNatClampNeg) by decide) dT_add_26 (fun H locs hP hD hS => ?_)
  obtain ⟨hP, hD⟩ : xPD D xcl A [(a0, .inr (1, [.ref a1, .int 15, v3])), (a1, .inl (cT 0, 4096, .inl (upd f4 15 (vp_nar .byte y1))))] H := ⟨hP, hD⟩
  refine lv_aload_n hx hb dT_add_27 rfl (lv_at hl 0 rfl) ?_
  refine lv_dup hx hb dT_add_28 rfl ?_
  refine va_get (D := D) (ci := 1) (v := .int 15) (C := "ValueBench$Text") (T := TT) (N := 3) hx hb htx inT hown hK hP 0 rfl rfl 1 (by decide) (htx _ kw_1_44) (fun _ h9 => h9) rfl dT_add_29 ?_
  refine lv_iconst (v := 1) hx hb dT_add_32 (by decide) ?_
  refine lv_iadd hx hb dT_add_33 ?_
  refine W.eq (g2 := F0 m 34 ls [.int 16, .ref a0]) rfl ?_
  refine va_put (D := D) (ci := 1) (v := .int 16) (ty := .int) (C := "ValueBench$Text") (T := TT) (N := 3) hx hb htx inT tyT tyT_ok nmT hown hK hP hD hS 0 rfl rfl 1 (by decide) (htx _ kw_1_44) (fun _ h9 => h9) rfl (by decide +kernel) rfl rfl (Nat.le_of_ble_eq_true rfl) dT_add_34 (fun H locs hP hD hS => ?_)
  obtain ⟨hP, hD⟩ : xPD D xcl A [(a0, .inr (1, [.ref a1, .int 16, v3])), (a1, .inl (cT 0, 4096, .inl (upd f4 15 (vp_nar .byte y1))))] H := ⟨hP, hD⟩
  obtain ⟨hP9, hD9⟩ := xsub (wc := [(a0, .inr (1, [.ref a1, .int 16, v3])), (a1, .inl (cT 0, 4096, .inl (upd f4 15 (vp_nar .byte y1))))]) hP hD [0, 1] rfl rfl (by decide)
  refine W.widen (k := 0) (n := 0) (Nat.le_of_ble_eq_true rfl) (Nat.le_of_ble_eq_true rfl) ?_
  exact W.vret hx hb hr (fun t ht hW => ⟨⟨(), rfl, trivial, y1, by rw [ht]; exact hP9, va_K.moved hW.alike hK, hD9⟩, hS.F ht⟩) hS.2.2 dT_add_37
set_option maxHeartbeats 400000000 in
set_option maxRecDepth 100000 in
theorem cT_addInt_3 (l : Launch) (hl9 : l.stackTraces = false) (D : va_G) (cT : Nat → ClassId) (aK aV : Nat → Nat) (sz : Nat) (a0 : Nat) (a1 : Nat) (x2 : Int32) (v3 : Value) (f4 : Nat → Int32) : xMet l yT_addInt wyT_addInt 1 0 0 21 D cT aK aV sz [.ref a0, .int x2] [(a0, .inr (1, [.ref a1, .int 12, v3])), (a1, .inl (cT 0, 4096, .inl f4))] (fun A => va_Qv (fun _ : Unit => True) (fun _ t => ∃ (y2 : Int32) (y4 : Int32) (y6 : Int32) (y8 : Int32), xB D xcl cT A [(a0, .inr (1, [.ref a1, .int 16, v3])), (a1, .inl (cT 0, 4096, .inl (upd (upd (upd (upd f4 12 (vp_nar .byte y2)) 13 (vp_nar .byte y4)) 14 (vp_nar .byte y6)) 15 (vp_nar .byte y8))))] t) A) := by
  refine Met.ofW (cc := prog_11_method_9_code) (maxL := 3) (ret := none) (by decide) rfl ?_
  intro p e s m args below meth c s₁ B hml hv
  obtain ⟨rfl, hsz, hZ, hP, hK, hD0⟩ := hv
  have hx := B.exec
  have hb := B.bytes
  have hr := B.returns
  have hts := atoms_spec (ws := wyT_addInt) B.pre
  have htx := fun w h => hts w (List.mem_cons_of_mem _ h)
  have hown : s.vm.findClass "ValueBench$Text" = some m.cls := findClass_of_methodNamed B.named
  have hlocks := B.notSynchronized
  subst hsz
  have hD := hD0.self (sz := s.heap.size)
  generalize hAe : va_A [(a0, .inr (1, [.ref a1, .int 12, v3])), (a1, .inl (cT 0, 4096, .inl f4))] s.heap.size = A at hD hZ ⊢
  have hA : ∀ q : Nat, s.heap.size ≤ q → A q := fun q h => by rw [← hAe]; exact Or.inr h
  have hS : va_S A s.heap s.heap [] := va_S.rf
  have hP : va_P D xcl [(a0, .inr (1, [.ref a1, .int 12, v3])), (a1, .inl (cT 0, 4096, .inl f4))] s.heap := hP
  have hl := lv_entry ([.ref a0, .int x2]) (n := 3) (Nat.le_of_ble_eq_true rfl)
  rw [lg_entry_eq]
  generalize (lg_sl ([.ref a0, .int x2]) ++ List.replicate (3 - (lg_sl ([.ref a0, .int x2])).length) Slot.unset).toArray = ls at hl ⊢
  have hl : lv_has ls 3 [(0, .ref a0), (1, .int x2)] := hl
  refine lv_bipush (v := 24) hx hb dT_addInt_0 (by decide) ?_
  refine lv_istore_n (lv' := [(2, .int 24), (0, .ref a0), (1, .int x2)]) hx hb dT_addInt_2 rfl hl (by decide) rfl (fun ls hl => ?_)
  refine lv_iload_n hx hb dT_addInt_3 rfl (lv_at hl 0 rfl) ?_
  refine lv_if_lt (tgt := 20) hx hb dT_addInt_4 (by decide) (fun h => ((by revert h; decide : False)).elim) (fun _ => ?_)
  refine lv_aload_n hx hb dT_addInt_7 rfl (lv_at hl 1 rfl) ?_
  refine lv_iload_n hx hb dT_addInt_8 rfl (lv_at hl 2 rfl) ?_
  refine lv_iload_n hx hb dT_addInt_9 rfl (lv_at hl 0 rfl) ?_
  refine lv_ishr hx hb dT_addInt_10 ?_
  refine lv_topi (fun y1 ey1 => ?_)
  obtain ⟨hPc, hDc, hFc⟩ := xcut (wc := [(a0, .inr (1, [.ref a1, .int 12, v3])), (a1, .inl (cT 0, 4096, .inl f4))]) hP hD hS hA [0, 1] rfl rfl (by decide)
  refine va_callv (va_runV (C := "ValueBench$Text") (As := [.int y1]) (rest := []) ⟨hx, hb, hml, hown, htx⟩ (cT_add_12 l hl9 D cT aK aV s.heap.size a0 a1 y1 v3 f4) ⟨callB_of 1 htx (xw_goodC kw_1_207) rfl rfl rfl (htx _ kw_1_2) (htx _ kw_1_204) ⟨by decide, by decide, by decide +kernel⟩ ⟨Nat.le_of_ble_eq_true rfl, Nat.le_of_ble_eq_true rfl⟩, (htx _ kw_1_205), (htx _ kw_1_206)⟩ ⟨xPre_blind, va_recv hK hP (ci := 1) rfl (q0 := 0) rfl, (fun U hU hW => ⟨rfl, xPre_of hZ hS hFc hPc hDc hK U hU hW⟩)⟩ rfl rfl hl.1 rfl (lv_room (Nat.le_of_ble_eq_true rfl)) dT_addInt_11 ⟨Nat.le_of_ble_eq_true rfl, Nat.le_of_ble_eq_true rfl⟩) hS (fun q _ h => hFc q h) hFc (fun u9 t H1 locs ht hvm hr9 hB hz1 hk1 hS => ?_)
  obtain ⟨y2, hP1, hK1, hD1⟩ := hB
  rw [ht] at hP1
  obtain ⟨hP, hD⟩ := xjoin (W := [(a0, .inr (1, [.ref a1, .int 13, v3])), (a1, .inl (cT 0, 4096, .inl (upd f4 12 (vp_nar .byte y2))))]) hP hD [0, 1] [] 0 rfl rfl (by decide) (by decide) hk1 hFc hP1 hD1
  generalize H1 = H at hP hS ⊢
  refine lv_iinc (v := 16) (lv' := [(2, .int 16), (0, .ref a0), (1, .int x2)]) hx hb dT_addInt_14 hl (k := 0) rfl (by decide) (by decide) rfl (fun ls hl => ?_)
  refine lv_goto (tgt := 3) hx hb dT_addInt_17 (by decide) ?_
  refine lv_iload_n hx hb dT_addInt_3 rfl (lv_at hl 0 rfl) ?_
  refine lv_if_lt (tgt := 20) hx hb dT_addInt_4 (by decide) (fun h => ((by revert h; decide : False)).elim) (fun _ => ?_)
  refine lv_aload_n hx hb dT_addInt_7 rfl (lv_at hl 1 rfl) ?_
  refine lv_iload_n hx hb dT_addInt_8 rfl (lv_at hl 2 rfl) ?_
  refine lv_iload_n hx hb dT_addInt_9 rfl (lv_at hl 0 rfl) ?_
  refine lv_ishr hx hb dT_addInt_10 ?_
  refine lv_topi (fun y3 ey3 => ?_)
  obtain ⟨hPc, hDc, hFc⟩ := xcut (wc := [(a0, .inr (1, [.ref a1, .int 13, v3])), (a1, .inl (cT 0, 4096, .inl (upd f4 12 (vp_nar .byte y2))))]) hP hD hS hA [0, 1] rfl rfl (by decide)
  refine va_callv (va_runV (C := "ValueBench$Text") (As := [.int y3]) (rest := []) ⟨hx, hb, hml, hown, htx⟩ (cT_add_13 l hl9 D cT aK aV H.size a0 a1 y3 v3 (upd f4 12 (vp_nar .byte y2))) ⟨callB_of 1 htx (xw_goodC kw_1_207) rfl rfl rfl (htx _ kw_1_2) (htx _ kw_1_204) ⟨by decide, by decide, by decide +kernel⟩ ⟨Nat.le_of_ble_eq_true rfl, Nat.le_of_ble_eq_true rfl⟩, (htx _ kw_1_205), (htx _ kw_1_206)⟩ ⟨xPre_blind, va_recv hK hP (ci := 1) rfl (q0 := 0) rfl, (fun U hU hW => ⟨rfl, xPre_of hZ hS hFc hPc hDc hK U hU hW⟩)⟩ rfl rfl hl.1 rfl (lv_room (Nat.le_of_ble_eq_true rfl)) dT_addInt_11 ⟨Nat.le_of_ble_eq_true rfl, Nat.le_of_ble_eq_true rfl⟩) hS (fun q _ h => hFc q h) hFc (fun u9 t H1 locs ht hvm hr9 hB hz1 hk1 hS => ?_)
  obtain ⟨y4, hP1, hK1, hD1⟩ := hB
  rw [ht] at hP1
  obtain ⟨hP, hD⟩ := xjoin (W := [(a0, .inr (1, [.ref a1, .int 14, v3])), (a1, .inl (cT 0, 4096, .inl (upd (upd f4 12 (vp_nar .byte y2)) 13 (vp_nar .byte y4))))]) hP hD [0, 1] [] 0 rfl rfl (by decide) (by decide) hk1 hFc hP1 hD1
  generalize H1 = H at hP hS ⊢
  refine lv_iinc (v := 8) (lv' := [(2, .int 8), (0, .ref a0), (1, .int x2)]) hx hb dT_addInt_14 hl (k := 0) rfl (by decide) (by decide) rfl (fun ls hl => ?_)
  refine lv_goto (tgt := 3) hx hb dT_addInt_17 (by decide) ?_
  refine lv_iload_n hx hb dT_addInt_3 rfl (lv_at hl 0 rfl) ?_
  refine lv_if_lt (tgt := 20) hx hb dT_addInt_4 (by decide) (fun h => ((by revert h; decide : False)).elim) (fun _ => ?_)
  refine lv_aload_n hx hb dT_addInt_7 rfl (lv_at hl 1 rfl) ?_
  refine lv_iload_n hx hb dT_addInt_8 rfl (lv_at hl 2 rfl) ?_
  refine lv_iload_n hx hb dT_addInt_9 rfl (lv_at hl 0 rfl) ?_
  refine lv_ishr hx hb dT_addInt_10 ?_
  refine lv_topi (fun y5 ey5 => ?_)
  obtain ⟨hPc, hDc, hFc⟩ := xcut (wc := [(a0, .inr (1, [.ref a1, .int 14, v3])), (a1, .inl (cT 0, 4096, .inl (upd (upd f4 12 (vp_nar .byte y2)) 13 (vp_nar .byte y4))))]) hP hD hS hA [0, 1] rfl rfl (by decide)
  refine va_callv (va_runV (C := "ValueBench$Text") (As := [.int y5]) (rest := []) ⟨hx, hb, hml, hown, htx⟩ (cT_add_14 l hl9 D cT aK aV H.size a0 a1 y5 v3 (upd (upd f4 12 (vp_nar .byte y2)) 13 (vp_nar .byte y4))) ⟨callB_of 1 htx (xw_goodC kw_1_207) rfl rfl rfl (htx _ kw_1_2) (htx _ kw_1_204) ⟨by decide, by decide, by decide +kernel⟩ ⟨Nat.le_of_ble_eq_true rfl, Nat.le_of_ble_eq_true rfl⟩, (htx _ kw_1_205), (htx _ kw_1_206)⟩ ⟨xPre_blind, va_recv hK hP (ci := 1) rfl (q0 := 0) rfl, (fun U hU hW => ⟨rfl, xPre_of hZ hS hFc hPc hDc hK U hU hW⟩)⟩ rfl rfl hl.1 rfl (lv_room (Nat.le_of_ble_eq_true rfl)) dT_addInt_11 ⟨Nat.le_of_ble_eq_true rfl, Nat.le_of_ble_eq_true rfl⟩) hS (fun q _ h => hFc q h) hFc (fun u9 t H1 locs ht hvm hr9 hB hz1 hk1 hS => ?_)
  obtain ⟨y6, hP1, hK1, hD1⟩ := hB
  rw [ht] at hP1
  obtain ⟨hP, hD⟩ := xjoin (W := [(a0, .inr (1, [.ref a1, .int 15, v3])), (a1, .inl (cT 0, 4096, .inl (upd (upd (upd f4 12 (vp_nar .byte y2)) 13 (vp_nar .byte y4)) 14 (vp_nar .byte y6))))]) hP hD [0, 1] [] 0 rfl rfl (by decide) (by decide) hk1 hFc hP1 hD1
  generalize H1 = H at hP hS ⊢
  refine lv_iinc (v := 0) (lv' := [(2, .int 0), (0, .ref a0), (1, .int x2)]) hx hb dT_addInt_14 hl (k := 0) rfl (by decide) (by decide) rfl (fun ls hl => ?_)
  refine lv_goto (tgt := 3) hx hb dT_addInt_17 (by decide) ?_
  refine lv_iload_n hx hb dT_addInt_3 rfl (lv_at hl 0 rfl) ?_
  refine lv_if_lt (tgt := 20) hx hb dT_addInt_4 (by decide) (fun h => ((by revert h; decide : False)).elim) (fun _ => ?_)
  refine lv_aload_n hx hb dT_addInt_7 rfl (lv_at hl 1 rfl) ?_
  refine lv_iload_n hx hb dT_addInt_8 rfl (lv_at hl 2 rfl) ?_
  refine lv_iload_n hx hb dT_addInt_9 rfl (lv_at hl 0 rfl) ?_
  refine lv_ishr hx hb dT_addInt_10 ?_
  refine lv_topi (fun y7 ey7 => ?_)
  obtain ⟨hPc, hDc, hFc⟩ := xcut (wc := [(a0, .inr (1, [.ref a1, .int 15, v3])), (a1, .inl (cT 0, 4096, .inl (upd (upd (upd f4 12 (vp_nar .byte y2)) 13 (vp_nar .byte y4)) 14 (vp_nar .byte y6))))]) hP hD hS hA [0, 1] rfl rfl (by decide)
  refine va_callv (va_runV (C := "ValueBench$Text") (As := [.int y7]) (rest := []) ⟨hx, hb, hml, hown, htx⟩ (cT_add_15 l hl9 D cT aK aV H.size a0 a1 y7 v3 (upd (upd (upd f4 12 (vp_nar .byte y2)) 13 (vp_nar .byte y4)) 14 (vp_nar .byte y6))) ⟨callB_of 1 htx (xw_goodC kw_1_207) rfl rfl rfl (htx _ kw_1_2) (htx _ kw_1_204) ⟨by decide, by decide, by decide +kernel⟩ ⟨Nat.le_of_ble_eq_true rfl, Nat.le_of_ble_eq_true rfl⟩, (htx _ kw_1_205), (htx _ kw_1_206)⟩ ⟨xPre_blind, va_recv hK hP (ci := 1) rfl (q0 := 0) rfl, (fun U hU hW => ⟨rfl, xPre_of hZ hS hFc hPc hDc hK U hU hW⟩)⟩ rfl rfl hl.1 rfl (lv_room (Nat.le_of_ble_eq_true rfl)) dT_addInt_11 ⟨Nat.le_of_ble_eq_true rfl, Nat.le_of_ble_eq_true rfl⟩) hS (fun q _ h => hFc q h) hFc (fun u9 t H1 locs ht hvm hr9 hB hz1 hk1 hS => ?_)
  obtain ⟨y8, hP1, hK1, hD1⟩ := hB
  rw [ht] at hP1
  obtain ⟨hP, hD⟩ := xjoin (W := [(a0, .inr (1, [.ref a1, .int 16, v3])), (a1, .inl (cT 0, 4096, .inl (upd (upd (upd (upd f4 12 (vp_nar .byte y2)) 13 (vp_nar .byte y4)) 14 (vp_nar .byte y6)) 15 (vp_nar .byte y8))))]) hP hD [0, 1] [] 0 rfl rfl (by decide) (by decide) hk1 hFc hP1 hD1
  generalize H1 = H at hP hS ⊢
  refine lv_iinc (v := (-8)) (lv' := [(2, .int (-8)), (0, .ref a0), (1, .int x2)]) hx hb dT_addInt_14 hl (k := 0) rfl (by decide) (by decide) rfl (fun ls hl => ?_)
  refine lv_goto (tgt := 3) hx hb dT_addInt_17 (by decide) ?_
  refine lv_iload_n hx hb dT_addInt_3 rfl (lv_at hl 0 rfl) ?_
  refine lv_if_lt (tgt := 20) hx hb dT_addInt_4 (by decide) (fun _ => ?_) (fun h => ((by revert h; decide : False)).elim)
  obtain ⟨hP9, hD9⟩ := xsub (wc := [(a0, .inr (1, [.ref a1, .int 16, v3])), (a1, .inl (cT 0, 4096, .inl (upd (upd (upd (upd f4 12 (vp_nar .byte y2)) 13 (vp_nar .byte y4)) 14 (vp_nar .byte y6)) 15 (vp_nar .byte y8))))]) hP hD [0, 1] rfl rfl (by decide)
  refine W.widen (k := 0) (n := 0) (Nat.le_of_ble_eq_true rfl) (Nat.le_of_ble_eq_true rfl) ?_
  exact W.vret hx hb hr (fun t ht hW => ⟨⟨(), rfl, trivial, y2, y4, y6, y8, by rw [ht]; exact hP9, va_K.moved hW.alike hK, hD9⟩, hS.F ht⟩) hS.2.2 dT_addInt_20
set_option maxHeartbeats 400000000 in
set_option maxRecDepth 100000 in
theorem cT_add_16 (l : Launch) (hl9 : l.stackTraces = false) (D : va_G) (cT : Nat → ClassId) (aK aV : Nat → Nat) (sz : Nat) (a0 : Nat) (a1 : Nat) (x2 : Int32) (v3 : Value) (f4 : Nat → Int32) : xMet l yT_add wyT_add 0 0 0 0 D cT aK aV sz [.ref a0, .int x2] [(a0, .inr (1, [.ref a1, .int 16, v3])), (a1, .inl (cT 0, 4096, .inl f4))] (fun A => va_Qv (fun _ : Unit => True) (fun _ t => ∃ (y1 : Int32), xB D xcl cT A [(a0, .inr (1, [.ref a1, .int 17, v3])), (a1, .inl (cT 0, 4096, .inl (upd f4 16 (vp_nar .byte y1))))] t) A) := by
  refine Met.ofW (cc := prog_11_method_8_code) (maxL := 2) (ret := none) (by decide) rfl ?_
  intro p e s m args below meth c s₁ B hml hv
  obtain ⟨rfl, hsz, hZ, hP, hK, hD0⟩ := hv
  have hx := B.exec
  have hb := B.bytes
  have hr := B.returns
  have hts := atoms_spec (ws := wyT_add) B.pre
  have htx := fun w h => hts w (List.mem_cons_of_mem _ h)
  have hown : s.vm.findClass "ValueBench$Text" = some m.cls := findClass_of_methodNamed B.named
  have hlocks := B.notSynchronized
  subst hsz
  have hD := hD0.self (sz := s.heap.size)
  generalize hAe : va_A [(a0, .inr (1, [.ref a1, .int 16, v3])), (a1, .inl (cT 0, 4096, .inl f4))] s.heap.size = A at hD hZ ⊢
  have hA : ∀ q : Nat, s.heap.size ≤ q → A q := fun q h => by rw [← hAe]; exact Or.inr h
  have hS : va_S A s.heap s.heap [] := va_S.rf
  have hP : va_P D xcl [(a0, .inr (1, [.ref a1, .int 16, v3])), (a1, .inl (cT 0, 4096, .inl f4))] s.heap := hP
  have hl := lv_entry ([.ref a0, .int x2]) (n := 2) (Nat.le_of_ble_eq_true rfl)
  rw [lg_entry_eq]
  generalize (lg_sl ([.ref a0, .int x2]) ++ List.replicate (2 - (lg_sl ([.ref a0, .int x2])).length) Slot.unset).toArray = ls at hl ⊢
  have hl : lv_has ls 2 [(0, .ref a0), (1, .int x2)] := hl
  refine lv_aload_n hx hb dT_add_0 rfl (lv_at hl 0 rfl) ?_
  refine va_get (D := D) (ci := 1) (v := .int 16) (C := "ValueBench$Text") (T := TT) (N := 3) hx hb htx inT hown hK hP 0 rfl rfl 1 (by decide) (htx _ kw_1_44) (fun _ h9 => h9) rfl dT_add_1 ?_
  refine lv_sipush (v := 4096) hx hb dT_add_4 (by decide) ?_
  refine lv_icmp_lt (tgt := 16) hx hb dT_add_7 (by decide) (fun _ => ?_) (fun h => ((by revert h; decide : False)).elim)
  refine lv_aload_n hx hb dT_add_16 rfl (lv_at hl 0 rfl) ?_
  refine va_get (D := D) (ci := 1) (v := .ref a1) (C := "ValueBench$Text") (T := TT) (N := 3) hx hb htx inT hown hK hP 0 rfl rfl 0 (by decide) (htx _ kw_1_43) (fun _ h9 => h9) rfl dT_add_17 ?_
  refine lv_aload_n hx hb dT_add_20 rfl (lv_at hl 0 rfl) ?_
  refine va_get (D := D) (ci := 1) (v := .int 16) (C := "ValueBench$Text") (T := TT) (N := 3) hx hb htx inT hown hK hP 0 rfl rfl 1 (by decide) (htx _ kw_1_44) (fun _ h9 => h9) rfl dT_add_21 ?_
  refine lv_iload_n hx hb dT_add_24 rfl (lv_at hl 1 rfl) ?_
  refine lv_i2b hx hb dT_add_25 rfl ?_
  refine lv_topi (fun y1 ey1 => ?_)
  refine va_bast hx hb hK hP hD hS 1 0 rfl rfl (show ¬ ((16 : Int32) < 0 ∨ 4096 ≤ (16 : Int32).toNatClampNeg) by decide) dT_add_26 (fun H locs hP hD hS => ?_)
  obtain ⟨hP, hD⟩ : xPD D xcl A [(a0, .inr (1, [.ref a1, .int 16, v3])), (a1, .inl (cT 0, 4096, .inl (upd f4 16 (vp_nar .byte y1))))] H := ⟨hP, hD⟩
  refine lv_aload_n hx hb dT_add_27 rfl (lv_at hl 0 rfl) ?_
  refine lv_dup hx hb dT_add_28 rfl ?_
  refine va_get (D := D) (ci := 1) (v := .int 16) (C := "ValueBench$Text") (T := TT) (N := 3) hx hb htx inT hown hK hP 0 rfl rfl 1 (by decide) (htx _ kw_1_44) (fun _ h9 => h9) rfl dT_add_29 ?_
  refine lv_iconst (v := 1) hx hb dT_add_32 (by decide) ?_
  refine lv_iadd hx hb dT_add_33 ?_
  refine W.eq (g2 := F0 m 34 ls [.int 17, .ref a0]) rfl ?_
  refine va_put (D := D) (ci := 1) (v := .int 17) (ty := .int) (C := "ValueBench$Text") (T := TT) (N := 3) hx hb htx inT tyT tyT_ok nmT hown hK hP hD hS 0 rfl rfl 1 (by decide) (htx _ kw_1_44) (fun _ h9 => h9) rfl (by decide +kernel) rfl rfl (Nat.le_of_ble_eq_true rfl) dT_add_34 (fun H locs hP hD hS => ?_)
  obtain ⟨hP, hD⟩ : xPD D xcl A [(a0, .inr (1, [.ref a1, .int 17, v3])), (a1, .inl (cT 0, 4096, .inl (upd f4 16 (vp_nar .byte y1))))] H := ⟨hP, hD⟩
  obtain ⟨hP9, hD9⟩ := xsub (wc := [(a0, .inr (1, [.ref a1, .int 17, v3])), (a1, .inl (cT 0, 4096, .inl (upd f4 16 (vp_nar .byte y1))))]) hP hD [0, 1] rfl rfl (by decide)
  refine W.widen (k := 0) (n := 0) (Nat.le_of_ble_eq_true rfl) (Nat.le_of_ble_eq_true rfl) ?_
  exact W.vret hx hb hr (fun t ht hW => ⟨⟨(), rfl, trivial, y1, by rw [ht]; exact hP9, va_K.moved hW.alike hK, hD9⟩, hS.F ht⟩) hS.2.2 dT_add_37
set_option maxHeartbeats 400000000 in
set_option maxRecDepth 100000 in
theorem cT_add_17 (l : Launch) (hl9 : l.stackTraces = false) (D : va_G) (cT : Nat → ClassId) (aK aV : Nat → Nat) (sz : Nat) (a0 : Nat) (a1 : Nat) (x2 : Int32) (v3 : Value) (f4 : Nat → Int32) : xMet l yT_add wyT_add 0 0 0 0 D cT aK aV sz [.ref a0, .int x2] [(a0, .inr (1, [.ref a1, .int 17, v3])), (a1, .inl (cT 0, 4096, .inl f4))] (fun A => va_Qv (fun _ : Unit => True) (fun _ t => ∃ (y1 : Int32), xB D xcl cT A [(a0, .inr (1, [.ref a1, .int 18, v3])), (a1, .inl (cT 0, 4096, .inl (upd f4 17 (vp_nar .byte y1))))] t) A) := by
  refine Met.ofW (cc := prog_11_method_8_code) (maxL := 2) (ret := none) (by decide) rfl ?_
  intro p e s m args below meth c s₁ B hml hv
  obtain ⟨rfl, hsz, hZ, hP, hK, hD0⟩ := hv
  have hx := B.exec
  have hb := B.bytes
  have hr := B.returns
  have hts := atoms_spec (ws := wyT_add) B.pre
  have htx := fun w h => hts w (List.mem_cons_of_mem _ h)
  have hown : s.vm.findClass "ValueBench$Text" = some m.cls := findClass_of_methodNamed B.named
  have hlocks := B.notSynchronized
  subst hsz
  have hD := hD0.self (sz := s.heap.size)
  generalize hAe : va_A [(a0, .inr (1, [.ref a1, .int 17, v3])), (a1, .inl (cT 0, 4096, .inl f4))] s.heap.size = A at hD hZ ⊢
  have hA : ∀ q : Nat, s.heap.size ≤ q → A q := fun q h => by rw [← hAe]; exact Or.inr h
  have hS : va_S A s.heap s.heap [] := va_S.rf
  have hP : va_P D xcl [(a0, .inr (1, [.ref a1, .int 17, v3])), (a1, .inl (cT 0, 4096, .inl f4))] s.heap := hP
  have hl := lv_entry ([.ref a0, .int x2]) (n := 2) (Nat.le_of_ble_eq_true rfl)
  rw [lg_entry_eq]
  generalize (lg_sl ([.ref a0, .int x2]) ++ List.replicate (2 - (lg_sl ([.ref a0, .int x2])).length) Slot.unset).toArray = ls at hl ⊢
  have hl : lv_has ls 2 [(0, .ref a0), (1, .int x2)] := hl
  refine lv_aload_n hx hb dT_add_0 rfl (lv_at hl 0 rfl) ?_
  refine va_get (D := D) (ci := 1) (v := .int 17) (C := "ValueBench$Text") (T := TT) (N := 3) hx hb htx inT hown hK hP 0 rfl rfl 1 (by decide) (htx _ kw_1_44) (fun _ h9 => h9) rfl dT_add_1 ?_
  refine lv_sipush (v := 4096) hx hb dT_add_4 (by decide) ?_
  refine lv_icmp_lt (tgt := 16) hx hb dT_add_7 (by decide) (fun _ => ?_) (fun h => ((by revert h; decide : False)).elim)
  refine lv_aload_n hx hb dT_add_16 rfl (lv_at hl 0 rfl) ?_
  refine va_get (D := D) (ci := 1) (v := .ref a1) (C := "ValueBench$Text") (T := TT) (N := 3) hx hb htx inT hown hK hP 0 rfl rfl 0 (by decide) (htx _ kw_1_43) (fun _ h9 => h9) rfl dT_add_17 ?_
  refine lv_aload_n hx hb dT_add_20 rfl (lv_at hl 0 rfl) ?_
  refine va_get (D := D) (ci := 1) (v := .int 17) (C := "ValueBench$Text") (T := TT) (N := 3) hx hb htx inT hown hK hP 0 rfl rfl 1 (by decide) (htx _ kw_1_44) (fun _ h9 => h9) rfl dT_add_21 ?_
  refine lv_iload_n hx hb dT_add_24 rfl (lv_at hl 1 rfl) ?_
  refine lv_i2b hx hb dT_add_25 rfl ?_
  refine lv_topi (fun y1 ey1 => ?_)
  refine va_bast hx hb hK hP hD hS 1 0 rfl rfl (show ¬ ((17 : Int32) < 0 ∨ 4096 ≤ (17 : Int32).toNatClampNeg) by decide) dT_add_26 (fun H locs hP hD hS => ?_)
  obtain ⟨hP, hD⟩ : xPD D xcl A [(a0, .inr (1, [.ref a1, .int 17, v3])), (a1, .inl (cT 0, 4096, .inl (upd f4 17 (vp_nar .byte y1))))] H := ⟨hP, hD⟩
  refine lv_aload_n hx hb dT_add_27 rfl (lv_at hl 0 rfl) ?_
  refine lv_dup hx hb dT_add_28 rfl ?_
  refine va_get (D := D) (ci := 1) (v := .int 17) (C := "ValueBench$Text") (T := TT) (N := 3) hx hb htx inT hown hK hP 0 rfl rfl 1 (by decide) (htx _ kw_1_44) (fun _ h9 => h9) rfl dT_add_29 ?_
  refine lv_iconst (v := 1) hx hb dT_add_32 (by decide) ?_
  refine lv_iadd hx hb dT_add_33 ?_
  refine W.eq (g2 := F0 m 34 ls [.int 18, .ref a0]) rfl ?_
  refine va_put (D := D) (ci := 1) (v := .int 18) (ty := .int) (C := "ValueBench$Text") (T := TT) (N := 3) hx hb htx inT tyT tyT_ok nmT hown hK hP hD hS 0 rfl rfl 1 (by decide) (htx _ kw_1_44) (fun _ h9 => h9) rfl (by decide +kernel) rfl rfl (Nat.le_of_ble_eq_true rfl) dT_add_34 (fun H locs hP hD hS => ?_)
  obtain ⟨hP, hD⟩ : xPD D xcl A [(a0, .inr (1, [.ref a1, .int 18, v3])), (a1, .inl (cT 0, 4096, .inl (upd f4 17 (vp_nar .byte y1))))] H := ⟨hP, hD⟩
  obtain ⟨hP9, hD9⟩ := xsub (wc := [(a0, .inr (1, [.ref a1, .int 18, v3])), (a1, .inl (cT 0, 4096, .inl (upd f4 17 (vp_nar .byte y1))))]) hP hD [0, 1] rfl rfl (by decide)
  refine W.widen (k := 0) (n := 0) (Nat.le_of_ble_eq_true rfl) (Nat.le_of_ble_eq_true rfl) ?_
  exact W.vret hx hb hr (fun t ht hW => ⟨⟨(), rfl, trivial, y1, by rw [ht]; exact hP9, va_K.moved hW.alike hK, hD9⟩, hS.F ht⟩) hS.2.2 dT_add_37
set_option maxHeartbeats 400000000 in
set_option maxRecDepth 100000 in
theorem cT_add_18 (l : Launch) (hl9 : l.stackTraces = false) (D : va_G) (cT : Nat → ClassId) (aK aV : Nat → Nat) (sz : Nat) (a0 : Nat) (a1 : Nat) (x2 : Int32) (v3 : Value) (f4 : Nat → Int32) : xMet l yT_add wyT_add 0 0 0 0 D cT aK aV sz [.ref a0, .int x2] [(a0, .inr (1, [.ref a1, .int 18, v3])), (a1, .inl (cT 0, 4096, .inl f4))] (fun A => va_Qv (fun _ : Unit => True) (fun _ t => ∃ (y1 : Int32), xB D xcl cT A [(a0, .inr (1, [.ref a1, .int 19, v3])), (a1, .inl (cT 0, 4096, .inl (upd f4 18 (vp_nar .byte y1))))] t) A) := by
  refine Met.ofW (cc := prog_11_method_8_code) (maxL := 2) (ret := none) (by decide) rfl ?_
  intro p e s m args below meth c s₁ B hml hv
  obtain ⟨rfl, hsz, hZ, hP, hK, hD0⟩ := hv
  have hx := B.exec
  have hb := B.bytes
  have hr := B.returns
  have hts := atoms_spec (ws := wyT_add) B.pre
  have htx := fun w h => hts w (List.mem_cons_of_mem _ h)
  have hown : s.vm.findClass "ValueBench$Text" = some m.cls := findClass_of_methodNamed B.named
  have hlocks := B.notSynchronized
  subst hsz
  have hD := hD0.self (sz := s.heap.size)
  generalize hAe : va_A [(a0, .inr (1, [.ref a1, .int 18, v3])), (a1, .inl (cT 0, 4096, .inl f4))] s.heap.size = A at hD hZ ⊢
  have hA : ∀ q : Nat, s.heap.size ≤ q → A q := fun q h => by rw [← hAe]; exact Or.inr h
  have hS : va_S A s.heap s.heap [] := va_S.rf
  have hP : va_P D xcl [(a0, .inr (1, [.ref a1, .int 18, v3])), (a1, .inl (cT 0, 4096, .inl f4))] s.heap := hP
  have hl := lv_entry ([.ref a0, .int x2]) (n := 2) (Nat.le_of_ble_eq_true rfl)
  rw [lg_entry_eq]
  generalize (lg_sl ([.ref a0, .int x2]) ++ List.replicate (2 - (lg_sl ([.ref a0, .int x2])).length) Slot.unset).toArray = ls at hl ⊢
  have hl : lv_has ls 2 [(0, .ref a0), (1, .int x2)] := hl
  refine lv_aload_n hx hb dT_add_0 rfl (lv_at hl 0 rfl) ?_
  refine va_get (D := D) (ci := 1) (v := .int 18) (C := "ValueBench$Text") (T := TT) (N := 3) hx hb htx inT hown hK hP 0 rfl rfl 1 (by decide) (htx _ kw_1_44) (fun _ h9 => h9) rfl dT_add_1 ?_
  refine lv_sipush (v := 4096) hx hb dT_add_4 (by decide) ?_
  refine lv_icmp_lt (tgt := 16) hx hb dT_add_7 (by decide) (fun _ => ?_) (fun h => ((by revert h; decide : False)).elim)
  refine lv_aload_n hx hb dT_add_16 rfl (lv_at hl 0 rfl) ?_
  refine va_get (D := D) (ci := 1) (v := .ref a1) (C := "ValueBench$Text") (T := TT) (N := 3) hx hb htx inT hown hK hP 0 rfl rfl 0 (by decide) (htx _ kw_1_43) (fun _ h9 => h9) rfl dT_add_17 ?_
  refine lv_aload_n hx hb dT_add_20 rfl (lv_at hl 0 rfl) ?_
  refine va_get (D := D) (ci := 1) (v := .int 18) (C := "ValueBench$Text") (T := TT) (N := 3) hx hb htx inT hown hK hP 0 rfl rfl 1 (by decide) (htx _ kw_1_44) (fun _ h9 => h9) rfl dT_add_21 ?_
  refine lv_iload_n hx hb dT_add_24 rfl (lv_at hl 1 rfl) ?_
  refine lv_i2b hx hb dT_add_25 rfl ?_
  refine lv_topi (fun y1 ey1 => ?_)
  refine va_bast hx hb hK hP hD hS 1 0 rfl rfl (show ¬ ((18 : Int32) < 0 ∨ 4096 ≤ (18 : Int32).toNatClampNeg) by decide) dT_add_26 (fun H locs hP hD hS => ?_)
  obtain ⟨hP, hD⟩ : xPD D xcl A [(a0, .inr (1, [.ref a1, .int 18, v3])), (a1, .inl (cT 0, 4096, .inl (upd f4 18 (vp_nar .byte y1))))] H := ⟨hP, hD⟩
  refine lv_aload_n hx hb dT_add_27 rfl (lv_at hl 0 rfl) ?_
  refine lv_dup hx hb dT_add_28 rfl ?_
  refine va_get (D := D) (ci := 1) (v := .int 18) (C := "ValueBench$Text") (T := TT) (N := 3) hx hb htx inT hown hK hP 0 rfl rfl 1 (by decide) (htx _ kw_1_44) (fun _ h9 => h9) rfl dT_add_29 ?_
  refine lv_iconst (v := 1) hx hb dT_add_32 (by decide) ?_
  refine lv_iadd hx hb dT_add_33 ?_
  refine W.eq (g2 := F0 m 34 ls [.int 19, .ref a0]) rfl ?_
  refine va_put (D := D) (ci := 1) (v := .int 19) (ty := .int) (C := "ValueBench$Text") (T := TT) (N := 3) hx hb htx inT tyT tyT_ok nmT hown hK hP hD hS 0 rfl rfl 1 (by decide) (htx _ kw_1_44) (fun _ h9 => h9) rfl (by decide +kernel) rfl rfl (Nat.le_of_ble_eq_true rfl) dT_add_34 (fun H locs hP hD hS => ?_)
  obtain ⟨hP, hD⟩ : xPD D xcl A [(a0, .inr (1, [.ref a1, .int 19, v3])), (a1, .inl (cT 0, 4096, .inl (upd f4 18 (vp_nar .byte y1))))] H := ⟨hP, hD⟩
  obtain ⟨hP9, hD9⟩ := xsub (wc := [(a0, .inr (1, [.ref a1, .int 19, v3])), (a1, .inl (cT 0, 4096, .inl (upd f4 18 (vp_nar .byte y1))))]) hP hD [0, 1] rfl rfl (by decide)
  refine W.widen (k := 0) (n := 0) (Nat.le_of_ble_eq_true rfl) (Nat.le_of_ble_eq_true rfl) ?_
  exact W.vret hx hb hr (fun t ht hW => ⟨⟨(), rfl, trivial, y1, by rw [ht]; exact hP9, va_K.moved hW.alike hK, hD9⟩, hS.F ht⟩) hS.2.2 dT_add_37
set_option maxHeartbeats 400000000 in
set_option maxRecDepth 100000 in
theorem cT_add_19 (l : Launch) (hl9 : l.stackTraces = false) (D : va_G) (cT : Nat → ClassId) (aK aV : Nat → Nat) (sz : Nat) (a0 : Nat) (a1 : Nat) (x2 : Int32) (v3 : Value) (f4 : Nat → Int32) : xMet l yT_add wyT_add 0 0 0 0 D cT aK aV sz [.ref a0, .int x2] [(a0, .inr (1, [.ref a1, .int 19, v3])), (a1, .inl (cT 0, 4096, .inl f4))] (fun A => va_Qv (fun _ : Unit => True) (fun _ t => ∃ (y1 : Int32), xB D xcl cT A [(a0, .inr (1, [.ref a1, .int 20, v3])), (a1, .inl (cT 0, 4096, .inl (upd f4 19 (vp_nar .byte y1))))] t) A) := by
  refine Met.ofW (cc := prog_11_method_8_code) (maxL := 2) (ret := none) (by decide) rfl ?_
  intro p e s m args below meth c s₁ B hml hv
  obtain ⟨rfl, hsz, hZ, hP, hK, hD0⟩ := hv
  have hx := B.exec
  have hb := B.bytes
  have hr := B.returns
  have hts := atoms_spec (ws := wyT_add) B.pre
  have htx := fun w h => hts w (List.mem_cons_of_mem _ h)
  have hown : s.vm.findClass "ValueBench$Text" = some m.cls := findClass_of_methodNamed B.named
  have hlocks := B.notSynchronized
  subst hsz
  have hD := hD0.self (sz := s.heap.size)
  generalize hAe : va_A [(a0, .inr (1, [.ref a1, .int 19, v3])), (a1, .inl (cT 0, 4096, .inl f4))] s.heap.size = A at hD hZ ⊢
  have hA : ∀ q : Nat, s.heap.size ≤ q → A q := fun q h => by rw [← hAe]; exact Or.inr h
  have hS : va_S A s.heap s.heap [] := va_S.rf
  have hP : va_P D xcl [(a0, .inr (1, [.ref a1, .int 19, v3])), (a1, .inl (cT 0, 4096, .inl f4))] s.heap := hP
  have hl := lv_entry ([.ref a0, .int x2]) (n := 2) (Nat.le_of_ble_eq_true rfl)
  rw [lg_entry_eq]
  generalize (lg_sl ([.ref a0, .int x2]) ++ List.replicate (2 - (lg_sl ([.ref a0, .int x2])).length) Slot.unset).toArray = ls at hl ⊢
  have hl : lv_has ls 2 [(0, .ref a0), (1, .int x2)] := hl
  refine lv_aload_n hx hb dT_add_0 rfl (lv_at hl 0 rfl) ?_
  refine va_get (D := D) (ci := 1) (v := .int 19) (C := "ValueBench$Text") (T := TT) (N := 3) hx hb htx inT hown hK hP 0 rfl rfl 1 (by decide) (htx _ kw_1_44) (fun _ h9 => h9) rfl dT_add_1 ?_
  refine lv_sipush (v := 4096) hx hb dT_add_4 (by decide) ?_
  refine lv_icmp_lt (tgt := 16) hx hb dT_add_7 (by decide) (fun _ => ?_) (fun h => ((by revert h; decide : False)).elim)
  refine lv_aload_n hx hb dT_add_16 rfl (lv_at hl 0 rfl) ?_
  refine va_get (D := D) (ci := 1) (v := .ref a1) (C := "ValueBench$Text") (T := TT) (N := 3) hx hb htx inT hown hK hP 0 rfl rfl 0 (by decide) (htx _ kw_1_43) (fun _ h9 => h9) rfl dT_add_17 ?_
  refine lv_aload_n hx hb dT_add_20 rfl (lv_at hl 0 rfl) ?_
  refine va_get (D := D) (ci := 1) (v := .int 19) (C := "ValueBench$Text") (T := TT) (N := 3) hx hb htx inT hown hK hP 0 rfl rfl 1 (by decide) (htx _ kw_1_44) (fun _ h9 => h9) rfl dT_add_21 ?_
  refine lv_iload_n hx hb dT_add_24 rfl (lv_at hl 1 rfl) ?_
  refine lv_i2b hx hb dT_add_25 rfl ?_
  refine lv_topi (fun y1 ey1 => ?_)
  refine va_bast hx hb hK hP hD hS 1 0 rfl rfl (show ¬ ((19 : Int32) < 0 ∨ 4096 ≤ (19 : Int32).toNatClampNeg) by decide) dT_add_26 (fun H locs hP hD hS => ?_)
  obtain ⟨hP, hD⟩ : xPD D xcl A [(a0, .inr (1, [.ref a1, .int 19, v3])), (a1, .inl (cT 0, 4096, .inl (upd f4 19 (vp_nar .byte y1))))] H := ⟨hP, hD⟩
  refine lv_aload_n hx hb dT_add_27 rfl (lv_at hl 0 rfl) ?_
  refine lv_dup hx hb dT_add_28 rfl ?_
  refine va_get (D := D) (ci := 1) (v := .int 19) (C := "ValueBench$Text") (T := TT) (N := 3) hx hb htx inT hown hK hP 0 rfl rfl 1 (by decide) (htx _ kw_1_44) (fun _ h9 => h9) rfl dT_add_29 ?_
  refine lv_iconst (v := 1) hx hb dT_add_32 (by decide) ?_
  refine lv_iadd hx hb dT_add_33 ?_
  refine W.eq (g2 := F0 m 34 ls [.int 20, .ref a0]) rfl ?_
  refine va_put (D := D) (ci := 1) (v := .int 20) (ty := .int) (C := "ValueBench$Text") (T := TT) (N := 3) hx hb htx inT tyT tyT_ok nmT hown hK hP hD hS 0 rfl rfl 1 (by decide) (htx _ kw_1_44) (fun _ h9 => h9) rfl (by decide +kernel) rfl rfl (Nat.le_of_ble_eq_true rfl) dT_add_34 (fun H locs hP hD hS => ?_)
  obtain ⟨hP, hD⟩ : xPD D xcl A [(a0, .inr (1, [.ref a1, .int 20, v3])), (a1, .inl (cT 0, 4096, .inl (upd f4 19 (vp_nar .byte y1))))] H := ⟨hP, hD⟩
  obtain ⟨hP9, hD9⟩ := xsub (wc := [(a0, .inr (1, [.ref a1, .int 20, v3])), (a1, .inl (cT 0, 4096, .inl (upd f4 19 (vp_nar .byte y1))))]) hP hD [0, 1] rfl rfl (by decide)
  refine W.widen (k := 0) (n := 0) (Nat.le_of_ble_eq_true rfl) (Nat.le_of_ble_eq_true rfl) ?_
  exact W.vret hx hb hr (fun t ht hW => ⟨⟨(), rfl, trivial, y1, by rw [ht]; exact hP9, va_K.moved hW.alike hK, hD9⟩, hS.F ht⟩) hS.2.2 dT_add_37
set_option maxHeartbeats 400000000 in
set_option maxRecDepth 100000 in
theorem cT_addInt_4 (l : Launch) (hl9 : l.stackTraces = false) (D : va_G) (cT : Nat → ClassId) (aK aV : Nat → Nat) (sz : Nat) (a0 : Nat) (a1 : Nat) (x2 : Int32) (v3 : Value) (f4 : Nat → Int32) : xMet l yT_addInt wyT_addInt 1 0 0 21 D cT aK aV sz [.ref a0, .int x2] [(a0, .inr (1, [.ref a1, .int 16, v3])), (a1, .inl (cT 0, 4096, .inl f4))] (fun A => va_Qv (fun _ : Unit => True) (fun _ t => ∃ (y2 : Int32) (y4 : Int32) (y6 : Int32) (y8 : Int32), xB D xcl cT A [(a0, .inr (1, [.ref a1, .int 20, v3])), (a1, .inl (cT 0, 4096, .inl (upd (upd (upd (upd f4 16 (vp_nar .byte y2)) 17 (vp_nar .byte y4)) 18 (vp_nar .byte y6)) 19 (vp_nar .byte y8))))] t) A) := by
  refine Met.ofW (cc := prog_11_method_9_code) (maxL := 3) (ret := none) (by decide) rfl ?_
  intro p e s m args below meth c s₁ B hml hv
  obtain ⟨rfl, hsz, hZ, hP, hK, hD0⟩ := hv
  have hx := B.exec
  have hb := B.bytes
  have hr := B.returns
  have hts := atoms_spec (ws := wyT_addInt) B.pre
  have htx := fun w h => hts w (List.mem_cons_of_mem _ h)
  have hown : s.vm.findClass "ValueBench$Text" = some m.cls := findClass_of_methodNamed B.named
  have hlocks := B.notSynchronized
  subst hsz
  have hD := hD0.self (sz := s.heap.size)
  generalize hAe : va_A [(a0, .inr (1, [.ref a1, .int 16, v3])), (a1, .inl (cT 0, 4096, .inl f4))] s.heap.size = A at hD hZ ⊢
  have hA : ∀ q : Nat, s.heap.size ≤ q → A q := fun q h => by rw [← hAe]; exact Or.inr h
  have hS : va_S A s.heap s.heap [] := va_S.rf
  have hP : va_P D xcl [(a0, .inr (1, [.ref a1, .int 16, v3])), (a1, .inl (cT 0, 4096, .inl f4))] s.heap := hP
  have hl := lv_entry ([.ref a0, .int x2]) (n := 3) (Nat.le_of_ble_eq_true rfl)
  rw [lg_entry_eq]
  generalize (lg_sl ([.ref a0, .int x2]) ++ List.replicate (3 - (lg_sl ([.ref a0, .int x2])).length) Slot.unset).toArray = ls at hl ⊢
  have hl : lv_has ls 3 [(0, .ref a0), (1, .int x2)] := hl
  refine lv_bipush (v := 24) hx hb dT_addInt_0 (by decide) ?_
  refine lv_istore_n (lv' := [(2, .int 24), (0, .ref a0), (1, .int x2)]) hx hb dT_addInt_2 rfl hl (by decide) rfl (fun ls hl => ?_)
  refine lv_iload_n hx hb dT_addInt_3 rfl (lv_at hl 0 rfl) ?_
  refine lv_if_lt (tgt := 20) hx hb dT_addInt_4 (by decide) (fun h => ((by revert h; decide : False)).elim) (fun _ => ?_)
  refine lv_aload_n hx hb dT_addInt_7 rfl (lv_at hl 1 rfl) ?_
  refine lv_iload_n hx hb dT_addInt_8 rfl (lv_at hl 2 rfl) ?_
  refine lv_iload_n hx hb dT_addInt_9 rfl (lv_at hl 0 rfl) ?_
  refine lv_ishr hx hb dT_addInt_10 ?_
  refine lv_topi (fun y1 ey1 => ?_)
  obtain ⟨hPc, hDc, hFc⟩ := xcut (wc := [(a0, .inr (1, [.ref a1, .int 16, v3])), (a1, .inl (cT 0, 4096, .inl f4))]) hP hD hS hA [0, 1] rfl rfl (by decide)
  refine va_callv (va_runV (C := "ValueBench$Text") (As := [.int y1]) (rest := []) ⟨hx, hb, hml, hown, htx⟩ (cT_add_16 l hl9 D cT aK aV s.heap.size a0 a1 y1 v3 f4) ⟨callB_of 1 htx (xw_goodC kw_1_207) rfl rfl rfl (htx _ kw_1_2) (htx _ kw_1_204) ⟨by decide, by decide, by decide +kernel⟩ ⟨Nat.le_of_ble_eq_true rfl, Nat.le_of_ble_eq_true rfl⟩, (htx _ kw_1_205), (htx _ kw_1_206)⟩ ⟨xPre_blind, va_recv hK hP (ci := 1) rfl (q0 := 0) rfl, (fun U hU hW => ⟨rfl, xPre_of hZ hS hFc hPc hDc hK U hU hW⟩)⟩ rfl rfl hl.1 rfl (lv_room (Nat.le_of_ble_eq_true rfl)) dT_addInt_11 ⟨Nat.le_of_ble_eq_true rfl, Nat.le_of_ble_eq_true rfl⟩) hS (fun q _ h => hFc q h) hFc (fun u9 t H1 locs ht hvm hr9 hB hz1 hk1 hS => ?_)
  obtain ⟨y2, hP1, hK1, hD1⟩ := hB
  rw [ht] at hP1
  obtain ⟨hP, hD⟩ := xjoin (W := [(a0, .inr (1, [.ref a1, .int 17, v3])), (a1, .inl (cT 0, 4096, .inl (upd f4 16 (vp_nar .byte y2))))]) hP hD [0, 1] [] 0 rfl rfl (by decide) (by decide) hk1 hFc hP1 hD1
  generalize H1 = H at hP hS ⊢
  refine lv_iinc (v := 16) (lv' := [(2, .int 16), (0, .ref a0), (1, .int x2)]) hx hb dT_addInt_14 hl (k := 0) rfl (by decide) (by decide) rfl (fun ls hl => ?_)
  refine lv_goto (tgt := 3) hx hb dT_addInt_17 (by decide) ?_
  refine lv_iload_n hx hb dT_addInt_3 rfl (lv_at hl 0 rfl) ?_
  refine lv_if_lt (tgt := 20) hx hb dT_addInt_4 (by decide) (fun h => ((by revert h; decide : False)).elim) (fun _ => ?_)
  refine lv_aload_n hx hb dT_addInt_7 rfl (lv_at hl 1 rfl) ?_
  refine lv_iload_n hx hb dT_addInt_8 rfl (lv_at hl 2 rfl) ?_
  refine lv_iload_n hx hb dT_addInt_9 rfl (lv_at hl 0 rfl) ?_
  refine lv_ishr hx hb dT_addInt_10 ?_
  refine lv_topi (fun y3 ey3 => ?_)
  obtain ⟨hPc, hDc, hFc⟩ := xcut (wc := [(a0, .inr (1, [.ref a1, .int 17, v3])), (a1, .inl (cT 0, 4096, .inl (upd f4 16 (vp_nar .byte y2))))]) hP hD hS hA [0, 1] rfl rfl (by decide)
  refine va_callv (va_runV (C := "ValueBench$Text") (As := [.int y3]) (rest := []) ⟨hx, hb, hml, hown, htx⟩ (cT_add_17 l hl9 D cT aK aV H.size a0 a1 y3 v3 (upd f4 16 (vp_nar .byte y2))) ⟨callB_of 1 htx (xw_goodC kw_1_207) rfl rfl rfl (htx _ kw_1_2) (htx _ kw_1_204) ⟨by decide, by decide, by decide +kernel⟩ ⟨Nat.le_of_ble_eq_true rfl, Nat.le_of_ble_eq_true rfl⟩, (htx _ kw_1_205), (htx _ kw_1_206)⟩ ⟨xPre_blind, va_recv hK hP (ci := 1) rfl (q0 := 0) rfl, (fun U hU hW => ⟨rfl, xPre_of hZ hS hFc hPc hDc hK U hU hW⟩)⟩ rfl rfl hl.1 rfl (lv_room (Nat.le_of_ble_eq_true rfl)) dT_addInt_11 ⟨Nat.le_of_ble_eq_true rfl, Nat.le_of_ble_eq_true rfl⟩) hS (fun q _ h => hFc q h) hFc (fun u9 t H1 locs ht hvm hr9 hB hz1 hk1 hS => ?_)
  obtain ⟨y4, hP1, hK1, hD1⟩ := hB
  rw [ht] at hP1
  obtain ⟨hP, hD⟩ := xjoin (W := [(a0, .inr (1, [.ref a1, .int 18, v3])), (a1, .inl (cT 0, 4096, .inl (upd (upd f4 16 (vp_nar .byte y2)) 17 (vp_nar .byte y4))))]) hP hD [0, 1] [] 0 rfl rfl (by decide) (by decide) hk1 hFc hP1 hD1
  generalize H1 = H at hP hS ⊢
  refine lv_iinc (v := 8) (lv' := [(2, .int 8), (0, .ref a0), (1, .int x2)]) hx hb dT_addInt_14 hl (k := 0) rfl (by decide) (by decide) rfl (fun ls hl => ?_)
  refine lv_goto (tgt := 3) hx hb dT_addInt_17 (by decide) ?_
  refine lv_iload_n hx hb dT_addInt_3 rfl (lv_at hl 0 rfl) ?_
  refine lv_if_lt (tgt := 20) hx hb dT_addInt_4 (by decide) (fun h => ((by revert h; decide : False)).elim) (fun _ => ?_)
  refine lv_aload_n hx hb dT_addInt_7 rfl (lv_at hl 1 rfl) ?_
  refine lv_iload_n hx hb dT_addInt_8 rfl (lv_at hl 2 rfl) ?_
  refine lv_iload_n hx hb dT_addInt_9 rfl (lv_at hl 0 rfl) ?_
  refine lv_ishr hx hb dT_addInt_10 ?_
  refine lv_topi (fun y5 ey5 => ?_)
  obtain ⟨hPc, hDc, hFc⟩ := xcut (wc := [(a0, .inr (1, [.ref a1, .int 18, v3])), (a1, .inl (cT 0, 4096, .inl (upd (upd f4 16 (vp_nar .byte y2)) 17 (vp_nar .byte y4))))]) hP hD hS hA [0, 1] rfl rfl (by decide)
  refine va_callv (va_runV (C := "ValueBench$Text") (As := [.int y5]) (rest := []) ⟨hx, hb, hml, hown, htx⟩ (cT_add_18 l hl9 D cT aK aV H.size a0 a1 y5 v3 (upd (upd f4 16 (vp_nar .byte y2)) 17 (vp_nar .byte y4))) ⟨callB_of 1 htx (xw_goodC kw_1_207) rfl rfl rfl (htx _ kw_1_2) (htx _ kw_1_204) ⟨by decide, by decide, by decide +kernel⟩ ⟨Nat.le_of_ble_eq_true rfl, Nat.le_of_ble_eq_true rfl⟩, (htx _ kw_1_205), (htx _ kw_1_206)⟩ ⟨xPre_blind, va_recv hK hP (ci := 1) rfl (q0 := 0) rfl, (fun U hU hW => ⟨rfl, xPre_of hZ hS hFc hPc hDc hK U hU hW⟩)⟩ rfl rfl hl.1 rfl (lv_room (Nat.le_of_ble_eq_true rfl)) dT_addInt_11 ⟨Nat.le_of_ble_eq_true rfl, Nat.le_of_ble_eq_true rfl⟩) hS (fun q _ h => hFc q h) hFc (fun u9 t H1 locs ht hvm hr9 hB hz1 hk1 hS => ?_)
  obtain ⟨y6, hP1, hK1, hD1⟩ := hB
  rw [ht] at hP1
  obtain ⟨hP, hD⟩ := xjoin (W := [(a0, .inr (1, [.ref a1, .int 19, v3])), (a1, .inl (cT 0, 4096, .inl (upd (upd (upd f4 16 (vp_nar .byte y2)) 17 (vp_nar .byte y4)) 18 (vp_nar .byte y6))))]) hP hD [0, 1] [] 0 rfl rfl (by decide) (by decide) hk1 hFc hP1 hD1
  generalize H1 = H at hP hS ⊢
  refine lv_iinc (v := 0) (lv' := [(2, .int 0), (0, .ref a0), (1, .int x2)]) hx hb dT_addInt_14 hl (k := 0) rfl (by decide) (by decide) rfl (fun ls hl => ?_)
  refine lv_goto (tgt := 3) hx hb dT_addInt_17 (by decide) ?_
  refine lv_iload_n hx hb dT_addInt_3 rfl (lv_at hl 0 rfl) ?_
  refine lv_if_lt (tgt := 20) hx hb dT_addInt_4 (by decide) (fun h => ((by revert h; decide : False)).elim) (fun _ => ?_)
  refine lv_aload_n hx hb dT_addInt_7 rfl (lv_at hl 1 rfl) ?_
  refine lv_iload_n hx hb dT_addInt_8 rfl (lv_at hl 2 rfl) ?_
  refine lv_iload_n hx hb dT_addInt_9 rfl (lv_at hl 0 rfl) ?_
  refine lv_ishr hx hb dT_addInt_10 ?_
  refine lv_topi (fun y7 ey7 => ?_)
  obtain ⟨hPc, hDc, hFc⟩ := xcut (wc := [(a0, .inr (1, [.ref a1, .int 19, v3])), (a1, .inl (cT 0, 4096, .inl (upd (upd (upd f4 16 (vp_nar .byte y2)) 17 (vp_nar .byte y4)) 18 (vp_nar .byte y6))))]) hP hD hS hA [0, 1] rfl rfl (by decide)
  refine va_callv (va_runV (C := "ValueBench$Text") (As := [.int y7]) (rest := []) ⟨hx, hb, hml, hown, htx⟩ (cT_add_19 l hl9 D cT aK aV H.size a0 a1 y7 v3 (upd (upd (upd f4 16 (vp_nar .byte y2)) 17 (vp_nar .byte y4)) 18 (vp_nar .byte y6))) ⟨callB_of 1 htx (xw_goodC kw_1_207) rfl rfl rfl (htx _ kw_1_2) (htx _ kw_1_204) ⟨by decide, by decide, by decide +kernel⟩ ⟨Nat.le_of_ble_eq_true rfl, Nat.le_of_ble_eq_true rfl⟩, (htx _ kw_1_205), (htx _ kw_1_206)⟩ ⟨xPre_blind, va_recv hK hP (ci := 1) rfl (q0 := 0) rfl, (fun U hU hW => ⟨rfl, xPre_of hZ hS hFc hPc hDc hK U hU hW⟩)⟩ rfl rfl hl.1 rfl (lv_room (Nat.le_of_ble_eq_true rfl)) dT_addInt_11 ⟨Nat.le_of_ble_eq_true rfl, Nat.le_of_ble_eq_true rfl⟩) hS (fun q _ h => hFc q h) hFc (fun u9 t H1 locs ht hvm hr9 hB hz1 hk1 hS => ?_)
  obtain ⟨y8, hP1, hK1, hD1⟩ := hB
  rw [ht] at hP1
  obtain ⟨hP, hD⟩ := xjoin (W := [(a0, .inr (1, [.ref a1, .int 20, v3])), (a1, .inl (cT 0, 4096, .inl (upd (upd (upd (upd f4 16 (vp_nar .byte y2)) 17 (vp_nar .byte y4)) 18 (vp_nar .byte y6)) 19 (vp_nar .byte y8))))]) hP hD [0, 1] [] 0 rfl rfl (by decide) (by decide) hk1 hFc hP1 hD1
  generalize H1 = H at hP hS ⊢
  refine lv_iinc (v := (-8)) (lv' := [(2, .int (-8)), (0, .ref a0), (1, .int x2)]) hx hb dT_addInt_14 hl (k := 0) rfl (by decide) (by decide) rfl (fun ls hl => ?_)
  refine lv_goto (tgt := 3) hx hb dT_addInt_17 (by decide) ?_
  refine lv_iload_n hx hb dT_addInt_3 rfl (lv_at hl 0 rfl) ?_
  refine lv_if_lt (tgt := 20) hx hb dT_addInt_4 (by decide) (fun _ => ?_) (fun h => ((by revert h; decide : False)).elim)
  obtain ⟨hP9, hD9⟩ := xsub (wc := [(a0, .inr (1, [.ref a1, .int 20, v3])), (a1, .inl (cT 0, 4096, .inl (upd (upd (upd (upd f4 16 (vp_nar .byte y2)) 17 (vp_nar .byte y4)) 18 (vp_nar .byte y6)) 19 (vp_nar .byte y8))))]) hP hD [0, 1] rfl rfl (by decide)
  refine W.widen (k := 0) (n := 0) (Nat.le_of_ble_eq_true rfl) (Nat.le_of_ble_eq_true rfl) ?_
  exact W.vret hx hb hr (fun t ht hW => ⟨⟨(), rfl, trivial, y2, y4, y6, y8, by rw [ht]; exact hP9, va_K.moved hW.alike hK, hD9⟩, hS.F ht⟩) hS.2.2 dT_addInt_20
set_option maxHeartbeats 400000000 in
set_option maxRecDepth 100000 in
theorem cT_size_1 (l : Launch) (hl9 : l.stackTraces = false) (D : va_G) (cT : Nat → ClassId) (aK aV : Nat → Nat) (sz : Nat) (a0 : Nat) (v1 : Value) (v2 : Value) : xMet l yT_size wyT_size 0 0 0 0 D cT aK aV sz [.ref a0] [(a0, .inr (1, [v1, .int 20, v2]))] (fun A => va_Qi (fun (r : Int32) (_ : Unit) => r = 20) (fun _ t => xB D xcl cT A [(a0, .inr (1, [v1, .int 20, v2]))] t) A) := by
  refine Met.ofW (cc := prog_11_method_4_code) (maxL := 1) (ret := (some .int)) (by decide) rfl ?_
  intro p e s m args below meth c s₁ B hml hv
  obtain ⟨rfl, hsz, hZ, hP, hK, hD0⟩ := hv
  have hx := B.exec
  have hb := B.bytes
  have hr := B.returns
  have hts := atoms_spec (ws := wyT_size) B.pre
  have htx := fun w h => hts w (List.mem_cons_of_mem _ h)
  have hown : s.vm.findClass "ValueBench$Text" = some m.cls := findClass_of_methodNamed B.named
  have hlocks := B.notSynchronized
  subst hsz
  have hD := hD0.self (sz := s.heap.size)
  generalize hAe : va_A [(a0, .inr (1, [v1, .int 20, v2]))] s.heap.size = A at hD hZ ⊢
  have hA : ∀ q : Nat, s.heap.size ≤ q → A q := fun q h => by rw [← hAe]; exact Or.inr h
  have hS : va_S A s.heap s.heap [] := va_S.rf
  have hP : va_P D xcl [(a0, .inr (1, [v1, .int 20, v2]))] s.heap := hP
  have hl := lv_entry ([.ref a0]) (n := 1) (Nat.le_of_ble_eq_true rfl)
  rw [lg_entry_eq]
  generalize (lg_sl ([.ref a0]) ++ List.replicate (1 - (lg_sl ([.ref a0])).length) Slot.unset).toArray = ls at hl ⊢
  have hl : lv_has ls 1 [(0, .ref a0)] := hl
  refine lv_aload_n hx hb dT_size_0 rfl (lv_at hl 0 rfl) ?_
  refine va_get (D := D) (ci := 1) (v := .int 20) (C := "ValueBench$Text") (T := TT) (N := 3) hx hb htx inT hown hK hP 0 rfl rfl 1 (by decide) (htx _ kw_1_44) (fun _ h9 => h9) rfl dT_size_1 ?_
  obtain ⟨hP9, hD9⟩ := xsub (wc := [(a0, .inr (1, [v1, .int 20, v2]))]) hP hD [0] rfl rfl (by decide)
  refine W.widen (k := 0) (n := 0) (Nat.le_of_ble_eq_true rfl) (Nat.le_of_ble_eq_true rfl) ?_
  exact W.iret (v := 20) hx hb hr (fun t ht hW => ⟨⟨20, (), rfl, rfl, by rw [ht]; exact hP9, va_K.moved hW.alike hK, hD9⟩, hS.F ht⟩) hS.2.2 dT_size_4
set_option maxHeartbeats 400000000 in
set_option maxRecDepth 100000 in
theorem cB_feed_0 (l : Launch) (hl9 : l.stackTraces = false) (D : va_G) (cT : Nat → ClassId) (aK aV : Nat → Nat) (sz : Nat) (a0 : Nat) (a1 : Nat) (a2 : Nat) (x3 : Int32) (x4 : Int32) (x5 : Int32) (x6 : Int32) (x7 : Int32) (v8 : Value) (v9 : Value) (v10 : Value) (v11 : Value) (v12 : Value) (v13 : Value) (v14 : Value) (v15 : Value) (f16 : Nat → Int32) : xMet l yB_feed wyB_feed 2 0 0 43 D cT aK aV sz [.ref a0, .int x3, .int x4, .int x5, .int x6, .int x7] [(a0, .inr (0, [.ref a1, v8, v9, v10, v11, v12, v13, v14])), (a1, .inr (1, [.ref a2, .int 0, v15])), (a2, .inl (cT 0, 4096, .inl f16))] (fun A => va_Qi (fun (r : Int32) (_ : Unit) => r = 20) (fun _ t => ∃ (y2 : Int32) (y3 : Int32) (y4 : Int32) (y5 : Int32) (y6 : Int32) (y7 : Int32) (y8 : Int32) (y9 : Int32) (y10 : Int32) (y11 : Int32) (y12 : Int32) (y13 : Int32) (y14 : Int32) (y15 : Int32) (y16 : Int32) (y17 : Int32) (y18 : Int32) (y19 : Int32) (y20 : Int32) (y21 : Int32), xB D xcl cT A [(a0, .inr (0, [.ref a1, v8, v9, v10, v11, v12, v13, v14])), (a1, .inr (1, [.ref a2, .int 20, v15])), (a2, .inl (cT 0, 4096, .inl (upd (upd (upd (upd (upd (upd (upd (upd (upd (upd (upd (upd (upd (upd (upd (upd (upd (upd (upd (upd f16 0 (vp_nar .byte y2)) 1 (vp_nar .byte y3)) 2 (vp_nar .byte y4)) 3 (vp_nar .byte y5)) 4 (vp_nar .byte y6)) 5 (vp_nar .byte y7)) 6 (vp_nar .byte y8)) 7 (vp_nar .byte y9)) 8 (vp_nar .byte y10)) 9 (vp_nar .byte y11)) 10 (vp_nar .byte y12)) 11 (vp_nar .byte y13)) 12 (vp_nar .byte y14)) 13 (vp_nar .byte y15)) 14 (vp_nar .byte y16)) 15 (vp_nar .byte y17)) 16 (vp_nar .byte y18)) 17 (vp_nar .byte y19)) 18 (vp_nar .byte y20)) 19 (vp_nar .byte y21))))] t) A) := by
  refine Met.ofW (cc := prog_1_method_2_code) (maxL := 6) (ret := (some .int)) (by decide) rfl ?_
  intro p e s m args below meth c s₁ B hml hv
  obtain ⟨rfl, hsz, hZ, hP, hK, hD0⟩ := hv
  have hx := B.exec
  have hb := B.bytes
  have hr := B.returns
  have hts := atoms_spec (ws := wyB_feed) B.pre
  have htx := fun w h => hts w (List.mem_cons_of_mem _ h)
  have hown : s.vm.findClass "ValueBench" = some m.cls := findClass_of_methodNamed B.named
  have hlocks := B.notSynchronized
  subst hsz
  have hD := hD0.self (sz := s.heap.size)
  generalize hAe : va_A [(a0, .inr (0, [.ref a1, v8, v9, v10, v11, v12, v13, v14])), (a1, .inr (1, [.ref a2, .int 0, v15])), (a2, .inl (cT 0, 4096, .inl f16))] s.heap.size = A at hD hZ ⊢
  have hA : ∀ q : Nat, s.heap.size ≤ q → A q := fun q h => by rw [← hAe]; exact Or.inr h
  have hS : va_S A s.heap s.heap [] := va_S.rf
  have hP : va_P D xcl [(a0, .inr (0, [.ref a1, v8, v9, v10, v11, v12, v13, v14])), (a1, .inr (1, [.ref a2, .int 0, v15])), (a2, .inl (cT 0, 4096, .inl f16))] s.heap := hP
  have hl := lv_entry ([.ref a0, .int x3, .int x4, .int x5, .int x6, .int x7]) (n := 6) (Nat.le_of_ble_eq_true rfl)
  rw [lg_entry_eq]
  generalize (lg_sl ([.ref a0, .int x3, .int x4, .int x5, .int x6, .int x7]) ++ List.replicate (6 - (lg_sl ([.ref a0, .int x3, .int x4, .int x5, .int x6, .int x7])).length) Slot.unset).toArray = ls at hl ⊢
  have hl : lv_has ls 6 [(0, .ref a0), (1, .int x3), (2, .int x4), (3, .int x5), (4, .int x6), (5, .int x7)] := hl
  refine lv_aload_n hx hb dB_feed_0 rfl (lv_at hl 0 rfl) ?_
  refine va_get (D := D) (ci := 0) (v := .ref a1) (C := "ValueBench") (T := TB) (N := 8) hx hb htx inB hown hK hP 0 rfl rfl 0 (by decide) (htx _ kw_1_95) (fun _ h9 => h9) rfl dB_feed_1 ?_
  obtain ⟨hPc, hDc, hFc⟩ := xcut (wc := [(a1, .inr (1, [.ref a2, .int 0, v15]))]) hP hD hS hA [1] rfl rfl (by decide)
  refine va_calli (va_runV (C := "ValueBench$Text") (As := []) (rest := []) ⟨hx, hb, hml, hown, htx⟩ (cT_size_0 l hl9 D cT aK aV s.heap.size a1 (.ref a2) v15) ⟨callB_of 0 htx (xw_goodC kw_1_131) rfl rfl rfl (htx _ kw_1_2) (htx _ kw_1_128) ⟨by decide, by decide, by decide +kernel⟩ ⟨Nat.le_of_ble_eq_true rfl, Nat.le_of_ble_eq_true rfl⟩, (htx _ kw_1_129), (htx _ kw_1_130)⟩ ⟨xPre_blind, va_recv hK hP (ci := 1) rfl (q0 := 1) rfl, (fun U hU hW => ⟨rfl, xPre_of hZ hS hFc hPc hDc hK U hU hW⟩)⟩ rfl rfl hl.1 rfl (lv_room (Nat.le_of_ble_eq_true rfl)) dB_feed_4 ⟨Nat.le_of_ble_eq_true rfl, Nat.le_of_ble_eq_true rfl⟩) hS (fun q _ h => hFc q h) hFc (fun r1 u9 t H1 locs ht hvm hr9 hB hz1 hk1 hS => ?_)
  obtain ⟨hP1, hK1, hD1⟩ := hB
  rw [ht] at hP1
  obtain ⟨hP, hD⟩ := xjoin (W := [(a0, .inr (0, [.ref a1, v8, v9, v10, v11, v12, v13, v14])), (a2, .inl (cT 0, 4096, .inl f16)), (a1, .inr (1, [.ref a2, .int 0, v15]))]) hP hD [1] [0, 2] 2 rfl rfl (by decide) (by decide) hk1 hFc hP1 hD1
  generalize H1 = H at hP hS ⊢
  rw [hr9]
  refine W.eq (g2 := F0 m 7 ls [.int 0]) rfl ?_
  refine lv_bipush (v := 20) hx hb dB_feed_7 (by decide) ?_
  refine lv_iadd hx hb dB_feed_9 ?_
  refine W.eq (g2 := F0 m 10 ls [.int 20]) rfl ?_
  refine lv_sipush (v := 4096) hx hb dB_feed_10 (by decide) ?_
  refine lv_icmp_le (tgt := 26) hx hb dB_feed_13 (by decide) (fun _ => ?_) (fun h => ((by revert h; decide : False)).elim)
  refine lv_aload_n hx hb dB_feed_26 rfl (lv_at hl 0 rfl) ?_
  refine va_get (D := D) (ci := 0) (v := .ref a1) (C := "ValueBench") (T := TB) (N := 8) hx hb htx inB hown hK hP 0 rfl rfl 0 (by decide) (htx _ kw_1_95) (fun _ h9 => h9) rfl dB_feed_27 ?_
  refine lv_iload_n hx hb dB_feed_30 rfl (lv_at hl 1 rfl) ?_
  obtain ⟨hPc, hDc, hFc⟩ := xcut (wc := [(a1, .inr (1, [.ref a2, .int 0, v15])), (a2, .inl (cT 0, 4096, .inl f16))]) hP hD hS hA [2, 1] rfl rfl (by decide)
  refine va_callv (va_runV (C := "ValueBench$Text") (As := [.int x3]) (rest := []) ⟨hx, hb, hml, hown, htx⟩ (cT_addInt_0 l hl9 D cT aK aV H.size a1 a2 x3 v15 f16) ⟨callB_of 1 htx (xw_goodC kw_1_203) rfl rfl rfl (htx _ kw_1_2) (htx _ kw_1_200) ⟨by decide, by decide, by decide +kernel⟩ ⟨Nat.le_of_ble_eq_true rfl, Nat.le_of_ble_eq_true rfl⟩, (htx _ kw_1_201), (htx _ kw_1_202)⟩ ⟨xPre_blind, va_recv hK hP (ci := 1) rfl (q0 := 2) rfl, (fun U hU hW => ⟨rfl, xPre_of hZ hS hFc hPc hDc hK U hU hW⟩)⟩ rfl rfl hl.1 rfl (lv_room (Nat.le_of_ble_eq_true rfl)) dB_feed_31 ⟨Nat.le_of_ble_eq_true rfl, Nat.le_of_ble_eq_true rfl⟩) hS (fun q _ h => hFc q h) hFc (fun u9 t H1 locs ht hvm hr9 hB hz1 hk1 hS => ?_)
  obtain ⟨y2, y3, y4, y5, hP1, hK1, hD1⟩ := hB
  rw [ht] at hP1
  obtain ⟨hP, hD⟩ := xjoin (W := [(a0, .inr (0, [.ref a1, v8, v9, v10, v11, v12, v13, v14])), (a1, .inr (1, [.ref a2, .int 4, v15])), (a2, .inl (cT 0, 4096, .inl (upd (upd (upd (upd f16 0 (vp_nar .byte y2)) 1 (vp_nar .byte y3)) 2 (vp_nar .byte y4)) 3 (vp_nar .byte y5))))]) hP hD [2, 1] [0] 1 rfl rfl (by decide) (by decide) hk1 hFc hP1 hD1
  generalize H1 = H at hP hS ⊢
  refine lv_aload_n hx hb dB_feed_34 rfl (lv_at hl 0 rfl) ?_
  refine va_get (D := D) (ci := 0) (v := .ref a1) (C := "ValueBench") (T := TB) (N := 8) hx hb htx inB hown hK hP 0 rfl rfl 0 (by decide) (htx _ kw_1_95) (fun _ h9 => h9) rfl dB_feed_35 ?_
  refine lv_iload_n hx hb dB_feed_38 rfl (lv_at hl 2 rfl) ?_
  obtain ⟨hPc, hDc, hFc⟩ := xcut (wc := [(a1, .inr (1, [.ref a2, .int 4, v15])), (a2, .inl (cT 0, 4096, .inl (upd (upd (upd (upd f16 0 (vp_nar .byte y2)) 1 (vp_nar .byte y3)) 2 (vp_nar .byte y4)) 3 (vp_nar .byte y5))))]) hP hD hS hA [1, 2] rfl rfl (by decide)
  refine va_callv (va_runV (C := "ValueBench$Text") (As := [.int x4]) (rest := []) ⟨hx, hb, hml, hown, htx⟩ (cT_addInt_1 l hl9 D cT aK aV H.size a1 a2 x4 v15 (upd (upd (upd (upd f16 0 (vp_nar .byte y2)) 1 (vp_nar .byte y3)) 2 (vp_nar .byte y4)) 3 (vp_nar .byte y5))) ⟨callB_of 1 htx (xw_goodC kw_1_203) rfl rfl rfl (htx _ kw_1_2) (htx _ kw_1_200) ⟨by decide, by decide, by decide +kernel⟩ ⟨Nat.le_of_ble_eq_true rfl, Nat.le_of_ble_eq_true rfl⟩, (htx _ kw_1_201), (htx _ kw_1_202)⟩ ⟨xPre_blind, va_recv hK hP (ci := 1) rfl (q0 := 1) rfl, (fun U hU hW => ⟨rfl, xPre_of hZ hS hFc hPc hDc hK U hU hW⟩)⟩ rfl rfl hl.1 rfl (lv_room (Nat.le_of_ble_eq_true rfl)) dB_feed_39 ⟨Nat.le_of_ble_eq_true rfl, Nat.le_of_ble_eq_true rfl⟩) hS (fun q _ h => hFc q h) hFc (fun u9 t H1 locs ht hvm hr9 hB hz1 hk1 hS => ?_)
  obtain ⟨y6, y7, y8, y9, hP1, hK1, hD1⟩ := hB
  rw [ht] at hP1
  obtain ⟨hP, hD⟩ := xjoin (W := [(a0, .inr (0, [.ref a1, v8, v9, v10, v11, v12, v13, v14])), (a1, .inr (1, [.ref a2, .int 8, v15])), (a2, .inl (cT 0, 4096, .inl (upd (upd (upd (upd (upd (upd (upd (upd f16 0 (vp_nar .byte y2)) 1 (vp_nar .byte y3)) 2 (vp_nar .byte y4)) 3 (vp_nar .byte y5)) 4 (vp_nar .byte y6)) 5 (vp_nar .byte y7)) 6 (vp_nar .byte y8)) 7 (vp_nar .byte y9))))]) hP hD [1, 2] [0] 1 rfl rfl (by decide) (by decide) hk1 hFc hP1 hD1
  generalize H1 = H at hP hS ⊢
  refine lv_aload_n hx hb dB_feed_42 rfl (lv_at hl 0 rfl) ?_
  refine va_get (D := D) (ci := 0) (v := .ref a1) (C := "ValueBench") (T := TB) (N := 8) hx hb htx inB hown hK hP 0 rfl rfl 0 (by decide) (htx _ kw_1_95) (fun _ h9 => h9) rfl dB_feed_43 ?_
  refine lv_iload_n hx hb dB_feed_46 rfl (lv_at hl 3 rfl) ?_
  obtain ⟨hPc, hDc, hFc⟩ := xcut (wc := [(a1, .inr (1, [.ref a2, .int 8, v15])), (a2, .inl (cT 0, 4096, .inl (upd (upd (upd (upd (upd (upd (upd (upd f16 0 (vp_nar .byte y2)) 1 (vp_nar .byte y3)) 2 (vp_nar .byte y4)) 3 (vp_nar .byte y5)) 4 (vp_nar .byte y6)) 5 (vp_nar .byte y7)) 6 (vp_nar .byte y8)) 7 (vp_nar .byte y9))))]) hP hD hS hA [1, 2] rfl rfl (by decide)
  refine va_callv (va_runV (C := "ValueBench$Text") (As := [.int x5]) (rest := []) ⟨hx, hb, hml, hown, htx⟩ (cT_addInt_2 l hl9 D cT aK aV H.size a1 a2 x5 v15 (upd (upd (upd (upd (upd (upd (upd (upd f16 0 (vp_nar .byte y2)) 1 (vp_nar .byte y3)) 2 (vp_nar .byte y4)) 3 (vp_nar .byte y5)) 4 (vp_nar .byte y6)) 5 (vp_nar .byte y7)) 6 (vp_nar .byte y8)) 7 (vp_nar .byte y9))) ⟨callB_of 1 htx (xw_goodC kw_1_203) rfl rfl rfl (htx _ kw_1_2) (htx _ kw_1_200) ⟨by decide, by decide, by decide +kernel⟩ ⟨Nat.le_of_ble_eq_true rfl, Nat.le_of_ble_eq_true rfl⟩, (htx _ kw_1_201), (htx _ kw_1_202)⟩ ⟨xPre_blind, va_recv hK hP (ci := 1) rfl (q0 := 1) rfl, (fun U hU hW => ⟨rfl, xPre_of hZ hS hFc hPc hDc hK U hU hW⟩)⟩ rfl rfl hl.1 rfl (lv_room (Nat.le_of_ble_eq_true rfl)) dB_feed_47 ⟨Nat.le_of_ble_eq_true rfl, Nat.le_of_ble_eq_true rfl⟩) hS (fun q _ h => hFc q h) hFc (fun u9 t H1 locs ht hvm hr9 hB hz1 hk1 hS => ?_)
  obtain ⟨y10, y11, y12, y13, hP1, hK1, hD1⟩ := hB
  rw [ht] at hP1
  obtain ⟨hP, hD⟩ := xjoin (W := [(a0, .inr (0, [.ref a1, v8, v9, v10, v11, v12, v13, v14])), (a1, .inr (1, [.ref a2, .int 12, v15])), (a2, .inl (cT 0, 4096, .inl (upd (upd (upd (upd (upd (upd (upd (upd (upd (upd (upd (upd f16 0 (vp_nar .byte y2)) 1 (vp_nar .byte y3)) 2 (vp_nar .byte y4)) 3 (vp_nar .byte y5)) 4 (vp_nar .byte y6)) 5 (vp_nar .byte y7)) 6 (vp_nar .byte y8)) 7 (vp_nar .byte y9)) 8 (vp_nar .byte y10)) 9 (vp_nar .byte y11)) 10 (vp_nar .byte y12)) 11 (vp_nar .byte y13))))]) hP hD [1, 2] [0] 1 rfl rfl (by decide) (by decide) hk1 hFc hP1 hD1
  generalize H1 = H at hP hS ⊢
  refine lv_aload_n hx hb dB_feed_50 rfl (lv_at hl 0 rfl) ?_
  refine va_get (D := D) (ci := 0) (v := .ref a1) (C := "ValueBench") (T := TB) (N := 8) hx hb htx inB hown hK hP 0 rfl rfl 0 (by decide) (htx _ kw_1_95) (fun _ h9 => h9) rfl dB_feed_51 ?_
  refine lv_iload hx hb dB_feed_54 (lv_at hl 4 rfl) ?_
  obtain ⟨hPc, hDc, hFc⟩ := xcut (wc := [(a1, .inr (1, [.ref a2, .int 12, v15])), (a2, .inl (cT 0, 4096, .inl (upd (upd (upd (upd (upd (upd (upd (upd (upd (upd (upd (upd f16 0 (vp_nar .byte y2)) 1 (vp_nar .byte y3)) 2 (vp_nar .byte y4)) 3 (vp_nar .byte y5)) 4 (vp_nar .byte y6)) 5 (vp_nar .byte y7)) 6 (vp_nar .byte y8)) 7 (vp_nar .byte y9)) 8 (vp_nar .byte y10)) 9 (vp_nar .byte y11)) 10 (vp_nar .byte y12)) 11 (vp_nar .byte y13))))]) hP hD hS hA [1, 2] rfl rfl (by decide)
  refine va_callv (va_runV (C := "ValueBench$Text") (As := [.int x6]) (rest := []) ⟨hx, hb, hml, hown, htx⟩ (cT_addInt_3 l hl9 D cT aK aV H.size a1 a2 x6 v15 (upd (upd (upd (upd (upd (upd (upd (upd (upd (upd (upd (upd f16 0 (vp_nar .byte y2)) 1 (vp_nar .byte y3)) 2 (vp_nar .byte y4)) 3 (vp_nar .byte y5)) 4 (vp_nar .byte y6)) 5 (vp_nar .byte y7)) 6 (vp_nar .byte y8)) 7 (vp_nar .byte y9)) 8 (vp_nar .byte y10)) 9 (vp_nar .byte y11)) 10 (vp_nar .byte y12)) 11 (vp_nar .byte y13))) ⟨callB_of 1 htx (xw_goodC kw_1_203) rfl rfl rfl (htx _ kw_1_2) (htx _ kw_1_200) ⟨by decide, by decide, by decide +kernel⟩ ⟨Nat.le_of_ble_eq_true rfl, Nat.le_of_ble_eq_true rfl⟩, (htx _ kw_1_201), (htx _ kw_1_202)⟩ ⟨xPre_blind, va_recv hK hP (ci := 1) rfl (q0 := 1) rfl, (fun U hU hW => ⟨rfl, xPre_of hZ hS hFc hPc hDc hK U hU hW⟩)⟩ rfl rfl hl.1 rfl (lv_room (Nat.le_of_ble_eq_true rfl)) dB_feed_56 ⟨Nat.le_of_ble_eq_true rfl, Nat.le_of_ble_eq_true rfl⟩) hS (fun q _ h => hFc q h) hFc (fun u9 t H1 locs ht hvm hr9 hB hz1 hk1 hS => ?_)
  obtain ⟨y14, y15, y16, y17, hP1, hK1, hD1⟩ := hB
  rw [ht] at hP1
  obtain ⟨hP, hD⟩ := xjoin (W := [(a0, .inr (0, [.ref a1, v8, v9, v10, v11, v12, v13, v14])), (a1, .inr (1, [.ref a2, .int 16, v15])), (a2, .inl (cT 0, 4096, .inl (upd (upd (upd (upd (upd (upd (upd (upd (upd (upd (upd (upd (upd (upd (upd (upd f16 0 (vp_nar .byte y2)) 1 (vp_nar .byte y3)) 2 (vp_nar .byte y4)) 3 (vp_nar .byte y5)) 4 (vp_nar .byte y6)) 5 (vp_nar .byte y7)) 6 (vp_nar .byte y8)) 7 (vp_nar .byte y9)) 8 (vp_nar .byte y10)) 9 (vp_nar .byte y11)) 10 (vp_nar .byte y12)) 11 (vp_nar .byte y13)) 12 (vp_nar .byte y14)) 13 (vp_nar .byte y15)) 14 (vp_nar .byte y16)) 15 (vp_nar .byte y17))))]) hP hD [1, 2] [0] 1 rfl rfl (by decide) (by decide) hk1 hFc hP1 hD1
  generalize H1 = H at hP hS ⊢
  refine lv_aload_n hx hb dB_feed_59 rfl (lv_at hl 0 rfl) ?_
  refine va_get (D := D) (ci := 0) (v := .ref a1) (C := "ValueBench") (T := TB) (N := 8) hx hb htx inB hown hK hP 0 rfl rfl 0 (by decide) (htx _ kw_1_95) (fun _ h9 => h9) rfl dB_feed_60 ?_
  refine lv_iload hx hb dB_feed_63 (lv_at hl 5 rfl) ?_
  obtain ⟨hPc, hDc, hFc⟩ := xcut (wc := [(a1, .inr (1, [.ref a2, .int 16, v15])), (a2, .inl (cT 0, 4096, .inl (upd (upd (upd (upd (upd (upd (upd (upd (upd (upd (upd (upd (upd (upd (upd (upd f16 0 (vp_nar .byte y2)) 1 (vp_nar .byte y3)) 2 (vp_nar .byte y4)) 3 (vp_nar .byte y5)) 4 (vp_nar .byte y6)) 5 (vp_nar .byte y7)) 6 (vp_nar .byte y8)) 7 (vp_nar .byte y9)) 8 (vp_nar .byte y10)) 9 (vp_nar .byte y11)) 10 (vp_nar .byte y12)) 11 (vp_nar .byte y13)) 12 (vp_nar .byte y14)) 13 (vp_nar .byte y15)) 14 (vp_nar .byte y16)) 15 (vp_nar .byte y17))))]) hP hD hS hA [1, 2] rfl rfl (by decide)
  refine va_callv (va_runV (C := "ValueBench$Text") (As := [.int x7]) (rest := []) ⟨hx, hb, hml, hown, htx⟩ (cT_addInt_4 l hl9 D cT aK aV H.size a1 a2 x7 v15 (upd (upd (upd (upd (upd (upd (upd (upd (upd (upd (upd (upd (upd (upd (upd (upd f16 0 (vp_nar .byte y2)) 1 (vp_nar .byte y3)) 2 (vp_nar .byte y4)) 3 (vp_nar .byte y5)) 4 (vp_nar .byte y6)) 5 (vp_nar .byte y7)) 6 (vp_nar .byte y8)) 7 (vp_nar .byte y9)) 8 (vp_nar .byte y10)) 9 (vp_nar .byte y11)) 10 (vp_nar .byte y12)) 11 (vp_nar .byte y13)) 12 (vp_nar .byte y14)) 13 (vp_nar .byte y15)) 14 (vp_nar .byte y16)) 15 (vp_nar .byte y17))) ⟨callB_of 1 htx (xw_goodC kw_1_203) rfl rfl rfl (htx _ kw_1_2) (htx _ kw_1_200) ⟨by decide, by decide, by decide +kernel⟩ ⟨Nat.le_of_ble_eq_true rfl, Nat.le_of_ble_eq_true rfl⟩, (htx _ kw_1_201), (htx _ kw_1_202)⟩ ⟨xPre_blind, va_recv hK hP (ci := 1) rfl (q0 := 1) rfl, (fun U hU hW => ⟨rfl, xPre_of hZ hS hFc hPc hDc hK U hU hW⟩)⟩ rfl rfl hl.1 rfl (lv_room (Nat.le_of_ble_eq_true rfl)) dB_feed_65 ⟨Nat.le_of_ble_eq_true rfl, Nat.le_of_ble_eq_true rfl⟩) hS (fun q _ h => hFc q h) hFc (fun u9 t H1 locs ht hvm hr9 hB hz1 hk1 hS => ?_)
  obtain ⟨y18, y19, y20, y21, hP1, hK1, hD1⟩ := hB
  rw [ht] at hP1
  obtain ⟨hP, hD⟩ := xjoin (W := [(a0, .inr (0, [.ref a1, v8, v9, v10, v11, v12, v13, v14])), (a1, .inr (1, [.ref a2, .int 20, v15])), (a2, .inl (cT 0, 4096, .inl (upd (upd (upd (upd (upd (upd (upd (upd (upd (upd (upd (upd (upd (upd (upd (upd (upd (upd (upd (upd f16 0 (vp_nar .byte y2)) 1 (vp_nar .byte y3)) 2 (vp_nar .byte y4)) 3 (vp_nar .byte y5)) 4 (vp_nar .byte y6)) 5 (vp_nar .byte y7)) 6 (vp_nar .byte y8)) 7 (vp_nar .byte y9)) 8 (vp_nar .byte y10)) 9 (vp_nar .byte y11)) 10 (vp_nar .byte y12)) 11 (vp_nar .byte y13)) 12 (vp_nar .byte y14)) 13 (vp_nar .byte y15)) 14 (vp_nar .byte y16)) 15 (vp_nar .byte y17)) 16 (vp_nar .byte y18)) 17 (vp_nar .byte y19)) 18 (vp_nar .byte y20)) 19 (vp_nar .byte y21))))]) hP hD [1, 2] [0] 1 rfl rfl (by decide) (by decide) hk1 hFc hP1 hD1
  generalize H1 = H at hP hS ⊢
  refine lv_aload_n hx hb dB_feed_68 rfl (lv_at hl 0 rfl) ?_
  refine va_get (D := D) (ci := 0) (v := .ref a1) (C := "ValueBench") (T := TB) (N := 8) hx hb htx inB hown hK hP 0 rfl rfl 0 (by decide) (htx _ kw_1_95) (fun _ h9 => h9) rfl dB_feed_69 ?_
  obtain ⟨hPc, hDc, hFc⟩ := xcut (wc := [(a1, .inr (1, [.ref a2, .int 20, v15]))]) hP hD hS hA [1] rfl rfl (by decide)
  refine va_calli (va_runV (C := "ValueBench$Text") (As := []) (rest := []) ⟨hx, hb, hml, hown, htx⟩ (cT_size_1 l hl9 D cT aK aV H.size a1 (.ref a2) v15) ⟨callB_of 0 htx (xw_goodC kw_1_131) rfl rfl rfl (htx _ kw_1_2) (htx _ kw_1_128) ⟨by decide, by decide, by decide +kernel⟩ ⟨Nat.le_of_ble_eq_true rfl, Nat.le_of_ble_eq_true rfl⟩, (htx _ kw_1_129), (htx _ kw_1_130)⟩ ⟨xPre_blind, va_recv hK hP (ci := 1) rfl (q0 := 1) rfl, (fun U hU hW => ⟨rfl, xPre_of hZ hS hFc hPc hDc hK U hU hW⟩)⟩ rfl rfl hl.1 rfl (lv_room (Nat.le_of_ble_eq_true rfl)) dB_feed_72 ⟨Nat.le_of_ble_eq_true rfl, Nat.le_of_ble_eq_true rfl⟩) hS (fun q _ h => hFc q h) hFc (fun r22 u9 t H1 locs ht hvm hr9 hB hz1 hk1 hS => ?_)
  obtain ⟨hP1, hK1, hD1⟩ := hB
  rw [ht] at hP1
  obtain ⟨hP, hD⟩ := xjoin (W := [(a0, .inr (0, [.ref a1, v8, v9, v10, v11, v12, v13, v14])), (a2, .inl (cT 0, 4096, .inl (upd (upd (upd (upd (upd (upd (upd (upd (upd (upd (upd (upd (upd (upd (upd (upd (upd (upd (upd (upd f16 0 (vp_nar .byte y2)) 1 (vp_nar .byte y3)) 2 (vp_nar .byte y4)) 3 (vp_nar .byte y5)) 4 (vp_nar .byte y6)) 5 (vp_nar .byte y7)) 6 (vp_nar .byte y8)) 7 (vp_nar .byte y9)) 8 (vp_nar .byte y10)) 9 (vp_nar .byte y11)) 10 (vp_nar .byte y12)) 11 (vp_nar .byte y13)) 12 (vp_nar .byte y14)) 13 (vp_nar .byte y15)) 14 (vp_nar .byte y16)) 15 (vp_nar .byte y17)) 16 (vp_nar .byte y18)) 17 (vp_nar .byte y19)) 18 (vp_nar .byte y20)) 19 (vp_nar .byte y21)))), (a1, .inr (1, [.ref a2, .int 20, v15]))]) hP hD [1] [0, 2] 2 rfl rfl (by decide) (by decide) hk1 hFc hP1 hD1
  generalize H1 = H at hP hS ⊢
  rw [hr9]
  refine W.eq (g2 := F0 m 75 ls [.int 20]) rfl ?_
  obtain ⟨hP9, hD9⟩ := xsub (wc := [(a0, .inr (0, [.ref a1, v8, v9, v10, v11, v12, v13, v14])), (a1, .inr (1, [.ref a2, .int 20, v15])), (a2, .inl (cT 0, 4096, .inl (upd (upd (upd (upd (upd (upd (upd (upd (upd (upd (upd (upd (upd (upd (upd (upd (upd (upd (upd (upd f16 0 (vp_nar .byte y2)) 1 (vp_nar .byte y3)) 2 (vp_nar .byte y4)) 3 (vp_nar .byte y5)) 4 (vp_nar .byte y6)) 5 (vp_nar .byte y7)) 6 (vp_nar .byte y8)) 7 (vp_nar .byte y9)) 8 (vp_nar .byte y10)) 9 (vp_nar .byte y11)) 10 (vp_nar .byte y12)) 11 (vp_nar .byte y13)) 12 (vp_nar .byte y14)) 13 (vp_nar .byte y15)) 14 (vp_nar .byte y16)) 15 (vp_nar .byte y17)) 16 (vp_nar .byte y18)) 17 (vp_nar .byte y19)) 18 (vp_nar .byte y20)) 19 (vp_nar .byte y21))))]) hP hD [0, 2, 1] rfl rfl (by decide)
  refine W.widen (k := 0) (n := 0) (Nat.le_of_ble_eq_true rfl) (Nat.le_of_ble_eq_true rfl) ?_
  exact W.iret (v := 20) hx hb hr (fun t ht hW => ⟨⟨20, (), rfl, rfl, y2, y3, y4, y5, y6, y7, y8, y9, y10, y11, y12, y13, y14, y15, y16, y17, y18, y19, y20, y21, by rw [ht]; exact hP9, va_K.moved hW.alike hK, hD9⟩, hS.F ht⟩) hS.2.2 dB_feed_75
set_option maxHeartbeats 400000000 in
set_option maxRecDepth 100000 in
theorem cL_feed_0 (l : Launch) (hl9 : l.stackTraces = false) (D : va_G) (cT : Nat → ClassId) (aK aV : Nat → Nat) (sz : Nat) (a0 : Nat) (a1 : Nat) (a2 : Nat) (a3 : Nat) (x4 : Int32) (x5 : Int32) (x6 : Int32) (x7 : Int32) (x8 : Int32) (v9 : Value) (v10 : Value) (v11 : Value) (v12 : Value) (v13 : Value) (v14 : Value) (v15 : Value) (v16 : Value) (f17 : Nat → Int32) (f18 : Nat → Int64) : xMet l yL_feed wyL_feed 3 0 0 68 D cT aK aV sz [.ref a0, .int x4, .int x5, .int x6, .int x7, .int x8, .ref a3] [(a0, .inr (0, [.ref a1, v9, v10, v11, v12, v13, v14, v15])), (a1, .inr (1, [.ref a2, .int 0, v16])), (a2, .inl (cT 0, 4096, .inl f17)), (a3, .inl (cT 2, 1, .inr (.inl f18)))] (fun A => va_Qi (fun (r : Int32) (_ : Unit) => r = 0) (fun _ t => ∃ (y2 : Int32) (y3 : Int32) (y4 : Int32) (y5 : Int32) (y6 : Int32) (y7 : Int32) (y8 : Int32) (y9 : Int32) (y10 : Int32) (y11 : Int32) (y12 : Int32) (y13 : Int32) (y14 : Int32) (y15 : Int32) (y16 : Int32) (y17 : Int32) (y18 : Int32) (y19 : Int32) (y20 : Int32) (y21 : Int32), xB D xcl cT A [(a0, .inr (0, [.ref a1, v9, v10, v11, v12, v13, v14, v15])), (a1, .inr (1, [.ref a2, .int 20, v16])), (a2, .inl (cT 0, 4096, .inl (upd (upd (upd (upd (upd (upd (upd (upd (upd (upd (upd (upd (upd (upd (upd (upd (upd (upd (upd (upd f17 0 (vp_nar .byte y2)) 1 (vp_nar .byte y3)) 2 (vp_nar .byte y4)) 3 (vp_nar .byte y5)) 4 (vp_nar .byte y6)) 5 (vp_nar .byte y7)) 6 (vp_nar .byte y8)) 7 (vp_nar .byte y9)) 8 (vp_nar .byte y10)) 9 (vp_nar .byte y11)) 10 (vp_nar .byte y12)) 11 (vp_nar .byte y13)) 12 (vp_nar .byte y14)) 13 (vp_nar .byte y15)) 14 (vp_nar .byte y16)) 15 (vp_nar .byte y17)) 16 (vp_nar .byte y18)) 17 (vp_nar .byte y19)) 18 (vp_nar .byte y20)) 19 (vp_nar .byte y21)))), (a3, .inl (cT 2, 1, .inr (.inl (vp_updL f18 0 20))))] t) A) := by
  refine va_MetW (cc := method_3_code) (maxL := 8) (ret := (some .int)) (hh := [(0, 16, 19, 13)]) (by decide) rfl ?_
  intro p e s m args below meth c s₁ B hml hv
  obtain ⟨rfl, hsz, hZ, hP, hK, hD0⟩ := hv
  have hx := B.exec
  have hb := B.bytes
  have hr := B.returns
  have hts := atoms_spec (ws := wyL_feed) B.pre
  have htx := fun w h => hts w (List.mem_cons_of_mem _ h)
  have hown : s.vm.findClass "ValueBenchLaw" = some m.cls := findClass_of_methodNamed B.named
  have hlocks := B.notSynchronized
  subst hsz
  have hD := hD0.self (sz := s.heap.size)
  generalize hAe : va_A [(a0, .inr (0, [.ref a1, v9, v10, v11, v12, v13, v14, v15])), (a1, .inr (1, [.ref a2, .int 0, v16])), (a2, .inl (cT 0, 4096, .inl f17)), (a3, .inl (cT 2, 1, .inr (.inl f18)))] s.heap.size = A at hD hZ ⊢
  have hA : ∀ q : Nat, s.heap.size ≤ q → A q := fun q h => by rw [← hAe]; exact Or.inr h
  have hS : va_S A s.heap s.heap [] := va_S.rf
  have hP : va_P D xcl [(a0, .inr (0, [.ref a1, v9, v10, v11, v12, v13, v14, v15])), (a1, .inr (1, [.ref a2, .int 0, v16])), (a2, .inl (cT 0, 4096, .inl f17)), (a3, .inl (cT 2, 1, .inr (.inl f18)))] s.heap := hP
  have hl := lv_entry ([.ref a0, .int x4, .int x5, .int x6, .int x7, .int x8, .ref a3]) (n := 8) (Nat.le_of_ble_eq_true rfl)
  rw [lg_entry_eq]
  generalize (lg_sl ([.ref a0, .int x4, .int x5, .int x6, .int x7, .int x8, .ref a3]) ++ List.replicate (8 - (lg_sl ([.ref a0, .int x4, .int x5, .int x6, .int x7, .int x8, .ref a3])).length) Slot.unset).toArray = ls at hl ⊢
  have hl : lv_has ls 8 [(0, .ref a0), (1, .int x4), (2, .int x5), (3, .int x6), (4, .int x7), (5, .int x8), (6, .ref a3)] := hl
  have htab := vx_table (x := yL_feed) B (hts _ List.mem_cons_self)
  refine lv_aload hx hb dL_feed_0 (lv_at hl 6 rfl) ?_
  refine lv_iconst (v := 0) hx hb dL_feed_2 (by decide) ?_
  refine lv_aload_n hx hb dL_feed_3 rfl (lv_at hl 0 rfl) ?_
  refine lv_iload_n hx hb dL_feed_4 rfl (lv_at hl 1 rfl) ?_
  refine lv_iload_n hx hb dL_feed_5 rfl (lv_at hl 2 rfl) ?_
  refine lv_iload_n hx hb dL_feed_6 rfl (lv_at hl 3 rfl) ?_
  refine lv_iload hx hb dL_feed_7 (lv_at hl 4 rfl) ?_
  refine lv_iload hx hb dL_feed_9 (lv_at hl 5 rfl) ?_
  obtain ⟨hPc, hDc, hFc⟩ := xcut (wc := [(a0, .inr (0, [.ref a1, v9, v10, v11, v12, v13, v14, v15])), (a1, .inr (1, [.ref a2, .int 0, v16])), (a2, .inl (cT 0, 4096, .inl f17))]) hP hD hS hA [0, 1, 2] rfl rfl (by decide)
  refine va_calli (va_runV (C := "ValueBench") (As := [.int x4, .int x5, .int x6, .int x7, .int x8]) (rest := [.int 0, .ref a3]) ⟨hx, hb, hml, hown, htx⟩ (cB_feed_0 l hl9 D cT aK aV s.heap.size a0 a1 a2 x4 x5 x6 x7 x8 v9 v10 v11 v12 v13 v14 v15 v16 f17) ⟨callB_of 5 htx (xw_goodC kw_1_127) rfl rfl rfl (htx _ kw_1_1) (htx _ kw_1_124) ⟨by decide, by decide, by decide +kernel⟩ ⟨Nat.le_of_ble_eq_true rfl, Nat.le_of_ble_eq_true rfl⟩, (htx _ kw_1_125), (htx _ kw_1_126)⟩ ⟨xPre_blind, va_recv hK hP (ci := 0) rfl (q0 := 0) rfl, (fun U hU hW => ⟨rfl, xPre_of hZ hS hFc hPc hDc hK U hU hW⟩)⟩ rfl rfl hl.1 rfl (lv_room (Nat.le_of_ble_eq_true rfl)) dL_feed_11 ⟨Nat.le_of_ble_eq_true rfl, Nat.le_of_ble_eq_true rfl⟩) hS (fun q _ h => hFc q h) hFc (fun r1 u9 t H1 locs ht hvm hr9 hB hz1 hk1 hS => ?_)
  obtain ⟨y2, y3, y4, y5, y6, y7, y8, y9, y10, y11, y12, y13, y14, y15, y16, y17, y18, y19, y20, y21, hP1, hK1, hD1⟩ := hB
  rw [ht] at hP1
  obtain ⟨hP, hD⟩ := xjoin (W := [(a3, .inl (cT 2, 1, .inr (.inl f18))), (a0, .inr (0, [.ref a1, v9, v10, v11, v12, v13, v14, v15])), (a1, .inr (1, [.ref a2, .int 20, v16])), (a2, .inl (cT 0, 4096, .inl (upd (upd (upd (upd (upd (upd (upd (upd (upd (upd (upd (upd (upd (upd (upd (upd (upd (upd (upd (upd f17 0 (vp_nar .byte y2)) 1 (vp_nar .byte y3)) 2 (vp_nar .byte y4)) 3 (vp_nar .byte y5)) 4 (vp_nar .byte y6)) 5 (vp_nar .byte y7)) 6 (vp_nar .byte y8)) 7 (vp_nar .byte y9)) 8 (vp_nar .byte y10)) 9 (vp_nar .byte y11)) 10 (vp_nar .byte y12)) 11 (vp_nar .byte y13)) 12 (vp_nar .byte y14)) 13 (vp_nar .byte y15)) 14 (vp_nar .byte y16)) 15 (vp_nar .byte y17)) 16 (vp_nar .byte y18)) 17 (vp_nar .byte y19)) 18 (vp_nar .byte y20)) 19 (vp_nar .byte y21))))]) hP hD [0, 1, 2] [3] 1 rfl rfl (by decide) (by decide) hk1 hFc hP1 hD1
  generalize H1 = H at hP hS ⊢
  rw [hr9]
  refine W.eq (g2 := F0 m 14 ls [.int 20, .int 0, .ref a3]) rfl ?_
  refine lv_i2l hx hb dL_feed_14 rfl ?_
  refine W.eq (g2 := F0 m 15 ls [.long 20, .int 0, .ref a3]) rfl ?_
  refine va_last hx hb hK hP hD hS 0 2 rfl rfl (show ¬ ((0 : Int32) < 0 ∨ 1 ≤ (0 : Int32).toNatClampNeg) by decide) dL_feed_15 (fun H locs hP hD hS => ?_)
  obtain ⟨hP, hD⟩ : xPD D xcl A [(a3, .inl (cT 2, 1, .inr (.inl (vp_updL f18 0 20)))), (a0, .inr (0, [.ref a1, v9, v10, v11, v12, v13, v14, v15])), (a1, .inr (1, [.ref a2, .int 20, v16])), (a2, .inl (cT 0, 4096, .inl (upd (upd (upd (upd (upd (upd (upd (upd (upd (upd (upd (upd (upd (upd (upd (upd (upd (upd (upd (upd f17 0 (vp_nar .byte y2)) 1 (vp_nar .byte y3)) 2 (vp_nar .byte y4)) 3 (vp_nar .byte y5)) 4 (vp_nar .byte y6)) 5 (vp_nar .byte y7)) 6 (vp_nar .byte y8)) 7 (vp_nar .byte y9)) 8 (vp_nar .byte y10)) 9 (vp_nar .byte y11)) 10 (vp_nar .byte y12)) 11 (vp_nar .byte y13)) 12 (vp_nar .byte y14)) 13 (vp_nar .byte y15)) 14 (vp_nar .byte y16)) 15 (vp_nar .byte y17)) 16 (vp_nar .byte y18)) 17 (vp_nar .byte y19)) 18 (vp_nar .byte y20)) 19 (vp_nar .byte y21))))] H := ⟨hP, hD⟩
  refine lv_goto (tgt := 23) hx hb dL_feed_16 (by decide) ?_
  refine lv_iconst (v := 0) hx hb dL_feed_23 (by decide) ?_
  obtain ⟨hP9, hD9⟩ := xsub (wc := [(a0, .inr (0, [.ref a1, v9, v10, v11, v12, v13, v14, v15])), (a1, .inr (1, [.ref a2, .int 20, v16])), (a2, .inl (cT 0, 4096, .inl (upd (upd (upd (upd (upd (upd (upd (upd (upd (upd (upd (upd (upd (upd (upd (upd (upd (upd (upd (upd f17 0 (vp_nar .byte y2)) 1 (vp_nar .byte y3)) 2 (vp_nar .byte y4)) 3 (vp_nar .byte y5)) 4 (vp_nar .byte y6)) 5 (vp_nar .byte y7)) 6 (vp_nar .byte y8)) 7 (vp_nar .byte y9)) 8 (vp_nar .byte y10)) 9 (vp_nar .byte y11)) 10 (vp_nar .byte y12)) 11 (vp_nar .byte y13)) 12 (vp_nar .byte y14)) 13 (vp_nar .byte y15)) 14 (vp_nar .byte y16)) 15 (vp_nar .byte y17)) 16 (vp_nar .byte y18)) 17 (vp_nar .byte y19)) 18 (vp_nar .byte y20)) 19 (vp_nar .byte y21)))), (a3, .inl (cT 2, 1, .inr (.inl (vp_updL f18 0 20))))]) hP hD [1, 2, 3, 0] rfl rfl (by decide)
  refine W.widen (k := 0) (n := 0) (Nat.le_of_ble_eq_true rfl) (Nat.le_of_ble_eq_true rfl) ?_
  exact W.iret (v := 0) hx hb hr (fun t ht hW => ⟨⟨0, (), rfl, rfl, y2, y3, y4, y5, y6, y7, y8, y9, y10, y11, y12, y13, y14, y15, y16, y17, y18, y19, y20, y21, by rw [ht]; exact hP9, va_K.moved hW.alike hK, hD9⟩, hS.F ht⟩) hS.2.2 dL_feed_24
set_option maxHeartbeats 400000000 in
set_option maxRecDepth 100000 in
theorem cB_isWithin_0 (l : Launch) (hl9 : l.stackTraces = false) (D : va_G) (cT : Nat → ClassId) (aK aV : Nat → Nat) (sz : Nat) : xMet l yB_isWithin wyB_isWithin 0 0 0 0 D cT aK aV sz [.int 0, .int 0] [] (fun A => va_Qi (fun (r : Int32) (_ : Unit) => r = 1) (fun _ t => xB D xcl cT A [] t) A) := by
  refine Met.ofW (cc := prog_1_method_15_code) (maxL := 2) (ret := (some .boolean)) (by decide) rfl ?_
  intro p e s m args below meth c s₁ B hml hv
  obtain ⟨rfl, hsz, hZ, hP, hK, hD0⟩ := hv
  have hx := B.exec
  have hb := B.bytes
  have hr := B.returns
  have hts := atoms_spec (ws := wyB_isWithin) B.pre
  have htx := fun w h => hts w (List.mem_cons_of_mem _ h)
  have hown : s.vm.findClass "ValueBench" = some m.cls := findClass_of_methodNamed B.named
  have hlocks := B.notSynchronized
  subst hsz
  have hD := hD0.self (sz := s.heap.size)
  generalize hAe : va_A [] s.heap.size = A at hD hZ ⊢
  have hA : ∀ q : Nat, s.heap.size ≤ q → A q := fun q h => by rw [← hAe]; exact Or.inr h
  have hS : va_S A s.heap s.heap [] := va_S.rf
  have hP : va_P D xcl [] s.heap := hP
  have hl := lv_entry ([.int 0, .int 0]) (n := 2) (Nat.le_of_ble_eq_true rfl)
  rw [lg_entry_eq]
  generalize (lg_sl ([.int 0, .int 0]) ++ List.replicate (2 - (lg_sl ([.int 0, .int 0])).length) Slot.unset).toArray = ls at hl ⊢
  have hl : lv_has ls 2 [(0, .int 0), (1, .int 0)] := hl
  refine lv_iload_n hx hb dB_isWithin_0 rfl (lv_at hl 0 rfl) ?_
  refine lv_if_lt (tgt := 13) hx hb dB_isWithin_1 (by decide) (fun h => ((by revert h; decide : False)).elim) (fun _ => ?_)
  refine lv_iload_n hx hb dB_isWithin_4 rfl (lv_at hl 0 rfl) ?_
  refine lv_iload_n hx hb dB_isWithin_5 rfl (lv_at hl 1 rfl) ?_
  refine lv_icmp_gt (tgt := 13) hx hb dB_isWithin_6 (by decide) (fun h => ((by revert h; decide : False)).elim) (fun _ => ?_)
  refine lv_iconst (v := 1) hx hb dB_isWithin_9 (by decide) ?_
  refine lv_goto (tgt := 14) hx hb dB_isWithin_10 (by decide) ?_
  obtain ⟨hP9, hD9⟩ := xsub (wc := []) hP hD [] rfl rfl (by decide)
  refine W.widen (k := 0) (n := 0) (Nat.le_of_ble_eq_true rfl) (Nat.le_of_ble_eq_true rfl) ?_
  exact W.zret (v := 1) hx hb hr rfl (fun t ht hW => ⟨⟨1, (), rfl, rfl, by rw [ht]; exact hP9, va_K.moved hW.alike hK, hD9⟩, hS.F ht⟩) hS.2.2 dB_isWithin_14
set_option maxHeartbeats 400000000 in
set_option maxRecDepth 100000 in
theorem cB_demand_0 (l : Launch) (hl9 : l.stackTraces = false) (D : va_G) (cT : Nat → ClassId) (aK aV : Nat → Nat) (sz : Nat) : xMet l yB_demand wyB_demand 0 0 0 0 D cT aK aV sz [.int 1] [] (fun A => va_Qv (fun _ : Unit => True) (fun _ t => xB D xcl cT A [] t) A) := by
  refine Met.ofW (cc := prog_1_method_16_code) (maxL := 1) (ret := none) (by decide) rfl ?_
  intro p e s m args below meth c s₁ B hml hv
  obtain ⟨rfl, hsz, hZ, hP, hK, hD0⟩ := hv
  have hx := B.exec
  have hb := B.bytes
  have hr := B.returns
  have hts := atoms_spec (ws := wyB_demand) B.pre
  have htx := fun w h => hts w (List.mem_cons_of_mem _ h)
  have hown : s.vm.findClass "ValueBench" = some m.cls := findClass_of_methodNamed B.named
  have hlocks := B.notSynchronized
  subst hsz
  have hD := hD0.self (sz := s.heap.size)
  generalize hAe : va_A [] s.heap.size = A at hD hZ ⊢
  have hA : ∀ q : Nat, s.heap.size ≤ q → A q := fun q h => by rw [← hAe]; exact Or.inr h
  have hS : va_S A s.heap s.heap [] := va_S.rf
  have hP : va_P D xcl [] s.heap := hP
  have hl := lv_entry ([.int 1]) (n := 1) (Nat.le_of_ble_eq_true rfl)
  rw [lg_entry_eq]
  generalize (lg_sl ([.int 1]) ++ List.replicate (1 - (lg_sl ([.int 1])).length) Slot.unset).toArray = ls at hl ⊢
  have hl : lv_has ls 1 [(0, .int 1)] := hl
  refine lv_iload_n hx hb dB_demand_0 rfl (lv_at hl 0 rfl) ?_
  refine lv_if_ne (tgt := 14) hx hb dB_demand_1 (by decide) (fun _ => ?_) (fun h => ((by revert h; decide : False)).elim)
  obtain ⟨hP9, hD9⟩ := xsub (wc := []) hP hD [] rfl rfl (by decide)
  refine W.widen (k := 0) (n := 0) (Nat.le_of_ble_eq_true rfl) (Nat.le_of_ble_eq_true rfl) ?_
  exact W.vret hx hb hr (fun t ht hW => ⟨⟨(), rfl, trivial, by rw [ht]; exact hP9, va_K.moved hW.alike hK, hD9⟩, hS.F ht⟩) hS.2.2 dB_demand_14
set_option maxHeartbeats 400000000 in
set_option maxRecDepth 100000 in
theorem cT_keep_0 (l : Launch) (hl9 : l.stackTraces = false) (D : va_G) (cT : Nat → ClassId) (aK aV : Nat → Nat) (sz : Nat) (a0 : Nat) (x1 : Int32) (v2 : Value) (x3 : Int32) (v4 : Value) : xMet l yT_keep wyT_keep 1 0 0 40 D cT aK aV sz [.ref a0, .int x1] [(a0, .inr (1, [v2, .int x3, v4]))] (fun A => va_Qv (fun _ : Unit => True) (fun _ t => ∃ (y2 : Int32), xB D xcl cT A [(a0, .inr (1, [v2, .int y2, v4]))] t) A) := by
  refine Met.ofW (cc := prog_11_method_3_code) (maxL := 2) (ret := none) (by decide) rfl ?_
  intro p e s m args below meth c s₁ B hml hv
  obtain ⟨rfl, hsz, hZ, hP, hK, hD0⟩ := hv
  have hx := B.exec
  have hb := B.bytes
  have hr := B.returns
  have hts := atoms_spec (ws := wyT_keep) B.pre
  have htx := fun w h => hts w (List.mem_cons_of_mem _ h)
  have hown : s.vm.findClass "ValueBench$Text" = some m.cls := findClass_of_methodNamed B.named
  have hlocks := B.notSynchronized
  subst hsz
  have hD := hD0.self (sz := s.heap.size)
  generalize hAe : va_A [(a0, .inr (1, [v2, .int x3, v4]))] s.heap.size = A at hD hZ ⊢
  have hA : ∀ q : Nat, s.heap.size ≤ q → A q := fun q h => by rw [← hAe]; exact Or.inr h
  have hS : va_S A s.heap s.heap [] := va_S.rf
  have hP : va_P D xcl [(a0, .inr (1, [v2, .int x3, v4]))] s.heap := hP
  have hl := lv_entry ([.ref a0, .int x1]) (n := 2) (Nat.le_of_ble_eq_true rfl)
  rw [lg_entry_eq]
  generalize (lg_sl ([.ref a0, .int x1]) ++ List.replicate (2 - (lg_sl ([.ref a0, .int x1])).length) Slot.unset).toArray = ls at hl ⊢
  have hl : lv_has ls 2 [(0, .ref a0), (1, .int x1)] := hl
  refine lv_aload_n hx hb dT_keep_0 rfl (lv_at hl 0 rfl) ?_
  refine lv_iconst (v := 0) hx hb dT_keep_1 (by decide) ?_
  refine lv_iload_n hx hb dT_keep_2 rfl (lv_at hl 1 rfl) ?_
  refine lv_aload_n hx hb dT_keep_3 rfl (lv_at hl 0 rfl) ?_
  refine va_get (D := D) (ci := 1) (v := .int x3) (C := "ValueBench$Text") (T := TT) (N := 3) hx hb htx inT hown hK hP 0 rfl rfl 1 (by decide) (htx _ kw_1_44) (fun _ h9 => h9) rfl dT_keep_4 ?_
  refine va_mmin hx hb (hml.trans hl.1.symm) hown (htx _ kw_2_2) (htx _ kw_2_3) (htx _ kw_1_15) (htx _ kw_2_4) (Nat.le_of_ble_eq_true rfl) (Nat.le_of_ble_eq_true rfl) (Nat.le_of_ble_eq_true rfl) (Nat.le_of_ble_eq_true rfl) dT_keep_7 ?_
  refine lv_topi (fun y1 ey1 => ?_)
  refine va_mmax hx hb (hml.trans hl.1.symm) hown (htx _ kw_2_5) (htx _ kw_2_6) (htx _ kw_1_15) (htx _ kw_2_7) (Nat.le_of_ble_eq_true rfl) (Nat.le_of_ble_eq_true rfl) (Nat.le_of_ble_eq_true rfl) (Nat.le_of_ble_eq_true rfl) dT_keep_10 ?_
  refine lv_topi (fun y2 ey2 => ?_)
  refine va_put (D := D) (ci := 1) (v := .int y2) (ty := .int) (C := "ValueBench$Text") (T := TT) (N := 3) hx hb htx inT tyT tyT_ok nmT hown hK hP hD hS 0 rfl rfl 1 (by decide) (htx _ kw_1_44) (fun _ h9 => h9) rfl (by decide +kernel) rfl rfl (Nat.le_of_ble_eq_true rfl) dT_keep_13 (fun H locs hP hD hS => ?_)
  obtain ⟨hP, hD⟩ : xPD D xcl A [(a0, .inr (1, [v2, .int y2, v4]))] H := ⟨hP, hD⟩
  obtain ⟨hP9, hD9⟩ := xsub (wc := [(a0, .inr (1, [v2, .int y2, v4]))]) hP hD [0] rfl rfl (by decide)
  refine W.widen (k := 0) (n := 0) (Nat.le_of_ble_eq_true rfl) (Nat.le_of_ble_eq_true rfl) ?_
  exact W.vret hx hb hr (fun t ht hW => ⟨⟨(), rfl, trivial, y2, by rw [ht]; exact hP9, va_K.moved hW.alike hK, hD9⟩, hS.F ht⟩) hS.2.2 dT_keep_16
set_option maxHeartbeats 400000000 in
set_option maxRecDepth 100000 in
theorem cB_end_0 (l : Launch) (hl9 : l.stackTraces = false) (D : va_G) (cT : Nat → ClassId) (aK aV : Nat → Nat) (sz : Nat) (a0 : Nat) (a1 : Nat) (v2 : Value) (v3 : Value) (v4 : Value) (v5 : Value) (v6 : Value) (v7 : Value) (v8 : Value) (v9 : Value) (v10 : Value) : xMet l yB_end wyB_end 2 0 0 61 D cT aK aV sz [.ref a0, .int 0] [(a0, .inr (0, [.ref a1, v2, v3, v4, v5, v6, v7, v8])), (a1, .inr (1, [v9, .int 0, v10]))] (fun A => va_Qi (fun (r : Int32) (_ : Unit) => r = 0) (fun _ t => ∃ (y3 : Int32), xB D xcl cT A [(a0, .inr (0, [.ref a1, v2, v3, v4, v5, v6, v7, v8])), (a1, .inr (1, [v9, .int y3, v10]))] t) A) := by
  refine Met.ofW (cc := prog_1_method_3_code) (maxL := 2) (ret := (some .int)) (by decide) rfl ?_
  intro p e s m args below meth c s₁ B hml hv
  obtain ⟨rfl, hsz, hZ, hP, hK, hD0⟩ := hv
  have hx := B.exec
  have hb := B.bytes
  have hr := B.returns
  have hts := atoms_spec (ws := wyB_end) B.pre
  have htx := fun w h => hts w (List.mem_cons_of_mem _ h)
  have hown : s.vm.findClass "ValueBench" = some m.cls := findClass_of_methodNamed B.named
  have hlocks := B.notSynchronized
  subst hsz
  have hD := hD0.self (sz := s.heap.size)
  generalize hAe : va_A [(a0, .inr (0, [.ref a1, v2, v3, v4, v5, v6, v7, v8])), (a1, .inr (1, [v9, .int 0, v10]))] s.heap.size = A at hD hZ ⊢
  have hA : ∀ q : Nat, s.heap.size ≤ q → A q := fun q h => by rw [← hAe]; exact Or.inr h
  have hS : va_S A s.heap s.heap [] := va_S.rf
  have hP : va_P D xcl [(a0, .inr (0, [.ref a1, v2, v3, v4, v5, v6, v7, v8])), (a1, .inr (1, [v9, .int 0, v10]))] s.heap := hP
  have hl := lv_entry ([.ref a0, .int 0]) (n := 2) (Nat.le_of_ble_eq_true rfl)
  rw [lg_entry_eq]
  generalize (lg_sl ([.ref a0, .int 0]) ++ List.replicate (2 - (lg_sl ([.ref a0, .int 0])).length) Slot.unset).toArray = ls at hl ⊢
  have hl : lv_has ls 2 [(0, .ref a0), (1, .int 0)] := hl
  refine lv_iload_n hx hb dB_end_0 rfl (lv_at hl 1 rfl) ?_
  refine lv_aload_n hx hb dB_end_1 rfl (lv_at hl 0 rfl) ?_
  refine va_get (D := D) (ci := 0) (v := .ref a1) (C := "ValueBench") (T := TB) (N := 8) hx hb htx inB hown hK hP 0 rfl rfl 0 (by decide) (htx _ kw_1_95) (fun _ h9 => h9) rfl dB_end_2 ?_
  obtain ⟨hPc, hDc, hFc⟩ := xcut (wc := [(a1, .inr (1, [v9, .int 0, v10]))]) hP hD hS hA [1] rfl rfl (by decide)
  refine va_calli (va_runV (C := "ValueBench$Text") (As := []) (rest := [.int 0]) ⟨hx, hb, hml, hown, htx⟩ (cT_size_0 l hl9 D cT aK aV s.heap.size a1 v9 v10) ⟨callB_of 0 htx (xw_goodC kw_1_131) rfl rfl rfl (htx _ kw_1_2) (htx _ kw_1_128) ⟨by decide, by decide, by decide +kernel⟩ ⟨Nat.le_of_ble_eq_true rfl, Nat.le_of_ble_eq_true rfl⟩, (htx _ kw_1_129), (htx _ kw_1_130)⟩ ⟨xPre_blind, va_recv hK hP (ci := 1) rfl (q0 := 1) rfl, (fun U hU hW => ⟨rfl, xPre_of hZ hS hFc hPc hDc hK U hU hW⟩)⟩ rfl rfl hl.1 rfl (lv_room (Nat.le_of_ble_eq_true rfl)) dB_end_5 ⟨Nat.le_of_ble_eq_true rfl, Nat.le_of_ble_eq_true rfl⟩) hS (fun q _ h => hFc q h) hFc (fun r1 u9 t H1 locs ht hvm hr9 hB hz1 hk1 hS => ?_)
  obtain ⟨hP1, hK1, hD1⟩ := hB
  rw [ht] at hP1
  obtain ⟨hP, hD⟩ := xjoin (W := [(a0, .inr (0, [.ref a1, v2, v3, v4, v5, v6, v7, v8])), (a1, .inr (1, [v9, .int 0, v10]))]) hP hD [1] [0] 1 rfl rfl (by decide) (by decide) hk1 hFc hP1 hD1
  generalize H1 = H at hP hS ⊢
  rw [hr9]
  refine W.eq (g2 := F0 m 8 ls [.int 0, .int 0]) rfl ?_
  obtain ⟨hPc, hDc, hFc⟩ := xcut (wc := []) hP hD hS hA [] rfl rfl (by decide)
  refine va_calli (va_runS (As := [.int 0, .int 0]) (rest := []) ⟨hx, hb, hml, hown, htx⟩ (cB_isWithin_0 l hl9 D cT aK aV H.size) ⟨callB_of 2 htx (xw_goodC kw_1_218) rfl rfl rfl (htx _ kw_1_1) (htx _ kw_1_216) ⟨by decide, by decide, by decide +kernel⟩ ⟨Nat.le_of_ble_eq_true rfl, Nat.le_of_ble_eq_true rfl⟩, htx _ kw_1_217⟩ ⟨xPre_blind, (fun U hU hW => ⟨rfl, xPre_of hZ hS hFc hPc hDc hK U hU hW⟩)⟩ rfl rfl hl.1 rfl (lv_room (Nat.le_of_ble_eq_true rfl)) dB_end_8 ⟨Nat.le_of_ble_eq_true rfl, Nat.le_of_ble_eq_true rfl⟩) hS (fun q _ h => hFc q h) hFc (fun r2 u9 t H1 locs ht hvm hr9 hB hz1 hk1 hS => ?_)
  obtain ⟨hP1, hK1, hD1⟩ := hB
  rw [ht] at hP1
  obtain ⟨hP, hD⟩ := xjoin (W := [(a0, .inr (0, [.ref a1, v2, v3, v4, v5, v6, v7, v8])), (a1, .inr (1, [v9, .int 0, v10]))]) hP hD [] [0, 1] 2 rfl rfl (by decide) (by decide) hk1 hFc hP1 hD1
  generalize H1 = H at hP hS ⊢
  rw [hr9]
  refine W.eq (g2 := F0 m 11 ls [.int 1]) rfl ?_
  obtain ⟨hPc, hDc, hFc⟩ := xcut (wc := []) hP hD hS hA [] rfl rfl (by decide)
  refine va_callv (va_runS (As := [.int 1]) (rest := []) ⟨hx, hb, hml, hown, htx⟩ (cB_demand_0 l hl9 D cT aK aV H.size) ⟨callB_of 1 htx (xw_goodC kw_1_221) rfl rfl rfl (htx _ kw_1_1) (htx _ kw_1_219) ⟨by decide, by decide, by decide +kernel⟩ ⟨Nat.le_of_ble_eq_true rfl, Nat.le_of_ble_eq_true rfl⟩, htx _ kw_1_220⟩ ⟨xPre_blind, (fun U hU hW => ⟨rfl, xPre_of hZ hS hFc hPc hDc hK U hU hW⟩)⟩ rfl rfl hl.1 rfl (lv_room (Nat.le_of_ble_eq_true rfl)) dB_end_11 ⟨Nat.le_of_ble_eq_true rfl, Nat.le_of_ble_eq_true rfl⟩) hS (fun q _ h => hFc q h) hFc (fun u9 t H1 locs ht hvm hr9 hB hz1 hk1 hS => ?_)
  obtain ⟨hP1, hK1, hD1⟩ := hB
  rw [ht] at hP1
  obtain ⟨hP, hD⟩ := xjoin (W := [(a0, .inr (0, [.ref a1, v2, v3, v4, v5, v6, v7, v8])), (a1, .inr (1, [v9, .int 0, v10]))]) hP hD [] [0, 1] 2 rfl rfl (by decide) (by decide) hk1 hFc hP1 hD1
  generalize H1 = H at hP hS ⊢
  refine lv_aload_n hx hb dB_end_14 rfl (lv_at hl 0 rfl) ?_
  refine va_get (D := D) (ci := 0) (v := .ref a1) (C := "ValueBench") (T := TB) (N := 8) hx hb htx inB hown hK hP 0 rfl rfl 0 (by decide) (htx _ kw_1_95) (fun _ h9 => h9) rfl dB_end_15 ?_
  refine lv_iload_n hx hb dB_end_18 rfl (lv_at hl 1 rfl) ?_
  obtain ⟨hPc, hDc, hFc⟩ := xcut (wc := [(a1, .inr (1, [v9, .int 0, v10]))]) hP hD hS hA [1] rfl rfl (by decide)
  refine va_callv (va_runV (C := "ValueBench$Text") (As := [.int 0]) (rest := []) ⟨hx, hb, hml, hown, htx⟩ (cT_keep_0 l hl9 D cT aK aV H.size a1 0 v9 0 v10) ⟨callB_of 1 htx (xw_goodC kw_2_1) rfl rfl rfl (htx _ kw_1_2) (htx _ kw_1_238) ⟨by decide, by decide, by decide +kernel⟩ ⟨Nat.le_of_ble_eq_true rfl, Nat.le_of_ble_eq_true rfl⟩, (htx _ kw_1_239), (htx _ kw_2_0)⟩ ⟨xPre_blind, va_recv hK hP (ci := 1) rfl (q0 := 1) rfl, (fun U hU hW => ⟨rfl, xPre_of hZ hS hFc hPc hDc hK U hU hW⟩)⟩ rfl rfl hl.1 rfl (lv_room (Nat.le_of_ble_eq_true rfl)) dB_end_19 ⟨Nat.le_of_ble_eq_true rfl, Nat.le_of_ble_eq_true rfl⟩) hS (fun q _ h => hFc q h) hFc (fun u9 t H1 locs ht hvm hr9 hB hz1 hk1 hS => ?_)
  obtain ⟨y3, hP1, hK1, hD1⟩ := hB
  rw [ht] at hP1
  obtain ⟨hP, hD⟩ := xjoin (W := [(a0, .inr (0, [.ref a1, v2, v3, v4, v5, v6, v7, v8])), (a1, .inr (1, [v9, .int y3, v10]))]) hP hD [1] [0] 1 rfl rfl (by decide) (by decide) hk1 hFc hP1 hD1
  generalize H1 = H at hP hS ⊢
  refine lv_iload_n hx hb dB_end_22 rfl (lv_at hl 1 rfl) ?_
  obtain ⟨hP9, hD9⟩ := xsub (wc := [(a0, .inr (0, [.ref a1, v2, v3, v4, v5, v6, v7, v8])), (a1, .inr (1, [v9, .int y3, v10]))]) hP hD [0, 1] rfl rfl (by decide)
  refine W.widen (k := 0) (n := 0) (Nat.le_of_ble_eq_true rfl) (Nat.le_of_ble_eq_true rfl) ?_
  exact W.iret (v := 0) hx hb hr (fun t ht hW => ⟨⟨0, (), rfl, rfl, y3, by rw [ht]; exact hP9, va_K.moved hW.alike hK, hD9⟩, hS.F ht⟩) hS.2.2 dB_end_23
set_option maxHeartbeats 400000000 in
set_option maxRecDepth 100000 in
theorem cL_end_0 (l : Launch) (hl9 : l.stackTraces = false) (D : va_G) (cT : Nat → ClassId) (aK aV : Nat → Nat) (sz : Nat) (a0 : Nat) (a1 : Nat) (a2 : Nat) (v3 : Value) (v4 : Value) (v5 : Value) (v6 : Value) (v7 : Value) (v8 : Value) (v9 : Value) (v10 : Value) (v11 : Value) (f12 : Nat → Int64) : xMet l yL_end wyL_end 3 0 0 82 D cT aK aV sz [.ref a0, .int 0, .ref a2] [(a0, .inr (0, [.ref a1, v3, v4, v5, v6, v7, v8, v9])), (a1, .inr (1, [v10, .int 0, v11])), (a2, .inl (cT 2, 1, .inr (.inl f12)))] (fun A => va_Qi (fun (r : Int32) (_ : Unit) => r = 0) (fun _ t => ∃ (y2 : Int32), xB D xcl cT A [(a0, .inr (0, [.ref a1, v3, v4, v5, v6, v7, v8, v9])), (a1, .inr (1, [v10, .int y2, v11])), (a2, .inl (cT 2, 1, .inr (.inl (vp_updL f12 0 0))))] t) A) := by
  refine va_MetW (cc := method_4_code) (maxL := 4) (ret := (some .int)) (hh := [(0, 9, 12, 19)]) (by decide) rfl ?_
  intro p e s m args below meth c s₁ B hml hv
  obtain ⟨rfl, hsz, hZ, hP, hK, hD0⟩ := hv
  have hx := B.exec
  have hb := B.bytes
  have hr := B.returns
  have hts := atoms_spec (ws := wyL_end) B.pre
  have htx := fun w h => hts w (List.mem_cons_of_mem _ h)
  have hown : s.vm.findClass "ValueBenchLaw" = some m.cls := findClass_of_methodNamed B.named
  have hlocks := B.notSynchronized
  subst hsz
  have hD := hD0.self (sz := s.heap.size)
  generalize hAe : va_A [(a0, .inr (0, [.ref a1, v3, v4, v5, v6, v7, v8, v9])), (a1, .inr (1, [v10, .int 0, v11])), (a2, .inl (cT 2, 1, .inr (.inl f12)))] s.heap.size = A at hD hZ ⊢
  have hA : ∀ q : Nat, s.heap.size ≤ q → A q := fun q h => by rw [← hAe]; exact Or.inr h
  have hS : va_S A s.heap s.heap [] := va_S.rf
  have hP : va_P D xcl [(a0, .inr (0, [.ref a1, v3, v4, v5, v6, v7, v8, v9])), (a1, .inr (1, [v10, .int 0, v11])), (a2, .inl (cT 2, 1, .inr (.inl f12)))] s.heap := hP
  have hl := lv_entry ([.ref a0, .int 0, .ref a2]) (n := 4) (Nat.le_of_ble_eq_true rfl)
  rw [lg_entry_eq]
  generalize (lg_sl ([.ref a0, .int 0, .ref a2]) ++ List.replicate (4 - (lg_sl ([.ref a0, .int 0, .ref a2])).length) Slot.unset).toArray = ls at hl ⊢
  have hl : lv_has ls 4 [(0, .ref a0), (1, .int 0), (2, .ref a2)] := hl
  have htab := vx_table (x := yL_end) B (hts _ List.mem_cons_self)
  refine lv_aload_n hx hb dL_end_0 rfl (lv_at hl 2 rfl) ?_
  refine lv_iconst (v := 0) hx hb dL_end_1 (by decide) ?_
  refine lv_aload_n hx hb dL_end_2 rfl (lv_at hl 0 rfl) ?_
  refine lv_iload_n hx hb dL_end_3 rfl (lv_at hl 1 rfl) ?_
  obtain ⟨hPc, hDc, hFc⟩ := xcut (wc := [(a0, .inr (0, [.ref a1, v3, v4, v5, v6, v7, v8, v9])), (a1, .inr (1, [v10, .int 0, v11]))]) hP hD hS hA [0, 1] rfl rfl (by decide)
  refine va_calli (va_runV (C := "ValueBench") (As := [.int 0]) (rest := [.int 0, .ref a2]) ⟨hx, hb, hml, hown, htx⟩ (cB_end_0 l hl9 D cT aK aV s.heap.size a0 a1 v3 v4 v5 v6 v7 v8 v9 v10 v11) ⟨callB_of 1 htx (xw_goodC kw_1_215) rfl rfl rfl (htx _ kw_1_1) (htx _ kw_1_212) ⟨by decide, by decide, by decide +kernel⟩ ⟨Nat.le_of_ble_eq_true rfl, Nat.le_of_ble_eq_true rfl⟩, (htx _ kw_1_213), (htx _ kw_1_214)⟩ ⟨xPre_blind, va_recv hK hP (ci := 0) rfl (q0 := 0) rfl, (fun U hU hW => ⟨rfl, xPre_of hZ hS hFc hPc hDc hK U hU hW⟩)⟩ rfl rfl hl.1 rfl (lv_room (Nat.le_of_ble_eq_true rfl)) dL_end_4 ⟨Nat.le_of_ble_eq_true rfl, Nat.le_of_ble_eq_true rfl⟩) hS (fun q _ h => hFc q h) hFc (fun r1 u9 t H1 locs ht hvm hr9 hB hz1 hk1 hS => ?_)
  obtain ⟨y2, hP1, hK1, hD1⟩ := hB
  rw [ht] at hP1
  obtain ⟨hP, hD⟩ := xjoin (W := [(a2, .inl (cT 2, 1, .inr (.inl f12))), (a0, .inr (0, [.ref a1, v3, v4, v5, v6, v7, v8, v9])), (a1, .inr (1, [v10, .int y2, v11]))]) hP hD [0, 1] [2] 1 rfl rfl (by decide) (by decide) hk1 hFc hP1 hD1
  generalize H1 = H at hP hS ⊢
  rw [hr9]
  refine W.eq (g2 := F0 m 7 ls [.int 0, .int 0, .ref a2]) rfl ?_
  refine lv_i2l hx hb dL_end_7 rfl ?_
  refine W.eq (g2 := F0 m 8 ls [.long 0, .int 0, .ref a2]) rfl ?_
  refine va_last hx hb hK hP hD hS 0 2 rfl rfl (show ¬ ((0 : Int32) < 0 ∨ 1 ≤ (0 : Int32).toNatClampNeg) by decide) dL_end_8 (fun H locs hP hD hS => ?_)
  obtain ⟨hP, hD⟩ : xPD D xcl A [(a2, .inl (cT 2, 1, .inr (.inl (vp_updL f12 0 0)))), (a0, .inr (0, [.ref a1, v3, v4, v5, v6, v7, v8, v9])), (a1, .inr (1, [v10, .int y2, v11]))] H := ⟨hP, hD⟩
  refine lv_goto (tgt := 15) hx hb dL_end_9 (by decide) ?_
  refine lv_iconst (v := 0) hx hb dL_end_15 (by decide) ?_
  obtain ⟨hP9, hD9⟩ := xsub (wc := [(a0, .inr (0, [.ref a1, v3, v4, v5, v6, v7, v8, v9])), (a1, .inr (1, [v10, .int y2, v11])), (a2, .inl (cT 2, 1, .inr (.inl (vp_updL f12 0 0))))]) hP hD [1, 2, 0] rfl rfl (by decide)
  refine W.widen (k := 0) (n := 0) (Nat.le_of_ble_eq_true rfl) (Nat.le_of_ble_eq_true rfl) ?_
  exact W.iret (v := 0) hx hb hr (fun t ht hW => ⟨⟨0, (), rfl, rfl, y2, by rw [ht]; exact hP9, va_K.moved hW.alike hK, hD9⟩, hS.F ht⟩) hS.2.2 dL_end_16
set_option maxHeartbeats 400000000 in
set_option maxRecDepth 100000 in
theorem cT_size_2 (l : Launch) (hl9 : l.stackTraces = false) (D : va_G) (cT : Nat → ClassId) (aK aV : Nat → Nat) (sz : Nat) (a0 : Nat) (v1 : Value) (x2 : Int32) (v3 : Value) : xMet l yT_size wyT_size 0 0 0 0 D cT aK aV sz [.ref a0] [(a0, .inr (1, [v1, .int x2, v3]))] (fun A => va_Qi (fun (r : Int32) (_ : Unit) => r = x2) (fun _ t => xB D xcl cT A [(a0, .inr (1, [v1, .int x2, v3]))] t) A) := by
  refine Met.ofW (cc := prog_11_method_4_code) (maxL := 1) (ret := (some .int)) (by decide) rfl ?_
  intro p e s m args below meth c s₁ B hml hv
  obtain ⟨rfl, hsz, hZ, hP, hK, hD0⟩ := hv
  have hx := B.exec
  have hb := B.bytes
  have hr := B.returns
  have hts := atoms_spec (ws := wyT_size) B.pre
  have htx := fun w h => hts w (List.mem_cons_of_mem _ h)
  have hown : s.vm.findClass "ValueBench$Text" = some m.cls := findClass_of_methodNamed B.named
  have hlocks := B.notSynchronized
  subst hsz
  have hD := hD0.self (sz := s.heap.size)
  generalize hAe : va_A [(a0, .inr (1, [v1, .int x2, v3]))] s.heap.size = A at hD hZ ⊢
  have hA : ∀ q : Nat, s.heap.size ≤ q → A q := fun q h => by rw [← hAe]; exact Or.inr h
  have hS : va_S A s.heap s.heap [] := va_S.rf
  have hP : va_P D xcl [(a0, .inr (1, [v1, .int x2, v3]))] s.heap := hP
  have hl := lv_entry ([.ref a0]) (n := 1) (Nat.le_of_ble_eq_true rfl)
  rw [lg_entry_eq]
  generalize (lg_sl ([.ref a0]) ++ List.replicate (1 - (lg_sl ([.ref a0])).length) Slot.unset).toArray = ls at hl ⊢
  have hl : lv_has ls 1 [(0, .ref a0)] := hl
  refine lv_aload_n hx hb dT_size_0 rfl (lv_at hl 0 rfl) ?_
  refine va_get (D := D) (ci := 1) (v := .int x2) (C := "ValueBench$Text") (T := TT) (N := 3) hx hb htx inT hown hK hP 0 rfl rfl 1 (by decide) (htx _ kw_1_44) (fun _ h9 => h9) rfl dT_size_1 ?_
  obtain ⟨hP9, hD9⟩ := xsub (wc := [(a0, .inr (1, [v1, .int x2, v3]))]) hP hD [0] rfl rfl (by decide)
  refine W.widen (k := 0) (n := 0) (Nat.le_of_ble_eq_true rfl) (Nat.le_of_ble_eq_true rfl) ?_
  exact W.iret (v := x2) hx hb hr (fun t ht hW => ⟨⟨x2, (), rfl, rfl, by rw [ht]; exact hP9, va_K.moved hW.alike hK, hD9⟩, hS.F ht⟩) hS.2.2 dT_size_4
set_option maxHeartbeats 400000000 in
set_option maxRecDepth 100000 in
theorem cB_isWithin_1 (l : Launch) (hl9 : l.stackTraces = false) (D : va_G) (cT : Nat → ClassId) (aK aV : Nat → Nat) (sz : Nat) (x0 : Int32) (x2 : Int32) (h1 : x0 < 0) : xMet l yB_isWithin wyB_isWithin 0 0 0 0 D cT aK aV sz [.int x0, .int x2] [] (fun A => va_Qi (fun (r : Int32) (_ : Unit) => r = 0) (fun _ t => xB D xcl cT A [] t) A) := by
  refine Met.ofW (cc := prog_1_method_15_code) (maxL := 2) (ret := (some .boolean)) (by decide) rfl ?_
  intro p e s m args below meth c s₁ B hml hv
  obtain ⟨rfl, hsz, hZ, hP, hK, hD0⟩ := hv
  have hx := B.exec
  have hb := B.bytes
  have hr := B.returns
  have hts := atoms_spec (ws := wyB_isWithin) B.pre
  have htx := fun w h => hts w (List.mem_cons_of_mem _ h)
  have hown : s.vm.findClass "ValueBench" = some m.cls := findClass_of_methodNamed B.named
  have hlocks := B.notSynchronized
  subst hsz
  have hD := hD0.self (sz := s.heap.size)
  generalize hAe : va_A [] s.heap.size = A at hD hZ ⊢
  have hA : ∀ q : Nat, s.heap.size ≤ q → A q := fun q h => by rw [← hAe]; exact Or.inr h
  have hS : va_S A s.heap s.heap [] := va_S.rf
  have hP : va_P D xcl [] s.heap := hP
  have hl := lv_entry ([.int x0, .int x2]) (n := 2) (Nat.le_of_ble_eq_true rfl)
  rw [lg_entry_eq]
  generalize (lg_sl ([.int x0, .int x2]) ++ List.replicate (2 - (lg_sl ([.int x0, .int x2])).length) Slot.unset).toArray = ls at hl ⊢
  have hl : lv_has ls 2 [(0, .int x0), (1, .int x2)] := hl
  refine lv_iload_n hx hb dB_isWithin_0 rfl (lv_at hl 0 rfl) ?_
  refine lv_if_lt (tgt := 13) hx hb dB_isWithin_1 (by decide) (fun _ => ?_) (fun h => by first | exact absurd h h1 | exact absurd h1 h)
  refine lv_iconst (v := 0) hx hb dB_isWithin_13 (by decide) ?_
  obtain ⟨hP9, hD9⟩ := xsub (wc := []) hP hD [] rfl rfl (by decide)
  refine W.widen (k := 0) (n := 0) (Nat.le_of_ble_eq_true rfl) (Nat.le_of_ble_eq_true rfl) ?_
  exact W.zret (v := 0) hx hb hr rfl (fun t ht hW => ⟨⟨0, (), rfl, rfl, by rw [ht]; exact hP9, va_K.moved hW.alike hK, hD9⟩, hS.F ht⟩) hS.2.2 dB_isWithin_14
set_option maxHeartbeats 400000000 in
set_option maxRecDepth 100000 in
theorem cB_demand_1 (l : Launch) (hl9 : l.stackTraces = false) (D : va_G) (cT : Nat → ClassId) (aK aV : Nat → Nat) (sz : Nat) : xMetX l yB_demand wyB_demand 6 1 6 100 D cT aK aV sz [.int 0] [] "java/lang/IllegalArgumentException" (fun A t => xB D xcl cT A [] t) := by
  refine vx_ofW (cc := prog_1_method_16_code) (maxL := 1) (ret := none) (by decide) rfl ?_
  intro p e s m args below meth c s₁ B hml hne hv
  obtain ⟨rfl, hsz, hZ, hP, hK, hD0⟩ := hv
  have hx := B.exec
  have hb := B.bytes
  have hr := B.returns
  have hts := atoms_spec (ws := wyB_demand) B.pre
  have htx := fun w h => hts w (List.mem_cons_of_mem _ h)
  have hown : s.vm.findClass "ValueBench" = some m.cls := findClass_of_methodNamed B.named
  have hlocks := B.notSynchronized
  subst hsz
  have hD := hD0.self (sz := s.heap.size)
  generalize hAe : va_A [] s.heap.size = A at hD hZ ⊢
  have hA : ∀ q : Nat, s.heap.size ≤ q → A q := fun q h => by rw [← hAe]; exact Or.inr h
  have hS : va_S A s.heap s.heap [] := va_S.rf
  have hP : va_P D xcl [] s.heap := hP
  have hl := lv_entry ([.int 0]) (n := 1) (Nat.le_of_ble_eq_true rfl)
  rw [lg_entry_eq]
  generalize (lg_sl ([.int 0]) ++ List.replicate (1 - (lg_sl ([.int 0])).length) Slot.unset).toArray = ls at hl ⊢
  have hl : lv_has ls 1 [(0, .int 0)] := hl
  refine lv_iload_n hx hb dB_demand_0 rfl (lv_at hl 0 rfl) ?_
  refine lv_if_ne (tgt := 14) hx hb dB_demand_1 (by decide) (fun h => ((by revert h; decide : False)).elim) (fun _ => ?_)
  obtain ⟨hP9, hD9⟩ := xsub (wc := []) hP hD [] rfl rfl (by decide)
  exact vx_throwS (own := "ValueBench") (cls := "java/lang/IllegalArgumentException") (text := "a number out of range") (sa := aK 3) (names := ["java/lang/RuntimeException", "java/lang/Exception"]) hx hb hl9 hown (by decide +kernel) (by decide +kernel) (htx _ kw_1_222) (htx _ kw_1_14) (hZ.2.2.2.2.2.2.2.2.1 _ (List.mem_of_getElem? (i := 3) rfl)) (vx_hat (B := [.castable "java/lang/IllegalArgumentException" "java/lang/IllegalArgumentException", .declares ⟨"java/lang/RuntimeException", "<init>", "(Ljava/lang/String;)V"⟩, .declares ⟨"java/lang/Exception", "<init>", "(Ljava/lang/String;)V"⟩, .declares ⟨"java/lang/Throwable", "<init>", "(Ljava/lang/String;)V"⟩]) (fun w h => htx w (xat_B_149_153 w h)) xat_B_149_153_b (vx_c ((hZ.2.2.2.2.2.1 _ (List.mem_of_getElem? (i := 1) rfl)).use rfl) (vx_c ((hZ.2.2.2.2.2.2.1 _ (List.mem_of_getElem? (i := 3) rfl)).use rfl) (vx_c ((hZ.2.2.2.2.2.2.1 _ (List.mem_of_getElem? (i := 4) rfl)).use rfl) (vx_c ((hZ.2.2.2.2.2.2.1 _ (List.mem_of_getElem? (i := 5) rfl)).use rfl) vx_n))))) xat_B_149_153_g hZ.2.2.2.1 hZ.2.2.2.2.1 hS (hl.1.trans hml.symm) dB_demand_4 dB_demand_7 dB_demand_8 dB_demand_10 dB_demand_13 (fun x h => (hne x h).elim) (by decide) (Nat.le_of_ble_eq_true rfl) (Nat.le_of_ble_eq_true rfl) (Nat.le_of_ble_eq_true rfl) hlocks (fun t ha hz hk => ⟨(), trivial, ⟨rfl, xx_keepP hP9 hk, va_K.moved ha hK, hD9⟩, xx_grown hS hz hk⟩) hS.2.2 (Nat.le_of_ble_eq_true rfl) (Nat.le_of_ble_eq_true rfl)
set_option maxHeartbeats 400000000 in
set_option maxRecDepth 100000 in
theorem cB_end_1 (l : Launch) (hl9 : l.stackTraces = false) (D : va_G) (cT : Nat → ClassId) (aK aV : Nat → Nat) (sz : Nat) (a0 : Nat) (a1 : Nat) (x2 : Int32) (v4 : Value) (v5 : Value) (v6 : Value) (v7 : Value) (v8 : Value) (v9 : Value) (v10 : Value) (v11 : Value) (x12 : Int32) (v13 : Value) (h3 : x2 < 0) : xMetX l yB_end wyB_end 7 1 6 120 D cT aK aV sz [.ref a0, .int x2] [(a0, .inr (0, [.ref a1, v4, v5, v6, v7, v8, v9, v10])), (a1, .inr (1, [v11, .int x12, v13]))] "java/lang/IllegalArgumentException" (fun A t => xB D xcl cT A [(a0, .inr (0, [.ref a1, v4, v5, v6, v7, v8, v9, v10])), (a1, .inr (1, [v11, .int x12, v13]))] t) := by
  refine vx_ofW (cc := prog_1_method_3_code) (maxL := 2) (ret := (some .int)) (by decide) rfl ?_
  intro p e s m args below meth c s₁ B hml hne hv
  obtain ⟨rfl, hsz, hZ, hP, hK, hD0⟩ := hv
  have hx := B.exec
  have hb := B.bytes
  have hr := B.returns
  have hts := atoms_spec (ws := wyB_end) B.pre
  have htx := fun w h => hts w (List.mem_cons_of_mem _ h)
  have hown : s.vm.findClass "ValueBench" = some m.cls := findClass_of_methodNamed B.named
  have hlocks := B.notSynchronized
  subst hsz
  have hD := hD0.self (sz := s.heap.size)
  generalize hAe : va_A [(a0, .inr (0, [.ref a1, v4, v5, v6, v7, v8, v9, v10])), (a1, .inr (1, [v11, .int x12, v13]))] s.heap.size = A at hD hZ ⊢
  have hA : ∀ q : Nat, s.heap.size ≤ q → A q := fun q h => by rw [← hAe]; exact Or.inr h
  have hS : va_S A s.heap s.heap [] := va_S.rf
  have hP : va_P D xcl [(a0, .inr (0, [.ref a1, v4, v5, v6, v7, v8, v9, v10])), (a1, .inr (1, [v11, .int x12, v13]))] s.heap := hP
  have hl := lv_entry ([.ref a0, .int x2]) (n := 2) (Nat.le_of_ble_eq_true rfl)
  rw [lg_entry_eq]
  generalize (lg_sl ([.ref a0, .int x2]) ++ List.replicate (2 - (lg_sl ([.ref a0, .int x2])).length) Slot.unset).toArray = ls at hl ⊢
  have hl : lv_has ls 2 [(0, .ref a0), (1, .int x2)] := hl
  refine lv_iload_n hx hb dB_end_0 rfl (lv_at hl 1 rfl) ?_
  refine lv_aload_n hx hb dB_end_1 rfl (lv_at hl 0 rfl) ?_
  refine va_get (D := D) (ci := 0) (v := .ref a1) (C := "ValueBench") (T := TB) (N := 8) hx hb htx inB hown hK hP 0 rfl rfl 0 (by decide) (htx _ kw_1_95) (fun _ h9 => h9) rfl dB_end_2 ?_
  obtain ⟨hPc, hDc, hFc⟩ := xcut (wc := [(a1, .inr (1, [v11, .int x12, v13]))]) hP hD hS hA [1] rfl rfl (by decide)
  refine va_calli (va_runV (C := "ValueBench$Text") (As := []) (rest := [.int x2]) ⟨hx, hb, hml, hown, htx⟩ (cT_size_2 l hl9 D cT aK aV s.heap.size a1 v11 x12 v13) ⟨callB_of 0 htx (xw_goodC kw_1_131) rfl rfl rfl (htx _ kw_1_2) (htx _ kw_1_128) ⟨by decide, by decide, by decide +kernel⟩ ⟨Nat.le_of_ble_eq_true rfl, Nat.le_of_ble_eq_true rfl⟩, (htx _ kw_1_129), (htx _ kw_1_130)⟩ ⟨xPre_blind, va_recv hK hP (ci := 1) rfl (q0 := 1) rfl, (fun U hU hW => ⟨rfl, xPre_of hZ hS hFc hPc hDc hK U hU hW⟩)⟩ rfl rfl hl.1 rfl (lv_room (Nat.le_of_ble_eq_true rfl)) dB_end_5 ⟨Nat.le_of_ble_eq_true rfl, Nat.le_of_ble_eq_true rfl⟩) hS (fun q _ h => hFc q h) hFc (fun r1 u9 t H1 locs ht hvm hr9 hB hz1 hk1 hS => ?_)
  obtain ⟨hP1, hK1, hD1⟩ := hB
  rw [ht] at hP1
  obtain ⟨hP, hD⟩ := xjoin (W := [(a0, .inr (0, [.ref a1, v4, v5, v6, v7, v8, v9, v10])), (a1, .inr (1, [v11, .int x12, v13]))]) hP hD [1] [0] 1 rfl rfl (by decide) (by decide) hk1 hFc hP1 hD1
  generalize H1 = H at hP hS ⊢
  rw [hr9]
  obtain ⟨hPc, hDc, hFc⟩ := xcut (wc := []) hP hD hS hA [] rfl rfl (by decide)
  refine va_calli (va_runS (As := [.int x2, .int x12]) (rest := []) ⟨hx, hb, hml, hown, htx⟩ (cB_isWithin_1 l hl9 D cT aK aV H.size x2 x12 h3) ⟨callB_of 2 htx (xw_goodC kw_1_218) rfl rfl rfl (htx _ kw_1_1) (htx _ kw_1_216) ⟨by decide, by decide, by decide +kernel⟩ ⟨Nat.le_of_ble_eq_true rfl, Nat.le_of_ble_eq_true rfl⟩, htx _ kw_1_217⟩ ⟨xPre_blind, (fun U hU hW => ⟨rfl, xPre_of hZ hS hFc hPc hDc hK U hU hW⟩)⟩ rfl rfl hl.1 rfl (lv_room (Nat.le_of_ble_eq_true rfl)) dB_end_8 ⟨Nat.le_of_ble_eq_true rfl, Nat.le_of_ble_eq_true rfl⟩) hS (fun q _ h => hFc q h) hFc (fun r2 u9 t H1 locs ht hvm hr9 hB hz1 hk1 hS => ?_)
  obtain ⟨hP1, hK1, hD1⟩ := hB
  rw [ht] at hP1
  obtain ⟨hP, hD⟩ := xjoin (W := [(a0, .inr (0, [.ref a1, v4, v5, v6, v7, v8, v9, v10])), (a1, .inr (1, [v11, .int x12, v13]))]) hP hD [] [0, 1] 2 rfl rfl (by decide) (by decide) hk1 hFc hP1 hD1
  generalize H1 = H at hP hS ⊢
  rw [hr9]
  refine W.eq (g2 := F0 m 11 ls [.int 0]) rfl ?_
  obtain ⟨hPc, hDc, hFc⟩ := xcut (wc := []) hP hD hS hA [] rfl rfl (by decide)
  refine xx_thr (vx_runS (As := [.int 0]) (rest := []) ⟨hx, hb, hml, hown, htx⟩ (cB_demand_1 l hl9 D cT aK aV H.size) ⟨callB_of 1 htx (xw_goodC kw_1_221) rfl rfl rfl (htx _ kw_1_1) (htx _ kw_1_219) ⟨by decide, by decide, by decide +kernel⟩ ⟨Nat.le_of_ble_eq_true rfl, Nat.le_of_ble_eq_true rfl⟩, htx _ kw_1_220⟩ ⟨xPre_blind, (fun U hU hW => ⟨rfl, xPre_of hZ hS hFc hPc hDc hK U hU hW⟩)⟩ rfl rfl hl.1 rfl (lv_room (Nat.le_of_ble_eq_true rfl)) dB_end_11 ⟨Nat.le_of_ble_eq_true rfl, Nat.le_of_ble_eq_true rfl⟩) hS hFc (fun q _ h => hFc q h) (fun E ce q9 u9 t H1 locs ht hvm _ hB hz1 hk1 hS hce hcv hcl => ?_)
  obtain ⟨rfl, hP1, hK1, hD1⟩ := hB
  rw [ht] at hP1
  obtain ⟨hP, hD⟩ := xjoin (W := [(a0, .inr (0, [.ref a1, v4, v5, v6, v7, v8, v9, v10])), (a1, .inr (1, [v11, .int x12, v13]))]) hP hD [] [0, 1] 2 rfl rfl (by decide) (by decide) hk1 hFc hP1 hD1
  generalize H1 = H at hP hS hce ⊢
  obtain ⟨hP9, hD9⟩ := xsub (wc := [(a0, .inr (0, [.ref a1, v4, v5, v6, v7, v8, v9, v10])), (a1, .inr (1, [v11, .int x12, v13]))]) hP hD [0, 1] rfl rfl (by decide)
  exact vx_out (E := "java/lang/IllegalArgumentException") (fun x h => (hne x h).elim) hlocks hce hcv hcl (fun t ht ha => ⟨(), trivial, ⟨rfl, by rw [ht]; exact hP9, va_K.moved ha hK, hD9⟩, hS.F ht⟩) hS.2.2 (Nat.le_of_ble_eq_true rfl) (Nat.le_of_ble_eq_true rfl)
set_option maxHeartbeats 400000000 in
set_option maxRecDepth 100000 in
theorem cL_end_1 (l : Launch) (hl9 : l.stackTraces = false) (D : va_G) (cT : Nat → ClassId) (aK aV : Nat → Nat) (sz : Nat) (a0 : Nat) (a1 : Nat) (x2 : Int32) (b4 : Nat) (v5 : Value) (v6 : Value) (v7 : Value) (v8 : Value) (v9 : Value) (v10 : Value) (v11 : Value) (v12 : Value) (x13 : Int32) (v14 : Value) (h3 : x2 < 0) : xMet l yL_end wyL_end 8 1 6 141 D cT aK aV sz [.ref a0, .int x2, .ref b4] [(a0, .inr (0, [.ref a1, v5, v6, v7, v8, v9, v10, v11])), (a1, .inr (1, [v12, .int x13, v14]))] (fun A => va_Qi (fun (r : Int32) (_ : Unit) => r = 1) (fun _ t => xB D xcl cT A [(a0, .inr (0, [.ref a1, v5, v6, v7, v8, v9, v10, v11])), (a1, .inr (1, [v12, .int x13, v14]))] t) A) := by
  refine va_MetW (cc := method_4_code) (maxL := 4) (ret := (some .int)) (hh := [(0, 9, 12, 19)]) (by decide) rfl ?_
  intro p e s m args below meth c s₁ B hml hv
  obtain ⟨rfl, hsz, hZ, hP, hK, hD0⟩ := hv
  have hx := B.exec
  have hb := B.bytes
  have hr := B.returns
  have hts := atoms_spec (ws := wyL_end) B.pre
  have htx := fun w h => hts w (List.mem_cons_of_mem _ h)
  have hown : s.vm.findClass "ValueBenchLaw" = some m.cls := findClass_of_methodNamed B.named
  have hlocks := B.notSynchronized
  subst hsz
  have hD := hD0.self (sz := s.heap.size)
  generalize hAe : va_A [(a0, .inr (0, [.ref a1, v5, v6, v7, v8, v9, v10, v11])), (a1, .inr (1, [v12, .int x13, v14]))] s.heap.size = A at hD hZ ⊢
  have hA : ∀ q : Nat, s.heap.size ≤ q → A q := fun q h => by rw [← hAe]; exact Or.inr h
  have hS : va_S A s.heap s.heap [] := va_S.rf
  have hP : va_P D xcl [(a0, .inr (0, [.ref a1, v5, v6, v7, v8, v9, v10, v11])), (a1, .inr (1, [v12, .int x13, v14]))] s.heap := hP
  have hl := lv_entry ([.ref a0, .int x2, .ref b4]) (n := 4) (Nat.le_of_ble_eq_true rfl)
  rw [lg_entry_eq]
  generalize (lg_sl ([.ref a0, .int x2, .ref b4]) ++ List.replicate (4 - (lg_sl ([.ref a0, .int x2, .ref b4])).length) Slot.unset).toArray = ls at hl ⊢
  have hl : lv_has ls 4 [(0, .ref a0), (1, .int x2), (2, .ref b4)] := hl
  have htab := vx_table (x := yL_end) B (hts _ List.mem_cons_self)
  refine lv_aload_n hx hb dL_end_0 rfl (lv_at hl 2 rfl) ?_
  refine lv_iconst (v := 0) hx hb dL_end_1 (by decide) ?_
  refine lv_aload_n hx hb dL_end_2 rfl (lv_at hl 0 rfl) ?_
  refine lv_iload_n hx hb dL_end_3 rfl (lv_at hl 1 rfl) ?_
  obtain ⟨hPc, hDc, hFc⟩ := xcut (wc := [(a0, .inr (0, [.ref a1, v5, v6, v7, v8, v9, v10, v11])), (a1, .inr (1, [v12, .int x13, v14]))]) hP hD hS hA [0, 1] rfl rfl (by decide)
  refine xx_thr (vx_runV (C := "ValueBench") (As := [.int x2]) (rest := [.int 0, .ref b4]) ⟨hx, hb, hml, hown, htx⟩ (cB_end_1 l hl9 D cT aK aV s.heap.size a0 a1 x2 v5 v6 v7 v8 v9 v10 v11 v12 x13 v14 h3) ⟨callB_of 1 htx (xw_goodC kw_1_215) rfl rfl rfl (htx _ kw_1_1) (htx _ kw_1_212) ⟨by decide, by decide, by decide +kernel⟩ ⟨Nat.le_of_ble_eq_true rfl, Nat.le_of_ble_eq_true rfl⟩, (htx _ kw_1_213), (htx _ kw_1_214)⟩ ⟨xPre_blind, va_recv hK hP (ci := 0) rfl (q0 := 0) rfl, (fun U hU hW => ⟨rfl, xPre_of hZ hS hFc hPc hDc hK U hU hW⟩)⟩ rfl rfl hl.1 rfl (lv_room (Nat.le_of_ble_eq_true rfl)) dL_end_4 ⟨Nat.le_of_ble_eq_true rfl, Nat.le_of_ble_eq_true rfl⟩) hS hFc (fun q _ h => hFc q h) (fun E ce q9 u9 t H1 locs ht hvm _ hB hz1 hk1 hS hce hcv hcl => ?_)
  obtain ⟨rfl, hP1, hK1, hD1⟩ := hB
  rw [ht] at hP1
  obtain ⟨hP, hD⟩ := xjoin (W := [(a0, .inr (0, [.ref a1, v5, v6, v7, v8, v9, v10, v11])), (a1, .inr (1, [v12, .int x13, v14]))]) hP hD [0, 1] [] 0 rfl rfl (by decide) (by decide) hk1 hFc hP1 hD1
  generalize H1 = H at hP hS hce ⊢
  refine vx_catch (own := "ValueBenchLaw") (name := "java/lang/IllegalArgumentException") (E := "java/lang/IllegalArgumentException") hown [] ⟨0, 9, 12, 19⟩ [] (by rw [htab]; rfl) (fun z hz => nomatch hz) (by decide) (by decide) (htx _ kw_1_211) ((hZ.2.2.2.2.2.1 _ (List.mem_of_getElem? (i := 1) rfl)).use rfl) hce hcv hcl ?_
  refine lv_astore_n (lv' := [(3, .ref q9), (0, .ref a0), (1, .int x2), (2, .ref b4)]) hx hb dL_end_12 rfl hl (by decide) rfl (fun ls hl => ?_)
  refine lv_iconst (v := 1) hx hb dL_end_13 (by decide) ?_
  obtain ⟨hP9, hD9⟩ := xsub (wc := [(a0, .inr (0, [.ref a1, v5, v6, v7, v8, v9, v10, v11])), (a1, .inr (1, [v12, .int x13, v14]))]) hP hD [0, 1] rfl rfl (by decide)
  refine W.widen (k := 1) (n := 6) (Nat.le_of_ble_eq_true rfl) (Nat.le_of_ble_eq_true rfl) ?_
  exact W.iret (v := 1) hx hb hr (fun t ht hW => ⟨⟨1, (), rfl, rfl, by rw [ht]; exact hP9, va_K.moved hW.alike hK, hD9⟩, hS.F ht⟩) hS.2.2 dL_end_14
set_option maxHeartbeats 400000000 in
set_option maxRecDepth 100000 in
theorem cB_isWithin_2 (l : Launch) (hl9 : l.stackTraces = false) (D : va_G) (cT : Nat → ClassId) (aK aV : Nat → Nat) (sz : Nat) (x0 : Int32) (h1 : ¬ x0 < 0) (h2 : 0 < x0) (h3 : ¬ x0 ≤ 0) : xMet l yB_isWithin wyB_isWithin 0 0 0 0 D cT aK aV sz [.int x0, .int 0] [] (fun A => va_Qi (fun (r : Int32) (_ : Unit) => r = 0) (fun _ t => xB D xcl cT A [] t) A) := by
  refine Met.ofW (cc := prog_1_method_15_code) (maxL := 2) (ret := (some .boolean)) (by decide) rfl ?_
  intro p e s m args below meth c s₁ B hml hv
  obtain ⟨rfl, hsz, hZ, hP, hK, hD0⟩ := hv
  have hx := B.exec
  have hb := B.bytes
  have hr := B.returns
  have hts := atoms_spec (ws := wyB_isWithin) B.pre
  have htx := fun w h => hts w (List.mem_cons_of_mem _ h)
  have hown : s.vm.findClass "ValueBench" = some m.cls := findClass_of_methodNamed B.named
  have hlocks := B.notSynchronized
  subst hsz
  have hD := hD0.self (sz := s.heap.size)
  generalize hAe : va_A [] s.heap.size = A at hD hZ ⊢
  have hA : ∀ q : Nat, s.heap.size ≤ q → A q := fun q h => by rw [← hAe]; exact Or.inr h
  have hS : va_S A s.heap s.heap [] := va_S.rf
  have hP : va_P D xcl [] s.heap := hP
  have hl := lv_entry ([.int x0, .int 0]) (n := 2) (Nat.le_of_ble_eq_true rfl)
  rw [lg_entry_eq]
  generalize (lg_sl ([.int x0, .int 0]) ++ List.replicate (2 - (lg_sl ([.int x0, .int 0])).length) Slot.unset).toArray = ls at hl ⊢
  have hl : lv_has ls 2 [(0, .int x0), (1, .int 0)] := hl
  refine lv_iload_n hx hb dB_isWithin_0 rfl (lv_at hl 0 rfl) ?_
  refine lv_if_lt (tgt := 13) hx hb dB_isWithin_1 (by decide) (fun h => by first | exact absurd h h1 | exact absurd h h2 | exact absurd h h3 | exact absurd h1 h | exact absurd h2 h | exact absurd h3 h) (fun _ => ?_)
  refine lv_iload_n hx hb dB_isWithin_4 rfl (lv_at hl 0 rfl) ?_
  refine lv_iload_n hx hb dB_isWithin_5 rfl (lv_at hl 1 rfl) ?_
  refine lv_icmp_gt (tgt := 13) hx hb dB_isWithin_6 (by decide) (fun _ => ?_) (fun h => by first | exact absurd h h1 | exact absurd h h2 | exact absurd h h3 | exact absurd h1 h | exact absurd h2 h | exact absurd h3 h)
  refine lv_iconst (v := 0) hx hb dB_isWithin_13 (by decide) ?_
  obtain ⟨hP9, hD9⟩ := xsub (wc := []) hP hD [] rfl rfl (by decide)
  refine W.widen (k := 0) (n := 0) (Nat.le_of_ble_eq_true rfl) (Nat.le_of_ble_eq_true rfl) ?_
  exact W.zret (v := 0) hx hb hr rfl (fun t ht hW => ⟨⟨0, (), rfl, rfl, by rw [ht]; exact hP9, va_K.moved hW.alike hK, hD9⟩, hS.F ht⟩) hS.2.2 dB_isWithin_14
set_option maxHeartbeats 400000000 in
set_option maxRecDepth 100000 in
theorem cB_end_2 (l : Launch) (hl9 : l.stackTraces = false) (D : va_G) (cT : Nat → ClassId) (aK aV : Nat → Nat) (sz : Nat) (a0 : Nat) (a1 : Nat) (x2 : Int32) (v6 : Value) (v7 : Value) (v8 : Value) (v9 : Value) (v10 : Value) (v11 : Value) (v12 : Value) (v13 : Value) (v14 : Value) (h3 : ¬ x2 < 0) (h4 : 0 < x2) (h5 : ¬ x2 ≤ 0) : xMetX l yB_end wyB_end 7 1 6 120 D cT aK aV sz [.ref a0, .int x2] [(a0, .inr (0, [.ref a1, v6, v7, v8, v9, v10, v11, v12])), (a1, .inr (1, [v13, .int 0, v14]))] "java/lang/IllegalArgumentException" (fun A t => xB D xcl cT A [(a0, .inr (0, [.ref a1, v6, v7, v8, v9, v10, v11, v12])), (a1, .inr (1, [v13, .int 0, v14]))] t) := by
  refine vx_ofW (cc := prog_1_method_3_code) (maxL := 2) (ret := (some .int)) (by decide) rfl ?_
  intro p e s m args below meth c s₁ B hml hne hv
  obtain ⟨rfl, hsz, hZ, hP, hK, hD0⟩ := hv
  have hx := B.exec
  have hb := B.bytes
  have hr := B.returns
  have hts := atoms_spec (ws := wyB_end) B.pre
  have htx := fun w h => hts w (List.mem_cons_of_mem _ h)
  have hown : s.vm.findClass "ValueBench" = some m.cls := findClass_of_methodNamed B.named
  have hlocks := B.notSynchronized
  subst hsz
  have hD := hD0.self (sz := s.heap.size)
  generalize hAe : va_A [(a0, .inr (0, [.ref a1, v6, v7, v8, v9, v10, v11, v12])), (a1, .inr (1, [v13, .int 0, v14]))] s.heap.size = A at hD hZ ⊢
  have hA : ∀ q : Nat, s.heap.size ≤ q → A q := fun q h => by rw [← hAe]; exact Or.inr h
  have hS : va_S A s.heap s.heap [] := va_S.rf
  have hP : va_P D xcl [(a0, .inr (0, [.ref a1, v6, v7, v8, v9, v10, v11, v12])), (a1, .inr (1, [v13, .int 0, v14]))] s.heap := hP
  have hl := lv_entry ([.ref a0, .int x2]) (n := 2) (Nat.le_of_ble_eq_true rfl)
  rw [lg_entry_eq]
  generalize (lg_sl ([.ref a0, .int x2]) ++ List.replicate (2 - (lg_sl ([.ref a0, .int x2])).length) Slot.unset).toArray = ls at hl ⊢
  have hl : lv_has ls 2 [(0, .ref a0), (1, .int x2)] := hl
  refine lv_iload_n hx hb dB_end_0 rfl (lv_at hl 1 rfl) ?_
  refine lv_aload_n hx hb dB_end_1 rfl (lv_at hl 0 rfl) ?_
  refine va_get (D := D) (ci := 0) (v := .ref a1) (C := "ValueBench") (T := TB) (N := 8) hx hb htx inB hown hK hP 0 rfl rfl 0 (by decide) (htx _ kw_1_95) (fun _ h9 => h9) rfl dB_end_2 ?_
  obtain ⟨hPc, hDc, hFc⟩ := xcut (wc := [(a1, .inr (1, [v13, .int 0, v14]))]) hP hD hS hA [1] rfl rfl (by decide)
  refine va_calli (va_runV (C := "ValueBench$Text") (As := []) (rest := [.int x2]) ⟨hx, hb, hml, hown, htx⟩ (cT_size_0 l hl9 D cT aK aV s.heap.size a1 v13 v14) ⟨callB_of 0 htx (xw_goodC kw_1_131) rfl rfl rfl (htx _ kw_1_2) (htx _ kw_1_128) ⟨by decide, by decide, by decide +kernel⟩ ⟨Nat.le_of_ble_eq_true rfl, Nat.le_of_ble_eq_true rfl⟩, (htx _ kw_1_129), (htx _ kw_1_130)⟩ ⟨xPre_blind, va_recv hK hP (ci := 1) rfl (q0 := 1) rfl, (fun U hU hW => ⟨rfl, xPre_of hZ hS hFc hPc hDc hK U hU hW⟩)⟩ rfl rfl hl.1 rfl (lv_room (Nat.le_of_ble_eq_true rfl)) dB_end_5 ⟨Nat.le_of_ble_eq_true rfl, Nat.le_of_ble_eq_true rfl⟩) hS (fun q _ h => hFc q h) hFc (fun r1 u9 t H1 locs ht hvm hr9 hB hz1 hk1 hS => ?_)
  obtain ⟨hP1, hK1, hD1⟩ := hB
  rw [ht] at hP1
  obtain ⟨hP, hD⟩ := xjoin (W := [(a0, .inr (0, [.ref a1, v6, v7, v8, v9, v10, v11, v12])), (a1, .inr (1, [v13, .int 0, v14]))]) hP hD [1] [0] 1 rfl rfl (by decide) (by decide) hk1 hFc hP1 hD1
  generalize H1 = H at hP hS ⊢
  rw [hr9]
  refine W.eq (g2 := F0 m 8 ls [.int 0, .int x2]) rfl ?_
  obtain ⟨hPc, hDc, hFc⟩ := xcut (wc := []) hP hD hS hA [] rfl rfl (by decide)
  refine va_calli (va_runS (As := [.int x2, .int 0]) (rest := []) ⟨hx, hb, hml, hown, htx⟩ (cB_isWithin_2 l hl9 D cT aK aV H.size x2 h3 h4 h5) ⟨callB_of 2 htx (xw_goodC kw_1_218) rfl rfl rfl (htx _ kw_1_1) (htx _ kw_1_216) ⟨by decide, by decide, by decide +kernel⟩ ⟨Nat.le_of_ble_eq_true rfl, Nat.le_of_ble_eq_true rfl⟩, htx _ kw_1_217⟩ ⟨xPre_blind, (fun U hU hW => ⟨rfl, xPre_of hZ hS hFc hPc hDc hK U hU hW⟩)⟩ rfl rfl hl.1 rfl (lv_room (Nat.le_of_ble_eq_true rfl)) dB_end_8 ⟨Nat.le_of_ble_eq_true rfl, Nat.le_of_ble_eq_true rfl⟩) hS (fun q _ h => hFc q h) hFc (fun r2 u9 t H1 locs ht hvm hr9 hB hz1 hk1 hS => ?_)
  obtain ⟨hP1, hK1, hD1⟩ := hB
  rw [ht] at hP1
  obtain ⟨hP, hD⟩ := xjoin (W := [(a0, .inr (0, [.ref a1, v6, v7, v8, v9, v10, v11, v12])), (a1, .inr (1, [v13, .int 0, v14]))]) hP hD [] [0, 1] 2 rfl rfl (by decide) (by decide) hk1 hFc hP1 hD1
  generalize H1 = H at hP hS ⊢
  rw [hr9]
  refine W.eq (g2 := F0 m 11 ls [.int 0]) rfl ?_
  obtain ⟨hPc, hDc, hFc⟩ := xcut (wc := []) hP hD hS hA [] rfl rfl (by decide)
  refine xx_thr (vx_runS (As := [.int 0]) (rest := []) ⟨hx, hb, hml, hown, htx⟩ (cB_demand_1 l hl9 D cT aK aV H.size) ⟨callB_of 1 htx (xw_goodC kw_1_221) rfl rfl rfl (htx _ kw_1_1) (htx _ kw_1_219) ⟨by decide, by decide, by decide +kernel⟩ ⟨Nat.le_of_ble_eq_true rfl, Nat.le_of_ble_eq_true rfl⟩, htx _ kw_1_220⟩ ⟨xPre_blind, (fun U hU hW => ⟨rfl, xPre_of hZ hS hFc hPc hDc hK U hU hW⟩)⟩ rfl rfl hl.1 rfl (lv_room (Nat.le_of_ble_eq_true rfl)) dB_end_11 ⟨Nat.le_of_ble_eq_true rfl, Nat.le_of_ble_eq_true rfl⟩) hS hFc (fun q _ h => hFc q h) (fun E ce q9 u9 t H1 locs ht hvm _ hB hz1 hk1 hS hce hcv hcl => ?_)
  obtain ⟨rfl, hP1, hK1, hD1⟩ := hB
  rw [ht] at hP1
  obtain ⟨hP, hD⟩ := xjoin (W := [(a0, .inr (0, [.ref a1, v6, v7, v8, v9, v10, v11, v12])), (a1, .inr (1, [v13, .int 0, v14]))]) hP hD [] [0, 1] 2 rfl rfl (by decide) (by decide) hk1 hFc hP1 hD1
  generalize H1 = H at hP hS hce ⊢
  obtain ⟨hP9, hD9⟩ := xsub (wc := [(a0, .inr (0, [.ref a1, v6, v7, v8, v9, v10, v11, v12])), (a1, .inr (1, [v13, .int 0, v14]))]) hP hD [0, 1] rfl rfl (by decide)
  exact vx_out (E := "java/lang/IllegalArgumentException") (fun x h => (hne x h).elim) hlocks hce hcv hcl (fun t ht ha => ⟨(), trivial, ⟨rfl, by rw [ht]; exact hP9, va_K.moved ha hK, hD9⟩, hS.F ht⟩) hS.2.2 (Nat.le_of_ble_eq_true rfl) (Nat.le_of_ble_eq_true rfl)
set_option maxHeartbeats 400000000 in
set_option maxRecDepth 100000 in
theorem cL_end_2 (l : Launch) (hl9 : l.stackTraces = false) (D : va_G) (cT : Nat → ClassId) (aK aV : Nat → Nat) (sz : Nat) (a0 : Nat) (a1 : Nat) (x2 : Int32) (b6 : Nat) (v7 : Value) (v8 : Value) (v9 : Value) (v10 : Value) (v11 : Value) (v12 : Value) (v13 : Value) (v14 : Value) (v15 : Value) (h3 : ¬ x2 < 0) (h4 : 0 < x2) (h5 : ¬ x2 ≤ 0) : xMet l yL_end wyL_end 8 1 6 141 D cT aK aV sz [.ref a0, .int x2, .ref b6] [(a0, .inr (0, [.ref a1, v7, v8, v9, v10, v11, v12, v13])), (a1, .inr (1, [v14, .int 0, v15]))] (fun A => va_Qi (fun (r : Int32) (_ : Unit) => r = 1) (fun _ t => xB D xcl cT A [(a0, .inr (0, [.ref a1, v7, v8, v9, v10, v11, v12, v13])), (a1, .inr (1, [v14, .int 0, v15]))] t) A) := by
  refine va_MetW (cc := method_4_code) (maxL := 4) (ret := (some .int)) (hh := [(0, 9, 12, 19)]) (by decide) rfl ?_
  intro p e s m args below meth c s₁ B hml hv
  obtain ⟨rfl, hsz, hZ, hP, hK, hD0⟩ := hv
  have hx := B.exec
  have hb := B.bytes
  have hr := B.returns
  have hts := atoms_spec (ws := wyL_end) B.pre
  have htx := fun w h => hts w (List.mem_cons_of_mem _ h)
  have hown : s.vm.findClass "ValueBenchLaw" = some m.cls := findClass_of_methodNamed B.named
  have hlocks := B.notSynchronized
  subst hsz
  have hD := hD0.self (sz := s.heap.size)
  generalize hAe : va_A [(a0, .inr (0, [.ref a1, v7, v8, v9, v10, v11, v12, v13])), (a1, .inr (1, [v14, .int 0, v15]))] s.heap.size = A at hD hZ ⊢
  have hA : ∀ q : Nat, s.heap.size ≤ q → A q := fun q h => by rw [← hAe]; exact Or.inr h
  have hS : va_S A s.heap s.heap [] := va_S.rf
  have hP : va_P D xcl [(a0, .inr (0, [.ref a1, v7, v8, v9, v10, v11, v12, v13])), (a1, .inr (1, [v14, .int 0, v15]))] s.heap := hP
  have hl := lv_entry ([.ref a0, .int x2, .ref b6]) (n := 4) (Nat.le_of_ble_eq_true rfl)
  rw [lg_entry_eq]
  generalize (lg_sl ([.ref a0, .int x2, .ref b6]) ++ List.replicate (4 - (lg_sl ([.ref a0, .int x2, .ref b6])).length) Slot.unset).toArray = ls at hl ⊢
  have hl : lv_has ls 4 [(0, .ref a0), (1, .int x2), (2, .ref b6)] := hl
  have htab := vx_table (x := yL_end) B (hts _ List.mem_cons_self)
  refine lv_aload_n hx hb dL_end_0 rfl (lv_at hl 2 rfl) ?_
  refine lv_iconst (v := 0) hx hb dL_end_1 (by decide) ?_
  refine lv_aload_n hx hb dL_end_2 rfl (lv_at hl 0 rfl) ?_
  refine lv_iload_n hx hb dL_end_3 rfl (lv_at hl 1 rfl) ?_
  obtain ⟨hPc, hDc, hFc⟩ := xcut (wc := [(a0, .inr (0, [.ref a1, v7, v8, v9, v10, v11, v12, v13])), (a1, .inr (1, [v14, .int 0, v15]))]) hP hD hS hA [0, 1] rfl rfl (by decide)
  refine xx_thr (vx_runV (C := "ValueBench") (As := [.int x2]) (rest := [.int 0, .ref b6]) ⟨hx, hb, hml, hown, htx⟩ (cB_end_2 l hl9 D cT aK aV s.heap.size a0 a1 x2 v7 v8 v9 v10 v11 v12 v13 v14 v15 h3 h4 h5) ⟨callB_of 1 htx (xw_goodC kw_1_215) rfl rfl rfl (htx _ kw_1_1) (htx _ kw_1_212) ⟨by decide, by decide, by decide +kernel⟩ ⟨Nat.le_of_ble_eq_true rfl, Nat.le_of_ble_eq_true rfl⟩, (htx _ kw_1_213), (htx _ kw_1_214)⟩ ⟨xPre_blind, va_recv hK hP (ci := 0) rfl (q0 := 0) rfl, (fun U hU hW => ⟨rfl, xPre_of hZ hS hFc hPc hDc hK U hU hW⟩)⟩ rfl rfl hl.1 rfl (lv_room (Nat.le_of_ble_eq_true rfl)) dL_end_4 ⟨Nat.le_of_ble_eq_true rfl, Nat.le_of_ble_eq_true rfl⟩) hS hFc (fun q _ h => hFc q h) (fun E ce q9 u9 t H1 locs ht hvm _ hB hz1 hk1 hS hce hcv hcl => ?_)
  obtain ⟨rfl, hP1, hK1, hD1⟩ := hB
  rw [ht] at hP1
  obtain ⟨hP, hD⟩ := xjoin (W := [(a0, .inr (0, [.ref a1, v7, v8, v9, v10, v11, v12, v13])), (a1, .inr (1, [v14, .int 0, v15]))]) hP hD [0, 1] [] 0 rfl rfl (by decide) (by decide) hk1 hFc hP1 hD1
  generalize H1 = H at hP hS hce ⊢
  refine vx_catch (own := "ValueBenchLaw") (name := "java/lang/IllegalArgumentException") (E := "java/lang/IllegalArgumentException") hown [] ⟨0, 9, 12, 19⟩ [] (by rw [htab]; rfl) (fun z hz => nomatch hz) (by decide) (by decide) (htx _ kw_1_211) ((hZ.2.2.2.2.2.1 _ (List.mem_of_getElem? (i := 1) rfl)).use rfl) hce hcv hcl ?_
  refine lv_astore_n (lv' := [(3, .ref q9), (0, .ref a0), (1, .int x2), (2, .ref b6)]) hx hb dL_end_12 rfl hl (by decide) rfl (fun ls hl => ?_)
  refine lv_iconst (v := 1) hx hb dL_end_13 (by decide) ?_
  obtain ⟨hP9, hD9⟩ := xsub (wc := [(a0, .inr (0, [.ref a1, v7, v8, v9, v10, v11, v12, v13])), (a1, .inr (1, [v14, .int 0, v15]))]) hP hD [0, 1] rfl rfl (by decide)
  refine W.widen (k := 1) (n := 6) (Nat.le_of_ble_eq_true rfl) (Nat.le_of_ble_eq_true rfl) ?_
  exact W.iret (v := 1) hx hb hr (fun t ht hW => ⟨⟨1, (), rfl, rfl, by rw [ht]; exact hP9, va_K.moved hW.alike hK, hD9⟩, hS.F ht⟩) hS.2.2 dL_end_14
set_option maxHeartbeats 400000000 in
set_option maxRecDepth 100000 in
theorem cB_isWithin_3 (l : Launch) (hl9 : l.stackTraces = false) (D : va_G) (cT : Nat → ClassId) (aK aV : Nat → Nat) (sz : Nat) : xMet l yB_isWithin wyB_isWithin 0 0 0 0 D cT aK aV sz [.int 0, .int 3] [] (fun A => va_Qi (fun (r : Int32) (_ : Unit) => r = 1) (fun _ t => xB D xcl cT A [] t) A) := by
  refine Met.ofW (cc := prog_1_method_15_code) (maxL := 2) (ret := (some .boolean)) (by decide) rfl ?_
  intro p e s m args below meth c s₁ B hml hv
  obtain ⟨rfl, hsz, hZ, hP, hK, hD0⟩ := hv
  have hx := B.exec
  have hb := B.bytes
  have hr := B.returns
  have hts := atoms_spec (ws := wyB_isWithin) B.pre
  have htx := fun w h => hts w (List.mem_cons_of_mem _ h)
  have hown : s.vm.findClass "ValueBench" = some m.cls := findClass_of_methodNamed B.named
  have hlocks := B.notSynchronized
  subst hsz
  have hD := hD0.self (sz := s.heap.size)
  generalize hAe : va_A [] s.heap.size = A at hD hZ ⊢
  have hA : ∀ q : Nat, s.heap.size ≤ q → A q := fun q h => by rw [← hAe]; exact Or.inr h
  have hS : va_S A s.heap s.heap [] := va_S.rf
  have hP : va_P D xcl [] s.heap := hP
  have hl := lv_entry ([.int 0, .int 3]) (n := 2) (Nat.le_of_ble_eq_true rfl)
  rw [lg_entry_eq]
  generalize (lg_sl ([.int 0, .int 3]) ++ List.replicate (2 - (lg_sl ([.int 0, .int 3])).length) Slot.unset).toArray = ls at hl ⊢
  have hl : lv_has ls 2 [(0, .int 0), (1, .int 3)] := hl
  refine lv_iload_n hx hb dB_isWithin_0 rfl (lv_at hl 0 rfl) ?_
  refine lv_if_lt (tgt := 13) hx hb dB_isWithin_1 (by decide) (fun h => ((by revert h; decide : False)).elim) (fun _ => ?_)
  refine lv_iload_n hx hb dB_isWithin_4 rfl (lv_at hl 0 rfl) ?_
  refine lv_iload_n hx hb dB_isWithin_5 rfl (lv_at hl 1 rfl) ?_
  refine lv_icmp_gt (tgt := 13) hx hb dB_isWithin_6 (by decide) (fun h => ((by revert h; decide : False)).elim) (fun _ => ?_)
  refine lv_iconst (v := 1) hx hb dB_isWithin_9 (by decide) ?_
  refine lv_goto (tgt := 14) hx hb dB_isWithin_10 (by decide) ?_
  obtain ⟨hP9, hD9⟩ := xsub (wc := []) hP hD [] rfl rfl (by decide)
  refine W.widen (k := 0) (n := 0) (Nat.le_of_ble_eq_true rfl) (Nat.le_of_ble_eq_true rfl) ?_
  exact W.zret (v := 1) hx hb hr rfl (fun t ht hW => ⟨⟨1, (), rfl, rfl, by rw [ht]; exact hP9, va_K.moved hW.alike hK, hD9⟩, hS.F ht⟩) hS.2.2 dB_isWithin_14
set_option maxHeartbeats 400000000 in
set_option maxRecDepth 100000 in
theorem cB_count_0 (l : Launch) (hl9 : l.stackTraces = false) (D : va_G) (cT : Nat → ClassId) (aK aV : Nat → Nat) (sz : Nat) (a0 : Nat) (a1 : Nat) (v2 : Value) (v3 : Value) (v4 : Value) (v5 : Value) (v6 : Value) (v7 : Value) (v8 : Value) (v9 : Value) (v10 : Value) : xMet l yB_count wyB_count 1 0 0 21 D cT aK aV sz [.ref a0, .int 0] [(a0, .inr (0, [.ref a1, v2, v3, v4, v5, v6, v7, v8])), (a1, .inr (1, [v9, .int 0, v10]))] (fun A => va_Qi (fun (r : Int32) (_ : Unit) => r = 0) (fun _ t => xB D xcl cT A [(a0, .inr (0, [.ref a1, v2, v3, v4, v5, v6, v7, v8])), (a1, .inr (1, [v9, .int 0, v10]))] t) A) := by
  refine Met.ofW (cc := prog_1_method_13_code) (maxL := 2) (ret := (some .int)) (by decide) rfl ?_
  intro p e s m args below meth c s₁ B hml hv
  obtain ⟨rfl, hsz, hZ, hP, hK, hD0⟩ := hv
  have hx := B.exec
  have hb := B.bytes
  have hr := B.returns
  have hts := atoms_spec (ws := wyB_count) B.pre
  have htx := fun w h => hts w (List.mem_cons_of_mem _ h)
  have hown : s.vm.findClass "ValueBench" = some m.cls := findClass_of_methodNamed B.named
  have hlocks := B.notSynchronized
  subst hsz
  have hD := hD0.self (sz := s.heap.size)
  generalize hAe : va_A [(a0, .inr (0, [.ref a1, v2, v3, v4, v5, v6, v7, v8])), (a1, .inr (1, [v9, .int 0, v10]))] s.heap.size = A at hD hZ ⊢
  have hA : ∀ q : Nat, s.heap.size ≤ q → A q := fun q h => by rw [← hAe]; exact Or.inr h
  have hS : va_S A s.heap s.heap [] := va_S.rf
  have hP : va_P D xcl [(a0, .inr (0, [.ref a1, v2, v3, v4, v5, v6, v7, v8])), (a1, .inr (1, [v9, .int 0, v10]))] s.heap := hP
  have hl := lv_entry ([.ref a0, .int 0]) (n := 2) (Nat.le_of_ble_eq_true rfl)
  rw [lg_entry_eq]
  generalize (lg_sl ([.ref a0, .int 0]) ++ List.replicate (2 - (lg_sl ([.ref a0, .int 0])).length) Slot.unset).toArray = ls at hl ⊢
  have hl : lv_has ls 2 [(0, .ref a0), (1, .int 0)] := hl
  refine lv_iload_n hx hb dB_count_0 rfl (lv_at hl 1 rfl) ?_
  refine lv_iconst (v := 3) hx hb dB_count_1 (by decide) ?_
  obtain ⟨hPc, hDc, hFc⟩ := xcut (wc := []) hP hD hS hA [] rfl rfl (by decide)
  refine va_calli (va_runS (As := [.int 0, .int 3]) (rest := []) ⟨hx, hb, hml, hown, htx⟩ (cB_isWithin_3 l hl9 D cT aK aV s.heap.size) ⟨callB_of 2 htx (xw_goodC kw_1_218) rfl rfl rfl (htx _ kw_1_1) (htx _ kw_1_216) ⟨by decide, by decide, by decide +kernel⟩ ⟨Nat.le_of_ble_eq_true rfl, Nat.le_of_ble_eq_true rfl⟩, htx _ kw_1_217⟩ ⟨xPre_blind, (fun U hU hW => ⟨rfl, xPre_of hZ hS hFc hPc hDc hK U hU hW⟩)⟩ rfl rfl hl.1 rfl (lv_room (Nat.le_of_ble_eq_true rfl)) dB_count_2 ⟨Nat.le_of_ble_eq_true rfl, Nat.le_of_ble_eq_true rfl⟩) hS (fun q _ h => hFc q h) hFc (fun r1 u9 t H1 locs ht hvm hr9 hB hz1 hk1 hS => ?_)
  obtain ⟨hP1, hK1, hD1⟩ := hB
  rw [ht] at hP1
  obtain ⟨hP, hD⟩ := xjoin (W := [(a0, .inr (0, [.ref a1, v2, v3, v4, v5, v6, v7, v8])), (a1, .inr (1, [v9, .int 0, v10]))]) hP hD [] [0, 1] 2 rfl rfl (by decide) (by decide) hk1 hFc hP1 hD1
  generalize H1 = H at hP hS ⊢
  rw [hr9]
  refine W.eq (g2 := F0 m 5 ls [.int 1]) rfl ?_
  obtain ⟨hPc, hDc, hFc⟩ := xcut (wc := []) hP hD hS hA [] rfl rfl (by decide)
  refine va_callv (va_runS (As := [.int 1]) (rest := []) ⟨hx, hb, hml, hown, htx⟩ (cB_demand_0 l hl9 D cT aK aV H.size) ⟨callB_of 1 htx (xw_goodC kw_1_221) rfl rfl rfl (htx _ kw_1_1) (htx _ kw_1_219) ⟨by decide, by decide, by decide +kernel⟩ ⟨Nat.le_of_ble_eq_true rfl, Nat.le_of_ble_eq_true rfl⟩, htx _ kw_1_220⟩ ⟨xPre_blind, (fun U hU hW => ⟨rfl, xPre_of hZ hS hFc hPc hDc hK U hU hW⟩)⟩ rfl rfl hl.1 rfl (lv_room (Nat.le_of_ble_eq_true rfl)) dB_count_5 ⟨Nat.le_of_ble_eq_true rfl, Nat.le_of_ble_eq_true rfl⟩) hS (fun q _ h => hFc q h) hFc (fun u9 t H1 locs ht hvm hr9 hB hz1 hk1 hS => ?_)
  obtain ⟨hP1, hK1, hD1⟩ := hB
  rw [ht] at hP1
  obtain ⟨hP, hD⟩ := xjoin (W := [(a0, .inr (0, [.ref a1, v2, v3, v4, v5, v6, v7, v8])), (a1, .inr (1, [v9, .int 0, v10]))]) hP hD [] [0, 1] 2 rfl rfl (by decide) (by decide) hk1 hFc hP1 hD1
  generalize H1 = H at hP hS ⊢
  refine lv_iload_n hx hb dB_count_8 rfl (lv_at hl 1 rfl) ?_
  refine lv_tableIn (off := 27) (tgt := 36) hx hb dB_count_9 (by decide) (by decide) (by decide) (by decide) ?_
  refine lv_aload_n hx hb dB_count_36 rfl (lv_at hl 0 rfl) ?_
  refine va_get (D := D) (ci := 0) (v := .ref a1) (C := "ValueBench") (T := TB) (N := 8) hx hb htx inB hown hK hP 0 rfl rfl 0 (by decide) (htx _ kw_1_95) (fun _ h9 => h9) rfl dB_count_37 ?_
  obtain ⟨hPc, hDc, hFc⟩ := xcut (wc := [(a1, .inr (1, [v9, .int 0, v10]))]) hP hD hS hA [1] rfl rfl (by decide)
  refine va_calli (va_runV (C := "ValueBench$Text") (As := []) (rest := []) ⟨hx, hb, hml, hown, htx⟩ (cT_size_0 l hl9 D cT aK aV H.size a1 v9 v10) ⟨callB_of 0 htx (xw_goodC kw_1_131) rfl rfl rfl (htx _ kw_1_2) (htx _ kw_1_128) ⟨by decide, by decide, by decide +kernel⟩ ⟨Nat.le_of_ble_eq_true rfl, Nat.le_of_ble_eq_true rfl⟩, (htx _ kw_1_129), (htx _ kw_1_130)⟩ ⟨xPre_blind, va_recv hK hP (ci := 1) rfl (q0 := 1) rfl, (fun U hU hW => ⟨rfl, xPre_of hZ hS hFc hPc hDc hK U hU hW⟩)⟩ rfl rfl hl.1 rfl (lv_room (Nat.le_of_ble_eq_true rfl)) dB_count_40 ⟨Nat.le_of_ble_eq_true rfl, Nat.le_of_ble_eq_true rfl⟩) hS (fun q _ h => hFc q h) hFc (fun r2 u9 t H1 locs ht hvm hr9 hB hz1 hk1 hS => ?_)
  obtain ⟨hP1, hK1, hD1⟩ := hB
  rw [ht] at hP1
  obtain ⟨hP, hD⟩ := xjoin (W := [(a0, .inr (0, [.ref a1, v2, v3, v4, v5, v6, v7, v8])), (a1, .inr (1, [v9, .int 0, v10]))]) hP hD [1] [0] 1 rfl rfl (by decide) (by decide) hk1 hFc hP1 hD1
  generalize H1 = H at hP hS ⊢
  rw [hr9]
  refine W.eq (g2 := F0 m 43 ls [.int 0]) rfl ?_
  obtain ⟨hP9, hD9⟩ := xsub (wc := [(a0, .inr (0, [.ref a1, v2, v3, v4, v5, v6, v7, v8])), (a1, .inr (1, [v9, .int 0, v10]))]) hP hD [0, 1] rfl rfl (by decide)
  refine W.widen (k := 0) (n := 0) (Nat.le_of_ble_eq_true rfl) (Nat.le_of_ble_eq_true rfl) ?_
  exact W.iret (v := 0) hx hb hr (fun t ht hW => ⟨⟨0, (), rfl, rfl, by rw [ht]; exact hP9, va_K.moved hW.alike hK, hD9⟩, hS.F ht⟩) hS.2.2 dB_count_43
set_option maxHeartbeats 400000000 in
set_option maxRecDepth 100000 in
theorem cL_count_0 (l : Launch) (hl9 : l.stackTraces = false) (D : va_G) (cT : Nat → ClassId) (aK aV : Nat → Nat) (sz : Nat) (a0 : Nat) (a1 : Nat) (a2 : Nat) (v3 : Value) (v4 : Value) (v5 : Value) (v6 : Value) (v7 : Value) (v8 : Value) (v9 : Value) (v10 : Value) (v11 : Value) (f12 : Nat → Int64) : xMet l yL_count wyL_count 2 0 0 42 D cT aK aV sz [.ref a0, .int 0, .ref a2] [(a0, .inr (0, [.ref a1, v3, v4, v5, v6, v7, v8, v9])), (a1, .inr (1, [v10, .int 0, v11])), (a2, .inl (cT 2, 1, .inr (.inl f12)))] (fun A => va_Qi (fun (r : Int32) (_ : Unit) => r = 0) (fun _ t => xB D xcl cT A [(a0, .inr (0, [.ref a1, v3, v4, v5, v6, v7, v8, v9])), (a1, .inr (1, [v10, .int 0, v11])), (a2, .inl (cT 2, 1, .inr (.inl (vp_updL f12 0 0))))] t) A) := by
  refine va_MetW (cc := method_14_code) (maxL := 4) (ret := (some .int)) (hh := [(0, 9, 12, 19)]) (by decide) rfl ?_
  intro p e s m args below meth c s₁ B hml hv
  obtain ⟨rfl, hsz, hZ, hP, hK, hD0⟩ := hv
  have hx := B.exec
  have hb := B.bytes
  have hr := B.returns
  have hts := atoms_spec (ws := wyL_count) B.pre
  have htx := fun w h => hts w (List.mem_cons_of_mem _ h)
  have hown : s.vm.findClass "ValueBenchLaw" = some m.cls := findClass_of_methodNamed B.named
  have hlocks := B.notSynchronized
  subst hsz
  have hD := hD0.self (sz := s.heap.size)
  generalize hAe : va_A [(a0, .inr (0, [.ref a1, v3, v4, v5, v6, v7, v8, v9])), (a1, .inr (1, [v10, .int 0, v11])), (a2, .inl (cT 2, 1, .inr (.inl f12)))] s.heap.size = A at hD hZ ⊢
  have hA : ∀ q : Nat, s.heap.size ≤ q → A q := fun q h => by rw [← hAe]; exact Or.inr h
  have hS : va_S A s.heap s.heap [] := va_S.rf
  have hP : va_P D xcl [(a0, .inr (0, [.ref a1, v3, v4, v5, v6, v7, v8, v9])), (a1, .inr (1, [v10, .int 0, v11])), (a2, .inl (cT 2, 1, .inr (.inl f12)))] s.heap := hP
  have hl := lv_entry ([.ref a0, .int 0, .ref a2]) (n := 4) (Nat.le_of_ble_eq_true rfl)
  rw [lg_entry_eq]
  generalize (lg_sl ([.ref a0, .int 0, .ref a2]) ++ List.replicate (4 - (lg_sl ([.ref a0, .int 0, .ref a2])).length) Slot.unset).toArray = ls at hl ⊢
  have hl : lv_has ls 4 [(0, .ref a0), (1, .int 0), (2, .ref a2)] := hl
  have htab := vx_table (x := yL_count) B (hts _ List.mem_cons_self)
  refine lv_aload_n hx hb dL_count_0 rfl (lv_at hl 2 rfl) ?_
  refine lv_iconst (v := 0) hx hb dL_count_1 (by decide) ?_
  refine lv_aload_n hx hb dL_count_2 rfl (lv_at hl 0 rfl) ?_
  refine lv_iload_n hx hb dL_count_3 rfl (lv_at hl 1 rfl) ?_
  obtain ⟨hPc, hDc, hFc⟩ := xcut (wc := [(a0, .inr (0, [.ref a1, v3, v4, v5, v6, v7, v8, v9])), (a1, .inr (1, [v10, .int 0, v11]))]) hP hD hS hA [0, 1] rfl rfl (by decide)
  refine va_calli (va_runV (C := "ValueBench") (As := [.int 0]) (rest := [.int 0, .ref a2]) ⟨hx, hb, hml, hown, htx⟩ (cB_count_0 l hl9 D cT aK aV s.heap.size a0 a1 v3 v4 v5 v6 v7 v8 v9 v10 v11) ⟨callB_of 1 htx (xw_goodC kw_5_73) rfl rfl rfl (htx _ kw_1_1) (htx _ kw_5_70) ⟨by decide, by decide, by decide +kernel⟩ ⟨Nat.le_of_ble_eq_true rfl, Nat.le_of_ble_eq_true rfl⟩, (htx _ kw_5_71), (htx _ kw_5_72)⟩ ⟨xPre_blind, va_recv hK hP (ci := 0) rfl (q0 := 0) rfl, (fun U hU hW => ⟨rfl, xPre_of hZ hS hFc hPc hDc hK U hU hW⟩)⟩ rfl rfl hl.1 rfl (lv_room (Nat.le_of_ble_eq_true rfl)) dL_count_4 ⟨Nat.le_of_ble_eq_true rfl, Nat.le_of_ble_eq_true rfl⟩) hS (fun q _ h => hFc q h) hFc (fun r1 u9 t H1 locs ht hvm hr9 hB hz1 hk1 hS => ?_)
  obtain ⟨hP1, hK1, hD1⟩ := hB
  rw [ht] at hP1
  obtain ⟨hP, hD⟩ := xjoin (W := [(a2, .inl (cT 2, 1, .inr (.inl f12))), (a0, .inr (0, [.ref a1, v3, v4, v5, v6, v7, v8, v9])), (a1, .inr (1, [v10, .int 0, v11]))]) hP hD [0, 1] [2] 1 rfl rfl (by decide) (by decide) hk1 hFc hP1 hD1
  generalize H1 = H at hP hS ⊢
  rw [hr9]
  refine W.eq (g2 := F0 m 7 ls [.int 0, .int 0, .ref a2]) rfl ?_
  refine lv_i2l hx hb dL_count_7 rfl ?_
  refine W.eq (g2 := F0 m 8 ls [.long 0, .int 0, .ref a2]) rfl ?_
  refine va_last hx hb hK hP hD hS 0 2 rfl rfl (show ¬ ((0 : Int32) < 0 ∨ 1 ≤ (0 : Int32).toNatClampNeg) by decide) dL_count_8 (fun H locs hP hD hS => ?_)
  obtain ⟨hP, hD⟩ : xPD D xcl A [(a2, .inl (cT 2, 1, .inr (.inl (vp_updL f12 0 0)))), (a0, .inr (0, [.ref a1, v3, v4, v5, v6, v7, v8, v9])), (a1, .inr (1, [v10, .int 0, v11]))] H := ⟨hP, hD⟩
  refine lv_goto (tgt := 15) hx hb dL_count_9 (by decide) ?_
  refine lv_iconst (v := 0) hx hb dL_count_15 (by decide) ?_
  obtain ⟨hP9, hD9⟩ := xsub (wc := [(a0, .inr (0, [.ref a1, v3, v4, v5, v6, v7, v8, v9])), (a1, .inr (1, [v10, .int 0, v11])), (a2, .inl (cT 2, 1, .inr (.inl (vp_updL f12 0 0))))]) hP hD [1, 2, 0] rfl rfl (by decide)
  refine W.widen (k := 0) (n := 0) (Nat.le_of_ble_eq_true rfl) (Nat.le_of_ble_eq_true rfl) ?_
  exact W.iret (v := 0) hx hb hr (fun t ht hW => ⟨⟨0, (), rfl, rfl, by rw [ht]; exact hP9, va_K.moved hW.alike hK, hD9⟩, hS.F ht⟩) hS.2.2 dL_count_16
set_option maxHeartbeats 400000000 in
set_option maxRecDepth 100000 in
theorem cB_isWithin_4 (l : Launch) (hl9 : l.stackTraces = false) (D : va_G) (cT : Nat → ClassId) (aK aV : Nat → Nat) (sz : Nat) : xMet l yB_isWithin wyB_isWithin 0 0 0 0 D cT aK aV sz [.int 1, .int 3] [] (fun A => va_Qi (fun (r : Int32) (_ : Unit) => r = 1) (fun _ t => xB D xcl cT A [] t) A) := by
  refine Met.ofW (cc := prog_1_method_15_code) (maxL := 2) (ret := (some .boolean)) (by decide) rfl ?_
  intro p e s m args below meth c s₁ B hml hv
  obtain ⟨rfl, hsz, hZ, hP, hK, hD0⟩ := hv
  have hx := B.exec
  have hb := B.bytes
  have hr := B.returns
  have hts := atoms_spec (ws := wyB_isWithin) B.pre
  have htx := fun w h => hts w (List.mem_cons_of_mem _ h)
  have hown : s.vm.findClass "ValueBench" = some m.cls := findClass_of_methodNamed B.named
  have hlocks := B.notSynchronized
  subst hsz
  have hD := hD0.self (sz := s.heap.size)
  generalize hAe : va_A [] s.heap.size = A at hD hZ ⊢
  have hA : ∀ q : Nat, s.heap.size ≤ q → A q := fun q h => by rw [← hAe]; exact Or.inr h
  have hS : va_S A s.heap s.heap [] := va_S.rf
  have hP : va_P D xcl [] s.heap := hP
  have hl := lv_entry ([.int 1, .int 3]) (n := 2) (Nat.le_of_ble_eq_true rfl)
  rw [lg_entry_eq]
  generalize (lg_sl ([.int 1, .int 3]) ++ List.replicate (2 - (lg_sl ([.int 1, .int 3])).length) Slot.unset).toArray = ls at hl ⊢
  have hl : lv_has ls 2 [(0, .int 1), (1, .int 3)] := hl
  refine lv_iload_n hx hb dB_isWithin_0 rfl (lv_at hl 0 rfl) ?_
  refine lv_if_lt (tgt := 13) hx hb dB_isWithin_1 (by decide) (fun h => ((by revert h; decide : False)).elim) (fun _ => ?_)
  refine lv_iload_n hx hb dB_isWithin_4 rfl (lv_at hl 0 rfl) ?_
  refine lv_iload_n hx hb dB_isWithin_5 rfl (lv_at hl 1 rfl) ?_
  refine lv_icmp_gt (tgt := 13) hx hb dB_isWithin_6 (by decide) (fun h => ((by revert h; decide : False)).elim) (fun _ => ?_)
  refine lv_iconst (v := 1) hx hb dB_isWithin_9 (by decide) ?_
  refine lv_goto (tgt := 14) hx hb dB_isWithin_10 (by decide) ?_
  obtain ⟨hP9, hD9⟩ := xsub (wc := []) hP hD [] rfl rfl (by decide)
  refine W.widen (k := 0) (n := 0) (Nat.le_of_ble_eq_true rfl) (Nat.le_of_ble_eq_true rfl) ?_
  exact W.zret (v := 1) hx hb hr rfl (fun t ht hW => ⟨⟨1, (), rfl, rfl, by rw [ht]; exact hP9, va_K.moved hW.alike hK, hD9⟩, hS.F ht⟩) hS.2.2 dB_isWithin_14
set_option maxHeartbeats 400000000 in
set_option maxRecDepth 100000 in
theorem cB_count_1 (l : Launch) (hl9 : l.stackTraces = false) (D : va_G) (cT : Nat → ClassId) (aK aV : Nat → Nat) (sz : Nat) (a0 : Nat) (a1 : Nat) (v2 : Value) (v3 : Value) (v4 : Value) (v5 : Value) (v6 : Value) (v7 : Value) (v8 : Value) (v9 : Value) (v10 : Value) : xMet l yB_count wyB_count 1 0 0 21 D cT aK aV sz [.ref a0, .int 1] [(a0, .inr (0, [v2, .ref a1, v3, v4, v5, v6, v7, v8])), (a1, .inr (1, [v9, .int 0, v10]))] (fun A => va_Qi (fun (r : Int32) (_ : Unit) => r = 0) (fun _ t => xB D xcl cT A [(a0, .inr (0, [v2, .ref a1, v3, v4, v5, v6, v7, v8])), (a1, .inr (1, [v9, .int 0, v10]))] t) A) := by
  refine Met.ofW (cc := prog_1_method_13_code) (maxL := 2) (ret := (some .int)) (by decide) rfl ?_
  intro p e s m args below meth c s₁ B hml hv
  obtain ⟨rfl, hsz, hZ, hP, hK, hD0⟩ := hv
  have hx := B.exec
  have hb := B.bytes
  have hr := B.returns
  have hts := atoms_spec (ws := wyB_count) B.pre
  have htx := fun w h => hts w (List.mem_cons_of_mem _ h)
  have hown : s.vm.findClass "ValueBench" = some m.cls := findClass_of_methodNamed B.named
  have hlocks := B.notSynchronized
  subst hsz
  have hD := hD0.self (sz := s.heap.size)
  generalize hAe : va_A [(a0, .inr (0, [v2, .ref a1, v3, v4, v5, v6, v7, v8])), (a1, .inr (1, [v9, .int 0, v10]))] s.heap.size = A at hD hZ ⊢
  have hA : ∀ q : Nat, s.heap.size ≤ q → A q := fun q h => by rw [← hAe]; exact Or.inr h
  have hS : va_S A s.heap s.heap [] := va_S.rf
  have hP : va_P D xcl [(a0, .inr (0, [v2, .ref a1, v3, v4, v5, v6, v7, v8])), (a1, .inr (1, [v9, .int 0, v10]))] s.heap := hP
  have hl := lv_entry ([.ref a0, .int 1]) (n := 2) (Nat.le_of_ble_eq_true rfl)
  rw [lg_entry_eq]
  generalize (lg_sl ([.ref a0, .int 1]) ++ List.replicate (2 - (lg_sl ([.ref a0, .int 1])).length) Slot.unset).toArray = ls at hl ⊢
  have hl : lv_has ls 2 [(0, .ref a0), (1, .int 1)] := hl
  refine lv_iload_n hx hb dB_count_0 rfl (lv_at hl 1 rfl) ?_
  refine lv_iconst (v := 3) hx hb dB_count_1 (by decide) ?_
  obtain ⟨hPc, hDc, hFc⟩ := xcut (wc := []) hP hD hS hA [] rfl rfl (by decide)
  refine va_calli (va_runS (As := [.int 1, .int 3]) (rest := []) ⟨hx, hb, hml, hown, htx⟩ (cB_isWithin_4 l hl9 D cT aK aV s.heap.size) ⟨callB_of 2 htx (xw_goodC kw_1_218) rfl rfl rfl (htx _ kw_1_1) (htx _ kw_1_216) ⟨by decide, by decide, by decide +kernel⟩ ⟨Nat.le_of_ble_eq_true rfl, Nat.le_of_ble_eq_true rfl⟩, htx _ kw_1_217⟩ ⟨xPre_blind, (fun U hU hW => ⟨rfl, xPre_of hZ hS hFc hPc hDc hK U hU hW⟩)⟩ rfl rfl hl.1 rfl (lv_room (Nat.le_of_ble_eq_true rfl)) dB_count_2 ⟨Nat.le_of_ble_eq_true rfl, Nat.le_of_ble_eq_true rfl⟩) hS (fun q _ h => hFc q h) hFc (fun r1 u9 t H1 locs ht hvm hr9 hB hz1 hk1 hS => ?_)
  obtain ⟨hP1, hK1, hD1⟩ := hB
  rw [ht] at hP1
  obtain ⟨hP, hD⟩ := xjoin (W := [(a0, .inr (0, [v2, .ref a1, v3, v4, v5, v6, v7, v8])), (a1, .inr (1, [v9, .int 0, v10]))]) hP hD [] [0, 1] 2 rfl rfl (by decide) (by decide) hk1 hFc hP1 hD1
  generalize H1 = H at hP hS ⊢
  rw [hr9]
  refine W.eq (g2 := F0 m 5 ls [.int 1]) rfl ?_
  obtain ⟨hPc, hDc, hFc⟩ := xcut (wc := []) hP hD hS hA [] rfl rfl (by decide)
  refine va_callv (va_runS (As := [.int 1]) (rest := []) ⟨hx, hb, hml, hown, htx⟩ (cB_demand_0 l hl9 D cT aK aV H.size) ⟨callB_of 1 htx (xw_goodC kw_1_221) rfl rfl rfl (htx _ kw_1_1) (htx _ kw_1_219) ⟨by decide, by decide, by decide +kernel⟩ ⟨Nat.le_of_ble_eq_true rfl, Nat.le_of_ble_eq_true rfl⟩, htx _ kw_1_220⟩ ⟨xPre_blind, (fun U hU hW => ⟨rfl, xPre_of hZ hS hFc hPc hDc hK U hU hW⟩)⟩ rfl rfl hl.1 rfl (lv_room (Nat.le_of_ble_eq_true rfl)) dB_count_5 ⟨Nat.le_of_ble_eq_true rfl, Nat.le_of_ble_eq_true rfl⟩) hS (fun q _ h => hFc q h) hFc (fun u9 t H1 locs ht hvm hr9 hB hz1 hk1 hS => ?_)
  obtain ⟨hP1, hK1, hD1⟩ := hB
  rw [ht] at hP1
  obtain ⟨hP, hD⟩ := xjoin (W := [(a0, .inr (0, [v2, .ref a1, v3, v4, v5, v6, v7, v8])), (a1, .inr (1, [v9, .int 0, v10]))]) hP hD [] [0, 1] 2 rfl rfl (by decide) (by decide) hk1 hFc hP1 hD1
  generalize H1 = H at hP hS ⊢
  refine lv_iload_n hx hb dB_count_8 rfl (lv_at hl 1 rfl) ?_
  refine lv_tableIn (off := 35) (tgt := 44) hx hb dB_count_9 (by decide) (by decide) (by decide) (by decide) ?_
  refine lv_aload_n hx hb dB_count_44 rfl (lv_at hl 0 rfl) ?_
  refine va_get (D := D) (ci := 0) (v := .ref a1) (C := "ValueBench") (T := TB) (N := 8) hx hb htx inB hown hK hP 0 rfl rfl 1 (by decide) (htx _ kw_1_96) (fun _ h9 => h9) rfl dB_count_45 ?_
  obtain ⟨hPc, hDc, hFc⟩ := xcut (wc := [(a1, .inr (1, [v9, .int 0, v10]))]) hP hD hS hA [1] rfl rfl (by decide)
  refine va_calli (va_runV (C := "ValueBench$Text") (As := []) (rest := []) ⟨hx, hb, hml, hown, htx⟩ (cT_size_0 l hl9 D cT aK aV H.size a1 v9 v10) ⟨callB_of 0 htx (xw_goodC kw_1_131) rfl rfl rfl (htx _ kw_1_2) (htx _ kw_1_128) ⟨by decide, by decide, by decide +kernel⟩ ⟨Nat.le_of_ble_eq_true rfl, Nat.le_of_ble_eq_true rfl⟩, (htx _ kw_1_129), (htx _ kw_1_130)⟩ ⟨xPre_blind, va_recv hK hP (ci := 1) rfl (q0 := 1) rfl, (fun U hU hW => ⟨rfl, xPre_of hZ hS hFc hPc hDc hK U hU hW⟩)⟩ rfl rfl hl.1 rfl (lv_room (Nat.le_of_ble_eq_true rfl)) dB_count_48 ⟨Nat.le_of_ble_eq_true rfl, Nat.le_of_ble_eq_true rfl⟩) hS (fun q _ h => hFc q h) hFc (fun r2 u9 t H1 locs ht hvm hr9 hB hz1 hk1 hS => ?_)
  obtain ⟨hP1, hK1, hD1⟩ := hB
  rw [ht] at hP1
  obtain ⟨hP, hD⟩ := xjoin (W := [(a0, .inr (0, [v2, .ref a1, v3, v4, v5, v6, v7, v8])), (a1, .inr (1, [v9, .int 0, v10]))]) hP hD [1] [0] 1 rfl rfl (by decide) (by decide) hk1 hFc hP1 hD1
  generalize H1 = H at hP hS ⊢
  rw [hr9]
  refine W.eq (g2 := F0 m 51 ls [.int 0]) rfl ?_
  obtain ⟨hP9, hD9⟩ := xsub (wc := [(a0, .inr (0, [v2, .ref a1, v3, v4, v5, v6, v7, v8])), (a1, .inr (1, [v9, .int 0, v10]))]) hP hD [0, 1] rfl rfl (by decide)
  refine W.widen (k := 0) (n := 0) (Nat.le_of_ble_eq_true rfl) (Nat.le_of_ble_eq_true rfl) ?_
  exact W.iret (v := 0) hx hb hr (fun t ht hW => ⟨⟨0, (), rfl, rfl, by rw [ht]; exact hP9, va_K.moved hW.alike hK, hD9⟩, hS.F ht⟩) hS.2.2 dB_count_51
set_option maxHeartbeats 400000000 in
set_option maxRecDepth 100000 in
theorem cL_count_1 (l : Launch) (hl9 : l.stackTraces = false) (D : va_G) (cT : Nat → ClassId) (aK aV : Nat → Nat) (sz : Nat) (a0 : Nat) (a1 : Nat) (a2 : Nat) (v3 : Value) (v4 : Value) (v5 : Value) (v6 : Value) (v7 : Value) (v8 : Value) (v9 : Value) (v10 : Value) (v11 : Value) (f12 : Nat → Int64) : xMet l yL_count wyL_count 2 0 0 42 D cT aK aV sz [.ref a0, .int 1, .ref a2] [(a0, .inr (0, [v3, .ref a1, v4, v5, v6, v7, v8, v9])), (a1, .inr (1, [v10, .int 0, v11])), (a2, .inl (cT 2, 1, .inr (.inl f12)))] (fun A => va_Qi (fun (r : Int32) (_ : Unit) => r = 0) (fun _ t => xB D xcl cT A [(a0, .inr (0, [v3, .ref a1, v4, v5, v6, v7, v8, v9])), (a1, .inr (1, [v10, .int 0, v11])), (a2, .inl (cT 2, 1, .inr (.inl (vp_updL f12 0 0))))] t) A) := by
  refine va_MetW (cc := method_14_code) (maxL := 4) (ret := (some .int)) (hh := [(0, 9, 12, 19)]) (by decide) rfl ?_
  intro p e s m args below meth c s₁ B hml hv
  obtain ⟨rfl, hsz, hZ, hP, hK, hD0⟩ := hv
  have hx := B.exec
  have hb := B.bytes
  have hr := B.returns
  have hts := atoms_spec (ws := wyL_count) B.pre
  have htx := fun w h => hts w (List.mem_cons_of_mem _ h)
  have hown : s.vm.findClass "ValueBenchLaw" = some m.cls := findClass_of_methodNamed B.named
  have hlocks := B.notSynchronized
  subst hsz
  have hD := hD0.self (sz := s.heap.size)
  generalize hAe : va_A [(a0, .inr (0, [v3, .ref a1, v4, v5, v6, v7, v8, v9])), (a1, .inr (1, [v10, .int 0, v11])), (a2, .inl (cT 2, 1, .inr (.inl f12)))] s.heap.size = A at hD hZ ⊢
  have hA : ∀ q : Nat, s.heap.size ≤ q → A q := fun q h => by rw [← hAe]; exact Or.inr h
  have hS : va_S A s.heap s.heap [] := va_S.rf
  have hP : va_P D xcl [(a0, .inr (0, [v3, .ref a1, v4, v5, v6, v7, v8, v9])), (a1, .inr (1, [v10, .int 0, v11])), (a2, .inl (cT 2, 1, .inr (.inl f12)))] s.heap := hP
  have hl := lv_entry ([.ref a0, .int 1, .ref a2]) (n := 4) (Nat.le_of_ble_eq_true rfl)
  rw [lg_entry_eq]
  generalize (lg_sl ([.ref a0, .int 1, .ref a2]) ++ List.replicate (4 - (lg_sl ([.ref a0, .int 1, .ref a2])).length) Slot.unset).toArray = ls at hl ⊢
  have hl : lv_has ls 4 [(0, .ref a0), (1, .int 1), (2, .ref a2)] := hl
  have htab := vx_table (x := yL_count) B (hts _ List.mem_cons_self)
  refine lv_aload_n hx hb dL_count_0 rfl (lv_at hl 2 rfl) ?_
  refine lv_iconst (v := 0) hx hb dL_count_1 (by decide) ?_
  refine lv_aload_n hx hb dL_count_2 rfl (lv_at hl 0 rfl) ?_
  refine lv_iload_n hx hb dL_count_3 rfl (lv_at hl 1 rfl) ?_
  obtain ⟨hPc, hDc, hFc⟩ := xcut (wc := [(a0, .inr (0, [v3, .ref a1, v4, v5, v6, v7, v8, v9])), (a1, .inr (1, [v10, .int 0, v11]))]) hP hD hS hA [0, 1] rfl rfl (by decide)
  refine va_calli (va_runV (C := "ValueBench") (As := [.int 1]) (rest := [.int 0, .ref a2]) ⟨hx, hb, hml, hown, htx⟩ (cB_count_1 l hl9 D cT aK aV s.heap.size a0 a1 v3 v4 v5 v6 v7 v8 v9 v10 v11) ⟨callB_of 1 htx (xw_goodC kw_5_73) rfl rfl rfl (htx _ kw_1_1) (htx _ kw_5_70) ⟨by decide, by decide, by decide +kernel⟩ ⟨Nat.le_of_ble_eq_true rfl, Nat.le_of_ble_eq_true rfl⟩, (htx _ kw_5_71), (htx _ kw_5_72)⟩ ⟨xPre_blind, va_recv hK hP (ci := 0) rfl (q0 := 0) rfl, (fun U hU hW => ⟨rfl, xPre_of hZ hS hFc hPc hDc hK U hU hW⟩)⟩ rfl rfl hl.1 rfl (lv_room (Nat.le_of_ble_eq_true rfl)) dL_count_4 ⟨Nat.le_of_ble_eq_true rfl, Nat.le_of_ble_eq_true rfl⟩) hS (fun q _ h => hFc q h) hFc (fun r1 u9 t H1 locs ht hvm hr9 hB hz1 hk1 hS => ?_)
  obtain ⟨hP1, hK1, hD1⟩ := hB
  rw [ht] at hP1
  obtain ⟨hP, hD⟩ := xjoin (W := [(a2, .inl (cT 2, 1, .inr (.inl f12))), (a0, .inr (0, [v3, .ref a1, v4, v5, v6, v7, v8, v9])), (a1, .inr (1, [v10, .int 0, v11]))]) hP hD [0, 1] [2] 1 rfl rfl (by decide) (by decide) hk1 hFc hP1 hD1
  generalize H1 = H at hP hS ⊢
  rw [hr9]
  refine W.eq (g2 := F0 m 7 ls [.int 0, .int 0, .ref a2]) rfl ?_
  refine lv_i2l hx hb dL_count_7 rfl ?_
  refine W.eq (g2 := F0 m 8 ls [.long 0, .int 0, .ref a2]) rfl ?_
  refine va_last hx hb hK hP hD hS 0 2 rfl rfl (show ¬ ((0 : Int32) < 0 ∨ 1 ≤ (0 : Int32).toNatClampNeg) by decide) dL_count_8 (fun H locs hP hD hS => ?_)
  obtain ⟨hP, hD⟩ : xPD D xcl A [(a2, .inl (cT 2, 1, .inr (.inl (vp_updL f12 0 0)))), (a0, .inr (0, [v3, .ref a1, v4, v5, v6, v7, v8, v9])), (a1, .inr (1, [v10, .int 0, v11]))] H := ⟨hP, hD⟩
  refine lv_goto (tgt := 15) hx hb dL_count_9 (by decide) ?_
  refine lv_iconst (v := 0) hx hb dL_count_15 (by decide) ?_
  obtain ⟨hP9, hD9⟩ := xsub (wc := [(a0, .inr (0, [v3, .ref a1, v4, v5, v6, v7, v8, v9])), (a1, .inr (1, [v10, .int 0, v11])), (a2, .inl (cT 2, 1, .inr (.inl (vp_updL f12 0 0))))]) hP hD [1, 2, 0] rfl rfl (by decide)
  refine W.widen (k := 0) (n := 0) (Nat.le_of_ble_eq_true rfl) (Nat.le_of_ble_eq_true rfl) ?_
  exact W.iret (v := 0) hx hb hr (fun t ht hW => ⟨⟨0, (), rfl, rfl, by rw [ht]; exact hP9, va_K.moved hW.alike hK, hD9⟩, hS.F ht⟩) hS.2.2 dL_count_16
set_option maxHeartbeats 400000000 in
set_option maxRecDepth 100000 in
theorem cB_isWithin_5 (l : Launch) (hl9 : l.stackTraces = false) (D : va_G) (cT : Nat → ClassId) (aK aV : Nat → Nat) (sz : Nat) : xMet l yB_isWithin wyB_isWithin 0 0 0 0 D cT aK aV sz [.int 2, .int 3] [] (fun A => va_Qi (fun (r : Int32) (_ : Unit) => r = 1) (fun _ t => xB D xcl cT A [] t) A) := by
  refine Met.ofW (cc := prog_1_method_15_code) (maxL := 2) (ret := (some .boolean)) (by decide) rfl ?_
  intro p e s m args below meth c s₁ B hml hv
  obtain ⟨rfl, hsz, hZ, hP, hK, hD0⟩ := hv
  have hx := B.exec
  have hb := B.bytes
  have hr := B.returns
  have hts := atoms_spec (ws := wyB_isWithin) B.pre
  have htx := fun w h => hts w (List.mem_cons_of_mem _ h)
  have hown : s.vm.findClass "ValueBench" = some m.cls := findClass_of_methodNamed B.named
  have hlocks := B.notSynchronized
  subst hsz
  have hD := hD0.self (sz := s.heap.size)
  generalize hAe : va_A [] s.heap.size = A at hD hZ ⊢
  have hA : ∀ q : Nat, s.heap.size ≤ q → A q := fun q h => by rw [← hAe]; exact Or.inr h
  have hS : va_S A s.heap s.heap [] := va_S.rf
  have hP : va_P D xcl [] s.heap := hP
  have hl := lv_entry ([.int 2, .int 3]) (n := 2) (Nat.le_of_ble_eq_true rfl)
  rw [lg_entry_eq]
  generalize (lg_sl ([.int 2, .int 3]) ++ List.replicate (2 - (lg_sl ([.int 2, .int 3])).length) Slot.unset).toArray = ls at hl ⊢
  have hl : lv_has ls 2 [(0, .int 2), (1, .int 3)] := hl
  refine lv_iload_n hx hb dB_isWithin_0 rfl (lv_at hl 0 rfl) ?_
  refine lv_if_lt (tgt := 13) hx hb dB_isWithin_1 (by decide) (fun h => ((by revert h; decide : False)).elim) (fun _ => ?_)
  refine lv_iload_n hx hb dB_isWithin_4 rfl (lv_at hl 0 rfl) ?_
  refine lv_iload_n hx hb dB_isWithin_5 rfl (lv_at hl 1 rfl) ?_
  refine lv_icmp_gt (tgt := 13) hx hb dB_isWithin_6 (by decide) (fun h => ((by revert h; decide : False)).elim) (fun _ => ?_)
  refine lv_iconst (v := 1) hx hb dB_isWithin_9 (by decide) ?_
  refine lv_goto (tgt := 14) hx hb dB_isWithin_10 (by decide) ?_
  obtain ⟨hP9, hD9⟩ := xsub (wc := []) hP hD [] rfl rfl (by decide)
  refine W.widen (k := 0) (n := 0) (Nat.le_of_ble_eq_true rfl) (Nat.le_of_ble_eq_true rfl) ?_
  exact W.zret (v := 1) hx hb hr rfl (fun t ht hW => ⟨⟨1, (), rfl, rfl, by rw [ht]; exact hP9, va_K.moved hW.alike hK, hD9⟩, hS.F ht⟩) hS.2.2 dB_isWithin_14
set_option maxHeartbeats 400000000 in
set_option maxRecDepth 100000 in
theorem cB_count_2 (l : Launch) (hl9 : l.stackTraces = false) (D : va_G) (cT : Nat → ClassId) (aK aV : Nat → Nat) (sz : Nat) (a0 : Nat) (v1 : Value) (v2 : Value) (v3 : Value) (v4 : Value) (v5 : Value) (v6 : Value) (v7 : Value) : xMet l yB_count wyB_count 1 0 0 21 D cT aK aV sz [.ref a0, .int 2] [(a0, .inr (0, [v1, v2, v3, v4, v5, v6, .int (-1), v7]))] (fun A => va_Qi (fun (r : Int32) (_ : Unit) => r = (-1)) (fun _ t => xB D xcl cT A [(a0, .inr (0, [v1, v2, v3, v4, v5, v6, .int (-1), v7]))] t) A) := by
  refine Met.ofW (cc := prog_1_method_13_code) (maxL := 2) (ret := (some .int)) (by decide) rfl ?_
  intro p e s m args below meth c s₁ B hml hv
  obtain ⟨rfl, hsz, hZ, hP, hK, hD0⟩ := hv
  have hx := B.exec
  have hb := B.bytes
  have hr := B.returns
  have hts := atoms_spec (ws := wyB_count) B.pre
  have htx := fun w h => hts w (List.mem_cons_of_mem _ h)
  have hown : s.vm.findClass "ValueBench" = some m.cls := findClass_of_methodNamed B.named
  have hlocks := B.notSynchronized
  subst hsz
  have hD := hD0.self (sz := s.heap.size)
  generalize hAe : va_A [(a0, .inr (0, [v1, v2, v3, v4, v5, v6, .int (-1), v7]))] s.heap.size = A at hD hZ ⊢
  have hA : ∀ q : Nat, s.heap.size ≤ q → A q := fun q h => by rw [← hAe]; exact Or.inr h
  have hS : va_S A s.heap s.heap [] := va_S.rf
  have hP : va_P D xcl [(a0, .inr (0, [v1, v2, v3, v4, v5, v6, .int (-1), v7]))] s.heap := hP
  have hl := lv_entry ([.ref a0, .int 2]) (n := 2) (Nat.le_of_ble_eq_true rfl)
  rw [lg_entry_eq]
  generalize (lg_sl ([.ref a0, .int 2]) ++ List.replicate (2 - (lg_sl ([.ref a0, .int 2])).length) Slot.unset).toArray = ls at hl ⊢
  have hl : lv_has ls 2 [(0, .ref a0), (1, .int 2)] := hl
  refine lv_iload_n hx hb dB_count_0 rfl (lv_at hl 1 rfl) ?_
  refine lv_iconst (v := 3) hx hb dB_count_1 (by decide) ?_
  obtain ⟨hPc, hDc, hFc⟩ := xcut (wc := []) hP hD hS hA [] rfl rfl (by decide)
  refine va_calli (va_runS (As := [.int 2, .int 3]) (rest := []) ⟨hx, hb, hml, hown, htx⟩ (cB_isWithin_5 l hl9 D cT aK aV s.heap.size) ⟨callB_of 2 htx (xw_goodC kw_1_218) rfl rfl rfl (htx _ kw_1_1) (htx _ kw_1_216) ⟨by decide, by decide, by decide +kernel⟩ ⟨Nat.le_of_ble_eq_true rfl, Nat.le_of_ble_eq_true rfl⟩, htx _ kw_1_217⟩ ⟨xPre_blind, (fun U hU hW => ⟨rfl, xPre_of hZ hS hFc hPc hDc hK U hU hW⟩)⟩ rfl rfl hl.1 rfl (lv_room (Nat.le_of_ble_eq_true rfl)) dB_count_2 ⟨Nat.le_of_ble_eq_true rfl, Nat.le_of_ble_eq_true rfl⟩) hS (fun q _ h => hFc q h) hFc (fun r1 u9 t H1 locs ht hvm hr9 hB hz1 hk1 hS => ?_)
  obtain ⟨hP1, hK1, hD1⟩ := hB
  rw [ht] at hP1
  obtain ⟨hP, hD⟩ := xjoin (W := [(a0, .inr (0, [v1, v2, v3, v4, v5, v6, .int (-1), v7]))]) hP hD [] [0] 1 rfl rfl (by decide) (by decide) hk1 hFc hP1 hD1
  generalize H1 = H at hP hS ⊢
  rw [hr9]
  refine W.eq (g2 := F0 m 5 ls [.int 1]) rfl ?_
  obtain ⟨hPc, hDc, hFc⟩ := xcut (wc := []) hP hD hS hA [] rfl rfl (by decide)
  refine va_callv (va_runS (As := [.int 1]) (rest := []) ⟨hx, hb, hml, hown, htx⟩ (cB_demand_0 l hl9 D cT aK aV H.size) ⟨callB_of 1 htx (xw_goodC kw_1_221) rfl rfl rfl (htx _ kw_1_1) (htx _ kw_1_219) ⟨by decide, by decide, by decide +kernel⟩ ⟨Nat.le_of_ble_eq_true rfl, Nat.le_of_ble_eq_true rfl⟩, htx _ kw_1_220⟩ ⟨xPre_blind, (fun U hU hW => ⟨rfl, xPre_of hZ hS hFc hPc hDc hK U hU hW⟩)⟩ rfl rfl hl.1 rfl (lv_room (Nat.le_of_ble_eq_true rfl)) dB_count_5 ⟨Nat.le_of_ble_eq_true rfl, Nat.le_of_ble_eq_true rfl⟩) hS (fun q _ h => hFc q h) hFc (fun u9 t H1 locs ht hvm hr9 hB hz1 hk1 hS => ?_)
  obtain ⟨hP1, hK1, hD1⟩ := hB
  rw [ht] at hP1
  obtain ⟨hP, hD⟩ := xjoin (W := [(a0, .inr (0, [v1, v2, v3, v4, v5, v6, .int (-1), v7]))]) hP hD [] [0] 1 rfl rfl (by decide) (by decide) hk1 hFc hP1 hD1
  generalize H1 = H at hP hS ⊢
  refine lv_iload_n hx hb dB_count_8 rfl (lv_at hl 1 rfl) ?_
  refine lv_tableIn (off := 43) (tgt := 52) hx hb dB_count_9 (by decide) (by decide) (by decide) (by decide) ?_
  refine lv_aload_n hx hb dB_count_52 rfl (lv_at hl 0 rfl) ?_
  refine va_get (D := D) (ci := 0) (v := .int (-1)) (C := "ValueBench") (T := TB) (N := 8) hx hb htx inB hown hK hP 0 rfl rfl 6 (by decide) (htx _ kw_1_101) (fun _ h9 => h9) rfl dB_count_53 ?_
  obtain ⟨hP9, hD9⟩ := xsub (wc := [(a0, .inr (0, [v1, v2, v3, v4, v5, v6, .int (-1), v7]))]) hP hD [0] rfl rfl (by decide)
  refine W.widen (k := 0) (n := 0) (Nat.le_of_ble_eq_true rfl) (Nat.le_of_ble_eq_true rfl) ?_
  exact W.iret (v := (-1)) hx hb hr (fun t ht hW => ⟨⟨(-1), (), rfl, rfl, by rw [ht]; exact hP9, va_K.moved hW.alike hK, hD9⟩, hS.F ht⟩) hS.2.2 dB_count_56
set_option maxHeartbeats 400000000 in
set_option maxRecDepth 100000 in
theorem cL_count_2 (l : Launch) (hl9 : l.stackTraces = false) (D : va_G) (cT : Nat → ClassId) (aK aV : Nat → Nat) (sz : Nat) (a0 : Nat) (a1 : Nat) (v2 : Value) (v3 : Value) (v4 : Value) (v5 : Value) (v6 : Value) (v7 : Value) (v8 : Value) (f9 : Nat → Int64) : xMet l yL_count wyL_count 2 0 0 42 D cT aK aV sz [.ref a0, .int 2, .ref a1] [(a0, .inr (0, [v2, v3, v4, v5, v6, v7, .int (-1), v8])), (a1, .inl (cT 2, 1, .inr (.inl f9)))] (fun A => va_Qi (fun (r : Int32) (_ : Unit) => r = 0) (fun _ t => xB D xcl cT A [(a0, .inr (0, [v2, v3, v4, v5, v6, v7, .int (-1), v8])), (a1, .inl (cT 2, 1, .inr (.inl (vp_updL f9 0 (-1)))))] t) A) := by
  refine va_MetW (cc := method_14_code) (maxL := 4) (ret := (some .int)) (hh := [(0, 9, 12, 19)]) (by decide) rfl ?_
  intro p e s m args below meth c s₁ B hml hv
  obtain ⟨rfl, hsz, hZ, hP, hK, hD0⟩ := hv
  have hx := B.exec
  have hb := B.bytes
  have hr := B.returns
  have hts := atoms_spec (ws := wyL_count) B.pre
  have htx := fun w h => hts w (List.mem_cons_of_mem _ h)
  have hown : s.vm.findClass "ValueBenchLaw" = some m.cls := findClass_of_methodNamed B.named
  have hlocks := B.notSynchronized
  subst hsz
  have hD := hD0.self (sz := s.heap.size)
  generalize hAe : va_A [(a0, .inr (0, [v2, v3, v4, v5, v6, v7, .int (-1), v8])), (a1, .inl (cT 2, 1, .inr (.inl f9)))] s.heap.size = A at hD hZ ⊢
  have hA : ∀ q : Nat, s.heap.size ≤ q → A q := fun q h => by rw [← hAe]; exact Or.inr h
  have hS : va_S A s.heap s.heap [] := va_S.rf
  have hP : va_P D xcl [(a0, .inr (0, [v2, v3, v4, v5, v6, v7, .int (-1), v8])), (a1, .inl (cT 2, 1, .inr (.inl f9)))] s.heap := hP
  have hl := lv_entry ([.ref a0, .int 2, .ref a1]) (n := 4) (Nat.le_of_ble_eq_true rfl)
  rw [lg_entry_eq]
  generalize (lg_sl ([.ref a0, .int 2, .ref a1]) ++ List.replicate (4 - (lg_sl ([.ref a0, .int 2, .ref a1])).length) Slot.unset).toArray = ls at hl ⊢
  have hl : lv_has ls 4 [(0, .ref a0), (1, .int 2), (2, .ref a1)] := hl
  have htab := vx_table (x := yL_count) B (hts _ List.mem_cons_self)
  refine lv_aload_n hx hb dL_count_0 rfl (lv_at hl 2 rfl) ?_
  refine lv_iconst (v := 0) hx hb dL_count_1 (by decide) ?_
  refine lv_aload_n hx hb dL_count_2 rfl (lv_at hl 0 rfl) ?_
  refine lv_iload_n hx hb dL_count_3 rfl (lv_at hl 1 rfl) ?_
  obtain ⟨hPc, hDc, hFc⟩ := xcut (wc := [(a0, .inr (0, [v2, v3, v4, v5, v6, v7, .int (-1), v8]))]) hP hD hS hA [0] rfl rfl (by decide)
  refine va_calli (va_runV (C := "ValueBench") (As := [.int 2]) (rest := [.int 0, .ref a1]) ⟨hx, hb, hml, hown, htx⟩ (cB_count_2 l hl9 D cT aK aV s.heap.size a0 v2 v3 v4 v5 v6 v7 v8) ⟨callB_of 1 htx (xw_goodC kw_5_73) rfl rfl rfl (htx _ kw_1_1) (htx _ kw_5_70) ⟨by decide, by decide, by decide +kernel⟩ ⟨Nat.le_of_ble_eq_true rfl, Nat.le_of_ble_eq_true rfl⟩, (htx _ kw_5_71), (htx _ kw_5_72)⟩ ⟨xPre_blind, va_recv hK hP (ci := 0) rfl (q0 := 0) rfl, (fun U hU hW => ⟨rfl, xPre_of hZ hS hFc hPc hDc hK U hU hW⟩)⟩ rfl rfl hl.1 rfl (lv_room (Nat.le_of_ble_eq_true rfl)) dL_count_4 ⟨Nat.le_of_ble_eq_true rfl, Nat.le_of_ble_eq_true rfl⟩) hS (fun q _ h => hFc q h) hFc (fun r1 u9 t H1 locs ht hvm hr9 hB hz1 hk1 hS => ?_)
  obtain ⟨hP1, hK1, hD1⟩ := hB
  rw [ht] at hP1
  obtain ⟨hP, hD⟩ := xjoin (W := [(a1, .inl (cT 2, 1, .inr (.inl f9))), (a0, .inr (0, [v2, v3, v4, v5, v6, v7, .int (-1), v8]))]) hP hD [0] [1] 1 rfl rfl (by decide) (by decide) hk1 hFc hP1 hD1
  generalize H1 = H at hP hS ⊢
  rw [hr9]
  refine W.eq (g2 := F0 m 7 ls [.int (-1), .int 0, .ref a1]) rfl ?_
  refine lv_i2l hx hb dL_count_7 rfl ?_
  refine W.eq (g2 := F0 m 8 ls [.long (-1), .int 0, .ref a1]) rfl ?_
  refine va_last hx hb hK hP hD hS 0 2 rfl rfl (show ¬ ((0 : Int32) < 0 ∨ 1 ≤ (0 : Int32).toNatClampNeg) by decide) dL_count_8 (fun H locs hP hD hS => ?_)
  obtain ⟨hP, hD⟩ : xPD D xcl A [(a1, .inl (cT 2, 1, .inr (.inl (vp_updL f9 0 (-1))))), (a0, .inr (0, [v2, v3, v4, v5, v6, v7, .int (-1), v8]))] H := ⟨hP, hD⟩
  refine lv_goto (tgt := 15) hx hb dL_count_9 (by decide) ?_
  refine lv_iconst (v := 0) hx hb dL_count_15 (by decide) ?_
  obtain ⟨hP9, hD9⟩ := xsub (wc := [(a0, .inr (0, [v2, v3, v4, v5, v6, v7, .int (-1), v8])), (a1, .inl (cT 2, 1, .inr (.inl (vp_updL f9 0 (-1)))))]) hP hD [1, 0] rfl rfl (by decide)
  refine W.widen (k := 0) (n := 0) (Nat.le_of_ble_eq_true rfl) (Nat.le_of_ble_eq_true rfl) ?_
  exact W.iret (v := 0) hx hb hr (fun t ht hW => ⟨⟨0, (), rfl, rfl, by rw [ht]; exact hP9, va_K.moved hW.alike hK, hD9⟩, hS.F ht⟩) hS.2.2 dL_count_16
set_option maxHeartbeats 400000000 in
set_option maxRecDepth 100000 in
theorem cB_isWithin_6 (l : Launch) (hl9 : l.stackTraces = false) (D : va_G) (cT : Nat → ClassId) (aK aV : Nat → Nat) (sz : Nat) : xMet l yB_isWithin wyB_isWithin 0 0 0 0 D cT aK aV sz [.int 3, .int 3] [] (fun A => va_Qi (fun (r : Int32) (_ : Unit) => r = 1) (fun _ t => xB D xcl cT A [] t) A) := by
  refine Met.ofW (cc := prog_1_method_15_code) (maxL := 2) (ret := (some .boolean)) (by decide) rfl ?_
  intro p e s m args below meth c s₁ B hml hv
  obtain ⟨rfl, hsz, hZ, hP, hK, hD0⟩ := hv
  have hx := B.exec
  have hb := B.bytes
  have hr := B.returns
  have hts := atoms_spec (ws := wyB_isWithin) B.pre
  have htx := fun w h => hts w (List.mem_cons_of_mem _ h)
  have hown : s.vm.findClass "ValueBench" = some m.cls := findClass_of_methodNamed B.named
  have hlocks := B.notSynchronized
  subst hsz
  have hD := hD0.self (sz := s.heap.size)
  generalize hAe : va_A [] s.heap.size = A at hD hZ ⊢
  have hA : ∀ q : Nat, s.heap.size ≤ q → A q := fun q h => by rw [← hAe]; exact Or.inr h
  have hS : va_S A s.heap s.heap [] := va_S.rf
  have hP : va_P D xcl [] s.heap := hP
  have hl := lv_entry ([.int 3, .int 3]) (n := 2) (Nat.le_of_ble_eq_true rfl)
  rw [lg_entry_eq]
  generalize (lg_sl ([.int 3, .int 3]) ++ List.replicate (2 - (lg_sl ([.int 3, .int 3])).length) Slot.unset).toArray = ls at hl ⊢
  have hl : lv_has ls 2 [(0, .int 3), (1, .int 3)] := hl
  refine lv_iload_n hx hb dB_isWithin_0 rfl (lv_at hl 0 rfl) ?_
  refine lv_if_lt (tgt := 13) hx hb dB_isWithin_1 (by decide) (fun h => ((by revert h; decide : False)).elim) (fun _ => ?_)
  refine lv_iload_n hx hb dB_isWithin_4 rfl (lv_at hl 0 rfl) ?_
  refine lv_iload_n hx hb dB_isWithin_5 rfl (lv_at hl 1 rfl) ?_
  refine lv_icmp_gt (tgt := 13) hx hb dB_isWithin_6 (by decide) (fun h => ((by revert h; decide : False)).elim) (fun _ => ?_)
  refine lv_iconst (v := 1) hx hb dB_isWithin_9 (by decide) ?_
  refine lv_goto (tgt := 14) hx hb dB_isWithin_10 (by decide) ?_
  obtain ⟨hP9, hD9⟩ := xsub (wc := []) hP hD [] rfl rfl (by decide)
  refine W.widen (k := 0) (n := 0) (Nat.le_of_ble_eq_true rfl) (Nat.le_of_ble_eq_true rfl) ?_
  exact W.zret (v := 1) hx hb hr rfl (fun t ht hW => ⟨⟨1, (), rfl, rfl, by rw [ht]; exact hP9, va_K.moved hW.alike hK, hD9⟩, hS.F ht⟩) hS.2.2 dB_isWithin_14
