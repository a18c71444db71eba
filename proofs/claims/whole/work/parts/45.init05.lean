set_option maxHeartbeats 400000000 in
set_option maxRecDepth 100000 in
theorem cT_init_0 (l : Launch) (hl9 : l.stackTraces = false) (D : va_G) (cT : Nat → ClassId) (aK aV : Nat → Nat) (sz : Nat) (a0 : Nat) (v1 : Value) (v2 : Value) (v3 : Value) : xMet l yT_init wyT_init 1 1 4096 12 D cT aK aV sz [.ref a0] [(a0, .inr (1, [v1, v2, v3]))] (fun A => va_Qv (fun _ : Unit => True) (fun _ t => ∃ (q1 : Nat), xB D xcl cT A [(a0, .inr (1, [.ref q1, .int 0, .int 0])), (q1, .inl (cT 0, 4096, .inl (fun _ => 0)))] t) A) := by
  refine Met.ofW (cc := prog_11_method_1_code) (maxL := 1) (ret := none) (by decide) rfl ?_
  intro p e s m args below meth c s₁ B hml hv
  obtain ⟨rfl, hsz, hZ, hP, hK, hD0⟩ := hv
  have hx := B.exec
  have hb := B.bytes
  have hr := B.returns
  have hts := atoms_spec (ws := wyT_init) B.pre
  have htx := fun w h => hts w (List.mem_cons_of_mem _ h)
  have hown : s.vm.findClass "ValueBench$Text" = some m.cls := findClass_of_methodNamed B.named
  have hlocks := B.notSynchronized
  have hin : meth.name = "<init>" := (name_of_methodNamed B.named B.method).1
  subst hsz
  have hD := hD0.self (sz := s.heap.size)
  generalize hAe : va_A [(a0, .inr (1, [v1, v2, v3]))] s.heap.size = A at hD hZ ⊢
  have hA : ∀ q : Nat, s.heap.size ≤ q → A q := fun q h => by rw [← hAe]; exact Or.inr h
  have hS : va_S A s.heap s.heap [] := va_S.rf
  have hP : va_P D xcl [(a0, .inr (1, [v1, v2, v3]))] s.heap := hP
  have hl := lv_entry ([.ref a0]) (n := 1) (Nat.le_of_ble_eq_true rfl)
  rw [lg_entry_eq]
  generalize (lg_sl ([.ref a0]) ++ List.replicate (1 - (lg_sl ([.ref a0])).length) Slot.unset).toArray = ls at hl ⊢
  have hl : lv_has ls 1 [(0, .ref a0)] := hl
  refine lv_aload_n hx hb dT_init_0 rfl (lv_at hl 0 rfl) ?_
  refine W.objInit hx hb hown (htx _ kw_1_42) (htx _ kw_1_35) (htx _ kw_1_36) rfl (by rw [hml]; exact hl.1) rfl dT_init_1 (Nat.le_of_ble_eq_true rfl) (Nat.le_of_ble_eq_true rfl) ?_
  refine W.eq (g2 := F0 m 4 ls []) rfl ?_
  refine lv_aload_n hx hb dT_init_4 rfl (lv_at hl 0 rfl) ?_
  refine lv_sipush (v := 4096) hx hb dT_init_5 (by decide) ?_
  refine va_newa (atype := .byte) (N' := 4096) (a0 := (4096, .inl (fun _ => 0))) (ty := .byte) (n := 4096) hx hb (htx _ kw_1_53) rfl hK hP hD hS hA (fun _ => rfl) (by decide) (by decide) (by decide) (Nat.le_of_ble_eq_true rfl) (Nat.le_of_ble_eq_true rfl) dT_init_8 (fun q1 cA9 H hK9 hP hD hS => ?_)
  obtain rfl := xk_eq hK9 0 rfl
  obtain ⟨hP, hD⟩ : xPD D xcl A [(a0, .inr (1, [v1, v2, v3])), (q1, .inl (cT 0, 4096, .inl (fun _ => 0)))] H := ⟨hP, hD⟩
  refine va_putF (D := D) (ci := 1) (v := .ref q1) (ty := (.array .byte)) (C := "ValueBench$Text") (T := TT) (N := 3) hx hb htx inT tyT tyT_ok nmT hown hK hP hD hS 0 rfl rfl 0 (by decide) (htx _ kw_1_43) (fun _ h9 => h9) rfl hin rfl (by decide +kernel) rfl rfl (Nat.le_of_ble_eq_true rfl) dT_init_10 (fun H locs hP hD hS => ?_)
  obtain ⟨hP, hD⟩ : xPD D xcl A [(a0, .inr (1, [.ref q1, v2, v3])), (q1, .inl (cT 0, 4096, .inl (fun _ => 0)))] H := ⟨hP, hD⟩
  refine lv_aload_n hx hb dT_init_13 rfl (lv_at hl 0 rfl) ?_
  refine lv_iconst (v := 0) hx hb dT_init_14 (by decide) ?_
  refine va_put (D := D) (ci := 1) (v := .int 0) (ty := .int) (C := "ValueBench$Text") (T := TT) (N := 3) hx hb htx inT tyT tyT_ok nmT hown hK hP hD hS 0 rfl rfl 1 (by decide) (htx _ kw_1_44) (fun _ h9 => h9) rfl (by decide +kernel) rfl rfl (Nat.le_of_ble_eq_true rfl) dT_init_15 (fun H locs hP hD hS => ?_)
  obtain ⟨hP, hD⟩ : xPD D xcl A [(a0, .inr (1, [.ref q1, .int 0, v3])), (q1, .inl (cT 0, 4096, .inl (fun _ => 0)))] H := ⟨hP, hD⟩
  refine lv_aload_n hx hb dT_init_18 rfl (lv_at hl 0 rfl) ?_
  refine lv_iconst (v := 0) hx hb dT_init_19 (by decide) ?_
  refine va_put (D := D) (ci := 1) (v := .int 0) (ty := .boolean) (C := "ValueBench$Text") (T := TT) (N := 3) hx hb htx inT tyT tyT_ok nmT hown hK hP hD hS 0 rfl rfl 2 (by decide) (htx _ kw_1_45) (fun _ h9 => h9) rfl (by decide +kernel) rfl rfl (Nat.le_of_ble_eq_true rfl) dT_init_20 (fun H locs hP hD hS => ?_)
  obtain ⟨hP, hD⟩ : xPD D xcl A [(a0, .inr (1, [.ref q1, .int 0, .int 0])), (q1, .inl (cT 0, 4096, .inl (fun _ => 0)))] H := ⟨hP, hD⟩
  obtain ⟨hP9, hD9⟩ := xsub (wc := [(a0, .inr (1, [.ref q1, .int 0, .int 0])), (q1, .inl (cT 0, 4096, .inl (fun _ => 0)))]) hP hD [0, 1] rfl rfl (by decide)
  refine W.widen (k := 1) (n := 4096) (Nat.le_of_ble_eq_true rfl) (Nat.le_of_ble_eq_true rfl) ?_
  exact W.vret hx hb hr (fun t ht hW => ⟨⟨(), rfl, trivial, q1, by rw [ht]; exact hP9, va_K.moved hW.alike hK, hD9⟩, hS.F ht⟩) hS.2.2 dT_init_23
set_option maxHeartbeats 400000000 in
set_option maxRecDepth 100000 in
theorem cS_init_0 (l : Launch) (hl9 : l.stackTraces = false) (D : va_G) (cT : Nat → ClassId) (aK aV : Nat → Nat) (sz : Nat) (a0 : Nat) (v1 : Value) (v2 : Value) (v3 : Value) (v4 : Value) (v5 : Value) : xMet l yS_init wyS_init 1 4 8192 12 D cT aK aV sz [.ref a0] [(a0, .inr (3, [v1, v2, v3, v4, v5]))] (fun A => va_Qv (fun _ : Unit => True) (fun _ t => ∃ (q1 : Nat) (q2 : Nat) (q3 : Nat) (q4 : Nat), xB D xcl cT A [(a0, .inr (3, [.ref q1, .ref q2, .ref q3, .ref q4, .int 0])), (q1, .inl (cT 1, 2048, .inl (fun _ => 0))), (q2, .inl (cT 1, 2048, .inl (fun _ => 0))), (q3, .inl (cT 1, 2048, .inl (fun _ => 0))), (q4, .inl (cT 1, 2048, .inl (fun _ => 0)))] t) A) := by
  refine Met.ofW (cc := prog_10_method_1_code) (maxL := 1) (ret := none) (by decide) rfl ?_
  intro p e s m args below meth c s₁ B hml hv
  obtain ⟨rfl, hsz, hZ, hP, hK, hD0⟩ := hv
  have hx := B.exec
  have hb := B.bytes
  have hr := B.returns
  have hts := atoms_spec (ws := wyS_init) B.pre
  have htx := fun w h => hts w (List.mem_cons_of_mem _ h)
  have hown : s.vm.findClass "ValueBench$Sorter" = some m.cls := findClass_of_methodNamed B.named
  have hlocks := B.notSynchronized
  have hin : meth.name = "<init>" := (name_of_methodNamed B.named B.method).1
  subst hsz
  have hD := hD0.self (sz := s.heap.size)
  generalize hAe : va_A [(a0, .inr (3, [v1, v2, v3, v4, v5]))] s.heap.size = A at hD hZ ⊢
  have hA : ∀ q : Nat, s.heap.size ≤ q → A q := fun q h => by rw [← hAe]; exact Or.inr h
  have hS : va_S A s.heap s.heap [] := va_S.rf
  have hP : va_P D xcl [(a0, .inr (3, [v1, v2, v3, v4, v5]))] s.heap := hP
  have hl := lv_entry ([.ref a0]) (n := 1) (Nat.le_of_ble_eq_true rfl)
  rw [lg_entry_eq]
  generalize (lg_sl ([.ref a0]) ++ List.replicate (1 - (lg_sl ([.ref a0])).length) Slot.unset).toArray = ls at hl ⊢
  have hl : lv_has ls 1 [(0, .ref a0)] := hl
  refine lv_aload_n hx hb dS_init_0 rfl (lv_at hl 0 rfl) ?_
  refine W.objInit hx hb hown (htx _ kw_1_61) (htx _ kw_1_35) (htx _ kw_1_36) rfl (by rw [hml]; exact hl.1) rfl dS_init_1 (Nat.le_of_ble_eq_true rfl) (Nat.le_of_ble_eq_true rfl) ?_
  refine W.eq (g2 := F0 m 4 ls []) rfl ?_
  refine lv_aload_n hx hb dS_init_4 rfl (lv_at hl 0 rfl) ?_
  refine lv_sipush (v := 2048) hx hb dS_init_5 (by decide) ?_
  refine va_newa (atype := .int) (N' := 2048) (a0 := (2048, .inl (fun _ => 0))) (ty := .int) (n := 2048) hx hb (htx _ kw_1_78) rfl hK hP hD hS hA (fun _ => rfl) (by decide) (by decide) (by decide) (Nat.le_of_ble_eq_true rfl) (Nat.le_of_ble_eq_true rfl) dS_init_8 (fun q1 cA9 H hK9 hP hD hS => ?_)
  obtain rfl := xk_eq hK9 1 rfl
  obtain ⟨hP, hD⟩ : xPD D xcl A [(a0, .inr (3, [v1, v2, v3, v4, v5])), (q1, .inl (cT 1, 2048, .inl (fun _ => 0)))] H := ⟨hP, hD⟩
  refine va_putF (D := D) (ci := 3) (v := .ref q1) (ty := (.array .int)) (C := "ValueBench$Sorter") (T := TSo) (N := 5) hx hb htx inS tyS tyS_ok nmS hown hK hP hD hS 0 rfl rfl 0 (by decide) (htx _ kw_1_62) (fun _ h9 => h9) rfl hin rfl (by decide +kernel) rfl rfl (Nat.le_of_ble_eq_true rfl) dS_init_10 (fun H locs hP hD hS => ?_)
  obtain ⟨hP, hD⟩ : xPD D xcl A [(a0, .inr (3, [.ref q1, v2, v3, v4, v5])), (q1, .inl (cT 1, 2048, .inl (fun _ => 0)))] H := ⟨hP, hD⟩
  refine lv_aload_n hx hb dS_init_13 rfl (lv_at hl 0 rfl) ?_
  refine lv_sipush (v := 2048) hx hb dS_init_14 (by decide) ?_
  refine va_newa (atype := .int) (N' := 2048) (a0 := (2048, .inl (fun _ => 0))) (ty := .int) (n := 2048) hx hb (htx _ kw_1_78) rfl hK hP hD hS hA (fun _ => rfl) (by decide) (by decide) (by decide) (Nat.le_of_ble_eq_true rfl) (Nat.le_of_ble_eq_true rfl) dS_init_17 (fun q2 cA9 H hK9 hP hD hS => ?_)
  obtain rfl := xk_eq hK9 1 rfl
  obtain ⟨hP, hD⟩ : xPD D xcl A [(a0, .inr (3, [.ref q1, v2, v3, v4, v5])), (q1, .inl (cT 1, 2048, .inl (fun _ => 0))), (q2, .inl (cT 1, 2048, .inl (fun _ => 0)))] H := ⟨hP, hD⟩
  refine va_putF (D := D) (ci := 3) (v := .ref q2) (ty := (.array .int)) (C := "ValueBench$Sorter") (T := TSo) (N := 5) hx hb htx inS tyS tyS_ok nmS hown hK hP hD hS 0 rfl rfl 1 (by decide) (htx _ kw_1_63) (fun _ h9 => h9) rfl hin rfl (by decide +kernel) rfl rfl (Nat.le_of_ble_eq_true rfl) dS_init_19 (fun H locs hP hD hS => ?_)
  obtain ⟨hP, hD⟩ : xPD D xcl A [(a0, .inr (3, [.ref q1, .ref q2, v3, v4, v5])), (q1, .inl (cT 1, 2048, .inl (fun _ => 0))), (q2, .inl (cT 1, 2048, .inl (fun _ => 0)))] H := ⟨hP, hD⟩
  refine lv_aload_n hx hb dS_init_22 rfl (lv_at hl 0 rfl) ?_
  refine lv_sipush (v := 2048) hx hb dS_init_23 (by decide) ?_
  refine va_newa (atype := .int) (N' := 2048) (a0 := (2048, .inl (fun _ => 0))) (ty := .int) (n := 2048) hx hb (htx _ kw_1_78) rfl hK hP hD hS hA (fun _ => rfl) (by decide) (by decide) (by decide) (Nat.le_of_ble_eq_true rfl) (Nat.le_of_ble_eq_true rfl) dS_init_26 (fun q3 cA9 H hK9 hP hD hS => ?_)
  obtain rfl := xk_eq hK9 1 rfl
  obtain ⟨hP, hD⟩ : xPD D xcl A [(a0, .inr (3, [.ref q1, .ref q2, v3, v4, v5])), (q1, .inl (cT 1, 2048, .inl (fun _ => 0))), (q2, .inl (cT 1, 2048, .inl (fun _ => 0))), (q3, .inl (cT 1, 2048, .inl (fun _ => 0)))] H := ⟨hP, hD⟩
  refine va_put (D := D) (ci := 3) (v := .ref q3) (ty := (.array .int)) (C := "ValueBench$Sorter") (T := TSo) (N := 5) hx hb htx inS tyS tyS_ok nmS hown hK hP hD hS 0 rfl rfl 2 (by decide) (htx _ kw_1_64) (fun _ h9 => h9) rfl (by decide +kernel) rfl rfl (Nat.le_of_ble_eq_true rfl) dS_init_28 (fun H locs hP hD hS => ?_)
  obtain ⟨hP, hD⟩ : xPD D xcl A [(a0, .inr (3, [.ref q1, .ref q2, .ref q3, v4, v5])), (q1, .inl (cT 1, 2048, .inl (fun _ => 0))), (q2, .inl (cT 1, 2048, .inl (fun _ => 0))), (q3, .inl (cT 1, 2048, .inl (fun _ => 0)))] H := ⟨hP, hD⟩
  refine lv_aload_n hx hb dS_init_31 rfl (lv_at hl 0 rfl) ?_
  refine lv_sipush (v := 2048) hx hb dS_init_32 (by decide) ?_
  refine va_newa (atype := .int) (N' := 2048) (a0 := (2048, .inl (fun _ => 0))) (ty := .int) (n := 2048) hx hb (htx _ kw_1_78) rfl hK hP hD hS hA (fun _ => rfl) (by decide) (by decide) (by decide) (Nat.le_of_ble_eq_true rfl) (Nat.le_of_ble_eq_true rfl) dS_init_35 (fun q4 cA9 H hK9 hP hD hS => ?_)
  obtain rfl := xk_eq hK9 1 rfl
  obtain ⟨hP, hD⟩ : xPD D xcl A [(a0, .inr (3, [.ref q1, .ref q2, .ref q3, v4, v5])), (q1, .inl (cT 1, 2048, .inl (fun _ => 0))), (q2, .inl (cT 1, 2048, .inl (fun _ => 0))), (q3, .inl (cT 1, 2048, .inl (fun _ => 0))), (q4, .inl (cT 1, 2048, .inl (fun _ => 0)))] H := ⟨hP, hD⟩
  refine va_put (D := D) (ci := 3) (v := .ref q4) (ty := (.array .int)) (C := "ValueBench$Sorter") (T := TSo) (N := 5) hx hb htx inS tyS tyS_ok nmS hown hK hP hD hS 0 rfl rfl 3 (by decide) (htx _ kw_1_65) (fun _ h9 => h9) rfl (by decide +kernel) rfl rfl (Nat.le_of_ble_eq_true rfl) dS_init_37 (fun H locs hP hD hS => ?_)
  obtain ⟨hP, hD⟩ : xPD D xcl A [(a0, .inr (3, [.ref q1, .ref q2, .ref q3, .ref q4, v5])), (q1, .inl (cT 1, 2048, .inl (fun _ => 0))), (q2, .inl (cT 1, 2048, .inl (fun _ => 0))), (q3, .inl (cT 1, 2048, .inl (fun _ => 0))), (q4, .inl (cT 1, 2048, .inl (fun _ => 0)))] H := ⟨hP, hD⟩
  refine lv_aload_n hx hb dS_init_40 rfl (lv_at hl 0 rfl) ?_
  refine lv_iconst (v := 0) hx hb dS_init_41 (by decide) ?_
  refine va_put (D := D) (ci := 3) (v := .int 0) (ty := .int) (C := "ValueBench$Sorter") (T := TSo) (N := 5) hx hb htx inS tyS tyS_ok nmS hown hK hP hD hS 0 rfl rfl 4 (by decide) (htx _ kw_1_66) (fun _ h9 => h9) rfl (by decide +kernel) rfl rfl (Nat.le_of_ble_eq_true rfl) dS_init_42 (fun H locs hP hD hS => ?_)
  obtain ⟨hP, hD⟩ : xPD D xcl A [(a0, .inr (3, [.ref q1, .ref q2, .ref q3, .ref q4, .int 0])), (q1, .inl (cT 1, 2048, .inl (fun _ => 0))), (q2, .inl (cT 1, 2048, .inl (fun _ => 0))), (q3, .inl (cT 1, 2048, .inl (fun _ => 0))), (q4, .inl (cT 1, 2048, .inl (fun _ => 0)))] H := ⟨hP, hD⟩
  obtain ⟨hP9, hD9⟩ := xsub (wc := [(a0, .inr (3, [.ref q1, .ref q2, .ref q3, .ref q4, .int 0])), (q1, .inl (cT 1, 2048, .inl (fun _ => 0))), (q2, .inl (cT 1, 2048, .inl (fun _ => 0))), (q3, .inl (cT 1, 2048, .inl (fun _ => 0))), (q4, .inl (cT 1, 2048, .inl (fun _ => 0)))]) hP hD [0, 1, 2, 3, 4] rfl rfl (by decide)
  refine W.widen (k := 4) (n := 8192) (Nat.le_of_ble_eq_true rfl) (Nat.le_of_ble_eq_true rfl) ?_
  exact W.vret hx hb hr (fun t ht hW => ⟨⟨(), rfl, trivial, q1, q2, q3, q4, by rw [ht]; exact hP9, va_K.moved hW.alike hK, hD9⟩, hS.F ht⟩) hS.2.2 dS_init_45
set_option maxHeartbeats 400000000 in
set_option maxRecDepth 100000 in
theorem cR_init_0 (l : Launch) (hl9 : l.stackTraces = false) (D : va_G) (cT : Nat → ClassId) (aK aV : Nat → Nat) (sz : Nat) (a0 : Nat) (v1 : Value) (v2 : Value) (v3 : Value) : xMet l yR_init wyR_init 1 1 4096 12 D cT aK aV sz [.ref a0] [(a0, .inr (2, [v1, v2, v3]))] (fun A => va_Qv (fun _ : Unit => True) (fun _ t => ∃ (q1 : Nat), xB D xcl cT A [(a0, .inr (2, [.ref q1, .int 1, .int 0])), (q1, .inl (cT 2, 4096, .inr (.inl (fun _ => 0))))] t) A) := by
  refine Met.ofW (cc := prog_8_method_1_code) (maxL := 1) (ret := none) (by decide) rfl ?_
  intro p e s m args below meth c s₁ B hml hv
  obtain ⟨rfl, hsz, hZ, hP, hK, hD0⟩ := hv
  have hx := B.exec
  have hb := B.bytes
  have hr := B.returns
  have hts := atoms_spec (ws := wyR_init) B.pre
  have htx := fun w h => hts w (List.mem_cons_of_mem _ h)
  have hown : s.vm.findClass "ValueBench$Row" = some m.cls := findClass_of_methodNamed B.named
  have hlocks := B.notSynchronized
  have hin : meth.name = "<init>" := (name_of_methodNamed B.named B.method).1
  subst hsz
  have hD := hD0.self (sz := s.heap.size)
  generalize hAe : va_A [(a0, .inr (2, [v1, v2, v3]))] s.heap.size = A at hD hZ ⊢
  have hA : ∀ q : Nat, s.heap.size ≤ q → A q := fun q h => by rw [← hAe]; exact Or.inr h
  have hS : va_S A s.heap s.heap [] := va_S.rf
  have hP : va_P D xcl [(a0, .inr (2, [v1, v2, v3]))] s.heap := hP
  have hl := lv_entry ([.ref a0]) (n := 1) (Nat.le_of_ble_eq_true rfl)
  rw [lg_entry_eq]
  generalize (lg_sl ([.ref a0]) ++ List.replicate (1 - (lg_sl ([.ref a0])).length) Slot.unset).toArray = ls at hl ⊢
  have hl : lv_has ls 1 [(0, .ref a0)] := hl
  refine lv_aload_n hx hb dR_init_0 rfl (lv_at hl 0 rfl) ?_
  refine W.objInit hx hb hown (htx _ kw_1_83) (htx _ kw_1_35) (htx _ kw_1_36) rfl (by rw [hml]; exact hl.1) rfl dR_init_1 (Nat.le_of_ble_eq_true rfl) (Nat.le_of_ble_eq_true rfl) ?_
  refine W.eq (g2 := F0 m 4 ls []) rfl ?_
  refine lv_aload_n hx hb dR_init_4 rfl (lv_at hl 0 rfl) ?_
  refine lv_sipush (v := 4096) hx hb dR_init_5 (by decide) ?_
  refine va_newa (atype := .long) (N' := 4096) (a0 := (4096, .inr (.inl (fun _ => 0)))) (ty := .long) (n := 4096) hx hb (htx _ kw_1_94) rfl hK hP hD hS hA (fun _ => rfl) (by decide) (by decide) (by decide) (Nat.le_of_ble_eq_true rfl) (Nat.le_of_ble_eq_true rfl) dR_init_8 (fun q1 cA9 H hK9 hP hD hS => ?_)
  obtain rfl := xk_eq hK9 2 rfl
  obtain ⟨hP, hD⟩ : xPD D xcl A [(a0, .inr (2, [v1, v2, v3])), (q1, .inl (cT 2, 4096, .inr (.inl (fun _ => 0))))] H := ⟨hP, hD⟩
  refine va_putF (D := D) (ci := 2) (v := .ref q1) (ty := (.array .long)) (C := "ValueBench$Row") (T := TR) (N := 3) hx hb htx inR tyR tyR_ok nmR hown hK hP hD hS 0 rfl rfl 0 (by decide) (htx _ kw_1_84) (fun _ h9 => h9) rfl hin rfl (by decide +kernel) rfl rfl (Nat.le_of_ble_eq_true rfl) dR_init_10 (fun H locs hP hD hS => ?_)
  obtain ⟨hP, hD⟩ : xPD D xcl A [(a0, .inr (2, [.ref q1, v2, v3])), (q1, .inl (cT 2, 4096, .inr (.inl (fun _ => 0))))] H := ⟨hP, hD⟩
  refine lv_aload_n hx hb dR_init_13 rfl (lv_at hl 0 rfl) ?_
  refine lv_iconst (v := 1) hx hb dR_init_14 (by decide) ?_
  refine va_put (D := D) (ci := 2) (v := .int 1) (ty := .int) (C := "ValueBench$Row") (T := TR) (N := 3) hx hb htx inR tyR tyR_ok nmR hown hK hP hD hS 0 rfl rfl 1 (by decide) (htx _ kw_1_85) (fun _ h9 => h9) rfl (by decide +kernel) rfl rfl (Nat.le_of_ble_eq_true rfl) dR_init_15 (fun H locs hP hD hS => ?_)
  obtain ⟨hP, hD⟩ : xPD D xcl A [(a0, .inr (2, [.ref q1, .int 1, v3])), (q1, .inl (cT 2, 4096, .inr (.inl (fun _ => 0))))] H := ⟨hP, hD⟩
  refine lv_aload_n hx hb dR_init_18 rfl (lv_at hl 0 rfl) ?_
  refine lv_iconst (v := 0) hx hb dR_init_19 (by decide) ?_
  refine va_put (D := D) (ci := 2) (v := .int 0) (ty := .boolean) (C := "ValueBench$Row") (T := TR) (N := 3) hx hb htx inR tyR tyR_ok nmR hown hK hP hD hS 0 rfl rfl 2 (by decide) (htx _ kw_1_86) (fun _ h9 => h9) rfl (by decide +kernel) rfl rfl (Nat.le_of_ble_eq_true rfl) dR_init_20 (fun H locs hP hD hS => ?_)
  obtain ⟨hP, hD⟩ : xPD D xcl A [(a0, .inr (2, [.ref q1, .int 1, .int 0])), (q1, .inl (cT 2, 4096, .inr (.inl (fun _ => 0))))] H := ⟨hP, hD⟩
  obtain ⟨hP9, hD9⟩ := xsub (wc := [(a0, .inr (2, [.ref q1, .int 1, .int 0])), (q1, .inl (cT 2, 4096, .inr (.inl (fun _ => 0))))]) hP hD [0, 1] rfl rfl (by decide)
  refine W.widen (k := 1) (n := 4096) (Nat.le_of_ble_eq_true rfl) (Nat.le_of_ble_eq_true rfl) ?_
  exact W.vret hx hb hr (fun t ht hW => ⟨⟨(), rfl, trivial, q1, by rw [ht]; exact hP9, va_K.moved hW.alike hK, hD9⟩, hS.F ht⟩) hS.2.2 dR_init_23
set_option maxHeartbeats 400000000 in
set_option maxRecDepth 100000 in
theorem cB_init_0 (l : Launch) (hl9 : l.stackTraces = false) (D : va_G) (cT : Nat → ClassId) (aK aV : Nat → Nat) (sz : Nat) (a0 : Nat) (v1 : Value) (v2 : Value) (v3 : Value) (v4 : Value) (v5 : Value) (v6 : Value) (v7 : Value) (v8 : Value) : xMet l yB_init wyB_init 2 30 57393 32 D cT aK aV sz [.ref a0] [(a0, .inr (0, [v1, v2, v3, v4, v5, v6, v7, v8]))] (fun A => va_Qv (fun _ : Unit => True) (fun _ t => ∃ (q1 : Nat) (q2 : Nat) (q3 : Nat) (q4 : Nat) (q5 : Nat) (q6 : Nat) (q7 : Nat) (q8 : Nat) (q9 : Nat) (q10 : Nat) (q11 : Nat) (q12 : Nat) (q13 : Nat) (q14 : Nat) (q15 : Nat) (q16 : Nat) (q17 : Nat) (q18 : Nat) (q19 : Nat) (q20 : Nat) (q21 : Nat) (q22 : Nat) (q23 : Nat) (q24 : Nat) (q25 : Nat) (q26 : Nat) (q27 : Nat) (q28 : Nat) (q29 : Nat) (q30 : Nat), xB D xcl cT A [(a0, .inr (0, [.ref q1, .ref q3, .ref q5, .ref q7, .ref q8, .ref q13, .int (-1), .int 0])), (q1, .inr (1, [.ref q2, .int 0, .int 0])), (q2, .inl (cT 0, 4096, .inl (fun _ => 0))), (q3, .inr (1, [.ref q4, .int 0, .int 0])), (q4, .inl (cT 0, 4096, .inl (fun _ => 0))), (q5, .inr (1, [.ref q6, .int 0, .int 0])), (q6, .inl (cT 0, 4096, .inl (fun _ => 0))), (q7, .inl (cT 3, 8, .inr (.inr (.inr (.inr (va_up (va_up (va_up (va_up (va_up (va_up (va_up (va_up (fun _ => none) 0 (some q15)) 1 (some q17)) 2 (some q19)) 3 (some q21)) 4 (some q23)) 5 (some q25)) 6 (some q27)) 7 (some q29))))))), (q8, .inr (3, [.ref q9, .ref q10, .ref q11, .ref q12, .int 0])), (q9, .inl (cT 1, 2048, .inl (fun _ => 0))), (q10, .inl (cT 1, 2048, .inl (fun _ => 0))), (q11, .inl (cT 1, 2048, .inl (fun _ => 0))), (q12, .inl (cT 1, 2048, .inl (fun _ => 0))), (q13, .inr (2, [.ref q14, .int 1, .int 0])), (q14, .inl (cT 2, 4096, .inr (.inl (fun _ => 0)))), (q15, .inr (2, [.ref q16, .int 1, .int 0])), (q16, .inl (cT 2, 4096, .inr (.inl (fun _ => 0)))), (q17, .inr (2, [.ref q18, .int 1, .int 0])), (q18, .inl (cT 2, 4096, .inr (.inl (fun _ => 0)))), (q19, .inr (2, [.ref q20, .int 1, .int 0])), (q20, .inl (cT 2, 4096, .inr (.inl (fun _ => 0)))), (q21, .inr (2, [.ref q22, .int 1, .int 0])), (q22, .inl (cT 2, 4096, .inr (.inl (fun _ => 0)))), (q23, .inr (2, [.ref q24, .int 1, .int 0])), (q24, .inl (cT 2, 4096, .inr (.inl (fun _ => 0)))), (q25, .inr (2, [.ref q26, .int 1, .int 0])), (q26, .inl (cT 2, 4096, .inr (.inl (fun _ => 0)))), (q27, .inr (2, [.ref q28, .int 1, .int 0])), (q28, .inl (cT 2, 4096, .inr (.inl (fun _ => 0)))), (q29, .inr (2, [.ref q30, .int 1, .int 0])), (q30, .inl (cT 2, 4096, .inr (.inl (fun _ => 0))))] t) A) := by
  refine Met.ofW (cc := prog_1_method_1_code) (maxL := 2) (ret := none) (by decide) rfl ?_
  intro p e s m args below meth c s₁ B hml hv
  obtain ⟨rfl, hsz, hZ, hP, hK, hD0⟩ := hv
  have hx := B.exec
  have hb := B.bytes
  have hr := B.returns
  have hts := atoms_spec (ws := wyB_init) B.pre
  have htx := fun w h => hts w (List.mem_cons_of_mem _ h)
  have hown : s.vm.findClass "ValueBench" = some m.cls := findClass_of_methodNamed B.named
  have hlocks := B.notSynchronized
  have hin : meth.name = "<init>" := (name_of_methodNamed B.named B.method).1
  subst hsz
  have hD := hD0.self (sz := s.heap.size)
  generalize hAe : va_A [(a0, .inr (0, [v1, v2, v3, v4, v5, v6, v7, v8]))] s.heap.size = A at hD hZ ⊢
  have hA : ∀ q : Nat, s.heap.size ≤ q → A q := fun q h => by rw [← hAe]; exact Or.inr h
  have hS : va_S A s.heap s.heap [] := va_S.rf
  have hP : va_P D xcl [(a0, .inr (0, [v1, v2, v3, v4, v5, v6, v7, v8]))] s.heap := hP
  have hl := lv_entry ([.ref a0]) (n := 2) (Nat.le_of_ble_eq_true rfl)
  rw [lg_entry_eq]
  generalize (lg_sl ([.ref a0]) ++ List.replicate (2 - (lg_sl ([.ref a0])).length) Slot.unset).toArray = ls at hl ⊢
  have hl : lv_has ls 2 [(0, .ref a0)] := hl
  refine lv_aload_n hx hb dB_init_0 rfl (lv_at hl 0 rfl) ?_
  refine W.objInit hx hb hown (htx _ kw_1_34) (htx _ kw_1_35) (htx _ kw_1_36) rfl (by rw [hml]; exact hl.1) rfl dB_init_1 (Nat.le_of_ble_eq_true rfl) (Nat.le_of_ble_eq_true rfl) ?_
  refine W.eq (g2 := F0 m 4 ls []) rfl ?_
  refine lv_aload_n hx hb dB_init_4 rfl (lv_at hl 0 rfl) ?_
  refine va_new (ci := 1) (fs := [.null, .int 0, .int 0]) (C := "ValueBench$Text") (T := TT) (N := 3) hx hb htx inT tyT tyT_ok hown (htx _ kw_1_37) (htx _ kw_1_38) (htx _ kw_1_2) hK hP hD hS hA rfl (by decide +kernel) (Nat.le_of_ble_eq_true rfl) (Nat.le_of_ble_eq_true rfl) dB_init_5 (fun q1 H hP hD hS => ?_)
  obtain ⟨hP, hD⟩ : xPD D xcl A [(a0, .inr (0, [v1, v2, v3, v4, v5, v6, v7, v8])), (q1, .inr (1, [.null, .int 0, .int 0]))] H := ⟨hP, hD⟩
  refine lv_dup hx hb dB_init_8 rfl ?_
  obtain ⟨hPc, hDc, hFc⟩ := xcut (wc := [(q1, .inr (1, [.null, .int 0, .int 0]))]) hP hD hS hA [1] rfl rfl (by decide)
  refine va_callv (va_runIN (As := []) (rest := [.ref q1, .ref a0]) ⟨hx, hb, hml, hown, htx⟩ (cT_init_0 l hl9 D cT aK aV H.size q1 .null (.int 0) (.int 0)) ⟨va_cnB (host := "ValueBench") 0 htx (xw_goodC kw_1_41) rfl rfl rfl (hZ.2.1 ("ValueBench", 9, yT_init) (List.mem_of_getElem? (i := 0) rfl)) (htx _ kw_1_2) ⟨by decide, by decide, by decide +kernel⟩ ⟨Nat.le_of_ble_eq_true rfl, Nat.le_of_ble_eq_true rfl⟩, rfl, (htx _ kw_1_40)⟩ ⟨xPre_blind, (fun U hU hW => ⟨rfl, xPre_of hZ hS hFc hPc hDc hK U hU hW⟩)⟩ rfl rfl hl.1 rfl (lv_room (Nat.le_of_ble_eq_true rfl)) dB_init_9 ⟨Nat.le_of_ble_eq_true rfl, Nat.le_of_ble_eq_true rfl⟩) hS (fun q _ h => hFc q h) hFc (fun u9 t H1 locs ht hvm hr9 hB hz1 hk1 hS => ?_)
  obtain ⟨q2, hP1, hK1, hD1⟩ := hB
  rw [ht] at hP1
  obtain ⟨hP, hD⟩ := xjoin (W := [(a0, .inr (0, [v1, v2, v3, v4, v5, v6, v7, v8])), (q1, .inr (1, [.ref q2, .int 0, .int 0])), (q2, .inl (cT 0, 4096, .inl (fun _ => 0)))]) hP hD [1] [0] 1 rfl rfl (by decide) (by decide) hk1 hFc hP1 hD1
  generalize H1 = H at hP hS ⊢
  refine va_putF (D := D) (ci := 0) (v := .ref q1) (ty := (.object "ValueBench$Text")) (C := "ValueBench") (T := TB) (N := 8) hx hb htx inB tyB tyB_ok nmB hown hK hP hD hS 0 rfl rfl 0 (by decide) (htx _ kw_1_95) (fun _ h9 => h9) rfl hin rfl (by decide +kernel) rfl rfl (Nat.le_of_ble_eq_true rfl) dB_init_12 (fun H locs hP hD hS => ?_)
  obtain ⟨hP, hD⟩ : xPD D xcl A [(a0, .inr (0, [.ref q1, v2, v3, v4, v5, v6, v7, v8])), (q1, .inr (1, [.ref q2, .int 0, .int 0])), (q2, .inl (cT 0, 4096, .inl (fun _ => 0)))] H := ⟨hP, hD⟩
  refine lv_aload_n hx hb dB_init_15 rfl (lv_at hl 0 rfl) ?_
  refine va_new (ci := 1) (fs := [.null, .int 0, .int 0]) (C := "ValueBench$Text") (T := TT) (N := 3) hx hb htx inT tyT tyT_ok hown (htx _ kw_1_37) (htx _ kw_1_38) (htx _ kw_1_2) hK hP hD hS hA rfl (by decide +kernel) (Nat.le_of_ble_eq_true rfl) (Nat.le_of_ble_eq_true rfl) dB_init_16 (fun q3 H hP hD hS => ?_)
  obtain ⟨hP, hD⟩ : xPD D xcl A [(a0, .inr (0, [.ref q1, v2, v3, v4, v5, v6, v7, v8])), (q1, .inr (1, [.ref q2, .int 0, .int 0])), (q2, .inl (cT 0, 4096, .inl (fun _ => 0))), (q3, .inr (1, [.null, .int 0, .int 0]))] H := ⟨hP, hD⟩
  refine lv_dup hx hb dB_init_19 rfl ?_
  obtain ⟨hPc, hDc, hFc⟩ := xcut (wc := [(q3, .inr (1, [.null, .int 0, .int 0]))]) hP hD hS hA [3] rfl rfl (by decide)
  refine va_callv (va_runIN (As := []) (rest := [.ref q3, .ref a0]) ⟨hx, hb, hml, hown, htx⟩ (cT_init_0 l hl9 D cT aK aV H.size q3 .null (.int 0) (.int 0)) ⟨va_cnB (host := "ValueBench") 0 htx (xw_goodC kw_1_41) rfl rfl rfl (hZ.2.1 ("ValueBench", 9, yT_init) (List.mem_of_getElem? (i := 0) rfl)) (htx _ kw_1_2) ⟨by decide, by decide, by decide +kernel⟩ ⟨Nat.le_of_ble_eq_true rfl, Nat.le_of_ble_eq_true rfl⟩, rfl, (htx _ kw_1_40)⟩ ⟨xPre_blind, (fun U hU hW => ⟨rfl, xPre_of hZ hS hFc hPc hDc hK U hU hW⟩)⟩ rfl rfl hl.1 rfl (lv_room (Nat.le_of_ble_eq_true rfl)) dB_init_20 ⟨Nat.le_of_ble_eq_true rfl, Nat.le_of_ble_eq_true rfl⟩) hS (fun q _ h => hFc q h) hFc (fun u9 t H1 locs ht hvm hr9 hB hz1 hk1 hS => ?_)
  obtain ⟨q4, hP1, hK1, hD1⟩ := hB
  rw [ht] at hP1
  obtain ⟨hP, hD⟩ := xjoin (W := [(a0, .inr (0, [.ref q1, v2, v3, v4, v5, v6, v7, v8])), (q1, .inr (1, [.ref q2, .int 0, .int 0])), (q2, .inl (cT 0, 4096, .inl (fun _ => 0))), (q3, .inr (1, [.ref q4, .int 0, .int 0])), (q4, .inl (cT 0, 4096, .inl (fun _ => 0)))]) hP hD [3] [0, 1, 2] 3 rfl rfl (by decide) (by decide) hk1 hFc hP1 hD1
  generalize H1 = H at hP hS ⊢
  refine va_putF (D := D) (ci := 0) (v := .ref q3) (ty := (.object "ValueBench$Text")) (C := "ValueBench") (T := TB) (N := 8) hx hb htx inB tyB tyB_ok nmB hown hK hP hD hS 0 rfl rfl 1 (by decide) (htx _ kw_1_96) (fun _ h9 => h9) rfl hin rfl (by decide +kernel) rfl rfl (Nat.le_of_ble_eq_true rfl) dB_init_23 (fun H locs hP hD hS => ?_)
  obtain ⟨hP, hD⟩ : xPD D xcl A [(a0, .inr (0, [.ref q1, .ref q3, v3, v4, v5, v6, v7, v8])), (q1, .inr (1, [.ref q2, .int 0, .int 0])), (q2, .inl (cT 0, 4096, .inl (fun _ => 0))), (q3, .inr (1, [.ref q4, .int 0, .int 0])), (q4, .inl (cT 0, 4096, .inl (fun _ => 0)))] H := ⟨hP, hD⟩
  refine lv_aload_n hx hb dB_init_26 rfl (lv_at hl 0 rfl) ?_
  refine va_new (ci := 1) (fs := [.null, .int 0, .int 0]) (C := "ValueBench$Text") (T := TT) (N := 3) hx hb htx inT tyT tyT_ok hown (htx _ kw_1_37) (htx _ kw_1_38) (htx _ kw_1_2) hK hP hD hS hA rfl (by decide +kernel) (Nat.le_of_ble_eq_true rfl) (Nat.le_of_ble_eq_true rfl) dB_init_27 (fun q5 H hP hD hS => ?_)
  obtain ⟨hP, hD⟩ : xPD D xcl A [(a0, .inr (0, [.ref q1, .ref q3, v3, v4, v5, v6, v7, v8])), (q1, .inr (1, [.ref q2, .int 0, .int 0])), (q2, .inl (cT 0, 4096, .inl (fun _ => 0))), (q3, .inr (1, [.ref q4, .int 0, .int 0])), (q4, .inl (cT 0, 4096, .inl (fun _ => 0))), (q5, .inr (1, [.null, .int 0, .int 0]))] H := ⟨hP, hD⟩
  refine lv_dup hx hb dB_init_30 rfl ?_
  obtain ⟨hPc, hDc, hFc⟩ := xcut (wc := [(q5, .inr (1, [.null, .int 0, .int 0]))]) hP hD hS hA [5] rfl rfl (by decide)
  refine va_callv (va_runIN (As := []) (rest := [.ref q5, .ref a0]) ⟨hx, hb, hml, hown, htx⟩ (cT_init_0 l hl9 D cT aK aV H.size q5 .null (.int 0) (.int 0)) ⟨va_cnB (host := "ValueBench") 0 htx (xw_goodC kw_1_41) rfl rfl rfl (hZ.2.1 ("ValueBench", 9, yT_init) (List.mem_of_getElem? (i := 0) rfl)) (htx _ kw_1_2) ⟨by decide, by decide, by decide +kernel⟩ ⟨Nat.le_of_ble_eq_true rfl, Nat.le_of_ble_eq_true rfl⟩, rfl, (htx _ kw_1_40)⟩ ⟨xPre_blind, (fun U hU hW => ⟨rfl, xPre_of hZ hS hFc hPc hDc hK U hU hW⟩)⟩ rfl rfl hl.1 rfl (lv_room (Nat.le_of_ble_eq_true rfl)) dB_init_31 ⟨Nat.le_of_ble_eq_true rfl, Nat.le_of_ble_eq_true rfl⟩) hS (fun q _ h => hFc q h) hFc (fun u9 t H1 locs ht hvm hr9 hB hz1 hk1 hS => ?_)
  obtain ⟨q6, hP1, hK1, hD1⟩ := hB
  rw [ht] at hP1
  obtain ⟨hP, hD⟩ := xjoin (W := [(a0, .inr (0, [.ref q1, .ref q3, v3, v4, v5, v6, v7, v8])), (q1, .inr (1, [.ref q2, .int 0, .int 0])), (q2, .inl (cT 0, 4096, .inl (fun _ => 0))), (q3, .inr (1, [.ref q4, .int 0, .int 0])), (q4, .inl (cT 0, 4096, .inl (fun _ => 0))), (q5, .inr (1, [.ref q6, .int 0, .int 0])), (q6, .inl (cT 0, 4096, .inl (fun _ => 0)))]) hP hD [5] [0, 1, 2, 3, 4] 5 rfl rfl (by decide) (by decide) hk1 hFc hP1 hD1
  generalize H1 = H at hP hS ⊢
  refine va_putF (D := D) (ci := 0) (v := .ref q5) (ty := (.object "ValueBench$Text")) (C := "ValueBench") (T := TB) (N := 8) hx hb htx inB tyB tyB_ok nmB hown hK hP hD hS 0 rfl rfl 2 (by decide) (htx _ kw_1_97) (fun _ h9 => h9) rfl hin rfl (by decide +kernel) rfl rfl (Nat.le_of_ble_eq_true rfl) dB_init_34 (fun H locs hP hD hS => ?_)
  obtain ⟨hP, hD⟩ : xPD D xcl A [(a0, .inr (0, [.ref q1, .ref q3, .ref q5, v4, v5, v6, v7, v8])), (q1, .inr (1, [.ref q2, .int 0, .int 0])), (q2, .inl (cT 0, 4096, .inl (fun _ => 0))), (q3, .inr (1, [.ref q4, .int 0, .int 0])), (q4, .inl (cT 0, 4096, .inl (fun _ => 0))), (q5, .inr (1, [.ref q6, .int 0, .int 0])), (q6, .inl (cT 0, 4096, .inl (fun _ => 0)))] H := ⟨hP, hD⟩
  refine lv_aload_n hx hb dB_init_37 rfl (lv_at hl 0 rfl) ?_
  refine lv_bipush (v := 8) hx hb dB_init_38 (by decide) ?_
  refine va_newq (C := "ValueBench$Row") (N' := 8) (n := 8) hx hb hown (htx _ kw_1_54) hZ.2.2.1.1 hK hP hD hS hA (by decide) (by decide) (by decide) (Nat.le_of_ble_eq_true rfl) (Nat.le_of_ble_eq_true rfl) dB_init_40 (fun q7 cA9 H hK9 hP hD hS => ?_)
  obtain rfl := xk_eq hK9 3 rfl
  obtain ⟨hP, hD⟩ : xPD D xcl A [(a0, .inr (0, [.ref q1, .ref q3, .ref q5, v4, v5, v6, v7, v8])), (q1, .inr (1, [.ref q2, .int 0, .int 0])), (q2, .inl (cT 0, 4096, .inl (fun _ => 0))), (q3, .inr (1, [.ref q4, .int 0, .int 0])), (q4, .inl (cT 0, 4096, .inl (fun _ => 0))), (q5, .inr (1, [.ref q6, .int 0, .int 0])), (q6, .inl (cT 0, 4096, .inl (fun _ => 0))), (q7, .inl (cT 3, 8, .inr (.inr (.inr (.inr (fun _ => none))))))] H := ⟨hP, hD⟩
  refine va_putF (D := D) (ci := 0) (v := .ref q7) (ty := (.array (.object "ValueBench$Row"))) (C := "ValueBench") (T := TB) (N := 8) hx hb htx inB tyB tyB_ok nmB hown hK hP hD hS 0 rfl rfl 3 (by decide) (htx _ kw_1_98) (fun _ h9 => h9) rfl hin rfl (by decide +kernel) rfl rfl (Nat.le_of_ble_eq_true rfl) dB_init_43 (fun H locs hP hD hS => ?_)
  obtain ⟨hP, hD⟩ : xPD D xcl A [(a0, .inr (0, [.ref q1, .ref q3, .ref q5, .ref q7, v5, v6, v7, v8])), (q1, .inr (1, [.ref q2, .int 0, .int 0])), (q2, .inl (cT 0, 4096, .inl (fun _ => 0))), (q3, .inr (1, [.ref q4, .int 0, .int 0])), (q4, .inl (cT 0, 4096, .inl (fun _ => 0))), (q5, .inr (1, [.ref q6, .int 0, .int 0])), (q6, .inl (cT 0, 4096, .inl (fun _ => 0))), (q7, .inl (cT 3, 8, .inr (.inr (.inr (.inr (fun _ => none))))))] H := ⟨hP, hD⟩
  refine lv_aload_n hx hb dB_init_46 rfl (lv_at hl 0 rfl) ?_
  refine va_new (ci := 3) (fs := [.null, .null, .null, .null, .int 0]) (C := "ValueBench$Sorter") (T := TSo) (N := 5) hx hb htx inS tyS tyS_ok hown (htx _ kw_1_56) (htx _ kw_1_57) (htx _ kw_1_3) hK hP hD hS hA rfl (by decide +kernel) (Nat.le_of_ble_eq_true rfl) (Nat.le_of_ble_eq_true rfl) dB_init_47 (fun q8 H hP hD hS => ?_)
  obtain ⟨hP, hD⟩ : xPD D xcl A [(a0, .inr (0, [.ref q1, .ref q3, .ref q5, .ref q7, v5, v6, v7, v8])), (q1, .inr (1, [.ref q2, .int 0, .int 0])), (q2, .inl (cT 0, 4096, .inl (fun _ => 0))), (q3, .inr (1, [.ref q4, .int 0, .int 0])), (q4, .inl (cT 0, 4096, .inl (fun _ => 0))), (q5, .inr (1, [.ref q6, .int 0, .int 0])), (q6, .inl (cT 0, 4096, .inl (fun _ => 0))), (q7, .inl (cT 3, 8, .inr (.inr (.inr (.inr (fun _ => none)))))), (q8, .inr (3, [.null, .null, .null, .null, .int 0]))] H := ⟨hP, hD⟩
  refine lv_dup hx hb dB_init_50 rfl ?_
  obtain ⟨hPc, hDc, hFc⟩ := xcut (wc := [(q8, .inr (3, [.null, .null, .null, .null, .int 0]))]) hP hD hS hA [8] rfl rfl (by decide)
  refine va_callv (va_runIN (As := []) (rest := [.ref q8, .ref a0]) ⟨hx, hb, hml, hown, htx⟩ (cS_init_0 l hl9 D cT aK aV H.size q8 .null .null .null .null (.int 0)) ⟨va_cnB (host := "ValueBench") 0 htx (xw_goodC kw_1_60) rfl rfl rfl (hZ.2.1 ("ValueBench", 30, yS_init) (List.mem_of_getElem? (i := 1) rfl)) (htx _ kw_1_3) ⟨by decide, by decide, by decide +kernel⟩ ⟨Nat.le_of_ble_eq_true rfl, Nat.le_of_ble_eq_true rfl⟩, rfl, (htx _ kw_1_59)⟩ ⟨xPre_blind, (fun U hU hW => ⟨rfl, xPre_of hZ hS hFc hPc hDc hK U hU hW⟩)⟩ rfl rfl hl.1 rfl (lv_room (Nat.le_of_ble_eq_true rfl)) dB_init_51 ⟨Nat.le_of_ble_eq_true rfl, Nat.le_of_ble_eq_true rfl⟩) hS (fun q _ h => hFc q h) hFc (fun u9 t H1 locs ht hvm hr9 hB hz1 hk1 hS => ?_)
  obtain ⟨q9, q10, q11, q12, hP1, hK1, hD1⟩ := hB
  rw [ht] at hP1
  obtain ⟨hP, hD⟩ := xjoin (W := [(a0, .inr (0, [.ref q1, .ref q3, .ref q5, .ref q7, v5, v6, v7, v8])), (q1, .inr (1, [.ref q2, .int 0, .int 0])), (q2, .inl (cT 0, 4096, .inl (fun _ => 0))), (q3, .inr (1, [.ref q4, .int 0, .int 0])), (q4, .inl (cT 0, 4096, .inl (fun _ => 0))), (q5, .inr (1, [.ref q6, .int 0, .int 0])), (q6, .inl (cT 0, 4096, .inl (fun _ => 0))), (q7, .inl (cT 3, 8, .inr (.inr (.inr (.inr (fun _ => none)))))), (q8, .inr (3, [.ref q9, .ref q10, .ref q11, .ref q12, .int 0])), (q9, .inl (cT 1, 2048, .inl (fun _ => 0))), (q10, .inl (cT 1, 2048, .inl (fun _ => 0))), (q11, .inl (cT 1, 2048, .inl (fun _ => 0))), (q12, .inl (cT 1, 2048, .inl (fun _ => 0)))]) hP hD [8] [0, 1, 2, 3, 4, 5, 6, 7] 8 rfl rfl (by decide) (by decide) hk1 hFc hP1 hD1
  generalize H1 = H at hP hS ⊢
  refine va_putF (D := D) (ci := 0) (v := .ref q8) (ty := (.object "ValueBench$Sorter")) (C := "ValueBench") (T := TB) (N := 8) hx hb htx inB tyB tyB_ok nmB hown hK hP hD hS 0 rfl rfl 4 (by decide) (htx _ kw_1_99) (fun _ h9 => h9) rfl hin rfl (by decide +kernel) rfl rfl (Nat.le_of_ble_eq_true rfl) dB_init_54 (fun H locs hP hD hS => ?_)
  obtain ⟨hP, hD⟩ : xPD D xcl A [(a0, .inr (0, [.ref q1, .ref q3, .ref q5, .ref q7, .ref q8, v6, v7, v8])), (q1, .inr (1, [.ref q2, .int 0, .int 0])), (q2, .inl (cT 0, 4096, .inl (fun _ => 0))), (q3, .inr (1, [.ref q4, .int 0, .int 0])), (q4, .inl (cT 0, 4096, .inl (fun _ => 0))), (q5, .inr (1, [.ref q6, .int 0, .int 0])), (q6, .inl (cT 0, 4096, .inl (fun _ => 0))), (q7, .inl (cT 3, 8, .inr (.inr (.inr (.inr (fun _ => none)))))), (q8, .inr (3, [.ref q9, .ref q10, .ref q11, .ref q12, .int 0])), (q9, .inl (cT 1, 2048, .inl (fun _ => 0))), (q10, .inl (cT 1, 2048, .inl (fun _ => 0))), (q11, .inl (cT 1, 2048, .inl (fun _ => 0))), (q12, .inl (cT 1, 2048, .inl (fun _ => 0)))] H := ⟨hP, hD⟩
  refine lv_aload_n hx hb dB_init_57 rfl (lv_at hl 0 rfl) ?_
  refine va_new (ci := 2) (fs := [.null, .int 0, .int 0]) (C := "ValueBench$Row") (T := TR) (N := 3) hx hb htx inR tyR tyR_ok hown (htx _ kw_1_54) (htx _ kw_1_79) (htx _ kw_1_4) hK hP hD hS hA rfl (by decide +kernel) (Nat.le_of_ble_eq_true rfl) (Nat.le_of_ble_eq_true rfl) dB_init_58 (fun q13 H hP hD hS => ?_)
  obtain ⟨hP, hD⟩ : xPD D xcl A [(a0, .inr (0, [.ref q1, .ref q3, .ref q5, .ref q7, .ref q8, v6, v7, v8])), (q1, .inr (1, [.ref q2, .int 0, .int 0])), (q2, .inl (cT 0, 4096, .inl (fun _ => 0))), (q3, .inr (1, [.ref q4, .int 0, .int 0])), (q4, .inl (cT 0, 4096, .inl (fun _ => 0))), (q5, .inr (1, [.ref q6, .int 0, .int 0])), (q6, .inl (cT 0, 4096, .inl (fun _ => 0))), (q7, .inl (cT 3, 8, .inr (.inr (.inr (.inr (fun _ => none)))))), (q8, .inr (3, [.ref q9, .ref q10, .ref q11, .ref q12, .int 0])), (q9, .inl (cT 1, 2048, .inl (fun _ => 0))), (q10, .inl (cT 1, 2048, .inl (fun _ => 0))), (q11, .inl (cT 1, 2048, .inl (fun _ => 0))), (q12, .inl (cT 1, 2048, .inl (fun _ => 0))), (q13, .inr (2, [.null, .int 0, .int 0]))] H := ⟨hP, hD⟩
  refine lv_dup hx hb dB_init_61 rfl ?_
  obtain ⟨hPc, hDc, hFc⟩ := xcut (wc := [(q13, .inr (2, [.null, .int 0, .int 0]))]) hP hD hS hA [13] rfl rfl (by decide)
  refine va_callv (va_runIN (As := []) (rest := [.ref q13, .ref a0]) ⟨hx, hb, hml, hown, htx⟩ (cR_init_0 l hl9 D cT aK aV H.size q13 .null (.int 0) (.int 0)) ⟨va_cnB (host := "ValueBench") 0 htx (xw_goodC kw_1_82) rfl rfl rfl (hZ.2.1 ("ValueBench", 35, yR_init) (List.mem_of_getElem? (i := 2) rfl)) (htx _ kw_1_4) ⟨by decide, by decide, by decide +kernel⟩ ⟨Nat.le_of_ble_eq_true rfl, Nat.le_of_ble_eq_true rfl⟩, rfl, (htx _ kw_1_81)⟩ ⟨xPre_blind, (fun U hU hW => ⟨rfl, xPre_of hZ hS hFc hPc hDc hK U hU hW⟩)⟩ rfl rfl hl.1 rfl (lv_room (Nat.le_of_ble_eq_true rfl)) dB_init_62 ⟨Nat.le_of_ble_eq_true rfl, Nat.le_of_ble_eq_true rfl⟩) hS (fun q _ h => hFc q h) hFc (fun u9 t H1 locs ht hvm hr9 hB hz1 hk1 hS => ?_)
  obtain ⟨q14, hP1, hK1, hD1⟩ := hB
  rw [ht] at hP1
  obtain ⟨hP, hD⟩ := xjoin (W := [(a0, .inr (0, [.ref q1, .ref q3, .ref q5, .ref q7, .ref q8, v6, v7, v8])), (q1, .inr (1, [.ref q2, .int 0, .int 0])), (q2, .inl (cT 0, 4096, .inl (fun _ => 0))), (q3, .inr (1, [.ref q4, .int 0, .int 0])), (q4, .inl (cT 0, 4096, .inl (fun _ => 0))), (q5, .inr (1, [.ref q6, .int 0, .int 0])), (q6, .inl (cT 0, 4096, .inl (fun _ => 0))), (q7, .inl (cT 3, 8, .inr (.inr (.inr (.inr (fun _ => none)))))), (q8, .inr (3, [.ref q9, .ref q10, .ref q11, .ref q12, .int 0])), (q9, .inl (cT 1, 2048, .inl (fun _ => 0))), (q10, .inl (cT 1, 2048, .inl (fun _ => 0))), (q11, .inl (cT 1, 2048, .inl (fun _ => 0))), (q12, .inl (cT 1, 2048, .inl (fun _ => 0))), (q13, .inr (2, [.ref q14, .int 1, .int 0])), (q14, .inl (cT 2, 4096, .inr (.inl (fun _ => 0))))]) hP hD [13] [0, 1, 2, 3, 4, 5, 6, 7, 8, 9, 10, 11, 12] 13 rfl rfl (by decide) (by decide) hk1 hFc hP1 hD1
  generalize H1 = H at hP hS ⊢
  refine va_put (D := D) (ci := 0) (v := .ref q13) (ty := (.object "ValueBench$Row")) (C := "ValueBench") (T := TB) (N := 8) hx hb htx inB tyB tyB_ok nmB hown hK hP hD hS 0 rfl rfl 5 (by decide) (htx _ kw_1_100) (fun _ h9 => h9) rfl (by decide +kernel) rfl rfl (Nat.le_of_ble_eq_true rfl) dB_init_65 (fun H locs hP hD hS => ?_)
  obtain ⟨hP, hD⟩ : xPD D xcl A [(a0, .inr (0, [.ref q1, .ref q3, .ref q5, .ref q7, .ref q8, .ref q13, v7, v8])), (q1, .inr (1, [.ref q2, .int 0, .int 0])), (q2, .inl (cT 0, 4096, .inl (fun _ => 0))), (q3, .inr (1, [.ref q4, .int 0, .int 0])), (q4, .inl (cT 0, 4096, .inl (fun _ => 0))), (q5, .inr (1, [.ref q6, .int 0, .int 0])), (q6, .inl (cT 0, 4096, .inl (fun _ => 0))), (q7, .inl (cT 3, 8, .inr (.inr (.inr (.inr (fun _ => none)))))), (q8, .inr (3, [.ref q9, .ref q10, .ref q11, .ref q12, .int 0])), (q9, .inl (cT 1, 2048, .inl (fun _ => 0))), (q10, .inl (cT 1, 2048, .inl (fun _ => 0))), (q11, .inl (cT 1, 2048, .inl (fun _ => 0))), (q12, .inl (cT 1, 2048, .inl (fun _ => 0))), (q13, .inr (2, [.ref q14, .int 1, .int 0])), (q14, .inl (cT 2, 4096, .inr (.inl (fun _ => 0))))] H := ⟨hP, hD⟩
  refine lv_aload_n hx hb dB_init_68 rfl (lv_at hl 0 rfl) ?_
  refine lv_iconst (v := (-1)) hx hb dB_init_69 (by decide) ?_
  refine va_put (D := D) (ci := 0) (v := .int (-1)) (ty := .int) (C := "ValueBench") (T := TB) (N := 8) hx hb htx inB tyB tyB_ok nmB hown hK hP hD hS 0 rfl rfl 6 (by decide) (htx _ kw_1_101) (fun _ h9 => h9) rfl (by decide +kernel) rfl rfl (Nat.le_of_ble_eq_true rfl) dB_init_70 (fun H locs hP hD hS => ?_)
  obtain ⟨hP, hD⟩ : xPD D xcl A [(a0, .inr (0, [.ref q1, .ref q3, .ref q5, .ref q7, .ref q8, .ref q13, .int (-1), v8])), (q1, .inr (1, [.ref q2, .int 0, .int 0])), (q2, .inl (cT 0, 4096, .inl (fun _ => 0))), (q3, .inr (1, [.ref q4, .int 0, .int 0])), (q4, .inl (cT 0, 4096, .inl (fun _ => 0))), (q5, .inr (1, [.ref q6, .int 0, .int 0])), (q6, .inl (cT 0, 4096, .inl (fun _ => 0))), (q7, .inl (cT 3, 8, .inr (.inr (.inr (.inr (fun _ => none)))))), (q8, .inr (3, [.ref q9, .ref q10, .ref q11, .ref q12, .int 0])), (q9, .inl (cT 1, 2048, .inl (fun _ => 0))), (q10, .inl (cT 1, 2048, .inl (fun _ => 0))), (q11, .inl (cT 1, 2048, .inl (fun _ => 0))), (q12, .inl (cT 1, 2048, .inl (fun _ => 0))), (q13, .inr (2, [.ref q14, .int 1, .int 0])), (q14, .inl (cT 2, 4096, .inr (.inl (fun _ => 0))))] H := ⟨hP, hD⟩
  refine lv_aload_n hx hb dB_init_73 rfl (lv_at hl 0 rfl) ?_
  refine lv_iconst (v := 0) hx hb dB_init_74 (by decide) ?_
  refine va_put (D := D) (ci := 0) (v := .int 0) (ty := .int) (C := "ValueBench") (T := TB) (N := 8) hx hb htx inB tyB tyB_ok nmB hown hK hP hD hS 0 rfl rfl 7 (by decide) (htx _ kw_1_102) (fun _ h9 => h9) rfl (by decide +kernel) rfl rfl (Nat.le_of_ble_eq_true rfl) dB_init_75 (fun H locs hP hD hS => ?_)
  obtain ⟨hP, hD⟩ : xPD D xcl A [(a0, .inr (0, [.ref q1, .ref q3, .ref q5, .ref q7, .ref q8, .ref q13, .int (-1), .int 0])), (q1, .inr (1, [.ref q2, .int 0, .int 0])), (q2, .inl (cT 0, 4096, .inl (fun _ => 0))), (q3, .inr (1, [.ref q4, .int 0, .int 0])), (q4, .inl (cT 0, 4096, .inl (fun _ => 0))), (q5, .inr (1, [.ref q6, .int 0, .int 0])), (q6, .inl (cT 0, 4096, .inl (fun _ => 0))), (q7, .inl (cT 3, 8, .inr (.inr (.inr (.inr (fun _ => none)))))), (q8, .inr (3, [.ref q9, .ref q10, .ref q11, .ref q12, .int 0])), (q9, .inl (cT 1, 2048, .inl (fun _ => 0))), (q10, .inl (cT 1, 2048, .inl (fun _ => 0))), (q11, .inl (cT 1, 2048, .inl (fun _ => 0))), (q12, .inl (cT 1, 2048, .inl (fun _ => 0))), (q13, .inr (2, [.ref q14, .int 1, .int 0])), (q14, .inl (cT 2, 4096, .inr (.inl (fun _ => 0))))] H := ⟨hP, hD⟩
  refine lv_iconst (v := 0) hx hb dB_init_78 (by decide) ?_
  refine lv_istore_n (lv' := [(1, .int 0), (0, .ref a0)]) hx hb dB_init_79 rfl hl (by decide) rfl (fun ls hl => ?_)
  refine lv_iload_n hx hb dB_init_80 rfl (lv_at hl 0 rfl) ?_
  refine lv_bipush (v := 8) hx hb dB_init_81 (by decide) ?_
  refine lv_icmp_ge (tgt := 105) hx hb dB_init_83 (by decide) (fun h => ((by revert h; decide : False)).elim) (fun _ => ?_)
  refine lv_aload_n hx hb dB_init_86 rfl (lv_at hl 1 rfl) ?_
  refine va_get (D := D) (ci := 0) (v := .ref q7) (C := "ValueBench") (T := TB) (N := 8) hx hb htx inB hown hK hP 0 rfl rfl 3 (by decide) (htx _ kw_1_98) (fun _ h9 => h9) rfl dB_init_87 ?_
  refine lv_iload_n hx hb dB_init_90 rfl (lv_at hl 0 rfl) ?_
  refine va_new (ci := 2) (fs := [.null, .int 0, .int 0]) (C := "ValueBench$Row") (T := TR) (N := 3) hx hb htx inR tyR tyR_ok hown (htx _ kw_1_54) (htx _ kw_1_79) (htx _ kw_1_4) hK hP hD hS hA rfl (by decide +kernel) (Nat.le_of_ble_eq_true rfl) (Nat.le_of_ble_eq_true rfl) dB_init_91 (fun q15 H hP hD hS => ?_)
  obtain ⟨hP, hD⟩ : xPD D xcl A [(a0, .inr (0, [.ref q1, .ref q3, .ref q5, .ref q7, .ref q8, .ref q13, .int (-1), .int 0])), (q1, .inr (1, [.ref q2, .int 0, .int 0])), (q2, .inl (cT 0, 4096, .inl (fun _ => 0))), (q3, .inr (1, [.ref q4, .int 0, .int 0])), (q4, .inl (cT 0, 4096, .inl (fun _ => 0))), (q5, .inr (1, [.ref q6, .int 0, .int 0])), (q6, .inl (cT 0, 4096, .inl (fun _ => 0))), (q7, .inl (cT 3, 8, .inr (.inr (.inr (.inr (fun _ => none)))))), (q8, .inr (3, [.ref q9, .ref q10, .ref q11, .ref q12, .int 0])), (q9, .inl (cT 1, 2048, .inl (fun _ => 0))), (q10, .inl (cT 1, 2048, .inl (fun _ => 0))), (q11, .inl (cT 1, 2048, .inl (fun _ => 0))), (q12, .inl (cT 1, 2048, .inl (fun _ => 0))), (q13, .inr (2, [.ref q14, .int 1, .int 0])), (q14, .inl (cT 2, 4096, .inr (.inl (fun _ => 0)))), (q15, .inr (2, [.null, .int 0, .int 0]))] H := ⟨hP, hD⟩
  refine lv_dup hx hb dB_init_94 rfl ?_
  obtain ⟨hPc, hDc, hFc⟩ := xcut (wc := [(q15, .inr (2, [.null, .int 0, .int 0]))]) hP hD hS hA [15] rfl rfl (by decide)
  refine va_callv (va_runIN (As := []) (rest := [.ref q15, .int 0, .ref q7]) ⟨hx, hb, hml, hown, htx⟩ (cR_init_0 l hl9 D cT aK aV H.size q15 .null (.int 0) (.int 0)) ⟨va_cnB (host := "ValueBench") 0 htx (xw_goodC kw_1_82) rfl rfl rfl (hZ.2.1 ("ValueBench", 35, yR_init) (List.mem_of_getElem? (i := 2) rfl)) (htx _ kw_1_4) ⟨by decide, by decide, by decide +kernel⟩ ⟨Nat.le_of_ble_eq_true rfl, Nat.le_of_ble_eq_true rfl⟩, rfl, (htx _ kw_1_81)⟩ ⟨xPre_blind, (fun U hU hW => ⟨rfl, xPre_of hZ hS hFc hPc hDc hK U hU hW⟩)⟩ rfl rfl hl.1 rfl (lv_room (Nat.le_of_ble_eq_true rfl)) dB_init_95 ⟨Nat.le_of_ble_eq_true rfl, Nat.le_of_ble_eq_true rfl⟩) hS (fun q _ h => hFc q h) hFc (fun u9 t H1 locs ht hvm hr9 hB hz1 hk1 hS => ?_)
  obtain ⟨q16, hP1, hK1, hD1⟩ := hB
  rw [ht] at hP1
  obtain ⟨hP, hD⟩ := xjoin (W := [(a0, .inr (0, [.ref q1, .ref q3, .ref q5, .ref q7, .ref q8, .ref q13, .int (-1), .int 0])), (q1, .inr (1, [.ref q2, .int 0, .int 0])), (q2, .inl (cT 0, 4096, .inl (fun _ => 0))), (q3, .inr (1, [.ref q4, .int 0, .int 0])), (q4, .inl (cT 0, 4096, .inl (fun _ => 0))), (q5, .inr (1, [.ref q6, .int 0, .int 0])), (q6, .inl (cT 0, 4096, .inl (fun _ => 0))), (q7, .inl (cT 3, 8, .inr (.inr (.inr (.inr (fun _ => none)))))), (q8, .inr (3, [.ref q9, .ref q10, .ref q11, .ref q12, .int 0])), (q9, .inl (cT 1, 2048, .inl (fun _ => 0))), (q10, .inl (cT 1, 2048, .inl (fun _ => 0))), (q11, .inl (cT 1, 2048, .inl (fun _ => 0))), (q12, .inl (cT 1, 2048, .inl (fun _ => 0))), (q13, .inr (2, [.ref q14, .int 1, .int 0])), (q14, .inl (cT 2, 4096, .inr (.inl (fun _ => 0)))), (q15, .inr (2, [.ref q16, .int 1, .int 0])), (q16, .inl (cT 2, 4096, .inr (.inl (fun _ => 0))))]) hP hD [15] [0, 1, 2, 3, 4, 5, 6, 7, 8, 9, 10, 11, 12, 13, 14] 15 rfl rfl (by decide) (by decide) hk1 hFc hP1 hD1
  generalize H1 = H at hP hS ⊢
  refine va_astq (r := ("ValueBench$Row", TR, 3)) hx hb hK hP hD hS 7 3 15 2 rfl rfl rfl rfl (show ¬ ((0 : Int32) < 0 ∨ 8 ≤ (0 : Int32).toNatClampNeg) by decide) dB_init_98 (fun H locs hP hD hS => ?_)
  obtain ⟨hP, hD⟩ : xPD D xcl A [(a0, .inr (0, [.ref q1, .ref q3, .ref q5, .ref q7, .ref q8, .ref q13, .int (-1), .int 0])), (q1, .inr (1, [.ref q2, .int 0, .int 0])), (q2, .inl (cT 0, 4096, .inl (fun _ => 0))), (q3, .inr (1, [.ref q4, .int 0, .int 0])), (q4, .inl (cT 0, 4096, .inl (fun _ => 0))), (q5, .inr (1, [.ref q6, .int 0, .int 0])), (q6, .inl (cT 0, 4096, .inl (fun _ => 0))), (q7, .inl (cT 3, 8, .inr (.inr (.inr (.inr (va_up (fun _ => none) 0 (some q15))))))), (q8, .inr (3, [.ref q9, .ref q10, .ref q11, .ref q12, .int 0])), (q9, .inl (cT 1, 2048, .inl (fun _ => 0))), (q10, .inl (cT 1, 2048, .inl (fun _ => 0))), (q11, .inl (cT 1, 2048, .inl (fun _ => 0))), (q12, .inl (cT 1, 2048, .inl (fun _ => 0))), (q13, .inr (2, [.ref q14, .int 1, .int 0])), (q14, .inl (cT 2, 4096, .inr (.inl (fun _ => 0)))), (q15, .inr (2, [.ref q16, .int 1, .int 0])), (q16, .inl (cT 2, 4096, .inr (.inl (fun _ => 0))))] H := ⟨hP, hD⟩
  refine lv_iinc (v := 1) (lv' := [(1, .int 1), (0, .ref a0)]) hx hb dB_init_99 hl (k := 0) rfl (by decide) (by decide) rfl (fun ls hl => ?_)
  refine lv_goto (tgt := 80) hx hb dB_init_102 (by decide) ?_
  refine lv_iload_n hx hb dB_init_80 rfl (lv_at hl 0 rfl) ?_
  refine lv_bipush (v := 8) hx hb dB_init_81 (by decide) ?_
  refine lv_icmp_ge (tgt := 105) hx hb dB_init_83 (by decide) (fun h => ((by revert h; decide : False)).elim) (fun _ => ?_)
  refine lv_aload_n hx hb dB_init_86 rfl (lv_at hl 1 rfl) ?_
  refine va_get (D := D) (ci := 0) (v := .ref q7) (C := "ValueBench") (T := TB) (N := 8) hx hb htx inB hown hK hP 0 rfl rfl 3 (by decide) (htx _ kw_1_98) (fun _ h9 => h9) rfl dB_init_87 ?_
  refine lv_iload_n hx hb dB_init_90 rfl (lv_at hl 0 rfl) ?_
  refine va_new (ci := 2) (fs := [.null, .int 0, .int 0]) (C := "ValueBench$Row") (T := TR) (N := 3) hx hb htx inR tyR tyR_ok hown (htx _ kw_1_54) (htx _ kw_1_79) (htx _ kw_1_4) hK hP hD hS hA rfl (by decide +kernel) (Nat.le_of_ble_eq_true rfl) (Nat.le_of_ble_eq_true rfl) dB_init_91 (fun q17 H hP hD hS => ?_)
  obtain ⟨hP, hD⟩ : xPD D xcl A [(a0, .inr (0, [.ref q1, .ref q3, .ref q5, .ref q7, .ref q8, .ref q13, .int (-1), .int 0])), (q1, .inr (1, [.ref q2, .int 0, .int 0])), (q2, .inl (cT 0, 4096, .inl (fun _ => 0))), (q3, .inr (1, [.ref q4, .int 0, .int 0])), (q4, .inl (cT 0, 4096, .inl (fun _ => 0))), (q5, .inr (1, [.ref q6, .int 0, .int 0])), (q6, .inl (cT 0, 4096, .inl (fun _ => 0))), (q7, .inl (cT 3, 8, .inr (.inr (.inr (.inr (va_up (fun _ => none) 0 (some q15))))))), (q8, .inr (3, [.ref q9, .ref q10, .ref q11, .ref q12, .int 0])), (q9, .inl (cT 1, 2048, .inl (fun _ => 0))), (q10, .inl (cT 1, 2048, .inl (fun _ => 0))), (q11, .inl (cT 1, 2048, .inl (fun _ => 0))), (q12, .inl (cT 1, 2048, .inl (fun _ => 0))), (q13, .inr (2, [.ref q14, .int 1, .int 0])), (q14, .inl (cT 2, 4096, .inr (.inl (fun _ => 0)))), (q15, .inr (2, [.ref q16, .int 1, .int 0])), (q16, .inl (cT 2, 4096, .inr (.inl (fun _ => 0)))), (q17, .inr (2, [.null, .int 0, .int 0]))] H := ⟨hP, hD⟩
  refine lv_dup hx hb dB_init_94 rfl ?_
  obtain ⟨hPc, hDc, hFc⟩ := xcut (wc := [(q17, .inr (2, [.null, .int 0, .int 0]))]) hP hD hS hA [17] rfl rfl (by decide)
  refine va_callv (va_runIN (As := []) (rest := [.ref q17, .int 1, .ref q7]) ⟨hx, hb, hml, hown, htx⟩ (cR_init_0 l hl9 D cT aK aV H.size q17 .null (.int 0) (.int 0)) ⟨va_cnB (host := "ValueBench") 0 htx (xw_goodC kw_1_82) rfl rfl rfl (hZ.2.1 ("ValueBench", 35, yR_init) (List.mem_of_getElem? (i := 2) rfl)) (htx _ kw_1_4) ⟨by decide, by decide, by decide +kernel⟩ ⟨Nat.le_of_ble_eq_true rfl, Nat.le_of_ble_eq_true rfl⟩, rfl, (htx _ kw_1_81)⟩ ⟨xPre_blind, (fun U hU hW => ⟨rfl, xPre_of hZ hS hFc hPc hDc hK U hU hW⟩)⟩ rfl rfl hl.1 rfl (lv_room (Nat.le_of_ble_eq_true rfl)) dB_init_95 ⟨Nat.le_of_ble_eq_true rfl, Nat.le_of_ble_eq_true rfl⟩) hS (fun q _ h => hFc q h) hFc (fun u9 t H1 locs ht hvm hr9 hB hz1 hk1 hS => ?_)
  obtain ⟨q18, hP1, hK1, hD1⟩ := hB
  rw [ht] at hP1
  obtain ⟨hP, hD⟩ := xjoin (W := [(a0, .inr (0, [.ref q1, .ref q3, .ref q5, .ref q7, .ref q8, .ref q13, .int (-1), .int 0])), (q1, .inr (1, [.ref q2, .int 0, .int 0])), (q2, .inl (cT 0, 4096, .inl (fun _ => 0))), (q3, .inr (1, [.ref q4, .int 0, .int 0])), (q4, .inl (cT 0, 4096, .inl (fun _ => 0))), (q5, .inr (1, [.ref q6, .int 0, .int 0])), (q6, .inl (cT 0, 4096, .inl (fun _ => 0))), (q7, .inl (cT 3, 8, .inr (.inr (.inr (.inr (va_up (fun _ => none) 0 (some q15))))))), (q8, .inr (3, [.ref q9, .ref q10, .ref q11, .ref q12, .int 0])), (q9, .inl (cT 1, 2048, .inl (fun _ => 0))), (q10, .inl (cT 1, 2048, .inl (fun _ => 0))), (q11, .inl (cT 1, 2048, .inl (fun _ => 0))), (q12, .inl (cT 1, 2048, .inl (fun _ => 0))), (q13, .inr (2, [.ref q14, .int 1, .int 0])), (q14, .inl (cT 2, 4096, .inr (.inl (fun _ => 0)))), (q15, .inr (2, [.ref q16, .int 1, .int 0])), (q16, .inl (cT 2, 4096, .inr (.inl (fun _ => 0)))), (q17, .inr (2, [.ref q18, .int 1, .int 0])), (q18, .inl (cT 2, 4096, .inr (.inl (fun _ => 0))))]) hP hD [17] [0, 1, 2, 3, 4, 5, 6, 7, 8, 9, 10, 11, 12, 13, 14, 15, 16] 17 rfl rfl (by decide) (by decide) hk1 hFc hP1 hD1
  generalize H1 = H at hP hS ⊢
  refine va_astq (r := ("ValueBench$Row", TR, 3)) hx hb hK hP hD hS 7 3 17 2 rfl rfl rfl rfl (show ¬ ((1 : Int32) < 0 ∨ 8 ≤ (1 : Int32).toNatClampNeg) by decide) dB_init_98 (fun H locs hP hD hS => ?_)
  obtain ⟨hP, hD⟩ : xPD D xcl A [(a0, .inr (0, [.ref q1, .ref q3, .ref q5, .ref q7, .ref q8, .ref q13, .int (-1), .int 0])), (q1, .inr (1, [.ref q2, .int 0, .int 0])), (q2, .inl (cT 0, 4096, .inl (fun _ => 0))), (q3, .inr (1, [.ref q4, .int 0, .int 0])), (q4, .inl (cT 0, 4096, .inl (fun _ => 0))), (q5, .inr (1, [.ref q6, .int 0, .int 0])), (q6, .inl (cT 0, 4096, .inl (fun _ => 0))), (q7, .inl (cT 3, 8, .inr (.inr (.inr (.inr (va_up (va_up (fun _ => none) 0 (some q15)) 1 (some q17))))))), (q8, .inr (3, [.ref q9, .ref q10, .ref q11, .ref q12, .int 0])), (q9, .inl (cT 1, 2048, .inl (fun _ => 0))), (q10, .inl (cT 1, 2048, .inl (fun _ => 0))), (q11, .inl (cT 1, 2048, .inl (fun _ => 0))), (q12, .inl (cT 1, 2048, .inl (fun _ => 0))), (q13, .inr (2, [.ref q14, .int 1, .int 0])), (q14, .inl (cT 2, 4096, .inr (.inl (fun _ => 0)))), (q15, .inr (2, [.ref q16, .int 1, .int 0])), (q16, .inl (cT 2, 4096, .inr (.inl (fun _ => 0)))), (q17, .inr (2, [.ref q18, .int 1, .int 0])), (q18, .inl (cT 2, 4096, .inr (.inl (fun _ => 0))))] H := ⟨hP, hD⟩
  refine lv_iinc (v := 2) (lv' := [(1, .int 2), (0, .ref a0)]) hx hb dB_init_99 hl (k := 0) rfl (by decide) (by decide) rfl (fun ls hl => ?_)
  refine lv_goto (tgt := 80) hx hb dB_init_102 (by decide) ?_
  refine lv_iload_n hx hb dB_init_80 rfl (lv_at hl 0 rfl) ?_
  refine lv_bipush (v := 8) hx hb dB_init_81 (by decide) ?_
  refine lv_icmp_ge (tgt := 105) hx hb dB_init_83 (by decide) (fun h => ((by revert h; decide : False)).elim) (fun _ => ?_)
  refine lv_aload_n hx hb dB_init_86 rfl (lv_at hl 1 rfl) ?_
  refine va_get (D := D) (ci := 0) (v := .ref q7) (C := "ValueBench") (T := TB) (N := 8) hx hb htx inB hown hK hP 0 rfl rfl 3 (by decide) (htx _ kw_1_98) (fun _ h9 => h9) rfl dB_init_87 ?_
  refine lv_iload_n hx hb dB_init_90 rfl (lv_at hl 0 rfl) ?_
  refine va_new (ci := 2) (fs := [.null, .int 0, .int 0]) (C := "ValueBench$Row") (T := TR) (N := 3) hx hb htx inR tyR tyR_ok hown (htx _ kw_1_54) (htx _ kw_1_79) (htx _ kw_1_4) hK hP hD hS hA rfl (by decide +kernel) (Nat.le_of_ble_eq_true rfl) (Nat.le_of_ble_eq_true rfl) dB_init_91 (fun q19 H hP hD hS => ?_)
  obtain ⟨hP, hD⟩ : xPD D xcl A [(a0, .inr (0, [.ref q1, .ref q3, .ref q5, .ref q7, .ref q8, .ref q13, .int (-1), .int 0])), (q1, .inr (1, [.ref q2, .int 0, .int 0])), (q2, .inl (cT 0, 4096, .inl (fun _ => 0))), (q3, .inr (1, [.ref q4, .int 0, .int 0])), (q4, .inl (cT 0, 4096, .inl (fun _ => 0))), (q5, .inr (1, [.ref q6, .int 0, .int 0])), (q6, .inl (cT 0, 4096, .inl (fun _ => 0))), (q7, .inl (cT 3, 8, .inr (.inr (.inr (.inr (va_up (va_up (fun _ => none) 0 (some q15)) 1 (some q17))))))), (q8, .inr (3, [.ref q9, .ref q10, .ref q11, .ref q12, .int 0])), (q9, .inl (cT 1, 2048, .inl (fun _ => 0))), (q10, .inl (cT 1, 2048, .inl (fun _ => 0))), (q11, .inl (cT 1, 2048, .inl (fun _ => 0))), (q12, .inl (cT 1, 2048, .inl (fun _ => 0))), (q13, .inr (2, [.ref q14, .int 1, .int 0])), (q14, .inl (cT 2, 4096, .inr (.inl (fun _ => 0)))), (q15, .inr (2, [.ref q16, .int 1, .int 0])), (q16, .inl (cT 2, 4096, .inr (.inl (fun _ => 0)))), (q17, .inr (2, [.ref q18, .int 1, .int 0])), (q18, .inl (cT 2, 4096, .inr (.inl (fun _ => 0)))), (q19, .inr (2, [.null, .int 0, .int 0]))] H := ⟨hP, hD⟩
  refine lv_dup hx hb dB_init_94 rfl ?_
  obtain ⟨hPc, hDc, hFc⟩ := xcut (wc := [(q19, .inr (2, [.null, .int 0, .int 0]))]) hP hD hS hA [19] rfl rfl (by decide)
  refine va_callv (va_runIN (As := []) (rest := [.ref q19, .int 2, .ref q7]) ⟨hx, hb, hml, hown, htx⟩ (cR_init_0 l hl9 D cT aK aV H.size q19 .null (.int 0) (.int 0)) ⟨va_cnB (host := "ValueBench") 0 htx (xw_goodC kw_1_82) rfl rfl rfl (hZ.2.1 ("ValueBench", 35, yR_init) (List.mem_of_getElem? (i := 2) rfl)) (htx _ kw_1_4) ⟨by decide, by decide, by decide +kernel⟩ ⟨Nat.le_of_ble_eq_true rfl, Nat.le_of_ble_eq_true rfl⟩, rfl, (htx _ kw_1_81)⟩ ⟨xPre_blind, (fun U hU hW => ⟨rfl, xPre_of hZ hS hFc hPc hDc hK U hU hW⟩)⟩ rfl rfl hl.1 rfl (lv_room (Nat.le_of_ble_eq_true rfl)) dB_init_95 ⟨Nat.le_of_ble_eq_true rfl, Nat.le_of_ble_eq_true rfl⟩) hS (fun q _ h => hFc q h) hFc (fun u9 t H1 locs ht hvm hr9 hB hz1 hk1 hS => ?_)
  obtain ⟨q20, hP1, hK1, hD1⟩ := hB
  rw [ht] at hP1
  obtain ⟨hP, hD⟩ := xjoin (W := [(a0, .inr (0, [.ref q1, .ref q3, .ref q5, .ref q7, .ref q8, .ref q13, .int (-1), .int 0])), (q1, .inr (1, [.ref q2, .int 0, .int 0])), (q2, .inl (cT 0, 4096, .inl (fun _ => 0))), (q3, .inr (1, [.ref q4, .int 0, .int 0])), (q4, .inl (cT 0, 4096, .inl (fun _ => 0))), (q5, .inr (1, [.ref q6, .int 0, .int 0])), (q6, .inl (cT 0, 4096, .inl (fun _ => 0))), (q7, .inl (cT 3, 8, .inr (.inr (.inr (.inr (va_up (va_up (fun _ => none) 0 (some q15)) 1 (some q17))))))), (q8, .inr (3, [.ref q9, .ref q10, .ref q11, .ref q12, .int 0])), (q9, .inl (cT 1, 2048, .inl (fun _ => 0))), (q10, .inl (cT 1, 2048, .inl (fun _ => 0))), (q11, .inl (cT 1, 2048, .inl (fun _ => 0))), (q12, .inl (cT 1, 2048, .inl (fun _ => 0))), (q13, .inr (2, [.ref q14, .int 1, .int 0])), (q14, .inl (cT 2, 4096, .inr (.inl (fun _ => 0)))), (q15, .inr (2, [.ref q16, .int 1, .int 0])), (q16, .inl (cT 2, 4096, .inr (.inl (fun _ => 0)))), (q17, .inr (2, [.ref q18, .int 1, .int 0])), (q18, .inl (cT 2, 4096, .inr (.inl (fun _ => 0)))), (q19, .inr (2, [.ref q20, .int 1, .int 0])), (q20, .inl (cT 2, 4096, .inr (.inl (fun _ => 0))))]) hP hD [19] [0, 1, 2, 3, 4, 5, 6, 7, 8, 9, 10, 11, 12, 13, 14, 15, 16, 17, 18] 19 rfl rfl (by decide) (by decide) hk1 hFc hP1 hD1
  generalize H1 = H at hP hS ⊢
  refine va_astq (r := ("ValueBench$Row", TR, 3)) hx hb hK hP hD hS 7 3 19 2 rfl rfl rfl rfl (show ¬ ((2 : Int32) < 0 ∨ 8 ≤ (2 : Int32).toNatClampNeg) by decide) dB_init_98 (fun H locs hP hD hS => ?_)
  obtain ⟨hP, hD⟩ : xPD D xcl A [(a0, .inr (0, [.ref q1, .ref q3, .ref q5, .ref q7, .ref q8, .ref q13, .int (-1), .int 0])), (q1, .inr (1, [.ref q2, .int 0, .int 0])), (q2, .inl (cT 0, 4096, .inl (fun _ => 0))), (q3, .inr (1, [.ref q4, .int 0, .int 0])), (q4, .inl (cT 0, 4096, .inl (fun _ => 0))), (q5, .inr (1, [.ref q6, .int 0, .int 0])), (q6, .inl (cT 0, 4096, .inl (fun _ => 0))), (q7, .inl (cT 3, 8, .inr (.inr (.inr (.inr (va_up (va_up (va_up (fun _ => none) 0 (some q15)) 1 (some q17)) 2 (some q19))))))), (q8, .inr (3, [.ref q9, .ref q10, .ref q11, .ref q12, .int 0])), (q9, .inl (cT 1, 2048, .inl (fun _ => 0))), (q10, .inl (cT 1, 2048, .inl (fun _ => 0))), (q11, .inl (cT 1, 2048, .inl (fun _ => 0))), (q12, .inl (cT 1, 2048, .inl (fun _ => 0))), (q13, .inr (2, [.ref q14, .int 1, .int 0])), (q14, .inl (cT 2, 4096, .inr (.inl (fun _ => 0)))), (q15, .inr (2, [.ref q16, .int 1, .int 0])), (q16, .inl (cT 2, 4096, .inr (.inl (fun _ => 0)))), (q17, .inr (2, [.ref q18, .int 1, .int 0])), (q18, .inl (cT 2, 4096, .inr (.inl (fun _ => 0)))), (q19, .inr (2, [.ref q20, .int 1, .int 0])), (q20, .inl (cT 2, 4096, .inr (.inl (fun _ => 0))))] H := ⟨hP, hD⟩
  refine lv_iinc (v := 3) (lv' := [(1, .int 3), (0, .ref a0)]) hx hb dB_init_99 hl (k := 0) rfl (by decide) (by decide) rfl (fun ls hl => ?_)
  refine lv_goto (tgt := 80) hx hb dB_init_102 (by decide) ?_
  refine lv_iload_n hx hb dB_init_80 rfl (lv_at hl 0 rfl) ?_
  refine lv_bipush (v := 8) hx hb dB_init_81 (by decide) ?_
  refine lv_icmp_ge (tgt := 105) hx hb dB_init_83 (by decide) (fun h => ((by revert h; decide : False)).elim) (fun _ => ?_)
  refine lv_aload_n hx hb dB_init_86 rfl (lv_at hl 1 rfl) ?_
  refine va_get (D := D) (ci := 0) (v := .ref q7) (C := "ValueBench") (T := TB) (N := 8) hx hb htx inB hown hK hP 0 rfl rfl 3 (by decide) (htx _ kw_1_98) (fun _ h9 => h9) rfl dB_init_87 ?_
  refine lv_iload_n hx hb dB_init_90 rfl (lv_at hl 0 rfl) ?_
  refine va_new (ci := 2) (fs := [.null, .int 0, .int 0]) (C := "ValueBench$Row") (T := TR) (N := 3) hx hb htx inR tyR tyR_ok hown (htx _ kw_1_54) (htx _ kw_1_79) (htx _ kw_1_4) hK hP hD hS hA rfl (by decide +kernel) (Nat.le_of_ble_eq_true rfl) (Nat.le_of_ble_eq_true rfl) dB_init_91 (fun q21 H hP hD hS => ?_)
  obtain ⟨hP, hD⟩ : xPD D xcl A [(a0, .inr (0, [.ref q1, .ref q3, .ref q5, .ref q7, .ref q8, .ref q13, .int (-1), .int 0])), (q1, .inr (1, [.ref q2, .int 0, .int 0])), (q2, .inl (cT 0, 4096, .inl (fun _ => 0))), (q3, .inr (1, [.ref q4, .int 0, .int 0])), (q4, .inl (cT 0, 4096, .inl (fun _ => 0))), (q5, .inr (1, [.ref q6, .int 0, .int 0])), (q6, .inl (cT 0, 4096, .inl (fun _ => 0))), (q7, .inl (cT 3, 8, .inr (.inr (.inr (.inr (va_up (va_up (va_up (fun _ => none) 0 (some q15)) 1 (some q17)) 2 (some q19))))))), (q8, .inr (3, [.ref q9, .ref q10, .ref q11, .ref q12, .int 0])), (q9, .inl (cT 1, 2048, .inl (fun _ => 0))), (q10, .inl (cT 1, 2048, .inl (fun _ => 0))), (q11, .inl (cT 1, 2048, .inl (fun _ => 0))), (q12, .inl (cT 1, 2048, .inl (fun _ => 0))), (q13, .inr (2, [.ref q14, .int 1, .int 0])), (q14, .inl (cT 2, 4096, .inr (.inl (fun _ => 0)))), (q15, .inr (2, [.ref q16, .int 1, .int 0])), (q16, .inl (cT 2, 4096, .inr (.inl (fun _ => 0)))), (q17, .inr (2, [.ref q18, .int 1, .int 0])), (q18, .inl (cT 2, 4096, .inr (.inl (fun _ => 0)))), (q19, .inr (2, [.ref q20, .int 1, .int 0])), (q20, .inl (cT 2, 4096, .inr (.inl (fun _ => 0)))), (q21, .inr (2, [.null, .int 0, .int 0]))] H := ⟨hP, hD⟩
  refine lv_dup hx hb dB_init_94 rfl ?_
  obtain ⟨hPc, hDc, hFc⟩ := xcut (wc := [(q21, .inr (2, [.null, .int 0, .int 0]))]) hP hD hS hA [21] rfl rfl (by decide)
  refine va_callv (va_runIN (As := []) (rest := [.ref q21, .int 3, .ref q7]) ⟨hx, hb, hml, hown, htx⟩ (cR_init_0 l hl9 D cT aK aV H.size q21 .null (.int 0) (.int 0)) ⟨va_cnB (host := "ValueBench") 0 htx (xw_goodC kw_1_82) rfl rfl rfl (hZ.2.1 ("ValueBench", 35, yR_init) (List.mem_of_getElem? (i := 2) rfl)) (htx _ kw_1_4) ⟨by decide, by decide, by decide +kernel⟩ ⟨Nat.le_of_ble_eq_true rfl, Nat.le_of_ble_eq_true rfl⟩, rfl, (htx _ kw_1_81)⟩ ⟨xPre_blind, (fun U hU hW => ⟨rfl, xPre_of hZ hS hFc hPc hDc hK U hU hW⟩)⟩ rfl rfl hl.1 rfl (lv_room (Nat.le_of_ble_eq_true rfl)) dB_init_95 ⟨Nat.le_of_ble_eq_true rfl, Nat.le_of_ble_eq_true rfl⟩) hS (fun q _ h => hFc q h) hFc (fun u9 t H1 locs ht hvm hr9 hB hz1 hk1 hS => ?_)
  obtain ⟨q22, hP1, hK1, hD1⟩ := hB
  rw [ht] at hP1
  obtain ⟨hP, hD⟩ := xjoin (W := [(a0, .inr (0, [.ref q1, .ref q3, .ref q5, .ref q7, .ref q8, .ref q13, .int (-1), .int 0])), (q1, .inr (1, [.ref q2, .int 0, .int 0])), (q2, .inl (cT 0, 4096, .inl (fun _ => 0))), (q3, .inr (1, [.ref q4, .int 0, .int 0])), (q4, .inl (cT 0, 4096, .inl (fun _ => 0))), (q5, .inr (1, [.ref q6, .int 0, .int 0])), (q6, .inl (cT 0, 4096, .inl (fun _ => 0))), (q7, .inl (cT 3, 8, .inr (.inr (.inr (.inr (va_up (va_up (va_up (fun _ => none) 0 (some q15)) 1 (some q17)) 2 (some q19))))))), (q8, .inr (3, [.ref q9, .ref q10, .ref q11, .ref q12, .int 0])), (q9, .inl (cT 1, 2048, .inl (fun _ => 0))), (q10, .inl (cT 1, 2048, .inl (fun _ => 0))), (q11, .inl (cT 1, 2048, .inl (fun _ => 0))), (q12, .inl (cT 1, 2048, .inl (fun _ => 0))), (q13, .inr (2, [.ref q14, .int 1, .int 0])), (q14, .inl (cT 2, 4096, .inr (.inl (fun _ => 0)))), (q15, .inr (2, [.ref q16, .int 1, .int 0])), (q16, .inl (cT 2, 4096, .inr (.inl (fun _ => 0)))), (q17, .inr (2, [.ref q18, .int 1, .int 0])), (q18, .inl (cT 2, 4096, .inr (.inl (fun _ => 0)))), (q19, .inr (2, [.ref q20, .int 1, .int 0])), (q20, .inl (cT 2, 4096, .inr (.inl (fun _ => 0)))), (q21, .inr (2, [.ref q22, .int 1, .int 0])), (q22, .inl (cT 2, 4096, .inr (.inl (fun _ => 0))))]) hP hD [21] [0, 1, 2, 3, 4, 5, 6, 7, 8, 9, 10, 11, 12, 13, 14, 15, 16, 17, 18, 19, 20] 21 rfl rfl (by decide) (by decide) hk1 hFc hP1 hD1
  generalize H1 = H at hP hS ⊢
  refine va_astq (r := ("ValueBench$Row", TR, 3)) hx hb hK hP hD hS 7 3 21 2 rfl rfl rfl rfl (show ¬ ((3 : Int32) < 0 ∨ 8 ≤ (3 : Int32).toNatClampNeg) by decide) dB_init_98 (fun H locs hP hD hS => ?_)
  obtain ⟨hP, hD⟩ : xPD D xcl A [(a0, .inr (0, [.ref q1, .ref q3, .ref q5, .ref q7, .ref q8, .ref q13, .int (-1), .int 0])), (q1, .inr (1, [.ref q2, .int 0, .int 0])), (q2, .inl (cT 0, 4096, .inl (fun _ => 0))), (q3, .inr (1, [.ref q4, .int 0, .int 0])), (q4, .inl (cT 0, 4096, .inl (fun _ => 0))), (q5, .inr (1, [.ref q6, .int 0, .int 0])), (q6, .inl (cT 0, 4096, .inl (fun _ => 0))), (q7, .inl (cT 3, 8, .inr (.inr (.inr (.inr (va_up (va_up (va_up (va_up (fun _ => none) 0 (some q15)) 1 (some q17)) 2 (some q19)) 3 (some q21))))))), (q8, .inr (3, [.ref q9, .ref q10, .ref q11, .ref q12, .int 0])), (q9, .inl (cT 1, 2048, .inl (fun _ => 0))), (q10, .inl (cT 1, 2048, .inl (fun _ => 0))), (q11, .inl (cT 1, 2048, .inl (fun _ => 0))), (q12, .inl (cT 1, 2048, .inl (fun _ => 0))), (q13, .inr (2, [.ref q14, .int 1, .int 0])), (q14, .inl (cT 2, 4096, .inr (.inl (fun _ => 0)))), (q15, .inr (2, [.ref q16, .int 1, .int 0])), (q16, .inl (cT 2, 4096, .inr (.inl (fun _ => 0)))), (q17, .inr (2, [.ref q18, .int 1, .int 0])), (q18, .inl (cT 2, 4096, .inr (.inl (fun _ => 0)))), (q19, .inr (2, [.ref q20, .int 1, .int 0])), (q20, .inl (cT 2, 4096, .inr (.inl (fun _ => 0)))), (q21, .inr (2, [.ref q22, .int 1, .int 0])), (q22, .inl (cT 2, 4096, .inr (.inl (fun _ => 0))))] H := ⟨hP, hD⟩
  refine lv_iinc (v := 4) (lv' := [(1, .int 4), (0, .ref a0)]) hx hb dB_init_99 hl (k := 0) rfl (by decide) (by decide) rfl (fun ls hl => ?_)
  refine lv_goto (tgt := 80) hx hb dB_init_102 (by decide) ?_
  refine lv_iload_n hx hb dB_init_80 rfl (lv_at hl 0 rfl) ?_
  refine lv_bipush (v := 8) hx hb dB_init_81 (by decide) ?_
  refine lv_icmp_ge (tgt := 105) hx hb dB_init_83 (by decide) (fun h => ((by revert h; decide : False)).elim) (fun _ => ?_)
  refine lv_aload_n hx hb dB_init_86 rfl (lv_at hl 1 rfl) ?_
  refine va_get (D := D) (ci := 0) (v := .ref q7) (C := "ValueBench") (T := TB) (N := 8) hx hb htx inB hown hK hP 0 rfl rfl 3 (by decide) (htx _ kw_1_98) (fun _ h9 => h9) rfl dB_init_87 ?_
  refine lv_iload_n hx hb dB_init_90 rfl (lv_at hl 0 rfl) ?_
  refine va_new (ci := 2) (fs := [.null, .int 0, .int 0]) (C := "ValueBench$Row") (T := TR) (N := 3) hx hb htx inR tyR tyR_ok hown (htx _ kw_1_54) (htx _ kw_1_79) (htx _ kw_1_4) hK hP hD hS hA rfl (by decide +kernel) (Nat.le_of_ble_eq_true rfl) (Nat.le_of_ble_eq_true rfl) dB_init_91 (fun q23 H hP hD hS => ?_)
  obtain ⟨hP, hD⟩ : xPD D xcl A [(a0, .inr (0, [.ref q1, .ref q3, .ref q5, .ref q7, .ref q8, .ref q13, .int (-1), .int 0])), (q1, .inr (1, [.ref q2, .int 0, .int 0])), (q2, .inl (cT 0, 4096, .inl (fun _ => 0))), (q3, .inr (1, [.ref q4, .int 0, .int 0])), (q4, .inl (cT 0, 4096, .inl (fun _ => 0))), (q5, .inr (1, [.ref q6, .int 0, .int 0])), (q6, .inl (cT 0, 4096, .inl (fun _ => 0))), (q7, .inl (cT 3, 8, .inr (.inr (.inr (.inr (va_up (va_up (va_up (va_up (fun _ => none) 0 (some q15)) 1 (some q17)) 2 (some q19)) 3 (some q21))))))), (q8, .inr (3, [.ref q9, .ref q10, .ref q11, .ref q12, .int 0])), (q9, .inl (cT 1, 2048, .inl (fun _ => 0))), (q10, .inl (cT 1, 2048, .inl (fun _ => 0))), (q11, .inl (cT 1, 2048, .inl (fun _ => 0))), (q12, .inl (cT 1, 2048, .inl (fun _ => 0))), (q13, .inr (2, [.ref q14, .int 1, .int 0])), (q14, .inl (cT 2, 4096, .inr (.inl (fun _ => 0)))), (q15, .inr (2, [.ref q16, .int 1, .int 0])), (q16, .inl (cT 2, 4096, .inr (.inl (fun _ => 0)))), (q17, .inr (2, [.ref q18, .int 1, .int 0])), (q18, .inl (cT 2, 4096, .inr (.inl (fun _ => 0)))), (q19, .inr (2, [.ref q20, .int 1, .int 0])), (q20, .inl (cT 2, 4096, .inr (.inl (fun _ => 0)))), (q21, .inr (2, [.ref q22, .int 1, .int 0])), (q22, .inl (cT 2, 4096, .inr (.inl (fun _ => 0)))), (q23, .inr (2, [.null, .int 0, .int 0]))] H := ⟨hP, hD⟩
  refine lv_dup hx hb dB_init_94 rfl ?_
  obtain ⟨hPc, hDc, hFc⟩ := xcut (wc := [(q23, .inr (2, [.null, .int 0, .int 0]))]) hP hD hS hA [23] rfl rfl (by decide)
  refine va_callv (va_runIN (As := []) (rest := [.ref q23, .int 4, .ref q7]) ⟨hx, hb, hml, hown, htx⟩ (cR_init_0 l hl9 D cT aK aV H.size q23 .null (.int 0) (.int 0)) ⟨va_cnB (host := "ValueBench") 0 htx (xw_goodC kw_1_82) rfl rfl rfl (hZ.2.1 ("ValueBench", 35, yR_init) (List.mem_of_getElem? (i := 2) rfl)) (htx _ kw_1_4) ⟨by decide, by decide, by decide +kernel⟩ ⟨Nat.le_of_ble_eq_true rfl, Nat.le_of_ble_eq_true rfl⟩, rfl, (htx _ kw_1_81)⟩ ⟨xPre_blind, (fun U hU hW => ⟨rfl, xPre_of hZ hS hFc hPc hDc hK U hU hW⟩)⟩ rfl rfl hl.1 rfl (lv_room (Nat.le_of_ble_eq_true rfl)) dB_init_95 ⟨Nat.le_of_ble_eq_true rfl, Nat.le_of_ble_eq_true rfl⟩) hS (fun q _ h => hFc q h) hFc (fun u9 t H1 locs ht hvm hr9 hB hz1 hk1 hS => ?_)
  obtain ⟨q24, hP1, hK1, hD1⟩ := hB
  rw [ht] at hP1
  obtain ⟨hP, hD⟩ := xjoin (W := [(a0, .inr (0, [.ref q1, .ref q3, .ref q5, .ref q7, .ref q8, .ref q13, .int (-1), .int 0])), (q1, .inr (1, [.ref q2, .int 0, .int 0])), (q2, .inl (cT 0, 4096, .inl (fun _ => 0))), (q3, .inr (1, [.ref q4, .int 0, .int 0])), (q4, .inl (cT 0, 4096, .inl (fun _ => 0))), (q5, .inr (1, [.ref q6, .int 0, .int 0])), (q6, .inl (cT 0, 4096, .inl (fun _ => 0))), (q7, .inl (cT 3, 8, .inr (.inr (.inr (.inr (va_up (va_up (va_up (va_up (fun _ => none) 0 (some q15)) 1 (some q17)) 2 (some q19)) 3 (some q21))))))), (q8, .inr (3, [.ref q9, .ref q10, .ref q11, .ref q12, .int 0])), (q9, .inl (cT 1, 2048, .inl (fun _ => 0))), (q10, .inl (cT 1, 2048, .inl (fun _ => 0))), (q11, .inl (cT 1, 2048, .inl (fun _ => 0))), (q12, .inl (cT 1, 2048, .inl (fun _ => 0))), (q13, .inr (2, [.ref q14, .int 1, .int 0])), (q14, .inl (cT 2, 4096, .inr (.inl (fun _ => 0)))), (q15, .inr (2, [.ref q16, .int 1, .int 0])), (q16, .inl (cT 2, 4096, .inr (.inl (fun _ => 0)))), (q17, .inr (2, [.ref q18, .int 1, .int 0])), (q18, .inl (cT 2, 4096, .inr (.inl (fun _ => 0)))), (q19, .inr (2, [.ref q20, .int 1, .int 0])), (q20, .inl (cT 2, 4096, .inr (.inl (fun _ => 0)))), (q21, .inr (2, [.ref q22, .int 1, .int 0])), (q22, .inl (cT 2, 4096, .inr (.inl (fun _ => 0)))), (q23, .inr (2, [.ref q24, .int 1, .int 0])), (q24, .inl (cT 2, 4096, .inr (.inl (fun _ => 0))))]) hP hD [23] [0, 1, 2, 3, 4, 5, 6, 7, 8, 9, 10, 11, 12, 13, 14, 15, 16, 17, 18, 19, 20, 21, 22] 23 rfl rfl (by decide) (by decide) hk1 hFc hP1 hD1
  generalize H1 = H at hP hS ⊢
  refine va_astq (r := ("ValueBench$Row", TR, 3)) hx hb hK hP hD hS 7 3 23 2 rfl rfl rfl rfl (show ¬ ((4 : Int32) < 0 ∨ 8 ≤ (4 : Int32).toNatClampNeg) by decide) dB_init_98 (fun H locs hP hD hS => ?_)
  obtain ⟨hP, hD⟩ : xPD D xcl A [(a0, .inr (0, [.ref q1, .ref q3, .ref q5, .ref q7, .ref q8, .ref q13, .int (-1), .int 0])), (q1, .inr (1, [.ref q2, .int 0, .int 0])), (q2, .inl (cT 0, 4096, .inl (fun _ => 0))), (q3, .inr (1, [.ref q4, .int 0, .int 0])), (q4, .inl (cT 0, 4096, .inl (fun _ => 0))), (q5, .inr (1, [.ref q6, .int 0, .int 0])), (q6, .inl (cT 0, 4096, .inl (fun _ => 0))), (q7, .inl (cT 3, 8, .inr (.inr (.inr (.inr (va_up (va_up (va_up (va_up (va_up (fun _ => none) 0 (some q15)) 1 (some q17)) 2 (some q19)) 3 (some q21)) 4 (some q23))))))), (q8, .inr (3, [.ref q9, .ref q10, .ref q11, .ref q12, .int 0])), (q9, .inl (cT 1, 2048, .inl (fun _ => 0))), (q10, .inl (cT 1, 2048, .inl (fun _ => 0))), (q11, .inl (cT 1, 2048, .inl (fun _ => 0))), (q12, .inl (cT 1, 2048, .inl (fun _ => 0))), (q13, .inr (2, [.ref q14, .int 1, .int 0])), (q14, .inl (cT 2, 4096, .inr (.inl (fun _ => 0)))), (q15, .inr (2, [.ref q16, .int 1, .int 0])), (q16, .inl (cT 2, 4096, .inr (.inl (fun _ => 0)))), (q17, .inr (2, [.ref q18, .int 1, .int 0])), (q18, .inl (cT 2, 4096, .inr (.inl (fun _ => 0)))), (q19, .inr (2, [.ref q20, .int 1, .int 0])), (q20, .inl (cT 2, 4096, .inr (.inl (fun _ => 0)))), (q21, .inr (2, [.ref q22, .int 1, .int 0])), (q22, .inl (cT 2, 4096, .inr (.inl (fun _ => 0)))), (q23, .inr (2, [.ref q24, .int 1, .int 0])), (q24, .inl (cT 2, 4096, .inr (.inl (fun _ => 0))))] H := ⟨hP, hD⟩
  refine lv_iinc (v := 5) (lv' := [(1, .int 5), (0, .ref a0)]) hx hb dB_init_99 hl (k := 0) rfl (by decide) (by decide) rfl (fun ls hl => ?_)
  refine lv_goto (tgt := 80) hx hb dB_init_102 (by decide) ?_
  refine lv_iload_n hx hb dB_init_80 rfl (lv_at hl 0 rfl) ?_
  refine lv_bipush (v := 8) hx hb dB_init_81 (by decide) ?_
  refine lv_icmp_ge (tgt := 105) hx hb dB_init_83 (by decide) (fun h => ((by revert h; decide : False)).elim) (fun _ => ?_)
  refine lv_aload_n hx hb dB_init_86 rfl (lv_at hl 1 rfl) ?_
  refine va_get (D := D) (ci := 0) (v := .ref q7) (C := "ValueBench") (T := TB) (N := 8) hx hb htx inB hown hK hP 0 rfl rfl 3 (by decide) (htx _ kw_1_98) (fun _ h9 => h9) rfl dB_init_87 ?_
  refine lv_iload_n hx hb dB_init_90 rfl (lv_at hl 0 rfl) ?_
  refine va_new (ci := 2) (fs := [.null, .int 0, .int 0]) (C := "ValueBench$Row") (T := TR) (N := 3) hx hb htx inR tyR tyR_ok hown (htx _ kw_1_54) (htx _ kw_1_79) (htx _ kw_1_4) hK hP hD hS hA rfl (by decide +kernel) (Nat.le_of_ble_eq_true rfl) (Nat.le_of_ble_eq_true rfl) dB_init_91 (fun q25 H hP hD hS => ?_)
  obtain ⟨hP, hD⟩ : xPD D xcl A [(a0, .inr (0, [.ref q1, .ref q3, .ref q5, .ref q7, .ref q8, .ref q13, .int (-1), .int 0])), (q1, .inr (1, [.ref q2, .int 0, .int 0])), (q2, .inl (cT 0, 4096, .inl (fun _ => 0))), (q3, .inr (1, [.ref q4, .int 0, .int 0])), (q4, .inl (cT 0, 4096, .inl (fun _ => 0))), (q5, .inr (1, [.ref q6, .int 0, .int 0])), (q6, .inl (cT 0, 4096, .inl (fun _ => 0))), (q7, .inl (cT 3, 8, .inr (.inr (.inr (.inr (va_up (va_up (va_up (va_up (va_up (fun _ => none) 0 (some q15)) 1 (some q17)) 2 (some q19)) 3 (some q21)) 4 (some q23))))))), (q8, .inr (3, [.ref q9, .ref q10, .ref q11, .ref q12, .int 0])), (q9, .inl (cT 1, 2048, .inl (fun _ => 0))), (q10, .inl (cT 1, 2048, .inl (fun _ => 0))), (q11, .inl (cT 1, 2048, .inl (fun _ => 0))), (q12, .inl (cT 1, 2048, .inl (fun _ => 0))), (q13, .inr (2, [.ref q14, .int 1, .int 0])), (q14, .inl (cT 2, 4096, .inr (.inl (fun _ => 0)))), (q15, .inr (2, [.ref q16, .int 1, .int 0])), (q16, .inl (cT 2, 4096, .inr (.inl (fun _ => 0)))), (q17, .inr (2, [.ref q18, .int 1, .int 0])), (q18, .inl (cT 2, 4096, .inr (.inl (fun _ => 0)))), (q19, .inr (2, [.ref q20, .int 1, .int 0])), (q20, .inl (cT 2, 4096, .inr (.inl (fun _ => 0)))), (q21, .inr (2, [.ref q22, .int 1, .int 0])), (q22, .inl (cT 2, 4096, .inr (.inl (fun _ => 0)))), (q23, .inr (2, [.ref q24, .int 1, .int 0])), (q24, .inl (cT 2, 4096, .inr (.inl (fun _ => 0)))), (q25, .inr (2, [.null, .int 0, .int 0]))] H := ⟨hP, hD⟩
  refine lv_dup hx hb dB_init_94 rfl ?_
  obtain ⟨hPc, hDc, hFc⟩ := xcut (wc := [(q25, .inr (2, [.null, .int 0, .int 0]))]) hP hD hS hA [25] rfl rfl (by decide)
  refine va_callv (va_runIN (As := []) (rest := [.ref q25, .int 5, .ref q7]) ⟨hx, hb, hml, hown, htx⟩ (cR_init_0 l hl9 D cT aK aV H.size q25 .null (.int 0) (.int 0)) ⟨va_cnB (host := "ValueBench") 0 htx (xw_goodC kw_1_82) rfl rfl rfl (hZ.2.1 ("ValueBench", 35, yR_init) (List.mem_of_getElem? (i := 2) rfl)) (htx _ kw_1_4) ⟨by decide, by decide, by decide +kernel⟩ ⟨Nat.le_of_ble_eq_true rfl, Nat.le_of_ble_eq_true rfl⟩, rfl, (htx _ kw_1_81)⟩ ⟨xPre_blind, (fun U hU hW => ⟨rfl, xPre_of hZ hS hFc hPc hDc hK U hU hW⟩)⟩ rfl rfl hl.1 rfl (lv_room (Nat.le_of_ble_eq_true rfl)) dB_init_95 ⟨Nat.le_of_ble_eq_true rfl, Nat.le_of_ble_eq_true rfl⟩) hS (fun q _ h => hFc q h) hFc (fun u9 t H1 locs ht hvm hr9 hB hz1 hk1 hS => ?_)
  obtain ⟨q26, hP1, hK1, hD1⟩ := hB
  rw [ht] at hP1
  obtain ⟨hP, hD⟩ := xjoin (W := [(a0, .inr (0, [.ref q1, .ref q3, .ref q5, .ref q7, .ref q8, .ref q13, .int (-1), .int 0])), (q1, .inr (1, [.ref q2, .int 0, .int 0])), (q2, .inl (cT 0, 4096, .inl (fun _ => 0))), (q3, .inr (1, [.ref q4, .int 0, .int 0])), (q4, .inl (cT 0, 4096, .inl (fun _ => 0))), (q5, .inr (1, [.ref q6, .int 0, .int 0])), (q6, .inl (cT 0, 4096, .inl (fun _ => 0))), (q7, .inl (cT 3, 8, .inr (.inr (.inr (.inr (va_up (va_up (va_up (va_up (va_up (fun _ => none) 0 (some q15)) 1 (some q17)) 2 (some q19)) 3 (some q21)) 4 (some q23))))))), (q8, .inr (3, [.ref q9, .ref q10, .ref q11, .ref q12, .int 0])), (q9, .inl (cT 1, 2048, .inl (fun _ => 0))), (q10, .inl (cT 1, 2048, .inl (fun _ => 0))), (q11, .inl (cT 1, 2048, .inl (fun _ => 0))), (q12, .inl (cT 1, 2048, .inl (fun _ => 0))), (q13, .inr (2, [.ref q14, .int 1, .int 0])), (q14, .inl (cT 2, 4096, .inr (.inl (fun _ => 0)))), (q15, .inr (2, [.ref q16, .int 1, .int 0])), (q16, .inl (cT 2, 4096, .inr (.inl (fun _ => 0)))), (q17, .inr (2, [.ref q18, .int 1, .int 0])), (q18, .inl (cT 2, 4096, .inr (.inl (fun _ => 0)))), (q19, .inr (2, [.ref q20, .int 1, .int 0])), (q20, .inl (cT 2, 4096, .inr (.inl (fun _ => 0)))), (q21, .inr (2, [.ref q22, .int 1, .int 0])), (q22, .inl (cT 2, 4096, .inr (.inl (fun _ => 0)))), (q23, .inr (2, [.ref q24, .int 1, .int 0])), (q24, .inl (cT 2, 4096, .inr (.inl (fun _ => 0)))), (q25, .inr (2, [.ref q26, .int 1, .int 0])), (q26, .inl (cT 2, 4096, .inr (.inl (fun _ => 0))))]) hP hD [25] [0, 1, 2, 3, 4, 5, 6, 7, 8, 9, 10, 11, 12, 13, 14, 15, 16, 17, 18, 19, 20, 21, 22, 23, 24] 25 rfl rfl (by decide) (by decide) hk1 hFc hP1 hD1
  generalize H1 = H at hP hS ⊢
  refine va_astq (r := ("ValueBench$Row", TR, 3)) hx hb hK hP hD hS 7 3 25 2 rfl rfl rfl rfl (show ¬ ((5 : Int32) < 0 ∨ 8 ≤ (5 : Int32).toNatClampNeg) by decide) dB_init_98 (fun H locs hP hD hS => ?_)
  obtain ⟨hP, hD⟩ : xPD D xcl A [(a0, .inr (0, [.ref q1, .ref q3, .ref q5, .ref q7, .ref q8, .ref q13, .int (-1), .int 0])), (q1, .inr (1, [.ref q2, .int 0, .int 0])), (q2, .inl (cT 0, 4096, .inl (fun _ => 0))), (q3, .inr (1, [.ref q4, .int 0, .int 0])), (q4, .inl (cT 0, 4096, .inl (fun _ => 0))), (q5, .inr (1, [.ref q6, .int 0, .int 0])), (q6, .inl (cT 0, 4096, .inl (fun _ => 0))), (q7, .inl (cT 3, 8, .inr (.inr (.inr (.inr (va_up (va_up (va_up (va_up (va_up (va_up (fun _ => none) 0 (some q15)) 1 (some q17)) 2 (some q19)) 3 (some q21)) 4 (some q23)) 5 (some q25))))))), (q8, .inr (3, [.ref q9, .ref q10, .ref q11, .ref q12, .int 0])), (q9, .inl (cT 1, 2048, .inl (fun _ => 0))), (q10, .inl (cT 1, 2048, .inl (fun _ => 0))), (q11, .inl (cT 1, 2048, .inl (fun _ => 0))), (q12, .inl (cT 1, 2048, .inl (fun _ => 0))), (q13, .inr (2, [.ref q14, .int 1, .int 0])), (q14, .inl (cT 2, 4096, .inr (.inl (fun _ => 0)))), (q15, .inr (2, [.ref q16, .int 1, .int 0])), (q16, .inl (cT 2, 4096, .inr (.inl (fun _ => 0)))), (q17, .inr (2, [.ref q18, .int 1, .int 0])), (q18, .inl (cT 2, 4096, .inr (.inl (fun _ => 0)))), (q19, .inr (2, [.ref q20, .int 1, .int 0])), (q20, .inl (cT 2, 4096, .inr (.inl (fun _ => 0)))), (q21, .inr (2, [.ref q22, .int 1, .int 0])), (q22, .inl (cT 2, 4096, .inr (.inl (fun _ => 0)))), (q23, .inr (2, [.ref q24, .int 1, .int 0])), (q24, .inl (cT 2, 4096, .inr (.inl (fun _ => 0)))), (q25, .inr (2, [.ref q26, .int 1, .int 0])), (q26, .inl (cT 2, 4096, .inr (.inl (fun _ => 0))))] H := ⟨hP, hD⟩
  refine lv_iinc (v := 6) (lv' := [(1, .int 6), (0, .ref a0)]) hx hb dB_init_99 hl (k := 0) rfl (by decide) (by decide) rfl (fun ls hl => ?_)
  refine lv_goto (tgt := 80) hx hb dB_init_102 (by decide) ?_
  refine lv_iload_n hx hb dB_init_80 rfl (lv_at hl 0 rfl) ?_
  refine lv_bipush (v := 8) hx hb dB_init_81 (by decide) ?_
  refine lv_icmp_ge (tgt := 105) hx hb dB_init_83 (by decide) (fun h => ((by revert h; decide : False)).elim) (fun _ => ?_)
  refine lv_aload_n hx hb dB_init_86 rfl (lv_at hl 1 rfl) ?_
  refine va_get (D := D) (ci := 0) (v := .ref q7) (C := "ValueBench") (T := TB) (N := 8) hx hb htx inB hown hK hP 0 rfl rfl 3 (by decide) (htx _ kw_1_98) (fun _ h9 => h9) rfl dB_init_87 ?_
  refine lv_iload_n hx hb dB_init_90 rfl (lv_at hl 0 rfl) ?_
  refine va_new (ci := 2) (fs := [.null, .int 0, .int 0]) (C := "ValueBench$Row") (T := TR) (N := 3) hx hb htx inR tyR tyR_ok hown (htx _ kw_1_54) (htx _ kw_1_79) (htx _ kw_1_4) hK hP hD hS hA rfl (by decide +kernel) (Nat.le_of_ble_eq_true rfl) (Nat.le_of_ble_eq_true rfl) dB_init_91 (fun q27 H hP hD hS => ?_)
  obtain ⟨hP, hD⟩ : xPD D xcl A [(a0, .inr (0, [.ref q1, .ref q3, .ref q5, .ref q7, .ref q8, .ref q13, .int (-1), .int 0])), (q1, .inr (1, [.ref q2, .int 0, .int 0])), (q2, .inl (cT 0, 4096, .inl (fun _ => 0))), (q3, .inr (1, [.ref q4, .int 0, .int 0])), (q4, .inl (cT 0, 4096, .inl (fun _ => 0))), (q5, .inr (1, [.ref q6, .int 0, .int 0])), (q6, .inl (cT 0, 4096, .inl (fun _ => 0))), (q7, .inl (cT 3, 8, .inr (.inr (.inr (.inr (va_up (va_up (va_up (va_up (va_up (va_up (fun _ => none) 0 (some q15)) 1 (some q17)) 2 (some q19)) 3 (some q21)) 4 (some q23)) 5 (some q25))))))), (q8, .inr (3, [.ref q9, .ref q10, .ref q11, .ref q12, .int 0])), (q9, .inl (cT 1, 2048, .inl (fun _ => 0))), (q10, .inl (cT 1, 2048, .inl (fun _ => 0))), (q11, .inl (cT 1, 2048, .inl (fun _ => 0))), (q12, .inl (cT 1, 2048, .inl (fun _ => 0))), (q13, .inr (2, [.ref q14, .int 1, .int 0])), (q14, .inl (cT 2, 4096, .inr (.inl (fun _ => 0)))), (q15, .inr (2, [.ref q16, .int 1, .int 0])), (q16, .inl (cT 2, 4096, .inr (.inl (fun _ => 0)))), (q17, .inr (2, [.ref q18, .int 1, .int 0])), (q18, .inl (cT 2, 4096, .inr (.inl (fun _ => 0)))), (q19, .inr (2, [.ref q20, .int 1, .int 0])), (q20, .inl (cT 2, 4096, .inr (.inl (fun _ => 0)))), (q21, .inr (2, [.ref q22, .int 1, .int 0])), (q22, .inl (cT 2, 4096, .inr (.inl (fun _ => 0)))), (q23, .inr (2, [.ref q24, .int 1, .int 0])), (q24, .inl (cT 2, 4096, .inr (.inl (fun _ => 0)))), (q25, .inr (2, [.ref q26, .int 1, .int 0])), (q26, .inl (cT 2, 4096, .inr (.inl (fun _ => 0)))), (q27, .inr (2, [.null, .int 0, .int 0]))] H := ⟨hP, hD⟩
  refine lv_dup hx hb dB_init_94 rfl ?_
  obtain ⟨hPc, hDc, hFc⟩ := xcut (wc := [(q27, .inr (2, [.null, .int 0, .int 0]))]) hP hD hS hA [27] rfl rfl (by decide)
  refine va_callv (va_runIN (As := []) (rest := [.ref q27, .int 6, .ref q7]) ⟨hx, hb, hml, hown, htx⟩ (cR_init_0 l hl9 D cT aK aV H.size q27 .null (.int 0) (.int 0)) ⟨va_cnB (host := "ValueBench") 0 htx (xw_goodC kw_1_82) rfl rfl rfl (hZ.2.1 ("ValueBench", 35, yR_init) (List.mem_of_getElem? (i := 2) rfl)) (htx _ kw_1_4) ⟨by decide, by decide, by decide +kernel⟩ ⟨Nat.le_of_ble_eq_true rfl, Nat.le_of_ble_eq_true rfl⟩, rfl, (htx _ kw_1_81)⟩ ⟨xPre_blind, (fun U hU hW => ⟨rfl, xPre_of hZ hS hFc hPc hDc hK U hU hW⟩)⟩ rfl rfl hl.1 rfl (lv_room (Nat.le_of_ble_eq_true rfl)) dB_init_95 ⟨Nat.le_of_ble_eq_true rfl, Nat.le_of_ble_eq_true rfl⟩) hS (fun q _ h => hFc q h) hFc (fun u9 t H1 locs ht hvm hr9 hB hz1 hk1 hS => ?_)
  obtain ⟨q28, hP1, hK1, hD1⟩ := hB
  rw [ht] at hP1
  obtain ⟨hP, hD⟩ := xjoin (W := [(a0, .inr (0, [.ref q1, .ref q3, .ref q5, .ref q7, .ref q8, .ref q13, .int (-1), .int 0])), (q1, .inr (1, [.ref q2, .int 0, .int 0])), (q2, .inl (cT 0, 4096, .inl (fun _ => 0))), (q3, .inr (1, [.ref q4, .int 0, .int 0])), (q4, .inl (cT 0, 4096, .inl (fun _ => 0))), (q5, .inr (1, [.ref q6, .int 0, .int 0])), (q6, .inl (cT 0, 4096, .inl (fun _ => 0))), (q7, .inl (cT 3, 8, .inr (.inr (.inr (.inr (va_up (va_up (va_up (va_up (va_up (va_up (fun _ => none) 0 (some q15)) 1 (some q17)) 2 (some q19)) 3 (some q21)) 4 (some q23)) 5 (some q25))))))), (q8, .inr (3, [.ref q9, .ref q10, .ref q11, .ref q12, .int 0])), (q9, .inl (cT 1, 2048, .inl (fun _ => 0))), (q10, .inl (cT 1, 2048, .inl (fun _ => 0))), (q11, .inl (cT 1, 2048, .inl (fun _ => 0))), (q12, .inl (cT 1, 2048, .inl (fun _ => 0))), (q13, .inr (2, [.ref q14, .int 1, .int 0])), (q14, .inl (cT 2, 4096, .inr (.inl (fun _ => 0)))), (q15, .inr (2, [.ref q16, .int 1, .int 0])), (q16, .inl (cT 2, 4096, .inr (.inl (fun _ => 0)))), (q17, .inr (2, [.ref q18, .int 1, .int 0])), (q18, .inl (cT 2, 4096, .inr (.inl (fun _ => 0)))), (q19, .inr (2, [.ref q20, .int 1, .int 0])), (q20, .inl (cT 2, 4096, .inr (.inl (fun _ => 0)))), (q21, .inr (2, [.ref q22, .int 1, .int 0])), (q22, .inl (cT 2, 4096, .inr (.inl (fun _ => 0)))), (q23, .inr (2, [.ref q24, .int 1, .int 0])), (q24, .inl (cT 2, 4096, .inr (.inl (fun _ => 0)))), (q25, .inr (2, [.ref q26, .int 1, .int 0])), (q26, .inl (cT 2, 4096, .inr (.inl (fun _ => 0)))), (q27, .inr (2, [.ref q28, .int 1, .int 0])), (q28, .inl (cT 2, 4096, .inr (.inl (fun _ => 0))))]) hP hD [27] [0, 1, 2, 3, 4, 5, 6, 7, 8, 9, 10, 11, 12, 13, 14, 15, 16, 17, 18, 19, 20, 21, 22, 23, 24, 25, 26] 27 rfl rfl (by decide) (by decide) hk1 hFc hP1 hD1
  generalize H1 = H at hP hS ⊢
  refine va_astq (r := ("ValueBench$Row", TR, 3)) hx hb hK hP hD hS 7 3 27 2 rfl rfl rfl rfl (show ¬ ((6 : Int32) < 0 ∨ 8 ≤ (6 : Int32).toNatClampNeg) by decide) dB_init_98 (fun H locs hP hD hS => ?_)
  obtain ⟨hP, hD⟩ : xPD D xcl A [(a0, .inr (0, [.ref q1, .ref q3, .ref q5, .ref q7, .ref q8, .ref q13, .int (-1), .int 0])), (q1, .inr (1, [.ref q2, .int 0, .int 0])), (q2, .inl (cT 0, 4096, .inl (fun _ => 0))), (q3, .inr (1, [.ref q4, .int 0, .int 0])), (q4, .inl (cT 0, 4096, .inl (fun _ => 0))), (q5, .inr (1, [.ref q6, .int 0, .int 0])), (q6, .inl (cT 0, 4096, .inl (fun _ => 0))), (q7, .inl (cT 3, 8, .inr (.inr (.inr (.inr (va_up (va_up (va_up (va_up (va_up (va_up (va_up (fun _ => none) 0 (some q15)) 1 (some q17)) 2 (some q19)) 3 (some q21)) 4 (some q23)) 5 (some q25)) 6 (some q27))))))), (q8, .inr (3, [.ref q9, .ref q10, .ref q11, .ref q12, .int 0])), (q9, .inl (cT 1, 2048, .inl (fun _ => 0))), (q10, .inl (cT 1, 2048, .inl (fun _ => 0))), (q11, .inl (cT 1, 2048, .inl (fun _ => 0))), (q12, .inl (cT 1, 2048, .inl (fun _ => 0))), (q13, .inr (2, [.ref q14, .int 1, .int 0])), (q14, .inl (cT 2, 4096, .inr (.inl (fun _ => 0)))), (q15, .inr (2, [.ref q16, .int 1, .int 0])), (q16, .inl (cT 2, 4096, .inr (.inl (fun _ => 0)))), (q17, .inr (2, [.ref q18, .int 1, .int 0])), (q18, .inl (cT 2, 4096, .inr (.inl (fun _ => 0)))), (q19, .inr (2, [.ref q20, .int 1, .int 0])), (q20, .inl (cT 2, 4096, .inr (.inl (fun _ => 0)))), (q21, .inr (2, [.ref q22, .int 1, .int 0])), (q22, .inl (cT 2, 4096, .inr (.inl (fun _ => 0)))), (q23, .inr (2, [.ref q24, .int 1, .int 0])), (q24, .inl (cT 2, 4096, .inr (.inl (fun _ => 0)))), (q25, .inr (2, [.ref q26, .int 1, .int 0])), (q26, .inl (cT 2, 4096, .inr (.inl (fun _ => 0)))), (q27, .inr (2, [.ref q28, .int 1, .int 0])), (q28, .inl (cT 2, 4096, .inr (.inl (fun _ => 0))))] H := ⟨hP, hD⟩
  refine lv_iinc (v := 7) (lv' := [(1, .int 7), (0, .ref a0)]) hx hb dB_init_99 hl (k := 0) rfl (by decide) (by decide) rfl (fun ls hl => ?_)
  refine lv_goto (tgt := 80) hx hb dB_init_102 (by decide) ?_
  refine lv_iload_n hx hb dB_init_80 rfl (lv_at hl 0 rfl) ?_
  refine lv_bipush (v := 8) hx hb dB_init_81 (by decide) ?_
  refine lv_icmp_ge (tgt := 105) hx hb dB_init_83 (by decide) (fun h => ((by revert h; decide : False)).elim) (fun _ => ?_)
  refine lv_aload_n hx hb dB_init_86 rfl (lv_at hl 1 rfl) ?_
  refine va_get (D := D) (ci := 0) (v := .ref q7) (C := "ValueBench") (T := TB) (N := 8) hx hb htx inB hown hK hP 0 rfl rfl 3 (by decide) (htx _ kw_1_98) (fun _ h9 => h9) rfl dB_init_87 ?_
  refine lv_iload_n hx hb dB_init_90 rfl (lv_at hl 0 rfl) ?_
  refine va_new (ci := 2) (fs := [.null, .int 0, .int 0]) (C := "ValueBench$Row") (T := TR) (N := 3) hx hb htx inR tyR tyR_ok hown (htx _ kw_1_54) (htx _ kw_1_79) (htx _ kw_1_4) hK hP hD hS hA rfl (by decide +kernel) (Nat.le_of_ble_eq_true rfl) (Nat.le_of_ble_eq_true rfl) dB_init_91 (fun q29 H hP hD hS => ?_)
  obtain ⟨hP, hD⟩ : xPD D xcl A [(a0, .inr (0, [.ref q1, .ref q3, .ref q5, .ref q7, .ref q8, .ref q13, .int (-1), .int 0])), (q1, .inr (1, [.ref q2, .int 0, .int 0])), (q2, .inl (cT 0, 4096, .inl (fun _ => 0))), (q3, .inr (1, [.ref q4, .int 0, .int 0])), (q4, .inl (cT 0, 4096, .inl (fun _ => 0))), (q5, .inr (1, [.ref q6, .int 0, .int 0])), (q6, .inl (cT 0, 4096, .inl (fun _ => 0))), (q7, .inl (cT 3, 8, .inr (.inr (.inr (.inr (va_up (va_up (va_up (va_up (va_up (va_up (va_up (fun _ => none) 0 (some q15)) 1 (some q17)) 2 (some q19)) 3 (some q21)) 4 (some q23)) 5 (some q25)) 6 (some q27))))))), (q8, .inr (3, [.ref q9, .ref q10, .ref q11, .ref q12, .int 0])), (q9, .inl (cT 1, 2048, .inl (fun _ => 0))), (q10, .inl (cT 1, 2048, .inl (fun _ => 0))), (q11, .inl (cT 1, 2048, .inl (fun _ => 0))), (q12, .inl (cT 1, 2048, .inl (fun _ => 0))), (q13, .inr (2, [.ref q14, .int 1, .int 0])), (q14, .inl (cT 2, 4096, .inr (.inl (fun _ => 0)))), (q15, .inr (2, [.ref q16, .int 1, .int 0])), (q16, .inl (cT 2, 4096, .inr (.inl (fun _ => 0)))), (q17, .inr (2, [.ref q18, .int 1, .int 0])), (q18, .inl (cT 2, 4096, .inr (.inl (fun _ => 0)))), (q19, .inr (2, [.ref q20, .int 1, .int 0])), (q20, .inl (cT 2, 4096, .inr (.inl (fun _ => 0)))), (q21, .inr (2, [.ref q22, .int 1, .int 0])), (q22, .inl (cT 2, 4096, .inr (.inl (fun _ => 0)))), (q23, .inr (2, [.ref q24, .int 1, .int 0])), (q24, .inl (cT 2, 4096, .inr (.inl (fun _ => 0)))), (q25, .inr (2, [.ref q26, .int 1, .int 0])), (q26, .inl (cT 2, 4096, .inr (.inl (fun _ => 0)))), (q27, .inr (2, [.ref q28, .int 1, .int 0])), (q28, .inl (cT 2, 4096, .inr (.inl (fun _ => 0)))), (q29, .inr (2, [.null, .int 0, .int 0]))] H := ⟨hP, hD⟩
  refine lv_dup hx hb dB_init_94 rfl ?_
  obtain ⟨hPc, hDc, hFc⟩ := xcut (wc := [(q29, .inr (2, [.null, .int 0, .int 0]))]) hP hD hS hA [29] rfl rfl (by decide)
  refine va_callv (va_runIN (As := []) (rest := [.ref q29, .int 7, .ref q7]) ⟨hx, hb, hml, hown, htx⟩ (cR_init_0 l hl9 D cT aK aV H.size q29 .null (.int 0) (.int 0)) ⟨va_cnB (host := "ValueBench") 0 htx (xw_goodC kw_1_82) rfl rfl rfl (hZ.2.1 ("ValueBench", 35, yR_init) (List.mem_of_getElem? (i := 2) rfl)) (htx _ kw_1_4) ⟨by decide, by decide, by decide +kernel⟩ ⟨Nat.le_of_ble_eq_true rfl, Nat.le_of_ble_eq_true rfl⟩, rfl, (htx _ kw_1_81)⟩ ⟨xPre_blind, (fun U hU hW => ⟨rfl, xPre_of hZ hS hFc hPc hDc hK U hU hW⟩)⟩ rfl rfl hl.1 rfl (lv_room (Nat.le_of_ble_eq_true rfl)) dB_init_95 ⟨Nat.le_of_ble_eq_true rfl, Nat.le_of_ble_eq_true rfl⟩) hS (fun q _ h => hFc q h) hFc (fun u9 t H1 locs ht hvm hr9 hB hz1 hk1 hS => ?_)
  obtain ⟨q30, hP1, hK1, hD1⟩ := hB
  rw [ht] at hP1
  obtain ⟨hP, hD⟩ := xjoin (W := [(a0, .inr (0, [.ref q1, .ref q3, .ref q5, .ref q7, .ref q8, .ref q13, .int (-1), .int 0])), (q1, .inr (1, [.ref q2, .int 0, .int 0])), (q2, .inl (cT 0, 4096, .inl (fun _ => 0))), (q3, .inr (1, [.ref q4, .int 0, .int 0])), (q4, .inl (cT 0, 4096, .inl (fun _ => 0))), (q5, .inr (1, [.ref q6, .int 0, .int 0])), (q6, .inl (cT 0, 4096, .inl (fun _ => 0))), (q7, .inl (cT 3, 8, .inr (.inr (.inr (.inr (va_up (va_up (va_up (va_up (va_up (va_up (va_up (fun _ => none) 0 (some q15)) 1 (some q17)) 2 (some q19)) 3 (some q21)) 4 (some q23)) 5 (some q25)) 6 (some q27))))))), (q8, .inr (3, [.ref q9, .ref q10, .ref q11, .ref q12, .int 0])), (q9, .inl (cT 1, 2048, .inl (fun _ => 0))), (q10, .inl (cT 1, 2048, .inl (fun _ => 0))), (q11, .inl (cT 1, 2048, .inl (fun _ => 0))), (q12, .inl (cT 1, 2048, .inl (fun _ => 0))), (q13, .inr (2, [.ref q14, .int 1, .int 0])), (q14, .inl (cT 2, 4096, .inr (.inl (fun _ => 0)))), (q15, .inr (2, [.ref q16, .int 1, .int 0])), (q16, .inl (cT 2, 4096, .inr (.inl (fun _ => 0)))), (q17, .inr (2, [.ref q18, .int 1, .int 0])), (q18, .inl (cT 2, 4096, .inr (.inl (fun _ => 0)))), (q19, .inr (2, [.ref q20, .int 1, .int 0])), (q20, .inl (cT 2, 4096, .inr (.inl (fun _ => 0)))), (q21, .inr (2, [.ref q22, .int 1, .int 0])), (q22, .inl (cT 2, 4096, .inr (.inl (fun _ => 0)))), (q23, .inr (2, [.ref q24, .int 1, .int 0])), (q24, .inl (cT 2, 4096, .inr (.inl (fun _ => 0)))), (q25, .inr (2, [.ref q26, .int 1, .int 0])), (q26, .inl (cT 2, 4096, .inr (.inl (fun _ => 0)))), (q27, .inr (2, [.ref q28, .int 1, .int 0])), (q28, .inl (cT 2, 4096, .inr (.inl (fun _ => 0)))), (q29, .inr (2, [.ref q30, .int 1, .int 0])), (q30, .inl (cT 2, 4096, .inr (.inl (fun _ => 0))))]) hP hD [29] [0, 1, 2, 3, 4, 5, 6, 7, 8, 9, 10, 11, 12, 13, 14, 15, 16, 17, 18, 19, 20, 21, 22, 23, 24, 25, 26, 27, 28] 29 rfl rfl (by decide) (by decide) hk1 hFc hP1 hD1
  generalize H1 = H at hP hS ⊢
  refine va_astq (r := ("ValueBench$Row", TR, 3)) hx hb hK hP hD hS 7 3 29 2 rfl rfl rfl rfl (show ¬ ((7 : Int32) < 0 ∨ 8 ≤ (7 : Int32).toNatClampNeg) by decide) dB_init_98 (fun H locs hP hD hS => ?_)
  obtain ⟨hP, hD⟩ : xPD D xcl A [(a0, .inr (0, [.ref q1, .ref q3, .ref q5, .ref q7, .ref q8, .ref q13, .int (-1), .int 0])), (q1, .inr (1, [.ref q2, .int 0, .int 0])), (q2, .inl (cT 0, 4096, .inl (fun _ => 0))), (q3, .inr (1, [.ref q4, .int 0, .int 0])), (q4, .inl (cT 0, 4096, .inl (fun _ => 0))), (q5, .inr (1, [.ref q6, .int 0, .int 0])), (q6, .inl (cT 0, 4096, .inl (fun _ => 0))), (q7, .inl (cT 3, 8, .inr (.inr (.inr (.inr (va_up (va_up (va_up (va_up (va_up (va_up (va_up (va_up (fun _ => none) 0 (some q15)) 1 (some q17)) 2 (some q19)) 3 (some q21)) 4 (some q23)) 5 (some q25)) 6 (some q27)) 7 (some q29))))))), (q8, .inr (3, [.ref q9, .ref q10, .ref q11, .ref q12, .int 0])), (q9, .inl (cT 1, 2048, .inl (fun _ => 0))), (q10, .inl (cT 1, 2048, .inl (fun _ => 0))), (q11, .inl (cT 1, 2048, .inl (fun _ => 0))), (q12, .inl (cT 1, 2048, .inl (fun _ => 0))), (q13, .inr (2, [.ref q14, .int 1, .int 0])), (q14, .inl (cT 2, 4096, .inr (.inl (fun _ => 0)))), (q15, .inr (2, [.ref q16, .int 1, .int 0])), (q16, .inl (cT 2, 4096, .inr (.inl (fun _ => 0)))), (q17, .inr (2, [.ref q18, .int 1, .int 0])), (q18, .inl (cT 2, 4096, .inr (.inl (fun _ => 0)))), (q19, .inr (2, [.ref q20, .int 1, .int 0])), (q20, .inl (cT 2, 4096, .inr (.inl (fun _ => 0)))), (q21, .inr (2, [.ref q22, .int 1, .int 0])), (q22, .inl (cT 2, 4096, .inr (.inl (fun _ => 0)))), (q23, .inr (2, [.ref q24, .int 1, .int 0])), (q24, .inl (cT 2, 4096, .inr (.inl (fun _ => 0)))), (q25, .inr (2, [.ref q26, .int 1, .int 0])), (q26, .inl (cT 2, 4096, .inr (.inl (fun _ => 0)))), (q27, .inr (2, [.ref q28, .int 1, .int 0])), (q28, .inl (cT 2, 4096, .inr (.inl (fun _ => 0)))), (q29, .inr (2, [.ref q30, .int 1, .int 0])), (q30, .inl (cT 2, 4096, .inr (.inl (fun _ => 0))))] H := ⟨hP, hD⟩
  refine lv_iinc (v := 8) (lv' := [(1, .int 8), (0, .ref a0)]) hx hb dB_init_99 hl (k := 0) rfl (by decide) (by decide) rfl (fun ls hl => ?_)
  refine lv_goto (tgt := 80) hx hb dB_init_102 (by decide) ?_
  refine lv_iload_n hx hb dB_init_80 rfl (lv_at hl 0 rfl) ?_
  refine lv_bipush (v := 8) hx hb dB_init_81 (by decide) ?_
  refine lv_icmp_ge (tgt := 105) hx hb dB_init_83 (by decide) (fun _ => ?_) (fun h => ((by revert h; decide : False)).elim)
  obtain ⟨hP9, hD9⟩ := xsub (wc := [(a0, .inr (0, [.ref q1, .ref q3, .ref q5, .ref q7, .ref q8, .ref q13, .int (-1), .int 0])), (q1, .inr (1, [.ref q2, .int 0, .int 0])), (q2, .inl (cT 0, 4096, .inl (fun _ => 0))), (q3, .inr (1, [.ref q4, .int 0, .int 0])), (q4, .inl (cT 0, 4096, .inl (fun _ => 0))), (q5, .inr (1, [.ref q6, .int 0, .int 0])), (q6, .inl (cT 0, 4096, .inl (fun _ => 0))), (q7, .inl (cT 3, 8, .inr (.inr (.inr (.inr (va_up (va_up (va_up (va_up (va_up (va_up (va_up (va_up (fun _ => none) 0 (some q15)) 1 (some q17)) 2 (some q19)) 3 (some q21)) 4 (some q23)) 5 (some q25)) 6 (some q27)) 7 (some q29))))))), (q8, .inr (3, [.ref q9, .ref q10, .ref q11, .ref q12, .int 0])), (q9, .inl (cT 1, 2048, .inl (fun _ => 0))), (q10, .inl (cT 1, 2048, .inl (fun _ => 0))), (q11, .inl (cT 1, 2048, .inl (fun _ => 0))), (q12, .inl (cT 1, 2048, .inl (fun _ => 0))), (q13, .inr (2, [.ref q14, .int 1, .int 0])), (q14, .inl (cT 2, 4096, .inr (.inl (fun _ => 0)))), (q15, .inr (2, [.ref q16, .int 1, .int 0])), (q16, .inl (cT 2, 4096, .inr (.inl (fun _ => 0)))), (q17, .inr (2, [.ref q18, .int 1, .int 0])), (q18, .inl (cT 2, 4096, .inr (.inl (fun _ => 0)))), (q19, .inr (2, [.ref q20, .int 1, .int 0])), (q20, .inl (cT 2, 4096, .inr (.inl (fun _ => 0)))), (q21, .inr (2, [.ref q22, .int 1, .int 0])), (q22, .inl (cT 2, 4096, .inr (.inl (fun _ => 0)))), (q23, .inr (2, [.ref q24, .int 1, .int 0])), (q24, .inl (cT 2, 4096, .inr (.inl (fun _ => 0)))), (q25, .inr (2, [.ref q26, .int 1, .int 0])), (q26, .inl (cT 2, 4096, .inr (.inl (fun _ => 0)))), (q27, .inr (2, [.ref q28, .int 1, .int 0])), (q28, .inl (cT 2, 4096, .inr (.inl (fun _ => 0)))), (q29, .inr (2, [.ref q30, .int 1, .int 0])), (q30, .inl (cT 2, 4096, .inr (.inl (fun _ => 0))))]) hP hD [0, 1, 2, 3, 4, 5, 6, 7, 8, 9, 10, 11, 12, 13, 14, 15, 16, 17, 18, 19, 20, 21, 22, 23, 24, 25, 26, 27, 28, 29, 30] rfl rfl (by decide)
  refine W.widen (k := 30) (n := 57393) (Nat.le_of_ble_eq_true rfl) (Nat.le_of_ble_eq_true rfl) ?_
  exact W.vret hx hb hr (fun t ht hW => ⟨⟨(), rfl, trivial, q1, q2, q3, q4, q5, q6, q7, q8, q9, q10, q11, q12, q13, q14, q15, q16, q17, q18, q19, q20, q21, q22, q23, q24, q25, q26, q27, q28, q29, q30, by rw [ht]; exact hP9, va_K.moved hW.alike hK, hD9⟩, hS.F ht⟩) hS.2.2 dB_init_105
set_option maxHeartbeats 400000000 in
set_option maxRecDepth 100000 in
theorem cJS_isLatin1_0 (l : Launch) (hl9 : l.stackTraces = false) (D : va_G) (cT : Nat → ClassId) (aK aV : Nat → Nat) (sz : Nat) : xMet l yJS_isLatin1 wyJS_isLatin1 0 0 0 0 D cT aK aV sz [.ref (aK 10)] [] (fun A => va_Qi (fun (r : Int32) (_ : Unit) => r = 1) (fun _ t => xB D xcl cT A [] t) A) := by
  refine Met.ofW (cc := prog_23_method_154_code) (maxL := 1) (ret := (some .boolean)) (by decide) rfl ?_
  intro p e s m args below meth c s₁ B hml hv
  obtain ⟨rfl, hsz, hZ, hP, hK, hD0⟩ := hv
  have hx := B.exec
  have hb := B.bytes
  have hr := B.returns
  have hts := atoms_spec (ws := wyJS_isLatin1) B.pre
  have htx := fun w h => hts w (List.mem_cons_of_mem _ h)
  have hown : s.vm.findClass "java/lang/String" = some m.cls := findClass_of_methodNamed B.named
  have hlocks := B.notSynchronized
  subst hsz
  have hD := hD0.self (sz := s.heap.size)
  generalize hAe : va_A [] s.heap.size = A at hD hZ ⊢
  have hA : ∀ q : Nat, s.heap.size ≤ q → A q := fun q h => by rw [← hAe]; exact Or.inr h
  have hS : va_S A s.heap s.heap [] := va_S.rf
  have hP : va_P D xcl [] s.heap := hP
  have hl := lv_entry ([.ref (aK 10)]) (n := 1) (Nat.le_of_ble_eq_true rfl)
  rw [lg_entry_eq]
  generalize (lg_sl ([.ref (aK 10)]) ++ List.replicate (1 - (lg_sl ([.ref (aK 10)])).length) Slot.unset).toArray = ls at hl ⊢
  have hl : lv_has ls 1 [(0, .ref (aK 10))] := hl
  refine va_gets hx hb hZ.2.2.2.2.2.2.2.2.2.2.1 hS hown (htx _ kw_2_75) (fun _ h9 => h9) dJS_isLatin1_0 ?_
  refine lv_if_eq (tgt := 17) hx hb dJS_isLatin1_3 (by decide) (fun h => ((by revert h; decide : False)).elim) (fun _ => ?_)
  refine lv_aload_n hx hb dJS_isLatin1_6 rfl (lv_at hl 0 rfl) ?_
  refine vk_getf (o := "java/lang/String") (n := "coder") (d := "B") (v := .int 0) hx hb (hZ.2.2.2.2.2.2.2.2.2.1.1 10 (by decide)).2.1 hS hown (htx _ kw_7_133) (fun _ h9 => h9) dJS_isLatin1_7 ?_
  refine lv_if_ne (tgt := 17) hx hb dJS_isLatin1_10 (by decide) (fun h => ((by revert h; decide : False)).elim) (fun _ => ?_)
  refine lv_iconst (v := 1) hx hb dJS_isLatin1_13 (by decide) ?_
  refine lv_goto (tgt := 18) hx hb dJS_isLatin1_14 (by decide) ?_
  obtain ⟨hP9, hD9⟩ := xsub (wc := []) hP hD [] rfl rfl (by decide)
  refine W.widen (k := 0) (n := 0) (Nat.le_of_ble_eq_true rfl) (Nat.le_of_ble_eq_true rfl) ?_
  exact W.zret (v := 1) hx hb hr rfl (fun t ht hW => ⟨⟨1, (), rfl, rfl, by rw [ht]; exact hP9, va_K.moved hW.alike hK, hD9⟩, hS.F ht⟩) hS.2.2 dJS_isLatin1_18
set_option maxHeartbeats 400000000 in
set_option maxRecDepth 100000 in
theorem cJP_checkIndex_0 (l : Launch) (hl9 : l.stackTraces = false) (D : va_G) (cT : Nat → ClassId) (aK aV : Nat → Nat) (sz : Nat) : xMet l yJP_checkIndex wyJP_checkIndex 0 0 0 0 D cT aK aV sz [.int 0, .int 4, .null] [] (fun A => va_Qi (fun (r : Int32) (_ : Unit) => r = 0) (fun _ t => xB D xcl cT A [] t) A) := by
  refine Met.ofW (cc := prog_29_method_11_code) (maxL := 3) (ret := (some .int)) (by decide) rfl ?_
  intro p e s m args below meth c s₁ B hml hv
  obtain ⟨rfl, hsz, hZ, hP, hK, hD0⟩ := hv
  have hx := B.exec
  have hb := B.bytes
  have hr := B.returns
  have hts := atoms_spec (ws := wyJP_checkIndex) B.pre
  have htx := fun w h => hts w (List.mem_cons_of_mem _ h)
  have hown : s.vm.findClass "jdk/internal/util/Preconditions" = some m.cls := findClass_of_methodNamed B.named
  have hlocks := B.notSynchronized
  subst hsz
  have hD := hD0.self (sz := s.heap.size)
  generalize hAe : va_A [] s.heap.size = A at hD hZ ⊢
  have hA : ∀ q : Nat, s.heap.size ≤ q → A q := fun q h => by rw [← hAe]; exact Or.inr h
  have hS : va_S A s.heap s.heap [] := va_S.rf
  have hP : va_P D xcl [] s.heap := hP
  have hl := lv_entry ([.int 0, .int 4, .null]) (n := 3) (Nat.le_of_ble_eq_true rfl)
  rw [lg_entry_eq]
  generalize (lg_sl ([.int 0, .int 4, .null]) ++ List.replicate (3 - (lg_sl ([.int 0, .int 4, .null])).length) Slot.unset).toArray = ls at hl ⊢
  have hl : lv_has ls 3 [(0, .int 0), (1, .int 4), (2, .null)] := hl
  refine lv_iload_n hx hb dJP_checkIndex_0 rfl (lv_at hl 0 rfl) ?_
  refine lv_if_lt (tgt := 9) hx hb dJP_checkIndex_1 (by decide) (fun h => ((by revert h; decide : False)).elim) (fun _ => ?_)
  refine lv_iload_n hx hb dJP_checkIndex_4 rfl (lv_at hl 0 rfl) ?_
  refine lv_iload_n hx hb dJP_checkIndex_5 rfl (lv_at hl 1 rfl) ?_
  refine lv_icmp_lt (tgt := 16) hx hb dJP_checkIndex_6 (by decide) (fun _ => ?_) (fun h => ((by revert h; decide : False)).elim)
  refine lv_iload_n hx hb dJP_checkIndex_16 rfl (lv_at hl 0 rfl) ?_
  obtain ⟨hP9, hD9⟩ := xsub (wc := []) hP hD [] rfl rfl (by decide)
  refine W.widen (k := 0) (n := 0) (Nat.le_of_ble_eq_true rfl) (Nat.le_of_ble_eq_true rfl) ?_
  exact W.iret (v := 0) hx hb hr (fun t ht hW => ⟨⟨0, (), rfl, rfl, by rw [ht]; exact hP9, va_K.moved hW.alike hK, hD9⟩, hS.F ht⟩) hS.2.2 dJP_checkIndex_17
set_option maxHeartbeats 400000000 in
set_option maxRecDepth 100000 in
theorem cJP_checkIndex_1 (l : Launch) (hl9 : l.stackTraces = false) (D : va_G) (cT : Nat → ClassId) (aK aV : Nat → Nat) (sz : Nat) (b0 : Nat) : xMet l yJP_checkIndex wyJP_checkIndex 0 0 0 0 D cT aK aV sz [.int 0, .int 4, .ref b0] [] (fun A => va_Qi (fun (r : Int32) (_ : Unit) => r = 0) (fun _ t => xB D xcl cT A [] t) A) := by
  refine Met.ofW (cc := prog_29_method_11_code) (maxL := 3) (ret := (some .int)) (by decide) rfl ?_
  intro p e s m args below meth c s₁ B hml hv
  obtain ⟨rfl, hsz, hZ, hP, hK, hD0⟩ := hv
  have hx := B.exec
  have hb := B.bytes
  have hr := B.returns
  have hts := atoms_spec (ws := wyJP_checkIndex) B.pre
  have htx := fun w h => hts w (List.mem_cons_of_mem _ h)
  have hown : s.vm.findClass "jdk/internal/util/Preconditions" = some m.cls := findClass_of_methodNamed B.named
  have hlocks := B.notSynchronized
  subst hsz
  have hD := hD0.self (sz := s.heap.size)
  generalize hAe : va_A [] s.heap.size = A at hD hZ ⊢
  have hA : ∀ q : Nat, s.heap.size ≤ q → A q := fun q h => by rw [← hAe]; exact Or.inr h
  have hS : va_S A s.heap s.heap [] := va_S.rf
  have hP : va_P D xcl [] s.heap := hP
  have hl := lv_entry ([.int 0, .int 4, .ref b0]) (n := 3) (Nat.le_of_ble_eq_true rfl)
  rw [lg_entry_eq]
  generalize (lg_sl ([.int 0, .int 4, .ref b0]) ++ List.replicate (3 - (lg_sl ([.int 0, .int 4, .ref b0])).length) Slot.unset).toArray = ls at hl ⊢
  have hl : lv_has ls 3 [(0, .int 0), (1, .int 4), (2, .ref b0)] := hl
  refine lv_iload_n hx hb dJP_checkIndex_0 rfl (lv_at hl 0 rfl) ?_
  refine lv_if_lt (tgt := 9) hx hb dJP_checkIndex_1 (by decide) (fun h => ((by revert h; decide : False)).elim) (fun _ => ?_)
  refine lv_iload_n hx hb dJP_checkIndex_4 rfl (lv_at hl 0 rfl) ?_
  refine lv_iload_n hx hb dJP_checkIndex_5 rfl (lv_at hl 1 rfl) ?_
  refine lv_icmp_lt (tgt := 16) hx hb dJP_checkIndex_6 (by decide) (fun _ => ?_) (fun h => ((by revert h; decide : False)).elim)
  refine lv_iload_n hx hb dJP_checkIndex_16 rfl (lv_at hl 0 rfl) ?_
  obtain ⟨hP9, hD9⟩ := xsub (wc := []) hP hD [] rfl rfl (by decide)
  refine W.widen (k := 0) (n := 0) (Nat.le_of_ble_eq_true rfl) (Nat.le_of_ble_eq_true rfl) ?_
  exact W.iret (v := 0) hx hb hr (fun t ht hW => ⟨⟨0, (), rfl, rfl, by rw [ht]; exact hP9, va_K.moved hW.alike hK, hD9⟩, hS.F ht⟩) hS.2.2 dJP_checkIndex_17
set_option maxHeartbeats 400000000 in
set_option maxRecDepth 100000 in
theorem cJS_checkIndex_0 (l : Launch) (hl9 : l.stackTraces = false) (D : va_G) (cT : Nat → ClassId) (aK aV : Nat → Nat) (sz : Nat) : xMet l yJS_checkIndex wyJS_checkIndex 1 0 0 22 D cT aK aV sz [.int 0, .int 4] [] (fun A => va_Qv (fun _ : Unit => True) (fun _ t => xB D xcl cT A [] t) A) := by
  refine Met.ofW (cc := prog_23_method_155_code) (maxL := 2) (ret := none) (by decide) rfl ?_
  intro p e s m args below meth c s₁ B hml hv
  obtain ⟨rfl, hsz, hZ, hP, hK, hD0⟩ := hv
  have hx := B.exec
  have hb := B.bytes
  have hr := B.returns
  have hts := atoms_spec (ws := wyJS_checkIndex) B.pre
  have htx := fun w h => hts w (List.mem_cons_of_mem _ h)
  have hown : s.vm.findClass "java/lang/String" = some m.cls := findClass_of_methodNamed B.named
  have hlocks := B.notSynchronized
  subst hsz
  have hD := hD0.self (sz := s.heap.size)
  generalize hAe : va_A [] s.heap.size = A at hD hZ ⊢
  have hA : ∀ q : Nat, s.heap.size ≤ q → A q := fun q h => by rw [← hAe]; exact Or.inr h
  have hS : va_S A s.heap s.heap [] := va_S.rf
  have hP : va_P D xcl [] s.heap := hP
  have hl := lv_entry ([.int 0, .int 4]) (n := 2) (Nat.le_of_ble_eq_true rfl)
  rw [lg_entry_eq]
  generalize (lg_sl ([.int 0, .int 4]) ++ List.replicate (2 - (lg_sl ([.int 0, .int 4])).length) Slot.unset).toArray = ls at hl ⊢
  have hl : lv_has ls 2 [(0, .int 0), (1, .int 4)] := hl
  refine lv_iload_n hx hb dJS_checkIndex_0 rfl (lv_at hl 0 rfl) ?_
  refine lv_iload_n hx hb dJS_checkIndex_1 rfl (lv_at hl 1 rfl) ?_
  rcases hZ.2.2.2.2.2.2.2.2.2.2.2.1 with hq9 | ⟨b9, hq9⟩
  · refine va_gets hx hb hq9 hS hown (htx _ kw_2_91) (fun _ h9 => h9) dJS_checkIndex_2 ?_
    obtain ⟨hPc, hDc, hFc⟩ := xcut (wc := []) hP hD hS hA [] rfl rfl (by decide)
    refine va_calli (va_runS (As := [.int 0, .int 4, .null]) (rest := []) ⟨hx, hb, hml, hown, htx⟩ (cJP_checkIndex_0 l hl9 D cT aK aV s.heap.size) ⟨callB_of 3 htx (xw_goodC kw_2_95) rfl rfl rfl (htx _ kw_1_8) (htx _ kw_2_93) ⟨by decide, by decide, by decide +kernel⟩ ⟨Nat.le_of_ble_eq_true rfl, Nat.le_of_ble_eq_true rfl⟩, htx _ kw_2_94⟩ ⟨xPre_blind, (fun U hU hW => ⟨rfl, xPre_of hZ hS hFc hPc hDc hK U hU hW⟩)⟩ rfl rfl hl.1 rfl (lv_room (Nat.le_of_ble_eq_true rfl)) dJS_checkIndex_5 ⟨Nat.le_of_ble_eq_true rfl, Nat.le_of_ble_eq_true rfl⟩) hS (fun q _ h => hFc q h) hFc (fun r1 u9 t H1 locs ht hvm hr9 hB hz1 hk1 hS => ?_)
    obtain ⟨hP1, hK1, hD1⟩ := hB
    rw [ht] at hP1
    obtain ⟨hP, hD⟩ := xjoin (W := []) hP hD [] [] 0 rfl rfl (by decide) (by decide) hk1 hFc hP1 hD1
    generalize H1 = H at hP hS ⊢
    rw [hr9]
    refine W.eq (g2 := F0 m 8 ls [.int 0]) rfl ?_
    refine lv_pop hx hb dJS_checkIndex_8 rfl ?_
    obtain ⟨hP9, hD9⟩ := xsub (wc := []) hP hD [] rfl rfl (by decide)
    refine W.widen (k := 0) (n := 0) (Nat.le_of_ble_eq_true rfl) (Nat.le_of_ble_eq_true rfl) ?_
    exact W.vret hx hb hr (fun t ht hW => ⟨⟨(), rfl, trivial, by rw [ht]; exact hP9, va_K.moved hW.alike hK, hD9⟩, hS.F ht⟩) hS.2.2 dJS_checkIndex_9
  · refine va_gets hx hb hq9 hS hown (htx _ kw_2_91) (fun _ h9 => h9) dJS_checkIndex_2 ?_
    obtain ⟨hPc, hDc, hFc⟩ := xcut (wc := []) hP hD hS hA [] rfl rfl (by decide)
    refine va_calli (va_runS (As := [.int 0, .int 4, .ref b9]) (rest := []) ⟨hx, hb, hml, hown, htx⟩ (cJP_checkIndex_1 l hl9 D cT aK aV s.heap.size b9) ⟨callB_of 3 htx (xw_goodC kw_2_95) rfl rfl rfl (htx _ kw_1_8) (htx _ kw_2_93) ⟨by decide, by decide, by decide +kernel⟩ ⟨Nat.le_of_ble_eq_true rfl, Nat.le_of_ble_eq_true rfl⟩, htx _ kw_2_94⟩ ⟨xPre_blind, (fun U hU hW => ⟨rfl, xPre_of hZ hS hFc hPc hDc hK U hU hW⟩)⟩ rfl rfl hl.1 rfl (lv_room (Nat.le_of_ble_eq_true rfl)) dJS_checkIndex_5 ⟨Nat.le_of_ble_eq_true rfl, Nat.le_of_ble_eq_true rfl⟩) hS (fun q _ h => hFc q h) hFc (fun r1 u9 t H1 locs ht hvm hr9 hB hz1 hk1 hS => ?_)
    obtain ⟨hP1, hK1, hD1⟩ := hB
    rw [ht] at hP1
    obtain ⟨hP, hD⟩ := xjoin (W := []) hP hD [] [] 0 rfl rfl (by decide) (by decide) hk1 hFc hP1 hD1
    generalize H1 = H at hP hS ⊢
    rw [hr9]
    refine W.eq (g2 := F0 m 8 ls [.int 0]) rfl ?_
    refine lv_pop hx hb dJS_checkIndex_8 rfl ?_
    obtain ⟨hP9, hD9⟩ := xsub (wc := []) hP hD [] rfl rfl (by decide)
    refine W.widen (k := 0) (n := 0) (Nat.le_of_ble_eq_true rfl) (Nat.le_of_ble_eq_true rfl) ?_
    exact W.vret hx hb hr (fun t ht hW => ⟨⟨(), rfl, trivial, by rw [ht]; exact hP9, va_K.moved hW.alike hK, hD9⟩, hS.F ht⟩) hS.2.2 dJS_checkIndex_9
set_option maxHeartbeats 400000000 in
set_option maxRecDepth 100000 in
theorem cJT_charAt_0 (l : Launch) (hl9 : l.stackTraces = false) (D : va_G) (cT : Nat → ClassId) (aK aV : Nat → Nat) (sz : Nat) : xMet l yJT_charAt wyJT_charAt 2 0 0 43 D cT aK aV sz [.ref (aV 10), .int 0] [] (fun A => va_Qi (fun (r : Int32) (_ : Unit) => r = 110) (fun _ t => xB D xcl cT A [] t) A) := by
  refine Met.ofW (cc := prog_24_method_2_code) (maxL := 2) (ret := (some .char)) (by decide) rfl ?_
  intro p e s m args below meth c s₁ B hml hv
  obtain ⟨rfl, hsz, hZ, hP, hK, hD0⟩ := hv
  have hx := B.exec
  have hb := B.bytes
  have hr := B.returns
  have hts := atoms_spec (ws := wyJT_charAt) B.pre
  have htx := fun w h => hts w (List.mem_cons_of_mem _ h)
  have hown : s.vm.findClass "java/lang/StringLatin1" = some m.cls := findClass_of_methodNamed B.named
  have hlocks := B.notSynchronized
  subst hsz
  have hD := hD0.self (sz := s.heap.size)
  generalize hAe : va_A [] s.heap.size = A at hD hZ ⊢
  have hA : ∀ q : Nat, s.heap.size ≤ q → A q := fun q h => by rw [← hAe]; exact Or.inr h
  have hS : va_S A s.heap s.heap [] := va_S.rf
  have hP : va_P D xcl [] s.heap := hP
  have hl := lv_entry ([.ref (aV 10), .int 0]) (n := 2) (Nat.le_of_ble_eq_true rfl)
  rw [lg_entry_eq]
  generalize (lg_sl ([.ref (aV 10), .int 0]) ++ List.replicate (2 - (lg_sl ([.ref (aV 10), .int 0])).length) Slot.unset).toArray = ls at hl ⊢
  have hl : lv_has ls 2 [(0, .ref (aV 10)), (1, .int 0)] := hl
  refine lv_iload_n hx hb dJT_charAt_0 rfl (lv_at hl 1 rfl) ?_
  refine lv_aload_n hx hb dJT_charAt_1 rfl (lv_at hl 0 rfl) ?_
  refine va_tlen (v := 4) hx hb (hZ.2.2.2.2.2.2.2.2.2.1.1 10 (by decide)).2.2.2 hS rfl dJT_charAt_2 ?_
  obtain ⟨hPc, hDc, hFc⟩ := xcut (wc := []) hP hD hS hA [] rfl rfl (by decide)
  refine va_callv (va_runS (As := [.int 0, .int 4]) (rest := []) ⟨hx, hb, hml, hown, htx⟩ (cJS_checkIndex_0 l hl9 D cT aK aV s.heap.size) ⟨callB_of 2 htx (xw_goodC kw_2_90) rfl rfl rfl (htx _ kw_1_6) (htx _ kw_2_88) ⟨by decide, by decide, by decide +kernel⟩ ⟨Nat.le_of_ble_eq_true rfl, Nat.le_of_ble_eq_true rfl⟩, htx _ kw_2_89⟩ ⟨xPre_blind, (fun U hU hW => ⟨rfl, xPre_of hZ hS hFc hPc hDc hK U hU hW⟩)⟩ rfl rfl hl.1 rfl (lv_room (Nat.le_of_ble_eq_true rfl)) dJT_charAt_3 ⟨Nat.le_of_ble_eq_true rfl, Nat.le_of_ble_eq_true rfl⟩) hS (fun q _ h => hFc q h) hFc (fun u9 t H1 locs ht hvm hr9 hB hz1 hk1 hS => ?_)
  obtain ⟨hP1, hK1, hD1⟩ := hB
  rw [ht] at hP1
  obtain ⟨hP, hD⟩ := xjoin (W := []) hP hD [] [] 0 rfl rfl (by decide) (by decide) hk1 hFc hP1 hD1
  generalize H1 = H at hP hS ⊢
  refine lv_aload_n hx hb dJT_charAt_6 rfl (lv_at hl 0 rfl) ?_
  refine lv_iload_n hx hb dJT_charAt_7 rfl (lv_at hl 1 rfl) ?_
  refine va_tb (v := .int 110) hx hb (hZ.2.2.2.2.2.2.2.2.2.1.1 10 (by decide)).2.2.2 hS (show ¬ ((0 : Int32) < 0 ∨ 4 ≤ (0 : Int32).toNatClampNeg) by decide) rfl dJT_charAt_8 ?_
  refine lv_sipush (v := 255) hx hb dJT_charAt_9 (by decide) ?_
  refine lv_iand hx hb dJT_charAt_12 ?_
  refine W.eq (g2 := F0 m 13 ls [.int 110]) rfl ?_
  refine lv_i2c hx hb dJT_charAt_13 rfl ?_
  refine W.eq (g2 := F0 m 14 ls [.int 110]) rfl ?_
  obtain ⟨hP9, hD9⟩ := xsub (wc := []) hP hD [] rfl rfl (by decide)
  refine W.widen (k := 0) (n := 0) (Nat.le_of_ble_eq_true rfl) (Nat.le_of_ble_eq_true rfl) ?_
  exact W.zret (v := 110) hx hb hr rfl (fun t ht hW => ⟨⟨110, (), rfl, rfl, by rw [ht]; exact hP9, va_K.moved hW.alike hK, hD9⟩, hS.F ht⟩) hS.2.2 dJT_charAt_14
set_option maxHeartbeats 400000000 in
set_option maxRecDepth 100000 in
theorem cJS_charAt_0 (l : Launch) (hl9 : l.stackTraces = false) (D : va_G) (cT : Nat → ClassId) (aK aV : Nat → Nat) (sz : Nat) : xMet l yJS_charAt wyJS_charAt 3 0 0 64 D cT aK aV sz [.ref (aK 10), .int 0] [] (fun A => va_Qi (fun (r : Int32) (_ : Unit) => r = 110) (fun _ t => xB D xcl cT A [] t) A) := by
  refine Met.ofW (cc := prog_23_method_56_code) (maxL := 2) (ret := (some .char)) (by decide) rfl ?_
  intro p e s m args below meth c s₁ B hml hv
  obtain ⟨rfl, hsz, hZ, hP, hK, hD0⟩ := hv
  have hx := B.exec
  have hb := B.bytes
  have hr := B.returns
  have hts := atoms_spec (ws := wyJS_charAt) B.pre
  have htx := fun w h => hts w (List.mem_cons_of_mem _ h)
  have hown : s.vm.findClass "java/lang/String" = some m.cls := findClass_of_methodNamed B.named
  have hlocks := B.notSynchronized
  subst hsz
  have hD := hD0.self (sz := s.heap.size)
  generalize hAe : va_A [] s.heap.size = A at hD hZ ⊢
  have hA : ∀ q : Nat, s.heap.size ≤ q → A q := fun q h => by rw [← hAe]; exact Or.inr h
  have hS : va_S A s.heap s.heap [] := va_S.rf
  have hP : va_P D xcl [] s.heap := hP
  have hl := lv_entry ([.ref (aK 10), .int 0]) (n := 2) (Nat.le_of_ble_eq_true rfl)
  rw [lg_entry_eq]
  generalize (lg_sl ([.ref (aK 10), .int 0]) ++ List.replicate (2 - (lg_sl ([.ref (aK 10), .int 0])).length) Slot.unset).toArray = ls at hl ⊢
  have hl : lv_has ls 2 [(0, .ref (aK 10)), (1, .int 0)] := hl
  refine lv_aload_n hx hb dJS_charAt_0 rfl (lv_at hl 0 rfl) ?_
  obtain ⟨hPc, hDc, hFc⟩ := xcut (wc := []) hP hD hS hA [] rfl rfl (by decide)
  refine va_calli (va_runV (C := "java/lang/String") (As := []) (rest := []) ⟨hx, hb, hml, hown, htx⟩ (cJS_isLatin1_0 l hl9 D cT aK aV s.heap.size) ⟨callB_of 0 htx (xw_goodC kw_2_84) rfl rfl rfl (htx _ kw_1_6) (htx _ kw_2_81) ⟨by decide, by decide, by decide +kernel⟩ ⟨Nat.le_of_ble_eq_true rfl, Nat.le_of_ble_eq_true rfl⟩, (htx _ kw_2_82), (htx _ kw_2_83)⟩ ⟨xPre_blind, vk_recv hZ.2.2.2.2.2.2.2.2.2.1 (i := 10) (by decide) hS, (fun U hU hW => ⟨rfl, xPre_of hZ hS hFc hPc hDc hK U hU hW⟩)⟩ rfl rfl hl.1 rfl (lv_room (Nat.le_of_ble_eq_true rfl)) dJS_charAt_1 ⟨Nat.le_of_ble_eq_true rfl, Nat.le_of_ble_eq_true rfl⟩) hS (fun q _ h => hFc q h) hFc (fun r1 u9 t H1 locs ht hvm hr9 hB hz1 hk1 hS => ?_)
  obtain ⟨hP1, hK1, hD1⟩ := hB
  rw [ht] at hP1
  obtain ⟨hP, hD⟩ := xjoin (W := []) hP hD [] [] 0 rfl rfl (by decide) (by decide) hk1 hFc hP1 hD1
  generalize H1 = H at hP hS ⊢
  rw [hr9]
  refine W.eq (g2 := F0 m 4 ls [.int 1]) rfl ?_
  refine lv_if_eq (tgt := 16) hx hb dJS_charAt_4 (by decide) (fun h => ((by revert h; decide : False)).elim) (fun _ => ?_)
  refine lv_aload_n hx hb dJS_charAt_7 rfl (lv_at hl 0 rfl) ?_
  refine vk_getf (o := "java/lang/String") (n := "value") (d := "[B") (v := .ref (aV 10)) hx hb (hZ.2.2.2.2.2.2.2.2.2.1.1 10 (by decide)).2.2.1 hS hown (htx _ kw_7_134) (fun _ h9 => h9) dJS_charAt_8 ?_
  refine lv_iload_n hx hb dJS_charAt_11 rfl (lv_at hl 1 rfl) ?_
  obtain ⟨hPc, hDc, hFc⟩ := xcut (wc := []) hP hD hS hA [] rfl rfl (by decide)
  refine va_calli (va_runS (As := [.ref (aV 10), .int 0]) (rest := []) ⟨hx, hb, hml, hown, htx⟩ (cJT_charAt_0 l hl9 D cT aK aV H.size) ⟨callB_of 2 htx (xw_goodC kw_2_87) rfl rfl rfl (htx _ kw_1_7) (htx _ kw_2_85) ⟨by decide, by decide, by decide +kernel⟩ ⟨Nat.le_of_ble_eq_true rfl, Nat.le_of_ble_eq_true rfl⟩, htx _ kw_2_86⟩ ⟨xPre_blind, (fun U hU hW => ⟨rfl, xPre_of hZ hS hFc hPc hDc hK U hU hW⟩)⟩ rfl rfl hl.1 rfl (lv_room (Nat.le_of_ble_eq_true rfl)) dJS_charAt_12 ⟨Nat.le_of_ble_eq_true rfl, Nat.le_of_ble_eq_true rfl⟩) hS (fun q _ h => hFc q h) hFc (fun r2 u9 t H1 locs ht hvm hr9 hB hz1 hk1 hS => ?_)
  obtain ⟨hP1, hK1, hD1⟩ := hB
  rw [ht] at hP1
  obtain ⟨hP, hD⟩ := xjoin (W := []) hP hD [] [] 0 rfl rfl (by decide) (by decide) hk1 hFc hP1 hD1
  generalize H1 = H at hP hS ⊢
  rw [hr9]
  refine W.eq (g2 := F0 m 15 ls [.int 110]) rfl ?_
  obtain ⟨hP9, hD9⟩ := xsub (wc := []) hP hD [] rfl rfl (by decide)
  refine W.widen (k := 0) (n := 0) (Nat.le_of_ble_eq_true rfl) (Nat.le_of_ble_eq_true rfl) ?_
  exact W.zret (v := 110) hx hb hr rfl (fun t ht hW => ⟨⟨110, (), rfl, rfl, by rw [ht]; exact hP9, va_K.moved hW.alike hK, hD9⟩, hS.F ht⟩) hS.2.2 dJS_charAt_15
set_option maxHeartbeats 400000000 in
set_option maxRecDepth 100000 in
theorem cJP_checkIndex_2 (l : Launch) (hl9 : l.stackTraces = false) (D : va_G) (cT : Nat → ClassId) (aK aV : Nat → Nat) (sz : Nat) : xMet l yJP_checkIndex wyJP_checkIndex 0 0 0 0 D cT aK aV sz [.int 1, .int 4, .null] [] (fun A => va_Qi (fun (r : Int32) (_ : Unit) => r = 1) (fun _ t => xB D xcl cT A [] t) A) := by
  refine Met.ofW (cc := prog_29_method_11_code) (maxL := 3) (ret := (some .int)) (by decide) rfl ?_
  intro p e s m args below meth c s₁ B hml hv
  obtain ⟨rfl, hsz, hZ, hP, hK, hD0⟩ := hv
  have hx := B.exec
  have hb := B.bytes
  have hr := B.returns
  have hts := atoms_spec (ws := wyJP_checkIndex) B.pre
  have htx := fun w h => hts w (List.mem_cons_of_mem _ h)
  have hown : s.vm.findClass "jdk/internal/util/Preconditions" = some m.cls := findClass_of_methodNamed B.named
  have hlocks := B.notSynchronized
  subst hsz
  have hD := hD0.self (sz := s.heap.size)
  generalize hAe : va_A [] s.heap.size = A at hD hZ ⊢
  have hA : ∀ q : Nat, s.heap.size ≤ q → A q := fun q h => by rw [← hAe]; exact Or.inr h
  have hS : va_S A s.heap s.heap [] := va_S.rf
  have hP : va_P D xcl [] s.heap := hP
  have hl := lv_entry ([.int 1, .int 4, .null]) (n := 3) (Nat.le_of_ble_eq_true rfl)
  rw [lg_entry_eq]
  generalize (lg_sl ([.int 1, .int 4, .null]) ++ List.replicate (3 - (lg_sl ([.int 1, .int 4, .null])).length) Slot.unset).toArray = ls at hl ⊢
  have hl : lv_has ls 3 [(0, .int 1), (1, .int 4), (2, .null)] := hl
  refine lv_iload_n hx hb dJP_checkIndex_0 rfl (lv_at hl 0 rfl) ?_
  refine lv_if_lt (tgt := 9) hx hb dJP_checkIndex_1 (by decide) (fun h => ((by revert h; decide : False)).elim) (fun _ => ?_)
  refine lv_iload_n hx hb dJP_checkIndex_4 rfl (lv_at hl 0 rfl) ?_
  refine lv_iload_n hx hb dJP_checkIndex_5 rfl (lv_at hl 1 rfl) ?_
  refine lv_icmp_lt (tgt := 16) hx hb dJP_checkIndex_6 (by decide) (fun _ => ?_) (fun h => ((by revert h; decide : False)).elim)
  refine lv_iload_n hx hb dJP_checkIndex_16 rfl (lv_at hl 0 rfl) ?_
  obtain ⟨hP9, hD9⟩ := xsub (wc := []) hP hD [] rfl rfl (by decide)
  refine W.widen (k := 0) (n := 0) (Nat.le_of_ble_eq_true rfl) (Nat.le_of_ble_eq_true rfl) ?_
  exact W.iret (v := 1) hx hb hr (fun t ht hW => ⟨⟨1, (), rfl, rfl, by rw [ht]; exact hP9, va_K.moved hW.alike hK, hD9⟩, hS.F ht⟩) hS.2.2 dJP_checkIndex_17
set_option maxHeartbeats 400000000 in
set_option maxRecDepth 100000 in
theorem cJP_checkIndex_3 (l : Launch) (hl9 : l.stackTraces = false) (D : va_G) (cT : Nat → ClassId) (aK aV : Nat → Nat) (sz : Nat) (b0 : Nat) : xMet l yJP_checkIndex wyJP_checkIndex 0 0 0 0 D cT aK aV sz [.int 1, .int 4, .ref b0] [] (fun A => va_Qi (fun (r : Int32) (_ : Unit) => r = 1) (fun _ t => xB D xcl cT A [] t) A) := by
  refine Met.ofW (cc := prog_29_method_11_code) (maxL := 3) (ret := (some .int)) (by decide) rfl ?_
  intro p e s m args below meth c s₁ B hml hv
  obtain ⟨rfl, hsz, hZ, hP, hK, hD0⟩ := hv
  have hx := B.exec
  have hb := B.bytes
  have hr := B.returns
  have hts := atoms_spec (ws := wyJP_checkIndex) B.pre
  have htx := fun w h => hts w (List.mem_cons_of_mem _ h)
  have hown : s.vm.findClass "jdk/internal/util/Preconditions" = some m.cls := findClass_of_methodNamed B.named
  have hlocks := B.notSynchronized
  subst hsz
  have hD := hD0.self (sz := s.heap.size)
  generalize hAe : va_A [] s.heap.size = A at hD hZ ⊢
  have hA : ∀ q : Nat, s.heap.size ≤ q → A q := fun q h => by rw [← hAe]; exact Or.inr h
  have hS : va_S A s.heap s.heap [] := va_S.rf
  have hP : va_P D xcl [] s.heap := hP
  have hl := lv_entry ([.int 1, .int 4, .ref b0]) (n := 3) (Nat.le_of_ble_eq_true rfl)
  rw [lg_entry_eq]
  generalize (lg_sl ([.int 1, .int 4, .ref b0]) ++ List.replicate (3 - (lg_sl ([.int 1, .int 4, .ref b0])).length) Slot.unset).toArray = ls at hl ⊢
  have hl : lv_has ls 3 [(0, .int 1), (1, .int 4), (2, .ref b0)] := hl
  refine lv_iload_n hx hb dJP_checkIndex_0 rfl (lv_at hl 0 rfl) ?_
  refine lv_if_lt (tgt := 9) hx hb dJP_checkIndex_1 (by decide) (fun h => ((by revert h; decide : False)).elim) (fun _ => ?_)
  refine lv_iload_n hx hb dJP_checkIndex_4 rfl (lv_at hl 0 rfl) ?_
  refine lv_iload_n hx hb dJP_checkIndex_5 rfl (lv_at hl 1 rfl) ?_
  refine lv_icmp_lt (tgt := 16) hx hb dJP_checkIndex_6 (by decide) (fun _ => ?_) (fun h => ((by revert h; decide : False)).elim)
  refine lv_iload_n hx hb dJP_checkIndex_16 rfl (lv_at hl 0 rfl) ?_
  obtain ⟨hP9, hD9⟩ := xsub (wc := []) hP hD [] rfl rfl (by decide)
  refine W.widen (k := 0) (n := 0) (Nat.le_of_ble_eq_true rfl) (Nat.le_of_ble_eq_true rfl) ?_
  exact W.iret (v := 1) hx hb hr (fun t ht hW => ⟨⟨1, (), rfl, rfl, by rw [ht]; exact hP9, va_K.moved hW.alike hK, hD9⟩, hS.F ht⟩) hS.2.2 dJP_checkIndex_17
set_option maxHeartbeats 400000000 in
set_option maxRecDepth 100000 in
theorem cJS_checkIndex_1 (l : Launch) (hl9 : l.stackTraces = false) (D : va_G) (cT : Nat → ClassId) (aK aV : Nat → Nat) (sz : Nat) : xMet l yJS_checkIndex wyJS_checkIndex 1 0 0 22 D cT aK aV sz [.int 1, .int 4] [] (fun A => va_Qv (fun _ : Unit => True) (fun _ t => xB D xcl cT A [] t) A) := by
  refine Met.ofW (cc := prog_23_method_155_code) (maxL := 2) (ret := none) (by decide) rfl ?_
  intro p e s m args below meth c s₁ B hml hv
  obtain ⟨rfl, hsz, hZ, hP, hK, hD0⟩ := hv
  have hx := B.exec
  have hb := B.bytes
  have hr := B.returns
  have hts := atoms_spec (ws := wyJS_checkIndex) B.pre
  have htx := fun w h => hts w (List.mem_cons_of_mem _ h)
  have hown : s.vm.findClass "java/lang/String" = some m.cls := findClass_of_methodNamed B.named
  have hlocks := B.notSynchronized
  subst hsz
  have hD := hD0.self (sz := s.heap.size)
  generalize hAe : va_A [] s.heap.size = A at hD hZ ⊢
  have hA : ∀ q : Nat, s.heap.size ≤ q → A q := fun q h => by rw [← hAe]; exact Or.inr h
  have hS : va_S A s.heap s.heap [] := va_S.rf
  have hP : va_P D xcl [] s.heap := hP
  have hl := lv_entry ([.int 1, .int 4]) (n := 2) (Nat.le_of_ble_eq_true rfl)
  rw [lg_entry_eq]
  generalize (lg_sl ([.int 1, .int 4]) ++ List.replicate (2 - (lg_sl ([.int 1, .int 4])).length) Slot.unset).toArray = ls at hl ⊢
  have hl : lv_has ls 2 [(0, .int 1), (1, .int 4)] := hl
  refine lv_iload_n hx hb dJS_checkIndex_0 rfl (lv_at hl 0 rfl) ?_
  refine lv_iload_n hx hb dJS_checkIndex_1 rfl (lv_at hl 1 rfl) ?_
  rcases hZ.2.2.2.2.2.2.2.2.2.2.2.1 with hq9 | ⟨b9, hq9⟩
  · refine va_gets hx hb hq9 hS hown (htx _ kw_2_91) (fun _ h9 => h9) dJS_checkIndex_2 ?_
    obtain ⟨hPc, hDc, hFc⟩ := xcut (wc := []) hP hD hS hA [] rfl rfl (by decide)
    refine va_calli (va_runS (As := [.int 1, .int 4, .null]) (rest := []) ⟨hx, hb, hml, hown, htx⟩ (cJP_checkIndex_2 l hl9 D cT aK aV s.heap.size) ⟨callB_of 3 htx (xw_goodC kw_2_95) rfl rfl rfl (htx _ kw_1_8) (htx _ kw_2_93) ⟨by decide, by decide, by decide +kernel⟩ ⟨Nat.le_of_ble_eq_true rfl, Nat.le_of_ble_eq_true rfl⟩, htx _ kw_2_94⟩ ⟨xPre_blind, (fun U hU hW => ⟨rfl, xPre_of hZ hS hFc hPc hDc hK U hU hW⟩)⟩ rfl rfl hl.1 rfl (lv_room (Nat.le_of_ble_eq_true rfl)) dJS_checkIndex_5 ⟨Nat.le_of_ble_eq_true rfl, Nat.le_of_ble_eq_true rfl⟩) hS (fun q _ h => hFc q h) hFc (fun r1 u9 t H1 locs ht hvm hr9 hB hz1 hk1 hS => ?_)
    obtain ⟨hP1, hK1, hD1⟩ := hB
    rw [ht] at hP1
    obtain ⟨hP, hD⟩ := xjoin (W := []) hP hD [] [] 0 rfl rfl (by decide) (by decide) hk1 hFc hP1 hD1
    generalize H1 = H at hP hS ⊢
    rw [hr9]
    refine W.eq (g2 := F0 m 8 ls [.int 1]) rfl ?_
    refine lv_pop hx hb dJS_checkIndex_8 rfl ?_
    obtain ⟨hP9, hD9⟩ := xsub (wc := []) hP hD [] rfl rfl (by decide)
    refine W.widen (k := 0) (n := 0) (Nat.le_of_ble_eq_true rfl) (Nat.le_of_ble_eq_true rfl) ?_
    exact W.vret hx hb hr (fun t ht hW => ⟨⟨(), rfl, trivial, by rw [ht]; exact hP9, va_K.moved hW.alike hK, hD9⟩, hS.F ht⟩) hS.2.2 dJS_checkIndex_9
  · refine va_gets hx hb hq9 hS hown (htx _ kw_2_91) (fun _ h9 => h9) dJS_checkIndex_2 ?_
    obtain ⟨hPc, hDc, hFc⟩ := xcut (wc := []) hP hD hS hA [] rfl rfl (by decide)
    refine va_calli (va_runS (As := [.int 1, .int 4, .ref b9]) (rest := []) ⟨hx, hb, hml, hown, htx⟩ (cJP_checkIndex_3 l hl9 D cT aK aV s.heap.size b9) ⟨callB_of 3 htx (xw_goodC kw_2_95) rfl rfl rfl (htx _ kw_1_8) (htx _ kw_2_93) ⟨by decide, by decide, by decide +kernel⟩ ⟨Nat.le_of_ble_eq_true rfl, Nat.le_of_ble_eq_true rfl⟩, htx _ kw_2_94⟩ ⟨xPre_blind, (fun U hU hW => ⟨rfl, xPre_of hZ hS hFc hPc hDc hK U hU hW⟩)⟩ rfl rfl hl.1 rfl (lv_room (Nat.le_of_ble_eq_true rfl)) dJS_checkIndex_5 ⟨Nat.le_of_ble_eq_true rfl, Nat.le_of_ble_eq_true rfl⟩) hS (fun q _ h => hFc q h) hFc (fun r1 u9 t H1 locs ht hvm hr9 hB hz1 hk1 hS => ?_)
    obtain ⟨hP1, hK1, hD1⟩ := hB
    rw [ht] at hP1
    obtain ⟨hP, hD⟩ := xjoin (W := []) hP hD [] [] 0 rfl rfl (by decide) (by decide) hk1 hFc hP1 hD1
    generalize H1 = H at hP hS ⊢
    rw [hr9]
    refine W.eq (g2 := F0 m 8 ls [.int 1]) rfl ?_
    refine lv_pop hx hb dJS_checkIndex_8 rfl ?_
    obtain ⟨hP9, hD9⟩ := xsub (wc := []) hP hD [] rfl rfl (by decide)
    refine W.widen (k := 0) (n := 0) (Nat.le_of_ble_eq_true rfl) (Nat.le_of_ble_eq_true rfl) ?_
    exact W.vret hx hb hr (fun t ht hW => ⟨⟨(), rfl, trivial, by rw [ht]; exact hP9, va_K.moved hW.alike hK, hD9⟩, hS.F ht⟩) hS.2.2 dJS_checkIndex_9
set_option maxHeartbeats 400000000 in
set_option maxRecDepth 100000 in
theorem cJT_charAt_1 (l : Launch) (hl9 : l.stackTraces = false) (D : va_G) (cT : Nat → ClassId) (aK aV : Nat → Nat) (sz : Nat) : xMet l yJT_charAt wyJT_charAt 2 0 0 43 D cT aK aV sz [.ref (aV 10), .int 1] [] (fun A => va_Qi (fun (r : Int32) (_ : Unit) => r = 117) (fun _ t => xB D xcl cT A [] t) A) := by
  refine Met.ofW (cc := prog_24_method_2_code) (maxL := 2) (ret := (some .char)) (by decide) rfl ?_
  intro p e s m args below meth c s₁ B hml hv
  obtain ⟨rfl, hsz, hZ, hP, hK, hD0⟩ := hv
  have hx := B.exec
  have hb := B.bytes
  have hr := B.returns
  have hts := atoms_spec (ws := wyJT_charAt) B.pre
  have htx := fun w h => hts w (List.mem_cons_of_mem _ h)
  have hown : s.vm.findClass "java/lang/StringLatin1" = some m.cls := findClass_of_methodNamed B.named
  have hlocks := B.notSynchronized
  subst hsz
  have hD := hD0.self (sz := s.heap.size)
  generalize hAe : va_A [] s.heap.size = A at hD hZ ⊢
  have hA : ∀ q : Nat, s.heap.size ≤ q → A q := fun q h => by rw [← hAe]; exact Or.inr h
  have hS : va_S A s.heap s.heap [] := va_S.rf
  have hP : va_P D xcl [] s.heap := hP
  have hl := lv_entry ([.ref (aV 10), .int 1]) (n := 2) (Nat.le_of_ble_eq_true rfl)
  rw [lg_entry_eq]
  generalize (lg_sl ([.ref (aV 10), .int 1]) ++ List.replicate (2 - (lg_sl ([.ref (aV 10), .int 1])).length) Slot.unset).toArray = ls at hl ⊢
  have hl : lv_has ls 2 [(0, .ref (aV 10)), (1, .int 1)] := hl
  refine lv_iload_n hx hb dJT_charAt_0 rfl (lv_at hl 1 rfl) ?_
  refine lv_aload_n hx hb dJT_charAt_1 rfl (lv_at hl 0 rfl) ?_
  refine va_tlen (v := 4) hx hb (hZ.2.2.2.2.2.2.2.2.2.1.1 10 (by decide)).2.2.2 hS rfl dJT_charAt_2 ?_
  obtain ⟨hPc, hDc, hFc⟩ := xcut (wc := []) hP hD hS hA [] rfl rfl (by decide)
  refine va_callv (va_runS (As := [.int 1, .int 4]) (rest := []) ⟨hx, hb, hml, hown, htx⟩ (cJS_checkIndex_1 l hl9 D cT aK aV s.heap.size) ⟨callB_of 2 htx (xw_goodC kw_2_90) rfl rfl rfl (htx _ kw_1_6) (htx _ kw_2_88) ⟨by decide, by decide, by decide +kernel⟩ ⟨Nat.le_of_ble_eq_true rfl, Nat.le_of_ble_eq_true rfl⟩, htx _ kw_2_89⟩ ⟨xPre_blind, (fun U hU hW => ⟨rfl, xPre_of hZ hS hFc hPc hDc hK U hU hW⟩)⟩ rfl rfl hl.1 rfl (lv_room (Nat.le_of_ble_eq_true rfl)) dJT_charAt_3 ⟨Nat.le_of_ble_eq_true rfl, Nat.le_of_ble_eq_true rfl⟩) hS (fun q _ h => hFc q h) hFc (fun u9 t H1 locs ht hvm hr9 hB hz1 hk1 hS => ?_)
  obtain ⟨hP1, hK1, hD1⟩ := hB
  rw [ht] at hP1
  obtain ⟨hP, hD⟩ := xjoin (W := []) hP hD [] [] 0 rfl rfl (by decide) (by decide) hk1 hFc hP1 hD1
  generalize H1 = H at hP hS ⊢
  refine lv_aload_n hx hb dJT_charAt_6 rfl (lv_at hl 0 rfl) ?_
  refine lv_iload_n hx hb dJT_charAt_7 rfl (lv_at hl 1 rfl) ?_
  refine va_tb (v := .int 117) hx hb (hZ.2.2.2.2.2.2.2.2.2.1.1 10 (by decide)).2.2.2 hS (show ¬ ((1 : Int32) < 0 ∨ 4 ≤ (1 : Int32).toNatClampNeg) by decide) rfl dJT_charAt_8 ?_
  refine lv_sipush (v := 255) hx hb dJT_charAt_9 (by decide) ?_
  refine lv_iand hx hb dJT_charAt_12 ?_
  refine W.eq (g2 := F0 m 13 ls [.int 117]) rfl ?_
  refine lv_i2c hx hb dJT_charAt_13 rfl ?_
  refine W.eq (g2 := F0 m 14 ls [.int 117]) rfl ?_
  obtain ⟨hP9, hD9⟩ := xsub (wc := []) hP hD [] rfl rfl (by decide)
  refine W.widen (k := 0) (n := 0) (Nat.le_of_ble_eq_true rfl) (Nat.le_of_ble_eq_true rfl) ?_
  exact W.zret (v := 117) hx hb hr rfl (fun t ht hW => ⟨⟨117, (), rfl, rfl, by rw [ht]; exact hP9, va_K.moved hW.alike hK, hD9⟩, hS.F ht⟩) hS.2.2 dJT_charAt_14
set_option maxHeartbeats 400000000 in
set_option maxRecDepth 100000 in
theorem cJS_charAt_1 (l : Launch) (hl9 : l.stackTraces = false) (D : va_G) (cT : Nat → ClassId) (aK aV : Nat → Nat) (sz : Nat) : xMet l yJS_charAt wyJS_charAt 3 0 0 64 D cT aK aV sz [.ref (aK 10), .int 1] [] (fun A => va_Qi (fun (r : Int32) (_ : Unit) => r = 117) (fun _ t => xB D xcl cT A [] t) A) := by
  refine Met.ofW (cc := prog_23_method_56_code) (maxL := 2) (ret := (some .char)) (by decide) rfl ?_
  intro p e s m args below meth c s₁ B hml hv
  obtain ⟨rfl, hsz, hZ, hP, hK, hD0⟩ := hv
  have hx := B.exec
  have hb := B.bytes
  have hr := B.returns
  have hts := atoms_spec (ws := wyJS_charAt) B.pre
  have htx := fun w h => hts w (List.mem_cons_of_mem _ h)
  have hown : s.vm.findClass "java/lang/String" = some m.cls := findClass_of_methodNamed B.named
  have hlocks := B.notSynchronized
  subst hsz
  have hD := hD0.self (sz := s.heap.size)
  generalize hAe : va_A [] s.heap.size = A at hD hZ ⊢
  have hA : ∀ q : Nat, s.heap.size ≤ q → A q := fun q h => by rw [← hAe]; exact Or.inr h
  have hS : va_S A s.heap s.heap [] := va_S.rf
  have hP : va_P D xcl [] s.heap := hP
  have hl := lv_entry ([.ref (aK 10), .int 1]) (n := 2) (Nat.le_of_ble_eq_true rfl)
  rw [lg_entry_eq]
  generalize (lg_sl ([.ref (aK 10), .int 1]) ++ List.replicate (2 - (lg_sl ([.ref (aK 10), .int 1])).length) Slot.unset).toArray = ls at hl ⊢
  have hl : lv_has ls 2 [(0, .ref (aK 10)), (1, .int 1)] := hl
  refine lv_aload_n hx hb dJS_charAt_0 rfl (lv_at hl 0 rfl) ?_
  obtain ⟨hPc, hDc, hFc⟩ := xcut (wc := []) hP hD hS hA [] rfl rfl (by decide)
  refine va_calli (va_runV (C := "java/lang/String") (As := []) (rest := []) ⟨hx, hb, hml, hown, htx⟩ (cJS_isLatin1_0 l hl9 D cT aK aV s.heap.size) ⟨callB_of 0 htx (xw_goodC kw_2_84) rfl rfl rfl (htx _ kw_1_6) (htx _ kw_2_81) ⟨by decide, by decide, by decide +kernel⟩ ⟨Nat.le_of_ble_eq_true rfl, Nat.le_of_ble_eq_true rfl⟩, (htx _ kw_2_82), (htx _ kw_2_83)⟩ ⟨xPre_blind, vk_recv hZ.2.2.2.2.2.2.2.2.2.1 (i := 10) (by decide) hS, (fun U hU hW => ⟨rfl, xPre_of hZ hS hFc hPc hDc hK U hU hW⟩)⟩ rfl rfl hl.1 rfl (lv_room (Nat.le_of_ble_eq_true rfl)) dJS_charAt_1 ⟨Nat.le_of_ble_eq_true rfl, Nat.le_of_ble_eq_true rfl⟩) hS (fun q _ h => hFc q h) hFc (fun r1 u9 t H1 locs ht hvm hr9 hB hz1 hk1 hS => ?_)
  obtain ⟨hP1, hK1, hD1⟩ := hB
  rw [ht] at hP1
  obtain ⟨hP, hD⟩ := xjoin (W := []) hP hD [] [] 0 rfl rfl (by decide) (by decide) hk1 hFc hP1 hD1
  generalize H1 = H at hP hS ⊢
  rw [hr9]
  refine W.eq (g2 := F0 m 4 ls [.int 1]) rfl ?_
  refine lv_if_eq (tgt := 16) hx hb dJS_charAt_4 (by decide) (fun h => ((by revert h; decide : False)).elim) (fun _ => ?_)
  refine lv_aload_n hx hb dJS_charAt_7 rfl (lv_at hl 0 rfl) ?_
  refine vk_getf (o := "java/lang/String") (n := "value") (d := "[B") (v := .ref (aV 10)) hx hb (hZ.2.2.2.2.2.2.2.2.2.1.1 10 (by decide)).2.2.1 hS hown (htx _ kw_7_134) (fun _ h9 => h9) dJS_charAt_8 ?_
  refine lv_iload_n hx hb dJS_charAt_11 rfl (lv_at hl 1 rfl) ?_
  obtain ⟨hPc, hDc, hFc⟩ := xcut (wc := []) hP hD hS hA [] rfl rfl (by decide)
  refine va_calli (va_runS (As := [.ref (aV 10), .int 1]) (rest := []) ⟨hx, hb, hml, hown, htx⟩ (cJT_charAt_1 l hl9 D cT aK aV H.size) ⟨callB_of 2 htx (xw_goodC kw_2_87) rfl rfl rfl (htx _ kw_1_7) (htx _ kw_2_85) ⟨by decide, by decide, by decide +kernel⟩ ⟨Nat.le_of_ble_eq_true rfl, Nat.le_of_ble_eq_true rfl⟩, htx _ kw_2_86⟩ ⟨xPre_blind, (fun U hU hW => ⟨rfl, xPre_of hZ hS hFc hPc hDc hK U hU hW⟩)⟩ rfl rfl hl.1 rfl (lv_room (Nat.le_of_ble_eq_true rfl)) dJS_charAt_12 ⟨Nat.le_of_ble_eq_true rfl, Nat.le_of_ble_eq_true rfl⟩) hS (fun q _ h => hFc q h) hFc (fun r2 u9 t H1 locs ht hvm hr9 hB hz1 hk1 hS => ?_)
  obtain ⟨hP1, hK1, hD1⟩ := hB
  rw [ht] at hP1
  obtain ⟨hP, hD⟩ := xjoin (W := []) hP hD [] [] 0 rfl rfl (by decide) (by decide) hk1 hFc hP1 hD1
  generalize H1 = H at hP hS ⊢
  rw [hr9]
  refine W.eq (g2 := F0 m 15 ls [.int 117]) rfl ?_
  obtain ⟨hP9, hD9⟩ := xsub (wc := []) hP hD [] rfl rfl (by decide)
  refine W.widen (k := 0) (n := 0) (Nat.le_of_ble_eq_true rfl) (Nat.le_of_ble_eq_true rfl) ?_
  exact W.zret (v := 117) hx hb hr rfl (fun t ht hW => ⟨⟨117, (), rfl, rfl, by rw [ht]; exact hP9, va_K.moved hW.alike hK, hD9⟩, hS.F ht⟩) hS.2.2 dJS_charAt_15
set_option maxHeartbeats 400000000 in
set_option maxRecDepth 100000 in
theorem cJP_checkIndex_4 (l : Launch) (hl9 : l.stackTraces = false) (D : va_G) (cT : Nat → ClassId) (aK aV : Nat → Nat) (sz : Nat) : xMet l yJP_checkIndex wyJP_checkIndex 0 0 0 0 D cT aK aV sz [.int 2, .int 4, .null] [] (fun A => va_Qi (fun (r : Int32) (_ : Unit) => r = 2) (fun _ t => xB D xcl cT A [] t) A) := by
  refine Met.ofW (cc := prog_29_method_11_code) (maxL := 3) (ret := (some .int)) (by decide) rfl ?_
  intro p e s m args below meth c s₁ B hml hv
  obtain ⟨rfl, hsz, hZ, hP, hK, hD0⟩ := hv
  have hx := B.exec
  have hb := B.bytes
  have hr := B.returns
  have hts := atoms_spec (ws := wyJP_checkIndex) B.pre
  have htx := fun w h => hts w (List.mem_cons_of_mem _ h)
  have hown : s.vm.findClass "jdk/internal/util/Preconditions" = some m.cls := findClass_of_methodNamed B.named
  have hlocks := B.notSynchronized
  subst hsz
  have hD := hD0.self (sz := s.heap.size)
  generalize hAe : va_A [] s.heap.size = A at hD hZ ⊢
  have hA : ∀ q : Nat, s.heap.size ≤ q → A q := fun q h => by rw [← hAe]; exact Or.inr h
  have hS : va_S A s.heap s.heap [] := va_S.rf
  have hP : va_P D xcl [] s.heap := hP
  have hl := lv_entry ([.int 2, .int 4, .null]) (n := 3) (Nat.le_of_ble_eq_true rfl)
  rw [lg_entry_eq]
  generalize (lg_sl ([.int 2, .int 4, .null]) ++ List.replicate (3 - (lg_sl ([.int 2, .int 4, .null])).length) Slot.unset).toArray = ls at hl ⊢
  have hl : lv_has ls 3 [(0, .int 2), (1, .int 4), (2, .null)] := hl
  refine lv_iload_n hx hb dJP_checkIndex_0 rfl (lv_at hl 0 rfl) ?_
  refine lv_if_lt (tgt := 9) hx hb dJP_checkIndex_1 (by decide) (fun h => ((by revert h; decide : False)).elim) (fun _ => ?_)
  refine lv_iload_n hx hb dJP_checkIndex_4 rfl (lv_at hl 0 rfl) ?_
  refine lv_iload_n hx hb dJP_checkIndex_5 rfl (lv_at hl 1 rfl) ?_
  refine lv_icmp_lt (tgt := 16) hx hb dJP_checkIndex_6 (by decide) (fun _ => ?_) (fun h => ((by revert h; decide : False)).elim)
  refine lv_iload_n hx hb dJP_checkIndex_16 rfl (lv_at hl 0 rfl) ?_
  obtain ⟨hP9, hD9⟩ := xsub (wc := []) hP hD [] rfl rfl (by decide)
  refine W.widen (k := 0) (n := 0) (Nat.le_of_ble_eq_true rfl) (Nat.le_of_ble_eq_true rfl) ?_
  exact W.iret (v := 2) hx hb hr (fun t ht hW => ⟨⟨2, (), rfl, rfl, by rw [ht]; exact hP9, va_K.moved hW.alike hK, hD9⟩, hS.F ht⟩) hS.2.2 dJP_checkIndex_17
set_option maxHeartbeats 400000000 in
set_option maxRecDepth 100000 in
theorem cJP_checkIndex_5 (l : Launch) (hl9 : l.stackTraces = false) (D : va_G) (cT : Nat → ClassId) (aK aV : Nat → Nat) (sz : Nat) (b0 : Nat) : xMet l yJP_checkIndex wyJP_checkIndex 0 0 0 0 D cT aK aV sz [.int 2, .int 4, .ref b0] [] (fun A => va_Qi (fun (r : Int32) (_ : Unit) => r = 2) (fun _ t => xB D xcl cT A [] t) A) := by
  refine Met.ofW (cc := prog_29_method_11_code) (maxL := 3) (ret := (some .int)) (by decide) rfl ?_
  intro p e s m args below meth c s₁ B hml hv
  obtain ⟨rfl, hsz, hZ, hP, hK, hD0⟩ := hv
  have hx := B.exec
  have hb := B.bytes
  have hr := B.returns
  have hts := atoms_spec (ws := wyJP_checkIndex) B.pre
  have htx := fun w h => hts w (List.mem_cons_of_mem _ h)
  have hown : s.vm.findClass "jdk/internal/util/Preconditions" = some m.cls := findClass_of_methodNamed B.named
  have hlocks := B.notSynchronized
  subst hsz
  have hD := hD0.self (sz := s.heap.size)
  generalize hAe : va_A [] s.heap.size = A at hD hZ ⊢
  have hA : ∀ q : Nat, s.heap.size ≤ q → A q := fun q h => by rw [← hAe]; exact Or.inr h
  have hS : va_S A s.heap s.heap [] := va_S.rf
  have hP : va_P D xcl [] s.heap := hP
  have hl := lv_entry ([.int 2, .int 4, .ref b0]) (n := 3) (Nat.le_of_ble_eq_true rfl)
  rw [lg_entry_eq]
  generalize (lg_sl ([.int 2, .int 4, .ref b0]) ++ List.replicate (3 - (lg_sl ([.int 2, .int 4, .ref b0])).length) Slot.unset).toArray = ls at hl ⊢
  have hl : lv_has ls 3 [(0, .int 2), (1, .int 4), (2, .ref b0)] := hl
  refine lv_iload_n hx hb dJP_checkIndex_0 rfl (lv_at hl 0 rfl) ?_
  refine lv_if_lt (tgt := 9) hx hb dJP_checkIndex_1 (by decide) (fun h => ((by revert h; decide : False)).elim) (fun _ => ?_)
  refine lv_iload_n hx hb dJP_checkIndex_4 rfl (lv_at hl 0 rfl) ?_
  refine lv_iload_n hx hb dJP_checkIndex_5 rfl (lv_at hl 1 rfl) ?_
  refine lv_icmp_lt (tgt := 16) hx hb dJP_checkIndex_6 (by decide) (fun _ => ?_) (fun h => ((by revert h; decide : False)).elim)
  refine lv_iload_n hx hb dJP_checkIndex_16 rfl (lv_at hl 0 rfl) ?_
  obtain ⟨hP9, hD9⟩ := xsub (wc := []) hP hD [] rfl rfl (by decide)
  refine W.widen (k := 0) (n := 0) (Nat.le_of_ble_eq_true rfl) (Nat.le_of_ble_eq_true rfl) ?_
  exact W.iret (v := 2) hx hb hr (fun t ht hW => ⟨⟨2, (), rfl, rfl, by rw [ht]; exact hP9, va_K.moved hW.alike hK, hD9⟩, hS.F ht⟩) hS.2.2 dJP_checkIndex_17
set_option maxHeartbeats 400000000 in
set_option maxRecDepth 100000 in
theorem cJS_checkIndex_2 (l : Launch) (hl9 : l.stackTraces = false) (D : va_G) (cT : Nat → ClassId) (aK aV : Nat → Nat) (sz : Nat) : xMet l yJS_checkIndex wyJS_checkIndex 1 0 0 22 D cT aK aV sz [.int 2, .int 4] [] (fun A => va_Qv (fun _ : Unit => True) (fun _ t => xB D xcl cT A [] t) A) := by
  refine Met.ofW (cc := prog_23_method_155_code) (maxL := 2) (ret := none) (by decide) rfl ?_
  intro p e s m args below meth c s₁ B hml hv
  obtain ⟨rfl, hsz, hZ, hP, hK, hD0⟩ := hv
  have hx := B.exec
  have hb := B.bytes
  have hr := B.returns
  have hts := atoms_spec (ws := wyJS_checkIndex) B.pre
  have htx := fun w h => hts w (List.mem_cons_of_mem _ h)
  have hown : s.vm.findClass "java/lang/String" = some m.cls := findClass_of_methodNamed B.named
  have hlocks := B.notSynchronized
  subst hsz
  have hD := hD0.self (sz := s.heap.size)
  generalize hAe : va_A [] s.heap.size = A at hD hZ ⊢
  have hA : ∀ q : Nat, s.heap.size ≤ q → A q := fun q h => by rw [← hAe]; exact Or.inr h
  have hS : va_S A s.heap s.heap [] := va_S.rf
  have hP : va_P D xcl [] s.heap := hP
  have hl := lv_entry ([.int 2, .int 4]) (n := 2) (Nat.le_of_ble_eq_true rfl)
  rw [lg_entry_eq]
  generalize (lg_sl ([.int 2, .int 4]) ++ List.replicate (2 - (lg_sl ([.int 2, .int 4])).length) Slot.unset).toArray = ls at hl ⊢
  have hl : lv_has ls 2 [(0, .int 2), (1, .int 4)] := hl
  refine lv_iload_n hx hb dJS_checkIndex_0 rfl (lv_at hl 0 rfl) ?_
  refine lv_iload_n hx hb dJS_checkIndex_1 rfl (lv_at hl 1 rfl) ?_
  rcases hZ.2.2.2.2.2.2.2.2.2.2.2.1 with hq9 | ⟨b9, hq9⟩
  · refine va_gets hx hb hq9 hS hown (htx _ kw_2_91) (fun _ h9 => h9) dJS_checkIndex_2 ?_
    obtain ⟨hPc, hDc, hFc⟩ := xcut (wc := []) hP hD hS hA [] rfl rfl (by decide)
    refine va_calli (va_runS (As := [.int 2, .int 4, .null]) (rest := []) ⟨hx, hb, hml, hown, htx⟩ (cJP_checkIndex_4 l hl9 D cT aK aV s.heap.size) ⟨callB_of 3 htx (xw_goodC kw_2_95) rfl rfl rfl (htx _ kw_1_8) (htx _ kw_2_93) ⟨by decide, by decide, by decide +kernel⟩ ⟨Nat.le_of_ble_eq_true rfl, Nat.le_of_ble_eq_true rfl⟩, htx _ kw_2_94⟩ ⟨xPre_blind, (fun U hU hW => ⟨rfl, xPre_of hZ hS hFc hPc hDc hK U hU hW⟩)⟩ rfl rfl hl.1 rfl (lv_room (Nat.le_of_ble_eq_true rfl)) dJS_checkIndex_5 ⟨Nat.le_of_ble_eq_true rfl, Nat.le_of_ble_eq_true rfl⟩) hS (fun q _ h => hFc q h) hFc (fun r1 u9 t H1 locs ht hvm hr9 hB hz1 hk1 hS => ?_)
    obtain ⟨hP1, hK1, hD1⟩ := hB
    rw [ht] at hP1
    obtain ⟨hP, hD⟩ := xjoin (W := []) hP hD [] [] 0 rfl rfl (by decide) (by decide) hk1 hFc hP1 hD1
    generalize H1 = H at hP hS ⊢
    rw [hr9]
    refine W.eq (g2 := F0 m 8 ls [.int 2]) rfl ?_
    refine lv_pop hx hb dJS_checkIndex_8 rfl ?_
    obtain ⟨hP9, hD9⟩ := xsub (wc := []) hP hD [] rfl rfl (by decide)
    refine W.widen (k := 0) (n := 0) (Nat.le_of_ble_eq_true rfl) (Nat.le_of_ble_eq_true rfl) ?_
    exact W.vret hx hb hr (fun t ht hW => ⟨⟨(), rfl, trivial, by rw [ht]; exact hP9, va_K.moved hW.alike hK, hD9⟩, hS.F ht⟩) hS.2.2 dJS_checkIndex_9
  · refine va_gets hx hb hq9 hS hown (htx _ kw_2_91) (fun _ h9 => h9) dJS_checkIndex_2 ?_
    obtain ⟨hPc, hDc, hFc⟩ := xcut (wc := []) hP hD hS hA [] rfl rfl (by decide)
    refine va_calli (va_runS (As := [.int 2, .int 4, .ref b9]) (rest := []) ⟨hx, hb, hml, hown, htx⟩ (cJP_checkIndex_5 l hl9 D cT aK aV s.heap.size b9) ⟨callB_of 3 htx (xw_goodC kw_2_95) rfl rfl rfl (htx _ kw_1_8) (htx _ kw_2_93) ⟨by decide, by decide, by decide +kernel⟩ ⟨Nat.le_of_ble_eq_true rfl, Nat.le_of_ble_eq_true rfl⟩, htx _ kw_2_94⟩ ⟨xPre_blind, (fun U hU hW => ⟨rfl, xPre_of hZ hS hFc hPc hDc hK U hU hW⟩)⟩ rfl rfl hl.1 rfl (lv_room (Nat.le_of_ble_eq_true rfl)) dJS_checkIndex_5 ⟨Nat.le_of_ble_eq_true rfl, Nat.le_of_ble_eq_true rfl⟩) hS (fun q _ h => hFc q h) hFc (fun r1 u9 t H1 locs ht hvm hr9 hB hz1 hk1 hS => ?_)
    obtain ⟨hP1, hK1, hD1⟩ := hB
    rw [ht] at hP1
    obtain ⟨hP, hD⟩ := xjoin (W := []) hP hD [] [] 0 rfl rfl (by decide) (by decide) hk1 hFc hP1 hD1
    generalize H1 = H at hP hS ⊢
    rw [hr9]
    refine W.eq (g2 := F0 m 8 ls [.int 2]) rfl ?_
    refine lv_pop hx hb dJS_checkIndex_8 rfl ?_
    obtain ⟨hP9, hD9⟩ := xsub (wc := []) hP hD [] rfl rfl (by decide)
    refine W.widen (k := 0) (n := 0) (Nat.le_of_ble_eq_true rfl) (Nat.le_of_ble_eq_true rfl) ?_
    exact W.vret hx hb hr (fun t ht hW => ⟨⟨(), rfl, trivial, by rw [ht]; exact hP9, va_K.moved hW.alike hK, hD9⟩, hS.F ht⟩) hS.2.2 dJS_checkIndex_9
set_option maxHeartbeats 400000000 in
set_option maxRecDepth 100000 in
theorem cJT_charAt_2 (l : Launch) (hl9 : l.stackTraces = false) (D : va_G) (cT : Nat → ClassId) (aK aV : Nat → Nat) (sz : Nat) : xMet l yJT_charAt wyJT_charAt 2 0 0 43 D cT aK aV sz [.ref (aV 10), .int 2] [] (fun A => va_Qi (fun (r : Int32) (_ : Unit) => r = 108) (fun _ t => xB D xcl cT A [] t) A) := by
  refine Met.ofW (cc := prog_24_method_2_code) (maxL := 2) (ret := (some .char)) (by decide) rfl ?_
  intro p e s m args below meth c s₁ B hml hv
  obtain ⟨rfl, hsz, hZ, hP, hK, hD0⟩ := hv
  have hx := B.exec
  have hb := B.bytes
  have hr := B.returns
  have hts := atoms_spec (ws := wyJT_charAt) B.pre
  have htx := fun w h => hts w (List.mem_cons_of_mem _ h)
  have hown : s.vm.findClass "java/lang/StringLatin1" = some m.cls := findClass_of_methodNamed B.named
  have hlocks := B.notSynchronized
  subst hsz
  have hD := hD0.self (sz := s.heap.size)
  generalize hAe : va_A [] s.heap.size = A at hD hZ ⊢
  have hA : ∀ q : Nat, s.heap.size ≤ q → A q := fun q h => by rw [← hAe]; exact Or.inr h
  have hS : va_S A s.heap s.heap [] := va_S.rf
  have hP : va_P D xcl [] s.heap := hP
  have hl := lv_entry ([.ref (aV 10), .int 2]) (n := 2) (Nat.le_of_ble_eq_true rfl)
  rw [lg_entry_eq]
  generalize (lg_sl ([.ref (aV 10), .int 2]) ++ List.replicate (2 - (lg_sl ([.ref (aV 10), .int 2])).length) Slot.unset).toArray = ls at hl ⊢
  have hl : lv_has ls 2 [(0, .ref (aV 10)), (1, .int 2)] := hl
  refine lv_iload_n hx hb dJT_charAt_0 rfl (lv_at hl 1 rfl) ?_
  refine lv_aload_n hx hb dJT_charAt_1 rfl (lv_at hl 0 rfl) ?_
  refine va_tlen (v := 4) hx hb (hZ.2.2.2.2.2.2.2.2.2.1.1 10 (by decide)).2.2.2 hS rfl dJT_charAt_2 ?_
  obtain ⟨hPc, hDc, hFc⟩ := xcut (wc := []) hP hD hS hA [] rfl rfl (by decide)
  refine va_callv (va_runS (As := [.int 2, .int 4]) (rest := []) ⟨hx, hb, hml, hown, htx⟩ (cJS_checkIndex_2 l hl9 D cT aK aV s.heap.size) ⟨callB_of 2 htx (xw_goodC kw_2_90) rfl rfl rfl (htx _ kw_1_6) (htx _ kw_2_88) ⟨by decide, by decide, by decide +kernel⟩ ⟨Nat.le_of_ble_eq_true rfl, Nat.le_of_ble_eq_true rfl⟩, htx _ kw_2_89⟩ ⟨xPre_blind, (fun U hU hW => ⟨rfl, xPre_of hZ hS hFc hPc hDc hK U hU hW⟩)⟩ rfl rfl hl.1 rfl (lv_room (Nat.le_of_ble_eq_true rfl)) dJT_charAt_3 ⟨Nat.le_of_ble_eq_true rfl, Nat.le_of_ble_eq_true rfl⟩) hS (fun q _ h => hFc q h) hFc (fun u9 t H1 locs ht hvm hr9 hB hz1 hk1 hS => ?_)
  obtain ⟨hP1, hK1, hD1⟩ := hB
  rw [ht] at hP1
  obtain ⟨hP, hD⟩ := xjoin (W := []) hP hD [] [] 0 rfl rfl (by decide) (by decide) hk1 hFc hP1 hD1
  generalize H1 = H at hP hS ⊢
  refine lv_aload_n hx hb dJT_charAt_6 rfl (lv_at hl 0 rfl) ?_
  refine lv_iload_n hx hb dJT_charAt_7 rfl (lv_at hl 1 rfl) ?_
  refine va_tb (v := .int 108) hx hb (hZ.2.2.2.2.2.2.2.2.2.1.1 10 (by decide)).2.2.2 hS (show ¬ ((2 : Int32) < 0 ∨ 4 ≤ (2 : Int32).toNatClampNeg) by decide) rfl dJT_charAt_8 ?_
  refine lv_sipush (v := 255) hx hb dJT_charAt_9 (by decide) ?_
  refine lv_iand hx hb dJT_charAt_12 ?_
  refine W.eq (g2 := F0 m 13 ls [.int 108]) rfl ?_
  refine lv_i2c hx hb dJT_charAt_13 rfl ?_
  refine W.eq (g2 := F0 m 14 ls [.int 108]) rfl ?_
  obtain ⟨hP9, hD9⟩ := xsub (wc := []) hP hD [] rfl rfl (by decide)
  refine W.widen (k := 0) (n := 0) (Nat.le_of_ble_eq_true rfl) (Nat.le_of_ble_eq_true rfl) ?_
  exact W.zret (v := 108) hx hb hr rfl (fun t ht hW => ⟨⟨108, (), rfl, rfl, by rw [ht]; exact hP9, va_K.moved hW.alike hK, hD9⟩, hS.F ht⟩) hS.2.2 dJT_charAt_14
set_option maxHeartbeats 400000000 in
set_option maxRecDepth 100000 in
theorem cJS_charAt_2 (l : Launch) (hl9 : l.stackTraces = false) (D : va_G) (cT : Nat → ClassId) (aK aV : Nat → Nat) (sz : Nat) : xMet l yJS_charAt wyJS_charAt 3 0 0 64 D cT aK aV sz [.ref (aK 10), .int 2] [] (fun A => va_Qi (fun (r : Int32) (_ : Unit) => r = 108) (fun _ t => xB D xcl cT A [] t) A) := by
  refine Met.ofW (cc := prog_23_method_56_code) (maxL := 2) (ret := (some .char)) (by decide) rfl ?_
  intro p e s m args below meth c s₁ B hml hv
  obtain ⟨rfl, hsz, hZ, hP, hK, hD0⟩ := hv
  have hx := B.exec
  have hb := B.bytes
  have hr := B.returns
  have hts := atoms_spec (ws := wyJS_charAt) B.pre
  have htx := fun w h => hts w (List.mem_cons_of_mem _ h)
  have hown : s.vm.findClass "java/lang/String" = some m.cls := findClass_of_methodNamed B.named
  have hlocks := B.notSynchronized
  subst hsz
  have hD := hD0.self (sz := s.heap.size)
  generalize hAe : va_A [] s.heap.size = A at hD hZ ⊢
  have hA : ∀ q : Nat, s.heap.size ≤ q → A q := fun q h => by rw [← hAe]; exact Or.inr h
  have hS : va_S A s.heap s.heap [] := va_S.rf
  have hP : va_P D xcl [] s.heap := hP
  have hl := lv_entry ([.ref (aK 10), .int 2]) (n := 2) (Nat.le_of_ble_eq_true rfl)
  rw [lg_entry_eq]
  generalize (lg_sl ([.ref (aK 10), .int 2]) ++ List.replicate (2 - (lg_sl ([.ref (aK 10), .int 2])).length) Slot.unset).toArray = ls at hl ⊢
  have hl : lv_has ls 2 [(0, .ref (aK 10)), (1, .int 2)] := hl
  refine lv_aload_n hx hb dJS_charAt_0 rfl (lv_at hl 0 rfl) ?_
  obtain ⟨hPc, hDc, hFc⟩ := xcut (wc := []) hP hD hS hA [] rfl rfl (by decide)
  refine va_calli (va_runV (C := "java/lang/String") (As := []) (rest := []) ⟨hx, hb, hml, hown, htx⟩ (cJS_isLatin1_0 l hl9 D cT aK aV s.heap.size) ⟨callB_of 0 htx (xw_goodC kw_2_84) rfl rfl rfl (htx _ kw_1_6) (htx _ kw_2_81) ⟨by decide, by decide, by decide +kernel⟩ ⟨Nat.le_of_ble_eq_true rfl, Nat.le_of_ble_eq_true rfl⟩, (htx _ kw_2_82), (htx _ kw_2_83)⟩ ⟨xPre_blind, vk_recv hZ.2.2.2.2.2.2.2.2.2.1 (i := 10) (by decide) hS, (fun U hU hW => ⟨rfl, xPre_of hZ hS hFc hPc hDc hK U hU hW⟩)⟩ rfl rfl hl.1 rfl (lv_room (Nat.le_of_ble_eq_true rfl)) dJS_charAt_1 ⟨Nat.le_of_ble_eq_true rfl, Nat.le_of_ble_eq_true rfl⟩) hS (fun q _ h => hFc q h) hFc (fun r1 u9 t H1 locs ht hvm hr9 hB hz1 hk1 hS => ?_)
  obtain ⟨hP1, hK1, hD1⟩ := hB
  rw [ht] at hP1
  obtain ⟨hP, hD⟩ := xjoin (W := []) hP hD [] [] 0 rfl rfl (by decide) (by decide) hk1 hFc hP1 hD1
  generalize H1 = H at hP hS ⊢
  rw [hr9]
  refine W.eq (g2 := F0 m 4 ls [.int 1]) rfl ?_
  refine lv_if_eq (tgt := 16) hx hb dJS_charAt_4 (by decide) (fun h => ((by revert h; decide : False)).elim) (fun _ => ?_)
  refine lv_aload_n hx hb dJS_charAt_7 rfl (lv_at hl 0 rfl) ?_
  refine vk_getf (o := "java/lang/String") (n := "value") (d := "[B") (v := .ref (aV 10)) hx hb (hZ.2.2.2.2.2.2.2.2.2.1.1 10 (by decide)).2.2.1 hS hown (htx _ kw_7_134) (fun _ h9 => h9) dJS_charAt_8 ?_
  refine lv_iload_n hx hb dJS_charAt_11 rfl (lv_at hl 1 rfl) ?_
  obtain ⟨hPc, hDc, hFc⟩ := xcut (wc := []) hP hD hS hA [] rfl rfl (by decide)
  refine va_calli (va_runS (As := [.ref (aV 10), .int 2]) (rest := []) ⟨hx, hb, hml, hown, htx⟩ (cJT_charAt_2 l hl9 D cT aK aV H.size) ⟨callB_of 2 htx (xw_goodC kw_2_87) rfl rfl rfl (htx _ kw_1_7) (htx _ kw_2_85) ⟨by decide, by decide, by decide +kernel⟩ ⟨Nat.le_of_ble_eq_true rfl, Nat.le_of_ble_eq_true rfl⟩, htx _ kw_2_86⟩ ⟨xPre_blind, (fun U hU hW => ⟨rfl, xPre_of hZ hS hFc hPc hDc hK U hU hW⟩)⟩ rfl rfl hl.1 rfl (lv_room (Nat.le_of_ble_eq_true rfl)) dJS_charAt_12 ⟨Nat.le_of_ble_eq_true rfl, Nat.le_of_ble_eq_true rfl⟩) hS (fun q _ h => hFc q h) hFc (fun r2 u9 t H1 locs ht hvm hr9 hB hz1 hk1 hS => ?_)
  obtain ⟨hP1, hK1, hD1⟩ := hB
  rw [ht] at hP1
  obtain ⟨hP, hD⟩ := xjoin (W := []) hP hD [] [] 0 rfl rfl (by decide) (by decide) hk1 hFc hP1 hD1
  generalize H1 = H at hP hS ⊢
  rw [hr9]
  refine W.eq (g2 := F0 m 15 ls [.int 108]) rfl ?_
  obtain ⟨hP9, hD9⟩ := xsub (wc := []) hP hD [] rfl rfl (by decide)
  refine W.widen (k := 0) (n := 0) (Nat.le_of_ble_eq_true rfl) (Nat.le_of_ble_eq_true rfl) ?_
  exact W.zret (v := 108) hx hb hr rfl (fun t ht hW => ⟨⟨108, (), rfl, rfl, by rw [ht]; exact hP9, va_K.moved hW.alike hK, hD9⟩, hS.F ht⟩) hS.2.2 dJS_charAt_15
set_option maxHeartbeats 400000000 in
set_option maxRecDepth 100000 in
theorem cJP_checkIndex_6 (l : Launch) (hl9 : l.stackTraces = false) (D : va_G) (cT : Nat → ClassId) (aK aV : Nat → Nat) (sz : Nat) : xMet l yJP_checkIndex wyJP_checkIndex 0 0 0 0 D cT aK aV sz [.int 3, .int 4, .null] [] (fun A => va_Qi (fun (r : Int32) (_ : Unit) => r = 3) (fun _ t => xB D xcl cT A [] t) A) := by
  refine Met.ofW (cc := prog_29_method_11_code) (maxL := 3) (ret := (some .int)) (by decide) rfl ?_
  intro p e s m args below meth c s₁ B hml hv
  obtain ⟨rfl, hsz, hZ, hP, hK, hD0⟩ := hv
  have hx := B.exec
  have hb := B.bytes
  have hr := B.returns
  have hts := atoms_spec (ws := wyJP_checkIndex) B.pre
  have htx := fun w h => hts w (List.mem_cons_of_mem _ h)
  have hown : s.vm.findClass "jdk/internal/util/Preconditions" = some m.cls := findClass_of_methodNamed B.named
  have hlocks := B.notSynchronized
  subst hsz
  have hD := hD0.self (sz := s.heap.size)
  generalize hAe : va_A [] s.heap.size = A at hD hZ ⊢
  have hA : ∀ q : Nat, s.heap.size ≤ q → A q := fun q h => by rw [← hAe]; exact Or.inr h
  have hS : va_S A s.heap s.heap [] := va_S.rf
  have hP : va_P D xcl [] s.heap := hP
  have hl := lv_entry ([.int 3, .int 4, .null]) (n := 3) (Nat.le_of_ble_eq_true rfl)
  rw [lg_entry_eq]
  generalize (lg_sl ([.int 3, .int 4, .null]) ++ List.replicate (3 - (lg_sl ([.int 3, .int 4, .null])).length) Slot.unset).toArray = ls at hl ⊢
  have hl : lv_has ls 3 [(0, .int 3), (1, .int 4), (2, .null)] := hl
  refine lv_iload_n hx hb dJP_checkIndex_0 rfl (lv_at hl 0 rfl) ?_
  refine lv_if_lt (tgt := 9) hx hb dJP_checkIndex_1 (by decide) (fun h => ((by revert h; decide : False)).elim) (fun _ => ?_)
  refine lv_iload_n hx hb dJP_checkIndex_4 rfl (lv_at hl 0 rfl) ?_
  refine lv_iload_n hx hb dJP_checkIndex_5 rfl (lv_at hl 1 rfl) ?_
  refine lv_icmp_lt (tgt := 16) hx hb dJP_checkIndex_6 (by decide) (fun _ => ?_) (fun h => ((by revert h; decide : False)).elim)
  refine lv_iload_n hx hb dJP_checkIndex_16 rfl (lv_at hl 0 rfl) ?_
  obtain ⟨hP9, hD9⟩ := xsub (wc := []) hP hD [] rfl rfl (by decide)
  refine W.widen (k := 0) (n := 0) (Nat.le_of_ble_eq_true rfl) (Nat.le_of_ble_eq_true rfl) ?_
  exact W.iret (v := 3) hx hb hr (fun t ht hW => ⟨⟨3, (), rfl, rfl, by rw [ht]; exact hP9, va_K.moved hW.alike hK, hD9⟩, hS.F ht⟩) hS.2.2 dJP_checkIndex_17
set_option maxHeartbeats 400000000 in
set_option maxRecDepth 100000 in
theorem cJP_checkIndex_7 (l : Launch) (hl9 : l.stackTraces = false) (D : va_G) (cT : Nat → ClassId) (aK aV : Nat → Nat) (sz : Nat) (b0 : Nat) : xMet l yJP_checkIndex wyJP_checkIndex 0 0 0 0 D cT aK aV sz [.int 3, .int 4, .ref b0] [] (fun A => va_Qi (fun (r : Int32) (_ : Unit) => r = 3) (fun _ t => xB D xcl cT A [] t) A) := by
  refine Met.ofW (cc := prog_29_method_11_code) (maxL := 3) (ret := (some .int)) (by decide) rfl ?_
  intro p e s m args below meth c s₁ B hml hv
  obtain ⟨rfl, hsz, hZ, hP, hK, hD0⟩ := hv
  have hx := B.exec
  have hb := B.bytes
  have hr := B.returns
  have hts := atoms_spec (ws := wyJP_checkIndex) B.pre
  have htx := fun w h => hts w (List.mem_cons_of_mem _ h)
  have hown : s.vm.findClass "jdk/internal/util/Preconditions" = some m.cls := findClass_of_methodNamed B.named
  have hlocks := B.notSynchronized
  subst hsz
  have hD := hD0.self (sz := s.heap.size)
  generalize hAe : va_A [] s.heap.size = A at hD hZ ⊢
  have hA : ∀ q : Nat, s.heap.size ≤ q → A q := fun q h => by rw [← hAe]; exact Or.inr h
  have hS : va_S A s.heap s.heap [] := va_S.rf
  have hP : va_P D xcl [] s.heap := hP
  have hl := lv_entry ([.int 3, .int 4, .ref b0]) (n := 3) (Nat.le_of_ble_eq_true rfl)
  rw [lg_entry_eq]
  generalize (lg_sl ([.int 3, .int 4, .ref b0]) ++ List.replicate (3 - (lg_sl ([.int 3, .int 4, .ref b0])).length) Slot.unset).toArray = ls at hl ⊢
  have hl : lv_has ls 3 [(0, .int 3), (1, .int 4), (2, .ref b0)] := hl
  refine lv_iload_n hx hb dJP_checkIndex_0 rfl (lv_at hl 0 rfl) ?_
  refine lv_if_lt (tgt := 9) hx hb dJP_checkIndex_1 (by decide) (fun h => ((by revert h; decide : False)).elim) (fun _ => ?_)
  refine lv_iload_n hx hb dJP_checkIndex_4 rfl (lv_at hl 0 rfl) ?_
  refine lv_iload_n hx hb dJP_checkIndex_5 rfl (lv_at hl 1 rfl) ?_
  refine lv_icmp_lt (tgt := 16) hx hb dJP_checkIndex_6 (by decide) (fun _ => ?_) (fun h => ((by revert h; decide : False)).elim)
  refine lv_iload_n hx hb dJP_checkIndex_16 rfl (lv_at hl 0 rfl) ?_
  obtain ⟨hP9, hD9⟩ := xsub (wc := []) hP hD [] rfl rfl (by decide)
  refine W.widen (k := 0) (n := 0) (Nat.le_of_ble_eq_true rfl) (Nat.le_of_ble_eq_true rfl) ?_
  exact W.iret (v := 3) hx hb hr (fun t ht hW => ⟨⟨3, (), rfl, rfl, by rw [ht]; exact hP9, va_K.moved hW.alike hK, hD9⟩, hS.F ht⟩) hS.2.2 dJP_checkIndex_17
set_option maxHeartbeats 400000000 in
set_option maxRecDepth 100000 in
theorem cJS_checkIndex_3 (l : Launch) (hl9 : l.stackTraces = false) (D : va_G) (cT : Nat → ClassId) (aK aV : Nat → Nat) (sz : Nat) : xMet l yJS_checkIndex wyJS_checkIndex 1 0 0 22 D cT aK aV sz [.int 3, .int 4] [] (fun A => va_Qv (fun _ : Unit => True) (fun _ t => xB D xcl cT A [] t) A) := by
  refine Met.ofW (cc := prog_23_method_155_code) (maxL := 2) (ret := none) (by decide) rfl ?_
  intro p e s m args below meth c s₁ B hml hv
  obtain ⟨rfl, hsz, hZ, hP, hK, hD0⟩ := hv
  have hx := B.exec
  have hb := B.bytes
  have hr := B.returns
  have hts := atoms_spec (ws := wyJS_checkIndex) B.pre
  have htx := fun w h => hts w (List.mem_cons_of_mem _ h)
  have hown : s.vm.findClass "java/lang/String" = some m.cls := findClass_of_methodNamed B.named
  have hlocks := B.notSynchronized
  subst hsz
  have hD := hD0.self (sz := s.heap.size)
  generalize hAe : va_A [] s.heap.size = A at hD hZ ⊢
  have hA : ∀ q : Nat, s.heap.size ≤ q → A q := fun q h => by rw [← hAe]; exact Or.inr h
  have hS : va_S A s.heap s.heap [] := va_S.rf
  have hP : va_P D xcl [] s.heap := hP
  have hl := lv_entry ([.int 3, .int 4]) (n := 2) (Nat.le_of_ble_eq_true rfl)
  rw [lg_entry_eq]
  generalize (lg_sl ([.int 3, .int 4]) ++ List.replicate (2 - (lg_sl ([.int 3, .int 4])).length) Slot.unset).toArray = ls at hl ⊢
  have hl : lv_has ls 2 [(0, .int 3), (1, .int 4)] := hl
  refine lv_iload_n hx hb dJS_checkIndex_0 rfl (lv_at hl 0 rfl) ?_
  refine lv_iload_n hx hb dJS_checkIndex_1 rfl (lv_at hl 1 rfl) ?_
  rcases hZ.2.2.2.2.2.2.2.2.2.2.2.1 with hq9 | ⟨b9, hq9⟩
  · refine va_gets hx hb hq9 hS hown (htx _ kw_2_91) (fun _ h9 => h9) dJS_checkIndex_2 ?_
    obtain ⟨hPc, hDc, hFc⟩ := xcut (wc := []) hP hD hS hA [] rfl rfl (by decide)
    refine va_calli (va_runS (As := [.int 3, .int 4, .null]) (rest := []) ⟨hx, hb, hml, hown, htx⟩ (cJP_checkIndex_6 l hl9 D cT aK aV s.heap.size) ⟨callB_of 3 htx (xw_goodC kw_2_95) rfl rfl rfl (htx _ kw_1_8) (htx _ kw_2_93) ⟨by decide, by decide, by decide +kernel⟩ ⟨Nat.le_of_ble_eq_true rfl, Nat.le_of_ble_eq_true rfl⟩, htx _ kw_2_94⟩ ⟨xPre_blind, (fun U hU hW => ⟨rfl, xPre_of hZ hS hFc hPc hDc hK U hU hW⟩)⟩ rfl rfl hl.1 rfl (lv_room (Nat.le_of_ble_eq_true rfl)) dJS_checkIndex_5 ⟨Nat.le_of_ble_eq_true rfl, Nat.le_of_ble_eq_true rfl⟩) hS (fun q _ h => hFc q h) hFc (fun r1 u9 t H1 locs ht hvm hr9 hB hz1 hk1 hS => ?_)
    obtain ⟨hP1, hK1, hD1⟩ := hB
    rw [ht] at hP1
    obtain ⟨hP, hD⟩ := xjoin (W := []) hP hD [] [] 0 rfl rfl (by decide) (by decide) hk1 hFc hP1 hD1
    generalize H1 = H at hP hS ⊢
    rw [hr9]
    refine W.eq (g2 := F0 m 8 ls [.int 3]) rfl ?_
    refine lv_pop hx hb dJS_checkIndex_8 rfl ?_
    obtain ⟨hP9, hD9⟩ := xsub (wc := []) hP hD [] rfl rfl (by decide)
    refine W.widen (k := 0) (n := 0) (Nat.le_of_ble_eq_true rfl) (Nat.le_of_ble_eq_true rfl) ?_
    exact W.vret hx hb hr (fun t ht hW => ⟨⟨(), rfl, trivial, by rw [ht]; exact hP9, va_K.moved hW.alike hK, hD9⟩, hS.F ht⟩) hS.2.2 dJS_checkIndex_9
  · refine va_gets hx hb hq9 hS hown (htx _ kw_2_91) (fun _ h9 => h9) dJS_checkIndex_2 ?_
    obtain ⟨hPc, hDc, hFc⟩ := xcut (wc := []) hP hD hS hA [] rfl rfl (by decide)
    refine va_calli (va_runS (As := [.int 3, .int 4, .ref b9]) (rest := []) ⟨hx, hb, hml, hown, htx⟩ (cJP_checkIndex_7 l hl9 D cT aK aV s.heap.size b9) ⟨callB_of 3 htx (xw_goodC kw_2_95) rfl rfl rfl (htx _ kw_1_8) (htx _ kw_2_93) ⟨by decide, by decide, by decide +kernel⟩ ⟨Nat.le_of_ble_eq_true rfl, Nat.le_of_ble_eq_true rfl⟩, htx _ kw_2_94⟩ ⟨xPre_blind, (fun U hU hW => ⟨rfl, xPre_of hZ hS hFc hPc hDc hK U hU hW⟩)⟩ rfl rfl hl.1 rfl (lv_room (Nat.le_of_ble_eq_true rfl)) dJS_checkIndex_5 ⟨Nat.le_of_ble_eq_true rfl, Nat.le_of_ble_eq_true rfl⟩) hS (fun q _ h => hFc q h) hFc (fun r1 u9 t H1 locs ht hvm hr9 hB hz1 hk1 hS => ?_)
    obtain ⟨hP1, hK1, hD1⟩ := hB
    rw [ht] at hP1
    obtain ⟨hP, hD⟩ := xjoin (W := []) hP hD [] [] 0 rfl rfl (by decide) (by decide) hk1 hFc hP1 hD1
    generalize H1 = H at hP hS ⊢
    rw [hr9]
    refine W.eq (g2 := F0 m 8 ls [.int 3]) rfl ?_
    refine lv_pop hx hb dJS_checkIndex_8 rfl ?_
    obtain ⟨hP9, hD9⟩ := xsub (wc := []) hP hD [] rfl rfl (by decide)
    refine W.widen (k := 0) (n := 0) (Nat.le_of_ble_eq_true rfl) (Nat.le_of_ble_eq_true rfl) ?_
    exact W.vret hx hb hr (fun t ht hW => ⟨⟨(), rfl, trivial, by rw [ht]; exact hP9, va_K.moved hW.alike hK, hD9⟩, hS.F ht⟩) hS.2.2 dJS_checkIndex_9
set_option maxHeartbeats 400000000 in
set_option maxRecDepth 100000 in
theorem cJT_charAt_3 (l : Launch) (hl9 : l.stackTraces = false) (D : va_G) (cT : Nat → ClassId) (aK aV : Nat → Nat) (sz : Nat) : xMet l yJT_charAt wyJT_charAt 2 0 0 43 D cT aK aV sz [.ref (aV 10), .int 3] [] (fun A => va_Qi (fun (r : Int32) (_ : Unit) => r = 108) (fun _ t => xB D xcl cT A [] t) A) := by
  refine Met.ofW (cc := prog_24_method_2_code) (maxL := 2) (ret := (some .char)) (by decide) rfl ?_
  intro p e s m args below meth c s₁ B hml hv
  obtain ⟨rfl, hsz, hZ, hP, hK, hD0⟩ := hv
  have hx := B.exec
  have hb := B.bytes
  have hr := B.returns
  have hts := atoms_spec (ws := wyJT_charAt) B.pre
  have htx := fun w h => hts w (List.mem_cons_of_mem _ h)
  have hown : s.vm.findClass "java/lang/StringLatin1" = some m.cls := findClass_of_methodNamed B.named
  have hlocks := B.notSynchronized
  subst hsz
  have hD := hD0.self (sz := s.heap.size)
  generalize hAe : va_A [] s.heap.size = A at hD hZ ⊢
  have hA : ∀ q : Nat, s.heap.size ≤ q → A q := fun q h => by rw [← hAe]; exact Or.inr h
  have hS : va_S A s.heap s.heap [] := va_S.rf
  have hP : va_P D xcl [] s.heap := hP
  have hl := lv_entry ([.ref (aV 10), .int 3]) (n := 2) (Nat.le_of_ble_eq_true rfl)
  rw [lg_entry_eq]
  generalize (lg_sl ([.ref (aV 10), .int 3]) ++ List.replicate (2 - (lg_sl ([.ref (aV 10), .int 3])).length) Slot.unset).toArray = ls at hl ⊢
  have hl : lv_has ls 2 [(0, .ref (aV 10)), (1, .int 3)] := hl
  refine lv_iload_n hx hb dJT_charAt_0 rfl (lv_at hl 1 rfl) ?_
  refine lv_aload_n hx hb dJT_charAt_1 rfl (lv_at hl 0 rfl) ?_
  refine va_tlen (v := 4) hx hb (hZ.2.2.2.2.2.2.2.2.2.1.1 10 (by decide)).2.2.2 hS rfl dJT_charAt_2 ?_
  obtain ⟨hPc, hDc, hFc⟩ := xcut (wc := []) hP hD hS hA [] rfl rfl (by decide)
  refine va_callv (va_runS (As := [.int 3, .int 4]) (rest := []) ⟨hx, hb, hml, hown, htx⟩ (cJS_checkIndex_3 l hl9 D cT aK aV s.heap.size) ⟨callB_of 2 htx (xw_goodC kw_2_90) rfl rfl rfl (htx _ kw_1_6) (htx _ kw_2_88) ⟨by decide, by decide, by decide +kernel⟩ ⟨Nat.le_of_ble_eq_true rfl, Nat.le_of_ble_eq_true rfl⟩, htx _ kw_2_89⟩ ⟨xPre_blind, (fun U hU hW => ⟨rfl, xPre_of hZ hS hFc hPc hDc hK U hU hW⟩)⟩ rfl rfl hl.1 rfl (lv_room (Nat.le_of_ble_eq_true rfl)) dJT_charAt_3 ⟨Nat.le_of_ble_eq_true rfl, Nat.le_of_ble_eq_true rfl⟩) hS (fun q _ h => hFc q h) hFc (fun u9 t H1 locs ht hvm hr9 hB hz1 hk1 hS => ?_)
  obtain ⟨hP1, hK1, hD1⟩ := hB
  rw [ht] at hP1
  obtain ⟨hP, hD⟩ := xjoin (W := []) hP hD [] [] 0 rfl rfl (by decide) (by decide) hk1 hFc hP1 hD1
  generalize H1 = H at hP hS ⊢
  refine lv_aload_n hx hb dJT_charAt_6 rfl (lv_at hl 0 rfl) ?_
  refine lv_iload_n hx hb dJT_charAt_7 rfl (lv_at hl 1 rfl) ?_
  refine va_tb (v := .int 108) hx hb (hZ.2.2.2.2.2.2.2.2.2.1.1 10 (by decide)).2.2.2 hS (show ¬ ((3 : Int32) < 0 ∨ 4 ≤ (3 : Int32).toNatClampNeg) by decide) rfl dJT_charAt_8 ?_
  refine lv_sipush (v := 255) hx hb dJT_charAt_9 (by decide) ?_
  refine lv_iand hx hb dJT_charAt_12 ?_
  refine W.eq (g2 := F0 m 13 ls [.int 108]) rfl ?_
  refine lv_i2c hx hb dJT_charAt_13 rfl ?_
  refine W.eq (g2 := F0 m 14 ls [.int 108]) rfl ?_
  obtain ⟨hP9, hD9⟩ := xsub (wc := []) hP hD [] rfl rfl (by decide)
  refine W.widen (k := 0) (n := 0) (Nat.le_of_ble_eq_true rfl) (Nat.le_of_ble_eq_true rfl) ?_
  exact W.zret (v := 108) hx hb hr rfl (fun t ht hW => ⟨⟨108, (), rfl, rfl, by rw [ht]; exact hP9, va_K.moved hW.alike hK, hD9⟩, hS.F ht⟩) hS.2.2 dJT_charAt_14
set_option maxHeartbeats 400000000 in
set_option maxRecDepth 100000 in
theorem cJS_charAt_3 (l : Launch) (hl9 : l.stackTraces = false) (D : va_G) (cT : Nat → ClassId) (aK aV : Nat → Nat) (sz : Nat) : xMet l yJS_charAt wyJS_charAt 3 0 0 64 D cT aK aV sz [.ref (aK 10), .int 3] [] (fun A => va_Qi (fun (r : Int32) (_ : Unit) => r = 108) (fun _ t => xB D xcl cT A [] t) A) := by
  refine Met.ofW (cc := prog_23_method_56_code) (maxL := 2) (ret := (some .char)) (by decide) rfl ?_
  intro p e s m args below meth c s₁ B hml hv
  obtain ⟨rfl, hsz, hZ, hP, hK, hD0⟩ := hv
  have hx := B.exec
  have hb := B.bytes
  have hr := B.returns
  have hts := atoms_spec (ws := wyJS_charAt) B.pre
  have htx := fun w h => hts w (List.mem_cons_of_mem _ h)
  have hown : s.vm.findClass "java/lang/String" = some m.cls := findClass_of_methodNamed B.named
  have hlocks := B.notSynchronized
  subst hsz
  have hD := hD0.self (sz := s.heap.size)
  generalize hAe : va_A [] s.heap.size = A at hD hZ ⊢
  have hA : ∀ q : Nat, s.heap.size ≤ q → A q := fun q h => by rw [← hAe]; exact Or.inr h
  have hS : va_S A s.heap s.heap [] := va_S.rf
  have hP : va_P D xcl [] s.heap := hP
  have hl := lv_entry ([.ref (aK 10), .int 3]) (n := 2) (Nat.le_of_ble_eq_true rfl)
  rw [lg_entry_eq]
  generalize (lg_sl ([.ref (aK 10), .int 3]) ++ List.replicate (2 - (lg_sl ([.ref (aK 10), .int 3])).length) Slot.unset).toArray = ls at hl ⊢
  have hl : lv_has ls 2 [(0, .ref (aK 10)), (1, .int 3)] := hl
  refine lv_aload_n hx hb dJS_charAt_0 rfl (lv_at hl 0 rfl) ?_
  obtain ⟨hPc, hDc, hFc⟩ := xcut (wc := []) hP hD hS hA [] rfl rfl (by decide)
  refine va_calli (va_runV (C := "java/lang/String") (As := []) (rest := []) ⟨hx, hb, hml, hown, htx⟩ (cJS_isLatin1_0 l hl9 D cT aK aV s.heap.size) ⟨callB_of 0 htx (xw_goodC kw_2_84) rfl rfl rfl (htx _ kw_1_6) (htx _ kw_2_81) ⟨by decide, by decide, by decide +kernel⟩ ⟨Nat.le_of_ble_eq_true rfl, Nat.le_of_ble_eq_true rfl⟩, (htx _ kw_2_82), (htx _ kw_2_83)⟩ ⟨xPre_blind, vk_recv hZ.2.2.2.2.2.2.2.2.2.1 (i := 10) (by decide) hS, (fun U hU hW => ⟨rfl, xPre_of hZ hS hFc hPc hDc hK U hU hW⟩)⟩ rfl rfl hl.1 rfl (lv_room (Nat.le_of_ble_eq_true rfl)) dJS_charAt_1 ⟨Nat.le_of_ble_eq_true rfl, Nat.le_of_ble_eq_true rfl⟩) hS (fun q _ h => hFc q h) hFc (fun r1 u9 t H1 locs ht hvm hr9 hB hz1 hk1 hS => ?_)
  obtain ⟨hP1, hK1, hD1⟩ := hB
  rw [ht] at hP1
  obtain ⟨hP, hD⟩ := xjoin (W := []) hP hD [] [] 0 rfl rfl (by decide) (by decide) hk1 hFc hP1 hD1
  generalize H1 = H at hP hS ⊢
  rw [hr9]
  refine W.eq (g2 := F0 m 4 ls [.int 1]) rfl ?_
  refine lv_if_eq (tgt := 16) hx hb dJS_charAt_4 (by decide) (fun h => ((by revert h; decide : False)).elim) (fun _ => ?_)
  refine lv_aload_n hx hb dJS_charAt_7 rfl (lv_at hl 0 rfl) ?_
  refine vk_getf (o := "java/lang/String") (n := "value") (d := "[B") (v := .ref (aV 10)) hx hb (hZ.2.2.2.2.2.2.2.2.2.1.1 10 (by decide)).2.2.1 hS hown (htx _ kw_7_134) (fun _ h9 => h9) dJS_charAt_8 ?_
  refine lv_iload_n hx hb dJS_charAt_11 rfl (lv_at hl 1 rfl) ?_
  obtain ⟨hPc, hDc, hFc⟩ := xcut (wc := []) hP hD hS hA [] rfl rfl (by decide)
  refine va_calli (va_runS (As := [.ref (aV 10), .int 3]) (rest := []) ⟨hx, hb, hml, hown, htx⟩ (cJT_charAt_3 l hl9 D cT aK aV H.size) ⟨callB_of 2 htx (xw_goodC kw_2_87) rfl rfl rfl (htx _ kw_1_7) (htx _ kw_2_85) ⟨by decide, by decide, by decide +kernel⟩ ⟨Nat.le_of_ble_eq_true rfl, Nat.le_of_ble_eq_true rfl⟩, htx _ kw_2_86⟩ ⟨xPre_blind, (fun U hU hW => ⟨rfl, xPre_of hZ hS hFc hPc hDc hK U hU hW⟩)⟩ rfl rfl hl.1 rfl (lv_room (Nat.le_of_ble_eq_true rfl)) dJS_charAt_12 ⟨Nat.le_of_ble_eq_true rfl, Nat.le_of_ble_eq_true rfl⟩) hS (fun q _ h => hFc q h) hFc (fun r2 u9 t H1 locs ht hvm hr9 hB hz1 hk1 hS => ?_)
  obtain ⟨hP1, hK1, hD1⟩ := hB
  rw [ht] at hP1
  obtain ⟨hP, hD⟩ := xjoin (W := []) hP hD [] [] 0 rfl rfl (by decide) (by decide) hk1 hFc hP1 hD1
  generalize H1 = H at hP hS ⊢
  rw [hr9]
  refine W.eq (g2 := F0 m 15 ls [.int 108]) rfl ?_
  obtain ⟨hP9, hD9⟩ := xsub (wc := []) hP hD [] rfl rfl (by decide)
  refine W.widen (k := 0) (n := 0) (Nat.le_of_ble_eq_true rfl) (Nat.le_of_ble_eq_true rfl) ?_
  exact W.zret (v := 108) hx hb hr rfl (fun t ht hW => ⟨⟨108, (), rfl, rfl, by rw [ht]; exact hP9, va_K.moved hW.alike hK, hD9⟩, hS.F ht⟩) hS.2.2 dJS_charAt_15
set_option maxHeartbeats 400000000 in
set_option maxRecDepth 100000 in
theorem cM_init_0 (l : Launch) (hl9 : l.stackTraces = false) (D : va_G) (cT : Nat → ClassId) (aK aV : Nat → Nat) (sz : Nat) (a0 : Nat) (v1 : Value) (v2 : Value) (v3 : Value) (v4 : Value) (v5 : Value) (v6 : Value) (v7 : Value) (v8 : Value) (v9 : Value) (v10 : Value) (v11 : Value) (v12 : Value) (v13 : Value) (v14 : Value) (v15 : Value) (v16 : Value) (v17 : Value) (v18 : Value) (v19 : Value) (v20 : Value) (v21 : Value) (v22 : Value) (v23 : Value) (v24 : Value) (v25 : Value) (v26 : Value) (v27 : Value) (v28 : Value) (v29 : Value) (v30 : Value) (v31 : Value) (v32 : Value) : xMet l yM_init wyM_init 4 21 49808 85 D cT aK aV sz [.ref a0] [(a0, .inr (5, [v1, v2, v3, v4, v5, v6, v7, v8, v9, v10, v11, v12, v13, v14, v15, v16, v17, v18, v19, v20, v21, v22, v23, v24, v25, v26, v27, v28, v29, v30, v31, v32]))] (fun A => va_Qv (fun _ : Unit => True) (fun _ t => ∃ (q1 : Nat) (q2 : Nat) (q3 : Nat) (q4 : Nat) (q5 : Nat) (q6 : Nat) (q7 : Nat) (q8 : Nat) (q9 : Nat) (q10 : Nat) (q11 : Nat) (q12 : Nat) (q13 : Nat) (q14 : Nat) (q15 : Nat) (q16 : Nat) (q17 : Nat) (q18 : Nat) (q19 : Nat) (q20 : Nat) (q21 : Nat), xB D xcl cT A [(a0, .inr (5, [v1, .ref q1, v3, .ref q2, v5, .ref q3, .ref q4, v8, v9, v10, .ref q5, .ref q6, v13, .ref q7, .ref q8, v16, v17, v18, v19, .int 40, .int (-1), .ref q9, v23, .int 1000000000, .ref q10, .ref q19, .ref q20, v28, .ref q21, v30, v31, .int (-1)])), (q1, .inl (cT 4, 1024, .inr (.inr (.inr (.inr (fun _ => none)))))), (q2, .inl (cT 0, 4096, .inl (fun _ => 0))), (q3, .inl (cT 4, 1024, .inr (.inr (.inr (.inr (fun _ => none)))))), (q4, .inl (cT 4, 1024, .inr (.inr (.inr (.inr (fun _ => none)))))), (q5, .inl (cT 4, 256, .inr (.inr (.inr (.inr (fun _ => none)))))), (q6, .inl (cT 4, 256, .inr (.inr (.inr (.inr (fun _ => none)))))), (q7, .inl (cT 1, 64, .inl (fun _ => 0))), (q8, .inl (cT 1, 64, .inl (fun _ => 0))), (q9, .inl (cT 0, 1024, .inl (fun _ => 0))), (q10, .inl (cT 5, 8, .inr (.inr (.inr (.inr (x8 q11 q12 q13 q14 q15 q16 q17 q18)))))), (q11, .inl (cT 0, 4096, .inl (upd (upd (upd (upd (fun _ => 0) 0 110) 1 117) 2 108) 3 108))), (q12, .inl (cT 0, 4096, .inl (upd (upd (upd (upd (fun _ => 0) 0 110) 1 117) 2 108) 3 108))), (q13, .inl (cT 0, 4096, .inl (upd (upd (upd (upd (fun _ => 0) 0 110) 1 117) 2 108) 3 108))), (q14, .inl (cT 0, 4096, .inl (upd (upd (upd (upd (fun _ => 0) 0 110) 1 117) 2 108) 3 108))), (q15, .inl (cT 0, 4096, .inl (upd (upd (upd (upd (fun _ => 0) 0 110) 1 117) 2 108) 3 108))), (q16, .inl (cT 0, 4096, .inl (upd (upd (upd (upd (fun _ => 0) 0 110) 1 117) 2 108) 3 108))), (q17, .inl (cT 0, 4096, .inl (upd (upd (upd (upd (fun _ => 0) 0 110) 1 117) 2 108) 3 108))), (q18, .inl (cT 0, 4096, .inl (upd (upd (upd (upd (fun _ => 0) 0 110) 1 117) 2 108) 3 108))), (q19, .inl (cT 1, 8, .inl (upd (upd (upd (upd (upd (upd (upd (upd (fun _ => 0) 0 4) 1 4) 2 4) 3 4) 4 4) 5 4) 6 4) 7 4))), (q20, .inl (cT 0, 4096, .inl (fun _ => 0))), (q21, .inl (cT 0, 4096, .inl (fun _ => 0)))] t) A) := by
  refine Met.ofW (cc := prog_13_method_1_code) (maxL := 3) (ret := none) (by decide) rfl ?_
  intro p e s m args below meth c s₁ B hml hv
  obtain ⟨rfl, hsz, hZ, hP, hK, hD0⟩ := hv
  have hx := B.exec
  have hb := B.bytes
  have hr := B.returns
  have hts := atoms_spec (ws := wyM_init) B.pre
  have htx := fun w h => hts w (List.mem_cons_of_mem _ h)
  have hown : s.vm.findClass "ValueBenchModel" = some m.cls := findClass_of_methodNamed B.named
  have hlocks := B.notSynchronized
  have hin : meth.name = "<init>" := (name_of_methodNamed B.named B.method).1
  subst hsz
  have hD := hD0.self (sz := s.heap.size)
  generalize hAe : va_A [(a0, .inr (5, [v1, v2, v3, v4, v5, v6, v7, v8, v9, v10, v11, v12, v13, v14, v15, v16, v17, v18, v19, v20, v21, v22, v23, v24, v25, v26, v27, v28, v29, v30, v31, v32]))] s.heap.size = A at hD hZ ⊢
  have hA : ∀ q : Nat, s.heap.size ≤ q → A q := fun q h => by rw [← hAe]; exact Or.inr h
  have hS : va_S A s.heap s.heap [] := va_S.rf
  have hP : va_P D xcl [(a0, .inr (5, [v1, v2, v3, v4, v5, v6, v7, v8, v9, v10, v11, v12, v13, v14, v15, v16, v17, v18, v19, v20, v21, v22, v23, v24, v25, v26, v27, v28, v29, v30, v31, v32]))] s.heap := hP
  have hl := lv_entry ([.ref a0]) (n := 3) (Nat.le_of_ble_eq_true rfl)
  rw [lg_entry_eq]
  generalize (lg_sl ([.ref a0]) ++ List.replicate (3 - (lg_sl ([.ref a0])).length) Slot.unset).toArray = ls at hl ⊢
  have hl : lv_has ls 3 [(0, .ref a0)] := hl
  refine lv_aload_n hx hb dM_init_0 rfl (lv_at hl 0 rfl) ?_
  refine W.objInit hx hb hown (htx _ kw_5_79) (htx _ kw_1_35) (htx _ kw_1_36) rfl (by rw [hml]; exact hl.1) rfl dM_init_1 (Nat.le_of_ble_eq_true rfl) (Nat.le_of_ble_eq_true rfl) ?_
  refine W.eq (g2 := F0 m 4 ls []) rfl ?_
  refine lv_aload_n hx hb dM_init_4 rfl (lv_at hl 0 rfl) ?_
  refine lv_sipush (v := 1024) hx hb dM_init_5 (by decide) ?_
  refine va_newq (C := "ValueBenchModel$V") (N' := 1024) (n := 1024) hx hb hown (htx _ kw_5_80) hZ.2.2.1.2 hK hP hD hS hA (by decide) (by decide) (by decide) (Nat.le_of_ble_eq_true rfl) (Nat.le_of_ble_eq_true rfl) dM_init_8 (fun q1 cA9 H hK9 hP hD hS => ?_)
  obtain rfl := xk_eq hK9 4 rfl
  obtain ⟨hP, hD⟩ : xPD D xcl A [(a0, .inr (5, [v1, v2, v3, v4, v5, v6, v7, v8, v9, v10, v11, v12, v13, v14, v15, v16, v17, v18, v19, v20, v21, v22, v23, v24, v25, v26, v27, v28, v29, v30, v31, v32])), (q1, .inl (cT 4, 1024, .inr (.inr (.inr (.inr (fun _ => none))))))] H := ⟨hP, hD⟩
  refine va_put (D := D) (ci := 5) (v := .ref q1) (ty := (.array (.object "ValueBenchModel$V"))) (C := "ValueBenchModel") (T := TM) (N := 32) hx hb htx inM tyM tyM_ok nmM hown hK hP hD hS 0 rfl rfl 1 (by decide) (htx _ kw_5_88) (fun _ h9 => h9) rfl (by decide +kernel) rfl rfl (Nat.le_of_ble_eq_true rfl) dM_init_11 (fun H locs hP hD hS => ?_)
  obtain ⟨hP, hD⟩ : xPD D xcl A [(a0, .inr (5, [v1, .ref q1, v3, v4, v5, v6, v7, v8, v9, v10, v11, v12, v13, v14, v15, v16, v17, v18, v19, v20, v21, v22, v23, v24, v25, v26, v27, v28, v29, v30, v31, v32])), (q1, .inl (cT 4, 1024, .inr (.inr (.inr (.inr (fun _ => none))))))] H := ⟨hP, hD⟩
  refine lv_aload_n hx hb dM_init_14 rfl (lv_at hl 0 rfl) ?_
  refine lv_sipush (v := 4096) hx hb dM_init_15 (by decide) ?_
  refine va_newa (atype := .byte) (N' := 4096) (a0 := (4096, .inl (fun _ => 0))) (ty := .byte) (n := 4096) hx hb (htx _ kw_1_53) rfl hK hP hD hS hA (fun _ => rfl) (by decide) (by decide) (by decide) (Nat.le_of_ble_eq_true rfl) (Nat.le_of_ble_eq_true rfl) dM_init_18 (fun q2 cA9 H hK9 hP hD hS => ?_)
  obtain rfl := xk_eq hK9 0 rfl
  obtain ⟨hP, hD⟩ : xPD D xcl A [(a0, .inr (5, [v1, .ref q1, v3, v4, v5, v6, v7, v8, v9, v10, v11, v12, v13, v14, v15, v16, v17, v18, v19, v20, v21, v22, v23, v24, v25, v26, v27, v28, v29, v30, v31, v32])), (q1, .inl (cT 4, 1024, .inr (.inr (.inr (.inr (fun _ => none)))))), (q2, .inl (cT 0, 4096, .inl (fun _ => 0)))] H := ⟨hP, hD⟩
  refine va_put (D := D) (ci := 5) (v := .ref q2) (ty := (.array .byte)) (C := "ValueBenchModel") (T := TM) (N := 32) hx hb htx inM tyM tyM_ok nmM hown hK hP hD hS 0 rfl rfl 3 (by decide) (htx _ kw_5_90) (fun _ h9 => h9) rfl (by decide +kernel) rfl rfl (Nat.le_of_ble_eq_true rfl) dM_init_20 (fun H locs hP hD hS => ?_)
  obtain ⟨hP, hD⟩ : xPD D xcl A [(a0, .inr (5, [v1, .ref q1, v3, .ref q2, v5, v6, v7, v8, v9, v10, v11, v12, v13, v14, v15, v16, v17, v18, v19, v20, v21, v22, v23, v24, v25, v26, v27, v28, v29, v30, v31, v32])), (q1, .inl (cT 4, 1024, .inr (.inr (.inr (.inr (fun _ => none)))))), (q2, .inl (cT 0, 4096, .inl (fun _ => 0)))] H := ⟨hP, hD⟩
  refine lv_aload_n hx hb dM_init_23 rfl (lv_at hl 0 rfl) ?_
  refine lv_sipush (v := 1024) hx hb dM_init_24 (by decide) ?_
  refine va_newq (C := "ValueBenchModel$V") (N' := 1024) (n := 1024) hx hb hown (htx _ kw_5_80) hZ.2.2.1.2 hK hP hD hS hA (by decide) (by decide) (by decide) (Nat.le_of_ble_eq_true rfl) (Nat.le_of_ble_eq_true rfl) dM_init_27 (fun q3 cA9 H hK9 hP hD hS => ?_)
  obtain rfl := xk_eq hK9 4 rfl
  obtain ⟨hP, hD⟩ : xPD D xcl A [(a0, .inr (5, [v1, .ref q1, v3, .ref q2, v5, v6, v7, v8, v9, v10, v11, v12, v13, v14, v15, v16, v17, v18, v19, v20, v21, v22, v23, v24, v25, v26, v27, v28, v29, v30, v31, v32])), (q1, .inl (cT 4, 1024, .inr (.inr (.inr (.inr (fun _ => none)))))), (q2, .inl (cT 0, 4096, .inl (fun _ => 0))), (q3, .inl (cT 4, 1024, .inr (.inr (.inr (.inr (fun _ => none))))))] H := ⟨hP, hD⟩
  refine va_put (D := D) (ci := 5) (v := .ref q3) (ty := (.array (.object "ValueBenchModel$V"))) (C := "ValueBenchModel") (T := TM) (N := 32) hx hb htx inM tyM tyM_ok nmM hown hK hP hD hS 0 rfl rfl 5 (by decide) (htx _ kw_5_92) (fun _ h9 => h9) rfl (by decide +kernel) rfl rfl (Nat.le_of_ble_eq_true rfl) dM_init_30 (fun H locs hP hD hS => ?_)
  obtain ⟨hP, hD⟩ : xPD D xcl A [(a0, .inr (5, [v1, .ref q1, v3, .ref q2, v5, .ref q3, v7, v8, v9, v10, v11, v12, v13, v14, v15, v16, v17, v18, v19, v20, v21, v22, v23, v24, v25, v26, v27, v28, v29, v30, v31, v32])), (q1, .inl (cT 4, 1024, .inr (.inr (.inr (.inr (fun _ => none)))))), (q2, .inl (cT 0, 4096, .inl (fun _ => 0))), (q3, .inl (cT 4, 1024, .inr (.inr (.inr (.inr (fun _ => none))))))] H := ⟨hP, hD⟩
  refine lv_aload_n hx hb dM_init_33 rfl (lv_at hl 0 rfl) ?_
  refine lv_sipush (v := 1024) hx hb dM_init_34 (by decide) ?_
  refine va_newq (C := "ValueBenchModel$V") (N' := 1024) (n := 1024) hx hb hown (htx _ kw_5_80) hZ.2.2.1.2 hK hP hD hS hA (by decide) (by decide) (by decide) (Nat.le_of_ble_eq_true rfl) (Nat.le_of_ble_eq_true rfl) dM_init_37 (fun q4 cA9 H hK9 hP hD hS => ?_)
  obtain rfl := xk_eq hK9 4 rfl
  obtain ⟨hP, hD⟩ : xPD D xcl A [(a0, .inr (5, [v1, .ref q1, v3, .ref q2, v5, .ref q3, v7, v8, v9, v10, v11, v12, v13, v14, v15, v16, v17, v18, v19, v20, v21, v22, v23, v24, v25, v26, v27, v28, v29, v30, v31, v32])), (q1, .inl (cT 4, 1024, .inr (.inr (.inr (.inr (fun _ => none)))))), (q2, .inl (cT 0, 4096, .inl (fun _ => 0))), (q3, .inl (cT 4, 1024, .inr (.inr (.inr (.inr (fun _ => none)))))), (q4, .inl (cT 4, 1024, .inr (.inr (.inr (.inr (fun _ => none))))))] H := ⟨hP, hD⟩
  refine va_put (D := D) (ci := 5) (v := .ref q4) (ty := (.array (.object "ValueBenchModel$V"))) (C := "ValueBenchModel") (T := TM) (N := 32) hx hb htx inM tyM tyM_ok nmM hown hK hP hD hS 0 rfl rfl 6 (by decide) (htx _ kw_5_93) (fun _ h9 => h9) rfl (by decide +kernel) rfl rfl (Nat.le_of_ble_eq_true rfl) dM_init_40 (fun H locs hP hD hS => ?_)
  obtain ⟨hP, hD⟩ : xPD D xcl A [(a0, .inr (5, [v1, .ref q1, v3, .ref q2, v5, .ref q3, .ref q4, v8, v9, v10, v11, v12, v13, v14, v15, v16, v17, v18, v19, v20, v21, v22, v23, v24, v25, v26, v27, v28, v29, v30, v31, v32])), (q1, .inl (cT 4, 1024, .inr (.inr (.inr (.inr (fun _ => none)))))), (q2, .inl (cT 0, 4096, .inl (fun _ => 0))), (q3, .inl (cT 4, 1024, .inr (.inr (.inr (.inr (fun _ => none)))))), (q4, .inl (cT 4, 1024, .inr (.inr (.inr (.inr (fun _ => none))))))] H := ⟨hP, hD⟩
  refine lv_aload_n hx hb dM_init_43 rfl (lv_at hl 0 rfl) ?_
  refine lv_sipush (v := 256) hx hb dM_init_44 (by decide) ?_
  refine va_newq (C := "ValueBenchModel$V") (N' := 256) (n := 256) hx hb hown (htx _ kw_5_80) hZ.2.2.1.2 hK hP hD hS hA (by decide) (by decide) (by decide) (Nat.le_of_ble_eq_true rfl) (Nat.le_of_ble_eq_true rfl) dM_init_47 (fun q5 cA9 H hK9 hP hD hS => ?_)
  obtain rfl := xk_eq hK9 4 rfl
  obtain ⟨hP, hD⟩ : xPD D xcl A [(a0, .inr (5, [v1, .ref q1, v3, .ref q2, v5, .ref q3, .ref q4, v8, v9, v10, v11, v12, v13, v14, v15, v16, v17, v18, v19, v20, v21, v22, v23, v24, v25, v26, v27, v28, v29, v30, v31, v32])), (q1, .inl (cT 4, 1024, .inr (.inr (.inr (.inr (fun _ => none)))))), (q2, .inl (cT 0, 4096, .inl (fun _ => 0))), (q3, .inl (cT 4, 1024, .inr (.inr (.inr (.inr (fun _ => none)))))), (q4, .inl (cT 4, 1024, .inr (.inr (.inr (.inr (fun _ => none)))))), (q5, .inl (cT 4, 256, .inr (.inr (.inr (.inr (fun _ => none))))))] H := ⟨hP, hD⟩
  refine va_put (D := D) (ci := 5) (v := .ref q5) (ty := (.array (.object "ValueBenchModel$V"))) (C := "ValueBenchModel") (T := TM) (N := 32) hx hb htx inM tyM tyM_ok nmM hown hK hP hD hS 0 rfl rfl 10 (by decide) (htx _ kw_5_97) (fun _ h9 => h9) rfl (by decide +kernel) rfl rfl (Nat.le_of_ble_eq_true rfl) dM_init_50 (fun H locs hP hD hS => ?_)
  obtain ⟨hP, hD⟩ : xPD D xcl A [(a0, .inr (5, [v1, .ref q1, v3, .ref q2, v5, .ref q3, .ref q4, v8, v9, v10, .ref q5, v12, v13, v14, v15, v16, v17, v18, v19, v20, v21, v22, v23, v24, v25, v26, v27, v28, v29, v30, v31, v32])), (q1, .inl (cT 4, 1024, .inr (.inr (.inr (.inr (fun _ => none)))))), (q2, .inl (cT 0, 4096, .inl (fun _ => 0))), (q3, .inl (cT 4, 1024, .inr (.inr (.inr (.inr (fun _ => none)))))), (q4, .inl (cT 4, 1024, .inr (.inr (.inr (.inr (fun _ => none)))))), (q5, .inl (cT 4, 256, .inr (.inr (.inr (.inr (fun _ => none))))))] H := ⟨hP, hD⟩
  refine lv_aload_n hx hb dM_init_53 rfl (lv_at hl 0 rfl) ?_
  refine lv_sipush (v := 256) hx hb dM_init_54 (by decide) ?_
  refine va_newq (C := "ValueBenchModel$V") (N' := 256) (n := 256) hx hb hown (htx _ kw_5_80) hZ.2.2.1.2 hK hP hD hS hA (by decide) (by decide) (by decide) (Nat.le_of_ble_eq_true rfl) (Nat.le_of_ble_eq_true rfl) dM_init_57 (fun q6 cA9 H hK9 hP hD hS => ?_)
  obtain rfl := xk_eq hK9 4 rfl
  obtain ⟨hP, hD⟩ : xPD D xcl A [(a0, .inr (5, [v1, .ref q1, v3, .ref q2, v5, .ref q3, .ref q4, v8, v9, v10, .ref q5, v12, v13, v14, v15, v16, v17, v18, v19, v20, v21, v22, v23, v24, v25, v26, v27, v28, v29, v30, v31, v32])), (q1, .inl (cT 4, 1024, .inr (.inr (.inr (.inr (fun _ => none)))))), (q2, .inl (cT 0, 4096, .inl (fun _ => 0))), (q3, .inl (cT 4, 1024, .inr (.inr (.inr (.inr (fun _ => none)))))), (q4, .inl (cT 4, 1024, .inr (.inr (.inr (.inr (fun _ => none)))))), (q5, .inl (cT 4, 256, .inr (.inr (.inr (.inr (fun _ => none)))))), (q6, .inl (cT 4, 256, .inr (.inr (.inr (.inr (fun _ => none))))))] H := ⟨hP, hD⟩
  refine va_put (D := D) (ci := 5) (v := .ref q6) (ty := (.array (.object "ValueBenchModel$V"))) (C := "ValueBenchModel") (T := TM) (N := 32) hx hb htx inM tyM tyM_ok nmM hown hK hP hD hS 0 rfl rfl 11 (by decide) (htx _ kw_5_98) (fun _ h9 => h9) rfl (by decide +kernel) rfl rfl (Nat.le_of_ble_eq_true rfl) dM_init_60 (fun H locs hP hD hS => ?_)
  obtain ⟨hP, hD⟩ : xPD D xcl A [(a0, .inr (5, [v1, .ref q1, v3, .ref q2, v5, .ref q3, .ref q4, v8, v9, v10, .ref q5, .ref q6, v13, v14, v15, v16, v17, v18, v19, v20, v21, v22, v23, v24, v25, v26, v27, v28, v29, v30, v31, v32])), (q1, .inl (cT 4, 1024, .inr (.inr (.inr (.inr (fun _ => none)))))), (q2, .inl (cT 0, 4096, .inl (fun _ => 0))), (q3, .inl (cT 4, 1024, .inr (.inr (.inr (.inr (fun _ => none)))))), (q4, .inl (cT 4, 1024, .inr (.inr (.inr (.inr (fun _ => none)))))), (q5, .inl (cT 4, 256, .inr (.inr (.inr (.inr (fun _ => none)))))), (q6, .inl (cT 4, 256, .inr (.inr (.inr (.inr (fun _ => none))))))] H := ⟨hP, hD⟩
  refine lv_aload_n hx hb dM_init_63 rfl (lv_at hl 0 rfl) ?_
  refine lv_bipush (v := 64) hx hb dM_init_64 (by decide) ?_
  refine va_newa (atype := .int) (N' := 64) (a0 := (64, .inl (fun _ => 0))) (ty := .int) (n := 64) hx hb (htx _ kw_1_78) rfl hK hP hD hS hA (fun _ => rfl) (by decide) (by decide) (by decide) (Nat.le_of_ble_eq_true rfl) (Nat.le_of_ble_eq_true rfl) dM_init_66 (fun q7 cA9 H hK9 hP hD hS => ?_)
  obtain rfl := xk_eq hK9 1 rfl
  obtain ⟨hP, hD⟩ : xPD D xcl A [(a0, .inr (5, [v1, .ref q1, v3, .ref q2, v5, .ref q3, .ref q4, v8, v9, v10, .ref q5, .ref q6, v13, v14, v15, v16, v17, v18, v19, v20, v21, v22, v23, v24, v25, v26, v27, v28, v29, v30, v31, v32])), (q1, .inl (cT 4, 1024, .inr (.inr (.inr (.inr (fun _ => none)))))), (q2, .inl (cT 0, 4096, .inl (fun _ => 0))), (q3, .inl (cT 4, 1024, .inr (.inr (.inr (.inr (fun _ => none)))))), (q4, .inl (cT 4, 1024, .inr (.inr (.inr (.inr (fun _ => none)))))), (q5, .inl (cT 4, 256, .inr (.inr (.inr (.inr (fun _ => none)))))), (q6, .inl (cT 4, 256, .inr (.inr (.inr (.inr (fun _ => none)))))), (q7, .inl (cT 1, 64, .inl (fun _ => 0)))] H := ⟨hP, hD⟩
  refine va_put (D := D) (ci := 5) (v := .ref q7) (ty := (.array .int)) (C := "ValueBenchModel") (T := TM) (N := 32) hx hb htx inM tyM tyM_ok nmM hown hK hP hD hS 0 rfl rfl 13 (by decide) (htx _ kw_5_100) (fun _ h9 => h9) rfl (by decide +kernel) rfl rfl (Nat.le_of_ble_eq_true rfl) dM_init_68 (fun H locs hP hD hS => ?_)
  obtain ⟨hP, hD⟩ : xPD D xcl A [(a0, .inr (5, [v1, .ref q1, v3, .ref q2, v5, .ref q3, .ref q4, v8, v9, v10, .ref q5, .ref q6, v13, .ref q7, v15, v16, v17, v18, v19, v20, v21, v22, v23, v24, v25, v26, v27, v28, v29, v30, v31, v32])), (q1, .inl (cT 4, 1024, .inr (.inr (.inr (.inr (fun _ => none)))))), (q2, .inl (cT 0, 4096, .inl (fun _ => 0))), (q3, .inl (cT 4, 1024, .inr (.inr (.inr (.inr (fun _ => none)))))), (q4, .inl (cT 4, 1024, .inr (.inr (.inr (.inr (fun _ => none)))))), (q5, .inl (cT 4, 256, .inr (.inr (.inr (.inr (fun _ => none)))))), (q6, .inl (cT 4, 256, .inr (.inr (.inr (.inr (fun _ => none)))))), (q7, .inl (cT 1, 64, .inl (fun _ => 0)))] H := ⟨hP, hD⟩
  refine lv_aload_n hx hb dM_init_71 rfl (lv_at hl 0 rfl) ?_
  refine lv_bipush (v := 64) hx hb dM_init_72 (by decide) ?_
  refine va_newa (atype := .int) (N' := 64) (a0 := (64, .inl (fun _ => 0))) (ty := .int) (n := 64) hx hb (htx _ kw_1_78) rfl hK hP hD hS hA (fun _ => rfl) (by decide) (by decide) (by decide) (Nat.le_of_ble_eq_true rfl) (Nat.le_of_ble_eq_true rfl) dM_init_74 (fun q8 cA9 H hK9 hP hD hS => ?_)
  obtain rfl := xk_eq hK9 1 rfl
  obtain ⟨hP, hD⟩ : xPD D xcl A [(a0, .inr (5, [v1, .ref q1, v3, .ref q2, v5, .ref q3, .ref q4, v8, v9, v10, .ref q5, .ref q6, v13, .ref q7, v15, v16, v17, v18, v19, v20, v21, v22, v23, v24, v25, v26, v27, v28, v29, v30, v31, v32])), (q1, .inl (cT 4, 1024, .inr (.inr (.inr (.inr (fun _ => none)))))), (q2, .inl (cT 0, 4096, .inl (fun _ => 0))), (q3, .inl (cT 4, 1024, .inr (.inr (.inr (.inr (fun _ => none)))))), (q4, .inl (cT 4, 1024, .inr (.inr (.inr (.inr (fun _ => none)))))), (q5, .inl (cT 4, 256, .inr (.inr (.inr (.inr (fun _ => none)))))), (q6, .inl (cT 4, 256, .inr (.inr (.inr (.inr (fun _ => none)))))), (q7, .inl (cT 1, 64, .inl (fun _ => 0))), (q8, .inl (cT 1, 64, .inl (fun _ => 0)))] H := ⟨hP, hD⟩
  refine va_put (D := D) (ci := 5) (v := .ref q8) (ty := (.array .int)) (C := "ValueBenchModel") (T := TM) (N := 32) hx hb htx inM tyM tyM_ok nmM hown hK hP hD hS 0 rfl rfl 14 (by decide) (htx _ kw_5_101) (fun _ h9 => h9) rfl (by decide +kernel) rfl rfl (Nat.le_of_ble_eq_true rfl) dM_init_76 (fun H locs hP hD hS => ?_)
  obtain ⟨hP, hD⟩ : xPD D xcl A [(a0, .inr (5, [v1, .ref q1, v3, .ref q2, v5, .ref q3, .ref q4, v8, v9, v10, .ref q5, .ref q6, v13, .ref q7, .ref q8, v16, v17, v18, v19, v20, v21, v22, v23, v24, v25, v26, v27, v28, v29, v30, v31, v32])), (q1, .inl (cT 4, 1024, .inr (.inr (.inr (.inr (fun _ => none)))))), (q2, .inl (cT 0, 4096, .inl (fun _ => 0))), (q3, .inl (cT 4, 1024, .inr (.inr (.inr (.inr (fun _ => none)))))), (q4, .inl (cT 4, 1024, .inr (.inr (.inr (.inr (fun _ => none)))))), (q5, .inl (cT 4, 256, .inr (.inr (.inr (.inr (fun _ => none)))))), (q6, .inl (cT 4, 256, .inr (.inr (.inr (.inr (fun _ => none)))))), (q7, .inl (cT 1, 64, .inl (fun _ => 0))), (q8, .inl (cT 1, 64, .inl (fun _ => 0)))] H := ⟨hP, hD⟩
  refine lv_aload_n hx hb dM_init_79 rfl (lv_at hl 0 rfl) ?_
  refine lv_bipush (v := 40) hx hb dM_init_80 (by decide) ?_
  refine va_put (D := D) (ci := 5) (v := .int 40) (ty := .int) (C := "ValueBenchModel") (T := TM) (N := 32) hx hb htx inM tyM tyM_ok nmM hown hK hP hD hS 0 rfl rfl 19 (by decide) (htx _ kw_5_106) (fun _ h9 => h9) rfl (by decide +kernel) rfl rfl (Nat.le_of_ble_eq_true rfl) dM_init_82 (fun H locs hP hD hS => ?_)
  obtain ⟨hP, hD⟩ : xPD D xcl A [(a0, .inr (5, [v1, .ref q1, v3, .ref q2, v5, .ref q3, .ref q4, v8, v9, v10, .ref q5, .ref q6, v13, .ref q7, .ref q8, v16, v17, v18, v19, .int 40, v21, v22, v23, v24, v25, v26, v27, v28, v29, v30, v31, v32])), (q1, .inl (cT 4, 1024, .inr (.inr (.inr (.inr (fun _ => none)))))), (q2, .inl (cT 0, 4096, .inl (fun _ => 0))), (q3, .inl (cT 4, 1024, .inr (.inr (.inr (.inr (fun _ => none)))))), (q4, .inl (cT 4, 1024, .inr (.inr (.inr (.inr (fun _ => none)))))), (q5, .inl (cT 4, 256, .inr (.inr (.inr (.inr (fun _ => none)))))), (q6, .inl (cT 4, 256, .inr (.inr (.inr (.inr (fun _ => none)))))), (q7, .inl (cT 1, 64, .inl (fun _ => 0))), (q8, .inl (cT 1, 64, .inl (fun _ => 0)))] H := ⟨hP, hD⟩
  refine lv_aload_n hx hb dM_init_85 rfl (lv_at hl 0 rfl) ?_
  refine lv_iconst (v := (-1)) hx hb dM_init_86 (by decide) ?_
  refine va_put (D := D) (ci := 5) (v := .int (-1)) (ty := .int) (C := "ValueBenchModel") (T := TM) (N := 32) hx hb htx inM tyM tyM_ok nmM hown hK hP hD hS 0 rfl rfl 20 (by decide) (htx _ kw_5_107) (fun _ h9 => h9) rfl (by decide +kernel) rfl rfl (Nat.le_of_ble_eq_true rfl) dM_init_87 (fun H locs hP hD hS => ?_)
  obtain ⟨hP, hD⟩ : xPD D xcl A [(a0, .inr (5, [v1, .ref q1, v3, .ref q2, v5, .ref q3, .ref q4, v8, v9, v10, .ref q5, .ref q6, v13, .ref q7, .ref q8, v16, v17, v18, v19, .int 40, .int (-1), v22, v23, v24, v25, v26, v27, v28, v29, v30, v31, v32])), (q1, .inl (cT 4, 1024, .inr (.inr (.inr (.inr (fun _ => none)))))), (q2, .inl (cT 0, 4096, .inl (fun _ => 0))), (q3, .inl (cT 4, 1024, .inr (.inr (.inr (.inr (fun _ => none)))))), (q4, .inl (cT 4, 1024, .inr (.inr (.inr (.inr (fun _ => none)))))), (q5, .inl (cT 4, 256, .inr (.inr (.inr (.inr (fun _ => none)))))), (q6, .inl (cT 4, 256, .inr (.inr (.inr (.inr (fun _ => none)))))), (q7, .inl (cT 1, 64, .inl (fun _ => 0))), (q8, .inl (cT 1, 64, .inl (fun _ => 0)))] H := ⟨hP, hD⟩
  refine lv_aload_n hx hb dM_init_90 rfl (lv_at hl 0 rfl) ?_
  refine lv_sipush (v := 1024) hx hb dM_init_91 (by decide) ?_
  refine va_newa (atype := .byte) (N' := 1024) (a0 := (1024, .inl (fun _ => 0))) (ty := .byte) (n := 1024) hx hb (htx _ kw_1_53) rfl hK hP hD hS hA (fun _ => rfl) (by decide) (by decide) (by decide) (Nat.le_of_ble_eq_true rfl) (Nat.le_of_ble_eq_true rfl) dM_init_94 (fun q9 cA9 H hK9 hP hD hS => ?_)
  obtain rfl := xk_eq hK9 0 rfl
  obtain ⟨hP, hD⟩ : xPD D xcl A [(a0, .inr (5, [v1, .ref q1, v3, .ref q2, v5, .ref q3, .ref q4, v8, v9, v10, .ref q5, .ref q6, v13, .ref q7, .ref q8, v16, v17, v18, v19, .int 40, .int (-1), v22, v23, v24, v25, v26, v27, v28, v29, v30, v31, v32])), (q1, .inl (cT 4, 1024, .inr (.inr (.inr (.inr (fun _ => none)))))), (q2, .inl (cT 0, 4096, .inl (fun _ => 0))), (q3, .inl (cT 4, 1024, .inr (.inr (.inr (.inr (fun _ => none)))))), (q4, .inl (cT 4, 1024, .inr (.inr (.inr (.inr (fun _ => none)))))), (q5, .inl (cT 4, 256, .inr (.inr (.inr (.inr (fun _ => none)))))), (q6, .inl (cT 4, 256, .inr (.inr (.inr (.inr (fun _ => none)))))), (q7, .inl (cT 1, 64, .inl (fun _ => 0))), (q8, .inl (cT 1, 64, .inl (fun _ => 0))), (q9, .inl (cT 0, 1024, .inl (fun _ => 0)))] H := ⟨hP, hD⟩
  refine va_put (D := D) (ci := 5) (v := .ref q9) (ty := (.array .byte)) (C := "ValueBenchModel") (T := TM) (N := 32) hx hb htx inM tyM tyM_ok nmM hown hK hP hD hS 0 rfl rfl 21 (by decide) (htx _ kw_5_108) (fun _ h9 => h9) rfl (by decide +kernel) rfl rfl (Nat.le_of_ble_eq_true rfl) dM_init_96 (fun H locs hP hD hS => ?_)
  obtain ⟨hP, hD⟩ : xPD D xcl A [(a0, .inr (5, [v1, .ref q1, v3, .ref q2, v5, .ref q3, .ref q4, v8, v9, v10, .ref q5, .ref q6, v13, .ref q7, .ref q8, v16, v17, v18, v19, .int 40, .int (-1), .ref q9, v23, v24, v25, v26, v27, v28, v29, v30, v31, v32])), (q1, .inl (cT 4, 1024, .inr (.inr (.inr (.inr (fun _ => none)))))), (q2, .inl (cT 0, 4096, .inl (fun _ => 0))), (q3, .inl (cT 4, 1024, .inr (.inr (.inr (.inr (fun _ => none)))))), (q4, .inl (cT 4, 1024, .inr (.inr (.inr (.inr (fun _ => none)))))), (q5, .inl (cT 4, 256, .inr (.inr (.inr (.inr (fun _ => none)))))), (q6, .inl (cT 4, 256, .inr (.inr (.inr (.inr (fun _ => none)))))), (q7, .inl (cT 1, 64, .inl (fun _ => 0))), (q8, .inl (cT 1, 64, .inl (fun _ => 0))), (q9, .inl (cT 0, 1024, .inl (fun _ => 0)))] H := ⟨hP, hD⟩
  refine lv_aload_n hx hb dM_init_99 rfl (lv_at hl 0 rfl) ?_
  refine lv_ldc hx hb hown (htx _ kw_5_82) dM_init_100 ?_
  refine va_put (D := D) (ci := 5) (v := .int 1000000000) (ty := .int) (C := "ValueBenchModel") (T := TM) (N := 32) hx hb htx inM tyM tyM_ok nmM hown hK hP hD hS 0 rfl rfl 23 (by decide) (htx _ kw_5_110) (fun _ h9 => h9) rfl (by decide +kernel) rfl rfl (Nat.le_of_ble_eq_true rfl) dM_init_102 (fun H locs hP hD hS => ?_)
  obtain ⟨hP, hD⟩ : xPD D xcl A [(a0, .inr (5, [v1, .ref q1, v3, .ref q2, v5, .ref q3, .ref q4, v8, v9, v10, .ref q5, .ref q6, v13, .ref q7, .ref q8, v16, v17, v18, v19, .int 40, .int (-1), .ref q9, v23, .int 1000000000, v25, v26, v27, v28, v29, v30, v31, v32])), (q1, .inl (cT 4, 1024, .inr (.inr (.inr (.inr (fun _ => none)))))), (q2, .inl (cT 0, 4096, .inl (fun _ => 0))), (q3, .inl (cT 4, 1024, .inr (.inr (.inr (.inr (fun _ => none)))))), (q4, .inl (cT 4, 1024, .inr (.inr (.inr (.inr (fun _ => none)))))), (q5, .inl (cT 4, 256, .inr (.inr (.inr (.inr (fun _ => none)))))), (q6, .inl (cT 4, 256, .inr (.inr (.inr (.inr (fun _ => none)))))), (q7, .inl (cT 1, 64, .inl (fun _ => 0))), (q8, .inl (cT 1, 64, .inl (fun _ => 0))), (q9, .inl (cT 0, 1024, .inl (fun _ => 0)))] H := ⟨hP, hD⟩
  refine lv_aload_n hx hb dM_init_105 rfl (lv_at hl 0 rfl) ?_
  refine lv_bipush (v := 8) hx hb dM_init_106 (by decide) ?_
  refine lv_sipush (v := 4096) hx hb dM_init_108 (by decide) ?_
  refine xx_mna hx hb hown (htx _ kw_5_83) ((hZ.2.2.2.2.2.2.2.2.2.2.2.2 : (Cond.arrayOver (.array .byte)).before #[] s = true)) (htx _ kw_1_53) hK hP hD hS hA 5 0 rfl rfl (Nat.le_of_ble_eq_true rfl) (Nat.le_of_ble_eq_true rfl) dM_init_111 (fun q10 q11 q12 q13 q14 q15 q16 q17 q18 H hP hD hS => ?_)
  obtain ⟨hP, hD⟩ : xPD D xcl A [(a0, .inr (5, [v1, .ref q1, v3, .ref q2, v5, .ref q3, .ref q4, v8, v9, v10, .ref q5, .ref q6, v13, .ref q7, .ref q8, v16, v17, v18, v19, .int 40, .int (-1), .ref q9, v23, .int 1000000000, v25, v26, v27, v28, v29, v30, v31, v32])), (q1, .inl (cT 4, 1024, .inr (.inr (.inr (.inr (fun _ => none)))))), (q2, .inl (cT 0, 4096, .inl (fun _ => 0))), (q3, .inl (cT 4, 1024, .inr (.inr (.inr (.inr (fun _ => none)))))), (q4, .inl (cT 4, 1024, .inr (.inr (.inr (.inr (fun _ => none)))))), (q5, .inl (cT 4, 256, .inr (.inr (.inr (.inr (fun _ => none)))))), (q6, .inl (cT 4, 256, .inr (.inr (.inr (.inr (fun _ => none)))))), (q7, .inl (cT 1, 64, .inl (fun _ => 0))), (q8, .inl (cT 1, 64, .inl (fun _ => 0))), (q9, .inl (cT 0, 1024, .inl (fun _ => 0))), (q10, .inl (cT 5, 8, .inr (.inr (.inr (.inr (x8 q11 q12 q13 q14 q15 q16 q17 q18)))))), (q11, .inl (cT 0, 4096, .inl (fun _ => 0))), (q12, .inl (cT 0, 4096, .inl (fun _ => 0))), (q13, .inl (cT 0, 4096, .inl (fun _ => 0))), (q14, .inl (cT 0, 4096, .inl (fun _ => 0))), (q15, .inl (cT 0, 4096, .inl (fun _ => 0))), (q16, .inl (cT 0, 4096, .inl (fun _ => 0))), (q17, .inl (cT 0, 4096, .inl (fun _ => 0))), (q18, .inl (cT 0, 4096, .inl (fun _ => 0)))] H := ⟨hP, hD⟩
  refine va_putF (D := D) (ci := 5) (v := .ref q10) (ty := (.array (.array .byte))) (C := "ValueBenchModel") (T := TM) (N := 32) hx hb htx inM tyM tyM_ok nmM hown hK hP hD hS 0 rfl rfl 24 (by decide) (htx _ kw_5_111) (fun _ h9 => h9) rfl hin rfl (by decide +kernel) rfl rfl (Nat.le_of_ble_eq_true rfl) dM_init_115 (fun H locs hP hD hS => ?_)
  obtain ⟨hP, hD⟩ : xPD D xcl A [(a0, .inr (5, [v1, .ref q1, v3, .ref q2, v5, .ref q3, .ref q4, v8, v9, v10, .ref q5, .ref q6, v13, .ref q7, .ref q8, v16, v17, v18, v19, .int 40, .int (-1), .ref q9, v23, .int 1000000000, .ref q10, v26, v27, v28, v29, v30, v31, v32])), (q1, .inl (cT 4, 1024, .inr (.inr (.inr (.inr (fun _ => none)))))), (q2, .inl (cT 0, 4096, .inl (fun _ => 0))), (q3, .inl (cT 4, 1024, .inr (.inr (.inr (.inr (fun _ => none)))))), (q4, .inl (cT 4, 1024, .inr (.inr (.inr (.inr (fun _ => none)))))), (q5, .inl (cT 4, 256, .inr (.inr (.inr (.inr (fun _ => none)))))), (q6, .inl (cT 4, 256, .inr (.inr (.inr (.inr (fun _ => none)))))), (q7, .inl (cT 1, 64, .inl (fun _ => 0))), (q8, .inl (cT 1, 64, .inl (fun _ => 0))), (q9, .inl (cT 0, 1024, .inl (fun _ => 0))), (q10, .inl (cT 5, 8, .inr (.inr (.inr (.inr (x8 q11 q12 q13 q14 q15 q16 q17 q18)))))), (q11, .inl (cT 0, 4096, .inl (fun _ => 0))), (q12, .inl (cT 0, 4096, .inl (fun _ => 0))), (q13, .inl (cT 0, 4096, .inl (fun _ => 0))), (q14, .inl (cT 0, 4096, .inl (fun _ => 0))), (q15, .inl (cT 0, 4096, .inl (fun _ => 0))), (q16, .inl (cT 0, 4096, .inl (fun _ => 0))), (q17, .inl (cT 0, 4096, .inl (fun _ => 0))), (q18, .inl (cT 0, 4096, .inl (fun _ => 0)))] H := ⟨hP, hD⟩
  refine lv_aload_n hx hb dM_init_118 rfl (lv_at hl 0 rfl) ?_
  refine lv_bipush (v := 8) hx hb dM_init_119 (by decide) ?_
  refine va_newa (atype := .int) (N' := 8) (a0 := (8, .inl (fun _ => 0))) (ty := .int) (n := 8) hx hb (htx _ kw_1_78) rfl hK hP hD hS hA (fun _ => rfl) (by decide) (by decide) (by decide) (Nat.le_of_ble_eq_true rfl) (Nat.le_of_ble_eq_true rfl) dM_init_121 (fun q19 cA9 H hK9 hP hD hS => ?_)
  obtain rfl := xk_eq hK9 1 rfl
  obtain ⟨hP, hD⟩ : xPD D xcl A [(a0, .inr (5, [v1, .ref q1, v3, .ref q2, v5, .ref q3, .ref q4, v8, v9, v10, .ref q5, .ref q6, v13, .ref q7, .ref q8, v16, v17, v18, v19, .int 40, .int (-1), .ref q9, v23, .int 1000000000, .ref q10, v26, v27, v28, v29, v30, v31, v32])), (q1, .inl (cT 4, 1024, .inr (.inr (.inr (.inr (fun _ => none)))))), (q2, .inl (cT 0, 4096, .inl (fun _ => 0))), (q3, .inl (cT 4, 1024, .inr (.inr (.inr (.inr (fun _ => none)))))), (q4, .inl (cT 4, 1024, .inr (.inr (.inr (.inr (fun _ => none)))))), (q5, .inl (cT 4, 256, .inr (.inr (.inr (.inr (fun _ => none)))))), (q6, .inl (cT 4, 256, .inr (.inr (.inr (.inr (fun _ => none)))))), (q7, .inl (cT 1, 64, .inl (fun _ => 0))), (q8, .inl (cT 1, 64, .inl (fun _ => 0))), (q9, .inl (cT 0, 1024, .inl (fun _ => 0))), (q10, .inl (cT 5, 8, .inr (.inr (.inr (.inr (x8 q11 q12 q13 q14 q15 q16 q17 q18)))))), (q11, .inl (cT 0, 4096, .inl (fun _ => 0))), (q12, .inl (cT 0, 4096, .inl (fun _ => 0))), (q13, .inl (cT 0, 4096, .inl (fun _ => 0))), (q14, .inl (cT 0, 4096, .inl (fun _ => 0))), (q15, .inl (cT 0, 4096, .inl (fun _ => 0))), (q16, .inl (cT 0, 4096, .inl (fun _ => 0))), (q17, .inl (cT 0, 4096, .inl (fun _ => 0))), (q18, .inl (cT 0, 4096, .inl (fun _ => 0))), (q19, .inl (cT 1, 8, .inl (fun _ => 0)))] H := ⟨hP, hD⟩
  refine va_putF (D := D) (ci := 5) (v := .ref q19) (ty := (.array .int)) (C := "ValueBenchModel") (T := TM) (N := 32) hx hb htx inM tyM tyM_ok nmM hown hK hP hD hS 0 rfl rfl 25 (by decide) (htx _ kw_5_112) (fun _ h9 => h9) rfl hin rfl (by decide +kernel) rfl rfl (Nat.le_of_ble_eq_true rfl) dM_init_123 (fun H locs hP hD hS => ?_)
  obtain ⟨hP, hD⟩ : xPD D xcl A [(a0, .inr (5, [v1, .ref q1, v3, .ref q2, v5, .ref q3, .ref q4, v8, v9, v10, .ref q5, .ref q6, v13, .ref q7, .ref q8, v16, v17, v18, v19, .int 40, .int (-1), .ref q9, v23, .int 1000000000, .ref q10, .ref q19, v27, v28, v29, v30, v31, v32])), (q1, .inl (cT 4, 1024, .inr (.inr (.inr (.inr (fun _ => none)))))), (q2, .inl (cT 0, 4096, .inl (fun _ => 0))), (q3, .inl (cT 4, 1024, .inr (.inr (.inr (.inr (fun _ => none)))))), (q4, .inl (cT 4, 1024, .inr (.inr (.inr (.inr (fun _ => none)))))), (q5, .inl (cT 4, 256, .inr (.inr (.inr (.inr (fun _ => none)))))), (q6, .inl (cT 4, 256, .inr (.inr (.inr (.inr (fun _ => none)))))), (q7, .inl (cT 1, 64, .inl (fun _ => 0))), (q8, .inl (cT 1, 64, .inl (fun _ => 0))), (q9, .inl (cT 0, 1024, .inl (fun _ => 0))), (q10, .inl (cT 5, 8, .inr (.inr (.inr (.inr (x8 q11 q12 q13 q14 q15 q16 q17 q18)))))), (q11, .inl (cT 0, 4096, .inl (fun _ => 0))), (q12, .inl (cT 0, 4096, .inl (fun _ => 0))), (q13, .inl (cT 0, 4096, .inl (fun _ => 0))), (q14, .inl (cT 0, 4096, .inl (fun _ => 0))), (q15, .inl (cT 0, 4096, .inl (fun _ => 0))), (q16, .inl (cT 0, 4096, .inl (fun _ => 0))), (q17, .inl (cT 0, 4096, .inl (fun _ => 0))), (q18, .inl (cT 0, 4096, .inl (fun _ => 0))), (q19, .inl (cT 1, 8, .inl (fun _ => 0)))] H := ⟨hP, hD⟩
  refine lv_aload_n hx hb dM_init_126 rfl (lv_at hl 0 rfl) ?_
  refine lv_sipush (v := 4096) hx hb dM_init_127 (by decide) ?_
  refine va_newa (atype := .byte) (N' := 4096) (a0 := (4096, .inl (fun _ => 0))) (ty := .byte) (n := 4096) hx hb (htx _ kw_1_53) rfl hK hP hD hS hA (fun _ => rfl) (by decide) (by decide) (by decide) (Nat.le_of_ble_eq_true rfl) (Nat.le_of_ble_eq_true rfl) dM_init_130 (fun q20 cA9 H hK9 hP hD hS => ?_)
  obtain rfl := xk_eq hK9 0 rfl
  obtain ⟨hP, hD⟩ : xPD D xcl A [(a0, .inr (5, [v1, .ref q1, v3, .ref q2, v5, .ref q3, .ref q4, v8, v9, v10, .ref q5, .ref q6, v13, .ref q7, .ref q8, v16, v17, v18, v19, .int 40, .int (-1), .ref q9, v23, .int 1000000000, .ref q10, .ref q19, v27, v28, v29, v30, v31, v32])), (q1, .inl (cT 4, 1024, .inr (.inr (.inr (.inr (fun _ => none)))))), (q2, .inl (cT 0, 4096, .inl (fun _ => 0))), (q3, .inl (cT 4, 1024, .inr (.inr (.inr (.inr (fun _ => none)))))), (q4, .inl (cT 4, 1024, .inr (.inr (.inr (.inr (fun _ => none)))))), (q5, .inl (cT 4, 256, .inr (.inr (.inr (.inr (fun _ => none)))))), (q6, .inl (cT 4, 256, .inr (.inr (.inr (.inr (fun _ => none)))))), (q7, .inl (cT 1, 64, .inl (fun _ => 0))), (q8, .inl (cT 1, 64, .inl (fun _ => 0))), (q9, .inl (cT 0, 1024, .inl (fun _ => 0))), (q10, .inl (cT 5, 8, .inr (.inr (.inr (.inr (x8 q11 q12 q13 q14 q15 q16 q17 q18)))))), (q11, .inl (cT 0, 4096, .inl (fun _ => 0))), (q12, .inl (cT 0, 4096, .inl (fun _ => 0))), (q13, .inl (cT 0, 4096, .inl (fun _ => 0))), (q14, .inl (cT 0, 4096, .inl (fun _ => 0))), (q15, .inl (cT 0, 4096, .inl (fun _ => 0))), (q16, .inl (cT 0, 4096, .inl (fun _ => 0))), (q17, .inl (cT 0, 4096, .inl (fun _ => 0))), (q18, .inl (cT 0, 4096, .inl (fun _ => 0))), (q19, .inl (cT 1, 8, .inl (fun _ => 0))), (q20, .inl (cT 0, 4096, .inl (fun _ => 0)))] H := ⟨hP, hD⟩
  refine va_putF (D := D) (ci := 5) (v := .ref q20) (ty := (.array .byte)) (C := "ValueBenchModel") (T := TM) (N := 32) hx hb htx inM tyM tyM_ok nmM hown hK hP hD hS 0 rfl rfl 26 (by decide) (htx _ kw_5_113) (fun _ h9 => h9) rfl hin rfl (by decide +kernel) rfl rfl (Nat.le_of_ble_eq_true rfl) dM_init_132 (fun H locs hP hD hS => ?_)
  obtain ⟨hP, hD⟩ : xPD D xcl A [(a0, .inr (5, [v1, .ref q1, v3, .ref q2, v5, .ref q3, .ref q4, v8, v9, v10, .ref q5, .ref q6, v13, .ref q7, .ref q8, v16, v17, v18, v19, .int 40, .int (-1), .ref q9, v23, .int 1000000000, .ref q10, .ref q19, .ref q20, v28, v29, v30, v31, v32])), (q1, .inl (cT 4, 1024, .inr (.inr (.inr (.inr (fun _ => none)))))), (q2, .inl (cT 0, 4096, .inl (fun _ => 0))), (q3, .inl (cT 4, 1024, .inr (.inr (.inr (.inr (fun _ => none)))))), (q4, .inl (cT 4, 1024, .inr (.inr (.inr (.inr (fun _ => none)))))), (q5, .inl (cT 4, 256, .inr (.inr (.inr (.inr (fun _ => none)))))), (q6, .inl (cT 4, 256, .inr (.inr (.inr (.inr (fun _ => none)))))), (q7, .inl (cT 1, 64, .inl (fun _ => 0))), (q8, .inl (cT 1, 64, .inl (fun _ => 0))), (q9, .inl (cT 0, 1024, .inl (fun _ => 0))), (q10, .inl (cT 5, 8, .inr (.inr (.inr (.inr (x8 q11 q12 q13 q14 q15 q16 q17 q18)))))), (q11, .inl (cT 0, 4096, .inl (fun _ => 0))), (q12, .inl (cT 0, 4096, .inl (fun _ => 0))), (q13, .inl (cT 0, 4096, .inl (fun _ => 0))), (q14, .inl (cT 0, 4096, .inl (fun _ => 0))), (q15, .inl (cT 0, 4096, .inl (fun _ => 0))), (q16, .inl (cT 0, 4096, .inl (fun _ => 0))), (q17, .inl (cT 0, 4096, .inl (fun _ => 0))), (q18, .inl (cT 0, 4096, .inl (fun _ => 0))), (q19, .inl (cT 1, 8, .inl (fun _ => 0))), (q20, .inl (cT 0, 4096, .inl (fun _ => 0)))] H := ⟨hP, hD⟩
  refine lv_aload_n hx hb dM_init_135 rfl (lv_at hl 0 rfl) ?_
  refine lv_sipush (v := 4096) hx hb dM_init_136 (by decide) ?_
  refine va_newa (atype := .byte) (N' := 4096) (a0 := (4096, .inl (fun _ => 0))) (ty := .byte) (n := 4096) hx hb (htx _ kw_1_53) rfl hK hP hD hS hA (fun _ => rfl) (by decide) (by decide) (by decide) (Nat.le_of_ble_eq_true rfl) (Nat.le_of_ble_eq_true rfl) dM_init_139 (fun q21 cA9 H hK9 hP hD hS => ?_)
  obtain rfl := xk_eq hK9 0 rfl
  obtain ⟨hP, hD⟩ : xPD D xcl A [(a0, .inr (5, [v1, .ref q1, v3, .ref q2, v5, .ref q3, .ref q4, v8, v9, v10, .ref q5, .ref q6, v13, .ref q7, .ref q8, v16, v17, v18, v19, .int 40, .int (-1), .ref q9, v23, .int 1000000000, .ref q10, .ref q19, .ref q20, v28, v29, v30, v31, v32])), (q1, .inl (cT 4, 1024, .inr (.inr (.inr (.inr (fun _ => none)))))), (q2, .inl (cT 0, 4096, .inl (fun _ => 0))), (q3, .inl (cT 4, 1024, .inr (.inr (.inr (.inr (fun _ => none)))))), (q4, .inl (cT 4, 1024, .inr (.inr (.inr (.inr (fun _ => none)))))), (q5, .inl (cT 4, 256, .inr (.inr (.inr (.inr (fun _ => none)))))), (q6, .inl (cT 4, 256, .inr (.inr (.inr (.inr (fun _ => none)))))), (q7, .inl (cT 1, 64, .inl (fun _ => 0))), (q8, .inl (cT 1, 64, .inl (fun _ => 0))), (q9, .inl (cT 0, 1024, .inl (fun _ => 0))), (q10, .inl (cT 5, 8, .inr (.inr (.inr (.inr (x8 q11 q12 q13 q14 q15 q16 q17 q18)))))), (q11, .inl (cT 0, 4096, .inl (fun _ => 0))), (q12, .inl (cT 0, 4096, .inl (fun _ => 0))), (q13, .inl (cT 0, 4096, .inl (fun _ => 0))), (q14, .inl (cT 0, 4096, .inl (fun _ => 0))), (q15, .inl (cT 0, 4096, .inl (fun _ => 0))), (q16, .inl (cT 0, 4096, .inl (fun _ => 0))), (q17, .inl (cT 0, 4096, .inl (fun _ => 0))), (q18, .inl (cT 0, 4096, .inl (fun _ => 0))), (q19, .inl (cT 1, 8, .inl (fun _ => 0))), (q20, .inl (cT 0, 4096, .inl (fun _ => 0))), (q21, .inl (cT 0, 4096, .inl (fun _ => 0)))] H := ⟨hP, hD⟩
  refine va_putF (D := D) (ci := 5) (v := .ref q21) (ty := (.array .byte)) (C := "ValueBenchModel") (T := TM) (N := 32) hx hb htx inM tyM tyM_ok nmM hown hK hP hD hS 0 rfl rfl 28 (by decide) (htx _ kw_5_115) (fun _ h9 => h9) rfl hin rfl (by decide +kernel) rfl rfl (Nat.le_of_ble_eq_true rfl) dM_init_141 (fun H locs hP hD hS => ?_)
  obtain ⟨hP, hD⟩ : xPD D xcl A [(a0, .inr (5, [v1, .ref q1, v3, .ref q2, v5, .ref q3, .ref q4, v8, v9, v10, .ref q5, .ref q6, v13, .ref q7, .ref q8, v16, v17, v18, v19, .int 40, .int (-1), .ref q9, v23, .int 1000000000, .ref q10, .ref q19, .ref q20, v28, .ref q21, v30, v31, v32])), (q1, .inl (cT 4, 1024, .inr (.inr (.inr (.inr (fun _ => none)))))), (q2, .inl (cT 0, 4096, .inl (fun _ => 0))), (q3, .inl (cT 4, 1024, .inr (.inr (.inr (.inr (fun _ => none)))))), (q4, .inl (cT 4, 1024, .inr (.inr (.inr (.inr (fun _ => none)))))), (q5, .inl (cT 4, 256, .inr (.inr (.inr (.inr (fun _ => none)))))), (q6, .inl (cT 4, 256, .inr (.inr (.inr (.inr (fun _ => none)))))), (q7, .inl (cT 1, 64, .inl (fun _ => 0))), (q8, .inl (cT 1, 64, .inl (fun _ => 0))), (q9, .inl (cT 0, 1024, .inl (fun _ => 0))), (q10, .inl (cT 5, 8, .inr (.inr (.inr (.inr (x8 q11 q12 q13 q14 q15 q16 q17 q18)))))), (q11, .inl (cT 0, 4096, .inl (fun _ => 0))), (q12, .inl (cT 0, 4096, .inl (fun _ => 0))), (q13, .inl (cT 0, 4096, .inl (fun _ => 0))), (q14, .inl (cT 0, 4096, .inl (fun _ => 0))), (q15, .inl (cT 0, 4096, .inl (fun _ => 0))), (q16, .inl (cT 0, 4096, .inl (fun _ => 0))), (q17, .inl (cT 0, 4096, .inl (fun _ => 0))), (q18, .inl (cT 0, 4096, .inl (fun _ => 0))), (q19, .inl (cT 1, 8, .inl (fun _ => 0))), (q20, .inl (cT 0, 4096, .inl (fun _ => 0))), (q21, .inl (cT 0, 4096, .inl (fun _ => 0)))] H := ⟨hP, hD⟩
  refine lv_aload_n hx hb dM_init_144 rfl (lv_at hl 0 rfl) ?_
  refine lv_iconst (v := (-1)) hx hb dM_init_145 (by decide) ?_
  refine va_put (D := D) (ci := 5) (v := .int (-1)) (ty := .int) (C := "ValueBenchModel") (T := TM) (N := 32) hx hb htx inM tyM tyM_ok nmM hown hK hP hD hS 0 rfl rfl 31 (by decide) (htx _ kw_5_118) (fun _ h9 => h9) rfl (by decide +kernel) rfl rfl (Nat.le_of_ble_eq_true rfl) dM_init_146 (fun H locs hP hD hS => ?_)
  obtain ⟨hP, hD⟩ : xPD D xcl A [(a0, .inr (5, [v1, .ref q1, v3, .ref q2, v5, .ref q3, .ref q4, v8, v9, v10, .ref q5, .ref q6, v13, .ref q7, .ref q8, v16, v17, v18, v19, .int 40, .int (-1), .ref q9, v23, .int 1000000000, .ref q10, .ref q19, .ref q20, v28, .ref q21, v30, v31, .int (-1)])), (q1, .inl (cT 4, 1024, .inr (.inr (.inr (.inr (fun _ => none)))))), (q2, .inl (cT 0, 4096, .inl (fun _ => 0))), (q3, .inl (cT 4, 1024, .inr (.inr (.inr (.inr (fun _ => none)))))), (q4, .inl (cT 4, 1024, .inr (.inr (.inr (.inr (fun _ => none)))))), (q5, .inl (cT 4, 256, .inr (.inr (.inr (.inr (fun _ => none)))))), (q6, .inl (cT 4, 256, .inr (.inr (.inr (.inr (fun _ => none)))))), (q7, .inl (cT 1, 64, .inl (fun _ => 0))), (q8, .inl (cT 1, 64, .inl (fun _ => 0))), (q9, .inl (cT 0, 1024, .inl (fun _ => 0))), (q10, .inl (cT 5, 8, .inr (.inr (.inr (.inr (x8 q11 q12 q13 q14 q15 q16 q17 q18)))))), (q11, .inl (cT 0, 4096, .inl (fun _ => 0))), (q12, .inl (cT 0, 4096, .inl (fun _ => 0))), (q13, .inl (cT 0, 4096, .inl (fun _ => 0))), (q14, .inl (cT 0, 4096, .inl (fun _ => 0))), (q15, .inl (cT 0, 4096, .inl (fun _ => 0))), (q16, .inl (cT 0, 4096, .inl (fun _ => 0))), (q17, .inl (cT 0, 4096, .inl (fun _ => 0))), (q18, .inl (cT 0, 4096, .inl (fun _ => 0))), (q19, .inl (cT 1, 8, .inl (fun _ => 0))), (q20, .inl (cT 0, 4096, .inl (fun _ => 0))), (q21, .inl (cT 0, 4096, .inl (fun _ => 0)))] H := ⟨hP, hD⟩
  refine lv_iconst (v := 0) hx hb dM_init_149 (by decide) ?_
  refine lv_istore_n (lv' := [(1, .int 0), (0, .ref a0)]) hx hb dM_init_150 rfl hl (by decide) rfl (fun ls hl => ?_)
  refine lv_iload_n hx hb dM_init_151 rfl (lv_at hl 0 rfl) ?_
  refine lv_bipush (v := 8) hx hb dM_init_152 (by decide) ?_
  refine lv_icmp_ge (tgt := 198) hx hb dM_init_154 (by decide) (fun h => ((by revert h; decide : False)).elim) (fun _ => ?_)
  refine lv_iconst (v := 0) hx hb dM_init_157 (by decide) ?_
  refine lv_istore_n (lv' := [(2, .int 0), (1, .int 0), (0, .ref a0)]) hx hb dM_init_158 rfl hl (by decide) rfl (fun ls hl => ?_)
  refine lv_iload_n hx hb dM_init_159 rfl (lv_at hl 0 rfl) ?_
  refine lv_iconst (v := 4) hx hb dM_init_160 (by decide) ?_
  refine lv_icmp_ge (tgt := 185) hx hb dM_init_161 (by decide) (fun h => ((by revert h; decide : False)).elim) (fun _ => ?_)
  refine lv_aload_n hx hb dM_init_164 rfl (lv_at hl 2 rfl) ?_
  refine va_get (D := D) (ci := 5) (v := .ref q10) (C := "ValueBenchModel") (T := TM) (N := 32) hx hb htx inM hown hK hP 0 rfl rfl 24 (by decide) (htx _ kw_5_111) (fun _ h9 => h9) rfl dM_init_165 ?_
  refine lv_iload_n hx hb dM_init_168 rfl (lv_at hl 1 rfl) ?_
  refine xx_aldA hx hb hK hP 10 5 rfl rfl (show ¬ ((0 : Int32) < 0 ∨ 8 ≤ (0 : Int32).toNatClampNeg) by decide) dM_init_169 ?_
  refine W.eq (g2 := F0 m 170 ls [.ref q11]) rfl ?_
  refine lv_iload_n hx hb dM_init_170 rfl (lv_at hl 0 rfl) ?_
  refine va_ldcS (q := aK 10) hx hb hown (hZ.2.2.2.2.2.2.2.2.1 ("ValueBenchModel", 69, "null", 10) (List.mem_of_getElem? (i := 17) rfl)) dM_init_171 ?_
  refine lv_iload_n hx hb dM_init_173 rfl (lv_at hl 0 rfl) ?_
  obtain ⟨hPc, hDc, hFc⟩ := xcut (wc := []) hP hD hS hA [] rfl rfl (by decide)
  refine va_calli (va_runV (C := "java/lang/String") (As := [.int 0]) (rest := [.int 0, .ref q11]) ⟨hx, hb, hml, hown, htx⟩ (cJS_charAt_0 l hl9 D cT aK aV H.size) ⟨callB_of 1 htx (xw_goodC kw_2_80) rfl rfl rfl (htx _ kw_1_6) (htx _ kw_5_86) ⟨by decide, by decide, by decide +kernel⟩ ⟨Nat.le_of_ble_eq_true rfl, Nat.le_of_ble_eq_true rfl⟩, (htx _ kw_2_78), (htx _ kw_2_79)⟩ ⟨xPre_blind, vk_recv hZ.2.2.2.2.2.2.2.2.2.1 (i := 10) (by decide) hS, (fun U hU hW => ⟨rfl, xPre_of hZ hS hFc hPc hDc hK U hU hW⟩)⟩ rfl rfl hl.1 rfl (lv_room (Nat.le_of_ble_eq_true rfl)) dM_init_174 ⟨Nat.le_of_ble_eq_true rfl, Nat.le_of_ble_eq_true rfl⟩) hS (fun q _ h => hFc q h) hFc (fun r22 u9 t H1 locs ht hvm hr9 hB hz1 hk1 hS => ?_)
  obtain ⟨hP1, hK1, hD1⟩ := hB
  rw [ht] at hP1
  obtain ⟨hP, hD⟩ := xjoin (W := [(a0, .inr (5, [v1, .ref q1, v3, .ref q2, v5, .ref q3, .ref q4, v8, v9, v10, .ref q5, .ref q6, v13, .ref q7, .ref q8, v16, v17, v18, v19, .int 40, .int (-1), .ref q9, v23, .int 1000000000, .ref q10, .ref q19, .ref q20, v28, .ref q21, v30, v31, .int (-1)])), (q1, .inl (cT 4, 1024, .inr (.inr (.inr (.inr (fun _ => none)))))), (q2, .inl (cT 0, 4096, .inl (fun _ => 0))), (q3, .inl (cT 4, 1024, .inr (.inr (.inr (.inr (fun _ => none)))))), (q4, .inl (cT 4, 1024, .inr (.inr (.inr (.inr (fun _ => none)))))), (q5, .inl (cT 4, 256, .inr (.inr (.inr (.inr (fun _ => none)))))), (q6, .inl (cT 4, 256, .inr (.inr (.inr (.inr (fun _ => none)))))), (q7, .inl (cT 1, 64, .inl (fun _ => 0))), (q8, .inl (cT 1, 64, .inl (fun _ => 0))), (q9, .inl (cT 0, 1024, .inl (fun _ => 0))), (q10, .inl (cT 5, 8, .inr (.inr (.inr (.inr (x8 q11 q12 q13 q14 q15 q16 q17 q18)))))), (q11, .inl (cT 0, 4096, .inl (fun _ => 0))), (q12, .inl (cT 0, 4096, .inl (fun _ => 0))), (q13, .inl (cT 0, 4096, .inl (fun _ => 0))), (q14, .inl (cT 0, 4096, .inl (fun _ => 0))), (q15, .inl (cT 0, 4096, .inl (fun _ => 0))), (q16, .inl (cT 0, 4096, .inl (fun _ => 0))), (q17, .inl (cT 0, 4096, .inl (fun _ => 0))), (q18, .inl (cT 0, 4096, .inl (fun _ => 0))), (q19, .inl (cT 1, 8, .inl (fun _ => 0))), (q20, .inl (cT 0, 4096, .inl (fun _ => 0))), (q21, .inl (cT 0, 4096, .inl (fun _ => 0)))]) hP hD [] [0, 1, 2, 3, 4, 5, 6, 7, 8, 9, 10, 11, 12, 13, 14, 15, 16, 17, 18, 19, 20, 21] 22 rfl rfl (by decide) (by decide) hk1 hFc hP1 hD1
  generalize H1 = H at hP hS ⊢
  rw [hr9]
  refine W.eq (g2 := F0 m 177 ls [.int 110, .int 0, .ref q11]) rfl ?_
  refine lv_i2b hx hb dM_init_177 rfl ?_
  refine W.eq (g2 := F0 m 178 ls [.int 110, .int 0, .ref q11]) rfl ?_
  refine va_bast hx hb hK hP hD hS 11 0 rfl rfl (show ¬ ((0 : Int32) < 0 ∨ 4096 ≤ (0 : Int32).toNatClampNeg) by decide) dM_init_178 (fun H locs hP hD hS => ?_)
  obtain ⟨hP, hD⟩ : xPD D xcl A [(a0, .inr (5, [v1, .ref q1, v3, .ref q2, v5, .ref q3, .ref q4, v8, v9, v10, .ref q5, .ref q6, v13, .ref q7, .ref q8, v16, v17, v18, v19, .int 40, .int (-1), .ref q9, v23, .int 1000000000, .ref q10, .ref q19, .ref q20, v28, .ref q21, v30, v31, .int (-1)])), (q1, .inl (cT 4, 1024, .inr (.inr (.inr (.inr (fun _ => none)))))), (q2, .inl (cT 0, 4096, .inl (fun _ => 0))), (q3, .inl (cT 4, 1024, .inr (.inr (.inr (.inr (fun _ => none)))))), (q4, .inl (cT 4, 1024, .inr (.inr (.inr (.inr (fun _ => none)))))), (q5, .inl (cT 4, 256, .inr (.inr (.inr (.inr (fun _ => none)))))), (q6, .inl (cT 4, 256, .inr (.inr (.inr (.inr (fun _ => none)))))), (q7, .inl (cT 1, 64, .inl (fun _ => 0))), (q8, .inl (cT 1, 64, .inl (fun _ => 0))), (q9, .inl (cT 0, 1024, .inl (fun _ => 0))), (q10, .inl (cT 5, 8, .inr (.inr (.inr (.inr (x8 q11 q12 q13 q14 q15 q16 q17 q18)))))), (q11, .inl (cT 0, 4096, .inl (upd (fun _ => 0) 0 110))), (q12, .inl (cT 0, 4096, .inl (fun _ => 0))), (q13, .inl (cT 0, 4096, .inl (fun _ => 0))), (q14, .inl (cT 0, 4096, .inl (fun _ => 0))), (q15, .inl (cT 0, 4096, .inl (fun _ => 0))), (q16, .inl (cT 0, 4096, .inl (fun _ => 0))), (q17, .inl (cT 0, 4096, .inl (fun _ => 0))), (q18, .inl (cT 0, 4096, .inl (fun _ => 0))), (q19, .inl (cT 1, 8, .inl (fun _ => 0))), (q20, .inl (cT 0, 4096, .inl (fun _ => 0))), (q21, .inl (cT 0, 4096, .inl (fun _ => 0)))] H := ⟨hP, hD⟩
  refine lv_iinc (v := 1) (lv' := [(2, .int 1), (1, .int 0), (0, .ref a0)]) hx hb dM_init_179 hl (k := 0) rfl (by decide) (by decide) rfl (fun ls hl => ?_)
  refine lv_goto (tgt := 159) hx hb dM_init_182 (by decide) ?_
  refine lv_iload_n hx hb dM_init_159 rfl (lv_at hl 0 rfl) ?_
  refine lv_iconst (v := 4) hx hb dM_init_160 (by decide) ?_
  refine lv_icmp_ge (tgt := 185) hx hb dM_init_161 (by decide) (fun h => ((by revert h; decide : False)).elim) (fun _ => ?_)
  refine lv_aload_n hx hb dM_init_164 rfl (lv_at hl 2 rfl) ?_
  refine va_get (D := D) (ci := 5) (v := .ref q10) (C := "ValueBenchModel") (T := TM) (N := 32) hx hb htx inM hown hK hP 0 rfl rfl 24 (by decide) (htx _ kw_5_111) (fun _ h9 => h9) rfl dM_init_165 ?_
  refine lv_iload_n hx hb dM_init_168 rfl (lv_at hl 1 rfl) ?_
  refine xx_aldA hx hb hK hP 10 5 rfl rfl (show ¬ ((0 : Int32) < 0 ∨ 8 ≤ (0 : Int32).toNatClampNeg) by decide) dM_init_169 ?_
  refine W.eq (g2 := F0 m 170 ls [.ref q11]) rfl ?_
  refine lv_iload_n hx hb dM_init_170 rfl (lv_at hl 0 rfl) ?_
  refine va_ldcS (q := aK 10) hx hb hown (hZ.2.2.2.2.2.2.2.2.1 ("ValueBenchModel", 69, "null", 10) (List.mem_of_getElem? (i := 17) rfl)) dM_init_171 ?_
  refine lv_iload_n hx hb dM_init_173 rfl (lv_at hl 0 rfl) ?_
  obtain ⟨hPc, hDc, hFc⟩ := xcut (wc := []) hP hD hS hA [] rfl rfl (by decide)
  refine va_calli (va_runV (C := "java/lang/String") (As := [.int 1]) (rest := [.int 1, .ref q11]) ⟨hx, hb, hml, hown, htx⟩ (cJS_charAt_1 l hl9 D cT aK aV H.size) ⟨callB_of 1 htx (xw_goodC kw_2_80) rfl rfl rfl (htx _ kw_1_6) (htx _ kw_5_86) ⟨by decide, by decide, by decide +kernel⟩ ⟨Nat.le_of_ble_eq_true rfl, Nat.le_of_ble_eq_true rfl⟩, (htx _ kw_2_78), (htx _ kw_2_79)⟩ ⟨xPre_blind, vk_recv hZ.2.2.2.2.2.2.2.2.2.1 (i := 10) (by decide) hS, (fun U hU hW => ⟨rfl, xPre_of hZ hS hFc hPc hDc hK U hU hW⟩)⟩ rfl rfl hl.1 rfl (lv_room (Nat.le_of_ble_eq_true rfl)) dM_init_174 ⟨Nat.le_of_ble_eq_true rfl, Nat.le_of_ble_eq_true rfl⟩) hS (fun q _ h => hFc q h) hFc (fun r23 u9 t H1 locs ht hvm hr9 hB hz1 hk1 hS => ?_)
  obtain ⟨hP1, hK1, hD1⟩ := hB
  rw [ht] at hP1
  obtain ⟨hP, hD⟩ := xjoin (W := [(a0, .inr (5, [v1, .ref q1, v3, .ref q2, v5, .ref q3, .ref q4, v8, v9, v10, .ref q5, .ref q6, v13, .ref q7, .ref q8, v16, v17, v18, v19, .int 40, .int (-1), .ref q9, v23, .int 1000000000, .ref q10, .ref q19, .ref q20, v28, .ref q21, v30, v31, .int (-1)])), (q1, .inl (cT 4, 1024, .inr (.inr (.inr (.inr (fun _ => none)))))), (q2, .inl (cT 0, 4096, .inl (fun _ => 0))), (q3, .inl (cT 4, 1024, .inr (.inr (.inr (.inr (fun _ => none)))))), (q4, .inl (cT 4, 1024, .inr (.inr (.inr (.inr (fun _ => none)))))), (q5, .inl (cT 4, 256, .inr (.inr (.inr (.inr (fun _ => none)))))), (q6, .inl (cT 4, 256, .inr (.inr (.inr (.inr (fun _ => none)))))), (q7, .inl (cT 1, 64, .inl (fun _ => 0))), (q8, .inl (cT 1, 64, .inl (fun _ => 0))), (q9, .inl (cT 0, 1024, .inl (fun _ => 0))), (q10, .inl (cT 5, 8, .inr (.inr (.inr (.inr (x8 q11 q12 q13 q14 q15 q16 q17 q18)))))), (q11, .inl (cT 0, 4096, .inl (upd (fun _ => 0) 0 110))), (q12, .inl (cT 0, 4096, .inl (fun _ => 0))), (q13, .inl (cT 0, 4096, .inl (fun _ => 0))), (q14, .inl (cT 0, 4096, .inl (fun _ => 0))), (q15, .inl (cT 0, 4096, .inl (fun _ => 0))), (q16, .inl (cT 0, 4096, .inl (fun _ => 0))), (q17, .inl (cT 0, 4096, .inl (fun _ => 0))), (q18, .inl (cT 0, 4096, .inl (fun _ => 0))), (q19, .inl (cT 1, 8, .inl (fun _ => 0))), (q20, .inl (cT 0, 4096, .inl (fun _ => 0))), (q21, .inl (cT 0, 4096, .inl (fun _ => 0)))]) hP hD [] [0, 1, 2, 3, 4, 5, 6, 7, 8, 9, 10, 11, 12, 13, 14, 15, 16, 17, 18, 19, 20, 21] 22 rfl rfl (by decide) (by decide) hk1 hFc hP1 hD1
  generalize H1 = H at hP hS ⊢
  rw [hr9]
  refine W.eq (g2 := F0 m 177 ls [.int 117, .int 1, .ref q11]) rfl ?_
  refine lv_i2b hx hb dM_init_177 rfl ?_
  refine W.eq (g2 := F0 m 178 ls [.int 117, .int 1, .ref q11]) rfl ?_
  refine va_bast hx hb hK hP hD hS 11 0 rfl rfl (show ¬ ((1 : Int32) < 0 ∨ 4096 ≤ (1 : Int32).toNatClampNeg) by decide) dM_init_178 (fun H locs hP hD hS => ?_)
  obtain ⟨hP, hD⟩ : xPD D xcl A [(a0, .inr (5, [v1, .ref q1, v3, .ref q2, v5, .ref q3, .ref q4, v8, v9, v10, .ref q5, .ref q6, v13, .ref q7, .ref q8, v16, v17, v18, v19, .int 40, .int (-1), .ref q9, v23, .int 1000000000, .ref q10, .ref q19, .ref q20, v28, .ref q21, v30, v31, .int (-1)])), (q1, .inl (cT 4, 1024, .inr (.inr (.inr (.inr (fun _ => none)))))), (q2, .inl (cT 0, 4096, .inl (fun _ => 0))), (q3, .inl (cT 4, 1024, .inr (.inr (.inr (.inr (fun _ => none)))))), (q4, .inl (cT 4, 1024, .inr (.inr (.inr (.inr (fun _ => none)))))), (q5, .inl (cT 4, 256, .inr (.inr (.inr (.inr (fun _ => none)))))), (q6, .inl (cT 4, 256, .inr (.inr (.inr (.inr (fun _ => none)))))), (q7, .inl (cT 1, 64, .inl (fun _ => 0))), (q8, .inl (cT 1, 64, .inl (fun _ => 0))), (q9, .inl (cT 0, 1024, .inl (fun _ => 0))), (q10, .inl (cT 5, 8, .inr (.inr (.inr (.inr (x8 q11 q12 q13 q14 q15 q16 q17 q18)))))), (q11, .inl (cT 0, 4096, .inl (upd (upd (fun _ => 0) 0 110) 1 117))), (q12, .inl (cT 0, 4096, .inl (fun _ => 0))), (q13, .inl (cT 0, 4096, .inl (fun _ => 0))), (q14, .inl (cT 0, 4096, .inl (fun _ => 0))), (q15, .inl (cT 0, 4096, .inl (fun _ => 0))), (q16, .inl (cT 0, 4096, .inl (fun _ => 0))), (q17, .inl (cT 0, 4096, .inl (fun _ => 0))), (q18, .inl (cT 0, 4096, .inl (fun _ => 0))), (q19, .inl (cT 1, 8, .inl (fun _ => 0))), (q20, .inl (cT 0, 4096, .inl (fun _ => 0))), (q21, .inl (cT 0, 4096, .inl (fun _ => 0)))] H := ⟨hP, hD⟩
  refine lv_iinc (v := 2) (lv' := [(2, .int 2), (1, .int 0), (0, .ref a0)]) hx hb dM_init_179 hl (k := 0) rfl (by decide) (by decide) rfl (fun ls hl => ?_)
  refine lv_goto (tgt := 159) hx hb dM_init_182 (by decide) ?_
  refine lv_iload_n hx hb dM_init_159 rfl (lv_at hl 0 rfl) ?_
  refine lv_iconst (v := 4) hx hb dM_init_160 (by decide) ?_
  refine lv_icmp_ge (tgt := 185) hx hb dM_init_161 (by decide) (fun h => ((by revert h; decide : False)).elim) (fun _ => ?_)
  refine lv_aload_n hx hb dM_init_164 rfl (lv_at hl 2 rfl) ?_
  refine va_get (D := D) (ci := 5) (v := .ref q10) (C := "ValueBenchModel") (T := TM) (N := 32) hx hb htx inM hown hK hP 0 rfl rfl 24 (by decide) (htx _ kw_5_111) (fun _ h9 => h9) rfl dM_init_165 ?_
  refine lv_iload_n hx hb dM_init_168 rfl (lv_at hl 1 rfl) ?_
  refine xx_aldA hx hb hK hP 10 5 rfl rfl (show ¬ ((0 : Int32) < 0 ∨ 8 ≤ (0 : Int32).toNatClampNeg) by decide) dM_init_169 ?_
  refine W.eq (g2 := F0 m 170 ls [.ref q11]) rfl ?_
  refine lv_iload_n hx hb dM_init_170 rfl (lv_at hl 0 rfl) ?_
  refine va_ldcS (q := aK 10) hx hb hown (hZ.2.2.2.2.2.2.2.2.1 ("ValueBenchModel", 69, "null", 10) (List.mem_of_getElem? (i := 17) rfl)) dM_init_171 ?_
  refine lv_iload_n hx hb dM_init_173 rfl (lv_at hl 0 rfl) ?_
  obtain ⟨hPc, hDc, hFc⟩ := xcut (wc := []) hP hD hS hA [] rfl rfl (by decide)
  refine va_calli (va_runV (C := "java/lang/String") (As := [.int 2]) (rest := [.int 2, .ref q11]) ⟨hx, hb, hml, hown, htx⟩ (cJS_charAt_2 l hl9 D cT aK aV H.size) ⟨callB_of 1 htx (xw_goodC kw_2_80) rfl rfl rfl (htx _ kw_1_6) (htx _ kw_5_86) ⟨by decide, by decide, by decide +kernel⟩ ⟨Nat.le_of_ble_eq_true rfl, Nat.le_of_ble_eq_true rfl⟩, (htx _ kw_2_78), (htx _ kw_2_79)⟩ ⟨xPre_blind, vk_recv hZ.2.2.2.2.2.2.2.2.2.1 (i := 10) (by decide) hS, (fun U hU hW => ⟨rfl, xPre_of hZ hS hFc hPc hDc hK U hU hW⟩)⟩ rfl rfl hl.1 rfl (lv_room (Nat.le_of_ble_eq_true rfl)) dM_init_174 ⟨Nat.le_of_ble_eq_true rfl, Nat.le_of_ble_eq_true rfl⟩) hS (fun q _ h => hFc q h) hFc (fun r24 u9 t H1 locs ht hvm hr9 hB hz1 hk1 hS => ?_)
  obtain ⟨hP1, hK1, hD1⟩ := hB
  rw [ht] at hP1
  obtain ⟨hP, hD⟩ := xjoin (W := [(a0, .inr (5, [v1, .ref q1, v3, .ref q2, v5, .ref q3, .ref q4, v8, v9, v10, .ref q5, .ref q6, v13, .ref q7, .ref q8, v16, v17, v18, v19, .int 40, .int (-1), .ref q9, v23, .int 1000000000, .ref q10, .ref q19, .ref q20, v28, .ref q21, v30, v31, .int (-1)])), (q1, .inl (cT 4, 1024, .inr (.inr (.inr (.inr (fun _ => none)))))), (q2, .inl (cT 0, 4096, .inl (fun _ => 0))), (q3, .inl (cT 4, 1024, .inr (.inr (.inr (.inr (fun _ => none)))))), (q4, .inl (cT 4, 1024, .inr (.inr (.inr (.inr (fun _ => none)))))), (q5, .inl (cT 4, 256, .inr (.inr (.inr (.inr (fun _ => none)))))), (q6, .inl (cT 4, 256, .inr (.inr (.inr (.inr (fun _ => none)))))), (q7, .inl (cT 1, 64, .inl (fun _ => 0))), (q8, .inl (cT 1, 64, .inl (fun _ => 0))), (q9, .inl (cT 0, 1024, .inl (fun _ => 0))), (q10, .inl (cT 5, 8, .inr (.inr (.inr (.inr (x8 q11 q12 q13 q14 q15 q16 q17 q18)))))), (q11, .inl (cT 0, 4096, .inl (upd (upd (fun _ => 0) 0 110) 1 117))), (q12, .inl (cT 0, 4096, .inl (fun _ => 0))), (q13, .inl (cT 0, 4096, .inl (fun _ => 0))), (q14, .inl (cT 0, 4096, .inl (fun _ => 0))), (q15, .inl (cT 0, 4096, .inl (fun _ => 0))), (q16, .inl (cT 0, 4096, .inl (fun _ => 0))), (q17, .inl (cT 0, 4096, .inl (fun _ => 0))), (q18, .inl (cT 0, 4096, .inl (fun _ => 0))), (q19, .inl (cT 1, 8, .inl (fun _ => 0))), (q20, .inl (cT 0, 4096, .inl (fun _ => 0))), (q21, .inl (cT 0, 4096, .inl (fun _ => 0)))]) hP hD [] [0, 1, 2, 3, 4, 5, 6, 7, 8, 9, 10, 11, 12, 13, 14, 15, 16, 17, 18, 19, 20, 21] 22 rfl rfl (by decide) (by decide) hk1 hFc hP1 hD1
  generalize H1 = H at hP hS ⊢
  rw [hr9]
  refine W.eq (g2 := F0 m 177 ls [.int 108, .int 2, .ref q11]) rfl ?_
  refine lv_i2b hx hb dM_init_177 rfl ?_
  refine W.eq (g2 := F0 m 178 ls [.int 108, .int 2, .ref q11]) rfl ?_
  refine va_bast hx hb hK hP hD hS 11 0 rfl rfl (show ¬ ((2 : Int32) < 0 ∨ 4096 ≤ (2 : Int32).toNatClampNeg) by decide) dM_init_178 (fun H locs hP hD hS => ?_)
  obtain ⟨hP, hD⟩ : xPD D xcl A [(a0, .inr (5, [v1, .ref q1, v3, .ref q2, v5, .ref q3, .ref q4, v8, v9, v10, .ref q5, .ref q6, v13, .ref q7, .ref q8, v16, v17, v18, v19, .int 40, .int (-1), .ref q9, v23, .int 1000000000, .ref q10, .ref q19, .ref q20, v28, .ref q21, v30, v31, .int (-1)])), (q1, .inl (cT 4, 1024, .inr (.inr (.inr (.inr (fun _ => none)))))), (q2, .inl (cT 0, 4096, .inl (fun _ => 0))), (q3, .inl (cT 4, 1024, .inr (.inr (.inr (.inr (fun _ => none)))))), (q4, .inl (cT 4, 1024, .inr (.inr (.inr (.inr (fun _ => none)))))), (q5, .inl (cT 4, 256, .inr (.inr (.inr (.inr (fun _ => none)))))), (q6, .inl (cT 4, 256, .inr (.inr (.inr (.inr (fun _ => none)))))), (q7, .inl (cT 1, 64, .inl (fun _ => 0))), (q8, .inl (cT 1, 64, .inl (fun _ => 0))), (q9, .inl (cT 0, 1024, .inl (fun _ => 0))), (q10, .inl (cT 5, 8, .inr (.inr (.inr (.inr (x8 q11 q12 q13 q14 q15 q16 q17 q18)))))), (q11, .inl (cT 0, 4096, .inl (upd (upd (upd (fun _ => 0) 0 110) 1 117) 2 108))), (q12, .inl (cT 0, 4096, .inl (fun _ => 0))), (q13, .inl (cT 0, 4096, .inl (fun _ => 0))), (q14, .inl (cT 0, 4096, .inl (fun _ => 0))), (q15, .inl (cT 0, 4096, .inl (fun _ => 0))), (q16, .inl (cT 0, 4096, .inl (fun _ => 0))), (q17, .inl (cT 0, 4096, .inl (fun _ => 0))), (q18, .inl (cT 0, 4096, .inl (fun _ => 0))), (q19, .inl (cT 1, 8, .inl (fun _ => 0))), (q20, .inl (cT 0, 4096, .inl (fun _ => 0))), (q21, .inl (cT 0, 4096, .inl (fun _ => 0)))] H := ⟨hP, hD⟩
  refine lv_iinc (v := 3) (lv' := [(2, .int 3), (1, .int 0), (0, .ref a0)]) hx hb dM_init_179 hl (k := 0) rfl (by decide) (by decide) rfl (fun ls hl => ?_)
  refine lv_goto (tgt := 159) hx hb dM_init_182 (by decide) ?_
  refine lv_iload_n hx hb dM_init_159 rfl (lv_at hl 0 rfl) ?_
  refine lv_iconst (v := 4) hx hb dM_init_160 (by decide) ?_
  refine lv_icmp_ge (tgt := 185) hx hb dM_init_161 (by decide) (fun h => ((by revert h; decide : False)).elim) (fun _ => ?_)
  refine lv_aload_n hx hb dM_init_164 rfl (lv_at hl 2 rfl) ?_
  refine va_get (D := D) (ci := 5) (v := .ref q10) (C := "ValueBenchModel") (T := TM) (N := 32) hx hb htx inM hown hK hP 0 rfl rfl 24 (by decide) (htx _ kw_5_111) (fun _ h9 => h9) rfl dM_init_165 ?_
  refine lv_iload_n hx hb dM_init_168 rfl (lv_at hl 1 rfl) ?_
  refine xx_aldA hx hb hK hP 10 5 rfl rfl (show ¬ ((0 : Int32) < 0 ∨ 8 ≤ (0 : Int32).toNatClampNeg) by decide) dM_init_169 ?_
  refine W.eq (g2 := F0 m 170 ls [.ref q11]) rfl ?_
  refine lv_iload_n hx hb dM_init_170 rfl (lv_at hl 0 rfl) ?_
  refine va_ldcS (q := aK 10) hx hb hown (hZ.2.2.2.2.2.2.2.2.1 ("ValueBenchModel", 69, "null", 10) (List.mem_of_getElem? (i := 17) rfl)) dM_init_171 ?_
  refine lv_iload_n hx hb dM_init_173 rfl (lv_at hl 0 rfl) ?_
  obtain ⟨hPc, hDc, hFc⟩ := xcut (wc := []) hP hD hS hA [] rfl rfl (by decide)
  refine va_calli (va_runV (C := "java/lang/String") (As := [.int 3]) (rest := [.int 3, .ref q11]) ⟨hx, hb, hml, hown, htx⟩ (cJS_charAt_3 l hl9 D cT aK aV H.size) ⟨callB_of 1 htx (xw_goodC kw_2_80) rfl rfl rfl (htx _ kw_1_6) (htx _ kw_5_86) ⟨by decide, by decide, by decide +kernel⟩ ⟨Nat.le_of_ble_eq_true rfl, Nat.le_of_ble_eq_true rfl⟩, (htx _ kw_2_78), (htx _ kw_2_79)⟩ ⟨xPre_blind, vk_recv hZ.2.2.2.2.2.2.2.2.2.1 (i := 10) (by decide) hS, (fun U hU hW => ⟨rfl, xPre_of hZ hS hFc hPc hDc hK U hU hW⟩)⟩ rfl rfl hl.1 rfl (lv_room (Nat.le_of_ble_eq_true rfl)) dM_init_174 ⟨Nat.le_of_ble_eq_true rfl, Nat.le_of_ble_eq_true rfl⟩) hS (fun q _ h => hFc q h) hFc (fun r25 u9 t H1 locs ht hvm hr9 hB hz1 hk1 hS => ?_)
  obtain ⟨hP1, hK1, hD1⟩ := hB
  rw [ht] at hP1
  obtain ⟨hP, hD⟩ := xjoin (W := [(a0, .inr (5, [v1, .ref q1, v3, .ref q2, v5, .ref q3, .ref q4, v8, v9, v10, .ref q5, .ref q6, v13, .ref q7, .ref q8, v16, v17, v18, v19, .int 40, .int (-1), .ref q9, v23, .int 1000000000, .ref q10, .ref q19, .ref q20, v28, .ref q21, v30, v31, .int (-1)])), (q1, .inl (cT 4, 1024, .inr (.inr (.inr (.inr (fun _ => none)))))), (q2, .inl (cT 0, 4096, .inl (fun _ => 0))), (q3, .inl (cT 4, 1024, .inr (.inr (.inr (.inr (fun _ => none)))))), (q4, .inl (cT 4, 1024, .inr (.inr (.inr (.inr (fun _ => none)))))), (q5, .inl (cT 4, 256, .inr (.inr (.inr (.inr (fun _ => none)))))), (q6, .inl (cT 4, 256, .inr (.inr (.inr (.inr (fun _ => none)))))), (q7, .inl (cT 1, 64, .inl (fun _ => 0))), (q8, .inl (cT 1, 64, .inl (fun _ => 0))), (q9, .inl (cT 0, 1024, .inl (fun _ => 0))), (q10, .inl (cT 5, 8, .inr (.inr (.inr (.inr (x8 q11 q12 q13 q14 q15 q16 q17 q18)))))), (q11, .inl (cT 0, 4096, .inl (upd (upd (upd (fun _ => 0) 0 110) 1 117) 2 108))), (q12, .inl (cT 0, 4096, .inl (fun _ => 0))), (q13, .inl (cT 0, 4096, .inl (fun _ => 0))), (q14, .inl (cT 0, 4096, .inl (fun _ => 0))), (q15, .inl (cT 0, 4096, .inl (fun _ => 0))), (q16, .inl (cT 0, 4096, .inl (fun _ => 0))), (q17, .inl (cT 0, 4096, .inl (fun _ => 0))), (q18, .inl (cT 0, 4096, .inl (fun _ => 0))), (q19, .inl (cT 1, 8, .inl (fun _ => 0))), (q20, .inl (cT 0, 4096, .inl (fun _ => 0))), (q21, .inl (cT 0, 4096, .inl (fun _ => 0)))]) hP hD [] [0, 1, 2, 3, 4, 5, 6, 7, 8, 9, 10, 11, 12, 13, 14, 15, 16, 17, 18, 19, 20, 21] 22 rfl rfl (by decide) (by decide) hk1 hFc hP1 hD1
  generalize H1 = H at hP hS ⊢
  rw [hr9]
  refine W.eq (g2 := F0 m 177 ls [.int 108, .int 3, .ref q11]) rfl ?_
  refine lv_i2b hx hb dM_init_177 rfl ?_
  refine W.eq (g2 := F0 m 178 ls [.int 108, .int 3, .ref q11]) rfl ?_
  refine va_bast hx hb hK hP hD hS 11 0 rfl rfl (show ¬ ((3 : Int32) < 0 ∨ 4096 ≤ (3 : Int32).toNatClampNeg) by decide) dM_init_178 (fun H locs hP hD hS => ?_)
  obtain ⟨hP, hD⟩ : xPD D xcl A [(a0, .inr (5, [v1, .ref q1, v3, .ref q2, v5, .ref q3, .ref q4, v8, v9, v10, .ref q5, .ref q6, v13, .ref q7, .ref q8, v16, v17, v18, v19, .int 40, .int (-1), .ref q9, v23, .int 1000000000, .ref q10, .ref q19, .ref q20, v28, .ref q21, v30, v31, .int (-1)])), (q1, .inl (cT 4, 1024, .inr (.inr (.inr (.inr (fun _ => none)))))), (q2, .inl (cT 0, 4096, .inl (fun _ => 0))), (q3, .inl (cT 4, 1024, .inr (.inr (.inr (.inr (fun _ => none)))))), (q4, .inl (cT 4, 1024, .inr (.inr (.inr (.inr (fun _ => none)))))), (q5, .inl (cT 4, 256, .inr (.inr (.inr (.inr (fun _ => none)))))), (q6, .inl (cT 4, 256, .inr (.inr (.inr (.inr (fun _ => none)))))), (q7, .inl (cT 1, 64, .inl (fun _ => 0))), (q8, .inl (cT 1, 64, .inl (fun _ => 0))), (q9, .inl (cT 0, 1024, .inl (fun _ => 0))), (q10, .inl (cT 5, 8, .inr (.inr (.inr (.inr (x8 q11 q12 q13 q14 q15 q16 q17 q18)))))), (q11, .inl (cT 0, 4096, .inl (upd (upd (upd (upd (fun _ => 0) 0 110) 1 117) 2 108) 3 108))), (q12, .inl (cT 0, 4096, .inl (fun _ => 0))), (q13, .inl (cT 0, 4096, .inl (fun _ => 0))), (q14, .inl (cT 0, 4096, .inl (fun _ => 0))), (q15, .inl (cT 0, 4096, .inl (fun _ => 0))), (q16, .inl (cT 0, 4096, .inl (fun _ => 0))), (q17, .inl (cT 0, 4096, .inl (fun _ => 0))), (q18, .inl (cT 0, 4096, .inl (fun _ => 0))), (q19, .inl (cT 1, 8, .inl (fun _ => 0))), (q20, .inl (cT 0, 4096, .inl (fun _ => 0))), (q21, .inl (cT 0, 4096, .inl (fun _ => 0)))] H := ⟨hP, hD⟩
  refine lv_iinc (v := 4) (lv' := [(2, .int 4), (1, .int 0), (0, .ref a0)]) hx hb dM_init_179 hl (k := 0) rfl (by decide) (by decide) rfl (fun ls hl => ?_)
  refine lv_goto (tgt := 159) hx hb dM_init_182 (by decide) ?_
  refine lv_iload_n hx hb dM_init_159 rfl (lv_at hl 0 rfl) ?_
  refine lv_iconst (v := 4) hx hb dM_init_160 (by decide) ?_
  refine lv_icmp_ge (tgt := 185) hx hb dM_init_161 (by decide) (fun _ => ?_) (fun h => ((by revert h; decide : False)).elim)
  refine lv_aload_n hx hb dM_init_185 rfl (lv_at hl 2 rfl) ?_
  refine va_get (D := D) (ci := 5) (v := .ref q19) (C := "ValueBenchModel") (T := TM) (N := 32) hx hb htx inM hown hK hP 0 rfl rfl 25 (by decide) (htx _ kw_5_112) (fun _ h9 => h9) rfl dM_init_186 ?_
  refine lv_iload_n hx hb dM_init_189 rfl (lv_at hl 1 rfl) ?_
  refine lv_iconst (v := 4) hx hb dM_init_190 (by decide) ?_
  refine va_iast hx hb hK hP hD hS 19 1 rfl rfl (show ¬ ((0 : Int32) < 0 ∨ 8 ≤ (0 : Int32).toNatClampNeg) by decide) dM_init_191 (fun H locs hP hD hS => ?_)
  obtain ⟨hP, hD⟩ : xPD D xcl A [(a0, .inr (5, [v1, .ref q1, v3, .ref q2, v5, .ref q3, .ref q4, v8, v9, v10, .ref q5, .ref q6, v13, .ref q7, .ref q8, v16, v17, v18, v19, .int 40, .int (-1), .ref q9, v23, .int 1000000000, .ref q10, .ref q19, .ref q20, v28, .ref q21, v30, v31, .int (-1)])), (q1, .inl (cT 4, 1024, .inr (.inr (.inr (.inr (fun _ => none)))))), (q2, .inl (cT 0, 4096, .inl (fun _ => 0))), (q3, .inl (cT 4, 1024, .inr (.inr (.inr (.inr (fun _ => none)))))), (q4, .inl (cT 4, 1024, .inr (.inr (.inr (.inr (fun _ => none)))))), (q5, .inl (cT 4, 256, .inr (.inr (.inr (.inr (fun _ => none)))))), (q6, .inl (cT 4, 256, .inr (.inr (.inr (.inr (fun _ => none)))))), (q7, .inl (cT 1, 64, .inl (fun _ => 0))), (q8, .inl (cT 1, 64, .inl (fun _ => 0))), (q9, .inl (cT 0, 1024, .inl (fun _ => 0))), (q10, .inl (cT 5, 8, .inr (.inr (.inr (.inr (x8 q11 q12 q13 q14 q15 q16 q17 q18)))))), (q11, .inl (cT 0, 4096, .inl (upd (upd (upd (upd (fun _ => 0) 0 110) 1 117) 2 108) 3 108))), (q12, .inl (cT 0, 4096, .inl (fun _ => 0))), (q13, .inl (cT 0, 4096, .inl (fun _ => 0))), (q14, .inl (cT 0, 4096, .inl (fun _ => 0))), (q15, .inl (cT 0, 4096, .inl (fun _ => 0))), (q16, .inl (cT 0, 4096, .inl (fun _ => 0))), (q17, .inl (cT 0, 4096, .inl (fun _ => 0))), (q18, .inl (cT 0, 4096, .inl (fun _ => 0))), (q19, .inl (cT 1, 8, .inl (upd (fun _ => 0) 0 4))), (q20, .inl (cT 0, 4096, .inl (fun _ => 0))), (q21, .inl (cT 0, 4096, .inl (fun _ => 0)))] H := ⟨hP, hD⟩
  refine lv_iinc (v := 1) (lv' := [(1, .int 1), (2, .int 4), (0, .ref a0)]) hx hb dM_init_192 hl (k := 1) rfl (by decide) (by decide) rfl (fun ls hl => ?_)
  refine lv_goto (tgt := 151) hx hb dM_init_195 (by decide) ?_
  refine lv_iload_n hx hb dM_init_151 rfl (lv_at hl 0 rfl) ?_
  refine lv_bipush (v := 8) hx hb dM_init_152 (by decide) ?_
  refine lv_icmp_ge (tgt := 198) hx hb dM_init_154 (by decide) (fun h => ((by revert h; decide : False)).elim) (fun _ => ?_)
  refine lv_iconst (v := 0) hx hb dM_init_157 (by decide) ?_
  refine lv_istore_n (lv' := [(2, .int 0), (1, .int 1), (0, .ref a0)]) hx hb dM_init_158 rfl hl (by decide) rfl (fun ls hl => ?_)
  refine lv_iload_n hx hb dM_init_159 rfl (lv_at hl 0 rfl) ?_
  refine lv_iconst (v := 4) hx hb dM_init_160 (by decide) ?_
  refine lv_icmp_ge (tgt := 185) hx hb dM_init_161 (by decide) (fun h => ((by revert h; decide : False)).elim) (fun _ => ?_)
  refine lv_aload_n hx hb dM_init_164 rfl (lv_at hl 2 rfl) ?_
  refine va_get (D := D) (ci := 5) (v := .ref q10) (C := "ValueBenchModel") (T := TM) (N := 32) hx hb htx inM hown hK hP 0 rfl rfl 24 (by decide) (htx _ kw_5_111) (fun _ h9 => h9) rfl dM_init_165 ?_
  refine lv_iload_n hx hb dM_init_168 rfl (lv_at hl 1 rfl) ?_
  refine xx_aldA hx hb hK hP 10 5 rfl rfl (show ¬ ((1 : Int32) < 0 ∨ 8 ≤ (1 : Int32).toNatClampNeg) by decide) dM_init_169 ?_
  refine W.eq (g2 := F0 m 170 ls [.ref q12]) rfl ?_
  refine lv_iload_n hx hb dM_init_170 rfl (lv_at hl 0 rfl) ?_
  refine va_ldcS (q := aK 10) hx hb hown (hZ.2.2.2.2.2.2.2.2.1 ("ValueBenchModel", 69, "null", 10) (List.mem_of_getElem? (i := 17) rfl)) dM_init_171 ?_
  refine lv_iload_n hx hb dM_init_173 rfl (lv_at hl 0 rfl) ?_
  obtain ⟨hPc, hDc, hFc⟩ := xcut (wc := []) hP hD hS hA [] rfl rfl (by decide)
  refine va_calli (va_runV (C := "java/lang/String") (As := [.int 0]) (rest := [.int 0, .ref q12]) ⟨hx, hb, hml, hown, htx⟩ (cJS_charAt_0 l hl9 D cT aK aV H.size) ⟨callB_of 1 htx (xw_goodC kw_2_80) rfl rfl rfl (htx _ kw_1_6) (htx _ kw_5_86) ⟨by decide, by decide, by decide +kernel⟩ ⟨Nat.le_of_ble_eq_true rfl, Nat.le_of_ble_eq_true rfl⟩, (htx _ kw_2_78), (htx _ kw_2_79)⟩ ⟨xPre_blind, vk_recv hZ.2.2.2.2.2.2.2.2.2.1 (i := 10) (by decide) hS, (fun U hU hW => ⟨rfl, xPre_of hZ hS hFc hPc hDc hK U hU hW⟩)⟩ rfl rfl hl.1 rfl (lv_room (Nat.le_of_ble_eq_true rfl)) dM_init_174 ⟨Nat.le_of_ble_eq_true rfl, Nat.le_of_ble_eq_true rfl⟩) hS (fun q _ h => hFc q h) hFc (fun r26 u9 t H1 locs ht hvm hr9 hB hz1 hk1 hS => ?_)
  obtain ⟨hP1, hK1, hD1⟩ := hB
  rw [ht] at hP1
  obtain ⟨hP, hD⟩ := xjoin (W := [(a0, .inr (5, [v1, .ref q1, v3, .ref q2, v5, .ref q3, .ref q4, v8, v9, v10, .ref q5, .ref q6, v13, .ref q7, .ref q8, v16, v17, v18, v19, .int 40, .int (-1), .ref q9, v23, .int 1000000000, .ref q10, .ref q19, .ref q20, v28, .ref q21, v30, v31, .int (-1)])), (q1, .inl (cT 4, 1024, .inr (.inr (.inr (.inr (fun _ => none)))))), (q2, .inl (cT 0, 4096, .inl (fun _ => 0))), (q3, .inl (cT 4, 1024, .inr (.inr (.inr (.inr (fun _ => none)))))), (q4, .inl (cT 4, 1024, .inr (.inr (.inr (.inr (fun _ => none)))))), (q5, .inl (cT 4, 256, .inr (.inr (.inr (.inr (fun _ => none)))))), (q6, .inl (cT 4, 256, .inr (.inr (.inr (.inr (fun _ => none)))))), (q7, .inl (cT 1, 64, .inl (fun _ => 0))), (q8, .inl (cT 1, 64, .inl (fun _ => 0))), (q9, .inl (cT 0, 1024, .inl (fun _ => 0))), (q10, .inl (cT 5, 8, .inr (.inr (.inr (.inr (x8 q11 q12 q13 q14 q15 q16 q17 q18)))))), (q11, .inl (cT 0, 4096, .inl (upd (upd (upd (upd (fun _ => 0) 0 110) 1 117) 2 108) 3 108))), (q12, .inl (cT 0, 4096, .inl (fun _ => 0))), (q13, .inl (cT 0, 4096, .inl (fun _ => 0))), (q14, .inl (cT 0, 4096, .inl (fun _ => 0))), (q15, .inl (cT 0, 4096, .inl (fun _ => 0))), (q16, .inl (cT 0, 4096, .inl (fun _ => 0))), (q17, .inl (cT 0, 4096, .inl (fun _ => 0))), (q18, .inl (cT 0, 4096, .inl (fun _ => 0))), (q19, .inl (cT 1, 8, .inl (upd (fun _ => 0) 0 4))), (q20, .inl (cT 0, 4096, .inl (fun _ => 0))), (q21, .inl (cT 0, 4096, .inl (fun _ => 0)))]) hP hD [] [0, 1, 2, 3, 4, 5, 6, 7, 8, 9, 10, 11, 12, 13, 14, 15, 16, 17, 18, 19, 20, 21] 22 rfl rfl (by decide) (by decide) hk1 hFc hP1 hD1
  generalize H1 = H at hP hS ⊢
  rw [hr9]
  refine W.eq (g2 := F0 m 177 ls [.int 110, .int 0, .ref q12]) rfl ?_
  refine lv_i2b hx hb dM_init_177 rfl ?_
  refine W.eq (g2 := F0 m 178 ls [.int 110, .int 0, .ref q12]) rfl ?_
  refine va_bast hx hb hK hP hD hS 12 0 rfl rfl (show ¬ ((0 : Int32) < 0 ∨ 4096 ≤ (0 : Int32).toNatClampNeg) by decide) dM_init_178 (fun H locs hP hD hS => ?_)
  obtain ⟨hP, hD⟩ : xPD D xcl A [(a0, .inr (5, [v1, .ref q1, v3, .ref q2, v5, .ref q3, .ref q4, v8, v9, v10, .ref q5, .ref q6, v13, .ref q7, .ref q8, v16, v17, v18, v19, .int 40, .int (-1), .ref q9, v23, .int 1000000000, .ref q10, .ref q19, .ref q20, v28, .ref q21, v30, v31, .int (-1)])), (q1, .inl (cT 4, 1024, .inr (.inr (.inr (.inr (fun _ => none)))))), (q2, .inl (cT 0, 4096, .inl (fun _ => 0))), (q3, .inl (cT 4, 1024, .inr (.inr (.inr (.inr (fun _ => none)))))), (q4, .inl (cT 4, 1024, .inr (.inr (.inr (.inr (fun _ => none)))))), (q5, .inl (cT 4, 256, .inr (.inr (.inr (.inr (fun _ => none)))))), (q6, .inl (cT 4, 256, .inr (.inr (.inr (.inr (fun _ => none)))))), (q7, .inl (cT 1, 64, .inl (fun _ => 0))), (q8, .inl (cT 1, 64, .inl (fun _ => 0))), (q9, .inl (cT 0, 1024, .inl (fun _ => 0))), (q10, .inl (cT 5, 8, .inr (.inr (.inr (.inr (x8 q11 q12 q13 q14 q15 q16 q17 q18)))))), (q11, .inl (cT 0, 4096, .inl (upd (upd (upd (upd (fun _ => 0) 0 110) 1 117) 2 108) 3 108))), (q12, .inl (cT 0, 4096, .inl (upd (fun _ => 0) 0 110))), (q13, .inl (cT 0, 4096, .inl (fun _ => 0))), (q14, .inl (cT 0, 4096, .inl (fun _ => 0))), (q15, .inl (cT 0, 4096, .inl (fun _ => 0))), (q16, .inl (cT 0, 4096, .inl (fun _ => 0))), (q17, .inl (cT 0, 4096, .inl (fun _ => 0))), (q18, .inl (cT 0, 4096, .inl (fun _ => 0))), (q19, .inl (cT 1, 8, .inl (upd (fun _ => 0) 0 4))), (q20, .inl (cT 0, 4096, .inl (fun _ => 0))), (q21, .inl (cT 0, 4096, .inl (fun _ => 0)))] H := ⟨hP, hD⟩
  refine lv_iinc (v := 1) (lv' := [(2, .int 1), (1, .int 1), (0, .ref a0)]) hx hb dM_init_179 hl (k := 0) rfl (by decide) (by decide) rfl (fun ls hl => ?_)
  refine lv_goto (tgt := 159) hx hb dM_init_182 (by decide) ?_
  refine lv_iload_n hx hb dM_init_159 rfl (lv_at hl 0 rfl) ?_
  refine lv_iconst (v := 4) hx hb dM_init_160 (by decide) ?_
  refine lv_icmp_ge (tgt := 185) hx hb dM_init_161 (by decide) (fun h => ((by revert h; decide : False)).elim) (fun _ => ?_)
  refine lv_aload_n hx hb dM_init_164 rfl (lv_at hl 2 rfl) ?_
  refine va_get (D := D) (ci := 5) (v := .ref q10) (C := "ValueBenchModel") (T := TM) (N := 32) hx hb htx inM hown hK hP 0 rfl rfl 24 (by decide) (htx _ kw_5_111) (fun _ h9 => h9) rfl dM_init_165 ?_
  refine lv_iload_n hx hb dM_init_168 rfl (lv_at hl 1 rfl) ?_
  refine xx_aldA hx hb hK hP 10 5 rfl rfl (show ¬ ((1 : Int32) < 0 ∨ 8 ≤ (1 : Int32).toNatClampNeg) by decide) dM_init_169 ?_
  refine W.eq (g2 := F0 m 170 ls [.ref q12]) rfl ?_
  refine lv_iload_n hx hb dM_init_170 rfl (lv_at hl 0 rfl) ?_
  refine va_ldcS (q := aK 10) hx hb hown (hZ.2.2.2.2.2.2.2.2.1 ("ValueBenchModel", 69, "null", 10) (List.mem_of_getElem? (i := 17) rfl)) dM_init_171 ?_
  refine lv_iload_n hx hb dM_init_173 rfl (lv_at hl 0 rfl) ?_
  obtain ⟨hPc, hDc, hFc⟩ := xcut (wc := []) hP hD hS hA [] rfl rfl (by decide)
  refine va_calli (va_runV (C := "java/lang/String") (As := [.int 1]) (rest := [.int 1, .ref q12]) ⟨hx, hb, hml, hown, htx⟩ (cJS_charAt_1 l hl9 D cT aK aV H.size) ⟨callB_of 1 htx (xw_goodC kw_2_80) rfl rfl rfl (htx _ kw_1_6) (htx _ kw_5_86) ⟨by decide, by decide, by decide +kernel⟩ ⟨Nat.le_of_ble_eq_true rfl, Nat.le_of_ble_eq_true rfl⟩, (htx _ kw_2_78), (htx _ kw_2_79)⟩ ⟨xPre_blind, vk_recv hZ.2.2.2.2.2.2.2.2.2.1 (i := 10) (by decide) hS, (fun U hU hW => ⟨rfl, xPre_of hZ hS hFc hPc hDc hK U hU hW⟩)⟩ rfl rfl hl.1 rfl (lv_room (Nat.le_of_ble_eq_true rfl)) dM_init_174 ⟨Nat.le_of_ble_eq_true rfl, Nat.le_of_ble_eq_true rfl⟩) hS (fun q _ h => hFc q h) hFc (fun r27 u9 t H1 locs ht hvm hr9 hB hz1 hk1 hS => ?_)
  obtain ⟨hP1, hK1, hD1⟩ := hB
  rw [ht] at hP1
  obtain ⟨hP, hD⟩ := xjoin (W := [(a0, .inr (5, [v1, .ref q1, v3, .ref q2, v5, .ref q3, .ref q4, v8, v9, v10, .ref q5, .ref q6, v13, .ref q7, .ref q8, v16, v17, v18, v19, .int 40, .int (-1), .ref q9, v23, .int 1000000000, .ref q10, .ref q19, .ref q20, v28, .ref q21, v30, v31, .int (-1)])), (q1, .inl (cT 4, 1024, .inr (.inr (.inr (.inr (fun _ => none)))))), (q2, .inl (cT 0, 4096, .inl (fun _ => 0))), (q3, .inl (cT 4, 1024, .inr (.inr (.inr (.inr (fun _ => none)))))), (q4, .inl (cT 4, 1024, .inr (.inr (.inr (.inr (fun _ => none)))))), (q5, .inl (cT 4, 256, .inr (.inr (.inr (.inr (fun _ => none)))))), (q6, .inl (cT 4, 256, .inr (.inr (.inr (.inr (fun _ => none)))))), (q7, .inl (cT 1, 64, .inl (fun _ => 0))), (q8, .inl (cT 1, 64, .inl (fun _ => 0))), (q9, .inl (cT 0, 1024, .inl (fun _ => 0))), (q10, .inl (cT 5, 8, .inr (.inr (.inr (.inr (x8 q11 q12 q13 q14 q15 q16 q17 q18)))))), (q11, .inl (cT 0, 4096, .inl (upd (upd (upd (upd (fun _ => 0) 0 110) 1 117) 2 108) 3 108))), (q12, .inl (cT 0, 4096, .inl (upd (fun _ => 0) 0 110))), (q13, .inl (cT 0, 4096, .inl (fun _ => 0))), (q14, .inl (cT 0, 4096, .inl (fun _ => 0))), (q15, .inl (cT 0, 4096, .inl (fun _ => 0))), (q16, .inl (cT 0, 4096, .inl (fun _ => 0))), (q17, .inl (cT 0, 4096, .inl (fun _ => 0))), (q18, .inl (cT 0, 4096, .inl (fun _ => 0))), (q19, .inl (cT 1, 8, .inl (upd (fun _ => 0) 0 4))), (q20, .inl (cT 0, 4096, .inl (fun _ => 0))), (q21, .inl (cT 0, 4096, .inl (fun _ => 0)))]) hP hD [] [0, 1, 2, 3, 4, 5, 6, 7, 8, 9, 10, 11, 12, 13, 14, 15, 16, 17, 18, 19, 20, 21] 22 rfl rfl (by decide) (by decide) hk1 hFc hP1 hD1
  generalize H1 = H at hP hS ⊢
  rw [hr9]
  refine W.eq (g2 := F0 m 177 ls [.int 117, .int 1, .ref q12]) rfl ?_
  refine lv_i2b hx hb dM_init_177 rfl ?_
  refine W.eq (g2 := F0 m 178 ls [.int 117, .int 1, .ref q12]) rfl ?_
  refine va_bast hx hb hK hP hD hS 12 0 rfl rfl (show ¬ ((1 : Int32) < 0 ∨ 4096 ≤ (1 : Int32).toNatClampNeg) by decide) dM_init_178 (fun H locs hP hD hS => ?_)
  obtain ⟨hP, hD⟩ : xPD D xcl A [(a0, .inr (5, [v1, .ref q1, v3, .ref q2, v5, .ref q3, .ref q4, v8, v9, v10, .ref q5, .ref q6, v13, .ref q7, .ref q8, v16, v17, v18, v19, .int 40, .int (-1), .ref q9, v23, .int 1000000000, .ref q10, .ref q19, .ref q20, v28, .ref q21, v30, v31, .int (-1)])), (q1, .inl (cT 4, 1024, .inr (.inr (.inr (.inr (fun _ => none)))))), (q2, .inl (cT 0, 4096, .inl (fun _ => 0))), (q3, .inl (cT 4, 1024, .inr (.inr (.inr (.inr (fun _ => none)))))), (q4, .inl (cT 4, 1024, .inr (.inr (.inr (.inr (fun _ => none)))))), (q5, .inl (cT 4, 256, .inr (.inr (.inr (.inr (fun _ => none)))))), (q6, .inl (cT 4, 256, .inr (.inr (.inr (.inr (fun _ => none)))))), (q7, .inl (cT 1, 64, .inl (fun _ => 0))), (q8, .inl (cT 1, 64, .inl (fun _ => 0))), (q9, .inl (cT 0, 1024, .inl (fun _ => 0))), (q10, .inl (cT 5, 8, .inr (.inr (.inr (.inr (x8 q11 q12 q13 q14 q15 q16 q17 q18)))))), (q11, .inl (cT 0, 4096, .inl (upd (upd (upd (upd (fun _ => 0) 0 110) 1 117) 2 108) 3 108))), (q12, .inl (cT 0, 4096, .inl (upd (upd (fun _ => 0) 0 110) 1 117))), (q13, .inl (cT 0, 4096, .inl (fun _ => 0))), (q14, .inl (cT 0, 4096, .inl (fun _ => 0))), (q15, .inl (cT 0, 4096, .inl (fun _ => 0))), (q16, .inl (cT 0, 4096, .inl (fun _ => 0))), (q17, .inl (cT 0, 4096, .inl (fun _ => 0))), (q18, .inl (cT 0, 4096, .inl (fun _ => 0))), (q19, .inl (cT 1, 8, .inl (upd (fun _ => 0) 0 4))), (q20, .inl (cT 0, 4096, .inl (fun _ => 0))), (q21, .inl (cT 0, 4096, .inl (fun _ => 0)))] H := ⟨hP, hD⟩
  refine lv_iinc (v := 2) (lv' := [(2, .int 2), (1, .int 1), (0, .ref a0)]) hx hb dM_init_179 hl (k := 0) rfl (by decide) (by decide) rfl (fun ls hl => ?_)
  refine lv_goto (tgt := 159) hx hb dM_init_182 (by decide) ?_
  refine lv_iload_n hx hb dM_init_159 rfl (lv_at hl 0 rfl) ?_
  refine lv_iconst (v := 4) hx hb dM_init_160 (by decide) ?_
  refine lv_icmp_ge (tgt := 185) hx hb dM_init_161 (by decide) (fun h => ((by revert h; decide : False)).elim) (fun _ => ?_)
  refine lv_aload_n hx hb dM_init_164 rfl (lv_at hl 2 rfl) ?_
  refine va_get (D := D) (ci := 5) (v := .ref q10) (C := "ValueBenchModel") (T := TM) (N := 32) hx hb htx inM hown hK hP 0 rfl rfl 24 (by decide) (htx _ kw_5_111) (fun _ h9 => h9) rfl dM_init_165 ?_
  refine lv_iload_n hx hb dM_init_168 rfl (lv_at hl 1 rfl) ?_
  refine xx_aldA hx hb hK hP 10 5 rfl rfl (show ¬ ((1 : Int32) < 0 ∨ 8 ≤ (1 : Int32).toNatClampNeg) by decide) dM_init_169 ?_
  refine W.eq (g2 := F0 m 170 ls [.ref q12]) rfl ?_
  refine lv_iload_n hx hb dM_init_170 rfl (lv_at hl 0 rfl) ?_
  refine va_ldcS (q := aK 10) hx hb hown (hZ.2.2.2.2.2.2.2.2.1 ("ValueBenchModel", 69, "null", 10) (List.mem_of_getElem? (i := 17) rfl)) dM_init_171 ?_
  refine lv_iload_n hx hb dM_init_173 rfl (lv_at hl 0 rfl) ?_
  obtain ⟨hPc, hDc, hFc⟩ := xcut (wc := []) hP hD hS hA [] rfl rfl (by decide)
  refine va_calli (va_runV (C := "java/lang/String") (As := [.int 2]) (rest := [.int 2, .ref q12]) ⟨hx, hb, hml, hown, htx⟩ (cJS_charAt_2 l hl9 D cT aK aV H.size) ⟨callB_of 1 htx (xw_goodC kw_2_80) rfl rfl rfl (htx _ kw_1_6) (htx _ kw_5_86) ⟨by decide, by decide, by decide +kernel⟩ ⟨Nat.le_of_ble_eq_true rfl, Nat.le_of_ble_eq_true rfl⟩, (htx _ kw_2_78), (htx _ kw_2_79)⟩ ⟨xPre_blind, vk_recv hZ.2.2.2.2.2.2.2.2.2.1 (i := 10) (by decide) hS, (fun U hU hW => ⟨rfl, xPre_of hZ hS hFc hPc hDc hK U hU hW⟩)⟩ rfl rfl hl.1 rfl (lv_room (Nat.le_of_ble_eq_true rfl)) dM_init_174 ⟨Nat.le_of_ble_eq_true rfl, Nat.le_of_ble_eq_true rfl⟩) hS (fun q _ h => hFc q h) hFc (fun r28 u9 t H1 locs ht hvm hr9 hB hz1 hk1 hS => ?_)
  obtain ⟨hP1, hK1, hD1⟩ := hB
  rw [ht] at hP1
  obtain ⟨hP, hD⟩ := xjoin (W := [(a0, .inr (5, [v1, .ref q1, v3, .ref q2, v5, .ref q3, .ref q4, v8, v9, v10, .ref q5, .ref q6, v13, .ref q7, .ref q8, v16, v17, v18, v19, .int 40, .int (-1), .ref q9, v23, .int 1000000000, .ref q10, .ref q19, .ref q20, v28, .ref q21, v30, v31, .int (-1)])), (q1, .inl (cT 4, 1024, .inr (.inr (.inr (.inr (fun _ => none)))))), (q2, .inl (cT 0, 4096, .inl (fun _ => 0))), (q3, .inl (cT 4, 1024, .inr (.inr (.inr (.inr (fun _ => none)))))), (q4, .inl (cT 4, 1024, .inr (.inr (.inr (.inr (fun _ => none)))))), (q5, .inl (cT 4, 256, .inr (.inr (.inr (.inr (fun _ => none)))))), (q6, .inl (cT 4, 256, .inr (.inr (.inr (.inr (fun _ => none)))))), (q7, .inl (cT 1, 64, .inl (fun _ => 0))), (q8, .inl (cT 1, 64, .inl (fun _ => 0))), (q9, .inl (cT 0, 1024, .inl (fun _ => 0))), (q10, .inl (cT 5, 8, .inr (.inr (.inr (.inr (x8 q11 q12 q13 q14 q15 q16 q17 q18)))))), (q11, .inl (cT 0, 4096, .inl (upd (upd (upd (upd (fun _ => 0) 0 110) 1 117) 2 108) 3 108))), (q12, .inl (cT 0, 4096, .inl (upd (upd (fun _ => 0) 0 110) 1 117))), (q13, .inl (cT 0, 4096, .inl (fun _ => 0))), (q14, .inl (cT 0, 4096, .inl (fun _ => 0))), (q15, .inl (cT 0, 4096, .inl (fun _ => 0))), (q16, .inl (cT 0, 4096, .inl (fun _ => 0))), (q17, .inl (cT 0, 4096, .inl (fun _ => 0))), (q18, .inl (cT 0, 4096, .inl (fun _ => 0))), (q19, .inl (cT 1, 8, .inl (upd (fun _ => 0) 0 4))), (q20, .inl (cT 0, 4096, .inl (fun _ => 0))), (q21, .inl (cT 0, 4096, .inl (fun _ => 0)))]) hP hD [] [0, 1, 2, 3, 4, 5, 6, 7, 8, 9, 10, 11, 12, 13, 14, 15, 16, 17, 18, 19, 20, 21] 22 rfl rfl (by decide) (by decide) hk1 hFc hP1 hD1
  generalize H1 = H at hP hS ⊢
  rw [hr9]
  refine W.eq (g2 := F0 m 177 ls [.int 108, .int 2, .ref q12]) rfl ?_
  refine lv_i2b hx hb dM_init_177 rfl ?_
  refine W.eq (g2 := F0 m 178 ls [.int 108, .int 2, .ref q12]) rfl ?_
  refine va_bast hx hb hK hP hD hS 12 0 rfl rfl (show ¬ ((2 : Int32) < 0 ∨ 4096 ≤ (2 : Int32).toNatClampNeg) by decide) dM_init_178 (fun H locs hP hD hS => ?_)
  obtain ⟨hP, hD⟩ : xPD D xcl A [(a0, .inr (5, [v1, .ref q1, v3, .ref q2, v5, .ref q3, .ref q4, v8, v9, v10, .ref q5, .ref q6, v13, .ref q7, .ref q8, v16, v17, v18, v19, .int 40, .int (-1), .ref q9, v23, .int 1000000000, .ref q10, .ref q19, .ref q20, v28, .ref q21, v30, v31, .int (-1)])), (q1, .inl (cT 4, 1024, .inr (.inr (.inr (.inr (fun _ => none)))))), (q2, .inl (cT 0, 4096, .inl (fun _ => 0))), (q3, .inl (cT 4, 1024, .inr (.inr (.inr (.inr (fun _ => none)))))), (q4, .inl (cT 4, 1024, .inr (.inr (.inr (.inr (fun _ => none)))))), (q5, .inl (cT 4, 256, .inr (.inr (.inr (.inr (fun _ => none)))))), (q6, .inl (cT 4, 256, .inr (.inr (.inr (.inr (fun _ => none)))))), (q7, .inl (cT 1, 64, .inl (fun _ => 0))), (q8, .inl (cT 1, 64, .inl (fun _ => 0))), (q9, .inl (cT 0, 1024, .inl (fun _ => 0))), (q10, .inl (cT 5, 8, .inr (.inr (.inr (.inr (x8 q11 q12 q13 q14 q15 q16 q17 q18)))))), (q11, .inl (cT 0, 4096, .inl (upd (upd (upd (upd (fun _ => 0) 0 110) 1 117) 2 108) 3 108))), (q12, .inl (cT 0, 4096, .inl (upd (upd (upd (fun _ => 0) 0 110) 1 117) 2 108))), (q13, .inl (cT 0, 4096, .inl (fun _ => 0))), (q14, .inl (cT 0, 4096, .inl (fun _ => 0))), (q15, .inl (cT 0, 4096, .inl (fun _ => 0))), (q16, .inl (cT 0, 4096, .inl (fun _ => 0))), (q17, .inl (cT 0, 4096, .inl (fun _ => 0))), (q18, .inl (cT 0, 4096, .inl (fun _ => 0))), (q19, .inl (cT 1, 8, .inl (upd (fun _ => 0) 0 4))), (q20, .inl (cT 0, 4096, .inl (fun _ => 0))), (q21, .inl (cT 0, 4096, .inl (fun _ => 0)))] H := ⟨hP, hD⟩
  refine lv_iinc (v := 3) (lv' := [(2, .int 3), (1, .int 1), (0, .ref a0)]) hx hb dM_init_179 hl (k := 0) rfl (by decide) (by decide) rfl (fun ls hl => ?_)
  refine lv_goto (tgt := 159) hx hb dM_init_182 (by decide) ?_
  refine lv_iload_n hx hb dM_init_159 rfl (lv_at hl 0 rfl) ?_
  refine lv_iconst (v := 4) hx hb dM_init_160 (by decide) ?_
  refine lv_icmp_ge (tgt := 185) hx hb dM_init_161 (by decide) (fun h => ((by revert h; decide : False)).elim) (fun _ => ?_)
  refine lv_aload_n hx hb dM_init_164 rfl (lv_at hl 2 rfl) ?_
  refine va_get (D := D) (ci := 5) (v := .ref q10) (C := "ValueBenchModel") (T := TM) (N := 32) hx hb htx inM hown hK hP 0 rfl rfl 24 (by decide) (htx _ kw_5_111) (fun _ h9 => h9) rfl dM_init_165 ?_
  refine lv_iload_n hx hb dM_init_168 rfl (lv_at hl 1 rfl) ?_
  refine xx_aldA hx hb hK hP 10 5 rfl rfl (show ¬ ((1 : Int32) < 0 ∨ 8 ≤ (1 : Int32).toNatClampNeg) by decide) dM_init_169 ?_
  refine W.eq (g2 := F0 m 170 ls [.ref q12]) rfl ?_
  refine lv_iload_n hx hb dM_init_170 rfl (lv_at hl 0 rfl) ?_
  refine va_ldcS (q := aK 10) hx hb hown (hZ.2.2.2.2.2.2.2.2.1 ("ValueBenchModel", 69, "null", 10) (List.mem_of_getElem? (i := 17) rfl)) dM_init_171 ?_
  refine lv_iload_n hx hb dM_init_173 rfl (lv_at hl 0 rfl) ?_
  obtain ⟨hPc, hDc, hFc⟩ := xcut (wc := []) hP hD hS hA [] rfl rfl (by decide)
  refine va_calli (va_runV (C := "java/lang/String") (As := [.int 3]) (rest := [.int 3, .ref q12]) ⟨hx, hb, hml, hown, htx⟩ (cJS_charAt_3 l hl9 D cT aK aV H.size) ⟨callB_of 1 htx (xw_goodC kw_2_80) rfl rfl rfl (htx _ kw_1_6) (htx _ kw_5_86) ⟨by decide, by decide, by decide +kernel⟩ ⟨Nat.le_of_ble_eq_true rfl, Nat.le_of_ble_eq_true rfl⟩, (htx _ kw_2_78), (htx _ kw_2_79)⟩ ⟨xPre_blind, vk_recv hZ.2.2.2.2.2.2.2.2.2.1 (i := 10) (by decide) hS, (fun U hU hW => ⟨rfl, xPre_of hZ hS hFc hPc hDc hK U hU hW⟩)⟩ rfl rfl hl.1 rfl (lv_room (Nat.le_of_ble_eq_true rfl)) dM_init_174 ⟨Nat.le_of_ble_eq_true rfl, Nat.le_of_ble_eq_true rfl⟩) hS (fun q _ h => hFc q h) hFc (fun r29 u9 t H1 locs ht hvm hr9 hB hz1 hk1 hS => ?_)
  obtain ⟨hP1, hK1, hD1⟩ := hB
  rw [ht] at hP1
  obtain ⟨hP, hD⟩ := xjoin (W := [(a0, .inr (5, [v1, .ref q1, v3, .ref q2, v5, .ref q3, .ref q4, v8, v9, v10, .ref q5, .ref q6, v13, .ref q7, .ref q8, v16, v17, v18, v19, .int 40, .int (-1), .ref q9, v23, .int 1000000000, .ref q10, .ref q19, .ref q20, v28, .ref q21, v30, v31, .int (-1)])), (q1, .inl (cT 4, 1024, .inr (.inr (.inr (.inr (fun _ => none)))))), (q2, .inl (cT 0, 4096, .inl (fun _ => 0))), (q3, .inl (cT 4, 1024, .inr (.inr (.inr (.inr (fun _ => none)))))), (q4, .inl (cT 4, 1024, .inr (.inr (.inr (.inr (fun _ => none)))))), (q5, .inl (cT 4, 256, .inr (.inr (.inr (.inr (fun _ => none)))))), (q6, .inl (cT 4, 256, .inr (.inr (.inr (.inr (fun _ => none)))))), (q7, .inl (cT 1, 64, .inl (fun _ => 0))), (q8, .inl (cT 1, 64, .inl (fun _ => 0))), (q9, .inl (cT 0, 1024, .inl (fun _ => 0))), (q10, .inl (cT 5, 8, .inr (.inr (.inr (.inr (x8 q11 q12 q13 q14 q15 q16 q17 q18)))))), (q11, .inl (cT 0, 4096, .inl (upd (upd (upd (upd (fun _ => 0) 0 110) 1 117) 2 108) 3 108))), (q12, .inl (cT 0, 4096, .inl (upd (upd (upd (fun _ => 0) 0 110) 1 117) 2 108))), (q13, .inl (cT 0, 4096, .inl (fun _ => 0))), (q14, .inl (cT 0, 4096, .inl (fun _ => 0))), (q15, .inl (cT 0, 4096, .inl (fun _ => 0))), (q16, .inl (cT 0, 4096, .inl (fun _ => 0))), (q17, .inl (cT 0, 4096, .inl (fun _ => 0))), (q18, .inl (cT 0, 4096, .inl (fun _ => 0))), (q19, .inl (cT 1, 8, .inl (upd (fun _ => 0) 0 4))), (q20, .inl (cT 0, 4096, .inl (fun _ => 0))), (q21, .inl (cT 0, 4096, .inl (fun _ => 0)))]) hP hD [] [0, 1, 2, 3, 4, 5, 6, 7, 8, 9, 10, 11, 12, 13, 14, 15, 16, 17, 18, 19, 20, 21] 22 rfl rfl (by decide) (by decide) hk1 hFc hP1 hD1
  generalize H1 = H at hP hS ⊢
  rw [hr9]
  refine W.eq (g2 := F0 m 177 ls [.int 108, .int 3, .ref q12]) rfl ?_
  refine lv_i2b hx hb dM_init_177 rfl ?_
  refine W.eq (g2 := F0 m 178 ls [.int 108, .int 3, .ref q12]) rfl ?_
  refine va_bast hx hb hK hP hD hS 12 0 rfl rfl (show ¬ ((3 : Int32) < 0 ∨ 4096 ≤ (3 : Int32).toNatClampNeg) by decide) dM_init_178 (fun H locs hP hD hS => ?_)
  obtain ⟨hP, hD⟩ : xPD D xcl A [(a0, .inr (5, [v1, .ref q1, v3, .ref q2, v5, .ref q3, .ref q4, v8, v9, v10, .ref q5, .ref q6, v13, .ref q7, .ref q8, v16, v17, v18, v19, .int 40, .int (-1), .ref q9, v23, .int 1000000000, .ref q10, .ref q19, .ref q20, v28, .ref q21, v30, v31, .int (-1)])), (q1, .inl (cT 4, 1024, .inr (.inr (.inr (.inr (fun _ => none)))))), (q2, .inl (cT 0, 4096, .inl (fun _ => 0))), (q3, .inl (cT 4, 1024, .inr (.inr (.inr (.inr (fun _ => none)))))), (q4, .inl (cT 4, 1024, .inr (.inr (.inr (.inr (fun _ => none)))))), (q5, .inl (cT 4, 256, .inr (.inr (.inr (.inr (fun _ => none)))))), (q6, .inl (cT 4, 256, .inr (.inr (.inr (.inr (fun _ => none)))))), (q7, .inl (cT 1, 64, .inl (fun _ => 0))), (q8, .inl (cT 1, 64, .inl (fun _ => 0))), (q9, .inl (cT 0, 1024, .inl (fun _ => 0))), (q10, .inl (cT 5, 8, .inr (.inr (.inr (.inr (x8 q11 q12 q13 q14 q15 q16 q17 q18)))))), (q11, .inl (cT 0, 4096, .inl (upd (upd (upd (upd (fun _ => 0) 0 110) 1 117) 2 108) 3 108))), (q12, .inl (cT 0, 4096, .inl (upd (upd (upd (upd (fun _ => 0) 0 110) 1 117) 2 108) 3 108))), (q13, .inl (cT 0, 4096, .inl (fun _ => 0))), (q14, .inl (cT 0, 4096, .inl (fun _ => 0))), (q15, .inl (cT 0, 4096, .inl (fun _ => 0))), (q16, .inl (cT 0, 4096, .inl (fun _ => 0))), (q17, .inl (cT 0, 4096, .inl (fun _ => 0))), (q18, .inl (cT 0, 4096, .inl (fun _ => 0))), (q19, .inl (cT 1, 8, .inl (upd (fun _ => 0) 0 4))), (q20, .inl (cT 0, 4096, .inl (fun _ => 0))), (q21, .inl (cT 0, 4096, .inl (fun _ => 0)))] H := ⟨hP, hD⟩
  refine lv_iinc (v := 4) (lv' := [(2, .int 4), (1, .int 1), (0, .ref a0)]) hx hb dM_init_179 hl (k := 0) rfl (by decide) (by decide) rfl (fun ls hl => ?_)
  refine lv_goto (tgt := 159) hx hb dM_init_182 (by decide) ?_
  refine lv_iload_n hx hb dM_init_159 rfl (lv_at hl 0 rfl) ?_
  refine lv_iconst (v := 4) hx hb dM_init_160 (by decide) ?_
  refine lv_icmp_ge (tgt := 185) hx hb dM_init_161 (by decide) (fun _ => ?_) (fun h => ((by revert h; decide : False)).elim)
  refine lv_aload_n hx hb dM_init_185 rfl (lv_at hl 2 rfl) ?_
  refine va_get (D := D) (ci := 5) (v := .ref q19) (C := "ValueBenchModel") (T := TM) (N := 32) hx hb htx inM hown hK hP 0 rfl rfl 25 (by decide) (htx _ kw_5_112) (fun _ h9 => h9) rfl dM_init_186 ?_
  refine lv_iload_n hx hb dM_init_189 rfl (lv_at hl 1 rfl) ?_
  refine lv_iconst (v := 4) hx hb dM_init_190 (by decide) ?_
  refine va_iast hx hb hK hP hD hS 19 1 rfl rfl (show ¬ ((1 : Int32) < 0 ∨ 8 ≤ (1 : Int32).toNatClampNeg) by decide) dM_init_191 (fun H locs hP hD hS => ?_)
  obtain ⟨hP, hD⟩ : xPD D xcl A [(a0, .inr (5, [v1, .ref q1, v3, .ref q2, v5, .ref q3, .ref q4, v8, v9, v10, .ref q5, .ref q6, v13, .ref q7, .ref q8, v16, v17, v18, v19, .int 40, .int (-1), .ref q9, v23, .int 1000000000, .ref q10, .ref q19, .ref q20, v28, .ref q21, v30, v31, .int (-1)])), (q1, .inl (cT 4, 1024, .inr (.inr (.inr (.inr (fun _ => none)))))), (q2, .inl (cT 0, 4096, .inl (fun _ => 0))), (q3, .inl (cT 4, 1024, .inr (.inr (.inr (.inr (fun _ => none)))))), (q4, .inl (cT 4, 1024, .inr (.inr (.inr (.inr (fun _ => none)))))), (q5, .inl (cT 4, 256, .inr (.inr (.inr (.inr (fun _ => none)))))), (q6, .inl (cT 4, 256, .inr (.inr (.inr (.inr (fun _ => none)))))), (q7, .inl (cT 1, 64, .inl (fun _ => 0))), (q8, .inl (cT 1, 64, .inl (fun _ => 0))), (q9, .inl (cT 0, 1024, .inl (fun _ => 0))), (q10, .inl (cT 5, 8, .inr (.inr (.inr (.inr (x8 q11 q12 q13 q14 q15 q16 q17 q18)))))), (q11, .inl (cT 0, 4096, .inl (upd (upd (upd (upd (fun _ => 0) 0 110) 1 117) 2 108) 3 108))), (q12, .inl (cT 0, 4096, .inl (upd (upd (upd (upd (fun _ => 0) 0 110) 1 117) 2 108) 3 108))), (q13, .inl (cT 0, 4096, .inl (fun _ => 0))), (q14, .inl (cT 0, 4096, .inl (fun _ => 0))), (q15, .inl (cT 0, 4096, .inl (fun _ => 0))), (q16, .inl (cT 0, 4096, .inl (fun _ => 0))), (q17, .inl (cT 0, 4096, .inl (fun _ => 0))), (q18, .inl (cT 0, 4096, .inl (fun _ => 0))), (q19, .inl (cT 1, 8, .inl (upd (upd (fun _ => 0) 0 4) 1 4))), (q20, .inl (cT 0, 4096, .inl (fun _ => 0))), (q21, .inl (cT 0, 4096, .inl (fun _ => 0)))] H := ⟨hP, hD⟩
  refine lv_iinc (v := 2) (lv' := [(1, .int 2), (2, .int 4), (0, .ref a0)]) hx hb dM_init_192 hl (k := 1) rfl (by decide) (by decide) rfl (fun ls hl => ?_)
  refine lv_goto (tgt := 151) hx hb dM_init_195 (by decide) ?_
  refine lv_iload_n hx hb dM_init_151 rfl (lv_at hl 0 rfl) ?_
  refine lv_bipush (v := 8) hx hb dM_init_152 (by decide) ?_
  refine lv_icmp_ge (tgt := 198) hx hb dM_init_154 (by decide) (fun h => ((by revert h; decide : False)).elim) (fun _ => ?_)
  refine lv_iconst (v := 0) hx hb dM_init_157 (by decide) ?_
  refine lv_istore_n (lv' := [(2, .int 0), (1, .int 2), (0, .ref a0)]) hx hb dM_init_158 rfl hl (by decide) rfl (fun ls hl => ?_)
  refine lv_iload_n hx hb dM_init_159 rfl (lv_at hl 0 rfl) ?_
  refine lv_iconst (v := 4) hx hb dM_init_160 (by decide) ?_
  refine lv_icmp_ge (tgt := 185) hx hb dM_init_161 (by decide) (fun h => ((by revert h; decide : False)).elim) (fun _ => ?_)
  refine lv_aload_n hx hb dM_init_164 rfl (lv_at hl 2 rfl) ?_
  refine va_get (D := D) (ci := 5) (v := .ref q10) (C := "ValueBenchModel") (T := TM) (N := 32) hx hb htx inM hown hK hP 0 rfl rfl 24 (by decide) (htx _ kw_5_111) (fun _ h9 => h9) rfl dM_init_165 ?_
  refine lv_iload_n hx hb dM_init_168 rfl (lv_at hl 1 rfl) ?_
  refine xx_aldA hx hb hK hP 10 5 rfl rfl (show ¬ ((2 : Int32) < 0 ∨ 8 ≤ (2 : Int32).toNatClampNeg) by decide) dM_init_169 ?_
  refine W.eq (g2 := F0 m 170 ls [.ref q13]) rfl ?_
  refine lv_iload_n hx hb dM_init_170 rfl (lv_at hl 0 rfl) ?_
  refine va_ldcS (q := aK 10) hx hb hown (hZ.2.2.2.2.2.2.2.2.1 ("ValueBenchModel", 69, "null", 10) (List.mem_of_getElem? (i := 17) rfl)) dM_init_171 ?_
  refine lv_iload_n hx hb dM_init_173 rfl (lv_at hl 0 rfl) ?_
  obtain ⟨hPc, hDc, hFc⟩ := xcut (wc := []) hP hD hS hA [] rfl rfl (by decide)
  refine va_calli (va_runV (C := "java/lang/String") (As := [.int 0]) (rest := [.int 0, .ref q13]) ⟨hx, hb, hml, hown, htx⟩ (cJS_charAt_0 l hl9 D cT aK aV H.size) ⟨callB_of 1 htx (xw_goodC kw_2_80) rfl rfl rfl (htx _ kw_1_6) (htx _ kw_5_86) ⟨by decide, by decide, by decide +kernel⟩ ⟨Nat.le_of_ble_eq_true rfl, Nat.le_of_ble_eq_true rfl⟩, (htx _ kw_2_78), (htx _ kw_2_79)⟩ ⟨xPre_blind, vk_recv hZ.2.2.2.2.2.2.2.2.2.1 (i := 10) (by decide) hS, (fun U hU hW => ⟨rfl, xPre_of hZ hS hFc hPc hDc hK U hU hW⟩)⟩ rfl rfl hl.1 rfl (lv_room (Nat.le_of_ble_eq_true rfl)) dM_init_174 ⟨Nat.le_of_ble_eq_true rfl, Nat.le_of_ble_eq_true rfl⟩) hS (fun q _ h => hFc q h) hFc (fun r30 u9 t H1 locs ht hvm hr9 hB hz1 hk1 hS => ?_)
  obtain ⟨hP1, hK1, hD1⟩ := hB
  rw [ht] at hP1
  obtain ⟨hP, hD⟩ := xjoin (W := [(a0, .inr (5, [v1, .ref q1, v3, .ref q2, v5, .ref q3, .ref q4, v8, v9, v10, .ref q5, .ref q6, v13, .ref q7, .ref q8, v16, v17, v18, v19, .int 40, .int (-1), .ref q9, v23, .int 1000000000, .ref q10, .ref q19, .ref q20, v28, .ref q21, v30, v31, .int (-1)])), (q1, .inl (cT 4, 1024, .inr (.inr (.inr (.inr (fun _ => none)))))), (q2, .inl (cT 0, 4096, .inl (fun _ => 0))), (q3, .inl (cT 4, 1024, .inr (.inr (.inr (.inr (fun _ => none)))))), (q4, .inl (cT 4, 1024, .inr (.inr (.inr (.inr (fun _ => none)))))), (q5, .inl (cT 4, 256, .inr (.inr (.inr (.inr (fun _ => none)))))), (q6, .inl (cT 4, 256, .inr (.inr (.inr (.inr (fun _ => none)))))), (q7, .inl (cT 1, 64, .inl (fun _ => 0))), (q8, .inl (cT 1, 64, .inl (fun _ => 0))), (q9, .inl (cT 0, 1024, .inl (fun _ => 0))), (q10, .inl (cT 5, 8, .inr (.inr (.inr (.inr (x8 q11 q12 q13 q14 q15 q16 q17 q18)))))), (q11, .inl (cT 0, 4096, .inl (upd (upd (upd (upd (fun _ => 0) 0 110) 1 117) 2 108) 3 108))), (q12, .inl (cT 0, 4096, .inl (upd (upd (upd (upd (fun _ => 0) 0 110) 1 117) 2 108) 3 108))), (q13, .inl (cT 0, 4096, .inl (fun _ => 0))), (q14, .inl (cT 0, 4096, .inl (fun _ => 0))), (q15, .inl (cT 0, 4096, .inl (fun _ => 0))), (q16, .inl (cT 0, 4096, .inl (fun _ => 0))), (q17, .inl (cT 0, 4096, .inl (fun _ => 0))), (q18, .inl (cT 0, 4096, .inl (fun _ => 0))), (q19, .inl (cT 1, 8, .inl (upd (upd (fun _ => 0) 0 4) 1 4))), (q20, .inl (cT 0, 4096, .inl (fun _ => 0))), (q21, .inl (cT 0, 4096, .inl (fun _ => 0)))]) hP hD [] [0, 1, 2, 3, 4, 5, 6, 7, 8, 9, 10, 11, 12, 13, 14, 15, 16, 17, 18, 19, 20, 21] 22 rfl rfl (by decide) (by decide) hk1 hFc hP1 hD1
  generalize H1 = H at hP hS ⊢
  rw [hr9]
  refine W.eq (g2 := F0 m 177 ls [.int 110, .int 0, .ref q13]) rfl ?_
  refine lv_i2b hx hb dM_init_177 rfl ?_
  refine W.eq (g2 := F0 m 178 ls [.int 110, .int 0, .ref q13]) rfl ?_
  refine va_bast hx hb hK hP hD hS 13 0 rfl rfl (show ¬ ((0 : Int32) < 0 ∨ 4096 ≤ (0 : Int32).toNatClampNeg) by decide) dM_init_178 (fun H locs hP hD hS => ?_)
  obtain ⟨hP, hD⟩ : xPD D xcl A [(a0, .inr (5, [v1, .ref q1, v3, .ref q2, v5, .ref q3, .ref q4, v8, v9, v10, .ref q5, .ref q6, v13, .ref q7, .ref q8, v16, v17, v18, v19, .int 40, .int (-1), .ref q9, v23, .int 1000000000, .ref q10, .ref q19, .ref q20, v28, .ref q21, v30, v31, .int (-1)])), (q1, .inl (cT 4, 1024, .inr (.inr (.inr (.inr (fun _ => none)))))), (q2, .inl (cT 0, 4096, .inl (fun _ => 0))), (q3, .inl (cT 4, 1024, .inr (.inr (.inr (.inr (fun _ => none)))))), (q4, .inl (cT 4, 1024, .inr (.inr (.inr (.inr (fun _ => none)))))), (q5, .inl (cT 4, 256, .inr (.inr (.inr (.inr (fun _ => none)))))), (q6, .inl (cT 4, 256, .inr (.inr (.inr (.inr (fun _ => none)))))), (q7, .inl (cT 1, 64, .inl (fun _ => 0))), (q8, .inl (cT 1, 64, .inl (fun _ => 0))), (q9, .inl (cT 0, 1024, .inl (fun _ => 0))), (q10, .inl (cT 5, 8, .inr (.inr (.inr (.inr (x8 q11 q12 q13 q14 q15 q16 q17 q18)))))), (q11, .inl (cT 0, 4096, .inl (upd (upd (upd (upd (fun _ => 0) 0 110) 1 117) 2 108) 3 108))), (q12, .inl (cT 0, 4096, .inl (upd (upd (upd (upd (fun _ => 0) 0 110) 1 117) 2 108) 3 108))), (q13, .inl (cT 0, 4096, .inl (upd (fun _ => 0) 0 110))), (q14, .inl (cT 0, 4096, .inl (fun _ => 0))), (q15, .inl (cT 0, 4096, .inl (fun _ => 0))), (q16, .inl (cT 0, 4096, .inl (fun _ => 0))), (q17, .inl (cT 0, 4096, .inl (fun _ => 0))), (q18, .inl (cT 0, 4096, .inl (fun _ => 0))), (q19, .inl (cT 1, 8, .inl (upd (upd (fun _ => 0) 0 4) 1 4))), (q20, .inl (cT 0, 4096, .inl (fun _ => 0))), (q21, .inl (cT 0, 4096, .inl (fun _ => 0)))] H := ⟨hP, hD⟩
  refine lv_iinc (v := 1) (lv' := [(2, .int 1), (1, .int 2), (0, .ref a0)]) hx hb dM_init_179 hl (k := 0) rfl (by decide) (by decide) rfl (fun ls hl => ?_)
  refine lv_goto (tgt := 159) hx hb dM_init_182 (by decide) ?_
  refine lv_iload_n hx hb dM_init_159 rfl (lv_at hl 0 rfl) ?_
  refine lv_iconst (v := 4) hx hb dM_init_160 (by decide) ?_
  refine lv_icmp_ge (tgt := 185) hx hb dM_init_161 (by decide) (fun h => ((by revert h; decide : False)).elim) (fun _ => ?_)
  refine lv_aload_n hx hb dM_init_164 rfl (lv_at hl 2 rfl) ?_
  refine va_get (D := D) (ci := 5) (v := .ref q10) (C := "ValueBenchModel") (T := TM) (N := 32) hx hb htx inM hown hK hP 0 rfl rfl 24 (by decide) (htx _ kw_5_111) (fun _ h9 => h9) rfl dM_init_165 ?_
  refine lv_iload_n hx hb dM_init_168 rfl (lv_at hl 1 rfl) ?_
  refine xx_aldA hx hb hK hP 10 5 rfl rfl (show ¬ ((2 : Int32) < 0 ∨ 8 ≤ (2 : Int32).toNatClampNeg) by decide) dM_init_169 ?_
  refine W.eq (g2 := F0 m 170 ls [.ref q13]) rfl ?_
  refine lv_iload_n hx hb dM_init_170 rfl (lv_at hl 0 rfl) ?_
  refine va_ldcS (q := aK 10) hx hb hown (hZ.2.2.2.2.2.2.2.2.1 ("ValueBenchModel", 69, "null", 10) (List.mem_of_getElem? (i := 17) rfl)) dM_init_171 ?_
  refine lv_iload_n hx hb dM_init_173 rfl (lv_at hl 0 rfl) ?_
  obtain ⟨hPc, hDc, hFc⟩ := xcut (wc := []) hP hD hS hA [] rfl rfl (by decide)
  refine va_calli (va_runV (C := "java/lang/String") (As := [.int 1]) (rest := [.int 1, .ref q13]) ⟨hx, hb, hml, hown, htx⟩ (cJS_charAt_1 l hl9 D cT aK aV H.size) ⟨callB_of 1 htx (xw_goodC kw_2_80) rfl rfl rfl (htx _ kw_1_6) (htx _ kw_5_86) ⟨by decide, by decide, by decide +kernel⟩ ⟨Nat.le_of_ble_eq_true rfl, Nat.le_of_ble_eq_true rfl⟩, (htx _ kw_2_78), (htx _ kw_2_79)⟩ ⟨xPre_blind, vk_recv hZ.2.2.2.2.2.2.2.2.2.1 (i := 10) (by decide) hS, (fun U hU hW => ⟨rfl, xPre_of hZ hS hFc hPc hDc hK U hU hW⟩)⟩ rfl rfl hl.1 rfl (lv_room (Nat.le_of_ble_eq_true rfl)) dM_init_174 ⟨Nat.le_of_ble_eq_true rfl, Nat.le_of_ble_eq_true rfl⟩) hS (fun q _ h => hFc q h) hFc (fun r31 u9 t H1 locs ht hvm hr9 hB hz1 hk1 hS => ?_)
  obtain ⟨hP1, hK1, hD1⟩ := hB
  rw [ht] at hP1
  obtain ⟨hP, hD⟩ := xjoin (W := [(a0, .inr (5, [v1, .ref q1, v3, .ref q2, v5, .ref q3, .ref q4, v8, v9, v10, .ref q5, .ref q6, v13, .ref q7, .ref q8, v16, v17, v18, v19, .int 40, .int (-1), .ref q9, v23, .int 1000000000, .ref q10, .ref q19, .ref q20, v28, .ref q21, v30, v31, .int (-1)])), (q1, .inl (cT 4, 1024, .inr (.inr (.inr (.inr (fun _ => none)))))), (q2, .inl (cT 0, 4096, .inl (fun _ => 0))), (q3, .inl (cT 4, 1024, .inr (.inr (.inr (.inr (fun _ => none)))))), (q4, .inl (cT 4, 1024, .inr (.inr (.inr (.inr (fun _ => none)))))), (q5, .inl (cT 4, 256, .inr (.inr (.inr (.inr (fun _ => none)))))), (q6, .inl (cT 4, 256, .inr (.inr (.inr (.inr (fun _ => none)))))), (q7, .inl (cT 1, 64, .inl (fun _ => 0))), (q8, .inl (cT 1, 64, .inl (fun _ => 0))), (q9, .inl (cT 0, 1024, .inl (fun _ => 0))), (q10, .inl (cT 5, 8, .inr (.inr (.inr (.inr (x8 q11 q12 q13 q14 q15 q16 q17 q18)))))), (q11, .inl (cT 0, 4096, .inl (upd (upd (upd (upd (fun _ => 0) 0 110) 1 117) 2 108) 3 108))), (q12, .inl (cT 0, 4096, .inl (upd (upd (upd (upd (fun _ => 0) 0 110) 1 117) 2 108) 3 108))), (q13, .inl (cT 0, 4096, .inl (upd (fun _ => 0) 0 110))), (q14, .inl (cT 0, 4096, .inl (fun _ => 0))), (q15, .inl (cT 0, 4096, .inl (fun _ => 0))), (q16, .inl (cT 0, 4096, .inl (fun _ => 0))), (q17, .inl (cT 0, 4096, .inl (fun _ => 0))), (q18, .inl (cT 0, 4096, .inl (fun _ => 0))), (q19, .inl (cT 1, 8, .inl (upd (upd (fun _ => 0) 0 4) 1 4))), (q20, .inl (cT 0, 4096, .inl (fun _ => 0))), (q21, .inl (cT 0, 4096, .inl (fun _ => 0)))]) hP hD [] [0, 1, 2, 3, 4, 5, 6, 7, 8, 9, 10, 11, 12, 13, 14, 15, 16, 17, 18, 19, 20, 21] 22 rfl rfl (by decide) (by decide) hk1 hFc hP1 hD1
  generalize H1 = H at hP hS ⊢
  rw [hr9]
  refine W.eq (g2 := F0 m 177 ls [.int 117, .int 1, .ref q13]) rfl ?_
  refine lv_i2b hx hb dM_init_177 rfl ?_
  refine W.eq (g2 := F0 m 178 ls [.int 117, .int 1, .ref q13]) rfl ?_
  refine va_bast hx hb hK hP hD hS 13 0 rfl rfl (show ¬ ((1 : Int32) < 0 ∨ 4096 ≤ (1 : Int32).toNatClampNeg) by decide) dM_init_178 (fun H locs hP hD hS => ?_)
  obtain ⟨hP, hD⟩ : xPD D xcl A [(a0, .inr (5, [v1, .ref q1, v3, .ref q2, v5, .ref q3, .ref q4, v8, v9, v10, .ref q5, .ref q6, v13, .ref q7, .ref q8, v16, v17, v18, v19, .int 40, .int (-1), .ref q9, v23, .int 1000000000, .ref q10, .ref q19, .ref q20, v28, .ref q21, v30, v31, .int (-1)])), (q1, .inl (cT 4, 1024, .inr (.inr (.inr (.inr (fun _ => none)))))), (q2, .inl (cT 0, 4096, .inl (fun _ => 0))), (q3, .inl (cT 4, 1024, .inr (.inr (.inr (.inr (fun _ => none)))))), (q4, .inl (cT 4, 1024, .inr (.inr (.inr (.inr (fun _ => none)))))), (q5, .inl (cT 4, 256, .inr (.inr (.inr (.inr (fun _ => none)))))), (q6, .inl (cT 4, 256, .inr (.inr (.inr (.inr (fun _ => none)))))), (q7, .inl (cT 1, 64, .inl (fun _ => 0))), (q8, .inl (cT 1, 64, .inl (fun _ => 0))), (q9, .inl (cT 0, 1024, .inl (fun _ => 0))), (q10, .inl (cT 5, 8, .inr (.inr (.inr (.inr (x8 q11 q12 q13 q14 q15 q16 q17 q18)))))), (q11, .inl (cT 0, 4096, .inl (upd (upd (upd (upd (fun _ => 0) 0 110) 1 117) 2 108) 3 108))), (q12, .inl (cT 0, 4096, .inl (upd (upd (upd (upd (fun _ => 0) 0 110) 1 117) 2 108) 3 108))), (q13, .inl (cT 0, 4096, .inl (upd (upd (fun _ => 0) 0 110) 1 117))), (q14, .inl (cT 0, 4096, .inl (fun _ => 0))), (q15, .inl (cT 0, 4096, .inl (fun _ => 0))), (q16, .inl (cT 0, 4096, .inl (fun _ => 0))), (q17, .inl (cT 0, 4096, .inl (fun _ => 0))), (q18, .inl (cT 0, 4096, .inl (fun _ => 0))), (q19, .inl (cT 1, 8, .inl (upd (upd (fun _ => 0) 0 4) 1 4))), (q20, .inl (cT 0, 4096, .inl (fun _ => 0))), (q21, .inl (cT 0, 4096, .inl (fun _ => 0)))] H := ⟨hP, hD⟩
  refine lv_iinc (v := 2) (lv' := [(2, .int 2), (1, .int 2), (0, .ref a0)]) hx hb dM_init_179 hl (k := 0) rfl (by decide) (by decide) rfl (fun ls hl => ?_)
  refine lv_goto (tgt := 159) hx hb dM_init_182 (by decide) ?_
  refine lv_iload_n hx hb dM_init_159 rfl (lv_at hl 0 rfl) ?_
  refine lv_iconst (v := 4) hx hb dM_init_160 (by decide) ?_
  refine lv_icmp_ge (tgt := 185) hx hb dM_init_161 (by decide) (fun h => ((by revert h; decide : False)).elim) (fun _ => ?_)
  refine lv_aload_n hx hb dM_init_164 rfl (lv_at hl 2 rfl) ?_
  refine va_get (D := D) (ci := 5) (v := .ref q10) (C := "ValueBenchModel") (T := TM) (N := 32) hx hb htx inM hown hK hP 0 rfl rfl 24 (by decide) (htx _ kw_5_111) (fun _ h9 => h9) rfl dM_init_165 ?_
  refine lv_iload_n hx hb dM_init_168 rfl (lv_at hl 1 rfl) ?_
  refine xx_aldA hx hb hK hP 10 5 rfl rfl (show ¬ ((2 : Int32) < 0 ∨ 8 ≤ (2 : Int32).toNatClampNeg) by decide) dM_init_169 ?_
  refine W.eq (g2 := F0 m 170 ls [.ref q13]) rfl ?_
  refine lv_iload_n hx hb dM_init_170 rfl (lv_at hl 0 rfl) ?_
  refine va_ldcS (q := aK 10) hx hb hown (hZ.2.2.2.2.2.2.2.2.1 ("ValueBenchModel", 69, "null", 10) (List.mem_of_getElem? (i := 17) rfl)) dM_init_171 ?_
  refine lv_iload_n hx hb dM_init_173 rfl (lv_at hl 0 rfl) ?_
  obtain ⟨hPc, hDc, hFc⟩ := xcut (wc := []) hP hD hS hA [] rfl rfl (by decide)
  refine va_calli (va_runV (C := "java/lang/String") (As := [.int 2]) (rest := [.int 2, .ref q13]) ⟨hx, hb, hml, hown, htx⟩ (cJS_charAt_2 l hl9 D cT aK aV H.size) ⟨callB_of 1 htx (xw_goodC kw_2_80) rfl rfl rfl (htx _ kw_1_6) (htx _ kw_5_86) ⟨by decide, by decide, by decide +kernel⟩ ⟨Nat.le_of_ble_eq_true rfl, Nat.le_of_ble_eq_true rfl⟩, (htx _ kw_2_78), (htx _ kw_2_79)⟩ ⟨xPre_blind, vk_recv hZ.2.2.2.2.2.2.2.2.2.1 (i := 10) (by decide) hS, (fun U hU hW => ⟨rfl, xPre_of hZ hS hFc hPc hDc hK U hU hW⟩)⟩ rfl rfl hl.1 rfl (lv_room (Nat.le_of_ble_eq_true rfl)) dM_init_174 ⟨Nat.le_of_ble_eq_true rfl, Nat.le_of_ble_eq_true rfl⟩) hS (fun q _ h => hFc q h) hFc (fun r32 u9 t H1 locs ht hvm hr9 hB hz1 hk1 hS => ?_)
  obtain ⟨hP1, hK1, hD1⟩ := hB
  rw [ht] at hP1
  obtain ⟨hP, hD⟩ := xjoin (W := [(a0, .inr (5, [v1, .ref q1, v3, .ref q2, v5, .ref q3, .ref q4, v8, v9, v10, .ref q5, .ref q6, v13, .ref q7, .ref q8, v16, v17, v18, v19, .int 40, .int (-1), .ref q9, v23, .int 1000000000, .ref q10, .ref q19, .ref q20, v28, .ref q21, v30, v31, .int (-1)])), (q1, .inl (cT 4, 1024, .inr (.inr (.inr (.inr (fun _ => none)))))), (q2, .inl (cT 0, 4096, .inl (fun _ => 0))), (q3, .inl (cT 4, 1024, .inr (.inr (.inr (.inr (fun _ => none)))))), (q4, .inl (cT 4, 1024, .inr (.inr (.inr (.inr (fun _ => none)))))), (q5, .inl (cT 4, 256, .inr (.inr (.inr (.inr (fun _ => none)))))), (q6, .inl (cT 4, 256, .inr (.inr (.inr (.inr (fun _ => none)))))), (q7, .inl (cT 1, 64, .inl (fun _ => 0))), (q8, .inl (cT 1, 64, .inl (fun _ => 0))), (q9, .inl (cT 0, 1024, .inl (fun _ => 0))), (q10, .inl (cT 5, 8, .inr (.inr (.inr (.inr (x8 q11 q12 q13 q14 q15 q16 q17 q18)))))), (q11, .inl (cT 0, 4096, .inl (upd (upd (upd (upd (fun _ => 0) 0 110) 1 117) 2 108) 3 108))), (q12, .inl (cT 0, 4096, .inl (upd (upd (upd (upd (fun _ => 0) 0 110) 1 117) 2 108) 3 108))), (q13, .inl (cT 0, 4096, .inl (upd (upd (fun _ => 0) 0 110) 1 117))), (q14, .inl (cT 0, 4096, .inl (fun _ => 0))), (q15, .inl (cT 0, 4096, .inl (fun _ => 0))), (q16, .inl (cT 0, 4096, .inl (fun _ => 0))), (q17, .inl (cT 0, 4096, .inl (fun _ => 0))), (q18, .inl (cT 0, 4096, .inl (fun _ => 0))), (q19, .inl (cT 1, 8, .inl (upd (upd (fun _ => 0) 0 4) 1 4))), (q20, .inl (cT 0, 4096, .inl (fun _ => 0))), (q21, .inl (cT 0, 4096, .inl (fun _ => 0)))]) hP hD [] [0, 1, 2, 3, 4, 5, 6, 7, 8, 9, 10, 11, 12, 13, 14, 15, 16, 17, 18, 19, 20, 21] 22 rfl rfl (by decide) (by decide) hk1 hFc hP1 hD1
  generalize H1 = H at hP hS ⊢
  rw [hr9]
  refine W.eq (g2 := F0 m 177 ls [.int 108, .int 2, .ref q13]) rfl ?_
  refine lv_i2b hx hb dM_init_177 rfl ?_
  refine W.eq (g2 := F0 m 178 ls [.int 108, .int 2, .ref q13]) rfl ?_
  refine va_bast hx hb hK hP hD hS 13 0 rfl rfl (show ¬ ((2 : Int32) < 0 ∨ 4096 ≤ (2 : Int32).toNatClampNeg) by decide) dM_init_178 (fun H locs hP hD hS => ?_)
  obtain ⟨hP, hD⟩ : xPD D xcl A [(a0, .inr (5, [v1, .ref q1, v3, .ref q2, v5, .ref q3, .ref q4, v8, v9, v10, .ref q5, .ref q6, v13, .ref q7, .ref q8, v16, v17, v18, v19, .int 40, .int (-1), .ref q9, v23, .int 1000000000, .ref q10, .ref q19, .ref q20, v28, .ref q21, v30, v31, .int (-1)])), (q1, .inl (cT 4, 1024, .inr (.inr (.inr (.inr (fun _ => none)))))), (q2, .inl (cT 0, 4096, .inl (fun _ => 0))), (q3, .inl (cT 4, 1024, .inr (.inr (.inr (.inr (fun _ => none)))))), (q4, .inl (cT 4, 1024, .inr (.inr (.inr (.inr (fun _ => none)))))), (q5, .inl (cT 4, 256, .inr (.inr (.inr (.inr (fun _ => none)))))), (q6, .inl (cT 4, 256, .inr (.inr (.inr (.inr (fun _ => none)))))), (q7, .inl (cT 1, 64, .inl (fun _ => 0))), (q8, .inl (cT 1, 64, .inl (fun _ => 0))), (q9, .inl (cT 0, 1024, .inl (fun _ => 0))), (q10, .inl (cT 5, 8, .inr (.inr (.inr (.inr (x8 q11 q12 q13 q14 q15 q16 q17 q18)))))), (q11, .inl (cT 0, 4096, .inl (upd (upd (upd (upd (fun _ => 0) 0 110) 1 117) 2 108) 3 108))), (q12, .inl (cT 0, 4096, .inl (upd (upd (upd (upd (fun _ => 0) 0 110) 1 117) 2 108) 3 108))), (q13, .inl (cT 0, 4096, .inl (upd (upd (upd (fun _ => 0) 0 110) 1 117) 2 108))), (q14, .inl (cT 0, 4096, .inl (fun _ => 0))), (q15, .inl (cT 0, 4096, .inl (fun _ => 0))), (q16, .inl (cT 0, 4096, .inl (fun _ => 0))), (q17, .inl (cT 0, 4096, .inl (fun _ => 0))), (q18, .inl (cT 0, 4096, .inl (fun _ => 0))), (q19, .inl (cT 1, 8, .inl (upd (upd (fun _ => 0) 0 4) 1 4))), (q20, .inl (cT 0, 4096, .inl (fun _ => 0))), (q21, .inl (cT 0, 4096, .inl (fun _ => 0)))] H := ⟨hP, hD⟩
  refine lv_iinc (v := 3) (lv' := [(2, .int 3), (1, .int 2), (0, .ref a0)]) hx hb dM_init_179 hl (k := 0) rfl (by decide) (by decide) rfl (fun ls hl => ?_)
  refine lv_goto (tgt := 159) hx hb dM_init_182 (by decide) ?_
  refine lv_iload_n hx hb dM_init_159 rfl (lv_at hl 0 rfl) ?_
  refine lv_iconst (v := 4) hx hb dM_init_160 (by decide) ?_
  refine lv_icmp_ge (tgt := 185) hx hb dM_init_161 (by decide) (fun h => ((by revert h; decide : False)).elim) (fun _ => ?_)
  refine lv_aload_n hx hb dM_init_164 rfl (lv_at hl 2 rfl) ?_
  refine va_get (D := D) (ci := 5) (v := .ref q10) (C := "ValueBenchModel") (T := TM) (N := 32) hx hb htx inM hown hK hP 0 rfl rfl 24 (by decide) (htx _ kw_5_111) (fun _ h9 => h9) rfl dM_init_165 ?_
  refine lv_iload_n hx hb dM_init_168 rfl (lv_at hl 1 rfl) ?_
  refine xx_aldA hx hb hK hP 10 5 rfl rfl (show ¬ ((2 : Int32) < 0 ∨ 8 ≤ (2 : Int32).toNatClampNeg) by decide) dM_init_169 ?_
  refine W.eq (g2 := F0 m 170 ls [.ref q13]) rfl ?_
  refine lv_iload_n hx hb dM_init_170 rfl (lv_at hl 0 rfl) ?_
  refine va_ldcS (q := aK 10) hx hb hown (hZ.2.2.2.2.2.2.2.2.1 ("ValueBenchModel", 69, "null", 10) (List.mem_of_getElem? (i := 17) rfl)) dM_init_171 ?_
  refine lv_iload_n hx hb dM_init_173 rfl (lv_at hl 0 rfl) ?_
  obtain ⟨hPc, hDc, hFc⟩ := xcut (wc := []) hP hD hS hA [] rfl rfl (by decide)
  refine va_calli (va_runV (C := "java/lang/String") (As := [.int 3]) (rest := [.int 3, .ref q13]) ⟨hx, hb, hml, hown, htx⟩ (cJS_charAt_3 l hl9 D cT aK aV H.size) ⟨callB_of 1 htx (xw_goodC kw_2_80) rfl rfl rfl (htx _ kw_1_6) (htx _ kw_5_86) ⟨by decide, by decide, by decide +kernel⟩ ⟨Nat.le_of_ble_eq_true rfl, Nat.le_of_ble_eq_true rfl⟩, (htx _ kw_2_78), (htx _ kw_2_79)⟩ ⟨xPre_blind, vk_recv hZ.2.2.2.2.2.2.2.2.2.1 (i := 10) (by decide) hS, (fun U hU hW => ⟨rfl, xPre_of hZ hS hFc hPc hDc hK U hU hW⟩)⟩ rfl rfl hl.1 rfl (lv_room (Nat.le_of_ble_eq_true rfl)) dM_init_174 ⟨Nat.le_of_ble_eq_true rfl, Nat.le_of_ble_eq_true rfl⟩) hS (fun q _ h => hFc q h) hFc (fun r33 u9 t H1 locs ht hvm hr9 hB hz1 hk1 hS => ?_)
  obtain ⟨hP1, hK1, hD1⟩ := hB
  rw [ht] at hP1
  obtain ⟨hP, hD⟩ := xjoin (W := [(a0, .inr (5, [v1, .ref q1, v3, .ref q2, v5, .ref q3, .ref q4, v8, v9, v10, .ref q5, .ref q6, v13, .ref q7, .ref q8, v16, v17, v18, v19, .int 40, .int (-1), .ref q9, v23, .int 1000000000, .ref q10, .ref q19, .ref q20, v28, .ref q21, v30, v31, .int (-1)])), (q1, .inl (cT 4, 1024, .inr (.inr (.inr (.inr (fun _ => none)))))), (q2, .inl (cT 0, 4096, .inl (fun _ => 0))), (q3, .inl (cT 4, 1024, .inr (.inr (.inr (.inr (fun _ => none)))))), (q4, .inl (cT 4, 1024, .inr (.inr (.inr (.inr (fun _ => none)))))), (q5, .inl (cT 4, 256, .inr (.inr (.inr (.inr (fun _ => none)))))), (q6, .inl (cT 4, 256, .inr (.inr (.inr (.inr (fun _ => none)))))), (q7, .inl (cT 1, 64, .inl (fun _ => 0))), (q8, .inl (cT 1, 64, .inl (fun _ => 0))), (q9, .inl (cT 0, 1024, .inl (fun _ => 0))), (q10, .inl (cT 5, 8, .inr (.inr (.inr (.inr (x8 q11 q12 q13 q14 q15 q16 q17 q18)))))), (q11, .inl (cT 0, 4096, .inl (upd (upd (upd (upd (fun _ => 0) 0 110) 1 117) 2 108) 3 108))), (q12, .inl (cT 0, 4096, .inl (upd (upd (upd (upd (fun _ => 0) 0 110) 1 117) 2 108) 3 108))), (q13, .inl (cT 0, 4096, .inl (upd (upd (upd (fun _ => 0) 0 110) 1 117) 2 108))), (q14, .inl (cT 0, 4096, .inl (fun _ => 0))), (q15, .inl (cT 0, 4096, .inl (fun _ => 0))), (q16, .inl (cT 0, 4096, .inl (fun _ => 0))), (q17, .inl (cT 0, 4096, .inl (fun _ => 0))), (q18, .inl (cT 0, 4096, .inl (fun _ => 0))), (q19, .inl (cT 1, 8, .inl (upd (upd (fun _ => 0) 0 4) 1 4))), (q20, .inl (cT 0, 4096, .inl (fun _ => 0))), (q21, .inl (cT 0, 4096, .inl (fun _ => 0)))]) hP hD [] [0, 1, 2, 3, 4, 5, 6, 7, 8, 9, 10, 11, 12, 13, 14, 15, 16, 17, 18, 19, 20, 21] 22 rfl rfl (by decide) (by decide) hk1 hFc hP1 hD1
  generalize H1 = H at hP hS ⊢
  rw [hr9]
  refine W.eq (g2 := F0 m 177 ls [.int 108, .int 3, .ref q13]) rfl ?_
  refine lv_i2b hx hb dM_init_177 rfl ?_
  refine W.eq (g2 := F0 m 178 ls [.int 108, .int 3, .ref q13]) rfl ?_
  refine va_bast hx hb hK hP hD hS 13 0 rfl rfl (show ¬ ((3 : Int32) < 0 ∨ 4096 ≤ (3 : Int32).toNatClampNeg) by decide) dM_init_178 (fun H locs hP hD hS => ?_)
  obtain ⟨hP, hD⟩ : xPD D xcl A [(a0, .inr (5, [v1, .ref q1, v3, .ref q2, v5, .ref q3, .ref q4, v8, v9, v10, .ref q5, .ref q6, v13, .ref q7, .ref q8, v16, v17, v18, v19, .int 40, .int (-1), .ref q9, v23, .int 1000000000, .ref q10, .ref q19, .ref q20, v28, .ref q21, v30, v31, .int (-1)])), (q1, .inl (cT 4, 1024, .inr (.inr (.inr (.inr (fun _ => none)))))), (q2, .inl (cT 0, 4096, .inl (fun _ => 0))), (q3, .inl (cT 4, 1024, .inr (.inr (.inr (.inr (fun _ => none)))))), (q4, .inl (cT 4, 1024, .inr (.inr (.inr (.inr (fun _ => none)))))), (q5, .inl (cT 4, 256, .inr (.inr (.inr (.inr (fun _ => none)))))), (q6, .inl (cT 4, 256, .inr (.inr (.inr (.inr (fun _ => none)))))), (q7, .inl (cT 1, 64, .inl (fun _ => 0))), (q8, .inl (cT 1, 64, .inl (fun _ => 0))), (q9, .inl (cT 0, 1024, .inl (fun _ => 0))), (q10, .inl (cT 5, 8, .inr (.inr (.inr (.inr (x8 q11 q12 q13 q14 q15 q16 q17 q18)))))), (q11, .inl (cT 0, 4096, .inl (upd (upd (upd (upd (fun _ => 0) 0 110) 1 117) 2 108) 3 108))), (q12, .inl (cT 0, 4096, .inl (upd (upd (upd (upd (fun _ => 0) 0 110) 1 117) 2 108) 3 108))), (q13, .inl (cT 0, 4096, .inl (upd (upd (upd (upd (fun _ => 0) 0 110) 1 117) 2 108) 3 108))), (q14, .inl (cT 0, 4096, .inl (fun _ => 0))), (q15, .inl (cT 0, 4096, .inl (fun _ => 0))), (q16, .inl (cT 0, 4096, .inl (fun _ => 0))), (q17, .inl (cT 0, 4096, .inl (fun _ => 0))), (q18, .inl (cT 0, 4096, .inl (fun _ => 0))), (q19, .inl (cT 1, 8, .inl (upd (upd (fun _ => 0) 0 4) 1 4))), (q20, .inl (cT 0, 4096, .inl (fun _ => 0))), (q21, .inl (cT 0, 4096, .inl (fun _ => 0)))] H := ⟨hP, hD⟩
  refine lv_iinc (v := 4) (lv' := [(2, .int 4), (1, .int 2), (0, .ref a0)]) hx hb dM_init_179 hl (k := 0) rfl (by decide) (by decide) rfl (fun ls hl => ?_)
  refine lv_goto (tgt := 159) hx hb dM_init_182 (by decide) ?_
  refine lv_iload_n hx hb dM_init_159 rfl (lv_at hl 0 rfl) ?_
  refine lv_iconst (v := 4) hx hb dM_init_160 (by decide) ?_
  refine lv_icmp_ge (tgt := 185) hx hb dM_init_161 (by decide) (fun _ => ?_) (fun h => ((by revert h; decide : False)).elim)
  refine lv_aload_n hx hb dM_init_185 rfl (lv_at hl 2 rfl) ?_
  refine va_get (D := D) (ci := 5) (v := .ref q19) (C := "ValueBenchModel") (T := TM) (N := 32) hx hb htx inM hown hK hP 0 rfl rfl 25 (by decide) (htx _ kw_5_112) (fun _ h9 => h9) rfl dM_init_186 ?_
  refine lv_iload_n hx hb dM_init_189 rfl (lv_at hl 1 rfl) ?_
  refine lv_iconst (v := 4) hx hb dM_init_190 (by decide) ?_
  refine va_iast hx hb hK hP hD hS 19 1 rfl rfl (show ¬ ((2 : Int32) < 0 ∨ 8 ≤ (2 : Int32).toNatClampNeg) by decide) dM_init_191 (fun H locs hP hD hS => ?_)
  obtain ⟨hP, hD⟩ : xPD D xcl A [(a0, .inr (5, [v1, .ref q1, v3, .ref q2, v5, .ref q3, .ref q4, v8, v9, v10, .ref q5, .ref q6, v13, .ref q7, .ref q8, v16, v17, v18, v19, .int 40, .int (-1), .ref q9, v23, .int 1000000000, .ref q10, .ref q19, .ref q20, v28, .ref q21, v30, v31, .int (-1)])), (q1, .inl (cT 4, 1024, .inr (.inr (.inr (.inr (fun _ => none)))))), (q2, .inl (cT 0, 4096, .inl (fun _ => 0))), (q3, .inl (cT 4, 1024, .inr (.inr (.inr (.inr (fun _ => none)))))), (q4, .inl (cT 4, 1024, .inr (.inr (.inr (.inr (fun _ => none)))))), (q5, .inl (cT 4, 256, .inr (.inr (.inr (.inr (fun _ => none)))))), (q6, .inl (cT 4, 256, .inr (.inr (.inr (.inr (fun _ => none)))))), (q7, .inl (cT 1, 64, .inl (fun _ => 0))), (q8, .inl (cT 1, 64, .inl (fun _ => 0))), (q9, .inl (cT 0, 1024, .inl (fun _ => 0))), (q10, .inl (cT 5, 8, .inr (.inr (.inr (.inr (x8 q11 q12 q13 q14 q15 q16 q17 q18)))))), (q11, .inl (cT 0, 4096, .inl (upd (upd (upd (upd (fun _ => 0) 0 110) 1 117) 2 108) 3 108))), (q12, .inl (cT 0, 4096, .inl (upd (upd (upd (upd (fun _ => 0) 0 110) 1 117) 2 108) 3 108))), (q13, .inl (cT 0, 4096, .inl (upd (upd (upd (upd (fun _ => 0) 0 110) 1 117) 2 108) 3 108))), (q14, .inl (cT 0, 4096, .inl (fun _ => 0))), (q15, .inl (cT 0, 4096, .inl (fun _ => 0))), (q16, .inl (cT 0, 4096, .inl (fun _ => 0))), (q17, .inl (cT 0, 4096, .inl (fun _ => 0))), (q18, .inl (cT 0, 4096, .inl (fun _ => 0))), (q19, .inl (cT 1, 8, .inl (upd (upd (upd (fun _ => 0) 0 4) 1 4) 2 4))), (q20, .inl (cT 0, 4096, .inl (fun _ => 0))), (q21, .inl (cT 0, 4096, .inl (fun _ => 0)))] H := ⟨hP, hD⟩
  refine lv_iinc (v := 3) (lv' := [(1, .int 3), (2, .int 4), (0, .ref a0)]) hx hb dM_init_192 hl (k := 1) rfl (by decide) (by decide) rfl (fun ls hl => ?_)
  refine lv_goto (tgt := 151) hx hb dM_init_195 (by decide) ?_
  refine lv_iload_n hx hb dM_init_151 rfl (lv_at hl 0 rfl) ?_
  refine lv_bipush (v := 8) hx hb dM_init_152 (by decide) ?_
  refine lv_icmp_ge (tgt := 198) hx hb dM_init_154 (by decide) (fun h => ((by revert h; decide : False)).elim) (fun _ => ?_)
  refine lv_iconst (v := 0) hx hb dM_init_157 (by decide) ?_
  refine lv_istore_n (lv' := [(2, .int 0), (1, .int 3), (0, .ref a0)]) hx hb dM_init_158 rfl hl (by decide) rfl (fun ls hl => ?_)
  refine lv_iload_n hx hb dM_init_159 rfl (lv_at hl 0 rfl) ?_
  refine lv_iconst (v := 4) hx hb dM_init_160 (by decide) ?_
  refine lv_icmp_ge (tgt := 185) hx hb dM_init_161 (by decide) (fun h => ((by revert h; decide : False)).elim) (fun _ => ?_)
  refine lv_aload_n hx hb dM_init_164 rfl (lv_at hl 2 rfl) ?_
  refine va_get (D := D) (ci := 5) (v := .ref q10) (C := "ValueBenchModel") (T := TM) (N := 32) hx hb htx inM hown hK hP 0 rfl rfl 24 (by decide) (htx _ kw_5_111) (fun _ h9 => h9) rfl dM_init_165 ?_
  refine lv_iload_n hx hb dM_init_168 rfl (lv_at hl 1 rfl) ?_
  refine xx_aldA hx hb hK hP 10 5 rfl rfl (show ¬ ((3 : Int32) < 0 ∨ 8 ≤ (3 : Int32).toNatClampNeg) by decide) dM_init_169 ?_
  refine W.eq (g2 := F0 m 170 ls [.ref q14]) rfl ?_
  refine lv_iload_n hx hb dM_init_170 rfl (lv_at hl 0 rfl) ?_
  refine va_ldcS (q := aK 10) hx hb hown (hZ.2.2.2.2.2.2.2.2.1 ("ValueBenchModel", 69, "null", 10) (List.mem_of_getElem? (i := 17) rfl)) dM_init_171 ?_
  refine lv_iload_n hx hb dM_init_173 rfl (lv_at hl 0 rfl) ?_
  obtain ⟨hPc, hDc, hFc⟩ := xcut (wc := []) hP hD hS hA [] rfl rfl (by decide)
  refine va_calli (va_runV (C := "java/lang/String") (As := [.int 0]) (rest := [.int 0, .ref q14]) ⟨hx, hb, hml, hown, htx⟩ (cJS_charAt_0 l hl9 D cT aK aV H.size) ⟨callB_of 1 htx (xw_goodC kw_2_80) rfl rfl rfl (htx _ kw_1_6) (htx _ kw_5_86) ⟨by decide, by decide, by decide +kernel⟩ ⟨Nat.le_of_ble_eq_true rfl, Nat.le_of_ble_eq_true rfl⟩, (htx _ kw_2_78), (htx _ kw_2_79)⟩ ⟨xPre_blind, vk_recv hZ.2.2.2.2.2.2.2.2.2.1 (i := 10) (by decide) hS, (fun U hU hW => ⟨rfl, xPre_of hZ hS hFc hPc hDc hK U hU hW⟩)⟩ rfl rfl hl.1 rfl (lv_room (Nat.le_of_ble_eq_true rfl)) dM_init_174 ⟨Nat.le_of_ble_eq_true rfl, Nat.le_of_ble_eq_true rfl⟩) hS (fun q _ h => hFc q h) hFc (fun r34 u9 t H1 locs ht hvm hr9 hB hz1 hk1 hS => ?_)
  obtain ⟨hP1, hK1, hD1⟩ := hB
  rw [ht] at hP1
  obtain ⟨hP, hD⟩ := xjoin (W := [(a0, .inr (5, [v1, .ref q1, v3, .ref q2, v5, .ref q3, .ref q4, v8, v9, v10, .ref q5, .ref q6, v13, .ref q7, .ref q8, v16, v17, v18, v19, .int 40, .int (-1), .ref q9, v23, .int 1000000000, .ref q10, .ref q19, .ref q20, v28, .ref q21, v30, v31, .int (-1)])), (q1, .inl (cT 4, 1024, .inr (.inr (.inr (.inr (fun _ => none)))))), (q2, .inl (cT 0, 4096, .inl (fun _ => 0))), (q3, .inl (cT 4, 1024, .inr (.inr (.inr (.inr (fun _ => none)))))), (q4, .inl (cT 4, 1024, .inr (.inr (.inr (.inr (fun _ => none)))))), (q5, .inl (cT 4, 256, .inr (.inr (.inr (.inr (fun _ => none)))))), (q6, .inl (cT 4, 256, .inr (.inr (.inr (.inr (fun _ => none)))))), (q7, .inl (cT 1, 64, .inl (fun _ => 0))), (q8, .inl (cT 1, 64, .inl (fun _ => 0))), (q9, .inl (cT 0, 1024, .inl (fun _ => 0))), (q10, .inl (cT 5, 8, .inr (.inr (.inr (.inr (x8 q11 q12 q13 q14 q15 q16 q17 q18)))))), (q11, .inl (cT 0, 4096, .inl (upd (upd (upd (upd (fun _ => 0) 0 110) 1 117) 2 108) 3 108))), (q12, .inl (cT 0, 4096, .inl (upd (upd (upd (upd (fun _ => 0) 0 110) 1 117) 2 108) 3 108))), (q13, .inl (cT 0, 4096, .inl (upd (upd (upd (upd (fun _ => 0) 0 110) 1 117) 2 108) 3 108))), (q14, .inl (cT 0, 4096, .inl (fun _ => 0))), (q15, .inl (cT 0, 4096, .inl (fun _ => 0))), (q16, .inl (cT 0, 4096, .inl (fun _ => 0))), (q17, .inl (cT 0, 4096, .inl (fun _ => 0))), (q18, .inl (cT 0, 4096, .inl (fun _ => 0))), (q19, .inl (cT 1, 8, .inl (upd (upd (upd (fun _ => 0) 0 4) 1 4) 2 4))), (q20, .inl (cT 0, 4096, .inl (fun _ => 0))), (q21, .inl (cT 0, 4096, .inl (fun _ => 0)))]) hP hD [] [0, 1, 2, 3, 4, 5, 6, 7, 8, 9, 10, 11, 12, 13, 14, 15, 16, 17, 18, 19, 20, 21] 22 rfl rfl (by decide) (by decide) hk1 hFc hP1 hD1
  generalize H1 = H at hP hS ⊢
  rw [hr9]
  refine W.eq (g2 := F0 m 177 ls [.int 110, .int 0, .ref q14]) rfl ?_
  refine lv_i2b hx hb dM_init_177 rfl ?_
  refine W.eq (g2 := F0 m 178 ls [.int 110, .int 0, .ref q14]) rfl ?_
  refine va_bast hx hb hK hP hD hS 14 0 rfl rfl (show ¬ ((0 : Int32) < 0 ∨ 4096 ≤ (0 : Int32).toNatClampNeg) by decide) dM_init_178 (fun H locs hP hD hS => ?_)
  obtain ⟨hP, hD⟩ : xPD D xcl A [(a0, .inr (5, [v1, .ref q1, v3, .ref q2, v5, .ref q3, .ref q4, v8, v9, v10, .ref q5, .ref q6, v13, .ref q7, .ref q8, v16, v17, v18, v19, .int 40, .int (-1), .ref q9, v23, .int 1000000000, .ref q10, .ref q19, .ref q20, v28, .ref q21, v30, v31, .int (-1)])), (q1, .inl (cT 4, 1024, .inr (.inr (.inr (.inr (fun _ => none)))))), (q2, .inl (cT 0, 4096, .inl (fun _ => 0))), (q3, .inl (cT 4, 1024, .inr (.inr (.inr (.inr (fun _ => none)))))), (q4, .inl (cT 4, 1024, .inr (.inr (.inr (.inr (fun _ => none)))))), (q5, .inl (cT 4, 256, .inr (.inr (.inr (.inr (fun _ => none)))))), (q6, .inl (cT 4, 256, .inr (.inr (.inr (.inr (fun _ => none)))))), (q7, .inl (cT 1, 64, .inl (fun _ => 0))), (q8, .inl (cT 1, 64, .inl (fun _ => 0))), (q9, .inl (cT 0, 1024, .inl (fun _ => 0))), (q10, .inl (cT 5, 8, .inr (.inr (.inr (.inr (x8 q11 q12 q13 q14 q15 q16 q17 q18)))))), (q11, .inl (cT 0, 4096, .inl (upd (upd (upd (upd (fun _ => 0) 0 110) 1 117) 2 108) 3 108))), (q12, .inl (cT 0, 4096, .inl (upd (upd (upd (upd (fun _ => 0) 0 110) 1 117) 2 108) 3 108))), (q13, .inl (cT 0, 4096, .inl (upd (upd (upd (upd (fun _ => 0) 0 110) 1 117) 2 108) 3 108))), (q14, .inl (cT 0, 4096, .inl (upd (fun _ => 0) 0 110))), (q15, .inl (cT 0, 4096, .inl (fun _ => 0))), (q16, .inl (cT 0, 4096, .inl (fun _ => 0))), (q17, .inl (cT 0, 4096, .inl (fun _ => 0))), (q18, .inl (cT 0, 4096, .inl (fun _ => 0))), (q19, .inl (cT 1, 8, .inl (upd (upd (upd (fun _ => 0) 0 4) 1 4) 2 4))), (q20, .inl (cT 0, 4096, .inl (fun _ => 0))), (q21, .inl (cT 0, 4096, .inl (fun _ => 0)))] H := ⟨hP, hD⟩
  refine lv_iinc (v := 1) (lv' := [(2, .int 1), (1, .int 3), (0, .ref a0)]) hx hb dM_init_179 hl (k := 0) rfl (by decide) (by decide) rfl (fun ls hl => ?_)
  refine lv_goto (tgt := 159) hx hb dM_init_182 (by decide) ?_
  refine lv_iload_n hx hb dM_init_159 rfl (lv_at hl 0 rfl) ?_
  refine lv_iconst (v := 4) hx hb dM_init_160 (by decide) ?_
  refine lv_icmp_ge (tgt := 185) hx hb dM_init_161 (by decide) (fun h => ((by revert h; decide : False)).elim) (fun _ => ?_)
  refine lv_aload_n hx hb dM_init_164 rfl (lv_at hl 2 rfl) ?_
  refine va_get (D := D) (ci := 5) (v := .ref q10) (C := "ValueBenchModel") (T := TM) (N := 32) hx hb htx inM hown hK hP 0 rfl rfl 24 (by decide) (htx _ kw_5_111) (fun _ h9 => h9) rfl dM_init_165 ?_
  refine lv_iload_n hx hb dM_init_168 rfl (lv_at hl 1 rfl) ?_
  refine xx_aldA hx hb hK hP 10 5 rfl rfl (show ¬ ((3 : Int32) < 0 ∨ 8 ≤ (3 : Int32).toNatClampNeg) by decide) dM_init_169 ?_
  refine W.eq (g2 := F0 m 170 ls [.ref q14]) rfl ?_
  refine lv_iload_n hx hb dM_init_170 rfl (lv_at hl 0 rfl) ?_
  refine va_ldcS (q := aK 10) hx hb hown (hZ.2.2.2.2.2.2.2.2.1 ("ValueBenchModel", 69, "null", 10) (List.mem_of_getElem? (i := 17) rfl)) dM_init_171 ?_
  refine lv_iload_n hx hb dM_init_173 rfl (lv_at hl 0 rfl) ?_
  obtain ⟨hPc, hDc, hFc⟩ := xcut (wc := []) hP hD hS hA [] rfl rfl (by decide)
  refine va_calli (va_runV (C := "java/lang/String") (As := [.int 1]) (rest := [.int 1, .ref q14]) ⟨hx, hb, hml, hown, htx⟩ (cJS_charAt_1 l hl9 D cT aK aV H.size) ⟨callB_of 1 htx (xw_goodC kw_2_80) rfl rfl rfl (htx _ kw_1_6) (htx _ kw_5_86) ⟨by decide, by decide, by decide +kernel⟩ ⟨Nat.le_of_ble_eq_true rfl, Nat.le_of_ble_eq_true rfl⟩, (htx _ kw_2_78), (htx _ kw_2_79)⟩ ⟨xPre_blind, vk_recv hZ.2.2.2.2.2.2.2.2.2.1 (i := 10) (by decide) hS, (fun U hU hW => ⟨rfl, xPre_of hZ hS hFc hPc hDc hK U hU hW⟩)⟩ rfl rfl hl.1 rfl (lv_room (Nat.le_of_ble_eq_true rfl)) dM_init_174 ⟨Nat.le_of_ble_eq_true rfl, Nat.le_of_ble_eq_true rfl⟩) hS (fun q _ h => hFc q h) hFc (fun r35 u9 t H1 locs ht hvm hr9 hB hz1 hk1 hS => ?_)
  obtain ⟨hP1, hK1, hD1⟩ := hB
  rw [ht] at hP1
  obtain ⟨hP, hD⟩ := xjoin (W := [(a0, .inr (5, [v1, .ref q1, v3, .ref q2, v5, .ref q3, .ref q4, v8, v9, v10, .ref q5, .ref q6, v13, .ref q7, .ref q8, v16, v17, v18, v19, .int 40, .int (-1), .ref q9, v23, .int 1000000000, .ref q10, .ref q19, .ref q20, v28, .ref q21, v30, v31, .int (-1)])), (q1, .inl (cT 4, 1024, .inr (.inr (.inr (.inr (fun _ => none)))))), (q2, .inl (cT 0, 4096, .inl (fun _ => 0))), (q3, .inl (cT 4, 1024, .inr (.inr (.inr (.inr (fun _ => none)))))), (q4, .inl (cT 4, 1024, .inr (.inr (.inr (.inr (fun _ => none)))))), (q5, .inl (cT 4, 256, .inr (.inr (.inr (.inr (fun _ => none)))))), (q6, .inl (cT 4, 256, .inr (.inr (.inr (.inr (fun _ => none)))))), (q7, .inl (cT 1, 64, .inl (fun _ => 0))), (q8, .inl (cT 1, 64, .inl (fun _ => 0))), (q9, .inl (cT 0, 1024, .inl (fun _ => 0))), (q10, .inl (cT 5, 8, .inr (.inr (.inr (.inr (x8 q11 q12 q13 q14 q15 q16 q17 q18)))))), (q11, .inl (cT 0, 4096, .inl (upd (upd (upd (upd (fun _ => 0) 0 110) 1 117) 2 108) 3 108))), (q12, .inl (cT 0, 4096, .inl (upd (upd (upd (upd (fun _ => 0) 0 110) 1 117) 2 108) 3 108))), (q13, .inl (cT 0, 4096, .inl (upd (upd (upd (upd (fun _ => 0) 0 110) 1 117) 2 108) 3 108))), (q14, .inl (cT 0, 4096, .inl (upd (fun _ => 0) 0 110))), (q15, .inl (cT 0, 4096, .inl (fun _ => 0))), (q16, .inl (cT 0, 4096, .inl (fun _ => 0))), (q17, .inl (cT 0, 4096, .inl (fun _ => 0))), (q18, .inl (cT 0, 4096, .inl (fun _ => 0))), (q19, .inl (cT 1, 8, .inl (upd (upd (upd (fun _ => 0) 0 4) 1 4) 2 4))), (q20, .inl (cT 0, 4096, .inl (fun _ => 0))), (q21, .inl (cT 0, 4096, .inl (fun _ => 0)))]) hP hD [] [0, 1, 2, 3, 4, 5, 6, 7, 8, 9, 10, 11, 12, 13, 14, 15, 16, 17, 18, 19, 20, 21] 22 rfl rfl (by decide) (by decide) hk1 hFc hP1 hD1
  generalize H1 = H at hP hS ⊢
  rw [hr9]
  refine W.eq (g2 := F0 m 177 ls [.int 117, .int 1, .ref q14]) rfl ?_
  refine lv_i2b hx hb dM_init_177 rfl ?_
  refine W.eq (g2 := F0 m 178 ls [.int 117, .int 1, .ref q14]) rfl ?_
  refine va_bast hx hb hK hP hD hS 14 0 rfl rfl (show ¬ ((1 : Int32) < 0 ∨ 4096 ≤ (1 : Int32).toNatClampNeg) by decide) dM_init_178 (fun H locs hP hD hS => ?_)
  obtain ⟨hP, hD⟩ : xPD D xcl A [(a0, .inr (5, [v1, .ref q1, v3, .ref q2, v5, .ref q3, .ref q4, v8, v9, v10, .ref q5, .ref q6, v13, .ref q7, .ref q8, v16, v17, v18, v19, .int 40, .int (-1), .ref q9, v23, .int 1000000000, .ref q10, .ref q19, .ref q20, v28, .ref q21, v30, v31, .int (-1)])), (q1, .inl (cT 4, 1024, .inr (.inr (.inr (.inr (fun _ => none)))))), (q2, .inl (cT 0, 4096, .inl (fun _ => 0))), (q3, .inl (cT 4, 1024, .inr (.inr (.inr (.inr (fun _ => none)))))), (q4, .inl (cT 4, 1024, .inr (.inr (.inr (.inr (fun _ => none)))))), (q5, .inl (cT 4, 256, .inr (.inr (.inr (.inr (fun _ => none)))))), (q6, .inl (cT 4, 256, .inr (.inr (.inr (.inr (fun _ => none)))))), (q7, .inl (cT 1, 64, .inl (fun _ => 0))), (q8, .inl (cT 1, 64, .inl (fun _ => 0))), (q9, .inl (cT 0, 1024, .inl (fun _ => 0))), (q10, .inl (cT 5, 8, .inr (.inr (.inr (.inr (x8 q11 q12 q13 q14 q15 q16 q17 q18)))))), (q11, .inl (cT 0, 4096, .inl (upd (upd (upd (upd (fun _ => 0) 0 110) 1 117) 2 108) 3 108))), (q12, .inl (cT 0, 4096, .inl (upd (upd (upd (upd (fun _ => 0) 0 110) 1 117) 2 108) 3 108))), (q13, .inl (cT 0, 4096, .inl (upd (upd (upd (upd (fun _ => 0) 0 110) 1 117) 2 108) 3 108))), (q14, .inl (cT 0, 4096, .inl (upd (upd (fun _ => 0) 0 110) 1 117))), (q15, .inl (cT 0, 4096, .inl (fun _ => 0))), (q16, .inl (cT 0, 4096, .inl (fun _ => 0))), (q17, .inl (cT 0, 4096, .inl (fun _ => 0))), (q18, .inl (cT 0, 4096, .inl (fun _ => 0))), (q19, .inl (cT 1, 8, .inl (upd (upd (upd (fun _ => 0) 0 4) 1 4) 2 4))), (q20, .inl (cT 0, 4096, .inl (fun _ => 0))), (q21, .inl (cT 0, 4096, .inl (fun _ => 0)))] H := ⟨hP, hD⟩
  refine lv_iinc (v := 2) (lv' := [(2, .int 2), (1, .int 3), (0, .ref a0)]) hx hb dM_init_179 hl (k := 0) rfl (by decide) (by decide) rfl (fun ls hl => ?_)
  refine lv_goto (tgt := 159) hx hb dM_init_182 (by decide) ?_
  refine lv_iload_n hx hb dM_init_159 rfl (lv_at hl 0 rfl) ?_
  refine lv_iconst (v := 4) hx hb dM_init_160 (by decide) ?_
  refine lv_icmp_ge (tgt := 185) hx hb dM_init_161 (by decide) (fun h => ((by revert h; decide : False)).elim) (fun _ => ?_)
  refine lv_aload_n hx hb dM_init_164 rfl (lv_at hl 2 rfl) ?_
  refine va_get (D := D) (ci := 5) (v := .ref q10) (C := "ValueBenchModel") (T := TM) (N := 32) hx hb htx inM hown hK hP 0 rfl rfl 24 (by decide) (htx _ kw_5_111) (fun _ h9 => h9) rfl dM_init_165 ?_
  refine lv_iload_n hx hb dM_init_168 rfl (lv_at hl 1 rfl) ?_
  refine xx_aldA hx hb hK hP 10 5 rfl rfl (show ¬ ((3 : Int32) < 0 ∨ 8 ≤ (3 : Int32).toNatClampNeg) by decide) dM_init_169 ?_
  refine W.eq (g2 := F0 m 170 ls [.ref q14]) rfl ?_
  refine lv_iload_n hx hb dM_init_170 rfl (lv_at hl 0 rfl) ?_
  refine va_ldcS (q := aK 10) hx hb hown (hZ.2.2.2.2.2.2.2.2.1 ("ValueBenchModel", 69, "null", 10) (List.mem_of_getElem? (i := 17) rfl)) dM_init_171 ?_
  refine lv_iload_n hx hb dM_init_173 rfl (lv_at hl 0 rfl) ?_
  obtain ⟨hPc, hDc, hFc⟩ := xcut (wc := []) hP hD hS hA [] rfl rfl (by decide)
  refine va_calli (va_runV (C := "java/lang/String") (As := [.int 2]) (rest := [.int 2, .ref q14]) ⟨hx, hb, hml, hown, htx⟩ (cJS_charAt_2 l hl9 D cT aK aV H.size) ⟨callB_of 1 htx (xw_goodC kw_2_80) rfl rfl rfl (htx _ kw_1_6) (htx _ kw_5_86) ⟨by decide, by decide, by decide +kernel⟩ ⟨Nat.le_of_ble_eq_true rfl, Nat.le_of_ble_eq_true rfl⟩, (htx _ kw_2_78), (htx _ kw_2_79)⟩ ⟨xPre_blind, vk_recv hZ.2.2.2.2.2.2.2.2.2.1 (i := 10) (by decide) hS, (fun U hU hW => ⟨rfl, xPre_of hZ hS hFc hPc hDc hK U hU hW⟩)⟩ rfl rfl hl.1 rfl (lv_room (Nat.le_of_ble_eq_true rfl)) dM_init_174 ⟨Nat.le_of_ble_eq_true rfl, Nat.le_of_ble_eq_true rfl⟩) hS (fun q _ h => hFc q h) hFc (fun r36 u9 t H1 locs ht hvm hr9 hB hz1 hk1 hS => ?_)
  obtain ⟨hP1, hK1, hD1⟩ := hB
  rw [ht] at hP1
  obtain ⟨hP, hD⟩ := xjoin (W := [(a0, .inr (5, [v1, .ref q1, v3, .ref q2, v5, .ref q3, .ref q4, v8, v9, v10, .ref q5, .ref q6, v13, .ref q7, .ref q8, v16, v17, v18, v19, .int 40, .int (-1), .ref q9, v23, .int 1000000000, .ref q10, .ref q19, .ref q20, v28, .ref q21, v30, v31, .int (-1)])), (q1, .inl (cT 4, 1024, .inr (.inr (.inr (.inr (fun _ => none)))))), (q2, .inl (cT 0, 4096, .inl (fun _ => 0))), (q3, .inl (cT 4, 1024, .inr (.inr (.inr (.inr (fun _ => none)))))), (q4, .inl (cT 4, 1024, .inr (.inr (.inr (.inr (fun _ => none)))))), (q5, .inl (cT 4, 256, .inr (.inr (.inr (.inr (fun _ => none)))))), (q6, .inl (cT 4, 256, .inr (.inr (.inr (.inr (fun _ => none)))))), (q7, .inl (cT 1, 64, .inl (fun _ => 0))), (q8, .inl (cT 1, 64, .inl (fun _ => 0))), (q9, .inl (cT 0, 1024, .inl (fun _ => 0))), (q10, .inl (cT 5, 8, .inr (.inr (.inr (.inr (x8 q11 q12 q13 q14 q15 q16 q17 q18)))))), (q11, .inl (cT 0, 4096, .inl (upd (upd (upd (upd (fun _ => 0) 0 110) 1 117) 2 108) 3 108))), (q12, .inl (cT 0, 4096, .inl (upd (upd (upd (upd (fun _ => 0) 0 110) 1 117) 2 108) 3 108))), (q13, .inl (cT 0, 4096, .inl (upd (upd (upd (upd (fun _ => 0) 0 110) 1 117) 2 108) 3 108))), (q14, .inl (cT 0, 4096, .inl (upd (upd (fun _ => 0) 0 110) 1 117))), (q15, .inl (cT 0, 4096, .inl (fun _ => 0))), (q16, .inl (cT 0, 4096, .inl (fun _ => 0))), (q17, .inl (cT 0, 4096, .inl (fun _ => 0))), (q18, .inl (cT 0, 4096, .inl (fun _ => 0))), (q19, .inl (cT 1, 8, .inl (upd (upd (upd (fun _ => 0) 0 4) 1 4) 2 4))), (q20, .inl (cT 0, 4096, .inl (fun _ => 0))), (q21, .inl (cT 0, 4096, .inl (fun _ => 0)))]) hP hD [] [0, 1, 2, 3, 4, 5, 6, 7, 8, 9, 10, 11, 12, 13, 14, 15, 16, 17, 18, 19, 20, 21] 22 rfl rfl (by decide) (by decide) hk1 hFc hP1 hD1
  generalize H1 = H at hP hS ⊢
  rw [hr9]
  refine W.eq (g2 := F0 m 177 ls [.int 108, .int 2, .ref q14]) rfl ?_
  refine lv_i2b hx hb dM_init_177 rfl ?_
  refine W.eq (g2 := F0 m 178 ls [.int 108, .int 2, .ref q14]) rfl ?_
  refine va_bast hx hb hK hP hD hS 14 0 rfl rfl (show ¬ ((2 : Int32) < 0 ∨ 4096 ≤ (2 : Int32).toNatClampNeg) by decide) dM_init_178 (fun H locs hP hD hS => ?_)
  obtain ⟨hP, hD⟩ : xPD D xcl A [(a0, .inr (5, [v1, .ref q1, v3, .ref q2, v5, .ref q3, .ref q4, v8, v9, v10, .ref q5, .ref q6, v13, .ref q7, .ref q8, v16, v17, v18, v19, .int 40, .int (-1), .ref q9, v23, .int 1000000000, .ref q10, .ref q19, .ref q20, v28, .ref q21, v30, v31, .int (-1)])), (q1, .inl (cT 4, 1024, .inr (.inr (.inr (.inr (fun _ => none)))))), (q2, .inl (cT 0, 4096, .inl (fun _ => 0))), (q3, .inl (cT 4, 1024, .inr (.inr (.inr (.inr (fun _ => none)))))), (q4, .inl (cT 4, 1024, .inr (.inr (.inr (.inr (fun _ => none)))))), (q5, .inl (cT 4, 256, .inr (.inr (.inr (.inr (fun _ => none)))))), (q6, .inl (cT 4, 256, .inr (.inr (.inr (.inr (fun _ => none)))))), (q7, .inl (cT 1, 64, .inl (fun _ => 0))), (q8, .inl (cT 1, 64, .inl (fun _ => 0))), (q9, .inl (cT 0, 1024, .inl (fun _ => 0))), (q10, .inl (cT 5, 8, .inr (.inr (.inr (.inr (x8 q11 q12 q13 q14 q15 q16 q17 q18)))))), (q11, .inl (cT 0, 4096, .inl (upd (upd (upd (upd (fun _ => 0) 0 110) 1 117) 2 108) 3 108))), (q12, .inl (cT 0, 4096, .inl (upd (upd (upd (upd (fun _ => 0) 0 110) 1 117) 2 108) 3 108))), (q13, .inl (cT 0, 4096, .inl (upd (upd (upd (upd (fun _ => 0) 0 110) 1 117) 2 108) 3 108))), (q14, .inl (cT 0, 4096, .inl (upd (upd (upd (fun _ => 0) 0 110) 1 117) 2 108))), (q15, .inl (cT 0, 4096, .inl (fun _ => 0))), (q16, .inl (cT 0, 4096, .inl (fun _ => 0))), (q17, .inl (cT 0, 4096, .inl (fun _ => 0))), (q18, .inl (cT 0, 4096, .inl (fun _ => 0))), (q19, .inl (cT 1, 8, .inl (upd (upd (upd (fun _ => 0) 0 4) 1 4) 2 4))), (q20, .inl (cT 0, 4096, .inl (fun _ => 0))), (q21, .inl (cT 0, 4096, .inl (fun _ => 0)))] H := ⟨hP, hD⟩
  refine lv_iinc (v := 3) (lv' := [(2, .int 3), (1, .int 3), (0, .ref a0)]) hx hb dM_init_179 hl (k := 0) rfl (by decide) (by decide) rfl (fun ls hl => ?_)
  refine lv_goto (tgt := 159) hx hb dM_init_182 (by decide) ?_
  refine lv_iload_n hx hb dM_init_159 rfl (lv_at hl 0 rfl) ?_
  refine lv_iconst (v := 4) hx hb dM_init_160 (by decide) ?_
  refine lv_icmp_ge (tgt := 185) hx hb dM_init_161 (by decide) (fun h => ((by revert h; decide : False)).elim) (fun _ => ?_)
  refine lv_aload_n hx hb dM_init_164 rfl (lv_at hl 2 rfl) ?_
  refine va_get (D := D) (ci := 5) (v := .ref q10) (C := "ValueBenchModel") (T := TM) (N := 32) hx hb htx inM hown hK hP 0 rfl rfl 24 (by decide) (htx _ kw_5_111) (fun _ h9 => h9) rfl dM_init_165 ?_
  refine lv_iload_n hx hb dM_init_168 rfl (lv_at hl 1 rfl) ?_
  refine xx_aldA hx hb hK hP 10 5 rfl rfl (show ¬ ((3 : Int32) < 0 ∨ 8 ≤ (3 : Int32).toNatClampNeg) by decide) dM_init_169 ?_
  refine W.eq (g2 := F0 m 170 ls [.ref q14]) rfl ?_
  refine lv_iload_n hx hb dM_init_170 rfl (lv_at hl 0 rfl) ?_
  refine va_ldcS (q := aK 10) hx hb hown (hZ.2.2.2.2.2.2.2.2.1 ("ValueBenchModel", 69, "null", 10) (List.mem_of_getElem? (i := 17) rfl)) dM_init_171 ?_
  refine lv_iload_n hx hb dM_init_173 rfl (lv_at hl 0 rfl) ?_
  obtain ⟨hPc, hDc, hFc⟩ := xcut (wc := []) hP hD hS hA [] rfl rfl (by decide)
  refine va_calli (va_runV (C := "java/lang/String") (As := [.int 3]) (rest := [.int 3, .ref q14]) ⟨hx, hb, hml, hown, htx⟩ (cJS_charAt_3 l hl9 D cT aK aV H.size) ⟨callB_of 1 htx (xw_goodC kw_2_80) rfl rfl rfl (htx _ kw_1_6) (htx _ kw_5_86) ⟨by decide, by decide, by decide +kernel⟩ ⟨Nat.le_of_ble_eq_true rfl, Nat.le_of_ble_eq_true rfl⟩, (htx _ kw_2_78), (htx _ kw_2_79)⟩ ⟨xPre_blind, vk_recv hZ.2.2.2.2.2.2.2.2.2.1 (i := 10) (by decide) hS, (fun U hU hW => ⟨rfl, xPre_of hZ hS hFc hPc hDc hK U hU hW⟩)⟩ rfl rfl hl.1 rfl (lv_room (Nat.le_of_ble_eq_true rfl)) dM_init_174 ⟨Nat.le_of_ble_eq_true rfl, Nat.le_of_ble_eq_true rfl⟩) hS (fun q _ h => hFc q h) hFc (fun r37 u9 t H1 locs ht hvm hr9 hB hz1 hk1 hS => ?_)
  obtain ⟨hP1, hK1, hD1⟩ := hB
  rw [ht] at hP1
  obtain ⟨hP, hD⟩ := xjoin (W := [(a0, .inr (5, [v1, .ref q1, v3, .ref q2, v5, .ref q3, .ref q4, v8, v9, v10, .ref q5, .ref q6, v13, .ref q7, .ref q8, v16, v17, v18, v19, .int 40, .int (-1), .ref q9, v23, .int 1000000000, .ref q10, .ref q19, .ref q20, v28, .ref q21, v30, v31, .int (-1)])), (q1, .inl (cT 4, 1024, .inr (.inr (.inr (.inr (fun _ => none)))))), (q2, .inl (cT 0, 4096, .inl (fun _ => 0))), (q3, .inl (cT 4, 1024, .inr (.inr (.inr (.inr (fun _ => none)))))), (q4, .inl (cT 4, 1024, .inr (.inr (.inr (.inr (fun _ => none)))))), (q5, .inl (cT 4, 256, .inr (.inr (.inr (.inr (fun _ => none)))))), (q6, .inl (cT 4, 256, .inr (.inr (.inr (.inr (fun _ => none)))))), (q7, .inl (cT 1, 64, .inl (fun _ => 0))), (q8, .inl (cT 1, 64, .inl (fun _ => 0))), (q9, .inl (cT 0, 1024, .inl (fun _ => 0))), (q10, .inl (cT 5, 8, .inr (.inr (.inr (.inr (x8 q11 q12 q13 q14 q15 q16 q17 q18)))))), (q11, .inl (cT 0, 4096, .inl (upd (upd (upd (upd (fun _ => 0) 0 110) 1 117) 2 108) 3 108))), (q12, .inl (cT 0, 4096, .inl (upd (upd (upd (upd (fun _ => 0) 0 110) 1 117) 2 108) 3 108))), (q13, .inl (cT 0, 4096, .inl (upd (upd (upd (upd (fun _ => 0) 0 110) 1 117) 2 108) 3 108))), (q14, .inl (cT 0, 4096, .inl (upd (upd (upd (fun _ => 0) 0 110) 1 117) 2 108))), (q15, .inl (cT 0, 4096, .inl (fun _ => 0))), (q16, .inl (cT 0, 4096, .inl (fun _ => 0))), (q17, .inl (cT 0, 4096, .inl (fun _ => 0))), (q18, .inl (cT 0, 4096, .inl (fun _ => 0))), (q19, .inl (cT 1, 8, .inl (upd (upd (upd (fun _ => 0) 0 4) 1 4) 2 4))), (q20, .inl (cT 0, 4096, .inl (fun _ => 0))), (q21, .inl (cT 0, 4096, .inl (fun _ => 0)))]) hP hD [] [0, 1, 2, 3, 4, 5, 6, 7, 8, 9, 10, 11, 12, 13, 14, 15, 16, 17, 18, 19, 20, 21] 22 rfl rfl (by decide) (by decide) hk1 hFc hP1 hD1
  generalize H1 = H at hP hS ⊢
  rw [hr9]
  refine W.eq (g2 := F0 m 177 ls [.int 108, .int 3, .ref q14]) rfl ?_
  refine lv_i2b hx hb dM_init_177 rfl ?_
  refine W.eq (g2 := F0 m 178 ls [.int 108, .int 3, .ref q14]) rfl ?_
  refine va_bast hx hb hK hP hD hS 14 0 rfl rfl (show ¬ ((3 : Int32) < 0 ∨ 4096 ≤ (3 : Int32).toNatClampNeg) by decide) dM_init_178 (fun H locs hP hD hS => ?_)
  obtain ⟨hP, hD⟩ : xPD D xcl A [(a0, .inr (5, [v1, .ref q1, v3, .ref q2, v5, .ref q3, .ref q4, v8, v9, v10, .ref q5, .ref q6, v13, .ref q7, .ref q8, v16, v17, v18, v19, .int 40, .int (-1), .ref q9, v23, .int 1000000000, .ref q10, .ref q19, .ref q20, v28, .ref q21, v30, v31, .int (-1)])), (q1, .inl (cT 4, 1024, .inr (.inr (.inr (.inr (fun _ => none)))))), (q2, .inl (cT 0, 4096, .inl (fun _ => 0))), (q3, .inl (cT 4, 1024, .inr (.inr (.inr (.inr (fun _ => none)))))), (q4, .inl (cT 4, 1024, .inr (.inr (.inr (.inr (fun _ => none)))))), (q5, .inl (cT 4, 256, .inr (.inr (.inr (.inr (fun _ => none)))))), (q6, .inl (cT 4, 256, .inr (.inr (.inr (.inr (fun _ => none)))))), (q7, .inl (cT 1, 64, .inl (fun _ => 0))), (q8, .inl (cT 1, 64, .inl (fun _ => 0))), (q9, .inl (cT 0, 1024, .inl (fun _ => 0))), (q10, .inl (cT 5, 8, .inr (.inr (.inr (.inr (x8 q11 q12 q13 q14 q15 q16 q17 q18)))))), (q11, .inl (cT 0, 4096, .inl (upd (upd (upd (upd (fun _ => 0) 0 110) 1 117) 2 108) 3 108))), (q12, .inl (cT 0, 4096, .inl (upd (upd (upd (upd (fun _ => 0) 0 110) 1 117) 2 108) 3 108))), (q13, .inl (cT 0, 4096, .inl (upd (upd (upd (upd (fun _ => 0) 0 110) 1 117) 2 108) 3 108))), (q14, .inl (cT 0, 4096, .inl (upd (upd (upd (upd (fun _ => 0) 0 110) 1 117) 2 108) 3 108))), (q15, .inl (cT 0, 4096, .inl (fun _ => 0))), (q16, .inl (cT 0, 4096, .inl (fun _ => 0))), (q17, .inl (cT 0, 4096, .inl (fun _ => 0))), (q18, .inl (cT 0, 4096, .inl (fun _ => 0))), (q19, .inl (cT 1, 8, .inl (upd (upd (upd (fun _ => 0) 0 4) 1 4) 2 4))), (q20, .inl (cT 0, 4096, .inl (fun _ => 0))), (q21, .inl (cT 0, 4096, .inl (fun _ => 0)))] H := ⟨hP, hD⟩
  refine lv_iinc (v := 4) (lv' := [(2, .int 4), (1, .int 3), (0, .ref a0)]) hx hb dM_init_179 hl (k := 0) rfl (by decide) (by decide) rfl (fun ls hl => ?_)
  refine lv_goto (tgt := 159) hx hb dM_init_182 (by decide) ?_
  refine lv_iload_n hx hb dM_init_159 rfl (lv_at hl 0 rfl) ?_
  refine lv_iconst (v := 4) hx hb dM_init_160 (by decide) ?_
  refine lv_icmp_ge (tgt := 185) hx hb dM_init_161 (by decide) (fun _ => ?_) (fun h => ((by revert h; decide : False)).elim)
  refine lv_aload_n hx hb dM_init_185 rfl (lv_at hl 2 rfl) ?_
  refine va_get (D := D) (ci := 5) (v := .ref q19) (C := "ValueBenchModel") (T := TM) (N := 32) hx hb htx inM hown hK hP 0 rfl rfl 25 (by decide) (htx _ kw_5_112) (fun _ h9 => h9) rfl dM_init_186 ?_
  refine lv_iload_n hx hb dM_init_189 rfl (lv_at hl 1 rfl) ?_
  refine lv_iconst (v := 4) hx hb dM_init_190 (by decide) ?_
  refine va_iast hx hb hK hP hD hS 19 1 rfl rfl (show ¬ ((3 : Int32) < 0 ∨ 8 ≤ (3 : Int32).toNatClampNeg) by decide) dM_init_191 (fun H locs hP hD hS => ?_)
  obtain ⟨hP, hD⟩ : xPD D xcl A [(a0, .inr (5, [v1, .ref q1, v3, .ref q2, v5, .ref q3, .ref q4, v8, v9, v10, .ref q5, .ref q6, v13, .ref q7, .ref q8, v16, v17, v18, v19, .int 40, .int (-1), .ref q9, v23, .int 1000000000, .ref q10, .ref q19, .ref q20, v28, .ref q21, v30, v31, .int (-1)])), (q1, .inl (cT 4, 1024, .inr (.inr (.inr (.inr (fun _ => none)))))), (q2, .inl (cT 0, 4096, .inl (fun _ => 0))), (q3, .inl (cT 4, 1024, .inr (.inr (.inr (.inr (fun _ => none)))))), (q4, .inl (cT 4, 1024, .inr (.inr (.inr (.inr (fun _ => none)))))), (q5, .inl (cT 4, 256, .inr (.inr (.inr (.inr (fun _ => none)))))), (q6, .inl (cT 4, 256, .inr (.inr (.inr (.inr (fun _ => none)))))), (q7, .inl (cT 1, 64, .inl (fun _ => 0))), (q8, .inl (cT 1, 64, .inl (fun _ => 0))), (q9, .inl (cT 0, 1024, .inl (fun _ => 0))), (q10, .inl (cT 5, 8, .inr (.inr (.inr (.inr (x8 q11 q12 q13 q14 q15 q16 q17 q18)))))), (q11, .inl (cT 0, 4096, .inl (upd (upd (upd (upd (fun _ => 0) 0 110) 1 117) 2 108) 3 108))), (q12, .inl (cT 0, 4096, .inl (upd (upd (upd (upd (fun _ => 0) 0 110) 1 117) 2 108) 3 108))), (q13, .inl (cT 0, 4096, .inl (upd (upd (upd (upd (fun _ => 0) 0 110) 1 117) 2 108) 3 108))), (q14, .inl (cT 0, 4096, .inl (upd (upd (upd (upd (fun _ => 0) 0 110) 1 117) 2 108) 3 108))), (q15, .inl (cT 0, 4096, .inl (fun _ => 0))), (q16, .inl (cT 0, 4096, .inl (fun _ => 0))), (q17, .inl (cT 0, 4096, .inl (fun _ => 0))), (q18, .inl (cT 0, 4096, .inl (fun _ => 0))), (q19, .inl (cT 1, 8, .inl (upd (upd (upd (upd (fun _ => 0) 0 4) 1 4) 2 4) 3 4))), (q20, .inl (cT 0, 4096, .inl (fun _ => 0))), (q21, .inl (cT 0, 4096, .inl (fun _ => 0)))] H := ⟨hP, hD⟩
  refine lv_iinc (v := 4) (lv' := [(1, .int 4), (2, .int 4), (0, .ref a0)]) hx hb dM_init_192 hl (k := 1) rfl (by decide) (by decide) rfl (fun ls hl => ?_)
  refine lv_goto (tgt := 151) hx hb dM_init_195 (by decide) ?_
  refine lv_iload_n hx hb dM_init_151 rfl (lv_at hl 0 rfl) ?_
  refine lv_bipush (v := 8) hx hb dM_init_152 (by decide) ?_
  refine lv_icmp_ge (tgt := 198) hx hb dM_init_154 (by decide) (fun h => ((by revert h; decide : False)).elim) (fun _ => ?_)
  refine lv_iconst (v := 0) hx hb dM_init_157 (by decide) ?_
  refine lv_istore_n (lv' := [(2, .int 0), (1, .int 4), (0, .ref a0)]) hx hb dM_init_158 rfl hl (by decide) rfl (fun ls hl => ?_)
  refine lv_iload_n hx hb dM_init_159 rfl (lv_at hl 0 rfl) ?_
  refine lv_iconst (v := 4) hx hb dM_init_160 (by decide) ?_
  refine lv_icmp_ge (tgt := 185) hx hb dM_init_161 (by decide) (fun h => ((by revert h; decide : False)).elim) (fun _ => ?_)
  refine lv_aload_n hx hb dM_init_164 rfl (lv_at hl 2 rfl) ?_
  refine va_get (D := D) (ci := 5) (v := .ref q10) (C := "ValueBenchModel") (T := TM) (N := 32) hx hb htx inM hown hK hP 0 rfl rfl 24 (by decide) (htx _ kw_5_111) (fun _ h9 => h9) rfl dM_init_165 ?_
  refine lv_iload_n hx hb dM_init_168 rfl (lv_at hl 1 rfl) ?_
  refine xx_aldA hx hb hK hP 10 5 rfl rfl (show ¬ ((4 : Int32) < 0 ∨ 8 ≤ (4 : Int32).toNatClampNeg) by decide) dM_init_169 ?_
  refine W.eq (g2 := F0 m 170 ls [.ref q15]) rfl ?_
  refine lv_iload_n hx hb dM_init_170 rfl (lv_at hl 0 rfl) ?_
  refine va_ldcS (q := aK 10) hx hb hown (hZ.2.2.2.2.2.2.2.2.1 ("ValueBenchModel", 69, "null", 10) (List.mem_of_getElem? (i := 17) rfl)) dM_init_171 ?_
  refine lv_iload_n hx hb dM_init_173 rfl (lv_at hl 0 rfl) ?_
  obtain ⟨hPc, hDc, hFc⟩ := xcut (wc := []) hP hD hS hA [] rfl rfl (by decide)
  refine va_calli (va_runV (C := "java/lang/String") (As := [.int 0]) (rest := [.int 0, .ref q15]) ⟨hx, hb, hml, hown, htx⟩ (cJS_charAt_0 l hl9 D cT aK aV H.size) ⟨callB_of 1 htx (xw_goodC kw_2_80) rfl rfl rfl (htx _ kw_1_6) (htx _ kw_5_86) ⟨by decide, by decide, by decide +kernel⟩ ⟨Nat.le_of_ble_eq_true rfl, Nat.le_of_ble_eq_true rfl⟩, (htx _ kw_2_78), (htx _ kw_2_79)⟩ ⟨xPre_blind, vk_recv hZ.2.2.2.2.2.2.2.2.2.1 (i := 10) (by decide) hS, (fun U hU hW => ⟨rfl, xPre_of hZ hS hFc hPc hDc hK U hU hW⟩)⟩ rfl rfl hl.1 rfl (lv_room (Nat.le_of_ble_eq_true rfl)) dM_init_174 ⟨Nat.le_of_ble_eq_true rfl, Nat.le_of_ble_eq_true rfl⟩) hS (fun q _ h => hFc q h) hFc (fun r38 u9 t H1 locs ht hvm hr9 hB hz1 hk1 hS => ?_)
  obtain ⟨hP1, hK1, hD1⟩ := hB
  rw [ht] at hP1
  obtain ⟨hP, hD⟩ := xjoin (W := [(a0, .inr (5, [v1, .ref q1, v3, .ref q2, v5, .ref q3, .ref q4, v8, v9, v10, .ref q5, .ref q6, v13, .ref q7, .ref q8, v16, v17, v18, v19, .int 40, .int (-1), .ref q9, v23, .int 1000000000, .ref q10, .ref q19, .ref q20, v28, .ref q21, v30, v31, .int (-1)])), (q1, .inl (cT 4, 1024, .inr (.inr (.inr (.inr (fun _ => none)))))), (q2, .inl (cT 0, 4096, .inl (fun _ => 0))), (q3, .inl (cT 4, 1024, .inr (.inr (.inr (.inr (fun _ => none)))))), (q4, .inl (cT 4, 1024, .inr (.inr (.inr (.inr (fun _ => none)))))), (q5, .inl (cT 4, 256, .inr (.inr (.inr (.inr (fun _ => none)))))), (q6, .inl (cT 4, 256, .inr (.inr (.inr (.inr (fun _ => none)))))), (q7, .inl (cT 1, 64, .inl (fun _ => 0))), (q8, .inl (cT 1, 64, .inl (fun _ => 0))), (q9, .inl (cT 0, 1024, .inl (fun _ => 0))), (q10, .inl (cT 5, 8, .inr (.inr (.inr (.inr (x8 q11 q12 q13 q14 q15 q16 q17 q18)))))), (q11, .inl (cT 0, 4096, .inl (upd (upd (upd (upd (fun _ => 0) 0 110) 1 117) 2 108) 3 108))), (q12, .inl (cT 0, 4096, .inl (upd (upd (upd (upd (fun _ => 0) 0 110) 1 117) 2 108) 3 108))), (q13, .inl (cT 0, 4096, .inl (upd (upd (upd (upd (fun _ => 0) 0 110) 1 117) 2 108) 3 108))), (q14, .inl (cT 0, 4096, .inl (upd (upd (upd (upd (fun _ => 0) 0 110) 1 117) 2 108) 3 108))), (q15, .inl (cT 0, 4096, .inl (fun _ => 0))), (q16, .inl (cT 0, 4096, .inl (fun _ => 0))), (q17, .inl (cT 0, 4096, .inl (fun _ => 0))), (q18, .inl (cT 0, 4096, .inl (fun _ => 0))), (q19, .inl (cT 1, 8, .inl (upd (upd (upd (upd (fun _ => 0) 0 4) 1 4) 2 4) 3 4))), (q20, .inl (cT 0, 4096, .inl (fun _ => 0))), (q21, .inl (cT 0, 4096, .inl (fun _ => 0)))]) hP hD [] [0, 1, 2, 3, 4, 5, 6, 7, 8, 9, 10, 11, 12, 13, 14, 15, 16, 17, 18, 19, 20, 21] 22 rfl rfl (by decide) (by decide) hk1 hFc hP1 hD1
  generalize H1 = H at hP hS ⊢
  rw [hr9]
  refine W.eq (g2 := F0 m 177 ls [.int 110, .int 0, .ref q15]) rfl ?_
  refine lv_i2b hx hb dM_init_177 rfl ?_
  refine W.eq (g2 := F0 m 178 ls [.int 110, .int 0, .ref q15]) rfl ?_
  refine va_bast hx hb hK hP hD hS 15 0 rfl rfl (show ¬ ((0 : Int32) < 0 ∨ 4096 ≤ (0 : Int32).toNatClampNeg) by decide) dM_init_178 (fun H locs hP hD hS => ?_)
  obtain ⟨hP, hD⟩ : xPD D xcl A [(a0, .inr (5, [v1, .ref q1, v3, .ref q2, v5, .ref q3, .ref q4, v8, v9, v10, .ref q5, .ref q6, v13, .ref q7, .ref q8, v16, v17, v18, v19, .int 40, .int (-1), .ref q9, v23, .int 1000000000, .ref q10, .ref q19, .ref q20, v28, .ref q21, v30, v31, .int (-1)])), (q1, .inl (cT 4, 1024, .inr (.inr (.inr (.inr (fun _ => none)))))), (q2, .inl (cT 0, 4096, .inl (fun _ => 0))), (q3, .inl (cT 4, 1024, .inr (.inr (.inr (.inr (fun _ => none)))))), (q4, .inl (cT 4, 1024, .inr (.inr (.inr (.inr (fun _ => none)))))), (q5, .inl (cT 4, 256, .inr (.inr (.inr (.inr (fun _ => none)))))), (q6, .inl (cT 4, 256, .inr (.inr (.inr (.inr (fun _ => none)))))), (q7, .inl (cT 1, 64, .inl (fun _ => 0))), (q8, .inl (cT 1, 64, .inl (fun _ => 0))), (q9, .inl (cT 0, 1024, .inl (fun _ => 0))), (q10, .inl (cT 5, 8, .inr (.inr (.inr (.inr (x8 q11 q12 q13 q14 q15 q16 q17 q18)))))), (q11, .inl (cT 0, 4096, .inl (upd (upd (upd (upd (fun _ => 0) 0 110) 1 117) 2 108) 3 108))), (q12, .inl (cT 0, 4096, .inl (upd (upd (upd (upd (fun _ => 0) 0 110) 1 117) 2 108) 3 108))), (q13, .inl (cT 0, 4096, .inl (upd (upd (upd (upd (fun _ => 0) 0 110) 1 117) 2 108) 3 108))), (q14, .inl (cT 0, 4096, .inl (upd (upd (upd (upd (fun _ => 0) 0 110) 1 117) 2 108) 3 108))), (q15, .inl (cT 0, 4096, .inl (upd (fun _ => 0) 0 110))), (q16, .inl (cT 0, 4096, .inl (fun _ => 0))), (q17, .inl (cT 0, 4096, .inl (fun _ => 0))), (q18, .inl (cT 0, 4096, .inl (fun _ => 0))), (q19, .inl (cT 1, 8, .inl (upd (upd (upd (upd (fun _ => 0) 0 4) 1 4) 2 4) 3 4))), (q20, .inl (cT 0, 4096, .inl (fun _ => 0))), (q21, .inl (cT 0, 4096, .inl (fun _ => 0)))] H := ⟨hP, hD⟩
  refine lv_iinc (v := 1) (lv' := [(2, .int 1), (1, .int 4), (0, .ref a0)]) hx hb dM_init_179 hl (k := 0) rfl (by decide) (by decide) rfl (fun ls hl => ?_)
  refine lv_goto (tgt := 159) hx hb dM_init_182 (by decide) ?_
  refine lv_iload_n hx hb dM_init_159 rfl (lv_at hl 0 rfl) ?_
  refine lv_iconst (v := 4) hx hb dM_init_160 (by decide) ?_
  refine lv_icmp_ge (tgt := 185) hx hb dM_init_161 (by decide) (fun h => ((by revert h; decide : False)).elim) (fun _ => ?_)
  refine lv_aload_n hx hb dM_init_164 rfl (lv_at hl 2 rfl) ?_
  refine va_get (D := D) (ci := 5) (v := .ref q10) (C := "ValueBenchModel") (T := TM) (N := 32) hx hb htx inM hown hK hP 0 rfl rfl 24 (by decide) (htx _ kw_5_111) (fun _ h9 => h9) rfl dM_init_165 ?_
  refine lv_iload_n hx hb dM_init_168 rfl (lv_at hl 1 rfl) ?_
  refine xx_aldA hx hb hK hP 10 5 rfl rfl (show ¬ ((4 : Int32) < 0 ∨ 8 ≤ (4 : Int32).toNatClampNeg) by decide) dM_init_169 ?_
  refine W.eq (g2 := F0 m 170 ls [.ref q15]) rfl ?_
  refine lv_iload_n hx hb dM_init_170 rfl (lv_at hl 0 rfl) ?_
  refine va_ldcS (q := aK 10) hx hb hown (hZ.2.2.2.2.2.2.2.2.1 ("ValueBenchModel", 69, "null", 10) (List.mem_of_getElem? (i := 17) rfl)) dM_init_171 ?_
  refine lv_iload_n hx hb dM_init_173 rfl (lv_at hl 0 rfl) ?_
  obtain ⟨hPc, hDc, hFc⟩ := xcut (wc := []) hP hD hS hA [] rfl rfl (by decide)
  refine va_calli (va_runV (C := "java/lang/String") (As := [.int 1]) (rest := [.int 1, .ref q15]) ⟨hx, hb, hml, hown, htx⟩ (cJS_charAt_1 l hl9 D cT aK aV H.size) ⟨callB_of 1 htx (xw_goodC kw_2_80) rfl rfl rfl (htx _ kw_1_6) (htx _ kw_5_86) ⟨by decide, by decide, by decide +kernel⟩ ⟨Nat.le_of_ble_eq_true rfl, Nat.le_of_ble_eq_true rfl⟩, (htx _ kw_2_78), (htx _ kw_2_79)⟩ ⟨xPre_blind, vk_recv hZ.2.2.2.2.2.2.2.2.2.1 (i := 10) (by decide) hS, (fun U hU hW => ⟨rfl, xPre_of hZ hS hFc hPc hDc hK U hU hW⟩)⟩ rfl rfl hl.1 rfl (lv_room (Nat.le_of_ble_eq_true rfl)) dM_init_174 ⟨Nat.le_of_ble_eq_true rfl, Nat.le_of_ble_eq_true rfl⟩) hS (fun q _ h => hFc q h) hFc (fun r39 u9 t H1 locs ht hvm hr9 hB hz1 hk1 hS => ?_)
  obtain ⟨hP1, hK1, hD1⟩ := hB
  rw [ht] at hP1
  obtain ⟨hP, hD⟩ := xjoin (W := [(a0, .inr (5, [v1, .ref q1, v3, .ref q2, v5, .ref q3, .ref q4, v8, v9, v10, .ref q5, .ref q6, v13, .ref q7, .ref q8, v16, v17, v18, v19, .int 40, .int (-1), .ref q9, v23, .int 1000000000, .ref q10, .ref q19, .ref q20, v28, .ref q21, v30, v31, .int (-1)])), (q1, .inl (cT 4, 1024, .inr (.inr (.inr (.inr (fun _ => none)))))), (q2, .inl (cT 0, 4096, .inl (fun _ => 0))), (q3, .inl (cT 4, 1024, .inr (.inr (.inr (.inr (fun _ => none)))))), (q4, .inl (cT 4, 1024, .inr (.inr (.inr (.inr (fun _ => none)))))), (q5, .inl (cT 4, 256, .inr (.inr (.inr (.inr (fun _ => none)))))), (q6, .inl (cT 4, 256, .inr (.inr (.inr (.inr (fun _ => none)))))), (q7, .inl (cT 1, 64, .inl (fun _ => 0))), (q8, .inl (cT 1, 64, .inl (fun _ => 0))), (q9, .inl (cT 0, 1024, .inl (fun _ => 0))), (q10, .inl (cT 5, 8, .inr (.inr (.inr (.inr (x8 q11 q12 q13 q14 q15 q16 q17 q18)))))), (q11, .inl (cT 0, 4096, .inl (upd (upd (upd (upd (fun _ => 0) 0 110) 1 117) 2 108) 3 108))), (q12, .inl (cT 0, 4096, .inl (upd (upd (upd (upd (fun _ => 0) 0 110) 1 117) 2 108) 3 108))), (q13, .inl (cT 0, 4096, .inl (upd (upd (upd (upd (fun _ => 0) 0 110) 1 117) 2 108) 3 108))), (q14, .inl (cT 0, 4096, .inl (upd (upd (upd (upd (fun _ => 0) 0 110) 1 117) 2 108) 3 108))), (q15, .inl (cT 0, 4096, .inl (upd (fun _ => 0) 0 110))), (q16, .inl (cT 0, 4096, .inl (fun _ => 0))), (q17, .inl (cT 0, 4096, .inl (fun _ => 0))), (q18, .inl (cT 0, 4096, .inl (fun _ => 0))), (q19, .inl (cT 1, 8, .inl (upd (upd (upd (upd (fun _ => 0) 0 4) 1 4) 2 4) 3 4))), (q20, .inl (cT 0, 4096, .inl (fun _ => 0))), (q21, .inl (cT 0, 4096, .inl (fun _ => 0)))]) hP hD [] [0, 1, 2, 3, 4, 5, 6, 7, 8, 9, 10, 11, 12, 13, 14, 15, 16, 17, 18, 19, 20, 21] 22 rfl rfl (by decide) (by decide) hk1 hFc hP1 hD1
  generalize H1 = H at hP hS ⊢
  rw [hr9]
  refine W.eq (g2 := F0 m 177 ls [.int 117, .int 1, .ref q15]) rfl ?_
  refine lv_i2b hx hb dM_init_177 rfl ?_
  refine W.eq (g2 := F0 m 178 ls [.int 117, .int 1, .ref q15]) rfl ?_
  refine va_bast hx hb hK hP hD hS 15 0 rfl rfl (show ¬ ((1 : Int32) < 0 ∨ 4096 ≤ (1 : Int32).toNatClampNeg) by decide) dM_init_178 (fun H locs hP hD hS => ?_)
  obtain ⟨hP, hD⟩ : xPD D xcl A [(a0, .inr (5, [v1, .ref q1, v3, .ref q2, v5, .ref q3, .ref q4, v8, v9, v10, .ref q5, .ref q6, v13, .ref q7, .ref q8, v16, v17, v18, v19, .int 40, .int (-1), .ref q9, v23, .int 1000000000, .ref q10, .ref q19, .ref q20, v28, .ref q21, v30, v31, .int (-1)])), (q1, .inl (cT 4, 1024, .inr (.inr (.inr (.inr (fun _ => none)))))), (q2, .inl (cT 0, 4096, .inl (fun _ => 0))), (q3, .inl (cT 4, 1024, .inr (.inr (.inr (.inr (fun _ => none)))))), (q4, .inl (cT 4, 1024, .inr (.inr (.inr (.inr (fun _ => none)))))), (q5, .inl (cT 4, 256, .inr (.inr (.inr (.inr (fun _ => none)))))), (q6, .inl (cT 4, 256, .inr (.inr (.inr (.inr (fun _ => none)))))), (q7, .inl (cT 1, 64, .inl (fun _ => 0))), (q8, .inl (cT 1, 64, .inl (fun _ => 0))), (q9, .inl (cT 0, 1024, .inl (fun _ => 0))), (q10, .inl (cT 5, 8, .inr (.inr (.inr (.inr (x8 q11 q12 q13 q14 q15 q16 q17 q18)))))), (q11, .inl (cT 0, 4096, .inl (upd (upd (upd (upd (fun _ => 0) 0 110) 1 117) 2 108) 3 108))), (q12, .inl (cT 0, 4096, .inl (upd (upd (upd (upd (fun _ => 0) 0 110) 1 117) 2 108) 3 108))), (q13, .inl (cT 0, 4096, .inl (upd (upd (upd (upd (fun _ => 0) 0 110) 1 117) 2 108) 3 108))), (q14, .inl (cT 0, 4096, .inl (upd (upd (upd (upd (fun _ => 0) 0 110) 1 117) 2 108) 3 108))), (q15, .inl (cT 0, 4096, .inl (upd (upd (fun _ => 0) 0 110) 1 117))), (q16, .inl (cT 0, 4096, .inl (fun _ => 0))), (q17, .inl (cT 0, 4096, .inl (fun _ => 0))), (q18, .inl (cT 0, 4096, .inl (fun _ => 0))), (q19, .inl (cT 1, 8, .inl (upd (upd (upd (upd (fun _ => 0) 0 4) 1 4) 2 4) 3 4))), (q20, .inl (cT 0, 4096, .inl (fun _ => 0))), (q21, .inl (cT 0, 4096, .inl (fun _ => 0)))] H := ⟨hP, hD⟩
  refine lv_iinc (v := 2) (lv' := [(2, .int 2), (1, .int 4), (0, .ref a0)]) hx hb dM_init_179 hl (k := 0) rfl (by decide) (by decide) rfl (fun ls hl => ?_)
  refine lv_goto (tgt := 159) hx hb dM_init_182 (by decide) ?_
  refine lv_iload_n hx hb dM_init_159 rfl (lv_at hl 0 rfl) ?_
  refine lv_iconst (v := 4) hx hb dM_init_160 (by decide) ?_
  refine lv_icmp_ge (tgt := 185) hx hb dM_init_161 (by decide) (fun h => ((by revert h; decide : False)).elim) (fun _ => ?_)
  refine lv_aload_n hx hb dM_init_164 rfl (lv_at hl 2 rfl) ?_
  refine va_get (D := D) (ci := 5) (v := .ref q10) (C := "ValueBenchModel") (T := TM) (N := 32) hx hb htx inM hown hK hP 0 rfl rfl 24 (by decide) (htx _ kw_5_111) (fun _ h9 => h9) rfl dM_init_165 ?_
  refine lv_iload_n hx hb dM_init_168 rfl (lv_at hl 1 rfl) ?_
  refine xx_aldA hx hb hK hP 10 5 rfl rfl (show ¬ ((4 : Int32) < 0 ∨ 8 ≤ (4 : Int32).toNatClampNeg) by decide) dM_init_169 ?_
  refine W.eq (g2 := F0 m 170 ls [.ref q15]) rfl ?_
  refine lv_iload_n hx hb dM_init_170 rfl (lv_at hl 0 rfl) ?_
  refine va_ldcS (q := aK 10) hx hb hown (hZ.2.2.2.2.2.2.2.2.1 ("ValueBenchModel", 69, "null", 10) (List.mem_of_getElem? (i := 17) rfl)) dM_init_171 ?_
  refine lv_iload_n hx hb dM_init_173 rfl (lv_at hl 0 rfl) ?_
  obtain ⟨hPc, hDc, hFc⟩ := xcut (wc := []) hP hD hS hA [] rfl rfl (by decide)
  refine va_calli (va_runV (C := "java/lang/String") (As := [.int 2]) (rest := [.int 2, .ref q15]) ⟨hx, hb, hml, hown, htx⟩ (cJS_charAt_2 l hl9 D cT aK aV H.size) ⟨callB_of 1 htx (xw_goodC kw_2_80) rfl rfl rfl (htx _ kw_1_6) (htx _ kw_5_86) ⟨by decide, by decide, by decide +kernel⟩ ⟨Nat.le_of_ble_eq_true rfl, Nat.le_of_ble_eq_true rfl⟩, (htx _ kw_2_78), (htx _ kw_2_79)⟩ ⟨xPre_blind, vk_recv hZ.2.2.2.2.2.2.2.2.2.1 (i := 10) (by decide) hS, (fun U hU hW => ⟨rfl, xPre_of hZ hS hFc hPc hDc hK U hU hW⟩)⟩ rfl rfl hl.1 rfl (lv_room (Nat.le_of_ble_eq_true rfl)) dM_init_174 ⟨Nat.le_of_ble_eq_true rfl, Nat.le_of_ble_eq_true rfl⟩) hS (fun q _ h => hFc q h) hFc (fun r40 u9 t H1 locs ht hvm hr9 hB hz1 hk1 hS => ?_)
  obtain ⟨hP1, hK1, hD1⟩ := hB
  rw [ht] at hP1
  obtain ⟨hP, hD⟩ := xjoin (W := [(a0, .inr (5, [v1, .ref q1, v3, .ref q2, v5, .ref q3, .ref q4, v8, v9, v10, .ref q5, .ref q6, v13, .ref q7, .ref q8, v16, v17, v18, v19, .int 40, .int (-1), .ref q9, v23, .int 1000000000, .ref q10, .ref q19, .ref q20, v28, .ref q21, v30, v31, .int (-1)])), (q1, .inl (cT 4, 1024, .inr (.inr (.inr (.inr (fun _ => none)))))), (q2, .inl (cT 0, 4096, .inl (fun _ => 0))), (q3, .inl (cT 4, 1024, .inr (.inr (.inr (.inr (fun _ => none)))))), (q4, .inl (cT 4, 1024, .inr (.inr (.inr (.inr (fun _ => none)))))), (q5, .inl (cT 4, 256, .inr (.inr (.inr (.inr (fun _ => none)))))), (q6, .inl (cT 4, 256, .inr (.inr (.inr (.inr (fun _ => none)))))), (q7, .inl (cT 1, 64, .inl (fun _ => 0))), (q8, .inl (cT 1, 64, .inl (fun _ => 0))), (q9, .inl (cT 0, 1024, .inl (fun _ => 0))), (q10, .inl (cT 5, 8, .inr (.inr (.inr (.inr (x8 q11 q12 q13 q14 q15 q16 q17 q18)))))), (q11, .inl (cT 0, 4096, .inl (upd (upd (upd (upd (fun _ => 0) 0 110) 1 117) 2 108) 3 108))), (q12, .inl (cT 0, 4096, .inl (upd (upd (upd (upd (fun _ => 0) 0 110) 1 117) 2 108) 3 108))), (q13, .inl (cT 0, 4096, .inl (upd (upd (upd (upd (fun _ => 0) 0 110) 1 117) 2 108) 3 108))), (q14, .inl (cT 0, 4096, .inl (upd (upd (upd (upd (fun _ => 0) 0 110) 1 117) 2 108) 3 108))), (q15, .inl (cT 0, 4096, .inl (upd (upd (fun _ => 0) 0 110) 1 117))), (q16, .inl (cT 0, 4096, .inl (fun _ => 0))), (q17, .inl (cT 0, 4096, .inl (fun _ => 0))), (q18, .inl (cT 0, 4096, .inl (fun _ => 0))), (q19, .inl (cT 1, 8, .inl (upd (upd (upd (upd (fun _ => 0) 0 4) 1 4) 2 4) 3 4))), (q20, .inl (cT 0, 4096, .inl (fun _ => 0))), (q21, .inl (cT 0, 4096, .inl (fun _ => 0)))]) hP hD [] [0, 1, 2, 3, 4, 5, 6, 7, 8, 9, 10, 11, 12, 13, 14, 15, 16, 17, 18, 19, 20, 21] 22 rfl rfl (by decide) (by decide) hk1 hFc hP1 hD1
  generalize H1 = H at hP hS ⊢
  rw [hr9]
  refine W.eq (g2 := F0 m 177 ls [.int 108, .int 2, .ref q15]) rfl ?_
  refine lv_i2b hx hb dM_init_177 rfl ?_
  refine W.eq (g2 := F0 m 178 ls [.int 108, .int 2, .ref q15]) rfl ?_
  refine va_bast hx hb hK hP hD hS 15 0 rfl rfl (show ¬ ((2 : Int32) < 0 ∨ 4096 ≤ (2 : Int32).toNatClampNeg) by decide) dM_init_178 (fun H locs hP hD hS => ?_)
  obtain ⟨hP, hD⟩ : xPD D xcl A [(a0, .inr (5, [v1, .ref q1, v3, .ref q2, v5, .ref q3, .ref q4, v8, v9, v10, .ref q5, .ref q6, v13, .ref q7, .ref q8, v16, v17, v18, v19, .int 40, .int (-1), .ref q9, v23, .int 1000000000, .ref q10, .ref q19, .ref q20, v28, .ref q21, v30, v31, .int (-1)])), (q1, .inl (cT 4, 1024, .inr (.inr (.inr (.inr (fun _ => none)))))), (q2, .inl (cT 0, 4096, .inl (fun _ => 0))), (q3, .inl (cT 4, 1024, .inr (.inr (.inr (.inr (fun _ => none)))))), (q4, .inl (cT 4, 1024, .inr (.inr (.inr (.inr (fun _ => none)))))), (q5, .inl (cT 4, 256, .inr (.inr (.inr (.inr (fun _ => none)))))), (q6, .inl (cT 4, 256, .inr (.inr (.inr (.inr (fun _ => none)))))), (q7, .inl (cT 1, 64, .inl (fun _ => 0))), (q8, .inl (cT 1, 64, .inl (fun _ => 0))), (q9, .inl (cT 0, 1024, .inl (fun _ => 0))), (q10, .inl (cT 5, 8, .inr (.inr (.inr (.inr (x8 q11 q12 q13 q14 q15 q16 q17 q18)))))), (q11, .inl (cT 0, 4096, .inl (upd (upd (upd (upd (fun _ => 0) 0 110) 1 117) 2 108) 3 108))), (q12, .inl (cT 0, 4096, .inl (upd (upd (upd (upd (fun _ => 0) 0 110) 1 117) 2 108) 3 108))), (q13, .inl (cT 0, 4096, .inl (upd (upd (upd (upd (fun _ => 0) 0 110) 1 117) 2 108) 3 108))), (q14, .inl (cT 0, 4096, .inl (upd (upd (upd (upd (fun _ => 0) 0 110) 1 117) 2 108) 3 108))), (q15, .inl (cT 0, 4096, .inl (upd (upd (upd (fun _ => 0) 0 110) 1 117) 2 108))), (q16, .inl (cT 0, 4096, .inl (fun _ => 0))), (q17, .inl (cT 0, 4096, .inl (fun _ => 0))), (q18, .inl (cT 0, 4096, .inl (fun _ => 0))), (q19, .inl (cT 1, 8, .inl (upd (upd (upd (upd (fun _ => 0) 0 4) 1 4) 2 4) 3 4))), (q20, .inl (cT 0, 4096, .inl (fun _ => 0))), (q21, .inl (cT 0, 4096, .inl (fun _ => 0)))] H := ⟨hP, hD⟩
  refine lv_iinc (v := 3) (lv' := [(2, .int 3), (1, .int 4), (0, .ref a0)]) hx hb dM_init_179 hl (k := 0) rfl (by decide) (by decide) rfl (fun ls hl => ?_)
  refine lv_goto (tgt := 159) hx hb dM_init_182 (by decide) ?_
  refine lv_iload_n hx hb dM_init_159 rfl (lv_at hl 0 rfl) ?_
  refine lv_iconst (v := 4) hx hb dM_init_160 (by decide) ?_
  refine lv_icmp_ge (tgt := 185) hx hb dM_init_161 (by decide) (fun h => ((by revert h; decide : False)).elim) (fun _ => ?_)
  refine lv_aload_n hx hb dM_init_164 rfl (lv_at hl 2 rfl) ?_
  refine va_get (D := D) (ci := 5) (v := .ref q10) (C := "ValueBenchModel") (T := TM) (N := 32) hx hb htx inM hown hK hP 0 rfl rfl 24 (by decide) (htx _ kw_5_111) (fun _ h9 => h9) rfl dM_init_165 ?_
  refine lv_iload_n hx hb dM_init_168 rfl (lv_at hl 1 rfl) ?_
  refine xx_aldA hx hb hK hP 10 5 rfl rfl (show ¬ ((4 : Int32) < 0 ∨ 8 ≤ (4 : Int32).toNatClampNeg) by decide) dM_init_169 ?_
  refine W.eq (g2 := F0 m 170 ls [.ref q15]) rfl ?_
  refine lv_iload_n hx hb dM_init_170 rfl (lv_at hl 0 rfl) ?_
  refine va_ldcS (q := aK 10) hx hb hown (hZ.2.2.2.2.2.2.2.2.1 ("ValueBenchModel", 69, "null", 10) (List.mem_of_getElem? (i := 17) rfl)) dM_init_171 ?_
  refine lv_iload_n hx hb dM_init_173 rfl (lv_at hl 0 rfl) ?_
  obtain ⟨hPc, hDc, hFc⟩ := xcut (wc := []) hP hD hS hA [] rfl rfl (by decide)
  refine va_calli (va_runV (C := "java/lang/String") (As := [.int 3]) (rest := [.int 3, .ref q15]) ⟨hx, hb, hml, hown, htx⟩ (cJS_charAt_3 l hl9 D cT aK aV H.size) ⟨callB_of 1 htx (xw_goodC kw_2_80) rfl rfl rfl (htx _ kw_1_6) (htx _ kw_5_86) ⟨by decide, by decide, by decide +kernel⟩ ⟨Nat.le_of_ble_eq_true rfl, Nat.le_of_ble_eq_true rfl⟩, (htx _ kw_2_78), (htx _ kw_2_79)⟩ ⟨xPre_blind, vk_recv hZ.2.2.2.2.2.2.2.2.2.1 (i := 10) (by decide) hS, (fun U hU hW => ⟨rfl, xPre_of hZ hS hFc hPc hDc hK U hU hW⟩)⟩ rfl rfl hl.1 rfl (lv_room (Nat.le_of_ble_eq_true rfl)) dM_init_174 ⟨Nat.le_of_ble_eq_true rfl, Nat.le_of_ble_eq_true rfl⟩) hS (fun q _ h => hFc q h) hFc (fun r41 u9 t H1 locs ht hvm hr9 hB hz1 hk1 hS => ?_)
  obtain ⟨hP1, hK1, hD1⟩ := hB
  rw [ht] at hP1
  obtain ⟨hP, hD⟩ := xjoin (W := [(a0, .inr (5, [v1, .ref q1, v3, .ref q2, v5, .ref q3, .ref q4, v8, v9, v10, .ref q5, .ref q6, v13, .ref q7, .ref q8, v16, v17, v18, v19, .int 40, .int (-1), .ref q9, v23, .int 1000000000, .ref q10, .ref q19, .ref q20, v28, .ref q21, v30, v31, .int (-1)])), (q1, .inl (cT 4, 1024, .inr (.inr (.inr (.inr (fun _ => none)))))), (q2, .inl (cT 0, 4096, .inl (fun _ => 0))), (q3, .inl (cT 4, 1024, .inr (.inr (.inr (.inr (fun _ => none)))))), (q4, .inl (cT 4, 1024, .inr (.inr (.inr (.inr (fun _ => none)))))), (q5, .inl (cT 4, 256, .inr (.inr (.inr (.inr (fun _ => none)))))), (q6, .inl (cT 4, 256, .inr (.inr (.inr (.inr (fun _ => none)))))), (q7, .inl (cT 1, 64, .inl (fun _ => 0))), (q8, .inl (cT 1, 64, .inl (fun _ => 0))), (q9, .inl (cT 0, 1024, .inl (fun _ => 0))), (q10, .inl (cT 5, 8, .inr (.inr (.inr (.inr (x8 q11 q12 q13 q14 q15 q16 q17 q18)))))), (q11, .inl (cT 0, 4096, .inl (upd (upd (upd (upd (fun _ => 0) 0 110) 1 117) 2 108) 3 108))), (q12, .inl (cT 0, 4096, .inl (upd (upd (upd (upd (fun _ => 0) 0 110) 1 117) 2 108) 3 108))), (q13, .inl (cT 0, 4096, .inl (upd (upd (upd (upd (fun _ => 0) 0 110) 1 117) 2 108) 3 108))), (q14, .inl (cT 0, 4096, .inl (upd (upd (upd (upd (fun _ => 0) 0 110) 1 117) 2 108) 3 108))), (q15, .inl (cT 0, 4096, .inl (upd (upd (upd (fun _ => 0) 0 110) 1 117) 2 108))), (q16, .inl (cT 0, 4096, .inl (fun _ => 0))), (q17, .inl (cT 0, 4096, .inl (fun _ => 0))), (q18, .inl (cT 0, 4096, .inl (fun _ => 0))), (q19, .inl (cT 1, 8, .inl (upd (upd (upd (upd (fun _ => 0) 0 4) 1 4) 2 4) 3 4))), (q20, .inl (cT 0, 4096, .inl (fun _ => 0))), (q21, .inl (cT 0, 4096, .inl (fun _ => 0)))]) hP hD [] [0, 1, 2, 3, 4, 5, 6, 7, 8, 9, 10, 11, 12, 13, 14, 15, 16, 17, 18, 19, 20, 21] 22 rfl rfl (by decide) (by decide) hk1 hFc hP1 hD1
  generalize H1 = H at hP hS ⊢
  rw [hr9]
  refine W.eq (g2 := F0 m 177 ls [.int 108, .int 3, .ref q15]) rfl ?_
  refine lv_i2b hx hb dM_init_177 rfl ?_
  refine W.eq (g2 := F0 m 178 ls [.int 108, .int 3, .ref q15]) rfl ?_
  refine va_bast hx hb hK hP hD hS 15 0 rfl rfl (show ¬ ((3 : Int32) < 0 ∨ 4096 ≤ (3 : Int32).toNatClampNeg) by decide) dM_init_178 (fun H locs hP hD hS => ?_)
  obtain ⟨hP, hD⟩ : xPD D xcl A [(a0, .inr (5, [v1, .ref q1, v3, .ref q2, v5, .ref q3, .ref q4, v8, v9, v10, .ref q5, .ref q6, v13, .ref q7, .ref q8, v16, v17, v18, v19, .int 40, .int (-1), .ref q9, v23, .int 1000000000, .ref q10, .ref q19, .ref q20, v28, .ref q21, v30, v31, .int (-1)])), (q1, .inl (cT 4, 1024, .inr (.inr (.inr (.inr (fun _ => none)))))), (q2, .inl (cT 0, 4096, .inl (fun _ => 0))), (q3, .inl (cT 4, 1024, .inr (.inr (.inr (.inr (fun _ => none)))))), (q4, .inl (cT 4, 1024, .inr (.inr (.inr (.inr (fun _ => none)))))), (q5, .inl (cT 4, 256, .inr (.inr (.inr (.inr (fun _ => none)))))), (q6, .inl (cT 4, 256, .inr (.inr (.inr (.inr (fun _ => none)))))), (q7, .inl (cT 1, 64, .inl (fun _ => 0))), (q8, .inl (cT 1, 64, .inl (fun _ => 0))), (q9, .inl (cT 0, 1024, .inl (fun _ => 0))), (q10, .inl (cT 5, 8, .inr (.inr (.inr (.inr (x8 q11 q12 q13 q14 q15 q16 q17 q18)))))), (q11, .inl (cT 0, 4096, .inl (upd (upd (upd (upd (fun _ => 0) 0 110) 1 117) 2 108) 3 108))), (q12, .inl (cT 0, 4096, .inl (upd (upd (upd (upd (fun _ => 0) 0 110) 1 117) 2 108) 3 108))), (q13, .inl (cT 0, 4096, .inl (upd (upd (upd (upd (fun _ => 0) 0 110) 1 117) 2 108) 3 108))), (q14, .inl (cT 0, 4096, .inl (upd (upd (upd (upd (fun _ => 0) 0 110) 1 117) 2 108) 3 108))), (q15, .inl (cT 0, 4096, .inl (upd (upd (upd (upd (fun _ => 0) 0 110) 1 117) 2 108) 3 108))), (q16, .inl (cT 0, 4096, .inl (fun _ => 0))), (q17, .inl (cT 0, 4096, .inl (fun _ => 0))), (q18, .inl (cT 0, 4096, .inl (fun _ => 0))), (q19, .inl (cT 1, 8, .inl (upd (upd (upd (upd (fun _ => 0) 0 4) 1 4) 2 4) 3 4))), (q20, .inl (cT 0, 4096, .inl (fun _ => 0))), (q21, .inl (cT 0, 4096, .inl (fun _ => 0)))] H := ⟨hP, hD⟩
  refine lv_iinc (v := 4) (lv' := [(2, .int 4), (1, .int 4), (0, .ref a0)]) hx hb dM_init_179 hl (k := 0) rfl (by decide) (by decide) rfl (fun ls hl => ?_)
  refine lv_goto (tgt := 159) hx hb dM_init_182 (by decide) ?_
  refine lv_iload_n hx hb dM_init_159 rfl (lv_at hl 0 rfl) ?_
  refine lv_iconst (v := 4) hx hb dM_init_160 (by decide) ?_
  refine lv_icmp_ge (tgt := 185) hx hb dM_init_161 (by decide) (fun _ => ?_) (fun h => ((by revert h; decide : False)).elim)
  refine lv_aload_n hx hb dM_init_185 rfl (lv_at hl 2 rfl) ?_
  refine va_get (D := D) (ci := 5) (v := .ref q19) (C := "ValueBenchModel") (T := TM) (N := 32) hx hb htx inM hown hK hP 0 rfl rfl 25 (by decide) (htx _ kw_5_112) (fun _ h9 => h9) rfl dM_init_186 ?_
  refine lv_iload_n hx hb dM_init_189 rfl (lv_at hl 1 rfl) ?_
  refine lv_iconst (v := 4) hx hb dM_init_190 (by decide) ?_
  refine va_iast hx hb hK hP hD hS 19 1 rfl rfl (show ¬ ((4 : Int32) < 0 ∨ 8 ≤ (4 : Int32).toNatClampNeg) by decide) dM_init_191 (fun H locs hP hD hS => ?_)
  obtain ⟨hP, hD⟩ : xPD D xcl A [(a0, .inr (5, [v1, .ref q1, v3, .ref q2, v5, .ref q3, .ref q4, v8, v9, v10, .ref q5, .ref q6, v13, .ref q7, .ref q8, v16, v17, v18, v19, .int 40, .int (-1), .ref q9, v23, .int 1000000000, .ref q10, .ref q19, .ref q20, v28, .ref q21, v30, v31, .int (-1)])), (q1, .inl (cT 4, 1024, .inr (.inr (.inr (.inr (fun _ => none)))))), (q2, .inl (cT 0, 4096, .inl (fun _ => 0))), (q3, .inl (cT 4, 1024, .inr (.inr (.inr (.inr (fun _ => none)))))), (q4, .inl (cT 4, 1024, .inr (.inr (.inr (.inr (fun _ => none)))))), (q5, .inl (cT 4, 256, .inr (.inr (.inr (.inr (fun _ => none)))))), (q6, .inl (cT 4, 256, .inr (.inr (.inr (.inr (fun _ => none)))))), (q7, .inl (cT 1, 64, .inl (fun _ => 0))), (q8, .inl (cT 1, 64, .inl (fun _ => 0))), (q9, .inl (cT 0, 1024, .inl (fun _ => 0))), (q10, .inl (cT 5, 8, .inr (.inr (.inr (.inr (x8 q11 q12 q13 q14 q15 q16 q17 q18)))))), (q11, .inl (cT 0, 4096, .inl (upd (upd (upd (upd (fun _ => 0) 0 110) 1 117) 2 108) 3 108))), (q12, .inl (cT 0, 4096, .inl (upd (upd (upd (upd (fun _ => 0) 0 110) 1 117) 2 108) 3 108))), (q13, .inl (cT 0, 4096, .inl (upd (upd (upd (upd (fun _ => 0) 0 110) 1 117) 2 108) 3 108))), (q14, .inl (cT 0, 4096, .inl (upd (upd (upd (upd (fun _ => 0) 0 110) 1 117) 2 108) 3 108))), (q15, .inl (cT 0, 4096, .inl (upd (upd (upd (upd (fun _ => 0) 0 110) 1 117) 2 108) 3 108))), (q16, .inl (cT 0, 4096, .inl (fun _ => 0))), (q17, .inl (cT 0, 4096, .inl (fun _ => 0))), (q18, .inl (cT 0, 4096, .inl (fun _ => 0))), (q19, .inl (cT 1, 8, .inl (upd (upd (upd (upd (upd (fun _ => 0) 0 4) 1 4) 2 4) 3 4) 4 4))), (q20, .inl (cT 0, 4096, .inl (fun _ => 0))), (q21, .inl (cT 0, 4096, .inl (fun _ => 0)))] H := ⟨hP, hD⟩
  refine lv_iinc (v := 5) (lv' := [(1, .int 5), (2, .int 4), (0, .ref a0)]) hx hb dM_init_192 hl (k := 1) rfl (by decide) (by decide) rfl (fun ls hl => ?_)
  refine lv_goto (tgt := 151) hx hb dM_init_195 (by decide) ?_
  refine lv_iload_n hx hb dM_init_151 rfl (lv_at hl 0 rfl) ?_
  refine lv_bipush (v := 8) hx hb dM_init_152 (by decide) ?_
  refine lv_icmp_ge (tgt := 198) hx hb dM_init_154 (by decide) (fun h => ((by revert h; decide : False)).elim) (fun _ => ?_)
  refine lv_iconst (v := 0) hx hb dM_init_157 (by decide) ?_
  refine lv_istore_n (lv' := [(2, .int 0), (1, .int 5), (0, .ref a0)]) hx hb dM_init_158 rfl hl (by decide) rfl (fun ls hl => ?_)
  refine lv_iload_n hx hb dM_init_159 rfl (lv_at hl 0 rfl) ?_
  refine lv_iconst (v := 4) hx hb dM_init_160 (by decide) ?_
  refine lv_icmp_ge (tgt := 185) hx hb dM_init_161 (by decide) (fun h => ((by revert h; decide : False)).elim) (fun _ => ?_)
  refine lv_aload_n hx hb dM_init_164 rfl (lv_at hl 2 rfl) ?_
  refine va_get (D := D) (ci := 5) (v := .ref q10) (C := "ValueBenchModel") (T := TM) (N := 32) hx hb htx inM hown hK hP 0 rfl rfl 24 (by decide) (htx _ kw_5_111) (fun _ h9 => h9) rfl dM_init_165 ?_
  refine lv_iload_n hx hb dM_init_168 rfl (lv_at hl 1 rfl) ?_
  refine xx_aldA hx hb hK hP 10 5 rfl rfl (show ¬ ((5 : Int32) < 0 ∨ 8 ≤ (5 : Int32).toNatClampNeg) by decide) dM_init_169 ?_
  refine W.eq (g2 := F0 m 170 ls [.ref q16]) rfl ?_
  refine lv_iload_n hx hb dM_init_170 rfl (lv_at hl 0 rfl) ?_
  refine va_ldcS (q := aK 10) hx hb hown (hZ.2.2.2.2.2.2.2.2.1 ("ValueBenchModel", 69, "null", 10) (List.mem_of_getElem? (i := 17) rfl)) dM_init_171 ?_
  refine lv_iload_n hx hb dM_init_173 rfl (lv_at hl 0 rfl) ?_
  obtain ⟨hPc, hDc, hFc⟩ := xcut (wc := []) hP hD hS hA [] rfl rfl (by decide)
  refine va_calli (va_runV (C := "java/lang/String") (As := [.int 0]) (rest := [.int 0, .ref q16]) ⟨hx, hb, hml, hown, htx⟩ (cJS_charAt_0 l hl9 D cT aK aV H.size) ⟨callB_of 1 htx (xw_goodC kw_2_80) rfl rfl rfl (htx _ kw_1_6) (htx _ kw_5_86) ⟨by decide, by decide, by decide +kernel⟩ ⟨Nat.le_of_ble_eq_true rfl, Nat.le_of_ble_eq_true rfl⟩, (htx _ kw_2_78), (htx _ kw_2_79)⟩ ⟨xPre_blind, vk_recv hZ.2.2.2.2.2.2.2.2.2.1 (i := 10) (by decide) hS, (fun U hU hW => ⟨rfl, xPre_of hZ hS hFc hPc hDc hK U hU hW⟩)⟩ rfl rfl hl.1 rfl (lv_room (Nat.le_of_ble_eq_true rfl)) dM_init_174 ⟨Nat.le_of_ble_eq_true rfl, Nat.le_of_ble_eq_true rfl⟩) hS (fun q _ h => hFc q h) hFc (fun r42 u9 t H1 locs ht hvm hr9 hB hz1 hk1 hS => ?_)
  obtain ⟨hP1, hK1, hD1⟩ := hB
  rw [ht] at hP1
  obtain ⟨hP, hD⟩ := xjoin (W := [(a0, .inr (5, [v1, .ref q1, v3, .ref q2, v5, .ref q3, .ref q4, v8, v9, v10, .ref q5, .ref q6, v13, .ref q7, .ref q8, v16, v17, v18, v19, .int 40, .int (-1), .ref q9, v23, .int 1000000000, .ref q10, .ref q19, .ref q20, v28, .ref q21, v30, v31, .int (-1)])), (q1, .inl (cT 4, 1024, .inr (.inr (.inr (.inr (fun _ => none)))))), (q2, .inl (cT 0, 4096, .inl (fun _ => 0))), (q3, .inl (cT 4, 1024, .inr (.inr (.inr (.inr (fun _ => none)))))), (q4, .inl (cT 4, 1024, .inr (.inr (.inr (.inr (fun _ => none)))))), (q5, .inl (cT 4, 256, .inr (.inr (.inr (.inr (fun _ => none)))))), (q6, .inl (cT 4, 256, .inr (.inr (.inr (.inr (fun _ => none)))))), (q7, .inl (cT 1, 64, .inl (fun _ => 0))), (q8, .inl (cT 1, 64, .inl (fun _ => 0))), (q9, .inl (cT 0, 1024, .inl (fun _ => 0))), (q10, .inl (cT 5, 8, .inr (.inr (.inr (.inr (x8 q11 q12 q13 q14 q15 q16 q17 q18)))))), (q11, .inl (cT 0, 4096, .inl (upd (upd (upd (upd (fun _ => 0) 0 110) 1 117) 2 108) 3 108))), (q12, .inl (cT 0, 4096, .inl (upd (upd (upd (upd (fun _ => 0) 0 110) 1 117) 2 108) 3 108))), (q13, .inl (cT 0, 4096, .inl (upd (upd (upd (upd (fun _ => 0) 0 110) 1 117) 2 108) 3 108))), (q14, .inl (cT 0, 4096, .inl (upd (upd (upd (upd (fun _ => 0) 0 110) 1 117) 2 108) 3 108))), (q15, .inl (cT 0, 4096, .inl (upd (upd (upd (upd (fun _ => 0) 0 110) 1 117) 2 108) 3 108))), (q16, .inl (cT 0, 4096, .inl (fun _ => 0))), (q17, .inl (cT 0, 4096, .inl (fun _ => 0))), (q18, .inl (cT 0, 4096, .inl (fun _ => 0))), (q19, .inl (cT 1, 8, .inl (upd (upd (upd (upd (upd (fun _ => 0) 0 4) 1 4) 2 4) 3 4) 4 4))), (q20, .inl (cT 0, 4096, .inl (fun _ => 0))), (q21, .inl (cT 0, 4096, .inl (fun _ => 0)))]) hP hD [] [0, 1, 2, 3, 4, 5, 6, 7, 8, 9, 10, 11, 12, 13, 14, 15, 16, 17, 18, 19, 20, 21] 22 rfl rfl (by decide) (by decide) hk1 hFc hP1 hD1
  generalize H1 = H at hP hS ⊢
  rw [hr9]
  refine W.eq (g2 := F0 m 177 ls [.int 110, .int 0, .ref q16]) rfl ?_
  refine lv_i2b hx hb dM_init_177 rfl ?_
  refine W.eq (g2 := F0 m 178 ls [.int 110, .int 0, .ref q16]) rfl ?_
  refine va_bast hx hb hK hP hD hS 16 0 rfl rfl (show ¬ ((0 : Int32) < 0 ∨ 4096 ≤ (0 : Int32).toNatClampNeg) by decide) dM_init_178 (fun H locs hP hD hS => ?_)
  obtain ⟨hP, hD⟩ : xPD D xcl A [(a0, .inr (5, [v1, .ref q1, v3, .ref q2, v5, .ref q3, .ref q4, v8, v9, v10, .ref q5, .ref q6, v13, .ref q7, .ref q8, v16, v17, v18, v19, .int 40, .int (-1), .ref q9, v23, .int 1000000000, .ref q10, .ref q19, .ref q20, v28, .ref q21, v30, v31, .int (-1)])), (q1, .inl (cT 4, 1024, .inr (.inr (.inr (.inr (fun _ => none)))))), (q2, .inl (cT 0, 4096, .inl (fun _ => 0))), (q3, .inl (cT 4, 1024, .inr (.inr (.inr (.inr (fun _ => none)))))), (q4, .inl (cT 4, 1024, .inr (.inr (.inr (.inr (fun _ => none)))))), (q5, .inl (cT 4, 256, .inr (.inr (.inr (.inr (fun _ => none)))))), (q6, .inl (cT 4, 256, .inr (.inr (.inr (.inr (fun _ => none)))))), (q7, .inl (cT 1, 64, .inl (fun _ => 0))), (q8, .inl (cT 1, 64, .inl (fun _ => 0))), (q9, .inl (cT 0, 1024, .inl (fun _ => 0))), (q10, .inl (cT 5, 8, .inr (.inr (.inr (.inr (x8 q11 q12 q13 q14 q15 q16 q17 q18)))))), (q11, .inl (cT 0, 4096, .inl (upd (upd (upd (upd (fun _ => 0) 0 110) 1 117) 2 108) 3 108))), (q12, .inl (cT 0, 4096, .inl (upd (upd (upd (upd (fun _ => 0) 0 110) 1 117) 2 108) 3 108))), (q13, .inl (cT 0, 4096, .inl (upd (upd (upd (upd (fun _ => 0) 0 110) 1 117) 2 108) 3 108))), (q14, .inl (cT 0, 4096, .inl (upd (upd (upd (upd (fun _ => 0) 0 110) 1 117) 2 108) 3 108))), (q15, .inl (cT 0, 4096, .inl (upd (upd (upd (upd (fun _ => 0) 0 110) 1 117) 2 108) 3 108))), (q16, .inl (cT 0, 4096, .inl (upd (fun _ => 0) 0 110))), (q17, .inl (cT 0, 4096, .inl (fun _ => 0))), (q18, .inl (cT 0, 4096, .inl (fun _ => 0))), (q19, .inl (cT 1, 8, .inl (upd (upd (upd (upd (upd (fun _ => 0) 0 4) 1 4) 2 4) 3 4) 4 4))), (q20, .inl (cT 0, 4096, .inl (fun _ => 0))), (q21, .inl (cT 0, 4096, .inl (fun _ => 0)))] H := ⟨hP, hD⟩
  refine lv_iinc (v := 1) (lv' := [(2, .int 1), (1, .int 5), (0, .ref a0)]) hx hb dM_init_179 hl (k := 0) rfl (by decide) (by decide) rfl (fun ls hl => ?_)
  refine lv_goto (tgt := 159) hx hb dM_init_182 (by decide) ?_
  refine lv_iload_n hx hb dM_init_159 rfl (lv_at hl 0 rfl) ?_
  refine lv_iconst (v := 4) hx hb dM_init_160 (by decide) ?_
  refine lv_icmp_ge (tgt := 185) hx hb dM_init_161 (by decide) (fun h => ((by revert h; decide : False)).elim) (fun _ => ?_)
  refine lv_aload_n hx hb dM_init_164 rfl (lv_at hl 2 rfl) ?_
  refine va_get (D := D) (ci := 5) (v := .ref q10) (C := "ValueBenchModel") (T := TM) (N := 32) hx hb htx inM hown hK hP 0 rfl rfl 24 (by decide) (htx _ kw_5_111) (fun _ h9 => h9) rfl dM_init_165 ?_
  refine lv_iload_n hx hb dM_init_168 rfl (lv_at hl 1 rfl) ?_
  refine xx_aldA hx hb hK hP 10 5 rfl rfl (show ¬ ((5 : Int32) < 0 ∨ 8 ≤ (5 : Int32).toNatClampNeg) by decide) dM_init_169 ?_
  refine W.eq (g2 := F0 m 170 ls [.ref q16]) rfl ?_
  refine lv_iload_n hx hb dM_init_170 rfl (lv_at hl 0 rfl) ?_
  refine va_ldcS (q := aK 10) hx hb hown (hZ.2.2.2.2.2.2.2.2.1 ("ValueBenchModel", 69, "null", 10) (List.mem_of_getElem? (i := 17) rfl)) dM_init_171 ?_
  refine lv_iload_n hx hb dM_init_173 rfl (lv_at hl 0 rfl) ?_
  obtain ⟨hPc, hDc, hFc⟩ := xcut (wc := []) hP hD hS hA [] rfl rfl (by decide)
  refine va_calli (va_runV (C := "java/lang/String") (As := [.int 1]) (rest := [.int 1, .ref q16]) ⟨hx, hb, hml, hown, htx⟩ (cJS_charAt_1 l hl9 D cT aK aV H.size) ⟨callB_of 1 htx (xw_goodC kw_2_80) rfl rfl rfl (htx _ kw_1_6) (htx _ kw_5_86) ⟨by decide, by decide, by decide +kernel⟩ ⟨Nat.le_of_ble_eq_true rfl, Nat.le_of_ble_eq_true rfl⟩, (htx _ kw_2_78), (htx _ kw_2_79)⟩ ⟨xPre_blind, vk_recv hZ.2.2.2.2.2.2.2.2.2.1 (i := 10) (by decide) hS, (fun U hU hW => ⟨rfl, xPre_of hZ hS hFc hPc hDc hK U hU hW⟩)⟩ rfl rfl hl.1 rfl (lv_room (Nat.le_of_ble_eq_true rfl)) dM_init_174 ⟨Nat.le_of_ble_eq_true rfl, Nat.le_of_ble_eq_true rfl⟩) hS (fun q _ h => hFc q h) hFc (fun r43 u9 t H1 locs ht hvm hr9 hB hz1 hk1 hS => ?_)
  obtain ⟨hP1, hK1, hD1⟩ := hB
  rw [ht] at hP1
  obtain ⟨hP, hD⟩ := xjoin (W := [(a0, .inr (5, [v1, .ref q1, v3, .ref q2, v5, .ref q3, .ref q4, v8, v9, v10, .ref q5, .ref q6, v13, .ref q7, .ref q8, v16, v17, v18, v19, .int 40, .int (-1), .ref q9, v23, .int 1000000000, .ref q10, .ref q19, .ref q20, v28, .ref q21, v30, v31, .int (-1)])), (q1, .inl (cT 4, 1024, .inr (.inr (.inr (.inr (fun _ => none)))))), (q2, .inl (cT 0, 4096, .inl (fun _ => 0))), (q3, .inl (cT 4, 1024, .inr (.inr (.inr (.inr (fun _ => none)))))), (q4, .inl (cT 4, 1024, .inr (.inr (.inr (.inr (fun _ => none)))))), (q5, .inl (cT 4, 256, .inr (.inr (.inr (.inr (fun _ => none)))))), (q6, .inl (cT 4, 256, .inr (.inr (.inr (.inr (fun _ => none)))))), (q7, .inl (cT 1, 64, .inl (fun _ => 0))), (q8, .inl (cT 1, 64, .inl (fun _ => 0))), (q9, .inl (cT 0, 1024, .inl (fun _ => 0))), (q10, .inl (cT 5, 8, .inr (.inr (.inr (.inr (x8 q11 q12 q13 q14 q15 q16 q17 q18)))))), (q11, .inl (cT 0, 4096, .inl (upd (upd (upd (upd (fun _ => 0) 0 110) 1 117) 2 108) 3 108))), (q12, .inl (cT 0, 4096, .inl (upd (upd (upd (upd (fun _ => 0) 0 110) 1 117) 2 108) 3 108))), (q13, .inl (cT 0, 4096, .inl (upd (upd (upd (upd (fun _ => 0) 0 110) 1 117) 2 108) 3 108))), (q14, .inl (cT 0, 4096, .inl (upd (upd (upd (upd (fun _ => 0) 0 110) 1 117) 2 108) 3 108))), (q15, .inl (cT 0, 4096, .inl (upd (upd (upd (upd (fun _ => 0) 0 110) 1 117) 2 108) 3 108))), (q16, .inl (cT 0, 4096, .inl (upd (fun _ => 0) 0 110))), (q17, .inl (cT 0, 4096, .inl (fun _ => 0))), (q18, .inl (cT 0, 4096, .inl (fun _ => 0))), (q19, .inl (cT 1, 8, .inl (upd (upd (upd (upd (upd (fun _ => 0) 0 4) 1 4) 2 4) 3 4) 4 4))), (q20, .inl (cT 0, 4096, .inl (fun _ => 0))), (q21, .inl (cT 0, 4096, .inl (fun _ => 0)))]) hP hD [] [0, 1, 2, 3, 4, 5, 6, 7, 8, 9, 10, 11, 12, 13, 14, 15, 16, 17, 18, 19, 20, 21] 22 rfl rfl (by decide) (by decide) hk1 hFc hP1 hD1
  generalize H1 = H at hP hS ⊢
  rw [hr9]
  refine W.eq (g2 := F0 m 177 ls [.int 117, .int 1, .ref q16]) rfl ?_
  refine lv_i2b hx hb dM_init_177 rfl ?_
  refine W.eq (g2 := F0 m 178 ls [.int 117, .int 1, .ref q16]) rfl ?_
  refine va_bast hx hb hK hP hD hS 16 0 rfl rfl (show ¬ ((1 : Int32) < 0 ∨ 4096 ≤ (1 : Int32).toNatClampNeg) by decide) dM_init_178 (fun H locs hP hD hS => ?_)
  obtain ⟨hP, hD⟩ : xPD D xcl A [(a0, .inr (5, [v1, .ref q1, v3, .ref q2, v5, .ref q3, .ref q4, v8, v9, v10, .ref q5, .ref q6, v13, .ref q7, .ref q8, v16, v17, v18, v19, .int 40, .int (-1), .ref q9, v23, .int 1000000000, .ref q10, .ref q19, .ref q20, v28, .ref q21, v30, v31, .int (-1)])), (q1, .inl (cT 4, 1024, .inr (.inr (.inr (.inr (fun _ => none)))))), (q2, .inl (cT 0, 4096, .inl (fun _ => 0))), (q3, .inl (cT 4, 1024, .inr (.inr (.inr (.inr (fun _ => none)))))), (q4, .inl (cT 4, 1024, .inr (.inr (.inr (.inr (fun _ => none)))))), (q5, .inl (cT 4, 256, .inr (.inr (.inr (.inr (fun _ => none)))))), (q6, .inl (cT 4, 256, .inr (.inr (.inr (.inr (fun _ => none)))))), (q7, .inl (cT 1, 64, .inl (fun _ => 0))), (q8, .inl (cT 1, 64, .inl (fun _ => 0))), (q9, .inl (cT 0, 1024, .inl (fun _ => 0))), (q10, .inl (cT 5, 8, .inr (.inr (.inr (.inr (x8 q11 q12 q13 q14 q15 q16 q17 q18)))))), (q11, .inl (cT 0, 4096, .inl (upd (upd (upd (upd (fun _ => 0) 0 110) 1 117) 2 108) 3 108))), (q12, .inl (cT 0, 4096, .inl (upd (upd (upd (upd (fun _ => 0) 0 110) 1 117) 2 108) 3 108))), (q13, .inl (cT 0, 4096, .inl (upd (upd (upd (upd (fun _ => 0) 0 110) 1 117) 2 108) 3 108))), (q14, .inl (cT 0, 4096, .inl (upd (upd (upd (upd (fun _ => 0) 0 110) 1 117) 2 108) 3 108))), (q15, .inl (cT 0, 4096, .inl (upd (upd (upd (upd (fun _ => 0) 0 110) 1 117) 2 108) 3 108))), (q16, .inl (cT 0, 4096, .inl (upd (upd (fun _ => 0) 0 110) 1 117))), (q17, .inl (cT 0, 4096, .inl (fun _ => 0))), (q18, .inl (cT 0, 4096, .inl (fun _ => 0))), (q19, .inl (cT 1, 8, .inl (upd (upd (upd (upd (upd (fun _ => 0) 0 4) 1 4) 2 4) 3 4) 4 4))), (q20, .inl (cT 0, 4096, .inl (fun _ => 0))), (q21, .inl (cT 0, 4096, .inl (fun _ => 0)))] H := ⟨hP, hD⟩
  refine lv_iinc (v := 2) (lv' := [(2, .int 2), (1, .int 5), (0, .ref a0)]) hx hb dM_init_179 hl (k := 0) rfl (by decide) (by decide) rfl (fun ls hl => ?_)
  refine lv_goto (tgt := 159) hx hb dM_init_182 (by decide) ?_
  refine lv_iload_n hx hb dM_init_159 rfl (lv_at hl 0 rfl) ?_
  refine lv_iconst (v := 4) hx hb dM_init_160 (by decide) ?_
  refine lv_icmp_ge (tgt := 185) hx hb dM_init_161 (by decide) (fun h => ((by revert h; decide : False)).elim) (fun _ => ?_)
  refine lv_aload_n hx hb dM_init_164 rfl (lv_at hl 2 rfl) ?_
  refine va_get (D := D) (ci := 5) (v := .ref q10) (C := "ValueBenchModel") (T := TM) (N := 32) hx hb htx inM hown hK hP 0 rfl rfl 24 (by decide) (htx _ kw_5_111) (fun _ h9 => h9) rfl dM_init_165 ?_
  refine lv_iload_n hx hb dM_init_168 rfl (lv_at hl 1 rfl) ?_
  refine xx_aldA hx hb hK hP 10 5 rfl rfl (show ¬ ((5 : Int32) < 0 ∨ 8 ≤ (5 : Int32).toNatClampNeg) by decide) dM_init_169 ?_
  refine W.eq (g2 := F0 m 170 ls [.ref q16]) rfl ?_
  refine lv_iload_n hx hb dM_init_170 rfl (lv_at hl 0 rfl) ?_
  refine va_ldcS (q := aK 10) hx hb hown (hZ.2.2.2.2.2.2.2.2.1 ("ValueBenchModel", 69, "null", 10) (List.mem_of_getElem? (i := 17) rfl)) dM_init_171 ?_
  refine lv_iload_n hx hb dM_init_173 rfl (lv_at hl 0 rfl) ?_
  obtain ⟨hPc, hDc, hFc⟩ := xcut (wc := []) hP hD hS hA [] rfl rfl (by decide)
  refine va_calli (va_runV (C := "java/lang/String") (As := [.int 2]) (rest := [.int 2, .ref q16]) ⟨hx, hb, hml, hown, htx⟩ (cJS_charAt_2 l hl9 D cT aK aV H.size) ⟨callB_of 1 htx (xw_goodC kw_2_80) rfl rfl rfl (htx _ kw_1_6) (htx _ kw_5_86) ⟨by decide, by decide, by decide +kernel⟩ ⟨Nat.le_of_ble_eq_true rfl, Nat.le_of_ble_eq_true rfl⟩, (htx _ kw_2_78), (htx _ kw_2_79)⟩ ⟨xPre_blind, vk_recv hZ.2.2.2.2.2.2.2.2.2.1 (i := 10) (by decide) hS, (fun U hU hW => ⟨rfl, xPre_of hZ hS hFc hPc hDc hK U hU hW⟩)⟩ rfl rfl hl.1 rfl (lv_room (Nat.le_of_ble_eq_true rfl)) dM_init_174 ⟨Nat.le_of_ble_eq_true rfl, Nat.le_of_ble_eq_true rfl⟩) hS (fun q _ h => hFc q h) hFc (fun r44 u9 t H1 locs ht hvm hr9 hB hz1 hk1 hS => ?_)
  obtain ⟨hP1, hK1, hD1⟩ := hB
  rw [ht] at hP1
  obtain ⟨hP, hD⟩ := xjoin (W := [(a0, .inr (5, [v1, .ref q1, v3, .ref q2, v5, .ref q3, .ref q4, v8, v9, v10, .ref q5, .ref q6, v13, .ref q7, .ref q8, v16, v17, v18, v19, .int 40, .int (-1), .ref q9, v23, .int 1000000000, .ref q10, .ref q19, .ref q20, v28, .ref q21, v30, v31, .int (-1)])), (q1, .inl (cT 4, 1024, .inr (.inr (.inr (.inr (fun _ => none)))))), (q2, .inl (cT 0, 4096, .inl (fun _ => 0))), (q3, .inl (cT 4, 1024, .inr (.inr (.inr (.inr (fun _ => none)))))), (q4, .inl (cT 4, 1024, .inr (.inr (.inr (.inr (fun _ => none)))))), (q5, .inl (cT 4, 256, .inr (.inr (.inr (.inr (fun _ => none)))))), (q6, .inl (cT 4, 256, .inr (.inr (.inr (.inr (fun _ => none)))))), (q7, .inl (cT 1, 64, .inl (fun _ => 0))), (q8, .inl (cT 1, 64, .inl (fun _ => 0))), (q9, .inl (cT 0, 1024, .inl (fun _ => 0))), (q10, .inl (cT 5, 8, .inr (.inr (.inr (.inr (x8 q11 q12 q13 q14 q15 q16 q17 q18)))))), (q11, .inl (cT 0, 4096, .inl (upd (upd (upd (upd (fun _ => 0) 0 110) 1 117) 2 108) 3 108))), (q12, .inl (cT 0, 4096, .inl (upd (upd (upd (upd (fun _ => 0) 0 110) 1 117) 2 108) 3 108))), (q13, .inl (cT 0, 4096, .inl (upd (upd (upd (upd (fun _ => 0) 0 110) 1 117) 2 108) 3 108))), (q14, .inl (cT 0, 4096, .inl (upd (upd (upd (upd (fun _ => 0) 0 110) 1 117) 2 108) 3 108))), (q15, .inl (cT 0, 4096, .inl (upd (upd (upd (upd (fun _ => 0) 0 110) 1 117) 2 108) 3 108))), (q16, .inl (cT 0, 4096, .inl (upd (upd (fun _ => 0) 0 110) 1 117))), (q17, .inl (cT 0, 4096, .inl (fun _ => 0))), (q18, .inl (cT 0, 4096, .inl (fun _ => 0))), (q19, .inl (cT 1, 8, .inl (upd (upd (upd (upd (upd (fun _ => 0) 0 4) 1 4) 2 4) 3 4) 4 4))), (q20, .inl (cT 0, 4096, .inl (fun _ => 0))), (q21, .inl (cT 0, 4096, .inl (fun _ => 0)))]) hP hD [] [0, 1, 2, 3, 4, 5, 6, 7, 8, 9, 10, 11, 12, 13, 14, 15, 16, 17, 18, 19, 20, 21] 22 rfl rfl (by decide) (by decide) hk1 hFc hP1 hD1
  generalize H1 = H at hP hS ⊢
  rw [hr9]
  refine W.eq (g2 := F0 m 177 ls [.int 108, .int 2, .ref q16]) rfl ?_
  refine lv_i2b hx hb dM_init_177 rfl ?_
  refine W.eq (g2 := F0 m 178 ls [.int 108, .int 2, .ref q16]) rfl ?_
  refine va_bast hx hb hK hP hD hS 16 0 rfl rfl (show ¬ ((2 : Int32) < 0 ∨ 4096 ≤ (2 : Int32).toNatClampNeg) by decide) dM_init_178 (fun H locs hP hD hS => ?_)
  obtain ⟨hP, hD⟩ : xPD D xcl A [(a0, .inr (5, [v1, .ref q1, v3, .ref q2, v5, .ref q3, .ref q4, v8, v9, v10, .ref q5, .ref q6, v13, .ref q7, .ref q8, v16, v17, v18, v19, .int 40, .int (-1), .ref q9, v23, .int 1000000000, .ref q10, .ref q19, .ref q20, v28, .ref q21, v30, v31, .int (-1)])), (q1, .inl (cT 4, 1024, .inr (.inr (.inr (.inr (fun _ => none)))))), (q2, .inl (cT 0, 4096, .inl (fun _ => 0))), (q3, .inl (cT 4, 1024, .inr (.inr (.inr (.inr (fun _ => none)))))), (q4, .inl (cT 4, 1024, .inr (.inr (.inr (.inr (fun _ => none)))))), (q5, .inl (cT 4, 256, .inr (.inr (.inr (.inr (fun _ => none)))))), (q6, .inl (cT 4, 256, .inr (.inr (.inr (.inr (fun _ => none)))))), (q7, .inl (cT 1, 64, .inl (fun _ => 0))), (q8, .inl (cT 1, 64, .inl (fun _ => 0))), (q9, .inl (cT 0, 1024, .inl (fun _ => 0))), (q10, .inl (cT 5, 8, .inr (.inr (.inr (.inr (x8 q11 q12 q13 q14 q15 q16 q17 q18)))))), (q11, .inl (cT 0, 4096, .inl (upd (upd (upd (upd (fun _ => 0) 0 110) 1 117) 2 108) 3 108))), (q12, .inl (cT 0, 4096, .inl (upd (upd (upd (upd (fun _ => 0) 0 110) 1 117) 2 108) 3 108))), (q13, .inl (cT 0, 4096, .inl (upd (upd (upd (upd (fun _ => 0) 0 110) 1 117) 2 108) 3 108))), (q14, .inl (cT 0, 4096, .inl (upd (upd (upd (upd (fun _ => 0) 0 110) 1 117) 2 108) 3 108))), (q15, .inl (cT 0, 4096, .inl (upd (upd (upd (upd (fun _ => 0) 0 110) 1 117) 2 108) 3 108))), (q16, .inl (cT 0, 4096, .inl (upd (upd (upd (fun _ => 0) 0 110) 1 117) 2 108))), (q17, .inl (cT 0, 4096, .inl (fun _ => 0))), (q18, .inl (cT 0, 4096, .inl (fun _ => 0))), (q19, .inl (cT 1, 8, .inl (upd (upd (upd (upd (upd (fun _ => 0) 0 4) 1 4) 2 4) 3 4) 4 4))), (q20, .inl (cT 0, 4096, .inl (fun _ => 0))), (q21, .inl (cT 0, 4096, .inl (fun _ => 0)))] H := ⟨hP, hD⟩
  refine lv_iinc (v := 3) (lv' := [(2, .int 3), (1, .int 5), (0, .ref a0)]) hx hb dM_init_179 hl (k := 0) rfl (by decide) (by decide) rfl (fun ls hl => ?_)
  refine lv_goto (tgt := 159) hx hb dM_init_182 (by decide) ?_
  refine lv_iload_n hx hb dM_init_159 rfl (lv_at hl 0 rfl) ?_
  refine lv_iconst (v := 4) hx hb dM_init_160 (by decide) ?_
  refine lv_icmp_ge (tgt := 185) hx hb dM_init_161 (by decide) (fun h => ((by revert h; decide : False)).elim) (fun _ => ?_)
  refine lv_aload_n hx hb dM_init_164 rfl (lv_at hl 2 rfl) ?_
  refine va_get (D := D) (ci := 5) (v := .ref q10) (C := "ValueBenchModel") (T := TM) (N := 32) hx hb htx inM hown hK hP 0 rfl rfl 24 (by decide) (htx _ kw_5_111) (fun _ h9 => h9) rfl dM_init_165 ?_
  refine lv_iload_n hx hb dM_init_168 rfl (lv_at hl 1 rfl) ?_
  refine xx_aldA hx hb hK hP 10 5 rfl rfl (show ¬ ((5 : Int32) < 0 ∨ 8 ≤ (5 : Int32).toNatClampNeg) by decide) dM_init_169 ?_
  refine W.eq (g2 := F0 m 170 ls [.ref q16]) rfl ?_
  refine lv_iload_n hx hb dM_init_170 rfl (lv_at hl 0 rfl) ?_
  refine va_ldcS (q := aK 10) hx hb hown (hZ.2.2.2.2.2.2.2.2.1 ("ValueBenchModel", 69, "null", 10) (List.mem_of_getElem? (i := 17) rfl)) dM_init_171 ?_
  refine lv_iload_n hx hb dM_init_173 rfl (lv_at hl 0 rfl) ?_
  obtain ⟨hPc, hDc, hFc⟩ := xcut (wc := []) hP hD hS hA [] rfl rfl (by decide)
  refine va_calli (va_runV (C := "java/lang/String") (As := [.int 3]) (rest := [.int 3, .ref q16]) ⟨hx, hb, hml, hown, htx⟩ (cJS_charAt_3 l hl9 D cT aK aV H.size) ⟨callB_of 1 htx (xw_goodC kw_2_80) rfl rfl rfl (htx _ kw_1_6) (htx _ kw_5_86) ⟨by decide, by decide, by decide +kernel⟩ ⟨Nat.le_of_ble_eq_true rfl, Nat.le_of_ble_eq_true rfl⟩, (htx _ kw_2_78), (htx _ kw_2_79)⟩ ⟨xPre_blind, vk_recv hZ.2.2.2.2.2.2.2.2.2.1 (i := 10) (by decide) hS, (fun U hU hW => ⟨rfl, xPre_of hZ hS hFc hPc hDc hK U hU hW⟩)⟩ rfl rfl hl.1 rfl (lv_room (Nat.le_of_ble_eq_true rfl)) dM_init_174 ⟨Nat.le_of_ble_eq_true rfl, Nat.le_of_ble_eq_true rfl⟩) hS (fun q _ h => hFc q h) hFc (fun r45 u9 t H1 locs ht hvm hr9 hB hz1 hk1 hS => ?_)
  obtain ⟨hP1, hK1, hD1⟩ := hB
  rw [ht] at hP1
  obtain ⟨hP, hD⟩ := xjoin (W := [(a0, .inr (5, [v1, .ref q1, v3, .ref q2, v5, .ref q3, .ref q4, v8, v9, v10, .ref q5, .ref q6, v13, .ref q7, .ref q8, v16, v17, v18, v19, .int 40, .int (-1), .ref q9, v23, .int 1000000000, .ref q10, .ref q19, .ref q20, v28, .ref q21, v30, v31, .int (-1)])), (q1, .inl (cT 4, 1024, .inr (.inr (.inr (.inr (fun _ => none)))))), (q2, .inl (cT 0, 4096, .inl (fun _ => 0))), (q3, .inl (cT 4, 1024, .inr (.inr (.inr (.inr (fun _ => none)))))), (q4, .inl (cT 4, 1024, .inr (.inr (.inr (.inr (fun _ => none)))))), (q5, .inl (cT 4, 256, .inr (.inr (.inr (.inr (fun _ => none)))))), (q6, .inl (cT 4, 256, .inr (.inr (.inr (.inr (fun _ => none)))))), (q7, .inl (cT 1, 64, .inl (fun _ => 0))), (q8, .inl (cT 1, 64, .inl (fun _ => 0))), (q9, .inl (cT 0, 1024, .inl (fun _ => 0))), (q10, .inl (cT 5, 8, .inr (.inr (.inr (.inr (x8 q11 q12 q13 q14 q15 q16 q17 q18)))))), (q11, .inl (cT 0, 4096, .inl (upd (upd (upd (upd (fun _ => 0) 0 110) 1 117) 2 108) 3 108))), (q12, .inl (cT 0, 4096, .inl (upd (upd (upd (upd (fun _ => 0) 0 110) 1 117) 2 108) 3 108))), (q13, .inl (cT 0, 4096, .inl (upd (upd (upd (upd (fun _ => 0) 0 110) 1 117) 2 108) 3 108))), (q14, .inl (cT 0, 4096, .inl (upd (upd (upd (upd (fun _ => 0) 0 110) 1 117) 2 108) 3 108))), (q15, .inl (cT 0, 4096, .inl (upd (upd (upd (upd (fun _ => 0) 0 110) 1 117) 2 108) 3 108))), (q16, .inl (cT 0, 4096, .inl (upd (upd (upd (fun _ => 0) 0 110) 1 117) 2 108))), (q17, .inl (cT 0, 4096, .inl (fun _ => 0))), (q18, .inl (cT 0, 4096, .inl (fun _ => 0))), (q19, .inl (cT 1, 8, .inl (upd (upd (upd (upd (upd (fun _ => 0) 0 4) 1 4) 2 4) 3 4) 4 4))), (q20, .inl (cT 0, 4096, .inl (fun _ => 0))), (q21, .inl (cT 0, 4096, .inl (fun _ => 0)))]) hP hD [] [0, 1, 2, 3, 4, 5, 6, 7, 8, 9, 10, 11, 12, 13, 14, 15, 16, 17, 18, 19, 20, 21] 22 rfl rfl (by decide) (by decide) hk1 hFc hP1 hD1
  generalize H1 = H at hP hS ⊢
  rw [hr9]
  refine W.eq (g2 := F0 m 177 ls [.int 108, .int 3, .ref q16]) rfl ?_
  refine lv_i2b hx hb dM_init_177 rfl ?_
  refine W.eq (g2 := F0 m 178 ls [.int 108, .int 3, .ref q16]) rfl ?_
  refine va_bast hx hb hK hP hD hS 16 0 rfl rfl (show ¬ ((3 : Int32) < 0 ∨ 4096 ≤ (3 : Int32).toNatClampNeg) by decide) dM_init_178 (fun H locs hP hD hS => ?_)
  obtain ⟨hP, hD⟩ : xPD D xcl A [(a0, .inr (5, [v1, .ref q1, v3, .ref q2, v5, .ref q3, .ref q4, v8, v9, v10, .ref q5, .ref q6, v13, .ref q7, .ref q8, v16, v17, v18, v19, .int 40, .int (-1), .ref q9, v23, .int 1000000000, .ref q10, .ref q19, .ref q20, v28, .ref q21, v30, v31, .int (-1)])), (q1, .inl (cT 4, 1024, .inr (.inr (.inr (.inr (fun _ => none)))))), (q2, .inl (cT 0, 4096, .inl (fun _ => 0))), (q3, .inl (cT 4, 1024, .inr (.inr (.inr (.inr (fun _ => none)))))), (q4, .inl (cT 4, 1024, .inr (.inr (.inr (.inr (fun _ => none)))))), (q5, .inl (cT 4, 256, .inr (.inr (.inr (.inr (fun _ => none)))))), (q6, .inl (cT 4, 256, .inr (.inr (.inr (.inr (fun _ => none)))))), (q7, .inl (cT 1, 64, .inl (fun _ => 0))), (q8, .inl (cT 1, 64, .inl (fun _ => 0))), (q9, .inl (cT 0, 1024, .inl (fun _ => 0))), (q10, .inl (cT 5, 8, .inr (.inr (.inr (.inr (x8 q11 q12 q13 q14 q15 q16 q17 q18)))))), (q11, .inl (cT 0, 4096, .inl (upd (upd (upd (upd (fun _ => 0) 0 110) 1 117) 2 108) 3 108))), (q12, .inl (cT 0, 4096, .inl (upd (upd (upd (upd (fun _ => 0) 0 110) 1 117) 2 108) 3 108))), (q13, .inl (cT 0, 4096, .inl (upd (upd (upd (upd (fun _ => 0) 0 110) 1 117) 2 108) 3 108))), (q14, .inl (cT 0, 4096, .inl (upd (upd (upd (upd (fun _ => 0) 0 110) 1 117) 2 108) 3 108))), (q15, .inl (cT 0, 4096, .inl (upd (upd (upd (upd (fun _ => 0) 0 110) 1 117) 2 108) 3 108))), (q16, .inl (cT 0, 4096, .inl (upd (upd (upd (upd (fun _ => 0) 0 110) 1 117) 2 108) 3 108))), (q17, .inl (cT 0, 4096, .inl (fun _ => 0))), (q18, .inl (cT 0, 4096, .inl (fun _ => 0))), (q19, .inl (cT 1, 8, .inl (upd (upd (upd (upd (upd (fun _ => 0) 0 4) 1 4) 2 4) 3 4) 4 4))), (q20, .inl (cT 0, 4096, .inl (fun _ => 0))), (q21, .inl (cT 0, 4096, .inl (fun _ => 0)))] H := ⟨hP, hD⟩
  refine lv_iinc (v := 4) (lv' := [(2, .int 4), (1, .int 5), (0, .ref a0)]) hx hb dM_init_179 hl (k := 0) rfl (by decide) (by decide) rfl (fun ls hl => ?_)
  refine lv_goto (tgt := 159) hx hb dM_init_182 (by decide) ?_
  refine lv_iload_n hx hb dM_init_159 rfl (lv_at hl 0 rfl) ?_
  refine lv_iconst (v := 4) hx hb dM_init_160 (by decide) ?_
  refine lv_icmp_ge (tgt := 185) hx hb dM_init_161 (by decide) (fun _ => ?_) (fun h => ((by revert h; decide : False)).elim)
  refine lv_aload_n hx hb dM_init_185 rfl (lv_at hl 2 rfl) ?_
  refine va_get (D := D) (ci := 5) (v := .ref q19) (C := "ValueBenchModel") (T := TM) (N := 32) hx hb htx inM hown hK hP 0 rfl rfl 25 (by decide) (htx _ kw_5_112) (fun _ h9 => h9) rfl dM_init_186 ?_
  refine lv_iload_n hx hb dM_init_189 rfl (lv_at hl 1 rfl) ?_
  refine lv_iconst (v := 4) hx hb dM_init_190 (by decide) ?_
  refine va_iast hx hb hK hP hD hS 19 1 rfl rfl (show ¬ ((5 : Int32) < 0 ∨ 8 ≤ (5 : Int32).toNatClampNeg) by decide) dM_init_191 (fun H locs hP hD hS => ?_)
  obtain ⟨hP, hD⟩ : xPD D xcl A [(a0, .inr (5, [v1, .ref q1, v3, .ref q2, v5, .ref q3, .ref q4, v8, v9, v10, .ref q5, .ref q6, v13, .ref q7, .ref q8, v16, v17, v18, v19, .int 40, .int (-1), .ref q9, v23, .int 1000000000, .ref q10, .ref q19, .ref q20, v28, .ref q21, v30, v31, .int (-1)])), (q1, .inl (cT 4, 1024, .inr (.inr (.inr (.inr (fun _ => none)))))), (q2, .inl (cT 0, 4096, .inl (fun _ => 0))), (q3, .inl (cT 4, 1024, .inr (.inr (.inr (.inr (fun _ => none)))))), (q4, .inl (cT 4, 1024, .inr (.inr (.inr (.inr (fun _ => none)))))), (q5, .inl (cT 4, 256, .inr (.inr (.inr (.inr (fun _ => none)))))), (q6, .inl (cT 4, 256, .inr (.inr (.inr (.inr (fun _ => none)))))), (q7, .inl (cT 1, 64, .inl (fun _ => 0))), (q8, .inl (cT 1, 64, .inl (fun _ => 0))), (q9, .inl (cT 0, 1024, .inl (fun _ => 0))), (q10, .inl (cT 5, 8, .inr (.inr (.inr (.inr (x8 q11 q12 q13 q14 q15 q16 q17 q18)))))), (q11, .inl (cT 0, 4096, .inl (upd (upd (upd (upd (fun _ => 0) 0 110) 1 117) 2 108) 3 108))), (q12, .inl (cT 0, 4096, .inl (upd (upd (upd (upd (fun _ => 0) 0 110) 1 117) 2 108) 3 108))), (q13, .inl (cT 0, 4096, .inl (upd (upd (upd (upd (fun _ => 0) 0 110) 1 117) 2 108) 3 108))), (q14, .inl (cT 0, 4096, .inl (upd (upd (upd (upd (fun _ => 0) 0 110) 1 117) 2 108) 3 108))), (q15, .inl (cT 0, 4096, .inl (upd (upd (upd (upd (fun _ => 0) 0 110) 1 117) 2 108) 3 108))), (q16, .inl (cT 0, 4096, .inl (upd (upd (upd (upd (fun _ => 0) 0 110) 1 117) 2 108) 3 108))), (q17, .inl (cT 0, 4096, .inl (fun _ => 0))), (q18, .inl (cT 0, 4096, .inl (fun _ => 0))), (q19, .inl (cT 1, 8, .inl (upd (upd (upd (upd (upd (upd (fun _ => 0) 0 4) 1 4) 2 4) 3 4) 4 4) 5 4))), (q20, .inl (cT 0, 4096, .inl (fun _ => 0))), (q21, .inl (cT 0, 4096, .inl (fun _ => 0)))] H := ⟨hP, hD⟩
  refine lv_iinc (v := 6) (lv' := [(1, .int 6), (2, .int 4), (0, .ref a0)]) hx hb dM_init_192 hl (k := 1) rfl (by decide) (by decide) rfl (fun ls hl => ?_)
  refine lv_goto (tgt := 151) hx hb dM_init_195 (by decide) ?_
  refine lv_iload_n hx hb dM_init_151 rfl (lv_at hl 0 rfl) ?_
  refine lv_bipush (v := 8) hx hb dM_init_152 (by decide) ?_
  refine lv_icmp_ge (tgt := 198) hx hb dM_init_154 (by decide) (fun h => ((by revert h; decide : False)).elim) (fun _ => ?_)
  refine lv_iconst (v := 0) hx hb dM_init_157 (by decide) ?_
  refine lv_istore_n (lv' := [(2, .int 0), (1, .int 6), (0, .ref a0)]) hx hb dM_init_158 rfl hl (by decide) rfl (fun ls hl => ?_)
  refine lv_iload_n hx hb dM_init_159 rfl (lv_at hl 0 rfl) ?_
  refine lv_iconst (v := 4) hx hb dM_init_160 (by decide) ?_
  refine lv_icmp_ge (tgt := 185) hx hb dM_init_161 (by decide) (fun h => ((by revert h; decide : False)).elim) (fun _ => ?_)
  refine lv_aload_n hx hb dM_init_164 rfl (lv_at hl 2 rfl) ?_
  refine va_get (D := D) (ci := 5) (v := .ref q10) (C := "ValueBenchModel") (T := TM) (N := 32) hx hb htx inM hown hK hP 0 rfl rfl 24 (by decide) (htx _ kw_5_111) (fun _ h9 => h9) rfl dM_init_165 ?_
  refine lv_iload_n hx hb dM_init_168 rfl (lv_at hl 1 rfl) ?_
  refine xx_aldA hx hb hK hP 10 5 rfl rfl (show ¬ ((6 : Int32) < 0 ∨ 8 ≤ (6 : Int32).toNatClampNeg) by decide) dM_init_169 ?_
  refine W.eq (g2 := F0 m 170 ls [.ref q17]) rfl ?_
  refine lv_iload_n hx hb dM_init_170 rfl (lv_at hl 0 rfl) ?_
  refine va_ldcS (q := aK 10) hx hb hown (hZ.2.2.2.2.2.2.2.2.1 ("ValueBenchModel", 69, "null", 10) (List.mem_of_getElem? (i := 17) rfl)) dM_init_171 ?_
  refine lv_iload_n hx hb dM_init_173 rfl (lv_at hl 0 rfl) ?_
  obtain ⟨hPc, hDc, hFc⟩ := xcut (wc := []) hP hD hS hA [] rfl rfl (by decide)
  refine va_calli (va_runV (C := "java/lang/String") (As := [.int 0]) (rest := [.int 0, .ref q17]) ⟨hx, hb, hml, hown, htx⟩ (cJS_charAt_0 l hl9 D cT aK aV H.size) ⟨callB_of 1 htx (xw_goodC kw_2_80) rfl rfl rfl (htx _ kw_1_6) (htx _ kw_5_86) ⟨by decide, by decide, by decide +kernel⟩ ⟨Nat.le_of_ble_eq_true rfl, Nat.le_of_ble_eq_true rfl⟩, (htx _ kw_2_78), (htx _ kw_2_79)⟩ ⟨xPre_blind, vk_recv hZ.2.2.2.2.2.2.2.2.2.1 (i := 10) (by decide) hS, (fun U hU hW => ⟨rfl, xPre_of hZ hS hFc hPc hDc hK U hU hW⟩)⟩ rfl rfl hl.1 rfl (lv_room (Nat.le_of_ble_eq_true rfl)) dM_init_174 ⟨Nat.le_of_ble_eq_true rfl, Nat.le_of_ble_eq_true rfl⟩) hS (fun q _ h => hFc q h) hFc (fun r46 u9 t H1 locs ht hvm hr9 hB hz1 hk1 hS => ?_)
  obtain ⟨hP1, hK1, hD1⟩ := hB
  rw [ht] at hP1
  obtain ⟨hP, hD⟩ := xjoin (W := [(a0, .inr (5, [v1, .ref q1, v3, .ref q2, v5, .ref q3, .ref q4, v8, v9, v10, .ref q5, .ref q6, v13, .ref q7, .ref q8, v16, v17, v18, v19, .int 40, .int (-1), .ref q9, v23, .int 1000000000, .ref q10, .ref q19, .ref q20, v28, .ref q21, v30, v31, .int (-1)])), (q1, .inl (cT 4, 1024, .inr (.inr (.inr (.inr (fun _ => none)))))), (q2, .inl (cT 0, 4096, .inl (fun _ => 0))), (q3, .inl (cT 4, 1024, .inr (.inr (.inr (.inr (fun _ => none)))))), (q4, .inl (cT 4, 1024, .inr (.inr (.inr (.inr (fun _ => none)))))), (q5, .inl (cT 4, 256, .inr (.inr (.inr (.inr (fun _ => none)))))), (q6, .inl (cT 4, 256, .inr (.inr (.inr (.inr (fun _ => none)))))), (q7, .inl (cT 1, 64, .inl (fun _ => 0))), (q8, .inl (cT 1, 64, .inl (fun _ => 0))), (q9, .inl (cT 0, 1024, .inl (fun _ => 0))), (q10, .inl (cT 5, 8, .inr (.inr (.inr (.inr (x8 q11 q12 q13 q14 q15 q16 q17 q18)))))), (q11, .inl (cT 0, 4096, .inl (upd (upd (upd (upd (fun _ => 0) 0 110) 1 117) 2 108) 3 108))), (q12, .inl (cT 0, 4096, .inl (upd (upd (upd (upd (fun _ => 0) 0 110) 1 117) 2 108) 3 108))), (q13, .inl (cT 0, 4096, .inl (upd (upd (upd (upd (fun _ => 0) 0 110) 1 117) 2 108) 3 108))), (q14, .inl (cT 0, 4096, .inl (upd (upd (upd (upd (fun _ => 0) 0 110) 1 117) 2 108) 3 108))), (q15, .inl (cT 0, 4096, .inl (upd (upd (upd (upd (fun _ => 0) 0 110) 1 117) 2 108) 3 108))), (q16, .inl (cT 0, 4096, .inl (upd (upd (upd (upd (fun _ => 0) 0 110) 1 117) 2 108) 3 108))), (q17, .inl (cT 0, 4096, .inl (fun _ => 0))), (q18, .inl (cT 0, 4096, .inl (fun _ => 0))), (q19, .inl (cT 1, 8, .inl (upd (upd (upd (upd (upd (upd (fun _ => 0) 0 4) 1 4) 2 4) 3 4) 4 4) 5 4))), (q20, .inl (cT 0, 4096, .inl (fun _ => 0))), (q21, .inl (cT 0, 4096, .inl (fun _ => 0)))]) hP hD [] [0, 1, 2, 3, 4, 5, 6, 7, 8, 9, 10, 11, 12, 13, 14, 15, 16, 17, 18, 19, 20, 21] 22 rfl rfl (by decide) (by decide) hk1 hFc hP1 hD1
  generalize H1 = H at hP hS ⊢
  rw [hr9]
  refine W.eq (g2 := F0 m 177 ls [.int 110, .int 0, .ref q17]) rfl ?_
  refine lv_i2b hx hb dM_init_177 rfl ?_
  refine W.eq (g2 := F0 m 178 ls [.int 110, .int 0, .ref q17]) rfl ?_
  refine va_bast hx hb hK hP hD hS 17 0 rfl rfl (show ¬ ((0 : Int32) < 0 ∨ 4096 ≤ (0 : Int32).toNatClampNeg) by decide) dM_init_178 (fun H locs hP hD hS => ?_)
  obtain ⟨hP, hD⟩ : xPD D xcl A [(a0, .inr (5, [v1, .ref q1, v3, .ref q2, v5, .ref q3, .ref q4, v8, v9, v10, .ref q5, .ref q6, v13, .ref q7, .ref q8, v16, v17, v18, v19, .int 40, .int (-1), .ref q9, v23, .int 1000000000, .ref q10, .ref q19, .ref q20, v28, .ref q21, v30, v31, .int (-1)])), (q1, .inl (cT 4, 1024, .inr (.inr (.inr (.inr (fun _ => none)))))), (q2, .inl (cT 0, 4096, .inl (fun _ => 0))), (q3, .inl (cT 4, 1024, .inr (.inr (.inr (.inr (fun _ => none)))))), (q4, .inl (cT 4, 1024, .inr (.inr (.inr (.inr (fun _ => none)))))), (q5, .inl (cT 4, 256, .inr (.inr (.inr (.inr (fun _ => none)))))), (q6, .inl (cT 4, 256, .inr (.inr (.inr (.inr (fun _ => none)))))), (q7, .inl (cT 1, 64, .inl (fun _ => 0))), (q8, .inl (cT 1, 64, .inl (fun _ => 0))), (q9, .inl (cT 0, 1024, .inl (fun _ => 0))), (q10, .inl (cT 5, 8, .inr (.inr (.inr (.inr (x8 q11 q12 q13 q14 q15 q16 q17 q18)))))), (q11, .inl (cT 0, 4096, .inl (upd (upd (upd (upd (fun _ => 0) 0 110) 1 117) 2 108) 3 108))), (q12, .inl (cT 0, 4096, .inl (upd (upd (upd (upd (fun _ => 0) 0 110) 1 117) 2 108) 3 108))), (q13, .inl (cT 0, 4096, .inl (upd (upd (upd (upd (fun _ => 0) 0 110) 1 117) 2 108) 3 108))), (q14, .inl (cT 0, 4096, .inl (upd (upd (upd (upd (fun _ => 0) 0 110) 1 117) 2 108) 3 108))), (q15, .inl (cT 0, 4096, .inl (upd (upd (upd (upd (fun _ => 0) 0 110) 1 117) 2 108) 3 108))), (q16, .inl (cT 0, 4096, .inl (upd (upd (upd (upd (fun _ => 0) 0 110) 1 117) 2 108) 3 108))), (q17, .inl (cT 0, 4096, .inl (upd (fun _ => 0) 0 110))), (q18, .inl (cT 0, 4096, .inl (fun _ => 0))), (q19, .inl (cT 1, 8, .inl (upd (upd (upd (upd (upd (upd (fun _ => 0) 0 4) 1 4) 2 4) 3 4) 4 4) 5 4))), (q20, .inl (cT 0, 4096, .inl (fun _ => 0))), (q21, .inl (cT 0, 4096, .inl (fun _ => 0)))] H := ⟨hP, hD⟩
  refine lv_iinc (v := 1) (lv' := [(2, .int 1), (1, .int 6), (0, .ref a0)]) hx hb dM_init_179 hl (k := 0) rfl (by decide) (by decide) rfl (fun ls hl => ?_)
  refine lv_goto (tgt := 159) hx hb dM_init_182 (by decide) ?_
  refine lv_iload_n hx hb dM_init_159 rfl (lv_at hl 0 rfl) ?_
  refine lv_iconst (v := 4) hx hb dM_init_160 (by decide) ?_
  refine lv_icmp_ge (tgt := 185) hx hb dM_init_161 (by decide) (fun h => ((by revert h; decide : False)).elim) (fun _ => ?_)
  refine lv_aload_n hx hb dM_init_164 rfl (lv_at hl 2 rfl) ?_
  refine va_get (D := D) (ci := 5) (v := .ref q10) (C := "ValueBenchModel") (T := TM) (N := 32) hx hb htx inM hown hK hP 0 rfl rfl 24 (by decide) (htx _ kw_5_111) (fun _ h9 => h9) rfl dM_init_165 ?_
  refine lv_iload_n hx hb dM_init_168 rfl (lv_at hl 1 rfl) ?_
  refine xx_aldA hx hb hK hP 10 5 rfl rfl (show ¬ ((6 : Int32) < 0 ∨ 8 ≤ (6 : Int32).toNatClampNeg) by decide) dM_init_169 ?_
  refine W.eq (g2 := F0 m 170 ls [.ref q17]) rfl ?_
  refine lv_iload_n hx hb dM_init_170 rfl (lv_at hl 0 rfl) ?_
  refine va_ldcS (q := aK 10) hx hb hown (hZ.2.2.2.2.2.2.2.2.1 ("ValueBenchModel", 69, "null", 10) (List.mem_of_getElem? (i := 17) rfl)) dM_init_171 ?_
  refine lv_iload_n hx hb dM_init_173 rfl (lv_at hl 0 rfl) ?_
  obtain ⟨hPc, hDc, hFc⟩ := xcut (wc := []) hP hD hS hA [] rfl rfl (by decide)
  refine va_calli (va_runV (C := "java/lang/String") (As := [.int 1]) (rest := [.int 1, .ref q17]) ⟨hx, hb, hml, hown, htx⟩ (cJS_charAt_1 l hl9 D cT aK aV H.size) ⟨callB_of 1 htx (xw_goodC kw_2_80) rfl rfl rfl (htx _ kw_1_6) (htx _ kw_5_86) ⟨by decide, by decide, by decide +kernel⟩ ⟨Nat.le_of_ble_eq_true rfl, Nat.le_of_ble_eq_true rfl⟩, (htx _ kw_2_78), (htx _ kw_2_79)⟩ ⟨xPre_blind, vk_recv hZ.2.2.2.2.2.2.2.2.2.1 (i := 10) (by decide) hS, (fun U hU hW => ⟨rfl, xPre_of hZ hS hFc hPc hDc hK U hU hW⟩)⟩ rfl rfl hl.1 rfl (lv_room (Nat.le_of_ble_eq_true rfl)) dM_init_174 ⟨Nat.le_of_ble_eq_true rfl, Nat.le_of_ble_eq_true rfl⟩) hS (fun q _ h => hFc q h) hFc (fun r47 u9 t H1 locs ht hvm hr9 hB hz1 hk1 hS => ?_)
  obtain ⟨hP1, hK1, hD1⟩ := hB
  rw [ht] at hP1
  obtain ⟨hP, hD⟩ := xjoin (W := [(a0, .inr (5, [v1, .ref q1, v3, .ref q2, v5, .ref q3, .ref q4, v8, v9, v10, .ref q5, .ref q6, v13, .ref q7, .ref q8, v16, v17, v18, v19, .int 40, .int (-1), .ref q9, v23, .int 1000000000, .ref q10, .ref q19, .ref q20, v28, .ref q21, v30, v31, .int (-1)])), (q1, .inl (cT 4, 1024, .inr (.inr (.inr (.inr (fun _ => none)))))), (q2, .inl (cT 0, 4096, .inl (fun _ => 0))), (q3, .inl (cT 4, 1024, .inr (.inr (.inr (.inr (fun _ => none)))))), (q4, .inl (cT 4, 1024, .inr (.inr (.inr (.inr (fun _ => none)))))), (q5, .inl (cT 4, 256, .inr (.inr (.inr (.inr (fun _ => none)))))), (q6, .inl (cT 4, 256, .inr (.inr (.inr (.inr (fun _ => none)))))), (q7, .inl (cT 1, 64, .inl (fun _ => 0))), (q8, .inl (cT 1, 64, .inl (fun _ => 0))), (q9, .inl (cT 0, 1024, .inl (fun _ => 0))), (q10, .inl (cT 5, 8, .inr (.inr (.inr (.inr (x8 q11 q12 q13 q14 q15 q16 q17 q18)))))), (q11, .inl (cT 0, 4096, .inl (upd (upd (upd (upd (fun _ => 0) 0 110) 1 117) 2 108) 3 108))), (q12, .inl (cT 0, 4096, .inl (upd (upd (upd (upd (fun _ => 0) 0 110) 1 117) 2 108) 3 108))), (q13, .inl (cT 0, 4096, .inl (upd (upd (upd (upd (fun _ => 0) 0 110) 1 117) 2 108) 3 108))), (q14, .inl (cT 0, 4096, .inl (upd (upd (upd (upd (fun _ => 0) 0 110) 1 117) 2 108) 3 108))), (q15, .inl (cT 0, 4096, .inl (upd (upd (upd (upd (fun _ => 0) 0 110) 1 117) 2 108) 3 108))), (q16, .inl (cT 0, 4096, .inl (upd (upd (upd (upd (fun _ => 0) 0 110) 1 117) 2 108) 3 108))), (q17, .inl (cT 0, 4096, .inl (upd (fun _ => 0) 0 110))), (q18, .inl (cT 0, 4096, .inl (fun _ => 0))), (q19, .inl (cT 1, 8, .inl (upd (upd (upd (upd (upd (upd (fun _ => 0) 0 4) 1 4) 2 4) 3 4) 4 4) 5 4))), (q20, .inl (cT 0, 4096, .inl (fun _ => 0))), (q21, .inl (cT 0, 4096, .inl (fun _ => 0)))]) hP hD [] [0, 1, 2, 3, 4, 5, 6, 7, 8, 9, 10, 11, 12, 13, 14, 15, 16, 17, 18, 19, 20, 21] 22 rfl rfl (by decide) (by decide) hk1 hFc hP1 hD1
  generalize H1 = H at hP hS ⊢
  rw [hr9]
  refine W.eq (g2 := F0 m 177 ls [.int 117, .int 1, .ref q17]) rfl ?_
  refine lv_i2b hx hb dM_init_177 rfl ?_
  refine W.eq (g2 := F0 m 178 ls [.int 117, .int 1, .ref q17]) rfl ?_
  refine va_bast hx hb hK hP hD hS 17 0 rfl rfl (show ¬ ((1 : Int32) < 0 ∨ 4096 ≤ (1 : Int32).toNatClampNeg) by decide) dM_init_178 (fun H locs hP hD hS => ?_)
  obtain ⟨hP, hD⟩ : xPD D xcl A [(a0, .inr (5, [v1, .ref q1, v3, .ref q2, v5, .ref q3, .ref q4, v8, v9, v10, .ref q5, .ref q6, v13, .ref q7, .ref q8, v16, v17, v18, v19, .int 40, .int (-1), .ref q9, v23, .int 1000000000, .ref q10, .ref q19, .ref q20, v28, .ref q21, v30, v31, .int (-1)])), (q1, .inl (cT 4, 1024, .inr (.inr (.inr (.inr (fun _ => none)))))), (q2, .inl (cT 0, 4096, .inl (fun _ => 0))), (q3, .inl (cT 4, 1024, .inr (.inr (.inr (.inr (fun _ => none)))))), (q4, .inl (cT 4, 1024, .inr (.inr (.inr (.inr (fun _ => none)))))), (q5, .inl (cT 4, 256, .inr (.inr (.inr (.inr (fun _ => none)))))), (q6, .inl (cT 4, 256, .inr (.inr (.inr (.inr (fun _ => none)))))), (q7, .inl (cT 1, 64, .inl (fun _ => 0))), (q8, .inl (cT 1, 64, .inl (fun _ => 0))), (q9, .inl (cT 0, 1024, .inl (fun _ => 0))), (q10, .inl (cT 5, 8, .inr (.inr (.inr (.inr (x8 q11 q12 q13 q14 q15 q16 q17 q18)))))), (q11, .inl (cT 0, 4096, .inl (upd (upd (upd (upd (fun _ => 0) 0 110) 1 117) 2 108) 3 108))), (q12, .inl (cT 0, 4096, .inl (upd (upd (upd (upd (fun _ => 0) 0 110) 1 117) 2 108) 3 108))), (q13, .inl (cT 0, 4096, .inl (upd (upd (upd (upd (fun _ => 0) 0 110) 1 117) 2 108) 3 108))), (q14, .inl (cT 0, 4096, .inl (upd (upd (upd (upd (fun _ => 0) 0 110) 1 117) 2 108) 3 108))), (q15, .inl (cT 0, 4096, .inl (upd (upd (upd (upd (fun _ => 0) 0 110) 1 117) 2 108) 3 108))), (q16, .inl (cT 0, 4096, .inl (upd (upd (upd (upd (fun _ => 0) 0 110) 1 117) 2 108) 3 108))), (q17, .inl (cT 0, 4096, .inl (upd (upd (fun _ => 0) 0 110) 1 117))), (q18, .inl (cT 0, 4096, .inl (fun _ => 0))), (q19, .inl (cT 1, 8, .inl (upd (upd (upd (upd (upd (upd (fun _ => 0) 0 4) 1 4) 2 4) 3 4) 4 4) 5 4))), (q20, .inl (cT 0, 4096, .inl (fun _ => 0))), (q21, .inl (cT 0, 4096, .inl (fun _ => 0)))] H := ⟨hP, hD⟩
  refine lv_iinc (v := 2) (lv' := [(2, .int 2), (1, .int 6), (0, .ref a0)]) hx hb dM_init_179 hl (k := 0) rfl (by decide) (by decide) rfl (fun ls hl => ?_)
  refine lv_goto (tgt := 159) hx hb dM_init_182 (by decide) ?_
  refine lv_iload_n hx hb dM_init_159 rfl (lv_at hl 0 rfl) ?_
  refine lv_iconst (v := 4) hx hb dM_init_160 (by decide) ?_
  refine lv_icmp_ge (tgt := 185) hx hb dM_init_161 (by decide) (fun h => ((by revert h; decide : False)).elim) (fun _ => ?_)
  refine lv_aload_n hx hb dM_init_164 rfl (lv_at hl 2 rfl) ?_
  refine va_get (D := D) (ci := 5) (v := .ref q10) (C := "ValueBenchModel") (T := TM) (N := 32) hx hb htx inM hown hK hP 0 rfl rfl 24 (by decide) (htx _ kw_5_111) (fun _ h9 => h9) rfl dM_init_165 ?_
  refine lv_iload_n hx hb dM_init_168 rfl (lv_at hl 1 rfl) ?_
  refine xx_aldA hx hb hK hP 10 5 rfl rfl (show ¬ ((6 : Int32) < 0 ∨ 8 ≤ (6 : Int32).toNatClampNeg) by decide) dM_init_169 ?_
  refine W.eq (g2 := F0 m 170 ls [.ref q17]) rfl ?_
  refine lv_iload_n hx hb dM_init_170 rfl (lv_at hl 0 rfl) ?_
  refine va_ldcS (q := aK 10) hx hb hown (hZ.2.2.2.2.2.2.2.2.1 ("ValueBenchModel", 69, "null", 10) (List.mem_of_getElem? (i := 17) rfl)) dM_init_171 ?_
  refine lv_iload_n hx hb dM_init_173 rfl (lv_at hl 0 rfl) ?_
  obtain ⟨hPc, hDc, hFc⟩ := xcut (wc := []) hP hD hS hA [] rfl rfl (by decide)
  refine va_calli (va_runV (C := "java/lang/String") (As := [.int 2]) (rest := [.int 2, .ref q17]) ⟨hx, hb, hml, hown, htx⟩ (cJS_charAt_2 l hl9 D cT aK aV H.size) ⟨callB_of 1 htx (xw_goodC kw_2_80) rfl rfl rfl (htx _ kw_1_6) (htx _ kw_5_86) ⟨by decide, by decide, by decide +kernel⟩ ⟨Nat.le_of_ble_eq_true rfl, Nat.le_of_ble_eq_true rfl⟩, (htx _ kw_2_78), (htx _ kw_2_79)⟩ ⟨xPre_blind, vk_recv hZ.2.2.2.2.2.2.2.2.2.1 (i := 10) (by decide) hS, (fun U hU hW => ⟨rfl, xPre_of hZ hS hFc hPc hDc hK U hU hW⟩)⟩ rfl rfl hl.1 rfl (lv_room (Nat.le_of_ble_eq_true rfl)) dM_init_174 ⟨Nat.le_of_ble_eq_true rfl, Nat.le_of_ble_eq_true rfl⟩) hS (fun q _ h => hFc q h) hFc (fun r48 u9 t H1 locs ht hvm hr9 hB hz1 hk1 hS => ?_)
  obtain ⟨hP1, hK1, hD1⟩ := hB
  rw [ht] at hP1
  obtain ⟨hP, hD⟩ := xjoin (W := [(a0, .inr (5, [v1, .ref q1, v3, .ref q2, v5, .ref q3, .ref q4, v8, v9, v10, .ref q5, .ref q6, v13, .ref q7, .ref q8, v16, v17, v18, v19, .int 40, .int (-1), .ref q9, v23, .int 1000000000, .ref q10, .ref q19, .ref q20, v28, .ref q21, v30, v31, .int (-1)])), (q1, .inl (cT 4, 1024, .inr (.inr (.inr (.inr (fun _ => none)))))), (q2, .inl (cT 0, 4096, .inl (fun _ => 0))), (q3, .inl (cT 4, 1024, .inr (.inr (.inr (.inr (fun _ => none)))))), (q4, .inl (cT 4, 1024, .inr (.inr (.inr (.inr (fun _ => none)))))), (q5, .inl (cT 4, 256, .inr (.inr (.inr (.inr (fun _ => none)))))), (q6, .inl (cT 4, 256, .inr (.inr (.inr (.inr (fun _ => none)))))), (q7, .inl (cT 1, 64, .inl (fun _ => 0))), (q8, .inl (cT 1, 64, .inl (fun _ => 0))), (q9, .inl (cT 0, 1024, .inl (fun _ => 0))), (q10, .inl (cT 5, 8, .inr (.inr (.inr (.inr (x8 q11 q12 q13 q14 q15 q16 q17 q18)))))), (q11, .inl (cT 0, 4096, .inl (upd (upd (upd (upd (fun _ => 0) 0 110) 1 117) 2 108) 3 108))), (q12, .inl (cT 0, 4096, .inl (upd (upd (upd (upd (fun _ => 0) 0 110) 1 117) 2 108) 3 108))), (q13, .inl (cT 0, 4096, .inl (upd (upd (upd (upd (fun _ => 0) 0 110) 1 117) 2 108) 3 108))), (q14, .inl (cT 0, 4096, .inl (upd (upd (upd (upd (fun _ => 0) 0 110) 1 117) 2 108) 3 108))), (q15, .inl (cT 0, 4096, .inl (upd (upd (upd (upd (fun _ => 0) 0 110) 1 117) 2 108) 3 108))), (q16, .inl (cT 0, 4096, .inl (upd (upd (upd (upd (fun _ => 0) 0 110) 1 117) 2 108) 3 108))), (q17, .inl (cT 0, 4096, .inl (upd (upd (fun _ => 0) 0 110) 1 117))), (q18, .inl (cT 0, 4096, .inl (fun _ => 0))), (q19, .inl (cT 1, 8, .inl (upd (upd (upd (upd (upd (upd (fun _ => 0) 0 4) 1 4) 2 4) 3 4) 4 4) 5 4))), (q20, .inl (cT 0, 4096, .inl (fun _ => 0))), (q21, .inl (cT 0, 4096, .inl (fun _ => 0)))]) hP hD [] [0, 1, 2, 3, 4, 5, 6, 7, 8, 9, 10, 11, 12, 13, 14, 15, 16, 17, 18, 19, 20, 21] 22 rfl rfl (by decide) (by decide) hk1 hFc hP1 hD1
  generalize H1 = H at hP hS ⊢
  rw [hr9]
  refine W.eq (g2 := F0 m 177 ls [.int 108, .int 2, .ref q17]) rfl ?_
  refine lv_i2b hx hb dM_init_177 rfl ?_
  refine W.eq (g2 := F0 m 178 ls [.int 108, .int 2, .ref q17]) rfl ?_
  refine va_bast hx hb hK hP hD hS 17 0 rfl rfl (show ¬ ((2 : Int32) < 0 ∨ 4096 ≤ (2 : Int32).toNatClampNeg) by decide) dM_init_178 (fun H locs hP hD hS => ?_)
  obtain ⟨hP, hD⟩ : xPD D xcl A [(a0, .inr (5, [v1, .ref q1, v3, .ref q2, v5, .ref q3, .ref q4, v8, v9, v10, .ref q5, .ref q6, v13, .ref q7, .ref q8, v16, v17, v18, v19, .int 40, .int (-1), .ref q9, v23, .int 1000000000, .ref q10, .ref q19, .ref q20, v28, .ref q21, v30, v31, .int (-1)])), (q1, .inl (cT 4, 1024, .inr (.inr (.inr (.inr (fun _ => none)))))), (q2, .inl (cT 0, 4096, .inl (fun _ => 0))), (q3, .inl (cT 4, 1024, .inr (.inr (.inr (.inr (fun _ => none)))))), (q4, .inl (cT 4, 1024, .inr (.inr (.inr (.inr (fun _ => none)))))), (q5, .inl (cT 4, 256, .inr (.inr (.inr (.inr (fun _ => none)))))), (q6, .inl (cT 4, 256, .inr (.inr (.inr (.inr (fun _ => none)))))), (q7, .inl (cT 1, 64, .inl (fun _ => 0))), (q8, .inl (cT 1, 64, .inl (fun _ => 0))), (q9, .inl (cT 0, 1024, .inl (fun _ => 0))), (q10, .inl (cT 5, 8, .inr (.inr (.inr (.inr (x8 q11 q12 q13 q14 q15 q16 q17 q18)))))), (q11, .inl (cT 0, 4096, .inl (upd (upd (upd (upd (fun _ => 0) 0 110) 1 117) 2 108) 3 108))), (q12, .inl (cT 0, 4096, .inl (upd (upd (upd (upd (fun _ => 0) 0 110) 1 117) 2 108) 3 108))), (q13, .inl (cT 0, 4096, .inl (upd (upd (upd (upd (fun _ => 0) 0 110) 1 117) 2 108) 3 108))), (q14, .inl (cT 0, 4096, .inl (upd (upd (upd (upd (fun _ => 0) 0 110) 1 117) 2 108) 3 108))), (q15, .inl (cT 0, 4096, .inl (upd (upd (upd (upd (fun _ => 0) 0 110) 1 117) 2 108) 3 108))), (q16, .inl (cT 0, 4096, .inl (upd (upd (upd (upd (fun _ => 0) 0 110) 1 117) 2 108) 3 108))), (q17, .inl (cT 0, 4096, .inl (upd (upd (upd (fun _ => 0) 0 110) 1 117) 2 108))), (q18, .inl (cT 0, 4096, .inl (fun _ => 0))), (q19, .inl (cT 1, 8, .inl (upd (upd (upd (upd (upd (upd (fun _ => 0) 0 4) 1 4) 2 4) 3 4) 4 4) 5 4))), (q20, .inl (cT 0, 4096, .inl (fun _ => 0))), (q21, .inl (cT 0, 4096, .inl (fun _ => 0)))] H := ⟨hP, hD⟩
  refine lv_iinc (v := 3) (lv' := [(2, .int 3), (1, .int 6), (0, .ref a0)]) hx hb dM_init_179 hl (k := 0) rfl (by decide) (by decide) rfl (fun ls hl => ?_)
  refine lv_goto (tgt := 159) hx hb dM_init_182 (by decide) ?_
  refine lv_iload_n hx hb dM_init_159 rfl (lv_at hl 0 rfl) ?_
  refine lv_iconst (v := 4) hx hb dM_init_160 (by decide) ?_
  refine lv_icmp_ge (tgt := 185) hx hb dM_init_161 (by decide) (fun h => ((by revert h; decide : False)).elim) (fun _ => ?_)
  refine lv_aload_n hx hb dM_init_164 rfl (lv_at hl 2 rfl) ?_
  refine va_get (D := D) (ci := 5) (v := .ref q10) (C := "ValueBenchModel") (T := TM) (N := 32) hx hb htx inM hown hK hP 0 rfl rfl 24 (by decide) (htx _ kw_5_111) (fun _ h9 => h9) rfl dM_init_165 ?_
  refine lv_iload_n hx hb dM_init_168 rfl (lv_at hl 1 rfl) ?_
  refine xx_aldA hx hb hK hP 10 5 rfl rfl (show ¬ ((6 : Int32) < 0 ∨ 8 ≤ (6 : Int32).toNatClampNeg) by decide) dM_init_169 ?_
  refine W.eq (g2 := F0 m 170 ls [.ref q17]) rfl ?_
  refine lv_iload_n hx hb dM_init_170 rfl (lv_at hl 0 rfl) ?_
  refine va_ldcS (q := aK 10) hx hb hown (hZ.2.2.2.2.2.2.2.2.1 ("ValueBenchModel", 69, "null", 10) (List.mem_of_getElem? (i := 17) rfl)) dM_init_171 ?_
  refine lv_iload_n hx hb dM_init_173 rfl (lv_at hl 0 rfl) ?_
  obtain ⟨hPc, hDc, hFc⟩ := xcut (wc := []) hP hD hS hA [] rfl rfl (by decide)
  refine va_calli (va_runV (C := "java/lang/String") (As := [.int 3]) (rest := [.int 3, .ref q17]) ⟨hx, hb, hml, hown, htx⟩ (cJS_charAt_3 l hl9 D cT aK aV H.size) ⟨callB_of 1 htx (xw_goodC kw_2_80) rfl rfl rfl (htx _ kw_1_6) (htx _ kw_5_86) ⟨by decide, by decide, by decide +kernel⟩ ⟨Nat.le_of_ble_eq_true rfl, Nat.le_of_ble_eq_true rfl⟩, (htx _ kw_2_78), (htx _ kw_2_79)⟩ ⟨xPre_blind, vk_recv hZ.2.2.2.2.2.2.2.2.2.1 (i := 10) (by decide) hS, (fun U hU hW => ⟨rfl, xPre_of hZ hS hFc hPc hDc hK U hU hW⟩)⟩ rfl rfl hl.1 rfl (lv_room (Nat.le_of_ble_eq_true rfl)) dM_init_174 ⟨Nat.le_of_ble_eq_true rfl, Nat.le_of_ble_eq_true rfl⟩) hS (fun q _ h => hFc q h) hFc (fun r49 u9 t H1 locs ht hvm hr9 hB hz1 hk1 hS => ?_)
  obtain ⟨hP1, hK1, hD1⟩ := hB
  rw [ht] at hP1
  obtain ⟨hP, hD⟩ := xjoin (W := [(a0, .inr (5, [v1, .ref q1, v3, .ref q2, v5, .ref q3, .ref q4, v8, v9, v10, .ref q5, .ref q6, v13, .ref q7, .ref q8, v16, v17, v18, v19, .int 40, .int (-1), .ref q9, v23, .int 1000000000, .ref q10, .ref q19, .ref q20, v28, .ref q21, v30, v31, .int (-1)])), (q1, .inl (cT 4, 1024, .inr (.inr (.inr (.inr (fun _ => none)))))), (q2, .inl (cT 0, 4096, .inl (fun _ => 0))), (q3, .inl (cT 4, 1024, .inr (.inr (.inr (.inr (fun _ => none)))))), (q4, .inl (cT 4, 1024, .inr (.inr (.inr (.inr (fun _ => none)))))), (q5, .inl (cT 4, 256, .inr (.inr (.inr (.inr (fun _ => none)))))), (q6, .inl (cT 4, 256, .inr (.inr (.inr (.inr (fun _ => none)))))), (q7, .inl (cT 1, 64, .inl (fun _ => 0))), (q8, .inl (cT 1, 64, .inl (fun _ => 0))), (q9, .inl (cT 0, 1024, .inl (fun _ => 0))), (q10, .inl (cT 5, 8, .inr (.inr (.inr (.inr (x8 q11 q12 q13 q14 q15 q16 q17 q18)))))), (q11, .inl (cT 0, 4096, .inl (upd (upd (upd (upd (fun _ => 0) 0 110) 1 117) 2 108) 3 108))), (q12, .inl (cT 0, 4096, .inl (upd (upd (upd (upd (fun _ => 0) 0 110) 1 117) 2 108) 3 108))), (q13, .inl (cT 0, 4096, .inl (upd (upd (upd (upd (fun _ => 0) 0 110) 1 117) 2 108) 3 108))), (q14, .inl (cT 0, 4096, .inl (upd (upd (upd (upd (fun _ => 0) 0 110) 1 117) 2 108) 3 108))), (q15, .inl (cT 0, 4096, .inl (upd (upd (upd (upd (fun _ => 0) 0 110) 1 117) 2 108) 3 108))), (q16, .inl (cT 0, 4096, .inl (upd (upd (upd (upd (fun _ => 0) 0 110) 1 117) 2 108) 3 108))), (q17, .inl (cT 0, 4096, .inl (upd (upd (upd (fun _ => 0) 0 110) 1 117) 2 108))), (q18, .inl (cT 0, 4096, .inl (fun _ => 0))), (q19, .inl (cT 1, 8, .inl (upd (upd (upd (upd (upd (upd (fun _ => 0) 0 4) 1 4) 2 4) 3 4) 4 4) 5 4))), (q20, .inl (cT 0, 4096, .inl (fun _ => 0))), (q21, .inl (cT 0, 4096, .inl (fun _ => 0)))]) hP hD [] [0, 1, 2, 3, 4, 5, 6, 7, 8, 9, 10, 11, 12, 13, 14, 15, 16, 17, 18, 19, 20, 21] 22 rfl rfl (by decide) (by decide) hk1 hFc hP1 hD1
  generalize H1 = H at hP hS ⊢
  rw [hr9]
  refine W.eq (g2 := F0 m 177 ls [.int 108, .int 3, .ref q17]) rfl ?_
  refine lv_i2b hx hb dM_init_177 rfl ?_
  refine W.eq (g2 := F0 m 178 ls [.int 108, .int 3, .ref q17]) rfl ?_
  refine va_bast hx hb hK hP hD hS 17 0 rfl rfl (show ¬ ((3 : Int32) < 0 ∨ 4096 ≤ (3 : Int32).toNatClampNeg) by decide) dM_init_178 (fun H locs hP hD hS => ?_)
  obtain ⟨hP, hD⟩ : xPD D xcl A [(a0, .inr (5, [v1, .ref q1, v3, .ref q2, v5, .ref q3, .ref q4, v8, v9, v10, .ref q5, .ref q6, v13, .ref q7, .ref q8, v16, v17, v18, v19, .int 40, .int (-1), .ref q9, v23, .int 1000000000, .ref q10, .ref q19, .ref q20, v28, .ref q21, v30, v31, .int (-1)])), (q1, .inl (cT 4, 1024, .inr (.inr (.inr (.inr (fun _ => none)))))), (q2, .inl (cT 0, 4096, .inl (fun _ => 0))), (q3, .inl (cT 4, 1024, .inr (.inr (.inr (.inr (fun _ => none)))))), (q4, .inl (cT 4, 1024, .inr (.inr (.inr (.inr (fun _ => none)))))), (q5, .inl (cT 4, 256, .inr (.inr (.inr (.inr (fun _ => none)))))), (q6, .inl (cT 4, 256, .inr (.inr (.inr (.inr (fun _ => none)))))), (q7, .inl (cT 1, 64, .inl (fun _ => 0))), (q8, .inl (cT 1, 64, .inl (fun _ => 0))), (q9, .inl (cT 0, 1024, .inl (fun _ => 0))), (q10, .inl (cT 5, 8, .inr (.inr (.inr (.inr (x8 q11 q12 q13 q14 q15 q16 q17 q18)))))), (q11, .inl (cT 0, 4096, .inl (upd (upd (upd (upd (fun _ => 0) 0 110) 1 117) 2 108) 3 108))), (q12, .inl (cT 0, 4096, .inl (upd (upd (upd (upd (fun _ => 0) 0 110) 1 117) 2 108) 3 108))), (q13, .inl (cT 0, 4096, .inl (upd (upd (upd (upd (fun _ => 0) 0 110) 1 117) 2 108) 3 108))), (q14, .inl (cT 0, 4096, .inl (upd (upd (upd (upd (fun _ => 0) 0 110) 1 117) 2 108) 3 108))), (q15, .inl (cT 0, 4096, .inl (upd (upd (upd (upd (fun _ => 0) 0 110) 1 117) 2 108) 3 108))), (q16, .inl (cT 0, 4096, .inl (upd (upd (upd (upd (fun _ => 0) 0 110) 1 117) 2 108) 3 108))), (q17, .inl (cT 0, 4096, .inl (upd (upd (upd (upd (fun _ => 0) 0 110) 1 117) 2 108) 3 108))), (q18, .inl (cT 0, 4096, .inl (fun _ => 0))), (q19, .inl (cT 1, 8, .inl (upd (upd (upd (upd (upd (upd (fun _ => 0) 0 4) 1 4) 2 4) 3 4) 4 4) 5 4))), (q20, .inl (cT 0, 4096, .inl (fun _ => 0))), (q21, .inl (cT 0, 4096, .inl (fun _ => 0)))] H := ⟨hP, hD⟩
  refine lv_iinc (v := 4) (lv' := [(2, .int 4), (1, .int 6), (0, .ref a0)]) hx hb dM_init_179 hl (k := 0) rfl (by decide) (by decide) rfl (fun ls hl => ?_)
  refine lv_goto (tgt := 159) hx hb dM_init_182 (by decide) ?_
  refine lv_iload_n hx hb dM_init_159 rfl (lv_at hl 0 rfl) ?_
  refine lv_iconst (v := 4) hx hb dM_init_160 (by decide) ?_
  refine lv_icmp_ge (tgt := 185) hx hb dM_init_161 (by decide) (fun _ => ?_) (fun h => ((by revert h; decide : False)).elim)
  refine lv_aload_n hx hb dM_init_185 rfl (lv_at hl 2 rfl) ?_
  refine va_get (D := D) (ci := 5) (v := .ref q19) (C := "ValueBenchModel") (T := TM) (N := 32) hx hb htx inM hown hK hP 0 rfl rfl 25 (by decide) (htx _ kw_5_112) (fun _ h9 => h9) rfl dM_init_186 ?_
  refine lv_iload_n hx hb dM_init_189 rfl (lv_at hl 1 rfl) ?_
  refine lv_iconst (v := 4) hx hb dM_init_190 (by decide) ?_
  refine va_iast hx hb hK hP hD hS 19 1 rfl rfl (show ¬ ((6 : Int32) < 0 ∨ 8 ≤ (6 : Int32).toNatClampNeg) by decide) dM_init_191 (fun H locs hP hD hS => ?_)
  obtain ⟨hP, hD⟩ : xPD D xcl A [(a0, .inr (5, [v1, .ref q1, v3, .ref q2, v5, .ref q3, .ref q4, v8, v9, v10, .ref q5, .ref q6, v13, .ref q7, .ref q8, v16, v17, v18, v19, .int 40, .int (-1), .ref q9, v23, .int 1000000000, .ref q10, .ref q19, .ref q20, v28, .ref q21, v30, v31, .int (-1)])), (q1, .inl (cT 4, 1024, .inr (.inr (.inr (.inr (fun _ => none)))))), (q2, .inl (cT 0, 4096, .inl (fun _ => 0))), (q3, .inl (cT 4, 1024, .inr (.inr (.inr (.inr (fun _ => none)))))), (q4, .inl (cT 4, 1024, .inr (.inr (.inr (.inr (fun _ => none)))))), (q5, .inl (cT 4, 256, .inr (.inr (.inr (.inr (fun _ => none)))))), (q6, .inl (cT 4, 256, .inr (.inr (.inr (.inr (fun _ => none)))))), (q7, .inl (cT 1, 64, .inl (fun _ => 0))), (q8, .inl (cT 1, 64, .inl (fun _ => 0))), (q9, .inl (cT 0, 1024, .inl (fun _ => 0))), (q10, .inl (cT 5, 8, .inr (.inr (.inr (.inr (x8 q11 q12 q13 q14 q15 q16 q17 q18)))))), (q11, .inl (cT 0, 4096, .inl (upd (upd (upd (upd (fun _ => 0) 0 110) 1 117) 2 108) 3 108))), (q12, .inl (cT 0, 4096, .inl (upd (upd (upd (upd (fun _ => 0) 0 110) 1 117) 2 108) 3 108))), (q13, .inl (cT 0, 4096, .inl (upd (upd (upd (upd (fun _ => 0) 0 110) 1 117) 2 108) 3 108))), (q14, .inl (cT 0, 4096, .inl (upd (upd (upd (upd (fun _ => 0) 0 110) 1 117) 2 108) 3 108))), (q15, .inl (cT 0, 4096, .inl (upd (upd (upd (upd (fun _ => 0) 0 110) 1 117) 2 108) 3 108))), (q16, .inl (cT 0, 4096, .inl (upd (upd (upd (upd (fun _ => 0) 0 110) 1 117) 2 108) 3 108))), (q17, .inl (cT 0, 4096, .inl (upd (upd (upd (upd (fun _ => 0) 0 110) 1 117) 2 108) 3 108))), (q18, .inl (cT 0, 4096, .inl (fun _ => 0))), (q19, .inl (cT 1, 8, .inl (upd (upd (upd (upd (upd (upd (upd (fun _ => 0) 0 4) 1 4) 2 4) 3 4) 4 4) 5 4) 6 4))), (q20, .inl (cT 0, 4096, .inl (fun _ => 0))), (q21, .inl (cT 0, 4096, .inl (fun _ => 0)))] H := ⟨hP, hD⟩
  refine lv_iinc (v := 7) (lv' := [(1, .int 7), (2, .int 4), (0, .ref a0)]) hx hb dM_init_192 hl (k := 1) rfl (by decide) (by decide) rfl (fun ls hl => ?_)
  refine lv_goto (tgt := 151) hx hb dM_init_195 (by decide) ?_
  refine lv_iload_n hx hb dM_init_151 rfl (lv_at hl 0 rfl) ?_
  refine lv_bipush (v := 8) hx hb dM_init_152 (by decide) ?_
  refine lv_icmp_ge (tgt := 198) hx hb dM_init_154 (by decide) (fun h => ((by revert h; decide : False)).elim) (fun _ => ?_)
  refine lv_iconst (v := 0) hx hb dM_init_157 (by decide) ?_
  refine lv_istore_n (lv' := [(2, .int 0), (1, .int 7), (0, .ref a0)]) hx hb dM_init_158 rfl hl (by decide) rfl (fun ls hl => ?_)
  refine lv_iload_n hx hb dM_init_159 rfl (lv_at hl 0 rfl) ?_
  refine lv_iconst (v := 4) hx hb dM_init_160 (by decide) ?_
  refine lv_icmp_ge (tgt := 185) hx hb dM_init_161 (by decide) (fun h => ((by revert h; decide : False)).elim) (fun _ => ?_)
  refine lv_aload_n hx hb dM_init_164 rfl (lv_at hl 2 rfl) ?_
  refine va_get (D := D) (ci := 5) (v := .ref q10) (C := "ValueBenchModel") (T := TM) (N := 32) hx hb htx inM hown hK hP 0 rfl rfl 24 (by decide) (htx _ kw_5_111) (fun _ h9 => h9) rfl dM_init_165 ?_
  refine lv_iload_n hx hb dM_init_168 rfl (lv_at hl 1 rfl) ?_
  refine xx_aldA hx hb hK hP 10 5 rfl rfl (show ¬ ((7 : Int32) < 0 ∨ 8 ≤ (7 : Int32).toNatClampNeg) by decide) dM_init_169 ?_
  refine W.eq (g2 := F0 m 170 ls [.ref q18]) rfl ?_
  refine lv_iload_n hx hb dM_init_170 rfl (lv_at hl 0 rfl) ?_
  refine va_ldcS (q := aK 10) hx hb hown (hZ.2.2.2.2.2.2.2.2.1 ("ValueBenchModel", 69, "null", 10) (List.mem_of_getElem? (i := 17) rfl)) dM_init_171 ?_
  refine lv_iload_n hx hb dM_init_173 rfl (lv_at hl 0 rfl) ?_
  obtain ⟨hPc, hDc, hFc⟩ := xcut (wc := []) hP hD hS hA [] rfl rfl (by decide)
  refine va_calli (va_runV (C := "java/lang/String") (As := [.int 0]) (rest := [.int 0, .ref q18]) ⟨hx, hb, hml, hown, htx⟩ (cJS_charAt_0 l hl9 D cT aK aV H.size) ⟨callB_of 1 htx (xw_goodC kw_2_80) rfl rfl rfl (htx _ kw_1_6) (htx _ kw_5_86) ⟨by decide, by decide, by decide +kernel⟩ ⟨Nat.le_of_ble_eq_true rfl, Nat.le_of_ble_eq_true rfl⟩, (htx _ kw_2_78), (htx _ kw_2_79)⟩ ⟨xPre_blind, vk_recv hZ.2.2.2.2.2.2.2.2.2.1 (i := 10) (by decide) hS, (fun U hU hW => ⟨rfl, xPre_of hZ hS hFc hPc hDc hK U hU hW⟩)⟩ rfl rfl hl.1 rfl (lv_room (Nat.le_of_ble_eq_true rfl)) dM_init_174 ⟨Nat.le_of_ble_eq_true rfl, Nat.le_of_ble_eq_true rfl⟩) hS (fun q _ h => hFc q h) hFc (fun r50 u9 t H1 locs ht hvm hr9 hB hz1 hk1 hS => ?_)
  obtain ⟨hP1, hK1, hD1⟩ := hB
  rw [ht] at hP1
  obtain ⟨hP, hD⟩ := xjoin (W := [(a0, .inr (5, [v1, .ref q1, v3, .ref q2, v5, .ref q3, .ref q4, v8, v9, v10, .ref q5, .ref q6, v13, .ref q7, .ref q8, v16, v17, v18, v19, .int 40, .int (-1), .ref q9, v23, .int 1000000000, .ref q10, .ref q19, .ref q20, v28, .ref q21, v30, v31, .int (-1)])), (q1, .inl (cT 4, 1024, .inr (.inr (.inr (.inr (fun _ => none)))))), (q2, .inl (cT 0, 4096, .inl (fun _ => 0))), (q3, .inl (cT 4, 1024, .inr (.inr (.inr (.inr (fun _ => none)))))), (q4, .inl (cT 4, 1024, .inr (.inr (.inr (.inr (fun _ => none)))))), (q5, .inl (cT 4, 256, .inr (.inr (.inr (.inr (fun _ => none)))))), (q6, .inl (cT 4, 256, .inr (.inr (.inr (.inr (fun _ => none)))))), (q7, .inl (cT 1, 64, .inl (fun _ => 0))), (q8, .inl (cT 1, 64, .inl (fun _ => 0))), (q9, .inl (cT 0, 1024, .inl (fun _ => 0))), (q10, .inl (cT 5, 8, .inr (.inr (.inr (.inr (x8 q11 q12 q13 q14 q15 q16 q17 q18)))))), (q11, .inl (cT 0, 4096, .inl (upd (upd (upd (upd (fun _ => 0) 0 110) 1 117) 2 108) 3 108))), (q12, .inl (cT 0, 4096, .inl (upd (upd (upd (upd (fun _ => 0) 0 110) 1 117) 2 108) 3 108))), (q13, .inl (cT 0, 4096, .inl (upd (upd (upd (upd (fun _ => 0) 0 110) 1 117) 2 108) 3 108))), (q14, .inl (cT 0, 4096, .inl (upd (upd (upd (upd (fun _ => 0) 0 110) 1 117) 2 108) 3 108))), (q15, .inl (cT 0, 4096, .inl (upd (upd (upd (upd (fun _ => 0) 0 110) 1 117) 2 108) 3 108))), (q16, .inl (cT 0, 4096, .inl (upd (upd (upd (upd (fun _ => 0) 0 110) 1 117) 2 108) 3 108))), (q17, .inl (cT 0, 4096, .inl (upd (upd (upd (upd (fun _ => 0) 0 110) 1 117) 2 108) 3 108))), (q18, .inl (cT 0, 4096, .inl (fun _ => 0))), (q19, .inl (cT 1, 8, .inl (upd (upd (upd (upd (upd (upd (upd (fun _ => 0) 0 4) 1 4) 2 4) 3 4) 4 4) 5 4) 6 4))), (q20, .inl (cT 0, 4096, .inl (fun _ => 0))), (q21, .inl (cT 0, 4096, .inl (fun _ => 0)))]) hP hD [] [0, 1, 2, 3, 4, 5, 6, 7, 8, 9, 10, 11, 12, 13, 14, 15, 16, 17, 18, 19, 20, 21] 22 rfl rfl (by decide) (by decide) hk1 hFc hP1 hD1
  generalize H1 = H at hP hS ⊢
  rw [hr9]
  refine W.eq (g2 := F0 m 177 ls [.int 110, .int 0, .ref q18]) rfl ?_
  refine lv_i2b hx hb dM_init_177 rfl ?_
  refine W.eq (g2 := F0 m 178 ls [.int 110, .int 0, .ref q18]) rfl ?_
  refine va_bast hx hb hK hP hD hS 18 0 rfl rfl (show ¬ ((0 : Int32) < 0 ∨ 4096 ≤ (0 : Int32).toNatClampNeg) by decide) dM_init_178 (fun H locs hP hD hS => ?_)
  obtain ⟨hP, hD⟩ : xPD D xcl A [(a0, .inr (5, [v1, .ref q1, v3, .ref q2, v5, .ref q3, .ref q4, v8, v9, v10, .ref q5, .ref q6, v13, .ref q7, .ref q8, v16, v17, v18, v19, .int 40, .int (-1), .ref q9, v23, .int 1000000000, .ref q10, .ref q19, .ref q20, v28, .ref q21, v30, v31, .int (-1)])), (q1, .inl (cT 4, 1024, .inr (.inr (.inr (.inr (fun _ => none)))))), (q2, .inl (cT 0, 4096, .inl (fun _ => 0))), (q3, .inl (cT 4, 1024, .inr (.inr (.inr (.inr (fun _ => none)))))), (q4, .inl (cT 4, 1024, .inr (.inr (.inr (.inr (fun _ => none)))))), (q5, .inl (cT 4, 256, .inr (.inr (.inr (.inr (fun _ => none)))))), (q6, .inl (cT 4, 256, .inr (.inr (.inr (.inr (fun _ => none)))))), (q7, .inl (cT 1, 64, .inl (fun _ => 0))), (q8, .inl (cT 1, 64, .inl (fun _ => 0))), (q9, .inl (cT 0, 1024, .inl (fun _ => 0))), (q10, .inl (cT 5, 8, .inr (.inr (.inr (.inr (x8 q11 q12 q13 q14 q15 q16 q17 q18)))))), (q11, .inl (cT 0, 4096, .inl (upd (upd (upd (upd (fun _ => 0) 0 110) 1 117) 2 108) 3 108))), (q12, .inl (cT 0, 4096, .inl (upd (upd (upd (upd (fun _ => 0) 0 110) 1 117) 2 108) 3 108))), (q13, .inl (cT 0, 4096, .inl (upd (upd (upd (upd (fun _ => 0) 0 110) 1 117) 2 108) 3 108))), (q14, .inl (cT 0, 4096, .inl (upd (upd (upd (upd (fun _ => 0) 0 110) 1 117) 2 108) 3 108))), (q15, .inl (cT 0, 4096, .inl (upd (upd (upd (upd (fun _ => 0) 0 110) 1 117) 2 108) 3 108))), (q16, .inl (cT 0, 4096, .inl (upd (upd (upd (upd (fun _ => 0) 0 110) 1 117) 2 108) 3 108))), (q17, .inl (cT 0, 4096, .inl (upd (upd (upd (upd (fun _ => 0) 0 110) 1 117) 2 108) 3 108))), (q18, .inl (cT 0, 4096, .inl (upd (fun _ => 0) 0 110))), (q19, .inl (cT 1, 8, .inl (upd (upd (upd (upd (upd (upd (upd (fun _ => 0) 0 4) 1 4) 2 4) 3 4) 4 4) 5 4) 6 4))), (q20, .inl (cT 0, 4096, .inl (fun _ => 0))), (q21, .inl (cT 0, 4096, .inl (fun _ => 0)))] H := ⟨hP, hD⟩
  refine lv_iinc (v := 1) (lv' := [(2, .int 1), (1, .int 7), (0, .ref a0)]) hx hb dM_init_179 hl (k := 0) rfl (by decide) (by decide) rfl (fun ls hl => ?_)
  refine lv_goto (tgt := 159) hx hb dM_init_182 (by decide) ?_
  refine lv_iload_n hx hb dM_init_159 rfl (lv_at hl 0 rfl) ?_
  refine lv_iconst (v := 4) hx hb dM_init_160 (by decide) ?_
  refine lv_icmp_ge (tgt := 185) hx hb dM_init_161 (by decide) (fun h => ((by revert h; decide : False)).elim) (fun _ => ?_)
  refine lv_aload_n hx hb dM_init_164 rfl (lv_at hl 2 rfl) ?_
  refine va_get (D := D) (ci := 5) (v := .ref q10) (C := "ValueBenchModel") (T := TM) (N := 32) hx hb htx inM hown hK hP 0 rfl rfl 24 (by decide) (htx _ kw_5_111) (fun _ h9 => h9) rfl dM_init_165 ?_
  refine lv_iload_n hx hb dM_init_168 rfl (lv_at hl 1 rfl) ?_
  refine xx_aldA hx hb hK hP 10 5 rfl rfl (show ¬ ((7 : Int32) < 0 ∨ 8 ≤ (7 : Int32).toNatClampNeg) by decide) dM_init_169 ?_
  refine W.eq (g2 := F0 m 170 ls [.ref q18]) rfl ?_
  refine lv_iload_n hx hb dM_init_170 rfl (lv_at hl 0 rfl) ?_
  refine va_ldcS (q := aK 10) hx hb hown (hZ.2.2.2.2.2.2.2.2.1 ("ValueBenchModel", 69, "null", 10) (List.mem_of_getElem? (i := 17) rfl)) dM_init_171 ?_
  refine lv_iload_n hx hb dM_init_173 rfl (lv_at hl 0 rfl) ?_
  obtain ⟨hPc, hDc, hFc⟩ := xcut (wc := []) hP hD hS hA [] rfl rfl (by decide)
  refine va_calli (va_runV (C := "java/lang/String") (As := [.int 1]) (rest := [.int 1, .ref q18]) ⟨hx, hb, hml, hown, htx⟩ (cJS_charAt_1 l hl9 D cT aK aV H.size) ⟨callB_of 1 htx (xw_goodC kw_2_80) rfl rfl rfl (htx _ kw_1_6) (htx _ kw_5_86) ⟨by decide, by decide, by decide +kernel⟩ ⟨Nat.le_of_ble_eq_true rfl, Nat.le_of_ble_eq_true rfl⟩, (htx _ kw_2_78), (htx _ kw_2_79)⟩ ⟨xPre_blind, vk_recv hZ.2.2.2.2.2.2.2.2.2.1 (i := 10) (by decide) hS, (fun U hU hW => ⟨rfl, xPre_of hZ hS hFc hPc hDc hK U hU hW⟩)⟩ rfl rfl hl.1 rfl (lv_room (Nat.le_of_ble_eq_true rfl)) dM_init_174 ⟨Nat.le_of_ble_eq_true rfl, Nat.le_of_ble_eq_true rfl⟩) hS (fun q _ h => hFc q h) hFc (fun r51 u9 t H1 locs ht hvm hr9 hB hz1 hk1 hS => ?_)
  obtain ⟨hP1, hK1, hD1⟩ := hB
  rw [ht] at hP1
  obtain ⟨hP, hD⟩ := xjoin (W := [(a0, .inr (5, [v1, .ref q1, v3, .ref q2, v5, .ref q3, .ref q4, v8, v9, v10, .ref q5, .ref q6, v13, .ref q7, .ref q8, v16, v17, v18, v19, .int 40, .int (-1), .ref q9, v23, .int 1000000000, .ref q10, .ref q19, .ref q20, v28, .ref q21, v30, v31, .int (-1)])), (q1, .inl (cT 4, 1024, .inr (.inr (.inr (.inr (fun _ => none)))))), (q2, .inl (cT 0, 4096, .inl (fun _ => 0))), (q3, .inl (cT 4, 1024, .inr (.inr (.inr (.inr (fun _ => none)))))), (q4, .inl (cT 4, 1024, .inr (.inr (.inr (.inr (fun _ => none)))))), (q5, .inl (cT 4, 256, .inr (.inr (.inr (.inr (fun _ => none)))))), (q6, .inl (cT 4, 256, .inr (.inr (.inr (.inr (fun _ => none)))))), (q7, .inl (cT 1, 64, .inl (fun _ => 0))), (q8, .inl (cT 1, 64, .inl (fun _ => 0))), (q9, .inl (cT 0, 1024, .inl (fun _ => 0))), (q10, .inl (cT 5, 8, .inr (.inr (.inr (.inr (x8 q11 q12 q13 q14 q15 q16 q17 q18)))))), (q11, .inl (cT 0, 4096, .inl (upd (upd (upd (upd (fun _ => 0) 0 110) 1 117) 2 108) 3 108))), (q12, .inl (cT 0, 4096, .inl (upd (upd (upd (upd (fun _ => 0) 0 110) 1 117) 2 108) 3 108))), (q13, .inl (cT 0, 4096, .inl (upd (upd (upd (upd (fun _ => 0) 0 110) 1 117) 2 108) 3 108))), (q14, .inl (cT 0, 4096, .inl (upd (upd (upd (upd (fun _ => 0) 0 110) 1 117) 2 108) 3 108))), (q15, .inl (cT 0, 4096, .inl (upd (upd (upd (upd (fun _ => 0) 0 110) 1 117) 2 108) 3 108))), (q16, .inl (cT 0, 4096, .inl (upd (upd (upd (upd (fun _ => 0) 0 110) 1 117) 2 108) 3 108))), (q17, .inl (cT 0, 4096, .inl (upd (upd (upd (upd (fun _ => 0) 0 110) 1 117) 2 108) 3 108))), (q18, .inl (cT 0, 4096, .inl (upd (fun _ => 0) 0 110))), (q19, .inl (cT 1, 8, .inl (upd (upd (upd (upd (upd (upd (upd (fun _ => 0) 0 4) 1 4) 2 4) 3 4) 4 4) 5 4) 6 4))), (q20, .inl (cT 0, 4096, .inl (fun _ => 0))), (q21, .inl (cT 0, 4096, .inl (fun _ => 0)))]) hP hD [] [0, 1, 2, 3, 4, 5, 6, 7, 8, 9, 10, 11, 12, 13, 14, 15, 16, 17, 18, 19, 20, 21] 22 rfl rfl (by decide) (by decide) hk1 hFc hP1 hD1
  generalize H1 = H at hP hS ⊢
  rw [hr9]
  refine W.eq (g2 := F0 m 177 ls [.int 117, .int 1, .ref q18]) rfl ?_
  refine lv_i2b hx hb dM_init_177 rfl ?_
  refine W.eq (g2 := F0 m 178 ls [.int 117, .int 1, .ref q18]) rfl ?_
  refine va_bast hx hb hK hP hD hS 18 0 rfl rfl (show ¬ ((1 : Int32) < 0 ∨ 4096 ≤ (1 : Int32).toNatClampNeg) by decide) dM_init_178 (fun H locs hP hD hS => ?_)
  obtain ⟨hP, hD⟩ : xPD D xcl A [(a0, .inr (5, [v1, .ref q1, v3, .ref q2, v5, .ref q3, .ref q4, v8, v9, v10, .ref q5, .ref q6, v13, .ref q7, .ref q8, v16, v17, v18, v19, .int 40, .int (-1), .ref q9, v23, .int 1000000000, .ref q10, .ref q19, .ref q20, v28, .ref q21, v30, v31, .int (-1)])), (q1, .inl (cT 4, 1024, .inr (.inr (.inr (.inr (fun _ => none)))))), (q2, .inl (cT 0, 4096, .inl (fun _ => 0))), (q3, .inl (cT 4, 1024, .inr (.inr (.inr (.inr (fun _ => none)))))), (q4, .inl (cT 4, 1024, .inr (.inr (.inr (.inr (fun _ => none)))))), (q5, .inl (cT 4, 256, .inr (.inr (.inr (.inr (fun _ => none)))))), (q6, .inl (cT 4, 256, .inr (.inr (.inr (.inr (fun _ => none)))))), (q7, .inl (cT 1, 64, .inl (fun _ => 0))), (q8, .inl (cT 1, 64, .inl (fun _ => 0))), (q9, .inl (cT 0, 1024, .inl (fun _ => 0))), (q10, .inl (cT 5, 8, .inr (.inr (.inr (.inr (x8 q11 q12 q13 q14 q15 q16 q17 q18)))))), (q11, .inl (cT 0, 4096, .inl (upd (upd (upd (upd (fun _ => 0) 0 110) 1 117) 2 108) 3 108))), (q12, .inl (cT 0, 4096, .inl (upd (upd (upd (upd (fun _ => 0) 0 110) 1 117) 2 108) 3 108))), (q13, .inl (cT 0, 4096, .inl (upd (upd (upd (upd (fun _ => 0) 0 110) 1 117) 2 108) 3 108))), (q14, .inl (cT 0, 4096, .inl (upd (upd (upd (upd (fun _ => 0) 0 110) 1 117) 2 108) 3 108))), (q15, .inl (cT 0, 4096, .inl (upd (upd (upd (upd (fun _ => 0) 0 110) 1 117) 2 108) 3 108))), (q16, .inl (cT 0, 4096, .inl (upd (upd (upd (upd (fun _ => 0) 0 110) 1 117) 2 108) 3 108))), (q17, .inl (cT 0, 4096, .inl (upd (upd (upd (upd (fun _ => 0) 0 110) 1 117) 2 108) 3 108))), (q18, .inl (cT 0, 4096, .inl (upd (upd (fun _ => 0) 0 110) 1 117))), (q19, .inl (cT 1, 8, .inl (upd (upd (upd (upd (upd (upd (upd (fun _ => 0) 0 4) 1 4) 2 4) 3 4) 4 4) 5 4) 6 4))), (q20, .inl (cT 0, 4096, .inl (fun _ => 0))), (q21, .inl (cT 0, 4096, .inl (fun _ => 0)))] H := ⟨hP, hD⟩
  refine lv_iinc (v := 2) (lv' := [(2, .int 2), (1, .int 7), (0, .ref a0)]) hx hb dM_init_179 hl (k := 0) rfl (by decide) (by decide) rfl (fun ls hl => ?_)
  refine lv_goto (tgt := 159) hx hb dM_init_182 (by decide) ?_
  refine lv_iload_n hx hb dM_init_159 rfl (lv_at hl 0 rfl) ?_
  refine lv_iconst (v := 4) hx hb dM_init_160 (by decide) ?_
  refine lv_icmp_ge (tgt := 185) hx hb dM_init_161 (by decide) (fun h => ((by revert h; decide : False)).elim) (fun _ => ?_)
  refine lv_aload_n hx hb dM_init_164 rfl (lv_at hl 2 rfl) ?_
  refine va_get (D := D) (ci := 5) (v := .ref q10) (C := "ValueBenchModel") (T := TM) (N := 32) hx hb htx inM hown hK hP 0 rfl rfl 24 (by decide) (htx _ kw_5_111) (fun _ h9 => h9) rfl dM_init_165 ?_
  refine lv_iload_n hx hb dM_init_168 rfl (lv_at hl 1 rfl) ?_
  refine xx_aldA hx hb hK hP 10 5 rfl rfl (show ¬ ((7 : Int32) < 0 ∨ 8 ≤ (7 : Int32).toNatClampNeg) by decide) dM_init_169 ?_
  refine W.eq (g2 := F0 m 170 ls [.ref q18]) rfl ?_
  refine lv_iload_n hx hb dM_init_170 rfl (lv_at hl 0 rfl) ?_
  refine va_ldcS (q := aK 10) hx hb hown (hZ.2.2.2.2.2.2.2.2.1 ("ValueBenchModel", 69, "null", 10) (List.mem_of_getElem? (i := 17) rfl)) dM_init_171 ?_
  refine lv_iload_n hx hb dM_init_173 rfl (lv_at hl 0 rfl) ?_
  obtain ⟨hPc, hDc, hFc⟩ := xcut (wc := []) hP hD hS hA [] rfl rfl (by decide)
  refine va_calli (va_runV (C := "java/lang/String") (As := [.int 2]) (rest := [.int 2, .ref q18]) ⟨hx, hb, hml, hown, htx⟩ (cJS_charAt_2 l hl9 D cT aK aV H.size) ⟨callB_of 1 htx (xw_goodC kw_2_80) rfl rfl rfl (htx _ kw_1_6) (htx _ kw_5_86) ⟨by decide, by decide, by decide +kernel⟩ ⟨Nat.le_of_ble_eq_true rfl, Nat.le_of_ble_eq_true rfl⟩, (htx _ kw_2_78), (htx _ kw_2_79)⟩ ⟨xPre_blind, vk_recv hZ.2.2.2.2.2.2.2.2.2.1 (i := 10) (by decide) hS, (fun U hU hW => ⟨rfl, xPre_of hZ hS hFc hPc hDc hK U hU hW⟩)⟩ rfl rfl hl.1 rfl (lv_room (Nat.le_of_ble_eq_true rfl)) dM_init_174 ⟨Nat.le_of_ble_eq_true rfl, Nat.le_of_ble_eq_true rfl⟩) hS (fun q _ h => hFc q h) hFc (fun r52 u9 t H1 locs ht hvm hr9 hB hz1 hk1 hS => ?_)
  obtain ⟨hP1, hK1, hD1⟩ := hB
  rw [ht] at hP1
  obtain ⟨hP, hD⟩ := xjoin (W := [(a0, .inr (5, [v1, .ref q1, v3, .ref q2, v5, .ref q3, .ref q4, v8, v9, v10, .ref q5, .ref q6, v13, .ref q7, .ref q8, v16, v17, v18, v19, .int 40, .int (-1), .ref q9, v23, .int 1000000000, .ref q10, .ref q19, .ref q20, v28, .ref q21, v30, v31, .int (-1)])), (q1, .inl (cT 4, 1024, .inr (.inr (.inr (.inr (fun _ => none)))))), (q2, .inl (cT 0, 4096, .inl (fun _ => 0))), (q3, .inl (cT 4, 1024, .inr (.inr (.inr (.inr (fun _ => none)))))), (q4, .inl (cT 4, 1024, .inr (.inr (.inr (.inr (fun _ => none)))))), (q5, .inl (cT 4, 256, .inr (.inr (.inr (.inr (fun _ => none)))))), (q6, .inl (cT 4, 256, .inr (.inr (.inr (.inr (fun _ => none)))))), (q7, .inl (cT 1, 64, .inl (fun _ => 0))), (q8, .inl (cT 1, 64, .inl (fun _ => 0))), (q9, .inl (cT 0, 1024, .inl (fun _ => 0))), (q10, .inl (cT 5, 8, .inr (.inr (.inr (.inr (x8 q11 q12 q13 q14 q15 q16 q17 q18)))))), (q11, .inl (cT 0, 4096, .inl (upd (upd (upd (upd (fun _ => 0) 0 110) 1 117) 2 108) 3 108))), (q12, .inl (cT 0, 4096, .inl (upd (upd (upd (upd (fun _ => 0) 0 110) 1 117) 2 108) 3 108))), (q13, .inl (cT 0, 4096, .inl (upd (upd (upd (upd (fun _ => 0) 0 110) 1 117) 2 108) 3 108))), (q14, .inl (cT 0, 4096, .inl (upd (upd (upd (upd (fun _ => 0) 0 110) 1 117) 2 108) 3 108))), (q15, .inl (cT 0, 4096, .inl (upd (upd (upd (upd (fun _ => 0) 0 110) 1 117) 2 108) 3 108))), (q16, .inl (cT 0, 4096, .inl (upd (upd (upd (upd (fun _ => 0) 0 110) 1 117) 2 108) 3 108))), (q17, .inl (cT 0, 4096, .inl (upd (upd (upd (upd (fun _ => 0) 0 110) 1 117) 2 108) 3 108))), (q18, .inl (cT 0, 4096, .inl (upd (upd (fun _ => 0) 0 110) 1 117))), (q19, .inl (cT 1, 8, .inl (upd (upd (upd (upd (upd (upd (upd (fun _ => 0) 0 4) 1 4) 2 4) 3 4) 4 4) 5 4) 6 4))), (q20, .inl (cT 0, 4096, .inl (fun _ => 0))), (q21, .inl (cT 0, 4096, .inl (fun _ => 0)))]) hP hD [] [0, 1, 2, 3, 4, 5, 6, 7, 8, 9, 10, 11, 12, 13, 14, 15, 16, 17, 18, 19, 20, 21] 22 rfl rfl (by decide) (by decide) hk1 hFc hP1 hD1
  generalize H1 = H at hP hS ⊢
  rw [hr9]
  refine W.eq (g2 := F0 m 177 ls [.int 108, .int 2, .ref q18]) rfl ?_
  refine lv_i2b hx hb dM_init_177 rfl ?_
  refine W.eq (g2 := F0 m 178 ls [.int 108, .int 2, .ref q18]) rfl ?_
  refine va_bast hx hb hK hP hD hS 18 0 rfl rfl (show ¬ ((2 : Int32) < 0 ∨ 4096 ≤ (2 : Int32).toNatClampNeg) by decide) dM_init_178 (fun H locs hP hD hS => ?_)
  obtain ⟨hP, hD⟩ : xPD D xcl A [(a0, .inr (5, [v1, .ref q1, v3, .ref q2, v5, .ref q3, .ref q4, v8, v9, v10, .ref q5, .ref q6, v13, .ref q7, .ref q8, v16, v17, v18, v19, .int 40, .int (-1), .ref q9, v23, .int 1000000000, .ref q10, .ref q19, .ref q20, v28, .ref q21, v30, v31, .int (-1)])), (q1, .inl (cT 4, 1024, .inr (.inr (.inr (.inr (fun _ => none)))))), (q2, .inl (cT 0, 4096, .inl (fun _ => 0))), (q3, .inl (cT 4, 1024, .inr (.inr (.inr (.inr (fun _ => none)))))), (q4, .inl (cT 4, 1024, .inr (.inr (.inr (.inr (fun _ => none)))))), (q5, .inl (cT 4, 256, .inr (.inr (.inr (.inr (fun _ => none)))))), (q6, .inl (cT 4, 256, .inr (.inr (.inr (.inr (fun _ => none)))))), (q7, .inl (cT 1, 64, .inl (fun _ => 0))), (q8, .inl (cT 1, 64, .inl (fun _ => 0))), (q9, .inl (cT 0, 1024, .inl (fun _ => 0))), (q10, .inl (cT 5, 8, .inr (.inr (.inr (.inr (x8 q11 q12 q13 q14 q15 q16 q17 q18)))))), (q11, .inl (cT 0, 4096, .inl (upd (upd (upd (upd (fun _ => 0) 0 110) 1 117) 2 108) 3 108))), (q12, .inl (cT 0, 4096, .inl (upd (upd (upd (upd (fun _ => 0) 0 110) 1 117) 2 108) 3 108))), (q13, .inl (cT 0, 4096, .inl (upd (upd (upd (upd (fun _ => 0) 0 110) 1 117) 2 108) 3 108))), (q14, .inl (cT 0, 4096, .inl (upd (upd (upd (upd (fun _ => 0) 0 110) 1 117) 2 108) 3 108))), (q15, .inl (cT 0, 4096, .inl (upd (upd (upd (upd (fun _ => 0) 0 110) 1 117) 2 108) 3 108))), (q16, .inl (cT 0, 4096, .inl (upd (upd (upd (upd (fun _ => 0) 0 110) 1 117) 2 108) 3 108))), (q17, .inl (cT 0, 4096, .inl (upd (upd (upd (upd (fun _ => 0) 0 110) 1 117) 2 108) 3 108))), (q18, .inl (cT 0, 4096, .inl (upd (upd (upd (fun _ => 0) 0 110) 1 117) 2 108))), (q19, .inl (cT 1, 8, .inl (upd (upd (upd (upd (upd (upd (upd (fun _ => 0) 0 4) 1 4) 2 4) 3 4) 4 4) 5 4) 6 4))), (q20, .inl (cT 0, 4096, .inl (fun _ => 0))), (q21, .inl (cT 0, 4096, .inl (fun _ => 0)))] H := ⟨hP, hD⟩
  refine lv_iinc (v := 3) (lv' := [(2, .int 3), (1, .int 7), (0, .ref a0)]) hx hb dM_init_179 hl (k := 0) rfl (by decide) (by decide) rfl (fun ls hl => ?_)
  refine lv_goto (tgt := 159) hx hb dM_init_182 (by decide) ?_
  refine lv_iload_n hx hb dM_init_159 rfl (lv_at hl 0 rfl) ?_
  refine lv_iconst (v := 4) hx hb dM_init_160 (by decide) ?_
  refine lv_icmp_ge (tgt := 185) hx hb dM_init_161 (by decide) (fun h => ((by revert h; decide : False)).elim) (fun _ => ?_)
  refine lv_aload_n hx hb dM_init_164 rfl (lv_at hl 2 rfl) ?_
  refine va_get (D := D) (ci := 5) (v := .ref q10) (C := "ValueBenchModel") (T := TM) (N := 32) hx hb htx inM hown hK hP 0 rfl rfl 24 (by decide) (htx _ kw_5_111) (fun _ h9 => h9) rfl dM_init_165 ?_
  refine lv_iload_n hx hb dM_init_168 rfl (lv_at hl 1 rfl) ?_
  refine xx_aldA hx hb hK hP 10 5 rfl rfl (show ¬ ((7 : Int32) < 0 ∨ 8 ≤ (7 : Int32).toNatClampNeg) by decide) dM_init_169 ?_
  refine W.eq (g2 := F0 m 170 ls [.ref q18]) rfl ?_
  refine lv_iload_n hx hb dM_init_170 rfl (lv_at hl 0 rfl) ?_
  refine va_ldcS (q := aK 10) hx hb hown (hZ.2.2.2.2.2.2.2.2.1 ("ValueBenchModel", 69, "null", 10) (List.mem_of_getElem? (i := 17) rfl)) dM_init_171 ?_
  refine lv_iload_n hx hb dM_init_173 rfl (lv_at hl 0 rfl) ?_
  obtain ⟨hPc, hDc, hFc⟩ := xcut (wc := []) hP hD hS hA [] rfl rfl (by decide)
  refine va_calli (va_runV (C := "java/lang/String") (As := [.int 3]) (rest := [.int 3, .ref q18]) ⟨hx, hb, hml, hown, htx⟩ (cJS_charAt_3 l hl9 D cT aK aV H.size) ⟨callB_of 1 htx (xw_goodC kw_2_80) rfl rfl rfl (htx _ kw_1_6) (htx _ kw_5_86) ⟨by decide, by decide, by decide +kernel⟩ ⟨Nat.le_of_ble_eq_true rfl, Nat.le_of_ble_eq_true rfl⟩, (htx _ kw_2_78), (htx _ kw_2_79)⟩ ⟨xPre_blind, vk_recv hZ.2.2.2.2.2.2.2.2.2.1 (i := 10) (by decide) hS, (fun U hU hW => ⟨rfl, xPre_of hZ hS hFc hPc hDc hK U hU hW⟩)⟩ rfl rfl hl.1 rfl (lv_room (Nat.le_of_ble_eq_true rfl)) dM_init_174 ⟨Nat.le_of_ble_eq_true rfl, Nat.le_of_ble_eq_true rfl⟩) hS (fun q _ h => hFc q h) hFc (fun r53 u9 t H1 locs ht hvm hr9 hB hz1 hk1 hS => ?_)
  obtain ⟨hP1, hK1, hD1⟩ := hB
  rw [ht] at hP1
  obtain ⟨hP, hD⟩ := xjoin (W := [(a0, .inr (5, [v1, .ref q1, v3, .ref q2, v5, .ref q3, .ref q4, v8, v9, v10, .ref q5, .ref q6, v13, .ref q7, .ref q8, v16, v17, v18, v19, .int 40, .int (-1), .ref q9, v23, .int 1000000000, .ref q10, .ref q19, .ref q20, v28, .ref q21, v30, v31, .int (-1)])), (q1, .inl (cT 4, 1024, .inr (.inr (.inr (.inr (fun _ => none)))))), (q2, .inl (cT 0, 4096, .inl (fun _ => 0))), (q3, .inl (cT 4, 1024, .inr (.inr (.inr (.inr (fun _ => none)))))), (q4, .inl (cT 4, 1024, .inr (.inr (.inr (.inr (fun _ => none)))))), (q5, .inl (cT 4, 256, .inr (.inr (.inr (.inr (fun _ => none)))))), (q6, .inl (cT 4, 256, .inr (.inr (.inr (.inr (fun _ => none)))))), (q7, .inl (cT 1, 64, .inl (fun _ => 0))), (q8, .inl (cT 1, 64, .inl (fun _ => 0))), (q9, .inl (cT 0, 1024, .inl (fun _ => 0))), (q10, .inl (cT 5, 8, .inr (.inr (.inr (.inr (x8 q11 q12 q13 q14 q15 q16 q17 q18)))))), (q11, .inl (cT 0, 4096, .inl (upd (upd (upd (upd (fun _ => 0) 0 110) 1 117) 2 108) 3 108))), (q12, .inl (cT 0, 4096, .inl (upd (upd (upd (upd (fun _ => 0) 0 110) 1 117) 2 108) 3 108))), (q13, .inl (cT 0, 4096, .inl (upd (upd (upd (upd (fun _ => 0) 0 110) 1 117) 2 108) 3 108))), (q14, .inl (cT 0, 4096, .inl (upd (upd (upd (upd (fun _ => 0) 0 110) 1 117) 2 108) 3 108))), (q15, .inl (cT 0, 4096, .inl (upd (upd (upd (upd (fun _ => 0) 0 110) 1 117) 2 108) 3 108))), (q16, .inl (cT 0, 4096, .inl (upd (upd (upd (upd (fun _ => 0) 0 110) 1 117) 2 108) 3 108))), (q17, .inl (cT 0, 4096, .inl (upd (upd (upd (upd (fun _ => 0) 0 110) 1 117) 2 108) 3 108))), (q18, .inl (cT 0, 4096, .inl (upd (upd (upd (fun _ => 0) 0 110) 1 117) 2 108))), (q19, .inl (cT 1, 8, .inl (upd (upd (upd (upd (upd (upd (upd (fun _ => 0) 0 4) 1 4) 2 4) 3 4) 4 4) 5 4) 6 4))), (q20, .inl (cT 0, 4096, .inl (fun _ => 0))), (q21, .inl (cT 0, 4096, .inl (fun _ => 0)))]) hP hD [] [0, 1, 2, 3, 4, 5, 6, 7, 8, 9, 10, 11, 12, 13, 14, 15, 16, 17, 18, 19, 20, 21] 22 rfl rfl (by decide) (by decide) hk1 hFc hP1 hD1
  generalize H1 = H at hP hS ⊢
  rw [hr9]
  refine W.eq (g2 := F0 m 177 ls [.int 108, .int 3, .ref q18]) rfl ?_
  refine lv_i2b hx hb dM_init_177 rfl ?_
  refine W.eq (g2 := F0 m 178 ls [.int 108, .int 3, .ref q18]) rfl ?_
  refine va_bast hx hb hK hP hD hS 18 0 rfl rfl (show ¬ ((3 : Int32) < 0 ∨ 4096 ≤ (3 : Int32).toNatClampNeg) by decide) dM_init_178 (fun H locs hP hD hS => ?_)
  obtain ⟨hP, hD⟩ : xPD D xcl A [(a0, .inr (5, [v1, .ref q1, v3, .ref q2, v5, .ref q3, .ref q4, v8, v9, v10, .ref q5, .ref q6, v13, .ref q7, .ref q8, v16, v17, v18, v19, .int 40, .int (-1), .ref q9, v23, .int 1000000000, .ref q10, .ref q19, .ref q20, v28, .ref q21, v30, v31, .int (-1)])), (q1, .inl (cT 4, 1024, .inr (.inr (.inr (.inr (fun _ => none)))))), (q2, .inl (cT 0, 4096, .inl (fun _ => 0))), (q3, .inl (cT 4, 1024, .inr (.inr (.inr (.inr (fun _ => none)))))), (q4, .inl (cT 4, 1024, .inr (.inr (.inr (.inr (fun _ => none)))))), (q5, .inl (cT 4, 256, .inr (.inr (.inr (.inr (fun _ => none)))))), (q6, .inl (cT 4, 256, .inr (.inr (.inr (.inr (fun _ => none)))))), (q7, .inl (cT 1, 64, .inl (fun _ => 0))), (q8, .inl (cT 1, 64, .inl (fun _ => 0))), (q9, .inl (cT 0, 1024, .inl (fun _ => 0))), (q10, .inl (cT 5, 8, .inr (.inr (.inr (.inr (x8 q11 q12 q13 q14 q15 q16 q17 q18)))))), (q11, .inl (cT 0, 4096, .inl (upd (upd (upd (upd (fun _ => 0) 0 110) 1 117) 2 108) 3 108))), (q12, .inl (cT 0, 4096, .inl (upd (upd (upd (upd (fun _ => 0) 0 110) 1 117) 2 108) 3 108))), (q13, .inl (cT 0, 4096, .inl (upd (upd (upd (upd (fun _ => 0) 0 110) 1 117) 2 108) 3 108))), (q14, .inl (cT 0, 4096, .inl (upd (upd (upd (upd (fun _ => 0) 0 110) 1 117) 2 108) 3 108))), (q15, .inl (cT 0, 4096, .inl (upd (upd (upd (upd (fun _ => 0) 0 110) 1 117) 2 108) 3 108))), (q16, .inl (cT 0, 4096, .inl (upd (upd (upd (upd (fun _ => 0) 0 110) 1 117) 2 108) 3 108))), (q17, .inl (cT 0, 4096, .inl (upd (upd (upd (upd (fun _ => 0) 0 110) 1 117) 2 108) 3 108))), (q18, .inl (cT 0, 4096, .inl (upd (upd (upd (upd (fun _ => 0) 0 110) 1 117) 2 108) 3 108))), (q19, .inl (cT 1, 8, .inl (upd (upd (upd (upd (upd (upd (upd (fun _ => 0) 0 4) 1 4) 2 4) 3 4) 4 4) 5 4) 6 4))), (q20, .inl (cT 0, 4096, .inl (fun _ => 0))), (q21, .inl (cT 0, 4096, .inl (fun _ => 0)))] H := ⟨hP, hD⟩
  refine lv_iinc (v := 4) (lv' := [(2, .int 4), (1, .int 7), (0, .ref a0)]) hx hb dM_init_179 hl (k := 0) rfl (by decide) (by decide) rfl (fun ls hl => ?_)
  refine lv_goto (tgt := 159) hx hb dM_init_182 (by decide) ?_
  refine lv_iload_n hx hb dM_init_159 rfl (lv_at hl 0 rfl) ?_
  refine lv_iconst (v := 4) hx hb dM_init_160 (by decide) ?_
  refine lv_icmp_ge (tgt := 185) hx hb dM_init_161 (by decide) (fun _ => ?_) (fun h => ((by revert h; decide : False)).elim)
  refine lv_aload_n hx hb dM_init_185 rfl (lv_at hl 2 rfl) ?_
  refine va_get (D := D) (ci := 5) (v := .ref q19) (C := "ValueBenchModel") (T := TM) (N := 32) hx hb htx inM hown hK hP 0 rfl rfl 25 (by decide) (htx _ kw_5_112) (fun _ h9 => h9) rfl dM_init_186 ?_
  refine lv_iload_n hx hb dM_init_189 rfl (lv_at hl 1 rfl) ?_
  refine lv_iconst (v := 4) hx hb dM_init_190 (by decide) ?_
  refine va_iast hx hb hK hP hD hS 19 1 rfl rfl (show ¬ ((7 : Int32) < 0 ∨ 8 ≤ (7 : Int32).toNatClampNeg) by decide) dM_init_191 (fun H locs hP hD hS => ?_)
  obtain ⟨hP, hD⟩ : xPD D xcl A [(a0, .inr (5, [v1, .ref q1, v3, .ref q2, v5, .ref q3, .ref q4, v8, v9, v10, .ref q5, .ref q6, v13, .ref q7, .ref q8, v16, v17, v18, v19, .int 40, .int (-1), .ref q9, v23, .int 1000000000, .ref q10, .ref q19, .ref q20, v28, .ref q21, v30, v31, .int (-1)])), (q1, .inl (cT 4, 1024, .inr (.inr (.inr (.inr (fun _ => none)))))), (q2, .inl (cT 0, 4096, .inl (fun _ => 0))), (q3, .inl (cT 4, 1024, .inr (.inr (.inr (.inr (fun _ => none)))))), (q4, .inl (cT 4, 1024, .inr (.inr (.inr (.inr (fun _ => none)))))), (q5, .inl (cT 4, 256, .inr (.inr (.inr (.inr (fun _ => none)))))), (q6, .inl (cT 4, 256, .inr (.inr (.inr (.inr (fun _ => none)))))), (q7, .inl (cT 1, 64, .inl (fun _ => 0))), (q8, .inl (cT 1, 64, .inl (fun _ => 0))), (q9, .inl (cT 0, 1024, .inl (fun _ => 0))), (q10, .inl (cT 5, 8, .inr (.inr (.inr (.inr (x8 q11 q12 q13 q14 q15 q16 q17 q18)))))), (q11, .inl (cT 0, 4096, .inl (upd (upd (upd (upd (fun _ => 0) 0 110) 1 117) 2 108) 3 108))), (q12, .inl (cT 0, 4096, .inl (upd (upd (upd (upd (fun _ => 0) 0 110) 1 117) 2 108) 3 108))), (q13, .inl (cT 0, 4096, .inl (upd (upd (upd (upd (fun _ => 0) 0 110) 1 117) 2 108) 3 108))), (q14, .inl (cT 0, 4096, .inl (upd (upd (upd (upd (fun _ => 0) 0 110) 1 117) 2 108) 3 108))), (q15, .inl (cT 0, 4096, .inl (upd (upd (upd (upd (fun _ => 0) 0 110) 1 117) 2 108) 3 108))), (q16, .inl (cT 0, 4096, .inl (upd (upd (upd (upd (fun _ => 0) 0 110) 1 117) 2 108) 3 108))), (q17, .inl (cT 0, 4096, .inl (upd (upd (upd (upd (fun _ => 0) 0 110) 1 117) 2 108) 3 108))), (q18, .inl (cT 0, 4096, .inl (upd (upd (upd (upd (fun _ => 0) 0 110) 1 117) 2 108) 3 108))), (q19, .inl (cT 1, 8, .inl (upd (upd (upd (upd (upd (upd (upd (upd (fun _ => 0) 0 4) 1 4) 2 4) 3 4) 4 4) 5 4) 6 4) 7 4))), (q20, .inl (cT 0, 4096, .inl (fun _ => 0))), (q21, .inl (cT 0, 4096, .inl (fun _ => 0)))] H := ⟨hP, hD⟩
  refine lv_iinc (v := 8) (lv' := [(1, .int 8), (2, .int 4), (0, .ref a0)]) hx hb dM_init_192 hl (k := 1) rfl (by decide) (by decide) rfl (fun ls hl => ?_)
  refine lv_goto (tgt := 151) hx hb dM_init_195 (by decide) ?_
  refine lv_iload_n hx hb dM_init_151 rfl (lv_at hl 0 rfl) ?_
  refine lv_bipush (v := 8) hx hb dM_init_152 (by decide) ?_
  refine lv_icmp_ge (tgt := 198) hx hb dM_init_154 (by decide) (fun _ => ?_) (fun h => ((by revert h; decide : False)).elim)
  obtain ⟨hP9, hD9⟩ := xsub (wc := [(a0, .inr (5, [v1, .ref q1, v3, .ref q2, v5, .ref q3, .ref q4, v8, v9, v10, .ref q5, .ref q6, v13, .ref q7, .ref q8, v16, v17, v18, v19, .int 40, .int (-1), .ref q9, v23, .int 1000000000, .ref q10, .ref q19, .ref q20, v28, .ref q21, v30, v31, .int (-1)])), (q1, .inl (cT 4, 1024, .inr (.inr (.inr (.inr (fun _ => none)))))), (q2, .inl (cT 0, 4096, .inl (fun _ => 0))), (q3, .inl (cT 4, 1024, .inr (.inr (.inr (.inr (fun _ => none)))))), (q4, .inl (cT 4, 1024, .inr (.inr (.inr (.inr (fun _ => none)))))), (q5, .inl (cT 4, 256, .inr (.inr (.inr (.inr (fun _ => none)))))), (q6, .inl (cT 4, 256, .inr (.inr (.inr (.inr (fun _ => none)))))), (q7, .inl (cT 1, 64, .inl (fun _ => 0))), (q8, .inl (cT 1, 64, .inl (fun _ => 0))), (q9, .inl (cT 0, 1024, .inl (fun _ => 0))), (q10, .inl (cT 5, 8, .inr (.inr (.inr (.inr (x8 q11 q12 q13 q14 q15 q16 q17 q18)))))), (q11, .inl (cT 0, 4096, .inl (upd (upd (upd (upd (fun _ => 0) 0 110) 1 117) 2 108) 3 108))), (q12, .inl (cT 0, 4096, .inl (upd (upd (upd (upd (fun _ => 0) 0 110) 1 117) 2 108) 3 108))), (q13, .inl (cT 0, 4096, .inl (upd (upd (upd (upd (fun _ => 0) 0 110) 1 117) 2 108) 3 108))), (q14, .inl (cT 0, 4096, .inl (upd (upd (upd (upd (fun _ => 0) 0 110) 1 117) 2 108) 3 108))), (q15, .inl (cT 0, 4096, .inl (upd (upd (upd (upd (fun _ => 0) 0 110) 1 117) 2 108) 3 108))), (q16, .inl (cT 0, 4096, .inl (upd (upd (upd (upd (fun _ => 0) 0 110) 1 117) 2 108) 3 108))), (q17, .inl (cT 0, 4096, .inl (upd (upd (upd (upd (fun _ => 0) 0 110) 1 117) 2 108) 3 108))), (q18, .inl (cT 0, 4096, .inl (upd (upd (upd (upd (fun _ => 0) 0 110) 1 117) 2 108) 3 108))), (q19, .inl (cT 1, 8, .inl (upd (upd (upd (upd (upd (upd (upd (upd (fun _ => 0) 0 4) 1 4) 2 4) 3 4) 4 4) 5 4) 6 4) 7 4))), (q20, .inl (cT 0, 4096, .inl (fun _ => 0))), (q21, .inl (cT 0, 4096, .inl (fun _ => 0)))]) hP hD [0, 1, 2, 3, 4, 5, 6, 7, 8, 9, 10, 11, 12, 13, 14, 15, 16, 17, 18, 19, 20, 21] rfl rfl (by decide)
  refine W.widen (k := 21) (n := 49808) (Nat.le_of_ble_eq_true rfl) (Nat.le_of_ble_eq_true rfl) ?_
  exact W.vret hx hb hr (fun t ht hW => ⟨⟨(), rfl, trivial, q1, q2, q3, q4, q5, q6, q7, q8, q9, q10, q11, q12, q13, q14, q15, q16, q17, q18, q19, q20, q21, by rw [ht]; exact hP9, va_K.moved hW.alike hK, hD9⟩, hS.F ht⟩) hS.2.2 dM_init_198
