set_option maxHeartbeats 400000000 in
set_option maxRecDepth 100000 in
theorem gD_broken (l : Launch) (hl9 : l.stackTraces = false) (D : va_G) (cT : Nat → ClassId) (aK aV : Nat → Nat) (sz n : Nat) (a0 : Nat) (a1 : Nat) (a2 : Nat) (a3 : Nat) (a4 : Nat) (x1 : Int32) (f0 : Nat → Int32) (v1 : Int32) (v2 : Int32) (f3 : Nat → Int64) (v4 : Int32) (v5 : Int32) (v6 : Int32) (v7 : Int32) (out : Int32 × Int32) (hf : fD_broken n x1 f0 v1 v2 f3 v4 v5 v6 v7 = some out) : xMet l yD_broken wyD_broken 0 0 0 0 D cT aK aV sz [.ref a0, .int x1] [(a0, .inr (4, [.ref a1, .ref a3, .int v6, .int v7])), (a1, .inr (1, [.ref a2, .int v1, .int v2])), (a2, .inl (cT 0, 4096, .inl f0)), (a3, .inr (2, [.ref a4, .int v4, .int v5])), (a4, .inl (cT 2, 4096, .inr (.inl f3)))] (fun A => va_Qi (fun (r : Int32) (_ : Unit) => r = out.1) (fun _ t => xB D xcl cT A [(a0, .inr (4, [.ref a1, .ref a3, .int v6, .int out.2])), (a1, .inr (1, [.ref a2, .int v1, .int v2])), (a2, .inl (cT 0, 4096, .inl f0)), (a3, .inr (2, [.ref a4, .int v4, .int v5])), (a4, .inl (cT 2, 4096, .inr (.inl f3)))] t) A) := by
  refine Met.ofW (cc := prog_7_method_5_code) (maxL := 2) (ret := (some .boolean)) (by decide) rfl ?_
  intro p e s m args below meth c s₁ B hml hv
  obtain ⟨rfl, hsz, hZ, hP, hK, hD0⟩ := hv
  have hx := B.exec
  have hb := B.bytes
  have hr := B.returns
  have hts := atoms_spec (ws := wyD_broken) B.pre
  have htx := fun w h => hts w (List.mem_cons_of_mem _ h)
  have hown : s.vm.findClass "ValueBench$Reader" = some m.cls := findClass_of_methodNamed B.named
  have hlocks := B.notSynchronized
  subst hsz
  have hD := hD0.self (sz := s.heap.size)
  generalize hAe : va_A [(a0, .inr (4, [.ref a1, .ref a3, .int v6, .int v7])), (a1, .inr (1, [.ref a2, .int v1, .int v2])), (a2, .inl (cT 0, 4096, .inl f0)), (a3, .inr (2, [.ref a4, .int v4, .int v5])), (a4, .inl (cT 2, 4096, .inr (.inl f3)))] s.heap.size = A at hD hZ ⊢
  have hA : ∀ q : Nat, s.heap.size ≤ q → A q := fun q h => by rw [← hAe]; exact Or.inr h
  have hS : va_S A s.heap s.heap [] := va_S.rf
  have hP : va_P D xcl [(a0, .inr (4, [.ref a1, .ref a3, .int v6, .int v7])), (a1, .inr (1, [.ref a2, .int v1, .int v2])), (a2, .inl (cT 0, 4096, .inl f0)), (a3, .inr (2, [.ref a4, .int v4, .int v5])), (a4, .inl (cT 2, 4096, .inr (.inl f3)))] s.heap := hP
  have hl := lv_entry ([.ref a0, .int x1]) (n := 2) (Nat.le_of_ble_eq_true rfl)
  rw [lg_entry_eq]
  generalize (lg_sl ([.ref a0, .int x1]) ++ List.replicate (2 - (lg_sl ([.ref a0, .int x1])).length) Slot.unset).toArray = ls at hl ⊢
  have hl : lv_has ls 2 [(0, .ref a0), (1, .int x1)] := hl
  unfold fD_broken at hf
  refine lv_aload_n hx hb dD_broken_0 rfl (lv_at hl 0 rfl) ?_
  refine lv_iload_n hx hb dD_broken_1 rfl (lv_at hl 1 rfl) ?_
  refine va_put (D := D) (ci := 4) (v := .int x1) (ty := .int) (C := "ValueBench$Reader") (T := TD) (N := 4) hx hb htx inD tyD tyD_ok nmD hown hK hP hD hS 0 rfl rfl 3 (by decide) (htx _ kw_2_32) (fun _ h9 => h9) rfl (by decide +kernel) rfl rfl (Nat.le_of_ble_eq_true rfl) dD_broken_2 (fun H locs hP hD hS => ?_)
  obtain ⟨hP, hD⟩ : xPD D xcl A [(a0, .inr (4, [.ref a1, .ref a3, .int v6, .int x1])), (a1, .inr (1, [.ref a2, .int v1, .int v2])), (a2, .inl (cT 0, 4096, .inl f0)), (a3, .inr (2, [.ref a4, .int v4, .int v5])), (a4, .inl (cT 2, 4096, .inr (.inl f3)))] H := ⟨hP, hD⟩
  refine lv_iconst (v := 0) hx hb dD_broken_5 (by decide) ?_
  obtain rfl := Option.some.inj hf
  obtain ⟨hP9, hD9⟩ := xsub (wc := [(a0, .inr (4, [.ref a1, .ref a3, .int v6, .int x1])), (a1, .inr (1, [.ref a2, .int v1, .int v2])), (a2, .inl (cT 0, 4096, .inl f0)), (a3, .inr (2, [.ref a4, .int v4, .int v5])), (a4, .inl (cT 2, 4096, .inr (.inl f3)))]) hP hD [0, 1, 2, 3, 4] rfl rfl (by decide)
  exact W.zret (v := (0 : Int32)) hx hb hr rfl (fun t ht hW => ⟨⟨(0 : Int32), (), rfl, rfl, by rw [ht]; exact hP9, va_K.moved hW.alike hK, hD9⟩, hS.F ht⟩) hS.2.2 dD_broken_6
set_option maxHeartbeats 400000000 in
set_option maxRecDepth 100000 in
theorem gD_take (l : Launch) (hl9 : l.stackTraces = false) (D : va_G) (cT : Nat → ClassId) (aK aV : Nat → Nat) (sz n : Nat) (a0 : Nat) (a1 : Nat) (a2 : Nat) (a3 : Nat) (a4 : Nat) (x1 : Int32) (f0 : Nat → Int32) (v1 : Int32) (v2 : Int32) (f3 : Nat → Int64) (v4 : Int32) (v5 : Int32) (v6 : Int32) (v7 : Int32) (out : Int32 × Int32 × Int32) (hf : fD_take n x1 f0 v1 v2 f3 v4 v5 v6 v7 = some out) : xMet l yD_take wyD_take 1 0 0 21 D cT aK aV sz [.ref a0, .int x1] [(a0, .inr (4, [.ref a1, .ref a3, .int v6, .int v7])), (a1, .inr (1, [.ref a2, .int v1, .int v2])), (a2, .inl (cT 0, 4096, .inl f0)), (a3, .inr (2, [.ref a4, .int v4, .int v5])), (a4, .inl (cT 2, 4096, .inr (.inl f3)))] (fun A => va_Qi (fun (r : Int32) (_ : Unit) => r = out.1) (fun _ t => xB D xcl cT A [(a0, .inr (4, [.ref a1, .ref a3, .int out.2.1, .int out.2.2])), (a1, .inr (1, [.ref a2, .int v1, .int v2])), (a2, .inl (cT 0, 4096, .inl f0)), (a3, .inr (2, [.ref a4, .int v4, .int v5])), (a4, .inl (cT 2, 4096, .inr (.inl f3)))] t) A) := by
  refine Met.ofW (cc := prog_7_method_7_code) (maxL := 2) (ret := (some .boolean)) (by decide) rfl ?_
  intro p e s m args below meth c s₁ B hml hv
  obtain ⟨rfl, hsz, hZ, hP, hK, hD0⟩ := hv
  have hx := B.exec
  have hb := B.bytes
  have hr := B.returns
  have hts := atoms_spec (ws := wyD_take) B.pre
  have htx := fun w h => hts w (List.mem_cons_of_mem _ h)
  have hown : s.vm.findClass "ValueBench$Reader" = some m.cls := findClass_of_methodNamed B.named
  have hlocks := B.notSynchronized
  subst hsz
  have hD := hD0.self (sz := s.heap.size)
  generalize hAe : va_A [(a0, .inr (4, [.ref a1, .ref a3, .int v6, .int v7])), (a1, .inr (1, [.ref a2, .int v1, .int v2])), (a2, .inl (cT 0, 4096, .inl f0)), (a3, .inr (2, [.ref a4, .int v4, .int v5])), (a4, .inl (cT 2, 4096, .inr (.inl f3)))] s.heap.size = A at hD hZ ⊢
  have hA : ∀ q : Nat, s.heap.size ≤ q → A q := fun q h => by rw [← hAe]; exact Or.inr h
  have hS : va_S A s.heap s.heap [] := va_S.rf
  have hP : va_P D xcl [(a0, .inr (4, [.ref a1, .ref a3, .int v6, .int v7])), (a1, .inr (1, [.ref a2, .int v1, .int v2])), (a2, .inl (cT 0, 4096, .inl f0)), (a3, .inr (2, [.ref a4, .int v4, .int v5])), (a4, .inl (cT 2, 4096, .inr (.inl f3)))] s.heap := hP
  have hl := lv_entry ([.ref a0, .int x1]) (n := 2) (Nat.le_of_ble_eq_true rfl)
  rw [lg_entry_eq]
  generalize (lg_sl ([.ref a0, .int x1]) ++ List.replicate (2 - (lg_sl ([.ref a0, .int x1])).length) Slot.unset).toArray = ls at hl ⊢
  have hl : lv_has ls 2 [(0, .ref a0), (1, .int x1)] := hl
  unfold fD_take at hf
  refine lv_aload_n hx hb dD_take_0 rfl (lv_at hl 0 rfl) ?_
  refine va_get (D := D) (ci := 4) (v := .ref a1) (C := "ValueBench$Reader") (T := TD) (N := 4) hx hb htx inD hown hK hP 0 rfl rfl 0 (by decide) (htx _ kw_2_29) (fun _ h9 => h9) rfl dD_take_1 ?_
  refine lv_aload_n hx hb dD_take_4 rfl (lv_at hl 0 rfl) ?_
  refine va_get (D := D) (ci := 4) (v := .int v6) (C := "ValueBench$Reader") (T := TD) (N := 4) hx hb htx inD hown hK hP 0 rfl rfl 2 (by decide) (htx _ kw_2_31) (fun _ h9 => h9) rfl dD_take_5 ?_
  obtain ⟨o1, hq2, hf⟩ := xbind hf
  obtain ⟨hPc, hDc, hFc⟩ := xcut (wc := [(a1, .inr (1, [.ref a2, .int v1, .int v2])), (a2, .inl (cT 0, 4096, .inl f0))]) hP hD hS hA [1, 2] rfl rfl (by decide)
  refine va_calli (va_runV (C := "ValueBench$Text") (As := [.int v6]) (rest := []) ⟨hx, hb, hml, hown, htx⟩ (gT_at l hl9 D cT aK aV s.heap.size n a1 a2 v6 f0 v1 v2 o1 hq2) ⟨callB_of 1 htx (xw_goodC kw_2_58) rfl rfl rfl (htx _ kw_1_2) (htx _ kw_2_55) ⟨by decide, by decide, by decide +kernel⟩ ⟨Nat.le_of_ble_eq_true rfl, Nat.le_of_ble_eq_true rfl⟩, (htx _ kw_2_56), (htx _ kw_2_57)⟩ ⟨xPre_blind, va_recv hK hP (ci := 1) rfl (q0 := 1) rfl, (fun U hU hW => ⟨rfl, xPre_of hZ hS hFc hPc hDc hK U hU hW⟩)⟩ rfl rfl hl.1 rfl (lv_room (Nat.le_of_ble_eq_true rfl)) dD_take_8 ⟨Nat.le_of_ble_eq_true rfl, Nat.le_of_ble_eq_true rfl⟩) hS (fun q _ h => hFc q h) hFc (fun r3 u9 t H1 locs ht hvm hr9 hB hz1 hk1 hS => ?_)
  obtain ⟨hP1, hK1, hD1⟩ := hB
  rw [ht] at hP1
  obtain ⟨hP, hD⟩ := xjoin (W := [(a0, .inr (4, [.ref a1, .ref a3, .int v6, .int v7])), (a3, .inr (2, [.ref a4, .int v4, .int v5])), (a4, .inl (cT 2, 4096, .inr (.inl f3))), (a1, .inr (1, [.ref a2, .int v1, .int v2])), (a2, .inl (cT 0, 4096, .inl f0))]) hP hD [1, 2] [0, 3, 4] 3 rfl rfl (by decide) (by decide) hk1 hFc hP1 hD1
  generalize H1 = H at hP hS ⊢
  rw [hr9]
  refine W.eq (g2 := F0 m 11 ls [.int o1]) rfl ?_
  refine lv_iload_n hx hb dD_take_11 rfl (lv_at hl 1 rfl) ?_
  refine lv_icmp_eq (tgt := 24) hx hb dD_take_12 (by decide) (fun hc => ?_) (fun hc => ?_)
  · rw [if_pos hc] at hf
    refine lv_aload_n hx hb dD_take_24 rfl (lv_at hl 0 rfl) ?_
    refine lv_dup hx hb dD_take_25 rfl ?_
    refine va_get (D := D) (ci := 4) (v := .int v6) (C := "ValueBench$Reader") (T := TD) (N := 4) hx hb htx inD hown hK hP 0 rfl rfl 2 (by decide) (htx _ kw_2_31) (fun _ h9 => h9) rfl dD_take_26 ?_
    refine lv_iconst (v := 1) hx hb dD_take_29 (by decide) ?_
    refine lv_iadd hx hb dD_take_30 ?_
    refine va_put (D := D) (ci := 4) (v := .int (v6 + (1 : Int32))) (ty := .int) (C := "ValueBench$Reader") (T := TD) (N := 4) hx hb htx inD tyD tyD_ok nmD hown hK hP hD hS 0 rfl rfl 2 (by decide) (htx _ kw_2_31) (fun _ h9 => h9) rfl (by decide +kernel) rfl rfl (Nat.le_of_ble_eq_true rfl) dD_take_31 (fun H locs hP hD hS => ?_)
    obtain ⟨hP, hD⟩ : xPD D xcl A [(a0, .inr (4, [.ref a1, .ref a3, .int (v6 + (1 : Int32)), .int v7])), (a3, .inr (2, [.ref a4, .int v4, .int v5])), (a4, .inl (cT 2, 4096, .inr (.inl f3))), (a1, .inr (1, [.ref a2, .int v1, .int v2])), (a2, .inl (cT 0, 4096, .inl f0))] H := ⟨hP, hD⟩
    refine lv_iconst (v := 1) hx hb dD_take_34 (by decide) ?_
    obtain rfl := Option.some.inj hf
    obtain ⟨hP9, hD9⟩ := xsub (wc := [(a0, .inr (4, [.ref a1, .ref a3, .int (v6 + (1 : Int32)), .int v7])), (a1, .inr (1, [.ref a2, .int v1, .int v2])), (a2, .inl (cT 0, 4096, .inl f0)), (a3, .inr (2, [.ref a4, .int v4, .int v5])), (a4, .inl (cT 2, 4096, .inr (.inl f3)))]) hP hD [0, 3, 4, 1, 2] rfl rfl (by decide)
    exact W.zret (v := (1 : Int32)) hx hb hr rfl (fun t ht hW => ⟨⟨(1 : Int32), (), rfl, rfl, by rw [ht]; exact hP9, va_K.moved hW.alike hK, hD9⟩, hS.F ht⟩) hS.2.2 dD_take_35
  · rw [if_neg hc] at hf
    refine lv_aload_n hx hb dD_take_15 rfl (lv_at hl 0 rfl) ?_
    refine lv_aload_n hx hb dD_take_16 rfl (lv_at hl 0 rfl) ?_
    refine va_get (D := D) (ci := 4) (v := .int v6) (C := "ValueBench$Reader") (T := TD) (N := 4) hx hb htx inD hown hK hP 0 rfl rfl 2 (by decide) (htx _ kw_2_31) (fun _ h9 => h9) rfl dD_take_17 ?_
    obtain ⟨o4, hq5, hf⟩ := xbind hf
    obtain ⟨hPc, hDc, hFc⟩ := xcut (wc := [(a0, .inr (4, [.ref a1, .ref a3, .int v6, .int v7])), (a1, .inr (1, [.ref a2, .int v1, .int v2])), (a2, .inl (cT 0, 4096, .inl f0)), (a3, .inr (2, [.ref a4, .int v4, .int v5])), (a4, .inl (cT 2, 4096, .inr (.inl f3)))]) hP hD hS hA [0, 3, 4, 1, 2] rfl rfl (by decide)
    refine va_calli (va_runV (C := "ValueBench$Reader") (As := [.int v6]) (rest := []) ⟨hx, hb, hml, hown, htx⟩ (gD_broken l hl9 D cT aK aV H.size n a0 a1 a2 a3 a4 v6 f0 v1 v2 f3 v4 v5 v6 v7 o4 hq5) ⟨callB_of 1 htx (xw_goodC kw_2_122) rfl rfl rfl (htx _ kw_1_16) (htx _ kw_2_119) ⟨by decide, by decide, by decide +kernel⟩ ⟨Nat.le_of_ble_eq_true rfl, Nat.le_of_ble_eq_true rfl⟩, (htx _ kw_2_121), (htx _ kp_D_broken)⟩ ⟨xPre_blind, va_recv hK hP (ci := 4) rfl (q0 := 0) rfl, (fun U hU hW => ⟨rfl, xPre_of hZ hS hFc hPc hDc hK U hU hW⟩)⟩ rfl rfl hl.1 rfl (lv_room (Nat.le_of_ble_eq_true rfl)) dD_take_20 ⟨Nat.le_of_ble_eq_true rfl, Nat.le_of_ble_eq_true rfl⟩) hS (fun q _ h => hFc q h) hFc (fun r6 u9 t H1 locs ht hvm hr9 hB hz1 hk1 hS => ?_)
    obtain ⟨hP1, hK1, hD1⟩ := hB
    rw [ht] at hP1
    obtain ⟨hP, hD⟩ := xjoin (W := [(a0, .inr (4, [.ref a1, .ref a3, .int v6, .int o4.2])), (a1, .inr (1, [.ref a2, .int v1, .int v2])), (a2, .inl (cT 0, 4096, .inl f0)), (a3, .inr (2, [.ref a4, .int v4, .int v5])), (a4, .inl (cT 2, 4096, .inr (.inl f3)))]) hP hD [0, 3, 4, 1, 2] [] 0 rfl rfl (by decide) (by decide) hk1 hFc hP1 hD1
    generalize H1 = H at hP hS ⊢
    rw [hr9]
    refine W.eq (g2 := F0 m 23 ls [.int o4.1]) rfl ?_
    obtain ⟨hg7, hf⟩ := xifn hf
    obtain rfl := Option.some.inj hf
    obtain ⟨hP9, hD9⟩ := xsub (wc := [(a0, .inr (4, [.ref a1, .ref a3, .int v6, .int o4.2])), (a1, .inr (1, [.ref a2, .int v1, .int v2])), (a2, .inl (cT 0, 4096, .inl f0)), (a3, .inr (2, [.ref a4, .int v4, .int v5])), (a4, .inl (cT 2, 4096, .inr (.inl f3)))]) hP hD [0, 1, 2, 3, 4] rfl rfl (by decide)
    exact W.zret (v := o4.1) hx hb hr (xzb hg7) (fun t ht hW => ⟨⟨o4.1, (), rfl, rfl, by rw [ht]; exact hP9, va_K.moved hW.alike hK, hD9⟩, hS.F ht⟩) hS.2.2 dD_take_23
set_option maxHeartbeats 400000000 in
set_option maxRecDepth 100000 in
theorem gD_brokenCode (l : Launch) (hl9 : l.stackTraces = false) (D : va_G) (cT : Nat → ClassId) (aK aV : Nat → Nat) (sz n : Nat) (a0 : Nat) (a1 : Nat) (a2 : Nat) (a3 : Nat) (a4 : Nat) (x1 : Int32) (f0 : Nat → Int32) (v1 : Int32) (v2 : Int32) (f3 : Nat → Int64) (v4 : Int32) (v5 : Int32) (v6 : Int32) (v7 : Int32) (out : Int32 × Int32) (hf : fD_brokenCode n x1 f0 v1 v2 f3 v4 v5 v6 v7 = some out) : xMet l yD_brokenCode wyD_brokenCode 0 0 0 0 D cT aK aV sz [.ref a0, .int x1] [(a0, .inr (4, [.ref a1, .ref a3, .int v6, .int v7])), (a1, .inr (1, [.ref a2, .int v1, .int v2])), (a2, .inl (cT 0, 4096, .inl f0)), (a3, .inr (2, [.ref a4, .int v4, .int v5])), (a4, .inl (cT 2, 4096, .inr (.inl f3)))] (fun A => va_Qi (fun (r : Int32) (_ : Unit) => r = out.1) (fun _ t => xB D xcl cT A [(a0, .inr (4, [.ref a1, .ref a3, .int v6, .int out.2])), (a1, .inr (1, [.ref a2, .int v1, .int v2])), (a2, .inl (cT 0, 4096, .inl f0)), (a3, .inr (2, [.ref a4, .int v4, .int v5])), (a4, .inl (cT 2, 4096, .inr (.inl f3)))] t) A) := by
  refine Met.ofW (cc := prog_7_method_6_code) (maxL := 2) (ret := (some .int)) (by decide) rfl ?_
  intro p e s m args below meth c s₁ B hml hv
  obtain ⟨rfl, hsz, hZ, hP, hK, hD0⟩ := hv
  have hx := B.exec
  have hb := B.bytes
  have hr := B.returns
  have hts := atoms_spec (ws := wyD_brokenCode) B.pre
  have htx := fun w h => hts w (List.mem_cons_of_mem _ h)
  have hown : s.vm.findClass "ValueBench$Reader" = some m.cls := findClass_of_methodNamed B.named
  have hlocks := B.notSynchronized
  subst hsz
  have hD := hD0.self (sz := s.heap.size)
  generalize hAe : va_A [(a0, .inr (4, [.ref a1, .ref a3, .int v6, .int v7])), (a1, .inr (1, [.ref a2, .int v1, .int v2])), (a2, .inl (cT 0, 4096, .inl f0)), (a3, .inr (2, [.ref a4, .int v4, .int v5])), (a4, .inl (cT 2, 4096, .inr (.inl f3)))] s.heap.size = A at hD hZ ⊢
  have hA : ∀ q : Nat, s.heap.size ≤ q → A q := fun q h => by rw [← hAe]; exact Or.inr h
  have hS : va_S A s.heap s.heap [] := va_S.rf
  have hP : va_P D xcl [(a0, .inr (4, [.ref a1, .ref a3, .int v6, .int v7])), (a1, .inr (1, [.ref a2, .int v1, .int v2])), (a2, .inl (cT 0, 4096, .inl f0)), (a3, .inr (2, [.ref a4, .int v4, .int v5])), (a4, .inl (cT 2, 4096, .inr (.inl f3)))] s.heap := hP
  have hl := lv_entry ([.ref a0, .int x1]) (n := 2) (Nat.le_of_ble_eq_true rfl)
  rw [lg_entry_eq]
  generalize (lg_sl ([.ref a0, .int x1]) ++ List.replicate (2 - (lg_sl ([.ref a0, .int x1])).length) Slot.unset).toArray = ls at hl ⊢
  have hl : lv_has ls 2 [(0, .ref a0), (1, .int x1)] := hl
  unfold fD_brokenCode at hf
  refine lv_aload_n hx hb dD_brokenCode_0 rfl (lv_at hl 0 rfl) ?_
  refine lv_iload_n hx hb dD_brokenCode_1 rfl (lv_at hl 1 rfl) ?_
  refine va_put (D := D) (ci := 4) (v := .int x1) (ty := .int) (C := "ValueBench$Reader") (T := TD) (N := 4) hx hb htx inD tyD tyD_ok nmD hown hK hP hD hS 0 rfl rfl 3 (by decide) (htx _ kw_2_32) (fun _ h9 => h9) rfl (by decide +kernel) rfl rfl (Nat.le_of_ble_eq_true rfl) dD_brokenCode_2 (fun H locs hP hD hS => ?_)
  obtain ⟨hP, hD⟩ : xPD D xcl A [(a0, .inr (4, [.ref a1, .ref a3, .int v6, .int x1])), (a1, .inr (1, [.ref a2, .int v1, .int v2])), (a2, .inl (cT 0, 4096, .inl f0)), (a3, .inr (2, [.ref a4, .int v4, .int v5])), (a4, .inl (cT 2, 4096, .inr (.inl f3)))] H := ⟨hP, hD⟩
  refine lv_iconst (v := (-1)) hx hb dD_brokenCode_5 (by decide) ?_
  obtain rfl := Option.some.inj hf
  obtain ⟨hP9, hD9⟩ := xsub (wc := [(a0, .inr (4, [.ref a1, .ref a3, .int v6, .int x1])), (a1, .inr (1, [.ref a2, .int v1, .int v2])), (a2, .inl (cT 0, 4096, .inl f0)), (a3, .inr (2, [.ref a4, .int v4, .int v5])), (a4, .inl (cT 2, 4096, .inr (.inl f3)))]) hP hD [0, 1, 2, 3, 4] rfl rfl (by decide)
  exact W.iret (v := ((-1) : Int32)) hx hb hr (fun t ht hW => ⟨⟨((-1) : Int32), (), rfl, rfl, by rw [ht]; exact hP9, va_K.moved hW.alike hK, hD9⟩, hS.F ht⟩) hS.2.2 dD_brokenCode_6
set_option maxHeartbeats 400000000 in
set_option maxRecDepth 100000 in
theorem gD_plain (l : Launch) (hl9 : l.stackTraces = false) (D : va_G) (cT : Nat → ClassId) (aK aV : Nat → Nat) (sz n : Nat) (a0 : Nat) (a1 : Nat) (a2 : Nat) (a3 : Nat) (a4 : Nat) (f0 : Nat → Int32) (v1 : Int32) (v2 : Int32) (f3 : Nat → Int64) (v4 : Int32) (v5 : Int32) (v6 : Int32) (v7 : Int32) (out : Int32 × Int32) (hf : fD_plain n f0 v1 v2 f3 v4 v5 v6 v7 = some out) : xMet l yD_plain wyD_plain 1 0 0 21 D cT aK aV sz [.ref a0] [(a0, .inr (4, [.ref a1, .ref a3, .int v6, .int v7])), (a1, .inr (1, [.ref a2, .int v1, .int v2])), (a2, .inl (cT 0, 4096, .inl f0)), (a3, .inr (2, [.ref a4, .int v4, .int v5])), (a4, .inl (cT 2, 4096, .inr (.inl f3)))] (fun A => va_Qi (fun (r : Int32) (_ : Unit) => r = out.1) (fun _ t => xB D xcl cT A [(a0, .inr (4, [.ref a1, .ref a3, .int v6, .int out.2])), (a1, .inr (1, [.ref a2, .int v1, .int v2])), (a2, .inl (cT 0, 4096, .inl f0)), (a3, .inr (2, [.ref a4, .int v4, .int v5])), (a4, .inl (cT 2, 4096, .inr (.inl f3)))] t) A) := by
  refine Met.ofW (cc := prog_7_method_16_code) (maxL := 2) (ret := (some .int)) (by decide) rfl ?_
  intro p e s m args below meth c s₁ B hml hv
  obtain ⟨rfl, hsz, hZ, hP, hK, hD0⟩ := hv
  have hx := B.exec
  have hb := B.bytes
  have hr := B.returns
  have hts := atoms_spec (ws := wyD_plain) B.pre
  have htx := fun w h => hts w (List.mem_cons_of_mem _ h)
  have hown : s.vm.findClass "ValueBench$Reader" = some m.cls := findClass_of_methodNamed B.named
  have hlocks := B.notSynchronized
  subst hsz
  have hD := hD0.self (sz := s.heap.size)
  generalize hAe : va_A [(a0, .inr (4, [.ref a1, .ref a3, .int v6, .int v7])), (a1, .inr (1, [.ref a2, .int v1, .int v2])), (a2, .inl (cT 0, 4096, .inl f0)), (a3, .inr (2, [.ref a4, .int v4, .int v5])), (a4, .inl (cT 2, 4096, .inr (.inl f3)))] s.heap.size = A at hD hZ ⊢
  have hA : ∀ q : Nat, s.heap.size ≤ q → A q := fun q h => by rw [← hAe]; exact Or.inr h
  have hS : va_S A s.heap s.heap [] := va_S.rf
  have hP : va_P D xcl [(a0, .inr (4, [.ref a1, .ref a3, .int v6, .int v7])), (a1, .inr (1, [.ref a2, .int v1, .int v2])), (a2, .inl (cT 0, 4096, .inl f0)), (a3, .inr (2, [.ref a4, .int v4, .int v5])), (a4, .inl (cT 2, 4096, .inr (.inl f3)))] s.heap := hP
  have hl := lv_entry ([.ref a0]) (n := 2) (Nat.le_of_ble_eq_true rfl)
  rw [lg_entry_eq]
  generalize (lg_sl ([.ref a0]) ++ List.replicate (2 - (lg_sl ([.ref a0])).length) Slot.unset).toArray = ls at hl ⊢
  have hl : lv_has ls 2 [(0, .ref a0)] := hl
  unfold fD_plain at hf
  refine lv_aload_n hx hb dD_plain_0 rfl (lv_at hl 0 rfl) ?_
  refine va_get (D := D) (ci := 4) (v := .ref a1) (C := "ValueBench$Reader") (T := TD) (N := 4) hx hb htx inD hown hK hP 0 rfl rfl 0 (by decide) (htx _ kw_2_29) (fun _ h9 => h9) rfl dD_plain_1 ?_
  refine lv_aload_n hx hb dD_plain_4 rfl (lv_at hl 0 rfl) ?_
  refine va_get (D := D) (ci := 4) (v := .int v6) (C := "ValueBench$Reader") (T := TD) (N := 4) hx hb htx inD hown hK hP 0 rfl rfl 2 (by decide) (htx _ kw_2_31) (fun _ h9 => h9) rfl dD_plain_5 ?_
  obtain ⟨o1, hq2, hf⟩ := xbind hf
  obtain ⟨hPc, hDc, hFc⟩ := xcut (wc := [(a1, .inr (1, [.ref a2, .int v1, .int v2])), (a2, .inl (cT 0, 4096, .inl f0))]) hP hD hS hA [1, 2] rfl rfl (by decide)
  refine va_calli (va_runV (C := "ValueBench$Text") (As := [.int v6]) (rest := []) ⟨hx, hb, hml, hown, htx⟩ (gT_at l hl9 D cT aK aV s.heap.size n a1 a2 v6 f0 v1 v2 o1 hq2) ⟨callB_of 1 htx (xw_goodC kw_2_58) rfl rfl rfl (htx _ kw_1_2) (htx _ kw_2_55) ⟨by decide, by decide, by decide +kernel⟩ ⟨Nat.le_of_ble_eq_true rfl, Nat.le_of_ble_eq_true rfl⟩, (htx _ kw_2_56), (htx _ kw_2_57)⟩ ⟨xPre_blind, va_recv hK hP (ci := 1) rfl (q0 := 1) rfl, (fun U hU hW => ⟨rfl, xPre_of hZ hS hFc hPc hDc hK U hU hW⟩)⟩ rfl rfl hl.1 rfl (lv_room (Nat.le_of_ble_eq_true rfl)) dD_plain_8 ⟨Nat.le_of_ble_eq_true rfl, Nat.le_of_ble_eq_true rfl⟩) hS (fun q _ h => hFc q h) hFc (fun r3 u9 t H1 locs ht hvm hr9 hB hz1 hk1 hS => ?_)
  obtain ⟨hP1, hK1, hD1⟩ := hB
  rw [ht] at hP1
  obtain ⟨hP, hD⟩ := xjoin (W := [(a0, .inr (4, [.ref a1, .ref a3, .int v6, .int v7])), (a3, .inr (2, [.ref a4, .int v4, .int v5])), (a4, .inl (cT 2, 4096, .inr (.inl f3))), (a1, .inr (1, [.ref a2, .int v1, .int v2])), (a2, .inl (cT 0, 4096, .inl f0))]) hP hD [1, 2] [0, 3, 4] 3 rfl rfl (by decide) (by decide) hk1 hFc hP1 hD1
  generalize H1 = H at hP hS ⊢
  rw [hr9]
  refine W.eq (g2 := F0 m 11 ls [.int o1]) rfl ?_
  refine lv_istore_n (lv' := [(1, .int o1), (0, .ref a0)]) hx hb dD_plain_11 rfl hl (by decide) rfl (fun ls hl => ?_)
  refine lv_iload_n hx hb dD_plain_12 rfl (lv_at hl 0 rfl) ?_
  refine lv_bipush (v := 32) hx hb dD_plain_13 (by decide) ?_
  refine lv_icmp_lt (tgt := 28) hx hb dD_plain_15 (by decide) (fun hc => ?_) (fun hc => ?_)
  · rw [if_pos hc] at hf
    refine lv_aload_n hx hb dD_plain_28 rfl (lv_at hl 1 rfl) ?_
    refine lv_aload_n hx hb dD_plain_29 rfl (lv_at hl 1 rfl) ?_
    refine va_get (D := D) (ci := 4) (v := .int v6) (C := "ValueBench$Reader") (T := TD) (N := 4) hx hb htx inD hown hK hP 0 rfl rfl 2 (by decide) (htx _ kw_2_31) (fun _ h9 => h9) rfl dD_plain_30 ?_
    obtain ⟨o4, hq5, hf⟩ := xbind hf
    obtain ⟨hPc, hDc, hFc⟩ := xcut (wc := [(a0, .inr (4, [.ref a1, .ref a3, .int v6, .int v7])), (a1, .inr (1, [.ref a2, .int v1, .int v2])), (a2, .inl (cT 0, 4096, .inl f0)), (a3, .inr (2, [.ref a4, .int v4, .int v5])), (a4, .inl (cT 2, 4096, .inr (.inl f3)))]) hP hD hS hA [0, 3, 4, 1, 2] rfl rfl (by decide)
    refine va_calli (va_runV (C := "ValueBench$Reader") (As := [.int v6]) (rest := []) ⟨hx, hb, hml, hown, htx⟩ (gD_brokenCode l hl9 D cT aK aV H.size n a0 a1 a2 a3 a4 v6 f0 v1 v2 f3 v4 v5 v6 v7 o4 hq5) ⟨callB_of 1 htx (xw_goodC kw_2_145) rfl rfl rfl (htx _ kw_1_16) (htx _ kw_2_142) ⟨by decide, by decide, by decide +kernel⟩ ⟨Nat.le_of_ble_eq_true rfl, Nat.le_of_ble_eq_true rfl⟩, (htx _ kw_2_144), (htx _ kp_D_brokenCode)⟩ ⟨xPre_blind, va_recv hK hP (ci := 4) rfl (q0 := 0) rfl, (fun U hU hW => ⟨rfl, xPre_of hZ hS hFc hPc hDc hK U hU hW⟩)⟩ rfl rfl hl.1 rfl (lv_room (Nat.le_of_ble_eq_true rfl)) dD_plain_33 ⟨Nat.le_of_ble_eq_true rfl, Nat.le_of_ble_eq_true rfl⟩) hS (fun q _ h => hFc q h) hFc (fun r6 u9 t H1 locs ht hvm hr9 hB hz1 hk1 hS => ?_)
    obtain ⟨hP1, hK1, hD1⟩ := hB
    rw [ht] at hP1
    obtain ⟨hP, hD⟩ := xjoin (W := [(a0, .inr (4, [.ref a1, .ref a3, .int v6, .int o4.2])), (a1, .inr (1, [.ref a2, .int v1, .int v2])), (a2, .inl (cT 0, 4096, .inl f0)), (a3, .inr (2, [.ref a4, .int v4, .int v5])), (a4, .inl (cT 2, 4096, .inr (.inl f3)))]) hP hD [0, 3, 4, 1, 2] [] 0 rfl rfl (by decide) (by decide) hk1 hFc hP1 hD1
    generalize H1 = H at hP hS ⊢
    rw [hr9]
    refine W.eq (g2 := F0 m 36 ls [.int o4.1]) rfl ?_
    obtain rfl := Option.some.inj hf
    obtain ⟨hP9, hD9⟩ := xsub (wc := [(a0, .inr (4, [.ref a1, .ref a3, .int v6, .int o4.2])), (a1, .inr (1, [.ref a2, .int v1, .int v2])), (a2, .inl (cT 0, 4096, .inl f0)), (a3, .inr (2, [.ref a4, .int v4, .int v5])), (a4, .inl (cT 2, 4096, .inr (.inl f3)))]) hP hD [0, 1, 2, 3, 4] rfl rfl (by decide)
    exact W.iret (v := o4.1) hx hb hr (fun t ht hW => ⟨⟨o4.1, (), rfl, rfl, by rw [ht]; exact hP9, va_K.moved hW.alike hK, hD9⟩, hS.F ht⟩) hS.2.2 dD_plain_36
  · rw [if_neg hc] at hf
    refine lv_iload_n hx hb dD_plain_18 rfl (lv_at hl 0 rfl) ?_
    refine lv_bipush (v := 127) hx hb dD_plain_19 (by decide) ?_
    refine lv_icmp_ge (tgt := 28) hx hb dD_plain_21 (by decide) (fun hc => ?_) (fun hc => ?_)
    · rw [if_pos hc] at hf
      refine lv_aload_n hx hb dD_plain_28 rfl (lv_at hl 1 rfl) ?_
      refine lv_aload_n hx hb dD_plain_29 rfl (lv_at hl 1 rfl) ?_
      refine va_get (D := D) (ci := 4) (v := .int v6) (C := "ValueBench$Reader") (T := TD) (N := 4) hx hb htx inD hown hK hP 0 rfl rfl 2 (by decide) (htx _ kw_2_31) (fun _ h9 => h9) rfl dD_plain_30 ?_
      obtain ⟨o4, hq5, hf⟩ := xbind hf
      obtain ⟨hPc, hDc, hFc⟩ := xcut (wc := [(a0, .inr (4, [.ref a1, .ref a3, .int v6, .int v7])), (a1, .inr (1, [.ref a2, .int v1, .int v2])), (a2, .inl (cT 0, 4096, .inl f0)), (a3, .inr (2, [.ref a4, .int v4, .int v5])), (a4, .inl (cT 2, 4096, .inr (.inl f3)))]) hP hD hS hA [0, 3, 4, 1, 2] rfl rfl (by decide)
      refine va_calli (va_runV (C := "ValueBench$Reader") (As := [.int v6]) (rest := []) ⟨hx, hb, hml, hown, htx⟩ (gD_brokenCode l hl9 D cT aK aV H.size n a0 a1 a2 a3 a4 v6 f0 v1 v2 f3 v4 v5 v6 v7 o4 hq5) ⟨callB_of 1 htx (xw_goodC kw_2_145) rfl rfl rfl (htx _ kw_1_16) (htx _ kw_2_142) ⟨by decide, by decide, by decide +kernel⟩ ⟨Nat.le_of_ble_eq_true rfl, Nat.le_of_ble_eq_true rfl⟩, (htx _ kw_2_144), (htx _ kp_D_brokenCode)⟩ ⟨xPre_blind, va_recv hK hP (ci := 4) rfl (q0 := 0) rfl, (fun U hU hW => ⟨rfl, xPre_of hZ hS hFc hPc hDc hK U hU hW⟩)⟩ rfl rfl hl.1 rfl (lv_room (Nat.le_of_ble_eq_true rfl)) dD_plain_33 ⟨Nat.le_of_ble_eq_true rfl, Nat.le_of_ble_eq_true rfl⟩) hS (fun q _ h => hFc q h) hFc (fun r6 u9 t H1 locs ht hvm hr9 hB hz1 hk1 hS => ?_)
      obtain ⟨hP1, hK1, hD1⟩ := hB
      rw [ht] at hP1
      obtain ⟨hP, hD⟩ := xjoin (W := [(a0, .inr (4, [.ref a1, .ref a3, .int v6, .int o4.2])), (a1, .inr (1, [.ref a2, .int v1, .int v2])), (a2, .inl (cT 0, 4096, .inl f0)), (a3, .inr (2, [.ref a4, .int v4, .int v5])), (a4, .inl (cT 2, 4096, .inr (.inl f3)))]) hP hD [0, 3, 4, 1, 2] [] 0 rfl rfl (by decide) (by decide) hk1 hFc hP1 hD1
      generalize H1 = H at hP hS ⊢
      rw [hr9]
      refine W.eq (g2 := F0 m 36 ls [.int o4.1]) rfl ?_
      obtain rfl := Option.some.inj hf
      obtain ⟨hP9, hD9⟩ := xsub (wc := [(a0, .inr (4, [.ref a1, .ref a3, .int v6, .int o4.2])), (a1, .inr (1, [.ref a2, .int v1, .int v2])), (a2, .inl (cT 0, 4096, .inl f0)), (a3, .inr (2, [.ref a4, .int v4, .int v5])), (a4, .inl (cT 2, 4096, .inr (.inl f3)))]) hP hD [0, 1, 2, 3, 4] rfl rfl (by decide)
      exact W.iret (v := o4.1) hx hb hr (fun t ht hW => ⟨⟨o4.1, (), rfl, rfl, by rw [ht]; exact hP9, va_K.moved hW.alike hK, hD9⟩, hS.F ht⟩) hS.2.2 dD_plain_36
    · rw [if_neg hc] at hf
      refine lv_iload_n hx hb dD_plain_24 rfl (lv_at hl 0 rfl) ?_
      refine lv_goto (tgt := 36) hx hb dD_plain_25 (by decide) ?_
      obtain rfl := Option.some.inj hf
      obtain ⟨hP9, hD9⟩ := xsub (wc := [(a0, .inr (4, [.ref a1, .ref a3, .int v6, .int v7])), (a1, .inr (1, [.ref a2, .int v1, .int v2])), (a2, .inl (cT 0, 4096, .inl f0)), (a3, .inr (2, [.ref a4, .int v4, .int v5])), (a4, .inl (cT 2, 4096, .inr (.inl f3)))]) hP hD [0, 3, 4, 1, 2] rfl rfl (by decide)
      exact W.iret (v := o1) hx hb hr (fun t ht hW => ⟨⟨o1, (), rfl, rfl, by rw [ht]; exact hP9, va_K.moved hW.alike hK, hD9⟩, hS.F ht⟩) hS.2.2 dD_plain_36
set_option maxHeartbeats 400000000 in
set_option maxRecDepth 100000 in
theorem gD_codeOf (l : Launch) (hl9 : l.stackTraces = false) (D : va_G) (cT : Nat → ClassId) (aK aV : Nat → Nat) (sz n : Nat) (x0 : Int32) (out : Int32) (hf : fD_codeOf n x0 = some out) : xMet l yD_codeOf wyD_codeOf 0 0 0 0 D cT aK aV sz [.int x0] [] (fun A => va_Qi (fun (r : Int32) (_ : Unit) => r = out) (fun _ t => xB D xcl cT A [] t) A) := by
  refine Met.ofW (cc := prog_7_method_20_code) (maxL := 1) (ret := (some .int)) (by decide) rfl ?_
  intro p e s m args below meth c s₁ B hml hv
  obtain ⟨rfl, hsz, hZ, hP, hK, hD0⟩ := hv
  have hx := B.exec
  have hb := B.bytes
  have hr := B.returns
  have hts := atoms_spec (ws := wyD_codeOf) B.pre
  have htx := fun w h => hts w (List.mem_cons_of_mem _ h)
  have hown : s.vm.findClass "ValueBench$Reader" = some m.cls := findClass_of_methodNamed B.named
  have hlocks := B.notSynchronized
  subst hsz
  have hD := hD0.self (sz := s.heap.size)
  generalize hAe : va_A [] s.heap.size = A at hD hZ ⊢
  have hA : ∀ q : Nat, s.heap.size ≤ q → A q := fun q h => by rw [← hAe]; exact Or.inr h
  have hS : va_S A s.heap s.heap [] := va_S.rf
  have hP : va_P D xcl [] s.heap := hP
  have hl := lv_entry ([.int x0]) (n := 1) (Nat.le_of_ble_eq_true rfl)
  rw [lg_entry_eq]
  generalize (lg_sl ([.int x0]) ++ List.replicate (1 - (lg_sl ([.int x0])).length) Slot.unset).toArray = ls at hl ⊢
  have hl : lv_has ls 1 [(0, .int x0)] := hl
  unfold fD_codeOf at hf
  refine lv_iload_n hx hb dD_codeOf_0 rfl (lv_at hl 0 rfl) ?_
  by_cases hc1 : x0 = 34
  · rw [if_pos hc1] at hf
    refine lv_lookup (off := 75) (tgt := 76) hx hb dD_codeOf_1 (by decide) (by rw [hc1]; decide) (by decide) ?_
    refine lv_iload_n hx hb dD_codeOf_76 rfl (lv_at hl 0 rfl) ?_
    obtain rfl := Option.some.inj hf
    obtain ⟨hP9, hD9⟩ := xsub (wc := []) hP hD [] rfl rfl (by decide)
    exact W.iret (v := x0) hx hb hr (fun t ht hW => ⟨⟨x0, (), rfl, rfl, by rw [ht]; exact hP9, va_K.moved hW.alike hK, hD9⟩, hS.F ht⟩) hS.2.2 dD_codeOf_77
  rw [if_neg hc1] at hf
  by_cases hc2 : x0 = 47
  · rw [if_pos hc2] at hf
    refine lv_lookup (off := 75) (tgt := 76) hx hb dD_codeOf_1 (by decide) (by rw [hc2]; decide) (by decide) ?_
    refine lv_iload_n hx hb dD_codeOf_76 rfl (lv_at hl 0 rfl) ?_
    obtain rfl := Option.some.inj hf
    obtain ⟨hP9, hD9⟩ := xsub (wc := []) hP hD [] rfl rfl (by decide)
    exact W.iret (v := x0) hx hb hr (fun t ht hW => ⟨⟨x0, (), rfl, rfl, by rw [ht]; exact hP9, va_K.moved hW.alike hK, hD9⟩, hS.F ht⟩) hS.2.2 dD_codeOf_77
  rw [if_neg hc2] at hf
  by_cases hc3 : x0 = 92
  · rw [if_pos hc3] at hf
    refine lv_lookup (off := 75) (tgt := 76) hx hb dD_codeOf_1 (by decide) (by rw [hc3]; decide) (by decide) ?_
    refine lv_iload_n hx hb dD_codeOf_76 rfl (lv_at hl 0 rfl) ?_
    obtain rfl := Option.some.inj hf
    obtain ⟨hP9, hD9⟩ := xsub (wc := []) hP hD [] rfl rfl (by decide)
    exact W.iret (v := x0) hx hb hr (fun t ht hW => ⟨⟨x0, (), rfl, rfl, by rw [ht]; exact hP9, va_K.moved hW.alike hK, hD9⟩, hS.F ht⟩) hS.2.2 dD_codeOf_77
  rw [if_neg hc3] at hf
  by_cases hc4 : x0 = 98
  · rw [if_pos hc4] at hf
    refine lv_lookup (off := 77) (tgt := 78) hx hb dD_codeOf_1 (by decide) (by rw [hc4]; decide) (by decide) ?_
    refine lv_bipush (v := 8) hx hb dD_codeOf_78 (by decide) ?_
    obtain rfl := Option.some.inj hf
    obtain ⟨hP9, hD9⟩ := xsub (wc := []) hP hD [] rfl rfl (by decide)
    exact W.iret (v := (8 : Int32)) hx hb hr (fun t ht hW => ⟨⟨(8 : Int32), (), rfl, rfl, by rw [ht]; exact hP9, va_K.moved hW.alike hK, hD9⟩, hS.F ht⟩) hS.2.2 dD_codeOf_80
  rw [if_neg hc4] at hf
  by_cases hc5 : x0 = 102
  · rw [if_pos hc5] at hf
    refine lv_lookup (off := 80) (tgt := 81) hx hb dD_codeOf_1 (by decide) (by rw [hc5]; decide) (by decide) ?_
    refine lv_bipush (v := 12) hx hb dD_codeOf_81 (by decide) ?_
    obtain rfl := Option.some.inj hf
    obtain ⟨hP9, hD9⟩ := xsub (wc := []) hP hD [] rfl rfl (by decide)
    exact W.iret (v := (12 : Int32)) hx hb hr (fun t ht hW => ⟨⟨(12 : Int32), (), rfl, rfl, by rw [ht]; exact hP9, va_K.moved hW.alike hK, hD9⟩, hS.F ht⟩) hS.2.2 dD_codeOf_83
  rw [if_neg hc5] at hf
  by_cases hc6 : x0 = 110
  · rw [if_pos hc6] at hf
    refine lv_lookup (off := 83) (tgt := 84) hx hb dD_codeOf_1 (by decide) (by rw [hc6]; decide) (by decide) ?_
    refine lv_bipush (v := 10) hx hb dD_codeOf_84 (by decide) ?_
    obtain rfl := Option.some.inj hf
    obtain ⟨hP9, hD9⟩ := xsub (wc := []) hP hD [] rfl rfl (by decide)
    exact W.iret (v := (10 : Int32)) hx hb hr (fun t ht hW => ⟨⟨(10 : Int32), (), rfl, rfl, by rw [ht]; exact hP9, va_K.moved hW.alike hK, hD9⟩, hS.F ht⟩) hS.2.2 dD_codeOf_86
  rw [if_neg hc6] at hf
  by_cases hc7 : x0 = 114
  · rw [if_pos hc7] at hf
    refine lv_lookup (off := 86) (tgt := 87) hx hb dD_codeOf_1 (by decide) (by rw [hc7]; decide) (by decide) ?_
    refine lv_bipush (v := 13) hx hb dD_codeOf_87 (by decide) ?_
    obtain rfl := Option.some.inj hf
    obtain ⟨hP9, hD9⟩ := xsub (wc := []) hP hD [] rfl rfl (by decide)
    exact W.iret (v := (13 : Int32)) hx hb hr (fun t ht hW => ⟨⟨(13 : Int32), (), rfl, rfl, by rw [ht]; exact hP9, va_K.moved hW.alike hK, hD9⟩, hS.F ht⟩) hS.2.2 dD_codeOf_89
  rw [if_neg hc7] at hf
  by_cases hc8 : x0 = 116
  · rw [if_pos hc8] at hf
    refine lv_lookup (off := 89) (tgt := 90) hx hb dD_codeOf_1 (by decide) (by rw [hc8]; decide) (by decide) ?_
    refine lv_bipush (v := 9) hx hb dD_codeOf_90 (by decide) ?_
    obtain rfl := Option.some.inj hf
    obtain ⟨hP9, hD9⟩ := xsub (wc := []) hP hD [] rfl rfl (by decide)
    exact W.iret (v := (9 : Int32)) hx hb hr (fun t ht hW => ⟨⟨(9 : Int32), (), rfl, rfl, by rw [ht]; exact hP9, va_K.moved hW.alike hK, hD9⟩, hS.F ht⟩) hS.2.2 dD_codeOf_92
  rw [if_neg hc8] at hf
  refine lv_lookup (off := 92) (tgt := 93) hx hb dD_codeOf_1 (by decide) (by have e0 : x0.toInt ≠ 34 := xsw hc1 (by decide); have e1 : x0.toInt ≠ 47 := xsw hc2 (by decide); have e2 : x0.toInt ≠ 92 := xsw hc3 (by decide); have e3 : x0.toInt ≠ 98 := xsw hc4 (by decide); have e4 : x0.toInt ≠ 102 := xsw hc5 (by decide); have e5 : x0.toInt ≠ 110 := xsw hc6 (by decide); have e6 : x0.toInt ≠ 114 := xsw hc7 (by decide); have e7 : x0.toInt ≠ 116 := xsw hc8 (by decide); simp [Op.lookupswitch.offset, e0, Ne.symm e0, e1, Ne.symm e1, e2, Ne.symm e2, e3, Ne.symm e3, e4, Ne.symm e4, e5, Ne.symm e5, e6, Ne.symm e6, e7, Ne.symm e7]) (by decide) ?_
  refine lv_iconst (v := (-1)) hx hb dD_codeOf_93 (by decide) ?_
  obtain rfl := Option.some.inj hf
  obtain ⟨hP9, hD9⟩ := xsub (wc := []) hP hD [] rfl rfl (by decide)
  exact W.iret (v := ((-1) : Int32)) hx hb hr (fun t ht hW => ⟨⟨((-1) : Int32), (), rfl, rfl, by rw [ht]; exact hP9, va_K.moved hW.alike hK, hD9⟩, hS.F ht⟩) hS.2.2 dD_codeOf_94
set_option maxHeartbeats 400000000 in
set_option maxRecDepth 100000 in
theorem gD_letter (l : Launch) (hl9 : l.stackTraces = false) (D : va_G) (cT : Nat → ClassId) (aK aV : Nat → Nat) (sz n : Nat) (a0 : Nat) (a1 : Nat) (a2 : Nat) (a3 : Nat) (a4 : Nat) (f0 : Nat → Int32) (v1 : Int32) (v2 : Int32) (f3 : Nat → Int64) (v4 : Int32) (v5 : Int32) (v6 : Int32) (v7 : Int32) (out : Int32 × Int32 × Int32) (hf : fD_letter n f0 v1 v2 f3 v4 v5 v6 v7 = some out) : xMet l yD_letter wyD_letter 1 0 0 21 D cT aK aV sz [.ref a0] [(a0, .inr (4, [.ref a1, .ref a3, .int v6, .int v7])), (a1, .inr (1, [.ref a2, .int v1, .int v2])), (a2, .inl (cT 0, 4096, .inl f0)), (a3, .inr (2, [.ref a4, .int v4, .int v5])), (a4, .inl (cT 2, 4096, .inr (.inl f3)))] (fun A => va_Qi (fun (r : Int32) (_ : Unit) => r = out.1) (fun _ t => xB D xcl cT A [(a0, .inr (4, [.ref a1, .ref a3, .int out.2.1, .int out.2.2])), (a1, .inr (1, [.ref a2, .int v1, .int v2])), (a2, .inl (cT 0, 4096, .inl f0)), (a3, .inr (2, [.ref a4, .int v4, .int v5])), (a4, .inl (cT 2, 4096, .inr (.inl f3)))] t) A) := by
  refine Met.ofW (cc := prog_7_method_17_code) (maxL := 2) (ret := (some .int)) (by decide) rfl ?_
  intro p e s m args below meth c s₁ B hml hv
  obtain ⟨rfl, hsz, hZ, hP, hK, hD0⟩ := hv
  have hx := B.exec
  have hb := B.bytes
  have hr := B.returns
  have hts := atoms_spec (ws := wyD_letter) B.pre
  have htx := fun w h => hts w (List.mem_cons_of_mem _ h)
  have hown : s.vm.findClass "ValueBench$Reader" = some m.cls := findClass_of_methodNamed B.named
  have hlocks := B.notSynchronized
  subst hsz
  have hD := hD0.self (sz := s.heap.size)
  generalize hAe : va_A [(a0, .inr (4, [.ref a1, .ref a3, .int v6, .int v7])), (a1, .inr (1, [.ref a2, .int v1, .int v2])), (a2, .inl (cT 0, 4096, .inl f0)), (a3, .inr (2, [.ref a4, .int v4, .int v5])), (a4, .inl (cT 2, 4096, .inr (.inl f3)))] s.heap.size = A at hD hZ ⊢
  have hA : ∀ q : Nat, s.heap.size ≤ q → A q := fun q h => by rw [← hAe]; exact Or.inr h
  have hS : va_S A s.heap s.heap [] := va_S.rf
  have hP : va_P D xcl [(a0, .inr (4, [.ref a1, .ref a3, .int v6, .int v7])), (a1, .inr (1, [.ref a2, .int v1, .int v2])), (a2, .inl (cT 0, 4096, .inl f0)), (a3, .inr (2, [.ref a4, .int v4, .int v5])), (a4, .inl (cT 2, 4096, .inr (.inl f3)))] s.heap := hP
  have hl := lv_entry ([.ref a0]) (n := 2) (Nat.le_of_ble_eq_true rfl)
  rw [lg_entry_eq]
  generalize (lg_sl ([.ref a0]) ++ List.replicate (2 - (lg_sl ([.ref a0])).length) Slot.unset).toArray = ls at hl ⊢
  have hl : lv_has ls 2 [(0, .ref a0)] := hl
  unfold fD_letter at hf
  refine lv_aload_n hx hb dD_letter_0 rfl (lv_at hl 0 rfl) ?_
  refine lv_dup hx hb dD_letter_1 rfl ?_
  refine va_get (D := D) (ci := 4) (v := .int v6) (C := "ValueBench$Reader") (T := TD) (N := 4) hx hb htx inD hown hK hP 0 rfl rfl 2 (by decide) (htx _ kw_2_31) (fun _ h9 => h9) rfl dD_letter_2 ?_
  refine lv_iconst (v := 1) hx hb dD_letter_5 (by decide) ?_
  refine lv_iadd hx hb dD_letter_6 ?_
  refine va_put (D := D) (ci := 4) (v := .int (v6 + (1 : Int32))) (ty := .int) (C := "ValueBench$Reader") (T := TD) (N := 4) hx hb htx inD tyD tyD_ok nmD hown hK hP hD hS 0 rfl rfl 2 (by decide) (htx _ kw_2_31) (fun _ h9 => h9) rfl (by decide +kernel) rfl rfl (Nat.le_of_ble_eq_true rfl) dD_letter_7 (fun H locs hP hD hS => ?_)
  obtain ⟨hP, hD⟩ : xPD D xcl A [(a0, .inr (4, [.ref a1, .ref a3, .int (v6 + (1 : Int32)), .int v7])), (a1, .inr (1, [.ref a2, .int v1, .int v2])), (a2, .inl (cT 0, 4096, .inl f0)), (a3, .inr (2, [.ref a4, .int v4, .int v5])), (a4, .inl (cT 2, 4096, .inr (.inl f3)))] H := ⟨hP, hD⟩
  refine lv_aload_n hx hb dD_letter_10 rfl (lv_at hl 0 rfl) ?_
  refine va_get (D := D) (ci := 4) (v := .ref a1) (C := "ValueBench$Reader") (T := TD) (N := 4) hx hb htx inD hown hK hP 0 rfl rfl 0 (by decide) (htx _ kw_2_29) (fun _ h9 => h9) rfl dD_letter_11 ?_
  refine lv_aload_n hx hb dD_letter_14 rfl (lv_at hl 0 rfl) ?_
  refine va_get (D := D) (ci := 4) (v := .int (v6 + (1 : Int32))) (C := "ValueBench$Reader") (T := TD) (N := 4) hx hb htx inD hown hK hP 0 rfl rfl 2 (by decide) (htx _ kw_2_31) (fun _ h9 => h9) rfl dD_letter_15 ?_
  obtain ⟨o1, hq2, hf⟩ := xbind hf
  obtain ⟨hPc, hDc, hFc⟩ := xcut (wc := [(a1, .inr (1, [.ref a2, .int v1, .int v2])), (a2, .inl (cT 0, 4096, .inl f0))]) hP hD hS hA [1, 2] rfl rfl (by decide)
  refine va_calli (va_runV (C := "ValueBench$Text") (As := [.int (v6 + (1 : Int32))]) (rest := []) ⟨hx, hb, hml, hown, htx⟩ (gT_at l hl9 D cT aK aV H.size n a1 a2 (v6 + (1 : Int32)) f0 v1 v2 o1 hq2) ⟨callB_of 1 htx (xw_goodC kw_2_58) rfl rfl rfl (htx _ kw_1_2) (htx _ kw_2_55) ⟨by decide, by decide, by decide +kernel⟩ ⟨Nat.le_of_ble_eq_true rfl, Nat.le_of_ble_eq_true rfl⟩, (htx _ kw_2_56), (htx _ kw_2_57)⟩ ⟨xPre_blind, va_recv hK hP (ci := 1) rfl (q0 := 1) rfl, (fun U hU hW => ⟨rfl, xPre_of hZ hS hFc hPc hDc hK U hU hW⟩)⟩ rfl rfl hl.1 rfl (lv_room (Nat.le_of_ble_eq_true rfl)) dD_letter_18 ⟨Nat.le_of_ble_eq_true rfl, Nat.le_of_ble_eq_true rfl⟩) hS (fun q _ h => hFc q h) hFc (fun r3 u9 t H1 locs ht hvm hr9 hB hz1 hk1 hS => ?_)
  obtain ⟨hP1, hK1, hD1⟩ := hB
  rw [ht] at hP1
  obtain ⟨hP, hD⟩ := xjoin (W := [(a0, .inr (4, [.ref a1, .ref a3, .int (v6 + (1 : Int32)), .int v7])), (a3, .inr (2, [.ref a4, .int v4, .int v5])), (a4, .inl (cT 2, 4096, .inr (.inl f3))), (a1, .inr (1, [.ref a2, .int v1, .int v2])), (a2, .inl (cT 0, 4096, .inl f0))]) hP hD [1, 2] [0, 3, 4] 3 rfl rfl (by decide) (by decide) hk1 hFc hP1 hD1
  generalize H1 = H at hP hS ⊢
  rw [hr9]
  refine W.eq (g2 := F0 m 21 ls [.int o1]) rfl ?_
  obtain ⟨o4, hq5, hf⟩ := xbind hf
  obtain ⟨hPc, hDc, hFc⟩ := xcut (wc := []) hP hD hS hA [] rfl rfl (by decide)
  refine va_calli (va_runS (As := [.int o1]) (rest := []) ⟨hx, hb, hml, hown, htx⟩ (gD_codeOf l hl9 D cT aK aV H.size n o1 o4 hq5) ⟨callB_of 1 htx (xw_goodC kw_2_159) rfl rfl rfl (htx _ kw_1_16) (htx _ kw_2_157) ⟨by decide, by decide, by decide +kernel⟩ ⟨Nat.le_of_ble_eq_true rfl, Nat.le_of_ble_eq_true rfl⟩, htx _ kw_2_158⟩ ⟨xPre_blind, (fun U hU hW => ⟨rfl, xPre_of hZ hS hFc hPc hDc hK U hU hW⟩)⟩ rfl rfl hl.1 rfl (lv_room (Nat.le_of_ble_eq_true rfl)) dD_letter_21 ⟨Nat.le_of_ble_eq_true rfl, Nat.le_of_ble_eq_true rfl⟩) hS (fun q _ h => hFc q h) hFc (fun r6 u9 t H1 locs ht hvm hr9 hB hz1 hk1 hS => ?_)
  obtain ⟨hP1, hK1, hD1⟩ := hB
  rw [ht] at hP1
  obtain ⟨hP, hD⟩ := xjoin (W := [(a0, .inr (4, [.ref a1, .ref a3, .int (v6 + (1 : Int32)), .int v7])), (a3, .inr (2, [.ref a4, .int v4, .int v5])), (a4, .inl (cT 2, 4096, .inr (.inl f3))), (a1, .inr (1, [.ref a2, .int v1, .int v2])), (a2, .inl (cT 0, 4096, .inl f0))]) hP hD [] [0, 1, 2, 3, 4] 5 rfl rfl (by decide) (by decide) hk1 hFc hP1 hD1
  generalize H1 = H at hP hS ⊢
  rw [hr9]
  refine W.eq (g2 := F0 m 24 ls [.int o4]) rfl ?_
  refine lv_istore_n (lv' := [(1, .int o4), (0, .ref a0)]) hx hb dD_letter_24 rfl hl (by decide) rfl (fun ls hl => ?_)
  refine lv_iload_n hx hb dD_letter_25 rfl (lv_at hl 0 rfl) ?_
  refine lv_iconst (v := (-1)) hx hb dD_letter_26 (by decide) ?_
  refine lv_icmp_ne (tgt := 41) hx hb dD_letter_27 (by decide) (fun hc => ?_) (fun hc => ?_)
  · rw [if_neg hc] at hf
    refine lv_iload_n hx hb dD_letter_41 rfl (lv_at hl 0 rfl) ?_
    obtain rfl := Option.some.inj hf
    obtain ⟨hP9, hD9⟩ := xsub (wc := [(a0, .inr (4, [.ref a1, .ref a3, .int (v6 + (1 : Int32)), .int v7])), (a1, .inr (1, [.ref a2, .int v1, .int v2])), (a2, .inl (cT 0, 4096, .inl f0)), (a3, .inr (2, [.ref a4, .int v4, .int v5])), (a4, .inl (cT 2, 4096, .inr (.inl f3)))]) hP hD [0, 3, 4, 1, 2] rfl rfl (by decide)
    exact W.iret (v := o4) hx hb hr (fun t ht hW => ⟨⟨o4, (), rfl, rfl, by rw [ht]; exact hP9, va_K.moved hW.alike hK, hD9⟩, hS.F ht⟩) hS.2.2 dD_letter_42
  · rw [if_pos hc] at hf
    refine lv_aload_n hx hb dD_letter_30 rfl (lv_at hl 1 rfl) ?_
    refine lv_aload_n hx hb dD_letter_31 rfl (lv_at hl 1 rfl) ?_
    refine va_get (D := D) (ci := 4) (v := .int (v6 + (1 : Int32))) (C := "ValueBench$Reader") (T := TD) (N := 4) hx hb htx inD hown hK hP 0 rfl rfl 2 (by decide) (htx _ kw_2_31) (fun _ h9 => h9) rfl dD_letter_32 ?_
    obtain ⟨o7, hq8, hf⟩ := xbind hf
    obtain ⟨hPc, hDc, hFc⟩ := xcut (wc := [(a0, .inr (4, [.ref a1, .ref a3, .int (v6 + (1 : Int32)), .int v7])), (a1, .inr (1, [.ref a2, .int v1, .int v2])), (a2, .inl (cT 0, 4096, .inl f0)), (a3, .inr (2, [.ref a4, .int v4, .int v5])), (a4, .inl (cT 2, 4096, .inr (.inl f3)))]) hP hD hS hA [0, 3, 4, 1, 2] rfl rfl (by decide)
    refine va_calli (va_runV (C := "ValueBench$Reader") (As := [.int (v6 + (1 : Int32))]) (rest := []) ⟨hx, hb, hml, hown, htx⟩ (gD_brokenCode l hl9 D cT aK aV H.size n a0 a1 a2 a3 a4 (v6 + (1 : Int32)) f0 v1 v2 f3 v4 v5 (v6 + (1 : Int32)) v7 o7 hq8) ⟨callB_of 1 htx (xw_goodC kw_2_145) rfl rfl rfl (htx _ kw_1_16) (htx _ kw_2_142) ⟨by decide, by decide, by decide +kernel⟩ ⟨Nat.le_of_ble_eq_true rfl, Nat.le_of_ble_eq_true rfl⟩, (htx _ kw_2_144), (htx _ kp_D_brokenCode)⟩ ⟨xPre_blind, va_recv hK hP (ci := 4) rfl (q0 := 0) rfl, (fun U hU hW => ⟨rfl, xPre_of hZ hS hFc hPc hDc hK U hU hW⟩)⟩ rfl rfl hl.1 rfl (lv_room (Nat.le_of_ble_eq_true rfl)) dD_letter_35 ⟨Nat.le_of_ble_eq_true rfl, Nat.le_of_ble_eq_true rfl⟩) hS (fun q _ h => hFc q h) hFc (fun r9 u9 t H1 locs ht hvm hr9 hB hz1 hk1 hS => ?_)
    obtain ⟨hP1, hK1, hD1⟩ := hB
    rw [ht] at hP1
    obtain ⟨hP, hD⟩ := xjoin (W := [(a0, .inr (4, [.ref a1, .ref a3, .int (v6 + (1 : Int32)), .int o7.2])), (a1, .inr (1, [.ref a2, .int v1, .int v2])), (a2, .inl (cT 0, 4096, .inl f0)), (a3, .inr (2, [.ref a4, .int v4, .int v5])), (a4, .inl (cT 2, 4096, .inr (.inl f3)))]) hP hD [0, 3, 4, 1, 2] [] 0 rfl rfl (by decide) (by decide) hk1 hFc hP1 hD1
    generalize H1 = H at hP hS ⊢
    rw [hr9]
    refine W.eq (g2 := F0 m 38 ls [.int o7.1]) rfl ?_
    refine lv_goto (tgt := 42) hx hb dD_letter_38 (by decide) ?_
    obtain rfl := Option.some.inj hf
    obtain ⟨hP9, hD9⟩ := xsub (wc := [(a0, .inr (4, [.ref a1, .ref a3, .int (v6 + (1 : Int32)), .int o7.2])), (a1, .inr (1, [.ref a2, .int v1, .int v2])), (a2, .inl (cT 0, 4096, .inl f0)), (a3, .inr (2, [.ref a4, .int v4, .int v5])), (a4, .inl (cT 2, 4096, .inr (.inl f3)))]) hP hD [0, 1, 2, 3, 4] rfl rfl (by decide)
    exact W.iret (v := o7.1) hx hb hr (fun t ht hW => ⟨⟨o7.1, (), rfl, rfl, by rw [ht]; exact hP9, va_K.moved hW.alike hK, hD9⟩, hS.F ht⟩) hS.2.2 dD_letter_42
set_option maxHeartbeats 400000000 in
set_option maxRecDepth 100000 in
theorem gD_digitOf (l : Launch) (hl9 : l.stackTraces = false) (D : va_G) (cT : Nat → ClassId) (aK aV : Nat → Nat) (sz n : Nat) (x0 : Int32) (out : Int32) (hf : fD_digitOf n x0 = some out) : xMet l yD_digitOf wyD_digitOf 0 0 0 0 D cT aK aV sz [.int x0] [] (fun A => va_Qi (fun (r : Int32) (_ : Unit) => r = out) (fun _ t => xB D xcl cT A [] t) A) := by
  refine Met.ofW (cc := prog_7_method_19_code) (maxL := 1) (ret := (some .int)) (by decide) rfl ?_
  intro p e s m args below meth c s₁ B hml hv
  obtain ⟨rfl, hsz, hZ, hP, hK, hD0⟩ := hv
  have hx := B.exec
  have hb := B.bytes
  have hr := B.returns
  have hts := atoms_spec (ws := wyD_digitOf) B.pre
  have htx := fun w h => hts w (List.mem_cons_of_mem _ h)
  have hown : s.vm.findClass "ValueBench$Reader" = some m.cls := findClass_of_methodNamed B.named
  have hlocks := B.notSynchronized
  subst hsz
  have hD := hD0.self (sz := s.heap.size)
  generalize hAe : va_A [] s.heap.size = A at hD hZ ⊢
  have hA : ∀ q : Nat, s.heap.size ≤ q → A q := fun q h => by rw [← hAe]; exact Or.inr h
  have hS : va_S A s.heap s.heap [] := va_S.rf
  have hP : va_P D xcl [] s.heap := hP
  have hl := lv_entry ([.int x0]) (n := 1) (Nat.le_of_ble_eq_true rfl)
  rw [lg_entry_eq]
  generalize (lg_sl ([.int x0]) ++ List.replicate (1 - (lg_sl ([.int x0])).length) Slot.unset).toArray = ls at hl ⊢
  have hl : lv_has ls 1 [(0, .int x0)] := hl
  unfold fD_digitOf at hf
  refine lv_iload_n hx hb dD_digitOf_0 rfl (lv_at hl 0 rfl) ?_
  refine lv_bipush (v := 48) hx hb dD_digitOf_1 (by decide) ?_
  refine lv_icmp_lt (tgt := 17) hx hb dD_digitOf_3 (by decide) (fun hc => ?_) (fun hc => ?_)
  · rw [if_pos hc] at hf
    refine lv_iload_n hx hb dD_digitOf_17 rfl (lv_at hl 0 rfl) ?_
    refine lv_bipush (v := 97) hx hb dD_digitOf_18 (by decide) ?_
    refine lv_icmp_lt (tgt := 37) hx hb dD_digitOf_20 (by decide) (fun hc => ?_) (fun hc => ?_)
    · rw [if_pos hc] at hf
      refine lv_iload_n hx hb dD_digitOf_37 rfl (lv_at hl 0 rfl) ?_
      refine lv_bipush (v := 65) hx hb dD_digitOf_38 (by decide) ?_
      refine lv_icmp_lt (tgt := 59) hx hb dD_digitOf_40 (by decide) (fun hc => ?_) (fun hc => ?_)
      · rw [if_pos hc] at hf
        refine lv_iconst (v := (-1)) hx hb dD_digitOf_59 (by decide) ?_
        obtain rfl := Option.some.inj hf
        obtain ⟨hP9, hD9⟩ := xsub (wc := []) hP hD [] rfl rfl (by decide)
        exact W.iret (v := ((-1) : Int32)) hx hb hr (fun t ht hW => ⟨⟨((-1) : Int32), (), rfl, rfl, by rw [ht]; exact hP9, va_K.moved hW.alike hK, hD9⟩, hS.F ht⟩) hS.2.2 dD_digitOf_60
      · rw [if_neg hc] at hf
        refine lv_iload_n hx hb dD_digitOf_43 rfl (lv_at hl 0 rfl) ?_
        refine lv_bipush (v := 70) hx hb dD_digitOf_44 (by decide) ?_
        refine lv_icmp_gt (tgt := 59) hx hb dD_digitOf_46 (by decide) (fun hc => ?_) (fun hc => ?_)
        · rw [if_pos hc] at hf
          refine lv_iconst (v := (-1)) hx hb dD_digitOf_59 (by decide) ?_
          obtain rfl := Option.some.inj hf
          obtain ⟨hP9, hD9⟩ := xsub (wc := []) hP hD [] rfl rfl (by decide)
          exact W.iret (v := ((-1) : Int32)) hx hb hr (fun t ht hW => ⟨⟨((-1) : Int32), (), rfl, rfl, by rw [ht]; exact hP9, va_K.moved hW.alike hK, hD9⟩, hS.F ht⟩) hS.2.2 dD_digitOf_60
        · rw [if_neg hc] at hf
          refine lv_iload_n hx hb dD_digitOf_49 rfl (lv_at hl 0 rfl) ?_
          refine lv_bipush (v := 65) hx hb dD_digitOf_50 (by decide) ?_
          refine lv_isub hx hb dD_digitOf_52 ?_
          refine lv_bipush (v := 10) hx hb dD_digitOf_53 (by decide) ?_
          refine lv_iadd hx hb dD_digitOf_55 ?_
          refine lv_goto (tgt := 60) hx hb dD_digitOf_56 (by decide) ?_
          obtain rfl := Option.some.inj hf
          obtain ⟨hP9, hD9⟩ := xsub (wc := []) hP hD [] rfl rfl (by decide)
          exact W.iret (v := ((x0 - (65 : Int32)) + (10 : Int32))) hx hb hr (fun t ht hW => ⟨⟨((x0 - (65 : Int32)) + (10 : Int32)), (), rfl, rfl, by rw [ht]; exact hP9, va_K.moved hW.alike hK, hD9⟩, hS.F ht⟩) hS.2.2 dD_digitOf_60
    · rw [if_neg hc] at hf
      refine lv_iload_n hx hb dD_digitOf_23 rfl (lv_at hl 0 rfl) ?_
      refine lv_bipush (v := 102) hx hb dD_digitOf_24 (by decide) ?_
      refine lv_icmp_gt (tgt := 37) hx hb dD_digitOf_26 (by decide) (fun hc => ?_) (fun hc => ?_)
      · rw [if_pos hc] at hf
        refine lv_iload_n hx hb dD_digitOf_37 rfl (lv_at hl 0 rfl) ?_
        refine lv_bipush (v := 65) hx hb dD_digitOf_38 (by decide) ?_
        refine lv_icmp_lt (tgt := 59) hx hb dD_digitOf_40 (by decide) (fun hc => ?_) (fun hc => ?_)
        · rw [if_pos hc] at hf
          refine lv_iconst (v := (-1)) hx hb dD_digitOf_59 (by decide) ?_
          obtain rfl := Option.some.inj hf
          obtain ⟨hP9, hD9⟩ := xsub (wc := []) hP hD [] rfl rfl (by decide)
          exact W.iret (v := ((-1) : Int32)) hx hb hr (fun t ht hW => ⟨⟨((-1) : Int32), (), rfl, rfl, by rw [ht]; exact hP9, va_K.moved hW.alike hK, hD9⟩, hS.F ht⟩) hS.2.2 dD_digitOf_60
        · rw [if_neg hc] at hf
          refine lv_iload_n hx hb dD_digitOf_43 rfl (lv_at hl 0 rfl) ?_
          refine lv_bipush (v := 70) hx hb dD_digitOf_44 (by decide) ?_
          refine lv_icmp_gt (tgt := 59) hx hb dD_digitOf_46 (by decide) (fun hc => ?_) (fun hc => ?_)
          · rw [if_pos hc] at hf
            refine lv_iconst (v := (-1)) hx hb dD_digitOf_59 (by decide) ?_
            obtain rfl := Option.some.inj hf
            obtain ⟨hP9, hD9⟩ := xsub (wc := []) hP hD [] rfl rfl (by decide)
            exact W.iret (v := ((-1) : Int32)) hx hb hr (fun t ht hW => ⟨⟨((-1) : Int32), (), rfl, rfl, by rw [ht]; exact hP9, va_K.moved hW.alike hK, hD9⟩, hS.F ht⟩) hS.2.2 dD_digitOf_60
          · rw [if_neg hc] at hf
            refine lv_iload_n hx hb dD_digitOf_49 rfl (lv_at hl 0 rfl) ?_
            refine lv_bipush (v := 65) hx hb dD_digitOf_50 (by decide) ?_
            refine lv_isub hx hb dD_digitOf_52 ?_
            refine lv_bipush (v := 10) hx hb dD_digitOf_53 (by decide) ?_
            refine lv_iadd hx hb dD_digitOf_55 ?_
            refine lv_goto (tgt := 60) hx hb dD_digitOf_56 (by decide) ?_
            obtain rfl := Option.some.inj hf
            obtain ⟨hP9, hD9⟩ := xsub (wc := []) hP hD [] rfl rfl (by decide)
            exact W.iret (v := ((x0 - (65 : Int32)) + (10 : Int32))) hx hb hr (fun t ht hW => ⟨⟨((x0 - (65 : Int32)) + (10 : Int32)), (), rfl, rfl, by rw [ht]; exact hP9, va_K.moved hW.alike hK, hD9⟩, hS.F ht⟩) hS.2.2 dD_digitOf_60
      · rw [if_neg hc] at hf
        refine lv_iload_n hx hb dD_digitOf_29 rfl (lv_at hl 0 rfl) ?_
        refine lv_bipush (v := 97) hx hb dD_digitOf_30 (by decide) ?_
        refine lv_isub hx hb dD_digitOf_32 ?_
        refine lv_bipush (v := 10) hx hb dD_digitOf_33 (by decide) ?_
        refine lv_iadd hx hb dD_digitOf_35 ?_
        obtain rfl := Option.some.inj hf
        obtain ⟨hP9, hD9⟩ := xsub (wc := []) hP hD [] rfl rfl (by decide)
        exact W.iret (v := ((x0 - (97 : Int32)) + (10 : Int32))) hx hb hr (fun t ht hW => ⟨⟨((x0 - (97 : Int32)) + (10 : Int32)), (), rfl, rfl, by rw [ht]; exact hP9, va_K.moved hW.alike hK, hD9⟩, hS.F ht⟩) hS.2.2 dD_digitOf_36
  · rw [if_neg hc] at hf
    refine lv_iload_n hx hb dD_digitOf_6 rfl (lv_at hl 0 rfl) ?_
    refine lv_bipush (v := 57) hx hb dD_digitOf_7 (by decide) ?_
    refine lv_icmp_gt (tgt := 17) hx hb dD_digitOf_9 (by decide) (fun hc => ?_) (fun hc => ?_)
    · rw [if_pos hc] at hf
      refine lv_iload_n hx hb dD_digitOf_17 rfl (lv_at hl 0 rfl) ?_
      refine lv_bipush (v := 97) hx hb dD_digitOf_18 (by decide) ?_
      refine lv_icmp_lt (tgt := 37) hx hb dD_digitOf_20 (by decide) (fun hc => ?_) (fun hc => ?_)
      · rw [if_pos hc] at hf
        refine lv_iload_n hx hb dD_digitOf_37 rfl (lv_at hl 0 rfl) ?_
        refine lv_bipush (v := 65) hx hb dD_digitOf_38 (by decide) ?_
        refine lv_icmp_lt (tgt := 59) hx hb dD_digitOf_40 (by decide) (fun hc => ?_) (fun hc => ?_)
        · rw [if_pos hc] at hf
          refine lv_iconst (v := (-1)) hx hb dD_digitOf_59 (by decide) ?_
          obtain rfl := Option.some.inj hf
          obtain ⟨hP9, hD9⟩ := xsub (wc := []) hP hD [] rfl rfl (by decide)
          exact W.iret (v := ((-1) : Int32)) hx hb hr (fun t ht hW => ⟨⟨((-1) : Int32), (), rfl, rfl, by rw [ht]; exact hP9, va_K.moved hW.alike hK, hD9⟩, hS.F ht⟩) hS.2.2 dD_digitOf_60
        · rw [if_neg hc] at hf
          refine lv_iload_n hx hb dD_digitOf_43 rfl (lv_at hl 0 rfl) ?_
          refine lv_bipush (v := 70) hx hb dD_digitOf_44 (by decide) ?_
          refine lv_icmp_gt (tgt := 59) hx hb dD_digitOf_46 (by decide) (fun hc => ?_) (fun hc => ?_)
          · rw [if_pos hc] at hf
            refine lv_iconst (v := (-1)) hx hb dD_digitOf_59 (by decide) ?_
            obtain rfl := Option.some.inj hf
            obtain ⟨hP9, hD9⟩ := xsub (wc := []) hP hD [] rfl rfl (by decide)
            exact W.iret (v := ((-1) : Int32)) hx hb hr (fun t ht hW => ⟨⟨((-1) : Int32), (), rfl, rfl, by rw [ht]; exact hP9, va_K.moved hW.alike hK, hD9⟩, hS.F ht⟩) hS.2.2 dD_digitOf_60
          · rw [if_neg hc] at hf
            refine lv_iload_n hx hb dD_digitOf_49 rfl (lv_at hl 0 rfl) ?_
            refine lv_bipush (v := 65) hx hb dD_digitOf_50 (by decide) ?_
            refine lv_isub hx hb dD_digitOf_52 ?_
            refine lv_bipush (v := 10) hx hb dD_digitOf_53 (by decide) ?_
            refine lv_iadd hx hb dD_digitOf_55 ?_
            refine lv_goto (tgt := 60) hx hb dD_digitOf_56 (by decide) ?_
            obtain rfl := Option.some.inj hf
            obtain ⟨hP9, hD9⟩ := xsub (wc := []) hP hD [] rfl rfl (by decide)
            exact W.iret (v := ((x0 - (65 : Int32)) + (10 : Int32))) hx hb hr (fun t ht hW => ⟨⟨((x0 - (65 : Int32)) + (10 : Int32)), (), rfl, rfl, by rw [ht]; exact hP9, va_K.moved hW.alike hK, hD9⟩, hS.F ht⟩) hS.2.2 dD_digitOf_60
      · rw [if_neg hc] at hf
        refine lv_iload_n hx hb dD_digitOf_23 rfl (lv_at hl 0 rfl) ?_
        refine lv_bipush (v := 102) hx hb dD_digitOf_24 (by decide) ?_
        refine lv_icmp_gt (tgt := 37) hx hb dD_digitOf_26 (by decide) (fun hc => ?_) (fun hc => ?_)
        · rw [if_pos hc] at hf
          refine lv_iload_n hx hb dD_digitOf_37 rfl (lv_at hl 0 rfl) ?_
          refine lv_bipush (v := 65) hx hb dD_digitOf_38 (by decide) ?_
          refine lv_icmp_lt (tgt := 59) hx hb dD_digitOf_40 (by decide) (fun hc => ?_) (fun hc => ?_)
          · rw [if_pos hc] at hf
            refine lv_iconst (v := (-1)) hx hb dD_digitOf_59 (by decide) ?_
            obtain rfl := Option.some.inj hf
            obtain ⟨hP9, hD9⟩ := xsub (wc := []) hP hD [] rfl rfl (by decide)
            exact W.iret (v := ((-1) : Int32)) hx hb hr (fun t ht hW => ⟨⟨((-1) : Int32), (), rfl, rfl, by rw [ht]; exact hP9, va_K.moved hW.alike hK, hD9⟩, hS.F ht⟩) hS.2.2 dD_digitOf_60
          · rw [if_neg hc] at hf
            refine lv_iload_n hx hb dD_digitOf_43 rfl (lv_at hl 0 rfl) ?_
            refine lv_bipush (v := 70) hx hb dD_digitOf_44 (by decide) ?_
            refine lv_icmp_gt (tgt := 59) hx hb dD_digitOf_46 (by decide) (fun hc => ?_) (fun hc => ?_)
            · rw [if_pos hc] at hf
              refine lv_iconst (v := (-1)) hx hb dD_digitOf_59 (by decide) ?_
              obtain rfl := Option.some.inj hf
              obtain ⟨hP9, hD9⟩ := xsub (wc := []) hP hD [] rfl rfl (by decide)
              exact W.iret (v := ((-1) : Int32)) hx hb hr (fun t ht hW => ⟨⟨((-1) : Int32), (), rfl, rfl, by rw [ht]; exact hP9, va_K.moved hW.alike hK, hD9⟩, hS.F ht⟩) hS.2.2 dD_digitOf_60
            · rw [if_neg hc] at hf
              refine lv_iload_n hx hb dD_digitOf_49 rfl (lv_at hl 0 rfl) ?_
              refine lv_bipush (v := 65) hx hb dD_digitOf_50 (by decide) ?_
              refine lv_isub hx hb dD_digitOf_52 ?_
              refine lv_bipush (v := 10) hx hb dD_digitOf_53 (by decide) ?_
              refine lv_iadd hx hb dD_digitOf_55 ?_
              refine lv_goto (tgt := 60) hx hb dD_digitOf_56 (by decide) ?_
              obtain rfl := Option.some.inj hf
              obtain ⟨hP9, hD9⟩ := xsub (wc := []) hP hD [] rfl rfl (by decide)
              exact W.iret (v := ((x0 - (65 : Int32)) + (10 : Int32))) hx hb hr (fun t ht hW => ⟨⟨((x0 - (65 : Int32)) + (10 : Int32)), (), rfl, rfl, by rw [ht]; exact hP9, va_K.moved hW.alike hK, hD9⟩, hS.F ht⟩) hS.2.2 dD_digitOf_60
        · rw [if_neg hc] at hf
          refine lv_iload_n hx hb dD_digitOf_29 rfl (lv_at hl 0 rfl) ?_
          refine lv_bipush (v := 97) hx hb dD_digitOf_30 (by decide) ?_
          refine lv_isub hx hb dD_digitOf_32 ?_
          refine lv_bipush (v := 10) hx hb dD_digitOf_33 (by decide) ?_
          refine lv_iadd hx hb dD_digitOf_35 ?_
          obtain rfl := Option.some.inj hf
          obtain ⟨hP9, hD9⟩ := xsub (wc := []) hP hD [] rfl rfl (by decide)
          exact W.iret (v := ((x0 - (97 : Int32)) + (10 : Int32))) hx hb hr (fun t ht hW => ⟨⟨((x0 - (97 : Int32)) + (10 : Int32)), (), rfl, rfl, by rw [ht]; exact hP9, va_K.moved hW.alike hK, hD9⟩, hS.F ht⟩) hS.2.2 dD_digitOf_36
    · rw [if_neg hc] at hf
      refine lv_iload_n hx hb dD_digitOf_12 rfl (lv_at hl 0 rfl) ?_
      refine lv_bipush (v := 48) hx hb dD_digitOf_13 (by decide) ?_
      refine lv_isub hx hb dD_digitOf_15 ?_
      obtain rfl := Option.some.inj hf
      obtain ⟨hP9, hD9⟩ := xsub (wc := []) hP hD [] rfl rfl (by decide)
      exact W.iret (v := (x0 - (48 : Int32))) hx hb hr (fun t ht hW => ⟨⟨(x0 - (48 : Int32)), (), rfl, rfl, by rw [ht]; exact hP9, va_K.moved hW.alike hK, hD9⟩, hS.F ht⟩) hS.2.2 dD_digitOf_16
set_option maxHeartbeats 400000000 in
set_option maxRecDepth 100000 in
theorem gD_fourDigits (l : Launch) (hl9 : l.stackTraces = false) (D : va_G) (cT : Nat → ClassId) (aK aV : Nat → Nat) (sz n : Nat) (a0 : Nat) (a1 : Nat) (a2 : Nat) (a3 : Nat) (a4 : Nat) (f0 : Nat → Int32) (v1 : Int32) (v2 : Int32) (f3 : Nat → Int64) (v4 : Int32) (v5 : Int32) (v6 : Int32) (v7 : Int32) (out : Int32 × Int32 × Int32) (hf : fD_fourDigits n f0 v1 v2 f3 v4 v5 v6 v7 = some out) : xMet l yD_fourDigits wyD_fourDigits 1 0 0 21 D cT aK aV sz [.ref a0] [(a0, .inr (4, [.ref a1, .ref a3, .int v6, .int v7])), (a1, .inr (1, [.ref a2, .int v1, .int v2])), (a2, .inl (cT 0, 4096, .inl f0)), (a3, .inr (2, [.ref a4, .int v4, .int v5])), (a4, .inl (cT 2, 4096, .inr (.inl f3)))] (fun A => va_Qi (fun (r : Int32) (_ : Unit) => r = out.1) (fun _ t => xB D xcl cT A [(a0, .inr (4, [.ref a1, .ref a3, .int out.2.1, .int out.2.2])), (a1, .inr (1, [.ref a2, .int v1, .int v2])), (a2, .inl (cT 0, 4096, .inl f0)), (a3, .inr (2, [.ref a4, .int v4, .int v5])), (a4, .inl (cT 2, 4096, .inr (.inl f3)))] t) A) := by
  refine Met.ofW (cc := prog_7_method_18_code) (maxL := 5) (ret := (some .int)) (by decide) rfl ?_
  intro p e s m args below meth c s₁ B hml hv
  obtain ⟨rfl, hsz, hZ, hP, hK, hD0⟩ := hv
  have hx := B.exec
  have hb := B.bytes
  have hr := B.returns
  have hts := atoms_spec (ws := wyD_fourDigits) B.pre
  have htx := fun w h => hts w (List.mem_cons_of_mem _ h)
  have hown : s.vm.findClass "ValueBench$Reader" = some m.cls := findClass_of_methodNamed B.named
  have hlocks := B.notSynchronized
  subst hsz
  have hD := hD0.self (sz := s.heap.size)
  generalize hAe : va_A [(a0, .inr (4, [.ref a1, .ref a3, .int v6, .int v7])), (a1, .inr (1, [.ref a2, .int v1, .int v2])), (a2, .inl (cT 0, 4096, .inl f0)), (a3, .inr (2, [.ref a4, .int v4, .int v5])), (a4, .inl (cT 2, 4096, .inr (.inl f3)))] s.heap.size = A at hD hZ ⊢
  have hA : ∀ q : Nat, s.heap.size ≤ q → A q := fun q h => by rw [← hAe]; exact Or.inr h
  have hS : va_S A s.heap s.heap [] := va_S.rf
  have hP : va_P D xcl [(a0, .inr (4, [.ref a1, .ref a3, .int v6, .int v7])), (a1, .inr (1, [.ref a2, .int v1, .int v2])), (a2, .inl (cT 0, 4096, .inl f0)), (a3, .inr (2, [.ref a4, .int v4, .int v5])), (a4, .inl (cT 2, 4096, .inr (.inl f3)))] s.heap := hP
  have hl := lv_entry ([.ref a0]) (n := 5) (Nat.le_of_ble_eq_true rfl)
  rw [lg_entry_eq]
  generalize (lg_sl ([.ref a0]) ++ List.replicate (5 - (lg_sl ([.ref a0])).length) Slot.unset).toArray = ls at hl ⊢
  have hl : lv_has ls 5 [(0, .ref a0)] := hl
  unfold fD_fourDigits at hf
  refine xloopK (σ := Nat × Int32 × Int32 × Int32 × Int32 × Int32) (fun n x H locs ls => (x.1 = 1 ∧ fD_fourDigits_b f0 v1 v2 f3 v4 v5 n x.1 x.2.1 x.2.2.1 x.2.2.2.1 x.2.2.2.2.1 x.2.2.2.2.2 = some out ∧ va_P D xcl [(a0, .inr (4, [.ref a1, .ref a3, .int x.2.2.2.2.1, .int x.2.2.2.2.2])), (a1, .inr (1, [.ref a2, .int v1, .int v2])), (a2, .inl (cT 0, 4096, .inl f0)), (a3, .inr (2, [.ref a4, .int v4, .int v5])), (a4, .inl (cT 2, 4096, .inr (.inl f3)))] H ∧ va_D A [(a0, .inr (4, [.ref a1, .ref a3, .int x.2.2.2.2.1, .int x.2.2.2.2.2])), (a1, .inr (1, [.ref a2, .int v1, .int v2])), (a2, .inl (cT 0, 4096, .inl f0)), (a3, .inr (2, [.ref a4, .int v4, .int v5])), (a4, .inl (cT 2, 4096, .inr (.inl f3)))] ∧ va_S A s.heap H locs ∧ lv_has ls 5 [(3, .int x.2.1), (2, .int x.2.2.1), (1, .int x.2.2.2.1), (0, .ref a0)])) (fun x => 19) (fun x H locs ls h => by exact absurd h.2.1 (by rw [fD_fourDigits_b]; exact fun h => nomatch h)) (fun n ih x H locs ls hv => ?_) (fun key => ?_)
  · obtain ⟨lb, y3, y2, y1, w0, w1⟩ := x
    rcases hv with ⟨hj, hf, hP, hD, hS, hl⟩
    subst hj
    have hf : fD_fourDigits_b f0 v1 v2 f3 v4 v5 (n + 1) 1 y3 y2 y1 w0 w1 = some out := hf
    rw [fD_fourDigits_b] at hf
    obtain ⟨hP, hD⟩ : xPD D xcl A [(a0, .inr (4, [.ref a1, .ref a3, .int w0, .int w1])), (a1, .inr (1, [.ref a2, .int v1, .int v2])), (a2, .inl (cT 0, 4096, .inl f0)), (a3, .inr (2, [.ref a4, .int v4, .int v5])), (a4, .inl (cT 2, 4096, .inr (.inl f3)))] H := ⟨hP, hD⟩
    have hl : lv_has ls 5 [(3, .int y3), (2, .int y2), (1, .int y1), (0, .ref a0)] := hl
    refine W.eq (g2 := F0 m 19 ls []) rfl ?_
    refine lv_iload_n hx hb dD_fourDigits_19 rfl (lv_at hl 0 rfl) ?_
    refine lv_iconst (v := 4) hx hb dD_fourDigits_20 (by decide) ?_
    refine lv_icmp_ge (tgt := 79) hx hb dD_fourDigits_21 (by decide) (fun hc => ?_) (fun hc => ?_)
    · rw [if_pos hc] at hf
      refine lv_iload_n hx hb dD_fourDigits_79 rfl (lv_at hl 1 rfl) ?_
      refine lv_bipush (v := 127) hx hb dD_fourDigits_80 (by decide) ?_
      refine lv_icmp_le (tgt := 93) hx hb dD_fourDigits_82 (by decide) (fun hc => ?_) (fun hc => ?_)
      · rw [if_pos hc] at hf
        refine lv_iload_n hx hb dD_fourDigits_93 rfl (lv_at hl 1 rfl) ?_
        obtain rfl := Option.some.inj hf
        obtain ⟨hP9, hD9⟩ := xsub (wc := [(a0, .inr (4, [.ref a1, .ref a3, .int w0, .int w1])), (a1, .inr (1, [.ref a2, .int v1, .int v2])), (a2, .inl (cT 0, 4096, .inl f0)), (a3, .inr (2, [.ref a4, .int v4, .int v5])), (a4, .inl (cT 2, 4096, .inr (.inl f3)))]) hP hD [0, 1, 2, 3, 4] rfl rfl (by decide)
        exact W.iret (v := y2) hx hb hr (fun t ht hW => ⟨⟨y2, (), rfl, rfl, by rw [ht]; exact hP9, va_K.moved hW.alike hK, hD9⟩, hS.F ht⟩) hS.2.2 dD_fourDigits_94
      · rw [if_neg hc] at hf
        refine lv_aload_n hx hb dD_fourDigits_85 rfl (lv_at hl 3 rfl) ?_
        refine lv_iload_n hx hb dD_fourDigits_86 rfl (lv_at hl 2 rfl) ?_
        obtain ⟨o1, hq2, hf⟩ := xbind hf
        obtain ⟨hPc, hDc, hFc⟩ := xcut (wc := [(a0, .inr (4, [.ref a1, .ref a3, .int w0, .int w1])), (a1, .inr (1, [.ref a2, .int v1, .int v2])), (a2, .inl (cT 0, 4096, .inl f0)), (a3, .inr (2, [.ref a4, .int v4, .int v5])), (a4, .inl (cT 2, 4096, .inr (.inl f3)))]) hP hD hS hA [0, 1, 2, 3, 4] rfl rfl (by decide)
        refine va_calli (va_runV (C := "ValueBench$Reader") (As := [.int y1]) (rest := []) ⟨hx, hb, hml, hown, htx⟩ (gD_brokenCode l hl9 D cT aK aV H.size n a0 a1 a2 a3 a4 y1 f0 v1 v2 f3 v4 v5 w0 w1 o1 hq2) ⟨callB_of 1 htx (xw_goodC kw_2_145) rfl rfl rfl (htx _ kw_1_16) (htx _ kw_2_142) ⟨by decide, by decide, by decide +kernel⟩ ⟨Nat.le_of_ble_eq_true rfl, Nat.le_of_ble_eq_true rfl⟩, (htx _ kw_2_144), (htx _ kp_D_brokenCode)⟩ ⟨xPre_blind, va_recv hK hP (ci := 4) rfl (q0 := 0) rfl, (fun U hU hW => ⟨rfl, xPre_of hZ hS hFc hPc hDc hK U hU hW⟩)⟩ rfl rfl hl.1 rfl (lv_room (Nat.le_of_ble_eq_true rfl)) dD_fourDigits_87 ⟨Nat.le_of_ble_eq_true rfl, Nat.le_of_ble_eq_true rfl⟩) hS (fun q _ h => hFc q h) hFc (fun r3 u9 t H1 locs ht hvm hr9 hB hz1 hk1 hS => ?_)
        obtain ⟨hP1, hK1, hD1⟩ := hB
        rw [ht] at hP1
        obtain ⟨hP, hD⟩ := xjoin (W := [(a0, .inr (4, [.ref a1, .ref a3, .int w0, .int o1.2])), (a1, .inr (1, [.ref a2, .int v1, .int v2])), (a2, .inl (cT 0, 4096, .inl f0)), (a3, .inr (2, [.ref a4, .int v4, .int v5])), (a4, .inl (cT 2, 4096, .inr (.inl f3)))]) hP hD [0, 1, 2, 3, 4] [] 0 rfl rfl (by decide) (by decide) hk1 hFc hP1 hD1
        generalize H1 = H at hP hS ⊢
        rw [hr9]
        refine W.eq (g2 := F0 m 90 ls [.int o1.1]) rfl ?_
        refine lv_goto (tgt := 94) hx hb dD_fourDigits_90 (by decide) ?_
        obtain rfl := Option.some.inj hf
        obtain ⟨hP9, hD9⟩ := xsub (wc := [(a0, .inr (4, [.ref a1, .ref a3, .int w0, .int o1.2])), (a1, .inr (1, [.ref a2, .int v1, .int v2])), (a2, .inl (cT 0, 4096, .inl f0)), (a3, .inr (2, [.ref a4, .int v4, .int v5])), (a4, .inl (cT 2, 4096, .inr (.inl f3)))]) hP hD [0, 1, 2, 3, 4] rfl rfl (by decide)
        exact W.iret (v := o1.1) hx hb hr (fun t ht hW => ⟨⟨o1.1, (), rfl, rfl, by rw [ht]; exact hP9, va_K.moved hW.alike hK, hD9⟩, hS.F ht⟩) hS.2.2 dD_fourDigits_94
    · rw [if_neg hc] at hf
      refine lv_aload_n hx hb dD_fourDigits_24 rfl (lv_at hl 3 rfl) ?_
      refine lv_dup hx hb dD_fourDigits_25 rfl ?_
      refine va_get (D := D) (ci := 4) (v := .int w0) (C := "ValueBench$Reader") (T := TD) (N := 4) hx hb htx inD hown hK hP 0 rfl rfl 2 (by decide) (htx _ kw_2_31) (fun _ h9 => h9) rfl dD_fourDigits_26 ?_
      refine lv_iconst (v := 1) hx hb dD_fourDigits_29 (by decide) ?_
      refine lv_iadd hx hb dD_fourDigits_30 ?_
      refine va_put (D := D) (ci := 4) (v := .int (w0 + (1 : Int32))) (ty := .int) (C := "ValueBench$Reader") (T := TD) (N := 4) hx hb htx inD tyD tyD_ok nmD hown hK hP hD hS 0 rfl rfl 2 (by decide) (htx _ kw_2_31) (fun _ h9 => h9) rfl (by decide +kernel) rfl rfl (Nat.le_of_ble_eq_true rfl) dD_fourDigits_31 (fun H locs hP hD hS => ?_)
      obtain ⟨hP, hD⟩ : xPD D xcl A [(a0, .inr (4, [.ref a1, .ref a3, .int (w0 + (1 : Int32)), .int w1])), (a1, .inr (1, [.ref a2, .int v1, .int v2])), (a2, .inl (cT 0, 4096, .inl f0)), (a3, .inr (2, [.ref a4, .int v4, .int v5])), (a4, .inl (cT 2, 4096, .inr (.inl f3)))] H := ⟨hP, hD⟩
      refine lv_aload_n hx hb dD_fourDigits_34 rfl (lv_at hl 3 rfl) ?_
      refine va_get (D := D) (ci := 4) (v := .ref a1) (C := "ValueBench$Reader") (T := TD) (N := 4) hx hb htx inD hown hK hP 0 rfl rfl 0 (by decide) (htx _ kw_2_29) (fun _ h9 => h9) rfl dD_fourDigits_35 ?_
      refine lv_aload_n hx hb dD_fourDigits_38 rfl (lv_at hl 3 rfl) ?_
      refine va_get (D := D) (ci := 4) (v := .int (w0 + (1 : Int32))) (C := "ValueBench$Reader") (T := TD) (N := 4) hx hb htx inD hown hK hP 0 rfl rfl 2 (by decide) (htx _ kw_2_31) (fun _ h9 => h9) rfl dD_fourDigits_39 ?_
      obtain ⟨o1, hq2, hf⟩ := xbind hf
      obtain ⟨hPc, hDc, hFc⟩ := xcut (wc := [(a1, .inr (1, [.ref a2, .int v1, .int v2])), (a2, .inl (cT 0, 4096, .inl f0))]) hP hD hS hA [1, 2] rfl rfl (by decide)
      refine va_calli (va_runV (C := "ValueBench$Text") (As := [.int (w0 + (1 : Int32))]) (rest := []) ⟨hx, hb, hml, hown, htx⟩ (gT_at l hl9 D cT aK aV H.size n a1 a2 (w0 + (1 : Int32)) f0 v1 v2 o1 hq2) ⟨callB_of 1 htx (xw_goodC kw_2_58) rfl rfl rfl (htx _ kw_1_2) (htx _ kw_2_55) ⟨by decide, by decide, by decide +kernel⟩ ⟨Nat.le_of_ble_eq_true rfl, Nat.le_of_ble_eq_true rfl⟩, (htx _ kw_2_56), (htx _ kw_2_57)⟩ ⟨xPre_blind, va_recv hK hP (ci := 1) rfl (q0 := 1) rfl, (fun U hU hW => ⟨rfl, xPre_of hZ hS hFc hPc hDc hK U hU hW⟩)⟩ rfl rfl hl.1 rfl (lv_room (Nat.le_of_ble_eq_true rfl)) dD_fourDigits_42 ⟨Nat.le_of_ble_eq_true rfl, Nat.le_of_ble_eq_true rfl⟩) hS (fun q _ h => hFc q h) hFc (fun r3 u9 t H1 locs ht hvm hr9 hB hz1 hk1 hS => ?_)
      obtain ⟨hP1, hK1, hD1⟩ := hB
      rw [ht] at hP1
      obtain ⟨hP, hD⟩ := xjoin (W := [(a0, .inr (4, [.ref a1, .ref a3, .int (w0 + (1 : Int32)), .int w1])), (a3, .inr (2, [.ref a4, .int v4, .int v5])), (a4, .inl (cT 2, 4096, .inr (.inl f3))), (a1, .inr (1, [.ref a2, .int v1, .int v2])), (a2, .inl (cT 0, 4096, .inl f0))]) hP hD [1, 2] [0, 3, 4] 3 rfl rfl (by decide) (by decide) hk1 hFc hP1 hD1
      generalize H1 = H at hP hS ⊢
      rw [hr9]
      refine W.eq (g2 := F0 m 45 ls [.int o1]) rfl ?_
      obtain ⟨o4, hq5, hf⟩ := xbind hf
      obtain ⟨hPc, hDc, hFc⟩ := xcut (wc := []) hP hD hS hA [] rfl rfl (by decide)
      refine va_calli (va_runS (As := [.int o1]) (rest := []) ⟨hx, hb, hml, hown, htx⟩ (gD_digitOf l hl9 D cT aK aV H.size n o1 o4 hq5) ⟨callB_of 1 htx (xw_goodC kw_2_152) rfl rfl rfl (htx _ kw_1_16) (htx _ kw_2_150) ⟨by decide, by decide, by decide +kernel⟩ ⟨Nat.le_of_ble_eq_true rfl, Nat.le_of_ble_eq_true rfl⟩, htx _ kw_2_151⟩ ⟨xPre_blind, (fun U hU hW => ⟨rfl, xPre_of hZ hS hFc hPc hDc hK U hU hW⟩)⟩ rfl rfl hl.1 rfl (lv_room (Nat.le_of_ble_eq_true rfl)) dD_fourDigits_45 ⟨Nat.le_of_ble_eq_true rfl, Nat.le_of_ble_eq_true rfl⟩) hS (fun q _ h => hFc q h) hFc (fun r6 u9 t H1 locs ht hvm hr9 hB hz1 hk1 hS => ?_)
      obtain ⟨hP1, hK1, hD1⟩ := hB
      rw [ht] at hP1
      obtain ⟨hP, hD⟩ := xjoin (W := [(a0, .inr (4, [.ref a1, .ref a3, .int (w0 + (1 : Int32)), .int w1])), (a3, .inr (2, [.ref a4, .int v4, .int v5])), (a4, .inl (cT 2, 4096, .inr (.inl f3))), (a1, .inr (1, [.ref a2, .int v1, .int v2])), (a2, .inl (cT 0, 4096, .inl f0))]) hP hD [] [0, 1, 2, 3, 4] 5 rfl rfl (by decide) (by decide) hk1 hFc hP1 hD1
      generalize H1 = H at hP hS ⊢
      rw [hr9]
      refine W.eq (g2 := F0 m 48 ls [.int o4]) rfl ?_
      refine lv_istore (lv' := [(4, .int o4), (3, .int y3), (2, .int y2), (1, .int y1), (0, .ref a0)]) hx hb dD_fourDigits_48 hl (by decide) rfl (fun ls hl => ?_)
      refine lv_iload hx hb dD_fourDigits_50 (lv_at hl 0 rfl) ?_
      refine lv_iconst (v := (-1)) hx hb dD_fourDigits_52 (by decide) ?_
      refine lv_icmp_ne (tgt := 65) hx hb dD_fourDigits_53 (by decide) (fun hc => ?_) (fun hc => ?_)
      · rw [if_neg hc] at hf
        refine lv_iload_n hx hb dD_fourDigits_65 rfl (lv_at hl 2 rfl) ?_
        refine lv_bipush (v := 16) hx hb dD_fourDigits_66 (by decide) ?_
        refine lv_imul hx hb dD_fourDigits_68 ?_
        refine lv_iload hx hb dD_fourDigits_69 (lv_at hl 0 rfl) ?_
        refine lv_iadd hx hb dD_fourDigits_71 ?_
        refine lv_istore_n (lv' := [(2, .int ((y2 * (16 : Int32)) + o4)), (4, .int o4), (3, .int y3), (1, .int y1), (0, .ref a0)]) hx hb dD_fourDigits_72 rfl hl (by decide) rfl (fun ls hl => ?_)
        refine lv_iinc (v := (y3 + 1)) (lv' := [(3, .int (y3 + 1)), (2, .int ((y2 * (16 : Int32)) + o4)), (4, .int o4), (1, .int y1), (0, .ref a0)]) hx hb dD_fourDigits_73 hl (k := 2) rfl rfl (by decide) rfl (fun ls hl => ?_)
        refine lv_goto (tgt := 19) hx hb dD_fourDigits_76 (by decide) ?_
        obtain ⟨hP9, hD9⟩ := xsub (wc := [(a0, .inr (4, [.ref a1, .ref a3, .int (w0 + (1 : Int32)), .int w1])), (a1, .inr (1, [.ref a2, .int v1, .int v2])), (a2, .inl (cT 0, 4096, .inl f0)), (a3, .inr (2, [.ref a4, .int v4, .int v5])), (a4, .inl (cT 2, 4096, .inr (.inl f3)))]) hP hD [0, 3, 4, 1, 2] rfl rfl (by decide)
        exact ih (1, (y3 + 1), ((y2 * (16 : Int32)) + o4), y1, (w0 + (1 : Int32)), w1) _ _ ls (⟨rfl, hf, hP9, hD9, hS, lv_sub hl [0, 1, 3, 4] rfl⟩)
      · rw [if_pos hc] at hf
        refine lv_aload_n hx hb dD_fourDigits_56 rfl (lv_at hl 4 rfl) ?_
        refine lv_aload_n hx hb dD_fourDigits_57 rfl (lv_at hl 4 rfl) ?_
        refine va_get (D := D) (ci := 4) (v := .int (w0 + (1 : Int32))) (C := "ValueBench$Reader") (T := TD) (N := 4) hx hb htx inD hown hK hP 0 rfl rfl 2 (by decide) (htx _ kw_2_31) (fun _ h9 => h9) rfl dD_fourDigits_58 ?_
        obtain ⟨o7, hq8, hf⟩ := xbind hf
        obtain ⟨hPc, hDc, hFc⟩ := xcut (wc := [(a0, .inr (4, [.ref a1, .ref a3, .int (w0 + (1 : Int32)), .int w1])), (a1, .inr (1, [.ref a2, .int v1, .int v2])), (a2, .inl (cT 0, 4096, .inl f0)), (a3, .inr (2, [.ref a4, .int v4, .int v5])), (a4, .inl (cT 2, 4096, .inr (.inl f3)))]) hP hD hS hA [0, 3, 4, 1, 2] rfl rfl (by decide)
        refine va_calli (va_runV (C := "ValueBench$Reader") (As := [.int (w0 + (1 : Int32))]) (rest := []) ⟨hx, hb, hml, hown, htx⟩ (gD_brokenCode l hl9 D cT aK aV H.size n a0 a1 a2 a3 a4 (w0 + (1 : Int32)) f0 v1 v2 f3 v4 v5 (w0 + (1 : Int32)) w1 o7 hq8) ⟨callB_of 1 htx (xw_goodC kw_2_145) rfl rfl rfl (htx _ kw_1_16) (htx _ kw_2_142) ⟨by decide, by decide, by decide +kernel⟩ ⟨Nat.le_of_ble_eq_true rfl, Nat.le_of_ble_eq_true rfl⟩, (htx _ kw_2_144), (htx _ kp_D_brokenCode)⟩ ⟨xPre_blind, va_recv hK hP (ci := 4) rfl (q0 := 0) rfl, (fun U hU hW => ⟨rfl, xPre_of hZ hS hFc hPc hDc hK U hU hW⟩)⟩ rfl rfl hl.1 rfl (lv_room (Nat.le_of_ble_eq_true rfl)) dD_fourDigits_61 ⟨Nat.le_of_ble_eq_true rfl, Nat.le_of_ble_eq_true rfl⟩) hS (fun q _ h => hFc q h) hFc (fun r9 u9 t H1 locs ht hvm hr9 hB hz1 hk1 hS => ?_)
        obtain ⟨hP1, hK1, hD1⟩ := hB
        rw [ht] at hP1
        obtain ⟨hP, hD⟩ := xjoin (W := [(a0, .inr (4, [.ref a1, .ref a3, .int (w0 + (1 : Int32)), .int o7.2])), (a1, .inr (1, [.ref a2, .int v1, .int v2])), (a2, .inl (cT 0, 4096, .inl f0)), (a3, .inr (2, [.ref a4, .int v4, .int v5])), (a4, .inl (cT 2, 4096, .inr (.inl f3)))]) hP hD [0, 3, 4, 1, 2] [] 0 rfl rfl (by decide) (by decide) hk1 hFc hP1 hD1
        generalize H1 = H at hP hS ⊢
        rw [hr9]
        refine W.eq (g2 := F0 m 64 ls [.int o7.1]) rfl ?_
        obtain rfl := Option.some.inj hf
        obtain ⟨hP9, hD9⟩ := xsub (wc := [(a0, .inr (4, [.ref a1, .ref a3, .int (w0 + (1 : Int32)), .int o7.2])), (a1, .inr (1, [.ref a2, .int v1, .int v2])), (a2, .inl (cT 0, 4096, .inl f0)), (a3, .inr (2, [.ref a4, .int v4, .int v5])), (a4, .inl (cT 2, 4096, .inr (.inl f3)))]) hP hD [0, 1, 2, 3, 4] rfl rfl (by decide)
        exact W.iret (v := o7.1) hx hb hr (fun t ht hW => ⟨⟨o7.1, (), rfl, rfl, by rw [ht]; exact hP9, va_K.moved hW.alike hK, hD9⟩, hS.F ht⟩) hS.2.2 dD_fourDigits_64
  refine lv_aload_n hx hb dD_fourDigits_0 rfl (lv_at hl 0 rfl) ?_
  refine va_get (D := D) (ci := 4) (v := .int v6) (C := "ValueBench$Reader") (T := TD) (N := 4) hx hb htx inD hown hK hP 0 rfl rfl 2 (by decide) (htx _ kw_2_31) (fun _ h9 => h9) rfl dD_fourDigits_1 ?_
  refine lv_istore_n (lv' := [(1, .int v6), (0, .ref a0)]) hx hb dD_fourDigits_4 rfl hl (by decide) rfl (fun ls hl => ?_)
  refine lv_iconst (v := 0) hx hb dD_fourDigits_5 (by decide) ?_
  refine lv_istore_n (lv' := [(2, .int 0), (1, .int v6), (0, .ref a0)]) hx hb dD_fourDigits_6 rfl hl (by decide) rfl (fun ls hl => ?_)
  refine lv_aload_n hx hb dD_fourDigits_7 rfl (lv_at hl 2 rfl) ?_
  refine lv_dup hx hb dD_fourDigits_8 rfl ?_
  refine va_get (D := D) (ci := 4) (v := .int v6) (C := "ValueBench$Reader") (T := TD) (N := 4) hx hb htx inD hown hK hP 0 rfl rfl 2 (by decide) (htx _ kw_2_31) (fun _ h9 => h9) rfl dD_fourDigits_9 ?_
  refine lv_iconst (v := 1) hx hb dD_fourDigits_12 (by decide) ?_
  refine lv_iadd hx hb dD_fourDigits_13 ?_
  refine va_put (D := D) (ci := 4) (v := .int (v6 + (1 : Int32))) (ty := .int) (C := "ValueBench$Reader") (T := TD) (N := 4) hx hb htx inD tyD tyD_ok nmD hown hK hP hD hS 0 rfl rfl 2 (by decide) (htx _ kw_2_31) (fun _ h9 => h9) rfl (by decide +kernel) rfl rfl (Nat.le_of_ble_eq_true rfl) dD_fourDigits_14 (fun H locs hP hD hS => ?_)
  obtain ⟨hP, hD⟩ : xPD D xcl A [(a0, .inr (4, [.ref a1, .ref a3, .int (v6 + (1 : Int32)), .int v7])), (a1, .inr (1, [.ref a2, .int v1, .int v2])), (a2, .inl (cT 0, 4096, .inl f0)), (a3, .inr (2, [.ref a4, .int v4, .int v5])), (a4, .inl (cT 2, 4096, .inr (.inl f3)))] H := ⟨hP, hD⟩
  refine lv_iconst (v := 0) hx hb dD_fourDigits_17 (by decide) ?_
  refine lv_istore_n (lv' := [(3, .int 0), (2, .int 0), (1, .int v6), (0, .ref a0)]) hx hb dD_fourDigits_18 rfl hl (by decide) rfl (fun ls hl => ?_)
  obtain ⟨hP9, hD9⟩ := xsub (wc := [(a0, .inr (4, [.ref a1, .ref a3, .int (v6 + (1 : Int32)), .int v7])), (a1, .inr (1, [.ref a2, .int v1, .int v2])), (a2, .inl (cT 0, 4096, .inl f0)), (a3, .inr (2, [.ref a4, .int v4, .int v5])), (a4, .inl (cT 2, 4096, .inr (.inl f3)))]) hP hD [0, 1, 2, 3, 4] rfl rfl (by decide)
  exact key n (1, 0, 0, v6, (v6 + (1 : Int32)), v7) _ _ ls (⟨rfl, hf, hP9, hD9, hS, lv_sub hl [0, 1, 2, 3] rfl⟩)
set_option maxHeartbeats 400000000 in
set_option maxRecDepth 100000 in
theorem gD_string (l : Launch) (hl9 : l.stackTraces = false) (D : va_G) (cT : Nat → ClassId) (aK aV : Nat → Nat) (sz n : Nat) (a0 : Nat) (a1 : Nat) (a2 : Nat) (a3 : Nat) (a4 : Nat) (f0 : Nat → Int32) (v1 : Int32) (v2 : Int32) (f3 : Nat → Int64) (v4 : Int32) (v5 : Int32) (v6 : Int32) (v7 : Int32) (out : Int32 × (Nat → Int64) × Int32 × Int32 × Int32 × Int32) (hf : fD_string n f0 v1 v2 f3 v4 v5 v6 v7 = some out) : xMet l yD_string wyD_string 2 0 0 45 D cT aK aV sz [.ref a0] [(a0, .inr (4, [.ref a1, .ref a3, .int v6, .int v7])), (a1, .inr (1, [.ref a2, .int v1, .int v2])), (a2, .inl (cT 0, 4096, .inl f0)), (a3, .inr (2, [.ref a4, .int v4, .int v5])), (a4, .inl (cT 2, 4096, .inr (.inl f3)))] (fun A => va_Qi (fun (r : Int32) (_ : Unit) => r = out.1) (fun _ t => xB D xcl cT A [(a0, .inr (4, [.ref a1, .ref a3, .int out.2.2.2.2.1, .int out.2.2.2.2.2])), (a1, .inr (1, [.ref a2, .int v1, .int v2])), (a2, .inl (cT 0, 4096, .inl f0)), (a3, .inr (2, [.ref a4, .int out.2.2.1, .int out.2.2.2.1])), (a4, .inl (cT 2, 4096, .inr (.inl out.2.1)))] t) A) := by
  refine Met.ofW (cc := prog_7_method_15_code) (maxL := 4) (ret := (some .boolean)) (by decide) rfl ?_
  intro p e s m args below meth c s₁ B hml hv
  obtain ⟨rfl, hsz, hZ, hP, hK, hD0⟩ := hv
  have hx := B.exec
  have hb := B.bytes
  have hr := B.returns
  have hts := atoms_spec (ws := wyD_string) B.pre
  have htx := fun w h => hts w (List.mem_cons_of_mem _ h)
  have hown : s.vm.findClass "ValueBench$Reader" = some m.cls := findClass_of_methodNamed B.named
  have hlocks := B.notSynchronized
  subst hsz
  have hD := hD0.self (sz := s.heap.size)
  generalize hAe : va_A [(a0, .inr (4, [.ref a1, .ref a3, .int v6, .int v7])), (a1, .inr (1, [.ref a2, .int v1, .int v2])), (a2, .inl (cT 0, 4096, .inl f0)), (a3, .inr (2, [.ref a4, .int v4, .int v5])), (a4, .inl (cT 2, 4096, .inr (.inl f3)))] s.heap.size = A at hD hZ ⊢
  have hA : ∀ q : Nat, s.heap.size ≤ q → A q := fun q h => by rw [← hAe]; exact Or.inr h
  have hS : va_S A s.heap s.heap [] := va_S.rf
  have hP : va_P D xcl [(a0, .inr (4, [.ref a1, .ref a3, .int v6, .int v7])), (a1, .inr (1, [.ref a2, .int v1, .int v2])), (a2, .inl (cT 0, 4096, .inl f0)), (a3, .inr (2, [.ref a4, .int v4, .int v5])), (a4, .inl (cT 2, 4096, .inr (.inl f3)))] s.heap := hP
  have hl := lv_entry ([.ref a0]) (n := 4) (Nat.le_of_ble_eq_true rfl)
  rw [lg_entry_eq]
  generalize (lg_sl ([.ref a0]) ++ List.replicate (4 - (lg_sl ([.ref a0])).length) Slot.unset).toArray = ls at hl ⊢
  have hl : lv_has ls 4 [(0, .ref a0)] := hl
  unfold fD_string at hf
  refine xloopK (σ := Nat × Int32 × (Nat → Int64) × Int32 × Int32 × Int32 × Int32) (fun n x H locs ls => (x.1 = 1 ∧ fD_string_b f0 v1 v2 n x.1 x.2.1 x.2.2.1 x.2.2.2.1 x.2.2.2.2.1 x.2.2.2.2.2.1 x.2.2.2.2.2.2 = some out ∧ va_P D xcl [(a0, .inr (4, [.ref a1, .ref a3, .int x.2.2.2.2.2.1, .int x.2.2.2.2.2.2])), (a1, .inr (1, [.ref a2, .int v1, .int v2])), (a2, .inl (cT 0, 4096, .inl f0)), (a3, .inr (2, [.ref a4, .int x.2.2.2.1, .int x.2.2.2.2.1])), (a4, .inl (cT 2, 4096, .inr (.inl x.2.2.1)))] H ∧ va_D A [(a0, .inr (4, [.ref a1, .ref a3, .int x.2.2.2.2.2.1, .int x.2.2.2.2.2.2])), (a1, .inr (1, [.ref a2, .int v1, .int v2])), (a2, .inl (cT 0, 4096, .inl f0)), (a3, .inr (2, [.ref a4, .int x.2.2.2.1, .int x.2.2.2.2.1])), (a4, .inl (cT 2, 4096, .inr (.inl x.2.2.1)))] ∧ va_S A s.heap H locs ∧ lv_has ls 4 [(1, .int x.2.1), (0, .ref a0)])) (fun x => 19) (fun x H locs ls h => by exact absurd h.2.1 (by rw [fD_string_b]; exact fun h => nomatch h)) (fun n ih x H locs ls hv => ?_) (fun key => ?_)
  · obtain ⟨lb, y1, w0, w1, w2, w3, w4⟩ := x
    rcases hv with ⟨hj, hf, hP, hD, hS, hl⟩
    subst hj
    have hf : fD_string_b f0 v1 v2 (n + 1) 1 y1 w0 w1 w2 w3 w4 = some out := hf
    rw [fD_string_b] at hf
    obtain ⟨hP, hD⟩ : xPD D xcl A [(a0, .inr (4, [.ref a1, .ref a3, .int w3, .int w4])), (a1, .inr (1, [.ref a2, .int v1, .int v2])), (a2, .inl (cT 0, 4096, .inl f0)), (a3, .inr (2, [.ref a4, .int w1, .int w2])), (a4, .inl (cT 2, 4096, .inr (.inl w0)))] H := ⟨hP, hD⟩
    have hl : lv_has ls 4 [(1, .int y1), (0, .ref a0)] := hl
    refine W.eq (g2 := F0 m 19 ls []) rfl ?_
    refine lv_aload_n hx hb dD_string_19 rfl (lv_at hl 1 rfl) ?_
    refine va_get (D := D) (ci := 4) (v := .int w3) (C := "ValueBench$Reader") (T := TD) (N := 4) hx hb htx inD hown hK hP 0 rfl rfl 2 (by decide) (htx _ kw_2_31) (fun _ h9 => h9) rfl dD_string_20 ?_
    refine lv_aload_n hx hb dD_string_23 rfl (lv_at hl 1 rfl) ?_
    refine va_get (D := D) (ci := 4) (v := .ref a1) (C := "ValueBench$Reader") (T := TD) (N := 4) hx hb htx inD hown hK hP 0 rfl rfl 0 (by decide) (htx _ kw_2_29) (fun _ h9 => h9) rfl dD_string_24 ?_
    obtain ⟨o1, hq2, hf⟩ := xbind hf
    obtain ⟨hPc, hDc, hFc⟩ := xcut (wc := [(a1, .inr (1, [.ref a2, .int v1, .int v2])), (a2, .inl (cT 0, 4096, .inl f0))]) hP hD hS hA [1, 2] rfl rfl (by decide)
    refine va_calli (va_runV (C := "ValueBench$Text") (As := []) (rest := [.int w3]) ⟨hx, hb, hml, hown, htx⟩ (gT_size l hl9 D cT aK aV H.size n a1 a2 f0 v1 v2 o1 hq2) ⟨callB_of 0 htx (xw_goodC kw_1_131) rfl rfl rfl (htx _ kw_1_2) (htx _ kw_2_54) ⟨by decide, by decide, by decide +kernel⟩ ⟨Nat.le_of_ble_eq_true rfl, Nat.le_of_ble_eq_true rfl⟩, (htx _ kw_1_129), (htx _ kw_1_130)⟩ ⟨xPre_blind, va_recv hK hP (ci := 1) rfl (q0 := 1) rfl, (fun U hU hW => ⟨rfl, xPre_of hZ hS hFc hPc hDc hK U hU hW⟩)⟩ rfl rfl hl.1 rfl (lv_room (Nat.le_of_ble_eq_true rfl)) dD_string_27 ⟨Nat.le_of_ble_eq_true rfl, Nat.le_of_ble_eq_true rfl⟩) hS (fun q _ h => hFc q h) hFc (fun r3 u9 t H1 locs ht hvm hr9 hB hz1 hk1 hS => ?_)
    obtain ⟨hP1, hK1, hD1⟩ := hB
    rw [ht] at hP1
    obtain ⟨hP, hD⟩ := xjoin (W := [(a0, .inr (4, [.ref a1, .ref a3, .int w3, .int w4])), (a3, .inr (2, [.ref a4, .int w1, .int w2])), (a4, .inl (cT 2, 4096, .inr (.inl w0))), (a1, .inr (1, [.ref a2, .int v1, .int v2])), (a2, .inl (cT 0, 4096, .inl f0))]) hP hD [1, 2] [0, 3, 4] 3 rfl rfl (by decide) (by decide) hk1 hFc hP1 hD1
    generalize H1 = H at hP hS ⊢
    rw [hr9]
    refine W.eq (g2 := F0 m 30 ls [.int o1, .int w3]) rfl ?_
    refine lv_icmp_ge (tgt := 141) hx hb dD_string_30 (by decide) (fun hc => ?_) (fun hc => ?_)
    · rw [if_pos hc] at hf
      refine lv_aload_n hx hb dD_string_141 rfl (lv_at hl 1 rfl) ?_
      refine va_get (D := D) (ci := 4) (v := .ref a3) (C := "ValueBench$Reader") (T := TD) (N := 4) hx hb htx inD hown hK hP 0 rfl rfl 1 (by decide) (htx _ kw_2_30) (fun _ h9 => h9) rfl dD_string_142 ?_
      refine lv_iload_n hx hb dD_string_145 rfl (lv_at hl 0 rfl) ?_
      refine lv_iconst (v := 4) hx hb dD_string_146 (by decide) ?_
      refine lv_aload_n hx hb dD_string_147 rfl (lv_at hl 1 rfl) ?_
      refine va_get (D := D) (ci := 4) (v := .ref a3) (C := "ValueBench$Reader") (T := TD) (N := 4) hx hb htx inD hown hK hP 0 rfl rfl 1 (by decide) (htx _ kw_2_30) (fun _ h9 => h9) rfl dD_string_148 ?_
      obtain ⟨o4, hq5, hf⟩ := xbind hf
      obtain ⟨hPc, hDc, hFc⟩ := xcut (wc := [(a3, .inr (2, [.ref a4, .int w1, .int w2])), (a4, .inl (cT 2, 4096, .inr (.inl w0)))]) hP hD hS hA [1, 2] rfl rfl (by decide)
      refine va_calli (va_runV (C := "ValueBench$Row") (As := []) (rest := [.int 4, .int y1, .ref a3]) ⟨hx, hb, hml, hown, htx⟩ (gR_size l hl9 D cT aK aV H.size n a3 a4 w0 w1 w2 o4 hq5) ⟨callB_of 0 htx (xw_goodC kw_2_163) rfl rfl rfl (htx _ kw_1_4) (htx _ kw_2_160) ⟨by decide, by decide, by decide +kernel⟩ ⟨Nat.le_of_ble_eq_true rfl, Nat.le_of_ble_eq_true rfl⟩, (htx _ kw_2_161), (htx _ kw_2_162)⟩ ⟨xPre_blind, va_recv hK hP (ci := 2) rfl (q0 := 1) rfl, (fun U hU hW => ⟨rfl, xPre_of hZ hS hFc hPc hDc hK U hU hW⟩)⟩ rfl rfl hl.1 rfl (lv_room (Nat.le_of_ble_eq_true rfl)) dD_string_151 ⟨Nat.le_of_ble_eq_true rfl, Nat.le_of_ble_eq_true rfl⟩) hS (fun q _ h => hFc q h) hFc (fun r6 u9 t H1 locs ht hvm hr9 hB hz1 hk1 hS => ?_)
      obtain ⟨hP1, hK1, hD1⟩ := hB
      rw [ht] at hP1
      obtain ⟨hP, hD⟩ := xjoin (W := [(a0, .inr (4, [.ref a1, .ref a3, .int w3, .int w4])), (a1, .inr (1, [.ref a2, .int v1, .int v2])), (a2, .inl (cT 0, 4096, .inl f0)), (a3, .inr (2, [.ref a4, .int w1, .int w2])), (a4, .inl (cT 2, 4096, .inr (.inl w0)))]) hP hD [1, 2] [0, 3, 4] 3 rfl rfl (by decide) (by decide) hk1 hFc hP1 hD1
      generalize H1 = H at hP hS ⊢
      rw [hr9]
      refine W.eq (g2 := F0 m 154 ls [.int o4, .int 4, .int y1, .ref a3]) rfl ?_
      refine lv_iload_n hx hb dD_string_154 rfl (lv_at hl 0 rfl) ?_
      refine lv_isub hx hb dD_string_155 ?_
      refine lv_iconst (v := 1) hx hb dD_string_156 (by decide) ?_
      refine lv_isub hx hb dD_string_157 ?_
      obtain ⟨o7, hq8, hf⟩ := xbind hf
      obtain ⟨hPc, hDc, hFc⟩ := xcut (wc := [(a3, .inr (2, [.ref a4, .int w1, .int w2])), (a4, .inl (cT 2, 4096, .inr (.inl w0)))]) hP hD hS hA [3, 4] rfl rfl (by decide)
      refine va_callv (va_runV (C := "ValueBench$Row") (As := [.int y1, .int 4, .int ((o4 - y1) - (1 : Int32))]) (rest := []) ⟨hx, hb, hml, hown, htx⟩ (gR_close l hl9 D cT aK aV H.size n a3 a4 y1 (4 : Int32) ((o4 - y1) - (1 : Int32)) w0 w1 w2 o7 hq8) ⟨callB_of 3 htx (xw_goodC kw_2_167) rfl rfl rfl (htx _ kw_1_4) (htx _ kw_2_164) ⟨by decide, by decide, by decide +kernel⟩ ⟨Nat.le_of_ble_eq_true rfl, Nat.le_of_ble_eq_true rfl⟩, (htx _ kw_2_165), (htx _ kw_2_166)⟩ ⟨xPre_blind, va_recv hK hP (ci := 2) rfl (q0 := 3) rfl, (fun U hU hW => ⟨rfl, xPre_of hZ hS hFc hPc hDc hK U hU hW⟩)⟩ rfl rfl hl.1 rfl (lv_room (Nat.le_of_ble_eq_true rfl)) dD_string_158 ⟨Nat.le_of_ble_eq_true rfl, Nat.le_of_ble_eq_true rfl⟩) hS (fun q _ h => hFc q h) hFc (fun u9 t H1 locs ht hvm hr9 hB hz1 hk1 hS => ?_)
      obtain ⟨hP1, hK1, hD1⟩ := hB
      rw [ht] at hP1
      obtain ⟨hP, hD⟩ := xjoin (W := [(a0, .inr (4, [.ref a1, .ref a3, .int w3, .int w4])), (a1, .inr (1, [.ref a2, .int v1, .int v2])), (a2, .inl (cT 0, 4096, .inl f0)), (a3, .inr (2, [.ref a4, .int w1, .int w2])), (a4, .inl (cT 2, 4096, .inr (.inl o7)))]) hP hD [3, 4] [0, 1, 2] 3 rfl rfl (by decide) (by decide) hk1 hFc hP1 hD1
      generalize H1 = H at hP hS ⊢
      refine lv_aload_n hx hb dD_string_161 rfl (lv_at hl 1 rfl) ?_
      refine lv_bipush (v := 34) hx hb dD_string_162 (by decide) ?_
      obtain ⟨o9, hq10, hf⟩ := xbind hf
      obtain ⟨hPc, hDc, hFc⟩ := xcut (wc := [(a0, .inr (4, [.ref a1, .ref a3, .int w3, .int w4])), (a1, .inr (1, [.ref a2, .int v1, .int v2])), (a2, .inl (cT 0, 4096, .inl f0)), (a3, .inr (2, [.ref a4, .int w1, .int w2])), (a4, .inl (cT 2, 4096, .inr (.inl o7)))]) hP hD hS hA [0, 1, 2, 3, 4] rfl rfl (by decide)
      refine va_calli (va_runV (C := "ValueBench$Reader") (As := [.int 34]) (rest := []) ⟨hx, hb, hml, hown, htx⟩ (gD_take l hl9 D cT aK aV H.size n a0 a1 a2 a3 a4 (34 : Int32) f0 v1 v2 o7 w1 w2 w3 w4 o9 hq10) ⟨callB_of 1 htx (xw_goodC kw_2_118) rfl rfl rfl (htx _ kw_1_16) (htx _ kw_2_115) ⟨by decide, by decide, by decide +kernel⟩ ⟨Nat.le_of_ble_eq_true rfl, Nat.le_of_ble_eq_true rfl⟩, (htx _ kw_2_117), (htx _ kp_D_take)⟩ ⟨xPre_blind, va_recv hK hP (ci := 4) rfl (q0 := 0) rfl, (fun U hU hW => ⟨rfl, xPre_of hZ hS hFc hPc hDc hK U hU hW⟩)⟩ rfl rfl hl.1 rfl (lv_room (Nat.le_of_ble_eq_true rfl)) dD_string_164 ⟨Nat.le_of_ble_eq_true rfl, Nat.le_of_ble_eq_true rfl⟩) hS (fun q _ h => hFc q h) hFc (fun r11 u9 t H1 locs ht hvm hr9 hB hz1 hk1 hS => ?_)
      obtain ⟨hP1, hK1, hD1⟩ := hB
      rw [ht] at hP1
      obtain ⟨hP, hD⟩ := xjoin (W := [(a0, .inr (4, [.ref a1, .ref a3, .int o9.2.1, .int o9.2.2])), (a1, .inr (1, [.ref a2, .int v1, .int v2])), (a2, .inl (cT 0, 4096, .inl f0)), (a3, .inr (2, [.ref a4, .int w1, .int w2])), (a4, .inl (cT 2, 4096, .inr (.inl o7)))]) hP hD [0, 1, 2, 3, 4] [] 0 rfl rfl (by decide) (by decide) hk1 hFc hP1 hD1
      generalize H1 = H at hP hS ⊢
      rw [hr9]
      refine W.eq (g2 := F0 m 167 ls [.int o9.1]) rfl ?_
      obtain ⟨hg12, hf⟩ := xifn hf
      obtain rfl := Option.some.inj hf
      obtain ⟨hP9, hD9⟩ := xsub (wc := [(a0, .inr (4, [.ref a1, .ref a3, .int o9.2.1, .int o9.2.2])), (a1, .inr (1, [.ref a2, .int v1, .int v2])), (a2, .inl (cT 0, 4096, .inl f0)), (a3, .inr (2, [.ref a4, .int w1, .int w2])), (a4, .inl (cT 2, 4096, .inr (.inl o7)))]) hP hD [0, 1, 2, 3, 4] rfl rfl (by decide)
      exact W.zret (v := o9.1) hx hb hr (xzb hg12) (fun t ht hW => ⟨⟨o9.1, (), rfl, rfl, by rw [ht]; exact hP9, va_K.moved hW.alike hK, hD9⟩, hS.F ht⟩) hS.2.2 dD_string_167
    · rw [if_neg hc] at hf
      refine lv_aload_n hx hb dD_string_33 rfl (lv_at hl 1 rfl) ?_
      refine va_get (D := D) (ci := 4) (v := .ref a1) (C := "ValueBench$Reader") (T := TD) (N := 4) hx hb htx inD hown hK hP 0 rfl rfl 0 (by decide) (htx _ kw_2_29) (fun _ h9 => h9) rfl dD_string_34 ?_
      refine lv_aload_n hx hb dD_string_37 rfl (lv_at hl 1 rfl) ?_
      refine va_get (D := D) (ci := 4) (v := .int w3) (C := "ValueBench$Reader") (T := TD) (N := 4) hx hb htx inD hown hK hP 0 rfl rfl 2 (by decide) (htx _ kw_2_31) (fun _ h9 => h9) rfl dD_string_38 ?_
      obtain ⟨o4, hq5, hf⟩ := xbind hf
      obtain ⟨hPc, hDc, hFc⟩ := xcut (wc := [(a1, .inr (1, [.ref a2, .int v1, .int v2])), (a2, .inl (cT 0, 4096, .inl f0))]) hP hD hS hA [3, 4] rfl rfl (by decide)
      refine va_calli (va_runV (C := "ValueBench$Text") (As := [.int w3]) (rest := []) ⟨hx, hb, hml, hown, htx⟩ (gT_at l hl9 D cT aK aV H.size n a1 a2 w3 f0 v1 v2 o4 hq5) ⟨callB_of 1 htx (xw_goodC kw_2_58) rfl rfl rfl (htx _ kw_1_2) (htx _ kw_2_55) ⟨by decide, by decide, by decide +kernel⟩ ⟨Nat.le_of_ble_eq_true rfl, Nat.le_of_ble_eq_true rfl⟩, (htx _ kw_2_56), (htx _ kw_2_57)⟩ ⟨xPre_blind, va_recv hK hP (ci := 1) rfl (q0 := 3) rfl, (fun U hU hW => ⟨rfl, xPre_of hZ hS hFc hPc hDc hK U hU hW⟩)⟩ rfl rfl hl.1 rfl (lv_room (Nat.le_of_ble_eq_true rfl)) dD_string_41 ⟨Nat.le_of_ble_eq_true rfl, Nat.le_of_ble_eq_true rfl⟩) hS (fun q _ h => hFc q h) hFc (fun r6 u9 t H1 locs ht hvm hr9 hB hz1 hk1 hS => ?_)
      obtain ⟨hP1, hK1, hD1⟩ := hB
      rw [ht] at hP1
      obtain ⟨hP, hD⟩ := xjoin (W := [(a0, .inr (4, [.ref a1, .ref a3, .int w3, .int w4])), (a3, .inr (2, [.ref a4, .int w1, .int w2])), (a4, .inl (cT 2, 4096, .inr (.inl w0))), (a1, .inr (1, [.ref a2, .int v1, .int v2])), (a2, .inl (cT 0, 4096, .inl f0))]) hP hD [3, 4] [0, 1, 2] 3 rfl rfl (by decide) (by decide) hk1 hFc hP1 hD1
      generalize H1 = H at hP hS ⊢
      rw [hr9]
      refine W.eq (g2 := F0 m 44 ls [.int o4]) rfl ?_
      refine lv_bipush (v := 34) hx hb dD_string_44 (by decide) ?_
      refine lv_icmp_eq (tgt := 141) hx hb dD_string_46 (by decide) (fun hc => ?_) (fun hc => ?_)
      · rw [if_pos hc] at hf
        refine lv_aload_n hx hb dD_string_141 rfl (lv_at hl 1 rfl) ?_
        refine va_get (D := D) (ci := 4) (v := .ref a3) (C := "ValueBench$Reader") (T := TD) (N := 4) hx hb htx inD hown hK hP 0 rfl rfl 1 (by decide) (htx _ kw_2_30) (fun _ h9 => h9) rfl dD_string_142 ?_
        refine lv_iload_n hx hb dD_string_145 rfl (lv_at hl 0 rfl) ?_
        refine lv_iconst (v := 4) hx hb dD_string_146 (by decide) ?_
        refine lv_aload_n hx hb dD_string_147 rfl (lv_at hl 1 rfl) ?_
        refine va_get (D := D) (ci := 4) (v := .ref a3) (C := "ValueBench$Reader") (T := TD) (N := 4) hx hb htx inD hown hK hP 0 rfl rfl 1 (by decide) (htx _ kw_2_30) (fun _ h9 => h9) rfl dD_string_148 ?_
        obtain ⟨o7, hq8, hf⟩ := xbind hf
        obtain ⟨hPc, hDc, hFc⟩ := xcut (wc := [(a3, .inr (2, [.ref a4, .int w1, .int w2])), (a4, .inl (cT 2, 4096, .inr (.inl w0)))]) hP hD hS hA [1, 2] rfl rfl (by decide)
        refine va_calli (va_runV (C := "ValueBench$Row") (As := []) (rest := [.int 4, .int y1, .ref a3]) ⟨hx, hb, hml, hown, htx⟩ (gR_size l hl9 D cT aK aV H.size n a3 a4 w0 w1 w2 o7 hq8) ⟨callB_of 0 htx (xw_goodC kw_2_163) rfl rfl rfl (htx _ kw_1_4) (htx _ kw_2_160) ⟨by decide, by decide, by decide +kernel⟩ ⟨Nat.le_of_ble_eq_true rfl, Nat.le_of_ble_eq_true rfl⟩, (htx _ kw_2_161), (htx _ kw_2_162)⟩ ⟨xPre_blind, va_recv hK hP (ci := 2) rfl (q0 := 1) rfl, (fun U hU hW => ⟨rfl, xPre_of hZ hS hFc hPc hDc hK U hU hW⟩)⟩ rfl rfl hl.1 rfl (lv_room (Nat.le_of_ble_eq_true rfl)) dD_string_151 ⟨Nat.le_of_ble_eq_true rfl, Nat.le_of_ble_eq_true rfl⟩) hS (fun q _ h => hFc q h) hFc (fun r9 u9 t H1 locs ht hvm hr9 hB hz1 hk1 hS => ?_)
        obtain ⟨hP1, hK1, hD1⟩ := hB
        rw [ht] at hP1
        obtain ⟨hP, hD⟩ := xjoin (W := [(a0, .inr (4, [.ref a1, .ref a3, .int w3, .int w4])), (a1, .inr (1, [.ref a2, .int v1, .int v2])), (a2, .inl (cT 0, 4096, .inl f0)), (a3, .inr (2, [.ref a4, .int w1, .int w2])), (a4, .inl (cT 2, 4096, .inr (.inl w0)))]) hP hD [1, 2] [0, 3, 4] 3 rfl rfl (by decide) (by decide) hk1 hFc hP1 hD1
        generalize H1 = H at hP hS ⊢
        rw [hr9]
        refine W.eq (g2 := F0 m 154 ls [.int o7, .int 4, .int y1, .ref a3]) rfl ?_
        refine lv_iload_n hx hb dD_string_154 rfl (lv_at hl 0 rfl) ?_
        refine lv_isub hx hb dD_string_155 ?_
        refine lv_iconst (v := 1) hx hb dD_string_156 (by decide) ?_
        refine lv_isub hx hb dD_string_157 ?_
        obtain ⟨o10, hq11, hf⟩ := xbind hf
        obtain ⟨hPc, hDc, hFc⟩ := xcut (wc := [(a3, .inr (2, [.ref a4, .int w1, .int w2])), (a4, .inl (cT 2, 4096, .inr (.inl w0)))]) hP hD hS hA [3, 4] rfl rfl (by decide)
        refine va_callv (va_runV (C := "ValueBench$Row") (As := [.int y1, .int 4, .int ((o7 - y1) - (1 : Int32))]) (rest := []) ⟨hx, hb, hml, hown, htx⟩ (gR_close l hl9 D cT aK aV H.size n a3 a4 y1 (4 : Int32) ((o7 - y1) - (1 : Int32)) w0 w1 w2 o10 hq11) ⟨callB_of 3 htx (xw_goodC kw_2_167) rfl rfl rfl (htx _ kw_1_4) (htx _ kw_2_164) ⟨by decide, by decide, by decide +kernel⟩ ⟨Nat.le_of_ble_eq_true rfl, Nat.le_of_ble_eq_true rfl⟩, (htx _ kw_2_165), (htx _ kw_2_166)⟩ ⟨xPre_blind, va_recv hK hP (ci := 2) rfl (q0 := 3) rfl, (fun U hU hW => ⟨rfl, xPre_of hZ hS hFc hPc hDc hK U hU hW⟩)⟩ rfl rfl hl.1 rfl (lv_room (Nat.le_of_ble_eq_true rfl)) dD_string_158 ⟨Nat.le_of_ble_eq_true rfl, Nat.le_of_ble_eq_true rfl⟩) hS (fun q _ h => hFc q h) hFc (fun u9 t H1 locs ht hvm hr9 hB hz1 hk1 hS => ?_)
        obtain ⟨hP1, hK1, hD1⟩ := hB
        rw [ht] at hP1
        obtain ⟨hP, hD⟩ := xjoin (W := [(a0, .inr (4, [.ref a1, .ref a3, .int w3, .int w4])), (a1, .inr (1, [.ref a2, .int v1, .int v2])), (a2, .inl (cT 0, 4096, .inl f0)), (a3, .inr (2, [.ref a4, .int w1, .int w2])), (a4, .inl (cT 2, 4096, .inr (.inl o10)))]) hP hD [3, 4] [0, 1, 2] 3 rfl rfl (by decide) (by decide) hk1 hFc hP1 hD1
        generalize H1 = H at hP hS ⊢
        refine lv_aload_n hx hb dD_string_161 rfl (lv_at hl 1 rfl) ?_
        refine lv_bipush (v := 34) hx hb dD_string_162 (by decide) ?_
        obtain ⟨o12, hq13, hf⟩ := xbind hf
        obtain ⟨hPc, hDc, hFc⟩ := xcut (wc := [(a0, .inr (4, [.ref a1, .ref a3, .int w3, .int w4])), (a1, .inr (1, [.ref a2, .int v1, .int v2])), (a2, .inl (cT 0, 4096, .inl f0)), (a3, .inr (2, [.ref a4, .int w1, .int w2])), (a4, .inl (cT 2, 4096, .inr (.inl o10)))]) hP hD hS hA [0, 1, 2, 3, 4] rfl rfl (by decide)
        refine va_calli (va_runV (C := "ValueBench$Reader") (As := [.int 34]) (rest := []) ⟨hx, hb, hml, hown, htx⟩ (gD_take l hl9 D cT aK aV H.size n a0 a1 a2 a3 a4 (34 : Int32) f0 v1 v2 o10 w1 w2 w3 w4 o12 hq13) ⟨callB_of 1 htx (xw_goodC kw_2_118) rfl rfl rfl (htx _ kw_1_16) (htx _ kw_2_115) ⟨by decide, by decide, by decide +kernel⟩ ⟨Nat.le_of_ble_eq_true rfl, Nat.le_of_ble_eq_true rfl⟩, (htx _ kw_2_117), (htx _ kp_D_take)⟩ ⟨xPre_blind, va_recv hK hP (ci := 4) rfl (q0 := 0) rfl, (fun U hU hW => ⟨rfl, xPre_of hZ hS hFc hPc hDc hK U hU hW⟩)⟩ rfl rfl hl.1 rfl (lv_room (Nat.le_of_ble_eq_true rfl)) dD_string_164 ⟨Nat.le_of_ble_eq_true rfl, Nat.le_of_ble_eq_true rfl⟩) hS (fun q _ h => hFc q h) hFc (fun r14 u9 t H1 locs ht hvm hr9 hB hz1 hk1 hS => ?_)
        obtain ⟨hP1, hK1, hD1⟩ := hB
        rw [ht] at hP1
        obtain ⟨hP, hD⟩ := xjoin (W := [(a0, .inr (4, [.ref a1, .ref a3, .int o12.2.1, .int o12.2.2])), (a1, .inr (1, [.ref a2, .int v1, .int v2])), (a2, .inl (cT 0, 4096, .inl f0)), (a3, .inr (2, [.ref a4, .int w1, .int w2])), (a4, .inl (cT 2, 4096, .inr (.inl o10)))]) hP hD [0, 1, 2, 3, 4] [] 0 rfl rfl (by decide) (by decide) hk1 hFc hP1 hD1
        generalize H1 = H at hP hS ⊢
        rw [hr9]
        refine W.eq (g2 := F0 m 167 ls [.int o12.1]) rfl ?_
        obtain ⟨hg15, hf⟩ := xifn hf
        obtain rfl := Option.some.inj hf
        obtain ⟨hP9, hD9⟩ := xsub (wc := [(a0, .inr (4, [.ref a1, .ref a3, .int o12.2.1, .int o12.2.2])), (a1, .inr (1, [.ref a2, .int v1, .int v2])), (a2, .inl (cT 0, 4096, .inl f0)), (a3, .inr (2, [.ref a4, .int w1, .int w2])), (a4, .inl (cT 2, 4096, .inr (.inl o10)))]) hP hD [0, 1, 2, 3, 4] rfl rfl (by decide)
        exact W.zret (v := o12.1) hx hb hr (xzb hg15) (fun t ht hW => ⟨⟨o12.1, (), rfl, rfl, by rw [ht]; exact hP9, va_K.moved hW.alike hK, hD9⟩, hS.F ht⟩) hS.2.2 dD_string_167
      · rw [if_neg hc] at hf
        refine lv_aload_n hx hb dD_string_49 rfl (lv_at hl 1 rfl) ?_
        refine va_get (D := D) (ci := 4) (v := .ref a1) (C := "ValueBench$Reader") (T := TD) (N := 4) hx hb htx inD hown hK hP 0 rfl rfl 0 (by decide) (htx _ kw_2_29) (fun _ h9 => h9) rfl dD_string_50 ?_
        refine lv_aload_n hx hb dD_string_53 rfl (lv_at hl 1 rfl) ?_
        refine va_get (D := D) (ci := 4) (v := .int w3) (C := "ValueBench$Reader") (T := TD) (N := 4) hx hb htx inD hown hK hP 0 rfl rfl 2 (by decide) (htx _ kw_2_31) (fun _ h9 => h9) rfl dD_string_54 ?_
        obtain ⟨o7, hq8, hf⟩ := xbind hf
        obtain ⟨hPc, hDc, hFc⟩ := xcut (wc := [(a1, .inr (1, [.ref a2, .int v1, .int v2])), (a2, .inl (cT 0, 4096, .inl f0))]) hP hD hS hA [3, 4] rfl rfl (by decide)
        refine va_calli (va_runV (C := "ValueBench$Text") (As := [.int w3]) (rest := []) ⟨hx, hb, hml, hown, htx⟩ (gT_at l hl9 D cT aK aV H.size n a1 a2 w3 f0 v1 v2 o7 hq8) ⟨callB_of 1 htx (xw_goodC kw_2_58) rfl rfl rfl (htx _ kw_1_2) (htx _ kw_2_55) ⟨by decide, by decide, by decide +kernel⟩ ⟨Nat.le_of_ble_eq_true rfl, Nat.le_of_ble_eq_true rfl⟩, (htx _ kw_2_56), (htx _ kw_2_57)⟩ ⟨xPre_blind, va_recv hK hP (ci := 1) rfl (q0 := 3) rfl, (fun U hU hW => ⟨rfl, xPre_of hZ hS hFc hPc hDc hK U hU hW⟩)⟩ rfl rfl hl.1 rfl (lv_room (Nat.le_of_ble_eq_true rfl)) dD_string_57 ⟨Nat.le_of_ble_eq_true rfl, Nat.le_of_ble_eq_true rfl⟩) hS (fun q _ h => hFc q h) hFc (fun r9 u9 t H1 locs ht hvm hr9 hB hz1 hk1 hS => ?_)
        obtain ⟨hP1, hK1, hD1⟩ := hB
        rw [ht] at hP1
        obtain ⟨hP, hD⟩ := xjoin (W := [(a0, .inr (4, [.ref a1, .ref a3, .int w3, .int w4])), (a3, .inr (2, [.ref a4, .int w1, .int w2])), (a4, .inl (cT 2, 4096, .inr (.inl w0))), (a1, .inr (1, [.ref a2, .int v1, .int v2])), (a2, .inl (cT 0, 4096, .inl f0))]) hP hD [3, 4] [0, 1, 2] 3 rfl rfl (by decide) (by decide) hk1 hFc hP1 hD1
        generalize H1 = H at hP hS ⊢
        rw [hr9]
        refine W.eq (g2 := F0 m 60 ls [.int o7]) rfl ?_
        refine lv_bipush (v := 92) hx hb dD_string_60 (by decide) ?_
        refine lv_icmp_ne (tgt := 69) hx hb dD_string_62 (by decide) (fun hc => ?_) (fun hc => ?_)
        · rw [if_neg hc] at hf
          refine lv_iconst (v := 0) hx hb dD_string_69 (by decide) ?_
          refine lv_istore_n (lv' := [(2, .int 0), (1, .int y1), (0, .ref a0)]) hx hb dD_string_70 rfl hl (by decide) rfl (fun ls hl => ?_)
          refine lv_iload_n hx hb dD_string_71 rfl (lv_at hl 0 rfl) ?_
          refine lv_if_ne (tgt := 82) hx hb dD_string_72 (by decide) (fun h => ((by revert h; decide : False)).elim) (fun _ => ?_)
          refine lv_aload_n hx hb dD_string_75 rfl (lv_at hl 2 rfl) ?_
          obtain ⟨o10, hq11, hf⟩ := xbind hf
          obtain ⟨hPc, hDc, hFc⟩ := xcut (wc := [(a0, .inr (4, [.ref a1, .ref a3, .int w3, .int w4])), (a1, .inr (1, [.ref a2, .int v1, .int v2])), (a2, .inl (cT 0, 4096, .inl f0)), (a3, .inr (2, [.ref a4, .int w1, .int w2])), (a4, .inl (cT 2, 4096, .inr (.inl w0)))]) hP hD hS hA [0, 3, 4, 1, 2] rfl rfl (by decide)
          refine va_calli (va_runV (C := "ValueBench$Reader") (As := []) (rest := []) ⟨hx, hb, hml, hown, htx⟩ (gD_plain l hl9 D cT aK aV H.size n a0 a1 a2 a3 a4 f0 v1 v2 w0 w1 w2 w3 w4 o10 hq11) ⟨callB_of 0 htx (xw_goodC kw_2_141) rfl rfl rfl (htx _ kw_1_16) (htx _ kw_2_138) ⟨by decide, by decide, by decide +kernel⟩ ⟨Nat.le_of_ble_eq_true rfl, Nat.le_of_ble_eq_true rfl⟩, (htx _ kw_2_140), (htx _ kp_D_plain)⟩ ⟨xPre_blind, va_recv hK hP (ci := 4) rfl (q0 := 0) rfl, (fun U hU hW => ⟨rfl, xPre_of hZ hS hFc hPc hDc hK U hU hW⟩)⟩ rfl rfl hl.1 rfl (lv_room (Nat.le_of_ble_eq_true rfl)) dD_string_76 ⟨Nat.le_of_ble_eq_true rfl, Nat.le_of_ble_eq_true rfl⟩) hS (fun q _ h => hFc q h) hFc (fun r12 u9 t H1 locs ht hvm hr9 hB hz1 hk1 hS => ?_)
          obtain ⟨hP1, hK1, hD1⟩ := hB
          rw [ht] at hP1
          obtain ⟨hP, hD⟩ := xjoin (W := [(a0, .inr (4, [.ref a1, .ref a3, .int w3, .int o10.2])), (a1, .inr (1, [.ref a2, .int v1, .int v2])), (a2, .inl (cT 0, 4096, .inl f0)), (a3, .inr (2, [.ref a4, .int w1, .int w2])), (a4, .inl (cT 2, 4096, .inr (.inl w0)))]) hP hD [0, 3, 4, 1, 2] [] 0 rfl rfl (by decide) (by decide) hk1 hFc hP1 hD1
          generalize H1 = H at hP hS ⊢
          rw [hr9]
          refine W.eq (g2 := F0 m 79 ls [.int o10.1]) rfl ?_
          refine lv_goto (tgt := 111) hx hb dD_string_79 (by decide) ?_
          refine lv_istore_n (lv' := [(3, .int o10.1), (2, .int 0), (1, .int y1), (0, .ref a0)]) hx hb dD_string_111 rfl hl (by decide) rfl (fun ls hl => ?_)
          refine lv_iload_n hx hb dD_string_112 rfl (lv_at hl 0 rfl) ?_
          refine lv_iconst (v := (-1)) hx hb dD_string_113 (by decide) ?_
          refine lv_icmp_ne (tgt := 119) hx hb dD_string_114 (by decide) (fun hc => ?_) (fun hc => ?_)
          · rw [if_neg hc] at hf
            refine lv_aload_n hx hb dD_string_119 rfl (lv_at hl 3 rfl) ?_
            refine va_get (D := D) (ci := 4) (v := .ref a3) (C := "ValueBench$Reader") (T := TD) (N := 4) hx hb htx inD hown hK hP 0 rfl rfl 1 (by decide) (htx _ kw_2_30) (fun _ h9 => h9) rfl dD_string_120 ?_
            refine lv_iload_n hx hb dD_string_123 rfl (lv_at hl 0 rfl) ?_
            refine lv_i2l hx hb dD_string_124 rfl ?_
            obtain ⟨o13, hq14, hf⟩ := xbind hf
            obtain ⟨hPc, hDc, hFc⟩ := xcut (wc := [(a3, .inr (2, [.ref a4, .int w1, .int w2])), (a4, .inl (cT 2, 4096, .inr (.inl w0)))]) hP hD hS hA [3, 4] rfl rfl (by decide)
            refine va_callv (va_runV (C := "ValueBench$Row") (As := [.long o10.1.toInt64]) (rest := []) ⟨hx, hb, hml, hown, htx⟩ (gR_put l hl9 D cT aK aV H.size n a3 a4 o10.1.toInt64 w0 w1 w2 o13 hq14) ⟨callB_of 1 htx (xw_goodC kw_2_126) rfl rfl rfl (htx _ kw_1_4) (htx _ kw_2_123) ⟨by decide, by decide, by decide +kernel⟩ ⟨Nat.le_of_ble_eq_true rfl, Nat.le_of_ble_eq_true rfl⟩, (htx _ kw_2_124), (htx _ kw_2_125)⟩ ⟨xPre_blind, va_recv hK hP (ci := 2) rfl (q0 := 3) rfl, (fun U hU hW => ⟨rfl, xPre_of hZ hS hFc hPc hDc hK U hU hW⟩)⟩ rfl rfl hl.1 rfl (lv_room (Nat.le_of_ble_eq_true rfl)) dD_string_125 ⟨Nat.le_of_ble_eq_true rfl, Nat.le_of_ble_eq_true rfl⟩) hS (fun q _ h => hFc q h) hFc (fun u9 t H1 locs ht hvm hr9 hB hz1 hk1 hS => ?_)
            obtain ⟨hP1, hK1, hD1⟩ := hB
            rw [ht] at hP1
            obtain ⟨hP, hD⟩ := xjoin (W := [(a0, .inr (4, [.ref a1, .ref a3, .int w3, .int o10.2])), (a1, .inr (1, [.ref a2, .int v1, .int v2])), (a2, .inl (cT 0, 4096, .inl f0)), (a3, .inr (2, [.ref a4, .int o13.2.1, .int o13.2.2])), (a4, .inl (cT 2, 4096, .inr (.inl o13.1)))]) hP hD [3, 4] [0, 1, 2] 3 rfl rfl (by decide) (by decide) hk1 hFc hP1 hD1
            generalize H1 = H at hP hS ⊢
            refine lv_aload_n hx hb dD_string_128 rfl (lv_at hl 3 rfl) ?_
            refine lv_dup hx hb dD_string_129 rfl ?_
            refine va_get (D := D) (ci := 4) (v := .int w3) (C := "ValueBench$Reader") (T := TD) (N := 4) hx hb htx inD hown hK hP 0 rfl rfl 2 (by decide) (htx _ kw_2_31) (fun _ h9 => h9) rfl dD_string_130 ?_
            refine lv_iconst (v := 1) hx hb dD_string_133 (by decide) ?_
            refine lv_iadd hx hb dD_string_134 ?_
            refine va_put (D := D) (ci := 4) (v := .int (w3 + (1 : Int32))) (ty := .int) (C := "ValueBench$Reader") (T := TD) (N := 4) hx hb htx inD tyD tyD_ok nmD hown hK hP hD hS 0 rfl rfl 2 (by decide) (htx _ kw_2_31) (fun _ h9 => h9) rfl (by decide +kernel) rfl rfl (Nat.le_of_ble_eq_true rfl) dD_string_135 (fun H locs hP hD hS => ?_)
            obtain ⟨hP, hD⟩ : xPD D xcl A [(a0, .inr (4, [.ref a1, .ref a3, .int (w3 + (1 : Int32)), .int o10.2])), (a1, .inr (1, [.ref a2, .int v1, .int v2])), (a2, .inl (cT 0, 4096, .inl f0)), (a3, .inr (2, [.ref a4, .int o13.2.1, .int o13.2.2])), (a4, .inl (cT 2, 4096, .inr (.inl o13.1)))] H := ⟨hP, hD⟩
            refine lv_goto (tgt := 19) hx hb dD_string_138 (by decide) ?_
            obtain ⟨hP9, hD9⟩ := xsub (wc := [(a0, .inr (4, [.ref a1, .ref a3, .int (w3 + (1 : Int32)), .int o10.2])), (a1, .inr (1, [.ref a2, .int v1, .int v2])), (a2, .inl (cT 0, 4096, .inl f0)), (a3, .inr (2, [.ref a4, .int o13.2.1, .int o13.2.2])), (a4, .inl (cT 2, 4096, .inr (.inl o13.1)))]) hP hD [0, 1, 2, 3, 4] rfl rfl (by decide)
            exact ih (1, y1, o13.1, o13.2.1, o13.2.2, (w3 + (1 : Int32)), o10.2) _ _ ls (⟨rfl, hf, hP9, hD9, hS, lv_sub hl [2, 3] rfl⟩)
          · rw [if_pos hc] at hf
            refine lv_iconst (v := 0) hx hb dD_string_117 (by decide) ?_
            obtain rfl := Option.some.inj hf
            obtain ⟨hP9, hD9⟩ := xsub (wc := [(a0, .inr (4, [.ref a1, .ref a3, .int w3, .int o10.2])), (a1, .inr (1, [.ref a2, .int v1, .int v2])), (a2, .inl (cT 0, 4096, .inl f0)), (a3, .inr (2, [.ref a4, .int w1, .int w2])), (a4, .inl (cT 2, 4096, .inr (.inl w0)))]) hP hD [0, 1, 2, 3, 4] rfl rfl (by decide)
            exact W.zret (v := (0 : Int32)) hx hb hr rfl (fun t ht hW => ⟨⟨(0 : Int32), (), rfl, rfl, by rw [ht]; exact hP9, va_K.moved hW.alike hK, hD9⟩, hS.F ht⟩) hS.2.2 dD_string_118
        · rw [if_pos hc] at hf
          refine lv_iconst (v := 1) hx hb dD_string_65 (by decide) ?_
          refine lv_goto (tgt := 70) hx hb dD_string_66 (by decide) ?_
          refine lv_istore_n (lv' := [(2, .int 1), (1, .int y1), (0, .ref a0)]) hx hb dD_string_70 rfl hl (by decide) rfl (fun ls hl => ?_)
          refine lv_iload_n hx hb dD_string_71 rfl (lv_at hl 0 rfl) ?_
          refine lv_if_ne (tgt := 82) hx hb dD_string_72 (by decide) (fun _ => ?_) (fun h => ((by revert h; decide : False)).elim)
          refine lv_aload_n hx hb dD_string_82 rfl (lv_at hl 2 rfl) ?_
          refine va_get (D := D) (ci := 4) (v := .ref a1) (C := "ValueBench$Reader") (T := TD) (N := 4) hx hb htx inD hown hK hP 0 rfl rfl 0 (by decide) (htx _ kw_2_29) (fun _ h9 => h9) rfl dD_string_83 ?_
          refine lv_aload_n hx hb dD_string_86 rfl (lv_at hl 2 rfl) ?_
          refine va_get (D := D) (ci := 4) (v := .int w3) (C := "ValueBench$Reader") (T := TD) (N := 4) hx hb htx inD hown hK hP 0 rfl rfl 2 (by decide) (htx _ kw_2_31) (fun _ h9 => h9) rfl dD_string_87 ?_
          refine lv_iconst (v := 1) hx hb dD_string_90 (by decide) ?_
          refine lv_iadd hx hb dD_string_91 ?_
          obtain ⟨o10, hq11, hf⟩ := xbind hf
          obtain ⟨hPc, hDc, hFc⟩ := xcut (wc := [(a1, .inr (1, [.ref a2, .int v1, .int v2])), (a2, .inl (cT 0, 4096, .inl f0))]) hP hD hS hA [3, 4] rfl rfl (by decide)
          refine va_calli (va_runV (C := "ValueBench$Text") (As := [.int (w3 + (1 : Int32))]) (rest := []) ⟨hx, hb, hml, hown, htx⟩ (gT_at l hl9 D cT aK aV H.size n a1 a2 (w3 + (1 : Int32)) f0 v1 v2 o10 hq11) ⟨callB_of 1 htx (xw_goodC kw_2_58) rfl rfl rfl (htx _ kw_1_2) (htx _ kw_2_55) ⟨by decide, by decide, by decide +kernel⟩ ⟨Nat.le_of_ble_eq_true rfl, Nat.le_of_ble_eq_true rfl⟩, (htx _ kw_2_56), (htx _ kw_2_57)⟩ ⟨xPre_blind, va_recv hK hP (ci := 1) rfl (q0 := 3) rfl, (fun U hU hW => ⟨rfl, xPre_of hZ hS hFc hPc hDc hK U hU hW⟩)⟩ rfl rfl hl.1 rfl (lv_room (Nat.le_of_ble_eq_true rfl)) dD_string_92 ⟨Nat.le_of_ble_eq_true rfl, Nat.le_of_ble_eq_true rfl⟩) hS (fun q _ h => hFc q h) hFc (fun r12 u9 t H1 locs ht hvm hr9 hB hz1 hk1 hS => ?_)
          obtain ⟨hP1, hK1, hD1⟩ := hB
          rw [ht] at hP1
          obtain ⟨hP, hD⟩ := xjoin (W := [(a0, .inr (4, [.ref a1, .ref a3, .int w3, .int w4])), (a3, .inr (2, [.ref a4, .int w1, .int w2])), (a4, .inl (cT 2, 4096, .inr (.inl w0))), (a1, .inr (1, [.ref a2, .int v1, .int v2])), (a2, .inl (cT 0, 4096, .inl f0))]) hP hD [3, 4] [0, 1, 2] 3 rfl rfl (by decide) (by decide) hk1 hFc hP1 hD1
          generalize H1 = H at hP hS ⊢
          rw [hr9]
          refine W.eq (g2 := F0 m 95 ls [.int o10]) rfl ?_
          refine lv_bipush (v := 117) hx hb dD_string_95 (by decide) ?_
          refine lv_icmp_ne (tgt := 107) hx hb dD_string_97 (by decide) (fun hc => ?_) (fun hc => ?_)
          · rw [if_neg hc] at hf
            refine lv_aload_n hx hb dD_string_107 rfl (lv_at hl 2 rfl) ?_
            obtain ⟨o13, hq14, hf⟩ := xbind hf
            obtain ⟨hPc, hDc, hFc⟩ := xcut (wc := [(a0, .inr (4, [.ref a1, .ref a3, .int w3, .int w4])), (a1, .inr (1, [.ref a2, .int v1, .int v2])), (a2, .inl (cT 0, 4096, .inl f0)), (a3, .inr (2, [.ref a4, .int w1, .int w2])), (a4, .inl (cT 2, 4096, .inr (.inl w0)))]) hP hD hS hA [0, 3, 4, 1, 2] rfl rfl (by decide)
            refine va_calli (va_runV (C := "ValueBench$Reader") (As := []) (rest := []) ⟨hx, hb, hml, hown, htx⟩ (gD_letter l hl9 D cT aK aV H.size n a0 a1 a2 a3 a4 f0 v1 v2 w0 w1 w2 w3 w4 o13 hq14) ⟨callB_of 0 htx (xw_goodC kw_2_156) rfl rfl rfl (htx _ kw_1_16) (htx _ kw_2_153) ⟨by decide, by decide, by decide +kernel⟩ ⟨Nat.le_of_ble_eq_true rfl, Nat.le_of_ble_eq_true rfl⟩, (htx _ kw_2_155), (htx _ kp_D_letter)⟩ ⟨xPre_blind, va_recv hK hP (ci := 4) rfl (q0 := 0) rfl, (fun U hU hW => ⟨rfl, xPre_of hZ hS hFc hPc hDc hK U hU hW⟩)⟩ rfl rfl hl.1 rfl (lv_room (Nat.le_of_ble_eq_true rfl)) dD_string_108 ⟨Nat.le_of_ble_eq_true rfl, Nat.le_of_ble_eq_true rfl⟩) hS (fun q _ h => hFc q h) hFc (fun r15 u9 t H1 locs ht hvm hr9 hB hz1 hk1 hS => ?_)
            obtain ⟨hP1, hK1, hD1⟩ := hB
            rw [ht] at hP1
            obtain ⟨hP, hD⟩ := xjoin (W := [(a0, .inr (4, [.ref a1, .ref a3, .int o13.2.1, .int o13.2.2])), (a1, .inr (1, [.ref a2, .int v1, .int v2])), (a2, .inl (cT 0, 4096, .inl f0)), (a3, .inr (2, [.ref a4, .int w1, .int w2])), (a4, .inl (cT 2, 4096, .inr (.inl w0)))]) hP hD [0, 3, 4, 1, 2] [] 0 rfl rfl (by decide) (by decide) hk1 hFc hP1 hD1
            generalize H1 = H at hP hS ⊢
            rw [hr9]
            refine W.eq (g2 := F0 m 111 ls [.int o13.1]) rfl ?_
            refine lv_istore_n (lv' := [(3, .int o13.1), (2, .int 1), (1, .int y1), (0, .ref a0)]) hx hb dD_string_111 rfl hl (by decide) rfl (fun ls hl => ?_)
            refine lv_iload_n hx hb dD_string_112 rfl (lv_at hl 0 rfl) ?_
            refine lv_iconst (v := (-1)) hx hb dD_string_113 (by decide) ?_
            refine lv_icmp_ne (tgt := 119) hx hb dD_string_114 (by decide) (fun hc => ?_) (fun hc => ?_)
            · rw [if_neg hc] at hf
              refine lv_aload_n hx hb dD_string_119 rfl (lv_at hl 3 rfl) ?_
              refine va_get (D := D) (ci := 4) (v := .ref a3) (C := "ValueBench$Reader") (T := TD) (N := 4) hx hb htx inD hown hK hP 0 rfl rfl 1 (by decide) (htx _ kw_2_30) (fun _ h9 => h9) rfl dD_string_120 ?_
              refine lv_iload_n hx hb dD_string_123 rfl (lv_at hl 0 rfl) ?_
              refine lv_i2l hx hb dD_string_124 rfl ?_
              obtain ⟨o16, hq17, hf⟩ := xbind hf
              obtain ⟨hPc, hDc, hFc⟩ := xcut (wc := [(a3, .inr (2, [.ref a4, .int w1, .int w2])), (a4, .inl (cT 2, 4096, .inr (.inl w0)))]) hP hD hS hA [3, 4] rfl rfl (by decide)
              refine va_callv (va_runV (C := "ValueBench$Row") (As := [.long o13.1.toInt64]) (rest := []) ⟨hx, hb, hml, hown, htx⟩ (gR_put l hl9 D cT aK aV H.size n a3 a4 o13.1.toInt64 w0 w1 w2 o16 hq17) ⟨callB_of 1 htx (xw_goodC kw_2_126) rfl rfl rfl (htx _ kw_1_4) (htx _ kw_2_123) ⟨by decide, by decide, by decide +kernel⟩ ⟨Nat.le_of_ble_eq_true rfl, Nat.le_of_ble_eq_true rfl⟩, (htx _ kw_2_124), (htx _ kw_2_125)⟩ ⟨xPre_blind, va_recv hK hP (ci := 2) rfl (q0 := 3) rfl, (fun U hU hW => ⟨rfl, xPre_of hZ hS hFc hPc hDc hK U hU hW⟩)⟩ rfl rfl hl.1 rfl (lv_room (Nat.le_of_ble_eq_true rfl)) dD_string_125 ⟨Nat.le_of_ble_eq_true rfl, Nat.le_of_ble_eq_true rfl⟩) hS (fun q _ h => hFc q h) hFc (fun u9 t H1 locs ht hvm hr9 hB hz1 hk1 hS => ?_)
              obtain ⟨hP1, hK1, hD1⟩ := hB
              rw [ht] at hP1
              obtain ⟨hP, hD⟩ := xjoin (W := [(a0, .inr (4, [.ref a1, .ref a3, .int o13.2.1, .int o13.2.2])), (a1, .inr (1, [.ref a2, .int v1, .int v2])), (a2, .inl (cT 0, 4096, .inl f0)), (a3, .inr (2, [.ref a4, .int o16.2.1, .int o16.2.2])), (a4, .inl (cT 2, 4096, .inr (.inl o16.1)))]) hP hD [3, 4] [0, 1, 2] 3 rfl rfl (by decide) (by decide) hk1 hFc hP1 hD1
              generalize H1 = H at hP hS ⊢
              refine lv_aload_n hx hb dD_string_128 rfl (lv_at hl 3 rfl) ?_
              refine lv_dup hx hb dD_string_129 rfl ?_
              refine va_get (D := D) (ci := 4) (v := .int o13.2.1) (C := "ValueBench$Reader") (T := TD) (N := 4) hx hb htx inD hown hK hP 0 rfl rfl 2 (by decide) (htx _ kw_2_31) (fun _ h9 => h9) rfl dD_string_130 ?_
              refine lv_iconst (v := 1) hx hb dD_string_133 (by decide) ?_
              refine lv_iadd hx hb dD_string_134 ?_
              refine va_put (D := D) (ci := 4) (v := .int (o13.2.1 + (1 : Int32))) (ty := .int) (C := "ValueBench$Reader") (T := TD) (N := 4) hx hb htx inD tyD tyD_ok nmD hown hK hP hD hS 0 rfl rfl 2 (by decide) (htx _ kw_2_31) (fun _ h9 => h9) rfl (by decide +kernel) rfl rfl (Nat.le_of_ble_eq_true rfl) dD_string_135 (fun H locs hP hD hS => ?_)
              obtain ⟨hP, hD⟩ : xPD D xcl A [(a0, .inr (4, [.ref a1, .ref a3, .int (o13.2.1 + (1 : Int32)), .int o13.2.2])), (a1, .inr (1, [.ref a2, .int v1, .int v2])), (a2, .inl (cT 0, 4096, .inl f0)), (a3, .inr (2, [.ref a4, .int o16.2.1, .int o16.2.2])), (a4, .inl (cT 2, 4096, .inr (.inl o16.1)))] H := ⟨hP, hD⟩
              refine lv_goto (tgt := 19) hx hb dD_string_138 (by decide) ?_
              obtain ⟨hP9, hD9⟩ := xsub (wc := [(a0, .inr (4, [.ref a1, .ref a3, .int (o13.2.1 + (1 : Int32)), .int o13.2.2])), (a1, .inr (1, [.ref a2, .int v1, .int v2])), (a2, .inl (cT 0, 4096, .inl f0)), (a3, .inr (2, [.ref a4, .int o16.2.1, .int o16.2.2])), (a4, .inl (cT 2, 4096, .inr (.inl o16.1)))]) hP hD [0, 1, 2, 3, 4] rfl rfl (by decide)
              exact ih (1, y1, o16.1, o16.2.1, o16.2.2, (o13.2.1 + (1 : Int32)), o13.2.2) _ _ ls (⟨rfl, hf, hP9, hD9, hS, lv_sub hl [2, 3] rfl⟩)
            · rw [if_pos hc] at hf
              refine lv_iconst (v := 0) hx hb dD_string_117 (by decide) ?_
              obtain rfl := Option.some.inj hf
              obtain ⟨hP9, hD9⟩ := xsub (wc := [(a0, .inr (4, [.ref a1, .ref a3, .int o13.2.1, .int o13.2.2])), (a1, .inr (1, [.ref a2, .int v1, .int v2])), (a2, .inl (cT 0, 4096, .inl f0)), (a3, .inr (2, [.ref a4, .int w1, .int w2])), (a4, .inl (cT 2, 4096, .inr (.inl w0)))]) hP hD [0, 1, 2, 3, 4] rfl rfl (by decide)
              exact W.zret (v := (0 : Int32)) hx hb hr rfl (fun t ht hW => ⟨⟨(0 : Int32), (), rfl, rfl, by rw [ht]; exact hP9, va_K.moved hW.alike hK, hD9⟩, hS.F ht⟩) hS.2.2 dD_string_118
          · rw [if_pos hc] at hf
            refine lv_aload_n hx hb dD_string_100 rfl (lv_at hl 2 rfl) ?_
            obtain ⟨o13, hq14, hf⟩ := xbind hf
            obtain ⟨hPc, hDc, hFc⟩ := xcut (wc := [(a0, .inr (4, [.ref a1, .ref a3, .int w3, .int w4])), (a1, .inr (1, [.ref a2, .int v1, .int v2])), (a2, .inl (cT 0, 4096, .inl f0)), (a3, .inr (2, [.ref a4, .int w1, .int w2])), (a4, .inl (cT 2, 4096, .inr (.inl w0)))]) hP hD hS hA [0, 3, 4, 1, 2] rfl rfl (by decide)
            refine va_calli (va_runV (C := "ValueBench$Reader") (As := []) (rest := []) ⟨hx, hb, hml, hown, htx⟩ (gD_fourDigits l hl9 D cT aK aV H.size n a0 a1 a2 a3 a4 f0 v1 v2 w0 w1 w2 w3 w4 o13 hq14) ⟨callB_of 0 htx (xw_goodC kw_2_149) rfl rfl rfl (htx _ kw_1_16) (htx _ kw_2_146) ⟨by decide, by decide, by decide +kernel⟩ ⟨Nat.le_of_ble_eq_true rfl, Nat.le_of_ble_eq_true rfl⟩, (htx _ kw_2_148), (htx _ kp_D_fourDigits)⟩ ⟨xPre_blind, va_recv hK hP (ci := 4) rfl (q0 := 0) rfl, (fun U hU hW => ⟨rfl, xPre_of hZ hS hFc hPc hDc hK U hU hW⟩)⟩ rfl rfl hl.1 rfl (lv_room (Nat.le_of_ble_eq_true rfl)) dD_string_101 ⟨Nat.le_of_ble_eq_true rfl, Nat.le_of_ble_eq_true rfl⟩) hS (fun q _ h => hFc q h) hFc (fun r15 u9 t H1 locs ht hvm hr9 hB hz1 hk1 hS => ?_)
            obtain ⟨hP1, hK1, hD1⟩ := hB
            rw [ht] at hP1
            obtain ⟨hP, hD⟩ := xjoin (W := [(a0, .inr (4, [.ref a1, .ref a3, .int o13.2.1, .int o13.2.2])), (a1, .inr (1, [.ref a2, .int v1, .int v2])), (a2, .inl (cT 0, 4096, .inl f0)), (a3, .inr (2, [.ref a4, .int w1, .int w2])), (a4, .inl (cT 2, 4096, .inr (.inl w0)))]) hP hD [0, 3, 4, 1, 2] [] 0 rfl rfl (by decide) (by decide) hk1 hFc hP1 hD1
            generalize H1 = H at hP hS ⊢
            rw [hr9]
            refine W.eq (g2 := F0 m 104 ls [.int o13.1]) rfl ?_
            refine lv_goto (tgt := 111) hx hb dD_string_104 (by decide) ?_
            refine lv_istore_n (lv' := [(3, .int o13.1), (2, .int 1), (1, .int y1), (0, .ref a0)]) hx hb dD_string_111 rfl hl (by decide) rfl (fun ls hl => ?_)
            refine lv_iload_n hx hb dD_string_112 rfl (lv_at hl 0 rfl) ?_
            refine lv_iconst (v := (-1)) hx hb dD_string_113 (by decide) ?_
            refine lv_icmp_ne (tgt := 119) hx hb dD_string_114 (by decide) (fun hc => ?_) (fun hc => ?_)
            · rw [if_neg hc] at hf
              refine lv_aload_n hx hb dD_string_119 rfl (lv_at hl 3 rfl) ?_
              refine va_get (D := D) (ci := 4) (v := .ref a3) (C := "ValueBench$Reader") (T := TD) (N := 4) hx hb htx inD hown hK hP 0 rfl rfl 1 (by decide) (htx _ kw_2_30) (fun _ h9 => h9) rfl dD_string_120 ?_
              refine lv_iload_n hx hb dD_string_123 rfl (lv_at hl 0 rfl) ?_
              refine lv_i2l hx hb dD_string_124 rfl ?_
              obtain ⟨o16, hq17, hf⟩ := xbind hf
              obtain ⟨hPc, hDc, hFc⟩ := xcut (wc := [(a3, .inr (2, [.ref a4, .int w1, .int w2])), (a4, .inl (cT 2, 4096, .inr (.inl w0)))]) hP hD hS hA [3, 4] rfl rfl (by decide)
              refine va_callv (va_runV (C := "ValueBench$Row") (As := [.long o13.1.toInt64]) (rest := []) ⟨hx, hb, hml, hown, htx⟩ (gR_put l hl9 D cT aK aV H.size n a3 a4 o13.1.toInt64 w0 w1 w2 o16 hq17) ⟨callB_of 1 htx (xw_goodC kw_2_126) rfl rfl rfl (htx _ kw_1_4) (htx _ kw_2_123) ⟨by decide, by decide, by decide +kernel⟩ ⟨Nat.le_of_ble_eq_true rfl, Nat.le_of_ble_eq_true rfl⟩, (htx _ kw_2_124), (htx _ kw_2_125)⟩ ⟨xPre_blind, va_recv hK hP (ci := 2) rfl (q0 := 3) rfl, (fun U hU hW => ⟨rfl, xPre_of hZ hS hFc hPc hDc hK U hU hW⟩)⟩ rfl rfl hl.1 rfl (lv_room (Nat.le_of_ble_eq_true rfl)) dD_string_125 ⟨Nat.le_of_ble_eq_true rfl, Nat.le_of_ble_eq_true rfl⟩) hS (fun q _ h => hFc q h) hFc (fun u9 t H1 locs ht hvm hr9 hB hz1 hk1 hS => ?_)
              obtain ⟨hP1, hK1, hD1⟩ := hB
              rw [ht] at hP1
              obtain ⟨hP, hD⟩ := xjoin (W := [(a0, .inr (4, [.ref a1, .ref a3, .int o13.2.1, .int o13.2.2])), (a1, .inr (1, [.ref a2, .int v1, .int v2])), (a2, .inl (cT 0, 4096, .inl f0)), (a3, .inr (2, [.ref a4, .int o16.2.1, .int o16.2.2])), (a4, .inl (cT 2, 4096, .inr (.inl o16.1)))]) hP hD [3, 4] [0, 1, 2] 3 rfl rfl (by decide) (by decide) hk1 hFc hP1 hD1
              generalize H1 = H at hP hS ⊢
              refine lv_aload_n hx hb dD_string_128 rfl (lv_at hl 3 rfl) ?_
              refine lv_dup hx hb dD_string_129 rfl ?_
              refine va_get (D := D) (ci := 4) (v := .int o13.2.1) (C := "ValueBench$Reader") (T := TD) (N := 4) hx hb htx inD hown hK hP 0 rfl rfl 2 (by decide) (htx _ kw_2_31) (fun _ h9 => h9) rfl dD_string_130 ?_
              refine lv_iconst (v := 1) hx hb dD_string_133 (by decide) ?_
              refine lv_iadd hx hb dD_string_134 ?_
              refine va_put (D := D) (ci := 4) (v := .int (o13.2.1 + (1 : Int32))) (ty := .int) (C := "ValueBench$Reader") (T := TD) (N := 4) hx hb htx inD tyD tyD_ok nmD hown hK hP hD hS 0 rfl rfl 2 (by decide) (htx _ kw_2_31) (fun _ h9 => h9) rfl (by decide +kernel) rfl rfl (Nat.le_of_ble_eq_true rfl) dD_string_135 (fun H locs hP hD hS => ?_)
              obtain ⟨hP, hD⟩ : xPD D xcl A [(a0, .inr (4, [.ref a1, .ref a3, .int (o13.2.1 + (1 : Int32)), .int o13.2.2])), (a1, .inr (1, [.ref a2, .int v1, .int v2])), (a2, .inl (cT 0, 4096, .inl f0)), (a3, .inr (2, [.ref a4, .int o16.2.1, .int o16.2.2])), (a4, .inl (cT 2, 4096, .inr (.inl o16.1)))] H := ⟨hP, hD⟩
              refine lv_goto (tgt := 19) hx hb dD_string_138 (by decide) ?_
              obtain ⟨hP9, hD9⟩ := xsub (wc := [(a0, .inr (4, [.ref a1, .ref a3, .int (o13.2.1 + (1 : Int32)), .int o13.2.2])), (a1, .inr (1, [.ref a2, .int v1, .int v2])), (a2, .inl (cT 0, 4096, .inl f0)), (a3, .inr (2, [.ref a4, .int o16.2.1, .int o16.2.2])), (a4, .inl (cT 2, 4096, .inr (.inl o16.1)))]) hP hD [0, 1, 2, 3, 4] rfl rfl (by decide)
              exact ih (1, y1, o16.1, o16.2.1, o16.2.2, (o13.2.1 + (1 : Int32)), o13.2.2) _ _ ls (⟨rfl, hf, hP9, hD9, hS, lv_sub hl [2, 3] rfl⟩)
            · rw [if_pos hc] at hf
              refine lv_iconst (v := 0) hx hb dD_string_117 (by decide) ?_
              obtain rfl := Option.some.inj hf
              obtain ⟨hP9, hD9⟩ := xsub (wc := [(a0, .inr (4, [.ref a1, .ref a3, .int o13.2.1, .int o13.2.2])), (a1, .inr (1, [.ref a2, .int v1, .int v2])), (a2, .inl (cT 0, 4096, .inl f0)), (a3, .inr (2, [.ref a4, .int w1, .int w2])), (a4, .inl (cT 2, 4096, .inr (.inl w0)))]) hP hD [0, 1, 2, 3, 4] rfl rfl (by decide)
              exact W.zret (v := (0 : Int32)) hx hb hr rfl (fun t ht hW => ⟨⟨(0 : Int32), (), rfl, rfl, by rw [ht]; exact hP9, va_K.moved hW.alike hK, hD9⟩, hS.F ht⟩) hS.2.2 dD_string_118
  refine lv_aload_n hx hb dD_string_0 rfl (lv_at hl 0 rfl) ?_
  refine va_get (D := D) (ci := 4) (v := .ref a3) (C := "ValueBench$Reader") (T := TD) (N := 4) hx hb htx inD hown hK hP 0 rfl rfl 1 (by decide) (htx _ kw_2_30) (fun _ h9 => h9) rfl dD_string_1 ?_
  obtain ⟨o1, hq2, hf⟩ := xbind hf
  obtain ⟨hPc, hDc, hFc⟩ := xcut (wc := [(a3, .inr (2, [.ref a4, .int v4, .int v5])), (a4, .inl (cT 2, 4096, .inr (.inl f3)))]) hP hD hS hA [3, 4] rfl rfl (by decide)
  refine va_calli (va_runV (C := "ValueBench$Row") (As := []) (rest := []) ⟨hx, hb, hml, hown, htx⟩ (gR_open l hl9 D cT aK aV s.heap.size n a3 a4 f3 v4 v5 o1 hq2) ⟨callB_of 0 htx (xw_goodC kw_2_136) rfl rfl rfl (htx _ kw_1_4) (htx _ kw_2_133) ⟨by decide, by decide, by decide +kernel⟩ ⟨Nat.le_of_ble_eq_true rfl, Nat.le_of_ble_eq_true rfl⟩, (htx _ kw_2_134), (htx _ kw_2_135)⟩ ⟨xPre_blind, va_recv hK hP (ci := 2) rfl (q0 := 3) rfl, (fun U hU hW => ⟨rfl, xPre_of hZ hS hFc hPc hDc hK U hU hW⟩)⟩ rfl rfl hl.1 rfl (lv_room (Nat.le_of_ble_eq_true rfl)) dD_string_4 ⟨Nat.le_of_ble_eq_true rfl, Nat.le_of_ble_eq_true rfl⟩) hS (fun q _ h => hFc q h) hFc (fun r3 u9 t H1 locs ht hvm hr9 hB hz1 hk1 hS => ?_)
  obtain ⟨hP1, hK1, hD1⟩ := hB
  rw [ht] at hP1
  obtain ⟨hP, hD⟩ := xjoin (W := [(a0, .inr (4, [.ref a1, .ref a3, .int v6, .int v7])), (a1, .inr (1, [.ref a2, .int v1, .int v2])), (a2, .inl (cT 0, 4096, .inl f0)), (a3, .inr (2, [.ref a4, .int o1.2.2.1, .int o1.2.2.2])), (a4, .inl (cT 2, 4096, .inr (.inl o1.2.1)))]) hP hD [3, 4] [0, 1, 2] 3 rfl rfl (by decide) (by decide) hk1 hFc hP1 hD1
  generalize H1 = H at hP hS ⊢
  rw [hr9]
  refine W.eq (g2 := F0 m 7 ls [.int o1.1]) rfl ?_
  refine lv_istore_n (lv' := [(1, .int o1.1), (0, .ref a0)]) hx hb dD_string_7 rfl hl (by decide) rfl (fun ls hl => ?_)
  refine lv_aload_n hx hb dD_string_8 rfl (lv_at hl 1 rfl) ?_
  refine lv_bipush (v := 34) hx hb dD_string_9 (by decide) ?_
  obtain ⟨o4, hq5, hf⟩ := xbind hf
  obtain ⟨hPc, hDc, hFc⟩ := xcut (wc := [(a0, .inr (4, [.ref a1, .ref a3, .int v6, .int v7])), (a1, .inr (1, [.ref a2, .int v1, .int v2])), (a2, .inl (cT 0, 4096, .inl f0)), (a3, .inr (2, [.ref a4, .int o1.2.2.1, .int o1.2.2.2])), (a4, .inl (cT 2, 4096, .inr (.inl o1.2.1)))]) hP hD hS hA [0, 1, 2, 3, 4] rfl rfl (by decide)
  refine va_calli (va_runV (C := "ValueBench$Reader") (As := [.int 34]) (rest := []) ⟨hx, hb, hml, hown, htx⟩ (gD_take l hl9 D cT aK aV H.size n a0 a1 a2 a3 a4 (34 : Int32) f0 v1 v2 o1.2.1 o1.2.2.1 o1.2.2.2 v6 v7 o4 hq5) ⟨callB_of 1 htx (xw_goodC kw_2_118) rfl rfl rfl (htx _ kw_1_16) (htx _ kw_2_115) ⟨by decide, by decide, by decide +kernel⟩ ⟨Nat.le_of_ble_eq_true rfl, Nat.le_of_ble_eq_true rfl⟩, (htx _ kw_2_117), (htx _ kp_D_take)⟩ ⟨xPre_blind, va_recv hK hP (ci := 4) rfl (q0 := 0) rfl, (fun U hU hW => ⟨rfl, xPre_of hZ hS hFc hPc hDc hK U hU hW⟩)⟩ rfl rfl hl.1 rfl (lv_room (Nat.le_of_ble_eq_true rfl)) dD_string_11 ⟨Nat.le_of_ble_eq_true rfl, Nat.le_of_ble_eq_true rfl⟩) hS (fun q _ h => hFc q h) hFc (fun r6 u9 t H1 locs ht hvm hr9 hB hz1 hk1 hS => ?_)
  obtain ⟨hP1, hK1, hD1⟩ := hB
  rw [ht] at hP1
  obtain ⟨hP, hD⟩ := xjoin (W := [(a0, .inr (4, [.ref a1, .ref a3, .int o4.2.1, .int o4.2.2])), (a1, .inr (1, [.ref a2, .int v1, .int v2])), (a2, .inl (cT 0, 4096, .inl f0)), (a3, .inr (2, [.ref a4, .int o1.2.2.1, .int o1.2.2.2])), (a4, .inl (cT 2, 4096, .inr (.inl o1.2.1)))]) hP hD [0, 1, 2, 3, 4] [] 0 rfl rfl (by decide) (by decide) hk1 hFc hP1 hD1
  generalize H1 = H at hP hS ⊢
  rw [hr9]
  refine W.eq (g2 := F0 m 14 ls [.int o4.1]) rfl ?_
  refine lv_if_ne (tgt := 19) hx hb dD_string_14 (by decide) (fun hc => ?_) (fun hc => ?_)
  · rw [if_neg hc] at hf
    obtain ⟨hP9, hD9⟩ := xsub (wc := [(a0, .inr (4, [.ref a1, .ref a3, .int o4.2.1, .int o4.2.2])), (a1, .inr (1, [.ref a2, .int v1, .int v2])), (a2, .inl (cT 0, 4096, .inl f0)), (a3, .inr (2, [.ref a4, .int o1.2.2.1, .int o1.2.2.2])), (a4, .inl (cT 2, 4096, .inr (.inl o1.2.1)))]) hP hD [0, 1, 2, 3, 4] rfl rfl (by decide)
    exact key n (1, o1.1, o1.2.1, o1.2.2.1, o1.2.2.2, o4.2.1, o4.2.2) _ _ ls (⟨rfl, hf, hP9, hD9, hS, lv_sub hl [0, 1] rfl⟩)
  · rw [if_pos hc] at hf
    refine lv_iconst (v := 0) hx hb dD_string_17 (by decide) ?_
    obtain rfl := Option.some.inj hf
    obtain ⟨hP9, hD9⟩ := xsub (wc := [(a0, .inr (4, [.ref a1, .ref a3, .int o4.2.1, .int o4.2.2])), (a1, .inr (1, [.ref a2, .int v1, .int v2])), (a2, .inl (cT 0, 4096, .inl f0)), (a3, .inr (2, [.ref a4, .int o1.2.2.1, .int o1.2.2.2])), (a4, .inl (cT 2, 4096, .inr (.inl o1.2.1)))]) hP hD [0, 1, 2, 3, 4] rfl rfl (by decide)
    exact W.zret (v := (0 : Int32)) hx hb hr rfl (fun t ht hW => ⟨⟨(0 : Int32), (), rfl, rfl, by rw [ht]; exact hP9, va_K.moved hW.alike hK, hD9⟩, hS.F ht⟩) hS.2.2 dD_string_18
set_option maxHeartbeats 400000000 in
set_option maxRecDepth 100000 in
theorem gD_comma (l : Launch) (hl9 : l.stackTraces = false) (D : va_G) (cT : Nat → ClassId) (aK aV : Nat → Nat) (sz n : Nat) (a0 : Nat) (a1 : Nat) (a2 : Nat) (a3 : Nat) (a4 : Nat) (f0 : Nat → Int32) (v1 : Int32) (v2 : Int32) (f3 : Nat → Int64) (v4 : Int32) (v5 : Int32) (v6 : Int32) (v7 : Int32) (out : Int32 × Int32) (hf : fD_comma n f0 v1 v2 f3 v4 v5 v6 v7 = some out) : xMet l yD_comma wyD_comma 2 0 0 41 D cT aK aV sz [.ref a0] [(a0, .inr (4, [.ref a1, .ref a3, .int v6, .int v7])), (a1, .inr (1, [.ref a2, .int v1, .int v2])), (a2, .inl (cT 0, 4096, .inl f0)), (a3, .inr (2, [.ref a4, .int v4, .int v5])), (a4, .inl (cT 2, 4096, .inr (.inl f3)))] (fun A => va_Qi (fun (r : Int32) (_ : Unit) => r = out.1) (fun _ t => xB D xcl cT A [(a0, .inr (4, [.ref a1, .ref a3, .int out.2, .int v7])), (a1, .inr (1, [.ref a2, .int v1, .int v2])), (a2, .inl (cT 0, 4096, .inl f0)), (a3, .inr (2, [.ref a4, .int v4, .int v5])), (a4, .inl (cT 2, 4096, .inr (.inl f3)))] t) A) := by
  refine Met.ofW (cc := prog_7_method_25_code) (maxL := 2) (ret := (some .boolean)) (by decide) rfl ?_
  intro p e s m args below meth c s₁ B hml hv
  obtain ⟨rfl, hsz, hZ, hP, hK, hD0⟩ := hv
  have hx := B.exec
  have hb := B.bytes
  have hr := B.returns
  have hts := atoms_spec (ws := wyD_comma) B.pre
  have htx := fun w h => hts w (List.mem_cons_of_mem _ h)
  have hown : s.vm.findClass "ValueBench$Reader" = some m.cls := findClass_of_methodNamed B.named
  have hlocks := B.notSynchronized
  subst hsz
  have hD := hD0.self (sz := s.heap.size)
  generalize hAe : va_A [(a0, .inr (4, [.ref a1, .ref a3, .int v6, .int v7])), (a1, .inr (1, [.ref a2, .int v1, .int v2])), (a2, .inl (cT 0, 4096, .inl f0)), (a3, .inr (2, [.ref a4, .int v4, .int v5])), (a4, .inl (cT 2, 4096, .inr (.inl f3)))] s.heap.size = A at hD hZ ⊢
  have hA : ∀ q : Nat, s.heap.size ≤ q → A q := fun q h => by rw [← hAe]; exact Or.inr h
  have hS : va_S A s.heap s.heap [] := va_S.rf
  have hP : va_P D xcl [(a0, .inr (4, [.ref a1, .ref a3, .int v6, .int v7])), (a1, .inr (1, [.ref a2, .int v1, .int v2])), (a2, .inl (cT 0, 4096, .inl f0)), (a3, .inr (2, [.ref a4, .int v4, .int v5])), (a4, .inl (cT 2, 4096, .inr (.inl f3)))] s.heap := hP
  have hl := lv_entry ([.ref a0]) (n := 2) (Nat.le_of_ble_eq_true rfl)
  rw [lg_entry_eq]
  generalize (lg_sl ([.ref a0]) ++ List.replicate (2 - (lg_sl ([.ref a0])).length) Slot.unset).toArray = ls at hl ⊢
  have hl : lv_has ls 2 [(0, .ref a0)] := hl
  unfold fD_comma at hf
  refine lv_aload_n hx hb dD_comma_0 rfl (lv_at hl 0 rfl) ?_
  obtain ⟨o1, hq2, hf⟩ := xbind hf
  obtain ⟨hPc, hDc, hFc⟩ := xcut (wc := [(a0, .inr (4, [.ref a1, .ref a3, .int v6, .int v7])), (a1, .inr (1, [.ref a2, .int v1, .int v2])), (a2, .inl (cT 0, 4096, .inl f0)), (a3, .inr (2, [.ref a4, .int v4, .int v5])), (a4, .inl (cT 2, 4096, .inr (.inl f3)))]) hP hD hS hA [0, 1, 2, 3, 4] rfl rfl (by decide)
  refine va_callv (va_runV (C := "ValueBench$Reader") (As := []) (rest := []) ⟨hx, hb, hml, hown, htx⟩ (gD_skipBlanks l hl9 D cT aK aV s.heap.size n a0 a1 a2 a3 a4 f0 v1 v2 f3 v4 v5 v6 v7 o1 hq2) ⟨callB_of 0 htx (xw_goodC kw_2_53) rfl rfl rfl (htx _ kw_1_16) (htx _ kw_2_50) ⟨by decide, by decide, by decide +kernel⟩ ⟨Nat.le_of_ble_eq_true rfl, Nat.le_of_ble_eq_true rfl⟩, (htx _ kw_2_52), (htx _ kp_D_skipBlanks)⟩ ⟨xPre_blind, va_recv hK hP (ci := 4) rfl (q0 := 0) rfl, (fun U hU hW => ⟨rfl, xPre_of hZ hS hFc hPc hDc hK U hU hW⟩)⟩ rfl rfl hl.1 rfl (lv_room (Nat.le_of_ble_eq_true rfl)) dD_comma_1 ⟨Nat.le_of_ble_eq_true rfl, Nat.le_of_ble_eq_true rfl⟩) hS (fun q _ h => hFc q h) hFc (fun u9 t H1 locs ht hvm hr9 hB hz1 hk1 hS => ?_)
  obtain ⟨hP1, hK1, hD1⟩ := hB
  rw [ht] at hP1
  obtain ⟨hP, hD⟩ := xjoin (W := [(a0, .inr (4, [.ref a1, .ref a3, .int o1, .int v7])), (a1, .inr (1, [.ref a2, .int v1, .int v2])), (a2, .inl (cT 0, 4096, .inl f0)), (a3, .inr (2, [.ref a4, .int v4, .int v5])), (a4, .inl (cT 2, 4096, .inr (.inl f3)))]) hP hD [0, 1, 2, 3, 4] [] 0 rfl rfl (by decide) (by decide) hk1 hFc hP1 hD1
  generalize H1 = H at hP hS ⊢
  refine lv_aload_n hx hb dD_comma_4 rfl (lv_at hl 0 rfl) ?_
  refine va_get (D := D) (ci := 4) (v := .ref a1) (C := "ValueBench$Reader") (T := TD) (N := 4) hx hb htx inD hown hK hP 0 rfl rfl 0 (by decide) (htx _ kw_2_29) (fun _ h9 => h9) rfl dD_comma_5 ?_
  refine lv_aload_n hx hb dD_comma_8 rfl (lv_at hl 0 rfl) ?_
  refine va_get (D := D) (ci := 4) (v := .int o1) (C := "ValueBench$Reader") (T := TD) (N := 4) hx hb htx inD hown hK hP 0 rfl rfl 2 (by decide) (htx _ kw_2_31) (fun _ h9 => h9) rfl dD_comma_9 ?_
  obtain ⟨o3, hq4, hf⟩ := xbind hf
  obtain ⟨hPc, hDc, hFc⟩ := xcut (wc := [(a1, .inr (1, [.ref a2, .int v1, .int v2])), (a2, .inl (cT 0, 4096, .inl f0))]) hP hD hS hA [1, 2] rfl rfl (by decide)
  refine va_calli (va_runV (C := "ValueBench$Text") (As := [.int o1]) (rest := []) ⟨hx, hb, hml, hown, htx⟩ (gT_at l hl9 D cT aK aV H.size n a1 a2 o1 f0 v1 v2 o3 hq4) ⟨callB_of 1 htx (xw_goodC kw_2_58) rfl rfl rfl (htx _ kw_1_2) (htx _ kw_2_55) ⟨by decide, by decide, by decide +kernel⟩ ⟨Nat.le_of_ble_eq_true rfl, Nat.le_of_ble_eq_true rfl⟩, (htx _ kw_2_56), (htx _ kw_2_57)⟩ ⟨xPre_blind, va_recv hK hP (ci := 1) rfl (q0 := 1) rfl, (fun U hU hW => ⟨rfl, xPre_of hZ hS hFc hPc hDc hK U hU hW⟩)⟩ rfl rfl hl.1 rfl (lv_room (Nat.le_of_ble_eq_true rfl)) dD_comma_12 ⟨Nat.le_of_ble_eq_true rfl, Nat.le_of_ble_eq_true rfl⟩) hS (fun q _ h => hFc q h) hFc (fun r5 u9 t H1 locs ht hvm hr9 hB hz1 hk1 hS => ?_)
  obtain ⟨hP1, hK1, hD1⟩ := hB
  rw [ht] at hP1
  obtain ⟨hP, hD⟩ := xjoin (W := [(a0, .inr (4, [.ref a1, .ref a3, .int o1, .int v7])), (a3, .inr (2, [.ref a4, .int v4, .int v5])), (a4, .inl (cT 2, 4096, .inr (.inl f3))), (a1, .inr (1, [.ref a2, .int v1, .int v2])), (a2, .inl (cT 0, 4096, .inl f0))]) hP hD [1, 2] [0, 3, 4] 3 rfl rfl (by decide) (by decide) hk1 hFc hP1 hD1
  generalize H1 = H at hP hS ⊢
  rw [hr9]
  refine W.eq (g2 := F0 m 15 ls [.int o3]) rfl ?_
  refine lv_bipush (v := 44) hx hb dD_comma_15 (by decide) ?_
  refine lv_icmp_ne (tgt := 24) hx hb dD_comma_17 (by decide) (fun hc => ?_) (fun hc => ?_)
  · rw [if_neg hc] at hf
    refine lv_iconst (v := 0) hx hb dD_comma_24 (by decide) ?_
    refine lv_istore_n (lv' := [(1, .int 0), (0, .ref a0)]) hx hb dD_comma_25 rfl hl (by decide) rfl (fun ls hl => ?_)
    refine lv_aload_n hx hb dD_comma_26 rfl (lv_at hl 1 rfl) ?_
    refine lv_dup hx hb dD_comma_27 rfl ?_
    refine va_get (D := D) (ci := 4) (v := .int o1) (C := "ValueBench$Reader") (T := TD) (N := 4) hx hb htx inD hown hK hP 0 rfl rfl 2 (by decide) (htx _ kw_2_31) (fun _ h9 => h9) rfl dD_comma_28 ?_
    refine lv_iload_n hx hb dD_comma_31 rfl (lv_at hl 0 rfl) ?_
    refine lv_if_eq (tgt := 39) hx hb dD_comma_32 (by decide) (fun _ => ?_) (fun h => ((by revert h; decide : False)).elim)
    refine lv_iconst (v := 0) hx hb dD_comma_39 (by decide) ?_
    refine lv_iadd hx hb dD_comma_40 ?_
    refine va_put (D := D) (ci := 4) (v := .int (o1 + (0 : Int32))) (ty := .int) (C := "ValueBench$Reader") (T := TD) (N := 4) hx hb htx inD tyD tyD_ok nmD hown hK hP hD hS 0 rfl rfl 2 (by decide) (htx _ kw_2_31) (fun _ h9 => h9) rfl (by decide +kernel) rfl rfl (Nat.le_of_ble_eq_true rfl) dD_comma_41 (fun H locs hP hD hS => ?_)
    obtain ⟨hP, hD⟩ : xPD D xcl A [(a0, .inr (4, [.ref a1, .ref a3, .int (o1 + (0 : Int32)), .int v7])), (a3, .inr (2, [.ref a4, .int v4, .int v5])), (a4, .inl (cT 2, 4096, .inr (.inl f3))), (a1, .inr (1, [.ref a2, .int v1, .int v2])), (a2, .inl (cT 0, 4096, .inl f0))] H := ⟨hP, hD⟩
    refine lv_iload_n hx hb dD_comma_44 rfl (lv_at hl 0 rfl) ?_
    obtain rfl := Option.some.inj hf
    obtain ⟨hP9, hD9⟩ := xsub (wc := [(a0, .inr (4, [.ref a1, .ref a3, .int (o1 + (0 : Int32)), .int v7])), (a1, .inr (1, [.ref a2, .int v1, .int v2])), (a2, .inl (cT 0, 4096, .inl f0)), (a3, .inr (2, [.ref a4, .int v4, .int v5])), (a4, .inl (cT 2, 4096, .inr (.inl f3)))]) hP hD [0, 3, 4, 1, 2] rfl rfl (by decide)
    exact W.zret (v := (0 : Int32)) hx hb hr rfl (fun t ht hW => ⟨⟨(0 : Int32), (), rfl, rfl, by rw [ht]; exact hP9, va_K.moved hW.alike hK, hD9⟩, hS.F ht⟩) hS.2.2 dD_comma_45
  · rw [if_pos hc] at hf
    refine lv_iconst (v := 1) hx hb dD_comma_20 (by decide) ?_
    refine lv_goto (tgt := 25) hx hb dD_comma_21 (by decide) ?_
    refine lv_istore_n (lv' := [(1, .int 1), (0, .ref a0)]) hx hb dD_comma_25 rfl hl (by decide) rfl (fun ls hl => ?_)
    refine lv_aload_n hx hb dD_comma_26 rfl (lv_at hl 1 rfl) ?_
    refine lv_dup hx hb dD_comma_27 rfl ?_
    refine va_get (D := D) (ci := 4) (v := .int o1) (C := "ValueBench$Reader") (T := TD) (N := 4) hx hb htx inD hown hK hP 0 rfl rfl 2 (by decide) (htx _ kw_2_31) (fun _ h9 => h9) rfl dD_comma_28 ?_
    refine lv_iload_n hx hb dD_comma_31 rfl (lv_at hl 0 rfl) ?_
    refine lv_if_eq (tgt := 39) hx hb dD_comma_32 (by decide) (fun h => ((by revert h; decide : False)).elim) (fun _ => ?_)
    refine lv_iconst (v := 1) hx hb dD_comma_35 (by decide) ?_
    refine lv_goto (tgt := 40) hx hb dD_comma_36 (by decide) ?_
    refine lv_iadd hx hb dD_comma_40 ?_
    refine va_put (D := D) (ci := 4) (v := .int (o1 + (1 : Int32))) (ty := .int) (C := "ValueBench$Reader") (T := TD) (N := 4) hx hb htx inD tyD tyD_ok nmD hown hK hP hD hS 0 rfl rfl 2 (by decide) (htx _ kw_2_31) (fun _ h9 => h9) rfl (by decide +kernel) rfl rfl (Nat.le_of_ble_eq_true rfl) dD_comma_41 (fun H locs hP hD hS => ?_)
    obtain ⟨hP, hD⟩ : xPD D xcl A [(a0, .inr (4, [.ref a1, .ref a3, .int (o1 + (1 : Int32)), .int v7])), (a3, .inr (2, [.ref a4, .int v4, .int v5])), (a4, .inl (cT 2, 4096, .inr (.inl f3))), (a1, .inr (1, [.ref a2, .int v1, .int v2])), (a2, .inl (cT 0, 4096, .inl f0))] H := ⟨hP, hD⟩
    refine lv_iload_n hx hb dD_comma_44 rfl (lv_at hl 0 rfl) ?_
    obtain rfl := Option.some.inj hf
    obtain ⟨hP9, hD9⟩ := xsub (wc := [(a0, .inr (4, [.ref a1, .ref a3, .int (o1 + (1 : Int32)), .int v7])), (a1, .inr (1, [.ref a2, .int v1, .int v2])), (a2, .inl (cT 0, 4096, .inl f0)), (a3, .inr (2, [.ref a4, .int v4, .int v5])), (a4, .inl (cT 2, 4096, .inr (.inl f3)))]) hP hD [0, 3, 4, 1, 2] rfl rfl (by decide)
    exact W.zret (v := (1 : Int32)) hx hb hr rfl (fun t ht hW => ⟨⟨(1 : Int32), (), rfl, rfl, by rw [ht]; exact hP9, va_K.moved hW.alike hK, hD9⟩, hS.F ht⟩) hS.2.2 dD_comma_45
set_option maxHeartbeats 400000000 in
set_option maxRecDepth 100000 in
theorem gD_array (l : Launch) (hl9 : l.stackTraces = false) (D : va_G) (cT : Nat → ClassId) (aK aV : Nat → Nat) (fr lo : Nat) (rec : Int32 → (Nat → Int32) → Int32 → Int32 → (Nat → Int64) → Int32 → Int32 → Int32 → Int32 → Option (Int32 × (Nat → Int64) × Int32 × Int32 × Int32 × Int32)) (hrec : ∀ (sz : Nat) (a0 : Nat) (a1 : Nat) (a2 : Nat) (a3 : Nat) (a4 : Nat) (x1 : Int32) (f0 : Nat → Int32) (v1 : Int32) (v2 : Int32) (f3 : Nat → Int64) (v4 : Int32) (v5 : Int32) (v6 : Int32) (v7 : Int32) (out : Int32 × (Nat → Int64) × Int32 × Int32 × Int32 × Int32), rec x1 f0 v1 v2 f3 v4 v5 v6 v7 = some out → xMet l yD_value wyD_value fr 0 0 lo D cT aK aV sz [.ref a0, .int x1] [(a0, .inr (4, [.ref a1, .ref a3, .int v6, .int v7])), (a1, .inr (1, [.ref a2, .int v1, .int v2])), (a2, .inl (cT 0, 4096, .inl f0)), (a3, .inr (2, [.ref a4, .int v4, .int v5])), (a4, .inl (cT 2, 4096, .inr (.inl f3)))] (fun A => va_Qi (fun (r : Int32) (_ : Unit) => r = out.1) (fun _ t => xB D xcl cT A [(a0, .inr (4, [.ref a1, .ref a3, .int out.2.2.2.2.1, .int out.2.2.2.2.2])), (a1, .inr (1, [.ref a2, .int v1, .int v2])), (a2, .inl (cT 0, 4096, .inl f0)), (a3, .inr (2, [.ref a4, .int out.2.2.1, .int out.2.2.2.1])), (a4, .inl (cT 2, 4096, .inr (.inl out.2.1)))] t) A)) (sz n : Nat) (a0 : Nat) (a1 : Nat) (a2 : Nat) (a3 : Nat) (a4 : Nat) (x1 : Int32) (f0 : Nat → Int32) (v1 : Int32) (v2 : Int32) (f3 : Nat → Int64) (v4 : Int32) (v5 : Int32) (v6 : Int32) (v7 : Int32) (out : Int32 × (Nat → Int64) × Int32 × Int32 × Int32 × Int32) (hf : fD_array rec n x1 f0 v1 v2 f3 v4 v5 v6 v7 = some out) : xMet l yD_array wyD_array (fr + 3) 0 0 (lo + 62) D cT aK aV sz [.ref a0, .int x1] [(a0, .inr (4, [.ref a1, .ref a3, .int v6, .int v7])), (a1, .inr (1, [.ref a2, .int v1, .int v2])), (a2, .inl (cT 0, 4096, .inl f0)), (a3, .inr (2, [.ref a4, .int v4, .int v5])), (a4, .inl (cT 2, 4096, .inr (.inl f3)))] (fun A => va_Qi (fun (r : Int32) (_ : Unit) => r = out.1) (fun _ t => xB D xcl cT A [(a0, .inr (4, [.ref a1, .ref a3, .int out.2.2.2.2.1, .int out.2.2.2.2.2])), (a1, .inr (1, [.ref a2, .int v1, .int v2])), (a2, .inl (cT 0, 4096, .inl f0)), (a3, .inr (2, [.ref a4, .int out.2.2.1, .int out.2.2.2.1])), (a4, .inl (cT 2, 4096, .inr (.inl out.2.1)))] t) A) := by
  refine Met.ofW (cc := prog_7_method_21_code) (maxL := 5) (ret := (some .boolean)) (by decide) rfl ?_
  intro p e s m args below meth c s₁ B hml hv
  obtain ⟨rfl, hsz, hZ, hP, hK, hD0⟩ := hv
  have hx := B.exec
  have hb := B.bytes
  have hr := B.returns
  have hts := atoms_spec (ws := wyD_array) B.pre
  have htx := fun w h => hts w (List.mem_cons_of_mem _ h)
  have hown : s.vm.findClass "ValueBench$Reader" = some m.cls := findClass_of_methodNamed B.named
  have hlocks := B.notSynchronized
  subst hsz
  have hD := hD0.self (sz := s.heap.size)
  generalize hAe : va_A [(a0, .inr (4, [.ref a1, .ref a3, .int v6, .int v7])), (a1, .inr (1, [.ref a2, .int v1, .int v2])), (a2, .inl (cT 0, 4096, .inl f0)), (a3, .inr (2, [.ref a4, .int v4, .int v5])), (a4, .inl (cT 2, 4096, .inr (.inl f3)))] s.heap.size = A at hD hZ ⊢
  have hA : ∀ q : Nat, s.heap.size ≤ q → A q := fun q h => by rw [← hAe]; exact Or.inr h
  have hS : va_S A s.heap s.heap [] := va_S.rf
  have hP : va_P D xcl [(a0, .inr (4, [.ref a1, .ref a3, .int v6, .int v7])), (a1, .inr (1, [.ref a2, .int v1, .int v2])), (a2, .inl (cT 0, 4096, .inl f0)), (a3, .inr (2, [.ref a4, .int v4, .int v5])), (a4, .inl (cT 2, 4096, .inr (.inl f3)))] s.heap := hP
  have hl := lv_entry ([.ref a0, .int x1]) (n := 5) (Nat.le_of_ble_eq_true rfl)
  rw [lg_entry_eq]
  generalize (lg_sl ([.ref a0, .int x1]) ++ List.replicate (5 - (lg_sl ([.ref a0, .int x1])).length) Slot.unset).toArray = ls at hl ⊢
  have hl : lv_has ls 5 [(0, .ref a0), (1, .int x1)] := hl
  unfold fD_array at hf
  refine xloopK (σ := Nat × Int32 × Int32 × Int32 × Int32 × (Nat → Int64) × Int32 × Int32 × Int32 × Int32) (fun n x H locs ls => (x.1 = 1 ∧ fD_array_b rec f0 v1 v2 n x.1 x.2.1 x.2.2.1 x.2.2.2.1 x.2.2.2.2.1 x.2.2.2.2.2.1 x.2.2.2.2.2.2.1 x.2.2.2.2.2.2.2.1 x.2.2.2.2.2.2.2.2.1 x.2.2.2.2.2.2.2.2.2 = some out ∧ va_P D xcl [(a0, .inr (4, [.ref a1, .ref a3, .int x.2.2.2.2.2.2.2.2.1, .int x.2.2.2.2.2.2.2.2.2])), (a1, .inr (1, [.ref a2, .int v1, .int v2])), (a2, .inl (cT 0, 4096, .inl f0)), (a3, .inr (2, [.ref a4, .int x.2.2.2.2.2.2.1, .int x.2.2.2.2.2.2.2.1])), (a4, .inl (cT 2, 4096, .inr (.inl x.2.2.2.2.2.1)))] H ∧ va_D A [(a0, .inr (4, [.ref a1, .ref a3, .int x.2.2.2.2.2.2.2.2.1, .int x.2.2.2.2.2.2.2.2.2])), (a1, .inr (1, [.ref a2, .int v1, .int v2])), (a2, .inl (cT 0, 4096, .inl f0)), (a3, .inr (2, [.ref a4, .int x.2.2.2.2.2.2.1, .int x.2.2.2.2.2.2.2.1])), (a4, .inl (cT 2, 4096, .inr (.inl x.2.2.2.2.2.1)))] ∧ va_S A s.heap H locs ∧ lv_has ls 5 [(4, .int x.2.1), (3, .int x.2.2.1), (2, .int x.2.2.2.1), (0, .ref a0), (1, .int x.2.2.2.2.1)])) (fun x => 47) (fun x H locs ls h => by exact absurd h.2.1 (by rw [fD_array_b]; exact fun h => nomatch h)) (fun n ih x H locs ls hv => ?_) (fun key => ?_)
  · obtain ⟨lb, y4, y3, y2, y1, w0, w1, w2, w3, w4⟩ := x
    rcases hv with ⟨hj, hf, hP, hD, hS, hl⟩
    subst hj
    have hf : fD_array_b rec f0 v1 v2 (n + 1) 1 y4 y3 y2 y1 w0 w1 w2 w3 w4 = some out := hf
    rw [fD_array_b] at hf
    obtain ⟨hP, hD⟩ : xPD D xcl A [(a0, .inr (4, [.ref a1, .ref a3, .int w3, .int w4])), (a1, .inr (1, [.ref a2, .int v1, .int v2])), (a2, .inl (cT 0, 4096, .inl f0)), (a3, .inr (2, [.ref a4, .int w1, .int w2])), (a4, .inl (cT 2, 4096, .inr (.inl w0)))] H := ⟨hP, hD⟩
    have hl : lv_has ls 5 [(4, .int y4), (3, .int y3), (2, .int y2), (0, .ref a0), (1, .int y1)] := hl
    refine W.eq (g2 := F0 m 47 ls []) rfl ?_
    refine lv_iload hx hb dD_array_47 (lv_at hl 0 rfl) ?_
    refine lv_if_eq (tgt := 83) hx hb dD_array_49 (by decide) (fun hc => ?_) (fun hc => ?_)
    · rw [if_pos hc] at hf
      refine lv_aload_n hx hb dD_array_83 rfl (lv_at hl 3 rfl) ?_
      refine va_get (D := D) (ci := 4) (v := .ref a3) (C := "ValueBench$Reader") (T := TD) (N := 4) hx hb htx inD hown hK hP 0 rfl rfl 1 (by decide) (htx _ kw_2_30) (fun _ h9 => h9) rfl dD_array_84 ?_
      refine lv_iload_n hx hb dD_array_87 rfl (lv_at hl 2 rfl) ?_
      refine lv_iconst (v := 5) hx hb dD_array_88 (by decide) ?_
      refine lv_iload_n hx hb dD_array_89 rfl (lv_at hl 1 rfl) ?_
      obtain ⟨o1, hq2, hf⟩ := xbind hf
      obtain ⟨hPc, hDc, hFc⟩ := xcut (wc := [(a3, .inr (2, [.ref a4, .int w1, .int w2])), (a4, .inl (cT 2, 4096, .inr (.inl w0)))]) hP hD hS hA [3, 4] rfl rfl (by decide)
      refine va_callv (va_runV (C := "ValueBench$Row") (As := [.int y2, .int 5, .int y3]) (rest := []) ⟨hx, hb, hml, hown, htx⟩ (gR_close l hl9 D cT aK aV H.size n a3 a4 y2 (5 : Int32) y3 w0 w1 w2 o1 hq2) ⟨callB_of 3 htx (xw_goodC kw_2_167) rfl rfl rfl (htx _ kw_1_4) (htx _ kw_2_164) ⟨by decide, by decide, by decide +kernel⟩ ⟨Nat.le_of_ble_eq_true rfl, Nat.le_of_ble_eq_true rfl⟩, (htx _ kw_2_165), (htx _ kw_2_166)⟩ ⟨xPre_blind, va_recv hK hP (ci := 2) rfl (q0 := 3) rfl, (fun U hU hW => ⟨rfl, xPre_of hZ hS hFc hPc hDc hK U hU hW⟩)⟩ rfl rfl hl.1 rfl (lv_room (Nat.le_of_ble_eq_true rfl)) dD_array_90 ⟨Nat.le_of_ble_eq_true rfl, Nat.le_of_ble_eq_true rfl⟩) hS (fun q _ h => hFc q h) hFc (fun u9 t H1 locs ht hvm hr9 hB hz1 hk1 hS => ?_)
      obtain ⟨hP1, hK1, hD1⟩ := hB
      rw [ht] at hP1
      obtain ⟨hP, hD⟩ := xjoin (W := [(a0, .inr (4, [.ref a1, .ref a3, .int w3, .int w4])), (a1, .inr (1, [.ref a2, .int v1, .int v2])), (a2, .inl (cT 0, 4096, .inl f0)), (a3, .inr (2, [.ref a4, .int w1, .int w2])), (a4, .inl (cT 2, 4096, .inr (.inl o1)))]) hP hD [3, 4] [0, 1, 2] 3 rfl rfl (by decide) (by decide) hk1 hFc hP1 hD1
      generalize H1 = H at hP hS ⊢
      refine lv_aload_n hx hb dD_array_93 rfl (lv_at hl 3 rfl) ?_
      refine lv_bipush (v := 93) hx hb dD_array_94 (by decide) ?_
      obtain ⟨o3, hq4, hf⟩ := xbind hf
      obtain ⟨hPc, hDc, hFc⟩ := xcut (wc := [(a0, .inr (4, [.ref a1, .ref a3, .int w3, .int w4])), (a1, .inr (1, [.ref a2, .int v1, .int v2])), (a2, .inl (cT 0, 4096, .inl f0)), (a3, .inr (2, [.ref a4, .int w1, .int w2])), (a4, .inl (cT 2, 4096, .inr (.inl o1)))]) hP hD hS hA [0, 1, 2, 3, 4] rfl rfl (by decide)
      refine va_calli (va_runV (C := "ValueBench$Reader") (As := [.int 93]) (rest := []) ⟨hx, hb, hml, hown, htx⟩ (gD_take l hl9 D cT aK aV H.size n a0 a1 a2 a3 a4 (93 : Int32) f0 v1 v2 o1 w1 w2 w3 w4 o3 hq4) ⟨callB_of 1 htx (xw_goodC kw_2_118) rfl rfl rfl (htx _ kw_1_16) (htx _ kw_2_115) ⟨by decide, by decide, by decide +kernel⟩ ⟨Nat.le_of_ble_eq_true rfl, Nat.le_of_ble_eq_true rfl⟩, (htx _ kw_2_117), (htx _ kp_D_take)⟩ ⟨xPre_blind, va_recv hK hP (ci := 4) rfl (q0 := 0) rfl, (fun U hU hW => ⟨rfl, xPre_of hZ hS hFc hPc hDc hK U hU hW⟩)⟩ rfl rfl hl.1 rfl (lv_room (Nat.le_of_ble_eq_true rfl)) dD_array_96 ⟨Nat.le_of_ble_eq_true rfl, Nat.le_of_ble_eq_true rfl⟩) hS (fun q _ h => hFc q h) hFc (fun r5 u9 t H1 locs ht hvm hr9 hB hz1 hk1 hS => ?_)
      obtain ⟨hP1, hK1, hD1⟩ := hB
      rw [ht] at hP1
      obtain ⟨hP, hD⟩ := xjoin (W := [(a0, .inr (4, [.ref a1, .ref a3, .int o3.2.1, .int o3.2.2])), (a1, .inr (1, [.ref a2, .int v1, .int v2])), (a2, .inl (cT 0, 4096, .inl f0)), (a3, .inr (2, [.ref a4, .int w1, .int w2])), (a4, .inl (cT 2, 4096, .inr (.inl o1)))]) hP hD [0, 1, 2, 3, 4] [] 0 rfl rfl (by decide) (by decide) hk1 hFc hP1 hD1
      generalize H1 = H at hP hS ⊢
      rw [hr9]
      refine W.eq (g2 := F0 m 99 ls [.int o3.1]) rfl ?_
      obtain ⟨hg6, hf⟩ := xifn hf
      obtain rfl := Option.some.inj hf
      obtain ⟨hP9, hD9⟩ := xsub (wc := [(a0, .inr (4, [.ref a1, .ref a3, .int o3.2.1, .int o3.2.2])), (a1, .inr (1, [.ref a2, .int v1, .int v2])), (a2, .inl (cT 0, 4096, .inl f0)), (a3, .inr (2, [.ref a4, .int w1, .int w2])), (a4, .inl (cT 2, 4096, .inr (.inl o1)))]) hP hD [0, 1, 2, 3, 4] rfl rfl (by decide)
      exact W.zret (v := o3.1) hx hb hr (xzb hg6) (fun t ht hW => ⟨⟨o3.1, (), rfl, rfl, by rw [ht]; exact hP9, va_K.moved hW.alike hK, hD9⟩, hS.F ht⟩) hS.2.2 dD_array_99
    · rw [if_neg hc] at hf
      refine lv_iload_n hx hb dD_array_52 rfl (lv_at hl 1 rfl) ?_
      refine lv_sipush (v := 4096) hx hb dD_array_53 (by decide) ?_
      refine lv_icmp_ge (tgt := 83) hx hb dD_array_56 (by decide) (fun hc => ?_) (fun hc => ?_)
      · rw [if_pos hc] at hf
        refine lv_aload_n hx hb dD_array_83 rfl (lv_at hl 3 rfl) ?_
        refine va_get (D := D) (ci := 4) (v := .ref a3) (C := "ValueBench$Reader") (T := TD) (N := 4) hx hb htx inD hown hK hP 0 rfl rfl 1 (by decide) (htx _ kw_2_30) (fun _ h9 => h9) rfl dD_array_84 ?_
        refine lv_iload_n hx hb dD_array_87 rfl (lv_at hl 2 rfl) ?_
        refine lv_iconst (v := 5) hx hb dD_array_88 (by decide) ?_
        refine lv_iload_n hx hb dD_array_89 rfl (lv_at hl 1 rfl) ?_
        obtain ⟨o1, hq2, hf⟩ := xbind hf
        obtain ⟨hPc, hDc, hFc⟩ := xcut (wc := [(a3, .inr (2, [.ref a4, .int w1, .int w2])), (a4, .inl (cT 2, 4096, .inr (.inl w0)))]) hP hD hS hA [3, 4] rfl rfl (by decide)
        refine va_callv (va_runV (C := "ValueBench$Row") (As := [.int y2, .int 5, .int y3]) (rest := []) ⟨hx, hb, hml, hown, htx⟩ (gR_close l hl9 D cT aK aV H.size n a3 a4 y2 (5 : Int32) y3 w0 w1 w2 o1 hq2) ⟨callB_of 3 htx (xw_goodC kw_2_167) rfl rfl rfl (htx _ kw_1_4) (htx _ kw_2_164) ⟨by decide, by decide, by decide +kernel⟩ ⟨Nat.le_of_ble_eq_true rfl, Nat.le_of_ble_eq_true rfl⟩, (htx _ kw_2_165), (htx _ kw_2_166)⟩ ⟨xPre_blind, va_recv hK hP (ci := 2) rfl (q0 := 3) rfl, (fun U hU hW => ⟨rfl, xPre_of hZ hS hFc hPc hDc hK U hU hW⟩)⟩ rfl rfl hl.1 rfl (lv_room (Nat.le_of_ble_eq_true rfl)) dD_array_90 ⟨Nat.le_of_ble_eq_true rfl, Nat.le_of_ble_eq_true rfl⟩) hS (fun q _ h => hFc q h) hFc (fun u9 t H1 locs ht hvm hr9 hB hz1 hk1 hS => ?_)
        obtain ⟨hP1, hK1, hD1⟩ := hB
        rw [ht] at hP1
        obtain ⟨hP, hD⟩ := xjoin (W := [(a0, .inr (4, [.ref a1, .ref a3, .int w3, .int w4])), (a1, .inr (1, [.ref a2, .int v1, .int v2])), (a2, .inl (cT 0, 4096, .inl f0)), (a3, .inr (2, [.ref a4, .int w1, .int w2])), (a4, .inl (cT 2, 4096, .inr (.inl o1)))]) hP hD [3, 4] [0, 1, 2] 3 rfl rfl (by decide) (by decide) hk1 hFc hP1 hD1
        generalize H1 = H at hP hS ⊢
        refine lv_aload_n hx hb dD_array_93 rfl (lv_at hl 3 rfl) ?_
        refine lv_bipush (v := 93) hx hb dD_array_94 (by decide) ?_
        obtain ⟨o3, hq4, hf⟩ := xbind hf
        obtain ⟨hPc, hDc, hFc⟩ := xcut (wc := [(a0, .inr (4, [.ref a1, .ref a3, .int w3, .int w4])), (a1, .inr (1, [.ref a2, .int v1, .int v2])), (a2, .inl (cT 0, 4096, .inl f0)), (a3, .inr (2, [.ref a4, .int w1, .int w2])), (a4, .inl (cT 2, 4096, .inr (.inl o1)))]) hP hD hS hA [0, 1, 2, 3, 4] rfl rfl (by decide)
        refine va_calli (va_runV (C := "ValueBench$Reader") (As := [.int 93]) (rest := []) ⟨hx, hb, hml, hown, htx⟩ (gD_take l hl9 D cT aK aV H.size n a0 a1 a2 a3 a4 (93 : Int32) f0 v1 v2 o1 w1 w2 w3 w4 o3 hq4) ⟨callB_of 1 htx (xw_goodC kw_2_118) rfl rfl rfl (htx _ kw_1_16) (htx _ kw_2_115) ⟨by decide, by decide, by decide +kernel⟩ ⟨Nat.le_of_ble_eq_true rfl, Nat.le_of_ble_eq_true rfl⟩, (htx _ kw_2_117), (htx _ kp_D_take)⟩ ⟨xPre_blind, va_recv hK hP (ci := 4) rfl (q0 := 0) rfl, (fun U hU hW => ⟨rfl, xPre_of hZ hS hFc hPc hDc hK U hU hW⟩)⟩ rfl rfl hl.1 rfl (lv_room (Nat.le_of_ble_eq_true rfl)) dD_array_96 ⟨Nat.le_of_ble_eq_true rfl, Nat.le_of_ble_eq_true rfl⟩) hS (fun q _ h => hFc q h) hFc (fun r5 u9 t H1 locs ht hvm hr9 hB hz1 hk1 hS => ?_)
        obtain ⟨hP1, hK1, hD1⟩ := hB
        rw [ht] at hP1
        obtain ⟨hP, hD⟩ := xjoin (W := [(a0, .inr (4, [.ref a1, .ref a3, .int o3.2.1, .int o3.2.2])), (a1, .inr (1, [.ref a2, .int v1, .int v2])), (a2, .inl (cT 0, 4096, .inl f0)), (a3, .inr (2, [.ref a4, .int w1, .int w2])), (a4, .inl (cT 2, 4096, .inr (.inl o1)))]) hP hD [0, 1, 2, 3, 4] [] 0 rfl rfl (by decide) (by decide) hk1 hFc hP1 hD1
        generalize H1 = H at hP hS ⊢
        rw [hr9]
        refine W.eq (g2 := F0 m 99 ls [.int o3.1]) rfl ?_
        obtain ⟨hg6, hf⟩ := xifn hf
        obtain rfl := Option.some.inj hf
        obtain ⟨hP9, hD9⟩ := xsub (wc := [(a0, .inr (4, [.ref a1, .ref a3, .int o3.2.1, .int o3.2.2])), (a1, .inr (1, [.ref a2, .int v1, .int v2])), (a2, .inl (cT 0, 4096, .inl f0)), (a3, .inr (2, [.ref a4, .int w1, .int w2])), (a4, .inl (cT 2, 4096, .inr (.inl o1)))]) hP hD [0, 1, 2, 3, 4] rfl rfl (by decide)
        exact W.zret (v := o3.1) hx hb hr (xzb hg6) (fun t ht hW => ⟨⟨o3.1, (), rfl, rfl, by rw [ht]; exact hP9, va_K.moved hW.alike hK, hD9⟩, hS.F ht⟩) hS.2.2 dD_array_99
      · rw [if_neg hc] at hf
        refine lv_aload_n hx hb dD_array_59 rfl (lv_at hl 3 rfl) ?_
        refine lv_iload_n hx hb dD_array_60 rfl (lv_at hl 4 rfl) ?_
        refine lv_iconst (v := 1) hx hb dD_array_61 (by decide) ?_
        refine lv_iadd hx hb dD_array_62 ?_
        obtain ⟨o1, hq2, hf⟩ := xbind hf
        obtain ⟨hPc, hDc, hFc⟩ := xcut (wc := [(a0, .inr (4, [.ref a1, .ref a3, .int w3, .int w4])), (a1, .inr (1, [.ref a2, .int v1, .int v2])), (a2, .inl (cT 0, 4096, .inl f0)), (a3, .inr (2, [.ref a4, .int w1, .int w2])), (a4, .inl (cT 2, 4096, .inr (.inl w0)))]) hP hD hS hA [0, 1, 2, 3, 4] rfl rfl (by decide)
        refine va_calli (va_runV (C := "ValueBench$Reader") (As := [.int (y1 + (1 : Int32))]) (rest := []) ⟨hx, hb, hml, hown, htx⟩ (hrec H.size a0 a1 a2 a3 a4 (y1 + (1 : Int32)) f0 v1 v2 w0 w1 w2 w3 w4 o1 hq2) ⟨callB_of 1 htx (xw_goodC kw_2_49) rfl rfl rfl (htx _ kw_1_16) (htx _ kw_2_46) ⟨by decide, by decide, by decide +kernel⟩ ⟨(by show (fr) + 1 ≤ fr + 3; omega), (by show 8 + (2 + 11) + (lo) ≤ lo + 62; omega)⟩, (htx _ kw_2_48), (htx _ kp_D_value)⟩ ⟨xPre_blind, va_recv hK hP (ci := 4) rfl (q0 := 0) rfl, (fun U hU hW => ⟨rfl, xPre_of hZ hS hFc hPc hDc hK U hU hW⟩)⟩ rfl rfl hl.1 rfl (lv_room (Nat.le_of_ble_eq_true rfl)) dD_array_63 ⟨Nat.le_of_ble_eq_true rfl, Nat.le_of_ble_eq_true rfl⟩) hS (fun q _ h => hFc q h) hFc (fun r3 u9 t H1 locs ht hvm hr9 hB hz1 hk1 hS => ?_)
        obtain ⟨hP1, hK1, hD1⟩ := hB
        rw [ht] at hP1
        obtain ⟨hP, hD⟩ := xjoin (W := [(a0, .inr (4, [.ref a1, .ref a3, .int o1.2.2.2.2.1, .int o1.2.2.2.2.2])), (a1, .inr (1, [.ref a2, .int v1, .int v2])), (a2, .inl (cT 0, 4096, .inl f0)), (a3, .inr (2, [.ref a4, .int o1.2.2.1, .int o1.2.2.2.1])), (a4, .inl (cT 2, 4096, .inr (.inl o1.2.1)))]) hP hD [0, 1, 2, 3, 4] [] 0 rfl rfl (by decide) (by decide) hk1 hFc hP1 hD1
        generalize H1 = H at hP hS ⊢
        rw [hr9]
        refine W.eq (g2 := F0 m 66 ls [.int o1.1]) rfl ?_
        refine lv_if_ne (tgt := 71) hx hb dD_array_66 (by decide) (fun hc => ?_) (fun hc => ?_)
        · rw [if_neg hc] at hf
          refine lv_iinc (v := (y3 + 1)) (lv' := [(3, .int (y3 + 1)), (4, .int y4), (2, .int y2), (0, .ref a0), (1, .int y1)]) hx hb dD_array_71 hl (k := 1) rfl rfl (by decide) rfl (fun ls hl => ?_)
          refine lv_aload_n hx hb dD_array_74 rfl (lv_at hl 3 rfl) ?_
          obtain ⟨o4, hq5, hf⟩ := xbind hf
          obtain ⟨hPc, hDc, hFc⟩ := xcut (wc := [(a0, .inr (4, [.ref a1, .ref a3, .int o1.2.2.2.2.1, .int o1.2.2.2.2.2])), (a1, .inr (1, [.ref a2, .int v1, .int v2])), (a2, .inl (cT 0, 4096, .inl f0)), (a3, .inr (2, [.ref a4, .int o1.2.2.1, .int o1.2.2.2.1])), (a4, .inl (cT 2, 4096, .inr (.inl o1.2.1)))]) hP hD hS hA [0, 1, 2, 3, 4] rfl rfl (by decide)
          refine va_calli (va_runV (C := "ValueBench$Reader") (As := []) (rest := []) ⟨hx, hb, hml, hown, htx⟩ (gD_comma l hl9 D cT aK aV H.size n a0 a1 a2 a3 a4 f0 v1 v2 o1.2.1 o1.2.2.1 o1.2.2.2.1 o1.2.2.2.2.1 o1.2.2.2.2.2 o4 hq5) ⟨callB_of 0 htx (xw_goodC kw_2_175) rfl rfl rfl (htx _ kw_1_16) (htx _ kw_2_172) ⟨by decide, by decide, by decide +kernel⟩ ⟨Nat.le_of_ble_eq_true rfl, Nat.le_of_ble_eq_true rfl⟩, (htx _ kw_2_174), (htx _ kp_D_comma)⟩ ⟨xPre_blind, va_recv hK hP (ci := 4) rfl (q0 := 0) rfl, (fun U hU hW => ⟨rfl, xPre_of hZ hS hFc hPc hDc hK U hU hW⟩)⟩ rfl rfl hl.1 rfl (lv_room (Nat.le_of_ble_eq_true rfl)) dD_array_75 ⟨Nat.le_of_ble_eq_true rfl, Nat.le_of_ble_eq_true rfl⟩) hS (fun q _ h => hFc q h) hFc (fun r6 u9 t H1 locs ht hvm hr9 hB hz1 hk1 hS => ?_)
          obtain ⟨hP1, hK1, hD1⟩ := hB
          rw [ht] at hP1
          obtain ⟨hP, hD⟩ := xjoin (W := [(a0, .inr (4, [.ref a1, .ref a3, .int o4.2, .int o1.2.2.2.2.2])), (a1, .inr (1, [.ref a2, .int v1, .int v2])), (a2, .inl (cT 0, 4096, .inl f0)), (a3, .inr (2, [.ref a4, .int o1.2.2.1, .int o1.2.2.2.1])), (a4, .inl (cT 2, 4096, .inr (.inl o1.2.1)))]) hP hD [0, 1, 2, 3, 4] [] 0 rfl rfl (by decide) (by decide) hk1 hFc hP1 hD1
          generalize H1 = H at hP hS ⊢
          rw [hr9]
          refine W.eq (g2 := F0 m 78 ls [.int o4.1]) rfl ?_
          refine lv_istore (lv' := [(4, .int o4.1), (3, .int (y3 + 1)), (2, .int y2), (0, .ref a0), (1, .int y1)]) hx hb dD_array_78 hl (by decide) rfl (fun ls hl => ?_)
          refine lv_goto (tgt := 47) hx hb dD_array_80 (by decide) ?_
          obtain ⟨hP9, hD9⟩ := xsub (wc := [(a0, .inr (4, [.ref a1, .ref a3, .int o4.2, .int o1.2.2.2.2.2])), (a1, .inr (1, [.ref a2, .int v1, .int v2])), (a2, .inl (cT 0, 4096, .inl f0)), (a3, .inr (2, [.ref a4, .int o1.2.2.1, .int o1.2.2.2.1])), (a4, .inl (cT 2, 4096, .inr (.inl o1.2.1)))]) hP hD [0, 1, 2, 3, 4] rfl rfl (by decide)
          exact ih (1, o4.1, (y3 + 1), y2, y1, o1.2.1, o1.2.2.1, o1.2.2.2.1, o4.2, o1.2.2.2.2.2) _ _ ls (⟨rfl, hf, hP9, hD9, hS, lv_sub hl [0, 1, 2, 3, 4] rfl⟩)
        · rw [if_pos hc] at hf
          refine lv_iconst (v := 0) hx hb dD_array_69 (by decide) ?_
          obtain rfl := Option.some.inj hf
          obtain ⟨hP9, hD9⟩ := xsub (wc := [(a0, .inr (4, [.ref a1, .ref a3, .int o1.2.2.2.2.1, .int o1.2.2.2.2.2])), (a1, .inr (1, [.ref a2, .int v1, .int v2])), (a2, .inl (cT 0, 4096, .inl f0)), (a3, .inr (2, [.ref a4, .int o1.2.2.1, .int o1.2.2.2.1])), (a4, .inl (cT 2, 4096, .inr (.inl o1.2.1)))]) hP hD [0, 1, 2, 3, 4] rfl rfl (by decide)
          exact W.zret (v := (0 : Int32)) hx hb hr rfl (fun t ht hW => ⟨⟨(0 : Int32), (), rfl, rfl, by rw [ht]; exact hP9, va_K.moved hW.alike hK, hD9⟩, hS.F ht⟩) hS.2.2 dD_array_70
  refine lv_aload_n hx hb dD_array_0 rfl (lv_at hl 0 rfl) ?_
  refine va_get (D := D) (ci := 4) (v := .ref a3) (C := "ValueBench$Reader") (T := TD) (N := 4) hx hb htx inD hown hK hP 0 rfl rfl 1 (by decide) (htx _ kw_2_30) (fun _ h9 => h9) rfl dD_array_1 ?_
  obtain ⟨o1, hq2, hf⟩ := xbind hf
  obtain ⟨hPc, hDc, hFc⟩ := xcut (wc := [(a3, .inr (2, [.ref a4, .int v4, .int v5])), (a4, .inl (cT 2, 4096, .inr (.inl f3)))]) hP hD hS hA [3, 4] rfl rfl (by decide)
  refine va_calli (va_runV (C := "ValueBench$Row") (As := []) (rest := []) ⟨hx, hb, hml, hown, htx⟩ (gR_open l hl9 D cT aK aV s.heap.size n a3 a4 f3 v4 v5 o1 hq2) ⟨callB_of 0 htx (xw_goodC kw_2_136) rfl rfl rfl (htx _ kw_1_4) (htx _ kw_2_133) ⟨by decide, by decide, by decide +kernel⟩ ⟨Nat.le_of_ble_eq_true rfl, Nat.le_of_ble_eq_true rfl⟩, (htx _ kw_2_134), (htx _ kw_2_135)⟩ ⟨xPre_blind, va_recv hK hP (ci := 2) rfl (q0 := 3) rfl, (fun U hU hW => ⟨rfl, xPre_of hZ hS hFc hPc hDc hK U hU hW⟩)⟩ rfl rfl hl.1 rfl (lv_room (Nat.le_of_ble_eq_true rfl)) dD_array_4 ⟨Nat.le_of_ble_eq_true rfl, Nat.le_of_ble_eq_true rfl⟩) hS (fun q _ h => hFc q h) hFc (fun r3 u9 t H1 locs ht hvm hr9 hB hz1 hk1 hS => ?_)
  obtain ⟨hP1, hK1, hD1⟩ := hB
  rw [ht] at hP1
  obtain ⟨hP, hD⟩ := xjoin (W := [(a0, .inr (4, [.ref a1, .ref a3, .int v6, .int v7])), (a1, .inr (1, [.ref a2, .int v1, .int v2])), (a2, .inl (cT 0, 4096, .inl f0)), (a3, .inr (2, [.ref a4, .int o1.2.2.1, .int o1.2.2.2])), (a4, .inl (cT 2, 4096, .inr (.inl o1.2.1)))]) hP hD [3, 4] [0, 1, 2] 3 rfl rfl (by decide) (by decide) hk1 hFc hP1 hD1
  generalize H1 = H at hP hS ⊢
  rw [hr9]
  refine W.eq (g2 := F0 m 7 ls [.int o1.1]) rfl ?_
  refine lv_istore_n (lv' := [(2, .int o1.1), (0, .ref a0), (1, .int x1)]) hx hb dD_array_7 rfl hl (by decide) rfl (fun ls hl => ?_)
  refine lv_iconst (v := 0) hx hb dD_array_8 (by decide) ?_
  refine lv_istore_n (lv' := [(3, .int 0), (2, .int o1.1), (0, .ref a0), (1, .int x1)]) hx hb dD_array_9 rfl hl (by decide) rfl (fun ls hl => ?_)
  refine lv_aload_n hx hb dD_array_10 rfl (lv_at hl 2 rfl) ?_
  refine lv_dup hx hb dD_array_11 rfl ?_
  refine va_get (D := D) (ci := 4) (v := .int v6) (C := "ValueBench$Reader") (T := TD) (N := 4) hx hb htx inD hown hK hP 0 rfl rfl 2 (by decide) (htx _ kw_2_31) (fun _ h9 => h9) rfl dD_array_12 ?_
  refine lv_iconst (v := 1) hx hb dD_array_15 (by decide) ?_
  refine lv_iadd hx hb dD_array_16 ?_
  refine va_put (D := D) (ci := 4) (v := .int (v6 + (1 : Int32))) (ty := .int) (C := "ValueBench$Reader") (T := TD) (N := 4) hx hb htx inD tyD tyD_ok nmD hown hK hP hD hS 0 rfl rfl 2 (by decide) (htx _ kw_2_31) (fun _ h9 => h9) rfl (by decide +kernel) rfl rfl (Nat.le_of_ble_eq_true rfl) dD_array_17 (fun H locs hP hD hS => ?_)
  obtain ⟨hP, hD⟩ : xPD D xcl A [(a0, .inr (4, [.ref a1, .ref a3, .int (v6 + (1 : Int32)), .int v7])), (a1, .inr (1, [.ref a2, .int v1, .int v2])), (a2, .inl (cT 0, 4096, .inl f0)), (a3, .inr (2, [.ref a4, .int o1.2.2.1, .int o1.2.2.2])), (a4, .inl (cT 2, 4096, .inr (.inl o1.2.1)))] H := ⟨hP, hD⟩
  refine lv_aload_n hx hb dD_array_20 rfl (lv_at hl 2 rfl) ?_
  obtain ⟨o4, hq5, hf⟩ := xbind hf
  obtain ⟨hPc, hDc, hFc⟩ := xcut (wc := [(a0, .inr (4, [.ref a1, .ref a3, .int (v6 + (1 : Int32)), .int v7])), (a1, .inr (1, [.ref a2, .int v1, .int v2])), (a2, .inl (cT 0, 4096, .inl f0)), (a3, .inr (2, [.ref a4, .int o1.2.2.1, .int o1.2.2.2])), (a4, .inl (cT 2, 4096, .inr (.inl o1.2.1)))]) hP hD hS hA [0, 1, 2, 3, 4] rfl rfl (by decide)
  refine va_callv (va_runV (C := "ValueBench$Reader") (As := []) (rest := []) ⟨hx, hb, hml, hown, htx⟩ (gD_skipBlanks l hl9 D cT aK aV H.size n a0 a1 a2 a3 a4 f0 v1 v2 o1.2.1 o1.2.2.1 o1.2.2.2 (v6 + (1 : Int32)) v7 o4 hq5) ⟨callB_of 0 htx (xw_goodC kw_2_53) rfl rfl rfl (htx _ kw_1_16) (htx _ kw_2_50) ⟨by decide, by decide, by decide +kernel⟩ ⟨Nat.le_of_ble_eq_true rfl, Nat.le_of_ble_eq_true rfl⟩, (htx _ kw_2_52), (htx _ kp_D_skipBlanks)⟩ ⟨xPre_blind, va_recv hK hP (ci := 4) rfl (q0 := 0) rfl, (fun U hU hW => ⟨rfl, xPre_of hZ hS hFc hPc hDc hK U hU hW⟩)⟩ rfl rfl hl.1 rfl (lv_room (Nat.le_of_ble_eq_true rfl)) dD_array_21 ⟨Nat.le_of_ble_eq_true rfl, Nat.le_of_ble_eq_true rfl⟩) hS (fun q _ h => hFc q h) hFc (fun u9 t H1 locs ht hvm hr9 hB hz1 hk1 hS => ?_)
  obtain ⟨hP1, hK1, hD1⟩ := hB
  rw [ht] at hP1
  obtain ⟨hP, hD⟩ := xjoin (W := [(a0, .inr (4, [.ref a1, .ref a3, .int o4, .int v7])), (a1, .inr (1, [.ref a2, .int v1, .int v2])), (a2, .inl (cT 0, 4096, .inl f0)), (a3, .inr (2, [.ref a4, .int o1.2.2.1, .int o1.2.2.2])), (a4, .inl (cT 2, 4096, .inr (.inl o1.2.1)))]) hP hD [0, 1, 2, 3, 4] [] 0 rfl rfl (by decide) (by decide) hk1 hFc hP1 hD1
  generalize H1 = H at hP hS ⊢
  refine lv_aload_n hx hb dD_array_24 rfl (lv_at hl 2 rfl) ?_
  refine va_get (D := D) (ci := 4) (v := .ref a1) (C := "ValueBench$Reader") (T := TD) (N := 4) hx hb htx inD hown hK hP 0 rfl rfl 0 (by decide) (htx _ kw_2_29) (fun _ h9 => h9) rfl dD_array_25 ?_
  refine lv_aload_n hx hb dD_array_28 rfl (lv_at hl 2 rfl) ?_
  refine va_get (D := D) (ci := 4) (v := .int o4) (C := "ValueBench$Reader") (T := TD) (N := 4) hx hb htx inD hown hK hP 0 rfl rfl 2 (by decide) (htx _ kw_2_31) (fun _ h9 => h9) rfl dD_array_29 ?_
  obtain ⟨o6, hq7, hf⟩ := xbind hf
  obtain ⟨hPc, hDc, hFc⟩ := xcut (wc := [(a1, .inr (1, [.ref a2, .int v1, .int v2])), (a2, .inl (cT 0, 4096, .inl f0))]) hP hD hS hA [1, 2] rfl rfl (by decide)
  refine va_calli (va_runV (C := "ValueBench$Text") (As := [.int o4]) (rest := []) ⟨hx, hb, hml, hown, htx⟩ (gT_at l hl9 D cT aK aV H.size n a1 a2 o4 f0 v1 v2 o6 hq7) ⟨callB_of 1 htx (xw_goodC kw_2_58) rfl rfl rfl (htx _ kw_1_2) (htx _ kw_2_55) ⟨by decide, by decide, by decide +kernel⟩ ⟨Nat.le_of_ble_eq_true rfl, Nat.le_of_ble_eq_true rfl⟩, (htx _ kw_2_56), (htx _ kw_2_57)⟩ ⟨xPre_blind, va_recv hK hP (ci := 1) rfl (q0 := 1) rfl, (fun U hU hW => ⟨rfl, xPre_of hZ hS hFc hPc hDc hK U hU hW⟩)⟩ rfl rfl hl.1 rfl (lv_room (Nat.le_of_ble_eq_true rfl)) dD_array_32 ⟨Nat.le_of_ble_eq_true rfl, Nat.le_of_ble_eq_true rfl⟩) hS (fun q _ h => hFc q h) hFc (fun r8 u9 t H1 locs ht hvm hr9 hB hz1 hk1 hS => ?_)
  obtain ⟨hP1, hK1, hD1⟩ := hB
  rw [ht] at hP1
  obtain ⟨hP, hD⟩ := xjoin (W := [(a0, .inr (4, [.ref a1, .ref a3, .int o4, .int v7])), (a3, .inr (2, [.ref a4, .int o1.2.2.1, .int o1.2.2.2])), (a4, .inl (cT 2, 4096, .inr (.inl o1.2.1))), (a1, .inr (1, [.ref a2, .int v1, .int v2])), (a2, .inl (cT 0, 4096, .inl f0))]) hP hD [1, 2] [0, 3, 4] 3 rfl rfl (by decide) (by decide) hk1 hFc hP1 hD1
  generalize H1 = H at hP hS ⊢
  rw [hr9]
  refine W.eq (g2 := F0 m 35 ls [.int o6]) rfl ?_
  refine lv_bipush (v := 93) hx hb dD_array_35 (by decide) ?_
  refine lv_icmp_eq (tgt := 44) hx hb dD_array_37 (by decide) (fun hc => ?_) (fun hc => ?_)
  · rw [if_pos hc] at hf
    refine lv_iconst (v := 0) hx hb dD_array_44 (by decide) ?_
    refine lv_istore (lv' := [(4, .int 0), (3, .int 0), (2, .int o1.1), (0, .ref a0), (1, .int x1)]) hx hb dD_array_45 hl (by decide) rfl (fun ls hl => ?_)
    obtain ⟨hP9, hD9⟩ := xsub (wc := [(a0, .inr (4, [.ref a1, .ref a3, .int o4, .int v7])), (a1, .inr (1, [.ref a2, .int v1, .int v2])), (a2, .inl (cT 0, 4096, .inl f0)), (a3, .inr (2, [.ref a4, .int o1.2.2.1, .int o1.2.2.2])), (a4, .inl (cT 2, 4096, .inr (.inl o1.2.1)))]) hP hD [0, 3, 4, 1, 2] rfl rfl (by decide)
    exact key n (1, 0, 0, o1.1, x1, o1.2.1, o1.2.2.1, o1.2.2.2, o4, v7) _ _ ls (⟨rfl, hf, hP9, hD9, hS, lv_sub hl [0, 1, 2, 3, 4] rfl⟩)
  · rw [if_neg hc] at hf
    refine lv_iconst (v := 1) hx hb dD_array_40 (by decide) ?_
    refine lv_goto (tgt := 45) hx hb dD_array_41 (by decide) ?_
    refine lv_istore (lv' := [(4, .int 1), (3, .int 0), (2, .int o1.1), (0, .ref a0), (1, .int x1)]) hx hb dD_array_45 hl (by decide) rfl (fun ls hl => ?_)
    obtain ⟨hP9, hD9⟩ := xsub (wc := [(a0, .inr (4, [.ref a1, .ref a3, .int o4, .int v7])), (a1, .inr (1, [.ref a2, .int v1, .int v2])), (a2, .inl (cT 0, 4096, .inl f0)), (a3, .inr (2, [.ref a4, .int o1.2.2.1, .int o1.2.2.2])), (a4, .inl (cT 2, 4096, .inr (.inl o1.2.1)))]) hP hD [0, 3, 4, 1, 2] rfl rfl (by decide)
    exact key n (1, 1, 0, o1.1, x1, o1.2.1, o1.2.2.1, o1.2.2.2, o4, v7) _ _ ls (⟨rfl, hf, hP9, hD9, hS, lv_sub hl [0, 1, 2, 3, 4] rfl⟩)
set_option maxHeartbeats 400000000 in
set_option maxRecDepth 100000 in
theorem gD_letters (l : Launch) (hl9 : l.stackTraces = false) (D : va_G) (cT : Nat → ClassId) (aK aV : Nat → Nat) (sz n : Nat) (a0 : Nat) (a1 : Nat) (a2 : Nat) (a3 : Nat) (a4 : Nat) (x2 : Int32) (f0 : Nat → Int32) (v1 : Int32) (v2 : Int32) (f3 : Nat → Int64) (v4 : Int32) (v5 : Int32) (v6 : Int32) (v7 : Int32) (out : Int32 × (Nat → Int64) × Int32 × Int32 × Int32 × Int32) (hf : fD_letters n x2 f0 v1 v2 f3 v4 v5 v6 v7 = some out) : xMet l yD_letters wyD_letters 4 0 0 85 D cT aK aV sz [.ref a0, .ref (aK 11), .int x2] [(a0, .inr (4, [.ref a1, .ref a3, .int v6, .int v7])), (a1, .inr (1, [.ref a2, .int v1, .int v2])), (a2, .inl (cT 0, 4096, .inl f0)), (a3, .inr (2, [.ref a4, .int v4, .int v5])), (a4, .inl (cT 2, 4096, .inr (.inl f3)))] (fun A => va_Qi (fun (r : Int32) (_ : Unit) => r = out.1) (fun _ t => xB D xcl cT A [(a0, .inr (4, [.ref a1, .ref a3, .int out.2.2.2.2.1, .int out.2.2.2.2.2])), (a1, .inr (1, [.ref a2, .int v1, .int v2])), (a2, .inl (cT 0, 4096, .inl f0)), (a3, .inr (2, [.ref a4, .int out.2.2.1, .int out.2.2.2.1])), (a4, .inl (cT 2, 4096, .inr (.inl out.2.1)))] t) A) := by
  refine Met.ofW (cc := prog_7_method_11_code) (maxL := 4) (ret := (some .boolean)) (by decide) rfl ?_
  intro p e s m args below meth c s₁ B hml hv
  obtain ⟨rfl, hsz, hZ, hP, hK, hD0⟩ := hv
  have hx := B.exec
  have hb := B.bytes
  have hr := B.returns
  have hts := atoms_spec (ws := wyD_letters) B.pre
  have htx := fun w h => hts w (List.mem_cons_of_mem _ h)
  have hown : s.vm.findClass "ValueBench$Reader" = some m.cls := findClass_of_methodNamed B.named
  have hlocks := B.notSynchronized
  subst hsz
  have hD := hD0.self (sz := s.heap.size)
  generalize hAe : va_A [(a0, .inr (4, [.ref a1, .ref a3, .int v6, .int v7])), (a1, .inr (1, [.ref a2, .int v1, .int v2])), (a2, .inl (cT 0, 4096, .inl f0)), (a3, .inr (2, [.ref a4, .int v4, .int v5])), (a4, .inl (cT 2, 4096, .inr (.inl f3)))] s.heap.size = A at hD hZ ⊢
  have hA : ∀ q : Nat, s.heap.size ≤ q → A q := fun q h => by rw [← hAe]; exact Or.inr h
  have hS : va_S A s.heap s.heap [] := va_S.rf
  have hP : va_P D xcl [(a0, .inr (4, [.ref a1, .ref a3, .int v6, .int v7])), (a1, .inr (1, [.ref a2, .int v1, .int v2])), (a2, .inl (cT 0, 4096, .inl f0)), (a3, .inr (2, [.ref a4, .int v4, .int v5])), (a4, .inl (cT 2, 4096, .inr (.inl f3)))] s.heap := hP
  have hl := lv_entry ([.ref a0, .ref (aK 11), .int x2]) (n := 4) (Nat.le_of_ble_eq_true rfl)
  rw [lg_entry_eq]
  generalize (lg_sl ([.ref a0, .ref (aK 11), .int x2]) ++ List.replicate (4 - (lg_sl ([.ref a0, .ref (aK 11), .int x2])).length) Slot.unset).toArray = ls at hl ⊢
  have hl : lv_has ls 4 [(0, .ref a0), (1, .ref (aK 11)), (2, .int x2)] := hl
  unfold fD_letters at hf
  refine lv_iconst (v := 0) hx hb dD_letters_0 (by decide) ?_
  refine lv_istore_n (lv' := [(3, .int 0), (0, .ref a0), (1, .ref (aK 11)), (2, .int x2)]) hx hb dD_letters_1 rfl hl (by decide) rfl (fun ls hl => ?_)
  refine lv_iload_n hx hb dD_letters_2 rfl (lv_at hl 0 rfl) ?_
  refine lv_aload_n hx hb dD_letters_3 rfl (lv_at hl 2 rfl) ?_
  obtain ⟨hPc, hDc, hFc⟩ := xcut (wc := []) hP hD hS hA [] rfl rfl (by decide)
  refine va_calli (va_runV (C := "java/lang/String") (As := []) (rest := [.int 0]) ⟨hx, hb, hml, hown, htx⟩ (cJS_length_1 l hl9 D cT aK aV s.heap.size) ⟨callB_of 0 htx (xw_goodC kw_2_70) rfl rfl rfl (htx _ kw_1_6) (htx _ kw_2_67) ⟨by decide, by decide, by decide +kernel⟩ ⟨Nat.le_of_ble_eq_true rfl, Nat.le_of_ble_eq_true rfl⟩, (htx _ kw_2_68), (htx _ kw_2_69)⟩ ⟨xPre_blind, vk_recv hZ.2.2.2.2.2.2.2.2.2.1 (i := 11) (by decide) hS, (fun U hU hW => ⟨rfl, xPre_of hZ hS hFc hPc hDc hK U hU hW⟩)⟩ rfl rfl hl.1 rfl (lv_room (Nat.le_of_ble_eq_true rfl)) dD_letters_4 ⟨Nat.le_of_ble_eq_true rfl, Nat.le_of_ble_eq_true rfl⟩) hS (fun q _ h => hFc q h) hFc (fun r1 u9 t H1 locs ht hvm hr9 hB hz1 hk1 hS => ?_)
  obtain ⟨hP1, hK1, hD1⟩ := hB
  rw [ht] at hP1
  obtain ⟨hP, hD⟩ := xjoin (W := [(a0, .inr (4, [.ref a1, .ref a3, .int v6, .int v7])), (a1, .inr (1, [.ref a2, .int v1, .int v2])), (a2, .inl (cT 0, 4096, .inl f0)), (a3, .inr (2, [.ref a4, .int v4, .int v5])), (a4, .inl (cT 2, 4096, .inr (.inl f3)))]) hP hD [] [0, 1, 2, 3, 4] 5 rfl rfl (by decide) (by decide) hk1 hFc hP1 hD1
  generalize H1 = H at hP hS ⊢
  rw [hr9]
  refine W.eq (g2 := F0 m 7 ls [.int 5, .int 0]) rfl ?_
  refine lv_icmp_ge (tgt := 30) hx hb dD_letters_7 (by decide) (fun h => ((by revert h; decide : False)).elim) (fun _ => ?_)
  refine lv_aload_n hx hb dD_letters_10 rfl (lv_at hl 1 rfl) ?_
  refine lv_aload_n hx hb dD_letters_11 rfl (lv_at hl 2 rfl) ?_
  refine lv_iload_n hx hb dD_letters_12 rfl (lv_at hl 0 rfl) ?_
  obtain ⟨hPc, hDc, hFc⟩ := xcut (wc := []) hP hD hS hA [] rfl rfl (by decide)
  refine va_calli (va_runV (C := "java/lang/String") (As := [.int 0]) (rest := [.ref a0]) ⟨hx, hb, hml, hown, htx⟩ (cJS_charAt_4 l hl9 D cT aK aV H.size) ⟨callB_of 1 htx (xw_goodC kw_2_80) rfl rfl rfl (htx _ kw_1_6) (htx _ kw_2_77) ⟨by decide, by decide, by decide +kernel⟩ ⟨Nat.le_of_ble_eq_true rfl, Nat.le_of_ble_eq_true rfl⟩, (htx _ kw_2_78), (htx _ kw_2_79)⟩ ⟨xPre_blind, vk_recv hZ.2.2.2.2.2.2.2.2.2.1 (i := 11) (by decide) hS, (fun U hU hW => ⟨rfl, xPre_of hZ hS hFc hPc hDc hK U hU hW⟩)⟩ rfl rfl hl.1 rfl (lv_room (Nat.le_of_ble_eq_true rfl)) dD_letters_13 ⟨Nat.le_of_ble_eq_true rfl, Nat.le_of_ble_eq_true rfl⟩) hS (fun q _ h => hFc q h) hFc (fun r2 u9 t H1 locs ht hvm hr9 hB hz1 hk1 hS => ?_)
  obtain ⟨hP1, hK1, hD1⟩ := hB
  rw [ht] at hP1
  obtain ⟨hP, hD⟩ := xjoin (W := [(a0, .inr (4, [.ref a1, .ref a3, .int v6, .int v7])), (a1, .inr (1, [.ref a2, .int v1, .int v2])), (a2, .inl (cT 0, 4096, .inl f0)), (a3, .inr (2, [.ref a4, .int v4, .int v5])), (a4, .inl (cT 2, 4096, .inr (.inl f3)))]) hP hD [] [0, 1, 2, 3, 4] 5 rfl rfl (by decide) (by decide) hk1 hFc hP1 hD1
  generalize H1 = H at hP hS ⊢
  rw [hr9]
  refine W.eq (g2 := F0 m 16 ls [.int 102, .ref a0]) rfl ?_
  obtain ⟨o3, hq4, hf⟩ := xbind hf
  obtain ⟨hPc, hDc, hFc⟩ := xcut (wc := [(a0, .inr (4, [.ref a1, .ref a3, .int v6, .int v7])), (a1, .inr (1, [.ref a2, .int v1, .int v2])), (a2, .inl (cT 0, 4096, .inl f0)), (a3, .inr (2, [.ref a4, .int v4, .int v5])), (a4, .inl (cT 2, 4096, .inr (.inl f3)))]) hP hD hS hA [0, 1, 2, 3, 4] rfl rfl (by decide)
  refine va_calli (va_runV (C := "ValueBench$Reader") (As := [.int 102]) (rest := []) ⟨hx, hb, hml, hown, htx⟩ (gD_take l hl9 D cT aK aV H.size n a0 a1 a2 a3 a4 (102 : Int32) f0 v1 v2 f3 v4 v5 v6 v7 o3 hq4) ⟨callB_of 1 htx (xw_goodC kw_2_118) rfl rfl rfl (htx _ kw_1_16) (htx _ kw_2_115) ⟨by decide, by decide, by decide +kernel⟩ ⟨Nat.le_of_ble_eq_true rfl, Nat.le_of_ble_eq_true rfl⟩, (htx _ kw_2_117), (htx _ kp_D_take)⟩ ⟨xPre_blind, va_recv hK hP (ci := 4) rfl (q0 := 0) rfl, (fun U hU hW => ⟨rfl, xPre_of hZ hS hFc hPc hDc hK U hU hW⟩)⟩ rfl rfl hl.1 rfl (lv_room (Nat.le_of_ble_eq_true rfl)) dD_letters_16 ⟨Nat.le_of_ble_eq_true rfl, Nat.le_of_ble_eq_true rfl⟩) hS (fun q _ h => hFc q h) hFc (fun r5 u9 t H1 locs ht hvm hr9 hB hz1 hk1 hS => ?_)
  obtain ⟨hP1, hK1, hD1⟩ := hB
  rw [ht] at hP1
  obtain ⟨hP, hD⟩ := xjoin (W := [(a0, .inr (4, [.ref a1, .ref a3, .int o3.2.1, .int o3.2.2])), (a1, .inr (1, [.ref a2, .int v1, .int v2])), (a2, .inl (cT 0, 4096, .inl f0)), (a3, .inr (2, [.ref a4, .int v4, .int v5])), (a4, .inl (cT 2, 4096, .inr (.inl f3)))]) hP hD [0, 1, 2, 3, 4] [] 0 rfl rfl (by decide) (by decide) hk1 hFc hP1 hD1
  generalize H1 = H at hP hS ⊢
  rw [hr9]
  refine W.eq (g2 := F0 m 19 ls [.int o3.1]) rfl ?_
  refine lv_if_ne (tgt := 24) hx hb dD_letters_19 (by decide) (fun hc => ?_) (fun hc => ?_)
  · rw [if_neg hc] at hf
    refine lv_iinc (v := 1) (lv' := [(3, .int 1), (0, .ref a0), (1, .ref (aK 11)), (2, .int x2)]) hx hb dD_letters_24 hl (k := 0) rfl rfl (by decide) rfl (fun ls hl => ?_)
    refine lv_goto (tgt := 2) hx hb dD_letters_27 (by decide) ?_
    refine lv_iload_n hx hb dD_letters_2 rfl (lv_at hl 0 rfl) ?_
    refine lv_aload_n hx hb dD_letters_3 rfl (lv_at hl 2 rfl) ?_
    obtain ⟨hPc, hDc, hFc⟩ := xcut (wc := []) hP hD hS hA [] rfl rfl (by decide)
    refine va_calli (va_runV (C := "java/lang/String") (As := []) (rest := [.int 1]) ⟨hx, hb, hml, hown, htx⟩ (cJS_length_1 l hl9 D cT aK aV H.size) ⟨callB_of 0 htx (xw_goodC kw_2_70) rfl rfl rfl (htx _ kw_1_6) (htx _ kw_2_67) ⟨by decide, by decide, by decide +kernel⟩ ⟨Nat.le_of_ble_eq_true rfl, Nat.le_of_ble_eq_true rfl⟩, (htx _ kw_2_68), (htx _ kw_2_69)⟩ ⟨xPre_blind, vk_recv hZ.2.2.2.2.2.2.2.2.2.1 (i := 11) (by decide) hS, (fun U hU hW => ⟨rfl, xPre_of hZ hS hFc hPc hDc hK U hU hW⟩)⟩ rfl rfl hl.1 rfl (lv_room (Nat.le_of_ble_eq_true rfl)) dD_letters_4 ⟨Nat.le_of_ble_eq_true rfl, Nat.le_of_ble_eq_true rfl⟩) hS (fun q _ h => hFc q h) hFc (fun r6 u9 t H1 locs ht hvm hr9 hB hz1 hk1 hS => ?_)
    obtain ⟨hP1, hK1, hD1⟩ := hB
    rw [ht] at hP1
    obtain ⟨hP, hD⟩ := xjoin (W := [(a0, .inr (4, [.ref a1, .ref a3, .int o3.2.1, .int o3.2.2])), (a1, .inr (1, [.ref a2, .int v1, .int v2])), (a2, .inl (cT 0, 4096, .inl f0)), (a3, .inr (2, [.ref a4, .int v4, .int v5])), (a4, .inl (cT 2, 4096, .inr (.inl f3)))]) hP hD [] [0, 1, 2, 3, 4] 5 rfl rfl (by decide) (by decide) hk1 hFc hP1 hD1
    generalize H1 = H at hP hS ⊢
    rw [hr9]
    refine W.eq (g2 := F0 m 7 ls [.int 5, .int 1]) rfl ?_
    refine lv_icmp_ge (tgt := 30) hx hb dD_letters_7 (by decide) (fun h => ((by revert h; decide : False)).elim) (fun _ => ?_)
    refine lv_aload_n hx hb dD_letters_10 rfl (lv_at hl 1 rfl) ?_
    refine lv_aload_n hx hb dD_letters_11 rfl (lv_at hl 2 rfl) ?_
    refine lv_iload_n hx hb dD_letters_12 rfl (lv_at hl 0 rfl) ?_
    obtain ⟨hPc, hDc, hFc⟩ := xcut (wc := []) hP hD hS hA [] rfl rfl (by decide)
    refine va_calli (va_runV (C := "java/lang/String") (As := [.int 1]) (rest := [.ref a0]) ⟨hx, hb, hml, hown, htx⟩ (cJS_charAt_5 l hl9 D cT aK aV H.size) ⟨callB_of 1 htx (xw_goodC kw_2_80) rfl rfl rfl (htx _ kw_1_6) (htx _ kw_2_77) ⟨by decide, by decide, by decide +kernel⟩ ⟨Nat.le_of_ble_eq_true rfl, Nat.le_of_ble_eq_true rfl⟩, (htx _ kw_2_78), (htx _ kw_2_79)⟩ ⟨xPre_blind, vk_recv hZ.2.2.2.2.2.2.2.2.2.1 (i := 11) (by decide) hS, (fun U hU hW => ⟨rfl, xPre_of hZ hS hFc hPc hDc hK U hU hW⟩)⟩ rfl rfl hl.1 rfl (lv_room (Nat.le_of_ble_eq_true rfl)) dD_letters_13 ⟨Nat.le_of_ble_eq_true rfl, Nat.le_of_ble_eq_true rfl⟩) hS (fun q _ h => hFc q h) hFc (fun r7 u9 t H1 locs ht hvm hr9 hB hz1 hk1 hS => ?_)
    obtain ⟨hP1, hK1, hD1⟩ := hB
    rw [ht] at hP1
    obtain ⟨hP, hD⟩ := xjoin (W := [(a0, .inr (4, [.ref a1, .ref a3, .int o3.2.1, .int o3.2.2])), (a1, .inr (1, [.ref a2, .int v1, .int v2])), (a2, .inl (cT 0, 4096, .inl f0)), (a3, .inr (2, [.ref a4, .int v4, .int v5])), (a4, .inl (cT 2, 4096, .inr (.inl f3)))]) hP hD [] [0, 1, 2, 3, 4] 5 rfl rfl (by decide) (by decide) hk1 hFc hP1 hD1
    generalize H1 = H at hP hS ⊢
    rw [hr9]
    refine W.eq (g2 := F0 m 16 ls [.int 97, .ref a0]) rfl ?_
    obtain ⟨o8, hq9, hf⟩ := xbind hf
    obtain ⟨hPc, hDc, hFc⟩ := xcut (wc := [(a0, .inr (4, [.ref a1, .ref a3, .int o3.2.1, .int o3.2.2])), (a1, .inr (1, [.ref a2, .int v1, .int v2])), (a2, .inl (cT 0, 4096, .inl f0)), (a3, .inr (2, [.ref a4, .int v4, .int v5])), (a4, .inl (cT 2, 4096, .inr (.inl f3)))]) hP hD hS hA [0, 1, 2, 3, 4] rfl rfl (by decide)
    refine va_calli (va_runV (C := "ValueBench$Reader") (As := [.int 97]) (rest := []) ⟨hx, hb, hml, hown, htx⟩ (gD_take l hl9 D cT aK aV H.size n a0 a1 a2 a3 a4 (97 : Int32) f0 v1 v2 f3 v4 v5 o3.2.1 o3.2.2 o8 hq9) ⟨callB_of 1 htx (xw_goodC kw_2_118) rfl rfl rfl (htx _ kw_1_16) (htx _ kw_2_115) ⟨by decide, by decide, by decide +kernel⟩ ⟨Nat.le_of_ble_eq_true rfl, Nat.le_of_ble_eq_true rfl⟩, (htx _ kw_2_117), (htx _ kp_D_take)⟩ ⟨xPre_blind, va_recv hK hP (ci := 4) rfl (q0 := 0) rfl, (fun U hU hW => ⟨rfl, xPre_of hZ hS hFc hPc hDc hK U hU hW⟩)⟩ rfl rfl hl.1 rfl (lv_room (Nat.le_of_ble_eq_true rfl)) dD_letters_16 ⟨Nat.le_of_ble_eq_true rfl, Nat.le_of_ble_eq_true rfl⟩) hS (fun q _ h => hFc q h) hFc (fun r10 u9 t H1 locs ht hvm hr9 hB hz1 hk1 hS => ?_)
    obtain ⟨hP1, hK1, hD1⟩ := hB
    rw [ht] at hP1
    obtain ⟨hP, hD⟩ := xjoin (W := [(a0, .inr (4, [.ref a1, .ref a3, .int o8.2.1, .int o8.2.2])), (a1, .inr (1, [.ref a2, .int v1, .int v2])), (a2, .inl (cT 0, 4096, .inl f0)), (a3, .inr (2, [.ref a4, .int v4, .int v5])), (a4, .inl (cT 2, 4096, .inr (.inl f3)))]) hP hD [0, 1, 2, 3, 4] [] 0 rfl rfl (by decide) (by decide) hk1 hFc hP1 hD1
    generalize H1 = H at hP hS ⊢
    rw [hr9]
    refine W.eq (g2 := F0 m 19 ls [.int o8.1]) rfl ?_
    refine lv_if_ne (tgt := 24) hx hb dD_letters_19 (by decide) (fun hc => ?_) (fun hc => ?_)
    · rw [if_neg hc] at hf
      refine lv_iinc (v := 2) (lv' := [(3, .int 2), (0, .ref a0), (1, .ref (aK 11)), (2, .int x2)]) hx hb dD_letters_24 hl (k := 0) rfl rfl (by decide) rfl (fun ls hl => ?_)
      refine lv_goto (tgt := 2) hx hb dD_letters_27 (by decide) ?_
      refine lv_iload_n hx hb dD_letters_2 rfl (lv_at hl 0 rfl) ?_
      refine lv_aload_n hx hb dD_letters_3 rfl (lv_at hl 2 rfl) ?_
      obtain ⟨hPc, hDc, hFc⟩ := xcut (wc := []) hP hD hS hA [] rfl rfl (by decide)
      refine va_calli (va_runV (C := "java/lang/String") (As := []) (rest := [.int 2]) ⟨hx, hb, hml, hown, htx⟩ (cJS_length_1 l hl9 D cT aK aV H.size) ⟨callB_of 0 htx (xw_goodC kw_2_70) rfl rfl rfl (htx _ kw_1_6) (htx _ kw_2_67) ⟨by decide, by decide, by decide +kernel⟩ ⟨Nat.le_of_ble_eq_true rfl, Nat.le_of_ble_eq_true rfl⟩, (htx _ kw_2_68), (htx _ kw_2_69)⟩ ⟨xPre_blind, vk_recv hZ.2.2.2.2.2.2.2.2.2.1 (i := 11) (by decide) hS, (fun U hU hW => ⟨rfl, xPre_of hZ hS hFc hPc hDc hK U hU hW⟩)⟩ rfl rfl hl.1 rfl (lv_room (Nat.le_of_ble_eq_true rfl)) dD_letters_4 ⟨Nat.le_of_ble_eq_true rfl, Nat.le_of_ble_eq_true rfl⟩) hS (fun q _ h => hFc q h) hFc (fun r11 u9 t H1 locs ht hvm hr9 hB hz1 hk1 hS => ?_)
      obtain ⟨hP1, hK1, hD1⟩ := hB
      rw [ht] at hP1
      obtain ⟨hP, hD⟩ := xjoin (W := [(a0, .inr (4, [.ref a1, .ref a3, .int o8.2.1, .int o8.2.2])), (a1, .inr (1, [.ref a2, .int v1, .int v2])), (a2, .inl (cT 0, 4096, .inl f0)), (a3, .inr (2, [.ref a4, .int v4, .int v5])), (a4, .inl (cT 2, 4096, .inr (.inl f3)))]) hP hD [] [0, 1, 2, 3, 4] 5 rfl rfl (by decide) (by decide) hk1 hFc hP1 hD1
      generalize H1 = H at hP hS ⊢
      rw [hr9]
      refine W.eq (g2 := F0 m 7 ls [.int 5, .int 2]) rfl ?_
      refine lv_icmp_ge (tgt := 30) hx hb dD_letters_7 (by decide) (fun h => ((by revert h; decide : False)).elim) (fun _ => ?_)
      refine lv_aload_n hx hb dD_letters_10 rfl (lv_at hl 1 rfl) ?_
      refine lv_aload_n hx hb dD_letters_11 rfl (lv_at hl 2 rfl) ?_
      refine lv_iload_n hx hb dD_letters_12 rfl (lv_at hl 0 rfl) ?_
      obtain ⟨hPc, hDc, hFc⟩ := xcut (wc := []) hP hD hS hA [] rfl rfl (by decide)
      refine va_calli (va_runV (C := "java/lang/String") (As := [.int 2]) (rest := [.ref a0]) ⟨hx, hb, hml, hown, htx⟩ (cJS_charAt_6 l hl9 D cT aK aV H.size) ⟨callB_of 1 htx (xw_goodC kw_2_80) rfl rfl rfl (htx _ kw_1_6) (htx _ kw_2_77) ⟨by decide, by decide, by decide +kernel⟩ ⟨Nat.le_of_ble_eq_true rfl, Nat.le_of_ble_eq_true rfl⟩, (htx _ kw_2_78), (htx _ kw_2_79)⟩ ⟨xPre_blind, vk_recv hZ.2.2.2.2.2.2.2.2.2.1 (i := 11) (by decide) hS, (fun U hU hW => ⟨rfl, xPre_of hZ hS hFc hPc hDc hK U hU hW⟩)⟩ rfl rfl hl.1 rfl (lv_room (Nat.le_of_ble_eq_true rfl)) dD_letters_13 ⟨Nat.le_of_ble_eq_true rfl, Nat.le_of_ble_eq_true rfl⟩) hS (fun q _ h => hFc q h) hFc (fun r12 u9 t H1 locs ht hvm hr9 hB hz1 hk1 hS => ?_)
      obtain ⟨hP1, hK1, hD1⟩ := hB
      rw [ht] at hP1
      obtain ⟨hP, hD⟩ := xjoin (W := [(a0, .inr (4, [.ref a1, .ref a3, .int o8.2.1, .int o8.2.2])), (a1, .inr (1, [.ref a2, .int v1, .int v2])), (a2, .inl (cT 0, 4096, .inl f0)), (a3, .inr (2, [.ref a4, .int v4, .int v5])), (a4, .inl (cT 2, 4096, .inr (.inl f3)))]) hP hD [] [0, 1, 2, 3, 4] 5 rfl rfl (by decide) (by decide) hk1 hFc hP1 hD1
      generalize H1 = H at hP hS ⊢
      rw [hr9]
      refine W.eq (g2 := F0 m 16 ls [.int 108, .ref a0]) rfl ?_
      obtain ⟨o13, hq14, hf⟩ := xbind hf
      obtain ⟨hPc, hDc, hFc⟩ := xcut (wc := [(a0, .inr (4, [.ref a1, .ref a3, .int o8.2.1, .int o8.2.2])), (a1, .inr (1, [.ref a2, .int v1, .int v2])), (a2, .inl (cT 0, 4096, .inl f0)), (a3, .inr (2, [.ref a4, .int v4, .int v5])), (a4, .inl (cT 2, 4096, .inr (.inl f3)))]) hP hD hS hA [0, 1, 2, 3, 4] rfl rfl (by decide)
      refine va_calli (va_runV (C := "ValueBench$Reader") (As := [.int 108]) (rest := []) ⟨hx, hb, hml, hown, htx⟩ (gD_take l hl9 D cT aK aV H.size n a0 a1 a2 a3 a4 (108 : Int32) f0 v1 v2 f3 v4 v5 o8.2.1 o8.2.2 o13 hq14) ⟨callB_of 1 htx (xw_goodC kw_2_118) rfl rfl rfl (htx _ kw_1_16) (htx _ kw_2_115) ⟨by decide, by decide, by decide +kernel⟩ ⟨Nat.le_of_ble_eq_true rfl, Nat.le_of_ble_eq_true rfl⟩, (htx _ kw_2_117), (htx _ kp_D_take)⟩ ⟨xPre_blind, va_recv hK hP (ci := 4) rfl (q0 := 0) rfl, (fun U hU hW => ⟨rfl, xPre_of hZ hS hFc hPc hDc hK U hU hW⟩)⟩ rfl rfl hl.1 rfl (lv_room (Nat.le_of_ble_eq_true rfl)) dD_letters_16 ⟨Nat.le_of_ble_eq_true rfl, Nat.le_of_ble_eq_true rfl⟩) hS (fun q _ h => hFc q h) hFc (fun r15 u9 t H1 locs ht hvm hr9 hB hz1 hk1 hS => ?_)
      obtain ⟨hP1, hK1, hD1⟩ := hB
      rw [ht] at hP1
      obtain ⟨hP, hD⟩ := xjoin (W := [(a0, .inr (4, [.ref a1, .ref a3, .int o13.2.1, .int o13.2.2])), (a1, .inr (1, [.ref a2, .int v1, .int v2])), (a2, .inl (cT 0, 4096, .inl f0)), (a3, .inr (2, [.ref a4, .int v4, .int v5])), (a4, .inl (cT 2, 4096, .inr (.inl f3)))]) hP hD [0, 1, 2, 3, 4] [] 0 rfl rfl (by decide) (by decide) hk1 hFc hP1 hD1
      generalize H1 = H at hP hS ⊢
      rw [hr9]
      refine W.eq (g2 := F0 m 19 ls [.int o13.1]) rfl ?_
      refine lv_if_ne (tgt := 24) hx hb dD_letters_19 (by decide) (fun hc => ?_) (fun hc => ?_)
      · rw [if_neg hc] at hf
        refine lv_iinc (v := 3) (lv' := [(3, .int 3), (0, .ref a0), (1, .ref (aK 11)), (2, .int x2)]) hx hb dD_letters_24 hl (k := 0) rfl rfl (by decide) rfl (fun ls hl => ?_)
        refine lv_goto (tgt := 2) hx hb dD_letters_27 (by decide) ?_
        refine lv_iload_n hx hb dD_letters_2 rfl (lv_at hl 0 rfl) ?_
        refine lv_aload_n hx hb dD_letters_3 rfl (lv_at hl 2 rfl) ?_
        obtain ⟨hPc, hDc, hFc⟩ := xcut (wc := []) hP hD hS hA [] rfl rfl (by decide)
        refine va_calli (va_runV (C := "java/lang/String") (As := []) (rest := [.int 3]) ⟨hx, hb, hml, hown, htx⟩ (cJS_length_1 l hl9 D cT aK aV H.size) ⟨callB_of 0 htx (xw_goodC kw_2_70) rfl rfl rfl (htx _ kw_1_6) (htx _ kw_2_67) ⟨by decide, by decide, by decide +kernel⟩ ⟨Nat.le_of_ble_eq_true rfl, Nat.le_of_ble_eq_true rfl⟩, (htx _ kw_2_68), (htx _ kw_2_69)⟩ ⟨xPre_blind, vk_recv hZ.2.2.2.2.2.2.2.2.2.1 (i := 11) (by decide) hS, (fun U hU hW => ⟨rfl, xPre_of hZ hS hFc hPc hDc hK U hU hW⟩)⟩ rfl rfl hl.1 rfl (lv_room (Nat.le_of_ble_eq_true rfl)) dD_letters_4 ⟨Nat.le_of_ble_eq_true rfl, Nat.le_of_ble_eq_true rfl⟩) hS (fun q _ h => hFc q h) hFc (fun r16 u9 t H1 locs ht hvm hr9 hB hz1 hk1 hS => ?_)
        obtain ⟨hP1, hK1, hD1⟩ := hB
        rw [ht] at hP1
        obtain ⟨hP, hD⟩ := xjoin (W := [(a0, .inr (4, [.ref a1, .ref a3, .int o13.2.1, .int o13.2.2])), (a1, .inr (1, [.ref a2, .int v1, .int v2])), (a2, .inl (cT 0, 4096, .inl f0)), (a3, .inr (2, [.ref a4, .int v4, .int v5])), (a4, .inl (cT 2, 4096, .inr (.inl f3)))]) hP hD [] [0, 1, 2, 3, 4] 5 rfl rfl (by decide) (by decide) hk1 hFc hP1 hD1
        generalize H1 = H at hP hS ⊢
        rw [hr9]
        refine W.eq (g2 := F0 m 7 ls [.int 5, .int 3]) rfl ?_
        refine lv_icmp_ge (tgt := 30) hx hb dD_letters_7 (by decide) (fun h => ((by revert h; decide : False)).elim) (fun _ => ?_)
        refine lv_aload_n hx hb dD_letters_10 rfl (lv_at hl 1 rfl) ?_
        refine lv_aload_n hx hb dD_letters_11 rfl (lv_at hl 2 rfl) ?_
        refine lv_iload_n hx hb dD_letters_12 rfl (lv_at hl 0 rfl) ?_
        obtain ⟨hPc, hDc, hFc⟩ := xcut (wc := []) hP hD hS hA [] rfl rfl (by decide)
        refine va_calli (va_runV (C := "java/lang/String") (As := [.int 3]) (rest := [.ref a0]) ⟨hx, hb, hml, hown, htx⟩ (cJS_charAt_7 l hl9 D cT aK aV H.size) ⟨callB_of 1 htx (xw_goodC kw_2_80) rfl rfl rfl (htx _ kw_1_6) (htx _ kw_2_77) ⟨by decide, by decide, by decide +kernel⟩ ⟨Nat.le_of_ble_eq_true rfl, Nat.le_of_ble_eq_true rfl⟩, (htx _ kw_2_78), (htx _ kw_2_79)⟩ ⟨xPre_blind, vk_recv hZ.2.2.2.2.2.2.2.2.2.1 (i := 11) (by decide) hS, (fun U hU hW => ⟨rfl, xPre_of hZ hS hFc hPc hDc hK U hU hW⟩)⟩ rfl rfl hl.1 rfl (lv_room (Nat.le_of_ble_eq_true rfl)) dD_letters_13 ⟨Nat.le_of_ble_eq_true rfl, Nat.le_of_ble_eq_true rfl⟩) hS (fun q _ h => hFc q h) hFc (fun r17 u9 t H1 locs ht hvm hr9 hB hz1 hk1 hS => ?_)
        obtain ⟨hP1, hK1, hD1⟩ := hB
        rw [ht] at hP1
        obtain ⟨hP, hD⟩ := xjoin (W := [(a0, .inr (4, [.ref a1, .ref a3, .int o13.2.1, .int o13.2.2])), (a1, .inr (1, [.ref a2, .int v1, .int v2])), (a2, .inl (cT 0, 4096, .inl f0)), (a3, .inr (2, [.ref a4, .int v4, .int v5])), (a4, .inl (cT 2, 4096, .inr (.inl f3)))]) hP hD [] [0, 1, 2, 3, 4] 5 rfl rfl (by decide) (by decide) hk1 hFc hP1 hD1
        generalize H1 = H at hP hS ⊢
        rw [hr9]
        refine W.eq (g2 := F0 m 16 ls [.int 115, .ref a0]) rfl ?_
        obtain ⟨o18, hq19, hf⟩ := xbind hf
        obtain ⟨hPc, hDc, hFc⟩ := xcut (wc := [(a0, .inr (4, [.ref a1, .ref a3, .int o13.2.1, .int o13.2.2])), (a1, .inr (1, [.ref a2, .int v1, .int v2])), (a2, .inl (cT 0, 4096, .inl f0)), (a3, .inr (2, [.ref a4, .int v4, .int v5])), (a4, .inl (cT 2, 4096, .inr (.inl f3)))]) hP hD hS hA [0, 1, 2, 3, 4] rfl rfl (by decide)
        refine va_calli (va_runV (C := "ValueBench$Reader") (As := [.int 115]) (rest := []) ⟨hx, hb, hml, hown, htx⟩ (gD_take l hl9 D cT aK aV H.size n a0 a1 a2 a3 a4 (115 : Int32) f0 v1 v2 f3 v4 v5 o13.2.1 o13.2.2 o18 hq19) ⟨callB_of 1 htx (xw_goodC kw_2_118) rfl rfl rfl (htx _ kw_1_16) (htx _ kw_2_115) ⟨by decide, by decide, by decide +kernel⟩ ⟨Nat.le_of_ble_eq_true rfl, Nat.le_of_ble_eq_true rfl⟩, (htx _ kw_2_117), (htx _ kp_D_take)⟩ ⟨xPre_blind, va_recv hK hP (ci := 4) rfl (q0 := 0) rfl, (fun U hU hW => ⟨rfl, xPre_of hZ hS hFc hPc hDc hK U hU hW⟩)⟩ rfl rfl hl.1 rfl (lv_room (Nat.le_of_ble_eq_true rfl)) dD_letters_16 ⟨Nat.le_of_ble_eq_true rfl, Nat.le_of_ble_eq_true rfl⟩) hS (fun q _ h => hFc q h) hFc (fun r20 u9 t H1 locs ht hvm hr9 hB hz1 hk1 hS => ?_)
        obtain ⟨hP1, hK1, hD1⟩ := hB
        rw [ht] at hP1
        obtain ⟨hP, hD⟩ := xjoin (W := [(a0, .inr (4, [.ref a1, .ref a3, .int o18.2.1, .int o18.2.2])), (a1, .inr (1, [.ref a2, .int v1, .int v2])), (a2, .inl (cT 0, 4096, .inl f0)), (a3, .inr (2, [.ref a4, .int v4, .int v5])), (a4, .inl (cT 2, 4096, .inr (.inl f3)))]) hP hD [0, 1, 2, 3, 4] [] 0 rfl rfl (by decide) (by decide) hk1 hFc hP1 hD1
        generalize H1 = H at hP hS ⊢
        rw [hr9]
        refine W.eq (g2 := F0 m 19 ls [.int o18.1]) rfl ?_
        refine lv_if_ne (tgt := 24) hx hb dD_letters_19 (by decide) (fun hc => ?_) (fun hc => ?_)
        · rw [if_neg hc] at hf
          refine lv_iinc (v := 4) (lv' := [(3, .int 4), (0, .ref a0), (1, .ref (aK 11)), (2, .int x2)]) hx hb dD_letters_24 hl (k := 0) rfl rfl (by decide) rfl (fun ls hl => ?_)
          refine lv_goto (tgt := 2) hx hb dD_letters_27 (by decide) ?_
          refine lv_iload_n hx hb dD_letters_2 rfl (lv_at hl 0 rfl) ?_
          refine lv_aload_n hx hb dD_letters_3 rfl (lv_at hl 2 rfl) ?_
          obtain ⟨hPc, hDc, hFc⟩ := xcut (wc := []) hP hD hS hA [] rfl rfl (by decide)
          refine va_calli (va_runV (C := "java/lang/String") (As := []) (rest := [.int 4]) ⟨hx, hb, hml, hown, htx⟩ (cJS_length_1 l hl9 D cT aK aV H.size) ⟨callB_of 0 htx (xw_goodC kw_2_70) rfl rfl rfl (htx _ kw_1_6) (htx _ kw_2_67) ⟨by decide, by decide, by decide +kernel⟩ ⟨Nat.le_of_ble_eq_true rfl, Nat.le_of_ble_eq_true rfl⟩, (htx _ kw_2_68), (htx _ kw_2_69)⟩ ⟨xPre_blind, vk_recv hZ.2.2.2.2.2.2.2.2.2.1 (i := 11) (by decide) hS, (fun U hU hW => ⟨rfl, xPre_of hZ hS hFc hPc hDc hK U hU hW⟩)⟩ rfl rfl hl.1 rfl (lv_room (Nat.le_of_ble_eq_true rfl)) dD_letters_4 ⟨Nat.le_of_ble_eq_true rfl, Nat.le_of_ble_eq_true rfl⟩) hS (fun q _ h => hFc q h) hFc (fun r21 u9 t H1 locs ht hvm hr9 hB hz1 hk1 hS => ?_)
          obtain ⟨hP1, hK1, hD1⟩ := hB
          rw [ht] at hP1
          obtain ⟨hP, hD⟩ := xjoin (W := [(a0, .inr (4, [.ref a1, .ref a3, .int o18.2.1, .int o18.2.2])), (a1, .inr (1, [.ref a2, .int v1, .int v2])), (a2, .inl (cT 0, 4096, .inl f0)), (a3, .inr (2, [.ref a4, .int v4, .int v5])), (a4, .inl (cT 2, 4096, .inr (.inl f3)))]) hP hD [] [0, 1, 2, 3, 4] 5 rfl rfl (by decide) (by decide) hk1 hFc hP1 hD1
          generalize H1 = H at hP hS ⊢
          rw [hr9]
          refine W.eq (g2 := F0 m 7 ls [.int 5, .int 4]) rfl ?_
          refine lv_icmp_ge (tgt := 30) hx hb dD_letters_7 (by decide) (fun h => ((by revert h; decide : False)).elim) (fun _ => ?_)
          refine lv_aload_n hx hb dD_letters_10 rfl (lv_at hl 1 rfl) ?_
          refine lv_aload_n hx hb dD_letters_11 rfl (lv_at hl 2 rfl) ?_
          refine lv_iload_n hx hb dD_letters_12 rfl (lv_at hl 0 rfl) ?_
          obtain ⟨hPc, hDc, hFc⟩ := xcut (wc := []) hP hD hS hA [] rfl rfl (by decide)
          refine va_calli (va_runV (C := "java/lang/String") (As := [.int 4]) (rest := [.ref a0]) ⟨hx, hb, hml, hown, htx⟩ (cJS_charAt_8 l hl9 D cT aK aV H.size) ⟨callB_of 1 htx (xw_goodC kw_2_80) rfl rfl rfl (htx _ kw_1_6) (htx _ kw_2_77) ⟨by decide, by decide, by decide +kernel⟩ ⟨Nat.le_of_ble_eq_true rfl, Nat.le_of_ble_eq_true rfl⟩, (htx _ kw_2_78), (htx _ kw_2_79)⟩ ⟨xPre_blind, vk_recv hZ.2.2.2.2.2.2.2.2.2.1 (i := 11) (by decide) hS, (fun U hU hW => ⟨rfl, xPre_of hZ hS hFc hPc hDc hK U hU hW⟩)⟩ rfl rfl hl.1 rfl (lv_room (Nat.le_of_ble_eq_true rfl)) dD_letters_13 ⟨Nat.le_of_ble_eq_true rfl, Nat.le_of_ble_eq_true rfl⟩) hS (fun q _ h => hFc q h) hFc (fun r22 u9 t H1 locs ht hvm hr9 hB hz1 hk1 hS => ?_)
          obtain ⟨hP1, hK1, hD1⟩ := hB
          rw [ht] at hP1
          obtain ⟨hP, hD⟩ := xjoin (W := [(a0, .inr (4, [.ref a1, .ref a3, .int o18.2.1, .int o18.2.2])), (a1, .inr (1, [.ref a2, .int v1, .int v2])), (a2, .inl (cT 0, 4096, .inl f0)), (a3, .inr (2, [.ref a4, .int v4, .int v5])), (a4, .inl (cT 2, 4096, .inr (.inl f3)))]) hP hD [] [0, 1, 2, 3, 4] 5 rfl rfl (by decide) (by decide) hk1 hFc hP1 hD1
          generalize H1 = H at hP hS ⊢
          rw [hr9]
          refine W.eq (g2 := F0 m 16 ls [.int 101, .ref a0]) rfl ?_
          obtain ⟨o23, hq24, hf⟩ := xbind hf
          obtain ⟨hPc, hDc, hFc⟩ := xcut (wc := [(a0, .inr (4, [.ref a1, .ref a3, .int o18.2.1, .int o18.2.2])), (a1, .inr (1, [.ref a2, .int v1, .int v2])), (a2, .inl (cT 0, 4096, .inl f0)), (a3, .inr (2, [.ref a4, .int v4, .int v5])), (a4, .inl (cT 2, 4096, .inr (.inl f3)))]) hP hD hS hA [0, 1, 2, 3, 4] rfl rfl (by decide)
          refine va_calli (va_runV (C := "ValueBench$Reader") (As := [.int 101]) (rest := []) ⟨hx, hb, hml, hown, htx⟩ (gD_take l hl9 D cT aK aV H.size n a0 a1 a2 a3 a4 (101 : Int32) f0 v1 v2 f3 v4 v5 o18.2.1 o18.2.2 o23 hq24) ⟨callB_of 1 htx (xw_goodC kw_2_118) rfl rfl rfl (htx _ kw_1_16) (htx _ kw_2_115) ⟨by decide, by decide, by decide +kernel⟩ ⟨Nat.le_of_ble_eq_true rfl, Nat.le_of_ble_eq_true rfl⟩, (htx _ kw_2_117), (htx _ kp_D_take)⟩ ⟨xPre_blind, va_recv hK hP (ci := 4) rfl (q0 := 0) rfl, (fun U hU hW => ⟨rfl, xPre_of hZ hS hFc hPc hDc hK U hU hW⟩)⟩ rfl rfl hl.1 rfl (lv_room (Nat.le_of_ble_eq_true rfl)) dD_letters_16 ⟨Nat.le_of_ble_eq_true rfl, Nat.le_of_ble_eq_true rfl⟩) hS (fun q _ h => hFc q h) hFc (fun r25 u9 t H1 locs ht hvm hr9 hB hz1 hk1 hS => ?_)
          obtain ⟨hP1, hK1, hD1⟩ := hB
          rw [ht] at hP1
          obtain ⟨hP, hD⟩ := xjoin (W := [(a0, .inr (4, [.ref a1, .ref a3, .int o23.2.1, .int o23.2.2])), (a1, .inr (1, [.ref a2, .int v1, .int v2])), (a2, .inl (cT 0, 4096, .inl f0)), (a3, .inr (2, [.ref a4, .int v4, .int v5])), (a4, .inl (cT 2, 4096, .inr (.inl f3)))]) hP hD [0, 1, 2, 3, 4] [] 0 rfl rfl (by decide) (by decide) hk1 hFc hP1 hD1
          generalize H1 = H at hP hS ⊢
          rw [hr9]
          refine W.eq (g2 := F0 m 19 ls [.int o23.1]) rfl ?_
          refine lv_if_ne (tgt := 24) hx hb dD_letters_19 (by decide) (fun hc => ?_) (fun hc => ?_)
          · rw [if_neg hc] at hf
            refine lv_iinc (v := 5) (lv' := [(3, .int 5), (0, .ref a0), (1, .ref (aK 11)), (2, .int x2)]) hx hb dD_letters_24 hl (k := 0) rfl rfl (by decide) rfl (fun ls hl => ?_)
            refine lv_goto (tgt := 2) hx hb dD_letters_27 (by decide) ?_
            refine lv_iload_n hx hb dD_letters_2 rfl (lv_at hl 0 rfl) ?_
            refine lv_aload_n hx hb dD_letters_3 rfl (lv_at hl 2 rfl) ?_
            obtain ⟨hPc, hDc, hFc⟩ := xcut (wc := []) hP hD hS hA [] rfl rfl (by decide)
            refine va_calli (va_runV (C := "java/lang/String") (As := []) (rest := [.int 5]) ⟨hx, hb, hml, hown, htx⟩ (cJS_length_1 l hl9 D cT aK aV H.size) ⟨callB_of 0 htx (xw_goodC kw_2_70) rfl rfl rfl (htx _ kw_1_6) (htx _ kw_2_67) ⟨by decide, by decide, by decide +kernel⟩ ⟨Nat.le_of_ble_eq_true rfl, Nat.le_of_ble_eq_true rfl⟩, (htx _ kw_2_68), (htx _ kw_2_69)⟩ ⟨xPre_blind, vk_recv hZ.2.2.2.2.2.2.2.2.2.1 (i := 11) (by decide) hS, (fun U hU hW => ⟨rfl, xPre_of hZ hS hFc hPc hDc hK U hU hW⟩)⟩ rfl rfl hl.1 rfl (lv_room (Nat.le_of_ble_eq_true rfl)) dD_letters_4 ⟨Nat.le_of_ble_eq_true rfl, Nat.le_of_ble_eq_true rfl⟩) hS (fun q _ h => hFc q h) hFc (fun r26 u9 t H1 locs ht hvm hr9 hB hz1 hk1 hS => ?_)
            obtain ⟨hP1, hK1, hD1⟩ := hB
            rw [ht] at hP1
            obtain ⟨hP, hD⟩ := xjoin (W := [(a0, .inr (4, [.ref a1, .ref a3, .int o23.2.1, .int o23.2.2])), (a1, .inr (1, [.ref a2, .int v1, .int v2])), (a2, .inl (cT 0, 4096, .inl f0)), (a3, .inr (2, [.ref a4, .int v4, .int v5])), (a4, .inl (cT 2, 4096, .inr (.inl f3)))]) hP hD [] [0, 1, 2, 3, 4] 5 rfl rfl (by decide) (by decide) hk1 hFc hP1 hD1
            generalize H1 = H at hP hS ⊢
            rw [hr9]
            refine W.eq (g2 := F0 m 7 ls [.int 5, .int 5]) rfl ?_
            refine lv_icmp_ge (tgt := 30) hx hb dD_letters_7 (by decide) (fun _ => ?_) (fun h => ((by revert h; decide : False)).elim)
            refine lv_aload_n hx hb dD_letters_30 rfl (lv_at hl 1 rfl) ?_
            refine va_get (D := D) (ci := 4) (v := .ref a3) (C := "ValueBench$Reader") (T := TD) (N := 4) hx hb htx inD hown hK hP 0 rfl rfl 1 (by decide) (htx _ kw_2_30) (fun _ h9 => h9) rfl dD_letters_31 ?_
            refine lv_iload_n hx hb dD_letters_34 rfl (lv_at hl 3 rfl) ?_
            refine lv_i2l hx hb dD_letters_35 rfl ?_
            obtain ⟨o27, hq28, hf⟩ := xbind hf
            obtain ⟨hPc, hDc, hFc⟩ := xcut (wc := [(a3, .inr (2, [.ref a4, .int v4, .int v5])), (a4, .inl (cT 2, 4096, .inr (.inl f3)))]) hP hD hS hA [3, 4] rfl rfl (by decide)
            refine va_callv (va_runV (C := "ValueBench$Row") (As := [.long x2.toInt64]) (rest := []) ⟨hx, hb, hml, hown, htx⟩ (gR_put l hl9 D cT aK aV H.size n a3 a4 x2.toInt64 f3 v4 v5 o27 hq28) ⟨callB_of 1 htx (xw_goodC kw_2_126) rfl rfl rfl (htx _ kw_1_4) (htx _ kw_2_123) ⟨by decide, by decide, by decide +kernel⟩ ⟨Nat.le_of_ble_eq_true rfl, Nat.le_of_ble_eq_true rfl⟩, (htx _ kw_2_124), (htx _ kw_2_125)⟩ ⟨xPre_blind, va_recv hK hP (ci := 2) rfl (q0 := 3) rfl, (fun U hU hW => ⟨rfl, xPre_of hZ hS hFc hPc hDc hK U hU hW⟩)⟩ rfl rfl hl.1 rfl (lv_room (Nat.le_of_ble_eq_true rfl)) dD_letters_36 ⟨Nat.le_of_ble_eq_true rfl, Nat.le_of_ble_eq_true rfl⟩) hS (fun q _ h => hFc q h) hFc (fun u9 t H1 locs ht hvm hr9 hB hz1 hk1 hS => ?_)
            obtain ⟨hP1, hK1, hD1⟩ := hB
            rw [ht] at hP1
            obtain ⟨hP, hD⟩ := xjoin (W := [(a0, .inr (4, [.ref a1, .ref a3, .int o23.2.1, .int o23.2.2])), (a1, .inr (1, [.ref a2, .int v1, .int v2])), (a2, .inl (cT 0, 4096, .inl f0)), (a3, .inr (2, [.ref a4, .int o27.2.1, .int o27.2.2])), (a4, .inl (cT 2, 4096, .inr (.inl o27.1)))]) hP hD [3, 4] [0, 1, 2] 3 rfl rfl (by decide) (by decide) hk1 hFc hP1 hD1
            generalize H1 = H at hP hS ⊢
            refine lv_iconst (v := 1) hx hb dD_letters_39 (by decide) ?_
            obtain rfl := Option.some.inj hf
            obtain ⟨hP9, hD9⟩ := xsub (wc := [(a0, .inr (4, [.ref a1, .ref a3, .int o23.2.1, .int o23.2.2])), (a1, .inr (1, [.ref a2, .int v1, .int v2])), (a2, .inl (cT 0, 4096, .inl f0)), (a3, .inr (2, [.ref a4, .int o27.2.1, .int o27.2.2])), (a4, .inl (cT 2, 4096, .inr (.inl o27.1)))]) hP hD [0, 1, 2, 3, 4] rfl rfl (by decide)
            exact W.zret (v := (1 : Int32)) hx hb hr rfl (fun t ht hW => ⟨⟨(1 : Int32), (), rfl, rfl, by rw [ht]; exact hP9, va_K.moved hW.alike hK, hD9⟩, hS.F ht⟩) hS.2.2 dD_letters_40
          · rw [if_pos hc] at hf
            refine lv_iconst (v := 0) hx hb dD_letters_22 (by decide) ?_
            obtain rfl := Option.some.inj hf
            obtain ⟨hP9, hD9⟩ := xsub (wc := [(a0, .inr (4, [.ref a1, .ref a3, .int o23.2.1, .int o23.2.2])), (a1, .inr (1, [.ref a2, .int v1, .int v2])), (a2, .inl (cT 0, 4096, .inl f0)), (a3, .inr (2, [.ref a4, .int v4, .int v5])), (a4, .inl (cT 2, 4096, .inr (.inl f3)))]) hP hD [0, 1, 2, 3, 4] rfl rfl (by decide)
            exact W.zret (v := (0 : Int32)) hx hb hr rfl (fun t ht hW => ⟨⟨(0 : Int32), (), rfl, rfl, by rw [ht]; exact hP9, va_K.moved hW.alike hK, hD9⟩, hS.F ht⟩) hS.2.2 dD_letters_23
        · rw [if_pos hc] at hf
          refine lv_iconst (v := 0) hx hb dD_letters_22 (by decide) ?_
          obtain rfl := Option.some.inj hf
          obtain ⟨hP9, hD9⟩ := xsub (wc := [(a0, .inr (4, [.ref a1, .ref a3, .int o18.2.1, .int o18.2.2])), (a1, .inr (1, [.ref a2, .int v1, .int v2])), (a2, .inl (cT 0, 4096, .inl f0)), (a3, .inr (2, [.ref a4, .int v4, .int v5])), (a4, .inl (cT 2, 4096, .inr (.inl f3)))]) hP hD [0, 1, 2, 3, 4] rfl rfl (by decide)
          exact W.zret (v := (0 : Int32)) hx hb hr rfl (fun t ht hW => ⟨⟨(0 : Int32), (), rfl, rfl, by rw [ht]; exact hP9, va_K.moved hW.alike hK, hD9⟩, hS.F ht⟩) hS.2.2 dD_letters_23
      · rw [if_pos hc] at hf
        refine lv_iconst (v := 0) hx hb dD_letters_22 (by decide) ?_
        obtain rfl := Option.some.inj hf
        obtain ⟨hP9, hD9⟩ := xsub (wc := [(a0, .inr (4, [.ref a1, .ref a3, .int o13.2.1, .int o13.2.2])), (a1, .inr (1, [.ref a2, .int v1, .int v2])), (a2, .inl (cT 0, 4096, .inl f0)), (a3, .inr (2, [.ref a4, .int v4, .int v5])), (a4, .inl (cT 2, 4096, .inr (.inl f3)))]) hP hD [0, 1, 2, 3, 4] rfl rfl (by decide)
        exact W.zret (v := (0 : Int32)) hx hb hr rfl (fun t ht hW => ⟨⟨(0 : Int32), (), rfl, rfl, by rw [ht]; exact hP9, va_K.moved hW.alike hK, hD9⟩, hS.F ht⟩) hS.2.2 dD_letters_23
    · rw [if_pos hc] at hf
      refine lv_iconst (v := 0) hx hb dD_letters_22 (by decide) ?_
      obtain rfl := Option.some.inj hf
      obtain ⟨hP9, hD9⟩ := xsub (wc := [(a0, .inr (4, [.ref a1, .ref a3, .int o8.2.1, .int o8.2.2])), (a1, .inr (1, [.ref a2, .int v1, .int v2])), (a2, .inl (cT 0, 4096, .inl f0)), (a3, .inr (2, [.ref a4, .int v4, .int v5])), (a4, .inl (cT 2, 4096, .inr (.inl f3)))]) hP hD [0, 1, 2, 3, 4] rfl rfl (by decide)
      exact W.zret (v := (0 : Int32)) hx hb hr rfl (fun t ht hW => ⟨⟨(0 : Int32), (), rfl, rfl, by rw [ht]; exact hP9, va_K.moved hW.alike hK, hD9⟩, hS.F ht⟩) hS.2.2 dD_letters_23
  · rw [if_pos hc] at hf
    refine lv_iconst (v := 0) hx hb dD_letters_22 (by decide) ?_
    obtain rfl := Option.some.inj hf
    obtain ⟨hP9, hD9⟩ := xsub (wc := [(a0, .inr (4, [.ref a1, .ref a3, .int o3.2.1, .int o3.2.2])), (a1, .inr (1, [.ref a2, .int v1, .int v2])), (a2, .inl (cT 0, 4096, .inl f0)), (a3, .inr (2, [.ref a4, .int v4, .int v5])), (a4, .inl (cT 2, 4096, .inr (.inl f3)))]) hP hD [0, 1, 2, 3, 4] rfl rfl (by decide)
    exact W.zret (v := (0 : Int32)) hx hb hr rfl (fun t ht hW => ⟨⟨(0 : Int32), (), rfl, rfl, by rw [ht]; exact hP9, va_K.moved hW.alike hK, hD9⟩, hS.F ht⟩) hS.2.2 dD_letters_23
set_option maxHeartbeats 400000000 in
set_option maxRecDepth 100000 in
theorem gD_lettersa (l : Launch) (hl9 : l.stackTraces = false) (D : va_G) (cT : Nat → ClassId) (aK aV : Nat → Nat) (sz n : Nat) (a0 : Nat) (a1 : Nat) (a2 : Nat) (a3 : Nat) (a4 : Nat) (x2 : Int32) (f0 : Nat → Int32) (v1 : Int32) (v2 : Int32) (f3 : Nat → Int64) (v4 : Int32) (v5 : Int32) (v6 : Int32) (v7 : Int32) (out : Int32 × (Nat → Int64) × Int32 × Int32 × Int32 × Int32) (hf : fD_lettersa n x2 f0 v1 v2 f3 v4 v5 v6 v7 = some out) : xMet l yD_letters wyD_letters 4 0 0 85 D cT aK aV sz [.ref a0, .ref (aK 10), .int x2] [(a0, .inr (4, [.ref a1, .ref a3, .int v6, .int v7])), (a1, .inr (1, [.ref a2, .int v1, .int v2])), (a2, .inl (cT 0, 4096, .inl f0)), (a3, .inr (2, [.ref a4, .int v4, .int v5])), (a4, .inl (cT 2, 4096, .inr (.inl f3)))] (fun A => va_Qi (fun (r : Int32) (_ : Unit) => r = out.1) (fun _ t => xB D xcl cT A [(a0, .inr (4, [.ref a1, .ref a3, .int out.2.2.2.2.1, .int out.2.2.2.2.2])), (a1, .inr (1, [.ref a2, .int v1, .int v2])), (a2, .inl (cT 0, 4096, .inl f0)), (a3, .inr (2, [.ref a4, .int out.2.2.1, .int out.2.2.2.1])), (a4, .inl (cT 2, 4096, .inr (.inl out.2.1)))] t) A) := by
  refine Met.ofW (cc := prog_7_method_11_code) (maxL := 4) (ret := (some .boolean)) (by decide) rfl ?_
  intro p e s m args below meth c s₁ B hml hv
  obtain ⟨rfl, hsz, hZ, hP, hK, hD0⟩ := hv
  have hx := B.exec
  have hb := B.bytes
  have hr := B.returns
  have hts := atoms_spec (ws := wyD_letters) B.pre
  have htx := fun w h => hts w (List.mem_cons_of_mem _ h)
  have hown : s.vm.findClass "ValueBench$Reader" = some m.cls := findClass_of_methodNamed B.named
  have hlocks := B.notSynchronized
  subst hsz
  have hD := hD0.self (sz := s.heap.size)
  generalize hAe : va_A [(a0, .inr (4, [.ref a1, .ref a3, .int v6, .int v7])), (a1, .inr (1, [.ref a2, .int v1, .int v2])), (a2, .inl (cT 0, 4096, .inl f0)), (a3, .inr (2, [.ref a4, .int v4, .int v5])), (a4, .inl (cT 2, 4096, .inr (.inl f3)))] s.heap.size = A at hD hZ ⊢
  have hA : ∀ q : Nat, s.heap.size ≤ q → A q := fun q h => by rw [← hAe]; exact Or.inr h
  have hS : va_S A s.heap s.heap [] := va_S.rf
  have hP : va_P D xcl [(a0, .inr (4, [.ref a1, .ref a3, .int v6, .int v7])), (a1, .inr (1, [.ref a2, .int v1, .int v2])), (a2, .inl (cT 0, 4096, .inl f0)), (a3, .inr (2, [.ref a4, .int v4, .int v5])), (a4, .inl (cT 2, 4096, .inr (.inl f3)))] s.heap := hP
  have hl := lv_entry ([.ref a0, .ref (aK 10), .int x2]) (n := 4) (Nat.le_of_ble_eq_true rfl)
  rw [lg_entry_eq]
  generalize (lg_sl ([.ref a0, .ref (aK 10), .int x2]) ++ List.replicate (4 - (lg_sl ([.ref a0, .ref (aK 10), .int x2])).length) Slot.unset).toArray = ls at hl ⊢
  have hl : lv_has ls 4 [(0, .ref a0), (1, .ref (aK 10)), (2, .int x2)] := hl
  unfold fD_lettersa at hf
  refine lv_iconst (v := 0) hx hb dD_letters_0 (by decide) ?_
  refine lv_istore_n (lv' := [(3, .int 0), (0, .ref a0), (1, .ref (aK 10)), (2, .int x2)]) hx hb dD_letters_1 rfl hl (by decide) rfl (fun ls hl => ?_)
  refine lv_iload_n hx hb dD_letters_2 rfl (lv_at hl 0 rfl) ?_
  refine lv_aload_n hx hb dD_letters_3 rfl (lv_at hl 2 rfl) ?_
  obtain ⟨hPc, hDc, hFc⟩ := xcut (wc := []) hP hD hS hA [] rfl rfl (by decide)
  refine va_calli (va_runV (C := "java/lang/String") (As := []) (rest := [.int 0]) ⟨hx, hb, hml, hown, htx⟩ (cJS_length_0 l hl9 D cT aK aV s.heap.size) ⟨callB_of 0 htx (xw_goodC kw_2_70) rfl rfl rfl (htx _ kw_1_6) (htx _ kw_2_67) ⟨by decide, by decide, by decide +kernel⟩ ⟨Nat.le_of_ble_eq_true rfl, Nat.le_of_ble_eq_true rfl⟩, (htx _ kw_2_68), (htx _ kw_2_69)⟩ ⟨xPre_blind, vk_recv hZ.2.2.2.2.2.2.2.2.2.1 (i := 10) (by decide) hS, (fun U hU hW => ⟨rfl, xPre_of hZ hS hFc hPc hDc hK U hU hW⟩)⟩ rfl rfl hl.1 rfl (lv_room (Nat.le_of_ble_eq_true rfl)) dD_letters_4 ⟨Nat.le_of_ble_eq_true rfl, Nat.le_of_ble_eq_true rfl⟩) hS (fun q _ h => hFc q h) hFc (fun r1 u9 t H1 locs ht hvm hr9 hB hz1 hk1 hS => ?_)
  obtain ⟨hP1, hK1, hD1⟩ := hB
  rw [ht] at hP1
  obtain ⟨hP, hD⟩ := xjoin (W := [(a0, .inr (4, [.ref a1, .ref a3, .int v6, .int v7])), (a1, .inr (1, [.ref a2, .int v1, .int v2])), (a2, .inl (cT 0, 4096, .inl f0)), (a3, .inr (2, [.ref a4, .int v4, .int v5])), (a4, .inl (cT 2, 4096, .inr (.inl f3)))]) hP hD [] [0, 1, 2, 3, 4] 5 rfl rfl (by decide) (by decide) hk1 hFc hP1 hD1
  generalize H1 = H at hP hS ⊢
  rw [hr9]
  refine W.eq (g2 := F0 m 7 ls [.int 4, .int 0]) rfl ?_
  refine lv_icmp_ge (tgt := 30) hx hb dD_letters_7 (by decide) (fun h => ((by revert h; decide : False)).elim) (fun _ => ?_)
  refine lv_aload_n hx hb dD_letters_10 rfl (lv_at hl 1 rfl) ?_
  refine lv_aload_n hx hb dD_letters_11 rfl (lv_at hl 2 rfl) ?_
  refine lv_iload_n hx hb dD_letters_12 rfl (lv_at hl 0 rfl) ?_
  obtain ⟨hPc, hDc, hFc⟩ := xcut (wc := []) hP hD hS hA [] rfl rfl (by decide)
  refine va_calli (va_runV (C := "java/lang/String") (As := [.int 0]) (rest := [.ref a0]) ⟨hx, hb, hml, hown, htx⟩ (cJS_charAt_0 l hl9 D cT aK aV H.size) ⟨callB_of 1 htx (xw_goodC kw_2_80) rfl rfl rfl (htx _ kw_1_6) (htx _ kw_2_77) ⟨by decide, by decide, by decide +kernel⟩ ⟨Nat.le_of_ble_eq_true rfl, Nat.le_of_ble_eq_true rfl⟩, (htx _ kw_2_78), (htx _ kw_2_79)⟩ ⟨xPre_blind, vk_recv hZ.2.2.2.2.2.2.2.2.2.1 (i := 10) (by decide) hS, (fun U hU hW => ⟨rfl, xPre_of hZ hS hFc hPc hDc hK U hU hW⟩)⟩ rfl rfl hl.1 rfl (lv_room (Nat.le_of_ble_eq_true rfl)) dD_letters_13 ⟨Nat.le_of_ble_eq_true rfl, Nat.le_of_ble_eq_true rfl⟩) hS (fun q _ h => hFc q h) hFc (fun r2 u9 t H1 locs ht hvm hr9 hB hz1 hk1 hS => ?_)
  obtain ⟨hP1, hK1, hD1⟩ := hB
  rw [ht] at hP1
  obtain ⟨hP, hD⟩ := xjoin (W := [(a0, .inr (4, [.ref a1, .ref a3, .int v6, .int v7])), (a1, .inr (1, [.ref a2, .int v1, .int v2])), (a2, .inl (cT 0, 4096, .inl f0)), (a3, .inr (2, [.ref a4, .int v4, .int v5])), (a4, .inl (cT 2, 4096, .inr (.inl f3)))]) hP hD [] [0, 1, 2, 3, 4] 5 rfl rfl (by decide) (by decide) hk1 hFc hP1 hD1
  generalize H1 = H at hP hS ⊢
  rw [hr9]
  refine W.eq (g2 := F0 m 16 ls [.int 110, .ref a0]) rfl ?_
  obtain ⟨o3, hq4, hf⟩ := xbind hf
  obtain ⟨hPc, hDc, hFc⟩ := xcut (wc := [(a0, .inr (4, [.ref a1, .ref a3, .int v6, .int v7])), (a1, .inr (1, [.ref a2, .int v1, .int v2])), (a2, .inl (cT 0, 4096, .inl f0)), (a3, .inr (2, [.ref a4, .int v4, .int v5])), (a4, .inl (cT 2, 4096, .inr (.inl f3)))]) hP hD hS hA [0, 1, 2, 3, 4] rfl rfl (by decide)
  refine va_calli (va_runV (C := "ValueBench$Reader") (As := [.int 110]) (rest := []) ⟨hx, hb, hml, hown, htx⟩ (gD_take l hl9 D cT aK aV H.size n a0 a1 a2 a3 a4 (110 : Int32) f0 v1 v2 f3 v4 v5 v6 v7 o3 hq4) ⟨callB_of 1 htx (xw_goodC kw_2_118) rfl rfl rfl (htx _ kw_1_16) (htx _ kw_2_115) ⟨by decide, by decide, by decide +kernel⟩ ⟨Nat.le_of_ble_eq_true rfl, Nat.le_of_ble_eq_true rfl⟩, (htx _ kw_2_117), (htx _ kp_D_take)⟩ ⟨xPre_blind, va_recv hK hP (ci := 4) rfl (q0 := 0) rfl, (fun U hU hW => ⟨rfl, xPre_of hZ hS hFc hPc hDc hK U hU hW⟩)⟩ rfl rfl hl.1 rfl (lv_room (Nat.le_of_ble_eq_true rfl)) dD_letters_16 ⟨Nat.le_of_ble_eq_true rfl, Nat.le_of_ble_eq_true rfl⟩) hS (fun q _ h => hFc q h) hFc (fun r5 u9 t H1 locs ht hvm hr9 hB hz1 hk1 hS => ?_)
  obtain ⟨hP1, hK1, hD1⟩ := hB
  rw [ht] at hP1
  obtain ⟨hP, hD⟩ := xjoin (W := [(a0, .inr (4, [.ref a1, .ref a3, .int o3.2.1, .int o3.2.2])), (a1, .inr (1, [.ref a2, .int v1, .int v2])), (a2, .inl (cT 0, 4096, .inl f0)), (a3, .inr (2, [.ref a4, .int v4, .int v5])), (a4, .inl (cT 2, 4096, .inr (.inl f3)))]) hP hD [0, 1, 2, 3, 4] [] 0 rfl rfl (by decide) (by decide) hk1 hFc hP1 hD1
  generalize H1 = H at hP hS ⊢
  rw [hr9]
  refine W.eq (g2 := F0 m 19 ls [.int o3.1]) rfl ?_
  refine lv_if_ne (tgt := 24) hx hb dD_letters_19 (by decide) (fun hc => ?_) (fun hc => ?_)
  · rw [if_neg hc] at hf
    refine lv_iinc (v := 1) (lv' := [(3, .int 1), (0, .ref a0), (1, .ref (aK 10)), (2, .int x2)]) hx hb dD_letters_24 hl (k := 0) rfl rfl (by decide) rfl (fun ls hl => ?_)
    refine lv_goto (tgt := 2) hx hb dD_letters_27 (by decide) ?_
    refine lv_iload_n hx hb dD_letters_2 rfl (lv_at hl 0 rfl) ?_
    refine lv_aload_n hx hb dD_letters_3 rfl (lv_at hl 2 rfl) ?_
    obtain ⟨hPc, hDc, hFc⟩ := xcut (wc := []) hP hD hS hA [] rfl rfl (by decide)
    refine va_calli (va_runV (C := "java/lang/String") (As := []) (rest := [.int 1]) ⟨hx, hb, hml, hown, htx⟩ (cJS_length_0 l hl9 D cT aK aV H.size) ⟨callB_of 0 htx (xw_goodC kw_2_70) rfl rfl rfl (htx _ kw_1_6) (htx _ kw_2_67) ⟨by decide, by decide, by decide +kernel⟩ ⟨Nat.le_of_ble_eq_true rfl, Nat.le_of_ble_eq_true rfl⟩, (htx _ kw_2_68), (htx _ kw_2_69)⟩ ⟨xPre_blind, vk_recv hZ.2.2.2.2.2.2.2.2.2.1 (i := 10) (by decide) hS, (fun U hU hW => ⟨rfl, xPre_of hZ hS hFc hPc hDc hK U hU hW⟩)⟩ rfl rfl hl.1 rfl (lv_room (Nat.le_of_ble_eq_true rfl)) dD_letters_4 ⟨Nat.le_of_ble_eq_true rfl, Nat.le_of_ble_eq_true rfl⟩) hS (fun q _ h => hFc q h) hFc (fun r6 u9 t H1 locs ht hvm hr9 hB hz1 hk1 hS => ?_)
    obtain ⟨hP1, hK1, hD1⟩ := hB
    rw [ht] at hP1
    obtain ⟨hP, hD⟩ := xjoin (W := [(a0, .inr (4, [.ref a1, .ref a3, .int o3.2.1, .int o3.2.2])), (a1, .inr (1, [.ref a2, .int v1, .int v2])), (a2, .inl (cT 0, 4096, .inl f0)), (a3, .inr (2, [.ref a4, .int v4, .int v5])), (a4, .inl (cT 2, 4096, .inr (.inl f3)))]) hP hD [] [0, 1, 2, 3, 4] 5 rfl rfl (by decide) (by decide) hk1 hFc hP1 hD1
    generalize H1 = H at hP hS ⊢
    rw [hr9]
    refine W.eq (g2 := F0 m 7 ls [.int 4, .int 1]) rfl ?_
    refine lv_icmp_ge (tgt := 30) hx hb dD_letters_7 (by decide) (fun h => ((by revert h; decide : False)).elim) (fun _ => ?_)
    refine lv_aload_n hx hb dD_letters_10 rfl (lv_at hl 1 rfl) ?_
    refine lv_aload_n hx hb dD_letters_11 rfl (lv_at hl 2 rfl) ?_
    refine lv_iload_n hx hb dD_letters_12 rfl (lv_at hl 0 rfl) ?_
    obtain ⟨hPc, hDc, hFc⟩ := xcut (wc := []) hP hD hS hA [] rfl rfl (by decide)
    refine va_calli (va_runV (C := "java/lang/String") (As := [.int 1]) (rest := [.ref a0]) ⟨hx, hb, hml, hown, htx⟩ (cJS_charAt_1 l hl9 D cT aK aV H.size) ⟨callB_of 1 htx (xw_goodC kw_2_80) rfl rfl rfl (htx _ kw_1_6) (htx _ kw_2_77) ⟨by decide, by decide, by decide +kernel⟩ ⟨Nat.le_of_ble_eq_true rfl, Nat.le_of_ble_eq_true rfl⟩, (htx _ kw_2_78), (htx _ kw_2_79)⟩ ⟨xPre_blind, vk_recv hZ.2.2.2.2.2.2.2.2.2.1 (i := 10) (by decide) hS, (fun U hU hW => ⟨rfl, xPre_of hZ hS hFc hPc hDc hK U hU hW⟩)⟩ rfl rfl hl.1 rfl (lv_room (Nat.le_of_ble_eq_true rfl)) dD_letters_13 ⟨Nat.le_of_ble_eq_true rfl, Nat.le_of_ble_eq_true rfl⟩) hS (fun q _ h => hFc q h) hFc (fun r7 u9 t H1 locs ht hvm hr9 hB hz1 hk1 hS => ?_)
    obtain ⟨hP1, hK1, hD1⟩ := hB
    rw [ht] at hP1
    obtain ⟨hP, hD⟩ := xjoin (W := [(a0, .inr (4, [.ref a1, .ref a3, .int o3.2.1, .int o3.2.2])), (a1, .inr (1, [.ref a2, .int v1, .int v2])), (a2, .inl (cT 0, 4096, .inl f0)), (a3, .inr (2, [.ref a4, .int v4, .int v5])), (a4, .inl (cT 2, 4096, .inr (.inl f3)))]) hP hD [] [0, 1, 2, 3, 4] 5 rfl rfl (by decide) (by decide) hk1 hFc hP1 hD1
    generalize H1 = H at hP hS ⊢
    rw [hr9]
    refine W.eq (g2 := F0 m 16 ls [.int 117, .ref a0]) rfl ?_
    obtain ⟨o8, hq9, hf⟩ := xbind hf
    obtain ⟨hPc, hDc, hFc⟩ := xcut (wc := [(a0, .inr (4, [.ref a1, .ref a3, .int o3.2.1, .int o3.2.2])), (a1, .inr (1, [.ref a2, .int v1, .int v2])), (a2, .inl (cT 0, 4096, .inl f0)), (a3, .inr (2, [.ref a4, .int v4, .int v5])), (a4, .inl (cT 2, 4096, .inr (.inl f3)))]) hP hD hS hA [0, 1, 2, 3, 4] rfl rfl (by decide)
    refine va_calli (va_runV (C := "ValueBench$Reader") (As := [.int 117]) (rest := []) ⟨hx, hb, hml, hown, htx⟩ (gD_take l hl9 D cT aK aV H.size n a0 a1 a2 a3 a4 (117 : Int32) f0 v1 v2 f3 v4 v5 o3.2.1 o3.2.2 o8 hq9) ⟨callB_of 1 htx (xw_goodC kw_2_118) rfl rfl rfl (htx _ kw_1_16) (htx _ kw_2_115) ⟨by decide, by decide, by decide +kernel⟩ ⟨Nat.le_of_ble_eq_true rfl, Nat.le_of_ble_eq_true rfl⟩, (htx _ kw_2_117), (htx _ kp_D_take)⟩ ⟨xPre_blind, va_recv hK hP (ci := 4) rfl (q0 := 0) rfl, (fun U hU hW => ⟨rfl, xPre_of hZ hS hFc hPc hDc hK U hU hW⟩)⟩ rfl rfl hl.1 rfl (lv_room (Nat.le_of_ble_eq_true rfl)) dD_letters_16 ⟨Nat.le_of_ble_eq_true rfl, Nat.le_of_ble_eq_true rfl⟩) hS (fun q _ h => hFc q h) hFc (fun r10 u9 t H1 locs ht hvm hr9 hB hz1 hk1 hS => ?_)
    obtain ⟨hP1, hK1, hD1⟩ := hB
    rw [ht] at hP1
    obtain ⟨hP, hD⟩ := xjoin (W := [(a0, .inr (4, [.ref a1, .ref a3, .int o8.2.1, .int o8.2.2])), (a1, .inr (1, [.ref a2, .int v1, .int v2])), (a2, .inl (cT 0, 4096, .inl f0)), (a3, .inr (2, [.ref a4, .int v4, .int v5])), (a4, .inl (cT 2, 4096, .inr (.inl f3)))]) hP hD [0, 1, 2, 3, 4] [] 0 rfl rfl (by decide) (by decide) hk1 hFc hP1 hD1
    generalize H1 = H at hP hS ⊢
    rw [hr9]
    refine W.eq (g2 := F0 m 19 ls [.int o8.1]) rfl ?_
    refine lv_if_ne (tgt := 24) hx hb dD_letters_19 (by decide) (fun hc => ?_) (fun hc => ?_)
    · rw [if_neg hc] at hf
      refine lv_iinc (v := 2) (lv' := [(3, .int 2), (0, .ref a0), (1, .ref (aK 10)), (2, .int x2)]) hx hb dD_letters_24 hl (k := 0) rfl rfl (by decide) rfl (fun ls hl => ?_)
      refine lv_goto (tgt := 2) hx hb dD_letters_27 (by decide) ?_
      refine lv_iload_n hx hb dD_letters_2 rfl (lv_at hl 0 rfl) ?_
      refine lv_aload_n hx hb dD_letters_3 rfl (lv_at hl 2 rfl) ?_
      obtain ⟨hPc, hDc, hFc⟩ := xcut (wc := []) hP hD hS hA [] rfl rfl (by decide)
      refine va_calli (va_runV (C := "java/lang/String") (As := []) (rest := [.int 2]) ⟨hx, hb, hml, hown, htx⟩ (cJS_length_0 l hl9 D cT aK aV H.size) ⟨callB_of 0 htx (xw_goodC kw_2_70) rfl rfl rfl (htx _ kw_1_6) (htx _ kw_2_67) ⟨by decide, by decide, by decide +kernel⟩ ⟨Nat.le_of_ble_eq_true rfl, Nat.le_of_ble_eq_true rfl⟩, (htx _ kw_2_68), (htx _ kw_2_69)⟩ ⟨xPre_blind, vk_recv hZ.2.2.2.2.2.2.2.2.2.1 (i := 10) (by decide) hS, (fun U hU hW => ⟨rfl, xPre_of hZ hS hFc hPc hDc hK U hU hW⟩)⟩ rfl rfl hl.1 rfl (lv_room (Nat.le_of_ble_eq_true rfl)) dD_letters_4 ⟨Nat.le_of_ble_eq_true rfl, Nat.le_of_ble_eq_true rfl⟩) hS (fun q _ h => hFc q h) hFc (fun r11 u9 t H1 locs ht hvm hr9 hB hz1 hk1 hS => ?_)
      obtain ⟨hP1, hK1, hD1⟩ := hB
      rw [ht] at hP1
      obtain ⟨hP, hD⟩ := xjoin (W := [(a0, .inr (4, [.ref a1, .ref a3, .int o8.2.1, .int o8.2.2])), (a1, .inr (1, [.ref a2, .int v1, .int v2])), (a2, .inl (cT 0, 4096, .inl f0)), (a3, .inr (2, [.ref a4, .int v4, .int v5])), (a4, .inl (cT 2, 4096, .inr (.inl f3)))]) hP hD [] [0, 1, 2, 3, 4] 5 rfl rfl (by decide) (by decide) hk1 hFc hP1 hD1
      generalize H1 = H at hP hS ⊢
      rw [hr9]
      refine W.eq (g2 := F0 m 7 ls [.int 4, .int 2]) rfl ?_
      refine lv_icmp_ge (tgt := 30) hx hb dD_letters_7 (by decide) (fun h => ((by revert h; decide : False)).elim) (fun _ => ?_)
      refine lv_aload_n hx hb dD_letters_10 rfl (lv_at hl 1 rfl) ?_
      refine lv_aload_n hx hb dD_letters_11 rfl (lv_at hl 2 rfl) ?_
      refine lv_iload_n hx hb dD_letters_12 rfl (lv_at hl 0 rfl) ?_
      obtain ⟨hPc, hDc, hFc⟩ := xcut (wc := []) hP hD hS hA [] rfl rfl (by decide)
      refine va_calli (va_runV (C := "java/lang/String") (As := [.int 2]) (rest := [.ref a0]) ⟨hx, hb, hml, hown, htx⟩ (cJS_charAt_2 l hl9 D cT aK aV H.size) ⟨callB_of 1 htx (xw_goodC kw_2_80) rfl rfl rfl (htx _ kw_1_6) (htx _ kw_2_77) ⟨by decide, by decide, by decide +kernel⟩ ⟨Nat.le_of_ble_eq_true rfl, Nat.le_of_ble_eq_true rfl⟩, (htx _ kw_2_78), (htx _ kw_2_79)⟩ ⟨xPre_blind, vk_recv hZ.2.2.2.2.2.2.2.2.2.1 (i := 10) (by decide) hS, (fun U hU hW => ⟨rfl, xPre_of hZ hS hFc hPc hDc hK U hU hW⟩)⟩ rfl rfl hl.1 rfl (lv_room (Nat.le_of_ble_eq_true rfl)) dD_letters_13 ⟨Nat.le_of_ble_eq_true rfl, Nat.le_of_ble_eq_true rfl⟩) hS (fun q _ h => hFc q h) hFc (fun r12 u9 t H1 locs ht hvm hr9 hB hz1 hk1 hS => ?_)
      obtain ⟨hP1, hK1, hD1⟩ := hB
      rw [ht] at hP1
      obtain ⟨hP, hD⟩ := xjoin (W := [(a0, .inr (4, [.ref a1, .ref a3, .int o8.2.1, .int o8.2.2])), (a1, .inr (1, [.ref a2, .int v1, .int v2])), (a2, .inl (cT 0, 4096, .inl f0)), (a3, .inr (2, [.ref a4, .int v4, .int v5])), (a4, .inl (cT 2, 4096, .inr (.inl f3)))]) hP hD [] [0, 1, 2, 3, 4] 5 rfl rfl (by decide) (by decide) hk1 hFc hP1 hD1
      generalize H1 = H at hP hS ⊢
      rw [hr9]
      refine W.eq (g2 := F0 m 16 ls [.int 108, .ref a0]) rfl ?_
      obtain ⟨o13, hq14, hf⟩ := xbind hf
      obtain ⟨hPc, hDc, hFc⟩ := xcut (wc := [(a0, .inr (4, [.ref a1, .ref a3, .int o8.2.1, .int o8.2.2])), (a1, .inr (1, [.ref a2, .int v1, .int v2])), (a2, .inl (cT 0, 4096, .inl f0)), (a3, .inr (2, [.ref a4, .int v4, .int v5])), (a4, .inl (cT 2, 4096, .inr (.inl f3)))]) hP hD hS hA [0, 1, 2, 3, 4] rfl rfl (by decide)
      refine va_calli (va_runV (C := "ValueBench$Reader") (As := [.int 108]) (rest := []) ⟨hx, hb, hml, hown, htx⟩ (gD_take l hl9 D cT aK aV H.size n a0 a1 a2 a3 a4 (108 : Int32) f0 v1 v2 f3 v4 v5 o8.2.1 o8.2.2 o13 hq14) ⟨callB_of 1 htx (xw_goodC kw_2_118) rfl rfl rfl (htx _ kw_1_16) (htx _ kw_2_115) ⟨by decide, by decide, by decide +kernel⟩ ⟨Nat.le_of_ble_eq_true rfl, Nat.le_of_ble_eq_true rfl⟩, (htx _ kw_2_117), (htx _ kp_D_take)⟩ ⟨xPre_blind, va_recv hK hP (ci := 4) rfl (q0 := 0) rfl, (fun U hU hW => ⟨rfl, xPre_of hZ hS hFc hPc hDc hK U hU hW⟩)⟩ rfl rfl hl.1 rfl (lv_room (Nat.le_of_ble_eq_true rfl)) dD_letters_16 ⟨Nat.le_of_ble_eq_true rfl, Nat.le_of_ble_eq_true rfl⟩) hS (fun q _ h => hFc q h) hFc (fun r15 u9 t H1 locs ht hvm hr9 hB hz1 hk1 hS => ?_)
      obtain ⟨hP1, hK1, hD1⟩ := hB
      rw [ht] at hP1
      obtain ⟨hP, hD⟩ := xjoin (W := [(a0, .inr (4, [.ref a1, .ref a3, .int o13.2.1, .int o13.2.2])), (a1, .inr (1, [.ref a2, .int v1, .int v2])), (a2, .inl (cT 0, 4096, .inl f0)), (a3, .inr (2, [.ref a4, .int v4, .int v5])), (a4, .inl (cT 2, 4096, .inr (.inl f3)))]) hP hD [0, 1, 2, 3, 4] [] 0 rfl rfl (by decide) (by decide) hk1 hFc hP1 hD1
      generalize H1 = H at hP hS ⊢
      rw [hr9]
      refine W.eq (g2 := F0 m 19 ls [.int o13.1]) rfl ?_
      refine lv_if_ne (tgt := 24) hx hb dD_letters_19 (by decide) (fun hc => ?_) (fun hc => ?_)
      · rw [if_neg hc] at hf
        refine lv_iinc (v := 3) (lv' := [(3, .int 3), (0, .ref a0), (1, .ref (aK 10)), (2, .int x2)]) hx hb dD_letters_24 hl (k := 0) rfl rfl (by decide) rfl (fun ls hl => ?_)
        refine lv_goto (tgt := 2) hx hb dD_letters_27 (by decide) ?_
        refine lv_iload_n hx hb dD_letters_2 rfl (lv_at hl 0 rfl) ?_
        refine lv_aload_n hx hb dD_letters_3 rfl (lv_at hl 2 rfl) ?_
        obtain ⟨hPc, hDc, hFc⟩ := xcut (wc := []) hP hD hS hA [] rfl rfl (by decide)
        refine va_calli (va_runV (C := "java/lang/String") (As := []) (rest := [.int 3]) ⟨hx, hb, hml, hown, htx⟩ (cJS_length_0 l hl9 D cT aK aV H.size) ⟨callB_of 0 htx (xw_goodC kw_2_70) rfl rfl rfl (htx _ kw_1_6) (htx _ kw_2_67) ⟨by decide, by decide, by decide +kernel⟩ ⟨Nat.le_of_ble_eq_true rfl, Nat.le_of_ble_eq_true rfl⟩, (htx _ kw_2_68), (htx _ kw_2_69)⟩ ⟨xPre_blind, vk_recv hZ.2.2.2.2.2.2.2.2.2.1 (i := 10) (by decide) hS, (fun U hU hW => ⟨rfl, xPre_of hZ hS hFc hPc hDc hK U hU hW⟩)⟩ rfl rfl hl.1 rfl (lv_room (Nat.le_of_ble_eq_true rfl)) dD_letters_4 ⟨Nat.le_of_ble_eq_true rfl, Nat.le_of_ble_eq_true rfl⟩) hS (fun q _ h => hFc q h) hFc (fun r16 u9 t H1 locs ht hvm hr9 hB hz1 hk1 hS => ?_)
        obtain ⟨hP1, hK1, hD1⟩ := hB
        rw [ht] at hP1
        obtain ⟨hP, hD⟩ := xjoin (W := [(a0, .inr (4, [.ref a1, .ref a3, .int o13.2.1, .int o13.2.2])), (a1, .inr (1, [.ref a2, .int v1, .int v2])), (a2, .inl (cT 0, 4096, .inl f0)), (a3, .inr (2, [.ref a4, .int v4, .int v5])), (a4, .inl (cT 2, 4096, .inr (.inl f3)))]) hP hD [] [0, 1, 2, 3, 4] 5 rfl rfl (by decide) (by decide) hk1 hFc hP1 hD1
        generalize H1 = H at hP hS ⊢
        rw [hr9]
        refine W.eq (g2 := F0 m 7 ls [.int 4, .int 3]) rfl ?_
        refine lv_icmp_ge (tgt := 30) hx hb dD_letters_7 (by decide) (fun h => ((by revert h; decide : False)).elim) (fun _ => ?_)
        refine lv_aload_n hx hb dD_letters_10 rfl (lv_at hl 1 rfl) ?_
        refine lv_aload_n hx hb dD_letters_11 rfl (lv_at hl 2 rfl) ?_
        refine lv_iload_n hx hb dD_letters_12 rfl (lv_at hl 0 rfl) ?_
        obtain ⟨hPc, hDc, hFc⟩ := xcut (wc := []) hP hD hS hA [] rfl rfl (by decide)
        refine va_calli (va_runV (C := "java/lang/String") (As := [.int 3]) (rest := [.ref a0]) ⟨hx, hb, hml, hown, htx⟩ (cJS_charAt_3 l hl9 D cT aK aV H.size) ⟨callB_of 1 htx (xw_goodC kw_2_80) rfl rfl rfl (htx _ kw_1_6) (htx _ kw_2_77) ⟨by decide, by decide, by decide +kernel⟩ ⟨Nat.le_of_ble_eq_true rfl, Nat.le_of_ble_eq_true rfl⟩, (htx _ kw_2_78), (htx _ kw_2_79)⟩ ⟨xPre_blind, vk_recv hZ.2.2.2.2.2.2.2.2.2.1 (i := 10) (by decide) hS, (fun U hU hW => ⟨rfl, xPre_of hZ hS hFc hPc hDc hK U hU hW⟩)⟩ rfl rfl hl.1 rfl (lv_room (Nat.le_of_ble_eq_true rfl)) dD_letters_13 ⟨Nat.le_of_ble_eq_true rfl, Nat.le_of_ble_eq_true rfl⟩) hS (fun q _ h => hFc q h) hFc (fun r17 u9 t H1 locs ht hvm hr9 hB hz1 hk1 hS => ?_)
        obtain ⟨hP1, hK1, hD1⟩ := hB
        rw [ht] at hP1
        obtain ⟨hP, hD⟩ := xjoin (W := [(a0, .inr (4, [.ref a1, .ref a3, .int o13.2.1, .int o13.2.2])), (a1, .inr (1, [.ref a2, .int v1, .int v2])), (a2, .inl (cT 0, 4096, .inl f0)), (a3, .inr (2, [.ref a4, .int v4, .int v5])), (a4, .inl (cT 2, 4096, .inr (.inl f3)))]) hP hD [] [0, 1, 2, 3, 4] 5 rfl rfl (by decide) (by decide) hk1 hFc hP1 hD1
        generalize H1 = H at hP hS ⊢
        rw [hr9]
        refine W.eq (g2 := F0 m 16 ls [.int 108, .ref a0]) rfl ?_
        obtain ⟨o18, hq19, hf⟩ := xbind hf
        obtain ⟨hPc, hDc, hFc⟩ := xcut (wc := [(a0, .inr (4, [.ref a1, .ref a3, .int o13.2.1, .int o13.2.2])), (a1, .inr (1, [.ref a2, .int v1, .int v2])), (a2, .inl (cT 0, 4096, .inl f0)), (a3, .inr (2, [.ref a4, .int v4, .int v5])), (a4, .inl (cT 2, 4096, .inr (.inl f3)))]) hP hD hS hA [0, 1, 2, 3, 4] rfl rfl (by decide)
        refine va_calli (va_runV (C := "ValueBench$Reader") (As := [.int 108]) (rest := []) ⟨hx, hb, hml, hown, htx⟩ (gD_take l hl9 D cT aK aV H.size n a0 a1 a2 a3 a4 (108 : Int32) f0 v1 v2 f3 v4 v5 o13.2.1 o13.2.2 o18 hq19) ⟨callB_of 1 htx (xw_goodC kw_2_118) rfl rfl rfl (htx _ kw_1_16) (htx _ kw_2_115) ⟨by decide, by decide, by decide +kernel⟩ ⟨Nat.le_of_ble_eq_true rfl, Nat.le_of_ble_eq_true rfl⟩, (htx _ kw_2_117), (htx _ kp_D_take)⟩ ⟨xPre_blind, va_recv hK hP (ci := 4) rfl (q0 := 0) rfl, (fun U hU hW => ⟨rfl, xPre_of hZ hS hFc hPc hDc hK U hU hW⟩)⟩ rfl rfl hl.1 rfl (lv_room (Nat.le_of_ble_eq_true rfl)) dD_letters_16 ⟨Nat.le_of_ble_eq_true rfl, Nat.le_of_ble_eq_true rfl⟩) hS (fun q _ h => hFc q h) hFc (fun r20 u9 t H1 locs ht hvm hr9 hB hz1 hk1 hS => ?_)
        obtain ⟨hP1, hK1, hD1⟩ := hB
        rw [ht] at hP1
        obtain ⟨hP, hD⟩ := xjoin (W := [(a0, .inr (4, [.ref a1, .ref a3, .int o18.2.1, .int o18.2.2])), (a1, .inr (1, [.ref a2, .int v1, .int v2])), (a2, .inl (cT 0, 4096, .inl f0)), (a3, .inr (2, [.ref a4, .int v4, .int v5])), (a4, .inl (cT 2, 4096, .inr (.inl f3)))]) hP hD [0, 1, 2, 3, 4] [] 0 rfl rfl (by decide) (by decide) hk1 hFc hP1 hD1
        generalize H1 = H at hP hS ⊢
        rw [hr9]
        refine W.eq (g2 := F0 m 19 ls [.int o18.1]) rfl ?_
        refine lv_if_ne (tgt := 24) hx hb dD_letters_19 (by decide) (fun hc => ?_) (fun hc => ?_)
        · rw [if_neg hc] at hf
          refine lv_iinc (v := 4) (lv' := [(3, .int 4), (0, .ref a0), (1, .ref (aK 10)), (2, .int x2)]) hx hb dD_letters_24 hl (k := 0) rfl rfl (by decide) rfl (fun ls hl => ?_)
          refine lv_goto (tgt := 2) hx hb dD_letters_27 (by decide) ?_
          refine lv_iload_n hx hb dD_letters_2 rfl (lv_at hl 0 rfl) ?_
          refine lv_aload_n hx hb dD_letters_3 rfl (lv_at hl 2 rfl) ?_
          obtain ⟨hPc, hDc, hFc⟩ := xcut (wc := []) hP hD hS hA [] rfl rfl (by decide)
          refine va_calli (va_runV (C := "java/lang/String") (As := []) (rest := [.int 4]) ⟨hx, hb, hml, hown, htx⟩ (cJS_length_0 l hl9 D cT aK aV H.size) ⟨callB_of 0 htx (xw_goodC kw_2_70) rfl rfl rfl (htx _ kw_1_6) (htx _ kw_2_67) ⟨by decide, by decide, by decide +kernel⟩ ⟨Nat.le_of_ble_eq_true rfl, Nat.le_of_ble_eq_true rfl⟩, (htx _ kw_2_68), (htx _ kw_2_69)⟩ ⟨xPre_blind, vk_recv hZ.2.2.2.2.2.2.2.2.2.1 (i := 10) (by decide) hS, (fun U hU hW => ⟨rfl, xPre_of hZ hS hFc hPc hDc hK U hU hW⟩)⟩ rfl rfl hl.1 rfl (lv_room (Nat.le_of_ble_eq_true rfl)) dD_letters_4 ⟨Nat.le_of_ble_eq_true rfl, Nat.le_of_ble_eq_true rfl⟩) hS (fun q _ h => hFc q h) hFc (fun r21 u9 t H1 locs ht hvm hr9 hB hz1 hk1 hS => ?_)
          obtain ⟨hP1, hK1, hD1⟩ := hB
          rw [ht] at hP1
          obtain ⟨hP, hD⟩ := xjoin (W := [(a0, .inr (4, [.ref a1, .ref a3, .int o18.2.1, .int o18.2.2])), (a1, .inr (1, [.ref a2, .int v1, .int v2])), (a2, .inl (cT 0, 4096, .inl f0)), (a3, .inr (2, [.ref a4, .int v4, .int v5])), (a4, .inl (cT 2, 4096, .inr (.inl f3)))]) hP hD [] [0, 1, 2, 3, 4] 5 rfl rfl (by decide) (by decide) hk1 hFc hP1 hD1
          generalize H1 = H at hP hS ⊢
          rw [hr9]
          refine W.eq (g2 := F0 m 7 ls [.int 4, .int 4]) rfl ?_
          refine lv_icmp_ge (tgt := 30) hx hb dD_letters_7 (by decide) (fun _ => ?_) (fun h => ((by revert h; decide : False)).elim)
          refine lv_aload_n hx hb dD_letters_30 rfl (lv_at hl 1 rfl) ?_
          refine va_get (D := D) (ci := 4) (v := .ref a3) (C := "ValueBench$Reader") (T := TD) (N := 4) hx hb htx inD hown hK hP 0 rfl rfl 1 (by decide) (htx _ kw_2_30) (fun _ h9 => h9) rfl dD_letters_31 ?_
          refine lv_iload_n hx hb dD_letters_34 rfl (lv_at hl 3 rfl) ?_
          refine lv_i2l hx hb dD_letters_35 rfl ?_
          obtain ⟨o22, hq23, hf⟩ := xbind hf
          obtain ⟨hPc, hDc, hFc⟩ := xcut (wc := [(a3, .inr (2, [.ref a4, .int v4, .int v5])), (a4, .inl (cT 2, 4096, .inr (.inl f3)))]) hP hD hS hA [3, 4] rfl rfl (by decide)
          refine va_callv (va_runV (C := "ValueBench$Row") (As := [.long x2.toInt64]) (rest := []) ⟨hx, hb, hml, hown, htx⟩ (gR_put l hl9 D cT aK aV H.size n a3 a4 x2.toInt64 f3 v4 v5 o22 hq23) ⟨callB_of 1 htx (xw_goodC kw_2_126) rfl rfl rfl (htx _ kw_1_4) (htx _ kw_2_123) ⟨by decide, by decide, by decide +kernel⟩ ⟨Nat.le_of_ble_eq_true rfl, Nat.le_of_ble_eq_true rfl⟩, (htx _ kw_2_124), (htx _ kw_2_125)⟩ ⟨xPre_blind, va_recv hK hP (ci := 2) rfl (q0 := 3) rfl, (fun U hU hW => ⟨rfl, xPre_of hZ hS hFc hPc hDc hK U hU hW⟩)⟩ rfl rfl hl.1 rfl (lv_room (Nat.le_of_ble_eq_true rfl)) dD_letters_36 ⟨Nat.le_of_ble_eq_true rfl, Nat.le_of_ble_eq_true rfl⟩) hS (fun q _ h => hFc q h) hFc (fun u9 t H1 locs ht hvm hr9 hB hz1 hk1 hS => ?_)
          obtain ⟨hP1, hK1, hD1⟩ := hB
          rw [ht] at hP1
          obtain ⟨hP, hD⟩ := xjoin (W := [(a0, .inr (4, [.ref a1, .ref a3, .int o18.2.1, .int o18.2.2])), (a1, .inr (1, [.ref a2, .int v1, .int v2])), (a2, .inl (cT 0, 4096, .inl f0)), (a3, .inr (2, [.ref a4, .int o22.2.1, .int o22.2.2])), (a4, .inl (cT 2, 4096, .inr (.inl o22.1)))]) hP hD [3, 4] [0, 1, 2] 3 rfl rfl (by decide) (by decide) hk1 hFc hP1 hD1
          generalize H1 = H at hP hS ⊢
          refine lv_iconst (v := 1) hx hb dD_letters_39 (by decide) ?_
          obtain rfl := Option.some.inj hf
          obtain ⟨hP9, hD9⟩ := xsub (wc := [(a0, .inr (4, [.ref a1, .ref a3, .int o18.2.1, .int o18.2.2])), (a1, .inr (1, [.ref a2, .int v1, .int v2])), (a2, .inl (cT 0, 4096, .inl f0)), (a3, .inr (2, [.ref a4, .int o22.2.1, .int o22.2.2])), (a4, .inl (cT 2, 4096, .inr (.inl o22.1)))]) hP hD [0, 1, 2, 3, 4] rfl rfl (by decide)
          exact W.zret (v := (1 : Int32)) hx hb hr rfl (fun t ht hW => ⟨⟨(1 : Int32), (), rfl, rfl, by rw [ht]; exact hP9, va_K.moved hW.alike hK, hD9⟩, hS.F ht⟩) hS.2.2 dD_letters_40
        · rw [if_pos hc] at hf
          refine lv_iconst (v := 0) hx hb dD_letters_22 (by decide) ?_
          obtain rfl := Option.some.inj hf
          obtain ⟨hP9, hD9⟩ := xsub (wc := [(a0, .inr (4, [.ref a1, .ref a3, .int o18.2.1, .int o18.2.2])), (a1, .inr (1, [.ref a2, .int v1, .int v2])), (a2, .inl (cT 0, 4096, .inl f0)), (a3, .inr (2, [.ref a4, .int v4, .int v5])), (a4, .inl (cT 2, 4096, .inr (.inl f3)))]) hP hD [0, 1, 2, 3, 4] rfl rfl (by decide)
          exact W.zret (v := (0 : Int32)) hx hb hr rfl (fun t ht hW => ⟨⟨(0 : Int32), (), rfl, rfl, by rw [ht]; exact hP9, va_K.moved hW.alike hK, hD9⟩, hS.F ht⟩) hS.2.2 dD_letters_23
      · rw [if_pos hc] at hf
        refine lv_iconst (v := 0) hx hb dD_letters_22 (by decide) ?_
        obtain rfl := Option.some.inj hf
        obtain ⟨hP9, hD9⟩ := xsub (wc := [(a0, .inr (4, [.ref a1, .ref a3, .int o13.2.1, .int o13.2.2])), (a1, .inr (1, [.ref a2, .int v1, .int v2])), (a2, .inl (cT 0, 4096, .inl f0)), (a3, .inr (2, [.ref a4, .int v4, .int v5])), (a4, .inl (cT 2, 4096, .inr (.inl f3)))]) hP hD [0, 1, 2, 3, 4] rfl rfl (by decide)
        exact W.zret (v := (0 : Int32)) hx hb hr rfl (fun t ht hW => ⟨⟨(0 : Int32), (), rfl, rfl, by rw [ht]; exact hP9, va_K.moved hW.alike hK, hD9⟩, hS.F ht⟩) hS.2.2 dD_letters_23
    · rw [if_pos hc] at hf
      refine lv_iconst (v := 0) hx hb dD_letters_22 (by decide) ?_
      obtain rfl := Option.some.inj hf
      obtain ⟨hP9, hD9⟩ := xsub (wc := [(a0, .inr (4, [.ref a1, .ref a3, .int o8.2.1, .int o8.2.2])), (a1, .inr (1, [.ref a2, .int v1, .int v2])), (a2, .inl (cT 0, 4096, .inl f0)), (a3, .inr (2, [.ref a4, .int v4, .int v5])), (a4, .inl (cT 2, 4096, .inr (.inl f3)))]) hP hD [0, 1, 2, 3, 4] rfl rfl (by decide)
      exact W.zret (v := (0 : Int32)) hx hb hr rfl (fun t ht hW => ⟨⟨(0 : Int32), (), rfl, rfl, by rw [ht]; exact hP9, va_K.moved hW.alike hK, hD9⟩, hS.F ht⟩) hS.2.2 dD_letters_23
  · rw [if_pos hc] at hf
    refine lv_iconst (v := 0) hx hb dD_letters_22 (by decide) ?_
    obtain rfl := Option.some.inj hf
    obtain ⟨hP9, hD9⟩ := xsub (wc := [(a0, .inr (4, [.ref a1, .ref a3, .int o3.2.1, .int o3.2.2])), (a1, .inr (1, [.ref a2, .int v1, .int v2])), (a2, .inl (cT 0, 4096, .inl f0)), (a3, .inr (2, [.ref a4, .int v4, .int v5])), (a4, .inl (cT 2, 4096, .inr (.inl f3)))]) hP hD [0, 1, 2, 3, 4] rfl rfl (by decide)
    exact W.zret (v := (0 : Int32)) hx hb hr rfl (fun t ht hW => ⟨⟨(0 : Int32), (), rfl, rfl, by rw [ht]; exact hP9, va_K.moved hW.alike hK, hD9⟩, hS.F ht⟩) hS.2.2 dD_letters_23
set_option maxHeartbeats 400000000 in
set_option maxRecDepth 100000 in
theorem gD_lettersb (l : Launch) (hl9 : l.stackTraces = false) (D : va_G) (cT : Nat → ClassId) (aK aV : Nat → Nat) (sz n : Nat) (a0 : Nat) (a1 : Nat) (a2 : Nat) (a3 : Nat) (a4 : Nat) (x2 : Int32) (f0 : Nat → Int32) (v1 : Int32) (v2 : Int32) (f3 : Nat → Int64) (v4 : Int32) (v5 : Int32) (v6 : Int32) (v7 : Int32) (out : Int32 × (Nat → Int64) × Int32 × Int32 × Int32 × Int32) (hf : fD_lettersb n x2 f0 v1 v2 f3 v4 v5 v6 v7 = some out) : xMet l yD_letters wyD_letters 4 0 0 85 D cT aK aV sz [.ref a0, .ref (aK 12), .int x2] [(a0, .inr (4, [.ref a1, .ref a3, .int v6, .int v7])), (a1, .inr (1, [.ref a2, .int v1, .int v2])), (a2, .inl (cT 0, 4096, .inl f0)), (a3, .inr (2, [.ref a4, .int v4, .int v5])), (a4, .inl (cT 2, 4096, .inr (.inl f3)))] (fun A => va_Qi (fun (r : Int32) (_ : Unit) => r = out.1) (fun _ t => xB D xcl cT A [(a0, .inr (4, [.ref a1, .ref a3, .int out.2.2.2.2.1, .int out.2.2.2.2.2])), (a1, .inr (1, [.ref a2, .int v1, .int v2])), (a2, .inl (cT 0, 4096, .inl f0)), (a3, .inr (2, [.ref a4, .int out.2.2.1, .int out.2.2.2.1])), (a4, .inl (cT 2, 4096, .inr (.inl out.2.1)))] t) A) := by
  refine Met.ofW (cc := prog_7_method_11_code) (maxL := 4) (ret := (some .boolean)) (by decide) rfl ?_
  intro p e s m args below meth c s₁ B hml hv
  obtain ⟨rfl, hsz, hZ, hP, hK, hD0⟩ := hv
  have hx := B.exec
  have hb := B.bytes
  have hr := B.returns
  have hts := atoms_spec (ws := wyD_letters) B.pre
  have htx := fun w h => hts w (List.mem_cons_of_mem _ h)
  have hown : s.vm.findClass "ValueBench$Reader" = some m.cls := findClass_of_methodNamed B.named
  have hlocks := B.notSynchronized
  subst hsz
  have hD := hD0.self (sz := s.heap.size)
  generalize hAe : va_A [(a0, .inr (4, [.ref a1, .ref a3, .int v6, .int v7])), (a1, .inr (1, [.ref a2, .int v1, .int v2])), (a2, .inl (cT 0, 4096, .inl f0)), (a3, .inr (2, [.ref a4, .int v4, .int v5])), (a4, .inl (cT 2, 4096, .inr (.inl f3)))] s.heap.size = A at hD hZ ⊢
  have hA : ∀ q : Nat, s.heap.size ≤ q → A q := fun q h => by rw [← hAe]; exact Or.inr h
  have hS : va_S A s.heap s.heap [] := va_S.rf
  have hP : va_P D xcl [(a0, .inr (4, [.ref a1, .ref a3, .int v6, .int v7])), (a1, .inr (1, [.ref a2, .int v1, .int v2])), (a2, .inl (cT 0, 4096, .inl f0)), (a3, .inr (2, [.ref a4, .int v4, .int v5])), (a4, .inl (cT 2, 4096, .inr (.inl f3)))] s.heap := hP
  have hl := lv_entry ([.ref a0, .ref (aK 12), .int x2]) (n := 4) (Nat.le_of_ble_eq_true rfl)
  rw [lg_entry_eq]
  generalize (lg_sl ([.ref a0, .ref (aK 12), .int x2]) ++ List.replicate (4 - (lg_sl ([.ref a0, .ref (aK 12), .int x2])).length) Slot.unset).toArray = ls at hl ⊢
  have hl : lv_has ls 4 [(0, .ref a0), (1, .ref (aK 12)), (2, .int x2)] := hl
  unfold fD_lettersb at hf
  refine lv_iconst (v := 0) hx hb dD_letters_0 (by decide) ?_
  refine lv_istore_n (lv' := [(3, .int 0), (0, .ref a0), (1, .ref (aK 12)), (2, .int x2)]) hx hb dD_letters_1 rfl hl (by decide) rfl (fun ls hl => ?_)
  refine lv_iload_n hx hb dD_letters_2 rfl (lv_at hl 0 rfl) ?_
  refine lv_aload_n hx hb dD_letters_3 rfl (lv_at hl 2 rfl) ?_
  obtain ⟨hPc, hDc, hFc⟩ := xcut (wc := []) hP hD hS hA [] rfl rfl (by decide)
  refine va_calli (va_runV (C := "java/lang/String") (As := []) (rest := [.int 0]) ⟨hx, hb, hml, hown, htx⟩ (cJS_length_2 l hl9 D cT aK aV s.heap.size) ⟨callB_of 0 htx (xw_goodC kw_2_70) rfl rfl rfl (htx _ kw_1_6) (htx _ kw_2_67) ⟨by decide, by decide, by decide +kernel⟩ ⟨Nat.le_of_ble_eq_true rfl, Nat.le_of_ble_eq_true rfl⟩, (htx _ kw_2_68), (htx _ kw_2_69)⟩ ⟨xPre_blind, vk_recv hZ.2.2.2.2.2.2.2.2.2.1 (i := 12) (by decide) hS, (fun U hU hW => ⟨rfl, xPre_of hZ hS hFc hPc hDc hK U hU hW⟩)⟩ rfl rfl hl.1 rfl (lv_room (Nat.le_of_ble_eq_true rfl)) dD_letters_4 ⟨Nat.le_of_ble_eq_true rfl, Nat.le_of_ble_eq_true rfl⟩) hS (fun q _ h => hFc q h) hFc (fun r1 u9 t H1 locs ht hvm hr9 hB hz1 hk1 hS => ?_)
  obtain ⟨hP1, hK1, hD1⟩ := hB
  rw [ht] at hP1
  obtain ⟨hP, hD⟩ := xjoin (W := [(a0, .inr (4, [.ref a1, .ref a3, .int v6, .int v7])), (a1, .inr (1, [.ref a2, .int v1, .int v2])), (a2, .inl (cT 0, 4096, .inl f0)), (a3, .inr (2, [.ref a4, .int v4, .int v5])), (a4, .inl (cT 2, 4096, .inr (.inl f3)))]) hP hD [] [0, 1, 2, 3, 4] 5 rfl rfl (by decide) (by decide) hk1 hFc hP1 hD1
  generalize H1 = H at hP hS ⊢
  rw [hr9]
  refine W.eq (g2 := F0 m 7 ls [.int 4, .int 0]) rfl ?_
  refine lv_icmp_ge (tgt := 30) hx hb dD_letters_7 (by decide) (fun h => ((by revert h; decide : False)).elim) (fun _ => ?_)
  refine lv_aload_n hx hb dD_letters_10 rfl (lv_at hl 1 rfl) ?_
  refine lv_aload_n hx hb dD_letters_11 rfl (lv_at hl 2 rfl) ?_
  refine lv_iload_n hx hb dD_letters_12 rfl (lv_at hl 0 rfl) ?_
  obtain ⟨hPc, hDc, hFc⟩ := xcut (wc := []) hP hD hS hA [] rfl rfl (by decide)
  refine va_calli (va_runV (C := "java/lang/String") (As := [.int 0]) (rest := [.ref a0]) ⟨hx, hb, hml, hown, htx⟩ (cJS_charAt_9 l hl9 D cT aK aV H.size) ⟨callB_of 1 htx (xw_goodC kw_2_80) rfl rfl rfl (htx _ kw_1_6) (htx _ kw_2_77) ⟨by decide, by decide, by decide +kernel⟩ ⟨Nat.le_of_ble_eq_true rfl, Nat.le_of_ble_eq_true rfl⟩, (htx _ kw_2_78), (htx _ kw_2_79)⟩ ⟨xPre_blind, vk_recv hZ.2.2.2.2.2.2.2.2.2.1 (i := 12) (by decide) hS, (fun U hU hW => ⟨rfl, xPre_of hZ hS hFc hPc hDc hK U hU hW⟩)⟩ rfl rfl hl.1 rfl (lv_room (Nat.le_of_ble_eq_true rfl)) dD_letters_13 ⟨Nat.le_of_ble_eq_true rfl, Nat.le_of_ble_eq_true rfl⟩) hS (fun q _ h => hFc q h) hFc (fun r2 u9 t H1 locs ht hvm hr9 hB hz1 hk1 hS => ?_)
  obtain ⟨hP1, hK1, hD1⟩ := hB
  rw [ht] at hP1
  obtain ⟨hP, hD⟩ := xjoin (W := [(a0, .inr (4, [.ref a1, .ref a3, .int v6, .int v7])), (a1, .inr (1, [.ref a2, .int v1, .int v2])), (a2, .inl (cT 0, 4096, .inl f0)), (a3, .inr (2, [.ref a4, .int v4, .int v5])), (a4, .inl (cT 2, 4096, .inr (.inl f3)))]) hP hD [] [0, 1, 2, 3, 4] 5 rfl rfl (by decide) (by decide) hk1 hFc hP1 hD1
  generalize H1 = H at hP hS ⊢
  rw [hr9]
  refine W.eq (g2 := F0 m 16 ls [.int 116, .ref a0]) rfl ?_
  obtain ⟨o3, hq4, hf⟩ := xbind hf
  obtain ⟨hPc, hDc, hFc⟩ := xcut (wc := [(a0, .inr (4, [.ref a1, .ref a3, .int v6, .int v7])), (a1, .inr (1, [.ref a2, .int v1, .int v2])), (a2, .inl (cT 0, 4096, .inl f0)), (a3, .inr (2, [.ref a4, .int v4, .int v5])), (a4, .inl (cT 2, 4096, .inr (.inl f3)))]) hP hD hS hA [0, 1, 2, 3, 4] rfl rfl (by decide)
  refine va_calli (va_runV (C := "ValueBench$Reader") (As := [.int 116]) (rest := []) ⟨hx, hb, hml, hown, htx⟩ (gD_take l hl9 D cT aK aV H.size n a0 a1 a2 a3 a4 (116 : Int32) f0 v1 v2 f3 v4 v5 v6 v7 o3 hq4) ⟨callB_of 1 htx (xw_goodC kw_2_118) rfl rfl rfl (htx _ kw_1_16) (htx _ kw_2_115) ⟨by decide, by decide, by decide +kernel⟩ ⟨Nat.le_of_ble_eq_true rfl, Nat.le_of_ble_eq_true rfl⟩, (htx _ kw_2_117), (htx _ kp_D_take)⟩ ⟨xPre_blind, va_recv hK hP (ci := 4) rfl (q0 := 0) rfl, (fun U hU hW => ⟨rfl, xPre_of hZ hS hFc hPc hDc hK U hU hW⟩)⟩ rfl rfl hl.1 rfl (lv_room (Nat.le_of_ble_eq_true rfl)) dD_letters_16 ⟨Nat.le_of_ble_eq_true rfl, Nat.le_of_ble_eq_true rfl⟩) hS (fun q _ h => hFc q h) hFc (fun r5 u9 t H1 locs ht hvm hr9 hB hz1 hk1 hS => ?_)
  obtain ⟨hP1, hK1, hD1⟩ := hB
  rw [ht] at hP1
  obtain ⟨hP, hD⟩ := xjoin (W := [(a0, .inr (4, [.ref a1, .ref a3, .int o3.2.1, .int o3.2.2])), (a1, .inr (1, [.ref a2, .int v1, .int v2])), (a2, .inl (cT 0, 4096, .inl f0)), (a3, .inr (2, [.ref a4, .int v4, .int v5])), (a4, .inl (cT 2, 4096, .inr (.inl f3)))]) hP hD [0, 1, 2, 3, 4] [] 0 rfl rfl (by decide) (by decide) hk1 hFc hP1 hD1
  generalize H1 = H at hP hS ⊢
  rw [hr9]
  refine W.eq (g2 := F0 m 19 ls [.int o3.1]) rfl ?_
  refine lv_if_ne (tgt := 24) hx hb dD_letters_19 (by decide) (fun hc => ?_) (fun hc => ?_)
  · rw [if_neg hc] at hf
    refine lv_iinc (v := 1) (lv' := [(3, .int 1), (0, .ref a0), (1, .ref (aK 12)), (2, .int x2)]) hx hb dD_letters_24 hl (k := 0) rfl rfl (by decide) rfl (fun ls hl => ?_)
    refine lv_goto (tgt := 2) hx hb dD_letters_27 (by decide) ?_
    refine lv_iload_n hx hb dD_letters_2 rfl (lv_at hl 0 rfl) ?_
    refine lv_aload_n hx hb dD_letters_3 rfl (lv_at hl 2 rfl) ?_
    obtain ⟨hPc, hDc, hFc⟩ := xcut (wc := []) hP hD hS hA [] rfl rfl (by decide)
    refine va_calli (va_runV (C := "java/lang/String") (As := []) (rest := [.int 1]) ⟨hx, hb, hml, hown, htx⟩ (cJS_length_2 l hl9 D cT aK aV H.size) ⟨callB_of 0 htx (xw_goodC kw_2_70) rfl rfl rfl (htx _ kw_1_6) (htx _ kw_2_67) ⟨by decide, by decide, by decide +kernel⟩ ⟨Nat.le_of_ble_eq_true rfl, Nat.le_of_ble_eq_true rfl⟩, (htx _ kw_2_68), (htx _ kw_2_69)⟩ ⟨xPre_blind, vk_recv hZ.2.2.2.2.2.2.2.2.2.1 (i := 12) (by decide) hS, (fun U hU hW => ⟨rfl, xPre_of hZ hS hFc hPc hDc hK U hU hW⟩)⟩ rfl rfl hl.1 rfl (lv_room (Nat.le_of_ble_eq_true rfl)) dD_letters_4 ⟨Nat.le_of_ble_eq_true rfl, Nat.le_of_ble_eq_true rfl⟩) hS (fun q _ h => hFc q h) hFc (fun r6 u9 t H1 locs ht hvm hr9 hB hz1 hk1 hS => ?_)
    obtain ⟨hP1, hK1, hD1⟩ := hB
    rw [ht] at hP1
    obtain ⟨hP, hD⟩ := xjoin (W := [(a0, .inr (4, [.ref a1, .ref a3, .int o3.2.1, .int o3.2.2])), (a1, .inr (1, [.ref a2, .int v1, .int v2])), (a2, .inl (cT 0, 4096, .inl f0)), (a3, .inr (2, [.ref a4, .int v4, .int v5])), (a4, .inl (cT 2, 4096, .inr (.inl f3)))]) hP hD [] [0, 1, 2, 3, 4] 5 rfl rfl (by decide) (by decide) hk1 hFc hP1 hD1
    generalize H1 = H at hP hS ⊢
    rw [hr9]
    refine W.eq (g2 := F0 m 7 ls [.int 4, .int 1]) rfl ?_
    refine lv_icmp_ge (tgt := 30) hx hb dD_letters_7 (by decide) (fun h => ((by revert h; decide : False)).elim) (fun _ => ?_)
    refine lv_aload_n hx hb dD_letters_10 rfl (lv_at hl 1 rfl) ?_
    refine lv_aload_n hx hb dD_letters_11 rfl (lv_at hl 2 rfl) ?_
    refine lv_iload_n hx hb dD_letters_12 rfl (lv_at hl 0 rfl) ?_
    obtain ⟨hPc, hDc, hFc⟩ := xcut (wc := []) hP hD hS hA [] rfl rfl (by decide)
    refine va_calli (va_runV (C := "java/lang/String") (As := [.int 1]) (rest := [.ref a0]) ⟨hx, hb, hml, hown, htx⟩ (cJS_charAt_10 l hl9 D cT aK aV H.size) ⟨callB_of 1 htx (xw_goodC kw_2_80) rfl rfl rfl (htx _ kw_1_6) (htx _ kw_2_77) ⟨by decide, by decide, by decide +kernel⟩ ⟨Nat.le_of_ble_eq_true rfl, Nat.le_of_ble_eq_true rfl⟩, (htx _ kw_2_78), (htx _ kw_2_79)⟩ ⟨xPre_blind, vk_recv hZ.2.2.2.2.2.2.2.2.2.1 (i := 12) (by decide) hS, (fun U hU hW => ⟨rfl, xPre_of hZ hS hFc hPc hDc hK U hU hW⟩)⟩ rfl rfl hl.1 rfl (lv_room (Nat.le_of_ble_eq_true rfl)) dD_letters_13 ⟨Nat.le_of_ble_eq_true rfl, Nat.le_of_ble_eq_true rfl⟩) hS (fun q _ h => hFc q h) hFc (fun r7 u9 t H1 locs ht hvm hr9 hB hz1 hk1 hS => ?_)
    obtain ⟨hP1, hK1, hD1⟩ := hB
    rw [ht] at hP1
    obtain ⟨hP, hD⟩ := xjoin (W := [(a0, .inr (4, [.ref a1, .ref a3, .int o3.2.1, .int o3.2.2])), (a1, .inr (1, [.ref a2, .int v1, .int v2])), (a2, .inl (cT 0, 4096, .inl f0)), (a3, .inr (2, [.ref a4, .int v4, .int v5])), (a4, .inl (cT 2, 4096, .inr (.inl f3)))]) hP hD [] [0, 1, 2, 3, 4] 5 rfl rfl (by decide) (by decide) hk1 hFc hP1 hD1
    generalize H1 = H at hP hS ⊢
    rw [hr9]
    refine W.eq (g2 := F0 m 16 ls [.int 114, .ref a0]) rfl ?_
    obtain ⟨o8, hq9, hf⟩ := xbind hf
    obtain ⟨hPc, hDc, hFc⟩ := xcut (wc := [(a0, .inr (4, [.ref a1, .ref a3, .int o3.2.1, .int o3.2.2])), (a1, .inr (1, [.ref a2, .int v1, .int v2])), (a2, .inl (cT 0, 4096, .inl f0)), (a3, .inr (2, [.ref a4, .int v4, .int v5])), (a4, .inl (cT 2, 4096, .inr (.inl f3)))]) hP hD hS hA [0, 1, 2, 3, 4] rfl rfl (by decide)
    refine va_calli (va_runV (C := "ValueBench$Reader") (As := [.int 114]) (rest := []) ⟨hx, hb, hml, hown, htx⟩ (gD_take l hl9 D cT aK aV H.size n a0 a1 a2 a3 a4 (114 : Int32) f0 v1 v2 f3 v4 v5 o3.2.1 o3.2.2 o8 hq9) ⟨callB_of 1 htx (xw_goodC kw_2_118) rfl rfl rfl (htx _ kw_1_16) (htx _ kw_2_115) ⟨by decide, by decide, by decide +kernel⟩ ⟨Nat.le_of_ble_eq_true rfl, Nat.le_of_ble_eq_true rfl⟩, (htx _ kw_2_117), (htx _ kp_D_take)⟩ ⟨xPre_blind, va_recv hK hP (ci := 4) rfl (q0 := 0) rfl, (fun U hU hW => ⟨rfl, xPre_of hZ hS hFc hPc hDc hK U hU hW⟩)⟩ rfl rfl hl.1 rfl (lv_room (Nat.le_of_ble_eq_true rfl)) dD_letters_16 ⟨Nat.le_of_ble_eq_true rfl, Nat.le_of_ble_eq_true rfl⟩) hS (fun q _ h => hFc q h) hFc (fun r10 u9 t H1 locs ht hvm hr9 hB hz1 hk1 hS => ?_)
    obtain ⟨hP1, hK1, hD1⟩ := hB
    rw [ht] at hP1
    obtain ⟨hP, hD⟩ := xjoin (W := [(a0, .inr (4, [.ref a1, .ref a3, .int o8.2.1, .int o8.2.2])), (a1, .inr (1, [.ref a2, .int v1, .int v2])), (a2, .inl (cT 0, 4096, .inl f0)), (a3, .inr (2, [.ref a4, .int v4, .int v5])), (a4, .inl (cT 2, 4096, .inr (.inl f3)))]) hP hD [0, 1, 2, 3, 4] [] 0 rfl rfl (by decide) (by decide) hk1 hFc hP1 hD1
    generalize H1 = H at hP hS ⊢
    rw [hr9]
    refine W.eq (g2 := F0 m 19 ls [.int o8.1]) rfl ?_
    refine lv_if_ne (tgt := 24) hx hb dD_letters_19 (by decide) (fun hc => ?_) (fun hc => ?_)
    · rw [if_neg hc] at hf
      refine lv_iinc (v := 2) (lv' := [(3, .int 2), (0, .ref a0), (1, .ref (aK 12)), (2, .int x2)]) hx hb dD_letters_24 hl (k := 0) rfl rfl (by decide) rfl (fun ls hl => ?_)
      refine lv_goto (tgt := 2) hx hb dD_letters_27 (by decide) ?_
      refine lv_iload_n hx hb dD_letters_2 rfl (lv_at hl 0 rfl) ?_
      refine lv_aload_n hx hb dD_letters_3 rfl (lv_at hl 2 rfl) ?_
      obtain ⟨hPc, hDc, hFc⟩ := xcut (wc := []) hP hD hS hA [] rfl rfl (by decide)
      refine va_calli (va_runV (C := "java/lang/String") (As := []) (rest := [.int 2]) ⟨hx, hb, hml, hown, htx⟩ (cJS_length_2 l hl9 D cT aK aV H.size) ⟨callB_of 0 htx (xw_goodC kw_2_70) rfl rfl rfl (htx _ kw_1_6) (htx _ kw_2_67) ⟨by decide, by decide, by decide +kernel⟩ ⟨Nat.le_of_ble_eq_true rfl, Nat.le_of_ble_eq_true rfl⟩, (htx _ kw_2_68), (htx _ kw_2_69)⟩ ⟨xPre_blind, vk_recv hZ.2.2.2.2.2.2.2.2.2.1 (i := 12) (by decide) hS, (fun U hU hW => ⟨rfl, xPre_of hZ hS hFc hPc hDc hK U hU hW⟩)⟩ rfl rfl hl.1 rfl (lv_room (Nat.le_of_ble_eq_true rfl)) dD_letters_4 ⟨Nat.le_of_ble_eq_true rfl, Nat.le_of_ble_eq_true rfl⟩) hS (fun q _ h => hFc q h) hFc (fun r11 u9 t H1 locs ht hvm hr9 hB hz1 hk1 hS => ?_)
      obtain ⟨hP1, hK1, hD1⟩ := hB
      rw [ht] at hP1
      obtain ⟨hP, hD⟩ := xjoin (W := [(a0, .inr (4, [.ref a1, .ref a3, .int o8.2.1, .int o8.2.2])), (a1, .inr (1, [.ref a2, .int v1, .int v2])), (a2, .inl (cT 0, 4096, .inl f0)), (a3, .inr (2, [.ref a4, .int v4, .int v5])), (a4, .inl (cT 2, 4096, .inr (.inl f3)))]) hP hD [] [0, 1, 2, 3, 4] 5 rfl rfl (by decide) (by decide) hk1 hFc hP1 hD1
      generalize H1 = H at hP hS ⊢
      rw [hr9]
      refine W.eq (g2 := F0 m 7 ls [.int 4, .int 2]) rfl ?_
      refine lv_icmp_ge (tgt := 30) hx hb dD_letters_7 (by decide) (fun h => ((by revert h; decide : False)).elim) (fun _ => ?_)
      refine lv_aload_n hx hb dD_letters_10 rfl (lv_at hl 1 rfl) ?_
      refine lv_aload_n hx hb dD_letters_11 rfl (lv_at hl 2 rfl) ?_
      refine lv_iload_n hx hb dD_letters_12 rfl (lv_at hl 0 rfl) ?_
      obtain ⟨hPc, hDc, hFc⟩ := xcut (wc := []) hP hD hS hA [] rfl rfl (by decide)
      refine va_calli (va_runV (C := "java/lang/String") (As := [.int 2]) (rest := [.ref a0]) ⟨hx, hb, hml, hown, htx⟩ (cJS_charAt_11 l hl9 D cT aK aV H.size) ⟨callB_of 1 htx (xw_goodC kw_2_80) rfl rfl rfl (htx _ kw_1_6) (htx _ kw_2_77) ⟨by decide, by decide, by decide +kernel⟩ ⟨Nat.le_of_ble_eq_true rfl, Nat.le_of_ble_eq_true rfl⟩, (htx _ kw_2_78), (htx _ kw_2_79)⟩ ⟨xPre_blind, vk_recv hZ.2.2.2.2.2.2.2.2.2.1 (i := 12) (by decide) hS, (fun U hU hW => ⟨rfl, xPre_of hZ hS hFc hPc hDc hK U hU hW⟩)⟩ rfl rfl hl.1 rfl (lv_room (Nat.le_of_ble_eq_true rfl)) dD_letters_13 ⟨Nat.le_of_ble_eq_true rfl, Nat.le_of_ble_eq_true rfl⟩) hS (fun q _ h => hFc q h) hFc (fun r12 u9 t H1 locs ht hvm hr9 hB hz1 hk1 hS => ?_)
      obtain ⟨hP1, hK1, hD1⟩ := hB
      rw [ht] at hP1
      obtain ⟨hP, hD⟩ := xjoin (W := [(a0, .inr (4, [.ref a1, .ref a3, .int o8.2.1, .int o8.2.2])), (a1, .inr (1, [.ref a2, .int v1, .int v2])), (a2, .inl (cT 0, 4096, .inl f0)), (a3, .inr (2, [.ref a4, .int v4, .int v5])), (a4, .inl (cT 2, 4096, .inr (.inl f3)))]) hP hD [] [0, 1, 2, 3, 4] 5 rfl rfl (by decide) (by decide) hk1 hFc hP1 hD1
      generalize H1 = H at hP hS ⊢
      rw [hr9]
      refine W.eq (g2 := F0 m 16 ls [.int 117, .ref a0]) rfl ?_
      obtain ⟨o13, hq14, hf⟩ := xbind hf
      obtain ⟨hPc, hDc, hFc⟩ := xcut (wc := [(a0, .inr (4, [.ref a1, .ref a3, .int o8.2.1, .int o8.2.2])), (a1, .inr (1, [.ref a2, .int v1, .int v2])), (a2, .inl (cT 0, 4096, .inl f0)), (a3, .inr (2, [.ref a4, .int v4, .int v5])), (a4, .inl (cT 2, 4096, .inr (.inl f3)))]) hP hD hS hA [0, 1, 2, 3, 4] rfl rfl (by decide)
      refine va_calli (va_runV (C := "ValueBench$Reader") (As := [.int 117]) (rest := []) ⟨hx, hb, hml, hown, htx⟩ (gD_take l hl9 D cT aK aV H.size n a0 a1 a2 a3 a4 (117 : Int32) f0 v1 v2 f3 v4 v5 o8.2.1 o8.2.2 o13 hq14) ⟨callB_of 1 htx (xw_goodC kw_2_118) rfl rfl rfl (htx _ kw_1_16) (htx _ kw_2_115) ⟨by decide, by decide, by decide +kernel⟩ ⟨Nat.le_of_ble_eq_true rfl, Nat.le_of_ble_eq_true rfl⟩, (htx _ kw_2_117), (htx _ kp_D_take)⟩ ⟨xPre_blind, va_recv hK hP (ci := 4) rfl (q0 := 0) rfl, (fun U hU hW => ⟨rfl, xPre_of hZ hS hFc hPc hDc hK U hU hW⟩)⟩ rfl rfl hl.1 rfl (lv_room (Nat.le_of_ble_eq_true rfl)) dD_letters_16 ⟨Nat.le_of_ble_eq_true rfl, Nat.le_of_ble_eq_true rfl⟩) hS (fun q _ h => hFc q h) hFc (fun r15 u9 t H1 locs ht hvm hr9 hB hz1 hk1 hS => ?_)
      obtain ⟨hP1, hK1, hD1⟩ := hB
      rw [ht] at hP1
      obtain ⟨hP, hD⟩ := xjoin (W := [(a0, .inr (4, [.ref a1, .ref a3, .int o13.2.1, .int o13.2.2])), (a1, .inr (1, [.ref a2, .int v1, .int v2])), (a2, .inl (cT 0, 4096, .inl f0)), (a3, .inr (2, [.ref a4, .int v4, .int v5])), (a4, .inl (cT 2, 4096, .inr (.inl f3)))]) hP hD [0, 1, 2, 3, 4] [] 0 rfl rfl (by decide) (by decide) hk1 hFc hP1 hD1
      generalize H1 = H at hP hS ⊢
      rw [hr9]
      refine W.eq (g2 := F0 m 19 ls [.int o13.1]) rfl ?_
      refine lv_if_ne (tgt := 24) hx hb dD_letters_19 (by decide) (fun hc => ?_) (fun hc => ?_)
      · rw [if_neg hc] at hf
        refine lv_iinc (v := 3) (lv' := [(3, .int 3), (0, .ref a0), (1, .ref (aK 12)), (2, .int x2)]) hx hb dD_letters_24 hl (k := 0) rfl rfl (by decide) rfl (fun ls hl => ?_)
        refine lv_goto (tgt := 2) hx hb dD_letters_27 (by decide) ?_
        refine lv_iload_n hx hb dD_letters_2 rfl (lv_at hl 0 rfl) ?_
        refine lv_aload_n hx hb dD_letters_3 rfl (lv_at hl 2 rfl) ?_
        obtain ⟨hPc, hDc, hFc⟩ := xcut (wc := []) hP hD hS hA [] rfl rfl (by decide)
        refine va_calli (va_runV (C := "java/lang/String") (As := []) (rest := [.int 3]) ⟨hx, hb, hml, hown, htx⟩ (cJS_length_2 l hl9 D cT aK aV H.size) ⟨callB_of 0 htx (xw_goodC kw_2_70) rfl rfl rfl (htx _ kw_1_6) (htx _ kw_2_67) ⟨by decide, by decide, by decide +kernel⟩ ⟨Nat.le_of_ble_eq_true rfl, Nat.le_of_ble_eq_true rfl⟩, (htx _ kw_2_68), (htx _ kw_2_69)⟩ ⟨xPre_blind, vk_recv hZ.2.2.2.2.2.2.2.2.2.1 (i := 12) (by decide) hS, (fun U hU hW => ⟨rfl, xPre_of hZ hS hFc hPc hDc hK U hU hW⟩)⟩ rfl rfl hl.1 rfl (lv_room (Nat.le_of_ble_eq_true rfl)) dD_letters_4 ⟨Nat.le_of_ble_eq_true rfl, Nat.le_of_ble_eq_true rfl⟩) hS (fun q _ h => hFc q h) hFc (fun r16 u9 t H1 locs ht hvm hr9 hB hz1 hk1 hS => ?_)
        obtain ⟨hP1, hK1, hD1⟩ := hB
        rw [ht] at hP1
        obtain ⟨hP, hD⟩ := xjoin (W := [(a0, .inr (4, [.ref a1, .ref a3, .int o13.2.1, .int o13.2.2])), (a1, .inr (1, [.ref a2, .int v1, .int v2])), (a2, .inl (cT 0, 4096, .inl f0)), (a3, .inr (2, [.ref a4, .int v4, .int v5])), (a4, .inl (cT 2, 4096, .inr (.inl f3)))]) hP hD [] [0, 1, 2, 3, 4] 5 rfl rfl (by decide) (by decide) hk1 hFc hP1 hD1
        generalize H1 = H at hP hS ⊢
        rw [hr9]
        refine W.eq (g2 := F0 m 7 ls [.int 4, .int 3]) rfl ?_
        refine lv_icmp_ge (tgt := 30) hx hb dD_letters_7 (by decide) (fun h => ((by revert h; decide : False)).elim) (fun _ => ?_)
        refine lv_aload_n hx hb dD_letters_10 rfl (lv_at hl 1 rfl) ?_
        refine lv_aload_n hx hb dD_letters_11 rfl (lv_at hl 2 rfl) ?_
        refine lv_iload_n hx hb dD_letters_12 rfl (lv_at hl 0 rfl) ?_
        obtain ⟨hPc, hDc, hFc⟩ := xcut (wc := []) hP hD hS hA [] rfl rfl (by decide)
        refine va_calli (va_runV (C := "java/lang/String") (As := [.int 3]) (rest := [.ref a0]) ⟨hx, hb, hml, hown, htx⟩ (cJS_charAt_12 l hl9 D cT aK aV H.size) ⟨callB_of 1 htx (xw_goodC kw_2_80) rfl rfl rfl (htx _ kw_1_6) (htx _ kw_2_77) ⟨by decide, by decide, by decide +kernel⟩ ⟨Nat.le_of_ble_eq_true rfl, Nat.le_of_ble_eq_true rfl⟩, (htx _ kw_2_78), (htx _ kw_2_79)⟩ ⟨xPre_blind, vk_recv hZ.2.2.2.2.2.2.2.2.2.1 (i := 12) (by decide) hS, (fun U hU hW => ⟨rfl, xPre_of hZ hS hFc hPc hDc hK U hU hW⟩)⟩ rfl rfl hl.1 rfl (lv_room (Nat.le_of_ble_eq_true rfl)) dD_letters_13 ⟨Nat.le_of_ble_eq_true rfl, Nat.le_of_ble_eq_true rfl⟩) hS (fun q _ h => hFc q h) hFc (fun r17 u9 t H1 locs ht hvm hr9 hB hz1 hk1 hS => ?_)
        obtain ⟨hP1, hK1, hD1⟩ := hB
        rw [ht] at hP1
        obtain ⟨hP, hD⟩ := xjoin (W := [(a0, .inr (4, [.ref a1, .ref a3, .int o13.2.1, .int o13.2.2])), (a1, .inr (1, [.ref a2, .int v1, .int v2])), (a2, .inl (cT 0, 4096, .inl f0)), (a3, .inr (2, [.ref a4, .int v4, .int v5])), (a4, .inl (cT 2, 4096, .inr (.inl f3)))]) hP hD [] [0, 1, 2, 3, 4] 5 rfl rfl (by decide) (by decide) hk1 hFc hP1 hD1
        generalize H1 = H at hP hS ⊢
        rw [hr9]
        refine W.eq (g2 := F0 m 16 ls [.int 101, .ref a0]) rfl ?_
        obtain ⟨o18, hq19, hf⟩ := xbind hf
        obtain ⟨hPc, hDc, hFc⟩ := xcut (wc := [(a0, .inr (4, [.ref a1, .ref a3, .int o13.2.1, .int o13.2.2])), (a1, .inr (1, [.ref a2, .int v1, .int v2])), (a2, .inl (cT 0, 4096, .inl f0)), (a3, .inr (2, [.ref a4, .int v4, .int v5])), (a4, .inl (cT 2, 4096, .inr (.inl f3)))]) hP hD hS hA [0, 1, 2, 3, 4] rfl rfl (by decide)
        refine va_calli (va_runV (C := "ValueBench$Reader") (As := [.int 101]) (rest := []) ⟨hx, hb, hml, hown, htx⟩ (gD_take l hl9 D cT aK aV H.size n a0 a1 a2 a3 a4 (101 : Int32) f0 v1 v2 f3 v4 v5 o13.2.1 o13.2.2 o18 hq19) ⟨callB_of 1 htx (xw_goodC kw_2_118) rfl rfl rfl (htx _ kw_1_16) (htx _ kw_2_115) ⟨by decide, by decide, by decide +kernel⟩ ⟨Nat.le_of_ble_eq_true rfl, Nat.le_of_ble_eq_true rfl⟩, (htx _ kw_2_117), (htx _ kp_D_take)⟩ ⟨xPre_blind, va_recv hK hP (ci := 4) rfl (q0 := 0) rfl, (fun U hU hW => ⟨rfl, xPre_of hZ hS hFc hPc hDc hK U hU hW⟩)⟩ rfl rfl hl.1 rfl (lv_room (Nat.le_of_ble_eq_true rfl)) dD_letters_16 ⟨Nat.le_of_ble_eq_true rfl, Nat.le_of_ble_eq_true rfl⟩) hS (fun q _ h => hFc q h) hFc (fun r20 u9 t H1 locs ht hvm hr9 hB hz1 hk1 hS => ?_)
        obtain ⟨hP1, hK1, hD1⟩ := hB
        rw [ht] at hP1
        obtain ⟨hP, hD⟩ := xjoin (W := [(a0, .inr (4, [.ref a1, .ref a3, .int o18.2.1, .int o18.2.2])), (a1, .inr (1, [.ref a2, .int v1, .int v2])), (a2, .inl (cT 0, 4096, .inl f0)), (a3, .inr (2, [.ref a4, .int v4, .int v5])), (a4, .inl (cT 2, 4096, .inr (.inl f3)))]) hP hD [0, 1, 2, 3, 4] [] 0 rfl rfl (by decide) (by decide) hk1 hFc hP1 hD1
        generalize H1 = H at hP hS ⊢
        rw [hr9]
        refine W.eq (g2 := F0 m 19 ls [.int o18.1]) rfl ?_
        refine lv_if_ne (tgt := 24) hx hb dD_letters_19 (by decide) (fun hc => ?_) (fun hc => ?_)
        · rw [if_neg hc] at hf
          refine lv_iinc (v := 4) (lv' := [(3, .int 4), (0, .ref a0), (1, .ref (aK 12)), (2, .int x2)]) hx hb dD_letters_24 hl (k := 0) rfl rfl (by decide) rfl (fun ls hl => ?_)
          refine lv_goto (tgt := 2) hx hb dD_letters_27 (by decide) ?_
          refine lv_iload_n hx hb dD_letters_2 rfl (lv_at hl 0 rfl) ?_
          refine lv_aload_n hx hb dD_letters_3 rfl (lv_at hl 2 rfl) ?_
          obtain ⟨hPc, hDc, hFc⟩ := xcut (wc := []) hP hD hS hA [] rfl rfl (by decide)
          refine va_calli (va_runV (C := "java/lang/String") (As := []) (rest := [.int 4]) ⟨hx, hb, hml, hown, htx⟩ (cJS_length_2 l hl9 D cT aK aV H.size) ⟨callB_of 0 htx (xw_goodC kw_2_70) rfl rfl rfl (htx _ kw_1_6) (htx _ kw_2_67) ⟨by decide, by decide, by decide +kernel⟩ ⟨Nat.le_of_ble_eq_true rfl, Nat.le_of_ble_eq_true rfl⟩, (htx _ kw_2_68), (htx _ kw_2_69)⟩ ⟨xPre_blind, vk_recv hZ.2.2.2.2.2.2.2.2.2.1 (i := 12) (by decide) hS, (fun U hU hW => ⟨rfl, xPre_of hZ hS hFc hPc hDc hK U hU hW⟩)⟩ rfl rfl hl.1 rfl (lv_room (Nat.le_of_ble_eq_true rfl)) dD_letters_4 ⟨Nat.le_of_ble_eq_true rfl, Nat.le_of_ble_eq_true rfl⟩) hS (fun q _ h => hFc q h) hFc (fun r21 u9 t H1 locs ht hvm hr9 hB hz1 hk1 hS => ?_)
          obtain ⟨hP1, hK1, hD1⟩ := hB
          rw [ht] at hP1
          obtain ⟨hP, hD⟩ := xjoin (W := [(a0, .inr (4, [.ref a1, .ref a3, .int o18.2.1, .int o18.2.2])), (a1, .inr (1, [.ref a2, .int v1, .int v2])), (a2, .inl (cT 0, 4096, .inl f0)), (a3, .inr (2, [.ref a4, .int v4, .int v5])), (a4, .inl (cT 2, 4096, .inr (.inl f3)))]) hP hD [] [0, 1, 2, 3, 4] 5 rfl rfl (by decide) (by decide) hk1 hFc hP1 hD1
          generalize H1 = H at hP hS ⊢
          rw [hr9]
          refine W.eq (g2 := F0 m 7 ls [.int 4, .int 4]) rfl ?_
          refine lv_icmp_ge (tgt := 30) hx hb dD_letters_7 (by decide) (fun _ => ?_) (fun h => ((by revert h; decide : False)).elim)
          refine lv_aload_n hx hb dD_letters_30 rfl (lv_at hl 1 rfl) ?_
          refine va_get (D := D) (ci := 4) (v := .ref a3) (C := "ValueBench$Reader") (T := TD) (N := 4) hx hb htx inD hown hK hP 0 rfl rfl 1 (by decide) (htx _ kw_2_30) (fun _ h9 => h9) rfl dD_letters_31 ?_
          refine lv_iload_n hx hb dD_letters_34 rfl (lv_at hl 3 rfl) ?_
          refine lv_i2l hx hb dD_letters_35 rfl ?_
          obtain ⟨o22, hq23, hf⟩ := xbind hf
          obtain ⟨hPc, hDc, hFc⟩ := xcut (wc := [(a3, .inr (2, [.ref a4, .int v4, .int v5])), (a4, .inl (cT 2, 4096, .inr (.inl f3)))]) hP hD hS hA [3, 4] rfl rfl (by decide)
          refine va_callv (va_runV (C := "ValueBench$Row") (As := [.long x2.toInt64]) (rest := []) ⟨hx, hb, hml, hown, htx⟩ (gR_put l hl9 D cT aK aV H.size n a3 a4 x2.toInt64 f3 v4 v5 o22 hq23) ⟨callB_of 1 htx (xw_goodC kw_2_126) rfl rfl rfl (htx _ kw_1_4) (htx _ kw_2_123) ⟨by decide, by decide, by decide +kernel⟩ ⟨Nat.le_of_ble_eq_true rfl, Nat.le_of_ble_eq_true rfl⟩, (htx _ kw_2_124), (htx _ kw_2_125)⟩ ⟨xPre_blind, va_recv hK hP (ci := 2) rfl (q0 := 3) rfl, (fun U hU hW => ⟨rfl, xPre_of hZ hS hFc hPc hDc hK U hU hW⟩)⟩ rfl rfl hl.1 rfl (lv_room (Nat.le_of_ble_eq_true rfl)) dD_letters_36 ⟨Nat.le_of_ble_eq_true rfl, Nat.le_of_ble_eq_true rfl⟩) hS (fun q _ h => hFc q h) hFc (fun u9 t H1 locs ht hvm hr9 hB hz1 hk1 hS => ?_)
          obtain ⟨hP1, hK1, hD1⟩ := hB
          rw [ht] at hP1
          obtain ⟨hP, hD⟩ := xjoin (W := [(a0, .inr (4, [.ref a1, .ref a3, .int o18.2.1, .int o18.2.2])), (a1, .inr (1, [.ref a2, .int v1, .int v2])), (a2, .inl (cT 0, 4096, .inl f0)), (a3, .inr (2, [.ref a4, .int o22.2.1, .int o22.2.2])), (a4, .inl (cT 2, 4096, .inr (.inl o22.1)))]) hP hD [3, 4] [0, 1, 2] 3 rfl rfl (by decide) (by decide) hk1 hFc hP1 hD1
          generalize H1 = H at hP hS ⊢
          refine lv_iconst (v := 1) hx hb dD_letters_39 (by decide) ?_
          obtain rfl := Option.some.inj hf
          obtain ⟨hP9, hD9⟩ := xsub (wc := [(a0, .inr (4, [.ref a1, .ref a3, .int o18.2.1, .int o18.2.2])), (a1, .inr (1, [.ref a2, .int v1, .int v2])), (a2, .inl (cT 0, 4096, .inl f0)), (a3, .inr (2, [.ref a4, .int o22.2.1, .int o22.2.2])), (a4, .inl (cT 2, 4096, .inr (.inl o22.1)))]) hP hD [0, 1, 2, 3, 4] rfl rfl (by decide)
          exact W.zret (v := (1 : Int32)) hx hb hr rfl (fun t ht hW => ⟨⟨(1 : Int32), (), rfl, rfl, by rw [ht]; exact hP9, va_K.moved hW.alike hK, hD9⟩, hS.F ht⟩) hS.2.2 dD_letters_40
        · rw [if_pos hc] at hf
          refine lv_iconst (v := 0) hx hb dD_letters_22 (by decide) ?_
          obtain rfl := Option.some.inj hf
          obtain ⟨hP9, hD9⟩ := xsub (wc := [(a0, .inr (4, [.ref a1, .ref a3, .int o18.2.1, .int o18.2.2])), (a1, .inr (1, [.ref a2, .int v1, .int v2])), (a2, .inl (cT 0, 4096, .inl f0)), (a3, .inr (2, [.ref a4, .int v4, .int v5])), (a4, .inl (cT 2, 4096, .inr (.inl f3)))]) hP hD [0, 1, 2, 3, 4] rfl rfl (by decide)
          exact W.zret (v := (0 : Int32)) hx hb hr rfl (fun t ht hW => ⟨⟨(0 : Int32), (), rfl, rfl, by rw [ht]; exact hP9, va_K.moved hW.alike hK, hD9⟩, hS.F ht⟩) hS.2.2 dD_letters_23
      · rw [if_pos hc] at hf
        refine lv_iconst (v := 0) hx hb dD_letters_22 (by decide) ?_
        obtain rfl := Option.some.inj hf
        obtain ⟨hP9, hD9⟩ := xsub (wc := [(a0, .inr (4, [.ref a1, .ref a3, .int o13.2.1, .int o13.2.2])), (a1, .inr (1, [.ref a2, .int v1, .int v2])), (a2, .inl (cT 0, 4096, .inl f0)), (a3, .inr (2, [.ref a4, .int v4, .int v5])), (a4, .inl (cT 2, 4096, .inr (.inl f3)))]) hP hD [0, 1, 2, 3, 4] rfl rfl (by decide)
        exact W.zret (v := (0 : Int32)) hx hb hr rfl (fun t ht hW => ⟨⟨(0 : Int32), (), rfl, rfl, by rw [ht]; exact hP9, va_K.moved hW.alike hK, hD9⟩, hS.F ht⟩) hS.2.2 dD_letters_23
    · rw [if_pos hc] at hf
      refine lv_iconst (v := 0) hx hb dD_letters_22 (by decide) ?_
      obtain rfl := Option.some.inj hf
      obtain ⟨hP9, hD9⟩ := xsub (wc := [(a0, .inr (4, [.ref a1, .ref a3, .int o8.2.1, .int o8.2.2])), (a1, .inr (1, [.ref a2, .int v1, .int v2])), (a2, .inl (cT 0, 4096, .inl f0)), (a3, .inr (2, [.ref a4, .int v4, .int v5])), (a4, .inl (cT 2, 4096, .inr (.inl f3)))]) hP hD [0, 1, 2, 3, 4] rfl rfl (by decide)
      exact W.zret (v := (0 : Int32)) hx hb hr rfl (fun t ht hW => ⟨⟨(0 : Int32), (), rfl, rfl, by rw [ht]; exact hP9, va_K.moved hW.alike hK, hD9⟩, hS.F ht⟩) hS.2.2 dD_letters_23
  · rw [if_pos hc] at hf
    refine lv_iconst (v := 0) hx hb dD_letters_22 (by decide) ?_
    obtain rfl := Option.some.inj hf
    obtain ⟨hP9, hD9⟩ := xsub (wc := [(a0, .inr (4, [.ref a1, .ref a3, .int o3.2.1, .int o3.2.2])), (a1, .inr (1, [.ref a2, .int v1, .int v2])), (a2, .inl (cT 0, 4096, .inl f0)), (a3, .inr (2, [.ref a4, .int v4, .int v5])), (a4, .inl (cT 2, 4096, .inr (.inl f3)))]) hP hD [0, 1, 2, 3, 4] rfl rfl (by decide)
    exact W.zret (v := (0 : Int32)) hx hb hr rfl (fun t ht hW => ⟨⟨(0 : Int32), (), rfl, rfl, by rw [ht]; exact hP9, va_K.moved hW.alike hK, hD9⟩, hS.F ht⟩) hS.2.2 dD_letters_23
set_option maxHeartbeats 400000000 in
set_option maxRecDepth 100000 in
theorem gD_isNew (l : Launch) (hl9 : l.stackTraces = false) (D : va_G) (cT : Nat → ClassId) (aK aV : Nat → Nat) (sz n : Nat) (a0 : Nat) (a1 : Nat) (a2 : Nat) (a3 : Nat) (a4 : Nat) (x1 : Int32) (x2 : Int32) (x3 : Int32) (x4 : Int32) (f0 : Nat → Int32) (v1 : Int32) (v2 : Int32) (f3 : Nat → Int64) (v4 : Int32) (v5 : Int32) (v6 : Int32) (v7 : Int32) (out : Int32 × (Nat → Int64) × Int32) (hf : fD_isNew n x1 x2 x3 x4 f0 v1 v2 f3 v4 v5 v6 v7 = some out) : xMet l yD_isNew wyD_isNew 2 0 0 55 D cT aK aV sz [.ref a0, .int x1, .int x2, .int x3, .int x4] [(a0, .inr (4, [.ref a1, .ref a3, .int v6, .int v7])), (a1, .inr (1, [.ref a2, .int v1, .int v2])), (a2, .inl (cT 0, 4096, .inl f0)), (a3, .inr (2, [.ref a4, .int v4, .int v5])), (a4, .inl (cT 2, 4096, .inr (.inl f3)))] (fun A => va_Qi (fun (r : Int32) (_ : Unit) => r = out.1) (fun _ t => xB D xcl cT A [(a0, .inr (4, [.ref a1, .ref a3, .int v6, .int out.2.2])), (a1, .inr (1, [.ref a2, .int v1, .int v2])), (a2, .inl (cT 0, 4096, .inl f0)), (a3, .inr (2, [.ref a4, .int v4, .int v5])), (a4, .inl (cT 2, 4096, .inr (.inl out.2.1)))] t) A) := by
  refine Met.ofW (cc := prog_7_method_23_code) (maxL := 5) (ret := (some .boolean)) (by decide) rfl ?_
  intro p e s m args below meth c s₁ B hml hv
  obtain ⟨rfl, hsz, hZ, hP, hK, hD0⟩ := hv
  have hx := B.exec
  have hb := B.bytes
  have hr := B.returns
  have hts := atoms_spec (ws := wyD_isNew) B.pre
  have htx := fun w h => hts w (List.mem_cons_of_mem _ h)
  have hown : s.vm.findClass "ValueBench$Reader" = some m.cls := findClass_of_methodNamed B.named
  have hlocks := B.notSynchronized
  subst hsz
  have hD := hD0.self (sz := s.heap.size)
  generalize hAe : va_A [(a0, .inr (4, [.ref a1, .ref a3, .int v6, .int v7])), (a1, .inr (1, [.ref a2, .int v1, .int v2])), (a2, .inl (cT 0, 4096, .inl f0)), (a3, .inr (2, [.ref a4, .int v4, .int v5])), (a4, .inl (cT 2, 4096, .inr (.inl f3)))] s.heap.size = A at hD hZ ⊢
  have hA : ∀ q : Nat, s.heap.size ≤ q → A q := fun q h => by rw [← hAe]; exact Or.inr h
  have hS : va_S A s.heap s.heap [] := va_S.rf
  have hP : va_P D xcl [(a0, .inr (4, [.ref a1, .ref a3, .int v6, .int v7])), (a1, .inr (1, [.ref a2, .int v1, .int v2])), (a2, .inl (cT 0, 4096, .inl f0)), (a3, .inr (2, [.ref a4, .int v4, .int v5])), (a4, .inl (cT 2, 4096, .inr (.inl f3)))] s.heap := hP
  have hl := lv_entry ([.ref a0, .int x1, .int x2, .int x3, .int x4]) (n := 5) (Nat.le_of_ble_eq_true rfl)
  rw [lg_entry_eq]
  generalize (lg_sl ([.ref a0, .int x1, .int x2, .int x3, .int x4]) ++ List.replicate (5 - (lg_sl ([.ref a0, .int x1, .int x2, .int x3, .int x4])).length) Slot.unset).toArray = ls at hl ⊢
  have hl : lv_has ls 5 [(0, .ref a0), (1, .int x1), (2, .int x2), (3, .int x3), (4, .int x4)] := hl
  unfold fD_isNew at hf
  refine lv_aload_n hx hb dD_isNew_0 rfl (lv_at hl 0 rfl) ?_
  refine va_get (D := D) (ci := 4) (v := .ref a3) (C := "ValueBench$Reader") (T := TD) (N := 4) hx hb htx inD hown hK hP 0 rfl rfl 1 (by decide) (htx _ kw_2_30) (fun _ h9 => h9) rfl dD_isNew_1 ?_
  refine lv_iload_n hx hb dD_isNew_4 rfl (lv_at hl 3 rfl) ?_
  refine lv_bipush (v := 6) hx hb dD_isNew_5 (by decide) ?_
  refine lv_iload hx hb dD_isNew_7 (lv_at hl 4 rfl) ?_
  obtain ⟨o1, hq2, hf⟩ := xbind hf
  obtain ⟨hPc, hDc, hFc⟩ := xcut (wc := [(a3, .inr (2, [.ref a4, .int v4, .int v5])), (a4, .inl (cT 2, 4096, .inr (.inl f3)))]) hP hD hS hA [3, 4] rfl rfl (by decide)
  refine va_callv (va_runV (C := "ValueBench$Row") (As := [.int x3, .int 6, .int x4]) (rest := []) ⟨hx, hb, hml, hown, htx⟩ (gR_close l hl9 D cT aK aV s.heap.size n a3 a4 x3 (6 : Int32) x4 f3 v4 v5 o1 hq2) ⟨callB_of 3 htx (xw_goodC kw_2_167) rfl rfl rfl (htx _ kw_1_4) (htx _ kw_2_164) ⟨by decide, by decide, by decide +kernel⟩ ⟨Nat.le_of_ble_eq_true rfl, Nat.le_of_ble_eq_true rfl⟩, (htx _ kw_2_165), (htx _ kw_2_166)⟩ ⟨xPre_blind, va_recv hK hP (ci := 2) rfl (q0 := 3) rfl, (fun U hU hW => ⟨rfl, xPre_of hZ hS hFc hPc hDc hK U hU hW⟩)⟩ rfl rfl hl.1 rfl (lv_room (Nat.le_of_ble_eq_true rfl)) dD_isNew_9 ⟨Nat.le_of_ble_eq_true rfl, Nat.le_of_ble_eq_true rfl⟩) hS (fun q _ h => hFc q h) hFc (fun u9 t H1 locs ht hvm hr9 hB hz1 hk1 hS => ?_)
  obtain ⟨hP1, hK1, hD1⟩ := hB
  rw [ht] at hP1
  obtain ⟨hP, hD⟩ := xjoin (W := [(a0, .inr (4, [.ref a1, .ref a3, .int v6, .int v7])), (a1, .inr (1, [.ref a2, .int v1, .int v2])), (a2, .inl (cT 0, 4096, .inl f0)), (a3, .inr (2, [.ref a4, .int v4, .int v5])), (a4, .inl (cT 2, 4096, .inr (.inl o1)))]) hP hD [3, 4] [0, 1, 2] 3 rfl rfl (by decide) (by decide) hk1 hFc hP1 hD1
  generalize H1 = H at hP hS ⊢
  refine lv_aload_n hx hb dD_isNew_12 rfl (lv_at hl 0 rfl) ?_
  refine va_get (D := D) (ci := 4) (v := .ref a3) (C := "ValueBench$Reader") (T := TD) (N := 4) hx hb htx inD hown hK hP 0 rfl rfl 1 (by decide) (htx _ kw_2_30) (fun _ h9 => h9) rfl dD_isNew_13 ?_
  refine lv_iload_n hx hb dD_isNew_16 rfl (lv_at hl 3 rfl) ?_
  refine lv_aload_n hx hb dD_isNew_17 rfl (lv_at hl 0 rfl) ?_
  refine va_get (D := D) (ci := 4) (v := .ref a3) (C := "ValueBench$Reader") (T := TD) (N := 4) hx hb htx inD hown hK hP 0 rfl rfl 1 (by decide) (htx _ kw_2_30) (fun _ h9 => h9) rfl dD_isNew_18 ?_
  refine lv_iload_n hx hb dD_isNew_21 rfl (lv_at hl 1 rfl) ?_
  obtain ⟨o3, hq4, hf⟩ := xbind hf
  obtain ⟨hPc, hDc, hFc⟩ := xcut (wc := [(a3, .inr (2, [.ref a4, .int v4, .int v5])), (a4, .inl (cT 2, 4096, .inr (.inl o1)))]) hP hD hS hA [3, 4] rfl rfl (by decide)
  refine va_calli (va_runV (C := "ValueBench$Row") (As := [.int x3, .ref a3, .int x1]) (rest := []) ⟨hx, hb, hml, hown, htx⟩ (gR_valueOf l hl9 D cT aK aV H.size n a3 a4 x3 x1 o1 v4 v5 o3 hq4) ⟨callB_of 3 htx (xw_goodC kw_2_187) rfl rfl rfl (htx _ kw_1_4) (htx _ kw_2_184) ⟨by decide, by decide, by decide +kernel⟩ ⟨Nat.le_of_ble_eq_true rfl, Nat.le_of_ble_eq_true rfl⟩, (htx _ kw_2_185), (htx _ kw_2_186)⟩ ⟨xPre_blind, va_recv hK hP (ci := 2) rfl (q0 := 3) rfl, (fun U hU hW => ⟨rfl, xPre_of hZ hS hFc hPc hDc hK U hU hW⟩)⟩ rfl rfl hl.1 rfl (lv_room (Nat.le_of_ble_eq_true rfl)) dD_isNew_22 ⟨Nat.le_of_ble_eq_true rfl, Nat.le_of_ble_eq_true rfl⟩) hS (fun q _ h => hFc q h) hFc (fun r5 u9 t H1 locs ht hvm hr9 hB hz1 hk1 hS => ?_)
  obtain ⟨hP1, hK1, hD1⟩ := hB
  rw [ht] at hP1
  obtain ⟨hP, hD⟩ := xjoin (W := [(a0, .inr (4, [.ref a1, .ref a3, .int v6, .int v7])), (a1, .inr (1, [.ref a2, .int v1, .int v2])), (a2, .inl (cT 0, 4096, .inl f0)), (a3, .inr (2, [.ref a4, .int v4, .int v5])), (a4, .inl (cT 2, 4096, .inr (.inl o1)))]) hP hD [3, 4] [0, 1, 2] 3 rfl rfl (by decide) (by decide) hk1 hFc hP1 hD1
  generalize H1 = H at hP hS ⊢
  rw [hr9]
  refine W.eq (g2 := F0 m 25 ls [.int o3]) rfl ?_
  refine lv_iconst (v := (-1)) hx hb dD_isNew_25 (by decide) ?_
  refine lv_icmp_eq (tgt := 37) hx hb dD_isNew_26 (by decide) (fun hc => ?_) (fun hc => ?_)
  · rw [if_pos hc] at hf
    refine lv_iconst (v := 1) hx hb dD_isNew_37 (by decide) ?_
    refine lv_goto (tgt := 42) hx hb dD_isNew_38 (by decide) ?_
    obtain rfl := Option.some.inj hf
    obtain ⟨hP9, hD9⟩ := xsub (wc := [(a0, .inr (4, [.ref a1, .ref a3, .int v6, .int v7])), (a1, .inr (1, [.ref a2, .int v1, .int v2])), (a2, .inl (cT 0, 4096, .inl f0)), (a3, .inr (2, [.ref a4, .int v4, .int v5])), (a4, .inl (cT 2, 4096, .inr (.inl o1)))]) hP hD [0, 1, 2, 3, 4] rfl rfl (by decide)
    exact W.zret (v := (1 : Int32)) hx hb hr rfl (fun t ht hW => ⟨⟨(1 : Int32), (), rfl, rfl, by rw [ht]; exact hP9, va_K.moved hW.alike hK, hD9⟩, hS.F ht⟩) hS.2.2 dD_isNew_42
  · rw [if_neg hc] at hf
    refine lv_aload_n hx hb dD_isNew_29 rfl (lv_at hl 0 rfl) ?_
    refine lv_iload_n hx hb dD_isNew_30 rfl (lv_at hl 2 rfl) ?_
    obtain ⟨o6, hq7, hf⟩ := xbind hf
    obtain ⟨hPc, hDc, hFc⟩ := xcut (wc := [(a0, .inr (4, [.ref a1, .ref a3, .int v6, .int v7])), (a1, .inr (1, [.ref a2, .int v1, .int v2])), (a2, .inl (cT 0, 4096, .inl f0)), (a3, .inr (2, [.ref a4, .int v4, .int v5])), (a4, .inl (cT 2, 4096, .inr (.inl o1)))]) hP hD hS hA [0, 1, 2, 3, 4] rfl rfl (by decide)
    refine va_calli (va_runV (C := "ValueBench$Reader") (As := [.int x2]) (rest := []) ⟨hx, hb, hml, hown, htx⟩ (gD_broken l hl9 D cT aK aV H.size n a0 a1 a2 a3 a4 x2 f0 v1 v2 o1 v4 v5 v6 v7 o6 hq7) ⟨callB_of 1 htx (xw_goodC kw_2_122) rfl rfl rfl (htx _ kw_1_16) (htx _ kw_2_119) ⟨by decide, by decide, by decide +kernel⟩ ⟨Nat.le_of_ble_eq_true rfl, Nat.le_of_ble_eq_true rfl⟩, (htx _ kw_2_121), (htx _ kp_D_broken)⟩ ⟨xPre_blind, va_recv hK hP (ci := 4) rfl (q0 := 0) rfl, (fun U hU hW => ⟨rfl, xPre_of hZ hS hFc hPc hDc hK U hU hW⟩)⟩ rfl rfl hl.1 rfl (lv_room (Nat.le_of_ble_eq_true rfl)) dD_isNew_31 ⟨Nat.le_of_ble_eq_true rfl, Nat.le_of_ble_eq_true rfl⟩) hS (fun q _ h => hFc q h) hFc (fun r8 u9 t H1 locs ht hvm hr9 hB hz1 hk1 hS => ?_)
    obtain ⟨hP1, hK1, hD1⟩ := hB
    rw [ht] at hP1
    obtain ⟨hP, hD⟩ := xjoin (W := [(a0, .inr (4, [.ref a1, .ref a3, .int v6, .int o6.2])), (a1, .inr (1, [.ref a2, .int v1, .int v2])), (a2, .inl (cT 0, 4096, .inl f0)), (a3, .inr (2, [.ref a4, .int v4, .int v5])), (a4, .inl (cT 2, 4096, .inr (.inl o1)))]) hP hD [0, 1, 2, 3, 4] [] 0 rfl rfl (by decide) (by decide) hk1 hFc hP1 hD1
    generalize H1 = H at hP hS ⊢
    rw [hr9]
    refine W.eq (g2 := F0 m 34 ls [.int o6.1]) rfl ?_
    refine lv_if_eq (tgt := 41) hx hb dD_isNew_34 (by decide) (fun hc => ?_) (fun hc => ?_)
    · rw [if_pos hc] at hf
      refine lv_iconst (v := 0) hx hb dD_isNew_41 (by decide) ?_
      obtain rfl := Option.some.inj hf
      obtain ⟨hP9, hD9⟩ := xsub (wc := [(a0, .inr (4, [.ref a1, .ref a3, .int v6, .int o6.2])), (a1, .inr (1, [.ref a2, .int v1, .int v2])), (a2, .inl (cT 0, 4096, .inl f0)), (a3, .inr (2, [.ref a4, .int v4, .int v5])), (a4, .inl (cT 2, 4096, .inr (.inl o1)))]) hP hD [0, 1, 2, 3, 4] rfl rfl (by decide)
      exact W.zret (v := (0 : Int32)) hx hb hr rfl (fun t ht hW => ⟨⟨(0 : Int32), (), rfl, rfl, by rw [ht]; exact hP9, va_K.moved hW.alike hK, hD9⟩, hS.F ht⟩) hS.2.2 dD_isNew_42
    · rw [if_neg hc] at hf
      refine lv_iconst (v := 1) hx hb dD_isNew_37 (by decide) ?_
      refine lv_goto (tgt := 42) hx hb dD_isNew_38 (by decide) ?_
      obtain rfl := Option.some.inj hf
      obtain ⟨hP9, hD9⟩ := xsub (wc := [(a0, .inr (4, [.ref a1, .ref a3, .int v6, .int o6.2])), (a1, .inr (1, [.ref a2, .int v1, .int v2])), (a2, .inl (cT 0, 4096, .inl f0)), (a3, .inr (2, [.ref a4, .int v4, .int v5])), (a4, .inl (cT 2, 4096, .inr (.inl o1)))]) hP hD [0, 1, 2, 3, 4] rfl rfl (by decide)
      exact W.zret (v := (1 : Int32)) hx hb hr rfl (fun t ht hW => ⟨⟨(1 : Int32), (), rfl, rfl, by rw [ht]; exact hP9, va_K.moved hW.alike hK, hD9⟩, hS.F ht⟩) hS.2.2 dD_isNew_42
set_option maxHeartbeats 400000000 in
set_option maxRecDepth 100000 in
theorem gD_colon (l : Launch) (hl9 : l.stackTraces = false) (D : va_G) (cT : Nat → ClassId) (aK aV : Nat → Nat) (sz n : Nat) (a0 : Nat) (a1 : Nat) (a2 : Nat) (a3 : Nat) (a4 : Nat) (f0 : Nat → Int32) (v1 : Int32) (v2 : Int32) (f3 : Nat → Int64) (v4 : Int32) (v5 : Int32) (v6 : Int32) (v7 : Int32) (out : Int32 × Int32 × Int32) (hf : fD_colon n f0 v1 v2 f3 v4 v5 v6 v7 = some out) : xMet l yD_colon wyD_colon 2 0 0 42 D cT aK aV sz [.ref a0] [(a0, .inr (4, [.ref a1, .ref a3, .int v6, .int v7])), (a1, .inr (1, [.ref a2, .int v1, .int v2])), (a2, .inl (cT 0, 4096, .inl f0)), (a3, .inr (2, [.ref a4, .int v4, .int v5])), (a4, .inl (cT 2, 4096, .inr (.inl f3)))] (fun A => va_Qi (fun (r : Int32) (_ : Unit) => r = out.1) (fun _ t => xB D xcl cT A [(a0, .inr (4, [.ref a1, .ref a3, .int out.2.1, .int out.2.2])), (a1, .inr (1, [.ref a2, .int v1, .int v2])), (a2, .inl (cT 0, 4096, .inl f0)), (a3, .inr (2, [.ref a4, .int v4, .int v5])), (a4, .inl (cT 2, 4096, .inr (.inl f3)))] t) A) := by
  refine Met.ofW (cc := prog_7_method_24_code) (maxL := 1) (ret := (some .boolean)) (by decide) rfl ?_
  intro p e s m args below meth c s₁ B hml hv
  obtain ⟨rfl, hsz, hZ, hP, hK, hD0⟩ := hv
  have hx := B.exec
  have hb := B.bytes
  have hr := B.returns
  have hts := atoms_spec (ws := wyD_colon) B.pre
  have htx := fun w h => hts w (List.mem_cons_of_mem _ h)
  have hown : s.vm.findClass "ValueBench$Reader" = some m.cls := findClass_of_methodNamed B.named
  have hlocks := B.notSynchronized
  subst hsz
  have hD := hD0.self (sz := s.heap.size)
  generalize hAe : va_A [(a0, .inr (4, [.ref a1, .ref a3, .int v6, .int v7])), (a1, .inr (1, [.ref a2, .int v1, .int v2])), (a2, .inl (cT 0, 4096, .inl f0)), (a3, .inr (2, [.ref a4, .int v4, .int v5])), (a4, .inl (cT 2, 4096, .inr (.inl f3)))] s.heap.size = A at hD hZ ⊢
  have hA : ∀ q : Nat, s.heap.size ≤ q → A q := fun q h => by rw [← hAe]; exact Or.inr h
  have hS : va_S A s.heap s.heap [] := va_S.rf
  have hP : va_P D xcl [(a0, .inr (4, [.ref a1, .ref a3, .int v6, .int v7])), (a1, .inr (1, [.ref a2, .int v1, .int v2])), (a2, .inl (cT 0, 4096, .inl f0)), (a3, .inr (2, [.ref a4, .int v4, .int v5])), (a4, .inl (cT 2, 4096, .inr (.inl f3)))] s.heap := hP
  have hl := lv_entry ([.ref a0]) (n := 1) (Nat.le_of_ble_eq_true rfl)
  rw [lg_entry_eq]
  generalize (lg_sl ([.ref a0]) ++ List.replicate (1 - (lg_sl ([.ref a0])).length) Slot.unset).toArray = ls at hl ⊢
  have hl : lv_has ls 1 [(0, .ref a0)] := hl
  unfold fD_colon at hf
  refine lv_aload_n hx hb dD_colon_0 rfl (lv_at hl 0 rfl) ?_
  obtain ⟨o1, hq2, hf⟩ := xbind hf
  obtain ⟨hPc, hDc, hFc⟩ := xcut (wc := [(a0, .inr (4, [.ref a1, .ref a3, .int v6, .int v7])), (a1, .inr (1, [.ref a2, .int v1, .int v2])), (a2, .inl (cT 0, 4096, .inl f0)), (a3, .inr (2, [.ref a4, .int v4, .int v5])), (a4, .inl (cT 2, 4096, .inr (.inl f3)))]) hP hD hS hA [0, 1, 2, 3, 4] rfl rfl (by decide)
  refine va_callv (va_runV (C := "ValueBench$Reader") (As := []) (rest := []) ⟨hx, hb, hml, hown, htx⟩ (gD_skipBlanks l hl9 D cT aK aV s.heap.size n a0 a1 a2 a3 a4 f0 v1 v2 f3 v4 v5 v6 v7 o1 hq2) ⟨callB_of 0 htx (xw_goodC kw_2_53) rfl rfl rfl (htx _ kw_1_16) (htx _ kw_2_50) ⟨by decide, by decide, by decide +kernel⟩ ⟨Nat.le_of_ble_eq_true rfl, Nat.le_of_ble_eq_true rfl⟩, (htx _ kw_2_52), (htx _ kp_D_skipBlanks)⟩ ⟨xPre_blind, va_recv hK hP (ci := 4) rfl (q0 := 0) rfl, (fun U hU hW => ⟨rfl, xPre_of hZ hS hFc hPc hDc hK U hU hW⟩)⟩ rfl rfl hl.1 rfl (lv_room (Nat.le_of_ble_eq_true rfl)) dD_colon_1 ⟨Nat.le_of_ble_eq_true rfl, Nat.le_of_ble_eq_true rfl⟩) hS (fun q _ h => hFc q h) hFc (fun u9 t H1 locs ht hvm hr9 hB hz1 hk1 hS => ?_)
  obtain ⟨hP1, hK1, hD1⟩ := hB
  rw [ht] at hP1
  obtain ⟨hP, hD⟩ := xjoin (W := [(a0, .inr (4, [.ref a1, .ref a3, .int o1, .int v7])), (a1, .inr (1, [.ref a2, .int v1, .int v2])), (a2, .inl (cT 0, 4096, .inl f0)), (a3, .inr (2, [.ref a4, .int v4, .int v5])), (a4, .inl (cT 2, 4096, .inr (.inl f3)))]) hP hD [0, 1, 2, 3, 4] [] 0 rfl rfl (by decide) (by decide) hk1 hFc hP1 hD1
  generalize H1 = H at hP hS ⊢
  refine lv_aload_n hx hb dD_colon_4 rfl (lv_at hl 0 rfl) ?_
  refine lv_bipush (v := 58) hx hb dD_colon_5 (by decide) ?_
  obtain ⟨o3, hq4, hf⟩ := xbind hf
  obtain ⟨hPc, hDc, hFc⟩ := xcut (wc := [(a0, .inr (4, [.ref a1, .ref a3, .int o1, .int v7])), (a1, .inr (1, [.ref a2, .int v1, .int v2])), (a2, .inl (cT 0, 4096, .inl f0)), (a3, .inr (2, [.ref a4, .int v4, .int v5])), (a4, .inl (cT 2, 4096, .inr (.inl f3)))]) hP hD hS hA [0, 1, 2, 3, 4] rfl rfl (by decide)
  refine va_calli (va_runV (C := "ValueBench$Reader") (As := [.int 58]) (rest := []) ⟨hx, hb, hml, hown, htx⟩ (gD_take l hl9 D cT aK aV H.size n a0 a1 a2 a3 a4 (58 : Int32) f0 v1 v2 f3 v4 v5 o1 v7 o3 hq4) ⟨callB_of 1 htx (xw_goodC kw_2_118) rfl rfl rfl (htx _ kw_1_16) (htx _ kw_2_115) ⟨by decide, by decide, by decide +kernel⟩ ⟨Nat.le_of_ble_eq_true rfl, Nat.le_of_ble_eq_true rfl⟩, (htx _ kw_2_117), (htx _ kp_D_take)⟩ ⟨xPre_blind, va_recv hK hP (ci := 4) rfl (q0 := 0) rfl, (fun U hU hW => ⟨rfl, xPre_of hZ hS hFc hPc hDc hK U hU hW⟩)⟩ rfl rfl hl.1 rfl (lv_room (Nat.le_of_ble_eq_true rfl)) dD_colon_7 ⟨Nat.le_of_ble_eq_true rfl, Nat.le_of_ble_eq_true rfl⟩) hS (fun q _ h => hFc q h) hFc (fun r5 u9 t H1 locs ht hvm hr9 hB hz1 hk1 hS => ?_)
  obtain ⟨hP1, hK1, hD1⟩ := hB
  rw [ht] at hP1
  obtain ⟨hP, hD⟩ := xjoin (W := [(a0, .inr (4, [.ref a1, .ref a3, .int o3.2.1, .int o3.2.2])), (a1, .inr (1, [.ref a2, .int v1, .int v2])), (a2, .inl (cT 0, 4096, .inl f0)), (a3, .inr (2, [.ref a4, .int v4, .int v5])), (a4, .inl (cT 2, 4096, .inr (.inl f3)))]) hP hD [0, 1, 2, 3, 4] [] 0 rfl rfl (by decide) (by decide) hk1 hFc hP1 hD1
  generalize H1 = H at hP hS ⊢
  rw [hr9]
  refine W.eq (g2 := F0 m 10 ls [.int o3.1]) rfl ?_
  obtain ⟨hg6, hf⟩ := xifn hf
  obtain rfl := Option.some.inj hf
  obtain ⟨hP9, hD9⟩ := xsub (wc := [(a0, .inr (4, [.ref a1, .ref a3, .int o3.2.1, .int o3.2.2])), (a1, .inr (1, [.ref a2, .int v1, .int v2])), (a2, .inl (cT 0, 4096, .inl f0)), (a3, .inr (2, [.ref a4, .int v4, .int v5])), (a4, .inl (cT 2, 4096, .inr (.inl f3)))]) hP hD [0, 1, 2, 3, 4] rfl rfl (by decide)
  exact W.zret (v := o3.1) hx hb hr (xzb hg6) (fun t ht hW => ⟨⟨o3.1, (), rfl, rfl, by rw [ht]; exact hP9, va_K.moved hW.alike hK, hD9⟩, hS.F ht⟩) hS.2.2 dD_colon_10
set_option maxHeartbeats 400000000 in
set_option maxRecDepth 100000 in
theorem gD_object (l : Launch) (hl9 : l.stackTraces = false) (D : va_G) (cT : Nat → ClassId) (aK aV : Nat → Nat) (fr lo : Nat) (rec : Int32 → (Nat → Int32) → Int32 → Int32 → (Nat → Int64) → Int32 → Int32 → Int32 → Int32 → Option (Int32 × (Nat → Int64) × Int32 × Int32 × Int32 × Int32)) (hrec : ∀ (sz : Nat) (a0 : Nat) (a1 : Nat) (a2 : Nat) (a3 : Nat) (a4 : Nat) (x1 : Int32) (f0 : Nat → Int32) (v1 : Int32) (v2 : Int32) (f3 : Nat → Int64) (v4 : Int32) (v5 : Int32) (v6 : Int32) (v7 : Int32) (out : Int32 × (Nat → Int64) × Int32 × Int32 × Int32 × Int32), rec x1 f0 v1 v2 f3 v4 v5 v6 v7 = some out → xMet l yD_value wyD_value fr 0 0 lo D cT aK aV sz [.ref a0, .int x1] [(a0, .inr (4, [.ref a1, .ref a3, .int v6, .int v7])), (a1, .inr (1, [.ref a2, .int v1, .int v2])), (a2, .inl (cT 0, 4096, .inl f0)), (a3, .inr (2, [.ref a4, .int v4, .int v5])), (a4, .inl (cT 2, 4096, .inr (.inl f3)))] (fun A => va_Qi (fun (r : Int32) (_ : Unit) => r = out.1) (fun _ t => xB D xcl cT A [(a0, .inr (4, [.ref a1, .ref a3, .int out.2.2.2.2.1, .int out.2.2.2.2.2])), (a1, .inr (1, [.ref a2, .int v1, .int v2])), (a2, .inl (cT 0, 4096, .inl f0)), (a3, .inr (2, [.ref a4, .int out.2.2.1, .int out.2.2.2.1])), (a4, .inl (cT 2, 4096, .inr (.inl out.2.1)))] t) A)) (sz n : Nat) (a0 : Nat) (a1 : Nat) (a2 : Nat) (a3 : Nat) (a4 : Nat) (x1 : Int32) (f0 : Nat → Int32) (v1 : Int32) (v2 : Int32) (f3 : Nat → Int64) (v4 : Int32) (v5 : Int32) (v6 : Int32) (v7 : Int32) (out : Int32 × (Nat → Int64) × Int32 × Int32 × Int32 × Int32) (hf : fD_object rec n x1 f0 v1 v2 f3 v4 v5 v6 v7 = some out) : xMet l yD_object wyD_object (fr + 3) 0 0 (lo + 79) D cT aK aV sz [.ref a0, .int x1] [(a0, .inr (4, [.ref a1, .ref a3, .int v6, .int v7])), (a1, .inr (1, [.ref a2, .int v1, .int v2])), (a2, .inl (cT 0, 4096, .inl f0)), (a3, .inr (2, [.ref a4, .int v4, .int v5])), (a4, .inl (cT 2, 4096, .inr (.inl f3)))] (fun A => va_Qi (fun (r : Int32) (_ : Unit) => r = out.1) (fun _ t => xB D xcl cT A [(a0, .inr (4, [.ref a1, .ref a3, .int out.2.2.2.2.1, .int out.2.2.2.2.2])), (a1, .inr (1, [.ref a2, .int v1, .int v2])), (a2, .inl (cT 0, 4096, .inl f0)), (a3, .inr (2, [.ref a4, .int out.2.2.1, .int out.2.2.2.1])), (a4, .inl (cT 2, 4096, .inr (.inl out.2.1)))] t) A) := by
  refine Met.ofW (cc := prog_7_method_22_code) (maxL := 7) (ret := (some .boolean)) (by decide) rfl ?_
  intro p e s m args below meth c s₁ B hml hv
  obtain ⟨rfl, hsz, hZ, hP, hK, hD0⟩ := hv
  have hx := B.exec
  have hb := B.bytes
  have hr := B.returns
  have hts := atoms_spec (ws := wyD_object) B.pre
  have htx := fun w h => hts w (List.mem_cons_of_mem _ h)
  have hown : s.vm.findClass "ValueBench$Reader" = some m.cls := findClass_of_methodNamed B.named
  have hlocks := B.notSynchronized
  subst hsz
  have hD := hD0.self (sz := s.heap.size)
  generalize hAe : va_A [(a0, .inr (4, [.ref a1, .ref a3, .int v6, .int v7])), (a1, .inr (1, [.ref a2, .int v1, .int v2])), (a2, .inl (cT 0, 4096, .inl f0)), (a3, .inr (2, [.ref a4, .int v4, .int v5])), (a4, .inl (cT 2, 4096, .inr (.inl f3)))] s.heap.size = A at hD hZ ⊢
  have hA : ∀ q : Nat, s.heap.size ≤ q → A q := fun q h => by rw [← hAe]; exact Or.inr h
  have hS : va_S A s.heap s.heap [] := va_S.rf
  have hP : va_P D xcl [(a0, .inr (4, [.ref a1, .ref a3, .int v6, .int v7])), (a1, .inr (1, [.ref a2, .int v1, .int v2])), (a2, .inl (cT 0, 4096, .inl f0)), (a3, .inr (2, [.ref a4, .int v4, .int v5])), (a4, .inl (cT 2, 4096, .inr (.inl f3)))] s.heap := hP
  have hl := lv_entry ([.ref a0, .int x1]) (n := 7) (Nat.le_of_ble_eq_true rfl)
  rw [lg_entry_eq]
  generalize (lg_sl ([.ref a0, .int x1]) ++ List.replicate (7 - (lg_sl ([.ref a0, .int x1])).length) Slot.unset).toArray = ls at hl ⊢
  have hl : lv_has ls 7 [(0, .ref a0), (1, .int x1)] := hl
  unfold fD_object at hf
  refine xloopK (σ := Nat × Int32 × Int32 × Int32 × Int32 × (Nat → Int64) × Int32 × Int32 × Int32 × Int32) (fun n x H locs ls => (x.1 = 1 ∧ fD_object_b rec f0 v1 v2 n x.1 x.2.1 x.2.2.1 x.2.2.2.1 x.2.2.2.2.1 x.2.2.2.2.2.1 x.2.2.2.2.2.2.1 x.2.2.2.2.2.2.2.1 x.2.2.2.2.2.2.2.2.1 x.2.2.2.2.2.2.2.2.2 = some out ∧ va_P D xcl [(a0, .inr (4, [.ref a1, .ref a3, .int x.2.2.2.2.2.2.2.2.1, .int x.2.2.2.2.2.2.2.2.2])), (a1, .inr (1, [.ref a2, .int v1, .int v2])), (a2, .inl (cT 0, 4096, .inl f0)), (a3, .inr (2, [.ref a4, .int x.2.2.2.2.2.2.1, .int x.2.2.2.2.2.2.2.1])), (a4, .inl (cT 2, 4096, .inr (.inl x.2.2.2.2.2.1)))] H ∧ va_D A [(a0, .inr (4, [.ref a1, .ref a3, .int x.2.2.2.2.2.2.2.2.1, .int x.2.2.2.2.2.2.2.2.2])), (a1, .inr (1, [.ref a2, .int v1, .int v2])), (a2, .inl (cT 0, 4096, .inl f0)), (a3, .inr (2, [.ref a4, .int x.2.2.2.2.2.2.1, .int x.2.2.2.2.2.2.2.1])), (a4, .inl (cT 2, 4096, .inr (.inl x.2.2.2.2.2.1)))] ∧ va_S A s.heap H locs ∧ lv_has ls 7 [(4, .int x.2.1), (3, .int x.2.2.1), (2, .int x.2.2.2.1), (0, .ref a0), (1, .int x.2.2.2.2.1)])) (fun x => 47) (fun x H locs ls h => by exact absurd h.2.1 (by rw [fD_object_b]; exact fun h => nomatch h)) (fun n ih x H locs ls hv => ?_) (fun key => ?_)
  · obtain ⟨lb, y4, y3, y2, y1, w0, w1, w2, w3, w4⟩ := x
    rcases hv with ⟨hj, hf, hP, hD, hS, hl⟩
    subst hj
    have hf : fD_object_b rec f0 v1 v2 (n + 1) 1 y4 y3 y2 y1 w0 w1 w2 w3 w4 = some out := hf
    rw [fD_object_b] at hf
    obtain ⟨hP, hD⟩ : xPD D xcl A [(a0, .inr (4, [.ref a1, .ref a3, .int w3, .int w4])), (a1, .inr (1, [.ref a2, .int v1, .int v2])), (a2, .inl (cT 0, 4096, .inl f0)), (a3, .inr (2, [.ref a4, .int w1, .int w2])), (a4, .inl (cT 2, 4096, .inr (.inl w0)))] H := ⟨hP, hD⟩
    have hl : lv_has ls 7 [(4, .int y4), (3, .int y3), (2, .int y2), (0, .ref a0), (1, .int y1)] := hl
    refine W.eq (g2 := F0 m 47 ls []) rfl ?_
    refine lv_iload hx hb dD_object_47 (lv_at hl 0 rfl) ?_
    refine lv_if_eq (tgt := 129) hx hb dD_object_49 (by decide) (fun hc => ?_) (fun hc => ?_)
    · rw [if_pos hc] at hf
      refine lv_aload_n hx hb dD_object_129 rfl (lv_at hl 3 rfl) ?_
      refine va_get (D := D) (ci := 4) (v := .ref a3) (C := "ValueBench$Reader") (T := TD) (N := 4) hx hb htx inD hown hK hP 0 rfl rfl 1 (by decide) (htx _ kw_2_30) (fun _ h9 => h9) rfl dD_object_130 ?_
      refine lv_iload_n hx hb dD_object_133 rfl (lv_at hl 2 rfl) ?_
      refine lv_bipush (v := 6) hx hb dD_object_134 (by decide) ?_
      refine lv_iload_n hx hb dD_object_136 rfl (lv_at hl 1 rfl) ?_
      obtain ⟨o1, hq2, hf⟩ := xbind hf
      obtain ⟨hPc, hDc, hFc⟩ := xcut (wc := [(a3, .inr (2, [.ref a4, .int w1, .int w2])), (a4, .inl (cT 2, 4096, .inr (.inl w0)))]) hP hD hS hA [3, 4] rfl rfl (by decide)
      refine va_callv (va_runV (C := "ValueBench$Row") (As := [.int y2, .int 6, .int y3]) (rest := []) ⟨hx, hb, hml, hown, htx⟩ (gR_close l hl9 D cT aK aV H.size n a3 a4 y2 (6 : Int32) y3 w0 w1 w2 o1 hq2) ⟨callB_of 3 htx (xw_goodC kw_2_167) rfl rfl rfl (htx _ kw_1_4) (htx _ kw_2_164) ⟨by decide, by decide, by decide +kernel⟩ ⟨Nat.le_of_ble_eq_true rfl, Nat.le_of_ble_eq_true rfl⟩, (htx _ kw_2_165), (htx _ kw_2_166)⟩ ⟨xPre_blind, va_recv hK hP (ci := 2) rfl (q0 := 3) rfl, (fun U hU hW => ⟨rfl, xPre_of hZ hS hFc hPc hDc hK U hU hW⟩)⟩ rfl rfl hl.1 rfl (lv_room (Nat.le_of_ble_eq_true rfl)) dD_object_137 ⟨Nat.le_of_ble_eq_true rfl, Nat.le_of_ble_eq_true rfl⟩) hS (fun q _ h => hFc q h) hFc (fun u9 t H1 locs ht hvm hr9 hB hz1 hk1 hS => ?_)
      obtain ⟨hP1, hK1, hD1⟩ := hB
      rw [ht] at hP1
      obtain ⟨hP, hD⟩ := xjoin (W := [(a0, .inr (4, [.ref a1, .ref a3, .int w3, .int w4])), (a1, .inr (1, [.ref a2, .int v1, .int v2])), (a2, .inl (cT 0, 4096, .inl f0)), (a3, .inr (2, [.ref a4, .int w1, .int w2])), (a4, .inl (cT 2, 4096, .inr (.inl o1)))]) hP hD [3, 4] [0, 1, 2] 3 rfl rfl (by decide) (by decide) hk1 hFc hP1 hD1
      generalize H1 = H at hP hS ⊢
      refine lv_aload_n hx hb dD_object_140 rfl (lv_at hl 3 rfl) ?_
      refine lv_bipush (v := 125) hx hb dD_object_141 (by decide) ?_
      obtain ⟨o3, hq4, hf⟩ := xbind hf
      obtain ⟨hPc, hDc, hFc⟩ := xcut (wc := [(a0, .inr (4, [.ref a1, .ref a3, .int w3, .int w4])), (a1, .inr (1, [.ref a2, .int v1, .int v2])), (a2, .inl (cT 0, 4096, .inl f0)), (a3, .inr (2, [.ref a4, .int w1, .int w2])), (a4, .inl (cT 2, 4096, .inr (.inl o1)))]) hP hD hS hA [0, 1, 2, 3, 4] rfl rfl (by decide)
      refine va_calli (va_runV (C := "ValueBench$Reader") (As := [.int 125]) (rest := []) ⟨hx, hb, hml, hown, htx⟩ (gD_take l hl9 D cT aK aV H.size n a0 a1 a2 a3 a4 (125 : Int32) f0 v1 v2 o1 w1 w2 w3 w4 o3 hq4) ⟨callB_of 1 htx (xw_goodC kw_2_118) rfl rfl rfl (htx _ kw_1_16) (htx _ kw_2_115) ⟨by decide, by decide, by decide +kernel⟩ ⟨Nat.le_of_ble_eq_true rfl, Nat.le_of_ble_eq_true rfl⟩, (htx _ kw_2_117), (htx _ kp_D_take)⟩ ⟨xPre_blind, va_recv hK hP (ci := 4) rfl (q0 := 0) rfl, (fun U hU hW => ⟨rfl, xPre_of hZ hS hFc hPc hDc hK U hU hW⟩)⟩ rfl rfl hl.1 rfl (lv_room (Nat.le_of_ble_eq_true rfl)) dD_object_143 ⟨Nat.le_of_ble_eq_true rfl, Nat.le_of_ble_eq_true rfl⟩) hS (fun q _ h => hFc q h) hFc (fun r5 u9 t H1 locs ht hvm hr9 hB hz1 hk1 hS => ?_)
      obtain ⟨hP1, hK1, hD1⟩ := hB
      rw [ht] at hP1
      obtain ⟨hP, hD⟩ := xjoin (W := [(a0, .inr (4, [.ref a1, .ref a3, .int o3.2.1, .int o3.2.2])), (a1, .inr (1, [.ref a2, .int v1, .int v2])), (a2, .inl (cT 0, 4096, .inl f0)), (a3, .inr (2, [.ref a4, .int w1, .int w2])), (a4, .inl (cT 2, 4096, .inr (.inl o1)))]) hP hD [0, 1, 2, 3, 4] [] 0 rfl rfl (by decide) (by decide) hk1 hFc hP1 hD1
      generalize H1 = H at hP hS ⊢
      rw [hr9]
      refine W.eq (g2 := F0 m 146 ls [.int o3.1]) rfl ?_
      obtain ⟨hg6, hf⟩ := xifn hf
      obtain rfl := Option.some.inj hf
      obtain ⟨hP9, hD9⟩ := xsub (wc := [(a0, .inr (4, [.ref a1, .ref a3, .int o3.2.1, .int o3.2.2])), (a1, .inr (1, [.ref a2, .int v1, .int v2])), (a2, .inl (cT 0, 4096, .inl f0)), (a3, .inr (2, [.ref a4, .int w1, .int w2])), (a4, .inl (cT 2, 4096, .inr (.inl o1)))]) hP hD [0, 1, 2, 3, 4] rfl rfl (by decide)
      exact W.zret (v := o3.1) hx hb hr (xzb hg6) (fun t ht hW => ⟨⟨o3.1, (), rfl, rfl, by rw [ht]; exact hP9, va_K.moved hW.alike hK, hD9⟩, hS.F ht⟩) hS.2.2 dD_object_146
    · rw [if_neg hc] at hf
      refine lv_iload_n hx hb dD_object_52 rfl (lv_at hl 1 rfl) ?_
      refine lv_sipush (v := 4096) hx hb dD_object_53 (by decide) ?_
      refine lv_icmp_ge (tgt := 129) hx hb dD_object_56 (by decide) (fun hc => ?_) (fun hc => ?_)
      · rw [if_pos hc] at hf
        refine lv_aload_n hx hb dD_object_129 rfl (lv_at hl 3 rfl) ?_
        refine va_get (D := D) (ci := 4) (v := .ref a3) (C := "ValueBench$Reader") (T := TD) (N := 4) hx hb htx inD hown hK hP 0 rfl rfl 1 (by decide) (htx _ kw_2_30) (fun _ h9 => h9) rfl dD_object_130 ?_
        refine lv_iload_n hx hb dD_object_133 rfl (lv_at hl 2 rfl) ?_
        refine lv_bipush (v := 6) hx hb dD_object_134 (by decide) ?_
        refine lv_iload_n hx hb dD_object_136 rfl (lv_at hl 1 rfl) ?_
        obtain ⟨o1, hq2, hf⟩ := xbind hf
        obtain ⟨hPc, hDc, hFc⟩ := xcut (wc := [(a3, .inr (2, [.ref a4, .int w1, .int w2])), (a4, .inl (cT 2, 4096, .inr (.inl w0)))]) hP hD hS hA [3, 4] rfl rfl (by decide)
        refine va_callv (va_runV (C := "ValueBench$Row") (As := [.int y2, .int 6, .int y3]) (rest := []) ⟨hx, hb, hml, hown, htx⟩ (gR_close l hl9 D cT aK aV H.size n a3 a4 y2 (6 : Int32) y3 w0 w1 w2 o1 hq2) ⟨callB_of 3 htx (xw_goodC kw_2_167) rfl rfl rfl (htx _ kw_1_4) (htx _ kw_2_164) ⟨by decide, by decide, by decide +kernel⟩ ⟨Nat.le_of_ble_eq_true rfl, Nat.le_of_ble_eq_true rfl⟩, (htx _ kw_2_165), (htx _ kw_2_166)⟩ ⟨xPre_blind, va_recv hK hP (ci := 2) rfl (q0 := 3) rfl, (fun U hU hW => ⟨rfl, xPre_of hZ hS hFc hPc hDc hK U hU hW⟩)⟩ rfl rfl hl.1 rfl (lv_room (Nat.le_of_ble_eq_true rfl)) dD_object_137 ⟨Nat.le_of_ble_eq_true rfl, Nat.le_of_ble_eq_true rfl⟩) hS (fun q _ h => hFc q h) hFc (fun u9 t H1 locs ht hvm hr9 hB hz1 hk1 hS => ?_)
        obtain ⟨hP1, hK1, hD1⟩ := hB
        rw [ht] at hP1
        obtain ⟨hP, hD⟩ := xjoin (W := [(a0, .inr (4, [.ref a1, .ref a3, .int w3, .int w4])), (a1, .inr (1, [.ref a2, .int v1, .int v2])), (a2, .inl (cT 0, 4096, .inl f0)), (a3, .inr (2, [.ref a4, .int w1, .int w2])), (a4, .inl (cT 2, 4096, .inr (.inl o1)))]) hP hD [3, 4] [0, 1, 2] 3 rfl rfl (by decide) (by decide) hk1 hFc hP1 hD1
        generalize H1 = H at hP hS ⊢
        refine lv_aload_n hx hb dD_object_140 rfl (lv_at hl 3 rfl) ?_
        refine lv_bipush (v := 125) hx hb dD_object_141 (by decide) ?_
        obtain ⟨o3, hq4, hf⟩ := xbind hf
        obtain ⟨hPc, hDc, hFc⟩ := xcut (wc := [(a0, .inr (4, [.ref a1, .ref a3, .int w3, .int w4])), (a1, .inr (1, [.ref a2, .int v1, .int v2])), (a2, .inl (cT 0, 4096, .inl f0)), (a3, .inr (2, [.ref a4, .int w1, .int w2])), (a4, .inl (cT 2, 4096, .inr (.inl o1)))]) hP hD hS hA [0, 1, 2, 3, 4] rfl rfl (by decide)
        refine va_calli (va_runV (C := "ValueBench$Reader") (As := [.int 125]) (rest := []) ⟨hx, hb, hml, hown, htx⟩ (gD_take l hl9 D cT aK aV H.size n a0 a1 a2 a3 a4 (125 : Int32) f0 v1 v2 o1 w1 w2 w3 w4 o3 hq4) ⟨callB_of 1 htx (xw_goodC kw_2_118) rfl rfl rfl (htx _ kw_1_16) (htx _ kw_2_115) ⟨by decide, by decide, by decide +kernel⟩ ⟨Nat.le_of_ble_eq_true rfl, Nat.le_of_ble_eq_true rfl⟩, (htx _ kw_2_117), (htx _ kp_D_take)⟩ ⟨xPre_blind, va_recv hK hP (ci := 4) rfl (q0 := 0) rfl, (fun U hU hW => ⟨rfl, xPre_of hZ hS hFc hPc hDc hK U hU hW⟩)⟩ rfl rfl hl.1 rfl (lv_room (Nat.le_of_ble_eq_true rfl)) dD_object_143 ⟨Nat.le_of_ble_eq_true rfl, Nat.le_of_ble_eq_true rfl⟩) hS (fun q _ h => hFc q h) hFc (fun r5 u9 t H1 locs ht hvm hr9 hB hz1 hk1 hS => ?_)
        obtain ⟨hP1, hK1, hD1⟩ := hB
        rw [ht] at hP1
        obtain ⟨hP, hD⟩ := xjoin (W := [(a0, .inr (4, [.ref a1, .ref a3, .int o3.2.1, .int o3.2.2])), (a1, .inr (1, [.ref a2, .int v1, .int v2])), (a2, .inl (cT 0, 4096, .inl f0)), (a3, .inr (2, [.ref a4, .int w1, .int w2])), (a4, .inl (cT 2, 4096, .inr (.inl o1)))]) hP hD [0, 1, 2, 3, 4] [] 0 rfl rfl (by decide) (by decide) hk1 hFc hP1 hD1
        generalize H1 = H at hP hS ⊢
        rw [hr9]
        refine W.eq (g2 := F0 m 146 ls [.int o3.1]) rfl ?_
        obtain ⟨hg6, hf⟩ := xifn hf
        obtain rfl := Option.some.inj hf
        obtain ⟨hP9, hD9⟩ := xsub (wc := [(a0, .inr (4, [.ref a1, .ref a3, .int o3.2.1, .int o3.2.2])), (a1, .inr (1, [.ref a2, .int v1, .int v2])), (a2, .inl (cT 0, 4096, .inl f0)), (a3, .inr (2, [.ref a4, .int w1, .int w2])), (a4, .inl (cT 2, 4096, .inr (.inl o1)))]) hP hD [0, 1, 2, 3, 4] rfl rfl (by decide)
        exact W.zret (v := o3.1) hx hb hr (xzb hg6) (fun t ht hW => ⟨⟨o3.1, (), rfl, rfl, by rw [ht]; exact hP9, va_K.moved hW.alike hK, hD9⟩, hS.F ht⟩) hS.2.2 dD_object_146
      · rw [if_neg hc] at hf
        refine lv_aload_n hx hb dD_object_59 rfl (lv_at hl 3 rfl) ?_
        obtain ⟨o1, hq2, hf⟩ := xbind hf
        obtain ⟨hPc, hDc, hFc⟩ := xcut (wc := [(a0, .inr (4, [.ref a1, .ref a3, .int w3, .int w4])), (a1, .inr (1, [.ref a2, .int v1, .int v2])), (a2, .inl (cT 0, 4096, .inl f0)), (a3, .inr (2, [.ref a4, .int w1, .int w2])), (a4, .inl (cT 2, 4096, .inr (.inl w0)))]) hP hD hS hA [0, 1, 2, 3, 4] rfl rfl (by decide)
        refine va_callv (va_runV (C := "ValueBench$Reader") (As := []) (rest := []) ⟨hx, hb, hml, hown, htx⟩ (gD_skipBlanks l hl9 D cT aK aV H.size n a0 a1 a2 a3 a4 f0 v1 v2 w0 w1 w2 w3 w4 o1 hq2) ⟨callB_of 0 htx (xw_goodC kw_2_53) rfl rfl rfl (htx _ kw_1_16) (htx _ kw_2_50) ⟨by decide, by decide, by decide +kernel⟩ ⟨Nat.le_of_ble_eq_true rfl, Nat.le_of_ble_eq_true rfl⟩, (htx _ kw_2_52), (htx _ kp_D_skipBlanks)⟩ ⟨xPre_blind, va_recv hK hP (ci := 4) rfl (q0 := 0) rfl, (fun U hU hW => ⟨rfl, xPre_of hZ hS hFc hPc hDc hK U hU hW⟩)⟩ rfl rfl hl.1 rfl (lv_room (Nat.le_of_ble_eq_true rfl)) dD_object_60 ⟨Nat.le_of_ble_eq_true rfl, Nat.le_of_ble_eq_true rfl⟩) hS (fun q _ h => hFc q h) hFc (fun u9 t H1 locs ht hvm hr9 hB hz1 hk1 hS => ?_)
        obtain ⟨hP1, hK1, hD1⟩ := hB
        rw [ht] at hP1
        obtain ⟨hP, hD⟩ := xjoin (W := [(a0, .inr (4, [.ref a1, .ref a3, .int o1, .int w4])), (a1, .inr (1, [.ref a2, .int v1, .int v2])), (a2, .inl (cT 0, 4096, .inl f0)), (a3, .inr (2, [.ref a4, .int w1, .int w2])), (a4, .inl (cT 2, 4096, .inr (.inl w0)))]) hP hD [0, 1, 2, 3, 4] [] 0 rfl rfl (by decide) (by decide) hk1 hFc hP1 hD1
        generalize H1 = H at hP hS ⊢
        refine lv_aload_n hx hb dD_object_63 rfl (lv_at hl 3 rfl) ?_
        refine va_get (D := D) (ci := 4) (v := .int o1) (C := "ValueBench$Reader") (T := TD) (N := 4) hx hb htx inD hown hK hP 0 rfl rfl 2 (by decide) (htx _ kw_2_31) (fun _ h9 => h9) rfl dD_object_64 ?_
        refine lv_istore (lv' := [(5, .int o1), (4, .int y4), (3, .int y3), (2, .int y2), (0, .ref a0), (1, .int y1)]) hx hb dD_object_67 hl (by decide) rfl (fun ls hl => ?_)
        refine lv_aload_n hx hb dD_object_69 rfl (lv_at hl 4 rfl) ?_
        refine va_get (D := D) (ci := 4) (v := .ref a3) (C := "ValueBench$Reader") (T := TD) (N := 4) hx hb htx inD hown hK hP 0 rfl rfl 1 (by decide) (htx _ kw_2_30) (fun _ h9 => h9) rfl dD_object_70 ?_
        obtain ⟨o3, hq4, hf⟩ := xbind hf
        obtain ⟨hPc, hDc, hFc⟩ := xcut (wc := [(a3, .inr (2, [.ref a4, .int w1, .int w2])), (a4, .inl (cT 2, 4096, .inr (.inl w0)))]) hP hD hS hA [3, 4] rfl rfl (by decide)
        refine va_calli (va_runV (C := "ValueBench$Row") (As := []) (rest := []) ⟨hx, hb, hml, hown, htx⟩ (gR_size l hl9 D cT aK aV H.size n a3 a4 w0 w1 w2 o3 hq4) ⟨callB_of 0 htx (xw_goodC kw_2_163) rfl rfl rfl (htx _ kw_1_4) (htx _ kw_2_160) ⟨by decide, by decide, by decide +kernel⟩ ⟨Nat.le_of_ble_eq_true rfl, Nat.le_of_ble_eq_true rfl⟩, (htx _ kw_2_161), (htx _ kw_2_162)⟩ ⟨xPre_blind, va_recv hK hP (ci := 2) rfl (q0 := 3) rfl, (fun U hU hW => ⟨rfl, xPre_of hZ hS hFc hPc hDc hK U hU hW⟩)⟩ rfl rfl hl.1 rfl (lv_room (Nat.le_of_ble_eq_true rfl)) dD_object_73 ⟨Nat.le_of_ble_eq_true rfl, Nat.le_of_ble_eq_true rfl⟩) hS (fun q _ h => hFc q h) hFc (fun r5 u9 t H1 locs ht hvm hr9 hB hz1 hk1 hS => ?_)
        obtain ⟨hP1, hK1, hD1⟩ := hB
        rw [ht] at hP1
        obtain ⟨hP, hD⟩ := xjoin (W := [(a0, .inr (4, [.ref a1, .ref a3, .int o1, .int w4])), (a1, .inr (1, [.ref a2, .int v1, .int v2])), (a2, .inl (cT 0, 4096, .inl f0)), (a3, .inr (2, [.ref a4, .int w1, .int w2])), (a4, .inl (cT 2, 4096, .inr (.inl w0)))]) hP hD [3, 4] [0, 1, 2] 3 rfl rfl (by decide) (by decide) hk1 hFc hP1 hD1
        generalize H1 = H at hP hS ⊢
        rw [hr9]
        refine W.eq (g2 := F0 m 76 ls [.int o3]) rfl ?_
        refine lv_istore (lv' := [(6, .int o3), (5, .int o1), (4, .int y4), (3, .int y3), (2, .int y2), (0, .ref a0), (1, .int y1)]) hx hb dD_object_76 hl (by decide) rfl (fun ls hl => ?_)
        refine lv_aload_n hx hb dD_object_78 rfl (lv_at hl 5 rfl) ?_
        obtain ⟨o6, hq7, hf⟩ := xbind hf
        obtain ⟨hPc, hDc, hFc⟩ := xcut (wc := [(a0, .inr (4, [.ref a1, .ref a3, .int o1, .int w4])), (a1, .inr (1, [.ref a2, .int v1, .int v2])), (a2, .inl (cT 0, 4096, .inl f0)), (a3, .inr (2, [.ref a4, .int w1, .int w2])), (a4, .inl (cT 2, 4096, .inr (.inl w0)))]) hP hD hS hA [0, 1, 2, 3, 4] rfl rfl (by decide)
        refine va_calli (va_runV (C := "ValueBench$Reader") (As := []) (rest := []) ⟨hx, hb, hml, hown, htx⟩ (gD_string l hl9 D cT aK aV H.size n a0 a1 a2 a3 a4 f0 v1 v2 w0 w1 w2 o1 w4 o6 hq7) ⟨callB_of 0 htx (xw_goodC kw_2_132) rfl rfl rfl (htx _ kw_1_16) (htx _ kw_2_129) ⟨by decide, by decide, by decide +kernel⟩ ⟨Nat.le_of_ble_eq_true rfl, Nat.le_of_ble_eq_true rfl⟩, (htx _ kw_2_131), (htx _ kp_D_string)⟩ ⟨xPre_blind, va_recv hK hP (ci := 4) rfl (q0 := 0) rfl, (fun U hU hW => ⟨rfl, xPre_of hZ hS hFc hPc hDc hK U hU hW⟩)⟩ rfl rfl hl.1 rfl (lv_room (Nat.le_of_ble_eq_true rfl)) dD_object_79 ⟨Nat.le_of_ble_eq_true rfl, Nat.le_of_ble_eq_true rfl⟩) hS (fun q _ h => hFc q h) hFc (fun r8 u9 t H1 locs ht hvm hr9 hB hz1 hk1 hS => ?_)
        obtain ⟨hP1, hK1, hD1⟩ := hB
        rw [ht] at hP1
        obtain ⟨hP, hD⟩ := xjoin (W := [(a0, .inr (4, [.ref a1, .ref a3, .int o6.2.2.2.2.1, .int o6.2.2.2.2.2])), (a1, .inr (1, [.ref a2, .int v1, .int v2])), (a2, .inl (cT 0, 4096, .inl f0)), (a3, .inr (2, [.ref a4, .int o6.2.2.1, .int o6.2.2.2.1])), (a4, .inl (cT 2, 4096, .inr (.inl o6.2.1)))]) hP hD [0, 1, 2, 3, 4] [] 0 rfl rfl (by decide) (by decide) hk1 hFc hP1 hD1
        generalize H1 = H at hP hS ⊢
        rw [hr9]
        refine W.eq (g2 := F0 m 82 ls [.int o6.1]) rfl ?_
        refine lv_if_eq (tgt := 115) hx hb dD_object_82 (by decide) (fun hc => ?_) (fun hc => ?_)
        · rw [if_pos hc] at hf
          refine lv_iconst (v := 0) hx hb dD_object_115 (by decide) ?_
          obtain rfl := Option.some.inj hf
          obtain ⟨hP9, hD9⟩ := xsub (wc := [(a0, .inr (4, [.ref a1, .ref a3, .int o6.2.2.2.2.1, .int o6.2.2.2.2.2])), (a1, .inr (1, [.ref a2, .int v1, .int v2])), (a2, .inl (cT 0, 4096, .inl f0)), (a3, .inr (2, [.ref a4, .int o6.2.2.1, .int o6.2.2.2.1])), (a4, .inl (cT 2, 4096, .inr (.inl o6.2.1)))]) hP hD [0, 1, 2, 3, 4] rfl rfl (by decide)
          exact W.zret (v := (0 : Int32)) hx hb hr rfl (fun t ht hW => ⟨⟨(0 : Int32), (), rfl, rfl, by rw [ht]; exact hP9, va_K.moved hW.alike hK, hD9⟩, hS.F ht⟩) hS.2.2 dD_object_116
        · rw [if_neg hc] at hf
          refine lv_aload_n hx hb dD_object_85 rfl (lv_at hl 5 rfl) ?_
          refine lv_iload hx hb dD_object_86 (lv_at hl 0 rfl) ?_
          refine lv_iload hx hb dD_object_88 (lv_at hl 1 rfl) ?_
          refine lv_iload_n hx hb dD_object_90 rfl (lv_at hl 4 rfl) ?_
          refine lv_iload_n hx hb dD_object_91 rfl (lv_at hl 3 rfl) ?_
          obtain ⟨o9, hq10, hf⟩ := xbind hf
          obtain ⟨hPc, hDc, hFc⟩ := xcut (wc := [(a0, .inr (4, [.ref a1, .ref a3, .int o6.2.2.2.2.1, .int o6.2.2.2.2.2])), (a1, .inr (1, [.ref a2, .int v1, .int v2])), (a2, .inl (cT 0, 4096, .inl f0)), (a3, .inr (2, [.ref a4, .int o6.2.2.1, .int o6.2.2.2.1])), (a4, .inl (cT 2, 4096, .inr (.inl o6.2.1)))]) hP hD hS hA [0, 1, 2, 3, 4] rfl rfl (by decide)
          refine va_calli (va_runV (C := "ValueBench$Reader") (As := [.int o3, .int o1, .int y2, .int y3]) (rest := []) ⟨hx, hb, hml, hown, htx⟩ (gD_isNew l hl9 D cT aK aV H.size n a0 a1 a2 a3 a4 o3 o1 y2 y3 f0 v1 v2 o6.2.1 o6.2.2.1 o6.2.2.2.1 o6.2.2.2.2.1 o6.2.2.2.2.2 o9 hq10) ⟨callB_of 4 htx (xw_goodC kw_2_183) rfl rfl rfl (htx _ kw_1_16) (htx _ kw_2_180) ⟨by decide, by decide, by decide +kernel⟩ ⟨Nat.le_of_ble_eq_true rfl, Nat.le_of_ble_eq_true rfl⟩, (htx _ kw_2_182), (htx _ kp_D_isNew)⟩ ⟨xPre_blind, va_recv hK hP (ci := 4) rfl (q0 := 0) rfl, (fun U hU hW => ⟨rfl, xPre_of hZ hS hFc hPc hDc hK U hU hW⟩)⟩ rfl rfl hl.1 rfl (lv_room (Nat.le_of_ble_eq_true rfl)) dD_object_92 ⟨Nat.le_of_ble_eq_true rfl, Nat.le_of_ble_eq_true rfl⟩) hS (fun q _ h => hFc q h) hFc (fun r11 u9 t H1 locs ht hvm hr9 hB hz1 hk1 hS => ?_)
          obtain ⟨hP1, hK1, hD1⟩ := hB
          rw [ht] at hP1
          obtain ⟨hP, hD⟩ := xjoin (W := [(a0, .inr (4, [.ref a1, .ref a3, .int o6.2.2.2.2.1, .int o9.2.2])), (a1, .inr (1, [.ref a2, .int v1, .int v2])), (a2, .inl (cT 0, 4096, .inl f0)), (a3, .inr (2, [.ref a4, .int o6.2.2.1, .int o6.2.2.2.1])), (a4, .inl (cT 2, 4096, .inr (.inl o9.2.1)))]) hP hD [0, 1, 2, 3, 4] [] 0 rfl rfl (by decide) (by decide) hk1 hFc hP1 hD1
          generalize H1 = H at hP hS ⊢
          rw [hr9]
          refine W.eq (g2 := F0 m 95 ls [.int o9.1]) rfl ?_
          refine lv_if_eq (tgt := 115) hx hb dD_object_95 (by decide) (fun hc => ?_) (fun hc => ?_)
          · rw [if_pos hc] at hf
            refine lv_iconst (v := 0) hx hb dD_object_115 (by decide) ?_
            obtain rfl := Option.some.inj hf
            obtain ⟨hP9, hD9⟩ := xsub (wc := [(a0, .inr (4, [.ref a1, .ref a3, .int o6.2.2.2.2.1, .int o9.2.2])), (a1, .inr (1, [.ref a2, .int v1, .int v2])), (a2, .inl (cT 0, 4096, .inl f0)), (a3, .inr (2, [.ref a4, .int o6.2.2.1, .int o6.2.2.2.1])), (a4, .inl (cT 2, 4096, .inr (.inl o9.2.1)))]) hP hD [0, 1, 2, 3, 4] rfl rfl (by decide)
            exact W.zret (v := (0 : Int32)) hx hb hr rfl (fun t ht hW => ⟨⟨(0 : Int32), (), rfl, rfl, by rw [ht]; exact hP9, va_K.moved hW.alike hK, hD9⟩, hS.F ht⟩) hS.2.2 dD_object_116
          · rw [if_neg hc] at hf
            refine lv_aload_n hx hb dD_object_98 rfl (lv_at hl 5 rfl) ?_
            obtain ⟨o12, hq13, hf⟩ := xbind hf
            obtain ⟨hPc, hDc, hFc⟩ := xcut (wc := [(a0, .inr (4, [.ref a1, .ref a3, .int o6.2.2.2.2.1, .int o9.2.2])), (a1, .inr (1, [.ref a2, .int v1, .int v2])), (a2, .inl (cT 0, 4096, .inl f0)), (a3, .inr (2, [.ref a4, .int o6.2.2.1, .int o6.2.2.2.1])), (a4, .inl (cT 2, 4096, .inr (.inl o9.2.1)))]) hP hD hS hA [0, 1, 2, 3, 4] rfl rfl (by decide)
            refine va_calli (va_runV (C := "ValueBench$Reader") (As := []) (rest := []) ⟨hx, hb, hml, hown, htx⟩ (gD_colon l hl9 D cT aK aV H.size n a0 a1 a2 a3 a4 f0 v1 v2 o9.2.1 o6.2.2.1 o6.2.2.2.1 o6.2.2.2.2.1 o9.2.2 o12 hq13) ⟨callB_of 0 htx (xw_goodC kw_2_210) rfl rfl rfl (htx _ kw_1_16) (htx _ kw_2_207) ⟨by decide, by decide, by decide +kernel⟩ ⟨Nat.le_of_ble_eq_true rfl, Nat.le_of_ble_eq_true rfl⟩, (htx _ kw_2_209), (htx _ kp_D_colon)⟩ ⟨xPre_blind, va_recv hK hP (ci := 4) rfl (q0 := 0) rfl, (fun U hU hW => ⟨rfl, xPre_of hZ hS hFc hPc hDc hK U hU hW⟩)⟩ rfl rfl hl.1 rfl (lv_room (Nat.le_of_ble_eq_true rfl)) dD_object_99 ⟨Nat.le_of_ble_eq_true rfl, Nat.le_of_ble_eq_true rfl⟩) hS (fun q _ h => hFc q h) hFc (fun r14 u9 t H1 locs ht hvm hr9 hB hz1 hk1 hS => ?_)
            obtain ⟨hP1, hK1, hD1⟩ := hB
            rw [ht] at hP1
            obtain ⟨hP, hD⟩ := xjoin (W := [(a0, .inr (4, [.ref a1, .ref a3, .int o12.2.1, .int o12.2.2])), (a1, .inr (1, [.ref a2, .int v1, .int v2])), (a2, .inl (cT 0, 4096, .inl f0)), (a3, .inr (2, [.ref a4, .int o6.2.2.1, .int o6.2.2.2.1])), (a4, .inl (cT 2, 4096, .inr (.inl o9.2.1)))]) hP hD [0, 1, 2, 3, 4] [] 0 rfl rfl (by decide) (by decide) hk1 hFc hP1 hD1
            generalize H1 = H at hP hS ⊢
            rw [hr9]
            refine W.eq (g2 := F0 m 102 ls [.int o12.1]) rfl ?_
            refine lv_if_eq (tgt := 115) hx hb dD_object_102 (by decide) (fun hc => ?_) (fun hc => ?_)
            · rw [if_pos hc] at hf
              refine lv_iconst (v := 0) hx hb dD_object_115 (by decide) ?_
              obtain rfl := Option.some.inj hf
              obtain ⟨hP9, hD9⟩ := xsub (wc := [(a0, .inr (4, [.ref a1, .ref a3, .int o12.2.1, .int o12.2.2])), (a1, .inr (1, [.ref a2, .int v1, .int v2])), (a2, .inl (cT 0, 4096, .inl f0)), (a3, .inr (2, [.ref a4, .int o6.2.2.1, .int o6.2.2.2.1])), (a4, .inl (cT 2, 4096, .inr (.inl o9.2.1)))]) hP hD [0, 1, 2, 3, 4] rfl rfl (by decide)
              exact W.zret (v := (0 : Int32)) hx hb hr rfl (fun t ht hW => ⟨⟨(0 : Int32), (), rfl, rfl, by rw [ht]; exact hP9, va_K.moved hW.alike hK, hD9⟩, hS.F ht⟩) hS.2.2 dD_object_116
            · rw [if_neg hc] at hf
              refine lv_aload_n hx hb dD_object_105 rfl (lv_at hl 5 rfl) ?_
              refine lv_iload_n hx hb dD_object_106 rfl (lv_at hl 6 rfl) ?_
              refine lv_iconst (v := 1) hx hb dD_object_107 (by decide) ?_
              refine lv_iadd hx hb dD_object_108 ?_
              obtain ⟨o15, hq16, hf⟩ := xbind hf
              obtain ⟨hPc, hDc, hFc⟩ := xcut (wc := [(a0, .inr (4, [.ref a1, .ref a3, .int o12.2.1, .int o12.2.2])), (a1, .inr (1, [.ref a2, .int v1, .int v2])), (a2, .inl (cT 0, 4096, .inl f0)), (a3, .inr (2, [.ref a4, .int o6.2.2.1, .int o6.2.2.2.1])), (a4, .inl (cT 2, 4096, .inr (.inl o9.2.1)))]) hP hD hS hA [0, 1, 2, 3, 4] rfl rfl (by decide)
              refine va_calli (va_runV (C := "ValueBench$Reader") (As := [.int (y1 + (1 : Int32))]) (rest := []) ⟨hx, hb, hml, hown, htx⟩ (hrec H.size a0 a1 a2 a3 a4 (y1 + (1 : Int32)) f0 v1 v2 o9.2.1 o6.2.2.1 o6.2.2.2.1 o12.2.1 o12.2.2 o15 hq16) ⟨callB_of 1 htx (xw_goodC kw_2_49) rfl rfl rfl (htx _ kw_1_16) (htx _ kw_2_46) ⟨by decide, by decide, by decide +kernel⟩ ⟨(by show (fr) + 1 ≤ fr + 3; omega), (by show 8 + (2 + 11) + (lo) ≤ lo + 79; omega)⟩, (htx _ kw_2_48), (htx _ kp_D_value)⟩ ⟨xPre_blind, va_recv hK hP (ci := 4) rfl (q0 := 0) rfl, (fun U hU hW => ⟨rfl, xPre_of hZ hS hFc hPc hDc hK U hU hW⟩)⟩ rfl rfl hl.1 rfl (lv_room (Nat.le_of_ble_eq_true rfl)) dD_object_109 ⟨Nat.le_of_ble_eq_true rfl, Nat.le_of_ble_eq_true rfl⟩) hS (fun q _ h => hFc q h) hFc (fun r17 u9 t H1 locs ht hvm hr9 hB hz1 hk1 hS => ?_)
              obtain ⟨hP1, hK1, hD1⟩ := hB
              rw [ht] at hP1
              obtain ⟨hP, hD⟩ := xjoin (W := [(a0, .inr (4, [.ref a1, .ref a3, .int o15.2.2.2.2.1, .int o15.2.2.2.2.2])), (a1, .inr (1, [.ref a2, .int v1, .int v2])), (a2, .inl (cT 0, 4096, .inl f0)), (a3, .inr (2, [.ref a4, .int o15.2.2.1, .int o15.2.2.2.1])), (a4, .inl (cT 2, 4096, .inr (.inl o15.2.1)))]) hP hD [0, 1, 2, 3, 4] [] 0 rfl rfl (by decide) (by decide) hk1 hFc hP1 hD1
              generalize H1 = H at hP hS ⊢
              rw [hr9]
              refine W.eq (g2 := F0 m 112 ls [.int o15.1]) rfl ?_
              refine lv_if_ne (tgt := 117) hx hb dD_object_112 (by decide) (fun hc => ?_) (fun hc => ?_)
              · rw [if_neg hc] at hf
                refine lv_iinc (v := (y3 + 1)) (lv' := [(3, .int (y3 + 1)), (6, .int o3), (5, .int o1), (4, .int y4), (2, .int y2), (0, .ref a0), (1, .int y1)]) hx hb dD_object_117 hl (k := 3) rfl rfl (by decide) rfl (fun ls hl => ?_)
                refine lv_aload_n hx hb dD_object_120 rfl (lv_at hl 5 rfl) ?_
                obtain ⟨o18, hq19, hf⟩ := xbind hf
                obtain ⟨hPc, hDc, hFc⟩ := xcut (wc := [(a0, .inr (4, [.ref a1, .ref a3, .int o15.2.2.2.2.1, .int o15.2.2.2.2.2])), (a1, .inr (1, [.ref a2, .int v1, .int v2])), (a2, .inl (cT 0, 4096, .inl f0)), (a3, .inr (2, [.ref a4, .int o15.2.2.1, .int o15.2.2.2.1])), (a4, .inl (cT 2, 4096, .inr (.inl o15.2.1)))]) hP hD hS hA [0, 1, 2, 3, 4] rfl rfl (by decide)
                refine va_calli (va_runV (C := "ValueBench$Reader") (As := []) (rest := []) ⟨hx, hb, hml, hown, htx⟩ (gD_comma l hl9 D cT aK aV H.size n a0 a1 a2 a3 a4 f0 v1 v2 o15.2.1 o15.2.2.1 o15.2.2.2.1 o15.2.2.2.2.1 o15.2.2.2.2.2 o18 hq19) ⟨callB_of 0 htx (xw_goodC kw_2_175) rfl rfl rfl (htx _ kw_1_16) (htx _ kw_2_172) ⟨by decide, by decide, by decide +kernel⟩ ⟨Nat.le_of_ble_eq_true rfl, Nat.le_of_ble_eq_true rfl⟩, (htx _ kw_2_174), (htx _ kp_D_comma)⟩ ⟨xPre_blind, va_recv hK hP (ci := 4) rfl (q0 := 0) rfl, (fun U hU hW => ⟨rfl, xPre_of hZ hS hFc hPc hDc hK U hU hW⟩)⟩ rfl rfl hl.1 rfl (lv_room (Nat.le_of_ble_eq_true rfl)) dD_object_121 ⟨Nat.le_of_ble_eq_true rfl, Nat.le_of_ble_eq_true rfl⟩) hS (fun q _ h => hFc q h) hFc (fun r20 u9 t H1 locs ht hvm hr9 hB hz1 hk1 hS => ?_)
                obtain ⟨hP1, hK1, hD1⟩ := hB
                rw [ht] at hP1
                obtain ⟨hP, hD⟩ := xjoin (W := [(a0, .inr (4, [.ref a1, .ref a3, .int o18.2, .int o15.2.2.2.2.2])), (a1, .inr (1, [.ref a2, .int v1, .int v2])), (a2, .inl (cT 0, 4096, .inl f0)), (a3, .inr (2, [.ref a4, .int o15.2.2.1, .int o15.2.2.2.1])), (a4, .inl (cT 2, 4096, .inr (.inl o15.2.1)))]) hP hD [0, 1, 2, 3, 4] [] 0 rfl rfl (by decide) (by decide) hk1 hFc hP1 hD1
                generalize H1 = H at hP hS ⊢
                rw [hr9]
                refine W.eq (g2 := F0 m 124 ls [.int o18.1]) rfl ?_
                refine lv_istore (lv' := [(4, .int o18.1), (3, .int (y3 + 1)), (6, .int o3), (5, .int o1), (2, .int y2), (0, .ref a0), (1, .int y1)]) hx hb dD_object_124 hl (by decide) rfl (fun ls hl => ?_)
                refine lv_goto (tgt := 47) hx hb dD_object_126 (by decide) ?_
                obtain ⟨hP9, hD9⟩ := xsub (wc := [(a0, .inr (4, [.ref a1, .ref a3, .int o18.2, .int o15.2.2.2.2.2])), (a1, .inr (1, [.ref a2, .int v1, .int v2])), (a2, .inl (cT 0, 4096, .inl f0)), (a3, .inr (2, [.ref a4, .int o15.2.2.1, .int o15.2.2.2.1])), (a4, .inl (cT 2, 4096, .inr (.inl o15.2.1)))]) hP hD [0, 1, 2, 3, 4] rfl rfl (by decide)
                exact ih (1, o18.1, (y3 + 1), y2, y1, o15.2.1, o15.2.2.1, o15.2.2.2.1, o18.2, o15.2.2.2.2.2) _ _ ls (⟨rfl, hf, hP9, hD9, hS, lv_sub hl [0, 1, 4, 5, 6] rfl⟩)
              · rw [if_pos hc] at hf
                refine lv_iconst (v := 0) hx hb dD_object_115 (by decide) ?_
                obtain rfl := Option.some.inj hf
                obtain ⟨hP9, hD9⟩ := xsub (wc := [(a0, .inr (4, [.ref a1, .ref a3, .int o15.2.2.2.2.1, .int o15.2.2.2.2.2])), (a1, .inr (1, [.ref a2, .int v1, .int v2])), (a2, .inl (cT 0, 4096, .inl f0)), (a3, .inr (2, [.ref a4, .int o15.2.2.1, .int o15.2.2.2.1])), (a4, .inl (cT 2, 4096, .inr (.inl o15.2.1)))]) hP hD [0, 1, 2, 3, 4] rfl rfl (by decide)
                exact W.zret (v := (0 : Int32)) hx hb hr rfl (fun t ht hW => ⟨⟨(0 : Int32), (), rfl, rfl, by rw [ht]; exact hP9, va_K.moved hW.alike hK, hD9⟩, hS.F ht⟩) hS.2.2 dD_object_116
  refine lv_aload_n hx hb dD_object_0 rfl (lv_at hl 0 rfl) ?_
  refine va_get (D := D) (ci := 4) (v := .ref a3) (C := "ValueBench$Reader") (T := TD) (N := 4) hx hb htx inD hown hK hP 0 rfl rfl 1 (by decide) (htx _ kw_2_30) (fun _ h9 => h9) rfl dD_object_1 ?_
  obtain ⟨o1, hq2, hf⟩ := xbind hf
  obtain ⟨hPc, hDc, hFc⟩ := xcut (wc := [(a3, .inr (2, [.ref a4, .int v4, .int v5])), (a4, .inl (cT 2, 4096, .inr (.inl f3)))]) hP hD hS hA [3, 4] rfl rfl (by decide)
  refine va_calli (va_runV (C := "ValueBench$Row") (As := []) (rest := []) ⟨hx, hb, hml, hown, htx⟩ (gR_open l hl9 D cT aK aV s.heap.size n a3 a4 f3 v4 v5 o1 hq2) ⟨callB_of 0 htx (xw_goodC kw_2_136) rfl rfl rfl (htx _ kw_1_4) (htx _ kw_2_133) ⟨by decide, by decide, by decide +kernel⟩ ⟨Nat.le_of_ble_eq_true rfl, Nat.le_of_ble_eq_true rfl⟩, (htx _ kw_2_134), (htx _ kw_2_135)⟩ ⟨xPre_blind, va_recv hK hP (ci := 2) rfl (q0 := 3) rfl, (fun U hU hW => ⟨rfl, xPre_of hZ hS hFc hPc hDc hK U hU hW⟩)⟩ rfl rfl hl.1 rfl (lv_room (Nat.le_of_ble_eq_true rfl)) dD_object_4 ⟨Nat.le_of_ble_eq_true rfl, Nat.le_of_ble_eq_true rfl⟩) hS (fun q _ h => hFc q h) hFc (fun r3 u9 t H1 locs ht hvm hr9 hB hz1 hk1 hS => ?_)
  obtain ⟨hP1, hK1, hD1⟩ := hB
  rw [ht] at hP1
  obtain ⟨hP, hD⟩ := xjoin (W := [(a0, .inr (4, [.ref a1, .ref a3, .int v6, .int v7])), (a1, .inr (1, [.ref a2, .int v1, .int v2])), (a2, .inl (cT 0, 4096, .inl f0)), (a3, .inr (2, [.ref a4, .int o1.2.2.1, .int o1.2.2.2])), (a4, .inl (cT 2, 4096, .inr (.inl o1.2.1)))]) hP hD [3, 4] [0, 1, 2] 3 rfl rfl (by decide) (by decide) hk1 hFc hP1 hD1
  generalize H1 = H at hP hS ⊢
  rw [hr9]
  refine W.eq (g2 := F0 m 7 ls [.int o1.1]) rfl ?_
  refine lv_istore_n (lv' := [(2, .int o1.1), (0, .ref a0), (1, .int x1)]) hx hb dD_object_7 rfl hl (by decide) rfl (fun ls hl => ?_)
  refine lv_iconst (v := 0) hx hb dD_object_8 (by decide) ?_
  refine lv_istore_n (lv' := [(3, .int 0), (2, .int o1.1), (0, .ref a0), (1, .int x1)]) hx hb dD_object_9 rfl hl (by decide) rfl (fun ls hl => ?_)
  refine lv_aload_n hx hb dD_object_10 rfl (lv_at hl 2 rfl) ?_
  refine lv_dup hx hb dD_object_11 rfl ?_
  refine va_get (D := D) (ci := 4) (v := .int v6) (C := "ValueBench$Reader") (T := TD) (N := 4) hx hb htx inD hown hK hP 0 rfl rfl 2 (by decide) (htx _ kw_2_31) (fun _ h9 => h9) rfl dD_object_12 ?_
  refine lv_iconst (v := 1) hx hb dD_object_15 (by decide) ?_
  refine lv_iadd hx hb dD_object_16 ?_
  refine va_put (D := D) (ci := 4) (v := .int (v6 + (1 : Int32))) (ty := .int) (C := "ValueBench$Reader") (T := TD) (N := 4) hx hb htx inD tyD tyD_ok nmD hown hK hP hD hS 0 rfl rfl 2 (by decide) (htx _ kw_2_31) (fun _ h9 => h9) rfl (by decide +kernel) rfl rfl (Nat.le_of_ble_eq_true rfl) dD_object_17 (fun H locs hP hD hS => ?_)
  obtain ⟨hP, hD⟩ : xPD D xcl A [(a0, .inr (4, [.ref a1, .ref a3, .int (v6 + (1 : Int32)), .int v7])), (a1, .inr (1, [.ref a2, .int v1, .int v2])), (a2, .inl (cT 0, 4096, .inl f0)), (a3, .inr (2, [.ref a4, .int o1.2.2.1, .int o1.2.2.2])), (a4, .inl (cT 2, 4096, .inr (.inl o1.2.1)))] H := ⟨hP, hD⟩
  refine lv_aload_n hx hb dD_object_20 rfl (lv_at hl 2 rfl) ?_
  obtain ⟨o4, hq5, hf⟩ := xbind hf
  obtain ⟨hPc, hDc, hFc⟩ := xcut (wc := [(a0, .inr (4, [.ref a1, .ref a3, .int (v6 + (1 : Int32)), .int v7])), (a1, .inr (1, [.ref a2, .int v1, .int v2])), (a2, .inl (cT 0, 4096, .inl f0)), (a3, .inr (2, [.ref a4, .int o1.2.2.1, .int o1.2.2.2])), (a4, .inl (cT 2, 4096, .inr (.inl o1.2.1)))]) hP hD hS hA [0, 1, 2, 3, 4] rfl rfl (by decide)
  refine va_callv (va_runV (C := "ValueBench$Reader") (As := []) (rest := []) ⟨hx, hb, hml, hown, htx⟩ (gD_skipBlanks l hl9 D cT aK aV H.size n a0 a1 a2 a3 a4 f0 v1 v2 o1.2.1 o1.2.2.1 o1.2.2.2 (v6 + (1 : Int32)) v7 o4 hq5) ⟨callB_of 0 htx (xw_goodC kw_2_53) rfl rfl rfl (htx _ kw_1_16) (htx _ kw_2_50) ⟨by decide, by decide, by decide +kernel⟩ ⟨Nat.le_of_ble_eq_true rfl, Nat.le_of_ble_eq_true rfl⟩, (htx _ kw_2_52), (htx _ kp_D_skipBlanks)⟩ ⟨xPre_blind, va_recv hK hP (ci := 4) rfl (q0 := 0) rfl, (fun U hU hW => ⟨rfl, xPre_of hZ hS hFc hPc hDc hK U hU hW⟩)⟩ rfl rfl hl.1 rfl (lv_room (Nat.le_of_ble_eq_true rfl)) dD_object_21 ⟨Nat.le_of_ble_eq_true rfl, Nat.le_of_ble_eq_true rfl⟩) hS (fun q _ h => hFc q h) hFc (fun u9 t H1 locs ht hvm hr9 hB hz1 hk1 hS => ?_)
  obtain ⟨hP1, hK1, hD1⟩ := hB
  rw [ht] at hP1
  obtain ⟨hP, hD⟩ := xjoin (W := [(a0, .inr (4, [.ref a1, .ref a3, .int o4, .int v7])), (a1, .inr (1, [.ref a2, .int v1, .int v2])), (a2, .inl (cT 0, 4096, .inl f0)), (a3, .inr (2, [.ref a4, .int o1.2.2.1, .int o1.2.2.2])), (a4, .inl (cT 2, 4096, .inr (.inl o1.2.1)))]) hP hD [0, 1, 2, 3, 4] [] 0 rfl rfl (by decide) (by decide) hk1 hFc hP1 hD1
  generalize H1 = H at hP hS ⊢
  refine lv_aload_n hx hb dD_object_24 rfl (lv_at hl 2 rfl) ?_
  refine va_get (D := D) (ci := 4) (v := .ref a1) (C := "ValueBench$Reader") (T := TD) (N := 4) hx hb htx inD hown hK hP 0 rfl rfl 0 (by decide) (htx _ kw_2_29) (fun _ h9 => h9) rfl dD_object_25 ?_
  refine lv_aload_n hx hb dD_object_28 rfl (lv_at hl 2 rfl) ?_
  refine va_get (D := D) (ci := 4) (v := .int o4) (C := "ValueBench$Reader") (T := TD) (N := 4) hx hb htx inD hown hK hP 0 rfl rfl 2 (by decide) (htx _ kw_2_31) (fun _ h9 => h9) rfl dD_object_29 ?_
  obtain ⟨o6, hq7, hf⟩ := xbind hf
  obtain ⟨hPc, hDc, hFc⟩ := xcut (wc := [(a1, .inr (1, [.ref a2, .int v1, .int v2])), (a2, .inl (cT 0, 4096, .inl f0))]) hP hD hS hA [1, 2] rfl rfl (by decide)
  refine va_calli (va_runV (C := "ValueBench$Text") (As := [.int o4]) (rest := []) ⟨hx, hb, hml, hown, htx⟩ (gT_at l hl9 D cT aK aV H.size n a1 a2 o4 f0 v1 v2 o6 hq7) ⟨callB_of 1 htx (xw_goodC kw_2_58) rfl rfl rfl (htx _ kw_1_2) (htx _ kw_2_55) ⟨by decide, by decide, by decide +kernel⟩ ⟨Nat.le_of_ble_eq_true rfl, Nat.le_of_ble_eq_true rfl⟩, (htx _ kw_2_56), (htx _ kw_2_57)⟩ ⟨xPre_blind, va_recv hK hP (ci := 1) rfl (q0 := 1) rfl, (fun U hU hW => ⟨rfl, xPre_of hZ hS hFc hPc hDc hK U hU hW⟩)⟩ rfl rfl hl.1 rfl (lv_room (Nat.le_of_ble_eq_true rfl)) dD_object_32 ⟨Nat.le_of_ble_eq_true rfl, Nat.le_of_ble_eq_true rfl⟩) hS (fun q _ h => hFc q h) hFc (fun r8 u9 t H1 locs ht hvm hr9 hB hz1 hk1 hS => ?_)
  obtain ⟨hP1, hK1, hD1⟩ := hB
  rw [ht] at hP1
  obtain ⟨hP, hD⟩ := xjoin (W := [(a0, .inr (4, [.ref a1, .ref a3, .int o4, .int v7])), (a3, .inr (2, [.ref a4, .int o1.2.2.1, .int o1.2.2.2])), (a4, .inl (cT 2, 4096, .inr (.inl o1.2.1))), (a1, .inr (1, [.ref a2, .int v1, .int v2])), (a2, .inl (cT 0, 4096, .inl f0))]) hP hD [1, 2] [0, 3, 4] 3 rfl rfl (by decide) (by decide) hk1 hFc hP1 hD1
  generalize H1 = H at hP hS ⊢
  rw [hr9]
  refine W.eq (g2 := F0 m 35 ls [.int o6]) rfl ?_
  refine lv_bipush (v := 125) hx hb dD_object_35 (by decide) ?_
  refine lv_icmp_eq (tgt := 44) hx hb dD_object_37 (by decide) (fun hc => ?_) (fun hc => ?_)
  · rw [if_pos hc] at hf
    refine lv_iconst (v := 0) hx hb dD_object_44 (by decide) ?_
    refine lv_istore (lv' := [(4, .int 0), (3, .int 0), (2, .int o1.1), (0, .ref a0), (1, .int x1)]) hx hb dD_object_45 hl (by decide) rfl (fun ls hl => ?_)
    obtain ⟨hP9, hD9⟩ := xsub (wc := [(a0, .inr (4, [.ref a1, .ref a3, .int o4, .int v7])), (a1, .inr (1, [.ref a2, .int v1, .int v2])), (a2, .inl (cT 0, 4096, .inl f0)), (a3, .inr (2, [.ref a4, .int o1.2.2.1, .int o1.2.2.2])), (a4, .inl (cT 2, 4096, .inr (.inl o1.2.1)))]) hP hD [0, 3, 4, 1, 2] rfl rfl (by decide)
    exact key n (1, 0, 0, o1.1, x1, o1.2.1, o1.2.2.1, o1.2.2.2, o4, v7) _ _ ls (⟨rfl, hf, hP9, hD9, hS, lv_sub hl [0, 1, 2, 3, 4] rfl⟩)
  · rw [if_neg hc] at hf
    refine lv_iconst (v := 1) hx hb dD_object_40 (by decide) ?_
    refine lv_goto (tgt := 45) hx hb dD_object_41 (by decide) ?_
    refine lv_istore (lv' := [(4, .int 1), (3, .int 0), (2, .int o1.1), (0, .ref a0), (1, .int x1)]) hx hb dD_object_45 hl (by decide) rfl (fun ls hl => ?_)
    obtain ⟨hP9, hD9⟩ := xsub (wc := [(a0, .inr (4, [.ref a1, .ref a3, .int o4, .int v7])), (a1, .inr (1, [.ref a2, .int v1, .int v2])), (a2, .inl (cT 0, 4096, .inl f0)), (a3, .inr (2, [.ref a4, .int o1.2.2.1, .int o1.2.2.2])), (a4, .inl (cT 2, 4096, .inr (.inl o1.2.1)))]) hP hD [0, 3, 4, 1, 2] rfl rfl (by decide)
    exact key n (1, 1, 0, o1.1, x1, o1.2.1, o1.2.2.1, o1.2.2.2, o4, v7) _ _ ls (⟨rfl, hf, hP9, hD9, hS, lv_sub hl [0, 1, 2, 3, 4] rfl⟩)
set_option maxHeartbeats 400000000 in
set_option maxRecDepth 100000 in
theorem gD_isDigit (l : Launch) (hl9 : l.stackTraces = false) (D : va_G) (cT : Nat → ClassId) (aK aV : Nat → Nat) (sz n : Nat) (x0 : Int32) (out : Int32) (hf : fD_isDigit n x0 = some out) : xMet l yD_isDigit wyD_isDigit 0 0 0 0 D cT aK aV sz [.int x0] [] (fun A => va_Qi (fun (r : Int32) (_ : Unit) => r = out) (fun _ t => xB D xcl cT A [] t) A) := by
  refine Met.ofW (cc := prog_7_method_13_code) (maxL := 1) (ret := (some .boolean)) (by decide) rfl ?_
  intro p e s m args below meth c s₁ B hml hv
  obtain ⟨rfl, hsz, hZ, hP, hK, hD0⟩ := hv
  have hx := B.exec
  have hb := B.bytes
  have hr := B.returns
  have hts := atoms_spec (ws := wyD_isDigit) B.pre
  have htx := fun w h => hts w (List.mem_cons_of_mem _ h)
  have hown : s.vm.findClass "ValueBench$Reader" = some m.cls := findClass_of_methodNamed B.named
  have hlocks := B.notSynchronized
  subst hsz
  have hD := hD0.self (sz := s.heap.size)
  generalize hAe : va_A [] s.heap.size = A at hD hZ ⊢
  have hA : ∀ q : Nat, s.heap.size ≤ q → A q := fun q h => by rw [← hAe]; exact Or.inr h
  have hS : va_S A s.heap s.heap [] := va_S.rf
  have hP : va_P D xcl [] s.heap := hP
  have hl := lv_entry ([.int x0]) (n := 1) (Nat.le_of_ble_eq_true rfl)
  rw [lg_entry_eq]
  generalize (lg_sl ([.int x0]) ++ List.replicate (1 - (lg_sl ([.int x0])).length) Slot.unset).toArray = ls at hl ⊢
  have hl : lv_has ls 1 [(0, .int x0)] := hl
  unfold fD_isDigit at hf
  refine lv_iload_n hx hb dD_isDigit_0 rfl (lv_at hl 0 rfl) ?_
  refine lv_bipush (v := 48) hx hb dD_isDigit_1 (by decide) ?_
  refine lv_icmp_lt (tgt := 16) hx hb dD_isDigit_3 (by decide) (fun hc => ?_) (fun hc => ?_)
  · rw [if_pos hc] at hf
    refine lv_iconst (v := 0) hx hb dD_isDigit_16 (by decide) ?_
    obtain rfl := Option.some.inj hf
    obtain ⟨hP9, hD9⟩ := xsub (wc := []) hP hD [] rfl rfl (by decide)
    exact W.zret (v := (0 : Int32)) hx hb hr rfl (fun t ht hW => ⟨⟨(0 : Int32), (), rfl, rfl, by rw [ht]; exact hP9, va_K.moved hW.alike hK, hD9⟩, hS.F ht⟩) hS.2.2 dD_isDigit_17
  · rw [if_neg hc] at hf
    refine lv_iload_n hx hb dD_isDigit_6 rfl (lv_at hl 0 rfl) ?_
    refine lv_bipush (v := 57) hx hb dD_isDigit_7 (by decide) ?_
    refine lv_icmp_gt (tgt := 16) hx hb dD_isDigit_9 (by decide) (fun hc => ?_) (fun hc => ?_)
    · rw [if_pos hc] at hf
      refine lv_iconst (v := 0) hx hb dD_isDigit_16 (by decide) ?_
      obtain rfl := Option.some.inj hf
      obtain ⟨hP9, hD9⟩ := xsub (wc := []) hP hD [] rfl rfl (by decide)
      exact W.zret (v := (0 : Int32)) hx hb hr rfl (fun t ht hW => ⟨⟨(0 : Int32), (), rfl, rfl, by rw [ht]; exact hP9, va_K.moved hW.alike hK, hD9⟩, hS.F ht⟩) hS.2.2 dD_isDigit_17
    · rw [if_neg hc] at hf
      refine lv_iconst (v := 1) hx hb dD_isDigit_12 (by decide) ?_
      refine lv_goto (tgt := 17) hx hb dD_isDigit_13 (by decide) ?_
      obtain rfl := Option.some.inj hf
      obtain ⟨hP9, hD9⟩ := xsub (wc := []) hP hD [] rfl rfl (by decide)
      exact W.zret (v := (1 : Int32)) hx hb hr rfl (fun t ht hW => ⟨⟨(1 : Int32), (), rfl, rfl, by rw [ht]; exact hP9, va_K.moved hW.alike hK, hD9⟩, hS.F ht⟩) hS.2.2 dD_isDigit_17
set_option maxHeartbeats 400000000 in
set_option maxRecDepth 100000 in
theorem gD_digits (l : Launch) (hl9 : l.stackTraces = false) (D : va_G) (cT : Nat → ClassId) (aK aV : Nat → Nat) (sz n : Nat) (a0 : Nat) (a1 : Nat) (a2 : Nat) (a3 : Nat) (a4 : Nat) (f0 : Nat → Int32) (v1 : Int32) (v2 : Int32) (f3 : Nat → Int64) (v4 : Int32) (v5 : Int32) (v6 : Int32) (v7 : Int32) (out : Int64 × Int32) (hf : fD_digits n f0 v1 v2 f3 v4 v5 v6 v7 = some out) : xMet l yD_digits wyD_digits 1 0 0 21 D cT aK aV sz [.ref a0] [(a0, .inr (4, [.ref a1, .ref a3, .int v6, .int v7])), (a1, .inr (1, [.ref a2, .int v1, .int v2])), (a2, .inl (cT 0, 4096, .inl f0)), (a3, .inr (2, [.ref a4, .int v4, .int v5])), (a4, .inl (cT 2, 4096, .inr (.inl f3)))] (fun A => va_Ql (fun (r : Int64) (_ : Unit) => r = out.1) (fun _ t => xB D xcl cT A [(a0, .inr (4, [.ref a1, .ref a3, .int out.2, .int v7])), (a1, .inr (1, [.ref a2, .int v1, .int v2])), (a2, .inl (cT 0, 4096, .inl f0)), (a3, .inr (2, [.ref a4, .int v4, .int v5])), (a4, .inl (cT 2, 4096, .inr (.inl f3)))] t) A) := by
  refine Met.ofW (cc := prog_7_method_14_code) (maxL := 3) (ret := (some .long)) (by decide) rfl ?_
  intro p e s m args below meth c s₁ B hml hv
  obtain ⟨rfl, hsz, hZ, hP, hK, hD0⟩ := hv
  have hx := B.exec
  have hb := B.bytes
  have hr := B.returns
  have hts := atoms_spec (ws := wyD_digits) B.pre
  have htx := fun w h => hts w (List.mem_cons_of_mem _ h)
  have hown : s.vm.findClass "ValueBench$Reader" = some m.cls := findClass_of_methodNamed B.named
  have hlocks := B.notSynchronized
  subst hsz
  have hD := hD0.self (sz := s.heap.size)
  generalize hAe : va_A [(a0, .inr (4, [.ref a1, .ref a3, .int v6, .int v7])), (a1, .inr (1, [.ref a2, .int v1, .int v2])), (a2, .inl (cT 0, 4096, .inl f0)), (a3, .inr (2, [.ref a4, .int v4, .int v5])), (a4, .inl (cT 2, 4096, .inr (.inl f3)))] s.heap.size = A at hD hZ ⊢
  have hA : ∀ q : Nat, s.heap.size ≤ q → A q := fun q h => by rw [← hAe]; exact Or.inr h
  have hS : va_S A s.heap s.heap [] := va_S.rf
  have hP : va_P D xcl [(a0, .inr (4, [.ref a1, .ref a3, .int v6, .int v7])), (a1, .inr (1, [.ref a2, .int v1, .int v2])), (a2, .inl (cT 0, 4096, .inl f0)), (a3, .inr (2, [.ref a4, .int v4, .int v5])), (a4, .inl (cT 2, 4096, .inr (.inl f3)))] s.heap := hP
  have hl := lv_entry ([.ref a0]) (n := 3) (Nat.le_of_ble_eq_true rfl)
  rw [lg_entry_eq]
  generalize (lg_sl ([.ref a0]) ++ List.replicate (3 - (lg_sl ([.ref a0])).length) Slot.unset).toArray = ls at hl ⊢
  have hl : lv_has ls 3 [(0, .ref a0)] := hl
  unfold fD_digits at hf
  refine xloopK (σ := Nat × Int64 × Int32) (fun n x H locs ls => (x.1 = 1 ∧ fD_digits_b f0 v1 v2 f3 v4 v5 v7 n x.1 x.2.1 x.2.2 = some out ∧ va_P D xcl [(a0, .inr (4, [.ref a1, .ref a3, .int x.2.2, .int v7])), (a1, .inr (1, [.ref a2, .int v1, .int v2])), (a2, .inl (cT 0, 4096, .inl f0)), (a3, .inr (2, [.ref a4, .int v4, .int v5])), (a4, .inl (cT 2, 4096, .inr (.inl f3)))] H ∧ va_D A [(a0, .inr (4, [.ref a1, .ref a3, .int x.2.2, .int v7])), (a1, .inr (1, [.ref a2, .int v1, .int v2])), (a2, .inl (cT 0, 4096, .inl f0)), (a3, .inr (2, [.ref a4, .int v4, .int v5])), (a4, .inl (cT 2, 4096, .inr (.inl f3)))] ∧ va_S A s.heap H locs ∧ lv_has ls 3 [(1, .long x.2.1), (0, .ref a0)])) (fun x => 26) (fun x H locs ls h => by exact absurd h.2.1 (by rw [fD_digits_b]; exact fun h => nomatch h)) (fun n ih x H locs ls hv => ?_) (fun key => ?_)
  · obtain ⟨lb, y1, w0⟩ := x
    rcases hv with ⟨hj, hf, hP, hD, hS, hl⟩
    subst hj
    have hf : fD_digits_b f0 v1 v2 f3 v4 v5 v7 (n + 1) 1 y1 w0 = some out := hf
    rw [fD_digits_b] at hf
    obtain ⟨hP, hD⟩ : xPD D xcl A [(a0, .inr (4, [.ref a1, .ref a3, .int w0, .int v7])), (a1, .inr (1, [.ref a2, .int v1, .int v2])), (a2, .inl (cT 0, 4096, .inl f0)), (a3, .inr (2, [.ref a4, .int v4, .int v5])), (a4, .inl (cT 2, 4096, .inr (.inl f3)))] H := ⟨hP, hD⟩
    have hl : lv_has ls 3 [(1, .long y1), (0, .ref a0)] := hl
    refine W.eq (g2 := F0 m 26 ls []) rfl ?_
    refine lv_lload_n hx hb dD_digits_26 rfl (lv_at hl 0 rfl) ?_
    refine lv_lconst (v := 0) hx hb dD_digits_27 (by decide) ?_
    refine W.lcmp hx hb dD_digits_28 ?_
    refine lv_if_le (tgt := 111) hx hb dD_digits_29 (by decide) (fun hc => ?_) (fun hc => ?_)
    · rw [if_pos hc] at hf
      refine lv_lload_n hx hb dD_digits_111 rfl (lv_at hl 0 rfl) ?_
      obtain rfl := Option.some.inj hf
      obtain ⟨hP9, hD9⟩ := xsub (wc := [(a0, .inr (4, [.ref a1, .ref a3, .int w0, .int v7])), (a1, .inr (1, [.ref a2, .int v1, .int v2])), (a2, .inl (cT 0, 4096, .inl f0)), (a3, .inr (2, [.ref a4, .int v4, .int v5])), (a4, .inl (cT 2, 4096, .inr (.inl f3)))]) hP hD [0, 1, 2, 3, 4] rfl rfl (by decide)
      exact W.lret (v := y1) hx hb hr (fun t ht hW => ⟨⟨y1, (), rfl, rfl, by rw [ht]; exact hP9, va_K.moved hW.alike hK, hD9⟩, hS.F ht⟩) hS.2.2 dD_digits_112
    · rw [if_neg hc] at hf
      refine lv_aload_n hx hb dD_digits_32 rfl (lv_at hl 1 rfl) ?_
      refine va_get (D := D) (ci := 4) (v := .int w0) (C := "ValueBench$Reader") (T := TD) (N := 4) hx hb htx inD hown hK hP 0 rfl rfl 2 (by decide) (htx _ kw_2_31) (fun _ h9 => h9) rfl dD_digits_33 ?_
      refine lv_aload_n hx hb dD_digits_36 rfl (lv_at hl 1 rfl) ?_
      refine va_get (D := D) (ci := 4) (v := .ref a1) (C := "ValueBench$Reader") (T := TD) (N := 4) hx hb htx inD hown hK hP 0 rfl rfl 0 (by decide) (htx _ kw_2_29) (fun _ h9 => h9) rfl dD_digits_37 ?_
      obtain ⟨o1, hq2, hf⟩ := xbind hf
      obtain ⟨hPc, hDc, hFc⟩ := xcut (wc := [(a1, .inr (1, [.ref a2, .int v1, .int v2])), (a2, .inl (cT 0, 4096, .inl f0))]) hP hD hS hA [1, 2] rfl rfl (by decide)
      refine va_calli (va_runV (C := "ValueBench$Text") (As := []) (rest := [.int w0]) ⟨hx, hb, hml, hown, htx⟩ (gT_size l hl9 D cT aK aV H.size n a1 a2 f0 v1 v2 o1 hq2) ⟨callB_of 0 htx (xw_goodC kw_1_131) rfl rfl rfl (htx _ kw_1_2) (htx _ kw_2_54) ⟨by decide, by decide, by decide +kernel⟩ ⟨Nat.le_of_ble_eq_true rfl, Nat.le_of_ble_eq_true rfl⟩, (htx _ kw_1_129), (htx _ kw_1_130)⟩ ⟨xPre_blind, va_recv hK hP (ci := 1) rfl (q0 := 1) rfl, (fun U hU hW => ⟨rfl, xPre_of hZ hS hFc hPc hDc hK U hU hW⟩)⟩ rfl rfl hl.1 rfl (lv_room (Nat.le_of_ble_eq_true rfl)) dD_digits_40 ⟨Nat.le_of_ble_eq_true rfl, Nat.le_of_ble_eq_true rfl⟩) hS (fun q _ h => hFc q h) hFc (fun r3 u9 t H1 locs ht hvm hr9 hB hz1 hk1 hS => ?_)
      obtain ⟨hP1, hK1, hD1⟩ := hB
      rw [ht] at hP1
      obtain ⟨hP, hD⟩ := xjoin (W := [(a0, .inr (4, [.ref a1, .ref a3, .int w0, .int v7])), (a3, .inr (2, [.ref a4, .int v4, .int v5])), (a4, .inl (cT 2, 4096, .inr (.inl f3))), (a1, .inr (1, [.ref a2, .int v1, .int v2])), (a2, .inl (cT 0, 4096, .inl f0))]) hP hD [1, 2] [0, 3, 4] 3 rfl rfl (by decide) (by decide) hk1 hFc hP1 hD1
      generalize H1 = H at hP hS ⊢
      rw [hr9]
      refine W.eq (g2 := F0 m 43 ls [.int o1, .int w0]) rfl ?_
      refine lv_icmp_ge (tgt := 111) hx hb dD_digits_43 (by decide) (fun hc => ?_) (fun hc => ?_)
      · rw [if_pos hc] at hf
        refine lv_lload_n hx hb dD_digits_111 rfl (lv_at hl 0 rfl) ?_
        obtain rfl := Option.some.inj hf
        obtain ⟨hP9, hD9⟩ := xsub (wc := [(a0, .inr (4, [.ref a1, .ref a3, .int w0, .int v7])), (a1, .inr (1, [.ref a2, .int v1, .int v2])), (a2, .inl (cT 0, 4096, .inl f0)), (a3, .inr (2, [.ref a4, .int v4, .int v5])), (a4, .inl (cT 2, 4096, .inr (.inl f3)))]) hP hD [0, 3, 4, 1, 2] rfl rfl (by decide)
        exact W.lret (v := y1) hx hb hr (fun t ht hW => ⟨⟨y1, (), rfl, rfl, by rw [ht]; exact hP9, va_K.moved hW.alike hK, hD9⟩, hS.F ht⟩) hS.2.2 dD_digits_112
      · rw [if_neg hc] at hf
        refine lv_aload_n hx hb dD_digits_46 rfl (lv_at hl 1 rfl) ?_
        refine va_get (D := D) (ci := 4) (v := .ref a1) (C := "ValueBench$Reader") (T := TD) (N := 4) hx hb htx inD hown hK hP 0 rfl rfl 0 (by decide) (htx _ kw_2_29) (fun _ h9 => h9) rfl dD_digits_47 ?_
        refine lv_aload_n hx hb dD_digits_50 rfl (lv_at hl 1 rfl) ?_
        refine va_get (D := D) (ci := 4) (v := .int w0) (C := "ValueBench$Reader") (T := TD) (N := 4) hx hb htx inD hown hK hP 0 rfl rfl 2 (by decide) (htx _ kw_2_31) (fun _ h9 => h9) rfl dD_digits_51 ?_
        obtain ⟨o4, hq5, hf⟩ := xbind hf
        obtain ⟨hPc, hDc, hFc⟩ := xcut (wc := [(a1, .inr (1, [.ref a2, .int v1, .int v2])), (a2, .inl (cT 0, 4096, .inl f0))]) hP hD hS hA [3, 4] rfl rfl (by decide)
        refine va_calli (va_runV (C := "ValueBench$Text") (As := [.int w0]) (rest := []) ⟨hx, hb, hml, hown, htx⟩ (gT_at l hl9 D cT aK aV H.size n a1 a2 w0 f0 v1 v2 o4 hq5) ⟨callB_of 1 htx (xw_goodC kw_2_58) rfl rfl rfl (htx _ kw_1_2) (htx _ kw_2_55) ⟨by decide, by decide, by decide +kernel⟩ ⟨Nat.le_of_ble_eq_true rfl, Nat.le_of_ble_eq_true rfl⟩, (htx _ kw_2_56), (htx _ kw_2_57)⟩ ⟨xPre_blind, va_recv hK hP (ci := 1) rfl (q0 := 3) rfl, (fun U hU hW => ⟨rfl, xPre_of hZ hS hFc hPc hDc hK U hU hW⟩)⟩ rfl rfl hl.1 rfl (lv_room (Nat.le_of_ble_eq_true rfl)) dD_digits_54 ⟨Nat.le_of_ble_eq_true rfl, Nat.le_of_ble_eq_true rfl⟩) hS (fun q _ h => hFc q h) hFc (fun r6 u9 t H1 locs ht hvm hr9 hB hz1 hk1 hS => ?_)
        obtain ⟨hP1, hK1, hD1⟩ := hB
        rw [ht] at hP1
        obtain ⟨hP, hD⟩ := xjoin (W := [(a0, .inr (4, [.ref a1, .ref a3, .int w0, .int v7])), (a3, .inr (2, [.ref a4, .int v4, .int v5])), (a4, .inl (cT 2, 4096, .inr (.inl f3))), (a1, .inr (1, [.ref a2, .int v1, .int v2])), (a2, .inl (cT 0, 4096, .inl f0))]) hP hD [3, 4] [0, 1, 2] 3 rfl rfl (by decide) (by decide) hk1 hFc hP1 hD1
        generalize H1 = H at hP hS ⊢
        rw [hr9]
        refine W.eq (g2 := F0 m 57 ls [.int o4]) rfl ?_
        obtain ⟨o7, hq8, hf⟩ := xbind hf
        obtain ⟨hPc, hDc, hFc⟩ := xcut (wc := []) hP hD hS hA [] rfl rfl (by decide)
        refine va_calli (va_runS (As := [.int o4]) (rest := []) ⟨hx, hb, hml, hown, htx⟩ (gD_isDigit l hl9 D cT aK aV H.size n o4 o7 hq8) ⟨callB_of 1 htx (xw_goodC kw_2_217) rfl rfl rfl (htx _ kw_1_16) (htx _ kw_2_215) ⟨by decide, by decide, by decide +kernel⟩ ⟨Nat.le_of_ble_eq_true rfl, Nat.le_of_ble_eq_true rfl⟩, htx _ kw_2_216⟩ ⟨xPre_blind, (fun U hU hW => ⟨rfl, xPre_of hZ hS hFc hPc hDc hK U hU hW⟩)⟩ rfl rfl hl.1 rfl (lv_room (Nat.le_of_ble_eq_true rfl)) dD_digits_57 ⟨Nat.le_of_ble_eq_true rfl, Nat.le_of_ble_eq_true rfl⟩) hS (fun q _ h => hFc q h) hFc (fun r9 u9 t H1 locs ht hvm hr9 hB hz1 hk1 hS => ?_)
        obtain ⟨hP1, hK1, hD1⟩ := hB
        rw [ht] at hP1
        obtain ⟨hP, hD⟩ := xjoin (W := [(a0, .inr (4, [.ref a1, .ref a3, .int w0, .int v7])), (a3, .inr (2, [.ref a4, .int v4, .int v5])), (a4, .inl (cT 2, 4096, .inr (.inl f3))), (a1, .inr (1, [.ref a2, .int v1, .int v2])), (a2, .inl (cT 0, 4096, .inl f0))]) hP hD [] [0, 1, 2, 3, 4] 5 rfl rfl (by decide) (by decide) hk1 hFc hP1 hD1
        generalize H1 = H at hP hS ⊢
        rw [hr9]
        refine W.eq (g2 := F0 m 60 ls [.int o7]) rfl ?_
        refine lv_if_eq (tgt := 111) hx hb dD_digits_60 (by decide) (fun hc => ?_) (fun hc => ?_)
        · rw [if_pos hc] at hf
          refine lv_lload_n hx hb dD_digits_111 rfl (lv_at hl 0 rfl) ?_
          obtain rfl := Option.some.inj hf
          obtain ⟨hP9, hD9⟩ := xsub (wc := [(a0, .inr (4, [.ref a1, .ref a3, .int w0, .int v7])), (a1, .inr (1, [.ref a2, .int v1, .int v2])), (a2, .inl (cT 0, 4096, .inl f0)), (a3, .inr (2, [.ref a4, .int v4, .int v5])), (a4, .inl (cT 2, 4096, .inr (.inl f3)))]) hP hD [0, 3, 4, 1, 2] rfl rfl (by decide)
          exact W.lret (v := y1) hx hb hr (fun t ht hW => ⟨⟨y1, (), rfl, rfl, by rw [ht]; exact hP9, va_K.moved hW.alike hK, hD9⟩, hS.F ht⟩) hS.2.2 dD_digits_112
        · rw [if_neg hc] at hf
          refine lv_lload_n hx hb dD_digits_63 rfl (lv_at hl 0 rfl) ?_
          refine lv_ldc2 hx hb hown (htx _ kw_2_222) dD_digits_64 ?_
          refine W.lcmp hx hb dD_digits_67 ?_
          refine lv_if_le (tgt := 75) hx hb dD_digits_68 (by decide) (fun hc => ?_) (fun hc => ?_)
          · rw [if_pos hc] at hf
            refine lv_lload_n hx hb dD_digits_75 rfl (lv_at hl 0 rfl) ?_
            refine lv_ldc2 hx hb hown (htx _ kw_2_223) dD_digits_76 ?_
            refine lv_lmul hx hb dD_digits_79 ?_
            refine lv_aload_n hx hb dD_digits_80 rfl (lv_at hl 1 rfl) ?_
            refine va_get (D := D) (ci := 4) (v := .ref a1) (C := "ValueBench$Reader") (T := TD) (N := 4) hx hb htx inD hown hK hP 0 rfl rfl 0 (by decide) (htx _ kw_2_29) (fun _ h9 => h9) rfl dD_digits_81 ?_
            refine lv_aload_n hx hb dD_digits_84 rfl (lv_at hl 1 rfl) ?_
            refine va_get (D := D) (ci := 4) (v := .int w0) (C := "ValueBench$Reader") (T := TD) (N := 4) hx hb htx inD hown hK hP 0 rfl rfl 2 (by decide) (htx _ kw_2_31) (fun _ h9 => h9) rfl dD_digits_85 ?_
            obtain ⟨o10, hq11, hf⟩ := xbind hf
            obtain ⟨hPc, hDc, hFc⟩ := xcut (wc := [(a1, .inr (1, [.ref a2, .int v1, .int v2])), (a2, .inl (cT 0, 4096, .inl f0))]) hP hD hS hA [3, 4] rfl rfl (by decide)
            refine va_calli (va_runV (C := "ValueBench$Text") (As := [.int w0]) (rest := [.long (y1 * (10 : Int64))]) ⟨hx, hb, hml, hown, htx⟩ (gT_at l hl9 D cT aK aV H.size n a1 a2 w0 f0 v1 v2 o10 hq11) ⟨callB_of 1 htx (xw_goodC kw_2_58) rfl rfl rfl (htx _ kw_1_2) (htx _ kw_2_55) ⟨by decide, by decide, by decide +kernel⟩ ⟨Nat.le_of_ble_eq_true rfl, Nat.le_of_ble_eq_true rfl⟩, (htx _ kw_2_56), (htx _ kw_2_57)⟩ ⟨xPre_blind, va_recv hK hP (ci := 1) rfl (q0 := 3) rfl, (fun U hU hW => ⟨rfl, xPre_of hZ hS hFc hPc hDc hK U hU hW⟩)⟩ rfl rfl hl.1 rfl (lv_room (Nat.le_of_ble_eq_true rfl)) dD_digits_88 ⟨Nat.le_of_ble_eq_true rfl, Nat.le_of_ble_eq_true rfl⟩) hS (fun q _ h => hFc q h) hFc (fun r12 u9 t H1 locs ht hvm hr9 hB hz1 hk1 hS => ?_)
            obtain ⟨hP1, hK1, hD1⟩ := hB
            rw [ht] at hP1
            obtain ⟨hP, hD⟩ := xjoin (W := [(a0, .inr (4, [.ref a1, .ref a3, .int w0, .int v7])), (a3, .inr (2, [.ref a4, .int v4, .int v5])), (a4, .inl (cT 2, 4096, .inr (.inl f3))), (a1, .inr (1, [.ref a2, .int v1, .int v2])), (a2, .inl (cT 0, 4096, .inl f0))]) hP hD [3, 4] [0, 1, 2] 3 rfl rfl (by decide) (by decide) hk1 hFc hP1 hD1
            generalize H1 = H at hP hS ⊢
            rw [hr9]
            refine W.eq (g2 := F0 m 91 ls [.int o10, .long (y1 * (10 : Int64))]) rfl ?_
            refine lv_i2l hx hb dD_digits_91 rfl ?_
            refine lv_ladd hx hb dD_digits_92 ?_
            refine lv_ldc2 hx hb hown (htx _ kw_2_224) dD_digits_93 ?_
            refine lv_lsub hx hb dD_digits_96 ?_
            refine lv_lstore_n (lv' := [(1, .long (((y1 * (10 : Int64)) + o10.toInt64) - (48 : Int64))), (0, .ref a0)]) hx hb dD_digits_97 rfl hl (by decide) rfl (fun ls hl => ?_)
            refine lv_aload_n hx hb dD_digits_98 rfl (lv_at hl 1 rfl) ?_
            refine lv_dup hx hb dD_digits_99 rfl ?_
            refine va_get (D := D) (ci := 4) (v := .int w0) (C := "ValueBench$Reader") (T := TD) (N := 4) hx hb htx inD hown hK hP 0 rfl rfl 2 (by decide) (htx _ kw_2_31) (fun _ h9 => h9) rfl dD_digits_100 ?_
            refine lv_iconst (v := 1) hx hb dD_digits_103 (by decide) ?_
            refine lv_iadd hx hb dD_digits_104 ?_
            refine va_put (D := D) (ci := 4) (v := .int (w0 + (1 : Int32))) (ty := .int) (C := "ValueBench$Reader") (T := TD) (N := 4) hx hb htx inD tyD tyD_ok nmD hown hK hP hD hS 0 rfl rfl 2 (by decide) (htx _ kw_2_31) (fun _ h9 => h9) rfl (by decide +kernel) rfl rfl (Nat.le_of_ble_eq_true rfl) dD_digits_105 (fun H locs hP hD hS => ?_)
            obtain ⟨hP, hD⟩ : xPD D xcl A [(a0, .inr (4, [.ref a1, .ref a3, .int (w0 + (1 : Int32)), .int v7])), (a3, .inr (2, [.ref a4, .int v4, .int v5])), (a4, .inl (cT 2, 4096, .inr (.inl f3))), (a1, .inr (1, [.ref a2, .int v1, .int v2])), (a2, .inl (cT 0, 4096, .inl f0))] H := ⟨hP, hD⟩
            refine lv_goto (tgt := 26) hx hb dD_digits_108 (by decide) ?_
            obtain ⟨hP9, hD9⟩ := xsub (wc := [(a0, .inr (4, [.ref a1, .ref a3, .int (w0 + (1 : Int32)), .int v7])), (a1, .inr (1, [.ref a2, .int v1, .int v2])), (a2, .inl (cT 0, 4096, .inl f0)), (a3, .inr (2, [.ref a4, .int v4, .int v5])), (a4, .inl (cT 2, 4096, .inr (.inl f3)))]) hP hD [0, 3, 4, 1, 2] rfl rfl (by decide)
            exact ih (1, (((y1 * (10 : Int64)) + o10.toInt64) - (48 : Int64)), (w0 + (1 : Int32))) _ _ ls (⟨rfl, hf, hP9, hD9, hS, lv_sub hl [0, 1] rfl⟩)
          · rw [if_neg hc] at hf
            refine lv_lload_n hx hb dD_digits_71 rfl (lv_at hl 0 rfl) ?_
            refine lv_goto (tgt := 97) hx hb dD_digits_72 (by decide) ?_
            refine lv_lstore_n (lv' := [(1, .long y1), (0, .ref a0)]) hx hb dD_digits_97 rfl hl (by decide) rfl (fun ls hl => ?_)
            refine lv_aload_n hx hb dD_digits_98 rfl (lv_at hl 1 rfl) ?_
            refine lv_dup hx hb dD_digits_99 rfl ?_
            refine va_get (D := D) (ci := 4) (v := .int w0) (C := "ValueBench$Reader") (T := TD) (N := 4) hx hb htx inD hown hK hP 0 rfl rfl 2 (by decide) (htx _ kw_2_31) (fun _ h9 => h9) rfl dD_digits_100 ?_
            refine lv_iconst (v := 1) hx hb dD_digits_103 (by decide) ?_
            refine lv_iadd hx hb dD_digits_104 ?_
            refine va_put (D := D) (ci := 4) (v := .int (w0 + (1 : Int32))) (ty := .int) (C := "ValueBench$Reader") (T := TD) (N := 4) hx hb htx inD tyD tyD_ok nmD hown hK hP hD hS 0 rfl rfl 2 (by decide) (htx _ kw_2_31) (fun _ h9 => h9) rfl (by decide +kernel) rfl rfl (Nat.le_of_ble_eq_true rfl) dD_digits_105 (fun H locs hP hD hS => ?_)
            obtain ⟨hP, hD⟩ : xPD D xcl A [(a0, .inr (4, [.ref a1, .ref a3, .int (w0 + (1 : Int32)), .int v7])), (a3, .inr (2, [.ref a4, .int v4, .int v5])), (a4, .inl (cT 2, 4096, .inr (.inl f3))), (a1, .inr (1, [.ref a2, .int v1, .int v2])), (a2, .inl (cT 0, 4096, .inl f0))] H := ⟨hP, hD⟩
            refine lv_goto (tgt := 26) hx hb dD_digits_108 (by decide) ?_
            obtain ⟨hP9, hD9⟩ := xsub (wc := [(a0, .inr (4, [.ref a1, .ref a3, .int (w0 + (1 : Int32)), .int v7])), (a1, .inr (1, [.ref a2, .int v1, .int v2])), (a2, .inl (cT 0, 4096, .inl f0)), (a3, .inr (2, [.ref a4, .int v4, .int v5])), (a4, .inl (cT 2, 4096, .inr (.inl f3)))]) hP hD [0, 3, 4, 1, 2] rfl rfl (by decide)
            exact ih (1, y1, (w0 + (1 : Int32))) _ _ ls (⟨rfl, hf, hP9, hD9, hS, lv_sub hl [0, 1] rfl⟩)
  refine lv_aload_n hx hb dD_digits_0 rfl (lv_at hl 0 rfl) ?_
  refine va_get (D := D) (ci := 4) (v := .ref a1) (C := "ValueBench$Reader") (T := TD) (N := 4) hx hb htx inD hown hK hP 0 rfl rfl 0 (by decide) (htx _ kw_2_29) (fun _ h9 => h9) rfl dD_digits_1 ?_
  refine lv_aload_n hx hb dD_digits_4 rfl (lv_at hl 0 rfl) ?_
  refine va_get (D := D) (ci := 4) (v := .int v6) (C := "ValueBench$Reader") (T := TD) (N := 4) hx hb htx inD hown hK hP 0 rfl rfl 2 (by decide) (htx _ kw_2_31) (fun _ h9 => h9) rfl dD_digits_5 ?_
  obtain ⟨o1, hq2, hf⟩ := xbind hf
  obtain ⟨hPc, hDc, hFc⟩ := xcut (wc := [(a1, .inr (1, [.ref a2, .int v1, .int v2])), (a2, .inl (cT 0, 4096, .inl f0))]) hP hD hS hA [1, 2] rfl rfl (by decide)
  refine va_calli (va_runV (C := "ValueBench$Text") (As := [.int v6]) (rest := []) ⟨hx, hb, hml, hown, htx⟩ (gT_at l hl9 D cT aK aV s.heap.size n a1 a2 v6 f0 v1 v2 o1 hq2) ⟨callB_of 1 htx (xw_goodC kw_2_58) rfl rfl rfl (htx _ kw_1_2) (htx _ kw_2_55) ⟨by decide, by decide, by decide +kernel⟩ ⟨Nat.le_of_ble_eq_true rfl, Nat.le_of_ble_eq_true rfl⟩, (htx _ kw_2_56), (htx _ kw_2_57)⟩ ⟨xPre_blind, va_recv hK hP (ci := 1) rfl (q0 := 1) rfl, (fun U hU hW => ⟨rfl, xPre_of hZ hS hFc hPc hDc hK U hU hW⟩)⟩ rfl rfl hl.1 rfl (lv_room (Nat.le_of_ble_eq_true rfl)) dD_digits_8 ⟨Nat.le_of_ble_eq_true rfl, Nat.le_of_ble_eq_true rfl⟩) hS (fun q _ h => hFc q h) hFc (fun r3 u9 t H1 locs ht hvm hr9 hB hz1 hk1 hS => ?_)
  obtain ⟨hP1, hK1, hD1⟩ := hB
  rw [ht] at hP1
  obtain ⟨hP, hD⟩ := xjoin (W := [(a0, .inr (4, [.ref a1, .ref a3, .int v6, .int v7])), (a3, .inr (2, [.ref a4, .int v4, .int v5])), (a4, .inl (cT 2, 4096, .inr (.inl f3))), (a1, .inr (1, [.ref a2, .int v1, .int v2])), (a2, .inl (cT 0, 4096, .inl f0))]) hP hD [1, 2] [0, 3, 4] 3 rfl rfl (by decide) (by decide) hk1 hFc hP1 hD1
  generalize H1 = H at hP hS ⊢
  rw [hr9]
  refine W.eq (g2 := F0 m 11 ls [.int o1]) rfl ?_
  refine lv_bipush (v := 48) hx hb dD_digits_11 (by decide) ?_
  refine lv_isub hx hb dD_digits_13 ?_
  refine lv_i2l hx hb dD_digits_14 rfl ?_
  refine lv_lstore_n (lv' := [(1, .long (o1 - (48 : Int32)).toInt64), (0, .ref a0)]) hx hb dD_digits_15 rfl hl (by decide) rfl (fun ls hl => ?_)
  refine lv_aload_n hx hb dD_digits_16 rfl (lv_at hl 1 rfl) ?_
  refine lv_dup hx hb dD_digits_17 rfl ?_
  refine va_get (D := D) (ci := 4) (v := .int v6) (C := "ValueBench$Reader") (T := TD) (N := 4) hx hb htx inD hown hK hP 0 rfl rfl 2 (by decide) (htx _ kw_2_31) (fun _ h9 => h9) rfl dD_digits_18 ?_
  refine lv_iconst (v := 1) hx hb dD_digits_21 (by decide) ?_
  refine lv_iadd hx hb dD_digits_22 ?_
  refine va_put (D := D) (ci := 4) (v := .int (v6 + (1 : Int32))) (ty := .int) (C := "ValueBench$Reader") (T := TD) (N := 4) hx hb htx inD tyD tyD_ok nmD hown hK hP hD hS 0 rfl rfl 2 (by decide) (htx _ kw_2_31) (fun _ h9 => h9) rfl (by decide +kernel) rfl rfl (Nat.le_of_ble_eq_true rfl) dD_digits_23 (fun H locs hP hD hS => ?_)
  obtain ⟨hP, hD⟩ : xPD D xcl A [(a0, .inr (4, [.ref a1, .ref a3, .int (v6 + (1 : Int32)), .int v7])), (a3, .inr (2, [.ref a4, .int v4, .int v5])), (a4, .inl (cT 2, 4096, .inr (.inl f3))), (a1, .inr (1, [.ref a2, .int v1, .int v2])), (a2, .inl (cT 0, 4096, .inl f0))] H := ⟨hP, hD⟩
  obtain ⟨hP9, hD9⟩ := xsub (wc := [(a0, .inr (4, [.ref a1, .ref a3, .int (v6 + (1 : Int32)), .int v7])), (a1, .inr (1, [.ref a2, .int v1, .int v2])), (a2, .inl (cT 0, 4096, .inl f0)), (a3, .inr (2, [.ref a4, .int v4, .int v5])), (a4, .inl (cT 2, 4096, .inr (.inl f3)))]) hP hD [0, 3, 4, 1, 2] rfl rfl (by decide)
  exact key n (1, (o1 - (48 : Int32)).toInt64, (v6 + (1 : Int32))) _ _ ls (⟨rfl, hf, hP9, hD9, hS, lv_sub hl [0, 1] rfl⟩)
