set_option maxHeartbeats 400000000 in
set_option maxRecDepth 100000 in
theorem gD_number (l : Launch) (hl9 : l.stackTraces = false) (D : va_G) (cT : Nat → ClassId) (aK aV : Nat → Nat) (sz n : Nat) (a0 : Nat) (a1 : Nat) (a2 : Nat) (a3 : Nat) (a4 : Nat) (f0 : Nat → Int32) (v1 : Int32) (v2 : Int32) (f3 : Nat → Int64) (v4 : Int32) (v5 : Int32) (v6 : Int32) (v7 : Int32) (out : Int32 × (Nat → Int64) × Int32 × Int32 × Int32 × Int32) (hf : fD_number n f0 v1 v2 f3 v4 v5 v6 v7 = some out) : xMet l yD_number wyD_number 2 0 0 44 D cT aK aV sz [.ref a0] [(a0, .inr (4, [.ref a1, .ref a3, .int v6, .int v7])), (a1, .inr (1, [.ref a2, .int v1, .int v2])), (a2, .inl (cT 0, 4096, .inl f0)), (a3, .inr (2, [.ref a4, .int v4, .int v5])), (a4, .inl (cT 2, 4096, .inr (.inl f3)))] (fun A => va_Qi (fun (r : Int32) (_ : Unit) => r = out.1) (fun _ t => xB D xcl cT A [(a0, .inr (4, [.ref a1, .ref a3, .int out.2.2.2.2.1, .int out.2.2.2.2.2])), (a1, .inr (1, [.ref a2, .int v1, .int v2])), (a2, .inl (cT 0, 4096, .inl f0)), (a3, .inr (2, [.ref a4, .int out.2.2.1, .int out.2.2.2.1])), (a4, .inl (cT 2, 4096, .inr (.inl out.2.1)))] t) A) := by
  refine Met.ofW (cc := prog_7_method_12_code) (maxL := 5) (ret := (some .boolean)) (by decide) rfl ?_
  intro p e s m args below meth c s₁ B hml hv
  obtain ⟨rfl, hsz, hZ, hP, hK, hD0⟩ := hv
  have hx := B.exec
  have hb := B.bytes
  have hr := B.returns
  have hts := atoms_spec (ws := wyD_number) B.pre
  have htx := fun w h => hts w (List.mem_cons_of_mem _ h)
  have hown : s.vm.findClass "ValueBench$Reader" = some m.cls := findClass_of_methodNamed B.named
  have hlocks := B.notSynchronized
  subst hsz
  have hD := hD0.self (sz := s.heap.size)
  generalize hAe : va_A [(a0, .inr (4, [.ref a1, .ref a3, .int v6, .int v7])), (a1, .inr (1, [.ref a2, .int v1, .int v2])), (a2, .inl (cT 0, 4096, .inl f0)), (a3, .inr (2, [.ref a4, .int v4, .int v5])), (a4, .inl (cT 2, 4096, .inr (.inl f3)))] s.heap.size = A at hD hZ ⊢
  have hA : ∀ q : Nat, s.heap.size ≤ q → A q := fun q h => by rw [← hAe]; exact Or.inr h
  have hS : va_S A s.heap s.heap [] := va_S.rf
  have hP : va_P D xcl [(a0, .inr (4, [.ref a1, .ref a3, .int v6, .int v7])), (a1, .inr (1, [.ref a2, .int v1, .int v2])), (a2, .inl (cT 0, 4096, .inl f0)), (a3, .inr (2, [.ref a4, .int v4, .int v5])), (a4, .inl (cT 2, 4096, .inr (.inl f3)))] s.heap := hP
  have hl := lv_entry ([.ref a0]) (n := 5) (Nat.le_of_ble_eq_true rfl)
  rw [lg_entry_eq]
  generalize (lg_sl ([.ref a0]) ++ List.replicate (5 - (lg_sl ([.ref a0])).length) Slot.unset).toArray = ls at hl ⊢
  have hl : lv_has ls 5 [(0, .ref a0)] := hl
  unfold fD_number at hf
  refine lv_aload_n hx hb dD_number_0 rfl (lv_at hl 0 rfl) ?_
  refine va_get (D := D) (ci := 4) (v := .int v6) (C := "ValueBench$Reader") (T := TD) (N := 4) hx hb htx inD hown hK hP 0 rfl rfl 2 (by decide) (htx _ kw_2_31) (fun _ h9 => h9) rfl dD_number_1 ?_
  refine lv_istore_n (lv' := [(1, .int v6), (0, .ref a0)]) hx hb dD_number_4 rfl hl (by decide) rfl (fun ls hl => ?_)
  refine lv_aload_n hx hb dD_number_5 rfl (lv_at hl 1 rfl) ?_
  refine va_get (D := D) (ci := 4) (v := .ref a1) (C := "ValueBench$Reader") (T := TD) (N := 4) hx hb htx inD hown hK hP 0 rfl rfl 0 (by decide) (htx _ kw_2_29) (fun _ h9 => h9) rfl dD_number_6 ?_
  refine lv_aload_n hx hb dD_number_9 rfl (lv_at hl 1 rfl) ?_
  refine va_get (D := D) (ci := 4) (v := .int v6) (C := "ValueBench$Reader") (T := TD) (N := 4) hx hb htx inD hown hK hP 0 rfl rfl 2 (by decide) (htx _ kw_2_31) (fun _ h9 => h9) rfl dD_number_10 ?_
  obtain ⟨o1, hq2, hf⟩ := xbind hf
  obtain ⟨hPc, hDc, hFc⟩ := xcut (wc := [(a1, .inr (1, [.ref a2, .int v1, .int v2])), (a2, .inl (cT 0, 4096, .inl f0))]) hP hD hS hA [1, 2] rfl rfl (by decide)
  refine va_calli (va_runV (C := "ValueBench$Text") (As := [.int v6]) (rest := []) ⟨hx, hb, hml, hown, htx⟩ (gT_at l hl9 D cT aK aV s.heap.size n a1 a2 v6 f0 v1 v2 o1 hq2) ⟨callB_of 1 htx (xw_goodC kw_2_58) rfl rfl rfl (htx _ kw_1_2) (htx _ kw_2_55) ⟨by decide, by decide, by decide +kernel⟩ ⟨Nat.le_of_ble_eq_true rfl, Nat.le_of_ble_eq_true rfl⟩, (htx _ kw_2_56), (htx _ kw_2_57)⟩ ⟨xPre_blind, va_recv hK hP (ci := 1) rfl (q0 := 1) rfl, (fun U hU hW => ⟨rfl, xPre_of hZ hS hFc hPc hDc hK U hU hW⟩)⟩ rfl rfl hl.1 rfl (lv_room (Nat.le_of_ble_eq_true rfl)) dD_number_13 ⟨Nat.le_of_ble_eq_true rfl, Nat.le_of_ble_eq_true rfl⟩) hS (fun q _ h => hFc q h) hFc (fun r3 u9 t H1 locs ht hvm hr9 hB hz1 hk1 hS => ?_)
  obtain ⟨hP1, hK1, hD1⟩ := hB
  rw [ht] at hP1
  obtain ⟨hP, hD⟩ := xjoin (W := [(a0, .inr (4, [.ref a1, .ref a3, .int v6, .int v7])), (a3, .inr (2, [.ref a4, .int v4, .int v5])), (a4, .inl (cT 2, 4096, .inr (.inl f3))), (a1, .inr (1, [.ref a2, .int v1, .int v2])), (a2, .inl (cT 0, 4096, .inl f0))]) hP hD [1, 2] [0, 3, 4] 3 rfl rfl (by decide) (by decide) hk1 hFc hP1 hD1
  generalize H1 = H at hP hS ⊢
  rw [hr9]
  refine W.eq (g2 := F0 m 16 ls [.int o1]) rfl ?_
  refine lv_bipush (v := 45) hx hb dD_number_16 (by decide) ?_
  refine lv_icmp_ne (tgt := 25) hx hb dD_number_18 (by decide) (fun hc => ?_) (fun hc => ?_)
  · rw [if_neg hc] at hf
    refine lv_iconst (v := 0) hx hb dD_number_25 (by decide) ?_
    refine lv_istore_n (lv' := [(2, .int 0), (1, .int v6), (0, .ref a0)]) hx hb dD_number_26 rfl hl (by decide) rfl (fun ls hl => ?_)
    refine lv_iload_n hx hb dD_number_27 rfl (lv_at hl 0 rfl) ?_
    refine lv_if_eq (tgt := 41) hx hb dD_number_28 (by decide) (fun _ => ?_) (fun h => ((by revert h; decide : False)).elim)
    refine lv_aload_n hx hb dD_number_41 rfl (lv_at hl 2 rfl) ?_
    refine va_get (D := D) (ci := 4) (v := .ref a1) (C := "ValueBench$Reader") (T := TD) (N := 4) hx hb htx inD hown hK hP 0 rfl rfl 0 (by decide) (htx _ kw_2_29) (fun _ h9 => h9) rfl dD_number_42 ?_
    refine lv_aload_n hx hb dD_number_45 rfl (lv_at hl 2 rfl) ?_
    refine va_get (D := D) (ci := 4) (v := .int v6) (C := "ValueBench$Reader") (T := TD) (N := 4) hx hb htx inD hown hK hP 0 rfl rfl 2 (by decide) (htx _ kw_2_31) (fun _ h9 => h9) rfl dD_number_46 ?_
    obtain ⟨o4, hq5, hf⟩ := xbind hf
    obtain ⟨hPc, hDc, hFc⟩ := xcut (wc := [(a1, .inr (1, [.ref a2, .int v1, .int v2])), (a2, .inl (cT 0, 4096, .inl f0))]) hP hD hS hA [3, 4] rfl rfl (by decide)
    refine va_calli (va_runV (C := "ValueBench$Text") (As := [.int v6]) (rest := []) ⟨hx, hb, hml, hown, htx⟩ (gT_at l hl9 D cT aK aV H.size n a1 a2 v6 f0 v1 v2 o4 hq5) ⟨callB_of 1 htx (xw_goodC kw_2_58) rfl rfl rfl (htx _ kw_1_2) (htx _ kw_2_55) ⟨by decide, by decide, by decide +kernel⟩ ⟨Nat.le_of_ble_eq_true rfl, Nat.le_of_ble_eq_true rfl⟩, (htx _ kw_2_56), (htx _ kw_2_57)⟩ ⟨xPre_blind, va_recv hK hP (ci := 1) rfl (q0 := 3) rfl, (fun U hU hW => ⟨rfl, xPre_of hZ hS hFc hPc hDc hK U hU hW⟩)⟩ rfl rfl hl.1 rfl (lv_room (Nat.le_of_ble_eq_true rfl)) dD_number_49 ⟨Nat.le_of_ble_eq_true rfl, Nat.le_of_ble_eq_true rfl⟩) hS (fun q _ h => hFc q h) hFc (fun r6 u9 t H1 locs ht hvm hr9 hB hz1 hk1 hS => ?_)
    obtain ⟨hP1, hK1, hD1⟩ := hB
    rw [ht] at hP1
    obtain ⟨hP, hD⟩ := xjoin (W := [(a0, .inr (4, [.ref a1, .ref a3, .int v6, .int v7])), (a3, .inr (2, [.ref a4, .int v4, .int v5])), (a4, .inl (cT 2, 4096, .inr (.inl f3))), (a1, .inr (1, [.ref a2, .int v1, .int v2])), (a2, .inl (cT 0, 4096, .inl f0))]) hP hD [3, 4] [0, 1, 2] 3 rfl rfl (by decide) (by decide) hk1 hFc hP1 hD1
    generalize H1 = H at hP hS ⊢
    rw [hr9]
    refine W.eq (g2 := F0 m 52 ls [.int o4]) rfl ?_
    obtain ⟨o7, hq8, hf⟩ := xbind hf
    obtain ⟨hPc, hDc, hFc⟩ := xcut (wc := []) hP hD hS hA [] rfl rfl (by decide)
    refine va_calli (va_runS (As := [.int o4]) (rest := []) ⟨hx, hb, hml, hown, htx⟩ (gD_isDigit l hl9 D cT aK aV H.size n o4 o7 hq8) ⟨callB_of 1 htx (xw_goodC kw_2_217) rfl rfl rfl (htx _ kw_1_16) (htx _ kw_2_215) ⟨by decide, by decide, by decide +kernel⟩ ⟨Nat.le_of_ble_eq_true rfl, Nat.le_of_ble_eq_true rfl⟩, htx _ kw_2_216⟩ ⟨xPre_blind, (fun U hU hW => ⟨rfl, xPre_of hZ hS hFc hPc hDc hK U hU hW⟩)⟩ rfl rfl hl.1 rfl (lv_room (Nat.le_of_ble_eq_true rfl)) dD_number_52 ⟨Nat.le_of_ble_eq_true rfl, Nat.le_of_ble_eq_true rfl⟩) hS (fun q _ h => hFc q h) hFc (fun r9 u9 t H1 locs ht hvm hr9 hB hz1 hk1 hS => ?_)
    obtain ⟨hP1, hK1, hD1⟩ := hB
    rw [ht] at hP1
    obtain ⟨hP, hD⟩ := xjoin (W := [(a0, .inr (4, [.ref a1, .ref a3, .int v6, .int v7])), (a3, .inr (2, [.ref a4, .int v4, .int v5])), (a4, .inl (cT 2, 4096, .inr (.inl f3))), (a1, .inr (1, [.ref a2, .int v1, .int v2])), (a2, .inl (cT 0, 4096, .inl f0))]) hP hD [] [0, 1, 2, 3, 4] 5 rfl rfl (by decide) (by decide) hk1 hFc hP1 hD1
    generalize H1 = H at hP hS ⊢
    rw [hr9]
    refine W.eq (g2 := F0 m 55 ls [.int o7]) rfl ?_
    refine lv_if_ne (tgt := 67) hx hb dD_number_55 (by decide) (fun hc => ?_) (fun hc => ?_)
    · rw [if_neg hc] at hf
      refine lv_aload_n hx hb dD_number_67 rfl (lv_at hl 2 rfl) ?_
      obtain ⟨o10, hq11, hf⟩ := xbind hf
      obtain ⟨hPc, hDc, hFc⟩ := xcut (wc := [(a0, .inr (4, [.ref a1, .ref a3, .int v6, .int v7])), (a1, .inr (1, [.ref a2, .int v1, .int v2])), (a2, .inl (cT 0, 4096, .inl f0)), (a3, .inr (2, [.ref a4, .int v4, .int v5])), (a4, .inl (cT 2, 4096, .inr (.inl f3)))]) hP hD hS hA [0, 3, 4, 1, 2] rfl rfl (by decide)
      refine va_calll (va_runV (C := "ValueBench$Reader") (As := []) (rest := []) ⟨hx, hb, hml, hown, htx⟩ (gD_digits l hl9 D cT aK aV H.size n a0 a1 a2 a3 a4 f0 v1 v2 f3 v4 v5 v6 v7 o10 hq11) ⟨callB_of 0 htx (xw_goodC kw_2_221) rfl rfl rfl (htx _ kw_1_16) (htx _ kw_2_218) ⟨by decide, by decide, by decide +kernel⟩ ⟨Nat.le_of_ble_eq_true rfl, Nat.le_of_ble_eq_true rfl⟩, (htx _ kw_2_220), (htx _ kp_D_digits)⟩ ⟨xPre_blind, va_recv hK hP (ci := 4) rfl (q0 := 0) rfl, (fun U hU hW => ⟨rfl, xPre_of hZ hS hFc hPc hDc hK U hU hW⟩)⟩ rfl rfl hl.1 rfl (lv_room (Nat.le_of_ble_eq_true rfl)) dD_number_68 ⟨Nat.le_of_ble_eq_true rfl, Nat.le_of_ble_eq_true rfl⟩) hS (fun q _ h => hFc q h) hFc (fun r12 u9 t H1 locs ht hvm hr9 hB hz1 hk1 hS => ?_)
      obtain ⟨hP1, hK1, hD1⟩ := hB
      rw [ht] at hP1
      obtain ⟨hP, hD⟩ := xjoin (W := [(a0, .inr (4, [.ref a1, .ref a3, .int o10.2, .int v7])), (a1, .inr (1, [.ref a2, .int v1, .int v2])), (a2, .inl (cT 0, 4096, .inl f0)), (a3, .inr (2, [.ref a4, .int v4, .int v5])), (a4, .inl (cT 2, 4096, .inr (.inl f3)))]) hP hD [0, 3, 4, 1, 2] [] 0 rfl rfl (by decide) (by decide) hk1 hFc hP1 hD1
      generalize H1 = H at hP hS ⊢
      rw [hr9]
      refine W.eq (g2 := F0 m 71 ls [.long o10.1]) rfl ?_
      refine lv_lstore_n (lv' := [(3, .long o10.1), (2, .int 0), (1, .int v6), (0, .ref a0)]) hx hb dD_number_71 rfl hl (by decide) rfl (fun ls hl => ?_)
      refine lv_lload_n hx hb dD_number_72 rfl (lv_at hl 0 rfl) ?_
      refine lv_ldc2 hx hb hown (htx _ kw_2_222) dD_number_73 ?_
      refine W.lcmp hx hb dD_number_76 ?_
      refine lv_if_le (tgt := 86) hx hb dD_number_77 (by decide) (fun hc => ?_) (fun hc => ?_)
      · rw [if_pos hc] at hf
        refine lv_aload_n hx hb dD_number_86 rfl (lv_at hl 3 rfl) ?_
        refine va_get (D := D) (ci := 4) (v := .ref a3) (C := "ValueBench$Reader") (T := TD) (N := 4) hx hb htx inD hown hK hP 0 rfl rfl 1 (by decide) (htx _ kw_2_30) (fun _ h9 => h9) rfl dD_number_87 ?_
        refine lv_iload_n hx hb dD_number_90 rfl (lv_at hl 1 rfl) ?_
        refine lv_if_eq (tgt := 99) hx hb dD_number_91 (by decide) (fun _ => ?_) (fun h => ((by revert h; decide : False)).elim)
        refine lv_lload_n hx hb dD_number_99 rfl (lv_at hl 0 rfl) ?_
        obtain ⟨o13, hq14, hf⟩ := xbind hf
        obtain ⟨hPc, hDc, hFc⟩ := xcut (wc := [(a3, .inr (2, [.ref a4, .int v4, .int v5])), (a4, .inl (cT 2, 4096, .inr (.inl f3)))]) hP hD hS hA [3, 4] rfl rfl (by decide)
        refine va_callv (va_runV (C := "ValueBench$Row") (As := [.long o10.1]) (rest := []) ⟨hx, hb, hml, hown, htx⟩ (gR_putNumber l hl9 D cT aK aV H.size n a3 a4 o10.1 f3 v4 v5 o13 hq14) ⟨callB_of 1 htx (xw_goodC kw_2_228) rfl rfl rfl (htx _ kw_1_4) (htx _ kw_2_225) ⟨by decide, by decide, by decide +kernel⟩ ⟨Nat.le_of_ble_eq_true rfl, Nat.le_of_ble_eq_true rfl⟩, (htx _ kw_2_226), (htx _ kw_2_227)⟩ ⟨xPre_blind, va_recv hK hP (ci := 2) rfl (q0 := 3) rfl, (fun U hU hW => ⟨rfl, xPre_of hZ hS hFc hPc hDc hK U hU hW⟩)⟩ rfl rfl hl.1 rfl (lv_room (Nat.le_of_ble_eq_true rfl)) dD_number_100 ⟨Nat.le_of_ble_eq_true rfl, Nat.le_of_ble_eq_true rfl⟩) hS (fun q _ h => hFc q h) hFc (fun u9 t H1 locs ht hvm hr9 hB hz1 hk1 hS => ?_)
        obtain ⟨hP1, hK1, hD1⟩ := hB
        rw [ht] at hP1
        obtain ⟨hP, hD⟩ := xjoin (W := [(a0, .inr (4, [.ref a1, .ref a3, .int o10.2, .int v7])), (a1, .inr (1, [.ref a2, .int v1, .int v2])), (a2, .inl (cT 0, 4096, .inl f0)), (a3, .inr (2, [.ref a4, .int o13.2.1, .int o13.2.2])), (a4, .inl (cT 2, 4096, .inr (.inl o13.1)))]) hP hD [3, 4] [0, 1, 2] 3 rfl rfl (by decide) (by decide) hk1 hFc hP1 hD1
        generalize H1 = H at hP hS ⊢
        refine lv_iconst (v := 1) hx hb dD_number_103 (by decide) ?_
        obtain rfl := Option.some.inj hf
        obtain ⟨hP9, hD9⟩ := xsub (wc := [(a0, .inr (4, [.ref a1, .ref a3, .int o10.2, .int v7])), (a1, .inr (1, [.ref a2, .int v1, .int v2])), (a2, .inl (cT 0, 4096, .inl f0)), (a3, .inr (2, [.ref a4, .int o13.2.1, .int o13.2.2])), (a4, .inl (cT 2, 4096, .inr (.inl o13.1)))]) hP hD [0, 1, 2, 3, 4] rfl rfl (by decide)
        exact W.zret (v := (1 : Int32)) hx hb hr rfl (fun t ht hW => ⟨⟨(1 : Int32), (), rfl, rfl, by rw [ht]; exact hP9, va_K.moved hW.alike hK, hD9⟩, hS.F ht⟩) hS.2.2 dD_number_104
      · rw [if_neg hc] at hf
        refine lv_aload_n hx hb dD_number_80 rfl (lv_at hl 3 rfl) ?_
        refine lv_iload_n hx hb dD_number_81 rfl (lv_at hl 2 rfl) ?_
        obtain ⟨o13, hq14, hf⟩ := xbind hf
        obtain ⟨hPc, hDc, hFc⟩ := xcut (wc := [(a0, .inr (4, [.ref a1, .ref a3, .int o10.2, .int v7])), (a1, .inr (1, [.ref a2, .int v1, .int v2])), (a2, .inl (cT 0, 4096, .inl f0)), (a3, .inr (2, [.ref a4, .int v4, .int v5])), (a4, .inl (cT 2, 4096, .inr (.inl f3)))]) hP hD hS hA [0, 1, 2, 3, 4] rfl rfl (by decide)
        refine va_calli (va_runV (C := "ValueBench$Reader") (As := [.int v6]) (rest := []) ⟨hx, hb, hml, hown, htx⟩ (gD_broken l hl9 D cT aK aV H.size n a0 a1 a2 a3 a4 v6 f0 v1 v2 f3 v4 v5 o10.2 v7 o13 hq14) ⟨callB_of 1 htx (xw_goodC kw_2_122) rfl rfl rfl (htx _ kw_1_16) (htx _ kw_2_119) ⟨by decide, by decide, by decide +kernel⟩ ⟨Nat.le_of_ble_eq_true rfl, Nat.le_of_ble_eq_true rfl⟩, (htx _ kw_2_121), (htx _ kp_D_broken)⟩ ⟨xPre_blind, va_recv hK hP (ci := 4) rfl (q0 := 0) rfl, (fun U hU hW => ⟨rfl, xPre_of hZ hS hFc hPc hDc hK U hU hW⟩)⟩ rfl rfl hl.1 rfl (lv_room (Nat.le_of_ble_eq_true rfl)) dD_number_82 ⟨Nat.le_of_ble_eq_true rfl, Nat.le_of_ble_eq_true rfl⟩) hS (fun q _ h => hFc q h) hFc (fun r15 u9 t H1 locs ht hvm hr9 hB hz1 hk1 hS => ?_)
        obtain ⟨hP1, hK1, hD1⟩ := hB
        rw [ht] at hP1
        obtain ⟨hP, hD⟩ := xjoin (W := [(a0, .inr (4, [.ref a1, .ref a3, .int o10.2, .int o13.2])), (a1, .inr (1, [.ref a2, .int v1, .int v2])), (a2, .inl (cT 0, 4096, .inl f0)), (a3, .inr (2, [.ref a4, .int v4, .int v5])), (a4, .inl (cT 2, 4096, .inr (.inl f3)))]) hP hD [0, 1, 2, 3, 4] [] 0 rfl rfl (by decide) (by decide) hk1 hFc hP1 hD1
        generalize H1 = H at hP hS ⊢
        rw [hr9]
        refine W.eq (g2 := F0 m 85 ls [.int o13.1]) rfl ?_
        obtain ⟨hg16, hf⟩ := xifn hf
        obtain rfl := Option.some.inj hf
        obtain ⟨hP9, hD9⟩ := xsub (wc := [(a0, .inr (4, [.ref a1, .ref a3, .int o10.2, .int o13.2])), (a1, .inr (1, [.ref a2, .int v1, .int v2])), (a2, .inl (cT 0, 4096, .inl f0)), (a3, .inr (2, [.ref a4, .int v4, .int v5])), (a4, .inl (cT 2, 4096, .inr (.inl f3)))]) hP hD [0, 1, 2, 3, 4] rfl rfl (by decide)
        exact W.zret (v := o13.1) hx hb hr (xzb hg16) (fun t ht hW => ⟨⟨o13.1, (), rfl, rfl, by rw [ht]; exact hP9, va_K.moved hW.alike hK, hD9⟩, hS.F ht⟩) hS.2.2 dD_number_85
    · rw [if_pos hc] at hf
      refine lv_aload_n hx hb dD_number_58 rfl (lv_at hl 2 rfl) ?_
      refine lv_aload_n hx hb dD_number_59 rfl (lv_at hl 2 rfl) ?_
      refine va_get (D := D) (ci := 4) (v := .int v6) (C := "ValueBench$Reader") (T := TD) (N := 4) hx hb htx inD hown hK hP 0 rfl rfl 2 (by decide) (htx _ kw_2_31) (fun _ h9 => h9) rfl dD_number_60 ?_
      obtain ⟨o10, hq11, hf⟩ := xbind hf
      obtain ⟨hPc, hDc, hFc⟩ := xcut (wc := [(a0, .inr (4, [.ref a1, .ref a3, .int v6, .int v7])), (a1, .inr (1, [.ref a2, .int v1, .int v2])), (a2, .inl (cT 0, 4096, .inl f0)), (a3, .inr (2, [.ref a4, .int v4, .int v5])), (a4, .inl (cT 2, 4096, .inr (.inl f3)))]) hP hD hS hA [0, 3, 4, 1, 2] rfl rfl (by decide)
      refine va_calli (va_runV (C := "ValueBench$Reader") (As := [.int v6]) (rest := []) ⟨hx, hb, hml, hown, htx⟩ (gD_broken l hl9 D cT aK aV H.size n a0 a1 a2 a3 a4 v6 f0 v1 v2 f3 v4 v5 v6 v7 o10 hq11) ⟨callB_of 1 htx (xw_goodC kw_2_122) rfl rfl rfl (htx _ kw_1_16) (htx _ kw_2_119) ⟨by decide, by decide, by decide +kernel⟩ ⟨Nat.le_of_ble_eq_true rfl, Nat.le_of_ble_eq_true rfl⟩, (htx _ kw_2_121), (htx _ kp_D_broken)⟩ ⟨xPre_blind, va_recv hK hP (ci := 4) rfl (q0 := 0) rfl, (fun U hU hW => ⟨rfl, xPre_of hZ hS hFc hPc hDc hK U hU hW⟩)⟩ rfl rfl hl.1 rfl (lv_room (Nat.le_of_ble_eq_true rfl)) dD_number_63 ⟨Nat.le_of_ble_eq_true rfl, Nat.le_of_ble_eq_true rfl⟩) hS (fun q _ h => hFc q h) hFc (fun r12 u9 t H1 locs ht hvm hr9 hB hz1 hk1 hS => ?_)
      obtain ⟨hP1, hK1, hD1⟩ := hB
      rw [ht] at hP1
      obtain ⟨hP, hD⟩ := xjoin (W := [(a0, .inr (4, [.ref a1, .ref a3, .int v6, .int o10.2])), (a1, .inr (1, [.ref a2, .int v1, .int v2])), (a2, .inl (cT 0, 4096, .inl f0)), (a3, .inr (2, [.ref a4, .int v4, .int v5])), (a4, .inl (cT 2, 4096, .inr (.inl f3)))]) hP hD [0, 3, 4, 1, 2] [] 0 rfl rfl (by decide) (by decide) hk1 hFc hP1 hD1
      generalize H1 = H at hP hS ⊢
      rw [hr9]
      refine W.eq (g2 := F0 m 66 ls [.int o10.1]) rfl ?_
      obtain ⟨hg13, hf⟩ := xifn hf
      obtain rfl := Option.some.inj hf
      obtain ⟨hP9, hD9⟩ := xsub (wc := [(a0, .inr (4, [.ref a1, .ref a3, .int v6, .int o10.2])), (a1, .inr (1, [.ref a2, .int v1, .int v2])), (a2, .inl (cT 0, 4096, .inl f0)), (a3, .inr (2, [.ref a4, .int v4, .int v5])), (a4, .inl (cT 2, 4096, .inr (.inl f3)))]) hP hD [0, 1, 2, 3, 4] rfl rfl (by decide)
      exact W.zret (v := o10.1) hx hb hr (xzb hg13) (fun t ht hW => ⟨⟨o10.1, (), rfl, rfl, by rw [ht]; exact hP9, va_K.moved hW.alike hK, hD9⟩, hS.F ht⟩) hS.2.2 dD_number_66
  · rw [if_pos hc] at hf
    refine lv_iconst (v := 1) hx hb dD_number_21 (by decide) ?_
    refine lv_goto (tgt := 26) hx hb dD_number_22 (by decide) ?_
    refine lv_istore_n (lv' := [(2, .int 1), (1, .int v6), (0, .ref a0)]) hx hb dD_number_26 rfl hl (by decide) rfl (fun ls hl => ?_)
    refine lv_iload_n hx hb dD_number_27 rfl (lv_at hl 0 rfl) ?_
    refine lv_if_eq (tgt := 41) hx hb dD_number_28 (by decide) (fun h => ((by revert h; decide : False)).elim) (fun _ => ?_)
    refine lv_aload_n hx hb dD_number_31 rfl (lv_at hl 2 rfl) ?_
    refine lv_dup hx hb dD_number_32 rfl ?_
    refine va_get (D := D) (ci := 4) (v := .int v6) (C := "ValueBench$Reader") (T := TD) (N := 4) hx hb htx inD hown hK hP 0 rfl rfl 2 (by decide) (htx _ kw_2_31) (fun _ h9 => h9) rfl dD_number_33 ?_
    refine lv_iconst (v := 1) hx hb dD_number_36 (by decide) ?_
    refine lv_iadd hx hb dD_number_37 ?_
    refine va_put (D := D) (ci := 4) (v := .int (v6 + (1 : Int32))) (ty := .int) (C := "ValueBench$Reader") (T := TD) (N := 4) hx hb htx inD tyD tyD_ok nmD hown hK hP hD hS 0 rfl rfl 2 (by decide) (htx _ kw_2_31) (fun _ h9 => h9) rfl (by decide +kernel) rfl rfl (Nat.le_of_ble_eq_true rfl) dD_number_38 (fun H locs hP hD hS => ?_)
    obtain ⟨hP, hD⟩ : xPD D xcl A [(a0, .inr (4, [.ref a1, .ref a3, .int (v6 + (1 : Int32)), .int v7])), (a3, .inr (2, [.ref a4, .int v4, .int v5])), (a4, .inl (cT 2, 4096, .inr (.inl f3))), (a1, .inr (1, [.ref a2, .int v1, .int v2])), (a2, .inl (cT 0, 4096, .inl f0))] H := ⟨hP, hD⟩
    refine lv_aload_n hx hb dD_number_41 rfl (lv_at hl 2 rfl) ?_
    refine va_get (D := D) (ci := 4) (v := .ref a1) (C := "ValueBench$Reader") (T := TD) (N := 4) hx hb htx inD hown hK hP 0 rfl rfl 0 (by decide) (htx _ kw_2_29) (fun _ h9 => h9) rfl dD_number_42 ?_
    refine lv_aload_n hx hb dD_number_45 rfl (lv_at hl 2 rfl) ?_
    refine va_get (D := D) (ci := 4) (v := .int (v6 + (1 : Int32))) (C := "ValueBench$Reader") (T := TD) (N := 4) hx hb htx inD hown hK hP 0 rfl rfl 2 (by decide) (htx _ kw_2_31) (fun _ h9 => h9) rfl dD_number_46 ?_
    obtain ⟨o4, hq5, hf⟩ := xbind hf
    obtain ⟨hPc, hDc, hFc⟩ := xcut (wc := [(a1, .inr (1, [.ref a2, .int v1, .int v2])), (a2, .inl (cT 0, 4096, .inl f0))]) hP hD hS hA [3, 4] rfl rfl (by decide)
    refine va_calli (va_runV (C := "ValueBench$Text") (As := [.int (v6 + (1 : Int32))]) (rest := []) ⟨hx, hb, hml, hown, htx⟩ (gT_at l hl9 D cT aK aV H.size n a1 a2 (v6 + (1 : Int32)) f0 v1 v2 o4 hq5) ⟨callB_of 1 htx (xw_goodC kw_2_58) rfl rfl rfl (htx _ kw_1_2) (htx _ kw_2_55) ⟨by decide, by decide, by decide +kernel⟩ ⟨Nat.le_of_ble_eq_true rfl, Nat.le_of_ble_eq_true rfl⟩, (htx _ kw_2_56), (htx _ kw_2_57)⟩ ⟨xPre_blind, va_recv hK hP (ci := 1) rfl (q0 := 3) rfl, (fun U hU hW => ⟨rfl, xPre_of hZ hS hFc hPc hDc hK U hU hW⟩)⟩ rfl rfl hl.1 rfl (lv_room (Nat.le_of_ble_eq_true rfl)) dD_number_49 ⟨Nat.le_of_ble_eq_true rfl, Nat.le_of_ble_eq_true rfl⟩) hS (fun q _ h => hFc q h) hFc (fun r6 u9 t H1 locs ht hvm hr9 hB hz1 hk1 hS => ?_)
    obtain ⟨hP1, hK1, hD1⟩ := hB
    rw [ht] at hP1
    obtain ⟨hP, hD⟩ := xjoin (W := [(a0, .inr (4, [.ref a1, .ref a3, .int (v6 + (1 : Int32)), .int v7])), (a3, .inr (2, [.ref a4, .int v4, .int v5])), (a4, .inl (cT 2, 4096, .inr (.inl f3))), (a1, .inr (1, [.ref a2, .int v1, .int v2])), (a2, .inl (cT 0, 4096, .inl f0))]) hP hD [3, 4] [0, 1, 2] 3 rfl rfl (by decide) (by decide) hk1 hFc hP1 hD1
    generalize H1 = H at hP hS ⊢
    rw [hr9]
    refine W.eq (g2 := F0 m 52 ls [.int o4]) rfl ?_
    obtain ⟨o7, hq8, hf⟩ := xbind hf
    obtain ⟨hPc, hDc, hFc⟩ := xcut (wc := []) hP hD hS hA [] rfl rfl (by decide)
    refine va_calli (va_runS (As := [.int o4]) (rest := []) ⟨hx, hb, hml, hown, htx⟩ (gD_isDigit l hl9 D cT aK aV H.size n o4 o7 hq8) ⟨callB_of 1 htx (xw_goodC kw_2_217) rfl rfl rfl (htx _ kw_1_16) (htx _ kw_2_215) ⟨by decide, by decide, by decide +kernel⟩ ⟨Nat.le_of_ble_eq_true rfl, Nat.le_of_ble_eq_true rfl⟩, htx _ kw_2_216⟩ ⟨xPre_blind, (fun U hU hW => ⟨rfl, xPre_of hZ hS hFc hPc hDc hK U hU hW⟩)⟩ rfl rfl hl.1 rfl (lv_room (Nat.le_of_ble_eq_true rfl)) dD_number_52 ⟨Nat.le_of_ble_eq_true rfl, Nat.le_of_ble_eq_true rfl⟩) hS (fun q _ h => hFc q h) hFc (fun r9 u9 t H1 locs ht hvm hr9 hB hz1 hk1 hS => ?_)
    obtain ⟨hP1, hK1, hD1⟩ := hB
    rw [ht] at hP1
    obtain ⟨hP, hD⟩ := xjoin (W := [(a0, .inr (4, [.ref a1, .ref a3, .int (v6 + (1 : Int32)), .int v7])), (a3, .inr (2, [.ref a4, .int v4, .int v5])), (a4, .inl (cT 2, 4096, .inr (.inl f3))), (a1, .inr (1, [.ref a2, .int v1, .int v2])), (a2, .inl (cT 0, 4096, .inl f0))]) hP hD [] [0, 1, 2, 3, 4] 5 rfl rfl (by decide) (by decide) hk1 hFc hP1 hD1
    generalize H1 = H at hP hS ⊢
    rw [hr9]
    refine W.eq (g2 := F0 m 55 ls [.int o7]) rfl ?_
    refine lv_if_ne (tgt := 67) hx hb dD_number_55 (by decide) (fun hc => ?_) (fun hc => ?_)
    · rw [if_neg hc] at hf
      refine lv_aload_n hx hb dD_number_67 rfl (lv_at hl 2 rfl) ?_
      obtain ⟨o10, hq11, hf⟩ := xbind hf
      obtain ⟨hPc, hDc, hFc⟩ := xcut (wc := [(a0, .inr (4, [.ref a1, .ref a3, .int (v6 + (1 : Int32)), .int v7])), (a1, .inr (1, [.ref a2, .int v1, .int v2])), (a2, .inl (cT 0, 4096, .inl f0)), (a3, .inr (2, [.ref a4, .int v4, .int v5])), (a4, .inl (cT 2, 4096, .inr (.inl f3)))]) hP hD hS hA [0, 3, 4, 1, 2] rfl rfl (by decide)
      refine va_calll (va_runV (C := "ValueBench$Reader") (As := []) (rest := []) ⟨hx, hb, hml, hown, htx⟩ (gD_digits l hl9 D cT aK aV H.size n a0 a1 a2 a3 a4 f0 v1 v2 f3 v4 v5 (v6 + (1 : Int32)) v7 o10 hq11) ⟨callB_of 0 htx (xw_goodC kw_2_221) rfl rfl rfl (htx _ kw_1_16) (htx _ kw_2_218) ⟨by decide, by decide, by decide +kernel⟩ ⟨Nat.le_of_ble_eq_true rfl, Nat.le_of_ble_eq_true rfl⟩, (htx _ kw_2_220), (htx _ kp_D_digits)⟩ ⟨xPre_blind, va_recv hK hP (ci := 4) rfl (q0 := 0) rfl, (fun U hU hW => ⟨rfl, xPre_of hZ hS hFc hPc hDc hK U hU hW⟩)⟩ rfl rfl hl.1 rfl (lv_room (Nat.le_of_ble_eq_true rfl)) dD_number_68 ⟨Nat.le_of_ble_eq_true rfl, Nat.le_of_ble_eq_true rfl⟩) hS (fun q _ h => hFc q h) hFc (fun r12 u9 t H1 locs ht hvm hr9 hB hz1 hk1 hS => ?_)
      obtain ⟨hP1, hK1, hD1⟩ := hB
      rw [ht] at hP1
      obtain ⟨hP, hD⟩ := xjoin (W := [(a0, .inr (4, [.ref a1, .ref a3, .int o10.2, .int v7])), (a1, .inr (1, [.ref a2, .int v1, .int v2])), (a2, .inl (cT 0, 4096, .inl f0)), (a3, .inr (2, [.ref a4, .int v4, .int v5])), (a4, .inl (cT 2, 4096, .inr (.inl f3)))]) hP hD [0, 3, 4, 1, 2] [] 0 rfl rfl (by decide) (by decide) hk1 hFc hP1 hD1
      generalize H1 = H at hP hS ⊢
      rw [hr9]
      refine W.eq (g2 := F0 m 71 ls [.long o10.1]) rfl ?_
      refine lv_lstore_n (lv' := [(3, .long o10.1), (2, .int 1), (1, .int v6), (0, .ref a0)]) hx hb dD_number_71 rfl hl (by decide) rfl (fun ls hl => ?_)
      refine lv_lload_n hx hb dD_number_72 rfl (lv_at hl 0 rfl) ?_
      refine lv_ldc2 hx hb hown (htx _ kw_2_222) dD_number_73 ?_
      refine W.lcmp hx hb dD_number_76 ?_
      refine lv_if_le (tgt := 86) hx hb dD_number_77 (by decide) (fun hc => ?_) (fun hc => ?_)
      · rw [if_pos hc] at hf
        refine lv_aload_n hx hb dD_number_86 rfl (lv_at hl 3 rfl) ?_
        refine va_get (D := D) (ci := 4) (v := .ref a3) (C := "ValueBench$Reader") (T := TD) (N := 4) hx hb htx inD hown hK hP 0 rfl rfl 1 (by decide) (htx _ kw_2_30) (fun _ h9 => h9) rfl dD_number_87 ?_
        refine lv_iload_n hx hb dD_number_90 rfl (lv_at hl 1 rfl) ?_
        refine lv_if_eq (tgt := 99) hx hb dD_number_91 (by decide) (fun h => ((by revert h; decide : False)).elim) (fun _ => ?_)
        refine lv_lload_n hx hb dD_number_94 rfl (lv_at hl 0 rfl) ?_
        refine lv_lneg hx hb dD_number_95 ?_
        refine lv_goto (tgt := 100) hx hb dD_number_96 (by decide) ?_
        obtain ⟨o13, hq14, hf⟩ := xbind hf
        obtain ⟨hPc, hDc, hFc⟩ := xcut (wc := [(a3, .inr (2, [.ref a4, .int v4, .int v5])), (a4, .inl (cT 2, 4096, .inr (.inl f3)))]) hP hD hS hA [3, 4] rfl rfl (by decide)
        refine va_callv (va_runV (C := "ValueBench$Row") (As := [.long (-o10.1)]) (rest := []) ⟨hx, hb, hml, hown, htx⟩ (gR_putNumber l hl9 D cT aK aV H.size n a3 a4 (-o10.1) f3 v4 v5 o13 hq14) ⟨callB_of 1 htx (xw_goodC kw_2_228) rfl rfl rfl (htx _ kw_1_4) (htx _ kw_2_225) ⟨by decide, by decide, by decide +kernel⟩ ⟨Nat.le_of_ble_eq_true rfl, Nat.le_of_ble_eq_true rfl⟩, (htx _ kw_2_226), (htx _ kw_2_227)⟩ ⟨xPre_blind, va_recv hK hP (ci := 2) rfl (q0 := 3) rfl, (fun U hU hW => ⟨rfl, xPre_of hZ hS hFc hPc hDc hK U hU hW⟩)⟩ rfl rfl hl.1 rfl (lv_room (Nat.le_of_ble_eq_true rfl)) dD_number_100 ⟨Nat.le_of_ble_eq_true rfl, Nat.le_of_ble_eq_true rfl⟩) hS (fun q _ h => hFc q h) hFc (fun u9 t H1 locs ht hvm hr9 hB hz1 hk1 hS => ?_)
        obtain ⟨hP1, hK1, hD1⟩ := hB
        rw [ht] at hP1
        obtain ⟨hP, hD⟩ := xjoin (W := [(a0, .inr (4, [.ref a1, .ref a3, .int o10.2, .int v7])), (a1, .inr (1, [.ref a2, .int v1, .int v2])), (a2, .inl (cT 0, 4096, .inl f0)), (a3, .inr (2, [.ref a4, .int o13.2.1, .int o13.2.2])), (a4, .inl (cT 2, 4096, .inr (.inl o13.1)))]) hP hD [3, 4] [0, 1, 2] 3 rfl rfl (by decide) (by decide) hk1 hFc hP1 hD1
        generalize H1 = H at hP hS ⊢
        refine lv_iconst (v := 1) hx hb dD_number_103 (by decide) ?_
        obtain rfl := Option.some.inj hf
        obtain ⟨hP9, hD9⟩ := xsub (wc := [(a0, .inr (4, [.ref a1, .ref a3, .int o10.2, .int v7])), (a1, .inr (1, [.ref a2, .int v1, .int v2])), (a2, .inl (cT 0, 4096, .inl f0)), (a3, .inr (2, [.ref a4, .int o13.2.1, .int o13.2.2])), (a4, .inl (cT 2, 4096, .inr (.inl o13.1)))]) hP hD [0, 1, 2, 3, 4] rfl rfl (by decide)
        exact W.zret (v := (1 : Int32)) hx hb hr rfl (fun t ht hW => ⟨⟨(1 : Int32), (), rfl, rfl, by rw [ht]; exact hP9, va_K.moved hW.alike hK, hD9⟩, hS.F ht⟩) hS.2.2 dD_number_104
      · rw [if_neg hc] at hf
        refine lv_aload_n hx hb dD_number_80 rfl (lv_at hl 3 rfl) ?_
        refine lv_iload_n hx hb dD_number_81 rfl (lv_at hl 2 rfl) ?_
        obtain ⟨o13, hq14, hf⟩ := xbind hf
        obtain ⟨hPc, hDc, hFc⟩ := xcut (wc := [(a0, .inr (4, [.ref a1, .ref a3, .int o10.2, .int v7])), (a1, .inr (1, [.ref a2, .int v1, .int v2])), (a2, .inl (cT 0, 4096, .inl f0)), (a3, .inr (2, [.ref a4, .int v4, .int v5])), (a4, .inl (cT 2, 4096, .inr (.inl f3)))]) hP hD hS hA [0, 1, 2, 3, 4] rfl rfl (by decide)
        refine va_calli (va_runV (C := "ValueBench$Reader") (As := [.int v6]) (rest := []) ⟨hx, hb, hml, hown, htx⟩ (gD_broken l hl9 D cT aK aV H.size n a0 a1 a2 a3 a4 v6 f0 v1 v2 f3 v4 v5 o10.2 v7 o13 hq14) ⟨callB_of 1 htx (xw_goodC kw_2_122) rfl rfl rfl (htx _ kw_1_16) (htx _ kw_2_119) ⟨by decide, by decide, by decide +kernel⟩ ⟨Nat.le_of_ble_eq_true rfl, Nat.le_of_ble_eq_true rfl⟩, (htx _ kw_2_121), (htx _ kp_D_broken)⟩ ⟨xPre_blind, va_recv hK hP (ci := 4) rfl (q0 := 0) rfl, (fun U hU hW => ⟨rfl, xPre_of hZ hS hFc hPc hDc hK U hU hW⟩)⟩ rfl rfl hl.1 rfl (lv_room (Nat.le_of_ble_eq_true rfl)) dD_number_82 ⟨Nat.le_of_ble_eq_true rfl, Nat.le_of_ble_eq_true rfl⟩) hS (fun q _ h => hFc q h) hFc (fun r15 u9 t H1 locs ht hvm hr9 hB hz1 hk1 hS => ?_)
        obtain ⟨hP1, hK1, hD1⟩ := hB
        rw [ht] at hP1
        obtain ⟨hP, hD⟩ := xjoin (W := [(a0, .inr (4, [.ref a1, .ref a3, .int o10.2, .int o13.2])), (a1, .inr (1, [.ref a2, .int v1, .int v2])), (a2, .inl (cT 0, 4096, .inl f0)), (a3, .inr (2, [.ref a4, .int v4, .int v5])), (a4, .inl (cT 2, 4096, .inr (.inl f3)))]) hP hD [0, 1, 2, 3, 4] [] 0 rfl rfl (by decide) (by decide) hk1 hFc hP1 hD1
        generalize H1 = H at hP hS ⊢
        rw [hr9]
        refine W.eq (g2 := F0 m 85 ls [.int o13.1]) rfl ?_
        obtain ⟨hg16, hf⟩ := xifn hf
        obtain rfl := Option.some.inj hf
        obtain ⟨hP9, hD9⟩ := xsub (wc := [(a0, .inr (4, [.ref a1, .ref a3, .int o10.2, .int o13.2])), (a1, .inr (1, [.ref a2, .int v1, .int v2])), (a2, .inl (cT 0, 4096, .inl f0)), (a3, .inr (2, [.ref a4, .int v4, .int v5])), (a4, .inl (cT 2, 4096, .inr (.inl f3)))]) hP hD [0, 1, 2, 3, 4] rfl rfl (by decide)
        exact W.zret (v := o13.1) hx hb hr (xzb hg16) (fun t ht hW => ⟨⟨o13.1, (), rfl, rfl, by rw [ht]; exact hP9, va_K.moved hW.alike hK, hD9⟩, hS.F ht⟩) hS.2.2 dD_number_85
    · rw [if_pos hc] at hf
      refine lv_aload_n hx hb dD_number_58 rfl (lv_at hl 2 rfl) ?_
      refine lv_aload_n hx hb dD_number_59 rfl (lv_at hl 2 rfl) ?_
      refine va_get (D := D) (ci := 4) (v := .int (v6 + (1 : Int32))) (C := "ValueBench$Reader") (T := TD) (N := 4) hx hb htx inD hown hK hP 0 rfl rfl 2 (by decide) (htx _ kw_2_31) (fun _ h9 => h9) rfl dD_number_60 ?_
      obtain ⟨o10, hq11, hf⟩ := xbind hf
      obtain ⟨hPc, hDc, hFc⟩ := xcut (wc := [(a0, .inr (4, [.ref a1, .ref a3, .int (v6 + (1 : Int32)), .int v7])), (a1, .inr (1, [.ref a2, .int v1, .int v2])), (a2, .inl (cT 0, 4096, .inl f0)), (a3, .inr (2, [.ref a4, .int v4, .int v5])), (a4, .inl (cT 2, 4096, .inr (.inl f3)))]) hP hD hS hA [0, 3, 4, 1, 2] rfl rfl (by decide)
      refine va_calli (va_runV (C := "ValueBench$Reader") (As := [.int (v6 + (1 : Int32))]) (rest := []) ⟨hx, hb, hml, hown, htx⟩ (gD_broken l hl9 D cT aK aV H.size n a0 a1 a2 a3 a4 (v6 + (1 : Int32)) f0 v1 v2 f3 v4 v5 (v6 + (1 : Int32)) v7 o10 hq11) ⟨callB_of 1 htx (xw_goodC kw_2_122) rfl rfl rfl (htx _ kw_1_16) (htx _ kw_2_119) ⟨by decide, by decide, by decide +kernel⟩ ⟨Nat.le_of_ble_eq_true rfl, Nat.le_of_ble_eq_true rfl⟩, (htx _ kw_2_121), (htx _ kp_D_broken)⟩ ⟨xPre_blind, va_recv hK hP (ci := 4) rfl (q0 := 0) rfl, (fun U hU hW => ⟨rfl, xPre_of hZ hS hFc hPc hDc hK U hU hW⟩)⟩ rfl rfl hl.1 rfl (lv_room (Nat.le_of_ble_eq_true rfl)) dD_number_63 ⟨Nat.le_of_ble_eq_true rfl, Nat.le_of_ble_eq_true rfl⟩) hS (fun q _ h => hFc q h) hFc (fun r12 u9 t H1 locs ht hvm hr9 hB hz1 hk1 hS => ?_)
      obtain ⟨hP1, hK1, hD1⟩ := hB
      rw [ht] at hP1
      obtain ⟨hP, hD⟩ := xjoin (W := [(a0, .inr (4, [.ref a1, .ref a3, .int (v6 + (1 : Int32)), .int o10.2])), (a1, .inr (1, [.ref a2, .int v1, .int v2])), (a2, .inl (cT 0, 4096, .inl f0)), (a3, .inr (2, [.ref a4, .int v4, .int v5])), (a4, .inl (cT 2, 4096, .inr (.inl f3)))]) hP hD [0, 3, 4, 1, 2] [] 0 rfl rfl (by decide) (by decide) hk1 hFc hP1 hD1
      generalize H1 = H at hP hS ⊢
      rw [hr9]
      refine W.eq (g2 := F0 m 66 ls [.int o10.1]) rfl ?_
      obtain ⟨hg13, hf⟩ := xifn hf
      obtain rfl := Option.some.inj hf
      obtain ⟨hP9, hD9⟩ := xsub (wc := [(a0, .inr (4, [.ref a1, .ref a3, .int (v6 + (1 : Int32)), .int o10.2])), (a1, .inr (1, [.ref a2, .int v1, .int v2])), (a2, .inl (cT 0, 4096, .inl f0)), (a3, .inr (2, [.ref a4, .int v4, .int v5])), (a4, .inl (cT 2, 4096, .inr (.inl f3)))]) hP hD [0, 1, 2, 3, 4] rfl rfl (by decide)
      exact W.zret (v := o10.1) hx hb hr (xzb hg13) (fun t ht hW => ⟨⟨o10.1, (), rfl, rfl, by rw [ht]; exact hP9, va_K.moved hW.alike hK, hD9⟩, hS.F ht⟩) hS.2.2 dD_number_66
set_option maxHeartbeats 400000000 in
set_option maxRecDepth 100000 in
theorem gD_value (l : Launch) (hl9 : l.stackTraces = false) (D : va_G) (cT : Nat → ClassId) (aK aV : Nat → Nat) : ∀ (d sz n : Nat) (a0 : Nat) (a1 : Nat) (a2 : Nat) (a3 : Nat) (a4 : Nat) (x1 : Int32) (f0 : Nat → Int32) (v1 : Int32) (v2 : Int32) (f3 : Nat → Int64) (v4 : Int32) (v5 : Int32) (v6 : Int32) (v7 : Int32) (out : Int32 × (Nat → Int64) × Int32 × Int32 × Int32 × Int32) (hf : fD_value d n x1 f0 v1 v2 f3 v4 v5 v6 v7 = some out), xMet l yD_value wyD_value (16 * d) 0 0 (400 * d) D cT aK aV sz [.ref a0, .int x1] [(a0, .inr (4, [.ref a1, .ref a3, .int v6, .int v7])), (a1, .inr (1, [.ref a2, .int v1, .int v2])), (a2, .inl (cT 0, 4096, .inl f0)), (a3, .inr (2, [.ref a4, .int v4, .int v5])), (a4, .inl (cT 2, 4096, .inr (.inl f3)))] (fun A => va_Qi (fun (r : Int32) (_ : Unit) => r = out.1) (fun _ t => xB D xcl cT A [(a0, .inr (4, [.ref a1, .ref a3, .int out.2.2.2.2.1, .int out.2.2.2.2.2])), (a1, .inr (1, [.ref a2, .int v1, .int v2])), (a2, .inl (cT 0, 4096, .inl f0)), (a3, .inr (2, [.ref a4, .int out.2.2.1, .int out.2.2.2.1])), (a4, .inl (cT 2, 4096, .inr (.inl out.2.1)))] t) A) := by
  intro d
  induction d with
  | zero =>
    intro sz n a0 a1 a2 a3 a4 x1 f0 v1 v2 f3 v4 v5 v6 v7 out hf
    rw [fD_value] at hf
    exact nomatch hf
  | succ d ih =>
    intro sz n a0 a1 a2 a3 a4 x1 f0 v1 v2 f3 v4 v5 v6 v7 out hf
    rw [fD_value] at hf
    refine Met.ofW (cc := prog_7_method_10_code) (maxL := 2) (ret := (some .boolean)) (by decide) rfl ?_
    intro p e s m args below meth c s₁ B hml hv
    obtain ⟨rfl, hsz, hZ, hP, hK, hD0⟩ := hv
    have hx := B.exec
    have hb := B.bytes
    have hr := B.returns
    have hts := atoms_spec (ws := wyD_value) B.pre
    have htx := fun w h => hts w (List.mem_cons_of_mem _ h)
    have hown : s.vm.findClass "ValueBench$Reader" = some m.cls := findClass_of_methodNamed B.named
    have hlocks := B.notSynchronized
    subst hsz
    have hD := hD0.self (sz := s.heap.size)
    generalize hAe : va_A [(a0, .inr (4, [.ref a1, .ref a3, .int v6, .int v7])), (a1, .inr (1, [.ref a2, .int v1, .int v2])), (a2, .inl (cT 0, 4096, .inl f0)), (a3, .inr (2, [.ref a4, .int v4, .int v5])), (a4, .inl (cT 2, 4096, .inr (.inl f3)))] s.heap.size = A at hD hZ ⊢
    have hA : ∀ q : Nat, s.heap.size ≤ q → A q := fun q h => by rw [← hAe]; exact Or.inr h
    have hS : va_S A s.heap s.heap [] := va_S.rf
    have hP : va_P D xcl [(a0, .inr (4, [.ref a1, .ref a3, .int v6, .int v7])), (a1, .inr (1, [.ref a2, .int v1, .int v2])), (a2, .inl (cT 0, 4096, .inl f0)), (a3, .inr (2, [.ref a4, .int v4, .int v5])), (a4, .inl (cT 2, 4096, .inr (.inl f3)))] s.heap := hP
    have hl := lv_entry ([.ref a0, .int x1]) (n := 2) (Nat.le_of_ble_eq_true rfl)
    rw [lg_entry_eq]
    generalize (lg_sl ([.ref a0, .int x1]) ++ List.replicate (2 - (lg_sl ([.ref a0, .int x1])).length) Slot.unset).toArray = ls at hl ⊢
    have hl : lv_has ls 2 [(0, .ref a0), (1, .int x1)] := hl
    refine lv_aload_n hx hb dD_value_0 rfl (lv_at hl 0 rfl) ?_
    obtain ⟨o1, hq2, hf⟩ := xbind hf
    obtain ⟨hPc, hDc, hFc⟩ := xcut (wc := [(a0, .inr (4, [.ref a1, .ref a3, .int v6, .int v7])), (a1, .inr (1, [.ref a2, .int v1, .int v2])), (a2, .inl (cT 0, 4096, .inl f0)), (a3, .inr (2, [.ref a4, .int v4, .int v5])), (a4, .inl (cT 2, 4096, .inr (.inl f3)))]) hP hD hS hA [0, 1, 2, 3, 4] rfl rfl (by decide)
    refine va_callv (va_runV (C := "ValueBench$Reader") (As := []) (rest := []) ⟨hx, hb, hml, hown, htx⟩ (gD_skipBlanks l hl9 D cT aK aV s.heap.size n a0 a1 a2 a3 a4 f0 v1 v2 f3 v4 v5 v6 v7 o1 hq2) ⟨callB_of 0 htx (xw_goodC kw_2_53) rfl rfl rfl (htx _ kw_1_16) (htx _ kw_2_50) ⟨by decide, by decide, by decide +kernel⟩ ⟨Nat.le_of_ble_eq_true rfl, Nat.le_of_ble_eq_true rfl⟩, (htx _ kw_2_52), (htx _ kp_D_skipBlanks)⟩ ⟨xPre_blind, va_recv hK hP (ci := 4) rfl (q0 := 0) rfl, (fun U hU hW => ⟨rfl, xPre_of hZ hS hFc hPc hDc hK U hU hW⟩)⟩ rfl rfl hl.1 rfl (lv_room (Nat.le_of_ble_eq_true rfl)) dD_value_1 ⟨Nat.le_of_ble_eq_true rfl, Nat.le_of_ble_eq_true rfl⟩) hS (fun q _ h => hFc q h) hFc (fun u9 t H1 locs ht hvm hr9 hB hz1 hk1 hS => ?_)
    obtain ⟨hP1, hK1, hD1⟩ := hB
    rw [ht] at hP1
    obtain ⟨hP, hD⟩ := xjoin (W := [(a0, .inr (4, [.ref a1, .ref a3, .int o1, .int v7])), (a1, .inr (1, [.ref a2, .int v1, .int v2])), (a2, .inl (cT 0, 4096, .inl f0)), (a3, .inr (2, [.ref a4, .int v4, .int v5])), (a4, .inl (cT 2, 4096, .inr (.inl f3)))]) hP hD [0, 1, 2, 3, 4] [] 0 rfl rfl (by decide) (by decide) hk1 hFc hP1 hD1
    generalize H1 = H at hP hS ⊢
    refine lv_aload_n hx hb dD_value_4 rfl (lv_at hl 0 rfl) ?_
    refine va_get (D := D) (ci := 4) (v := .ref a1) (C := "ValueBench$Reader") (T := TD) (N := 4) hx hb htx inD hown hK hP 0 rfl rfl 0 (by decide) (htx _ kw_2_29) (fun _ h9 => h9) rfl dD_value_5 ?_
    refine lv_aload_n hx hb dD_value_8 rfl (lv_at hl 0 rfl) ?_
    refine va_get (D := D) (ci := 4) (v := .int o1) (C := "ValueBench$Reader") (T := TD) (N := 4) hx hb htx inD hown hK hP 0 rfl rfl 2 (by decide) (htx _ kw_2_31) (fun _ h9 => h9) rfl dD_value_9 ?_
    obtain ⟨o3, hq4, hf⟩ := xbind hf
    obtain ⟨hPc, hDc, hFc⟩ := xcut (wc := [(a1, .inr (1, [.ref a2, .int v1, .int v2])), (a2, .inl (cT 0, 4096, .inl f0))]) hP hD hS hA [1, 2] rfl rfl (by decide)
    refine va_calli (va_runV (C := "ValueBench$Text") (As := [.int o1]) (rest := []) ⟨hx, hb, hml, hown, htx⟩ (gT_at l hl9 D cT aK aV H.size n a1 a2 o1 f0 v1 v2 o3 hq4) ⟨callB_of 1 htx (xw_goodC kw_2_58) rfl rfl rfl (htx _ kw_1_2) (htx _ kw_2_55) ⟨by decide, by decide, by decide +kernel⟩ ⟨Nat.le_of_ble_eq_true rfl, Nat.le_of_ble_eq_true rfl⟩, (htx _ kw_2_56), (htx _ kw_2_57)⟩ ⟨xPre_blind, va_recv hK hP (ci := 1) rfl (q0 := 1) rfl, (fun U hU hW => ⟨rfl, xPre_of hZ hS hFc hPc hDc hK U hU hW⟩)⟩ rfl rfl hl.1 rfl (lv_room (Nat.le_of_ble_eq_true rfl)) dD_value_12 ⟨Nat.le_of_ble_eq_true rfl, Nat.le_of_ble_eq_true rfl⟩) hS (fun q _ h => hFc q h) hFc (fun r5 u9 t H1 locs ht hvm hr9 hB hz1 hk1 hS => ?_)
    obtain ⟨hP1, hK1, hD1⟩ := hB
    rw [ht] at hP1
    obtain ⟨hP, hD⟩ := xjoin (W := [(a0, .inr (4, [.ref a1, .ref a3, .int o1, .int v7])), (a3, .inr (2, [.ref a4, .int v4, .int v5])), (a4, .inl (cT 2, 4096, .inr (.inl f3))), (a1, .inr (1, [.ref a2, .int v1, .int v2])), (a2, .inl (cT 0, 4096, .inl f0))]) hP hD [1, 2] [0, 3, 4] 3 rfl rfl (by decide) (by decide) hk1 hFc hP1 hD1
    generalize H1 = H at hP hS ⊢
    rw [hr9]
    refine W.eq (g2 := F0 m 15 ls [.int o3]) rfl ?_
    by_cases hc6 : o3 = 34
    · rw [if_pos hc6] at hf
      refine lv_lookup (off := 81) (tgt := 96) hx hb dD_value_15 (by decide) (by rw [hc6]; decide) (by decide) ?_
      refine lv_aload_n hx hb dD_value_96 rfl (lv_at hl 0 rfl) ?_
      obtain ⟨o7, hq8, hf⟩ := xbind hf
      obtain ⟨hPc, hDc, hFc⟩ := xcut (wc := [(a0, .inr (4, [.ref a1, .ref a3, .int o1, .int v7])), (a1, .inr (1, [.ref a2, .int v1, .int v2])), (a2, .inl (cT 0, 4096, .inl f0)), (a3, .inr (2, [.ref a4, .int v4, .int v5])), (a4, .inl (cT 2, 4096, .inr (.inl f3)))]) hP hD hS hA [0, 3, 4, 1, 2] rfl rfl (by decide)
      refine va_calli (va_runV (C := "ValueBench$Reader") (As := []) (rest := []) ⟨hx, hb, hml, hown, htx⟩ (gD_string l hl9 D cT aK aV H.size n a0 a1 a2 a3 a4 f0 v1 v2 f3 v4 v5 o1 v7 o7 hq8) ⟨callB_of 0 htx (xw_goodC kw_2_132) rfl rfl rfl (htx _ kw_1_16) (htx _ kw_2_129) ⟨by decide, by decide, by decide +kernel⟩ ⟨Nat.le_of_ble_eq_true rfl, Nat.le_of_ble_eq_true rfl⟩, (htx _ kw_2_131), (htx _ kp_D_string)⟩ ⟨xPre_blind, va_recv hK hP (ci := 4) rfl (q0 := 0) rfl, (fun U hU hW => ⟨rfl, xPre_of hZ hS hFc hPc hDc hK U hU hW⟩)⟩ rfl rfl hl.1 rfl (lv_room (Nat.le_of_ble_eq_true rfl)) dD_value_97 ⟨Nat.le_of_ble_eq_true rfl, Nat.le_of_ble_eq_true rfl⟩) hS (fun q _ h => hFc q h) hFc (fun r9 u9 t H1 locs ht hvm hr9 hB hz1 hk1 hS => ?_)
      obtain ⟨hP1, hK1, hD1⟩ := hB
      rw [ht] at hP1
      obtain ⟨hP, hD⟩ := xjoin (W := [(a0, .inr (4, [.ref a1, .ref a3, .int o7.2.2.2.2.1, .int o7.2.2.2.2.2])), (a1, .inr (1, [.ref a2, .int v1, .int v2])), (a2, .inl (cT 0, 4096, .inl f0)), (a3, .inr (2, [.ref a4, .int o7.2.2.1, .int o7.2.2.2.1])), (a4, .inl (cT 2, 4096, .inr (.inl o7.2.1)))]) hP hD [0, 3, 4, 1, 2] [] 0 rfl rfl (by decide) (by decide) hk1 hFc hP1 hD1
      generalize H1 = H at hP hS ⊢
      rw [hr9]
      refine W.eq (g2 := F0 m 100 ls [.int o7.1]) rfl ?_
      obtain ⟨hg10, hf⟩ := xifn hf
      obtain rfl := Option.some.inj hf
      obtain ⟨hP9, hD9⟩ := xsub (wc := [(a0, .inr (4, [.ref a1, .ref a3, .int o7.2.2.2.2.1, .int o7.2.2.2.2.2])), (a1, .inr (1, [.ref a2, .int v1, .int v2])), (a2, .inl (cT 0, 4096, .inl f0)), (a3, .inr (2, [.ref a4, .int o7.2.2.1, .int o7.2.2.2.1])), (a4, .inl (cT 2, 4096, .inr (.inl o7.2.1)))]) hP hD [0, 1, 2, 3, 4] rfl rfl (by decide)
      exact W.zret (v := o7.1) hx hb hr (xzb hg10) (fun t ht hW => ⟨⟨o7.1, (), rfl, rfl, by rw [ht]; exact hP9, va_K.moved hW.alike hK, hD9⟩, hS.F ht⟩) hS.2.2 dD_value_100
    rw [if_neg hc6] at hf
    by_cases hc11 : o3 = 91
    · rw [if_pos hc11] at hf
      refine lv_lookup (off := 86) (tgt := 101) hx hb dD_value_15 (by decide) (by rw [hc11]; decide) (by decide) ?_
      refine lv_iload_n hx hb dD_value_101 rfl (lv_at hl 1 rfl) ?_
      refine lv_bipush (v := 40) hx hb dD_value_102 (by decide) ?_
      refine lv_icmp_ge (tgt := 115) hx hb dD_value_104 (by decide) (fun hc => ?_) (fun hc => ?_)
      · rw [if_pos hc] at hf
        refine lv_aload_n hx hb dD_value_115 rfl (lv_at hl 0 rfl) ?_
        refine lv_aload_n hx hb dD_value_116 rfl (lv_at hl 0 rfl) ?_
        refine va_get (D := D) (ci := 4) (v := .int o1) (C := "ValueBench$Reader") (T := TD) (N := 4) hx hb htx inD hown hK hP 0 rfl rfl 2 (by decide) (htx _ kw_2_31) (fun _ h9 => h9) rfl dD_value_117 ?_
        obtain ⟨o12, hq13, hf⟩ := xbind hf
        obtain ⟨hPc, hDc, hFc⟩ := xcut (wc := [(a0, .inr (4, [.ref a1, .ref a3, .int o1, .int v7])), (a1, .inr (1, [.ref a2, .int v1, .int v2])), (a2, .inl (cT 0, 4096, .inl f0)), (a3, .inr (2, [.ref a4, .int v4, .int v5])), (a4, .inl (cT 2, 4096, .inr (.inl f3)))]) hP hD hS hA [0, 3, 4, 1, 2] rfl rfl (by decide)
        refine va_calli (va_runV (C := "ValueBench$Reader") (As := [.int o1]) (rest := []) ⟨hx, hb, hml, hown, htx⟩ (gD_broken l hl9 D cT aK aV H.size n a0 a1 a2 a3 a4 o1 f0 v1 v2 f3 v4 v5 o1 v7 o12 hq13) ⟨callB_of 1 htx (xw_goodC kw_2_122) rfl rfl rfl (htx _ kw_1_16) (htx _ kw_2_119) ⟨by decide, by decide, by decide +kernel⟩ ⟨Nat.le_of_ble_eq_true rfl, Nat.le_of_ble_eq_true rfl⟩, (htx _ kw_2_121), (htx _ kp_D_broken)⟩ ⟨xPre_blind, va_recv hK hP (ci := 4) rfl (q0 := 0) rfl, (fun U hU hW => ⟨rfl, xPre_of hZ hS hFc hPc hDc hK U hU hW⟩)⟩ rfl rfl hl.1 rfl (lv_room (Nat.le_of_ble_eq_true rfl)) dD_value_120 ⟨Nat.le_of_ble_eq_true rfl, Nat.le_of_ble_eq_true rfl⟩) hS (fun q _ h => hFc q h) hFc (fun r14 u9 t H1 locs ht hvm hr9 hB hz1 hk1 hS => ?_)
        obtain ⟨hP1, hK1, hD1⟩ := hB
        rw [ht] at hP1
        obtain ⟨hP, hD⟩ := xjoin (W := [(a0, .inr (4, [.ref a1, .ref a3, .int o1, .int o12.2])), (a1, .inr (1, [.ref a2, .int v1, .int v2])), (a2, .inl (cT 0, 4096, .inl f0)), (a3, .inr (2, [.ref a4, .int v4, .int v5])), (a4, .inl (cT 2, 4096, .inr (.inl f3)))]) hP hD [0, 3, 4, 1, 2] [] 0 rfl rfl (by decide) (by decide) hk1 hFc hP1 hD1
        generalize H1 = H at hP hS ⊢
        rw [hr9]
        refine W.eq (g2 := F0 m 123 ls [.int o12.1]) rfl ?_
        obtain ⟨hg15, hf⟩ := xifn hf
        obtain rfl := Option.some.inj hf
        obtain ⟨hP9, hD9⟩ := xsub (wc := [(a0, .inr (4, [.ref a1, .ref a3, .int o1, .int o12.2])), (a1, .inr (1, [.ref a2, .int v1, .int v2])), (a2, .inl (cT 0, 4096, .inl f0)), (a3, .inr (2, [.ref a4, .int v4, .int v5])), (a4, .inl (cT 2, 4096, .inr (.inl f3)))]) hP hD [0, 1, 2, 3, 4] rfl rfl (by decide)
        exact W.zret (v := o12.1) hx hb hr (xzb hg15) (fun t ht hW => ⟨⟨o12.1, (), rfl, rfl, by rw [ht]; exact hP9, va_K.moved hW.alike hK, hD9⟩, hS.F ht⟩) hS.2.2 dD_value_123
      · rw [if_neg hc] at hf
        refine lv_aload_n hx hb dD_value_107 rfl (lv_at hl 0 rfl) ?_
        refine lv_iload_n hx hb dD_value_108 rfl (lv_at hl 1 rfl) ?_
        obtain ⟨o12, hq13, hf⟩ := xbind hf
        obtain ⟨hPc, hDc, hFc⟩ := xcut (wc := [(a0, .inr (4, [.ref a1, .ref a3, .int o1, .int v7])), (a1, .inr (1, [.ref a2, .int v1, .int v2])), (a2, .inl (cT 0, 4096, .inl f0)), (a3, .inr (2, [.ref a4, .int v4, .int v5])), (a4, .inl (cT 2, 4096, .inr (.inl f3)))]) hP hD hS hA [0, 3, 4, 1, 2] rfl rfl (by decide)
        refine va_calli (va_runV (C := "ValueBench$Reader") (As := [.int x1]) (rest := []) ⟨hx, hb, hml, hown, htx⟩ (gD_array l hl9 D cT aK aV (16 * d) (400 * d) (fD_value d n) (fun sz => ih sz n) H.size n a0 a1 a2 a3 a4 x1 f0 v1 v2 f3 v4 v5 o1 v7 o12 hq13) ⟨callB_of 1 htx (xw_goodC kw_2_171) rfl rfl rfl (htx _ kw_1_16) (htx _ kw_2_168) ⟨by decide, by decide, by decide +kernel⟩ ⟨(by show (16 * d + 3) + 1 ≤ 16 * (d + 1); omega), (by show 8 + (5 + 11) + (400 * d + 62) ≤ 400 * (d + 1); omega)⟩, (htx _ kw_2_170), (htx _ kp_D_array)⟩ ⟨xPre_blind, va_recv hK hP (ci := 4) rfl (q0 := 0) rfl, (fun U hU hW => ⟨rfl, xPre_of hZ hS hFc hPc hDc hK U hU hW⟩)⟩ rfl rfl hl.1 rfl (lv_room (Nat.le_of_ble_eq_true rfl)) dD_value_109 ⟨Nat.le_of_ble_eq_true rfl, Nat.le_of_ble_eq_true rfl⟩) hS (fun q _ h => hFc q h) hFc (fun r14 u9 t H1 locs ht hvm hr9 hB hz1 hk1 hS => ?_)
        obtain ⟨hP1, hK1, hD1⟩ := hB
        rw [ht] at hP1
        obtain ⟨hP, hD⟩ := xjoin (W := [(a0, .inr (4, [.ref a1, .ref a3, .int o12.2.2.2.2.1, .int o12.2.2.2.2.2])), (a1, .inr (1, [.ref a2, .int v1, .int v2])), (a2, .inl (cT 0, 4096, .inl f0)), (a3, .inr (2, [.ref a4, .int o12.2.2.1, .int o12.2.2.2.1])), (a4, .inl (cT 2, 4096, .inr (.inl o12.2.1)))]) hP hD [0, 3, 4, 1, 2] [] 0 rfl rfl (by decide) (by decide) hk1 hFc hP1 hD1
        generalize H1 = H at hP hS ⊢
        rw [hr9]
        refine W.eq (g2 := F0 m 112 ls [.int o12.1]) rfl ?_
        refine lv_goto (tgt := 123) hx hb dD_value_112 (by decide) ?_
        obtain ⟨hg15, hf⟩ := xifn hf
        obtain rfl := Option.some.inj hf
        obtain ⟨hP9, hD9⟩ := xsub (wc := [(a0, .inr (4, [.ref a1, .ref a3, .int o12.2.2.2.2.1, .int o12.2.2.2.2.2])), (a1, .inr (1, [.ref a2, .int v1, .int v2])), (a2, .inl (cT 0, 4096, .inl f0)), (a3, .inr (2, [.ref a4, .int o12.2.2.1, .int o12.2.2.2.1])), (a4, .inl (cT 2, 4096, .inr (.inl o12.2.1)))]) hP hD [0, 1, 2, 3, 4] rfl rfl (by decide)
        exact W.zret (v := o12.1) hx hb hr (xzb hg15) (fun t ht hW => ⟨⟨o12.1, (), rfl, rfl, by rw [ht]; exact hP9, va_K.moved hW.alike hK, hD9⟩, hS.F ht⟩) hS.2.2 dD_value_123
    rw [if_neg hc11] at hf
    by_cases hc12 : o3 = 102
    · rw [if_pos hc12] at hf
      refine lv_lookup (off := 65) (tgt := 80) hx hb dD_value_15 (by decide) (by rw [hc12]; decide) (by decide) ?_
      refine lv_aload_n hx hb dD_value_80 rfl (lv_at hl 0 rfl) ?_
      refine va_ldcS (q := aK 11) hx hb hown (hZ.2.2.2.2.2.2.2.2.1 ("ValueBench$Reader", 61, "false", 11) (List.mem_of_getElem? (i := 15) rfl)) dD_value_81 ?_
      refine lv_iconst (v := 1) hx hb dD_value_83 (by decide) ?_
      obtain ⟨o13, hq14, hf⟩ := xbind hf
      obtain ⟨hPc, hDc, hFc⟩ := xcut (wc := [(a0, .inr (4, [.ref a1, .ref a3, .int o1, .int v7])), (a1, .inr (1, [.ref a2, .int v1, .int v2])), (a2, .inl (cT 0, 4096, .inl f0)), (a3, .inr (2, [.ref a4, .int v4, .int v5])), (a4, .inl (cT 2, 4096, .inr (.inl f3)))]) hP hD hS hA [0, 3, 4, 1, 2] rfl rfl (by decide)
      refine va_calli (va_runV (C := "ValueBench$Reader") (As := [.ref (aK 11), .int 1]) (rest := []) ⟨hx, hb, hml, hown, htx⟩ (gD_letters l hl9 D cT aK aV H.size n a0 a1 a2 a3 a4 (1 : Int32) f0 v1 v2 f3 v4 v5 o1 v7 o13 hq14) ⟨callB_of 2 htx (xw_goodC kw_2_66) rfl rfl rfl (htx _ kw_1_16) (htx _ kw_2_63) ⟨by decide, by decide, by decide +kernel⟩ ⟨Nat.le_of_ble_eq_true rfl, Nat.le_of_ble_eq_true rfl⟩, (htx _ kw_2_65), (htx _ kp_D_letters)⟩ ⟨xPre_blind, va_recv hK hP (ci := 4) rfl (q0 := 0) rfl, (fun U hU hW => ⟨rfl, xPre_of hZ hS hFc hPc hDc hK U hU hW⟩)⟩ rfl rfl hl.1 rfl (lv_room (Nat.le_of_ble_eq_true rfl)) dD_value_84 ⟨Nat.le_of_ble_eq_true rfl, Nat.le_of_ble_eq_true rfl⟩) hS (fun q _ h => hFc q h) hFc (fun r15 u9 t H1 locs ht hvm hr9 hB hz1 hk1 hS => ?_)
      obtain ⟨hP1, hK1, hD1⟩ := hB
      rw [ht] at hP1
      obtain ⟨hP, hD⟩ := xjoin (W := [(a0, .inr (4, [.ref a1, .ref a3, .int o13.2.2.2.2.1, .int o13.2.2.2.2.2])), (a1, .inr (1, [.ref a2, .int v1, .int v2])), (a2, .inl (cT 0, 4096, .inl f0)), (a3, .inr (2, [.ref a4, .int o13.2.2.1, .int o13.2.2.2.1])), (a4, .inl (cT 2, 4096, .inr (.inl o13.2.1)))]) hP hD [0, 3, 4, 1, 2] [] 0 rfl rfl (by decide) (by decide) hk1 hFc hP1 hD1
      generalize H1 = H at hP hS ⊢
      rw [hr9]
      refine W.eq (g2 := F0 m 87 ls [.int o13.1]) rfl ?_
      obtain ⟨hg16, hf⟩ := xifn hf
      obtain rfl := Option.some.inj hf
      obtain ⟨hP9, hD9⟩ := xsub (wc := [(a0, .inr (4, [.ref a1, .ref a3, .int o13.2.2.2.2.1, .int o13.2.2.2.2.2])), (a1, .inr (1, [.ref a2, .int v1, .int v2])), (a2, .inl (cT 0, 4096, .inl f0)), (a3, .inr (2, [.ref a4, .int o13.2.2.1, .int o13.2.2.2.1])), (a4, .inl (cT 2, 4096, .inr (.inl o13.2.1)))]) hP hD [0, 1, 2, 3, 4] rfl rfl (by decide)
      exact W.zret (v := o13.1) hx hb hr (xzb hg16) (fun t ht hW => ⟨⟨o13.1, (), rfl, rfl, by rw [ht]; exact hP9, va_K.moved hW.alike hK, hD9⟩, hS.F ht⟩) hS.2.2 dD_value_87
    rw [if_neg hc12] at hf
    by_cases hc17 : o3 = 110
    · rw [if_pos hc17] at hf
      refine lv_lookup (off := 57) (tgt := 72) hx hb dD_value_15 (by decide) (by rw [hc17]; decide) (by decide) ?_
      refine lv_aload_n hx hb dD_value_72 rfl (lv_at hl 0 rfl) ?_
      refine va_ldcS (q := aK 10) hx hb hown (hZ.2.2.2.2.2.2.2.2.1 ("ValueBench$Reader", 55, "null", 10) (List.mem_of_getElem? (i := 14) rfl)) dD_value_73 ?_
      refine lv_iconst (v := 0) hx hb dD_value_75 (by decide) ?_
      obtain ⟨o18, hq19, hf⟩ := xbind hf
      obtain ⟨hPc, hDc, hFc⟩ := xcut (wc := [(a0, .inr (4, [.ref a1, .ref a3, .int o1, .int v7])), (a1, .inr (1, [.ref a2, .int v1, .int v2])), (a2, .inl (cT 0, 4096, .inl f0)), (a3, .inr (2, [.ref a4, .int v4, .int v5])), (a4, .inl (cT 2, 4096, .inr (.inl f3)))]) hP hD hS hA [0, 3, 4, 1, 2] rfl rfl (by decide)
      refine va_calli (va_runV (C := "ValueBench$Reader") (As := [.ref (aK 10), .int 0]) (rest := []) ⟨hx, hb, hml, hown, htx⟩ (gD_lettersa l hl9 D cT aK aV H.size n a0 a1 a2 a3 a4 (0 : Int32) f0 v1 v2 f3 v4 v5 o1 v7 o18 hq19) ⟨callB_of 2 htx (xw_goodC kw_2_66) rfl rfl rfl (htx _ kw_1_16) (htx _ kw_2_63) ⟨by decide, by decide, by decide +kernel⟩ ⟨Nat.le_of_ble_eq_true rfl, Nat.le_of_ble_eq_true rfl⟩, (htx _ kw_2_65), (htx _ kp_D_letters)⟩ ⟨xPre_blind, va_recv hK hP (ci := 4) rfl (q0 := 0) rfl, (fun U hU hW => ⟨rfl, xPre_of hZ hS hFc hPc hDc hK U hU hW⟩)⟩ rfl rfl hl.1 rfl (lv_room (Nat.le_of_ble_eq_true rfl)) dD_value_76 ⟨Nat.le_of_ble_eq_true rfl, Nat.le_of_ble_eq_true rfl⟩) hS (fun q _ h => hFc q h) hFc (fun r20 u9 t H1 locs ht hvm hr9 hB hz1 hk1 hS => ?_)
      obtain ⟨hP1, hK1, hD1⟩ := hB
      rw [ht] at hP1
      obtain ⟨hP, hD⟩ := xjoin (W := [(a0, .inr (4, [.ref a1, .ref a3, .int o18.2.2.2.2.1, .int o18.2.2.2.2.2])), (a1, .inr (1, [.ref a2, .int v1, .int v2])), (a2, .inl (cT 0, 4096, .inl f0)), (a3, .inr (2, [.ref a4, .int o18.2.2.1, .int o18.2.2.2.1])), (a4, .inl (cT 2, 4096, .inr (.inl o18.2.1)))]) hP hD [0, 3, 4, 1, 2] [] 0 rfl rfl (by decide) (by decide) hk1 hFc hP1 hD1
      generalize H1 = H at hP hS ⊢
      rw [hr9]
      refine W.eq (g2 := F0 m 79 ls [.int o18.1]) rfl ?_
      obtain ⟨hg21, hf⟩ := xifn hf
      obtain rfl := Option.some.inj hf
      obtain ⟨hP9, hD9⟩ := xsub (wc := [(a0, .inr (4, [.ref a1, .ref a3, .int o18.2.2.2.2.1, .int o18.2.2.2.2.2])), (a1, .inr (1, [.ref a2, .int v1, .int v2])), (a2, .inl (cT 0, 4096, .inl f0)), (a3, .inr (2, [.ref a4, .int o18.2.2.1, .int o18.2.2.2.1])), (a4, .inl (cT 2, 4096, .inr (.inl o18.2.1)))]) hP hD [0, 1, 2, 3, 4] rfl rfl (by decide)
      exact W.zret (v := o18.1) hx hb hr (xzb hg21) (fun t ht hW => ⟨⟨o18.1, (), rfl, rfl, by rw [ht]; exact hP9, va_K.moved hW.alike hK, hD9⟩, hS.F ht⟩) hS.2.2 dD_value_79
    rw [if_neg hc17] at hf
    by_cases hc22 : o3 = 116
    · rw [if_pos hc22] at hf
      refine lv_lookup (off := 73) (tgt := 88) hx hb dD_value_15 (by decide) (by rw [hc22]; decide) (by decide) ?_
      refine lv_aload_n hx hb dD_value_88 rfl (lv_at hl 0 rfl) ?_
      refine va_ldcS (q := aK 12) hx hb hown (hZ.2.2.2.2.2.2.2.2.1 ("ValueBench$Reader", 63, "true", 12) (List.mem_of_getElem? (i := 16) rfl)) dD_value_89 ?_
      refine lv_iconst (v := 2) hx hb dD_value_91 (by decide) ?_
      obtain ⟨o23, hq24, hf⟩ := xbind hf
      obtain ⟨hPc, hDc, hFc⟩ := xcut (wc := [(a0, .inr (4, [.ref a1, .ref a3, .int o1, .int v7])), (a1, .inr (1, [.ref a2, .int v1, .int v2])), (a2, .inl (cT 0, 4096, .inl f0)), (a3, .inr (2, [.ref a4, .int v4, .int v5])), (a4, .inl (cT 2, 4096, .inr (.inl f3)))]) hP hD hS hA [0, 3, 4, 1, 2] rfl rfl (by decide)
      refine va_calli (va_runV (C := "ValueBench$Reader") (As := [.ref (aK 12), .int 2]) (rest := []) ⟨hx, hb, hml, hown, htx⟩ (gD_lettersb l hl9 D cT aK aV H.size n a0 a1 a2 a3 a4 (2 : Int32) f0 v1 v2 f3 v4 v5 o1 v7 o23 hq24) ⟨callB_of 2 htx (xw_goodC kw_2_66) rfl rfl rfl (htx _ kw_1_16) (htx _ kw_2_63) ⟨by decide, by decide, by decide +kernel⟩ ⟨Nat.le_of_ble_eq_true rfl, Nat.le_of_ble_eq_true rfl⟩, (htx _ kw_2_65), (htx _ kp_D_letters)⟩ ⟨xPre_blind, va_recv hK hP (ci := 4) rfl (q0 := 0) rfl, (fun U hU hW => ⟨rfl, xPre_of hZ hS hFc hPc hDc hK U hU hW⟩)⟩ rfl rfl hl.1 rfl (lv_room (Nat.le_of_ble_eq_true rfl)) dD_value_92 ⟨Nat.le_of_ble_eq_true rfl, Nat.le_of_ble_eq_true rfl⟩) hS (fun q _ h => hFc q h) hFc (fun r25 u9 t H1 locs ht hvm hr9 hB hz1 hk1 hS => ?_)
      obtain ⟨hP1, hK1, hD1⟩ := hB
      rw [ht] at hP1
      obtain ⟨hP, hD⟩ := xjoin (W := [(a0, .inr (4, [.ref a1, .ref a3, .int o23.2.2.2.2.1, .int o23.2.2.2.2.2])), (a1, .inr (1, [.ref a2, .int v1, .int v2])), (a2, .inl (cT 0, 4096, .inl f0)), (a3, .inr (2, [.ref a4, .int o23.2.2.1, .int o23.2.2.2.1])), (a4, .inl (cT 2, 4096, .inr (.inl o23.2.1)))]) hP hD [0, 3, 4, 1, 2] [] 0 rfl rfl (by decide) (by decide) hk1 hFc hP1 hD1
      generalize H1 = H at hP hS ⊢
      rw [hr9]
      refine W.eq (g2 := F0 m 95 ls [.int o23.1]) rfl ?_
      obtain ⟨hg26, hf⟩ := xifn hf
      obtain rfl := Option.some.inj hf
      obtain ⟨hP9, hD9⟩ := xsub (wc := [(a0, .inr (4, [.ref a1, .ref a3, .int o23.2.2.2.2.1, .int o23.2.2.2.2.2])), (a1, .inr (1, [.ref a2, .int v1, .int v2])), (a2, .inl (cT 0, 4096, .inl f0)), (a3, .inr (2, [.ref a4, .int o23.2.2.1, .int o23.2.2.2.1])), (a4, .inl (cT 2, 4096, .inr (.inl o23.2.1)))]) hP hD [0, 1, 2, 3, 4] rfl rfl (by decide)
      exact W.zret (v := o23.1) hx hb hr (xzb hg26) (fun t ht hW => ⟨⟨o23.1, (), rfl, rfl, by rw [ht]; exact hP9, va_K.moved hW.alike hK, hD9⟩, hS.F ht⟩) hS.2.2 dD_value_95
    rw [if_neg hc22] at hf
    by_cases hc27 : o3 = 123
    · rw [if_pos hc27] at hf
      refine lv_lookup (off := 109) (tgt := 124) hx hb dD_value_15 (by decide) (by rw [hc27]; decide) (by decide) ?_
      refine lv_iload_n hx hb dD_value_124 rfl (lv_at hl 1 rfl) ?_
      refine lv_bipush (v := 40) hx hb dD_value_125 (by decide) ?_
      refine lv_icmp_ge (tgt := 138) hx hb dD_value_127 (by decide) (fun hc => ?_) (fun hc => ?_)
      · rw [if_pos hc] at hf
        refine lv_aload_n hx hb dD_value_138 rfl (lv_at hl 0 rfl) ?_
        refine lv_aload_n hx hb dD_value_139 rfl (lv_at hl 0 rfl) ?_
        refine va_get (D := D) (ci := 4) (v := .int o1) (C := "ValueBench$Reader") (T := TD) (N := 4) hx hb htx inD hown hK hP 0 rfl rfl 2 (by decide) (htx _ kw_2_31) (fun _ h9 => h9) rfl dD_value_140 ?_
        obtain ⟨o28, hq29, hf⟩ := xbind hf
        obtain ⟨hPc, hDc, hFc⟩ := xcut (wc := [(a0, .inr (4, [.ref a1, .ref a3, .int o1, .int v7])), (a1, .inr (1, [.ref a2, .int v1, .int v2])), (a2, .inl (cT 0, 4096, .inl f0)), (a3, .inr (2, [.ref a4, .int v4, .int v5])), (a4, .inl (cT 2, 4096, .inr (.inl f3)))]) hP hD hS hA [0, 3, 4, 1, 2] rfl rfl (by decide)
        refine va_calli (va_runV (C := "ValueBench$Reader") (As := [.int o1]) (rest := []) ⟨hx, hb, hml, hown, htx⟩ (gD_broken l hl9 D cT aK aV H.size n a0 a1 a2 a3 a4 o1 f0 v1 v2 f3 v4 v5 o1 v7 o28 hq29) ⟨callB_of 1 htx (xw_goodC kw_2_122) rfl rfl rfl (htx _ kw_1_16) (htx _ kw_2_119) ⟨by decide, by decide, by decide +kernel⟩ ⟨Nat.le_of_ble_eq_true rfl, Nat.le_of_ble_eq_true rfl⟩, (htx _ kw_2_121), (htx _ kp_D_broken)⟩ ⟨xPre_blind, va_recv hK hP (ci := 4) rfl (q0 := 0) rfl, (fun U hU hW => ⟨rfl, xPre_of hZ hS hFc hPc hDc hK U hU hW⟩)⟩ rfl rfl hl.1 rfl (lv_room (Nat.le_of_ble_eq_true rfl)) dD_value_143 ⟨Nat.le_of_ble_eq_true rfl, Nat.le_of_ble_eq_true rfl⟩) hS (fun q _ h => hFc q h) hFc (fun r30 u9 t H1 locs ht hvm hr9 hB hz1 hk1 hS => ?_)
        obtain ⟨hP1, hK1, hD1⟩ := hB
        rw [ht] at hP1
        obtain ⟨hP, hD⟩ := xjoin (W := [(a0, .inr (4, [.ref a1, .ref a3, .int o1, .int o28.2])), (a1, .inr (1, [.ref a2, .int v1, .int v2])), (a2, .inl (cT 0, 4096, .inl f0)), (a3, .inr (2, [.ref a4, .int v4, .int v5])), (a4, .inl (cT 2, 4096, .inr (.inl f3)))]) hP hD [0, 3, 4, 1, 2] [] 0 rfl rfl (by decide) (by decide) hk1 hFc hP1 hD1
        generalize H1 = H at hP hS ⊢
        rw [hr9]
        refine W.eq (g2 := F0 m 146 ls [.int o28.1]) rfl ?_
        obtain ⟨hg31, hf⟩ := xifn hf
        obtain rfl := Option.some.inj hf
        obtain ⟨hP9, hD9⟩ := xsub (wc := [(a0, .inr (4, [.ref a1, .ref a3, .int o1, .int o28.2])), (a1, .inr (1, [.ref a2, .int v1, .int v2])), (a2, .inl (cT 0, 4096, .inl f0)), (a3, .inr (2, [.ref a4, .int v4, .int v5])), (a4, .inl (cT 2, 4096, .inr (.inl f3)))]) hP hD [0, 1, 2, 3, 4] rfl rfl (by decide)
        exact W.zret (v := o28.1) hx hb hr (xzb hg31) (fun t ht hW => ⟨⟨o28.1, (), rfl, rfl, by rw [ht]; exact hP9, va_K.moved hW.alike hK, hD9⟩, hS.F ht⟩) hS.2.2 dD_value_146
      · rw [if_neg hc] at hf
        refine lv_aload_n hx hb dD_value_130 rfl (lv_at hl 0 rfl) ?_
        refine lv_iload_n hx hb dD_value_131 rfl (lv_at hl 1 rfl) ?_
        obtain ⟨o28, hq29, hf⟩ := xbind hf
        obtain ⟨hPc, hDc, hFc⟩ := xcut (wc := [(a0, .inr (4, [.ref a1, .ref a3, .int o1, .int v7])), (a1, .inr (1, [.ref a2, .int v1, .int v2])), (a2, .inl (cT 0, 4096, .inl f0)), (a3, .inr (2, [.ref a4, .int v4, .int v5])), (a4, .inl (cT 2, 4096, .inr (.inl f3)))]) hP hD hS hA [0, 3, 4, 1, 2] rfl rfl (by decide)
        refine va_calli (va_runV (C := "ValueBench$Reader") (As := [.int x1]) (rest := []) ⟨hx, hb, hml, hown, htx⟩ (gD_object l hl9 D cT aK aV (16 * d) (400 * d) (fD_value d n) (fun sz => ih sz n) H.size n a0 a1 a2 a3 a4 x1 f0 v1 v2 f3 v4 v5 o1 v7 o28 hq29) ⟨callB_of 1 htx (xw_goodC kw_2_179) rfl rfl rfl (htx _ kw_1_16) (htx _ kw_2_176) ⟨by decide, by decide, by decide +kernel⟩ ⟨(by show (16 * d + 3) + 1 ≤ 16 * (d + 1); omega), (by show 8 + (7 + 11) + (400 * d + 79) ≤ 400 * (d + 1); omega)⟩, (htx _ kw_2_178), (htx _ kp_D_object)⟩ ⟨xPre_blind, va_recv hK hP (ci := 4) rfl (q0 := 0) rfl, (fun U hU hW => ⟨rfl, xPre_of hZ hS hFc hPc hDc hK U hU hW⟩)⟩ rfl rfl hl.1 rfl (lv_room (Nat.le_of_ble_eq_true rfl)) dD_value_132 ⟨Nat.le_of_ble_eq_true rfl, Nat.le_of_ble_eq_true rfl⟩) hS (fun q _ h => hFc q h) hFc (fun r30 u9 t H1 locs ht hvm hr9 hB hz1 hk1 hS => ?_)
        obtain ⟨hP1, hK1, hD1⟩ := hB
        rw [ht] at hP1
        obtain ⟨hP, hD⟩ := xjoin (W := [(a0, .inr (4, [.ref a1, .ref a3, .int o28.2.2.2.2.1, .int o28.2.2.2.2.2])), (a1, .inr (1, [.ref a2, .int v1, .int v2])), (a2, .inl (cT 0, 4096, .inl f0)), (a3, .inr (2, [.ref a4, .int o28.2.2.1, .int o28.2.2.2.1])), (a4, .inl (cT 2, 4096, .inr (.inl o28.2.1)))]) hP hD [0, 3, 4, 1, 2] [] 0 rfl rfl (by decide) (by decide) hk1 hFc hP1 hD1
        generalize H1 = H at hP hS ⊢
        rw [hr9]
        refine W.eq (g2 := F0 m 135 ls [.int o28.1]) rfl ?_
        refine lv_goto (tgt := 146) hx hb dD_value_135 (by decide) ?_
        obtain ⟨hg31, hf⟩ := xifn hf
        obtain rfl := Option.some.inj hf
        obtain ⟨hP9, hD9⟩ := xsub (wc := [(a0, .inr (4, [.ref a1, .ref a3, .int o28.2.2.2.2.1, .int o28.2.2.2.2.2])), (a1, .inr (1, [.ref a2, .int v1, .int v2])), (a2, .inl (cT 0, 4096, .inl f0)), (a3, .inr (2, [.ref a4, .int o28.2.2.1, .int o28.2.2.2.1])), (a4, .inl (cT 2, 4096, .inr (.inl o28.2.1)))]) hP hD [0, 1, 2, 3, 4] rfl rfl (by decide)
        exact W.zret (v := o28.1) hx hb hr (xzb hg31) (fun t ht hW => ⟨⟨o28.1, (), rfl, rfl, by rw [ht]; exact hP9, va_K.moved hW.alike hK, hD9⟩, hS.F ht⟩) hS.2.2 dD_value_146
    rw [if_neg hc27] at hf
    refine lv_lookup (off := 132) (tgt := 147) hx hb dD_value_15 (by decide) (by have e0 : o3.toInt ≠ 34 := xsw hc6 (by decide); have e1 : o3.toInt ≠ 91 := xsw hc11 (by decide); have e2 : o3.toInt ≠ 102 := xsw hc12 (by decide); have e3 : o3.toInt ≠ 110 := xsw hc17 (by decide); have e4 : o3.toInt ≠ 116 := xsw hc22 (by decide); have e5 : o3.toInt ≠ 123 := xsw hc27 (by decide); simp [Op.lookupswitch.offset, e0, Ne.symm e0, e1, Ne.symm e1, e2, Ne.symm e2, e3, Ne.symm e3, e4, Ne.symm e4, e5, Ne.symm e5]) (by decide) ?_
    refine lv_aload_n hx hb dD_value_147 rfl (lv_at hl 0 rfl) ?_
    obtain ⟨o28, hq29, hf⟩ := xbind hf
    obtain ⟨hPc, hDc, hFc⟩ := xcut (wc := [(a0, .inr (4, [.ref a1, .ref a3, .int o1, .int v7])), (a1, .inr (1, [.ref a2, .int v1, .int v2])), (a2, .inl (cT 0, 4096, .inl f0)), (a3, .inr (2, [.ref a4, .int v4, .int v5])), (a4, .inl (cT 2, 4096, .inr (.inl f3)))]) hP hD hS hA [0, 3, 4, 1, 2] rfl rfl (by decide)
    refine va_calli (va_runV (C := "ValueBench$Reader") (As := []) (rest := []) ⟨hx, hb, hml, hown, htx⟩ (gD_number l hl9 D cT aK aV H.size n a0 a1 a2 a3 a4 f0 v1 v2 f3 v4 v5 o1 v7 o28 hq29) ⟨callB_of 0 htx (xw_goodC kw_2_214) rfl rfl rfl (htx _ kw_1_16) (htx _ kw_2_211) ⟨by decide, by decide, by decide +kernel⟩ ⟨Nat.le_of_ble_eq_true rfl, Nat.le_of_ble_eq_true rfl⟩, (htx _ kw_2_213), (htx _ kp_D_number)⟩ ⟨xPre_blind, va_recv hK hP (ci := 4) rfl (q0 := 0) rfl, (fun U hU hW => ⟨rfl, xPre_of hZ hS hFc hPc hDc hK U hU hW⟩)⟩ rfl rfl hl.1 rfl (lv_room (Nat.le_of_ble_eq_true rfl)) dD_value_148 ⟨Nat.le_of_ble_eq_true rfl, Nat.le_of_ble_eq_true rfl⟩) hS (fun q _ h => hFc q h) hFc (fun r30 u9 t H1 locs ht hvm hr9 hB hz1 hk1 hS => ?_)
    obtain ⟨hP1, hK1, hD1⟩ := hB
    rw [ht] at hP1
    obtain ⟨hP, hD⟩ := xjoin (W := [(a0, .inr (4, [.ref a1, .ref a3, .int o28.2.2.2.2.1, .int o28.2.2.2.2.2])), (a1, .inr (1, [.ref a2, .int v1, .int v2])), (a2, .inl (cT 0, 4096, .inl f0)), (a3, .inr (2, [.ref a4, .int o28.2.2.1, .int o28.2.2.2.1])), (a4, .inl (cT 2, 4096, .inr (.inl o28.2.1)))]) hP hD [0, 3, 4, 1, 2] [] 0 rfl rfl (by decide) (by decide) hk1 hFc hP1 hD1
    generalize H1 = H at hP hS ⊢
    rw [hr9]
    refine W.eq (g2 := F0 m 151 ls [.int o28.1]) rfl ?_
    obtain ⟨hg31, hf⟩ := xifn hf
    obtain rfl := Option.some.inj hf
    obtain ⟨hP9, hD9⟩ := xsub (wc := [(a0, .inr (4, [.ref a1, .ref a3, .int o28.2.2.2.2.1, .int o28.2.2.2.2.2])), (a1, .inr (1, [.ref a2, .int v1, .int v2])), (a2, .inl (cT 0, 4096, .inl f0)), (a3, .inr (2, [.ref a4, .int o28.2.2.1, .int o28.2.2.2.1])), (a4, .inl (cT 2, 4096, .inr (.inl o28.2.1)))]) hP hD [0, 1, 2, 3, 4] rfl rfl (by decide)
    exact W.zret (v := o28.1) hx hb hr (xzb hg31) (fun t ht hW => ⟨⟨o28.1, (), rfl, rfl, by rw [ht]; exact hP9, va_K.moved hW.alike hK, hD9⟩, hS.F ht⟩) hS.2.2 dD_value_151
set_option maxHeartbeats 400000000 in
set_option maxRecDepth 100000 in
theorem gD_demandEnd (l : Launch) (hl9 : l.stackTraces = false) (D : va_G) (cT : Nat → ClassId) (aK aV : Nat → Nat) (sz n : Nat) (a0 : Nat) (a1 : Nat) (a2 : Nat) (a3 : Nat) (a4 : Nat) (f0 : Nat → Int32) (v1 : Int32) (v2 : Int32) (f3 : Nat → Int64) (v4 : Int32) (v5 : Int32) (v6 : Int32) (v7 : Int32) (out : Int32) (hf : fD_demandEnd n f0 v1 v2 f3 v4 v5 v6 v7 = some out) : xMet l yD_demandEnd wyD_demandEnd 1 0 0 21 D cT aK aV sz [.ref a0] [(a0, .inr (4, [.ref a1, .ref a3, .int v6, .int v7])), (a1, .inr (1, [.ref a2, .int v1, .int v2])), (a2, .inl (cT 0, 4096, .inl f0)), (a3, .inr (2, [.ref a4, .int v4, .int v5])), (a4, .inl (cT 2, 4096, .inr (.inl f3)))] (fun A => va_Qv (fun _ : Unit => True) (fun _ t => xB D xcl cT A [(a0, .inr (4, [.ref a1, .ref a3, .int v6, .int out])), (a1, .inr (1, [.ref a2, .int v1, .int v2])), (a2, .inl (cT 0, 4096, .inl f0)), (a3, .inr (2, [.ref a4, .int v4, .int v5])), (a4, .inl (cT 2, 4096, .inr (.inl f3)))] t) A) := by
  refine Met.ofW (cc := prog_7_method_4_code) (maxL := 1) (ret := none) (by decide) rfl ?_
  intro p e s m args below meth c s₁ B hml hv
  obtain ⟨rfl, hsz, hZ, hP, hK, hD0⟩ := hv
  have hx := B.exec
  have hb := B.bytes
  have hr := B.returns
  have hts := atoms_spec (ws := wyD_demandEnd) B.pre
  have htx := fun w h => hts w (List.mem_cons_of_mem _ h)
  have hown : s.vm.findClass "ValueBench$Reader" = some m.cls := findClass_of_methodNamed B.named
  have hlocks := B.notSynchronized
  subst hsz
  have hD := hD0.self (sz := s.heap.size)
  generalize hAe : va_A [(a0, .inr (4, [.ref a1, .ref a3, .int v6, .int v7])), (a1, .inr (1, [.ref a2, .int v1, .int v2])), (a2, .inl (cT 0, 4096, .inl f0)), (a3, .inr (2, [.ref a4, .int v4, .int v5])), (a4, .inl (cT 2, 4096, .inr (.inl f3)))] s.heap.size = A at hD hZ ⊢
  have hA : ∀ q : Nat, s.heap.size ≤ q → A q := fun q h => by rw [← hAe]; exact Or.inr h
  have hS : va_S A s.heap s.heap [] := va_S.rf
  have hP : va_P D xcl [(a0, .inr (4, [.ref a1, .ref a3, .int v6, .int v7])), (a1, .inr (1, [.ref a2, .int v1, .int v2])), (a2, .inl (cT 0, 4096, .inl f0)), (a3, .inr (2, [.ref a4, .int v4, .int v5])), (a4, .inl (cT 2, 4096, .inr (.inl f3)))] s.heap := hP
  have hl := lv_entry ([.ref a0]) (n := 1) (Nat.le_of_ble_eq_true rfl)
  rw [lg_entry_eq]
  generalize (lg_sl ([.ref a0]) ++ List.replicate (1 - (lg_sl ([.ref a0])).length) Slot.unset).toArray = ls at hl ⊢
  have hl : lv_has ls 1 [(0, .ref a0)] := hl
  unfold fD_demandEnd at hf
  refine lv_aload_n hx hb dD_demandEnd_0 rfl (lv_at hl 0 rfl) ?_
  refine va_get (D := D) (ci := 4) (v := .int v6) (C := "ValueBench$Reader") (T := TD) (N := 4) hx hb htx inD hown hK hP 0 rfl rfl 2 (by decide) (htx _ kw_2_31) (fun _ h9 => h9) rfl dD_demandEnd_1 ?_
  refine lv_aload_n hx hb dD_demandEnd_4 rfl (lv_at hl 0 rfl) ?_
  refine va_get (D := D) (ci := 4) (v := .ref a1) (C := "ValueBench$Reader") (T := TD) (N := 4) hx hb htx inD hown hK hP 0 rfl rfl 0 (by decide) (htx _ kw_2_29) (fun _ h9 => h9) rfl dD_demandEnd_5 ?_
  obtain ⟨o1, hq2, hf⟩ := xbind hf
  obtain ⟨hPc, hDc, hFc⟩ := xcut (wc := [(a1, .inr (1, [.ref a2, .int v1, .int v2])), (a2, .inl (cT 0, 4096, .inl f0))]) hP hD hS hA [1, 2] rfl rfl (by decide)
  refine va_calli (va_runV (C := "ValueBench$Text") (As := []) (rest := [.int v6]) ⟨hx, hb, hml, hown, htx⟩ (gT_size l hl9 D cT aK aV s.heap.size n a1 a2 f0 v1 v2 o1 hq2) ⟨callB_of 0 htx (xw_goodC kw_1_131) rfl rfl rfl (htx _ kw_1_2) (htx _ kw_2_54) ⟨by decide, by decide, by decide +kernel⟩ ⟨Nat.le_of_ble_eq_true rfl, Nat.le_of_ble_eq_true rfl⟩, (htx _ kw_1_129), (htx _ kw_1_130)⟩ ⟨xPre_blind, va_recv hK hP (ci := 1) rfl (q0 := 1) rfl, (fun U hU hW => ⟨rfl, xPre_of hZ hS hFc hPc hDc hK U hU hW⟩)⟩ rfl rfl hl.1 rfl (lv_room (Nat.le_of_ble_eq_true rfl)) dD_demandEnd_8 ⟨Nat.le_of_ble_eq_true rfl, Nat.le_of_ble_eq_true rfl⟩) hS (fun q _ h => hFc q h) hFc (fun r3 u9 t H1 locs ht hvm hr9 hB hz1 hk1 hS => ?_)
  obtain ⟨hP1, hK1, hD1⟩ := hB
  rw [ht] at hP1
  obtain ⟨hP, hD⟩ := xjoin (W := [(a0, .inr (4, [.ref a1, .ref a3, .int v6, .int v7])), (a3, .inr (2, [.ref a4, .int v4, .int v5])), (a4, .inl (cT 2, 4096, .inr (.inl f3))), (a1, .inr (1, [.ref a2, .int v1, .int v2])), (a2, .inl (cT 0, 4096, .inl f0))]) hP hD [1, 2] [0, 3, 4] 3 rfl rfl (by decide) (by decide) hk1 hFc hP1 hD1
  generalize H1 = H at hP hS ⊢
  rw [hr9]
  refine W.eq (g2 := F0 m 11 ls [.int o1, .int v6]) rfl ?_
  refine lv_icmp_ge (tgt := 23) hx hb dD_demandEnd_11 (by decide) (fun hc => ?_) (fun hc => ?_)
  · rw [if_pos hc] at hf
    obtain rfl := Option.some.inj hf
    obtain ⟨hP9, hD9⟩ := xsub (wc := [(a0, .inr (4, [.ref a1, .ref a3, .int v6, .int v7])), (a1, .inr (1, [.ref a2, .int v1, .int v2])), (a2, .inl (cT 0, 4096, .inl f0)), (a3, .inr (2, [.ref a4, .int v4, .int v5])), (a4, .inl (cT 2, 4096, .inr (.inl f3)))]) hP hD [0, 3, 4, 1, 2] rfl rfl (by decide)
    exact W.vret hx hb hr (fun t ht hW => ⟨⟨(), rfl, trivial, by rw [ht]; exact hP9, va_K.moved hW.alike hK, hD9⟩, hS.F ht⟩) hS.2.2 dD_demandEnd_23
  · rw [if_neg hc] at hf
    refine lv_aload_n hx hb dD_demandEnd_14 rfl (lv_at hl 0 rfl) ?_
    refine lv_aload_n hx hb dD_demandEnd_15 rfl (lv_at hl 0 rfl) ?_
    refine va_get (D := D) (ci := 4) (v := .int v6) (C := "ValueBench$Reader") (T := TD) (N := 4) hx hb htx inD hown hK hP 0 rfl rfl 2 (by decide) (htx _ kw_2_31) (fun _ h9 => h9) rfl dD_demandEnd_16 ?_
    obtain ⟨o4, hq5, hf⟩ := xbind hf
    obtain ⟨hPc, hDc, hFc⟩ := xcut (wc := [(a0, .inr (4, [.ref a1, .ref a3, .int v6, .int v7])), (a1, .inr (1, [.ref a2, .int v1, .int v2])), (a2, .inl (cT 0, 4096, .inl f0)), (a3, .inr (2, [.ref a4, .int v4, .int v5])), (a4, .inl (cT 2, 4096, .inr (.inl f3)))]) hP hD hS hA [0, 3, 4, 1, 2] rfl rfl (by decide)
    refine va_calli (va_runV (C := "ValueBench$Reader") (As := [.int v6]) (rest := []) ⟨hx, hb, hml, hown, htx⟩ (gD_broken l hl9 D cT aK aV H.size n a0 a1 a2 a3 a4 v6 f0 v1 v2 f3 v4 v5 v6 v7 o4 hq5) ⟨callB_of 1 htx (xw_goodC kw_2_122) rfl rfl rfl (htx _ kw_1_16) (htx _ kw_2_119) ⟨by decide, by decide, by decide +kernel⟩ ⟨Nat.le_of_ble_eq_true rfl, Nat.le_of_ble_eq_true rfl⟩, (htx _ kw_2_121), (htx _ kp_D_broken)⟩ ⟨xPre_blind, va_recv hK hP (ci := 4) rfl (q0 := 0) rfl, (fun U hU hW => ⟨rfl, xPre_of hZ hS hFc hPc hDc hK U hU hW⟩)⟩ rfl rfl hl.1 rfl (lv_room (Nat.le_of_ble_eq_true rfl)) dD_demandEnd_19 ⟨Nat.le_of_ble_eq_true rfl, Nat.le_of_ble_eq_true rfl⟩) hS (fun q _ h => hFc q h) hFc (fun r6 u9 t H1 locs ht hvm hr9 hB hz1 hk1 hS => ?_)
    obtain ⟨hP1, hK1, hD1⟩ := hB
    rw [ht] at hP1
    obtain ⟨hP, hD⟩ := xjoin (W := [(a0, .inr (4, [.ref a1, .ref a3, .int v6, .int o4.2])), (a1, .inr (1, [.ref a2, .int v1, .int v2])), (a2, .inl (cT 0, 4096, .inl f0)), (a3, .inr (2, [.ref a4, .int v4, .int v5])), (a4, .inl (cT 2, 4096, .inr (.inl f3)))]) hP hD [0, 3, 4, 1, 2] [] 0 rfl rfl (by decide) (by decide) hk1 hFc hP1 hD1
    generalize H1 = H at hP hS ⊢
    rw [hr9]
    refine W.eq (g2 := F0 m 22 ls [.int o4.1]) rfl ?_
    refine lv_pop hx hb dD_demandEnd_22 rfl ?_
    obtain rfl := Option.some.inj hf
    obtain ⟨hP9, hD9⟩ := xsub (wc := [(a0, .inr (4, [.ref a1, .ref a3, .int v6, .int o4.2])), (a1, .inr (1, [.ref a2, .int v1, .int v2])), (a2, .inl (cT 0, 4096, .inl f0)), (a3, .inr (2, [.ref a4, .int v4, .int v5])), (a4, .inl (cT 2, 4096, .inr (.inl f3)))]) hP hD [0, 1, 2, 3, 4] rfl rfl (by decide)
    exact W.vret hx hb hr (fun t ht hW => ⟨⟨(), rfl, trivial, by rw [ht]; exact hP9, va_K.moved hW.alike hK, hD9⟩, hS.F ht⟩) hS.2.2 dD_demandEnd_23
set_option maxHeartbeats 400000000 in
set_option maxRecDepth 100000 in
theorem gD_readValue (l : Launch) (hl9 : l.stackTraces = false) (D : va_G) (cT : Nat → ClassId) (aK aV : Nat → Nat) (sz d n : Nat) (a0 : Nat) (a1 : Nat) (a2 : Nat) (a3 : Nat) (a4 : Nat) (f0 : Nat → Int32) (v1 : Int32) (v2 : Int32) (f3 : Nat → Int64) (v4 : Int32) (v5 : Int32) (v6 : Int32) (v7 : Int32) (out : Int32 × (Nat → Int64) × Int32 × Int32 × Int32 × Int32) (hf : fD_readValue d n f0 v1 v2 f3 v4 v5 v6 v7 = some out) : xMet l yD_readValue wyD_readValue (16 * d + 2) 0 0 (400 * d + 41) D cT aK aV sz [.ref a0] [(a0, .inr (4, [.ref a1, .ref a3, .int v6, .int v7])), (a1, .inr (1, [.ref a2, .int v1, .int v2])), (a2, .inl (cT 0, 4096, .inl f0)), (a3, .inr (2, [.ref a4, .int v4, .int v5])), (a4, .inl (cT 2, 4096, .inr (.inl f3)))] (fun A => va_Qi (fun (r : Int32) (_ : Unit) => r = out.1) (fun _ t => xB D xcl cT A [(a0, .inr (4, [.ref a1, .ref a3, .int out.2.2.2.2.1, .int out.2.2.2.2.2])), (a1, .inr (1, [.ref a2, .int v1, .int v2])), (a2, .inl (cT 0, 4096, .inl f0)), (a3, .inr (2, [.ref a4, .int out.2.2.1, .int out.2.2.2.1])), (a4, .inl (cT 2, 4096, .inr (.inl out.2.1)))] t) A) := by
  refine Met.ofW (cc := prog_7_method_2_code) (maxL := 1) (ret := (some .int)) (by decide) rfl ?_
  intro p e s m args below meth c s₁ B hml hv
  obtain ⟨rfl, hsz, hZ, hP, hK, hD0⟩ := hv
  have hx := B.exec
  have hb := B.bytes
  have hr := B.returns
  have hts := atoms_spec (ws := wyD_readValue) B.pre
  have htx := fun w h => hts w (List.mem_cons_of_mem _ h)
  have hown : s.vm.findClass "ValueBench$Reader" = some m.cls := findClass_of_methodNamed B.named
  have hlocks := B.notSynchronized
  subst hsz
  have hD := hD0.self (sz := s.heap.size)
  generalize hAe : va_A [(a0, .inr (4, [.ref a1, .ref a3, .int v6, .int v7])), (a1, .inr (1, [.ref a2, .int v1, .int v2])), (a2, .inl (cT 0, 4096, .inl f0)), (a3, .inr (2, [.ref a4, .int v4, .int v5])), (a4, .inl (cT 2, 4096, .inr (.inl f3)))] s.heap.size = A at hD hZ ⊢
  have hA : ∀ q : Nat, s.heap.size ≤ q → A q := fun q h => by rw [← hAe]; exact Or.inr h
  have hS : va_S A s.heap s.heap [] := va_S.rf
  have hP : va_P D xcl [(a0, .inr (4, [.ref a1, .ref a3, .int v6, .int v7])), (a1, .inr (1, [.ref a2, .int v1, .int v2])), (a2, .inl (cT 0, 4096, .inl f0)), (a3, .inr (2, [.ref a4, .int v4, .int v5])), (a4, .inl (cT 2, 4096, .inr (.inl f3)))] s.heap := hP
  have hl := lv_entry ([.ref a0]) (n := 1) (Nat.le_of_ble_eq_true rfl)
  rw [lg_entry_eq]
  generalize (lg_sl ([.ref a0]) ++ List.replicate (1 - (lg_sl ([.ref a0])).length) Slot.unset).toArray = ls at hl ⊢
  have hl : lv_has ls 1 [(0, .ref a0)] := hl
  unfold fD_readValue at hf
  refine lv_aload_n hx hb dD_readValue_0 rfl (lv_at hl 0 rfl) ?_
  refine lv_iconst (v := 0) hx hb dD_readValue_1 (by decide) ?_
  obtain ⟨o1, hq2, hf⟩ := xbind hf
  obtain ⟨hPc, hDc, hFc⟩ := xcut (wc := [(a0, .inr (4, [.ref a1, .ref a3, .int v6, .int v7])), (a1, .inr (1, [.ref a2, .int v1, .int v2])), (a2, .inl (cT 0, 4096, .inl f0)), (a3, .inr (2, [.ref a4, .int v4, .int v5])), (a4, .inl (cT 2, 4096, .inr (.inl f3)))]) hP hD hS hA [0, 1, 2, 3, 4] rfl rfl (by decide)
  refine va_calli (va_runV (C := "ValueBench$Reader") (As := [.int 0]) (rest := []) ⟨hx, hb, hml, hown, htx⟩ (gD_value l hl9 D cT aK aV d s.heap.size n a0 a1 a2 a3 a4 (0 : Int32) f0 v1 v2 f3 v4 v5 v6 v7 o1 hq2) ⟨callB_of 1 htx (xw_goodC kw_2_49) rfl rfl rfl (htx _ kw_1_16) (htx _ kw_2_46) ⟨by decide, by decide, by decide +kernel⟩ ⟨(by show (16 * d) + 1 ≤ 16 * d + 2; omega), (by show 8 + (2 + 11) + (400 * d) ≤ 400 * d + 41; omega)⟩, (htx _ kw_2_48), (htx _ kp_D_value)⟩ ⟨xPre_blind, va_recv hK hP (ci := 4) rfl (q0 := 0) rfl, (fun U hU hW => ⟨rfl, xPre_of hZ hS hFc hPc hDc hK U hU hW⟩)⟩ rfl rfl hl.1 rfl (lv_room (Nat.le_of_ble_eq_true rfl)) dD_readValue_2 ⟨Nat.le_of_ble_eq_true rfl, Nat.le_of_ble_eq_true rfl⟩) hS (fun q _ h => hFc q h) hFc (fun r3 u9 t H1 locs ht hvm hr9 hB hz1 hk1 hS => ?_)
  obtain ⟨hP1, hK1, hD1⟩ := hB
  rw [ht] at hP1
  obtain ⟨hP, hD⟩ := xjoin (W := [(a0, .inr (4, [.ref a1, .ref a3, .int o1.2.2.2.2.1, .int o1.2.2.2.2.2])), (a1, .inr (1, [.ref a2, .int v1, .int v2])), (a2, .inl (cT 0, 4096, .inl f0)), (a3, .inr (2, [.ref a4, .int o1.2.2.1, .int o1.2.2.2.1])), (a4, .inl (cT 2, 4096, .inr (.inl o1.2.1)))]) hP hD [0, 1, 2, 3, 4] [] 0 rfl rfl (by decide) (by decide) hk1 hFc hP1 hD1
  generalize H1 = H at hP hS ⊢
  rw [hr9]
  refine W.eq (g2 := F0 m 5 ls [.int o1.1]) rfl ?_
  refine lv_if_eq (tgt := 16) hx hb dD_readValue_5 (by decide) (fun hc => ?_) (fun hc => ?_)
  · rw [if_pos hc] at hf
    refine lv_aload_n hx hb dD_readValue_16 rfl (lv_at hl 0 rfl) ?_
    refine va_get (D := D) (ci := 4) (v := .int o1.2.2.2.2.2) (C := "ValueBench$Reader") (T := TD) (N := 4) hx hb htx inD hown hK hP 0 rfl rfl 3 (by decide) (htx _ kw_2_32) (fun _ h9 => h9) rfl dD_readValue_17 ?_
    obtain rfl := Option.some.inj hf
    obtain ⟨hP9, hD9⟩ := xsub (wc := [(a0, .inr (4, [.ref a1, .ref a3, .int o1.2.2.2.2.1, .int o1.2.2.2.2.2])), (a1, .inr (1, [.ref a2, .int v1, .int v2])), (a2, .inl (cT 0, 4096, .inl f0)), (a3, .inr (2, [.ref a4, .int o1.2.2.1, .int o1.2.2.2.1])), (a4, .inl (cT 2, 4096, .inr (.inl o1.2.1)))]) hP hD [0, 1, 2, 3, 4] rfl rfl (by decide)
    exact W.iret (v := o1.2.2.2.2.2) hx hb hr (fun t ht hW => ⟨⟨o1.2.2.2.2.2, (), rfl, rfl, by rw [ht]; exact hP9, va_K.moved hW.alike hK, hD9⟩, hS.F ht⟩) hS.2.2 dD_readValue_20
  · rw [if_neg hc] at hf
    refine lv_aload_n hx hb dD_readValue_8 rfl (lv_at hl 0 rfl) ?_
    obtain ⟨o4, hq5, hf⟩ := xbind hf
    obtain ⟨hPc, hDc, hFc⟩ := xcut (wc := [(a0, .inr (4, [.ref a1, .ref a3, .int o1.2.2.2.2.1, .int o1.2.2.2.2.2])), (a1, .inr (1, [.ref a2, .int v1, .int v2])), (a2, .inl (cT 0, 4096, .inl f0)), (a3, .inr (2, [.ref a4, .int o1.2.2.1, .int o1.2.2.2.1])), (a4, .inl (cT 2, 4096, .inr (.inl o1.2.1)))]) hP hD hS hA [0, 1, 2, 3, 4] rfl rfl (by decide)
    refine va_callv (va_runV (C := "ValueBench$Reader") (As := []) (rest := []) ⟨hx, hb, hml, hown, htx⟩ (gD_skipBlanks l hl9 D cT aK aV H.size n a0 a1 a2 a3 a4 f0 v1 v2 o1.2.1 o1.2.2.1 o1.2.2.2.1 o1.2.2.2.2.1 o1.2.2.2.2.2 o4 hq5) ⟨callB_of 0 htx (xw_goodC kw_2_53) rfl rfl rfl (htx _ kw_1_16) (htx _ kw_2_50) ⟨by decide, by decide, by decide +kernel⟩ ⟨Nat.le_of_ble_eq_true rfl, Nat.le_of_ble_eq_true rfl⟩, (htx _ kw_2_52), (htx _ kp_D_skipBlanks)⟩ ⟨xPre_blind, va_recv hK hP (ci := 4) rfl (q0 := 0) rfl, (fun U hU hW => ⟨rfl, xPre_of hZ hS hFc hPc hDc hK U hU hW⟩)⟩ rfl rfl hl.1 rfl (lv_room (Nat.le_of_ble_eq_true rfl)) dD_readValue_9 ⟨Nat.le_of_ble_eq_true rfl, Nat.le_of_ble_eq_true rfl⟩) hS (fun q _ h => hFc q h) hFc (fun u9 t H1 locs ht hvm hr9 hB hz1 hk1 hS => ?_)
    obtain ⟨hP1, hK1, hD1⟩ := hB
    rw [ht] at hP1
    obtain ⟨hP, hD⟩ := xjoin (W := [(a0, .inr (4, [.ref a1, .ref a3, .int o4, .int o1.2.2.2.2.2])), (a1, .inr (1, [.ref a2, .int v1, .int v2])), (a2, .inl (cT 0, 4096, .inl f0)), (a3, .inr (2, [.ref a4, .int o1.2.2.1, .int o1.2.2.2.1])), (a4, .inl (cT 2, 4096, .inr (.inl o1.2.1)))]) hP hD [0, 1, 2, 3, 4] [] 0 rfl rfl (by decide) (by decide) hk1 hFc hP1 hD1
    generalize H1 = H at hP hS ⊢
    refine lv_aload_n hx hb dD_readValue_12 rfl (lv_at hl 0 rfl) ?_
    obtain ⟨o6, hq7, hf⟩ := xbind hf
    obtain ⟨hPc, hDc, hFc⟩ := xcut (wc := [(a0, .inr (4, [.ref a1, .ref a3, .int o4, .int o1.2.2.2.2.2])), (a1, .inr (1, [.ref a2, .int v1, .int v2])), (a2, .inl (cT 0, 4096, .inl f0)), (a3, .inr (2, [.ref a4, .int o1.2.2.1, .int o1.2.2.2.1])), (a4, .inl (cT 2, 4096, .inr (.inl o1.2.1)))]) hP hD hS hA [0, 1, 2, 3, 4] rfl rfl (by decide)
    refine va_callv (va_runV (C := "ValueBench$Reader") (As := []) (rest := []) ⟨hx, hb, hml, hown, htx⟩ (gD_demandEnd l hl9 D cT aK aV H.size n a0 a1 a2 a3 a4 f0 v1 v2 o1.2.1 o1.2.2.1 o1.2.2.2.1 o4 o1.2.2.2.2.2 o6 hq7) ⟨callB_of 0 htx (xw_goodC kw_2_233) rfl rfl rfl (htx _ kw_1_16) (htx _ kw_2_230) ⟨by decide, by decide, by decide +kernel⟩ ⟨Nat.le_of_ble_eq_true rfl, Nat.le_of_ble_eq_true rfl⟩, (htx _ kw_2_232), (htx _ kp_D_demandEnd)⟩ ⟨xPre_blind, va_recv hK hP (ci := 4) rfl (q0 := 0) rfl, (fun U hU hW => ⟨rfl, xPre_of hZ hS hFc hPc hDc hK U hU hW⟩)⟩ rfl rfl hl.1 rfl (lv_room (Nat.le_of_ble_eq_true rfl)) dD_readValue_13 ⟨Nat.le_of_ble_eq_true rfl, Nat.le_of_ble_eq_true rfl⟩) hS (fun q _ h => hFc q h) hFc (fun u9 t H1 locs ht hvm hr9 hB hz1 hk1 hS => ?_)
    obtain ⟨hP1, hK1, hD1⟩ := hB
    rw [ht] at hP1
    obtain ⟨hP, hD⟩ := xjoin (W := [(a0, .inr (4, [.ref a1, .ref a3, .int o4, .int o6])), (a1, .inr (1, [.ref a2, .int v1, .int v2])), (a2, .inl (cT 0, 4096, .inl f0)), (a3, .inr (2, [.ref a4, .int o1.2.2.1, .int o1.2.2.2.1])), (a4, .inl (cT 2, 4096, .inr (.inl o1.2.1)))]) hP hD [0, 1, 2, 3, 4] [] 0 rfl rfl (by decide) (by decide) hk1 hFc hP1 hD1
    generalize H1 = H at hP hS ⊢
    refine lv_aload_n hx hb dD_readValue_16 rfl (lv_at hl 0 rfl) ?_
    refine va_get (D := D) (ci := 4) (v := .int o6) (C := "ValueBench$Reader") (T := TD) (N := 4) hx hb htx inD hown hK hP 0 rfl rfl 3 (by decide) (htx _ kw_2_32) (fun _ h9 => h9) rfl dD_readValue_17 ?_
    obtain rfl := Option.some.inj hf
    obtain ⟨hP9, hD9⟩ := xsub (wc := [(a0, .inr (4, [.ref a1, .ref a3, .int o4, .int o6])), (a1, .inr (1, [.ref a2, .int v1, .int v2])), (a2, .inl (cT 0, 4096, .inl f0)), (a3, .inr (2, [.ref a4, .int o1.2.2.1, .int o1.2.2.2.1])), (a4, .inl (cT 2, 4096, .inr (.inl o1.2.1)))]) hP hD [0, 1, 2, 3, 4] rfl rfl (by decide)
    exact W.iret (v := o6) hx hb hr (fun t ht hW => ⟨⟨o6, (), rfl, rfl, by rw [ht]; exact hP9, va_K.moved hW.alike hK, hD9⟩, hS.F ht⟩) hS.2.2 dD_readValue_20
set_option maxHeartbeats 400000000 in
set_option maxRecDepth 100000 in
theorem gD_readNumber (l : Launch) (hl9 : l.stackTraces = false) (D : va_G) (cT : Nat → ClassId) (aK aV : Nat → Nat) (sz n : Nat) (a0 : Nat) (a1 : Nat) (a2 : Nat) (a3 : Nat) (a4 : Nat) (f0 : Nat → Int32) (v1 : Int32) (v2 : Int32) (f3 : Nat → Int64) (v4 : Int32) (v5 : Int32) (v6 : Int32) (v7 : Int32) (out : Int32 × (Nat → Int64) × Int32 × Int32 × Int32 × Int32) (hf : fD_readNumber n f0 v1 v2 f3 v4 v5 v6 v7 = some out) : xMet l yD_readNumber wyD_readNumber 3 0 0 68 D cT aK aV sz [.ref a0] [(a0, .inr (4, [.ref a1, .ref a3, .int v6, .int v7])), (a1, .inr (1, [.ref a2, .int v1, .int v2])), (a2, .inl (cT 0, 4096, .inl f0)), (a3, .inr (2, [.ref a4, .int v4, .int v5])), (a4, .inl (cT 2, 4096, .inr (.inl f3)))] (fun A => va_Qi (fun (r : Int32) (_ : Unit) => r = out.1) (fun _ t => xB D xcl cT A [(a0, .inr (4, [.ref a1, .ref a3, .int out.2.2.2.2.1, .int out.2.2.2.2.2])), (a1, .inr (1, [.ref a2, .int v1, .int v2])), (a2, .inl (cT 0, 4096, .inl f0)), (a3, .inr (2, [.ref a4, .int out.2.2.1, .int out.2.2.2.1])), (a4, .inl (cT 2, 4096, .inr (.inl out.2.1)))] t) A) := by
  refine Met.ofW (cc := prog_7_method_3_code) (maxL := 1) (ret := (some .int)) (by decide) rfl ?_
  intro p e s m args below meth c s₁ B hml hv
  obtain ⟨rfl, hsz, hZ, hP, hK, hD0⟩ := hv
  have hx := B.exec
  have hb := B.bytes
  have hr := B.returns
  have hts := atoms_spec (ws := wyD_readNumber) B.pre
  have htx := fun w h => hts w (List.mem_cons_of_mem _ h)
  have hown : s.vm.findClass "ValueBench$Reader" = some m.cls := findClass_of_methodNamed B.named
  have hlocks := B.notSynchronized
  subst hsz
  have hD := hD0.self (sz := s.heap.size)
  generalize hAe : va_A [(a0, .inr (4, [.ref a1, .ref a3, .int v6, .int v7])), (a1, .inr (1, [.ref a2, .int v1, .int v2])), (a2, .inl (cT 0, 4096, .inl f0)), (a3, .inr (2, [.ref a4, .int v4, .int v5])), (a4, .inl (cT 2, 4096, .inr (.inl f3)))] s.heap.size = A at hD hZ ⊢
  have hA : ∀ q : Nat, s.heap.size ≤ q → A q := fun q h => by rw [← hAe]; exact Or.inr h
  have hS : va_S A s.heap s.heap [] := va_S.rf
  have hP : va_P D xcl [(a0, .inr (4, [.ref a1, .ref a3, .int v6, .int v7])), (a1, .inr (1, [.ref a2, .int v1, .int v2])), (a2, .inl (cT 0, 4096, .inl f0)), (a3, .inr (2, [.ref a4, .int v4, .int v5])), (a4, .inl (cT 2, 4096, .inr (.inl f3)))] s.heap := hP
  have hl := lv_entry ([.ref a0]) (n := 1) (Nat.le_of_ble_eq_true rfl)
  rw [lg_entry_eq]
  generalize (lg_sl ([.ref a0]) ++ List.replicate (1 - (lg_sl ([.ref a0])).length) Slot.unset).toArray = ls at hl ⊢
  have hl : lv_has ls 1 [(0, .ref a0)] := hl
  unfold fD_readNumber at hf
  refine lv_aload_n hx hb dD_readNumber_0 rfl (lv_at hl 0 rfl) ?_
  obtain ⟨o1, hq2, hf⟩ := xbind hf
  obtain ⟨hPc, hDc, hFc⟩ := xcut (wc := [(a0, .inr (4, [.ref a1, .ref a3, .int v6, .int v7])), (a1, .inr (1, [.ref a2, .int v1, .int v2])), (a2, .inl (cT 0, 4096, .inl f0)), (a3, .inr (2, [.ref a4, .int v4, .int v5])), (a4, .inl (cT 2, 4096, .inr (.inl f3)))]) hP hD hS hA [0, 1, 2, 3, 4] rfl rfl (by decide)
  refine va_calli (va_runV (C := "ValueBench$Reader") (As := []) (rest := []) ⟨hx, hb, hml, hown, htx⟩ (gD_number l hl9 D cT aK aV s.heap.size n a0 a1 a2 a3 a4 f0 v1 v2 f3 v4 v5 v6 v7 o1 hq2) ⟨callB_of 0 htx (xw_goodC kw_2_214) rfl rfl rfl (htx _ kw_1_16) (htx _ kw_2_211) ⟨by decide, by decide, by decide +kernel⟩ ⟨Nat.le_of_ble_eq_true rfl, Nat.le_of_ble_eq_true rfl⟩, (htx _ kw_2_213), (htx _ kp_D_number)⟩ ⟨xPre_blind, va_recv hK hP (ci := 4) rfl (q0 := 0) rfl, (fun U hU hW => ⟨rfl, xPre_of hZ hS hFc hPc hDc hK U hU hW⟩)⟩ rfl rfl hl.1 rfl (lv_room (Nat.le_of_ble_eq_true rfl)) dD_readNumber_1 ⟨Nat.le_of_ble_eq_true rfl, Nat.le_of_ble_eq_true rfl⟩) hS (fun q _ h => hFc q h) hFc (fun r3 u9 t H1 locs ht hvm hr9 hB hz1 hk1 hS => ?_)
  obtain ⟨hP1, hK1, hD1⟩ := hB
  rw [ht] at hP1
  obtain ⟨hP, hD⟩ := xjoin (W := [(a0, .inr (4, [.ref a1, .ref a3, .int o1.2.2.2.2.1, .int o1.2.2.2.2.2])), (a1, .inr (1, [.ref a2, .int v1, .int v2])), (a2, .inl (cT 0, 4096, .inl f0)), (a3, .inr (2, [.ref a4, .int o1.2.2.1, .int o1.2.2.2.1])), (a4, .inl (cT 2, 4096, .inr (.inl o1.2.1)))]) hP hD [0, 1, 2, 3, 4] [] 0 rfl rfl (by decide) (by decide) hk1 hFc hP1 hD1
  generalize H1 = H at hP hS ⊢
  rw [hr9]
  refine W.eq (g2 := F0 m 4 ls [.int o1.1]) rfl ?_
  refine lv_if_eq (tgt := 11) hx hb dD_readNumber_4 (by decide) (fun hc => ?_) (fun hc => ?_)
  · rw [if_pos hc] at hf
    refine lv_aload_n hx hb dD_readNumber_11 rfl (lv_at hl 0 rfl) ?_
    refine va_get (D := D) (ci := 4) (v := .int o1.2.2.2.2.2) (C := "ValueBench$Reader") (T := TD) (N := 4) hx hb htx inD hown hK hP 0 rfl rfl 3 (by decide) (htx _ kw_2_32) (fun _ h9 => h9) rfl dD_readNumber_12 ?_
    obtain rfl := Option.some.inj hf
    obtain ⟨hP9, hD9⟩ := xsub (wc := [(a0, .inr (4, [.ref a1, .ref a3, .int o1.2.2.2.2.1, .int o1.2.2.2.2.2])), (a1, .inr (1, [.ref a2, .int v1, .int v2])), (a2, .inl (cT 0, 4096, .inl f0)), (a3, .inr (2, [.ref a4, .int o1.2.2.1, .int o1.2.2.2.1])), (a4, .inl (cT 2, 4096, .inr (.inl o1.2.1)))]) hP hD [0, 1, 2, 3, 4] rfl rfl (by decide)
    exact W.iret (v := o1.2.2.2.2.2) hx hb hr (fun t ht hW => ⟨⟨o1.2.2.2.2.2, (), rfl, rfl, by rw [ht]; exact hP9, va_K.moved hW.alike hK, hD9⟩, hS.F ht⟩) hS.2.2 dD_readNumber_15
  · rw [if_neg hc] at hf
    refine lv_aload_n hx hb dD_readNumber_7 rfl (lv_at hl 0 rfl) ?_
    obtain ⟨o4, hq5, hf⟩ := xbind hf
    obtain ⟨hPc, hDc, hFc⟩ := xcut (wc := [(a0, .inr (4, [.ref a1, .ref a3, .int o1.2.2.2.2.1, .int o1.2.2.2.2.2])), (a1, .inr (1, [.ref a2, .int v1, .int v2])), (a2, .inl (cT 0, 4096, .inl f0)), (a3, .inr (2, [.ref a4, .int o1.2.2.1, .int o1.2.2.2.1])), (a4, .inl (cT 2, 4096, .inr (.inl o1.2.1)))]) hP hD hS hA [0, 1, 2, 3, 4] rfl rfl (by decide)
    refine va_callv (va_runV (C := "ValueBench$Reader") (As := []) (rest := []) ⟨hx, hb, hml, hown, htx⟩ (gD_demandEnd l hl9 D cT aK aV H.size n a0 a1 a2 a3 a4 f0 v1 v2 o1.2.1 o1.2.2.1 o1.2.2.2.1 o1.2.2.2.2.1 o1.2.2.2.2.2 o4 hq5) ⟨callB_of 0 htx (xw_goodC kw_2_233) rfl rfl rfl (htx _ kw_1_16) (htx _ kw_2_230) ⟨by decide, by decide, by decide +kernel⟩ ⟨Nat.le_of_ble_eq_true rfl, Nat.le_of_ble_eq_true rfl⟩, (htx _ kw_2_232), (htx _ kp_D_demandEnd)⟩ ⟨xPre_blind, va_recv hK hP (ci := 4) rfl (q0 := 0) rfl, (fun U hU hW => ⟨rfl, xPre_of hZ hS hFc hPc hDc hK U hU hW⟩)⟩ rfl rfl hl.1 rfl (lv_room (Nat.le_of_ble_eq_true rfl)) dD_readNumber_8 ⟨Nat.le_of_ble_eq_true rfl, Nat.le_of_ble_eq_true rfl⟩) hS (fun q _ h => hFc q h) hFc (fun u9 t H1 locs ht hvm hr9 hB hz1 hk1 hS => ?_)
    obtain ⟨hP1, hK1, hD1⟩ := hB
    rw [ht] at hP1
    obtain ⟨hP, hD⟩ := xjoin (W := [(a0, .inr (4, [.ref a1, .ref a3, .int o1.2.2.2.2.1, .int o4])), (a1, .inr (1, [.ref a2, .int v1, .int v2])), (a2, .inl (cT 0, 4096, .inl f0)), (a3, .inr (2, [.ref a4, .int o1.2.2.1, .int o1.2.2.2.1])), (a4, .inl (cT 2, 4096, .inr (.inl o1.2.1)))]) hP hD [0, 1, 2, 3, 4] [] 0 rfl rfl (by decide) (by decide) hk1 hFc hP1 hD1
    generalize H1 = H at hP hS ⊢
    refine lv_aload_n hx hb dD_readNumber_11 rfl (lv_at hl 0 rfl) ?_
    refine va_get (D := D) (ci := 4) (v := .int o4) (C := "ValueBench$Reader") (T := TD) (N := 4) hx hb htx inD hown hK hP 0 rfl rfl 3 (by decide) (htx _ kw_2_32) (fun _ h9 => h9) rfl dD_readNumber_12 ?_
    obtain rfl := Option.some.inj hf
    obtain ⟨hP9, hD9⟩ := xsub (wc := [(a0, .inr (4, [.ref a1, .ref a3, .int o1.2.2.2.2.1, .int o4])), (a1, .inr (1, [.ref a2, .int v1, .int v2])), (a2, .inl (cT 0, 4096, .inl f0)), (a3, .inr (2, [.ref a4, .int o1.2.2.1, .int o1.2.2.2.1])), (a4, .inl (cT 2, 4096, .inr (.inl o1.2.1)))]) hP hD [0, 1, 2, 3, 4] rfl rfl (by decide)
    exact W.iret (v := o4) hx hb hr (fun t ht hW => ⟨⟨o4, (), rfl, rfl, by rw [ht]; exact hP9, va_K.moved hW.alike hK, hD9⟩, hS.F ht⟩) hS.2.2 dD_readNumber_15
set_option maxHeartbeats 400000000 in
set_option maxRecDepth 100000 in
theorem gG_length (l : Launch) (hl9 : l.stackTraces = false) (D : va_G) (cT : Nat → ClassId) (aK aV : Nat → Nat) (sz n : Nat) (a0 : Nat) (a1 : Nat) (a2 : Nat) (a3 : Nat) (f0 : Nat → Int64) (v1 : Int32) (v2 : Int32) (f3 : Nat → Int64) (v4 : Int32) (v5 : Int32) (out : Int32 × (Nat → Int64) × Int32 × Int32) (hf : fG_length n f0 v1 v2 f3 v4 v5 = some out) : xMet l yG_length wyG_length 2 0 0 44 D cT aK aV sz [.ref a0, .ref a2] [(a0, .inr (2, [.ref a1, .int v1, .int v2])), (a1, .inl (cT 2, 4096, .inr (.inl f0))), (a2, .inr (2, [.ref a3, .int v4, .int v5])), (a3, .inl (cT 2, 4096, .inr (.inl f3)))] (fun A => va_Qi (fun (r : Int32) (_ : Unit) => r = out.1) (fun _ t => xB D xcl cT A [(a0, .inr (2, [.ref a1, .int v1, .int v2])), (a1, .inl (cT 2, 4096, .inr (.inl f0))), (a2, .inr (2, [.ref a3, .int out.2.2.1, .int out.2.2.2])), (a3, .inl (cT 2, 4096, .inr (.inl out.2.1)))] t) A) := by
  refine Met.ofW (cc := prog_9_method_4_code) (maxL := 2) (ret := (some .int)) (by decide) rfl ?_
  intro p e s m args below meth c s₁ B hml hv
  obtain ⟨rfl, hsz, hZ, hP, hK, hD0⟩ := hv
  have hx := B.exec
  have hb := B.bytes
  have hr := B.returns
  have hts := atoms_spec (ws := wyG_length) B.pre
  have htx := fun w h => hts w (List.mem_cons_of_mem _ h)
  have hown : s.vm.findClass "ValueBench$Singles" = some m.cls := findClass_of_methodNamed B.named
  have hlocks := B.notSynchronized
  subst hsz
  have hD := hD0.self (sz := s.heap.size)
  generalize hAe : va_A [(a0, .inr (2, [.ref a1, .int v1, .int v2])), (a1, .inl (cT 2, 4096, .inr (.inl f0))), (a2, .inr (2, [.ref a3, .int v4, .int v5])), (a3, .inl (cT 2, 4096, .inr (.inl f3)))] s.heap.size = A at hD hZ ⊢
  have hA : ∀ q : Nat, s.heap.size ≤ q → A q := fun q h => by rw [← hAe]; exact Or.inr h
  have hS : va_S A s.heap s.heap [] := va_S.rf
  have hP : va_P D xcl [(a0, .inr (2, [.ref a1, .int v1, .int v2])), (a1, .inl (cT 2, 4096, .inr (.inl f0))), (a2, .inr (2, [.ref a3, .int v4, .int v5])), (a3, .inl (cT 2, 4096, .inr (.inl f3)))] s.heap := hP
  have hl := lv_entry ([.ref a0, .ref a2]) (n := 2) (Nat.le_of_ble_eq_true rfl)
  rw [lg_entry_eq]
  generalize (lg_sl ([.ref a0, .ref a2]) ++ List.replicate (2 - (lg_sl ([.ref a0, .ref a2])).length) Slot.unset).toArray = ls at hl ⊢
  have hl : lv_has ls 2 [(0, .ref a0), (1, .ref a2)] := hl
  unfold fG_length at hf
  refine lv_aload_n hx hb dG_length_0 rfl (lv_at hl 0 rfl) ?_
  refine lv_iconst (v := 0) hx hb dG_length_1 (by decide) ?_
  obtain ⟨o1, hq2, hf⟩ := xbind hf
  obtain ⟨hPc, hDc, hFc⟩ := xcut (wc := [(a0, .inr (2, [.ref a1, .int v1, .int v2])), (a1, .inl (cT 2, 4096, .inr (.inl f0)))]) hP hD hS hA [0, 1] rfl rfl (by decide)
  refine va_calli (va_runV (C := "ValueBench$Row") (As := [.int 0]) (rest := []) ⟨hx, hb, hml, hown, htx⟩ (gR_kind l hl9 D cT aK aV s.heap.size n a0 a1 (0 : Int32) f0 v1 v2 o1 hq2) ⟨callB_of 1 htx (xw_goodC kw_3_24) rfl rfl rfl (htx _ kw_1_4) (htx _ kw_4_38) ⟨by decide, by decide, by decide +kernel⟩ ⟨Nat.le_of_ble_eq_true rfl, Nat.le_of_ble_eq_true rfl⟩, (htx _ kw_3_22), (htx _ kw_3_23)⟩ ⟨xPre_blind, va_recv hK hP (ci := 2) rfl (q0 := 0) rfl, (fun U hU hW => ⟨rfl, xPre_of hZ hS hFc hPc hDc hK U hU hW⟩)⟩ rfl rfl hl.1 rfl (lv_room (Nat.le_of_ble_eq_true rfl)) dG_length_2 ⟨Nat.le_of_ble_eq_true rfl, Nat.le_of_ble_eq_true rfl⟩) hS (fun q _ h => hFc q h) hFc (fun r3 u9 t H1 locs ht hvm hr9 hB hz1 hk1 hS => ?_)
  obtain ⟨hP1, hK1, hD1⟩ := hB
  rw [ht] at hP1
  obtain ⟨hP, hD⟩ := xjoin (W := [(a2, .inr (2, [.ref a3, .int v4, .int v5])), (a3, .inl (cT 2, 4096, .inr (.inl f3))), (a0, .inr (2, [.ref a1, .int v1, .int v2])), (a1, .inl (cT 2, 4096, .inr (.inl f0)))]) hP hD [0, 1] [2, 3] 2 rfl rfl (by decide) (by decide) hk1 hFc hP1 hD1
  generalize H1 = H at hP hS ⊢
  rw [hr9]
  refine W.eq (g2 := F0 m 5 ls [.int o1]) rfl ?_
  by_cases hc4 : o1 = 0
  · rw [if_pos hc4] at hf
    refine lv_tableIn (off := 33) (tgt := 38) hx hb dG_length_5 (by rw [hc4]; decide) (by rw [hc4]; decide) (by rw [hc4]; decide) (by decide) ?_
    refine lv_aload_n hx hb dG_length_38 rfl (lv_at hl 1 rfl) ?_
    refine lv_lconst (v := 0) hx hb dG_length_39 (by decide) ?_
    obtain ⟨o5, hq6, hf⟩ := xbind hf
    obtain ⟨hPc, hDc, hFc⟩ := xcut (wc := [(a2, .inr (2, [.ref a3, .int v4, .int v5])), (a3, .inl (cT 2, 4096, .inr (.inl f3)))]) hP hD hS hA [0, 1] rfl rfl (by decide)
    refine va_callv (va_runV (C := "ValueBench$Row") (As := [.long 0]) (rest := []) ⟨hx, hb, hml, hown, htx⟩ (gR_putNumber l hl9 D cT aK aV H.size n a2 a3 (0 : Int64) f3 v4 v5 o5 hq6) ⟨callB_of 1 htx (xw_goodC kw_2_228) rfl rfl rfl (htx _ kw_1_4) (htx _ kw_4_39) ⟨by decide, by decide, by decide +kernel⟩ ⟨Nat.le_of_ble_eq_true rfl, Nat.le_of_ble_eq_true rfl⟩, (htx _ kw_2_226), (htx _ kw_2_227)⟩ ⟨xPre_blind, va_recv hK hP (ci := 2) rfl (q0 := 0) rfl, (fun U hU hW => ⟨rfl, xPre_of hZ hS hFc hPc hDc hK U hU hW⟩)⟩ rfl rfl hl.1 rfl (lv_room (Nat.le_of_ble_eq_true rfl)) dG_length_40 ⟨Nat.le_of_ble_eq_true rfl, Nat.le_of_ble_eq_true rfl⟩) hS (fun q _ h => hFc q h) hFc (fun u9 t H1 locs ht hvm hr9 hB hz1 hk1 hS => ?_)
    obtain ⟨hP1, hK1, hD1⟩ := hB
    rw [ht] at hP1
    obtain ⟨hP, hD⟩ := xjoin (W := [(a0, .inr (2, [.ref a1, .int v1, .int v2])), (a1, .inl (cT 2, 4096, .inr (.inl f0))), (a2, .inr (2, [.ref a3, .int o5.2.1, .int o5.2.2])), (a3, .inl (cT 2, 4096, .inr (.inl o5.1)))]) hP hD [0, 1] [2, 3] 2 rfl rfl (by decide) (by decide) hk1 hFc hP1 hD1
    generalize H1 = H at hP hS ⊢
    refine lv_iconst (v := 0) hx hb dG_length_43 (by decide) ?_
    obtain rfl := Option.some.inj hf
    obtain ⟨hP9, hD9⟩ := xsub (wc := [(a0, .inr (2, [.ref a1, .int v1, .int v2])), (a1, .inl (cT 2, 4096, .inr (.inl f0))), (a2, .inr (2, [.ref a3, .int o5.2.1, .int o5.2.2])), (a3, .inl (cT 2, 4096, .inr (.inl o5.1)))]) hP hD [0, 1, 2, 3] rfl rfl (by decide)
    exact W.iret (v := (0 : Int32)) hx hb hr (fun t ht hW => ⟨⟨(0 : Int32), (), rfl, rfl, by rw [ht]; exact hP9, va_K.moved hW.alike hK, hD9⟩, hS.F ht⟩) hS.2.2 dG_length_44
  rw [if_neg hc4] at hf
  by_cases hc7 : o1 = 1
  · rw [if_pos hc7] at hf
    refine lv_tableIn (off := 31) (tgt := 36) hx hb dG_length_5 (by rw [hc7]; decide) (by rw [hc7]; decide) (by rw [hc7]; decide) (by decide) ?_
    refine lv_iconst (v := 1) hx hb dG_length_36 (by decide) ?_
    obtain rfl := Option.some.inj hf
    obtain ⟨hP9, hD9⟩ := xsub (wc := [(a0, .inr (2, [.ref a1, .int v1, .int v2])), (a1, .inl (cT 2, 4096, .inr (.inl f0))), (a2, .inr (2, [.ref a3, .int v4, .int v5])), (a3, .inl (cT 2, 4096, .inr (.inl f3)))]) hP hD [2, 3, 0, 1] rfl rfl (by decide)
    exact W.iret (v := (1 : Int32)) hx hb hr (fun t ht hW => ⟨⟨(1 : Int32), (), rfl, rfl, by rw [ht]; exact hP9, va_K.moved hW.alike hK, hD9⟩, hS.F ht⟩) hS.2.2 dG_length_37
  rw [if_neg hc7] at hf
  by_cases hc8 : o1 = 2
  · rw [if_pos hc8] at hf
    refine lv_tableIn (off := 31) (tgt := 36) hx hb dG_length_5 (by rw [hc8]; decide) (by rw [hc8]; decide) (by rw [hc8]; decide) (by decide) ?_
    refine lv_iconst (v := 1) hx hb dG_length_36 (by decide) ?_
    obtain rfl := Option.some.inj hf
    obtain ⟨hP9, hD9⟩ := xsub (wc := [(a0, .inr (2, [.ref a1, .int v1, .int v2])), (a1, .inl (cT 2, 4096, .inr (.inl f0))), (a2, .inr (2, [.ref a3, .int v4, .int v5])), (a3, .inl (cT 2, 4096, .inr (.inl f3)))]) hP hD [2, 3, 0, 1] rfl rfl (by decide)
    exact W.iret (v := (1 : Int32)) hx hb hr (fun t ht hW => ⟨⟨(1 : Int32), (), rfl, rfl, by rw [ht]; exact hP9, va_K.moved hW.alike hK, hD9⟩, hS.F ht⟩) hS.2.2 dG_length_37
  rw [if_neg hc8] at hf
  by_cases hc9 : o1 = 3
  · rw [if_pos hc9] at hf
    refine lv_tableIn (off := 40) (tgt := 45) hx hb dG_length_5 (by rw [hc9]; decide) (by rw [hc9]; decide) (by rw [hc9]; decide) (by decide) ?_
    refine lv_aload_n hx hb dG_length_45 rfl (lv_at hl 1 rfl) ?_
    refine lv_aload_n hx hb dG_length_46 rfl (lv_at hl 0 rfl) ?_
    refine lv_iconst (v := 0) hx hb dG_length_47 (by decide) ?_
    obtain ⟨o10, hq11, hf⟩ := xbind hf
    obtain ⟨hPc, hDc, hFc⟩ := xcut (wc := [(a0, .inr (2, [.ref a1, .int v1, .int v2])), (a1, .inl (cT 2, 4096, .inr (.inl f0)))]) hP hD hS hA [2, 3] rfl rfl (by decide)
    refine va_calll (va_runV (C := "ValueBench$Row") (As := [.int 0]) (rest := [.ref a2]) ⟨hx, hb, hml, hown, htx⟩ (gR_number l hl9 D cT aK aV H.size n a0 a1 (0 : Int32) f0 v1 v2 o10 hq11) ⟨callB_of 1 htx (xw_goodC kw_3_37) rfl rfl rfl (htx _ kw_1_4) (htx _ kw_4_40) ⟨by decide, by decide, by decide +kernel⟩ ⟨Nat.le_of_ble_eq_true rfl, Nat.le_of_ble_eq_true rfl⟩, (htx _ kw_3_35), (htx _ kw_3_36)⟩ ⟨xPre_blind, va_recv hK hP (ci := 2) rfl (q0 := 2) rfl, (fun U hU hW => ⟨rfl, xPre_of hZ hS hFc hPc hDc hK U hU hW⟩)⟩ rfl rfl hl.1 rfl (lv_room (Nat.le_of_ble_eq_true rfl)) dG_length_48 ⟨Nat.le_of_ble_eq_true rfl, Nat.le_of_ble_eq_true rfl⟩) hS (fun q _ h => hFc q h) hFc (fun r12 u9 t H1 locs ht hvm hr9 hB hz1 hk1 hS => ?_)
    obtain ⟨hP1, hK1, hD1⟩ := hB
    rw [ht] at hP1
    obtain ⟨hP, hD⟩ := xjoin (W := [(a2, .inr (2, [.ref a3, .int v4, .int v5])), (a3, .inl (cT 2, 4096, .inr (.inl f3))), (a0, .inr (2, [.ref a1, .int v1, .int v2])), (a1, .inl (cT 2, 4096, .inr (.inl f0)))]) hP hD [2, 3] [0, 1] 2 rfl rfl (by decide) (by decide) hk1 hFc hP1 hD1
    generalize H1 = H at hP hS ⊢
    rw [hr9]
    refine W.eq (g2 := F0 m 51 ls [.long o10, .ref a2]) rfl ?_
    refine va_mabs_long hx hb (hml.trans hl.1.symm) hown (htx _ kw_4_41) (htx _ kw_3_43) (htx _ kw_1_15) (htx _ kw_3_44) (Nat.le_of_ble_eq_true rfl) (Nat.le_of_ble_eq_true rfl) (Nat.le_of_ble_eq_true rfl) (Nat.le_of_ble_eq_true rfl) dG_length_51 ?_
    refine W.eq (g2 := F0 m 54 ls [.long (if 0 < o10 then o10 else -o10), .ref a2]) rfl ?_
    obtain ⟨o13, hq14, hf⟩ := xbind hf
    obtain ⟨hPc, hDc, hFc⟩ := xcut (wc := [(a2, .inr (2, [.ref a3, .int v4, .int v5])), (a3, .inl (cT 2, 4096, .inr (.inl f3)))]) hP hD hS hA [0, 1] rfl rfl (by decide)
    refine va_callv (va_runV (C := "ValueBench$Row") (As := [.long (if 0 < o10 then o10 else -o10)]) (rest := []) ⟨hx, hb, hml, hown, htx⟩ (gR_putNumber l hl9 D cT aK aV H.size n a2 a3 (if 0 < o10 then o10 else -o10) f3 v4 v5 o13 hq14) ⟨callB_of 1 htx (xw_goodC kw_2_228) rfl rfl rfl (htx _ kw_1_4) (htx _ kw_4_39) ⟨by decide, by decide, by decide +kernel⟩ ⟨Nat.le_of_ble_eq_true rfl, Nat.le_of_ble_eq_true rfl⟩, (htx _ kw_2_226), (htx _ kw_2_227)⟩ ⟨xPre_blind, va_recv hK hP (ci := 2) rfl (q0 := 0) rfl, (fun U hU hW => ⟨rfl, xPre_of hZ hS hFc hPc hDc hK U hU hW⟩)⟩ rfl rfl hl.1 rfl (lv_room (Nat.le_of_ble_eq_true rfl)) dG_length_54 ⟨Nat.le_of_ble_eq_true rfl, Nat.le_of_ble_eq_true rfl⟩) hS (fun q _ h => hFc q h) hFc (fun u9 t H1 locs ht hvm hr9 hB hz1 hk1 hS => ?_)
    obtain ⟨hP1, hK1, hD1⟩ := hB
    rw [ht] at hP1
    obtain ⟨hP, hD⟩ := xjoin (W := [(a0, .inr (2, [.ref a1, .int v1, .int v2])), (a1, .inl (cT 2, 4096, .inr (.inl f0))), (a2, .inr (2, [.ref a3, .int o13.2.1, .int o13.2.2])), (a3, .inl (cT 2, 4096, .inr (.inl o13.1)))]) hP hD [0, 1] [2, 3] 2 rfl rfl (by decide) (by decide) hk1 hFc hP1 hD1
    generalize H1 = H at hP hS ⊢
    refine lv_iconst (v := 0) hx hb dG_length_57 (by decide) ?_
    obtain rfl := Option.some.inj hf
    obtain ⟨hP9, hD9⟩ := xsub (wc := [(a0, .inr (2, [.ref a1, .int v1, .int v2])), (a1, .inl (cT 2, 4096, .inr (.inl f0))), (a2, .inr (2, [.ref a3, .int o13.2.1, .int o13.2.2])), (a3, .inl (cT 2, 4096, .inr (.inl o13.1)))]) hP hD [0, 1, 2, 3] rfl rfl (by decide)
    exact W.iret (v := (0 : Int32)) hx hb hr (fun t ht hW => ⟨⟨(0 : Int32), (), rfl, rfl, by rw [ht]; exact hP9, va_K.moved hW.alike hK, hD9⟩, hS.F ht⟩) hS.2.2 dG_length_58
  rw [if_neg hc9] at hf
  refine lv_tableOut (tgt := 59) hx hb dG_length_5 (by have e0 : o1.toInt ≠ 0 := xsw hc4 (by decide); have e1 : o1.toInt ≠ 1 := xsw hc7 (by decide); have e2 : o1.toInt ≠ 2 := xsw hc8 (by decide); have e3 : o1.toInt ≠ 3 := xsw hc9 (by decide); omega) (by decide) ?_
  refine lv_aload_n hx hb dG_length_59 rfl (lv_at hl 1 rfl) ?_
  refine lv_aload_n hx hb dG_length_60 rfl (lv_at hl 0 rfl) ?_
  refine lv_iconst (v := 0) hx hb dG_length_61 (by decide) ?_
  obtain ⟨o15, hq16, hf⟩ := xbind hf
  obtain ⟨hPc, hDc, hFc⟩ := xcut (wc := [(a0, .inr (2, [.ref a1, .int v1, .int v2])), (a1, .inl (cT 2, 4096, .inr (.inl f0)))]) hP hD hS hA [2, 3] rfl rfl (by decide)
  refine va_calli (va_runV (C := "ValueBench$Row") (As := [.int 0]) (rest := [.ref a2]) ⟨hx, hb, hml, hown, htx⟩ (gR_length l hl9 D cT aK aV H.size n a0 a1 (0 : Int32) f0 v1 v2 o15 hq16) ⟨callB_of 1 htx (xw_goodC kw_2_191) rfl rfl rfl (htx _ kw_1_4) (htx _ kw_4_42) ⟨by decide, by decide, by decide +kernel⟩ ⟨Nat.le_of_ble_eq_true rfl, Nat.le_of_ble_eq_true rfl⟩, (htx _ kw_2_189), (htx _ kw_2_190)⟩ ⟨xPre_blind, va_recv hK hP (ci := 2) rfl (q0 := 2) rfl, (fun U hU hW => ⟨rfl, xPre_of hZ hS hFc hPc hDc hK U hU hW⟩)⟩ rfl rfl hl.1 rfl (lv_room (Nat.le_of_ble_eq_true rfl)) dG_length_62 ⟨Nat.le_of_ble_eq_true rfl, Nat.le_of_ble_eq_true rfl⟩) hS (fun q _ h => hFc q h) hFc (fun r17 u9 t H1 locs ht hvm hr9 hB hz1 hk1 hS => ?_)
  obtain ⟨hP1, hK1, hD1⟩ := hB
  rw [ht] at hP1
  obtain ⟨hP, hD⟩ := xjoin (W := [(a2, .inr (2, [.ref a3, .int v4, .int v5])), (a3, .inl (cT 2, 4096, .inr (.inl f3))), (a0, .inr (2, [.ref a1, .int v1, .int v2])), (a1, .inl (cT 2, 4096, .inr (.inl f0)))]) hP hD [2, 3] [0, 1] 2 rfl rfl (by decide) (by decide) hk1 hFc hP1 hD1
  generalize H1 = H at hP hS ⊢
  rw [hr9]
  refine W.eq (g2 := F0 m 65 ls [.int o15, .ref a2]) rfl ?_
  refine lv_i2l hx hb dG_length_65 rfl ?_
  obtain ⟨o18, hq19, hf⟩ := xbind hf
  obtain ⟨hPc, hDc, hFc⟩ := xcut (wc := [(a2, .inr (2, [.ref a3, .int v4, .int v5])), (a3, .inl (cT 2, 4096, .inr (.inl f3)))]) hP hD hS hA [0, 1] rfl rfl (by decide)
  refine va_callv (va_runV (C := "ValueBench$Row") (As := [.long o15.toInt64]) (rest := []) ⟨hx, hb, hml, hown, htx⟩ (gR_putNumber l hl9 D cT aK aV H.size n a2 a3 o15.toInt64 f3 v4 v5 o18 hq19) ⟨callB_of 1 htx (xw_goodC kw_2_228) rfl rfl rfl (htx _ kw_1_4) (htx _ kw_4_39) ⟨by decide, by decide, by decide +kernel⟩ ⟨Nat.le_of_ble_eq_true rfl, Nat.le_of_ble_eq_true rfl⟩, (htx _ kw_2_226), (htx _ kw_2_227)⟩ ⟨xPre_blind, va_recv hK hP (ci := 2) rfl (q0 := 0) rfl, (fun U hU hW => ⟨rfl, xPre_of hZ hS hFc hPc hDc hK U hU hW⟩)⟩ rfl rfl hl.1 rfl (lv_room (Nat.le_of_ble_eq_true rfl)) dG_length_66 ⟨Nat.le_of_ble_eq_true rfl, Nat.le_of_ble_eq_true rfl⟩) hS (fun q _ h => hFc q h) hFc (fun u9 t H1 locs ht hvm hr9 hB hz1 hk1 hS => ?_)
  obtain ⟨hP1, hK1, hD1⟩ := hB
  rw [ht] at hP1
  obtain ⟨hP, hD⟩ := xjoin (W := [(a0, .inr (2, [.ref a1, .int v1, .int v2])), (a1, .inl (cT 2, 4096, .inr (.inl f0))), (a2, .inr (2, [.ref a3, .int o18.2.1, .int o18.2.2])), (a3, .inl (cT 2, 4096, .inr (.inl o18.1)))]) hP hD [0, 1] [2, 3] 2 rfl rfl (by decide) (by decide) hk1 hFc hP1 hD1
  generalize H1 = H at hP hS ⊢
  refine lv_iconst (v := 0) hx hb dG_length_69 (by decide) ?_
  obtain rfl := Option.some.inj hf
  obtain ⟨hP9, hD9⟩ := xsub (wc := [(a0, .inr (2, [.ref a1, .int v1, .int v2])), (a1, .inl (cT 2, 4096, .inr (.inl f0))), (a2, .inr (2, [.ref a3, .int o18.2.1, .int o18.2.2])), (a3, .inl (cT 2, 4096, .inr (.inl o18.1)))]) hP hD [0, 1, 2, 3] rfl rfl (by decide)
  exact W.iret (v := (0 : Int32)) hx hb hr (fun t ht hW => ⟨⟨(0 : Int32), (), rfl, rfl, by rw [ht]; exact hP9, va_K.moved hW.alike hK, hD9⟩, hS.F ht⟩) hS.2.2 dG_length_70
set_option maxHeartbeats 400000000 in
set_option maxRecDepth 100000 in
theorem gG_keys (l : Launch) (hl9 : l.stackTraces = false) (D : va_G) (cT : Nat → ClassId) (aK aV : Nat → Nat) (sz n : Nat) (a0 : Nat) (a1 : Nat) (a2 : Nat) (a3 : Nat) (f0 : Nat → Int64) (v1 : Int32) (v2 : Int32) (f3 : Nat → Int64) (v4 : Int32) (v5 : Int32) (out : Int32 × (Nat → Int64) × Int32 × Int32) (hf : fG_keys n f0 v1 v2 f3 v4 v5 = some out) : xMet l yG_keys wyG_keys 3 0 0 105 D cT aK aV sz [.ref a0, .ref a2] [(a0, .inr (2, [.ref a1, .int v1, .int v2])), (a1, .inl (cT 2, 4096, .inr (.inl f0))), (a2, .inr (2, [.ref a3, .int v4, .int v5])), (a3, .inl (cT 2, 4096, .inr (.inl f3)))] (fun A => va_Qi (fun (r : Int32) (_ : Unit) => r = out.1) (fun _ t => xB D xcl cT A [(a0, .inr (2, [.ref a1, .int v1, .int v2])), (a1, .inl (cT 2, 4096, .inr (.inl f0))), (a2, .inr (2, [.ref a3, .int out.2.2.1, .int out.2.2.2])), (a3, .inl (cT 2, 4096, .inr (.inl out.2.1)))] t) A) := by
  refine Met.ofW (cc := prog_9_method_5_code) (maxL := 5) (ret := (some .int)) (by decide) rfl ?_
  intro p e s m args below meth c s₁ B hml hv
  obtain ⟨rfl, hsz, hZ, hP, hK, hD0⟩ := hv
  have hx := B.exec
  have hb := B.bytes
  have hr := B.returns
  have hts := atoms_spec (ws := wyG_keys) B.pre
  have htx := fun w h => hts w (List.mem_cons_of_mem _ h)
  have hown : s.vm.findClass "ValueBench$Singles" = some m.cls := findClass_of_methodNamed B.named
  have hlocks := B.notSynchronized
  subst hsz
  have hD := hD0.self (sz := s.heap.size)
  generalize hAe : va_A [(a0, .inr (2, [.ref a1, .int v1, .int v2])), (a1, .inl (cT 2, 4096, .inr (.inl f0))), (a2, .inr (2, [.ref a3, .int v4, .int v5])), (a3, .inl (cT 2, 4096, .inr (.inl f3)))] s.heap.size = A at hD hZ ⊢
  have hA : ∀ q : Nat, s.heap.size ≤ q → A q := fun q h => by rw [← hAe]; exact Or.inr h
  have hS : va_S A s.heap s.heap [] := va_S.rf
  have hP : va_P D xcl [(a0, .inr (2, [.ref a1, .int v1, .int v2])), (a1, .inl (cT 2, 4096, .inr (.inl f0))), (a2, .inr (2, [.ref a3, .int v4, .int v5])), (a3, .inl (cT 2, 4096, .inr (.inl f3)))] s.heap := hP
  have hl := lv_entry ([.ref a0, .ref a2]) (n := 5) (Nat.le_of_ble_eq_true rfl)
  rw [lg_entry_eq]
  generalize (lg_sl ([.ref a0, .ref a2]) ++ List.replicate (5 - (lg_sl ([.ref a0, .ref a2])).length) Slot.unset).toArray = ls at hl ⊢
  have hl : lv_has ls 5 [(0, .ref a0), (1, .ref a2)] := hl
  unfold fG_keys at hf
  refine xloopK (σ := Nat × Int32 × Int32 × Int32 × (Nat → Int64) × Int32 × Int32) (fun n x H locs ls => (x.1 = 1 ∧ fG_keys_b f0 v1 v2 n x.1 x.2.1 x.2.2.1 x.2.2.2.1 x.2.2.2.2.1 x.2.2.2.2.2.1 x.2.2.2.2.2.2 = some out ∧ va_P D xcl [(a0, .inr (2, [.ref a1, .int v1, .int v2])), (a1, .inl (cT 2, 4096, .inr (.inl f0))), (a2, .inr (2, [.ref a3, .int x.2.2.2.2.2.1, .int x.2.2.2.2.2.2])), (a3, .inl (cT 2, 4096, .inr (.inl x.2.2.2.2.1)))] H ∧ va_D A [(a0, .inr (2, [.ref a1, .int v1, .int v2])), (a1, .inl (cT 2, 4096, .inr (.inl f0))), (a2, .inr (2, [.ref a3, .int x.2.2.2.2.2.1, .int x.2.2.2.2.2.2])), (a3, .inl (cT 2, 4096, .inr (.inl x.2.2.2.2.1)))] ∧ va_S A s.heap H locs ∧ lv_has ls 5 [(4, .int x.2.1), (3, .int x.2.2.1), (2, .int x.2.2.2.1), (0, .ref a0), (1, .ref a2)])) (fun x => 31) (fun x H locs ls h => by exact absurd h.2.1 (by rw [fG_keys_b]; exact fun h => nomatch h)) (fun n ih x H locs ls hv => ?_) (fun key => ?_)
  · obtain ⟨lb, y4, y3, y2, w0, w1, w2⟩ := x
    rcases hv with ⟨hj, hf, hP, hD, hS, hl⟩
    subst hj
    have hf : fG_keys_b f0 v1 v2 (n + 1) 1 y4 y3 y2 w0 w1 w2 = some out := hf
    rw [fG_keys_b] at hf
    obtain ⟨hP, hD⟩ : xPD D xcl A [(a0, .inr (2, [.ref a1, .int v1, .int v2])), (a1, .inl (cT 2, 4096, .inr (.inl f0))), (a2, .inr (2, [.ref a3, .int w1, .int w2])), (a3, .inl (cT 2, 4096, .inr (.inl w0)))] H := ⟨hP, hD⟩
    have hl : lv_has ls 5 [(4, .int y4), (3, .int y3), (2, .int y2), (0, .ref a0), (1, .ref a2)] := hl
    refine W.eq (g2 := F0 m 31 ls []) rfl ?_
    refine lv_iload hx hb dG_keys_31 (lv_at hl 0 rfl) ?_
    refine lv_aload_n hx hb dG_keys_33 rfl (lv_at hl 3 rfl) ?_
    refine lv_iconst (v := 0) hx hb dG_keys_34 (by decide) ?_
    obtain ⟨o1, hq2, hf⟩ := xbind hf
    obtain ⟨hPc, hDc, hFc⟩ := xcut (wc := [(a0, .inr (2, [.ref a1, .int v1, .int v2])), (a1, .inl (cT 2, 4096, .inr (.inl f0)))]) hP hD hS hA [0, 1] rfl rfl (by decide)
    refine va_calli (va_runV (C := "ValueBench$Row") (As := [.int 0]) (rest := [.int y4]) ⟨hx, hb, hml, hown, htx⟩ (gR_length l hl9 D cT aK aV H.size n a0 a1 (0 : Int32) f0 v1 v2 o1 hq2) ⟨callB_of 1 htx (xw_goodC kw_2_191) rfl rfl rfl (htx _ kw_1_4) (htx _ kw_4_42) ⟨by decide, by decide, by decide +kernel⟩ ⟨Nat.le_of_ble_eq_true rfl, Nat.le_of_ble_eq_true rfl⟩, (htx _ kw_2_189), (htx _ kw_2_190)⟩ ⟨xPre_blind, va_recv hK hP (ci := 2) rfl (q0 := 0) rfl, (fun U hU hW => ⟨rfl, xPre_of hZ hS hFc hPc hDc hK U hU hW⟩)⟩ rfl rfl hl.1 rfl (lv_room (Nat.le_of_ble_eq_true rfl)) dG_keys_35 ⟨Nat.le_of_ble_eq_true rfl, Nat.le_of_ble_eq_true rfl⟩) hS (fun q _ h => hFc q h) hFc (fun r3 u9 t H1 locs ht hvm hr9 hB hz1 hk1 hS => ?_)
    obtain ⟨hP1, hK1, hD1⟩ := hB
    rw [ht] at hP1
    obtain ⟨hP, hD⟩ := xjoin (W := [(a2, .inr (2, [.ref a3, .int w1, .int w2])), (a3, .inl (cT 2, 4096, .inr (.inl w0))), (a0, .inr (2, [.ref a1, .int v1, .int v2])), (a1, .inl (cT 2, 4096, .inr (.inl f0)))]) hP hD [0, 1] [2, 3] 2 rfl rfl (by decide) (by decide) hk1 hFc hP1 hD1
    generalize H1 = H at hP hS ⊢
    rw [hr9]
    refine W.eq (g2 := F0 m 38 ls [.int o1, .int y4]) rfl ?_
    refine lv_icmp_ge (tgt := 82) hx hb dG_keys_38 (by decide) (fun hc => ?_) (fun hc => ?_)
    · rw [if_pos hc] at hf
      refine lv_aload_n hx hb dG_keys_82 rfl (lv_at hl 4 rfl) ?_
      refine lv_iload_n hx hb dG_keys_83 rfl (lv_at hl 2 rfl) ?_
      refine lv_iconst (v := 5) hx hb dG_keys_84 (by decide) ?_
      refine lv_aload_n hx hb dG_keys_85 rfl (lv_at hl 3 rfl) ?_
      refine lv_iconst (v := 0) hx hb dG_keys_86 (by decide) ?_
      obtain ⟨o4, hq5, hf⟩ := xbind hf
      obtain ⟨hPc, hDc, hFc⟩ := xcut (wc := [(a0, .inr (2, [.ref a1, .int v1, .int v2])), (a1, .inl (cT 2, 4096, .inr (.inl f0)))]) hP hD hS hA [2, 3] rfl rfl (by decide)
      refine va_calli (va_runV (C := "ValueBench$Row") (As := [.int 0]) (rest := [.int 5, .int y2, .ref a2]) ⟨hx, hb, hml, hown, htx⟩ (gR_length l hl9 D cT aK aV H.size n a0 a1 (0 : Int32) f0 v1 v2 o4 hq5) ⟨callB_of 1 htx (xw_goodC kw_2_191) rfl rfl rfl (htx _ kw_1_4) (htx _ kw_4_42) ⟨by decide, by decide, by decide +kernel⟩ ⟨Nat.le_of_ble_eq_true rfl, Nat.le_of_ble_eq_true rfl⟩, (htx _ kw_2_189), (htx _ kw_2_190)⟩ ⟨xPre_blind, va_recv hK hP (ci := 2) rfl (q0 := 2) rfl, (fun U hU hW => ⟨rfl, xPre_of hZ hS hFc hPc hDc hK U hU hW⟩)⟩ rfl rfl hl.1 rfl (lv_room (Nat.le_of_ble_eq_true rfl)) dG_keys_87 ⟨Nat.le_of_ble_eq_true rfl, Nat.le_of_ble_eq_true rfl⟩) hS (fun q _ h => hFc q h) hFc (fun r6 u9 t H1 locs ht hvm hr9 hB hz1 hk1 hS => ?_)
      obtain ⟨hP1, hK1, hD1⟩ := hB
      rw [ht] at hP1
      obtain ⟨hP, hD⟩ := xjoin (W := [(a2, .inr (2, [.ref a3, .int w1, .int w2])), (a3, .inl (cT 2, 4096, .inr (.inl w0))), (a0, .inr (2, [.ref a1, .int v1, .int v2])), (a1, .inl (cT 2, 4096, .inr (.inl f0)))]) hP hD [2, 3] [0, 1] 2 rfl rfl (by decide) (by decide) hk1 hFc hP1 hD1
      generalize H1 = H at hP hS ⊢
      rw [hr9]
      refine W.eq (g2 := F0 m 90 ls [.int o4, .int 5, .int y2, .ref a2]) rfl ?_
      obtain ⟨o7, hq8, hf⟩ := xbind hf
      obtain ⟨hPc, hDc, hFc⟩ := xcut (wc := [(a2, .inr (2, [.ref a3, .int w1, .int w2])), (a3, .inl (cT 2, 4096, .inr (.inl w0)))]) hP hD hS hA [0, 1] rfl rfl (by decide)
      refine va_callv (va_runV (C := "ValueBench$Row") (As := [.int y2, .int 5, .int o4]) (rest := []) ⟨hx, hb, hml, hown, htx⟩ (gR_close l hl9 D cT aK aV H.size n a2 a3 y2 (5 : Int32) o4 w0 w1 w2 o7 hq8) ⟨callB_of 3 htx (xw_goodC kw_2_167) rfl rfl rfl (htx _ kw_1_4) (htx _ kw_4_70) ⟨by decide, by decide, by decide +kernel⟩ ⟨Nat.le_of_ble_eq_true rfl, Nat.le_of_ble_eq_true rfl⟩, (htx _ kw_2_165), (htx _ kw_2_166)⟩ ⟨xPre_blind, va_recv hK hP (ci := 2) rfl (q0 := 0) rfl, (fun U hU hW => ⟨rfl, xPre_of hZ hS hFc hPc hDc hK U hU hW⟩)⟩ rfl rfl hl.1 rfl (lv_room (Nat.le_of_ble_eq_true rfl)) dG_keys_90 ⟨Nat.le_of_ble_eq_true rfl, Nat.le_of_ble_eq_true rfl⟩) hS (fun q _ h => hFc q h) hFc (fun u9 t H1 locs ht hvm hr9 hB hz1 hk1 hS => ?_)
      obtain ⟨hP1, hK1, hD1⟩ := hB
      rw [ht] at hP1
      obtain ⟨hP, hD⟩ := xjoin (W := [(a0, .inr (2, [.ref a1, .int v1, .int v2])), (a1, .inl (cT 2, 4096, .inr (.inl f0))), (a2, .inr (2, [.ref a3, .int w1, .int w2])), (a3, .inl (cT 2, 4096, .inr (.inl o7)))]) hP hD [0, 1] [2, 3] 2 rfl rfl (by decide) (by decide) hk1 hFc hP1 hD1
      generalize H1 = H at hP hS ⊢
      refine lv_iconst (v := 0) hx hb dG_keys_93 (by decide) ?_
      obtain rfl := Option.some.inj hf
      obtain ⟨hP9, hD9⟩ := xsub (wc := [(a0, .inr (2, [.ref a1, .int v1, .int v2])), (a1, .inl (cT 2, 4096, .inr (.inl f0))), (a2, .inr (2, [.ref a3, .int w1, .int w2])), (a3, .inl (cT 2, 4096, .inr (.inl o7)))]) hP hD [0, 1, 2, 3] rfl rfl (by decide)
      exact W.iret (v := (0 : Int32)) hx hb hr (fun t ht hW => ⟨⟨(0 : Int32), (), rfl, rfl, by rw [ht]; exact hP9, va_K.moved hW.alike hK, hD9⟩, hS.F ht⟩) hS.2.2 dG_keys_94
    · rw [if_neg hc] at hf
      refine lv_aload_n hx hb dG_keys_41 rfl (lv_at hl 3 rfl) ?_
      refine lv_iconst (v := 0) hx hb dG_keys_42 (by decide) ?_
      refine lv_iconst (v := 5) hx hb dG_keys_43 (by decide) ?_
      obtain ⟨o4, hq5, hf⟩ := xbind hf
      obtain ⟨hPc, hDc, hFc⟩ := xcut (wc := [(a0, .inr (2, [.ref a1, .int v1, .int v2])), (a1, .inl (cT 2, 4096, .inr (.inl f0)))]) hP hD hS hA [2, 3] rfl rfl (by decide)
      refine va_calli (va_runV (C := "ValueBench$Row") (As := [.int 0, .int 5]) (rest := []) ⟨hx, hb, hml, hown, htx⟩ (gR_is l hl9 D cT aK aV H.size n a0 a1 (0 : Int32) (5 : Int32) f0 v1 v2 o4 hq5) ⟨callB_of 2 htx (xw_goodC kw_3_75) rfl rfl rfl (htx _ kw_1_4) (htx _ kw_4_29) ⟨by decide, by decide, by decide +kernel⟩ ⟨Nat.le_of_ble_eq_true rfl, Nat.le_of_ble_eq_true rfl⟩, (htx _ kw_3_73), (htx _ kw_3_74)⟩ ⟨xPre_blind, va_recv hK hP (ci := 2) rfl (q0 := 2) rfl, (fun U hU hW => ⟨rfl, xPre_of hZ hS hFc hPc hDc hK U hU hW⟩)⟩ rfl rfl hl.1 rfl (lv_room (Nat.le_of_ble_eq_true rfl)) dG_keys_44 ⟨Nat.le_of_ble_eq_true rfl, Nat.le_of_ble_eq_true rfl⟩) hS (fun q _ h => hFc q h) hFc (fun r6 u9 t H1 locs ht hvm hr9 hB hz1 hk1 hS => ?_)
      obtain ⟨hP1, hK1, hD1⟩ := hB
      rw [ht] at hP1
      obtain ⟨hP, hD⟩ := xjoin (W := [(a2, .inr (2, [.ref a3, .int w1, .int w2])), (a3, .inl (cT 2, 4096, .inr (.inl w0))), (a0, .inr (2, [.ref a1, .int v1, .int v2])), (a1, .inl (cT 2, 4096, .inr (.inl f0)))]) hP hD [2, 3] [0, 1] 2 rfl rfl (by decide) (by decide) hk1 hFc hP1 hD1
      generalize H1 = H at hP hS ⊢
      rw [hr9]
      refine W.eq (g2 := F0 m 47 ls [.int o4]) rfl ?_
      refine lv_if_eq (tgt := 60) hx hb dG_keys_47 (by decide) (fun hc => ?_) (fun hc => ?_)
      · rw [if_pos hc] at hf
        refine lv_aload_n hx hb dG_keys_60 rfl (lv_at hl 4 rfl) ?_
        refine lv_aload_n hx hb dG_keys_61 rfl (lv_at hl 3 rfl) ?_
        refine lv_iload_n hx hb dG_keys_62 rfl (lv_at hl 1 rfl) ?_
        obtain ⟨o7, hq8, hf⟩ := xbind hf
        obtain ⟨hPc, hDc, hFc⟩ := xcut (wc := [(a2, .inr (2, [.ref a3, .int w1, .int w2])), (a3, .inl (cT 2, 4096, .inr (.inl w0))), (a0, .inr (2, [.ref a1, .int v1, .int v2])), (a1, .inl (cT 2, 4096, .inr (.inl f0)))]) hP hD hS hA [0, 1, 2, 3] rfl rfl (by decide)
        refine va_callv (va_runV (C := "ValueBench$Row") (As := [.ref a0, .int y3]) (rest := []) ⟨hx, hb, hml, hown, htx⟩ (gR_putCopy l hl9 D cT aK aV H.size n a2 a3 a0 a1 y3 w0 w1 w2 f0 v1 v2 o7 hq8) ⟨callB_of 2 htx (xw_goodC kw_3_126) rfl rfl rfl (htx _ kw_1_4) (htx _ kw_4_69) ⟨by decide, by decide, by decide +kernel⟩ ⟨Nat.le_of_ble_eq_true rfl, Nat.le_of_ble_eq_true rfl⟩, (htx _ kw_3_124), (htx _ kw_3_125)⟩ ⟨xPre_blind, va_recv hK hP (ci := 2) rfl (q0 := 0) rfl, (fun U hU hW => ⟨rfl, xPre_of hZ hS hFc hPc hDc hK U hU hW⟩)⟩ rfl rfl hl.1 rfl (lv_room (Nat.le_of_ble_eq_true rfl)) dG_keys_63 ⟨Nat.le_of_ble_eq_true rfl, Nat.le_of_ble_eq_true rfl⟩) hS (fun q _ h => hFc q h) hFc (fun u9 t H1 locs ht hvm hr9 hB hz1 hk1 hS => ?_)
        obtain ⟨hP1, hK1, hD1⟩ := hB
        rw [ht] at hP1
        obtain ⟨hP, hD⟩ := xjoin (W := [(a2, .inr (2, [.ref a3, .int o7.2.1, .int o7.2.2])), (a3, .inl (cT 2, 4096, .inr (.inl o7.1))), (a0, .inr (2, [.ref a1, .int v1, .int v2])), (a1, .inl (cT 2, 4096, .inr (.inl f0)))]) hP hD [0, 1, 2, 3] [] 0 rfl rfl (by decide) (by decide) hk1 hFc hP1 hD1
        generalize H1 = H at hP hS ⊢
        refine lv_aload_n hx hb dG_keys_66 rfl (lv_at hl 3 rfl) ?_
        refine lv_aload_n hx hb dG_keys_67 rfl (lv_at hl 3 rfl) ?_
        refine lv_iload_n hx hb dG_keys_68 rfl (lv_at hl 1 rfl) ?_
        obtain ⟨o9, hq10, hf⟩ := xbind hf
        obtain ⟨hPc, hDc, hFc⟩ := xcut (wc := [(a0, .inr (2, [.ref a1, .int v1, .int v2])), (a1, .inl (cT 2, 4096, .inr (.inl f0)))]) hP hD hS hA [2, 3] rfl rfl (by decide)
        refine va_calli (va_runV (C := "ValueBench$Row") (As := [.int y3]) (rest := [.ref a0]) ⟨hx, hb, hml, hown, htx⟩ (gR_after l hl9 D cT aK aV H.size n a0 a1 y3 f0 v1 v2 o9 hq10) ⟨callB_of 1 htx (xw_goodC kw_2_196) rfl rfl rfl (htx _ kw_1_4) (htx _ kw_4_74) ⟨by decide, by decide, by decide +kernel⟩ ⟨Nat.le_of_ble_eq_true rfl, Nat.le_of_ble_eq_true rfl⟩, (htx _ kw_2_194), (htx _ kw_2_195)⟩ ⟨xPre_blind, va_recv hK hP (ci := 2) rfl (q0 := 2) rfl, (fun U hU hW => ⟨rfl, xPre_of hZ hS hFc hPc hDc hK U hU hW⟩)⟩ rfl rfl hl.1 rfl (lv_room (Nat.le_of_ble_eq_true rfl)) dG_keys_69 ⟨Nat.le_of_ble_eq_true rfl, Nat.le_of_ble_eq_true rfl⟩) hS (fun q _ h => hFc q h) hFc (fun r11 u9 t H1 locs ht hvm hr9 hB hz1 hk1 hS => ?_)
        obtain ⟨hP1, hK1, hD1⟩ := hB
        rw [ht] at hP1
        obtain ⟨hP, hD⟩ := xjoin (W := [(a2, .inr (2, [.ref a3, .int o7.2.1, .int o7.2.2])), (a3, .inl (cT 2, 4096, .inr (.inl o7.1))), (a0, .inr (2, [.ref a1, .int v1, .int v2])), (a1, .inl (cT 2, 4096, .inr (.inl f0)))]) hP hD [2, 3] [0, 1] 2 rfl rfl (by decide) (by decide) hk1 hFc hP1 hD1
        generalize H1 = H at hP hS ⊢
        rw [hr9]
        refine W.eq (g2 := F0 m 72 ls [.int o9, .ref a0]) rfl ?_
        obtain ⟨o12, hq13, hf⟩ := xbind hf
        obtain ⟨hPc, hDc, hFc⟩ := xcut (wc := [(a0, .inr (2, [.ref a1, .int v1, .int v2])), (a1, .inl (cT 2, 4096, .inr (.inl f0)))]) hP hD hS hA [2, 3] rfl rfl (by decide)
        refine va_calli (va_runV (C := "ValueBench$Row") (As := [.int o9]) (rest := []) ⟨hx, hb, hml, hown, htx⟩ (gR_after l hl9 D cT aK aV H.size n a0 a1 o9 f0 v1 v2 o12 hq13) ⟨callB_of 1 htx (xw_goodC kw_2_196) rfl rfl rfl (htx _ kw_1_4) (htx _ kw_4_74) ⟨by decide, by decide, by decide +kernel⟩ ⟨Nat.le_of_ble_eq_true rfl, Nat.le_of_ble_eq_true rfl⟩, (htx _ kw_2_194), (htx _ kw_2_195)⟩ ⟨xPre_blind, va_recv hK hP (ci := 2) rfl (q0 := 2) rfl, (fun U hU hW => ⟨rfl, xPre_of hZ hS hFc hPc hDc hK U hU hW⟩)⟩ rfl rfl hl.1 rfl (lv_room (Nat.le_of_ble_eq_true rfl)) dG_keys_72 ⟨Nat.le_of_ble_eq_true rfl, Nat.le_of_ble_eq_true rfl⟩) hS (fun q _ h => hFc q h) hFc (fun r14 u9 t H1 locs ht hvm hr9 hB hz1 hk1 hS => ?_)
        obtain ⟨hP1, hK1, hD1⟩ := hB
        rw [ht] at hP1
        obtain ⟨hP, hD⟩ := xjoin (W := [(a2, .inr (2, [.ref a3, .int o7.2.1, .int o7.2.2])), (a3, .inl (cT 2, 4096, .inr (.inl o7.1))), (a0, .inr (2, [.ref a1, .int v1, .int v2])), (a1, .inl (cT 2, 4096, .inr (.inl f0)))]) hP hD [2, 3] [0, 1] 2 rfl rfl (by decide) (by decide) hk1 hFc hP1 hD1
        generalize H1 = H at hP hS ⊢
        rw [hr9]
        refine W.eq (g2 := F0 m 75 ls [.int o12]) rfl ?_
        refine lv_istore_n (lv' := [(3, .int o12), (4, .int y4), (2, .int y2), (0, .ref a0), (1, .ref a2)]) hx hb dG_keys_75 rfl hl (by decide) rfl (fun ls hl => ?_)
        refine lv_iinc (v := (y4 + 1)) (lv' := [(4, .int (y4 + 1)), (3, .int o12), (2, .int y2), (0, .ref a0), (1, .ref a2)]) hx hb dG_keys_76 hl (k := 1) rfl rfl (by decide) rfl (fun ls hl => ?_)
        refine lv_goto (tgt := 31) hx hb dG_keys_79 (by decide) ?_
        obtain ⟨hP9, hD9⟩ := xsub (wc := [(a0, .inr (2, [.ref a1, .int v1, .int v2])), (a1, .inl (cT 2, 4096, .inr (.inl f0))), (a2, .inr (2, [.ref a3, .int o7.2.1, .int o7.2.2])), (a3, .inl (cT 2, 4096, .inr (.inl o7.1)))]) hP hD [2, 3, 0, 1] rfl rfl (by decide)
        exact ih (1, (y4 + 1), o12, y2, o7.1, o7.2.1, o7.2.2) _ _ ls (⟨rfl, hf, hP9, hD9, hS, lv_sub hl [0, 1, 2, 3, 4] rfl⟩)
      · rw [if_neg hc] at hf
        refine lv_aload_n hx hb dG_keys_50 rfl (lv_at hl 4 rfl) ?_
        refine lv_iload hx hb dG_keys_51 (lv_at hl 0 rfl) ?_
        refine lv_i2l hx hb dG_keys_53 rfl ?_
        obtain ⟨o7, hq8, hf⟩ := xbind hf
        obtain ⟨hPc, hDc, hFc⟩ := xcut (wc := [(a2, .inr (2, [.ref a3, .int w1, .int w2])), (a3, .inl (cT 2, 4096, .inr (.inl w0)))]) hP hD hS hA [0, 1] rfl rfl (by decide)
        refine va_callv (va_runV (C := "ValueBench$Row") (As := [.long y4.toInt64]) (rest := []) ⟨hx, hb, hml, hown, htx⟩ (gR_putNumber l hl9 D cT aK aV H.size n a2 a3 y4.toInt64 w0 w1 w2 o7 hq8) ⟨callB_of 1 htx (xw_goodC kw_2_228) rfl rfl rfl (htx _ kw_1_4) (htx _ kw_4_39) ⟨by decide, by decide, by decide +kernel⟩ ⟨Nat.le_of_ble_eq_true rfl, Nat.le_of_ble_eq_true rfl⟩, (htx _ kw_2_226), (htx _ kw_2_227)⟩ ⟨xPre_blind, va_recv hK hP (ci := 2) rfl (q0 := 0) rfl, (fun U hU hW => ⟨rfl, xPre_of hZ hS hFc hPc hDc hK U hU hW⟩)⟩ rfl rfl hl.1 rfl (lv_room (Nat.le_of_ble_eq_true rfl)) dG_keys_54 ⟨Nat.le_of_ble_eq_true rfl, Nat.le_of_ble_eq_true rfl⟩) hS (fun q _ h => hFc q h) hFc (fun u9 t H1 locs ht hvm hr9 hB hz1 hk1 hS => ?_)
        obtain ⟨hP1, hK1, hD1⟩ := hB
        rw [ht] at hP1
        obtain ⟨hP, hD⟩ := xjoin (W := [(a0, .inr (2, [.ref a1, .int v1, .int v2])), (a1, .inl (cT 2, 4096, .inr (.inl f0))), (a2, .inr (2, [.ref a3, .int o7.2.1, .int o7.2.2])), (a3, .inl (cT 2, 4096, .inr (.inl o7.1)))]) hP hD [0, 1] [2, 3] 2 rfl rfl (by decide) (by decide) hk1 hFc hP1 hD1
        generalize H1 = H at hP hS ⊢
        refine lv_goto (tgt := 76) hx hb dG_keys_57 (by decide) ?_
        refine lv_iinc (v := (y4 + 1)) (lv' := [(4, .int (y4 + 1)), (3, .int y3), (2, .int y2), (0, .ref a0), (1, .ref a2)]) hx hb dG_keys_76 hl (k := 0) rfl rfl (by decide) rfl (fun ls hl => ?_)
        refine lv_goto (tgt := 31) hx hb dG_keys_79 (by decide) ?_
        obtain ⟨hP9, hD9⟩ := xsub (wc := [(a0, .inr (2, [.ref a1, .int v1, .int v2])), (a1, .inl (cT 2, 4096, .inr (.inl f0))), (a2, .inr (2, [.ref a3, .int o7.2.1, .int o7.2.2])), (a3, .inl (cT 2, 4096, .inr (.inl o7.1)))]) hP hD [0, 1, 2, 3] rfl rfl (by decide)
        exact ih (1, (y4 + 1), y3, y2, o7.1, o7.2.1, o7.2.2) _ _ ls (⟨rfl, hf, hP9, hD9, hS, lv_sub hl [0, 1, 2, 3, 4] rfl⟩)
  refine lv_aload_n hx hb dG_keys_0 rfl (lv_at hl 0 rfl) ?_
  refine lv_iconst (v := 0) hx hb dG_keys_1 (by decide) ?_
  refine lv_iconst (v := 5) hx hb dG_keys_2 (by decide) ?_
  obtain ⟨o1, hq2, hf⟩ := xbind hf
  obtain ⟨hPc, hDc, hFc⟩ := xcut (wc := [(a0, .inr (2, [.ref a1, .int v1, .int v2])), (a1, .inl (cT 2, 4096, .inr (.inl f0)))]) hP hD hS hA [0, 1] rfl rfl (by decide)
  refine va_calli (va_runV (C := "ValueBench$Row") (As := [.int 0, .int 5]) (rest := []) ⟨hx, hb, hml, hown, htx⟩ (gR_is l hl9 D cT aK aV s.heap.size n a0 a1 (0 : Int32) (5 : Int32) f0 v1 v2 o1 hq2) ⟨callB_of 2 htx (xw_goodC kw_3_75) rfl rfl rfl (htx _ kw_1_4) (htx _ kw_4_29) ⟨by decide, by decide, by decide +kernel⟩ ⟨Nat.le_of_ble_eq_true rfl, Nat.le_of_ble_eq_true rfl⟩, (htx _ kw_3_73), (htx _ kw_3_74)⟩ ⟨xPre_blind, va_recv hK hP (ci := 2) rfl (q0 := 0) rfl, (fun U hU hW => ⟨rfl, xPre_of hZ hS hFc hPc hDc hK U hU hW⟩)⟩ rfl rfl hl.1 rfl (lv_room (Nat.le_of_ble_eq_true rfl)) dG_keys_3 ⟨Nat.le_of_ble_eq_true rfl, Nat.le_of_ble_eq_true rfl⟩) hS (fun q _ h => hFc q h) hFc (fun r3 u9 t H1 locs ht hvm hr9 hB hz1 hk1 hS => ?_)
  obtain ⟨hP1, hK1, hD1⟩ := hB
  rw [ht] at hP1
  obtain ⟨hP, hD⟩ := xjoin (W := [(a2, .inr (2, [.ref a3, .int v4, .int v5])), (a3, .inl (cT 2, 4096, .inr (.inl f3))), (a0, .inr (2, [.ref a1, .int v1, .int v2])), (a1, .inl (cT 2, 4096, .inr (.inl f0)))]) hP hD [0, 1] [2, 3] 2 rfl rfl (by decide) (by decide) hk1 hFc hP1 hD1
  generalize H1 = H at hP hS ⊢
  rw [hr9]
  refine W.eq (g2 := F0 m 6 ls [.int o1]) rfl ?_
  refine lv_if_ne (tgt := 21) hx hb dG_keys_6 (by decide) (fun hc => ?_) (fun hc => ?_)
  · rw [if_neg hc] at hf
    refine lv_aload_n hx hb dG_keys_21 rfl (lv_at hl 1 rfl) ?_
    obtain ⟨o4, hq5, hf⟩ := xbind hf
    obtain ⟨hPc, hDc, hFc⟩ := xcut (wc := [(a2, .inr (2, [.ref a3, .int v4, .int v5])), (a3, .inl (cT 2, 4096, .inr (.inl f3)))]) hP hD hS hA [0, 1] rfl rfl (by decide)
    refine va_calli (va_runV (C := "ValueBench$Row") (As := []) (rest := []) ⟨hx, hb, hml, hown, htx⟩ (gR_open l hl9 D cT aK aV H.size n a2 a3 f3 v4 v5 o4 hq5) ⟨callB_of 0 htx (xw_goodC kw_2_136) rfl rfl rfl (htx _ kw_1_4) (htx _ kw_4_46) ⟨by decide, by decide, by decide +kernel⟩ ⟨Nat.le_of_ble_eq_true rfl, Nat.le_of_ble_eq_true rfl⟩, (htx _ kw_2_134), (htx _ kw_2_135)⟩ ⟨xPre_blind, va_recv hK hP (ci := 2) rfl (q0 := 0) rfl, (fun U hU hW => ⟨rfl, xPre_of hZ hS hFc hPc hDc hK U hU hW⟩)⟩ rfl rfl hl.1 rfl (lv_room (Nat.le_of_ble_eq_true rfl)) dG_keys_22 ⟨Nat.le_of_ble_eq_true rfl, Nat.le_of_ble_eq_true rfl⟩) hS (fun q _ h => hFc q h) hFc (fun r6 u9 t H1 locs ht hvm hr9 hB hz1 hk1 hS => ?_)
    obtain ⟨hP1, hK1, hD1⟩ := hB
    rw [ht] at hP1
    obtain ⟨hP, hD⟩ := xjoin (W := [(a0, .inr (2, [.ref a1, .int v1, .int v2])), (a1, .inl (cT 2, 4096, .inr (.inl f0))), (a2, .inr (2, [.ref a3, .int o4.2.2.1, .int o4.2.2.2])), (a3, .inl (cT 2, 4096, .inr (.inl o4.2.1)))]) hP hD [0, 1] [2, 3] 2 rfl rfl (by decide) (by decide) hk1 hFc hP1 hD1
    generalize H1 = H at hP hS ⊢
    rw [hr9]
    refine W.eq (g2 := F0 m 25 ls [.int o4.1]) rfl ?_
    refine lv_istore_n (lv' := [(2, .int o4.1), (0, .ref a0), (1, .ref a2)]) hx hb dG_keys_25 rfl hl (by decide) rfl (fun ls hl => ?_)
    refine lv_iconst (v := 1) hx hb dG_keys_26 (by decide) ?_
    refine lv_istore_n (lv' := [(3, .int 1), (2, .int o4.1), (0, .ref a0), (1, .ref a2)]) hx hb dG_keys_27 rfl hl (by decide) rfl (fun ls hl => ?_)
    refine lv_iconst (v := 0) hx hb dG_keys_28 (by decide) ?_
    refine lv_istore (lv' := [(4, .int 0), (3, .int 1), (2, .int o4.1), (0, .ref a0), (1, .ref a2)]) hx hb dG_keys_29 hl (by decide) rfl (fun ls hl => ?_)
    obtain ⟨hP9, hD9⟩ := xsub (wc := [(a0, .inr (2, [.ref a1, .int v1, .int v2])), (a1, .inl (cT 2, 4096, .inr (.inl f0))), (a2, .inr (2, [.ref a3, .int o4.2.2.1, .int o4.2.2.2])), (a3, .inl (cT 2, 4096, .inr (.inl o4.2.1)))]) hP hD [0, 1, 2, 3] rfl rfl (by decide)
    exact key n (1, 0, 1, o4.1, o4.2.1, o4.2.2.1, o4.2.2.2) _ _ ls (⟨rfl, hf, hP9, hD9, hS, lv_sub hl [0, 1, 2, 3, 4] rfl⟩)
  · rw [if_pos hc] at hf
    refine lv_aload_n hx hb dG_keys_9 rfl (lv_at hl 0 rfl) ?_
    refine lv_iconst (v := 0) hx hb dG_keys_10 (by decide) ?_
    refine lv_bipush (v := 6) hx hb dG_keys_11 (by decide) ?_
    obtain ⟨o4, hq5, hf⟩ := xbind hf
    obtain ⟨hPc, hDc, hFc⟩ := xcut (wc := [(a0, .inr (2, [.ref a1, .int v1, .int v2])), (a1, .inl (cT 2, 4096, .inr (.inl f0)))]) hP hD hS hA [2, 3] rfl rfl (by decide)
    refine va_calli (va_runV (C := "ValueBench$Row") (As := [.int 0, .int 6]) (rest := []) ⟨hx, hb, hml, hown, htx⟩ (gR_is l hl9 D cT aK aV H.size n a0 a1 (0 : Int32) (6 : Int32) f0 v1 v2 o4 hq5) ⟨callB_of 2 htx (xw_goodC kw_3_75) rfl rfl rfl (htx _ kw_1_4) (htx _ kw_4_29) ⟨by decide, by decide, by decide +kernel⟩ ⟨Nat.le_of_ble_eq_true rfl, Nat.le_of_ble_eq_true rfl⟩, (htx _ kw_3_73), (htx _ kw_3_74)⟩ ⟨xPre_blind, va_recv hK hP (ci := 2) rfl (q0 := 2) rfl, (fun U hU hW => ⟨rfl, xPre_of hZ hS hFc hPc hDc hK U hU hW⟩)⟩ rfl rfl hl.1 rfl (lv_room (Nat.le_of_ble_eq_true rfl)) dG_keys_13 ⟨Nat.le_of_ble_eq_true rfl, Nat.le_of_ble_eq_true rfl⟩) hS (fun q _ h => hFc q h) hFc (fun r6 u9 t H1 locs ht hvm hr9 hB hz1 hk1 hS => ?_)
    obtain ⟨hP1, hK1, hD1⟩ := hB
    rw [ht] at hP1
    obtain ⟨hP, hD⟩ := xjoin (W := [(a2, .inr (2, [.ref a3, .int v4, .int v5])), (a3, .inl (cT 2, 4096, .inr (.inl f3))), (a0, .inr (2, [.ref a1, .int v1, .int v2])), (a1, .inl (cT 2, 4096, .inr (.inl f0)))]) hP hD [2, 3] [0, 1] 2 rfl rfl (by decide) (by decide) hk1 hFc hP1 hD1
    generalize H1 = H at hP hS ⊢
    rw [hr9]
    refine W.eq (g2 := F0 m 16 ls [.int o4]) rfl ?_
    refine lv_if_ne (tgt := 21) hx hb dG_keys_16 (by decide) (fun hc => ?_) (fun hc => ?_)
    · rw [if_neg hc] at hf
      refine lv_aload_n hx hb dG_keys_21 rfl (lv_at hl 1 rfl) ?_
      obtain ⟨o7, hq8, hf⟩ := xbind hf
      obtain ⟨hPc, hDc, hFc⟩ := xcut (wc := [(a2, .inr (2, [.ref a3, .int v4, .int v5])), (a3, .inl (cT 2, 4096, .inr (.inl f3)))]) hP hD hS hA [0, 1] rfl rfl (by decide)
      refine va_calli (va_runV (C := "ValueBench$Row") (As := []) (rest := []) ⟨hx, hb, hml, hown, htx⟩ (gR_open l hl9 D cT aK aV H.size n a2 a3 f3 v4 v5 o7 hq8) ⟨callB_of 0 htx (xw_goodC kw_2_136) rfl rfl rfl (htx _ kw_1_4) (htx _ kw_4_46) ⟨by decide, by decide, by decide +kernel⟩ ⟨Nat.le_of_ble_eq_true rfl, Nat.le_of_ble_eq_true rfl⟩, (htx _ kw_2_134), (htx _ kw_2_135)⟩ ⟨xPre_blind, va_recv hK hP (ci := 2) rfl (q0 := 0) rfl, (fun U hU hW => ⟨rfl, xPre_of hZ hS hFc hPc hDc hK U hU hW⟩)⟩ rfl rfl hl.1 rfl (lv_room (Nat.le_of_ble_eq_true rfl)) dG_keys_22 ⟨Nat.le_of_ble_eq_true rfl, Nat.le_of_ble_eq_true rfl⟩) hS (fun q _ h => hFc q h) hFc (fun r9 u9 t H1 locs ht hvm hr9 hB hz1 hk1 hS => ?_)
      obtain ⟨hP1, hK1, hD1⟩ := hB
      rw [ht] at hP1
      obtain ⟨hP, hD⟩ := xjoin (W := [(a0, .inr (2, [.ref a1, .int v1, .int v2])), (a1, .inl (cT 2, 4096, .inr (.inl f0))), (a2, .inr (2, [.ref a3, .int o7.2.2.1, .int o7.2.2.2])), (a3, .inl (cT 2, 4096, .inr (.inl o7.2.1)))]) hP hD [0, 1] [2, 3] 2 rfl rfl (by decide) (by decide) hk1 hFc hP1 hD1
      generalize H1 = H at hP hS ⊢
      rw [hr9]
      refine W.eq (g2 := F0 m 25 ls [.int o7.1]) rfl ?_
      refine lv_istore_n (lv' := [(2, .int o7.1), (0, .ref a0), (1, .ref a2)]) hx hb dG_keys_25 rfl hl (by decide) rfl (fun ls hl => ?_)
      refine lv_iconst (v := 1) hx hb dG_keys_26 (by decide) ?_
      refine lv_istore_n (lv' := [(3, .int 1), (2, .int o7.1), (0, .ref a0), (1, .ref a2)]) hx hb dG_keys_27 rfl hl (by decide) rfl (fun ls hl => ?_)
      refine lv_iconst (v := 0) hx hb dG_keys_28 (by decide) ?_
      refine lv_istore (lv' := [(4, .int 0), (3, .int 1), (2, .int o7.1), (0, .ref a0), (1, .ref a2)]) hx hb dG_keys_29 hl (by decide) rfl (fun ls hl => ?_)
      obtain ⟨hP9, hD9⟩ := xsub (wc := [(a0, .inr (2, [.ref a1, .int v1, .int v2])), (a1, .inl (cT 2, 4096, .inr (.inl f0))), (a2, .inr (2, [.ref a3, .int o7.2.2.1, .int o7.2.2.2])), (a3, .inl (cT 2, 4096, .inr (.inl o7.2.1)))]) hP hD [0, 1, 2, 3] rfl rfl (by decide)
      exact key n (1, 0, 1, o7.1, o7.2.1, o7.2.2.1, o7.2.2.2) _ _ ls (⟨rfl, hf, hP9, hD9, hS, lv_sub hl [0, 1, 2, 3, 4] rfl⟩)
    · rw [if_pos hc] at hf
      refine lv_iconst (v := 1) hx hb dG_keys_19 (by decide) ?_
      obtain rfl := Option.some.inj hf
      obtain ⟨hP9, hD9⟩ := xsub (wc := [(a0, .inr (2, [.ref a1, .int v1, .int v2])), (a1, .inl (cT 2, 4096, .inr (.inl f0))), (a2, .inr (2, [.ref a3, .int v4, .int v5])), (a3, .inl (cT 2, 4096, .inr (.inl f3)))]) hP hD [2, 3, 0, 1] rfl rfl (by decide)
      exact W.iret (v := (1 : Int32)) hx hb hr (fun t ht hW => ⟨⟨(1 : Int32), (), rfl, rfl, by rw [ht]; exact hP9, va_K.moved hW.alike hK, hD9⟩, hS.F ht⟩) hS.2.2 dG_keys_20
set_option maxHeartbeats 400000000 in
set_option maxRecDepth 100000 in
theorem gS_gather (l : Launch) (hl9 : l.stackTraces = false) (D : va_G) (cT : Nat → ClassId) (aK aV : Nat → Nat) (sz n : Nat) (a0 : Nat) (a1 : Nat) (a2 : Nat) (a5 : Nat) (a6 : Nat) (x2 : Int32) (f0 : Nat → Int32) (f1 : Nat → Int32) (p2 : Nat) (f3 : Nat → Int32) (p4 : Nat) (f5 : Nat → Int32) (v6 : Int32) (f7 : Nat → Int64) (v8 : Int32) (v9 : Int32) (out : (Nat → Int32) × (Nat → Int32) × Int32) (hf : fS_gather n x2 f0 f1 p2 f3 p4 f5 v6 f7 v8 v9 = some out) : xMet l yS_gather wyS_gather 2 0 0 43 D cT aK aV sz [.ref a0, .ref a5, .int x2] [(a0, .inr (3, [.ref a1, .ref a2, .ref p2, .ref p4, .int v6])), (a1, .inl (cT 1, 2048, .inl f0)), (a2, .inl (cT 1, 2048, .inl f1)), (p2, .inl (cT 1, 2048, .inl f3)), (p4, .inl (cT 1, 2048, .inl f5)), (a5, .inr (2, [.ref a6, .int v8, .int v9])), (a6, .inl (cT 2, 4096, .inr (.inl f7)))] (fun A => va_Qv (fun _ : Unit => True) (fun _ t => xB D xcl cT A [(a0, .inr (3, [.ref a1, .ref a2, .ref p2, .ref p4, .int out.2.2])), (a1, .inl (cT 1, 2048, .inl out.1)), (a2, .inl (cT 1, 2048, .inl f1)), (p2, .inl (cT 1, 2048, .inl out.2.1)), (p4, .inl (cT 1, 2048, .inl f5)), (a5, .inr (2, [.ref a6, .int v8, .int v9])), (a6, .inl (cT 2, 4096, .inr (.inl f7)))] t) A) := by
  refine Met.ofW (cc := prog_10_method_6_code) (maxL := 6) (ret := none) (by decide) rfl ?_
  intro p e s m args below meth c s₁ B hml hv
  obtain ⟨rfl, hsz, hZ, hP, hK, hD0⟩ := hv
  have hx := B.exec
  have hb := B.bytes
  have hr := B.returns
  have hts := atoms_spec (ws := wyS_gather) B.pre
  have htx := fun w h => hts w (List.mem_cons_of_mem _ h)
  have hown : s.vm.findClass "ValueBench$Sorter" = some m.cls := findClass_of_methodNamed B.named
  have hlocks := B.notSynchronized
  subst hsz
  have hD := hD0.self (sz := s.heap.size)
  generalize hAe : va_A [(a0, .inr (3, [.ref a1, .ref a2, .ref p2, .ref p4, .int v6])), (a1, .inl (cT 1, 2048, .inl f0)), (a2, .inl (cT 1, 2048, .inl f1)), (p2, .inl (cT 1, 2048, .inl f3)), (p4, .inl (cT 1, 2048, .inl f5)), (a5, .inr (2, [.ref a6, .int v8, .int v9])), (a6, .inl (cT 2, 4096, .inr (.inl f7)))] s.heap.size = A at hD hZ ⊢
  have hA : ∀ q : Nat, s.heap.size ≤ q → A q := fun q h => by rw [← hAe]; exact Or.inr h
  have hS : va_S A s.heap s.heap [] := va_S.rf
  have hP : va_P D xcl [(a0, .inr (3, [.ref a1, .ref a2, .ref p2, .ref p4, .int v6])), (a1, .inl (cT 1, 2048, .inl f0)), (a2, .inl (cT 1, 2048, .inl f1)), (p2, .inl (cT 1, 2048, .inl f3)), (p4, .inl (cT 1, 2048, .inl f5)), (a5, .inr (2, [.ref a6, .int v8, .int v9])), (a6, .inl (cT 2, 4096, .inr (.inl f7)))] s.heap := hP
  have hl := lv_entry ([.ref a0, .ref a5, .int x2]) (n := 6) (Nat.le_of_ble_eq_true rfl)
  rw [lg_entry_eq]
  generalize (lg_sl ([.ref a0, .ref a5, .int x2]) ++ List.replicate (6 - (lg_sl ([.ref a0, .ref a5, .int x2])).length) Slot.unset).toArray = ls at hl ⊢
  have hl : lv_has ls 6 [(0, .ref a0), (1, .ref a5), (2, .int x2)] := hl
  unfold fS_gather at hf
  refine xloopK (σ := Nat × Int32 × Int32 × Int32 × Int32 × (Nat → Int32) × (Nat → Int32) × Int32) (fun n x H locs ls => (x.1 = 1 ∧ fS_gather_b f1 p2 p4 f5 f7 v8 v9 n x.1 x.2.1 x.2.2.1 x.2.2.2.1 x.2.2.2.2.1 x.2.2.2.2.2.1 x.2.2.2.2.2.2.1 x.2.2.2.2.2.2.2 = some out ∧ va_P D xcl [(a0, .inr (3, [.ref a1, .ref a2, .ref p2, .ref p4, .int x.2.2.2.2.2.2.2])), (a1, .inl (cT 1, 2048, .inl x.2.2.2.2.2.1)), (a2, .inl (cT 1, 2048, .inl f1)), (p2, .inl (cT 1, 2048, .inl x.2.2.2.2.2.2.1)), (p4, .inl (cT 1, 2048, .inl f5)), (a5, .inr (2, [.ref a6, .int v8, .int v9])), (a6, .inl (cT 2, 4096, .inr (.inl f7)))] H ∧ va_D A [(a0, .inr (3, [.ref a1, .ref a2, .ref p2, .ref p4, .int x.2.2.2.2.2.2.2])), (a1, .inl (cT 1, 2048, .inl x.2.2.2.2.2.1)), (a2, .inl (cT 1, 2048, .inl f1)), (p2, .inl (cT 1, 2048, .inl x.2.2.2.2.2.2.1)), (p4, .inl (cT 1, 2048, .inl f5)), (a5, .inr (2, [.ref a6, .int v8, .int v9])), (a6, .inl (cT 2, 4096, .inr (.inl f7)))] ∧ va_S A s.heap H locs ∧ lv_has ls 6 [(5, .int x.2.1), (4, .int x.2.2.1), (3, .int x.2.2.2.1), (0, .ref a0), (1, .ref a5), (2, .int x.2.2.2.2.1)])) (fun x => 31) (fun x H locs ls h => by exact absurd h.2.1 (by rw [fS_gather_b]; exact fun h => nomatch h)) (fun n ih x H locs ls hv => ?_) (fun key => ?_)
  · obtain ⟨lb, y5, y4, y3, y2, w0, w1, w2⟩ := x
    rcases hv with ⟨hj, hf, hP, hD, hS, hl⟩
    subst hj
    have hf : fS_gather_b f1 p2 p4 f5 f7 v8 v9 (n + 1) 1 y5 y4 y3 y2 w0 w1 w2 = some out := hf
    rw [fS_gather_b] at hf
    obtain ⟨hP, hD⟩ : xPD D xcl A [(a0, .inr (3, [.ref a1, .ref a2, .ref p2, .ref p4, .int w2])), (a1, .inl (cT 1, 2048, .inl w0)), (a2, .inl (cT 1, 2048, .inl f1)), (p2, .inl (cT 1, 2048, .inl w1)), (p4, .inl (cT 1, 2048, .inl f5)), (a5, .inr (2, [.ref a6, .int v8, .int v9])), (a6, .inl (cT 2, 4096, .inr (.inl f7)))] H := ⟨hP, hD⟩
    have hl : lv_has ls 6 [(5, .int y5), (4, .int y4), (3, .int y3), (0, .ref a0), (1, .ref a5), (2, .int y2)] := hl
    refine W.eq (g2 := F0 m 31 ls []) rfl ?_
    refine lv_iload hx hb dS_gather_31 (lv_at hl 0 rfl) ?_
    refine lv_aload_n hx hb dS_gather_33 rfl (lv_at hl 3 rfl) ?_
    refine va_get (D := D) (ci := 3) (v := .int w2) (C := "ValueBench$Sorter") (T := TSo) (N := 5) hx hb htx inS hown hK hP 0 rfl rfl 4 (by decide) (htx _ kw_1_66) (fun _ h9 => h9) rfl dS_gather_34 ?_
    refine lv_icmp_ge (tgt := 84) hx hb dS_gather_37 (by decide) (fun hc => ?_) (fun hc => ?_)
    · rw [if_pos hc] at hf
      obtain rfl := Option.some.inj hf
      obtain ⟨hP9, hD9⟩ := xsub (wc := [(a0, .inr (3, [.ref a1, .ref a2, .ref p2, .ref p4, .int w2])), (a1, .inl (cT 1, 2048, .inl w0)), (a2, .inl (cT 1, 2048, .inl f1)), (p2, .inl (cT 1, 2048, .inl w1)), (p4, .inl (cT 1, 2048, .inl f5)), (a5, .inr (2, [.ref a6, .int v8, .int v9])), (a6, .inl (cT 2, 4096, .inr (.inl f7)))]) hP hD [0, 1, 2, 3, 4, 5, 6] rfl rfl (by decide)
      exact W.vret hx hb hr (fun t ht hW => ⟨⟨(), rfl, trivial, by rw [ht]; exact hP9, va_K.moved hW.alike hK, hD9⟩, hS.F ht⟩) hS.2.2 dS_gather_84
    · rw [if_neg hc] at hf
      refine lv_aload_n hx hb dS_gather_40 rfl (lv_at hl 3 rfl) ?_
      refine va_get (D := D) (ci := 3) (v := .ref a1) (C := "ValueBench$Sorter") (T := TSo) (N := 5) hx hb htx inS hown hK hP 0 rfl rfl 0 (by decide) (htx _ kw_1_62) (fun _ h9 => h9) rfl dS_gather_41 ?_
      refine lv_iload hx hb dS_gather_44 (lv_at hl 0 rfl) ?_
      refine lv_iload hx hb dS_gather_46 (lv_at hl 1 rfl) ?_
      obtain ⟨hg1, hf⟩ := xifn hf
      refine va_iast hx hb hK hP hD hS 1 1 rfl rfl hg1 dS_gather_48 (fun H locs hP hD hS => ?_)
      obtain ⟨hP, hD⟩ : xPD D xcl A [(a0, .inr (3, [.ref a1, .ref a2, .ref p2, .ref p4, .int w2])), (a1, .inl (cT 1, 2048, .inl (upd w0 y5.toNatClampNeg y4))), (a2, .inl (cT 1, 2048, .inl f1)), (p2, .inl (cT 1, 2048, .inl w1)), (p4, .inl (cT 1, 2048, .inl f5)), (a5, .inr (2, [.ref a6, .int v8, .int v9])), (a6, .inl (cT 2, 4096, .inr (.inl f7)))] H := ⟨hP, hD⟩
      refine lv_aload_n hx hb dS_gather_49 rfl (lv_at hl 3 rfl) ?_
      refine va_get (D := D) (ci := 3) (v := .ref p2) (C := "ValueBench$Sorter") (T := TSo) (N := 5) hx hb htx inS hown hK hP 0 rfl rfl 2 (by decide) (htx _ kw_1_64) (fun _ h9 => h9) rfl dS_gather_50 ?_
      refine lv_iload hx hb dS_gather_53 (lv_at hl 0 rfl) ?_
      refine lv_iload hx hb dS_gather_55 (lv_at hl 0 rfl) ?_
      obtain ⟨hg2, hf⟩ := xifn hf
      refine va_iast hx hb hK hP hD hS 3 1 rfl rfl hg2 dS_gather_57 (fun H locs hP hD hS => ?_)
      obtain ⟨hP, hD⟩ : xPD D xcl A [(a0, .inr (3, [.ref a1, .ref a2, .ref p2, .ref p4, .int w2])), (a1, .inl (cT 1, 2048, .inl (upd w0 y5.toNatClampNeg y4))), (a2, .inl (cT 1, 2048, .inl f1)), (p2, .inl (cT 1, 2048, .inl (upd w1 y5.toNatClampNeg y5))), (p4, .inl (cT 1, 2048, .inl f5)), (a5, .inr (2, [.ref a6, .int v8, .int v9])), (a6, .inl (cT 2, 4096, .inr (.inl f7)))] H := ⟨hP, hD⟩
      refine lv_aload_n hx hb dS_gather_58 rfl (lv_at hl 4 rfl) ?_
      refine lv_iload hx hb dS_gather_59 (lv_at hl 1 rfl) ?_
      obtain ⟨o3, hq4, hf⟩ := xbind hf
      obtain ⟨hPc, hDc, hFc⟩ := xcut (wc := [(a5, .inr (2, [.ref a6, .int v8, .int v9])), (a6, .inl (cT 2, 4096, .inr (.inl f7)))]) hP hD hS hA [5, 6] rfl rfl (by decide)
      refine va_calli (va_runV (C := "ValueBench$Row") (As := [.int y4]) (rest := []) ⟨hx, hb, hml, hown, htx⟩ (gR_after l hl9 D cT aK aV H.size n a5 a6 y4 f7 v8 v9 o3 hq4) ⟨callB_of 1 htx (xw_goodC kw_2_196) rfl rfl rfl (htx _ kw_1_4) (htx _ kw_4_58) ⟨by decide, by decide, by decide +kernel⟩ ⟨Nat.le_of_ble_eq_true rfl, Nat.le_of_ble_eq_true rfl⟩, (htx _ kw_2_194), (htx _ kw_2_195)⟩ ⟨xPre_blind, va_recv hK hP (ci := 2) rfl (q0 := 5) rfl, (fun U hU hW => ⟨rfl, xPre_of hZ hS hFc hPc hDc hK U hU hW⟩)⟩ rfl rfl hl.1 rfl (lv_room (Nat.le_of_ble_eq_true rfl)) dS_gather_61 ⟨Nat.le_of_ble_eq_true rfl, Nat.le_of_ble_eq_true rfl⟩) hS (fun q _ h => hFc q h) hFc (fun r5 u9 t H1 locs ht hvm hr9 hB hz1 hk1 hS => ?_)
      obtain ⟨hP1, hK1, hD1⟩ := hB
      rw [ht] at hP1
      obtain ⟨hP, hD⟩ := xjoin (W := [(a0, .inr (3, [.ref a1, .ref a2, .ref p2, .ref p4, .int w2])), (a1, .inl (cT 1, 2048, .inl (upd w0 y5.toNatClampNeg y4))), (a2, .inl (cT 1, 2048, .inl f1)), (p2, .inl (cT 1, 2048, .inl (upd w1 y5.toNatClampNeg y5))), (p4, .inl (cT 1, 2048, .inl f5)), (a5, .inr (2, [.ref a6, .int v8, .int v9])), (a6, .inl (cT 2, 4096, .inr (.inl f7)))]) hP hD [5, 6] [0, 1, 2, 3, 4] 5 rfl rfl (by decide) (by decide) hk1 hFc hP1 hD1
      generalize H1 = H at hP hS ⊢
      rw [hr9]
      refine W.eq (g2 := F0 m 64 ls [.int o3]) rfl ?_
      refine lv_istore (lv' := [(4, .int o3), (5, .int y5), (3, .int y3), (0, .ref a0), (1, .ref a5), (2, .int y2)]) hx hb dS_gather_64 hl (by decide) rfl (fun ls hl => ?_)
      refine lv_iload_n hx hb dS_gather_66 rfl (lv_at hl 2 rfl) ?_
      refine lv_if_eq (tgt := 78) hx hb dS_gather_67 (by decide) (fun hc => ?_) (fun hc => ?_)
      · rw [if_pos hc] at hf
        refine lv_iinc (v := (y5 + 1)) (lv' := [(5, .int (y5 + 1)), (4, .int o3), (3, .int y3), (0, .ref a0), (1, .ref a5), (2, .int y2)]) hx hb dS_gather_78 hl (k := 1) rfl rfl (by decide) rfl (fun ls hl => ?_)
        refine lv_goto (tgt := 31) hx hb dS_gather_81 (by decide) ?_
        obtain ⟨hP9, hD9⟩ := xsub (wc := [(a0, .inr (3, [.ref a1, .ref a2, .ref p2, .ref p4, .int w2])), (a1, .inl (cT 1, 2048, .inl (upd w0 y5.toNatClampNeg y4))), (a2, .inl (cT 1, 2048, .inl f1)), (p2, .inl (cT 1, 2048, .inl (upd w1 y5.toNatClampNeg y5))), (p4, .inl (cT 1, 2048, .inl f5)), (a5, .inr (2, [.ref a6, .int v8, .int v9])), (a6, .inl (cT 2, 4096, .inr (.inl f7)))]) hP hD [0, 1, 2, 3, 4, 5, 6] rfl rfl (by decide)
        exact ih (1, (y5 + 1), o3, y3, y2, (upd w0 y5.toNatClampNeg y4), (upd w1 y5.toNatClampNeg y5), w2) _ _ ls (⟨rfl, hf, hP9, hD9, hS, lv_sub hl [0, 1, 2, 3, 4, 5] rfl⟩)
      · rw [if_neg hc] at hf
        refine lv_aload_n hx hb dS_gather_70 rfl (lv_at hl 4 rfl) ?_
        refine lv_iload hx hb dS_gather_71 (lv_at hl 0 rfl) ?_
        obtain ⟨o6, hq7, hf⟩ := xbind hf
        obtain ⟨hPc, hDc, hFc⟩ := xcut (wc := [(a5, .inr (2, [.ref a6, .int v8, .int v9])), (a6, .inl (cT 2, 4096, .inr (.inl f7)))]) hP hD hS hA [5, 6] rfl rfl (by decide)
        refine va_calli (va_runV (C := "ValueBench$Row") (As := [.int o3]) (rest := []) ⟨hx, hb, hml, hown, htx⟩ (gR_after l hl9 D cT aK aV H.size n a5 a6 o3 f7 v8 v9 o6 hq7) ⟨callB_of 1 htx (xw_goodC kw_2_196) rfl rfl rfl (htx _ kw_1_4) (htx _ kw_4_58) ⟨by decide, by decide, by decide +kernel⟩ ⟨Nat.le_of_ble_eq_true rfl, Nat.le_of_ble_eq_true rfl⟩, (htx _ kw_2_194), (htx _ kw_2_195)⟩ ⟨xPre_blind, va_recv hK hP (ci := 2) rfl (q0 := 5) rfl, (fun U hU hW => ⟨rfl, xPre_of hZ hS hFc hPc hDc hK U hU hW⟩)⟩ rfl rfl hl.1 rfl (lv_room (Nat.le_of_ble_eq_true rfl)) dS_gather_73 ⟨Nat.le_of_ble_eq_true rfl, Nat.le_of_ble_eq_true rfl⟩) hS (fun q _ h => hFc q h) hFc (fun r8 u9 t H1 locs ht hvm hr9 hB hz1 hk1 hS => ?_)
        obtain ⟨hP1, hK1, hD1⟩ := hB
        rw [ht] at hP1
        obtain ⟨hP, hD⟩ := xjoin (W := [(a0, .inr (3, [.ref a1, .ref a2, .ref p2, .ref p4, .int w2])), (a1, .inl (cT 1, 2048, .inl (upd w0 y5.toNatClampNeg y4))), (a2, .inl (cT 1, 2048, .inl f1)), (p2, .inl (cT 1, 2048, .inl (upd w1 y5.toNatClampNeg y5))), (p4, .inl (cT 1, 2048, .inl f5)), (a5, .inr (2, [.ref a6, .int v8, .int v9])), (a6, .inl (cT 2, 4096, .inr (.inl f7)))]) hP hD [5, 6] [0, 1, 2, 3, 4] 5 rfl rfl (by decide) (by decide) hk1 hFc hP1 hD1
        generalize H1 = H at hP hS ⊢
        rw [hr9]
        refine W.eq (g2 := F0 m 76 ls [.int o6]) rfl ?_
        refine lv_istore (lv' := [(4, .int o6), (5, .int y5), (3, .int y3), (0, .ref a0), (1, .ref a5), (2, .int y2)]) hx hb dS_gather_76 hl (by decide) rfl (fun ls hl => ?_)
        refine lv_iinc (v := (y5 + 1)) (lv' := [(5, .int (y5 + 1)), (4, .int o6), (3, .int y3), (0, .ref a0), (1, .ref a5), (2, .int y2)]) hx hb dS_gather_78 hl (k := 1) rfl rfl (by decide) rfl (fun ls hl => ?_)
        refine lv_goto (tgt := 31) hx hb dS_gather_81 (by decide) ?_
        obtain ⟨hP9, hD9⟩ := xsub (wc := [(a0, .inr (3, [.ref a1, .ref a2, .ref p2, .ref p4, .int w2])), (a1, .inl (cT 1, 2048, .inl (upd w0 y5.toNatClampNeg y4))), (a2, .inl (cT 1, 2048, .inl f1)), (p2, .inl (cT 1, 2048, .inl (upd w1 y5.toNatClampNeg y5))), (p4, .inl (cT 1, 2048, .inl f5)), (a5, .inr (2, [.ref a6, .int v8, .int v9])), (a6, .inl (cT 2, 4096, .inr (.inl f7)))]) hP hD [0, 1, 2, 3, 4, 5, 6] rfl rfl (by decide)
        exact ih (1, (y5 + 1), o6, y3, y2, (upd w0 y5.toNatClampNeg y4), (upd w1 y5.toNatClampNeg y5), w2) _ _ ls (⟨rfl, hf, hP9, hD9, hS, lv_sub hl [0, 1, 2, 3, 4, 5] rfl⟩)
  refine lv_aload_n hx hb dS_gather_0 rfl (lv_at hl 1 rfl) ?_
  refine lv_iload_n hx hb dS_gather_1 rfl (lv_at hl 2 rfl) ?_
  refine lv_bipush (v := 6) hx hb dS_gather_2 (by decide) ?_
  obtain ⟨o1, hq2, hf⟩ := xbind hf
  obtain ⟨hPc, hDc, hFc⟩ := xcut (wc := [(a5, .inr (2, [.ref a6, .int v8, .int v9])), (a6, .inl (cT 2, 4096, .inr (.inl f7)))]) hP hD hS hA [5, 6] rfl rfl (by decide)
  refine va_calli (va_runV (C := "ValueBench$Row") (As := [.int x2, .int 6]) (rest := []) ⟨hx, hb, hml, hown, htx⟩ (gR_is l hl9 D cT aK aV s.heap.size n a5 a6 x2 (6 : Int32) f7 v8 v9 o1 hq2) ⟨callB_of 2 htx (xw_goodC kw_3_75) rfl rfl rfl (htx _ kw_1_4) (htx _ kw_4_55) ⟨by decide, by decide, by decide +kernel⟩ ⟨Nat.le_of_ble_eq_true rfl, Nat.le_of_ble_eq_true rfl⟩, (htx _ kw_3_73), (htx _ kw_3_74)⟩ ⟨xPre_blind, va_recv hK hP (ci := 2) rfl (q0 := 5) rfl, (fun U hU hW => ⟨rfl, xPre_of hZ hS hFc hPc hDc hK U hU hW⟩)⟩ rfl rfl hl.1 rfl (lv_room (Nat.le_of_ble_eq_true rfl)) dS_gather_4 ⟨Nat.le_of_ble_eq_true rfl, Nat.le_of_ble_eq_true rfl⟩) hS (fun q _ h => hFc q h) hFc (fun r3 u9 t H1 locs ht hvm hr9 hB hz1 hk1 hS => ?_)
  obtain ⟨hP1, hK1, hD1⟩ := hB
  rw [ht] at hP1
  obtain ⟨hP, hD⟩ := xjoin (W := [(a0, .inr (3, [.ref a1, .ref a2, .ref p2, .ref p4, .int v6])), (a1, .inl (cT 1, 2048, .inl f0)), (a2, .inl (cT 1, 2048, .inl f1)), (p2, .inl (cT 1, 2048, .inl f3)), (p4, .inl (cT 1, 2048, .inl f5)), (a5, .inr (2, [.ref a6, .int v8, .int v9])), (a6, .inl (cT 2, 4096, .inr (.inl f7)))]) hP hD [5, 6] [0, 1, 2, 3, 4] 5 rfl rfl (by decide) (by decide) hk1 hFc hP1 hD1
  generalize H1 = H at hP hS ⊢
  rw [hr9]
  refine W.eq (g2 := F0 m 7 ls [.int o1]) rfl ?_
  refine lv_istore_n (lv' := [(3, .int o1), (0, .ref a0), (1, .ref a5), (2, .int x2)]) hx hb dS_gather_7 rfl hl (by decide) rfl (fun ls hl => ?_)
  refine lv_aload_n hx hb dS_gather_8 rfl (lv_at hl 1 rfl) ?_
  refine lv_aload_n hx hb dS_gather_9 rfl (lv_at hl 2 rfl) ?_
  refine lv_iload_n hx hb dS_gather_10 rfl (lv_at hl 3 rfl) ?_
  obtain ⟨o4, hq5, hf⟩ := xbind hf
  obtain ⟨hPc, hDc, hFc⟩ := xcut (wc := [(a5, .inr (2, [.ref a6, .int v8, .int v9])), (a6, .inl (cT 2, 4096, .inr (.inl f7)))]) hP hD hS hA [5, 6] rfl rfl (by decide)
  refine va_calli (va_runV (C := "ValueBench$Row") (As := [.int x2]) (rest := [.ref a0]) ⟨hx, hb, hml, hown, htx⟩ (gR_length l hl9 D cT aK aV H.size n a5 a6 x2 f7 v8 v9 o4 hq5) ⟨callB_of 1 htx (xw_goodC kw_2_191) rfl rfl rfl (htx _ kw_1_4) (htx _ kw_4_56) ⟨by decide, by decide, by decide +kernel⟩ ⟨Nat.le_of_ble_eq_true rfl, Nat.le_of_ble_eq_true rfl⟩, (htx _ kw_2_189), (htx _ kw_2_190)⟩ ⟨xPre_blind, va_recv hK hP (ci := 2) rfl (q0 := 5) rfl, (fun U hU hW => ⟨rfl, xPre_of hZ hS hFc hPc hDc hK U hU hW⟩)⟩ rfl rfl hl.1 rfl (lv_room (Nat.le_of_ble_eq_true rfl)) dS_gather_11 ⟨Nat.le_of_ble_eq_true rfl, Nat.le_of_ble_eq_true rfl⟩) hS (fun q _ h => hFc q h) hFc (fun r6 u9 t H1 locs ht hvm hr9 hB hz1 hk1 hS => ?_)
  obtain ⟨hP1, hK1, hD1⟩ := hB
  rw [ht] at hP1
  obtain ⟨hP, hD⟩ := xjoin (W := [(a0, .inr (3, [.ref a1, .ref a2, .ref p2, .ref p4, .int v6])), (a1, .inl (cT 1, 2048, .inl f0)), (a2, .inl (cT 1, 2048, .inl f1)), (p2, .inl (cT 1, 2048, .inl f3)), (p4, .inl (cT 1, 2048, .inl f5)), (a5, .inr (2, [.ref a6, .int v8, .int v9])), (a6, .inl (cT 2, 4096, .inr (.inl f7)))]) hP hD [5, 6] [0, 1, 2, 3, 4] 5 rfl rfl (by decide) (by decide) hk1 hFc hP1 hD1
  generalize H1 = H at hP hS ⊢
  rw [hr9]
  refine W.eq (g2 := F0 m 14 ls [.int o4, .ref a0]) rfl ?_
  refine lv_sipush (v := 2048) hx hb dS_gather_14 (by decide) ?_
  refine va_mmin hx hb (hml.trans hl.1.symm) hown (htx _ kw_4_57) (htx _ kw_2_3) (htx _ kw_1_15) (htx _ kw_2_4) (Nat.le_of_ble_eq_true rfl) (Nat.le_of_ble_eq_true rfl) (Nat.le_of_ble_eq_true rfl) (Nat.le_of_ble_eq_true rfl) dS_gather_17 ?_
  refine W.eq (g2 := F0 m 20 ls [.int (if (2048 : Int32) < o4 then (2048 : Int32) else o4), .ref a0]) rfl ?_
  refine va_put (D := D) (ci := 3) (v := .int (if (2048 : Int32) < o4 then (2048 : Int32) else o4)) (ty := .int) (C := "ValueBench$Sorter") (T := TSo) (N := 5) hx hb htx inS tyS tyS_ok nmS hown hK hP hD hS 0 rfl rfl 4 (by decide) (htx _ kw_1_66) (fun _ h9 => h9) rfl (by decide +kernel) rfl rfl (Nat.le_of_ble_eq_true rfl) dS_gather_20 (fun H locs hP hD hS => ?_)
  obtain ⟨hP, hD⟩ : xPD D xcl A [(a0, .inr (3, [.ref a1, .ref a2, .ref p2, .ref p4, .int (if (2048 : Int32) < o4 then (2048 : Int32) else o4)])), (a1, .inl (cT 1, 2048, .inl f0)), (a2, .inl (cT 1, 2048, .inl f1)), (p2, .inl (cT 1, 2048, .inl f3)), (p4, .inl (cT 1, 2048, .inl f5)), (a5, .inr (2, [.ref a6, .int v8, .int v9])), (a6, .inl (cT 2, 4096, .inr (.inl f7)))] H := ⟨hP, hD⟩
  refine lv_iload_n hx hb dS_gather_23 rfl (lv_at hl 3 rfl) ?_
  refine lv_iconst (v := 1) hx hb dS_gather_24 (by decide) ?_
  refine lv_iadd hx hb dS_gather_25 ?_
  refine lv_istore (lv' := [(4, .int (x2 + (1 : Int32))), (3, .int o1), (0, .ref a0), (1, .ref a5), (2, .int x2)]) hx hb dS_gather_26 hl (by decide) rfl (fun ls hl => ?_)
  refine lv_iconst (v := 0) hx hb dS_gather_28 (by decide) ?_
  refine lv_istore (lv' := [(5, .int 0), (4, .int (x2 + (1 : Int32))), (3, .int o1), (0, .ref a0), (1, .ref a5), (2, .int x2)]) hx hb dS_gather_29 hl (by decide) rfl (fun ls hl => ?_)
  obtain ⟨hP9, hD9⟩ := xsub (wc := [(a0, .inr (3, [.ref a1, .ref a2, .ref p2, .ref p4, .int (if (2048 : Int32) < o4 then (2048 : Int32) else o4)])), (a1, .inl (cT 1, 2048, .inl f0)), (a2, .inl (cT 1, 2048, .inl f1)), (p2, .inl (cT 1, 2048, .inl f3)), (p4, .inl (cT 1, 2048, .inl f5)), (a5, .inr (2, [.ref a6, .int v8, .int v9])), (a6, .inl (cT 2, 4096, .inr (.inl f7)))]) hP hD [0, 1, 2, 3, 4, 5, 6] rfl rfl (by decide)
  exact key n (1, 0, (x2 + (1 : Int32)), o1, x2, f0, f3, (if (2048 : Int32) < o4 then (2048 : Int32) else o4)) _ _ ls (⟨rfl, hf, hP9, hD9, hS, lv_sub hl [0, 1, 2, 3, 4, 5] rfl⟩)
set_option maxHeartbeats 400000000 in
set_option maxRecDepth 100000 in
theorem gS_keyAtTurn (l : Launch) (hl9 : l.stackTraces = false) (D : va_G) (cT : Nat → ClassId) (aK aV : Nat → Nat) (sz n : Nat) (a0 : Nat) (a1 : Nat) (a2 : Nat) (x1 : Int32) (f0 : Nat → Int32) (f1 : Nat → Int32) (p2 : Nat) (f3 : Nat → Int32) (p4 : Nat) (f5 : Nat → Int32) (v6 : Int32) (out : Int32) (hf : fS_keyAtTurn n x1 f0 f1 p2 f3 p4 f5 v6 = some out) : xMet l yS_keyAtTurn wyS_keyAtTurn 0 0 0 0 D cT aK aV sz [.ref a0, .int x1] [(a0, .inr (3, [.ref a1, .ref a2, .ref p2, .ref p4, .int v6])), (a1, .inl (cT 1, 2048, .inl f0)), (a2, .inl (cT 1, 2048, .inl f1)), (p2, .inl (cT 1, 2048, .inl f3)), (p4, .inl (cT 1, 2048, .inl f5))] (fun A => va_Qi (fun (r : Int32) (_ : Unit) => r = out) (fun _ t => xB D xcl cT A [(a0, .inr (3, [.ref a1, .ref a2, .ref p2, .ref p4, .int v6])), (a1, .inl (cT 1, 2048, .inl f0)), (a2, .inl (cT 1, 2048, .inl f1)), (p2, .inl (cT 1, 2048, .inl f3)), (p4, .inl (cT 1, 2048, .inl f5))] t) A) := by
  refine Met.ofW (cc := prog_10_method_4_code) (maxL := 2) (ret := (some .int)) (by decide) rfl ?_
  intro p e s m args below meth c s₁ B hml hv
  obtain ⟨rfl, hsz, hZ, hP, hK, hD0⟩ := hv
  have hx := B.exec
  have hb := B.bytes
  have hr := B.returns
  have hts := atoms_spec (ws := wyS_keyAtTurn) B.pre
  have htx := fun w h => hts w (List.mem_cons_of_mem _ h)
  have hown : s.vm.findClass "ValueBench$Sorter" = some m.cls := findClass_of_methodNamed B.named
  have hlocks := B.notSynchronized
  subst hsz
  have hD := hD0.self (sz := s.heap.size)
  generalize hAe : va_A [(a0, .inr (3, [.ref a1, .ref a2, .ref p2, .ref p4, .int v6])), (a1, .inl (cT 1, 2048, .inl f0)), (a2, .inl (cT 1, 2048, .inl f1)), (p2, .inl (cT 1, 2048, .inl f3)), (p4, .inl (cT 1, 2048, .inl f5))] s.heap.size = A at hD hZ ⊢
  have hA : ∀ q : Nat, s.heap.size ≤ q → A q := fun q h => by rw [← hAe]; exact Or.inr h
  have hS : va_S A s.heap s.heap [] := va_S.rf
  have hP : va_P D xcl [(a0, .inr (3, [.ref a1, .ref a2, .ref p2, .ref p4, .int v6])), (a1, .inl (cT 1, 2048, .inl f0)), (a2, .inl (cT 1, 2048, .inl f1)), (p2, .inl (cT 1, 2048, .inl f3)), (p4, .inl (cT 1, 2048, .inl f5))] s.heap := hP
  have hl := lv_entry ([.ref a0, .int x1]) (n := 2) (Nat.le_of_ble_eq_true rfl)
  rw [lg_entry_eq]
  generalize (lg_sl ([.ref a0, .int x1]) ++ List.replicate (2 - (lg_sl ([.ref a0, .int x1])).length) Slot.unset).toArray = ls at hl ⊢
  have hl : lv_has ls 2 [(0, .ref a0), (1, .int x1)] := hl
  unfold fS_keyAtTurn at hf
  refine lv_iload_n hx hb dS_keyAtTurn_0 rfl (lv_at hl 1 rfl) ?_
  refine lv_if_lt (tgt := 26) hx hb dS_keyAtTurn_1 (by decide) (fun hc => ?_) (fun hc => ?_)
  · rw [if_pos hc] at hf
    refine lv_iconst (v := 0) hx hb dS_keyAtTurn_26 (by decide) ?_
    obtain rfl := Option.some.inj hf
    obtain ⟨hP9, hD9⟩ := xsub (wc := [(a0, .inr (3, [.ref a1, .ref a2, .ref p2, .ref p4, .int v6])), (a1, .inl (cT 1, 2048, .inl f0)), (a2, .inl (cT 1, 2048, .inl f1)), (p2, .inl (cT 1, 2048, .inl f3)), (p4, .inl (cT 1, 2048, .inl f5))]) hP hD [0, 1, 2, 3, 4] rfl rfl (by decide)
    exact W.iret (v := (0 : Int32)) hx hb hr (fun t ht hW => ⟨⟨(0 : Int32), (), rfl, rfl, by rw [ht]; exact hP9, va_K.moved hW.alike hK, hD9⟩, hS.F ht⟩) hS.2.2 dS_keyAtTurn_27
  · rw [if_neg hc] at hf
    refine lv_iload_n hx hb dS_keyAtTurn_4 rfl (lv_at hl 1 rfl) ?_
    refine lv_aload_n hx hb dS_keyAtTurn_5 rfl (lv_at hl 0 rfl) ?_
    refine va_get (D := D) (ci := 3) (v := .int v6) (C := "ValueBench$Sorter") (T := TSo) (N := 5) hx hb htx inS hown hK hP 0 rfl rfl 4 (by decide) (htx _ kw_1_66) (fun _ h9 => h9) rfl dS_keyAtTurn_6 ?_
    refine lv_icmp_ge (tgt := 26) hx hb dS_keyAtTurn_9 (by decide) (fun hc => ?_) (fun hc => ?_)
    · rw [if_pos hc] at hf
      refine lv_iconst (v := 0) hx hb dS_keyAtTurn_26 (by decide) ?_
      obtain rfl := Option.some.inj hf
      obtain ⟨hP9, hD9⟩ := xsub (wc := [(a0, .inr (3, [.ref a1, .ref a2, .ref p2, .ref p4, .int v6])), (a1, .inl (cT 1, 2048, .inl f0)), (a2, .inl (cT 1, 2048, .inl f1)), (p2, .inl (cT 1, 2048, .inl f3)), (p4, .inl (cT 1, 2048, .inl f5))]) hP hD [0, 1, 2, 3, 4] rfl rfl (by decide)
      exact W.iret (v := (0 : Int32)) hx hb hr (fun t ht hW => ⟨⟨(0 : Int32), (), rfl, rfl, by rw [ht]; exact hP9, va_K.moved hW.alike hK, hD9⟩, hS.F ht⟩) hS.2.2 dS_keyAtTurn_27
    · rw [if_neg hc] at hf
      refine lv_aload_n hx hb dS_keyAtTurn_12 rfl (lv_at hl 0 rfl) ?_
      refine va_get (D := D) (ci := 3) (v := .ref a1) (C := "ValueBench$Sorter") (T := TSo) (N := 5) hx hb htx inS hown hK hP 0 rfl rfl 0 (by decide) (htx _ kw_1_62) (fun _ h9 => h9) rfl dS_keyAtTurn_13 ?_
      refine lv_aload_n hx hb dS_keyAtTurn_16 rfl (lv_at hl 0 rfl) ?_
      refine va_get (D := D) (ci := 3) (v := .ref p2) (C := "ValueBench$Sorter") (T := TSo) (N := 5) hx hb htx inS hown hK hP 0 rfl rfl 2 (by decide) (htx _ kw_1_64) (fun _ h9 => h9) rfl dS_keyAtTurn_17 ?_
      refine lv_iload_n hx hb dS_keyAtTurn_20 rfl (lv_at hl 1 rfl) ?_
      obtain ⟨hg1, hf⟩ := xifn hf
      refine va_iald hx hb hK hP 3 1 rfl rfl hg1 dS_keyAtTurn_21 ?_
      refine W.eq (g2 := F0 m 22 ls [.int (f3 x1.toNatClampNeg), .ref a1]) rfl ?_
      obtain ⟨hg2, hf⟩ := xifn hf
      refine va_iald hx hb hK hP 1 1 rfl rfl hg2 dS_keyAtTurn_22 ?_
      refine W.eq (g2 := F0 m 23 ls [.int (f0 (f3 x1.toNatClampNeg).toNatClampNeg)]) rfl ?_
      refine lv_goto (tgt := 27) hx hb dS_keyAtTurn_23 (by decide) ?_
      obtain rfl := Option.some.inj hf
      obtain ⟨hP9, hD9⟩ := xsub (wc := [(a0, .inr (3, [.ref a1, .ref a2, .ref p2, .ref p4, .int v6])), (a1, .inl (cT 1, 2048, .inl f0)), (a2, .inl (cT 1, 2048, .inl f1)), (p2, .inl (cT 1, 2048, .inl f3)), (p4, .inl (cT 1, 2048, .inl f5))]) hP hD [0, 1, 2, 3, 4] rfl rfl (by decide)
      exact W.iret (v := (f0 (f3 x1.toNatClampNeg).toNatClampNeg)) hx hb hr (fun t ht hW => ⟨⟨(f0 (f3 x1.toNatClampNeg).toNatClampNeg), (), rfl, rfl, by rw [ht]; exact hP9, va_K.moved hW.alike hK, hD9⟩, hS.F ht⟩) hS.2.2 dS_keyAtTurn_27
set_option maxHeartbeats 400000000 in
set_option maxRecDepth 100000 in
theorem gS_merge (l : Launch) (hl9 : l.stackTraces = false) (D : va_G) (cT : Nat → ClassId) (aK aV : Nat → Nat) (sz d n : Nat) (a0 : Nat) (a1 : Nat) (a2 : Nat) (a5 : Nat) (a6 : Nat) (x2 : Int32) (x3 : Int32) (x4 : Int32) (f0 : Nat → Int32) (f1 : Nat → Int32) (p2 : Nat) (f3 : Nat → Int32) (p4 : Nat) (f5 : Nat → Int32) (v6 : Int32) (f7 : Nat → Int64) (v8 : Int32) (v9 : Int32) (out : (Nat → Int32)) (hf : fS_merge d n x2 x3 x4 f0 f1 p2 f3 p4 f5 v6 f7 v8 v9 = some out) : xMet l yS_merge wyS_merge (16 * d + 1) 0 0 (400 * d + 24) D cT aK aV sz [.ref a0, .ref a5, .int x2, .int x3, .int x4] [(a0, .inr (3, [.ref a1, .ref a2, .ref p2, .ref p4, .int v6])), (a1, .inl (cT 1, 2048, .inl f0)), (a2, .inl (cT 1, 2048, .inl f1)), (p2, .inl (cT 1, 2048, .inl f3)), (p4, .inl (cT 1, 2048, .inl f5)), (a5, .inr (2, [.ref a6, .int v8, .int v9])), (a6, .inl (cT 2, 4096, .inr (.inl f7)))] (fun A => va_Qv (fun _ : Unit => True) (fun _ t => xB D xcl cT A [(a0, .inr (3, [.ref a1, .ref a2, .ref p2, .ref p4, .int v6])), (a1, .inl (cT 1, 2048, .inl f0)), (a2, .inl (cT 1, 2048, .inl f1)), (p2, .inl (cT 1, 2048, .inl f3)), (p4, .inl (cT 1, 2048, .inl out)), (a5, .inr (2, [.ref a6, .int v8, .int v9])), (a6, .inl (cT 2, 4096, .inr (.inl f7)))] t) A) := by
  refine Met.ofW (cc := prog_10_method_7_code) (maxL := 9) (ret := none) (by decide) rfl ?_
  intro p e s m args below meth c s₁ B hml hv
  obtain ⟨rfl, hsz, hZ, hP, hK, hD0⟩ := hv
  have hx := B.exec
  have hb := B.bytes
  have hr := B.returns
  have hts := atoms_spec (ws := wyS_merge) B.pre
  have htx := fun w h => hts w (List.mem_cons_of_mem _ h)
  have hown : s.vm.findClass "ValueBench$Sorter" = some m.cls := findClass_of_methodNamed B.named
  have hlocks := B.notSynchronized
  subst hsz
  have hD := hD0.self (sz := s.heap.size)
  generalize hAe : va_A [(a0, .inr (3, [.ref a1, .ref a2, .ref p2, .ref p4, .int v6])), (a1, .inl (cT 1, 2048, .inl f0)), (a2, .inl (cT 1, 2048, .inl f1)), (p2, .inl (cT 1, 2048, .inl f3)), (p4, .inl (cT 1, 2048, .inl f5)), (a5, .inr (2, [.ref a6, .int v8, .int v9])), (a6, .inl (cT 2, 4096, .inr (.inl f7)))] s.heap.size = A at hD hZ ⊢
  have hA : ∀ q : Nat, s.heap.size ≤ q → A q := fun q h => by rw [← hAe]; exact Or.inr h
  have hS : va_S A s.heap s.heap [] := va_S.rf
  have hP : va_P D xcl [(a0, .inr (3, [.ref a1, .ref a2, .ref p2, .ref p4, .int v6])), (a1, .inl (cT 1, 2048, .inl f0)), (a2, .inl (cT 1, 2048, .inl f1)), (p2, .inl (cT 1, 2048, .inl f3)), (p4, .inl (cT 1, 2048, .inl f5)), (a5, .inr (2, [.ref a6, .int v8, .int v9])), (a6, .inl (cT 2, 4096, .inr (.inl f7)))] s.heap := hP
  have hl := lv_entry ([.ref a0, .ref a5, .int x2, .int x3, .int x4]) (n := 9) (Nat.le_of_ble_eq_true rfl)
  rw [lg_entry_eq]
  generalize (lg_sl ([.ref a0, .ref a5, .int x2, .int x3, .int x4]) ++ List.replicate (9 - (lg_sl ([.ref a0, .ref a5, .int x2, .int x3, .int x4])).length) Slot.unset).toArray = ls at hl ⊢
  have hl : lv_has ls 9 [(0, .ref a0), (1, .ref a5), (2, .int x2), (3, .int x3), (4, .int x4)] := hl
  unfold fS_merge at hf
  refine xloopK (σ := Nat × Int32 × Int32 × Int32 × Int32 × Int32 × Int32 × (Nat → Int32)) (fun n x H locs ls => (x.1 = 1 ∧ fS_merge_b d f0 f1 p2 f3 p4 v6 f7 v8 v9 n x.1 x.2.1 x.2.2.1 x.2.2.2.1 x.2.2.2.2.1 x.2.2.2.2.2.1 x.2.2.2.2.2.2.1 x.2.2.2.2.2.2.2 = some out ∧ va_P D xcl [(a0, .inr (3, [.ref a1, .ref a2, .ref p2, .ref p4, .int v6])), (a1, .inl (cT 1, 2048, .inl f0)), (a2, .inl (cT 1, 2048, .inl f1)), (p2, .inl (cT 1, 2048, .inl f3)), (p4, .inl (cT 1, 2048, .inl x.2.2.2.2.2.2.2)), (a5, .inr (2, [.ref a6, .int v8, .int v9])), (a6, .inl (cT 2, 4096, .inr (.inl f7)))] H ∧ va_D A [(a0, .inr (3, [.ref a1, .ref a2, .ref p2, .ref p4, .int v6])), (a1, .inl (cT 1, 2048, .inl f0)), (a2, .inl (cT 1, 2048, .inl f1)), (p2, .inl (cT 1, 2048, .inl f3)), (p4, .inl (cT 1, 2048, .inl x.2.2.2.2.2.2.2)), (a5, .inr (2, [.ref a6, .int v8, .int v9])), (a6, .inl (cT 2, 4096, .inr (.inl f7)))] ∧ va_S A s.heap H locs ∧ lv_has ls 9 [(7, .int x.2.1), (6, .int x.2.2.1), (5, .int x.2.2.2.1), (0, .ref a0), (1, .ref a5), (2, .int x.2.2.2.2.1), (3, .int x.2.2.2.2.2.1), (4, .int x.2.2.2.2.2.2.1)])) (fun x => 9) (fun x H locs ls h => by exact absurd h.2.1 (by rw [fS_merge_b]; exact fun h => nomatch h)) (fun n ih x H locs ls hv => ?_) (fun key => ?_)
  · obtain ⟨lb, y7, y6, y5, y2, y3, y4, w0⟩ := x
    rcases hv with ⟨hj, hf, hP, hD, hS, hl⟩
    subst hj
    have hf : fS_merge_b d f0 f1 p2 f3 p4 v6 f7 v8 v9 (n + 1) 1 y7 y6 y5 y2 y3 y4 w0 = some out := hf
    rw [fS_merge_b] at hf
    obtain ⟨hP, hD⟩ : xPD D xcl A [(a0, .inr (3, [.ref a1, .ref a2, .ref p2, .ref p4, .int v6])), (a1, .inl (cT 1, 2048, .inl f0)), (a2, .inl (cT 1, 2048, .inl f1)), (p2, .inl (cT 1, 2048, .inl f3)), (p4, .inl (cT 1, 2048, .inl w0)), (a5, .inr (2, [.ref a6, .int v8, .int v9])), (a6, .inl (cT 2, 4096, .inr (.inl f7)))] H := ⟨hP, hD⟩
    have hl : lv_has ls 9 [(7, .int y7), (6, .int y6), (5, .int y5), (0, .ref a0), (1, .ref a5), (2, .int y2), (3, .int y3), (4, .int y4)] := hl
    refine W.eq (g2 := F0 m 9 ls []) rfl ?_
    refine lv_iload hx hb dS_merge_9 (lv_at hl 0 rfl) ?_
    refine lv_iload hx hb dS_merge_11 (lv_at hl 7 rfl) ?_
    refine lv_icmp_ge (tgt := 122) hx hb dS_merge_13 (by decide) (fun hc => ?_) (fun hc => ?_)
    · rw [if_pos hc] at hf
      obtain rfl := Option.some.inj hf
      obtain ⟨hP9, hD9⟩ := xsub (wc := [(a0, .inr (3, [.ref a1, .ref a2, .ref p2, .ref p4, .int v6])), (a1, .inl (cT 1, 2048, .inl f0)), (a2, .inl (cT 1, 2048, .inl f1)), (p2, .inl (cT 1, 2048, .inl f3)), (p4, .inl (cT 1, 2048, .inl w0)), (a5, .inr (2, [.ref a6, .int v8, .int v9])), (a6, .inl (cT 2, 4096, .inr (.inl f7)))]) hP hD [0, 1, 2, 3, 4, 5, 6] rfl rfl (by decide)
      exact W.vret hx hb hr (fun t ht hW => ⟨⟨(), rfl, trivial, by rw [ht]; exact hP9, va_K.moved hW.alike hK, hD9⟩, hS.F ht⟩) hS.2.2 dS_merge_122
    · rw [if_neg hc] at hf
      refine lv_iload hx hb dS_merge_16 (lv_at hl 2 rfl) ?_
      refine lv_iload_n hx hb dS_merge_18 rfl (lv_at hl 6 rfl) ?_
      refine lv_icmp_ge (tgt := 50) hx hb dS_merge_19 (by decide) (fun hc => ?_) (fun hc => ?_)
      · rw [if_pos hc] at hf
        refine lv_iconst (v := 1) hx hb dS_merge_50 (by decide) ?_
        refine lv_goto (tgt := 55) hx hb dS_merge_51 (by decide) ?_
        refine lv_istore (lv' := [(8, .int 1), (7, .int y7), (6, .int y6), (5, .int y5), (0, .ref a0), (1, .ref a5), (2, .int y2), (3, .int y3), (4, .int y4)]) hx hb dS_merge_55 hl (by decide) rfl (fun ls hl => ?_)
        refine lv_aload_n hx hb dS_merge_57 rfl (lv_at hl 4 rfl) ?_
        refine va_get (D := D) (ci := 3) (v := .ref p4) (C := "ValueBench$Sorter") (T := TSo) (N := 5) hx hb htx inS hown hK hP 0 rfl rfl 3 (by decide) (htx _ kw_1_65) (fun _ h9 => h9) rfl dS_merge_58 ?_
        refine lv_iload hx hb dS_merge_61 (lv_at hl 1 rfl) ?_
        refine lv_iload hx hb dS_merge_63 (lv_at hl 0 rfl) ?_
        refine lv_if_eq (tgt := 78) hx hb dS_merge_65 (by decide) (fun h => ((by revert h; decide : False)).elim) (fun _ => ?_)
        refine lv_aload_n hx hb dS_merge_68 rfl (lv_at hl 4 rfl) ?_
        refine va_get (D := D) (ci := 3) (v := .ref p2) (C := "ValueBench$Sorter") (T := TSo) (N := 5) hx hb htx inS hown hK hP 0 rfl rfl 2 (by decide) (htx _ kw_1_64) (fun _ h9 => h9) rfl dS_merge_69 ?_
        refine lv_iload hx hb dS_merge_72 (lv_at hl 2 rfl) ?_
        obtain ⟨hg1, hf⟩ := xifn hf
        refine va_iald hx hb hK hP 3 1 rfl rfl hg1 dS_merge_74 ?_
        refine W.eq (g2 := F0 m 75 ls [.int (f3 y6.toNatClampNeg), .int y7, .ref p4]) rfl ?_
        refine lv_goto (tgt := 85) hx hb dS_merge_75 (by decide) ?_
        obtain ⟨hg2, hf⟩ := xifn hf
        refine va_iast hx hb hK hP hD hS 4 1 rfl rfl hg2 dS_merge_85 (fun H locs hP hD hS => ?_)
        obtain ⟨hP, hD⟩ : xPD D xcl A [(a0, .inr (3, [.ref a1, .ref a2, .ref p2, .ref p4, .int v6])), (a1, .inl (cT 1, 2048, .inl f0)), (a2, .inl (cT 1, 2048, .inl f1)), (p2, .inl (cT 1, 2048, .inl f3)), (p4, .inl (cT 1, 2048, .inl (upd w0 y7.toNatClampNeg (f3 y6.toNatClampNeg)))), (a5, .inr (2, [.ref a6, .int v8, .int v9])), (a6, .inl (cT 2, 4096, .inr (.inl f7)))] H := ⟨hP, hD⟩
        refine lv_iload hx hb dS_merge_86 (lv_at hl 3 rfl) ?_
        refine lv_iload hx hb dS_merge_88 (lv_at hl 0 rfl) ?_
        refine lv_if_eq (tgt := 97) hx hb dS_merge_90 (by decide) (fun h => ((by revert h; decide : False)).elim) (fun _ => ?_)
        refine lv_iconst (v := 0) hx hb dS_merge_93 (by decide) ?_
        refine lv_goto (tgt := 98) hx hb dS_merge_94 (by decide) ?_
        refine lv_iadd hx hb dS_merge_98 ?_
        refine lv_istore (lv' := [(5, .int (y5 + (0 : Int32))), (8, .int 1), (7, .int y7), (6, .int y6), (0, .ref a0), (1, .ref a5), (2, .int y2), (3, .int y3), (4, .int y4)]) hx hb dS_merge_99 hl (by decide) rfl (fun ls hl => ?_)
        refine lv_iload hx hb dS_merge_101 (lv_at hl 3 rfl) ?_
        refine lv_iload hx hb dS_merge_103 (lv_at hl 1 rfl) ?_
        refine lv_if_eq (tgt := 112) hx hb dS_merge_105 (by decide) (fun h => ((by revert h; decide : False)).elim) (fun _ => ?_)
        refine lv_iconst (v := 1) hx hb dS_merge_108 (by decide) ?_
        refine lv_goto (tgt := 113) hx hb dS_merge_109 (by decide) ?_
        refine lv_iadd hx hb dS_merge_113 ?_
        refine lv_istore (lv' := [(6, .int (y6 + (1 : Int32))), (5, .int (y5 + (0 : Int32))), (8, .int 1), (7, .int y7), (0, .ref a0), (1, .ref a5), (2, .int y2), (3, .int y3), (4, .int y4)]) hx hb dS_merge_114 hl (by decide) rfl (fun ls hl => ?_)
        refine lv_iinc (v := (y7 + 1)) (lv' := [(7, .int (y7 + 1)), (6, .int (y6 + (1 : Int32))), (5, .int (y5 + (0 : Int32))), (8, .int 1), (0, .ref a0), (1, .ref a5), (2, .int y2), (3, .int y3), (4, .int y4)]) hx hb dS_merge_116 hl (k := 3) rfl rfl (by decide) rfl (fun ls hl => ?_)
        refine lv_goto (tgt := 9) hx hb dS_merge_119 (by decide) ?_
        obtain ⟨hP9, hD9⟩ := xsub (wc := [(a0, .inr (3, [.ref a1, .ref a2, .ref p2, .ref p4, .int v6])), (a1, .inl (cT 1, 2048, .inl f0)), (a2, .inl (cT 1, 2048, .inl f1)), (p2, .inl (cT 1, 2048, .inl f3)), (p4, .inl (cT 1, 2048, .inl (upd w0 y7.toNatClampNeg (f3 y6.toNatClampNeg)))), (a5, .inr (2, [.ref a6, .int v8, .int v9])), (a6, .inl (cT 2, 4096, .inr (.inl f7)))]) hP hD [0, 1, 2, 3, 4, 5, 6] rfl rfl (by decide)
        exact ih (1, (y7 + 1), (y6 + (1 : Int32)), (y5 + (0 : Int32)), y2, y3, y4, (upd w0 y7.toNatClampNeg (f3 y6.toNatClampNeg))) _ _ ls (⟨rfl, hf, hP9, hD9, hS, lv_sub hl [0, 1, 2, 4, 5, 6, 7, 8] rfl⟩)
      · rw [if_neg hc] at hf
        refine lv_iload hx hb dS_merge_22 (lv_at hl 1 rfl) ?_
        refine lv_iload hx hb dS_merge_24 (lv_at hl 7 rfl) ?_
        refine lv_icmp_ge (tgt := 54) hx hb dS_merge_26 (by decide) (fun hc => ?_) (fun hc => ?_)
        · rw [if_pos hc] at hf
          refine lv_iconst (v := 0) hx hb dS_merge_54 (by decide) ?_
          refine lv_istore (lv' := [(8, .int 0), (7, .int y7), (6, .int y6), (5, .int y5), (0, .ref a0), (1, .ref a5), (2, .int y2), (3, .int y3), (4, .int y4)]) hx hb dS_merge_55 hl (by decide) rfl (fun ls hl => ?_)
          refine lv_aload_n hx hb dS_merge_57 rfl (lv_at hl 4 rfl) ?_
          refine va_get (D := D) (ci := 3) (v := .ref p4) (C := "ValueBench$Sorter") (T := TSo) (N := 5) hx hb htx inS hown hK hP 0 rfl rfl 3 (by decide) (htx _ kw_1_65) (fun _ h9 => h9) rfl dS_merge_58 ?_
          refine lv_iload hx hb dS_merge_61 (lv_at hl 1 rfl) ?_
          refine lv_iload hx hb dS_merge_63 (lv_at hl 0 rfl) ?_
          refine lv_if_eq (tgt := 78) hx hb dS_merge_65 (by decide) (fun _ => ?_) (fun h => ((by revert h; decide : False)).elim)
          refine lv_aload_n hx hb dS_merge_78 rfl (lv_at hl 4 rfl) ?_
          refine va_get (D := D) (ci := 3) (v := .ref p2) (C := "ValueBench$Sorter") (T := TSo) (N := 5) hx hb htx inS hown hK hP 0 rfl rfl 2 (by decide) (htx _ kw_1_64) (fun _ h9 => h9) rfl dS_merge_79 ?_
          refine lv_iload hx hb dS_merge_82 (lv_at hl 3 rfl) ?_
          obtain ⟨hg1, hf⟩ := xifn hf
          refine va_iald hx hb hK hP 3 1 rfl rfl hg1 dS_merge_84 ?_
          refine W.eq (g2 := F0 m 85 ls [.int (f3 y5.toNatClampNeg), .int y7, .ref p4]) rfl ?_
          obtain ⟨hg2, hf⟩ := xifn hf
          refine va_iast hx hb hK hP hD hS 4 1 rfl rfl hg2 dS_merge_85 (fun H locs hP hD hS => ?_)
          obtain ⟨hP, hD⟩ : xPD D xcl A [(a0, .inr (3, [.ref a1, .ref a2, .ref p2, .ref p4, .int v6])), (a1, .inl (cT 1, 2048, .inl f0)), (a2, .inl (cT 1, 2048, .inl f1)), (p2, .inl (cT 1, 2048, .inl f3)), (p4, .inl (cT 1, 2048, .inl (upd w0 y7.toNatClampNeg (f3 y5.toNatClampNeg)))), (a5, .inr (2, [.ref a6, .int v8, .int v9])), (a6, .inl (cT 2, 4096, .inr (.inl f7)))] H := ⟨hP, hD⟩
          refine lv_iload hx hb dS_merge_86 (lv_at hl 3 rfl) ?_
          refine lv_iload hx hb dS_merge_88 (lv_at hl 0 rfl) ?_
          refine lv_if_eq (tgt := 97) hx hb dS_merge_90 (by decide) (fun _ => ?_) (fun h => ((by revert h; decide : False)).elim)
          refine lv_iconst (v := 1) hx hb dS_merge_97 (by decide) ?_
          refine lv_iadd hx hb dS_merge_98 ?_
          refine lv_istore (lv' := [(5, .int (y5 + (1 : Int32))), (8, .int 0), (7, .int y7), (6, .int y6), (0, .ref a0), (1, .ref a5), (2, .int y2), (3, .int y3), (4, .int y4)]) hx hb dS_merge_99 hl (by decide) rfl (fun ls hl => ?_)
          refine lv_iload hx hb dS_merge_101 (lv_at hl 3 rfl) ?_
          refine lv_iload hx hb dS_merge_103 (lv_at hl 1 rfl) ?_
          refine lv_if_eq (tgt := 112) hx hb dS_merge_105 (by decide) (fun _ => ?_) (fun h => ((by revert h; decide : False)).elim)
          refine lv_iconst (v := 0) hx hb dS_merge_112 (by decide) ?_
          refine lv_iadd hx hb dS_merge_113 ?_
          refine lv_istore (lv' := [(6, .int (y6 + (0 : Int32))), (5, .int (y5 + (1 : Int32))), (8, .int 0), (7, .int y7), (0, .ref a0), (1, .ref a5), (2, .int y2), (3, .int y3), (4, .int y4)]) hx hb dS_merge_114 hl (by decide) rfl (fun ls hl => ?_)
          refine lv_iinc (v := (y7 + 1)) (lv' := [(7, .int (y7 + 1)), (6, .int (y6 + (0 : Int32))), (5, .int (y5 + (1 : Int32))), (8, .int 0), (0, .ref a0), (1, .ref a5), (2, .int y2), (3, .int y3), (4, .int y4)]) hx hb dS_merge_116 hl (k := 3) rfl rfl (by decide) rfl (fun ls hl => ?_)
          refine lv_goto (tgt := 9) hx hb dS_merge_119 (by decide) ?_
          obtain ⟨hP9, hD9⟩ := xsub (wc := [(a0, .inr (3, [.ref a1, .ref a2, .ref p2, .ref p4, .int v6])), (a1, .inl (cT 1, 2048, .inl f0)), (a2, .inl (cT 1, 2048, .inl f1)), (p2, .inl (cT 1, 2048, .inl f3)), (p4, .inl (cT 1, 2048, .inl (upd w0 y7.toNatClampNeg (f3 y5.toNatClampNeg)))), (a5, .inr (2, [.ref a6, .int v8, .int v9])), (a6, .inl (cT 2, 4096, .inr (.inl f7)))]) hP hD [0, 1, 2, 3, 4, 5, 6] rfl rfl (by decide)
          exact ih (1, (y7 + 1), (y6 + (0 : Int32)), (y5 + (1 : Int32)), y2, y3, y4, (upd w0 y7.toNatClampNeg (f3 y5.toNatClampNeg))) _ _ ls (⟨rfl, hf, hP9, hD9, hS, lv_sub hl [0, 1, 2, 4, 5, 6, 7, 8] rfl⟩)
        · rw [if_neg hc] at hf
          refine lv_aload_n hx hb dS_merge_29 rfl (lv_at hl 4 rfl) ?_
          refine lv_aload_n hx hb dS_merge_30 rfl (lv_at hl 3 rfl) ?_
          refine lv_iload hx hb dS_merge_31 (lv_at hl 1 rfl) ?_
          obtain ⟨o1, hq2, hf⟩ := xbind hf
          obtain ⟨hPc, hDc, hFc⟩ := xcut (wc := [(a0, .inr (3, [.ref a1, .ref a2, .ref p2, .ref p4, .int v6])), (a1, .inl (cT 1, 2048, .inl f0)), (a2, .inl (cT 1, 2048, .inl f1)), (p2, .inl (cT 1, 2048, .inl f3)), (p4, .inl (cT 1, 2048, .inl w0))]) hP hD hS hA [0, 1, 2, 3, 4] rfl rfl (by decide)
          refine va_calli (va_runV (C := "ValueBench$Sorter") (As := [.int y6]) (rest := [.ref a5]) ⟨hx, hb, hml, hown, htx⟩ (gS_keyAtTurn l hl9 D cT aK aV H.size n a0 a1 a2 y6 f0 f1 p2 f3 p4 w0 v6 o1 hq2) ⟨callB_of 1 htx (xw_goodC kw_4_66) rfl rfl rfl (htx _ kw_1_3) (htx _ kw_4_63) ⟨by decide, by decide, by decide +kernel⟩ ⟨Nat.le_of_ble_eq_true rfl, Nat.le_of_ble_eq_true rfl⟩, (htx _ kw_4_64), (htx _ kw_4_65)⟩ ⟨xPre_blind, va_recv hK hP (ci := 3) rfl (q0 := 0) rfl, (fun U hU hW => ⟨rfl, xPre_of hZ hS hFc hPc hDc hK U hU hW⟩)⟩ rfl rfl hl.1 rfl (lv_room (Nat.le_of_ble_eq_true rfl)) dS_merge_33 ⟨Nat.le_of_ble_eq_true rfl, Nat.le_of_ble_eq_true rfl⟩) hS (fun q _ h => hFc q h) hFc (fun r3 u9 t H1 locs ht hvm hr9 hB hz1 hk1 hS => ?_)
          obtain ⟨hP1, hK1, hD1⟩ := hB
          rw [ht] at hP1
          obtain ⟨hP, hD⟩ := xjoin (W := [(a5, .inr (2, [.ref a6, .int v8, .int v9])), (a6, .inl (cT 2, 4096, .inr (.inl f7))), (a0, .inr (3, [.ref a1, .ref a2, .ref p2, .ref p4, .int v6])), (a1, .inl (cT 1, 2048, .inl f0)), (a2, .inl (cT 1, 2048, .inl f1)), (p2, .inl (cT 1, 2048, .inl f3)), (p4, .inl (cT 1, 2048, .inl w0))]) hP hD [0, 1, 2, 3, 4] [5, 6] 2 rfl rfl (by decide) (by decide) hk1 hFc hP1 hD1
          generalize H1 = H at hP hS ⊢
          rw [hr9]
          refine W.eq (g2 := F0 m 36 ls [.int o1, .ref a5]) rfl ?_
          refine lv_aload_n hx hb dS_merge_36 rfl (lv_at hl 4 rfl) ?_
          refine lv_aload_n hx hb dS_merge_37 rfl (lv_at hl 3 rfl) ?_
          refine lv_iload hx hb dS_merge_38 (lv_at hl 2 rfl) ?_
          obtain ⟨o4, hq5, hf⟩ := xbind hf
          obtain ⟨hPc, hDc, hFc⟩ := xcut (wc := [(a0, .inr (3, [.ref a1, .ref a2, .ref p2, .ref p4, .int v6])), (a1, .inl (cT 1, 2048, .inl f0)), (a2, .inl (cT 1, 2048, .inl f1)), (p2, .inl (cT 1, 2048, .inl f3)), (p4, .inl (cT 1, 2048, .inl w0))]) hP hD hS hA [2, 3, 4, 5, 6] rfl rfl (by decide)
          refine va_calli (va_runV (C := "ValueBench$Sorter") (As := [.int y5]) (rest := [.ref a5, .int o1, .ref a5]) ⟨hx, hb, hml, hown, htx⟩ (gS_keyAtTurn l hl9 D cT aK aV H.size n a0 a1 a2 y5 f0 f1 p2 f3 p4 w0 v6 o4 hq5) ⟨callB_of 1 htx (xw_goodC kw_4_66) rfl rfl rfl (htx _ kw_1_3) (htx _ kw_4_63) ⟨by decide, by decide, by decide +kernel⟩ ⟨Nat.le_of_ble_eq_true rfl, Nat.le_of_ble_eq_true rfl⟩, (htx _ kw_4_64), (htx _ kw_4_65)⟩ ⟨xPre_blind, va_recv hK hP (ci := 3) rfl (q0 := 2) rfl, (fun U hU hW => ⟨rfl, xPre_of hZ hS hFc hPc hDc hK U hU hW⟩)⟩ rfl rfl hl.1 rfl (lv_room (Nat.le_of_ble_eq_true rfl)) dS_merge_40 ⟨Nat.le_of_ble_eq_true rfl, Nat.le_of_ble_eq_true rfl⟩) hS (fun q _ h => hFc q h) hFc (fun r6 u9 t H1 locs ht hvm hr9 hB hz1 hk1 hS => ?_)
          obtain ⟨hP1, hK1, hD1⟩ := hB
          rw [ht] at hP1
          obtain ⟨hP, hD⟩ := xjoin (W := [(a5, .inr (2, [.ref a6, .int v8, .int v9])), (a6, .inl (cT 2, 4096, .inr (.inl f7))), (a0, .inr (3, [.ref a1, .ref a2, .ref p2, .ref p4, .int v6])), (a1, .inl (cT 1, 2048, .inl f0)), (a2, .inl (cT 1, 2048, .inl f1)), (p2, .inl (cT 1, 2048, .inl f3)), (p4, .inl (cT 1, 2048, .inl w0))]) hP hD [2, 3, 4, 5, 6] [0, 1] 2 rfl rfl (by decide) (by decide) hk1 hFc hP1 hD1
          generalize H1 = H at hP hS ⊢
          rw [hr9]
          refine W.eq (g2 := F0 m 43 ls [.int o4, .ref a5, .int o1, .ref a5]) rfl ?_
          refine lv_iconst (v := 0) hx hb dS_merge_43 (by decide) ?_
          obtain ⟨o7, hq8, hf⟩ := xbind hf
          obtain ⟨hPc, hDc, hFc⟩ := xcut (wc := [(a5, .inr (2, [.ref a6, .int v8, .int v9])), (a6, .inl (cT 2, 4096, .inr (.inl f7)))]) hP hD hS hA [0, 1] rfl rfl (by decide)
          refine va_calli (va_runS (As := [.ref a5, .int o1, .ref a5, .int o4, .int 0]) (rest := []) ⟨hx, hb, hml, hown, htx⟩ (gO_ofa l hl9 D cT aK aV d H.size n a5 a6 o1 o4 (0 : Int32) f7 v8 v9 o7 hq8) ⟨callB_of 5 htx (xw_goodC kw_3_165) rfl rfl rfl (htx _ kw_1_23) (htx _ kw_4_67) ⟨by decide, by decide, by decide +kernel⟩ ⟨(by show (16 * d) + 1 ≤ 16 * d + 1; omega), (by show 8 + (5 + 11) + (400 * d) ≤ 400 * d + 24; omega)⟩, htx _ kw_3_164⟩ ⟨xPre_blind, (fun U hU hW => ⟨rfl, xPre_of hZ hS hFc hPc hDc hK U hU hW⟩)⟩ rfl rfl hl.1 rfl (lv_room (Nat.le_of_ble_eq_true rfl)) dS_merge_44 ⟨Nat.le_of_ble_eq_true rfl, Nat.le_of_ble_eq_true rfl⟩) hS (fun q _ h => hFc q h) hFc (fun r9 u9 t H1 locs ht hvm hr9 hB hz1 hk1 hS => ?_)
          obtain ⟨hP1, hK1, hD1⟩ := hB
          rw [ht] at hP1
          obtain ⟨hP, hD⟩ := xjoin (W := [(a0, .inr (3, [.ref a1, .ref a2, .ref p2, .ref p4, .int v6])), (a1, .inl (cT 1, 2048, .inl f0)), (a2, .inl (cT 1, 2048, .inl f1)), (p2, .inl (cT 1, 2048, .inl f3)), (p4, .inl (cT 1, 2048, .inl w0)), (a5, .inr (2, [.ref a6, .int v8, .int v9])), (a6, .inl (cT 2, 4096, .inr (.inl f7)))]) hP hD [0, 1] [2, 3, 4, 5, 6] 5 rfl rfl (by decide) (by decide) hk1 hFc hP1 hD1
          generalize H1 = H at hP hS ⊢
          rw [hr9]
          refine W.eq (g2 := F0 m 47 ls [.int o7]) rfl ?_
          refine lv_if_ge (tgt := 54) hx hb dS_merge_47 (by decide) (fun hc => ?_) (fun hc => ?_)
          · rw [if_pos hc] at hf
            refine lv_iconst (v := 0) hx hb dS_merge_54 (by decide) ?_
            refine lv_istore (lv' := [(8, .int 0), (7, .int y7), (6, .int y6), (5, .int y5), (0, .ref a0), (1, .ref a5), (2, .int y2), (3, .int y3), (4, .int y4)]) hx hb dS_merge_55 hl (by decide) rfl (fun ls hl => ?_)
            refine lv_aload_n hx hb dS_merge_57 rfl (lv_at hl 4 rfl) ?_
            refine va_get (D := D) (ci := 3) (v := .ref p4) (C := "ValueBench$Sorter") (T := TSo) (N := 5) hx hb htx inS hown hK hP 0 rfl rfl 3 (by decide) (htx _ kw_1_65) (fun _ h9 => h9) rfl dS_merge_58 ?_
            refine lv_iload hx hb dS_merge_61 (lv_at hl 1 rfl) ?_
            refine lv_iload hx hb dS_merge_63 (lv_at hl 0 rfl) ?_
            refine lv_if_eq (tgt := 78) hx hb dS_merge_65 (by decide) (fun _ => ?_) (fun h => ((by revert h; decide : False)).elim)
            refine lv_aload_n hx hb dS_merge_78 rfl (lv_at hl 4 rfl) ?_
            refine va_get (D := D) (ci := 3) (v := .ref p2) (C := "ValueBench$Sorter") (T := TSo) (N := 5) hx hb htx inS hown hK hP 0 rfl rfl 2 (by decide) (htx _ kw_1_64) (fun _ h9 => h9) rfl dS_merge_79 ?_
            refine lv_iload hx hb dS_merge_82 (lv_at hl 3 rfl) ?_
            obtain ⟨hg10, hf⟩ := xifn hf
            refine va_iald hx hb hK hP 3 1 rfl rfl hg10 dS_merge_84 ?_
            refine W.eq (g2 := F0 m 85 ls [.int (f3 y5.toNatClampNeg), .int y7, .ref p4]) rfl ?_
            obtain ⟨hg11, hf⟩ := xifn hf
            refine va_iast hx hb hK hP hD hS 4 1 rfl rfl hg11 dS_merge_85 (fun H locs hP hD hS => ?_)
            obtain ⟨hP, hD⟩ : xPD D xcl A [(a0, .inr (3, [.ref a1, .ref a2, .ref p2, .ref p4, .int v6])), (a1, .inl (cT 1, 2048, .inl f0)), (a2, .inl (cT 1, 2048, .inl f1)), (p2, .inl (cT 1, 2048, .inl f3)), (p4, .inl (cT 1, 2048, .inl (upd w0 y7.toNatClampNeg (f3 y5.toNatClampNeg)))), (a5, .inr (2, [.ref a6, .int v8, .int v9])), (a6, .inl (cT 2, 4096, .inr (.inl f7)))] H := ⟨hP, hD⟩
            refine lv_iload hx hb dS_merge_86 (lv_at hl 3 rfl) ?_
            refine lv_iload hx hb dS_merge_88 (lv_at hl 0 rfl) ?_
            refine lv_if_eq (tgt := 97) hx hb dS_merge_90 (by decide) (fun _ => ?_) (fun h => ((by revert h; decide : False)).elim)
            refine lv_iconst (v := 1) hx hb dS_merge_97 (by decide) ?_
            refine lv_iadd hx hb dS_merge_98 ?_
            refine lv_istore (lv' := [(5, .int (y5 + (1 : Int32))), (8, .int 0), (7, .int y7), (6, .int y6), (0, .ref a0), (1, .ref a5), (2, .int y2), (3, .int y3), (4, .int y4)]) hx hb dS_merge_99 hl (by decide) rfl (fun ls hl => ?_)
            refine lv_iload hx hb dS_merge_101 (lv_at hl 3 rfl) ?_
            refine lv_iload hx hb dS_merge_103 (lv_at hl 1 rfl) ?_
            refine lv_if_eq (tgt := 112) hx hb dS_merge_105 (by decide) (fun _ => ?_) (fun h => ((by revert h; decide : False)).elim)
            refine lv_iconst (v := 0) hx hb dS_merge_112 (by decide) ?_
            refine lv_iadd hx hb dS_merge_113 ?_
            refine lv_istore (lv' := [(6, .int (y6 + (0 : Int32))), (5, .int (y5 + (1 : Int32))), (8, .int 0), (7, .int y7), (0, .ref a0), (1, .ref a5), (2, .int y2), (3, .int y3), (4, .int y4)]) hx hb dS_merge_114 hl (by decide) rfl (fun ls hl => ?_)
            refine lv_iinc (v := (y7 + 1)) (lv' := [(7, .int (y7 + 1)), (6, .int (y6 + (0 : Int32))), (5, .int (y5 + (1 : Int32))), (8, .int 0), (0, .ref a0), (1, .ref a5), (2, .int y2), (3, .int y3), (4, .int y4)]) hx hb dS_merge_116 hl (k := 3) rfl rfl (by decide) rfl (fun ls hl => ?_)
            refine lv_goto (tgt := 9) hx hb dS_merge_119 (by decide) ?_
            obtain ⟨hP9, hD9⟩ := xsub (wc := [(a0, .inr (3, [.ref a1, .ref a2, .ref p2, .ref p4, .int v6])), (a1, .inl (cT 1, 2048, .inl f0)), (a2, .inl (cT 1, 2048, .inl f1)), (p2, .inl (cT 1, 2048, .inl f3)), (p4, .inl (cT 1, 2048, .inl (upd w0 y7.toNatClampNeg (f3 y5.toNatClampNeg)))), (a5, .inr (2, [.ref a6, .int v8, .int v9])), (a6, .inl (cT 2, 4096, .inr (.inl f7)))]) hP hD [0, 1, 2, 3, 4, 5, 6] rfl rfl (by decide)
            exact ih (1, (y7 + 1), (y6 + (0 : Int32)), (y5 + (1 : Int32)), y2, y3, y4, (upd w0 y7.toNatClampNeg (f3 y5.toNatClampNeg))) _ _ ls (⟨rfl, hf, hP9, hD9, hS, lv_sub hl [0, 1, 2, 4, 5, 6, 7, 8] rfl⟩)
          · rw [if_neg hc] at hf
            refine lv_iconst (v := 1) hx hb dS_merge_50 (by decide) ?_
            refine lv_goto (tgt := 55) hx hb dS_merge_51 (by decide) ?_
            refine lv_istore (lv' := [(8, .int 1), (7, .int y7), (6, .int y6), (5, .int y5), (0, .ref a0), (1, .ref a5), (2, .int y2), (3, .int y3), (4, .int y4)]) hx hb dS_merge_55 hl (by decide) rfl (fun ls hl => ?_)
            refine lv_aload_n hx hb dS_merge_57 rfl (lv_at hl 4 rfl) ?_
            refine va_get (D := D) (ci := 3) (v := .ref p4) (C := "ValueBench$Sorter") (T := TSo) (N := 5) hx hb htx inS hown hK hP 0 rfl rfl 3 (by decide) (htx _ kw_1_65) (fun _ h9 => h9) rfl dS_merge_58 ?_
            refine lv_iload hx hb dS_merge_61 (lv_at hl 1 rfl) ?_
            refine lv_iload hx hb dS_merge_63 (lv_at hl 0 rfl) ?_
            refine lv_if_eq (tgt := 78) hx hb dS_merge_65 (by decide) (fun h => ((by revert h; decide : False)).elim) (fun _ => ?_)
            refine lv_aload_n hx hb dS_merge_68 rfl (lv_at hl 4 rfl) ?_
            refine va_get (D := D) (ci := 3) (v := .ref p2) (C := "ValueBench$Sorter") (T := TSo) (N := 5) hx hb htx inS hown hK hP 0 rfl rfl 2 (by decide) (htx _ kw_1_64) (fun _ h9 => h9) rfl dS_merge_69 ?_
            refine lv_iload hx hb dS_merge_72 (lv_at hl 2 rfl) ?_
            obtain ⟨hg10, hf⟩ := xifn hf
            refine va_iald hx hb hK hP 3 1 rfl rfl hg10 dS_merge_74 ?_
            refine W.eq (g2 := F0 m 75 ls [.int (f3 y6.toNatClampNeg), .int y7, .ref p4]) rfl ?_
            refine lv_goto (tgt := 85) hx hb dS_merge_75 (by decide) ?_
            obtain ⟨hg11, hf⟩ := xifn hf
            refine va_iast hx hb hK hP hD hS 4 1 rfl rfl hg11 dS_merge_85 (fun H locs hP hD hS => ?_)
            obtain ⟨hP, hD⟩ : xPD D xcl A [(a0, .inr (3, [.ref a1, .ref a2, .ref p2, .ref p4, .int v6])), (a1, .inl (cT 1, 2048, .inl f0)), (a2, .inl (cT 1, 2048, .inl f1)), (p2, .inl (cT 1, 2048, .inl f3)), (p4, .inl (cT 1, 2048, .inl (upd w0 y7.toNatClampNeg (f3 y6.toNatClampNeg)))), (a5, .inr (2, [.ref a6, .int v8, .int v9])), (a6, .inl (cT 2, 4096, .inr (.inl f7)))] H := ⟨hP, hD⟩
            refine lv_iload hx hb dS_merge_86 (lv_at hl 3 rfl) ?_
            refine lv_iload hx hb dS_merge_88 (lv_at hl 0 rfl) ?_
            refine lv_if_eq (tgt := 97) hx hb dS_merge_90 (by decide) (fun h => ((by revert h; decide : False)).elim) (fun _ => ?_)
            refine lv_iconst (v := 0) hx hb dS_merge_93 (by decide) ?_
            refine lv_goto (tgt := 98) hx hb dS_merge_94 (by decide) ?_
            refine lv_iadd hx hb dS_merge_98 ?_
            refine lv_istore (lv' := [(5, .int (y5 + (0 : Int32))), (8, .int 1), (7, .int y7), (6, .int y6), (0, .ref a0), (1, .ref a5), (2, .int y2), (3, .int y3), (4, .int y4)]) hx hb dS_merge_99 hl (by decide) rfl (fun ls hl => ?_)
            refine lv_iload hx hb dS_merge_101 (lv_at hl 3 rfl) ?_
            refine lv_iload hx hb dS_merge_103 (lv_at hl 1 rfl) ?_
            refine lv_if_eq (tgt := 112) hx hb dS_merge_105 (by decide) (fun h => ((by revert h; decide : False)).elim) (fun _ => ?_)
            refine lv_iconst (v := 1) hx hb dS_merge_108 (by decide) ?_
            refine lv_goto (tgt := 113) hx hb dS_merge_109 (by decide) ?_
            refine lv_iadd hx hb dS_merge_113 ?_
            refine lv_istore (lv' := [(6, .int (y6 + (1 : Int32))), (5, .int (y5 + (0 : Int32))), (8, .int 1), (7, .int y7), (0, .ref a0), (1, .ref a5), (2, .int y2), (3, .int y3), (4, .int y4)]) hx hb dS_merge_114 hl (by decide) rfl (fun ls hl => ?_)
            refine lv_iinc (v := (y7 + 1)) (lv' := [(7, .int (y7 + 1)), (6, .int (y6 + (1 : Int32))), (5, .int (y5 + (0 : Int32))), (8, .int 1), (0, .ref a0), (1, .ref a5), (2, .int y2), (3, .int y3), (4, .int y4)]) hx hb dS_merge_116 hl (k := 3) rfl rfl (by decide) rfl (fun ls hl => ?_)
            refine lv_goto (tgt := 9) hx hb dS_merge_119 (by decide) ?_
            obtain ⟨hP9, hD9⟩ := xsub (wc := [(a0, .inr (3, [.ref a1, .ref a2, .ref p2, .ref p4, .int v6])), (a1, .inl (cT 1, 2048, .inl f0)), (a2, .inl (cT 1, 2048, .inl f1)), (p2, .inl (cT 1, 2048, .inl f3)), (p4, .inl (cT 1, 2048, .inl (upd w0 y7.toNatClampNeg (f3 y6.toNatClampNeg)))), (a5, .inr (2, [.ref a6, .int v8, .int v9])), (a6, .inl (cT 2, 4096, .inr (.inl f7)))]) hP hD [0, 1, 2, 3, 4, 5, 6] rfl rfl (by decide)
            exact ih (1, (y7 + 1), (y6 + (1 : Int32)), (y5 + (0 : Int32)), y2, y3, y4, (upd w0 y7.toNatClampNeg (f3 y6.toNatClampNeg))) _ _ ls (⟨rfl, hf, hP9, hD9, hS, lv_sub hl [0, 1, 2, 4, 5, 6, 7, 8] rfl⟩)
  refine lv_iload_n hx hb dS_merge_0 rfl (lv_at hl 2 rfl) ?_
  refine lv_istore (lv' := [(5, .int x2), (0, .ref a0), (1, .ref a5), (2, .int x2), (3, .int x3), (4, .int x4)]) hx hb dS_merge_1 hl (by decide) rfl (fun ls hl => ?_)
  refine lv_iload_n hx hb dS_merge_3 rfl (lv_at hl 4 rfl) ?_
  refine lv_istore (lv' := [(6, .int x3), (5, .int x2), (0, .ref a0), (1, .ref a5), (2, .int x2), (3, .int x3), (4, .int x4)]) hx hb dS_merge_4 hl (by decide) rfl (fun ls hl => ?_)
  refine lv_iload_n hx hb dS_merge_6 rfl (lv_at hl 4 rfl) ?_
  refine lv_istore (lv' := [(7, .int x2), (6, .int x3), (5, .int x2), (0, .ref a0), (1, .ref a5), (2, .int x2), (3, .int x3), (4, .int x4)]) hx hb dS_merge_7 hl (by decide) rfl (fun ls hl => ?_)
  obtain ⟨hP9, hD9⟩ := xsub (wc := [(a0, .inr (3, [.ref a1, .ref a2, .ref p2, .ref p4, .int v6])), (a1, .inl (cT 1, 2048, .inl f0)), (a2, .inl (cT 1, 2048, .inl f1)), (p2, .inl (cT 1, 2048, .inl f3)), (p4, .inl (cT 1, 2048, .inl f5)), (a5, .inr (2, [.ref a6, .int v8, .int v9])), (a6, .inl (cT 2, 4096, .inr (.inl f7)))]) hP hD [0, 1, 2, 3, 4, 5, 6] rfl rfl (by decide)
  exact key n (1, x2, x3, x2, x2, x3, x4, f5) _ _ ls (⟨rfl, hf, hP9, hD9, hS, lv_sub hl [0, 1, 2, 3, 4, 5, 6, 7] rfl⟩)
set_option maxHeartbeats 400000000 in
set_option maxRecDepth 100000 in
theorem gS_arrange (l : Launch) (hl9 : l.stackTraces = false) (D : va_G) (cT : Nat → ClassId) (aK aV : Nat → Nat) (sz d n : Nat) (a0 : Nat) (a1 : Nat) (a2 : Nat) (a5 : Nat) (a6 : Nat) (x2 : Int32) (f0 : Nat → Int32) (f1 : Nat → Int32) (p2 : Nat) (f3 : Nat → Int32) (p4 : Nat) (f5 : Nat → Int32) (v6 : Int32) (f7 : Nat → Int64) (v8 : Int32) (v9 : Int32) (out : (Nat → Int32) × (Nat → Int32) × Nat × (Nat → Int32) × Nat × Int32) (hf : fS_arrange d n x2 f0 f1 p2 f3 p4 f5 v6 f7 v8 v9 = some out) : xMet l yS_arrange wyS_arrange (16 * d + 3) 0 0 (400 * d + 68) D cT aK aV sz [.ref a0, .ref a5, .int x2] [(a0, .inr (3, [.ref a1, .ref a2, .ref p2, .ref p4, .int v6])), (a1, .inl (cT 1, 2048, .inl f0)), (a2, .inl (cT 1, 2048, .inl f1)), (p2, .inl (cT 1, 2048, .inl f3)), (p4, .inl (cT 1, 2048, .inl f5)), (a5, .inr (2, [.ref a6, .int v8, .int v9])), (a6, .inl (cT 2, 4096, .inr (.inl f7)))] (fun A => va_Qv (fun _ : Unit => True) (fun _ t => xB D xcl cT A [(a0, .inr (3, [.ref a1, .ref a2, .ref out.2.2.1, .ref out.2.2.2.2.1, .int out.2.2.2.2.2])), (a1, .inl (cT 1, 2048, .inl out.1)), (a2, .inl (cT 1, 2048, .inl f1)), (out.2.2.1, .inl (cT 1, 2048, .inl out.2.1)), (out.2.2.2.2.1, .inl (cT 1, 2048, .inl out.2.2.2.1)), (a5, .inr (2, [.ref a6, .int v8, .int v9])), (a6, .inl (cT 2, 4096, .inr (.inl f7)))] t) A) := by
  refine Met.ofW (cc := prog_10_method_2_code) (maxL := 5) (ret := none) (by decide) rfl ?_
  intro p e s m args below meth c s₁ B hml hv
  obtain ⟨rfl, hsz, hZ, hP, hK, hD0⟩ := hv
  have hx := B.exec
  have hb := B.bytes
  have hr := B.returns
  have hts := atoms_spec (ws := wyS_arrange) B.pre
  have htx := fun w h => hts w (List.mem_cons_of_mem _ h)
  have hown : s.vm.findClass "ValueBench$Sorter" = some m.cls := findClass_of_methodNamed B.named
  have hlocks := B.notSynchronized
  subst hsz
  have hD := hD0.self (sz := s.heap.size)
  generalize hAe : va_A [(a0, .inr (3, [.ref a1, .ref a2, .ref p2, .ref p4, .int v6])), (a1, .inl (cT 1, 2048, .inl f0)), (a2, .inl (cT 1, 2048, .inl f1)), (p2, .inl (cT 1, 2048, .inl f3)), (p4, .inl (cT 1, 2048, .inl f5)), (a5, .inr (2, [.ref a6, .int v8, .int v9])), (a6, .inl (cT 2, 4096, .inr (.inl f7)))] s.heap.size = A at hD hZ ⊢
  have hA : ∀ q : Nat, s.heap.size ≤ q → A q := fun q h => by rw [← hAe]; exact Or.inr h
  have hS : va_S A s.heap s.heap [] := va_S.rf
  have hP : va_P D xcl [(a0, .inr (3, [.ref a1, .ref a2, .ref p2, .ref p4, .int v6])), (a1, .inl (cT 1, 2048, .inl f0)), (a2, .inl (cT 1, 2048, .inl f1)), (p2, .inl (cT 1, 2048, .inl f3)), (p4, .inl (cT 1, 2048, .inl f5)), (a5, .inr (2, [.ref a6, .int v8, .int v9])), (a6, .inl (cT 2, 4096, .inr (.inl f7)))] s.heap := hP
  have hl := lv_entry ([.ref a0, .ref a5, .int x2]) (n := 5) (Nat.le_of_ble_eq_true rfl)
  rw [lg_entry_eq]
  generalize (lg_sl ([.ref a0, .ref a5, .int x2]) ++ List.replicate (5 - (lg_sl ([.ref a0, .ref a5, .int x2])).length) Slot.unset).toArray = ls at hl ⊢
  have hl : lv_has ls 5 [(0, .ref a0), (1, .ref a5), (2, .int x2)] := hl
  unfold fS_arrange at hf
  refine xloopK (σ := Nat × Int32 × Int32 × Int32 × (Nat → Int32) × (Nat → Int32) × Nat × (Nat → Int32) × Nat × Int32) (fun n x H locs ls => (x.1 = 1 ∧ fS_arrange_b d f1 f7 v8 v9 n x.1 x.2.1 x.2.2.1 x.2.2.2.1 x.2.2.2.2.1 x.2.2.2.2.2.1 x.2.2.2.2.2.2.1 x.2.2.2.2.2.2.2.1 x.2.2.2.2.2.2.2.2.1 x.2.2.2.2.2.2.2.2.2 = some out ∧ va_P D xcl [(a0, .inr (3, [.ref a1, .ref a2, .ref x.2.2.2.2.2.2.1, .ref x.2.2.2.2.2.2.2.2.1, .int x.2.2.2.2.2.2.2.2.2])), (a1, .inl (cT 1, 2048, .inl x.2.2.2.2.1)), (a2, .inl (cT 1, 2048, .inl f1)), (x.2.2.2.2.2.2.1, .inl (cT 1, 2048, .inl x.2.2.2.2.2.1)), (x.2.2.2.2.2.2.2.2.1, .inl (cT 1, 2048, .inl x.2.2.2.2.2.2.2.1)), (a5, .inr (2, [.ref a6, .int v8, .int v9])), (a6, .inl (cT 2, 4096, .inr (.inl f7)))] H ∧ va_D A [(a0, .inr (3, [.ref a1, .ref a2, .ref x.2.2.2.2.2.2.1, .ref x.2.2.2.2.2.2.2.2.1, .int x.2.2.2.2.2.2.2.2.2])), (a1, .inl (cT 1, 2048, .inl x.2.2.2.2.1)), (a2, .inl (cT 1, 2048, .inl f1)), (x.2.2.2.2.2.2.1, .inl (cT 1, 2048, .inl x.2.2.2.2.2.1)), (x.2.2.2.2.2.2.2.2.1, .inl (cT 1, 2048, .inl x.2.2.2.2.2.2.2.1)), (a5, .inr (2, [.ref a6, .int v8, .int v9])), (a6, .inl (cT 2, 4096, .inr (.inl f7)))] ∧ va_S A s.heap H locs ∧ lv_has ls 5 [(3, .int x.2.1), (0, .ref a0), (1, .ref a5), (2, .int x.2.2.1)]) ∨ (x.1 = 2 ∧ fS_arrange_b d f1 f7 v8 v9 n x.1 x.2.1 x.2.2.1 x.2.2.2.1 x.2.2.2.2.1 x.2.2.2.2.2.1 x.2.2.2.2.2.2.1 x.2.2.2.2.2.2.2.1 x.2.2.2.2.2.2.2.2.1 x.2.2.2.2.2.2.2.2.2 = some out ∧ va_P D xcl [(a0, .inr (3, [.ref a1, .ref a2, .ref x.2.2.2.2.2.2.1, .ref x.2.2.2.2.2.2.2.2.1, .int x.2.2.2.2.2.2.2.2.2])), (a1, .inl (cT 1, 2048, .inl x.2.2.2.2.1)), (a2, .inl (cT 1, 2048, .inl f1)), (x.2.2.2.2.2.2.1, .inl (cT 1, 2048, .inl x.2.2.2.2.2.1)), (x.2.2.2.2.2.2.2.2.1, .inl (cT 1, 2048, .inl x.2.2.2.2.2.2.2.1)), (a5, .inr (2, [.ref a6, .int v8, .int v9])), (a6, .inl (cT 2, 4096, .inr (.inl f7)))] H ∧ va_D A [(a0, .inr (3, [.ref a1, .ref a2, .ref x.2.2.2.2.2.2.1, .ref x.2.2.2.2.2.2.2.2.1, .int x.2.2.2.2.2.2.2.2.2])), (a1, .inl (cT 1, 2048, .inl x.2.2.2.2.1)), (a2, .inl (cT 1, 2048, .inl f1)), (x.2.2.2.2.2.2.1, .inl (cT 1, 2048, .inl x.2.2.2.2.2.1)), (x.2.2.2.2.2.2.2.2.1, .inl (cT 1, 2048, .inl x.2.2.2.2.2.2.2.1)), (a5, .inr (2, [.ref a6, .int v8, .int v9])), (a6, .inl (cT 2, 4096, .inr (.inl f7)))] ∧ va_S A s.heap H locs ∧ lv_has ls 5 [(4, .int x.2.2.2.1), (3, .int x.2.1), (0, .ref a0), (1, .ref a5), (2, .int x.2.2.1)])) (fun x => if x.1 = 1 then 8 else 19) (fun x H locs ls h => by rcases h with h | h <;> exact absurd h.2.1 (by rw [fS_arrange_b]; exact fun h => nomatch h)) (fun n ih x H locs ls hv => ?_) (fun key => ?_)
  · obtain ⟨lb, y3, y2, y4, w0, w1, w2, w3, w4, w5⟩ := x
    rcases hv with ⟨hj, hf, hP, hD, hS, hl⟩ | ⟨hj, hf, hP, hD, hS, hl⟩
    · subst hj
      have hf : fS_arrange_b d f1 f7 v8 v9 (n + 1) 1 y3 y2 y4 w0 w1 w2 w3 w4 w5 = some out := hf
      rw [fS_arrange_b, if_pos rfl] at hf
      obtain ⟨hP, hD⟩ : xPD D xcl A [(a0, .inr (3, [.ref a1, .ref a2, .ref w2, .ref w4, .int w5])), (a1, .inl (cT 1, 2048, .inl w0)), (a2, .inl (cT 1, 2048, .inl f1)), (w2, .inl (cT 1, 2048, .inl w1)), (w4, .inl (cT 1, 2048, .inl w3)), (a5, .inr (2, [.ref a6, .int v8, .int v9])), (a6, .inl (cT 2, 4096, .inr (.inl f7)))] H := ⟨hP, hD⟩
      have hl : lv_has ls 5 [(3, .int y3), (0, .ref a0), (1, .ref a5), (2, .int y2)] := hl
      refine W.eq (g2 := F0 m 8 ls []) rfl ?_
      refine lv_iload_n hx hb dS_arrange_8 rfl (lv_at hl 0 rfl) ?_
      refine lv_aload_n hx hb dS_arrange_9 rfl (lv_at hl 1 rfl) ?_
      refine va_get (D := D) (ci := 3) (v := .int w5) (C := "ValueBench$Sorter") (T := TSo) (N := 5) hx hb htx inS hown hK hP 0 rfl rfl 4 (by decide) (htx _ kw_1_66) (fun _ h9 => h9) rfl dS_arrange_10 ?_
      refine lv_icmp_ge (tgt := 97) hx hb dS_arrange_13 (by decide) (fun hc => ?_) (fun hc => ?_)
      · rw [if_pos hc] at hf
        obtain rfl := Option.some.inj hf
        obtain ⟨hP9, hD9⟩ := xsub (wc := [(a0, .inr (3, [.ref a1, .ref a2, .ref w2, .ref w4, .int w5])), (a1, .inl (cT 1, 2048, .inl w0)), (a2, .inl (cT 1, 2048, .inl f1)), (w2, .inl (cT 1, 2048, .inl w1)), (w4, .inl (cT 1, 2048, .inl w3)), (a5, .inr (2, [.ref a6, .int v8, .int v9])), (a6, .inl (cT 2, 4096, .inr (.inl f7)))]) hP hD [0, 1, 2, 3, 4, 5, 6] rfl rfl (by decide)
        exact W.vret hx hb hr (fun t ht hW => ⟨⟨(), rfl, trivial, by rw [ht]; exact hP9, va_K.moved hW.alike hK, hD9⟩, hS.F ht⟩) hS.2.2 dS_arrange_97
      · rw [if_neg hc] at hf
        refine lv_iconst (v := 0) hx hb dS_arrange_16 (by decide) ?_
        refine lv_istore (lv' := [(4, .int 0), (3, .int y3), (0, .ref a0), (1, .ref a5), (2, .int y2)]) hx hb dS_arrange_17 hl (by decide) rfl (fun ls hl => ?_)
        obtain ⟨hP9, hD9⟩ := xsub (wc := [(a0, .inr (3, [.ref a1, .ref a2, .ref w2, .ref w4, .int w5])), (a1, .inl (cT 1, 2048, .inl w0)), (a2, .inl (cT 1, 2048, .inl f1)), (w2, .inl (cT 1, 2048, .inl w1)), (w4, .inl (cT 1, 2048, .inl w3)), (a5, .inr (2, [.ref a6, .int v8, .int v9])), (a6, .inl (cT 2, 4096, .inr (.inl f7)))]) hP hD [0, 1, 2, 3, 4, 5, 6] rfl rfl (by decide)
        exact ih (2, y3, y2, 0, w0, w1, w2, w3, w4, w5) _ _ ls (Or.inr (⟨rfl, hf, hP9, hD9, hS, lv_sub hl [0, 1, 2, 3, 4] rfl⟩))
    · subst hj
      have hf : fS_arrange_b d f1 f7 v8 v9 (n + 1) 2 y3 y2 y4 w0 w1 w2 w3 w4 w5 = some out := hf
      rw [fS_arrange_b, if_neg (by decide)] at hf
      obtain ⟨hP, hD⟩ : xPD D xcl A [(a0, .inr (3, [.ref a1, .ref a2, .ref w2, .ref w4, .int w5])), (a1, .inl (cT 1, 2048, .inl w0)), (a2, .inl (cT 1, 2048, .inl f1)), (w2, .inl (cT 1, 2048, .inl w1)), (w4, .inl (cT 1, 2048, .inl w3)), (a5, .inr (2, [.ref a6, .int v8, .int v9])), (a6, .inl (cT 2, 4096, .inr (.inl f7)))] H := ⟨hP, hD⟩
      have hl : lv_has ls 5 [(4, .int y4), (3, .int y3), (0, .ref a0), (1, .ref a5), (2, .int y2)] := hl
      refine W.eq (g2 := F0 m 19 ls []) rfl ?_
      refine lv_iload hx hb dS_arrange_19 (lv_at hl 0 rfl) ?_
      refine lv_aload_n hx hb dS_arrange_21 rfl (lv_at hl 2 rfl) ?_
      refine va_get (D := D) (ci := 3) (v := .int w5) (C := "ValueBench$Sorter") (T := TSo) (N := 5) hx hb htx inS hown hK hP 0 rfl rfl 4 (by decide) (htx _ kw_1_66) (fun _ h9 => h9) rfl dS_arrange_22 ?_
      refine lv_icmp_ge (tgt := 70) hx hb dS_arrange_25 (by decide) (fun hc => ?_) (fun hc => ?_)
      · rw [if_pos hc] at hf
        refine lv_aload_n hx hb dS_arrange_70 rfl (lv_at hl 2 rfl) ?_
        refine va_get (D := D) (ci := 3) (v := .ref w4) (C := "ValueBench$Sorter") (T := TSo) (N := 5) hx hb htx inS hown hK hP 0 rfl rfl 3 (by decide) (htx _ kw_1_65) (fun _ h9 => h9) rfl dS_arrange_71 ?_
        refine lv_astore (lv' := [(4, .ref w4), (3, .int y3), (0, .ref a0), (1, .ref a5), (2, .int y2)]) hx hb dS_arrange_74 hl (by decide) rfl (fun ls hl => ?_)
        refine lv_aload_n hx hb dS_arrange_76 rfl (lv_at hl 2 rfl) ?_
        refine lv_aload_n hx hb dS_arrange_77 rfl (lv_at hl 2 rfl) ?_
        refine va_get (D := D) (ci := 3) (v := .ref w2) (C := "ValueBench$Sorter") (T := TSo) (N := 5) hx hb htx inS hown hK hP 0 rfl rfl 2 (by decide) (htx _ kw_1_64) (fun _ h9 => h9) rfl dS_arrange_78 ?_
        refine va_put (D := D) (ci := 3) (v := .ref w2) (ty := (.array .int)) (C := "ValueBench$Sorter") (T := TSo) (N := 5) hx hb htx inS tyS tyS_ok nmS hown hK hP hD hS 0 rfl rfl 3 (by decide) (htx _ kw_1_65) (fun _ h9 => h9) rfl (by decide +kernel) rfl rfl (Nat.le_of_ble_eq_true rfl) dS_arrange_81 (fun H locs hP hD hS => ?_)
        obtain ⟨hP, hD⟩ : xPD D xcl A [(a0, .inr (3, [.ref a1, .ref a2, .ref w2, .ref w2, .int w5])), (a1, .inl (cT 1, 2048, .inl w0)), (a2, .inl (cT 1, 2048, .inl f1)), (w2, .inl (cT 1, 2048, .inl w1)), (w4, .inl (cT 1, 2048, .inl w3)), (a5, .inr (2, [.ref a6, .int v8, .int v9])), (a6, .inl (cT 2, 4096, .inr (.inl f7)))] H := ⟨hP, hD⟩
        refine lv_aload_n hx hb dS_arrange_84 rfl (lv_at hl 2 rfl) ?_
        refine lv_aload hx hb dS_arrange_85 (lv_at hl 0 rfl) ?_
        refine va_put (D := D) (ci := 3) (v := .ref w4) (ty := (.array .int)) (C := "ValueBench$Sorter") (T := TSo) (N := 5) hx hb htx inS tyS tyS_ok nmS hown hK hP hD hS 0 rfl rfl 2 (by decide) (htx _ kw_1_64) (fun _ h9 => h9) rfl (by decide +kernel) rfl rfl (Nat.le_of_ble_eq_true rfl) dS_arrange_87 (fun H locs hP hD hS => ?_)
        obtain ⟨hP, hD⟩ : xPD D xcl A [(a0, .inr (3, [.ref a1, .ref a2, .ref w4, .ref w2, .int w5])), (a1, .inl (cT 1, 2048, .inl w0)), (a2, .inl (cT 1, 2048, .inl f1)), (w2, .inl (cT 1, 2048, .inl w1)), (w4, .inl (cT 1, 2048, .inl w3)), (a5, .inr (2, [.ref a6, .int v8, .int v9])), (a6, .inl (cT 2, 4096, .inr (.inl f7)))] H := ⟨hP, hD⟩
        refine lv_iload_n hx hb dS_arrange_90 rfl (lv_at hl 1 rfl) ?_
        refine lv_iconst (v := 2) hx hb dS_arrange_91 (by decide) ?_
        refine lv_imul hx hb dS_arrange_92 ?_
        refine lv_istore_n (lv' := [(3, .int (y3 * (2 : Int32))), (4, .ref w4), (0, .ref a0), (1, .ref a5), (2, .int y2)]) hx hb dS_arrange_93 rfl hl (by decide) rfl (fun ls hl => ?_)
        refine lv_goto (tgt := 8) hx hb dS_arrange_94 (by decide) ?_
        obtain ⟨hP9, hD9⟩ := xsub (wc := [(a0, .inr (3, [.ref a1, .ref a2, .ref w4, .ref w2, .int w5])), (a1, .inl (cT 1, 2048, .inl w0)), (a2, .inl (cT 1, 2048, .inl f1)), (w4, .inl (cT 1, 2048, .inl w3)), (w2, .inl (cT 1, 2048, .inl w1)), (a5, .inr (2, [.ref a6, .int v8, .int v9])), (a6, .inl (cT 2, 4096, .inr (.inl f7)))]) hP hD [0, 1, 2, 4, 3, 5, 6] rfl rfl (by decide)
        exact ih (1, (y3 * (2 : Int32)), y2, 0, w0, w3, w4, w1, w2, w5) _ _ ls (Or.inl ⟨rfl, hf, hP9, hD9, hS, lv_sub hl [0, 2, 3, 4] rfl⟩)
      · rw [if_neg hc] at hf
        refine lv_aload_n hx hb dS_arrange_28 rfl (lv_at hl 2 rfl) ?_
        refine lv_aload_n hx hb dS_arrange_29 rfl (lv_at hl 3 rfl) ?_
        refine lv_iload hx hb dS_arrange_30 (lv_at hl 0 rfl) ?_
        refine lv_iload hx hb dS_arrange_32 (lv_at hl 0 rfl) ?_
        refine lv_iload_n hx hb dS_arrange_34 rfl (lv_at hl 1 rfl) ?_
        refine lv_iadd hx hb dS_arrange_35 ?_
        refine lv_aload_n hx hb dS_arrange_36 rfl (lv_at hl 2 rfl) ?_
        refine va_get (D := D) (ci := 3) (v := .int w5) (C := "ValueBench$Sorter") (T := TSo) (N := 5) hx hb htx inS hown hK hP 0 rfl rfl 4 (by decide) (htx _ kw_1_66) (fun _ h9 => h9) rfl dS_arrange_37 ?_
        refine va_mmin hx hb (hml.trans hl.1.symm) hown (htx _ kw_4_57) (htx _ kw_2_3) (htx _ kw_1_15) (htx _ kw_2_4) (Nat.le_of_ble_eq_true rfl) (Nat.le_of_ble_eq_true rfl) (Nat.le_of_ble_eq_true rfl) (Nat.le_of_ble_eq_true rfl) dS_arrange_40 ?_
        refine W.eq (g2 := F0 m 43 ls [.int (if w5 < (y4 + y3) then w5 else (y4 + y3)), .int y4, .ref a5, .ref a0]) rfl ?_
        refine lv_iload hx hb dS_arrange_43 (lv_at hl 0 rfl) ?_
        refine lv_iconst (v := 2) hx hb dS_arrange_45 (by decide) ?_
        refine lv_iload_n hx hb dS_arrange_46 rfl (lv_at hl 1 rfl) ?_
        refine lv_imul hx hb dS_arrange_47 ?_
        refine lv_iadd hx hb dS_arrange_48 ?_
        refine lv_aload_n hx hb dS_arrange_49 rfl (lv_at hl 2 rfl) ?_
        refine va_get (D := D) (ci := 3) (v := .int w5) (C := "ValueBench$Sorter") (T := TSo) (N := 5) hx hb htx inS hown hK hP 0 rfl rfl 4 (by decide) (htx _ kw_1_66) (fun _ h9 => h9) rfl dS_arrange_50 ?_
        refine va_mmin hx hb (hml.trans hl.1.symm) hown (htx _ kw_4_57) (htx _ kw_2_3) (htx _ kw_1_15) (htx _ kw_2_4) (Nat.le_of_ble_eq_true rfl) (Nat.le_of_ble_eq_true rfl) (Nat.le_of_ble_eq_true rfl) (Nat.le_of_ble_eq_true rfl) dS_arrange_53 ?_
        refine W.eq (g2 := F0 m 56 ls [.int (if w5 < (y4 + ((2 : Int32) * y3)) then w5 else (y4 + ((2 : Int32) * y3))), .int (if w5 < (y4 + y3) then w5 else (y4 + y3)), .int y4, .ref a5, .ref a0]) rfl ?_
        obtain ⟨o1, hq2, hf⟩ := xbind hf
        obtain ⟨hPc, hDc, hFc⟩ := xcut (wc := [(a0, .inr (3, [.ref a1, .ref a2, .ref w2, .ref w4, .int w5])), (a1, .inl (cT 1, 2048, .inl w0)), (a2, .inl (cT 1, 2048, .inl f1)), (w2, .inl (cT 1, 2048, .inl w1)), (w4, .inl (cT 1, 2048, .inl w3)), (a5, .inr (2, [.ref a6, .int v8, .int v9])), (a6, .inl (cT 2, 4096, .inr (.inl f7)))]) hP hD hS hA [0, 1, 2, 3, 4, 5, 6] rfl rfl (by decide)
        refine va_callv (va_runV (C := "ValueBench$Sorter") (As := [.ref a5, .int y4, .int (if w5 < (y4 + y3) then w5 else (y4 + y3)), .int (if w5 < (y4 + ((2 : Int32) * y3)) then w5 else (y4 + ((2 : Int32) * y3)))]) (rest := []) ⟨hx, hb, hml, hown, htx⟩ (gS_merge l hl9 D cT aK aV H.size d n a0 a1 a2 a5 a6 y4 (if w5 < (y4 + y3) then w5 else (y4 + y3)) (if w5 < (y4 + ((2 : Int32) * y3)) then w5 else (y4 + ((2 : Int32) * y3))) w0 f1 w2 w1 w4 w3 w5 f7 v8 v9 o1 hq2) ⟨callB_of 4 htx (xw_goodC kw_4_62) rfl rfl rfl (htx _ kw_1_3) (htx _ kw_4_59) ⟨by decide, by decide, by decide +kernel⟩ ⟨(by show (16 * d + 1) + 1 ≤ 16 * d + 3; omega), (by show 8 + (9 + 11) + (400 * d + 24) ≤ 400 * d + 68; omega)⟩, (htx _ kw_4_61), (htx _ kp_S_merge)⟩ ⟨xPre_blind, va_recv hK hP (ci := 3) rfl (q0 := 0) rfl, (fun U hU hW => ⟨rfl, xPre_of hZ hS hFc hPc hDc hK U hU hW⟩)⟩ rfl rfl hl.1 rfl (lv_room (Nat.le_of_ble_eq_true rfl)) dS_arrange_56 ⟨Nat.le_of_ble_eq_true rfl, Nat.le_of_ble_eq_true rfl⟩) hS (fun q _ h => hFc q h) hFc (fun u9 t H1 locs ht hvm hr9 hB hz1 hk1 hS => ?_)
        obtain ⟨hP1, hK1, hD1⟩ := hB
        rw [ht] at hP1
        obtain ⟨hP, hD⟩ := xjoin (W := [(a0, .inr (3, [.ref a1, .ref a2, .ref w2, .ref w4, .int w5])), (a1, .inl (cT 1, 2048, .inl w0)), (a2, .inl (cT 1, 2048, .inl f1)), (w2, .inl (cT 1, 2048, .inl w1)), (w4, .inl (cT 1, 2048, .inl o1)), (a5, .inr (2, [.ref a6, .int v8, .int v9])), (a6, .inl (cT 2, 4096, .inr (.inl f7)))]) hP hD [0, 1, 2, 3, 4, 5, 6] [] 0 rfl rfl (by decide) (by decide) hk1 hFc hP1 hD1
        generalize H1 = H at hP hS ⊢
        refine lv_iload hx hb dS_arrange_59 (lv_at hl 0 rfl) ?_
        refine lv_iconst (v := 2) hx hb dS_arrange_61 (by decide) ?_
        refine lv_iload_n hx hb dS_arrange_62 rfl (lv_at hl 1 rfl) ?_
        refine lv_imul hx hb dS_arrange_63 ?_
        refine lv_iadd hx hb dS_arrange_64 ?_
        refine lv_istore (lv' := [(4, .int (y4 + ((2 : Int32) * y3))), (3, .int y3), (0, .ref a0), (1, .ref a5), (2, .int y2)]) hx hb dS_arrange_65 hl (by decide) rfl (fun ls hl => ?_)
        refine lv_goto (tgt := 19) hx hb dS_arrange_67 (by decide) ?_
        obtain ⟨hP9, hD9⟩ := xsub (wc := [(a0, .inr (3, [.ref a1, .ref a2, .ref w2, .ref w4, .int w5])), (a1, .inl (cT 1, 2048, .inl w0)), (a2, .inl (cT 1, 2048, .inl f1)), (w2, .inl (cT 1, 2048, .inl w1)), (w4, .inl (cT 1, 2048, .inl o1)), (a5, .inr (2, [.ref a6, .int v8, .int v9])), (a6, .inl (cT 2, 4096, .inr (.inl f7)))]) hP hD [0, 1, 2, 3, 4, 5, 6] rfl rfl (by decide)
        exact ih (2, y3, y2, (y4 + ((2 : Int32) * y3)), w0, w1, w2, o1, w4, w5) _ _ ls (Or.inr (⟨rfl, hf, hP9, hD9, hS, lv_sub hl [0, 1, 2, 3, 4] rfl⟩))
  refine lv_aload_n hx hb dS_arrange_0 rfl (lv_at hl 0 rfl) ?_
  refine lv_aload_n hx hb dS_arrange_1 rfl (lv_at hl 1 rfl) ?_
  refine lv_iload_n hx hb dS_arrange_2 rfl (lv_at hl 2 rfl) ?_
  obtain ⟨o1, hq2, hf⟩ := xbind hf
  obtain ⟨hPc, hDc, hFc⟩ := xcut (wc := [(a0, .inr (3, [.ref a1, .ref a2, .ref p2, .ref p4, .int v6])), (a1, .inl (cT 1, 2048, .inl f0)), (a2, .inl (cT 1, 2048, .inl f1)), (p2, .inl (cT 1, 2048, .inl f3)), (p4, .inl (cT 1, 2048, .inl f5)), (a5, .inr (2, [.ref a6, .int v8, .int v9])), (a6, .inl (cT 2, 4096, .inr (.inl f7)))]) hP hD hS hA [0, 1, 2, 3, 4, 5, 6] rfl rfl (by decide)
  refine va_callv (va_runV (C := "ValueBench$Sorter") (As := [.ref a5, .int x2]) (rest := []) ⟨hx, hb, hml, hown, htx⟩ (gS_gather l hl9 D cT aK aV s.heap.size n a0 a1 a2 a5 a6 x2 f0 f1 p2 f3 p4 f5 v6 f7 v8 v9 o1 hq2) ⟨callB_of 2 htx (xw_goodC kw_4_54) rfl rfl rfl (htx _ kw_1_3) (htx _ kw_4_51) ⟨by decide, by decide, by decide +kernel⟩ ⟨Nat.le_of_ble_eq_true rfl, Nat.le_of_ble_eq_true rfl⟩, (htx _ kw_4_52), (htx _ kw_4_53)⟩ ⟨xPre_blind, va_recv hK hP (ci := 3) rfl (q0 := 0) rfl, (fun U hU hW => ⟨rfl, xPre_of hZ hS hFc hPc hDc hK U hU hW⟩)⟩ rfl rfl hl.1 rfl (lv_room (Nat.le_of_ble_eq_true rfl)) dS_arrange_3 ⟨Nat.le_of_ble_eq_true rfl, Nat.le_of_ble_eq_true rfl⟩) hS (fun q _ h => hFc q h) hFc (fun u9 t H1 locs ht hvm hr9 hB hz1 hk1 hS => ?_)
  obtain ⟨hP1, hK1, hD1⟩ := hB
  rw [ht] at hP1
  obtain ⟨hP, hD⟩ := xjoin (W := [(a0, .inr (3, [.ref a1, .ref a2, .ref p2, .ref p4, .int o1.2.2])), (a1, .inl (cT 1, 2048, .inl o1.1)), (a2, .inl (cT 1, 2048, .inl f1)), (p2, .inl (cT 1, 2048, .inl o1.2.1)), (p4, .inl (cT 1, 2048, .inl f5)), (a5, .inr (2, [.ref a6, .int v8, .int v9])), (a6, .inl (cT 2, 4096, .inr (.inl f7)))]) hP hD [0, 1, 2, 3, 4, 5, 6] [] 0 rfl rfl (by decide) (by decide) hk1 hFc hP1 hD1
  generalize H1 = H at hP hS ⊢
  refine lv_iconst (v := 1) hx hb dS_arrange_6 (by decide) ?_
  refine lv_istore_n (lv' := [(3, .int 1), (0, .ref a0), (1, .ref a5), (2, .int x2)]) hx hb dS_arrange_7 rfl hl (by decide) rfl (fun ls hl => ?_)
  obtain ⟨hP9, hD9⟩ := xsub (wc := [(a0, .inr (3, [.ref a1, .ref a2, .ref p2, .ref p4, .int o1.2.2])), (a1, .inl (cT 1, 2048, .inl o1.1)), (a2, .inl (cT 1, 2048, .inl f1)), (p2, .inl (cT 1, 2048, .inl o1.2.1)), (p4, .inl (cT 1, 2048, .inl f5)), (a5, .inr (2, [.ref a6, .int v8, .int v9])), (a6, .inl (cT 2, 4096, .inr (.inl f7)))]) hP hD [0, 1, 2, 3, 4, 5, 6] rfl rfl (by decide)
  exact key n (1, 1, x2, 0, o1.1, o1.2.1, p2, f5, p4, o1.2.2) _ _ ls (Or.inl ⟨rfl, hf, hP9, hD9, hS, lv_sub hl [0, 1, 2, 3] rfl⟩)
set_option maxHeartbeats 400000000 in
set_option maxRecDepth 100000 in
theorem gG_sorted (l : Launch) (hl9 : l.stackTraces = false) (D : va_G) (cT : Nat → ClassId) (aK aV : Nat → Nat) (sz d n : Nat) (a0 : Nat) (a1 : Nat) (a2 : Nat) (a3 : Nat) (a4 : Nat) (a7 : Nat) (a8 : Nat) (f0 : Nat → Int64) (v1 : Int32) (v2 : Int32) (f3 : Nat → Int32) (f4 : Nat → Int32) (p5 : Nat) (f6 : Nat → Int32) (p7 : Nat) (f8 : Nat → Int32) (v9 : Int32) (f10 : Nat → Int64) (v11 : Int32) (v12 : Int32) (out : Int32 × (Nat → Int32) × (Nat → Int32) × Nat × (Nat → Int32) × Nat × Int32 × (Nat → Int64) × Int32 × Int32) (hf : fG_sorted d n f0 v1 v2 f3 f4 p5 f6 p7 f8 v9 f10 v11 v12 = some out) : xMet l yG_sorted wyG_sorted (16 * d + 4) 0 0 (400 * d + 105) D cT aK aV sz [.ref a0, .ref a2, .ref a7] [(a0, .inr (2, [.ref a1, .int v1, .int v2])), (a1, .inl (cT 2, 4096, .inr (.inl f0))), (a2, .inr (3, [.ref a3, .ref a4, .ref p5, .ref p7, .int v9])), (a3, .inl (cT 1, 2048, .inl f3)), (a4, .inl (cT 1, 2048, .inl f4)), (p5, .inl (cT 1, 2048, .inl f6)), (p7, .inl (cT 1, 2048, .inl f8)), (a7, .inr (2, [.ref a8, .int v11, .int v12])), (a8, .inl (cT 2, 4096, .inr (.inl f10)))] (fun A => va_Qi (fun (r : Int32) (_ : Unit) => r = out.1) (fun _ t => xB D xcl cT A [(a0, .inr (2, [.ref a1, .int v1, .int v2])), (a1, .inl (cT 2, 4096, .inr (.inl f0))), (a2, .inr (3, [.ref a3, .ref a4, .ref out.2.2.2.1, .ref out.2.2.2.2.2.1, .int out.2.2.2.2.2.2.1])), (a3, .inl (cT 1, 2048, .inl out.2.1)), (a4, .inl (cT 1, 2048, .inl f4)), (out.2.2.2.1, .inl (cT 1, 2048, .inl out.2.2.1)), (out.2.2.2.2.2.1, .inl (cT 1, 2048, .inl out.2.2.2.2.1)), (a7, .inr (2, [.ref a8, .int out.2.2.2.2.2.2.2.2.1, .int out.2.2.2.2.2.2.2.2.2])), (a8, .inl (cT 2, 4096, .inr (.inl out.2.2.2.2.2.2.2.1)))] t) A) := by
  refine Met.ofW (cc := prog_9_method_6_code) (maxL := 5) (ret := (some .int)) (by decide) rfl ?_
  intro p e s m args below meth c s₁ B hml hv
  obtain ⟨rfl, hsz, hZ, hP, hK, hD0⟩ := hv
  have hx := B.exec
  have hb := B.bytes
  have hr := B.returns
  have hts := atoms_spec (ws := wyG_sorted) B.pre
  have htx := fun w h => hts w (List.mem_cons_of_mem _ h)
  have hown : s.vm.findClass "ValueBench$Singles" = some m.cls := findClass_of_methodNamed B.named
  have hlocks := B.notSynchronized
  subst hsz
  have hD := hD0.self (sz := s.heap.size)
  generalize hAe : va_A [(a0, .inr (2, [.ref a1, .int v1, .int v2])), (a1, .inl (cT 2, 4096, .inr (.inl f0))), (a2, .inr (3, [.ref a3, .ref a4, .ref p5, .ref p7, .int v9])), (a3, .inl (cT 1, 2048, .inl f3)), (a4, .inl (cT 1, 2048, .inl f4)), (p5, .inl (cT 1, 2048, .inl f6)), (p7, .inl (cT 1, 2048, .inl f8)), (a7, .inr (2, [.ref a8, .int v11, .int v12])), (a8, .inl (cT 2, 4096, .inr (.inl f10)))] s.heap.size = A at hD hZ ⊢
  have hA : ∀ q : Nat, s.heap.size ≤ q → A q := fun q h => by rw [← hAe]; exact Or.inr h
  have hS : va_S A s.heap s.heap [] := va_S.rf
  have hP : va_P D xcl [(a0, .inr (2, [.ref a1, .int v1, .int v2])), (a1, .inl (cT 2, 4096, .inr (.inl f0))), (a2, .inr (3, [.ref a3, .ref a4, .ref p5, .ref p7, .int v9])), (a3, .inl (cT 1, 2048, .inl f3)), (a4, .inl (cT 1, 2048, .inl f4)), (p5, .inl (cT 1, 2048, .inl f6)), (p7, .inl (cT 1, 2048, .inl f8)), (a7, .inr (2, [.ref a8, .int v11, .int v12])), (a8, .inl (cT 2, 4096, .inr (.inl f10)))] s.heap := hP
  have hl := lv_entry ([.ref a0, .ref a2, .ref a7]) (n := 5) (Nat.le_of_ble_eq_true rfl)
  rw [lg_entry_eq]
  generalize (lg_sl ([.ref a0, .ref a2, .ref a7]) ++ List.replicate (5 - (lg_sl ([.ref a0, .ref a2, .ref a7])).length) Slot.unset).toArray = ls at hl ⊢
  have hl : lv_has ls 5 [(0, .ref a0), (1, .ref a2), (2, .ref a7)] := hl
  unfold fG_sorted at hf
  refine xloopK (σ := Nat × Int32 × Int32 × (Nat → Int32) × (Nat → Int32) × Nat × (Nat → Int32) × Nat × Int32 × (Nat → Int64) × Int32 × Int32) (fun n x H locs ls => (x.1 = 1 ∧ fG_sorted_b d f0 v1 v2 f4 n x.1 x.2.1 x.2.2.1 x.2.2.2.1 x.2.2.2.2.1 x.2.2.2.2.2.1 x.2.2.2.2.2.2.1 x.2.2.2.2.2.2.2.1 x.2.2.2.2.2.2.2.2.1 x.2.2.2.2.2.2.2.2.2.1 x.2.2.2.2.2.2.2.2.2.2.1 x.2.2.2.2.2.2.2.2.2.2.2 = some out ∧ va_P D xcl [(a0, .inr (2, [.ref a1, .int v1, .int v2])), (a1, .inl (cT 2, 4096, .inr (.inl f0))), (a2, .inr (3, [.ref a3, .ref a4, .ref x.2.2.2.2.2.1, .ref x.2.2.2.2.2.2.2.1, .int x.2.2.2.2.2.2.2.2.1])), (a3, .inl (cT 1, 2048, .inl x.2.2.2.1)), (a4, .inl (cT 1, 2048, .inl f4)), (x.2.2.2.2.2.1, .inl (cT 1, 2048, .inl x.2.2.2.2.1)), (x.2.2.2.2.2.2.2.1, .inl (cT 1, 2048, .inl x.2.2.2.2.2.2.1)), (a7, .inr (2, [.ref a8, .int x.2.2.2.2.2.2.2.2.2.2.1, .int x.2.2.2.2.2.2.2.2.2.2.2])), (a8, .inl (cT 2, 4096, .inr (.inl x.2.2.2.2.2.2.2.2.2.1)))] H ∧ va_D A [(a0, .inr (2, [.ref a1, .int v1, .int v2])), (a1, .inl (cT 2, 4096, .inr (.inl f0))), (a2, .inr (3, [.ref a3, .ref a4, .ref x.2.2.2.2.2.1, .ref x.2.2.2.2.2.2.2.1, .int x.2.2.2.2.2.2.2.2.1])), (a3, .inl (cT 1, 2048, .inl x.2.2.2.1)), (a4, .inl (cT 1, 2048, .inl f4)), (x.2.2.2.2.2.1, .inl (cT 1, 2048, .inl x.2.2.2.2.1)), (x.2.2.2.2.2.2.2.1, .inl (cT 1, 2048, .inl x.2.2.2.2.2.2.1)), (a7, .inr (2, [.ref a8, .int x.2.2.2.2.2.2.2.2.2.2.1, .int x.2.2.2.2.2.2.2.2.2.2.2])), (a8, .inl (cT 2, 4096, .inr (.inl x.2.2.2.2.2.2.2.2.2.1)))] ∧ va_S A s.heap H locs ∧ lv_has ls 5 [(4, .int x.2.1), (3, .int x.2.2.1), (0, .ref a0), (1, .ref a2), (2, .ref a7)])) (fun x => 14) (fun x H locs ls h => by exact absurd h.2.1 (by rw [fG_sorted_b]; exact fun h => nomatch h)) (fun n ih x H locs ls hv => ?_) (fun key => ?_)
  · obtain ⟨lb, y4, y3, w0, w1, w2, w3, w4, w5, w6, w7, w8⟩ := x
    rcases hv with ⟨hj, hf, hP, hD, hS, hl⟩
    subst hj
    have hf : fG_sorted_b d f0 v1 v2 f4 (n + 1) 1 y4 y3 w0 w1 w2 w3 w4 w5 w6 w7 w8 = some out := hf
    rw [fG_sorted_b] at hf
    obtain ⟨hP, hD⟩ : xPD D xcl A [(a0, .inr (2, [.ref a1, .int v1, .int v2])), (a1, .inl (cT 2, 4096, .inr (.inl f0))), (a2, .inr (3, [.ref a3, .ref a4, .ref w2, .ref w4, .int w5])), (a3, .inl (cT 1, 2048, .inl w0)), (a4, .inl (cT 1, 2048, .inl f4)), (w2, .inl (cT 1, 2048, .inl w1)), (w4, .inl (cT 1, 2048, .inl w3)), (a7, .inr (2, [.ref a8, .int w7, .int w8])), (a8, .inl (cT 2, 4096, .inr (.inl w6)))] H := ⟨hP, hD⟩
    have hl : lv_has ls 5 [(4, .int y4), (3, .int y3), (0, .ref a0), (1, .ref a2), (2, .ref a7)] := hl
    refine W.eq (g2 := F0 m 14 ls []) rfl ?_
    refine lv_iload hx hb dG_sorted_14 (lv_at hl 0 rfl) ?_
    refine lv_aload_n hx hb dG_sorted_16 rfl (lv_at hl 2 rfl) ?_
    refine lv_iconst (v := 0) hx hb dG_sorted_17 (by decide) ?_
    obtain ⟨o1, hq2, hf⟩ := xbind hf
    obtain ⟨hPc, hDc, hFc⟩ := xcut (wc := [(a0, .inr (2, [.ref a1, .int v1, .int v2])), (a1, .inl (cT 2, 4096, .inr (.inl f0)))]) hP hD hS hA [0, 1] rfl rfl (by decide)
    refine va_calli (va_runV (C := "ValueBench$Row") (As := [.int 0]) (rest := [.int y4]) ⟨hx, hb, hml, hown, htx⟩ (gR_length l hl9 D cT aK aV H.size n a0 a1 (0 : Int32) f0 v1 v2 o1 hq2) ⟨callB_of 1 htx (xw_goodC kw_2_191) rfl rfl rfl (htx _ kw_1_4) (htx _ kw_4_42) ⟨by decide, by decide, by decide +kernel⟩ ⟨Nat.le_of_ble_eq_true rfl, Nat.le_of_ble_eq_true rfl⟩, (htx _ kw_2_189), (htx _ kw_2_190)⟩ ⟨xPre_blind, va_recv hK hP (ci := 2) rfl (q0 := 0) rfl, (fun U hU hW => ⟨rfl, xPre_of hZ hS hFc hPc hDc hK U hU hW⟩)⟩ rfl rfl hl.1 rfl (lv_room (Nat.le_of_ble_eq_true rfl)) dG_sorted_18 ⟨Nat.le_of_ble_eq_true rfl, Nat.le_of_ble_eq_true rfl⟩) hS (fun q _ h => hFc q h) hFc (fun r3 u9 t H1 locs ht hvm hr9 hB hz1 hk1 hS => ?_)
    obtain ⟨hP1, hK1, hD1⟩ := hB
    rw [ht] at hP1
    obtain ⟨hP, hD⟩ := xjoin (W := [(a2, .inr (3, [.ref a3, .ref a4, .ref w2, .ref w4, .int w5])), (a3, .inl (cT 1, 2048, .inl w0)), (a4, .inl (cT 1, 2048, .inl f4)), (w2, .inl (cT 1, 2048, .inl w1)), (w4, .inl (cT 1, 2048, .inl w3)), (a7, .inr (2, [.ref a8, .int w7, .int w8])), (a8, .inl (cT 2, 4096, .inr (.inl w6))), (a0, .inr (2, [.ref a1, .int v1, .int v2])), (a1, .inl (cT 2, 4096, .inr (.inl f0)))]) hP hD [0, 1] [2, 3, 4, 5, 6, 7, 8] 7 rfl rfl (by decide) (by decide) hk1 hFc hP1 hD1
    generalize H1 = H at hP hS ⊢
    rw [hr9]
    refine W.eq (g2 := F0 m 21 ls [.int o1, .int y4]) rfl ?_
    refine lv_icmp_ge (tgt := 41) hx hb dG_sorted_21 (by decide) (fun hc => ?_) (fun hc => ?_)
    · rw [if_pos hc] at hf
      refine lv_aload_n hx hb dG_sorted_41 rfl (lv_at hl 4 rfl) ?_
      refine lv_iload_n hx hb dG_sorted_42 rfl (lv_at hl 1 rfl) ?_
      refine lv_iconst (v := 5) hx hb dG_sorted_43 (by decide) ?_
      refine lv_aload_n hx hb dG_sorted_44 rfl (lv_at hl 2 rfl) ?_
      refine lv_iconst (v := 0) hx hb dG_sorted_45 (by decide) ?_
      obtain ⟨o4, hq5, hf⟩ := xbind hf
      obtain ⟨hPc, hDc, hFc⟩ := xcut (wc := [(a0, .inr (2, [.ref a1, .int v1, .int v2])), (a1, .inl (cT 2, 4096, .inr (.inl f0)))]) hP hD hS hA [7, 8] rfl rfl (by decide)
      refine va_calli (va_runV (C := "ValueBench$Row") (As := [.int 0]) (rest := [.int 5, .int y3, .ref a7]) ⟨hx, hb, hml, hown, htx⟩ (gR_length l hl9 D cT aK aV H.size n a0 a1 (0 : Int32) f0 v1 v2 o4 hq5) ⟨callB_of 1 htx (xw_goodC kw_2_191) rfl rfl rfl (htx _ kw_1_4) (htx _ kw_4_42) ⟨by decide, by decide, by decide +kernel⟩ ⟨Nat.le_of_ble_eq_true rfl, Nat.le_of_ble_eq_true rfl⟩, (htx _ kw_2_189), (htx _ kw_2_190)⟩ ⟨xPre_blind, va_recv hK hP (ci := 2) rfl (q0 := 7) rfl, (fun U hU hW => ⟨rfl, xPre_of hZ hS hFc hPc hDc hK U hU hW⟩)⟩ rfl rfl hl.1 rfl (lv_room (Nat.le_of_ble_eq_true rfl)) dG_sorted_46 ⟨Nat.le_of_ble_eq_true rfl, Nat.le_of_ble_eq_true rfl⟩) hS (fun q _ h => hFc q h) hFc (fun r6 u9 t H1 locs ht hvm hr9 hB hz1 hk1 hS => ?_)
      obtain ⟨hP1, hK1, hD1⟩ := hB
      rw [ht] at hP1
      obtain ⟨hP, hD⟩ := xjoin (W := [(a2, .inr (3, [.ref a3, .ref a4, .ref w2, .ref w4, .int w5])), (a3, .inl (cT 1, 2048, .inl w0)), (a4, .inl (cT 1, 2048, .inl f4)), (w2, .inl (cT 1, 2048, .inl w1)), (w4, .inl (cT 1, 2048, .inl w3)), (a7, .inr (2, [.ref a8, .int w7, .int w8])), (a8, .inl (cT 2, 4096, .inr (.inl w6))), (a0, .inr (2, [.ref a1, .int v1, .int v2])), (a1, .inl (cT 2, 4096, .inr (.inl f0)))]) hP hD [7, 8] [0, 1, 2, 3, 4, 5, 6] 7 rfl rfl (by decide) (by decide) hk1 hFc hP1 hD1
      generalize H1 = H at hP hS ⊢
      rw [hr9]
      refine W.eq (g2 := F0 m 49 ls [.int o4, .int 5, .int y3, .ref a7]) rfl ?_
      obtain ⟨o7, hq8, hf⟩ := xbind hf
      obtain ⟨hPc, hDc, hFc⟩ := xcut (wc := [(a7, .inr (2, [.ref a8, .int w7, .int w8])), (a8, .inl (cT 2, 4096, .inr (.inl w6)))]) hP hD hS hA [5, 6] rfl rfl (by decide)
      refine va_callv (va_runV (C := "ValueBench$Row") (As := [.int y3, .int 5, .int o4]) (rest := []) ⟨hx, hb, hml, hown, htx⟩ (gR_close l hl9 D cT aK aV H.size n a7 a8 y3 (5 : Int32) o4 w6 w7 w8 o7 hq8) ⟨callB_of 3 htx (xw_goodC kw_2_167) rfl rfl rfl (htx _ kw_1_4) (htx _ kw_4_70) ⟨by decide, by decide, by decide +kernel⟩ ⟨Nat.le_of_ble_eq_true rfl, Nat.le_of_ble_eq_true rfl⟩, (htx _ kw_2_165), (htx _ kw_2_166)⟩ ⟨xPre_blind, va_recv hK hP (ci := 2) rfl (q0 := 5) rfl, (fun U hU hW => ⟨rfl, xPre_of hZ hS hFc hPc hDc hK U hU hW⟩)⟩ rfl rfl hl.1 rfl (lv_room (Nat.le_of_ble_eq_true rfl)) dG_sorted_49 ⟨Nat.le_of_ble_eq_true rfl, Nat.le_of_ble_eq_true rfl⟩) hS (fun q _ h => hFc q h) hFc (fun u9 t H1 locs ht hvm hr9 hB hz1 hk1 hS => ?_)
      obtain ⟨hP1, hK1, hD1⟩ := hB
      rw [ht] at hP1
      obtain ⟨hP, hD⟩ := xjoin (W := [(a2, .inr (3, [.ref a3, .ref a4, .ref w2, .ref w4, .int w5])), (a3, .inl (cT 1, 2048, .inl w0)), (a4, .inl (cT 1, 2048, .inl f4)), (w2, .inl (cT 1, 2048, .inl w1)), (w4, .inl (cT 1, 2048, .inl w3)), (a0, .inr (2, [.ref a1, .int v1, .int v2])), (a1, .inl (cT 2, 4096, .inr (.inl f0))), (a7, .inr (2, [.ref a8, .int w7, .int w8])), (a8, .inl (cT 2, 4096, .inr (.inl o7)))]) hP hD [5, 6] [0, 1, 2, 3, 4, 7, 8] 7 rfl rfl (by decide) (by decide) hk1 hFc hP1 hD1
      generalize H1 = H at hP hS ⊢
      refine lv_iconst (v := 0) hx hb dG_sorted_52 (by decide) ?_
      obtain rfl := Option.some.inj hf
      obtain ⟨hP9, hD9⟩ := xsub (wc := [(a0, .inr (2, [.ref a1, .int v1, .int v2])), (a1, .inl (cT 2, 4096, .inr (.inl f0))), (a2, .inr (3, [.ref a3, .ref a4, .ref w2, .ref w4, .int w5])), (a3, .inl (cT 1, 2048, .inl w0)), (a4, .inl (cT 1, 2048, .inl f4)), (w2, .inl (cT 1, 2048, .inl w1)), (w4, .inl (cT 1, 2048, .inl w3)), (a7, .inr (2, [.ref a8, .int w7, .int w8])), (a8, .inl (cT 2, 4096, .inr (.inl o7)))]) hP hD [5, 6, 0, 1, 2, 3, 4, 7, 8] rfl rfl (by decide)
      exact W.iret (v := (0 : Int32)) hx hb hr (fun t ht hW => ⟨⟨(0 : Int32), (), rfl, rfl, by rw [ht]; exact hP9, va_K.moved hW.alike hK, hD9⟩, hS.F ht⟩) hS.2.2 dG_sorted_53
    · rw [if_neg hc] at hf
      refine lv_aload_n hx hb dG_sorted_24 rfl (lv_at hl 4 rfl) ?_
      refine lv_aload_n hx hb dG_sorted_25 rfl (lv_at hl 2 rfl) ?_
      refine lv_aload_n hx hb dG_sorted_26 rfl (lv_at hl 3 rfl) ?_
      refine lv_iload hx hb dG_sorted_27 (lv_at hl 0 rfl) ?_
      obtain ⟨o4, hq5, hf⟩ := xbind hf
      obtain ⟨hPc, hDc, hFc⟩ := xcut (wc := [(a2, .inr (3, [.ref a3, .ref a4, .ref w2, .ref w4, .int w5])), (a3, .inl (cT 1, 2048, .inl w0)), (a4, .inl (cT 1, 2048, .inl f4)), (w2, .inl (cT 1, 2048, .inl w1)), (w4, .inl (cT 1, 2048, .inl w3))]) hP hD hS hA [0, 1, 2, 3, 4] rfl rfl (by decide)
      refine va_calli (va_runV (C := "ValueBench$Sorter") (As := [.int y4]) (rest := [.ref a0, .ref a7]) ⟨hx, hb, hml, hown, htx⟩ (gS_keyAtTurn l hl9 D cT aK aV H.size n a2 a3 a4 y4 w0 f4 w2 w1 w4 w3 w5 o4 hq5) ⟨callB_of 1 htx (xw_goodC kw_4_66) rfl rfl rfl (htx _ kw_1_3) (htx _ kw_4_68) ⟨by decide, by decide, by decide +kernel⟩ ⟨Nat.le_of_ble_eq_true rfl, Nat.le_of_ble_eq_true rfl⟩, (htx _ kw_4_64), (htx _ kw_4_65)⟩ ⟨xPre_blind, va_recv hK hP (ci := 3) rfl (q0 := 0) rfl, (fun U hU hW => ⟨rfl, xPre_of hZ hS hFc hPc hDc hK U hU hW⟩)⟩ rfl rfl hl.1 rfl (lv_room (Nat.le_of_ble_eq_true rfl)) dG_sorted_29 ⟨Nat.le_of_ble_eq_true rfl, Nat.le_of_ble_eq_true rfl⟩) hS (fun q _ h => hFc q h) hFc (fun r6 u9 t H1 locs ht hvm hr9 hB hz1 hk1 hS => ?_)
      obtain ⟨hP1, hK1, hD1⟩ := hB
      rw [ht] at hP1
      obtain ⟨hP, hD⟩ := xjoin (W := [(a7, .inr (2, [.ref a8, .int w7, .int w8])), (a8, .inl (cT 2, 4096, .inr (.inl w6))), (a0, .inr (2, [.ref a1, .int v1, .int v2])), (a1, .inl (cT 2, 4096, .inr (.inl f0))), (a2, .inr (3, [.ref a3, .ref a4, .ref w2, .ref w4, .int w5])), (a3, .inl (cT 1, 2048, .inl w0)), (a4, .inl (cT 1, 2048, .inl f4)), (w2, .inl (cT 1, 2048, .inl w1)), (w4, .inl (cT 1, 2048, .inl w3))]) hP hD [0, 1, 2, 3, 4] [5, 6, 7, 8] 4 rfl rfl (by decide) (by decide) hk1 hFc hP1 hD1
      generalize H1 = H at hP hS ⊢
      rw [hr9]
      refine W.eq (g2 := F0 m 32 ls [.int o4, .ref a0, .ref a7]) rfl ?_
      obtain ⟨o7, hq8, hf⟩ := xbind hf
      obtain ⟨hPc, hDc, hFc⟩ := xcut (wc := [(a7, .inr (2, [.ref a8, .int w7, .int w8])), (a8, .inl (cT 2, 4096, .inr (.inl w6))), (a0, .inr (2, [.ref a1, .int v1, .int v2])), (a1, .inl (cT 2, 4096, .inr (.inl f0)))]) hP hD hS hA [0, 1, 2, 3] rfl rfl (by decide)
      refine va_callv (va_runV (C := "ValueBench$Row") (As := [.ref a0, .int o4]) (rest := []) ⟨hx, hb, hml, hown, htx⟩ (gR_putCopy l hl9 D cT aK aV H.size n a7 a8 a0 a1 o4 w6 w7 w8 f0 v1 v2 o7 hq8) ⟨callB_of 2 htx (xw_goodC kw_3_126) rfl rfl rfl (htx _ kw_1_4) (htx _ kw_4_69) ⟨by decide, by decide, by decide +kernel⟩ ⟨Nat.le_of_ble_eq_true rfl, Nat.le_of_ble_eq_true rfl⟩, (htx _ kw_3_124), (htx _ kw_3_125)⟩ ⟨xPre_blind, va_recv hK hP (ci := 2) rfl (q0 := 0) rfl, (fun U hU hW => ⟨rfl, xPre_of hZ hS hFc hPc hDc hK U hU hW⟩)⟩ rfl rfl hl.1 rfl (lv_room (Nat.le_of_ble_eq_true rfl)) dG_sorted_32 ⟨Nat.le_of_ble_eq_true rfl, Nat.le_of_ble_eq_true rfl⟩) hS (fun q _ h => hFc q h) hFc (fun u9 t H1 locs ht hvm hr9 hB hz1 hk1 hS => ?_)
      obtain ⟨hP1, hK1, hD1⟩ := hB
      rw [ht] at hP1
      obtain ⟨hP, hD⟩ := xjoin (W := [(a2, .inr (3, [.ref a3, .ref a4, .ref w2, .ref w4, .int w5])), (a3, .inl (cT 1, 2048, .inl w0)), (a4, .inl (cT 1, 2048, .inl f4)), (w2, .inl (cT 1, 2048, .inl w1)), (w4, .inl (cT 1, 2048, .inl w3)), (a7, .inr (2, [.ref a8, .int o7.2.1, .int o7.2.2])), (a8, .inl (cT 2, 4096, .inr (.inl o7.1))), (a0, .inr (2, [.ref a1, .int v1, .int v2])), (a1, .inl (cT 2, 4096, .inr (.inl f0)))]) hP hD [0, 1, 2, 3] [4, 5, 6, 7, 8] 5 rfl rfl (by decide) (by decide) hk1 hFc hP1 hD1
      generalize H1 = H at hP hS ⊢
      refine lv_iinc (v := (y4 + 1)) (lv' := [(4, .int (y4 + 1)), (3, .int y3), (0, .ref a0), (1, .ref a2), (2, .ref a7)]) hx hb dG_sorted_35 hl (k := 0) rfl rfl (by decide) rfl (fun ls hl => ?_)
      refine lv_goto (tgt := 14) hx hb dG_sorted_38 (by decide) ?_
      obtain ⟨hP9, hD9⟩ := xsub (wc := [(a0, .inr (2, [.ref a1, .int v1, .int v2])), (a1, .inl (cT 2, 4096, .inr (.inl f0))), (a2, .inr (3, [.ref a3, .ref a4, .ref w2, .ref w4, .int w5])), (a3, .inl (cT 1, 2048, .inl w0)), (a4, .inl (cT 1, 2048, .inl f4)), (w2, .inl (cT 1, 2048, .inl w1)), (w4, .inl (cT 1, 2048, .inl w3)), (a7, .inr (2, [.ref a8, .int o7.2.1, .int o7.2.2])), (a8, .inl (cT 2, 4096, .inr (.inl o7.1)))]) hP hD [7, 8, 0, 1, 2, 3, 4, 5, 6] rfl rfl (by decide)
      exact ih (1, (y4 + 1), y3, w0, w1, w2, w3, w4, w5, o7.1, o7.2.1, o7.2.2) _ _ ls (⟨rfl, hf, hP9, hD9, hS, lv_sub hl [0, 1, 2, 3, 4] rfl⟩)
  refine lv_aload_n hx hb dG_sorted_0 rfl (lv_at hl 2 rfl) ?_
  obtain ⟨o1, hq2, hf⟩ := xbind hf
  obtain ⟨hPc, hDc, hFc⟩ := xcut (wc := [(a7, .inr (2, [.ref a8, .int v11, .int v12])), (a8, .inl (cT 2, 4096, .inr (.inl f10)))]) hP hD hS hA [7, 8] rfl rfl (by decide)
  refine va_calli (va_runV (C := "ValueBench$Row") (As := []) (rest := []) ⟨hx, hb, hml, hown, htx⟩ (gR_open l hl9 D cT aK aV s.heap.size n a7 a8 f10 v11 v12 o1 hq2) ⟨callB_of 0 htx (xw_goodC kw_2_136) rfl rfl rfl (htx _ kw_1_4) (htx _ kw_4_46) ⟨by decide, by decide, by decide +kernel⟩ ⟨Nat.le_of_ble_eq_true rfl, Nat.le_of_ble_eq_true rfl⟩, (htx _ kw_2_134), (htx _ kw_2_135)⟩ ⟨xPre_blind, va_recv hK hP (ci := 2) rfl (q0 := 7) rfl, (fun U hU hW => ⟨rfl, xPre_of hZ hS hFc hPc hDc hK U hU hW⟩)⟩ rfl rfl hl.1 rfl (lv_room (Nat.le_of_ble_eq_true rfl)) dG_sorted_1 ⟨Nat.le_of_ble_eq_true rfl, Nat.le_of_ble_eq_true rfl⟩) hS (fun q _ h => hFc q h) hFc (fun r3 u9 t H1 locs ht hvm hr9 hB hz1 hk1 hS => ?_)
  obtain ⟨hP1, hK1, hD1⟩ := hB
  rw [ht] at hP1
  obtain ⟨hP, hD⟩ := xjoin (W := [(a0, .inr (2, [.ref a1, .int v1, .int v2])), (a1, .inl (cT 2, 4096, .inr (.inl f0))), (a2, .inr (3, [.ref a3, .ref a4, .ref p5, .ref p7, .int v9])), (a3, .inl (cT 1, 2048, .inl f3)), (a4, .inl (cT 1, 2048, .inl f4)), (p5, .inl (cT 1, 2048, .inl f6)), (p7, .inl (cT 1, 2048, .inl f8)), (a7, .inr (2, [.ref a8, .int o1.2.2.1, .int o1.2.2.2])), (a8, .inl (cT 2, 4096, .inr (.inl o1.2.1)))]) hP hD [7, 8] [0, 1, 2, 3, 4, 5, 6] 7 rfl rfl (by decide) (by decide) hk1 hFc hP1 hD1
  generalize H1 = H at hP hS ⊢
  rw [hr9]
  refine W.eq (g2 := F0 m 4 ls [.int o1.1]) rfl ?_
  refine lv_istore_n (lv' := [(3, .int o1.1), (0, .ref a0), (1, .ref a2), (2, .ref a7)]) hx hb dG_sorted_4 rfl hl (by decide) rfl (fun ls hl => ?_)
  refine lv_aload_n hx hb dG_sorted_5 rfl (lv_at hl 2 rfl) ?_
  refine lv_aload_n hx hb dG_sorted_6 rfl (lv_at hl 1 rfl) ?_
  refine lv_iconst (v := 0) hx hb dG_sorted_7 (by decide) ?_
  obtain ⟨o4, hq5, hf⟩ := xbind hf
  obtain ⟨hPc, hDc, hFc⟩ := xcut (wc := [(a2, .inr (3, [.ref a3, .ref a4, .ref p5, .ref p7, .int v9])), (a3, .inl (cT 1, 2048, .inl f3)), (a4, .inl (cT 1, 2048, .inl f4)), (p5, .inl (cT 1, 2048, .inl f6)), (p7, .inl (cT 1, 2048, .inl f8)), (a0, .inr (2, [.ref a1, .int v1, .int v2])), (a1, .inl (cT 2, 4096, .inr (.inl f0)))]) hP hD hS hA [2, 3, 4, 5, 6, 0, 1] rfl rfl (by decide)
  refine va_callv (va_runV (C := "ValueBench$Sorter") (As := [.ref a0, .int 0]) (rest := []) ⟨hx, hb, hml, hown, htx⟩ (gS_arrange l hl9 D cT aK aV H.size d n a2 a3 a4 a0 a1 (0 : Int32) f3 f4 p5 f6 p7 f8 v9 f0 v1 v2 o4 hq5) ⟨callB_of 2 htx (xw_goodC kw_4_50) rfl rfl rfl (htx _ kw_1_3) (htx _ kw_4_47) ⟨by decide, by decide, by decide +kernel⟩ ⟨(by show (16 * d + 3) + 1 ≤ 16 * d + 4; omega), (by show 8 + (5 + 11) + (400 * d + 68) ≤ 400 * d + 105; omega)⟩, (htx _ kw_4_48), (htx _ kw_4_49)⟩ ⟨xPre_blind, va_recv hK hP (ci := 3) rfl (q0 := 2) rfl, (fun U hU hW => ⟨rfl, xPre_of hZ hS hFc hPc hDc hK U hU hW⟩)⟩ rfl rfl hl.1 rfl (lv_room (Nat.le_of_ble_eq_true rfl)) dG_sorted_8 ⟨Nat.le_of_ble_eq_true rfl, Nat.le_of_ble_eq_true rfl⟩) hS (fun q _ h => hFc q h) hFc (fun u9 t H1 locs ht hvm hr9 hB hz1 hk1 hS => ?_)
  obtain ⟨hP1, hK1, hD1⟩ := hB
  rw [ht] at hP1
  obtain ⟨hP, hD⟩ := xjoin (W := [(a7, .inr (2, [.ref a8, .int o1.2.2.1, .int o1.2.2.2])), (a8, .inl (cT 2, 4096, .inr (.inl o1.2.1))), (a2, .inr (3, [.ref a3, .ref a4, .ref o4.2.2.1, .ref o4.2.2.2.2.1, .int o4.2.2.2.2.2])), (a3, .inl (cT 1, 2048, .inl o4.1)), (a4, .inl (cT 1, 2048, .inl f4)), (o4.2.2.1, .inl (cT 1, 2048, .inl o4.2.1)), (o4.2.2.2.2.1, .inl (cT 1, 2048, .inl o4.2.2.2.1)), (a0, .inr (2, [.ref a1, .int v1, .int v2])), (a1, .inl (cT 2, 4096, .inr (.inl f0)))]) hP hD [2, 3, 4, 5, 6, 0, 1] [7, 8] 2 rfl rfl (by decide) (by decide) hk1 hFc hP1 hD1
  generalize H1 = H at hP hS ⊢
  refine lv_iconst (v := 0) hx hb dG_sorted_11 (by decide) ?_
  refine lv_istore (lv' := [(4, .int 0), (3, .int o1.1), (0, .ref a0), (1, .ref a2), (2, .ref a7)]) hx hb dG_sorted_12 hl (by decide) rfl (fun ls hl => ?_)
  obtain ⟨hP9, hD9⟩ := xsub (wc := [(a0, .inr (2, [.ref a1, .int v1, .int v2])), (a1, .inl (cT 2, 4096, .inr (.inl f0))), (a2, .inr (3, [.ref a3, .ref a4, .ref o4.2.2.1, .ref o4.2.2.2.2.1, .int o4.2.2.2.2.2])), (a3, .inl (cT 1, 2048, .inl o4.1)), (a4, .inl (cT 1, 2048, .inl f4)), (o4.2.2.1, .inl (cT 1, 2048, .inl o4.2.1)), (o4.2.2.2.2.1, .inl (cT 1, 2048, .inl o4.2.2.2.1)), (a7, .inr (2, [.ref a8, .int o1.2.2.1, .int o1.2.2.2])), (a8, .inl (cT 2, 4096, .inr (.inl o1.2.1)))]) hP hD [7, 8, 2, 3, 4, 5, 6, 0, 1] rfl rfl (by decide)
  exact key n (1, 0, o1.1, o4.1, o4.2.1, o4.2.2.1, o4.2.2.2.1, o4.2.2.2.2.1, o4.2.2.2.2.2, o1.2.1, o1.2.2.1, o1.2.2.2) _ _ ls (⟨rfl, hf, hP9, hD9, hS, lv_sub hl [0, 1, 2, 3, 4] rfl⟩)
set_option maxHeartbeats 400000000 in
set_option maxRecDepth 100000 in
theorem gG_printed (l : Launch) (hl9 : l.stackTraces = false) (D : va_G) (cT : Nat → ClassId) (aK aV : Nat → Nat) (sz d n : Nat) (a0 : Nat) (a1 : Nat) (a2 : Nat) (a3 : Nat) (a4 : Nat) (a5 : Nat) (f0 : Nat → Int64) (v1 : Int32) (v2 : Int32) (f3 : Nat → Int32) (v4 : Int32) (v5 : Int32) (f6 : Nat → Int64) (v7 : Int32) (v8 : Int32) (out : Int32 × (Nat → Int32) × Int32 × Int32 × (Nat → Int64) × Int32 × Int32) (hf : fG_printed d n f0 v1 v2 f3 v4 v5 f6 v7 v8 = some out) : xMet l yG_printed wyG_printed (16 * d + 3) 0 0 (400 * d + 65) D cT aK aV sz [.ref a0, .ref a2, .ref a4] [(a0, .inr (2, [.ref a1, .int v1, .int v2])), (a1, .inl (cT 2, 4096, .inr (.inl f0))), (a2, .inr (1, [.ref a3, .int v4, .int v5])), (a3, .inl (cT 0, 4096, .inl f3)), (a4, .inr (2, [.ref a5, .int v7, .int v8])), (a5, .inl (cT 2, 4096, .inr (.inl f6)))] (fun A => va_Qi (fun (r : Int32) (_ : Unit) => r = out.1) (fun _ t => xB D xcl cT A [(a0, .inr (2, [.ref a1, .int v1, .int v2])), (a1, .inl (cT 2, 4096, .inr (.inl f0))), (a2, .inr (1, [.ref a3, .int out.2.2.1, .int out.2.2.2.1])), (a3, .inl (cT 0, 4096, .inl out.2.1)), (a4, .inr (2, [.ref a5, .int out.2.2.2.2.2.1, .int out.2.2.2.2.2.2])), (a5, .inl (cT 2, 4096, .inr (.inl out.2.2.2.2.1)))] t) A) := by
  refine Met.ofW (cc := prog_9_method_7_code) (maxL := 3) (ret := (some .int)) (by decide) rfl ?_
  intro p e s m args below meth c s₁ B hml hv
  obtain ⟨rfl, hsz, hZ, hP, hK, hD0⟩ := hv
  have hx := B.exec
  have hb := B.bytes
  have hr := B.returns
  have hts := atoms_spec (ws := wyG_printed) B.pre
  have htx := fun w h => hts w (List.mem_cons_of_mem _ h)
  have hown : s.vm.findClass "ValueBench$Singles" = some m.cls := findClass_of_methodNamed B.named
  have hlocks := B.notSynchronized
  subst hsz
  have hD := hD0.self (sz := s.heap.size)
  generalize hAe : va_A [(a0, .inr (2, [.ref a1, .int v1, .int v2])), (a1, .inl (cT 2, 4096, .inr (.inl f0))), (a2, .inr (1, [.ref a3, .int v4, .int v5])), (a3, .inl (cT 0, 4096, .inl f3)), (a4, .inr (2, [.ref a5, .int v7, .int v8])), (a5, .inl (cT 2, 4096, .inr (.inl f6)))] s.heap.size = A at hD hZ ⊢
  have hA : ∀ q : Nat, s.heap.size ≤ q → A q := fun q h => by rw [← hAe]; exact Or.inr h
  have hS : va_S A s.heap s.heap [] := va_S.rf
  have hP : va_P D xcl [(a0, .inr (2, [.ref a1, .int v1, .int v2])), (a1, .inl (cT 2, 4096, .inr (.inl f0))), (a2, .inr (1, [.ref a3, .int v4, .int v5])), (a3, .inl (cT 0, 4096, .inl f3)), (a4, .inr (2, [.ref a5, .int v7, .int v8])), (a5, .inl (cT 2, 4096, .inr (.inl f6)))] s.heap := hP
  have hl := lv_entry ([.ref a0, .ref a2, .ref a4]) (n := 3) (Nat.le_of_ble_eq_true rfl)
  rw [lg_entry_eq]
  generalize (lg_sl ([.ref a0, .ref a2, .ref a4]) ++ List.replicate (3 - (lg_sl ([.ref a0, .ref a2, .ref a4])).length) Slot.unset).toArray = ls at hl ⊢
  have hl : lv_has ls 3 [(0, .ref a0), (1, .ref a2), (2, .ref a4)] := hl
  unfold fG_printed at hf
  refine lv_aload_n hx hb dG_printed_0 rfl (lv_at hl 1 rfl) ?_
  obtain ⟨o1, hq2, hf⟩ := xbind hf
  obtain ⟨hPc, hDc, hFc⟩ := xcut (wc := [(a2, .inr (1, [.ref a3, .int v4, .int v5])), (a3, .inl (cT 0, 4096, .inl f3))]) hP hD hS hA [2, 3] rfl rfl (by decide)
  refine va_callv (va_runV (C := "ValueBench$Text") (As := []) (rest := []) ⟨hx, hb, hml, hown, htx⟩ (gT_clear l hl9 D cT aK aV s.heap.size n a2 a3 f3 v4 v5 o1 hq2) ⟨callB_of 0 htx (xw_goodC kw_2_237) rfl rfl rfl (htx _ kw_1_2) (htx _ kw_4_81) ⟨by decide, by decide, by decide +kernel⟩ ⟨Nat.le_of_ble_eq_true rfl, Nat.le_of_ble_eq_true rfl⟩, (htx _ kw_2_235), (htx _ kw_2_236)⟩ ⟨xPre_blind, va_recv hK hP (ci := 1) rfl (q0 := 2) rfl, (fun U hU hW => ⟨rfl, xPre_of hZ hS hFc hPc hDc hK U hU hW⟩)⟩ rfl rfl hl.1 rfl (lv_room (Nat.le_of_ble_eq_true rfl)) dG_printed_1 ⟨Nat.le_of_ble_eq_true rfl, Nat.le_of_ble_eq_true rfl⟩) hS (fun q _ h => hFc q h) hFc (fun u9 t H1 locs ht hvm hr9 hB hz1 hk1 hS => ?_)
  obtain ⟨hP1, hK1, hD1⟩ := hB
  rw [ht] at hP1
  obtain ⟨hP, hD⟩ := xjoin (W := [(a0, .inr (2, [.ref a1, .int v1, .int v2])), (a1, .inl (cT 2, 4096, .inr (.inl f0))), (a4, .inr (2, [.ref a5, .int v7, .int v8])), (a5, .inl (cT 2, 4096, .inr (.inl f6))), (a2, .inr (1, [.ref a3, .int o1.1, .int o1.2])), (a3, .inl (cT 0, 4096, .inl f3))]) hP hD [2, 3] [0, 1, 4, 5] 4 rfl rfl (by decide) (by decide) hk1 hFc hP1 hD1
  generalize H1 = H at hP hS ⊢
  refine lv_aload_n hx hb dG_printed_4 rfl (lv_at hl 0 rfl) ?_
  refine lv_iconst (v := 0) hx hb dG_printed_5 (by decide) ?_
  refine lv_aload_n hx hb dG_printed_6 rfl (lv_at hl 1 rfl) ?_
  refine lv_iconst (v := 0) hx hb dG_printed_7 (by decide) ?_
  obtain ⟨o3, hq4, hf⟩ := xbind hf
  obtain ⟨hPc, hDc, hFc⟩ := xcut (wc := [(a0, .inr (2, [.ref a1, .int v1, .int v2])), (a1, .inl (cT 2, 4096, .inr (.inl f0))), (a2, .inr (1, [.ref a3, .int o1.1, .int o1.2])), (a3, .inl (cT 0, 4096, .inl f3))]) hP hD hS hA [0, 1, 4, 5] rfl rfl (by decide)
  refine va_callv (va_runS (As := [.ref a0, .int 0, .ref a2, .int 0]) (rest := []) ⟨hx, hb, hml, hown, htx⟩ (gP_write l hl9 D cT aK aV d H.size n a0 a1 a2 a3 (0 : Int32) (0 : Int32) f0 v1 v2 f3 o1.1 o1.2 o3 hq4) ⟨callB_of 4 htx (xw_goodC kw_3_20) rfl rfl rfl (htx _ kw_1_18) (htx _ kw_4_82) ⟨by decide, by decide, by decide +kernel⟩ ⟨(by show (16 * d) + 1 ≤ 16 * d + 3; omega), (by show 8 + (4 + 11) + (400 * d) ≤ 400 * d + 65; omega)⟩, htx _ kw_3_19⟩ ⟨xPre_blind, (fun U hU hW => ⟨rfl, xPre_of hZ hS hFc hPc hDc hK U hU hW⟩)⟩ rfl rfl hl.1 rfl (lv_room (Nat.le_of_ble_eq_true rfl)) dG_printed_8 ⟨Nat.le_of_ble_eq_true rfl, Nat.le_of_ble_eq_true rfl⟩) hS (fun q _ h => hFc q h) hFc (fun u9 t H1 locs ht hvm hr9 hB hz1 hk1 hS => ?_)
  obtain ⟨hP1, hK1, hD1⟩ := hB
  rw [ht] at hP1
  obtain ⟨hP, hD⟩ := xjoin (W := [(a4, .inr (2, [.ref a5, .int v7, .int v8])), (a5, .inl (cT 2, 4096, .inr (.inl f6))), (a0, .inr (2, [.ref a1, .int v1, .int v2])), (a1, .inl (cT 2, 4096, .inr (.inl f0))), (a2, .inr (1, [.ref a3, .int o3.2.1, .int o3.2.2])), (a3, .inl (cT 0, 4096, .inl o3.1))]) hP hD [0, 1, 4, 5] [2, 3] 2 rfl rfl (by decide) (by decide) hk1 hFc hP1 hD1
  generalize H1 = H at hP hS ⊢
  refine lv_aload_n hx hb dG_printed_11 rfl (lv_at hl 2 rfl) ?_
  refine lv_aload_n hx hb dG_printed_12 rfl (lv_at hl 1 rfl) ?_
  obtain ⟨o5, hq6, hf⟩ := xbind hf
  obtain ⟨hPc, hDc, hFc⟩ := xcut (wc := [(a4, .inr (2, [.ref a5, .int v7, .int v8])), (a5, .inl (cT 2, 4096, .inr (.inl f6))), (a2, .inr (1, [.ref a3, .int o3.2.1, .int o3.2.2])), (a3, .inl (cT 0, 4096, .inl o3.1))]) hP hD hS hA [0, 1, 4, 5] rfl rfl (by decide)
  refine va_callv (va_runV (C := "ValueBench$Row") (As := [.ref a2]) (rest := []) ⟨hx, hb, hml, hown, htx⟩ (gR_putText l hl9 D cT aK aV H.size n a4 a5 a2 a3 f6 v7 v8 o3.1 o3.2.1 o3.2.2 o5 hq6) ⟨callB_of 1 htx (xw_goodC kw_4_86) rfl rfl rfl (htx _ kw_1_4) (htx _ kw_4_83) ⟨by decide, by decide, by decide +kernel⟩ ⟨Nat.le_of_ble_eq_true rfl, Nat.le_of_ble_eq_true rfl⟩, (htx _ kw_4_84), (htx _ kw_4_85)⟩ ⟨xPre_blind, va_recv hK hP (ci := 2) rfl (q0 := 0) rfl, (fun U hU hW => ⟨rfl, xPre_of hZ hS hFc hPc hDc hK U hU hW⟩)⟩ rfl rfl hl.1 rfl (lv_room (Nat.le_of_ble_eq_true rfl)) dG_printed_13 ⟨Nat.le_of_ble_eq_true rfl, Nat.le_of_ble_eq_true rfl⟩) hS (fun q _ h => hFc q h) hFc (fun u9 t H1 locs ht hvm hr9 hB hz1 hk1 hS => ?_)
  obtain ⟨hP1, hK1, hD1⟩ := hB
  rw [ht] at hP1
  obtain ⟨hP, hD⟩ := xjoin (W := [(a0, .inr (2, [.ref a1, .int v1, .int v2])), (a1, .inl (cT 2, 4096, .inr (.inl f0))), (a4, .inr (2, [.ref a5, .int o5.2.1, .int o5.2.2])), (a5, .inl (cT 2, 4096, .inr (.inl o5.1))), (a2, .inr (1, [.ref a3, .int o3.2.1, .int o3.2.2])), (a3, .inl (cT 0, 4096, .inl o3.1))]) hP hD [0, 1, 4, 5] [2, 3] 2 rfl rfl (by decide) (by decide) hk1 hFc hP1 hD1
  generalize H1 = H at hP hS ⊢
  refine lv_iconst (v := 0) hx hb dG_printed_16 (by decide) ?_
  obtain rfl := Option.some.inj hf
  obtain ⟨hP9, hD9⟩ := xsub (wc := [(a0, .inr (2, [.ref a1, .int v1, .int v2])), (a1, .inl (cT 2, 4096, .inr (.inl f0))), (a2, .inr (1, [.ref a3, .int o3.2.1, .int o3.2.2])), (a3, .inl (cT 0, 4096, .inl o3.1)), (a4, .inr (2, [.ref a5, .int o5.2.1, .int o5.2.2])), (a5, .inl (cT 2, 4096, .inr (.inl o5.1)))]) hP hD [0, 1, 4, 5, 2, 3] rfl rfl (by decide)
  exact W.iret (v := (0 : Int32)) hx hb hr (fun t ht hW => ⟨⟨(0 : Int32), (), rfl, rfl, by rw [ht]; exact hP9, va_K.moved hW.alike hK, hD9⟩, hS.F ht⟩) hS.2.2 dG_printed_17
set_option maxHeartbeats 400000000 in
set_option maxRecDepth 100000 in
theorem gG_itself (l : Launch) (hl9 : l.stackTraces = false) (D : va_G) (cT : Nat → ClassId) (aK aV : Nat → Nat) (sz n : Nat) (a0 : Nat) (a1 : Nat) (a2 : Nat) (a3 : Nat) (f0 : Nat → Int64) (v1 : Int32) (v2 : Int32) (f3 : Nat → Int64) (v4 : Int32) (v5 : Int32) (out : Int32 × (Nat → Int64) × Int32 × Int32) (hf : fG_itself n f0 v1 v2 f3 v4 v5 = some out) : xMet l yG_itself wyG_itself 3 0 0 105 D cT aK aV sz [.ref a0, .ref a2] [(a0, .inr (2, [.ref a1, .int v1, .int v2])), (a1, .inl (cT 2, 4096, .inr (.inl f0))), (a2, .inr (2, [.ref a3, .int v4, .int v5])), (a3, .inl (cT 2, 4096, .inr (.inl f3)))] (fun A => va_Qi (fun (r : Int32) (_ : Unit) => r = out.1) (fun _ t => xB D xcl cT A [(a0, .inr (2, [.ref a1, .int v1, .int v2])), (a1, .inl (cT 2, 4096, .inr (.inl f0))), (a2, .inr (2, [.ref a3, .int out.2.2.1, .int out.2.2.2])), (a3, .inl (cT 2, 4096, .inr (.inl out.2.1)))] t) A) := by
  refine Met.ofW (cc := prog_9_method_3_code) (maxL := 2) (ret := (some .int)) (by decide) rfl ?_
  intro p e s m args below meth c s₁ B hml hv
  obtain ⟨rfl, hsz, hZ, hP, hK, hD0⟩ := hv
  have hx := B.exec
  have hb := B.bytes
  have hr := B.returns
  have hts := atoms_spec (ws := wyG_itself) B.pre
  have htx := fun w h => hts w (List.mem_cons_of_mem _ h)
  have hown : s.vm.findClass "ValueBench$Singles" = some m.cls := findClass_of_methodNamed B.named
  have hlocks := B.notSynchronized
  subst hsz
  have hD := hD0.self (sz := s.heap.size)
  generalize hAe : va_A [(a0, .inr (2, [.ref a1, .int v1, .int v2])), (a1, .inl (cT 2, 4096, .inr (.inl f0))), (a2, .inr (2, [.ref a3, .int v4, .int v5])), (a3, .inl (cT 2, 4096, .inr (.inl f3)))] s.heap.size = A at hD hZ ⊢
  have hA : ∀ q : Nat, s.heap.size ≤ q → A q := fun q h => by rw [← hAe]; exact Or.inr h
  have hS : va_S A s.heap s.heap [] := va_S.rf
  have hP : va_P D xcl [(a0, .inr (2, [.ref a1, .int v1, .int v2])), (a1, .inl (cT 2, 4096, .inr (.inl f0))), (a2, .inr (2, [.ref a3, .int v4, .int v5])), (a3, .inl (cT 2, 4096, .inr (.inl f3)))] s.heap := hP
  have hl := lv_entry ([.ref a0, .ref a2]) (n := 2) (Nat.le_of_ble_eq_true rfl)
  rw [lg_entry_eq]
  generalize (lg_sl ([.ref a0, .ref a2]) ++ List.replicate (2 - (lg_sl ([.ref a0, .ref a2])).length) Slot.unset).toArray = ls at hl ⊢
  have hl : lv_has ls 2 [(0, .ref a0), (1, .ref a2)] := hl
  unfold fG_itself at hf
  refine lv_aload_n hx hb dG_itself_0 rfl (lv_at hl 1 rfl) ?_
  refine lv_aload_n hx hb dG_itself_1 rfl (lv_at hl 0 rfl) ?_
  refine lv_iconst (v := 0) hx hb dG_itself_2 (by decide) ?_
  obtain ⟨o1, hq2, hf⟩ := xbind hf
  obtain ⟨hPc, hDc, hFc⟩ := xcut (wc := [(a2, .inr (2, [.ref a3, .int v4, .int v5])), (a3, .inl (cT 2, 4096, .inr (.inl f3))), (a0, .inr (2, [.ref a1, .int v1, .int v2])), (a1, .inl (cT 2, 4096, .inr (.inl f0)))]) hP hD hS hA [2, 3, 0, 1] rfl rfl (by decide)
  refine va_callv (va_runV (C := "ValueBench$Row") (As := [.ref a0, .int 0]) (rest := []) ⟨hx, hb, hml, hown, htx⟩ (gR_putCopy l hl9 D cT aK aV s.heap.size n a2 a3 a0 a1 (0 : Int32) f3 v4 v5 f0 v1 v2 o1 hq2) ⟨callB_of 2 htx (xw_goodC kw_3_126) rfl rfl rfl (htx _ kw_1_4) (htx _ kw_4_69) ⟨by decide, by decide, by decide +kernel⟩ ⟨Nat.le_of_ble_eq_true rfl, Nat.le_of_ble_eq_true rfl⟩, (htx _ kw_3_124), (htx _ kw_3_125)⟩ ⟨xPre_blind, va_recv hK hP (ci := 2) rfl (q0 := 2) rfl, (fun U hU hW => ⟨rfl, xPre_of hZ hS hFc hPc hDc hK U hU hW⟩)⟩ rfl rfl hl.1 rfl (lv_room (Nat.le_of_ble_eq_true rfl)) dG_itself_3 ⟨Nat.le_of_ble_eq_true rfl, Nat.le_of_ble_eq_true rfl⟩) hS (fun q _ h => hFc q h) hFc (fun u9 t H1 locs ht hvm hr9 hB hz1 hk1 hS => ?_)
  obtain ⟨hP1, hK1, hD1⟩ := hB
  rw [ht] at hP1
  obtain ⟨hP, hD⟩ := xjoin (W := [(a2, .inr (2, [.ref a3, .int o1.2.1, .int o1.2.2])), (a3, .inl (cT 2, 4096, .inr (.inl o1.1))), (a0, .inr (2, [.ref a1, .int v1, .int v2])), (a1, .inl (cT 2, 4096, .inr (.inl f0)))]) hP hD [2, 3, 0, 1] [] 0 rfl rfl (by decide) (by decide) hk1 hFc hP1 hD1
  generalize H1 = H at hP hS ⊢
  refine lv_iconst (v := 0) hx hb dG_itself_6 (by decide) ?_
  obtain rfl := Option.some.inj hf
  obtain ⟨hP9, hD9⟩ := xsub (wc := [(a0, .inr (2, [.ref a1, .int v1, .int v2])), (a1, .inl (cT 2, 4096, .inr (.inl f0))), (a2, .inr (2, [.ref a3, .int o1.2.1, .int o1.2.2])), (a3, .inl (cT 2, 4096, .inr (.inl o1.1)))]) hP hD [2, 3, 0, 1] rfl rfl (by decide)
  exact W.iret (v := (0 : Int32)) hx hb hr (fun t ht hW => ⟨⟨(0 : Int32), (), rfl, rfl, by rw [ht]; exact hP9, va_K.moved hW.alike hK, hD9⟩, hS.F ht⟩) hS.2.2 dG_itself_7
set_option maxHeartbeats 400000000 in
set_option maxRecDepth 100000 in
theorem gG_readerOf (l : Launch) (hl9 : l.stackTraces = false) (D : va_G) (cT : Nat → ClassId) (aK aV : Nat → Nat) (sz n : Nat) (a0 : Nat) (a1 : Nat) (a2 : Nat) (a3 : Nat) (a4 : Nat) (a5 : Nat) (f0 : Nat → Int64) (v1 : Int32) (v2 : Int32) (f3 : Nat → Int32) (v4 : Int32) (v5 : Int32) (f6 : Nat → Int64) (v7 : Int32) (v8 : Int32) (out : (Nat → Int32) × Int32 × Int32) (hf : fG_readerOf n f0 v1 v2 f3 v4 v5 f6 v7 v8 = some out) : xMet l yG_readerOf wyG_readerOf 2 1 4 46 D cT aK aV sz [.ref a0, .ref a2, .ref a4] [(a0, .inr (2, [.ref a1, .int v1, .int v2])), (a1, .inl (cT 2, 4096, .inr (.inl f0))), (a2, .inr (1, [.ref a3, .int v4, .int v5])), (a3, .inl (cT 0, 4096, .inl f3)), (a4, .inr (2, [.ref a5, .int v7, .int v8])), (a5, .inl (cT 2, 4096, .inr (.inl f6)))] (fun A => va_Qr (fun _ : Unit => True) (fun _ q9 t => xB D xcl cT A [(a0, .inr (2, [.ref a1, .int v1, .int v2])), (a1, .inl (cT 2, 4096, .inr (.inl f0))), (a2, .inr (1, [.ref a3, .int out.2.1, .int out.2.2])), (a3, .inl (cT 0, 4096, .inl out.1)), (a4, .inr (2, [.ref a5, .int v7, .int v8])), (a5, .inl (cT 2, 4096, .inr (.inl f6))), (q9, .inr (4, [.ref a2, .ref a4, .int 0, .int (-1)]))] t) A) := by
  refine Met.ofW (cc := prog_9_method_10_code) (maxL := 3) (ret := (some (.object "ValueBench$Reader"))) (by decide) rfl ?_
  intro p e s m args below meth c s₁ B hml hv
  obtain ⟨rfl, hsz, hZ, hP, hK, hD0⟩ := hv
  have hx := B.exec
  have hb := B.bytes
  have hr := B.returns
  have hts := atoms_spec (ws := wyG_readerOf) B.pre
  have htx := fun w h => hts w (List.mem_cons_of_mem _ h)
  have hown : s.vm.findClass "ValueBench$Singles" = some m.cls := findClass_of_methodNamed B.named
  have hlocks := B.notSynchronized
  subst hsz
  have hD := hD0.self (sz := s.heap.size)
  generalize hAe : va_A [(a0, .inr (2, [.ref a1, .int v1, .int v2])), (a1, .inl (cT 2, 4096, .inr (.inl f0))), (a2, .inr (1, [.ref a3, .int v4, .int v5])), (a3, .inl (cT 0, 4096, .inl f3)), (a4, .inr (2, [.ref a5, .int v7, .int v8])), (a5, .inl (cT 2, 4096, .inr (.inl f6)))] s.heap.size = A at hD hZ ⊢
  have hA : ∀ q : Nat, s.heap.size ≤ q → A q := fun q h => by rw [← hAe]; exact Or.inr h
  have hS : va_S A s.heap s.heap [] := va_S.rf
  have hP : va_P D xcl [(a0, .inr (2, [.ref a1, .int v1, .int v2])), (a1, .inl (cT 2, 4096, .inr (.inl f0))), (a2, .inr (1, [.ref a3, .int v4, .int v5])), (a3, .inl (cT 0, 4096, .inl f3)), (a4, .inr (2, [.ref a5, .int v7, .int v8])), (a5, .inl (cT 2, 4096, .inr (.inl f6)))] s.heap := hP
  have hl := lv_entry ([.ref a0, .ref a2, .ref a4]) (n := 3) (Nat.le_of_ble_eq_true rfl)
  rw [lg_entry_eq]
  generalize (lg_sl ([.ref a0, .ref a2, .ref a4]) ++ List.replicate (3 - (lg_sl ([.ref a0, .ref a2, .ref a4])).length) Slot.unset).toArray = ls at hl ⊢
  have hl : lv_has ls 3 [(0, .ref a0), (1, .ref a2), (2, .ref a4)] := hl
  unfold fG_readerOf at hf
  refine lv_aload_n hx hb dG_readerOf_0 rfl (lv_at hl 1 rfl) ?_
  obtain ⟨o1, hq2, hf⟩ := xbind hf
  obtain ⟨hPc, hDc, hFc⟩ := xcut (wc := [(a2, .inr (1, [.ref a3, .int v4, .int v5])), (a3, .inl (cT 0, 4096, .inl f3))]) hP hD hS hA [2, 3] rfl rfl (by decide)
  refine va_callv (va_runV (C := "ValueBench$Text") (As := []) (rest := []) ⟨hx, hb, hml, hown, htx⟩ (gT_clear l hl9 D cT aK aV s.heap.size n a2 a3 f3 v4 v5 o1 hq2) ⟨callB_of 0 htx (xw_goodC kw_2_237) rfl rfl rfl (htx _ kw_1_2) (htx _ kw_4_81) ⟨by decide, by decide, by decide +kernel⟩ ⟨Nat.le_of_ble_eq_true rfl, Nat.le_of_ble_eq_true rfl⟩, (htx _ kw_2_235), (htx _ kw_2_236)⟩ ⟨xPre_blind, va_recv hK hP (ci := 1) rfl (q0 := 2) rfl, (fun U hU hW => ⟨rfl, xPre_of hZ hS hFc hPc hDc hK U hU hW⟩)⟩ rfl rfl hl.1 rfl (lv_room (Nat.le_of_ble_eq_true rfl)) dG_readerOf_1 ⟨Nat.le_of_ble_eq_true rfl, Nat.le_of_ble_eq_true rfl⟩) hS (fun q _ h => hFc q h) hFc (fun u9 t H1 locs ht hvm hr9 hB hz1 hk1 hS => ?_)
  obtain ⟨hP1, hK1, hD1⟩ := hB
  rw [ht] at hP1
  obtain ⟨hP, hD⟩ := xjoin (W := [(a0, .inr (2, [.ref a1, .int v1, .int v2])), (a1, .inl (cT 2, 4096, .inr (.inl f0))), (a4, .inr (2, [.ref a5, .int v7, .int v8])), (a5, .inl (cT 2, 4096, .inr (.inl f6))), (a2, .inr (1, [.ref a3, .int o1.1, .int o1.2])), (a3, .inl (cT 0, 4096, .inl f3))]) hP hD [2, 3] [0, 1, 4, 5] 4 rfl rfl (by decide) (by decide) hk1 hFc hP1 hD1
  generalize H1 = H at hP hS ⊢
  refine lv_aload_n hx hb dG_readerOf_4 rfl (lv_at hl 1 rfl) ?_
  refine lv_aload_n hx hb dG_readerOf_5 rfl (lv_at hl 0 rfl) ?_
  refine lv_iconst (v := 0) hx hb dG_readerOf_6 (by decide) ?_
  obtain ⟨o3, hq4, hf⟩ := xbind hf
  obtain ⟨hPc, hDc, hFc⟩ := xcut (wc := [(a2, .inr (1, [.ref a3, .int o1.1, .int o1.2])), (a3, .inl (cT 0, 4096, .inl f3)), (a0, .inr (2, [.ref a1, .int v1, .int v2])), (a1, .inl (cT 2, 4096, .inr (.inl f0)))]) hP hD hS hA [4, 5, 0, 1] rfl rfl (by decide)
  refine va_callv (va_runV (C := "ValueBench$Text") (As := [.ref a0, .int 0]) (rest := []) ⟨hx, hb, hml, hown, htx⟩ (gT_addString l hl9 D cT aK aV H.size n a2 a3 a0 a1 (0 : Int32) f3 o1.1 o1.2 f0 v1 v2 o3 hq4) ⟨callB_of 2 htx (xw_goodC kw_4_99) rfl rfl rfl (htx _ kw_1_2) (htx _ kw_4_96) ⟨by decide, by decide, by decide +kernel⟩ ⟨Nat.le_of_ble_eq_true rfl, Nat.le_of_ble_eq_true rfl⟩, (htx _ kw_4_97), (htx _ kw_4_98)⟩ ⟨xPre_blind, va_recv hK hP (ci := 1) rfl (q0 := 4) rfl, (fun U hU hW => ⟨rfl, xPre_of hZ hS hFc hPc hDc hK U hU hW⟩)⟩ rfl rfl hl.1 rfl (lv_room (Nat.le_of_ble_eq_true rfl)) dG_readerOf_7 ⟨Nat.le_of_ble_eq_true rfl, Nat.le_of_ble_eq_true rfl⟩) hS (fun q _ h => hFc q h) hFc (fun u9 t H1 locs ht hvm hr9 hB hz1 hk1 hS => ?_)
  obtain ⟨hP1, hK1, hD1⟩ := hB
  rw [ht] at hP1
  obtain ⟨hP, hD⟩ := xjoin (W := [(a4, .inr (2, [.ref a5, .int v7, .int v8])), (a5, .inl (cT 2, 4096, .inr (.inl f6))), (a2, .inr (1, [.ref a3, .int o3.2.1, .int o3.2.2])), (a3, .inl (cT 0, 4096, .inl o3.1)), (a0, .inr (2, [.ref a1, .int v1, .int v2])), (a1, .inl (cT 2, 4096, .inr (.inl f0)))]) hP hD [4, 5, 0, 1] [2, 3] 2 rfl rfl (by decide) (by decide) hk1 hFc hP1 hD1
  generalize H1 = H at hP hS ⊢
  refine va_new (ci := 4) (fs := [.null, .null, .int 0, .int 0]) (C := "ValueBench$Reader") (T := TD) (N := 4) hx hb htx inD tyD tyD_ok hown (htx _ kw_4_102) (htx _ kw_2_24) (htx _ kw_1_16) hK hP hD hS hA rfl (by decide +kernel) (Nat.le_of_ble_eq_true rfl) (Nat.le_of_ble_eq_true rfl) dG_readerOf_10 (fun q5 H hP hD hS => ?_)
  obtain ⟨hP, hD⟩ : xPD D xcl A [(a4, .inr (2, [.ref a5, .int v7, .int v8])), (a5, .inl (cT 2, 4096, .inr (.inl f6))), (a2, .inr (1, [.ref a3, .int o3.2.1, .int o3.2.2])), (a3, .inl (cT 0, 4096, .inl o3.1)), (a0, .inr (2, [.ref a1, .int v1, .int v2])), (a1, .inl (cT 2, 4096, .inr (.inl f0))), (q5, .inr (4, [.null, .null, .int 0, .int 0]))] H := ⟨hP, hD⟩
  refine lv_dup hx hb dG_readerOf_13 rfl ?_
  refine lv_aload_n hx hb dG_readerOf_14 rfl (lv_at hl 1 rfl) ?_
  refine lv_aload_n hx hb dG_readerOf_15 rfl (lv_at hl 2 rfl) ?_
  obtain ⟨hPc, hDc, hFc⟩ := xcut (wc := [(q5, .inr (4, [.null, .null, .int 0, .int 0]))]) hP hD hS hA [6] rfl rfl (by decide)
  refine va_callv (va_runI (As := [.ref a2, .ref a4]) (rest := [.ref q5]) ⟨hx, hb, hml, hown, htx⟩ (cD_init_0 l hl9 D cT aK aV H.size q5 a2 a4 .null .null (.int 0) (.int 0)) ⟨callB_of 2 htx (xw_goodC kw_2_27) rfl rfl rfl (htx _ kw_1_16) (htx _ kw_4_103) ⟨by decide, by decide, by decide +kernel⟩ ⟨Nat.le_of_ble_eq_true rfl, Nat.le_of_ble_eq_true rfl⟩, rfl, (htx _ kw_2_26)⟩ ⟨xPre_blind, (fun U hU hW => ⟨rfl, xPre_of hZ hS hFc hPc hDc hK U hU hW⟩)⟩ rfl rfl hl.1 rfl (lv_room (Nat.le_of_ble_eq_true rfl)) dG_readerOf_16 ⟨Nat.le_of_ble_eq_true rfl, Nat.le_of_ble_eq_true rfl⟩) hS (fun q _ h => hFc q h) hFc (fun u9 t H1 locs ht hvm hr9 hB hz1 hk1 hS => ?_)
  obtain ⟨hP1, hK1, hD1⟩ := hB
  rw [ht] at hP1
  obtain ⟨hP, hD⟩ := xjoin (W := [(a4, .inr (2, [.ref a5, .int v7, .int v8])), (a5, .inl (cT 2, 4096, .inr (.inl f6))), (a2, .inr (1, [.ref a3, .int o3.2.1, .int o3.2.2])), (a3, .inl (cT 0, 4096, .inl o3.1)), (a0, .inr (2, [.ref a1, .int v1, .int v2])), (a1, .inl (cT 2, 4096, .inr (.inl f0))), (q5, .inr (4, [.ref a2, .ref a4, .int 0, .int (-1)]))]) hP hD [6] [0, 1, 2, 3, 4, 5] 6 rfl rfl (by decide) (by decide) hk1 hFc hP1 hD1
  generalize H1 = H at hP hS ⊢
  obtain rfl := Option.some.inj hf
  obtain ⟨hP9, hD9⟩ := xsub (wc := [(a0, .inr (2, [.ref a1, .int v1, .int v2])), (a1, .inl (cT 2, 4096, .inr (.inl f0))), (a2, .inr (1, [.ref a3, .int o3.2.1, .int o3.2.2])), (a3, .inl (cT 0, 4096, .inl o3.1)), (a4, .inr (2, [.ref a5, .int v7, .int v8])), (a5, .inl (cT 2, 4096, .inr (.inl f6))), (q5, .inr (4, [.ref a2, .ref a4, .int 0, .int (-1)]))]) hP hD [4, 5, 2, 3, 0, 1, 6] rfl rfl (by decide)
  refine W.widen (k := 1) (n := 4) (Nat.le_of_ble_eq_true rfl) (Nat.le_of_ble_eq_true rfl) ?_
  exact W.aret hx hb hr (Or.inl ⟨_, rfl⟩) (Or.inr ⟨_, rfl⟩) (fun t ht hW => ⟨⟨(), q5, rfl, trivial, by rw [ht]; exact hP9, va_K.moved hW.alike hK, hD9⟩, hS.F ht⟩) hS.2.2 dG_readerOf_19
set_option maxHeartbeats 400000000 in
set_option maxRecDepth 100000 in
theorem gG_toNumber (l : Launch) (hl9 : l.stackTraces = false) (D : va_G) (cT : Nat → ClassId) (aK aV : Nat → Nat) (sz n : Nat) (a0 : Nat) (a1 : Nat) (a2 : Nat) (a3 : Nat) (a4 : Nat) (a5 : Nat) (f0 : Nat → Int64) (v1 : Int32) (v2 : Int32) (f3 : Nat → Int32) (v4 : Int32) (v5 : Int32) (f6 : Nat → Int64) (v7 : Int32) (v8 : Int32) (out : Int32 × (Nat → Int32) × Int32 × Int32 × (Nat → Int64) × Int32 × Int32) (hf : fG_toNumber n f0 v1 v2 f3 v4 v5 f6 v7 v8 = some out) : xMet l yG_toNumber wyG_toNumber 4 1 4 126 D cT aK aV sz [.ref a0, .ref a2, .ref a4] [(a0, .inr (2, [.ref a1, .int v1, .int v2])), (a1, .inl (cT 2, 4096, .inr (.inl f0))), (a2, .inr (1, [.ref a3, .int v4, .int v5])), (a3, .inl (cT 0, 4096, .inl f3)), (a4, .inr (2, [.ref a5, .int v7, .int v8])), (a5, .inl (cT 2, 4096, .inr (.inl f6)))] (fun A => va_Qi (fun (r : Int32) (_ : Unit) => r = out.1) (fun _ t => xB D xcl cT A [(a0, .inr (2, [.ref a1, .int v1, .int v2])), (a1, .inl (cT 2, 4096, .inr (.inl f0))), (a2, .inr (1, [.ref a3, .int out.2.2.1, .int out.2.2.2.1])), (a3, .inl (cT 0, 4096, .inl out.2.1)), (a4, .inr (2, [.ref a5, .int out.2.2.2.2.2.1, .int out.2.2.2.2.2.2])), (a5, .inl (cT 2, 4096, .inr (.inl out.2.2.2.2.1)))] t) A) := by
  refine Met.ofW (cc := prog_9_method_8_code) (maxL := 3) (ret := (some .int)) (by decide) rfl ?_
  intro p e s m args below meth c s₁ B hml hv
  obtain ⟨rfl, hsz, hZ, hP, hK, hD0⟩ := hv
  have hx := B.exec
  have hb := B.bytes
  have hr := B.returns
  have hts := atoms_spec (ws := wyG_toNumber) B.pre
  have htx := fun w h => hts w (List.mem_cons_of_mem _ h)
  have hown : s.vm.findClass "ValueBench$Singles" = some m.cls := findClass_of_methodNamed B.named
  have hlocks := B.notSynchronized
  subst hsz
  have hD := hD0.self (sz := s.heap.size)
  generalize hAe : va_A [(a0, .inr (2, [.ref a1, .int v1, .int v2])), (a1, .inl (cT 2, 4096, .inr (.inl f0))), (a2, .inr (1, [.ref a3, .int v4, .int v5])), (a3, .inl (cT 0, 4096, .inl f3)), (a4, .inr (2, [.ref a5, .int v7, .int v8])), (a5, .inl (cT 2, 4096, .inr (.inl f6)))] s.heap.size = A at hD hZ ⊢
  have hA : ∀ q : Nat, s.heap.size ≤ q → A q := fun q h => by rw [← hAe]; exact Or.inr h
  have hS : va_S A s.heap s.heap [] := va_S.rf
  have hP : va_P D xcl [(a0, .inr (2, [.ref a1, .int v1, .int v2])), (a1, .inl (cT 2, 4096, .inr (.inl f0))), (a2, .inr (1, [.ref a3, .int v4, .int v5])), (a3, .inl (cT 0, 4096, .inl f3)), (a4, .inr (2, [.ref a5, .int v7, .int v8])), (a5, .inl (cT 2, 4096, .inr (.inl f6)))] s.heap := hP
  have hl := lv_entry ([.ref a0, .ref a2, .ref a4]) (n := 3) (Nat.le_of_ble_eq_true rfl)
  rw [lg_entry_eq]
  generalize (lg_sl ([.ref a0, .ref a2, .ref a4]) ++ List.replicate (3 - (lg_sl ([.ref a0, .ref a2, .ref a4])).length) Slot.unset).toArray = ls at hl ⊢
  have hl : lv_has ls 3 [(0, .ref a0), (1, .ref a2), (2, .ref a4)] := hl
  unfold fG_toNumber at hf
  refine lv_aload_n hx hb dG_toNumber_0 rfl (lv_at hl 0 rfl) ?_
  refine lv_iconst (v := 0) hx hb dG_toNumber_1 (by decide) ?_
  refine lv_iconst (v := 3) hx hb dG_toNumber_2 (by decide) ?_
  obtain ⟨o1, hq2, hf⟩ := xbind hf
  obtain ⟨hPc, hDc, hFc⟩ := xcut (wc := [(a0, .inr (2, [.ref a1, .int v1, .int v2])), (a1, .inl (cT 2, 4096, .inr (.inl f0)))]) hP hD hS hA [0, 1] rfl rfl (by decide)
  refine va_calli (va_runV (C := "ValueBench$Row") (As := [.int 0, .int 3]) (rest := []) ⟨hx, hb, hml, hown, htx⟩ (gR_is l hl9 D cT aK aV s.heap.size n a0 a1 (0 : Int32) (3 : Int32) f0 v1 v2 o1 hq2) ⟨callB_of 2 htx (xw_goodC kw_3_75) rfl rfl rfl (htx _ kw_1_4) (htx _ kw_4_29) ⟨by decide, by decide, by decide +kernel⟩ ⟨Nat.le_of_ble_eq_true rfl, Nat.le_of_ble_eq_true rfl⟩, (htx _ kw_3_73), (htx _ kw_3_74)⟩ ⟨xPre_blind, va_recv hK hP (ci := 2) rfl (q0 := 0) rfl, (fun U hU hW => ⟨rfl, xPre_of hZ hS hFc hPc hDc hK U hU hW⟩)⟩ rfl rfl hl.1 rfl (lv_room (Nat.le_of_ble_eq_true rfl)) dG_toNumber_3 ⟨Nat.le_of_ble_eq_true rfl, Nat.le_of_ble_eq_true rfl⟩) hS (fun q _ h => hFc q h) hFc (fun r3 u9 t H1 locs ht hvm hr9 hB hz1 hk1 hS => ?_)
  obtain ⟨hP1, hK1, hD1⟩ := hB
  rw [ht] at hP1
  obtain ⟨hP, hD⟩ := xjoin (W := [(a2, .inr (1, [.ref a3, .int v4, .int v5])), (a3, .inl (cT 0, 4096, .inl f3)), (a4, .inr (2, [.ref a5, .int v7, .int v8])), (a5, .inl (cT 2, 4096, .inr (.inl f6))), (a0, .inr (2, [.ref a1, .int v1, .int v2])), (a1, .inl (cT 2, 4096, .inr (.inl f0)))]) hP hD [0, 1] [2, 3, 4, 5] 4 rfl rfl (by decide) (by decide) hk1 hFc hP1 hD1
  generalize H1 = H at hP hS ⊢
  rw [hr9]
  refine W.eq (g2 := F0 m 6 ls [.int o1]) rfl ?_
  refine lv_if_eq (tgt := 15) hx hb dG_toNumber_6 (by decide) (fun hc => ?_) (fun hc => ?_)
  · rw [if_pos hc] at hf
    refine lv_aload_n hx hb dG_toNumber_15 rfl (lv_at hl 0 rfl) ?_
    refine lv_iconst (v := 0) hx hb dG_toNumber_16 (by decide) ?_
    refine lv_iconst (v := 4) hx hb dG_toNumber_17 (by decide) ?_
    obtain ⟨o4, hq5, hf⟩ := xbind hf
    obtain ⟨hPc, hDc, hFc⟩ := xcut (wc := [(a0, .inr (2, [.ref a1, .int v1, .int v2])), (a1, .inl (cT 2, 4096, .inr (.inl f0)))]) hP hD hS hA [4, 5] rfl rfl (by decide)
    refine va_calli (va_runV (C := "ValueBench$Row") (As := [.int 0, .int 4]) (rest := []) ⟨hx, hb, hml, hown, htx⟩ (gR_is l hl9 D cT aK aV H.size n a0 a1 (0 : Int32) (4 : Int32) f0 v1 v2 o4 hq5) ⟨callB_of 2 htx (xw_goodC kw_3_75) rfl rfl rfl (htx _ kw_1_4) (htx _ kw_4_29) ⟨by decide, by decide, by decide +kernel⟩ ⟨Nat.le_of_ble_eq_true rfl, Nat.le_of_ble_eq_true rfl⟩, (htx _ kw_3_73), (htx _ kw_3_74)⟩ ⟨xPre_blind, va_recv hK hP (ci := 2) rfl (q0 := 4) rfl, (fun U hU hW => ⟨rfl, xPre_of hZ hS hFc hPc hDc hK U hU hW⟩)⟩ rfl rfl hl.1 rfl (lv_room (Nat.le_of_ble_eq_true rfl)) dG_toNumber_18 ⟨Nat.le_of_ble_eq_true rfl, Nat.le_of_ble_eq_true rfl⟩) hS (fun q _ h => hFc q h) hFc (fun r6 u9 t H1 locs ht hvm hr9 hB hz1 hk1 hS => ?_)
    obtain ⟨hP1, hK1, hD1⟩ := hB
    rw [ht] at hP1
    obtain ⟨hP, hD⟩ := xjoin (W := [(a2, .inr (1, [.ref a3, .int v4, .int v5])), (a3, .inl (cT 0, 4096, .inl f3)), (a4, .inr (2, [.ref a5, .int v7, .int v8])), (a5, .inl (cT 2, 4096, .inr (.inl f6))), (a0, .inr (2, [.ref a1, .int v1, .int v2])), (a1, .inl (cT 2, 4096, .inr (.inl f0)))]) hP hD [4, 5] [0, 1, 2, 3] 4 rfl rfl (by decide) (by decide) hk1 hFc hP1 hD1
    generalize H1 = H at hP hS ⊢
    rw [hr9]
    refine W.eq (g2 := F0 m 21 ls [.int o4]) rfl ?_
    refine lv_if_ne (tgt := 26) hx hb dG_toNumber_21 (by decide) (fun hc => ?_) (fun hc => ?_)
    · rw [if_neg hc] at hf
      refine lv_aload_n hx hb dG_toNumber_26 rfl (lv_at hl 0 rfl) ?_
      refine lv_aload_n hx hb dG_toNumber_27 rfl (lv_at hl 1 rfl) ?_
      refine lv_aload_n hx hb dG_toNumber_28 rfl (lv_at hl 2 rfl) ?_
      obtain ⟨o7, hq8, hf⟩ := xbind hf
      obtain ⟨hPc, hDc, hFc⟩ := xcut (wc := [(a0, .inr (2, [.ref a1, .int v1, .int v2])), (a1, .inl (cT 2, 4096, .inr (.inl f0))), (a2, .inr (1, [.ref a3, .int v4, .int v5])), (a3, .inl (cT 0, 4096, .inl f3)), (a4, .inr (2, [.ref a5, .int v7, .int v8])), (a5, .inl (cT 2, 4096, .inr (.inl f6)))]) hP hD hS hA [4, 5, 0, 1, 2, 3] rfl rfl (by decide)
      refine va_callr (va_runS (As := [.ref a0, .ref a2, .ref a4]) (rest := []) ⟨hx, hb, hml, hown, htx⟩ (gG_readerOf l hl9 D cT aK aV H.size n a0 a1 a2 a3 a4 a5 f0 v1 v2 f3 v4 v5 f6 v7 v8 o7 hq8) ⟨callB_of 3 htx (xw_goodC kw_4_95) rfl rfl rfl (htx _ kw_1_26) (htx _ kw_4_93) ⟨by decide, by decide, by decide +kernel⟩ ⟨Nat.le_of_ble_eq_true rfl, Nat.le_of_ble_eq_true rfl⟩, htx _ kw_4_94⟩ ⟨xPre_blind, (fun U hU hW => ⟨rfl, xPre_of hZ hS hFc hPc hDc hK U hU hW⟩)⟩ rfl rfl hl.1 rfl (lv_room (Nat.le_of_ble_eq_true rfl)) dG_toNumber_29 ⟨Nat.le_of_ble_eq_true rfl, Nat.le_of_ble_eq_true rfl⟩) hS (fun q _ h => hFc q h) hFc (fun u9 r9 t H1 locs ht hvm hr9 hB hz1 hk1 hS => ?_)
      obtain ⟨hP1, hK1, hD1⟩ := hB
      rw [ht] at hP1
      obtain ⟨hP, hD⟩ := xjoin (W := [(a0, .inr (2, [.ref a1, .int v1, .int v2])), (a1, .inl (cT 2, 4096, .inr (.inl f0))), (a2, .inr (1, [.ref a3, .int o7.2.1, .int o7.2.2])), (a3, .inl (cT 0, 4096, .inl o7.1)), (a4, .inr (2, [.ref a5, .int v7, .int v8])), (a5, .inl (cT 2, 4096, .inr (.inl f6))), (r9, .inr (4, [.ref a2, .ref a4, .int 0, .int (-1)]))]) hP hD [4, 5, 0, 1, 2, 3] [] 0 rfl rfl (by decide) (by decide) hk1 hFc hP1 hD1
      generalize H1 = H at hP hS ⊢
      refine W.eq (g2 := F0 m 32 ls [.ref r9]) rfl ?_
      obtain ⟨o10, hq11, hf⟩ := xbind hf
      obtain ⟨hPc, hDc, hFc⟩ := xcut (wc := [(r9, .inr (4, [.ref a2, .ref a4, .int 0, .int (-1)])), (a2, .inr (1, [.ref a3, .int o7.2.1, .int o7.2.2])), (a3, .inl (cT 0, 4096, .inl o7.1)), (a4, .inr (2, [.ref a5, .int v7, .int v8])), (a5, .inl (cT 2, 4096, .inr (.inl f6)))]) hP hD hS hA [6, 2, 3, 4, 5] rfl rfl (by decide)
      refine va_calli (va_runV (C := "ValueBench$Reader") (As := []) (rest := []) ⟨hx, hb, hml, hown, htx⟩ (gD_readNumber l hl9 D cT aK aV H.size n r9 a2 a3 a4 a5 o7.1 o7.2.1 o7.2.2 f6 v7 v8 (0 : Int32) ((-1) : Int32) o10 hq11) ⟨callB_of 0 htx (xw_goodC kw_4_107) rfl rfl rfl (htx _ kw_1_16) (htx _ kw_4_104) ⟨by decide, by decide, by decide +kernel⟩ ⟨Nat.le_of_ble_eq_true rfl, Nat.le_of_ble_eq_true rfl⟩, (htx _ kw_4_105), (htx _ kw_4_106)⟩ ⟨xPre_blind, va_recv hK hP (ci := 4) rfl (q0 := 6) rfl, (fun U hU hW => ⟨rfl, xPre_of hZ hS hFc hPc hDc hK U hU hW⟩)⟩ rfl rfl hl.1 rfl (lv_room (Nat.le_of_ble_eq_true rfl)) dG_toNumber_32 ⟨Nat.le_of_ble_eq_true rfl, Nat.le_of_ble_eq_true rfl⟩) hS (fun q _ h => hFc q h) hFc (fun r12 u9 t H1 locs ht hvm hr9 hB hz1 hk1 hS => ?_)
      obtain ⟨hP1, hK1, hD1⟩ := hB
      rw [ht] at hP1
      obtain ⟨hP, hD⟩ := xjoin (W := [(a0, .inr (2, [.ref a1, .int v1, .int v2])), (a1, .inl (cT 2, 4096, .inr (.inl f0))), (r9, .inr (4, [.ref a2, .ref a4, .int o10.2.2.2.2.1, .int o10.2.2.2.2.2])), (a2, .inr (1, [.ref a3, .int o7.2.1, .int o7.2.2])), (a3, .inl (cT 0, 4096, .inl o7.1)), (a4, .inr (2, [.ref a5, .int o10.2.2.1, .int o10.2.2.2.1])), (a5, .inl (cT 2, 4096, .inr (.inl o10.2.1)))]) hP hD [6, 2, 3, 4, 5] [0, 1] 2 rfl rfl (by decide) (by decide) hk1 hFc hP1 hD1
      generalize H1 = H at hP hS ⊢
      rw [hr9]
      refine W.eq (g2 := F0 m 35 ls [.int o10.1]) rfl ?_
      refine lv_iconst (v := (-1)) hx hb dG_toNumber_35 (by decide) ?_
      refine lv_icmp_ne (tgt := 43) hx hb dG_toNumber_36 (by decide) (fun hc => ?_) (fun hc => ?_)
      · rw [if_neg hc] at hf
        refine lv_iconst (v := 4) hx hb dG_toNumber_43 (by decide) ?_
        obtain rfl := Option.some.inj hf
        obtain ⟨hP9, hD9⟩ := xsub (wc := [(a0, .inr (2, [.ref a1, .int v1, .int v2])), (a1, .inl (cT 2, 4096, .inr (.inl f0))), (a2, .inr (1, [.ref a3, .int o7.2.1, .int o7.2.2])), (a3, .inl (cT 0, 4096, .inl o7.1)), (a4, .inr (2, [.ref a5, .int o10.2.2.1, .int o10.2.2.2.1])), (a5, .inl (cT 2, 4096, .inr (.inl o10.2.1)))]) hP hD [0, 1, 3, 4, 5, 6] rfl rfl (by decide)
        refine W.widen (k := 1) (n := 4) (Nat.le_of_ble_eq_true rfl) (Nat.le_of_ble_eq_true rfl) ?_
        exact W.iret (v := (4 : Int32)) hx hb hr (fun t ht hW => ⟨⟨(4 : Int32), (), rfl, rfl, by rw [ht]; exact hP9, va_K.moved hW.alike hK, hD9⟩, hS.F ht⟩) hS.2.2 dG_toNumber_44
      · rw [if_pos hc] at hf
        refine lv_iconst (v := 0) hx hb dG_toNumber_39 (by decide) ?_
        refine lv_goto (tgt := 44) hx hb dG_toNumber_40 (by decide) ?_
        obtain rfl := Option.some.inj hf
        obtain ⟨hP9, hD9⟩ := xsub (wc := [(a0, .inr (2, [.ref a1, .int v1, .int v2])), (a1, .inl (cT 2, 4096, .inr (.inl f0))), (a2, .inr (1, [.ref a3, .int o7.2.1, .int o7.2.2])), (a3, .inl (cT 0, 4096, .inl o7.1)), (a4, .inr (2, [.ref a5, .int o10.2.2.1, .int o10.2.2.2.1])), (a5, .inl (cT 2, 4096, .inr (.inl o10.2.1)))]) hP hD [0, 1, 3, 4, 5, 6] rfl rfl (by decide)
        refine W.widen (k := 1) (n := 4) (Nat.le_of_ble_eq_true rfl) (Nat.le_of_ble_eq_true rfl) ?_
        exact W.iret (v := (0 : Int32)) hx hb hr (fun t ht hW => ⟨⟨(0 : Int32), (), rfl, rfl, by rw [ht]; exact hP9, va_K.moved hW.alike hK, hD9⟩, hS.F ht⟩) hS.2.2 dG_toNumber_44
    · rw [if_pos hc] at hf
      refine lv_iconst (v := 1) hx hb dG_toNumber_24 (by decide) ?_
      obtain rfl := Option.some.inj hf
      obtain ⟨hP9, hD9⟩ := xsub (wc := [(a0, .inr (2, [.ref a1, .int v1, .int v2])), (a1, .inl (cT 2, 4096, .inr (.inl f0))), (a2, .inr (1, [.ref a3, .int v4, .int v5])), (a3, .inl (cT 0, 4096, .inl f3)), (a4, .inr (2, [.ref a5, .int v7, .int v8])), (a5, .inl (cT 2, 4096, .inr (.inl f6)))]) hP hD [4, 5, 0, 1, 2, 3] rfl rfl (by decide)
      refine W.widen (k := 1) (n := 4) (Nat.le_of_ble_eq_true rfl) (Nat.le_of_ble_eq_true rfl) ?_
      exact W.iret (v := (1 : Int32)) hx hb hr (fun t ht hW => ⟨⟨(1 : Int32), (), rfl, rfl, by rw [ht]; exact hP9, va_K.moved hW.alike hK, hD9⟩, hS.F ht⟩) hS.2.2 dG_toNumber_25
  · rw [if_neg hc] at hf
    refine lv_aload_n hx hb dG_toNumber_9 rfl (lv_at hl 0 rfl) ?_
    refine lv_aload_n hx hb dG_toNumber_10 rfl (lv_at hl 2 rfl) ?_
    obtain ⟨o4, hq5, hf⟩ := xbind hf
    obtain ⟨hPc, hDc, hFc⟩ := xcut (wc := [(a0, .inr (2, [.ref a1, .int v1, .int v2])), (a1, .inl (cT 2, 4096, .inr (.inl f0))), (a4, .inr (2, [.ref a5, .int v7, .int v8])), (a5, .inl (cT 2, 4096, .inr (.inl f6)))]) hP hD hS hA [4, 5, 2, 3] rfl rfl (by decide)
    refine va_calli (va_runS (As := [.ref a0, .ref a4]) (rest := []) ⟨hx, hb, hml, hown, htx⟩ (gG_itself l hl9 D cT aK aV H.size n a0 a1 a4 a5 f0 v1 v2 f6 v7 v8 o4 hq5) ⟨callB_of 2 htx (xw_goodC kw_4_77) rfl rfl rfl (htx _ kw_1_26) (htx _ kw_4_75) ⟨by decide, by decide, by decide +kernel⟩ ⟨Nat.le_of_ble_eq_true rfl, Nat.le_of_ble_eq_true rfl⟩, htx _ kw_4_76⟩ ⟨xPre_blind, (fun U hU hW => ⟨rfl, xPre_of hZ hS hFc hPc hDc hK U hU hW⟩)⟩ rfl rfl hl.1 rfl (lv_room (Nat.le_of_ble_eq_true rfl)) dG_toNumber_11 ⟨Nat.le_of_ble_eq_true rfl, Nat.le_of_ble_eq_true rfl⟩) hS (fun q _ h => hFc q h) hFc (fun r6 u9 t H1 locs ht hvm hr9 hB hz1 hk1 hS => ?_)
    obtain ⟨hP1, hK1, hD1⟩ := hB
    rw [ht] at hP1
    obtain ⟨hP, hD⟩ := xjoin (W := [(a2, .inr (1, [.ref a3, .int v4, .int v5])), (a3, .inl (cT 0, 4096, .inl f3)), (a0, .inr (2, [.ref a1, .int v1, .int v2])), (a1, .inl (cT 2, 4096, .inr (.inl f0))), (a4, .inr (2, [.ref a5, .int o4.2.2.1, .int o4.2.2.2])), (a5, .inl (cT 2, 4096, .inr (.inl o4.2.1)))]) hP hD [4, 5, 2, 3] [0, 1] 2 rfl rfl (by decide) (by decide) hk1 hFc hP1 hD1
    generalize H1 = H at hP hS ⊢
    rw [hr9]
    refine W.eq (g2 := F0 m 14 ls [.int o4.1]) rfl ?_
    obtain rfl := Option.some.inj hf
    obtain ⟨hP9, hD9⟩ := xsub (wc := [(a0, .inr (2, [.ref a1, .int v1, .int v2])), (a1, .inl (cT 2, 4096, .inr (.inl f0))), (a2, .inr (1, [.ref a3, .int v4, .int v5])), (a3, .inl (cT 0, 4096, .inl f3)), (a4, .inr (2, [.ref a5, .int o4.2.2.1, .int o4.2.2.2])), (a5, .inl (cT 2, 4096, .inr (.inl o4.2.1)))]) hP hD [2, 3, 0, 1, 4, 5] rfl rfl (by decide)
    refine W.widen (k := 1) (n := 4) (Nat.le_of_ble_eq_true rfl) (Nat.le_of_ble_eq_true rfl) ?_
    exact W.iret (v := o4.1) hx hb hr (fun t ht hW => ⟨⟨o4.1, (), rfl, rfl, by rw [ht]; exact hP9, va_K.moved hW.alike hK, hD9⟩, hS.F ht⟩) hS.2.2 dG_toNumber_14
set_option maxHeartbeats 400000000 in
set_option maxRecDepth 100000 in
theorem gG_fromJson (l : Launch) (hl9 : l.stackTraces = false) (D : va_G) (cT : Nat → ClassId) (aK aV : Nat → Nat) (sz d n : Nat) (a0 : Nat) (a1 : Nat) (a2 : Nat) (a3 : Nat) (a4 : Nat) (a5 : Nat) (f0 : Nat → Int64) (v1 : Int32) (v2 : Int32) (f3 : Nat → Int32) (v4 : Int32) (v5 : Int32) (f6 : Nat → Int64) (v7 : Int32) (v8 : Int32) (out : Int32 × (Nat → Int32) × Int32 × Int32 × (Nat → Int64) × Int32 × Int32) (hf : fG_fromJson d n f0 v1 v2 f3 v4 v5 f6 v7 v8 = some out) : xMet l yG_fromJson wyG_fromJson (16 * d + 3) 1 4 (400 * d + 68) D cT aK aV sz [.ref a0, .ref a2, .ref a4] [(a0, .inr (2, [.ref a1, .int v1, .int v2])), (a1, .inl (cT 2, 4096, .inr (.inl f0))), (a2, .inr (1, [.ref a3, .int v4, .int v5])), (a3, .inl (cT 0, 4096, .inl f3)), (a4, .inr (2, [.ref a5, .int v7, .int v8])), (a5, .inl (cT 2, 4096, .inr (.inl f6)))] (fun A => va_Qi (fun (r : Int32) (_ : Unit) => r = out.1) (fun _ t => xB D xcl cT A [(a0, .inr (2, [.ref a1, .int v1, .int v2])), (a1, .inl (cT 2, 4096, .inr (.inl f0))), (a2, .inr (1, [.ref a3, .int out.2.2.1, .int out.2.2.2.1])), (a3, .inl (cT 0, 4096, .inl out.2.1)), (a4, .inr (2, [.ref a5, .int out.2.2.2.2.2.1, .int out.2.2.2.2.2.2])), (a5, .inl (cT 2, 4096, .inr (.inl out.2.2.2.2.1)))] t) A) := by
  refine Met.ofW (cc := prog_9_method_9_code) (maxL := 3) (ret := (some .int)) (by decide) rfl ?_
  intro p e s m args below meth c s₁ B hml hv
  obtain ⟨rfl, hsz, hZ, hP, hK, hD0⟩ := hv
  have hx := B.exec
  have hb := B.bytes
  have hr := B.returns
  have hts := atoms_spec (ws := wyG_fromJson) B.pre
  have htx := fun w h => hts w (List.mem_cons_of_mem _ h)
  have hown : s.vm.findClass "ValueBench$Singles" = some m.cls := findClass_of_methodNamed B.named
  have hlocks := B.notSynchronized
  subst hsz
  have hD := hD0.self (sz := s.heap.size)
  generalize hAe : va_A [(a0, .inr (2, [.ref a1, .int v1, .int v2])), (a1, .inl (cT 2, 4096, .inr (.inl f0))), (a2, .inr (1, [.ref a3, .int v4, .int v5])), (a3, .inl (cT 0, 4096, .inl f3)), (a4, .inr (2, [.ref a5, .int v7, .int v8])), (a5, .inl (cT 2, 4096, .inr (.inl f6)))] s.heap.size = A at hD hZ ⊢
  have hA : ∀ q : Nat, s.heap.size ≤ q → A q := fun q h => by rw [← hAe]; exact Or.inr h
  have hS : va_S A s.heap s.heap [] := va_S.rf
  have hP : va_P D xcl [(a0, .inr (2, [.ref a1, .int v1, .int v2])), (a1, .inl (cT 2, 4096, .inr (.inl f0))), (a2, .inr (1, [.ref a3, .int v4, .int v5])), (a3, .inl (cT 0, 4096, .inl f3)), (a4, .inr (2, [.ref a5, .int v7, .int v8])), (a5, .inl (cT 2, 4096, .inr (.inl f6)))] s.heap := hP
  have hl := lv_entry ([.ref a0, .ref a2, .ref a4]) (n := 3) (Nat.le_of_ble_eq_true rfl)
  rw [lg_entry_eq]
  generalize (lg_sl ([.ref a0, .ref a2, .ref a4]) ++ List.replicate (3 - (lg_sl ([.ref a0, .ref a2, .ref a4])).length) Slot.unset).toArray = ls at hl ⊢
  have hl : lv_has ls 3 [(0, .ref a0), (1, .ref a2), (2, .ref a4)] := hl
  unfold fG_fromJson at hf
  refine lv_aload_n hx hb dG_fromJson_0 rfl (lv_at hl 0 rfl) ?_
  refine lv_iconst (v := 0) hx hb dG_fromJson_1 (by decide) ?_
  refine lv_iconst (v := 4) hx hb dG_fromJson_2 (by decide) ?_
  obtain ⟨o1, hq2, hf⟩ := xbind hf
  obtain ⟨hPc, hDc, hFc⟩ := xcut (wc := [(a0, .inr (2, [.ref a1, .int v1, .int v2])), (a1, .inl (cT 2, 4096, .inr (.inl f0)))]) hP hD hS hA [0, 1] rfl rfl (by decide)
  refine va_calli (va_runV (C := "ValueBench$Row") (As := [.int 0, .int 4]) (rest := []) ⟨hx, hb, hml, hown, htx⟩ (gR_is l hl9 D cT aK aV s.heap.size n a0 a1 (0 : Int32) (4 : Int32) f0 v1 v2 o1 hq2) ⟨callB_of 2 htx (xw_goodC kw_3_75) rfl rfl rfl (htx _ kw_1_4) (htx _ kw_4_29) ⟨by decide, by decide, by decide +kernel⟩ ⟨Nat.le_of_ble_eq_true rfl, Nat.le_of_ble_eq_true rfl⟩, (htx _ kw_3_73), (htx _ kw_3_74)⟩ ⟨xPre_blind, va_recv hK hP (ci := 2) rfl (q0 := 0) rfl, (fun U hU hW => ⟨rfl, xPre_of hZ hS hFc hPc hDc hK U hU hW⟩)⟩ rfl rfl hl.1 rfl (lv_room (Nat.le_of_ble_eq_true rfl)) dG_fromJson_3 ⟨Nat.le_of_ble_eq_true rfl, Nat.le_of_ble_eq_true rfl⟩) hS (fun q _ h => hFc q h) hFc (fun r3 u9 t H1 locs ht hvm hr9 hB hz1 hk1 hS => ?_)
  obtain ⟨hP1, hK1, hD1⟩ := hB
  rw [ht] at hP1
  obtain ⟨hP, hD⟩ := xjoin (W := [(a2, .inr (1, [.ref a3, .int v4, .int v5])), (a3, .inl (cT 0, 4096, .inl f3)), (a4, .inr (2, [.ref a5, .int v7, .int v8])), (a5, .inl (cT 2, 4096, .inr (.inl f6))), (a0, .inr (2, [.ref a1, .int v1, .int v2])), (a1, .inl (cT 2, 4096, .inr (.inl f0)))]) hP hD [0, 1] [2, 3, 4, 5] 4 rfl rfl (by decide) (by decide) hk1 hFc hP1 hD1
  generalize H1 = H at hP hS ⊢
  rw [hr9]
  refine W.eq (g2 := F0 m 6 ls [.int o1]) rfl ?_
  refine lv_if_ne (tgt := 11) hx hb dG_fromJson_6 (by decide) (fun hc => ?_) (fun hc => ?_)
  · rw [if_neg hc] at hf
    refine lv_aload_n hx hb dG_fromJson_11 rfl (lv_at hl 0 rfl) ?_
    refine lv_aload_n hx hb dG_fromJson_12 rfl (lv_at hl 1 rfl) ?_
    refine lv_aload_n hx hb dG_fromJson_13 rfl (lv_at hl 2 rfl) ?_
    obtain ⟨o4, hq5, hf⟩ := xbind hf
    obtain ⟨hPc, hDc, hFc⟩ := xcut (wc := [(a0, .inr (2, [.ref a1, .int v1, .int v2])), (a1, .inl (cT 2, 4096, .inr (.inl f0))), (a2, .inr (1, [.ref a3, .int v4, .int v5])), (a3, .inl (cT 0, 4096, .inl f3)), (a4, .inr (2, [.ref a5, .int v7, .int v8])), (a5, .inl (cT 2, 4096, .inr (.inl f6)))]) hP hD hS hA [4, 5, 0, 1, 2, 3] rfl rfl (by decide)
    refine va_callr (va_runS (As := [.ref a0, .ref a2, .ref a4]) (rest := []) ⟨hx, hb, hml, hown, htx⟩ (gG_readerOf l hl9 D cT aK aV H.size n a0 a1 a2 a3 a4 a5 f0 v1 v2 f3 v4 v5 f6 v7 v8 o4 hq5) ⟨callB_of 3 htx (xw_goodC kw_4_95) rfl rfl rfl (htx _ kw_1_26) (htx _ kw_4_93) ⟨by decide, by decide, by decide +kernel⟩ ⟨Nat.le_of_ble_eq_true rfl, Nat.le_of_ble_eq_true rfl⟩, htx _ kw_4_94⟩ ⟨xPre_blind, (fun U hU hW => ⟨rfl, xPre_of hZ hS hFc hPc hDc hK U hU hW⟩)⟩ rfl rfl hl.1 rfl (lv_room (Nat.le_of_ble_eq_true rfl)) dG_fromJson_14 ⟨Nat.le_of_ble_eq_true rfl, Nat.le_of_ble_eq_true rfl⟩) hS (fun q _ h => hFc q h) hFc (fun u9 r6 t H1 locs ht hvm hr9 hB hz1 hk1 hS => ?_)
    obtain ⟨hP1, hK1, hD1⟩ := hB
    rw [ht] at hP1
    obtain ⟨hP, hD⟩ := xjoin (W := [(a0, .inr (2, [.ref a1, .int v1, .int v2])), (a1, .inl (cT 2, 4096, .inr (.inl f0))), (a2, .inr (1, [.ref a3, .int o4.2.1, .int o4.2.2])), (a3, .inl (cT 0, 4096, .inl o4.1)), (a4, .inr (2, [.ref a5, .int v7, .int v8])), (a5, .inl (cT 2, 4096, .inr (.inl f6))), (r6, .inr (4, [.ref a2, .ref a4, .int 0, .int (-1)]))]) hP hD [4, 5, 0, 1, 2, 3] [] 0 rfl rfl (by decide) (by decide) hk1 hFc hP1 hD1
    generalize H1 = H at hP hS ⊢
    refine W.eq (g2 := F0 m 17 ls [.ref r6]) rfl ?_
    obtain ⟨o7, hq8, hf⟩ := xbind hf
    obtain ⟨hPc, hDc, hFc⟩ := xcut (wc := [(r6, .inr (4, [.ref a2, .ref a4, .int 0, .int (-1)])), (a2, .inr (1, [.ref a3, .int o4.2.1, .int o4.2.2])), (a3, .inl (cT 0, 4096, .inl o4.1)), (a4, .inr (2, [.ref a5, .int v7, .int v8])), (a5, .inl (cT 2, 4096, .inr (.inl f6)))]) hP hD hS hA [6, 2, 3, 4, 5] rfl rfl (by decide)
    refine va_calli (va_runV (C := "ValueBench$Reader") (As := []) (rest := []) ⟨hx, hb, hml, hown, htx⟩ (gD_readValue l hl9 D cT aK aV H.size d n r6 a2 a3 a4 a5 o4.1 o4.2.1 o4.2.2 f6 v7 v8 (0 : Int32) ((-1) : Int32) o7 hq8) ⟨callB_of 0 htx (xw_goodC kw_2_45) rfl rfl rfl (htx _ kw_1_16) (htx _ kw_4_111) ⟨by decide, by decide, by decide +kernel⟩ ⟨(by show (16 * d + 2) + 1 ≤ 16 * d + 3; omega), (by show 8 + (1 + 11) + (400 * d + 41) ≤ 400 * d + 68; omega)⟩, (htx _ kw_2_43), (htx _ kw_2_44)⟩ ⟨xPre_blind, va_recv hK hP (ci := 4) rfl (q0 := 6) rfl, (fun U hU hW => ⟨rfl, xPre_of hZ hS hFc hPc hDc hK U hU hW⟩)⟩ rfl rfl hl.1 rfl (lv_room (Nat.le_of_ble_eq_true rfl)) dG_fromJson_17 ⟨Nat.le_of_ble_eq_true rfl, Nat.le_of_ble_eq_true rfl⟩) hS (fun q _ h => hFc q h) hFc (fun r9 u9 t H1 locs ht hvm hr9 hB hz1 hk1 hS => ?_)
    obtain ⟨hP1, hK1, hD1⟩ := hB
    rw [ht] at hP1
    obtain ⟨hP, hD⟩ := xjoin (W := [(a0, .inr (2, [.ref a1, .int v1, .int v2])), (a1, .inl (cT 2, 4096, .inr (.inl f0))), (r6, .inr (4, [.ref a2, .ref a4, .int o7.2.2.2.2.1, .int o7.2.2.2.2.2])), (a2, .inr (1, [.ref a3, .int o4.2.1, .int o4.2.2])), (a3, .inl (cT 0, 4096, .inl o4.1)), (a4, .inr (2, [.ref a5, .int o7.2.2.1, .int o7.2.2.2.1])), (a5, .inl (cT 2, 4096, .inr (.inl o7.2.1)))]) hP hD [6, 2, 3, 4, 5] [0, 1] 2 rfl rfl (by decide) (by decide) hk1 hFc hP1 hD1
    generalize H1 = H at hP hS ⊢
    rw [hr9]
    refine W.eq (g2 := F0 m 20 ls [.int o7.1]) rfl ?_
    refine lv_iconst (v := (-1)) hx hb dG_fromJson_20 (by decide) ?_
    refine lv_icmp_ne (tgt := 28) hx hb dG_fromJson_21 (by decide) (fun hc => ?_) (fun hc => ?_)
    · rw [if_neg hc] at hf
      refine lv_iconst (v := 5) hx hb dG_fromJson_28 (by decide) ?_
      obtain rfl := Option.some.inj hf
      obtain ⟨hP9, hD9⟩ := xsub (wc := [(a0, .inr (2, [.ref a1, .int v1, .int v2])), (a1, .inl (cT 2, 4096, .inr (.inl f0))), (a2, .inr (1, [.ref a3, .int o4.2.1, .int o4.2.2])), (a3, .inl (cT 0, 4096, .inl o4.1)), (a4, .inr (2, [.ref a5, .int o7.2.2.1, .int o7.2.2.2.1])), (a5, .inl (cT 2, 4096, .inr (.inl o7.2.1)))]) hP hD [0, 1, 3, 4, 5, 6] rfl rfl (by decide)
      refine W.widen (k := 1) (n := 4) (Nat.le_of_ble_eq_true rfl) (Nat.le_of_ble_eq_true rfl) ?_
      exact W.iret (v := (5 : Int32)) hx hb hr (fun t ht hW => ⟨⟨(5 : Int32), (), rfl, rfl, by rw [ht]; exact hP9, va_K.moved hW.alike hK, hD9⟩, hS.F ht⟩) hS.2.2 dG_fromJson_29
    · rw [if_pos hc] at hf
      refine lv_iconst (v := 0) hx hb dG_fromJson_24 (by decide) ?_
      refine lv_goto (tgt := 29) hx hb dG_fromJson_25 (by decide) ?_
      obtain rfl := Option.some.inj hf
      obtain ⟨hP9, hD9⟩ := xsub (wc := [(a0, .inr (2, [.ref a1, .int v1, .int v2])), (a1, .inl (cT 2, 4096, .inr (.inl f0))), (a2, .inr (1, [.ref a3, .int o4.2.1, .int o4.2.2])), (a3, .inl (cT 0, 4096, .inl o4.1)), (a4, .inr (2, [.ref a5, .int o7.2.2.1, .int o7.2.2.2.1])), (a5, .inl (cT 2, 4096, .inr (.inl o7.2.1)))]) hP hD [0, 1, 3, 4, 5, 6] rfl rfl (by decide)
      refine W.widen (k := 1) (n := 4) (Nat.le_of_ble_eq_true rfl) (Nat.le_of_ble_eq_true rfl) ?_
      exact W.iret (v := (0 : Int32)) hx hb hr (fun t ht hW => ⟨⟨(0 : Int32), (), rfl, rfl, by rw [ht]; exact hP9, va_K.moved hW.alike hK, hD9⟩, hS.F ht⟩) hS.2.2 dG_fromJson_29
  · rw [if_pos hc] at hf
    refine lv_iconst (v := 1) hx hb dG_fromJson_9 (by decide) ?_
    obtain rfl := Option.some.inj hf
    obtain ⟨hP9, hD9⟩ := xsub (wc := [(a0, .inr (2, [.ref a1, .int v1, .int v2])), (a1, .inl (cT 2, 4096, .inr (.inl f0))), (a2, .inr (1, [.ref a3, .int v4, .int v5])), (a3, .inl (cT 0, 4096, .inl f3)), (a4, .inr (2, [.ref a5, .int v7, .int v8])), (a5, .inl (cT 2, 4096, .inr (.inl f6)))]) hP hD [4, 5, 0, 1, 2, 3] rfl rfl (by decide)
    refine W.widen (k := 1) (n := 4) (Nat.le_of_ble_eq_true rfl) (Nat.le_of_ble_eq_true rfl) ?_
    exact W.iret (v := (1 : Int32)) hx hb hr (fun t ht hW => ⟨⟨(1 : Int32), (), rfl, rfl, by rw [ht]; exact hP9, va_K.moved hW.alike hK, hD9⟩, hS.F ht⟩) hS.2.2 dG_fromJson_10
set_option maxHeartbeats 400000000 in
set_option maxRecDepth 100000 in
theorem gG_putReversedString (l : Launch) (hl9 : l.stackTraces = false) (D : va_G) (cT : Nat → ClassId) (aK aV : Nat → Nat) (sz n : Nat) (a0 : Nat) (a1 : Nat) (a2 : Nat) (a3 : Nat) (f0 : Nat → Int64) (v1 : Int32) (v2 : Int32) (f3 : Nat → Int64) (v4 : Int32) (v5 : Int32) (out : (Nat → Int64) × Int32 × Int32) (hf : fG_putReversedString n f0 v1 v2 f3 v4 v5 = some out) : xMet l yG_putReversedString wyG_putReversedString 2 0 0 42 D cT aK aV sz [.ref a0, .ref a2] [(a0, .inr (2, [.ref a1, .int v1, .int v2])), (a1, .inl (cT 2, 4096, .inr (.inl f0))), (a2, .inr (2, [.ref a3, .int v4, .int v5])), (a3, .inl (cT 2, 4096, .inr (.inl f3)))] (fun A => va_Qv (fun _ : Unit => True) (fun _ t => xB D xcl cT A [(a0, .inr (2, [.ref a1, .int v1, .int v2])), (a1, .inl (cT 2, 4096, .inr (.inl f0))), (a2, .inr (2, [.ref a3, .int out.2.1, .int out.2.2])), (a3, .inl (cT 2, 4096, .inr (.inl out.1)))] t) A) := by
  refine Met.ofW (cc := prog_9_method_12_code) (maxL := 4) (ret := none) (by decide) rfl ?_
  intro p e s m args below meth c s₁ B hml hv
  obtain ⟨rfl, hsz, hZ, hP, hK, hD0⟩ := hv
  have hx := B.exec
  have hb := B.bytes
  have hr := B.returns
  have hts := atoms_spec (ws := wyG_putReversedString) B.pre
  have htx := fun w h => hts w (List.mem_cons_of_mem _ h)
  have hown : s.vm.findClass "ValueBench$Singles" = some m.cls := findClass_of_methodNamed B.named
  have hlocks := B.notSynchronized
  subst hsz
  have hD := hD0.self (sz := s.heap.size)
  generalize hAe : va_A [(a0, .inr (2, [.ref a1, .int v1, .int v2])), (a1, .inl (cT 2, 4096, .inr (.inl f0))), (a2, .inr (2, [.ref a3, .int v4, .int v5])), (a3, .inl (cT 2, 4096, .inr (.inl f3)))] s.heap.size = A at hD hZ ⊢
  have hA : ∀ q : Nat, s.heap.size ≤ q → A q := fun q h => by rw [← hAe]; exact Or.inr h
  have hS : va_S A s.heap s.heap [] := va_S.rf
  have hP : va_P D xcl [(a0, .inr (2, [.ref a1, .int v1, .int v2])), (a1, .inl (cT 2, 4096, .inr (.inl f0))), (a2, .inr (2, [.ref a3, .int v4, .int v5])), (a3, .inl (cT 2, 4096, .inr (.inl f3)))] s.heap := hP
  have hl := lv_entry ([.ref a0, .ref a2]) (n := 4) (Nat.le_of_ble_eq_true rfl)
  rw [lg_entry_eq]
  generalize (lg_sl ([.ref a0, .ref a2]) ++ List.replicate (4 - (lg_sl ([.ref a0, .ref a2])).length) Slot.unset).toArray = ls at hl ⊢
  have hl : lv_has ls 4 [(0, .ref a0), (1, .ref a2)] := hl
  unfold fG_putReversedString at hf
  refine xloopK (σ := Nat × Int32 × Int32 × (Nat → Int64) × Int32 × Int32) (fun n x H locs ls => (x.1 = 1 ∧ fG_putReversedString_b f0 v1 v2 n x.1 x.2.1 x.2.2.1 x.2.2.2.1 x.2.2.2.2.1 x.2.2.2.2.2 = some out ∧ va_P D xcl [(a0, .inr (2, [.ref a1, .int v1, .int v2])), (a1, .inl (cT 2, 4096, .inr (.inl f0))), (a2, .inr (2, [.ref a3, .int x.2.2.2.2.1, .int x.2.2.2.2.2])), (a3, .inl (cT 2, 4096, .inr (.inl x.2.2.2.1)))] H ∧ va_D A [(a0, .inr (2, [.ref a1, .int v1, .int v2])), (a1, .inl (cT 2, 4096, .inr (.inl f0))), (a2, .inr (2, [.ref a3, .int x.2.2.2.2.1, .int x.2.2.2.2.2])), (a3, .inl (cT 2, 4096, .inr (.inl x.2.2.2.1)))] ∧ va_S A s.heap H locs ∧ lv_has ls 4 [(3, .int x.2.1), (2, .int x.2.2.1), (0, .ref a0), (1, .ref a2)])) (fun x => 13) (fun x H locs ls h => by exact absurd h.2.1 (by rw [fG_putReversedString_b]; exact fun h => nomatch h)) (fun n ih x H locs ls hv => ?_) (fun key => ?_)
  · obtain ⟨lb, y3, y2, w0, w1, w2⟩ := x
    rcases hv with ⟨hj, hf, hP, hD, hS, hl⟩
    subst hj
    have hf : fG_putReversedString_b f0 v1 v2 (n + 1) 1 y3 y2 w0 w1 w2 = some out := hf
    rw [fG_putReversedString_b] at hf
    obtain ⟨hP, hD⟩ : xPD D xcl A [(a0, .inr (2, [.ref a1, .int v1, .int v2])), (a1, .inl (cT 2, 4096, .inr (.inl f0))), (a2, .inr (2, [.ref a3, .int w1, .int w2])), (a3, .inl (cT 2, 4096, .inr (.inl w0)))] H := ⟨hP, hD⟩
    have hl : lv_has ls 4 [(3, .int y3), (2, .int y2), (0, .ref a0), (1, .ref a2)] := hl
    refine W.eq (g2 := F0 m 13 ls []) rfl ?_
    refine lv_iload_n hx hb dG_putReversedString_13 rfl (lv_at hl 0 rfl) ?_
    refine lv_if_lt (tgt := 34) hx hb dG_putReversedString_14 (by decide) (fun hc => ?_) (fun hc => ?_)
    · rw [if_pos hc] at hf
      refine lv_aload_n hx hb dG_putReversedString_34 rfl (lv_at hl 3 rfl) ?_
      refine lv_iload_n hx hb dG_putReversedString_35 rfl (lv_at hl 1 rfl) ?_
      refine lv_iconst (v := 4) hx hb dG_putReversedString_36 (by decide) ?_
      refine lv_aload_n hx hb dG_putReversedString_37 rfl (lv_at hl 2 rfl) ?_
      refine lv_iconst (v := 0) hx hb dG_putReversedString_38 (by decide) ?_
      obtain ⟨o1, hq2, hf⟩ := xbind hf
      obtain ⟨hPc, hDc, hFc⟩ := xcut (wc := [(a0, .inr (2, [.ref a1, .int v1, .int v2])), (a1, .inl (cT 2, 4096, .inr (.inl f0)))]) hP hD hS hA [0, 1] rfl rfl (by decide)
      refine va_calli (va_runV (C := "ValueBench$Row") (As := [.int 0]) (rest := [.int 4, .int y2, .ref a2]) ⟨hx, hb, hml, hown, htx⟩ (gR_length l hl9 D cT aK aV H.size n a0 a1 (0 : Int32) f0 v1 v2 o1 hq2) ⟨callB_of 1 htx (xw_goodC kw_2_191) rfl rfl rfl (htx _ kw_1_4) (htx _ kw_4_42) ⟨by decide, by decide, by decide +kernel⟩ ⟨Nat.le_of_ble_eq_true rfl, Nat.le_of_ble_eq_true rfl⟩, (htx _ kw_2_189), (htx _ kw_2_190)⟩ ⟨xPre_blind, va_recv hK hP (ci := 2) rfl (q0 := 0) rfl, (fun U hU hW => ⟨rfl, xPre_of hZ hS hFc hPc hDc hK U hU hW⟩)⟩ rfl rfl hl.1 rfl (lv_room (Nat.le_of_ble_eq_true rfl)) dG_putReversedString_39 ⟨Nat.le_of_ble_eq_true rfl, Nat.le_of_ble_eq_true rfl⟩) hS (fun q _ h => hFc q h) hFc (fun r3 u9 t H1 locs ht hvm hr9 hB hz1 hk1 hS => ?_)
      obtain ⟨hP1, hK1, hD1⟩ := hB
      rw [ht] at hP1
      obtain ⟨hP, hD⟩ := xjoin (W := [(a2, .inr (2, [.ref a3, .int w1, .int w2])), (a3, .inl (cT 2, 4096, .inr (.inl w0))), (a0, .inr (2, [.ref a1, .int v1, .int v2])), (a1, .inl (cT 2, 4096, .inr (.inl f0)))]) hP hD [0, 1] [2, 3] 2 rfl rfl (by decide) (by decide) hk1 hFc hP1 hD1
      generalize H1 = H at hP hS ⊢
      rw [hr9]
      refine W.eq (g2 := F0 m 42 ls [.int o1, .int 4, .int y2, .ref a2]) rfl ?_
      obtain ⟨o4, hq5, hf⟩ := xbind hf
      obtain ⟨hPc, hDc, hFc⟩ := xcut (wc := [(a2, .inr (2, [.ref a3, .int w1, .int w2])), (a3, .inl (cT 2, 4096, .inr (.inl w0)))]) hP hD hS hA [0, 1] rfl rfl (by decide)
      refine va_callv (va_runV (C := "ValueBench$Row") (As := [.int y2, .int 4, .int o1]) (rest := []) ⟨hx, hb, hml, hown, htx⟩ (gR_close l hl9 D cT aK aV H.size n a2 a3 y2 (4 : Int32) o1 w0 w1 w2 o4 hq5) ⟨callB_of 3 htx (xw_goodC kw_2_167) rfl rfl rfl (htx _ kw_1_4) (htx _ kw_4_70) ⟨by decide, by decide, by decide +kernel⟩ ⟨Nat.le_of_ble_eq_true rfl, Nat.le_of_ble_eq_true rfl⟩, (htx _ kw_2_165), (htx _ kw_2_166)⟩ ⟨xPre_blind, va_recv hK hP (ci := 2) rfl (q0 := 0) rfl, (fun U hU hW => ⟨rfl, xPre_of hZ hS hFc hPc hDc hK U hU hW⟩)⟩ rfl rfl hl.1 rfl (lv_room (Nat.le_of_ble_eq_true rfl)) dG_putReversedString_42 ⟨Nat.le_of_ble_eq_true rfl, Nat.le_of_ble_eq_true rfl⟩) hS (fun q _ h => hFc q h) hFc (fun u9 t H1 locs ht hvm hr9 hB hz1 hk1 hS => ?_)
      obtain ⟨hP1, hK1, hD1⟩ := hB
      rw [ht] at hP1
      obtain ⟨hP, hD⟩ := xjoin (W := [(a0, .inr (2, [.ref a1, .int v1, .int v2])), (a1, .inl (cT 2, 4096, .inr (.inl f0))), (a2, .inr (2, [.ref a3, .int w1, .int w2])), (a3, .inl (cT 2, 4096, .inr (.inl o4)))]) hP hD [0, 1] [2, 3] 2 rfl rfl (by decide) (by decide) hk1 hFc hP1 hD1
      generalize H1 = H at hP hS ⊢
      obtain rfl := Option.some.inj hf
      obtain ⟨hP9, hD9⟩ := xsub (wc := [(a0, .inr (2, [.ref a1, .int v1, .int v2])), (a1, .inl (cT 2, 4096, .inr (.inl f0))), (a2, .inr (2, [.ref a3, .int w1, .int w2])), (a3, .inl (cT 2, 4096, .inr (.inl o4)))]) hP hD [0, 1, 2, 3] rfl rfl (by decide)
      exact W.vret hx hb hr (fun t ht hW => ⟨⟨(), rfl, trivial, by rw [ht]; exact hP9, va_K.moved hW.alike hK, hD9⟩, hS.F ht⟩) hS.2.2 dG_putReversedString_45
    · rw [if_neg hc] at hf
      refine lv_aload_n hx hb dG_putReversedString_17 rfl (lv_at hl 3 rfl) ?_
      refine lv_aload_n hx hb dG_putReversedString_18 rfl (lv_at hl 2 rfl) ?_
      refine lv_iconst (v := 0) hx hb dG_putReversedString_19 (by decide) ?_
      refine lv_iload_n hx hb dG_putReversedString_20 rfl (lv_at hl 0 rfl) ?_
      obtain ⟨o1, hq2, hf⟩ := xbind hf
      obtain ⟨hPc, hDc, hFc⟩ := xcut (wc := [(a0, .inr (2, [.ref a1, .int v1, .int v2])), (a1, .inl (cT 2, 4096, .inr (.inl f0)))]) hP hD hS hA [0, 1] rfl rfl (by decide)
      refine va_calli (va_runV (C := "ValueBench$Row") (As := [.int 0, .int y3]) (rest := [.ref a2]) ⟨hx, hb, hml, hown, htx⟩ (gR_code l hl9 D cT aK aV H.size n a0 a1 (0 : Int32) y3 f0 v1 v2 o1 hq2) ⟨callB_of 2 htx (xw_goodC kw_3_56) rfl rfl rfl (htx _ kw_1_4) (htx _ kw_4_118) ⟨by decide, by decide, by decide +kernel⟩ ⟨Nat.le_of_ble_eq_true rfl, Nat.le_of_ble_eq_true rfl⟩, (htx _ kw_3_54), (htx _ kw_3_55)⟩ ⟨xPre_blind, va_recv hK hP (ci := 2) rfl (q0 := 0) rfl, (fun U hU hW => ⟨rfl, xPre_of hZ hS hFc hPc hDc hK U hU hW⟩)⟩ rfl rfl hl.1 rfl (lv_room (Nat.le_of_ble_eq_true rfl)) dG_putReversedString_21 ⟨Nat.le_of_ble_eq_true rfl, Nat.le_of_ble_eq_true rfl⟩) hS (fun q _ h => hFc q h) hFc (fun r3 u9 t H1 locs ht hvm hr9 hB hz1 hk1 hS => ?_)
      obtain ⟨hP1, hK1, hD1⟩ := hB
      rw [ht] at hP1
      obtain ⟨hP, hD⟩ := xjoin (W := [(a2, .inr (2, [.ref a3, .int w1, .int w2])), (a3, .inl (cT 2, 4096, .inr (.inl w0))), (a0, .inr (2, [.ref a1, .int v1, .int v2])), (a1, .inl (cT 2, 4096, .inr (.inl f0)))]) hP hD [0, 1] [2, 3] 2 rfl rfl (by decide) (by decide) hk1 hFc hP1 hD1
      generalize H1 = H at hP hS ⊢
      rw [hr9]
      refine W.eq (g2 := F0 m 24 ls [.int o1, .ref a2]) rfl ?_
      refine lv_i2l hx hb dG_putReversedString_24 rfl ?_
      obtain ⟨o4, hq5, hf⟩ := xbind hf
      obtain ⟨hPc, hDc, hFc⟩ := xcut (wc := [(a2, .inr (2, [.ref a3, .int w1, .int w2])), (a3, .inl (cT 2, 4096, .inr (.inl w0)))]) hP hD hS hA [0, 1] rfl rfl (by decide)
      refine va_callv (va_runV (C := "ValueBench$Row") (As := [.long o1.toInt64]) (rest := []) ⟨hx, hb, hml, hown, htx⟩ (gR_put l hl9 D cT aK aV H.size n a2 a3 o1.toInt64 w0 w1 w2 o4 hq5) ⟨callB_of 1 htx (xw_goodC kw_2_126) rfl rfl rfl (htx _ kw_1_4) (htx _ kw_4_119) ⟨by decide, by decide, by decide +kernel⟩ ⟨Nat.le_of_ble_eq_true rfl, Nat.le_of_ble_eq_true rfl⟩, (htx _ kw_2_124), (htx _ kw_2_125)⟩ ⟨xPre_blind, va_recv hK hP (ci := 2) rfl (q0 := 0) rfl, (fun U hU hW => ⟨rfl, xPre_of hZ hS hFc hPc hDc hK U hU hW⟩)⟩ rfl rfl hl.1 rfl (lv_room (Nat.le_of_ble_eq_true rfl)) dG_putReversedString_25 ⟨Nat.le_of_ble_eq_true rfl, Nat.le_of_ble_eq_true rfl⟩) hS (fun q _ h => hFc q h) hFc (fun u9 t H1 locs ht hvm hr9 hB hz1 hk1 hS => ?_)
      obtain ⟨hP1, hK1, hD1⟩ := hB
      rw [ht] at hP1
      obtain ⟨hP, hD⟩ := xjoin (W := [(a0, .inr (2, [.ref a1, .int v1, .int v2])), (a1, .inl (cT 2, 4096, .inr (.inl f0))), (a2, .inr (2, [.ref a3, .int o4.2.1, .int o4.2.2])), (a3, .inl (cT 2, 4096, .inr (.inl o4.1)))]) hP hD [0, 1] [2, 3] 2 rfl rfl (by decide) (by decide) hk1 hFc hP1 hD1
      generalize H1 = H at hP hS ⊢
      refine lv_iinc (v := (y3 + (-1))) (lv' := [(3, .int (y3 + (-1))), (2, .int y2), (0, .ref a0), (1, .ref a2)]) hx hb dG_putReversedString_28 hl (k := 0) rfl rfl (by decide) rfl (fun ls hl => ?_)
      refine lv_goto (tgt := 13) hx hb dG_putReversedString_31 (by decide) ?_
      obtain ⟨hP9, hD9⟩ := xsub (wc := [(a0, .inr (2, [.ref a1, .int v1, .int v2])), (a1, .inl (cT 2, 4096, .inr (.inl f0))), (a2, .inr (2, [.ref a3, .int o4.2.1, .int o4.2.2])), (a3, .inl (cT 2, 4096, .inr (.inl o4.1)))]) hP hD [0, 1, 2, 3] rfl rfl (by decide)
      exact ih (1, (y3 + (-1)), y2, o4.1, o4.2.1, o4.2.2) _ _ ls (⟨rfl, hf, hP9, hD9, hS, lv_sub hl [0, 1, 2, 3] rfl⟩)
  refine lv_aload_n hx hb dG_putReversedString_0 rfl (lv_at hl 1 rfl) ?_
  obtain ⟨o1, hq2, hf⟩ := xbind hf
  obtain ⟨hPc, hDc, hFc⟩ := xcut (wc := [(a2, .inr (2, [.ref a3, .int v4, .int v5])), (a3, .inl (cT 2, 4096, .inr (.inl f3)))]) hP hD hS hA [2, 3] rfl rfl (by decide)
  refine va_calli (va_runV (C := "ValueBench$Row") (As := []) (rest := []) ⟨hx, hb, hml, hown, htx⟩ (gR_open l hl9 D cT aK aV s.heap.size n a2 a3 f3 v4 v5 o1 hq2) ⟨callB_of 0 htx (xw_goodC kw_2_136) rfl rfl rfl (htx _ kw_1_4) (htx _ kw_4_46) ⟨by decide, by decide, by decide +kernel⟩ ⟨Nat.le_of_ble_eq_true rfl, Nat.le_of_ble_eq_true rfl⟩, (htx _ kw_2_134), (htx _ kw_2_135)⟩ ⟨xPre_blind, va_recv hK hP (ci := 2) rfl (q0 := 2) rfl, (fun U hU hW => ⟨rfl, xPre_of hZ hS hFc hPc hDc hK U hU hW⟩)⟩ rfl rfl hl.1 rfl (lv_room (Nat.le_of_ble_eq_true rfl)) dG_putReversedString_1 ⟨Nat.le_of_ble_eq_true rfl, Nat.le_of_ble_eq_true rfl⟩) hS (fun q _ h => hFc q h) hFc (fun r3 u9 t H1 locs ht hvm hr9 hB hz1 hk1 hS => ?_)
  obtain ⟨hP1, hK1, hD1⟩ := hB
  rw [ht] at hP1
  obtain ⟨hP, hD⟩ := xjoin (W := [(a0, .inr (2, [.ref a1, .int v1, .int v2])), (a1, .inl (cT 2, 4096, .inr (.inl f0))), (a2, .inr (2, [.ref a3, .int o1.2.2.1, .int o1.2.2.2])), (a3, .inl (cT 2, 4096, .inr (.inl o1.2.1)))]) hP hD [2, 3] [0, 1] 2 rfl rfl (by decide) (by decide) hk1 hFc hP1 hD1
  generalize H1 = H at hP hS ⊢
  rw [hr9]
  refine W.eq (g2 := F0 m 4 ls [.int o1.1]) rfl ?_
  refine lv_istore_n (lv' := [(2, .int o1.1), (0, .ref a0), (1, .ref a2)]) hx hb dG_putReversedString_4 rfl hl (by decide) rfl (fun ls hl => ?_)
  refine lv_aload_n hx hb dG_putReversedString_5 rfl (lv_at hl 1 rfl) ?_
  refine lv_iconst (v := 0) hx hb dG_putReversedString_6 (by decide) ?_
  obtain ⟨o4, hq5, hf⟩ := xbind hf
  obtain ⟨hPc, hDc, hFc⟩ := xcut (wc := [(a0, .inr (2, [.ref a1, .int v1, .int v2])), (a1, .inl (cT 2, 4096, .inr (.inl f0)))]) hP hD hS hA [0, 1] rfl rfl (by decide)
  refine va_calli (va_runV (C := "ValueBench$Row") (As := [.int 0]) (rest := []) ⟨hx, hb, hml, hown, htx⟩ (gR_length l hl9 D cT aK aV H.size n a0 a1 (0 : Int32) f0 v1 v2 o4 hq5) ⟨callB_of 1 htx (xw_goodC kw_2_191) rfl rfl rfl (htx _ kw_1_4) (htx _ kw_4_42) ⟨by decide, by decide, by decide +kernel⟩ ⟨Nat.le_of_ble_eq_true rfl, Nat.le_of_ble_eq_true rfl⟩, (htx _ kw_2_189), (htx _ kw_2_190)⟩ ⟨xPre_blind, va_recv hK hP (ci := 2) rfl (q0 := 0) rfl, (fun U hU hW => ⟨rfl, xPre_of hZ hS hFc hPc hDc hK U hU hW⟩)⟩ rfl rfl hl.1 rfl (lv_room (Nat.le_of_ble_eq_true rfl)) dG_putReversedString_7 ⟨Nat.le_of_ble_eq_true rfl, Nat.le_of_ble_eq_true rfl⟩) hS (fun q _ h => hFc q h) hFc (fun r6 u9 t H1 locs ht hvm hr9 hB hz1 hk1 hS => ?_)
  obtain ⟨hP1, hK1, hD1⟩ := hB
  rw [ht] at hP1
  obtain ⟨hP, hD⟩ := xjoin (W := [(a2, .inr (2, [.ref a3, .int o1.2.2.1, .int o1.2.2.2])), (a3, .inl (cT 2, 4096, .inr (.inl o1.2.1))), (a0, .inr (2, [.ref a1, .int v1, .int v2])), (a1, .inl (cT 2, 4096, .inr (.inl f0)))]) hP hD [0, 1] [2, 3] 2 rfl rfl (by decide) (by decide) hk1 hFc hP1 hD1
  generalize H1 = H at hP hS ⊢
  rw [hr9]
  refine W.eq (g2 := F0 m 10 ls [.int o4]) rfl ?_
  refine lv_iconst (v := 1) hx hb dG_putReversedString_10 (by decide) ?_
  refine lv_isub hx hb dG_putReversedString_11 ?_
  refine lv_istore_n (lv' := [(3, .int (o4 - (1 : Int32))), (2, .int o1.1), (0, .ref a0), (1, .ref a2)]) hx hb dG_putReversedString_12 rfl hl (by decide) rfl (fun ls hl => ?_)
  obtain ⟨hP9, hD9⟩ := xsub (wc := [(a0, .inr (2, [.ref a1, .int v1, .int v2])), (a1, .inl (cT 2, 4096, .inr (.inl f0))), (a2, .inr (2, [.ref a3, .int o1.2.2.1, .int o1.2.2.2])), (a3, .inl (cT 2, 4096, .inr (.inl o1.2.1)))]) hP hD [2, 3, 0, 1] rfl rfl (by decide)
  exact key n (1, (o4 - (1 : Int32)), o1.1, o1.2.1, o1.2.2.1, o1.2.2.2) _ _ ls (⟨rfl, hf, hP9, hD9, hS, lv_sub hl [0, 1, 2, 3] rfl⟩)
set_option maxHeartbeats 400000000 in
set_option maxRecDepth 100000 in
theorem gG_putReversedArray (l : Launch) (hl9 : l.stackTraces = false) (D : va_G) (cT : Nat → ClassId) (aK aV : Nat → Nat) (sz n : Nat) (a0 : Nat) (a1 : Nat) (a2 : Nat) (a3 : Nat) (a4 : Nat) (a7 : Nat) (a8 : Nat) (f0 : Nat → Int64) (v1 : Int32) (v2 : Int32) (f3 : Nat → Int32) (f4 : Nat → Int32) (p5 : Nat) (f6 : Nat → Int32) (p7 : Nat) (f8 : Nat → Int32) (v9 : Int32) (f10 : Nat → Int64) (v11 : Int32) (v12 : Int32) (out : (Nat → Int32) × (Nat → Int32) × Int32 × (Nat → Int64) × Int32 × Int32) (hf : fG_putReversedArray n f0 v1 v2 f3 f4 p5 f6 p7 f8 v9 f10 v11 v12 = some out) : xMet l yG_putReversedArray wyG_putReversedArray 3 0 0 105 D cT aK aV sz [.ref a0, .ref a2, .ref a7] [(a0, .inr (2, [.ref a1, .int v1, .int v2])), (a1, .inl (cT 2, 4096, .inr (.inl f0))), (a2, .inr (3, [.ref a3, .ref a4, .ref p5, .ref p7, .int v9])), (a3, .inl (cT 1, 2048, .inl f3)), (a4, .inl (cT 1, 2048, .inl f4)), (p5, .inl (cT 1, 2048, .inl f6)), (p7, .inl (cT 1, 2048, .inl f8)), (a7, .inr (2, [.ref a8, .int v11, .int v12])), (a8, .inl (cT 2, 4096, .inr (.inl f10)))] (fun A => va_Qv (fun _ : Unit => True) (fun _ t => xB D xcl cT A [(a0, .inr (2, [.ref a1, .int v1, .int v2])), (a1, .inl (cT 2, 4096, .inr (.inl f0))), (a2, .inr (3, [.ref a3, .ref a4, .ref p5, .ref p7, .int out.2.2.1])), (a3, .inl (cT 1, 2048, .inl out.1)), (a4, .inl (cT 1, 2048, .inl f4)), (p5, .inl (cT 1, 2048, .inl out.2.1)), (p7, .inl (cT 1, 2048, .inl f8)), (a7, .inr (2, [.ref a8, .int out.2.2.2.2.1, .int out.2.2.2.2.2])), (a8, .inl (cT 2, 4096, .inr (.inl out.2.2.2.1)))] t) A) := by
  refine Met.ofW (cc := prog_9_method_13_code) (maxL := 5) (ret := none) (by decide) rfl ?_
  intro p e s m args below meth c s₁ B hml hv
  obtain ⟨rfl, hsz, hZ, hP, hK, hD0⟩ := hv
  have hx := B.exec
  have hb := B.bytes
  have hr := B.returns
  have hts := atoms_spec (ws := wyG_putReversedArray) B.pre
  have htx := fun w h => hts w (List.mem_cons_of_mem _ h)
  have hown : s.vm.findClass "ValueBench$Singles" = some m.cls := findClass_of_methodNamed B.named
  have hlocks := B.notSynchronized
  subst hsz
  have hD := hD0.self (sz := s.heap.size)
  generalize hAe : va_A [(a0, .inr (2, [.ref a1, .int v1, .int v2])), (a1, .inl (cT 2, 4096, .inr (.inl f0))), (a2, .inr (3, [.ref a3, .ref a4, .ref p5, .ref p7, .int v9])), (a3, .inl (cT 1, 2048, .inl f3)), (a4, .inl (cT 1, 2048, .inl f4)), (p5, .inl (cT 1, 2048, .inl f6)), (p7, .inl (cT 1, 2048, .inl f8)), (a7, .inr (2, [.ref a8, .int v11, .int v12])), (a8, .inl (cT 2, 4096, .inr (.inl f10)))] s.heap.size = A at hD hZ ⊢
  have hA : ∀ q : Nat, s.heap.size ≤ q → A q := fun q h => by rw [← hAe]; exact Or.inr h
  have hS : va_S A s.heap s.heap [] := va_S.rf
  have hP : va_P D xcl [(a0, .inr (2, [.ref a1, .int v1, .int v2])), (a1, .inl (cT 2, 4096, .inr (.inl f0))), (a2, .inr (3, [.ref a3, .ref a4, .ref p5, .ref p7, .int v9])), (a3, .inl (cT 1, 2048, .inl f3)), (a4, .inl (cT 1, 2048, .inl f4)), (p5, .inl (cT 1, 2048, .inl f6)), (p7, .inl (cT 1, 2048, .inl f8)), (a7, .inr (2, [.ref a8, .int v11, .int v12])), (a8, .inl (cT 2, 4096, .inr (.inl f10)))] s.heap := hP
  have hl := lv_entry ([.ref a0, .ref a2, .ref a7]) (n := 5) (Nat.le_of_ble_eq_true rfl)
  rw [lg_entry_eq]
  generalize (lg_sl ([.ref a0, .ref a2, .ref a7]) ++ List.replicate (5 - (lg_sl ([.ref a0, .ref a2, .ref a7])).length) Slot.unset).toArray = ls at hl ⊢
  have hl : lv_has ls 5 [(0, .ref a0), (1, .ref a2), (2, .ref a7)] := hl
  unfold fG_putReversedArray at hf
  refine xloopK (σ := Nat × Int32 × Int32 × (Nat → Int32) × (Nat → Int32) × Int32 × (Nat → Int64) × Int32 × Int32) (fun n x H locs ls => (x.1 = 1 ∧ fG_putReversedArray_b f0 v1 v2 f4 p5 p7 f8 n x.1 x.2.1 x.2.2.1 x.2.2.2.1 x.2.2.2.2.1 x.2.2.2.2.2.1 x.2.2.2.2.2.2.1 x.2.2.2.2.2.2.2.1 x.2.2.2.2.2.2.2.2 = some out ∧ va_P D xcl [(a0, .inr (2, [.ref a1, .int v1, .int v2])), (a1, .inl (cT 2, 4096, .inr (.inl f0))), (a2, .inr (3, [.ref a3, .ref a4, .ref p5, .ref p7, .int x.2.2.2.2.2.1])), (a3, .inl (cT 1, 2048, .inl x.2.2.2.1)), (a4, .inl (cT 1, 2048, .inl f4)), (p5, .inl (cT 1, 2048, .inl x.2.2.2.2.1)), (p7, .inl (cT 1, 2048, .inl f8)), (a7, .inr (2, [.ref a8, .int x.2.2.2.2.2.2.2.1, .int x.2.2.2.2.2.2.2.2])), (a8, .inl (cT 2, 4096, .inr (.inl x.2.2.2.2.2.2.1)))] H ∧ va_D A [(a0, .inr (2, [.ref a1, .int v1, .int v2])), (a1, .inl (cT 2, 4096, .inr (.inl f0))), (a2, .inr (3, [.ref a3, .ref a4, .ref p5, .ref p7, .int x.2.2.2.2.2.1])), (a3, .inl (cT 1, 2048, .inl x.2.2.2.1)), (a4, .inl (cT 1, 2048, .inl f4)), (p5, .inl (cT 1, 2048, .inl x.2.2.2.2.1)), (p7, .inl (cT 1, 2048, .inl f8)), (a7, .inr (2, [.ref a8, .int x.2.2.2.2.2.2.2.1, .int x.2.2.2.2.2.2.2.2])), (a8, .inl (cT 2, 4096, .inr (.inl x.2.2.2.2.2.2.1)))] ∧ va_S A s.heap H locs ∧ lv_has ls 5 [(4, .int x.2.1), (3, .int x.2.2.1), (0, .ref a0), (1, .ref a2), (2, .ref a7)])) (fun x => 20) (fun x H locs ls h => by exact absurd h.2.1 (by rw [fG_putReversedArray_b]; exact fun h => nomatch h)) (fun n ih x H locs ls hv => ?_) (fun key => ?_)
  · obtain ⟨lb, y4, y3, w0, w1, w2, w3, w4, w5⟩ := x
    rcases hv with ⟨hj, hf, hP, hD, hS, hl⟩
    subst hj
    have hf : fG_putReversedArray_b f0 v1 v2 f4 p5 p7 f8 (n + 1) 1 y4 y3 w0 w1 w2 w3 w4 w5 = some out := hf
    rw [fG_putReversedArray_b] at hf
    obtain ⟨hP, hD⟩ : xPD D xcl A [(a0, .inr (2, [.ref a1, .int v1, .int v2])), (a1, .inl (cT 2, 4096, .inr (.inl f0))), (a2, .inr (3, [.ref a3, .ref a4, .ref p5, .ref p7, .int w2])), (a3, .inl (cT 1, 2048, .inl w0)), (a4, .inl (cT 1, 2048, .inl f4)), (p5, .inl (cT 1, 2048, .inl w1)), (p7, .inl (cT 1, 2048, .inl f8)), (a7, .inr (2, [.ref a8, .int w4, .int w5])), (a8, .inl (cT 2, 4096, .inr (.inl w3)))] H := ⟨hP, hD⟩
    have hl : lv_has ls 5 [(4, .int y4), (3, .int y3), (0, .ref a0), (1, .ref a2), (2, .ref a7)] := hl
    refine W.eq (g2 := F0 m 20 ls []) rfl ?_
    refine lv_iload hx hb dG_putReversedArray_20 (lv_at hl 0 rfl) ?_
    refine lv_if_lt (tgt := 42) hx hb dG_putReversedArray_22 (by decide) (fun hc => ?_) (fun hc => ?_)
    · rw [if_pos hc] at hf
      refine lv_aload_n hx hb dG_putReversedArray_42 rfl (lv_at hl 4 rfl) ?_
      refine lv_iload_n hx hb dG_putReversedArray_43 rfl (lv_at hl 1 rfl) ?_
      refine lv_iconst (v := 5) hx hb dG_putReversedArray_44 (by decide) ?_
      refine lv_aload_n hx hb dG_putReversedArray_45 rfl (lv_at hl 2 rfl) ?_
      refine lv_iconst (v := 0) hx hb dG_putReversedArray_46 (by decide) ?_
      obtain ⟨o1, hq2, hf⟩ := xbind hf
      obtain ⟨hPc, hDc, hFc⟩ := xcut (wc := [(a0, .inr (2, [.ref a1, .int v1, .int v2])), (a1, .inl (cT 2, 4096, .inr (.inl f0)))]) hP hD hS hA [0, 1] rfl rfl (by decide)
      refine va_calli (va_runV (C := "ValueBench$Row") (As := [.int 0]) (rest := [.int 5, .int y3, .ref a7]) ⟨hx, hb, hml, hown, htx⟩ (gR_length l hl9 D cT aK aV H.size n a0 a1 (0 : Int32) f0 v1 v2 o1 hq2) ⟨callB_of 1 htx (xw_goodC kw_2_191) rfl rfl rfl (htx _ kw_1_4) (htx _ kw_4_42) ⟨by decide, by decide, by decide +kernel⟩ ⟨Nat.le_of_ble_eq_true rfl, Nat.le_of_ble_eq_true rfl⟩, (htx _ kw_2_189), (htx _ kw_2_190)⟩ ⟨xPre_blind, va_recv hK hP (ci := 2) rfl (q0 := 0) rfl, (fun U hU hW => ⟨rfl, xPre_of hZ hS hFc hPc hDc hK U hU hW⟩)⟩ rfl rfl hl.1 rfl (lv_room (Nat.le_of_ble_eq_true rfl)) dG_putReversedArray_47 ⟨Nat.le_of_ble_eq_true rfl, Nat.le_of_ble_eq_true rfl⟩) hS (fun q _ h => hFc q h) hFc (fun r3 u9 t H1 locs ht hvm hr9 hB hz1 hk1 hS => ?_)
      obtain ⟨hP1, hK1, hD1⟩ := hB
      rw [ht] at hP1
      obtain ⟨hP, hD⟩ := xjoin (W := [(a2, .inr (3, [.ref a3, .ref a4, .ref p5, .ref p7, .int w2])), (a3, .inl (cT 1, 2048, .inl w0)), (a4, .inl (cT 1, 2048, .inl f4)), (p5, .inl (cT 1, 2048, .inl w1)), (p7, .inl (cT 1, 2048, .inl f8)), (a7, .inr (2, [.ref a8, .int w4, .int w5])), (a8, .inl (cT 2, 4096, .inr (.inl w3))), (a0, .inr (2, [.ref a1, .int v1, .int v2])), (a1, .inl (cT 2, 4096, .inr (.inl f0)))]) hP hD [0, 1] [2, 3, 4, 5, 6, 7, 8] 7 rfl rfl (by decide) (by decide) hk1 hFc hP1 hD1
      generalize H1 = H at hP hS ⊢
      rw [hr9]
      refine W.eq (g2 := F0 m 50 ls [.int o1, .int 5, .int y3, .ref a7]) rfl ?_
      obtain ⟨o4, hq5, hf⟩ := xbind hf
      obtain ⟨hPc, hDc, hFc⟩ := xcut (wc := [(a7, .inr (2, [.ref a8, .int w4, .int w5])), (a8, .inl (cT 2, 4096, .inr (.inl w3)))]) hP hD hS hA [5, 6] rfl rfl (by decide)
      refine va_callv (va_runV (C := "ValueBench$Row") (As := [.int y3, .int 5, .int o1]) (rest := []) ⟨hx, hb, hml, hown, htx⟩ (gR_close l hl9 D cT aK aV H.size n a7 a8 y3 (5 : Int32) o1 w3 w4 w5 o4 hq5) ⟨callB_of 3 htx (xw_goodC kw_2_167) rfl rfl rfl (htx _ kw_1_4) (htx _ kw_4_70) ⟨by decide, by decide, by decide +kernel⟩ ⟨Nat.le_of_ble_eq_true rfl, Nat.le_of_ble_eq_true rfl⟩, (htx _ kw_2_165), (htx _ kw_2_166)⟩ ⟨xPre_blind, va_recv hK hP (ci := 2) rfl (q0 := 5) rfl, (fun U hU hW => ⟨rfl, xPre_of hZ hS hFc hPc hDc hK U hU hW⟩)⟩ rfl rfl hl.1 rfl (lv_room (Nat.le_of_ble_eq_true rfl)) dG_putReversedArray_50 ⟨Nat.le_of_ble_eq_true rfl, Nat.le_of_ble_eq_true rfl⟩) hS (fun q _ h => hFc q h) hFc (fun u9 t H1 locs ht hvm hr9 hB hz1 hk1 hS => ?_)
      obtain ⟨hP1, hK1, hD1⟩ := hB
      rw [ht] at hP1
      obtain ⟨hP, hD⟩ := xjoin (W := [(a2, .inr (3, [.ref a3, .ref a4, .ref p5, .ref p7, .int w2])), (a3, .inl (cT 1, 2048, .inl w0)), (a4, .inl (cT 1, 2048, .inl f4)), (p5, .inl (cT 1, 2048, .inl w1)), (p7, .inl (cT 1, 2048, .inl f8)), (a0, .inr (2, [.ref a1, .int v1, .int v2])), (a1, .inl (cT 2, 4096, .inr (.inl f0))), (a7, .inr (2, [.ref a8, .int w4, .int w5])), (a8, .inl (cT 2, 4096, .inr (.inl o4)))]) hP hD [5, 6] [0, 1, 2, 3, 4, 7, 8] 7 rfl rfl (by decide) (by decide) hk1 hFc hP1 hD1
      generalize H1 = H at hP hS ⊢
      obtain rfl := Option.some.inj hf
      obtain ⟨hP9, hD9⟩ := xsub (wc := [(a0, .inr (2, [.ref a1, .int v1, .int v2])), (a1, .inl (cT 2, 4096, .inr (.inl f0))), (a2, .inr (3, [.ref a3, .ref a4, .ref p5, .ref p7, .int w2])), (a3, .inl (cT 1, 2048, .inl w0)), (a4, .inl (cT 1, 2048, .inl f4)), (p5, .inl (cT 1, 2048, .inl w1)), (p7, .inl (cT 1, 2048, .inl f8)), (a7, .inr (2, [.ref a8, .int w4, .int w5])), (a8, .inl (cT 2, 4096, .inr (.inl o4)))]) hP hD [5, 6, 0, 1, 2, 3, 4, 7, 8] rfl rfl (by decide)
      exact W.vret hx hb hr (fun t ht hW => ⟨⟨(), rfl, trivial, by rw [ht]; exact hP9, va_K.moved hW.alike hK, hD9⟩, hS.F ht⟩) hS.2.2 dG_putReversedArray_53
    · rw [if_neg hc] at hf
      refine lv_aload_n hx hb dG_putReversedArray_25 rfl (lv_at hl 4 rfl) ?_
      refine lv_aload_n hx hb dG_putReversedArray_26 rfl (lv_at hl 2 rfl) ?_
      refine lv_aload_n hx hb dG_putReversedArray_27 rfl (lv_at hl 3 rfl) ?_
      refine lv_iload hx hb dG_putReversedArray_28 (lv_at hl 0 rfl) ?_
      obtain ⟨o1, hq2, hf⟩ := xbind hf
      obtain ⟨hPc, hDc, hFc⟩ := xcut (wc := [(a2, .inr (3, [.ref a3, .ref a4, .ref p5, .ref p7, .int w2])), (a3, .inl (cT 1, 2048, .inl w0)), (a4, .inl (cT 1, 2048, .inl f4)), (p5, .inl (cT 1, 2048, .inl w1)), (p7, .inl (cT 1, 2048, .inl f8))]) hP hD hS hA [2, 3, 4, 5, 6] rfl rfl (by decide)
      refine va_calli (va_runV (C := "ValueBench$Sorter") (As := [.int y4]) (rest := [.ref a0, .ref a7]) ⟨hx, hb, hml, hown, htx⟩ (gS_keyAtTurn l hl9 D cT aK aV H.size n a2 a3 a4 y4 w0 f4 p5 w1 p7 f8 w2 o1 hq2) ⟨callB_of 1 htx (xw_goodC kw_4_66) rfl rfl rfl (htx _ kw_1_3) (htx _ kw_4_68) ⟨by decide, by decide, by decide +kernel⟩ ⟨Nat.le_of_ble_eq_true rfl, Nat.le_of_ble_eq_true rfl⟩, (htx _ kw_4_64), (htx _ kw_4_65)⟩ ⟨xPre_blind, va_recv hK hP (ci := 3) rfl (q0 := 2) rfl, (fun U hU hW => ⟨rfl, xPre_of hZ hS hFc hPc hDc hK U hU hW⟩)⟩ rfl rfl hl.1 rfl (lv_room (Nat.le_of_ble_eq_true rfl)) dG_putReversedArray_30 ⟨Nat.le_of_ble_eq_true rfl, Nat.le_of_ble_eq_true rfl⟩) hS (fun q _ h => hFc q h) hFc (fun r3 u9 t H1 locs ht hvm hr9 hB hz1 hk1 hS => ?_)
      obtain ⟨hP1, hK1, hD1⟩ := hB
      rw [ht] at hP1
      obtain ⟨hP, hD⟩ := xjoin (W := [(a0, .inr (2, [.ref a1, .int v1, .int v2])), (a1, .inl (cT 2, 4096, .inr (.inl f0))), (a7, .inr (2, [.ref a8, .int w4, .int w5])), (a8, .inl (cT 2, 4096, .inr (.inl w3))), (a2, .inr (3, [.ref a3, .ref a4, .ref p5, .ref p7, .int w2])), (a3, .inl (cT 1, 2048, .inl w0)), (a4, .inl (cT 1, 2048, .inl f4)), (p5, .inl (cT 1, 2048, .inl w1)), (p7, .inl (cT 1, 2048, .inl f8))]) hP hD [2, 3, 4, 5, 6] [0, 1, 7, 8] 4 rfl rfl (by decide) (by decide) hk1 hFc hP1 hD1
      generalize H1 = H at hP hS ⊢
      rw [hr9]
      refine W.eq (g2 := F0 m 33 ls [.int o1, .ref a0, .ref a7]) rfl ?_
      obtain ⟨o4, hq5, hf⟩ := xbind hf
      obtain ⟨hPc, hDc, hFc⟩ := xcut (wc := [(a7, .inr (2, [.ref a8, .int w4, .int w5])), (a8, .inl (cT 2, 4096, .inr (.inl w3))), (a0, .inr (2, [.ref a1, .int v1, .int v2])), (a1, .inl (cT 2, 4096, .inr (.inl f0)))]) hP hD hS hA [2, 3, 0, 1] rfl rfl (by decide)
      refine va_callv (va_runV (C := "ValueBench$Row") (As := [.ref a0, .int o1]) (rest := []) ⟨hx, hb, hml, hown, htx⟩ (gR_putCopy l hl9 D cT aK aV H.size n a7 a8 a0 a1 o1 w3 w4 w5 f0 v1 v2 o4 hq5) ⟨callB_of 2 htx (xw_goodC kw_3_126) rfl rfl rfl (htx _ kw_1_4) (htx _ kw_4_69) ⟨by decide, by decide, by decide +kernel⟩ ⟨Nat.le_of_ble_eq_true rfl, Nat.le_of_ble_eq_true rfl⟩, (htx _ kw_3_124), (htx _ kw_3_125)⟩ ⟨xPre_blind, va_recv hK hP (ci := 2) rfl (q0 := 2) rfl, (fun U hU hW => ⟨rfl, xPre_of hZ hS hFc hPc hDc hK U hU hW⟩)⟩ rfl rfl hl.1 rfl (lv_room (Nat.le_of_ble_eq_true rfl)) dG_putReversedArray_33 ⟨Nat.le_of_ble_eq_true rfl, Nat.le_of_ble_eq_true rfl⟩) hS (fun q _ h => hFc q h) hFc (fun u9 t H1 locs ht hvm hr9 hB hz1 hk1 hS => ?_)
      obtain ⟨hP1, hK1, hD1⟩ := hB
      rw [ht] at hP1
      obtain ⟨hP, hD⟩ := xjoin (W := [(a2, .inr (3, [.ref a3, .ref a4, .ref p5, .ref p7, .int w2])), (a3, .inl (cT 1, 2048, .inl w0)), (a4, .inl (cT 1, 2048, .inl f4)), (p5, .inl (cT 1, 2048, .inl w1)), (p7, .inl (cT 1, 2048, .inl f8)), (a7, .inr (2, [.ref a8, .int o4.2.1, .int o4.2.2])), (a8, .inl (cT 2, 4096, .inr (.inl o4.1))), (a0, .inr (2, [.ref a1, .int v1, .int v2])), (a1, .inl (cT 2, 4096, .inr (.inl f0)))]) hP hD [2, 3, 0, 1] [4, 5, 6, 7, 8] 5 rfl rfl (by decide) (by decide) hk1 hFc hP1 hD1
      generalize H1 = H at hP hS ⊢
      refine lv_iinc (v := (y4 + (-1))) (lv' := [(4, .int (y4 + (-1))), (3, .int y3), (0, .ref a0), (1, .ref a2), (2, .ref a7)]) hx hb dG_putReversedArray_36 hl (k := 0) rfl rfl (by decide) rfl (fun ls hl => ?_)
      refine lv_goto (tgt := 20) hx hb dG_putReversedArray_39 (by decide) ?_
      obtain ⟨hP9, hD9⟩ := xsub (wc := [(a0, .inr (2, [.ref a1, .int v1, .int v2])), (a1, .inl (cT 2, 4096, .inr (.inl f0))), (a2, .inr (3, [.ref a3, .ref a4, .ref p5, .ref p7, .int w2])), (a3, .inl (cT 1, 2048, .inl w0)), (a4, .inl (cT 1, 2048, .inl f4)), (p5, .inl (cT 1, 2048, .inl w1)), (p7, .inl (cT 1, 2048, .inl f8)), (a7, .inr (2, [.ref a8, .int o4.2.1, .int o4.2.2])), (a8, .inl (cT 2, 4096, .inr (.inl o4.1)))]) hP hD [7, 8, 0, 1, 2, 3, 4, 5, 6] rfl rfl (by decide)
      exact ih (1, (y4 + (-1)), y3, w0, w1, w2, o4.1, o4.2.1, o4.2.2) _ _ ls (⟨rfl, hf, hP9, hD9, hS, lv_sub hl [0, 1, 2, 3, 4] rfl⟩)
  refine lv_aload_n hx hb dG_putReversedArray_0 rfl (lv_at hl 2 rfl) ?_
  obtain ⟨o1, hq2, hf⟩ := xbind hf
  obtain ⟨hPc, hDc, hFc⟩ := xcut (wc := [(a7, .inr (2, [.ref a8, .int v11, .int v12])), (a8, .inl (cT 2, 4096, .inr (.inl f10)))]) hP hD hS hA [7, 8] rfl rfl (by decide)
  refine va_calli (va_runV (C := "ValueBench$Row") (As := []) (rest := []) ⟨hx, hb, hml, hown, htx⟩ (gR_open l hl9 D cT aK aV s.heap.size n a7 a8 f10 v11 v12 o1 hq2) ⟨callB_of 0 htx (xw_goodC kw_2_136) rfl rfl rfl (htx _ kw_1_4) (htx _ kw_4_46) ⟨by decide, by decide, by decide +kernel⟩ ⟨Nat.le_of_ble_eq_true rfl, Nat.le_of_ble_eq_true rfl⟩, (htx _ kw_2_134), (htx _ kw_2_135)⟩ ⟨xPre_blind, va_recv hK hP (ci := 2) rfl (q0 := 7) rfl, (fun U hU hW => ⟨rfl, xPre_of hZ hS hFc hPc hDc hK U hU hW⟩)⟩ rfl rfl hl.1 rfl (lv_room (Nat.le_of_ble_eq_true rfl)) dG_putReversedArray_1 ⟨Nat.le_of_ble_eq_true rfl, Nat.le_of_ble_eq_true rfl⟩) hS (fun q _ h => hFc q h) hFc (fun r3 u9 t H1 locs ht hvm hr9 hB hz1 hk1 hS => ?_)
  obtain ⟨hP1, hK1, hD1⟩ := hB
  rw [ht] at hP1
  obtain ⟨hP, hD⟩ := xjoin (W := [(a0, .inr (2, [.ref a1, .int v1, .int v2])), (a1, .inl (cT 2, 4096, .inr (.inl f0))), (a2, .inr (3, [.ref a3, .ref a4, .ref p5, .ref p7, .int v9])), (a3, .inl (cT 1, 2048, .inl f3)), (a4, .inl (cT 1, 2048, .inl f4)), (p5, .inl (cT 1, 2048, .inl f6)), (p7, .inl (cT 1, 2048, .inl f8)), (a7, .inr (2, [.ref a8, .int o1.2.2.1, .int o1.2.2.2])), (a8, .inl (cT 2, 4096, .inr (.inl o1.2.1)))]) hP hD [7, 8] [0, 1, 2, 3, 4, 5, 6] 7 rfl rfl (by decide) (by decide) hk1 hFc hP1 hD1
  generalize H1 = H at hP hS ⊢
  rw [hr9]
  refine W.eq (g2 := F0 m 4 ls [.int o1.1]) rfl ?_
  refine lv_istore_n (lv' := [(3, .int o1.1), (0, .ref a0), (1, .ref a2), (2, .ref a7)]) hx hb dG_putReversedArray_4 rfl hl (by decide) rfl (fun ls hl => ?_)
  refine lv_aload_n hx hb dG_putReversedArray_5 rfl (lv_at hl 2 rfl) ?_
  refine lv_aload_n hx hb dG_putReversedArray_6 rfl (lv_at hl 1 rfl) ?_
  refine lv_iconst (v := 0) hx hb dG_putReversedArray_7 (by decide) ?_
  obtain ⟨o4, hq5, hf⟩ := xbind hf
  obtain ⟨hPc, hDc, hFc⟩ := xcut (wc := [(a2, .inr (3, [.ref a3, .ref a4, .ref p5, .ref p7, .int v9])), (a3, .inl (cT 1, 2048, .inl f3)), (a4, .inl (cT 1, 2048, .inl f4)), (p5, .inl (cT 1, 2048, .inl f6)), (p7, .inl (cT 1, 2048, .inl f8)), (a0, .inr (2, [.ref a1, .int v1, .int v2])), (a1, .inl (cT 2, 4096, .inr (.inl f0)))]) hP hD hS hA [2, 3, 4, 5, 6, 0, 1] rfl rfl (by decide)
  refine va_callv (va_runV (C := "ValueBench$Sorter") (As := [.ref a0, .int 0]) (rest := []) ⟨hx, hb, hml, hown, htx⟩ (gS_gather l hl9 D cT aK aV H.size n a2 a3 a4 a0 a1 (0 : Int32) f3 f4 p5 f6 p7 f8 v9 f0 v1 v2 o4 hq5) ⟨callB_of 2 htx (xw_goodC kw_4_54) rfl rfl rfl (htx _ kw_1_3) (htx _ kw_4_123) ⟨by decide, by decide, by decide +kernel⟩ ⟨Nat.le_of_ble_eq_true rfl, Nat.le_of_ble_eq_true rfl⟩, (htx _ kw_4_52), (htx _ kw_4_53)⟩ ⟨xPre_blind, va_recv hK hP (ci := 3) rfl (q0 := 2) rfl, (fun U hU hW => ⟨rfl, xPre_of hZ hS hFc hPc hDc hK U hU hW⟩)⟩ rfl rfl hl.1 rfl (lv_room (Nat.le_of_ble_eq_true rfl)) dG_putReversedArray_8 ⟨Nat.le_of_ble_eq_true rfl, Nat.le_of_ble_eq_true rfl⟩) hS (fun q _ h => hFc q h) hFc (fun u9 t H1 locs ht hvm hr9 hB hz1 hk1 hS => ?_)
  obtain ⟨hP1, hK1, hD1⟩ := hB
  rw [ht] at hP1
  obtain ⟨hP, hD⟩ := xjoin (W := [(a7, .inr (2, [.ref a8, .int o1.2.2.1, .int o1.2.2.2])), (a8, .inl (cT 2, 4096, .inr (.inl o1.2.1))), (a2, .inr (3, [.ref a3, .ref a4, .ref p5, .ref p7, .int o4.2.2])), (a3, .inl (cT 1, 2048, .inl o4.1)), (a4, .inl (cT 1, 2048, .inl f4)), (p5, .inl (cT 1, 2048, .inl o4.2.1)), (p7, .inl (cT 1, 2048, .inl f8)), (a0, .inr (2, [.ref a1, .int v1, .int v2])), (a1, .inl (cT 2, 4096, .inr (.inl f0)))]) hP hD [2, 3, 4, 5, 6, 0, 1] [7, 8] 2 rfl rfl (by decide) (by decide) hk1 hFc hP1 hD1
  generalize H1 = H at hP hS ⊢
  refine lv_aload_n hx hb dG_putReversedArray_11 rfl (lv_at hl 1 rfl) ?_
  refine lv_iconst (v := 0) hx hb dG_putReversedArray_12 (by decide) ?_
  obtain ⟨o6, hq7, hf⟩ := xbind hf
  obtain ⟨hPc, hDc, hFc⟩ := xcut (wc := [(a0, .inr (2, [.ref a1, .int v1, .int v2])), (a1, .inl (cT 2, 4096, .inr (.inl f0)))]) hP hD hS hA [7, 8] rfl rfl (by decide)
  refine va_calli (va_runV (C := "ValueBench$Row") (As := [.int 0]) (rest := []) ⟨hx, hb, hml, hown, htx⟩ (gR_length l hl9 D cT aK aV H.size n a0 a1 (0 : Int32) f0 v1 v2 o6 hq7) ⟨callB_of 1 htx (xw_goodC kw_2_191) rfl rfl rfl (htx _ kw_1_4) (htx _ kw_4_42) ⟨by decide, by decide, by decide +kernel⟩ ⟨Nat.le_of_ble_eq_true rfl, Nat.le_of_ble_eq_true rfl⟩, (htx _ kw_2_189), (htx _ kw_2_190)⟩ ⟨xPre_blind, va_recv hK hP (ci := 2) rfl (q0 := 7) rfl, (fun U hU hW => ⟨rfl, xPre_of hZ hS hFc hPc hDc hK U hU hW⟩)⟩ rfl rfl hl.1 rfl (lv_room (Nat.le_of_ble_eq_true rfl)) dG_putReversedArray_13 ⟨Nat.le_of_ble_eq_true rfl, Nat.le_of_ble_eq_true rfl⟩) hS (fun q _ h => hFc q h) hFc (fun r8 u9 t H1 locs ht hvm hr9 hB hz1 hk1 hS => ?_)
  obtain ⟨hP1, hK1, hD1⟩ := hB
  rw [ht] at hP1
  obtain ⟨hP, hD⟩ := xjoin (W := [(a7, .inr (2, [.ref a8, .int o1.2.2.1, .int o1.2.2.2])), (a8, .inl (cT 2, 4096, .inr (.inl o1.2.1))), (a2, .inr (3, [.ref a3, .ref a4, .ref p5, .ref p7, .int o4.2.2])), (a3, .inl (cT 1, 2048, .inl o4.1)), (a4, .inl (cT 1, 2048, .inl f4)), (p5, .inl (cT 1, 2048, .inl o4.2.1)), (p7, .inl (cT 1, 2048, .inl f8)), (a0, .inr (2, [.ref a1, .int v1, .int v2])), (a1, .inl (cT 2, 4096, .inr (.inl f0)))]) hP hD [7, 8] [0, 1, 2, 3, 4, 5, 6] 7 rfl rfl (by decide) (by decide) hk1 hFc hP1 hD1
  generalize H1 = H at hP hS ⊢
  rw [hr9]
  refine W.eq (g2 := F0 m 16 ls [.int o6]) rfl ?_
  refine lv_iconst (v := 1) hx hb dG_putReversedArray_16 (by decide) ?_
  refine lv_isub hx hb dG_putReversedArray_17 ?_
  refine lv_istore (lv' := [(4, .int (o6 - (1 : Int32))), (3, .int o1.1), (0, .ref a0), (1, .ref a2), (2, .ref a7)]) hx hb dG_putReversedArray_18 hl (by decide) rfl (fun ls hl => ?_)
  obtain ⟨hP9, hD9⟩ := xsub (wc := [(a0, .inr (2, [.ref a1, .int v1, .int v2])), (a1, .inl (cT 2, 4096, .inr (.inl f0))), (a2, .inr (3, [.ref a3, .ref a4, .ref p5, .ref p7, .int o4.2.2])), (a3, .inl (cT 1, 2048, .inl o4.1)), (a4, .inl (cT 1, 2048, .inl f4)), (p5, .inl (cT 1, 2048, .inl o4.2.1)), (p7, .inl (cT 1, 2048, .inl f8)), (a7, .inr (2, [.ref a8, .int o1.2.2.1, .int o1.2.2.2])), (a8, .inl (cT 2, 4096, .inr (.inl o1.2.1)))]) hP hD [7, 8, 2, 3, 4, 5, 6, 0, 1] rfl rfl (by decide)
  exact key n (1, (o6 - (1 : Int32)), o1.1, o4.1, o4.2.1, o4.2.2, o1.2.1, o1.2.2.1, o1.2.2.2) _ _ ls (⟨rfl, hf, hP9, hD9, hS, lv_sub hl [0, 1, 2, 3, 4] rfl⟩)
set_option maxHeartbeats 400000000 in
set_option maxRecDepth 100000 in
theorem gG_reversed (l : Launch) (hl9 : l.stackTraces = false) (D : va_G) (cT : Nat → ClassId) (aK aV : Nat → Nat) (sz n : Nat) (a0 : Nat) (a1 : Nat) (a2 : Nat) (a3 : Nat) (a4 : Nat) (a7 : Nat) (a8 : Nat) (f0 : Nat → Int64) (v1 : Int32) (v2 : Int32) (f3 : Nat → Int32) (f4 : Nat → Int32) (p5 : Nat) (f6 : Nat → Int32) (p7 : Nat) (f8 : Nat → Int32) (v9 : Int32) (f10 : Nat → Int64) (v11 : Int32) (v12 : Int32) (out : Int32 × (Nat → Int32) × (Nat → Int32) × Int32 × (Nat → Int64) × Int32 × Int32) (hf : fG_reversed n f0 v1 v2 f3 f4 p5 f6 p7 f8 v9 f10 v11 v12 = some out) : xMet l yG_reversed wyG_reversed 4 0 0 129 D cT aK aV sz [.ref a0, .ref a2, .ref a7] [(a0, .inr (2, [.ref a1, .int v1, .int v2])), (a1, .inl (cT 2, 4096, .inr (.inl f0))), (a2, .inr (3, [.ref a3, .ref a4, .ref p5, .ref p7, .int v9])), (a3, .inl (cT 1, 2048, .inl f3)), (a4, .inl (cT 1, 2048, .inl f4)), (p5, .inl (cT 1, 2048, .inl f6)), (p7, .inl (cT 1, 2048, .inl f8)), (a7, .inr (2, [.ref a8, .int v11, .int v12])), (a8, .inl (cT 2, 4096, .inr (.inl f10)))] (fun A => va_Qi (fun (r : Int32) (_ : Unit) => r = out.1) (fun _ t => xB D xcl cT A [(a0, .inr (2, [.ref a1, .int v1, .int v2])), (a1, .inl (cT 2, 4096, .inr (.inl f0))), (a2, .inr (3, [.ref a3, .ref a4, .ref p5, .ref p7, .int out.2.2.2.1])), (a3, .inl (cT 1, 2048, .inl out.2.1)), (a4, .inl (cT 1, 2048, .inl f4)), (p5, .inl (cT 1, 2048, .inl out.2.2.1)), (p7, .inl (cT 1, 2048, .inl f8)), (a7, .inr (2, [.ref a8, .int out.2.2.2.2.2.1, .int out.2.2.2.2.2.2])), (a8, .inl (cT 2, 4096, .inr (.inl out.2.2.2.2.1)))] t) A) := by
  refine Met.ofW (cc := prog_9_method_11_code) (maxL := 3) (ret := (some .int)) (by decide) rfl ?_
  intro p e s m args below meth c s₁ B hml hv
  obtain ⟨rfl, hsz, hZ, hP, hK, hD0⟩ := hv
  have hx := B.exec
  have hb := B.bytes
  have hr := B.returns
  have hts := atoms_spec (ws := wyG_reversed) B.pre
  have htx := fun w h => hts w (List.mem_cons_of_mem _ h)
  have hown : s.vm.findClass "ValueBench$Singles" = some m.cls := findClass_of_methodNamed B.named
  have hlocks := B.notSynchronized
  subst hsz
  have hD := hD0.self (sz := s.heap.size)
  generalize hAe : va_A [(a0, .inr (2, [.ref a1, .int v1, .int v2])), (a1, .inl (cT 2, 4096, .inr (.inl f0))), (a2, .inr (3, [.ref a3, .ref a4, .ref p5, .ref p7, .int v9])), (a3, .inl (cT 1, 2048, .inl f3)), (a4, .inl (cT 1, 2048, .inl f4)), (p5, .inl (cT 1, 2048, .inl f6)), (p7, .inl (cT 1, 2048, .inl f8)), (a7, .inr (2, [.ref a8, .int v11, .int v12])), (a8, .inl (cT 2, 4096, .inr (.inl f10)))] s.heap.size = A at hD hZ ⊢
  have hA : ∀ q : Nat, s.heap.size ≤ q → A q := fun q h => by rw [← hAe]; exact Or.inr h
  have hS : va_S A s.heap s.heap [] := va_S.rf
  have hP : va_P D xcl [(a0, .inr (2, [.ref a1, .int v1, .int v2])), (a1, .inl (cT 2, 4096, .inr (.inl f0))), (a2, .inr (3, [.ref a3, .ref a4, .ref p5, .ref p7, .int v9])), (a3, .inl (cT 1, 2048, .inl f3)), (a4, .inl (cT 1, 2048, .inl f4)), (p5, .inl (cT 1, 2048, .inl f6)), (p7, .inl (cT 1, 2048, .inl f8)), (a7, .inr (2, [.ref a8, .int v11, .int v12])), (a8, .inl (cT 2, 4096, .inr (.inl f10)))] s.heap := hP
  have hl := lv_entry ([.ref a0, .ref a2, .ref a7]) (n := 3) (Nat.le_of_ble_eq_true rfl)
  rw [lg_entry_eq]
  generalize (lg_sl ([.ref a0, .ref a2, .ref a7]) ++ List.replicate (3 - (lg_sl ([.ref a0, .ref a2, .ref a7])).length) Slot.unset).toArray = ls at hl ⊢
  have hl : lv_has ls 3 [(0, .ref a0), (1, .ref a2), (2, .ref a7)] := hl
  unfold fG_reversed at hf
  refine lv_aload_n hx hb dG_reversed_0 rfl (lv_at hl 0 rfl) ?_
  refine lv_iconst (v := 0) hx hb dG_reversed_1 (by decide) ?_
  obtain ⟨o1, hq2, hf⟩ := xbind hf
  obtain ⟨hPc, hDc, hFc⟩ := xcut (wc := [(a0, .inr (2, [.ref a1, .int v1, .int v2])), (a1, .inl (cT 2, 4096, .inr (.inl f0)))]) hP hD hS hA [0, 1] rfl rfl (by decide)
  refine va_calli (va_runV (C := "ValueBench$Row") (As := [.int 0]) (rest := []) ⟨hx, hb, hml, hown, htx⟩ (gR_kind l hl9 D cT aK aV s.heap.size n a0 a1 (0 : Int32) f0 v1 v2 o1 hq2) ⟨callB_of 1 htx (xw_goodC kw_3_24) rfl rfl rfl (htx _ kw_1_4) (htx _ kw_4_38) ⟨by decide, by decide, by decide +kernel⟩ ⟨Nat.le_of_ble_eq_true rfl, Nat.le_of_ble_eq_true rfl⟩, (htx _ kw_3_22), (htx _ kw_3_23)⟩ ⟨xPre_blind, va_recv hK hP (ci := 2) rfl (q0 := 0) rfl, (fun U hU hW => ⟨rfl, xPre_of hZ hS hFc hPc hDc hK U hU hW⟩)⟩ rfl rfl hl.1 rfl (lv_room (Nat.le_of_ble_eq_true rfl)) dG_reversed_2 ⟨Nat.le_of_ble_eq_true rfl, Nat.le_of_ble_eq_true rfl⟩) hS (fun q _ h => hFc q h) hFc (fun r3 u9 t H1 locs ht hvm hr9 hB hz1 hk1 hS => ?_)
  obtain ⟨hP1, hK1, hD1⟩ := hB
  rw [ht] at hP1
  obtain ⟨hP, hD⟩ := xjoin (W := [(a2, .inr (3, [.ref a3, .ref a4, .ref p5, .ref p7, .int v9])), (a3, .inl (cT 1, 2048, .inl f3)), (a4, .inl (cT 1, 2048, .inl f4)), (p5, .inl (cT 1, 2048, .inl f6)), (p7, .inl (cT 1, 2048, .inl f8)), (a7, .inr (2, [.ref a8, .int v11, .int v12])), (a8, .inl (cT 2, 4096, .inr (.inl f10))), (a0, .inr (2, [.ref a1, .int v1, .int v2])), (a1, .inl (cT 2, 4096, .inr (.inl f0)))]) hP hD [0, 1] [2, 3, 4, 5, 6, 7, 8] 7 rfl rfl (by decide) (by decide) hk1 hFc hP1 hD1
  generalize H1 = H at hP hS ⊢
  rw [hr9]
  refine W.eq (g2 := F0 m 5 ls [.int o1]) rfl ?_
  by_cases hc4 : o1 = 0
  · rw [if_pos hc4] at hf
    refine lv_lookup (off := 35) (tgt := 40) hx hb dG_reversed_5 (by decide) (by rw [hc4]; decide) (by decide) ?_
    refine lv_aload_n hx hb dG_reversed_40 rfl (lv_at hl 2 rfl) ?_
    refine lv_aload_n hx hb dG_reversed_41 rfl (lv_at hl 2 rfl) ?_
    obtain ⟨o5, hq6, hf⟩ := xbind hf
    obtain ⟨hPc, hDc, hFc⟩ := xcut (wc := [(a7, .inr (2, [.ref a8, .int v11, .int v12])), (a8, .inl (cT 2, 4096, .inr (.inl f10)))]) hP hD hS hA [5, 6] rfl rfl (by decide)
    refine va_calli (va_runV (C := "ValueBench$Row") (As := []) (rest := [.ref a7]) ⟨hx, hb, hml, hown, htx⟩ (gR_open l hl9 D cT aK aV H.size n a7 a8 f10 v11 v12 o5 hq6) ⟨callB_of 0 htx (xw_goodC kw_2_136) rfl rfl rfl (htx _ kw_1_4) (htx _ kw_4_46) ⟨by decide, by decide, by decide +kernel⟩ ⟨Nat.le_of_ble_eq_true rfl, Nat.le_of_ble_eq_true rfl⟩, (htx _ kw_2_134), (htx _ kw_2_135)⟩ ⟨xPre_blind, va_recv hK hP (ci := 2) rfl (q0 := 5) rfl, (fun U hU hW => ⟨rfl, xPre_of hZ hS hFc hPc hDc hK U hU hW⟩)⟩ rfl rfl hl.1 rfl (lv_room (Nat.le_of_ble_eq_true rfl)) dG_reversed_42 ⟨Nat.le_of_ble_eq_true rfl, Nat.le_of_ble_eq_true rfl⟩) hS (fun q _ h => hFc q h) hFc (fun r7 u9 t H1 locs ht hvm hr9 hB hz1 hk1 hS => ?_)
    obtain ⟨hP1, hK1, hD1⟩ := hB
    rw [ht] at hP1
    obtain ⟨hP, hD⟩ := xjoin (W := [(a2, .inr (3, [.ref a3, .ref a4, .ref p5, .ref p7, .int v9])), (a3, .inl (cT 1, 2048, .inl f3)), (a4, .inl (cT 1, 2048, .inl f4)), (p5, .inl (cT 1, 2048, .inl f6)), (p7, .inl (cT 1, 2048, .inl f8)), (a0, .inr (2, [.ref a1, .int v1, .int v2])), (a1, .inl (cT 2, 4096, .inr (.inl f0))), (a7, .inr (2, [.ref a8, .int o5.2.2.1, .int o5.2.2.2])), (a8, .inl (cT 2, 4096, .inr (.inl o5.2.1)))]) hP hD [5, 6] [0, 1, 2, 3, 4, 7, 8] 7 rfl rfl (by decide) (by decide) hk1 hFc hP1 hD1
    generalize H1 = H at hP hS ⊢
    rw [hr9]
    refine W.eq (g2 := F0 m 45 ls [.int o5.1, .ref a7]) rfl ?_
    refine lv_iconst (v := 5) hx hb dG_reversed_45 (by decide) ?_
    refine lv_iconst (v := 0) hx hb dG_reversed_46 (by decide) ?_
    obtain ⟨o8, hq9, hf⟩ := xbind hf
    obtain ⟨hPc, hDc, hFc⟩ := xcut (wc := [(a7, .inr (2, [.ref a8, .int o5.2.2.1, .int o5.2.2.2])), (a8, .inl (cT 2, 4096, .inr (.inl o5.2.1)))]) hP hD hS hA [7, 8] rfl rfl (by decide)
    refine va_callv (va_runV (C := "ValueBench$Row") (As := [.int o5.1, .int 5, .int 0]) (rest := []) ⟨hx, hb, hml, hown, htx⟩ (gR_close l hl9 D cT aK aV H.size n a7 a8 o5.1 (5 : Int32) (0 : Int32) o5.2.1 o5.2.2.1 o5.2.2.2 o8 hq9) ⟨callB_of 3 htx (xw_goodC kw_2_167) rfl rfl rfl (htx _ kw_1_4) (htx _ kw_4_70) ⟨by decide, by decide, by decide +kernel⟩ ⟨Nat.le_of_ble_eq_true rfl, Nat.le_of_ble_eq_true rfl⟩, (htx _ kw_2_165), (htx _ kw_2_166)⟩ ⟨xPre_blind, va_recv hK hP (ci := 2) rfl (q0 := 7) rfl, (fun U hU hW => ⟨rfl, xPre_of hZ hS hFc hPc hDc hK U hU hW⟩)⟩ rfl rfl hl.1 rfl (lv_room (Nat.le_of_ble_eq_true rfl)) dG_reversed_47 ⟨Nat.le_of_ble_eq_true rfl, Nat.le_of_ble_eq_true rfl⟩) hS (fun q _ h => hFc q h) hFc (fun u9 t H1 locs ht hvm hr9 hB hz1 hk1 hS => ?_)
    obtain ⟨hP1, hK1, hD1⟩ := hB
    rw [ht] at hP1
    obtain ⟨hP, hD⟩ := xjoin (W := [(a2, .inr (3, [.ref a3, .ref a4, .ref p5, .ref p7, .int v9])), (a3, .inl (cT 1, 2048, .inl f3)), (a4, .inl (cT 1, 2048, .inl f4)), (p5, .inl (cT 1, 2048, .inl f6)), (p7, .inl (cT 1, 2048, .inl f8)), (a0, .inr (2, [.ref a1, .int v1, .int v2])), (a1, .inl (cT 2, 4096, .inr (.inl f0))), (a7, .inr (2, [.ref a8, .int o5.2.2.1, .int o5.2.2.2])), (a8, .inl (cT 2, 4096, .inr (.inl o8)))]) hP hD [7, 8] [0, 1, 2, 3, 4, 5, 6] 7 rfl rfl (by decide) (by decide) hk1 hFc hP1 hD1
    generalize H1 = H at hP hS ⊢
    refine lv_iconst (v := 0) hx hb dG_reversed_50 (by decide) ?_
    obtain rfl := Option.some.inj hf
    obtain ⟨hP9, hD9⟩ := xsub (wc := [(a0, .inr (2, [.ref a1, .int v1, .int v2])), (a1, .inl (cT 2, 4096, .inr (.inl f0))), (a2, .inr (3, [.ref a3, .ref a4, .ref p5, .ref p7, .int v9])), (a3, .inl (cT 1, 2048, .inl f3)), (a4, .inl (cT 1, 2048, .inl f4)), (p5, .inl (cT 1, 2048, .inl f6)), (p7, .inl (cT 1, 2048, .inl f8)), (a7, .inr (2, [.ref a8, .int o5.2.2.1, .int o5.2.2.2])), (a8, .inl (cT 2, 4096, .inr (.inl o8)))]) hP hD [5, 6, 0, 1, 2, 3, 4, 7, 8] rfl rfl (by decide)
    exact W.iret (v := (0 : Int32)) hx hb hr (fun t ht hW => ⟨⟨(0 : Int32), (), rfl, rfl, by rw [ht]; exact hP9, va_K.moved hW.alike hK, hD9⟩, hS.F ht⟩) hS.2.2 dG_reversed_51
  rw [if_neg hc4] at hf
  by_cases hc10 : o1 = 4
  · rw [if_pos hc10] at hf
    refine lv_lookup (off := 47) (tgt := 52) hx hb dG_reversed_5 (by decide) (by rw [hc10]; decide) (by decide) ?_
    refine lv_aload_n hx hb dG_reversed_52 rfl (lv_at hl 0 rfl) ?_
    refine lv_aload_n hx hb dG_reversed_53 rfl (lv_at hl 2 rfl) ?_
    obtain ⟨o11, hq12, hf⟩ := xbind hf
    obtain ⟨hPc, hDc, hFc⟩ := xcut (wc := [(a0, .inr (2, [.ref a1, .int v1, .int v2])), (a1, .inl (cT 2, 4096, .inr (.inl f0))), (a7, .inr (2, [.ref a8, .int v11, .int v12])), (a8, .inl (cT 2, 4096, .inr (.inl f10)))]) hP hD hS hA [7, 8, 5, 6] rfl rfl (by decide)
    refine va_callv (va_runS (As := [.ref a0, .ref a7]) (rest := []) ⟨hx, hb, hml, hown, htx⟩ (gG_putReversedString l hl9 D cT aK aV H.size n a0 a1 a7 a8 f0 v1 v2 f10 v11 v12 o11 hq12) ⟨callB_of 2 htx (xw_goodC kw_4_117) rfl rfl rfl (htx _ kw_1_26) (htx _ kw_4_115) ⟨by decide, by decide, by decide +kernel⟩ ⟨Nat.le_of_ble_eq_true rfl, Nat.le_of_ble_eq_true rfl⟩, htx _ kw_4_116⟩ ⟨xPre_blind, (fun U hU hW => ⟨rfl, xPre_of hZ hS hFc hPc hDc hK U hU hW⟩)⟩ rfl rfl hl.1 rfl (lv_room (Nat.le_of_ble_eq_true rfl)) dG_reversed_54 ⟨Nat.le_of_ble_eq_true rfl, Nat.le_of_ble_eq_true rfl⟩) hS (fun q _ h => hFc q h) hFc (fun u9 t H1 locs ht hvm hr9 hB hz1 hk1 hS => ?_)
    obtain ⟨hP1, hK1, hD1⟩ := hB
    rw [ht] at hP1
    obtain ⟨hP, hD⟩ := xjoin (W := [(a2, .inr (3, [.ref a3, .ref a4, .ref p5, .ref p7, .int v9])), (a3, .inl (cT 1, 2048, .inl f3)), (a4, .inl (cT 1, 2048, .inl f4)), (p5, .inl (cT 1, 2048, .inl f6)), (p7, .inl (cT 1, 2048, .inl f8)), (a0, .inr (2, [.ref a1, .int v1, .int v2])), (a1, .inl (cT 2, 4096, .inr (.inl f0))), (a7, .inr (2, [.ref a8, .int o11.2.1, .int o11.2.2])), (a8, .inl (cT 2, 4096, .inr (.inl o11.1)))]) hP hD [7, 8, 5, 6] [0, 1, 2, 3, 4] 5 rfl rfl (by decide) (by decide) hk1 hFc hP1 hD1
    generalize H1 = H at hP hS ⊢
    refine lv_iconst (v := 0) hx hb dG_reversed_57 (by decide) ?_
    obtain rfl := Option.some.inj hf
    obtain ⟨hP9, hD9⟩ := xsub (wc := [(a0, .inr (2, [.ref a1, .int v1, .int v2])), (a1, .inl (cT 2, 4096, .inr (.inl f0))), (a2, .inr (3, [.ref a3, .ref a4, .ref p5, .ref p7, .int v9])), (a3, .inl (cT 1, 2048, .inl f3)), (a4, .inl (cT 1, 2048, .inl f4)), (p5, .inl (cT 1, 2048, .inl f6)), (p7, .inl (cT 1, 2048, .inl f8)), (a7, .inr (2, [.ref a8, .int o11.2.1, .int o11.2.2])), (a8, .inl (cT 2, 4096, .inr (.inl o11.1)))]) hP hD [5, 6, 0, 1, 2, 3, 4, 7, 8] rfl rfl (by decide)
    exact W.iret (v := (0 : Int32)) hx hb hr (fun t ht hW => ⟨⟨(0 : Int32), (), rfl, rfl, by rw [ht]; exact hP9, va_K.moved hW.alike hK, hD9⟩, hS.F ht⟩) hS.2.2 dG_reversed_58
  rw [if_neg hc10] at hf
  by_cases hc13 : o1 = 5
  · rw [if_pos hc13] at hf
    refine lv_lookup (off := 54) (tgt := 59) hx hb dG_reversed_5 (by decide) (by rw [hc13]; decide) (by decide) ?_
    refine lv_aload_n hx hb dG_reversed_59 rfl (lv_at hl 0 rfl) ?_
    refine lv_aload_n hx hb dG_reversed_60 rfl (lv_at hl 1 rfl) ?_
    refine lv_aload_n hx hb dG_reversed_61 rfl (lv_at hl 2 rfl) ?_
    obtain ⟨o14, hq15, hf⟩ := xbind hf
    obtain ⟨hPc, hDc, hFc⟩ := xcut (wc := [(a0, .inr (2, [.ref a1, .int v1, .int v2])), (a1, .inl (cT 2, 4096, .inr (.inl f0))), (a2, .inr (3, [.ref a3, .ref a4, .ref p5, .ref p7, .int v9])), (a3, .inl (cT 1, 2048, .inl f3)), (a4, .inl (cT 1, 2048, .inl f4)), (p5, .inl (cT 1, 2048, .inl f6)), (p7, .inl (cT 1, 2048, .inl f8)), (a7, .inr (2, [.ref a8, .int v11, .int v12])), (a8, .inl (cT 2, 4096, .inr (.inl f10)))]) hP hD hS hA [7, 8, 0, 1, 2, 3, 4, 5, 6] rfl rfl (by decide)
    refine va_callv (va_runS (As := [.ref a0, .ref a2, .ref a7]) (rest := []) ⟨hx, hb, hml, hown, htx⟩ (gG_putReversedArray l hl9 D cT aK aV H.size n a0 a1 a2 a3 a4 a7 a8 f0 v1 v2 f3 f4 p5 f6 p7 f8 v9 f10 v11 v12 o14 hq15) ⟨callB_of 3 htx (xw_goodC kw_4_122) rfl rfl rfl (htx _ kw_1_26) (htx _ kw_4_120) ⟨by decide, by decide, by decide +kernel⟩ ⟨Nat.le_of_ble_eq_true rfl, Nat.le_of_ble_eq_true rfl⟩, htx _ kw_4_121⟩ ⟨xPre_blind, (fun U hU hW => ⟨rfl, xPre_of hZ hS hFc hPc hDc hK U hU hW⟩)⟩ rfl rfl hl.1 rfl (lv_room (Nat.le_of_ble_eq_true rfl)) dG_reversed_62 ⟨Nat.le_of_ble_eq_true rfl, Nat.le_of_ble_eq_true rfl⟩) hS (fun q _ h => hFc q h) hFc (fun u9 t H1 locs ht hvm hr9 hB hz1 hk1 hS => ?_)
    obtain ⟨hP1, hK1, hD1⟩ := hB
    rw [ht] at hP1
    obtain ⟨hP, hD⟩ := xjoin (W := [(a0, .inr (2, [.ref a1, .int v1, .int v2])), (a1, .inl (cT 2, 4096, .inr (.inl f0))), (a2, .inr (3, [.ref a3, .ref a4, .ref p5, .ref p7, .int o14.2.2.1])), (a3, .inl (cT 1, 2048, .inl o14.1)), (a4, .inl (cT 1, 2048, .inl f4)), (p5, .inl (cT 1, 2048, .inl o14.2.1)), (p7, .inl (cT 1, 2048, .inl f8)), (a7, .inr (2, [.ref a8, .int o14.2.2.2.2.1, .int o14.2.2.2.2.2])), (a8, .inl (cT 2, 4096, .inr (.inl o14.2.2.2.1)))]) hP hD [7, 8, 0, 1, 2, 3, 4, 5, 6] [] 0 rfl rfl (by decide) (by decide) hk1 hFc hP1 hD1
    generalize H1 = H at hP hS ⊢
    refine lv_iconst (v := 0) hx hb dG_reversed_65 (by decide) ?_
    obtain rfl := Option.some.inj hf
    obtain ⟨hP9, hD9⟩ := xsub (wc := [(a0, .inr (2, [.ref a1, .int v1, .int v2])), (a1, .inl (cT 2, 4096, .inr (.inl f0))), (a2, .inr (3, [.ref a3, .ref a4, .ref p5, .ref p7, .int o14.2.2.1])), (a3, .inl (cT 1, 2048, .inl o14.1)), (a4, .inl (cT 1, 2048, .inl f4)), (p5, .inl (cT 1, 2048, .inl o14.2.1)), (p7, .inl (cT 1, 2048, .inl f8)), (a7, .inr (2, [.ref a8, .int o14.2.2.2.2.1, .int o14.2.2.2.2.2])), (a8, .inl (cT 2, 4096, .inr (.inl o14.2.2.2.1)))]) hP hD [0, 1, 2, 3, 4, 5, 6, 7, 8] rfl rfl (by decide)
    exact W.iret (v := (0 : Int32)) hx hb hr (fun t ht hW => ⟨⟨(0 : Int32), (), rfl, rfl, by rw [ht]; exact hP9, va_K.moved hW.alike hK, hD9⟩, hS.F ht⟩) hS.2.2 dG_reversed_66
  rw [if_neg hc13] at hf
  refine lv_lookup (off := 62) (tgt := 67) hx hb dG_reversed_5 (by decide) (by have e0 : o1.toInt ≠ 0 := xsw hc4 (by decide); have e1 : o1.toInt ≠ 4 := xsw hc10 (by decide); have e2 : o1.toInt ≠ 5 := xsw hc13 (by decide); simp [Op.lookupswitch.offset, e0, Ne.symm e0, e1, Ne.symm e1, e2, Ne.symm e2]) (by decide) ?_
  refine lv_iconst (v := 1) hx hb dG_reversed_67 (by decide) ?_
  obtain rfl := Option.some.inj hf
  obtain ⟨hP9, hD9⟩ := xsub (wc := [(a0, .inr (2, [.ref a1, .int v1, .int v2])), (a1, .inl (cT 2, 4096, .inr (.inl f0))), (a2, .inr (3, [.ref a3, .ref a4, .ref p5, .ref p7, .int v9])), (a3, .inl (cT 1, 2048, .inl f3)), (a4, .inl (cT 1, 2048, .inl f4)), (p5, .inl (cT 1, 2048, .inl f6)), (p7, .inl (cT 1, 2048, .inl f8)), (a7, .inr (2, [.ref a8, .int v11, .int v12])), (a8, .inl (cT 2, 4096, .inr (.inl f10)))]) hP hD [7, 8, 0, 1, 2, 3, 4, 5, 6] rfl rfl (by decide)
  exact W.iret (v := (1 : Int32)) hx hb hr (fun t ht hW => ⟨⟨(1 : Int32), (), rfl, rfl, by rw [ht]; exact hP9, va_K.moved hW.alike hK, hD9⟩, hS.F ht⟩) hS.2.2 dG_reversed_68
set_option maxHeartbeats 400000000 in
set_option maxRecDepth 100000 in
theorem gG_codes (l : Launch) (hl9 : l.stackTraces = false) (D : va_G) (cT : Nat → ClassId) (aK aV : Nat → Nat) (sz n : Nat) (a0 : Nat) (a1 : Nat) (a2 : Nat) (a3 : Nat) (f0 : Nat → Int64) (v1 : Int32) (v2 : Int32) (f3 : Nat → Int64) (v4 : Int32) (v5 : Int32) (out : Int32 × (Nat → Int64) × Int32 × Int32) (hf : fG_codes n f0 v1 v2 f3 v4 v5 = some out) : xMet l yG_codes wyG_codes 2 0 0 44 D cT aK aV sz [.ref a0, .ref a2] [(a0, .inr (2, [.ref a1, .int v1, .int v2])), (a1, .inl (cT 2, 4096, .inr (.inl f0))), (a2, .inr (2, [.ref a3, .int v4, .int v5])), (a3, .inl (cT 2, 4096, .inr (.inl f3)))] (fun A => va_Qi (fun (r : Int32) (_ : Unit) => r = out.1) (fun _ t => xB D xcl cT A [(a0, .inr (2, [.ref a1, .int v1, .int v2])), (a1, .inl (cT 2, 4096, .inr (.inl f0))), (a2, .inr (2, [.ref a3, .int out.2.2.1, .int out.2.2.2])), (a3, .inl (cT 2, 4096, .inr (.inl out.2.1)))] t) A) := by
  refine Met.ofW (cc := prog_9_method_14_code) (maxL := 4) (ret := (some .int)) (by decide) rfl ?_
  intro p e s m args below meth c s₁ B hml hv
  obtain ⟨rfl, hsz, hZ, hP, hK, hD0⟩ := hv
  have hx := B.exec
  have hb := B.bytes
  have hr := B.returns
  have hts := atoms_spec (ws := wyG_codes) B.pre
  have htx := fun w h => hts w (List.mem_cons_of_mem _ h)
  have hown : s.vm.findClass "ValueBench$Singles" = some m.cls := findClass_of_methodNamed B.named
  have hlocks := B.notSynchronized
  subst hsz
  have hD := hD0.self (sz := s.heap.size)
  generalize hAe : va_A [(a0, .inr (2, [.ref a1, .int v1, .int v2])), (a1, .inl (cT 2, 4096, .inr (.inl f0))), (a2, .inr (2, [.ref a3, .int v4, .int v5])), (a3, .inl (cT 2, 4096, .inr (.inl f3)))] s.heap.size = A at hD hZ ⊢
  have hA : ∀ q : Nat, s.heap.size ≤ q → A q := fun q h => by rw [← hAe]; exact Or.inr h
  have hS : va_S A s.heap s.heap [] := va_S.rf
  have hP : va_P D xcl [(a0, .inr (2, [.ref a1, .int v1, .int v2])), (a1, .inl (cT 2, 4096, .inr (.inl f0))), (a2, .inr (2, [.ref a3, .int v4, .int v5])), (a3, .inl (cT 2, 4096, .inr (.inl f3)))] s.heap := hP
  have hl := lv_entry ([.ref a0, .ref a2]) (n := 4) (Nat.le_of_ble_eq_true rfl)
  rw [lg_entry_eq]
  generalize (lg_sl ([.ref a0, .ref a2]) ++ List.replicate (4 - (lg_sl ([.ref a0, .ref a2])).length) Slot.unset).toArray = ls at hl ⊢
  have hl : lv_has ls 4 [(0, .ref a0), (1, .ref a2)] := hl
  unfold fG_codes at hf
  refine xloopK (σ := Nat × Int32 × Int32 × (Nat → Int64) × Int32 × Int32) (fun n x H locs ls => (x.1 = 1 ∧ fG_codes_b f0 v1 v2 n x.1 x.2.1 x.2.2.1 x.2.2.2.1 x.2.2.2.2.1 x.2.2.2.2.2 = some out ∧ va_P D xcl [(a0, .inr (2, [.ref a1, .int v1, .int v2])), (a1, .inl (cT 2, 4096, .inr (.inl f0))), (a2, .inr (2, [.ref a3, .int x.2.2.2.2.1, .int x.2.2.2.2.2])), (a3, .inl (cT 2, 4096, .inr (.inl x.2.2.2.1)))] H ∧ va_D A [(a0, .inr (2, [.ref a1, .int v1, .int v2])), (a1, .inl (cT 2, 4096, .inr (.inl f0))), (a2, .inr (2, [.ref a3, .int x.2.2.2.2.1, .int x.2.2.2.2.2])), (a3, .inl (cT 2, 4096, .inr (.inl x.2.2.2.1)))] ∧ va_S A s.heap H locs ∧ lv_has ls 4 [(3, .int x.2.1), (2, .int x.2.2.1), (0, .ref a0), (1, .ref a2)])) (fun x => 18) (fun x H locs ls h => by exact absurd h.2.1 (by rw [fG_codes_b]; exact fun h => nomatch h)) (fun n ih x H locs ls hv => ?_) (fun key => ?_)
  · obtain ⟨lb, y3, y2, w0, w1, w2⟩ := x
    rcases hv with ⟨hj, hf, hP, hD, hS, hl⟩
    subst hj
    have hf : fG_codes_b f0 v1 v2 (n + 1) 1 y3 y2 w0 w1 w2 = some out := hf
    rw [fG_codes_b] at hf
    obtain ⟨hP, hD⟩ : xPD D xcl A [(a0, .inr (2, [.ref a1, .int v1, .int v2])), (a1, .inl (cT 2, 4096, .inr (.inl f0))), (a2, .inr (2, [.ref a3, .int w1, .int w2])), (a3, .inl (cT 2, 4096, .inr (.inl w0)))] H := ⟨hP, hD⟩
    have hl : lv_has ls 4 [(3, .int y3), (2, .int y2), (0, .ref a0), (1, .ref a2)] := hl
    refine W.eq (g2 := F0 m 18 ls []) rfl ?_
    refine lv_iload_n hx hb dG_codes_18 rfl (lv_at hl 0 rfl) ?_
    refine lv_aload_n hx hb dG_codes_19 rfl (lv_at hl 2 rfl) ?_
    refine lv_iconst (v := 0) hx hb dG_codes_20 (by decide) ?_
    obtain ⟨o1, hq2, hf⟩ := xbind hf
    obtain ⟨hPc, hDc, hFc⟩ := xcut (wc := [(a0, .inr (2, [.ref a1, .int v1, .int v2])), (a1, .inl (cT 2, 4096, .inr (.inl f0)))]) hP hD hS hA [0, 1] rfl rfl (by decide)
    refine va_calli (va_runV (C := "ValueBench$Row") (As := [.int 0]) (rest := [.int y3]) ⟨hx, hb, hml, hown, htx⟩ (gR_length l hl9 D cT aK aV H.size n a0 a1 (0 : Int32) f0 v1 v2 o1 hq2) ⟨callB_of 1 htx (xw_goodC kw_2_191) rfl rfl rfl (htx _ kw_1_4) (htx _ kw_4_42) ⟨by decide, by decide, by decide +kernel⟩ ⟨Nat.le_of_ble_eq_true rfl, Nat.le_of_ble_eq_true rfl⟩, (htx _ kw_2_189), (htx _ kw_2_190)⟩ ⟨xPre_blind, va_recv hK hP (ci := 2) rfl (q0 := 0) rfl, (fun U hU hW => ⟨rfl, xPre_of hZ hS hFc hPc hDc hK U hU hW⟩)⟩ rfl rfl hl.1 rfl (lv_room (Nat.le_of_ble_eq_true rfl)) dG_codes_21 ⟨Nat.le_of_ble_eq_true rfl, Nat.le_of_ble_eq_true rfl⟩) hS (fun q _ h => hFc q h) hFc (fun r3 u9 t H1 locs ht hvm hr9 hB hz1 hk1 hS => ?_)
    obtain ⟨hP1, hK1, hD1⟩ := hB
    rw [ht] at hP1
    obtain ⟨hP, hD⟩ := xjoin (W := [(a2, .inr (2, [.ref a3, .int w1, .int w2])), (a3, .inl (cT 2, 4096, .inr (.inl w0))), (a0, .inr (2, [.ref a1, .int v1, .int v2])), (a1, .inl (cT 2, 4096, .inr (.inl f0)))]) hP hD [0, 1] [2, 3] 2 rfl rfl (by decide) (by decide) hk1 hFc hP1 hD1
    generalize H1 = H at hP hS ⊢
    rw [hr9]
    refine W.eq (g2 := F0 m 24 ls [.int o1, .int y3]) rfl ?_
    refine lv_icmp_ge (tgt := 44) hx hb dG_codes_24 (by decide) (fun hc => ?_) (fun hc => ?_)
    · rw [if_pos hc] at hf
      refine lv_aload_n hx hb dG_codes_44 rfl (lv_at hl 3 rfl) ?_
      refine lv_iload_n hx hb dG_codes_45 rfl (lv_at hl 1 rfl) ?_
      refine lv_iconst (v := 5) hx hb dG_codes_46 (by decide) ?_
      refine lv_aload_n hx hb dG_codes_47 rfl (lv_at hl 2 rfl) ?_
      refine lv_iconst (v := 0) hx hb dG_codes_48 (by decide) ?_
      obtain ⟨o4, hq5, hf⟩ := xbind hf
      obtain ⟨hPc, hDc, hFc⟩ := xcut (wc := [(a0, .inr (2, [.ref a1, .int v1, .int v2])), (a1, .inl (cT 2, 4096, .inr (.inl f0)))]) hP hD hS hA [2, 3] rfl rfl (by decide)
      refine va_calli (va_runV (C := "ValueBench$Row") (As := [.int 0]) (rest := [.int 5, .int y2, .ref a2]) ⟨hx, hb, hml, hown, htx⟩ (gR_length l hl9 D cT aK aV H.size n a0 a1 (0 : Int32) f0 v1 v2 o4 hq5) ⟨callB_of 1 htx (xw_goodC kw_2_191) rfl rfl rfl (htx _ kw_1_4) (htx _ kw_4_42) ⟨by decide, by decide, by decide +kernel⟩ ⟨Nat.le_of_ble_eq_true rfl, Nat.le_of_ble_eq_true rfl⟩, (htx _ kw_2_189), (htx _ kw_2_190)⟩ ⟨xPre_blind, va_recv hK hP (ci := 2) rfl (q0 := 2) rfl, (fun U hU hW => ⟨rfl, xPre_of hZ hS hFc hPc hDc hK U hU hW⟩)⟩ rfl rfl hl.1 rfl (lv_room (Nat.le_of_ble_eq_true rfl)) dG_codes_49 ⟨Nat.le_of_ble_eq_true rfl, Nat.le_of_ble_eq_true rfl⟩) hS (fun q _ h => hFc q h) hFc (fun r6 u9 t H1 locs ht hvm hr9 hB hz1 hk1 hS => ?_)
      obtain ⟨hP1, hK1, hD1⟩ := hB
      rw [ht] at hP1
      obtain ⟨hP, hD⟩ := xjoin (W := [(a2, .inr (2, [.ref a3, .int w1, .int w2])), (a3, .inl (cT 2, 4096, .inr (.inl w0))), (a0, .inr (2, [.ref a1, .int v1, .int v2])), (a1, .inl (cT 2, 4096, .inr (.inl f0)))]) hP hD [2, 3] [0, 1] 2 rfl rfl (by decide) (by decide) hk1 hFc hP1 hD1
      generalize H1 = H at hP hS ⊢
      rw [hr9]
      refine W.eq (g2 := F0 m 52 ls [.int o4, .int 5, .int y2, .ref a2]) rfl ?_
      obtain ⟨o7, hq8, hf⟩ := xbind hf
      obtain ⟨hPc, hDc, hFc⟩ := xcut (wc := [(a2, .inr (2, [.ref a3, .int w1, .int w2])), (a3, .inl (cT 2, 4096, .inr (.inl w0)))]) hP hD hS hA [0, 1] rfl rfl (by decide)
      refine va_callv (va_runV (C := "ValueBench$Row") (As := [.int y2, .int 5, .int o4]) (rest := []) ⟨hx, hb, hml, hown, htx⟩ (gR_close l hl9 D cT aK aV H.size n a2 a3 y2 (5 : Int32) o4 w0 w1 w2 o7 hq8) ⟨callB_of 3 htx (xw_goodC kw_2_167) rfl rfl rfl (htx _ kw_1_4) (htx _ kw_4_70) ⟨by decide, by decide, by decide +kernel⟩ ⟨Nat.le_of_ble_eq_true rfl, Nat.le_of_ble_eq_true rfl⟩, (htx _ kw_2_165), (htx _ kw_2_166)⟩ ⟨xPre_blind, va_recv hK hP (ci := 2) rfl (q0 := 0) rfl, (fun U hU hW => ⟨rfl, xPre_of hZ hS hFc hPc hDc hK U hU hW⟩)⟩ rfl rfl hl.1 rfl (lv_room (Nat.le_of_ble_eq_true rfl)) dG_codes_52 ⟨Nat.le_of_ble_eq_true rfl, Nat.le_of_ble_eq_true rfl⟩) hS (fun q _ h => hFc q h) hFc (fun u9 t H1 locs ht hvm hr9 hB hz1 hk1 hS => ?_)
      obtain ⟨hP1, hK1, hD1⟩ := hB
      rw [ht] at hP1
      obtain ⟨hP, hD⟩ := xjoin (W := [(a0, .inr (2, [.ref a1, .int v1, .int v2])), (a1, .inl (cT 2, 4096, .inr (.inl f0))), (a2, .inr (2, [.ref a3, .int w1, .int w2])), (a3, .inl (cT 2, 4096, .inr (.inl o7)))]) hP hD [0, 1] [2, 3] 2 rfl rfl (by decide) (by decide) hk1 hFc hP1 hD1
      generalize H1 = H at hP hS ⊢
      refine lv_iconst (v := 0) hx hb dG_codes_55 (by decide) ?_
      obtain rfl := Option.some.inj hf
      obtain ⟨hP9, hD9⟩ := xsub (wc := [(a0, .inr (2, [.ref a1, .int v1, .int v2])), (a1, .inl (cT 2, 4096, .inr (.inl f0))), (a2, .inr (2, [.ref a3, .int w1, .int w2])), (a3, .inl (cT 2, 4096, .inr (.inl o7)))]) hP hD [0, 1, 2, 3] rfl rfl (by decide)
      exact W.iret (v := (0 : Int32)) hx hb hr (fun t ht hW => ⟨⟨(0 : Int32), (), rfl, rfl, by rw [ht]; exact hP9, va_K.moved hW.alike hK, hD9⟩, hS.F ht⟩) hS.2.2 dG_codes_56
    · rw [if_neg hc] at hf
      refine lv_aload_n hx hb dG_codes_27 rfl (lv_at hl 3 rfl) ?_
      refine lv_aload_n hx hb dG_codes_28 rfl (lv_at hl 2 rfl) ?_
      refine lv_iconst (v := 0) hx hb dG_codes_29 (by decide) ?_
      refine lv_iload_n hx hb dG_codes_30 rfl (lv_at hl 0 rfl) ?_
      obtain ⟨o4, hq5, hf⟩ := xbind hf
      obtain ⟨hPc, hDc, hFc⟩ := xcut (wc := [(a0, .inr (2, [.ref a1, .int v1, .int v2])), (a1, .inl (cT 2, 4096, .inr (.inl f0)))]) hP hD hS hA [2, 3] rfl rfl (by decide)
      refine va_calli (va_runV (C := "ValueBench$Row") (As := [.int 0, .int y3]) (rest := [.ref a2]) ⟨hx, hb, hml, hown, htx⟩ (gR_code l hl9 D cT aK aV H.size n a0 a1 (0 : Int32) y3 f0 v1 v2 o4 hq5) ⟨callB_of 2 htx (xw_goodC kw_3_56) rfl rfl rfl (htx _ kw_1_4) (htx _ kw_4_118) ⟨by decide, by decide, by decide +kernel⟩ ⟨Nat.le_of_ble_eq_true rfl, Nat.le_of_ble_eq_true rfl⟩, (htx _ kw_3_54), (htx _ kw_3_55)⟩ ⟨xPre_blind, va_recv hK hP (ci := 2) rfl (q0 := 2) rfl, (fun U hU hW => ⟨rfl, xPre_of hZ hS hFc hPc hDc hK U hU hW⟩)⟩ rfl rfl hl.1 rfl (lv_room (Nat.le_of_ble_eq_true rfl)) dG_codes_31 ⟨Nat.le_of_ble_eq_true rfl, Nat.le_of_ble_eq_true rfl⟩) hS (fun q _ h => hFc q h) hFc (fun r6 u9 t H1 locs ht hvm hr9 hB hz1 hk1 hS => ?_)
      obtain ⟨hP1, hK1, hD1⟩ := hB
      rw [ht] at hP1
      obtain ⟨hP, hD⟩ := xjoin (W := [(a2, .inr (2, [.ref a3, .int w1, .int w2])), (a3, .inl (cT 2, 4096, .inr (.inl w0))), (a0, .inr (2, [.ref a1, .int v1, .int v2])), (a1, .inl (cT 2, 4096, .inr (.inl f0)))]) hP hD [2, 3] [0, 1] 2 rfl rfl (by decide) (by decide) hk1 hFc hP1 hD1
      generalize H1 = H at hP hS ⊢
      rw [hr9]
      refine W.eq (g2 := F0 m 34 ls [.int o4, .ref a2]) rfl ?_
      refine lv_i2l hx hb dG_codes_34 rfl ?_
      obtain ⟨o7, hq8, hf⟩ := xbind hf
      obtain ⟨hPc, hDc, hFc⟩ := xcut (wc := [(a2, .inr (2, [.ref a3, .int w1, .int w2])), (a3, .inl (cT 2, 4096, .inr (.inl w0)))]) hP hD hS hA [0, 1] rfl rfl (by decide)
      refine va_callv (va_runV (C := "ValueBench$Row") (As := [.long o4.toInt64]) (rest := []) ⟨hx, hb, hml, hown, htx⟩ (gR_putNumber l hl9 D cT aK aV H.size n a2 a3 o4.toInt64 w0 w1 w2 o7 hq8) ⟨callB_of 1 htx (xw_goodC kw_2_228) rfl rfl rfl (htx _ kw_1_4) (htx _ kw_4_39) ⟨by decide, by decide, by decide +kernel⟩ ⟨Nat.le_of_ble_eq_true rfl, Nat.le_of_ble_eq_true rfl⟩, (htx _ kw_2_226), (htx _ kw_2_227)⟩ ⟨xPre_blind, va_recv hK hP (ci := 2) rfl (q0 := 0) rfl, (fun U hU hW => ⟨rfl, xPre_of hZ hS hFc hPc hDc hK U hU hW⟩)⟩ rfl rfl hl.1 rfl (lv_room (Nat.le_of_ble_eq_true rfl)) dG_codes_35 ⟨Nat.le_of_ble_eq_true rfl, Nat.le_of_ble_eq_true rfl⟩) hS (fun q _ h => hFc q h) hFc (fun u9 t H1 locs ht hvm hr9 hB hz1 hk1 hS => ?_)
      obtain ⟨hP1, hK1, hD1⟩ := hB
      rw [ht] at hP1
      obtain ⟨hP, hD⟩ := xjoin (W := [(a0, .inr (2, [.ref a1, .int v1, .int v2])), (a1, .inl (cT 2, 4096, .inr (.inl f0))), (a2, .inr (2, [.ref a3, .int o7.2.1, .int o7.2.2])), (a3, .inl (cT 2, 4096, .inr (.inl o7.1)))]) hP hD [0, 1] [2, 3] 2 rfl rfl (by decide) (by decide) hk1 hFc hP1 hD1
      generalize H1 = H at hP hS ⊢
      refine lv_iinc (v := (y3 + 1)) (lv' := [(3, .int (y3 + 1)), (2, .int y2), (0, .ref a0), (1, .ref a2)]) hx hb dG_codes_38 hl (k := 0) rfl rfl (by decide) rfl (fun ls hl => ?_)
      refine lv_goto (tgt := 18) hx hb dG_codes_41 (by decide) ?_
      obtain ⟨hP9, hD9⟩ := xsub (wc := [(a0, .inr (2, [.ref a1, .int v1, .int v2])), (a1, .inl (cT 2, 4096, .inr (.inl f0))), (a2, .inr (2, [.ref a3, .int o7.2.1, .int o7.2.2])), (a3, .inl (cT 2, 4096, .inr (.inl o7.1)))]) hP hD [0, 1, 2, 3] rfl rfl (by decide)
      exact ih (1, (y3 + 1), y2, o7.1, o7.2.1, o7.2.2) _ _ ls (⟨rfl, hf, hP9, hD9, hS, lv_sub hl [0, 1, 2, 3] rfl⟩)
  refine lv_aload_n hx hb dG_codes_0 rfl (lv_at hl 0 rfl) ?_
  refine lv_iconst (v := 0) hx hb dG_codes_1 (by decide) ?_
  refine lv_iconst (v := 4) hx hb dG_codes_2 (by decide) ?_
  obtain ⟨o1, hq2, hf⟩ := xbind hf
  obtain ⟨hPc, hDc, hFc⟩ := xcut (wc := [(a0, .inr (2, [.ref a1, .int v1, .int v2])), (a1, .inl (cT 2, 4096, .inr (.inl f0)))]) hP hD hS hA [0, 1] rfl rfl (by decide)
  refine va_calli (va_runV (C := "ValueBench$Row") (As := [.int 0, .int 4]) (rest := []) ⟨hx, hb, hml, hown, htx⟩ (gR_is l hl9 D cT aK aV s.heap.size n a0 a1 (0 : Int32) (4 : Int32) f0 v1 v2 o1 hq2) ⟨callB_of 2 htx (xw_goodC kw_3_75) rfl rfl rfl (htx _ kw_1_4) (htx _ kw_4_29) ⟨by decide, by decide, by decide +kernel⟩ ⟨Nat.le_of_ble_eq_true rfl, Nat.le_of_ble_eq_true rfl⟩, (htx _ kw_3_73), (htx _ kw_3_74)⟩ ⟨xPre_blind, va_recv hK hP (ci := 2) rfl (q0 := 0) rfl, (fun U hU hW => ⟨rfl, xPre_of hZ hS hFc hPc hDc hK U hU hW⟩)⟩ rfl rfl hl.1 rfl (lv_room (Nat.le_of_ble_eq_true rfl)) dG_codes_3 ⟨Nat.le_of_ble_eq_true rfl, Nat.le_of_ble_eq_true rfl⟩) hS (fun q _ h => hFc q h) hFc (fun r3 u9 t H1 locs ht hvm hr9 hB hz1 hk1 hS => ?_)
  obtain ⟨hP1, hK1, hD1⟩ := hB
  rw [ht] at hP1
  obtain ⟨hP, hD⟩ := xjoin (W := [(a2, .inr (2, [.ref a3, .int v4, .int v5])), (a3, .inl (cT 2, 4096, .inr (.inl f3))), (a0, .inr (2, [.ref a1, .int v1, .int v2])), (a1, .inl (cT 2, 4096, .inr (.inl f0)))]) hP hD [0, 1] [2, 3] 2 rfl rfl (by decide) (by decide) hk1 hFc hP1 hD1
  generalize H1 = H at hP hS ⊢
  rw [hr9]
  refine W.eq (g2 := F0 m 6 ls [.int o1]) rfl ?_
  refine lv_if_ne (tgt := 11) hx hb dG_codes_6 (by decide) (fun hc => ?_) (fun hc => ?_)
  · rw [if_neg hc] at hf
    refine lv_aload_n hx hb dG_codes_11 rfl (lv_at hl 1 rfl) ?_
    obtain ⟨o4, hq5, hf⟩ := xbind hf
    obtain ⟨hPc, hDc, hFc⟩ := xcut (wc := [(a2, .inr (2, [.ref a3, .int v4, .int v5])), (a3, .inl (cT 2, 4096, .inr (.inl f3)))]) hP hD hS hA [0, 1] rfl rfl (by decide)
    refine va_calli (va_runV (C := "ValueBench$Row") (As := []) (rest := []) ⟨hx, hb, hml, hown, htx⟩ (gR_open l hl9 D cT aK aV H.size n a2 a3 f3 v4 v5 o4 hq5) ⟨callB_of 0 htx (xw_goodC kw_2_136) rfl rfl rfl (htx _ kw_1_4) (htx _ kw_4_46) ⟨by decide, by decide, by decide +kernel⟩ ⟨Nat.le_of_ble_eq_true rfl, Nat.le_of_ble_eq_true rfl⟩, (htx _ kw_2_134), (htx _ kw_2_135)⟩ ⟨xPre_blind, va_recv hK hP (ci := 2) rfl (q0 := 0) rfl, (fun U hU hW => ⟨rfl, xPre_of hZ hS hFc hPc hDc hK U hU hW⟩)⟩ rfl rfl hl.1 rfl (lv_room (Nat.le_of_ble_eq_true rfl)) dG_codes_12 ⟨Nat.le_of_ble_eq_true rfl, Nat.le_of_ble_eq_true rfl⟩) hS (fun q _ h => hFc q h) hFc (fun r6 u9 t H1 locs ht hvm hr9 hB hz1 hk1 hS => ?_)
    obtain ⟨hP1, hK1, hD1⟩ := hB
    rw [ht] at hP1
    obtain ⟨hP, hD⟩ := xjoin (W := [(a0, .inr (2, [.ref a1, .int v1, .int v2])), (a1, .inl (cT 2, 4096, .inr (.inl f0))), (a2, .inr (2, [.ref a3, .int o4.2.2.1, .int o4.2.2.2])), (a3, .inl (cT 2, 4096, .inr (.inl o4.2.1)))]) hP hD [0, 1] [2, 3] 2 rfl rfl (by decide) (by decide) hk1 hFc hP1 hD1
    generalize H1 = H at hP hS ⊢
    rw [hr9]
    refine W.eq (g2 := F0 m 15 ls [.int o4.1]) rfl ?_
    refine lv_istore_n (lv' := [(2, .int o4.1), (0, .ref a0), (1, .ref a2)]) hx hb dG_codes_15 rfl hl (by decide) rfl (fun ls hl => ?_)
    refine lv_iconst (v := 0) hx hb dG_codes_16 (by decide) ?_
    refine lv_istore_n (lv' := [(3, .int 0), (2, .int o4.1), (0, .ref a0), (1, .ref a2)]) hx hb dG_codes_17 rfl hl (by decide) rfl (fun ls hl => ?_)
    obtain ⟨hP9, hD9⟩ := xsub (wc := [(a0, .inr (2, [.ref a1, .int v1, .int v2])), (a1, .inl (cT 2, 4096, .inr (.inl f0))), (a2, .inr (2, [.ref a3, .int o4.2.2.1, .int o4.2.2.2])), (a3, .inl (cT 2, 4096, .inr (.inl o4.2.1)))]) hP hD [0, 1, 2, 3] rfl rfl (by decide)
    exact key n (1, 0, o4.1, o4.2.1, o4.2.2.1, o4.2.2.2) _ _ ls (⟨rfl, hf, hP9, hD9, hS, lv_sub hl [0, 1, 2, 3] rfl⟩)
  · rw [if_pos hc] at hf
    refine lv_iconst (v := 1) hx hb dG_codes_9 (by decide) ?_
    obtain rfl := Option.some.inj hf
    obtain ⟨hP9, hD9⟩ := xsub (wc := [(a0, .inr (2, [.ref a1, .int v1, .int v2])), (a1, .inl (cT 2, 4096, .inr (.inl f0))), (a2, .inr (2, [.ref a3, .int v4, .int v5])), (a3, .inl (cT 2, 4096, .inr (.inl f3)))]) hP hD [2, 3, 0, 1] rfl rfl (by decide)
    exact W.iret (v := (1 : Int32)) hx hb hr (fun t ht hW => ⟨⟨(1 : Int32), (), rfl, rfl, by rw [ht]; exact hP9, va_K.moved hW.alike hK, hD9⟩, hS.F ht⟩) hS.2.2 dG_codes_10
set_option maxHeartbeats 400000000 in
set_option maxRecDepth 100000 in
theorem gG_isOfNumbers (l : Launch) (hl9 : l.stackTraces = false) (D : va_G) (cT : Nat → ClassId) (aK aV : Nat → Nat) (sz n : Nat) (a0 : Nat) (a1 : Nat) (f0 : Nat → Int64) (v1 : Int32) (v2 : Int32) (out : Int32) (hf : fG_isOfNumbers n f0 v1 v2 = some out) : xMet l yG_isOfNumbers wyG_isOfNumbers 2 0 0 43 D cT aK aV sz [.ref a0] [(a0, .inr (2, [.ref a1, .int v1, .int v2])), (a1, .inl (cT 2, 4096, .inr (.inl f0)))] (fun A => va_Qi (fun (r : Int32) (_ : Unit) => r = out) (fun _ t => xB D xcl cT A [(a0, .inr (2, [.ref a1, .int v1, .int v2])), (a1, .inl (cT 2, 4096, .inr (.inl f0)))] t) A) := by
  refine Met.ofW (cc := prog_9_method_16_code) (maxL := 3) (ret := (some .boolean)) (by decide) rfl ?_
  intro p e s m args below meth c s₁ B hml hv
  obtain ⟨rfl, hsz, hZ, hP, hK, hD0⟩ := hv
  have hx := B.exec
  have hb := B.bytes
  have hr := B.returns
  have hts := atoms_spec (ws := wyG_isOfNumbers) B.pre
  have htx := fun w h => hts w (List.mem_cons_of_mem _ h)
  have hown : s.vm.findClass "ValueBench$Singles" = some m.cls := findClass_of_methodNamed B.named
  have hlocks := B.notSynchronized
  subst hsz
  have hD := hD0.self (sz := s.heap.size)
  generalize hAe : va_A [(a0, .inr (2, [.ref a1, .int v1, .int v2])), (a1, .inl (cT 2, 4096, .inr (.inl f0)))] s.heap.size = A at hD hZ ⊢
  have hA : ∀ q : Nat, s.heap.size ≤ q → A q := fun q h => by rw [← hAe]; exact Or.inr h
  have hS : va_S A s.heap s.heap [] := va_S.rf
  have hP : va_P D xcl [(a0, .inr (2, [.ref a1, .int v1, .int v2])), (a1, .inl (cT 2, 4096, .inr (.inl f0)))] s.heap := hP
  have hl := lv_entry ([.ref a0]) (n := 3) (Nat.le_of_ble_eq_true rfl)
  rw [lg_entry_eq]
  generalize (lg_sl ([.ref a0]) ++ List.replicate (3 - (lg_sl ([.ref a0])).length) Slot.unset).toArray = ls at hl ⊢
  have hl : lv_has ls 3 [(0, .ref a0)] := hl
  unfold fG_isOfNumbers at hf
  refine xloopK (σ := Nat × Int32 × Int32) (fun n x H locs ls => (x.1 = 1 ∧ fG_isOfNumbers_b f0 v1 v2 n x.1 x.2.1 x.2.2 = some out ∧ va_P D xcl [(a0, .inr (2, [.ref a1, .int v1, .int v2])), (a1, .inl (cT 2, 4096, .inr (.inl f0)))] H ∧ va_D A [(a0, .inr (2, [.ref a1, .int v1, .int v2])), (a1, .inl (cT 2, 4096, .inr (.inl f0)))] ∧ va_S A s.heap H locs ∧ lv_has ls 3 [(2, .int x.2.1), (1, .int x.2.2), (0, .ref a0)])) (fun x => 15) (fun x H locs ls h => by exact absurd h.2.1 (by rw [fG_isOfNumbers_b]; exact fun h => nomatch h)) (fun n ih x H locs ls hv => ?_) (fun key => ?_)
  · obtain ⟨lb, y2, y1⟩ := x
    rcases hv with ⟨hj, hf, hP, hD, hS, hl⟩
    subst hj
    have hf : fG_isOfNumbers_b f0 v1 v2 (n + 1) 1 y2 y1 = some out := hf
    rw [fG_isOfNumbers_b] at hf
    obtain ⟨hP, hD⟩ : xPD D xcl A [(a0, .inr (2, [.ref a1, .int v1, .int v2])), (a1, .inl (cT 2, 4096, .inr (.inl f0)))] H := ⟨hP, hD⟩
    have hl : lv_has ls 3 [(2, .int y2), (1, .int y1), (0, .ref a0)] := hl
    refine W.eq (g2 := F0 m 15 ls []) rfl ?_
    refine lv_iload_n hx hb dG_isOfNumbers_15 rfl (lv_at hl 0 rfl) ?_
    refine lv_aload_n hx hb dG_isOfNumbers_16 rfl (lv_at hl 2 rfl) ?_
    refine lv_iconst (v := 0) hx hb dG_isOfNumbers_17 (by decide) ?_
    obtain ⟨o1, hq2, hf⟩ := xbind hf
    obtain ⟨hPc, hDc, hFc⟩ := xcut (wc := [(a0, .inr (2, [.ref a1, .int v1, .int v2])), (a1, .inl (cT 2, 4096, .inr (.inl f0)))]) hP hD hS hA [0, 1] rfl rfl (by decide)
    refine va_calli (va_runV (C := "ValueBench$Row") (As := [.int 0]) (rest := [.int y2]) ⟨hx, hb, hml, hown, htx⟩ (gR_length l hl9 D cT aK aV H.size n a0 a1 (0 : Int32) f0 v1 v2 o1 hq2) ⟨callB_of 1 htx (xw_goodC kw_2_191) rfl rfl rfl (htx _ kw_1_4) (htx _ kw_4_42) ⟨by decide, by decide, by decide +kernel⟩ ⟨Nat.le_of_ble_eq_true rfl, Nat.le_of_ble_eq_true rfl⟩, (htx _ kw_2_189), (htx _ kw_2_190)⟩ ⟨xPre_blind, va_recv hK hP (ci := 2) rfl (q0 := 0) rfl, (fun U hU hW => ⟨rfl, xPre_of hZ hS hFc hPc hDc hK U hU hW⟩)⟩ rfl rfl hl.1 rfl (lv_room (Nat.le_of_ble_eq_true rfl)) dG_isOfNumbers_18 ⟨Nat.le_of_ble_eq_true rfl, Nat.le_of_ble_eq_true rfl⟩) hS (fun q _ h => hFc q h) hFc (fun r3 u9 t H1 locs ht hvm hr9 hB hz1 hk1 hS => ?_)
    obtain ⟨hP1, hK1, hD1⟩ := hB
    rw [ht] at hP1
    obtain ⟨hP, hD⟩ := xjoin (W := [(a0, .inr (2, [.ref a1, .int v1, .int v2])), (a1, .inl (cT 2, 4096, .inr (.inl f0)))]) hP hD [0, 1] [] 0 rfl rfl (by decide) (by decide) hk1 hFc hP1 hD1
    generalize H1 = H at hP hS ⊢
    rw [hr9]
    refine W.eq (g2 := F0 m 21 ls [.int o1, .int y2]) rfl ?_
    refine lv_icmp_ge (tgt := 47) hx hb dG_isOfNumbers_21 (by decide) (fun hc => ?_) (fun hc => ?_)
    · rw [if_pos hc] at hf
      refine lv_iconst (v := 1) hx hb dG_isOfNumbers_47 (by decide) ?_
      obtain rfl := Option.some.inj hf
      obtain ⟨hP9, hD9⟩ := xsub (wc := [(a0, .inr (2, [.ref a1, .int v1, .int v2])), (a1, .inl (cT 2, 4096, .inr (.inl f0)))]) hP hD [0, 1] rfl rfl (by decide)
      exact W.zret (v := (1 : Int32)) hx hb hr rfl (fun t ht hW => ⟨⟨(1 : Int32), (), rfl, rfl, by rw [ht]; exact hP9, va_K.moved hW.alike hK, hD9⟩, hS.F ht⟩) hS.2.2 dG_isOfNumbers_48
    · rw [if_neg hc] at hf
      refine lv_aload_n hx hb dG_isOfNumbers_24 rfl (lv_at hl 2 rfl) ?_
      refine lv_iload_n hx hb dG_isOfNumbers_25 rfl (lv_at hl 1 rfl) ?_
      refine lv_iconst (v := 3) hx hb dG_isOfNumbers_26 (by decide) ?_
      obtain ⟨o4, hq5, hf⟩ := xbind hf
      obtain ⟨hPc, hDc, hFc⟩ := xcut (wc := [(a0, .inr (2, [.ref a1, .int v1, .int v2])), (a1, .inl (cT 2, 4096, .inr (.inl f0)))]) hP hD hS hA [0, 1] rfl rfl (by decide)
      refine va_calli (va_runV (C := "ValueBench$Row") (As := [.int y1, .int 3]) (rest := []) ⟨hx, hb, hml, hown, htx⟩ (gR_is l hl9 D cT aK aV H.size n a0 a1 y1 (3 : Int32) f0 v1 v2 o4 hq5) ⟨callB_of 2 htx (xw_goodC kw_3_75) rfl rfl rfl (htx _ kw_1_4) (htx _ kw_4_29) ⟨by decide, by decide, by decide +kernel⟩ ⟨Nat.le_of_ble_eq_true rfl, Nat.le_of_ble_eq_true rfl⟩, (htx _ kw_3_73), (htx _ kw_3_74)⟩ ⟨xPre_blind, va_recv hK hP (ci := 2) rfl (q0 := 0) rfl, (fun U hU hW => ⟨rfl, xPre_of hZ hS hFc hPc hDc hK U hU hW⟩)⟩ rfl rfl hl.1 rfl (lv_room (Nat.le_of_ble_eq_true rfl)) dG_isOfNumbers_27 ⟨Nat.le_of_ble_eq_true rfl, Nat.le_of_ble_eq_true rfl⟩) hS (fun q _ h => hFc q h) hFc (fun r6 u9 t H1 locs ht hvm hr9 hB hz1 hk1 hS => ?_)
      obtain ⟨hP1, hK1, hD1⟩ := hB
      rw [ht] at hP1
      obtain ⟨hP, hD⟩ := xjoin (W := [(a0, .inr (2, [.ref a1, .int v1, .int v2])), (a1, .inl (cT 2, 4096, .inr (.inl f0)))]) hP hD [0, 1] [] 0 rfl rfl (by decide) (by decide) hk1 hFc hP1 hD1
      generalize H1 = H at hP hS ⊢
      rw [hr9]
      refine W.eq (g2 := F0 m 30 ls [.int o4]) rfl ?_
      refine lv_if_ne (tgt := 35) hx hb dG_isOfNumbers_30 (by decide) (fun hc => ?_) (fun hc => ?_)
      · rw [if_neg hc] at hf
        refine lv_aload_n hx hb dG_isOfNumbers_35 rfl (lv_at hl 2 rfl) ?_
        refine lv_iload_n hx hb dG_isOfNumbers_36 rfl (lv_at hl 1 rfl) ?_
        obtain ⟨o7, hq8, hf⟩ := xbind hf
        obtain ⟨hPc, hDc, hFc⟩ := xcut (wc := [(a0, .inr (2, [.ref a1, .int v1, .int v2])), (a1, .inl (cT 2, 4096, .inr (.inl f0)))]) hP hD hS hA [0, 1] rfl rfl (by decide)
        refine va_calli (va_runV (C := "ValueBench$Row") (As := [.int y1]) (rest := []) ⟨hx, hb, hml, hown, htx⟩ (gR_after l hl9 D cT aK aV H.size n a0 a1 y1 f0 v1 v2 o7 hq8) ⟨callB_of 1 htx (xw_goodC kw_2_196) rfl rfl rfl (htx _ kw_1_4) (htx _ kw_4_74) ⟨by decide, by decide, by decide +kernel⟩ ⟨Nat.le_of_ble_eq_true rfl, Nat.le_of_ble_eq_true rfl⟩, (htx _ kw_2_194), (htx _ kw_2_195)⟩ ⟨xPre_blind, va_recv hK hP (ci := 2) rfl (q0 := 0) rfl, (fun U hU hW => ⟨rfl, xPre_of hZ hS hFc hPc hDc hK U hU hW⟩)⟩ rfl rfl hl.1 rfl (lv_room (Nat.le_of_ble_eq_true rfl)) dG_isOfNumbers_37 ⟨Nat.le_of_ble_eq_true rfl, Nat.le_of_ble_eq_true rfl⟩) hS (fun q _ h => hFc q h) hFc (fun r9 u9 t H1 locs ht hvm hr9 hB hz1 hk1 hS => ?_)
        obtain ⟨hP1, hK1, hD1⟩ := hB
        rw [ht] at hP1
        obtain ⟨hP, hD⟩ := xjoin (W := [(a0, .inr (2, [.ref a1, .int v1, .int v2])), (a1, .inl (cT 2, 4096, .inr (.inl f0)))]) hP hD [0, 1] [] 0 rfl rfl (by decide) (by decide) hk1 hFc hP1 hD1
        generalize H1 = H at hP hS ⊢
        rw [hr9]
        refine W.eq (g2 := F0 m 40 ls [.int o7]) rfl ?_
        refine lv_istore_n (lv' := [(1, .int o7), (2, .int y2), (0, .ref a0)]) hx hb dG_isOfNumbers_40 rfl hl (by decide) rfl (fun ls hl => ?_)
        refine lv_iinc (v := (y2 + 1)) (lv' := [(2, .int (y2 + 1)), (1, .int o7), (0, .ref a0)]) hx hb dG_isOfNumbers_41 hl (k := 1) rfl rfl (by decide) rfl (fun ls hl => ?_)
        refine lv_goto (tgt := 15) hx hb dG_isOfNumbers_44 (by decide) ?_
        obtain ⟨hP9, hD9⟩ := xsub (wc := [(a0, .inr (2, [.ref a1, .int v1, .int v2])), (a1, .inl (cT 2, 4096, .inr (.inl f0)))]) hP hD [0, 1] rfl rfl (by decide)
        exact ih (1, (y2 + 1), o7) _ _ ls (⟨rfl, hf, hP9, hD9, hS, lv_sub hl [0, 1, 2] rfl⟩)
      · rw [if_pos hc] at hf
        refine lv_iconst (v := 0) hx hb dG_isOfNumbers_33 (by decide) ?_
        obtain rfl := Option.some.inj hf
        obtain ⟨hP9, hD9⟩ := xsub (wc := [(a0, .inr (2, [.ref a1, .int v1, .int v2])), (a1, .inl (cT 2, 4096, .inr (.inl f0)))]) hP hD [0, 1] rfl rfl (by decide)
        exact W.zret (v := (0 : Int32)) hx hb hr rfl (fun t ht hW => ⟨⟨(0 : Int32), (), rfl, rfl, by rw [ht]; exact hP9, va_K.moved hW.alike hK, hD9⟩, hS.F ht⟩) hS.2.2 dG_isOfNumbers_34
  refine lv_aload_n hx hb dG_isOfNumbers_0 rfl (lv_at hl 0 rfl) ?_
  refine lv_iconst (v := 0) hx hb dG_isOfNumbers_1 (by decide) ?_
  refine lv_iconst (v := 5) hx hb dG_isOfNumbers_2 (by decide) ?_
  obtain ⟨o1, hq2, hf⟩ := xbind hf
  obtain ⟨hPc, hDc, hFc⟩ := xcut (wc := [(a0, .inr (2, [.ref a1, .int v1, .int v2])), (a1, .inl (cT 2, 4096, .inr (.inl f0)))]) hP hD hS hA [0, 1] rfl rfl (by decide)
  refine va_calli (va_runV (C := "ValueBench$Row") (As := [.int 0, .int 5]) (rest := []) ⟨hx, hb, hml, hown, htx⟩ (gR_is l hl9 D cT aK aV s.heap.size n a0 a1 (0 : Int32) (5 : Int32) f0 v1 v2 o1 hq2) ⟨callB_of 2 htx (xw_goodC kw_3_75) rfl rfl rfl (htx _ kw_1_4) (htx _ kw_4_29) ⟨by decide, by decide, by decide +kernel⟩ ⟨Nat.le_of_ble_eq_true rfl, Nat.le_of_ble_eq_true rfl⟩, (htx _ kw_3_73), (htx _ kw_3_74)⟩ ⟨xPre_blind, va_recv hK hP (ci := 2) rfl (q0 := 0) rfl, (fun U hU hW => ⟨rfl, xPre_of hZ hS hFc hPc hDc hK U hU hW⟩)⟩ rfl rfl hl.1 rfl (lv_room (Nat.le_of_ble_eq_true rfl)) dG_isOfNumbers_3 ⟨Nat.le_of_ble_eq_true rfl, Nat.le_of_ble_eq_true rfl⟩) hS (fun q _ h => hFc q h) hFc (fun r3 u9 t H1 locs ht hvm hr9 hB hz1 hk1 hS => ?_)
  obtain ⟨hP1, hK1, hD1⟩ := hB
  rw [ht] at hP1
  obtain ⟨hP, hD⟩ := xjoin (W := [(a0, .inr (2, [.ref a1, .int v1, .int v2])), (a1, .inl (cT 2, 4096, .inr (.inl f0)))]) hP hD [0, 1] [] 0 rfl rfl (by decide) (by decide) hk1 hFc hP1 hD1
  generalize H1 = H at hP hS ⊢
  rw [hr9]
  refine W.eq (g2 := F0 m 6 ls [.int o1]) rfl ?_
  refine lv_if_ne (tgt := 11) hx hb dG_isOfNumbers_6 (by decide) (fun hc => ?_) (fun hc => ?_)
  · rw [if_neg hc] at hf
    refine lv_iconst (v := 1) hx hb dG_isOfNumbers_11 (by decide) ?_
    refine lv_istore_n (lv' := [(1, .int 1), (0, .ref a0)]) hx hb dG_isOfNumbers_12 rfl hl (by decide) rfl (fun ls hl => ?_)
    refine lv_iconst (v := 0) hx hb dG_isOfNumbers_13 (by decide) ?_
    refine lv_istore_n (lv' := [(2, .int 0), (1, .int 1), (0, .ref a0)]) hx hb dG_isOfNumbers_14 rfl hl (by decide) rfl (fun ls hl => ?_)
    obtain ⟨hP9, hD9⟩ := xsub (wc := [(a0, .inr (2, [.ref a1, .int v1, .int v2])), (a1, .inl (cT 2, 4096, .inr (.inl f0)))]) hP hD [0, 1] rfl rfl (by decide)
    exact key n (1, 0, 1) _ _ ls (⟨rfl, hf, hP9, hD9, hS, lv_sub hl [0, 1, 2] rfl⟩)
  · rw [if_pos hc] at hf
    refine lv_iconst (v := 0) hx hb dG_isOfNumbers_9 (by decide) ?_
    obtain rfl := Option.some.inj hf
    obtain ⟨hP9, hD9⟩ := xsub (wc := [(a0, .inr (2, [.ref a1, .int v1, .int v2])), (a1, .inl (cT 2, 4096, .inr (.inl f0)))]) hP hD [0, 1] rfl rfl (by decide)
    exact W.zret (v := (0 : Int32)) hx hb hr rfl (fun t ht hW => ⟨⟨(0 : Int32), (), rfl, rfl, by rw [ht]; exact hP9, va_K.moved hW.alike hK, hD9⟩, hS.F ht⟩) hS.2.2 dG_isOfNumbers_10
