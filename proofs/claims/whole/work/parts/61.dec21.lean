set_option maxHeartbeats 400000000 in
set_option maxRecDepth 100000 in
theorem gB_feed (l : Launch) (hl9 : l.stackTraces = false) (D : va_G) (cT : Nat → ClassId) (aK aV : Nat → Nat) (sz n : Nat) (a0 : Nat) (a1 : Nat) (a2 : Nat) (a3 : Nat) (a4 : Nat) (a5 : Nat) (a6 : Nat) (a7 : Nat) (a8 : Nat) (a9 : Nat) (a10 : Nat) (a13 : Nat) (a14 : Nat) (rf0 : Nat → Option Nat) (x1 : Int32) (x2 : Int32) (x3 : Int32) (x4 : Int32) (x5 : Int32) (f0 : Nat → Int32) (v1 : Int32) (v2 : Int32) (f3 : Nat → Int32) (v4 : Int32) (v5 : Int32) (f6 : Nat → Int32) (v7 : Int32) (v8 : Int32) (f9 : Nat → Int32) (f10 : Nat → Int32) (p11 : Nat) (f12 : Nat → Int32) (p13 : Nat) (f14 : Nat → Int32) (v15 : Int32) (f16 : Nat → Int64) (v17 : Int32) (v18 : Int32) (v19 : Int32) (v20 : Int32) (out : Nat × Int32 × (Nat → Int32) × Int32 × Int32) (hf : fB_feed n x1 x2 x3 x4 x5 f0 v1 v2 f3 v4 v5 f6 v7 v8 f9 f10 p11 f12 p13 f14 v15 f16 v17 v18 v19 v20 = some out) (hkd : out.1 = 0) : xMet l yB_feed wyB_feed 6 1 6 100 D cT aK aV sz [.ref a0, .int x1, .int x2, .int x3, .int x4, .int x5] [(a0, .inr (0, [.ref a1, .ref a3, .ref a5, .ref a7, .ref a8, .ref a13, .int v19, .int v20])), (a1, .inr (1, [.ref a2, .int v1, .int v2])), (a2, .inl (cT 0, 4096, .inl f0)), (a3, .inr (1, [.ref a4, .int v4, .int v5])), (a4, .inl (cT 0, 4096, .inl f3)), (a5, .inr (1, [.ref a6, .int v7, .int v8])), (a6, .inl (cT 0, 4096, .inl f6)), (a7, .inl (cT 3, 8, .inr (.inr (.inr (.inr rf0))))), (a8, .inr (3, [.ref a9, .ref a10, .ref p11, .ref p13, .int v15])), (a9, .inl (cT 1, 2048, .inl f9)), (a10, .inl (cT 1, 2048, .inl f10)), (p11, .inl (cT 1, 2048, .inl f12)), (p13, .inl (cT 1, 2048, .inl f14)), (a13, .inr (2, [.ref a14, .int v17, .int v18])), (a14, .inl (cT 2, 4096, .inr (.inl f16)))] (fun A => va_Qi (fun (r : Int32) (_ : Unit) => r = out.2.1) (fun _ t => xB D xcl cT A [(a0, .inr (0, [.ref a1, .ref a3, .ref a5, .ref a7, .ref a8, .ref a13, .int v19, .int v20])), (a1, .inr (1, [.ref a2, .int out.2.2.2.1, .int out.2.2.2.2])), (a2, .inl (cT 0, 4096, .inl out.2.2.1)), (a3, .inr (1, [.ref a4, .int v4, .int v5])), (a4, .inl (cT 0, 4096, .inl f3)), (a5, .inr (1, [.ref a6, .int v7, .int v8])), (a6, .inl (cT 0, 4096, .inl f6)), (a7, .inl (cT 3, 8, .inr (.inr (.inr (.inr rf0))))), (a8, .inr (3, [.ref a9, .ref a10, .ref p11, .ref p13, .int v15])), (a9, .inl (cT 1, 2048, .inl f9)), (a10, .inl (cT 1, 2048, .inl f10)), (p11, .inl (cT 1, 2048, .inl f12)), (p13, .inl (cT 1, 2048, .inl f14)), (a13, .inr (2, [.ref a14, .int v17, .int v18])), (a14, .inl (cT 2, 4096, .inr (.inl f16)))] t) A) := by
  refine Met.ofW (cc := prog_1_method_2_code) (maxL := 6) (ret := (some .int)) (by decide) rfl ?_
  intro p e s m args below meth c s₁ B hml hv
  obtain ⟨rfl, hsz, hZ, hP, hK, hD0⟩ := hv
  have hx := B.exec
  have hb := B.bytes
  have hr := B.returns
  have hts := atoms_spec (ws := wyB_feed) B.pre
  have htx := fun w h => hts w (List.mem_cons_of_mem _ h)
  have hown : s.vm.findClass "ValueBench" = some m.cls := findClass_of_methodNamed B.named
  have hlocks := B.notSynchronized
  subst hsz
  have hD := hD0.self (sz := s.heap.size)
  generalize hAe : va_A [(a0, .inr (0, [.ref a1, .ref a3, .ref a5, .ref a7, .ref a8, .ref a13, .int v19, .int v20])), (a1, .inr (1, [.ref a2, .int v1, .int v2])), (a2, .inl (cT 0, 4096, .inl f0)), (a3, .inr (1, [.ref a4, .int v4, .int v5])), (a4, .inl (cT 0, 4096, .inl f3)), (a5, .inr (1, [.ref a6, .int v7, .int v8])), (a6, .inl (cT 0, 4096, .inl f6)), (a7, .inl (cT 3, 8, .inr (.inr (.inr (.inr rf0))))), (a8, .inr (3, [.ref a9, .ref a10, .ref p11, .ref p13, .int v15])), (a9, .inl (cT 1, 2048, .inl f9)), (a10, .inl (cT 1, 2048, .inl f10)), (p11, .inl (cT 1, 2048, .inl f12)), (p13, .inl (cT 1, 2048, .inl f14)), (a13, .inr (2, [.ref a14, .int v17, .int v18])), (a14, .inl (cT 2, 4096, .inr (.inl f16)))] s.heap.size = A at hD hZ ⊢
  have hA : ∀ q : Nat, s.heap.size ≤ q → A q := fun q h => by rw [← hAe]; exact Or.inr h
  have hS : va_S A s.heap s.heap [] := va_S.rf
  have hP : va_P D xcl [(a0, .inr (0, [.ref a1, .ref a3, .ref a5, .ref a7, .ref a8, .ref a13, .int v19, .int v20])), (a1, .inr (1, [.ref a2, .int v1, .int v2])), (a2, .inl (cT 0, 4096, .inl f0)), (a3, .inr (1, [.ref a4, .int v4, .int v5])), (a4, .inl (cT 0, 4096, .inl f3)), (a5, .inr (1, [.ref a6, .int v7, .int v8])), (a6, .inl (cT 0, 4096, .inl f6)), (a7, .inl (cT 3, 8, .inr (.inr (.inr (.inr rf0))))), (a8, .inr (3, [.ref a9, .ref a10, .ref p11, .ref p13, .int v15])), (a9, .inl (cT 1, 2048, .inl f9)), (a10, .inl (cT 1, 2048, .inl f10)), (p11, .inl (cT 1, 2048, .inl f12)), (p13, .inl (cT 1, 2048, .inl f14)), (a13, .inr (2, [.ref a14, .int v17, .int v18])), (a14, .inl (cT 2, 4096, .inr (.inl f16)))] s.heap := hP
  have hl := lv_entry ([.ref a0, .int x1, .int x2, .int x3, .int x4, .int x5]) (n := 6) (Nat.le_of_ble_eq_true rfl)
  rw [lg_entry_eq]
  generalize (lg_sl ([.ref a0, .int x1, .int x2, .int x3, .int x4, .int x5]) ++ List.replicate (6 - (lg_sl ([.ref a0, .int x1, .int x2, .int x3, .int x4, .int x5])).length) Slot.unset).toArray = ls at hl ⊢
  have hl : lv_has ls 6 [(0, .ref a0), (1, .int x1), (2, .int x2), (3, .int x3), (4, .int x4), (5, .int x5)] := hl
  unfold fB_feed at hf
  refine lv_aload_n hx hb dB_feed_0 rfl (lv_at hl 0 rfl) ?_
  refine va_get (D := D) (ci := 0) (v := .ref a1) (C := "ValueBench") (T := TB) (N := 8) hx hb htx inB hown hK hP 0 rfl rfl 0 (by decide) (htx _ kw_1_95) (fun _ h9 => h9) rfl dB_feed_1 ?_
  obtain ⟨o1, hq2, hf⟩ := xbind hf
  obtain ⟨hPc, hDc, hFc⟩ := xcut (wc := [(a1, .inr (1, [.ref a2, .int v1, .int v2])), (a2, .inl (cT 0, 4096, .inl f0))]) hP hD hS hA [1, 2] rfl rfl (by decide)
  refine va_calli (va_runV (C := "ValueBench$Text") (As := []) (rest := []) ⟨hx, hb, hml, hown, htx⟩ (gT_size l hl9 D cT aK aV s.heap.size n a1 a2 f0 v1 v2 o1 hq2) ⟨callB_of 0 htx (xw_goodC kw_1_131) rfl rfl rfl (htx _ kw_1_2) (htx _ kw_1_128) ⟨by decide, by decide, by decide +kernel⟩ ⟨Nat.le_of_ble_eq_true rfl, Nat.le_of_ble_eq_true rfl⟩, (htx _ kw_1_129), (htx _ kw_1_130)⟩ ⟨xPre_blind, va_recv hK hP (ci := 1) rfl (q0 := 1) rfl, (fun U hU hW => ⟨rfl, xPre_of hZ hS hFc hPc hDc hK U hU hW⟩)⟩ rfl rfl hl.1 rfl (lv_room (Nat.le_of_ble_eq_true rfl)) dB_feed_4 ⟨Nat.le_of_ble_eq_true rfl, Nat.le_of_ble_eq_true rfl⟩) hS (fun q _ h => hFc q h) hFc (fun r3 u9 t H1 locs ht hvm hr9 hB hz1 hk1 hS => ?_)
  obtain ⟨hP1, hK1, hD1⟩ := hB
  rw [ht] at hP1
  obtain ⟨hP, hD⟩ := xjoin (W := [(a0, .inr (0, [.ref a1, .ref a3, .ref a5, .ref a7, .ref a8, .ref a13, .int v19, .int v20])), (a3, .inr (1, [.ref a4, .int v4, .int v5])), (a4, .inl (cT 0, 4096, .inl f3)), (a5, .inr (1, [.ref a6, .int v7, .int v8])), (a6, .inl (cT 0, 4096, .inl f6)), (a7, .inl (cT 3, 8, .inr (.inr (.inr (.inr rf0))))), (a8, .inr (3, [.ref a9, .ref a10, .ref p11, .ref p13, .int v15])), (a9, .inl (cT 1, 2048, .inl f9)), (a10, .inl (cT 1, 2048, .inl f10)), (p11, .inl (cT 1, 2048, .inl f12)), (p13, .inl (cT 1, 2048, .inl f14)), (a13, .inr (2, [.ref a14, .int v17, .int v18])), (a14, .inl (cT 2, 4096, .inr (.inl f16))), (a1, .inr (1, [.ref a2, .int v1, .int v2])), (a2, .inl (cT 0, 4096, .inl f0))]) hP hD [1, 2] [0, 3, 4, 5, 6, 7, 8, 9, 10, 11, 12, 13, 14] 13 rfl rfl (by decide) (by decide) hk1 hFc hP1 hD1
  generalize H1 = H at hP hS ⊢
  rw [hr9]
  refine W.eq (g2 := F0 m 7 ls [.int o1]) rfl ?_
  refine lv_bipush (v := 20) hx hb dB_feed_7 (by decide) ?_
  refine lv_iadd hx hb dB_feed_9 ?_
  refine lv_sipush (v := 4096) hx hb dB_feed_10 (by decide) ?_
  refine lv_icmp_le (tgt := 26) hx hb dB_feed_13 (by decide) (fun hc => ?_) (fun hc => ?_)
  · rw [if_pos hc] at hf
    refine lv_aload_n hx hb dB_feed_26 rfl (lv_at hl 0 rfl) ?_
    refine va_get (D := D) (ci := 0) (v := .ref a1) (C := "ValueBench") (T := TB) (N := 8) hx hb htx inB hown hK hP 0 rfl rfl 0 (by decide) (htx _ kw_1_95) (fun _ h9 => h9) rfl dB_feed_27 ?_
    refine lv_iload_n hx hb dB_feed_30 rfl (lv_at hl 1 rfl) ?_
    obtain ⟨o4, hq5, hf⟩ := xbind hf
    obtain ⟨hPc, hDc, hFc⟩ := xcut (wc := [(a1, .inr (1, [.ref a2, .int v1, .int v2])), (a2, .inl (cT 0, 4096, .inl f0))]) hP hD hS hA [13, 14] rfl rfl (by decide)
    refine va_callv (va_runV (C := "ValueBench$Text") (As := [.int x1]) (rest := []) ⟨hx, hb, hml, hown, htx⟩ (gT_addInt l hl9 D cT aK aV H.size n a1 a2 x1 f0 v1 v2 o4 hq5) ⟨callB_of 1 htx (xw_goodC kw_1_203) rfl rfl rfl (htx _ kw_1_2) (htx _ kw_1_200) ⟨by decide, by decide, by decide +kernel⟩ ⟨Nat.le_of_ble_eq_true rfl, Nat.le_of_ble_eq_true rfl⟩, (htx _ kw_1_201), (htx _ kw_1_202)⟩ ⟨xPre_blind, va_recv hK hP (ci := 1) rfl (q0 := 13) rfl, (fun U hU hW => ⟨rfl, xPre_of hZ hS hFc hPc hDc hK U hU hW⟩)⟩ rfl rfl hl.1 rfl (lv_room (Nat.le_of_ble_eq_true rfl)) dB_feed_31 ⟨Nat.le_of_ble_eq_true rfl, Nat.le_of_ble_eq_true rfl⟩) hS (fun q _ h => hFc q h) hFc (fun u9 t H1 locs ht hvm hr9 hB hz1 hk1 hS => ?_)
    obtain ⟨hP1, hK1, hD1⟩ := hB
    rw [ht] at hP1
    obtain ⟨hP, hD⟩ := xjoin (W := [(a0, .inr (0, [.ref a1, .ref a3, .ref a5, .ref a7, .ref a8, .ref a13, .int v19, .int v20])), (a3, .inr (1, [.ref a4, .int v4, .int v5])), (a4, .inl (cT 0, 4096, .inl f3)), (a5, .inr (1, [.ref a6, .int v7, .int v8])), (a6, .inl (cT 0, 4096, .inl f6)), (a7, .inl (cT 3, 8, .inr (.inr (.inr (.inr rf0))))), (a8, .inr (3, [.ref a9, .ref a10, .ref p11, .ref p13, .int v15])), (a9, .inl (cT 1, 2048, .inl f9)), (a10, .inl (cT 1, 2048, .inl f10)), (p11, .inl (cT 1, 2048, .inl f12)), (p13, .inl (cT 1, 2048, .inl f14)), (a13, .inr (2, [.ref a14, .int v17, .int v18])), (a14, .inl (cT 2, 4096, .inr (.inl f16))), (a1, .inr (1, [.ref a2, .int o4.2.1, .int o4.2.2])), (a2, .inl (cT 0, 4096, .inl o4.1))]) hP hD [13, 14] [0, 1, 2, 3, 4, 5, 6, 7, 8, 9, 10, 11, 12] 13 rfl rfl (by decide) (by decide) hk1 hFc hP1 hD1
    generalize H1 = H at hP hS ⊢
    refine lv_aload_n hx hb dB_feed_34 rfl (lv_at hl 0 rfl) ?_
    refine va_get (D := D) (ci := 0) (v := .ref a1) (C := "ValueBench") (T := TB) (N := 8) hx hb htx inB hown hK hP 0 rfl rfl 0 (by decide) (htx _ kw_1_95) (fun _ h9 => h9) rfl dB_feed_35 ?_
    refine lv_iload_n hx hb dB_feed_38 rfl (lv_at hl 2 rfl) ?_
    obtain ⟨o6, hq7, hf⟩ := xbind hf
    obtain ⟨hPc, hDc, hFc⟩ := xcut (wc := [(a1, .inr (1, [.ref a2, .int o4.2.1, .int o4.2.2])), (a2, .inl (cT 0, 4096, .inl o4.1))]) hP hD hS hA [13, 14] rfl rfl (by decide)
    refine va_callv (va_runV (C := "ValueBench$Text") (As := [.int x2]) (rest := []) ⟨hx, hb, hml, hown, htx⟩ (gT_addInt l hl9 D cT aK aV H.size n a1 a2 x2 o4.1 o4.2.1 o4.2.2 o6 hq7) ⟨callB_of 1 htx (xw_goodC kw_1_203) rfl rfl rfl (htx _ kw_1_2) (htx _ kw_1_200) ⟨by decide, by decide, by decide +kernel⟩ ⟨Nat.le_of_ble_eq_true rfl, Nat.le_of_ble_eq_true rfl⟩, (htx _ kw_1_201), (htx _ kw_1_202)⟩ ⟨xPre_blind, va_recv hK hP (ci := 1) rfl (q0 := 13) rfl, (fun U hU hW => ⟨rfl, xPre_of hZ hS hFc hPc hDc hK U hU hW⟩)⟩ rfl rfl hl.1 rfl (lv_room (Nat.le_of_ble_eq_true rfl)) dB_feed_39 ⟨Nat.le_of_ble_eq_true rfl, Nat.le_of_ble_eq_true rfl⟩) hS (fun q _ h => hFc q h) hFc (fun u9 t H1 locs ht hvm hr9 hB hz1 hk1 hS => ?_)
    obtain ⟨hP1, hK1, hD1⟩ := hB
    rw [ht] at hP1
    obtain ⟨hP, hD⟩ := xjoin (W := [(a0, .inr (0, [.ref a1, .ref a3, .ref a5, .ref a7, .ref a8, .ref a13, .int v19, .int v20])), (a3, .inr (1, [.ref a4, .int v4, .int v5])), (a4, .inl (cT 0, 4096, .inl f3)), (a5, .inr (1, [.ref a6, .int v7, .int v8])), (a6, .inl (cT 0, 4096, .inl f6)), (a7, .inl (cT 3, 8, .inr (.inr (.inr (.inr rf0))))), (a8, .inr (3, [.ref a9, .ref a10, .ref p11, .ref p13, .int v15])), (a9, .inl (cT 1, 2048, .inl f9)), (a10, .inl (cT 1, 2048, .inl f10)), (p11, .inl (cT 1, 2048, .inl f12)), (p13, .inl (cT 1, 2048, .inl f14)), (a13, .inr (2, [.ref a14, .int v17, .int v18])), (a14, .inl (cT 2, 4096, .inr (.inl f16))), (a1, .inr (1, [.ref a2, .int o6.2.1, .int o6.2.2])), (a2, .inl (cT 0, 4096, .inl o6.1))]) hP hD [13, 14] [0, 1, 2, 3, 4, 5, 6, 7, 8, 9, 10, 11, 12] 13 rfl rfl (by decide) (by decide) hk1 hFc hP1 hD1
    generalize H1 = H at hP hS ⊢
    refine lv_aload_n hx hb dB_feed_42 rfl (lv_at hl 0 rfl) ?_
    refine va_get (D := D) (ci := 0) (v := .ref a1) (C := "ValueBench") (T := TB) (N := 8) hx hb htx inB hown hK hP 0 rfl rfl 0 (by decide) (htx _ kw_1_95) (fun _ h9 => h9) rfl dB_feed_43 ?_
    refine lv_iload_n hx hb dB_feed_46 rfl (lv_at hl 3 rfl) ?_
    obtain ⟨o8, hq9, hf⟩ := xbind hf
    obtain ⟨hPc, hDc, hFc⟩ := xcut (wc := [(a1, .inr (1, [.ref a2, .int o6.2.1, .int o6.2.2])), (a2, .inl (cT 0, 4096, .inl o6.1))]) hP hD hS hA [13, 14] rfl rfl (by decide)
    refine va_callv (va_runV (C := "ValueBench$Text") (As := [.int x3]) (rest := []) ⟨hx, hb, hml, hown, htx⟩ (gT_addInt l hl9 D cT aK aV H.size n a1 a2 x3 o6.1 o6.2.1 o6.2.2 o8 hq9) ⟨callB_of 1 htx (xw_goodC kw_1_203) rfl rfl rfl (htx _ kw_1_2) (htx _ kw_1_200) ⟨by decide, by decide, by decide +kernel⟩ ⟨Nat.le_of_ble_eq_true rfl, Nat.le_of_ble_eq_true rfl⟩, (htx _ kw_1_201), (htx _ kw_1_202)⟩ ⟨xPre_blind, va_recv hK hP (ci := 1) rfl (q0 := 13) rfl, (fun U hU hW => ⟨rfl, xPre_of hZ hS hFc hPc hDc hK U hU hW⟩)⟩ rfl rfl hl.1 rfl (lv_room (Nat.le_of_ble_eq_true rfl)) dB_feed_47 ⟨Nat.le_of_ble_eq_true rfl, Nat.le_of_ble_eq_true rfl⟩) hS (fun q _ h => hFc q h) hFc (fun u9 t H1 locs ht hvm hr9 hB hz1 hk1 hS => ?_)
    obtain ⟨hP1, hK1, hD1⟩ := hB
    rw [ht] at hP1
    obtain ⟨hP, hD⟩ := xjoin (W := [(a0, .inr (0, [.ref a1, .ref a3, .ref a5, .ref a7, .ref a8, .ref a13, .int v19, .int v20])), (a3, .inr (1, [.ref a4, .int v4, .int v5])), (a4, .inl (cT 0, 4096, .inl f3)), (a5, .inr (1, [.ref a6, .int v7, .int v8])), (a6, .inl (cT 0, 4096, .inl f6)), (a7, .inl (cT 3, 8, .inr (.inr (.inr (.inr rf0))))), (a8, .inr (3, [.ref a9, .ref a10, .ref p11, .ref p13, .int v15])), (a9, .inl (cT 1, 2048, .inl f9)), (a10, .inl (cT 1, 2048, .inl f10)), (p11, .inl (cT 1, 2048, .inl f12)), (p13, .inl (cT 1, 2048, .inl f14)), (a13, .inr (2, [.ref a14, .int v17, .int v18])), (a14, .inl (cT 2, 4096, .inr (.inl f16))), (a1, .inr (1, [.ref a2, .int o8.2.1, .int o8.2.2])), (a2, .inl (cT 0, 4096, .inl o8.1))]) hP hD [13, 14] [0, 1, 2, 3, 4, 5, 6, 7, 8, 9, 10, 11, 12] 13 rfl rfl (by decide) (by decide) hk1 hFc hP1 hD1
    generalize H1 = H at hP hS ⊢
    refine lv_aload_n hx hb dB_feed_50 rfl (lv_at hl 0 rfl) ?_
    refine va_get (D := D) (ci := 0) (v := .ref a1) (C := "ValueBench") (T := TB) (N := 8) hx hb htx inB hown hK hP 0 rfl rfl 0 (by decide) (htx _ kw_1_95) (fun _ h9 => h9) rfl dB_feed_51 ?_
    refine lv_iload hx hb dB_feed_54 (lv_at hl 4 rfl) ?_
    obtain ⟨o10, hq11, hf⟩ := xbind hf
    obtain ⟨hPc, hDc, hFc⟩ := xcut (wc := [(a1, .inr (1, [.ref a2, .int o8.2.1, .int o8.2.2])), (a2, .inl (cT 0, 4096, .inl o8.1))]) hP hD hS hA [13, 14] rfl rfl (by decide)
    refine va_callv (va_runV (C := "ValueBench$Text") (As := [.int x4]) (rest := []) ⟨hx, hb, hml, hown, htx⟩ (gT_addInt l hl9 D cT aK aV H.size n a1 a2 x4 o8.1 o8.2.1 o8.2.2 o10 hq11) ⟨callB_of 1 htx (xw_goodC kw_1_203) rfl rfl rfl (htx _ kw_1_2) (htx _ kw_1_200) ⟨by decide, by decide, by decide +kernel⟩ ⟨Nat.le_of_ble_eq_true rfl, Nat.le_of_ble_eq_true rfl⟩, (htx _ kw_1_201), (htx _ kw_1_202)⟩ ⟨xPre_blind, va_recv hK hP (ci := 1) rfl (q0 := 13) rfl, (fun U hU hW => ⟨rfl, xPre_of hZ hS hFc hPc hDc hK U hU hW⟩)⟩ rfl rfl hl.1 rfl (lv_room (Nat.le_of_ble_eq_true rfl)) dB_feed_56 ⟨Nat.le_of_ble_eq_true rfl, Nat.le_of_ble_eq_true rfl⟩) hS (fun q _ h => hFc q h) hFc (fun u9 t H1 locs ht hvm hr9 hB hz1 hk1 hS => ?_)
    obtain ⟨hP1, hK1, hD1⟩ := hB
    rw [ht] at hP1
    obtain ⟨hP, hD⟩ := xjoin (W := [(a0, .inr (0, [.ref a1, .ref a3, .ref a5, .ref a7, .ref a8, .ref a13, .int v19, .int v20])), (a3, .inr (1, [.ref a4, .int v4, .int v5])), (a4, .inl (cT 0, 4096, .inl f3)), (a5, .inr (1, [.ref a6, .int v7, .int v8])), (a6, .inl (cT 0, 4096, .inl f6)), (a7, .inl (cT 3, 8, .inr (.inr (.inr (.inr rf0))))), (a8, .inr (3, [.ref a9, .ref a10, .ref p11, .ref p13, .int v15])), (a9, .inl (cT 1, 2048, .inl f9)), (a10, .inl (cT 1, 2048, .inl f10)), (p11, .inl (cT 1, 2048, .inl f12)), (p13, .inl (cT 1, 2048, .inl f14)), (a13, .inr (2, [.ref a14, .int v17, .int v18])), (a14, .inl (cT 2, 4096, .inr (.inl f16))), (a1, .inr (1, [.ref a2, .int o10.2.1, .int o10.2.2])), (a2, .inl (cT 0, 4096, .inl o10.1))]) hP hD [13, 14] [0, 1, 2, 3, 4, 5, 6, 7, 8, 9, 10, 11, 12] 13 rfl rfl (by decide) (by decide) hk1 hFc hP1 hD1
    generalize H1 = H at hP hS ⊢
    refine lv_aload_n hx hb dB_feed_59 rfl (lv_at hl 0 rfl) ?_
    refine va_get (D := D) (ci := 0) (v := .ref a1) (C := "ValueBench") (T := TB) (N := 8) hx hb htx inB hown hK hP 0 rfl rfl 0 (by decide) (htx _ kw_1_95) (fun _ h9 => h9) rfl dB_feed_60 ?_
    refine lv_iload hx hb dB_feed_63 (lv_at hl 5 rfl) ?_
    obtain ⟨o12, hq13, hf⟩ := xbind hf
    obtain ⟨hPc, hDc, hFc⟩ := xcut (wc := [(a1, .inr (1, [.ref a2, .int o10.2.1, .int o10.2.2])), (a2, .inl (cT 0, 4096, .inl o10.1))]) hP hD hS hA [13, 14] rfl rfl (by decide)
    refine va_callv (va_runV (C := "ValueBench$Text") (As := [.int x5]) (rest := []) ⟨hx, hb, hml, hown, htx⟩ (gT_addInt l hl9 D cT aK aV H.size n a1 a2 x5 o10.1 o10.2.1 o10.2.2 o12 hq13) ⟨callB_of 1 htx (xw_goodC kw_1_203) rfl rfl rfl (htx _ kw_1_2) (htx _ kw_1_200) ⟨by decide, by decide, by decide +kernel⟩ ⟨Nat.le_of_ble_eq_true rfl, Nat.le_of_ble_eq_true rfl⟩, (htx _ kw_1_201), (htx _ kw_1_202)⟩ ⟨xPre_blind, va_recv hK hP (ci := 1) rfl (q0 := 13) rfl, (fun U hU hW => ⟨rfl, xPre_of hZ hS hFc hPc hDc hK U hU hW⟩)⟩ rfl rfl hl.1 rfl (lv_room (Nat.le_of_ble_eq_true rfl)) dB_feed_65 ⟨Nat.le_of_ble_eq_true rfl, Nat.le_of_ble_eq_true rfl⟩) hS (fun q _ h => hFc q h) hFc (fun u9 t H1 locs ht hvm hr9 hB hz1 hk1 hS => ?_)
    obtain ⟨hP1, hK1, hD1⟩ := hB
    rw [ht] at hP1
    obtain ⟨hP, hD⟩ := xjoin (W := [(a0, .inr (0, [.ref a1, .ref a3, .ref a5, .ref a7, .ref a8, .ref a13, .int v19, .int v20])), (a3, .inr (1, [.ref a4, .int v4, .int v5])), (a4, .inl (cT 0, 4096, .inl f3)), (a5, .inr (1, [.ref a6, .int v7, .int v8])), (a6, .inl (cT 0, 4096, .inl f6)), (a7, .inl (cT 3, 8, .inr (.inr (.inr (.inr rf0))))), (a8, .inr (3, [.ref a9, .ref a10, .ref p11, .ref p13, .int v15])), (a9, .inl (cT 1, 2048, .inl f9)), (a10, .inl (cT 1, 2048, .inl f10)), (p11, .inl (cT 1, 2048, .inl f12)), (p13, .inl (cT 1, 2048, .inl f14)), (a13, .inr (2, [.ref a14, .int v17, .int v18])), (a14, .inl (cT 2, 4096, .inr (.inl f16))), (a1, .inr (1, [.ref a2, .int o12.2.1, .int o12.2.2])), (a2, .inl (cT 0, 4096, .inl o12.1))]) hP hD [13, 14] [0, 1, 2, 3, 4, 5, 6, 7, 8, 9, 10, 11, 12] 13 rfl rfl (by decide) (by decide) hk1 hFc hP1 hD1
    generalize H1 = H at hP hS ⊢
    refine lv_aload_n hx hb dB_feed_68 rfl (lv_at hl 0 rfl) ?_
    refine va_get (D := D) (ci := 0) (v := .ref a1) (C := "ValueBench") (T := TB) (N := 8) hx hb htx inB hown hK hP 0 rfl rfl 0 (by decide) (htx _ kw_1_95) (fun _ h9 => h9) rfl dB_feed_69 ?_
    obtain ⟨o14, hq15, hf⟩ := xbind hf
    obtain ⟨hPc, hDc, hFc⟩ := xcut (wc := [(a1, .inr (1, [.ref a2, .int o12.2.1, .int o12.2.2])), (a2, .inl (cT 0, 4096, .inl o12.1))]) hP hD hS hA [13, 14] rfl rfl (by decide)
    refine va_calli (va_runV (C := "ValueBench$Text") (As := []) (rest := []) ⟨hx, hb, hml, hown, htx⟩ (gT_size l hl9 D cT aK aV H.size n a1 a2 o12.1 o12.2.1 o12.2.2 o14 hq15) ⟨callB_of 0 htx (xw_goodC kw_1_131) rfl rfl rfl (htx _ kw_1_2) (htx _ kw_1_128) ⟨by decide, by decide, by decide +kernel⟩ ⟨Nat.le_of_ble_eq_true rfl, Nat.le_of_ble_eq_true rfl⟩, (htx _ kw_1_129), (htx _ kw_1_130)⟩ ⟨xPre_blind, va_recv hK hP (ci := 1) rfl (q0 := 13) rfl, (fun U hU hW => ⟨rfl, xPre_of hZ hS hFc hPc hDc hK U hU hW⟩)⟩ rfl rfl hl.1 rfl (lv_room (Nat.le_of_ble_eq_true rfl)) dB_feed_72 ⟨Nat.le_of_ble_eq_true rfl, Nat.le_of_ble_eq_true rfl⟩) hS (fun q _ h => hFc q h) hFc (fun r16 u9 t H1 locs ht hvm hr9 hB hz1 hk1 hS => ?_)
    obtain ⟨hP1, hK1, hD1⟩ := hB
    rw [ht] at hP1
    obtain ⟨hP, hD⟩ := xjoin (W := [(a0, .inr (0, [.ref a1, .ref a3, .ref a5, .ref a7, .ref a8, .ref a13, .int v19, .int v20])), (a3, .inr (1, [.ref a4, .int v4, .int v5])), (a4, .inl (cT 0, 4096, .inl f3)), (a5, .inr (1, [.ref a6, .int v7, .int v8])), (a6, .inl (cT 0, 4096, .inl f6)), (a7, .inl (cT 3, 8, .inr (.inr (.inr (.inr rf0))))), (a8, .inr (3, [.ref a9, .ref a10, .ref p11, .ref p13, .int v15])), (a9, .inl (cT 1, 2048, .inl f9)), (a10, .inl (cT 1, 2048, .inl f10)), (p11, .inl (cT 1, 2048, .inl f12)), (p13, .inl (cT 1, 2048, .inl f14)), (a13, .inr (2, [.ref a14, .int v17, .int v18])), (a14, .inl (cT 2, 4096, .inr (.inl f16))), (a1, .inr (1, [.ref a2, .int o12.2.1, .int o12.2.2])), (a2, .inl (cT 0, 4096, .inl o12.1))]) hP hD [13, 14] [0, 1, 2, 3, 4, 5, 6, 7, 8, 9, 10, 11, 12] 13 rfl rfl (by decide) (by decide) hk1 hFc hP1 hD1
    generalize H1 = H at hP hS ⊢
    rw [hr9]
    refine W.eq (g2 := F0 m 75 ls [.int o14]) rfl ?_
    obtain rfl := Option.some.inj hf
    obtain ⟨hP9, hD9⟩ := xsub (wc := [(a0, .inr (0, [.ref a1, .ref a3, .ref a5, .ref a7, .ref a8, .ref a13, .int v19, .int v20])), (a1, .inr (1, [.ref a2, .int o12.2.1, .int o12.2.2])), (a2, .inl (cT 0, 4096, .inl o12.1)), (a3, .inr (1, [.ref a4, .int v4, .int v5])), (a4, .inl (cT 0, 4096, .inl f3)), (a5, .inr (1, [.ref a6, .int v7, .int v8])), (a6, .inl (cT 0, 4096, .inl f6)), (a7, .inl (cT 3, 8, .inr (.inr (.inr (.inr rf0))))), (a8, .inr (3, [.ref a9, .ref a10, .ref p11, .ref p13, .int v15])), (a9, .inl (cT 1, 2048, .inl f9)), (a10, .inl (cT 1, 2048, .inl f10)), (p11, .inl (cT 1, 2048, .inl f12)), (p13, .inl (cT 1, 2048, .inl f14)), (a13, .inr (2, [.ref a14, .int v17, .int v18])), (a14, .inl (cT 2, 4096, .inr (.inl f16)))]) hP hD [0, 13, 14, 1, 2, 3, 4, 5, 6, 7, 8, 9, 10, 11, 12] rfl rfl (by decide)
    refine W.widen (k := 1) (n := 6) (Nat.le_of_ble_eq_true rfl) (Nat.le_of_ble_eq_true rfl) ?_
    exact W.iret (v := o14) hx hb hr (fun t ht hW => ⟨⟨o14, (), rfl, rfl, by rw [ht]; exact hP9, va_K.moved hW.alike hK, hD9⟩, hS.F ht⟩) hS.2.2 dB_feed_75
  · rw [if_neg hc] at hf
    obtain rfl := Option.some.inj hf
    exact absurd (show (1 : Nat) = 0 from hkd) (by decide)
set_option maxHeartbeats 400000000 in
set_option maxRecDepth 100000 in
theorem gB_feed_1 (l : Launch) (hl9 : l.stackTraces = false) (D : va_G) (cT : Nat → ClassId) (aK aV : Nat → Nat) (sz n : Nat) (a0 : Nat) (a1 : Nat) (a2 : Nat) (a3 : Nat) (a4 : Nat) (a5 : Nat) (a6 : Nat) (a7 : Nat) (a8 : Nat) (a9 : Nat) (a10 : Nat) (a13 : Nat) (a14 : Nat) (rf0 : Nat → Option Nat) (x1 : Int32) (x2 : Int32) (x3 : Int32) (x4 : Int32) (x5 : Int32) (f0 : Nat → Int32) (v1 : Int32) (v2 : Int32) (f3 : Nat → Int32) (v4 : Int32) (v5 : Int32) (f6 : Nat → Int32) (v7 : Int32) (v8 : Int32) (f9 : Nat → Int32) (f10 : Nat → Int32) (p11 : Nat) (f12 : Nat → Int32) (p13 : Nat) (f14 : Nat → Int32) (v15 : Int32) (f16 : Nat → Int64) (v17 : Int32) (v18 : Int32) (v19 : Int32) (v20 : Int32) (out : Nat × Int32 × (Nat → Int32) × Int32 × Int32) (hf : fB_feed n x1 x2 x3 x4 x5 f0 v1 v2 f3 v4 v5 f6 v7 v8 f9 f10 p11 f12 p13 f14 v15 f16 v17 v18 v19 v20 = some out) (hkd : out.1 = 1) : xMetX l yB_feed wyB_feed 6 1 6 100 D cT aK aV sz [.ref a0, .int x1, .int x2, .int x3, .int x4, .int x5] [(a0, .inr (0, [.ref a1, .ref a3, .ref a5, .ref a7, .ref a8, .ref a13, .int v19, .int v20])), (a1, .inr (1, [.ref a2, .int v1, .int v2])), (a2, .inl (cT 0, 4096, .inl f0)), (a3, .inr (1, [.ref a4, .int v4, .int v5])), (a4, .inl (cT 0, 4096, .inl f3)), (a5, .inr (1, [.ref a6, .int v7, .int v8])), (a6, .inl (cT 0, 4096, .inl f6)), (a7, .inl (cT 3, 8, .inr (.inr (.inr (.inr rf0))))), (a8, .inr (3, [.ref a9, .ref a10, .ref p11, .ref p13, .int v15])), (a9, .inl (cT 1, 2048, .inl f9)), (a10, .inl (cT 1, 2048, .inl f10)), (p11, .inl (cT 1, 2048, .inl f12)), (p13, .inl (cT 1, 2048, .inl f14)), (a13, .inr (2, [.ref a14, .int v17, .int v18])), (a14, .inl (cT 2, 4096, .inr (.inl f16)))] "java/lang/IndexOutOfBoundsException" (fun A t => xB D xcl cT A [(a0, .inr (0, [.ref a1, .ref a3, .ref a5, .ref a7, .ref a8, .ref a13, .int v19, .int v20])), (a1, .inr (1, [.ref a2, .int out.2.2.2.1, .int out.2.2.2.2])), (a2, .inl (cT 0, 4096, .inl out.2.2.1)), (a3, .inr (1, [.ref a4, .int v4, .int v5])), (a4, .inl (cT 0, 4096, .inl f3)), (a5, .inr (1, [.ref a6, .int v7, .int v8])), (a6, .inl (cT 0, 4096, .inl f6)), (a7, .inl (cT 3, 8, .inr (.inr (.inr (.inr rf0))))), (a8, .inr (3, [.ref a9, .ref a10, .ref p11, .ref p13, .int v15])), (a9, .inl (cT 1, 2048, .inl f9)), (a10, .inl (cT 1, 2048, .inl f10)), (p11, .inl (cT 1, 2048, .inl f12)), (p13, .inl (cT 1, 2048, .inl f14)), (a13, .inr (2, [.ref a14, .int v17, .int v18])), (a14, .inl (cT 2, 4096, .inr (.inl f16)))] t) := by
  refine vx_ofW (cc := prog_1_method_2_code) (maxL := 6) (ret := (some .int)) (by decide) rfl ?_
  intro p e s m args below meth c s₁ B hml hne hv
  obtain ⟨rfl, hsz, hZ, hP, hK, hD0⟩ := hv
  have hx := B.exec
  have hb := B.bytes
  have hr := B.returns
  have hts := atoms_spec (ws := wyB_feed) B.pre
  have htx := fun w h => hts w (List.mem_cons_of_mem _ h)
  have hown : s.vm.findClass "ValueBench" = some m.cls := findClass_of_methodNamed B.named
  have hlocks := B.notSynchronized
  subst hsz
  have hD := hD0.self (sz := s.heap.size)
  generalize hAe : va_A [(a0, .inr (0, [.ref a1, .ref a3, .ref a5, .ref a7, .ref a8, .ref a13, .int v19, .int v20])), (a1, .inr (1, [.ref a2, .int v1, .int v2])), (a2, .inl (cT 0, 4096, .inl f0)), (a3, .inr (1, [.ref a4, .int v4, .int v5])), (a4, .inl (cT 0, 4096, .inl f3)), (a5, .inr (1, [.ref a6, .int v7, .int v8])), (a6, .inl (cT 0, 4096, .inl f6)), (a7, .inl (cT 3, 8, .inr (.inr (.inr (.inr rf0))))), (a8, .inr (3, [.ref a9, .ref a10, .ref p11, .ref p13, .int v15])), (a9, .inl (cT 1, 2048, .inl f9)), (a10, .inl (cT 1, 2048, .inl f10)), (p11, .inl (cT 1, 2048, .inl f12)), (p13, .inl (cT 1, 2048, .inl f14)), (a13, .inr (2, [.ref a14, .int v17, .int v18])), (a14, .inl (cT 2, 4096, .inr (.inl f16)))] s.heap.size = A at hD hZ ⊢
  have hA : ∀ q : Nat, s.heap.size ≤ q → A q := fun q h => by rw [← hAe]; exact Or.inr h
  have hS : va_S A s.heap s.heap [] := va_S.rf
  have hP : va_P D xcl [(a0, .inr (0, [.ref a1, .ref a3, .ref a5, .ref a7, .ref a8, .ref a13, .int v19, .int v20])), (a1, .inr (1, [.ref a2, .int v1, .int v2])), (a2, .inl (cT 0, 4096, .inl f0)), (a3, .inr (1, [.ref a4, .int v4, .int v5])), (a4, .inl (cT 0, 4096, .inl f3)), (a5, .inr (1, [.ref a6, .int v7, .int v8])), (a6, .inl (cT 0, 4096, .inl f6)), (a7, .inl (cT 3, 8, .inr (.inr (.inr (.inr rf0))))), (a8, .inr (3, [.ref a9, .ref a10, .ref p11, .ref p13, .int v15])), (a9, .inl (cT 1, 2048, .inl f9)), (a10, .inl (cT 1, 2048, .inl f10)), (p11, .inl (cT 1, 2048, .inl f12)), (p13, .inl (cT 1, 2048, .inl f14)), (a13, .inr (2, [.ref a14, .int v17, .int v18])), (a14, .inl (cT 2, 4096, .inr (.inl f16)))] s.heap := hP
  have hl := lv_entry ([.ref a0, .int x1, .int x2, .int x3, .int x4, .int x5]) (n := 6) (Nat.le_of_ble_eq_true rfl)
  rw [lg_entry_eq]
  generalize (lg_sl ([.ref a0, .int x1, .int x2, .int x3, .int x4, .int x5]) ++ List.replicate (6 - (lg_sl ([.ref a0, .int x1, .int x2, .int x3, .int x4, .int x5])).length) Slot.unset).toArray = ls at hl ⊢
  have hl : lv_has ls 6 [(0, .ref a0), (1, .int x1), (2, .int x2), (3, .int x3), (4, .int x4), (5, .int x5)] := hl
  unfold fB_feed at hf
  refine lv_aload_n hx hb dB_feed_0 rfl (lv_at hl 0 rfl) ?_
  refine va_get (D := D) (ci := 0) (v := .ref a1) (C := "ValueBench") (T := TB) (N := 8) hx hb htx inB hown hK hP 0 rfl rfl 0 (by decide) (htx _ kw_1_95) (fun _ h9 => h9) rfl dB_feed_1 ?_
  obtain ⟨o1, hq2, hf⟩ := xbind hf
  obtain ⟨hPc, hDc, hFc⟩ := xcut (wc := [(a1, .inr (1, [.ref a2, .int v1, .int v2])), (a2, .inl (cT 0, 4096, .inl f0))]) hP hD hS hA [1, 2] rfl rfl (by decide)
  refine va_calli (va_runV (C := "ValueBench$Text") (As := []) (rest := []) ⟨hx, hb, hml, hown, htx⟩ (gT_size l hl9 D cT aK aV s.heap.size n a1 a2 f0 v1 v2 o1 hq2) ⟨callB_of 0 htx (xw_goodC kw_1_131) rfl rfl rfl (htx _ kw_1_2) (htx _ kw_1_128) ⟨by decide, by decide, by decide +kernel⟩ ⟨Nat.le_of_ble_eq_true rfl, Nat.le_of_ble_eq_true rfl⟩, (htx _ kw_1_129), (htx _ kw_1_130)⟩ ⟨xPre_blind, va_recv hK hP (ci := 1) rfl (q0 := 1) rfl, (fun U hU hW => ⟨rfl, xPre_of hZ hS hFc hPc hDc hK U hU hW⟩)⟩ rfl rfl hl.1 rfl (lv_room (Nat.le_of_ble_eq_true rfl)) dB_feed_4 ⟨Nat.le_of_ble_eq_true rfl, Nat.le_of_ble_eq_true rfl⟩) hS (fun q _ h => hFc q h) hFc (fun r3 u9 t H1 locs ht hvm hr9 hB hz1 hk1 hS => ?_)
  obtain ⟨hP1, hK1, hD1⟩ := hB
  rw [ht] at hP1
  obtain ⟨hP, hD⟩ := xjoin (W := [(a0, .inr (0, [.ref a1, .ref a3, .ref a5, .ref a7, .ref a8, .ref a13, .int v19, .int v20])), (a3, .inr (1, [.ref a4, .int v4, .int v5])), (a4, .inl (cT 0, 4096, .inl f3)), (a5, .inr (1, [.ref a6, .int v7, .int v8])), (a6, .inl (cT 0, 4096, .inl f6)), (a7, .inl (cT 3, 8, .inr (.inr (.inr (.inr rf0))))), (a8, .inr (3, [.ref a9, .ref a10, .ref p11, .ref p13, .int v15])), (a9, .inl (cT 1, 2048, .inl f9)), (a10, .inl (cT 1, 2048, .inl f10)), (p11, .inl (cT 1, 2048, .inl f12)), (p13, .inl (cT 1, 2048, .inl f14)), (a13, .inr (2, [.ref a14, .int v17, .int v18])), (a14, .inl (cT 2, 4096, .inr (.inl f16))), (a1, .inr (1, [.ref a2, .int v1, .int v2])), (a2, .inl (cT 0, 4096, .inl f0))]) hP hD [1, 2] [0, 3, 4, 5, 6, 7, 8, 9, 10, 11, 12, 13, 14] 13 rfl rfl (by decide) (by decide) hk1 hFc hP1 hD1
  generalize H1 = H at hP hS ⊢
  rw [hr9]
  refine W.eq (g2 := F0 m 7 ls [.int o1]) rfl ?_
  refine lv_bipush (v := 20) hx hb dB_feed_7 (by decide) ?_
  refine lv_iadd hx hb dB_feed_9 ?_
  refine lv_sipush (v := 4096) hx hb dB_feed_10 (by decide) ?_
  refine lv_icmp_le (tgt := 26) hx hb dB_feed_13 (by decide) (fun hc => ?_) (fun hc => ?_)
  · rw [if_pos hc] at hf
    refine lv_aload_n hx hb dB_feed_26 rfl (lv_at hl 0 rfl) ?_
    refine va_get (D := D) (ci := 0) (v := .ref a1) (C := "ValueBench") (T := TB) (N := 8) hx hb htx inB hown hK hP 0 rfl rfl 0 (by decide) (htx _ kw_1_95) (fun _ h9 => h9) rfl dB_feed_27 ?_
    refine lv_iload_n hx hb dB_feed_30 rfl (lv_at hl 1 rfl) ?_
    obtain ⟨o4, hq5, hf⟩ := xbind hf
    obtain ⟨hPc, hDc, hFc⟩ := xcut (wc := [(a1, .inr (1, [.ref a2, .int v1, .int v2])), (a2, .inl (cT 0, 4096, .inl f0))]) hP hD hS hA [13, 14] rfl rfl (by decide)
    refine va_callv (va_runV (C := "ValueBench$Text") (As := [.int x1]) (rest := []) ⟨hx, hb, hml, hown, htx⟩ (gT_addInt l hl9 D cT aK aV H.size n a1 a2 x1 f0 v1 v2 o4 hq5) ⟨callB_of 1 htx (xw_goodC kw_1_203) rfl rfl rfl (htx _ kw_1_2) (htx _ kw_1_200) ⟨by decide, by decide, by decide +kernel⟩ ⟨Nat.le_of_ble_eq_true rfl, Nat.le_of_ble_eq_true rfl⟩, (htx _ kw_1_201), (htx _ kw_1_202)⟩ ⟨xPre_blind, va_recv hK hP (ci := 1) rfl (q0 := 13) rfl, (fun U hU hW => ⟨rfl, xPre_of hZ hS hFc hPc hDc hK U hU hW⟩)⟩ rfl rfl hl.1 rfl (lv_room (Nat.le_of_ble_eq_true rfl)) dB_feed_31 ⟨Nat.le_of_ble_eq_true rfl, Nat.le_of_ble_eq_true rfl⟩) hS (fun q _ h => hFc q h) hFc (fun u9 t H1 locs ht hvm hr9 hB hz1 hk1 hS => ?_)
    obtain ⟨hP1, hK1, hD1⟩ := hB
    rw [ht] at hP1
    obtain ⟨hP, hD⟩ := xjoin (W := [(a0, .inr (0, [.ref a1, .ref a3, .ref a5, .ref a7, .ref a8, .ref a13, .int v19, .int v20])), (a3, .inr (1, [.ref a4, .int v4, .int v5])), (a4, .inl (cT 0, 4096, .inl f3)), (a5, .inr (1, [.ref a6, .int v7, .int v8])), (a6, .inl (cT 0, 4096, .inl f6)), (a7, .inl (cT 3, 8, .inr (.inr (.inr (.inr rf0))))), (a8, .inr (3, [.ref a9, .ref a10, .ref p11, .ref p13, .int v15])), (a9, .inl (cT 1, 2048, .inl f9)), (a10, .inl (cT 1, 2048, .inl f10)), (p11, .inl (cT 1, 2048, .inl f12)), (p13, .inl (cT 1, 2048, .inl f14)), (a13, .inr (2, [.ref a14, .int v17, .int v18])), (a14, .inl (cT 2, 4096, .inr (.inl f16))), (a1, .inr (1, [.ref a2, .int o4.2.1, .int o4.2.2])), (a2, .inl (cT 0, 4096, .inl o4.1))]) hP hD [13, 14] [0, 1, 2, 3, 4, 5, 6, 7, 8, 9, 10, 11, 12] 13 rfl rfl (by decide) (by decide) hk1 hFc hP1 hD1
    generalize H1 = H at hP hS ⊢
    refine lv_aload_n hx hb dB_feed_34 rfl (lv_at hl 0 rfl) ?_
    refine va_get (D := D) (ci := 0) (v := .ref a1) (C := "ValueBench") (T := TB) (N := 8) hx hb htx inB hown hK hP 0 rfl rfl 0 (by decide) (htx _ kw_1_95) (fun _ h9 => h9) rfl dB_feed_35 ?_
    refine lv_iload_n hx hb dB_feed_38 rfl (lv_at hl 2 rfl) ?_
    obtain ⟨o6, hq7, hf⟩ := xbind hf
    obtain ⟨hPc, hDc, hFc⟩ := xcut (wc := [(a1, .inr (1, [.ref a2, .int o4.2.1, .int o4.2.2])), (a2, .inl (cT 0, 4096, .inl o4.1))]) hP hD hS hA [13, 14] rfl rfl (by decide)
    refine va_callv (va_runV (C := "ValueBench$Text") (As := [.int x2]) (rest := []) ⟨hx, hb, hml, hown, htx⟩ (gT_addInt l hl9 D cT aK aV H.size n a1 a2 x2 o4.1 o4.2.1 o4.2.2 o6 hq7) ⟨callB_of 1 htx (xw_goodC kw_1_203) rfl rfl rfl (htx _ kw_1_2) (htx _ kw_1_200) ⟨by decide, by decide, by decide +kernel⟩ ⟨Nat.le_of_ble_eq_true rfl, Nat.le_of_ble_eq_true rfl⟩, (htx _ kw_1_201), (htx _ kw_1_202)⟩ ⟨xPre_blind, va_recv hK hP (ci := 1) rfl (q0 := 13) rfl, (fun U hU hW => ⟨rfl, xPre_of hZ hS hFc hPc hDc hK U hU hW⟩)⟩ rfl rfl hl.1 rfl (lv_room (Nat.le_of_ble_eq_true rfl)) dB_feed_39 ⟨Nat.le_of_ble_eq_true rfl, Nat.le_of_ble_eq_true rfl⟩) hS (fun q _ h => hFc q h) hFc (fun u9 t H1 locs ht hvm hr9 hB hz1 hk1 hS => ?_)
    obtain ⟨hP1, hK1, hD1⟩ := hB
    rw [ht] at hP1
    obtain ⟨hP, hD⟩ := xjoin (W := [(a0, .inr (0, [.ref a1, .ref a3, .ref a5, .ref a7, .ref a8, .ref a13, .int v19, .int v20])), (a3, .inr (1, [.ref a4, .int v4, .int v5])), (a4, .inl (cT 0, 4096, .inl f3)), (a5, .inr (1, [.ref a6, .int v7, .int v8])), (a6, .inl (cT 0, 4096, .inl f6)), (a7, .inl (cT 3, 8, .inr (.inr (.inr (.inr rf0))))), (a8, .inr (3, [.ref a9, .ref a10, .ref p11, .ref p13, .int v15])), (a9, .inl (cT 1, 2048, .inl f9)), (a10, .inl (cT 1, 2048, .inl f10)), (p11, .inl (cT 1, 2048, .inl f12)), (p13, .inl (cT 1, 2048, .inl f14)), (a13, .inr (2, [.ref a14, .int v17, .int v18])), (a14, .inl (cT 2, 4096, .inr (.inl f16))), (a1, .inr (1, [.ref a2, .int o6.2.1, .int o6.2.2])), (a2, .inl (cT 0, 4096, .inl o6.1))]) hP hD [13, 14] [0, 1, 2, 3, 4, 5, 6, 7, 8, 9, 10, 11, 12] 13 rfl rfl (by decide) (by decide) hk1 hFc hP1 hD1
    generalize H1 = H at hP hS ⊢
    refine lv_aload_n hx hb dB_feed_42 rfl (lv_at hl 0 rfl) ?_
    refine va_get (D := D) (ci := 0) (v := .ref a1) (C := "ValueBench") (T := TB) (N := 8) hx hb htx inB hown hK hP 0 rfl rfl 0 (by decide) (htx _ kw_1_95) (fun _ h9 => h9) rfl dB_feed_43 ?_
    refine lv_iload_n hx hb dB_feed_46 rfl (lv_at hl 3 rfl) ?_
    obtain ⟨o8, hq9, hf⟩ := xbind hf
    obtain ⟨hPc, hDc, hFc⟩ := xcut (wc := [(a1, .inr (1, [.ref a2, .int o6.2.1, .int o6.2.2])), (a2, .inl (cT 0, 4096, .inl o6.1))]) hP hD hS hA [13, 14] rfl rfl (by decide)
    refine va_callv (va_runV (C := "ValueBench$Text") (As := [.int x3]) (rest := []) ⟨hx, hb, hml, hown, htx⟩ (gT_addInt l hl9 D cT aK aV H.size n a1 a2 x3 o6.1 o6.2.1 o6.2.2 o8 hq9) ⟨callB_of 1 htx (xw_goodC kw_1_203) rfl rfl rfl (htx _ kw_1_2) (htx _ kw_1_200) ⟨by decide, by decide, by decide +kernel⟩ ⟨Nat.le_of_ble_eq_true rfl, Nat.le_of_ble_eq_true rfl⟩, (htx _ kw_1_201), (htx _ kw_1_202)⟩ ⟨xPre_blind, va_recv hK hP (ci := 1) rfl (q0 := 13) rfl, (fun U hU hW => ⟨rfl, xPre_of hZ hS hFc hPc hDc hK U hU hW⟩)⟩ rfl rfl hl.1 rfl (lv_room (Nat.le_of_ble_eq_true rfl)) dB_feed_47 ⟨Nat.le_of_ble_eq_true rfl, Nat.le_of_ble_eq_true rfl⟩) hS (fun q _ h => hFc q h) hFc (fun u9 t H1 locs ht hvm hr9 hB hz1 hk1 hS => ?_)
    obtain ⟨hP1, hK1, hD1⟩ := hB
    rw [ht] at hP1
    obtain ⟨hP, hD⟩ := xjoin (W := [(a0, .inr (0, [.ref a1, .ref a3, .ref a5, .ref a7, .ref a8, .ref a13, .int v19, .int v20])), (a3, .inr (1, [.ref a4, .int v4, .int v5])), (a4, .inl (cT 0, 4096, .inl f3)), (a5, .inr (1, [.ref a6, .int v7, .int v8])), (a6, .inl (cT 0, 4096, .inl f6)), (a7, .inl (cT 3, 8, .inr (.inr (.inr (.inr rf0))))), (a8, .inr (3, [.ref a9, .ref a10, .ref p11, .ref p13, .int v15])), (a9, .inl (cT 1, 2048, .inl f9)), (a10, .inl (cT 1, 2048, .inl f10)), (p11, .inl (cT 1, 2048, .inl f12)), (p13, .inl (cT 1, 2048, .inl f14)), (a13, .inr (2, [.ref a14, .int v17, .int v18])), (a14, .inl (cT 2, 4096, .inr (.inl f16))), (a1, .inr (1, [.ref a2, .int o8.2.1, .int o8.2.2])), (a2, .inl (cT 0, 4096, .inl o8.1))]) hP hD [13, 14] [0, 1, 2, 3, 4, 5, 6, 7, 8, 9, 10, 11, 12] 13 rfl rfl (by decide) (by decide) hk1 hFc hP1 hD1
    generalize H1 = H at hP hS ⊢
    refine lv_aload_n hx hb dB_feed_50 rfl (lv_at hl 0 rfl) ?_
    refine va_get (D := D) (ci := 0) (v := .ref a1) (C := "ValueBench") (T := TB) (N := 8) hx hb htx inB hown hK hP 0 rfl rfl 0 (by decide) (htx _ kw_1_95) (fun _ h9 => h9) rfl dB_feed_51 ?_
    refine lv_iload hx hb dB_feed_54 (lv_at hl 4 rfl) ?_
    obtain ⟨o10, hq11, hf⟩ := xbind hf
    obtain ⟨hPc, hDc, hFc⟩ := xcut (wc := [(a1, .inr (1, [.ref a2, .int o8.2.1, .int o8.2.2])), (a2, .inl (cT 0, 4096, .inl o8.1))]) hP hD hS hA [13, 14] rfl rfl (by decide)
    refine va_callv (va_runV (C := "ValueBench$Text") (As := [.int x4]) (rest := []) ⟨hx, hb, hml, hown, htx⟩ (gT_addInt l hl9 D cT aK aV H.size n a1 a2 x4 o8.1 o8.2.1 o8.2.2 o10 hq11) ⟨callB_of 1 htx (xw_goodC kw_1_203) rfl rfl rfl (htx _ kw_1_2) (htx _ kw_1_200) ⟨by decide, by decide, by decide +kernel⟩ ⟨Nat.le_of_ble_eq_true rfl, Nat.le_of_ble_eq_true rfl⟩, (htx _ kw_1_201), (htx _ kw_1_202)⟩ ⟨xPre_blind, va_recv hK hP (ci := 1) rfl (q0 := 13) rfl, (fun U hU hW => ⟨rfl, xPre_of hZ hS hFc hPc hDc hK U hU hW⟩)⟩ rfl rfl hl.1 rfl (lv_room (Nat.le_of_ble_eq_true rfl)) dB_feed_56 ⟨Nat.le_of_ble_eq_true rfl, Nat.le_of_ble_eq_true rfl⟩) hS (fun q _ h => hFc q h) hFc (fun u9 t H1 locs ht hvm hr9 hB hz1 hk1 hS => ?_)
    obtain ⟨hP1, hK1, hD1⟩ := hB
    rw [ht] at hP1
    obtain ⟨hP, hD⟩ := xjoin (W := [(a0, .inr (0, [.ref a1, .ref a3, .ref a5, .ref a7, .ref a8, .ref a13, .int v19, .int v20])), (a3, .inr (1, [.ref a4, .int v4, .int v5])), (a4, .inl (cT 0, 4096, .inl f3)), (a5, .inr (1, [.ref a6, .int v7, .int v8])), (a6, .inl (cT 0, 4096, .inl f6)), (a7, .inl (cT 3, 8, .inr (.inr (.inr (.inr rf0))))), (a8, .inr (3, [.ref a9, .ref a10, .ref p11, .ref p13, .int v15])), (a9, .inl (cT 1, 2048, .inl f9)), (a10, .inl (cT 1, 2048, .inl f10)), (p11, .inl (cT 1, 2048, .inl f12)), (p13, .inl (cT 1, 2048, .inl f14)), (a13, .inr (2, [.ref a14, .int v17, .int v18])), (a14, .inl (cT 2, 4096, .inr (.inl f16))), (a1, .inr (1, [.ref a2, .int o10.2.1, .int o10.2.2])), (a2, .inl (cT 0, 4096, .inl o10.1))]) hP hD [13, 14] [0, 1, 2, 3, 4, 5, 6, 7, 8, 9, 10, 11, 12] 13 rfl rfl (by decide) (by decide) hk1 hFc hP1 hD1
    generalize H1 = H at hP hS ⊢
    refine lv_aload_n hx hb dB_feed_59 rfl (lv_at hl 0 rfl) ?_
    refine va_get (D := D) (ci := 0) (v := .ref a1) (C := "ValueBench") (T := TB) (N := 8) hx hb htx inB hown hK hP 0 rfl rfl 0 (by decide) (htx _ kw_1_95) (fun _ h9 => h9) rfl dB_feed_60 ?_
    refine lv_iload hx hb dB_feed_63 (lv_at hl 5 rfl) ?_
    obtain ⟨o12, hq13, hf⟩ := xbind hf
    obtain ⟨hPc, hDc, hFc⟩ := xcut (wc := [(a1, .inr (1, [.ref a2, .int o10.2.1, .int o10.2.2])), (a2, .inl (cT 0, 4096, .inl o10.1))]) hP hD hS hA [13, 14] rfl rfl (by decide)
    refine va_callv (va_runV (C := "ValueBench$Text") (As := [.int x5]) (rest := []) ⟨hx, hb, hml, hown, htx⟩ (gT_addInt l hl9 D cT aK aV H.size n a1 a2 x5 o10.1 o10.2.1 o10.2.2 o12 hq13) ⟨callB_of 1 htx (xw_goodC kw_1_203) rfl rfl rfl (htx _ kw_1_2) (htx _ kw_1_200) ⟨by decide, by decide, by decide +kernel⟩ ⟨Nat.le_of_ble_eq_true rfl, Nat.le_of_ble_eq_true rfl⟩, (htx _ kw_1_201), (htx _ kw_1_202)⟩ ⟨xPre_blind, va_recv hK hP (ci := 1) rfl (q0 := 13) rfl, (fun U hU hW => ⟨rfl, xPre_of hZ hS hFc hPc hDc hK U hU hW⟩)⟩ rfl rfl hl.1 rfl (lv_room (Nat.le_of_ble_eq_true rfl)) dB_feed_65 ⟨Nat.le_of_ble_eq_true rfl, Nat.le_of_ble_eq_true rfl⟩) hS (fun q _ h => hFc q h) hFc (fun u9 t H1 locs ht hvm hr9 hB hz1 hk1 hS => ?_)
    obtain ⟨hP1, hK1, hD1⟩ := hB
    rw [ht] at hP1
    obtain ⟨hP, hD⟩ := xjoin (W := [(a0, .inr (0, [.ref a1, .ref a3, .ref a5, .ref a7, .ref a8, .ref a13, .int v19, .int v20])), (a3, .inr (1, [.ref a4, .int v4, .int v5])), (a4, .inl (cT 0, 4096, .inl f3)), (a5, .inr (1, [.ref a6, .int v7, .int v8])), (a6, .inl (cT 0, 4096, .inl f6)), (a7, .inl (cT 3, 8, .inr (.inr (.inr (.inr rf0))))), (a8, .inr (3, [.ref a9, .ref a10, .ref p11, .ref p13, .int v15])), (a9, .inl (cT 1, 2048, .inl f9)), (a10, .inl (cT 1, 2048, .inl f10)), (p11, .inl (cT 1, 2048, .inl f12)), (p13, .inl (cT 1, 2048, .inl f14)), (a13, .inr (2, [.ref a14, .int v17, .int v18])), (a14, .inl (cT 2, 4096, .inr (.inl f16))), (a1, .inr (1, [.ref a2, .int o12.2.1, .int o12.2.2])), (a2, .inl (cT 0, 4096, .inl o12.1))]) hP hD [13, 14] [0, 1, 2, 3, 4, 5, 6, 7, 8, 9, 10, 11, 12] 13 rfl rfl (by decide) (by decide) hk1 hFc hP1 hD1
    generalize H1 = H at hP hS ⊢
    refine lv_aload_n hx hb dB_feed_68 rfl (lv_at hl 0 rfl) ?_
    refine va_get (D := D) (ci := 0) (v := .ref a1) (C := "ValueBench") (T := TB) (N := 8) hx hb htx inB hown hK hP 0 rfl rfl 0 (by decide) (htx _ kw_1_95) (fun _ h9 => h9) rfl dB_feed_69 ?_
    obtain ⟨o14, hq15, hf⟩ := xbind hf
    obtain ⟨hPc, hDc, hFc⟩ := xcut (wc := [(a1, .inr (1, [.ref a2, .int o12.2.1, .int o12.2.2])), (a2, .inl (cT 0, 4096, .inl o12.1))]) hP hD hS hA [13, 14] rfl rfl (by decide)
    refine va_calli (va_runV (C := "ValueBench$Text") (As := []) (rest := []) ⟨hx, hb, hml, hown, htx⟩ (gT_size l hl9 D cT aK aV H.size n a1 a2 o12.1 o12.2.1 o12.2.2 o14 hq15) ⟨callB_of 0 htx (xw_goodC kw_1_131) rfl rfl rfl (htx _ kw_1_2) (htx _ kw_1_128) ⟨by decide, by decide, by decide +kernel⟩ ⟨Nat.le_of_ble_eq_true rfl, Nat.le_of_ble_eq_true rfl⟩, (htx _ kw_1_129), (htx _ kw_1_130)⟩ ⟨xPre_blind, va_recv hK hP (ci := 1) rfl (q0 := 13) rfl, (fun U hU hW => ⟨rfl, xPre_of hZ hS hFc hPc hDc hK U hU hW⟩)⟩ rfl rfl hl.1 rfl (lv_room (Nat.le_of_ble_eq_true rfl)) dB_feed_72 ⟨Nat.le_of_ble_eq_true rfl, Nat.le_of_ble_eq_true rfl⟩) hS (fun q _ h => hFc q h) hFc (fun r16 u9 t H1 locs ht hvm hr9 hB hz1 hk1 hS => ?_)
    obtain ⟨hP1, hK1, hD1⟩ := hB
    rw [ht] at hP1
    obtain ⟨hP, hD⟩ := xjoin (W := [(a0, .inr (0, [.ref a1, .ref a3, .ref a5, .ref a7, .ref a8, .ref a13, .int v19, .int v20])), (a3, .inr (1, [.ref a4, .int v4, .int v5])), (a4, .inl (cT 0, 4096, .inl f3)), (a5, .inr (1, [.ref a6, .int v7, .int v8])), (a6, .inl (cT 0, 4096, .inl f6)), (a7, .inl (cT 3, 8, .inr (.inr (.inr (.inr rf0))))), (a8, .inr (3, [.ref a9, .ref a10, .ref p11, .ref p13, .int v15])), (a9, .inl (cT 1, 2048, .inl f9)), (a10, .inl (cT 1, 2048, .inl f10)), (p11, .inl (cT 1, 2048, .inl f12)), (p13, .inl (cT 1, 2048, .inl f14)), (a13, .inr (2, [.ref a14, .int v17, .int v18])), (a14, .inl (cT 2, 4096, .inr (.inl f16))), (a1, .inr (1, [.ref a2, .int o12.2.1, .int o12.2.2])), (a2, .inl (cT 0, 4096, .inl o12.1))]) hP hD [13, 14] [0, 1, 2, 3, 4, 5, 6, 7, 8, 9, 10, 11, 12] 13 rfl rfl (by decide) (by decide) hk1 hFc hP1 hD1
    generalize H1 = H at hP hS ⊢
    rw [hr9]
    refine W.eq (g2 := F0 m 75 ls [.int o14]) rfl ?_
    obtain rfl := Option.some.inj hf
    exact absurd (show (0 : Nat) = 1 from hkd) (by decide)
  · rw [if_neg hc] at hf
    obtain rfl := Option.some.inj hf
    obtain ⟨hP9, hD9⟩ := xsub (wc := [(a0, .inr (0, [.ref a1, .ref a3, .ref a5, .ref a7, .ref a8, .ref a13, .int v19, .int v20])), (a1, .inr (1, [.ref a2, .int v1, .int v2])), (a2, .inl (cT 0, 4096, .inl f0)), (a3, .inr (1, [.ref a4, .int v4, .int v5])), (a4, .inl (cT 0, 4096, .inl f3)), (a5, .inr (1, [.ref a6, .int v7, .int v8])), (a6, .inl (cT 0, 4096, .inl f6)), (a7, .inl (cT 3, 8, .inr (.inr (.inr (.inr rf0))))), (a8, .inr (3, [.ref a9, .ref a10, .ref p11, .ref p13, .int v15])), (a9, .inl (cT 1, 2048, .inl f9)), (a10, .inl (cT 1, 2048, .inl f10)), (p11, .inl (cT 1, 2048, .inl f12)), (p13, .inl (cT 1, 2048, .inl f14)), (a13, .inr (2, [.ref a14, .int v17, .int v18])), (a14, .inl (cT 2, 4096, .inr (.inl f16)))]) hP hD [0, 13, 14, 1, 2, 3, 4, 5, 6, 7, 8, 9, 10, 11, 12] rfl rfl (by decide)
    exact vx_throwS (own := "ValueBench") (cls := "java/lang/IndexOutOfBoundsException") (text := "the tape is full") (sa := aK 0) (names := ["java/lang/RuntimeException", "java/lang/Exception"]) hx hb hl9 hown (by decide +kernel) (by decide +kernel) (htx _ kw_1_132) (htx _ kw_1_13) (hZ.2.2.2.2.2.2.2.2.1 ("ValueBench", 53, "the tape is full", 0) (List.mem_of_getElem? (i := 0) rfl)) (vx_hat (B := [.castable "java/lang/IndexOutOfBoundsException" "java/lang/IndexOutOfBoundsException", .declares ⟨"java/lang/RuntimeException", "<init>", "(Ljava/lang/String;)V"⟩, .declares ⟨"java/lang/Exception", "<init>", "(Ljava/lang/String;)V"⟩, .declares ⟨"java/lang/Throwable", "<init>", "(Ljava/lang/String;)V"⟩]) (fun w h => htx w (xat_B_51_55 w h)) xat_B_51_55_b (vx_c ((hZ.2.2.2.2.2.1 "java/lang/IndexOutOfBoundsException" (List.mem_of_getElem? (i := 0) rfl)).use rfl) (vx_c ((hZ.2.2.2.2.2.2.1 ⟨"java/lang/RuntimeException", "<init>", "(Ljava/lang/String;)V"⟩ (List.mem_of_getElem? (i := 3) rfl)).use rfl) (vx_c ((hZ.2.2.2.2.2.2.1 ⟨"java/lang/Exception", "<init>", "(Ljava/lang/String;)V"⟩ (List.mem_of_getElem? (i := 4) rfl)).use rfl) (vx_c ((hZ.2.2.2.2.2.2.1 ⟨"java/lang/Throwable", "<init>", "(Ljava/lang/String;)V"⟩ (List.mem_of_getElem? (i := 5) rfl)).use rfl) vx_n))))) xat_B_51_55_g hZ.2.2.2.1 hZ.2.2.2.2.1 hS (hl.1.trans hml.symm) dB_feed_16 dB_feed_19 dB_feed_20 dB_feed_22 dB_feed_25 (fun x h => (hne x h).elim) (Nat.le_of_ble_eq_true rfl) (Nat.le_of_ble_eq_true rfl) (Nat.le_of_ble_eq_true rfl) (Nat.le_of_ble_eq_true rfl) hlocks (fun t ha hz hk => ⟨(), trivial, ⟨rfl, xx_keepP hP9 hk, va_K.moved ha hK, hD9⟩, xx_grown hS hz hk⟩) hS.2.2 (Nat.le_of_ble_eq_true rfl) (Nat.le_of_ble_eq_true rfl)
set_option maxHeartbeats 400000000 in
set_option maxRecDepth 100000 in
theorem gB_isWithin (l : Launch) (hl9 : l.stackTraces = false) (D : va_G) (cT : Nat → ClassId) (aK aV : Nat → Nat) (sz n : Nat) (x0 : Int32) (x1 : Int32) (out : Int32) (hf : fB_isWithin n x0 x1 = some out) : xMet l yB_isWithin wyB_isWithin 0 0 0 0 D cT aK aV sz [.int x0, .int x1] [] (fun A => va_Qi (fun (r : Int32) (_ : Unit) => r = out) (fun _ t => xB D xcl cT A [] t) A) := by
  refine Met.ofW (cc := prog_1_method_15_code) (maxL := 2) (ret := (some .boolean)) (by decide) rfl ?_
  intro p e s m args below meth c s₁ B hml hv
  obtain ⟨rfl, hsz, hZ, hP, hK, hD0⟩ := hv
  have hx := B.exec
  have hb := B.bytes
  have hr := B.returns
  have hts := atoms_spec (ws := wyB_isWithin) B.pre
  have htx := fun w h => hts w (List.mem_cons_of_mem _ h)
  have hown : s.vm.findClass "ValueBench" = some m.cls := findClass_of_methodNamed B.named
  have hlocks := B.notSynchronized
  subst hsz
  have hD := hD0.self (sz := s.heap.size)
  generalize hAe : va_A [] s.heap.size = A at hD hZ ⊢
  have hA : ∀ q : Nat, s.heap.size ≤ q → A q := fun q h => by rw [← hAe]; exact Or.inr h
  have hS : va_S A s.heap s.heap [] := va_S.rf
  have hP : va_P D xcl [] s.heap := hP
  have hl := lv_entry ([.int x0, .int x1]) (n := 2) (Nat.le_of_ble_eq_true rfl)
  rw [lg_entry_eq]
  generalize (lg_sl ([.int x0, .int x1]) ++ List.replicate (2 - (lg_sl ([.int x0, .int x1])).length) Slot.unset).toArray = ls at hl ⊢
  have hl : lv_has ls 2 [(0, .int x0), (1, .int x1)] := hl
  unfold fB_isWithin at hf
  refine lv_iload_n hx hb dB_isWithin_0 rfl (lv_at hl 0 rfl) ?_
  refine lv_if_lt (tgt := 13) hx hb dB_isWithin_1 (by decide) (fun hc => ?_) (fun hc => ?_)
  · rw [if_pos hc] at hf
    refine lv_iconst (v := 0) hx hb dB_isWithin_13 (by decide) ?_
    obtain rfl := Option.some.inj hf
    obtain ⟨hP9, hD9⟩ := xsub (wc := []) hP hD [] rfl rfl (by decide)
    exact W.zret (v := (0 : Int32)) hx hb hr rfl (fun t ht hW => ⟨⟨(0 : Int32), (), rfl, rfl, by rw [ht]; exact hP9, va_K.moved hW.alike hK, hD9⟩, hS.F ht⟩) hS.2.2 dB_isWithin_14
  · rw [if_neg hc] at hf
    refine lv_iload_n hx hb dB_isWithin_4 rfl (lv_at hl 0 rfl) ?_
    refine lv_iload_n hx hb dB_isWithin_5 rfl (lv_at hl 1 rfl) ?_
    refine lv_icmp_gt (tgt := 13) hx hb dB_isWithin_6 (by decide) (fun hc => ?_) (fun hc => ?_)
    · rw [if_pos hc] at hf
      refine lv_iconst (v := 0) hx hb dB_isWithin_13 (by decide) ?_
      obtain rfl := Option.some.inj hf
      obtain ⟨hP9, hD9⟩ := xsub (wc := []) hP hD [] rfl rfl (by decide)
      exact W.zret (v := (0 : Int32)) hx hb hr rfl (fun t ht hW => ⟨⟨(0 : Int32), (), rfl, rfl, by rw [ht]; exact hP9, va_K.moved hW.alike hK, hD9⟩, hS.F ht⟩) hS.2.2 dB_isWithin_14
    · rw [if_neg hc] at hf
      refine lv_iconst (v := 1) hx hb dB_isWithin_9 (by decide) ?_
      refine lv_goto (tgt := 14) hx hb dB_isWithin_10 (by decide) ?_
      obtain rfl := Option.some.inj hf
      obtain ⟨hP9, hD9⟩ := xsub (wc := []) hP hD [] rfl rfl (by decide)
      exact W.zret (v := (1 : Int32)) hx hb hr rfl (fun t ht hW => ⟨⟨(1 : Int32), (), rfl, rfl, by rw [ht]; exact hP9, va_K.moved hW.alike hK, hD9⟩, hS.F ht⟩) hS.2.2 dB_isWithin_14
set_option maxHeartbeats 400000000 in
set_option maxRecDepth 100000 in
theorem gB_demand (l : Launch) (hl9 : l.stackTraces = false) (D : va_G) (cT : Nat → ClassId) (aK aV : Nat → Nat) (sz n : Nat) (x0 : Int32) (out : Nat) (hf : fB_demand n x0 = some out) (hkd : out = 0) : xMet l yB_demand wyB_demand 6 1 6 100 D cT aK aV sz [.int x0] [] (fun A => va_Qv (fun _ : Unit => True) (fun _ t => xB D xcl cT A [] t) A) := by
  refine Met.ofW (cc := prog_1_method_16_code) (maxL := 1) (ret := none) (by decide) rfl ?_
  intro p e s m args below meth c s₁ B hml hv
  obtain ⟨rfl, hsz, hZ, hP, hK, hD0⟩ := hv
  have hx := B.exec
  have hb := B.bytes
  have hr := B.returns
  have hts := atoms_spec (ws := wyB_demand) B.pre
  have htx := fun w h => hts w (List.mem_cons_of_mem _ h)
  have hown : s.vm.findClass "ValueBench" = some m.cls := findClass_of_methodNamed B.named
  have hlocks := B.notSynchronized
  subst hsz
  have hD := hD0.self (sz := s.heap.size)
  generalize hAe : va_A [] s.heap.size = A at hD hZ ⊢
  have hA : ∀ q : Nat, s.heap.size ≤ q → A q := fun q h => by rw [← hAe]; exact Or.inr h
  have hS : va_S A s.heap s.heap [] := va_S.rf
  have hP : va_P D xcl [] s.heap := hP
  have hl := lv_entry ([.int x0]) (n := 1) (Nat.le_of_ble_eq_true rfl)
  rw [lg_entry_eq]
  generalize (lg_sl ([.int x0]) ++ List.replicate (1 - (lg_sl ([.int x0])).length) Slot.unset).toArray = ls at hl ⊢
  have hl : lv_has ls 1 [(0, .int x0)] := hl
  unfold fB_demand at hf
  refine lv_iload_n hx hb dB_demand_0 rfl (lv_at hl 0 rfl) ?_
  refine lv_if_ne (tgt := 14) hx hb dB_demand_1 (by decide) (fun hc => ?_) (fun hc => ?_)
  · rw [if_neg hc] at hf
    obtain rfl := Option.some.inj hf
    obtain ⟨hP9, hD9⟩ := xsub (wc := []) hP hD [] rfl rfl (by decide)
    refine W.widen (k := 1) (n := 6) (Nat.le_of_ble_eq_true rfl) (Nat.le_of_ble_eq_true rfl) ?_
    exact W.vret hx hb hr (fun t ht hW => ⟨⟨(), rfl, trivial, by rw [ht]; exact hP9, va_K.moved hW.alike hK, hD9⟩, hS.F ht⟩) hS.2.2 dB_demand_14
  · rw [if_pos hc] at hf
    obtain rfl := Option.some.inj hf
    exact absurd (show (1 : Nat) = 0 from hkd) (by decide)
set_option maxHeartbeats 400000000 in
set_option maxRecDepth 100000 in
theorem gB_demand_1 (l : Launch) (hl9 : l.stackTraces = false) (D : va_G) (cT : Nat → ClassId) (aK aV : Nat → Nat) (sz n : Nat) (x0 : Int32) (out : Nat) (hf : fB_demand n x0 = some out) (hkd : out = 1) : xMetX l yB_demand wyB_demand 6 1 6 100 D cT aK aV sz [.int x0] [] "java/lang/IllegalArgumentException" (fun A t => xB D xcl cT A [] t) := by
  refine vx_ofW (cc := prog_1_method_16_code) (maxL := 1) (ret := none) (by decide) rfl ?_
  intro p e s m args below meth c s₁ B hml hne hv
  obtain ⟨rfl, hsz, hZ, hP, hK, hD0⟩ := hv
  have hx := B.exec
  have hb := B.bytes
  have hr := B.returns
  have hts := atoms_spec (ws := wyB_demand) B.pre
  have htx := fun w h => hts w (List.mem_cons_of_mem _ h)
  have hown : s.vm.findClass "ValueBench" = some m.cls := findClass_of_methodNamed B.named
  have hlocks := B.notSynchronized
  subst hsz
  have hD := hD0.self (sz := s.heap.size)
  generalize hAe : va_A [] s.heap.size = A at hD hZ ⊢
  have hA : ∀ q : Nat, s.heap.size ≤ q → A q := fun q h => by rw [← hAe]; exact Or.inr h
  have hS : va_S A s.heap s.heap [] := va_S.rf
  have hP : va_P D xcl [] s.heap := hP
  have hl := lv_entry ([.int x0]) (n := 1) (Nat.le_of_ble_eq_true rfl)
  rw [lg_entry_eq]
  generalize (lg_sl ([.int x0]) ++ List.replicate (1 - (lg_sl ([.int x0])).length) Slot.unset).toArray = ls at hl ⊢
  have hl : lv_has ls 1 [(0, .int x0)] := hl
  unfold fB_demand at hf
  refine lv_iload_n hx hb dB_demand_0 rfl (lv_at hl 0 rfl) ?_
  refine lv_if_ne (tgt := 14) hx hb dB_demand_1 (by decide) (fun hc => ?_) (fun hc => ?_)
  · rw [if_neg hc] at hf
    obtain rfl := Option.some.inj hf
    exact absurd (show (0 : Nat) = 1 from hkd) (by decide)
  · rw [if_pos hc] at hf
    obtain rfl := Option.some.inj hf
    obtain ⟨hP9, hD9⟩ := xsub (wc := []) hP hD [] rfl rfl (by decide)
    exact vx_throwS (own := "ValueBench") (cls := "java/lang/IllegalArgumentException") (text := "a number out of range") (sa := aK 3) (names := ["java/lang/RuntimeException", "java/lang/Exception"]) hx hb hl9 hown (by decide +kernel) (by decide +kernel) (htx _ kw_1_222) (htx _ kw_1_14) (hZ.2.2.2.2.2.2.2.2.1 ("ValueBench", 151, "a number out of range", 3) (List.mem_of_getElem? (i := 3) rfl)) (vx_hat (B := [.castable "java/lang/IllegalArgumentException" "java/lang/IllegalArgumentException", .declares ⟨"java/lang/RuntimeException", "<init>", "(Ljava/lang/String;)V"⟩, .declares ⟨"java/lang/Exception", "<init>", "(Ljava/lang/String;)V"⟩, .declares ⟨"java/lang/Throwable", "<init>", "(Ljava/lang/String;)V"⟩]) (fun w h => htx w (xat_B_149_153 w h)) xat_B_149_153_b (vx_c ((hZ.2.2.2.2.2.1 "java/lang/IllegalArgumentException" (List.mem_of_getElem? (i := 1) rfl)).use rfl) (vx_c ((hZ.2.2.2.2.2.2.1 ⟨"java/lang/RuntimeException", "<init>", "(Ljava/lang/String;)V"⟩ (List.mem_of_getElem? (i := 3) rfl)).use rfl) (vx_c ((hZ.2.2.2.2.2.2.1 ⟨"java/lang/Exception", "<init>", "(Ljava/lang/String;)V"⟩ (List.mem_of_getElem? (i := 4) rfl)).use rfl) (vx_c ((hZ.2.2.2.2.2.2.1 ⟨"java/lang/Throwable", "<init>", "(Ljava/lang/String;)V"⟩ (List.mem_of_getElem? (i := 5) rfl)).use rfl) vx_n))))) xat_B_149_153_g hZ.2.2.2.1 hZ.2.2.2.2.1 hS (hl.1.trans hml.symm) dB_demand_4 dB_demand_7 dB_demand_8 dB_demand_10 dB_demand_13 (fun x h => (hne x h).elim) (Nat.le_of_ble_eq_true rfl) (Nat.le_of_ble_eq_true rfl) (Nat.le_of_ble_eq_true rfl) (Nat.le_of_ble_eq_true rfl) hlocks (fun t ha hz hk => ⟨(), trivial, ⟨rfl, xx_keepP hP9 hk, va_K.moved ha hK, hD9⟩, xx_grown hS hz hk⟩) hS.2.2 (Nat.le_of_ble_eq_true rfl) (Nat.le_of_ble_eq_true rfl)
set_option maxHeartbeats 400000000 in
set_option maxRecDepth 100000 in
theorem gB_end (l : Launch) (hl9 : l.stackTraces = false) (D : va_G) (cT : Nat → ClassId) (aK aV : Nat → Nat) (sz n : Nat) (a0 : Nat) (a1 : Nat) (a2 : Nat) (a3 : Nat) (a4 : Nat) (a5 : Nat) (a6 : Nat) (a7 : Nat) (a8 : Nat) (a9 : Nat) (a10 : Nat) (a13 : Nat) (a14 : Nat) (rf0 : Nat → Option Nat) (x1 : Int32) (f0 : Nat → Int32) (v1 : Int32) (v2 : Int32) (f3 : Nat → Int32) (v4 : Int32) (v5 : Int32) (f6 : Nat → Int32) (v7 : Int32) (v8 : Int32) (f9 : Nat → Int32) (f10 : Nat → Int32) (p11 : Nat) (f12 : Nat → Int32) (p13 : Nat) (f14 : Nat → Int32) (v15 : Int32) (f16 : Nat → Int64) (v17 : Int32) (v18 : Int32) (v19 : Int32) (v20 : Int32) (out : Nat × Int32 × Int32) (hf : fB_end n x1 f0 v1 v2 f3 v4 v5 f6 v7 v8 f9 f10 p11 f12 p13 f14 v15 f16 v17 v18 v19 v20 = some out) (hkd : out.1 = 0) : xMet l yB_end wyB_end 7 1 6 120 D cT aK aV sz [.ref a0, .int x1] [(a0, .inr (0, [.ref a1, .ref a3, .ref a5, .ref a7, .ref a8, .ref a13, .int v19, .int v20])), (a1, .inr (1, [.ref a2, .int v1, .int v2])), (a2, .inl (cT 0, 4096, .inl f0)), (a3, .inr (1, [.ref a4, .int v4, .int v5])), (a4, .inl (cT 0, 4096, .inl f3)), (a5, .inr (1, [.ref a6, .int v7, .int v8])), (a6, .inl (cT 0, 4096, .inl f6)), (a7, .inl (cT 3, 8, .inr (.inr (.inr (.inr rf0))))), (a8, .inr (3, [.ref a9, .ref a10, .ref p11, .ref p13, .int v15])), (a9, .inl (cT 1, 2048, .inl f9)), (a10, .inl (cT 1, 2048, .inl f10)), (p11, .inl (cT 1, 2048, .inl f12)), (p13, .inl (cT 1, 2048, .inl f14)), (a13, .inr (2, [.ref a14, .int v17, .int v18])), (a14, .inl (cT 2, 4096, .inr (.inl f16)))] (fun A => va_Qi (fun (r : Int32) (_ : Unit) => r = out.2.1) (fun _ t => xB D xcl cT A [(a0, .inr (0, [.ref a1, .ref a3, .ref a5, .ref a7, .ref a8, .ref a13, .int v19, .int v20])), (a1, .inr (1, [.ref a2, .int out.2.2, .int v2])), (a2, .inl (cT 0, 4096, .inl f0)), (a3, .inr (1, [.ref a4, .int v4, .int v5])), (a4, .inl (cT 0, 4096, .inl f3)), (a5, .inr (1, [.ref a6, .int v7, .int v8])), (a6, .inl (cT 0, 4096, .inl f6)), (a7, .inl (cT 3, 8, .inr (.inr (.inr (.inr rf0))))), (a8, .inr (3, [.ref a9, .ref a10, .ref p11, .ref p13, .int v15])), (a9, .inl (cT 1, 2048, .inl f9)), (a10, .inl (cT 1, 2048, .inl f10)), (p11, .inl (cT 1, 2048, .inl f12)), (p13, .inl (cT 1, 2048, .inl f14)), (a13, .inr (2, [.ref a14, .int v17, .int v18])), (a14, .inl (cT 2, 4096, .inr (.inl f16)))] t) A) := by
  refine Met.ofW (cc := prog_1_method_3_code) (maxL := 2) (ret := (some .int)) (by decide) rfl ?_
  intro p e s m args below meth c s₁ B hml hv
  obtain ⟨rfl, hsz, hZ, hP, hK, hD0⟩ := hv
  have hx := B.exec
  have hb := B.bytes
  have hr := B.returns
  have hts := atoms_spec (ws := wyB_end) B.pre
  have htx := fun w h => hts w (List.mem_cons_of_mem _ h)
  have hown : s.vm.findClass "ValueBench" = some m.cls := findClass_of_methodNamed B.named
  have hlocks := B.notSynchronized
  subst hsz
  have hD := hD0.self (sz := s.heap.size)
  generalize hAe : va_A [(a0, .inr (0, [.ref a1, .ref a3, .ref a5, .ref a7, .ref a8, .ref a13, .int v19, .int v20])), (a1, .inr (1, [.ref a2, .int v1, .int v2])), (a2, .inl (cT 0, 4096, .inl f0)), (a3, .inr (1, [.ref a4, .int v4, .int v5])), (a4, .inl (cT 0, 4096, .inl f3)), (a5, .inr (1, [.ref a6, .int v7, .int v8])), (a6, .inl (cT 0, 4096, .inl f6)), (a7, .inl (cT 3, 8, .inr (.inr (.inr (.inr rf0))))), (a8, .inr (3, [.ref a9, .ref a10, .ref p11, .ref p13, .int v15])), (a9, .inl (cT 1, 2048, .inl f9)), (a10, .inl (cT 1, 2048, .inl f10)), (p11, .inl (cT 1, 2048, .inl f12)), (p13, .inl (cT 1, 2048, .inl f14)), (a13, .inr (2, [.ref a14, .int v17, .int v18])), (a14, .inl (cT 2, 4096, .inr (.inl f16)))] s.heap.size = A at hD hZ ⊢
  have hA : ∀ q : Nat, s.heap.size ≤ q → A q := fun q h => by rw [← hAe]; exact Or.inr h
  have hS : va_S A s.heap s.heap [] := va_S.rf
  have hP : va_P D xcl [(a0, .inr (0, [.ref a1, .ref a3, .ref a5, .ref a7, .ref a8, .ref a13, .int v19, .int v20])), (a1, .inr (1, [.ref a2, .int v1, .int v2])), (a2, .inl (cT 0, 4096, .inl f0)), (a3, .inr (1, [.ref a4, .int v4, .int v5])), (a4, .inl (cT 0, 4096, .inl f3)), (a5, .inr (1, [.ref a6, .int v7, .int v8])), (a6, .inl (cT 0, 4096, .inl f6)), (a7, .inl (cT 3, 8, .inr (.inr (.inr (.inr rf0))))), (a8, .inr (3, [.ref a9, .ref a10, .ref p11, .ref p13, .int v15])), (a9, .inl (cT 1, 2048, .inl f9)), (a10, .inl (cT 1, 2048, .inl f10)), (p11, .inl (cT 1, 2048, .inl f12)), (p13, .inl (cT 1, 2048, .inl f14)), (a13, .inr (2, [.ref a14, .int v17, .int v18])), (a14, .inl (cT 2, 4096, .inr (.inl f16)))] s.heap := hP
  have hl := lv_entry ([.ref a0, .int x1]) (n := 2) (Nat.le_of_ble_eq_true rfl)
  rw [lg_entry_eq]
  generalize (lg_sl ([.ref a0, .int x1]) ++ List.replicate (2 - (lg_sl ([.ref a0, .int x1])).length) Slot.unset).toArray = ls at hl ⊢
  have hl : lv_has ls 2 [(0, .ref a0), (1, .int x1)] := hl
  unfold fB_end at hf
  refine lv_iload_n hx hb dB_end_0 rfl (lv_at hl 1 rfl) ?_
  refine lv_aload_n hx hb dB_end_1 rfl (lv_at hl 0 rfl) ?_
  refine va_get (D := D) (ci := 0) (v := .ref a1) (C := "ValueBench") (T := TB) (N := 8) hx hb htx inB hown hK hP 0 rfl rfl 0 (by decide) (htx _ kw_1_95) (fun _ h9 => h9) rfl dB_end_2 ?_
  obtain ⟨o1, hq2, hf⟩ := xbind hf
  obtain ⟨hPc, hDc, hFc⟩ := xcut (wc := [(a1, .inr (1, [.ref a2, .int v1, .int v2])), (a2, .inl (cT 0, 4096, .inl f0))]) hP hD hS hA [1, 2] rfl rfl (by decide)
  refine va_calli (va_runV (C := "ValueBench$Text") (As := []) (rest := [.int x1]) ⟨hx, hb, hml, hown, htx⟩ (gT_size l hl9 D cT aK aV s.heap.size n a1 a2 f0 v1 v2 o1 hq2) ⟨callB_of 0 htx (xw_goodC kw_1_131) rfl rfl rfl (htx _ kw_1_2) (htx _ kw_1_128) ⟨by decide, by decide, by decide +kernel⟩ ⟨Nat.le_of_ble_eq_true rfl, Nat.le_of_ble_eq_true rfl⟩, (htx _ kw_1_129), (htx _ kw_1_130)⟩ ⟨xPre_blind, va_recv hK hP (ci := 1) rfl (q0 := 1) rfl, (fun U hU hW => ⟨rfl, xPre_of hZ hS hFc hPc hDc hK U hU hW⟩)⟩ rfl rfl hl.1 rfl (lv_room (Nat.le_of_ble_eq_true rfl)) dB_end_5 ⟨Nat.le_of_ble_eq_true rfl, Nat.le_of_ble_eq_true rfl⟩) hS (fun q _ h => hFc q h) hFc (fun r3 u9 t H1 locs ht hvm hr9 hB hz1 hk1 hS => ?_)
  obtain ⟨hP1, hK1, hD1⟩ := hB
  rw [ht] at hP1
  obtain ⟨hP, hD⟩ := xjoin (W := [(a0, .inr (0, [.ref a1, .ref a3, .ref a5, .ref a7, .ref a8, .ref a13, .int v19, .int v20])), (a3, .inr (1, [.ref a4, .int v4, .int v5])), (a4, .inl (cT 0, 4096, .inl f3)), (a5, .inr (1, [.ref a6, .int v7, .int v8])), (a6, .inl (cT 0, 4096, .inl f6)), (a7, .inl (cT 3, 8, .inr (.inr (.inr (.inr rf0))))), (a8, .inr (3, [.ref a9, .ref a10, .ref p11, .ref p13, .int v15])), (a9, .inl (cT 1, 2048, .inl f9)), (a10, .inl (cT 1, 2048, .inl f10)), (p11, .inl (cT 1, 2048, .inl f12)), (p13, .inl (cT 1, 2048, .inl f14)), (a13, .inr (2, [.ref a14, .int v17, .int v18])), (a14, .inl (cT 2, 4096, .inr (.inl f16))), (a1, .inr (1, [.ref a2, .int v1, .int v2])), (a2, .inl (cT 0, 4096, .inl f0))]) hP hD [1, 2] [0, 3, 4, 5, 6, 7, 8, 9, 10, 11, 12, 13, 14] 13 rfl rfl (by decide) (by decide) hk1 hFc hP1 hD1
  generalize H1 = H at hP hS ⊢
  rw [hr9]
  refine W.eq (g2 := F0 m 8 ls [.int o1, .int x1]) rfl ?_
  obtain ⟨o4, hq5, hf⟩ := xbind hf
  obtain ⟨hPc, hDc, hFc⟩ := xcut (wc := []) hP hD hS hA [] rfl rfl (by decide)
  refine va_calli (va_runS (As := [.int x1, .int o1]) (rest := []) ⟨hx, hb, hml, hown, htx⟩ (gB_isWithin l hl9 D cT aK aV H.size n x1 o1 o4 hq5) ⟨callB_of 2 htx (xw_goodC kw_1_218) rfl rfl rfl (htx _ kw_1_1) (htx _ kw_1_216) ⟨by decide, by decide, by decide +kernel⟩ ⟨Nat.le_of_ble_eq_true rfl, Nat.le_of_ble_eq_true rfl⟩, htx _ kw_1_217⟩ ⟨xPre_blind, (fun U hU hW => ⟨rfl, xPre_of hZ hS hFc hPc hDc hK U hU hW⟩)⟩ rfl rfl hl.1 rfl (lv_room (Nat.le_of_ble_eq_true rfl)) dB_end_8 ⟨Nat.le_of_ble_eq_true rfl, Nat.le_of_ble_eq_true rfl⟩) hS (fun q _ h => hFc q h) hFc (fun r6 u9 t H1 locs ht hvm hr9 hB hz1 hk1 hS => ?_)
  obtain ⟨hP1, hK1, hD1⟩ := hB
  rw [ht] at hP1
  obtain ⟨hP, hD⟩ := xjoin (W := [(a0, .inr (0, [.ref a1, .ref a3, .ref a5, .ref a7, .ref a8, .ref a13, .int v19, .int v20])), (a3, .inr (1, [.ref a4, .int v4, .int v5])), (a4, .inl (cT 0, 4096, .inl f3)), (a5, .inr (1, [.ref a6, .int v7, .int v8])), (a6, .inl (cT 0, 4096, .inl f6)), (a7, .inl (cT 3, 8, .inr (.inr (.inr (.inr rf0))))), (a8, .inr (3, [.ref a9, .ref a10, .ref p11, .ref p13, .int v15])), (a9, .inl (cT 1, 2048, .inl f9)), (a10, .inl (cT 1, 2048, .inl f10)), (p11, .inl (cT 1, 2048, .inl f12)), (p13, .inl (cT 1, 2048, .inl f14)), (a13, .inr (2, [.ref a14, .int v17, .int v18])), (a14, .inl (cT 2, 4096, .inr (.inl f16))), (a1, .inr (1, [.ref a2, .int v1, .int v2])), (a2, .inl (cT 0, 4096, .inl f0))]) hP hD [] [0, 1, 2, 3, 4, 5, 6, 7, 8, 9, 10, 11, 12, 13, 14] 15 rfl rfl (by decide) (by decide) hk1 hFc hP1 hD1
  generalize H1 = H at hP hS ⊢
  rw [hr9]
  refine W.eq (g2 := F0 m 11 ls [.int o4]) rfl ?_
  obtain ⟨o7, hq8, hf⟩ := xbind hf
  by_cases hk9 : o7 = 0
  · rw [if_pos hk9] at hf
    obtain ⟨hPc, hDc, hFc⟩ := xcut (wc := []) hP hD hS hA [] rfl rfl (by decide)
    refine va_callv (va_runS (As := [.int o4]) (rest := []) ⟨hx, hb, hml, hown, htx⟩ (gB_demand l hl9 D cT aK aV H.size n o4 o7 hq8 hk9) ⟨callB_of 1 htx (xw_goodC kw_1_221) rfl rfl rfl (htx _ kw_1_1) (htx _ kw_1_219) ⟨by decide, by decide, by decide +kernel⟩ ⟨Nat.le_of_ble_eq_true rfl, Nat.le_of_ble_eq_true rfl⟩, htx _ kw_1_220⟩ ⟨xPre_blind, (fun U hU hW => ⟨rfl, xPre_of hZ hS hFc hPc hDc hK U hU hW⟩)⟩ rfl rfl hl.1 rfl (lv_room (Nat.le_of_ble_eq_true rfl)) dB_end_11 ⟨Nat.le_of_ble_eq_true rfl, Nat.le_of_ble_eq_true rfl⟩) hS (fun q _ h => hFc q h) hFc (fun u9 t H1 locs ht hvm hr9 hB hz1 hk1 hS => ?_)
    obtain ⟨hP1, hK1, hD1⟩ := hB
    rw [ht] at hP1
    obtain ⟨hP, hD⟩ := xjoin (W := [(a0, .inr (0, [.ref a1, .ref a3, .ref a5, .ref a7, .ref a8, .ref a13, .int v19, .int v20])), (a3, .inr (1, [.ref a4, .int v4, .int v5])), (a4, .inl (cT 0, 4096, .inl f3)), (a5, .inr (1, [.ref a6, .int v7, .int v8])), (a6, .inl (cT 0, 4096, .inl f6)), (a7, .inl (cT 3, 8, .inr (.inr (.inr (.inr rf0))))), (a8, .inr (3, [.ref a9, .ref a10, .ref p11, .ref p13, .int v15])), (a9, .inl (cT 1, 2048, .inl f9)), (a10, .inl (cT 1, 2048, .inl f10)), (p11, .inl (cT 1, 2048, .inl f12)), (p13, .inl (cT 1, 2048, .inl f14)), (a13, .inr (2, [.ref a14, .int v17, .int v18])), (a14, .inl (cT 2, 4096, .inr (.inl f16))), (a1, .inr (1, [.ref a2, .int v1, .int v2])), (a2, .inl (cT 0, 4096, .inl f0))]) hP hD [] [0, 1, 2, 3, 4, 5, 6, 7, 8, 9, 10, 11, 12, 13, 14] 15 rfl rfl (by decide) (by decide) hk1 hFc hP1 hD1
    generalize H1 = H at hP hS ⊢
    refine lv_aload_n hx hb dB_end_14 rfl (lv_at hl 0 rfl) ?_
    refine va_get (D := D) (ci := 0) (v := .ref a1) (C := "ValueBench") (T := TB) (N := 8) hx hb htx inB hown hK hP 0 rfl rfl 0 (by decide) (htx _ kw_1_95) (fun _ h9 => h9) rfl dB_end_15 ?_
    refine lv_iload_n hx hb dB_end_18 rfl (lv_at hl 1 rfl) ?_
    obtain ⟨o10, hq11, hf⟩ := xbind hf
    obtain ⟨hPc, hDc, hFc⟩ := xcut (wc := [(a1, .inr (1, [.ref a2, .int v1, .int v2])), (a2, .inl (cT 0, 4096, .inl f0))]) hP hD hS hA [13, 14] rfl rfl (by decide)
    refine va_callv (va_runV (C := "ValueBench$Text") (As := [.int x1]) (rest := []) ⟨hx, hb, hml, hown, htx⟩ (gT_keep l hl9 D cT aK aV H.size n a1 a2 x1 f0 v1 v2 o10 hq11) ⟨callB_of 1 htx (xw_goodC kw_2_1) rfl rfl rfl (htx _ kw_1_2) (htx _ kw_1_238) ⟨by decide, by decide, by decide +kernel⟩ ⟨Nat.le_of_ble_eq_true rfl, Nat.le_of_ble_eq_true rfl⟩, (htx _ kw_1_239), (htx _ kw_2_0)⟩ ⟨xPre_blind, va_recv hK hP (ci := 1) rfl (q0 := 13) rfl, (fun U hU hW => ⟨rfl, xPre_of hZ hS hFc hPc hDc hK U hU hW⟩)⟩ rfl rfl hl.1 rfl (lv_room (Nat.le_of_ble_eq_true rfl)) dB_end_19 ⟨Nat.le_of_ble_eq_true rfl, Nat.le_of_ble_eq_true rfl⟩) hS (fun q _ h => hFc q h) hFc (fun u9 t H1 locs ht hvm hr9 hB hz1 hk1 hS => ?_)
    obtain ⟨hP1, hK1, hD1⟩ := hB
    rw [ht] at hP1
    obtain ⟨hP, hD⟩ := xjoin (W := [(a0, .inr (0, [.ref a1, .ref a3, .ref a5, .ref a7, .ref a8, .ref a13, .int v19, .int v20])), (a3, .inr (1, [.ref a4, .int v4, .int v5])), (a4, .inl (cT 0, 4096, .inl f3)), (a5, .inr (1, [.ref a6, .int v7, .int v8])), (a6, .inl (cT 0, 4096, .inl f6)), (a7, .inl (cT 3, 8, .inr (.inr (.inr (.inr rf0))))), (a8, .inr (3, [.ref a9, .ref a10, .ref p11, .ref p13, .int v15])), (a9, .inl (cT 1, 2048, .inl f9)), (a10, .inl (cT 1, 2048, .inl f10)), (p11, .inl (cT 1, 2048, .inl f12)), (p13, .inl (cT 1, 2048, .inl f14)), (a13, .inr (2, [.ref a14, .int v17, .int v18])), (a14, .inl (cT 2, 4096, .inr (.inl f16))), (a1, .inr (1, [.ref a2, .int o10, .int v2])), (a2, .inl (cT 0, 4096, .inl f0))]) hP hD [13, 14] [0, 1, 2, 3, 4, 5, 6, 7, 8, 9, 10, 11, 12] 13 rfl rfl (by decide) (by decide) hk1 hFc hP1 hD1
    generalize H1 = H at hP hS ⊢
    refine lv_iload_n hx hb dB_end_22 rfl (lv_at hl 1 rfl) ?_
    obtain rfl := Option.some.inj hf
    obtain ⟨hP9, hD9⟩ := xsub (wc := [(a0, .inr (0, [.ref a1, .ref a3, .ref a5, .ref a7, .ref a8, .ref a13, .int v19, .int v20])), (a1, .inr (1, [.ref a2, .int o10, .int v2])), (a2, .inl (cT 0, 4096, .inl f0)), (a3, .inr (1, [.ref a4, .int v4, .int v5])), (a4, .inl (cT 0, 4096, .inl f3)), (a5, .inr (1, [.ref a6, .int v7, .int v8])), (a6, .inl (cT 0, 4096, .inl f6)), (a7, .inl (cT 3, 8, .inr (.inr (.inr (.inr rf0))))), (a8, .inr (3, [.ref a9, .ref a10, .ref p11, .ref p13, .int v15])), (a9, .inl (cT 1, 2048, .inl f9)), (a10, .inl (cT 1, 2048, .inl f10)), (p11, .inl (cT 1, 2048, .inl f12)), (p13, .inl (cT 1, 2048, .inl f14)), (a13, .inr (2, [.ref a14, .int v17, .int v18])), (a14, .inl (cT 2, 4096, .inr (.inl f16)))]) hP hD [0, 13, 14, 1, 2, 3, 4, 5, 6, 7, 8, 9, 10, 11, 12] rfl rfl (by decide)
    refine W.widen (k := 1) (n := 6) (Nat.le_of_ble_eq_true rfl) (Nat.le_of_ble_eq_true rfl) ?_
    exact W.iret (v := x1) hx hb hr (fun t ht hW => ⟨⟨x1, (), rfl, rfl, by rw [ht]; exact hP9, va_K.moved hW.alike hK, hD9⟩, hS.F ht⟩) hS.2.2 dB_end_23
  rw [if_neg hk9] at hf
  by_cases hk12 : o7 = 1
  · rw [if_pos hk12] at hf
    obtain rfl := Option.some.inj hf
    exact absurd (show (1 : Nat) = 0 from hkd) (by decide)
  rw [if_neg hk12] at hf
  exact nomatch hf
set_option maxHeartbeats 400000000 in
set_option maxRecDepth 100000 in
theorem gB_end_1 (l : Launch) (hl9 : l.stackTraces = false) (D : va_G) (cT : Nat → ClassId) (aK aV : Nat → Nat) (sz n : Nat) (a0 : Nat) (a1 : Nat) (a2 : Nat) (a3 : Nat) (a4 : Nat) (a5 : Nat) (a6 : Nat) (a7 : Nat) (a8 : Nat) (a9 : Nat) (a10 : Nat) (a13 : Nat) (a14 : Nat) (rf0 : Nat → Option Nat) (x1 : Int32) (f0 : Nat → Int32) (v1 : Int32) (v2 : Int32) (f3 : Nat → Int32) (v4 : Int32) (v5 : Int32) (f6 : Nat → Int32) (v7 : Int32) (v8 : Int32) (f9 : Nat → Int32) (f10 : Nat → Int32) (p11 : Nat) (f12 : Nat → Int32) (p13 : Nat) (f14 : Nat → Int32) (v15 : Int32) (f16 : Nat → Int64) (v17 : Int32) (v18 : Int32) (v19 : Int32) (v20 : Int32) (out : Nat × Int32 × Int32) (hf : fB_end n x1 f0 v1 v2 f3 v4 v5 f6 v7 v8 f9 f10 p11 f12 p13 f14 v15 f16 v17 v18 v19 v20 = some out) (hkd : out.1 = 1) : xMetX l yB_end wyB_end 7 1 6 120 D cT aK aV sz [.ref a0, .int x1] [(a0, .inr (0, [.ref a1, .ref a3, .ref a5, .ref a7, .ref a8, .ref a13, .int v19, .int v20])), (a1, .inr (1, [.ref a2, .int v1, .int v2])), (a2, .inl (cT 0, 4096, .inl f0)), (a3, .inr (1, [.ref a4, .int v4, .int v5])), (a4, .inl (cT 0, 4096, .inl f3)), (a5, .inr (1, [.ref a6, .int v7, .int v8])), (a6, .inl (cT 0, 4096, .inl f6)), (a7, .inl (cT 3, 8, .inr (.inr (.inr (.inr rf0))))), (a8, .inr (3, [.ref a9, .ref a10, .ref p11, .ref p13, .int v15])), (a9, .inl (cT 1, 2048, .inl f9)), (a10, .inl (cT 1, 2048, .inl f10)), (p11, .inl (cT 1, 2048, .inl f12)), (p13, .inl (cT 1, 2048, .inl f14)), (a13, .inr (2, [.ref a14, .int v17, .int v18])), (a14, .inl (cT 2, 4096, .inr (.inl f16)))] "java/lang/IllegalArgumentException" (fun A t => xB D xcl cT A [(a0, .inr (0, [.ref a1, .ref a3, .ref a5, .ref a7, .ref a8, .ref a13, .int v19, .int v20])), (a1, .inr (1, [.ref a2, .int out.2.2, .int v2])), (a2, .inl (cT 0, 4096, .inl f0)), (a3, .inr (1, [.ref a4, .int v4, .int v5])), (a4, .inl (cT 0, 4096, .inl f3)), (a5, .inr (1, [.ref a6, .int v7, .int v8])), (a6, .inl (cT 0, 4096, .inl f6)), (a7, .inl (cT 3, 8, .inr (.inr (.inr (.inr rf0))))), (a8, .inr (3, [.ref a9, .ref a10, .ref p11, .ref p13, .int v15])), (a9, .inl (cT 1, 2048, .inl f9)), (a10, .inl (cT 1, 2048, .inl f10)), (p11, .inl (cT 1, 2048, .inl f12)), (p13, .inl (cT 1, 2048, .inl f14)), (a13, .inr (2, [.ref a14, .int v17, .int v18])), (a14, .inl (cT 2, 4096, .inr (.inl f16)))] t) := by
  refine vx_ofW (cc := prog_1_method_3_code) (maxL := 2) (ret := (some .int)) (by decide) rfl ?_
  intro p e s m args below meth c s₁ B hml hne hv
  obtain ⟨rfl, hsz, hZ, hP, hK, hD0⟩ := hv
  have hx := B.exec
  have hb := B.bytes
  have hr := B.returns
  have hts := atoms_spec (ws := wyB_end) B.pre
  have htx := fun w h => hts w (List.mem_cons_of_mem _ h)
  have hown : s.vm.findClass "ValueBench" = some m.cls := findClass_of_methodNamed B.named
  have hlocks := B.notSynchronized
  subst hsz
  have hD := hD0.self (sz := s.heap.size)
  generalize hAe : va_A [(a0, .inr (0, [.ref a1, .ref a3, .ref a5, .ref a7, .ref a8, .ref a13, .int v19, .int v20])), (a1, .inr (1, [.ref a2, .int v1, .int v2])), (a2, .inl (cT 0, 4096, .inl f0)), (a3, .inr (1, [.ref a4, .int v4, .int v5])), (a4, .inl (cT 0, 4096, .inl f3)), (a5, .inr (1, [.ref a6, .int v7, .int v8])), (a6, .inl (cT 0, 4096, .inl f6)), (a7, .inl (cT 3, 8, .inr (.inr (.inr (.inr rf0))))), (a8, .inr (3, [.ref a9, .ref a10, .ref p11, .ref p13, .int v15])), (a9, .inl (cT 1, 2048, .inl f9)), (a10, .inl (cT 1, 2048, .inl f10)), (p11, .inl (cT 1, 2048, .inl f12)), (p13, .inl (cT 1, 2048, .inl f14)), (a13, .inr (2, [.ref a14, .int v17, .int v18])), (a14, .inl (cT 2, 4096, .inr (.inl f16)))] s.heap.size = A at hD hZ ⊢
  have hA : ∀ q : Nat, s.heap.size ≤ q → A q := fun q h => by rw [← hAe]; exact Or.inr h
  have hS : va_S A s.heap s.heap [] := va_S.rf
  have hP : va_P D xcl [(a0, .inr (0, [.ref a1, .ref a3, .ref a5, .ref a7, .ref a8, .ref a13, .int v19, .int v20])), (a1, .inr (1, [.ref a2, .int v1, .int v2])), (a2, .inl (cT 0, 4096, .inl f0)), (a3, .inr (1, [.ref a4, .int v4, .int v5])), (a4, .inl (cT 0, 4096, .inl f3)), (a5, .inr (1, [.ref a6, .int v7, .int v8])), (a6, .inl (cT 0, 4096, .inl f6)), (a7, .inl (cT 3, 8, .inr (.inr (.inr (.inr rf0))))), (a8, .inr (3, [.ref a9, .ref a10, .ref p11, .ref p13, .int v15])), (a9, .inl (cT 1, 2048, .inl f9)), (a10, .inl (cT 1, 2048, .inl f10)), (p11, .inl (cT 1, 2048, .inl f12)), (p13, .inl (cT 1, 2048, .inl f14)), (a13, .inr (2, [.ref a14, .int v17, .int v18])), (a14, .inl (cT 2, 4096, .inr (.inl f16)))] s.heap := hP
  have hl := lv_entry ([.ref a0, .int x1]) (n := 2) (Nat.le_of_ble_eq_true rfl)
  rw [lg_entry_eq]
  generalize (lg_sl ([.ref a0, .int x1]) ++ List.replicate (2 - (lg_sl ([.ref a0, .int x1])).length) Slot.unset).toArray = ls at hl ⊢
  have hl : lv_has ls 2 [(0, .ref a0), (1, .int x1)] := hl
  unfold fB_end at hf
  refine lv_iload_n hx hb dB_end_0 rfl (lv_at hl 1 rfl) ?_
  refine lv_aload_n hx hb dB_end_1 rfl (lv_at hl 0 rfl) ?_
  refine va_get (D := D) (ci := 0) (v := .ref a1) (C := "ValueBench") (T := TB) (N := 8) hx hb htx inB hown hK hP 0 rfl rfl 0 (by decide) (htx _ kw_1_95) (fun _ h9 => h9) rfl dB_end_2 ?_
  obtain ⟨o1, hq2, hf⟩ := xbind hf
  obtain ⟨hPc, hDc, hFc⟩ := xcut (wc := [(a1, .inr (1, [.ref a2, .int v1, .int v2])), (a2, .inl (cT 0, 4096, .inl f0))]) hP hD hS hA [1, 2] rfl rfl (by decide)
  refine va_calli (va_runV (C := "ValueBench$Text") (As := []) (rest := [.int x1]) ⟨hx, hb, hml, hown, htx⟩ (gT_size l hl9 D cT aK aV s.heap.size n a1 a2 f0 v1 v2 o1 hq2) ⟨callB_of 0 htx (xw_goodC kw_1_131) rfl rfl rfl (htx _ kw_1_2) (htx _ kw_1_128) ⟨by decide, by decide, by decide +kernel⟩ ⟨Nat.le_of_ble_eq_true rfl, Nat.le_of_ble_eq_true rfl⟩, (htx _ kw_1_129), (htx _ kw_1_130)⟩ ⟨xPre_blind, va_recv hK hP (ci := 1) rfl (q0 := 1) rfl, (fun U hU hW => ⟨rfl, xPre_of hZ hS hFc hPc hDc hK U hU hW⟩)⟩ rfl rfl hl.1 rfl (lv_room (Nat.le_of_ble_eq_true rfl)) dB_end_5 ⟨Nat.le_of_ble_eq_true rfl, Nat.le_of_ble_eq_true rfl⟩) hS (fun q _ h => hFc q h) hFc (fun r3 u9 t H1 locs ht hvm hr9 hB hz1 hk1 hS => ?_)
  obtain ⟨hP1, hK1, hD1⟩ := hB
  rw [ht] at hP1
  obtain ⟨hP, hD⟩ := xjoin (W := [(a0, .inr (0, [.ref a1, .ref a3, .ref a5, .ref a7, .ref a8, .ref a13, .int v19, .int v20])), (a3, .inr (1, [.ref a4, .int v4, .int v5])), (a4, .inl (cT 0, 4096, .inl f3)), (a5, .inr (1, [.ref a6, .int v7, .int v8])), (a6, .inl (cT 0, 4096, .inl f6)), (a7, .inl (cT 3, 8, .inr (.inr (.inr (.inr rf0))))), (a8, .inr (3, [.ref a9, .ref a10, .ref p11, .ref p13, .int v15])), (a9, .inl (cT 1, 2048, .inl f9)), (a10, .inl (cT 1, 2048, .inl f10)), (p11, .inl (cT 1, 2048, .inl f12)), (p13, .inl (cT 1, 2048, .inl f14)), (a13, .inr (2, [.ref a14, .int v17, .int v18])), (a14, .inl (cT 2, 4096, .inr (.inl f16))), (a1, .inr (1, [.ref a2, .int v1, .int v2])), (a2, .inl (cT 0, 4096, .inl f0))]) hP hD [1, 2] [0, 3, 4, 5, 6, 7, 8, 9, 10, 11, 12, 13, 14] 13 rfl rfl (by decide) (by decide) hk1 hFc hP1 hD1
  generalize H1 = H at hP hS ⊢
  rw [hr9]
  refine W.eq (g2 := F0 m 8 ls [.int o1, .int x1]) rfl ?_
  obtain ⟨o4, hq5, hf⟩ := xbind hf
  obtain ⟨hPc, hDc, hFc⟩ := xcut (wc := []) hP hD hS hA [] rfl rfl (by decide)
  refine va_calli (va_runS (As := [.int x1, .int o1]) (rest := []) ⟨hx, hb, hml, hown, htx⟩ (gB_isWithin l hl9 D cT aK aV H.size n x1 o1 o4 hq5) ⟨callB_of 2 htx (xw_goodC kw_1_218) rfl rfl rfl (htx _ kw_1_1) (htx _ kw_1_216) ⟨by decide, by decide, by decide +kernel⟩ ⟨Nat.le_of_ble_eq_true rfl, Nat.le_of_ble_eq_true rfl⟩, htx _ kw_1_217⟩ ⟨xPre_blind, (fun U hU hW => ⟨rfl, xPre_of hZ hS hFc hPc hDc hK U hU hW⟩)⟩ rfl rfl hl.1 rfl (lv_room (Nat.le_of_ble_eq_true rfl)) dB_end_8 ⟨Nat.le_of_ble_eq_true rfl, Nat.le_of_ble_eq_true rfl⟩) hS (fun q _ h => hFc q h) hFc (fun r6 u9 t H1 locs ht hvm hr9 hB hz1 hk1 hS => ?_)
  obtain ⟨hP1, hK1, hD1⟩ := hB
  rw [ht] at hP1
  obtain ⟨hP, hD⟩ := xjoin (W := [(a0, .inr (0, [.ref a1, .ref a3, .ref a5, .ref a7, .ref a8, .ref a13, .int v19, .int v20])), (a3, .inr (1, [.ref a4, .int v4, .int v5])), (a4, .inl (cT 0, 4096, .inl f3)), (a5, .inr (1, [.ref a6, .int v7, .int v8])), (a6, .inl (cT 0, 4096, .inl f6)), (a7, .inl (cT 3, 8, .inr (.inr (.inr (.inr rf0))))), (a8, .inr (3, [.ref a9, .ref a10, .ref p11, .ref p13, .int v15])), (a9, .inl (cT 1, 2048, .inl f9)), (a10, .inl (cT 1, 2048, .inl f10)), (p11, .inl (cT 1, 2048, .inl f12)), (p13, .inl (cT 1, 2048, .inl f14)), (a13, .inr (2, [.ref a14, .int v17, .int v18])), (a14, .inl (cT 2, 4096, .inr (.inl f16))), (a1, .inr (1, [.ref a2, .int v1, .int v2])), (a2, .inl (cT 0, 4096, .inl f0))]) hP hD [] [0, 1, 2, 3, 4, 5, 6, 7, 8, 9, 10, 11, 12, 13, 14] 15 rfl rfl (by decide) (by decide) hk1 hFc hP1 hD1
  generalize H1 = H at hP hS ⊢
  rw [hr9]
  refine W.eq (g2 := F0 m 11 ls [.int o4]) rfl ?_
  obtain ⟨o7, hq8, hf⟩ := xbind hf
  by_cases hk9 : o7 = 0
  · rw [if_pos hk9] at hf
    obtain ⟨hPc, hDc, hFc⟩ := xcut (wc := []) hP hD hS hA [] rfl rfl (by decide)
    refine va_callv (va_runS (As := [.int o4]) (rest := []) ⟨hx, hb, hml, hown, htx⟩ (gB_demand l hl9 D cT aK aV H.size n o4 o7 hq8 hk9) ⟨callB_of 1 htx (xw_goodC kw_1_221) rfl rfl rfl (htx _ kw_1_1) (htx _ kw_1_219) ⟨by decide, by decide, by decide +kernel⟩ ⟨Nat.le_of_ble_eq_true rfl, Nat.le_of_ble_eq_true rfl⟩, htx _ kw_1_220⟩ ⟨xPre_blind, (fun U hU hW => ⟨rfl, xPre_of hZ hS hFc hPc hDc hK U hU hW⟩)⟩ rfl rfl hl.1 rfl (lv_room (Nat.le_of_ble_eq_true rfl)) dB_end_11 ⟨Nat.le_of_ble_eq_true rfl, Nat.le_of_ble_eq_true rfl⟩) hS (fun q _ h => hFc q h) hFc (fun u9 t H1 locs ht hvm hr9 hB hz1 hk1 hS => ?_)
    obtain ⟨hP1, hK1, hD1⟩ := hB
    rw [ht] at hP1
    obtain ⟨hP, hD⟩ := xjoin (W := [(a0, .inr (0, [.ref a1, .ref a3, .ref a5, .ref a7, .ref a8, .ref a13, .int v19, .int v20])), (a3, .inr (1, [.ref a4, .int v4, .int v5])), (a4, .inl (cT 0, 4096, .inl f3)), (a5, .inr (1, [.ref a6, .int v7, .int v8])), (a6, .inl (cT 0, 4096, .inl f6)), (a7, .inl (cT 3, 8, .inr (.inr (.inr (.inr rf0))))), (a8, .inr (3, [.ref a9, .ref a10, .ref p11, .ref p13, .int v15])), (a9, .inl (cT 1, 2048, .inl f9)), (a10, .inl (cT 1, 2048, .inl f10)), (p11, .inl (cT 1, 2048, .inl f12)), (p13, .inl (cT 1, 2048, .inl f14)), (a13, .inr (2, [.ref a14, .int v17, .int v18])), (a14, .inl (cT 2, 4096, .inr (.inl f16))), (a1, .inr (1, [.ref a2, .int v1, .int v2])), (a2, .inl (cT 0, 4096, .inl f0))]) hP hD [] [0, 1, 2, 3, 4, 5, 6, 7, 8, 9, 10, 11, 12, 13, 14] 15 rfl rfl (by decide) (by decide) hk1 hFc hP1 hD1
    generalize H1 = H at hP hS ⊢
    refine lv_aload_n hx hb dB_end_14 rfl (lv_at hl 0 rfl) ?_
    refine va_get (D := D) (ci := 0) (v := .ref a1) (C := "ValueBench") (T := TB) (N := 8) hx hb htx inB hown hK hP 0 rfl rfl 0 (by decide) (htx _ kw_1_95) (fun _ h9 => h9) rfl dB_end_15 ?_
    refine lv_iload_n hx hb dB_end_18 rfl (lv_at hl 1 rfl) ?_
    obtain ⟨o10, hq11, hf⟩ := xbind hf
    obtain ⟨hPc, hDc, hFc⟩ := xcut (wc := [(a1, .inr (1, [.ref a2, .int v1, .int v2])), (a2, .inl (cT 0, 4096, .inl f0))]) hP hD hS hA [13, 14] rfl rfl (by decide)
    refine va_callv (va_runV (C := "ValueBench$Text") (As := [.int x1]) (rest := []) ⟨hx, hb, hml, hown, htx⟩ (gT_keep l hl9 D cT aK aV H.size n a1 a2 x1 f0 v1 v2 o10 hq11) ⟨callB_of 1 htx (xw_goodC kw_2_1) rfl rfl rfl (htx _ kw_1_2) (htx _ kw_1_238) ⟨by decide, by decide, by decide +kernel⟩ ⟨Nat.le_of_ble_eq_true rfl, Nat.le_of_ble_eq_true rfl⟩, (htx _ kw_1_239), (htx _ kw_2_0)⟩ ⟨xPre_blind, va_recv hK hP (ci := 1) rfl (q0 := 13) rfl, (fun U hU hW => ⟨rfl, xPre_of hZ hS hFc hPc hDc hK U hU hW⟩)⟩ rfl rfl hl.1 rfl (lv_room (Nat.le_of_ble_eq_true rfl)) dB_end_19 ⟨Nat.le_of_ble_eq_true rfl, Nat.le_of_ble_eq_true rfl⟩) hS (fun q _ h => hFc q h) hFc (fun u9 t H1 locs ht hvm hr9 hB hz1 hk1 hS => ?_)
    obtain ⟨hP1, hK1, hD1⟩ := hB
    rw [ht] at hP1
    obtain ⟨hP, hD⟩ := xjoin (W := [(a0, .inr (0, [.ref a1, .ref a3, .ref a5, .ref a7, .ref a8, .ref a13, .int v19, .int v20])), (a3, .inr (1, [.ref a4, .int v4, .int v5])), (a4, .inl (cT 0, 4096, .inl f3)), (a5, .inr (1, [.ref a6, .int v7, .int v8])), (a6, .inl (cT 0, 4096, .inl f6)), (a7, .inl (cT 3, 8, .inr (.inr (.inr (.inr rf0))))), (a8, .inr (3, [.ref a9, .ref a10, .ref p11, .ref p13, .int v15])), (a9, .inl (cT 1, 2048, .inl f9)), (a10, .inl (cT 1, 2048, .inl f10)), (p11, .inl (cT 1, 2048, .inl f12)), (p13, .inl (cT 1, 2048, .inl f14)), (a13, .inr (2, [.ref a14, .int v17, .int v18])), (a14, .inl (cT 2, 4096, .inr (.inl f16))), (a1, .inr (1, [.ref a2, .int o10, .int v2])), (a2, .inl (cT 0, 4096, .inl f0))]) hP hD [13, 14] [0, 1, 2, 3, 4, 5, 6, 7, 8, 9, 10, 11, 12] 13 rfl rfl (by decide) (by decide) hk1 hFc hP1 hD1
    generalize H1 = H at hP hS ⊢
    refine lv_iload_n hx hb dB_end_22 rfl (lv_at hl 1 rfl) ?_
    obtain rfl := Option.some.inj hf
    exact absurd (show (0 : Nat) = 1 from hkd) (by decide)
  rw [if_neg hk9] at hf
  by_cases hk12 : o7 = 1
  · rw [if_pos hk12] at hf
    obtain ⟨hPc, hDc, hFc⟩ := xcut (wc := []) hP hD hS hA [] rfl rfl (by decide)
    refine xx_thr (vx_runS (As := [.int o4]) (rest := []) ⟨hx, hb, hml, hown, htx⟩ (gB_demand_1 l hl9 D cT aK aV H.size n o4 o7 hq8 hk12) ⟨callB_of 1 htx (xw_goodC kw_1_221) rfl rfl rfl (htx _ kw_1_1) (htx _ kw_1_219) ⟨by decide, by decide, by decide +kernel⟩ ⟨Nat.le_of_ble_eq_true rfl, Nat.le_of_ble_eq_true rfl⟩, htx _ kw_1_220⟩ ⟨xPre_blind, (fun U hU hW => ⟨rfl, xPre_of hZ hS hFc hPc hDc hK U hU hW⟩)⟩ rfl rfl hl.1 rfl (lv_room (Nat.le_of_ble_eq_true rfl)) dB_end_11 ⟨Nat.le_of_ble_eq_true rfl, Nat.le_of_ble_eq_true rfl⟩) hS hFc (fun q _ h => hFc q h) (fun E ce q9 u9 t H1 locs ht hvm _ hB hz1 hk1 hS hce hcv hcl => ?_)
    obtain ⟨rfl, hP1, hK1, hD1⟩ := hB
    rw [ht] at hP1
    obtain ⟨hP, hD⟩ := xjoin (W := [(a0, .inr (0, [.ref a1, .ref a3, .ref a5, .ref a7, .ref a8, .ref a13, .int v19, .int v20])), (a3, .inr (1, [.ref a4, .int v4, .int v5])), (a4, .inl (cT 0, 4096, .inl f3)), (a5, .inr (1, [.ref a6, .int v7, .int v8])), (a6, .inl (cT 0, 4096, .inl f6)), (a7, .inl (cT 3, 8, .inr (.inr (.inr (.inr rf0))))), (a8, .inr (3, [.ref a9, .ref a10, .ref p11, .ref p13, .int v15])), (a9, .inl (cT 1, 2048, .inl f9)), (a10, .inl (cT 1, 2048, .inl f10)), (p11, .inl (cT 1, 2048, .inl f12)), (p13, .inl (cT 1, 2048, .inl f14)), (a13, .inr (2, [.ref a14, .int v17, .int v18])), (a14, .inl (cT 2, 4096, .inr (.inl f16))), (a1, .inr (1, [.ref a2, .int v1, .int v2])), (a2, .inl (cT 0, 4096, .inl f0))]) hP hD [] [0, 1, 2, 3, 4, 5, 6, 7, 8, 9, 10, 11, 12, 13, 14] 15 rfl rfl (by decide) (by decide) hk1 hFc hP1 hD1
    generalize H1 = H at hP hS hce ⊢
    obtain rfl := Option.some.inj hf
    obtain ⟨hP9, hD9⟩ := xsub (wc := [(a0, .inr (0, [.ref a1, .ref a3, .ref a5, .ref a7, .ref a8, .ref a13, .int v19, .int v20])), (a1, .inr (1, [.ref a2, .int v1, .int v2])), (a2, .inl (cT 0, 4096, .inl f0)), (a3, .inr (1, [.ref a4, .int v4, .int v5])), (a4, .inl (cT 0, 4096, .inl f3)), (a5, .inr (1, [.ref a6, .int v7, .int v8])), (a6, .inl (cT 0, 4096, .inl f6)), (a7, .inl (cT 3, 8, .inr (.inr (.inr (.inr rf0))))), (a8, .inr (3, [.ref a9, .ref a10, .ref p11, .ref p13, .int v15])), (a9, .inl (cT 1, 2048, .inl f9)), (a10, .inl (cT 1, 2048, .inl f10)), (p11, .inl (cT 1, 2048, .inl f12)), (p13, .inl (cT 1, 2048, .inl f14)), (a13, .inr (2, [.ref a14, .int v17, .int v18])), (a14, .inl (cT 2, 4096, .inr (.inl f16)))]) hP hD [0, 13, 14, 1, 2, 3, 4, 5, 6, 7, 8, 9, 10, 11, 12] rfl rfl (by decide)
    exact vx_out (E := "java/lang/IllegalArgumentException") (fun x h => (hne x h).elim) hlocks hce hcv hcl (fun t ht ha => ⟨(), trivial, ⟨rfl, by rw [ht]; exact hP9, va_K.moved ha hK, hD9⟩, hS.F ht⟩) hS.2.2 (Nat.le_of_ble_eq_true rfl) (Nat.le_of_ble_eq_true rfl)
  rw [if_neg hk12] at hf
  exact nomatch hf
set_option maxHeartbeats 400000000 in
set_option maxRecDepth 100000 in
theorem gB_isRegister (l : Launch) (hl9 : l.stackTraces = false) (D : va_G) (cT : Nat → ClassId) (aK aV : Nat → Nat) (sz n : Nat) (x0 : Int32) (out : Int32) (hf : fB_isRegister n x0 = some out) : xMet l yB_isRegister wyB_isRegister 1 0 0 21 D cT aK aV sz [.int x0] [] (fun A => va_Qi (fun (r : Int32) (_ : Unit) => r = out) (fun _ t => xB D xcl cT A [] t) A) := by
  refine Met.ofW (cc := prog_1_method_14_code) (maxL := 1) (ret := (some .boolean)) (by decide) rfl ?_
  intro p e s m args below meth c s₁ B hml hv
  obtain ⟨rfl, hsz, hZ, hP, hK, hD0⟩ := hv
  have hx := B.exec
  have hb := B.bytes
  have hr := B.returns
  have hts := atoms_spec (ws := wyB_isRegister) B.pre
  have htx := fun w h => hts w (List.mem_cons_of_mem _ h)
  have hown : s.vm.findClass "ValueBench" = some m.cls := findClass_of_methodNamed B.named
  have hlocks := B.notSynchronized
  subst hsz
  have hD := hD0.self (sz := s.heap.size)
  generalize hAe : va_A [] s.heap.size = A at hD hZ ⊢
  have hA : ∀ q : Nat, s.heap.size ≤ q → A q := fun q h => by rw [← hAe]; exact Or.inr h
  have hS : va_S A s.heap s.heap [] := va_S.rf
  have hP : va_P D xcl [] s.heap := hP
  have hl := lv_entry ([.int x0]) (n := 1) (Nat.le_of_ble_eq_true rfl)
  rw [lg_entry_eq]
  generalize (lg_sl ([.int x0]) ++ List.replicate (1 - (lg_sl ([.int x0])).length) Slot.unset).toArray = ls at hl ⊢
  have hl : lv_has ls 1 [(0, .int x0)] := hl
  unfold fB_isRegister at hf
  refine lv_iload_n hx hb dB_isRegister_0 rfl (lv_at hl 0 rfl) ?_
  refine lv_bipush (v := 7) hx hb dB_isRegister_1 (by decide) ?_
  obtain ⟨o1, hq2, hf⟩ := xbind hf
  obtain ⟨hPc, hDc, hFc⟩ := xcut (wc := []) hP hD hS hA [] rfl rfl (by decide)
  refine va_calli (va_runS (As := [.int x0, .int 7]) (rest := []) ⟨hx, hb, hml, hown, htx⟩ (gB_isWithin l hl9 D cT aK aV s.heap.size n x0 (7 : Int32) o1 hq2) ⟨callB_of 2 htx (xw_goodC kw_1_218) rfl rfl rfl (htx _ kw_1_1) (htx _ kw_1_216) ⟨by decide, by decide, by decide +kernel⟩ ⟨Nat.le_of_ble_eq_true rfl, Nat.le_of_ble_eq_true rfl⟩, htx _ kw_1_217⟩ ⟨xPre_blind, (fun U hU hW => ⟨rfl, xPre_of hZ hS hFc hPc hDc hK U hU hW⟩)⟩ rfl rfl hl.1 rfl (lv_room (Nat.le_of_ble_eq_true rfl)) dB_isRegister_3 ⟨Nat.le_of_ble_eq_true rfl, Nat.le_of_ble_eq_true rfl⟩) hS (fun q _ h => hFc q h) hFc (fun r3 u9 t H1 locs ht hvm hr9 hB hz1 hk1 hS => ?_)
  obtain ⟨hP1, hK1, hD1⟩ := hB
  rw [ht] at hP1
  obtain ⟨hP, hD⟩ := xjoin (W := []) hP hD [] [] 0 rfl rfl (by decide) (by decide) hk1 hFc hP1 hD1
  generalize H1 = H at hP hS ⊢
  rw [hr9]
  refine W.eq (g2 := F0 m 6 ls [.int o1]) rfl ?_
  obtain ⟨hg4, hf⟩ := xifn hf
  obtain rfl := Option.some.inj hf
  obtain ⟨hP9, hD9⟩ := xsub (wc := []) hP hD [] rfl rfl (by decide)
  exact W.zret (v := o1) hx hb hr (xzb hg4) (fun t ht hW => ⟨⟨o1, (), rfl, rfl, by rw [ht]; exact hP9, va_K.moved hW.alike hK, hD9⟩, hS.F ht⟩) hS.2.2 dB_isRegister_6
set_option maxHeartbeats 400000000 in
set_option maxRecDepth 100000 in
theorem gB_keepSpare (l : Launch) (hl9 : l.stackTraces = false) (D : va_G) (cT : Nat → ClassId) (aK aV : Nat → Nat) (sz d n : Nat) (a0 : Nat) (a1 : Nat) (a2 : Nat) (a3 : Nat) (a4 : Nat) (a5 : Nat) (a6 : Nat) (a7 : Nat) (a8 : Nat) (a9 : Nat) (a10 : Nat) (a13 : Nat) (a14 : Nat) (rf0 : Nat → Option Nat) (b1 : Nat) (x1 : Int32) (f0 : Nat → Int32) (v1 : Int32) (v2 : Int32) (f3 : Nat → Int32) (v4 : Int32) (v5 : Int32) (f6 : Nat → Int32) (v7 : Int32) (v8 : Int32) (f9 : Nat → Int32) (f10 : Nat → Int32) (p11 : Nat) (f12 : Nat → Int32) (p13 : Nat) (f14 : Nat → Int32) (v15 : Int32) (f16 : Nat → Int64) (v17 : Int32) (v18 : Int32) (v19 : Int32) (v20 : Int32) (hr1 : ¬ (x1 < 0 ∨ 8 ≤ x1.toNatClampNeg) → rf0 x1.toNatClampNeg = some b1) (out : Nat × Int32 × (Nat → Int32) × Int32 × Int32) (hf : fB_keepSpare d n x1 f0 v1 v2 f3 v4 v5 f6 v7 v8 f9 f10 p11 f12 p13 f14 v15 f16 v17 v18 v19 v20 = some out) (hkd : out.1 = 0) : xMet l yB_keepSpare wyB_keepSpare (16 * d + 6) 1 6 (400 * d + 100) D cT aK aV sz [.ref a0, .int x1] [(a0, .inr (0, [.ref a1, .ref a3, .ref a5, .ref a7, .ref a8, .ref a13, .int v19, .int v20])), (a1, .inr (1, [.ref a2, .int v1, .int v2])), (a2, .inl (cT 0, 4096, .inl f0)), (a3, .inr (1, [.ref a4, .int v4, .int v5])), (a4, .inl (cT 0, 4096, .inl f3)), (a5, .inr (1, [.ref a6, .int v7, .int v8])), (a6, .inl (cT 0, 4096, .inl f6)), (a7, .inl (cT 3, 8, .inr (.inr (.inr (.inr rf0))))), (a8, .inr (3, [.ref a9, .ref a10, .ref p11, .ref p13, .int v15])), (a9, .inl (cT 1, 2048, .inl f9)), (a10, .inl (cT 1, 2048, .inl f10)), (p11, .inl (cT 1, 2048, .inl f12)), (p13, .inl (cT 1, 2048, .inl f14)), (a13, .inr (2, [.ref a14, .int v17, .int v18])), (a14, .inl (cT 2, 4096, .inr (.inl f16)))] (fun A => va_Qi (fun (r : Int32) (_ : Unit) => r = out.2.1) (fun _ t => xB D xcl cT A [(a0, .inr (0, [.ref a1, .ref a3, .ref a5, .ref a7, .ref a8, .ref b1, .int v19, .int v20])), (a1, .inr (1, [.ref a2, .int v1, .int v2])), (a2, .inl (cT 0, 4096, .inl f0)), (a3, .inr (1, [.ref a4, .int v4, .int v5])), (a4, .inl (cT 0, 4096, .inl f3)), (a5, .inr (1, [.ref a6, .int out.2.2.2.1, .int out.2.2.2.2])), (a6, .inl (cT 0, 4096, .inl out.2.2.1)), (a7, .inl (cT 3, 8, .inr (.inr (.inr (.inr (va_up rf0 x1.toNatClampNeg (some a13))))))), (a8, .inr (3, [.ref a9, .ref a10, .ref p11, .ref p13, .int v15])), (a9, .inl (cT 1, 2048, .inl f9)), (a10, .inl (cT 1, 2048, .inl f10)), (p11, .inl (cT 1, 2048, .inl f12)), (p13, .inl (cT 1, 2048, .inl f14)), (a13, .inr (2, [.ref a14, .int v17, .int v18])), (a14, .inl (cT 2, 4096, .inr (.inl f16)))] t) A) := by
  refine Met.ofW (cc := prog_1_method_18_code) (maxL := 3) (ret := (some .int)) (by decide) rfl ?_
  intro p e s m args below meth c s₁ B hml hv
  obtain ⟨rfl, hsz, hZ, hP, hK, hD0⟩ := hv
  have hx := B.exec
  have hb := B.bytes
  have hr := B.returns
  have hts := atoms_spec (ws := wyB_keepSpare) B.pre
  have htx := fun w h => hts w (List.mem_cons_of_mem _ h)
  have hown : s.vm.findClass "ValueBench" = some m.cls := findClass_of_methodNamed B.named
  have hlocks := B.notSynchronized
  subst hsz
  have hD := hD0.self (sz := s.heap.size)
  generalize hAe : va_A [(a0, .inr (0, [.ref a1, .ref a3, .ref a5, .ref a7, .ref a8, .ref a13, .int v19, .int v20])), (a1, .inr (1, [.ref a2, .int v1, .int v2])), (a2, .inl (cT 0, 4096, .inl f0)), (a3, .inr (1, [.ref a4, .int v4, .int v5])), (a4, .inl (cT 0, 4096, .inl f3)), (a5, .inr (1, [.ref a6, .int v7, .int v8])), (a6, .inl (cT 0, 4096, .inl f6)), (a7, .inl (cT 3, 8, .inr (.inr (.inr (.inr rf0))))), (a8, .inr (3, [.ref a9, .ref a10, .ref p11, .ref p13, .int v15])), (a9, .inl (cT 1, 2048, .inl f9)), (a10, .inl (cT 1, 2048, .inl f10)), (p11, .inl (cT 1, 2048, .inl f12)), (p13, .inl (cT 1, 2048, .inl f14)), (a13, .inr (2, [.ref a14, .int v17, .int v18])), (a14, .inl (cT 2, 4096, .inr (.inl f16)))] s.heap.size = A at hD hZ ⊢
  have hA : ∀ q : Nat, s.heap.size ≤ q → A q := fun q h => by rw [← hAe]; exact Or.inr h
  have hS : va_S A s.heap s.heap [] := va_S.rf
  have hP : va_P D xcl [(a0, .inr (0, [.ref a1, .ref a3, .ref a5, .ref a7, .ref a8, .ref a13, .int v19, .int v20])), (a1, .inr (1, [.ref a2, .int v1, .int v2])), (a2, .inl (cT 0, 4096, .inl f0)), (a3, .inr (1, [.ref a4, .int v4, .int v5])), (a4, .inl (cT 0, 4096, .inl f3)), (a5, .inr (1, [.ref a6, .int v7, .int v8])), (a6, .inl (cT 0, 4096, .inl f6)), (a7, .inl (cT 3, 8, .inr (.inr (.inr (.inr rf0))))), (a8, .inr (3, [.ref a9, .ref a10, .ref p11, .ref p13, .int v15])), (a9, .inl (cT 1, 2048, .inl f9)), (a10, .inl (cT 1, 2048, .inl f10)), (p11, .inl (cT 1, 2048, .inl f12)), (p13, .inl (cT 1, 2048, .inl f14)), (a13, .inr (2, [.ref a14, .int v17, .int v18])), (a14, .inl (cT 2, 4096, .inr (.inl f16)))] s.heap := hP
  have hl := lv_entry ([.ref a0, .int x1]) (n := 3) (Nat.le_of_ble_eq_true rfl)
  rw [lg_entry_eq]
  generalize (lg_sl ([.ref a0, .int x1]) ++ List.replicate (3 - (lg_sl ([.ref a0, .int x1])).length) Slot.unset).toArray = ls at hl ⊢
  have hl : lv_has ls 3 [(0, .ref a0), (1, .int x1)] := hl
  unfold fB_keepSpare at hf
  refine lv_aload_n hx hb dB_keepSpare_0 rfl (lv_at hl 0 rfl) ?_
  refine va_get (D := D) (ci := 0) (v := .ref a5) (C := "ValueBench") (T := TB) (N := 8) hx hb htx inB hown hK hP 0 rfl rfl 2 (by decide) (htx _ kw_1_97) (fun _ h9 => h9) rfl dB_keepSpare_1 ?_
  obtain ⟨o1, hq2, hf⟩ := xbind hf
  obtain ⟨hPc, hDc, hFc⟩ := xcut (wc := [(a5, .inr (1, [.ref a6, .int v7, .int v8])), (a6, .inl (cT 0, 4096, .inl f6))]) hP hD hS hA [5, 6] rfl rfl (by decide)
  refine va_callv (va_runV (C := "ValueBench$Text") (As := []) (rest := []) ⟨hx, hb, hml, hown, htx⟩ (gT_clear l hl9 D cT aK aV s.heap.size n a5 a6 f6 v7 v8 o1 hq2) ⟨callB_of 0 htx (xw_goodC kw_2_237) rfl rfl rfl (htx _ kw_1_2) (htx _ kw_2_234) ⟨by decide, by decide, by decide +kernel⟩ ⟨Nat.le_of_ble_eq_true rfl, Nat.le_of_ble_eq_true rfl⟩, (htx _ kw_2_235), (htx _ kw_2_236)⟩ ⟨xPre_blind, va_recv hK hP (ci := 1) rfl (q0 := 5) rfl, (fun U hU hW => ⟨rfl, xPre_of hZ hS hFc hPc hDc hK U hU hW⟩)⟩ rfl rfl hl.1 rfl (lv_room (Nat.le_of_ble_eq_true rfl)) dB_keepSpare_4 ⟨Nat.le_of_ble_eq_true rfl, Nat.le_of_ble_eq_true rfl⟩) hS (fun q _ h => hFc q h) hFc (fun u9 t H1 locs ht hvm hr9 hB hz1 hk1 hS => ?_)
  obtain ⟨hP1, hK1, hD1⟩ := hB
  rw [ht] at hP1
  obtain ⟨hP, hD⟩ := xjoin (W := [(a0, .inr (0, [.ref a1, .ref a3, .ref a5, .ref a7, .ref a8, .ref a13, .int v19, .int v20])), (a1, .inr (1, [.ref a2, .int v1, .int v2])), (a2, .inl (cT 0, 4096, .inl f0)), (a3, .inr (1, [.ref a4, .int v4, .int v5])), (a4, .inl (cT 0, 4096, .inl f3)), (a7, .inl (cT 3, 8, .inr (.inr (.inr (.inr rf0))))), (a8, .inr (3, [.ref a9, .ref a10, .ref p11, .ref p13, .int v15])), (a9, .inl (cT 1, 2048, .inl f9)), (a10, .inl (cT 1, 2048, .inl f10)), (p11, .inl (cT 1, 2048, .inl f12)), (p13, .inl (cT 1, 2048, .inl f14)), (a13, .inr (2, [.ref a14, .int v17, .int v18])), (a14, .inl (cT 2, 4096, .inr (.inl f16))), (a5, .inr (1, [.ref a6, .int o1.1, .int o1.2])), (a6, .inl (cT 0, 4096, .inl f6))]) hP hD [5, 6] [0, 1, 2, 3, 4, 7, 8, 9, 10, 11, 12, 13, 14] 13 rfl rfl (by decide) (by decide) hk1 hFc hP1 hD1
  generalize H1 = H at hP hS ⊢
  refine lv_aload_n hx hb dB_keepSpare_7 rfl (lv_at hl 0 rfl) ?_
  refine va_get (D := D) (ci := 0) (v := .ref a13) (C := "ValueBench") (T := TB) (N := 8) hx hb htx inB hown hK hP 0 rfl rfl 5 (by decide) (htx _ kw_1_100) (fun _ h9 => h9) rfl dB_keepSpare_8 ?_
  refine lv_iconst (v := 0) hx hb dB_keepSpare_11 (by decide) ?_
  refine lv_aload_n hx hb dB_keepSpare_12 rfl (lv_at hl 0 rfl) ?_
  refine va_get (D := D) (ci := 0) (v := .ref a5) (C := "ValueBench") (T := TB) (N := 8) hx hb htx inB hown hK hP 0 rfl rfl 2 (by decide) (htx _ kw_1_97) (fun _ h9 => h9) rfl dB_keepSpare_13 ?_
  refine lv_iconst (v := 0) hx hb dB_keepSpare_16 (by decide) ?_
  obtain ⟨o3, hq4, hf⟩ := xbind hf
  obtain ⟨hPc, hDc, hFc⟩ := xcut (wc := [(a13, .inr (2, [.ref a14, .int v17, .int v18])), (a14, .inl (cT 2, 4096, .inr (.inl f16))), (a5, .inr (1, [.ref a6, .int o1.1, .int o1.2])), (a6, .inl (cT 0, 4096, .inl f6))]) hP hD hS hA [11, 12, 13, 14] rfl rfl (by decide)
  refine va_callv (va_runS (As := [.ref a13, .int 0, .ref a5, .int 0]) (rest := []) ⟨hx, hb, hml, hown, htx⟩ (gP_write l hl9 D cT aK aV d H.size n a13 a14 a5 a6 (0 : Int32) (0 : Int32) f16 v17 v18 f6 o1.1 o1.2 o3 hq4) ⟨callB_of 4 htx (xw_goodC kw_3_20) rfl rfl rfl (htx _ kw_1_18) (htx _ kw_3_18) ⟨by decide, by decide, by decide +kernel⟩ ⟨(by show (16 * d) + 1 ≤ 16 * d + 6; omega), (by show 8 + (4 + 11) + (400 * d) ≤ 400 * d + 100; omega)⟩, htx _ kw_3_19⟩ ⟨xPre_blind, (fun U hU hW => ⟨rfl, xPre_of hZ hS hFc hPc hDc hK U hU hW⟩)⟩ rfl rfl hl.1 rfl (lv_room (Nat.le_of_ble_eq_true rfl)) dB_keepSpare_17 ⟨Nat.le_of_ble_eq_true rfl, Nat.le_of_ble_eq_true rfl⟩) hS (fun q _ h => hFc q h) hFc (fun u9 t H1 locs ht hvm hr9 hB hz1 hk1 hS => ?_)
  obtain ⟨hP1, hK1, hD1⟩ := hB
  rw [ht] at hP1
  obtain ⟨hP, hD⟩ := xjoin (W := [(a0, .inr (0, [.ref a1, .ref a3, .ref a5, .ref a7, .ref a8, .ref a13, .int v19, .int v20])), (a1, .inr (1, [.ref a2, .int v1, .int v2])), (a2, .inl (cT 0, 4096, .inl f0)), (a3, .inr (1, [.ref a4, .int v4, .int v5])), (a4, .inl (cT 0, 4096, .inl f3)), (a7, .inl (cT 3, 8, .inr (.inr (.inr (.inr rf0))))), (a8, .inr (3, [.ref a9, .ref a10, .ref p11, .ref p13, .int v15])), (a9, .inl (cT 1, 2048, .inl f9)), (a10, .inl (cT 1, 2048, .inl f10)), (p11, .inl (cT 1, 2048, .inl f12)), (p13, .inl (cT 1, 2048, .inl f14)), (a13, .inr (2, [.ref a14, .int v17, .int v18])), (a14, .inl (cT 2, 4096, .inr (.inl f16))), (a5, .inr (1, [.ref a6, .int o3.2.1, .int o3.2.2])), (a6, .inl (cT 0, 4096, .inl o3.1))]) hP hD [11, 12, 13, 14] [0, 1, 2, 3, 4, 5, 6, 7, 8, 9, 10] 11 rfl rfl (by decide) (by decide) hk1 hFc hP1 hD1
  generalize H1 = H at hP hS ⊢
  refine lv_aload_n hx hb dB_keepSpare_20 rfl (lv_at hl 0 rfl) ?_
  refine va_get (D := D) (ci := 0) (v := .ref a13) (C := "ValueBench") (T := TB) (N := 8) hx hb htx inB hown hK hP 0 rfl rfl 5 (by decide) (htx _ kw_1_100) (fun _ h9 => h9) rfl dB_keepSpare_21 ?_
  obtain ⟨o5, hq6, hf⟩ := xbind hf
  obtain ⟨hPc, hDc, hFc⟩ := xcut (wc := [(a13, .inr (2, [.ref a14, .int v17, .int v18])), (a14, .inl (cT 2, 4096, .inr (.inl f16)))]) hP hD hS hA [11, 12] rfl rfl (by decide)
  refine va_calli (va_runV (C := "ValueBench$Row") (As := []) (rest := []) ⟨hx, hb, hml, hown, htx⟩ (gR_isOver l hl9 D cT aK aV H.size n a13 a14 f16 v17 v18 o5 hq6) ⟨callB_of 0 htx (xw_goodC kw_3_82) rfl rfl rfl (htx _ kw_1_4) (htx _ kw_3_79) ⟨by decide, by decide, by decide +kernel⟩ ⟨Nat.le_of_ble_eq_true rfl, Nat.le_of_ble_eq_true rfl⟩, (htx _ kw_3_80), (htx _ kw_3_81)⟩ ⟨xPre_blind, va_recv hK hP (ci := 2) rfl (q0 := 11) rfl, (fun U hU hW => ⟨rfl, xPre_of hZ hS hFc hPc hDc hK U hU hW⟩)⟩ rfl rfl hl.1 rfl (lv_room (Nat.le_of_ble_eq_true rfl)) dB_keepSpare_24 ⟨Nat.le_of_ble_eq_true rfl, Nat.le_of_ble_eq_true rfl⟩) hS (fun q _ h => hFc q h) hFc (fun r7 u9 t H1 locs ht hvm hr9 hB hz1 hk1 hS => ?_)
  obtain ⟨hP1, hK1, hD1⟩ := hB
  rw [ht] at hP1
  obtain ⟨hP, hD⟩ := xjoin (W := [(a0, .inr (0, [.ref a1, .ref a3, .ref a5, .ref a7, .ref a8, .ref a13, .int v19, .int v20])), (a1, .inr (1, [.ref a2, .int v1, .int v2])), (a2, .inl (cT 0, 4096, .inl f0)), (a3, .inr (1, [.ref a4, .int v4, .int v5])), (a4, .inl (cT 0, 4096, .inl f3)), (a7, .inl (cT 3, 8, .inr (.inr (.inr (.inr rf0))))), (a8, .inr (3, [.ref a9, .ref a10, .ref p11, .ref p13, .int v15])), (a9, .inl (cT 1, 2048, .inl f9)), (a10, .inl (cT 1, 2048, .inl f10)), (p11, .inl (cT 1, 2048, .inl f12)), (p13, .inl (cT 1, 2048, .inl f14)), (a5, .inr (1, [.ref a6, .int o3.2.1, .int o3.2.2])), (a6, .inl (cT 0, 4096, .inl o3.1)), (a13, .inr (2, [.ref a14, .int v17, .int v18])), (a14, .inl (cT 2, 4096, .inr (.inl f16)))]) hP hD [11, 12] [0, 1, 2, 3, 4, 5, 6, 7, 8, 9, 10, 13, 14] 13 rfl rfl (by decide) (by decide) hk1 hFc hP1 hD1
  generalize H1 = H at hP hS ⊢
  rw [hr9]
  refine W.eq (g2 := F0 m 27 ls [.int o5]) rfl ?_
  refine lv_if_ne (tgt := 40) hx hb dB_keepSpare_27 (by decide) (fun hc => ?_) (fun hc => ?_)
  · rw [if_neg hc] at hf
    obtain rfl := Option.some.inj hf
    exact absurd (show (1 : Nat) = 0 from hkd) (by decide)
  · rw [if_pos hc] at hf
    refine lv_aload_n hx hb dB_keepSpare_30 rfl (lv_at hl 0 rfl) ?_
    refine va_get (D := D) (ci := 0) (v := .ref a5) (C := "ValueBench") (T := TB) (N := 8) hx hb htx inB hown hK hP 0 rfl rfl 2 (by decide) (htx _ kw_1_97) (fun _ h9 => h9) rfl dB_keepSpare_31 ?_
    obtain ⟨o8, hq9, hf⟩ := xbind hf
    obtain ⟨hPc, hDc, hFc⟩ := xcut (wc := [(a5, .inr (1, [.ref a6, .int o3.2.1, .int o3.2.2])), (a6, .inl (cT 0, 4096, .inl o3.1))]) hP hD hS hA [11, 12] rfl rfl (by decide)
    refine va_calli (va_runV (C := "ValueBench$Text") (As := []) (rest := []) ⟨hx, hb, hml, hown, htx⟩ (gT_isOver l hl9 D cT aK aV H.size n a5 a6 o3.1 o3.2.1 o3.2.2 o8 hq9) ⟨callB_of 0 htx (xw_goodC kw_3_86) rfl rfl rfl (htx _ kw_1_2) (htx _ kw_3_83) ⟨by decide, by decide, by decide +kernel⟩ ⟨Nat.le_of_ble_eq_true rfl, Nat.le_of_ble_eq_true rfl⟩, (htx _ kw_3_84), (htx _ kw_3_85)⟩ ⟨xPre_blind, va_recv hK hP (ci := 1) rfl (q0 := 11) rfl, (fun U hU hW => ⟨rfl, xPre_of hZ hS hFc hPc hDc hK U hU hW⟩)⟩ rfl rfl hl.1 rfl (lv_room (Nat.le_of_ble_eq_true rfl)) dB_keepSpare_34 ⟨Nat.le_of_ble_eq_true rfl, Nat.le_of_ble_eq_true rfl⟩) hS (fun q _ h => hFc q h) hFc (fun r10 u9 t H1 locs ht hvm hr9 hB hz1 hk1 hS => ?_)
    obtain ⟨hP1, hK1, hD1⟩ := hB
    rw [ht] at hP1
    obtain ⟨hP, hD⟩ := xjoin (W := [(a0, .inr (0, [.ref a1, .ref a3, .ref a5, .ref a7, .ref a8, .ref a13, .int v19, .int v20])), (a1, .inr (1, [.ref a2, .int v1, .int v2])), (a2, .inl (cT 0, 4096, .inl f0)), (a3, .inr (1, [.ref a4, .int v4, .int v5])), (a4, .inl (cT 0, 4096, .inl f3)), (a7, .inl (cT 3, 8, .inr (.inr (.inr (.inr rf0))))), (a8, .inr (3, [.ref a9, .ref a10, .ref p11, .ref p13, .int v15])), (a9, .inl (cT 1, 2048, .inl f9)), (a10, .inl (cT 1, 2048, .inl f10)), (p11, .inl (cT 1, 2048, .inl f12)), (p13, .inl (cT 1, 2048, .inl f14)), (a13, .inr (2, [.ref a14, .int v17, .int v18])), (a14, .inl (cT 2, 4096, .inr (.inl f16))), (a5, .inr (1, [.ref a6, .int o3.2.1, .int o3.2.2])), (a6, .inl (cT 0, 4096, .inl o3.1))]) hP hD [11, 12] [0, 1, 2, 3, 4, 5, 6, 7, 8, 9, 10, 13, 14] 13 rfl rfl (by decide) (by decide) hk1 hFc hP1 hD1
    generalize H1 = H at hP hS ⊢
    rw [hr9]
    refine W.eq (g2 := F0 m 37 ls [.int o8]) rfl ?_
    refine lv_if_eq (tgt := 50) hx hb dB_keepSpare_37 (by decide) (fun hc => ?_) (fun hc => ?_)
    · rw [if_pos hc] at hf
      refine lv_aload_n hx hb dB_keepSpare_50 rfl (lv_at hl 0 rfl) ?_
      refine va_get (D := D) (ci := 0) (v := .ref a7) (C := "ValueBench") (T := TB) (N := 8) hx hb htx inB hown hK hP 0 rfl rfl 3 (by decide) (htx _ kw_1_98) (fun _ h9 => h9) rfl dB_keepSpare_51 ?_
      refine lv_iload_n hx hb dB_keepSpare_54 rfl (lv_at hl 1 rfl) ?_
      obtain ⟨hg11, hf⟩ := xifn hf
      refine va_aldq hx hb hK hP 5 3 rfl rfl hg11 dB_keepSpare_55 ?_
      refine W.eq (g2 := F0 m 56 ls [va_rf (rf0 x1.toNatClampNeg)]) rfl ?_
      rw [hr1 hg11]
      refine W.eq (g2 := F0 m 56 ls [.ref b1]) rfl ?_
      refine lv_astore_n (lv' := [(2, .ref b1), (0, .ref a0), (1, .int x1)]) hx hb dB_keepSpare_56 rfl hl (by decide) rfl (fun ls hl => ?_)
      refine lv_aload_n hx hb dB_keepSpare_57 rfl (lv_at hl 1 rfl) ?_
      refine va_get (D := D) (ci := 0) (v := .ref a7) (C := "ValueBench") (T := TB) (N := 8) hx hb htx inB hown hK hP 0 rfl rfl 3 (by decide) (htx _ kw_1_98) (fun _ h9 => h9) rfl dB_keepSpare_58 ?_
      refine lv_iload_n hx hb dB_keepSpare_61 rfl (lv_at hl 2 rfl) ?_
      refine lv_aload_n hx hb dB_keepSpare_62 rfl (lv_at hl 1 rfl) ?_
      refine va_get (D := D) (ci := 0) (v := .ref a13) (C := "ValueBench") (T := TB) (N := 8) hx hb htx inB hown hK hP 0 rfl rfl 5 (by decide) (htx _ kw_1_100) (fun _ h9 => h9) rfl dB_keepSpare_63 ?_
      obtain ⟨hg12, hf⟩ := xifn hf
      refine va_astq (r := ("ValueBench$Row", TR, 3)) hx hb hK hP hD hS 5 3 11 2 rfl rfl rfl rfl hg12 dB_keepSpare_66 (fun H locs hP hD hS => ?_)
      obtain ⟨hP, hD⟩ : xPD D xcl A [(a0, .inr (0, [.ref a1, .ref a3, .ref a5, .ref a7, .ref a8, .ref a13, .int v19, .int v20])), (a1, .inr (1, [.ref a2, .int v1, .int v2])), (a2, .inl (cT 0, 4096, .inl f0)), (a3, .inr (1, [.ref a4, .int v4, .int v5])), (a4, .inl (cT 0, 4096, .inl f3)), (a7, .inl (cT 3, 8, .inr (.inr (.inr (.inr (va_up rf0 x1.toNatClampNeg (some a13))))))), (a8, .inr (3, [.ref a9, .ref a10, .ref p11, .ref p13, .int v15])), (a9, .inl (cT 1, 2048, .inl f9)), (a10, .inl (cT 1, 2048, .inl f10)), (p11, .inl (cT 1, 2048, .inl f12)), (p13, .inl (cT 1, 2048, .inl f14)), (a13, .inr (2, [.ref a14, .int v17, .int v18])), (a14, .inl (cT 2, 4096, .inr (.inl f16))), (a5, .inr (1, [.ref a6, .int o3.2.1, .int o3.2.2])), (a6, .inl (cT 0, 4096, .inl o3.1))] H := ⟨hP, hD⟩
      refine lv_aload_n hx hb dB_keepSpare_67 rfl (lv_at hl 1 rfl) ?_
      refine lv_aload_n hx hb dB_keepSpare_68 rfl (lv_at hl 0 rfl) ?_
      refine va_put (D := D) (ci := 0) (v := .ref b1) (ty := (.object "ValueBench$Row")) (C := "ValueBench") (T := TB) (N := 8) hx hb htx inB tyB tyB_ok nmB hown hK hP hD hS 0 rfl rfl 5 (by decide) (htx _ kw_1_100) (fun _ h9 => h9) rfl (by decide +kernel) rfl rfl (Nat.le_of_ble_eq_true rfl) dB_keepSpare_69 (fun H locs hP hD hS => ?_)
      obtain ⟨hP, hD⟩ : xPD D xcl A [(a0, .inr (0, [.ref a1, .ref a3, .ref a5, .ref a7, .ref a8, .ref b1, .int v19, .int v20])), (a1, .inr (1, [.ref a2, .int v1, .int v2])), (a2, .inl (cT 0, 4096, .inl f0)), (a3, .inr (1, [.ref a4, .int v4, .int v5])), (a4, .inl (cT 0, 4096, .inl f3)), (a7, .inl (cT 3, 8, .inr (.inr (.inr (.inr (va_up rf0 x1.toNatClampNeg (some a13))))))), (a8, .inr (3, [.ref a9, .ref a10, .ref p11, .ref p13, .int v15])), (a9, .inl (cT 1, 2048, .inl f9)), (a10, .inl (cT 1, 2048, .inl f10)), (p11, .inl (cT 1, 2048, .inl f12)), (p13, .inl (cT 1, 2048, .inl f14)), (a13, .inr (2, [.ref a14, .int v17, .int v18])), (a14, .inl (cT 2, 4096, .inr (.inl f16))), (a5, .inr (1, [.ref a6, .int o3.2.1, .int o3.2.2])), (a6, .inl (cT 0, 4096, .inl o3.1))] H := ⟨hP, hD⟩
      refine lv_aload_n hx hb dB_keepSpare_72 rfl (lv_at hl 1 rfl) ?_
      refine va_get (D := D) (ci := 0) (v := .ref a5) (C := "ValueBench") (T := TB) (N := 8) hx hb htx inB hown hK hP 0 rfl rfl 2 (by decide) (htx _ kw_1_97) (fun _ h9 => h9) rfl dB_keepSpare_73 ?_
      obtain ⟨o13, hq14, hf⟩ := xbind hf
      obtain ⟨hPc, hDc, hFc⟩ := xcut (wc := [(a5, .inr (1, [.ref a6, .int o3.2.1, .int o3.2.2])), (a6, .inl (cT 0, 4096, .inl o3.1))]) hP hD hS hA [13, 14] rfl rfl (by decide)
      refine va_calli (va_runV (C := "ValueBench$Text") (As := []) (rest := []) ⟨hx, hb, hml, hown, htx⟩ (gT_size l hl9 D cT aK aV H.size n a5 a6 o3.1 o3.2.1 o3.2.2 o13 hq14) ⟨callB_of 0 htx (xw_goodC kw_1_131) rfl rfl rfl (htx _ kw_1_2) (htx _ kw_1_128) ⟨by decide, by decide, by decide +kernel⟩ ⟨Nat.le_of_ble_eq_true rfl, Nat.le_of_ble_eq_true rfl⟩, (htx _ kw_1_129), (htx _ kw_1_130)⟩ ⟨xPre_blind, va_recv hK hP (ci := 1) rfl (q0 := 13) rfl, (fun U hU hW => ⟨rfl, xPre_of hZ hS hFc hPc hDc hK U hU hW⟩)⟩ rfl rfl hl.1 rfl (lv_room (Nat.le_of_ble_eq_true rfl)) dB_keepSpare_76 ⟨Nat.le_of_ble_eq_true rfl, Nat.le_of_ble_eq_true rfl⟩) hS (fun q _ h => hFc q h) hFc (fun r15 u9 t H1 locs ht hvm hr9 hB hz1 hk1 hS => ?_)
      obtain ⟨hP1, hK1, hD1⟩ := hB
      rw [ht] at hP1
      obtain ⟨hP, hD⟩ := xjoin (W := [(a0, .inr (0, [.ref a1, .ref a3, .ref a5, .ref a7, .ref a8, .ref b1, .int v19, .int v20])), (a1, .inr (1, [.ref a2, .int v1, .int v2])), (a2, .inl (cT 0, 4096, .inl f0)), (a3, .inr (1, [.ref a4, .int v4, .int v5])), (a4, .inl (cT 0, 4096, .inl f3)), (a7, .inl (cT 3, 8, .inr (.inr (.inr (.inr (va_up rf0 x1.toNatClampNeg (some a13))))))), (a8, .inr (3, [.ref a9, .ref a10, .ref p11, .ref p13, .int v15])), (a9, .inl (cT 1, 2048, .inl f9)), (a10, .inl (cT 1, 2048, .inl f10)), (p11, .inl (cT 1, 2048, .inl f12)), (p13, .inl (cT 1, 2048, .inl f14)), (a13, .inr (2, [.ref a14, .int v17, .int v18])), (a14, .inl (cT 2, 4096, .inr (.inl f16))), (a5, .inr (1, [.ref a6, .int o3.2.1, .int o3.2.2])), (a6, .inl (cT 0, 4096, .inl o3.1))]) hP hD [13, 14] [0, 1, 2, 3, 4, 5, 6, 7, 8, 9, 10, 11, 12] 13 rfl rfl (by decide) (by decide) hk1 hFc hP1 hD1
      generalize H1 = H at hP hS ⊢
      rw [hr9]
      refine W.eq (g2 := F0 m 79 ls [.int o13]) rfl ?_
      obtain rfl := Option.some.inj hf
      obtain ⟨hP9, hD9⟩ := xsub (wc := [(a0, .inr (0, [.ref a1, .ref a3, .ref a5, .ref a7, .ref a8, .ref b1, .int v19, .int v20])), (a1, .inr (1, [.ref a2, .int v1, .int v2])), (a2, .inl (cT 0, 4096, .inl f0)), (a3, .inr (1, [.ref a4, .int v4, .int v5])), (a4, .inl (cT 0, 4096, .inl f3)), (a5, .inr (1, [.ref a6, .int o3.2.1, .int o3.2.2])), (a6, .inl (cT 0, 4096, .inl o3.1)), (a7, .inl (cT 3, 8, .inr (.inr (.inr (.inr (va_up rf0 x1.toNatClampNeg (some a13))))))), (a8, .inr (3, [.ref a9, .ref a10, .ref p11, .ref p13, .int v15])), (a9, .inl (cT 1, 2048, .inl f9)), (a10, .inl (cT 1, 2048, .inl f10)), (p11, .inl (cT 1, 2048, .inl f12)), (p13, .inl (cT 1, 2048, .inl f14)), (a13, .inr (2, [.ref a14, .int v17, .int v18])), (a14, .inl (cT 2, 4096, .inr (.inl f16)))]) hP hD [0, 1, 2, 3, 4, 13, 14, 5, 6, 7, 8, 9, 10, 11, 12] rfl rfl (by decide)
      refine W.widen (k := 1) (n := 6) (Nat.le_of_ble_eq_true rfl) (Nat.le_of_ble_eq_true rfl) ?_
      exact W.iret (v := o13) hx hb hr (fun t ht hW => ⟨⟨o13, (), rfl, rfl, by rw [ht]; exact hP9, va_K.moved hW.alike hK, hD9⟩, hS.F ht⟩) hS.2.2 dB_keepSpare_79
    · rw [if_neg hc] at hf
      obtain rfl := Option.some.inj hf
      exact absurd (show (1 : Nat) = 0 from hkd) (by decide)
set_option maxHeartbeats 400000000 in
set_option maxRecDepth 100000 in
theorem gB_keepSpare_1 (l : Launch) (hl9 : l.stackTraces = false) (D : va_G) (cT : Nat → ClassId) (aK aV : Nat → Nat) (sz d n : Nat) (a0 : Nat) (a1 : Nat) (a2 : Nat) (a3 : Nat) (a4 : Nat) (a5 : Nat) (a6 : Nat) (a7 : Nat) (a8 : Nat) (a9 : Nat) (a10 : Nat) (a13 : Nat) (a14 : Nat) (rf0 : Nat → Option Nat) (b1 : Nat) (x1 : Int32) (f0 : Nat → Int32) (v1 : Int32) (v2 : Int32) (f3 : Nat → Int32) (v4 : Int32) (v5 : Int32) (f6 : Nat → Int32) (v7 : Int32) (v8 : Int32) (f9 : Nat → Int32) (f10 : Nat → Int32) (p11 : Nat) (f12 : Nat → Int32) (p13 : Nat) (f14 : Nat → Int32) (v15 : Int32) (f16 : Nat → Int64) (v17 : Int32) (v18 : Int32) (v19 : Int32) (v20 : Int32) (hr1 : ¬ (x1 < 0 ∨ 8 ≤ x1.toNatClampNeg) → rf0 x1.toNatClampNeg = some b1) (out : Nat × Int32 × (Nat → Int32) × Int32 × Int32) (hf : fB_keepSpare d n x1 f0 v1 v2 f3 v4 v5 f6 v7 v8 f9 f10 p11 f12 p13 f14 v15 f16 v17 v18 v19 v20 = some out) (hkd : out.1 = 1) : xMetX l yB_keepSpare wyB_keepSpare (16 * d + 6) 1 6 (400 * d + 100) D cT aK aV sz [.ref a0, .int x1] [(a0, .inr (0, [.ref a1, .ref a3, .ref a5, .ref a7, .ref a8, .ref a13, .int v19, .int v20])), (a1, .inr (1, [.ref a2, .int v1, .int v2])), (a2, .inl (cT 0, 4096, .inl f0)), (a3, .inr (1, [.ref a4, .int v4, .int v5])), (a4, .inl (cT 0, 4096, .inl f3)), (a5, .inr (1, [.ref a6, .int v7, .int v8])), (a6, .inl (cT 0, 4096, .inl f6)), (a7, .inl (cT 3, 8, .inr (.inr (.inr (.inr rf0))))), (a8, .inr (3, [.ref a9, .ref a10, .ref p11, .ref p13, .int v15])), (a9, .inl (cT 1, 2048, .inl f9)), (a10, .inl (cT 1, 2048, .inl f10)), (p11, .inl (cT 1, 2048, .inl f12)), (p13, .inl (cT 1, 2048, .inl f14)), (a13, .inr (2, [.ref a14, .int v17, .int v18])), (a14, .inl (cT 2, 4096, .inr (.inl f16)))] "java/lang/IndexOutOfBoundsException" (fun A t => xB D xcl cT A [(a0, .inr (0, [.ref a1, .ref a3, .ref a5, .ref a7, .ref a8, .ref a13, .int v19, .int v20])), (a1, .inr (1, [.ref a2, .int v1, .int v2])), (a2, .inl (cT 0, 4096, .inl f0)), (a3, .inr (1, [.ref a4, .int v4, .int v5])), (a4, .inl (cT 0, 4096, .inl f3)), (a5, .inr (1, [.ref a6, .int out.2.2.2.1, .int out.2.2.2.2])), (a6, .inl (cT 0, 4096, .inl out.2.2.1)), (a7, .inl (cT 3, 8, .inr (.inr (.inr (.inr rf0))))), (a8, .inr (3, [.ref a9, .ref a10, .ref p11, .ref p13, .int v15])), (a9, .inl (cT 1, 2048, .inl f9)), (a10, .inl (cT 1, 2048, .inl f10)), (p11, .inl (cT 1, 2048, .inl f12)), (p13, .inl (cT 1, 2048, .inl f14)), (a13, .inr (2, [.ref a14, .int v17, .int v18])), (a14, .inl (cT 2, 4096, .inr (.inl f16)))] t) := by
  refine vx_ofW (cc := prog_1_method_18_code) (maxL := 3) (ret := (some .int)) (by decide) rfl ?_
  intro p e s m args below meth c s₁ B hml hne hv
  obtain ⟨rfl, hsz, hZ, hP, hK, hD0⟩ := hv
  have hx := B.exec
  have hb := B.bytes
  have hr := B.returns
  have hts := atoms_spec (ws := wyB_keepSpare) B.pre
  have htx := fun w h => hts w (List.mem_cons_of_mem _ h)
  have hown : s.vm.findClass "ValueBench" = some m.cls := findClass_of_methodNamed B.named
  have hlocks := B.notSynchronized
  subst hsz
  have hD := hD0.self (sz := s.heap.size)
  generalize hAe : va_A [(a0, .inr (0, [.ref a1, .ref a3, .ref a5, .ref a7, .ref a8, .ref a13, .int v19, .int v20])), (a1, .inr (1, [.ref a2, .int v1, .int v2])), (a2, .inl (cT 0, 4096, .inl f0)), (a3, .inr (1, [.ref a4, .int v4, .int v5])), (a4, .inl (cT 0, 4096, .inl f3)), (a5, .inr (1, [.ref a6, .int v7, .int v8])), (a6, .inl (cT 0, 4096, .inl f6)), (a7, .inl (cT 3, 8, .inr (.inr (.inr (.inr rf0))))), (a8, .inr (3, [.ref a9, .ref a10, .ref p11, .ref p13, .int v15])), (a9, .inl (cT 1, 2048, .inl f9)), (a10, .inl (cT 1, 2048, .inl f10)), (p11, .inl (cT 1, 2048, .inl f12)), (p13, .inl (cT 1, 2048, .inl f14)), (a13, .inr (2, [.ref a14, .int v17, .int v18])), (a14, .inl (cT 2, 4096, .inr (.inl f16)))] s.heap.size = A at hD hZ ⊢
  have hA : ∀ q : Nat, s.heap.size ≤ q → A q := fun q h => by rw [← hAe]; exact Or.inr h
  have hS : va_S A s.heap s.heap [] := va_S.rf
  have hP : va_P D xcl [(a0, .inr (0, [.ref a1, .ref a3, .ref a5, .ref a7, .ref a8, .ref a13, .int v19, .int v20])), (a1, .inr (1, [.ref a2, .int v1, .int v2])), (a2, .inl (cT 0, 4096, .inl f0)), (a3, .inr (1, [.ref a4, .int v4, .int v5])), (a4, .inl (cT 0, 4096, .inl f3)), (a5, .inr (1, [.ref a6, .int v7, .int v8])), (a6, .inl (cT 0, 4096, .inl f6)), (a7, .inl (cT 3, 8, .inr (.inr (.inr (.inr rf0))))), (a8, .inr (3, [.ref a9, .ref a10, .ref p11, .ref p13, .int v15])), (a9, .inl (cT 1, 2048, .inl f9)), (a10, .inl (cT 1, 2048, .inl f10)), (p11, .inl (cT 1, 2048, .inl f12)), (p13, .inl (cT 1, 2048, .inl f14)), (a13, .inr (2, [.ref a14, .int v17, .int v18])), (a14, .inl (cT 2, 4096, .inr (.inl f16)))] s.heap := hP
  have hl := lv_entry ([.ref a0, .int x1]) (n := 3) (Nat.le_of_ble_eq_true rfl)
  rw [lg_entry_eq]
  generalize (lg_sl ([.ref a0, .int x1]) ++ List.replicate (3 - (lg_sl ([.ref a0, .int x1])).length) Slot.unset).toArray = ls at hl ⊢
  have hl : lv_has ls 3 [(0, .ref a0), (1, .int x1)] := hl
  unfold fB_keepSpare at hf
  refine lv_aload_n hx hb dB_keepSpare_0 rfl (lv_at hl 0 rfl) ?_
  refine va_get (D := D) (ci := 0) (v := .ref a5) (C := "ValueBench") (T := TB) (N := 8) hx hb htx inB hown hK hP 0 rfl rfl 2 (by decide) (htx _ kw_1_97) (fun _ h9 => h9) rfl dB_keepSpare_1 ?_
  obtain ⟨o1, hq2, hf⟩ := xbind hf
  obtain ⟨hPc, hDc, hFc⟩ := xcut (wc := [(a5, .inr (1, [.ref a6, .int v7, .int v8])), (a6, .inl (cT 0, 4096, .inl f6))]) hP hD hS hA [5, 6] rfl rfl (by decide)
  refine va_callv (va_runV (C := "ValueBench$Text") (As := []) (rest := []) ⟨hx, hb, hml, hown, htx⟩ (gT_clear l hl9 D cT aK aV s.heap.size n a5 a6 f6 v7 v8 o1 hq2) ⟨callB_of 0 htx (xw_goodC kw_2_237) rfl rfl rfl (htx _ kw_1_2) (htx _ kw_2_234) ⟨by decide, by decide, by decide +kernel⟩ ⟨Nat.le_of_ble_eq_true rfl, Nat.le_of_ble_eq_true rfl⟩, (htx _ kw_2_235), (htx _ kw_2_236)⟩ ⟨xPre_blind, va_recv hK hP (ci := 1) rfl (q0 := 5) rfl, (fun U hU hW => ⟨rfl, xPre_of hZ hS hFc hPc hDc hK U hU hW⟩)⟩ rfl rfl hl.1 rfl (lv_room (Nat.le_of_ble_eq_true rfl)) dB_keepSpare_4 ⟨Nat.le_of_ble_eq_true rfl, Nat.le_of_ble_eq_true rfl⟩) hS (fun q _ h => hFc q h) hFc (fun u9 t H1 locs ht hvm hr9 hB hz1 hk1 hS => ?_)
  obtain ⟨hP1, hK1, hD1⟩ := hB
  rw [ht] at hP1
  obtain ⟨hP, hD⟩ := xjoin (W := [(a0, .inr (0, [.ref a1, .ref a3, .ref a5, .ref a7, .ref a8, .ref a13, .int v19, .int v20])), (a1, .inr (1, [.ref a2, .int v1, .int v2])), (a2, .inl (cT 0, 4096, .inl f0)), (a3, .inr (1, [.ref a4, .int v4, .int v5])), (a4, .inl (cT 0, 4096, .inl f3)), (a7, .inl (cT 3, 8, .inr (.inr (.inr (.inr rf0))))), (a8, .inr (3, [.ref a9, .ref a10, .ref p11, .ref p13, .int v15])), (a9, .inl (cT 1, 2048, .inl f9)), (a10, .inl (cT 1, 2048, .inl f10)), (p11, .inl (cT 1, 2048, .inl f12)), (p13, .inl (cT 1, 2048, .inl f14)), (a13, .inr (2, [.ref a14, .int v17, .int v18])), (a14, .inl (cT 2, 4096, .inr (.inl f16))), (a5, .inr (1, [.ref a6, .int o1.1, .int o1.2])), (a6, .inl (cT 0, 4096, .inl f6))]) hP hD [5, 6] [0, 1, 2, 3, 4, 7, 8, 9, 10, 11, 12, 13, 14] 13 rfl rfl (by decide) (by decide) hk1 hFc hP1 hD1
  generalize H1 = H at hP hS ⊢
  refine lv_aload_n hx hb dB_keepSpare_7 rfl (lv_at hl 0 rfl) ?_
  refine va_get (D := D) (ci := 0) (v := .ref a13) (C := "ValueBench") (T := TB) (N := 8) hx hb htx inB hown hK hP 0 rfl rfl 5 (by decide) (htx _ kw_1_100) (fun _ h9 => h9) rfl dB_keepSpare_8 ?_
  refine lv_iconst (v := 0) hx hb dB_keepSpare_11 (by decide) ?_
  refine lv_aload_n hx hb dB_keepSpare_12 rfl (lv_at hl 0 rfl) ?_
  refine va_get (D := D) (ci := 0) (v := .ref a5) (C := "ValueBench") (T := TB) (N := 8) hx hb htx inB hown hK hP 0 rfl rfl 2 (by decide) (htx _ kw_1_97) (fun _ h9 => h9) rfl dB_keepSpare_13 ?_
  refine lv_iconst (v := 0) hx hb dB_keepSpare_16 (by decide) ?_
  obtain ⟨o3, hq4, hf⟩ := xbind hf
  obtain ⟨hPc, hDc, hFc⟩ := xcut (wc := [(a13, .inr (2, [.ref a14, .int v17, .int v18])), (a14, .inl (cT 2, 4096, .inr (.inl f16))), (a5, .inr (1, [.ref a6, .int o1.1, .int o1.2])), (a6, .inl (cT 0, 4096, .inl f6))]) hP hD hS hA [11, 12, 13, 14] rfl rfl (by decide)
  refine va_callv (va_runS (As := [.ref a13, .int 0, .ref a5, .int 0]) (rest := []) ⟨hx, hb, hml, hown, htx⟩ (gP_write l hl9 D cT aK aV d H.size n a13 a14 a5 a6 (0 : Int32) (0 : Int32) f16 v17 v18 f6 o1.1 o1.2 o3 hq4) ⟨callB_of 4 htx (xw_goodC kw_3_20) rfl rfl rfl (htx _ kw_1_18) (htx _ kw_3_18) ⟨by decide, by decide, by decide +kernel⟩ ⟨(by show (16 * d) + 1 ≤ 16 * d + 6; omega), (by show 8 + (4 + 11) + (400 * d) ≤ 400 * d + 100; omega)⟩, htx _ kw_3_19⟩ ⟨xPre_blind, (fun U hU hW => ⟨rfl, xPre_of hZ hS hFc hPc hDc hK U hU hW⟩)⟩ rfl rfl hl.1 rfl (lv_room (Nat.le_of_ble_eq_true rfl)) dB_keepSpare_17 ⟨Nat.le_of_ble_eq_true rfl, Nat.le_of_ble_eq_true rfl⟩) hS (fun q _ h => hFc q h) hFc (fun u9 t H1 locs ht hvm hr9 hB hz1 hk1 hS => ?_)
  obtain ⟨hP1, hK1, hD1⟩ := hB
  rw [ht] at hP1
  obtain ⟨hP, hD⟩ := xjoin (W := [(a0, .inr (0, [.ref a1, .ref a3, .ref a5, .ref a7, .ref a8, .ref a13, .int v19, .int v20])), (a1, .inr (1, [.ref a2, .int v1, .int v2])), (a2, .inl (cT 0, 4096, .inl f0)), (a3, .inr (1, [.ref a4, .int v4, .int v5])), (a4, .inl (cT 0, 4096, .inl f3)), (a7, .inl (cT 3, 8, .inr (.inr (.inr (.inr rf0))))), (a8, .inr (3, [.ref a9, .ref a10, .ref p11, .ref p13, .int v15])), (a9, .inl (cT 1, 2048, .inl f9)), (a10, .inl (cT 1, 2048, .inl f10)), (p11, .inl (cT 1, 2048, .inl f12)), (p13, .inl (cT 1, 2048, .inl f14)), (a13, .inr (2, [.ref a14, .int v17, .int v18])), (a14, .inl (cT 2, 4096, .inr (.inl f16))), (a5, .inr (1, [.ref a6, .int o3.2.1, .int o3.2.2])), (a6, .inl (cT 0, 4096, .inl o3.1))]) hP hD [11, 12, 13, 14] [0, 1, 2, 3, 4, 5, 6, 7, 8, 9, 10] 11 rfl rfl (by decide) (by decide) hk1 hFc hP1 hD1
  generalize H1 = H at hP hS ⊢
  refine lv_aload_n hx hb dB_keepSpare_20 rfl (lv_at hl 0 rfl) ?_
  refine va_get (D := D) (ci := 0) (v := .ref a13) (C := "ValueBench") (T := TB) (N := 8) hx hb htx inB hown hK hP 0 rfl rfl 5 (by decide) (htx _ kw_1_100) (fun _ h9 => h9) rfl dB_keepSpare_21 ?_
  obtain ⟨o5, hq6, hf⟩ := xbind hf
  obtain ⟨hPc, hDc, hFc⟩ := xcut (wc := [(a13, .inr (2, [.ref a14, .int v17, .int v18])), (a14, .inl (cT 2, 4096, .inr (.inl f16)))]) hP hD hS hA [11, 12] rfl rfl (by decide)
  refine va_calli (va_runV (C := "ValueBench$Row") (As := []) (rest := []) ⟨hx, hb, hml, hown, htx⟩ (gR_isOver l hl9 D cT aK aV H.size n a13 a14 f16 v17 v18 o5 hq6) ⟨callB_of 0 htx (xw_goodC kw_3_82) rfl rfl rfl (htx _ kw_1_4) (htx _ kw_3_79) ⟨by decide, by decide, by decide +kernel⟩ ⟨Nat.le_of_ble_eq_true rfl, Nat.le_of_ble_eq_true rfl⟩, (htx _ kw_3_80), (htx _ kw_3_81)⟩ ⟨xPre_blind, va_recv hK hP (ci := 2) rfl (q0 := 11) rfl, (fun U hU hW => ⟨rfl, xPre_of hZ hS hFc hPc hDc hK U hU hW⟩)⟩ rfl rfl hl.1 rfl (lv_room (Nat.le_of_ble_eq_true rfl)) dB_keepSpare_24 ⟨Nat.le_of_ble_eq_true rfl, Nat.le_of_ble_eq_true rfl⟩) hS (fun q _ h => hFc q h) hFc (fun r7 u9 t H1 locs ht hvm hr9 hB hz1 hk1 hS => ?_)
  obtain ⟨hP1, hK1, hD1⟩ := hB
  rw [ht] at hP1
  obtain ⟨hP, hD⟩ := xjoin (W := [(a0, .inr (0, [.ref a1, .ref a3, .ref a5, .ref a7, .ref a8, .ref a13, .int v19, .int v20])), (a1, .inr (1, [.ref a2, .int v1, .int v2])), (a2, .inl (cT 0, 4096, .inl f0)), (a3, .inr (1, [.ref a4, .int v4, .int v5])), (a4, .inl (cT 0, 4096, .inl f3)), (a7, .inl (cT 3, 8, .inr (.inr (.inr (.inr rf0))))), (a8, .inr (3, [.ref a9, .ref a10, .ref p11, .ref p13, .int v15])), (a9, .inl (cT 1, 2048, .inl f9)), (a10, .inl (cT 1, 2048, .inl f10)), (p11, .inl (cT 1, 2048, .inl f12)), (p13, .inl (cT 1, 2048, .inl f14)), (a5, .inr (1, [.ref a6, .int o3.2.1, .int o3.2.2])), (a6, .inl (cT 0, 4096, .inl o3.1)), (a13, .inr (2, [.ref a14, .int v17, .int v18])), (a14, .inl (cT 2, 4096, .inr (.inl f16)))]) hP hD [11, 12] [0, 1, 2, 3, 4, 5, 6, 7, 8, 9, 10, 13, 14] 13 rfl rfl (by decide) (by decide) hk1 hFc hP1 hD1
  generalize H1 = H at hP hS ⊢
  rw [hr9]
  refine W.eq (g2 := F0 m 27 ls [.int o5]) rfl ?_
  refine lv_if_ne (tgt := 40) hx hb dB_keepSpare_27 (by decide) (fun hc => ?_) (fun hc => ?_)
  · rw [if_neg hc] at hf
    obtain rfl := Option.some.inj hf
    obtain ⟨hP9, hD9⟩ := xsub (wc := [(a0, .inr (0, [.ref a1, .ref a3, .ref a5, .ref a7, .ref a8, .ref a13, .int v19, .int v20])), (a1, .inr (1, [.ref a2, .int v1, .int v2])), (a2, .inl (cT 0, 4096, .inl f0)), (a3, .inr (1, [.ref a4, .int v4, .int v5])), (a4, .inl (cT 0, 4096, .inl f3)), (a5, .inr (1, [.ref a6, .int o3.2.1, .int o3.2.2])), (a6, .inl (cT 0, 4096, .inl o3.1)), (a7, .inl (cT 3, 8, .inr (.inr (.inr (.inr rf0))))), (a8, .inr (3, [.ref a9, .ref a10, .ref p11, .ref p13, .int v15])), (a9, .inl (cT 1, 2048, .inl f9)), (a10, .inl (cT 1, 2048, .inl f10)), (p11, .inl (cT 1, 2048, .inl f12)), (p13, .inl (cT 1, 2048, .inl f14)), (a13, .inr (2, [.ref a14, .int v17, .int v18])), (a14, .inl (cT 2, 4096, .inr (.inl f16)))]) hP hD [0, 1, 2, 3, 4, 11, 12, 5, 6, 7, 8, 9, 10, 13, 14] rfl rfl (by decide)
    exact vx_throwS (own := "ValueBench") (cls := "java/lang/IndexOutOfBoundsException") (text := "a value beyond the limits") (sa := aK 9) (names := ["java/lang/RuntimeException", "java/lang/Exception"]) hx hb hl9 hown (by decide +kernel) (by decide +kernel) (htx _ kw_1_132) (htx _ kw_1_13) (hZ.2.2.2.2.2.2.2.2.1 ("ValueBench", 172, "a value beyond the limits", 9) (List.mem_of_getElem? (i := 9) rfl)) (vx_hat (B := [.castable "java/lang/IndexOutOfBoundsException" "java/lang/IndexOutOfBoundsException", .declares ⟨"java/lang/RuntimeException", "<init>", "(Ljava/lang/String;)V"⟩, .declares ⟨"java/lang/Exception", "<init>", "(Ljava/lang/String;)V"⟩, .declares ⟨"java/lang/Throwable", "<init>", "(Ljava/lang/String;)V"⟩]) (fun w h => htx w (xat_B_51_55 w h)) xat_B_51_55_b (vx_c ((hZ.2.2.2.2.2.1 "java/lang/IndexOutOfBoundsException" (List.mem_of_getElem? (i := 0) rfl)).use rfl) (vx_c ((hZ.2.2.2.2.2.2.1 ⟨"java/lang/RuntimeException", "<init>", "(Ljava/lang/String;)V"⟩ (List.mem_of_getElem? (i := 3) rfl)).use rfl) (vx_c ((hZ.2.2.2.2.2.2.1 ⟨"java/lang/Exception", "<init>", "(Ljava/lang/String;)V"⟩ (List.mem_of_getElem? (i := 4) rfl)).use rfl) (vx_c ((hZ.2.2.2.2.2.2.1 ⟨"java/lang/Throwable", "<init>", "(Ljava/lang/String;)V"⟩ (List.mem_of_getElem? (i := 5) rfl)).use rfl) vx_n))))) xat_B_51_55_g hZ.2.2.2.1 hZ.2.2.2.2.1 hS (hl.1.trans hml.symm) dB_keepSpare_40 dB_keepSpare_43 dB_keepSpare_44 dB_keepSpare_46 dB_keepSpare_49 (fun x h => (hne x h).elim) (Nat.le_of_ble_eq_true rfl) (Nat.le_of_ble_eq_true rfl) (Nat.le_of_ble_eq_true rfl) (Nat.le_of_ble_eq_true rfl) hlocks (fun t ha hz hk => ⟨(), trivial, ⟨rfl, xx_keepP hP9 hk, va_K.moved ha hK, hD9⟩, xx_grown hS hz hk⟩) hS.2.2 (Nat.le_of_ble_eq_true rfl) (Nat.le_of_ble_eq_true rfl)
  · rw [if_pos hc] at hf
    refine lv_aload_n hx hb dB_keepSpare_30 rfl (lv_at hl 0 rfl) ?_
    refine va_get (D := D) (ci := 0) (v := .ref a5) (C := "ValueBench") (T := TB) (N := 8) hx hb htx inB hown hK hP 0 rfl rfl 2 (by decide) (htx _ kw_1_97) (fun _ h9 => h9) rfl dB_keepSpare_31 ?_
    obtain ⟨o8, hq9, hf⟩ := xbind hf
    obtain ⟨hPc, hDc, hFc⟩ := xcut (wc := [(a5, .inr (1, [.ref a6, .int o3.2.1, .int o3.2.2])), (a6, .inl (cT 0, 4096, .inl o3.1))]) hP hD hS hA [11, 12] rfl rfl (by decide)
    refine va_calli (va_runV (C := "ValueBench$Text") (As := []) (rest := []) ⟨hx, hb, hml, hown, htx⟩ (gT_isOver l hl9 D cT aK aV H.size n a5 a6 o3.1 o3.2.1 o3.2.2 o8 hq9) ⟨callB_of 0 htx (xw_goodC kw_3_86) rfl rfl rfl (htx _ kw_1_2) (htx _ kw_3_83) ⟨by decide, by decide, by decide +kernel⟩ ⟨Nat.le_of_ble_eq_true rfl, Nat.le_of_ble_eq_true rfl⟩, (htx _ kw_3_84), (htx _ kw_3_85)⟩ ⟨xPre_blind, va_recv hK hP (ci := 1) rfl (q0 := 11) rfl, (fun U hU hW => ⟨rfl, xPre_of hZ hS hFc hPc hDc hK U hU hW⟩)⟩ rfl rfl hl.1 rfl (lv_room (Nat.le_of_ble_eq_true rfl)) dB_keepSpare_34 ⟨Nat.le_of_ble_eq_true rfl, Nat.le_of_ble_eq_true rfl⟩) hS (fun q _ h => hFc q h) hFc (fun r10 u9 t H1 locs ht hvm hr9 hB hz1 hk1 hS => ?_)
    obtain ⟨hP1, hK1, hD1⟩ := hB
    rw [ht] at hP1
    obtain ⟨hP, hD⟩ := xjoin (W := [(a0, .inr (0, [.ref a1, .ref a3, .ref a5, .ref a7, .ref a8, .ref a13, .int v19, .int v20])), (a1, .inr (1, [.ref a2, .int v1, .int v2])), (a2, .inl (cT 0, 4096, .inl f0)), (a3, .inr (1, [.ref a4, .int v4, .int v5])), (a4, .inl (cT 0, 4096, .inl f3)), (a7, .inl (cT 3, 8, .inr (.inr (.inr (.inr rf0))))), (a8, .inr (3, [.ref a9, .ref a10, .ref p11, .ref p13, .int v15])), (a9, .inl (cT 1, 2048, .inl f9)), (a10, .inl (cT 1, 2048, .inl f10)), (p11, .inl (cT 1, 2048, .inl f12)), (p13, .inl (cT 1, 2048, .inl f14)), (a13, .inr (2, [.ref a14, .int v17, .int v18])), (a14, .inl (cT 2, 4096, .inr (.inl f16))), (a5, .inr (1, [.ref a6, .int o3.2.1, .int o3.2.2])), (a6, .inl (cT 0, 4096, .inl o3.1))]) hP hD [11, 12] [0, 1, 2, 3, 4, 5, 6, 7, 8, 9, 10, 13, 14] 13 rfl rfl (by decide) (by decide) hk1 hFc hP1 hD1
    generalize H1 = H at hP hS ⊢
    rw [hr9]
    refine W.eq (g2 := F0 m 37 ls [.int o8]) rfl ?_
    refine lv_if_eq (tgt := 50) hx hb dB_keepSpare_37 (by decide) (fun hc => ?_) (fun hc => ?_)
    · rw [if_pos hc] at hf
      refine lv_aload_n hx hb dB_keepSpare_50 rfl (lv_at hl 0 rfl) ?_
      refine va_get (D := D) (ci := 0) (v := .ref a7) (C := "ValueBench") (T := TB) (N := 8) hx hb htx inB hown hK hP 0 rfl rfl 3 (by decide) (htx _ kw_1_98) (fun _ h9 => h9) rfl dB_keepSpare_51 ?_
      refine lv_iload_n hx hb dB_keepSpare_54 rfl (lv_at hl 1 rfl) ?_
      obtain ⟨hg11, hf⟩ := xifn hf
      refine va_aldq hx hb hK hP 5 3 rfl rfl hg11 dB_keepSpare_55 ?_
      refine W.eq (g2 := F0 m 56 ls [va_rf (rf0 x1.toNatClampNeg)]) rfl ?_
      rw [hr1 hg11]
      refine W.eq (g2 := F0 m 56 ls [.ref b1]) rfl ?_
      refine lv_astore_n (lv' := [(2, .ref b1), (0, .ref a0), (1, .int x1)]) hx hb dB_keepSpare_56 rfl hl (by decide) rfl (fun ls hl => ?_)
      refine lv_aload_n hx hb dB_keepSpare_57 rfl (lv_at hl 1 rfl) ?_
      refine va_get (D := D) (ci := 0) (v := .ref a7) (C := "ValueBench") (T := TB) (N := 8) hx hb htx inB hown hK hP 0 rfl rfl 3 (by decide) (htx _ kw_1_98) (fun _ h9 => h9) rfl dB_keepSpare_58 ?_
      refine lv_iload_n hx hb dB_keepSpare_61 rfl (lv_at hl 2 rfl) ?_
      refine lv_aload_n hx hb dB_keepSpare_62 rfl (lv_at hl 1 rfl) ?_
      refine va_get (D := D) (ci := 0) (v := .ref a13) (C := "ValueBench") (T := TB) (N := 8) hx hb htx inB hown hK hP 0 rfl rfl 5 (by decide) (htx _ kw_1_100) (fun _ h9 => h9) rfl dB_keepSpare_63 ?_
      obtain ⟨hg12, hf⟩ := xifn hf
      refine va_astq (r := ("ValueBench$Row", TR, 3)) hx hb hK hP hD hS 5 3 11 2 rfl rfl rfl rfl hg12 dB_keepSpare_66 (fun H locs hP hD hS => ?_)
      obtain ⟨hP, hD⟩ : xPD D xcl A [(a0, .inr (0, [.ref a1, .ref a3, .ref a5, .ref a7, .ref a8, .ref a13, .int v19, .int v20])), (a1, .inr (1, [.ref a2, .int v1, .int v2])), (a2, .inl (cT 0, 4096, .inl f0)), (a3, .inr (1, [.ref a4, .int v4, .int v5])), (a4, .inl (cT 0, 4096, .inl f3)), (a7, .inl (cT 3, 8, .inr (.inr (.inr (.inr (va_up rf0 x1.toNatClampNeg (some a13))))))), (a8, .inr (3, [.ref a9, .ref a10, .ref p11, .ref p13, .int v15])), (a9, .inl (cT 1, 2048, .inl f9)), (a10, .inl (cT 1, 2048, .inl f10)), (p11, .inl (cT 1, 2048, .inl f12)), (p13, .inl (cT 1, 2048, .inl f14)), (a13, .inr (2, [.ref a14, .int v17, .int v18])), (a14, .inl (cT 2, 4096, .inr (.inl f16))), (a5, .inr (1, [.ref a6, .int o3.2.1, .int o3.2.2])), (a6, .inl (cT 0, 4096, .inl o3.1))] H := ⟨hP, hD⟩
      refine lv_aload_n hx hb dB_keepSpare_67 rfl (lv_at hl 1 rfl) ?_
      refine lv_aload_n hx hb dB_keepSpare_68 rfl (lv_at hl 0 rfl) ?_
      refine va_put (D := D) (ci := 0) (v := .ref b1) (ty := (.object "ValueBench$Row")) (C := "ValueBench") (T := TB) (N := 8) hx hb htx inB tyB tyB_ok nmB hown hK hP hD hS 0 rfl rfl 5 (by decide) (htx _ kw_1_100) (fun _ h9 => h9) rfl (by decide +kernel) rfl rfl (Nat.le_of_ble_eq_true rfl) dB_keepSpare_69 (fun H locs hP hD hS => ?_)
      obtain ⟨hP, hD⟩ : xPD D xcl A [(a0, .inr (0, [.ref a1, .ref a3, .ref a5, .ref a7, .ref a8, .ref b1, .int v19, .int v20])), (a1, .inr (1, [.ref a2, .int v1, .int v2])), (a2, .inl (cT 0, 4096, .inl f0)), (a3, .inr (1, [.ref a4, .int v4, .int v5])), (a4, .inl (cT 0, 4096, .inl f3)), (a7, .inl (cT 3, 8, .inr (.inr (.inr (.inr (va_up rf0 x1.toNatClampNeg (some a13))))))), (a8, .inr (3, [.ref a9, .ref a10, .ref p11, .ref p13, .int v15])), (a9, .inl (cT 1, 2048, .inl f9)), (a10, .inl (cT 1, 2048, .inl f10)), (p11, .inl (cT 1, 2048, .inl f12)), (p13, .inl (cT 1, 2048, .inl f14)), (a13, .inr (2, [.ref a14, .int v17, .int v18])), (a14, .inl (cT 2, 4096, .inr (.inl f16))), (a5, .inr (1, [.ref a6, .int o3.2.1, .int o3.2.2])), (a6, .inl (cT 0, 4096, .inl o3.1))] H := ⟨hP, hD⟩
      refine lv_aload_n hx hb dB_keepSpare_72 rfl (lv_at hl 1 rfl) ?_
      refine va_get (D := D) (ci := 0) (v := .ref a5) (C := "ValueBench") (T := TB) (N := 8) hx hb htx inB hown hK hP 0 rfl rfl 2 (by decide) (htx _ kw_1_97) (fun _ h9 => h9) rfl dB_keepSpare_73 ?_
      obtain ⟨o13, hq14, hf⟩ := xbind hf
      obtain ⟨hPc, hDc, hFc⟩ := xcut (wc := [(a5, .inr (1, [.ref a6, .int o3.2.1, .int o3.2.2])), (a6, .inl (cT 0, 4096, .inl o3.1))]) hP hD hS hA [13, 14] rfl rfl (by decide)
      refine va_calli (va_runV (C := "ValueBench$Text") (As := []) (rest := []) ⟨hx, hb, hml, hown, htx⟩ (gT_size l hl9 D cT aK aV H.size n a5 a6 o3.1 o3.2.1 o3.2.2 o13 hq14) ⟨callB_of 0 htx (xw_goodC kw_1_131) rfl rfl rfl (htx _ kw_1_2) (htx _ kw_1_128) ⟨by decide, by decide, by decide +kernel⟩ ⟨Nat.le_of_ble_eq_true rfl, Nat.le_of_ble_eq_true rfl⟩, (htx _ kw_1_129), (htx _ kw_1_130)⟩ ⟨xPre_blind, va_recv hK hP (ci := 1) rfl (q0 := 13) rfl, (fun U hU hW => ⟨rfl, xPre_of hZ hS hFc hPc hDc hK U hU hW⟩)⟩ rfl rfl hl.1 rfl (lv_room (Nat.le_of_ble_eq_true rfl)) dB_keepSpare_76 ⟨Nat.le_of_ble_eq_true rfl, Nat.le_of_ble_eq_true rfl⟩) hS (fun q _ h => hFc q h) hFc (fun r15 u9 t H1 locs ht hvm hr9 hB hz1 hk1 hS => ?_)
      obtain ⟨hP1, hK1, hD1⟩ := hB
      rw [ht] at hP1
      obtain ⟨hP, hD⟩ := xjoin (W := [(a0, .inr (0, [.ref a1, .ref a3, .ref a5, .ref a7, .ref a8, .ref b1, .int v19, .int v20])), (a1, .inr (1, [.ref a2, .int v1, .int v2])), (a2, .inl (cT 0, 4096, .inl f0)), (a3, .inr (1, [.ref a4, .int v4, .int v5])), (a4, .inl (cT 0, 4096, .inl f3)), (a7, .inl (cT 3, 8, .inr (.inr (.inr (.inr (va_up rf0 x1.toNatClampNeg (some a13))))))), (a8, .inr (3, [.ref a9, .ref a10, .ref p11, .ref p13, .int v15])), (a9, .inl (cT 1, 2048, .inl f9)), (a10, .inl (cT 1, 2048, .inl f10)), (p11, .inl (cT 1, 2048, .inl f12)), (p13, .inl (cT 1, 2048, .inl f14)), (a13, .inr (2, [.ref a14, .int v17, .int v18])), (a14, .inl (cT 2, 4096, .inr (.inl f16))), (a5, .inr (1, [.ref a6, .int o3.2.1, .int o3.2.2])), (a6, .inl (cT 0, 4096, .inl o3.1))]) hP hD [13, 14] [0, 1, 2, 3, 4, 5, 6, 7, 8, 9, 10, 11, 12] 13 rfl rfl (by decide) (by decide) hk1 hFc hP1 hD1
      generalize H1 = H at hP hS ⊢
      rw [hr9]
      refine W.eq (g2 := F0 m 79 ls [.int o13]) rfl ?_
      obtain rfl := Option.some.inj hf
      exact absurd (show (0 : Nat) = 1 from hkd) (by decide)
    · rw [if_neg hc] at hf
      obtain rfl := Option.some.inj hf
      obtain ⟨hP9, hD9⟩ := xsub (wc := [(a0, .inr (0, [.ref a1, .ref a3, .ref a5, .ref a7, .ref a8, .ref a13, .int v19, .int v20])), (a1, .inr (1, [.ref a2, .int v1, .int v2])), (a2, .inl (cT 0, 4096, .inl f0)), (a3, .inr (1, [.ref a4, .int v4, .int v5])), (a4, .inl (cT 0, 4096, .inl f3)), (a5, .inr (1, [.ref a6, .int o3.2.1, .int o3.2.2])), (a6, .inl (cT 0, 4096, .inl o3.1)), (a7, .inl (cT 3, 8, .inr (.inr (.inr (.inr rf0))))), (a8, .inr (3, [.ref a9, .ref a10, .ref p11, .ref p13, .int v15])), (a9, .inl (cT 1, 2048, .inl f9)), (a10, .inl (cT 1, 2048, .inl f10)), (p11, .inl (cT 1, 2048, .inl f12)), (p13, .inl (cT 1, 2048, .inl f14)), (a13, .inr (2, [.ref a14, .int v17, .int v18])), (a14, .inl (cT 2, 4096, .inr (.inl f16)))]) hP hD [0, 1, 2, 3, 4, 13, 14, 5, 6, 7, 8, 9, 10, 11, 12] rfl rfl (by decide)
      exact vx_throwS (own := "ValueBench") (cls := "java/lang/IndexOutOfBoundsException") (text := "a value beyond the limits") (sa := aK 9) (names := ["java/lang/RuntimeException", "java/lang/Exception"]) hx hb hl9 hown (by decide +kernel) (by decide +kernel) (htx _ kw_1_132) (htx _ kw_1_13) (hZ.2.2.2.2.2.2.2.2.1 ("ValueBench", 172, "a value beyond the limits", 9) (List.mem_of_getElem? (i := 9) rfl)) (vx_hat (B := [.castable "java/lang/IndexOutOfBoundsException" "java/lang/IndexOutOfBoundsException", .declares ⟨"java/lang/RuntimeException", "<init>", "(Ljava/lang/String;)V"⟩, .declares ⟨"java/lang/Exception", "<init>", "(Ljava/lang/String;)V"⟩, .declares ⟨"java/lang/Throwable", "<init>", "(Ljava/lang/String;)V"⟩]) (fun w h => htx w (xat_B_51_55 w h)) xat_B_51_55_b (vx_c ((hZ.2.2.2.2.2.1 "java/lang/IndexOutOfBoundsException" (List.mem_of_getElem? (i := 0) rfl)).use rfl) (vx_c ((hZ.2.2.2.2.2.2.1 ⟨"java/lang/RuntimeException", "<init>", "(Ljava/lang/String;)V"⟩ (List.mem_of_getElem? (i := 3) rfl)).use rfl) (vx_c ((hZ.2.2.2.2.2.2.1 ⟨"java/lang/Exception", "<init>", "(Ljava/lang/String;)V"⟩ (List.mem_of_getElem? (i := 4) rfl)).use rfl) (vx_c ((hZ.2.2.2.2.2.2.1 ⟨"java/lang/Throwable", "<init>", "(Ljava/lang/String;)V"⟩ (List.mem_of_getElem? (i := 5) rfl)).use rfl) vx_n))))) xat_B_51_55_g hZ.2.2.2.1 hZ.2.2.2.2.1 hS (hl.1.trans hml.symm) dB_keepSpare_40 dB_keepSpare_43 dB_keepSpare_44 dB_keepSpare_46 dB_keepSpare_49 (fun x h => (hne x h).elim) (Nat.le_of_ble_eq_true rfl) (Nat.le_of_ble_eq_true rfl) (Nat.le_of_ble_eq_true rfl) (Nat.le_of_ble_eq_true rfl) hlocks (fun t ha hz hk => ⟨(), trivial, ⟨rfl, xx_keepP hP9 hk, va_K.moved ha hK, hD9⟩, xx_grown hS hz hk⟩) hS.2.2 (Nat.le_of_ble_eq_true rfl) (Nat.le_of_ble_eq_true rfl)
set_option maxHeartbeats 400000000 in
set_option maxRecDepth 100000 in
theorem gB_read (l : Launch) (hl9 : l.stackTraces = false) (D : va_G) (cT : Nat → ClassId) (aK aV : Nat → Nat) (sz d n : Nat) (a0 : Nat) (a1 : Nat) (a2 : Nat) (a3 : Nat) (a4 : Nat) (a5 : Nat) (a6 : Nat) (a7 : Nat) (a8 : Nat) (a9 : Nat) (a10 : Nat) (a13 : Nat) (a14 : Nat) (rf0 : Nat → Option Nat) (b1 : Nat) (x1 : Int32) (f0 : Nat → Int32) (v1 : Int32) (v2 : Int32) (f3 : Nat → Int32) (v4 : Int32) (v5 : Int32) (f6 : Nat → Int32) (v7 : Int32) (v8 : Int32) (f9 : Nat → Int32) (f10 : Nat → Int32) (p11 : Nat) (f12 : Nat → Int32) (p13 : Nat) (f14 : Nat → Int32) (v15 : Int32) (f16 : Nat → Int64) (v17 : Int32) (v18 : Int32) (v19 : Int32) (v20 : Int32) (hr1 : ¬ (x1 < 0 ∨ 8 ≤ x1.toNatClampNeg) → rf0 x1.toNatClampNeg = some b1) (out : Nat × Int32 × Int32 × Int32 × (Nat → Int32) × Int32 × Int32 × (Nat → Int64) × Int32 × Int32 × Int32) (hf : fB_read d n x1 f0 v1 v2 f3 v4 v5 f6 v7 v8 f9 f10 p11 f12 p13 f14 v15 f16 v17 v18 v19 v20 = some out) (hkd : out.1 = 0) : xMet l yB_read wyB_read (16 * d + 7) 3 16 (400 * d + 122) D cT aK aV sz [.ref a0, .int x1] [(a0, .inr (0, [.ref a1, .ref a3, .ref a5, .ref a7, .ref a8, .ref a13, .int v19, .int v20])), (a1, .inr (1, [.ref a2, .int v1, .int v2])), (a2, .inl (cT 0, 4096, .inl f0)), (a3, .inr (1, [.ref a4, .int v4, .int v5])), (a4, .inl (cT 0, 4096, .inl f3)), (a5, .inr (1, [.ref a6, .int v7, .int v8])), (a6, .inl (cT 0, 4096, .inl f6)), (a7, .inl (cT 3, 8, .inr (.inr (.inr (.inr rf0))))), (a8, .inr (3, [.ref a9, .ref a10, .ref p11, .ref p13, .int v15])), (a9, .inl (cT 1, 2048, .inl f9)), (a10, .inl (cT 1, 2048, .inl f10)), (p11, .inl (cT 1, 2048, .inl f12)), (p13, .inl (cT 1, 2048, .inl f14)), (a13, .inr (2, [.ref a14, .int v17, .int v18])), (a14, .inl (cT 2, 4096, .inr (.inl f16)))] (fun A => va_Qi (fun (r : Int32) (_ : Unit) => r = out.2.1) (fun _ t => xB D xcl cT A [(a0, .inr (0, [.ref a1, .ref a3, .ref a5, .ref a7, .ref a8, .ref b1, .int out.2.2.2.2.2.2.2.2.2.2, .int v20])), (a1, .inr (1, [.ref a2, .int out.2.2.1, .int out.2.2.2.1])), (a2, .inl (cT 0, 4096, .inl f0)), (a3, .inr (1, [.ref a4, .int v4, .int v5])), (a4, .inl (cT 0, 4096, .inl f3)), (a5, .inr (1, [.ref a6, .int out.2.2.2.2.2.1, .int out.2.2.2.2.2.2.1])), (a6, .inl (cT 0, 4096, .inl out.2.2.2.2.1)), (a7, .inl (cT 3, 8, .inr (.inr (.inr (.inr (va_up rf0 x1.toNatClampNeg (some a13))))))), (a8, .inr (3, [.ref a9, .ref a10, .ref p11, .ref p13, .int v15])), (a9, .inl (cT 1, 2048, .inl f9)), (a10, .inl (cT 1, 2048, .inl f10)), (p11, .inl (cT 1, 2048, .inl f12)), (p13, .inl (cT 1, 2048, .inl f14)), (a13, .inr (2, [.ref a14, .int out.2.2.2.2.2.2.2.2.1, .int out.2.2.2.2.2.2.2.2.2.1])), (a14, .inl (cT 2, 4096, .inr (.inl out.2.2.2.2.2.2.2.1)))] t) A) := by
  refine Met.ofW (cc := prog_1_method_4_code) (maxL := 2) (ret := (some .int)) (by decide) rfl ?_
  intro p e s m args below meth c s₁ B hml hv
  obtain ⟨rfl, hsz, hZ, hP, hK, hD0⟩ := hv
  have hx := B.exec
  have hb := B.bytes
  have hr := B.returns
  have hts := atoms_spec (ws := wyB_read) B.pre
  have htx := fun w h => hts w (List.mem_cons_of_mem _ h)
  have hown : s.vm.findClass "ValueBench" = some m.cls := findClass_of_methodNamed B.named
  have hlocks := B.notSynchronized
  subst hsz
  have hD := hD0.self (sz := s.heap.size)
  generalize hAe : va_A [(a0, .inr (0, [.ref a1, .ref a3, .ref a5, .ref a7, .ref a8, .ref a13, .int v19, .int v20])), (a1, .inr (1, [.ref a2, .int v1, .int v2])), (a2, .inl (cT 0, 4096, .inl f0)), (a3, .inr (1, [.ref a4, .int v4, .int v5])), (a4, .inl (cT 0, 4096, .inl f3)), (a5, .inr (1, [.ref a6, .int v7, .int v8])), (a6, .inl (cT 0, 4096, .inl f6)), (a7, .inl (cT 3, 8, .inr (.inr (.inr (.inr rf0))))), (a8, .inr (3, [.ref a9, .ref a10, .ref p11, .ref p13, .int v15])), (a9, .inl (cT 1, 2048, .inl f9)), (a10, .inl (cT 1, 2048, .inl f10)), (p11, .inl (cT 1, 2048, .inl f12)), (p13, .inl (cT 1, 2048, .inl f14)), (a13, .inr (2, [.ref a14, .int v17, .int v18])), (a14, .inl (cT 2, 4096, .inr (.inl f16)))] s.heap.size = A at hD hZ ⊢
  have hA : ∀ q : Nat, s.heap.size ≤ q → A q := fun q h => by rw [← hAe]; exact Or.inr h
  have hS : va_S A s.heap s.heap [] := va_S.rf
  have hP : va_P D xcl [(a0, .inr (0, [.ref a1, .ref a3, .ref a5, .ref a7, .ref a8, .ref a13, .int v19, .int v20])), (a1, .inr (1, [.ref a2, .int v1, .int v2])), (a2, .inl (cT 0, 4096, .inl f0)), (a3, .inr (1, [.ref a4, .int v4, .int v5])), (a4, .inl (cT 0, 4096, .inl f3)), (a5, .inr (1, [.ref a6, .int v7, .int v8])), (a6, .inl (cT 0, 4096, .inl f6)), (a7, .inl (cT 3, 8, .inr (.inr (.inr (.inr rf0))))), (a8, .inr (3, [.ref a9, .ref a10, .ref p11, .ref p13, .int v15])), (a9, .inl (cT 1, 2048, .inl f9)), (a10, .inl (cT 1, 2048, .inl f10)), (p11, .inl (cT 1, 2048, .inl f12)), (p13, .inl (cT 1, 2048, .inl f14)), (a13, .inr (2, [.ref a14, .int v17, .int v18])), (a14, .inl (cT 2, 4096, .inr (.inl f16)))] s.heap := hP
  have hl := lv_entry ([.ref a0, .int x1]) (n := 2) (Nat.le_of_ble_eq_true rfl)
  rw [lg_entry_eq]
  generalize (lg_sl ([.ref a0, .int x1]) ++ List.replicate (2 - (lg_sl ([.ref a0, .int x1])).length) Slot.unset).toArray = ls at hl ⊢
  have hl : lv_has ls 2 [(0, .ref a0), (1, .int x1)] := hl
  unfold fB_read at hf
  refine lv_iload_n hx hb dB_read_0 rfl (lv_at hl 1 rfl) ?_
  obtain ⟨o1, hq2, hf⟩ := xbind hf
  obtain ⟨hPc, hDc, hFc⟩ := xcut (wc := []) hP hD hS hA [] rfl rfl (by decide)
  refine va_calli (va_runS (As := [.int x1]) (rest := []) ⟨hx, hb, hml, hown, htx⟩ (gB_isRegister l hl9 D cT aK aV s.heap.size n x1 o1 hq2) ⟨callB_of 1 htx (xw_goodC kw_2_18) rfl rfl rfl (htx _ kw_1_1) (htx _ kw_2_16) ⟨by decide, by decide, by decide +kernel⟩ ⟨Nat.le_of_ble_eq_true rfl, Nat.le_of_ble_eq_true rfl⟩, htx _ kw_2_17⟩ ⟨xPre_blind, (fun U hU hW => ⟨rfl, xPre_of hZ hS hFc hPc hDc hK U hU hW⟩)⟩ rfl rfl hl.1 rfl (lv_room (Nat.le_of_ble_eq_true rfl)) dB_read_1 ⟨Nat.le_of_ble_eq_true rfl, Nat.le_of_ble_eq_true rfl⟩) hS (fun q _ h => hFc q h) hFc (fun r3 u9 t H1 locs ht hvm hr9 hB hz1 hk1 hS => ?_)
  obtain ⟨hP1, hK1, hD1⟩ := hB
  rw [ht] at hP1
  obtain ⟨hP, hD⟩ := xjoin (W := [(a0, .inr (0, [.ref a1, .ref a3, .ref a5, .ref a7, .ref a8, .ref a13, .int v19, .int v20])), (a1, .inr (1, [.ref a2, .int v1, .int v2])), (a2, .inl (cT 0, 4096, .inl f0)), (a3, .inr (1, [.ref a4, .int v4, .int v5])), (a4, .inl (cT 0, 4096, .inl f3)), (a5, .inr (1, [.ref a6, .int v7, .int v8])), (a6, .inl (cT 0, 4096, .inl f6)), (a7, .inl (cT 3, 8, .inr (.inr (.inr (.inr rf0))))), (a8, .inr (3, [.ref a9, .ref a10, .ref p11, .ref p13, .int v15])), (a9, .inl (cT 1, 2048, .inl f9)), (a10, .inl (cT 1, 2048, .inl f10)), (p11, .inl (cT 1, 2048, .inl f12)), (p13, .inl (cT 1, 2048, .inl f14)), (a13, .inr (2, [.ref a14, .int v17, .int v18])), (a14, .inl (cT 2, 4096, .inr (.inl f16)))]) hP hD [] [0, 1, 2, 3, 4, 5, 6, 7, 8, 9, 10, 11, 12, 13, 14] 15 rfl rfl (by decide) (by decide) hk1 hFc hP1 hD1
  generalize H1 = H at hP hS ⊢
  rw [hr9]
  refine W.eq (g2 := F0 m 4 ls [.int o1]) rfl ?_
  obtain ⟨o4, hq5, hf⟩ := xbind hf
  by_cases hk6 : o4 = 0
  · rw [if_pos hk6] at hf
    obtain ⟨hPc, hDc, hFc⟩ := xcut (wc := []) hP hD hS hA [] rfl rfl (by decide)
    refine va_callv (va_runS (As := [.int o1]) (rest := []) ⟨hx, hb, hml, hown, htx⟩ (gB_demand l hl9 D cT aK aV H.size n o1 o4 hq5 hk6) ⟨callB_of 1 htx (xw_goodC kw_1_221) rfl rfl rfl (htx _ kw_1_1) (htx _ kw_1_219) ⟨by decide, by decide, by decide +kernel⟩ ⟨Nat.le_of_ble_eq_true rfl, Nat.le_of_ble_eq_true rfl⟩, htx _ kw_1_220⟩ ⟨xPre_blind, (fun U hU hW => ⟨rfl, xPre_of hZ hS hFc hPc hDc hK U hU hW⟩)⟩ rfl rfl hl.1 rfl (lv_room (Nat.le_of_ble_eq_true rfl)) dB_read_4 ⟨Nat.le_of_ble_eq_true rfl, Nat.le_of_ble_eq_true rfl⟩) hS (fun q _ h => hFc q h) hFc (fun u9 t H1 locs ht hvm hr9 hB hz1 hk1 hS => ?_)
    obtain ⟨hP1, hK1, hD1⟩ := hB
    rw [ht] at hP1
    obtain ⟨hP, hD⟩ := xjoin (W := [(a0, .inr (0, [.ref a1, .ref a3, .ref a5, .ref a7, .ref a8, .ref a13, .int v19, .int v20])), (a1, .inr (1, [.ref a2, .int v1, .int v2])), (a2, .inl (cT 0, 4096, .inl f0)), (a3, .inr (1, [.ref a4, .int v4, .int v5])), (a4, .inl (cT 0, 4096, .inl f3)), (a5, .inr (1, [.ref a6, .int v7, .int v8])), (a6, .inl (cT 0, 4096, .inl f6)), (a7, .inl (cT 3, 8, .inr (.inr (.inr (.inr rf0))))), (a8, .inr (3, [.ref a9, .ref a10, .ref p11, .ref p13, .int v15])), (a9, .inl (cT 1, 2048, .inl f9)), (a10, .inl (cT 1, 2048, .inl f10)), (p11, .inl (cT 1, 2048, .inl f12)), (p13, .inl (cT 1, 2048, .inl f14)), (a13, .inr (2, [.ref a14, .int v17, .int v18])), (a14, .inl (cT 2, 4096, .inr (.inl f16)))]) hP hD [] [0, 1, 2, 3, 4, 5, 6, 7, 8, 9, 10, 11, 12, 13, 14] 15 rfl rfl (by decide) (by decide) hk1 hFc hP1 hD1
    generalize H1 = H at hP hS ⊢
    refine lv_aload_n hx hb dB_read_7 rfl (lv_at hl 0 rfl) ?_
    refine va_get (D := D) (ci := 0) (v := .ref a13) (C := "ValueBench") (T := TB) (N := 8) hx hb htx inB hown hK hP 0 rfl rfl 5 (by decide) (htx _ kw_1_100) (fun _ h9 => h9) rfl dB_read_8 ?_
    obtain ⟨o7, hq8, hf⟩ := xbind hf
    obtain ⟨hPc, hDc, hFc⟩ := xcut (wc := [(a13, .inr (2, [.ref a14, .int v17, .int v18])), (a14, .inl (cT 2, 4096, .inr (.inl f16)))]) hP hD hS hA [13, 14] rfl rfl (by decide)
    refine va_callv (va_runV (C := "ValueBench$Row") (As := []) (rest := []) ⟨hx, hb, hml, hown, htx⟩ (gR_clear l hl9 D cT aK aV H.size n a13 a14 f16 v17 v18 o7 hq8) ⟨callB_of 0 htx (xw_goodC kw_2_22) rfl rfl rfl (htx _ kw_1_4) (htx _ kw_2_19) ⟨by decide, by decide, by decide +kernel⟩ ⟨Nat.le_of_ble_eq_true rfl, Nat.le_of_ble_eq_true rfl⟩, (htx _ kw_2_20), (htx _ kw_2_21)⟩ ⟨xPre_blind, va_recv hK hP (ci := 2) rfl (q0 := 13) rfl, (fun U hU hW => ⟨rfl, xPre_of hZ hS hFc hPc hDc hK U hU hW⟩)⟩ rfl rfl hl.1 rfl (lv_room (Nat.le_of_ble_eq_true rfl)) dB_read_11 ⟨Nat.le_of_ble_eq_true rfl, Nat.le_of_ble_eq_true rfl⟩) hS (fun q _ h => hFc q h) hFc (fun u9 t H1 locs ht hvm hr9 hB hz1 hk1 hS => ?_)
    obtain ⟨hP1, hK1, hD1⟩ := hB
    rw [ht] at hP1
    obtain ⟨hP, hD⟩ := xjoin (W := [(a0, .inr (0, [.ref a1, .ref a3, .ref a5, .ref a7, .ref a8, .ref a13, .int v19, .int v20])), (a1, .inr (1, [.ref a2, .int v1, .int v2])), (a2, .inl (cT 0, 4096, .inl f0)), (a3, .inr (1, [.ref a4, .int v4, .int v5])), (a4, .inl (cT 0, 4096, .inl f3)), (a5, .inr (1, [.ref a6, .int v7, .int v8])), (a6, .inl (cT 0, 4096, .inl f6)), (a7, .inl (cT 3, 8, .inr (.inr (.inr (.inr rf0))))), (a8, .inr (3, [.ref a9, .ref a10, .ref p11, .ref p13, .int v15])), (a9, .inl (cT 1, 2048, .inl f9)), (a10, .inl (cT 1, 2048, .inl f10)), (p11, .inl (cT 1, 2048, .inl f12)), (p13, .inl (cT 1, 2048, .inl f14)), (a13, .inr (2, [.ref a14, .int o7.1, .int o7.2])), (a14, .inl (cT 2, 4096, .inr (.inl f16)))]) hP hD [13, 14] [0, 1, 2, 3, 4, 5, 6, 7, 8, 9, 10, 11, 12] 13 rfl rfl (by decide) (by decide) hk1 hFc hP1 hD1
    generalize H1 = H at hP hS ⊢
    refine lv_aload_n hx hb dB_read_14 rfl (lv_at hl 0 rfl) ?_
    refine va_new (ci := 4) (fs := [.null, .null, .int 0, .int 0]) (C := "ValueBench$Reader") (T := TD) (N := 4) hx hb htx inD tyD tyD_ok hown (htx _ kw_2_23) (htx _ kw_2_24) (htx _ kw_1_16) hK hP hD hS hA rfl (by decide +kernel) (Nat.le_of_ble_eq_true rfl) (Nat.le_of_ble_eq_true rfl) dB_read_15 (fun qz9 H hP hD hS => ?_)
    obtain ⟨hP, hD⟩ : xPD D xcl A [(a0, .inr (0, [.ref a1, .ref a3, .ref a5, .ref a7, .ref a8, .ref a13, .int v19, .int v20])), (a1, .inr (1, [.ref a2, .int v1, .int v2])), (a2, .inl (cT 0, 4096, .inl f0)), (a3, .inr (1, [.ref a4, .int v4, .int v5])), (a4, .inl (cT 0, 4096, .inl f3)), (a5, .inr (1, [.ref a6, .int v7, .int v8])), (a6, .inl (cT 0, 4096, .inl f6)), (a7, .inl (cT 3, 8, .inr (.inr (.inr (.inr rf0))))), (a8, .inr (3, [.ref a9, .ref a10, .ref p11, .ref p13, .int v15])), (a9, .inl (cT 1, 2048, .inl f9)), (a10, .inl (cT 1, 2048, .inl f10)), (p11, .inl (cT 1, 2048, .inl f12)), (p13, .inl (cT 1, 2048, .inl f14)), (a13, .inr (2, [.ref a14, .int o7.1, .int o7.2])), (a14, .inl (cT 2, 4096, .inr (.inl f16))), (qz9, .inr (4, [.null, .null, .int 0, .int 0]))] H := ⟨hP, hD⟩
    refine lv_dup hx hb dB_read_18 rfl ?_
    refine lv_aload_n hx hb dB_read_19 rfl (lv_at hl 0 rfl) ?_
    refine va_get (D := D) (ci := 0) (v := .ref a1) (C := "ValueBench") (T := TB) (N := 8) hx hb htx inB hown hK hP 0 rfl rfl 0 (by decide) (htx _ kw_1_95) (fun _ h9 => h9) rfl dB_read_20 ?_
    refine lv_aload_n hx hb dB_read_23 rfl (lv_at hl 0 rfl) ?_
    refine va_get (D := D) (ci := 0) (v := .ref a13) (C := "ValueBench") (T := TB) (N := 8) hx hb htx inB hown hK hP 0 rfl rfl 5 (by decide) (htx _ kw_1_100) (fun _ h9 => h9) rfl dB_read_24 ?_
    obtain ⟨hPc, hDc, hFc⟩ := xcut (wc := [(qz9, .inr (4, [.null, .null, .int 0, .int 0]))]) hP hD hS hA [15] rfl rfl (by decide)
    refine va_callv (va_runI (As := [.ref a1, .ref a13]) (rest := [.ref qz9, .ref a0]) ⟨hx, hb, hml, hown, htx⟩ (cD_init_0 l hl9 D cT aK aV H.size qz9 a1 a13 .null .null (.int 0) (.int 0)) ⟨callB_of 2 htx (xw_goodC kw_2_27) rfl rfl rfl (htx _ kw_1_16) (htx _ kw_2_25) ⟨by decide, by decide, by decide +kernel⟩ ⟨Nat.le_of_ble_eq_true rfl, Nat.le_of_ble_eq_true rfl⟩, rfl, (htx _ kw_2_26)⟩ ⟨xPre_blind, (fun U hU hW => ⟨rfl, xPre_of hZ hS hFc hPc hDc hK U hU hW⟩)⟩ rfl rfl hl.1 rfl (lv_room (Nat.le_of_ble_eq_true rfl)) dB_read_27 ⟨Nat.le_of_ble_eq_true rfl, Nat.le_of_ble_eq_true rfl⟩) hS (fun q _ h => hFc q h) hFc (fun u9 t H1 locs ht hvm hr9 hB hz1 hk1 hS => ?_)
    obtain ⟨hP1, hK1, hD1⟩ := hB
    rw [ht] at hP1
    obtain ⟨hP, hD⟩ := xjoin (W := [(a0, .inr (0, [.ref a1, .ref a3, .ref a5, .ref a7, .ref a8, .ref a13, .int v19, .int v20])), (a1, .inr (1, [.ref a2, .int v1, .int v2])), (a2, .inl (cT 0, 4096, .inl f0)), (a3, .inr (1, [.ref a4, .int v4, .int v5])), (a4, .inl (cT 0, 4096, .inl f3)), (a5, .inr (1, [.ref a6, .int v7, .int v8])), (a6, .inl (cT 0, 4096, .inl f6)), (a7, .inl (cT 3, 8, .inr (.inr (.inr (.inr rf0))))), (a8, .inr (3, [.ref a9, .ref a10, .ref p11, .ref p13, .int v15])), (a9, .inl (cT 1, 2048, .inl f9)), (a10, .inl (cT 1, 2048, .inl f10)), (p11, .inl (cT 1, 2048, .inl f12)), (p13, .inl (cT 1, 2048, .inl f14)), (a13, .inr (2, [.ref a14, .int o7.1, .int o7.2])), (a14, .inl (cT 2, 4096, .inr (.inl f16))), (qz9, .inr (4, [.ref a1, .ref a13, .int 0, .int (-1)]))]) hP hD [15] [0, 1, 2, 3, 4, 5, 6, 7, 8, 9, 10, 11, 12, 13, 14] 15 rfl rfl (by decide) (by decide) hk1 hFc hP1 hD1
    generalize H1 = H at hP hS ⊢
    obtain ⟨o10, hq11, hf⟩ := xbind hf
    obtain ⟨hPc, hDc, hFc⟩ := xcut (wc := [(qz9, .inr (4, [.ref a1, .ref a13, .int 0, .int (-1)])), (a1, .inr (1, [.ref a2, .int v1, .int v2])), (a2, .inl (cT 0, 4096, .inl f0)), (a13, .inr (2, [.ref a14, .int o7.1, .int o7.2])), (a14, .inl (cT 2, 4096, .inr (.inl f16)))]) hP hD hS hA [15, 1, 2, 13, 14] rfl rfl (by decide)
    refine va_calli (va_runV (C := "ValueBench$Reader") (As := []) (rest := [.ref a0]) ⟨hx, hb, hml, hown, htx⟩ (gD_readValue l hl9 D cT aK aV H.size d n qz9 a1 a2 a13 a14 f0 v1 v2 f16 o7.1 o7.2 (0 : Int32) ((-1) : Int32) o10 hq11) ⟨callB_of 0 htx (xw_goodC kw_2_45) rfl rfl rfl (htx _ kw_1_16) (htx _ kw_2_42) ⟨by decide, by decide, by decide +kernel⟩ ⟨(by show (16 * d + 2) + 1 ≤ 16 * d + 7; omega), (by show 8 + (1 + 11) + (400 * d + 41) ≤ 400 * d + 122; omega)⟩, (htx _ kw_2_43), (htx _ kw_2_44)⟩ ⟨xPre_blind, va_recv hK hP (ci := 4) rfl (q0 := 15) rfl, (fun U hU hW => ⟨rfl, xPre_of hZ hS hFc hPc hDc hK U hU hW⟩)⟩ rfl rfl hl.1 rfl (lv_room (Nat.le_of_ble_eq_true rfl)) dB_read_30 ⟨Nat.le_of_ble_eq_true rfl, Nat.le_of_ble_eq_true rfl⟩) hS (fun q _ h => hFc q h) hFc (fun r12 u9 t H1 locs ht hvm hr9 hB hz1 hk1 hS => ?_)
    obtain ⟨hP1, hK1, hD1⟩ := hB
    rw [ht] at hP1
    obtain ⟨hP, hD⟩ := xjoin (W := [(a0, .inr (0, [.ref a1, .ref a3, .ref a5, .ref a7, .ref a8, .ref a13, .int v19, .int v20])), (a3, .inr (1, [.ref a4, .int v4, .int v5])), (a4, .inl (cT 0, 4096, .inl f3)), (a5, .inr (1, [.ref a6, .int v7, .int v8])), (a6, .inl (cT 0, 4096, .inl f6)), (a7, .inl (cT 3, 8, .inr (.inr (.inr (.inr rf0))))), (a8, .inr (3, [.ref a9, .ref a10, .ref p11, .ref p13, .int v15])), (a9, .inl (cT 1, 2048, .inl f9)), (a10, .inl (cT 1, 2048, .inl f10)), (p11, .inl (cT 1, 2048, .inl f12)), (p13, .inl (cT 1, 2048, .inl f14)), (qz9, .inr (4, [.ref a1, .ref a13, .int o10.2.2.2.2.1, .int o10.2.2.2.2.2])), (a1, .inr (1, [.ref a2, .int v1, .int v2])), (a2, .inl (cT 0, 4096, .inl f0)), (a13, .inr (2, [.ref a14, .int o10.2.2.1, .int o10.2.2.2.1])), (a14, .inl (cT 2, 4096, .inr (.inl o10.2.1)))]) hP hD [15, 1, 2, 13, 14] [0, 3, 4, 5, 6, 7, 8, 9, 10, 11, 12] 11 rfl rfl (by decide) (by decide) hk1 hFc hP1 hD1
    generalize H1 = H at hP hS ⊢
    rw [hr9]
    refine W.eq (g2 := F0 m 33 ls [.int o10.1, .ref a0]) rfl ?_
    refine va_put (D := D) (ci := 0) (v := .int o10.1) (ty := .int) (C := "ValueBench") (T := TB) (N := 8) hx hb htx inB tyB tyB_ok nmB hown hK hP hD hS 0 rfl rfl 6 (by decide) (htx _ kw_1_101) (fun _ h9 => h9) rfl (by decide +kernel) rfl rfl (Nat.le_of_ble_eq_true rfl) dB_read_33 (fun H locs hP hD hS => ?_)
    obtain ⟨hP, hD⟩ : xPD D xcl A [(a0, .inr (0, [.ref a1, .ref a3, .ref a5, .ref a7, .ref a8, .ref a13, .int o10.1, .int v20])), (a3, .inr (1, [.ref a4, .int v4, .int v5])), (a4, .inl (cT 0, 4096, .inl f3)), (a5, .inr (1, [.ref a6, .int v7, .int v8])), (a6, .inl (cT 0, 4096, .inl f6)), (a7, .inl (cT 3, 8, .inr (.inr (.inr (.inr rf0))))), (a8, .inr (3, [.ref a9, .ref a10, .ref p11, .ref p13, .int v15])), (a9, .inl (cT 1, 2048, .inl f9)), (a10, .inl (cT 1, 2048, .inl f10)), (p11, .inl (cT 1, 2048, .inl f12)), (p13, .inl (cT 1, 2048, .inl f14)), (qz9, .inr (4, [.ref a1, .ref a13, .int o10.2.2.2.2.1, .int o10.2.2.2.2.2])), (a1, .inr (1, [.ref a2, .int v1, .int v2])), (a2, .inl (cT 0, 4096, .inl f0)), (a13, .inr (2, [.ref a14, .int o10.2.2.1, .int o10.2.2.2.1])), (a14, .inl (cT 2, 4096, .inr (.inl o10.2.1)))] H := ⟨hP, hD⟩
    refine lv_aload_n hx hb dB_read_36 rfl (lv_at hl 0 rfl) ?_
    refine va_get (D := D) (ci := 0) (v := .ref a1) (C := "ValueBench") (T := TB) (N := 8) hx hb htx inB hown hK hP 0 rfl rfl 0 (by decide) (htx _ kw_1_95) (fun _ h9 => h9) rfl dB_read_37 ?_
    obtain ⟨o13, hq14, hf⟩ := xbind hf
    obtain ⟨hPc, hDc, hFc⟩ := xcut (wc := [(a1, .inr (1, [.ref a2, .int v1, .int v2])), (a2, .inl (cT 0, 4096, .inl f0))]) hP hD hS hA [12, 13] rfl rfl (by decide)
    refine va_callv (va_runV (C := "ValueBench$Text") (As := []) (rest := []) ⟨hx, hb, hml, hown, htx⟩ (gT_clear l hl9 D cT aK aV H.size n a1 a2 f0 v1 v2 o13 hq14) ⟨callB_of 0 htx (xw_goodC kw_2_237) rfl rfl rfl (htx _ kw_1_2) (htx _ kw_2_234) ⟨by decide, by decide, by decide +kernel⟩ ⟨Nat.le_of_ble_eq_true rfl, Nat.le_of_ble_eq_true rfl⟩, (htx _ kw_2_235), (htx _ kw_2_236)⟩ ⟨xPre_blind, va_recv hK hP (ci := 1) rfl (q0 := 12) rfl, (fun U hU hW => ⟨rfl, xPre_of hZ hS hFc hPc hDc hK U hU hW⟩)⟩ rfl rfl hl.1 rfl (lv_room (Nat.le_of_ble_eq_true rfl)) dB_read_40 ⟨Nat.le_of_ble_eq_true rfl, Nat.le_of_ble_eq_true rfl⟩) hS (fun q _ h => hFc q h) hFc (fun u9 t H1 locs ht hvm hr9 hB hz1 hk1 hS => ?_)
    obtain ⟨hP1, hK1, hD1⟩ := hB
    rw [ht] at hP1
    obtain ⟨hP, hD⟩ := xjoin (W := [(a0, .inr (0, [.ref a1, .ref a3, .ref a5, .ref a7, .ref a8, .ref a13, .int o10.1, .int v20])), (a3, .inr (1, [.ref a4, .int v4, .int v5])), (a4, .inl (cT 0, 4096, .inl f3)), (a5, .inr (1, [.ref a6, .int v7, .int v8])), (a6, .inl (cT 0, 4096, .inl f6)), (a7, .inl (cT 3, 8, .inr (.inr (.inr (.inr rf0))))), (a8, .inr (3, [.ref a9, .ref a10, .ref p11, .ref p13, .int v15])), (a9, .inl (cT 1, 2048, .inl f9)), (a10, .inl (cT 1, 2048, .inl f10)), (p11, .inl (cT 1, 2048, .inl f12)), (p13, .inl (cT 1, 2048, .inl f14)), (qz9, .inr (4, [.ref a1, .ref a13, .int o10.2.2.2.2.1, .int o10.2.2.2.2.2])), (a13, .inr (2, [.ref a14, .int o10.2.2.1, .int o10.2.2.2.1])), (a14, .inl (cT 2, 4096, .inr (.inl o10.2.1))), (a1, .inr (1, [.ref a2, .int o13.1, .int o13.2])), (a2, .inl (cT 0, 4096, .inl f0))]) hP hD [12, 13] [0, 1, 2, 3, 4, 5, 6, 7, 8, 9, 10, 11, 14, 15] 14 rfl rfl (by decide) (by decide) hk1 hFc hP1 hD1
    generalize H1 = H at hP hS ⊢
    refine lv_aload_n hx hb dB_read_43 rfl (lv_at hl 0 rfl) ?_
    refine va_get (D := D) (ci := 0) (v := .int o10.1) (C := "ValueBench") (T := TB) (N := 8) hx hb htx inB hown hK hP 0 rfl rfl 6 (by decide) (htx _ kw_1_101) (fun _ h9 => h9) rfl dB_read_44 ?_
    refine lv_iconst (v := (-1)) hx hb dB_read_47 (by decide) ?_
    refine lv_icmp_eq (tgt := 61) hx hb dB_read_48 (by decide) (fun hc => ?_) (fun hc => ?_)
    · rw [if_pos hc] at hf
      refine lv_aload_n hx hb dB_read_61 rfl (lv_at hl 0 rfl) ?_
      refine lv_iload_n hx hb dB_read_62 rfl (lv_at hl 1 rfl) ?_
      obtain ⟨o15, hq16, hf⟩ := xbind hf
      by_cases hk17 : o15.1 = 0
      · rw [if_pos hk17] at hf
        obtain ⟨hPc, hDc, hFc⟩ := xcut (wc := [(a0, .inr (0, [.ref a1, .ref a3, .ref a5, .ref a7, .ref a8, .ref a13, .int o10.1, .int v20])), (a1, .inr (1, [.ref a2, .int o13.1, .int o13.2])), (a2, .inl (cT 0, 4096, .inl f0)), (a3, .inr (1, [.ref a4, .int v4, .int v5])), (a4, .inl (cT 0, 4096, .inl f3)), (a5, .inr (1, [.ref a6, .int v7, .int v8])), (a6, .inl (cT 0, 4096, .inl f6)), (a7, .inl (cT 3, 8, .inr (.inr (.inr (.inr rf0))))), (a8, .inr (3, [.ref a9, .ref a10, .ref p11, .ref p13, .int v15])), (a9, .inl (cT 1, 2048, .inl f9)), (a10, .inl (cT 1, 2048, .inl f10)), (p11, .inl (cT 1, 2048, .inl f12)), (p13, .inl (cT 1, 2048, .inl f14)), (a13, .inr (2, [.ref a14, .int o10.2.2.1, .int o10.2.2.2.1])), (a14, .inl (cT 2, 4096, .inr (.inl o10.2.1)))]) hP hD hS hA [0, 14, 15, 1, 2, 3, 4, 5, 6, 7, 8, 9, 10, 12, 13] rfl rfl (by decide)
        refine va_calli (va_runV (C := "ValueBench") (As := [.int x1]) (rest := []) ⟨hx, hb, hml, hown, htx⟩ (gB_keepSpare l hl9 D cT aK aV H.size d n a0 a1 a2 a3 a4 a5 a6 a7 a8 a9 a10 a13 a14 rf0 b1 x1 f0 o13.1 o13.2 f3 v4 v5 f6 v7 v8 f9 f10 p11 f12 p13 f14 v15 o10.2.1 o10.2.2.1 o10.2.2.2.1 o10.1 v20 hr1 o15 hq16 hk17) ⟨callB_of 1 htx (xw_goodC kw_3_17) rfl rfl rfl (htx _ kw_1_1) (htx _ kw_3_14) ⟨by decide, by decide, by decide +kernel⟩ ⟨(by show (16 * d + 6) + 1 ≤ 16 * d + 7; omega), (by show 8 + (3 + 11) + (400 * d + 100) ≤ 400 * d + 122; omega)⟩, (htx _ kw_3_16), (htx _ kp_B_keepSpare)⟩ ⟨xPre_blind, va_recv hK hP (ci := 0) rfl (q0 := 0) rfl, (fun U hU hW => ⟨rfl, xPre_of hZ hS hFc hPc hDc hK U hU hW⟩)⟩ rfl rfl hl.1 rfl (lv_room (Nat.le_of_ble_eq_true rfl)) dB_read_63 ⟨Nat.le_of_ble_eq_true rfl, Nat.le_of_ble_eq_true rfl⟩) hS (fun q _ h => hFc q h) hFc (fun r18 u9 t H1 locs ht hvm hr9 hB hz1 hk1 hS => ?_)
        obtain ⟨hP1, hK1, hD1⟩ := hB
        rw [ht] at hP1
        obtain ⟨hP, hD⟩ := xjoin (W := [(qz9, .inr (4, [.ref a1, .ref a13, .int o10.2.2.2.2.1, .int o10.2.2.2.2.2])), (a0, .inr (0, [.ref a1, .ref a3, .ref a5, .ref a7, .ref a8, .ref b1, .int o10.1, .int v20])), (a1, .inr (1, [.ref a2, .int o13.1, .int o13.2])), (a2, .inl (cT 0, 4096, .inl f0)), (a3, .inr (1, [.ref a4, .int v4, .int v5])), (a4, .inl (cT 0, 4096, .inl f3)), (a5, .inr (1, [.ref a6, .int o15.2.2.2.1, .int o15.2.2.2.2])), (a6, .inl (cT 0, 4096, .inl o15.2.2.1)), (a7, .inl (cT 3, 8, .inr (.inr (.inr (.inr (va_up rf0 x1.toNatClampNeg (some a13))))))), (a8, .inr (3, [.ref a9, .ref a10, .ref p11, .ref p13, .int v15])), (a9, .inl (cT 1, 2048, .inl f9)), (a10, .inl (cT 1, 2048, .inl f10)), (p11, .inl (cT 1, 2048, .inl f12)), (p13, .inl (cT 1, 2048, .inl f14)), (a13, .inr (2, [.ref a14, .int o10.2.2.1, .int o10.2.2.2.1])), (a14, .inl (cT 2, 4096, .inr (.inl o10.2.1)))]) hP hD [0, 14, 15, 1, 2, 3, 4, 5, 6, 7, 8, 9, 10, 12, 13] [11] 1 rfl rfl (by decide) (by decide) hk1 hFc hP1 hD1
        generalize H1 = H at hP hS ⊢
        rw [hr9]
        refine W.eq (g2 := F0 m 66 ls [.int o15.2.1]) rfl ?_
        obtain rfl := Option.some.inj hf
        obtain ⟨hP9, hD9⟩ := xsub (wc := [(a0, .inr (0, [.ref a1, .ref a3, .ref a5, .ref a7, .ref a8, .ref b1, .int o10.1, .int v20])), (a1, .inr (1, [.ref a2, .int o13.1, .int o13.2])), (a2, .inl (cT 0, 4096, .inl f0)), (a3, .inr (1, [.ref a4, .int v4, .int v5])), (a4, .inl (cT 0, 4096, .inl f3)), (a5, .inr (1, [.ref a6, .int o15.2.2.2.1, .int o15.2.2.2.2])), (a6, .inl (cT 0, 4096, .inl o15.2.2.1)), (a7, .inl (cT 3, 8, .inr (.inr (.inr (.inr (va_up rf0 x1.toNatClampNeg (some a13))))))), (a8, .inr (3, [.ref a9, .ref a10, .ref p11, .ref p13, .int v15])), (a9, .inl (cT 1, 2048, .inl f9)), (a10, .inl (cT 1, 2048, .inl f10)), (p11, .inl (cT 1, 2048, .inl f12)), (p13, .inl (cT 1, 2048, .inl f14)), (a13, .inr (2, [.ref a14, .int o10.2.2.1, .int o10.2.2.2.1])), (a14, .inl (cT 2, 4096, .inr (.inl o10.2.1)))]) hP hD [1, 2, 3, 4, 5, 6, 7, 8, 9, 10, 11, 12, 13, 14, 15] rfl rfl (by decide)
        refine W.widen (k := 3) (n := 16) (Nat.le_of_ble_eq_true rfl) (Nat.le_of_ble_eq_true rfl) ?_
        exact W.iret (v := o15.2.1) hx hb hr (fun t ht hW => ⟨⟨o15.2.1, (), rfl, rfl, by rw [ht]; exact hP9, va_K.moved hW.alike hK, hD9⟩, hS.F ht⟩) hS.2.2 dB_read_66
      rw [if_neg hk17] at hf
      by_cases hk19 : o15.1 = 1
      · rw [if_pos hk19] at hf
        obtain rfl := Option.some.inj hf
        exact absurd (show (1 : Nat) = 0 from hkd) (by decide)
      rw [if_neg hk19] at hf
      exact nomatch hf
    · rw [if_neg hc] at hf
      obtain rfl := Option.some.inj hf
      exact absurd (show (2 : Nat) = 0 from hkd) (by decide)
  rw [if_neg hk6] at hf
  by_cases hk15 : o4 = 1
  · rw [if_pos hk15] at hf
    obtain rfl := Option.some.inj hf
    exact absurd (show (3 : Nat) = 0 from hkd) (by decide)
  rw [if_neg hk15] at hf
  exact nomatch hf
set_option maxHeartbeats 400000000 in
set_option maxRecDepth 100000 in
theorem gB_read_1 (l : Launch) (hl9 : l.stackTraces = false) (D : va_G) (cT : Nat → ClassId) (aK aV : Nat → Nat) (sz d n : Nat) (a0 : Nat) (a1 : Nat) (a2 : Nat) (a3 : Nat) (a4 : Nat) (a5 : Nat) (a6 : Nat) (a7 : Nat) (a8 : Nat) (a9 : Nat) (a10 : Nat) (a13 : Nat) (a14 : Nat) (rf0 : Nat → Option Nat) (b1 : Nat) (x1 : Int32) (f0 : Nat → Int32) (v1 : Int32) (v2 : Int32) (f3 : Nat → Int32) (v4 : Int32) (v5 : Int32) (f6 : Nat → Int32) (v7 : Int32) (v8 : Int32) (f9 : Nat → Int32) (f10 : Nat → Int32) (p11 : Nat) (f12 : Nat → Int32) (p13 : Nat) (f14 : Nat → Int32) (v15 : Int32) (f16 : Nat → Int64) (v17 : Int32) (v18 : Int32) (v19 : Int32) (v20 : Int32) (hr1 : ¬ (x1 < 0 ∨ 8 ≤ x1.toNatClampNeg) → rf0 x1.toNatClampNeg = some b1) (out : Nat × Int32 × Int32 × Int32 × (Nat → Int32) × Int32 × Int32 × (Nat → Int64) × Int32 × Int32 × Int32) (hf : fB_read d n x1 f0 v1 v2 f3 v4 v5 f6 v7 v8 f9 f10 p11 f12 p13 f14 v15 f16 v17 v18 v19 v20 = some out) (hkd : out.1 = 1) : xMetX l yB_read wyB_read (16 * d + 7) 3 16 (400 * d + 122) D cT aK aV sz [.ref a0, .int x1] [(a0, .inr (0, [.ref a1, .ref a3, .ref a5, .ref a7, .ref a8, .ref a13, .int v19, .int v20])), (a1, .inr (1, [.ref a2, .int v1, .int v2])), (a2, .inl (cT 0, 4096, .inl f0)), (a3, .inr (1, [.ref a4, .int v4, .int v5])), (a4, .inl (cT 0, 4096, .inl f3)), (a5, .inr (1, [.ref a6, .int v7, .int v8])), (a6, .inl (cT 0, 4096, .inl f6)), (a7, .inl (cT 3, 8, .inr (.inr (.inr (.inr rf0))))), (a8, .inr (3, [.ref a9, .ref a10, .ref p11, .ref p13, .int v15])), (a9, .inl (cT 1, 2048, .inl f9)), (a10, .inl (cT 1, 2048, .inl f10)), (p11, .inl (cT 1, 2048, .inl f12)), (p13, .inl (cT 1, 2048, .inl f14)), (a13, .inr (2, [.ref a14, .int v17, .int v18])), (a14, .inl (cT 2, 4096, .inr (.inl f16)))] "java/lang/IndexOutOfBoundsException" (fun A t => xB D xcl cT A [(a0, .inr (0, [.ref a1, .ref a3, .ref a5, .ref a7, .ref a8, .ref a13, .int out.2.2.2.2.2.2.2.2.2.2, .int v20])), (a1, .inr (1, [.ref a2, .int out.2.2.1, .int out.2.2.2.1])), (a2, .inl (cT 0, 4096, .inl f0)), (a3, .inr (1, [.ref a4, .int v4, .int v5])), (a4, .inl (cT 0, 4096, .inl f3)), (a5, .inr (1, [.ref a6, .int out.2.2.2.2.2.1, .int out.2.2.2.2.2.2.1])), (a6, .inl (cT 0, 4096, .inl out.2.2.2.2.1)), (a7, .inl (cT 3, 8, .inr (.inr (.inr (.inr rf0))))), (a8, .inr (3, [.ref a9, .ref a10, .ref p11, .ref p13, .int v15])), (a9, .inl (cT 1, 2048, .inl f9)), (a10, .inl (cT 1, 2048, .inl f10)), (p11, .inl (cT 1, 2048, .inl f12)), (p13, .inl (cT 1, 2048, .inl f14)), (a13, .inr (2, [.ref a14, .int out.2.2.2.2.2.2.2.2.1, .int out.2.2.2.2.2.2.2.2.2.1])), (a14, .inl (cT 2, 4096, .inr (.inl out.2.2.2.2.2.2.2.1)))] t) := by
  refine vx_ofW (cc := prog_1_method_4_code) (maxL := 2) (ret := (some .int)) (by decide) rfl ?_
  intro p e s m args below meth c s₁ B hml hne hv
  obtain ⟨rfl, hsz, hZ, hP, hK, hD0⟩ := hv
  have hx := B.exec
  have hb := B.bytes
  have hr := B.returns
  have hts := atoms_spec (ws := wyB_read) B.pre
  have htx := fun w h => hts w (List.mem_cons_of_mem _ h)
  have hown : s.vm.findClass "ValueBench" = some m.cls := findClass_of_methodNamed B.named
  have hlocks := B.notSynchronized
  subst hsz
  have hD := hD0.self (sz := s.heap.size)
  generalize hAe : va_A [(a0, .inr (0, [.ref a1, .ref a3, .ref a5, .ref a7, .ref a8, .ref a13, .int v19, .int v20])), (a1, .inr (1, [.ref a2, .int v1, .int v2])), (a2, .inl (cT 0, 4096, .inl f0)), (a3, .inr (1, [.ref a4, .int v4, .int v5])), (a4, .inl (cT 0, 4096, .inl f3)), (a5, .inr (1, [.ref a6, .int v7, .int v8])), (a6, .inl (cT 0, 4096, .inl f6)), (a7, .inl (cT 3, 8, .inr (.inr (.inr (.inr rf0))))), (a8, .inr (3, [.ref a9, .ref a10, .ref p11, .ref p13, .int v15])), (a9, .inl (cT 1, 2048, .inl f9)), (a10, .inl (cT 1, 2048, .inl f10)), (p11, .inl (cT 1, 2048, .inl f12)), (p13, .inl (cT 1, 2048, .inl f14)), (a13, .inr (2, [.ref a14, .int v17, .int v18])), (a14, .inl (cT 2, 4096, .inr (.inl f16)))] s.heap.size = A at hD hZ ⊢
  have hA : ∀ q : Nat, s.heap.size ≤ q → A q := fun q h => by rw [← hAe]; exact Or.inr h
  have hS : va_S A s.heap s.heap [] := va_S.rf
  have hP : va_P D xcl [(a0, .inr (0, [.ref a1, .ref a3, .ref a5, .ref a7, .ref a8, .ref a13, .int v19, .int v20])), (a1, .inr (1, [.ref a2, .int v1, .int v2])), (a2, .inl (cT 0, 4096, .inl f0)), (a3, .inr (1, [.ref a4, .int v4, .int v5])), (a4, .inl (cT 0, 4096, .inl f3)), (a5, .inr (1, [.ref a6, .int v7, .int v8])), (a6, .inl (cT 0, 4096, .inl f6)), (a7, .inl (cT 3, 8, .inr (.inr (.inr (.inr rf0))))), (a8, .inr (3, [.ref a9, .ref a10, .ref p11, .ref p13, .int v15])), (a9, .inl (cT 1, 2048, .inl f9)), (a10, .inl (cT 1, 2048, .inl f10)), (p11, .inl (cT 1, 2048, .inl f12)), (p13, .inl (cT 1, 2048, .inl f14)), (a13, .inr (2, [.ref a14, .int v17, .int v18])), (a14, .inl (cT 2, 4096, .inr (.inl f16)))] s.heap := hP
  have hl := lv_entry ([.ref a0, .int x1]) (n := 2) (Nat.le_of_ble_eq_true rfl)
  rw [lg_entry_eq]
  generalize (lg_sl ([.ref a0, .int x1]) ++ List.replicate (2 - (lg_sl ([.ref a0, .int x1])).length) Slot.unset).toArray = ls at hl ⊢
  have hl : lv_has ls 2 [(0, .ref a0), (1, .int x1)] := hl
  unfold fB_read at hf
  refine lv_iload_n hx hb dB_read_0 rfl (lv_at hl 1 rfl) ?_
  obtain ⟨o1, hq2, hf⟩ := xbind hf
  obtain ⟨hPc, hDc, hFc⟩ := xcut (wc := []) hP hD hS hA [] rfl rfl (by decide)
  refine va_calli (va_runS (As := [.int x1]) (rest := []) ⟨hx, hb, hml, hown, htx⟩ (gB_isRegister l hl9 D cT aK aV s.heap.size n x1 o1 hq2) ⟨callB_of 1 htx (xw_goodC kw_2_18) rfl rfl rfl (htx _ kw_1_1) (htx _ kw_2_16) ⟨by decide, by decide, by decide +kernel⟩ ⟨Nat.le_of_ble_eq_true rfl, Nat.le_of_ble_eq_true rfl⟩, htx _ kw_2_17⟩ ⟨xPre_blind, (fun U hU hW => ⟨rfl, xPre_of hZ hS hFc hPc hDc hK U hU hW⟩)⟩ rfl rfl hl.1 rfl (lv_room (Nat.le_of_ble_eq_true rfl)) dB_read_1 ⟨Nat.le_of_ble_eq_true rfl, Nat.le_of_ble_eq_true rfl⟩) hS (fun q _ h => hFc q h) hFc (fun r3 u9 t H1 locs ht hvm hr9 hB hz1 hk1 hS => ?_)
  obtain ⟨hP1, hK1, hD1⟩ := hB
  rw [ht] at hP1
  obtain ⟨hP, hD⟩ := xjoin (W := [(a0, .inr (0, [.ref a1, .ref a3, .ref a5, .ref a7, .ref a8, .ref a13, .int v19, .int v20])), (a1, .inr (1, [.ref a2, .int v1, .int v2])), (a2, .inl (cT 0, 4096, .inl f0)), (a3, .inr (1, [.ref a4, .int v4, .int v5])), (a4, .inl (cT 0, 4096, .inl f3)), (a5, .inr (1, [.ref a6, .int v7, .int v8])), (a6, .inl (cT 0, 4096, .inl f6)), (a7, .inl (cT 3, 8, .inr (.inr (.inr (.inr rf0))))), (a8, .inr (3, [.ref a9, .ref a10, .ref p11, .ref p13, .int v15])), (a9, .inl (cT 1, 2048, .inl f9)), (a10, .inl (cT 1, 2048, .inl f10)), (p11, .inl (cT 1, 2048, .inl f12)), (p13, .inl (cT 1, 2048, .inl f14)), (a13, .inr (2, [.ref a14, .int v17, .int v18])), (a14, .inl (cT 2, 4096, .inr (.inl f16)))]) hP hD [] [0, 1, 2, 3, 4, 5, 6, 7, 8, 9, 10, 11, 12, 13, 14] 15 rfl rfl (by decide) (by decide) hk1 hFc hP1 hD1
  generalize H1 = H at hP hS ⊢
  rw [hr9]
  refine W.eq (g2 := F0 m 4 ls [.int o1]) rfl ?_
  obtain ⟨o4, hq5, hf⟩ := xbind hf
  by_cases hk6 : o4 = 0
  · rw [if_pos hk6] at hf
    obtain ⟨hPc, hDc, hFc⟩ := xcut (wc := []) hP hD hS hA [] rfl rfl (by decide)
    refine va_callv (va_runS (As := [.int o1]) (rest := []) ⟨hx, hb, hml, hown, htx⟩ (gB_demand l hl9 D cT aK aV H.size n o1 o4 hq5 hk6) ⟨callB_of 1 htx (xw_goodC kw_1_221) rfl rfl rfl (htx _ kw_1_1) (htx _ kw_1_219) ⟨by decide, by decide, by decide +kernel⟩ ⟨Nat.le_of_ble_eq_true rfl, Nat.le_of_ble_eq_true rfl⟩, htx _ kw_1_220⟩ ⟨xPre_blind, (fun U hU hW => ⟨rfl, xPre_of hZ hS hFc hPc hDc hK U hU hW⟩)⟩ rfl rfl hl.1 rfl (lv_room (Nat.le_of_ble_eq_true rfl)) dB_read_4 ⟨Nat.le_of_ble_eq_true rfl, Nat.le_of_ble_eq_true rfl⟩) hS (fun q _ h => hFc q h) hFc (fun u9 t H1 locs ht hvm hr9 hB hz1 hk1 hS => ?_)
    obtain ⟨hP1, hK1, hD1⟩ := hB
    rw [ht] at hP1
    obtain ⟨hP, hD⟩ := xjoin (W := [(a0, .inr (0, [.ref a1, .ref a3, .ref a5, .ref a7, .ref a8, .ref a13, .int v19, .int v20])), (a1, .inr (1, [.ref a2, .int v1, .int v2])), (a2, .inl (cT 0, 4096, .inl f0)), (a3, .inr (1, [.ref a4, .int v4, .int v5])), (a4, .inl (cT 0, 4096, .inl f3)), (a5, .inr (1, [.ref a6, .int v7, .int v8])), (a6, .inl (cT 0, 4096, .inl f6)), (a7, .inl (cT 3, 8, .inr (.inr (.inr (.inr rf0))))), (a8, .inr (3, [.ref a9, .ref a10, .ref p11, .ref p13, .int v15])), (a9, .inl (cT 1, 2048, .inl f9)), (a10, .inl (cT 1, 2048, .inl f10)), (p11, .inl (cT 1, 2048, .inl f12)), (p13, .inl (cT 1, 2048, .inl f14)), (a13, .inr (2, [.ref a14, .int v17, .int v18])), (a14, .inl (cT 2, 4096, .inr (.inl f16)))]) hP hD [] [0, 1, 2, 3, 4, 5, 6, 7, 8, 9, 10, 11, 12, 13, 14] 15 rfl rfl (by decide) (by decide) hk1 hFc hP1 hD1
    generalize H1 = H at hP hS ⊢
    refine lv_aload_n hx hb dB_read_7 rfl (lv_at hl 0 rfl) ?_
    refine va_get (D := D) (ci := 0) (v := .ref a13) (C := "ValueBench") (T := TB) (N := 8) hx hb htx inB hown hK hP 0 rfl rfl 5 (by decide) (htx _ kw_1_100) (fun _ h9 => h9) rfl dB_read_8 ?_
    obtain ⟨o7, hq8, hf⟩ := xbind hf
    obtain ⟨hPc, hDc, hFc⟩ := xcut (wc := [(a13, .inr (2, [.ref a14, .int v17, .int v18])), (a14, .inl (cT 2, 4096, .inr (.inl f16)))]) hP hD hS hA [13, 14] rfl rfl (by decide)
    refine va_callv (va_runV (C := "ValueBench$Row") (As := []) (rest := []) ⟨hx, hb, hml, hown, htx⟩ (gR_clear l hl9 D cT aK aV H.size n a13 a14 f16 v17 v18 o7 hq8) ⟨callB_of 0 htx (xw_goodC kw_2_22) rfl rfl rfl (htx _ kw_1_4) (htx _ kw_2_19) ⟨by decide, by decide, by decide +kernel⟩ ⟨Nat.le_of_ble_eq_true rfl, Nat.le_of_ble_eq_true rfl⟩, (htx _ kw_2_20), (htx _ kw_2_21)⟩ ⟨xPre_blind, va_recv hK hP (ci := 2) rfl (q0 := 13) rfl, (fun U hU hW => ⟨rfl, xPre_of hZ hS hFc hPc hDc hK U hU hW⟩)⟩ rfl rfl hl.1 rfl (lv_room (Nat.le_of_ble_eq_true rfl)) dB_read_11 ⟨Nat.le_of_ble_eq_true rfl, Nat.le_of_ble_eq_true rfl⟩) hS (fun q _ h => hFc q h) hFc (fun u9 t H1 locs ht hvm hr9 hB hz1 hk1 hS => ?_)
    obtain ⟨hP1, hK1, hD1⟩ := hB
    rw [ht] at hP1
    obtain ⟨hP, hD⟩ := xjoin (W := [(a0, .inr (0, [.ref a1, .ref a3, .ref a5, .ref a7, .ref a8, .ref a13, .int v19, .int v20])), (a1, .inr (1, [.ref a2, .int v1, .int v2])), (a2, .inl (cT 0, 4096, .inl f0)), (a3, .inr (1, [.ref a4, .int v4, .int v5])), (a4, .inl (cT 0, 4096, .inl f3)), (a5, .inr (1, [.ref a6, .int v7, .int v8])), (a6, .inl (cT 0, 4096, .inl f6)), (a7, .inl (cT 3, 8, .inr (.inr (.inr (.inr rf0))))), (a8, .inr (3, [.ref a9, .ref a10, .ref p11, .ref p13, .int v15])), (a9, .inl (cT 1, 2048, .inl f9)), (a10, .inl (cT 1, 2048, .inl f10)), (p11, .inl (cT 1, 2048, .inl f12)), (p13, .inl (cT 1, 2048, .inl f14)), (a13, .inr (2, [.ref a14, .int o7.1, .int o7.2])), (a14, .inl (cT 2, 4096, .inr (.inl f16)))]) hP hD [13, 14] [0, 1, 2, 3, 4, 5, 6, 7, 8, 9, 10, 11, 12] 13 rfl rfl (by decide) (by decide) hk1 hFc hP1 hD1
    generalize H1 = H at hP hS ⊢
    refine lv_aload_n hx hb dB_read_14 rfl (lv_at hl 0 rfl) ?_
    refine va_new (ci := 4) (fs := [.null, .null, .int 0, .int 0]) (C := "ValueBench$Reader") (T := TD) (N := 4) hx hb htx inD tyD tyD_ok hown (htx _ kw_2_23) (htx _ kw_2_24) (htx _ kw_1_16) hK hP hD hS hA rfl (by decide +kernel) (Nat.le_of_ble_eq_true rfl) (Nat.le_of_ble_eq_true rfl) dB_read_15 (fun qz9 H hP hD hS => ?_)
    obtain ⟨hP, hD⟩ : xPD D xcl A [(a0, .inr (0, [.ref a1, .ref a3, .ref a5, .ref a7, .ref a8, .ref a13, .int v19, .int v20])), (a1, .inr (1, [.ref a2, .int v1, .int v2])), (a2, .inl (cT 0, 4096, .inl f0)), (a3, .inr (1, [.ref a4, .int v4, .int v5])), (a4, .inl (cT 0, 4096, .inl f3)), (a5, .inr (1, [.ref a6, .int v7, .int v8])), (a6, .inl (cT 0, 4096, .inl f6)), (a7, .inl (cT 3, 8, .inr (.inr (.inr (.inr rf0))))), (a8, .inr (3, [.ref a9, .ref a10, .ref p11, .ref p13, .int v15])), (a9, .inl (cT 1, 2048, .inl f9)), (a10, .inl (cT 1, 2048, .inl f10)), (p11, .inl (cT 1, 2048, .inl f12)), (p13, .inl (cT 1, 2048, .inl f14)), (a13, .inr (2, [.ref a14, .int o7.1, .int o7.2])), (a14, .inl (cT 2, 4096, .inr (.inl f16))), (qz9, .inr (4, [.null, .null, .int 0, .int 0]))] H := ⟨hP, hD⟩
    refine lv_dup hx hb dB_read_18 rfl ?_
    refine lv_aload_n hx hb dB_read_19 rfl (lv_at hl 0 rfl) ?_
    refine va_get (D := D) (ci := 0) (v := .ref a1) (C := "ValueBench") (T := TB) (N := 8) hx hb htx inB hown hK hP 0 rfl rfl 0 (by decide) (htx _ kw_1_95) (fun _ h9 => h9) rfl dB_read_20 ?_
    refine lv_aload_n hx hb dB_read_23 rfl (lv_at hl 0 rfl) ?_
    refine va_get (D := D) (ci := 0) (v := .ref a13) (C := "ValueBench") (T := TB) (N := 8) hx hb htx inB hown hK hP 0 rfl rfl 5 (by decide) (htx _ kw_1_100) (fun _ h9 => h9) rfl dB_read_24 ?_
    obtain ⟨hPc, hDc, hFc⟩ := xcut (wc := [(qz9, .inr (4, [.null, .null, .int 0, .int 0]))]) hP hD hS hA [15] rfl rfl (by decide)
    refine va_callv (va_runI (As := [.ref a1, .ref a13]) (rest := [.ref qz9, .ref a0]) ⟨hx, hb, hml, hown, htx⟩ (cD_init_0 l hl9 D cT aK aV H.size qz9 a1 a13 .null .null (.int 0) (.int 0)) ⟨callB_of 2 htx (xw_goodC kw_2_27) rfl rfl rfl (htx _ kw_1_16) (htx _ kw_2_25) ⟨by decide, by decide, by decide +kernel⟩ ⟨Nat.le_of_ble_eq_true rfl, Nat.le_of_ble_eq_true rfl⟩, rfl, (htx _ kw_2_26)⟩ ⟨xPre_blind, (fun U hU hW => ⟨rfl, xPre_of hZ hS hFc hPc hDc hK U hU hW⟩)⟩ rfl rfl hl.1 rfl (lv_room (Nat.le_of_ble_eq_true rfl)) dB_read_27 ⟨Nat.le_of_ble_eq_true rfl, Nat.le_of_ble_eq_true rfl⟩) hS (fun q _ h => hFc q h) hFc (fun u9 t H1 locs ht hvm hr9 hB hz1 hk1 hS => ?_)
    obtain ⟨hP1, hK1, hD1⟩ := hB
    rw [ht] at hP1
    obtain ⟨hP, hD⟩ := xjoin (W := [(a0, .inr (0, [.ref a1, .ref a3, .ref a5, .ref a7, .ref a8, .ref a13, .int v19, .int v20])), (a1, .inr (1, [.ref a2, .int v1, .int v2])), (a2, .inl (cT 0, 4096, .inl f0)), (a3, .inr (1, [.ref a4, .int v4, .int v5])), (a4, .inl (cT 0, 4096, .inl f3)), (a5, .inr (1, [.ref a6, .int v7, .int v8])), (a6, .inl (cT 0, 4096, .inl f6)), (a7, .inl (cT 3, 8, .inr (.inr (.inr (.inr rf0))))), (a8, .inr (3, [.ref a9, .ref a10, .ref p11, .ref p13, .int v15])), (a9, .inl (cT 1, 2048, .inl f9)), (a10, .inl (cT 1, 2048, .inl f10)), (p11, .inl (cT 1, 2048, .inl f12)), (p13, .inl (cT 1, 2048, .inl f14)), (a13, .inr (2, [.ref a14, .int o7.1, .int o7.2])), (a14, .inl (cT 2, 4096, .inr (.inl f16))), (qz9, .inr (4, [.ref a1, .ref a13, .int 0, .int (-1)]))]) hP hD [15] [0, 1, 2, 3, 4, 5, 6, 7, 8, 9, 10, 11, 12, 13, 14] 15 rfl rfl (by decide) (by decide) hk1 hFc hP1 hD1
    generalize H1 = H at hP hS ⊢
    obtain ⟨o10, hq11, hf⟩ := xbind hf
    obtain ⟨hPc, hDc, hFc⟩ := xcut (wc := [(qz9, .inr (4, [.ref a1, .ref a13, .int 0, .int (-1)])), (a1, .inr (1, [.ref a2, .int v1, .int v2])), (a2, .inl (cT 0, 4096, .inl f0)), (a13, .inr (2, [.ref a14, .int o7.1, .int o7.2])), (a14, .inl (cT 2, 4096, .inr (.inl f16)))]) hP hD hS hA [15, 1, 2, 13, 14] rfl rfl (by decide)
    refine va_calli (va_runV (C := "ValueBench$Reader") (As := []) (rest := [.ref a0]) ⟨hx, hb, hml, hown, htx⟩ (gD_readValue l hl9 D cT aK aV H.size d n qz9 a1 a2 a13 a14 f0 v1 v2 f16 o7.1 o7.2 (0 : Int32) ((-1) : Int32) o10 hq11) ⟨callB_of 0 htx (xw_goodC kw_2_45) rfl rfl rfl (htx _ kw_1_16) (htx _ kw_2_42) ⟨by decide, by decide, by decide +kernel⟩ ⟨(by show (16 * d + 2) + 1 ≤ 16 * d + 7; omega), (by show 8 + (1 + 11) + (400 * d + 41) ≤ 400 * d + 122; omega)⟩, (htx _ kw_2_43), (htx _ kw_2_44)⟩ ⟨xPre_blind, va_recv hK hP (ci := 4) rfl (q0 := 15) rfl, (fun U hU hW => ⟨rfl, xPre_of hZ hS hFc hPc hDc hK U hU hW⟩)⟩ rfl rfl hl.1 rfl (lv_room (Nat.le_of_ble_eq_true rfl)) dB_read_30 ⟨Nat.le_of_ble_eq_true rfl, Nat.le_of_ble_eq_true rfl⟩) hS (fun q _ h => hFc q h) hFc (fun r12 u9 t H1 locs ht hvm hr9 hB hz1 hk1 hS => ?_)
    obtain ⟨hP1, hK1, hD1⟩ := hB
    rw [ht] at hP1
    obtain ⟨hP, hD⟩ := xjoin (W := [(a0, .inr (0, [.ref a1, .ref a3, .ref a5, .ref a7, .ref a8, .ref a13, .int v19, .int v20])), (a3, .inr (1, [.ref a4, .int v4, .int v5])), (a4, .inl (cT 0, 4096, .inl f3)), (a5, .inr (1, [.ref a6, .int v7, .int v8])), (a6, .inl (cT 0, 4096, .inl f6)), (a7, .inl (cT 3, 8, .inr (.inr (.inr (.inr rf0))))), (a8, .inr (3, [.ref a9, .ref a10, .ref p11, .ref p13, .int v15])), (a9, .inl (cT 1, 2048, .inl f9)), (a10, .inl (cT 1, 2048, .inl f10)), (p11, .inl (cT 1, 2048, .inl f12)), (p13, .inl (cT 1, 2048, .inl f14)), (qz9, .inr (4, [.ref a1, .ref a13, .int o10.2.2.2.2.1, .int o10.2.2.2.2.2])), (a1, .inr (1, [.ref a2, .int v1, .int v2])), (a2, .inl (cT 0, 4096, .inl f0)), (a13, .inr (2, [.ref a14, .int o10.2.2.1, .int o10.2.2.2.1])), (a14, .inl (cT 2, 4096, .inr (.inl o10.2.1)))]) hP hD [15, 1, 2, 13, 14] [0, 3, 4, 5, 6, 7, 8, 9, 10, 11, 12] 11 rfl rfl (by decide) (by decide) hk1 hFc hP1 hD1
    generalize H1 = H at hP hS ⊢
    rw [hr9]
    refine W.eq (g2 := F0 m 33 ls [.int o10.1, .ref a0]) rfl ?_
    refine va_put (D := D) (ci := 0) (v := .int o10.1) (ty := .int) (C := "ValueBench") (T := TB) (N := 8) hx hb htx inB tyB tyB_ok nmB hown hK hP hD hS 0 rfl rfl 6 (by decide) (htx _ kw_1_101) (fun _ h9 => h9) rfl (by decide +kernel) rfl rfl (Nat.le_of_ble_eq_true rfl) dB_read_33 (fun H locs hP hD hS => ?_)
    obtain ⟨hP, hD⟩ : xPD D xcl A [(a0, .inr (0, [.ref a1, .ref a3, .ref a5, .ref a7, .ref a8, .ref a13, .int o10.1, .int v20])), (a3, .inr (1, [.ref a4, .int v4, .int v5])), (a4, .inl (cT 0, 4096, .inl f3)), (a5, .inr (1, [.ref a6, .int v7, .int v8])), (a6, .inl (cT 0, 4096, .inl f6)), (a7, .inl (cT 3, 8, .inr (.inr (.inr (.inr rf0))))), (a8, .inr (3, [.ref a9, .ref a10, .ref p11, .ref p13, .int v15])), (a9, .inl (cT 1, 2048, .inl f9)), (a10, .inl (cT 1, 2048, .inl f10)), (p11, .inl (cT 1, 2048, .inl f12)), (p13, .inl (cT 1, 2048, .inl f14)), (qz9, .inr (4, [.ref a1, .ref a13, .int o10.2.2.2.2.1, .int o10.2.2.2.2.2])), (a1, .inr (1, [.ref a2, .int v1, .int v2])), (a2, .inl (cT 0, 4096, .inl f0)), (a13, .inr (2, [.ref a14, .int o10.2.2.1, .int o10.2.2.2.1])), (a14, .inl (cT 2, 4096, .inr (.inl o10.2.1)))] H := ⟨hP, hD⟩
    refine lv_aload_n hx hb dB_read_36 rfl (lv_at hl 0 rfl) ?_
    refine va_get (D := D) (ci := 0) (v := .ref a1) (C := "ValueBench") (T := TB) (N := 8) hx hb htx inB hown hK hP 0 rfl rfl 0 (by decide) (htx _ kw_1_95) (fun _ h9 => h9) rfl dB_read_37 ?_
    obtain ⟨o13, hq14, hf⟩ := xbind hf
    obtain ⟨hPc, hDc, hFc⟩ := xcut (wc := [(a1, .inr (1, [.ref a2, .int v1, .int v2])), (a2, .inl (cT 0, 4096, .inl f0))]) hP hD hS hA [12, 13] rfl rfl (by decide)
    refine va_callv (va_runV (C := "ValueBench$Text") (As := []) (rest := []) ⟨hx, hb, hml, hown, htx⟩ (gT_clear l hl9 D cT aK aV H.size n a1 a2 f0 v1 v2 o13 hq14) ⟨callB_of 0 htx (xw_goodC kw_2_237) rfl rfl rfl (htx _ kw_1_2) (htx _ kw_2_234) ⟨by decide, by decide, by decide +kernel⟩ ⟨Nat.le_of_ble_eq_true rfl, Nat.le_of_ble_eq_true rfl⟩, (htx _ kw_2_235), (htx _ kw_2_236)⟩ ⟨xPre_blind, va_recv hK hP (ci := 1) rfl (q0 := 12) rfl, (fun U hU hW => ⟨rfl, xPre_of hZ hS hFc hPc hDc hK U hU hW⟩)⟩ rfl rfl hl.1 rfl (lv_room (Nat.le_of_ble_eq_true rfl)) dB_read_40 ⟨Nat.le_of_ble_eq_true rfl, Nat.le_of_ble_eq_true rfl⟩) hS (fun q _ h => hFc q h) hFc (fun u9 t H1 locs ht hvm hr9 hB hz1 hk1 hS => ?_)
    obtain ⟨hP1, hK1, hD1⟩ := hB
    rw [ht] at hP1
    obtain ⟨hP, hD⟩ := xjoin (W := [(a0, .inr (0, [.ref a1, .ref a3, .ref a5, .ref a7, .ref a8, .ref a13, .int o10.1, .int v20])), (a3, .inr (1, [.ref a4, .int v4, .int v5])), (a4, .inl (cT 0, 4096, .inl f3)), (a5, .inr (1, [.ref a6, .int v7, .int v8])), (a6, .inl (cT 0, 4096, .inl f6)), (a7, .inl (cT 3, 8, .inr (.inr (.inr (.inr rf0))))), (a8, .inr (3, [.ref a9, .ref a10, .ref p11, .ref p13, .int v15])), (a9, .inl (cT 1, 2048, .inl f9)), (a10, .inl (cT 1, 2048, .inl f10)), (p11, .inl (cT 1, 2048, .inl f12)), (p13, .inl (cT 1, 2048, .inl f14)), (qz9, .inr (4, [.ref a1, .ref a13, .int o10.2.2.2.2.1, .int o10.2.2.2.2.2])), (a13, .inr (2, [.ref a14, .int o10.2.2.1, .int o10.2.2.2.1])), (a14, .inl (cT 2, 4096, .inr (.inl o10.2.1))), (a1, .inr (1, [.ref a2, .int o13.1, .int o13.2])), (a2, .inl (cT 0, 4096, .inl f0))]) hP hD [12, 13] [0, 1, 2, 3, 4, 5, 6, 7, 8, 9, 10, 11, 14, 15] 14 rfl rfl (by decide) (by decide) hk1 hFc hP1 hD1
    generalize H1 = H at hP hS ⊢
    refine lv_aload_n hx hb dB_read_43 rfl (lv_at hl 0 rfl) ?_
    refine va_get (D := D) (ci := 0) (v := .int o10.1) (C := "ValueBench") (T := TB) (N := 8) hx hb htx inB hown hK hP 0 rfl rfl 6 (by decide) (htx _ kw_1_101) (fun _ h9 => h9) rfl dB_read_44 ?_
    refine lv_iconst (v := (-1)) hx hb dB_read_47 (by decide) ?_
    refine lv_icmp_eq (tgt := 61) hx hb dB_read_48 (by decide) (fun hc => ?_) (fun hc => ?_)
    · rw [if_pos hc] at hf
      refine lv_aload_n hx hb dB_read_61 rfl (lv_at hl 0 rfl) ?_
      refine lv_iload_n hx hb dB_read_62 rfl (lv_at hl 1 rfl) ?_
      obtain ⟨o15, hq16, hf⟩ := xbind hf
      by_cases hk17 : o15.1 = 0
      · rw [if_pos hk17] at hf
        obtain ⟨hPc, hDc, hFc⟩ := xcut (wc := [(a0, .inr (0, [.ref a1, .ref a3, .ref a5, .ref a7, .ref a8, .ref a13, .int o10.1, .int v20])), (a1, .inr (1, [.ref a2, .int o13.1, .int o13.2])), (a2, .inl (cT 0, 4096, .inl f0)), (a3, .inr (1, [.ref a4, .int v4, .int v5])), (a4, .inl (cT 0, 4096, .inl f3)), (a5, .inr (1, [.ref a6, .int v7, .int v8])), (a6, .inl (cT 0, 4096, .inl f6)), (a7, .inl (cT 3, 8, .inr (.inr (.inr (.inr rf0))))), (a8, .inr (3, [.ref a9, .ref a10, .ref p11, .ref p13, .int v15])), (a9, .inl (cT 1, 2048, .inl f9)), (a10, .inl (cT 1, 2048, .inl f10)), (p11, .inl (cT 1, 2048, .inl f12)), (p13, .inl (cT 1, 2048, .inl f14)), (a13, .inr (2, [.ref a14, .int o10.2.2.1, .int o10.2.2.2.1])), (a14, .inl (cT 2, 4096, .inr (.inl o10.2.1)))]) hP hD hS hA [0, 14, 15, 1, 2, 3, 4, 5, 6, 7, 8, 9, 10, 12, 13] rfl rfl (by decide)
        refine va_calli (va_runV (C := "ValueBench") (As := [.int x1]) (rest := []) ⟨hx, hb, hml, hown, htx⟩ (gB_keepSpare l hl9 D cT aK aV H.size d n a0 a1 a2 a3 a4 a5 a6 a7 a8 a9 a10 a13 a14 rf0 b1 x1 f0 o13.1 o13.2 f3 v4 v5 f6 v7 v8 f9 f10 p11 f12 p13 f14 v15 o10.2.1 o10.2.2.1 o10.2.2.2.1 o10.1 v20 hr1 o15 hq16 hk17) ⟨callB_of 1 htx (xw_goodC kw_3_17) rfl rfl rfl (htx _ kw_1_1) (htx _ kw_3_14) ⟨by decide, by decide, by decide +kernel⟩ ⟨(by show (16 * d + 6) + 1 ≤ 16 * d + 7; omega), (by show 8 + (3 + 11) + (400 * d + 100) ≤ 400 * d + 122; omega)⟩, (htx _ kw_3_16), (htx _ kp_B_keepSpare)⟩ ⟨xPre_blind, va_recv hK hP (ci := 0) rfl (q0 := 0) rfl, (fun U hU hW => ⟨rfl, xPre_of hZ hS hFc hPc hDc hK U hU hW⟩)⟩ rfl rfl hl.1 rfl (lv_room (Nat.le_of_ble_eq_true rfl)) dB_read_63 ⟨Nat.le_of_ble_eq_true rfl, Nat.le_of_ble_eq_true rfl⟩) hS (fun q _ h => hFc q h) hFc (fun r18 u9 t H1 locs ht hvm hr9 hB hz1 hk1 hS => ?_)
        obtain ⟨hP1, hK1, hD1⟩ := hB
        rw [ht] at hP1
        obtain ⟨hP, hD⟩ := xjoin (W := [(qz9, .inr (4, [.ref a1, .ref a13, .int o10.2.2.2.2.1, .int o10.2.2.2.2.2])), (a0, .inr (0, [.ref a1, .ref a3, .ref a5, .ref a7, .ref a8, .ref b1, .int o10.1, .int v20])), (a1, .inr (1, [.ref a2, .int o13.1, .int o13.2])), (a2, .inl (cT 0, 4096, .inl f0)), (a3, .inr (1, [.ref a4, .int v4, .int v5])), (a4, .inl (cT 0, 4096, .inl f3)), (a5, .inr (1, [.ref a6, .int o15.2.2.2.1, .int o15.2.2.2.2])), (a6, .inl (cT 0, 4096, .inl o15.2.2.1)), (a7, .inl (cT 3, 8, .inr (.inr (.inr (.inr (va_up rf0 x1.toNatClampNeg (some a13))))))), (a8, .inr (3, [.ref a9, .ref a10, .ref p11, .ref p13, .int v15])), (a9, .inl (cT 1, 2048, .inl f9)), (a10, .inl (cT 1, 2048, .inl f10)), (p11, .inl (cT 1, 2048, .inl f12)), (p13, .inl (cT 1, 2048, .inl f14)), (a13, .inr (2, [.ref a14, .int o10.2.2.1, .int o10.2.2.2.1])), (a14, .inl (cT 2, 4096, .inr (.inl o10.2.1)))]) hP hD [0, 14, 15, 1, 2, 3, 4, 5, 6, 7, 8, 9, 10, 12, 13] [11] 1 rfl rfl (by decide) (by decide) hk1 hFc hP1 hD1
        generalize H1 = H at hP hS ⊢
        rw [hr9]
        refine W.eq (g2 := F0 m 66 ls [.int o15.2.1]) rfl ?_
        obtain rfl := Option.some.inj hf
        exact absurd (show (0 : Nat) = 1 from hkd) (by decide)
      rw [if_neg hk17] at hf
      by_cases hk19 : o15.1 = 1
      · rw [if_pos hk19] at hf
        obtain ⟨hPc, hDc, hFc⟩ := xcut (wc := [(a0, .inr (0, [.ref a1, .ref a3, .ref a5, .ref a7, .ref a8, .ref a13, .int o10.1, .int v20])), (a1, .inr (1, [.ref a2, .int o13.1, .int o13.2])), (a2, .inl (cT 0, 4096, .inl f0)), (a3, .inr (1, [.ref a4, .int v4, .int v5])), (a4, .inl (cT 0, 4096, .inl f3)), (a5, .inr (1, [.ref a6, .int v7, .int v8])), (a6, .inl (cT 0, 4096, .inl f6)), (a7, .inl (cT 3, 8, .inr (.inr (.inr (.inr rf0))))), (a8, .inr (3, [.ref a9, .ref a10, .ref p11, .ref p13, .int v15])), (a9, .inl (cT 1, 2048, .inl f9)), (a10, .inl (cT 1, 2048, .inl f10)), (p11, .inl (cT 1, 2048, .inl f12)), (p13, .inl (cT 1, 2048, .inl f14)), (a13, .inr (2, [.ref a14, .int o10.2.2.1, .int o10.2.2.2.1])), (a14, .inl (cT 2, 4096, .inr (.inl o10.2.1)))]) hP hD hS hA [0, 14, 15, 1, 2, 3, 4, 5, 6, 7, 8, 9, 10, 12, 13] rfl rfl (by decide)
        refine xx_thr (vx_runV (C := "ValueBench") (As := [.int x1]) (rest := []) ⟨hx, hb, hml, hown, htx⟩ (gB_keepSpare_1 l hl9 D cT aK aV H.size d n a0 a1 a2 a3 a4 a5 a6 a7 a8 a9 a10 a13 a14 rf0 b1 x1 f0 o13.1 o13.2 f3 v4 v5 f6 v7 v8 f9 f10 p11 f12 p13 f14 v15 o10.2.1 o10.2.2.1 o10.2.2.2.1 o10.1 v20 hr1 o15 hq16 hk19) ⟨callB_of 1 htx (xw_goodC kw_3_17) rfl rfl rfl (htx _ kw_1_1) (htx _ kw_3_14) ⟨by decide, by decide, by decide +kernel⟩ ⟨(by show (16 * d + 6) + 1 ≤ 16 * d + 7; omega), (by show 8 + (3 + 11) + (400 * d + 100) ≤ 400 * d + 122; omega)⟩, (htx _ kw_3_16), (htx _ kp_B_keepSpare)⟩ ⟨xPre_blind, va_recv hK hP (ci := 0) rfl (q0 := 0) rfl, (fun U hU hW => ⟨rfl, xPre_of hZ hS hFc hPc hDc hK U hU hW⟩)⟩ rfl rfl hl.1 rfl (lv_room (Nat.le_of_ble_eq_true rfl)) dB_read_63 ⟨Nat.le_of_ble_eq_true rfl, Nat.le_of_ble_eq_true rfl⟩) hS hFc (fun q _ h => hFc q h) (fun E ce q9 u9 t H1 locs ht hvm _ hB hz1 hk1 hS hce hcv hcl => ?_)
        obtain ⟨rfl, hP1, hK1, hD1⟩ := hB
        rw [ht] at hP1
        obtain ⟨hP, hD⟩ := xjoin (W := [(qz9, .inr (4, [.ref a1, .ref a13, .int o10.2.2.2.2.1, .int o10.2.2.2.2.2])), (a0, .inr (0, [.ref a1, .ref a3, .ref a5, .ref a7, .ref a8, .ref a13, .int o10.1, .int v20])), (a1, .inr (1, [.ref a2, .int o13.1, .int o13.2])), (a2, .inl (cT 0, 4096, .inl f0)), (a3, .inr (1, [.ref a4, .int v4, .int v5])), (a4, .inl (cT 0, 4096, .inl f3)), (a5, .inr (1, [.ref a6, .int o15.2.2.2.1, .int o15.2.2.2.2])), (a6, .inl (cT 0, 4096, .inl o15.2.2.1)), (a7, .inl (cT 3, 8, .inr (.inr (.inr (.inr rf0))))), (a8, .inr (3, [.ref a9, .ref a10, .ref p11, .ref p13, .int v15])), (a9, .inl (cT 1, 2048, .inl f9)), (a10, .inl (cT 1, 2048, .inl f10)), (p11, .inl (cT 1, 2048, .inl f12)), (p13, .inl (cT 1, 2048, .inl f14)), (a13, .inr (2, [.ref a14, .int o10.2.2.1, .int o10.2.2.2.1])), (a14, .inl (cT 2, 4096, .inr (.inl o10.2.1)))]) hP hD [0, 14, 15, 1, 2, 3, 4, 5, 6, 7, 8, 9, 10, 12, 13] [11] 1 rfl rfl (by decide) (by decide) hk1 hFc hP1 hD1
        generalize H1 = H at hP hS hce ⊢
        obtain rfl := Option.some.inj hf
        obtain ⟨hP9, hD9⟩ := xsub (wc := [(a0, .inr (0, [.ref a1, .ref a3, .ref a5, .ref a7, .ref a8, .ref a13, .int o10.1, .int v20])), (a1, .inr (1, [.ref a2, .int o13.1, .int o13.2])), (a2, .inl (cT 0, 4096, .inl f0)), (a3, .inr (1, [.ref a4, .int v4, .int v5])), (a4, .inl (cT 0, 4096, .inl f3)), (a5, .inr (1, [.ref a6, .int o15.2.2.2.1, .int o15.2.2.2.2])), (a6, .inl (cT 0, 4096, .inl o15.2.2.1)), (a7, .inl (cT 3, 8, .inr (.inr (.inr (.inr rf0))))), (a8, .inr (3, [.ref a9, .ref a10, .ref p11, .ref p13, .int v15])), (a9, .inl (cT 1, 2048, .inl f9)), (a10, .inl (cT 1, 2048, .inl f10)), (p11, .inl (cT 1, 2048, .inl f12)), (p13, .inl (cT 1, 2048, .inl f14)), (a13, .inr (2, [.ref a14, .int o10.2.2.1, .int o10.2.2.2.1])), (a14, .inl (cT 2, 4096, .inr (.inl o10.2.1)))]) hP hD [1, 2, 3, 4, 5, 6, 7, 8, 9, 10, 11, 12, 13, 14, 15] rfl rfl (by decide)
        exact vx_out (E := "java/lang/IndexOutOfBoundsException") (fun x h => (hne x h).elim) hlocks hce hcv hcl (fun t ht ha => ⟨(), trivial, ⟨rfl, by rw [ht]; exact hP9, va_K.moved ha hK, hD9⟩, hS.F ht⟩) hS.2.2 (Nat.le_of_ble_eq_true rfl) (Nat.le_of_ble_eq_true rfl)
      rw [if_neg hk19] at hf
      exact nomatch hf
    · rw [if_neg hc] at hf
      obtain rfl := Option.some.inj hf
      exact absurd (show (2 : Nat) = 1 from hkd) (by decide)
  rw [if_neg hk6] at hf
  by_cases hk15 : o4 = 1
  · rw [if_pos hk15] at hf
    obtain rfl := Option.some.inj hf
    exact absurd (show (3 : Nat) = 1 from hkd) (by decide)
  rw [if_neg hk15] at hf
  exact nomatch hf
set_option maxHeartbeats 400000000 in
set_option maxRecDepth 100000 in
theorem gB_read_2 (l : Launch) (hl9 : l.stackTraces = false) (D : va_G) (cT : Nat → ClassId) (aK aV : Nat → Nat) (sz d n : Nat) (a0 : Nat) (a1 : Nat) (a2 : Nat) (a3 : Nat) (a4 : Nat) (a5 : Nat) (a6 : Nat) (a7 : Nat) (a8 : Nat) (a9 : Nat) (a10 : Nat) (a13 : Nat) (a14 : Nat) (rf0 : Nat → Option Nat) (b1 : Nat) (x1 : Int32) (f0 : Nat → Int32) (v1 : Int32) (v2 : Int32) (f3 : Nat → Int32) (v4 : Int32) (v5 : Int32) (f6 : Nat → Int32) (v7 : Int32) (v8 : Int32) (f9 : Nat → Int32) (f10 : Nat → Int32) (p11 : Nat) (f12 : Nat → Int32) (p13 : Nat) (f14 : Nat → Int32) (v15 : Int32) (f16 : Nat → Int64) (v17 : Int32) (v18 : Int32) (v19 : Int32) (v20 : Int32) (hr1 : ¬ (x1 < 0 ∨ 8 ≤ x1.toNatClampNeg) → rf0 x1.toNatClampNeg = some b1) (out : Nat × Int32 × Int32 × Int32 × (Nat → Int32) × Int32 × Int32 × (Nat → Int64) × Int32 × Int32 × Int32) (hf : fB_read d n x1 f0 v1 v2 f3 v4 v5 f6 v7 v8 f9 f10 p11 f12 p13 f14 v15 f16 v17 v18 v19 v20 = some out) (hkd : out.1 = 2) : xMetX l yB_read wyB_read (16 * d + 7) 3 16 (400 * d + 122) D cT aK aV sz [.ref a0, .int x1] [(a0, .inr (0, [.ref a1, .ref a3, .ref a5, .ref a7, .ref a8, .ref a13, .int v19, .int v20])), (a1, .inr (1, [.ref a2, .int v1, .int v2])), (a2, .inl (cT 0, 4096, .inl f0)), (a3, .inr (1, [.ref a4, .int v4, .int v5])), (a4, .inl (cT 0, 4096, .inl f3)), (a5, .inr (1, [.ref a6, .int v7, .int v8])), (a6, .inl (cT 0, 4096, .inl f6)), (a7, .inl (cT 3, 8, .inr (.inr (.inr (.inr rf0))))), (a8, .inr (3, [.ref a9, .ref a10, .ref p11, .ref p13, .int v15])), (a9, .inl (cT 1, 2048, .inl f9)), (a10, .inl (cT 1, 2048, .inl f10)), (p11, .inl (cT 1, 2048, .inl f12)), (p13, .inl (cT 1, 2048, .inl f14)), (a13, .inr (2, [.ref a14, .int v17, .int v18])), (a14, .inl (cT 2, 4096, .inr (.inl f16)))] "java/lang/UnsupportedOperationException" (fun A t => xB D xcl cT A [(a0, .inr (0, [.ref a1, .ref a3, .ref a5, .ref a7, .ref a8, .ref a13, .int out.2.2.2.2.2.2.2.2.2.2, .int v20])), (a1, .inr (1, [.ref a2, .int out.2.2.1, .int out.2.2.2.1])), (a2, .inl (cT 0, 4096, .inl f0)), (a3, .inr (1, [.ref a4, .int v4, .int v5])), (a4, .inl (cT 0, 4096, .inl f3)), (a5, .inr (1, [.ref a6, .int out.2.2.2.2.2.1, .int out.2.2.2.2.2.2.1])), (a6, .inl (cT 0, 4096, .inl out.2.2.2.2.1)), (a7, .inl (cT 3, 8, .inr (.inr (.inr (.inr rf0))))), (a8, .inr (3, [.ref a9, .ref a10, .ref p11, .ref p13, .int v15])), (a9, .inl (cT 1, 2048, .inl f9)), (a10, .inl (cT 1, 2048, .inl f10)), (p11, .inl (cT 1, 2048, .inl f12)), (p13, .inl (cT 1, 2048, .inl f14)), (a13, .inr (2, [.ref a14, .int out.2.2.2.2.2.2.2.2.1, .int out.2.2.2.2.2.2.2.2.2.1])), (a14, .inl (cT 2, 4096, .inr (.inl out.2.2.2.2.2.2.2.1)))] t) := by
  refine vx_ofW (cc := prog_1_method_4_code) (maxL := 2) (ret := (some .int)) (by decide) rfl ?_
  intro p e s m args below meth c s₁ B hml hne hv
  obtain ⟨rfl, hsz, hZ, hP, hK, hD0⟩ := hv
  have hx := B.exec
  have hb := B.bytes
  have hr := B.returns
  have hts := atoms_spec (ws := wyB_read) B.pre
  have htx := fun w h => hts w (List.mem_cons_of_mem _ h)
  have hown : s.vm.findClass "ValueBench" = some m.cls := findClass_of_methodNamed B.named
  have hlocks := B.notSynchronized
  subst hsz
  have hD := hD0.self (sz := s.heap.size)
  generalize hAe : va_A [(a0, .inr (0, [.ref a1, .ref a3, .ref a5, .ref a7, .ref a8, .ref a13, .int v19, .int v20])), (a1, .inr (1, [.ref a2, .int v1, .int v2])), (a2, .inl (cT 0, 4096, .inl f0)), (a3, .inr (1, [.ref a4, .int v4, .int v5])), (a4, .inl (cT 0, 4096, .inl f3)), (a5, .inr (1, [.ref a6, .int v7, .int v8])), (a6, .inl (cT 0, 4096, .inl f6)), (a7, .inl (cT 3, 8, .inr (.inr (.inr (.inr rf0))))), (a8, .inr (3, [.ref a9, .ref a10, .ref p11, .ref p13, .int v15])), (a9, .inl (cT 1, 2048, .inl f9)), (a10, .inl (cT 1, 2048, .inl f10)), (p11, .inl (cT 1, 2048, .inl f12)), (p13, .inl (cT 1, 2048, .inl f14)), (a13, .inr (2, [.ref a14, .int v17, .int v18])), (a14, .inl (cT 2, 4096, .inr (.inl f16)))] s.heap.size = A at hD hZ ⊢
  have hA : ∀ q : Nat, s.heap.size ≤ q → A q := fun q h => by rw [← hAe]; exact Or.inr h
  have hS : va_S A s.heap s.heap [] := va_S.rf
  have hP : va_P D xcl [(a0, .inr (0, [.ref a1, .ref a3, .ref a5, .ref a7, .ref a8, .ref a13, .int v19, .int v20])), (a1, .inr (1, [.ref a2, .int v1, .int v2])), (a2, .inl (cT 0, 4096, .inl f0)), (a3, .inr (1, [.ref a4, .int v4, .int v5])), (a4, .inl (cT 0, 4096, .inl f3)), (a5, .inr (1, [.ref a6, .int v7, .int v8])), (a6, .inl (cT 0, 4096, .inl f6)), (a7, .inl (cT 3, 8, .inr (.inr (.inr (.inr rf0))))), (a8, .inr (3, [.ref a9, .ref a10, .ref p11, .ref p13, .int v15])), (a9, .inl (cT 1, 2048, .inl f9)), (a10, .inl (cT 1, 2048, .inl f10)), (p11, .inl (cT 1, 2048, .inl f12)), (p13, .inl (cT 1, 2048, .inl f14)), (a13, .inr (2, [.ref a14, .int v17, .int v18])), (a14, .inl (cT 2, 4096, .inr (.inl f16)))] s.heap := hP
  have hl := lv_entry ([.ref a0, .int x1]) (n := 2) (Nat.le_of_ble_eq_true rfl)
  rw [lg_entry_eq]
  generalize (lg_sl ([.ref a0, .int x1]) ++ List.replicate (2 - (lg_sl ([.ref a0, .int x1])).length) Slot.unset).toArray = ls at hl ⊢
  have hl : lv_has ls 2 [(0, .ref a0), (1, .int x1)] := hl
  unfold fB_read at hf
  refine lv_iload_n hx hb dB_read_0 rfl (lv_at hl 1 rfl) ?_
  obtain ⟨o1, hq2, hf⟩ := xbind hf
  obtain ⟨hPc, hDc, hFc⟩ := xcut (wc := []) hP hD hS hA [] rfl rfl (by decide)
  refine va_calli (va_runS (As := [.int x1]) (rest := []) ⟨hx, hb, hml, hown, htx⟩ (gB_isRegister l hl9 D cT aK aV s.heap.size n x1 o1 hq2) ⟨callB_of 1 htx (xw_goodC kw_2_18) rfl rfl rfl (htx _ kw_1_1) (htx _ kw_2_16) ⟨by decide, by decide, by decide +kernel⟩ ⟨Nat.le_of_ble_eq_true rfl, Nat.le_of_ble_eq_true rfl⟩, htx _ kw_2_17⟩ ⟨xPre_blind, (fun U hU hW => ⟨rfl, xPre_of hZ hS hFc hPc hDc hK U hU hW⟩)⟩ rfl rfl hl.1 rfl (lv_room (Nat.le_of_ble_eq_true rfl)) dB_read_1 ⟨Nat.le_of_ble_eq_true rfl, Nat.le_of_ble_eq_true rfl⟩) hS (fun q _ h => hFc q h) hFc (fun r3 u9 t H1 locs ht hvm hr9 hB hz1 hk1 hS => ?_)
  obtain ⟨hP1, hK1, hD1⟩ := hB
  rw [ht] at hP1
  obtain ⟨hP, hD⟩ := xjoin (W := [(a0, .inr (0, [.ref a1, .ref a3, .ref a5, .ref a7, .ref a8, .ref a13, .int v19, .int v20])), (a1, .inr (1, [.ref a2, .int v1, .int v2])), (a2, .inl (cT 0, 4096, .inl f0)), (a3, .inr (1, [.ref a4, .int v4, .int v5])), (a4, .inl (cT 0, 4096, .inl f3)), (a5, .inr (1, [.ref a6, .int v7, .int v8])), (a6, .inl (cT 0, 4096, .inl f6)), (a7, .inl (cT 3, 8, .inr (.inr (.inr (.inr rf0))))), (a8, .inr (3, [.ref a9, .ref a10, .ref p11, .ref p13, .int v15])), (a9, .inl (cT 1, 2048, .inl f9)), (a10, .inl (cT 1, 2048, .inl f10)), (p11, .inl (cT 1, 2048, .inl f12)), (p13, .inl (cT 1, 2048, .inl f14)), (a13, .inr (2, [.ref a14, .int v17, .int v18])), (a14, .inl (cT 2, 4096, .inr (.inl f16)))]) hP hD [] [0, 1, 2, 3, 4, 5, 6, 7, 8, 9, 10, 11, 12, 13, 14] 15 rfl rfl (by decide) (by decide) hk1 hFc hP1 hD1
  generalize H1 = H at hP hS ⊢
  rw [hr9]
  refine W.eq (g2 := F0 m 4 ls [.int o1]) rfl ?_
  obtain ⟨o4, hq5, hf⟩ := xbind hf
  by_cases hk6 : o4 = 0
  · rw [if_pos hk6] at hf
    obtain ⟨hPc, hDc, hFc⟩ := xcut (wc := []) hP hD hS hA [] rfl rfl (by decide)
    refine va_callv (va_runS (As := [.int o1]) (rest := []) ⟨hx, hb, hml, hown, htx⟩ (gB_demand l hl9 D cT aK aV H.size n o1 o4 hq5 hk6) ⟨callB_of 1 htx (xw_goodC kw_1_221) rfl rfl rfl (htx _ kw_1_1) (htx _ kw_1_219) ⟨by decide, by decide, by decide +kernel⟩ ⟨Nat.le_of_ble_eq_true rfl, Nat.le_of_ble_eq_true rfl⟩, htx _ kw_1_220⟩ ⟨xPre_blind, (fun U hU hW => ⟨rfl, xPre_of hZ hS hFc hPc hDc hK U hU hW⟩)⟩ rfl rfl hl.1 rfl (lv_room (Nat.le_of_ble_eq_true rfl)) dB_read_4 ⟨Nat.le_of_ble_eq_true rfl, Nat.le_of_ble_eq_true rfl⟩) hS (fun q _ h => hFc q h) hFc (fun u9 t H1 locs ht hvm hr9 hB hz1 hk1 hS => ?_)
    obtain ⟨hP1, hK1, hD1⟩ := hB
    rw [ht] at hP1
    obtain ⟨hP, hD⟩ := xjoin (W := [(a0, .inr (0, [.ref a1, .ref a3, .ref a5, .ref a7, .ref a8, .ref a13, .int v19, .int v20])), (a1, .inr (1, [.ref a2, .int v1, .int v2])), (a2, .inl (cT 0, 4096, .inl f0)), (a3, .inr (1, [.ref a4, .int v4, .int v5])), (a4, .inl (cT 0, 4096, .inl f3)), (a5, .inr (1, [.ref a6, .int v7, .int v8])), (a6, .inl (cT 0, 4096, .inl f6)), (a7, .inl (cT 3, 8, .inr (.inr (.inr (.inr rf0))))), (a8, .inr (3, [.ref a9, .ref a10, .ref p11, .ref p13, .int v15])), (a9, .inl (cT 1, 2048, .inl f9)), (a10, .inl (cT 1, 2048, .inl f10)), (p11, .inl (cT 1, 2048, .inl f12)), (p13, .inl (cT 1, 2048, .inl f14)), (a13, .inr (2, [.ref a14, .int v17, .int v18])), (a14, .inl (cT 2, 4096, .inr (.inl f16)))]) hP hD [] [0, 1, 2, 3, 4, 5, 6, 7, 8, 9, 10, 11, 12, 13, 14] 15 rfl rfl (by decide) (by decide) hk1 hFc hP1 hD1
    generalize H1 = H at hP hS ⊢
    refine lv_aload_n hx hb dB_read_7 rfl (lv_at hl 0 rfl) ?_
    refine va_get (D := D) (ci := 0) (v := .ref a13) (C := "ValueBench") (T := TB) (N := 8) hx hb htx inB hown hK hP 0 rfl rfl 5 (by decide) (htx _ kw_1_100) (fun _ h9 => h9) rfl dB_read_8 ?_
    obtain ⟨o7, hq8, hf⟩ := xbind hf
    obtain ⟨hPc, hDc, hFc⟩ := xcut (wc := [(a13, .inr (2, [.ref a14, .int v17, .int v18])), (a14, .inl (cT 2, 4096, .inr (.inl f16)))]) hP hD hS hA [13, 14] rfl rfl (by decide)
    refine va_callv (va_runV (C := "ValueBench$Row") (As := []) (rest := []) ⟨hx, hb, hml, hown, htx⟩ (gR_clear l hl9 D cT aK aV H.size n a13 a14 f16 v17 v18 o7 hq8) ⟨callB_of 0 htx (xw_goodC kw_2_22) rfl rfl rfl (htx _ kw_1_4) (htx _ kw_2_19) ⟨by decide, by decide, by decide +kernel⟩ ⟨Nat.le_of_ble_eq_true rfl, Nat.le_of_ble_eq_true rfl⟩, (htx _ kw_2_20), (htx _ kw_2_21)⟩ ⟨xPre_blind, va_recv hK hP (ci := 2) rfl (q0 := 13) rfl, (fun U hU hW => ⟨rfl, xPre_of hZ hS hFc hPc hDc hK U hU hW⟩)⟩ rfl rfl hl.1 rfl (lv_room (Nat.le_of_ble_eq_true rfl)) dB_read_11 ⟨Nat.le_of_ble_eq_true rfl, Nat.le_of_ble_eq_true rfl⟩) hS (fun q _ h => hFc q h) hFc (fun u9 t H1 locs ht hvm hr9 hB hz1 hk1 hS => ?_)
    obtain ⟨hP1, hK1, hD1⟩ := hB
    rw [ht] at hP1
    obtain ⟨hP, hD⟩ := xjoin (W := [(a0, .inr (0, [.ref a1, .ref a3, .ref a5, .ref a7, .ref a8, .ref a13, .int v19, .int v20])), (a1, .inr (1, [.ref a2, .int v1, .int v2])), (a2, .inl (cT 0, 4096, .inl f0)), (a3, .inr (1, [.ref a4, .int v4, .int v5])), (a4, .inl (cT 0, 4096, .inl f3)), (a5, .inr (1, [.ref a6, .int v7, .int v8])), (a6, .inl (cT 0, 4096, .inl f6)), (a7, .inl (cT 3, 8, .inr (.inr (.inr (.inr rf0))))), (a8, .inr (3, [.ref a9, .ref a10, .ref p11, .ref p13, .int v15])), (a9, .inl (cT 1, 2048, .inl f9)), (a10, .inl (cT 1, 2048, .inl f10)), (p11, .inl (cT 1, 2048, .inl f12)), (p13, .inl (cT 1, 2048, .inl f14)), (a13, .inr (2, [.ref a14, .int o7.1, .int o7.2])), (a14, .inl (cT 2, 4096, .inr (.inl f16)))]) hP hD [13, 14] [0, 1, 2, 3, 4, 5, 6, 7, 8, 9, 10, 11, 12] 13 rfl rfl (by decide) (by decide) hk1 hFc hP1 hD1
    generalize H1 = H at hP hS ⊢
    refine lv_aload_n hx hb dB_read_14 rfl (lv_at hl 0 rfl) ?_
    refine va_new (ci := 4) (fs := [.null, .null, .int 0, .int 0]) (C := "ValueBench$Reader") (T := TD) (N := 4) hx hb htx inD tyD tyD_ok hown (htx _ kw_2_23) (htx _ kw_2_24) (htx _ kw_1_16) hK hP hD hS hA rfl (by decide +kernel) (Nat.le_of_ble_eq_true rfl) (Nat.le_of_ble_eq_true rfl) dB_read_15 (fun qz9 H hP hD hS => ?_)
    obtain ⟨hP, hD⟩ : xPD D xcl A [(a0, .inr (0, [.ref a1, .ref a3, .ref a5, .ref a7, .ref a8, .ref a13, .int v19, .int v20])), (a1, .inr (1, [.ref a2, .int v1, .int v2])), (a2, .inl (cT 0, 4096, .inl f0)), (a3, .inr (1, [.ref a4, .int v4, .int v5])), (a4, .inl (cT 0, 4096, .inl f3)), (a5, .inr (1, [.ref a6, .int v7, .int v8])), (a6, .inl (cT 0, 4096, .inl f6)), (a7, .inl (cT 3, 8, .inr (.inr (.inr (.inr rf0))))), (a8, .inr (3, [.ref a9, .ref a10, .ref p11, .ref p13, .int v15])), (a9, .inl (cT 1, 2048, .inl f9)), (a10, .inl (cT 1, 2048, .inl f10)), (p11, .inl (cT 1, 2048, .inl f12)), (p13, .inl (cT 1, 2048, .inl f14)), (a13, .inr (2, [.ref a14, .int o7.1, .int o7.2])), (a14, .inl (cT 2, 4096, .inr (.inl f16))), (qz9, .inr (4, [.null, .null, .int 0, .int 0]))] H := ⟨hP, hD⟩
    refine lv_dup hx hb dB_read_18 rfl ?_
    refine lv_aload_n hx hb dB_read_19 rfl (lv_at hl 0 rfl) ?_
    refine va_get (D := D) (ci := 0) (v := .ref a1) (C := "ValueBench") (T := TB) (N := 8) hx hb htx inB hown hK hP 0 rfl rfl 0 (by decide) (htx _ kw_1_95) (fun _ h9 => h9) rfl dB_read_20 ?_
    refine lv_aload_n hx hb dB_read_23 rfl (lv_at hl 0 rfl) ?_
    refine va_get (D := D) (ci := 0) (v := .ref a13) (C := "ValueBench") (T := TB) (N := 8) hx hb htx inB hown hK hP 0 rfl rfl 5 (by decide) (htx _ kw_1_100) (fun _ h9 => h9) rfl dB_read_24 ?_
    obtain ⟨hPc, hDc, hFc⟩ := xcut (wc := [(qz9, .inr (4, [.null, .null, .int 0, .int 0]))]) hP hD hS hA [15] rfl rfl (by decide)
    refine va_callv (va_runI (As := [.ref a1, .ref a13]) (rest := [.ref qz9, .ref a0]) ⟨hx, hb, hml, hown, htx⟩ (cD_init_0 l hl9 D cT aK aV H.size qz9 a1 a13 .null .null (.int 0) (.int 0)) ⟨callB_of 2 htx (xw_goodC kw_2_27) rfl rfl rfl (htx _ kw_1_16) (htx _ kw_2_25) ⟨by decide, by decide, by decide +kernel⟩ ⟨Nat.le_of_ble_eq_true rfl, Nat.le_of_ble_eq_true rfl⟩, rfl, (htx _ kw_2_26)⟩ ⟨xPre_blind, (fun U hU hW => ⟨rfl, xPre_of hZ hS hFc hPc hDc hK U hU hW⟩)⟩ rfl rfl hl.1 rfl (lv_room (Nat.le_of_ble_eq_true rfl)) dB_read_27 ⟨Nat.le_of_ble_eq_true rfl, Nat.le_of_ble_eq_true rfl⟩) hS (fun q _ h => hFc q h) hFc (fun u9 t H1 locs ht hvm hr9 hB hz1 hk1 hS => ?_)
    obtain ⟨hP1, hK1, hD1⟩ := hB
    rw [ht] at hP1
    obtain ⟨hP, hD⟩ := xjoin (W := [(a0, .inr (0, [.ref a1, .ref a3, .ref a5, .ref a7, .ref a8, .ref a13, .int v19, .int v20])), (a1, .inr (1, [.ref a2, .int v1, .int v2])), (a2, .inl (cT 0, 4096, .inl f0)), (a3, .inr (1, [.ref a4, .int v4, .int v5])), (a4, .inl (cT 0, 4096, .inl f3)), (a5, .inr (1, [.ref a6, .int v7, .int v8])), (a6, .inl (cT 0, 4096, .inl f6)), (a7, .inl (cT 3, 8, .inr (.inr (.inr (.inr rf0))))), (a8, .inr (3, [.ref a9, .ref a10, .ref p11, .ref p13, .int v15])), (a9, .inl (cT 1, 2048, .inl f9)), (a10, .inl (cT 1, 2048, .inl f10)), (p11, .inl (cT 1, 2048, .inl f12)), (p13, .inl (cT 1, 2048, .inl f14)), (a13, .inr (2, [.ref a14, .int o7.1, .int o7.2])), (a14, .inl (cT 2, 4096, .inr (.inl f16))), (qz9, .inr (4, [.ref a1, .ref a13, .int 0, .int (-1)]))]) hP hD [15] [0, 1, 2, 3, 4, 5, 6, 7, 8, 9, 10, 11, 12, 13, 14] 15 rfl rfl (by decide) (by decide) hk1 hFc hP1 hD1
    generalize H1 = H at hP hS ⊢
    obtain ⟨o10, hq11, hf⟩ := xbind hf
    obtain ⟨hPc, hDc, hFc⟩ := xcut (wc := [(qz9, .inr (4, [.ref a1, .ref a13, .int 0, .int (-1)])), (a1, .inr (1, [.ref a2, .int v1, .int v2])), (a2, .inl (cT 0, 4096, .inl f0)), (a13, .inr (2, [.ref a14, .int o7.1, .int o7.2])), (a14, .inl (cT 2, 4096, .inr (.inl f16)))]) hP hD hS hA [15, 1, 2, 13, 14] rfl rfl (by decide)
    refine va_calli (va_runV (C := "ValueBench$Reader") (As := []) (rest := [.ref a0]) ⟨hx, hb, hml, hown, htx⟩ (gD_readValue l hl9 D cT aK aV H.size d n qz9 a1 a2 a13 a14 f0 v1 v2 f16 o7.1 o7.2 (0 : Int32) ((-1) : Int32) o10 hq11) ⟨callB_of 0 htx (xw_goodC kw_2_45) rfl rfl rfl (htx _ kw_1_16) (htx _ kw_2_42) ⟨by decide, by decide, by decide +kernel⟩ ⟨(by show (16 * d + 2) + 1 ≤ 16 * d + 7; omega), (by show 8 + (1 + 11) + (400 * d + 41) ≤ 400 * d + 122; omega)⟩, (htx _ kw_2_43), (htx _ kw_2_44)⟩ ⟨xPre_blind, va_recv hK hP (ci := 4) rfl (q0 := 15) rfl, (fun U hU hW => ⟨rfl, xPre_of hZ hS hFc hPc hDc hK U hU hW⟩)⟩ rfl rfl hl.1 rfl (lv_room (Nat.le_of_ble_eq_true rfl)) dB_read_30 ⟨Nat.le_of_ble_eq_true rfl, Nat.le_of_ble_eq_true rfl⟩) hS (fun q _ h => hFc q h) hFc (fun r12 u9 t H1 locs ht hvm hr9 hB hz1 hk1 hS => ?_)
    obtain ⟨hP1, hK1, hD1⟩ := hB
    rw [ht] at hP1
    obtain ⟨hP, hD⟩ := xjoin (W := [(a0, .inr (0, [.ref a1, .ref a3, .ref a5, .ref a7, .ref a8, .ref a13, .int v19, .int v20])), (a3, .inr (1, [.ref a4, .int v4, .int v5])), (a4, .inl (cT 0, 4096, .inl f3)), (a5, .inr (1, [.ref a6, .int v7, .int v8])), (a6, .inl (cT 0, 4096, .inl f6)), (a7, .inl (cT 3, 8, .inr (.inr (.inr (.inr rf0))))), (a8, .inr (3, [.ref a9, .ref a10, .ref p11, .ref p13, .int v15])), (a9, .inl (cT 1, 2048, .inl f9)), (a10, .inl (cT 1, 2048, .inl f10)), (p11, .inl (cT 1, 2048, .inl f12)), (p13, .inl (cT 1, 2048, .inl f14)), (qz9, .inr (4, [.ref a1, .ref a13, .int o10.2.2.2.2.1, .int o10.2.2.2.2.2])), (a1, .inr (1, [.ref a2, .int v1, .int v2])), (a2, .inl (cT 0, 4096, .inl f0)), (a13, .inr (2, [.ref a14, .int o10.2.2.1, .int o10.2.2.2.1])), (a14, .inl (cT 2, 4096, .inr (.inl o10.2.1)))]) hP hD [15, 1, 2, 13, 14] [0, 3, 4, 5, 6, 7, 8, 9, 10, 11, 12] 11 rfl rfl (by decide) (by decide) hk1 hFc hP1 hD1
    generalize H1 = H at hP hS ⊢
    rw [hr9]
    refine W.eq (g2 := F0 m 33 ls [.int o10.1, .ref a0]) rfl ?_
    refine va_put (D := D) (ci := 0) (v := .int o10.1) (ty := .int) (C := "ValueBench") (T := TB) (N := 8) hx hb htx inB tyB tyB_ok nmB hown hK hP hD hS 0 rfl rfl 6 (by decide) (htx _ kw_1_101) (fun _ h9 => h9) rfl (by decide +kernel) rfl rfl (Nat.le_of_ble_eq_true rfl) dB_read_33 (fun H locs hP hD hS => ?_)
    obtain ⟨hP, hD⟩ : xPD D xcl A [(a0, .inr (0, [.ref a1, .ref a3, .ref a5, .ref a7, .ref a8, .ref a13, .int o10.1, .int v20])), (a3, .inr (1, [.ref a4, .int v4, .int v5])), (a4, .inl (cT 0, 4096, .inl f3)), (a5, .inr (1, [.ref a6, .int v7, .int v8])), (a6, .inl (cT 0, 4096, .inl f6)), (a7, .inl (cT 3, 8, .inr (.inr (.inr (.inr rf0))))), (a8, .inr (3, [.ref a9, .ref a10, .ref p11, .ref p13, .int v15])), (a9, .inl (cT 1, 2048, .inl f9)), (a10, .inl (cT 1, 2048, .inl f10)), (p11, .inl (cT 1, 2048, .inl f12)), (p13, .inl (cT 1, 2048, .inl f14)), (qz9, .inr (4, [.ref a1, .ref a13, .int o10.2.2.2.2.1, .int o10.2.2.2.2.2])), (a1, .inr (1, [.ref a2, .int v1, .int v2])), (a2, .inl (cT 0, 4096, .inl f0)), (a13, .inr (2, [.ref a14, .int o10.2.2.1, .int o10.2.2.2.1])), (a14, .inl (cT 2, 4096, .inr (.inl o10.2.1)))] H := ⟨hP, hD⟩
    refine lv_aload_n hx hb dB_read_36 rfl (lv_at hl 0 rfl) ?_
    refine va_get (D := D) (ci := 0) (v := .ref a1) (C := "ValueBench") (T := TB) (N := 8) hx hb htx inB hown hK hP 0 rfl rfl 0 (by decide) (htx _ kw_1_95) (fun _ h9 => h9) rfl dB_read_37 ?_
    obtain ⟨o13, hq14, hf⟩ := xbind hf
    obtain ⟨hPc, hDc, hFc⟩ := xcut (wc := [(a1, .inr (1, [.ref a2, .int v1, .int v2])), (a2, .inl (cT 0, 4096, .inl f0))]) hP hD hS hA [12, 13] rfl rfl (by decide)
    refine va_callv (va_runV (C := "ValueBench$Text") (As := []) (rest := []) ⟨hx, hb, hml, hown, htx⟩ (gT_clear l hl9 D cT aK aV H.size n a1 a2 f0 v1 v2 o13 hq14) ⟨callB_of 0 htx (xw_goodC kw_2_237) rfl rfl rfl (htx _ kw_1_2) (htx _ kw_2_234) ⟨by decide, by decide, by decide +kernel⟩ ⟨Nat.le_of_ble_eq_true rfl, Nat.le_of_ble_eq_true rfl⟩, (htx _ kw_2_235), (htx _ kw_2_236)⟩ ⟨xPre_blind, va_recv hK hP (ci := 1) rfl (q0 := 12) rfl, (fun U hU hW => ⟨rfl, xPre_of hZ hS hFc hPc hDc hK U hU hW⟩)⟩ rfl rfl hl.1 rfl (lv_room (Nat.le_of_ble_eq_true rfl)) dB_read_40 ⟨Nat.le_of_ble_eq_true rfl, Nat.le_of_ble_eq_true rfl⟩) hS (fun q _ h => hFc q h) hFc (fun u9 t H1 locs ht hvm hr9 hB hz1 hk1 hS => ?_)
    obtain ⟨hP1, hK1, hD1⟩ := hB
    rw [ht] at hP1
    obtain ⟨hP, hD⟩ := xjoin (W := [(a0, .inr (0, [.ref a1, .ref a3, .ref a5, .ref a7, .ref a8, .ref a13, .int o10.1, .int v20])), (a3, .inr (1, [.ref a4, .int v4, .int v5])), (a4, .inl (cT 0, 4096, .inl f3)), (a5, .inr (1, [.ref a6, .int v7, .int v8])), (a6, .inl (cT 0, 4096, .inl f6)), (a7, .inl (cT 3, 8, .inr (.inr (.inr (.inr rf0))))), (a8, .inr (3, [.ref a9, .ref a10, .ref p11, .ref p13, .int v15])), (a9, .inl (cT 1, 2048, .inl f9)), (a10, .inl (cT 1, 2048, .inl f10)), (p11, .inl (cT 1, 2048, .inl f12)), (p13, .inl (cT 1, 2048, .inl f14)), (qz9, .inr (4, [.ref a1, .ref a13, .int o10.2.2.2.2.1, .int o10.2.2.2.2.2])), (a13, .inr (2, [.ref a14, .int o10.2.2.1, .int o10.2.2.2.1])), (a14, .inl (cT 2, 4096, .inr (.inl o10.2.1))), (a1, .inr (1, [.ref a2, .int o13.1, .int o13.2])), (a2, .inl (cT 0, 4096, .inl f0))]) hP hD [12, 13] [0, 1, 2, 3, 4, 5, 6, 7, 8, 9, 10, 11, 14, 15] 14 rfl rfl (by decide) (by decide) hk1 hFc hP1 hD1
    generalize H1 = H at hP hS ⊢
    refine lv_aload_n hx hb dB_read_43 rfl (lv_at hl 0 rfl) ?_
    refine va_get (D := D) (ci := 0) (v := .int o10.1) (C := "ValueBench") (T := TB) (N := 8) hx hb htx inB hown hK hP 0 rfl rfl 6 (by decide) (htx _ kw_1_101) (fun _ h9 => h9) rfl dB_read_44 ?_
    refine lv_iconst (v := (-1)) hx hb dB_read_47 (by decide) ?_
    refine lv_icmp_eq (tgt := 61) hx hb dB_read_48 (by decide) (fun hc => ?_) (fun hc => ?_)
    · rw [if_pos hc] at hf
      refine lv_aload_n hx hb dB_read_61 rfl (lv_at hl 0 rfl) ?_
      refine lv_iload_n hx hb dB_read_62 rfl (lv_at hl 1 rfl) ?_
      obtain ⟨o15, hq16, hf⟩ := xbind hf
      by_cases hk17 : o15.1 = 0
      · rw [if_pos hk17] at hf
        obtain ⟨hPc, hDc, hFc⟩ := xcut (wc := [(a0, .inr (0, [.ref a1, .ref a3, .ref a5, .ref a7, .ref a8, .ref a13, .int o10.1, .int v20])), (a1, .inr (1, [.ref a2, .int o13.1, .int o13.2])), (a2, .inl (cT 0, 4096, .inl f0)), (a3, .inr (1, [.ref a4, .int v4, .int v5])), (a4, .inl (cT 0, 4096, .inl f3)), (a5, .inr (1, [.ref a6, .int v7, .int v8])), (a6, .inl (cT 0, 4096, .inl f6)), (a7, .inl (cT 3, 8, .inr (.inr (.inr (.inr rf0))))), (a8, .inr (3, [.ref a9, .ref a10, .ref p11, .ref p13, .int v15])), (a9, .inl (cT 1, 2048, .inl f9)), (a10, .inl (cT 1, 2048, .inl f10)), (p11, .inl (cT 1, 2048, .inl f12)), (p13, .inl (cT 1, 2048, .inl f14)), (a13, .inr (2, [.ref a14, .int o10.2.2.1, .int o10.2.2.2.1])), (a14, .inl (cT 2, 4096, .inr (.inl o10.2.1)))]) hP hD hS hA [0, 14, 15, 1, 2, 3, 4, 5, 6, 7, 8, 9, 10, 12, 13] rfl rfl (by decide)
        refine va_calli (va_runV (C := "ValueBench") (As := [.int x1]) (rest := []) ⟨hx, hb, hml, hown, htx⟩ (gB_keepSpare l hl9 D cT aK aV H.size d n a0 a1 a2 a3 a4 a5 a6 a7 a8 a9 a10 a13 a14 rf0 b1 x1 f0 o13.1 o13.2 f3 v4 v5 f6 v7 v8 f9 f10 p11 f12 p13 f14 v15 o10.2.1 o10.2.2.1 o10.2.2.2.1 o10.1 v20 hr1 o15 hq16 hk17) ⟨callB_of 1 htx (xw_goodC kw_3_17) rfl rfl rfl (htx _ kw_1_1) (htx _ kw_3_14) ⟨by decide, by decide, by decide +kernel⟩ ⟨(by show (16 * d + 6) + 1 ≤ 16 * d + 7; omega), (by show 8 + (3 + 11) + (400 * d + 100) ≤ 400 * d + 122; omega)⟩, (htx _ kw_3_16), (htx _ kp_B_keepSpare)⟩ ⟨xPre_blind, va_recv hK hP (ci := 0) rfl (q0 := 0) rfl, (fun U hU hW => ⟨rfl, xPre_of hZ hS hFc hPc hDc hK U hU hW⟩)⟩ rfl rfl hl.1 rfl (lv_room (Nat.le_of_ble_eq_true rfl)) dB_read_63 ⟨Nat.le_of_ble_eq_true rfl, Nat.le_of_ble_eq_true rfl⟩) hS (fun q _ h => hFc q h) hFc (fun r18 u9 t H1 locs ht hvm hr9 hB hz1 hk1 hS => ?_)
        obtain ⟨hP1, hK1, hD1⟩ := hB
        rw [ht] at hP1
        obtain ⟨hP, hD⟩ := xjoin (W := [(qz9, .inr (4, [.ref a1, .ref a13, .int o10.2.2.2.2.1, .int o10.2.2.2.2.2])), (a0, .inr (0, [.ref a1, .ref a3, .ref a5, .ref a7, .ref a8, .ref b1, .int o10.1, .int v20])), (a1, .inr (1, [.ref a2, .int o13.1, .int o13.2])), (a2, .inl (cT 0, 4096, .inl f0)), (a3, .inr (1, [.ref a4, .int v4, .int v5])), (a4, .inl (cT 0, 4096, .inl f3)), (a5, .inr (1, [.ref a6, .int o15.2.2.2.1, .int o15.2.2.2.2])), (a6, .inl (cT 0, 4096, .inl o15.2.2.1)), (a7, .inl (cT 3, 8, .inr (.inr (.inr (.inr (va_up rf0 x1.toNatClampNeg (some a13))))))), (a8, .inr (3, [.ref a9, .ref a10, .ref p11, .ref p13, .int v15])), (a9, .inl (cT 1, 2048, .inl f9)), (a10, .inl (cT 1, 2048, .inl f10)), (p11, .inl (cT 1, 2048, .inl f12)), (p13, .inl (cT 1, 2048, .inl f14)), (a13, .inr (2, [.ref a14, .int o10.2.2.1, .int o10.2.2.2.1])), (a14, .inl (cT 2, 4096, .inr (.inl o10.2.1)))]) hP hD [0, 14, 15, 1, 2, 3, 4, 5, 6, 7, 8, 9, 10, 12, 13] [11] 1 rfl rfl (by decide) (by decide) hk1 hFc hP1 hD1
        generalize H1 = H at hP hS ⊢
        rw [hr9]
        refine W.eq (g2 := F0 m 66 ls [.int o15.2.1]) rfl ?_
        obtain rfl := Option.some.inj hf
        exact absurd (show (0 : Nat) = 2 from hkd) (by decide)
      rw [if_neg hk17] at hf
      by_cases hk19 : o15.1 = 1
      · rw [if_pos hk19] at hf
        obtain rfl := Option.some.inj hf
        exact absurd (show (1 : Nat) = 2 from hkd) (by decide)
      rw [if_neg hk19] at hf
      exact nomatch hf
    · rw [if_neg hc] at hf
      obtain rfl := Option.some.inj hf
      obtain ⟨hP9, hD9⟩ := xsub (wc := [(a0, .inr (0, [.ref a1, .ref a3, .ref a5, .ref a7, .ref a8, .ref a13, .int o10.1, .int v20])), (a1, .inr (1, [.ref a2, .int o13.1, .int o13.2])), (a2, .inl (cT 0, 4096, .inl f0)), (a3, .inr (1, [.ref a4, .int v4, .int v5])), (a4, .inl (cT 0, 4096, .inl f3)), (a5, .inr (1, [.ref a6, .int v7, .int v8])), (a6, .inl (cT 0, 4096, .inl f6)), (a7, .inl (cT 3, 8, .inr (.inr (.inr (.inr rf0))))), (a8, .inr (3, [.ref a9, .ref a10, .ref p11, .ref p13, .int v15])), (a9, .inl (cT 1, 2048, .inl f9)), (a10, .inl (cT 1, 2048, .inl f10)), (p11, .inl (cT 1, 2048, .inl f12)), (p13, .inl (cT 1, 2048, .inl f14)), (a13, .inr (2, [.ref a14, .int o10.2.2.1, .int o10.2.2.2.1])), (a14, .inl (cT 2, 4096, .inr (.inl o10.2.1)))]) hP hD [0, 14, 15, 1, 2, 3, 4, 5, 6, 7, 8, 9, 10, 12, 13] rfl rfl (by decide)
      exact vx_throwS (own := "ValueBench") (cls := "java/lang/UnsupportedOperationException") (text := "broken JSON") (sa := aK 1) (names := ["java/lang/RuntimeException", "java/lang/Exception"]) hx hb hl9 hown (by decide +kernel) (by decide +kernel) (htx _ kw_2_238) (htx _ kw_1_17) (hZ.2.2.2.2.2.2.2.2.1 ("ValueBench", 91, "broken JSON", 1) (List.mem_of_getElem? (i := 1) rfl)) (vx_hat (B := [.castable "java/lang/UnsupportedOperationException" "java/lang/UnsupportedOperationException", .declares ⟨"java/lang/RuntimeException", "<init>", "(Ljava/lang/String;)V"⟩, .declares ⟨"java/lang/Exception", "<init>", "(Ljava/lang/String;)V"⟩, .declares ⟨"java/lang/Throwable", "<init>", "(Ljava/lang/String;)V"⟩]) (fun w h => htx w (xat_B_89_93 w h)) xat_B_89_93_b (vx_c ((hZ.2.2.2.2.2.1 "java/lang/UnsupportedOperationException" (List.mem_of_getElem? (i := 2) rfl)).use rfl) (vx_c ((hZ.2.2.2.2.2.2.1 ⟨"java/lang/RuntimeException", "<init>", "(Ljava/lang/String;)V"⟩ (List.mem_of_getElem? (i := 3) rfl)).use rfl) (vx_c ((hZ.2.2.2.2.2.2.1 ⟨"java/lang/Exception", "<init>", "(Ljava/lang/String;)V"⟩ (List.mem_of_getElem? (i := 4) rfl)).use rfl) (vx_c ((hZ.2.2.2.2.2.2.1 ⟨"java/lang/Throwable", "<init>", "(Ljava/lang/String;)V"⟩ (List.mem_of_getElem? (i := 5) rfl)).use rfl) vx_n))))) xat_B_89_93_g hZ.2.2.2.1 hZ.2.2.2.2.1 hS (hl.1.trans hml.symm) dB_read_51 dB_read_54 dB_read_55 dB_read_57 dB_read_60 (fun x h => (hne x h).elim) (Nat.le_of_ble_eq_true rfl) (Nat.le_of_ble_eq_true rfl) (Nat.le_of_ble_eq_true rfl) (Nat.le_of_ble_eq_true rfl) hlocks (fun t ha hz hk => ⟨(), trivial, ⟨rfl, xx_keepP hP9 hk, va_K.moved ha hK, hD9⟩, xx_grown hS hz hk⟩) hS.2.2 (Nat.le_of_ble_eq_true rfl) (Nat.le_of_ble_eq_true rfl)
  rw [if_neg hk6] at hf
  by_cases hk15 : o4 = 1
  · rw [if_pos hk15] at hf
    obtain rfl := Option.some.inj hf
    exact absurd (show (3 : Nat) = 2 from hkd) (by decide)
  rw [if_neg hk15] at hf
  exact nomatch hf
set_option maxHeartbeats 400000000 in
set_option maxRecDepth 100000 in
theorem gB_read_3 (l : Launch) (hl9 : l.stackTraces = false) (D : va_G) (cT : Nat → ClassId) (aK aV : Nat → Nat) (sz d n : Nat) (a0 : Nat) (a1 : Nat) (a2 : Nat) (a3 : Nat) (a4 : Nat) (a5 : Nat) (a6 : Nat) (a7 : Nat) (a8 : Nat) (a9 : Nat) (a10 : Nat) (a13 : Nat) (a14 : Nat) (rf0 : Nat → Option Nat) (b1 : Nat) (x1 : Int32) (f0 : Nat → Int32) (v1 : Int32) (v2 : Int32) (f3 : Nat → Int32) (v4 : Int32) (v5 : Int32) (f6 : Nat → Int32) (v7 : Int32) (v8 : Int32) (f9 : Nat → Int32) (f10 : Nat → Int32) (p11 : Nat) (f12 : Nat → Int32) (p13 : Nat) (f14 : Nat → Int32) (v15 : Int32) (f16 : Nat → Int64) (v17 : Int32) (v18 : Int32) (v19 : Int32) (v20 : Int32) (hr1 : ¬ (x1 < 0 ∨ 8 ≤ x1.toNatClampNeg) → rf0 x1.toNatClampNeg = some b1) (out : Nat × Int32 × Int32 × Int32 × (Nat → Int32) × Int32 × Int32 × (Nat → Int64) × Int32 × Int32 × Int32) (hf : fB_read d n x1 f0 v1 v2 f3 v4 v5 f6 v7 v8 f9 f10 p11 f12 p13 f14 v15 f16 v17 v18 v19 v20 = some out) (hkd : out.1 = 3) : xMetX l yB_read wyB_read (16 * d + 7) 3 16 (400 * d + 122) D cT aK aV sz [.ref a0, .int x1] [(a0, .inr (0, [.ref a1, .ref a3, .ref a5, .ref a7, .ref a8, .ref a13, .int v19, .int v20])), (a1, .inr (1, [.ref a2, .int v1, .int v2])), (a2, .inl (cT 0, 4096, .inl f0)), (a3, .inr (1, [.ref a4, .int v4, .int v5])), (a4, .inl (cT 0, 4096, .inl f3)), (a5, .inr (1, [.ref a6, .int v7, .int v8])), (a6, .inl (cT 0, 4096, .inl f6)), (a7, .inl (cT 3, 8, .inr (.inr (.inr (.inr rf0))))), (a8, .inr (3, [.ref a9, .ref a10, .ref p11, .ref p13, .int v15])), (a9, .inl (cT 1, 2048, .inl f9)), (a10, .inl (cT 1, 2048, .inl f10)), (p11, .inl (cT 1, 2048, .inl f12)), (p13, .inl (cT 1, 2048, .inl f14)), (a13, .inr (2, [.ref a14, .int v17, .int v18])), (a14, .inl (cT 2, 4096, .inr (.inl f16)))] "java/lang/IllegalArgumentException" (fun A t => xB D xcl cT A [(a0, .inr (0, [.ref a1, .ref a3, .ref a5, .ref a7, .ref a8, .ref a13, .int out.2.2.2.2.2.2.2.2.2.2, .int v20])), (a1, .inr (1, [.ref a2, .int out.2.2.1, .int out.2.2.2.1])), (a2, .inl (cT 0, 4096, .inl f0)), (a3, .inr (1, [.ref a4, .int v4, .int v5])), (a4, .inl (cT 0, 4096, .inl f3)), (a5, .inr (1, [.ref a6, .int out.2.2.2.2.2.1, .int out.2.2.2.2.2.2.1])), (a6, .inl (cT 0, 4096, .inl out.2.2.2.2.1)), (a7, .inl (cT 3, 8, .inr (.inr (.inr (.inr rf0))))), (a8, .inr (3, [.ref a9, .ref a10, .ref p11, .ref p13, .int v15])), (a9, .inl (cT 1, 2048, .inl f9)), (a10, .inl (cT 1, 2048, .inl f10)), (p11, .inl (cT 1, 2048, .inl f12)), (p13, .inl (cT 1, 2048, .inl f14)), (a13, .inr (2, [.ref a14, .int out.2.2.2.2.2.2.2.2.1, .int out.2.2.2.2.2.2.2.2.2.1])), (a14, .inl (cT 2, 4096, .inr (.inl out.2.2.2.2.2.2.2.1)))] t) := by
  refine vx_ofW (cc := prog_1_method_4_code) (maxL := 2) (ret := (some .int)) (by decide) rfl ?_
  intro p e s m args below meth c s₁ B hml hne hv
  obtain ⟨rfl, hsz, hZ, hP, hK, hD0⟩ := hv
  have hx := B.exec
  have hb := B.bytes
  have hr := B.returns
  have hts := atoms_spec (ws := wyB_read) B.pre
  have htx := fun w h => hts w (List.mem_cons_of_mem _ h)
  have hown : s.vm.findClass "ValueBench" = some m.cls := findClass_of_methodNamed B.named
  have hlocks := B.notSynchronized
  subst hsz
  have hD := hD0.self (sz := s.heap.size)
  generalize hAe : va_A [(a0, .inr (0, [.ref a1, .ref a3, .ref a5, .ref a7, .ref a8, .ref a13, .int v19, .int v20])), (a1, .inr (1, [.ref a2, .int v1, .int v2])), (a2, .inl (cT 0, 4096, .inl f0)), (a3, .inr (1, [.ref a4, .int v4, .int v5])), (a4, .inl (cT 0, 4096, .inl f3)), (a5, .inr (1, [.ref a6, .int v7, .int v8])), (a6, .inl (cT 0, 4096, .inl f6)), (a7, .inl (cT 3, 8, .inr (.inr (.inr (.inr rf0))))), (a8, .inr (3, [.ref a9, .ref a10, .ref p11, .ref p13, .int v15])), (a9, .inl (cT 1, 2048, .inl f9)), (a10, .inl (cT 1, 2048, .inl f10)), (p11, .inl (cT 1, 2048, .inl f12)), (p13, .inl (cT 1, 2048, .inl f14)), (a13, .inr (2, [.ref a14, .int v17, .int v18])), (a14, .inl (cT 2, 4096, .inr (.inl f16)))] s.heap.size = A at hD hZ ⊢
  have hA : ∀ q : Nat, s.heap.size ≤ q → A q := fun q h => by rw [← hAe]; exact Or.inr h
  have hS : va_S A s.heap s.heap [] := va_S.rf
  have hP : va_P D xcl [(a0, .inr (0, [.ref a1, .ref a3, .ref a5, .ref a7, .ref a8, .ref a13, .int v19, .int v20])), (a1, .inr (1, [.ref a2, .int v1, .int v2])), (a2, .inl (cT 0, 4096, .inl f0)), (a3, .inr (1, [.ref a4, .int v4, .int v5])), (a4, .inl (cT 0, 4096, .inl f3)), (a5, .inr (1, [.ref a6, .int v7, .int v8])), (a6, .inl (cT 0, 4096, .inl f6)), (a7, .inl (cT 3, 8, .inr (.inr (.inr (.inr rf0))))), (a8, .inr (3, [.ref a9, .ref a10, .ref p11, .ref p13, .int v15])), (a9, .inl (cT 1, 2048, .inl f9)), (a10, .inl (cT 1, 2048, .inl f10)), (p11, .inl (cT 1, 2048, .inl f12)), (p13, .inl (cT 1, 2048, .inl f14)), (a13, .inr (2, [.ref a14, .int v17, .int v18])), (a14, .inl (cT 2, 4096, .inr (.inl f16)))] s.heap := hP
  have hl := lv_entry ([.ref a0, .int x1]) (n := 2) (Nat.le_of_ble_eq_true rfl)
  rw [lg_entry_eq]
  generalize (lg_sl ([.ref a0, .int x1]) ++ List.replicate (2 - (lg_sl ([.ref a0, .int x1])).length) Slot.unset).toArray = ls at hl ⊢
  have hl : lv_has ls 2 [(0, .ref a0), (1, .int x1)] := hl
  unfold fB_read at hf
  refine lv_iload_n hx hb dB_read_0 rfl (lv_at hl 1 rfl) ?_
  obtain ⟨o1, hq2, hf⟩ := xbind hf
  obtain ⟨hPc, hDc, hFc⟩ := xcut (wc := []) hP hD hS hA [] rfl rfl (by decide)
  refine va_calli (va_runS (As := [.int x1]) (rest := []) ⟨hx, hb, hml, hown, htx⟩ (gB_isRegister l hl9 D cT aK aV s.heap.size n x1 o1 hq2) ⟨callB_of 1 htx (xw_goodC kw_2_18) rfl rfl rfl (htx _ kw_1_1) (htx _ kw_2_16) ⟨by decide, by decide, by decide +kernel⟩ ⟨Nat.le_of_ble_eq_true rfl, Nat.le_of_ble_eq_true rfl⟩, htx _ kw_2_17⟩ ⟨xPre_blind, (fun U hU hW => ⟨rfl, xPre_of hZ hS hFc hPc hDc hK U hU hW⟩)⟩ rfl rfl hl.1 rfl (lv_room (Nat.le_of_ble_eq_true rfl)) dB_read_1 ⟨Nat.le_of_ble_eq_true rfl, Nat.le_of_ble_eq_true rfl⟩) hS (fun q _ h => hFc q h) hFc (fun r3 u9 t H1 locs ht hvm hr9 hB hz1 hk1 hS => ?_)
  obtain ⟨hP1, hK1, hD1⟩ := hB
  rw [ht] at hP1
  obtain ⟨hP, hD⟩ := xjoin (W := [(a0, .inr (0, [.ref a1, .ref a3, .ref a5, .ref a7, .ref a8, .ref a13, .int v19, .int v20])), (a1, .inr (1, [.ref a2, .int v1, .int v2])), (a2, .inl (cT 0, 4096, .inl f0)), (a3, .inr (1, [.ref a4, .int v4, .int v5])), (a4, .inl (cT 0, 4096, .inl f3)), (a5, .inr (1, [.ref a6, .int v7, .int v8])), (a6, .inl (cT 0, 4096, .inl f6)), (a7, .inl (cT 3, 8, .inr (.inr (.inr (.inr rf0))))), (a8, .inr (3, [.ref a9, .ref a10, .ref p11, .ref p13, .int v15])), (a9, .inl (cT 1, 2048, .inl f9)), (a10, .inl (cT 1, 2048, .inl f10)), (p11, .inl (cT 1, 2048, .inl f12)), (p13, .inl (cT 1, 2048, .inl f14)), (a13, .inr (2, [.ref a14, .int v17, .int v18])), (a14, .inl (cT 2, 4096, .inr (.inl f16)))]) hP hD [] [0, 1, 2, 3, 4, 5, 6, 7, 8, 9, 10, 11, 12, 13, 14] 15 rfl rfl (by decide) (by decide) hk1 hFc hP1 hD1
  generalize H1 = H at hP hS ⊢
  rw [hr9]
  refine W.eq (g2 := F0 m 4 ls [.int o1]) rfl ?_
  obtain ⟨o4, hq5, hf⟩ := xbind hf
  by_cases hk6 : o4 = 0
  · rw [if_pos hk6] at hf
    obtain ⟨hPc, hDc, hFc⟩ := xcut (wc := []) hP hD hS hA [] rfl rfl (by decide)
    refine va_callv (va_runS (As := [.int o1]) (rest := []) ⟨hx, hb, hml, hown, htx⟩ (gB_demand l hl9 D cT aK aV H.size n o1 o4 hq5 hk6) ⟨callB_of 1 htx (xw_goodC kw_1_221) rfl rfl rfl (htx _ kw_1_1) (htx _ kw_1_219) ⟨by decide, by decide, by decide +kernel⟩ ⟨Nat.le_of_ble_eq_true rfl, Nat.le_of_ble_eq_true rfl⟩, htx _ kw_1_220⟩ ⟨xPre_blind, (fun U hU hW => ⟨rfl, xPre_of hZ hS hFc hPc hDc hK U hU hW⟩)⟩ rfl rfl hl.1 rfl (lv_room (Nat.le_of_ble_eq_true rfl)) dB_read_4 ⟨Nat.le_of_ble_eq_true rfl, Nat.le_of_ble_eq_true rfl⟩) hS (fun q _ h => hFc q h) hFc (fun u9 t H1 locs ht hvm hr9 hB hz1 hk1 hS => ?_)
    obtain ⟨hP1, hK1, hD1⟩ := hB
    rw [ht] at hP1
    obtain ⟨hP, hD⟩ := xjoin (W := [(a0, .inr (0, [.ref a1, .ref a3, .ref a5, .ref a7, .ref a8, .ref a13, .int v19, .int v20])), (a1, .inr (1, [.ref a2, .int v1, .int v2])), (a2, .inl (cT 0, 4096, .inl f0)), (a3, .inr (1, [.ref a4, .int v4, .int v5])), (a4, .inl (cT 0, 4096, .inl f3)), (a5, .inr (1, [.ref a6, .int v7, .int v8])), (a6, .inl (cT 0, 4096, .inl f6)), (a7, .inl (cT 3, 8, .inr (.inr (.inr (.inr rf0))))), (a8, .inr (3, [.ref a9, .ref a10, .ref p11, .ref p13, .int v15])), (a9, .inl (cT 1, 2048, .inl f9)), (a10, .inl (cT 1, 2048, .inl f10)), (p11, .inl (cT 1, 2048, .inl f12)), (p13, .inl (cT 1, 2048, .inl f14)), (a13, .inr (2, [.ref a14, .int v17, .int v18])), (a14, .inl (cT 2, 4096, .inr (.inl f16)))]) hP hD [] [0, 1, 2, 3, 4, 5, 6, 7, 8, 9, 10, 11, 12, 13, 14] 15 rfl rfl (by decide) (by decide) hk1 hFc hP1 hD1
    generalize H1 = H at hP hS ⊢
    refine lv_aload_n hx hb dB_read_7 rfl (lv_at hl 0 rfl) ?_
    refine va_get (D := D) (ci := 0) (v := .ref a13) (C := "ValueBench") (T := TB) (N := 8) hx hb htx inB hown hK hP 0 rfl rfl 5 (by decide) (htx _ kw_1_100) (fun _ h9 => h9) rfl dB_read_8 ?_
    obtain ⟨o7, hq8, hf⟩ := xbind hf
    obtain ⟨hPc, hDc, hFc⟩ := xcut (wc := [(a13, .inr (2, [.ref a14, .int v17, .int v18])), (a14, .inl (cT 2, 4096, .inr (.inl f16)))]) hP hD hS hA [13, 14] rfl rfl (by decide)
    refine va_callv (va_runV (C := "ValueBench$Row") (As := []) (rest := []) ⟨hx, hb, hml, hown, htx⟩ (gR_clear l hl9 D cT aK aV H.size n a13 a14 f16 v17 v18 o7 hq8) ⟨callB_of 0 htx (xw_goodC kw_2_22) rfl rfl rfl (htx _ kw_1_4) (htx _ kw_2_19) ⟨by decide, by decide, by decide +kernel⟩ ⟨Nat.le_of_ble_eq_true rfl, Nat.le_of_ble_eq_true rfl⟩, (htx _ kw_2_20), (htx _ kw_2_21)⟩ ⟨xPre_blind, va_recv hK hP (ci := 2) rfl (q0 := 13) rfl, (fun U hU hW => ⟨rfl, xPre_of hZ hS hFc hPc hDc hK U hU hW⟩)⟩ rfl rfl hl.1 rfl (lv_room (Nat.le_of_ble_eq_true rfl)) dB_read_11 ⟨Nat.le_of_ble_eq_true rfl, Nat.le_of_ble_eq_true rfl⟩) hS (fun q _ h => hFc q h) hFc (fun u9 t H1 locs ht hvm hr9 hB hz1 hk1 hS => ?_)
    obtain ⟨hP1, hK1, hD1⟩ := hB
    rw [ht] at hP1
    obtain ⟨hP, hD⟩ := xjoin (W := [(a0, .inr (0, [.ref a1, .ref a3, .ref a5, .ref a7, .ref a8, .ref a13, .int v19, .int v20])), (a1, .inr (1, [.ref a2, .int v1, .int v2])), (a2, .inl (cT 0, 4096, .inl f0)), (a3, .inr (1, [.ref a4, .int v4, .int v5])), (a4, .inl (cT 0, 4096, .inl f3)), (a5, .inr (1, [.ref a6, .int v7, .int v8])), (a6, .inl (cT 0, 4096, .inl f6)), (a7, .inl (cT 3, 8, .inr (.inr (.inr (.inr rf0))))), (a8, .inr (3, [.ref a9, .ref a10, .ref p11, .ref p13, .int v15])), (a9, .inl (cT 1, 2048, .inl f9)), (a10, .inl (cT 1, 2048, .inl f10)), (p11, .inl (cT 1, 2048, .inl f12)), (p13, .inl (cT 1, 2048, .inl f14)), (a13, .inr (2, [.ref a14, .int o7.1, .int o7.2])), (a14, .inl (cT 2, 4096, .inr (.inl f16)))]) hP hD [13, 14] [0, 1, 2, 3, 4, 5, 6, 7, 8, 9, 10, 11, 12] 13 rfl rfl (by decide) (by decide) hk1 hFc hP1 hD1
    generalize H1 = H at hP hS ⊢
    refine lv_aload_n hx hb dB_read_14 rfl (lv_at hl 0 rfl) ?_
    refine va_new (ci := 4) (fs := [.null, .null, .int 0, .int 0]) (C := "ValueBench$Reader") (T := TD) (N := 4) hx hb htx inD tyD tyD_ok hown (htx _ kw_2_23) (htx _ kw_2_24) (htx _ kw_1_16) hK hP hD hS hA rfl (by decide +kernel) (Nat.le_of_ble_eq_true rfl) (Nat.le_of_ble_eq_true rfl) dB_read_15 (fun qz9 H hP hD hS => ?_)
    obtain ⟨hP, hD⟩ : xPD D xcl A [(a0, .inr (0, [.ref a1, .ref a3, .ref a5, .ref a7, .ref a8, .ref a13, .int v19, .int v20])), (a1, .inr (1, [.ref a2, .int v1, .int v2])), (a2, .inl (cT 0, 4096, .inl f0)), (a3, .inr (1, [.ref a4, .int v4, .int v5])), (a4, .inl (cT 0, 4096, .inl f3)), (a5, .inr (1, [.ref a6, .int v7, .int v8])), (a6, .inl (cT 0, 4096, .inl f6)), (a7, .inl (cT 3, 8, .inr (.inr (.inr (.inr rf0))))), (a8, .inr (3, [.ref a9, .ref a10, .ref p11, .ref p13, .int v15])), (a9, .inl (cT 1, 2048, .inl f9)), (a10, .inl (cT 1, 2048, .inl f10)), (p11, .inl (cT 1, 2048, .inl f12)), (p13, .inl (cT 1, 2048, .inl f14)), (a13, .inr (2, [.ref a14, .int o7.1, .int o7.2])), (a14, .inl (cT 2, 4096, .inr (.inl f16))), (qz9, .inr (4, [.null, .null, .int 0, .int 0]))] H := ⟨hP, hD⟩
    refine lv_dup hx hb dB_read_18 rfl ?_
    refine lv_aload_n hx hb dB_read_19 rfl (lv_at hl 0 rfl) ?_
    refine va_get (D := D) (ci := 0) (v := .ref a1) (C := "ValueBench") (T := TB) (N := 8) hx hb htx inB hown hK hP 0 rfl rfl 0 (by decide) (htx _ kw_1_95) (fun _ h9 => h9) rfl dB_read_20 ?_
    refine lv_aload_n hx hb dB_read_23 rfl (lv_at hl 0 rfl) ?_
    refine va_get (D := D) (ci := 0) (v := .ref a13) (C := "ValueBench") (T := TB) (N := 8) hx hb htx inB hown hK hP 0 rfl rfl 5 (by decide) (htx _ kw_1_100) (fun _ h9 => h9) rfl dB_read_24 ?_
    obtain ⟨hPc, hDc, hFc⟩ := xcut (wc := [(qz9, .inr (4, [.null, .null, .int 0, .int 0]))]) hP hD hS hA [15] rfl rfl (by decide)
    refine va_callv (va_runI (As := [.ref a1, .ref a13]) (rest := [.ref qz9, .ref a0]) ⟨hx, hb, hml, hown, htx⟩ (cD_init_0 l hl9 D cT aK aV H.size qz9 a1 a13 .null .null (.int 0) (.int 0)) ⟨callB_of 2 htx (xw_goodC kw_2_27) rfl rfl rfl (htx _ kw_1_16) (htx _ kw_2_25) ⟨by decide, by decide, by decide +kernel⟩ ⟨Nat.le_of_ble_eq_true rfl, Nat.le_of_ble_eq_true rfl⟩, rfl, (htx _ kw_2_26)⟩ ⟨xPre_blind, (fun U hU hW => ⟨rfl, xPre_of hZ hS hFc hPc hDc hK U hU hW⟩)⟩ rfl rfl hl.1 rfl (lv_room (Nat.le_of_ble_eq_true rfl)) dB_read_27 ⟨Nat.le_of_ble_eq_true rfl, Nat.le_of_ble_eq_true rfl⟩) hS (fun q _ h => hFc q h) hFc (fun u9 t H1 locs ht hvm hr9 hB hz1 hk1 hS => ?_)
    obtain ⟨hP1, hK1, hD1⟩ := hB
    rw [ht] at hP1
    obtain ⟨hP, hD⟩ := xjoin (W := [(a0, .inr (0, [.ref a1, .ref a3, .ref a5, .ref a7, .ref a8, .ref a13, .int v19, .int v20])), (a1, .inr (1, [.ref a2, .int v1, .int v2])), (a2, .inl (cT 0, 4096, .inl f0)), (a3, .inr (1, [.ref a4, .int v4, .int v5])), (a4, .inl (cT 0, 4096, .inl f3)), (a5, .inr (1, [.ref a6, .int v7, .int v8])), (a6, .inl (cT 0, 4096, .inl f6)), (a7, .inl (cT 3, 8, .inr (.inr (.inr (.inr rf0))))), (a8, .inr (3, [.ref a9, .ref a10, .ref p11, .ref p13, .int v15])), (a9, .inl (cT 1, 2048, .inl f9)), (a10, .inl (cT 1, 2048, .inl f10)), (p11, .inl (cT 1, 2048, .inl f12)), (p13, .inl (cT 1, 2048, .inl f14)), (a13, .inr (2, [.ref a14, .int o7.1, .int o7.2])), (a14, .inl (cT 2, 4096, .inr (.inl f16))), (qz9, .inr (4, [.ref a1, .ref a13, .int 0, .int (-1)]))]) hP hD [15] [0, 1, 2, 3, 4, 5, 6, 7, 8, 9, 10, 11, 12, 13, 14] 15 rfl rfl (by decide) (by decide) hk1 hFc hP1 hD1
    generalize H1 = H at hP hS ⊢
    obtain ⟨o10, hq11, hf⟩ := xbind hf
    obtain ⟨hPc, hDc, hFc⟩ := xcut (wc := [(qz9, .inr (4, [.ref a1, .ref a13, .int 0, .int (-1)])), (a1, .inr (1, [.ref a2, .int v1, .int v2])), (a2, .inl (cT 0, 4096, .inl f0)), (a13, .inr (2, [.ref a14, .int o7.1, .int o7.2])), (a14, .inl (cT 2, 4096, .inr (.inl f16)))]) hP hD hS hA [15, 1, 2, 13, 14] rfl rfl (by decide)
    refine va_calli (va_runV (C := "ValueBench$Reader") (As := []) (rest := [.ref a0]) ⟨hx, hb, hml, hown, htx⟩ (gD_readValue l hl9 D cT aK aV H.size d n qz9 a1 a2 a13 a14 f0 v1 v2 f16 o7.1 o7.2 (0 : Int32) ((-1) : Int32) o10 hq11) ⟨callB_of 0 htx (xw_goodC kw_2_45) rfl rfl rfl (htx _ kw_1_16) (htx _ kw_2_42) ⟨by decide, by decide, by decide +kernel⟩ ⟨(by show (16 * d + 2) + 1 ≤ 16 * d + 7; omega), (by show 8 + (1 + 11) + (400 * d + 41) ≤ 400 * d + 122; omega)⟩, (htx _ kw_2_43), (htx _ kw_2_44)⟩ ⟨xPre_blind, va_recv hK hP (ci := 4) rfl (q0 := 15) rfl, (fun U hU hW => ⟨rfl, xPre_of hZ hS hFc hPc hDc hK U hU hW⟩)⟩ rfl rfl hl.1 rfl (lv_room (Nat.le_of_ble_eq_true rfl)) dB_read_30 ⟨Nat.le_of_ble_eq_true rfl, Nat.le_of_ble_eq_true rfl⟩) hS (fun q _ h => hFc q h) hFc (fun r12 u9 t H1 locs ht hvm hr9 hB hz1 hk1 hS => ?_)
    obtain ⟨hP1, hK1, hD1⟩ := hB
    rw [ht] at hP1
    obtain ⟨hP, hD⟩ := xjoin (W := [(a0, .inr (0, [.ref a1, .ref a3, .ref a5, .ref a7, .ref a8, .ref a13, .int v19, .int v20])), (a3, .inr (1, [.ref a4, .int v4, .int v5])), (a4, .inl (cT 0, 4096, .inl f3)), (a5, .inr (1, [.ref a6, .int v7, .int v8])), (a6, .inl (cT 0, 4096, .inl f6)), (a7, .inl (cT 3, 8, .inr (.inr (.inr (.inr rf0))))), (a8, .inr (3, [.ref a9, .ref a10, .ref p11, .ref p13, .int v15])), (a9, .inl (cT 1, 2048, .inl f9)), (a10, .inl (cT 1, 2048, .inl f10)), (p11, .inl (cT 1, 2048, .inl f12)), (p13, .inl (cT 1, 2048, .inl f14)), (qz9, .inr (4, [.ref a1, .ref a13, .int o10.2.2.2.2.1, .int o10.2.2.2.2.2])), (a1, .inr (1, [.ref a2, .int v1, .int v2])), (a2, .inl (cT 0, 4096, .inl f0)), (a13, .inr (2, [.ref a14, .int o10.2.2.1, .int o10.2.2.2.1])), (a14, .inl (cT 2, 4096, .inr (.inl o10.2.1)))]) hP hD [15, 1, 2, 13, 14] [0, 3, 4, 5, 6, 7, 8, 9, 10, 11, 12] 11 rfl rfl (by decide) (by decide) hk1 hFc hP1 hD1
    generalize H1 = H at hP hS ⊢
    rw [hr9]
    refine W.eq (g2 := F0 m 33 ls [.int o10.1, .ref a0]) rfl ?_
    refine va_put (D := D) (ci := 0) (v := .int o10.1) (ty := .int) (C := "ValueBench") (T := TB) (N := 8) hx hb htx inB tyB tyB_ok nmB hown hK hP hD hS 0 rfl rfl 6 (by decide) (htx _ kw_1_101) (fun _ h9 => h9) rfl (by decide +kernel) rfl rfl (Nat.le_of_ble_eq_true rfl) dB_read_33 (fun H locs hP hD hS => ?_)
    obtain ⟨hP, hD⟩ : xPD D xcl A [(a0, .inr (0, [.ref a1, .ref a3, .ref a5, .ref a7, .ref a8, .ref a13, .int o10.1, .int v20])), (a3, .inr (1, [.ref a4, .int v4, .int v5])), (a4, .inl (cT 0, 4096, .inl f3)), (a5, .inr (1, [.ref a6, .int v7, .int v8])), (a6, .inl (cT 0, 4096, .inl f6)), (a7, .inl (cT 3, 8, .inr (.inr (.inr (.inr rf0))))), (a8, .inr (3, [.ref a9, .ref a10, .ref p11, .ref p13, .int v15])), (a9, .inl (cT 1, 2048, .inl f9)), (a10, .inl (cT 1, 2048, .inl f10)), (p11, .inl (cT 1, 2048, .inl f12)), (p13, .inl (cT 1, 2048, .inl f14)), (qz9, .inr (4, [.ref a1, .ref a13, .int o10.2.2.2.2.1, .int o10.2.2.2.2.2])), (a1, .inr (1, [.ref a2, .int v1, .int v2])), (a2, .inl (cT 0, 4096, .inl f0)), (a13, .inr (2, [.ref a14, .int o10.2.2.1, .int o10.2.2.2.1])), (a14, .inl (cT 2, 4096, .inr (.inl o10.2.1)))] H := ⟨hP, hD⟩
    refine lv_aload_n hx hb dB_read_36 rfl (lv_at hl 0 rfl) ?_
    refine va_get (D := D) (ci := 0) (v := .ref a1) (C := "ValueBench") (T := TB) (N := 8) hx hb htx inB hown hK hP 0 rfl rfl 0 (by decide) (htx _ kw_1_95) (fun _ h9 => h9) rfl dB_read_37 ?_
    obtain ⟨o13, hq14, hf⟩ := xbind hf
    obtain ⟨hPc, hDc, hFc⟩ := xcut (wc := [(a1, .inr (1, [.ref a2, .int v1, .int v2])), (a2, .inl (cT 0, 4096, .inl f0))]) hP hD hS hA [12, 13] rfl rfl (by decide)
    refine va_callv (va_runV (C := "ValueBench$Text") (As := []) (rest := []) ⟨hx, hb, hml, hown, htx⟩ (gT_clear l hl9 D cT aK aV H.size n a1 a2 f0 v1 v2 o13 hq14) ⟨callB_of 0 htx (xw_goodC kw_2_237) rfl rfl rfl (htx _ kw_1_2) (htx _ kw_2_234) ⟨by decide, by decide, by decide +kernel⟩ ⟨Nat.le_of_ble_eq_true rfl, Nat.le_of_ble_eq_true rfl⟩, (htx _ kw_2_235), (htx _ kw_2_236)⟩ ⟨xPre_blind, va_recv hK hP (ci := 1) rfl (q0 := 12) rfl, (fun U hU hW => ⟨rfl, xPre_of hZ hS hFc hPc hDc hK U hU hW⟩)⟩ rfl rfl hl.1 rfl (lv_room (Nat.le_of_ble_eq_true rfl)) dB_read_40 ⟨Nat.le_of_ble_eq_true rfl, Nat.le_of_ble_eq_true rfl⟩) hS (fun q _ h => hFc q h) hFc (fun u9 t H1 locs ht hvm hr9 hB hz1 hk1 hS => ?_)
    obtain ⟨hP1, hK1, hD1⟩ := hB
    rw [ht] at hP1
    obtain ⟨hP, hD⟩ := xjoin (W := [(a0, .inr (0, [.ref a1, .ref a3, .ref a5, .ref a7, .ref a8, .ref a13, .int o10.1, .int v20])), (a3, .inr (1, [.ref a4, .int v4, .int v5])), (a4, .inl (cT 0, 4096, .inl f3)), (a5, .inr (1, [.ref a6, .int v7, .int v8])), (a6, .inl (cT 0, 4096, .inl f6)), (a7, .inl (cT 3, 8, .inr (.inr (.inr (.inr rf0))))), (a8, .inr (3, [.ref a9, .ref a10, .ref p11, .ref p13, .int v15])), (a9, .inl (cT 1, 2048, .inl f9)), (a10, .inl (cT 1, 2048, .inl f10)), (p11, .inl (cT 1, 2048, .inl f12)), (p13, .inl (cT 1, 2048, .inl f14)), (qz9, .inr (4, [.ref a1, .ref a13, .int o10.2.2.2.2.1, .int o10.2.2.2.2.2])), (a13, .inr (2, [.ref a14, .int o10.2.2.1, .int o10.2.2.2.1])), (a14, .inl (cT 2, 4096, .inr (.inl o10.2.1))), (a1, .inr (1, [.ref a2, .int o13.1, .int o13.2])), (a2, .inl (cT 0, 4096, .inl f0))]) hP hD [12, 13] [0, 1, 2, 3, 4, 5, 6, 7, 8, 9, 10, 11, 14, 15] 14 rfl rfl (by decide) (by decide) hk1 hFc hP1 hD1
    generalize H1 = H at hP hS ⊢
    refine lv_aload_n hx hb dB_read_43 rfl (lv_at hl 0 rfl) ?_
    refine va_get (D := D) (ci := 0) (v := .int o10.1) (C := "ValueBench") (T := TB) (N := 8) hx hb htx inB hown hK hP 0 rfl rfl 6 (by decide) (htx _ kw_1_101) (fun _ h9 => h9) rfl dB_read_44 ?_
    refine lv_iconst (v := (-1)) hx hb dB_read_47 (by decide) ?_
    refine lv_icmp_eq (tgt := 61) hx hb dB_read_48 (by decide) (fun hc => ?_) (fun hc => ?_)
    · rw [if_pos hc] at hf
      refine lv_aload_n hx hb dB_read_61 rfl (lv_at hl 0 rfl) ?_
      refine lv_iload_n hx hb dB_read_62 rfl (lv_at hl 1 rfl) ?_
      obtain ⟨o15, hq16, hf⟩ := xbind hf
      by_cases hk17 : o15.1 = 0
      · rw [if_pos hk17] at hf
        obtain ⟨hPc, hDc, hFc⟩ := xcut (wc := [(a0, .inr (0, [.ref a1, .ref a3, .ref a5, .ref a7, .ref a8, .ref a13, .int o10.1, .int v20])), (a1, .inr (1, [.ref a2, .int o13.1, .int o13.2])), (a2, .inl (cT 0, 4096, .inl f0)), (a3, .inr (1, [.ref a4, .int v4, .int v5])), (a4, .inl (cT 0, 4096, .inl f3)), (a5, .inr (1, [.ref a6, .int v7, .int v8])), (a6, .inl (cT 0, 4096, .inl f6)), (a7, .inl (cT 3, 8, .inr (.inr (.inr (.inr rf0))))), (a8, .inr (3, [.ref a9, .ref a10, .ref p11, .ref p13, .int v15])), (a9, .inl (cT 1, 2048, .inl f9)), (a10, .inl (cT 1, 2048, .inl f10)), (p11, .inl (cT 1, 2048, .inl f12)), (p13, .inl (cT 1, 2048, .inl f14)), (a13, .inr (2, [.ref a14, .int o10.2.2.1, .int o10.2.2.2.1])), (a14, .inl (cT 2, 4096, .inr (.inl o10.2.1)))]) hP hD hS hA [0, 14, 15, 1, 2, 3, 4, 5, 6, 7, 8, 9, 10, 12, 13] rfl rfl (by decide)
        refine va_calli (va_runV (C := "ValueBench") (As := [.int x1]) (rest := []) ⟨hx, hb, hml, hown, htx⟩ (gB_keepSpare l hl9 D cT aK aV H.size d n a0 a1 a2 a3 a4 a5 a6 a7 a8 a9 a10 a13 a14 rf0 b1 x1 f0 o13.1 o13.2 f3 v4 v5 f6 v7 v8 f9 f10 p11 f12 p13 f14 v15 o10.2.1 o10.2.2.1 o10.2.2.2.1 o10.1 v20 hr1 o15 hq16 hk17) ⟨callB_of 1 htx (xw_goodC kw_3_17) rfl rfl rfl (htx _ kw_1_1) (htx _ kw_3_14) ⟨by decide, by decide, by decide +kernel⟩ ⟨(by show (16 * d + 6) + 1 ≤ 16 * d + 7; omega), (by show 8 + (3 + 11) + (400 * d + 100) ≤ 400 * d + 122; omega)⟩, (htx _ kw_3_16), (htx _ kp_B_keepSpare)⟩ ⟨xPre_blind, va_recv hK hP (ci := 0) rfl (q0 := 0) rfl, (fun U hU hW => ⟨rfl, xPre_of hZ hS hFc hPc hDc hK U hU hW⟩)⟩ rfl rfl hl.1 rfl (lv_room (Nat.le_of_ble_eq_true rfl)) dB_read_63 ⟨Nat.le_of_ble_eq_true rfl, Nat.le_of_ble_eq_true rfl⟩) hS (fun q _ h => hFc q h) hFc (fun r18 u9 t H1 locs ht hvm hr9 hB hz1 hk1 hS => ?_)
        obtain ⟨hP1, hK1, hD1⟩ := hB
        rw [ht] at hP1
        obtain ⟨hP, hD⟩ := xjoin (W := [(qz9, .inr (4, [.ref a1, .ref a13, .int o10.2.2.2.2.1, .int o10.2.2.2.2.2])), (a0, .inr (0, [.ref a1, .ref a3, .ref a5, .ref a7, .ref a8, .ref b1, .int o10.1, .int v20])), (a1, .inr (1, [.ref a2, .int o13.1, .int o13.2])), (a2, .inl (cT 0, 4096, .inl f0)), (a3, .inr (1, [.ref a4, .int v4, .int v5])), (a4, .inl (cT 0, 4096, .inl f3)), (a5, .inr (1, [.ref a6, .int o15.2.2.2.1, .int o15.2.2.2.2])), (a6, .inl (cT 0, 4096, .inl o15.2.2.1)), (a7, .inl (cT 3, 8, .inr (.inr (.inr (.inr (va_up rf0 x1.toNatClampNeg (some a13))))))), (a8, .inr (3, [.ref a9, .ref a10, .ref p11, .ref p13, .int v15])), (a9, .inl (cT 1, 2048, .inl f9)), (a10, .inl (cT 1, 2048, .inl f10)), (p11, .inl (cT 1, 2048, .inl f12)), (p13, .inl (cT 1, 2048, .inl f14)), (a13, .inr (2, [.ref a14, .int o10.2.2.1, .int o10.2.2.2.1])), (a14, .inl (cT 2, 4096, .inr (.inl o10.2.1)))]) hP hD [0, 14, 15, 1, 2, 3, 4, 5, 6, 7, 8, 9, 10, 12, 13] [11] 1 rfl rfl (by decide) (by decide) hk1 hFc hP1 hD1
        generalize H1 = H at hP hS ⊢
        rw [hr9]
        refine W.eq (g2 := F0 m 66 ls [.int o15.2.1]) rfl ?_
        obtain rfl := Option.some.inj hf
        exact absurd (show (0 : Nat) = 3 from hkd) (by decide)
      rw [if_neg hk17] at hf
      by_cases hk19 : o15.1 = 1
      · rw [if_pos hk19] at hf
        obtain rfl := Option.some.inj hf
        exact absurd (show (1 : Nat) = 3 from hkd) (by decide)
      rw [if_neg hk19] at hf
      exact nomatch hf
    · rw [if_neg hc] at hf
      obtain rfl := Option.some.inj hf
      exact absurd (show (2 : Nat) = 3 from hkd) (by decide)
  rw [if_neg hk6] at hf
  by_cases hk15 : o4 = 1
  · rw [if_pos hk15] at hf
    obtain ⟨hPc, hDc, hFc⟩ := xcut (wc := []) hP hD hS hA [] rfl rfl (by decide)
    refine xx_thr (vx_runS (As := [.int o1]) (rest := []) ⟨hx, hb, hml, hown, htx⟩ (gB_demand_1 l hl9 D cT aK aV H.size n o1 o4 hq5 hk15) ⟨callB_of 1 htx (xw_goodC kw_1_221) rfl rfl rfl (htx _ kw_1_1) (htx _ kw_1_219) ⟨by decide, by decide, by decide +kernel⟩ ⟨Nat.le_of_ble_eq_true rfl, Nat.le_of_ble_eq_true rfl⟩, htx _ kw_1_220⟩ ⟨xPre_blind, (fun U hU hW => ⟨rfl, xPre_of hZ hS hFc hPc hDc hK U hU hW⟩)⟩ rfl rfl hl.1 rfl (lv_room (Nat.le_of_ble_eq_true rfl)) dB_read_4 ⟨Nat.le_of_ble_eq_true rfl, Nat.le_of_ble_eq_true rfl⟩) hS hFc (fun q _ h => hFc q h) (fun E ce q9 u9 t H1 locs ht hvm _ hB hz1 hk1 hS hce hcv hcl => ?_)
    obtain ⟨rfl, hP1, hK1, hD1⟩ := hB
    rw [ht] at hP1
    obtain ⟨hP, hD⟩ := xjoin (W := [(a0, .inr (0, [.ref a1, .ref a3, .ref a5, .ref a7, .ref a8, .ref a13, .int v19, .int v20])), (a1, .inr (1, [.ref a2, .int v1, .int v2])), (a2, .inl (cT 0, 4096, .inl f0)), (a3, .inr (1, [.ref a4, .int v4, .int v5])), (a4, .inl (cT 0, 4096, .inl f3)), (a5, .inr (1, [.ref a6, .int v7, .int v8])), (a6, .inl (cT 0, 4096, .inl f6)), (a7, .inl (cT 3, 8, .inr (.inr (.inr (.inr rf0))))), (a8, .inr (3, [.ref a9, .ref a10, .ref p11, .ref p13, .int v15])), (a9, .inl (cT 1, 2048, .inl f9)), (a10, .inl (cT 1, 2048, .inl f10)), (p11, .inl (cT 1, 2048, .inl f12)), (p13, .inl (cT 1, 2048, .inl f14)), (a13, .inr (2, [.ref a14, .int v17, .int v18])), (a14, .inl (cT 2, 4096, .inr (.inl f16)))]) hP hD [] [0, 1, 2, 3, 4, 5, 6, 7, 8, 9, 10, 11, 12, 13, 14] 15 rfl rfl (by decide) (by decide) hk1 hFc hP1 hD1
    generalize H1 = H at hP hS hce ⊢
    obtain rfl := Option.some.inj hf
    obtain ⟨hP9, hD9⟩ := xsub (wc := [(a0, .inr (0, [.ref a1, .ref a3, .ref a5, .ref a7, .ref a8, .ref a13, .int v19, .int v20])), (a1, .inr (1, [.ref a2, .int v1, .int v2])), (a2, .inl (cT 0, 4096, .inl f0)), (a3, .inr (1, [.ref a4, .int v4, .int v5])), (a4, .inl (cT 0, 4096, .inl f3)), (a5, .inr (1, [.ref a6, .int v7, .int v8])), (a6, .inl (cT 0, 4096, .inl f6)), (a7, .inl (cT 3, 8, .inr (.inr (.inr (.inr rf0))))), (a8, .inr (3, [.ref a9, .ref a10, .ref p11, .ref p13, .int v15])), (a9, .inl (cT 1, 2048, .inl f9)), (a10, .inl (cT 1, 2048, .inl f10)), (p11, .inl (cT 1, 2048, .inl f12)), (p13, .inl (cT 1, 2048, .inl f14)), (a13, .inr (2, [.ref a14, .int v17, .int v18])), (a14, .inl (cT 2, 4096, .inr (.inl f16)))]) hP hD [0, 1, 2, 3, 4, 5, 6, 7, 8, 9, 10, 11, 12, 13, 14] rfl rfl (by decide)
    exact vx_out (E := "java/lang/IllegalArgumentException") (fun x h => (hne x h).elim) hlocks hce hcv hcl (fun t ht ha => ⟨(), trivial, ⟨rfl, by rw [ht]; exact hP9, va_K.moved ha hK, hD9⟩, hS.F ht⟩) hS.2.2 (Nat.le_of_ble_eq_true rfl) (Nat.le_of_ble_eq_true rfl)
  rw [if_neg hk15] at hf
  exact nomatch hf
set_option maxHeartbeats 400000000 in
set_option maxRecDepth 100000 in
theorem gB_print (l : Launch) (hl9 : l.stackTraces = false) (D : va_G) (cT : Nat → ClassId) (aK aV : Nat → Nat) (sz d n : Nat) (a0 : Nat) (a1 : Nat) (a2 : Nat) (a3 : Nat) (a4 : Nat) (a5 : Nat) (a6 : Nat) (a7 : Nat) (a8 : Nat) (a9 : Nat) (a10 : Nat) (a13 : Nat) (a14 : Nat) (a15 : Nat) (a16 : Nat) (rf0 : Nat → Option Nat) (x1 : Int32) (f0 : Nat → Int32) (v1 : Int32) (v2 : Int32) (f3 : Nat → Int32) (v4 : Int32) (v5 : Int32) (f6 : Nat → Int32) (v7 : Int32) (v8 : Int32) (f9 : Nat → Int32) (f10 : Nat → Int32) (p11 : Nat) (f12 : Nat → Int32) (p13 : Nat) (f14 : Nat → Int32) (v15 : Int32) (f16 : Nat → Int64) (v17 : Int32) (v18 : Int32) (v19 : Int32) (v20 : Int32) (f21 : Nat → Int64) (v22 : Int32) (v23 : Int32) (hr1 : ¬ (x1 < 0 ∨ 8 ≤ x1.toNatClampNeg) → rf0 x1.toNatClampNeg = some a15) (out : Nat × Int32 × (Nat → Int32) × Int32 × Int32) (hf : fB_print d n x1 f0 v1 v2 f3 v4 v5 f6 v7 v8 f9 f10 p11 f12 p13 f14 v15 f16 v17 v18 v19 v20 f21 v22 v23 = some out) (hkd : out.1 = 0) : xMet l yB_print wyB_print (16 * d + 7) 1 6 (400 * d + 120) D cT aK aV sz [.ref a0, .int x1] [(a0, .inr (0, [.ref a1, .ref a3, .ref a5, .ref a7, .ref a8, .ref a13, .int v19, .int v20])), (a1, .inr (1, [.ref a2, .int v1, .int v2])), (a2, .inl (cT 0, 4096, .inl f0)), (a3, .inr (1, [.ref a4, .int v4, .int v5])), (a4, .inl (cT 0, 4096, .inl f3)), (a5, .inr (1, [.ref a6, .int v7, .int v8])), (a6, .inl (cT 0, 4096, .inl f6)), (a7, .inl (cT 3, 8, .inr (.inr (.inr (.inr rf0))))), (a8, .inr (3, [.ref a9, .ref a10, .ref p11, .ref p13, .int v15])), (a9, .inl (cT 1, 2048, .inl f9)), (a10, .inl (cT 1, 2048, .inl f10)), (p11, .inl (cT 1, 2048, .inl f12)), (p13, .inl (cT 1, 2048, .inl f14)), (a13, .inr (2, [.ref a14, .int v17, .int v18])), (a14, .inl (cT 2, 4096, .inr (.inl f16))), (a15, .inr (2, [.ref a16, .int v22, .int v23])), (a16, .inl (cT 2, 4096, .inr (.inl f21)))] (fun A => va_Qi (fun (r : Int32) (_ : Unit) => r = out.2.1) (fun _ t => xB D xcl cT A [(a0, .inr (0, [.ref a1, .ref a3, .ref a5, .ref a7, .ref a8, .ref a13, .int v19, .int v20])), (a1, .inr (1, [.ref a2, .int v1, .int v2])), (a2, .inl (cT 0, 4096, .inl f0)), (a3, .inr (1, [.ref a4, .int out.2.2.2.1, .int out.2.2.2.2])), (a4, .inl (cT 0, 4096, .inl out.2.2.1)), (a5, .inr (1, [.ref a6, .int v7, .int v8])), (a6, .inl (cT 0, 4096, .inl f6)), (a7, .inl (cT 3, 8, .inr (.inr (.inr (.inr rf0))))), (a8, .inr (3, [.ref a9, .ref a10, .ref p11, .ref p13, .int v15])), (a9, .inl (cT 1, 2048, .inl f9)), (a10, .inl (cT 1, 2048, .inl f10)), (p11, .inl (cT 1, 2048, .inl f12)), (p13, .inl (cT 1, 2048, .inl f14)), (a13, .inr (2, [.ref a14, .int v17, .int v18])), (a14, .inl (cT 2, 4096, .inr (.inl f16))), (a15, .inr (2, [.ref a16, .int v22, .int v23])), (a16, .inl (cT 2, 4096, .inr (.inl f21)))] t) A) := by
  refine Met.ofW (cc := prog_1_method_5_code) (maxL := 2) (ret := (some .int)) (by decide) rfl ?_
  intro p e s m args below meth c s₁ B hml hv
  obtain ⟨rfl, hsz, hZ, hP, hK, hD0⟩ := hv
  have hx := B.exec
  have hb := B.bytes
  have hr := B.returns
  have hts := atoms_spec (ws := wyB_print) B.pre
  have htx := fun w h => hts w (List.mem_cons_of_mem _ h)
  have hown : s.vm.findClass "ValueBench" = some m.cls := findClass_of_methodNamed B.named
  have hlocks := B.notSynchronized
  subst hsz
  have hD := hD0.self (sz := s.heap.size)
  generalize hAe : va_A [(a0, .inr (0, [.ref a1, .ref a3, .ref a5, .ref a7, .ref a8, .ref a13, .int v19, .int v20])), (a1, .inr (1, [.ref a2, .int v1, .int v2])), (a2, .inl (cT 0, 4096, .inl f0)), (a3, .inr (1, [.ref a4, .int v4, .int v5])), (a4, .inl (cT 0, 4096, .inl f3)), (a5, .inr (1, [.ref a6, .int v7, .int v8])), (a6, .inl (cT 0, 4096, .inl f6)), (a7, .inl (cT 3, 8, .inr (.inr (.inr (.inr rf0))))), (a8, .inr (3, [.ref a9, .ref a10, .ref p11, .ref p13, .int v15])), (a9, .inl (cT 1, 2048, .inl f9)), (a10, .inl (cT 1, 2048, .inl f10)), (p11, .inl (cT 1, 2048, .inl f12)), (p13, .inl (cT 1, 2048, .inl f14)), (a13, .inr (2, [.ref a14, .int v17, .int v18])), (a14, .inl (cT 2, 4096, .inr (.inl f16))), (a15, .inr (2, [.ref a16, .int v22, .int v23])), (a16, .inl (cT 2, 4096, .inr (.inl f21)))] s.heap.size = A at hD hZ ⊢
  have hA : ∀ q : Nat, s.heap.size ≤ q → A q := fun q h => by rw [← hAe]; exact Or.inr h
  have hS : va_S A s.heap s.heap [] := va_S.rf
  have hP : va_P D xcl [(a0, .inr (0, [.ref a1, .ref a3, .ref a5, .ref a7, .ref a8, .ref a13, .int v19, .int v20])), (a1, .inr (1, [.ref a2, .int v1, .int v2])), (a2, .inl (cT 0, 4096, .inl f0)), (a3, .inr (1, [.ref a4, .int v4, .int v5])), (a4, .inl (cT 0, 4096, .inl f3)), (a5, .inr (1, [.ref a6, .int v7, .int v8])), (a6, .inl (cT 0, 4096, .inl f6)), (a7, .inl (cT 3, 8, .inr (.inr (.inr (.inr rf0))))), (a8, .inr (3, [.ref a9, .ref a10, .ref p11, .ref p13, .int v15])), (a9, .inl (cT 1, 2048, .inl f9)), (a10, .inl (cT 1, 2048, .inl f10)), (p11, .inl (cT 1, 2048, .inl f12)), (p13, .inl (cT 1, 2048, .inl f14)), (a13, .inr (2, [.ref a14, .int v17, .int v18])), (a14, .inl (cT 2, 4096, .inr (.inl f16))), (a15, .inr (2, [.ref a16, .int v22, .int v23])), (a16, .inl (cT 2, 4096, .inr (.inl f21)))] s.heap := hP
  have hl := lv_entry ([.ref a0, .int x1]) (n := 2) (Nat.le_of_ble_eq_true rfl)
  rw [lg_entry_eq]
  generalize (lg_sl ([.ref a0, .int x1]) ++ List.replicate (2 - (lg_sl ([.ref a0, .int x1])).length) Slot.unset).toArray = ls at hl ⊢
  have hl : lv_has ls 2 [(0, .ref a0), (1, .int x1)] := hl
  unfold fB_print at hf
  refine lv_iload_n hx hb dB_print_0 rfl (lv_at hl 1 rfl) ?_
  obtain ⟨o1, hq2, hf⟩ := xbind hf
  obtain ⟨hPc, hDc, hFc⟩ := xcut (wc := []) hP hD hS hA [] rfl rfl (by decide)
  refine va_calli (va_runS (As := [.int x1]) (rest := []) ⟨hx, hb, hml, hown, htx⟩ (gB_isRegister l hl9 D cT aK aV s.heap.size n x1 o1 hq2) ⟨callB_of 1 htx (xw_goodC kw_2_18) rfl rfl rfl (htx _ kw_1_1) (htx _ kw_2_16) ⟨by decide, by decide, by decide +kernel⟩ ⟨Nat.le_of_ble_eq_true rfl, Nat.le_of_ble_eq_true rfl⟩, htx _ kw_2_17⟩ ⟨xPre_blind, (fun U hU hW => ⟨rfl, xPre_of hZ hS hFc hPc hDc hK U hU hW⟩)⟩ rfl rfl hl.1 rfl (lv_room (Nat.le_of_ble_eq_true rfl)) dB_print_1 ⟨Nat.le_of_ble_eq_true rfl, Nat.le_of_ble_eq_true rfl⟩) hS (fun q _ h => hFc q h) hFc (fun r3 u9 t H1 locs ht hvm hr9 hB hz1 hk1 hS => ?_)
  obtain ⟨hP1, hK1, hD1⟩ := hB
  rw [ht] at hP1
  obtain ⟨hP, hD⟩ := xjoin (W := [(a0, .inr (0, [.ref a1, .ref a3, .ref a5, .ref a7, .ref a8, .ref a13, .int v19, .int v20])), (a1, .inr (1, [.ref a2, .int v1, .int v2])), (a2, .inl (cT 0, 4096, .inl f0)), (a3, .inr (1, [.ref a4, .int v4, .int v5])), (a4, .inl (cT 0, 4096, .inl f3)), (a5, .inr (1, [.ref a6, .int v7, .int v8])), (a6, .inl (cT 0, 4096, .inl f6)), (a7, .inl (cT 3, 8, .inr (.inr (.inr (.inr rf0))))), (a8, .inr (3, [.ref a9, .ref a10, .ref p11, .ref p13, .int v15])), (a9, .inl (cT 1, 2048, .inl f9)), (a10, .inl (cT 1, 2048, .inl f10)), (p11, .inl (cT 1, 2048, .inl f12)), (p13, .inl (cT 1, 2048, .inl f14)), (a13, .inr (2, [.ref a14, .int v17, .int v18])), (a14, .inl (cT 2, 4096, .inr (.inl f16))), (a15, .inr (2, [.ref a16, .int v22, .int v23])), (a16, .inl (cT 2, 4096, .inr (.inl f21)))]) hP hD [] [0, 1, 2, 3, 4, 5, 6, 7, 8, 9, 10, 11, 12, 13, 14, 15, 16] 17 rfl rfl (by decide) (by decide) hk1 hFc hP1 hD1
  generalize H1 = H at hP hS ⊢
  rw [hr9]
  refine W.eq (g2 := F0 m 4 ls [.int o1]) rfl ?_
  obtain ⟨o4, hq5, hf⟩ := xbind hf
  by_cases hk6 : o4 = 0
  · rw [if_pos hk6] at hf
    obtain ⟨hPc, hDc, hFc⟩ := xcut (wc := []) hP hD hS hA [] rfl rfl (by decide)
    refine va_callv (va_runS (As := [.int o1]) (rest := []) ⟨hx, hb, hml, hown, htx⟩ (gB_demand l hl9 D cT aK aV H.size n o1 o4 hq5 hk6) ⟨callB_of 1 htx (xw_goodC kw_1_221) rfl rfl rfl (htx _ kw_1_1) (htx _ kw_1_219) ⟨by decide, by decide, by decide +kernel⟩ ⟨Nat.le_of_ble_eq_true rfl, Nat.le_of_ble_eq_true rfl⟩, htx _ kw_1_220⟩ ⟨xPre_blind, (fun U hU hW => ⟨rfl, xPre_of hZ hS hFc hPc hDc hK U hU hW⟩)⟩ rfl rfl hl.1 rfl (lv_room (Nat.le_of_ble_eq_true rfl)) dB_print_4 ⟨Nat.le_of_ble_eq_true rfl, Nat.le_of_ble_eq_true rfl⟩) hS (fun q _ h => hFc q h) hFc (fun u9 t H1 locs ht hvm hr9 hB hz1 hk1 hS => ?_)
    obtain ⟨hP1, hK1, hD1⟩ := hB
    rw [ht] at hP1
    obtain ⟨hP, hD⟩ := xjoin (W := [(a0, .inr (0, [.ref a1, .ref a3, .ref a5, .ref a7, .ref a8, .ref a13, .int v19, .int v20])), (a1, .inr (1, [.ref a2, .int v1, .int v2])), (a2, .inl (cT 0, 4096, .inl f0)), (a3, .inr (1, [.ref a4, .int v4, .int v5])), (a4, .inl (cT 0, 4096, .inl f3)), (a5, .inr (1, [.ref a6, .int v7, .int v8])), (a6, .inl (cT 0, 4096, .inl f6)), (a7, .inl (cT 3, 8, .inr (.inr (.inr (.inr rf0))))), (a8, .inr (3, [.ref a9, .ref a10, .ref p11, .ref p13, .int v15])), (a9, .inl (cT 1, 2048, .inl f9)), (a10, .inl (cT 1, 2048, .inl f10)), (p11, .inl (cT 1, 2048, .inl f12)), (p13, .inl (cT 1, 2048, .inl f14)), (a13, .inr (2, [.ref a14, .int v17, .int v18])), (a14, .inl (cT 2, 4096, .inr (.inl f16))), (a15, .inr (2, [.ref a16, .int v22, .int v23])), (a16, .inl (cT 2, 4096, .inr (.inl f21)))]) hP hD [] [0, 1, 2, 3, 4, 5, 6, 7, 8, 9, 10, 11, 12, 13, 14, 15, 16] 17 rfl rfl (by decide) (by decide) hk1 hFc hP1 hD1
    generalize H1 = H at hP hS ⊢
    refine lv_aload_n hx hb dB_print_7 rfl (lv_at hl 0 rfl) ?_
    refine va_get (D := D) (ci := 0) (v := .ref a3) (C := "ValueBench") (T := TB) (N := 8) hx hb htx inB hown hK hP 0 rfl rfl 1 (by decide) (htx _ kw_1_96) (fun _ h9 => h9) rfl dB_print_8 ?_
    obtain ⟨o7, hq8, hf⟩ := xbind hf
    obtain ⟨hPc, hDc, hFc⟩ := xcut (wc := [(a3, .inr (1, [.ref a4, .int v4, .int v5])), (a4, .inl (cT 0, 4096, .inl f3))]) hP hD hS hA [3, 4] rfl rfl (by decide)
    refine va_callv (va_runV (C := "ValueBench$Text") (As := []) (rest := []) ⟨hx, hb, hml, hown, htx⟩ (gT_clear l hl9 D cT aK aV H.size n a3 a4 f3 v4 v5 o7 hq8) ⟨callB_of 0 htx (xw_goodC kw_2_237) rfl rfl rfl (htx _ kw_1_2) (htx _ kw_2_234) ⟨by decide, by decide, by decide +kernel⟩ ⟨Nat.le_of_ble_eq_true rfl, Nat.le_of_ble_eq_true rfl⟩, (htx _ kw_2_235), (htx _ kw_2_236)⟩ ⟨xPre_blind, va_recv hK hP (ci := 1) rfl (q0 := 3) rfl, (fun U hU hW => ⟨rfl, xPre_of hZ hS hFc hPc hDc hK U hU hW⟩)⟩ rfl rfl hl.1 rfl (lv_room (Nat.le_of_ble_eq_true rfl)) dB_print_11 ⟨Nat.le_of_ble_eq_true rfl, Nat.le_of_ble_eq_true rfl⟩) hS (fun q _ h => hFc q h) hFc (fun u9 t H1 locs ht hvm hr9 hB hz1 hk1 hS => ?_)
    obtain ⟨hP1, hK1, hD1⟩ := hB
    rw [ht] at hP1
    obtain ⟨hP, hD⟩ := xjoin (W := [(a0, .inr (0, [.ref a1, .ref a3, .ref a5, .ref a7, .ref a8, .ref a13, .int v19, .int v20])), (a1, .inr (1, [.ref a2, .int v1, .int v2])), (a2, .inl (cT 0, 4096, .inl f0)), (a5, .inr (1, [.ref a6, .int v7, .int v8])), (a6, .inl (cT 0, 4096, .inl f6)), (a7, .inl (cT 3, 8, .inr (.inr (.inr (.inr rf0))))), (a8, .inr (3, [.ref a9, .ref a10, .ref p11, .ref p13, .int v15])), (a9, .inl (cT 1, 2048, .inl f9)), (a10, .inl (cT 1, 2048, .inl f10)), (p11, .inl (cT 1, 2048, .inl f12)), (p13, .inl (cT 1, 2048, .inl f14)), (a13, .inr (2, [.ref a14, .int v17, .int v18])), (a14, .inl (cT 2, 4096, .inr (.inl f16))), (a15, .inr (2, [.ref a16, .int v22, .int v23])), (a16, .inl (cT 2, 4096, .inr (.inl f21))), (a3, .inr (1, [.ref a4, .int o7.1, .int o7.2])), (a4, .inl (cT 0, 4096, .inl f3))]) hP hD [3, 4] [0, 1, 2, 5, 6, 7, 8, 9, 10, 11, 12, 13, 14, 15, 16] 15 rfl rfl (by decide) (by decide) hk1 hFc hP1 hD1
    generalize H1 = H at hP hS ⊢
    refine lv_aload_n hx hb dB_print_14 rfl (lv_at hl 0 rfl) ?_
    refine va_get (D := D) (ci := 0) (v := .ref a7) (C := "ValueBench") (T := TB) (N := 8) hx hb htx inB hown hK hP 0 rfl rfl 3 (by decide) (htx _ kw_1_98) (fun _ h9 => h9) rfl dB_print_15 ?_
    refine lv_iload_n hx hb dB_print_18 rfl (lv_at hl 1 rfl) ?_
    obtain ⟨hg9, hf⟩ := xifn hf
    refine va_aldq hx hb hK hP 5 3 rfl rfl hg9 dB_print_19 ?_
    refine W.eq (g2 := F0 m 20 ls [va_rf (rf0 x1.toNatClampNeg)]) rfl ?_
    rw [hr1 hg9]
    refine W.eq (g2 := F0 m 20 ls [.ref a15]) rfl ?_
    refine lv_iconst (v := 0) hx hb dB_print_20 (by decide) ?_
    refine lv_aload_n hx hb dB_print_21 rfl (lv_at hl 0 rfl) ?_
    refine va_get (D := D) (ci := 0) (v := .ref a3) (C := "ValueBench") (T := TB) (N := 8) hx hb htx inB hown hK hP 0 rfl rfl 1 (by decide) (htx _ kw_1_96) (fun _ h9 => h9) rfl dB_print_22 ?_
    refine lv_iconst (v := 0) hx hb dB_print_25 (by decide) ?_
    obtain ⟨o10, hq11, hf⟩ := xbind hf
    obtain ⟨hPc, hDc, hFc⟩ := xcut (wc := [(a15, .inr (2, [.ref a16, .int v22, .int v23])), (a16, .inl (cT 2, 4096, .inr (.inl f21))), (a3, .inr (1, [.ref a4, .int o7.1, .int o7.2])), (a4, .inl (cT 0, 4096, .inl f3))]) hP hD hS hA [13, 14, 15, 16] rfl rfl (by decide)
    refine va_callv (va_runS (As := [.ref a15, .int 0, .ref a3, .int 0]) (rest := []) ⟨hx, hb, hml, hown, htx⟩ (gP_write l hl9 D cT aK aV d H.size n a15 a16 a3 a4 (0 : Int32) (0 : Int32) f21 v22 v23 f3 o7.1 o7.2 o10 hq11) ⟨callB_of 4 htx (xw_goodC kw_3_20) rfl rfl rfl (htx _ kw_1_18) (htx _ kw_3_18) ⟨by decide, by decide, by decide +kernel⟩ ⟨(by show (16 * d) + 1 ≤ 16 * d + 7; omega), (by show 8 + (4 + 11) + (400 * d) ≤ 400 * d + 120; omega)⟩, htx _ kw_3_19⟩ ⟨xPre_blind, (fun U hU hW => ⟨rfl, xPre_of hZ hS hFc hPc hDc hK U hU hW⟩)⟩ rfl rfl hl.1 rfl (lv_room (Nat.le_of_ble_eq_true rfl)) dB_print_26 ⟨Nat.le_of_ble_eq_true rfl, Nat.le_of_ble_eq_true rfl⟩) hS (fun q _ h => hFc q h) hFc (fun u9 t H1 locs ht hvm hr9 hB hz1 hk1 hS => ?_)
    obtain ⟨hP1, hK1, hD1⟩ := hB
    rw [ht] at hP1
    obtain ⟨hP, hD⟩ := xjoin (W := [(a0, .inr (0, [.ref a1, .ref a3, .ref a5, .ref a7, .ref a8, .ref a13, .int v19, .int v20])), (a1, .inr (1, [.ref a2, .int v1, .int v2])), (a2, .inl (cT 0, 4096, .inl f0)), (a5, .inr (1, [.ref a6, .int v7, .int v8])), (a6, .inl (cT 0, 4096, .inl f6)), (a7, .inl (cT 3, 8, .inr (.inr (.inr (.inr rf0))))), (a8, .inr (3, [.ref a9, .ref a10, .ref p11, .ref p13, .int v15])), (a9, .inl (cT 1, 2048, .inl f9)), (a10, .inl (cT 1, 2048, .inl f10)), (p11, .inl (cT 1, 2048, .inl f12)), (p13, .inl (cT 1, 2048, .inl f14)), (a13, .inr (2, [.ref a14, .int v17, .int v18])), (a14, .inl (cT 2, 4096, .inr (.inl f16))), (a15, .inr (2, [.ref a16, .int v22, .int v23])), (a16, .inl (cT 2, 4096, .inr (.inl f21))), (a3, .inr (1, [.ref a4, .int o10.2.1, .int o10.2.2])), (a4, .inl (cT 0, 4096, .inl o10.1))]) hP hD [13, 14, 15, 16] [0, 1, 2, 3, 4, 5, 6, 7, 8, 9, 10, 11, 12] 13 rfl rfl (by decide) (by decide) hk1 hFc hP1 hD1
    generalize H1 = H at hP hS ⊢
    refine lv_aload_n hx hb dB_print_29 rfl (lv_at hl 0 rfl) ?_
    refine va_get (D := D) (ci := 0) (v := .ref a3) (C := "ValueBench") (T := TB) (N := 8) hx hb htx inB hown hK hP 0 rfl rfl 1 (by decide) (htx _ kw_1_96) (fun _ h9 => h9) rfl dB_print_30 ?_
    obtain ⟨o12, hq13, hf⟩ := xbind hf
    obtain ⟨hPc, hDc, hFc⟩ := xcut (wc := [(a3, .inr (1, [.ref a4, .int o10.2.1, .int o10.2.2])), (a4, .inl (cT 0, 4096, .inl o10.1))]) hP hD hS hA [15, 16] rfl rfl (by decide)
    refine va_calli (va_runV (C := "ValueBench$Text") (As := []) (rest := []) ⟨hx, hb, hml, hown, htx⟩ (gT_size l hl9 D cT aK aV H.size n a3 a4 o10.1 o10.2.1 o10.2.2 o12 hq13) ⟨callB_of 0 htx (xw_goodC kw_1_131) rfl rfl rfl (htx _ kw_1_2) (htx _ kw_1_128) ⟨by decide, by decide, by decide +kernel⟩ ⟨Nat.le_of_ble_eq_true rfl, Nat.le_of_ble_eq_true rfl⟩, (htx _ kw_1_129), (htx _ kw_1_130)⟩ ⟨xPre_blind, va_recv hK hP (ci := 1) rfl (q0 := 15) rfl, (fun U hU hW => ⟨rfl, xPre_of hZ hS hFc hPc hDc hK U hU hW⟩)⟩ rfl rfl hl.1 rfl (lv_room (Nat.le_of_ble_eq_true rfl)) dB_print_33 ⟨Nat.le_of_ble_eq_true rfl, Nat.le_of_ble_eq_true rfl⟩) hS (fun q _ h => hFc q h) hFc (fun r14 u9 t H1 locs ht hvm hr9 hB hz1 hk1 hS => ?_)
    obtain ⟨hP1, hK1, hD1⟩ := hB
    rw [ht] at hP1
    obtain ⟨hP, hD⟩ := xjoin (W := [(a0, .inr (0, [.ref a1, .ref a3, .ref a5, .ref a7, .ref a8, .ref a13, .int v19, .int v20])), (a1, .inr (1, [.ref a2, .int v1, .int v2])), (a2, .inl (cT 0, 4096, .inl f0)), (a5, .inr (1, [.ref a6, .int v7, .int v8])), (a6, .inl (cT 0, 4096, .inl f6)), (a7, .inl (cT 3, 8, .inr (.inr (.inr (.inr rf0))))), (a8, .inr (3, [.ref a9, .ref a10, .ref p11, .ref p13, .int v15])), (a9, .inl (cT 1, 2048, .inl f9)), (a10, .inl (cT 1, 2048, .inl f10)), (p11, .inl (cT 1, 2048, .inl f12)), (p13, .inl (cT 1, 2048, .inl f14)), (a13, .inr (2, [.ref a14, .int v17, .int v18])), (a14, .inl (cT 2, 4096, .inr (.inl f16))), (a15, .inr (2, [.ref a16, .int v22, .int v23])), (a16, .inl (cT 2, 4096, .inr (.inl f21))), (a3, .inr (1, [.ref a4, .int o10.2.1, .int o10.2.2])), (a4, .inl (cT 0, 4096, .inl o10.1))]) hP hD [15, 16] [0, 1, 2, 3, 4, 5, 6, 7, 8, 9, 10, 11, 12, 13, 14] 15 rfl rfl (by decide) (by decide) hk1 hFc hP1 hD1
    generalize H1 = H at hP hS ⊢
    rw [hr9]
    refine W.eq (g2 := F0 m 36 ls [.int o12]) rfl ?_
    obtain rfl := Option.some.inj hf
    obtain ⟨hP9, hD9⟩ := xsub (wc := [(a0, .inr (0, [.ref a1, .ref a3, .ref a5, .ref a7, .ref a8, .ref a13, .int v19, .int v20])), (a1, .inr (1, [.ref a2, .int v1, .int v2])), (a2, .inl (cT 0, 4096, .inl f0)), (a3, .inr (1, [.ref a4, .int o10.2.1, .int o10.2.2])), (a4, .inl (cT 0, 4096, .inl o10.1)), (a5, .inr (1, [.ref a6, .int v7, .int v8])), (a6, .inl (cT 0, 4096, .inl f6)), (a7, .inl (cT 3, 8, .inr (.inr (.inr (.inr rf0))))), (a8, .inr (3, [.ref a9, .ref a10, .ref p11, .ref p13, .int v15])), (a9, .inl (cT 1, 2048, .inl f9)), (a10, .inl (cT 1, 2048, .inl f10)), (p11, .inl (cT 1, 2048, .inl f12)), (p13, .inl (cT 1, 2048, .inl f14)), (a13, .inr (2, [.ref a14, .int v17, .int v18])), (a14, .inl (cT 2, 4096, .inr (.inl f16))), (a15, .inr (2, [.ref a16, .int v22, .int v23])), (a16, .inl (cT 2, 4096, .inr (.inl f21)))]) hP hD [0, 1, 2, 15, 16, 3, 4, 5, 6, 7, 8, 9, 10, 11, 12, 13, 14] rfl rfl (by decide)
    refine W.widen (k := 1) (n := 6) (Nat.le_of_ble_eq_true rfl) (Nat.le_of_ble_eq_true rfl) ?_
    exact W.iret (v := o12) hx hb hr (fun t ht hW => ⟨⟨o12, (), rfl, rfl, by rw [ht]; exact hP9, va_K.moved hW.alike hK, hD9⟩, hS.F ht⟩) hS.2.2 dB_print_36
  rw [if_neg hk6] at hf
  by_cases hk15 : o4 = 1
  · rw [if_pos hk15] at hf
    obtain rfl := Option.some.inj hf
    exact absurd (show (1 : Nat) = 0 from hkd) (by decide)
  rw [if_neg hk15] at hf
  exact nomatch hf
set_option maxHeartbeats 400000000 in
set_option maxRecDepth 100000 in
theorem gB_print_1 (l : Launch) (hl9 : l.stackTraces = false) (D : va_G) (cT : Nat → ClassId) (aK aV : Nat → Nat) (sz d n : Nat) (a0 : Nat) (a1 : Nat) (a2 : Nat) (a3 : Nat) (a4 : Nat) (a5 : Nat) (a6 : Nat) (a7 : Nat) (a8 : Nat) (a9 : Nat) (a10 : Nat) (a13 : Nat) (a14 : Nat) (a15 : Nat) (a16 : Nat) (rf0 : Nat → Option Nat) (x1 : Int32) (f0 : Nat → Int32) (v1 : Int32) (v2 : Int32) (f3 : Nat → Int32) (v4 : Int32) (v5 : Int32) (f6 : Nat → Int32) (v7 : Int32) (v8 : Int32) (f9 : Nat → Int32) (f10 : Nat → Int32) (p11 : Nat) (f12 : Nat → Int32) (p13 : Nat) (f14 : Nat → Int32) (v15 : Int32) (f16 : Nat → Int64) (v17 : Int32) (v18 : Int32) (v19 : Int32) (v20 : Int32) (f21 : Nat → Int64) (v22 : Int32) (v23 : Int32) (hr1 : ¬ (x1 < 0 ∨ 8 ≤ x1.toNatClampNeg) → rf0 x1.toNatClampNeg = some a15) (out : Nat × Int32 × (Nat → Int32) × Int32 × Int32) (hf : fB_print d n x1 f0 v1 v2 f3 v4 v5 f6 v7 v8 f9 f10 p11 f12 p13 f14 v15 f16 v17 v18 v19 v20 f21 v22 v23 = some out) (hkd : out.1 = 1) : xMetX l yB_print wyB_print (16 * d + 7) 1 6 (400 * d + 120) D cT aK aV sz [.ref a0, .int x1] [(a0, .inr (0, [.ref a1, .ref a3, .ref a5, .ref a7, .ref a8, .ref a13, .int v19, .int v20])), (a1, .inr (1, [.ref a2, .int v1, .int v2])), (a2, .inl (cT 0, 4096, .inl f0)), (a3, .inr (1, [.ref a4, .int v4, .int v5])), (a4, .inl (cT 0, 4096, .inl f3)), (a5, .inr (1, [.ref a6, .int v7, .int v8])), (a6, .inl (cT 0, 4096, .inl f6)), (a7, .inl (cT 3, 8, .inr (.inr (.inr (.inr rf0))))), (a8, .inr (3, [.ref a9, .ref a10, .ref p11, .ref p13, .int v15])), (a9, .inl (cT 1, 2048, .inl f9)), (a10, .inl (cT 1, 2048, .inl f10)), (p11, .inl (cT 1, 2048, .inl f12)), (p13, .inl (cT 1, 2048, .inl f14)), (a13, .inr (2, [.ref a14, .int v17, .int v18])), (a14, .inl (cT 2, 4096, .inr (.inl f16))), (a15, .inr (2, [.ref a16, .int v22, .int v23])), (a16, .inl (cT 2, 4096, .inr (.inl f21)))] "java/lang/IllegalArgumentException" (fun A t => xB D xcl cT A [(a0, .inr (0, [.ref a1, .ref a3, .ref a5, .ref a7, .ref a8, .ref a13, .int v19, .int v20])), (a1, .inr (1, [.ref a2, .int v1, .int v2])), (a2, .inl (cT 0, 4096, .inl f0)), (a3, .inr (1, [.ref a4, .int out.2.2.2.1, .int out.2.2.2.2])), (a4, .inl (cT 0, 4096, .inl out.2.2.1)), (a5, .inr (1, [.ref a6, .int v7, .int v8])), (a6, .inl (cT 0, 4096, .inl f6)), (a7, .inl (cT 3, 8, .inr (.inr (.inr (.inr rf0))))), (a8, .inr (3, [.ref a9, .ref a10, .ref p11, .ref p13, .int v15])), (a9, .inl (cT 1, 2048, .inl f9)), (a10, .inl (cT 1, 2048, .inl f10)), (p11, .inl (cT 1, 2048, .inl f12)), (p13, .inl (cT 1, 2048, .inl f14)), (a13, .inr (2, [.ref a14, .int v17, .int v18])), (a14, .inl (cT 2, 4096, .inr (.inl f16))), (a15, .inr (2, [.ref a16, .int v22, .int v23])), (a16, .inl (cT 2, 4096, .inr (.inl f21)))] t) := by
  refine vx_ofW (cc := prog_1_method_5_code) (maxL := 2) (ret := (some .int)) (by decide) rfl ?_
  intro p e s m args below meth c s₁ B hml hne hv
  obtain ⟨rfl, hsz, hZ, hP, hK, hD0⟩ := hv
  have hx := B.exec
  have hb := B.bytes
  have hr := B.returns
  have hts := atoms_spec (ws := wyB_print) B.pre
  have htx := fun w h => hts w (List.mem_cons_of_mem _ h)
  have hown : s.vm.findClass "ValueBench" = some m.cls := findClass_of_methodNamed B.named
  have hlocks := B.notSynchronized
  subst hsz
  have hD := hD0.self (sz := s.heap.size)
  generalize hAe : va_A [(a0, .inr (0, [.ref a1, .ref a3, .ref a5, .ref a7, .ref a8, .ref a13, .int v19, .int v20])), (a1, .inr (1, [.ref a2, .int v1, .int v2])), (a2, .inl (cT 0, 4096, .inl f0)), (a3, .inr (1, [.ref a4, .int v4, .int v5])), (a4, .inl (cT 0, 4096, .inl f3)), (a5, .inr (1, [.ref a6, .int v7, .int v8])), (a6, .inl (cT 0, 4096, .inl f6)), (a7, .inl (cT 3, 8, .inr (.inr (.inr (.inr rf0))))), (a8, .inr (3, [.ref a9, .ref a10, .ref p11, .ref p13, .int v15])), (a9, .inl (cT 1, 2048, .inl f9)), (a10, .inl (cT 1, 2048, .inl f10)), (p11, .inl (cT 1, 2048, .inl f12)), (p13, .inl (cT 1, 2048, .inl f14)), (a13, .inr (2, [.ref a14, .int v17, .int v18])), (a14, .inl (cT 2, 4096, .inr (.inl f16))), (a15, .inr (2, [.ref a16, .int v22, .int v23])), (a16, .inl (cT 2, 4096, .inr (.inl f21)))] s.heap.size = A at hD hZ ⊢
  have hA : ∀ q : Nat, s.heap.size ≤ q → A q := fun q h => by rw [← hAe]; exact Or.inr h
  have hS : va_S A s.heap s.heap [] := va_S.rf
  have hP : va_P D xcl [(a0, .inr (0, [.ref a1, .ref a3, .ref a5, .ref a7, .ref a8, .ref a13, .int v19, .int v20])), (a1, .inr (1, [.ref a2, .int v1, .int v2])), (a2, .inl (cT 0, 4096, .inl f0)), (a3, .inr (1, [.ref a4, .int v4, .int v5])), (a4, .inl (cT 0, 4096, .inl f3)), (a5, .inr (1, [.ref a6, .int v7, .int v8])), (a6, .inl (cT 0, 4096, .inl f6)), (a7, .inl (cT 3, 8, .inr (.inr (.inr (.inr rf0))))), (a8, .inr (3, [.ref a9, .ref a10, .ref p11, .ref p13, .int v15])), (a9, .inl (cT 1, 2048, .inl f9)), (a10, .inl (cT 1, 2048, .inl f10)), (p11, .inl (cT 1, 2048, .inl f12)), (p13, .inl (cT 1, 2048, .inl f14)), (a13, .inr (2, [.ref a14, .int v17, .int v18])), (a14, .inl (cT 2, 4096, .inr (.inl f16))), (a15, .inr (2, [.ref a16, .int v22, .int v23])), (a16, .inl (cT 2, 4096, .inr (.inl f21)))] s.heap := hP
  have hl := lv_entry ([.ref a0, .int x1]) (n := 2) (Nat.le_of_ble_eq_true rfl)
  rw [lg_entry_eq]
  generalize (lg_sl ([.ref a0, .int x1]) ++ List.replicate (2 - (lg_sl ([.ref a0, .int x1])).length) Slot.unset).toArray = ls at hl ⊢
  have hl : lv_has ls 2 [(0, .ref a0), (1, .int x1)] := hl
  unfold fB_print at hf
  refine lv_iload_n hx hb dB_print_0 rfl (lv_at hl 1 rfl) ?_
  obtain ⟨o1, hq2, hf⟩ := xbind hf
  obtain ⟨hPc, hDc, hFc⟩ := xcut (wc := []) hP hD hS hA [] rfl rfl (by decide)
  refine va_calli (va_runS (As := [.int x1]) (rest := []) ⟨hx, hb, hml, hown, htx⟩ (gB_isRegister l hl9 D cT aK aV s.heap.size n x1 o1 hq2) ⟨callB_of 1 htx (xw_goodC kw_2_18) rfl rfl rfl (htx _ kw_1_1) (htx _ kw_2_16) ⟨by decide, by decide, by decide +kernel⟩ ⟨Nat.le_of_ble_eq_true rfl, Nat.le_of_ble_eq_true rfl⟩, htx _ kw_2_17⟩ ⟨xPre_blind, (fun U hU hW => ⟨rfl, xPre_of hZ hS hFc hPc hDc hK U hU hW⟩)⟩ rfl rfl hl.1 rfl (lv_room (Nat.le_of_ble_eq_true rfl)) dB_print_1 ⟨Nat.le_of_ble_eq_true rfl, Nat.le_of_ble_eq_true rfl⟩) hS (fun q _ h => hFc q h) hFc (fun r3 u9 t H1 locs ht hvm hr9 hB hz1 hk1 hS => ?_)
  obtain ⟨hP1, hK1, hD1⟩ := hB
  rw [ht] at hP1
  obtain ⟨hP, hD⟩ := xjoin (W := [(a0, .inr (0, [.ref a1, .ref a3, .ref a5, .ref a7, .ref a8, .ref a13, .int v19, .int v20])), (a1, .inr (1, [.ref a2, .int v1, .int v2])), (a2, .inl (cT 0, 4096, .inl f0)), (a3, .inr (1, [.ref a4, .int v4, .int v5])), (a4, .inl (cT 0, 4096, .inl f3)), (a5, .inr (1, [.ref a6, .int v7, .int v8])), (a6, .inl (cT 0, 4096, .inl f6)), (a7, .inl (cT 3, 8, .inr (.inr (.inr (.inr rf0))))), (a8, .inr (3, [.ref a9, .ref a10, .ref p11, .ref p13, .int v15])), (a9, .inl (cT 1, 2048, .inl f9)), (a10, .inl (cT 1, 2048, .inl f10)), (p11, .inl (cT 1, 2048, .inl f12)), (p13, .inl (cT 1, 2048, .inl f14)), (a13, .inr (2, [.ref a14, .int v17, .int v18])), (a14, .inl (cT 2, 4096, .inr (.inl f16))), (a15, .inr (2, [.ref a16, .int v22, .int v23])), (a16, .inl (cT 2, 4096, .inr (.inl f21)))]) hP hD [] [0, 1, 2, 3, 4, 5, 6, 7, 8, 9, 10, 11, 12, 13, 14, 15, 16] 17 rfl rfl (by decide) (by decide) hk1 hFc hP1 hD1
  generalize H1 = H at hP hS ⊢
  rw [hr9]
  refine W.eq (g2 := F0 m 4 ls [.int o1]) rfl ?_
  obtain ⟨o4, hq5, hf⟩ := xbind hf
  by_cases hk6 : o4 = 0
  · rw [if_pos hk6] at hf
    obtain ⟨hPc, hDc, hFc⟩ := xcut (wc := []) hP hD hS hA [] rfl rfl (by decide)
    refine va_callv (va_runS (As := [.int o1]) (rest := []) ⟨hx, hb, hml, hown, htx⟩ (gB_demand l hl9 D cT aK aV H.size n o1 o4 hq5 hk6) ⟨callB_of 1 htx (xw_goodC kw_1_221) rfl rfl rfl (htx _ kw_1_1) (htx _ kw_1_219) ⟨by decide, by decide, by decide +kernel⟩ ⟨Nat.le_of_ble_eq_true rfl, Nat.le_of_ble_eq_true rfl⟩, htx _ kw_1_220⟩ ⟨xPre_blind, (fun U hU hW => ⟨rfl, xPre_of hZ hS hFc hPc hDc hK U hU hW⟩)⟩ rfl rfl hl.1 rfl (lv_room (Nat.le_of_ble_eq_true rfl)) dB_print_4 ⟨Nat.le_of_ble_eq_true rfl, Nat.le_of_ble_eq_true rfl⟩) hS (fun q _ h => hFc q h) hFc (fun u9 t H1 locs ht hvm hr9 hB hz1 hk1 hS => ?_)
    obtain ⟨hP1, hK1, hD1⟩ := hB
    rw [ht] at hP1
    obtain ⟨hP, hD⟩ := xjoin (W := [(a0, .inr (0, [.ref a1, .ref a3, .ref a5, .ref a7, .ref a8, .ref a13, .int v19, .int v20])), (a1, .inr (1, [.ref a2, .int v1, .int v2])), (a2, .inl (cT 0, 4096, .inl f0)), (a3, .inr (1, [.ref a4, .int v4, .int v5])), (a4, .inl (cT 0, 4096, .inl f3)), (a5, .inr (1, [.ref a6, .int v7, .int v8])), (a6, .inl (cT 0, 4096, .inl f6)), (a7, .inl (cT 3, 8, .inr (.inr (.inr (.inr rf0))))), (a8, .inr (3, [.ref a9, .ref a10, .ref p11, .ref p13, .int v15])), (a9, .inl (cT 1, 2048, .inl f9)), (a10, .inl (cT 1, 2048, .inl f10)), (p11, .inl (cT 1, 2048, .inl f12)), (p13, .inl (cT 1, 2048, .inl f14)), (a13, .inr (2, [.ref a14, .int v17, .int v18])), (a14, .inl (cT 2, 4096, .inr (.inl f16))), (a15, .inr (2, [.ref a16, .int v22, .int v23])), (a16, .inl (cT 2, 4096, .inr (.inl f21)))]) hP hD [] [0, 1, 2, 3, 4, 5, 6, 7, 8, 9, 10, 11, 12, 13, 14, 15, 16] 17 rfl rfl (by decide) (by decide) hk1 hFc hP1 hD1
    generalize H1 = H at hP hS ⊢
    refine lv_aload_n hx hb dB_print_7 rfl (lv_at hl 0 rfl) ?_
    refine va_get (D := D) (ci := 0) (v := .ref a3) (C := "ValueBench") (T := TB) (N := 8) hx hb htx inB hown hK hP 0 rfl rfl 1 (by decide) (htx _ kw_1_96) (fun _ h9 => h9) rfl dB_print_8 ?_
    obtain ⟨o7, hq8, hf⟩ := xbind hf
    obtain ⟨hPc, hDc, hFc⟩ := xcut (wc := [(a3, .inr (1, [.ref a4, .int v4, .int v5])), (a4, .inl (cT 0, 4096, .inl f3))]) hP hD hS hA [3, 4] rfl rfl (by decide)
    refine va_callv (va_runV (C := "ValueBench$Text") (As := []) (rest := []) ⟨hx, hb, hml, hown, htx⟩ (gT_clear l hl9 D cT aK aV H.size n a3 a4 f3 v4 v5 o7 hq8) ⟨callB_of 0 htx (xw_goodC kw_2_237) rfl rfl rfl (htx _ kw_1_2) (htx _ kw_2_234) ⟨by decide, by decide, by decide +kernel⟩ ⟨Nat.le_of_ble_eq_true rfl, Nat.le_of_ble_eq_true rfl⟩, (htx _ kw_2_235), (htx _ kw_2_236)⟩ ⟨xPre_blind, va_recv hK hP (ci := 1) rfl (q0 := 3) rfl, (fun U hU hW => ⟨rfl, xPre_of hZ hS hFc hPc hDc hK U hU hW⟩)⟩ rfl rfl hl.1 rfl (lv_room (Nat.le_of_ble_eq_true rfl)) dB_print_11 ⟨Nat.le_of_ble_eq_true rfl, Nat.le_of_ble_eq_true rfl⟩) hS (fun q _ h => hFc q h) hFc (fun u9 t H1 locs ht hvm hr9 hB hz1 hk1 hS => ?_)
    obtain ⟨hP1, hK1, hD1⟩ := hB
    rw [ht] at hP1
    obtain ⟨hP, hD⟩ := xjoin (W := [(a0, .inr (0, [.ref a1, .ref a3, .ref a5, .ref a7, .ref a8, .ref a13, .int v19, .int v20])), (a1, .inr (1, [.ref a2, .int v1, .int v2])), (a2, .inl (cT 0, 4096, .inl f0)), (a5, .inr (1, [.ref a6, .int v7, .int v8])), (a6, .inl (cT 0, 4096, .inl f6)), (a7, .inl (cT 3, 8, .inr (.inr (.inr (.inr rf0))))), (a8, .inr (3, [.ref a9, .ref a10, .ref p11, .ref p13, .int v15])), (a9, .inl (cT 1, 2048, .inl f9)), (a10, .inl (cT 1, 2048, .inl f10)), (p11, .inl (cT 1, 2048, .inl f12)), (p13, .inl (cT 1, 2048, .inl f14)), (a13, .inr (2, [.ref a14, .int v17, .int v18])), (a14, .inl (cT 2, 4096, .inr (.inl f16))), (a15, .inr (2, [.ref a16, .int v22, .int v23])), (a16, .inl (cT 2, 4096, .inr (.inl f21))), (a3, .inr (1, [.ref a4, .int o7.1, .int o7.2])), (a4, .inl (cT 0, 4096, .inl f3))]) hP hD [3, 4] [0, 1, 2, 5, 6, 7, 8, 9, 10, 11, 12, 13, 14, 15, 16] 15 rfl rfl (by decide) (by decide) hk1 hFc hP1 hD1
    generalize H1 = H at hP hS ⊢
    refine lv_aload_n hx hb dB_print_14 rfl (lv_at hl 0 rfl) ?_
    refine va_get (D := D) (ci := 0) (v := .ref a7) (C := "ValueBench") (T := TB) (N := 8) hx hb htx inB hown hK hP 0 rfl rfl 3 (by decide) (htx _ kw_1_98) (fun _ h9 => h9) rfl dB_print_15 ?_
    refine lv_iload_n hx hb dB_print_18 rfl (lv_at hl 1 rfl) ?_
    obtain ⟨hg9, hf⟩ := xifn hf
    refine va_aldq hx hb hK hP 5 3 rfl rfl hg9 dB_print_19 ?_
    refine W.eq (g2 := F0 m 20 ls [va_rf (rf0 x1.toNatClampNeg)]) rfl ?_
    rw [hr1 hg9]
    refine W.eq (g2 := F0 m 20 ls [.ref a15]) rfl ?_
    refine lv_iconst (v := 0) hx hb dB_print_20 (by decide) ?_
    refine lv_aload_n hx hb dB_print_21 rfl (lv_at hl 0 rfl) ?_
    refine va_get (D := D) (ci := 0) (v := .ref a3) (C := "ValueBench") (T := TB) (N := 8) hx hb htx inB hown hK hP 0 rfl rfl 1 (by decide) (htx _ kw_1_96) (fun _ h9 => h9) rfl dB_print_22 ?_
    refine lv_iconst (v := 0) hx hb dB_print_25 (by decide) ?_
    obtain ⟨o10, hq11, hf⟩ := xbind hf
    obtain ⟨hPc, hDc, hFc⟩ := xcut (wc := [(a15, .inr (2, [.ref a16, .int v22, .int v23])), (a16, .inl (cT 2, 4096, .inr (.inl f21))), (a3, .inr (1, [.ref a4, .int o7.1, .int o7.2])), (a4, .inl (cT 0, 4096, .inl f3))]) hP hD hS hA [13, 14, 15, 16] rfl rfl (by decide)
    refine va_callv (va_runS (As := [.ref a15, .int 0, .ref a3, .int 0]) (rest := []) ⟨hx, hb, hml, hown, htx⟩ (gP_write l hl9 D cT aK aV d H.size n a15 a16 a3 a4 (0 : Int32) (0 : Int32) f21 v22 v23 f3 o7.1 o7.2 o10 hq11) ⟨callB_of 4 htx (xw_goodC kw_3_20) rfl rfl rfl (htx _ kw_1_18) (htx _ kw_3_18) ⟨by decide, by decide, by decide +kernel⟩ ⟨(by show (16 * d) + 1 ≤ 16 * d + 7; omega), (by show 8 + (4 + 11) + (400 * d) ≤ 400 * d + 120; omega)⟩, htx _ kw_3_19⟩ ⟨xPre_blind, (fun U hU hW => ⟨rfl, xPre_of hZ hS hFc hPc hDc hK U hU hW⟩)⟩ rfl rfl hl.1 rfl (lv_room (Nat.le_of_ble_eq_true rfl)) dB_print_26 ⟨Nat.le_of_ble_eq_true rfl, Nat.le_of_ble_eq_true rfl⟩) hS (fun q _ h => hFc q h) hFc (fun u9 t H1 locs ht hvm hr9 hB hz1 hk1 hS => ?_)
    obtain ⟨hP1, hK1, hD1⟩ := hB
    rw [ht] at hP1
    obtain ⟨hP, hD⟩ := xjoin (W := [(a0, .inr (0, [.ref a1, .ref a3, .ref a5, .ref a7, .ref a8, .ref a13, .int v19, .int v20])), (a1, .inr (1, [.ref a2, .int v1, .int v2])), (a2, .inl (cT 0, 4096, .inl f0)), (a5, .inr (1, [.ref a6, .int v7, .int v8])), (a6, .inl (cT 0, 4096, .inl f6)), (a7, .inl (cT 3, 8, .inr (.inr (.inr (.inr rf0))))), (a8, .inr (3, [.ref a9, .ref a10, .ref p11, .ref p13, .int v15])), (a9, .inl (cT 1, 2048, .inl f9)), (a10, .inl (cT 1, 2048, .inl f10)), (p11, .inl (cT 1, 2048, .inl f12)), (p13, .inl (cT 1, 2048, .inl f14)), (a13, .inr (2, [.ref a14, .int v17, .int v18])), (a14, .inl (cT 2, 4096, .inr (.inl f16))), (a15, .inr (2, [.ref a16, .int v22, .int v23])), (a16, .inl (cT 2, 4096, .inr (.inl f21))), (a3, .inr (1, [.ref a4, .int o10.2.1, .int o10.2.2])), (a4, .inl (cT 0, 4096, .inl o10.1))]) hP hD [13, 14, 15, 16] [0, 1, 2, 3, 4, 5, 6, 7, 8, 9, 10, 11, 12] 13 rfl rfl (by decide) (by decide) hk1 hFc hP1 hD1
    generalize H1 = H at hP hS ⊢
    refine lv_aload_n hx hb dB_print_29 rfl (lv_at hl 0 rfl) ?_
    refine va_get (D := D) (ci := 0) (v := .ref a3) (C := "ValueBench") (T := TB) (N := 8) hx hb htx inB hown hK hP 0 rfl rfl 1 (by decide) (htx _ kw_1_96) (fun _ h9 => h9) rfl dB_print_30 ?_
    obtain ⟨o12, hq13, hf⟩ := xbind hf
    obtain ⟨hPc, hDc, hFc⟩ := xcut (wc := [(a3, .inr (1, [.ref a4, .int o10.2.1, .int o10.2.2])), (a4, .inl (cT 0, 4096, .inl o10.1))]) hP hD hS hA [15, 16] rfl rfl (by decide)
    refine va_calli (va_runV (C := "ValueBench$Text") (As := []) (rest := []) ⟨hx, hb, hml, hown, htx⟩ (gT_size l hl9 D cT aK aV H.size n a3 a4 o10.1 o10.2.1 o10.2.2 o12 hq13) ⟨callB_of 0 htx (xw_goodC kw_1_131) rfl rfl rfl (htx _ kw_1_2) (htx _ kw_1_128) ⟨by decide, by decide, by decide +kernel⟩ ⟨Nat.le_of_ble_eq_true rfl, Nat.le_of_ble_eq_true rfl⟩, (htx _ kw_1_129), (htx _ kw_1_130)⟩ ⟨xPre_blind, va_recv hK hP (ci := 1) rfl (q0 := 15) rfl, (fun U hU hW => ⟨rfl, xPre_of hZ hS hFc hPc hDc hK U hU hW⟩)⟩ rfl rfl hl.1 rfl (lv_room (Nat.le_of_ble_eq_true rfl)) dB_print_33 ⟨Nat.le_of_ble_eq_true rfl, Nat.le_of_ble_eq_true rfl⟩) hS (fun q _ h => hFc q h) hFc (fun r14 u9 t H1 locs ht hvm hr9 hB hz1 hk1 hS => ?_)
    obtain ⟨hP1, hK1, hD1⟩ := hB
    rw [ht] at hP1
    obtain ⟨hP, hD⟩ := xjoin (W := [(a0, .inr (0, [.ref a1, .ref a3, .ref a5, .ref a7, .ref a8, .ref a13, .int v19, .int v20])), (a1, .inr (1, [.ref a2, .int v1, .int v2])), (a2, .inl (cT 0, 4096, .inl f0)), (a5, .inr (1, [.ref a6, .int v7, .int v8])), (a6, .inl (cT 0, 4096, .inl f6)), (a7, .inl (cT 3, 8, .inr (.inr (.inr (.inr rf0))))), (a8, .inr (3, [.ref a9, .ref a10, .ref p11, .ref p13, .int v15])), (a9, .inl (cT 1, 2048, .inl f9)), (a10, .inl (cT 1, 2048, .inl f10)), (p11, .inl (cT 1, 2048, .inl f12)), (p13, .inl (cT 1, 2048, .inl f14)), (a13, .inr (2, [.ref a14, .int v17, .int v18])), (a14, .inl (cT 2, 4096, .inr (.inl f16))), (a15, .inr (2, [.ref a16, .int v22, .int v23])), (a16, .inl (cT 2, 4096, .inr (.inl f21))), (a3, .inr (1, [.ref a4, .int o10.2.1, .int o10.2.2])), (a4, .inl (cT 0, 4096, .inl o10.1))]) hP hD [15, 16] [0, 1, 2, 3, 4, 5, 6, 7, 8, 9, 10, 11, 12, 13, 14] 15 rfl rfl (by decide) (by decide) hk1 hFc hP1 hD1
    generalize H1 = H at hP hS ⊢
    rw [hr9]
    refine W.eq (g2 := F0 m 36 ls [.int o12]) rfl ?_
    obtain rfl := Option.some.inj hf
    exact absurd (show (0 : Nat) = 1 from hkd) (by decide)
  rw [if_neg hk6] at hf
  by_cases hk15 : o4 = 1
  · rw [if_pos hk15] at hf
    obtain ⟨hPc, hDc, hFc⟩ := xcut (wc := []) hP hD hS hA [] rfl rfl (by decide)
    refine xx_thr (vx_runS (As := [.int o1]) (rest := []) ⟨hx, hb, hml, hown, htx⟩ (gB_demand_1 l hl9 D cT aK aV H.size n o1 o4 hq5 hk15) ⟨callB_of 1 htx (xw_goodC kw_1_221) rfl rfl rfl (htx _ kw_1_1) (htx _ kw_1_219) ⟨by decide, by decide, by decide +kernel⟩ ⟨Nat.le_of_ble_eq_true rfl, Nat.le_of_ble_eq_true rfl⟩, htx _ kw_1_220⟩ ⟨xPre_blind, (fun U hU hW => ⟨rfl, xPre_of hZ hS hFc hPc hDc hK U hU hW⟩)⟩ rfl rfl hl.1 rfl (lv_room (Nat.le_of_ble_eq_true rfl)) dB_print_4 ⟨Nat.le_of_ble_eq_true rfl, Nat.le_of_ble_eq_true rfl⟩) hS hFc (fun q _ h => hFc q h) (fun E ce q9 u9 t H1 locs ht hvm _ hB hz1 hk1 hS hce hcv hcl => ?_)
    obtain ⟨rfl, hP1, hK1, hD1⟩ := hB
    rw [ht] at hP1
    obtain ⟨hP, hD⟩ := xjoin (W := [(a0, .inr (0, [.ref a1, .ref a3, .ref a5, .ref a7, .ref a8, .ref a13, .int v19, .int v20])), (a1, .inr (1, [.ref a2, .int v1, .int v2])), (a2, .inl (cT 0, 4096, .inl f0)), (a3, .inr (1, [.ref a4, .int v4, .int v5])), (a4, .inl (cT 0, 4096, .inl f3)), (a5, .inr (1, [.ref a6, .int v7, .int v8])), (a6, .inl (cT 0, 4096, .inl f6)), (a7, .inl (cT 3, 8, .inr (.inr (.inr (.inr rf0))))), (a8, .inr (3, [.ref a9, .ref a10, .ref p11, .ref p13, .int v15])), (a9, .inl (cT 1, 2048, .inl f9)), (a10, .inl (cT 1, 2048, .inl f10)), (p11, .inl (cT 1, 2048, .inl f12)), (p13, .inl (cT 1, 2048, .inl f14)), (a13, .inr (2, [.ref a14, .int v17, .int v18])), (a14, .inl (cT 2, 4096, .inr (.inl f16))), (a15, .inr (2, [.ref a16, .int v22, .int v23])), (a16, .inl (cT 2, 4096, .inr (.inl f21)))]) hP hD [] [0, 1, 2, 3, 4, 5, 6, 7, 8, 9, 10, 11, 12, 13, 14, 15, 16] 17 rfl rfl (by decide) (by decide) hk1 hFc hP1 hD1
    generalize H1 = H at hP hS hce ⊢
    obtain rfl := Option.some.inj hf
    obtain ⟨hP9, hD9⟩ := xsub (wc := [(a0, .inr (0, [.ref a1, .ref a3, .ref a5, .ref a7, .ref a8, .ref a13, .int v19, .int v20])), (a1, .inr (1, [.ref a2, .int v1, .int v2])), (a2, .inl (cT 0, 4096, .inl f0)), (a3, .inr (1, [.ref a4, .int v4, .int v5])), (a4, .inl (cT 0, 4096, .inl f3)), (a5, .inr (1, [.ref a6, .int v7, .int v8])), (a6, .inl (cT 0, 4096, .inl f6)), (a7, .inl (cT 3, 8, .inr (.inr (.inr (.inr rf0))))), (a8, .inr (3, [.ref a9, .ref a10, .ref p11, .ref p13, .int v15])), (a9, .inl (cT 1, 2048, .inl f9)), (a10, .inl (cT 1, 2048, .inl f10)), (p11, .inl (cT 1, 2048, .inl f12)), (p13, .inl (cT 1, 2048, .inl f14)), (a13, .inr (2, [.ref a14, .int v17, .int v18])), (a14, .inl (cT 2, 4096, .inr (.inl f16))), (a15, .inr (2, [.ref a16, .int v22, .int v23])), (a16, .inl (cT 2, 4096, .inr (.inl f21)))]) hP hD [0, 1, 2, 3, 4, 5, 6, 7, 8, 9, 10, 11, 12, 13, 14, 15, 16] rfl rfl (by decide)
    exact vx_out (E := "java/lang/IllegalArgumentException") (fun x h => (hne x h).elim) hlocks hce hcv hcl (fun t ht ha => ⟨(), trivial, ⟨rfl, by rw [ht]; exact hP9, va_K.moved ha hK, hD9⟩, hS.F ht⟩) hS.2.2 (Nat.le_of_ble_eq_true rfl) (Nat.le_of_ble_eq_true rfl)
  rw [if_neg hk15] at hf
  exact nomatch hf
set_option maxHeartbeats 400000000 in
set_option maxRecDepth 100000 in
theorem gB_demandDone (l : Launch) (hl9 : l.stackTraces = false) (D : va_G) (cT : Nat → ClassId) (aK aV : Nat → Nat) (sz n : Nat) (a0 : Nat) (a1 : Nat) (a2 : Nat) (a3 : Nat) (a4 : Nat) (a5 : Nat) (a6 : Nat) (a7 : Nat) (a8 : Nat) (a9 : Nat) (a10 : Nat) (a13 : Nat) (a14 : Nat) (rf0 : Nat → Option Nat) (x1 : Int32) (f0 : Nat → Int32) (v1 : Int32) (v2 : Int32) (f3 : Nat → Int32) (v4 : Int32) (v5 : Int32) (f6 : Nat → Int32) (v7 : Int32) (v8 : Int32) (f9 : Nat → Int32) (f10 : Nat → Int32) (p11 : Nat) (f12 : Nat → Int32) (p13 : Nat) (f14 : Nat → Int32) (v15 : Int32) (f16 : Nat → Int64) (v17 : Int32) (v18 : Int32) (v19 : Int32) (v20 : Int32) (out : Nat × Int32) (hf : fB_demandDone n x1 f0 v1 v2 f3 v4 v5 f6 v7 v8 f9 f10 p11 f12 p13 f14 v15 f16 v17 v18 v19 v20 = some out) (hkd : out.1 = 0) : xMet l yB_demandDone wyB_demandDone 6 1 6 100 D cT aK aV sz [.ref a0, .int x1] [(a0, .inr (0, [.ref a1, .ref a3, .ref a5, .ref a7, .ref a8, .ref a13, .int v19, .int v20])), (a1, .inr (1, [.ref a2, .int v1, .int v2])), (a2, .inl (cT 0, 4096, .inl f0)), (a3, .inr (1, [.ref a4, .int v4, .int v5])), (a4, .inl (cT 0, 4096, .inl f3)), (a5, .inr (1, [.ref a6, .int v7, .int v8])), (a6, .inl (cT 0, 4096, .inl f6)), (a7, .inl (cT 3, 8, .inr (.inr (.inr (.inr rf0))))), (a8, .inr (3, [.ref a9, .ref a10, .ref p11, .ref p13, .int v15])), (a9, .inl (cT 1, 2048, .inl f9)), (a10, .inl (cT 1, 2048, .inl f10)), (p11, .inl (cT 1, 2048, .inl f12)), (p13, .inl (cT 1, 2048, .inl f14)), (a13, .inr (2, [.ref a14, .int v17, .int v18])), (a14, .inl (cT 2, 4096, .inr (.inl f16)))] (fun A => va_Qv (fun _ : Unit => True) (fun _ t => xB D xcl cT A [(a0, .inr (0, [.ref a1, .ref a3, .ref a5, .ref a7, .ref a8, .ref a13, .int v19, .int out.2])), (a1, .inr (1, [.ref a2, .int v1, .int v2])), (a2, .inl (cT 0, 4096, .inl f0)), (a3, .inr (1, [.ref a4, .int v4, .int v5])), (a4, .inl (cT 0, 4096, .inl f3)), (a5, .inr (1, [.ref a6, .int v7, .int v8])), (a6, .inl (cT 0, 4096, .inl f6)), (a7, .inl (cT 3, 8, .inr (.inr (.inr (.inr rf0))))), (a8, .inr (3, [.ref a9, .ref a10, .ref p11, .ref p13, .int v15])), (a9, .inl (cT 1, 2048, .inl f9)), (a10, .inl (cT 1, 2048, .inl f10)), (p11, .inl (cT 1, 2048, .inl f12)), (p13, .inl (cT 1, 2048, .inl f14)), (a13, .inr (2, [.ref a14, .int v17, .int v18])), (a14, .inl (cT 2, 4096, .inr (.inl f16)))] t) A) := by
  refine Met.ofW (cc := prog_1_method_17_code) (maxL := 2) (ret := none) (by decide) rfl ?_
  intro p e s m args below meth c s₁ B hml hv
  obtain ⟨rfl, hsz, hZ, hP, hK, hD0⟩ := hv
  have hx := B.exec
  have hb := B.bytes
  have hr := B.returns
  have hts := atoms_spec (ws := wyB_demandDone) B.pre
  have htx := fun w h => hts w (List.mem_cons_of_mem _ h)
  have hown : s.vm.findClass "ValueBench" = some m.cls := findClass_of_methodNamed B.named
  have hlocks := B.notSynchronized
  subst hsz
  have hD := hD0.self (sz := s.heap.size)
  generalize hAe : va_A [(a0, .inr (0, [.ref a1, .ref a3, .ref a5, .ref a7, .ref a8, .ref a13, .int v19, .int v20])), (a1, .inr (1, [.ref a2, .int v1, .int v2])), (a2, .inl (cT 0, 4096, .inl f0)), (a3, .inr (1, [.ref a4, .int v4, .int v5])), (a4, .inl (cT 0, 4096, .inl f3)), (a5, .inr (1, [.ref a6, .int v7, .int v8])), (a6, .inl (cT 0, 4096, .inl f6)), (a7, .inl (cT 3, 8, .inr (.inr (.inr (.inr rf0))))), (a8, .inr (3, [.ref a9, .ref a10, .ref p11, .ref p13, .int v15])), (a9, .inl (cT 1, 2048, .inl f9)), (a10, .inl (cT 1, 2048, .inl f10)), (p11, .inl (cT 1, 2048, .inl f12)), (p13, .inl (cT 1, 2048, .inl f14)), (a13, .inr (2, [.ref a14, .int v17, .int v18])), (a14, .inl (cT 2, 4096, .inr (.inl f16)))] s.heap.size = A at hD hZ ⊢
  have hA : ∀ q : Nat, s.heap.size ≤ q → A q := fun q h => by rw [← hAe]; exact Or.inr h
  have hS : va_S A s.heap s.heap [] := va_S.rf
  have hP : va_P D xcl [(a0, .inr (0, [.ref a1, .ref a3, .ref a5, .ref a7, .ref a8, .ref a13, .int v19, .int v20])), (a1, .inr (1, [.ref a2, .int v1, .int v2])), (a2, .inl (cT 0, 4096, .inl f0)), (a3, .inr (1, [.ref a4, .int v4, .int v5])), (a4, .inl (cT 0, 4096, .inl f3)), (a5, .inr (1, [.ref a6, .int v7, .int v8])), (a6, .inl (cT 0, 4096, .inl f6)), (a7, .inl (cT 3, 8, .inr (.inr (.inr (.inr rf0))))), (a8, .inr (3, [.ref a9, .ref a10, .ref p11, .ref p13, .int v15])), (a9, .inl (cT 1, 2048, .inl f9)), (a10, .inl (cT 1, 2048, .inl f10)), (p11, .inl (cT 1, 2048, .inl f12)), (p13, .inl (cT 1, 2048, .inl f14)), (a13, .inr (2, [.ref a14, .int v17, .int v18])), (a14, .inl (cT 2, 4096, .inr (.inl f16)))] s.heap := hP
  have hl := lv_entry ([.ref a0, .int x1]) (n := 2) (Nat.le_of_ble_eq_true rfl)
  rw [lg_entry_eq]
  generalize (lg_sl ([.ref a0, .int x1]) ++ List.replicate (2 - (lg_sl ([.ref a0, .int x1])).length) Slot.unset).toArray = ls at hl ⊢
  have hl : lv_has ls 2 [(0, .ref a0), (1, .int x1)] := hl
  unfold fB_demandDone at hf
  refine lv_iload_n hx hb dB_demandDone_0 rfl (lv_at hl 1 rfl) ?_
  refine lv_if_ne (tgt := 5) hx hb dB_demandDone_1 (by decide) (fun hc => ?_) (fun hc => ?_)
  · rw [if_neg hc] at hf
    refine lv_aload_n hx hb dB_demandDone_5 rfl (lv_at hl 0 rfl) ?_
    refine lv_iload_n hx hb dB_demandDone_6 rfl (lv_at hl 1 rfl) ?_
    refine va_put (D := D) (ci := 0) (v := .int x1) (ty := .int) (C := "ValueBench") (T := TB) (N := 8) hx hb htx inB tyB tyB_ok nmB hown hK hP hD hS 0 rfl rfl 7 (by decide) (htx _ kw_1_102) (fun _ h9 => h9) rfl (by decide +kernel) rfl rfl (Nat.le_of_ble_eq_true rfl) dB_demandDone_7 (fun H locs hP hD hS => ?_)
    obtain ⟨hP, hD⟩ : xPD D xcl A [(a0, .inr (0, [.ref a1, .ref a3, .ref a5, .ref a7, .ref a8, .ref a13, .int v19, .int x1])), (a1, .inr (1, [.ref a2, .int v1, .int v2])), (a2, .inl (cT 0, 4096, .inl f0)), (a3, .inr (1, [.ref a4, .int v4, .int v5])), (a4, .inl (cT 0, 4096, .inl f3)), (a5, .inr (1, [.ref a6, .int v7, .int v8])), (a6, .inl (cT 0, 4096, .inl f6)), (a7, .inl (cT 3, 8, .inr (.inr (.inr (.inr rf0))))), (a8, .inr (3, [.ref a9, .ref a10, .ref p11, .ref p13, .int v15])), (a9, .inl (cT 1, 2048, .inl f9)), (a10, .inl (cT 1, 2048, .inl f10)), (p11, .inl (cT 1, 2048, .inl f12)), (p13, .inl (cT 1, 2048, .inl f14)), (a13, .inr (2, [.ref a14, .int v17, .int v18])), (a14, .inl (cT 2, 4096, .inr (.inl f16)))] H := ⟨hP, hD⟩
    refine lv_iload_n hx hb dB_demandDone_10 rfl (lv_at hl 1 rfl) ?_
    by_cases hc1 : x1 = 1
    · rw [if_pos hc1] at hf
      refine lv_tableIn (off := 29) (tgt := 40) hx hb dB_demandDone_11 (by rw [hc1]; decide) (by rw [hc1]; decide) (by rw [hc1]; decide) (by decide) ?_
      obtain rfl := Option.some.inj hf
      exact absurd (show (1 : Nat) = 0 from hkd) (by decide)
    rw [if_neg hc1] at hf
    by_cases hc2 : x1 = 2
    · rw [if_pos hc2] at hf
      refine lv_tableIn (off := 39) (tgt := 50) hx hb dB_demandDone_11 (by rw [hc2]; decide) (by rw [hc2]; decide) (by rw [hc2]; decide) (by decide) ?_
      obtain rfl := Option.some.inj hf
      exact absurd (show (1 : Nat) = 0 from hkd) (by decide)
    rw [if_neg hc2] at hf
    by_cases hc3 : x1 = 3
    · rw [if_pos hc3] at hf
      refine lv_tableIn (off := 49) (tgt := 60) hx hb dB_demandDone_11 (by rw [hc3]; decide) (by rw [hc3]; decide) (by rw [hc3]; decide) (by decide) ?_
      obtain rfl := Option.some.inj hf
      exact absurd (show (1 : Nat) = 0 from hkd) (by decide)
    rw [if_neg hc3] at hf
    by_cases hc4 : x1 = 4
    · rw [if_pos hc4] at hf
      refine lv_tableIn (off := 59) (tgt := 70) hx hb dB_demandDone_11 (by rw [hc4]; decide) (by rw [hc4]; decide) (by rw [hc4]; decide) (by decide) ?_
      obtain rfl := Option.some.inj hf
      exact absurd (show (1 : Nat) = 0 from hkd) (by decide)
    rw [if_neg hc4] at hf
    refine lv_tableOut (tgt := 80) hx hb dB_demandDone_11 (by have e0 : x1.toInt ≠ 1 := xsw hc1 (by decide); have e1 : x1.toInt ≠ 2 := xsw hc2 (by decide); have e2 : x1.toInt ≠ 3 := xsw hc3 (by decide); have e3 : x1.toInt ≠ 4 := xsw hc4 (by decide); omega) (by decide) ?_
    obtain rfl := Option.some.inj hf
    exact absurd (show (1 : Nat) = 0 from hkd) (by decide)
  · rw [if_pos hc] at hf
    obtain rfl := Option.some.inj hf
    obtain ⟨hP9, hD9⟩ := xsub (wc := [(a0, .inr (0, [.ref a1, .ref a3, .ref a5, .ref a7, .ref a8, .ref a13, .int v19, .int v20])), (a1, .inr (1, [.ref a2, .int v1, .int v2])), (a2, .inl (cT 0, 4096, .inl f0)), (a3, .inr (1, [.ref a4, .int v4, .int v5])), (a4, .inl (cT 0, 4096, .inl f3)), (a5, .inr (1, [.ref a6, .int v7, .int v8])), (a6, .inl (cT 0, 4096, .inl f6)), (a7, .inl (cT 3, 8, .inr (.inr (.inr (.inr rf0))))), (a8, .inr (3, [.ref a9, .ref a10, .ref p11, .ref p13, .int v15])), (a9, .inl (cT 1, 2048, .inl f9)), (a10, .inl (cT 1, 2048, .inl f10)), (p11, .inl (cT 1, 2048, .inl f12)), (p13, .inl (cT 1, 2048, .inl f14)), (a13, .inr (2, [.ref a14, .int v17, .int v18])), (a14, .inl (cT 2, 4096, .inr (.inl f16)))]) hP hD [0, 1, 2, 3, 4, 5, 6, 7, 8, 9, 10, 11, 12, 13, 14] rfl rfl (by decide)
    refine W.widen (k := 1) (n := 6) (Nat.le_of_ble_eq_true rfl) (Nat.le_of_ble_eq_true rfl) ?_
    exact W.vret hx hb hr (fun t ht hW => ⟨⟨(), rfl, trivial, by rw [ht]; exact hP9, va_K.moved hW.alike hK, hD9⟩, hS.F ht⟩) hS.2.2 dB_demandDone_4
set_option maxHeartbeats 400000000 in
set_option maxRecDepth 100000 in
theorem gB_demandDone_1 (l : Launch) (hl9 : l.stackTraces = false) (D : va_G) (cT : Nat → ClassId) (aK aV : Nat → Nat) (sz n : Nat) (a0 : Nat) (a1 : Nat) (a2 : Nat) (a3 : Nat) (a4 : Nat) (a5 : Nat) (a6 : Nat) (a7 : Nat) (a8 : Nat) (a9 : Nat) (a10 : Nat) (a13 : Nat) (a14 : Nat) (rf0 : Nat → Option Nat) (x1 : Int32) (f0 : Nat → Int32) (v1 : Int32) (v2 : Int32) (f3 : Nat → Int32) (v4 : Int32) (v5 : Int32) (f6 : Nat → Int32) (v7 : Int32) (v8 : Int32) (f9 : Nat → Int32) (f10 : Nat → Int32) (p11 : Nat) (f12 : Nat → Int32) (p13 : Nat) (f14 : Nat → Int32) (v15 : Int32) (f16 : Nat → Int64) (v17 : Int32) (v18 : Int32) (v19 : Int32) (v20 : Int32) (out : Nat × Int32) (hf : fB_demandDone n x1 f0 v1 v2 f3 v4 v5 f6 v7 v8 f9 f10 p11 f12 p13 f14 v15 f16 v17 v18 v19 v20 = some out) (hkd : out.1 = 1) : xMetX l yB_demandDone wyB_demandDone 6 1 6 100 D cT aK aV sz [.ref a0, .int x1] [(a0, .inr (0, [.ref a1, .ref a3, .ref a5, .ref a7, .ref a8, .ref a13, .int v19, .int v20])), (a1, .inr (1, [.ref a2, .int v1, .int v2])), (a2, .inl (cT 0, 4096, .inl f0)), (a3, .inr (1, [.ref a4, .int v4, .int v5])), (a4, .inl (cT 0, 4096, .inl f3)), (a5, .inr (1, [.ref a6, .int v7, .int v8])), (a6, .inl (cT 0, 4096, .inl f6)), (a7, .inl (cT 3, 8, .inr (.inr (.inr (.inr rf0))))), (a8, .inr (3, [.ref a9, .ref a10, .ref p11, .ref p13, .int v15])), (a9, .inl (cT 1, 2048, .inl f9)), (a10, .inl (cT 1, 2048, .inl f10)), (p11, .inl (cT 1, 2048, .inl f12)), (p13, .inl (cT 1, 2048, .inl f14)), (a13, .inr (2, [.ref a14, .int v17, .int v18])), (a14, .inl (cT 2, 4096, .inr (.inl f16)))] "java/lang/ArithmeticException" (fun A t => xB D xcl cT A [(a0, .inr (0, [.ref a1, .ref a3, .ref a5, .ref a7, .ref a8, .ref a13, .int v19, .int out.2])), (a1, .inr (1, [.ref a2, .int v1, .int v2])), (a2, .inl (cT 0, 4096, .inl f0)), (a3, .inr (1, [.ref a4, .int v4, .int v5])), (a4, .inl (cT 0, 4096, .inl f3)), (a5, .inr (1, [.ref a6, .int v7, .int v8])), (a6, .inl (cT 0, 4096, .inl f6)), (a7, .inl (cT 3, 8, .inr (.inr (.inr (.inr rf0))))), (a8, .inr (3, [.ref a9, .ref a10, .ref p11, .ref p13, .int v15])), (a9, .inl (cT 1, 2048, .inl f9)), (a10, .inl (cT 1, 2048, .inl f10)), (p11, .inl (cT 1, 2048, .inl f12)), (p13, .inl (cT 1, 2048, .inl f14)), (a13, .inr (2, [.ref a14, .int v17, .int v18])), (a14, .inl (cT 2, 4096, .inr (.inl f16)))] t) := by
  refine vx_ofW (cc := prog_1_method_17_code) (maxL := 2) (ret := none) (by decide) rfl ?_
  intro p e s m args below meth c s₁ B hml hne hv
  obtain ⟨rfl, hsz, hZ, hP, hK, hD0⟩ := hv
  have hx := B.exec
  have hb := B.bytes
  have hr := B.returns
  have hts := atoms_spec (ws := wyB_demandDone) B.pre
  have htx := fun w h => hts w (List.mem_cons_of_mem _ h)
  have hown : s.vm.findClass "ValueBench" = some m.cls := findClass_of_methodNamed B.named
  have hlocks := B.notSynchronized
  subst hsz
  have hD := hD0.self (sz := s.heap.size)
  generalize hAe : va_A [(a0, .inr (0, [.ref a1, .ref a3, .ref a5, .ref a7, .ref a8, .ref a13, .int v19, .int v20])), (a1, .inr (1, [.ref a2, .int v1, .int v2])), (a2, .inl (cT 0, 4096, .inl f0)), (a3, .inr (1, [.ref a4, .int v4, .int v5])), (a4, .inl (cT 0, 4096, .inl f3)), (a5, .inr (1, [.ref a6, .int v7, .int v8])), (a6, .inl (cT 0, 4096, .inl f6)), (a7, .inl (cT 3, 8, .inr (.inr (.inr (.inr rf0))))), (a8, .inr (3, [.ref a9, .ref a10, .ref p11, .ref p13, .int v15])), (a9, .inl (cT 1, 2048, .inl f9)), (a10, .inl (cT 1, 2048, .inl f10)), (p11, .inl (cT 1, 2048, .inl f12)), (p13, .inl (cT 1, 2048, .inl f14)), (a13, .inr (2, [.ref a14, .int v17, .int v18])), (a14, .inl (cT 2, 4096, .inr (.inl f16)))] s.heap.size = A at hD hZ ⊢
  have hA : ∀ q : Nat, s.heap.size ≤ q → A q := fun q h => by rw [← hAe]; exact Or.inr h
  have hS : va_S A s.heap s.heap [] := va_S.rf
  have hP : va_P D xcl [(a0, .inr (0, [.ref a1, .ref a3, .ref a5, .ref a7, .ref a8, .ref a13, .int v19, .int v20])), (a1, .inr (1, [.ref a2, .int v1, .int v2])), (a2, .inl (cT 0, 4096, .inl f0)), (a3, .inr (1, [.ref a4, .int v4, .int v5])), (a4, .inl (cT 0, 4096, .inl f3)), (a5, .inr (1, [.ref a6, .int v7, .int v8])), (a6, .inl (cT 0, 4096, .inl f6)), (a7, .inl (cT 3, 8, .inr (.inr (.inr (.inr rf0))))), (a8, .inr (3, [.ref a9, .ref a10, .ref p11, .ref p13, .int v15])), (a9, .inl (cT 1, 2048, .inl f9)), (a10, .inl (cT 1, 2048, .inl f10)), (p11, .inl (cT 1, 2048, .inl f12)), (p13, .inl (cT 1, 2048, .inl f14)), (a13, .inr (2, [.ref a14, .int v17, .int v18])), (a14, .inl (cT 2, 4096, .inr (.inl f16)))] s.heap := hP
  have hl := lv_entry ([.ref a0, .int x1]) (n := 2) (Nat.le_of_ble_eq_true rfl)
  rw [lg_entry_eq]
  generalize (lg_sl ([.ref a0, .int x1]) ++ List.replicate (2 - (lg_sl ([.ref a0, .int x1])).length) Slot.unset).toArray = ls at hl ⊢
  have hl : lv_has ls 2 [(0, .ref a0), (1, .int x1)] := hl
  unfold fB_demandDone at hf
  refine lv_iload_n hx hb dB_demandDone_0 rfl (lv_at hl 1 rfl) ?_
  refine lv_if_ne (tgt := 5) hx hb dB_demandDone_1 (by decide) (fun hc => ?_) (fun hc => ?_)
  · rw [if_neg hc] at hf
    refine lv_aload_n hx hb dB_demandDone_5 rfl (lv_at hl 0 rfl) ?_
    refine lv_iload_n hx hb dB_demandDone_6 rfl (lv_at hl 1 rfl) ?_
    refine va_put (D := D) (ci := 0) (v := .int x1) (ty := .int) (C := "ValueBench") (T := TB) (N := 8) hx hb htx inB tyB tyB_ok nmB hown hK hP hD hS 0 rfl rfl 7 (by decide) (htx _ kw_1_102) (fun _ h9 => h9) rfl (by decide +kernel) rfl rfl (Nat.le_of_ble_eq_true rfl) dB_demandDone_7 (fun H locs hP hD hS => ?_)
    obtain ⟨hP, hD⟩ : xPD D xcl A [(a0, .inr (0, [.ref a1, .ref a3, .ref a5, .ref a7, .ref a8, .ref a13, .int v19, .int x1])), (a1, .inr (1, [.ref a2, .int v1, .int v2])), (a2, .inl (cT 0, 4096, .inl f0)), (a3, .inr (1, [.ref a4, .int v4, .int v5])), (a4, .inl (cT 0, 4096, .inl f3)), (a5, .inr (1, [.ref a6, .int v7, .int v8])), (a6, .inl (cT 0, 4096, .inl f6)), (a7, .inl (cT 3, 8, .inr (.inr (.inr (.inr rf0))))), (a8, .inr (3, [.ref a9, .ref a10, .ref p11, .ref p13, .int v15])), (a9, .inl (cT 1, 2048, .inl f9)), (a10, .inl (cT 1, 2048, .inl f10)), (p11, .inl (cT 1, 2048, .inl f12)), (p13, .inl (cT 1, 2048, .inl f14)), (a13, .inr (2, [.ref a14, .int v17, .int v18])), (a14, .inl (cT 2, 4096, .inr (.inl f16)))] H := ⟨hP, hD⟩
    refine lv_iload_n hx hb dB_demandDone_10 rfl (lv_at hl 1 rfl) ?_
    by_cases hc1 : x1 = 1
    · rw [if_pos hc1] at hf
      refine lv_tableIn (off := 29) (tgt := 40) hx hb dB_demandDone_11 (by rw [hc1]; decide) (by rw [hc1]; decide) (by rw [hc1]; decide) (by decide) ?_
      obtain rfl := Option.some.inj hf
      obtain ⟨hP9, hD9⟩ := xsub (wc := [(a0, .inr (0, [.ref a1, .ref a3, .ref a5, .ref a7, .ref a8, .ref a13, .int v19, .int x1])), (a1, .inr (1, [.ref a2, .int v1, .int v2])), (a2, .inl (cT 0, 4096, .inl f0)), (a3, .inr (1, [.ref a4, .int v4, .int v5])), (a4, .inl (cT 0, 4096, .inl f3)), (a5, .inr (1, [.ref a6, .int v7, .int v8])), (a6, .inl (cT 0, 4096, .inl f6)), (a7, .inl (cT 3, 8, .inr (.inr (.inr (.inr rf0))))), (a8, .inr (3, [.ref a9, .ref a10, .ref p11, .ref p13, .int v15])), (a9, .inl (cT 1, 2048, .inl f9)), (a10, .inl (cT 1, 2048, .inl f10)), (p11, .inl (cT 1, 2048, .inl f12)), (p13, .inl (cT 1, 2048, .inl f14)), (a13, .inr (2, [.ref a14, .int v17, .int v18])), (a14, .inl (cT 2, 4096, .inr (.inl f16)))]) hP hD [0, 1, 2, 3, 4, 5, 6, 7, 8, 9, 10, 11, 12, 13, 14] rfl rfl (by decide)
      exact vx_throwS (own := "ValueBench") (cls := "java/lang/ArithmeticException") (text := "type") (sa := aK 4) (names := ["java/lang/RuntimeException", "java/lang/Exception"]) hx hb hl9 hown (by decide +kernel) (by decide +kernel) (htx _ kw_3_223) (htx _ kw_1_20) (hZ.2.2.2.2.2.2.2.2.1 ("ValueBench", 156, "type", 4) (List.mem_of_getElem? (i := 4) rfl)) (vx_hat (B := [.castable "java/lang/ArithmeticException" "java/lang/ArithmeticException", .declares ⟨"java/lang/RuntimeException", "<init>", "(Ljava/lang/String;)V"⟩, .declares ⟨"java/lang/Exception", "<init>", "(Ljava/lang/String;)V"⟩, .declares ⟨"java/lang/Throwable", "<init>", "(Ljava/lang/String;)V"⟩]) (fun w h => htx w (xat_B_154_158 w h)) xat_B_154_158_b (vx_c ((hZ.2.2.2.2.2.1 "java/lang/ArithmeticException" (List.mem_of_getElem? (i := 3) rfl)).use rfl) (vx_c ((hZ.2.2.2.2.2.2.1 ⟨"java/lang/RuntimeException", "<init>", "(Ljava/lang/String;)V"⟩ (List.mem_of_getElem? (i := 3) rfl)).use rfl) (vx_c ((hZ.2.2.2.2.2.2.1 ⟨"java/lang/Exception", "<init>", "(Ljava/lang/String;)V"⟩ (List.mem_of_getElem? (i := 4) rfl)).use rfl) (vx_c ((hZ.2.2.2.2.2.2.1 ⟨"java/lang/Throwable", "<init>", "(Ljava/lang/String;)V"⟩ (List.mem_of_getElem? (i := 5) rfl)).use rfl) vx_n))))) xat_B_154_158_g hZ.2.2.2.1 hZ.2.2.2.2.1 hS (hl.1.trans hml.symm) dB_demandDone_40 dB_demandDone_43 dB_demandDone_44 dB_demandDone_46 dB_demandDone_49 (fun x h => (hne x h).elim) (Nat.le_of_ble_eq_true rfl) (Nat.le_of_ble_eq_true rfl) (Nat.le_of_ble_eq_true rfl) (Nat.le_of_ble_eq_true rfl) hlocks (fun t ha hz hk => ⟨(), trivial, ⟨rfl, xx_keepP hP9 hk, va_K.moved ha hK, hD9⟩, xx_grown hS hz hk⟩) hS.2.2 (Nat.le_of_ble_eq_true rfl) (Nat.le_of_ble_eq_true rfl)
    rw [if_neg hc1] at hf
    by_cases hc2 : x1 = 2
    · rw [if_pos hc2] at hf
      refine lv_tableIn (off := 39) (tgt := 50) hx hb dB_demandDone_11 (by rw [hc2]; decide) (by rw [hc2]; decide) (by rw [hc2]; decide) (by decide) ?_
      obtain rfl := Option.some.inj hf
      obtain ⟨hP9, hD9⟩ := xsub (wc := [(a0, .inr (0, [.ref a1, .ref a3, .ref a5, .ref a7, .ref a8, .ref a13, .int v19, .int x1])), (a1, .inr (1, [.ref a2, .int v1, .int v2])), (a2, .inl (cT 0, 4096, .inl f0)), (a3, .inr (1, [.ref a4, .int v4, .int v5])), (a4, .inl (cT 0, 4096, .inl f3)), (a5, .inr (1, [.ref a6, .int v7, .int v8])), (a6, .inl (cT 0, 4096, .inl f6)), (a7, .inl (cT 3, 8, .inr (.inr (.inr (.inr rf0))))), (a8, .inr (3, [.ref a9, .ref a10, .ref p11, .ref p13, .int v15])), (a9, .inl (cT 1, 2048, .inl f9)), (a10, .inl (cT 1, 2048, .inl f10)), (p11, .inl (cT 1, 2048, .inl f12)), (p13, .inl (cT 1, 2048, .inl f14)), (a13, .inr (2, [.ref a14, .int v17, .int v18])), (a14, .inl (cT 2, 4096, .inr (.inl f16)))]) hP hD [0, 1, 2, 3, 4, 5, 6, 7, 8, 9, 10, 11, 12, 13, 14] rfl rfl (by decide)
      exact vx_throwS (own := "ValueBench") (cls := "java/lang/ArithmeticException") (text := "range") (sa := aK 5) (names := ["java/lang/RuntimeException", "java/lang/Exception"]) hx hb hl9 hown (by decide +kernel) (by decide +kernel) (htx _ kw_3_223) (htx _ kw_1_20) (hZ.2.2.2.2.2.2.2.2.1 ("ValueBench", 159, "range", 5) (List.mem_of_getElem? (i := 5) rfl)) (vx_hat (B := [.castable "java/lang/ArithmeticException" "java/lang/ArithmeticException", .declares ⟨"java/lang/RuntimeException", "<init>", "(Ljava/lang/String;)V"⟩, .declares ⟨"java/lang/Exception", "<init>", "(Ljava/lang/String;)V"⟩, .declares ⟨"java/lang/Throwable", "<init>", "(Ljava/lang/String;)V"⟩]) (fun w h => htx w (xat_B_154_158 w h)) xat_B_154_158_b (vx_c ((hZ.2.2.2.2.2.1 "java/lang/ArithmeticException" (List.mem_of_getElem? (i := 3) rfl)).use rfl) (vx_c ((hZ.2.2.2.2.2.2.1 ⟨"java/lang/RuntimeException", "<init>", "(Ljava/lang/String;)V"⟩ (List.mem_of_getElem? (i := 3) rfl)).use rfl) (vx_c ((hZ.2.2.2.2.2.2.1 ⟨"java/lang/Exception", "<init>", "(Ljava/lang/String;)V"⟩ (List.mem_of_getElem? (i := 4) rfl)).use rfl) (vx_c ((hZ.2.2.2.2.2.2.1 ⟨"java/lang/Throwable", "<init>", "(Ljava/lang/String;)V"⟩ (List.mem_of_getElem? (i := 5) rfl)).use rfl) vx_n))))) xat_B_154_158_g hZ.2.2.2.1 hZ.2.2.2.2.1 hS (hl.1.trans hml.symm) dB_demandDone_50 dB_demandDone_53 dB_demandDone_54 dB_demandDone_56 dB_demandDone_59 (fun x h => (hne x h).elim) (Nat.le_of_ble_eq_true rfl) (Nat.le_of_ble_eq_true rfl) (Nat.le_of_ble_eq_true rfl) (Nat.le_of_ble_eq_true rfl) hlocks (fun t ha hz hk => ⟨(), trivial, ⟨rfl, xx_keepP hP9 hk, va_K.moved ha hK, hD9⟩, xx_grown hS hz hk⟩) hS.2.2 (Nat.le_of_ble_eq_true rfl) (Nat.le_of_ble_eq_true rfl)
    rw [if_neg hc2] at hf
    by_cases hc3 : x1 = 3
    · rw [if_pos hc3] at hf
      refine lv_tableIn (off := 49) (tgt := 60) hx hb dB_demandDone_11 (by rw [hc3]; decide) (by rw [hc3]; decide) (by rw [hc3]; decide) (by decide) ?_
      obtain rfl := Option.some.inj hf
      obtain ⟨hP9, hD9⟩ := xsub (wc := [(a0, .inr (0, [.ref a1, .ref a3, .ref a5, .ref a7, .ref a8, .ref a13, .int v19, .int x1])), (a1, .inr (1, [.ref a2, .int v1, .int v2])), (a2, .inl (cT 0, 4096, .inl f0)), (a3, .inr (1, [.ref a4, .int v4, .int v5])), (a4, .inl (cT 0, 4096, .inl f3)), (a5, .inr (1, [.ref a6, .int v7, .int v8])), (a6, .inl (cT 0, 4096, .inl f6)), (a7, .inl (cT 3, 8, .inr (.inr (.inr (.inr rf0))))), (a8, .inr (3, [.ref a9, .ref a10, .ref p11, .ref p13, .int v15])), (a9, .inl (cT 1, 2048, .inl f9)), (a10, .inl (cT 1, 2048, .inl f10)), (p11, .inl (cT 1, 2048, .inl f12)), (p13, .inl (cT 1, 2048, .inl f14)), (a13, .inr (2, [.ref a14, .int v17, .int v18])), (a14, .inl (cT 2, 4096, .inr (.inl f16)))]) hP hD [0, 1, 2, 3, 4, 5, 6, 7, 8, 9, 10, 11, 12, 13, 14] rfl rfl (by decide)
      exact vx_throwS (own := "ValueBench") (cls := "java/lang/ArithmeticException") (text := "zero") (sa := aK 6) (names := ["java/lang/RuntimeException", "java/lang/Exception"]) hx hb hl9 hown (by decide +kernel) (by decide +kernel) (htx _ kw_3_223) (htx _ kw_1_20) (hZ.2.2.2.2.2.2.2.2.1 ("ValueBench", 161, "zero", 6) (List.mem_of_getElem? (i := 6) rfl)) (vx_hat (B := [.castable "java/lang/ArithmeticException" "java/lang/ArithmeticException", .declares ⟨"java/lang/RuntimeException", "<init>", "(Ljava/lang/String;)V"⟩, .declares ⟨"java/lang/Exception", "<init>", "(Ljava/lang/String;)V"⟩, .declares ⟨"java/lang/Throwable", "<init>", "(Ljava/lang/String;)V"⟩]) (fun w h => htx w (xat_B_154_158 w h)) xat_B_154_158_b (vx_c ((hZ.2.2.2.2.2.1 "java/lang/ArithmeticException" (List.mem_of_getElem? (i := 3) rfl)).use rfl) (vx_c ((hZ.2.2.2.2.2.2.1 ⟨"java/lang/RuntimeException", "<init>", "(Ljava/lang/String;)V"⟩ (List.mem_of_getElem? (i := 3) rfl)).use rfl) (vx_c ((hZ.2.2.2.2.2.2.1 ⟨"java/lang/Exception", "<init>", "(Ljava/lang/String;)V"⟩ (List.mem_of_getElem? (i := 4) rfl)).use rfl) (vx_c ((hZ.2.2.2.2.2.2.1 ⟨"java/lang/Throwable", "<init>", "(Ljava/lang/String;)V"⟩ (List.mem_of_getElem? (i := 5) rfl)).use rfl) vx_n))))) xat_B_154_158_g hZ.2.2.2.1 hZ.2.2.2.2.1 hS (hl.1.trans hml.symm) dB_demandDone_60 dB_demandDone_63 dB_demandDone_64 dB_demandDone_66 dB_demandDone_69 (fun x h => (hne x h).elim) (Nat.le_of_ble_eq_true rfl) (Nat.le_of_ble_eq_true rfl) (Nat.le_of_ble_eq_true rfl) (Nat.le_of_ble_eq_true rfl) hlocks (fun t ha hz hk => ⟨(), trivial, ⟨rfl, xx_keepP hP9 hk, va_K.moved ha hK, hD9⟩, xx_grown hS hz hk⟩) hS.2.2 (Nat.le_of_ble_eq_true rfl) (Nat.le_of_ble_eq_true rfl)
    rw [if_neg hc3] at hf
    by_cases hc4 : x1 = 4
    · rw [if_pos hc4] at hf
      refine lv_tableIn (off := 59) (tgt := 70) hx hb dB_demandDone_11 (by rw [hc4]; decide) (by rw [hc4]; decide) (by rw [hc4]; decide) (by decide) ?_
      obtain rfl := Option.some.inj hf
      obtain ⟨hP9, hD9⟩ := xsub (wc := [(a0, .inr (0, [.ref a1, .ref a3, .ref a5, .ref a7, .ref a8, .ref a13, .int v19, .int x1])), (a1, .inr (1, [.ref a2, .int v1, .int v2])), (a2, .inl (cT 0, 4096, .inl f0)), (a3, .inr (1, [.ref a4, .int v4, .int v5])), (a4, .inl (cT 0, 4096, .inl f3)), (a5, .inr (1, [.ref a6, .int v7, .int v8])), (a6, .inl (cT 0, 4096, .inl f6)), (a7, .inl (cT 3, 8, .inr (.inr (.inr (.inr rf0))))), (a8, .inr (3, [.ref a9, .ref a10, .ref p11, .ref p13, .int v15])), (a9, .inl (cT 1, 2048, .inl f9)), (a10, .inl (cT 1, 2048, .inl f10)), (p11, .inl (cT 1, 2048, .inl f12)), (p13, .inl (cT 1, 2048, .inl f14)), (a13, .inr (2, [.ref a14, .int v17, .int v18])), (a14, .inl (cT 2, 4096, .inr (.inl f16)))]) hP hD [0, 1, 2, 3, 4, 5, 6, 7, 8, 9, 10, 11, 12, 13, 14] rfl rfl (by decide)
      exact vx_throwS (own := "ValueBench") (cls := "java/lang/ArithmeticException") (text := "number") (sa := aK 7) (names := ["java/lang/RuntimeException", "java/lang/Exception"]) hx hb hl9 hown (by decide +kernel) (by decide +kernel) (htx _ kw_3_223) (htx _ kw_1_20) (hZ.2.2.2.2.2.2.2.2.1 ("ValueBench", 163, "number", 7) (List.mem_of_getElem? (i := 7) rfl)) (vx_hat (B := [.castable "java/lang/ArithmeticException" "java/lang/ArithmeticException", .declares ⟨"java/lang/RuntimeException", "<init>", "(Ljava/lang/String;)V"⟩, .declares ⟨"java/lang/Exception", "<init>", "(Ljava/lang/String;)V"⟩, .declares ⟨"java/lang/Throwable", "<init>", "(Ljava/lang/String;)V"⟩]) (fun w h => htx w (xat_B_154_158 w h)) xat_B_154_158_b (vx_c ((hZ.2.2.2.2.2.1 "java/lang/ArithmeticException" (List.mem_of_getElem? (i := 3) rfl)).use rfl) (vx_c ((hZ.2.2.2.2.2.2.1 ⟨"java/lang/RuntimeException", "<init>", "(Ljava/lang/String;)V"⟩ (List.mem_of_getElem? (i := 3) rfl)).use rfl) (vx_c ((hZ.2.2.2.2.2.2.1 ⟨"java/lang/Exception", "<init>", "(Ljava/lang/String;)V"⟩ (List.mem_of_getElem? (i := 4) rfl)).use rfl) (vx_c ((hZ.2.2.2.2.2.2.1 ⟨"java/lang/Throwable", "<init>", "(Ljava/lang/String;)V"⟩ (List.mem_of_getElem? (i := 5) rfl)).use rfl) vx_n))))) xat_B_154_158_g hZ.2.2.2.1 hZ.2.2.2.2.1 hS (hl.1.trans hml.symm) dB_demandDone_70 dB_demandDone_73 dB_demandDone_74 dB_demandDone_76 dB_demandDone_79 (fun x h => (hne x h).elim) (Nat.le_of_ble_eq_true rfl) (Nat.le_of_ble_eq_true rfl) (Nat.le_of_ble_eq_true rfl) (Nat.le_of_ble_eq_true rfl) hlocks (fun t ha hz hk => ⟨(), trivial, ⟨rfl, xx_keepP hP9 hk, va_K.moved ha hK, hD9⟩, xx_grown hS hz hk⟩) hS.2.2 (Nat.le_of_ble_eq_true rfl) (Nat.le_of_ble_eq_true rfl)
    rw [if_neg hc4] at hf
    refine lv_tableOut (tgt := 80) hx hb dB_demandDone_11 (by have e0 : x1.toInt ≠ 1 := xsw hc1 (by decide); have e1 : x1.toInt ≠ 2 := xsw hc2 (by decide); have e2 : x1.toInt ≠ 3 := xsw hc3 (by decide); have e3 : x1.toInt ≠ 4 := xsw hc4 (by decide); omega) (by decide) ?_
    obtain rfl := Option.some.inj hf
    obtain ⟨hP9, hD9⟩ := xsub (wc := [(a0, .inr (0, [.ref a1, .ref a3, .ref a5, .ref a7, .ref a8, .ref a13, .int v19, .int x1])), (a1, .inr (1, [.ref a2, .int v1, .int v2])), (a2, .inl (cT 0, 4096, .inl f0)), (a3, .inr (1, [.ref a4, .int v4, .int v5])), (a4, .inl (cT 0, 4096, .inl f3)), (a5, .inr (1, [.ref a6, .int v7, .int v8])), (a6, .inl (cT 0, 4096, .inl f6)), (a7, .inl (cT 3, 8, .inr (.inr (.inr (.inr rf0))))), (a8, .inr (3, [.ref a9, .ref a10, .ref p11, .ref p13, .int v15])), (a9, .inl (cT 1, 2048, .inl f9)), (a10, .inl (cT 1, 2048, .inl f10)), (p11, .inl (cT 1, 2048, .inl f12)), (p13, .inl (cT 1, 2048, .inl f14)), (a13, .inr (2, [.ref a14, .int v17, .int v18])), (a14, .inl (cT 2, 4096, .inr (.inl f16)))]) hP hD [0, 1, 2, 3, 4, 5, 6, 7, 8, 9, 10, 11, 12, 13, 14] rfl rfl (by decide)
    exact vx_throwS (own := "ValueBench") (cls := "java/lang/ArithmeticException") (text := "json") (sa := aK 8) (names := ["java/lang/RuntimeException", "java/lang/Exception"]) hx hb hl9 hown (by decide +kernel) (by decide +kernel) (htx _ kw_3_223) (htx _ kw_1_20) (hZ.2.2.2.2.2.2.2.2.1 ("ValueBench", 165, "json", 8) (List.mem_of_getElem? (i := 8) rfl)) (vx_hat (B := [.castable "java/lang/ArithmeticException" "java/lang/ArithmeticException", .declares ⟨"java/lang/RuntimeException", "<init>", "(Ljava/lang/String;)V"⟩, .declares ⟨"java/lang/Exception", "<init>", "(Ljava/lang/String;)V"⟩, .declares ⟨"java/lang/Throwable", "<init>", "(Ljava/lang/String;)V"⟩]) (fun w h => htx w (xat_B_154_158 w h)) xat_B_154_158_b (vx_c ((hZ.2.2.2.2.2.1 "java/lang/ArithmeticException" (List.mem_of_getElem? (i := 3) rfl)).use rfl) (vx_c ((hZ.2.2.2.2.2.2.1 ⟨"java/lang/RuntimeException", "<init>", "(Ljava/lang/String;)V"⟩ (List.mem_of_getElem? (i := 3) rfl)).use rfl) (vx_c ((hZ.2.2.2.2.2.2.1 ⟨"java/lang/Exception", "<init>", "(Ljava/lang/String;)V"⟩ (List.mem_of_getElem? (i := 4) rfl)).use rfl) (vx_c ((hZ.2.2.2.2.2.2.1 ⟨"java/lang/Throwable", "<init>", "(Ljava/lang/String;)V"⟩ (List.mem_of_getElem? (i := 5) rfl)).use rfl) vx_n))))) xat_B_154_158_g hZ.2.2.2.1 hZ.2.2.2.2.1 hS (hl.1.trans hml.symm) dB_demandDone_80 dB_demandDone_83 dB_demandDone_84 dB_demandDone_86 dB_demandDone_89 (fun x h => (hne x h).elim) (Nat.le_of_ble_eq_true rfl) (Nat.le_of_ble_eq_true rfl) (Nat.le_of_ble_eq_true rfl) (Nat.le_of_ble_eq_true rfl) hlocks (fun t ha hz hk => ⟨(), trivial, ⟨rfl, xx_keepP hP9 hk, va_K.moved ha hK, hD9⟩, xx_grown hS hz hk⟩) hS.2.2 (Nat.le_of_ble_eq_true rfl) (Nat.le_of_ble_eq_true rfl)
  · rw [if_pos hc] at hf
    obtain rfl := Option.some.inj hf
    exact absurd (show (0 : Nat) = 1 from hkd) (by decide)
set_option maxHeartbeats 400000000 in
set_option maxRecDepth 100000 in
theorem gB_binary (l : Launch) (hl9 : l.stackTraces = false) (D : va_G) (cT : Nat → ClassId) (aK aV : Nat → Nat) (sz d n : Nat) (a0 : Nat) (a1 : Nat) (a2 : Nat) (a3 : Nat) (a4 : Nat) (a5 : Nat) (a6 : Nat) (a7 : Nat) (a8 : Nat) (a9 : Nat) (a10 : Nat) (a13 : Nat) (a14 : Nat) (a15 : Nat) (a16 : Nat) (a17 : Nat) (a18 : Nat) (rf0 : Nat → Option Nat) (b1 : Nat) (x1 : Int32) (x2 : Int32) (x3 : Int32) (x4 : Int32) (f0 : Nat → Int32) (v1 : Int32) (v2 : Int32) (f3 : Nat → Int32) (v4 : Int32) (v5 : Int32) (f6 : Nat → Int32) (v7 : Int32) (v8 : Int32) (f9 : Nat → Int32) (f10 : Nat → Int32) (p11 : Nat) (f12 : Nat → Int32) (p13 : Nat) (f14 : Nat → Int32) (v15 : Int32) (f16 : Nat → Int64) (v17 : Int32) (v18 : Int32) (v19 : Int32) (v20 : Int32) (f21 : Nat → Int64) (v22 : Int32) (v23 : Int32) (f24 : Nat → Int64) (v25 : Int32) (v26 : Int32) (hr1 : ¬ (x1 < 0 ∨ 8 ≤ x1.toNatClampNeg) → rf0 x1.toNatClampNeg = some b1) (hr3 : ¬ (x3 < 0 ∨ 8 ≤ x3.toNatClampNeg) → rf0 x3.toNatClampNeg = some a15) (hr4 : ¬ (x4 < 0 ∨ 8 ≤ x4.toNatClampNeg) → rf0 x4.toNatClampNeg = some a17) (out : Nat × (Nat → Int32) × Int32 × Int32 × (Nat → Int64) × Int32 × Int32 × Int32) (hf : fB_binary d n x1 x2 x3 x4 f0 v1 v2 f3 v4 v5 f6 v7 v8 f9 f10 p11 f12 p13 f14 v15 f16 v17 v18 v19 v20 f21 v22 v23 f24 v25 v26 = some out) (hkd : out.1 = 0) : xMet l yB_binary wyB_binary (16 * d + 7) 3 18 (400 * d + 180) D cT aK aV sz [.ref a0, .int x1, .int x2, .int x3, .int x4] [(a0, .inr (0, [.ref a1, .ref a3, .ref a5, .ref a7, .ref a8, .ref a13, .int v19, .int v20])), (a1, .inr (1, [.ref a2, .int v1, .int v2])), (a2, .inl (cT 0, 4096, .inl f0)), (a3, .inr (1, [.ref a4, .int v4, .int v5])), (a4, .inl (cT 0, 4096, .inl f3)), (a5, .inr (1, [.ref a6, .int v7, .int v8])), (a6, .inl (cT 0, 4096, .inl f6)), (a7, .inl (cT 3, 8, .inr (.inr (.inr (.inr rf0))))), (a8, .inr (3, [.ref a9, .ref a10, .ref p11, .ref p13, .int v15])), (a9, .inl (cT 1, 2048, .inl f9)), (a10, .inl (cT 1, 2048, .inl f10)), (p11, .inl (cT 1, 2048, .inl f12)), (p13, .inl (cT 1, 2048, .inl f14)), (a13, .inr (2, [.ref a14, .int v17, .int v18])), (a14, .inl (cT 2, 4096, .inr (.inl f16))), (a15, .inr (2, [.ref a16, .int v22, .int v23])), (a16, .inl (cT 2, 4096, .inr (.inl f21))), (a17, .inr (2, [.ref a18, .int v25, .int v26])), (a18, .inl (cT 2, 4096, .inr (.inl f24)))] (fun A => va_Qv (fun _ : Unit => True) (fun _ t => xB D xcl cT A [(a0, .inr (0, [.ref a1, .ref a3, .ref a5, .ref a7, .ref a8, .ref b1, .int v19, .int out.2.2.2.2.2.2.2])), (a1, .inr (1, [.ref a2, .int v1, .int v2])), (a2, .inl (cT 0, 4096, .inl f0)), (a3, .inr (1, [.ref a4, .int v4, .int v5])), (a4, .inl (cT 0, 4096, .inl f3)), (a5, .inr (1, [.ref a6, .int out.2.2.1, .int out.2.2.2.1])), (a6, .inl (cT 0, 4096, .inl out.2.1)), (a7, .inl (cT 3, 8, .inr (.inr (.inr (.inr (va_up rf0 x1.toNatClampNeg (some a13))))))), (a8, .inr (3, [.ref a9, .ref a10, .ref p11, .ref p13, .int v15])), (a9, .inl (cT 1, 2048, .inl f9)), (a10, .inl (cT 1, 2048, .inl f10)), (p11, .inl (cT 1, 2048, .inl f12)), (p13, .inl (cT 1, 2048, .inl f14)), (a13, .inr (2, [.ref a14, .int out.2.2.2.2.2.1, .int out.2.2.2.2.2.2.1])), (a14, .inl (cT 2, 4096, .inr (.inl out.2.2.2.2.1))), (a15, .inr (2, [.ref a16, .int v22, .int v23])), (a16, .inl (cT 2, 4096, .inr (.inl f21))), (a17, .inr (2, [.ref a18, .int v25, .int v26])), (a18, .inl (cT 2, 4096, .inr (.inl f24)))] t) A) := by
  refine Met.ofW (cc := prog_1_method_6_code) (maxL := 5) (ret := none) (by decide) rfl ?_
  intro p e s m args below meth c s₁ B hml hv
  obtain ⟨rfl, hsz, hZ, hP, hK, hD0⟩ := hv
  have hx := B.exec
  have hb := B.bytes
  have hr := B.returns
  have hts := atoms_spec (ws := wyB_binary) B.pre
  have htx := fun w h => hts w (List.mem_cons_of_mem _ h)
  have hown : s.vm.findClass "ValueBench" = some m.cls := findClass_of_methodNamed B.named
  have hlocks := B.notSynchronized
  subst hsz
  have hD := hD0.self (sz := s.heap.size)
  generalize hAe : va_A [(a0, .inr (0, [.ref a1, .ref a3, .ref a5, .ref a7, .ref a8, .ref a13, .int v19, .int v20])), (a1, .inr (1, [.ref a2, .int v1, .int v2])), (a2, .inl (cT 0, 4096, .inl f0)), (a3, .inr (1, [.ref a4, .int v4, .int v5])), (a4, .inl (cT 0, 4096, .inl f3)), (a5, .inr (1, [.ref a6, .int v7, .int v8])), (a6, .inl (cT 0, 4096, .inl f6)), (a7, .inl (cT 3, 8, .inr (.inr (.inr (.inr rf0))))), (a8, .inr (3, [.ref a9, .ref a10, .ref p11, .ref p13, .int v15])), (a9, .inl (cT 1, 2048, .inl f9)), (a10, .inl (cT 1, 2048, .inl f10)), (p11, .inl (cT 1, 2048, .inl f12)), (p13, .inl (cT 1, 2048, .inl f14)), (a13, .inr (2, [.ref a14, .int v17, .int v18])), (a14, .inl (cT 2, 4096, .inr (.inl f16))), (a15, .inr (2, [.ref a16, .int v22, .int v23])), (a16, .inl (cT 2, 4096, .inr (.inl f21))), (a17, .inr (2, [.ref a18, .int v25, .int v26])), (a18, .inl (cT 2, 4096, .inr (.inl f24)))] s.heap.size = A at hD hZ ⊢
  have hA : ∀ q : Nat, s.heap.size ≤ q → A q := fun q h => by rw [← hAe]; exact Or.inr h
  have hS : va_S A s.heap s.heap [] := va_S.rf
  have hP : va_P D xcl [(a0, .inr (0, [.ref a1, .ref a3, .ref a5, .ref a7, .ref a8, .ref a13, .int v19, .int v20])), (a1, .inr (1, [.ref a2, .int v1, .int v2])), (a2, .inl (cT 0, 4096, .inl f0)), (a3, .inr (1, [.ref a4, .int v4, .int v5])), (a4, .inl (cT 0, 4096, .inl f3)), (a5, .inr (1, [.ref a6, .int v7, .int v8])), (a6, .inl (cT 0, 4096, .inl f6)), (a7, .inl (cT 3, 8, .inr (.inr (.inr (.inr rf0))))), (a8, .inr (3, [.ref a9, .ref a10, .ref p11, .ref p13, .int v15])), (a9, .inl (cT 1, 2048, .inl f9)), (a10, .inl (cT 1, 2048, .inl f10)), (p11, .inl (cT 1, 2048, .inl f12)), (p13, .inl (cT 1, 2048, .inl f14)), (a13, .inr (2, [.ref a14, .int v17, .int v18])), (a14, .inl (cT 2, 4096, .inr (.inl f16))), (a15, .inr (2, [.ref a16, .int v22, .int v23])), (a16, .inl (cT 2, 4096, .inr (.inl f21))), (a17, .inr (2, [.ref a18, .int v25, .int v26])), (a18, .inl (cT 2, 4096, .inr (.inl f24)))] s.heap := hP
  have hl := lv_entry ([.ref a0, .int x1, .int x2, .int x3, .int x4]) (n := 5) (Nat.le_of_ble_eq_true rfl)
  rw [lg_entry_eq]
  generalize (lg_sl ([.ref a0, .int x1, .int x2, .int x3, .int x4]) ++ List.replicate (5 - (lg_sl ([.ref a0, .int x1, .int x2, .int x3, .int x4])).length) Slot.unset).toArray = ls at hl ⊢
  have hl : lv_has ls 5 [(0, .ref a0), (1, .int x1), (2, .int x2), (3, .int x3), (4, .int x4)] := hl
  unfold fB_binary at hf
  refine lv_iload_n hx hb dB_binary_0 rfl (lv_at hl 1 rfl) ?_
  obtain ⟨o1, hq2, hf⟩ := xbind hf
  obtain ⟨hPc, hDc, hFc⟩ := xcut (wc := []) hP hD hS hA [] rfl rfl (by decide)
  refine va_calli (va_runS (As := [.int x1]) (rest := []) ⟨hx, hb, hml, hown, htx⟩ (gB_isRegister l hl9 D cT aK aV s.heap.size n x1 o1 hq2) ⟨callB_of 1 htx (xw_goodC kw_2_18) rfl rfl rfl (htx _ kw_1_1) (htx _ kw_2_16) ⟨by decide, by decide, by decide +kernel⟩ ⟨Nat.le_of_ble_eq_true rfl, Nat.le_of_ble_eq_true rfl⟩, htx _ kw_2_17⟩ ⟨xPre_blind, (fun U hU hW => ⟨rfl, xPre_of hZ hS hFc hPc hDc hK U hU hW⟩)⟩ rfl rfl hl.1 rfl (lv_room (Nat.le_of_ble_eq_true rfl)) dB_binary_1 ⟨Nat.le_of_ble_eq_true rfl, Nat.le_of_ble_eq_true rfl⟩) hS (fun q _ h => hFc q h) hFc (fun r3 u9 t H1 locs ht hvm hr9 hB hz1 hk1 hS => ?_)
  obtain ⟨hP1, hK1, hD1⟩ := hB
  rw [ht] at hP1
  obtain ⟨hP, hD⟩ := xjoin (W := [(a0, .inr (0, [.ref a1, .ref a3, .ref a5, .ref a7, .ref a8, .ref a13, .int v19, .int v20])), (a1, .inr (1, [.ref a2, .int v1, .int v2])), (a2, .inl (cT 0, 4096, .inl f0)), (a3, .inr (1, [.ref a4, .int v4, .int v5])), (a4, .inl (cT 0, 4096, .inl f3)), (a5, .inr (1, [.ref a6, .int v7, .int v8])), (a6, .inl (cT 0, 4096, .inl f6)), (a7, .inl (cT 3, 8, .inr (.inr (.inr (.inr rf0))))), (a8, .inr (3, [.ref a9, .ref a10, .ref p11, .ref p13, .int v15])), (a9, .inl (cT 1, 2048, .inl f9)), (a10, .inl (cT 1, 2048, .inl f10)), (p11, .inl (cT 1, 2048, .inl f12)), (p13, .inl (cT 1, 2048, .inl f14)), (a13, .inr (2, [.ref a14, .int v17, .int v18])), (a14, .inl (cT 2, 4096, .inr (.inl f16))), (a15, .inr (2, [.ref a16, .int v22, .int v23])), (a16, .inl (cT 2, 4096, .inr (.inl f21))), (a17, .inr (2, [.ref a18, .int v25, .int v26])), (a18, .inl (cT 2, 4096, .inr (.inl f24)))]) hP hD [] [0, 1, 2, 3, 4, 5, 6, 7, 8, 9, 10, 11, 12, 13, 14, 15, 16, 17, 18] 19 rfl rfl (by decide) (by decide) hk1 hFc hP1 hD1
  generalize H1 = H at hP hS ⊢
  rw [hr9]
  refine W.eq (g2 := F0 m 4 ls [.int o1]) rfl ?_
  refine lv_if_eq (tgt := 34) hx hb dB_binary_4 (by decide) (fun hc => ?_) (fun hc => ?_)
  · rw [if_pos hc] at hf
    refine lv_iconst (v := 0) hx hb dB_binary_34 (by decide) ?_
    obtain ⟨o4, hq5, hf⟩ := xbind hf
    by_cases hk6 : o4 = 0
    · rw [if_pos hk6] at hf
      obtain ⟨hPc, hDc, hFc⟩ := xcut (wc := []) hP hD hS hA [] rfl rfl (by decide)
      refine va_callv (va_runS (As := [.int 0]) (rest := []) ⟨hx, hb, hml, hown, htx⟩ (gB_demand l hl9 D cT aK aV H.size n (0 : Int32) o4 hq5 hk6) ⟨callB_of 1 htx (xw_goodC kw_1_221) rfl rfl rfl (htx _ kw_1_1) (htx _ kw_1_219) ⟨by decide, by decide, by decide +kernel⟩ ⟨Nat.le_of_ble_eq_true rfl, Nat.le_of_ble_eq_true rfl⟩, htx _ kw_1_220⟩ ⟨xPre_blind, (fun U hU hW => ⟨rfl, xPre_of hZ hS hFc hPc hDc hK U hU hW⟩)⟩ rfl rfl hl.1 rfl (lv_room (Nat.le_of_ble_eq_true rfl)) dB_binary_35 ⟨Nat.le_of_ble_eq_true rfl, Nat.le_of_ble_eq_true rfl⟩) hS (fun q _ h => hFc q h) hFc (fun u9 t H1 locs ht hvm hr9 hB hz1 hk1 hS => ?_)
      obtain ⟨hP1, hK1, hD1⟩ := hB
      rw [ht] at hP1
      obtain ⟨hP, hD⟩ := xjoin (W := [(a0, .inr (0, [.ref a1, .ref a3, .ref a5, .ref a7, .ref a8, .ref a13, .int v19, .int v20])), (a1, .inr (1, [.ref a2, .int v1, .int v2])), (a2, .inl (cT 0, 4096, .inl f0)), (a3, .inr (1, [.ref a4, .int v4, .int v5])), (a4, .inl (cT 0, 4096, .inl f3)), (a5, .inr (1, [.ref a6, .int v7, .int v8])), (a6, .inl (cT 0, 4096, .inl f6)), (a7, .inl (cT 3, 8, .inr (.inr (.inr (.inr rf0))))), (a8, .inr (3, [.ref a9, .ref a10, .ref p11, .ref p13, .int v15])), (a9, .inl (cT 1, 2048, .inl f9)), (a10, .inl (cT 1, 2048, .inl f10)), (p11, .inl (cT 1, 2048, .inl f12)), (p13, .inl (cT 1, 2048, .inl f14)), (a13, .inr (2, [.ref a14, .int v17, .int v18])), (a14, .inl (cT 2, 4096, .inr (.inl f16))), (a15, .inr (2, [.ref a16, .int v22, .int v23])), (a16, .inl (cT 2, 4096, .inr (.inl f21))), (a17, .inr (2, [.ref a18, .int v25, .int v26])), (a18, .inl (cT 2, 4096, .inr (.inl f24)))]) hP hD [] [0, 1, 2, 3, 4, 5, 6, 7, 8, 9, 10, 11, 12, 13, 14, 15, 16, 17, 18] 19 rfl rfl (by decide) (by decide) hk1 hFc hP1 hD1
      generalize H1 = H at hP hS ⊢
      refine lv_aload_n hx hb dB_binary_38 rfl (lv_at hl 0 rfl) ?_
      refine va_get (D := D) (ci := 0) (v := .ref a13) (C := "ValueBench") (T := TB) (N := 8) hx hb htx inB hown hK hP 0 rfl rfl 5 (by decide) (htx _ kw_1_100) (fun _ h9 => h9) rfl dB_binary_39 ?_
      obtain ⟨o7, hq8, hf⟩ := xbind hf
      obtain ⟨hPc, hDc, hFc⟩ := xcut (wc := [(a13, .inr (2, [.ref a14, .int v17, .int v18])), (a14, .inl (cT 2, 4096, .inr (.inl f16)))]) hP hD hS hA [13, 14] rfl rfl (by decide)
      refine va_callv (va_runV (C := "ValueBench$Row") (As := []) (rest := []) ⟨hx, hb, hml, hown, htx⟩ (gR_clear l hl9 D cT aK aV H.size n a13 a14 f16 v17 v18 o7 hq8) ⟨callB_of 0 htx (xw_goodC kw_2_22) rfl rfl rfl (htx _ kw_1_4) (htx _ kw_2_19) ⟨by decide, by decide, by decide +kernel⟩ ⟨Nat.le_of_ble_eq_true rfl, Nat.le_of_ble_eq_true rfl⟩, (htx _ kw_2_20), (htx _ kw_2_21)⟩ ⟨xPre_blind, va_recv hK hP (ci := 2) rfl (q0 := 13) rfl, (fun U hU hW => ⟨rfl, xPre_of hZ hS hFc hPc hDc hK U hU hW⟩)⟩ rfl rfl hl.1 rfl (lv_room (Nat.le_of_ble_eq_true rfl)) dB_binary_42 ⟨Nat.le_of_ble_eq_true rfl, Nat.le_of_ble_eq_true rfl⟩) hS (fun q _ h => hFc q h) hFc (fun u9 t H1 locs ht hvm hr9 hB hz1 hk1 hS => ?_)
      obtain ⟨hP1, hK1, hD1⟩ := hB
      rw [ht] at hP1
      obtain ⟨hP, hD⟩ := xjoin (W := [(a0, .inr (0, [.ref a1, .ref a3, .ref a5, .ref a7, .ref a8, .ref a13, .int v19, .int v20])), (a1, .inr (1, [.ref a2, .int v1, .int v2])), (a2, .inl (cT 0, 4096, .inl f0)), (a3, .inr (1, [.ref a4, .int v4, .int v5])), (a4, .inl (cT 0, 4096, .inl f3)), (a5, .inr (1, [.ref a6, .int v7, .int v8])), (a6, .inl (cT 0, 4096, .inl f6)), (a7, .inl (cT 3, 8, .inr (.inr (.inr (.inr rf0))))), (a8, .inr (3, [.ref a9, .ref a10, .ref p11, .ref p13, .int v15])), (a9, .inl (cT 1, 2048, .inl f9)), (a10, .inl (cT 1, 2048, .inl f10)), (p11, .inl (cT 1, 2048, .inl f12)), (p13, .inl (cT 1, 2048, .inl f14)), (a15, .inr (2, [.ref a16, .int v22, .int v23])), (a16, .inl (cT 2, 4096, .inr (.inl f21))), (a17, .inr (2, [.ref a18, .int v25, .int v26])), (a18, .inl (cT 2, 4096, .inr (.inl f24))), (a13, .inr (2, [.ref a14, .int o7.1, .int o7.2])), (a14, .inl (cT 2, 4096, .inr (.inl f16)))]) hP hD [13, 14] [0, 1, 2, 3, 4, 5, 6, 7, 8, 9, 10, 11, 12, 15, 16, 17, 18] 17 rfl rfl (by decide) (by decide) hk1 hFc hP1 hD1
      generalize H1 = H at hP hS ⊢
      refine lv_aload_n hx hb dB_binary_45 rfl (lv_at hl 0 rfl) ?_
      refine lv_iload_n hx hb dB_binary_46 rfl (lv_at hl 2 rfl) ?_
      refine lv_aload_n hx hb dB_binary_47 rfl (lv_at hl 0 rfl) ?_
      refine va_get (D := D) (ci := 0) (v := .ref a7) (C := "ValueBench") (T := TB) (N := 8) hx hb htx inB hown hK hP 0 rfl rfl 3 (by decide) (htx _ kw_1_98) (fun _ h9 => h9) rfl dB_binary_48 ?_
      refine lv_iload_n hx hb dB_binary_51 rfl (lv_at hl 3 rfl) ?_
      obtain ⟨hg9, hf⟩ := xifn hf
      refine va_aldq hx hb hK hP 7 3 rfl rfl hg9 dB_binary_52 ?_
      refine W.eq (g2 := F0 m 53 ls [va_rf (rf0 x3.toNatClampNeg), .int x2, .ref a0]) rfl ?_
      rw [hr3 hg9]
      refine W.eq (g2 := F0 m 53 ls [.ref a15, .int x2, .ref a0]) rfl ?_
      refine lv_aload_n hx hb dB_binary_53 rfl (lv_at hl 0 rfl) ?_
      refine va_get (D := D) (ci := 0) (v := .ref a7) (C := "ValueBench") (T := TB) (N := 8) hx hb htx inB hown hK hP 0 rfl rfl 3 (by decide) (htx _ kw_1_98) (fun _ h9 => h9) rfl dB_binary_54 ?_
      refine lv_iload hx hb dB_binary_57 (lv_at hl 4 rfl) ?_
      obtain ⟨hg10, hf⟩ := xifn hf
      refine va_aldq hx hb hK hP 7 3 rfl rfl hg10 dB_binary_59 ?_
      refine W.eq (g2 := F0 m 60 ls [va_rf (rf0 x4.toNatClampNeg), .ref a15, .int x2, .ref a0]) rfl ?_
      rw [hr4 hg10]
      refine W.eq (g2 := F0 m 60 ls [.ref a17, .ref a15, .int x2, .ref a0]) rfl ?_
      refine lv_aload_n hx hb dB_binary_60 rfl (lv_at hl 0 rfl) ?_
      refine va_get (D := D) (ci := 0) (v := .ref a13) (C := "ValueBench") (T := TB) (N := 8) hx hb htx inB hown hK hP 0 rfl rfl 5 (by decide) (htx _ kw_1_100) (fun _ h9 => h9) rfl dB_binary_61 ?_
      obtain ⟨o11, hq12, hf⟩ := xbind hf
      obtain ⟨hPc, hDc, hFc⟩ := xcut (wc := [(a15, .inr (2, [.ref a16, .int v22, .int v23])), (a16, .inl (cT 2, 4096, .inr (.inl f21))), (a17, .inr (2, [.ref a18, .int v25, .int v26])), (a18, .inl (cT 2, 4096, .inr (.inl f24))), (a13, .inr (2, [.ref a14, .int o7.1, .int o7.2])), (a14, .inl (cT 2, 4096, .inr (.inl f16)))]) hP hD hS hA [13, 14, 15, 16, 17, 18] rfl rfl (by decide)
      refine va_calli (va_runS (As := [.int x2, .ref a15, .ref a17, .ref a13]) (rest := [.ref a0]) ⟨hx, hb, hml, hown, htx⟩ (gA_apply l hl9 D cT aK aV H.size d n a15 a16 a17 a18 a13 a14 x2 f21 v22 v23 f24 v25 v26 f16 o7.1 o7.2 o11 hq12) ⟨callB_of 4 htx (xw_goodC kw_3_105) rfl rfl rfl (htx _ kw_1_21) (htx _ kw_3_103) ⟨by decide, by decide, by decide +kernel⟩ ⟨(by show (16 * d + 5) + 1 ≤ 16 * d + 7; omega), (by show 8 + (4 + 11) + (400 * d + 157) ≤ 400 * d + 180; omega)⟩, htx _ kw_3_104⟩ ⟨xPre_blind, (fun U hU hW => ⟨rfl, xPre_of hZ hS hFc hPc hDc hK U hU hW⟩)⟩ rfl rfl hl.1 rfl (lv_room (Nat.le_of_ble_eq_true rfl)) dB_binary_64 ⟨Nat.le_of_ble_eq_true rfl, Nat.le_of_ble_eq_true rfl⟩) hS (fun q _ h => hFc q h) hFc (fun r13 u9 t H1 locs ht hvm hr9 hB hz1 hk1 hS => ?_)
      obtain ⟨hP1, hK1, hD1⟩ := hB
      rw [ht] at hP1
      obtain ⟨hP, hD⟩ := xjoin (W := [(a0, .inr (0, [.ref a1, .ref a3, .ref a5, .ref a7, .ref a8, .ref a13, .int v19, .int v20])), (a1, .inr (1, [.ref a2, .int v1, .int v2])), (a2, .inl (cT 0, 4096, .inl f0)), (a3, .inr (1, [.ref a4, .int v4, .int v5])), (a4, .inl (cT 0, 4096, .inl f3)), (a5, .inr (1, [.ref a6, .int v7, .int v8])), (a6, .inl (cT 0, 4096, .inl f6)), (a7, .inl (cT 3, 8, .inr (.inr (.inr (.inr rf0))))), (a8, .inr (3, [.ref a9, .ref a10, .ref p11, .ref p13, .int v15])), (a9, .inl (cT 1, 2048, .inl f9)), (a10, .inl (cT 1, 2048, .inl f10)), (p11, .inl (cT 1, 2048, .inl f12)), (p13, .inl (cT 1, 2048, .inl f14)), (a15, .inr (2, [.ref a16, .int v22, .int v23])), (a16, .inl (cT 2, 4096, .inr (.inl f21))), (a17, .inr (2, [.ref a18, .int v25, .int v26])), (a18, .inl (cT 2, 4096, .inr (.inl f24))), (a13, .inr (2, [.ref a14, .int o11.2.2.1, .int o11.2.2.2])), (a14, .inl (cT 2, 4096, .inr (.inl o11.2.1)))]) hP hD [13, 14, 15, 16, 17, 18] [0, 1, 2, 3, 4, 5, 6, 7, 8, 9, 10, 11, 12] 13 rfl rfl (by decide) (by decide) hk1 hFc hP1 hD1
      generalize H1 = H at hP hS ⊢
      rw [hr9]
      refine W.eq (g2 := F0 m 67 ls [.int o11.1, .ref a0]) rfl ?_
      obtain ⟨o14, hq15, hf⟩ := xbind hf
      by_cases hk16 : o14.1 = 0
      · rw [if_pos hk16] at hf
        obtain ⟨hPc, hDc, hFc⟩ := xcut (wc := [(a0, .inr (0, [.ref a1, .ref a3, .ref a5, .ref a7, .ref a8, .ref a13, .int v19, .int v20])), (a1, .inr (1, [.ref a2, .int v1, .int v2])), (a2, .inl (cT 0, 4096, .inl f0)), (a3, .inr (1, [.ref a4, .int v4, .int v5])), (a4, .inl (cT 0, 4096, .inl f3)), (a5, .inr (1, [.ref a6, .int v7, .int v8])), (a6, .inl (cT 0, 4096, .inl f6)), (a7, .inl (cT 3, 8, .inr (.inr (.inr (.inr rf0))))), (a8, .inr (3, [.ref a9, .ref a10, .ref p11, .ref p13, .int v15])), (a9, .inl (cT 1, 2048, .inl f9)), (a10, .inl (cT 1, 2048, .inl f10)), (p11, .inl (cT 1, 2048, .inl f12)), (p13, .inl (cT 1, 2048, .inl f14)), (a13, .inr (2, [.ref a14, .int o11.2.2.1, .int o11.2.2.2])), (a14, .inl (cT 2, 4096, .inr (.inl o11.2.1)))]) hP hD hS hA [0, 1, 2, 3, 4, 5, 6, 7, 8, 9, 10, 11, 12, 17, 18] rfl rfl (by decide)
        refine va_callv (va_runV (C := "ValueBench") (As := [.int o11.1]) (rest := []) ⟨hx, hb, hml, hown, htx⟩ (gB_demandDone l hl9 D cT aK aV H.size n a0 a1 a2 a3 a4 a5 a6 a7 a8 a9 a10 a13 a14 rf0 o11.1 f0 v1 v2 f3 v4 v5 f6 v7 v8 f9 f10 p11 f12 p13 f14 v15 o11.2.1 o11.2.2.1 o11.2.2.2 v19 v20 o14 hq15 hk16) ⟨callB_of 1 htx (xw_goodC kw_3_222) rfl rfl rfl (htx _ kw_1_1) (htx _ kw_3_219) ⟨by decide, by decide, by decide +kernel⟩ ⟨Nat.le_of_ble_eq_true rfl, Nat.le_of_ble_eq_true rfl⟩, (htx _ kw_3_221), (htx _ kp_B_demandDone)⟩ ⟨xPre_blind, va_recv hK hP (ci := 0) rfl (q0 := 0) rfl, (fun U hU hW => ⟨rfl, xPre_of hZ hS hFc hPc hDc hK U hU hW⟩)⟩ rfl rfl hl.1 rfl (lv_room (Nat.le_of_ble_eq_true rfl)) dB_binary_67 ⟨Nat.le_of_ble_eq_true rfl, Nat.le_of_ble_eq_true rfl⟩) hS (fun q _ h => hFc q h) hFc (fun u9 t H1 locs ht hvm hr9 hB hz1 hk1 hS => ?_)
        obtain ⟨hP1, hK1, hD1⟩ := hB
        rw [ht] at hP1
        obtain ⟨hP, hD⟩ := xjoin (W := [(a15, .inr (2, [.ref a16, .int v22, .int v23])), (a16, .inl (cT 2, 4096, .inr (.inl f21))), (a17, .inr (2, [.ref a18, .int v25, .int v26])), (a18, .inl (cT 2, 4096, .inr (.inl f24))), (a0, .inr (0, [.ref a1, .ref a3, .ref a5, .ref a7, .ref a8, .ref a13, .int v19, .int o14.2])), (a1, .inr (1, [.ref a2, .int v1, .int v2])), (a2, .inl (cT 0, 4096, .inl f0)), (a3, .inr (1, [.ref a4, .int v4, .int v5])), (a4, .inl (cT 0, 4096, .inl f3)), (a5, .inr (1, [.ref a6, .int v7, .int v8])), (a6, .inl (cT 0, 4096, .inl f6)), (a7, .inl (cT 3, 8, .inr (.inr (.inr (.inr rf0))))), (a8, .inr (3, [.ref a9, .ref a10, .ref p11, .ref p13, .int v15])), (a9, .inl (cT 1, 2048, .inl f9)), (a10, .inl (cT 1, 2048, .inl f10)), (p11, .inl (cT 1, 2048, .inl f12)), (p13, .inl (cT 1, 2048, .inl f14)), (a13, .inr (2, [.ref a14, .int o11.2.2.1, .int o11.2.2.2])), (a14, .inl (cT 2, 4096, .inr (.inl o11.2.1)))]) hP hD [0, 1, 2, 3, 4, 5, 6, 7, 8, 9, 10, 11, 12, 17, 18] [13, 14, 15, 16] 4 rfl rfl (by decide) (by decide) hk1 hFc hP1 hD1
        generalize H1 = H at hP hS ⊢
        refine lv_aload_n hx hb dB_binary_70 rfl (lv_at hl 0 rfl) ?_
        refine lv_iload_n hx hb dB_binary_71 rfl (lv_at hl 1 rfl) ?_
        obtain ⟨o17, hq18, hf⟩ := xbind hf
        by_cases hk19 : o17.1 = 0
        · rw [if_pos hk19] at hf
          obtain ⟨hPc, hDc, hFc⟩ := xcut (wc := [(a0, .inr (0, [.ref a1, .ref a3, .ref a5, .ref a7, .ref a8, .ref a13, .int v19, .int o14.2])), (a1, .inr (1, [.ref a2, .int v1, .int v2])), (a2, .inl (cT 0, 4096, .inl f0)), (a3, .inr (1, [.ref a4, .int v4, .int v5])), (a4, .inl (cT 0, 4096, .inl f3)), (a5, .inr (1, [.ref a6, .int v7, .int v8])), (a6, .inl (cT 0, 4096, .inl f6)), (a7, .inl (cT 3, 8, .inr (.inr (.inr (.inr rf0))))), (a8, .inr (3, [.ref a9, .ref a10, .ref p11, .ref p13, .int v15])), (a9, .inl (cT 1, 2048, .inl f9)), (a10, .inl (cT 1, 2048, .inl f10)), (p11, .inl (cT 1, 2048, .inl f12)), (p13, .inl (cT 1, 2048, .inl f14)), (a13, .inr (2, [.ref a14, .int o11.2.2.1, .int o11.2.2.2])), (a14, .inl (cT 2, 4096, .inr (.inl o11.2.1)))]) hP hD hS hA [4, 5, 6, 7, 8, 9, 10, 11, 12, 13, 14, 15, 16, 17, 18] rfl rfl (by decide)
          refine va_calli (va_runV (C := "ValueBench") (As := [.int x1]) (rest := []) ⟨hx, hb, hml, hown, htx⟩ (gB_keepSpare l hl9 D cT aK aV H.size d n a0 a1 a2 a3 a4 a5 a6 a7 a8 a9 a10 a13 a14 rf0 b1 x1 f0 v1 v2 f3 v4 v5 f6 v7 v8 f9 f10 p11 f12 p13 f14 v15 o11.2.1 o11.2.2.1 o11.2.2.2 v19 o14.2 hr1 o17 hq18 hk19) ⟨callB_of 1 htx (xw_goodC kw_3_17) rfl rfl rfl (htx _ kw_1_1) (htx _ kw_3_14) ⟨by decide, by decide, by decide +kernel⟩ ⟨(by show (16 * d + 6) + 1 ≤ 16 * d + 7; omega), (by show 8 + (3 + 11) + (400 * d + 100) ≤ 400 * d + 180; omega)⟩, (htx _ kw_3_16), (htx _ kp_B_keepSpare)⟩ ⟨xPre_blind, va_recv hK hP (ci := 0) rfl (q0 := 4) rfl, (fun U hU hW => ⟨rfl, xPre_of hZ hS hFc hPc hDc hK U hU hW⟩)⟩ rfl rfl hl.1 rfl (lv_room (Nat.le_of_ble_eq_true rfl)) dB_binary_72 ⟨Nat.le_of_ble_eq_true rfl, Nat.le_of_ble_eq_true rfl⟩) hS (fun q _ h => hFc q h) hFc (fun r20 u9 t H1 locs ht hvm hr9 hB hz1 hk1 hS => ?_)
          obtain ⟨hP1, hK1, hD1⟩ := hB
          rw [ht] at hP1
          obtain ⟨hP, hD⟩ := xjoin (W := [(a15, .inr (2, [.ref a16, .int v22, .int v23])), (a16, .inl (cT 2, 4096, .inr (.inl f21))), (a17, .inr (2, [.ref a18, .int v25, .int v26])), (a18, .inl (cT 2, 4096, .inr (.inl f24))), (a0, .inr (0, [.ref a1, .ref a3, .ref a5, .ref a7, .ref a8, .ref b1, .int v19, .int o14.2])), (a1, .inr (1, [.ref a2, .int v1, .int v2])), (a2, .inl (cT 0, 4096, .inl f0)), (a3, .inr (1, [.ref a4, .int v4, .int v5])), (a4, .inl (cT 0, 4096, .inl f3)), (a5, .inr (1, [.ref a6, .int o17.2.2.2.1, .int o17.2.2.2.2])), (a6, .inl (cT 0, 4096, .inl o17.2.2.1)), (a7, .inl (cT 3, 8, .inr (.inr (.inr (.inr (va_up rf0 x1.toNatClampNeg (some a13))))))), (a8, .inr (3, [.ref a9, .ref a10, .ref p11, .ref p13, .int v15])), (a9, .inl (cT 1, 2048, .inl f9)), (a10, .inl (cT 1, 2048, .inl f10)), (p11, .inl (cT 1, 2048, .inl f12)), (p13, .inl (cT 1, 2048, .inl f14)), (a13, .inr (2, [.ref a14, .int o11.2.2.1, .int o11.2.2.2])), (a14, .inl (cT 2, 4096, .inr (.inl o11.2.1)))]) hP hD [4, 5, 6, 7, 8, 9, 10, 11, 12, 13, 14, 15, 16, 17, 18] [0, 1, 2, 3] 4 rfl rfl (by decide) (by decide) hk1 hFc hP1 hD1
          generalize H1 = H at hP hS ⊢
          rw [hr9]
          refine W.eq (g2 := F0 m 75 ls [.int o17.2.1]) rfl ?_
          refine lv_pop hx hb dB_binary_75 rfl ?_
          obtain rfl := Option.some.inj hf
          obtain ⟨hP9, hD9⟩ := xsub (wc := [(a0, .inr (0, [.ref a1, .ref a3, .ref a5, .ref a7, .ref a8, .ref b1, .int v19, .int o14.2])), (a1, .inr (1, [.ref a2, .int v1, .int v2])), (a2, .inl (cT 0, 4096, .inl f0)), (a3, .inr (1, [.ref a4, .int v4, .int v5])), (a4, .inl (cT 0, 4096, .inl f3)), (a5, .inr (1, [.ref a6, .int o17.2.2.2.1, .int o17.2.2.2.2])), (a6, .inl (cT 0, 4096, .inl o17.2.2.1)), (a7, .inl (cT 3, 8, .inr (.inr (.inr (.inr (va_up rf0 x1.toNatClampNeg (some a13))))))), (a8, .inr (3, [.ref a9, .ref a10, .ref p11, .ref p13, .int v15])), (a9, .inl (cT 1, 2048, .inl f9)), (a10, .inl (cT 1, 2048, .inl f10)), (p11, .inl (cT 1, 2048, .inl f12)), (p13, .inl (cT 1, 2048, .inl f14)), (a13, .inr (2, [.ref a14, .int o11.2.2.1, .int o11.2.2.2])), (a14, .inl (cT 2, 4096, .inr (.inl o11.2.1))), (a15, .inr (2, [.ref a16, .int v22, .int v23])), (a16, .inl (cT 2, 4096, .inr (.inl f21))), (a17, .inr (2, [.ref a18, .int v25, .int v26])), (a18, .inl (cT 2, 4096, .inr (.inl f24)))]) hP hD [4, 5, 6, 7, 8, 9, 10, 11, 12, 13, 14, 15, 16, 17, 18, 0, 1, 2, 3] rfl rfl (by decide)
          refine W.widen (k := 3) (n := 18) (Nat.le_of_ble_eq_true rfl) (Nat.le_of_ble_eq_true rfl) ?_
          exact W.vret hx hb hr (fun t ht hW => ⟨⟨(), rfl, trivial, by rw [ht]; exact hP9, va_K.moved hW.alike hK, hD9⟩, hS.F ht⟩) hS.2.2 dB_binary_76
        rw [if_neg hk19] at hf
        by_cases hk21 : o17.1 = 1
        · rw [if_pos hk21] at hf
          obtain rfl := Option.some.inj hf
          exact absurd (show (1 : Nat) = 0 from hkd) (by decide)
        rw [if_neg hk21] at hf
        exact nomatch hf
      rw [if_neg hk16] at hf
      by_cases hk23 : o14.1 = 1
      · rw [if_pos hk23] at hf
        obtain rfl := Option.some.inj hf
        exact absurd (show (2 : Nat) = 0 from hkd) (by decide)
      rw [if_neg hk23] at hf
      exact nomatch hf
    rw [if_neg hk6] at hf
    by_cases hk24 : o4 = 1
    · rw [if_pos hk24] at hf
      obtain rfl := Option.some.inj hf
      exact absurd (show (3 : Nat) = 0 from hkd) (by decide)
    rw [if_neg hk24] at hf
    exact nomatch hf
  · rw [if_neg hc] at hf
    refine lv_iload_n hx hb dB_binary_7 rfl (lv_at hl 2 rfl) ?_
    refine lv_iconst (v := 4) hx hb dB_binary_8 (by decide) ?_
    obtain ⟨o4, hq5, hf⟩ := xbind hf
    obtain ⟨hPc, hDc, hFc⟩ := xcut (wc := []) hP hD hS hA [] rfl rfl (by decide)
    refine va_calli (va_runS (As := [.int x2, .int 4]) (rest := []) ⟨hx, hb, hml, hown, htx⟩ (gB_isWithin l hl9 D cT aK aV H.size n x2 (4 : Int32) o4 hq5) ⟨callB_of 2 htx (xw_goodC kw_1_218) rfl rfl rfl (htx _ kw_1_1) (htx _ kw_1_216) ⟨by decide, by decide, by decide +kernel⟩ ⟨Nat.le_of_ble_eq_true rfl, Nat.le_of_ble_eq_true rfl⟩, htx _ kw_1_217⟩ ⟨xPre_blind, (fun U hU hW => ⟨rfl, xPre_of hZ hS hFc hPc hDc hK U hU hW⟩)⟩ rfl rfl hl.1 rfl (lv_room (Nat.le_of_ble_eq_true rfl)) dB_binary_9 ⟨Nat.le_of_ble_eq_true rfl, Nat.le_of_ble_eq_true rfl⟩) hS (fun q _ h => hFc q h) hFc (fun r6 u9 t H1 locs ht hvm hr9 hB hz1 hk1 hS => ?_)
    obtain ⟨hP1, hK1, hD1⟩ := hB
    rw [ht] at hP1
    obtain ⟨hP, hD⟩ := xjoin (W := [(a0, .inr (0, [.ref a1, .ref a3, .ref a5, .ref a7, .ref a8, .ref a13, .int v19, .int v20])), (a1, .inr (1, [.ref a2, .int v1, .int v2])), (a2, .inl (cT 0, 4096, .inl f0)), (a3, .inr (1, [.ref a4, .int v4, .int v5])), (a4, .inl (cT 0, 4096, .inl f3)), (a5, .inr (1, [.ref a6, .int v7, .int v8])), (a6, .inl (cT 0, 4096, .inl f6)), (a7, .inl (cT 3, 8, .inr (.inr (.inr (.inr rf0))))), (a8, .inr (3, [.ref a9, .ref a10, .ref p11, .ref p13, .int v15])), (a9, .inl (cT 1, 2048, .inl f9)), (a10, .inl (cT 1, 2048, .inl f10)), (p11, .inl (cT 1, 2048, .inl f12)), (p13, .inl (cT 1, 2048, .inl f14)), (a13, .inr (2, [.ref a14, .int v17, .int v18])), (a14, .inl (cT 2, 4096, .inr (.inl f16))), (a15, .inr (2, [.ref a16, .int v22, .int v23])), (a16, .inl (cT 2, 4096, .inr (.inl f21))), (a17, .inr (2, [.ref a18, .int v25, .int v26])), (a18, .inl (cT 2, 4096, .inr (.inl f24)))]) hP hD [] [0, 1, 2, 3, 4, 5, 6, 7, 8, 9, 10, 11, 12, 13, 14, 15, 16, 17, 18] 19 rfl rfl (by decide) (by decide) hk1 hFc hP1 hD1
    generalize H1 = H at hP hS ⊢
    rw [hr9]
    refine W.eq (g2 := F0 m 12 ls [.int o4]) rfl ?_
    refine lv_if_eq (tgt := 34) hx hb dB_binary_12 (by decide) (fun hc => ?_) (fun hc => ?_)
    · rw [if_pos hc] at hf
      refine lv_iconst (v := 0) hx hb dB_binary_34 (by decide) ?_
      obtain ⟨o7, hq8, hf⟩ := xbind hf
      by_cases hk9 : o7 = 0
      · rw [if_pos hk9] at hf
        obtain ⟨hPc, hDc, hFc⟩ := xcut (wc := []) hP hD hS hA [] rfl rfl (by decide)
        refine va_callv (va_runS (As := [.int 0]) (rest := []) ⟨hx, hb, hml, hown, htx⟩ (gB_demand l hl9 D cT aK aV H.size n (0 : Int32) o7 hq8 hk9) ⟨callB_of 1 htx (xw_goodC kw_1_221) rfl rfl rfl (htx _ kw_1_1) (htx _ kw_1_219) ⟨by decide, by decide, by decide +kernel⟩ ⟨Nat.le_of_ble_eq_true rfl, Nat.le_of_ble_eq_true rfl⟩, htx _ kw_1_220⟩ ⟨xPre_blind, (fun U hU hW => ⟨rfl, xPre_of hZ hS hFc hPc hDc hK U hU hW⟩)⟩ rfl rfl hl.1 rfl (lv_room (Nat.le_of_ble_eq_true rfl)) dB_binary_35 ⟨Nat.le_of_ble_eq_true rfl, Nat.le_of_ble_eq_true rfl⟩) hS (fun q _ h => hFc q h) hFc (fun u9 t H1 locs ht hvm hr9 hB hz1 hk1 hS => ?_)
        obtain ⟨hP1, hK1, hD1⟩ := hB
        rw [ht] at hP1
        obtain ⟨hP, hD⟩ := xjoin (W := [(a0, .inr (0, [.ref a1, .ref a3, .ref a5, .ref a7, .ref a8, .ref a13, .int v19, .int v20])), (a1, .inr (1, [.ref a2, .int v1, .int v2])), (a2, .inl (cT 0, 4096, .inl f0)), (a3, .inr (1, [.ref a4, .int v4, .int v5])), (a4, .inl (cT 0, 4096, .inl f3)), (a5, .inr (1, [.ref a6, .int v7, .int v8])), (a6, .inl (cT 0, 4096, .inl f6)), (a7, .inl (cT 3, 8, .inr (.inr (.inr (.inr rf0))))), (a8, .inr (3, [.ref a9, .ref a10, .ref p11, .ref p13, .int v15])), (a9, .inl (cT 1, 2048, .inl f9)), (a10, .inl (cT 1, 2048, .inl f10)), (p11, .inl (cT 1, 2048, .inl f12)), (p13, .inl (cT 1, 2048, .inl f14)), (a13, .inr (2, [.ref a14, .int v17, .int v18])), (a14, .inl (cT 2, 4096, .inr (.inl f16))), (a15, .inr (2, [.ref a16, .int v22, .int v23])), (a16, .inl (cT 2, 4096, .inr (.inl f21))), (a17, .inr (2, [.ref a18, .int v25, .int v26])), (a18, .inl (cT 2, 4096, .inr (.inl f24)))]) hP hD [] [0, 1, 2, 3, 4, 5, 6, 7, 8, 9, 10, 11, 12, 13, 14, 15, 16, 17, 18] 19 rfl rfl (by decide) (by decide) hk1 hFc hP1 hD1
        generalize H1 = H at hP hS ⊢
        refine lv_aload_n hx hb dB_binary_38 rfl (lv_at hl 0 rfl) ?_
        refine va_get (D := D) (ci := 0) (v := .ref a13) (C := "ValueBench") (T := TB) (N := 8) hx hb htx inB hown hK hP 0 rfl rfl 5 (by decide) (htx _ kw_1_100) (fun _ h9 => h9) rfl dB_binary_39 ?_
        obtain ⟨o10, hq11, hf⟩ := xbind hf
        obtain ⟨hPc, hDc, hFc⟩ := xcut (wc := [(a13, .inr (2, [.ref a14, .int v17, .int v18])), (a14, .inl (cT 2, 4096, .inr (.inl f16)))]) hP hD hS hA [13, 14] rfl rfl (by decide)
        refine va_callv (va_runV (C := "ValueBench$Row") (As := []) (rest := []) ⟨hx, hb, hml, hown, htx⟩ (gR_clear l hl9 D cT aK aV H.size n a13 a14 f16 v17 v18 o10 hq11) ⟨callB_of 0 htx (xw_goodC kw_2_22) rfl rfl rfl (htx _ kw_1_4) (htx _ kw_2_19) ⟨by decide, by decide, by decide +kernel⟩ ⟨Nat.le_of_ble_eq_true rfl, Nat.le_of_ble_eq_true rfl⟩, (htx _ kw_2_20), (htx _ kw_2_21)⟩ ⟨xPre_blind, va_recv hK hP (ci := 2) rfl (q0 := 13) rfl, (fun U hU hW => ⟨rfl, xPre_of hZ hS hFc hPc hDc hK U hU hW⟩)⟩ rfl rfl hl.1 rfl (lv_room (Nat.le_of_ble_eq_true rfl)) dB_binary_42 ⟨Nat.le_of_ble_eq_true rfl, Nat.le_of_ble_eq_true rfl⟩) hS (fun q _ h => hFc q h) hFc (fun u9 t H1 locs ht hvm hr9 hB hz1 hk1 hS => ?_)
        obtain ⟨hP1, hK1, hD1⟩ := hB
        rw [ht] at hP1
        obtain ⟨hP, hD⟩ := xjoin (W := [(a0, .inr (0, [.ref a1, .ref a3, .ref a5, .ref a7, .ref a8, .ref a13, .int v19, .int v20])), (a1, .inr (1, [.ref a2, .int v1, .int v2])), (a2, .inl (cT 0, 4096, .inl f0)), (a3, .inr (1, [.ref a4, .int v4, .int v5])), (a4, .inl (cT 0, 4096, .inl f3)), (a5, .inr (1, [.ref a6, .int v7, .int v8])), (a6, .inl (cT 0, 4096, .inl f6)), (a7, .inl (cT 3, 8, .inr (.inr (.inr (.inr rf0))))), (a8, .inr (3, [.ref a9, .ref a10, .ref p11, .ref p13, .int v15])), (a9, .inl (cT 1, 2048, .inl f9)), (a10, .inl (cT 1, 2048, .inl f10)), (p11, .inl (cT 1, 2048, .inl f12)), (p13, .inl (cT 1, 2048, .inl f14)), (a15, .inr (2, [.ref a16, .int v22, .int v23])), (a16, .inl (cT 2, 4096, .inr (.inl f21))), (a17, .inr (2, [.ref a18, .int v25, .int v26])), (a18, .inl (cT 2, 4096, .inr (.inl f24))), (a13, .inr (2, [.ref a14, .int o10.1, .int o10.2])), (a14, .inl (cT 2, 4096, .inr (.inl f16)))]) hP hD [13, 14] [0, 1, 2, 3, 4, 5, 6, 7, 8, 9, 10, 11, 12, 15, 16, 17, 18] 17 rfl rfl (by decide) (by decide) hk1 hFc hP1 hD1
        generalize H1 = H at hP hS ⊢
        refine lv_aload_n hx hb dB_binary_45 rfl (lv_at hl 0 rfl) ?_
        refine lv_iload_n hx hb dB_binary_46 rfl (lv_at hl 2 rfl) ?_
        refine lv_aload_n hx hb dB_binary_47 rfl (lv_at hl 0 rfl) ?_
        refine va_get (D := D) (ci := 0) (v := .ref a7) (C := "ValueBench") (T := TB) (N := 8) hx hb htx inB hown hK hP 0 rfl rfl 3 (by decide) (htx _ kw_1_98) (fun _ h9 => h9) rfl dB_binary_48 ?_
        refine lv_iload_n hx hb dB_binary_51 rfl (lv_at hl 3 rfl) ?_
        obtain ⟨hg12, hf⟩ := xifn hf
        refine va_aldq hx hb hK hP 7 3 rfl rfl hg12 dB_binary_52 ?_
        refine W.eq (g2 := F0 m 53 ls [va_rf (rf0 x3.toNatClampNeg), .int x2, .ref a0]) rfl ?_
        rw [hr3 hg12]
        refine W.eq (g2 := F0 m 53 ls [.ref a15, .int x2, .ref a0]) rfl ?_
        refine lv_aload_n hx hb dB_binary_53 rfl (lv_at hl 0 rfl) ?_
        refine va_get (D := D) (ci := 0) (v := .ref a7) (C := "ValueBench") (T := TB) (N := 8) hx hb htx inB hown hK hP 0 rfl rfl 3 (by decide) (htx _ kw_1_98) (fun _ h9 => h9) rfl dB_binary_54 ?_
        refine lv_iload hx hb dB_binary_57 (lv_at hl 4 rfl) ?_
        obtain ⟨hg13, hf⟩ := xifn hf
        refine va_aldq hx hb hK hP 7 3 rfl rfl hg13 dB_binary_59 ?_
        refine W.eq (g2 := F0 m 60 ls [va_rf (rf0 x4.toNatClampNeg), .ref a15, .int x2, .ref a0]) rfl ?_
        rw [hr4 hg13]
        refine W.eq (g2 := F0 m 60 ls [.ref a17, .ref a15, .int x2, .ref a0]) rfl ?_
        refine lv_aload_n hx hb dB_binary_60 rfl (lv_at hl 0 rfl) ?_
        refine va_get (D := D) (ci := 0) (v := .ref a13) (C := "ValueBench") (T := TB) (N := 8) hx hb htx inB hown hK hP 0 rfl rfl 5 (by decide) (htx _ kw_1_100) (fun _ h9 => h9) rfl dB_binary_61 ?_
        obtain ⟨o14, hq15, hf⟩ := xbind hf
        obtain ⟨hPc, hDc, hFc⟩ := xcut (wc := [(a15, .inr (2, [.ref a16, .int v22, .int v23])), (a16, .inl (cT 2, 4096, .inr (.inl f21))), (a17, .inr (2, [.ref a18, .int v25, .int v26])), (a18, .inl (cT 2, 4096, .inr (.inl f24))), (a13, .inr (2, [.ref a14, .int o10.1, .int o10.2])), (a14, .inl (cT 2, 4096, .inr (.inl f16)))]) hP hD hS hA [13, 14, 15, 16, 17, 18] rfl rfl (by decide)
        refine va_calli (va_runS (As := [.int x2, .ref a15, .ref a17, .ref a13]) (rest := [.ref a0]) ⟨hx, hb, hml, hown, htx⟩ (gA_apply l hl9 D cT aK aV H.size d n a15 a16 a17 a18 a13 a14 x2 f21 v22 v23 f24 v25 v26 f16 o10.1 o10.2 o14 hq15) ⟨callB_of 4 htx (xw_goodC kw_3_105) rfl rfl rfl (htx _ kw_1_21) (htx _ kw_3_103) ⟨by decide, by decide, by decide +kernel⟩ ⟨(by show (16 * d + 5) + 1 ≤ 16 * d + 7; omega), (by show 8 + (4 + 11) + (400 * d + 157) ≤ 400 * d + 180; omega)⟩, htx _ kw_3_104⟩ ⟨xPre_blind, (fun U hU hW => ⟨rfl, xPre_of hZ hS hFc hPc hDc hK U hU hW⟩)⟩ rfl rfl hl.1 rfl (lv_room (Nat.le_of_ble_eq_true rfl)) dB_binary_64 ⟨Nat.le_of_ble_eq_true rfl, Nat.le_of_ble_eq_true rfl⟩) hS (fun q _ h => hFc q h) hFc (fun r16 u9 t H1 locs ht hvm hr9 hB hz1 hk1 hS => ?_)
        obtain ⟨hP1, hK1, hD1⟩ := hB
        rw [ht] at hP1
        obtain ⟨hP, hD⟩ := xjoin (W := [(a0, .inr (0, [.ref a1, .ref a3, .ref a5, .ref a7, .ref a8, .ref a13, .int v19, .int v20])), (a1, .inr (1, [.ref a2, .int v1, .int v2])), (a2, .inl (cT 0, 4096, .inl f0)), (a3, .inr (1, [.ref a4, .int v4, .int v5])), (a4, .inl (cT 0, 4096, .inl f3)), (a5, .inr (1, [.ref a6, .int v7, .int v8])), (a6, .inl (cT 0, 4096, .inl f6)), (a7, .inl (cT 3, 8, .inr (.inr (.inr (.inr rf0))))), (a8, .inr (3, [.ref a9, .ref a10, .ref p11, .ref p13, .int v15])), (a9, .inl (cT 1, 2048, .inl f9)), (a10, .inl (cT 1, 2048, .inl f10)), (p11, .inl (cT 1, 2048, .inl f12)), (p13, .inl (cT 1, 2048, .inl f14)), (a15, .inr (2, [.ref a16, .int v22, .int v23])), (a16, .inl (cT 2, 4096, .inr (.inl f21))), (a17, .inr (2, [.ref a18, .int v25, .int v26])), (a18, .inl (cT 2, 4096, .inr (.inl f24))), (a13, .inr (2, [.ref a14, .int o14.2.2.1, .int o14.2.2.2])), (a14, .inl (cT 2, 4096, .inr (.inl o14.2.1)))]) hP hD [13, 14, 15, 16, 17, 18] [0, 1, 2, 3, 4, 5, 6, 7, 8, 9, 10, 11, 12] 13 rfl rfl (by decide) (by decide) hk1 hFc hP1 hD1
        generalize H1 = H at hP hS ⊢
        rw [hr9]
        refine W.eq (g2 := F0 m 67 ls [.int o14.1, .ref a0]) rfl ?_
        obtain ⟨o17, hq18, hf⟩ := xbind hf
        by_cases hk19 : o17.1 = 0
        · rw [if_pos hk19] at hf
          obtain ⟨hPc, hDc, hFc⟩ := xcut (wc := [(a0, .inr (0, [.ref a1, .ref a3, .ref a5, .ref a7, .ref a8, .ref a13, .int v19, .int v20])), (a1, .inr (1, [.ref a2, .int v1, .int v2])), (a2, .inl (cT 0, 4096, .inl f0)), (a3, .inr (1, [.ref a4, .int v4, .int v5])), (a4, .inl (cT 0, 4096, .inl f3)), (a5, .inr (1, [.ref a6, .int v7, .int v8])), (a6, .inl (cT 0, 4096, .inl f6)), (a7, .inl (cT 3, 8, .inr (.inr (.inr (.inr rf0))))), (a8, .inr (3, [.ref a9, .ref a10, .ref p11, .ref p13, .int v15])), (a9, .inl (cT 1, 2048, .inl f9)), (a10, .inl (cT 1, 2048, .inl f10)), (p11, .inl (cT 1, 2048, .inl f12)), (p13, .inl (cT 1, 2048, .inl f14)), (a13, .inr (2, [.ref a14, .int o14.2.2.1, .int o14.2.2.2])), (a14, .inl (cT 2, 4096, .inr (.inl o14.2.1)))]) hP hD hS hA [0, 1, 2, 3, 4, 5, 6, 7, 8, 9, 10, 11, 12, 17, 18] rfl rfl (by decide)
          refine va_callv (va_runV (C := "ValueBench") (As := [.int o14.1]) (rest := []) ⟨hx, hb, hml, hown, htx⟩ (gB_demandDone l hl9 D cT aK aV H.size n a0 a1 a2 a3 a4 a5 a6 a7 a8 a9 a10 a13 a14 rf0 o14.1 f0 v1 v2 f3 v4 v5 f6 v7 v8 f9 f10 p11 f12 p13 f14 v15 o14.2.1 o14.2.2.1 o14.2.2.2 v19 v20 o17 hq18 hk19) ⟨callB_of 1 htx (xw_goodC kw_3_222) rfl rfl rfl (htx _ kw_1_1) (htx _ kw_3_219) ⟨by decide, by decide, by decide +kernel⟩ ⟨Nat.le_of_ble_eq_true rfl, Nat.le_of_ble_eq_true rfl⟩, (htx _ kw_3_221), (htx _ kp_B_demandDone)⟩ ⟨xPre_blind, va_recv hK hP (ci := 0) rfl (q0 := 0) rfl, (fun U hU hW => ⟨rfl, xPre_of hZ hS hFc hPc hDc hK U hU hW⟩)⟩ rfl rfl hl.1 rfl (lv_room (Nat.le_of_ble_eq_true rfl)) dB_binary_67 ⟨Nat.le_of_ble_eq_true rfl, Nat.le_of_ble_eq_true rfl⟩) hS (fun q _ h => hFc q h) hFc (fun u9 t H1 locs ht hvm hr9 hB hz1 hk1 hS => ?_)
          obtain ⟨hP1, hK1, hD1⟩ := hB
          rw [ht] at hP1
          obtain ⟨hP, hD⟩ := xjoin (W := [(a15, .inr (2, [.ref a16, .int v22, .int v23])), (a16, .inl (cT 2, 4096, .inr (.inl f21))), (a17, .inr (2, [.ref a18, .int v25, .int v26])), (a18, .inl (cT 2, 4096, .inr (.inl f24))), (a0, .inr (0, [.ref a1, .ref a3, .ref a5, .ref a7, .ref a8, .ref a13, .int v19, .int o17.2])), (a1, .inr (1, [.ref a2, .int v1, .int v2])), (a2, .inl (cT 0, 4096, .inl f0)), (a3, .inr (1, [.ref a4, .int v4, .int v5])), (a4, .inl (cT 0, 4096, .inl f3)), (a5, .inr (1, [.ref a6, .int v7, .int v8])), (a6, .inl (cT 0, 4096, .inl f6)), (a7, .inl (cT 3, 8, .inr (.inr (.inr (.inr rf0))))), (a8, .inr (3, [.ref a9, .ref a10, .ref p11, .ref p13, .int v15])), (a9, .inl (cT 1, 2048, .inl f9)), (a10, .inl (cT 1, 2048, .inl f10)), (p11, .inl (cT 1, 2048, .inl f12)), (p13, .inl (cT 1, 2048, .inl f14)), (a13, .inr (2, [.ref a14, .int o14.2.2.1, .int o14.2.2.2])), (a14, .inl (cT 2, 4096, .inr (.inl o14.2.1)))]) hP hD [0, 1, 2, 3, 4, 5, 6, 7, 8, 9, 10, 11, 12, 17, 18] [13, 14, 15, 16] 4 rfl rfl (by decide) (by decide) hk1 hFc hP1 hD1
          generalize H1 = H at hP hS ⊢
          refine lv_aload_n hx hb dB_binary_70 rfl (lv_at hl 0 rfl) ?_
          refine lv_iload_n hx hb dB_binary_71 rfl (lv_at hl 1 rfl) ?_
          obtain ⟨o20, hq21, hf⟩ := xbind hf
          by_cases hk22 : o20.1 = 0
          · rw [if_pos hk22] at hf
            obtain ⟨hPc, hDc, hFc⟩ := xcut (wc := [(a0, .inr (0, [.ref a1, .ref a3, .ref a5, .ref a7, .ref a8, .ref a13, .int v19, .int o17.2])), (a1, .inr (1, [.ref a2, .int v1, .int v2])), (a2, .inl (cT 0, 4096, .inl f0)), (a3, .inr (1, [.ref a4, .int v4, .int v5])), (a4, .inl (cT 0, 4096, .inl f3)), (a5, .inr (1, [.ref a6, .int v7, .int v8])), (a6, .inl (cT 0, 4096, .inl f6)), (a7, .inl (cT 3, 8, .inr (.inr (.inr (.inr rf0))))), (a8, .inr (3, [.ref a9, .ref a10, .ref p11, .ref p13, .int v15])), (a9, .inl (cT 1, 2048, .inl f9)), (a10, .inl (cT 1, 2048, .inl f10)), (p11, .inl (cT 1, 2048, .inl f12)), (p13, .inl (cT 1, 2048, .inl f14)), (a13, .inr (2, [.ref a14, .int o14.2.2.1, .int o14.2.2.2])), (a14, .inl (cT 2, 4096, .inr (.inl o14.2.1)))]) hP hD hS hA [4, 5, 6, 7, 8, 9, 10, 11, 12, 13, 14, 15, 16, 17, 18] rfl rfl (by decide)
            refine va_calli (va_runV (C := "ValueBench") (As := [.int x1]) (rest := []) ⟨hx, hb, hml, hown, htx⟩ (gB_keepSpare l hl9 D cT aK aV H.size d n a0 a1 a2 a3 a4 a5 a6 a7 a8 a9 a10 a13 a14 rf0 b1 x1 f0 v1 v2 f3 v4 v5 f6 v7 v8 f9 f10 p11 f12 p13 f14 v15 o14.2.1 o14.2.2.1 o14.2.2.2 v19 o17.2 hr1 o20 hq21 hk22) ⟨callB_of 1 htx (xw_goodC kw_3_17) rfl rfl rfl (htx _ kw_1_1) (htx _ kw_3_14) ⟨by decide, by decide, by decide +kernel⟩ ⟨(by show (16 * d + 6) + 1 ≤ 16 * d + 7; omega), (by show 8 + (3 + 11) + (400 * d + 100) ≤ 400 * d + 180; omega)⟩, (htx _ kw_3_16), (htx _ kp_B_keepSpare)⟩ ⟨xPre_blind, va_recv hK hP (ci := 0) rfl (q0 := 4) rfl, (fun U hU hW => ⟨rfl, xPre_of hZ hS hFc hPc hDc hK U hU hW⟩)⟩ rfl rfl hl.1 rfl (lv_room (Nat.le_of_ble_eq_true rfl)) dB_binary_72 ⟨Nat.le_of_ble_eq_true rfl, Nat.le_of_ble_eq_true rfl⟩) hS (fun q _ h => hFc q h) hFc (fun r23 u9 t H1 locs ht hvm hr9 hB hz1 hk1 hS => ?_)
            obtain ⟨hP1, hK1, hD1⟩ := hB
            rw [ht] at hP1
            obtain ⟨hP, hD⟩ := xjoin (W := [(a15, .inr (2, [.ref a16, .int v22, .int v23])), (a16, .inl (cT 2, 4096, .inr (.inl f21))), (a17, .inr (2, [.ref a18, .int v25, .int v26])), (a18, .inl (cT 2, 4096, .inr (.inl f24))), (a0, .inr (0, [.ref a1, .ref a3, .ref a5, .ref a7, .ref a8, .ref b1, .int v19, .int o17.2])), (a1, .inr (1, [.ref a2, .int v1, .int v2])), (a2, .inl (cT 0, 4096, .inl f0)), (a3, .inr (1, [.ref a4, .int v4, .int v5])), (a4, .inl (cT 0, 4096, .inl f3)), (a5, .inr (1, [.ref a6, .int o20.2.2.2.1, .int o20.2.2.2.2])), (a6, .inl (cT 0, 4096, .inl o20.2.2.1)), (a7, .inl (cT 3, 8, .inr (.inr (.inr (.inr (va_up rf0 x1.toNatClampNeg (some a13))))))), (a8, .inr (3, [.ref a9, .ref a10, .ref p11, .ref p13, .int v15])), (a9, .inl (cT 1, 2048, .inl f9)), (a10, .inl (cT 1, 2048, .inl f10)), (p11, .inl (cT 1, 2048, .inl f12)), (p13, .inl (cT 1, 2048, .inl f14)), (a13, .inr (2, [.ref a14, .int o14.2.2.1, .int o14.2.2.2])), (a14, .inl (cT 2, 4096, .inr (.inl o14.2.1)))]) hP hD [4, 5, 6, 7, 8, 9, 10, 11, 12, 13, 14, 15, 16, 17, 18] [0, 1, 2, 3] 4 rfl rfl (by decide) (by decide) hk1 hFc hP1 hD1
            generalize H1 = H at hP hS ⊢
            rw [hr9]
            refine W.eq (g2 := F0 m 75 ls [.int o20.2.1]) rfl ?_
            refine lv_pop hx hb dB_binary_75 rfl ?_
            obtain rfl := Option.some.inj hf
            obtain ⟨hP9, hD9⟩ := xsub (wc := [(a0, .inr (0, [.ref a1, .ref a3, .ref a5, .ref a7, .ref a8, .ref b1, .int v19, .int o17.2])), (a1, .inr (1, [.ref a2, .int v1, .int v2])), (a2, .inl (cT 0, 4096, .inl f0)), (a3, .inr (1, [.ref a4, .int v4, .int v5])), (a4, .inl (cT 0, 4096, .inl f3)), (a5, .inr (1, [.ref a6, .int o20.2.2.2.1, .int o20.2.2.2.2])), (a6, .inl (cT 0, 4096, .inl o20.2.2.1)), (a7, .inl (cT 3, 8, .inr (.inr (.inr (.inr (va_up rf0 x1.toNatClampNeg (some a13))))))), (a8, .inr (3, [.ref a9, .ref a10, .ref p11, .ref p13, .int v15])), (a9, .inl (cT 1, 2048, .inl f9)), (a10, .inl (cT 1, 2048, .inl f10)), (p11, .inl (cT 1, 2048, .inl f12)), (p13, .inl (cT 1, 2048, .inl f14)), (a13, .inr (2, [.ref a14, .int o14.2.2.1, .int o14.2.2.2])), (a14, .inl (cT 2, 4096, .inr (.inl o14.2.1))), (a15, .inr (2, [.ref a16, .int v22, .int v23])), (a16, .inl (cT 2, 4096, .inr (.inl f21))), (a17, .inr (2, [.ref a18, .int v25, .int v26])), (a18, .inl (cT 2, 4096, .inr (.inl f24)))]) hP hD [4, 5, 6, 7, 8, 9, 10, 11, 12, 13, 14, 15, 16, 17, 18, 0, 1, 2, 3] rfl rfl (by decide)
            refine W.widen (k := 3) (n := 18) (Nat.le_of_ble_eq_true rfl) (Nat.le_of_ble_eq_true rfl) ?_
            exact W.vret hx hb hr (fun t ht hW => ⟨⟨(), rfl, trivial, by rw [ht]; exact hP9, va_K.moved hW.alike hK, hD9⟩, hS.F ht⟩) hS.2.2 dB_binary_76
          rw [if_neg hk22] at hf
          by_cases hk24 : o20.1 = 1
          · rw [if_pos hk24] at hf
            obtain rfl := Option.some.inj hf
            exact absurd (show (1 : Nat) = 0 from hkd) (by decide)
          rw [if_neg hk24] at hf
          exact nomatch hf
        rw [if_neg hk19] at hf
        by_cases hk26 : o17.1 = 1
        · rw [if_pos hk26] at hf
          obtain rfl := Option.some.inj hf
          exact absurd (show (2 : Nat) = 0 from hkd) (by decide)
        rw [if_neg hk26] at hf
        exact nomatch hf
      rw [if_neg hk9] at hf
      by_cases hk27 : o7 = 1
      · rw [if_pos hk27] at hf
        obtain rfl := Option.some.inj hf
        exact absurd (show (3 : Nat) = 0 from hkd) (by decide)
      rw [if_neg hk27] at hf
      exact nomatch hf
    · rw [if_neg hc] at hf
      refine lv_iload_n hx hb dB_binary_15 rfl (lv_at hl 3 rfl) ?_
      obtain ⟨o7, hq8, hf⟩ := xbind hf
      obtain ⟨hPc, hDc, hFc⟩ := xcut (wc := []) hP hD hS hA [] rfl rfl (by decide)
      refine va_calli (va_runS (As := [.int x3]) (rest := []) ⟨hx, hb, hml, hown, htx⟩ (gB_isRegister l hl9 D cT aK aV H.size n x3 o7 hq8) ⟨callB_of 1 htx (xw_goodC kw_2_18) rfl rfl rfl (htx _ kw_1_1) (htx _ kw_2_16) ⟨by decide, by decide, by decide +kernel⟩ ⟨Nat.le_of_ble_eq_true rfl, Nat.le_of_ble_eq_true rfl⟩, htx _ kw_2_17⟩ ⟨xPre_blind, (fun U hU hW => ⟨rfl, xPre_of hZ hS hFc hPc hDc hK U hU hW⟩)⟩ rfl rfl hl.1 rfl (lv_room (Nat.le_of_ble_eq_true rfl)) dB_binary_16 ⟨Nat.le_of_ble_eq_true rfl, Nat.le_of_ble_eq_true rfl⟩) hS (fun q _ h => hFc q h) hFc (fun r9 u9 t H1 locs ht hvm hr9 hB hz1 hk1 hS => ?_)
      obtain ⟨hP1, hK1, hD1⟩ := hB
      rw [ht] at hP1
      obtain ⟨hP, hD⟩ := xjoin (W := [(a0, .inr (0, [.ref a1, .ref a3, .ref a5, .ref a7, .ref a8, .ref a13, .int v19, .int v20])), (a1, .inr (1, [.ref a2, .int v1, .int v2])), (a2, .inl (cT 0, 4096, .inl f0)), (a3, .inr (1, [.ref a4, .int v4, .int v5])), (a4, .inl (cT 0, 4096, .inl f3)), (a5, .inr (1, [.ref a6, .int v7, .int v8])), (a6, .inl (cT 0, 4096, .inl f6)), (a7, .inl (cT 3, 8, .inr (.inr (.inr (.inr rf0))))), (a8, .inr (3, [.ref a9, .ref a10, .ref p11, .ref p13, .int v15])), (a9, .inl (cT 1, 2048, .inl f9)), (a10, .inl (cT 1, 2048, .inl f10)), (p11, .inl (cT 1, 2048, .inl f12)), (p13, .inl (cT 1, 2048, .inl f14)), (a13, .inr (2, [.ref a14, .int v17, .int v18])), (a14, .inl (cT 2, 4096, .inr (.inl f16))), (a15, .inr (2, [.ref a16, .int v22, .int v23])), (a16, .inl (cT 2, 4096, .inr (.inl f21))), (a17, .inr (2, [.ref a18, .int v25, .int v26])), (a18, .inl (cT 2, 4096, .inr (.inl f24)))]) hP hD [] [0, 1, 2, 3, 4, 5, 6, 7, 8, 9, 10, 11, 12, 13, 14, 15, 16, 17, 18] 19 rfl rfl (by decide) (by decide) hk1 hFc hP1 hD1
      generalize H1 = H at hP hS ⊢
      rw [hr9]
      refine W.eq (g2 := F0 m 19 ls [.int o7]) rfl ?_
      refine lv_if_eq (tgt := 34) hx hb dB_binary_19 (by decide) (fun hc => ?_) (fun hc => ?_)
      · rw [if_pos hc] at hf
        refine lv_iconst (v := 0) hx hb dB_binary_34 (by decide) ?_
        obtain ⟨o10, hq11, hf⟩ := xbind hf
        by_cases hk12 : o10 = 0
        · rw [if_pos hk12] at hf
          obtain ⟨hPc, hDc, hFc⟩ := xcut (wc := []) hP hD hS hA [] rfl rfl (by decide)
          refine va_callv (va_runS (As := [.int 0]) (rest := []) ⟨hx, hb, hml, hown, htx⟩ (gB_demand l hl9 D cT aK aV H.size n (0 : Int32) o10 hq11 hk12) ⟨callB_of 1 htx (xw_goodC kw_1_221) rfl rfl rfl (htx _ kw_1_1) (htx _ kw_1_219) ⟨by decide, by decide, by decide +kernel⟩ ⟨Nat.le_of_ble_eq_true rfl, Nat.le_of_ble_eq_true rfl⟩, htx _ kw_1_220⟩ ⟨xPre_blind, (fun U hU hW => ⟨rfl, xPre_of hZ hS hFc hPc hDc hK U hU hW⟩)⟩ rfl rfl hl.1 rfl (lv_room (Nat.le_of_ble_eq_true rfl)) dB_binary_35 ⟨Nat.le_of_ble_eq_true rfl, Nat.le_of_ble_eq_true rfl⟩) hS (fun q _ h => hFc q h) hFc (fun u9 t H1 locs ht hvm hr9 hB hz1 hk1 hS => ?_)
          obtain ⟨hP1, hK1, hD1⟩ := hB
          rw [ht] at hP1
          obtain ⟨hP, hD⟩ := xjoin (W := [(a0, .inr (0, [.ref a1, .ref a3, .ref a5, .ref a7, .ref a8, .ref a13, .int v19, .int v20])), (a1, .inr (1, [.ref a2, .int v1, .int v2])), (a2, .inl (cT 0, 4096, .inl f0)), (a3, .inr (1, [.ref a4, .int v4, .int v5])), (a4, .inl (cT 0, 4096, .inl f3)), (a5, .inr (1, [.ref a6, .int v7, .int v8])), (a6, .inl (cT 0, 4096, .inl f6)), (a7, .inl (cT 3, 8, .inr (.inr (.inr (.inr rf0))))), (a8, .inr (3, [.ref a9, .ref a10, .ref p11, .ref p13, .int v15])), (a9, .inl (cT 1, 2048, .inl f9)), (a10, .inl (cT 1, 2048, .inl f10)), (p11, .inl (cT 1, 2048, .inl f12)), (p13, .inl (cT 1, 2048, .inl f14)), (a13, .inr (2, [.ref a14, .int v17, .int v18])), (a14, .inl (cT 2, 4096, .inr (.inl f16))), (a15, .inr (2, [.ref a16, .int v22, .int v23])), (a16, .inl (cT 2, 4096, .inr (.inl f21))), (a17, .inr (2, [.ref a18, .int v25, .int v26])), (a18, .inl (cT 2, 4096, .inr (.inl f24)))]) hP hD [] [0, 1, 2, 3, 4, 5, 6, 7, 8, 9, 10, 11, 12, 13, 14, 15, 16, 17, 18] 19 rfl rfl (by decide) (by decide) hk1 hFc hP1 hD1
          generalize H1 = H at hP hS ⊢
          refine lv_aload_n hx hb dB_binary_38 rfl (lv_at hl 0 rfl) ?_
          refine va_get (D := D) (ci := 0) (v := .ref a13) (C := "ValueBench") (T := TB) (N := 8) hx hb htx inB hown hK hP 0 rfl rfl 5 (by decide) (htx _ kw_1_100) (fun _ h9 => h9) rfl dB_binary_39 ?_
          obtain ⟨o13, hq14, hf⟩ := xbind hf
          obtain ⟨hPc, hDc, hFc⟩ := xcut (wc := [(a13, .inr (2, [.ref a14, .int v17, .int v18])), (a14, .inl (cT 2, 4096, .inr (.inl f16)))]) hP hD hS hA [13, 14] rfl rfl (by decide)
          refine va_callv (va_runV (C := "ValueBench$Row") (As := []) (rest := []) ⟨hx, hb, hml, hown, htx⟩ (gR_clear l hl9 D cT aK aV H.size n a13 a14 f16 v17 v18 o13 hq14) ⟨callB_of 0 htx (xw_goodC kw_2_22) rfl rfl rfl (htx _ kw_1_4) (htx _ kw_2_19) ⟨by decide, by decide, by decide +kernel⟩ ⟨Nat.le_of_ble_eq_true rfl, Nat.le_of_ble_eq_true rfl⟩, (htx _ kw_2_20), (htx _ kw_2_21)⟩ ⟨xPre_blind, va_recv hK hP (ci := 2) rfl (q0 := 13) rfl, (fun U hU hW => ⟨rfl, xPre_of hZ hS hFc hPc hDc hK U hU hW⟩)⟩ rfl rfl hl.1 rfl (lv_room (Nat.le_of_ble_eq_true rfl)) dB_binary_42 ⟨Nat.le_of_ble_eq_true rfl, Nat.le_of_ble_eq_true rfl⟩) hS (fun q _ h => hFc q h) hFc (fun u9 t H1 locs ht hvm hr9 hB hz1 hk1 hS => ?_)
          obtain ⟨hP1, hK1, hD1⟩ := hB
          rw [ht] at hP1
          obtain ⟨hP, hD⟩ := xjoin (W := [(a0, .inr (0, [.ref a1, .ref a3, .ref a5, .ref a7, .ref a8, .ref a13, .int v19, .int v20])), (a1, .inr (1, [.ref a2, .int v1, .int v2])), (a2, .inl (cT 0, 4096, .inl f0)), (a3, .inr (1, [.ref a4, .int v4, .int v5])), (a4, .inl (cT 0, 4096, .inl f3)), (a5, .inr (1, [.ref a6, .int v7, .int v8])), (a6, .inl (cT 0, 4096, .inl f6)), (a7, .inl (cT 3, 8, .inr (.inr (.inr (.inr rf0))))), (a8, .inr (3, [.ref a9, .ref a10, .ref p11, .ref p13, .int v15])), (a9, .inl (cT 1, 2048, .inl f9)), (a10, .inl (cT 1, 2048, .inl f10)), (p11, .inl (cT 1, 2048, .inl f12)), (p13, .inl (cT 1, 2048, .inl f14)), (a15, .inr (2, [.ref a16, .int v22, .int v23])), (a16, .inl (cT 2, 4096, .inr (.inl f21))), (a17, .inr (2, [.ref a18, .int v25, .int v26])), (a18, .inl (cT 2, 4096, .inr (.inl f24))), (a13, .inr (2, [.ref a14, .int o13.1, .int o13.2])), (a14, .inl (cT 2, 4096, .inr (.inl f16)))]) hP hD [13, 14] [0, 1, 2, 3, 4, 5, 6, 7, 8, 9, 10, 11, 12, 15, 16, 17, 18] 17 rfl rfl (by decide) (by decide) hk1 hFc hP1 hD1
          generalize H1 = H at hP hS ⊢
          refine lv_aload_n hx hb dB_binary_45 rfl (lv_at hl 0 rfl) ?_
          refine lv_iload_n hx hb dB_binary_46 rfl (lv_at hl 2 rfl) ?_
          refine lv_aload_n hx hb dB_binary_47 rfl (lv_at hl 0 rfl) ?_
          refine va_get (D := D) (ci := 0) (v := .ref a7) (C := "ValueBench") (T := TB) (N := 8) hx hb htx inB hown hK hP 0 rfl rfl 3 (by decide) (htx _ kw_1_98) (fun _ h9 => h9) rfl dB_binary_48 ?_
          refine lv_iload_n hx hb dB_binary_51 rfl (lv_at hl 3 rfl) ?_
          obtain ⟨hg15, hf⟩ := xifn hf
          refine va_aldq hx hb hK hP 7 3 rfl rfl hg15 dB_binary_52 ?_
          refine W.eq (g2 := F0 m 53 ls [va_rf (rf0 x3.toNatClampNeg), .int x2, .ref a0]) rfl ?_
          rw [hr3 hg15]
          refine W.eq (g2 := F0 m 53 ls [.ref a15, .int x2, .ref a0]) rfl ?_
          refine lv_aload_n hx hb dB_binary_53 rfl (lv_at hl 0 rfl) ?_
          refine va_get (D := D) (ci := 0) (v := .ref a7) (C := "ValueBench") (T := TB) (N := 8) hx hb htx inB hown hK hP 0 rfl rfl 3 (by decide) (htx _ kw_1_98) (fun _ h9 => h9) rfl dB_binary_54 ?_
          refine lv_iload hx hb dB_binary_57 (lv_at hl 4 rfl) ?_
          obtain ⟨hg16, hf⟩ := xifn hf
          refine va_aldq hx hb hK hP 7 3 rfl rfl hg16 dB_binary_59 ?_
          refine W.eq (g2 := F0 m 60 ls [va_rf (rf0 x4.toNatClampNeg), .ref a15, .int x2, .ref a0]) rfl ?_
          rw [hr4 hg16]
          refine W.eq (g2 := F0 m 60 ls [.ref a17, .ref a15, .int x2, .ref a0]) rfl ?_
          refine lv_aload_n hx hb dB_binary_60 rfl (lv_at hl 0 rfl) ?_
          refine va_get (D := D) (ci := 0) (v := .ref a13) (C := "ValueBench") (T := TB) (N := 8) hx hb htx inB hown hK hP 0 rfl rfl 5 (by decide) (htx _ kw_1_100) (fun _ h9 => h9) rfl dB_binary_61 ?_
          obtain ⟨o17, hq18, hf⟩ := xbind hf
          obtain ⟨hPc, hDc, hFc⟩ := xcut (wc := [(a15, .inr (2, [.ref a16, .int v22, .int v23])), (a16, .inl (cT 2, 4096, .inr (.inl f21))), (a17, .inr (2, [.ref a18, .int v25, .int v26])), (a18, .inl (cT 2, 4096, .inr (.inl f24))), (a13, .inr (2, [.ref a14, .int o13.1, .int o13.2])), (a14, .inl (cT 2, 4096, .inr (.inl f16)))]) hP hD hS hA [13, 14, 15, 16, 17, 18] rfl rfl (by decide)
          refine va_calli (va_runS (As := [.int x2, .ref a15, .ref a17, .ref a13]) (rest := [.ref a0]) ⟨hx, hb, hml, hown, htx⟩ (gA_apply l hl9 D cT aK aV H.size d n a15 a16 a17 a18 a13 a14 x2 f21 v22 v23 f24 v25 v26 f16 o13.1 o13.2 o17 hq18) ⟨callB_of 4 htx (xw_goodC kw_3_105) rfl rfl rfl (htx _ kw_1_21) (htx _ kw_3_103) ⟨by decide, by decide, by decide +kernel⟩ ⟨(by show (16 * d + 5) + 1 ≤ 16 * d + 7; omega), (by show 8 + (4 + 11) + (400 * d + 157) ≤ 400 * d + 180; omega)⟩, htx _ kw_3_104⟩ ⟨xPre_blind, (fun U hU hW => ⟨rfl, xPre_of hZ hS hFc hPc hDc hK U hU hW⟩)⟩ rfl rfl hl.1 rfl (lv_room (Nat.le_of_ble_eq_true rfl)) dB_binary_64 ⟨Nat.le_of_ble_eq_true rfl, Nat.le_of_ble_eq_true rfl⟩) hS (fun q _ h => hFc q h) hFc (fun r19 u9 t H1 locs ht hvm hr9 hB hz1 hk1 hS => ?_)
          obtain ⟨hP1, hK1, hD1⟩ := hB
          rw [ht] at hP1
          obtain ⟨hP, hD⟩ := xjoin (W := [(a0, .inr (0, [.ref a1, .ref a3, .ref a5, .ref a7, .ref a8, .ref a13, .int v19, .int v20])), (a1, .inr (1, [.ref a2, .int v1, .int v2])), (a2, .inl (cT 0, 4096, .inl f0)), (a3, .inr (1, [.ref a4, .int v4, .int v5])), (a4, .inl (cT 0, 4096, .inl f3)), (a5, .inr (1, [.ref a6, .int v7, .int v8])), (a6, .inl (cT 0, 4096, .inl f6)), (a7, .inl (cT 3, 8, .inr (.inr (.inr (.inr rf0))))), (a8, .inr (3, [.ref a9, .ref a10, .ref p11, .ref p13, .int v15])), (a9, .inl (cT 1, 2048, .inl f9)), (a10, .inl (cT 1, 2048, .inl f10)), (p11, .inl (cT 1, 2048, .inl f12)), (p13, .inl (cT 1, 2048, .inl f14)), (a15, .inr (2, [.ref a16, .int v22, .int v23])), (a16, .inl (cT 2, 4096, .inr (.inl f21))), (a17, .inr (2, [.ref a18, .int v25, .int v26])), (a18, .inl (cT 2, 4096, .inr (.inl f24))), (a13, .inr (2, [.ref a14, .int o17.2.2.1, .int o17.2.2.2])), (a14, .inl (cT 2, 4096, .inr (.inl o17.2.1)))]) hP hD [13, 14, 15, 16, 17, 18] [0, 1, 2, 3, 4, 5, 6, 7, 8, 9, 10, 11, 12] 13 rfl rfl (by decide) (by decide) hk1 hFc hP1 hD1
          generalize H1 = H at hP hS ⊢
          rw [hr9]
          refine W.eq (g2 := F0 m 67 ls [.int o17.1, .ref a0]) rfl ?_
          obtain ⟨o20, hq21, hf⟩ := xbind hf
          by_cases hk22 : o20.1 = 0
          · rw [if_pos hk22] at hf
            obtain ⟨hPc, hDc, hFc⟩ := xcut (wc := [(a0, .inr (0, [.ref a1, .ref a3, .ref a5, .ref a7, .ref a8, .ref a13, .int v19, .int v20])), (a1, .inr (1, [.ref a2, .int v1, .int v2])), (a2, .inl (cT 0, 4096, .inl f0)), (a3, .inr (1, [.ref a4, .int v4, .int v5])), (a4, .inl (cT 0, 4096, .inl f3)), (a5, .inr (1, [.ref a6, .int v7, .int v8])), (a6, .inl (cT 0, 4096, .inl f6)), (a7, .inl (cT 3, 8, .inr (.inr (.inr (.inr rf0))))), (a8, .inr (3, [.ref a9, .ref a10, .ref p11, .ref p13, .int v15])), (a9, .inl (cT 1, 2048, .inl f9)), (a10, .inl (cT 1, 2048, .inl f10)), (p11, .inl (cT 1, 2048, .inl f12)), (p13, .inl (cT 1, 2048, .inl f14)), (a13, .inr (2, [.ref a14, .int o17.2.2.1, .int o17.2.2.2])), (a14, .inl (cT 2, 4096, .inr (.inl o17.2.1)))]) hP hD hS hA [0, 1, 2, 3, 4, 5, 6, 7, 8, 9, 10, 11, 12, 17, 18] rfl rfl (by decide)
            refine va_callv (va_runV (C := "ValueBench") (As := [.int o17.1]) (rest := []) ⟨hx, hb, hml, hown, htx⟩ (gB_demandDone l hl9 D cT aK aV H.size n a0 a1 a2 a3 a4 a5 a6 a7 a8 a9 a10 a13 a14 rf0 o17.1 f0 v1 v2 f3 v4 v5 f6 v7 v8 f9 f10 p11 f12 p13 f14 v15 o17.2.1 o17.2.2.1 o17.2.2.2 v19 v20 o20 hq21 hk22) ⟨callB_of 1 htx (xw_goodC kw_3_222) rfl rfl rfl (htx _ kw_1_1) (htx _ kw_3_219) ⟨by decide, by decide, by decide +kernel⟩ ⟨Nat.le_of_ble_eq_true rfl, Nat.le_of_ble_eq_true rfl⟩, (htx _ kw_3_221), (htx _ kp_B_demandDone)⟩ ⟨xPre_blind, va_recv hK hP (ci := 0) rfl (q0 := 0) rfl, (fun U hU hW => ⟨rfl, xPre_of hZ hS hFc hPc hDc hK U hU hW⟩)⟩ rfl rfl hl.1 rfl (lv_room (Nat.le_of_ble_eq_true rfl)) dB_binary_67 ⟨Nat.le_of_ble_eq_true rfl, Nat.le_of_ble_eq_true rfl⟩) hS (fun q _ h => hFc q h) hFc (fun u9 t H1 locs ht hvm hr9 hB hz1 hk1 hS => ?_)
            obtain ⟨hP1, hK1, hD1⟩ := hB
            rw [ht] at hP1
            obtain ⟨hP, hD⟩ := xjoin (W := [(a15, .inr (2, [.ref a16, .int v22, .int v23])), (a16, .inl (cT 2, 4096, .inr (.inl f21))), (a17, .inr (2, [.ref a18, .int v25, .int v26])), (a18, .inl (cT 2, 4096, .inr (.inl f24))), (a0, .inr (0, [.ref a1, .ref a3, .ref a5, .ref a7, .ref a8, .ref a13, .int v19, .int o20.2])), (a1, .inr (1, [.ref a2, .int v1, .int v2])), (a2, .inl (cT 0, 4096, .inl f0)), (a3, .inr (1, [.ref a4, .int v4, .int v5])), (a4, .inl (cT 0, 4096, .inl f3)), (a5, .inr (1, [.ref a6, .int v7, .int v8])), (a6, .inl (cT 0, 4096, .inl f6)), (a7, .inl (cT 3, 8, .inr (.inr (.inr (.inr rf0))))), (a8, .inr (3, [.ref a9, .ref a10, .ref p11, .ref p13, .int v15])), (a9, .inl (cT 1, 2048, .inl f9)), (a10, .inl (cT 1, 2048, .inl f10)), (p11, .inl (cT 1, 2048, .inl f12)), (p13, .inl (cT 1, 2048, .inl f14)), (a13, .inr (2, [.ref a14, .int o17.2.2.1, .int o17.2.2.2])), (a14, .inl (cT 2, 4096, .inr (.inl o17.2.1)))]) hP hD [0, 1, 2, 3, 4, 5, 6, 7, 8, 9, 10, 11, 12, 17, 18] [13, 14, 15, 16] 4 rfl rfl (by decide) (by decide) hk1 hFc hP1 hD1
            generalize H1 = H at hP hS ⊢
            refine lv_aload_n hx hb dB_binary_70 rfl (lv_at hl 0 rfl) ?_
            refine lv_iload_n hx hb dB_binary_71 rfl (lv_at hl 1 rfl) ?_
            obtain ⟨o23, hq24, hf⟩ := xbind hf
            by_cases hk25 : o23.1 = 0
            · rw [if_pos hk25] at hf
              obtain ⟨hPc, hDc, hFc⟩ := xcut (wc := [(a0, .inr (0, [.ref a1, .ref a3, .ref a5, .ref a7, .ref a8, .ref a13, .int v19, .int o20.2])), (a1, .inr (1, [.ref a2, .int v1, .int v2])), (a2, .inl (cT 0, 4096, .inl f0)), (a3, .inr (1, [.ref a4, .int v4, .int v5])), (a4, .inl (cT 0, 4096, .inl f3)), (a5, .inr (1, [.ref a6, .int v7, .int v8])), (a6, .inl (cT 0, 4096, .inl f6)), (a7, .inl (cT 3, 8, .inr (.inr (.inr (.inr rf0))))), (a8, .inr (3, [.ref a9, .ref a10, .ref p11, .ref p13, .int v15])), (a9, .inl (cT 1, 2048, .inl f9)), (a10, .inl (cT 1, 2048, .inl f10)), (p11, .inl (cT 1, 2048, .inl f12)), (p13, .inl (cT 1, 2048, .inl f14)), (a13, .inr (2, [.ref a14, .int o17.2.2.1, .int o17.2.2.2])), (a14, .inl (cT 2, 4096, .inr (.inl o17.2.1)))]) hP hD hS hA [4, 5, 6, 7, 8, 9, 10, 11, 12, 13, 14, 15, 16, 17, 18] rfl rfl (by decide)
              refine va_calli (va_runV (C := "ValueBench") (As := [.int x1]) (rest := []) ⟨hx, hb, hml, hown, htx⟩ (gB_keepSpare l hl9 D cT aK aV H.size d n a0 a1 a2 a3 a4 a5 a6 a7 a8 a9 a10 a13 a14 rf0 b1 x1 f0 v1 v2 f3 v4 v5 f6 v7 v8 f9 f10 p11 f12 p13 f14 v15 o17.2.1 o17.2.2.1 o17.2.2.2 v19 o20.2 hr1 o23 hq24 hk25) ⟨callB_of 1 htx (xw_goodC kw_3_17) rfl rfl rfl (htx _ kw_1_1) (htx _ kw_3_14) ⟨by decide, by decide, by decide +kernel⟩ ⟨(by show (16 * d + 6) + 1 ≤ 16 * d + 7; omega), (by show 8 + (3 + 11) + (400 * d + 100) ≤ 400 * d + 180; omega)⟩, (htx _ kw_3_16), (htx _ kp_B_keepSpare)⟩ ⟨xPre_blind, va_recv hK hP (ci := 0) rfl (q0 := 4) rfl, (fun U hU hW => ⟨rfl, xPre_of hZ hS hFc hPc hDc hK U hU hW⟩)⟩ rfl rfl hl.1 rfl (lv_room (Nat.le_of_ble_eq_true rfl)) dB_binary_72 ⟨Nat.le_of_ble_eq_true rfl, Nat.le_of_ble_eq_true rfl⟩) hS (fun q _ h => hFc q h) hFc (fun r26 u9 t H1 locs ht hvm hr9 hB hz1 hk1 hS => ?_)
              obtain ⟨hP1, hK1, hD1⟩ := hB
              rw [ht] at hP1
              obtain ⟨hP, hD⟩ := xjoin (W := [(a15, .inr (2, [.ref a16, .int v22, .int v23])), (a16, .inl (cT 2, 4096, .inr (.inl f21))), (a17, .inr (2, [.ref a18, .int v25, .int v26])), (a18, .inl (cT 2, 4096, .inr (.inl f24))), (a0, .inr (0, [.ref a1, .ref a3, .ref a5, .ref a7, .ref a8, .ref b1, .int v19, .int o20.2])), (a1, .inr (1, [.ref a2, .int v1, .int v2])), (a2, .inl (cT 0, 4096, .inl f0)), (a3, .inr (1, [.ref a4, .int v4, .int v5])), (a4, .inl (cT 0, 4096, .inl f3)), (a5, .inr (1, [.ref a6, .int o23.2.2.2.1, .int o23.2.2.2.2])), (a6, .inl (cT 0, 4096, .inl o23.2.2.1)), (a7, .inl (cT 3, 8, .inr (.inr (.inr (.inr (va_up rf0 x1.toNatClampNeg (some a13))))))), (a8, .inr (3, [.ref a9, .ref a10, .ref p11, .ref p13, .int v15])), (a9, .inl (cT 1, 2048, .inl f9)), (a10, .inl (cT 1, 2048, .inl f10)), (p11, .inl (cT 1, 2048, .inl f12)), (p13, .inl (cT 1, 2048, .inl f14)), (a13, .inr (2, [.ref a14, .int o17.2.2.1, .int o17.2.2.2])), (a14, .inl (cT 2, 4096, .inr (.inl o17.2.1)))]) hP hD [4, 5, 6, 7, 8, 9, 10, 11, 12, 13, 14, 15, 16, 17, 18] [0, 1, 2, 3] 4 rfl rfl (by decide) (by decide) hk1 hFc hP1 hD1
              generalize H1 = H at hP hS ⊢
              rw [hr9]
              refine W.eq (g2 := F0 m 75 ls [.int o23.2.1]) rfl ?_
              refine lv_pop hx hb dB_binary_75 rfl ?_
              obtain rfl := Option.some.inj hf
              obtain ⟨hP9, hD9⟩ := xsub (wc := [(a0, .inr (0, [.ref a1, .ref a3, .ref a5, .ref a7, .ref a8, .ref b1, .int v19, .int o20.2])), (a1, .inr (1, [.ref a2, .int v1, .int v2])), (a2, .inl (cT 0, 4096, .inl f0)), (a3, .inr (1, [.ref a4, .int v4, .int v5])), (a4, .inl (cT 0, 4096, .inl f3)), (a5, .inr (1, [.ref a6, .int o23.2.2.2.1, .int o23.2.2.2.2])), (a6, .inl (cT 0, 4096, .inl o23.2.2.1)), (a7, .inl (cT 3, 8, .inr (.inr (.inr (.inr (va_up rf0 x1.toNatClampNeg (some a13))))))), (a8, .inr (3, [.ref a9, .ref a10, .ref p11, .ref p13, .int v15])), (a9, .inl (cT 1, 2048, .inl f9)), (a10, .inl (cT 1, 2048, .inl f10)), (p11, .inl (cT 1, 2048, .inl f12)), (p13, .inl (cT 1, 2048, .inl f14)), (a13, .inr (2, [.ref a14, .int o17.2.2.1, .int o17.2.2.2])), (a14, .inl (cT 2, 4096, .inr (.inl o17.2.1))), (a15, .inr (2, [.ref a16, .int v22, .int v23])), (a16, .inl (cT 2, 4096, .inr (.inl f21))), (a17, .inr (2, [.ref a18, .int v25, .int v26])), (a18, .inl (cT 2, 4096, .inr (.inl f24)))]) hP hD [4, 5, 6, 7, 8, 9, 10, 11, 12, 13, 14, 15, 16, 17, 18, 0, 1, 2, 3] rfl rfl (by decide)
              refine W.widen (k := 3) (n := 18) (Nat.le_of_ble_eq_true rfl) (Nat.le_of_ble_eq_true rfl) ?_
              exact W.vret hx hb hr (fun t ht hW => ⟨⟨(), rfl, trivial, by rw [ht]; exact hP9, va_K.moved hW.alike hK, hD9⟩, hS.F ht⟩) hS.2.2 dB_binary_76
            rw [if_neg hk25] at hf
            by_cases hk27 : o23.1 = 1
            · rw [if_pos hk27] at hf
              obtain rfl := Option.some.inj hf
              exact absurd (show (1 : Nat) = 0 from hkd) (by decide)
            rw [if_neg hk27] at hf
            exact nomatch hf
          rw [if_neg hk22] at hf
          by_cases hk29 : o20.1 = 1
          · rw [if_pos hk29] at hf
            obtain rfl := Option.some.inj hf
            exact absurd (show (2 : Nat) = 0 from hkd) (by decide)
          rw [if_neg hk29] at hf
          exact nomatch hf
        rw [if_neg hk12] at hf
        by_cases hk30 : o10 = 1
        · rw [if_pos hk30] at hf
          obtain rfl := Option.some.inj hf
          exact absurd (show (3 : Nat) = 0 from hkd) (by decide)
        rw [if_neg hk30] at hf
        exact nomatch hf
      · rw [if_neg hc] at hf
        refine lv_iload hx hb dB_binary_22 (lv_at hl 4 rfl) ?_
        obtain ⟨o10, hq11, hf⟩ := xbind hf
        obtain ⟨hPc, hDc, hFc⟩ := xcut (wc := []) hP hD hS hA [] rfl rfl (by decide)
        refine va_calli (va_runS (As := [.int x4]) (rest := []) ⟨hx, hb, hml, hown, htx⟩ (gB_isRegister l hl9 D cT aK aV H.size n x4 o10 hq11) ⟨callB_of 1 htx (xw_goodC kw_2_18) rfl rfl rfl (htx _ kw_1_1) (htx _ kw_2_16) ⟨by decide, by decide, by decide +kernel⟩ ⟨Nat.le_of_ble_eq_true rfl, Nat.le_of_ble_eq_true rfl⟩, htx _ kw_2_17⟩ ⟨xPre_blind, (fun U hU hW => ⟨rfl, xPre_of hZ hS hFc hPc hDc hK U hU hW⟩)⟩ rfl rfl hl.1 rfl (lv_room (Nat.le_of_ble_eq_true rfl)) dB_binary_24 ⟨Nat.le_of_ble_eq_true rfl, Nat.le_of_ble_eq_true rfl⟩) hS (fun q _ h => hFc q h) hFc (fun r12 u9 t H1 locs ht hvm hr9 hB hz1 hk1 hS => ?_)
        obtain ⟨hP1, hK1, hD1⟩ := hB
        rw [ht] at hP1
        obtain ⟨hP, hD⟩ := xjoin (W := [(a0, .inr (0, [.ref a1, .ref a3, .ref a5, .ref a7, .ref a8, .ref a13, .int v19, .int v20])), (a1, .inr (1, [.ref a2, .int v1, .int v2])), (a2, .inl (cT 0, 4096, .inl f0)), (a3, .inr (1, [.ref a4, .int v4, .int v5])), (a4, .inl (cT 0, 4096, .inl f3)), (a5, .inr (1, [.ref a6, .int v7, .int v8])), (a6, .inl (cT 0, 4096, .inl f6)), (a7, .inl (cT 3, 8, .inr (.inr (.inr (.inr rf0))))), (a8, .inr (3, [.ref a9, .ref a10, .ref p11, .ref p13, .int v15])), (a9, .inl (cT 1, 2048, .inl f9)), (a10, .inl (cT 1, 2048, .inl f10)), (p11, .inl (cT 1, 2048, .inl f12)), (p13, .inl (cT 1, 2048, .inl f14)), (a13, .inr (2, [.ref a14, .int v17, .int v18])), (a14, .inl (cT 2, 4096, .inr (.inl f16))), (a15, .inr (2, [.ref a16, .int v22, .int v23])), (a16, .inl (cT 2, 4096, .inr (.inl f21))), (a17, .inr (2, [.ref a18, .int v25, .int v26])), (a18, .inl (cT 2, 4096, .inr (.inl f24)))]) hP hD [] [0, 1, 2, 3, 4, 5, 6, 7, 8, 9, 10, 11, 12, 13, 14, 15, 16, 17, 18] 19 rfl rfl (by decide) (by decide) hk1 hFc hP1 hD1
        generalize H1 = H at hP hS ⊢
        rw [hr9]
        refine W.eq (g2 := F0 m 27 ls [.int o10]) rfl ?_
        refine lv_if_eq (tgt := 34) hx hb dB_binary_27 (by decide) (fun hc => ?_) (fun hc => ?_)
        · rw [if_pos hc] at hf
          refine lv_iconst (v := 0) hx hb dB_binary_34 (by decide) ?_
          obtain ⟨o13, hq14, hf⟩ := xbind hf
          by_cases hk15 : o13 = 0
          · rw [if_pos hk15] at hf
            obtain ⟨hPc, hDc, hFc⟩ := xcut (wc := []) hP hD hS hA [] rfl rfl (by decide)
            refine va_callv (va_runS (As := [.int 0]) (rest := []) ⟨hx, hb, hml, hown, htx⟩ (gB_demand l hl9 D cT aK aV H.size n (0 : Int32) o13 hq14 hk15) ⟨callB_of 1 htx (xw_goodC kw_1_221) rfl rfl rfl (htx _ kw_1_1) (htx _ kw_1_219) ⟨by decide, by decide, by decide +kernel⟩ ⟨Nat.le_of_ble_eq_true rfl, Nat.le_of_ble_eq_true rfl⟩, htx _ kw_1_220⟩ ⟨xPre_blind, (fun U hU hW => ⟨rfl, xPre_of hZ hS hFc hPc hDc hK U hU hW⟩)⟩ rfl rfl hl.1 rfl (lv_room (Nat.le_of_ble_eq_true rfl)) dB_binary_35 ⟨Nat.le_of_ble_eq_true rfl, Nat.le_of_ble_eq_true rfl⟩) hS (fun q _ h => hFc q h) hFc (fun u9 t H1 locs ht hvm hr9 hB hz1 hk1 hS => ?_)
            obtain ⟨hP1, hK1, hD1⟩ := hB
            rw [ht] at hP1
            obtain ⟨hP, hD⟩ := xjoin (W := [(a0, .inr (0, [.ref a1, .ref a3, .ref a5, .ref a7, .ref a8, .ref a13, .int v19, .int v20])), (a1, .inr (1, [.ref a2, .int v1, .int v2])), (a2, .inl (cT 0, 4096, .inl f0)), (a3, .inr (1, [.ref a4, .int v4, .int v5])), (a4, .inl (cT 0, 4096, .inl f3)), (a5, .inr (1, [.ref a6, .int v7, .int v8])), (a6, .inl (cT 0, 4096, .inl f6)), (a7, .inl (cT 3, 8, .inr (.inr (.inr (.inr rf0))))), (a8, .inr (3, [.ref a9, .ref a10, .ref p11, .ref p13, .int v15])), (a9, .inl (cT 1, 2048, .inl f9)), (a10, .inl (cT 1, 2048, .inl f10)), (p11, .inl (cT 1, 2048, .inl f12)), (p13, .inl (cT 1, 2048, .inl f14)), (a13, .inr (2, [.ref a14, .int v17, .int v18])), (a14, .inl (cT 2, 4096, .inr (.inl f16))), (a15, .inr (2, [.ref a16, .int v22, .int v23])), (a16, .inl (cT 2, 4096, .inr (.inl f21))), (a17, .inr (2, [.ref a18, .int v25, .int v26])), (a18, .inl (cT 2, 4096, .inr (.inl f24)))]) hP hD [] [0, 1, 2, 3, 4, 5, 6, 7, 8, 9, 10, 11, 12, 13, 14, 15, 16, 17, 18] 19 rfl rfl (by decide) (by decide) hk1 hFc hP1 hD1
            generalize H1 = H at hP hS ⊢
            refine lv_aload_n hx hb dB_binary_38 rfl (lv_at hl 0 rfl) ?_
            refine va_get (D := D) (ci := 0) (v := .ref a13) (C := "ValueBench") (T := TB) (N := 8) hx hb htx inB hown hK hP 0 rfl rfl 5 (by decide) (htx _ kw_1_100) (fun _ h9 => h9) rfl dB_binary_39 ?_
            obtain ⟨o16, hq17, hf⟩ := xbind hf
            obtain ⟨hPc, hDc, hFc⟩ := xcut (wc := [(a13, .inr (2, [.ref a14, .int v17, .int v18])), (a14, .inl (cT 2, 4096, .inr (.inl f16)))]) hP hD hS hA [13, 14] rfl rfl (by decide)
            refine va_callv (va_runV (C := "ValueBench$Row") (As := []) (rest := []) ⟨hx, hb, hml, hown, htx⟩ (gR_clear l hl9 D cT aK aV H.size n a13 a14 f16 v17 v18 o16 hq17) ⟨callB_of 0 htx (xw_goodC kw_2_22) rfl rfl rfl (htx _ kw_1_4) (htx _ kw_2_19) ⟨by decide, by decide, by decide +kernel⟩ ⟨Nat.le_of_ble_eq_true rfl, Nat.le_of_ble_eq_true rfl⟩, (htx _ kw_2_20), (htx _ kw_2_21)⟩ ⟨xPre_blind, va_recv hK hP (ci := 2) rfl (q0 := 13) rfl, (fun U hU hW => ⟨rfl, xPre_of hZ hS hFc hPc hDc hK U hU hW⟩)⟩ rfl rfl hl.1 rfl (lv_room (Nat.le_of_ble_eq_true rfl)) dB_binary_42 ⟨Nat.le_of_ble_eq_true rfl, Nat.le_of_ble_eq_true rfl⟩) hS (fun q _ h => hFc q h) hFc (fun u9 t H1 locs ht hvm hr9 hB hz1 hk1 hS => ?_)
            obtain ⟨hP1, hK1, hD1⟩ := hB
            rw [ht] at hP1
            obtain ⟨hP, hD⟩ := xjoin (W := [(a0, .inr (0, [.ref a1, .ref a3, .ref a5, .ref a7, .ref a8, .ref a13, .int v19, .int v20])), (a1, .inr (1, [.ref a2, .int v1, .int v2])), (a2, .inl (cT 0, 4096, .inl f0)), (a3, .inr (1, [.ref a4, .int v4, .int v5])), (a4, .inl (cT 0, 4096, .inl f3)), (a5, .inr (1, [.ref a6, .int v7, .int v8])), (a6, .inl (cT 0, 4096, .inl f6)), (a7, .inl (cT 3, 8, .inr (.inr (.inr (.inr rf0))))), (a8, .inr (3, [.ref a9, .ref a10, .ref p11, .ref p13, .int v15])), (a9, .inl (cT 1, 2048, .inl f9)), (a10, .inl (cT 1, 2048, .inl f10)), (p11, .inl (cT 1, 2048, .inl f12)), (p13, .inl (cT 1, 2048, .inl f14)), (a15, .inr (2, [.ref a16, .int v22, .int v23])), (a16, .inl (cT 2, 4096, .inr (.inl f21))), (a17, .inr (2, [.ref a18, .int v25, .int v26])), (a18, .inl (cT 2, 4096, .inr (.inl f24))), (a13, .inr (2, [.ref a14, .int o16.1, .int o16.2])), (a14, .inl (cT 2, 4096, .inr (.inl f16)))]) hP hD [13, 14] [0, 1, 2, 3, 4, 5, 6, 7, 8, 9, 10, 11, 12, 15, 16, 17, 18] 17 rfl rfl (by decide) (by decide) hk1 hFc hP1 hD1
            generalize H1 = H at hP hS ⊢
            refine lv_aload_n hx hb dB_binary_45 rfl (lv_at hl 0 rfl) ?_
            refine lv_iload_n hx hb dB_binary_46 rfl (lv_at hl 2 rfl) ?_
            refine lv_aload_n hx hb dB_binary_47 rfl (lv_at hl 0 rfl) ?_
            refine va_get (D := D) (ci := 0) (v := .ref a7) (C := "ValueBench") (T := TB) (N := 8) hx hb htx inB hown hK hP 0 rfl rfl 3 (by decide) (htx _ kw_1_98) (fun _ h9 => h9) rfl dB_binary_48 ?_
            refine lv_iload_n hx hb dB_binary_51 rfl (lv_at hl 3 rfl) ?_
            obtain ⟨hg18, hf⟩ := xifn hf
            refine va_aldq hx hb hK hP 7 3 rfl rfl hg18 dB_binary_52 ?_
            refine W.eq (g2 := F0 m 53 ls [va_rf (rf0 x3.toNatClampNeg), .int x2, .ref a0]) rfl ?_
            rw [hr3 hg18]
            refine W.eq (g2 := F0 m 53 ls [.ref a15, .int x2, .ref a0]) rfl ?_
            refine lv_aload_n hx hb dB_binary_53 rfl (lv_at hl 0 rfl) ?_
            refine va_get (D := D) (ci := 0) (v := .ref a7) (C := "ValueBench") (T := TB) (N := 8) hx hb htx inB hown hK hP 0 rfl rfl 3 (by decide) (htx _ kw_1_98) (fun _ h9 => h9) rfl dB_binary_54 ?_
            refine lv_iload hx hb dB_binary_57 (lv_at hl 4 rfl) ?_
            obtain ⟨hg19, hf⟩ := xifn hf
            refine va_aldq hx hb hK hP 7 3 rfl rfl hg19 dB_binary_59 ?_
            refine W.eq (g2 := F0 m 60 ls [va_rf (rf0 x4.toNatClampNeg), .ref a15, .int x2, .ref a0]) rfl ?_
            rw [hr4 hg19]
            refine W.eq (g2 := F0 m 60 ls [.ref a17, .ref a15, .int x2, .ref a0]) rfl ?_
            refine lv_aload_n hx hb dB_binary_60 rfl (lv_at hl 0 rfl) ?_
            refine va_get (D := D) (ci := 0) (v := .ref a13) (C := "ValueBench") (T := TB) (N := 8) hx hb htx inB hown hK hP 0 rfl rfl 5 (by decide) (htx _ kw_1_100) (fun _ h9 => h9) rfl dB_binary_61 ?_
            obtain ⟨o20, hq21, hf⟩ := xbind hf
            obtain ⟨hPc, hDc, hFc⟩ := xcut (wc := [(a15, .inr (2, [.ref a16, .int v22, .int v23])), (a16, .inl (cT 2, 4096, .inr (.inl f21))), (a17, .inr (2, [.ref a18, .int v25, .int v26])), (a18, .inl (cT 2, 4096, .inr (.inl f24))), (a13, .inr (2, [.ref a14, .int o16.1, .int o16.2])), (a14, .inl (cT 2, 4096, .inr (.inl f16)))]) hP hD hS hA [13, 14, 15, 16, 17, 18] rfl rfl (by decide)
            refine va_calli (va_runS (As := [.int x2, .ref a15, .ref a17, .ref a13]) (rest := [.ref a0]) ⟨hx, hb, hml, hown, htx⟩ (gA_apply l hl9 D cT aK aV H.size d n a15 a16 a17 a18 a13 a14 x2 f21 v22 v23 f24 v25 v26 f16 o16.1 o16.2 o20 hq21) ⟨callB_of 4 htx (xw_goodC kw_3_105) rfl rfl rfl (htx _ kw_1_21) (htx _ kw_3_103) ⟨by decide, by decide, by decide +kernel⟩ ⟨(by show (16 * d + 5) + 1 ≤ 16 * d + 7; omega), (by show 8 + (4 + 11) + (400 * d + 157) ≤ 400 * d + 180; omega)⟩, htx _ kw_3_104⟩ ⟨xPre_blind, (fun U hU hW => ⟨rfl, xPre_of hZ hS hFc hPc hDc hK U hU hW⟩)⟩ rfl rfl hl.1 rfl (lv_room (Nat.le_of_ble_eq_true rfl)) dB_binary_64 ⟨Nat.le_of_ble_eq_true rfl, Nat.le_of_ble_eq_true rfl⟩) hS (fun q _ h => hFc q h) hFc (fun r22 u9 t H1 locs ht hvm hr9 hB hz1 hk1 hS => ?_)
            obtain ⟨hP1, hK1, hD1⟩ := hB
            rw [ht] at hP1
            obtain ⟨hP, hD⟩ := xjoin (W := [(a0, .inr (0, [.ref a1, .ref a3, .ref a5, .ref a7, .ref a8, .ref a13, .int v19, .int v20])), (a1, .inr (1, [.ref a2, .int v1, .int v2])), (a2, .inl (cT 0, 4096, .inl f0)), (a3, .inr (1, [.ref a4, .int v4, .int v5])), (a4, .inl (cT 0, 4096, .inl f3)), (a5, .inr (1, [.ref a6, .int v7, .int v8])), (a6, .inl (cT 0, 4096, .inl f6)), (a7, .inl (cT 3, 8, .inr (.inr (.inr (.inr rf0))))), (a8, .inr (3, [.ref a9, .ref a10, .ref p11, .ref p13, .int v15])), (a9, .inl (cT 1, 2048, .inl f9)), (a10, .inl (cT 1, 2048, .inl f10)), (p11, .inl (cT 1, 2048, .inl f12)), (p13, .inl (cT 1, 2048, .inl f14)), (a15, .inr (2, [.ref a16, .int v22, .int v23])), (a16, .inl (cT 2, 4096, .inr (.inl f21))), (a17, .inr (2, [.ref a18, .int v25, .int v26])), (a18, .inl (cT 2, 4096, .inr (.inl f24))), (a13, .inr (2, [.ref a14, .int o20.2.2.1, .int o20.2.2.2])), (a14, .inl (cT 2, 4096, .inr (.inl o20.2.1)))]) hP hD [13, 14, 15, 16, 17, 18] [0, 1, 2, 3, 4, 5, 6, 7, 8, 9, 10, 11, 12] 13 rfl rfl (by decide) (by decide) hk1 hFc hP1 hD1
            generalize H1 = H at hP hS ⊢
            rw [hr9]
            refine W.eq (g2 := F0 m 67 ls [.int o20.1, .ref a0]) rfl ?_
            obtain ⟨o23, hq24, hf⟩ := xbind hf
            by_cases hk25 : o23.1 = 0
            · rw [if_pos hk25] at hf
              obtain ⟨hPc, hDc, hFc⟩ := xcut (wc := [(a0, .inr (0, [.ref a1, .ref a3, .ref a5, .ref a7, .ref a8, .ref a13, .int v19, .int v20])), (a1, .inr (1, [.ref a2, .int v1, .int v2])), (a2, .inl (cT 0, 4096, .inl f0)), (a3, .inr (1, [.ref a4, .int v4, .int v5])), (a4, .inl (cT 0, 4096, .inl f3)), (a5, .inr (1, [.ref a6, .int v7, .int v8])), (a6, .inl (cT 0, 4096, .inl f6)), (a7, .inl (cT 3, 8, .inr (.inr (.inr (.inr rf0))))), (a8, .inr (3, [.ref a9, .ref a10, .ref p11, .ref p13, .int v15])), (a9, .inl (cT 1, 2048, .inl f9)), (a10, .inl (cT 1, 2048, .inl f10)), (p11, .inl (cT 1, 2048, .inl f12)), (p13, .inl (cT 1, 2048, .inl f14)), (a13, .inr (2, [.ref a14, .int o20.2.2.1, .int o20.2.2.2])), (a14, .inl (cT 2, 4096, .inr (.inl o20.2.1)))]) hP hD hS hA [0, 1, 2, 3, 4, 5, 6, 7, 8, 9, 10, 11, 12, 17, 18] rfl rfl (by decide)
              refine va_callv (va_runV (C := "ValueBench") (As := [.int o20.1]) (rest := []) ⟨hx, hb, hml, hown, htx⟩ (gB_demandDone l hl9 D cT aK aV H.size n a0 a1 a2 a3 a4 a5 a6 a7 a8 a9 a10 a13 a14 rf0 o20.1 f0 v1 v2 f3 v4 v5 f6 v7 v8 f9 f10 p11 f12 p13 f14 v15 o20.2.1 o20.2.2.1 o20.2.2.2 v19 v20 o23 hq24 hk25) ⟨callB_of 1 htx (xw_goodC kw_3_222) rfl rfl rfl (htx _ kw_1_1) (htx _ kw_3_219) ⟨by decide, by decide, by decide +kernel⟩ ⟨Nat.le_of_ble_eq_true rfl, Nat.le_of_ble_eq_true rfl⟩, (htx _ kw_3_221), (htx _ kp_B_demandDone)⟩ ⟨xPre_blind, va_recv hK hP (ci := 0) rfl (q0 := 0) rfl, (fun U hU hW => ⟨rfl, xPre_of hZ hS hFc hPc hDc hK U hU hW⟩)⟩ rfl rfl hl.1 rfl (lv_room (Nat.le_of_ble_eq_true rfl)) dB_binary_67 ⟨Nat.le_of_ble_eq_true rfl, Nat.le_of_ble_eq_true rfl⟩) hS (fun q _ h => hFc q h) hFc (fun u9 t H1 locs ht hvm hr9 hB hz1 hk1 hS => ?_)
              obtain ⟨hP1, hK1, hD1⟩ := hB
              rw [ht] at hP1
              obtain ⟨hP, hD⟩ := xjoin (W := [(a15, .inr (2, [.ref a16, .int v22, .int v23])), (a16, .inl (cT 2, 4096, .inr (.inl f21))), (a17, .inr (2, [.ref a18, .int v25, .int v26])), (a18, .inl (cT 2, 4096, .inr (.inl f24))), (a0, .inr (0, [.ref a1, .ref a3, .ref a5, .ref a7, .ref a8, .ref a13, .int v19, .int o23.2])), (a1, .inr (1, [.ref a2, .int v1, .int v2])), (a2, .inl (cT 0, 4096, .inl f0)), (a3, .inr (1, [.ref a4, .int v4, .int v5])), (a4, .inl (cT 0, 4096, .inl f3)), (a5, .inr (1, [.ref a6, .int v7, .int v8])), (a6, .inl (cT 0, 4096, .inl f6)), (a7, .inl (cT 3, 8, .inr (.inr (.inr (.inr rf0))))), (a8, .inr (3, [.ref a9, .ref a10, .ref p11, .ref p13, .int v15])), (a9, .inl (cT 1, 2048, .inl f9)), (a10, .inl (cT 1, 2048, .inl f10)), (p11, .inl (cT 1, 2048, .inl f12)), (p13, .inl (cT 1, 2048, .inl f14)), (a13, .inr (2, [.ref a14, .int o20.2.2.1, .int o20.2.2.2])), (a14, .inl (cT 2, 4096, .inr (.inl o20.2.1)))]) hP hD [0, 1, 2, 3, 4, 5, 6, 7, 8, 9, 10, 11, 12, 17, 18] [13, 14, 15, 16] 4 rfl rfl (by decide) (by decide) hk1 hFc hP1 hD1
              generalize H1 = H at hP hS ⊢
              refine lv_aload_n hx hb dB_binary_70 rfl (lv_at hl 0 rfl) ?_
              refine lv_iload_n hx hb dB_binary_71 rfl (lv_at hl 1 rfl) ?_
              obtain ⟨o26, hq27, hf⟩ := xbind hf
              by_cases hk28 : o26.1 = 0
              · rw [if_pos hk28] at hf
                obtain ⟨hPc, hDc, hFc⟩ := xcut (wc := [(a0, .inr (0, [.ref a1, .ref a3, .ref a5, .ref a7, .ref a8, .ref a13, .int v19, .int o23.2])), (a1, .inr (1, [.ref a2, .int v1, .int v2])), (a2, .inl (cT 0, 4096, .inl f0)), (a3, .inr (1, [.ref a4, .int v4, .int v5])), (a4, .inl (cT 0, 4096, .inl f3)), (a5, .inr (1, [.ref a6, .int v7, .int v8])), (a6, .inl (cT 0, 4096, .inl f6)), (a7, .inl (cT 3, 8, .inr (.inr (.inr (.inr rf0))))), (a8, .inr (3, [.ref a9, .ref a10, .ref p11, .ref p13, .int v15])), (a9, .inl (cT 1, 2048, .inl f9)), (a10, .inl (cT 1, 2048, .inl f10)), (p11, .inl (cT 1, 2048, .inl f12)), (p13, .inl (cT 1, 2048, .inl f14)), (a13, .inr (2, [.ref a14, .int o20.2.2.1, .int o20.2.2.2])), (a14, .inl (cT 2, 4096, .inr (.inl o20.2.1)))]) hP hD hS hA [4, 5, 6, 7, 8, 9, 10, 11, 12, 13, 14, 15, 16, 17, 18] rfl rfl (by decide)
                refine va_calli (va_runV (C := "ValueBench") (As := [.int x1]) (rest := []) ⟨hx, hb, hml, hown, htx⟩ (gB_keepSpare l hl9 D cT aK aV H.size d n a0 a1 a2 a3 a4 a5 a6 a7 a8 a9 a10 a13 a14 rf0 b1 x1 f0 v1 v2 f3 v4 v5 f6 v7 v8 f9 f10 p11 f12 p13 f14 v15 o20.2.1 o20.2.2.1 o20.2.2.2 v19 o23.2 hr1 o26 hq27 hk28) ⟨callB_of 1 htx (xw_goodC kw_3_17) rfl rfl rfl (htx _ kw_1_1) (htx _ kw_3_14) ⟨by decide, by decide, by decide +kernel⟩ ⟨(by show (16 * d + 6) + 1 ≤ 16 * d + 7; omega), (by show 8 + (3 + 11) + (400 * d + 100) ≤ 400 * d + 180; omega)⟩, (htx _ kw_3_16), (htx _ kp_B_keepSpare)⟩ ⟨xPre_blind, va_recv hK hP (ci := 0) rfl (q0 := 4) rfl, (fun U hU hW => ⟨rfl, xPre_of hZ hS hFc hPc hDc hK U hU hW⟩)⟩ rfl rfl hl.1 rfl (lv_room (Nat.le_of_ble_eq_true rfl)) dB_binary_72 ⟨Nat.le_of_ble_eq_true rfl, Nat.le_of_ble_eq_true rfl⟩) hS (fun q _ h => hFc q h) hFc (fun r29 u9 t H1 locs ht hvm hr9 hB hz1 hk1 hS => ?_)
                obtain ⟨hP1, hK1, hD1⟩ := hB
                rw [ht] at hP1
                obtain ⟨hP, hD⟩ := xjoin (W := [(a15, .inr (2, [.ref a16, .int v22, .int v23])), (a16, .inl (cT 2, 4096, .inr (.inl f21))), (a17, .inr (2, [.ref a18, .int v25, .int v26])), (a18, .inl (cT 2, 4096, .inr (.inl f24))), (a0, .inr (0, [.ref a1, .ref a3, .ref a5, .ref a7, .ref a8, .ref b1, .int v19, .int o23.2])), (a1, .inr (1, [.ref a2, .int v1, .int v2])), (a2, .inl (cT 0, 4096, .inl f0)), (a3, .inr (1, [.ref a4, .int v4, .int v5])), (a4, .inl (cT 0, 4096, .inl f3)), (a5, .inr (1, [.ref a6, .int o26.2.2.2.1, .int o26.2.2.2.2])), (a6, .inl (cT 0, 4096, .inl o26.2.2.1)), (a7, .inl (cT 3, 8, .inr (.inr (.inr (.inr (va_up rf0 x1.toNatClampNeg (some a13))))))), (a8, .inr (3, [.ref a9, .ref a10, .ref p11, .ref p13, .int v15])), (a9, .inl (cT 1, 2048, .inl f9)), (a10, .inl (cT 1, 2048, .inl f10)), (p11, .inl (cT 1, 2048, .inl f12)), (p13, .inl (cT 1, 2048, .inl f14)), (a13, .inr (2, [.ref a14, .int o20.2.2.1, .int o20.2.2.2])), (a14, .inl (cT 2, 4096, .inr (.inl o20.2.1)))]) hP hD [4, 5, 6, 7, 8, 9, 10, 11, 12, 13, 14, 15, 16, 17, 18] [0, 1, 2, 3] 4 rfl rfl (by decide) (by decide) hk1 hFc hP1 hD1
                generalize H1 = H at hP hS ⊢
                rw [hr9]
                refine W.eq (g2 := F0 m 75 ls [.int o26.2.1]) rfl ?_
                refine lv_pop hx hb dB_binary_75 rfl ?_
                obtain rfl := Option.some.inj hf
                obtain ⟨hP9, hD9⟩ := xsub (wc := [(a0, .inr (0, [.ref a1, .ref a3, .ref a5, .ref a7, .ref a8, .ref b1, .int v19, .int o23.2])), (a1, .inr (1, [.ref a2, .int v1, .int v2])), (a2, .inl (cT 0, 4096, .inl f0)), (a3, .inr (1, [.ref a4, .int v4, .int v5])), (a4, .inl (cT 0, 4096, .inl f3)), (a5, .inr (1, [.ref a6, .int o26.2.2.2.1, .int o26.2.2.2.2])), (a6, .inl (cT 0, 4096, .inl o26.2.2.1)), (a7, .inl (cT 3, 8, .inr (.inr (.inr (.inr (va_up rf0 x1.toNatClampNeg (some a13))))))), (a8, .inr (3, [.ref a9, .ref a10, .ref p11, .ref p13, .int v15])), (a9, .inl (cT 1, 2048, .inl f9)), (a10, .inl (cT 1, 2048, .inl f10)), (p11, .inl (cT 1, 2048, .inl f12)), (p13, .inl (cT 1, 2048, .inl f14)), (a13, .inr (2, [.ref a14, .int o20.2.2.1, .int o20.2.2.2])), (a14, .inl (cT 2, 4096, .inr (.inl o20.2.1))), (a15, .inr (2, [.ref a16, .int v22, .int v23])), (a16, .inl (cT 2, 4096, .inr (.inl f21))), (a17, .inr (2, [.ref a18, .int v25, .int v26])), (a18, .inl (cT 2, 4096, .inr (.inl f24)))]) hP hD [4, 5, 6, 7, 8, 9, 10, 11, 12, 13, 14, 15, 16, 17, 18, 0, 1, 2, 3] rfl rfl (by decide)
                refine W.widen (k := 3) (n := 18) (Nat.le_of_ble_eq_true rfl) (Nat.le_of_ble_eq_true rfl) ?_
                exact W.vret hx hb hr (fun t ht hW => ⟨⟨(), rfl, trivial, by rw [ht]; exact hP9, va_K.moved hW.alike hK, hD9⟩, hS.F ht⟩) hS.2.2 dB_binary_76
              rw [if_neg hk28] at hf
              by_cases hk30 : o26.1 = 1
              · rw [if_pos hk30] at hf
                obtain rfl := Option.some.inj hf
                exact absurd (show (1 : Nat) = 0 from hkd) (by decide)
              rw [if_neg hk30] at hf
              exact nomatch hf
            rw [if_neg hk25] at hf
            by_cases hk32 : o23.1 = 1
            · rw [if_pos hk32] at hf
              obtain rfl := Option.some.inj hf
              exact absurd (show (2 : Nat) = 0 from hkd) (by decide)
            rw [if_neg hk32] at hf
            exact nomatch hf
          rw [if_neg hk15] at hf
          by_cases hk33 : o13 = 1
          · rw [if_pos hk33] at hf
            obtain rfl := Option.some.inj hf
            exact absurd (show (3 : Nat) = 0 from hkd) (by decide)
          rw [if_neg hk33] at hf
          exact nomatch hf
        · rw [if_neg hc] at hf
          refine lv_iconst (v := 1) hx hb dB_binary_30 (by decide) ?_
          refine lv_goto (tgt := 35) hx hb dB_binary_31 (by decide) ?_
          obtain ⟨o13, hq14, hf⟩ := xbind hf
          by_cases hk15 : o13 = 0
          · rw [if_pos hk15] at hf
            obtain ⟨hPc, hDc, hFc⟩ := xcut (wc := []) hP hD hS hA [] rfl rfl (by decide)
            refine va_callv (va_runS (As := [.int 1]) (rest := []) ⟨hx, hb, hml, hown, htx⟩ (gB_demand l hl9 D cT aK aV H.size n (1 : Int32) o13 hq14 hk15) ⟨callB_of 1 htx (xw_goodC kw_1_221) rfl rfl rfl (htx _ kw_1_1) (htx _ kw_1_219) ⟨by decide, by decide, by decide +kernel⟩ ⟨Nat.le_of_ble_eq_true rfl, Nat.le_of_ble_eq_true rfl⟩, htx _ kw_1_220⟩ ⟨xPre_blind, (fun U hU hW => ⟨rfl, xPre_of hZ hS hFc hPc hDc hK U hU hW⟩)⟩ rfl rfl hl.1 rfl (lv_room (Nat.le_of_ble_eq_true rfl)) dB_binary_35 ⟨Nat.le_of_ble_eq_true rfl, Nat.le_of_ble_eq_true rfl⟩) hS (fun q _ h => hFc q h) hFc (fun u9 t H1 locs ht hvm hr9 hB hz1 hk1 hS => ?_)
            obtain ⟨hP1, hK1, hD1⟩ := hB
            rw [ht] at hP1
            obtain ⟨hP, hD⟩ := xjoin (W := [(a0, .inr (0, [.ref a1, .ref a3, .ref a5, .ref a7, .ref a8, .ref a13, .int v19, .int v20])), (a1, .inr (1, [.ref a2, .int v1, .int v2])), (a2, .inl (cT 0, 4096, .inl f0)), (a3, .inr (1, [.ref a4, .int v4, .int v5])), (a4, .inl (cT 0, 4096, .inl f3)), (a5, .inr (1, [.ref a6, .int v7, .int v8])), (a6, .inl (cT 0, 4096, .inl f6)), (a7, .inl (cT 3, 8, .inr (.inr (.inr (.inr rf0))))), (a8, .inr (3, [.ref a9, .ref a10, .ref p11, .ref p13, .int v15])), (a9, .inl (cT 1, 2048, .inl f9)), (a10, .inl (cT 1, 2048, .inl f10)), (p11, .inl (cT 1, 2048, .inl f12)), (p13, .inl (cT 1, 2048, .inl f14)), (a13, .inr (2, [.ref a14, .int v17, .int v18])), (a14, .inl (cT 2, 4096, .inr (.inl f16))), (a15, .inr (2, [.ref a16, .int v22, .int v23])), (a16, .inl (cT 2, 4096, .inr (.inl f21))), (a17, .inr (2, [.ref a18, .int v25, .int v26])), (a18, .inl (cT 2, 4096, .inr (.inl f24)))]) hP hD [] [0, 1, 2, 3, 4, 5, 6, 7, 8, 9, 10, 11, 12, 13, 14, 15, 16, 17, 18] 19 rfl rfl (by decide) (by decide) hk1 hFc hP1 hD1
            generalize H1 = H at hP hS ⊢
            refine lv_aload_n hx hb dB_binary_38 rfl (lv_at hl 0 rfl) ?_
            refine va_get (D := D) (ci := 0) (v := .ref a13) (C := "ValueBench") (T := TB) (N := 8) hx hb htx inB hown hK hP 0 rfl rfl 5 (by decide) (htx _ kw_1_100) (fun _ h9 => h9) rfl dB_binary_39 ?_
            obtain ⟨o16, hq17, hf⟩ := xbind hf
            obtain ⟨hPc, hDc, hFc⟩ := xcut (wc := [(a13, .inr (2, [.ref a14, .int v17, .int v18])), (a14, .inl (cT 2, 4096, .inr (.inl f16)))]) hP hD hS hA [13, 14] rfl rfl (by decide)
            refine va_callv (va_runV (C := "ValueBench$Row") (As := []) (rest := []) ⟨hx, hb, hml, hown, htx⟩ (gR_clear l hl9 D cT aK aV H.size n a13 a14 f16 v17 v18 o16 hq17) ⟨callB_of 0 htx (xw_goodC kw_2_22) rfl rfl rfl (htx _ kw_1_4) (htx _ kw_2_19) ⟨by decide, by decide, by decide +kernel⟩ ⟨Nat.le_of_ble_eq_true rfl, Nat.le_of_ble_eq_true rfl⟩, (htx _ kw_2_20), (htx _ kw_2_21)⟩ ⟨xPre_blind, va_recv hK hP (ci := 2) rfl (q0 := 13) rfl, (fun U hU hW => ⟨rfl, xPre_of hZ hS hFc hPc hDc hK U hU hW⟩)⟩ rfl rfl hl.1 rfl (lv_room (Nat.le_of_ble_eq_true rfl)) dB_binary_42 ⟨Nat.le_of_ble_eq_true rfl, Nat.le_of_ble_eq_true rfl⟩) hS (fun q _ h => hFc q h) hFc (fun u9 t H1 locs ht hvm hr9 hB hz1 hk1 hS => ?_)
            obtain ⟨hP1, hK1, hD1⟩ := hB
            rw [ht] at hP1
            obtain ⟨hP, hD⟩ := xjoin (W := [(a0, .inr (0, [.ref a1, .ref a3, .ref a5, .ref a7, .ref a8, .ref a13, .int v19, .int v20])), (a1, .inr (1, [.ref a2, .int v1, .int v2])), (a2, .inl (cT 0, 4096, .inl f0)), (a3, .inr (1, [.ref a4, .int v4, .int v5])), (a4, .inl (cT 0, 4096, .inl f3)), (a5, .inr (1, [.ref a6, .int v7, .int v8])), (a6, .inl (cT 0, 4096, .inl f6)), (a7, .inl (cT 3, 8, .inr (.inr (.inr (.inr rf0))))), (a8, .inr (3, [.ref a9, .ref a10, .ref p11, .ref p13, .int v15])), (a9, .inl (cT 1, 2048, .inl f9)), (a10, .inl (cT 1, 2048, .inl f10)), (p11, .inl (cT 1, 2048, .inl f12)), (p13, .inl (cT 1, 2048, .inl f14)), (a15, .inr (2, [.ref a16, .int v22, .int v23])), (a16, .inl (cT 2, 4096, .inr (.inl f21))), (a17, .inr (2, [.ref a18, .int v25, .int v26])), (a18, .inl (cT 2, 4096, .inr (.inl f24))), (a13, .inr (2, [.ref a14, .int o16.1, .int o16.2])), (a14, .inl (cT 2, 4096, .inr (.inl f16)))]) hP hD [13, 14] [0, 1, 2, 3, 4, 5, 6, 7, 8, 9, 10, 11, 12, 15, 16, 17, 18] 17 rfl rfl (by decide) (by decide) hk1 hFc hP1 hD1
            generalize H1 = H at hP hS ⊢
            refine lv_aload_n hx hb dB_binary_45 rfl (lv_at hl 0 rfl) ?_
            refine lv_iload_n hx hb dB_binary_46 rfl (lv_at hl 2 rfl) ?_
            refine lv_aload_n hx hb dB_binary_47 rfl (lv_at hl 0 rfl) ?_
            refine va_get (D := D) (ci := 0) (v := .ref a7) (C := "ValueBench") (T := TB) (N := 8) hx hb htx inB hown hK hP 0 rfl rfl 3 (by decide) (htx _ kw_1_98) (fun _ h9 => h9) rfl dB_binary_48 ?_
            refine lv_iload_n hx hb dB_binary_51 rfl (lv_at hl 3 rfl) ?_
            obtain ⟨hg18, hf⟩ := xifn hf
            refine va_aldq hx hb hK hP 7 3 rfl rfl hg18 dB_binary_52 ?_
            refine W.eq (g2 := F0 m 53 ls [va_rf (rf0 x3.toNatClampNeg), .int x2, .ref a0]) rfl ?_
            rw [hr3 hg18]
            refine W.eq (g2 := F0 m 53 ls [.ref a15, .int x2, .ref a0]) rfl ?_
            refine lv_aload_n hx hb dB_binary_53 rfl (lv_at hl 0 rfl) ?_
            refine va_get (D := D) (ci := 0) (v := .ref a7) (C := "ValueBench") (T := TB) (N := 8) hx hb htx inB hown hK hP 0 rfl rfl 3 (by decide) (htx _ kw_1_98) (fun _ h9 => h9) rfl dB_binary_54 ?_
            refine lv_iload hx hb dB_binary_57 (lv_at hl 4 rfl) ?_
            obtain ⟨hg19, hf⟩ := xifn hf
            refine va_aldq hx hb hK hP 7 3 rfl rfl hg19 dB_binary_59 ?_
            refine W.eq (g2 := F0 m 60 ls [va_rf (rf0 x4.toNatClampNeg), .ref a15, .int x2, .ref a0]) rfl ?_
            rw [hr4 hg19]
            refine W.eq (g2 := F0 m 60 ls [.ref a17, .ref a15, .int x2, .ref a0]) rfl ?_
            refine lv_aload_n hx hb dB_binary_60 rfl (lv_at hl 0 rfl) ?_
            refine va_get (D := D) (ci := 0) (v := .ref a13) (C := "ValueBench") (T := TB) (N := 8) hx hb htx inB hown hK hP 0 rfl rfl 5 (by decide) (htx _ kw_1_100) (fun _ h9 => h9) rfl dB_binary_61 ?_
            obtain ⟨o20, hq21, hf⟩ := xbind hf
            obtain ⟨hPc, hDc, hFc⟩ := xcut (wc := [(a15, .inr (2, [.ref a16, .int v22, .int v23])), (a16, .inl (cT 2, 4096, .inr (.inl f21))), (a17, .inr (2, [.ref a18, .int v25, .int v26])), (a18, .inl (cT 2, 4096, .inr (.inl f24))), (a13, .inr (2, [.ref a14, .int o16.1, .int o16.2])), (a14, .inl (cT 2, 4096, .inr (.inl f16)))]) hP hD hS hA [13, 14, 15, 16, 17, 18] rfl rfl (by decide)
            refine va_calli (va_runS (As := [.int x2, .ref a15, .ref a17, .ref a13]) (rest := [.ref a0]) ⟨hx, hb, hml, hown, htx⟩ (gA_apply l hl9 D cT aK aV H.size d n a15 a16 a17 a18 a13 a14 x2 f21 v22 v23 f24 v25 v26 f16 o16.1 o16.2 o20 hq21) ⟨callB_of 4 htx (xw_goodC kw_3_105) rfl rfl rfl (htx _ kw_1_21) (htx _ kw_3_103) ⟨by decide, by decide, by decide +kernel⟩ ⟨(by show (16 * d + 5) + 1 ≤ 16 * d + 7; omega), (by show 8 + (4 + 11) + (400 * d + 157) ≤ 400 * d + 180; omega)⟩, htx _ kw_3_104⟩ ⟨xPre_blind, (fun U hU hW => ⟨rfl, xPre_of hZ hS hFc hPc hDc hK U hU hW⟩)⟩ rfl rfl hl.1 rfl (lv_room (Nat.le_of_ble_eq_true rfl)) dB_binary_64 ⟨Nat.le_of_ble_eq_true rfl, Nat.le_of_ble_eq_true rfl⟩) hS (fun q _ h => hFc q h) hFc (fun r22 u9 t H1 locs ht hvm hr9 hB hz1 hk1 hS => ?_)
            obtain ⟨hP1, hK1, hD1⟩ := hB
            rw [ht] at hP1
            obtain ⟨hP, hD⟩ := xjoin (W := [(a0, .inr (0, [.ref a1, .ref a3, .ref a5, .ref a7, .ref a8, .ref a13, .int v19, .int v20])), (a1, .inr (1, [.ref a2, .int v1, .int v2])), (a2, .inl (cT 0, 4096, .inl f0)), (a3, .inr (1, [.ref a4, .int v4, .int v5])), (a4, .inl (cT 0, 4096, .inl f3)), (a5, .inr (1, [.ref a6, .int v7, .int v8])), (a6, .inl (cT 0, 4096, .inl f6)), (a7, .inl (cT 3, 8, .inr (.inr (.inr (.inr rf0))))), (a8, .inr (3, [.ref a9, .ref a10, .ref p11, .ref p13, .int v15])), (a9, .inl (cT 1, 2048, .inl f9)), (a10, .inl (cT 1, 2048, .inl f10)), (p11, .inl (cT 1, 2048, .inl f12)), (p13, .inl (cT 1, 2048, .inl f14)), (a15, .inr (2, [.ref a16, .int v22, .int v23])), (a16, .inl (cT 2, 4096, .inr (.inl f21))), (a17, .inr (2, [.ref a18, .int v25, .int v26])), (a18, .inl (cT 2, 4096, .inr (.inl f24))), (a13, .inr (2, [.ref a14, .int o20.2.2.1, .int o20.2.2.2])), (a14, .inl (cT 2, 4096, .inr (.inl o20.2.1)))]) hP hD [13, 14, 15, 16, 17, 18] [0, 1, 2, 3, 4, 5, 6, 7, 8, 9, 10, 11, 12] 13 rfl rfl (by decide) (by decide) hk1 hFc hP1 hD1
            generalize H1 = H at hP hS ⊢
            rw [hr9]
            refine W.eq (g2 := F0 m 67 ls [.int o20.1, .ref a0]) rfl ?_
            obtain ⟨o23, hq24, hf⟩ := xbind hf
            by_cases hk25 : o23.1 = 0
            · rw [if_pos hk25] at hf
              obtain ⟨hPc, hDc, hFc⟩ := xcut (wc := [(a0, .inr (0, [.ref a1, .ref a3, .ref a5, .ref a7, .ref a8, .ref a13, .int v19, .int v20])), (a1, .inr (1, [.ref a2, .int v1, .int v2])), (a2, .inl (cT 0, 4096, .inl f0)), (a3, .inr (1, [.ref a4, .int v4, .int v5])), (a4, .inl (cT 0, 4096, .inl f3)), (a5, .inr (1, [.ref a6, .int v7, .int v8])), (a6, .inl (cT 0, 4096, .inl f6)), (a7, .inl (cT 3, 8, .inr (.inr (.inr (.inr rf0))))), (a8, .inr (3, [.ref a9, .ref a10, .ref p11, .ref p13, .int v15])), (a9, .inl (cT 1, 2048, .inl f9)), (a10, .inl (cT 1, 2048, .inl f10)), (p11, .inl (cT 1, 2048, .inl f12)), (p13, .inl (cT 1, 2048, .inl f14)), (a13, .inr (2, [.ref a14, .int o20.2.2.1, .int o20.2.2.2])), (a14, .inl (cT 2, 4096, .inr (.inl o20.2.1)))]) hP hD hS hA [0, 1, 2, 3, 4, 5, 6, 7, 8, 9, 10, 11, 12, 17, 18] rfl rfl (by decide)
              refine va_callv (va_runV (C := "ValueBench") (As := [.int o20.1]) (rest := []) ⟨hx, hb, hml, hown, htx⟩ (gB_demandDone l hl9 D cT aK aV H.size n a0 a1 a2 a3 a4 a5 a6 a7 a8 a9 a10 a13 a14 rf0 o20.1 f0 v1 v2 f3 v4 v5 f6 v7 v8 f9 f10 p11 f12 p13 f14 v15 o20.2.1 o20.2.2.1 o20.2.2.2 v19 v20 o23 hq24 hk25) ⟨callB_of 1 htx (xw_goodC kw_3_222) rfl rfl rfl (htx _ kw_1_1) (htx _ kw_3_219) ⟨by decide, by decide, by decide +kernel⟩ ⟨Nat.le_of_ble_eq_true rfl, Nat.le_of_ble_eq_true rfl⟩, (htx _ kw_3_221), (htx _ kp_B_demandDone)⟩ ⟨xPre_blind, va_recv hK hP (ci := 0) rfl (q0 := 0) rfl, (fun U hU hW => ⟨rfl, xPre_of hZ hS hFc hPc hDc hK U hU hW⟩)⟩ rfl rfl hl.1 rfl (lv_room (Nat.le_of_ble_eq_true rfl)) dB_binary_67 ⟨Nat.le_of_ble_eq_true rfl, Nat.le_of_ble_eq_true rfl⟩) hS (fun q _ h => hFc q h) hFc (fun u9 t H1 locs ht hvm hr9 hB hz1 hk1 hS => ?_)
              obtain ⟨hP1, hK1, hD1⟩ := hB
              rw [ht] at hP1
              obtain ⟨hP, hD⟩ := xjoin (W := [(a15, .inr (2, [.ref a16, .int v22, .int v23])), (a16, .inl (cT 2, 4096, .inr (.inl f21))), (a17, .inr (2, [.ref a18, .int v25, .int v26])), (a18, .inl (cT 2, 4096, .inr (.inl f24))), (a0, .inr (0, [.ref a1, .ref a3, .ref a5, .ref a7, .ref a8, .ref a13, .int v19, .int o23.2])), (a1, .inr (1, [.ref a2, .int v1, .int v2])), (a2, .inl (cT 0, 4096, .inl f0)), (a3, .inr (1, [.ref a4, .int v4, .int v5])), (a4, .inl (cT 0, 4096, .inl f3)), (a5, .inr (1, [.ref a6, .int v7, .int v8])), (a6, .inl (cT 0, 4096, .inl f6)), (a7, .inl (cT 3, 8, .inr (.inr (.inr (.inr rf0))))), (a8, .inr (3, [.ref a9, .ref a10, .ref p11, .ref p13, .int v15])), (a9, .inl (cT 1, 2048, .inl f9)), (a10, .inl (cT 1, 2048, .inl f10)), (p11, .inl (cT 1, 2048, .inl f12)), (p13, .inl (cT 1, 2048, .inl f14)), (a13, .inr (2, [.ref a14, .int o20.2.2.1, .int o20.2.2.2])), (a14, .inl (cT 2, 4096, .inr (.inl o20.2.1)))]) hP hD [0, 1, 2, 3, 4, 5, 6, 7, 8, 9, 10, 11, 12, 17, 18] [13, 14, 15, 16] 4 rfl rfl (by decide) (by decide) hk1 hFc hP1 hD1
              generalize H1 = H at hP hS ⊢
              refine lv_aload_n hx hb dB_binary_70 rfl (lv_at hl 0 rfl) ?_
              refine lv_iload_n hx hb dB_binary_71 rfl (lv_at hl 1 rfl) ?_
              obtain ⟨o26, hq27, hf⟩ := xbind hf
              by_cases hk28 : o26.1 = 0
              · rw [if_pos hk28] at hf
                obtain ⟨hPc, hDc, hFc⟩ := xcut (wc := [(a0, .inr (0, [.ref a1, .ref a3, .ref a5, .ref a7, .ref a8, .ref a13, .int v19, .int o23.2])), (a1, .inr (1, [.ref a2, .int v1, .int v2])), (a2, .inl (cT 0, 4096, .inl f0)), (a3, .inr (1, [.ref a4, .int v4, .int v5])), (a4, .inl (cT 0, 4096, .inl f3)), (a5, .inr (1, [.ref a6, .int v7, .int v8])), (a6, .inl (cT 0, 4096, .inl f6)), (a7, .inl (cT 3, 8, .inr (.inr (.inr (.inr rf0))))), (a8, .inr (3, [.ref a9, .ref a10, .ref p11, .ref p13, .int v15])), (a9, .inl (cT 1, 2048, .inl f9)), (a10, .inl (cT 1, 2048, .inl f10)), (p11, .inl (cT 1, 2048, .inl f12)), (p13, .inl (cT 1, 2048, .inl f14)), (a13, .inr (2, [.ref a14, .int o20.2.2.1, .int o20.2.2.2])), (a14, .inl (cT 2, 4096, .inr (.inl o20.2.1)))]) hP hD hS hA [4, 5, 6, 7, 8, 9, 10, 11, 12, 13, 14, 15, 16, 17, 18] rfl rfl (by decide)
                refine va_calli (va_runV (C := "ValueBench") (As := [.int x1]) (rest := []) ⟨hx, hb, hml, hown, htx⟩ (gB_keepSpare l hl9 D cT aK aV H.size d n a0 a1 a2 a3 a4 a5 a6 a7 a8 a9 a10 a13 a14 rf0 b1 x1 f0 v1 v2 f3 v4 v5 f6 v7 v8 f9 f10 p11 f12 p13 f14 v15 o20.2.1 o20.2.2.1 o20.2.2.2 v19 o23.2 hr1 o26 hq27 hk28) ⟨callB_of 1 htx (xw_goodC kw_3_17) rfl rfl rfl (htx _ kw_1_1) (htx _ kw_3_14) ⟨by decide, by decide, by decide +kernel⟩ ⟨(by show (16 * d + 6) + 1 ≤ 16 * d + 7; omega), (by show 8 + (3 + 11) + (400 * d + 100) ≤ 400 * d + 180; omega)⟩, (htx _ kw_3_16), (htx _ kp_B_keepSpare)⟩ ⟨xPre_blind, va_recv hK hP (ci := 0) rfl (q0 := 4) rfl, (fun U hU hW => ⟨rfl, xPre_of hZ hS hFc hPc hDc hK U hU hW⟩)⟩ rfl rfl hl.1 rfl (lv_room (Nat.le_of_ble_eq_true rfl)) dB_binary_72 ⟨Nat.le_of_ble_eq_true rfl, Nat.le_of_ble_eq_true rfl⟩) hS (fun q _ h => hFc q h) hFc (fun r29 u9 t H1 locs ht hvm hr9 hB hz1 hk1 hS => ?_)
                obtain ⟨hP1, hK1, hD1⟩ := hB
                rw [ht] at hP1
                obtain ⟨hP, hD⟩ := xjoin (W := [(a15, .inr (2, [.ref a16, .int v22, .int v23])), (a16, .inl (cT 2, 4096, .inr (.inl f21))), (a17, .inr (2, [.ref a18, .int v25, .int v26])), (a18, .inl (cT 2, 4096, .inr (.inl f24))), (a0, .inr (0, [.ref a1, .ref a3, .ref a5, .ref a7, .ref a8, .ref b1, .int v19, .int o23.2])), (a1, .inr (1, [.ref a2, .int v1, .int v2])), (a2, .inl (cT 0, 4096, .inl f0)), (a3, .inr (1, [.ref a4, .int v4, .int v5])), (a4, .inl (cT 0, 4096, .inl f3)), (a5, .inr (1, [.ref a6, .int o26.2.2.2.1, .int o26.2.2.2.2])), (a6, .inl (cT 0, 4096, .inl o26.2.2.1)), (a7, .inl (cT 3, 8, .inr (.inr (.inr (.inr (va_up rf0 x1.toNatClampNeg (some a13))))))), (a8, .inr (3, [.ref a9, .ref a10, .ref p11, .ref p13, .int v15])), (a9, .inl (cT 1, 2048, .inl f9)), (a10, .inl (cT 1, 2048, .inl f10)), (p11, .inl (cT 1, 2048, .inl f12)), (p13, .inl (cT 1, 2048, .inl f14)), (a13, .inr (2, [.ref a14, .int o20.2.2.1, .int o20.2.2.2])), (a14, .inl (cT 2, 4096, .inr (.inl o20.2.1)))]) hP hD [4, 5, 6, 7, 8, 9, 10, 11, 12, 13, 14, 15, 16, 17, 18] [0, 1, 2, 3] 4 rfl rfl (by decide) (by decide) hk1 hFc hP1 hD1
                generalize H1 = H at hP hS ⊢
                rw [hr9]
                refine W.eq (g2 := F0 m 75 ls [.int o26.2.1]) rfl ?_
                refine lv_pop hx hb dB_binary_75 rfl ?_
                obtain rfl := Option.some.inj hf
                obtain ⟨hP9, hD9⟩ := xsub (wc := [(a0, .inr (0, [.ref a1, .ref a3, .ref a5, .ref a7, .ref a8, .ref b1, .int v19, .int o23.2])), (a1, .inr (1, [.ref a2, .int v1, .int v2])), (a2, .inl (cT 0, 4096, .inl f0)), (a3, .inr (1, [.ref a4, .int v4, .int v5])), (a4, .inl (cT 0, 4096, .inl f3)), (a5, .inr (1, [.ref a6, .int o26.2.2.2.1, .int o26.2.2.2.2])), (a6, .inl (cT 0, 4096, .inl o26.2.2.1)), (a7, .inl (cT 3, 8, .inr (.inr (.inr (.inr (va_up rf0 x1.toNatClampNeg (some a13))))))), (a8, .inr (3, [.ref a9, .ref a10, .ref p11, .ref p13, .int v15])), (a9, .inl (cT 1, 2048, .inl f9)), (a10, .inl (cT 1, 2048, .inl f10)), (p11, .inl (cT 1, 2048, .inl f12)), (p13, .inl (cT 1, 2048, .inl f14)), (a13, .inr (2, [.ref a14, .int o20.2.2.1, .int o20.2.2.2])), (a14, .inl (cT 2, 4096, .inr (.inl o20.2.1))), (a15, .inr (2, [.ref a16, .int v22, .int v23])), (a16, .inl (cT 2, 4096, .inr (.inl f21))), (a17, .inr (2, [.ref a18, .int v25, .int v26])), (a18, .inl (cT 2, 4096, .inr (.inl f24)))]) hP hD [4, 5, 6, 7, 8, 9, 10, 11, 12, 13, 14, 15, 16, 17, 18, 0, 1, 2, 3] rfl rfl (by decide)
                refine W.widen (k := 3) (n := 18) (Nat.le_of_ble_eq_true rfl) (Nat.le_of_ble_eq_true rfl) ?_
                exact W.vret hx hb hr (fun t ht hW => ⟨⟨(), rfl, trivial, by rw [ht]; exact hP9, va_K.moved hW.alike hK, hD9⟩, hS.F ht⟩) hS.2.2 dB_binary_76
              rw [if_neg hk28] at hf
              by_cases hk30 : o26.1 = 1
              · rw [if_pos hk30] at hf
                obtain rfl := Option.some.inj hf
                exact absurd (show (1 : Nat) = 0 from hkd) (by decide)
              rw [if_neg hk30] at hf
              exact nomatch hf
            rw [if_neg hk25] at hf
            by_cases hk32 : o23.1 = 1
            · rw [if_pos hk32] at hf
              obtain rfl := Option.some.inj hf
              exact absurd (show (2 : Nat) = 0 from hkd) (by decide)
            rw [if_neg hk32] at hf
            exact nomatch hf
          rw [if_neg hk15] at hf
          by_cases hk33 : o13 = 1
          · rw [if_pos hk33] at hf
            obtain rfl := Option.some.inj hf
            exact absurd (show (3 : Nat) = 0 from hkd) (by decide)
          rw [if_neg hk33] at hf
          exact nomatch hf
set_option maxHeartbeats 400000000 in
set_option maxRecDepth 100000 in
theorem gB_binary_1 (l : Launch) (hl9 : l.stackTraces = false) (D : va_G) (cT : Nat → ClassId) (aK aV : Nat → Nat) (sz d n : Nat) (a0 : Nat) (a1 : Nat) (a2 : Nat) (a3 : Nat) (a4 : Nat) (a5 : Nat) (a6 : Nat) (a7 : Nat) (a8 : Nat) (a9 : Nat) (a10 : Nat) (a13 : Nat) (a14 : Nat) (a15 : Nat) (a16 : Nat) (a17 : Nat) (a18 : Nat) (rf0 : Nat → Option Nat) (b1 : Nat) (x1 : Int32) (x2 : Int32) (x3 : Int32) (x4 : Int32) (f0 : Nat → Int32) (v1 : Int32) (v2 : Int32) (f3 : Nat → Int32) (v4 : Int32) (v5 : Int32) (f6 : Nat → Int32) (v7 : Int32) (v8 : Int32) (f9 : Nat → Int32) (f10 : Nat → Int32) (p11 : Nat) (f12 : Nat → Int32) (p13 : Nat) (f14 : Nat → Int32) (v15 : Int32) (f16 : Nat → Int64) (v17 : Int32) (v18 : Int32) (v19 : Int32) (v20 : Int32) (f21 : Nat → Int64) (v22 : Int32) (v23 : Int32) (f24 : Nat → Int64) (v25 : Int32) (v26 : Int32) (hr1 : ¬ (x1 < 0 ∨ 8 ≤ x1.toNatClampNeg) → rf0 x1.toNatClampNeg = some b1) (hr3 : ¬ (x3 < 0 ∨ 8 ≤ x3.toNatClampNeg) → rf0 x3.toNatClampNeg = some a15) (hr4 : ¬ (x4 < 0 ∨ 8 ≤ x4.toNatClampNeg) → rf0 x4.toNatClampNeg = some a17) (out : Nat × (Nat → Int32) × Int32 × Int32 × (Nat → Int64) × Int32 × Int32 × Int32) (hf : fB_binary d n x1 x2 x3 x4 f0 v1 v2 f3 v4 v5 f6 v7 v8 f9 f10 p11 f12 p13 f14 v15 f16 v17 v18 v19 v20 f21 v22 v23 f24 v25 v26 = some out) (hkd : out.1 = 1) : xMetX l yB_binary wyB_binary (16 * d + 7) 3 18 (400 * d + 180) D cT aK aV sz [.ref a0, .int x1, .int x2, .int x3, .int x4] [(a0, .inr (0, [.ref a1, .ref a3, .ref a5, .ref a7, .ref a8, .ref a13, .int v19, .int v20])), (a1, .inr (1, [.ref a2, .int v1, .int v2])), (a2, .inl (cT 0, 4096, .inl f0)), (a3, .inr (1, [.ref a4, .int v4, .int v5])), (a4, .inl (cT 0, 4096, .inl f3)), (a5, .inr (1, [.ref a6, .int v7, .int v8])), (a6, .inl (cT 0, 4096, .inl f6)), (a7, .inl (cT 3, 8, .inr (.inr (.inr (.inr rf0))))), (a8, .inr (3, [.ref a9, .ref a10, .ref p11, .ref p13, .int v15])), (a9, .inl (cT 1, 2048, .inl f9)), (a10, .inl (cT 1, 2048, .inl f10)), (p11, .inl (cT 1, 2048, .inl f12)), (p13, .inl (cT 1, 2048, .inl f14)), (a13, .inr (2, [.ref a14, .int v17, .int v18])), (a14, .inl (cT 2, 4096, .inr (.inl f16))), (a15, .inr (2, [.ref a16, .int v22, .int v23])), (a16, .inl (cT 2, 4096, .inr (.inl f21))), (a17, .inr (2, [.ref a18, .int v25, .int v26])), (a18, .inl (cT 2, 4096, .inr (.inl f24)))] "java/lang/IndexOutOfBoundsException" (fun A t => xB D xcl cT A [(a0, .inr (0, [.ref a1, .ref a3, .ref a5, .ref a7, .ref a8, .ref a13, .int v19, .int out.2.2.2.2.2.2.2])), (a1, .inr (1, [.ref a2, .int v1, .int v2])), (a2, .inl (cT 0, 4096, .inl f0)), (a3, .inr (1, [.ref a4, .int v4, .int v5])), (a4, .inl (cT 0, 4096, .inl f3)), (a5, .inr (1, [.ref a6, .int out.2.2.1, .int out.2.2.2.1])), (a6, .inl (cT 0, 4096, .inl out.2.1)), (a7, .inl (cT 3, 8, .inr (.inr (.inr (.inr rf0))))), (a8, .inr (3, [.ref a9, .ref a10, .ref p11, .ref p13, .int v15])), (a9, .inl (cT 1, 2048, .inl f9)), (a10, .inl (cT 1, 2048, .inl f10)), (p11, .inl (cT 1, 2048, .inl f12)), (p13, .inl (cT 1, 2048, .inl f14)), (a13, .inr (2, [.ref a14, .int out.2.2.2.2.2.1, .int out.2.2.2.2.2.2.1])), (a14, .inl (cT 2, 4096, .inr (.inl out.2.2.2.2.1))), (a15, .inr (2, [.ref a16, .int v22, .int v23])), (a16, .inl (cT 2, 4096, .inr (.inl f21))), (a17, .inr (2, [.ref a18, .int v25, .int v26])), (a18, .inl (cT 2, 4096, .inr (.inl f24)))] t) := by
  refine vx_ofW (cc := prog_1_method_6_code) (maxL := 5) (ret := none) (by decide) rfl ?_
  intro p e s m args below meth c s₁ B hml hne hv
  obtain ⟨rfl, hsz, hZ, hP, hK, hD0⟩ := hv
  have hx := B.exec
  have hb := B.bytes
  have hr := B.returns
  have hts := atoms_spec (ws := wyB_binary) B.pre
  have htx := fun w h => hts w (List.mem_cons_of_mem _ h)
  have hown : s.vm.findClass "ValueBench" = some m.cls := findClass_of_methodNamed B.named
  have hlocks := B.notSynchronized
  subst hsz
  have hD := hD0.self (sz := s.heap.size)
  generalize hAe : va_A [(a0, .inr (0, [.ref a1, .ref a3, .ref a5, .ref a7, .ref a8, .ref a13, .int v19, .int v20])), (a1, .inr (1, [.ref a2, .int v1, .int v2])), (a2, .inl (cT 0, 4096, .inl f0)), (a3, .inr (1, [.ref a4, .int v4, .int v5])), (a4, .inl (cT 0, 4096, .inl f3)), (a5, .inr (1, [.ref a6, .int v7, .int v8])), (a6, .inl (cT 0, 4096, .inl f6)), (a7, .inl (cT 3, 8, .inr (.inr (.inr (.inr rf0))))), (a8, .inr (3, [.ref a9, .ref a10, .ref p11, .ref p13, .int v15])), (a9, .inl (cT 1, 2048, .inl f9)), (a10, .inl (cT 1, 2048, .inl f10)), (p11, .inl (cT 1, 2048, .inl f12)), (p13, .inl (cT 1, 2048, .inl f14)), (a13, .inr (2, [.ref a14, .int v17, .int v18])), (a14, .inl (cT 2, 4096, .inr (.inl f16))), (a15, .inr (2, [.ref a16, .int v22, .int v23])), (a16, .inl (cT 2, 4096, .inr (.inl f21))), (a17, .inr (2, [.ref a18, .int v25, .int v26])), (a18, .inl (cT 2, 4096, .inr (.inl f24)))] s.heap.size = A at hD hZ ⊢
  have hA : ∀ q : Nat, s.heap.size ≤ q → A q := fun q h => by rw [← hAe]; exact Or.inr h
  have hS : va_S A s.heap s.heap [] := va_S.rf
  have hP : va_P D xcl [(a0, .inr (0, [.ref a1, .ref a3, .ref a5, .ref a7, .ref a8, .ref a13, .int v19, .int v20])), (a1, .inr (1, [.ref a2, .int v1, .int v2])), (a2, .inl (cT 0, 4096, .inl f0)), (a3, .inr (1, [.ref a4, .int v4, .int v5])), (a4, .inl (cT 0, 4096, .inl f3)), (a5, .inr (1, [.ref a6, .int v7, .int v8])), (a6, .inl (cT 0, 4096, .inl f6)), (a7, .inl (cT 3, 8, .inr (.inr (.inr (.inr rf0))))), (a8, .inr (3, [.ref a9, .ref a10, .ref p11, .ref p13, .int v15])), (a9, .inl (cT 1, 2048, .inl f9)), (a10, .inl (cT 1, 2048, .inl f10)), (p11, .inl (cT 1, 2048, .inl f12)), (p13, .inl (cT 1, 2048, .inl f14)), (a13, .inr (2, [.ref a14, .int v17, .int v18])), (a14, .inl (cT 2, 4096, .inr (.inl f16))), (a15, .inr (2, [.ref a16, .int v22, .int v23])), (a16, .inl (cT 2, 4096, .inr (.inl f21))), (a17, .inr (2, [.ref a18, .int v25, .int v26])), (a18, .inl (cT 2, 4096, .inr (.inl f24)))] s.heap := hP
  have hl := lv_entry ([.ref a0, .int x1, .int x2, .int x3, .int x4]) (n := 5) (Nat.le_of_ble_eq_true rfl)
  rw [lg_entry_eq]
  generalize (lg_sl ([.ref a0, .int x1, .int x2, .int x3, .int x4]) ++ List.replicate (5 - (lg_sl ([.ref a0, .int x1, .int x2, .int x3, .int x4])).length) Slot.unset).toArray = ls at hl ⊢
  have hl : lv_has ls 5 [(0, .ref a0), (1, .int x1), (2, .int x2), (3, .int x3), (4, .int x4)] := hl
  unfold fB_binary at hf
  refine lv_iload_n hx hb dB_binary_0 rfl (lv_at hl 1 rfl) ?_
  obtain ⟨o1, hq2, hf⟩ := xbind hf
  obtain ⟨hPc, hDc, hFc⟩ := xcut (wc := []) hP hD hS hA [] rfl rfl (by decide)
  refine va_calli (va_runS (As := [.int x1]) (rest := []) ⟨hx, hb, hml, hown, htx⟩ (gB_isRegister l hl9 D cT aK aV s.heap.size n x1 o1 hq2) ⟨callB_of 1 htx (xw_goodC kw_2_18) rfl rfl rfl (htx _ kw_1_1) (htx _ kw_2_16) ⟨by decide, by decide, by decide +kernel⟩ ⟨Nat.le_of_ble_eq_true rfl, Nat.le_of_ble_eq_true rfl⟩, htx _ kw_2_17⟩ ⟨xPre_blind, (fun U hU hW => ⟨rfl, xPre_of hZ hS hFc hPc hDc hK U hU hW⟩)⟩ rfl rfl hl.1 rfl (lv_room (Nat.le_of_ble_eq_true rfl)) dB_binary_1 ⟨Nat.le_of_ble_eq_true rfl, Nat.le_of_ble_eq_true rfl⟩) hS (fun q _ h => hFc q h) hFc (fun r3 u9 t H1 locs ht hvm hr9 hB hz1 hk1 hS => ?_)
  obtain ⟨hP1, hK1, hD1⟩ := hB
  rw [ht] at hP1
  obtain ⟨hP, hD⟩ := xjoin (W := [(a0, .inr (0, [.ref a1, .ref a3, .ref a5, .ref a7, .ref a8, .ref a13, .int v19, .int v20])), (a1, .inr (1, [.ref a2, .int v1, .int v2])), (a2, .inl (cT 0, 4096, .inl f0)), (a3, .inr (1, [.ref a4, .int v4, .int v5])), (a4, .inl (cT 0, 4096, .inl f3)), (a5, .inr (1, [.ref a6, .int v7, .int v8])), (a6, .inl (cT 0, 4096, .inl f6)), (a7, .inl (cT 3, 8, .inr (.inr (.inr (.inr rf0))))), (a8, .inr (3, [.ref a9, .ref a10, .ref p11, .ref p13, .int v15])), (a9, .inl (cT 1, 2048, .inl f9)), (a10, .inl (cT 1, 2048, .inl f10)), (p11, .inl (cT 1, 2048, .inl f12)), (p13, .inl (cT 1, 2048, .inl f14)), (a13, .inr (2, [.ref a14, .int v17, .int v18])), (a14, .inl (cT 2, 4096, .inr (.inl f16))), (a15, .inr (2, [.ref a16, .int v22, .int v23])), (a16, .inl (cT 2, 4096, .inr (.inl f21))), (a17, .inr (2, [.ref a18, .int v25, .int v26])), (a18, .inl (cT 2, 4096, .inr (.inl f24)))]) hP hD [] [0, 1, 2, 3, 4, 5, 6, 7, 8, 9, 10, 11, 12, 13, 14, 15, 16, 17, 18] 19 rfl rfl (by decide) (by decide) hk1 hFc hP1 hD1
  generalize H1 = H at hP hS ⊢
  rw [hr9]
  refine W.eq (g2 := F0 m 4 ls [.int o1]) rfl ?_
  refine lv_if_eq (tgt := 34) hx hb dB_binary_4 (by decide) (fun hc => ?_) (fun hc => ?_)
  · rw [if_pos hc] at hf
    refine lv_iconst (v := 0) hx hb dB_binary_34 (by decide) ?_
    obtain ⟨o4, hq5, hf⟩ := xbind hf
    by_cases hk6 : o4 = 0
    · rw [if_pos hk6] at hf
      obtain ⟨hPc, hDc, hFc⟩ := xcut (wc := []) hP hD hS hA [] rfl rfl (by decide)
      refine va_callv (va_runS (As := [.int 0]) (rest := []) ⟨hx, hb, hml, hown, htx⟩ (gB_demand l hl9 D cT aK aV H.size n (0 : Int32) o4 hq5 hk6) ⟨callB_of 1 htx (xw_goodC kw_1_221) rfl rfl rfl (htx _ kw_1_1) (htx _ kw_1_219) ⟨by decide, by decide, by decide +kernel⟩ ⟨Nat.le_of_ble_eq_true rfl, Nat.le_of_ble_eq_true rfl⟩, htx _ kw_1_220⟩ ⟨xPre_blind, (fun U hU hW => ⟨rfl, xPre_of hZ hS hFc hPc hDc hK U hU hW⟩)⟩ rfl rfl hl.1 rfl (lv_room (Nat.le_of_ble_eq_true rfl)) dB_binary_35 ⟨Nat.le_of_ble_eq_true rfl, Nat.le_of_ble_eq_true rfl⟩) hS (fun q _ h => hFc q h) hFc (fun u9 t H1 locs ht hvm hr9 hB hz1 hk1 hS => ?_)
      obtain ⟨hP1, hK1, hD1⟩ := hB
      rw [ht] at hP1
      obtain ⟨hP, hD⟩ := xjoin (W := [(a0, .inr (0, [.ref a1, .ref a3, .ref a5, .ref a7, .ref a8, .ref a13, .int v19, .int v20])), (a1, .inr (1, [.ref a2, .int v1, .int v2])), (a2, .inl (cT 0, 4096, .inl f0)), (a3, .inr (1, [.ref a4, .int v4, .int v5])), (a4, .inl (cT 0, 4096, .inl f3)), (a5, .inr (1, [.ref a6, .int v7, .int v8])), (a6, .inl (cT 0, 4096, .inl f6)), (a7, .inl (cT 3, 8, .inr (.inr (.inr (.inr rf0))))), (a8, .inr (3, [.ref a9, .ref a10, .ref p11, .ref p13, .int v15])), (a9, .inl (cT 1, 2048, .inl f9)), (a10, .inl (cT 1, 2048, .inl f10)), (p11, .inl (cT 1, 2048, .inl f12)), (p13, .inl (cT 1, 2048, .inl f14)), (a13, .inr (2, [.ref a14, .int v17, .int v18])), (a14, .inl (cT 2, 4096, .inr (.inl f16))), (a15, .inr (2, [.ref a16, .int v22, .int v23])), (a16, .inl (cT 2, 4096, .inr (.inl f21))), (a17, .inr (2, [.ref a18, .int v25, .int v26])), (a18, .inl (cT 2, 4096, .inr (.inl f24)))]) hP hD [] [0, 1, 2, 3, 4, 5, 6, 7, 8, 9, 10, 11, 12, 13, 14, 15, 16, 17, 18] 19 rfl rfl (by decide) (by decide) hk1 hFc hP1 hD1
      generalize H1 = H at hP hS ⊢
      refine lv_aload_n hx hb dB_binary_38 rfl (lv_at hl 0 rfl) ?_
      refine va_get (D := D) (ci := 0) (v := .ref a13) (C := "ValueBench") (T := TB) (N := 8) hx hb htx inB hown hK hP 0 rfl rfl 5 (by decide) (htx _ kw_1_100) (fun _ h9 => h9) rfl dB_binary_39 ?_
      obtain ⟨o7, hq8, hf⟩ := xbind hf
      obtain ⟨hPc, hDc, hFc⟩ := xcut (wc := [(a13, .inr (2, [.ref a14, .int v17, .int v18])), (a14, .inl (cT 2, 4096, .inr (.inl f16)))]) hP hD hS hA [13, 14] rfl rfl (by decide)
      refine va_callv (va_runV (C := "ValueBench$Row") (As := []) (rest := []) ⟨hx, hb, hml, hown, htx⟩ (gR_clear l hl9 D cT aK aV H.size n a13 a14 f16 v17 v18 o7 hq8) ⟨callB_of 0 htx (xw_goodC kw_2_22) rfl rfl rfl (htx _ kw_1_4) (htx _ kw_2_19) ⟨by decide, by decide, by decide +kernel⟩ ⟨Nat.le_of_ble_eq_true rfl, Nat.le_of_ble_eq_true rfl⟩, (htx _ kw_2_20), (htx _ kw_2_21)⟩ ⟨xPre_blind, va_recv hK hP (ci := 2) rfl (q0 := 13) rfl, (fun U hU hW => ⟨rfl, xPre_of hZ hS hFc hPc hDc hK U hU hW⟩)⟩ rfl rfl hl.1 rfl (lv_room (Nat.le_of_ble_eq_true rfl)) dB_binary_42 ⟨Nat.le_of_ble_eq_true rfl, Nat.le_of_ble_eq_true rfl⟩) hS (fun q _ h => hFc q h) hFc (fun u9 t H1 locs ht hvm hr9 hB hz1 hk1 hS => ?_)
      obtain ⟨hP1, hK1, hD1⟩ := hB
      rw [ht] at hP1
      obtain ⟨hP, hD⟩ := xjoin (W := [(a0, .inr (0, [.ref a1, .ref a3, .ref a5, .ref a7, .ref a8, .ref a13, .int v19, .int v20])), (a1, .inr (1, [.ref a2, .int v1, .int v2])), (a2, .inl (cT 0, 4096, .inl f0)), (a3, .inr (1, [.ref a4, .int v4, .int v5])), (a4, .inl (cT 0, 4096, .inl f3)), (a5, .inr (1, [.ref a6, .int v7, .int v8])), (a6, .inl (cT 0, 4096, .inl f6)), (a7, .inl (cT 3, 8, .inr (.inr (.inr (.inr rf0))))), (a8, .inr (3, [.ref a9, .ref a10, .ref p11, .ref p13, .int v15])), (a9, .inl (cT 1, 2048, .inl f9)), (a10, .inl (cT 1, 2048, .inl f10)), (p11, .inl (cT 1, 2048, .inl f12)), (p13, .inl (cT 1, 2048, .inl f14)), (a15, .inr (2, [.ref a16, .int v22, .int v23])), (a16, .inl (cT 2, 4096, .inr (.inl f21))), (a17, .inr (2, [.ref a18, .int v25, .int v26])), (a18, .inl (cT 2, 4096, .inr (.inl f24))), (a13, .inr (2, [.ref a14, .int o7.1, .int o7.2])), (a14, .inl (cT 2, 4096, .inr (.inl f16)))]) hP hD [13, 14] [0, 1, 2, 3, 4, 5, 6, 7, 8, 9, 10, 11, 12, 15, 16, 17, 18] 17 rfl rfl (by decide) (by decide) hk1 hFc hP1 hD1
      generalize H1 = H at hP hS ⊢
      refine lv_aload_n hx hb dB_binary_45 rfl (lv_at hl 0 rfl) ?_
      refine lv_iload_n hx hb dB_binary_46 rfl (lv_at hl 2 rfl) ?_
      refine lv_aload_n hx hb dB_binary_47 rfl (lv_at hl 0 rfl) ?_
      refine va_get (D := D) (ci := 0) (v := .ref a7) (C := "ValueBench") (T := TB) (N := 8) hx hb htx inB hown hK hP 0 rfl rfl 3 (by decide) (htx _ kw_1_98) (fun _ h9 => h9) rfl dB_binary_48 ?_
      refine lv_iload_n hx hb dB_binary_51 rfl (lv_at hl 3 rfl) ?_
      obtain ⟨hg9, hf⟩ := xifn hf
      refine va_aldq hx hb hK hP 7 3 rfl rfl hg9 dB_binary_52 ?_
      refine W.eq (g2 := F0 m 53 ls [va_rf (rf0 x3.toNatClampNeg), .int x2, .ref a0]) rfl ?_
      rw [hr3 hg9]
      refine W.eq (g2 := F0 m 53 ls [.ref a15, .int x2, .ref a0]) rfl ?_
      refine lv_aload_n hx hb dB_binary_53 rfl (lv_at hl 0 rfl) ?_
      refine va_get (D := D) (ci := 0) (v := .ref a7) (C := "ValueBench") (T := TB) (N := 8) hx hb htx inB hown hK hP 0 rfl rfl 3 (by decide) (htx _ kw_1_98) (fun _ h9 => h9) rfl dB_binary_54 ?_
      refine lv_iload hx hb dB_binary_57 (lv_at hl 4 rfl) ?_
      obtain ⟨hg10, hf⟩ := xifn hf
      refine va_aldq hx hb hK hP 7 3 rfl rfl hg10 dB_binary_59 ?_
      refine W.eq (g2 := F0 m 60 ls [va_rf (rf0 x4.toNatClampNeg), .ref a15, .int x2, .ref a0]) rfl ?_
      rw [hr4 hg10]
      refine W.eq (g2 := F0 m 60 ls [.ref a17, .ref a15, .int x2, .ref a0]) rfl ?_
      refine lv_aload_n hx hb dB_binary_60 rfl (lv_at hl 0 rfl) ?_
      refine va_get (D := D) (ci := 0) (v := .ref a13) (C := "ValueBench") (T := TB) (N := 8) hx hb htx inB hown hK hP 0 rfl rfl 5 (by decide) (htx _ kw_1_100) (fun _ h9 => h9) rfl dB_binary_61 ?_
      obtain ⟨o11, hq12, hf⟩ := xbind hf
      obtain ⟨hPc, hDc, hFc⟩ := xcut (wc := [(a15, .inr (2, [.ref a16, .int v22, .int v23])), (a16, .inl (cT 2, 4096, .inr (.inl f21))), (a17, .inr (2, [.ref a18, .int v25, .int v26])), (a18, .inl (cT 2, 4096, .inr (.inl f24))), (a13, .inr (2, [.ref a14, .int o7.1, .int o7.2])), (a14, .inl (cT 2, 4096, .inr (.inl f16)))]) hP hD hS hA [13, 14, 15, 16, 17, 18] rfl rfl (by decide)
      refine va_calli (va_runS (As := [.int x2, .ref a15, .ref a17, .ref a13]) (rest := [.ref a0]) ⟨hx, hb, hml, hown, htx⟩ (gA_apply l hl9 D cT aK aV H.size d n a15 a16 a17 a18 a13 a14 x2 f21 v22 v23 f24 v25 v26 f16 o7.1 o7.2 o11 hq12) ⟨callB_of 4 htx (xw_goodC kw_3_105) rfl rfl rfl (htx _ kw_1_21) (htx _ kw_3_103) ⟨by decide, by decide, by decide +kernel⟩ ⟨(by show (16 * d + 5) + 1 ≤ 16 * d + 7; omega), (by show 8 + (4 + 11) + (400 * d + 157) ≤ 400 * d + 180; omega)⟩, htx _ kw_3_104⟩ ⟨xPre_blind, (fun U hU hW => ⟨rfl, xPre_of hZ hS hFc hPc hDc hK U hU hW⟩)⟩ rfl rfl hl.1 rfl (lv_room (Nat.le_of_ble_eq_true rfl)) dB_binary_64 ⟨Nat.le_of_ble_eq_true rfl, Nat.le_of_ble_eq_true rfl⟩) hS (fun q _ h => hFc q h) hFc (fun r13 u9 t H1 locs ht hvm hr9 hB hz1 hk1 hS => ?_)
      obtain ⟨hP1, hK1, hD1⟩ := hB
      rw [ht] at hP1
      obtain ⟨hP, hD⟩ := xjoin (W := [(a0, .inr (0, [.ref a1, .ref a3, .ref a5, .ref a7, .ref a8, .ref a13, .int v19, .int v20])), (a1, .inr (1, [.ref a2, .int v1, .int v2])), (a2, .inl (cT 0, 4096, .inl f0)), (a3, .inr (1, [.ref a4, .int v4, .int v5])), (a4, .inl (cT 0, 4096, .inl f3)), (a5, .inr (1, [.ref a6, .int v7, .int v8])), (a6, .inl (cT 0, 4096, .inl f6)), (a7, .inl (cT 3, 8, .inr (.inr (.inr (.inr rf0))))), (a8, .inr (3, [.ref a9, .ref a10, .ref p11, .ref p13, .int v15])), (a9, .inl (cT 1, 2048, .inl f9)), (a10, .inl (cT 1, 2048, .inl f10)), (p11, .inl (cT 1, 2048, .inl f12)), (p13, .inl (cT 1, 2048, .inl f14)), (a15, .inr (2, [.ref a16, .int v22, .int v23])), (a16, .inl (cT 2, 4096, .inr (.inl f21))), (a17, .inr (2, [.ref a18, .int v25, .int v26])), (a18, .inl (cT 2, 4096, .inr (.inl f24))), (a13, .inr (2, [.ref a14, .int o11.2.2.1, .int o11.2.2.2])), (a14, .inl (cT 2, 4096, .inr (.inl o11.2.1)))]) hP hD [13, 14, 15, 16, 17, 18] [0, 1, 2, 3, 4, 5, 6, 7, 8, 9, 10, 11, 12] 13 rfl rfl (by decide) (by decide) hk1 hFc hP1 hD1
      generalize H1 = H at hP hS ⊢
      rw [hr9]
      refine W.eq (g2 := F0 m 67 ls [.int o11.1, .ref a0]) rfl ?_
      obtain ⟨o14, hq15, hf⟩ := xbind hf
      by_cases hk16 : o14.1 = 0
      · rw [if_pos hk16] at hf
        obtain ⟨hPc, hDc, hFc⟩ := xcut (wc := [(a0, .inr (0, [.ref a1, .ref a3, .ref a5, .ref a7, .ref a8, .ref a13, .int v19, .int v20])), (a1, .inr (1, [.ref a2, .int v1, .int v2])), (a2, .inl (cT 0, 4096, .inl f0)), (a3, .inr (1, [.ref a4, .int v4, .int v5])), (a4, .inl (cT 0, 4096, .inl f3)), (a5, .inr (1, [.ref a6, .int v7, .int v8])), (a6, .inl (cT 0, 4096, .inl f6)), (a7, .inl (cT 3, 8, .inr (.inr (.inr (.inr rf0))))), (a8, .inr (3, [.ref a9, .ref a10, .ref p11, .ref p13, .int v15])), (a9, .inl (cT 1, 2048, .inl f9)), (a10, .inl (cT 1, 2048, .inl f10)), (p11, .inl (cT 1, 2048, .inl f12)), (p13, .inl (cT 1, 2048, .inl f14)), (a13, .inr (2, [.ref a14, .int o11.2.2.1, .int o11.2.2.2])), (a14, .inl (cT 2, 4096, .inr (.inl o11.2.1)))]) hP hD hS hA [0, 1, 2, 3, 4, 5, 6, 7, 8, 9, 10, 11, 12, 17, 18] rfl rfl (by decide)
        refine va_callv (va_runV (C := "ValueBench") (As := [.int o11.1]) (rest := []) ⟨hx, hb, hml, hown, htx⟩ (gB_demandDone l hl9 D cT aK aV H.size n a0 a1 a2 a3 a4 a5 a6 a7 a8 a9 a10 a13 a14 rf0 o11.1 f0 v1 v2 f3 v4 v5 f6 v7 v8 f9 f10 p11 f12 p13 f14 v15 o11.2.1 o11.2.2.1 o11.2.2.2 v19 v20 o14 hq15 hk16) ⟨callB_of 1 htx (xw_goodC kw_3_222) rfl rfl rfl (htx _ kw_1_1) (htx _ kw_3_219) ⟨by decide, by decide, by decide +kernel⟩ ⟨Nat.le_of_ble_eq_true rfl, Nat.le_of_ble_eq_true rfl⟩, (htx _ kw_3_221), (htx _ kp_B_demandDone)⟩ ⟨xPre_blind, va_recv hK hP (ci := 0) rfl (q0 := 0) rfl, (fun U hU hW => ⟨rfl, xPre_of hZ hS hFc hPc hDc hK U hU hW⟩)⟩ rfl rfl hl.1 rfl (lv_room (Nat.le_of_ble_eq_true rfl)) dB_binary_67 ⟨Nat.le_of_ble_eq_true rfl, Nat.le_of_ble_eq_true rfl⟩) hS (fun q _ h => hFc q h) hFc (fun u9 t H1 locs ht hvm hr9 hB hz1 hk1 hS => ?_)
        obtain ⟨hP1, hK1, hD1⟩ := hB
        rw [ht] at hP1
        obtain ⟨hP, hD⟩ := xjoin (W := [(a15, .inr (2, [.ref a16, .int v22, .int v23])), (a16, .inl (cT 2, 4096, .inr (.inl f21))), (a17, .inr (2, [.ref a18, .int v25, .int v26])), (a18, .inl (cT 2, 4096, .inr (.inl f24))), (a0, .inr (0, [.ref a1, .ref a3, .ref a5, .ref a7, .ref a8, .ref a13, .int v19, .int o14.2])), (a1, .inr (1, [.ref a2, .int v1, .int v2])), (a2, .inl (cT 0, 4096, .inl f0)), (a3, .inr (1, [.ref a4, .int v4, .int v5])), (a4, .inl (cT 0, 4096, .inl f3)), (a5, .inr (1, [.ref a6, .int v7, .int v8])), (a6, .inl (cT 0, 4096, .inl f6)), (a7, .inl (cT 3, 8, .inr (.inr (.inr (.inr rf0))))), (a8, .inr (3, [.ref a9, .ref a10, .ref p11, .ref p13, .int v15])), (a9, .inl (cT 1, 2048, .inl f9)), (a10, .inl (cT 1, 2048, .inl f10)), (p11, .inl (cT 1, 2048, .inl f12)), (p13, .inl (cT 1, 2048, .inl f14)), (a13, .inr (2, [.ref a14, .int o11.2.2.1, .int o11.2.2.2])), (a14, .inl (cT 2, 4096, .inr (.inl o11.2.1)))]) hP hD [0, 1, 2, 3, 4, 5, 6, 7, 8, 9, 10, 11, 12, 17, 18] [13, 14, 15, 16] 4 rfl rfl (by decide) (by decide) hk1 hFc hP1 hD1
        generalize H1 = H at hP hS ⊢
        refine lv_aload_n hx hb dB_binary_70 rfl (lv_at hl 0 rfl) ?_
        refine lv_iload_n hx hb dB_binary_71 rfl (lv_at hl 1 rfl) ?_
        obtain ⟨o17, hq18, hf⟩ := xbind hf
        by_cases hk19 : o17.1 = 0
        · rw [if_pos hk19] at hf
          obtain ⟨hPc, hDc, hFc⟩ := xcut (wc := [(a0, .inr (0, [.ref a1, .ref a3, .ref a5, .ref a7, .ref a8, .ref a13, .int v19, .int o14.2])), (a1, .inr (1, [.ref a2, .int v1, .int v2])), (a2, .inl (cT 0, 4096, .inl f0)), (a3, .inr (1, [.ref a4, .int v4, .int v5])), (a4, .inl (cT 0, 4096, .inl f3)), (a5, .inr (1, [.ref a6, .int v7, .int v8])), (a6, .inl (cT 0, 4096, .inl f6)), (a7, .inl (cT 3, 8, .inr (.inr (.inr (.inr rf0))))), (a8, .inr (3, [.ref a9, .ref a10, .ref p11, .ref p13, .int v15])), (a9, .inl (cT 1, 2048, .inl f9)), (a10, .inl (cT 1, 2048, .inl f10)), (p11, .inl (cT 1, 2048, .inl f12)), (p13, .inl (cT 1, 2048, .inl f14)), (a13, .inr (2, [.ref a14, .int o11.2.2.1, .int o11.2.2.2])), (a14, .inl (cT 2, 4096, .inr (.inl o11.2.1)))]) hP hD hS hA [4, 5, 6, 7, 8, 9, 10, 11, 12, 13, 14, 15, 16, 17, 18] rfl rfl (by decide)
          refine va_calli (va_runV (C := "ValueBench") (As := [.int x1]) (rest := []) ⟨hx, hb, hml, hown, htx⟩ (gB_keepSpare l hl9 D cT aK aV H.size d n a0 a1 a2 a3 a4 a5 a6 a7 a8 a9 a10 a13 a14 rf0 b1 x1 f0 v1 v2 f3 v4 v5 f6 v7 v8 f9 f10 p11 f12 p13 f14 v15 o11.2.1 o11.2.2.1 o11.2.2.2 v19 o14.2 hr1 o17 hq18 hk19) ⟨callB_of 1 htx (xw_goodC kw_3_17) rfl rfl rfl (htx _ kw_1_1) (htx _ kw_3_14) ⟨by decide, by decide, by decide +kernel⟩ ⟨(by show (16 * d + 6) + 1 ≤ 16 * d + 7; omega), (by show 8 + (3 + 11) + (400 * d + 100) ≤ 400 * d + 180; omega)⟩, (htx _ kw_3_16), (htx _ kp_B_keepSpare)⟩ ⟨xPre_blind, va_recv hK hP (ci := 0) rfl (q0 := 4) rfl, (fun U hU hW => ⟨rfl, xPre_of hZ hS hFc hPc hDc hK U hU hW⟩)⟩ rfl rfl hl.1 rfl (lv_room (Nat.le_of_ble_eq_true rfl)) dB_binary_72 ⟨Nat.le_of_ble_eq_true rfl, Nat.le_of_ble_eq_true rfl⟩) hS (fun q _ h => hFc q h) hFc (fun r20 u9 t H1 locs ht hvm hr9 hB hz1 hk1 hS => ?_)
          obtain ⟨hP1, hK1, hD1⟩ := hB
          rw [ht] at hP1
          obtain ⟨hP, hD⟩ := xjoin (W := [(a15, .inr (2, [.ref a16, .int v22, .int v23])), (a16, .inl (cT 2, 4096, .inr (.inl f21))), (a17, .inr (2, [.ref a18, .int v25, .int v26])), (a18, .inl (cT 2, 4096, .inr (.inl f24))), (a0, .inr (0, [.ref a1, .ref a3, .ref a5, .ref a7, .ref a8, .ref b1, .int v19, .int o14.2])), (a1, .inr (1, [.ref a2, .int v1, .int v2])), (a2, .inl (cT 0, 4096, .inl f0)), (a3, .inr (1, [.ref a4, .int v4, .int v5])), (a4, .inl (cT 0, 4096, .inl f3)), (a5, .inr (1, [.ref a6, .int o17.2.2.2.1, .int o17.2.2.2.2])), (a6, .inl (cT 0, 4096, .inl o17.2.2.1)), (a7, .inl (cT 3, 8, .inr (.inr (.inr (.inr (va_up rf0 x1.toNatClampNeg (some a13))))))), (a8, .inr (3, [.ref a9, .ref a10, .ref p11, .ref p13, .int v15])), (a9, .inl (cT 1, 2048, .inl f9)), (a10, .inl (cT 1, 2048, .inl f10)), (p11, .inl (cT 1, 2048, .inl f12)), (p13, .inl (cT 1, 2048, .inl f14)), (a13, .inr (2, [.ref a14, .int o11.2.2.1, .int o11.2.2.2])), (a14, .inl (cT 2, 4096, .inr (.inl o11.2.1)))]) hP hD [4, 5, 6, 7, 8, 9, 10, 11, 12, 13, 14, 15, 16, 17, 18] [0, 1, 2, 3] 4 rfl rfl (by decide) (by decide) hk1 hFc hP1 hD1
          generalize H1 = H at hP hS ⊢
          rw [hr9]
          refine W.eq (g2 := F0 m 75 ls [.int o17.2.1]) rfl ?_
          refine lv_pop hx hb dB_binary_75 rfl ?_
          obtain rfl := Option.some.inj hf
          exact absurd (show (0 : Nat) = 1 from hkd) (by decide)
        rw [if_neg hk19] at hf
        by_cases hk21 : o17.1 = 1
        · rw [if_pos hk21] at hf
          obtain ⟨hPc, hDc, hFc⟩ := xcut (wc := [(a0, .inr (0, [.ref a1, .ref a3, .ref a5, .ref a7, .ref a8, .ref a13, .int v19, .int o14.2])), (a1, .inr (1, [.ref a2, .int v1, .int v2])), (a2, .inl (cT 0, 4096, .inl f0)), (a3, .inr (1, [.ref a4, .int v4, .int v5])), (a4, .inl (cT 0, 4096, .inl f3)), (a5, .inr (1, [.ref a6, .int v7, .int v8])), (a6, .inl (cT 0, 4096, .inl f6)), (a7, .inl (cT 3, 8, .inr (.inr (.inr (.inr rf0))))), (a8, .inr (3, [.ref a9, .ref a10, .ref p11, .ref p13, .int v15])), (a9, .inl (cT 1, 2048, .inl f9)), (a10, .inl (cT 1, 2048, .inl f10)), (p11, .inl (cT 1, 2048, .inl f12)), (p13, .inl (cT 1, 2048, .inl f14)), (a13, .inr (2, [.ref a14, .int o11.2.2.1, .int o11.2.2.2])), (a14, .inl (cT 2, 4096, .inr (.inl o11.2.1)))]) hP hD hS hA [4, 5, 6, 7, 8, 9, 10, 11, 12, 13, 14, 15, 16, 17, 18] rfl rfl (by decide)
          refine xx_thr (vx_runV (C := "ValueBench") (As := [.int x1]) (rest := []) ⟨hx, hb, hml, hown, htx⟩ (gB_keepSpare_1 l hl9 D cT aK aV H.size d n a0 a1 a2 a3 a4 a5 a6 a7 a8 a9 a10 a13 a14 rf0 b1 x1 f0 v1 v2 f3 v4 v5 f6 v7 v8 f9 f10 p11 f12 p13 f14 v15 o11.2.1 o11.2.2.1 o11.2.2.2 v19 o14.2 hr1 o17 hq18 hk21) ⟨callB_of 1 htx (xw_goodC kw_3_17) rfl rfl rfl (htx _ kw_1_1) (htx _ kw_3_14) ⟨by decide, by decide, by decide +kernel⟩ ⟨(by show (16 * d + 6) + 1 ≤ 16 * d + 7; omega), (by show 8 + (3 + 11) + (400 * d + 100) ≤ 400 * d + 180; omega)⟩, (htx _ kw_3_16), (htx _ kp_B_keepSpare)⟩ ⟨xPre_blind, va_recv hK hP (ci := 0) rfl (q0 := 4) rfl, (fun U hU hW => ⟨rfl, xPre_of hZ hS hFc hPc hDc hK U hU hW⟩)⟩ rfl rfl hl.1 rfl (lv_room (Nat.le_of_ble_eq_true rfl)) dB_binary_72 ⟨Nat.le_of_ble_eq_true rfl, Nat.le_of_ble_eq_true rfl⟩) hS hFc (fun q _ h => hFc q h) (fun E ce q9 u9 t H1 locs ht hvm _ hB hz1 hk1 hS hce hcv hcl => ?_)
          obtain ⟨rfl, hP1, hK1, hD1⟩ := hB
          rw [ht] at hP1
          obtain ⟨hP, hD⟩ := xjoin (W := [(a15, .inr (2, [.ref a16, .int v22, .int v23])), (a16, .inl (cT 2, 4096, .inr (.inl f21))), (a17, .inr (2, [.ref a18, .int v25, .int v26])), (a18, .inl (cT 2, 4096, .inr (.inl f24))), (a0, .inr (0, [.ref a1, .ref a3, .ref a5, .ref a7, .ref a8, .ref a13, .int v19, .int o14.2])), (a1, .inr (1, [.ref a2, .int v1, .int v2])), (a2, .inl (cT 0, 4096, .inl f0)), (a3, .inr (1, [.ref a4, .int v4, .int v5])), (a4, .inl (cT 0, 4096, .inl f3)), (a5, .inr (1, [.ref a6, .int o17.2.2.2.1, .int o17.2.2.2.2])), (a6, .inl (cT 0, 4096, .inl o17.2.2.1)), (a7, .inl (cT 3, 8, .inr (.inr (.inr (.inr rf0))))), (a8, .inr (3, [.ref a9, .ref a10, .ref p11, .ref p13, .int v15])), (a9, .inl (cT 1, 2048, .inl f9)), (a10, .inl (cT 1, 2048, .inl f10)), (p11, .inl (cT 1, 2048, .inl f12)), (p13, .inl (cT 1, 2048, .inl f14)), (a13, .inr (2, [.ref a14, .int o11.2.2.1, .int o11.2.2.2])), (a14, .inl (cT 2, 4096, .inr (.inl o11.2.1)))]) hP hD [4, 5, 6, 7, 8, 9, 10, 11, 12, 13, 14, 15, 16, 17, 18] [0, 1, 2, 3] 4 rfl rfl (by decide) (by decide) hk1 hFc hP1 hD1
          generalize H1 = H at hP hS hce ⊢
          obtain rfl := Option.some.inj hf
          obtain ⟨hP9, hD9⟩ := xsub (wc := [(a0, .inr (0, [.ref a1, .ref a3, .ref a5, .ref a7, .ref a8, .ref a13, .int v19, .int o14.2])), (a1, .inr (1, [.ref a2, .int v1, .int v2])), (a2, .inl (cT 0, 4096, .inl f0)), (a3, .inr (1, [.ref a4, .int v4, .int v5])), (a4, .inl (cT 0, 4096, .inl f3)), (a5, .inr (1, [.ref a6, .int o17.2.2.2.1, .int o17.2.2.2.2])), (a6, .inl (cT 0, 4096, .inl o17.2.2.1)), (a7, .inl (cT 3, 8, .inr (.inr (.inr (.inr rf0))))), (a8, .inr (3, [.ref a9, .ref a10, .ref p11, .ref p13, .int v15])), (a9, .inl (cT 1, 2048, .inl f9)), (a10, .inl (cT 1, 2048, .inl f10)), (p11, .inl (cT 1, 2048, .inl f12)), (p13, .inl (cT 1, 2048, .inl f14)), (a13, .inr (2, [.ref a14, .int o11.2.2.1, .int o11.2.2.2])), (a14, .inl (cT 2, 4096, .inr (.inl o11.2.1))), (a15, .inr (2, [.ref a16, .int v22, .int v23])), (a16, .inl (cT 2, 4096, .inr (.inl f21))), (a17, .inr (2, [.ref a18, .int v25, .int v26])), (a18, .inl (cT 2, 4096, .inr (.inl f24)))]) hP hD [4, 5, 6, 7, 8, 9, 10, 11, 12, 13, 14, 15, 16, 17, 18, 0, 1, 2, 3] rfl rfl (by decide)
          exact vx_out (E := "java/lang/IndexOutOfBoundsException") (fun x h => (hne x h).elim) hlocks hce hcv hcl (fun t ht ha => ⟨(), trivial, ⟨rfl, by rw [ht]; exact hP9, va_K.moved ha hK, hD9⟩, hS.F ht⟩) hS.2.2 (Nat.le_of_ble_eq_true rfl) (Nat.le_of_ble_eq_true rfl)
        rw [if_neg hk21] at hf
        exact nomatch hf
      rw [if_neg hk16] at hf
      by_cases hk23 : o14.1 = 1
      · rw [if_pos hk23] at hf
        obtain rfl := Option.some.inj hf
        exact absurd (show (2 : Nat) = 1 from hkd) (by decide)
      rw [if_neg hk23] at hf
      exact nomatch hf
    rw [if_neg hk6] at hf
    by_cases hk24 : o4 = 1
    · rw [if_pos hk24] at hf
      obtain rfl := Option.some.inj hf
      exact absurd (show (3 : Nat) = 1 from hkd) (by decide)
    rw [if_neg hk24] at hf
    exact nomatch hf
  · rw [if_neg hc] at hf
    refine lv_iload_n hx hb dB_binary_7 rfl (lv_at hl 2 rfl) ?_
    refine lv_iconst (v := 4) hx hb dB_binary_8 (by decide) ?_
    obtain ⟨o4, hq5, hf⟩ := xbind hf
    obtain ⟨hPc, hDc, hFc⟩ := xcut (wc := []) hP hD hS hA [] rfl rfl (by decide)
    refine va_calli (va_runS (As := [.int x2, .int 4]) (rest := []) ⟨hx, hb, hml, hown, htx⟩ (gB_isWithin l hl9 D cT aK aV H.size n x2 (4 : Int32) o4 hq5) ⟨callB_of 2 htx (xw_goodC kw_1_218) rfl rfl rfl (htx _ kw_1_1) (htx _ kw_1_216) ⟨by decide, by decide, by decide +kernel⟩ ⟨Nat.le_of_ble_eq_true rfl, Nat.le_of_ble_eq_true rfl⟩, htx _ kw_1_217⟩ ⟨xPre_blind, (fun U hU hW => ⟨rfl, xPre_of hZ hS hFc hPc hDc hK U hU hW⟩)⟩ rfl rfl hl.1 rfl (lv_room (Nat.le_of_ble_eq_true rfl)) dB_binary_9 ⟨Nat.le_of_ble_eq_true rfl, Nat.le_of_ble_eq_true rfl⟩) hS (fun q _ h => hFc q h) hFc (fun r6 u9 t H1 locs ht hvm hr9 hB hz1 hk1 hS => ?_)
    obtain ⟨hP1, hK1, hD1⟩ := hB
    rw [ht] at hP1
    obtain ⟨hP, hD⟩ := xjoin (W := [(a0, .inr (0, [.ref a1, .ref a3, .ref a5, .ref a7, .ref a8, .ref a13, .int v19, .int v20])), (a1, .inr (1, [.ref a2, .int v1, .int v2])), (a2, .inl (cT 0, 4096, .inl f0)), (a3, .inr (1, [.ref a4, .int v4, .int v5])), (a4, .inl (cT 0, 4096, .inl f3)), (a5, .inr (1, [.ref a6, .int v7, .int v8])), (a6, .inl (cT 0, 4096, .inl f6)), (a7, .inl (cT 3, 8, .inr (.inr (.inr (.inr rf0))))), (a8, .inr (3, [.ref a9, .ref a10, .ref p11, .ref p13, .int v15])), (a9, .inl (cT 1, 2048, .inl f9)), (a10, .inl (cT 1, 2048, .inl f10)), (p11, .inl (cT 1, 2048, .inl f12)), (p13, .inl (cT 1, 2048, .inl f14)), (a13, .inr (2, [.ref a14, .int v17, .int v18])), (a14, .inl (cT 2, 4096, .inr (.inl f16))), (a15, .inr (2, [.ref a16, .int v22, .int v23])), (a16, .inl (cT 2, 4096, .inr (.inl f21))), (a17, .inr (2, [.ref a18, .int v25, .int v26])), (a18, .inl (cT 2, 4096, .inr (.inl f24)))]) hP hD [] [0, 1, 2, 3, 4, 5, 6, 7, 8, 9, 10, 11, 12, 13, 14, 15, 16, 17, 18] 19 rfl rfl (by decide) (by decide) hk1 hFc hP1 hD1
    generalize H1 = H at hP hS ⊢
    rw [hr9]
    refine W.eq (g2 := F0 m 12 ls [.int o4]) rfl ?_
    refine lv_if_eq (tgt := 34) hx hb dB_binary_12 (by decide) (fun hc => ?_) (fun hc => ?_)
    · rw [if_pos hc] at hf
      refine lv_iconst (v := 0) hx hb dB_binary_34 (by decide) ?_
      obtain ⟨o7, hq8, hf⟩ := xbind hf
      by_cases hk9 : o7 = 0
      · rw [if_pos hk9] at hf
        obtain ⟨hPc, hDc, hFc⟩ := xcut (wc := []) hP hD hS hA [] rfl rfl (by decide)
        refine va_callv (va_runS (As := [.int 0]) (rest := []) ⟨hx, hb, hml, hown, htx⟩ (gB_demand l hl9 D cT aK aV H.size n (0 : Int32) o7 hq8 hk9) ⟨callB_of 1 htx (xw_goodC kw_1_221) rfl rfl rfl (htx _ kw_1_1) (htx _ kw_1_219) ⟨by decide, by decide, by decide +kernel⟩ ⟨Nat.le_of_ble_eq_true rfl, Nat.le_of_ble_eq_true rfl⟩, htx _ kw_1_220⟩ ⟨xPre_blind, (fun U hU hW => ⟨rfl, xPre_of hZ hS hFc hPc hDc hK U hU hW⟩)⟩ rfl rfl hl.1 rfl (lv_room (Nat.le_of_ble_eq_true rfl)) dB_binary_35 ⟨Nat.le_of_ble_eq_true rfl, Nat.le_of_ble_eq_true rfl⟩) hS (fun q _ h => hFc q h) hFc (fun u9 t H1 locs ht hvm hr9 hB hz1 hk1 hS => ?_)
        obtain ⟨hP1, hK1, hD1⟩ := hB
        rw [ht] at hP1
        obtain ⟨hP, hD⟩ := xjoin (W := [(a0, .inr (0, [.ref a1, .ref a3, .ref a5, .ref a7, .ref a8, .ref a13, .int v19, .int v20])), (a1, .inr (1, [.ref a2, .int v1, .int v2])), (a2, .inl (cT 0, 4096, .inl f0)), (a3, .inr (1, [.ref a4, .int v4, .int v5])), (a4, .inl (cT 0, 4096, .inl f3)), (a5, .inr (1, [.ref a6, .int v7, .int v8])), (a6, .inl (cT 0, 4096, .inl f6)), (a7, .inl (cT 3, 8, .inr (.inr (.inr (.inr rf0))))), (a8, .inr (3, [.ref a9, .ref a10, .ref p11, .ref p13, .int v15])), (a9, .inl (cT 1, 2048, .inl f9)), (a10, .inl (cT 1, 2048, .inl f10)), (p11, .inl (cT 1, 2048, .inl f12)), (p13, .inl (cT 1, 2048, .inl f14)), (a13, .inr (2, [.ref a14, .int v17, .int v18])), (a14, .inl (cT 2, 4096, .inr (.inl f16))), (a15, .inr (2, [.ref a16, .int v22, .int v23])), (a16, .inl (cT 2, 4096, .inr (.inl f21))), (a17, .inr (2, [.ref a18, .int v25, .int v26])), (a18, .inl (cT 2, 4096, .inr (.inl f24)))]) hP hD [] [0, 1, 2, 3, 4, 5, 6, 7, 8, 9, 10, 11, 12, 13, 14, 15, 16, 17, 18] 19 rfl rfl (by decide) (by decide) hk1 hFc hP1 hD1
        generalize H1 = H at hP hS ⊢
        refine lv_aload_n hx hb dB_binary_38 rfl (lv_at hl 0 rfl) ?_
        refine va_get (D := D) (ci := 0) (v := .ref a13) (C := "ValueBench") (T := TB) (N := 8) hx hb htx inB hown hK hP 0 rfl rfl 5 (by decide) (htx _ kw_1_100) (fun _ h9 => h9) rfl dB_binary_39 ?_
        obtain ⟨o10, hq11, hf⟩ := xbind hf
        obtain ⟨hPc, hDc, hFc⟩ := xcut (wc := [(a13, .inr (2, [.ref a14, .int v17, .int v18])), (a14, .inl (cT 2, 4096, .inr (.inl f16)))]) hP hD hS hA [13, 14] rfl rfl (by decide)
        refine va_callv (va_runV (C := "ValueBench$Row") (As := []) (rest := []) ⟨hx, hb, hml, hown, htx⟩ (gR_clear l hl9 D cT aK aV H.size n a13 a14 f16 v17 v18 o10 hq11) ⟨callB_of 0 htx (xw_goodC kw_2_22) rfl rfl rfl (htx _ kw_1_4) (htx _ kw_2_19) ⟨by decide, by decide, by decide +kernel⟩ ⟨Nat.le_of_ble_eq_true rfl, Nat.le_of_ble_eq_true rfl⟩, (htx _ kw_2_20), (htx _ kw_2_21)⟩ ⟨xPre_blind, va_recv hK hP (ci := 2) rfl (q0 := 13) rfl, (fun U hU hW => ⟨rfl, xPre_of hZ hS hFc hPc hDc hK U hU hW⟩)⟩ rfl rfl hl.1 rfl (lv_room (Nat.le_of_ble_eq_true rfl)) dB_binary_42 ⟨Nat.le_of_ble_eq_true rfl, Nat.le_of_ble_eq_true rfl⟩) hS (fun q _ h => hFc q h) hFc (fun u9 t H1 locs ht hvm hr9 hB hz1 hk1 hS => ?_)
        obtain ⟨hP1, hK1, hD1⟩ := hB
        rw [ht] at hP1
        obtain ⟨hP, hD⟩ := xjoin (W := [(a0, .inr (0, [.ref a1, .ref a3, .ref a5, .ref a7, .ref a8, .ref a13, .int v19, .int v20])), (a1, .inr (1, [.ref a2, .int v1, .int v2])), (a2, .inl (cT 0, 4096, .inl f0)), (a3, .inr (1, [.ref a4, .int v4, .int v5])), (a4, .inl (cT 0, 4096, .inl f3)), (a5, .inr (1, [.ref a6, .int v7, .int v8])), (a6, .inl (cT 0, 4096, .inl f6)), (a7, .inl (cT 3, 8, .inr (.inr (.inr (.inr rf0))))), (a8, .inr (3, [.ref a9, .ref a10, .ref p11, .ref p13, .int v15])), (a9, .inl (cT 1, 2048, .inl f9)), (a10, .inl (cT 1, 2048, .inl f10)), (p11, .inl (cT 1, 2048, .inl f12)), (p13, .inl (cT 1, 2048, .inl f14)), (a15, .inr (2, [.ref a16, .int v22, .int v23])), (a16, .inl (cT 2, 4096, .inr (.inl f21))), (a17, .inr (2, [.ref a18, .int v25, .int v26])), (a18, .inl (cT 2, 4096, .inr (.inl f24))), (a13, .inr (2, [.ref a14, .int o10.1, .int o10.2])), (a14, .inl (cT 2, 4096, .inr (.inl f16)))]) hP hD [13, 14] [0, 1, 2, 3, 4, 5, 6, 7, 8, 9, 10, 11, 12, 15, 16, 17, 18] 17 rfl rfl (by decide) (by decide) hk1 hFc hP1 hD1
        generalize H1 = H at hP hS ⊢
        refine lv_aload_n hx hb dB_binary_45 rfl (lv_at hl 0 rfl) ?_
        refine lv_iload_n hx hb dB_binary_46 rfl (lv_at hl 2 rfl) ?_
        refine lv_aload_n hx hb dB_binary_47 rfl (lv_at hl 0 rfl) ?_
        refine va_get (D := D) (ci := 0) (v := .ref a7) (C := "ValueBench") (T := TB) (N := 8) hx hb htx inB hown hK hP 0 rfl rfl 3 (by decide) (htx _ kw_1_98) (fun _ h9 => h9) rfl dB_binary_48 ?_
        refine lv_iload_n hx hb dB_binary_51 rfl (lv_at hl 3 rfl) ?_
        obtain ⟨hg12, hf⟩ := xifn hf
        refine va_aldq hx hb hK hP 7 3 rfl rfl hg12 dB_binary_52 ?_
        refine W.eq (g2 := F0 m 53 ls [va_rf (rf0 x3.toNatClampNeg), .int x2, .ref a0]) rfl ?_
        rw [hr3 hg12]
        refine W.eq (g2 := F0 m 53 ls [.ref a15, .int x2, .ref a0]) rfl ?_
        refine lv_aload_n hx hb dB_binary_53 rfl (lv_at hl 0 rfl) ?_
        refine va_get (D := D) (ci := 0) (v := .ref a7) (C := "ValueBench") (T := TB) (N := 8) hx hb htx inB hown hK hP 0 rfl rfl 3 (by decide) (htx _ kw_1_98) (fun _ h9 => h9) rfl dB_binary_54 ?_
        refine lv_iload hx hb dB_binary_57 (lv_at hl 4 rfl) ?_
        obtain ⟨hg13, hf⟩ := xifn hf
        refine va_aldq hx hb hK hP 7 3 rfl rfl hg13 dB_binary_59 ?_
        refine W.eq (g2 := F0 m 60 ls [va_rf (rf0 x4.toNatClampNeg), .ref a15, .int x2, .ref a0]) rfl ?_
        rw [hr4 hg13]
        refine W.eq (g2 := F0 m 60 ls [.ref a17, .ref a15, .int x2, .ref a0]) rfl ?_
        refine lv_aload_n hx hb dB_binary_60 rfl (lv_at hl 0 rfl) ?_
        refine va_get (D := D) (ci := 0) (v := .ref a13) (C := "ValueBench") (T := TB) (N := 8) hx hb htx inB hown hK hP 0 rfl rfl 5 (by decide) (htx _ kw_1_100) (fun _ h9 => h9) rfl dB_binary_61 ?_
        obtain ⟨o14, hq15, hf⟩ := xbind hf
        obtain ⟨hPc, hDc, hFc⟩ := xcut (wc := [(a15, .inr (2, [.ref a16, .int v22, .int v23])), (a16, .inl (cT 2, 4096, .inr (.inl f21))), (a17, .inr (2, [.ref a18, .int v25, .int v26])), (a18, .inl (cT 2, 4096, .inr (.inl f24))), (a13, .inr (2, [.ref a14, .int o10.1, .int o10.2])), (a14, .inl (cT 2, 4096, .inr (.inl f16)))]) hP hD hS hA [13, 14, 15, 16, 17, 18] rfl rfl (by decide)
        refine va_calli (va_runS (As := [.int x2, .ref a15, .ref a17, .ref a13]) (rest := [.ref a0]) ⟨hx, hb, hml, hown, htx⟩ (gA_apply l hl9 D cT aK aV H.size d n a15 a16 a17 a18 a13 a14 x2 f21 v22 v23 f24 v25 v26 f16 o10.1 o10.2 o14 hq15) ⟨callB_of 4 htx (xw_goodC kw_3_105) rfl rfl rfl (htx _ kw_1_21) (htx _ kw_3_103) ⟨by decide, by decide, by decide +kernel⟩ ⟨(by show (16 * d + 5) + 1 ≤ 16 * d + 7; omega), (by show 8 + (4 + 11) + (400 * d + 157) ≤ 400 * d + 180; omega)⟩, htx _ kw_3_104⟩ ⟨xPre_blind, (fun U hU hW => ⟨rfl, xPre_of hZ hS hFc hPc hDc hK U hU hW⟩)⟩ rfl rfl hl.1 rfl (lv_room (Nat.le_of_ble_eq_true rfl)) dB_binary_64 ⟨Nat.le_of_ble_eq_true rfl, Nat.le_of_ble_eq_true rfl⟩) hS (fun q _ h => hFc q h) hFc (fun r16 u9 t H1 locs ht hvm hr9 hB hz1 hk1 hS => ?_)
        obtain ⟨hP1, hK1, hD1⟩ := hB
        rw [ht] at hP1
        obtain ⟨hP, hD⟩ := xjoin (W := [(a0, .inr (0, [.ref a1, .ref a3, .ref a5, .ref a7, .ref a8, .ref a13, .int v19, .int v20])), (a1, .inr (1, [.ref a2, .int v1, .int v2])), (a2, .inl (cT 0, 4096, .inl f0)), (a3, .inr (1, [.ref a4, .int v4, .int v5])), (a4, .inl (cT 0, 4096, .inl f3)), (a5, .inr (1, [.ref a6, .int v7, .int v8])), (a6, .inl (cT 0, 4096, .inl f6)), (a7, .inl (cT 3, 8, .inr (.inr (.inr (.inr rf0))))), (a8, .inr (3, [.ref a9, .ref a10, .ref p11, .ref p13, .int v15])), (a9, .inl (cT 1, 2048, .inl f9)), (a10, .inl (cT 1, 2048, .inl f10)), (p11, .inl (cT 1, 2048, .inl f12)), (p13, .inl (cT 1, 2048, .inl f14)), (a15, .inr (2, [.ref a16, .int v22, .int v23])), (a16, .inl (cT 2, 4096, .inr (.inl f21))), (a17, .inr (2, [.ref a18, .int v25, .int v26])), (a18, .inl (cT 2, 4096, .inr (.inl f24))), (a13, .inr (2, [.ref a14, .int o14.2.2.1, .int o14.2.2.2])), (a14, .inl (cT 2, 4096, .inr (.inl o14.2.1)))]) hP hD [13, 14, 15, 16, 17, 18] [0, 1, 2, 3, 4, 5, 6, 7, 8, 9, 10, 11, 12] 13 rfl rfl (by decide) (by decide) hk1 hFc hP1 hD1
        generalize H1 = H at hP hS ⊢
        rw [hr9]
        refine W.eq (g2 := F0 m 67 ls [.int o14.1, .ref a0]) rfl ?_
        obtain ⟨o17, hq18, hf⟩ := xbind hf
        by_cases hk19 : o17.1 = 0
        · rw [if_pos hk19] at hf
          obtain ⟨hPc, hDc, hFc⟩ := xcut (wc := [(a0, .inr (0, [.ref a1, .ref a3, .ref a5, .ref a7, .ref a8, .ref a13, .int v19, .int v20])), (a1, .inr (1, [.ref a2, .int v1, .int v2])), (a2, .inl (cT 0, 4096, .inl f0)), (a3, .inr (1, [.ref a4, .int v4, .int v5])), (a4, .inl (cT 0, 4096, .inl f3)), (a5, .inr (1, [.ref a6, .int v7, .int v8])), (a6, .inl (cT 0, 4096, .inl f6)), (a7, .inl (cT 3, 8, .inr (.inr (.inr (.inr rf0))))), (a8, .inr (3, [.ref a9, .ref a10, .ref p11, .ref p13, .int v15])), (a9, .inl (cT 1, 2048, .inl f9)), (a10, .inl (cT 1, 2048, .inl f10)), (p11, .inl (cT 1, 2048, .inl f12)), (p13, .inl (cT 1, 2048, .inl f14)), (a13, .inr (2, [.ref a14, .int o14.2.2.1, .int o14.2.2.2])), (a14, .inl (cT 2, 4096, .inr (.inl o14.2.1)))]) hP hD hS hA [0, 1, 2, 3, 4, 5, 6, 7, 8, 9, 10, 11, 12, 17, 18] rfl rfl (by decide)
          refine va_callv (va_runV (C := "ValueBench") (As := [.int o14.1]) (rest := []) ⟨hx, hb, hml, hown, htx⟩ (gB_demandDone l hl9 D cT aK aV H.size n a0 a1 a2 a3 a4 a5 a6 a7 a8 a9 a10 a13 a14 rf0 o14.1 f0 v1 v2 f3 v4 v5 f6 v7 v8 f9 f10 p11 f12 p13 f14 v15 o14.2.1 o14.2.2.1 o14.2.2.2 v19 v20 o17 hq18 hk19) ⟨callB_of 1 htx (xw_goodC kw_3_222) rfl rfl rfl (htx _ kw_1_1) (htx _ kw_3_219) ⟨by decide, by decide, by decide +kernel⟩ ⟨Nat.le_of_ble_eq_true rfl, Nat.le_of_ble_eq_true rfl⟩, (htx _ kw_3_221), (htx _ kp_B_demandDone)⟩ ⟨xPre_blind, va_recv hK hP (ci := 0) rfl (q0 := 0) rfl, (fun U hU hW => ⟨rfl, xPre_of hZ hS hFc hPc hDc hK U hU hW⟩)⟩ rfl rfl hl.1 rfl (lv_room (Nat.le_of_ble_eq_true rfl)) dB_binary_67 ⟨Nat.le_of_ble_eq_true rfl, Nat.le_of_ble_eq_true rfl⟩) hS (fun q _ h => hFc q h) hFc (fun u9 t H1 locs ht hvm hr9 hB hz1 hk1 hS => ?_)
          obtain ⟨hP1, hK1, hD1⟩ := hB
          rw [ht] at hP1
          obtain ⟨hP, hD⟩ := xjoin (W := [(a15, .inr (2, [.ref a16, .int v22, .int v23])), (a16, .inl (cT 2, 4096, .inr (.inl f21))), (a17, .inr (2, [.ref a18, .int v25, .int v26])), (a18, .inl (cT 2, 4096, .inr (.inl f24))), (a0, .inr (0, [.ref a1, .ref a3, .ref a5, .ref a7, .ref a8, .ref a13, .int v19, .int o17.2])), (a1, .inr (1, [.ref a2, .int v1, .int v2])), (a2, .inl (cT 0, 4096, .inl f0)), (a3, .inr (1, [.ref a4, .int v4, .int v5])), (a4, .inl (cT 0, 4096, .inl f3)), (a5, .inr (1, [.ref a6, .int v7, .int v8])), (a6, .inl (cT 0, 4096, .inl f6)), (a7, .inl (cT 3, 8, .inr (.inr (.inr (.inr rf0))))), (a8, .inr (3, [.ref a9, .ref a10, .ref p11, .ref p13, .int v15])), (a9, .inl (cT 1, 2048, .inl f9)), (a10, .inl (cT 1, 2048, .inl f10)), (p11, .inl (cT 1, 2048, .inl f12)), (p13, .inl (cT 1, 2048, .inl f14)), (a13, .inr (2, [.ref a14, .int o14.2.2.1, .int o14.2.2.2])), (a14, .inl (cT 2, 4096, .inr (.inl o14.2.1)))]) hP hD [0, 1, 2, 3, 4, 5, 6, 7, 8, 9, 10, 11, 12, 17, 18] [13, 14, 15, 16] 4 rfl rfl (by decide) (by decide) hk1 hFc hP1 hD1
          generalize H1 = H at hP hS ⊢
          refine lv_aload_n hx hb dB_binary_70 rfl (lv_at hl 0 rfl) ?_
          refine lv_iload_n hx hb dB_binary_71 rfl (lv_at hl 1 rfl) ?_
          obtain ⟨o20, hq21, hf⟩ := xbind hf
          by_cases hk22 : o20.1 = 0
          · rw [if_pos hk22] at hf
            obtain ⟨hPc, hDc, hFc⟩ := xcut (wc := [(a0, .inr (0, [.ref a1, .ref a3, .ref a5, .ref a7, .ref a8, .ref a13, .int v19, .int o17.2])), (a1, .inr (1, [.ref a2, .int v1, .int v2])), (a2, .inl (cT 0, 4096, .inl f0)), (a3, .inr (1, [.ref a4, .int v4, .int v5])), (a4, .inl (cT 0, 4096, .inl f3)), (a5, .inr (1, [.ref a6, .int v7, .int v8])), (a6, .inl (cT 0, 4096, .inl f6)), (a7, .inl (cT 3, 8, .inr (.inr (.inr (.inr rf0))))), (a8, .inr (3, [.ref a9, .ref a10, .ref p11, .ref p13, .int v15])), (a9, .inl (cT 1, 2048, .inl f9)), (a10, .inl (cT 1, 2048, .inl f10)), (p11, .inl (cT 1, 2048, .inl f12)), (p13, .inl (cT 1, 2048, .inl f14)), (a13, .inr (2, [.ref a14, .int o14.2.2.1, .int o14.2.2.2])), (a14, .inl (cT 2, 4096, .inr (.inl o14.2.1)))]) hP hD hS hA [4, 5, 6, 7, 8, 9, 10, 11, 12, 13, 14, 15, 16, 17, 18] rfl rfl (by decide)
            refine va_calli (va_runV (C := "ValueBench") (As := [.int x1]) (rest := []) ⟨hx, hb, hml, hown, htx⟩ (gB_keepSpare l hl9 D cT aK aV H.size d n a0 a1 a2 a3 a4 a5 a6 a7 a8 a9 a10 a13 a14 rf0 b1 x1 f0 v1 v2 f3 v4 v5 f6 v7 v8 f9 f10 p11 f12 p13 f14 v15 o14.2.1 o14.2.2.1 o14.2.2.2 v19 o17.2 hr1 o20 hq21 hk22) ⟨callB_of 1 htx (xw_goodC kw_3_17) rfl rfl rfl (htx _ kw_1_1) (htx _ kw_3_14) ⟨by decide, by decide, by decide +kernel⟩ ⟨(by show (16 * d + 6) + 1 ≤ 16 * d + 7; omega), (by show 8 + (3 + 11) + (400 * d + 100) ≤ 400 * d + 180; omega)⟩, (htx _ kw_3_16), (htx _ kp_B_keepSpare)⟩ ⟨xPre_blind, va_recv hK hP (ci := 0) rfl (q0 := 4) rfl, (fun U hU hW => ⟨rfl, xPre_of hZ hS hFc hPc hDc hK U hU hW⟩)⟩ rfl rfl hl.1 rfl (lv_room (Nat.le_of_ble_eq_true rfl)) dB_binary_72 ⟨Nat.le_of_ble_eq_true rfl, Nat.le_of_ble_eq_true rfl⟩) hS (fun q _ h => hFc q h) hFc (fun r23 u9 t H1 locs ht hvm hr9 hB hz1 hk1 hS => ?_)
            obtain ⟨hP1, hK1, hD1⟩ := hB
            rw [ht] at hP1
            obtain ⟨hP, hD⟩ := xjoin (W := [(a15, .inr (2, [.ref a16, .int v22, .int v23])), (a16, .inl (cT 2, 4096, .inr (.inl f21))), (a17, .inr (2, [.ref a18, .int v25, .int v26])), (a18, .inl (cT 2, 4096, .inr (.inl f24))), (a0, .inr (0, [.ref a1, .ref a3, .ref a5, .ref a7, .ref a8, .ref b1, .int v19, .int o17.2])), (a1, .inr (1, [.ref a2, .int v1, .int v2])), (a2, .inl (cT 0, 4096, .inl f0)), (a3, .inr (1, [.ref a4, .int v4, .int v5])), (a4, .inl (cT 0, 4096, .inl f3)), (a5, .inr (1, [.ref a6, .int o20.2.2.2.1, .int o20.2.2.2.2])), (a6, .inl (cT 0, 4096, .inl o20.2.2.1)), (a7, .inl (cT 3, 8, .inr (.inr (.inr (.inr (va_up rf0 x1.toNatClampNeg (some a13))))))), (a8, .inr (3, [.ref a9, .ref a10, .ref p11, .ref p13, .int v15])), (a9, .inl (cT 1, 2048, .inl f9)), (a10, .inl (cT 1, 2048, .inl f10)), (p11, .inl (cT 1, 2048, .inl f12)), (p13, .inl (cT 1, 2048, .inl f14)), (a13, .inr (2, [.ref a14, .int o14.2.2.1, .int o14.2.2.2])), (a14, .inl (cT 2, 4096, .inr (.inl o14.2.1)))]) hP hD [4, 5, 6, 7, 8, 9, 10, 11, 12, 13, 14, 15, 16, 17, 18] [0, 1, 2, 3] 4 rfl rfl (by decide) (by decide) hk1 hFc hP1 hD1
            generalize H1 = H at hP hS ⊢
            rw [hr9]
            refine W.eq (g2 := F0 m 75 ls [.int o20.2.1]) rfl ?_
            refine lv_pop hx hb dB_binary_75 rfl ?_
            obtain rfl := Option.some.inj hf
            exact absurd (show (0 : Nat) = 1 from hkd) (by decide)
          rw [if_neg hk22] at hf
          by_cases hk24 : o20.1 = 1
          · rw [if_pos hk24] at hf
            obtain ⟨hPc, hDc, hFc⟩ := xcut (wc := [(a0, .inr (0, [.ref a1, .ref a3, .ref a5, .ref a7, .ref a8, .ref a13, .int v19, .int o17.2])), (a1, .inr (1, [.ref a2, .int v1, .int v2])), (a2, .inl (cT 0, 4096, .inl f0)), (a3, .inr (1, [.ref a4, .int v4, .int v5])), (a4, .inl (cT 0, 4096, .inl f3)), (a5, .inr (1, [.ref a6, .int v7, .int v8])), (a6, .inl (cT 0, 4096, .inl f6)), (a7, .inl (cT 3, 8, .inr (.inr (.inr (.inr rf0))))), (a8, .inr (3, [.ref a9, .ref a10, .ref p11, .ref p13, .int v15])), (a9, .inl (cT 1, 2048, .inl f9)), (a10, .inl (cT 1, 2048, .inl f10)), (p11, .inl (cT 1, 2048, .inl f12)), (p13, .inl (cT 1, 2048, .inl f14)), (a13, .inr (2, [.ref a14, .int o14.2.2.1, .int o14.2.2.2])), (a14, .inl (cT 2, 4096, .inr (.inl o14.2.1)))]) hP hD hS hA [4, 5, 6, 7, 8, 9, 10, 11, 12, 13, 14, 15, 16, 17, 18] rfl rfl (by decide)
            refine xx_thr (vx_runV (C := "ValueBench") (As := [.int x1]) (rest := []) ⟨hx, hb, hml, hown, htx⟩ (gB_keepSpare_1 l hl9 D cT aK aV H.size d n a0 a1 a2 a3 a4 a5 a6 a7 a8 a9 a10 a13 a14 rf0 b1 x1 f0 v1 v2 f3 v4 v5 f6 v7 v8 f9 f10 p11 f12 p13 f14 v15 o14.2.1 o14.2.2.1 o14.2.2.2 v19 o17.2 hr1 o20 hq21 hk24) ⟨callB_of 1 htx (xw_goodC kw_3_17) rfl rfl rfl (htx _ kw_1_1) (htx _ kw_3_14) ⟨by decide, by decide, by decide +kernel⟩ ⟨(by show (16 * d + 6) + 1 ≤ 16 * d + 7; omega), (by show 8 + (3 + 11) + (400 * d + 100) ≤ 400 * d + 180; omega)⟩, (htx _ kw_3_16), (htx _ kp_B_keepSpare)⟩ ⟨xPre_blind, va_recv hK hP (ci := 0) rfl (q0 := 4) rfl, (fun U hU hW => ⟨rfl, xPre_of hZ hS hFc hPc hDc hK U hU hW⟩)⟩ rfl rfl hl.1 rfl (lv_room (Nat.le_of_ble_eq_true rfl)) dB_binary_72 ⟨Nat.le_of_ble_eq_true rfl, Nat.le_of_ble_eq_true rfl⟩) hS hFc (fun q _ h => hFc q h) (fun E ce q9 u9 t H1 locs ht hvm _ hB hz1 hk1 hS hce hcv hcl => ?_)
            obtain ⟨rfl, hP1, hK1, hD1⟩ := hB
            rw [ht] at hP1
            obtain ⟨hP, hD⟩ := xjoin (W := [(a15, .inr (2, [.ref a16, .int v22, .int v23])), (a16, .inl (cT 2, 4096, .inr (.inl f21))), (a17, .inr (2, [.ref a18, .int v25, .int v26])), (a18, .inl (cT 2, 4096, .inr (.inl f24))), (a0, .inr (0, [.ref a1, .ref a3, .ref a5, .ref a7, .ref a8, .ref a13, .int v19, .int o17.2])), (a1, .inr (1, [.ref a2, .int v1, .int v2])), (a2, .inl (cT 0, 4096, .inl f0)), (a3, .inr (1, [.ref a4, .int v4, .int v5])), (a4, .inl (cT 0, 4096, .inl f3)), (a5, .inr (1, [.ref a6, .int o20.2.2.2.1, .int o20.2.2.2.2])), (a6, .inl (cT 0, 4096, .inl o20.2.2.1)), (a7, .inl (cT 3, 8, .inr (.inr (.inr (.inr rf0))))), (a8, .inr (3, [.ref a9, .ref a10, .ref p11, .ref p13, .int v15])), (a9, .inl (cT 1, 2048, .inl f9)), (a10, .inl (cT 1, 2048, .inl f10)), (p11, .inl (cT 1, 2048, .inl f12)), (p13, .inl (cT 1, 2048, .inl f14)), (a13, .inr (2, [.ref a14, .int o14.2.2.1, .int o14.2.2.2])), (a14, .inl (cT 2, 4096, .inr (.inl o14.2.1)))]) hP hD [4, 5, 6, 7, 8, 9, 10, 11, 12, 13, 14, 15, 16, 17, 18] [0, 1, 2, 3] 4 rfl rfl (by decide) (by decide) hk1 hFc hP1 hD1
            generalize H1 = H at hP hS hce ⊢
            obtain rfl := Option.some.inj hf
            obtain ⟨hP9, hD9⟩ := xsub (wc := [(a0, .inr (0, [.ref a1, .ref a3, .ref a5, .ref a7, .ref a8, .ref a13, .int v19, .int o17.2])), (a1, .inr (1, [.ref a2, .int v1, .int v2])), (a2, .inl (cT 0, 4096, .inl f0)), (a3, .inr (1, [.ref a4, .int v4, .int v5])), (a4, .inl (cT 0, 4096, .inl f3)), (a5, .inr (1, [.ref a6, .int o20.2.2.2.1, .int o20.2.2.2.2])), (a6, .inl (cT 0, 4096, .inl o20.2.2.1)), (a7, .inl (cT 3, 8, .inr (.inr (.inr (.inr rf0))))), (a8, .inr (3, [.ref a9, .ref a10, .ref p11, .ref p13, .int v15])), (a9, .inl (cT 1, 2048, .inl f9)), (a10, .inl (cT 1, 2048, .inl f10)), (p11, .inl (cT 1, 2048, .inl f12)), (p13, .inl (cT 1, 2048, .inl f14)), (a13, .inr (2, [.ref a14, .int o14.2.2.1, .int o14.2.2.2])), (a14, .inl (cT 2, 4096, .inr (.inl o14.2.1))), (a15, .inr (2, [.ref a16, .int v22, .int v23])), (a16, .inl (cT 2, 4096, .inr (.inl f21))), (a17, .inr (2, [.ref a18, .int v25, .int v26])), (a18, .inl (cT 2, 4096, .inr (.inl f24)))]) hP hD [4, 5, 6, 7, 8, 9, 10, 11, 12, 13, 14, 15, 16, 17, 18, 0, 1, 2, 3] rfl rfl (by decide)
            exact vx_out (E := "java/lang/IndexOutOfBoundsException") (fun x h => (hne x h).elim) hlocks hce hcv hcl (fun t ht ha => ⟨(), trivial, ⟨rfl, by rw [ht]; exact hP9, va_K.moved ha hK, hD9⟩, hS.F ht⟩) hS.2.2 (Nat.le_of_ble_eq_true rfl) (Nat.le_of_ble_eq_true rfl)
          rw [if_neg hk24] at hf
          exact nomatch hf
        rw [if_neg hk19] at hf
        by_cases hk26 : o17.1 = 1
        · rw [if_pos hk26] at hf
          obtain rfl := Option.some.inj hf
          exact absurd (show (2 : Nat) = 1 from hkd) (by decide)
        rw [if_neg hk26] at hf
        exact nomatch hf
      rw [if_neg hk9] at hf
      by_cases hk27 : o7 = 1
      · rw [if_pos hk27] at hf
        obtain rfl := Option.some.inj hf
        exact absurd (show (3 : Nat) = 1 from hkd) (by decide)
      rw [if_neg hk27] at hf
      exact nomatch hf
    · rw [if_neg hc] at hf
      refine lv_iload_n hx hb dB_binary_15 rfl (lv_at hl 3 rfl) ?_
      obtain ⟨o7, hq8, hf⟩ := xbind hf
      obtain ⟨hPc, hDc, hFc⟩ := xcut (wc := []) hP hD hS hA [] rfl rfl (by decide)
      refine va_calli (va_runS (As := [.int x3]) (rest := []) ⟨hx, hb, hml, hown, htx⟩ (gB_isRegister l hl9 D cT aK aV H.size n x3 o7 hq8) ⟨callB_of 1 htx (xw_goodC kw_2_18) rfl rfl rfl (htx _ kw_1_1) (htx _ kw_2_16) ⟨by decide, by decide, by decide +kernel⟩ ⟨Nat.le_of_ble_eq_true rfl, Nat.le_of_ble_eq_true rfl⟩, htx _ kw_2_17⟩ ⟨xPre_blind, (fun U hU hW => ⟨rfl, xPre_of hZ hS hFc hPc hDc hK U hU hW⟩)⟩ rfl rfl hl.1 rfl (lv_room (Nat.le_of_ble_eq_true rfl)) dB_binary_16 ⟨Nat.le_of_ble_eq_true rfl, Nat.le_of_ble_eq_true rfl⟩) hS (fun q _ h => hFc q h) hFc (fun r9 u9 t H1 locs ht hvm hr9 hB hz1 hk1 hS => ?_)
      obtain ⟨hP1, hK1, hD1⟩ := hB
      rw [ht] at hP1
      obtain ⟨hP, hD⟩ := xjoin (W := [(a0, .inr (0, [.ref a1, .ref a3, .ref a5, .ref a7, .ref a8, .ref a13, .int v19, .int v20])), (a1, .inr (1, [.ref a2, .int v1, .int v2])), (a2, .inl (cT 0, 4096, .inl f0)), (a3, .inr (1, [.ref a4, .int v4, .int v5])), (a4, .inl (cT 0, 4096, .inl f3)), (a5, .inr (1, [.ref a6, .int v7, .int v8])), (a6, .inl (cT 0, 4096, .inl f6)), (a7, .inl (cT 3, 8, .inr (.inr (.inr (.inr rf0))))), (a8, .inr (3, [.ref a9, .ref a10, .ref p11, .ref p13, .int v15])), (a9, .inl (cT 1, 2048, .inl f9)), (a10, .inl (cT 1, 2048, .inl f10)), (p11, .inl (cT 1, 2048, .inl f12)), (p13, .inl (cT 1, 2048, .inl f14)), (a13, .inr (2, [.ref a14, .int v17, .int v18])), (a14, .inl (cT 2, 4096, .inr (.inl f16))), (a15, .inr (2, [.ref a16, .int v22, .int v23])), (a16, .inl (cT 2, 4096, .inr (.inl f21))), (a17, .inr (2, [.ref a18, .int v25, .int v26])), (a18, .inl (cT 2, 4096, .inr (.inl f24)))]) hP hD [] [0, 1, 2, 3, 4, 5, 6, 7, 8, 9, 10, 11, 12, 13, 14, 15, 16, 17, 18] 19 rfl rfl (by decide) (by decide) hk1 hFc hP1 hD1
      generalize H1 = H at hP hS ⊢
      rw [hr9]
      refine W.eq (g2 := F0 m 19 ls [.int o7]) rfl ?_
      refine lv_if_eq (tgt := 34) hx hb dB_binary_19 (by decide) (fun hc => ?_) (fun hc => ?_)
      · rw [if_pos hc] at hf
        refine lv_iconst (v := 0) hx hb dB_binary_34 (by decide) ?_
        obtain ⟨o10, hq11, hf⟩ := xbind hf
        by_cases hk12 : o10 = 0
        · rw [if_pos hk12] at hf
          obtain ⟨hPc, hDc, hFc⟩ := xcut (wc := []) hP hD hS hA [] rfl rfl (by decide)
          refine va_callv (va_runS (As := [.int 0]) (rest := []) ⟨hx, hb, hml, hown, htx⟩ (gB_demand l hl9 D cT aK aV H.size n (0 : Int32) o10 hq11 hk12) ⟨callB_of 1 htx (xw_goodC kw_1_221) rfl rfl rfl (htx _ kw_1_1) (htx _ kw_1_219) ⟨by decide, by decide, by decide +kernel⟩ ⟨Nat.le_of_ble_eq_true rfl, Nat.le_of_ble_eq_true rfl⟩, htx _ kw_1_220⟩ ⟨xPre_blind, (fun U hU hW => ⟨rfl, xPre_of hZ hS hFc hPc hDc hK U hU hW⟩)⟩ rfl rfl hl.1 rfl (lv_room (Nat.le_of_ble_eq_true rfl)) dB_binary_35 ⟨Nat.le_of_ble_eq_true rfl, Nat.le_of_ble_eq_true rfl⟩) hS (fun q _ h => hFc q h) hFc (fun u9 t H1 locs ht hvm hr9 hB hz1 hk1 hS => ?_)
          obtain ⟨hP1, hK1, hD1⟩ := hB
          rw [ht] at hP1
          obtain ⟨hP, hD⟩ := xjoin (W := [(a0, .inr (0, [.ref a1, .ref a3, .ref a5, .ref a7, .ref a8, .ref a13, .int v19, .int v20])), (a1, .inr (1, [.ref a2, .int v1, .int v2])), (a2, .inl (cT 0, 4096, .inl f0)), (a3, .inr (1, [.ref a4, .int v4, .int v5])), (a4, .inl (cT 0, 4096, .inl f3)), (a5, .inr (1, [.ref a6, .int v7, .int v8])), (a6, .inl (cT 0, 4096, .inl f6)), (a7, .inl (cT 3, 8, .inr (.inr (.inr (.inr rf0))))), (a8, .inr (3, [.ref a9, .ref a10, .ref p11, .ref p13, .int v15])), (a9, .inl (cT 1, 2048, .inl f9)), (a10, .inl (cT 1, 2048, .inl f10)), (p11, .inl (cT 1, 2048, .inl f12)), (p13, .inl (cT 1, 2048, .inl f14)), (a13, .inr (2, [.ref a14, .int v17, .int v18])), (a14, .inl (cT 2, 4096, .inr (.inl f16))), (a15, .inr (2, [.ref a16, .int v22, .int v23])), (a16, .inl (cT 2, 4096, .inr (.inl f21))), (a17, .inr (2, [.ref a18, .int v25, .int v26])), (a18, .inl (cT 2, 4096, .inr (.inl f24)))]) hP hD [] [0, 1, 2, 3, 4, 5, 6, 7, 8, 9, 10, 11, 12, 13, 14, 15, 16, 17, 18] 19 rfl rfl (by decide) (by decide) hk1 hFc hP1 hD1
          generalize H1 = H at hP hS ⊢
          refine lv_aload_n hx hb dB_binary_38 rfl (lv_at hl 0 rfl) ?_
          refine va_get (D := D) (ci := 0) (v := .ref a13) (C := "ValueBench") (T := TB) (N := 8) hx hb htx inB hown hK hP 0 rfl rfl 5 (by decide) (htx _ kw_1_100) (fun _ h9 => h9) rfl dB_binary_39 ?_
          obtain ⟨o13, hq14, hf⟩ := xbind hf
          obtain ⟨hPc, hDc, hFc⟩ := xcut (wc := [(a13, .inr (2, [.ref a14, .int v17, .int v18])), (a14, .inl (cT 2, 4096, .inr (.inl f16)))]) hP hD hS hA [13, 14] rfl rfl (by decide)
          refine va_callv (va_runV (C := "ValueBench$Row") (As := []) (rest := []) ⟨hx, hb, hml, hown, htx⟩ (gR_clear l hl9 D cT aK aV H.size n a13 a14 f16 v17 v18 o13 hq14) ⟨callB_of 0 htx (xw_goodC kw_2_22) rfl rfl rfl (htx _ kw_1_4) (htx _ kw_2_19) ⟨by decide, by decide, by decide +kernel⟩ ⟨Nat.le_of_ble_eq_true rfl, Nat.le_of_ble_eq_true rfl⟩, (htx _ kw_2_20), (htx _ kw_2_21)⟩ ⟨xPre_blind, va_recv hK hP (ci := 2) rfl (q0 := 13) rfl, (fun U hU hW => ⟨rfl, xPre_of hZ hS hFc hPc hDc hK U hU hW⟩)⟩ rfl rfl hl.1 rfl (lv_room (Nat.le_of_ble_eq_true rfl)) dB_binary_42 ⟨Nat.le_of_ble_eq_true rfl, Nat.le_of_ble_eq_true rfl⟩) hS (fun q _ h => hFc q h) hFc (fun u9 t H1 locs ht hvm hr9 hB hz1 hk1 hS => ?_)
          obtain ⟨hP1, hK1, hD1⟩ := hB
          rw [ht] at hP1
          obtain ⟨hP, hD⟩ := xjoin (W := [(a0, .inr (0, [.ref a1, .ref a3, .ref a5, .ref a7, .ref a8, .ref a13, .int v19, .int v20])), (a1, .inr (1, [.ref a2, .int v1, .int v2])), (a2, .inl (cT 0, 4096, .inl f0)), (a3, .inr (1, [.ref a4, .int v4, .int v5])), (a4, .inl (cT 0, 4096, .inl f3)), (a5, .inr (1, [.ref a6, .int v7, .int v8])), (a6, .inl (cT 0, 4096, .inl f6)), (a7, .inl (cT 3, 8, .inr (.inr (.inr (.inr rf0))))), (a8, .inr (3, [.ref a9, .ref a10, .ref p11, .ref p13, .int v15])), (a9, .inl (cT 1, 2048, .inl f9)), (a10, .inl (cT 1, 2048, .inl f10)), (p11, .inl (cT 1, 2048, .inl f12)), (p13, .inl (cT 1, 2048, .inl f14)), (a15, .inr (2, [.ref a16, .int v22, .int v23])), (a16, .inl (cT 2, 4096, .inr (.inl f21))), (a17, .inr (2, [.ref a18, .int v25, .int v26])), (a18, .inl (cT 2, 4096, .inr (.inl f24))), (a13, .inr (2, [.ref a14, .int o13.1, .int o13.2])), (a14, .inl (cT 2, 4096, .inr (.inl f16)))]) hP hD [13, 14] [0, 1, 2, 3, 4, 5, 6, 7, 8, 9, 10, 11, 12, 15, 16, 17, 18] 17 rfl rfl (by decide) (by decide) hk1 hFc hP1 hD1
          generalize H1 = H at hP hS ⊢
          refine lv_aload_n hx hb dB_binary_45 rfl (lv_at hl 0 rfl) ?_
          refine lv_iload_n hx hb dB_binary_46 rfl (lv_at hl 2 rfl) ?_
          refine lv_aload_n hx hb dB_binary_47 rfl (lv_at hl 0 rfl) ?_
          refine va_get (D := D) (ci := 0) (v := .ref a7) (C := "ValueBench") (T := TB) (N := 8) hx hb htx inB hown hK hP 0 rfl rfl 3 (by decide) (htx _ kw_1_98) (fun _ h9 => h9) rfl dB_binary_48 ?_
          refine lv_iload_n hx hb dB_binary_51 rfl (lv_at hl 3 rfl) ?_
          obtain ⟨hg15, hf⟩ := xifn hf
          refine va_aldq hx hb hK hP 7 3 rfl rfl hg15 dB_binary_52 ?_
          refine W.eq (g2 := F0 m 53 ls [va_rf (rf0 x3.toNatClampNeg), .int x2, .ref a0]) rfl ?_
          rw [hr3 hg15]
          refine W.eq (g2 := F0 m 53 ls [.ref a15, .int x2, .ref a0]) rfl ?_
          refine lv_aload_n hx hb dB_binary_53 rfl (lv_at hl 0 rfl) ?_
          refine va_get (D := D) (ci := 0) (v := .ref a7) (C := "ValueBench") (T := TB) (N := 8) hx hb htx inB hown hK hP 0 rfl rfl 3 (by decide) (htx _ kw_1_98) (fun _ h9 => h9) rfl dB_binary_54 ?_
          refine lv_iload hx hb dB_binary_57 (lv_at hl 4 rfl) ?_
          obtain ⟨hg16, hf⟩ := xifn hf
          refine va_aldq hx hb hK hP 7 3 rfl rfl hg16 dB_binary_59 ?_
          refine W.eq (g2 := F0 m 60 ls [va_rf (rf0 x4.toNatClampNeg), .ref a15, .int x2, .ref a0]) rfl ?_
          rw [hr4 hg16]
          refine W.eq (g2 := F0 m 60 ls [.ref a17, .ref a15, .int x2, .ref a0]) rfl ?_
          refine lv_aload_n hx hb dB_binary_60 rfl (lv_at hl 0 rfl) ?_
          refine va_get (D := D) (ci := 0) (v := .ref a13) (C := "ValueBench") (T := TB) (N := 8) hx hb htx inB hown hK hP 0 rfl rfl 5 (by decide) (htx _ kw_1_100) (fun _ h9 => h9) rfl dB_binary_61 ?_
          obtain ⟨o17, hq18, hf⟩ := xbind hf
          obtain ⟨hPc, hDc, hFc⟩ := xcut (wc := [(a15, .inr (2, [.ref a16, .int v22, .int v23])), (a16, .inl (cT 2, 4096, .inr (.inl f21))), (a17, .inr (2, [.ref a18, .int v25, .int v26])), (a18, .inl (cT 2, 4096, .inr (.inl f24))), (a13, .inr (2, [.ref a14, .int o13.1, .int o13.2])), (a14, .inl (cT 2, 4096, .inr (.inl f16)))]) hP hD hS hA [13, 14, 15, 16, 17, 18] rfl rfl (by decide)
          refine va_calli (va_runS (As := [.int x2, .ref a15, .ref a17, .ref a13]) (rest := [.ref a0]) ⟨hx, hb, hml, hown, htx⟩ (gA_apply l hl9 D cT aK aV H.size d n a15 a16 a17 a18 a13 a14 x2 f21 v22 v23 f24 v25 v26 f16 o13.1 o13.2 o17 hq18) ⟨callB_of 4 htx (xw_goodC kw_3_105) rfl rfl rfl (htx _ kw_1_21) (htx _ kw_3_103) ⟨by decide, by decide, by decide +kernel⟩ ⟨(by show (16 * d + 5) + 1 ≤ 16 * d + 7; omega), (by show 8 + (4 + 11) + (400 * d + 157) ≤ 400 * d + 180; omega)⟩, htx _ kw_3_104⟩ ⟨xPre_blind, (fun U hU hW => ⟨rfl, xPre_of hZ hS hFc hPc hDc hK U hU hW⟩)⟩ rfl rfl hl.1 rfl (lv_room (Nat.le_of_ble_eq_true rfl)) dB_binary_64 ⟨Nat.le_of_ble_eq_true rfl, Nat.le_of_ble_eq_true rfl⟩) hS (fun q _ h => hFc q h) hFc (fun r19 u9 t H1 locs ht hvm hr9 hB hz1 hk1 hS => ?_)
          obtain ⟨hP1, hK1, hD1⟩ := hB
          rw [ht] at hP1
          obtain ⟨hP, hD⟩ := xjoin (W := [(a0, .inr (0, [.ref a1, .ref a3, .ref a5, .ref a7, .ref a8, .ref a13, .int v19, .int v20])), (a1, .inr (1, [.ref a2, .int v1, .int v2])), (a2, .inl (cT 0, 4096, .inl f0)), (a3, .inr (1, [.ref a4, .int v4, .int v5])), (a4, .inl (cT 0, 4096, .inl f3)), (a5, .inr (1, [.ref a6, .int v7, .int v8])), (a6, .inl (cT 0, 4096, .inl f6)), (a7, .inl (cT 3, 8, .inr (.inr (.inr (.inr rf0))))), (a8, .inr (3, [.ref a9, .ref a10, .ref p11, .ref p13, .int v15])), (a9, .inl (cT 1, 2048, .inl f9)), (a10, .inl (cT 1, 2048, .inl f10)), (p11, .inl (cT 1, 2048, .inl f12)), (p13, .inl (cT 1, 2048, .inl f14)), (a15, .inr (2, [.ref a16, .int v22, .int v23])), (a16, .inl (cT 2, 4096, .inr (.inl f21))), (a17, .inr (2, [.ref a18, .int v25, .int v26])), (a18, .inl (cT 2, 4096, .inr (.inl f24))), (a13, .inr (2, [.ref a14, .int o17.2.2.1, .int o17.2.2.2])), (a14, .inl (cT 2, 4096, .inr (.inl o17.2.1)))]) hP hD [13, 14, 15, 16, 17, 18] [0, 1, 2, 3, 4, 5, 6, 7, 8, 9, 10, 11, 12] 13 rfl rfl (by decide) (by decide) hk1 hFc hP1 hD1
          generalize H1 = H at hP hS ⊢
          rw [hr9]
          refine W.eq (g2 := F0 m 67 ls [.int o17.1, .ref a0]) rfl ?_
          obtain ⟨o20, hq21, hf⟩ := xbind hf
          by_cases hk22 : o20.1 = 0
          · rw [if_pos hk22] at hf
            obtain ⟨hPc, hDc, hFc⟩ := xcut (wc := [(a0, .inr (0, [.ref a1, .ref a3, .ref a5, .ref a7, .ref a8, .ref a13, .int v19, .int v20])), (a1, .inr (1, [.ref a2, .int v1, .int v2])), (a2, .inl (cT 0, 4096, .inl f0)), (a3, .inr (1, [.ref a4, .int v4, .int v5])), (a4, .inl (cT 0, 4096, .inl f3)), (a5, .inr (1, [.ref a6, .int v7, .int v8])), (a6, .inl (cT 0, 4096, .inl f6)), (a7, .inl (cT 3, 8, .inr (.inr (.inr (.inr rf0))))), (a8, .inr (3, [.ref a9, .ref a10, .ref p11, .ref p13, .int v15])), (a9, .inl (cT 1, 2048, .inl f9)), (a10, .inl (cT 1, 2048, .inl f10)), (p11, .inl (cT 1, 2048, .inl f12)), (p13, .inl (cT 1, 2048, .inl f14)), (a13, .inr (2, [.ref a14, .int o17.2.2.1, .int o17.2.2.2])), (a14, .inl (cT 2, 4096, .inr (.inl o17.2.1)))]) hP hD hS hA [0, 1, 2, 3, 4, 5, 6, 7, 8, 9, 10, 11, 12, 17, 18] rfl rfl (by decide)
            refine va_callv (va_runV (C := "ValueBench") (As := [.int o17.1]) (rest := []) ⟨hx, hb, hml, hown, htx⟩ (gB_demandDone l hl9 D cT aK aV H.size n a0 a1 a2 a3 a4 a5 a6 a7 a8 a9 a10 a13 a14 rf0 o17.1 f0 v1 v2 f3 v4 v5 f6 v7 v8 f9 f10 p11 f12 p13 f14 v15 o17.2.1 o17.2.2.1 o17.2.2.2 v19 v20 o20 hq21 hk22) ⟨callB_of 1 htx (xw_goodC kw_3_222) rfl rfl rfl (htx _ kw_1_1) (htx _ kw_3_219) ⟨by decide, by decide, by decide +kernel⟩ ⟨Nat.le_of_ble_eq_true rfl, Nat.le_of_ble_eq_true rfl⟩, (htx _ kw_3_221), (htx _ kp_B_demandDone)⟩ ⟨xPre_blind, va_recv hK hP (ci := 0) rfl (q0 := 0) rfl, (fun U hU hW => ⟨rfl, xPre_of hZ hS hFc hPc hDc hK U hU hW⟩)⟩ rfl rfl hl.1 rfl (lv_room (Nat.le_of_ble_eq_true rfl)) dB_binary_67 ⟨Nat.le_of_ble_eq_true rfl, Nat.le_of_ble_eq_true rfl⟩) hS (fun q _ h => hFc q h) hFc (fun u9 t H1 locs ht hvm hr9 hB hz1 hk1 hS => ?_)
            obtain ⟨hP1, hK1, hD1⟩ := hB
            rw [ht] at hP1
            obtain ⟨hP, hD⟩ := xjoin (W := [(a15, .inr (2, [.ref a16, .int v22, .int v23])), (a16, .inl (cT 2, 4096, .inr (.inl f21))), (a17, .inr (2, [.ref a18, .int v25, .int v26])), (a18, .inl (cT 2, 4096, .inr (.inl f24))), (a0, .inr (0, [.ref a1, .ref a3, .ref a5, .ref a7, .ref a8, .ref a13, .int v19, .int o20.2])), (a1, .inr (1, [.ref a2, .int v1, .int v2])), (a2, .inl (cT 0, 4096, .inl f0)), (a3, .inr (1, [.ref a4, .int v4, .int v5])), (a4, .inl (cT 0, 4096, .inl f3)), (a5, .inr (1, [.ref a6, .int v7, .int v8])), (a6, .inl (cT 0, 4096, .inl f6)), (a7, .inl (cT 3, 8, .inr (.inr (.inr (.inr rf0))))), (a8, .inr (3, [.ref a9, .ref a10, .ref p11, .ref p13, .int v15])), (a9, .inl (cT 1, 2048, .inl f9)), (a10, .inl (cT 1, 2048, .inl f10)), (p11, .inl (cT 1, 2048, .inl f12)), (p13, .inl (cT 1, 2048, .inl f14)), (a13, .inr (2, [.ref a14, .int o17.2.2.1, .int o17.2.2.2])), (a14, .inl (cT 2, 4096, .inr (.inl o17.2.1)))]) hP hD [0, 1, 2, 3, 4, 5, 6, 7, 8, 9, 10, 11, 12, 17, 18] [13, 14, 15, 16] 4 rfl rfl (by decide) (by decide) hk1 hFc hP1 hD1
            generalize H1 = H at hP hS ⊢
            refine lv_aload_n hx hb dB_binary_70 rfl (lv_at hl 0 rfl) ?_
            refine lv_iload_n hx hb dB_binary_71 rfl (lv_at hl 1 rfl) ?_
            obtain ⟨o23, hq24, hf⟩ := xbind hf
            by_cases hk25 : o23.1 = 0
            · rw [if_pos hk25] at hf
              obtain ⟨hPc, hDc, hFc⟩ := xcut (wc := [(a0, .inr (0, [.ref a1, .ref a3, .ref a5, .ref a7, .ref a8, .ref a13, .int v19, .int o20.2])), (a1, .inr (1, [.ref a2, .int v1, .int v2])), (a2, .inl (cT 0, 4096, .inl f0)), (a3, .inr (1, [.ref a4, .int v4, .int v5])), (a4, .inl (cT 0, 4096, .inl f3)), (a5, .inr (1, [.ref a6, .int v7, .int v8])), (a6, .inl (cT 0, 4096, .inl f6)), (a7, .inl (cT 3, 8, .inr (.inr (.inr (.inr rf0))))), (a8, .inr (3, [.ref a9, .ref a10, .ref p11, .ref p13, .int v15])), (a9, .inl (cT 1, 2048, .inl f9)), (a10, .inl (cT 1, 2048, .inl f10)), (p11, .inl (cT 1, 2048, .inl f12)), (p13, .inl (cT 1, 2048, .inl f14)), (a13, .inr (2, [.ref a14, .int o17.2.2.1, .int o17.2.2.2])), (a14, .inl (cT 2, 4096, .inr (.inl o17.2.1)))]) hP hD hS hA [4, 5, 6, 7, 8, 9, 10, 11, 12, 13, 14, 15, 16, 17, 18] rfl rfl (by decide)
              refine va_calli (va_runV (C := "ValueBench") (As := [.int x1]) (rest := []) ⟨hx, hb, hml, hown, htx⟩ (gB_keepSpare l hl9 D cT aK aV H.size d n a0 a1 a2 a3 a4 a5 a6 a7 a8 a9 a10 a13 a14 rf0 b1 x1 f0 v1 v2 f3 v4 v5 f6 v7 v8 f9 f10 p11 f12 p13 f14 v15 o17.2.1 o17.2.2.1 o17.2.2.2 v19 o20.2 hr1 o23 hq24 hk25) ⟨callB_of 1 htx (xw_goodC kw_3_17) rfl rfl rfl (htx _ kw_1_1) (htx _ kw_3_14) ⟨by decide, by decide, by decide +kernel⟩ ⟨(by show (16 * d + 6) + 1 ≤ 16 * d + 7; omega), (by show 8 + (3 + 11) + (400 * d + 100) ≤ 400 * d + 180; omega)⟩, (htx _ kw_3_16), (htx _ kp_B_keepSpare)⟩ ⟨xPre_blind, va_recv hK hP (ci := 0) rfl (q0 := 4) rfl, (fun U hU hW => ⟨rfl, xPre_of hZ hS hFc hPc hDc hK U hU hW⟩)⟩ rfl rfl hl.1 rfl (lv_room (Nat.le_of_ble_eq_true rfl)) dB_binary_72 ⟨Nat.le_of_ble_eq_true rfl, Nat.le_of_ble_eq_true rfl⟩) hS (fun q _ h => hFc q h) hFc (fun r26 u9 t H1 locs ht hvm hr9 hB hz1 hk1 hS => ?_)
              obtain ⟨hP1, hK1, hD1⟩ := hB
              rw [ht] at hP1
              obtain ⟨hP, hD⟩ := xjoin (W := [(a15, .inr (2, [.ref a16, .int v22, .int v23])), (a16, .inl (cT 2, 4096, .inr (.inl f21))), (a17, .inr (2, [.ref a18, .int v25, .int v26])), (a18, .inl (cT 2, 4096, .inr (.inl f24))), (a0, .inr (0, [.ref a1, .ref a3, .ref a5, .ref a7, .ref a8, .ref b1, .int v19, .int o20.2])), (a1, .inr (1, [.ref a2, .int v1, .int v2])), (a2, .inl (cT 0, 4096, .inl f0)), (a3, .inr (1, [.ref a4, .int v4, .int v5])), (a4, .inl (cT 0, 4096, .inl f3)), (a5, .inr (1, [.ref a6, .int o23.2.2.2.1, .int o23.2.2.2.2])), (a6, .inl (cT 0, 4096, .inl o23.2.2.1)), (a7, .inl (cT 3, 8, .inr (.inr (.inr (.inr (va_up rf0 x1.toNatClampNeg (some a13))))))), (a8, .inr (3, [.ref a9, .ref a10, .ref p11, .ref p13, .int v15])), (a9, .inl (cT 1, 2048, .inl f9)), (a10, .inl (cT 1, 2048, .inl f10)), (p11, .inl (cT 1, 2048, .inl f12)), (p13, .inl (cT 1, 2048, .inl f14)), (a13, .inr (2, [.ref a14, .int o17.2.2.1, .int o17.2.2.2])), (a14, .inl (cT 2, 4096, .inr (.inl o17.2.1)))]) hP hD [4, 5, 6, 7, 8, 9, 10, 11, 12, 13, 14, 15, 16, 17, 18] [0, 1, 2, 3] 4 rfl rfl (by decide) (by decide) hk1 hFc hP1 hD1
              generalize H1 = H at hP hS ⊢
              rw [hr9]
              refine W.eq (g2 := F0 m 75 ls [.int o23.2.1]) rfl ?_
              refine lv_pop hx hb dB_binary_75 rfl ?_
              obtain rfl := Option.some.inj hf
              exact absurd (show (0 : Nat) = 1 from hkd) (by decide)
            rw [if_neg hk25] at hf
            by_cases hk27 : o23.1 = 1
            · rw [if_pos hk27] at hf
              obtain ⟨hPc, hDc, hFc⟩ := xcut (wc := [(a0, .inr (0, [.ref a1, .ref a3, .ref a5, .ref a7, .ref a8, .ref a13, .int v19, .int o20.2])), (a1, .inr (1, [.ref a2, .int v1, .int v2])), (a2, .inl (cT 0, 4096, .inl f0)), (a3, .inr (1, [.ref a4, .int v4, .int v5])), (a4, .inl (cT 0, 4096, .inl f3)), (a5, .inr (1, [.ref a6, .int v7, .int v8])), (a6, .inl (cT 0, 4096, .inl f6)), (a7, .inl (cT 3, 8, .inr (.inr (.inr (.inr rf0))))), (a8, .inr (3, [.ref a9, .ref a10, .ref p11, .ref p13, .int v15])), (a9, .inl (cT 1, 2048, .inl f9)), (a10, .inl (cT 1, 2048, .inl f10)), (p11, .inl (cT 1, 2048, .inl f12)), (p13, .inl (cT 1, 2048, .inl f14)), (a13, .inr (2, [.ref a14, .int o17.2.2.1, .int o17.2.2.2])), (a14, .inl (cT 2, 4096, .inr (.inl o17.2.1)))]) hP hD hS hA [4, 5, 6, 7, 8, 9, 10, 11, 12, 13, 14, 15, 16, 17, 18] rfl rfl (by decide)
              refine xx_thr (vx_runV (C := "ValueBench") (As := [.int x1]) (rest := []) ⟨hx, hb, hml, hown, htx⟩ (gB_keepSpare_1 l hl9 D cT aK aV H.size d n a0 a1 a2 a3 a4 a5 a6 a7 a8 a9 a10 a13 a14 rf0 b1 x1 f0 v1 v2 f3 v4 v5 f6 v7 v8 f9 f10 p11 f12 p13 f14 v15 o17.2.1 o17.2.2.1 o17.2.2.2 v19 o20.2 hr1 o23 hq24 hk27) ⟨callB_of 1 htx (xw_goodC kw_3_17) rfl rfl rfl (htx _ kw_1_1) (htx _ kw_3_14) ⟨by decide, by decide, by decide +kernel⟩ ⟨(by show (16 * d + 6) + 1 ≤ 16 * d + 7; omega), (by show 8 + (3 + 11) + (400 * d + 100) ≤ 400 * d + 180; omega)⟩, (htx _ kw_3_16), (htx _ kp_B_keepSpare)⟩ ⟨xPre_blind, va_recv hK hP (ci := 0) rfl (q0 := 4) rfl, (fun U hU hW => ⟨rfl, xPre_of hZ hS hFc hPc hDc hK U hU hW⟩)⟩ rfl rfl hl.1 rfl (lv_room (Nat.le_of_ble_eq_true rfl)) dB_binary_72 ⟨Nat.le_of_ble_eq_true rfl, Nat.le_of_ble_eq_true rfl⟩) hS hFc (fun q _ h => hFc q h) (fun E ce q9 u9 t H1 locs ht hvm _ hB hz1 hk1 hS hce hcv hcl => ?_)
              obtain ⟨rfl, hP1, hK1, hD1⟩ := hB
              rw [ht] at hP1
              obtain ⟨hP, hD⟩ := xjoin (W := [(a15, .inr (2, [.ref a16, .int v22, .int v23])), (a16, .inl (cT 2, 4096, .inr (.inl f21))), (a17, .inr (2, [.ref a18, .int v25, .int v26])), (a18, .inl (cT 2, 4096, .inr (.inl f24))), (a0, .inr (0, [.ref a1, .ref a3, .ref a5, .ref a7, .ref a8, .ref a13, .int v19, .int o20.2])), (a1, .inr (1, [.ref a2, .int v1, .int v2])), (a2, .inl (cT 0, 4096, .inl f0)), (a3, .inr (1, [.ref a4, .int v4, .int v5])), (a4, .inl (cT 0, 4096, .inl f3)), (a5, .inr (1, [.ref a6, .int o23.2.2.2.1, .int o23.2.2.2.2])), (a6, .inl (cT 0, 4096, .inl o23.2.2.1)), (a7, .inl (cT 3, 8, .inr (.inr (.inr (.inr rf0))))), (a8, .inr (3, [.ref a9, .ref a10, .ref p11, .ref p13, .int v15])), (a9, .inl (cT 1, 2048, .inl f9)), (a10, .inl (cT 1, 2048, .inl f10)), (p11, .inl (cT 1, 2048, .inl f12)), (p13, .inl (cT 1, 2048, .inl f14)), (a13, .inr (2, [.ref a14, .int o17.2.2.1, .int o17.2.2.2])), (a14, .inl (cT 2, 4096, .inr (.inl o17.2.1)))]) hP hD [4, 5, 6, 7, 8, 9, 10, 11, 12, 13, 14, 15, 16, 17, 18] [0, 1, 2, 3] 4 rfl rfl (by decide) (by decide) hk1 hFc hP1 hD1
              generalize H1 = H at hP hS hce ⊢
              obtain rfl := Option.some.inj hf
              obtain ⟨hP9, hD9⟩ := xsub (wc := [(a0, .inr (0, [.ref a1, .ref a3, .ref a5, .ref a7, .ref a8, .ref a13, .int v19, .int o20.2])), (a1, .inr (1, [.ref a2, .int v1, .int v2])), (a2, .inl (cT 0, 4096, .inl f0)), (a3, .inr (1, [.ref a4, .int v4, .int v5])), (a4, .inl (cT 0, 4096, .inl f3)), (a5, .inr (1, [.ref a6, .int o23.2.2.2.1, .int o23.2.2.2.2])), (a6, .inl (cT 0, 4096, .inl o23.2.2.1)), (a7, .inl (cT 3, 8, .inr (.inr (.inr (.inr rf0))))), (a8, .inr (3, [.ref a9, .ref a10, .ref p11, .ref p13, .int v15])), (a9, .inl (cT 1, 2048, .inl f9)), (a10, .inl (cT 1, 2048, .inl f10)), (p11, .inl (cT 1, 2048, .inl f12)), (p13, .inl (cT 1, 2048, .inl f14)), (a13, .inr (2, [.ref a14, .int o17.2.2.1, .int o17.2.2.2])), (a14, .inl (cT 2, 4096, .inr (.inl o17.2.1))), (a15, .inr (2, [.ref a16, .int v22, .int v23])), (a16, .inl (cT 2, 4096, .inr (.inl f21))), (a17, .inr (2, [.ref a18, .int v25, .int v26])), (a18, .inl (cT 2, 4096, .inr (.inl f24)))]) hP hD [4, 5, 6, 7, 8, 9, 10, 11, 12, 13, 14, 15, 16, 17, 18, 0, 1, 2, 3] rfl rfl (by decide)
              exact vx_out (E := "java/lang/IndexOutOfBoundsException") (fun x h => (hne x h).elim) hlocks hce hcv hcl (fun t ht ha => ⟨(), trivial, ⟨rfl, by rw [ht]; exact hP9, va_K.moved ha hK, hD9⟩, hS.F ht⟩) hS.2.2 (Nat.le_of_ble_eq_true rfl) (Nat.le_of_ble_eq_true rfl)
            rw [if_neg hk27] at hf
            exact nomatch hf
          rw [if_neg hk22] at hf
          by_cases hk29 : o20.1 = 1
          · rw [if_pos hk29] at hf
            obtain rfl := Option.some.inj hf
            exact absurd (show (2 : Nat) = 1 from hkd) (by decide)
          rw [if_neg hk29] at hf
          exact nomatch hf
        rw [if_neg hk12] at hf
        by_cases hk30 : o10 = 1
        · rw [if_pos hk30] at hf
          obtain rfl := Option.some.inj hf
          exact absurd (show (3 : Nat) = 1 from hkd) (by decide)
        rw [if_neg hk30] at hf
        exact nomatch hf
      · rw [if_neg hc] at hf
        refine lv_iload hx hb dB_binary_22 (lv_at hl 4 rfl) ?_
        obtain ⟨o10, hq11, hf⟩ := xbind hf
        obtain ⟨hPc, hDc, hFc⟩ := xcut (wc := []) hP hD hS hA [] rfl rfl (by decide)
        refine va_calli (va_runS (As := [.int x4]) (rest := []) ⟨hx, hb, hml, hown, htx⟩ (gB_isRegister l hl9 D cT aK aV H.size n x4 o10 hq11) ⟨callB_of 1 htx (xw_goodC kw_2_18) rfl rfl rfl (htx _ kw_1_1) (htx _ kw_2_16) ⟨by decide, by decide, by decide +kernel⟩ ⟨Nat.le_of_ble_eq_true rfl, Nat.le_of_ble_eq_true rfl⟩, htx _ kw_2_17⟩ ⟨xPre_blind, (fun U hU hW => ⟨rfl, xPre_of hZ hS hFc hPc hDc hK U hU hW⟩)⟩ rfl rfl hl.1 rfl (lv_room (Nat.le_of_ble_eq_true rfl)) dB_binary_24 ⟨Nat.le_of_ble_eq_true rfl, Nat.le_of_ble_eq_true rfl⟩) hS (fun q _ h => hFc q h) hFc (fun r12 u9 t H1 locs ht hvm hr9 hB hz1 hk1 hS => ?_)
        obtain ⟨hP1, hK1, hD1⟩ := hB
        rw [ht] at hP1
        obtain ⟨hP, hD⟩ := xjoin (W := [(a0, .inr (0, [.ref a1, .ref a3, .ref a5, .ref a7, .ref a8, .ref a13, .int v19, .int v20])), (a1, .inr (1, [.ref a2, .int v1, .int v2])), (a2, .inl (cT 0, 4096, .inl f0)), (a3, .inr (1, [.ref a4, .int v4, .int v5])), (a4, .inl (cT 0, 4096, .inl f3)), (a5, .inr (1, [.ref a6, .int v7, .int v8])), (a6, .inl (cT 0, 4096, .inl f6)), (a7, .inl (cT 3, 8, .inr (.inr (.inr (.inr rf0))))), (a8, .inr (3, [.ref a9, .ref a10, .ref p11, .ref p13, .int v15])), (a9, .inl (cT 1, 2048, .inl f9)), (a10, .inl (cT 1, 2048, .inl f10)), (p11, .inl (cT 1, 2048, .inl f12)), (p13, .inl (cT 1, 2048, .inl f14)), (a13, .inr (2, [.ref a14, .int v17, .int v18])), (a14, .inl (cT 2, 4096, .inr (.inl f16))), (a15, .inr (2, [.ref a16, .int v22, .int v23])), (a16, .inl (cT 2, 4096, .inr (.inl f21))), (a17, .inr (2, [.ref a18, .int v25, .int v26])), (a18, .inl (cT 2, 4096, .inr (.inl f24)))]) hP hD [] [0, 1, 2, 3, 4, 5, 6, 7, 8, 9, 10, 11, 12, 13, 14, 15, 16, 17, 18] 19 rfl rfl (by decide) (by decide) hk1 hFc hP1 hD1
        generalize H1 = H at hP hS ⊢
        rw [hr9]
        refine W.eq (g2 := F0 m 27 ls [.int o10]) rfl ?_
        refine lv_if_eq (tgt := 34) hx hb dB_binary_27 (by decide) (fun hc => ?_) (fun hc => ?_)
        · rw [if_pos hc] at hf
          refine lv_iconst (v := 0) hx hb dB_binary_34 (by decide) ?_
          obtain ⟨o13, hq14, hf⟩ := xbind hf
          by_cases hk15 : o13 = 0
          · rw [if_pos hk15] at hf
            obtain ⟨hPc, hDc, hFc⟩ := xcut (wc := []) hP hD hS hA [] rfl rfl (by decide)
            refine va_callv (va_runS (As := [.int 0]) (rest := []) ⟨hx, hb, hml, hown, htx⟩ (gB_demand l hl9 D cT aK aV H.size n (0 : Int32) o13 hq14 hk15) ⟨callB_of 1 htx (xw_goodC kw_1_221) rfl rfl rfl (htx _ kw_1_1) (htx _ kw_1_219) ⟨by decide, by decide, by decide +kernel⟩ ⟨Nat.le_of_ble_eq_true rfl, Nat.le_of_ble_eq_true rfl⟩, htx _ kw_1_220⟩ ⟨xPre_blind, (fun U hU hW => ⟨rfl, xPre_of hZ hS hFc hPc hDc hK U hU hW⟩)⟩ rfl rfl hl.1 rfl (lv_room (Nat.le_of_ble_eq_true rfl)) dB_binary_35 ⟨Nat.le_of_ble_eq_true rfl, Nat.le_of_ble_eq_true rfl⟩) hS (fun q _ h => hFc q h) hFc (fun u9 t H1 locs ht hvm hr9 hB hz1 hk1 hS => ?_)
            obtain ⟨hP1, hK1, hD1⟩ := hB
            rw [ht] at hP1
            obtain ⟨hP, hD⟩ := xjoin (W := [(a0, .inr (0, [.ref a1, .ref a3, .ref a5, .ref a7, .ref a8, .ref a13, .int v19, .int v20])), (a1, .inr (1, [.ref a2, .int v1, .int v2])), (a2, .inl (cT 0, 4096, .inl f0)), (a3, .inr (1, [.ref a4, .int v4, .int v5])), (a4, .inl (cT 0, 4096, .inl f3)), (a5, .inr (1, [.ref a6, .int v7, .int v8])), (a6, .inl (cT 0, 4096, .inl f6)), (a7, .inl (cT 3, 8, .inr (.inr (.inr (.inr rf0))))), (a8, .inr (3, [.ref a9, .ref a10, .ref p11, .ref p13, .int v15])), (a9, .inl (cT 1, 2048, .inl f9)), (a10, .inl (cT 1, 2048, .inl f10)), (p11, .inl (cT 1, 2048, .inl f12)), (p13, .inl (cT 1, 2048, .inl f14)), (a13, .inr (2, [.ref a14, .int v17, .int v18])), (a14, .inl (cT 2, 4096, .inr (.inl f16))), (a15, .inr (2, [.ref a16, .int v22, .int v23])), (a16, .inl (cT 2, 4096, .inr (.inl f21))), (a17, .inr (2, [.ref a18, .int v25, .int v26])), (a18, .inl (cT 2, 4096, .inr (.inl f24)))]) hP hD [] [0, 1, 2, 3, 4, 5, 6, 7, 8, 9, 10, 11, 12, 13, 14, 15, 16, 17, 18] 19 rfl rfl (by decide) (by decide) hk1 hFc hP1 hD1
            generalize H1 = H at hP hS ⊢
            refine lv_aload_n hx hb dB_binary_38 rfl (lv_at hl 0 rfl) ?_
            refine va_get (D := D) (ci := 0) (v := .ref a13) (C := "ValueBench") (T := TB) (N := 8) hx hb htx inB hown hK hP 0 rfl rfl 5 (by decide) (htx _ kw_1_100) (fun _ h9 => h9) rfl dB_binary_39 ?_
            obtain ⟨o16, hq17, hf⟩ := xbind hf
            obtain ⟨hPc, hDc, hFc⟩ := xcut (wc := [(a13, .inr (2, [.ref a14, .int v17, .int v18])), (a14, .inl (cT 2, 4096, .inr (.inl f16)))]) hP hD hS hA [13, 14] rfl rfl (by decide)
            refine va_callv (va_runV (C := "ValueBench$Row") (As := []) (rest := []) ⟨hx, hb, hml, hown, htx⟩ (gR_clear l hl9 D cT aK aV H.size n a13 a14 f16 v17 v18 o16 hq17) ⟨callB_of 0 htx (xw_goodC kw_2_22) rfl rfl rfl (htx _ kw_1_4) (htx _ kw_2_19) ⟨by decide, by decide, by decide +kernel⟩ ⟨Nat.le_of_ble_eq_true rfl, Nat.le_of_ble_eq_true rfl⟩, (htx _ kw_2_20), (htx _ kw_2_21)⟩ ⟨xPre_blind, va_recv hK hP (ci := 2) rfl (q0 := 13) rfl, (fun U hU hW => ⟨rfl, xPre_of hZ hS hFc hPc hDc hK U hU hW⟩)⟩ rfl rfl hl.1 rfl (lv_room (Nat.le_of_ble_eq_true rfl)) dB_binary_42 ⟨Nat.le_of_ble_eq_true rfl, Nat.le_of_ble_eq_true rfl⟩) hS (fun q _ h => hFc q h) hFc (fun u9 t H1 locs ht hvm hr9 hB hz1 hk1 hS => ?_)
            obtain ⟨hP1, hK1, hD1⟩ := hB
            rw [ht] at hP1
            obtain ⟨hP, hD⟩ := xjoin (W := [(a0, .inr (0, [.ref a1, .ref a3, .ref a5, .ref a7, .ref a8, .ref a13, .int v19, .int v20])), (a1, .inr (1, [.ref a2, .int v1, .int v2])), (a2, .inl (cT 0, 4096, .inl f0)), (a3, .inr (1, [.ref a4, .int v4, .int v5])), (a4, .inl (cT 0, 4096, .inl f3)), (a5, .inr (1, [.ref a6, .int v7, .int v8])), (a6, .inl (cT 0, 4096, .inl f6)), (a7, .inl (cT 3, 8, .inr (.inr (.inr (.inr rf0))))), (a8, .inr (3, [.ref a9, .ref a10, .ref p11, .ref p13, .int v15])), (a9, .inl (cT 1, 2048, .inl f9)), (a10, .inl (cT 1, 2048, .inl f10)), (p11, .inl (cT 1, 2048, .inl f12)), (p13, .inl (cT 1, 2048, .inl f14)), (a15, .inr (2, [.ref a16, .int v22, .int v23])), (a16, .inl (cT 2, 4096, .inr (.inl f21))), (a17, .inr (2, [.ref a18, .int v25, .int v26])), (a18, .inl (cT 2, 4096, .inr (.inl f24))), (a13, .inr (2, [.ref a14, .int o16.1, .int o16.2])), (a14, .inl (cT 2, 4096, .inr (.inl f16)))]) hP hD [13, 14] [0, 1, 2, 3, 4, 5, 6, 7, 8, 9, 10, 11, 12, 15, 16, 17, 18] 17 rfl rfl (by decide) (by decide) hk1 hFc hP1 hD1
            generalize H1 = H at hP hS ⊢
            refine lv_aload_n hx hb dB_binary_45 rfl (lv_at hl 0 rfl) ?_
            refine lv_iload_n hx hb dB_binary_46 rfl (lv_at hl 2 rfl) ?_
            refine lv_aload_n hx hb dB_binary_47 rfl (lv_at hl 0 rfl) ?_
            refine va_get (D := D) (ci := 0) (v := .ref a7) (C := "ValueBench") (T := TB) (N := 8) hx hb htx inB hown hK hP 0 rfl rfl 3 (by decide) (htx _ kw_1_98) (fun _ h9 => h9) rfl dB_binary_48 ?_
            refine lv_iload_n hx hb dB_binary_51 rfl (lv_at hl 3 rfl) ?_
            obtain ⟨hg18, hf⟩ := xifn hf
            refine va_aldq hx hb hK hP 7 3 rfl rfl hg18 dB_binary_52 ?_
            refine W.eq (g2 := F0 m 53 ls [va_rf (rf0 x3.toNatClampNeg), .int x2, .ref a0]) rfl ?_
            rw [hr3 hg18]
            refine W.eq (g2 := F0 m 53 ls [.ref a15, .int x2, .ref a0]) rfl ?_
            refine lv_aload_n hx hb dB_binary_53 rfl (lv_at hl 0 rfl) ?_
            refine va_get (D := D) (ci := 0) (v := .ref a7) (C := "ValueBench") (T := TB) (N := 8) hx hb htx inB hown hK hP 0 rfl rfl 3 (by decide) (htx _ kw_1_98) (fun _ h9 => h9) rfl dB_binary_54 ?_
            refine lv_iload hx hb dB_binary_57 (lv_at hl 4 rfl) ?_
            obtain ⟨hg19, hf⟩ := xifn hf
            refine va_aldq hx hb hK hP 7 3 rfl rfl hg19 dB_binary_59 ?_
            refine W.eq (g2 := F0 m 60 ls [va_rf (rf0 x4.toNatClampNeg), .ref a15, .int x2, .ref a0]) rfl ?_
            rw [hr4 hg19]
            refine W.eq (g2 := F0 m 60 ls [.ref a17, .ref a15, .int x2, .ref a0]) rfl ?_
            refine lv_aload_n hx hb dB_binary_60 rfl (lv_at hl 0 rfl) ?_
            refine va_get (D := D) (ci := 0) (v := .ref a13) (C := "ValueBench") (T := TB) (N := 8) hx hb htx inB hown hK hP 0 rfl rfl 5 (by decide) (htx _ kw_1_100) (fun _ h9 => h9) rfl dB_binary_61 ?_
            obtain ⟨o20, hq21, hf⟩ := xbind hf
            obtain ⟨hPc, hDc, hFc⟩ := xcut (wc := [(a15, .inr (2, [.ref a16, .int v22, .int v23])), (a16, .inl (cT 2, 4096, .inr (.inl f21))), (a17, .inr (2, [.ref a18, .int v25, .int v26])), (a18, .inl (cT 2, 4096, .inr (.inl f24))), (a13, .inr (2, [.ref a14, .int o16.1, .int o16.2])), (a14, .inl (cT 2, 4096, .inr (.inl f16)))]) hP hD hS hA [13, 14, 15, 16, 17, 18] rfl rfl (by decide)
            refine va_calli (va_runS (As := [.int x2, .ref a15, .ref a17, .ref a13]) (rest := [.ref a0]) ⟨hx, hb, hml, hown, htx⟩ (gA_apply l hl9 D cT aK aV H.size d n a15 a16 a17 a18 a13 a14 x2 f21 v22 v23 f24 v25 v26 f16 o16.1 o16.2 o20 hq21) ⟨callB_of 4 htx (xw_goodC kw_3_105) rfl rfl rfl (htx _ kw_1_21) (htx _ kw_3_103) ⟨by decide, by decide, by decide +kernel⟩ ⟨(by show (16 * d + 5) + 1 ≤ 16 * d + 7; omega), (by show 8 + (4 + 11) + (400 * d + 157) ≤ 400 * d + 180; omega)⟩, htx _ kw_3_104⟩ ⟨xPre_blind, (fun U hU hW => ⟨rfl, xPre_of hZ hS hFc hPc hDc hK U hU hW⟩)⟩ rfl rfl hl.1 rfl (lv_room (Nat.le_of_ble_eq_true rfl)) dB_binary_64 ⟨Nat.le_of_ble_eq_true rfl, Nat.le_of_ble_eq_true rfl⟩) hS (fun q _ h => hFc q h) hFc (fun r22 u9 t H1 locs ht hvm hr9 hB hz1 hk1 hS => ?_)
            obtain ⟨hP1, hK1, hD1⟩ := hB
            rw [ht] at hP1
            obtain ⟨hP, hD⟩ := xjoin (W := [(a0, .inr (0, [.ref a1, .ref a3, .ref a5, .ref a7, .ref a8, .ref a13, .int v19, .int v20])), (a1, .inr (1, [.ref a2, .int v1, .int v2])), (a2, .inl (cT 0, 4096, .inl f0)), (a3, .inr (1, [.ref a4, .int v4, .int v5])), (a4, .inl (cT 0, 4096, .inl f3)), (a5, .inr (1, [.ref a6, .int v7, .int v8])), (a6, .inl (cT 0, 4096, .inl f6)), (a7, .inl (cT 3, 8, .inr (.inr (.inr (.inr rf0))))), (a8, .inr (3, [.ref a9, .ref a10, .ref p11, .ref p13, .int v15])), (a9, .inl (cT 1, 2048, .inl f9)), (a10, .inl (cT 1, 2048, .inl f10)), (p11, .inl (cT 1, 2048, .inl f12)), (p13, .inl (cT 1, 2048, .inl f14)), (a15, .inr (2, [.ref a16, .int v22, .int v23])), (a16, .inl (cT 2, 4096, .inr (.inl f21))), (a17, .inr (2, [.ref a18, .int v25, .int v26])), (a18, .inl (cT 2, 4096, .inr (.inl f24))), (a13, .inr (2, [.ref a14, .int o20.2.2.1, .int o20.2.2.2])), (a14, .inl (cT 2, 4096, .inr (.inl o20.2.1)))]) hP hD [13, 14, 15, 16, 17, 18] [0, 1, 2, 3, 4, 5, 6, 7, 8, 9, 10, 11, 12] 13 rfl rfl (by decide) (by decide) hk1 hFc hP1 hD1
            generalize H1 = H at hP hS ⊢
            rw [hr9]
            refine W.eq (g2 := F0 m 67 ls [.int o20.1, .ref a0]) rfl ?_
            obtain ⟨o23, hq24, hf⟩ := xbind hf
            by_cases hk25 : o23.1 = 0
            · rw [if_pos hk25] at hf
              obtain ⟨hPc, hDc, hFc⟩ := xcut (wc := [(a0, .inr (0, [.ref a1, .ref a3, .ref a5, .ref a7, .ref a8, .ref a13, .int v19, .int v20])), (a1, .inr (1, [.ref a2, .int v1, .int v2])), (a2, .inl (cT 0, 4096, .inl f0)), (a3, .inr (1, [.ref a4, .int v4, .int v5])), (a4, .inl (cT 0, 4096, .inl f3)), (a5, .inr (1, [.ref a6, .int v7, .int v8])), (a6, .inl (cT 0, 4096, .inl f6)), (a7, .inl (cT 3, 8, .inr (.inr (.inr (.inr rf0))))), (a8, .inr (3, [.ref a9, .ref a10, .ref p11, .ref p13, .int v15])), (a9, .inl (cT 1, 2048, .inl f9)), (a10, .inl (cT 1, 2048, .inl f10)), (p11, .inl (cT 1, 2048, .inl f12)), (p13, .inl (cT 1, 2048, .inl f14)), (a13, .inr (2, [.ref a14, .int o20.2.2.1, .int o20.2.2.2])), (a14, .inl (cT 2, 4096, .inr (.inl o20.2.1)))]) hP hD hS hA [0, 1, 2, 3, 4, 5, 6, 7, 8, 9, 10, 11, 12, 17, 18] rfl rfl (by decide)
              refine va_callv (va_runV (C := "ValueBench") (As := [.int o20.1]) (rest := []) ⟨hx, hb, hml, hown, htx⟩ (gB_demandDone l hl9 D cT aK aV H.size n a0 a1 a2 a3 a4 a5 a6 a7 a8 a9 a10 a13 a14 rf0 o20.1 f0 v1 v2 f3 v4 v5 f6 v7 v8 f9 f10 p11 f12 p13 f14 v15 o20.2.1 o20.2.2.1 o20.2.2.2 v19 v20 o23 hq24 hk25) ⟨callB_of 1 htx (xw_goodC kw_3_222) rfl rfl rfl (htx _ kw_1_1) (htx _ kw_3_219) ⟨by decide, by decide, by decide +kernel⟩ ⟨Nat.le_of_ble_eq_true rfl, Nat.le_of_ble_eq_true rfl⟩, (htx _ kw_3_221), (htx _ kp_B_demandDone)⟩ ⟨xPre_blind, va_recv hK hP (ci := 0) rfl (q0 := 0) rfl, (fun U hU hW => ⟨rfl, xPre_of hZ hS hFc hPc hDc hK U hU hW⟩)⟩ rfl rfl hl.1 rfl (lv_room (Nat.le_of_ble_eq_true rfl)) dB_binary_67 ⟨Nat.le_of_ble_eq_true rfl, Nat.le_of_ble_eq_true rfl⟩) hS (fun q _ h => hFc q h) hFc (fun u9 t H1 locs ht hvm hr9 hB hz1 hk1 hS => ?_)
              obtain ⟨hP1, hK1, hD1⟩ := hB
              rw [ht] at hP1
              obtain ⟨hP, hD⟩ := xjoin (W := [(a15, .inr (2, [.ref a16, .int v22, .int v23])), (a16, .inl (cT 2, 4096, .inr (.inl f21))), (a17, .inr (2, [.ref a18, .int v25, .int v26])), (a18, .inl (cT 2, 4096, .inr (.inl f24))), (a0, .inr (0, [.ref a1, .ref a3, .ref a5, .ref a7, .ref a8, .ref a13, .int v19, .int o23.2])), (a1, .inr (1, [.ref a2, .int v1, .int v2])), (a2, .inl (cT 0, 4096, .inl f0)), (a3, .inr (1, [.ref a4, .int v4, .int v5])), (a4, .inl (cT 0, 4096, .inl f3)), (a5, .inr (1, [.ref a6, .int v7, .int v8])), (a6, .inl (cT 0, 4096, .inl f6)), (a7, .inl (cT 3, 8, .inr (.inr (.inr (.inr rf0))))), (a8, .inr (3, [.ref a9, .ref a10, .ref p11, .ref p13, .int v15])), (a9, .inl (cT 1, 2048, .inl f9)), (a10, .inl (cT 1, 2048, .inl f10)), (p11, .inl (cT 1, 2048, .inl f12)), (p13, .inl (cT 1, 2048, .inl f14)), (a13, .inr (2, [.ref a14, .int o20.2.2.1, .int o20.2.2.2])), (a14, .inl (cT 2, 4096, .inr (.inl o20.2.1)))]) hP hD [0, 1, 2, 3, 4, 5, 6, 7, 8, 9, 10, 11, 12, 17, 18] [13, 14, 15, 16] 4 rfl rfl (by decide) (by decide) hk1 hFc hP1 hD1
              generalize H1 = H at hP hS ⊢
              refine lv_aload_n hx hb dB_binary_70 rfl (lv_at hl 0 rfl) ?_
              refine lv_iload_n hx hb dB_binary_71 rfl (lv_at hl 1 rfl) ?_
              obtain ⟨o26, hq27, hf⟩ := xbind hf
              by_cases hk28 : o26.1 = 0
              · rw [if_pos hk28] at hf
                obtain ⟨hPc, hDc, hFc⟩ := xcut (wc := [(a0, .inr (0, [.ref a1, .ref a3, .ref a5, .ref a7, .ref a8, .ref a13, .int v19, .int o23.2])), (a1, .inr (1, [.ref a2, .int v1, .int v2])), (a2, .inl (cT 0, 4096, .inl f0)), (a3, .inr (1, [.ref a4, .int v4, .int v5])), (a4, .inl (cT 0, 4096, .inl f3)), (a5, .inr (1, [.ref a6, .int v7, .int v8])), (a6, .inl (cT 0, 4096, .inl f6)), (a7, .inl (cT 3, 8, .inr (.inr (.inr (.inr rf0))))), (a8, .inr (3, [.ref a9, .ref a10, .ref p11, .ref p13, .int v15])), (a9, .inl (cT 1, 2048, .inl f9)), (a10, .inl (cT 1, 2048, .inl f10)), (p11, .inl (cT 1, 2048, .inl f12)), (p13, .inl (cT 1, 2048, .inl f14)), (a13, .inr (2, [.ref a14, .int o20.2.2.1, .int o20.2.2.2])), (a14, .inl (cT 2, 4096, .inr (.inl o20.2.1)))]) hP hD hS hA [4, 5, 6, 7, 8, 9, 10, 11, 12, 13, 14, 15, 16, 17, 18] rfl rfl (by decide)
                refine va_calli (va_runV (C := "ValueBench") (As := [.int x1]) (rest := []) ⟨hx, hb, hml, hown, htx⟩ (gB_keepSpare l hl9 D cT aK aV H.size d n a0 a1 a2 a3 a4 a5 a6 a7 a8 a9 a10 a13 a14 rf0 b1 x1 f0 v1 v2 f3 v4 v5 f6 v7 v8 f9 f10 p11 f12 p13 f14 v15 o20.2.1 o20.2.2.1 o20.2.2.2 v19 o23.2 hr1 o26 hq27 hk28) ⟨callB_of 1 htx (xw_goodC kw_3_17) rfl rfl rfl (htx _ kw_1_1) (htx _ kw_3_14) ⟨by decide, by decide, by decide +kernel⟩ ⟨(by show (16 * d + 6) + 1 ≤ 16 * d + 7; omega), (by show 8 + (3 + 11) + (400 * d + 100) ≤ 400 * d + 180; omega)⟩, (htx _ kw_3_16), (htx _ kp_B_keepSpare)⟩ ⟨xPre_blind, va_recv hK hP (ci := 0) rfl (q0 := 4) rfl, (fun U hU hW => ⟨rfl, xPre_of hZ hS hFc hPc hDc hK U hU hW⟩)⟩ rfl rfl hl.1 rfl (lv_room (Nat.le_of_ble_eq_true rfl)) dB_binary_72 ⟨Nat.le_of_ble_eq_true rfl, Nat.le_of_ble_eq_true rfl⟩) hS (fun q _ h => hFc q h) hFc (fun r29 u9 t H1 locs ht hvm hr9 hB hz1 hk1 hS => ?_)
                obtain ⟨hP1, hK1, hD1⟩ := hB
                rw [ht] at hP1
                obtain ⟨hP, hD⟩ := xjoin (W := [(a15, .inr (2, [.ref a16, .int v22, .int v23])), (a16, .inl (cT 2, 4096, .inr (.inl f21))), (a17, .inr (2, [.ref a18, .int v25, .int v26])), (a18, .inl (cT 2, 4096, .inr (.inl f24))), (a0, .inr (0, [.ref a1, .ref a3, .ref a5, .ref a7, .ref a8, .ref b1, .int v19, .int o23.2])), (a1, .inr (1, [.ref a2, .int v1, .int v2])), (a2, .inl (cT 0, 4096, .inl f0)), (a3, .inr (1, [.ref a4, .int v4, .int v5])), (a4, .inl (cT 0, 4096, .inl f3)), (a5, .inr (1, [.ref a6, .int o26.2.2.2.1, .int o26.2.2.2.2])), (a6, .inl (cT 0, 4096, .inl o26.2.2.1)), (a7, .inl (cT 3, 8, .inr (.inr (.inr (.inr (va_up rf0 x1.toNatClampNeg (some a13))))))), (a8, .inr (3, [.ref a9, .ref a10, .ref p11, .ref p13, .int v15])), (a9, .inl (cT 1, 2048, .inl f9)), (a10, .inl (cT 1, 2048, .inl f10)), (p11, .inl (cT 1, 2048, .inl f12)), (p13, .inl (cT 1, 2048, .inl f14)), (a13, .inr (2, [.ref a14, .int o20.2.2.1, .int o20.2.2.2])), (a14, .inl (cT 2, 4096, .inr (.inl o20.2.1)))]) hP hD [4, 5, 6, 7, 8, 9, 10, 11, 12, 13, 14, 15, 16, 17, 18] [0, 1, 2, 3] 4 rfl rfl (by decide) (by decide) hk1 hFc hP1 hD1
                generalize H1 = H at hP hS ⊢
                rw [hr9]
                refine W.eq (g2 := F0 m 75 ls [.int o26.2.1]) rfl ?_
                refine lv_pop hx hb dB_binary_75 rfl ?_
                obtain rfl := Option.some.inj hf
                exact absurd (show (0 : Nat) = 1 from hkd) (by decide)
              rw [if_neg hk28] at hf
              by_cases hk30 : o26.1 = 1
              · rw [if_pos hk30] at hf
                obtain ⟨hPc, hDc, hFc⟩ := xcut (wc := [(a0, .inr (0, [.ref a1, .ref a3, .ref a5, .ref a7, .ref a8, .ref a13, .int v19, .int o23.2])), (a1, .inr (1, [.ref a2, .int v1, .int v2])), (a2, .inl (cT 0, 4096, .inl f0)), (a3, .inr (1, [.ref a4, .int v4, .int v5])), (a4, .inl (cT 0, 4096, .inl f3)), (a5, .inr (1, [.ref a6, .int v7, .int v8])), (a6, .inl (cT 0, 4096, .inl f6)), (a7, .inl (cT 3, 8, .inr (.inr (.inr (.inr rf0))))), (a8, .inr (3, [.ref a9, .ref a10, .ref p11, .ref p13, .int v15])), (a9, .inl (cT 1, 2048, .inl f9)), (a10, .inl (cT 1, 2048, .inl f10)), (p11, .inl (cT 1, 2048, .inl f12)), (p13, .inl (cT 1, 2048, .inl f14)), (a13, .inr (2, [.ref a14, .int o20.2.2.1, .int o20.2.2.2])), (a14, .inl (cT 2, 4096, .inr (.inl o20.2.1)))]) hP hD hS hA [4, 5, 6, 7, 8, 9, 10, 11, 12, 13, 14, 15, 16, 17, 18] rfl rfl (by decide)
                refine xx_thr (vx_runV (C := "ValueBench") (As := [.int x1]) (rest := []) ⟨hx, hb, hml, hown, htx⟩ (gB_keepSpare_1 l hl9 D cT aK aV H.size d n a0 a1 a2 a3 a4 a5 a6 a7 a8 a9 a10 a13 a14 rf0 b1 x1 f0 v1 v2 f3 v4 v5 f6 v7 v8 f9 f10 p11 f12 p13 f14 v15 o20.2.1 o20.2.2.1 o20.2.2.2 v19 o23.2 hr1 o26 hq27 hk30) ⟨callB_of 1 htx (xw_goodC kw_3_17) rfl rfl rfl (htx _ kw_1_1) (htx _ kw_3_14) ⟨by decide, by decide, by decide +kernel⟩ ⟨(by show (16 * d + 6) + 1 ≤ 16 * d + 7; omega), (by show 8 + (3 + 11) + (400 * d + 100) ≤ 400 * d + 180; omega)⟩, (htx _ kw_3_16), (htx _ kp_B_keepSpare)⟩ ⟨xPre_blind, va_recv hK hP (ci := 0) rfl (q0 := 4) rfl, (fun U hU hW => ⟨rfl, xPre_of hZ hS hFc hPc hDc hK U hU hW⟩)⟩ rfl rfl hl.1 rfl (lv_room (Nat.le_of_ble_eq_true rfl)) dB_binary_72 ⟨Nat.le_of_ble_eq_true rfl, Nat.le_of_ble_eq_true rfl⟩) hS hFc (fun q _ h => hFc q h) (fun E ce q9 u9 t H1 locs ht hvm _ hB hz1 hk1 hS hce hcv hcl => ?_)
                obtain ⟨rfl, hP1, hK1, hD1⟩ := hB
                rw [ht] at hP1
                obtain ⟨hP, hD⟩ := xjoin (W := [(a15, .inr (2, [.ref a16, .int v22, .int v23])), (a16, .inl (cT 2, 4096, .inr (.inl f21))), (a17, .inr (2, [.ref a18, .int v25, .int v26])), (a18, .inl (cT 2, 4096, .inr (.inl f24))), (a0, .inr (0, [.ref a1, .ref a3, .ref a5, .ref a7, .ref a8, .ref a13, .int v19, .int o23.2])), (a1, .inr (1, [.ref a2, .int v1, .int v2])), (a2, .inl (cT 0, 4096, .inl f0)), (a3, .inr (1, [.ref a4, .int v4, .int v5])), (a4, .inl (cT 0, 4096, .inl f3)), (a5, .inr (1, [.ref a6, .int o26.2.2.2.1, .int o26.2.2.2.2])), (a6, .inl (cT 0, 4096, .inl o26.2.2.1)), (a7, .inl (cT 3, 8, .inr (.inr (.inr (.inr rf0))))), (a8, .inr (3, [.ref a9, .ref a10, .ref p11, .ref p13, .int v15])), (a9, .inl (cT 1, 2048, .inl f9)), (a10, .inl (cT 1, 2048, .inl f10)), (p11, .inl (cT 1, 2048, .inl f12)), (p13, .inl (cT 1, 2048, .inl f14)), (a13, .inr (2, [.ref a14, .int o20.2.2.1, .int o20.2.2.2])), (a14, .inl (cT 2, 4096, .inr (.inl o20.2.1)))]) hP hD [4, 5, 6, 7, 8, 9, 10, 11, 12, 13, 14, 15, 16, 17, 18] [0, 1, 2, 3] 4 rfl rfl (by decide) (by decide) hk1 hFc hP1 hD1
                generalize H1 = H at hP hS hce ⊢
                obtain rfl := Option.some.inj hf
                obtain ⟨hP9, hD9⟩ := xsub (wc := [(a0, .inr (0, [.ref a1, .ref a3, .ref a5, .ref a7, .ref a8, .ref a13, .int v19, .int o23.2])), (a1, .inr (1, [.ref a2, .int v1, .int v2])), (a2, .inl (cT 0, 4096, .inl f0)), (a3, .inr (1, [.ref a4, .int v4, .int v5])), (a4, .inl (cT 0, 4096, .inl f3)), (a5, .inr (1, [.ref a6, .int o26.2.2.2.1, .int o26.2.2.2.2])), (a6, .inl (cT 0, 4096, .inl o26.2.2.1)), (a7, .inl (cT 3, 8, .inr (.inr (.inr (.inr rf0))))), (a8, .inr (3, [.ref a9, .ref a10, .ref p11, .ref p13, .int v15])), (a9, .inl (cT 1, 2048, .inl f9)), (a10, .inl (cT 1, 2048, .inl f10)), (p11, .inl (cT 1, 2048, .inl f12)), (p13, .inl (cT 1, 2048, .inl f14)), (a13, .inr (2, [.ref a14, .int o20.2.2.1, .int o20.2.2.2])), (a14, .inl (cT 2, 4096, .inr (.inl o20.2.1))), (a15, .inr (2, [.ref a16, .int v22, .int v23])), (a16, .inl (cT 2, 4096, .inr (.inl f21))), (a17, .inr (2, [.ref a18, .int v25, .int v26])), (a18, .inl (cT 2, 4096, .inr (.inl f24)))]) hP hD [4, 5, 6, 7, 8, 9, 10, 11, 12, 13, 14, 15, 16, 17, 18, 0, 1, 2, 3] rfl rfl (by decide)
                exact vx_out (E := "java/lang/IndexOutOfBoundsException") (fun x h => (hne x h).elim) hlocks hce hcv hcl (fun t ht ha => ⟨(), trivial, ⟨rfl, by rw [ht]; exact hP9, va_K.moved ha hK, hD9⟩, hS.F ht⟩) hS.2.2 (Nat.le_of_ble_eq_true rfl) (Nat.le_of_ble_eq_true rfl)
              rw [if_neg hk30] at hf
              exact nomatch hf
            rw [if_neg hk25] at hf
            by_cases hk32 : o23.1 = 1
            · rw [if_pos hk32] at hf
              obtain rfl := Option.some.inj hf
              exact absurd (show (2 : Nat) = 1 from hkd) (by decide)
            rw [if_neg hk32] at hf
            exact nomatch hf
          rw [if_neg hk15] at hf
          by_cases hk33 : o13 = 1
          · rw [if_pos hk33] at hf
            obtain rfl := Option.some.inj hf
            exact absurd (show (3 : Nat) = 1 from hkd) (by decide)
          rw [if_neg hk33] at hf
          exact nomatch hf
        · rw [if_neg hc] at hf
          refine lv_iconst (v := 1) hx hb dB_binary_30 (by decide) ?_
          refine lv_goto (tgt := 35) hx hb dB_binary_31 (by decide) ?_
          obtain ⟨o13, hq14, hf⟩ := xbind hf
          by_cases hk15 : o13 = 0
          · rw [if_pos hk15] at hf
            obtain ⟨hPc, hDc, hFc⟩ := xcut (wc := []) hP hD hS hA [] rfl rfl (by decide)
            refine va_callv (va_runS (As := [.int 1]) (rest := []) ⟨hx, hb, hml, hown, htx⟩ (gB_demand l hl9 D cT aK aV H.size n (1 : Int32) o13 hq14 hk15) ⟨callB_of 1 htx (xw_goodC kw_1_221) rfl rfl rfl (htx _ kw_1_1) (htx _ kw_1_219) ⟨by decide, by decide, by decide +kernel⟩ ⟨Nat.le_of_ble_eq_true rfl, Nat.le_of_ble_eq_true rfl⟩, htx _ kw_1_220⟩ ⟨xPre_blind, (fun U hU hW => ⟨rfl, xPre_of hZ hS hFc hPc hDc hK U hU hW⟩)⟩ rfl rfl hl.1 rfl (lv_room (Nat.le_of_ble_eq_true rfl)) dB_binary_35 ⟨Nat.le_of_ble_eq_true rfl, Nat.le_of_ble_eq_true rfl⟩) hS (fun q _ h => hFc q h) hFc (fun u9 t H1 locs ht hvm hr9 hB hz1 hk1 hS => ?_)
            obtain ⟨hP1, hK1, hD1⟩ := hB
            rw [ht] at hP1
            obtain ⟨hP, hD⟩ := xjoin (W := [(a0, .inr (0, [.ref a1, .ref a3, .ref a5, .ref a7, .ref a8, .ref a13, .int v19, .int v20])), (a1, .inr (1, [.ref a2, .int v1, .int v2])), (a2, .inl (cT 0, 4096, .inl f0)), (a3, .inr (1, [.ref a4, .int v4, .int v5])), (a4, .inl (cT 0, 4096, .inl f3)), (a5, .inr (1, [.ref a6, .int v7, .int v8])), (a6, .inl (cT 0, 4096, .inl f6)), (a7, .inl (cT 3, 8, .inr (.inr (.inr (.inr rf0))))), (a8, .inr (3, [.ref a9, .ref a10, .ref p11, .ref p13, .int v15])), (a9, .inl (cT 1, 2048, .inl f9)), (a10, .inl (cT 1, 2048, .inl f10)), (p11, .inl (cT 1, 2048, .inl f12)), (p13, .inl (cT 1, 2048, .inl f14)), (a13, .inr (2, [.ref a14, .int v17, .int v18])), (a14, .inl (cT 2, 4096, .inr (.inl f16))), (a15, .inr (2, [.ref a16, .int v22, .int v23])), (a16, .inl (cT 2, 4096, .inr (.inl f21))), (a17, .inr (2, [.ref a18, .int v25, .int v26])), (a18, .inl (cT 2, 4096, .inr (.inl f24)))]) hP hD [] [0, 1, 2, 3, 4, 5, 6, 7, 8, 9, 10, 11, 12, 13, 14, 15, 16, 17, 18] 19 rfl rfl (by decide) (by decide) hk1 hFc hP1 hD1
            generalize H1 = H at hP hS ⊢
            refine lv_aload_n hx hb dB_binary_38 rfl (lv_at hl 0 rfl) ?_
            refine va_get (D := D) (ci := 0) (v := .ref a13) (C := "ValueBench") (T := TB) (N := 8) hx hb htx inB hown hK hP 0 rfl rfl 5 (by decide) (htx _ kw_1_100) (fun _ h9 => h9) rfl dB_binary_39 ?_
            obtain ⟨o16, hq17, hf⟩ := xbind hf
            obtain ⟨hPc, hDc, hFc⟩ := xcut (wc := [(a13, .inr (2, [.ref a14, .int v17, .int v18])), (a14, .inl (cT 2, 4096, .inr (.inl f16)))]) hP hD hS hA [13, 14] rfl rfl (by decide)
            refine va_callv (va_runV (C := "ValueBench$Row") (As := []) (rest := []) ⟨hx, hb, hml, hown, htx⟩ (gR_clear l hl9 D cT aK aV H.size n a13 a14 f16 v17 v18 o16 hq17) ⟨callB_of 0 htx (xw_goodC kw_2_22) rfl rfl rfl (htx _ kw_1_4) (htx _ kw_2_19) ⟨by decide, by decide, by decide +kernel⟩ ⟨Nat.le_of_ble_eq_true rfl, Nat.le_of_ble_eq_true rfl⟩, (htx _ kw_2_20), (htx _ kw_2_21)⟩ ⟨xPre_blind, va_recv hK hP (ci := 2) rfl (q0 := 13) rfl, (fun U hU hW => ⟨rfl, xPre_of hZ hS hFc hPc hDc hK U hU hW⟩)⟩ rfl rfl hl.1 rfl (lv_room (Nat.le_of_ble_eq_true rfl)) dB_binary_42 ⟨Nat.le_of_ble_eq_true rfl, Nat.le_of_ble_eq_true rfl⟩) hS (fun q _ h => hFc q h) hFc (fun u9 t H1 locs ht hvm hr9 hB hz1 hk1 hS => ?_)
            obtain ⟨hP1, hK1, hD1⟩ := hB
            rw [ht] at hP1
            obtain ⟨hP, hD⟩ := xjoin (W := [(a0, .inr (0, [.ref a1, .ref a3, .ref a5, .ref a7, .ref a8, .ref a13, .int v19, .int v20])), (a1, .inr (1, [.ref a2, .int v1, .int v2])), (a2, .inl (cT 0, 4096, .inl f0)), (a3, .inr (1, [.ref a4, .int v4, .int v5])), (a4, .inl (cT 0, 4096, .inl f3)), (a5, .inr (1, [.ref a6, .int v7, .int v8])), (a6, .inl (cT 0, 4096, .inl f6)), (a7, .inl (cT 3, 8, .inr (.inr (.inr (.inr rf0))))), (a8, .inr (3, [.ref a9, .ref a10, .ref p11, .ref p13, .int v15])), (a9, .inl (cT 1, 2048, .inl f9)), (a10, .inl (cT 1, 2048, .inl f10)), (p11, .inl (cT 1, 2048, .inl f12)), (p13, .inl (cT 1, 2048, .inl f14)), (a15, .inr (2, [.ref a16, .int v22, .int v23])), (a16, .inl (cT 2, 4096, .inr (.inl f21))), (a17, .inr (2, [.ref a18, .int v25, .int v26])), (a18, .inl (cT 2, 4096, .inr (.inl f24))), (a13, .inr (2, [.ref a14, .int o16.1, .int o16.2])), (a14, .inl (cT 2, 4096, .inr (.inl f16)))]) hP hD [13, 14] [0, 1, 2, 3, 4, 5, 6, 7, 8, 9, 10, 11, 12, 15, 16, 17, 18] 17 rfl rfl (by decide) (by decide) hk1 hFc hP1 hD1
            generalize H1 = H at hP hS ⊢
            refine lv_aload_n hx hb dB_binary_45 rfl (lv_at hl 0 rfl) ?_
            refine lv_iload_n hx hb dB_binary_46 rfl (lv_at hl 2 rfl) ?_
            refine lv_aload_n hx hb dB_binary_47 rfl (lv_at hl 0 rfl) ?_
            refine va_get (D := D) (ci := 0) (v := .ref a7) (C := "ValueBench") (T := TB) (N := 8) hx hb htx inB hown hK hP 0 rfl rfl 3 (by decide) (htx _ kw_1_98) (fun _ h9 => h9) rfl dB_binary_48 ?_
            refine lv_iload_n hx hb dB_binary_51 rfl (lv_at hl 3 rfl) ?_
            obtain ⟨hg18, hf⟩ := xifn hf
            refine va_aldq hx hb hK hP 7 3 rfl rfl hg18 dB_binary_52 ?_
            refine W.eq (g2 := F0 m 53 ls [va_rf (rf0 x3.toNatClampNeg), .int x2, .ref a0]) rfl ?_
            rw [hr3 hg18]
            refine W.eq (g2 := F0 m 53 ls [.ref a15, .int x2, .ref a0]) rfl ?_
            refine lv_aload_n hx hb dB_binary_53 rfl (lv_at hl 0 rfl) ?_
            refine va_get (D := D) (ci := 0) (v := .ref a7) (C := "ValueBench") (T := TB) (N := 8) hx hb htx inB hown hK hP 0 rfl rfl 3 (by decide) (htx _ kw_1_98) (fun _ h9 => h9) rfl dB_binary_54 ?_
            refine lv_iload hx hb dB_binary_57 (lv_at hl 4 rfl) ?_
            obtain ⟨hg19, hf⟩ := xifn hf
            refine va_aldq hx hb hK hP 7 3 rfl rfl hg19 dB_binary_59 ?_
            refine W.eq (g2 := F0 m 60 ls [va_rf (rf0 x4.toNatClampNeg), .ref a15, .int x2, .ref a0]) rfl ?_
            rw [hr4 hg19]
            refine W.eq (g2 := F0 m 60 ls [.ref a17, .ref a15, .int x2, .ref a0]) rfl ?_
            refine lv_aload_n hx hb dB_binary_60 rfl (lv_at hl 0 rfl) ?_
            refine va_get (D := D) (ci := 0) (v := .ref a13) (C := "ValueBench") (T := TB) (N := 8) hx hb htx inB hown hK hP 0 rfl rfl 5 (by decide) (htx _ kw_1_100) (fun _ h9 => h9) rfl dB_binary_61 ?_
            obtain ⟨o20, hq21, hf⟩ := xbind hf
            obtain ⟨hPc, hDc, hFc⟩ := xcut (wc := [(a15, .inr (2, [.ref a16, .int v22, .int v23])), (a16, .inl (cT 2, 4096, .inr (.inl f21))), (a17, .inr (2, [.ref a18, .int v25, .int v26])), (a18, .inl (cT 2, 4096, .inr (.inl f24))), (a13, .inr (2, [.ref a14, .int o16.1, .int o16.2])), (a14, .inl (cT 2, 4096, .inr (.inl f16)))]) hP hD hS hA [13, 14, 15, 16, 17, 18] rfl rfl (by decide)
            refine va_calli (va_runS (As := [.int x2, .ref a15, .ref a17, .ref a13]) (rest := [.ref a0]) ⟨hx, hb, hml, hown, htx⟩ (gA_apply l hl9 D cT aK aV H.size d n a15 a16 a17 a18 a13 a14 x2 f21 v22 v23 f24 v25 v26 f16 o16.1 o16.2 o20 hq21) ⟨callB_of 4 htx (xw_goodC kw_3_105) rfl rfl rfl (htx _ kw_1_21) (htx _ kw_3_103) ⟨by decide, by decide, by decide +kernel⟩ ⟨(by show (16 * d + 5) + 1 ≤ 16 * d + 7; omega), (by show 8 + (4 + 11) + (400 * d + 157) ≤ 400 * d + 180; omega)⟩, htx _ kw_3_104⟩ ⟨xPre_blind, (fun U hU hW => ⟨rfl, xPre_of hZ hS hFc hPc hDc hK U hU hW⟩)⟩ rfl rfl hl.1 rfl (lv_room (Nat.le_of_ble_eq_true rfl)) dB_binary_64 ⟨Nat.le_of_ble_eq_true rfl, Nat.le_of_ble_eq_true rfl⟩) hS (fun q _ h => hFc q h) hFc (fun r22 u9 t H1 locs ht hvm hr9 hB hz1 hk1 hS => ?_)
            obtain ⟨hP1, hK1, hD1⟩ := hB
            rw [ht] at hP1
            obtain ⟨hP, hD⟩ := xjoin (W := [(a0, .inr (0, [.ref a1, .ref a3, .ref a5, .ref a7, .ref a8, .ref a13, .int v19, .int v20])), (a1, .inr (1, [.ref a2, .int v1, .int v2])), (a2, .inl (cT 0, 4096, .inl f0)), (a3, .inr (1, [.ref a4, .int v4, .int v5])), (a4, .inl (cT 0, 4096, .inl f3)), (a5, .inr (1, [.ref a6, .int v7, .int v8])), (a6, .inl (cT 0, 4096, .inl f6)), (a7, .inl (cT 3, 8, .inr (.inr (.inr (.inr rf0))))), (a8, .inr (3, [.ref a9, .ref a10, .ref p11, .ref p13, .int v15])), (a9, .inl (cT 1, 2048, .inl f9)), (a10, .inl (cT 1, 2048, .inl f10)), (p11, .inl (cT 1, 2048, .inl f12)), (p13, .inl (cT 1, 2048, .inl f14)), (a15, .inr (2, [.ref a16, .int v22, .int v23])), (a16, .inl (cT 2, 4096, .inr (.inl f21))), (a17, .inr (2, [.ref a18, .int v25, .int v26])), (a18, .inl (cT 2, 4096, .inr (.inl f24))), (a13, .inr (2, [.ref a14, .int o20.2.2.1, .int o20.2.2.2])), (a14, .inl (cT 2, 4096, .inr (.inl o20.2.1)))]) hP hD [13, 14, 15, 16, 17, 18] [0, 1, 2, 3, 4, 5, 6, 7, 8, 9, 10, 11, 12] 13 rfl rfl (by decide) (by decide) hk1 hFc hP1 hD1
            generalize H1 = H at hP hS ⊢
            rw [hr9]
            refine W.eq (g2 := F0 m 67 ls [.int o20.1, .ref a0]) rfl ?_
            obtain ⟨o23, hq24, hf⟩ := xbind hf
            by_cases hk25 : o23.1 = 0
            · rw [if_pos hk25] at hf
              obtain ⟨hPc, hDc, hFc⟩ := xcut (wc := [(a0, .inr (0, [.ref a1, .ref a3, .ref a5, .ref a7, .ref a8, .ref a13, .int v19, .int v20])), (a1, .inr (1, [.ref a2, .int v1, .int v2])), (a2, .inl (cT 0, 4096, .inl f0)), (a3, .inr (1, [.ref a4, .int v4, .int v5])), (a4, .inl (cT 0, 4096, .inl f3)), (a5, .inr (1, [.ref a6, .int v7, .int v8])), (a6, .inl (cT 0, 4096, .inl f6)), (a7, .inl (cT 3, 8, .inr (.inr (.inr (.inr rf0))))), (a8, .inr (3, [.ref a9, .ref a10, .ref p11, .ref p13, .int v15])), (a9, .inl (cT 1, 2048, .inl f9)), (a10, .inl (cT 1, 2048, .inl f10)), (p11, .inl (cT 1, 2048, .inl f12)), (p13, .inl (cT 1, 2048, .inl f14)), (a13, .inr (2, [.ref a14, .int o20.2.2.1, .int o20.2.2.2])), (a14, .inl (cT 2, 4096, .inr (.inl o20.2.1)))]) hP hD hS hA [0, 1, 2, 3, 4, 5, 6, 7, 8, 9, 10, 11, 12, 17, 18] rfl rfl (by decide)
              refine va_callv (va_runV (C := "ValueBench") (As := [.int o20.1]) (rest := []) ⟨hx, hb, hml, hown, htx⟩ (gB_demandDone l hl9 D cT aK aV H.size n a0 a1 a2 a3 a4 a5 a6 a7 a8 a9 a10 a13 a14 rf0 o20.1 f0 v1 v2 f3 v4 v5 f6 v7 v8 f9 f10 p11 f12 p13 f14 v15 o20.2.1 o20.2.2.1 o20.2.2.2 v19 v20 o23 hq24 hk25) ⟨callB_of 1 htx (xw_goodC kw_3_222) rfl rfl rfl (htx _ kw_1_1) (htx _ kw_3_219) ⟨by decide, by decide, by decide +kernel⟩ ⟨Nat.le_of_ble_eq_true rfl, Nat.le_of_ble_eq_true rfl⟩, (htx _ kw_3_221), (htx _ kp_B_demandDone)⟩ ⟨xPre_blind, va_recv hK hP (ci := 0) rfl (q0 := 0) rfl, (fun U hU hW => ⟨rfl, xPre_of hZ hS hFc hPc hDc hK U hU hW⟩)⟩ rfl rfl hl.1 rfl (lv_room (Nat.le_of_ble_eq_true rfl)) dB_binary_67 ⟨Nat.le_of_ble_eq_true rfl, Nat.le_of_ble_eq_true rfl⟩) hS (fun q _ h => hFc q h) hFc (fun u9 t H1 locs ht hvm hr9 hB hz1 hk1 hS => ?_)
              obtain ⟨hP1, hK1, hD1⟩ := hB
              rw [ht] at hP1
              obtain ⟨hP, hD⟩ := xjoin (W := [(a15, .inr (2, [.ref a16, .int v22, .int v23])), (a16, .inl (cT 2, 4096, .inr (.inl f21))), (a17, .inr (2, [.ref a18, .int v25, .int v26])), (a18, .inl (cT 2, 4096, .inr (.inl f24))), (a0, .inr (0, [.ref a1, .ref a3, .ref a5, .ref a7, .ref a8, .ref a13, .int v19, .int o23.2])), (a1, .inr (1, [.ref a2, .int v1, .int v2])), (a2, .inl (cT 0, 4096, .inl f0)), (a3, .inr (1, [.ref a4, .int v4, .int v5])), (a4, .inl (cT 0, 4096, .inl f3)), (a5, .inr (1, [.ref a6, .int v7, .int v8])), (a6, .inl (cT 0, 4096, .inl f6)), (a7, .inl (cT 3, 8, .inr (.inr (.inr (.inr rf0))))), (a8, .inr (3, [.ref a9, .ref a10, .ref p11, .ref p13, .int v15])), (a9, .inl (cT 1, 2048, .inl f9)), (a10, .inl (cT 1, 2048, .inl f10)), (p11, .inl (cT 1, 2048, .inl f12)), (p13, .inl (cT 1, 2048, .inl f14)), (a13, .inr (2, [.ref a14, .int o20.2.2.1, .int o20.2.2.2])), (a14, .inl (cT 2, 4096, .inr (.inl o20.2.1)))]) hP hD [0, 1, 2, 3, 4, 5, 6, 7, 8, 9, 10, 11, 12, 17, 18] [13, 14, 15, 16] 4 rfl rfl (by decide) (by decide) hk1 hFc hP1 hD1
              generalize H1 = H at hP hS ⊢
              refine lv_aload_n hx hb dB_binary_70 rfl (lv_at hl 0 rfl) ?_
              refine lv_iload_n hx hb dB_binary_71 rfl (lv_at hl 1 rfl) ?_
              obtain ⟨o26, hq27, hf⟩ := xbind hf
              by_cases hk28 : o26.1 = 0
              · rw [if_pos hk28] at hf
                obtain ⟨hPc, hDc, hFc⟩ := xcut (wc := [(a0, .inr (0, [.ref a1, .ref a3, .ref a5, .ref a7, .ref a8, .ref a13, .int v19, .int o23.2])), (a1, .inr (1, [.ref a2, .int v1, .int v2])), (a2, .inl (cT 0, 4096, .inl f0)), (a3, .inr (1, [.ref a4, .int v4, .int v5])), (a4, .inl (cT 0, 4096, .inl f3)), (a5, .inr (1, [.ref a6, .int v7, .int v8])), (a6, .inl (cT 0, 4096, .inl f6)), (a7, .inl (cT 3, 8, .inr (.inr (.inr (.inr rf0))))), (a8, .inr (3, [.ref a9, .ref a10, .ref p11, .ref p13, .int v15])), (a9, .inl (cT 1, 2048, .inl f9)), (a10, .inl (cT 1, 2048, .inl f10)), (p11, .inl (cT 1, 2048, .inl f12)), (p13, .inl (cT 1, 2048, .inl f14)), (a13, .inr (2, [.ref a14, .int o20.2.2.1, .int o20.2.2.2])), (a14, .inl (cT 2, 4096, .inr (.inl o20.2.1)))]) hP hD hS hA [4, 5, 6, 7, 8, 9, 10, 11, 12, 13, 14, 15, 16, 17, 18] rfl rfl (by decide)
                refine va_calli (va_runV (C := "ValueBench") (As := [.int x1]) (rest := []) ⟨hx, hb, hml, hown, htx⟩ (gB_keepSpare l hl9 D cT aK aV H.size d n a0 a1 a2 a3 a4 a5 a6 a7 a8 a9 a10 a13 a14 rf0 b1 x1 f0 v1 v2 f3 v4 v5 f6 v7 v8 f9 f10 p11 f12 p13 f14 v15 o20.2.1 o20.2.2.1 o20.2.2.2 v19 o23.2 hr1 o26 hq27 hk28) ⟨callB_of 1 htx (xw_goodC kw_3_17) rfl rfl rfl (htx _ kw_1_1) (htx _ kw_3_14) ⟨by decide, by decide, by decide +kernel⟩ ⟨(by show (16 * d + 6) + 1 ≤ 16 * d + 7; omega), (by show 8 + (3 + 11) + (400 * d + 100) ≤ 400 * d + 180; omega)⟩, (htx _ kw_3_16), (htx _ kp_B_keepSpare)⟩ ⟨xPre_blind, va_recv hK hP (ci := 0) rfl (q0 := 4) rfl, (fun U hU hW => ⟨rfl, xPre_of hZ hS hFc hPc hDc hK U hU hW⟩)⟩ rfl rfl hl.1 rfl (lv_room (Nat.le_of_ble_eq_true rfl)) dB_binary_72 ⟨Nat.le_of_ble_eq_true rfl, Nat.le_of_ble_eq_true rfl⟩) hS (fun q _ h => hFc q h) hFc (fun r29 u9 t H1 locs ht hvm hr9 hB hz1 hk1 hS => ?_)
                obtain ⟨hP1, hK1, hD1⟩ := hB
                rw [ht] at hP1
                obtain ⟨hP, hD⟩ := xjoin (W := [(a15, .inr (2, [.ref a16, .int v22, .int v23])), (a16, .inl (cT 2, 4096, .inr (.inl f21))), (a17, .inr (2, [.ref a18, .int v25, .int v26])), (a18, .inl (cT 2, 4096, .inr (.inl f24))), (a0, .inr (0, [.ref a1, .ref a3, .ref a5, .ref a7, .ref a8, .ref b1, .int v19, .int o23.2])), (a1, .inr (1, [.ref a2, .int v1, .int v2])), (a2, .inl (cT 0, 4096, .inl f0)), (a3, .inr (1, [.ref a4, .int v4, .int v5])), (a4, .inl (cT 0, 4096, .inl f3)), (a5, .inr (1, [.ref a6, .int o26.2.2.2.1, .int o26.2.2.2.2])), (a6, .inl (cT 0, 4096, .inl o26.2.2.1)), (a7, .inl (cT 3, 8, .inr (.inr (.inr (.inr (va_up rf0 x1.toNatClampNeg (some a13))))))), (a8, .inr (3, [.ref a9, .ref a10, .ref p11, .ref p13, .int v15])), (a9, .inl (cT 1, 2048, .inl f9)), (a10, .inl (cT 1, 2048, .inl f10)), (p11, .inl (cT 1, 2048, .inl f12)), (p13, .inl (cT 1, 2048, .inl f14)), (a13, .inr (2, [.ref a14, .int o20.2.2.1, .int o20.2.2.2])), (a14, .inl (cT 2, 4096, .inr (.inl o20.2.1)))]) hP hD [4, 5, 6, 7, 8, 9, 10, 11, 12, 13, 14, 15, 16, 17, 18] [0, 1, 2, 3] 4 rfl rfl (by decide) (by decide) hk1 hFc hP1 hD1
                generalize H1 = H at hP hS ⊢
                rw [hr9]
                refine W.eq (g2 := F0 m 75 ls [.int o26.2.1]) rfl ?_
                refine lv_pop hx hb dB_binary_75 rfl ?_
                obtain rfl := Option.some.inj hf
                exact absurd (show (0 : Nat) = 1 from hkd) (by decide)
              rw [if_neg hk28] at hf
              by_cases hk30 : o26.1 = 1
              · rw [if_pos hk30] at hf
                obtain ⟨hPc, hDc, hFc⟩ := xcut (wc := [(a0, .inr (0, [.ref a1, .ref a3, .ref a5, .ref a7, .ref a8, .ref a13, .int v19, .int o23.2])), (a1, .inr (1, [.ref a2, .int v1, .int v2])), (a2, .inl (cT 0, 4096, .inl f0)), (a3, .inr (1, [.ref a4, .int v4, .int v5])), (a4, .inl (cT 0, 4096, .inl f3)), (a5, .inr (1, [.ref a6, .int v7, .int v8])), (a6, .inl (cT 0, 4096, .inl f6)), (a7, .inl (cT 3, 8, .inr (.inr (.inr (.inr rf0))))), (a8, .inr (3, [.ref a9, .ref a10, .ref p11, .ref p13, .int v15])), (a9, .inl (cT 1, 2048, .inl f9)), (a10, .inl (cT 1, 2048, .inl f10)), (p11, .inl (cT 1, 2048, .inl f12)), (p13, .inl (cT 1, 2048, .inl f14)), (a13, .inr (2, [.ref a14, .int o20.2.2.1, .int o20.2.2.2])), (a14, .inl (cT 2, 4096, .inr (.inl o20.2.1)))]) hP hD hS hA [4, 5, 6, 7, 8, 9, 10, 11, 12, 13, 14, 15, 16, 17, 18] rfl rfl (by decide)
                refine xx_thr (vx_runV (C := "ValueBench") (As := [.int x1]) (rest := []) ⟨hx, hb, hml, hown, htx⟩ (gB_keepSpare_1 l hl9 D cT aK aV H.size d n a0 a1 a2 a3 a4 a5 a6 a7 a8 a9 a10 a13 a14 rf0 b1 x1 f0 v1 v2 f3 v4 v5 f6 v7 v8 f9 f10 p11 f12 p13 f14 v15 o20.2.1 o20.2.2.1 o20.2.2.2 v19 o23.2 hr1 o26 hq27 hk30) ⟨callB_of 1 htx (xw_goodC kw_3_17) rfl rfl rfl (htx _ kw_1_1) (htx _ kw_3_14) ⟨by decide, by decide, by decide +kernel⟩ ⟨(by show (16 * d + 6) + 1 ≤ 16 * d + 7; omega), (by show 8 + (3 + 11) + (400 * d + 100) ≤ 400 * d + 180; omega)⟩, (htx _ kw_3_16), (htx _ kp_B_keepSpare)⟩ ⟨xPre_blind, va_recv hK hP (ci := 0) rfl (q0 := 4) rfl, (fun U hU hW => ⟨rfl, xPre_of hZ hS hFc hPc hDc hK U hU hW⟩)⟩ rfl rfl hl.1 rfl (lv_room (Nat.le_of_ble_eq_true rfl)) dB_binary_72 ⟨Nat.le_of_ble_eq_true rfl, Nat.le_of_ble_eq_true rfl⟩) hS hFc (fun q _ h => hFc q h) (fun E ce q9 u9 t H1 locs ht hvm _ hB hz1 hk1 hS hce hcv hcl => ?_)
                obtain ⟨rfl, hP1, hK1, hD1⟩ := hB
                rw [ht] at hP1
                obtain ⟨hP, hD⟩ := xjoin (W := [(a15, .inr (2, [.ref a16, .int v22, .int v23])), (a16, .inl (cT 2, 4096, .inr (.inl f21))), (a17, .inr (2, [.ref a18, .int v25, .int v26])), (a18, .inl (cT 2, 4096, .inr (.inl f24))), (a0, .inr (0, [.ref a1, .ref a3, .ref a5, .ref a7, .ref a8, .ref a13, .int v19, .int o23.2])), (a1, .inr (1, [.ref a2, .int v1, .int v2])), (a2, .inl (cT 0, 4096, .inl f0)), (a3, .inr (1, [.ref a4, .int v4, .int v5])), (a4, .inl (cT 0, 4096, .inl f3)), (a5, .inr (1, [.ref a6, .int o26.2.2.2.1, .int o26.2.2.2.2])), (a6, .inl (cT 0, 4096, .inl o26.2.2.1)), (a7, .inl (cT 3, 8, .inr (.inr (.inr (.inr rf0))))), (a8, .inr (3, [.ref a9, .ref a10, .ref p11, .ref p13, .int v15])), (a9, .inl (cT 1, 2048, .inl f9)), (a10, .inl (cT 1, 2048, .inl f10)), (p11, .inl (cT 1, 2048, .inl f12)), (p13, .inl (cT 1, 2048, .inl f14)), (a13, .inr (2, [.ref a14, .int o20.2.2.1, .int o20.2.2.2])), (a14, .inl (cT 2, 4096, .inr (.inl o20.2.1)))]) hP hD [4, 5, 6, 7, 8, 9, 10, 11, 12, 13, 14, 15, 16, 17, 18] [0, 1, 2, 3] 4 rfl rfl (by decide) (by decide) hk1 hFc hP1 hD1
                generalize H1 = H at hP hS hce ⊢
                obtain rfl := Option.some.inj hf
                obtain ⟨hP9, hD9⟩ := xsub (wc := [(a0, .inr (0, [.ref a1, .ref a3, .ref a5, .ref a7, .ref a8, .ref a13, .int v19, .int o23.2])), (a1, .inr (1, [.ref a2, .int v1, .int v2])), (a2, .inl (cT 0, 4096, .inl f0)), (a3, .inr (1, [.ref a4, .int v4, .int v5])), (a4, .inl (cT 0, 4096, .inl f3)), (a5, .inr (1, [.ref a6, .int o26.2.2.2.1, .int o26.2.2.2.2])), (a6, .inl (cT 0, 4096, .inl o26.2.2.1)), (a7, .inl (cT 3, 8, .inr (.inr (.inr (.inr rf0))))), (a8, .inr (3, [.ref a9, .ref a10, .ref p11, .ref p13, .int v15])), (a9, .inl (cT 1, 2048, .inl f9)), (a10, .inl (cT 1, 2048, .inl f10)), (p11, .inl (cT 1, 2048, .inl f12)), (p13, .inl (cT 1, 2048, .inl f14)), (a13, .inr (2, [.ref a14, .int o20.2.2.1, .int o20.2.2.2])), (a14, .inl (cT 2, 4096, .inr (.inl o20.2.1))), (a15, .inr (2, [.ref a16, .int v22, .int v23])), (a16, .inl (cT 2, 4096, .inr (.inl f21))), (a17, .inr (2, [.ref a18, .int v25, .int v26])), (a18, .inl (cT 2, 4096, .inr (.inl f24)))]) hP hD [4, 5, 6, 7, 8, 9, 10, 11, 12, 13, 14, 15, 16, 17, 18, 0, 1, 2, 3] rfl rfl (by decide)
                exact vx_out (E := "java/lang/IndexOutOfBoundsException") (fun x h => (hne x h).elim) hlocks hce hcv hcl (fun t ht ha => ⟨(), trivial, ⟨rfl, by rw [ht]; exact hP9, va_K.moved ha hK, hD9⟩, hS.F ht⟩) hS.2.2 (Nat.le_of_ble_eq_true rfl) (Nat.le_of_ble_eq_true rfl)
              rw [if_neg hk30] at hf
              exact nomatch hf
            rw [if_neg hk25] at hf
            by_cases hk32 : o23.1 = 1
            · rw [if_pos hk32] at hf
              obtain rfl := Option.some.inj hf
              exact absurd (show (2 : Nat) = 1 from hkd) (by decide)
            rw [if_neg hk32] at hf
            exact nomatch hf
          rw [if_neg hk15] at hf
          by_cases hk33 : o13 = 1
          · rw [if_pos hk33] at hf
            obtain rfl := Option.some.inj hf
            exact absurd (show (3 : Nat) = 1 from hkd) (by decide)
          rw [if_neg hk33] at hf
          exact nomatch hf
