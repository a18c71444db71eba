set_option maxHeartbeats 400000000 in
set_option maxRecDepth 100000 in
theorem gB_binary_2 (l : Launch) (hl9 : l.stackTraces = false) (D : va_G) (cT : Nat → ClassId) (aK aV : Nat → Nat) (sz d n : Nat) (a0 : Nat) (a1 : Nat) (a2 : Nat) (a3 : Nat) (a4 : Nat) (a5 : Nat) (a6 : Nat) (a7 : Nat) (a8 : Nat) (a9 : Nat) (a10 : Nat) (a13 : Nat) (a14 : Nat) (a15 : Nat) (a16 : Nat) (a17 : Nat) (a18 : Nat) (rf0 : Nat → Option Nat) (b1 : Nat) (x1 : Int32) (x2 : Int32) (x3 : Int32) (x4 : Int32) (f0 : Nat → Int32) (v1 : Int32) (v2 : Int32) (f3 : Nat → Int32) (v4 : Int32) (v5 : Int32) (f6 : Nat → Int32) (v7 : Int32) (v8 : Int32) (f9 : Nat → Int32) (f10 : Nat → Int32) (p11 : Nat) (f12 : Nat → Int32) (p13 : Nat) (f14 : Nat → Int32) (v15 : Int32) (f16 : Nat → Int64) (v17 : Int32) (v18 : Int32) (v19 : Int32) (v20 : Int32) (f21 : Nat → Int64) (v22 : Int32) (v23 : Int32) (f24 : Nat → Int64) (v25 : Int32) (v26 : Int32) (hr1 : ¬ (x1 < 0 ∨ 8 ≤ x1.toNatClampNeg) → rf0 x1.toNatClampNeg = some b1) (hr3 : ¬ (x3 < 0 ∨ 8 ≤ x3.toNatClampNeg) → rf0 x3.toNatClampNeg = some a15) (hr4 : ¬ (x4 < 0 ∨ 8 ≤ x4.toNatClampNeg) → rf0 x4.toNatClampNeg = some a17) (out : Nat × (Nat → Int32) × Int32 × Int32 × (Nat → Int64) × Int32 × Int32 × Int32) (hf : fB_binary d n x1 x2 x3 x4 f0 v1 v2 f3 v4 v5 f6 v7 v8 f9 f10 p11 f12 p13 f14 v15 f16 v17 v18 v19 v20 f21 v22 v23 f24 v25 v26 = some out) (hkd : out.1 = 2) : xMetX l yB_binary wyB_binary (16 * d + 7) 3 18 (400 * d + 180) D cT aK aV sz [.ref a0, .int x1, .int x2, .int x3, .int x4] [(a0, .inr (0, [.ref a1, .ref a3, .ref a5, .ref a7, .ref a8, .ref a13, .int v19, .int v20])), (a1, .inr (1, [.ref a2, .int v1, .int v2])), (a2, .inl (cT 0, 4096, .inl f0)), (a3, .inr (1, [.ref a4, .int v4, .int v5])), (a4, .inl (cT 0, 4096, .inl f3)), (a5, .inr (1, [.ref a6, .int v7, .int v8])), (a6, .inl (cT 0, 4096, .inl f6)), (a7, .inl (cT 3, 8, .inr (.inr (.inr (.inr rf0))))), (a8, .inr (3, [.ref a9, .ref a10, .ref p11, .ref p13, .int v15])), (a9, .inl (cT 1, 2048, .inl f9)), (a10, .inl (cT 1, 2048, .inl f10)), (p11, .inl (cT 1, 2048, .inl f12)), (p13, .inl (cT 1, 2048, .inl f14)), (a13, .inr (2, [.ref a14, .int v17, .int v18])), (a14, .inl (cT 2, 4096, .inr (.inl f16))), (a15, .inr (2, [.ref a16, .int v22, .int v23])), (a16, .inl (cT 2, 4096, .inr (.inl f21))), (a17, .inr (2, [.ref a18, .int v25, .int v26])), (a18, .inl (cT 2, 4096, .inr (.inl f24)))] "java/lang/ArithmeticException" (fun A t => xB D xcl cT A [(a0, .inr (0, [.ref a1, .ref a3, .ref a5, .ref a7, .ref a8, .ref a13, .int v19, .int out.2.2.2.2.2.2.2])), (a1, .inr (1, [.ref a2, .int v1, .int v2])), (a2, .inl (cT 0, 4096, .inl f0)), (a3, .inr (1, [.ref a4, .int v4, .int v5])), (a4, .inl (cT 0, 4096, .inl f3)), (a5, .inr (1, [.ref a6, .int out.2.2.1, .int out.2.2.2.1])), (a6, .inl (cT 0, 4096, .inl out.2.1)), (a7, .inl (cT 3, 8, .inr (.inr (.inr (.inr rf0))))), (a8, .inr (3, [.ref a9, .ref a10, .ref p11, .ref p13, .int v15])), (a9, .inl (cT 1, 2048, .inl f9)), (a10, .inl (cT 1, 2048, .inl f10)), (p11, .inl (cT 1, 2048, .inl f12)), (p13, .inl (cT 1, 2048, .inl f14)), (a13, .inr (2, [.ref a14, .int out.2.2.2.2.2.1, .int out.2.2.2.2.2.2.1])), (a14, .inl (cT 2, 4096, .inr (.inl out.2.2.2.2.1))), (a15, .inr (2, [.ref a16, .int v22, .int v23])), (a16, .inl (cT 2, 4096, .inr (.inl f21))), (a17, .inr (2, [.ref a18, .int v25, .int v26])), (a18, .inl (cT 2, 4096, .inr (.inl f24)))] t) := by
  refine vx_ofW (cc := prog_1_method_6_code) (maxL := 5) (ret := none) (by decide) rfl ?_
  intro p e s m args below meth c s₁ B hml hne hv
  obtain ⟨rfl, hsz, hZ, hP, hK, hD0⟩ := hv
  have hx := B.exec
  have hb := B.bytes
  have hr := B.returns
  have hts := atoms_spec (ws := wyB_binary) B.pre
  have htx := fun w h => hts w (List.mem_cons_of_mem _ h)
  have hown : s.vm.findClass "ValueBench" = some m.cls := findClass_of_methodNamed B.named
  have hlocks := B.notSynchronized
  subst hsz
  have hD := hD0.self (sz := s.heap.size)
  generalize hAe : va_A [(a0, .inr (0, [.ref a1, .ref a3, .ref a5, .ref a7, .ref a8, .ref a13, .int v19, .int v20])), (a1, .inr (1, [.ref a2, .int v1, .int v2])), (a2, .inl (cT 0, 4096, .inl f0)), (a3, .inr (1, [.ref a4, .int v4, .int v5])), (a4, .inl (cT 0, 4096, .inl f3)), (a5, .inr (1, [.ref a6, .int v7, .int v8])), (a6, .inl (cT 0, 4096, .inl f6)), (a7, .inl (cT 3, 8, .inr (.inr (.inr (.inr rf0))))), (a8, .inr (3, [.ref a9, .ref a10, .ref p11, .ref p13, .int v15])), (a9, .inl (cT 1, 2048, .inl f9)), (a10, .inl (cT 1, 2048, .inl f10)), (p11, .inl (cT 1, 2048, .inl f12)), (p13, .inl (cT 1, 2048, .inl f14)), (a13, .inr (2, [.ref a14, .int v17, .int v18])), (a14, .inl (cT 2, 4096, .inr (.inl f16))), (a15, .inr (2, [.ref a16, .int v22, .int v23])), (a16, .inl (cT 2, 4096, .inr (.inl f21))), (a17, .inr (2, [.ref a18, .int v25, .int v26])), (a18, .inl (cT 2, 4096, .inr (.inl f24)))] s.heap.size = A at hD hZ ⊢
  have hA : ∀ q : Nat, s.heap.size ≤ q → A q := fun q h => by rw [← hAe]; exact Or.inr h
  have hS : va_S A s.heap s.heap [] := va_S.rf
  have hP : va_P D xcl [(a0, .inr (0, [.ref a1, .ref a3, .ref a5, .ref a7, .ref a8, .ref a13, .int v19, .int v20])), (a1, .inr (1, [.ref a2, .int v1, .int v2])), (a2, .inl (cT 0, 4096, .inl f0)), (a3, .inr (1, [.ref a4, .int v4, .int v5])), (a4, .inl (cT 0, 4096, .inl f3)), (a5, .inr (1, [.ref a6, .int v7, .int v8])), (a6, .inl (cT 0, 4096, .inl f6)), (a7, .inl (cT 3, 8, .inr (.inr (.inr (.inr rf0))))), (a8, .inr (3, [.ref a9, .ref a10, .ref p11, .ref p13, .int v15])), (a9, .inl (cT 1, 2048, .inl f9)), (a10, .inl (cT 1, 2048, .inl f10)), (p11, .inl (cT 1, 2048, .inl f12)), (p13, .inl (cT 1, 2048, .inl f14)), (a13, .inr (2, [.ref a14, .int v17, .int v18])), (a14, .inl (cT 2, 4096, .inr (.inl f16))), (a15, .inr (2, [.ref a16, .int v22, .int v23])), (a16, .inl (cT 2, 4096, .inr (.inl f21))), (a17, .inr (2, [.ref a18, .int v25, .int v26])), (a18, .inl (cT 2, 4096, .inr (.inl f24)))] s.heap := hP
  have hl := lv_entry ([.ref a0, .int x1, .int x2, .int x3, .int x4]) (n := 5) (Nat.le_of_ble_eq_true rfl)
  rw [lg_entry_eq]
  generalize (lg_sl ([.ref a0, .int x1, .int x2, .int x3, .int x4]) ++ List.replicate (5 - (lg_sl ([.ref a0, .int x1, .int x2, .int x3, .int x4])).length) Slot.unset).toArray = ls at hl ⊢
  have hl : lv_has ls 5 [(0, .ref a0), (1, .int x1), (2, .int x2), (3, .int x3), (4, .int x4)] := hl
  unfold fB_binary at hf
  refine lv_iload_n hx hb dB_binary_0 rfl (lv_at hl 1 rfl) ?_
  obtain ⟨o1, hq2, hf⟩ := xbind hf
  obtain ⟨hPc, hDc, hFc⟩ := xcut (wc := []) hP hD hS hA [] rfl rfl (by decide)
  refine va_calli (va_runS (As := [.int x1]) (rest := []) ⟨hx, hb, hml, hown, htx⟩ (gB_isRegister l hl9 D cT aK aV s.heap.size n x1 o1 hq2) ⟨callB_of 1 htx (xw_goodC kw_2_18) rfl rfl rfl (htx _ kw_1_1) (htx _ kw_2_16) ⟨by decide, by decide, by decide +kernel⟩ ⟨Nat.le_of_ble_eq_true rfl, Nat.le_of_ble_eq_true rfl⟩, htx _ kw_2_17⟩ ⟨xPre_blind, (fun U hU hW => ⟨rfl, xPre_of hZ hS hFc hPc hDc hK U hU hW⟩)⟩ rfl rfl hl.1 rfl (lv_room (Nat.le_of_ble_eq_true rfl)) dB_binary_1 ⟨Nat.le_of_ble_eq_true rfl, Nat.le_of_ble_eq_true rfl⟩) hS (fun q _ h => hFc q h) hFc (fun r3 u9 t H1 locs ht hvm hr9 hB hz1 hk1 hS => ?_)
  obtain ⟨hP1, hK1, hD1⟩ := hB
  rw [ht] at hP1
  obtain ⟨hP, hD⟩ := xjoin (W := [(a0, .inr (0, [.ref a1, .ref a3, .ref a5, .ref a7, .ref a8, .ref a13, .int v19, .int v20])), (a1, .inr (1, [.ref a2, .int v1, .int v2])), (a2, .inl (cT 0, 4096, .inl f0)), (a3, .inr (1, [.ref a4, .int v4, .int v5])), (a4, .inl (cT 0, 4096, .inl f3)), (a5, .inr (1, [.ref a6, .int v7, .int v8])), (a6, .inl (cT 0, 4096, .inl f6)), (a7, .inl (cT 3, 8, .inr (.inr (.inr (.inr rf0))))), (a8, .inr (3, [.ref a9, .ref a10, .ref p11, .ref p13, .int v15])), (a9, .inl (cT 1, 2048, .inl f9)), (a10, .inl (cT 1, 2048, .inl f10)), (p11, .inl (cT 1, 2048, .inl f12)), (p13, .inl (cT 1, 2048, .inl f14)), (a13, .inr (2, [.ref a14, .int v17, .int v18])), (a14, .inl (cT 2, 4096, .inr (.inl f16))), (a15, .inr (2, [.ref a16, .int v22, .int v23])), (a16, .inl (cT 2, 4096, .inr (.inl f21))), (a17, .inr (2, [.ref a18, .int v25, .int v26])), (a18, .inl (cT 2, 4096, .inr (.inl f24)))]) hP hD [] [0, 1, 2, 3, 4, 5, 6, 7, 8, 9, 10, 11, 12, 13, 14, 15, 16, 17, 18] 19 rfl rfl (by decide) (by decide) hk1 hFc hP1 hD1
  generalize H1 = H at hP hS ⊢
  rw [hr9]
  refine W.eq (g2 := F0 m 4 ls [.int o1]) rfl ?_
  refine lv_if_eq (tgt := 34) hx hb dB_binary_4 (by decide) (fun hc => ?_) (fun hc => ?_)
  · rw [if_pos hc] at hf
    refine lv_iconst (v := 0) hx hb dB_binary_34 (by decide) ?_
    obtain ⟨o4, hq5, hf⟩ := xbind hf
    by_cases hk6 : o4 = 0
    · rw [if_pos hk6] at hf
      obtain ⟨hPc, hDc, hFc⟩ := xcut (wc := []) hP hD hS hA [] rfl rfl (by decide)
      refine va_callv (va_runS (As := [.int 0]) (rest := []) ⟨hx, hb, hml, hown, htx⟩ (gB_demand l hl9 D cT aK aV H.size n (0 : Int32) o4 hq5 hk6) ⟨callB_of 1 htx (xw_goodC kw_1_221) rfl rfl rfl (htx _ kw_1_1) (htx _ kw_1_219) ⟨by decide, by decide, by decide +kernel⟩ ⟨Nat.le_of_ble_eq_true rfl, Nat.le_of_ble_eq_true rfl⟩, htx _ kw_1_220⟩ ⟨xPre_blind, (fun U hU hW => ⟨rfl, xPre_of hZ hS hFc hPc hDc hK U hU hW⟩)⟩ rfl rfl hl.1 rfl (lv_room (Nat.le_of_ble_eq_true rfl)) dB_binary_35 ⟨Nat.le_of_ble_eq_true rfl, Nat.le_of_ble_eq_true rfl⟩) hS (fun q _ h => hFc q h) hFc (fun u9 t H1 locs ht hvm hr9 hB hz1 hk1 hS => ?_)
      obtain ⟨hP1, hK1, hD1⟩ := hB
      rw [ht] at hP1
      obtain ⟨hP, hD⟩ := xjoin (W := [(a0, .inr (0, [.ref a1, .ref a3, .ref a5, .ref a7, .ref a8, .ref a13, .int v19, .int v20])), (a1, .inr (1, [.ref a2, .int v1, .int v2])), (a2, .inl (cT 0, 4096, .inl f0)), (a3, .inr (1, [.ref a4, .int v4, .int v5])), (a4, .inl (cT 0, 4096, .inl f3)), (a5, .inr (1, [.ref a6, .int v7, .int v8])), (a6, .inl (cT 0, 4096, .inl f6)), (a7, .inl (cT 3, 8, .inr (.inr (.inr (.inr rf0))))), (a8, .inr (3, [.ref a9, .ref a10, .ref p11, .ref p13, .int v15])), (a9, .inl (cT 1, 2048, .inl f9)), (a10, .inl (cT 1, 2048, .inl f10)), (p11, .inl (cT 1, 2048, .inl f12)), (p13, .inl (cT 1, 2048, .inl f14)), (a13, .inr (2, [.ref a14, .int v17, .int v18])), (a14, .inl (cT 2, 4096, .inr (.inl f16))), (a15, .inr (2, [.ref a16, .int v22, .int v23])), (a16, .inl (cT 2, 4096, .inr (.inl f21))), (a17, .inr (2, [.ref a18, .int v25, .int v26])), (a18, .inl (cT 2, 4096, .inr (.inl f24)))]) hP hD [] [0, 1, 2, 3, 4, 5, 6, 7, 8, 9, 10, 11, 12, 13, 14, 15, 16, 17, 18] 19 rfl rfl (by decide) (by decide) hk1 hFc hP1 hD1
      generalize H1 = H at hP hS ⊢
      refine lv_aload_n hx hb dB_binary_38 rfl (lv_at hl 0 rfl) ?_
      refine va_get (D := D) (ci := 0) (v := .ref a13) (C := "ValueBench") (T := TB) (N := 8) hx hb htx inB hown hK hP 0 rfl rfl 5 (by decide) (htx _ kw_1_100) (fun _ h9 => h9) rfl dB_binary_39 ?_
      obtain ⟨o7, hq8, hf⟩ := xbind hf
      obtain ⟨hPc, hDc, hFc⟩ := xcut (wc := [(a13, .inr (2, [.ref a14, .int v17, .int v18])), (a14, .inl (cT 2, 4096, .inr (.inl f16)))]) hP hD hS hA [13, 14] rfl rfl (by decide)
      refine va_callv (va_runV (C := "ValueBench$Row") (As := []) (rest := []) ⟨hx, hb, hml, hown, htx⟩ (gR_clear l hl9 D cT aK aV H.size n a13 a14 f16 v17 v18 o7 hq8) ⟨callB_of 0 htx (xw_goodC kw_2_22) rfl rfl rfl (htx _ kw_1_4) (htx _ kw_2_19) ⟨by decide, by decide, by decide +kernel⟩ ⟨Nat.le_of_ble_eq_true rfl, Nat.le_of_ble_eq_true rfl⟩, (htx _ kw_2_20), (htx _ kw_2_21)⟩ ⟨xPre_blind, va_recv hK hP (ci := 2) rfl (q0 := 13) rfl, (fun U hU hW => ⟨rfl, xPre_of hZ hS hFc hPc hDc hK U hU hW⟩)⟩ rfl rfl hl.1 rfl (lv_room (Nat.le_of_ble_eq_true rfl)) dB_binary_42 ⟨Nat.le_of_ble_eq_true rfl, Nat.le_of_ble_eq_true rfl⟩) hS (fun q _ h => hFc q h) hFc (fun u9 t H1 locs ht hvm hr9 hB hz1 hk1 hS => ?_)
      obtain ⟨hP1, hK1, hD1⟩ := hB
      rw [ht] at hP1
      obtain ⟨hP, hD⟩ := xjoin (W := [(a0, .inr (0, [.ref a1, .ref a3, .ref a5, .ref a7, .ref a8, .ref a13, .int v19, .int v20])), (a1, .inr (1, [.ref a2, .int v1, .int v2])), (a2, .inl (cT 0, 4096, .inl f0)), (a3, .inr (1, [.ref a4, .int v4, .int v5])), (a4, .inl (cT 0, 4096, .inl f3)), (a5, .inr (1, [.ref a6, .int v7, .int v8])), (a6, .inl (cT 0, 4096, .inl f6)), (a7, .inl (cT 3, 8, .inr (.inr (.inr (.inr rf0))))), (a8, .inr (3, [.ref a9, .ref a10, .ref p11, .ref p13, .int v15])), (a9, .inl (cT 1, 2048, .inl f9)), (a10, .inl (cT 1, 2048, .inl f10)), (p11, .inl (cT 1, 2048, .inl f12)), (p13, .inl (cT 1, 2048, .inl f14)), (a15, .inr (2, [.ref a16, .int v22, .int v23])), (a16, .inl (cT 2, 4096, .inr (.inl f21))), (a17, .inr (2, [.ref a18, .int v25, .int v26])), (a18, .inl (cT 2, 4096, .inr (.inl f24))), (a13, .inr (2, [.ref a14, .int o7.1, .int o7.2])), (a14, .inl (cT 2, 4096, .inr (.inl f16)))]) hP hD [13, 14] [0, 1, 2, 3, 4, 5, 6, 7, 8, 9, 10, 11, 12, 15, 16, 17, 18] 17 rfl rfl (by decide) (by decide) hk1 hFc hP1 hD1
      generalize H1 = H at hP hS ⊢
      refine lv_aload_n hx hb dB_binary_45 rfl (lv_at hl 0 rfl) ?_
      refine lv_iload_n hx hb dB_binary_46 rfl (lv_at hl 2 rfl) ?_
      refine lv_aload_n hx hb dB_binary_47 rfl (lv_at hl 0 rfl) ?_
      refine va_get (D := D) (ci := 0) (v := .ref a7) (C := "ValueBench") (T := TB) (N := 8) hx hb htx inB hown hK hP 0 rfl rfl 3 (by decide) (htx _ kw_1_98) (fun _ h9 => h9) rfl dB_binary_48 ?_
      refine lv_iload_n hx hb dB_binary_51 rfl (lv_at hl 3 rfl) ?_
      obtain ⟨hg9, hf⟩ := xifn hf
      refine va_aldq hx hb hK hP 7 3 rfl rfl hg9 dB_binary_52 ?_
      refine W.eq (g2 := F0 m 53 ls [va_rf (rf0 x3.toNatClampNeg), .int x2, .ref a0]) rfl ?_
      rw [hr3 hg9]
      refine W.eq (g2 := F0 m 53 ls [.ref a15, .int x2, .ref a0]) rfl ?_
      refine lv_aload_n hx hb dB_binary_53 rfl (lv_at hl 0 rfl) ?_
      refine va_get (D := D) (ci := 0) (v := .ref a7) (C := "ValueBench") (T := TB) (N := 8) hx hb htx inB hown hK hP 0 rfl rfl 3 (by decide) (htx _ kw_1_98) (fun _ h9 => h9) rfl dB_binary_54 ?_
      refine lv_iload hx hb dB_binary_57 (lv_at hl 4 rfl) ?_
      obtain ⟨hg10, hf⟩ := xifn hf
      refine va_aldq hx hb hK hP 7 3 rfl rfl hg10 dB_binary_59 ?_
      refine W.eq (g2 := F0 m 60 ls [va_rf (rf0 x4.toNatClampNeg), .ref a15, .int x2, .ref a0]) rfl ?_
      rw [hr4 hg10]
      refine W.eq (g2 := F0 m 60 ls [.ref a17, .ref a15, .int x2, .ref a0]) rfl ?_
      refine lv_aload_n hx hb dB_binary_60 rfl (lv_at hl 0 rfl) ?_
      refine va_get (D := D) (ci := 0) (v := .ref a13) (C := "ValueBench") (T := TB) (N := 8) hx hb htx inB hown hK hP 0 rfl rfl 5 (by decide) (htx _ kw_1_100) (fun _ h9 => h9) rfl dB_binary_61 ?_
      obtain ⟨o11, hq12, hf⟩ := xbind hf
      obtain ⟨hPc, hDc, hFc⟩ := xcut (wc := [(a15, .inr (2, [.ref a16, .int v22, .int v23])), (a16, .inl (cT 2, 4096, .inr (.inl f21))), (a17, .inr (2, [.ref a18, .int v25, .int v26])), (a18, .inl (cT 2, 4096, .inr (.inl f24))), (a13, .inr (2, [.ref a14, .int o7.1, .int o7.2])), (a14, .inl (cT 2, 4096, .inr (.inl f16)))]) hP hD hS hA [13, 14, 15, 16, 17, 18] rfl rfl (by decide)
      refine va_calli (va_runS (As := [.int x2, .ref a15, .ref a17, .ref a13]) (rest := [.ref a0]) ⟨hx, hb, hml, hown, htx⟩ (gA_apply l hl9 D cT aK aV H.size d n a15 a16 a17 a18 a13 a14 x2 f21 v22 v23 f24 v25 v26 f16 o7.1 o7.2 o11 hq12) ⟨callB_of 4 htx (xw_goodC kw_3_105) rfl rfl rfl (htx _ kw_1_21) (htx _ kw_3_103) ⟨by decide, by decide, by decide +kernel⟩ ⟨(by show (16 * d + 5) + 1 ≤ 16 * d + 7; omega), (by show 8 + (4 + 11) + (400 * d + 157) ≤ 400 * d + 180; omega)⟩, htx _ kw_3_104⟩ ⟨xPre_blind, (fun U hU hW => ⟨rfl, xPre_of hZ hS hFc hPc hDc hK U hU hW⟩)⟩ rfl rfl hl.1 rfl (lv_room (Nat.le_of_ble_eq_true rfl)) dB_binary_64 ⟨Nat.le_of_ble_eq_true rfl, Nat.le_of_ble_eq_true rfl⟩) hS (fun q _ h => hFc q h) hFc (fun r13 u9 t H1 locs ht hvm hr9 hB hz1 hk1 hS => ?_)
      obtain ⟨hP1, hK1, hD1⟩ := hB
      rw [ht] at hP1
      obtain ⟨hP, hD⟩ := xjoin (W := [(a0, .inr (0, [.ref a1, .ref a3, .ref a5, .ref a7, .ref a8, .ref a13, .int v19, .int v20])), (a1, .inr (1, [.ref a2, .int v1, .int v2])), (a2, .inl (cT 0, 4096, .inl f0)), (a3, .inr (1, [.ref a4, .int v4, .int v5])), (a4, .inl (cT 0, 4096, .inl f3)), (a5, .inr (1, [.ref a6, .int v7, .int v8])), (a6, .inl (cT 0, 4096, .inl f6)), (a7, .inl (cT 3, 8, .inr (.inr (.inr (.inr rf0))))), (a8, .inr (3, [.ref a9, .ref a10, .ref p11, .ref p13, .int v15])), (a9, .inl (cT 1, 2048, .inl f9)), (a10, .inl (cT 1, 2048, .inl f10)), (p11, .inl (cT 1, 2048, .inl f12)), (p13, .inl (cT 1, 2048, .inl f14)), (a15, .inr (2, [.ref a16, .int v22, .int v23])), (a16, .inl (cT 2, 4096, .inr (.inl f21))), (a17, .inr (2, [.ref a18, .int v25, .int v26])), (a18, .inl (cT 2, 4096, .inr (.inl f24))), (a13, .inr (2, [.ref a14, .int o11.2.2.1, .int o11.2.2.2])), (a14, .inl (cT 2, 4096, .inr (.inl o11.2.1)))]) hP hD [13, 14, 15, 16, 17, 18] [0, 1, 2, 3, 4, 5, 6, 7, 8, 9, 10, 11, 12] 13 rfl rfl (by decide) (by decide) hk1 hFc hP1 hD1
      generalize H1 = H at hP hS ⊢
      rw [hr9]
      refine W.eq (g2 := F0 m 67 ls [.int o11.1, .ref a0]) rfl ?_
      obtain ⟨o14, hq15, hf⟩ := xbind hf
      by_cases hk16 : o14.1 = 0
      · rw [if_pos hk16] at hf
        obtain ⟨hPc, hDc, hFc⟩ := xcut (wc := [(a0, .inr (0, [.ref a1, .ref a3, .ref a5, .ref a7, .ref a8, .ref a13, .int v19, .int v20])), (a1, .inr (1, [.ref a2, .int v1, .int v2])), (a2, .inl (cT 0, 4096, .inl f0)), (a3, .inr (1, [.ref a4, .int v4, .int v5])), (a4, .inl (cT 0, 4096, .inl f3)), (a5, .inr (1, [.ref a6, .int v7, .int v8])), (a6, .inl (cT 0, 4096, .inl f6)), (a7, .inl (cT 3, 8, .inr (.inr (.inr (.inr rf0))))), (a8, .inr (3, [.ref a9, .ref a10, .ref p11, .ref p13, .int v15])), (a9, .inl (cT 1, 2048, .inl f9)), (a10, .inl (cT 1, 2048, .inl f10)), (p11, .inl (cT 1, 2048, .inl f12)), (p13, .inl (cT 1, 2048, .inl f14)), (a13, .inr (2, [.ref a14, .int o11.2.2.1, .int o11.2.2.2])), (a14, .inl (cT 2, 4096, .inr (.inl o11.2.1)))]) hP hD hS hA [0, 1, 2, 3, 4, 5, 6, 7, 8, 9, 10, 11, 12, 17, 18] rfl rfl (by decide)
        refine va_callv (va_runV (C := "ValueBench") (As := [.int o11.1]) (rest := []) ⟨hx, hb, hml, hown, htx⟩ (gB_demandDone l hl9 D cT aK aV H.size n a0 a1 a2 a3 a4 a5 a6 a7 a8 a9 a10 a13 a14 rf0 o11.1 f0 v1 v2 f3 v4 v5 f6 v7 v8 f9 f10 p11 f12 p13 f14 v15 o11.2.1 o11.2.2.1 o11.2.2.2 v19 v20 o14 hq15 hk16) ⟨callB_of 1 htx (xw_goodC kw_3_222) rfl rfl rfl (htx _ kw_1_1) (htx _ kw_3_219) ⟨by decide, by decide, by decide +kernel⟩ ⟨Nat.le_of_ble_eq_true rfl, Nat.le_of_ble_eq_true rfl⟩, (htx _ kw_3_221), (htx _ kp_B_demandDone)⟩ ⟨xPre_blind, va_recv hK hP (ci := 0) rfl (q0 := 0) rfl, (fun U hU hW => ⟨rfl, xPre_of hZ hS hFc hPc hDc hK U hU hW⟩)⟩ rfl rfl hl.1 rfl (lv_room (Nat.le_of_ble_eq_true rfl)) dB_binary_67 ⟨Nat.le_of_ble_eq_true rfl, Nat.le_of_ble_eq_true rfl⟩) hS (fun q _ h => hFc q h) hFc (fun u9 t H1 locs ht hvm hr9 hB hz1 hk1 hS => ?_)
        obtain ⟨hP1, hK1, hD1⟩ := hB
        rw [ht] at hP1
        obtain ⟨hP, hD⟩ := xjoin (W := [(a15, .inr (2, [.ref a16, .int v22, .int v23])), (a16, .inl (cT 2, 4096, .inr (.inl f21))), (a17, .inr (2, [.ref a18, .int v25, .int v26])), (a18, .inl (cT 2, 4096, .inr (.inl f24))), (a0, .inr (0, [.ref a1, .ref a3, .ref a5, .ref a7, .ref a8, .ref a13, .int v19, .int o14.2])), (a1, .inr (1, [.ref a2, .int v1, .int v2])), (a2, .inl (cT 0, 4096, .inl f0)), (a3, .inr (1, [.ref a4, .int v4, .int v5])), (a4, .inl (cT 0, 4096, .inl f3)), (a5, .inr (1, [.ref a6, .int v7, .int v8])), (a6, .inl (cT 0, 4096, .inl f6)), (a7, .inl (cT 3, 8, .inr (.inr (.inr (.inr rf0))))), (a8, .inr (3, [.ref a9, .ref a10, .ref p11, .ref p13, .int v15])), (a9, .inl (cT 1, 2048, .inl f9)), (a10, .inl (cT 1, 2048, .inl f10)), (p11, .inl (cT 1, 2048, .inl f12)), (p13, .inl (cT 1, 2048, .inl f14)), (a13, .inr (2, [.ref a14, .int o11.2.2.1, .int o11.2.2.2])), (a14, .inl (cT 2, 4096, .inr (.inl o11.2.1)))]) hP hD [0, 1, 2, 3, 4, 5, 6, 7, 8, 9, 10, 11, 12, 17, 18] [13, 14, 15, 16] 4 rfl rfl (by decide) (by decide) hk1 hFc hP1 hD1
        generalize H1 = H at hP hS ⊢
        refine lv_aload_n hx hb dB_binary_70 rfl (lv_at hl 0 rfl) ?_
        refine lv_iload_n hx hb dB_binary_71 rfl (lv_at hl 1 rfl) ?_
        obtain ⟨o17, hq18, hf⟩ := xbind hf
        by_cases hk19 : o17.1 = 0
        · rw [if_pos hk19] at hf
          obtain ⟨hPc, hDc, hFc⟩ := xcut (wc := [(a0, .inr (0, [.ref a1, .ref a3, .ref a5, .ref a7, .ref a8, .ref a13, .int v19, .int o14.2])), (a1, .inr (1, [.ref a2, .int v1, .int v2])), (a2, .inl (cT 0, 4096, .inl f0)), (a3, .inr (1, [.ref a4, .int v4, .int v5])), (a4, .inl (cT 0, 4096, .inl f3)), (a5, .inr (1, [.ref a6, .int v7, .int v8])), (a6, .inl (cT 0, 4096, .inl f6)), (a7, .inl (cT 3, 8, .inr (.inr (.inr (.inr rf0))))), (a8, .inr (3, [.ref a9, .ref a10, .ref p11, .ref p13, .int v15])), (a9, .inl (cT 1, 2048, .inl f9)), (a10, .inl (cT 1, 2048, .inl f10)), (p11, .inl (cT 1, 2048, .inl f12)), (p13, .inl (cT 1, 2048, .inl f14)), (a13, .inr (2, [.ref a14, .int o11.2.2.1, .int o11.2.2.2])), (a14, .inl (cT 2, 4096, .inr (.inl o11.2.1)))]) hP hD hS hA [4, 5, 6, 7, 8, 9, 10, 11, 12, 13, 14, 15, 16, 17, 18] rfl rfl (by decide)
          refine va_calli (va_runV (C := "ValueBench") (As := [.int x1]) (rest := []) ⟨hx, hb, hml, hown, htx⟩ (gB_keepSpare l hl9 D cT aK aV H.size d n a0 a1 a2 a3 a4 a5 a6 a7 a8 a9 a10 a13 a14 rf0 b1 x1 f0 v1 v2 f3 v4 v5 f6 v7 v8 f9 f10 p11 f12 p13 f14 v15 o11.2.1 o11.2.2.1 o11.2.2.2 v19 o14.2 hr1 o17 hq18 hk19) ⟨callB_of 1 htx (xw_goodC kw_3_17) rfl rfl rfl (htx _ kw_1_1) (htx _ kw_3_14) ⟨by decide, by decide, by decide +kernel⟩ ⟨(by show (16 * d + 6) + 1 ≤ 16 * d + 7; omega), (by show 8 + (3 + 11) + (400 * d + 100) ≤ 400 * d + 180; omega)⟩, (htx _ kw_3_16), (htx _ kp_B_keepSpare)⟩ ⟨xPre_blind, va_recv hK hP (ci := 0) rfl (q0 := 4) rfl, (fun U hU hW => ⟨rfl, xPre_of hZ hS hFc hPc hDc hK U hU hW⟩)⟩ rfl rfl hl.1 rfl (lv_room (Nat.le_of_ble_eq_true rfl)) dB_binary_72 ⟨Nat.le_of_ble_eq_true rfl, Nat.le_of_ble_eq_true rfl⟩) hS (fun q _ h => hFc q h) hFc (fun r20 u9 t H1 locs ht hvm hr9 hB hz1 hk1 hS => ?_)
          obtain ⟨hP1, hK1, hD1⟩ := hB
          rw [ht] at hP1
          obtain ⟨hP, hD⟩ := xjoin (W := [(a15, .inr (2, [.ref a16, .int v22, .int v23])), (a16, .inl (cT 2, 4096, .inr (.inl f21))), (a17, .inr (2, [.ref a18, .int v25, .int v26])), (a18, .inl (cT 2, 4096, .inr (.inl f24))), (a0, .inr (0, [.ref a1, .ref a3, .ref a5, .ref a7, .ref a8, .ref b1, .int v19, .int o14.2])), (a1, .inr (1, [.ref a2, .int v1, .int v2])), (a2, .inl (cT 0, 4096, .inl f0)), (a3, .inr (1, [.ref a4, .int v4, .int v5])), (a4, .inl (cT 0, 4096, .inl f3)), (a5, .inr (1, [.ref a6, .int o17.2.2.2.1, .int o17.2.2.2.2])), (a6, .inl (cT 0, 4096, .inl o17.2.2.1)), (a7, .inl (cT 3, 8, .inr (.inr (.inr (.inr (va_up rf0 x1.toNatClampNeg (some a13))))))), (a8, .inr (3, [.ref a9, .ref a10, .ref p11, .ref p13, .int v15])), (a9, .inl (cT 1, 2048, .inl f9)), (a10, .inl (cT 1, 2048, .inl f10)), (p11, .inl (cT 1, 2048, .inl f12)), (p13, .inl (cT 1, 2048, .inl f14)), (a13, .inr (2, [.ref a14, .int o11.2.2.1, .int o11.2.2.2])), (a14, .inl (cT 2, 4096, .inr (.inl o11.2.1)))]) hP hD [4, 5, 6, 7, 8, 9, 10, 11, 12, 13, 14, 15, 16, 17, 18] [0, 1, 2, 3] 4 rfl rfl (by decide) (by decide) hk1 hFc hP1 hD1
          generalize H1 = H at hP hS ⊢
          rw [hr9]
          refine W.eq (g2 := F0 m 75 ls [.int o17.2.1]) rfl ?_
          refine lv_pop hx hb dB_binary_75 rfl ?_
          obtain rfl := Option.some.inj hf
          exact absurd (show (0 : Nat) = 2 from hkd) (by decide)
        rw [if_neg hk19] at hf
        by_cases hk21 : o17.1 = 1
        · rw [if_pos hk21] at hf
          obtain rfl := Option.some.inj hf
          exact absurd (show (1 : Nat) = 2 from hkd) (by decide)
        rw [if_neg hk21] at hf
        exact nomatch hf
      rw [if_neg hk16] at hf
      by_cases hk23 : o14.1 = 1
      · rw [if_pos hk23] at hf
        obtain ⟨hPc, hDc, hFc⟩ := xcut (wc := [(a0, .inr (0, [.ref a1, .ref a3, .ref a5, .ref a7, .ref a8, .ref a13, .int v19, .int v20])), (a1, .inr (1, [.ref a2, .int v1, .int v2])), (a2, .inl (cT 0, 4096, .inl f0)), (a3, .inr (1, [.ref a4, .int v4, .int v5])), (a4, .inl (cT 0, 4096, .inl f3)), (a5, .inr (1, [.ref a6, .int v7, .int v8])), (a6, .inl (cT 0, 4096, .inl f6)), (a7, .inl (cT 3, 8, .inr (.inr (.inr (.inr rf0))))), (a8, .inr (3, [.ref a9, .ref a10, .ref p11, .ref p13, .int v15])), (a9, .inl (cT 1, 2048, .inl f9)), (a10, .inl (cT 1, 2048, .inl f10)), (p11, .inl (cT 1, 2048, .inl f12)), (p13, .inl (cT 1, 2048, .inl f14)), (a13, .inr (2, [.ref a14, .int o11.2.2.1, .int o11.2.2.2])), (a14, .inl (cT 2, 4096, .inr (.inl o11.2.1)))]) hP hD hS hA [0, 1, 2, 3, 4, 5, 6, 7, 8, 9, 10, 11, 12, 17, 18] rfl rfl (by decide)
        refine xx_thr (vx_runV (C := "ValueBench") (As := [.int o11.1]) (rest := []) ⟨hx, hb, hml, hown, htx⟩ (gB_demandDone_1 l hl9 D cT aK aV H.size n a0 a1 a2 a3 a4 a5 a6 a7 a8 a9 a10 a13 a14 rf0 o11.1 f0 v1 v2 f3 v4 v5 f6 v7 v8 f9 f10 p11 f12 p13 f14 v15 o11.2.1 o11.2.2.1 o11.2.2.2 v19 v20 o14 hq15 hk23) ⟨callB_of 1 htx (xw_goodC kw_3_222) rfl rfl rfl (htx _ kw_1_1) (htx _ kw_3_219) ⟨by decide, by decide, by decide +kernel⟩ ⟨Nat.le_of_ble_eq_true rfl, Nat.le_of_ble_eq_true rfl⟩, (htx _ kw_3_221), (htx _ kp_B_demandDone)⟩ ⟨xPre_blind, va_recv hK hP (ci := 0) rfl (q0 := 0) rfl, (fun U hU hW => ⟨rfl, xPre_of hZ hS hFc hPc hDc hK U hU hW⟩)⟩ rfl rfl hl.1 rfl (lv_room (Nat.le_of_ble_eq_true rfl)) dB_binary_67 ⟨Nat.le_of_ble_eq_true rfl, Nat.le_of_ble_eq_true rfl⟩) hS hFc (fun q _ h => hFc q h) (fun E ce q9 u9 t H1 locs ht hvm _ hB hz1 hk1 hS hce hcv hcl => ?_)
        obtain ⟨rfl, hP1, hK1, hD1⟩ := hB
        rw [ht] at hP1
        obtain ⟨hP, hD⟩ := xjoin (W := [(a15, .inr (2, [.ref a16, .int v22, .int v23])), (a16, .inl (cT 2, 4096, .inr (.inl f21))), (a17, .inr (2, [.ref a18, .int v25, .int v26])), (a18, .inl (cT 2, 4096, .inr (.inl f24))), (a0, .inr (0, [.ref a1, .ref a3, .ref a5, .ref a7, .ref a8, .ref a13, .int v19, .int o14.2])), (a1, .inr (1, [.ref a2, .int v1, .int v2])), (a2, .inl (cT 0, 4096, .inl f0)), (a3, .inr (1, [.ref a4, .int v4, .int v5])), (a4, .inl (cT 0, 4096, .inl f3)), (a5, .inr (1, [.ref a6, .int v7, .int v8])), (a6, .inl (cT 0, 4096, .inl f6)), (a7, .inl (cT 3, 8, .inr (.inr (.inr (.inr rf0))))), (a8, .inr (3, [.ref a9, .ref a10, .ref p11, .ref p13, .int v15])), (a9, .inl (cT 1, 2048, .inl f9)), (a10, .inl (cT 1, 2048, .inl f10)), (p11, .inl (cT 1, 2048, .inl f12)), (p13, .inl (cT 1, 2048, .inl f14)), (a13, .inr (2, [.ref a14, .int o11.2.2.1, .int o11.2.2.2])), (a14, .inl (cT 2, 4096, .inr (.inl o11.2.1)))]) hP hD [0, 1, 2, 3, 4, 5, 6, 7, 8, 9, 10, 11, 12, 17, 18] [13, 14, 15, 16] 4 rfl rfl (by decide) (by decide) hk1 hFc hP1 hD1
        generalize H1 = H at hP hS hce ⊢
        obtain rfl := Option.some.inj hf
        obtain ⟨hP9, hD9⟩ := xsub (wc := [(a0, .inr (0, [.ref a1, .ref a3, .ref a5, .ref a7, .ref a8, .ref a13, .int v19, .int o14.2])), (a1, .inr (1, [.ref a2, .int v1, .int v2])), (a2, .inl (cT 0, 4096, .inl f0)), (a3, .inr (1, [.ref a4, .int v4, .int v5])), (a4, .inl (cT 0, 4096, .inl f3)), (a5, .inr (1, [.ref a6, .int v7, .int v8])), (a6, .inl (cT 0, 4096, .inl f6)), (a7, .inl (cT 3, 8, .inr (.inr (.inr (.inr rf0))))), (a8, .inr (3, [.ref a9, .ref a10, .ref p11, .ref p13, .int v15])), (a9, .inl (cT 1, 2048, .inl f9)), (a10, .inl (cT 1, 2048, .inl f10)), (p11, .inl (cT 1, 2048, .inl f12)), (p13, .inl (cT 1, 2048, .inl f14)), (a13, .inr (2, [.ref a14, .int o11.2.2.1, .int o11.2.2.2])), (a14, .inl (cT 2, 4096, .inr (.inl o11.2.1))), (a15, .inr (2, [.ref a16, .int v22, .int v23])), (a16, .inl (cT 2, 4096, .inr (.inl f21))), (a17, .inr (2, [.ref a18, .int v25, .int v26])), (a18, .inl (cT 2, 4096, .inr (.inl f24)))]) hP hD [4, 5, 6, 7, 8, 9, 10, 11, 12, 13, 14, 15, 16, 17, 18, 0, 1, 2, 3] rfl rfl (by decide)
        exact vx_out (E := "java/lang/ArithmeticException") (fun x h => (hne x h).elim) hlocks hce hcv hcl (fun t ht ha => ⟨(), trivial, ⟨rfl, by rw [ht]; exact hP9, va_K.moved ha hK, hD9⟩, hS.F ht⟩) hS.2.2 (Nat.le_of_ble_eq_true rfl) (Nat.le_of_ble_eq_true rfl)
      rw [if_neg hk23] at hf
      exact nomatch hf
    rw [if_neg hk6] at hf
    by_cases hk24 : o4 = 1
    · rw [if_pos hk24] at hf
      obtain rfl := Option.some.inj hf
      exact absurd (show (3 : Nat) = 2 from hkd) (by decide)
    rw [if_neg hk24] at hf
    exact nomatch hf
  · rw [if_neg hc] at hf
    refine lv_iload_n hx hb dB_binary_7 rfl (lv_at hl 2 rfl) ?_
    refine lv_iconst (v := 4) hx hb dB_binary_8 (by decide) ?_
    obtain ⟨o4, hq5, hf⟩ := xbind hf
    obtain ⟨hPc, hDc, hFc⟩ := xcut (wc := []) hP hD hS hA [] rfl rfl (by decide)
    refine va_calli (va_runS (As := [.int x2, .int 4]) (rest := []) ⟨hx, hb, hml, hown, htx⟩ (gB_isWithin l hl9 D cT aK aV H.size n x2 (4 : Int32) o4 hq5) ⟨callB_of 2 htx (xw_goodC kw_1_218) rfl rfl rfl (htx _ kw_1_1) (htx _ kw_1_216) ⟨by decide, by decide, by decide +kernel⟩ ⟨Nat.le_of_ble_eq_true rfl, Nat.le_of_ble_eq_true rfl⟩, htx _ kw_1_217⟩ ⟨xPre_blind, (fun U hU hW => ⟨rfl, xPre_of hZ hS hFc hPc hDc hK U hU hW⟩)⟩ rfl rfl hl.1 rfl (lv_room (Nat.le_of_ble_eq_true rfl)) dB_binary_9 ⟨Nat.le_of_ble_eq_true rfl, Nat.le_of_ble_eq_true rfl⟩) hS (fun q _ h => hFc q h) hFc (fun r6 u9 t H1 locs ht hvm hr9 hB hz1 hk1 hS => ?_)
    obtain ⟨hP1, hK1, hD1⟩ := hB
    rw [ht] at hP1
    obtain ⟨hP, hD⟩ := xjoin (W := [(a0, .inr (0, [.ref a1, .ref a3, .ref a5, .ref a7, .ref a8, .ref a13, .int v19, .int v20])), (a1, .inr (1, [.ref a2, .int v1, .int v2])), (a2, .inl (cT 0, 4096, .inl f0)), (a3, .inr (1, [.ref a4, .int v4, .int v5])), (a4, .inl (cT 0, 4096, .inl f3)), (a5, .inr (1, [.ref a6, .int v7, .int v8])), (a6, .inl (cT 0, 4096, .inl f6)), (a7, .inl (cT 3, 8, .inr (.inr (.inr (.inr rf0))))), (a8, .inr (3, [.ref a9, .ref a10, .ref p11, .ref p13, .int v15])), (a9, .inl (cT 1, 2048, .inl f9)), (a10, .inl (cT 1, 2048, .inl f10)), (p11, .inl (cT 1, 2048, .inl f12)), (p13, .inl (cT 1, 2048, .inl f14)), (a13, .inr (2, [.ref a14, .int v17, .int v18])), (a14, .inl (cT 2, 4096, .inr (.inl f16))), (a15, .inr (2, [.ref a16, .int v22, .int v23])), (a16, .inl (cT 2, 4096, .inr (.inl f21))), (a17, .inr (2, [.ref a18, .int v25, .int v26])), (a18, .inl (cT 2, 4096, .inr (.inl f24)))]) hP hD [] [0, 1, 2, 3, 4, 5, 6, 7, 8, 9, 10, 11, 12, 13, 14, 15, 16, 17, 18] 19 rfl rfl (by decide) (by decide) hk1 hFc hP1 hD1
    generalize H1 = H at hP hS ⊢
    rw [hr9]
    refine W.eq (g2 := F0 m 12 ls [.int o4]) rfl ?_
    refine lv_if_eq (tgt := 34) hx hb dB_binary_12 (by decide) (fun hc => ?_) (fun hc => ?_)
    · rw [if_pos hc] at hf
      refine lv_iconst (v := 0) hx hb dB_binary_34 (by decide) ?_
      obtain ⟨o7, hq8, hf⟩ := xbind hf
      by_cases hk9 : o7 = 0
      · rw [if_pos hk9] at hf
        obtain ⟨hPc, hDc, hFc⟩ := xcut (wc := []) hP hD hS hA [] rfl rfl (by decide)
        refine va_callv (va_runS (As := [.int 0]) (rest := []) ⟨hx, hb, hml, hown, htx⟩ (gB_demand l hl9 D cT aK aV H.size n (0 : Int32) o7 hq8 hk9) ⟨callB_of 1 htx (xw_goodC kw_1_221) rfl rfl rfl (htx _ kw_1_1) (htx _ kw_1_219) ⟨by decide, by decide, by decide +kernel⟩ ⟨Nat.le_of_ble_eq_true rfl, Nat.le_of_ble_eq_true rfl⟩, htx _ kw_1_220⟩ ⟨xPre_blind, (fun U hU hW => ⟨rfl, xPre_of hZ hS hFc hPc hDc hK U hU hW⟩)⟩ rfl rfl hl.1 rfl (lv_room (Nat.le_of_ble_eq_true rfl)) dB_binary_35 ⟨Nat.le_of_ble_eq_true rfl, Nat.le_of_ble_eq_true rfl⟩) hS (fun q _ h => hFc q h) hFc (fun u9 t H1 locs ht hvm hr9 hB hz1 hk1 hS => ?_)
        obtain ⟨hP1, hK1, hD1⟩ := hB
        rw [ht] at hP1
        obtain ⟨hP, hD⟩ := xjoin (W := [(a0, .inr (0, [.ref a1, .ref a3, .ref a5, .ref a7, .ref a8, .ref a13, .int v19, .int v20])), (a1, .inr (1, [.ref a2, .int v1, .int v2])), (a2, .inl (cT 0, 4096, .inl f0)), (a3, .inr (1, [.ref a4, .int v4, .int v5])), (a4, .inl (cT 0, 4096, .inl f3)), (a5, .inr (1, [.ref a6, .int v7, .int v8])), (a6, .inl (cT 0, 4096, .inl f6)), (a7, .inl (cT 3, 8, .inr (.inr (.inr (.inr rf0))))), (a8, .inr (3, [.ref a9, .ref a10, .ref p11, .ref p13, .int v15])), (a9, .inl (cT 1, 2048, .inl f9)), (a10, .inl (cT 1, 2048, .inl f10)), (p11, .inl (cT 1, 2048, .inl f12)), (p13, .inl (cT 1, 2048, .inl f14)), (a13, .inr (2, [.ref a14, .int v17, .int v18])), (a14, .inl (cT 2, 4096, .inr (.inl f16))), (a15, .inr (2, [.ref a16, .int v22, .int v23])), (a16, .inl (cT 2, 4096, .inr (.inl f21))), (a17, .inr (2, [.ref a18, .int v25, .int v26])), (a18, .inl (cT 2, 4096, .inr (.inl f24)))]) hP hD [] [0, 1, 2, 3, 4, 5, 6, 7, 8, 9, 10, 11, 12, 13, 14, 15, 16, 17, 18] 19 rfl rfl (by decide) (by decide) hk1 hFc hP1 hD1
        generalize H1 = H at hP hS ⊢
        refine lv_aload_n hx hb dB_binary_38 rfl (lv_at hl 0 rfl) ?_
        refine va_get (D := D) (ci := 0) (v := .ref a13) (C := "ValueBench") (T := TB) (N := 8) hx hb htx inB hown hK hP 0 rfl rfl 5 (by decide) (htx _ kw_1_100) (fun _ h9 => h9) rfl dB_binary_39 ?_
        obtain ⟨o10, hq11, hf⟩ := xbind hf
        obtain ⟨hPc, hDc, hFc⟩ := xcut (wc := [(a13, .inr (2, [.ref a14, .int v17, .int v18])), (a14, .inl (cT 2, 4096, .inr (.inl f16)))]) hP hD hS hA [13, 14] rfl rfl (by decide)
        refine va_callv (va_runV (C := "ValueBench$Row") (As := []) (rest := []) ⟨hx, hb, hml, hown, htx⟩ (gR_clear l hl9 D cT aK aV H.size n a13 a14 f16 v17 v18 o10 hq11) ⟨callB_of 0 htx (xw_goodC kw_2_22) rfl rfl rfl (htx _ kw_1_4) (htx _ kw_2_19) ⟨by decide, by decide, by decide +kernel⟩ ⟨Nat.le_of_ble_eq_true rfl, Nat.le_of_ble_eq_true rfl⟩, (htx _ kw_2_20), (htx _ kw_2_21)⟩ ⟨xPre_blind, va_recv hK hP (ci := 2) rfl (q0 := 13) rfl, (fun U hU hW => ⟨rfl, xPre_of hZ hS hFc hPc hDc hK U hU hW⟩)⟩ rfl rfl hl.1 rfl (lv_room (Nat.le_of_ble_eq_true rfl)) dB_binary_42 ⟨Nat.le_of_ble_eq_true rfl, Nat.le_of_ble_eq_true rfl⟩) hS (fun q _ h => hFc q h) hFc (fun u9 t H1 locs ht hvm hr9 hB hz1 hk1 hS => ?_)
        obtain ⟨hP1, hK1, hD1⟩ := hB
        rw [ht] at hP1
        obtain ⟨hP, hD⟩ := xjoin (W := [(a0, .inr (0, [.ref a1, .ref a3, .ref a5, .ref a7, .ref a8, .ref a13, .int v19, .int v20])), (a1, .inr (1, [.ref a2, .int v1, .int v2])), (a2, .inl (cT 0, 4096, .inl f0)), (a3, .inr (1, [.ref a4, .int v4, .int v5])), (a4, .inl (cT 0, 4096, .inl f3)), (a5, .inr (1, [.ref a6, .int v7, .int v8])), (a6, .inl (cT 0, 4096, .inl f6)), (a7, .inl (cT 3, 8, .inr (.inr (.inr (.inr rf0))))), (a8, .inr (3, [.ref a9, .ref a10, .ref p11, .ref p13, .int v15])), (a9, .inl (cT 1, 2048, .inl f9)), (a10, .inl (cT 1, 2048, .inl f10)), (p11, .inl (cT 1, 2048, .inl f12)), (p13, .inl (cT 1, 2048, .inl f14)), (a15, .inr (2, [.ref a16, .int v22, .int v23])), (a16, .inl (cT 2, 4096, .inr (.inl f21))), (a17, .inr (2, [.ref a18, .int v25, .int v26])), (a18, .inl (cT 2, 4096, .inr (.inl f24))), (a13, .inr (2, [.ref a14, .int o10.1, .int o10.2])), (a14, .inl (cT 2, 4096, .inr (.inl f16)))]) hP hD [13, 14] [0, 1, 2, 3, 4, 5, 6, 7, 8, 9, 10, 11, 12, 15, 16, 17, 18] 17 rfl rfl (by decide) (by decide) hk1 hFc hP1 hD1
        generalize H1 = H at hP hS ⊢
        refine lv_aload_n hx hb dB_binary_45 rfl (lv_at hl 0 rfl) ?_
        refine lv_iload_n hx hb dB_binary_46 rfl (lv_at hl 2 rfl) ?_
        refine lv_aload_n hx hb dB_binary_47 rfl (lv_at hl 0 rfl) ?_
        refine va_get (D := D) (ci := 0) (v := .ref a7) (C := "ValueBench") (T := TB) (N := 8) hx hb htx inB hown hK hP 0 rfl rfl 3 (by decide) (htx _ kw_1_98) (fun _ h9 => h9) rfl dB_binary_48 ?_
        refine lv_iload_n hx hb dB_binary_51 rfl (lv_at hl 3 rfl) ?_
        obtain ⟨hg12, hf⟩ := xifn hf
        refine va_aldq hx hb hK hP 7 3 rfl rfl hg12 dB_binary_52 ?_
        refine W.eq (g2 := F0 m 53 ls [va_rf (rf0 x3.toNatClampNeg), .int x2, .ref a0]) rfl ?_
        rw [hr3 hg12]
        refine W.eq (g2 := F0 m 53 ls [.ref a15, .int x2, .ref a0]) rfl ?_
        refine lv_aload_n hx hb dB_binary_53 rfl (lv_at hl 0 rfl) ?_
        refine va_get (D := D) (ci := 0) (v := .ref a7) (C := "ValueBench") (T := TB) (N := 8) hx hb htx inB hown hK hP 0 rfl rfl 3 (by decide) (htx _ kw_1_98) (fun _ h9 => h9) rfl dB_binary_54 ?_
        refine lv_iload hx hb dB_binary_57 (lv_at hl 4 rfl) ?_
        obtain ⟨hg13, hf⟩ := xifn hf
        refine va_aldq hx hb hK hP 7 3 rfl rfl hg13 dB_binary_59 ?_
        refine W.eq (g2 := F0 m 60 ls [va_rf (rf0 x4.toNatClampNeg), .ref a15, .int x2, .ref a0]) rfl ?_
        rw [hr4 hg13]
        refine W.eq (g2 := F0 m 60 ls [.ref a17, .ref a15, .int x2, .ref a0]) rfl ?_
        refine lv_aload_n hx hb dB_binary_60 rfl (lv_at hl 0 rfl) ?_
        refine va_get (D := D) (ci := 0) (v := .ref a13) (C := "ValueBench") (T := TB) (N := 8) hx hb htx inB hown hK hP 0 rfl rfl 5 (by decide) (htx _ kw_1_100) (fun _ h9 => h9) rfl dB_binary_61 ?_
        obtain ⟨o14, hq15, hf⟩ := xbind hf
        obtain ⟨hPc, hDc, hFc⟩ := xcut (wc := [(a15, .inr (2, [.ref a16, .int v22, .int v23])), (a16, .inl (cT 2, 4096, .inr (.inl f21))), (a17, .inr (2, [.ref a18, .int v25, .int v26])), (a18, .inl (cT 2, 4096, .inr (.inl f24))), (a13, .inr (2, [.ref a14, .int o10.1, .int o10.2])), (a14, .inl (cT 2, 4096, .inr (.inl f16)))]) hP hD hS hA [13, 14, 15, 16, 17, 18] rfl rfl (by decide)
        refine va_calli (va_runS (As := [.int x2, .ref a15, .ref a17, .ref a13]) (rest := [.ref a0]) ⟨hx, hb, hml, hown, htx⟩ (gA_apply l hl9 D cT aK aV H.size d n a15 a16 a17 a18 a13 a14 x2 f21 v22 v23 f24 v25 v26 f16 o10.1 o10.2 o14 hq15) ⟨callB_of 4 htx (xw_goodC kw_3_105) rfl rfl rfl (htx _ kw_1_21) (htx _ kw_3_103) ⟨by decide, by decide, by decide +kernel⟩ ⟨(by show (16 * d + 5) + 1 ≤ 16 * d + 7; omega), (by show 8 + (4 + 11) + (400 * d + 157) ≤ 400 * d + 180; omega)⟩, htx _ kw_3_104⟩ ⟨xPre_blind, (fun U hU hW => ⟨rfl, xPre_of hZ hS hFc hPc hDc hK U hU hW⟩)⟩ rfl rfl hl.1 rfl (lv_room (Nat.le_of_ble_eq_true rfl)) dB_binary_64 ⟨Nat.le_of_ble_eq_true rfl, Nat.le_of_ble_eq_true rfl⟩) hS (fun q _ h => hFc q h) hFc (fun r16 u9 t H1 locs ht hvm hr9 hB hz1 hk1 hS => ?_)
        obtain ⟨hP1, hK1, hD1⟩ := hB
        rw [ht] at hP1
        obtain ⟨hP, hD⟩ := xjoin (W := [(a0, .inr (0, [.ref a1, .ref a3, .ref a5, .ref a7, .ref a8, .ref a13, .int v19, .int v20])), (a1, .inr (1, [.ref a2, .int v1, .int v2])), (a2, .inl (cT 0, 4096, .inl f0)), (a3, .inr (1, [.ref a4, .int v4, .int v5])), (a4, .inl (cT 0, 4096, .inl f3)), (a5, .inr (1, [.ref a6, .int v7, .int v8])), (a6, .inl (cT 0, 4096, .inl f6)), (a7, .inl (cT 3, 8, .inr (.inr (.inr (.inr rf0))))), (a8, .inr (3, [.ref a9, .ref a10, .ref p11, .ref p13, .int v15])), (a9, .inl (cT 1, 2048, .inl f9)), (a10, .inl (cT 1, 2048, .inl f10)), (p11, .inl (cT 1, 2048, .inl f12)), (p13, .inl (cT 1, 2048, .inl f14)), (a15, .inr (2, [.ref a16, .int v22, .int v23])), (a16, .inl (cT 2, 4096, .inr (.inl f21))), (a17, .inr (2, [.ref a18, .int v25, .int v26])), (a18, .inl (cT 2, 4096, .inr (.inl f24))), (a13, .inr (2, [.ref a14, .int o14.2.2.1, .int o14.2.2.2])), (a14, .inl (cT 2, 4096, .inr (.inl o14.2.1)))]) hP hD [13, 14, 15, 16, 17, 18] [0, 1, 2, 3, 4, 5, 6, 7, 8, 9, 10, 11, 12] 13 rfl rfl (by decide) (by decide) hk1 hFc hP1 hD1
        generalize H1 = H at hP hS ⊢
        rw [hr9]
        refine W.eq (g2 := F0 m 67 ls [.int o14.1, .ref a0]) rfl ?_
        obtain ⟨o17, hq18, hf⟩ := xbind hf
        by_cases hk19 : o17.1 = 0
        · rw [if_pos hk19] at hf
          obtain ⟨hPc, hDc, hFc⟩ := xcut (wc := [(a0, .inr (0, [.ref a1, .ref a3, .ref a5, .ref a7, .ref a8, .ref a13, .int v19, .int v20])), (a1, .inr (1, [.ref a2, .int v1, .int v2])), (a2, .inl (cT 0, 4096, .inl f0)), (a3, .inr (1, [.ref a4, .int v4, .int v5])), (a4, .inl (cT 0, 4096, .inl f3)), (a5, .inr (1, [.ref a6, .int v7, .int v8])), (a6, .inl (cT 0, 4096, .inl f6)), (a7, .inl (cT 3, 8, .inr (.inr (.inr (.inr rf0))))), (a8, .inr (3, [.ref a9, .ref a10, .ref p11, .ref p13, .int v15])), (a9, .inl (cT 1, 2048, .inl f9)), (a10, .inl (cT 1, 2048, .inl f10)), (p11, .inl (cT 1, 2048, .inl f12)), (p13, .inl (cT 1, 2048, .inl f14)), (a13, .inr (2, [.ref a14, .int o14.2.2.1, .int o14.2.2.2])), (a14, .inl (cT 2, 4096, .inr (.inl o14.2.1)))]) hP hD hS hA [0, 1, 2, 3, 4, 5, 6, 7, 8, 9, 10, 11, 12, 17, 18] rfl rfl (by decide)
          refine va_callv (va_runV (C := "ValueBench") (As := [.int o14.1]) (rest := []) ⟨hx, hb, hml, hown, htx⟩ (gB_demandDone l hl9 D cT aK aV H.size n a0 a1 a2 a3 a4 a5 a6 a7 a8 a9 a10 a13 a14 rf0 o14.1 f0 v1 v2 f3 v4 v5 f6 v7 v8 f9 f10 p11 f12 p13 f14 v15 o14.2.1 o14.2.2.1 o14.2.2.2 v19 v20 o17 hq18 hk19) ⟨callB_of 1 htx (xw_goodC kw_3_222) rfl rfl rfl (htx _ kw_1_1) (htx _ kw_3_219) ⟨by decide, by decide, by decide +kernel⟩ ⟨Nat.le_of_ble_eq_true rfl, Nat.le_of_ble_eq_true rfl⟩, (htx _ kw_3_221), (htx _ kp_B_demandDone)⟩ ⟨xPre_blind, va_recv hK hP (ci := 0) rfl (q0 := 0) rfl, (fun U hU hW => ⟨rfl, xPre_of hZ hS hFc hPc hDc hK U hU hW⟩)⟩ rfl rfl hl.1 rfl (lv_room (Nat.le_of_ble_eq_true rfl)) dB_binary_67 ⟨Nat.le_of_ble_eq_true rfl, Nat.le_of_ble_eq_true rfl⟩) hS (fun q _ h => hFc q h) hFc (fun u9 t H1 locs ht hvm hr9 hB hz1 hk1 hS => ?_)
          obtain ⟨hP1, hK1, hD1⟩ := hB
          rw [ht] at hP1
          obtain ⟨hP, hD⟩ := xjoin (W := [(a15, .inr (2, [.ref a16, .int v22, .int v23])), (a16, .inl (cT 2, 4096, .inr (.inl f21))), (a17, .inr (2, [.ref a18, .int v25, .int v26])), (a18, .inl (cT 2, 4096, .inr (.inl f24))), (a0, .inr (0, [.ref a1, .ref a3, .ref a5, .ref a7, .ref a8, .ref a13, .int v19, .int o17.2])), (a1, .inr (1, [.ref a2, .int v1, .int v2])), (a2, .inl (cT 0, 4096, .inl f0)), (a3, .inr (1, [.ref a4, .int v4, .int v5])), (a4, .inl (cT 0, 4096, .inl f3)), (a5, .inr (1, [.ref a6, .int v7, .int v8])), (a6, .inl (cT 0, 4096, .inl f6)), (a7, .inl (cT 3, 8, .inr (.inr (.inr (.inr rf0))))), (a8, .inr (3, [.ref a9, .ref a10, .ref p11, .ref p13, .int v15])), (a9, .inl (cT 1, 2048, .inl f9)), (a10, .inl (cT 1, 2048, .inl f10)), (p11, .inl (cT 1, 2048, .inl f12)), (p13, .inl (cT 1, 2048, .inl f14)), (a13, .inr (2, [.ref a14, .int o14.2.2.1, .int o14.2.2.2])), (a14, .inl (cT 2, 4096, .inr (.inl o14.2.1)))]) hP hD [0, 1, 2, 3, 4, 5, 6, 7, 8, 9, 10, 11, 12, 17, 18] [13, 14, 15, 16] 4 rfl rfl (by decide) (by decide) hk1 hFc hP1 hD1
          generalize H1 = H at hP hS ⊢
          refine lv_aload_n hx hb dB_binary_70 rfl (lv_at hl 0 rfl) ?_
          refine lv_iload_n hx hb dB_binary_71 rfl (lv_at hl 1 rfl) ?_
          obtain ⟨o20, hq21, hf⟩ := xbind hf
          by_cases hk22 : o20.1 = 0
          · rw [if_pos hk22] at hf
            obtain ⟨hPc, hDc, hFc⟩ := xcut (wc := [(a0, .inr (0, [.ref a1, .ref a3, .ref a5, .ref a7, .ref a8, .ref a13, .int v19, .int o17.2])), (a1, .inr (1, [.ref a2, .int v1, .int v2])), (a2, .inl (cT 0, 4096, .inl f0)), (a3, .inr (1, [.ref a4, .int v4, .int v5])), (a4, .inl (cT 0, 4096, .inl f3)), (a5, .inr (1, [.ref a6, .int v7, .int v8])), (a6, .inl (cT 0, 4096, .inl f6)), (a7, .inl (cT 3, 8, .inr (.inr (.inr (.inr rf0))))), (a8, .inr (3, [.ref a9, .ref a10, .ref p11, .ref p13, .int v15])), (a9, .inl (cT 1, 2048, .inl f9)), (a10, .inl (cT 1, 2048, .inl f10)), (p11, .inl (cT 1, 2048, .inl f12)), (p13, .inl (cT 1, 2048, .inl f14)), (a13, .inr (2, [.ref a14, .int o14.2.2.1, .int o14.2.2.2])), (a14, .inl (cT 2, 4096, .inr (.inl o14.2.1)))]) hP hD hS hA [4, 5, 6, 7, 8, 9, 10, 11, 12, 13, 14, 15, 16, 17, 18] rfl rfl (by decide)
            refine va_calli (va_runV (C := "ValueBench") (As := [.int x1]) (rest := []) ⟨hx, hb, hml, hown, htx⟩ (gB_keepSpare l hl9 D cT aK aV H.size d n a0 a1 a2 a3 a4 a5 a6 a7 a8 a9 a10 a13 a14 rf0 b1 x1 f0 v1 v2 f3 v4 v5 f6 v7 v8 f9 f10 p11 f12 p13 f14 v15 o14.2.1 o14.2.2.1 o14.2.2.2 v19 o17.2 hr1 o20 hq21 hk22) ⟨callB_of 1 htx (xw_goodC kw_3_17) rfl rfl rfl (htx _ kw_1_1) (htx _ kw_3_14) ⟨by decide, by decide, by decide +kernel⟩ ⟨(by show (16 * d + 6) + 1 ≤ 16 * d + 7; omega), (by show 8 + (3 + 11) + (400 * d + 100) ≤ 400 * d + 180; omega)⟩, (htx _ kw_3_16), (htx _ kp_B_keepSpare)⟩ ⟨xPre_blind, va_recv hK hP (ci := 0) rfl (q0 := 4) rfl, (fun U hU hW => ⟨rfl, xPre_of hZ hS hFc hPc hDc hK U hU hW⟩)⟩ rfl rfl hl.1 rfl (lv_room (Nat.le_of_ble_eq_true rfl)) dB_binary_72 ⟨Nat.le_of_ble_eq_true rfl, Nat.le_of_ble_eq_true rfl⟩) hS (fun q _ h => hFc q h) hFc (fun r23 u9 t H1 locs ht hvm hr9 hB hz1 hk1 hS => ?_)
            obtain ⟨hP1, hK1, hD1⟩ := hB
            rw [ht] at hP1
            obtain ⟨hP, hD⟩ := xjoin (W := [(a15, .inr (2, [.ref a16, .int v22, .int v23])), (a16, .inl (cT 2, 4096, .inr (.inl f21))), (a17, .inr (2, [.ref a18, .int v25, .int v26])), (a18, .inl (cT 2, 4096, .inr (.inl f24))), (a0, .inr (0, [.ref a1, .ref a3, .ref a5, .ref a7, .ref a8, .ref b1, .int v19, .int o17.2])), (a1, .inr (1, [.ref a2, .int v1, .int v2])), (a2, .inl (cT 0, 4096, .inl f0)), (a3, .inr (1, [.ref a4, .int v4, .int v5])), (a4, .inl (cT 0, 4096, .inl f3)), (a5, .inr (1, [.ref a6, .int o20.2.2.2.1, .int o20.2.2.2.2])), (a6, .inl (cT 0, 4096, .inl o20.2.2.1)), (a7, .inl (cT 3, 8, .inr (.inr (.inr (.inr (va_up rf0 x1.toNatClampNeg (some a13))))))), (a8, .inr (3, [.ref a9, .ref a10, .ref p11, .ref p13, .int v15])), (a9, .inl (cT 1, 2048, .inl f9)), (a10, .inl (cT 1, 2048, .inl f10)), (p11, .inl (cT 1, 2048, .inl f12)), (p13, .inl (cT 1, 2048, .inl f14)), (a13, .inr (2, [.ref a14, .int o14.2.2.1, .int o14.2.2.2])), (a14, .inl (cT 2, 4096, .inr (.inl o14.2.1)))]) hP hD [4, 5, 6, 7, 8, 9, 10, 11, 12, 13, 14, 15, 16, 17, 18] [0, 1, 2, 3] 4 rfl rfl (by decide) (by decide) hk1 hFc hP1 hD1
            generalize H1 = H at hP hS ⊢
            rw [hr9]
            refine W.eq (g2 := F0 m 75 ls [.int o20.2.1]) rfl ?_
            refine lv_pop hx hb dB_binary_75 rfl ?_
            obtain rfl := Option.some.inj hf
            exact absurd (show (0 : Nat) = 2 from hkd) (by decide)
          rw [if_neg hk22] at hf
          by_cases hk24 : o20.1 = 1
          · rw [if_pos hk24] at hf
            obtain rfl := Option.some.inj hf
            exact absurd (show (1 : Nat) = 2 from hkd) (by decide)
          rw [if_neg hk24] at hf
          exact nomatch hf
        rw [if_neg hk19] at hf
        by_cases hk26 : o17.1 = 1
        · rw [if_pos hk26] at hf
          obtain ⟨hPc, hDc, hFc⟩ := xcut (wc := [(a0, .inr (0, [.ref a1, .ref a3, .ref a5, .ref a7, .ref a8, .ref a13, .int v19, .int v20])), (a1, .inr (1, [.ref a2, .int v1, .int v2])), (a2, .inl (cT 0, 4096, .inl f0)), (a3, .inr (1, [.ref a4, .int v4, .int v5])), (a4, .inl (cT 0, 4096, .inl f3)), (a5, .inr (1, [.ref a6, .int v7, .int v8])), (a6, .inl (cT 0, 4096, .inl f6)), (a7, .inl (cT 3, 8, .inr (.inr (.inr (.inr rf0))))), (a8, .inr (3, [.ref a9, .ref a10, .ref p11, .ref p13, .int v15])), (a9, .inl (cT 1, 2048, .inl f9)), (a10, .inl (cT 1, 2048, .inl f10)), (p11, .inl (cT 1, 2048, .inl f12)), (p13, .inl (cT 1, 2048, .inl f14)), (a13, .inr (2, [.ref a14, .int o14.2.2.1, .int o14.2.2.2])), (a14, .inl (cT 2, 4096, .inr (.inl o14.2.1)))]) hP hD hS hA [0, 1, 2, 3, 4, 5, 6, 7, 8, 9, 10, 11, 12, 17, 18] rfl rfl (by decide)
          refine xx_thr (vx_runV (C := "ValueBench") (As := [.int o14.1]) (rest := []) ⟨hx, hb, hml, hown, htx⟩ (gB_demandDone_1 l hl9 D cT aK aV H.size n a0 a1 a2 a3 a4 a5 a6 a7 a8 a9 a10 a13 a14 rf0 o14.1 f0 v1 v2 f3 v4 v5 f6 v7 v8 f9 f10 p11 f12 p13 f14 v15 o14.2.1 o14.2.2.1 o14.2.2.2 v19 v20 o17 hq18 hk26) ⟨callB_of 1 htx (xw_goodC kw_3_222) rfl rfl rfl (htx _ kw_1_1) (htx _ kw_3_219) ⟨by decide, by decide, by decide +kernel⟩ ⟨Nat.le_of_ble_eq_true rfl, Nat.le_of_ble_eq_true rfl⟩, (htx _ kw_3_221), (htx _ kp_B_demandDone)⟩ ⟨xPre_blind, va_recv hK hP (ci := 0) rfl (q0 := 0) rfl, (fun U hU hW => ⟨rfl, xPre_of hZ hS hFc hPc hDc hK U hU hW⟩)⟩ rfl rfl hl.1 rfl (lv_room (Nat.le_of_ble_eq_true rfl)) dB_binary_67 ⟨Nat.le_of_ble_eq_true rfl, Nat.le_of_ble_eq_true rfl⟩) hS hFc (fun q _ h => hFc q h) (fun E ce q9 u9 t H1 locs ht hvm _ hB hz1 hk1 hS hce hcv hcl => ?_)
          obtain ⟨rfl, hP1, hK1, hD1⟩ := hB
          rw [ht] at hP1
          obtain ⟨hP, hD⟩ := xjoin (W := [(a15, .inr (2, [.ref a16, .int v22, .int v23])), (a16, .inl (cT 2, 4096, .inr (.inl f21))), (a17, .inr (2, [.ref a18, .int v25, .int v26])), (a18, .inl (cT 2, 4096, .inr (.inl f24))), (a0, .inr (0, [.ref a1, .ref a3, .ref a5, .ref a7, .ref a8, .ref a13, .int v19, .int o17.2])), (a1, .inr (1, [.ref a2, .int v1, .int v2])), (a2, .inl (cT 0, 4096, .inl f0)), (a3, .inr (1, [.ref a4, .int v4, .int v5])), (a4, .inl (cT 0, 4096, .inl f3)), (a5, .inr (1, [.ref a6, .int v7, .int v8])), (a6, .inl (cT 0, 4096, .inl f6)), (a7, .inl (cT 3, 8, .inr (.inr (.inr (.inr rf0))))), (a8, .inr (3, [.ref a9, .ref a10, .ref p11, .ref p13, .int v15])), (a9, .inl (cT 1, 2048, .inl f9)), (a10, .inl (cT 1, 2048, .inl f10)), (p11, .inl (cT 1, 2048, .inl f12)), (p13, .inl (cT 1, 2048, .inl f14)), (a13, .inr (2, [.ref a14, .int o14.2.2.1, .int o14.2.2.2])), (a14, .inl (cT 2, 4096, .inr (.inl o14.2.1)))]) hP hD [0, 1, 2, 3, 4, 5, 6, 7, 8, 9, 10, 11, 12, 17, 18] [13, 14, 15, 16] 4 rfl rfl (by decide) (by decide) hk1 hFc hP1 hD1
          generalize H1 = H at hP hS hce ⊢
          obtain rfl := Option.some.inj hf
          obtain ⟨hP9, hD9⟩ := xsub (wc := [(a0, .inr (0, [.ref a1, .ref a3, .ref a5, .ref a7, .ref a8, .ref a13, .int v19, .int o17.2])), (a1, .inr (1, [.ref a2, .int v1, .int v2])), (a2, .inl (cT 0, 4096, .inl f0)), (a3, .inr (1, [.ref a4, .int v4, .int v5])), (a4, .inl (cT 0, 4096, .inl f3)), (a5, .inr (1, [.ref a6, .int v7, .int v8])), (a6, .inl (cT 0, 4096, .inl f6)), (a7, .inl (cT 3, 8, .inr (.inr (.inr (.inr rf0))))), (a8, .inr (3, [.ref a9, .ref a10, .ref p11, .ref p13, .int v15])), (a9, .inl (cT 1, 2048, .inl f9)), (a10, .inl (cT 1, 2048, .inl f10)), (p11, .inl (cT 1, 2048, .inl f12)), (p13, .inl (cT 1, 2048, .inl f14)), (a13, .inr (2, [.ref a14, .int o14.2.2.1, .int o14.2.2.2])), (a14, .inl (cT 2, 4096, .inr (.inl o14.2.1))), (a15, .inr (2, [.ref a16, .int v22, .int v23])), (a16, .inl (cT 2, 4096, .inr (.inl f21))), (a17, .inr (2, [.ref a18, .int v25, .int v26])), (a18, .inl (cT 2, 4096, .inr (.inl f24)))]) hP hD [4, 5, 6, 7, 8, 9, 10, 11, 12, 13, 14, 15, 16, 17, 18, 0, 1, 2, 3] rfl rfl (by decide)
          exact vx_out (E := "java/lang/ArithmeticException") (fun x h => (hne x h).elim) hlocks hce hcv hcl (fun t ht ha => ⟨(), trivial, ⟨rfl, by rw [ht]; exact hP9, va_K.moved ha hK, hD9⟩, hS.F ht⟩) hS.2.2 (Nat.le_of_ble_eq_true rfl) (Nat.le_of_ble_eq_true rfl)
        rw [if_neg hk26] at hf
        exact nomatch hf
      rw [if_neg hk9] at hf
      by_cases hk27 : o7 = 1
      · rw [if_pos hk27] at hf
        obtain rfl := Option.some.inj hf
        exact absurd (show (3 : Nat) = 2 from hkd) (by decide)
      rw [if_neg hk27] at hf
      exact nomatch hf
    · rw [if_neg hc] at hf
      refine lv_iload_n hx hb dB_binary_15 rfl (lv_at hl 3 rfl) ?_
      obtain ⟨o7, hq8, hf⟩ := xbind hf
      obtain ⟨hPc, hDc, hFc⟩ := xcut (wc := []) hP hD hS hA [] rfl rfl (by decide)
      refine va_calli (va_runS (As := [.int x3]) (rest := []) ⟨hx, hb, hml, hown, htx⟩ (gB_isRegister l hl9 D cT aK aV H.size n x3 o7 hq8) ⟨callB_of 1 htx (xw_goodC kw_2_18) rfl rfl rfl (htx _ kw_1_1) (htx _ kw_2_16) ⟨by decide, by decide, by decide +kernel⟩ ⟨Nat.le_of_ble_eq_true rfl, Nat.le_of_ble_eq_true rfl⟩, htx _ kw_2_17⟩ ⟨xPre_blind, (fun U hU hW => ⟨rfl, xPre_of hZ hS hFc hPc hDc hK U hU hW⟩)⟩ rfl rfl hl.1 rfl (lv_room (Nat.le_of_ble_eq_true rfl)) dB_binary_16 ⟨Nat.le_of_ble_eq_true rfl, Nat.le_of_ble_eq_true rfl⟩) hS (fun q _ h => hFc q h) hFc (fun r9 u9 t H1 locs ht hvm hr9 hB hz1 hk1 hS => ?_)
      obtain ⟨hP1, hK1, hD1⟩ := hB
      rw [ht] at hP1
      obtain ⟨hP, hD⟩ := xjoin (W := [(a0, .inr (0, [.ref a1, .ref a3, .ref a5, .ref a7, .ref a8, .ref a13, .int v19, .int v20])), (a1, .inr (1, [.ref a2, .int v1, .int v2])), (a2, .inl (cT 0, 4096, .inl f0)), (a3, .inr (1, [.ref a4, .int v4, .int v5])), (a4, .inl (cT 0, 4096, .inl f3)), (a5, .inr (1, [.ref a6, .int v7, .int v8])), (a6, .inl (cT 0, 4096, .inl f6)), (a7, .inl (cT 3, 8, .inr (.inr (.inr (.inr rf0))))), (a8, .inr (3, [.ref a9, .ref a10, .ref p11, .ref p13, .int v15])), (a9, .inl (cT 1, 2048, .inl f9)), (a10, .inl (cT 1, 2048, .inl f10)), (p11, .inl (cT 1, 2048, .inl f12)), (p13, .inl (cT 1, 2048, .inl f14)), (a13, .inr (2, [.ref a14, .int v17, .int v18])), (a14, .inl (cT 2, 4096, .inr (.inl f16))), (a15, .inr (2, [.ref a16, .int v22, .int v23])), (a16, .inl (cT 2, 4096, .inr (.inl f21))), (a17, .inr (2, [.ref a18, .int v25, .int v26])), (a18, .inl (cT 2, 4096, .inr (.inl f24)))]) hP hD [] [0, 1, 2, 3, 4, 5, 6, 7, 8, 9, 10, 11, 12, 13, 14, 15, 16, 17, 18] 19 rfl rfl (by decide) (by decide) hk1 hFc hP1 hD1
      generalize H1 = H at hP hS ⊢
      rw [hr9]
      refine W.eq (g2 := F0 m 19 ls [.int o7]) rfl ?_
      refine lv_if_eq (tgt := 34) hx hb dB_binary_19 (by decide) (fun hc => ?_) (fun hc => ?_)
      · rw [if_pos hc] at hf
        refine lv_iconst (v := 0) hx hb dB_binary_34 (by decide) ?_
        obtain ⟨o10, hq11, hf⟩ := xbind hf
        by_cases hk12 : o10 = 0
        · rw [if_pos hk12] at hf
          obtain ⟨hPc, hDc, hFc⟩ := xcut (wc := []) hP hD hS hA [] rfl rfl (by decide)
          refine va_callv (va_runS (As := [.int 0]) (rest := []) ⟨hx, hb, hml, hown, htx⟩ (gB_demand l hl9 D cT aK aV H.size n (0 : Int32) o10 hq11 hk12) ⟨callB_of 1 htx (xw_goodC kw_1_221) rfl rfl rfl (htx _ kw_1_1) (htx _ kw_1_219) ⟨by decide, by decide, by decide +kernel⟩ ⟨Nat.le_of_ble_eq_true rfl, Nat.le_of_ble_eq_true rfl⟩, htx _ kw_1_220⟩ ⟨xPre_blind, (fun U hU hW => ⟨rfl, xPre_of hZ hS hFc hPc hDc hK U hU hW⟩)⟩ rfl rfl hl.1 rfl (lv_room (Nat.le_of_ble_eq_true rfl)) dB_binary_35 ⟨Nat.le_of_ble_eq_true rfl, Nat.le_of_ble_eq_true rfl⟩) hS (fun q _ h => hFc q h) hFc (fun u9 t H1 locs ht hvm hr9 hB hz1 hk1 hS => ?_)
          obtain ⟨hP1, hK1, hD1⟩ := hB
          rw [ht] at hP1
          obtain ⟨hP, hD⟩ := xjoin (W := [(a0, .inr (0, [.ref a1, .ref a3, .ref a5, .ref a7, .ref a8, .ref a13, .int v19, .int v20])), (a1, .inr (1, [.ref a2, .int v1, .int v2])), (a2, .inl (cT 0, 4096, .inl f0)), (a3, .inr (1, [.ref a4, .int v4, .int v5])), (a4, .inl (cT 0, 4096, .inl f3)), (a5, .inr (1, [.ref a6, .int v7, .int v8])), (a6, .inl (cT 0, 4096, .inl f6)), (a7, .inl (cT 3, 8, .inr (.inr (.inr (.inr rf0))))), (a8, .inr (3, [.ref a9, .ref a10, .ref p11, .ref p13, .int v15])), (a9, .inl (cT 1, 2048, .inl f9)), (a10, .inl (cT 1, 2048, .inl f10)), (p11, .inl (cT 1, 2048, .inl f12)), (p13, .inl (cT 1, 2048, .inl f14)), (a13, .inr (2, [.ref a14, .int v17, .int v18])), (a14, .inl (cT 2, 4096, .inr (.inl f16))), (a15, .inr (2, [.ref a16, .int v22, .int v23])), (a16, .inl (cT 2, 4096, .inr (.inl f21))), (a17, .inr (2, [.ref a18, .int v25, .int v26])), (a18, .inl (cT 2, 4096, .inr (.inl f24)))]) hP hD [] [0, 1, 2, 3, 4, 5, 6, 7, 8, 9, 10, 11, 12, 13, 14, 15, 16, 17, 18] 19 rfl rfl (by decide) (by decide) hk1 hFc hP1 hD1
          generalize H1 = H at hP hS ⊢
          refine lv_aload_n hx hb dB_binary_38 rfl (lv_at hl 0 rfl) ?_
          refine va_get (D := D) (ci := 0) (v := .ref a13) (C := "ValueBench") (T := TB) (N := 8) hx hb htx inB hown hK hP 0 rfl rfl 5 (by decide) (htx _ kw_1_100) (fun _ h9 => h9) rfl dB_binary_39 ?_
          obtain ⟨o13, hq14, hf⟩ := xbind hf
          obtain ⟨hPc, hDc, hFc⟩ := xcut (wc := [(a13, .inr (2, [.ref a14, .int v17, .int v18])), (a14, .inl (cT 2, 4096, .inr (.inl f16)))]) hP hD hS hA [13, 14] rfl rfl (by decide)
          refine va_callv (va_runV (C := "ValueBench$Row") (As := []) (rest := []) ⟨hx, hb, hml, hown, htx⟩ (gR_clear l hl9 D cT aK aV H.size n a13 a14 f16 v17 v18 o13 hq14) ⟨callB_of 0 htx (xw_goodC kw_2_22) rfl rfl rfl (htx _ kw_1_4) (htx _ kw_2_19) ⟨by decide, by decide, by decide +kernel⟩ ⟨Nat.le_of_ble_eq_true rfl, Nat.le_of_ble_eq_true rfl⟩, (htx _ kw_2_20), (htx _ kw_2_21)⟩ ⟨xPre_blind, va_recv hK hP (ci := 2) rfl (q0 := 13) rfl, (fun U hU hW => ⟨rfl, xPre_of hZ hS hFc hPc hDc hK U hU hW⟩)⟩ rfl rfl hl.1 rfl (lv_room (Nat.le_of_ble_eq_true rfl)) dB_binary_42 ⟨Nat.le_of_ble_eq_true rfl, Nat.le_of_ble_eq_true rfl⟩) hS (fun q _ h => hFc q h) hFc (fun u9 t H1 locs ht hvm hr9 hB hz1 hk1 hS => ?_)
          obtain ⟨hP1, hK1, hD1⟩ := hB
          rw [ht] at hP1
          obtain ⟨hP, hD⟩ := xjoin (W := [(a0, .inr (0, [.ref a1, .ref a3, .ref a5, .ref a7, .ref a8, .ref a13, .int v19, .int v20])), (a1, .inr (1, [.ref a2, .int v1, .int v2])), (a2, .inl (cT 0, 4096, .inl f0)), (a3, .inr (1, [.ref a4, .int v4, .int v5])), (a4, .inl (cT 0, 4096, .inl f3)), (a5, .inr (1, [.ref a6, .int v7, .int v8])), (a6, .inl (cT 0, 4096, .inl f6)), (a7, .inl (cT 3, 8, .inr (.inr (.inr (.inr rf0))))), (a8, .inr (3, [.ref a9, .ref a10, .ref p11, .ref p13, .int v15])), (a9, .inl (cT 1, 2048, .inl f9)), (a10, .inl (cT 1, 2048, .inl f10)), (p11, .inl (cT 1, 2048, .inl f12)), (p13, .inl (cT 1, 2048, .inl f14)), (a15, .inr (2, [.ref a16, .int v22, .int v23])), (a16, .inl (cT 2, 4096, .inr (.inl f21))), (a17, .inr (2, [.ref a18, .int v25, .int v26])), (a18, .inl (cT 2, 4096, .inr (.inl f24))), (a13, .inr (2, [.ref a14, .int o13.1, .int o13.2])), (a14, .inl (cT 2, 4096, .inr (.inl f16)))]) hP hD [13, 14] [0, 1, 2, 3, 4, 5, 6, 7, 8, 9, 10, 11, 12, 15, 16, 17, 18] 17 rfl rfl (by decide) (by decide) hk1 hFc hP1 hD1
          generalize H1 = H at hP hS ⊢
          refine lv_aload_n hx hb dB_binary_45 rfl (lv_at hl 0 rfl) ?_
          refine lv_iload_n hx hb dB_binary_46 rfl (lv_at hl 2 rfl) ?_
          refine lv_aload_n hx hb dB_binary_47 rfl (lv_at hl 0 rfl) ?_
          refine va_get (D := D) (ci := 0) (v := .ref a7) (C := "ValueBench") (T := TB) (N := 8) hx hb htx inB hown hK hP 0 rfl rfl 3 (by decide) (htx _ kw_1_98) (fun _ h9 => h9) rfl dB_binary_48 ?_
          refine lv_iload_n hx hb dB_binary_51 rfl (lv_at hl 3 rfl) ?_
          obtain ⟨hg15, hf⟩ := xifn hf
          refine va_aldq hx hb hK hP 7 3 rfl rfl hg15 dB_binary_52 ?_
          refine W.eq (g2 := F0 m 53 ls [va_rf (rf0 x3.toNatClampNeg), .int x2, .ref a0]) rfl ?_
          rw [hr3 hg15]
          refine W.eq (g2 := F0 m 53 ls [.ref a15, .int x2, .ref a0]) rfl ?_
          refine lv_aload_n hx hb dB_binary_53 rfl (lv_at hl 0 rfl) ?_
          refine va_get (D := D) (ci := 0) (v := .ref a7) (C := "ValueBench") (T := TB) (N := 8) hx hb htx inB hown hK hP 0 rfl rfl 3 (by decide) (htx _ kw_1_98) (fun _ h9 => h9) rfl dB_binary_54 ?_
          refine lv_iload hx hb dB_binary_57 (lv_at hl 4 rfl) ?_
          obtain ⟨hg16, hf⟩ := xifn hf
          refine va_aldq hx hb hK hP 7 3 rfl rfl hg16 dB_binary_59 ?_
          refine W.eq (g2 := F0 m 60 ls [va_rf (rf0 x4.toNatClampNeg), .ref a15, .int x2, .ref a0]) rfl ?_
          rw [hr4 hg16]
          refine W.eq (g2 := F0 m 60 ls [.ref a17, .ref a15, .int x2, .ref a0]) rfl ?_
          refine lv_aload_n hx hb dB_binary_60 rfl (lv_at hl 0 rfl) ?_
          refine va_get (D := D) (ci := 0) (v := .ref a13) (C := "ValueBench") (T := TB) (N := 8) hx hb htx inB hown hK hP 0 rfl rfl 5 (by decide) (htx _ kw_1_100) (fun _ h9 => h9) rfl dB_binary_61 ?_
          obtain ⟨o17, hq18, hf⟩ := xbind hf
          obtain ⟨hPc, hDc, hFc⟩ := xcut (wc := [(a15, .inr (2, [.ref a16, .int v22, .int v23])), (a16, .inl (cT 2, 4096, .inr (.inl f21))), (a17, .inr (2, [.ref a18, .int v25, .int v26])), (a18, .inl (cT 2, 4096, .inr (.inl f24))), (a13, .inr (2, [.ref a14, .int o13.1, .int o13.2])), (a14, .inl (cT 2, 4096, .inr (.inl f16)))]) hP hD hS hA [13, 14, 15, 16, 17, 18] rfl rfl (by decide)
          refine va_calli (va_runS (As := [.int x2, .ref a15, .ref a17, .ref a13]) (rest := [.ref a0]) ⟨hx, hb, hml, hown, htx⟩ (gA_apply l hl9 D cT aK aV H.size d n a15 a16 a17 a18 a13 a14 x2 f21 v22 v23 f24 v25 v26 f16 o13.1 o13.2 o17 hq18) ⟨callB_of 4 htx (xw_goodC kw_3_105) rfl rfl rfl (htx _ kw_1_21) (htx _ kw_3_103) ⟨by decide, by decide, by decide +kernel⟩ ⟨(by show (16 * d + 5) + 1 ≤ 16 * d + 7; omega), (by show 8 + (4 + 11) + (400 * d + 157) ≤ 400 * d + 180; omega)⟩, htx _ kw_3_104⟩ ⟨xPre_blind, (fun U hU hW => ⟨rfl, xPre_of hZ hS hFc hPc hDc hK U hU hW⟩)⟩ rfl rfl hl.1 rfl (lv_room (Nat.le_of_ble_eq_true rfl)) dB_binary_64 ⟨Nat.le_of_ble_eq_true rfl, Nat.le_of_ble_eq_true rfl⟩) hS (fun q _ h => hFc q h) hFc (fun r19 u9 t H1 locs ht hvm hr9 hB hz1 hk1 hS => ?_)
          obtain ⟨hP1, hK1, hD1⟩ := hB
          rw [ht] at hP1
          obtain ⟨hP, hD⟩ := xjoin (W := [(a0, .inr (0, [.ref a1, .ref a3, .ref a5, .ref a7, .ref a8, .ref a13, .int v19, .int v20])), (a1, .inr (1, [.ref a2, .int v1, .int v2])), (a2, .inl (cT 0, 4096, .inl f0)), (a3, .inr (1, [.ref a4, .int v4, .int v5])), (a4, .inl (cT 0, 4096, .inl f3)), (a5, .inr (1, [.ref a6, .int v7, .int v8])), (a6, .inl (cT 0, 4096, .inl f6)), (a7, .inl (cT 3, 8, .inr (.inr (.inr (.inr rf0))))), (a8, .inr (3, [.ref a9, .ref a10, .ref p11, .ref p13, .int v15])), (a9, .inl (cT 1, 2048, .inl f9)), (a10, .inl (cT 1, 2048, .inl f10)), (p11, .inl (cT 1, 2048, .inl f12)), (p13, .inl (cT 1, 2048, .inl f14)), (a15, .inr (2, [.ref a16, .int v22, .int v23])), (a16, .inl (cT 2, 4096, .inr (.inl f21))), (a17, .inr (2, [.ref a18, .int v25, .int v26])), (a18, .inl (cT 2, 4096, .inr (.inl f24))), (a13, .inr (2, [.ref a14, .int o17.2.2.1, .int o17.2.2.2])), (a14, .inl (cT 2, 4096, .inr (.inl o17.2.1)))]) hP hD [13, 14, 15, 16, 17, 18] [0, 1, 2, 3, 4, 5, 6, 7, 8, 9, 10, 11, 12] 13 rfl rfl (by decide) (by decide) hk1 hFc hP1 hD1
          generalize H1 = H at hP hS ⊢
          rw [hr9]
          refine W.eq (g2 := F0 m 67 ls [.int o17.1, .ref a0]) rfl ?_
          obtain ⟨o20, hq21, hf⟩ := xbind hf
          by_cases hk22 : o20.1 = 0
          · rw [if_pos hk22] at hf
            obtain ⟨hPc, hDc, hFc⟩ := xcut (wc := [(a0, .inr (0, [.ref a1, .ref a3, .ref a5, .ref a7, .ref a8, .ref a13, .int v19, .int v20])), (a1, .inr (1, [.ref a2, .int v1, .int v2])), (a2, .inl (cT 0, 4096, .inl f0)), (a3, .inr (1, [.ref a4, .int v4, .int v5])), (a4, .inl (cT 0, 4096, .inl f3)), (a5, .inr (1, [.ref a6, .int v7, .int v8])), (a6, .inl (cT 0, 4096, .inl f6)), (a7, .inl (cT 3, 8, .inr (.inr (.inr (.inr rf0))))), (a8, .inr (3, [.ref a9, .ref a10, .ref p11, .ref p13, .int v15])), (a9, .inl (cT 1, 2048, .inl f9)), (a10, .inl (cT 1, 2048, .inl f10)), (p11, .inl (cT 1, 2048, .inl f12)), (p13, .inl (cT 1, 2048, .inl f14)), (a13, .inr (2, [.ref a14, .int o17.2.2.1, .int o17.2.2.2])), (a14, .inl (cT 2, 4096, .inr (.inl o17.2.1)))]) hP hD hS hA [0, 1, 2, 3, 4, 5, 6, 7, 8, 9, 10, 11, 12, 17, 18] rfl rfl (by decide)
            refine va_callv (va_runV (C := "ValueBench") (As := [.int o17.1]) (rest := []) ⟨hx, hb, hml, hown, htx⟩ (gB_demandDone l hl9 D cT aK aV H.size n a0 a1 a2 a3 a4 a5 a6 a7 a8 a9 a10 a13 a14 rf0 o17.1 f0 v1 v2 f3 v4 v5 f6 v7 v8 f9 f10 p11 f12 p13 f14 v15 o17.2.1 o17.2.2.1 o17.2.2.2 v19 v20 o20 hq21 hk22) ⟨callB_of 1 htx (xw_goodC kw_3_222) rfl rfl rfl (htx _ kw_1_1) (htx _ kw_3_219) ⟨by decide, by decide, by decide +kernel⟩ ⟨Nat.le_of_ble_eq_true rfl, Nat.le_of_ble_eq_true rfl⟩, (htx _ kw_3_221), (htx _ kp_B_demandDone)⟩ ⟨xPre_blind, va_recv hK hP (ci := 0) rfl (q0 := 0) rfl, (fun U hU hW => ⟨rfl, xPre_of hZ hS hFc hPc hDc hK U hU hW⟩)⟩ rfl rfl hl.1 rfl (lv_room (Nat.le_of_ble_eq_true rfl)) dB_binary_67 ⟨Nat.le_of_ble_eq_true rfl, Nat.le_of_ble_eq_true rfl⟩) hS (fun q _ h => hFc q h) hFc (fun u9 t H1 locs ht hvm hr9 hB hz1 hk1 hS => ?_)
            obtain ⟨hP1, hK1, hD1⟩ := hB
            rw [ht] at hP1
            obtain ⟨hP, hD⟩ := xjoin (W := [(a15, .inr (2, [.ref a16, .int v22, .int v23])), (a16, .inl (cT 2, 4096, .inr (.inl f21))), (a17, .inr (2, [.ref a18, .int v25, .int v26])), (a18, .inl (cT 2, 4096, .inr (.inl f24))), (a0, .inr (0, [.ref a1, .ref a3, .ref a5, .ref a7, .ref a8, .ref a13, .int v19, .int o20.2])), (a1, .inr (1, [.ref a2, .int v1, .int v2])), (a2, .inl (cT 0, 4096, .inl f0)), (a3, .inr (1, [.ref a4, .int v4, .int v5])), (a4, .inl (cT 0, 4096, .inl f3)), (a5, .inr (1, [.ref a6, .int v7, .int v8])), (a6, .inl (cT 0, 4096, .inl f6)), (a7, .inl (cT 3, 8, .inr (.inr (.inr (.inr rf0))))), (a8, .inr (3, [.ref a9, .ref a10, .ref p11, .ref p13, .int v15])), (a9, .inl (cT 1, 2048, .inl f9)), (a10, .inl (cT 1, 2048, .inl f10)), (p11, .inl (cT 1, 2048, .inl f12)), (p13, .inl (cT 1, 2048, .inl f14)), (a13, .inr (2, [.ref a14, .int o17.2.2.1, .int o17.2.2.2])), (a14, .inl (cT 2, 4096, .inr (.inl o17.2.1)))]) hP hD [0, 1, 2, 3, 4, 5, 6, 7, 8, 9, 10, 11, 12, 17, 18] [13, 14, 15, 16] 4 rfl rfl (by decide) (by decide) hk1 hFc hP1 hD1
            generalize H1 = H at hP hS ⊢
            refine lv_aload_n hx hb dB_binary_70 rfl (lv_at hl 0 rfl) ?_
            refine lv_iload_n hx hb dB_binary_71 rfl (lv_at hl 1 rfl) ?_
            obtain ⟨o23, hq24, hf⟩ := xbind hf
            by_cases hk25 : o23.1 = 0
            · rw [if_pos hk25] at hf
              obtain ⟨hPc, hDc, hFc⟩ := xcut (wc := [(a0, .inr (0, [.ref a1, .ref a3, .ref a5, .ref a7, .ref a8, .ref a13, .int v19, .int o20.2])), (a1, .inr (1, [.ref a2, .int v1, .int v2])), (a2, .inl (cT 0, 4096, .inl f0)), (a3, .inr (1, [.ref a4, .int v4, .int v5])), (a4, .inl (cT 0, 4096, .inl f3)), (a5, .inr (1, [.ref a6, .int v7, .int v8])), (a6, .inl (cT 0, 4096, .inl f6)), (a7, .inl (cT 3, 8, .inr (.inr (.inr (.inr rf0))))), (a8, .inr (3, [.ref a9, .ref a10, .ref p11, .ref p13, .int v15])), (a9, .inl (cT 1, 2048, .inl f9)), (a10, .inl (cT 1, 2048, .inl f10)), (p11, .inl (cT 1, 2048, .inl f12)), (p13, .inl (cT 1, 2048, .inl f14)), (a13, .inr (2, [.ref a14, .int o17.2.2.1, .int o17.2.2.2])), (a14, .inl (cT 2, 4096, .inr (.inl o17.2.1)))]) hP hD hS hA [4, 5, 6, 7, 8, 9, 10, 11, 12, 13, 14, 15, 16, 17, 18] rfl rfl (by decide)
              refine va_calli (va_runV (C := "ValueBench") (As := [.int x1]) (rest := []) ⟨hx, hb, hml, hown, htx⟩ (gB_keepSpare l hl9 D cT aK aV H.size d n a0 a1 a2 a3 a4 a5 a6 a7 a8 a9 a10 a13 a14 rf0 b1 x1 f0 v1 v2 f3 v4 v5 f6 v7 v8 f9 f10 p11 f12 p13 f14 v15 o17.2.1 o17.2.2.1 o17.2.2.2 v19 o20.2 hr1 o23 hq24 hk25) ⟨callB_of 1 htx (xw_goodC kw_3_17) rfl rfl rfl (htx _ kw_1_1) (htx _ kw_3_14) ⟨by decide, by decide, by decide +kernel⟩ ⟨(by show (16 * d + 6) + 1 ≤ 16 * d + 7; omega), (by show 8 + (3 + 11) + (400 * d + 100) ≤ 400 * d + 180; omega)⟩, (htx _ kw_3_16), (htx _ kp_B_keepSpare)⟩ ⟨xPre_blind, va_recv hK hP (ci := 0) rfl (q0 := 4) rfl, (fun U hU hW => ⟨rfl, xPre_of hZ hS hFc hPc hDc hK U hU hW⟩)⟩ rfl rfl hl.1 rfl (lv_room (Nat.le_of_ble_eq_true rfl)) dB_binary_72 ⟨Nat.le_of_ble_eq_true rfl, Nat.le_of_ble_eq_true rfl⟩) hS (fun q _ h => hFc q h) hFc (fun r26 u9 t H1 locs ht hvm hr9 hB hz1 hk1 hS => ?_)
              obtain ⟨hP1, hK1, hD1⟩ := hB
              rw [ht] at hP1
              obtain ⟨hP, hD⟩ := xjoin (W := [(a15, .inr (2, [.ref a16, .int v22, .int v23])), (a16, .inl (cT 2, 4096, .inr (.inl f21))), (a17, .inr (2, [.ref a18, .int v25, .int v26])), (a18, .inl (cT 2, 4096, .inr (.inl f24))), (a0, .inr (0, [.ref a1, .ref a3, .ref a5, .ref a7, .ref a8, .ref b1, .int v19, .int o20.2])), (a1, .inr (1, [.ref a2, .int v1, .int v2])), (a2, .inl (cT 0, 4096, .inl f0)), (a3, .inr (1, [.ref a4, .int v4, .int v5])), (a4, .inl (cT 0, 4096, .inl f3)), (a5, .inr (1, [.ref a6, .int o23.2.2.2.1, .int o23.2.2.2.2])), (a6, .inl (cT 0, 4096, .inl o23.2.2.1)), (a7, .inl (cT 3, 8, .inr (.inr (.inr (.inr (va_up rf0 x1.toNatClampNeg (some a13))))))), (a8, .inr (3, [.ref a9, .ref a10, .ref p11, .ref p13, .int v15])), (a9, .inl (cT 1, 2048, .inl f9)), (a10, .inl (cT 1, 2048, .inl f10)), (p11, .inl (cT 1, 2048, .inl f12)), (p13, .inl (cT 1, 2048, .inl f14)), (a13, .inr (2, [.ref a14, .int o17.2.2.1, .int o17.2.2.2])), (a14, .inl (cT 2, 4096, .inr (.inl o17.2.1)))]) hP hD [4, 5, 6, 7, 8, 9, 10, 11, 12, 13, 14, 15, 16, 17, 18] [0, 1, 2, 3] 4 rfl rfl (by decide) (by decide) hk1 hFc hP1 hD1
              generalize H1 = H at hP hS ⊢
              rw [hr9]
              refine W.eq (g2 := F0 m 75 ls [.int o23.2.1]) rfl ?_
              refine lv_pop hx hb dB_binary_75 rfl ?_
              obtain rfl := Option.some.inj hf
              exact absurd (show (0 : Nat) = 2 from hkd) (by decide)
            rw [if_neg hk25] at hf
            by_cases hk27 : o23.1 = 1
            · rw [if_pos hk27] at hf
              obtain rfl := Option.some.inj hf
              exact absurd (show (1 : Nat) = 2 from hkd) (by decide)
            rw [if_neg hk27] at hf
            exact nomatch hf
          rw [if_neg hk22] at hf
          by_cases hk29 : o20.1 = 1
          · rw [if_pos hk29] at hf
            obtain ⟨hPc, hDc, hFc⟩ := xcut (wc := [(a0, .inr (0, [.ref a1, .ref a3, .ref a5, .ref a7, .ref a8, .ref a13, .int v19, .int v20])), (a1, .inr (1, [.ref a2, .int v1, .int v2])), (a2, .inl (cT 0, 4096, .inl f0)), (a3, .inr (1, [.ref a4, .int v4, .int v5])), (a4, .inl (cT 0, 4096, .inl f3)), (a5, .inr (1, [.ref a6, .int v7, .int v8])), (a6, .inl (cT 0, 4096, .inl f6)), (a7, .inl (cT 3, 8, .inr (.inr (.inr (.inr rf0))))), (a8, .inr (3, [.ref a9, .ref a10, .ref p11, .ref p13, .int v15])), (a9, .inl (cT 1, 2048, .inl f9)), (a10, .inl (cT 1, 2048, .inl f10)), (p11, .inl (cT 1, 2048, .inl f12)), (p13, .inl (cT 1, 2048, .inl f14)), (a13, .inr (2, [.ref a14, .int o17.2.2.1, .int o17.2.2.2])), (a14, .inl (cT 2, 4096, .inr (.inl o17.2.1)))]) hP hD hS hA [0, 1, 2, 3, 4, 5, 6, 7, 8, 9, 10, 11, 12, 17, 18] rfl rfl (by decide)
            refine xx_thr (vx_runV (C := "ValueBench") (As := [.int o17.1]) (rest := []) ⟨hx, hb, hml, hown, htx⟩ (gB_demandDone_1 l hl9 D cT aK aV H.size n a0 a1 a2 a3 a4 a5 a6 a7 a8 a9 a10 a13 a14 rf0 o17.1 f0 v1 v2 f3 v4 v5 f6 v7 v8 f9 f10 p11 f12 p13 f14 v15 o17.2.1 o17.2.2.1 o17.2.2.2 v19 v20 o20 hq21 hk29) ⟨callB_of 1 htx (xw_goodC kw_3_222) rfl rfl rfl (htx _ kw_1_1) (htx _ kw_3_219) ⟨by decide, by decide, by decide +kernel⟩ ⟨Nat.le_of_ble_eq_true rfl, Nat.le_of_ble_eq_true rfl⟩, (htx _ kw_3_221), (htx _ kp_B_demandDone)⟩ ⟨xPre_blind, va_recv hK hP (ci := 0) rfl (q0 := 0) rfl, (fun U hU hW => ⟨rfl, xPre_of hZ hS hFc hPc hDc hK U hU hW⟩)⟩ rfl rfl hl.1 rfl (lv_room (Nat.le_of_ble_eq_true rfl)) dB_binary_67 ⟨Nat.le_of_ble_eq_true rfl, Nat.le_of_ble_eq_true rfl⟩) hS hFc (fun q _ h => hFc q h) (fun E ce q9 u9 t H1 locs ht hvm _ hB hz1 hk1 hS hce hcv hcl => ?_)
            obtain ⟨rfl, hP1, hK1, hD1⟩ := hB
            rw [ht] at hP1
            obtain ⟨hP, hD⟩ := xjoin (W := [(a15, .inr (2, [.ref a16, .int v22, .int v23])), (a16, .inl (cT 2, 4096, .inr (.inl f21))), (a17, .inr (2, [.ref a18, .int v25, .int v26])), (a18, .inl (cT 2, 4096, .inr (.inl f24))), (a0, .inr (0, [.ref a1, .ref a3, .ref a5, .ref a7, .ref a8, .ref a13, .int v19, .int o20.2])), (a1, .inr (1, [.ref a2, .int v1, .int v2])), (a2, .inl (cT 0, 4096, .inl f0)), (a3, .inr (1, [.ref a4, .int v4, .int v5])), (a4, .inl (cT 0, 4096, .inl f3)), (a5, .inr (1, [.ref a6, .int v7, .int v8])), (a6, .inl (cT 0, 4096, .inl f6)), (a7, .inl (cT 3, 8, .inr (.inr (.inr (.inr rf0))))), (a8, .inr (3, [.ref a9, .ref a10, .ref p11, .ref p13, .int v15])), (a9, .inl (cT 1, 2048, .inl f9)), (a10, .inl (cT 1, 2048, .inl f10)), (p11, .inl (cT 1, 2048, .inl f12)), (p13, .inl (cT 1, 2048, .inl f14)), (a13, .inr (2, [.ref a14, .int o17.2.2.1, .int o17.2.2.2])), (a14, .inl (cT 2, 4096, .inr (.inl o17.2.1)))]) hP hD [0, 1, 2, 3, 4, 5, 6, 7, 8, 9, 10, 11, 12, 17, 18] [13, 14, 15, 16] 4 rfl rfl (by decide) (by decide) hk1 hFc hP1 hD1
            generalize H1 = H at hP hS hce ⊢
            obtain rfl := Option.some.inj hf
            obtain ⟨hP9, hD9⟩ := xsub (wc := [(a0, .inr (0, [.ref a1, .ref a3, .ref a5, .ref a7, .ref a8, .ref a13, .int v19, .int o20.2])), (a1, .inr (1, [.ref a2, .int v1, .int v2])), (a2, .inl (cT 0, 4096, .inl f0)), (a3, .inr (1, [.ref a4, .int v4, .int v5])), (a4, .inl (cT 0, 4096, .inl f3)), (a5, .inr (1, [.ref a6, .int v7, .int v8])), (a6, .inl (cT 0, 4096, .inl f6)), (a7, .inl (cT 3, 8, .inr (.inr (.inr (.inr rf0))))), (a8, .inr (3, [.ref a9, .ref a10, .ref p11, .ref p13, .int v15])), (a9, .inl (cT 1, 2048, .inl f9)), (a10, .inl (cT 1, 2048, .inl f10)), (p11, .inl (cT 1, 2048, .inl f12)), (p13, .inl (cT 1, 2048, .inl f14)), (a13, .inr (2, [.ref a14, .int o17.2.2.1, .int o17.2.2.2])), (a14, .inl (cT 2, 4096, .inr (.inl o17.2.1))), (a15, .inr (2, [.ref a16, .int v22, .int v23])), (a16, .inl (cT 2, 4096, .inr (.inl f21))), (a17, .inr (2, [.ref a18, .int v25, .int v26])), (a18, .inl (cT 2, 4096, .inr (.inl f24)))]) hP hD [4, 5, 6, 7, 8, 9, 10, 11, 12, 13, 14, 15, 16, 17, 18, 0, 1, 2, 3] rfl rfl (by decide)
            exact vx_out (E := "java/lang/ArithmeticException") (fun x h => (hne x h).elim) hlocks hce hcv hcl (fun t ht ha => ⟨(), trivial, ⟨rfl, by rw [ht]; exact hP9, va_K.moved ha hK, hD9⟩, hS.F ht⟩) hS.2.2 (Nat.le_of_ble_eq_true rfl) (Nat.le_of_ble_eq_true rfl)
          rw [if_neg hk29] at hf
          exact nomatch hf
        rw [if_neg hk12] at hf
        by_cases hk30 : o10 = 1
        · rw [if_pos hk30] at hf
          obtain rfl := Option.some.inj hf
          exact absurd (show (3 : Nat) = 2 from hkd) (by decide)
        rw [if_neg hk30] at hf
        exact nomatch hf
      · rw [if_neg hc] at hf
        refine lv_iload hx hb dB_binary_22 (lv_at hl 4 rfl) ?_
        obtain ⟨o10, hq11, hf⟩ := xbind hf
        obtain ⟨hPc, hDc, hFc⟩ := xcut (wc := []) hP hD hS hA [] rfl rfl (by decide)
        refine va_calli (va_runS (As := [.int x4]) (rest := []) ⟨hx, hb, hml, hown, htx⟩ (gB_isRegister l hl9 D cT aK aV H.size n x4 o10 hq11) ⟨callB_of 1 htx (xw_goodC kw_2_18) rfl rfl rfl (htx _ kw_1_1) (htx _ kw_2_16) ⟨by decide, by decide, by decide +kernel⟩ ⟨Nat.le_of_ble_eq_true rfl, Nat.le_of_ble_eq_true rfl⟩, htx _ kw_2_17⟩ ⟨xPre_blind, (fun U hU hW => ⟨rfl, xPre_of hZ hS hFc hPc hDc hK U hU hW⟩)⟩ rfl rfl hl.1 rfl (lv_room (Nat.le_of_ble_eq_true rfl)) dB_binary_24 ⟨Nat.le_of_ble_eq_true rfl, Nat.le_of_ble_eq_true rfl⟩) hS (fun q _ h => hFc q h) hFc (fun r12 u9 t H1 locs ht hvm hr9 hB hz1 hk1 hS => ?_)
        obtain ⟨hP1, hK1, hD1⟩ := hB
        rw [ht] at hP1
        obtain ⟨hP, hD⟩ := xjoin (W := [(a0, .inr (0, [.ref a1, .ref a3, .ref a5, .ref a7, .ref a8, .ref a13, .int v19, .int v20])), (a1, .inr (1, [.ref a2, .int v1, .int v2])), (a2, .inl (cT 0, 4096, .inl f0)), (a3, .inr (1, [.ref a4, .int v4, .int v5])), (a4, .inl (cT 0, 4096, .inl f3)), (a5, .inr (1, [.ref a6, .int v7, .int v8])), (a6, .inl (cT 0, 4096, .inl f6)), (a7, .inl (cT 3, 8, .inr (.inr (.inr (.inr rf0))))), (a8, .inr (3, [.ref a9, .ref a10, .ref p11, .ref p13, .int v15])), (a9, .inl (cT 1, 2048, .inl f9)), (a10, .inl (cT 1, 2048, .inl f10)), (p11, .inl (cT 1, 2048, .inl f12)), (p13, .inl (cT 1, 2048, .inl f14)), (a13, .inr (2, [.ref a14, .int v17, .int v18])), (a14, .inl (cT 2, 4096, .inr (.inl f16))), (a15, .inr (2, [.ref a16, .int v22, .int v23])), (a16, .inl (cT 2, 4096, .inr (.inl f21))), (a17, .inr (2, [.ref a18, .int v25, .int v26])), (a18, .inl (cT 2, 4096, .inr (.inl f24)))]) hP hD [] [0, 1, 2, 3, 4, 5, 6, 7, 8, 9, 10, 11, 12, 13, 14, 15, 16, 17, 18] 19 rfl rfl (by decide) (by decide) hk1 hFc hP1 hD1
        generalize H1 = H at hP hS ⊢
        rw [hr9]
        refine W.eq (g2 := F0 m 27 ls [.int o10]) rfl ?_
        refine lv_if_eq (tgt := 34) hx hb dB_binary_27 (by decide) (fun hc => ?_) (fun hc => ?_)
        · rw [if_pos hc] at hf
          refine lv_iconst (v := 0) hx hb dB_binary_34 (by decide) ?_
          obtain ⟨o13, hq14, hf⟩ := xbind hf
          by_cases hk15 : o13 = 0
          · rw [if_pos hk15] at hf
            obtain ⟨hPc, hDc, hFc⟩ := xcut (wc := []) hP hD hS hA [] rfl rfl (by decide)
            refine va_callv (va_runS (As := [.int 0]) (rest := []) ⟨hx, hb, hml, hown, htx⟩ (gB_demand l hl9 D cT aK aV H.size n (0 : Int32) o13 hq14 hk15) ⟨callB_of 1 htx (xw_goodC kw_1_221) rfl rfl rfl (htx _ kw_1_1) (htx _ kw_1_219) ⟨by decide, by decide, by decide +kernel⟩ ⟨Nat.le_of_ble_eq_true rfl, Nat.le_of_ble_eq_true rfl⟩, htx _ kw_1_220⟩ ⟨xPre_blind, (fun U hU hW => ⟨rfl, xPre_of hZ hS hFc hPc hDc hK U hU hW⟩)⟩ rfl rfl hl.1 rfl (lv_room (Nat.le_of_ble_eq_true rfl)) dB_binary_35 ⟨Nat.le_of_ble_eq_true rfl, Nat.le_of_ble_eq_true rfl⟩) hS (fun q _ h => hFc q h) hFc (fun u9 t H1 locs ht hvm hr9 hB hz1 hk1 hS => ?_)
            obtain ⟨hP1, hK1, hD1⟩ := hB
            rw [ht] at hP1
            obtain ⟨hP, hD⟩ := xjoin (W := [(a0, .inr (0, [.ref a1, .ref a3, .ref a5, .ref a7, .ref a8, .ref a13, .int v19, .int v20])), (a1, .inr (1, [.ref a2, .int v1, .int v2])), (a2, .inl (cT 0, 4096, .inl f0)), (a3, .inr (1, [.ref a4, .int v4, .int v5])), (a4, .inl (cT 0, 4096, .inl f3)), (a5, .inr (1, [.ref a6, .int v7, .int v8])), (a6, .inl (cT 0, 4096, .inl f6)), (a7, .inl (cT 3, 8, .inr (.inr (.inr (.inr rf0))))), (a8, .inr (3, [.ref a9, .ref a10, .ref p11, .ref p13, .int v15])), (a9, .inl (cT 1, 2048, .inl f9)), (a10, .inl (cT 1, 2048, .inl f10)), (p11, .inl (cT 1, 2048, .inl f12)), (p13, .inl (cT 1, 2048, .inl f14)), (a13, .inr (2, [.ref a14, .int v17, .int v18])), (a14, .inl (cT 2, 4096, .inr (.inl f16))), (a15, .inr (2, [.ref a16, .int v22, .int v23])), (a16, .inl (cT 2, 4096, .inr (.inl f21))), (a17, .inr (2, [.ref a18, .int v25, .int v26])), (a18, .inl (cT 2, 4096, .inr (.inl f24)))]) hP hD [] [0, 1, 2, 3, 4, 5, 6, 7, 8, 9, 10, 11, 12, 13, 14, 15, 16, 17, 18] 19 rfl rfl (by decide) (by decide) hk1 hFc hP1 hD1
            generalize H1 = H at hP hS ⊢
            refine lv_aload_n hx hb dB_binary_38 rfl (lv_at hl 0 rfl) ?_
            refine va_get (D := D) (ci := 0) (v := .ref a13) (C := "ValueBench") (T := TB) (N := 8) hx hb htx inB hown hK hP 0 rfl rfl 5 (by decide) (htx _ kw_1_100) (fun _ h9 => h9) rfl dB_binary_39 ?_
            obtain ⟨o16, hq17, hf⟩ := xbind hf
            obtain ⟨hPc, hDc, hFc⟩ := xcut (wc := [(a13, .inr (2, [.ref a14, .int v17, .int v18])), (a14, .inl (cT 2, 4096, .inr (.inl f16)))]) hP hD hS hA [13, 14] rfl rfl (by decide)
            refine va_callv (va_runV (C := "ValueBench$Row") (As := []) (rest := []) ⟨hx, hb, hml, hown, htx⟩ (gR_clear l hl9 D cT aK aV H.size n a13 a14 f16 v17 v18 o16 hq17) ⟨callB_of 0 htx (xw_goodC kw_2_22) rfl rfl rfl (htx _ kw_1_4) (htx _ kw_2_19) ⟨by decide, by decide, by decide +kernel⟩ ⟨Nat.le_of_ble_eq_true rfl, Nat.le_of_ble_eq_true rfl⟩, (htx _ kw_2_20), (htx _ kw_2_21)⟩ ⟨xPre_blind, va_recv hK hP (ci := 2) rfl (q0 := 13) rfl, (fun U hU hW => ⟨rfl, xPre_of hZ hS hFc hPc hDc hK U hU hW⟩)⟩ rfl rfl hl.1 rfl (lv_room (Nat.le_of_ble_eq_true rfl)) dB_binary_42 ⟨Nat.le_of_ble_eq_true rfl, Nat.le_of_ble_eq_true rfl⟩) hS (fun q _ h => hFc q h) hFc (fun u9 t H1 locs ht hvm hr9 hB hz1 hk1 hS => ?_)
            obtain ⟨hP1, hK1, hD1⟩ := hB
            rw [ht] at hP1
            obtain ⟨hP, hD⟩ := xjoin (W := [(a0, .inr (0, [.ref a1, .ref a3, .ref a5, .ref a7, .ref a8, .ref a13, .int v19, .int v20])), (a1, .inr (1, [.ref a2, .int v1, .int v2])), (a2, .inl (cT 0, 4096, .inl f0)), (a3, .inr (1, [.ref a4, .int v4, .int v5])), (a4, .inl (cT 0, 4096, .inl f3)), (a5, .inr (1, [.ref a6, .int v7, .int v8])), (a6, .inl (cT 0, 4096, .inl f6)), (a7, .inl (cT 3, 8, .inr (.inr (.inr (.inr rf0))))), (a8, .inr (3, [.ref a9, .ref a10, .ref p11, .ref p13, .int v15])), (a9, .inl (cT 1, 2048, .inl f9)), (a10, .inl (cT 1, 2048, .inl f10)), (p11, .inl (cT 1, 2048, .inl f12)), (p13, .inl (cT 1, 2048, .inl f14)), (a15, .inr (2, [.ref a16, .int v22, .int v23])), (a16, .inl (cT 2, 4096, .inr (.inl f21))), (a17, .inr (2, [.ref a18, .int v25, .int v26])), (a18, .inl (cT 2, 4096, .inr (.inl f24))), (a13, .inr (2, [.ref a14, .int o16.1, .int o16.2])), (a14, .inl (cT 2, 4096, .inr (.inl f16)))]) hP hD [13, 14] [0, 1, 2, 3, 4, 5, 6, 7, 8, 9, 10, 11, 12, 15, 16, 17, 18] 17 rfl rfl (by decide) (by decide) hk1 hFc hP1 hD1
            generalize H1 = H at hP hS ⊢
            refine lv_aload_n hx hb dB_binary_45 rfl (lv_at hl 0 rfl) ?_
            refine lv_iload_n hx hb dB_binary_46 rfl (lv_at hl 2 rfl) ?_
            refine lv_aload_n hx hb dB_binary_47 rfl (lv_at hl 0 rfl) ?_
            refine va_get (D := D) (ci := 0) (v := .ref a7) (C := "ValueBench") (T := TB) (N := 8) hx hb htx inB hown hK hP 0 rfl rfl 3 (by decide) (htx _ kw_1_98) (fun _ h9 => h9) rfl dB_binary_48 ?_
            refine lv_iload_n hx hb dB_binary_51 rfl (lv_at hl 3 rfl) ?_
            obtain ⟨hg18, hf⟩ := xifn hf
            refine va_aldq hx hb hK hP 7 3 rfl rfl hg18 dB_binary_52 ?_
            refine W.eq (g2 := F0 m 53 ls [va_rf (rf0 x3.toNatClampNeg), .int x2, .ref a0]) rfl ?_
            rw [hr3 hg18]
            refine W.eq (g2 := F0 m 53 ls [.ref a15, .int x2, .ref a0]) rfl ?_
            refine lv_aload_n hx hb dB_binary_53 rfl (lv_at hl 0 rfl) ?_
            refine va_get (D := D) (ci := 0) (v := .ref a7) (C := "ValueBench") (T := TB) (N := 8) hx hb htx inB hown hK hP 0 rfl rfl 3 (by decide) (htx _ kw_1_98) (fun _ h9 => h9) rfl dB_binary_54 ?_
            refine lv_iload hx hb dB_binary_57 (lv_at hl 4 rfl) ?_
            obtain ⟨hg19, hf⟩ := xifn hf
            refine va_aldq hx hb hK hP 7 3 rfl rfl hg19 dB_binary_59 ?_
            refine W.eq (g2 := F0 m 60 ls [va_rf (rf0 x4.toNatClampNeg), .ref a15, .int x2, .ref a0]) rfl ?_
            rw [hr4 hg19]
            refine W.eq (g2 := F0 m 60 ls [.ref a17, .ref a15, .int x2, .ref a0]) rfl ?_
            refine lv_aload_n hx hb dB_binary_60 rfl (lv_at hl 0 rfl) ?_
            refine va_get (D := D) (ci := 0) (v := .ref a13) (C := "ValueBench") (T := TB) (N := 8) hx hb htx inB hown hK hP 0 rfl rfl 5 (by decide) (htx _ kw_1_100) (fun _ h9 => h9) rfl dB_binary_61 ?_
            obtain ⟨o20, hq21, hf⟩ := xbind hf
            obtain ⟨hPc, hDc, hFc⟩ := xcut (wc := [(a15, .inr (2, [.ref a16, .int v22, .int v23])), (a16, .inl (cT 2, 4096, .inr (.inl f21))), (a17, .inr (2, [.ref a18, .int v25, .int v26])), (a18, .inl (cT 2, 4096, .inr (.inl f24))), (a13, .inr (2, [.ref a14, .int o16.1, .int o16.2])), (a14, .inl (cT 2, 4096, .inr (.inl f16)))]) hP hD hS hA [13, 14, 15, 16, 17, 18] rfl rfl (by decide)
            refine va_calli (va_runS (As := [.int x2, .ref a15, .ref a17, .ref a13]) (rest := [.ref a0]) ⟨hx, hb, hml, hown, htx⟩ (gA_apply l hl9 D cT aK aV H.size d n a15 a16 a17 a18 a13 a14 x2 f21 v22 v23 f24 v25 v26 f16 o16.1 o16.2 o20 hq21) ⟨callB_of 4 htx (xw_goodC kw_3_105) rfl rfl rfl (htx _ kw_1_21) (htx _ kw_3_103) ⟨by decide, by decide, by decide +kernel⟩ ⟨(by show (16 * d + 5) + 1 ≤ 16 * d + 7; omega), (by show 8 + (4 + 11) + (400 * d + 157) ≤ 400 * d + 180; omega)⟩, htx _ kw_3_104⟩ ⟨xPre_blind, (fun U hU hW => ⟨rfl, xPre_of hZ hS hFc hPc hDc hK U hU hW⟩)⟩ rfl rfl hl.1 rfl (lv_room (Nat.le_of_ble_eq_true rfl)) dB_binary_64 ⟨Nat.le_of_ble_eq_true rfl, Nat.le_of_ble_eq_true rfl⟩) hS (fun q _ h => hFc q h) hFc (fun r22 u9 t H1 locs ht hvm hr9 hB hz1 hk1 hS => ?_)
            obtain ⟨hP1, hK1, hD1⟩ := hB
            rw [ht] at hP1
            obtain ⟨hP, hD⟩ := xjoin (W := [(a0, .inr (0, [.ref a1, .ref a3, .ref a5, .ref a7, .ref a8, .ref a13, .int v19, .int v20])), (a1, .inr (1, [.ref a2, .int v1, .int v2])), (a2, .inl (cT 0, 4096, .inl f0)), (a3, .inr (1, [.ref a4, .int v4, .int v5])), (a4, .inl (cT 0, 4096, .inl f3)), (a5, .inr (1, [.ref a6, .int v7, .int v8])), (a6, .inl (cT 0, 4096, .inl f6)), (a7, .inl (cT 3, 8, .inr (.inr (.inr (.inr rf0))))), (a8, .inr (3, [.ref a9, .ref a10, .ref p11, .ref p13, .int v15])), (a9, .inl (cT 1, 2048, .inl f9)), (a10, .inl (cT 1, 2048, .inl f10)), (p11, .inl (cT 1, 2048, .inl f12)), (p13, .inl (cT 1, 2048, .inl f14)), (a15, .inr (2, [.ref a16, .int v22, .int v23])), (a16, .inl (cT 2, 4096, .inr (.inl f21))), (a17, .inr (2, [.ref a18, .int v25, .int v26])), (a18, .inl (cT 2, 4096, .inr (.inl f24))), (a13, .inr (2, [.ref a14, .int o20.2.2.1, .int o20.2.2.2])), (a14, .inl (cT 2, 4096, .inr (.inl o20.2.1)))]) hP hD [13, 14, 15, 16, 17, 18] [0, 1, 2, 3, 4, 5, 6, 7, 8, 9, 10, 11, 12] 13 rfl rfl (by decide) (by decide) hk1 hFc hP1 hD1
            generalize H1 = H at hP hS ⊢
            rw [hr9]
            refine W.eq (g2 := F0 m 67 ls [.int o20.1, .ref a0]) rfl ?_
            obtain ⟨o23, hq24, hf⟩ := xbind hf
            by_cases hk25 : o23.1 = 0
            · rw [if_pos hk25] at hf
              obtain ⟨hPc, hDc, hFc⟩ := xcut (wc := [(a0, .inr (0, [.ref a1, .ref a3, .ref a5, .ref a7, .ref a8, .ref a13, .int v19, .int v20])), (a1, .inr (1, [.ref a2, .int v1, .int v2])), (a2, .inl (cT 0, 4096, .inl f0)), (a3, .inr (1, [.ref a4, .int v4, .int v5])), (a4, .inl (cT 0, 4096, .inl f3)), (a5, .inr (1, [.ref a6, .int v7, .int v8])), (a6, .inl (cT 0, 4096, .inl f6)), (a7, .inl (cT 3, 8, .inr (.inr (.inr (.inr rf0))))), (a8, .inr (3, [.ref a9, .ref a10, .ref p11, .ref p13, .int v15])), (a9, .inl (cT 1, 2048, .inl f9)), (a10, .inl (cT 1, 2048, .inl f10)), (p11, .inl (cT 1, 2048, .inl f12)), (p13, .inl (cT 1, 2048, .inl f14)), (a13, .inr (2, [.ref a14, .int o20.2.2.1, .int o20.2.2.2])), (a14, .inl (cT 2, 4096, .inr (.inl o20.2.1)))]) hP hD hS hA [0, 1, 2, 3, 4, 5, 6, 7, 8, 9, 10, 11, 12, 17, 18] rfl rfl (by decide)
              refine va_callv (va_runV (C := "ValueBench") (As := [.int o20.1]) (rest := []) ⟨hx, hb, hml, hown, htx⟩ (gB_demandDone l hl9 D cT aK aV H.size n a0 a1 a2 a3 a4 a5 a6 a7 a8 a9 a10 a13 a14 rf0 o20.1 f0 v1 v2 f3 v4 v5 f6 v7 v8 f9 f10 p11 f12 p13 f14 v15 o20.2.1 o20.2.2.1 o20.2.2.2 v19 v20 o23 hq24 hk25) ⟨callB_of 1 htx (xw_goodC kw_3_222) rfl rfl rfl (htx _ kw_1_1) (htx _ kw_3_219) ⟨by decide, by decide, by decide +kernel⟩ ⟨Nat.le_of_ble_eq_true rfl, Nat.le_of_ble_eq_true rfl⟩, (htx _ kw_3_221), (htx _ kp_B_demandDone)⟩ ⟨xPre_blind, va_recv hK hP (ci := 0) rfl (q0 := 0) rfl, (fun U hU hW => ⟨rfl, xPre_of hZ hS hFc hPc hDc hK U hU hW⟩)⟩ rfl rfl hl.1 rfl (lv_room (Nat.le_of_ble_eq_true rfl)) dB_binary_67 ⟨Nat.le_of_ble_eq_true rfl, Nat.le_of_ble_eq_true rfl⟩) hS (fun q _ h => hFc q h) hFc (fun u9 t H1 locs ht hvm hr9 hB hz1 hk1 hS => ?_)
              obtain ⟨hP1, hK1, hD1⟩ := hB
              rw [ht] at hP1
              obtain ⟨hP, hD⟩ := xjoin (W := [(a15, .inr (2, [.ref a16, .int v22, .int v23])), (a16, .inl (cT 2, 4096, .inr (.inl f21))), (a17, .inr (2, [.ref a18, .int v25, .int v26])), (a18, .inl (cT 2, 4096, .inr (.inl f24))), (a0, .inr (0, [.ref a1, .ref a3, .ref a5, .ref a7, .ref a8, .ref a13, .int v19, .int o23.2])), (a1, .inr (1, [.ref a2, .int v1, .int v2])), (a2, .inl (cT 0, 4096, .inl f0)), (a3, .inr (1, [.ref a4, .int v4, .int v5])), (a4, .inl (cT 0, 4096, .inl f3)), (a5, .inr (1, [.ref a6, .int v7, .int v8])), (a6, .inl (cT 0, 4096, .inl f6)), (a7, .inl (cT 3, 8, .inr (.inr (.inr (.inr rf0))))), (a8, .inr (3, [.ref a9, .ref a10, .ref p11, .ref p13, .int v15])), (a9, .inl (cT 1, 2048, .inl f9)), (a10, .inl (cT 1, 2048, .inl f10)), (p11, .inl (cT 1, 2048, .inl f12)), (p13, .inl (cT 1, 2048, .inl f14)), (a13, .inr (2, [.ref a14, .int o20.2.2.1, .int o20.2.2.2])), (a14, .inl (cT 2, 4096, .inr (.inl o20.2.1)))]) hP hD [0, 1, 2, 3, 4, 5, 6, 7, 8, 9, 10, 11, 12, 17, 18] [13, 14, 15, 16] 4 rfl rfl (by decide) (by decide) hk1 hFc hP1 hD1
              generalize H1 = H at hP hS ⊢
              refine lv_aload_n hx hb dB_binary_70 rfl (lv_at hl 0 rfl) ?_
              refine lv_iload_n hx hb dB_binary_71 rfl (lv_at hl 1 rfl) ?_
              obtain ⟨o26, hq27, hf⟩ := xbind hf
              by_cases hk28 : o26.1 = 0
              · rw [if_pos hk28] at hf
                obtain ⟨hPc, hDc, hFc⟩ := xcut (wc := [(a0, .inr (0, [.ref a1, .ref a3, .ref a5, .ref a7, .ref a8, .ref a13, .int v19, .int o23.2])), (a1, .inr (1, [.ref a2, .int v1, .int v2])), (a2, .inl (cT 0, 4096, .inl f0)), (a3, .inr (1, [.ref a4, .int v4, .int v5])), (a4, .inl (cT 0, 4096, .inl f3)), (a5, .inr (1, [.ref a6, .int v7, .int v8])), (a6, .inl (cT 0, 4096, .inl f6)), (a7, .inl (cT 3, 8, .inr (.inr (.inr (.inr rf0))))), (a8, .inr (3, [.ref a9, .ref a10, .ref p11, .ref p13, .int v15])), (a9, .inl (cT 1, 2048, .inl f9)), (a10, .inl (cT 1, 2048, .inl f10)), (p11, .inl (cT 1, 2048, .inl f12)), (p13, .inl (cT 1, 2048, .inl f14)), (a13, .inr (2, [.ref a14, .int o20.2.2.1, .int o20.2.2.2])), (a14, .inl (cT 2, 4096, .inr (.inl o20.2.1)))]) hP hD hS hA [4, 5, 6, 7, 8, 9, 10, 11, 12, 13, 14, 15, 16, 17, 18] rfl rfl (by decide)
                refine va_calli (va_runV (C := "ValueBench") (As := [.int x1]) (rest := []) ⟨hx, hb, hml, hown, htx⟩ (gB_keepSpare l hl9 D cT aK aV H.size d n a0 a1 a2 a3 a4 a5 a6 a7 a8 a9 a10 a13 a14 rf0 b1 x1 f0 v1 v2 f3 v4 v5 f6 v7 v8 f9 f10 p11 f12 p13 f14 v15 o20.2.1 o20.2.2.1 o20.2.2.2 v19 o23.2 hr1 o26 hq27 hk28) ⟨callB_of 1 htx (xw_goodC kw_3_17) rfl rfl rfl (htx _ kw_1_1) (htx _ kw_3_14) ⟨by decide, by decide, by decide +kernel⟩ ⟨(by show (16 * d + 6) + 1 ≤ 16 * d + 7; omega), (by show 8 + (3 + 11) + (400 * d + 100) ≤ 400 * d + 180; omega)⟩, (htx _ kw_3_16), (htx _ kp_B_keepSpare)⟩ ⟨xPre_blind, va_recv hK hP (ci := 0) rfl (q0 := 4) rfl, (fun U hU hW => ⟨rfl, xPre_of hZ hS hFc hPc hDc hK U hU hW⟩)⟩ rfl rfl hl.1 rfl (lv_room (Nat.le_of_ble_eq_true rfl)) dB_binary_72 ⟨Nat.le_of_ble_eq_true rfl, Nat.le_of_ble_eq_true rfl⟩) hS (fun q _ h => hFc q h) hFc (fun r29 u9 t H1 locs ht hvm hr9 hB hz1 hk1 hS => ?_)
                obtain ⟨hP1, hK1, hD1⟩ := hB
                rw [ht] at hP1
                obtain ⟨hP, hD⟩ := xjoin (W := [(a15, .inr (2, [.ref a16, .int v22, .int v23])), (a16, .inl (cT 2, 4096, .inr (.inl f21))), (a17, .inr (2, [.ref a18, .int v25, .int v26])), (a18, .inl (cT 2, 4096, .inr (.inl f24))), (a0, .inr (0, [.ref a1, .ref a3, .ref a5, .ref a7, .ref a8, .ref b1, .int v19, .int o23.2])), (a1, .inr (1, [.ref a2, .int v1, .int v2])), (a2, .inl (cT 0, 4096, .inl f0)), (a3, .inr (1, [.ref a4, .int v4, .int v5])), (a4, .inl (cT 0, 4096, .inl f3)), (a5, .inr (1, [.ref a6, .int o26.2.2.2.1, .int o26.2.2.2.2])), (a6, .inl (cT 0, 4096, .inl o26.2.2.1)), (a7, .inl (cT 3, 8, .inr (.inr (.inr (.inr (va_up rf0 x1.toNatClampNeg (some a13))))))), (a8, .inr (3, [.ref a9, .ref a10, .ref p11, .ref p13, .int v15])), (a9, .inl (cT 1, 2048, .inl f9)), (a10, .inl (cT 1, 2048, .inl f10)), (p11, .inl (cT 1, 2048, .inl f12)), (p13, .inl (cT 1, 2048, .inl f14)), (a13, .inr (2, [.ref a14, .int o20.2.2.1, .int o20.2.2.2])), (a14, .inl (cT 2, 4096, .inr (.inl o20.2.1)))]) hP hD [4, 5, 6, 7, 8, 9, 10, 11, 12, 13, 14, 15, 16, 17, 18] [0, 1, 2, 3] 4 rfl rfl (by decide) (by decide) hk1 hFc hP1 hD1
                generalize H1 = H at hP hS ⊢
                rw [hr9]
                refine W.eq (g2 := F0 m 75 ls [.int o26.2.1]) rfl ?_
                refine lv_pop hx hb dB_binary_75 rfl ?_
                obtain rfl := Option.some.inj hf
                exact absurd (show (0 : Nat) = 2 from hkd) (by decide)
              rw [if_neg hk28] at hf
              by_cases hk30 : o26.1 = 1
              · rw [if_pos hk30] at hf
                obtain rfl := Option.some.inj hf
                exact absurd (show (1 : Nat) = 2 from hkd) (by decide)
              rw [if_neg hk30] at hf
              exact nomatch hf
            rw [if_neg hk25] at hf
            by_cases hk32 : o23.1 = 1
            · rw [if_pos hk32] at hf
              obtain ⟨hPc, hDc, hFc⟩ := xcut (wc := [(a0, .inr (0, [.ref a1, .ref a3, .ref a5, .ref a7, .ref a8, .ref a13, .int v19, .int v20])), (a1, .inr (1, [.ref a2, .int v1, .int v2])), (a2, .inl (cT 0, 4096, .inl f0)), (a3, .inr (1, [.ref a4, .int v4, .int v5])), (a4, .inl (cT 0, 4096, .inl f3)), (a5, .inr (1, [.ref a6, .int v7, .int v8])), (a6, .inl (cT 0, 4096, .inl f6)), (a7, .inl (cT 3, 8, .inr (.inr (.inr (.inr rf0))))), (a8, .inr (3, [.ref a9, .ref a10, .ref p11, .ref p13, .int v15])), (a9, .inl (cT 1, 2048, .inl f9)), (a10, .inl (cT 1, 2048, .inl f10)), (p11, .inl (cT 1, 2048, .inl f12)), (p13, .inl (cT 1, 2048, .inl f14)), (a13, .inr (2, [.ref a14, .int o20.2.2.1, .int o20.2.2.2])), (a14, .inl (cT 2, 4096, .inr (.inl o20.2.1)))]) hP hD hS hA [0, 1, 2, 3, 4, 5, 6, 7, 8, 9, 10, 11, 12, 17, 18] rfl rfl (by decide)
              refine xx_thr (vx_runV (C := "ValueBench") (As := [.int o20.1]) (rest := []) ⟨hx, hb, hml, hown, htx⟩ (gB_demandDone_1 l hl9 D cT aK aV H.size n a0 a1 a2 a3 a4 a5 a6 a7 a8 a9 a10 a13 a14 rf0 o20.1 f0 v1 v2 f3 v4 v5 f6 v7 v8 f9 f10 p11 f12 p13 f14 v15 o20.2.1 o20.2.2.1 o20.2.2.2 v19 v20 o23 hq24 hk32) ⟨callB_of 1 htx (xw_goodC kw_3_222) rfl rfl rfl (htx _ kw_1_1) (htx _ kw_3_219) ⟨by decide, by decide, by decide +kernel⟩ ⟨Nat.le_of_ble_eq_true rfl, Nat.le_of_ble_eq_true rfl⟩, (htx _ kw_3_221), (htx _ kp_B_demandDone)⟩ ⟨xPre_blind, va_recv hK hP (ci := 0) rfl (q0 := 0) rfl, (fun U hU hW => ⟨rfl, xPre_of hZ hS hFc hPc hDc hK U hU hW⟩)⟩ rfl rfl hl.1 rfl (lv_room (Nat.le_of_ble_eq_true rfl)) dB_binary_67 ⟨Nat.le_of_ble_eq_true rfl, Nat.le_of_ble_eq_true rfl⟩) hS hFc (fun q _ h => hFc q h) (fun E ce q9 u9 t H1 locs ht hvm _ hB hz1 hk1 hS hce hcv hcl => ?_)
              obtain ⟨rfl, hP1, hK1, hD1⟩ := hB
              rw [ht] at hP1
              obtain ⟨hP, hD⟩ := xjoin (W := [(a15, .inr (2, [.ref a16, .int v22, .int v23])), (a16, .inl (cT 2, 4096, .inr (.inl f21))), (a17, .inr (2, [.ref a18, .int v25, .int v26])), (a18, .inl (cT 2, 4096, .inr (.inl f24))), (a0, .inr (0, [.ref a1, .ref a3, .ref a5, .ref a7, .ref a8, .ref a13, .int v19, .int o23.2])), (a1, .inr (1, [.ref a2, .int v1, .int v2])), (a2, .inl (cT 0, 4096, .inl f0)), (a3, .inr (1, [.ref a4, .int v4, .int v5])), (a4, .inl (cT 0, 4096, .inl f3)), (a5, .inr (1, [.ref a6, .int v7, .int v8])), (a6, .inl (cT 0, 4096, .inl f6)), (a7, .inl (cT 3, 8, .inr (.inr (.inr (.inr rf0))))), (a8, .inr (3, [.ref a9, .ref a10, .ref p11, .ref p13, .int v15])), (a9, .inl (cT 1, 2048, .inl f9)), (a10, .inl (cT 1, 2048, .inl f10)), (p11, .inl (cT 1, 2048, .inl f12)), (p13, .inl (cT 1, 2048, .inl f14)), (a13, .inr (2, [.ref a14, .int o20.2.2.1, .int o20.2.2.2])), (a14, .inl (cT 2, 4096, .inr (.inl o20.2.1)))]) hP hD [0, 1, 2, 3, 4, 5, 6, 7, 8, 9, 10, 11, 12, 17, 18] [13, 14, 15, 16] 4 rfl rfl (by decide) (by decide) hk1 hFc hP1 hD1
              generalize H1 = H at hP hS hce ⊢
              obtain rfl := Option.some.inj hf
              obtain ⟨hP9, hD9⟩ := xsub (wc := [(a0, .inr (0, [.ref a1, .ref a3, .ref a5, .ref a7, .ref a8, .ref a13, .int v19, .int o23.2])), (a1, .inr (1, [.ref a2, .int v1, .int v2])), (a2, .inl (cT 0, 4096, .inl f0)), (a3, .inr (1, [.ref a4, .int v4, .int v5])), (a4, .inl (cT 0, 4096, .inl f3)), (a5, .inr (1, [.ref a6, .int v7, .int v8])), (a6, .inl (cT 0, 4096, .inl f6)), (a7, .inl (cT 3, 8, .inr (.inr (.inr (.inr rf0))))), (a8, .inr (3, [.ref a9, .ref a10, .ref p11, .ref p13, .int v15])), (a9, .inl (cT 1, 2048, .inl f9)), (a10, .inl (cT 1, 2048, .inl f10)), (p11, .inl (cT 1, 2048, .inl f12)), (p13, .inl (cT 1, 2048, .inl f14)), (a13, .inr (2, [.ref a14, .int o20.2.2.1, .int o20.2.2.2])), (a14, .inl (cT 2, 4096, .inr (.inl o20.2.1))), (a15, .inr (2, [.ref a16, .int v22, .int v23])), (a16, .inl (cT 2, 4096, .inr (.inl f21))), (a17, .inr (2, [.ref a18, .int v25, .int v26])), (a18, .inl (cT 2, 4096, .inr (.inl f24)))]) hP hD [4, 5, 6, 7, 8, 9, 10, 11, 12, 13, 14, 15, 16, 17, 18, 0, 1, 2, 3] rfl rfl (by decide)
              exact vx_out (E := "java/lang/ArithmeticException") (fun x h => (hne x h).elim) hlocks hce hcv hcl (fun t ht ha => ⟨(), trivial, ⟨rfl, by rw [ht]; exact hP9, va_K.moved ha hK, hD9⟩, hS.F ht⟩) hS.2.2 (Nat.le_of_ble_eq_true rfl) (Nat.le_of_ble_eq_true rfl)
            rw [if_neg hk32] at hf
            exact nomatch hf
          rw [if_neg hk15] at hf
          by_cases hk33 : o13 = 1
          · rw [if_pos hk33] at hf
            obtain rfl := Option.some.inj hf
            exact absurd (show (3 : Nat) = 2 from hkd) (by decide)
          rw [if_neg hk33] at hf
          exact nomatch hf
        · rw [if_neg hc] at hf
          refine lv_iconst (v := 1) hx hb dB_binary_30 (by decide) ?_
          refine lv_goto (tgt := 35) hx hb dB_binary_31 (by decide) ?_
          obtain ⟨o13, hq14, hf⟩ := xbind hf
          by_cases hk15 : o13 = 0
          · rw [if_pos hk15] at hf
            obtain ⟨hPc, hDc, hFc⟩ := xcut (wc := []) hP hD hS hA [] rfl rfl (by decide)
            refine va_callv (va_runS (As := [.int 1]) (rest := []) ⟨hx, hb, hml, hown, htx⟩ (gB_demand l hl9 D cT aK aV H.size n (1 : Int32) o13 hq14 hk15) ⟨callB_of 1 htx (xw_goodC kw_1_221) rfl rfl rfl (htx _ kw_1_1) (htx _ kw_1_219) ⟨by decide, by decide, by decide +kernel⟩ ⟨Nat.le_of_ble_eq_true rfl, Nat.le_of_ble_eq_true rfl⟩, htx _ kw_1_220⟩ ⟨xPre_blind, (fun U hU hW => ⟨rfl, xPre_of hZ hS hFc hPc hDc hK U hU hW⟩)⟩ rfl rfl hl.1 rfl (lv_room (Nat.le_of_ble_eq_true rfl)) dB_binary_35 ⟨Nat.le_of_ble_eq_true rfl, Nat.le_of_ble_eq_true rfl⟩) hS (fun q _ h => hFc q h) hFc (fun u9 t H1 locs ht hvm hr9 hB hz1 hk1 hS => ?_)
            obtain ⟨hP1, hK1, hD1⟩ := hB
            rw [ht] at hP1
            obtain ⟨hP, hD⟩ := xjoin (W := [(a0, .inr (0, [.ref a1, .ref a3, .ref a5, .ref a7, .ref a8, .ref a13, .int v19, .int v20])), (a1, .inr (1, [.ref a2, .int v1, .int v2])), (a2, .inl (cT 0, 4096, .inl f0)), (a3, .inr (1, [.ref a4, .int v4, .int v5])), (a4, .inl (cT 0, 4096, .inl f3)), (a5, .inr (1, [.ref a6, .int v7, .int v8])), (a6, .inl (cT 0, 4096, .inl f6)), (a7, .inl (cT 3, 8, .inr (.inr (.inr (.inr rf0))))), (a8, .inr (3, [.ref a9, .ref a10, .ref p11, .ref p13, .int v15])), (a9, .inl (cT 1, 2048, .inl f9)), (a10, .inl (cT 1, 2048, .inl f10)), (p11, .inl (cT 1, 2048, .inl f12)), (p13, .inl (cT 1, 2048, .inl f14)), (a13, .inr (2, [.ref a14, .int v17, .int v18])), (a14, .inl (cT 2, 4096, .inr (.inl f16))), (a15, .inr (2, [.ref a16, .int v22, .int v23])), (a16, .inl (cT 2, 4096, .inr (.inl f21))), (a17, .inr (2, [.ref a18, .int v25, .int v26])), (a18, .inl (cT 2, 4096, .inr (.inl f24)))]) hP hD [] [0, 1, 2, 3, 4, 5, 6, 7, 8, 9, 10, 11, 12, 13, 14, 15, 16, 17, 18] 19 rfl rfl (by decide) (by decide) hk1 hFc hP1 hD1
            generalize H1 = H at hP hS ⊢
            refine lv_aload_n hx hb dB_binary_38 rfl (lv_at hl 0 rfl) ?_
            refine va_get (D := D) (ci := 0) (v := .ref a13) (C := "ValueBench") (T := TB) (N := 8) hx hb htx inB hown hK hP 0 rfl rfl 5 (by decide) (htx _ kw_1_100) (fun _ h9 => h9) rfl dB_binary_39 ?_
            obtain ⟨o16, hq17, hf⟩ := xbind hf
            obtain ⟨hPc, hDc, hFc⟩ := xcut (wc := [(a13, .inr (2, [.ref a14, .int v17, .int v18])), (a14, .inl (cT 2, 4096, .inr (.inl f16)))]) hP hD hS hA [13, 14] rfl rfl (by decide)
            refine va_callv (va_runV (C := "ValueBench$Row") (As := []) (rest := []) ⟨hx, hb, hml, hown, htx⟩ (gR_clear l hl9 D cT aK aV H.size n a13 a14 f16 v17 v18 o16 hq17) ⟨callB_of 0 htx (xw_goodC kw_2_22) rfl rfl rfl (htx _ kw_1_4) (htx _ kw_2_19) ⟨by decide, by decide, by decide +kernel⟩ ⟨Nat.le_of_ble_eq_true rfl, Nat.le_of_ble_eq_true rfl⟩, (htx _ kw_2_20), (htx _ kw_2_21)⟩ ⟨xPre_blind, va_recv hK hP (ci := 2) rfl (q0 := 13) rfl, (fun U hU hW => ⟨rfl, xPre_of hZ hS hFc hPc hDc hK U hU hW⟩)⟩ rfl rfl hl.1 rfl (lv_room (Nat.le_of_ble_eq_true rfl)) dB_binary_42 ⟨Nat.le_of_ble_eq_true rfl, Nat.le_of_ble_eq_true rfl⟩) hS (fun q _ h => hFc q h) hFc (fun u9 t H1 locs ht hvm hr9 hB hz1 hk1 hS => ?_)
            obtain ⟨hP1, hK1, hD1⟩ := hB
            rw [ht] at hP1
            obtain ⟨hP, hD⟩ := xjoin (W := [(a0, .inr (0, [.ref a1, .ref a3, .ref a5, .ref a7, .ref a8, .ref a13, .int v19, .int v20])), (a1, .inr (1, [.ref a2, .int v1, .int v2])), (a2, .inl (cT 0, 4096, .inl f0)), (a3, .inr (1, [.ref a4, .int v4, .int v5])), (a4, .inl (cT 0, 4096, .inl f3)), (a5, .inr (1, [.ref a6, .int v7, .int v8])), (a6, .inl (cT 0, 4096, .inl f6)), (a7, .inl (cT 3, 8, .inr (.inr (.inr (.inr rf0))))), (a8, .inr (3, [.ref a9, .ref a10, .ref p11, .ref p13, .int v15])), (a9, .inl (cT 1, 2048, .inl f9)), (a10, .inl (cT 1, 2048, .inl f10)), (p11, .inl (cT 1, 2048, .inl f12)), (p13, .inl (cT 1, 2048, .inl f14)), (a15, .inr (2, [.ref a16, .int v22, .int v23])), (a16, .inl (cT 2, 4096, .inr (.inl f21))), (a17, .inr (2, [.ref a18, .int v25, .int v26])), (a18, .inl (cT 2, 4096, .inr (.inl f24))), (a13, .inr (2, [.ref a14, .int o16.1, .int o16.2])), (a14, .inl (cT 2, 4096, .inr (.inl f16)))]) hP hD [13, 14] [0, 1, 2, 3, 4, 5, 6, 7, 8, 9, 10, 11, 12, 15, 16, 17, 18] 17 rfl rfl (by decide) (by decide) hk1 hFc hP1 hD1
            generalize H1 = H at hP hS ⊢
            refine lv_aload_n hx hb dB_binary_45 rfl (lv_at hl 0 rfl) ?_
            refine lv_iload_n hx hb dB_binary_46 rfl (lv_at hl 2 rfl) ?_
            refine lv_aload_n hx hb dB_binary_47 rfl (lv_at hl 0 rfl) ?_
            refine va_get (D := D) (ci := 0) (v := .ref a7) (C := "ValueBench") (T := TB) (N := 8) hx hb htx inB hown hK hP 0 rfl rfl 3 (by decide) (htx _ kw_1_98) (fun _ h9 => h9) rfl dB_binary_48 ?_
            refine lv_iload_n hx hb dB_binary_51 rfl (lv_at hl 3 rfl) ?_
            obtain ⟨hg18, hf⟩ := xifn hf
            refine va_aldq hx hb hK hP 7 3 rfl rfl hg18 dB_binary_52 ?_
            refine W.eq (g2 := F0 m 53 ls [va_rf (rf0 x3.toNatClampNeg), .int x2, .ref a0]) rfl ?_
            rw [hr3 hg18]
            refine W.eq (g2 := F0 m 53 ls [.ref a15, .int x2, .ref a0]) rfl ?_
            refine lv_aload_n hx hb dB_binary_53 rfl (lv_at hl 0 rfl) ?_
            refine va_get (D := D) (ci := 0) (v := .ref a7) (C := "ValueBench") (T := TB) (N := 8) hx hb htx inB hown hK hP 0 rfl rfl 3 (by decide) (htx _ kw_1_98) (fun _ h9 => h9) rfl dB_binary_54 ?_
            refine lv_iload hx hb dB_binary_57 (lv_at hl 4 rfl) ?_
            obtain ⟨hg19, hf⟩ := xifn hf
            refine va_aldq hx hb hK hP 7 3 rfl rfl hg19 dB_binary_59 ?_
            refine W.eq (g2 := F0 m 60 ls [va_rf (rf0 x4.toNatClampNeg), .ref a15, .int x2, .ref a0]) rfl ?_
            rw [hr4 hg19]
            refine W.eq (g2 := F0 m 60 ls [.ref a17, .ref a15, .int x2, .ref a0]) rfl ?_
            refine lv_aload_n hx hb dB_binary_60 rfl (lv_at hl 0 rfl) ?_
            refine va_get (D := D) (ci := 0) (v := .ref a13) (C := "ValueBench") (T := TB) (N := 8) hx hb htx inB hown hK hP 0 rfl rfl 5 (by decide) (htx _ kw_1_100) (fun _ h9 => h9) rfl dB_binary_61 ?_
            obtain ⟨o20, hq21, hf⟩ := xbind hf
            obtain ⟨hPc, hDc, hFc⟩ := xcut (wc := [(a15, .inr (2, [.ref a16, .int v22, .int v23])), (a16, .inl (cT 2, 4096, .inr (.inl f21))), (a17, .inr (2, [.ref a18, .int v25, .int v26])), (a18, .inl (cT 2, 4096, .inr (.inl f24))), (a13, .inr (2, [.ref a14, .int o16.1, .int o16.2])), (a14, .inl (cT 2, 4096, .inr (.inl f16)))]) hP hD hS hA [13, 14, 15, 16, 17, 18] rfl rfl (by decide)
            refine va_calli (va_runS (As := [.int x2, .ref a15, .ref a17, .ref a13]) (rest := [.ref a0]) ⟨hx, hb, hml, hown, htx⟩ (gA_apply l hl9 D cT aK aV H.size d n a15 a16 a17 a18 a13 a14 x2 f21 v22 v23 f24 v25 v26 f16 o16.1 o16.2 o20 hq21) ⟨callB_of 4 htx (xw_goodC kw_3_105) rfl rfl rfl (htx _ kw_1_21) (htx _ kw_3_103) ⟨by decide, by decide, by decide +kernel⟩ ⟨(by show (16 * d + 5) + 1 ≤ 16 * d + 7; omega), (by show 8 + (4 + 11) + (400 * d + 157) ≤ 400 * d + 180; omega)⟩, htx _ kw_3_104⟩ ⟨xPre_blind, (fun U hU hW => ⟨rfl, xPre_of hZ hS hFc hPc hDc hK U hU hW⟩)⟩ rfl rfl hl.1 rfl (lv_room (Nat.le_of_ble_eq_true rfl)) dB_binary_64 ⟨Nat.le_of_ble_eq_true rfl, Nat.le_of_ble_eq_true rfl⟩) hS (fun q _ h => hFc q h) hFc (fun r22 u9 t H1 locs ht hvm hr9 hB hz1 hk1 hS => ?_)
            obtain ⟨hP1, hK1, hD1⟩ := hB
            rw [ht] at hP1
            obtain ⟨hP, hD⟩ := xjoin (W := [(a0, .inr (0, [.ref a1, .ref a3, .ref a5, .ref a7, .ref a8, .ref a13, .int v19, .int v20])), (a1, .inr (1, [.ref a2, .int v1, .int v2])), (a2, .inl (cT 0, 4096, .inl f0)), (a3, .inr (1, [.ref a4, .int v4, .int v5])), (a4, .inl (cT 0, 4096, .inl f3)), (a5, .inr (1, [.ref a6, .int v7, .int v8])), (a6, .inl (cT 0, 4096, .inl f6)), (a7, .inl (cT 3, 8, .inr (.inr (.inr (.inr rf0))))), (a8, .inr (3, [.ref a9, .ref a10, .ref p11, .ref p13, .int v15])), (a9, .inl (cT 1, 2048, .inl f9)), (a10, .inl (cT 1, 2048, .inl f10)), (p11, .inl (cT 1, 2048, .inl f12)), (p13, .inl (cT 1, 2048, .inl f14)), (a15, .inr (2, [.ref a16, .int v22, .int v23])), (a16, .inl (cT 2, 4096, .inr (.inl f21))), (a17, .inr (2, [.ref a18, .int v25, .int v26])), (a18, .inl (cT 2, 4096, .inr (.inl f24))), (a13, .inr (2, [.ref a14, .int o20.2.2.1, .int o20.2.2.2])), (a14, .inl (cT 2, 4096, .inr (.inl o20.2.1)))]) hP hD [13, 14, 15, 16, 17, 18] [0, 1, 2, 3, 4, 5, 6, 7, 8, 9, 10, 11, 12] 13 rfl rfl (by decide) (by decide) hk1 hFc hP1 hD1
            generalize H1 = H at hP hS ⊢
            rw [hr9]
            refine W.eq (g2 := F0 m 67 ls [.int o20.1, .ref a0]) rfl ?_
            obtain ⟨o23, hq24, hf⟩ := xbind hf
            by_cases hk25 : o23.1 = 0
            · rw [if_pos hk25] at hf
              obtain ⟨hPc, hDc, hFc⟩ := xcut (wc := [(a0, .inr (0, [.ref a1, .ref a3, .ref a5, .ref a7, .ref a8, .ref a13, .int v19, .int v20])), (a1, .inr (1, [.ref a2, .int v1, .int v2])), (a2, .inl (cT 0, 4096, .inl f0)), (a3, .inr (1, [.ref a4, .int v4, .int v5])), (a4, .inl (cT 0, 4096, .inl f3)), (a5, .inr (1, [.ref a6, .int v7, .int v8])), (a6, .inl (cT 0, 4096, .inl f6)), (a7, .inl (cT 3, 8, .inr (.inr (.inr (.inr rf0))))), (a8, .inr (3, [.ref a9, .ref a10, .ref p11, .ref p13, .int v15])), (a9, .inl (cT 1, 2048, .inl f9)), (a10, .inl (cT 1, 2048, .inl f10)), (p11, .inl (cT 1, 2048, .inl f12)), (p13, .inl (cT 1, 2048, .inl f14)), (a13, .inr (2, [.ref a14, .int o20.2.2.1, .int o20.2.2.2])), (a14, .inl (cT 2, 4096, .inr (.inl o20.2.1)))]) hP hD hS hA [0, 1, 2, 3, 4, 5, 6, 7, 8, 9, 10, 11, 12, 17, 18] rfl rfl (by decide)
              refine va_callv (va_runV (C := "ValueBench") (As := [.int o20.1]) (rest := []) ⟨hx, hb, hml, hown, htx⟩ (gB_demandDone l hl9 D cT aK aV H.size n a0 a1 a2 a3 a4 a5 a6 a7 a8 a9 a10 a13 a14 rf0 o20.1 f0 v1 v2 f3 v4 v5 f6 v7 v8 f9 f10 p11 f12 p13 f14 v15 o20.2.1 o20.2.2.1 o20.2.2.2 v19 v20 o23 hq24 hk25) ⟨callB_of 1 htx (xw_goodC kw_3_222) rfl rfl rfl (htx _ kw_1_1) (htx _ kw_3_219) ⟨by decide, by decide, by decide +kernel⟩ ⟨Nat.le_of_ble_eq_true rfl, Nat.le_of_ble_eq_true rfl⟩, (htx _ kw_3_221), (htx _ kp_B_demandDone)⟩ ⟨xPre_blind, va_recv hK hP (ci := 0) rfl (q0 := 0) rfl, (fun U hU hW => ⟨rfl, xPre_of hZ hS hFc hPc hDc hK U hU hW⟩)⟩ rfl rfl hl.1 rfl (lv_room (Nat.le_of_ble_eq_true rfl)) dB_binary_67 ⟨Nat.le_of_ble_eq_true rfl, Nat.le_of_ble_eq_true rfl⟩) hS (fun q _ h => hFc q h) hFc (fun u9 t H1 locs ht hvm hr9 hB hz1 hk1 hS => ?_)
              obtain ⟨hP1, hK1, hD1⟩ := hB
              rw [ht] at hP1
              obtain ⟨hP, hD⟩ := xjoin (W := [(a15, .inr (2, [.ref a16, .int v22, .int v23])), (a16, .inl (cT 2, 4096, .inr (.inl f21))), (a17, .inr (2, [.ref a18, .int v25, .int v26])), (a18, .inl (cT 2, 4096, .inr (.inl f24))), (a0, .inr (0, [.ref a1, .ref a3, .ref a5, .ref a7, .ref a8, .ref a13, .int v19, .int o23.2])), (a1, .inr (1, [.ref a2, .int v1, .int v2])), (a2, .inl (cT 0, 4096, .inl f0)), (a3, .inr (1, [.ref a4, .int v4, .int v5])), (a4, .inl (cT 0, 4096, .inl f3)), (a5, .inr (1, [.ref a6, .int v7, .int v8])), (a6, .inl (cT 0, 4096, .inl f6)), (a7, .inl (cT 3, 8, .inr (.inr (.inr (.inr rf0))))), (a8, .inr (3, [.ref a9, .ref a10, .ref p11, .ref p13, .int v15])), (a9, .inl (cT 1, 2048, .inl f9)), (a10, .inl (cT 1, 2048, .inl f10)), (p11, .inl (cT 1, 2048, .inl f12)), (p13, .inl (cT 1, 2048, .inl f14)), (a13, .inr (2, [.ref a14, .int o20.2.2.1, .int o20.2.2.2])), (a14, .inl (cT 2, 4096, .inr (.inl o20.2.1)))]) hP hD [0, 1, 2, 3, 4, 5, 6, 7, 8, 9, 10, 11, 12, 17, 18] [13, 14, 15, 16] 4 rfl rfl (by decide) (by decide) hk1 hFc hP1 hD1
              generalize H1 = H at hP hS ⊢
              refine lv_aload_n hx hb dB_binary_70 rfl (lv_at hl 0 rfl) ?_
              refine lv_iload_n hx hb dB_binary_71 rfl (lv_at hl 1 rfl) ?_
              obtain ⟨o26, hq27, hf⟩ := xbind hf
              by_cases hk28 : o26.1 = 0
              · rw [if_pos hk28] at hf
                obtain ⟨hPc, hDc, hFc⟩ := xcut (wc := [(a0, .inr (0, [.ref a1, .ref a3, .ref a5, .ref a7, .ref a8, .ref a13, .int v19, .int o23.2])), (a1, .inr (1, [.ref a2, .int v1, .int v2])), (a2, .inl (cT 0, 4096, .inl f0)), (a3, .inr (1, [.ref a4, .int v4, .int v5])), (a4, .inl (cT 0, 4096, .inl f3)), (a5, .inr (1, [.ref a6, .int v7, .int v8])), (a6, .inl (cT 0, 4096, .inl f6)), (a7, .inl (cT 3, 8, .inr (.inr (.inr (.inr rf0))))), (a8, .inr (3, [.ref a9, .ref a10, .ref p11, .ref p13, .int v15])), (a9, .inl (cT 1, 2048, .inl f9)), (a10, .inl (cT 1, 2048, .inl f10)), (p11, .inl (cT 1, 2048, .inl f12)), (p13, .inl (cT 1, 2048, .inl f14)), (a13, .inr (2, [.ref a14, .int o20.2.2.1, .int o20.2.2.2])), (a14, .inl (cT 2, 4096, .inr (.inl o20.2.1)))]) hP hD hS hA [4, 5, 6, 7, 8, 9, 10, 11, 12, 13, 14, 15, 16, 17, 18] rfl rfl (by decide)
                refine va_calli (va_runV (C := "ValueBench") (As := [.int x1]) (rest := []) ⟨hx, hb, hml, hown, htx⟩ (gB_keepSpare l hl9 D cT aK aV H.size d n a0 a1 a2 a3 a4 a5 a6 a7 a8 a9 a10 a13 a14 rf0 b1 x1 f0 v1 v2 f3 v4 v5 f6 v7 v8 f9 f10 p11 f12 p13 f14 v15 o20.2.1 o20.2.2.1 o20.2.2.2 v19 o23.2 hr1 o26 hq27 hk28) ⟨callB_of 1 htx (xw_goodC kw_3_17) rfl rfl rfl (htx _ kw_1_1) (htx _ kw_3_14) ⟨by decide, by decide, by decide +kernel⟩ ⟨(by show (16 * d + 6) + 1 ≤ 16 * d + 7; omega), (by show 8 + (3 + 11) + (400 * d + 100) ≤ 400 * d + 180; omega)⟩, (htx _ kw_3_16), (htx _ kp_B_keepSpare)⟩ ⟨xPre_blind, va_recv hK hP (ci := 0) rfl (q0 := 4) rfl, (fun U hU hW => ⟨rfl, xPre_of hZ hS hFc hPc hDc hK U hU hW⟩)⟩ rfl rfl hl.1 rfl (lv_room (Nat.le_of_ble_eq_true rfl)) dB_binary_72 ⟨Nat.le_of_ble_eq_true rfl, Nat.le_of_ble_eq_true rfl⟩) hS (fun q _ h => hFc q h) hFc (fun r29 u9 t H1 locs ht hvm hr9 hB hz1 hk1 hS => ?_)
                obtain ⟨hP1, hK1, hD1⟩ := hB
                rw [ht] at hP1
                obtain ⟨hP, hD⟩ := xjoin (W := [(a15, .inr (2, [.ref a16, .int v22, .int v23])), (a16, .inl (cT 2, 4096, .inr (.inl f21))), (a17, .inr (2, [.ref a18, .int v25, .int v26])), (a18, .inl (cT 2, 4096, .inr (.inl f24))), (a0, .inr (0, [.ref a1, .ref a3, .ref a5, .ref a7, .ref a8, .ref b1, .int v19, .int o23.2])), (a1, .inr (1, [.ref a2, .int v1, .int v2])), (a2, .inl (cT 0, 4096, .inl f0)), (a3, .inr (1, [.ref a4, .int v4, .int v5])), (a4, .inl (cT 0, 4096, .inl f3)), (a5, .inr (1, [.ref a6, .int o26.2.2.2.1, .int o26.2.2.2.2])), (a6, .inl (cT 0, 4096, .inl o26.2.2.1)), (a7, .inl (cT 3, 8, .inr (.inr (.inr (.inr (va_up rf0 x1.toNatClampNeg (some a13))))))), (a8, .inr (3, [.ref a9, .ref a10, .ref p11, .ref p13, .int v15])), (a9, .inl (cT 1, 2048, .inl f9)), (a10, .inl (cT 1, 2048, .inl f10)), (p11, .inl (cT 1, 2048, .inl f12)), (p13, .inl (cT 1, 2048, .inl f14)), (a13, .inr (2, [.ref a14, .int o20.2.2.1, .int o20.2.2.2])), (a14, .inl (cT 2, 4096, .inr (.inl o20.2.1)))]) hP hD [4, 5, 6, 7, 8, 9, 10, 11, 12, 13, 14, 15, 16, 17, 18] [0, 1, 2, 3] 4 rfl rfl (by decide) (by decide) hk1 hFc hP1 hD1
                generalize H1 = H at hP hS ⊢
                rw [hr9]
                refine W.eq (g2 := F0 m 75 ls [.int o26.2.1]) rfl ?_
                refine lv_pop hx hb dB_binary_75 rfl ?_
                obtain rfl := Option.some.inj hf
                exact absurd (show (0 : Nat) = 2 from hkd) (by decide)
              rw [if_neg hk28] at hf
              by_cases hk30 : o26.1 = 1
              · rw [if_pos hk30] at hf
                obtain rfl := Option.some.inj hf
                exact absurd (show (1 : Nat) = 2 from hkd) (by decide)
              rw [if_neg hk30] at hf
              exact nomatch hf
            rw [if_neg hk25] at hf
            by_cases hk32 : o23.1 = 1
            · rw [if_pos hk32] at hf
              obtain ⟨hPc, hDc, hFc⟩ := xcut (wc := [(a0, .inr (0, [.ref a1, .ref a3, .ref a5, .ref a7, .ref a8, .ref a13, .int v19, .int v20])), (a1, .inr (1, [.ref a2, .int v1, .int v2])), (a2, .inl (cT 0, 4096, .inl f0)), (a3, .inr (1, [.ref a4, .int v4, .int v5])), (a4, .inl (cT 0, 4096, .inl f3)), (a5, .inr (1, [.ref a6, .int v7, .int v8])), (a6, .inl (cT 0, 4096, .inl f6)), (a7, .inl (cT 3, 8, .inr (.inr (.inr (.inr rf0))))), (a8, .inr (3, [.ref a9, .ref a10, .ref p11, .ref p13, .int v15])), (a9, .inl (cT 1, 2048, .inl f9)), (a10, .inl (cT 1, 2048, .inl f10)), (p11, .inl (cT 1, 2048, .inl f12)), (p13, .inl (cT 1, 2048, .inl f14)), (a13, .inr (2, [.ref a14, .int o20.2.2.1, .int o20.2.2.2])), (a14, .inl (cT 2, 4096, .inr (.inl o20.2.1)))]) hP hD hS hA [0, 1, 2, 3, 4, 5, 6, 7, 8, 9, 10, 11, 12, 17, 18] rfl rfl (by decide)
              refine xx_thr (vx_runV (C := "ValueBench") (As := [.int o20.1]) (rest := []) ⟨hx, hb, hml, hown, htx⟩ (gB_demandDone_1 l hl9 D cT aK aV H.size n a0 a1 a2 a3 a4 a5 a6 a7 a8 a9 a10 a13 a14 rf0 o20.1 f0 v1 v2 f3 v4 v5 f6 v7 v8 f9 f10 p11 f12 p13 f14 v15 o20.2.1 o20.2.2.1 o20.2.2.2 v19 v20 o23 hq24 hk32) ⟨callB_of 1 htx (xw_goodC kw_3_222) rfl rfl rfl (htx _ kw_1_1) (htx _ kw_3_219) ⟨by decide, by decide, by decide +kernel⟩ ⟨Nat.le_of_ble_eq_true rfl, Nat.le_of_ble_eq_true rfl⟩, (htx _ kw_3_221), (htx _ kp_B_demandDone)⟩ ⟨xPre_blind, va_recv hK hP (ci := 0) rfl (q0 := 0) rfl, (fun U hU hW => ⟨rfl, xPre_of hZ hS hFc hPc hDc hK U hU hW⟩)⟩ rfl rfl hl.1 rfl (lv_room (Nat.le_of_ble_eq_true rfl)) dB_binary_67 ⟨Nat.le_of_ble_eq_true rfl, Nat.le_of_ble_eq_true rfl⟩) hS hFc (fun q _ h => hFc q h) (fun E ce q9 u9 t H1 locs ht hvm _ hB hz1 hk1 hS hce hcv hcl => ?_)
              obtain ⟨rfl, hP1, hK1, hD1⟩ := hB
              rw [ht] at hP1
              obtain ⟨hP, hD⟩ := xjoin (W := [(a15, .inr (2, [.ref a16, .int v22, .int v23])), (a16, .inl (cT 2, 4096, .inr (.inl f21))), (a17, .inr (2, [.ref a18, .int v25, .int v26])), (a18, .inl (cT 2, 4096, .inr (.inl f24))), (a0, .inr (0, [.ref a1, .ref a3, .ref a5, .ref a7, .ref a8, .ref a13, .int v19, .int o23.2])), (a1, .inr (1, [.ref a2, .int v1, .int v2])), (a2, .inl (cT 0, 4096, .inl f0)), (a3, .inr (1, [.ref a4, .int v4, .int v5])), (a4, .inl (cT 0, 4096, .inl f3)), (a5, .inr (1, [.ref a6, .int v7, .int v8])), (a6, .inl (cT 0, 4096, .inl f6)), (a7, .inl (cT 3, 8, .inr (.inr (.inr (.inr rf0))))), (a8, .inr (3, [.ref a9, .ref a10, .ref p11, .ref p13, .int v15])), (a9, .inl (cT 1, 2048, .inl f9)), (a10, .inl (cT 1, 2048, .inl f10)), (p11, .inl (cT 1, 2048, .inl f12)), (p13, .inl (cT 1, 2048, .inl f14)), (a13, .inr (2, [.ref a14, .int o20.2.2.1, .int o20.2.2.2])), (a14, .inl (cT 2, 4096, .inr (.inl o20.2.1)))]) hP hD [0, 1, 2, 3, 4, 5, 6, 7, 8, 9, 10, 11, 12, 17, 18] [13, 14, 15, 16] 4 rfl rfl (by decide) (by decide) hk1 hFc hP1 hD1
              generalize H1 = H at hP hS hce ⊢
              obtain rfl := Option.some.inj hf
              obtain ⟨hP9, hD9⟩ := xsub (wc := [(a0, .inr (0, [.ref a1, .ref a3, .ref a5, .ref a7, .ref a8, .ref a13, .int v19, .int o23.2])), (a1, .inr (1, [.ref a2, .int v1, .int v2])), (a2, .inl (cT 0, 4096, .inl f0)), (a3, .inr (1, [.ref a4, .int v4, .int v5])), (a4, .inl (cT 0, 4096, .inl f3)), (a5, .inr (1, [.ref a6, .int v7, .int v8])), (a6, .inl (cT 0, 4096, .inl f6)), (a7, .inl (cT 3, 8, .inr (.inr (.inr (.inr rf0))))), (a8, .inr (3, [.ref a9, .ref a10, .ref p11, .ref p13, .int v15])), (a9, .inl (cT 1, 2048, .inl f9)), (a10, .inl (cT 1, 2048, .inl f10)), (p11, .inl (cT 1, 2048, .inl f12)), (p13, .inl (cT 1, 2048, .inl f14)), (a13, .inr (2, [.ref a14, .int o20.2.2.1, .int o20.2.2.2])), (a14, .inl (cT 2, 4096, .inr (.inl o20.2.1))), (a15, .inr (2, [.ref a16, .int v22, .int v23])), (a16, .inl (cT 2, 4096, .inr (.inl f21))), (a17, .inr (2, [.ref a18, .int v25, .int v26])), (a18, .inl (cT 2, 4096, .inr (.inl f24)))]) hP hD [4, 5, 6, 7, 8, 9, 10, 11, 12, 13, 14, 15, 16, 17, 18, 0, 1, 2, 3] rfl rfl (by decide)
              exact vx_out (E := "java/lang/ArithmeticException") (fun x h => (hne x h).elim) hlocks hce hcv hcl (fun t ht ha => ⟨(), trivial, ⟨rfl, by rw [ht]; exact hP9, va_K.moved ha hK, hD9⟩, hS.F ht⟩) hS.2.2 (Nat.le_of_ble_eq_true rfl) (Nat.le_of_ble_eq_true rfl)
            rw [if_neg hk32] at hf
            exact nomatch hf
          rw [if_neg hk15] at hf
          by_cases hk33 : o13 = 1
          · rw [if_pos hk33] at hf
            obtain rfl := Option.some.inj hf
            exact absurd (show (3 : Nat) = 2 from hkd) (by decide)
          rw [if_neg hk33] at hf
          exact nomatch hf
set_option maxHeartbeats 400000000 in
set_option maxRecDepth 100000 in
theorem gB_binary_3 (l : Launch) (hl9 : l.stackTraces = false) (D : va_G) (cT : Nat → ClassId) (aK aV : Nat → Nat) (sz d n : Nat) (a0 : Nat) (a1 : Nat) (a2 : Nat) (a3 : Nat) (a4 : Nat) (a5 : Nat) (a6 : Nat) (a7 : Nat) (a8 : Nat) (a9 : Nat) (a10 : Nat) (a13 : Nat) (a14 : Nat) (a15 : Nat) (a16 : Nat) (a17 : Nat) (a18 : Nat) (rf0 : Nat → Option Nat) (b1 : Nat) (x1 : Int32) (x2 : Int32) (x3 : Int32) (x4 : Int32) (f0 : Nat → Int32) (v1 : Int32) (v2 : Int32) (f3 : Nat → Int32) (v4 : Int32) (v5 : Int32) (f6 : Nat → Int32) (v7 : Int32) (v8 : Int32) (f9 : Nat → Int32) (f10 : Nat → Int32) (p11 : Nat) (f12 : Nat → Int32) (p13 : Nat) (f14 : Nat → Int32) (v15 : Int32) (f16 : Nat → Int64) (v17 : Int32) (v18 : Int32) (v19 : Int32) (v20 : Int32) (f21 : Nat → Int64) (v22 : Int32) (v23 : Int32) (f24 : Nat → Int64) (v25 : Int32) (v26 : Int32) (hr1 : ¬ (x1 < 0 ∨ 8 ≤ x1.toNatClampNeg) → rf0 x1.toNatClampNeg = some b1) (hr3 : ¬ (x3 < 0 ∨ 8 ≤ x3.toNatClampNeg) → rf0 x3.toNatClampNeg = some a15) (hr4 : ¬ (x4 < 0 ∨ 8 ≤ x4.toNatClampNeg) → rf0 x4.toNatClampNeg = some a17) (out : Nat × (Nat → Int32) × Int32 × Int32 × (Nat → Int64) × Int32 × Int32 × Int32) (hf : fB_binary d n x1 x2 x3 x4 f0 v1 v2 f3 v4 v5 f6 v7 v8 f9 f10 p11 f12 p13 f14 v15 f16 v17 v18 v19 v20 f21 v22 v23 f24 v25 v26 = some out) (hkd : out.1 = 3) : xMetX l yB_binary wyB_binary (16 * d + 7) 3 18 (400 * d + 180) D cT aK aV sz [.ref a0, .int x1, .int x2, .int x3, .int x4] [(a0, .inr (0, [.ref a1, .ref a3, .ref a5, .ref a7, .ref a8, .ref a13, .int v19, .int v20])), (a1, .inr (1, [.ref a2, .int v1, .int v2])), (a2, .inl (cT 0, 4096, .inl f0)), (a3, .inr (1, [.ref a4, .int v4, .int v5])), (a4, .inl (cT 0, 4096, .inl f3)), (a5, .inr (1, [.ref a6, .int v7, .int v8])), (a6, .inl (cT 0, 4096, .inl f6)), (a7, .inl (cT 3, 8, .inr (.inr (.inr (.inr rf0))))), (a8, .inr (3, [.ref a9, .ref a10, .ref p11, .ref p13, .int v15])), (a9, .inl (cT 1, 2048, .inl f9)), (a10, .inl (cT 1, 2048, .inl f10)), (p11, .inl (cT 1, 2048, .inl f12)), (p13, .inl (cT 1, 2048, .inl f14)), (a13, .inr (2, [.ref a14, .int v17, .int v18])), (a14, .inl (cT 2, 4096, .inr (.inl f16))), (a15, .inr (2, [.ref a16, .int v22, .int v23])), (a16, .inl (cT 2, 4096, .inr (.inl f21))), (a17, .inr (2, [.ref a18, .int v25, .int v26])), (a18, .inl (cT 2, 4096, .inr (.inl f24)))] "java/lang/IllegalArgumentException" (fun A t => xB D xcl cT A [(a0, .inr (0, [.ref a1, .ref a3, .ref a5, .ref a7, .ref a8, .ref a13, .int v19, .int out.2.2.2.2.2.2.2])), (a1, .inr (1, [.ref a2, .int v1, .int v2])), (a2, .inl (cT 0, 4096, .inl f0)), (a3, .inr (1, [.ref a4, .int v4, .int v5])), (a4, .inl (cT 0, 4096, .inl f3)), (a5, .inr (1, [.ref a6, .int out.2.2.1, .int out.2.2.2.1])), (a6, .inl (cT 0, 4096, .inl out.2.1)), (a7, .inl (cT 3, 8, .inr (.inr (.inr (.inr rf0))))), (a8, .inr (3, [.ref a9, .ref a10, .ref p11, .ref p13, .int v15])), (a9, .inl (cT 1, 2048, .inl f9)), (a10, .inl (cT 1, 2048, .inl f10)), (p11, .inl (cT 1, 2048, .inl f12)), (p13, .inl (cT 1, 2048, .inl f14)), (a13, .inr (2, [.ref a14, .int out.2.2.2.2.2.1, .int out.2.2.2.2.2.2.1])), (a14, .inl (cT 2, 4096, .inr (.inl out.2.2.2.2.1))), (a15, .inr (2, [.ref a16, .int v22, .int v23])), (a16, .inl (cT 2, 4096, .inr (.inl f21))), (a17, .inr (2, [.ref a18, .int v25, .int v26])), (a18, .inl (cT 2, 4096, .inr (.inl f24)))] t) := by
  refine vx_ofW (cc := prog_1_method_6_code) (maxL := 5) (ret := none) (by decide) rfl ?_
  intro p e s m args below meth c s₁ B hml hne hv
  obtain ⟨rfl, hsz, hZ, hP, hK, hD0⟩ := hv
  have hx := B.exec
  have hb := B.bytes
  have hr := B.returns
  have hts := atoms_spec (ws := wyB_binary) B.pre
  have htx := fun w h => hts w (List.mem_cons_of_mem _ h)
  have hown : s.vm.findClass "ValueBench" = some m.cls := findClass_of_methodNamed B.named
  have hlocks := B.notSynchronized
  subst hsz
  have hD := hD0.self (sz := s.heap.size)
  generalize hAe : va_A [(a0, .inr (0, [.ref a1, .ref a3, .ref a5, .ref a7, .ref a8, .ref a13, .int v19, .int v20])), (a1, .inr (1, [.ref a2, .int v1, .int v2])), (a2, .inl (cT 0, 4096, .inl f0)), (a3, .inr (1, [.ref a4, .int v4, .int v5])), (a4, .inl (cT 0, 4096, .inl f3)), (a5, .inr (1, [.ref a6, .int v7, .int v8])), (a6, .inl (cT 0, 4096, .inl f6)), (a7, .inl (cT 3, 8, .inr (.inr (.inr (.inr rf0))))), (a8, .inr (3, [.ref a9, .ref a10, .ref p11, .ref p13, .int v15])), (a9, .inl (cT 1, 2048, .inl f9)), (a10, .inl (cT 1, 2048, .inl f10)), (p11, .inl (cT 1, 2048, .inl f12)), (p13, .inl (cT 1, 2048, .inl f14)), (a13, .inr (2, [.ref a14, .int v17, .int v18])), (a14, .inl (cT 2, 4096, .inr (.inl f16))), (a15, .inr (2, [.ref a16, .int v22, .int v23])), (a16, .inl (cT 2, 4096, .inr (.inl f21))), (a17, .inr (2, [.ref a18, .int v25, .int v26])), (a18, .inl (cT 2, 4096, .inr (.inl f24)))] s.heap.size = A at hD hZ ⊢
  have hA : ∀ q : Nat, s.heap.size ≤ q → A q := fun q h => by rw [← hAe]; exact Or.inr h
  have hS : va_S A s.heap s.heap [] := va_S.rf
  have hP : va_P D xcl [(a0, .inr (0, [.ref a1, .ref a3, .ref a5, .ref a7, .ref a8, .ref a13, .int v19, .int v20])), (a1, .inr (1, [.ref a2, .int v1, .int v2])), (a2, .inl (cT 0, 4096, .inl f0)), (a3, .inr (1, [.ref a4, .int v4, .int v5])), (a4, .inl (cT 0, 4096, .inl f3)), (a5, .inr (1, [.ref a6, .int v7, .int v8])), (a6, .inl (cT 0, 4096, .inl f6)), (a7, .inl (cT 3, 8, .inr (.inr (.inr (.inr rf0))))), (a8, .inr (3, [.ref a9, .ref a10, .ref p11, .ref p13, .int v15])), (a9, .inl (cT 1, 2048, .inl f9)), (a10, .inl (cT 1, 2048, .inl f10)), (p11, .inl (cT 1, 2048, .inl f12)), (p13, .inl (cT 1, 2048, .inl f14)), (a13, .inr (2, [.ref a14, .int v17, .int v18])), (a14, .inl (cT 2, 4096, .inr (.inl f16))), (a15, .inr (2, [.ref a16, .int v22, .int v23])), (a16, .inl (cT 2, 4096, .inr (.inl f21))), (a17, .inr (2, [.ref a18, .int v25, .int v26])), (a18, .inl (cT 2, 4096, .inr (.inl f24)))] s.heap := hP
  have hl := lv_entry ([.ref a0, .int x1, .int x2, .int x3, .int x4]) (n := 5) (Nat.le_of_ble_eq_true rfl)
  rw [lg_entry_eq]
  generalize (lg_sl ([.ref a0, .int x1, .int x2, .int x3, .int x4]) ++ List.replicate (5 - (lg_sl ([.ref a0, .int x1, .int x2, .int x3, .int x4])).length) Slot.unset).toArray = ls at hl ⊢
  have hl : lv_has ls 5 [(0, .ref a0), (1, .int x1), (2, .int x2), (3, .int x3), (4, .int x4)] := hl
  unfold fB_binary at hf
  refine lv_iload_n hx hb dB_binary_0 rfl (lv_at hl 1 rfl) ?_
  obtain ⟨o1, hq2, hf⟩ := xbind hf
  obtain ⟨hPc, hDc, hFc⟩ := xcut (wc := []) hP hD hS hA [] rfl rfl (by decide)
  refine va_calli (va_runS (As := [.int x1]) (rest := []) ⟨hx, hb, hml, hown, htx⟩ (gB_isRegister l hl9 D cT aK aV s.heap.size n x1 o1 hq2) ⟨callB_of 1 htx (xw_goodC kw_2_18) rfl rfl rfl (htx _ kw_1_1) (htx _ kw_2_16) ⟨by decide, by decide, by decide +kernel⟩ ⟨Nat.le_of_ble_eq_true rfl, Nat.le_of_ble_eq_true rfl⟩, htx _ kw_2_17⟩ ⟨xPre_blind, (fun U hU hW => ⟨rfl, xPre_of hZ hS hFc hPc hDc hK U hU hW⟩)⟩ rfl rfl hl.1 rfl (lv_room (Nat.le_of_ble_eq_true rfl)) dB_binary_1 ⟨Nat.le_of_ble_eq_true rfl, Nat.le_of_ble_eq_true rfl⟩) hS (fun q _ h => hFc q h) hFc (fun r3 u9 t H1 locs ht hvm hr9 hB hz1 hk1 hS => ?_)
  obtain ⟨hP1, hK1, hD1⟩ := hB
  rw [ht] at hP1
  obtain ⟨hP, hD⟩ := xjoin (W := [(a0, .inr (0, [.ref a1, .ref a3, .ref a5, .ref a7, .ref a8, .ref a13, .int v19, .int v20])), (a1, .inr (1, [.ref a2, .int v1, .int v2])), (a2, .inl (cT 0, 4096, .inl f0)), (a3, .inr (1, [.ref a4, .int v4, .int v5])), (a4, .inl (cT 0, 4096, .inl f3)), (a5, .inr (1, [.ref a6, .int v7, .int v8])), (a6, .inl (cT 0, 4096, .inl f6)), (a7, .inl (cT 3, 8, .inr (.inr (.inr (.inr rf0))))), (a8, .inr (3, [.ref a9, .ref a10, .ref p11, .ref p13, .int v15])), (a9, .inl (cT 1, 2048, .inl f9)), (a10, .inl (cT 1, 2048, .inl f10)), (p11, .inl (cT 1, 2048, .inl f12)), (p13, .inl (cT 1, 2048, .inl f14)), (a13, .inr (2, [.ref a14, .int v17, .int v18])), (a14, .inl (cT 2, 4096, .inr (.inl f16))), (a15, .inr (2, [.ref a16, .int v22, .int v23])), (a16, .inl (cT 2, 4096, .inr (.inl f21))), (a17, .inr (2, [.ref a18, .int v25, .int v26])), (a18, .inl (cT 2, 4096, .inr (.inl f24)))]) hP hD [] [0, 1, 2, 3, 4, 5, 6, 7, 8, 9, 10, 11, 12, 13, 14, 15, 16, 17, 18] 19 rfl rfl (by decide) (by decide) hk1 hFc hP1 hD1
  generalize H1 = H at hP hS ⊢
  rw [hr9]
  refine W.eq (g2 := F0 m 4 ls [.int o1]) rfl ?_
  refine lv_if_eq (tgt := 34) hx hb dB_binary_4 (by decide) (fun hc => ?_) (fun hc => ?_)
  · rw [if_pos hc] at hf
    refine lv_iconst (v := 0) hx hb dB_binary_34 (by decide) ?_
    obtain ⟨o4, hq5, hf⟩ := xbind hf
    by_cases hk6 : o4 = 0
    · rw [if_pos hk6] at hf
      obtain ⟨hPc, hDc, hFc⟩ := xcut (wc := []) hP hD hS hA [] rfl rfl (by decide)
      refine va_callv (va_runS (As := [.int 0]) (rest := []) ⟨hx, hb, hml, hown, htx⟩ (gB_demand l hl9 D cT aK aV H.size n (0 : Int32) o4 hq5 hk6) ⟨callB_of 1 htx (xw_goodC kw_1_221) rfl rfl rfl (htx _ kw_1_1) (htx _ kw_1_219) ⟨by decide, by decide, by decide +kernel⟩ ⟨Nat.le_of_ble_eq_true rfl, Nat.le_of_ble_eq_true rfl⟩, htx _ kw_1_220⟩ ⟨xPre_blind, (fun U hU hW => ⟨rfl, xPre_of hZ hS hFc hPc hDc hK U hU hW⟩)⟩ rfl rfl hl.1 rfl (lv_room (Nat.le_of_ble_eq_true rfl)) dB_binary_35 ⟨Nat.le_of_ble_eq_true rfl, Nat.le_of_ble_eq_true rfl⟩) hS (fun q _ h => hFc q h) hFc (fun u9 t H1 locs ht hvm hr9 hB hz1 hk1 hS => ?_)
      obtain ⟨hP1, hK1, hD1⟩ := hB
      rw [ht] at hP1
      obtain ⟨hP, hD⟩ := xjoin (W := [(a0, .inr (0, [.ref a1, .ref a3, .ref a5, .ref a7, .ref a8, .ref a13, .int v19, .int v20])), (a1, .inr (1, [.ref a2, .int v1, .int v2])), (a2, .inl (cT 0, 4096, .inl f0)), (a3, .inr (1, [.ref a4, .int v4, .int v5])), (a4, .inl (cT 0, 4096, .inl f3)), (a5, .inr (1, [.ref a6, .int v7, .int v8])), (a6, .inl (cT 0, 4096, .inl f6)), (a7, .inl (cT 3, 8, .inr (.inr (.inr (.inr rf0))))), (a8, .inr (3, [.ref a9, .ref a10, .ref p11, .ref p13, .int v15])), (a9, .inl (cT 1, 2048, .inl f9)), (a10, .inl (cT 1, 2048, .inl f10)), (p11, .inl (cT 1, 2048, .inl f12)), (p13, .inl (cT 1, 2048, .inl f14)), (a13, .inr (2, [.ref a14, .int v17, .int v18])), (a14, .inl (cT 2, 4096, .inr (.inl f16))), (a15, .inr (2, [.ref a16, .int v22, .int v23])), (a16, .inl (cT 2, 4096, .inr (.inl f21))), (a17, .inr (2, [.ref a18, .int v25, .int v26])), (a18, .inl (cT 2, 4096, .inr (.inl f24)))]) hP hD [] [0, 1, 2, 3, 4, 5, 6, 7, 8, 9, 10, 11, 12, 13, 14, 15, 16, 17, 18] 19 rfl rfl (by decide) (by decide) hk1 hFc hP1 hD1
      generalize H1 = H at hP hS ⊢
      refine lv_aload_n hx hb dB_binary_38 rfl (lv_at hl 0 rfl) ?_
      refine va_get (D := D) (ci := 0) (v := .ref a13) (C := "ValueBench") (T := TB) (N := 8) hx hb htx inB hown hK hP 0 rfl rfl 5 (by decide) (htx _ kw_1_100) (fun _ h9 => h9) rfl dB_binary_39 ?_
      obtain ⟨o7, hq8, hf⟩ := xbind hf
      obtain ⟨hPc, hDc, hFc⟩ := xcut (wc := [(a13, .inr (2, [.ref a14, .int v17, .int v18])), (a14, .inl (cT 2, 4096, .inr (.inl f16)))]) hP hD hS hA [13, 14] rfl rfl (by decide)
      refine va_callv (va_runV (C := "ValueBench$Row") (As := []) (rest := []) ⟨hx, hb, hml, hown, htx⟩ (gR_clear l hl9 D cT aK aV H.size n a13 a14 f16 v17 v18 o7 hq8) ⟨callB_of 0 htx (xw_goodC kw_2_22) rfl rfl rfl (htx _ kw_1_4) (htx _ kw_2_19) ⟨by decide, by decide, by decide +kernel⟩ ⟨Nat.le_of_ble_eq_true rfl, Nat.le_of_ble_eq_true rfl⟩, (htx _ kw_2_20), (htx _ kw_2_21)⟩ ⟨xPre_blind, va_recv hK hP (ci := 2) rfl (q0 := 13) rfl, (fun U hU hW => ⟨rfl, xPre_of hZ hS hFc hPc hDc hK U hU hW⟩)⟩ rfl rfl hl.1 rfl (lv_room (Nat.le_of_ble_eq_true rfl)) dB_binary_42 ⟨Nat.le_of_ble_eq_true rfl, Nat.le_of_ble_eq_true rfl⟩) hS (fun q _ h => hFc q h) hFc (fun u9 t H1 locs ht hvm hr9 hB hz1 hk1 hS => ?_)
      obtain ⟨hP1, hK1, hD1⟩ := hB
      rw [ht] at hP1
      obtain ⟨hP, hD⟩ := xjoin (W := [(a0, .inr (0, [.ref a1, .ref a3, .ref a5, .ref a7, .ref a8, .ref a13, .int v19, .int v20])), (a1, .inr (1, [.ref a2, .int v1, .int v2])), (a2, .inl (cT 0, 4096, .inl f0)), (a3, .inr (1, [.ref a4, .int v4, .int v5])), (a4, .inl (cT 0, 4096, .inl f3)), (a5, .inr (1, [.ref a6, .int v7, .int v8])), (a6, .inl (cT 0, 4096, .inl f6)), (a7, .inl (cT 3, 8, .inr (.inr (.inr (.inr rf0))))), (a8, .inr (3, [.ref a9, .ref a10, .ref p11, .ref p13, .int v15])), (a9, .inl (cT 1, 2048, .inl f9)), (a10, .inl (cT 1, 2048, .inl f10)), (p11, .inl (cT 1, 2048, .inl f12)), (p13, .inl (cT 1, 2048, .inl f14)), (a15, .inr (2, [.ref a16, .int v22, .int v23])), (a16, .inl (cT 2, 4096, .inr (.inl f21))), (a17, .inr (2, [.ref a18, .int v25, .int v26])), (a18, .inl (cT 2, 4096, .inr (.inl f24))), (a13, .inr (2, [.ref a14, .int o7.1, .int o7.2])), (a14, .inl (cT 2, 4096, .inr (.inl f16)))]) hP hD [13, 14] [0, 1, 2, 3, 4, 5, 6, 7, 8, 9, 10, 11, 12, 15, 16, 17, 18] 17 rfl rfl (by decide) (by decide) hk1 hFc hP1 hD1
      generalize H1 = H at hP hS ⊢
      refine lv_aload_n hx hb dB_binary_45 rfl (lv_at hl 0 rfl) ?_
      refine lv_iload_n hx hb dB_binary_46 rfl (lv_at hl 2 rfl) ?_
      refine lv_aload_n hx hb dB_binary_47 rfl (lv_at hl 0 rfl) ?_
      refine va_get (D := D) (ci := 0) (v := .ref a7) (C := "ValueBench") (T := TB) (N := 8) hx hb htx inB hown hK hP 0 rfl rfl 3 (by decide) (htx _ kw_1_98) (fun _ h9 => h9) rfl dB_binary_48 ?_
      refine lv_iload_n hx hb dB_binary_51 rfl (lv_at hl 3 rfl) ?_
      obtain ⟨hg9, hf⟩ := xifn hf
      refine va_aldq hx hb hK hP 7 3 rfl rfl hg9 dB_binary_52 ?_
      refine W.eq (g2 := F0 m 53 ls [va_rf (rf0 x3.toNatClampNeg), .int x2, .ref a0]) rfl ?_
      rw [hr3 hg9]
      refine W.eq (g2 := F0 m 53 ls [.ref a15, .int x2, .ref a0]) rfl ?_
      refine lv_aload_n hx hb dB_binary_53 rfl (lv_at hl 0 rfl) ?_
      refine va_get (D := D) (ci := 0) (v := .ref a7) (C := "ValueBench") (T := TB) (N := 8) hx hb htx inB hown hK hP 0 rfl rfl 3 (by decide) (htx _ kw_1_98) (fun _ h9 => h9) rfl dB_binary_54 ?_
      refine lv_iload hx hb dB_binary_57 (lv_at hl 4 rfl) ?_
      obtain ⟨hg10, hf⟩ := xifn hf
      refine va_aldq hx hb hK hP 7 3 rfl rfl hg10 dB_binary_59 ?_
      refine W.eq (g2 := F0 m 60 ls [va_rf (rf0 x4.toNatClampNeg), .ref a15, .int x2, .ref a0]) rfl ?_
      rw [hr4 hg10]
      refine W.eq (g2 := F0 m 60 ls [.ref a17, .ref a15, .int x2, .ref a0]) rfl ?_
      refine lv_aload_n hx hb dB_binary_60 rfl (lv_at hl 0 rfl) ?_
      refine va_get (D := D) (ci := 0) (v := .ref a13) (C := "ValueBench") (T := TB) (N := 8) hx hb htx inB hown hK hP 0 rfl rfl 5 (by decide) (htx _ kw_1_100) (fun _ h9 => h9) rfl dB_binary_61 ?_
      obtain ⟨o11, hq12, hf⟩ := xbind hf
      obtain ⟨hPc, hDc, hFc⟩ := xcut (wc := [(a15, .inr (2, [.ref a16, .int v22, .int v23])), (a16, .inl (cT 2, 4096, .inr (.inl f21))), (a17, .inr (2, [.ref a18, .int v25, .int v26])), (a18, .inl (cT 2, 4096, .inr (.inl f24))), (a13, .inr (2, [.ref a14, .int o7.1, .int o7.2])), (a14, .inl (cT 2, 4096, .inr (.inl f16)))]) hP hD hS hA [13, 14, 15, 16, 17, 18] rfl rfl (by decide)
      refine va_calli (va_runS (As := [.int x2, .ref a15, .ref a17, .ref a13]) (rest := [.ref a0]) ⟨hx, hb, hml, hown, htx⟩ (gA_apply l hl9 D cT aK aV H.size d n a15 a16 a17 a18 a13 a14 x2 f21 v22 v23 f24 v25 v26 f16 o7.1 o7.2 o11 hq12) ⟨callB_of 4 htx (xw_goodC kw_3_105) rfl rfl rfl (htx _ kw_1_21) (htx _ kw_3_103) ⟨by decide, by decide, by decide +kernel⟩ ⟨(by show (16 * d + 5) + 1 ≤ 16 * d + 7; omega), (by show 8 + (4 + 11) + (400 * d + 157) ≤ 400 * d + 180; omega)⟩, htx _ kw_3_104⟩ ⟨xPre_blind, (fun U hU hW => ⟨rfl, xPre_of hZ hS hFc hPc hDc hK U hU hW⟩)⟩ rfl rfl hl.1 rfl (lv_room (Nat.le_of_ble_eq_true rfl)) dB_binary_64 ⟨Nat.le_of_ble_eq_true rfl, Nat.le_of_ble_eq_true rfl⟩) hS (fun q _ h => hFc q h) hFc (fun r13 u9 t H1 locs ht hvm hr9 hB hz1 hk1 hS => ?_)
      obtain ⟨hP1, hK1, hD1⟩ := hB
      rw [ht] at hP1
      obtain ⟨hP, hD⟩ := xjoin (W := [(a0, .inr (0, [.ref a1, .ref a3, .ref a5, .ref a7, .ref a8, .ref a13, .int v19, .int v20])), (a1, .inr (1, [.ref a2, .int v1, .int v2])), (a2, .inl (cT 0, 4096, .inl f0)), (a3, .inr (1, [.ref a4, .int v4, .int v5])), (a4, .inl (cT 0, 4096, .inl f3)), (a5, .inr (1, [.ref a6, .int v7, .int v8])), (a6, .inl (cT 0, 4096, .inl f6)), (a7, .inl (cT 3, 8, .inr (.inr (.inr (.inr rf0))))), (a8, .inr (3, [.ref a9, .ref a10, .ref p11, .ref p13, .int v15])), (a9, .inl (cT 1, 2048, .inl f9)), (a10, .inl (cT 1, 2048, .inl f10)), (p11, .inl (cT 1, 2048, .inl f12)), (p13, .inl (cT 1, 2048, .inl f14)), (a15, .inr (2, [.ref a16, .int v22, .int v23])), (a16, .inl (cT 2, 4096, .inr (.inl f21))), (a17, .inr (2, [.ref a18, .int v25, .int v26])), (a18, .inl (cT 2, 4096, .inr (.inl f24))), (a13, .inr (2, [.ref a14, .int o11.2.2.1, .int o11.2.2.2])), (a14, .inl (cT 2, 4096, .inr (.inl o11.2.1)))]) hP hD [13, 14, 15, 16, 17, 18] [0, 1, 2, 3, 4, 5, 6, 7, 8, 9, 10, 11, 12] 13 rfl rfl (by decide) (by decide) hk1 hFc hP1 hD1
      generalize H1 = H at hP hS ⊢
      rw [hr9]
      refine W.eq (g2 := F0 m 67 ls [.int o11.1, .ref a0]) rfl ?_
      obtain ⟨o14, hq15, hf⟩ := xbind hf
      by_cases hk16 : o14.1 = 0
      · rw [if_pos hk16] at hf
        obtain ⟨hPc, hDc, hFc⟩ := xcut (wc := [(a0, .inr (0, [.ref a1, .ref a3, .ref a5, .ref a7, .ref a8, .ref a13, .int v19, .int v20])), (a1, .inr (1, [.ref a2, .int v1, .int v2])), (a2, .inl (cT 0, 4096, .inl f0)), (a3, .inr (1, [.ref a4, .int v4, .int v5])), (a4, .inl (cT 0, 4096, .inl f3)), (a5, .inr (1, [.ref a6, .int v7, .int v8])), (a6, .inl (cT 0, 4096, .inl f6)), (a7, .inl (cT 3, 8, .inr (.inr (.inr (.inr rf0))))), (a8, .inr (3, [.ref a9, .ref a10, .ref p11, .ref p13, .int v15])), (a9, .inl (cT 1, 2048, .inl f9)), (a10, .inl (cT 1, 2048, .inl f10)), (p11, .inl (cT 1, 2048, .inl f12)), (p13, .inl (cT 1, 2048, .inl f14)), (a13, .inr (2, [.ref a14, .int o11.2.2.1, .int o11.2.2.2])), (a14, .inl (cT 2, 4096, .inr (.inl o11.2.1)))]) hP hD hS hA [0, 1, 2, 3, 4, 5, 6, 7, 8, 9, 10, 11, 12, 17, 18] rfl rfl (by decide)
        refine va_callv (va_runV (C := "ValueBench") (As := [.int o11.1]) (rest := []) ⟨hx, hb, hml, hown, htx⟩ (gB_demandDone l hl9 D cT aK aV H.size n a0 a1 a2 a3 a4 a5 a6 a7 a8 a9 a10 a13 a14 rf0 o11.1 f0 v1 v2 f3 v4 v5 f6 v7 v8 f9 f10 p11 f12 p13 f14 v15 o11.2.1 o11.2.2.1 o11.2.2.2 v19 v20 o14 hq15 hk16) ⟨callB_of 1 htx (xw_goodC kw_3_222) rfl rfl rfl (htx _ kw_1_1) (htx _ kw_3_219) ⟨by decide, by decide, by decide +kernel⟩ ⟨Nat.le_of_ble_eq_true rfl, Nat.le_of_ble_eq_true rfl⟩, (htx _ kw_3_221), (htx _ kp_B_demandDone)⟩ ⟨xPre_blind, va_recv hK hP (ci := 0) rfl (q0 := 0) rfl, (fun U hU hW => ⟨rfl, xPre_of hZ hS hFc hPc hDc hK U hU hW⟩)⟩ rfl rfl hl.1 rfl (lv_room (Nat.le_of_ble_eq_true rfl)) dB_binary_67 ⟨Nat.le_of_ble_eq_true rfl, Nat.le_of_ble_eq_true rfl⟩) hS (fun q _ h => hFc q h) hFc (fun u9 t H1 locs ht hvm hr9 hB hz1 hk1 hS => ?_)
        obtain ⟨hP1, hK1, hD1⟩ := hB
        rw [ht] at hP1
        obtain ⟨hP, hD⟩ := xjoin (W := [(a15, .inr (2, [.ref a16, .int v22, .int v23])), (a16, .inl (cT 2, 4096, .inr (.inl f21))), (a17, .inr (2, [.ref a18, .int v25, .int v26])), (a18, .inl (cT 2, 4096, .inr (.inl f24))), (a0, .inr (0, [.ref a1, .ref a3, .ref a5, .ref a7, .ref a8, .ref a13, .int v19, .int o14.2])), (a1, .inr (1, [.ref a2, .int v1, .int v2])), (a2, .inl (cT 0, 4096, .inl f0)), (a3, .inr (1, [.ref a4, .int v4, .int v5])), (a4, .inl (cT 0, 4096, .inl f3)), (a5, .inr (1, [.ref a6, .int v7, .int v8])), (a6, .inl (cT 0, 4096, .inl f6)), (a7, .inl (cT 3, 8, .inr (.inr (.inr (.inr rf0))))), (a8, .inr (3, [.ref a9, .ref a10, .ref p11, .ref p13, .int v15])), (a9, .inl (cT 1, 2048, .inl f9)), (a10, .inl (cT 1, 2048, .inl f10)), (p11, .inl (cT 1, 2048, .inl f12)), (p13, .inl (cT 1, 2048, .inl f14)), (a13, .inr (2, [.ref a14, .int o11.2.2.1, .int o11.2.2.2])), (a14, .inl (cT 2, 4096, .inr (.inl o11.2.1)))]) hP hD [0, 1, 2, 3, 4, 5, 6, 7, 8, 9, 10, 11, 12, 17, 18] [13, 14, 15, 16] 4 rfl rfl (by decide) (by decide) hk1 hFc hP1 hD1
        generalize H1 = H at hP hS ⊢
        refine lv_aload_n hx hb dB_binary_70 rfl (lv_at hl 0 rfl) ?_
        refine lv_iload_n hx hb dB_binary_71 rfl (lv_at hl 1 rfl) ?_
        obtain ⟨o17, hq18, hf⟩ := xbind hf
        by_cases hk19 : o17.1 = 0
        · rw [if_pos hk19] at hf
          obtain ⟨hPc, hDc, hFc⟩ := xcut (wc := [(a0, .inr (0, [.ref a1, .ref a3, .ref a5, .ref a7, .ref a8, .ref a13, .int v19, .int o14.2])), (a1, .inr (1, [.ref a2, .int v1, .int v2])), (a2, .inl (cT 0, 4096, .inl f0)), (a3, .inr (1, [.ref a4, .int v4, .int v5])), (a4, .inl (cT 0, 4096, .inl f3)), (a5, .inr (1, [.ref a6, .int v7, .int v8])), (a6, .inl (cT 0, 4096, .inl f6)), (a7, .inl (cT 3, 8, .inr (.inr (.inr (.inr rf0))))), (a8, .inr (3, [.ref a9, .ref a10, .ref p11, .ref p13, .int v15])), (a9, .inl (cT 1, 2048, .inl f9)), (a10, .inl (cT 1, 2048, .inl f10)), (p11, .inl (cT 1, 2048, .inl f12)), (p13, .inl (cT 1, 2048, .inl f14)), (a13, .inr (2, [.ref a14, .int o11.2.2.1, .int o11.2.2.2])), (a14, .inl (cT 2, 4096, .inr (.inl o11.2.1)))]) hP hD hS hA [4, 5, 6, 7, 8, 9, 10, 11, 12, 13, 14, 15, 16, 17, 18] rfl rfl (by decide)
          refine va_calli (va_runV (C := "ValueBench") (As := [.int x1]) (rest := []) ⟨hx, hb, hml, hown, htx⟩ (gB_keepSpare l hl9 D cT aK aV H.size d n a0 a1 a2 a3 a4 a5 a6 a7 a8 a9 a10 a13 a14 rf0 b1 x1 f0 v1 v2 f3 v4 v5 f6 v7 v8 f9 f10 p11 f12 p13 f14 v15 o11.2.1 o11.2.2.1 o11.2.2.2 v19 o14.2 hr1 o17 hq18 hk19) ⟨callB_of 1 htx (xw_goodC kw_3_17) rfl rfl rfl (htx _ kw_1_1) (htx _ kw_3_14) ⟨by decide, by decide, by decide +kernel⟩ ⟨(by show (16 * d + 6) + 1 ≤ 16 * d + 7; omega), (by show 8 + (3 + 11) + (400 * d + 100) ≤ 400 * d + 180; omega)⟩, (htx _ kw_3_16), (htx _ kp_B_keepSpare)⟩ ⟨xPre_blind, va_recv hK hP (ci := 0) rfl (q0 := 4) rfl, (fun U hU hW => ⟨rfl, xPre_of hZ hS hFc hPc hDc hK U hU hW⟩)⟩ rfl rfl hl.1 rfl (lv_room (Nat.le_of_ble_eq_true rfl)) dB_binary_72 ⟨Nat.le_of_ble_eq_true rfl, Nat.le_of_ble_eq_true rfl⟩) hS (fun q _ h => hFc q h) hFc (fun r20 u9 t H1 locs ht hvm hr9 hB hz1 hk1 hS => ?_)
          obtain ⟨hP1, hK1, hD1⟩ := hB
          rw [ht] at hP1
          obtain ⟨hP, hD⟩ := xjoin (W := [(a15, .inr (2, [.ref a16, .int v22, .int v23])), (a16, .inl (cT 2, 4096, .inr (.inl f21))), (a17, .inr (2, [.ref a18, .int v25, .int v26])), (a18, .inl (cT 2, 4096, .inr (.inl f24))), (a0, .inr (0, [.ref a1, .ref a3, .ref a5, .ref a7, .ref a8, .ref b1, .int v19, .int o14.2])), (a1, .inr (1, [.ref a2, .int v1, .int v2])), (a2, .inl (cT 0, 4096, .inl f0)), (a3, .inr (1, [.ref a4, .int v4, .int v5])), (a4, .inl (cT 0, 4096, .inl f3)), (a5, .inr (1, [.ref a6, .int o17.2.2.2.1, .int o17.2.2.2.2])), (a6, .inl (cT 0, 4096, .inl o17.2.2.1)), (a7, .inl (cT 3, 8, .inr (.inr (.inr (.inr (va_up rf0 x1.toNatClampNeg (some a13))))))), (a8, .inr (3, [.ref a9, .ref a10, .ref p11, .ref p13, .int v15])), (a9, .inl (cT 1, 2048, .inl f9)), (a10, .inl (cT 1, 2048, .inl f10)), (p11, .inl (cT 1, 2048, .inl f12)), (p13, .inl (cT 1, 2048, .inl f14)), (a13, .inr (2, [.ref a14, .int o11.2.2.1, .int o11.2.2.2])), (a14, .inl (cT 2, 4096, .inr (.inl o11.2.1)))]) hP hD [4, 5, 6, 7, 8, 9, 10, 11, 12, 13, 14, 15, 16, 17, 18] [0, 1, 2, 3] 4 rfl rfl (by decide) (by decide) hk1 hFc hP1 hD1
          generalize H1 = H at hP hS ⊢
          rw [hr9]
          refine W.eq (g2 := F0 m 75 ls [.int o17.2.1]) rfl ?_
          refine lv_pop hx hb dB_binary_75 rfl ?_
          obtain rfl := Option.some.inj hf
          exact absurd (show (0 : Nat) = 3 from hkd) (by decide)
        rw [if_neg hk19] at hf
        by_cases hk21 : o17.1 = 1
        · rw [if_pos hk21] at hf
          obtain rfl := Option.some.inj hf
          exact absurd (show (1 : Nat) = 3 from hkd) (by decide)
        rw [if_neg hk21] at hf
        exact nomatch hf
      rw [if_neg hk16] at hf
      by_cases hk23 : o14.1 = 1
      · rw [if_pos hk23] at hf
        obtain rfl := Option.some.inj hf
        exact absurd (show (2 : Nat) = 3 from hkd) (by decide)
      rw [if_neg hk23] at hf
      exact nomatch hf
    rw [if_neg hk6] at hf
    by_cases hk24 : o4 = 1
    · rw [if_pos hk24] at hf
      obtain ⟨hPc, hDc, hFc⟩ := xcut (wc := []) hP hD hS hA [] rfl rfl (by decide)
      refine xx_thr (vx_runS (As := [.int 0]) (rest := []) ⟨hx, hb, hml, hown, htx⟩ (gB_demand_1 l hl9 D cT aK aV H.size n (0 : Int32) o4 hq5 hk24) ⟨callB_of 1 htx (xw_goodC kw_1_221) rfl rfl rfl (htx _ kw_1_1) (htx _ kw_1_219) ⟨by decide, by decide, by decide +kernel⟩ ⟨Nat.le_of_ble_eq_true rfl, Nat.le_of_ble_eq_true rfl⟩, htx _ kw_1_220⟩ ⟨xPre_blind, (fun U hU hW => ⟨rfl, xPre_of hZ hS hFc hPc hDc hK U hU hW⟩)⟩ rfl rfl hl.1 rfl (lv_room (Nat.le_of_ble_eq_true rfl)) dB_binary_35 ⟨Nat.le_of_ble_eq_true rfl, Nat.le_of_ble_eq_true rfl⟩) hS hFc (fun q _ h => hFc q h) (fun E ce q9 u9 t H1 locs ht hvm _ hB hz1 hk1 hS hce hcv hcl => ?_)
      obtain ⟨rfl, hP1, hK1, hD1⟩ := hB
      rw [ht] at hP1
      obtain ⟨hP, hD⟩ := xjoin (W := [(a0, .inr (0, [.ref a1, .ref a3, .ref a5, .ref a7, .ref a8, .ref a13, .int v19, .int v20])), (a1, .inr (1, [.ref a2, .int v1, .int v2])), (a2, .inl (cT 0, 4096, .inl f0)), (a3, .inr (1, [.ref a4, .int v4, .int v5])), (a4, .inl (cT 0, 4096, .inl f3)), (a5, .inr (1, [.ref a6, .int v7, .int v8])), (a6, .inl (cT 0, 4096, .inl f6)), (a7, .inl (cT 3, 8, .inr (.inr (.inr (.inr rf0))))), (a8, .inr (3, [.ref a9, .ref a10, .ref p11, .ref p13, .int v15])), (a9, .inl (cT 1, 2048, .inl f9)), (a10, .inl (cT 1, 2048, .inl f10)), (p11, .inl (cT 1, 2048, .inl f12)), (p13, .inl (cT 1, 2048, .inl f14)), (a13, .inr (2, [.ref a14, .int v17, .int v18])), (a14, .inl (cT 2, 4096, .inr (.inl f16))), (a15, .inr (2, [.ref a16, .int v22, .int v23])), (a16, .inl (cT 2, 4096, .inr (.inl f21))), (a17, .inr (2, [.ref a18, .int v25, .int v26])), (a18, .inl (cT 2, 4096, .inr (.inl f24)))]) hP hD [] [0, 1, 2, 3, 4, 5, 6, 7, 8, 9, 10, 11, 12, 13, 14, 15, 16, 17, 18] 19 rfl rfl (by decide) (by decide) hk1 hFc hP1 hD1
      generalize H1 = H at hP hS hce ⊢
      obtain rfl := Option.some.inj hf
      obtain ⟨hP9, hD9⟩ := xsub (wc := [(a0, .inr (0, [.ref a1, .ref a3, .ref a5, .ref a7, .ref a8, .ref a13, .int v19, .int v20])), (a1, .inr (1, [.ref a2, .int v1, .int v2])), (a2, .inl (cT 0, 4096, .inl f0)), (a3, .inr (1, [.ref a4, .int v4, .int v5])), (a4, .inl (cT 0, 4096, .inl f3)), (a5, .inr (1, [.ref a6, .int v7, .int v8])), (a6, .inl (cT 0, 4096, .inl f6)), (a7, .inl (cT 3, 8, .inr (.inr (.inr (.inr rf0))))), (a8, .inr (3, [.ref a9, .ref a10, .ref p11, .ref p13, .int v15])), (a9, .inl (cT 1, 2048, .inl f9)), (a10, .inl (cT 1, 2048, .inl f10)), (p11, .inl (cT 1, 2048, .inl f12)), (p13, .inl (cT 1, 2048, .inl f14)), (a13, .inr (2, [.ref a14, .int v17, .int v18])), (a14, .inl (cT 2, 4096, .inr (.inl f16))), (a15, .inr (2, [.ref a16, .int v22, .int v23])), (a16, .inl (cT 2, 4096, .inr (.inl f21))), (a17, .inr (2, [.ref a18, .int v25, .int v26])), (a18, .inl (cT 2, 4096, .inr (.inl f24)))]) hP hD [0, 1, 2, 3, 4, 5, 6, 7, 8, 9, 10, 11, 12, 13, 14, 15, 16, 17, 18] rfl rfl (by decide)
      exact vx_out (E := "java/lang/IllegalArgumentException") (fun x h => (hne x h).elim) hlocks hce hcv hcl (fun t ht ha => ⟨(), trivial, ⟨rfl, by rw [ht]; exact hP9, va_K.moved ha hK, hD9⟩, hS.F ht⟩) hS.2.2 (Nat.le_of_ble_eq_true rfl) (Nat.le_of_ble_eq_true rfl)
    rw [if_neg hk24] at hf
    exact nomatch hf
  · rw [if_neg hc] at hf
    refine lv_iload_n hx hb dB_binary_7 rfl (lv_at hl 2 rfl) ?_
    refine lv_iconst (v := 4) hx hb dB_binary_8 (by decide) ?_
    obtain ⟨o4, hq5, hf⟩ := xbind hf
    obtain ⟨hPc, hDc, hFc⟩ := xcut (wc := []) hP hD hS hA [] rfl rfl (by decide)
    refine va_calli (va_runS (As := [.int x2, .int 4]) (rest := []) ⟨hx, hb, hml, hown, htx⟩ (gB_isWithin l hl9 D cT aK aV H.size n x2 (4 : Int32) o4 hq5) ⟨callB_of 2 htx (xw_goodC kw_1_218) rfl rfl rfl (htx _ kw_1_1) (htx _ kw_1_216) ⟨by decide, by decide, by decide +kernel⟩ ⟨Nat.le_of_ble_eq_true rfl, Nat.le_of_ble_eq_true rfl⟩, htx _ kw_1_217⟩ ⟨xPre_blind, (fun U hU hW => ⟨rfl, xPre_of hZ hS hFc hPc hDc hK U hU hW⟩)⟩ rfl rfl hl.1 rfl (lv_room (Nat.le_of_ble_eq_true rfl)) dB_binary_9 ⟨Nat.le_of_ble_eq_true rfl, Nat.le_of_ble_eq_true rfl⟩) hS (fun q _ h => hFc q h) hFc (fun r6 u9 t H1 locs ht hvm hr9 hB hz1 hk1 hS => ?_)
    obtain ⟨hP1, hK1, hD1⟩ := hB
    rw [ht] at hP1
    obtain ⟨hP, hD⟩ := xjoin (W := [(a0, .inr (0, [.ref a1, .ref a3, .ref a5, .ref a7, .ref a8, .ref a13, .int v19, .int v20])), (a1, .inr (1, [.ref a2, .int v1, .int v2])), (a2, .inl (cT 0, 4096, .inl f0)), (a3, .inr (1, [.ref a4, .int v4, .int v5])), (a4, .inl (cT 0, 4096, .inl f3)), (a5, .inr (1, [.ref a6, .int v7, .int v8])), (a6, .inl (cT 0, 4096, .inl f6)), (a7, .inl (cT 3, 8, .inr (.inr (.inr (.inr rf0))))), (a8, .inr (3, [.ref a9, .ref a10, .ref p11, .ref p13, .int v15])), (a9, .inl (cT 1, 2048, .inl f9)), (a10, .inl (cT 1, 2048, .inl f10)), (p11, .inl (cT 1, 2048, .inl f12)), (p13, .inl (cT 1, 2048, .inl f14)), (a13, .inr (2, [.ref a14, .int v17, .int v18])), (a14, .inl (cT 2, 4096, .inr (.inl f16))), (a15, .inr (2, [.ref a16, .int v22, .int v23])), (a16, .inl (cT 2, 4096, .inr (.inl f21))), (a17, .inr (2, [.ref a18, .int v25, .int v26])), (a18, .inl (cT 2, 4096, .inr (.inl f24)))]) hP hD [] [0, 1, 2, 3, 4, 5, 6, 7, 8, 9, 10, 11, 12, 13, 14, 15, 16, 17, 18] 19 rfl rfl (by decide) (by decide) hk1 hFc hP1 hD1
    generalize H1 = H at hP hS ⊢
    rw [hr9]
    refine W.eq (g2 := F0 m 12 ls [.int o4]) rfl ?_
    refine lv_if_eq (tgt := 34) hx hb dB_binary_12 (by decide) (fun hc => ?_) (fun hc => ?_)
    · rw [if_pos hc] at hf
      refine lv_iconst (v := 0) hx hb dB_binary_34 (by decide) ?_
      obtain ⟨o7, hq8, hf⟩ := xbind hf
      by_cases hk9 : o7 = 0
      · rw [if_pos hk9] at hf
        obtain ⟨hPc, hDc, hFc⟩ := xcut (wc := []) hP hD hS hA [] rfl rfl (by decide)
        refine va_callv (va_runS (As := [.int 0]) (rest := []) ⟨hx, hb, hml, hown, htx⟩ (gB_demand l hl9 D cT aK aV H.size n (0 : Int32) o7 hq8 hk9) ⟨callB_of 1 htx (xw_goodC kw_1_221) rfl rfl rfl (htx _ kw_1_1) (htx _ kw_1_219) ⟨by decide, by decide, by decide +kernel⟩ ⟨Nat.le_of_ble_eq_true rfl, Nat.le_of_ble_eq_true rfl⟩, htx _ kw_1_220⟩ ⟨xPre_blind, (fun U hU hW => ⟨rfl, xPre_of hZ hS hFc hPc hDc hK U hU hW⟩)⟩ rfl rfl hl.1 rfl (lv_room (Nat.le_of_ble_eq_true rfl)) dB_binary_35 ⟨Nat.le_of_ble_eq_true rfl, Nat.le_of_ble_eq_true rfl⟩) hS (fun q _ h => hFc q h) hFc (fun u9 t H1 locs ht hvm hr9 hB hz1 hk1 hS => ?_)
        obtain ⟨hP1, hK1, hD1⟩ := hB
        rw [ht] at hP1
        obtain ⟨hP, hD⟩ := xjoin (W := [(a0, .inr (0, [.ref a1, .ref a3, .ref a5, .ref a7, .ref a8, .ref a13, .int v19, .int v20])), (a1, .inr (1, [.ref a2, .int v1, .int v2])), (a2, .inl (cT 0, 4096, .inl f0)), (a3, .inr (1, [.ref a4, .int v4, .int v5])), (a4, .inl (cT 0, 4096, .inl f3)), (a5, .inr (1, [.ref a6, .int v7, .int v8])), (a6, .inl (cT 0, 4096, .inl f6)), (a7, .inl (cT 3, 8, .inr (.inr (.inr (.inr rf0))))), (a8, .inr (3, [.ref a9, .ref a10, .ref p11, .ref p13, .int v15])), (a9, .inl (cT 1, 2048, .inl f9)), (a10, .inl (cT 1, 2048, .inl f10)), (p11, .inl (cT 1, 2048, .inl f12)), (p13, .inl (cT 1, 2048, .inl f14)), (a13, .inr (2, [.ref a14, .int v17, .int v18])), (a14, .inl (cT 2, 4096, .inr (.inl f16))), (a15, .inr (2, [.ref a16, .int v22, .int v23])), (a16, .inl (cT 2, 4096, .inr (.inl f21))), (a17, .inr (2, [.ref a18, .int v25, .int v26])), (a18, .inl (cT 2, 4096, .inr (.inl f24)))]) hP hD [] [0, 1, 2, 3, 4, 5, 6, 7, 8, 9, 10, 11, 12, 13, 14, 15, 16, 17, 18] 19 rfl rfl (by decide) (by decide) hk1 hFc hP1 hD1
        generalize H1 = H at hP hS ⊢
        refine lv_aload_n hx hb dB_binary_38 rfl (lv_at hl 0 rfl) ?_
        refine va_get (D := D) (ci := 0) (v := .ref a13) (C := "ValueBench") (T := TB) (N := 8) hx hb htx inB hown hK hP 0 rfl rfl 5 (by decide) (htx _ kw_1_100) (fun _ h9 => h9) rfl dB_binary_39 ?_
        obtain ⟨o10, hq11, hf⟩ := xbind hf
        obtain ⟨hPc, hDc, hFc⟩ := xcut (wc := [(a13, .inr (2, [.ref a14, .int v17, .int v18])), (a14, .inl (cT 2, 4096, .inr (.inl f16)))]) hP hD hS hA [13, 14] rfl rfl (by decide)
        refine va_callv (va_runV (C := "ValueBench$Row") (As := []) (rest := []) ⟨hx, hb, hml, hown, htx⟩ (gR_clear l hl9 D cT aK aV H.size n a13 a14 f16 v17 v18 o10 hq11) ⟨callB_of 0 htx (xw_goodC kw_2_22) rfl rfl rfl (htx _ kw_1_4) (htx _ kw_2_19) ⟨by decide, by decide, by decide +kernel⟩ ⟨Nat.le_of_ble_eq_true rfl, Nat.le_of_ble_eq_true rfl⟩, (htx _ kw_2_20), (htx _ kw_2_21)⟩ ⟨xPre_blind, va_recv hK hP (ci := 2) rfl (q0 := 13) rfl, (fun U hU hW => ⟨rfl, xPre_of hZ hS hFc hPc hDc hK U hU hW⟩)⟩ rfl rfl hl.1 rfl (lv_room (Nat.le_of_ble_eq_true rfl)) dB_binary_42 ⟨Nat.le_of_ble_eq_true rfl, Nat.le_of_ble_eq_true rfl⟩) hS (fun q _ h => hFc q h) hFc (fun u9 t H1 locs ht hvm hr9 hB hz1 hk1 hS => ?_)
        obtain ⟨hP1, hK1, hD1⟩ := hB
        rw [ht] at hP1
        obtain ⟨hP, hD⟩ := xjoin (W := [(a0, .inr (0, [.ref a1, .ref a3, .ref a5, .ref a7, .ref a8, .ref a13, .int v19, .int v20])), (a1, .inr (1, [.ref a2, .int v1, .int v2])), (a2, .inl (cT 0, 4096, .inl f0)), (a3, .inr (1, [.ref a4, .int v4, .int v5])), (a4, .inl (cT 0, 4096, .inl f3)), (a5, .inr (1, [.ref a6, .int v7, .int v8])), (a6, .inl (cT 0, 4096, .inl f6)), (a7, .inl (cT 3, 8, .inr (.inr (.inr (.inr rf0))))), (a8, .inr (3, [.ref a9, .ref a10, .ref p11, .ref p13, .int v15])), (a9, .inl (cT 1, 2048, .inl f9)), (a10, .inl (cT 1, 2048, .inl f10)), (p11, .inl (cT 1, 2048, .inl f12)), (p13, .inl (cT 1, 2048, .inl f14)), (a15, .inr (2, [.ref a16, .int v22, .int v23])), (a16, .inl (cT 2, 4096, .inr (.inl f21))), (a17, .inr (2, [.ref a18, .int v25, .int v26])), (a18, .inl (cT 2, 4096, .inr (.inl f24))), (a13, .inr (2, [.ref a14, .int o10.1, .int o10.2])), (a14, .inl (cT 2, 4096, .inr (.inl f16)))]) hP hD [13, 14] [0, 1, 2, 3, 4, 5, 6, 7, 8, 9, 10, 11, 12, 15, 16, 17, 18] 17 rfl rfl (by decide) (by decide) hk1 hFc hP1 hD1
        generalize H1 = H at hP hS ⊢
        refine lv_aload_n hx hb dB_binary_45 rfl (lv_at hl 0 rfl) ?_
        refine lv_iload_n hx hb dB_binary_46 rfl (lv_at hl 2 rfl) ?_
        refine lv_aload_n hx hb dB_binary_47 rfl (lv_at hl 0 rfl) ?_
        refine va_get (D := D) (ci := 0) (v := .ref a7) (C := "ValueBench") (T := TB) (N := 8) hx hb htx inB hown hK hP 0 rfl rfl 3 (by decide) (htx _ kw_1_98) (fun _ h9 => h9) rfl dB_binary_48 ?_
        refine lv_iload_n hx hb dB_binary_51 rfl (lv_at hl 3 rfl) ?_
        obtain ⟨hg12, hf⟩ := xifn hf
        refine va_aldq hx hb hK hP 7 3 rfl rfl hg12 dB_binary_52 ?_
        refine W.eq (g2 := F0 m 53 ls [va_rf (rf0 x3.toNatClampNeg), .int x2, .ref a0]) rfl ?_
        rw [hr3 hg12]
        refine W.eq (g2 := F0 m 53 ls [.ref a15, .int x2, .ref a0]) rfl ?_
        refine lv_aload_n hx hb dB_binary_53 rfl (lv_at hl 0 rfl) ?_
        refine va_get (D := D) (ci := 0) (v := .ref a7) (C := "ValueBench") (T := TB) (N := 8) hx hb htx inB hown hK hP 0 rfl rfl 3 (by decide) (htx _ kw_1_98) (fun _ h9 => h9) rfl dB_binary_54 ?_
        refine lv_iload hx hb dB_binary_57 (lv_at hl 4 rfl) ?_
        obtain ⟨hg13, hf⟩ := xifn hf
        refine va_aldq hx hb hK hP 7 3 rfl rfl hg13 dB_binary_59 ?_
        refine W.eq (g2 := F0 m 60 ls [va_rf (rf0 x4.toNatClampNeg), .ref a15, .int x2, .ref a0]) rfl ?_
        rw [hr4 hg13]
        refine W.eq (g2 := F0 m 60 ls [.ref a17, .ref a15, .int x2, .ref a0]) rfl ?_
        refine lv_aload_n hx hb dB_binary_60 rfl (lv_at hl 0 rfl) ?_
        refine va_get (D := D) (ci := 0) (v := .ref a13) (C := "ValueBench") (T := TB) (N := 8) hx hb htx inB hown hK hP 0 rfl rfl 5 (by decide) (htx _ kw_1_100) (fun _ h9 => h9) rfl dB_binary_61 ?_
        obtain ⟨o14, hq15, hf⟩ := xbind hf
        obtain ⟨hPc, hDc, hFc⟩ := xcut (wc := [(a15, .inr (2, [.ref a16, .int v22, .int v23])), (a16, .inl (cT 2, 4096, .inr (.inl f21))), (a17, .inr (2, [.ref a18, .int v25, .int v26])), (a18, .inl (cT 2, 4096, .inr (.inl f24))), (a13, .inr (2, [.ref a14, .int o10.1, .int o10.2])), (a14, .inl (cT 2, 4096, .inr (.inl f16)))]) hP hD hS hA [13, 14, 15, 16, 17, 18] rfl rfl (by decide)
        refine va_calli (va_runS (As := [.int x2, .ref a15, .ref a17, .ref a13]) (rest := [.ref a0]) ⟨hx, hb, hml, hown, htx⟩ (gA_apply l hl9 D cT aK aV H.size d n a15 a16 a17 a18 a13 a14 x2 f21 v22 v23 f24 v25 v26 f16 o10.1 o10.2 o14 hq15) ⟨callB_of 4 htx (xw_goodC kw_3_105) rfl rfl rfl (htx _ kw_1_21) (htx _ kw_3_103) ⟨by decide, by decide, by decide +kernel⟩ ⟨(by show (16 * d + 5) + 1 ≤ 16 * d + 7; omega), (by show 8 + (4 + 11) + (400 * d + 157) ≤ 400 * d + 180; omega)⟩, htx _ kw_3_104⟩ ⟨xPre_blind, (fun U hU hW => ⟨rfl, xPre_of hZ hS hFc hPc hDc hK U hU hW⟩)⟩ rfl rfl hl.1 rfl (lv_room (Nat.le_of_ble_eq_true rfl)) dB_binary_64 ⟨Nat.le_of_ble_eq_true rfl, Nat.le_of_ble_eq_true rfl⟩) hS (fun q _ h => hFc q h) hFc (fun r16 u9 t H1 locs ht hvm hr9 hB hz1 hk1 hS => ?_)
        obtain ⟨hP1, hK1, hD1⟩ := hB
        rw [ht] at hP1
        obtain ⟨hP, hD⟩ := xjoin (W := [(a0, .inr (0, [.ref a1, .ref a3, .ref a5, .ref a7, .ref a8, .ref a13, .int v19, .int v20])), (a1, .inr (1, [.ref a2, .int v1, .int v2])), (a2, .inl (cT 0, 4096, .inl f0)), (a3, .inr (1, [.ref a4, .int v4, .int v5])), (a4, .inl (cT 0, 4096, .inl f3)), (a5, .inr (1, [.ref a6, .int v7, .int v8])), (a6, .inl (cT 0, 4096, .inl f6)), (a7, .inl (cT 3, 8, .inr (.inr (.inr (.inr rf0))))), (a8, .inr (3, [.ref a9, .ref a10, .ref p11, .ref p13, .int v15])), (a9, .inl (cT 1, 2048, .inl f9)), (a10, .inl (cT 1, 2048, .inl f10)), (p11, .inl (cT 1, 2048, .inl f12)), (p13, .inl (cT 1, 2048, .inl f14)), (a15, .inr (2, [.ref a16, .int v22, .int v23])), (a16, .inl (cT 2, 4096, .inr (.inl f21))), (a17, .inr (2, [.ref a18, .int v25, .int v26])), (a18, .inl (cT 2, 4096, .inr (.inl f24))), (a13, .inr (2, [.ref a14, .int o14.2.2.1, .int o14.2.2.2])), (a14, .inl (cT 2, 4096, .inr (.inl o14.2.1)))]) hP hD [13, 14, 15, 16, 17, 18] [0, 1, 2, 3, 4, 5, 6, 7, 8, 9, 10, 11, 12] 13 rfl rfl (by decide) (by decide) hk1 hFc hP1 hD1
        generalize H1 = H at hP hS ⊢
        rw [hr9]
        refine W.eq (g2 := F0 m 67 ls [.int o14.1, .ref a0]) rfl ?_
        obtain ⟨o17, hq18, hf⟩ := xbind hf
        by_cases hk19 : o17.1 = 0
        · rw [if_pos hk19] at hf
          obtain ⟨hPc, hDc, hFc⟩ := xcut (wc := [(a0, .inr (0, [.ref a1, .ref a3, .ref a5, .ref a7, .ref a8, .ref a13, .int v19, .int v20])), (a1, .inr (1, [.ref a2, .int v1, .int v2])), (a2, .inl (cT 0, 4096, .inl f0)), (a3, .inr (1, [.ref a4, .int v4, .int v5])), (a4, .inl (cT 0, 4096, .inl f3)), (a5, .inr (1, [.ref a6, .int v7, .int v8])), (a6, .inl (cT 0, 4096, .inl f6)), (a7, .inl (cT 3, 8, .inr (.inr (.inr (.inr rf0))))), (a8, .inr (3, [.ref a9, .ref a10, .ref p11, .ref p13, .int v15])), (a9, .inl (cT 1, 2048, .inl f9)), (a10, .inl (cT 1, 2048, .inl f10)), (p11, .inl (cT 1, 2048, .inl f12)), (p13, .inl (cT 1, 2048, .inl f14)), (a13, .inr (2, [.ref a14, .int o14.2.2.1, .int o14.2.2.2])), (a14, .inl (cT 2, 4096, .inr (.inl o14.2.1)))]) hP hD hS hA [0, 1, 2, 3, 4, 5, 6, 7, 8, 9, 10, 11, 12, 17, 18] rfl rfl (by decide)
          refine va_callv (va_runV (C := "ValueBench") (As := [.int o14.1]) (rest := []) ⟨hx, hb, hml, hown, htx⟩ (gB_demandDone l hl9 D cT aK aV H.size n a0 a1 a2 a3 a4 a5 a6 a7 a8 a9 a10 a13 a14 rf0 o14.1 f0 v1 v2 f3 v4 v5 f6 v7 v8 f9 f10 p11 f12 p13 f14 v15 o14.2.1 o14.2.2.1 o14.2.2.2 v19 v20 o17 hq18 hk19) ⟨callB_of 1 htx (xw_goodC kw_3_222) rfl rfl rfl (htx _ kw_1_1) (htx _ kw_3_219) ⟨by decide, by decide, by decide +kernel⟩ ⟨Nat.le_of_ble_eq_true rfl, Nat.le_of_ble_eq_true rfl⟩, (htx _ kw_3_221), (htx _ kp_B_demandDone)⟩ ⟨xPre_blind, va_recv hK hP (ci := 0) rfl (q0 := 0) rfl, (fun U hU hW => ⟨rfl, xPre_of hZ hS hFc hPc hDc hK U hU hW⟩)⟩ rfl rfl hl.1 rfl (lv_room (Nat.le_of_ble_eq_true rfl)) dB_binary_67 ⟨Nat.le_of_ble_eq_true rfl, Nat.le_of_ble_eq_true rfl⟩) hS (fun q _ h => hFc q h) hFc (fun u9 t H1 locs ht hvm hr9 hB hz1 hk1 hS => ?_)
          obtain ⟨hP1, hK1, hD1⟩ := hB
          rw [ht] at hP1
          obtain ⟨hP, hD⟩ := xjoin (W := [(a15, .inr (2, [.ref a16, .int v22, .int v23])), (a16, .inl (cT 2, 4096, .inr (.inl f21))), (a17, .inr (2, [.ref a18, .int v25, .int v26])), (a18, .inl (cT 2, 4096, .inr (.inl f24))), (a0, .inr (0, [.ref a1, .ref a3, .ref a5, .ref a7, .ref a8, .ref a13, .int v19, .int o17.2])), (a1, .inr (1, [.ref a2, .int v1, .int v2])), (a2, .inl (cT 0, 4096, .inl f0)), (a3, .inr (1, [.ref a4, .int v4, .int v5])), (a4, .inl (cT 0, 4096, .inl f3)), (a5, .inr (1, [.ref a6, .int v7, .int v8])), (a6, .inl (cT 0, 4096, .inl f6)), (a7, .inl (cT 3, 8, .inr (.inr (.inr (.inr rf0))))), (a8, .inr (3, [.ref a9, .ref a10, .ref p11, .ref p13, .int v15])), (a9, .inl (cT 1, 2048, .inl f9)), (a10, .inl (cT 1, 2048, .inl f10)), (p11, .inl (cT 1, 2048, .inl f12)), (p13, .inl (cT 1, 2048, .inl f14)), (a13, .inr (2, [.ref a14, .int o14.2.2.1, .int o14.2.2.2])), (a14, .inl (cT 2, 4096, .inr (.inl o14.2.1)))]) hP hD [0, 1, 2, 3, 4, 5, 6, 7, 8, 9, 10, 11, 12, 17, 18] [13, 14, 15, 16] 4 rfl rfl (by decide) (by decide) hk1 hFc hP1 hD1
          generalize H1 = H at hP hS ⊢
          refine lv_aload_n hx hb dB_binary_70 rfl (lv_at hl 0 rfl) ?_
          refine lv_iload_n hx hb dB_binary_71 rfl (lv_at hl 1 rfl) ?_
          obtain ⟨o20, hq21, hf⟩ := xbind hf
          by_cases hk22 : o20.1 = 0
          · rw [if_pos hk22] at hf
            obtain ⟨hPc, hDc, hFc⟩ := xcut (wc := [(a0, .inr (0, [.ref a1, .ref a3, .ref a5, .ref a7, .ref a8, .ref a13, .int v19, .int o17.2])), (a1, .inr (1, [.ref a2, .int v1, .int v2])), (a2, .inl (cT 0, 4096, .inl f0)), (a3, .inr (1, [.ref a4, .int v4, .int v5])), (a4, .inl (cT 0, 4096, .inl f3)), (a5, .inr (1, [.ref a6, .int v7, .int v8])), (a6, .inl (cT 0, 4096, .inl f6)), (a7, .inl (cT 3, 8, .inr (.inr (.inr (.inr rf0))))), (a8, .inr (3, [.ref a9, .ref a10, .ref p11, .ref p13, .int v15])), (a9, .inl (cT 1, 2048, .inl f9)), (a10, .inl (cT 1, 2048, .inl f10)), (p11, .inl (cT 1, 2048, .inl f12)), (p13, .inl (cT 1, 2048, .inl f14)), (a13, .inr (2, [.ref a14, .int o14.2.2.1, .int o14.2.2.2])), (a14, .inl (cT 2, 4096, .inr (.inl o14.2.1)))]) hP hD hS hA [4, 5, 6, 7, 8, 9, 10, 11, 12, 13, 14, 15, 16, 17, 18] rfl rfl (by decide)
            refine va_calli (va_runV (C := "ValueBench") (As := [.int x1]) (rest := []) ⟨hx, hb, hml, hown, htx⟩ (gB_keepSpare l hl9 D cT aK aV H.size d n a0 a1 a2 a3 a4 a5 a6 a7 a8 a9 a10 a13 a14 rf0 b1 x1 f0 v1 v2 f3 v4 v5 f6 v7 v8 f9 f10 p11 f12 p13 f14 v15 o14.2.1 o14.2.2.1 o14.2.2.2 v19 o17.2 hr1 o20 hq21 hk22) ⟨callB_of 1 htx (xw_goodC kw_3_17) rfl rfl rfl (htx _ kw_1_1) (htx _ kw_3_14) ⟨by decide, by decide, by decide +kernel⟩ ⟨(by show (16 * d + 6) + 1 ≤ 16 * d + 7; omega), (by show 8 + (3 + 11) + (400 * d + 100) ≤ 400 * d + 180; omega)⟩, (htx _ kw_3_16), (htx _ kp_B_keepSpare)⟩ ⟨xPre_blind, va_recv hK hP (ci := 0) rfl (q0 := 4) rfl, (fun U hU hW => ⟨rfl, xPre_of hZ hS hFc hPc hDc hK U hU hW⟩)⟩ rfl rfl hl.1 rfl (lv_room (Nat.le_of_ble_eq_true rfl)) dB_binary_72 ⟨Nat.le_of_ble_eq_true rfl, Nat.le_of_ble_eq_true rfl⟩) hS (fun q _ h => hFc q h) hFc (fun r23 u9 t H1 locs ht hvm hr9 hB hz1 hk1 hS => ?_)
            obtain ⟨hP1, hK1, hD1⟩ := hB
            rw [ht] at hP1
            obtain ⟨hP, hD⟩ := xjoin (W := [(a15, .inr (2, [.ref a16, .int v22, .int v23])), (a16, .inl (cT 2, 4096, .inr (.inl f21))), (a17, .inr (2, [.ref a18, .int v25, .int v26])), (a18, .inl (cT 2, 4096, .inr (.inl f24))), (a0, .inr (0, [.ref a1, .ref a3, .ref a5, .ref a7, .ref a8, .ref b1, .int v19, .int o17.2])), (a1, .inr (1, [.ref a2, .int v1, .int v2])), (a2, .inl (cT 0, 4096, .inl f0)), (a3, .inr (1, [.ref a4, .int v4, .int v5])), (a4, .inl (cT 0, 4096, .inl f3)), (a5, .inr (1, [.ref a6, .int o20.2.2.2.1, .int o20.2.2.2.2])), (a6, .inl (cT 0, 4096, .inl o20.2.2.1)), (a7, .inl (cT 3, 8, .inr (.inr (.inr (.inr (va_up rf0 x1.toNatClampNeg (some a13))))))), (a8, .inr (3, [.ref a9, .ref a10, .ref p11, .ref p13, .int v15])), (a9, .inl (cT 1, 2048, .inl f9)), (a10, .inl (cT 1, 2048, .inl f10)), (p11, .inl (cT 1, 2048, .inl f12)), (p13, .inl (cT 1, 2048, .inl f14)), (a13, .inr (2, [.ref a14, .int o14.2.2.1, .int o14.2.2.2])), (a14, .inl (cT 2, 4096, .inr (.inl o14.2.1)))]) hP hD [4, 5, 6, 7, 8, 9, 10, 11, 12, 13, 14, 15, 16, 17, 18] [0, 1, 2, 3] 4 rfl rfl (by decide) (by decide) hk1 hFc hP1 hD1
            generalize H1 = H at hP hS ⊢
            rw [hr9]
            refine W.eq (g2 := F0 m 75 ls [.int o20.2.1]) rfl ?_
            refine lv_pop hx hb dB_binary_75 rfl ?_
            obtain rfl := Option.some.inj hf
            exact absurd (show (0 : Nat) = 3 from hkd) (by decide)
          rw [if_neg hk22] at hf
          by_cases hk24 : o20.1 = 1
          · rw [if_pos hk24] at hf
            obtain rfl := Option.some.inj hf
            exact absurd (show (1 : Nat) = 3 from hkd) (by decide)
          rw [if_neg hk24] at hf
          exact nomatch hf
        rw [if_neg hk19] at hf
        by_cases hk26 : o17.1 = 1
        · rw [if_pos hk26] at hf
          obtain rfl := Option.some.inj hf
          exact absurd (show (2 : Nat) = 3 from hkd) (by decide)
        rw [if_neg hk26] at hf
        exact nomatch hf
      rw [if_neg hk9] at hf
      by_cases hk27 : o7 = 1
      · rw [if_pos hk27] at hf
        obtain ⟨hPc, hDc, hFc⟩ := xcut (wc := []) hP hD hS hA [] rfl rfl (by decide)
        refine xx_thr (vx_runS (As := [.int 0]) (rest := []) ⟨hx, hb, hml, hown, htx⟩ (gB_demand_1 l hl9 D cT aK aV H.size n (0 : Int32) o7 hq8 hk27) ⟨callB_of 1 htx (xw_goodC kw_1_221) rfl rfl rfl (htx _ kw_1_1) (htx _ kw_1_219) ⟨by decide, by decide, by decide +kernel⟩ ⟨Nat.le_of_ble_eq_true rfl, Nat.le_of_ble_eq_true rfl⟩, htx _ kw_1_220⟩ ⟨xPre_blind, (fun U hU hW => ⟨rfl, xPre_of hZ hS hFc hPc hDc hK U hU hW⟩)⟩ rfl rfl hl.1 rfl (lv_room (Nat.le_of_ble_eq_true rfl)) dB_binary_35 ⟨Nat.le_of_ble_eq_true rfl, Nat.le_of_ble_eq_true rfl⟩) hS hFc (fun q _ h => hFc q h) (fun E ce q9 u9 t H1 locs ht hvm _ hB hz1 hk1 hS hce hcv hcl => ?_)
        obtain ⟨rfl, hP1, hK1, hD1⟩ := hB
        rw [ht] at hP1
        obtain ⟨hP, hD⟩ := xjoin (W := [(a0, .inr (0, [.ref a1, .ref a3, .ref a5, .ref a7, .ref a8, .ref a13, .int v19, .int v20])), (a1, .inr (1, [.ref a2, .int v1, .int v2])), (a2, .inl (cT 0, 4096, .inl f0)), (a3, .inr (1, [.ref a4, .int v4, .int v5])), (a4, .inl (cT 0, 4096, .inl f3)), (a5, .inr (1, [.ref a6, .int v7, .int v8])), (a6, .inl (cT 0, 4096, .inl f6)), (a7, .inl (cT 3, 8, .inr (.inr (.inr (.inr rf0))))), (a8, .inr (3, [.ref a9, .ref a10, .ref p11, .ref p13, .int v15])), (a9, .inl (cT 1, 2048, .inl f9)), (a10, .inl (cT 1, 2048, .inl f10)), (p11, .inl (cT 1, 2048, .inl f12)), (p13, .inl (cT 1, 2048, .inl f14)), (a13, .inr (2, [.ref a14, .int v17, .int v18])), (a14, .inl (cT 2, 4096, .inr (.inl f16))), (a15, .inr (2, [.ref a16, .int v22, .int v23])), (a16, .inl (cT 2, 4096, .inr (.inl f21))), (a17, .inr (2, [.ref a18, .int v25, .int v26])), (a18, .inl (cT 2, 4096, .inr (.inl f24)))]) hP hD [] [0, 1, 2, 3, 4, 5, 6, 7, 8, 9, 10, 11, 12, 13, 14, 15, 16, 17, 18] 19 rfl rfl (by decide) (by decide) hk1 hFc hP1 hD1
        generalize H1 = H at hP hS hce ⊢
        obtain rfl := Option.some.inj hf
        obtain ⟨hP9, hD9⟩ := xsub (wc := [(a0, .inr (0, [.ref a1, .ref a3, .ref a5, .ref a7, .ref a8, .ref a13, .int v19, .int v20])), (a1, .inr (1, [.ref a2, .int v1, .int v2])), (a2, .inl (cT 0, 4096, .inl f0)), (a3, .inr (1, [.ref a4, .int v4, .int v5])), (a4, .inl (cT 0, 4096, .inl f3)), (a5, .inr (1, [.ref a6, .int v7, .int v8])), (a6, .inl (cT 0, 4096, .inl f6)), (a7, .inl (cT 3, 8, .inr (.inr (.inr (.inr rf0))))), (a8, .inr (3, [.ref a9, .ref a10, .ref p11, .ref p13, .int v15])), (a9, .inl (cT 1, 2048, .inl f9)), (a10, .inl (cT 1, 2048, .inl f10)), (p11, .inl (cT 1, 2048, .inl f12)), (p13, .inl (cT 1, 2048, .inl f14)), (a13, .inr (2, [.ref a14, .int v17, .int v18])), (a14, .inl (cT 2, 4096, .inr (.inl f16))), (a15, .inr (2, [.ref a16, .int v22, .int v23])), (a16, .inl (cT 2, 4096, .inr (.inl f21))), (a17, .inr (2, [.ref a18, .int v25, .int v26])), (a18, .inl (cT 2, 4096, .inr (.inl f24)))]) hP hD [0, 1, 2, 3, 4, 5, 6, 7, 8, 9, 10, 11, 12, 13, 14, 15, 16, 17, 18] rfl rfl (by decide)
        exact vx_out (E := "java/lang/IllegalArgumentException") (fun x h => (hne x h).elim) hlocks hce hcv hcl (fun t ht ha => ⟨(), trivial, ⟨rfl, by rw [ht]; exact hP9, va_K.moved ha hK, hD9⟩, hS.F ht⟩) hS.2.2 (Nat.le_of_ble_eq_true rfl) (Nat.le_of_ble_eq_true rfl)
      rw [if_neg hk27] at hf
      exact nomatch hf
    · rw [if_neg hc] at hf
      refine lv_iload_n hx hb dB_binary_15 rfl (lv_at hl 3 rfl) ?_
      obtain ⟨o7, hq8, hf⟩ := xbind hf
      obtain ⟨hPc, hDc, hFc⟩ := xcut (wc := []) hP hD hS hA [] rfl rfl (by decide)
      refine va_calli (va_runS (As := [.int x3]) (rest := []) ⟨hx, hb, hml, hown, htx⟩ (gB_isRegister l hl9 D cT aK aV H.size n x3 o7 hq8) ⟨callB_of 1 htx (xw_goodC kw_2_18) rfl rfl rfl (htx _ kw_1_1) (htx _ kw_2_16) ⟨by decide, by decide, by decide +kernel⟩ ⟨Nat.le_of_ble_eq_true rfl, Nat.le_of_ble_eq_true rfl⟩, htx _ kw_2_17⟩ ⟨xPre_blind, (fun U hU hW => ⟨rfl, xPre_of hZ hS hFc hPc hDc hK U hU hW⟩)⟩ rfl rfl hl.1 rfl (lv_room (Nat.le_of_ble_eq_true rfl)) dB_binary_16 ⟨Nat.le_of_ble_eq_true rfl, Nat.le_of_ble_eq_true rfl⟩) hS (fun q _ h => hFc q h) hFc (fun r9 u9 t H1 locs ht hvm hr9 hB hz1 hk1 hS => ?_)
      obtain ⟨hP1, hK1, hD1⟩ := hB
      rw [ht] at hP1
      obtain ⟨hP, hD⟩ := xjoin (W := [(a0, .inr (0, [.ref a1, .ref a3, .ref a5, .ref a7, .ref a8, .ref a13, .int v19, .int v20])), (a1, .inr (1, [.ref a2, .int v1, .int v2])), (a2, .inl (cT 0, 4096, .inl f0)), (a3, .inr (1, [.ref a4, .int v4, .int v5])), (a4, .inl (cT 0, 4096, .inl f3)), (a5, .inr (1, [.ref a6, .int v7, .int v8])), (a6, .inl (cT 0, 4096, .inl f6)), (a7, .inl (cT 3, 8, .inr (.inr (.inr (.inr rf0))))), (a8, .inr (3, [.ref a9, .ref a10, .ref p11, .ref p13, .int v15])), (a9, .inl (cT 1, 2048, .inl f9)), (a10, .inl (cT 1, 2048, .inl f10)), (p11, .inl (cT 1, 2048, .inl f12)), (p13, .inl (cT 1, 2048, .inl f14)), (a13, .inr (2, [.ref a14, .int v17, .int v18])), (a14, .inl (cT 2, 4096, .inr (.inl f16))), (a15, .inr (2, [.ref a16, .int v22, .int v23])), (a16, .inl (cT 2, 4096, .inr (.inl f21))), (a17, .inr (2, [.ref a18, .int v25, .int v26])), (a18, .inl (cT 2, 4096, .inr (.inl f24)))]) hP hD [] [0, 1, 2, 3, 4, 5, 6, 7, 8, 9, 10, 11, 12, 13, 14, 15, 16, 17, 18] 19 rfl rfl (by decide) (by decide) hk1 hFc hP1 hD1
      generalize H1 = H at hP hS ⊢
      rw [hr9]
      refine W.eq (g2 := F0 m 19 ls [.int o7]) rfl ?_
      refine lv_if_eq (tgt := 34) hx hb dB_binary_19 (by decide) (fun hc => ?_) (fun hc => ?_)
      · rw [if_pos hc] at hf
        refine lv_iconst (v := 0) hx hb dB_binary_34 (by decide) ?_
        obtain ⟨o10, hq11, hf⟩ := xbind hf
        by_cases hk12 : o10 = 0
        · rw [if_pos hk12] at hf
          obtain ⟨hPc, hDc, hFc⟩ := xcut (wc := []) hP hD hS hA [] rfl rfl (by decide)
          refine va_callv (va_runS (As := [.int 0]) (rest := []) ⟨hx, hb, hml, hown, htx⟩ (gB_demand l hl9 D cT aK aV H.size n (0 : Int32) o10 hq11 hk12) ⟨callB_of 1 htx (xw_goodC kw_1_221) rfl rfl rfl (htx _ kw_1_1) (htx _ kw_1_219) ⟨by decide, by decide, by decide +kernel⟩ ⟨Nat.le_of_ble_eq_true rfl, Nat.le_of_ble_eq_true rfl⟩, htx _ kw_1_220⟩ ⟨xPre_blind, (fun U hU hW => ⟨rfl, xPre_of hZ hS hFc hPc hDc hK U hU hW⟩)⟩ rfl rfl hl.1 rfl (lv_room (Nat.le_of_ble_eq_true rfl)) dB_binary_35 ⟨Nat.le_of_ble_eq_true rfl, Nat.le_of_ble_eq_true rfl⟩) hS (fun q _ h => hFc q h) hFc (fun u9 t H1 locs ht hvm hr9 hB hz1 hk1 hS => ?_)
          obtain ⟨hP1, hK1, hD1⟩ := hB
          rw [ht] at hP1
          obtain ⟨hP, hD⟩ := xjoin (W := [(a0, .inr (0, [.ref a1, .ref a3, .ref a5, .ref a7, .ref a8, .ref a13, .int v19, .int v20])), (a1, .inr (1, [.ref a2, .int v1, .int v2])), (a2, .inl (cT 0, 4096, .inl f0)), (a3, .inr (1, [.ref a4, .int v4, .int v5])), (a4, .inl (cT 0, 4096, .inl f3)), (a5, .inr (1, [.ref a6, .int v7, .int v8])), (a6, .inl (cT 0, 4096, .inl f6)), (a7, .inl (cT 3, 8, .inr (.inr (.inr (.inr rf0))))), (a8, .inr (3, [.ref a9, .ref a10, .ref p11, .ref p13, .int v15])), (a9, .inl (cT 1, 2048, .inl f9)), (a10, .inl (cT 1, 2048, .inl f10)), (p11, .inl (cT 1, 2048, .inl f12)), (p13, .inl (cT 1, 2048, .inl f14)), (a13, .inr (2, [.ref a14, .int v17, .int v18])), (a14, .inl (cT 2, 4096, .inr (.inl f16))), (a15, .inr (2, [.ref a16, .int v22, .int v23])), (a16, .inl (cT 2, 4096, .inr (.inl f21))), (a17, .inr (2, [.ref a18, .int v25, .int v26])), (a18, .inl (cT 2, 4096, .inr (.inl f24)))]) hP hD [] [0, 1, 2, 3, 4, 5, 6, 7, 8, 9, 10, 11, 12, 13, 14, 15, 16, 17, 18] 19 rfl rfl (by decide) (by decide) hk1 hFc hP1 hD1
          generalize H1 = H at hP hS ⊢
          refine lv_aload_n hx hb dB_binary_38 rfl (lv_at hl 0 rfl) ?_
          refine va_get (D := D) (ci := 0) (v := .ref a13) (C := "ValueBench") (T := TB) (N := 8) hx hb htx inB hown hK hP 0 rfl rfl 5 (by decide) (htx _ kw_1_100) (fun _ h9 => h9) rfl dB_binary_39 ?_
          obtain ⟨o13, hq14, hf⟩ := xbind hf
          obtain ⟨hPc, hDc, hFc⟩ := xcut (wc := [(a13, .inr (2, [.ref a14, .int v17, .int v18])), (a14, .inl (cT 2, 4096, .inr (.inl f16)))]) hP hD hS hA [13, 14] rfl rfl (by decide)
          refine va_callv (va_runV (C := "ValueBench$Row") (As := []) (rest := []) ⟨hx, hb, hml, hown, htx⟩ (gR_clear l hl9 D cT aK aV H.size n a13 a14 f16 v17 v18 o13 hq14) ⟨callB_of 0 htx (xw_goodC kw_2_22) rfl rfl rfl (htx _ kw_1_4) (htx _ kw_2_19) ⟨by decide, by decide, by decide +kernel⟩ ⟨Nat.le_of_ble_eq_true rfl, Nat.le_of_ble_eq_true rfl⟩, (htx _ kw_2_20), (htx _ kw_2_21)⟩ ⟨xPre_blind, va_recv hK hP (ci := 2) rfl (q0 := 13) rfl, (fun U hU hW => ⟨rfl, xPre_of hZ hS hFc hPc hDc hK U hU hW⟩)⟩ rfl rfl hl.1 rfl (lv_room (Nat.le_of_ble_eq_true rfl)) dB_binary_42 ⟨Nat.le_of_ble_eq_true rfl, Nat.le_of_ble_eq_true rfl⟩) hS (fun q _ h => hFc q h) hFc (fun u9 t H1 locs ht hvm hr9 hB hz1 hk1 hS => ?_)
          obtain ⟨hP1, hK1, hD1⟩ := hB
          rw [ht] at hP1
          obtain ⟨hP, hD⟩ := xjoin (W := [(a0, .inr (0, [.ref a1, .ref a3, .ref a5, .ref a7, .ref a8, .ref a13, .int v19, .int v20])), (a1, .inr (1, [.ref a2, .int v1, .int v2])), (a2, .inl (cT 0, 4096, .inl f0)), (a3, .inr (1, [.ref a4, .int v4, .int v5])), (a4, .inl (cT 0, 4096, .inl f3)), (a5, .inr (1, [.ref a6, .int v7, .int v8])), (a6, .inl (cT 0, 4096, .inl f6)), (a7, .inl (cT 3, 8, .inr (.inr (.inr (.inr rf0))))), (a8, .inr (3, [.ref a9, .ref a10, .ref p11, .ref p13, .int v15])), (a9, .inl (cT 1, 2048, .inl f9)), (a10, .inl (cT 1, 2048, .inl f10)), (p11, .inl (cT 1, 2048, .inl f12)), (p13, .inl (cT 1, 2048, .inl f14)), (a15, .inr (2, [.ref a16, .int v22, .int v23])), (a16, .inl (cT 2, 4096, .inr (.inl f21))), (a17, .inr (2, [.ref a18, .int v25, .int v26])), (a18, .inl (cT 2, 4096, .inr (.inl f24))), (a13, .inr (2, [.ref a14, .int o13.1, .int o13.2])), (a14, .inl (cT 2, 4096, .inr (.inl f16)))]) hP hD [13, 14] [0, 1, 2, 3, 4, 5, 6, 7, 8, 9, 10, 11, 12, 15, 16, 17, 18] 17 rfl rfl (by decide) (by decide) hk1 hFc hP1 hD1
          generalize H1 = H at hP hS ⊢
          refine lv_aload_n hx hb dB_binary_45 rfl (lv_at hl 0 rfl) ?_
          refine lv_iload_n hx hb dB_binary_46 rfl (lv_at hl 2 rfl) ?_
          refine lv_aload_n hx hb dB_binary_47 rfl (lv_at hl 0 rfl) ?_
          refine va_get (D := D) (ci := 0) (v := .ref a7) (C := "ValueBench") (T := TB) (N := 8) hx hb htx inB hown hK hP 0 rfl rfl 3 (by decide) (htx _ kw_1_98) (fun _ h9 => h9) rfl dB_binary_48 ?_
          refine lv_iload_n hx hb dB_binary_51 rfl (lv_at hl 3 rfl) ?_
          obtain ⟨hg15, hf⟩ := xifn hf
          refine va_aldq hx hb hK hP 7 3 rfl rfl hg15 dB_binary_52 ?_
          refine W.eq (g2 := F0 m 53 ls [va_rf (rf0 x3.toNatClampNeg), .int x2, .ref a0]) rfl ?_
          rw [hr3 hg15]
          refine W.eq (g2 := F0 m 53 ls [.ref a15, .int x2, .ref a0]) rfl ?_
          refine lv_aload_n hx hb dB_binary_53 rfl (lv_at hl 0 rfl) ?_
          refine va_get (D := D) (ci := 0) (v := .ref a7) (C := "ValueBench") (T := TB) (N := 8) hx hb htx inB hown hK hP 0 rfl rfl 3 (by decide) (htx _ kw_1_98) (fun _ h9 => h9) rfl dB_binary_54 ?_
          refine lv_iload hx hb dB_binary_57 (lv_at hl 4 rfl) ?_
          obtain ⟨hg16, hf⟩ := xifn hf
          refine va_aldq hx hb hK hP 7 3 rfl rfl hg16 dB_binary_59 ?_
          refine W.eq (g2 := F0 m 60 ls [va_rf (rf0 x4.toNatClampNeg), .ref a15, .int x2, .ref a0]) rfl ?_
          rw [hr4 hg16]
          refine W.eq (g2 := F0 m 60 ls [.ref a17, .ref a15, .int x2, .ref a0]) rfl ?_
          refine lv_aload_n hx hb dB_binary_60 rfl (lv_at hl 0 rfl) ?_
          refine va_get (D := D) (ci := 0) (v := .ref a13) (C := "ValueBench") (T := TB) (N := 8) hx hb htx inB hown hK hP 0 rfl rfl 5 (by decide) (htx _ kw_1_100) (fun _ h9 => h9) rfl dB_binary_61 ?_
          obtain ⟨o17, hq18, hf⟩ := xbind hf
          obtain ⟨hPc, hDc, hFc⟩ := xcut (wc := [(a15, .inr (2, [.ref a16, .int v22, .int v23])), (a16, .inl (cT 2, 4096, .inr (.inl f21))), (a17, .inr (2, [.ref a18, .int v25, .int v26])), (a18, .inl (cT 2, 4096, .inr (.inl f24))), (a13, .inr (2, [.ref a14, .int o13.1, .int o13.2])), (a14, .inl (cT 2, 4096, .inr (.inl f16)))]) hP hD hS hA [13, 14, 15, 16, 17, 18] rfl rfl (by decide)
          refine va_calli (va_runS (As := [.int x2, .ref a15, .ref a17, .ref a13]) (rest := [.ref a0]) ⟨hx, hb, hml, hown, htx⟩ (gA_apply l hl9 D cT aK aV H.size d n a15 a16 a17 a18 a13 a14 x2 f21 v22 v23 f24 v25 v26 f16 o13.1 o13.2 o17 hq18) ⟨callB_of 4 htx (xw_goodC kw_3_105) rfl rfl rfl (htx _ kw_1_21) (htx _ kw_3_103) ⟨by decide, by decide, by decide +kernel⟩ ⟨(by show (16 * d + 5) + 1 ≤ 16 * d + 7; omega), (by show 8 + (4 + 11) + (400 * d + 157) ≤ 400 * d + 180; omega)⟩, htx _ kw_3_104⟩ ⟨xPre_blind, (fun U hU hW => ⟨rfl, xPre_of hZ hS hFc hPc hDc hK U hU hW⟩)⟩ rfl rfl hl.1 rfl (lv_room (Nat.le_of_ble_eq_true rfl)) dB_binary_64 ⟨Nat.le_of_ble_eq_true rfl, Nat.le_of_ble_eq_true rfl⟩) hS (fun q _ h => hFc q h) hFc (fun r19 u9 t H1 locs ht hvm hr9 hB hz1 hk1 hS => ?_)
          obtain ⟨hP1, hK1, hD1⟩ := hB
          rw [ht] at hP1
          obtain ⟨hP, hD⟩ := xjoin (W := [(a0, .inr (0, [.ref a1, .ref a3, .ref a5, .ref a7, .ref a8, .ref a13, .int v19, .int v20])), (a1, .inr (1, [.ref a2, .int v1, .int v2])), (a2, .inl (cT 0, 4096, .inl f0)), (a3, .inr (1, [.ref a4, .int v4, .int v5])), (a4, .inl (cT 0, 4096, .inl f3)), (a5, .inr (1, [.ref a6, .int v7, .int v8])), (a6, .inl (cT 0, 4096, .inl f6)), (a7, .inl (cT 3, 8, .inr (.inr (.inr (.inr rf0))))), (a8, .inr (3, [.ref a9, .ref a10, .ref p11, .ref p13, .int v15])), (a9, .inl (cT 1, 2048, .inl f9)), (a10, .inl (cT 1, 2048, .inl f10)), (p11, .inl (cT 1, 2048, .inl f12)), (p13, .inl (cT 1, 2048, .inl f14)), (a15, .inr (2, [.ref a16, .int v22, .int v23])), (a16, .inl (cT 2, 4096, .inr (.inl f21))), (a17, .inr (2, [.ref a18, .int v25, .int v26])), (a18, .inl (cT 2, 4096, .inr (.inl f24))), (a13, .inr (2, [.ref a14, .int o17.2.2.1, .int o17.2.2.2])), (a14, .inl (cT 2, 4096, .inr (.inl o17.2.1)))]) hP hD [13, 14, 15, 16, 17, 18] [0, 1, 2, 3, 4, 5, 6, 7, 8, 9, 10, 11, 12] 13 rfl rfl (by decide) (by decide) hk1 hFc hP1 hD1
          generalize H1 = H at hP hS ⊢
          rw [hr9]
          refine W.eq (g2 := F0 m 67 ls [.int o17.1, .ref a0]) rfl ?_
          obtain ⟨o20, hq21, hf⟩ := xbind hf
          by_cases hk22 : o20.1 = 0
          · rw [if_pos hk22] at hf
            obtain ⟨hPc, hDc, hFc⟩ := xcut (wc := [(a0, .inr (0, [.ref a1, .ref a3, .ref a5, .ref a7, .ref a8, .ref a13, .int v19, .int v20])), (a1, .inr (1, [.ref a2, .int v1, .int v2])), (a2, .inl (cT 0, 4096, .inl f0)), (a3, .inr (1, [.ref a4, .int v4, .int v5])), (a4, .inl (cT 0, 4096, .inl f3)), (a5, .inr (1, [.ref a6, .int v7, .int v8])), (a6, .inl (cT 0, 4096, .inl f6)), (a7, .inl (cT 3, 8, .inr (.inr (.inr (.inr rf0))))), (a8, .inr (3, [.ref a9, .ref a10, .ref p11, .ref p13, .int v15])), (a9, .inl (cT 1, 2048, .inl f9)), (a10, .inl (cT 1, 2048, .inl f10)), (p11, .inl (cT 1, 2048, .inl f12)), (p13, .inl (cT 1, 2048, .inl f14)), (a13, .inr (2, [.ref a14, .int o17.2.2.1, .int o17.2.2.2])), (a14, .inl (cT 2, 4096, .inr (.inl o17.2.1)))]) hP hD hS hA [0, 1, 2, 3, 4, 5, 6, 7, 8, 9, 10, 11, 12, 17, 18] rfl rfl (by decide)
            refine va_callv (va_runV (C := "ValueBench") (As := [.int o17.1]) (rest := []) ⟨hx, hb, hml, hown, htx⟩ (gB_demandDone l hl9 D cT aK aV H.size n a0 a1 a2 a3 a4 a5 a6 a7 a8 a9 a10 a13 a14 rf0 o17.1 f0 v1 v2 f3 v4 v5 f6 v7 v8 f9 f10 p11 f12 p13 f14 v15 o17.2.1 o17.2.2.1 o17.2.2.2 v19 v20 o20 hq21 hk22) ⟨callB_of 1 htx (xw_goodC kw_3_222) rfl rfl rfl (htx _ kw_1_1) (htx _ kw_3_219) ⟨by decide, by decide, by decide +kernel⟩ ⟨Nat.le_of_ble_eq_true rfl, Nat.le_of_ble_eq_true rfl⟩, (htx _ kw_3_221), (htx _ kp_B_demandDone)⟩ ⟨xPre_blind, va_recv hK hP (ci := 0) rfl (q0 := 0) rfl, (fun U hU hW => ⟨rfl, xPre_of hZ hS hFc hPc hDc hK U hU hW⟩)⟩ rfl rfl hl.1 rfl (lv_room (Nat.le_of_ble_eq_true rfl)) dB_binary_67 ⟨Nat.le_of_ble_eq_true rfl, Nat.le_of_ble_eq_true rfl⟩) hS (fun q _ h => hFc q h) hFc (fun u9 t H1 locs ht hvm hr9 hB hz1 hk1 hS => ?_)
            obtain ⟨hP1, hK1, hD1⟩ := hB
            rw [ht] at hP1
            obtain ⟨hP, hD⟩ := xjoin (W := [(a15, .inr (2, [.ref a16, .int v22, .int v23])), (a16, .inl (cT 2, 4096, .inr (.inl f21))), (a17, .inr (2, [.ref a18, .int v25, .int v26])), (a18, .inl (cT 2, 4096, .inr (.inl f24))), (a0, .inr (0, [.ref a1, .ref a3, .ref a5, .ref a7, .ref a8, .ref a13, .int v19, .int o20.2])), (a1, .inr (1, [.ref a2, .int v1, .int v2])), (a2, .inl (cT 0, 4096, .inl f0)), (a3, .inr (1, [.ref a4, .int v4, .int v5])), (a4, .inl (cT 0, 4096, .inl f3)), (a5, .inr (1, [.ref a6, .int v7, .int v8])), (a6, .inl (cT 0, 4096, .inl f6)), (a7, .inl (cT 3, 8, .inr (.inr (.inr (.inr rf0))))), (a8, .inr (3, [.ref a9, .ref a10, .ref p11, .ref p13, .int v15])), (a9, .inl (cT 1, 2048, .inl f9)), (a10, .inl (cT 1, 2048, .inl f10)), (p11, .inl (cT 1, 2048, .inl f12)), (p13, .inl (cT 1, 2048, .inl f14)), (a13, .inr (2, [.ref a14, .int o17.2.2.1, .int o17.2.2.2])), (a14, .inl (cT 2, 4096, .inr (.inl o17.2.1)))]) hP hD [0, 1, 2, 3, 4, 5, 6, 7, 8, 9, 10, 11, 12, 17, 18] [13, 14, 15, 16] 4 rfl rfl (by decide) (by decide) hk1 hFc hP1 hD1
            generalize H1 = H at hP hS ⊢
            refine lv_aload_n hx hb dB_binary_70 rfl (lv_at hl 0 rfl) ?_
            refine lv_iload_n hx hb dB_binary_71 rfl (lv_at hl 1 rfl) ?_
            obtain ⟨o23, hq24, hf⟩ := xbind hf
            by_cases hk25 : o23.1 = 0
            · rw [if_pos hk25] at hf
              obtain ⟨hPc, hDc, hFc⟩ := xcut (wc := [(a0, .inr (0, [.ref a1, .ref a3, .ref a5, .ref a7, .ref a8, .ref a13, .int v19, .int o20.2])), (a1, .inr (1, [.ref a2, .int v1, .int v2])), (a2, .inl (cT 0, 4096, .inl f0)), (a3, .inr (1, [.ref a4, .int v4, .int v5])), (a4, .inl (cT 0, 4096, .inl f3)), (a5, .inr (1, [.ref a6, .int v7, .int v8])), (a6, .inl (cT 0, 4096, .inl f6)), (a7, .inl (cT 3, 8, .inr (.inr (.inr (.inr rf0))))), (a8, .inr (3, [.ref a9, .ref a10, .ref p11, .ref p13, .int v15])), (a9, .inl (cT 1, 2048, .inl f9)), (a10, .inl (cT 1, 2048, .inl f10)), (p11, .inl (cT 1, 2048, .inl f12)), (p13, .inl (cT 1, 2048, .inl f14)), (a13, .inr (2, [.ref a14, .int o17.2.2.1, .int o17.2.2.2])), (a14, .inl (cT 2, 4096, .inr (.inl o17.2.1)))]) hP hD hS hA [4, 5, 6, 7, 8, 9, 10, 11, 12, 13, 14, 15, 16, 17, 18] rfl rfl (by decide)
              refine va_calli (va_runV (C := "ValueBench") (As := [.int x1]) (rest := []) ⟨hx, hb, hml, hown, htx⟩ (gB_keepSpare l hl9 D cT aK aV H.size d n a0 a1 a2 a3 a4 a5 a6 a7 a8 a9 a10 a13 a14 rf0 b1 x1 f0 v1 v2 f3 v4 v5 f6 v7 v8 f9 f10 p11 f12 p13 f14 v15 o17.2.1 o17.2.2.1 o17.2.2.2 v19 o20.2 hr1 o23 hq24 hk25) ⟨callB_of 1 htx (xw_goodC kw_3_17) rfl rfl rfl (htx _ kw_1_1) (htx _ kw_3_14) ⟨by decide, by decide, by decide +kernel⟩ ⟨(by show (16 * d + 6) + 1 ≤ 16 * d + 7; omega), (by show 8 + (3 + 11) + (400 * d + 100) ≤ 400 * d + 180; omega)⟩, (htx _ kw_3_16), (htx _ kp_B_keepSpare)⟩ ⟨xPre_blind, va_recv hK hP (ci := 0) rfl (q0 := 4) rfl, (fun U hU hW => ⟨rfl, xPre_of hZ hS hFc hPc hDc hK U hU hW⟩)⟩ rfl rfl hl.1 rfl (lv_room (Nat.le_of_ble_eq_true rfl)) dB_binary_72 ⟨Nat.le_of_ble_eq_true rfl, Nat.le_of_ble_eq_true rfl⟩) hS (fun q _ h => hFc q h) hFc (fun r26 u9 t H1 locs ht hvm hr9 hB hz1 hk1 hS => ?_)
              obtain ⟨hP1, hK1, hD1⟩ := hB
              rw [ht] at hP1
              obtain ⟨hP, hD⟩ := xjoin (W := [(a15, .inr (2, [.ref a16, .int v22, .int v23])), (a16, .inl (cT 2, 4096, .inr (.inl f21))), (a17, .inr (2, [.ref a18, .int v25, .int v26])), (a18, .inl (cT 2, 4096, .inr (.inl f24))), (a0, .inr (0, [.ref a1, .ref a3, .ref a5, .ref a7, .ref a8, .ref b1, .int v19, .int o20.2])), (a1, .inr (1, [.ref a2, .int v1, .int v2])), (a2, .inl (cT 0, 4096, .inl f0)), (a3, .inr (1, [.ref a4, .int v4, .int v5])), (a4, .inl (cT 0, 4096, .inl f3)), (a5, .inr (1, [.ref a6, .int o23.2.2.2.1, .int o23.2.2.2.2])), (a6, .inl (cT 0, 4096, .inl o23.2.2.1)), (a7, .inl (cT 3, 8, .inr (.inr (.inr (.inr (va_up rf0 x1.toNatClampNeg (some a13))))))), (a8, .inr (3, [.ref a9, .ref a10, .ref p11, .ref p13, .int v15])), (a9, .inl (cT 1, 2048, .inl f9)), (a10, .inl (cT 1, 2048, .inl f10)), (p11, .inl (cT 1, 2048, .inl f12)), (p13, .inl (cT 1, 2048, .inl f14)), (a13, .inr (2, [.ref a14, .int o17.2.2.1, .int o17.2.2.2])), (a14, .inl (cT 2, 4096, .inr (.inl o17.2.1)))]) hP hD [4, 5, 6, 7, 8, 9, 10, 11, 12, 13, 14, 15, 16, 17, 18] [0, 1, 2, 3] 4 rfl rfl (by decide) (by decide) hk1 hFc hP1 hD1
              generalize H1 = H at hP hS ⊢
              rw [hr9]
              refine W.eq (g2 := F0 m 75 ls [.int o23.2.1]) rfl ?_
              refine lv_pop hx hb dB_binary_75 rfl ?_
              obtain rfl := Option.some.inj hf
              exact absurd (show (0 : Nat) = 3 from hkd) (by decide)
            rw [if_neg hk25] at hf
            by_cases hk27 : o23.1 = 1
            · rw [if_pos hk27] at hf
              obtain rfl := Option.some.inj hf
              exact absurd (show (1 : Nat) = 3 from hkd) (by decide)
            rw [if_neg hk27] at hf
            exact nomatch hf
          rw [if_neg hk22] at hf
          by_cases hk29 : o20.1 = 1
          · rw [if_pos hk29] at hf
            obtain rfl := Option.some.inj hf
            exact absurd (show (2 : Nat) = 3 from hkd) (by decide)
          rw [if_neg hk29] at hf
          exact nomatch hf
        rw [if_neg hk12] at hf
        by_cases hk30 : o10 = 1
        · rw [if_pos hk30] at hf
          obtain ⟨hPc, hDc, hFc⟩ := xcut (wc := []) hP hD hS hA [] rfl rfl (by decide)
          refine xx_thr (vx_runS (As := [.int 0]) (rest := []) ⟨hx, hb, hml, hown, htx⟩ (gB_demand_1 l hl9 D cT aK aV H.size n (0 : Int32) o10 hq11 hk30) ⟨callB_of 1 htx (xw_goodC kw_1_221) rfl rfl rfl (htx _ kw_1_1) (htx _ kw_1_219) ⟨by decide, by decide, by decide +kernel⟩ ⟨Nat.le_of_ble_eq_true rfl, Nat.le_of_ble_eq_true rfl⟩, htx _ kw_1_220⟩ ⟨xPre_blind, (fun U hU hW => ⟨rfl, xPre_of hZ hS hFc hPc hDc hK U hU hW⟩)⟩ rfl rfl hl.1 rfl (lv_room (Nat.le_of_ble_eq_true rfl)) dB_binary_35 ⟨Nat.le_of_ble_eq_true rfl, Nat.le_of_ble_eq_true rfl⟩) hS hFc (fun q _ h => hFc q h) (fun E ce q9 u9 t H1 locs ht hvm _ hB hz1 hk1 hS hce hcv hcl => ?_)
          obtain ⟨rfl, hP1, hK1, hD1⟩ := hB
          rw [ht] at hP1
          obtain ⟨hP, hD⟩ := xjoin (W := [(a0, .inr (0, [.ref a1, .ref a3, .ref a5, .ref a7, .ref a8, .ref a13, .int v19, .int v20])), (a1, .inr (1, [.ref a2, .int v1, .int v2])), (a2, .inl (cT 0, 4096, .inl f0)), (a3, .inr (1, [.ref a4, .int v4, .int v5])), (a4, .inl (cT 0, 4096, .inl f3)), (a5, .inr (1, [.ref a6, .int v7, .int v8])), (a6, .inl (cT 0, 4096, .inl f6)), (a7, .inl (cT 3, 8, .inr (.inr (.inr (.inr rf0))))), (a8, .inr (3, [.ref a9, .ref a10, .ref p11, .ref p13, .int v15])), (a9, .inl (cT 1, 2048, .inl f9)), (a10, .inl (cT 1, 2048, .inl f10)), (p11, .inl (cT 1, 2048, .inl f12)), (p13, .inl (cT 1, 2048, .inl f14)), (a13, .inr (2, [.ref a14, .int v17, .int v18])), (a14, .inl (cT 2, 4096, .inr (.inl f16))), (a15, .inr (2, [.ref a16, .int v22, .int v23])), (a16, .inl (cT 2, 4096, .inr (.inl f21))), (a17, .inr (2, [.ref a18, .int v25, .int v26])), (a18, .inl (cT 2, 4096, .inr (.inl f24)))]) hP hD [] [0, 1, 2, 3, 4, 5, 6, 7, 8, 9, 10, 11, 12, 13, 14, 15, 16, 17, 18] 19 rfl rfl (by decide) (by decide) hk1 hFc hP1 hD1
          generalize H1 = H at hP hS hce ⊢
          obtain rfl := Option.some.inj hf
          obtain ⟨hP9, hD9⟩ := xsub (wc := [(a0, .inr (0, [.ref a1, .ref a3, .ref a5, .ref a7, .ref a8, .ref a13, .int v19, .int v20])), (a1, .inr (1, [.ref a2, .int v1, .int v2])), (a2, .inl (cT 0, 4096, .inl f0)), (a3, .inr (1, [.ref a4, .int v4, .int v5])), (a4, .inl (cT 0, 4096, .inl f3)), (a5, .inr (1, [.ref a6, .int v7, .int v8])), (a6, .inl (cT 0, 4096, .inl f6)), (a7, .inl (cT 3, 8, .inr (.inr (.inr (.inr rf0))))), (a8, .inr (3, [.ref a9, .ref a10, .ref p11, .ref p13, .int v15])), (a9, .inl (cT 1, 2048, .inl f9)), (a10, .inl (cT 1, 2048, .inl f10)), (p11, .inl (cT 1, 2048, .inl f12)), (p13, .inl (cT 1, 2048, .inl f14)), (a13, .inr (2, [.ref a14, .int v17, .int v18])), (a14, .inl (cT 2, 4096, .inr (.inl f16))), (a15, .inr (2, [.ref a16, .int v22, .int v23])), (a16, .inl (cT 2, 4096, .inr (.inl f21))), (a17, .inr (2, [.ref a18, .int v25, .int v26])), (a18, .inl (cT 2, 4096, .inr (.inl f24)))]) hP hD [0, 1, 2, 3, 4, 5, 6, 7, 8, 9, 10, 11, 12, 13, 14, 15, 16, 17, 18] rfl rfl (by decide)
          exact vx_out (E := "java/lang/IllegalArgumentException") (fun x h => (hne x h).elim) hlocks hce hcv hcl (fun t ht ha => ⟨(), trivial, ⟨rfl, by rw [ht]; exact hP9, va_K.moved ha hK, hD9⟩, hS.F ht⟩) hS.2.2 (Nat.le_of_ble_eq_true rfl) (Nat.le_of_ble_eq_true rfl)
        rw [if_neg hk30] at hf
        exact nomatch hf
      · rw [if_neg hc] at hf
        refine lv_iload hx hb dB_binary_22 (lv_at hl 4 rfl) ?_
        obtain ⟨o10, hq11, hf⟩ := xbind hf
        obtain ⟨hPc, hDc, hFc⟩ := xcut (wc := []) hP hD hS hA [] rfl rfl (by decide)
        refine va_calli (va_runS (As := [.int x4]) (rest := []) ⟨hx, hb, hml, hown, htx⟩ (gB_isRegister l hl9 D cT aK aV H.size n x4 o10 hq11) ⟨callB_of 1 htx (xw_goodC kw_2_18) rfl rfl rfl (htx _ kw_1_1) (htx _ kw_2_16) ⟨by decide, by decide, by decide +kernel⟩ ⟨Nat.le_of_ble_eq_true rfl, Nat.le_of_ble_eq_true rfl⟩, htx _ kw_2_17⟩ ⟨xPre_blind, (fun U hU hW => ⟨rfl, xPre_of hZ hS hFc hPc hDc hK U hU hW⟩)⟩ rfl rfl hl.1 rfl (lv_room (Nat.le_of_ble_eq_true rfl)) dB_binary_24 ⟨Nat.le_of_ble_eq_true rfl, Nat.le_of_ble_eq_true rfl⟩) hS (fun q _ h => hFc q h) hFc (fun r12 u9 t H1 locs ht hvm hr9 hB hz1 hk1 hS => ?_)
        obtain ⟨hP1, hK1, hD1⟩ := hB
        rw [ht] at hP1
        obtain ⟨hP, hD⟩ := xjoin (W := [(a0, .inr (0, [.ref a1, .ref a3, .ref a5, .ref a7, .ref a8, .ref a13, .int v19, .int v20])), (a1, .inr (1, [.ref a2, .int v1, .int v2])), (a2, .inl (cT 0, 4096, .inl f0)), (a3, .inr (1, [.ref a4, .int v4, .int v5])), (a4, .inl (cT 0, 4096, .inl f3)), (a5, .inr (1, [.ref a6, .int v7, .int v8])), (a6, .inl (cT 0, 4096, .inl f6)), (a7, .inl (cT 3, 8, .inr (.inr (.inr (.inr rf0))))), (a8, .inr (3, [.ref a9, .ref a10, .ref p11, .ref p13, .int v15])), (a9, .inl (cT 1, 2048, .inl f9)), (a10, .inl (cT 1, 2048, .inl f10)), (p11, .inl (cT 1, 2048, .inl f12)), (p13, .inl (cT 1, 2048, .inl f14)), (a13, .inr (2, [.ref a14, .int v17, .int v18])), (a14, .inl (cT 2, 4096, .inr (.inl f16))), (a15, .inr (2, [.ref a16, .int v22, .int v23])), (a16, .inl (cT 2, 4096, .inr (.inl f21))), (a17, .inr (2, [.ref a18, .int v25, .int v26])), (a18, .inl (cT 2, 4096, .inr (.inl f24)))]) hP hD [] [0, 1, 2, 3, 4, 5, 6, 7, 8, 9, 10, 11, 12, 13, 14, 15, 16, 17, 18] 19 rfl rfl (by decide) (by decide) hk1 hFc hP1 hD1
        generalize H1 = H at hP hS ⊢
        rw [hr9]
        refine W.eq (g2 := F0 m 27 ls [.int o10]) rfl ?_
        refine lv_if_eq (tgt := 34) hx hb dB_binary_27 (by decide) (fun hc => ?_) (fun hc => ?_)
        · rw [if_pos hc] at hf
          refine lv_iconst (v := 0) hx hb dB_binary_34 (by decide) ?_
          obtain ⟨o13, hq14, hf⟩ := xbind hf
          by_cases hk15 : o13 = 0
          · rw [if_pos hk15] at hf
            obtain ⟨hPc, hDc, hFc⟩ := xcut (wc := []) hP hD hS hA [] rfl rfl (by decide)
            refine va_callv (va_runS (As := [.int 0]) (rest := []) ⟨hx, hb, hml, hown, htx⟩ (gB_demand l hl9 D cT aK aV H.size n (0 : Int32) o13 hq14 hk15) ⟨callB_of 1 htx (xw_goodC kw_1_221) rfl rfl rfl (htx _ kw_1_1) (htx _ kw_1_219) ⟨by decide, by decide, by decide +kernel⟩ ⟨Nat.le_of_ble_eq_true rfl, Nat.le_of_ble_eq_true rfl⟩, htx _ kw_1_220⟩ ⟨xPre_blind, (fun U hU hW => ⟨rfl, xPre_of hZ hS hFc hPc hDc hK U hU hW⟩)⟩ rfl rfl hl.1 rfl (lv_room (Nat.le_of_ble_eq_true rfl)) dB_binary_35 ⟨Nat.le_of_ble_eq_true rfl, Nat.le_of_ble_eq_true rfl⟩) hS (fun q _ h => hFc q h) hFc (fun u9 t H1 locs ht hvm hr9 hB hz1 hk1 hS => ?_)
            obtain ⟨hP1, hK1, hD1⟩ := hB
            rw [ht] at hP1
            obtain ⟨hP, hD⟩ := xjoin (W := [(a0, .inr (0, [.ref a1, .ref a3, .ref a5, .ref a7, .ref a8, .ref a13, .int v19, .int v20])), (a1, .inr (1, [.ref a2, .int v1, .int v2])), (a2, .inl (cT 0, 4096, .inl f0)), (a3, .inr (1, [.ref a4, .int v4, .int v5])), (a4, .inl (cT 0, 4096, .inl f3)), (a5, .inr (1, [.ref a6, .int v7, .int v8])), (a6, .inl (cT 0, 4096, .inl f6)), (a7, .inl (cT 3, 8, .inr (.inr (.inr (.inr rf0))))), (a8, .inr (3, [.ref a9, .ref a10, .ref p11, .ref p13, .int v15])), (a9, .inl (cT 1, 2048, .inl f9)), (a10, .inl (cT 1, 2048, .inl f10)), (p11, .inl (cT 1, 2048, .inl f12)), (p13, .inl (cT 1, 2048, .inl f14)), (a13, .inr (2, [.ref a14, .int v17, .int v18])), (a14, .inl (cT 2, 4096, .inr (.inl f16))), (a15, .inr (2, [.ref a16, .int v22, .int v23])), (a16, .inl (cT 2, 4096, .inr (.inl f21))), (a17, .inr (2, [.ref a18, .int v25, .int v26])), (a18, .inl (cT 2, 4096, .inr (.inl f24)))]) hP hD [] [0, 1, 2, 3, 4, 5, 6, 7, 8, 9, 10, 11, 12, 13, 14, 15, 16, 17, 18] 19 rfl rfl (by decide) (by decide) hk1 hFc hP1 hD1
            generalize H1 = H at hP hS ⊢
            refine lv_aload_n hx hb dB_binary_38 rfl (lv_at hl 0 rfl) ?_
            refine va_get (D := D) (ci := 0) (v := .ref a13) (C := "ValueBench") (T := TB) (N := 8) hx hb htx inB hown hK hP 0 rfl rfl 5 (by decide) (htx _ kw_1_100) (fun _ h9 => h9) rfl dB_binary_39 ?_
            obtain ⟨o16, hq17, hf⟩ := xbind hf
            obtain ⟨hPc, hDc, hFc⟩ := xcut (wc := [(a13, .inr (2, [.ref a14, .int v17, .int v18])), (a14, .inl (cT 2, 4096, .inr (.inl f16)))]) hP hD hS hA [13, 14] rfl rfl (by decide)
            refine va_callv (va_runV (C := "ValueBench$Row") (As := []) (rest := []) ⟨hx, hb, hml, hown, htx⟩ (gR_clear l hl9 D cT aK aV H.size n a13 a14 f16 v17 v18 o16 hq17) ⟨callB_of 0 htx (xw_goodC kw_2_22) rfl rfl rfl (htx _ kw_1_4) (htx _ kw_2_19) ⟨by decide, by decide, by decide +kernel⟩ ⟨Nat.le_of_ble_eq_true rfl, Nat.le_of_ble_eq_true rfl⟩, (htx _ kw_2_20), (htx _ kw_2_21)⟩ ⟨xPre_blind, va_recv hK hP (ci := 2) rfl (q0 := 13) rfl, (fun U hU hW => ⟨rfl, xPre_of hZ hS hFc hPc hDc hK U hU hW⟩)⟩ rfl rfl hl.1 rfl (lv_room (Nat.le_of_ble_eq_true rfl)) dB_binary_42 ⟨Nat.le_of_ble_eq_true rfl, Nat.le_of_ble_eq_true rfl⟩) hS (fun q _ h => hFc q h) hFc (fun u9 t H1 locs ht hvm hr9 hB hz1 hk1 hS => ?_)
            obtain ⟨hP1, hK1, hD1⟩ := hB
            rw [ht] at hP1
            obtain ⟨hP, hD⟩ := xjoin (W := [(a0, .inr (0, [.ref a1, .ref a3, .ref a5, .ref a7, .ref a8, .ref a13, .int v19, .int v20])), (a1, .inr (1, [.ref a2, .int v1, .int v2])), (a2, .inl (cT 0, 4096, .inl f0)), (a3, .inr (1, [.ref a4, .int v4, .int v5])), (a4, .inl (cT 0, 4096, .inl f3)), (a5, .inr (1, [.ref a6, .int v7, .int v8])), (a6, .inl (cT 0, 4096, .inl f6)), (a7, .inl (cT 3, 8, .inr (.inr (.inr (.inr rf0))))), (a8, .inr (3, [.ref a9, .ref a10, .ref p11, .ref p13, .int v15])), (a9, .inl (cT 1, 2048, .inl f9)), (a10, .inl (cT 1, 2048, .inl f10)), (p11, .inl (cT 1, 2048, .inl f12)), (p13, .inl (cT 1, 2048, .inl f14)), (a15, .inr (2, [.ref a16, .int v22, .int v23])), (a16, .inl (cT 2, 4096, .inr (.inl f21))), (a17, .inr (2, [.ref a18, .int v25, .int v26])), (a18, .inl (cT 2, 4096, .inr (.inl f24))), (a13, .inr (2, [.ref a14, .int o16.1, .int o16.2])), (a14, .inl (cT 2, 4096, .inr (.inl f16)))]) hP hD [13, 14] [0, 1, 2, 3, 4, 5, 6, 7, 8, 9, 10, 11, 12, 15, 16, 17, 18] 17 rfl rfl (by decide) (by decide) hk1 hFc hP1 hD1
            generalize H1 = H at hP hS ⊢
            refine lv_aload_n hx hb dB_binary_45 rfl (lv_at hl 0 rfl) ?_
            refine lv_iload_n hx hb dB_binary_46 rfl (lv_at hl 2 rfl) ?_
            refine lv_aload_n hx hb dB_binary_47 rfl (lv_at hl 0 rfl) ?_
            refine va_get (D := D) (ci := 0) (v := .ref a7) (C := "ValueBench") (T := TB) (N := 8) hx hb htx inB hown hK hP 0 rfl rfl 3 (by decide) (htx _ kw_1_98) (fun _ h9 => h9) rfl dB_binary_48 ?_
            refine lv_iload_n hx hb dB_binary_51 rfl (lv_at hl 3 rfl) ?_
            obtain ⟨hg18, hf⟩ := xifn hf
            refine va_aldq hx hb hK hP 7 3 rfl rfl hg18 dB_binary_52 ?_
            refine W.eq (g2 := F0 m 53 ls [va_rf (rf0 x3.toNatClampNeg), .int x2, .ref a0]) rfl ?_
            rw [hr3 hg18]
            refine W.eq (g2 := F0 m 53 ls [.ref a15, .int x2, .ref a0]) rfl ?_
            refine lv_aload_n hx hb dB_binary_53 rfl (lv_at hl 0 rfl) ?_
            refine va_get (D := D) (ci := 0) (v := .ref a7) (C := "ValueBench") (T := TB) (N := 8) hx hb htx inB hown hK hP 0 rfl rfl 3 (by decide) (htx _ kw_1_98) (fun _ h9 => h9) rfl dB_binary_54 ?_
            refine lv_iload hx hb dB_binary_57 (lv_at hl 4 rfl) ?_
            obtain ⟨hg19, hf⟩ := xifn hf
            refine va_aldq hx hb hK hP 7 3 rfl rfl hg19 dB_binary_59 ?_
            refine W.eq (g2 := F0 m 60 ls [va_rf (rf0 x4.toNatClampNeg), .ref a15, .int x2, .ref a0]) rfl ?_
            rw [hr4 hg19]
            refine W.eq (g2 := F0 m 60 ls [.ref a17, .ref a15, .int x2, .ref a0]) rfl ?_
            refine lv_aload_n hx hb dB_binary_60 rfl (lv_at hl 0 rfl) ?_
            refine va_get (D := D) (ci := 0) (v := .ref a13) (C := "ValueBench") (T := TB) (N := 8) hx hb htx inB hown hK hP 0 rfl rfl 5 (by decide) (htx _ kw_1_100) (fun _ h9 => h9) rfl dB_binary_61 ?_
            obtain ⟨o20, hq21, hf⟩ := xbind hf
            obtain ⟨hPc, hDc, hFc⟩ := xcut (wc := [(a15, .inr (2, [.ref a16, .int v22, .int v23])), (a16, .inl (cT 2, 4096, .inr (.inl f21))), (a17, .inr (2, [.ref a18, .int v25, .int v26])), (a18, .inl (cT 2, 4096, .inr (.inl f24))), (a13, .inr (2, [.ref a14, .int o16.1, .int o16.2])), (a14, .inl (cT 2, 4096, .inr (.inl f16)))]) hP hD hS hA [13, 14, 15, 16, 17, 18] rfl rfl (by decide)
            refine va_calli (va_runS (As := [.int x2, .ref a15, .ref a17, .ref a13]) (rest := [.ref a0]) ⟨hx, hb, hml, hown, htx⟩ (gA_apply l hl9 D cT aK aV H.size d n a15 a16 a17 a18 a13 a14 x2 f21 v22 v23 f24 v25 v26 f16 o16.1 o16.2 o20 hq21) ⟨callB_of 4 htx (xw_goodC kw_3_105) rfl rfl rfl (htx _ kw_1_21) (htx _ kw_3_103) ⟨by decide, by decide, by decide +kernel⟩ ⟨(by show (16 * d + 5) + 1 ≤ 16 * d + 7; omega), (by show 8 + (4 + 11) + (400 * d + 157) ≤ 400 * d + 180; omega)⟩, htx _ kw_3_104⟩ ⟨xPre_blind, (fun U hU hW => ⟨rfl, xPre_of hZ hS hFc hPc hDc hK U hU hW⟩)⟩ rfl rfl hl.1 rfl (lv_room (Nat.le_of_ble_eq_true rfl)) dB_binary_64 ⟨Nat.le_of_ble_eq_true rfl, Nat.le_of_ble_eq_true rfl⟩) hS (fun q _ h => hFc q h) hFc (fun r22 u9 t H1 locs ht hvm hr9 hB hz1 hk1 hS => ?_)
            obtain ⟨hP1, hK1, hD1⟩ := hB
            rw [ht] at hP1
            obtain ⟨hP, hD⟩ := xjoin (W := [(a0, .inr (0, [.ref a1, .ref a3, .ref a5, .ref a7, .ref a8, .ref a13, .int v19, .int v20])), (a1, .inr (1, [.ref a2, .int v1, .int v2])), (a2, .inl (cT 0, 4096, .inl f0)), (a3, .inr (1, [.ref a4, .int v4, .int v5])), (a4, .inl (cT 0, 4096, .inl f3)), (a5, .inr (1, [.ref a6, .int v7, .int v8])), (a6, .inl (cT 0, 4096, .inl f6)), (a7, .inl (cT 3, 8, .inr (.inr (.inr (.inr rf0))))), (a8, .inr (3, [.ref a9, .ref a10, .ref p11, .ref p13, .int v15])), (a9, .inl (cT 1, 2048, .inl f9)), (a10, .inl (cT 1, 2048, .inl f10)), (p11, .inl (cT 1, 2048, .inl f12)), (p13, .inl (cT 1, 2048, .inl f14)), (a15, .inr (2, [.ref a16, .int v22, .int v23])), (a16, .inl (cT 2, 4096, .inr (.inl f21))), (a17, .inr (2, [.ref a18, .int v25, .int v26])), (a18, .inl (cT 2, 4096, .inr (.inl f24))), (a13, .inr (2, [.ref a14, .int o20.2.2.1, .int o20.2.2.2])), (a14, .inl (cT 2, 4096, .inr (.inl o20.2.1)))]) hP hD [13, 14, 15, 16, 17, 18] [0, 1, 2, 3, 4, 5, 6, 7, 8, 9, 10, 11, 12] 13 rfl rfl (by decide) (by decide) hk1 hFc hP1 hD1
            generalize H1 = H at hP hS ⊢
            rw [hr9]
            refine W.eq (g2 := F0 m 67 ls [.int o20.1, .ref a0]) rfl ?_
            obtain ⟨o23, hq24, hf⟩ := xbind hf
            by_cases hk25 : o23.1 = 0
            · rw [if_pos hk25] at hf
              obtain ⟨hPc, hDc, hFc⟩ := xcut (wc := [(a0, .inr (0, [.ref a1, .ref a3, .ref a5, .ref a7, .ref a8, .ref a13, .int v19, .int v20])), (a1, .inr (1, [.ref a2, .int v1, .int v2])), (a2, .inl (cT 0, 4096, .inl f0)), (a3, .inr (1, [.ref a4, .int v4, .int v5])), (a4, .inl (cT 0, 4096, .inl f3)), (a5, .inr (1, [.ref a6, .int v7, .int v8])), (a6, .inl (cT 0, 4096, .inl f6)), (a7, .inl (cT 3, 8, .inr (.inr (.inr (.inr rf0))))), (a8, .inr (3, [.ref a9, .ref a10, .ref p11, .ref p13, .int v15])), (a9, .inl (cT 1, 2048, .inl f9)), (a10, .inl (cT 1, 2048, .inl f10)), (p11, .inl (cT 1, 2048, .inl f12)), (p13, .inl (cT 1, 2048, .inl f14)), (a13, .inr (2, [.ref a14, .int o20.2.2.1, .int o20.2.2.2])), (a14, .inl (cT 2, 4096, .inr (.inl o20.2.1)))]) hP hD hS hA [0, 1, 2, 3, 4, 5, 6, 7, 8, 9, 10, 11, 12, 17, 18] rfl rfl (by decide)
              refine va_callv (va_runV (C := "ValueBench") (As := [.int o20.1]) (rest := []) ⟨hx, hb, hml, hown, htx⟩ (gB_demandDone l hl9 D cT aK aV H.size n a0 a1 a2 a3 a4 a5 a6 a7 a8 a9 a10 a13 a14 rf0 o20.1 f0 v1 v2 f3 v4 v5 f6 v7 v8 f9 f10 p11 f12 p13 f14 v15 o20.2.1 o20.2.2.1 o20.2.2.2 v19 v20 o23 hq24 hk25) ⟨callB_of 1 htx (xw_goodC kw_3_222) rfl rfl rfl (htx _ kw_1_1) (htx _ kw_3_219) ⟨by decide, by decide, by decide +kernel⟩ ⟨Nat.le_of_ble_eq_true rfl, Nat.le_of_ble_eq_true rfl⟩, (htx _ kw_3_221), (htx _ kp_B_demandDone)⟩ ⟨xPre_blind, va_recv hK hP (ci := 0) rfl (q0 := 0) rfl, (fun U hU hW => ⟨rfl, xPre_of hZ hS hFc hPc hDc hK U hU hW⟩)⟩ rfl rfl hl.1 rfl (lv_room (Nat.le_of_ble_eq_true rfl)) dB_binary_67 ⟨Nat.le_of_ble_eq_true rfl, Nat.le_of_ble_eq_true rfl⟩) hS (fun q _ h => hFc q h) hFc (fun u9 t H1 locs ht hvm hr9 hB hz1 hk1 hS => ?_)
              obtain ⟨hP1, hK1, hD1⟩ := hB
              rw [ht] at hP1
              obtain ⟨hP, hD⟩ := xjoin (W := [(a15, .inr (2, [.ref a16, .int v22, .int v23])), (a16, .inl (cT 2, 4096, .inr (.inl f21))), (a17, .inr (2, [.ref a18, .int v25, .int v26])), (a18, .inl (cT 2, 4096, .inr (.inl f24))), (a0, .inr (0, [.ref a1, .ref a3, .ref a5, .ref a7, .ref a8, .ref a13, .int v19, .int o23.2])), (a1, .inr (1, [.ref a2, .int v1, .int v2])), (a2, .inl (cT 0, 4096, .inl f0)), (a3, .inr (1, [.ref a4, .int v4, .int v5])), (a4, .inl (cT 0, 4096, .inl f3)), (a5, .inr (1, [.ref a6, .int v7, .int v8])), (a6, .inl (cT 0, 4096, .inl f6)), (a7, .inl (cT 3, 8, .inr (.inr (.inr (.inr rf0))))), (a8, .inr (3, [.ref a9, .ref a10, .ref p11, .ref p13, .int v15])), (a9, .inl (cT 1, 2048, .inl f9)), (a10, .inl (cT 1, 2048, .inl f10)), (p11, .inl (cT 1, 2048, .inl f12)), (p13, .inl (cT 1, 2048, .inl f14)), (a13, .inr (2, [.ref a14, .int o20.2.2.1, .int o20.2.2.2])), (a14, .inl (cT 2, 4096, .inr (.inl o20.2.1)))]) hP hD [0, 1, 2, 3, 4, 5, 6, 7, 8, 9, 10, 11, 12, 17, 18] [13, 14, 15, 16] 4 rfl rfl (by decide) (by decide) hk1 hFc hP1 hD1
              generalize H1 = H at hP hS ⊢
              refine lv_aload_n hx hb dB_binary_70 rfl (lv_at hl 0 rfl) ?_
              refine lv_iload_n hx hb dB_binary_71 rfl (lv_at hl 1 rfl) ?_
              obtain ⟨o26, hq27, hf⟩ := xbind hf
              by_cases hk28 : o26.1 = 0
              · rw [if_pos hk28] at hf
                obtain ⟨hPc, hDc, hFc⟩ := xcut (wc := [(a0, .inr (0, [.ref a1, .ref a3, .ref a5, .ref a7, .ref a8, .ref a13, .int v19, .int o23.2])), (a1, .inr (1, [.ref a2, .int v1, .int v2])), (a2, .inl (cT 0, 4096, .inl f0)), (a3, .inr (1, [.ref a4, .int v4, .int v5])), (a4, .inl (cT 0, 4096, .inl f3)), (a5, .inr (1, [.ref a6, .int v7, .int v8])), (a6, .inl (cT 0, 4096, .inl f6)), (a7, .inl (cT 3, 8, .inr (.inr (.inr (.inr rf0))))), (a8, .inr (3, [.ref a9, .ref a10, .ref p11, .ref p13, .int v15])), (a9, .inl (cT 1, 2048, .inl f9)), (a10, .inl (cT 1, 2048, .inl f10)), (p11, .inl (cT 1, 2048, .inl f12)), (p13, .inl (cT 1, 2048, .inl f14)), (a13, .inr (2, [.ref a14, .int o20.2.2.1, .int o20.2.2.2])), (a14, .inl (cT 2, 4096, .inr (.inl o20.2.1)))]) hP hD hS hA [4, 5, 6, 7, 8, 9, 10, 11, 12, 13, 14, 15, 16, 17, 18] rfl rfl (by decide)
                refine va_calli (va_runV (C := "ValueBench") (As := [.int x1]) (rest := []) ⟨hx, hb, hml, hown, htx⟩ (gB_keepSpare l hl9 D cT aK aV H.size d n a0 a1 a2 a3 a4 a5 a6 a7 a8 a9 a10 a13 a14 rf0 b1 x1 f0 v1 v2 f3 v4 v5 f6 v7 v8 f9 f10 p11 f12 p13 f14 v15 o20.2.1 o20.2.2.1 o20.2.2.2 v19 o23.2 hr1 o26 hq27 hk28) ⟨callB_of 1 htx (xw_goodC kw_3_17) rfl rfl rfl (htx _ kw_1_1) (htx _ kw_3_14) ⟨by decide, by decide, by decide +kernel⟩ ⟨(by show (16 * d + 6) + 1 ≤ 16 * d + 7; omega), (by show 8 + (3 + 11) + (400 * d + 100) ≤ 400 * d + 180; omega)⟩, (htx _ kw_3_16), (htx _ kp_B_keepSpare)⟩ ⟨xPre_blind, va_recv hK hP (ci := 0) rfl (q0 := 4) rfl, (fun U hU hW => ⟨rfl, xPre_of hZ hS hFc hPc hDc hK U hU hW⟩)⟩ rfl rfl hl.1 rfl (lv_room (Nat.le_of_ble_eq_true rfl)) dB_binary_72 ⟨Nat.le_of_ble_eq_true rfl, Nat.le_of_ble_eq_true rfl⟩) hS (fun q _ h => hFc q h) hFc (fun r29 u9 t H1 locs ht hvm hr9 hB hz1 hk1 hS => ?_)
                obtain ⟨hP1, hK1, hD1⟩ := hB
                rw [ht] at hP1
                obtain ⟨hP, hD⟩ := xjoin (W := [(a15, .inr (2, [.ref a16, .int v22, .int v23])), (a16, .inl (cT 2, 4096, .inr (.inl f21))), (a17, .inr (2, [.ref a18, .int v25, .int v26])), (a18, .inl (cT 2, 4096, .inr (.inl f24))), (a0, .inr (0, [.ref a1, .ref a3, .ref a5, .ref a7, .ref a8, .ref b1, .int v19, .int o23.2])), (a1, .inr (1, [.ref a2, .int v1, .int v2])), (a2, .inl (cT 0, 4096, .inl f0)), (a3, .inr (1, [.ref a4, .int v4, .int v5])), (a4, .inl (cT 0, 4096, .inl f3)), (a5, .inr (1, [.ref a6, .int o26.2.2.2.1, .int o26.2.2.2.2])), (a6, .inl (cT 0, 4096, .inl o26.2.2.1)), (a7, .inl (cT 3, 8, .inr (.inr (.inr (.inr (va_up rf0 x1.toNatClampNeg (some a13))))))), (a8, .inr (3, [.ref a9, .ref a10, .ref p11, .ref p13, .int v15])), (a9, .inl (cT 1, 2048, .inl f9)), (a10, .inl (cT 1, 2048, .inl f10)), (p11, .inl (cT 1, 2048, .inl f12)), (p13, .inl (cT 1, 2048, .inl f14)), (a13, .inr (2, [.ref a14, .int o20.2.2.1, .int o20.2.2.2])), (a14, .inl (cT 2, 4096, .inr (.inl o20.2.1)))]) hP hD [4, 5, 6, 7, 8, 9, 10, 11, 12, 13, 14, 15, 16, 17, 18] [0, 1, 2, 3] 4 rfl rfl (by decide) (by decide) hk1 hFc hP1 hD1
                generalize H1 = H at hP hS ⊢
                rw [hr9]
                refine W.eq (g2 := F0 m 75 ls [.int o26.2.1]) rfl ?_
                refine lv_pop hx hb dB_binary_75 rfl ?_
                obtain rfl := Option.some.inj hf
                exact absurd (show (0 : Nat) = 3 from hkd) (by decide)
              rw [if_neg hk28] at hf
              by_cases hk30 : o26.1 = 1
              · rw [if_pos hk30] at hf
                obtain rfl := Option.some.inj hf
                exact absurd (show (1 : Nat) = 3 from hkd) (by decide)
              rw [if_neg hk30] at hf
              exact nomatch hf
            rw [if_neg hk25] at hf
            by_cases hk32 : o23.1 = 1
            · rw [if_pos hk32] at hf
              obtain rfl := Option.some.inj hf
              exact absurd (show (2 : Nat) = 3 from hkd) (by decide)
            rw [if_neg hk32] at hf
            exact nomatch hf
          rw [if_neg hk15] at hf
          by_cases hk33 : o13 = 1
          · rw [if_pos hk33] at hf
            obtain ⟨hPc, hDc, hFc⟩ := xcut (wc := []) hP hD hS hA [] rfl rfl (by decide)
            refine xx_thr (vx_runS (As := [.int 0]) (rest := []) ⟨hx, hb, hml, hown, htx⟩ (gB_demand_1 l hl9 D cT aK aV H.size n (0 : Int32) o13 hq14 hk33) ⟨callB_of 1 htx (xw_goodC kw_1_221) rfl rfl rfl (htx _ kw_1_1) (htx _ kw_1_219) ⟨by decide, by decide, by decide +kernel⟩ ⟨Nat.le_of_ble_eq_true rfl, Nat.le_of_ble_eq_true rfl⟩, htx _ kw_1_220⟩ ⟨xPre_blind, (fun U hU hW => ⟨rfl, xPre_of hZ hS hFc hPc hDc hK U hU hW⟩)⟩ rfl rfl hl.1 rfl (lv_room (Nat.le_of_ble_eq_true rfl)) dB_binary_35 ⟨Nat.le_of_ble_eq_true rfl, Nat.le_of_ble_eq_true rfl⟩) hS hFc (fun q _ h => hFc q h) (fun E ce q9 u9 t H1 locs ht hvm _ hB hz1 hk1 hS hce hcv hcl => ?_)
            obtain ⟨rfl, hP1, hK1, hD1⟩ := hB
            rw [ht] at hP1
            obtain ⟨hP, hD⟩ := xjoin (W := [(a0, .inr (0, [.ref a1, .ref a3, .ref a5, .ref a7, .ref a8, .ref a13, .int v19, .int v20])), (a1, .inr (1, [.ref a2, .int v1, .int v2])), (a2, .inl (cT 0, 4096, .inl f0)), (a3, .inr (1, [.ref a4, .int v4, .int v5])), (a4, .inl (cT 0, 4096, .inl f3)), (a5, .inr (1, [.ref a6, .int v7, .int v8])), (a6, .inl (cT 0, 4096, .inl f6)), (a7, .inl (cT 3, 8, .inr (.inr (.inr (.inr rf0))))), (a8, .inr (3, [.ref a9, .ref a10, .ref p11, .ref p13, .int v15])), (a9, .inl (cT 1, 2048, .inl f9)), (a10, .inl (cT 1, 2048, .inl f10)), (p11, .inl (cT 1, 2048, .inl f12)), (p13, .inl (cT 1, 2048, .inl f14)), (a13, .inr (2, [.ref a14, .int v17, .int v18])), (a14, .inl (cT 2, 4096, .inr (.inl f16))), (a15, .inr (2, [.ref a16, .int v22, .int v23])), (a16, .inl (cT 2, 4096, .inr (.inl f21))), (a17, .inr (2, [.ref a18, .int v25, .int v26])), (a18, .inl (cT 2, 4096, .inr (.inl f24)))]) hP hD [] [0, 1, 2, 3, 4, 5, 6, 7, 8, 9, 10, 11, 12, 13, 14, 15, 16, 17, 18] 19 rfl rfl (by decide) (by decide) hk1 hFc hP1 hD1
            generalize H1 = H at hP hS hce ⊢
            obtain rfl := Option.some.inj hf
            obtain ⟨hP9, hD9⟩ := xsub (wc := [(a0, .inr (0, [.ref a1, .ref a3, .ref a5, .ref a7, .ref a8, .ref a13, .int v19, .int v20])), (a1, .inr (1, [.ref a2, .int v1, .int v2])), (a2, .inl (cT 0, 4096, .inl f0)), (a3, .inr (1, [.ref a4, .int v4, .int v5])), (a4, .inl (cT 0, 4096, .inl f3)), (a5, .inr (1, [.ref a6, .int v7, .int v8])), (a6, .inl (cT 0, 4096, .inl f6)), (a7, .inl (cT 3, 8, .inr (.inr (.inr (.inr rf0))))), (a8, .inr (3, [.ref a9, .ref a10, .ref p11, .ref p13, .int v15])), (a9, .inl (cT 1, 2048, .inl f9)), (a10, .inl (cT 1, 2048, .inl f10)), (p11, .inl (cT 1, 2048, .inl f12)), (p13, .inl (cT 1, 2048, .inl f14)), (a13, .inr (2, [.ref a14, .int v17, .int v18])), (a14, .inl (cT 2, 4096, .inr (.inl f16))), (a15, .inr (2, [.ref a16, .int v22, .int v23])), (a16, .inl (cT 2, 4096, .inr (.inl f21))), (a17, .inr (2, [.ref a18, .int v25, .int v26])), (a18, .inl (cT 2, 4096, .inr (.inl f24)))]) hP hD [0, 1, 2, 3, 4, 5, 6, 7, 8, 9, 10, 11, 12, 13, 14, 15, 16, 17, 18] rfl rfl (by decide)
            exact vx_out (E := "java/lang/IllegalArgumentException") (fun x h => (hne x h).elim) hlocks hce hcv hcl (fun t ht ha => ⟨(), trivial, ⟨rfl, by rw [ht]; exact hP9, va_K.moved ha hK, hD9⟩, hS.F ht⟩) hS.2.2 (Nat.le_of_ble_eq_true rfl) (Nat.le_of_ble_eq_true rfl)
          rw [if_neg hk33] at hf
          exact nomatch hf
        · rw [if_neg hc] at hf
          refine lv_iconst (v := 1) hx hb dB_binary_30 (by decide) ?_
          refine lv_goto (tgt := 35) hx hb dB_binary_31 (by decide) ?_
          obtain ⟨o13, hq14, hf⟩ := xbind hf
          by_cases hk15 : o13 = 0
          · rw [if_pos hk15] at hf
            obtain ⟨hPc, hDc, hFc⟩ := xcut (wc := []) hP hD hS hA [] rfl rfl (by decide)
            refine va_callv (va_runS (As := [.int 1]) (rest := []) ⟨hx, hb, hml, hown, htx⟩ (gB_demand l hl9 D cT aK aV H.size n (1 : Int32) o13 hq14 hk15) ⟨callB_of 1 htx (xw_goodC kw_1_221) rfl rfl rfl (htx _ kw_1_1) (htx _ kw_1_219) ⟨by decide, by decide, by decide +kernel⟩ ⟨Nat.le_of_ble_eq_true rfl, Nat.le_of_ble_eq_true rfl⟩, htx _ kw_1_220⟩ ⟨xPre_blind, (fun U hU hW => ⟨rfl, xPre_of hZ hS hFc hPc hDc hK U hU hW⟩)⟩ rfl rfl hl.1 rfl (lv_room (Nat.le_of_ble_eq_true rfl)) dB_binary_35 ⟨Nat.le_of_ble_eq_true rfl, Nat.le_of_ble_eq_true rfl⟩) hS (fun q _ h => hFc q h) hFc (fun u9 t H1 locs ht hvm hr9 hB hz1 hk1 hS => ?_)
            obtain ⟨hP1, hK1, hD1⟩ := hB
            rw [ht] at hP1
            obtain ⟨hP, hD⟩ := xjoin (W := [(a0, .inr (0, [.ref a1, .ref a3, .ref a5, .ref a7, .ref a8, .ref a13, .int v19, .int v20])), (a1, .inr (1, [.ref a2, .int v1, .int v2])), (a2, .inl (cT 0, 4096, .inl f0)), (a3, .inr (1, [.ref a4, .int v4, .int v5])), (a4, .inl (cT 0, 4096, .inl f3)), (a5, .inr (1, [.ref a6, .int v7, .int v8])), (a6, .inl (cT 0, 4096, .inl f6)), (a7, .inl (cT 3, 8, .inr (.inr (.inr (.inr rf0))))), (a8, .inr (3, [.ref a9, .ref a10, .ref p11, .ref p13, .int v15])), (a9, .inl (cT 1, 2048, .inl f9)), (a10, .inl (cT 1, 2048, .inl f10)), (p11, .inl (cT 1, 2048, .inl f12)), (p13, .inl (cT 1, 2048, .inl f14)), (a13, .inr (2, [.ref a14, .int v17, .int v18])), (a14, .inl (cT 2, 4096, .inr (.inl f16))), (a15, .inr (2, [.ref a16, .int v22, .int v23])), (a16, .inl (cT 2, 4096, .inr (.inl f21))), (a17, .inr (2, [.ref a18, .int v25, .int v26])), (a18, .inl (cT 2, 4096, .inr (.inl f24)))]) hP hD [] [0, 1, 2, 3, 4, 5, 6, 7, 8, 9, 10, 11, 12, 13, 14, 15, 16, 17, 18] 19 rfl rfl (by decide) (by decide) hk1 hFc hP1 hD1
            generalize H1 = H at hP hS ⊢
            refine lv_aload_n hx hb dB_binary_38 rfl (lv_at hl 0 rfl) ?_
            refine va_get (D := D) (ci := 0) (v := .ref a13) (C := "ValueBench") (T := TB) (N := 8) hx hb htx inB hown hK hP 0 rfl rfl 5 (by decide) (htx _ kw_1_100) (fun _ h9 => h9) rfl dB_binary_39 ?_
            obtain ⟨o16, hq17, hf⟩ := xbind hf
            obtain ⟨hPc, hDc, hFc⟩ := xcut (wc := [(a13, .inr (2, [.ref a14, .int v17, .int v18])), (a14, .inl (cT 2, 4096, .inr (.inl f16)))]) hP hD hS hA [13, 14] rfl rfl (by decide)
            refine va_callv (va_runV (C := "ValueBench$Row") (As := []) (rest := []) ⟨hx, hb, hml, hown, htx⟩ (gR_clear l hl9 D cT aK aV H.size n a13 a14 f16 v17 v18 o16 hq17) ⟨callB_of 0 htx (xw_goodC kw_2_22) rfl rfl rfl (htx _ kw_1_4) (htx _ kw_2_19) ⟨by decide, by decide, by decide +kernel⟩ ⟨Nat.le_of_ble_eq_true rfl, Nat.le_of_ble_eq_true rfl⟩, (htx _ kw_2_20), (htx _ kw_2_21)⟩ ⟨xPre_blind, va_recv hK hP (ci := 2) rfl (q0 := 13) rfl, (fun U hU hW => ⟨rfl, xPre_of hZ hS hFc hPc hDc hK U hU hW⟩)⟩ rfl rfl hl.1 rfl (lv_room (Nat.le_of_ble_eq_true rfl)) dB_binary_42 ⟨Nat.le_of_ble_eq_true rfl, Nat.le_of_ble_eq_true rfl⟩) hS (fun q _ h => hFc q h) hFc (fun u9 t H1 locs ht hvm hr9 hB hz1 hk1 hS => ?_)
            obtain ⟨hP1, hK1, hD1⟩ := hB
            rw [ht] at hP1
            obtain ⟨hP, hD⟩ := xjoin (W := [(a0, .inr (0, [.ref a1, .ref a3, .ref a5, .ref a7, .ref a8, .ref a13, .int v19, .int v20])), (a1, .inr (1, [.ref a2, .int v1, .int v2])), (a2, .inl (cT 0, 4096, .inl f0)), (a3, .inr (1, [.ref a4, .int v4, .int v5])), (a4, .inl (cT 0, 4096, .inl f3)), (a5, .inr (1, [.ref a6, .int v7, .int v8])), (a6, .inl (cT 0, 4096, .inl f6)), (a7, .inl (cT 3, 8, .inr (.inr (.inr (.inr rf0))))), (a8, .inr (3, [.ref a9, .ref a10, .ref p11, .ref p13, .int v15])), (a9, .inl (cT 1, 2048, .inl f9)), (a10, .inl (cT 1, 2048, .inl f10)), (p11, .inl (cT 1, 2048, .inl f12)), (p13, .inl (cT 1, 2048, .inl f14)), (a15, .inr (2, [.ref a16, .int v22, .int v23])), (a16, .inl (cT 2, 4096, .inr (.inl f21))), (a17, .inr (2, [.ref a18, .int v25, .int v26])), (a18, .inl (cT 2, 4096, .inr (.inl f24))), (a13, .inr (2, [.ref a14, .int o16.1, .int o16.2])), (a14, .inl (cT 2, 4096, .inr (.inl f16)))]) hP hD [13, 14] [0, 1, 2, 3, 4, 5, 6, 7, 8, 9, 10, 11, 12, 15, 16, 17, 18] 17 rfl rfl (by decide) (by decide) hk1 hFc hP1 hD1
            generalize H1 = H at hP hS ⊢
            refine lv_aload_n hx hb dB_binary_45 rfl (lv_at hl 0 rfl) ?_
            refine lv_iload_n hx hb dB_binary_46 rfl (lv_at hl 2 rfl) ?_
            refine lv_aload_n hx hb dB_binary_47 rfl (lv_at hl 0 rfl) ?_
            refine va_get (D := D) (ci := 0) (v := .ref a7) (C := "ValueBench") (T := TB) (N := 8) hx hb htx inB hown hK hP 0 rfl rfl 3 (by decide) (htx _ kw_1_98) (fun _ h9 => h9) rfl dB_binary_48 ?_
            refine lv_iload_n hx hb dB_binary_51 rfl (lv_at hl 3 rfl) ?_
            obtain ⟨hg18, hf⟩ := xifn hf
            refine va_aldq hx hb hK hP 7 3 rfl rfl hg18 dB_binary_52 ?_
            refine W.eq (g2 := F0 m 53 ls [va_rf (rf0 x3.toNatClampNeg), .int x2, .ref a0]) rfl ?_
            rw [hr3 hg18]
            refine W.eq (g2 := F0 m 53 ls [.ref a15, .int x2, .ref a0]) rfl ?_
            refine lv_aload_n hx hb dB_binary_53 rfl (lv_at hl 0 rfl) ?_
            refine va_get (D := D) (ci := 0) (v := .ref a7) (C := "ValueBench") (T := TB) (N := 8) hx hb htx inB hown hK hP 0 rfl rfl 3 (by decide) (htx _ kw_1_98) (fun _ h9 => h9) rfl dB_binary_54 ?_
            refine lv_iload hx hb dB_binary_57 (lv_at hl 4 rfl) ?_
            obtain ⟨hg19, hf⟩ := xifn hf
            refine va_aldq hx hb hK hP 7 3 rfl rfl hg19 dB_binary_59 ?_
            refine W.eq (g2 := F0 m 60 ls [va_rf (rf0 x4.toNatClampNeg), .ref a15, .int x2, .ref a0]) rfl ?_
            rw [hr4 hg19]
            refine W.eq (g2 := F0 m 60 ls [.ref a17, .ref a15, .int x2, .ref a0]) rfl ?_
            refine lv_aload_n hx hb dB_binary_60 rfl (lv_at hl 0 rfl) ?_
            refine va_get (D := D) (ci := 0) (v := .ref a13) (C := "ValueBench") (T := TB) (N := 8) hx hb htx inB hown hK hP 0 rfl rfl 5 (by decide) (htx _ kw_1_100) (fun _ h9 => h9) rfl dB_binary_61 ?_
            obtain ⟨o20, hq21, hf⟩ := xbind hf
            obtain ⟨hPc, hDc, hFc⟩ := xcut (wc := [(a15, .inr (2, [.ref a16, .int v22, .int v23])), (a16, .inl (cT 2, 4096, .inr (.inl f21))), (a17, .inr (2, [.ref a18, .int v25, .int v26])), (a18, .inl (cT 2, 4096, .inr (.inl f24))), (a13, .inr (2, [.ref a14, .int o16.1, .int o16.2])), (a14, .inl (cT 2, 4096, .inr (.inl f16)))]) hP hD hS hA [13, 14, 15, 16, 17, 18] rfl rfl (by decide)
            refine va_calli (va_runS (As := [.int x2, .ref a15, .ref a17, .ref a13]) (rest := [.ref a0]) ⟨hx, hb, hml, hown, htx⟩ (gA_apply l hl9 D cT aK aV H.size d n a15 a16 a17 a18 a13 a14 x2 f21 v22 v23 f24 v25 v26 f16 o16.1 o16.2 o20 hq21) ⟨callB_of 4 htx (xw_goodC kw_3_105) rfl rfl rfl (htx _ kw_1_21) (htx _ kw_3_103) ⟨by decide, by decide, by decide +kernel⟩ ⟨(by show (16 * d + 5) + 1 ≤ 16 * d + 7; omega), (by show 8 + (4 + 11) + (400 * d + 157) ≤ 400 * d + 180; omega)⟩, htx _ kw_3_104⟩ ⟨xPre_blind, (fun U hU hW => ⟨rfl, xPre_of hZ hS hFc hPc hDc hK U hU hW⟩)⟩ rfl rfl hl.1 rfl (lv_room (Nat.le_of_ble_eq_true rfl)) dB_binary_64 ⟨Nat.le_of_ble_eq_true rfl, Nat.le_of_ble_eq_true rfl⟩) hS (fun q _ h => hFc q h) hFc (fun r22 u9 t H1 locs ht hvm hr9 hB hz1 hk1 hS => ?_)
            obtain ⟨hP1, hK1, hD1⟩ := hB
            rw [ht] at hP1
            obtain ⟨hP, hD⟩ := xjoin (W := [(a0, .inr (0, [.ref a1, .ref a3, .ref a5, .ref a7, .ref a8, .ref a13, .int v19, .int v20])), (a1, .inr (1, [.ref a2, .int v1, .int v2])), (a2, .inl (cT 0, 4096, .inl f0)), (a3, .inr (1, [.ref a4, .int v4, .int v5])), (a4, .inl (cT 0, 4096, .inl f3)), (a5, .inr (1, [.ref a6, .int v7, .int v8])), (a6, .inl (cT 0, 4096, .inl f6)), (a7, .inl (cT 3, 8, .inr (.inr (.inr (.inr rf0))))), (a8, .inr (3, [.ref a9, .ref a10, .ref p11, .ref p13, .int v15])), (a9, .inl (cT 1, 2048, .inl f9)), (a10, .inl (cT 1, 2048, .inl f10)), (p11, .inl (cT 1, 2048, .inl f12)), (p13, .inl (cT 1, 2048, .inl f14)), (a15, .inr (2, [.ref a16, .int v22, .int v23])), (a16, .inl (cT 2, 4096, .inr (.inl f21))), (a17, .inr (2, [.ref a18, .int v25, .int v26])), (a18, .inl (cT 2, 4096, .inr (.inl f24))), (a13, .inr (2, [.ref a14, .int o20.2.2.1, .int o20.2.2.2])), (a14, .inl (cT 2, 4096, .inr (.inl o20.2.1)))]) hP hD [13, 14, 15, 16, 17, 18] [0, 1, 2, 3, 4, 5, 6, 7, 8, 9, 10, 11, 12] 13 rfl rfl (by decide) (by decide) hk1 hFc hP1 hD1
            generalize H1 = H at hP hS ⊢
            rw [hr9]
            refine W.eq (g2 := F0 m 67 ls [.int o20.1, .ref a0]) rfl ?_
            obtain ⟨o23, hq24, hf⟩ := xbind hf
            by_cases hk25 : o23.1 = 0
            · rw [if_pos hk25] at hf
              obtain ⟨hPc, hDc, hFc⟩ := xcut (wc := [(a0, .inr (0, [.ref a1, .ref a3, .ref a5, .ref a7, .ref a8, .ref a13, .int v19, .int v20])), (a1, .inr (1, [.ref a2, .int v1, .int v2])), (a2, .inl (cT 0, 4096, .inl f0)), (a3, .inr (1, [.ref a4, .int v4, .int v5])), (a4, .inl (cT 0, 4096, .inl f3)), (a5, .inr (1, [.ref a6, .int v7, .int v8])), (a6, .inl (cT 0, 4096, .inl f6)), (a7, .inl (cT 3, 8, .inr (.inr (.inr (.inr rf0))))), (a8, .inr (3, [.ref a9, .ref a10, .ref p11, .ref p13, .int v15])), (a9, .inl (cT 1, 2048, .inl f9)), (a10, .inl (cT 1, 2048, .inl f10)), (p11, .inl (cT 1, 2048, .inl f12)), (p13, .inl (cT 1, 2048, .inl f14)), (a13, .inr (2, [.ref a14, .int o20.2.2.1, .int o20.2.2.2])), (a14, .inl (cT 2, 4096, .inr (.inl o20.2.1)))]) hP hD hS hA [0, 1, 2, 3, 4, 5, 6, 7, 8, 9, 10, 11, 12, 17, 18] rfl rfl (by decide)
              refine va_callv (va_runV (C := "ValueBench") (As := [.int o20.1]) (rest := []) ⟨hx, hb, hml, hown, htx⟩ (gB_demandDone l hl9 D cT aK aV H.size n a0 a1 a2 a3 a4 a5 a6 a7 a8 a9 a10 a13 a14 rf0 o20.1 f0 v1 v2 f3 v4 v5 f6 v7 v8 f9 f10 p11 f12 p13 f14 v15 o20.2.1 o20.2.2.1 o20.2.2.2 v19 v20 o23 hq24 hk25) ⟨callB_of 1 htx (xw_goodC kw_3_222) rfl rfl rfl (htx _ kw_1_1) (htx _ kw_3_219) ⟨by decide, by decide, by decide +kernel⟩ ⟨Nat.le_of_ble_eq_true rfl, Nat.le_of_ble_eq_true rfl⟩, (htx _ kw_3_221), (htx _ kp_B_demandDone)⟩ ⟨xPre_blind, va_recv hK hP (ci := 0) rfl (q0 := 0) rfl, (fun U hU hW => ⟨rfl, xPre_of hZ hS hFc hPc hDc hK U hU hW⟩)⟩ rfl rfl hl.1 rfl (lv_room (Nat.le_of_ble_eq_true rfl)) dB_binary_67 ⟨Nat.le_of_ble_eq_true rfl, Nat.le_of_ble_eq_true rfl⟩) hS (fun q _ h => hFc q h) hFc (fun u9 t H1 locs ht hvm hr9 hB hz1 hk1 hS => ?_)
              obtain ⟨hP1, hK1, hD1⟩ := hB
              rw [ht] at hP1
              obtain ⟨hP, hD⟩ := xjoin (W := [(a15, .inr (2, [.ref a16, .int v22, .int v23])), (a16, .inl (cT 2, 4096, .inr (.inl f21))), (a17, .inr (2, [.ref a18, .int v25, .int v26])), (a18, .inl (cT 2, 4096, .inr (.inl f24))), (a0, .inr (0, [.ref a1, .ref a3, .ref a5, .ref a7, .ref a8, .ref a13, .int v19, .int o23.2])), (a1, .inr (1, [.ref a2, .int v1, .int v2])), (a2, .inl (cT 0, 4096, .inl f0)), (a3, .inr (1, [.ref a4, .int v4, .int v5])), (a4, .inl (cT 0, 4096, .inl f3)), (a5, .inr (1, [.ref a6, .int v7, .int v8])), (a6, .inl (cT 0, 4096, .inl f6)), (a7, .inl (cT 3, 8, .inr (.inr (.inr (.inr rf0))))), (a8, .inr (3, [.ref a9, .ref a10, .ref p11, .ref p13, .int v15])), (a9, .inl (cT 1, 2048, .inl f9)), (a10, .inl (cT 1, 2048, .inl f10)), (p11, .inl (cT 1, 2048, .inl f12)), (p13, .inl (cT 1, 2048, .inl f14)), (a13, .inr (2, [.ref a14, .int o20.2.2.1, .int o20.2.2.2])), (a14, .inl (cT 2, 4096, .inr (.inl o20.2.1)))]) hP hD [0, 1, 2, 3, 4, 5, 6, 7, 8, 9, 10, 11, 12, 17, 18] [13, 14, 15, 16] 4 rfl rfl (by decide) (by decide) hk1 hFc hP1 hD1
              generalize H1 = H at hP hS ⊢
              refine lv_aload_n hx hb dB_binary_70 rfl (lv_at hl 0 rfl) ?_
              refine lv_iload_n hx hb dB_binary_71 rfl (lv_at hl 1 rfl) ?_
              obtain ⟨o26, hq27, hf⟩ := xbind hf
              by_cases hk28 : o26.1 = 0
              · rw [if_pos hk28] at hf
                obtain ⟨hPc, hDc, hFc⟩ := xcut (wc := [(a0, .inr (0, [.ref a1, .ref a3, .ref a5, .ref a7, .ref a8, .ref a13, .int v19, .int o23.2])), (a1, .inr (1, [.ref a2, .int v1, .int v2])), (a2, .inl (cT 0, 4096, .inl f0)), (a3, .inr (1, [.ref a4, .int v4, .int v5])), (a4, .inl (cT 0, 4096, .inl f3)), (a5, .inr (1, [.ref a6, .int v7, .int v8])), (a6, .inl (cT 0, 4096, .inl f6)), (a7, .inl (cT 3, 8, .inr (.inr (.inr (.inr rf0))))), (a8, .inr (3, [.ref a9, .ref a10, .ref p11, .ref p13, .int v15])), (a9, .inl (cT 1, 2048, .inl f9)), (a10, .inl (cT 1, 2048, .inl f10)), (p11, .inl (cT 1, 2048, .inl f12)), (p13, .inl (cT 1, 2048, .inl f14)), (a13, .inr (2, [.ref a14, .int o20.2.2.1, .int o20.2.2.2])), (a14, .inl (cT 2, 4096, .inr (.inl o20.2.1)))]) hP hD hS hA [4, 5, 6, 7, 8, 9, 10, 11, 12, 13, 14, 15, 16, 17, 18] rfl rfl (by decide)
                refine va_calli (va_runV (C := "ValueBench") (As := [.int x1]) (rest := []) ⟨hx, hb, hml, hown, htx⟩ (gB_keepSpare l hl9 D cT aK aV H.size d n a0 a1 a2 a3 a4 a5 a6 a7 a8 a9 a10 a13 a14 rf0 b1 x1 f0 v1 v2 f3 v4 v5 f6 v7 v8 f9 f10 p11 f12 p13 f14 v15 o20.2.1 o20.2.2.1 o20.2.2.2 v19 o23.2 hr1 o26 hq27 hk28) ⟨callB_of 1 htx (xw_goodC kw_3_17) rfl rfl rfl (htx _ kw_1_1) (htx _ kw_3_14) ⟨by decide, by decide, by decide +kernel⟩ ⟨(by show (16 * d + 6) + 1 ≤ 16 * d + 7; omega), (by show 8 + (3 + 11) + (400 * d + 100) ≤ 400 * d + 180; omega)⟩, (htx _ kw_3_16), (htx _ kp_B_keepSpare)⟩ ⟨xPre_blind, va_recv hK hP (ci := 0) rfl (q0 := 4) rfl, (fun U hU hW => ⟨rfl, xPre_of hZ hS hFc hPc hDc hK U hU hW⟩)⟩ rfl rfl hl.1 rfl (lv_room (Nat.le_of_ble_eq_true rfl)) dB_binary_72 ⟨Nat.le_of_ble_eq_true rfl, Nat.le_of_ble_eq_true rfl⟩) hS (fun q _ h => hFc q h) hFc (fun r29 u9 t H1 locs ht hvm hr9 hB hz1 hk1 hS => ?_)
                obtain ⟨hP1, hK1, hD1⟩ := hB
                rw [ht] at hP1
                obtain ⟨hP, hD⟩ := xjoin (W := [(a15, .inr (2, [.ref a16, .int v22, .int v23])), (a16, .inl (cT 2, 4096, .inr (.inl f21))), (a17, .inr (2, [.ref a18, .int v25, .int v26])), (a18, .inl (cT 2, 4096, .inr (.inl f24))), (a0, .inr (0, [.ref a1, .ref a3, .ref a5, .ref a7, .ref a8, .ref b1, .int v19, .int o23.2])), (a1, .inr (1, [.ref a2, .int v1, .int v2])), (a2, .inl (cT 0, 4096, .inl f0)), (a3, .inr (1, [.ref a4, .int v4, .int v5])), (a4, .inl (cT 0, 4096, .inl f3)), (a5, .inr (1, [.ref a6, .int o26.2.2.2.1, .int o26.2.2.2.2])), (a6, .inl (cT 0, 4096, .inl o26.2.2.1)), (a7, .inl (cT 3, 8, .inr (.inr (.inr (.inr (va_up rf0 x1.toNatClampNeg (some a13))))))), (a8, .inr (3, [.ref a9, .ref a10, .ref p11, .ref p13, .int v15])), (a9, .inl (cT 1, 2048, .inl f9)), (a10, .inl (cT 1, 2048, .inl f10)), (p11, .inl (cT 1, 2048, .inl f12)), (p13, .inl (cT 1, 2048, .inl f14)), (a13, .inr (2, [.ref a14, .int o20.2.2.1, .int o20.2.2.2])), (a14, .inl (cT 2, 4096, .inr (.inl o20.2.1)))]) hP hD [4, 5, 6, 7, 8, 9, 10, 11, 12, 13, 14, 15, 16, 17, 18] [0, 1, 2, 3] 4 rfl rfl (by decide) (by decide) hk1 hFc hP1 hD1
                generalize H1 = H at hP hS ⊢
                rw [hr9]
                refine W.eq (g2 := F0 m 75 ls [.int o26.2.1]) rfl ?_
                refine lv_pop hx hb dB_binary_75 rfl ?_
                obtain rfl := Option.some.inj hf
                exact absurd (show (0 : Nat) = 3 from hkd) (by decide)
              rw [if_neg hk28] at hf
              by_cases hk30 : o26.1 = 1
              · rw [if_pos hk30] at hf
                obtain rfl := Option.some.inj hf
                exact absurd (show (1 : Nat) = 3 from hkd) (by decide)
              rw [if_neg hk30] at hf
              exact nomatch hf
            rw [if_neg hk25] at hf
            by_cases hk32 : o23.1 = 1
            · rw [if_pos hk32] at hf
              obtain rfl := Option.some.inj hf
              exact absurd (show (2 : Nat) = 3 from hkd) (by decide)
            rw [if_neg hk32] at hf
            exact nomatch hf
          rw [if_neg hk15] at hf
          by_cases hk33 : o13 = 1
          · rw [if_pos hk33] at hf
            obtain ⟨hPc, hDc, hFc⟩ := xcut (wc := []) hP hD hS hA [] rfl rfl (by decide)
            refine xx_thr (vx_runS (As := [.int 1]) (rest := []) ⟨hx, hb, hml, hown, htx⟩ (gB_demand_1 l hl9 D cT aK aV H.size n (1 : Int32) o13 hq14 hk33) ⟨callB_of 1 htx (xw_goodC kw_1_221) rfl rfl rfl (htx _ kw_1_1) (htx _ kw_1_219) ⟨by decide, by decide, by decide +kernel⟩ ⟨Nat.le_of_ble_eq_true rfl, Nat.le_of_ble_eq_true rfl⟩, htx _ kw_1_220⟩ ⟨xPre_blind, (fun U hU hW => ⟨rfl, xPre_of hZ hS hFc hPc hDc hK U hU hW⟩)⟩ rfl rfl hl.1 rfl (lv_room (Nat.le_of_ble_eq_true rfl)) dB_binary_35 ⟨Nat.le_of_ble_eq_true rfl, Nat.le_of_ble_eq_true rfl⟩) hS hFc (fun q _ h => hFc q h) (fun E ce q9 u9 t H1 locs ht hvm _ hB hz1 hk1 hS hce hcv hcl => ?_)
            obtain ⟨rfl, hP1, hK1, hD1⟩ := hB
            rw [ht] at hP1
            obtain ⟨hP, hD⟩ := xjoin (W := [(a0, .inr (0, [.ref a1, .ref a3, .ref a5, .ref a7, .ref a8, .ref a13, .int v19, .int v20])), (a1, .inr (1, [.ref a2, .int v1, .int v2])), (a2, .inl (cT 0, 4096, .inl f0)), (a3, .inr (1, [.ref a4, .int v4, .int v5])), (a4, .inl (cT 0, 4096, .inl f3)), (a5, .inr (1, [.ref a6, .int v7, .int v8])), (a6, .inl (cT 0, 4096, .inl f6)), (a7, .inl (cT 3, 8, .inr (.inr (.inr (.inr rf0))))), (a8, .inr (3, [.ref a9, .ref a10, .ref p11, .ref p13, .int v15])), (a9, .inl (cT 1, 2048, .inl f9)), (a10, .inl (cT 1, 2048, .inl f10)), (p11, .inl (cT 1, 2048, .inl f12)), (p13, .inl (cT 1, 2048, .inl f14)), (a13, .inr (2, [.ref a14, .int v17, .int v18])), (a14, .inl (cT 2, 4096, .inr (.inl f16))), (a15, .inr (2, [.ref a16, .int v22, .int v23])), (a16, .inl (cT 2, 4096, .inr (.inl f21))), (a17, .inr (2, [.ref a18, .int v25, .int v26])), (a18, .inl (cT 2, 4096, .inr (.inl f24)))]) hP hD [] [0, 1, 2, 3, 4, 5, 6, 7, 8, 9, 10, 11, 12, 13, 14, 15, 16, 17, 18] 19 rfl rfl (by decide) (by decide) hk1 hFc hP1 hD1
            generalize H1 = H at hP hS hce ⊢
            obtain rfl := Option.some.inj hf
            obtain ⟨hP9, hD9⟩ := xsub (wc := [(a0, .inr (0, [.ref a1, .ref a3, .ref a5, .ref a7, .ref a8, .ref a13, .int v19, .int v20])), (a1, .inr (1, [.ref a2, .int v1, .int v2])), (a2, .inl (cT 0, 4096, .inl f0)), (a3, .inr (1, [.ref a4, .int v4, .int v5])), (a4, .inl (cT 0, 4096, .inl f3)), (a5, .inr (1, [.ref a6, .int v7, .int v8])), (a6, .inl (cT 0, 4096, .inl f6)), (a7, .inl (cT 3, 8, .inr (.inr (.inr (.inr rf0))))), (a8, .inr (3, [.ref a9, .ref a10, .ref p11, .ref p13, .int v15])), (a9, .inl (cT 1, 2048, .inl f9)), (a10, .inl (cT 1, 2048, .inl f10)), (p11, .inl (cT 1, 2048, .inl f12)), (p13, .inl (cT 1, 2048, .inl f14)), (a13, .inr (2, [.ref a14, .int v17, .int v18])), (a14, .inl (cT 2, 4096, .inr (.inl f16))), (a15, .inr (2, [.ref a16, .int v22, .int v23])), (a16, .inl (cT 2, 4096, .inr (.inl f21))), (a17, .inr (2, [.ref a18, .int v25, .int v26])), (a18, .inl (cT 2, 4096, .inr (.inl f24)))]) hP hD [0, 1, 2, 3, 4, 5, 6, 7, 8, 9, 10, 11, 12, 13, 14, 15, 16, 17, 18] rfl rfl (by decide)
            exact vx_out (E := "java/lang/IllegalArgumentException") (fun x h => (hne x h).elim) hlocks hce hcv hcl (fun t ht ha => ⟨(), trivial, ⟨rfl, by rw [ht]; exact hP9, va_K.moved ha hK, hD9⟩, hS.F ht⟩) hS.2.2 (Nat.le_of_ble_eq_true rfl) (Nat.le_of_ble_eq_true rfl)
          rw [if_neg hk33] at hf
          exact nomatch hf
set_option maxHeartbeats 400000000 in
set_option maxRecDepth 100000 in
theorem gB_binarya (l : Launch) (hl9 : l.stackTraces = false) (D : va_G) (cT : Nat → ClassId) (aK aV : Nat → Nat) (sz d n : Nat) (a0 : Nat) (a1 : Nat) (a2 : Nat) (a3 : Nat) (a4 : Nat) (a5 : Nat) (a6 : Nat) (a7 : Nat) (a8 : Nat) (a9 : Nat) (a10 : Nat) (a13 : Nat) (a14 : Nat) (a15 : Nat) (a16 : Nat) (rf0 : Nat → Option Nat) (b1 : Nat) (x1 : Int32) (x2 : Int32) (x3 : Int32) (x4 : Int32) (f0 : Nat → Int32) (v1 : Int32) (v2 : Int32) (f3 : Nat → Int32) (v4 : Int32) (v5 : Int32) (f6 : Nat → Int32) (v7 : Int32) (v8 : Int32) (f9 : Nat → Int32) (f10 : Nat → Int32) (p11 : Nat) (f12 : Nat → Int32) (p13 : Nat) (f14 : Nat → Int32) (v15 : Int32) (f16 : Nat → Int64) (v17 : Int32) (v18 : Int32) (v19 : Int32) (v20 : Int32) (f21 : Nat → Int64) (v22 : Int32) (v23 : Int32) (hr1 : ¬ (x1 < 0 ∨ 8 ≤ x1.toNatClampNeg) → rf0 x1.toNatClampNeg = some b1) (hr3 : ¬ (x3 < 0 ∨ 8 ≤ x3.toNatClampNeg) → rf0 x3.toNatClampNeg = some a15) (hr4 : ¬ (x4 < 0 ∨ 8 ≤ x4.toNatClampNeg) → rf0 x4.toNatClampNeg = some a15) (out : Nat × (Nat → Int32) × Int32 × Int32 × (Nat → Int64) × Int32 × Int32 × Int32) (hf : fB_binarya d n x1 x2 x3 x4 f0 v1 v2 f3 v4 v5 f6 v7 v8 f9 f10 p11 f12 p13 f14 v15 f16 v17 v18 v19 v20 f21 v22 v23 = some out) (hkd : out.1 = 0) : xMet l yB_binary wyB_binary (16 * d + 7) 3 18 (400 * d + 180) D cT aK aV sz [.ref a0, .int x1, .int x2, .int x3, .int x4] [(a0, .inr (0, [.ref a1, .ref a3, .ref a5, .ref a7, .ref a8, .ref a13, .int v19, .int v20])), (a1, .inr (1, [.ref a2, .int v1, .int v2])), (a2, .inl (cT 0, 4096, .inl f0)), (a3, .inr (1, [.ref a4, .int v4, .int v5])), (a4, .inl (cT 0, 4096, .inl f3)), (a5, .inr (1, [.ref a6, .int v7, .int v8])), (a6, .inl (cT 0, 4096, .inl f6)), (a7, .inl (cT 3, 8, .inr (.inr (.inr (.inr rf0))))), (a8, .inr (3, [.ref a9, .ref a10, .ref p11, .ref p13, .int v15])), (a9, .inl (cT 1, 2048, .inl f9)), (a10, .inl (cT 1, 2048, .inl f10)), (p11, .inl (cT 1, 2048, .inl f12)), (p13, .inl (cT 1, 2048, .inl f14)), (a13, .inr (2, [.ref a14, .int v17, .int v18])), (a14, .inl (cT 2, 4096, .inr (.inl f16))), (a15, .inr (2, [.ref a16, .int v22, .int v23])), (a16, .inl (cT 2, 4096, .inr (.inl f21)))] (fun A => va_Qv (fun _ : Unit => True) (fun _ t => xB D xcl cT A [(a0, .inr (0, [.ref a1, .ref a3, .ref a5, .ref a7, .ref a8, .ref b1, .int v19, .int out.2.2.2.2.2.2.2])), (a1, .inr (1, [.ref a2, .int v1, .int v2])), (a2, .inl (cT 0, 4096, .inl f0)), (a3, .inr (1, [.ref a4, .int v4, .int v5])), (a4, .inl (cT 0, 4096, .inl f3)), (a5, .inr (1, [.ref a6, .int out.2.2.1, .int out.2.2.2.1])), (a6, .inl (cT 0, 4096, .inl out.2.1)), (a7, .inl (cT 3, 8, .inr (.inr (.inr (.inr (va_up rf0 x1.toNatClampNeg (some a13))))))), (a8, .inr (3, [.ref a9, .ref a10, .ref p11, .ref p13, .int v15])), (a9, .inl (cT 1, 2048, .inl f9)), (a10, .inl (cT 1, 2048, .inl f10)), (p11, .inl (cT 1, 2048, .inl f12)), (p13, .inl (cT 1, 2048, .inl f14)), (a13, .inr (2, [.ref a14, .int out.2.2.2.2.2.1, .int out.2.2.2.2.2.2.1])), (a14, .inl (cT 2, 4096, .inr (.inl out.2.2.2.2.1))), (a15, .inr (2, [.ref a16, .int v22, .int v23])), (a16, .inl (cT 2, 4096, .inr (.inl f21)))] t) A) := by
  refine Met.ofW (cc := prog_1_method_6_code) (maxL := 5) (ret := none) (by decide) rfl ?_
  intro p e s m args below meth c s₁ B hml hv
  obtain ⟨rfl, hsz, hZ, hP, hK, hD0⟩ := hv
  have hx := B.exec
  have hb := B.bytes
  have hr := B.returns
  have hts := atoms_spec (ws := wyB_binary) B.pre
  have htx := fun w h => hts w (List.mem_cons_of_mem _ h)
  have hown : s.vm.findClass "ValueBench" = some m.cls := findClass_of_methodNamed B.named
  have hlocks := B.notSynchronized
  subst hsz
  have hD := hD0.self (sz := s.heap.size)
  generalize hAe : va_A [(a0, .inr (0, [.ref a1, .ref a3, .ref a5, .ref a7, .ref a8, .ref a13, .int v19, .int v20])), (a1, .inr (1, [.ref a2, .int v1, .int v2])), (a2, .inl (cT 0, 4096, .inl f0)), (a3, .inr (1, [.ref a4, .int v4, .int v5])), (a4, .inl (cT 0, 4096, .inl f3)), (a5, .inr (1, [.ref a6, .int v7, .int v8])), (a6, .inl (cT 0, 4096, .inl f6)), (a7, .inl (cT 3, 8, .inr (.inr (.inr (.inr rf0))))), (a8, .inr (3, [.ref a9, .ref a10, .ref p11, .ref p13, .int v15])), (a9, .inl (cT 1, 2048, .inl f9)), (a10, .inl (cT 1, 2048, .inl f10)), (p11, .inl (cT 1, 2048, .inl f12)), (p13, .inl (cT 1, 2048, .inl f14)), (a13, .inr (2, [.ref a14, .int v17, .int v18])), (a14, .inl (cT 2, 4096, .inr (.inl f16))), (a15, .inr (2, [.ref a16, .int v22, .int v23])), (a16, .inl (cT 2, 4096, .inr (.inl f21)))] s.heap.size = A at hD hZ ⊢
  have hA : ∀ q : Nat, s.heap.size ≤ q → A q := fun q h => by rw [← hAe]; exact Or.inr h
  have hS : va_S A s.heap s.heap [] := va_S.rf
  have hP : va_P D xcl [(a0, .inr (0, [.ref a1, .ref a3, .ref a5, .ref a7, .ref a8, .ref a13, .int v19, .int v20])), (a1, .inr (1, [.ref a2, .int v1, .int v2])), (a2, .inl (cT 0, 4096, .inl f0)), (a3, .inr (1, [.ref a4, .int v4, .int v5])), (a4, .inl (cT 0, 4096, .inl f3)), (a5, .inr (1, [.ref a6, .int v7, .int v8])), (a6, .inl (cT 0, 4096, .inl f6)), (a7, .inl (cT 3, 8, .inr (.inr (.inr (.inr rf0))))), (a8, .inr (3, [.ref a9, .ref a10, .ref p11, .ref p13, .int v15])), (a9, .inl (cT 1, 2048, .inl f9)), (a10, .inl (cT 1, 2048, .inl f10)), (p11, .inl (cT 1, 2048, .inl f12)), (p13, .inl (cT 1, 2048, .inl f14)), (a13, .inr (2, [.ref a14, .int v17, .int v18])), (a14, .inl (cT 2, 4096, .inr (.inl f16))), (a15, .inr (2, [.ref a16, .int v22, .int v23])), (a16, .inl (cT 2, 4096, .inr (.inl f21)))] s.heap := hP
  have hl := lv_entry ([.ref a0, .int x1, .int x2, .int x3, .int x4]) (n := 5) (Nat.le_of_ble_eq_true rfl)
  rw [lg_entry_eq]
  generalize (lg_sl ([.ref a0, .int x1, .int x2, .int x3, .int x4]) ++ List.replicate (5 - (lg_sl ([.ref a0, .int x1, .int x2, .int x3, .int x4])).length) Slot.unset).toArray = ls at hl ⊢
  have hl : lv_has ls 5 [(0, .ref a0), (1, .int x1), (2, .int x2), (3, .int x3), (4, .int x4)] := hl
  unfold fB_binarya at hf
  refine lv_iload_n hx hb dB_binary_0 rfl (lv_at hl 1 rfl) ?_
  obtain ⟨o1, hq2, hf⟩ := xbind hf
  obtain ⟨hPc, hDc, hFc⟩ := xcut (wc := []) hP hD hS hA [] rfl rfl (by decide)
  refine va_calli (va_runS (As := [.int x1]) (rest := []) ⟨hx, hb, hml, hown, htx⟩ (gB_isRegister l hl9 D cT aK aV s.heap.size n x1 o1 hq2) ⟨callB_of 1 htx (xw_goodC kw_2_18) rfl rfl rfl (htx _ kw_1_1) (htx _ kw_2_16) ⟨by decide, by decide, by decide +kernel⟩ ⟨Nat.le_of_ble_eq_true rfl, Nat.le_of_ble_eq_true rfl⟩, htx _ kw_2_17⟩ ⟨xPre_blind, (fun U hU hW => ⟨rfl, xPre_of hZ hS hFc hPc hDc hK U hU hW⟩)⟩ rfl rfl hl.1 rfl (lv_room (Nat.le_of_ble_eq_true rfl)) dB_binary_1 ⟨Nat.le_of_ble_eq_true rfl, Nat.le_of_ble_eq_true rfl⟩) hS (fun q _ h => hFc q h) hFc (fun r3 u9 t H1 locs ht hvm hr9 hB hz1 hk1 hS => ?_)
  obtain ⟨hP1, hK1, hD1⟩ := hB
  rw [ht] at hP1
  obtain ⟨hP, hD⟩ := xjoin (W := [(a0, .inr (0, [.ref a1, .ref a3, .ref a5, .ref a7, .ref a8, .ref a13, .int v19, .int v20])), (a1, .inr (1, [.ref a2, .int v1, .int v2])), (a2, .inl (cT 0, 4096, .inl f0)), (a3, .inr (1, [.ref a4, .int v4, .int v5])), (a4, .inl (cT 0, 4096, .inl f3)), (a5, .inr (1, [.ref a6, .int v7, .int v8])), (a6, .inl (cT 0, 4096, .inl f6)), (a7, .inl (cT 3, 8, .inr (.inr (.inr (.inr rf0))))), (a8, .inr (3, [.ref a9, .ref a10, .ref p11, .ref p13, .int v15])), (a9, .inl (cT 1, 2048, .inl f9)), (a10, .inl (cT 1, 2048, .inl f10)), (p11, .inl (cT 1, 2048, .inl f12)), (p13, .inl (cT 1, 2048, .inl f14)), (a13, .inr (2, [.ref a14, .int v17, .int v18])), (a14, .inl (cT 2, 4096, .inr (.inl f16))), (a15, .inr (2, [.ref a16, .int v22, .int v23])), (a16, .inl (cT 2, 4096, .inr (.inl f21)))]) hP hD [] [0, 1, 2, 3, 4, 5, 6, 7, 8, 9, 10, 11, 12, 13, 14, 15, 16] 17 rfl rfl (by decide) (by decide) hk1 hFc hP1 hD1
  generalize H1 = H at hP hS ⊢
  rw [hr9]
  refine W.eq (g2 := F0 m 4 ls [.int o1]) rfl ?_
  refine lv_if_eq (tgt := 34) hx hb dB_binary_4 (by decide) (fun hc => ?_) (fun hc => ?_)
  · rw [if_pos hc] at hf
    refine lv_iconst (v := 0) hx hb dB_binary_34 (by decide) ?_
    obtain ⟨o4, hq5, hf⟩ := xbind hf
    by_cases hk6 : o4 = 0
    · rw [if_pos hk6] at hf
      obtain ⟨hPc, hDc, hFc⟩ := xcut (wc := []) hP hD hS hA [] rfl rfl (by decide)
      refine va_callv (va_runS (As := [.int 0]) (rest := []) ⟨hx, hb, hml, hown, htx⟩ (gB_demand l hl9 D cT aK aV H.size n (0 : Int32) o4 hq5 hk6) ⟨callB_of 1 htx (xw_goodC kw_1_221) rfl rfl rfl (htx _ kw_1_1) (htx _ kw_1_219) ⟨by decide, by decide, by decide +kernel⟩ ⟨Nat.le_of_ble_eq_true rfl, Nat.le_of_ble_eq_true rfl⟩, htx _ kw_1_220⟩ ⟨xPre_blind, (fun U hU hW => ⟨rfl, xPre_of hZ hS hFc hPc hDc hK U hU hW⟩)⟩ rfl rfl hl.1 rfl (lv_room (Nat.le_of_ble_eq_true rfl)) dB_binary_35 ⟨Nat.le_of_ble_eq_true rfl, Nat.le_of_ble_eq_true rfl⟩) hS (fun q _ h => hFc q h) hFc (fun u9 t H1 locs ht hvm hr9 hB hz1 hk1 hS => ?_)
      obtain ⟨hP1, hK1, hD1⟩ := hB
      rw [ht] at hP1
      obtain ⟨hP, hD⟩ := xjoin (W := [(a0, .inr (0, [.ref a1, .ref a3, .ref a5, .ref a7, .ref a8, .ref a13, .int v19, .int v20])), (a1, .inr (1, [.ref a2, .int v1, .int v2])), (a2, .inl (cT 0, 4096, .inl f0)), (a3, .inr (1, [.ref a4, .int v4, .int v5])), (a4, .inl (cT 0, 4096, .inl f3)), (a5, .inr (1, [.ref a6, .int v7, .int v8])), (a6, .inl (cT 0, 4096, .inl f6)), (a7, .inl (cT 3, 8, .inr (.inr (.inr (.inr rf0))))), (a8, .inr (3, [.ref a9, .ref a10, .ref p11, .ref p13, .int v15])), (a9, .inl (cT 1, 2048, .inl f9)), (a10, .inl (cT 1, 2048, .inl f10)), (p11, .inl (cT 1, 2048, .inl f12)), (p13, .inl (cT 1, 2048, .inl f14)), (a13, .inr (2, [.ref a14, .int v17, .int v18])), (a14, .inl (cT 2, 4096, .inr (.inl f16))), (a15, .inr (2, [.ref a16, .int v22, .int v23])), (a16, .inl (cT 2, 4096, .inr (.inl f21)))]) hP hD [] [0, 1, 2, 3, 4, 5, 6, 7, 8, 9, 10, 11, 12, 13, 14, 15, 16] 17 rfl rfl (by decide) (by decide) hk1 hFc hP1 hD1
      generalize H1 = H at hP hS ⊢
      refine lv_aload_n hx hb dB_binary_38 rfl (lv_at hl 0 rfl) ?_
      refine va_get (D := D) (ci := 0) (v := .ref a13) (C := "ValueBench") (T := TB) (N := 8) hx hb htx inB hown hK hP 0 rfl rfl 5 (by decide) (htx _ kw_1_100) (fun _ h9 => h9) rfl dB_binary_39 ?_
      obtain ⟨o7, hq8, hf⟩ := xbind hf
      obtain ⟨hPc, hDc, hFc⟩ := xcut (wc := [(a13, .inr (2, [.ref a14, .int v17, .int v18])), (a14, .inl (cT 2, 4096, .inr (.inl f16)))]) hP hD hS hA [13, 14] rfl rfl (by decide)
      refine va_callv (va_runV (C := "ValueBench$Row") (As := []) (rest := []) ⟨hx, hb, hml, hown, htx⟩ (gR_clear l hl9 D cT aK aV H.size n a13 a14 f16 v17 v18 o7 hq8) ⟨callB_of 0 htx (xw_goodC kw_2_22) rfl rfl rfl (htx _ kw_1_4) (htx _ kw_2_19) ⟨by decide, by decide, by decide +kernel⟩ ⟨Nat.le_of_ble_eq_true rfl, Nat.le_of_ble_eq_true rfl⟩, (htx _ kw_2_20), (htx _ kw_2_21)⟩ ⟨xPre_blind, va_recv hK hP (ci := 2) rfl (q0 := 13) rfl, (fun U hU hW => ⟨rfl, xPre_of hZ hS hFc hPc hDc hK U hU hW⟩)⟩ rfl rfl hl.1 rfl (lv_room (Nat.le_of_ble_eq_true rfl)) dB_binary_42 ⟨Nat.le_of_ble_eq_true rfl, Nat.le_of_ble_eq_true rfl⟩) hS (fun q _ h => hFc q h) hFc (fun u9 t H1 locs ht hvm hr9 hB hz1 hk1 hS => ?_)
      obtain ⟨hP1, hK1, hD1⟩ := hB
      rw [ht] at hP1
      obtain ⟨hP, hD⟩ := xjoin (W := [(a0, .inr (0, [.ref a1, .ref a3, .ref a5, .ref a7, .ref a8, .ref a13, .int v19, .int v20])), (a1, .inr (1, [.ref a2, .int v1, .int v2])), (a2, .inl (cT 0, 4096, .inl f0)), (a3, .inr (1, [.ref a4, .int v4, .int v5])), (a4, .inl (cT 0, 4096, .inl f3)), (a5, .inr (1, [.ref a6, .int v7, .int v8])), (a6, .inl (cT 0, 4096, .inl f6)), (a7, .inl (cT 3, 8, .inr (.inr (.inr (.inr rf0))))), (a8, .inr (3, [.ref a9, .ref a10, .ref p11, .ref p13, .int v15])), (a9, .inl (cT 1, 2048, .inl f9)), (a10, .inl (cT 1, 2048, .inl f10)), (p11, .inl (cT 1, 2048, .inl f12)), (p13, .inl (cT 1, 2048, .inl f14)), (a15, .inr (2, [.ref a16, .int v22, .int v23])), (a16, .inl (cT 2, 4096, .inr (.inl f21))), (a13, .inr (2, [.ref a14, .int o7.1, .int o7.2])), (a14, .inl (cT 2, 4096, .inr (.inl f16)))]) hP hD [13, 14] [0, 1, 2, 3, 4, 5, 6, 7, 8, 9, 10, 11, 12, 15, 16] 15 rfl rfl (by decide) (by decide) hk1 hFc hP1 hD1
      generalize H1 = H at hP hS ⊢
      refine lv_aload_n hx hb dB_binary_45 rfl (lv_at hl 0 rfl) ?_
      refine lv_iload_n hx hb dB_binary_46 rfl (lv_at hl 2 rfl) ?_
      refine lv_aload_n hx hb dB_binary_47 rfl (lv_at hl 0 rfl) ?_
      refine va_get (D := D) (ci := 0) (v := .ref a7) (C := "ValueBench") (T := TB) (N := 8) hx hb htx inB hown hK hP 0 rfl rfl 3 (by decide) (htx _ kw_1_98) (fun _ h9 => h9) rfl dB_binary_48 ?_
      refine lv_iload_n hx hb dB_binary_51 rfl (lv_at hl 3 rfl) ?_
      obtain ⟨hg9, hf⟩ := xifn hf
      refine va_aldq hx hb hK hP 7 3 rfl rfl hg9 dB_binary_52 ?_
      refine W.eq (g2 := F0 m 53 ls [va_rf (rf0 x3.toNatClampNeg), .int x2, .ref a0]) rfl ?_
      rw [hr3 hg9]
      refine W.eq (g2 := F0 m 53 ls [.ref a15, .int x2, .ref a0]) rfl ?_
      refine lv_aload_n hx hb dB_binary_53 rfl (lv_at hl 0 rfl) ?_
      refine va_get (D := D) (ci := 0) (v := .ref a7) (C := "ValueBench") (T := TB) (N := 8) hx hb htx inB hown hK hP 0 rfl rfl 3 (by decide) (htx _ kw_1_98) (fun _ h9 => h9) rfl dB_binary_54 ?_
      refine lv_iload hx hb dB_binary_57 (lv_at hl 4 rfl) ?_
      obtain ⟨hg10, hf⟩ := xifn hf
      refine va_aldq hx hb hK hP 7 3 rfl rfl hg10 dB_binary_59 ?_
      refine W.eq (g2 := F0 m 60 ls [va_rf (rf0 x4.toNatClampNeg), .ref a15, .int x2, .ref a0]) rfl ?_
      rw [hr4 hg10]
      refine W.eq (g2 := F0 m 60 ls [.ref a15, .ref a15, .int x2, .ref a0]) rfl ?_
      refine lv_aload_n hx hb dB_binary_60 rfl (lv_at hl 0 rfl) ?_
      refine va_get (D := D) (ci := 0) (v := .ref a13) (C := "ValueBench") (T := TB) (N := 8) hx hb htx inB hown hK hP 0 rfl rfl 5 (by decide) (htx _ kw_1_100) (fun _ h9 => h9) rfl dB_binary_61 ?_
      obtain ⟨o11, hq12, hf⟩ := xbind hf
      obtain ⟨hPc, hDc, hFc⟩ := xcut (wc := [(a15, .inr (2, [.ref a16, .int v22, .int v23])), (a16, .inl (cT 2, 4096, .inr (.inl f21))), (a13, .inr (2, [.ref a14, .int o7.1, .int o7.2])), (a14, .inl (cT 2, 4096, .inr (.inl f16)))]) hP hD hS hA [13, 14, 15, 16] rfl rfl (by decide)
      refine va_calli (va_runS (As := [.int x2, .ref a15, .ref a15, .ref a13]) (rest := [.ref a0]) ⟨hx, hb, hml, hown, htx⟩ (gA_applya l hl9 D cT aK aV H.size d n a15 a16 a13 a14 x2 f21 v22 v23 f16 o7.1 o7.2 o11 hq12) ⟨callB_of 4 htx (xw_goodC kw_3_105) rfl rfl rfl (htx _ kw_1_21) (htx _ kw_3_103) ⟨by decide, by decide, by decide +kernel⟩ ⟨(by show (16 * d + 5) + 1 ≤ 16 * d + 7; omega), (by show 8 + (4 + 11) + (400 * d + 157) ≤ 400 * d + 180; omega)⟩, htx _ kw_3_104⟩ ⟨xPre_blind, (fun U hU hW => ⟨rfl, xPre_of hZ hS hFc hPc hDc hK U hU hW⟩)⟩ rfl rfl hl.1 rfl (lv_room (Nat.le_of_ble_eq_true rfl)) dB_binary_64 ⟨Nat.le_of_ble_eq_true rfl, Nat.le_of_ble_eq_true rfl⟩) hS (fun q _ h => hFc q h) hFc (fun r13 u9 t H1 locs ht hvm hr9 hB hz1 hk1 hS => ?_)
      obtain ⟨hP1, hK1, hD1⟩ := hB
      rw [ht] at hP1
      obtain ⟨hP, hD⟩ := xjoin (W := [(a0, .inr (0, [.ref a1, .ref a3, .ref a5, .ref a7, .ref a8, .ref a13, .int v19, .int v20])), (a1, .inr (1, [.ref a2, .int v1, .int v2])), (a2, .inl (cT 0, 4096, .inl f0)), (a3, .inr (1, [.ref a4, .int v4, .int v5])), (a4, .inl (cT 0, 4096, .inl f3)), (a5, .inr (1, [.ref a6, .int v7, .int v8])), (a6, .inl (cT 0, 4096, .inl f6)), (a7, .inl (cT 3, 8, .inr (.inr (.inr (.inr rf0))))), (a8, .inr (3, [.ref a9, .ref a10, .ref p11, .ref p13, .int v15])), (a9, .inl (cT 1, 2048, .inl f9)), (a10, .inl (cT 1, 2048, .inl f10)), (p11, .inl (cT 1, 2048, .inl f12)), (p13, .inl (cT 1, 2048, .inl f14)), (a15, .inr (2, [.ref a16, .int v22, .int v23])), (a16, .inl (cT 2, 4096, .inr (.inl f21))), (a13, .inr (2, [.ref a14, .int o11.2.2.1, .int o11.2.2.2])), (a14, .inl (cT 2, 4096, .inr (.inl o11.2.1)))]) hP hD [13, 14, 15, 16] [0, 1, 2, 3, 4, 5, 6, 7, 8, 9, 10, 11, 12] 13 rfl rfl (by decide) (by decide) hk1 hFc hP1 hD1
      generalize H1 = H at hP hS ⊢
      rw [hr9]
      refine W.eq (g2 := F0 m 67 ls [.int o11.1, .ref a0]) rfl ?_
      obtain ⟨o14, hq15, hf⟩ := xbind hf
      by_cases hk16 : o14.1 = 0
      · rw [if_pos hk16] at hf
        obtain ⟨hPc, hDc, hFc⟩ := xcut (wc := [(a0, .inr (0, [.ref a1, .ref a3, .ref a5, .ref a7, .ref a8, .ref a13, .int v19, .int v20])), (a1, .inr (1, [.ref a2, .int v1, .int v2])), (a2, .inl (cT 0, 4096, .inl f0)), (a3, .inr (1, [.ref a4, .int v4, .int v5])), (a4, .inl (cT 0, 4096, .inl f3)), (a5, .inr (1, [.ref a6, .int v7, .int v8])), (a6, .inl (cT 0, 4096, .inl f6)), (a7, .inl (cT 3, 8, .inr (.inr (.inr (.inr rf0))))), (a8, .inr (3, [.ref a9, .ref a10, .ref p11, .ref p13, .int v15])), (a9, .inl (cT 1, 2048, .inl f9)), (a10, .inl (cT 1, 2048, .inl f10)), (p11, .inl (cT 1, 2048, .inl f12)), (p13, .inl (cT 1, 2048, .inl f14)), (a13, .inr (2, [.ref a14, .int o11.2.2.1, .int o11.2.2.2])), (a14, .inl (cT 2, 4096, .inr (.inl o11.2.1)))]) hP hD hS hA [0, 1, 2, 3, 4, 5, 6, 7, 8, 9, 10, 11, 12, 15, 16] rfl rfl (by decide)
        refine va_callv (va_runV (C := "ValueBench") (As := [.int o11.1]) (rest := []) ⟨hx, hb, hml, hown, htx⟩ (gB_demandDone l hl9 D cT aK aV H.size n a0 a1 a2 a3 a4 a5 a6 a7 a8 a9 a10 a13 a14 rf0 o11.1 f0 v1 v2 f3 v4 v5 f6 v7 v8 f9 f10 p11 f12 p13 f14 v15 o11.2.1 o11.2.2.1 o11.2.2.2 v19 v20 o14 hq15 hk16) ⟨callB_of 1 htx (xw_goodC kw_3_222) rfl rfl rfl (htx _ kw_1_1) (htx _ kw_3_219) ⟨by decide, by decide, by decide +kernel⟩ ⟨Nat.le_of_ble_eq_true rfl, Nat.le_of_ble_eq_true rfl⟩, (htx _ kw_3_221), (htx _ kp_B_demandDone)⟩ ⟨xPre_blind, va_recv hK hP (ci := 0) rfl (q0 := 0) rfl, (fun U hU hW => ⟨rfl, xPre_of hZ hS hFc hPc hDc hK U hU hW⟩)⟩ rfl rfl hl.1 rfl (lv_room (Nat.le_of_ble_eq_true rfl)) dB_binary_67 ⟨Nat.le_of_ble_eq_true rfl, Nat.le_of_ble_eq_true rfl⟩) hS (fun q _ h => hFc q h) hFc (fun u9 t H1 locs ht hvm hr9 hB hz1 hk1 hS => ?_)
        obtain ⟨hP1, hK1, hD1⟩ := hB
        rw [ht] at hP1
        obtain ⟨hP, hD⟩ := xjoin (W := [(a15, .inr (2, [.ref a16, .int v22, .int v23])), (a16, .inl (cT 2, 4096, .inr (.inl f21))), (a0, .inr (0, [.ref a1, .ref a3, .ref a5, .ref a7, .ref a8, .ref a13, .int v19, .int o14.2])), (a1, .inr (1, [.ref a2, .int v1, .int v2])), (a2, .inl (cT 0, 4096, .inl f0)), (a3, .inr (1, [.ref a4, .int v4, .int v5])), (a4, .inl (cT 0, 4096, .inl f3)), (a5, .inr (1, [.ref a6, .int v7, .int v8])), (a6, .inl (cT 0, 4096, .inl f6)), (a7, .inl (cT 3, 8, .inr (.inr (.inr (.inr rf0))))), (a8, .inr (3, [.ref a9, .ref a10, .ref p11, .ref p13, .int v15])), (a9, .inl (cT 1, 2048, .inl f9)), (a10, .inl (cT 1, 2048, .inl f10)), (p11, .inl (cT 1, 2048, .inl f12)), (p13, .inl (cT 1, 2048, .inl f14)), (a13, .inr (2, [.ref a14, .int o11.2.2.1, .int o11.2.2.2])), (a14, .inl (cT 2, 4096, .inr (.inl o11.2.1)))]) hP hD [0, 1, 2, 3, 4, 5, 6, 7, 8, 9, 10, 11, 12, 15, 16] [13, 14] 2 rfl rfl (by decide) (by decide) hk1 hFc hP1 hD1
        generalize H1 = H at hP hS ⊢
        refine lv_aload_n hx hb dB_binary_70 rfl (lv_at hl 0 rfl) ?_
        refine lv_iload_n hx hb dB_binary_71 rfl (lv_at hl 1 rfl) ?_
        obtain ⟨o17, hq18, hf⟩ := xbind hf
        by_cases hk19 : o17.1 = 0
        · rw [if_pos hk19] at hf
          obtain ⟨hPc, hDc, hFc⟩ := xcut (wc := [(a0, .inr (0, [.ref a1, .ref a3, .ref a5, .ref a7, .ref a8, .ref a13, .int v19, .int o14.2])), (a1, .inr (1, [.ref a2, .int v1, .int v2])), (a2, .inl (cT 0, 4096, .inl f0)), (a3, .inr (1, [.ref a4, .int v4, .int v5])), (a4, .inl (cT 0, 4096, .inl f3)), (a5, .inr (1, [.ref a6, .int v7, .int v8])), (a6, .inl (cT 0, 4096, .inl f6)), (a7, .inl (cT 3, 8, .inr (.inr (.inr (.inr rf0))))), (a8, .inr (3, [.ref a9, .ref a10, .ref p11, .ref p13, .int v15])), (a9, .inl (cT 1, 2048, .inl f9)), (a10, .inl (cT 1, 2048, .inl f10)), (p11, .inl (cT 1, 2048, .inl f12)), (p13, .inl (cT 1, 2048, .inl f14)), (a13, .inr (2, [.ref a14, .int o11.2.2.1, .int o11.2.2.2])), (a14, .inl (cT 2, 4096, .inr (.inl o11.2.1)))]) hP hD hS hA [2, 3, 4, 5, 6, 7, 8, 9, 10, 11, 12, 13, 14, 15, 16] rfl rfl (by decide)
          refine va_calli (va_runV (C := "ValueBench") (As := [.int x1]) (rest := []) ⟨hx, hb, hml, hown, htx⟩ (gB_keepSpare l hl9 D cT aK aV H.size d n a0 a1 a2 a3 a4 a5 a6 a7 a8 a9 a10 a13 a14 rf0 b1 x1 f0 v1 v2 f3 v4 v5 f6 v7 v8 f9 f10 p11 f12 p13 f14 v15 o11.2.1 o11.2.2.1 o11.2.2.2 v19 o14.2 hr1 o17 hq18 hk19) ⟨callB_of 1 htx (xw_goodC kw_3_17) rfl rfl rfl (htx _ kw_1_1) (htx _ kw_3_14) ⟨by decide, by decide, by decide +kernel⟩ ⟨(by show (16 * d + 6) + 1 ≤ 16 * d + 7; omega), (by show 8 + (3 + 11) + (400 * d + 100) ≤ 400 * d + 180; omega)⟩, (htx _ kw_3_16), (htx _ kp_B_keepSpare)⟩ ⟨xPre_blind, va_recv hK hP (ci := 0) rfl (q0 := 2) rfl, (fun U hU hW => ⟨rfl, xPre_of hZ hS hFc hPc hDc hK U hU hW⟩)⟩ rfl rfl hl.1 rfl (lv_room (Nat.le_of_ble_eq_true rfl)) dB_binary_72 ⟨Nat.le_of_ble_eq_true rfl, Nat.le_of_ble_eq_true rfl⟩) hS (fun q _ h => hFc q h) hFc (fun r20 u9 t H1 locs ht hvm hr9 hB hz1 hk1 hS => ?_)
          obtain ⟨hP1, hK1, hD1⟩ := hB
          rw [ht] at hP1
          obtain ⟨hP, hD⟩ := xjoin (W := [(a15, .inr (2, [.ref a16, .int v22, .int v23])), (a16, .inl (cT 2, 4096, .inr (.inl f21))), (a0, .inr (0, [.ref a1, .ref a3, .ref a5, .ref a7, .ref a8, .ref b1, .int v19, .int o14.2])), (a1, .inr (1, [.ref a2, .int v1, .int v2])), (a2, .inl (cT 0, 4096, .inl f0)), (a3, .inr (1, [.ref a4, .int v4, .int v5])), (a4, .inl (cT 0, 4096, .inl f3)), (a5, .inr (1, [.ref a6, .int o17.2.2.2.1, .int o17.2.2.2.2])), (a6, .inl (cT 0, 4096, .inl o17.2.2.1)), (a7, .inl (cT 3, 8, .inr (.inr (.inr (.inr (va_up rf0 x1.toNatClampNeg (some a13))))))), (a8, .inr (3, [.ref a9, .ref a10, .ref p11, .ref p13, .int v15])), (a9, .inl (cT 1, 2048, .inl f9)), (a10, .inl (cT 1, 2048, .inl f10)), (p11, .inl (cT 1, 2048, .inl f12)), (p13, .inl (cT 1, 2048, .inl f14)), (a13, .inr (2, [.ref a14, .int o11.2.2.1, .int o11.2.2.2])), (a14, .inl (cT 2, 4096, .inr (.inl o11.2.1)))]) hP hD [2, 3, 4, 5, 6, 7, 8, 9, 10, 11, 12, 13, 14, 15, 16] [0, 1] 2 rfl rfl (by decide) (by decide) hk1 hFc hP1 hD1
          generalize H1 = H at hP hS ⊢
          rw [hr9]
          refine W.eq (g2 := F0 m 75 ls [.int o17.2.1]) rfl ?_
          refine lv_pop hx hb dB_binary_75 rfl ?_
          obtain rfl := Option.some.inj hf
          obtain ⟨hP9, hD9⟩ := xsub (wc := [(a0, .inr (0, [.ref a1, .ref a3, .ref a5, .ref a7, .ref a8, .ref b1, .int v19, .int o14.2])), (a1, .inr (1, [.ref a2, .int v1, .int v2])), (a2, .inl (cT 0, 4096, .inl f0)), (a3, .inr (1, [.ref a4, .int v4, .int v5])), (a4, .inl (cT 0, 4096, .inl f3)), (a5, .inr (1, [.ref a6, .int o17.2.2.2.1, .int o17.2.2.2.2])), (a6, .inl (cT 0, 4096, .inl o17.2.2.1)), (a7, .inl (cT 3, 8, .inr (.inr (.inr (.inr (va_up rf0 x1.toNatClampNeg (some a13))))))), (a8, .inr (3, [.ref a9, .ref a10, .ref p11, .ref p13, .int v15])), (a9, .inl (cT 1, 2048, .inl f9)), (a10, .inl (cT 1, 2048, .inl f10)), (p11, .inl (cT 1, 2048, .inl f12)), (p13, .inl (cT 1, 2048, .inl f14)), (a13, .inr (2, [.ref a14, .int o11.2.2.1, .int o11.2.2.2])), (a14, .inl (cT 2, 4096, .inr (.inl o11.2.1))), (a15, .inr (2, [.ref a16, .int v22, .int v23])), (a16, .inl (cT 2, 4096, .inr (.inl f21)))]) hP hD [2, 3, 4, 5, 6, 7, 8, 9, 10, 11, 12, 13, 14, 15, 16, 0, 1] rfl rfl (by decide)
          refine W.widen (k := 3) (n := 18) (Nat.le_of_ble_eq_true rfl) (Nat.le_of_ble_eq_true rfl) ?_
          exact W.vret hx hb hr (fun t ht hW => ⟨⟨(), rfl, trivial, by rw [ht]; exact hP9, va_K.moved hW.alike hK, hD9⟩, hS.F ht⟩) hS.2.2 dB_binary_76
        rw [if_neg hk19] at hf
        by_cases hk21 : o17.1 = 1
        · rw [if_pos hk21] at hf
          obtain rfl := Option.some.inj hf
          exact absurd (show (1 : Nat) = 0 from hkd) (by decide)
        rw [if_neg hk21] at hf
        exact nomatch hf
      rw [if_neg hk16] at hf
      by_cases hk23 : o14.1 = 1
      · rw [if_pos hk23] at hf
        obtain rfl := Option.some.inj hf
        exact absurd (show (2 : Nat) = 0 from hkd) (by decide)
      rw [if_neg hk23] at hf
      exact nomatch hf
    rw [if_neg hk6] at hf
    by_cases hk24 : o4 = 1
    · rw [if_pos hk24] at hf
      obtain rfl := Option.some.inj hf
      exact absurd (show (3 : Nat) = 0 from hkd) (by decide)
    rw [if_neg hk24] at hf
    exact nomatch hf
  · rw [if_neg hc] at hf
    refine lv_iload_n hx hb dB_binary_7 rfl (lv_at hl 2 rfl) ?_
    refine lv_iconst (v := 4) hx hb dB_binary_8 (by decide) ?_
    obtain ⟨o4, hq5, hf⟩ := xbind hf
    obtain ⟨hPc, hDc, hFc⟩ := xcut (wc := []) hP hD hS hA [] rfl rfl (by decide)
    refine va_calli (va_runS (As := [.int x2, .int 4]) (rest := []) ⟨hx, hb, hml, hown, htx⟩ (gB_isWithin l hl9 D cT aK aV H.size n x2 (4 : Int32) o4 hq5) ⟨callB_of 2 htx (xw_goodC kw_1_218) rfl rfl rfl (htx _ kw_1_1) (htx _ kw_1_216) ⟨by decide, by decide, by decide +kernel⟩ ⟨Nat.le_of_ble_eq_true rfl, Nat.le_of_ble_eq_true rfl⟩, htx _ kw_1_217⟩ ⟨xPre_blind, (fun U hU hW => ⟨rfl, xPre_of hZ hS hFc hPc hDc hK U hU hW⟩)⟩ rfl rfl hl.1 rfl (lv_room (Nat.le_of_ble_eq_true rfl)) dB_binary_9 ⟨Nat.le_of_ble_eq_true rfl, Nat.le_of_ble_eq_true rfl⟩) hS (fun q _ h => hFc q h) hFc (fun r6 u9 t H1 locs ht hvm hr9 hB hz1 hk1 hS => ?_)
    obtain ⟨hP1, hK1, hD1⟩ := hB
    rw [ht] at hP1
    obtain ⟨hP, hD⟩ := xjoin (W := [(a0, .inr (0, [.ref a1, .ref a3, .ref a5, .ref a7, .ref a8, .ref a13, .int v19, .int v20])), (a1, .inr (1, [.ref a2, .int v1, .int v2])), (a2, .inl (cT 0, 4096, .inl f0)), (a3, .inr (1, [.ref a4, .int v4, .int v5])), (a4, .inl (cT 0, 4096, .inl f3)), (a5, .inr (1, [.ref a6, .int v7, .int v8])), (a6, .inl (cT 0, 4096, .inl f6)), (a7, .inl (cT 3, 8, .inr (.inr (.inr (.inr rf0))))), (a8, .inr (3, [.ref a9, .ref a10, .ref p11, .ref p13, .int v15])), (a9, .inl (cT 1, 2048, .inl f9)), (a10, .inl (cT 1, 2048, .inl f10)), (p11, .inl (cT 1, 2048, .inl f12)), (p13, .inl (cT 1, 2048, .inl f14)), (a13, .inr (2, [.ref a14, .int v17, .int v18])), (a14, .inl (cT 2, 4096, .inr (.inl f16))), (a15, .inr (2, [.ref a16, .int v22, .int v23])), (a16, .inl (cT 2, 4096, .inr (.inl f21)))]) hP hD [] [0, 1, 2, 3, 4, 5, 6, 7, 8, 9, 10, 11, 12, 13, 14, 15, 16] 17 rfl rfl (by decide) (by decide) hk1 hFc hP1 hD1
    generalize H1 = H at hP hS ⊢
    rw [hr9]
    refine W.eq (g2 := F0 m 12 ls [.int o4]) rfl ?_
    refine lv_if_eq (tgt := 34) hx hb dB_binary_12 (by decide) (fun hc => ?_) (fun hc => ?_)
    · rw [if_pos hc] at hf
      refine lv_iconst (v := 0) hx hb dB_binary_34 (by decide) ?_
      obtain ⟨o7, hq8, hf⟩ := xbind hf
      by_cases hk9 : o7 = 0
      · rw [if_pos hk9] at hf
        obtain ⟨hPc, hDc, hFc⟩ := xcut (wc := []) hP hD hS hA [] rfl rfl (by decide)
        refine va_callv (va_runS (As := [.int 0]) (rest := []) ⟨hx, hb, hml, hown, htx⟩ (gB_demand l hl9 D cT aK aV H.size n (0 : Int32) o7 hq8 hk9) ⟨callB_of 1 htx (xw_goodC kw_1_221) rfl rfl rfl (htx _ kw_1_1) (htx _ kw_1_219) ⟨by decide, by decide, by decide +kernel⟩ ⟨Nat.le_of_ble_eq_true rfl, Nat.le_of_ble_eq_true rfl⟩, htx _ kw_1_220⟩ ⟨xPre_blind, (fun U hU hW => ⟨rfl, xPre_of hZ hS hFc hPc hDc hK U hU hW⟩)⟩ rfl rfl hl.1 rfl (lv_room (Nat.le_of_ble_eq_true rfl)) dB_binary_35 ⟨Nat.le_of_ble_eq_true rfl, Nat.le_of_ble_eq_true rfl⟩) hS (fun q _ h => hFc q h) hFc (fun u9 t H1 locs ht hvm hr9 hB hz1 hk1 hS => ?_)
        obtain ⟨hP1, hK1, hD1⟩ := hB
        rw [ht] at hP1
        obtain ⟨hP, hD⟩ := xjoin (W := [(a0, .inr (0, [.ref a1, .ref a3, .ref a5, .ref a7, .ref a8, .ref a13, .int v19, .int v20])), (a1, .inr (1, [.ref a2, .int v1, .int v2])), (a2, .inl (cT 0, 4096, .inl f0)), (a3, .inr (1, [.ref a4, .int v4, .int v5])), (a4, .inl (cT 0, 4096, .inl f3)), (a5, .inr (1, [.ref a6, .int v7, .int v8])), (a6, .inl (cT 0, 4096, .inl f6)), (a7, .inl (cT 3, 8, .inr (.inr (.inr (.inr rf0))))), (a8, .inr (3, [.ref a9, .ref a10, .ref p11, .ref p13, .int v15])), (a9, .inl (cT 1, 2048, .inl f9)), (a10, .inl (cT 1, 2048, .inl f10)), (p11, .inl (cT 1, 2048, .inl f12)), (p13, .inl (cT 1, 2048, .inl f14)), (a13, .inr (2, [.ref a14, .int v17, .int v18])), (a14, .inl (cT 2, 4096, .inr (.inl f16))), (a15, .inr (2, [.ref a16, .int v22, .int v23])), (a16, .inl (cT 2, 4096, .inr (.inl f21)))]) hP hD [] [0, 1, 2, 3, 4, 5, 6, 7, 8, 9, 10, 11, 12, 13, 14, 15, 16] 17 rfl rfl (by decide) (by decide) hk1 hFc hP1 hD1
        generalize H1 = H at hP hS ⊢
        refine lv_aload_n hx hb dB_binary_38 rfl (lv_at hl 0 rfl) ?_
        refine va_get (D := D) (ci := 0) (v := .ref a13) (C := "ValueBench") (T := TB) (N := 8) hx hb htx inB hown hK hP 0 rfl rfl 5 (by decide) (htx _ kw_1_100) (fun _ h9 => h9) rfl dB_binary_39 ?_
        obtain ⟨o10, hq11, hf⟩ := xbind hf
        obtain ⟨hPc, hDc, hFc⟩ := xcut (wc := [(a13, .inr (2, [.ref a14, .int v17, .int v18])), (a14, .inl (cT 2, 4096, .inr (.inl f16)))]) hP hD hS hA [13, 14] rfl rfl (by decide)
        refine va_callv (va_runV (C := "ValueBench$Row") (As := []) (rest := []) ⟨hx, hb, hml, hown, htx⟩ (gR_clear l hl9 D cT aK aV H.size n a13 a14 f16 v17 v18 o10 hq11) ⟨callB_of 0 htx (xw_goodC kw_2_22) rfl rfl rfl (htx _ kw_1_4) (htx _ kw_2_19) ⟨by decide, by decide, by decide +kernel⟩ ⟨Nat.le_of_ble_eq_true rfl, Nat.le_of_ble_eq_true rfl⟩, (htx _ kw_2_20), (htx _ kw_2_21)⟩ ⟨xPre_blind, va_recv hK hP (ci := 2) rfl (q0 := 13) rfl, (fun U hU hW => ⟨rfl, xPre_of hZ hS hFc hPc hDc hK U hU hW⟩)⟩ rfl rfl hl.1 rfl (lv_room (Nat.le_of_ble_eq_true rfl)) dB_binary_42 ⟨Nat.le_of_ble_eq_true rfl, Nat.le_of_ble_eq_true rfl⟩) hS (fun q _ h => hFc q h) hFc (fun u9 t H1 locs ht hvm hr9 hB hz1 hk1 hS => ?_)
        obtain ⟨hP1, hK1, hD1⟩ := hB
        rw [ht] at hP1
        obtain ⟨hP, hD⟩ := xjoin (W := [(a0, .inr (0, [.ref a1, .ref a3, .ref a5, .ref a7, .ref a8, .ref a13, .int v19, .int v20])), (a1, .inr (1, [.ref a2, .int v1, .int v2])), (a2, .inl (cT 0, 4096, .inl f0)), (a3, .inr (1, [.ref a4, .int v4, .int v5])), (a4, .inl (cT 0, 4096, .inl f3)), (a5, .inr (1, [.ref a6, .int v7, .int v8])), (a6, .inl (cT 0, 4096, .inl f6)), (a7, .inl (cT 3, 8, .inr (.inr (.inr (.inr rf0))))), (a8, .inr (3, [.ref a9, .ref a10, .ref p11, .ref p13, .int v15])), (a9, .inl (cT 1, 2048, .inl f9)), (a10, .inl (cT 1, 2048, .inl f10)), (p11, .inl (cT 1, 2048, .inl f12)), (p13, .inl (cT 1, 2048, .inl f14)), (a15, .inr (2, [.ref a16, .int v22, .int v23])), (a16, .inl (cT 2, 4096, .inr (.inl f21))), (a13, .inr (2, [.ref a14, .int o10.1, .int o10.2])), (a14, .inl (cT 2, 4096, .inr (.inl f16)))]) hP hD [13, 14] [0, 1, 2, 3, 4, 5, 6, 7, 8, 9, 10, 11, 12, 15, 16] 15 rfl rfl (by decide) (by decide) hk1 hFc hP1 hD1
        generalize H1 = H at hP hS ⊢
        refine lv_aload_n hx hb dB_binary_45 rfl (lv_at hl 0 rfl) ?_
        refine lv_iload_n hx hb dB_binary_46 rfl (lv_at hl 2 rfl) ?_
        refine lv_aload_n hx hb dB_binary_47 rfl (lv_at hl 0 rfl) ?_
        refine va_get (D := D) (ci := 0) (v := .ref a7) (C := "ValueBench") (T := TB) (N := 8) hx hb htx inB hown hK hP 0 rfl rfl 3 (by decide) (htx _ kw_1_98) (fun _ h9 => h9) rfl dB_binary_48 ?_
        refine lv_iload_n hx hb dB_binary_51 rfl (lv_at hl 3 rfl) ?_
        obtain ⟨hg12, hf⟩ := xifn hf
        refine va_aldq hx hb hK hP 7 3 rfl rfl hg12 dB_binary_52 ?_
        refine W.eq (g2 := F0 m 53 ls [va_rf (rf0 x3.toNatClampNeg), .int x2, .ref a0]) rfl ?_
        rw [hr3 hg12]
        refine W.eq (g2 := F0 m 53 ls [.ref a15, .int x2, .ref a0]) rfl ?_
        refine lv_aload_n hx hb dB_binary_53 rfl (lv_at hl 0 rfl) ?_
        refine va_get (D := D) (ci := 0) (v := .ref a7) (C := "ValueBench") (T := TB) (N := 8) hx hb htx inB hown hK hP 0 rfl rfl 3 (by decide) (htx _ kw_1_98) (fun _ h9 => h9) rfl dB_binary_54 ?_
        refine lv_iload hx hb dB_binary_57 (lv_at hl 4 rfl) ?_
        obtain ⟨hg13, hf⟩ := xifn hf
        refine va_aldq hx hb hK hP 7 3 rfl rfl hg13 dB_binary_59 ?_
        refine W.eq (g2 := F0 m 60 ls [va_rf (rf0 x4.toNatClampNeg), .ref a15, .int x2, .ref a0]) rfl ?_
        rw [hr4 hg13]
        refine W.eq (g2 := F0 m 60 ls [.ref a15, .ref a15, .int x2, .ref a0]) rfl ?_
        refine lv_aload_n hx hb dB_binary_60 rfl (lv_at hl 0 rfl) ?_
        refine va_get (D := D) (ci := 0) (v := .ref a13) (C := "ValueBench") (T := TB) (N := 8) hx hb htx inB hown hK hP 0 rfl rfl 5 (by decide) (htx _ kw_1_100) (fun _ h9 => h9) rfl dB_binary_61 ?_
        obtain ⟨o14, hq15, hf⟩ := xbind hf
        obtain ⟨hPc, hDc, hFc⟩ := xcut (wc := [(a15, .inr (2, [.ref a16, .int v22, .int v23])), (a16, .inl (cT 2, 4096, .inr (.inl f21))), (a13, .inr (2, [.ref a14, .int o10.1, .int o10.2])), (a14, .inl (cT 2, 4096, .inr (.inl f16)))]) hP hD hS hA [13, 14, 15, 16] rfl rfl (by decide)
        refine va_calli (va_runS (As := [.int x2, .ref a15, .ref a15, .ref a13]) (rest := [.ref a0]) ⟨hx, hb, hml, hown, htx⟩ (gA_applya l hl9 D cT aK aV H.size d n a15 a16 a13 a14 x2 f21 v22 v23 f16 o10.1 o10.2 o14 hq15) ⟨callB_of 4 htx (xw_goodC kw_3_105) rfl rfl rfl (htx _ kw_1_21) (htx _ kw_3_103) ⟨by decide, by decide, by decide +kernel⟩ ⟨(by show (16 * d + 5) + 1 ≤ 16 * d + 7; omega), (by show 8 + (4 + 11) + (400 * d + 157) ≤ 400 * d + 180; omega)⟩, htx _ kw_3_104⟩ ⟨xPre_blind, (fun U hU hW => ⟨rfl, xPre_of hZ hS hFc hPc hDc hK U hU hW⟩)⟩ rfl rfl hl.1 rfl (lv_room (Nat.le_of_ble_eq_true rfl)) dB_binary_64 ⟨Nat.le_of_ble_eq_true rfl, Nat.le_of_ble_eq_true rfl⟩) hS (fun q _ h => hFc q h) hFc (fun r16 u9 t H1 locs ht hvm hr9 hB hz1 hk1 hS => ?_)
        obtain ⟨hP1, hK1, hD1⟩ := hB
        rw [ht] at hP1
        obtain ⟨hP, hD⟩ := xjoin (W := [(a0, .inr (0, [.ref a1, .ref a3, .ref a5, .ref a7, .ref a8, .ref a13, .int v19, .int v20])), (a1, .inr (1, [.ref a2, .int v1, .int v2])), (a2, .inl (cT 0, 4096, .inl f0)), (a3, .inr (1, [.ref a4, .int v4, .int v5])), (a4, .inl (cT 0, 4096, .inl f3)), (a5, .inr (1, [.ref a6, .int v7, .int v8])), (a6, .inl (cT 0, 4096, .inl f6)), (a7, .inl (cT 3, 8, .inr (.inr (.inr (.inr rf0))))), (a8, .inr (3, [.ref a9, .ref a10, .ref p11, .ref p13, .int v15])), (a9, .inl (cT 1, 2048, .inl f9)), (a10, .inl (cT 1, 2048, .inl f10)), (p11, .inl (cT 1, 2048, .inl f12)), (p13, .inl (cT 1, 2048, .inl f14)), (a15, .inr (2, [.ref a16, .int v22, .int v23])), (a16, .inl (cT 2, 4096, .inr (.inl f21))), (a13, .inr (2, [.ref a14, .int o14.2.2.1, .int o14.2.2.2])), (a14, .inl (cT 2, 4096, .inr (.inl o14.2.1)))]) hP hD [13, 14, 15, 16] [0, 1, 2, 3, 4, 5, 6, 7, 8, 9, 10, 11, 12] 13 rfl rfl (by decide) (by decide) hk1 hFc hP1 hD1
        generalize H1 = H at hP hS ⊢
        rw [hr9]
        refine W.eq (g2 := F0 m 67 ls [.int o14.1, .ref a0]) rfl ?_
        obtain ⟨o17, hq18, hf⟩ := xbind hf
        by_cases hk19 : o17.1 = 0
        · rw [if_pos hk19] at hf
          obtain ⟨hPc, hDc, hFc⟩ := xcut (wc := [(a0, .inr (0, [.ref a1, .ref a3, .ref a5, .ref a7, .ref a8, .ref a13, .int v19, .int v20])), (a1, .inr (1, [.ref a2, .int v1, .int v2])), (a2, .inl (cT 0, 4096, .inl f0)), (a3, .inr (1, [.ref a4, .int v4, .int v5])), (a4, .inl (cT 0, 4096, .inl f3)), (a5, .inr (1, [.ref a6, .int v7, .int v8])), (a6, .inl (cT 0, 4096, .inl f6)), (a7, .inl (cT 3, 8, .inr (.inr (.inr (.inr rf0))))), (a8, .inr (3, [.ref a9, .ref a10, .ref p11, .ref p13, .int v15])), (a9, .inl (cT 1, 2048, .inl f9)), (a10, .inl (cT 1, 2048, .inl f10)), (p11, .inl (cT 1, 2048, .inl f12)), (p13, .inl (cT 1, 2048, .inl f14)), (a13, .inr (2, [.ref a14, .int o14.2.2.1, .int o14.2.2.2])), (a14, .inl (cT 2, 4096, .inr (.inl o14.2.1)))]) hP hD hS hA [0, 1, 2, 3, 4, 5, 6, 7, 8, 9, 10, 11, 12, 15, 16] rfl rfl (by decide)
          refine va_callv (va_runV (C := "ValueBench") (As := [.int o14.1]) (rest := []) ⟨hx, hb, hml, hown, htx⟩ (gB_demandDone l hl9 D cT aK aV H.size n a0 a1 a2 a3 a4 a5 a6 a7 a8 a9 a10 a13 a14 rf0 o14.1 f0 v1 v2 f3 v4 v5 f6 v7 v8 f9 f10 p11 f12 p13 f14 v15 o14.2.1 o14.2.2.1 o14.2.2.2 v19 v20 o17 hq18 hk19) ⟨callB_of 1 htx (xw_goodC kw_3_222) rfl rfl rfl (htx _ kw_1_1) (htx _ kw_3_219) ⟨by decide, by decide, by decide +kernel⟩ ⟨Nat.le_of_ble_eq_true rfl, Nat.le_of_ble_eq_true rfl⟩, (htx _ kw_3_221), (htx _ kp_B_demandDone)⟩ ⟨xPre_blind, va_recv hK hP (ci := 0) rfl (q0 := 0) rfl, (fun U hU hW => ⟨rfl, xPre_of hZ hS hFc hPc hDc hK U hU hW⟩)⟩ rfl rfl hl.1 rfl (lv_room (Nat.le_of_ble_eq_true rfl)) dB_binary_67 ⟨Nat.le_of_ble_eq_true rfl, Nat.le_of_ble_eq_true rfl⟩) hS (fun q _ h => hFc q h) hFc (fun u9 t H1 locs ht hvm hr9 hB hz1 hk1 hS => ?_)
          obtain ⟨hP1, hK1, hD1⟩ := hB
          rw [ht] at hP1
          obtain ⟨hP, hD⟩ := xjoin (W := [(a15, .inr (2, [.ref a16, .int v22, .int v23])), (a16, .inl (cT 2, 4096, .inr (.inl f21))), (a0, .inr (0, [.ref a1, .ref a3, .ref a5, .ref a7, .ref a8, .ref a13, .int v19, .int o17.2])), (a1, .inr (1, [.ref a2, .int v1, .int v2])), (a2, .inl (cT 0, 4096, .inl f0)), (a3, .inr (1, [.ref a4, .int v4, .int v5])), (a4, .inl (cT 0, 4096, .inl f3)), (a5, .inr (1, [.ref a6, .int v7, .int v8])), (a6, .inl (cT 0, 4096, .inl f6)), (a7, .inl (cT 3, 8, .inr (.inr (.inr (.inr rf0))))), (a8, .inr (3, [.ref a9, .ref a10, .ref p11, .ref p13, .int v15])), (a9, .inl (cT 1, 2048, .inl f9)), (a10, .inl (cT 1, 2048, .inl f10)), (p11, .inl (cT 1, 2048, .inl f12)), (p13, .inl (cT 1, 2048, .inl f14)), (a13, .inr (2, [.ref a14, .int o14.2.2.1, .int o14.2.2.2])), (a14, .inl (cT 2, 4096, .inr (.inl o14.2.1)))]) hP hD [0, 1, 2, 3, 4, 5, 6, 7, 8, 9, 10, 11, 12, 15, 16] [13, 14] 2 rfl rfl (by decide) (by decide) hk1 hFc hP1 hD1
          generalize H1 = H at hP hS ⊢
          refine lv_aload_n hx hb dB_binary_70 rfl (lv_at hl 0 rfl) ?_
          refine lv_iload_n hx hb dB_binary_71 rfl (lv_at hl 1 rfl) ?_
          obtain ⟨o20, hq21, hf⟩ := xbind hf
          by_cases hk22 : o20.1 = 0
          · rw [if_pos hk22] at hf
            obtain ⟨hPc, hDc, hFc⟩ := xcut (wc := [(a0, .inr (0, [.ref a1, .ref a3, .ref a5, .ref a7, .ref a8, .ref a13, .int v19, .int o17.2])), (a1, .inr (1, [.ref a2, .int v1, .int v2])), (a2, .inl (cT 0, 4096, .inl f0)), (a3, .inr (1, [.ref a4, .int v4, .int v5])), (a4, .inl (cT 0, 4096, .inl f3)), (a5, .inr (1, [.ref a6, .int v7, .int v8])), (a6, .inl (cT 0, 4096, .inl f6)), (a7, .inl (cT 3, 8, .inr (.inr (.inr (.inr rf0))))), (a8, .inr (3, [.ref a9, .ref a10, .ref p11, .ref p13, .int v15])), (a9, .inl (cT 1, 2048, .inl f9)), (a10, .inl (cT 1, 2048, .inl f10)), (p11, .inl (cT 1, 2048, .inl f12)), (p13, .inl (cT 1, 2048, .inl f14)), (a13, .inr (2, [.ref a14, .int o14.2.2.1, .int o14.2.2.2])), (a14, .inl (cT 2, 4096, .inr (.inl o14.2.1)))]) hP hD hS hA [2, 3, 4, 5, 6, 7, 8, 9, 10, 11, 12, 13, 14, 15, 16] rfl rfl (by decide)
            refine va_calli (va_runV (C := "ValueBench") (As := [.int x1]) (rest := []) ⟨hx, hb, hml, hown, htx⟩ (gB_keepSpare l hl9 D cT aK aV H.size d n a0 a1 a2 a3 a4 a5 a6 a7 a8 a9 a10 a13 a14 rf0 b1 x1 f0 v1 v2 f3 v4 v5 f6 v7 v8 f9 f10 p11 f12 p13 f14 v15 o14.2.1 o14.2.2.1 o14.2.2.2 v19 o17.2 hr1 o20 hq21 hk22) ⟨callB_of 1 htx (xw_goodC kw_3_17) rfl rfl rfl (htx _ kw_1_1) (htx _ kw_3_14) ⟨by decide, by decide, by decide +kernel⟩ ⟨(by show (16 * d + 6) + 1 ≤ 16 * d + 7; omega), (by show 8 + (3 + 11) + (400 * d + 100) ≤ 400 * d + 180; omega)⟩, (htx _ kw_3_16), (htx _ kp_B_keepSpare)⟩ ⟨xPre_blind, va_recv hK hP (ci := 0) rfl (q0 := 2) rfl, (fun U hU hW => ⟨rfl, xPre_of hZ hS hFc hPc hDc hK U hU hW⟩)⟩ rfl rfl hl.1 rfl (lv_room (Nat.le_of_ble_eq_true rfl)) dB_binary_72 ⟨Nat.le_of_ble_eq_true rfl, Nat.le_of_ble_eq_true rfl⟩) hS (fun q _ h => hFc q h) hFc (fun r23 u9 t H1 locs ht hvm hr9 hB hz1 hk1 hS => ?_)
            obtain ⟨hP1, hK1, hD1⟩ := hB
            rw [ht] at hP1
            obtain ⟨hP, hD⟩ := xjoin (W := [(a15, .inr (2, [.ref a16, .int v22, .int v23])), (a16, .inl (cT 2, 4096, .inr (.inl f21))), (a0, .inr (0, [.ref a1, .ref a3, .ref a5, .ref a7, .ref a8, .ref b1, .int v19, .int o17.2])), (a1, .inr (1, [.ref a2, .int v1, .int v2])), (a2, .inl (cT 0, 4096, .inl f0)), (a3, .inr (1, [.ref a4, .int v4, .int v5])), (a4, .inl (cT 0, 4096, .inl f3)), (a5, .inr (1, [.ref a6, .int o20.2.2.2.1, .int o20.2.2.2.2])), (a6, .inl (cT 0, 4096, .inl o20.2.2.1)), (a7, .inl (cT 3, 8, .inr (.inr (.inr (.inr (va_up rf0 x1.toNatClampNeg (some a13))))))), (a8, .inr (3, [.ref a9, .ref a10, .ref p11, .ref p13, .int v15])), (a9, .inl (cT 1, 2048, .inl f9)), (a10, .inl (cT 1, 2048, .inl f10)), (p11, .inl (cT 1, 2048, .inl f12)), (p13, .inl (cT 1, 2048, .inl f14)), (a13, .inr (2, [.ref a14, .int o14.2.2.1, .int o14.2.2.2])), (a14, .inl (cT 2, 4096, .inr (.inl o14.2.1)))]) hP hD [2, 3, 4, 5, 6, 7, 8, 9, 10, 11, 12, 13, 14, 15, 16] [0, 1] 2 rfl rfl (by decide) (by decide) hk1 hFc hP1 hD1
            generalize H1 = H at hP hS ⊢
            rw [hr9]
            refine W.eq (g2 := F0 m 75 ls [.int o20.2.1]) rfl ?_
            refine lv_pop hx hb dB_binary_75 rfl ?_
            obtain rfl := Option.some.inj hf
            obtain ⟨hP9, hD9⟩ := xsub (wc := [(a0, .inr (0, [.ref a1, .ref a3, .ref a5, .ref a7, .ref a8, .ref b1, .int v19, .int o17.2])), (a1, .inr (1, [.ref a2, .int v1, .int v2])), (a2, .inl (cT 0, 4096, .inl f0)), (a3, .inr (1, [.ref a4, .int v4, .int v5])), (a4, .inl (cT 0, 4096, .inl f3)), (a5, .inr (1, [.ref a6, .int o20.2.2.2.1, .int o20.2.2.2.2])), (a6, .inl (cT 0, 4096, .inl o20.2.2.1)), (a7, .inl (cT 3, 8, .inr (.inr (.inr (.inr (va_up rf0 x1.toNatClampNeg (some a13))))))), (a8, .inr (3, [.ref a9, .ref a10, .ref p11, .ref p13, .int v15])), (a9, .inl (cT 1, 2048, .inl f9)), (a10, .inl (cT 1, 2048, .inl f10)), (p11, .inl (cT 1, 2048, .inl f12)), (p13, .inl (cT 1, 2048, .inl f14)), (a13, .inr (2, [.ref a14, .int o14.2.2.1, .int o14.2.2.2])), (a14, .inl (cT 2, 4096, .inr (.inl o14.2.1))), (a15, .inr (2, [.ref a16, .int v22, .int v23])), (a16, .inl (cT 2, 4096, .inr (.inl f21)))]) hP hD [2, 3, 4, 5, 6, 7, 8, 9, 10, 11, 12, 13, 14, 15, 16, 0, 1] rfl rfl (by decide)
            refine W.widen (k := 3) (n := 18) (Nat.le_of_ble_eq_true rfl) (Nat.le_of_ble_eq_true rfl) ?_
            exact W.vret hx hb hr (fun t ht hW => ⟨⟨(), rfl, trivial, by rw [ht]; exact hP9, va_K.moved hW.alike hK, hD9⟩, hS.F ht⟩) hS.2.2 dB_binary_76
          rw [if_neg hk22] at hf
          by_cases hk24 : o20.1 = 1
          · rw [if_pos hk24] at hf
            obtain rfl := Option.some.inj hf
            exact absurd (show (1 : Nat) = 0 from hkd) (by decide)
          rw [if_neg hk24] at hf
          exact nomatch hf
        rw [if_neg hk19] at hf
        by_cases hk26 : o17.1 = 1
        · rw [if_pos hk26] at hf
          obtain rfl := Option.some.inj hf
          exact absurd (show (2 : Nat) = 0 from hkd) (by decide)
        rw [if_neg hk26] at hf
        exact nomatch hf
      rw [if_neg hk9] at hf
      by_cases hk27 : o7 = 1
      · rw [if_pos hk27] at hf
        obtain rfl := Option.some.inj hf
        exact absurd (show (3 : Nat) = 0 from hkd) (by decide)
      rw [if_neg hk27] at hf
      exact nomatch hf
    · rw [if_neg hc] at hf
      refine lv_iload_n hx hb dB_binary_15 rfl (lv_at hl 3 rfl) ?_
      obtain ⟨o7, hq8, hf⟩ := xbind hf
      obtain ⟨hPc, hDc, hFc⟩ := xcut (wc := []) hP hD hS hA [] rfl rfl (by decide)
      refine va_calli (va_runS (As := [.int x3]) (rest := []) ⟨hx, hb, hml, hown, htx⟩ (gB_isRegister l hl9 D cT aK aV H.size n x3 o7 hq8) ⟨callB_of 1 htx (xw_goodC kw_2_18) rfl rfl rfl (htx _ kw_1_1) (htx _ kw_2_16) ⟨by decide, by decide, by decide +kernel⟩ ⟨Nat.le_of_ble_eq_true rfl, Nat.le_of_ble_eq_true rfl⟩, htx _ kw_2_17⟩ ⟨xPre_blind, (fun U hU hW => ⟨rfl, xPre_of hZ hS hFc hPc hDc hK U hU hW⟩)⟩ rfl rfl hl.1 rfl (lv_room (Nat.le_of_ble_eq_true rfl)) dB_binary_16 ⟨Nat.le_of_ble_eq_true rfl, Nat.le_of_ble_eq_true rfl⟩) hS (fun q _ h => hFc q h) hFc (fun r9 u9 t H1 locs ht hvm hr9 hB hz1 hk1 hS => ?_)
      obtain ⟨hP1, hK1, hD1⟩ := hB
      rw [ht] at hP1
      obtain ⟨hP, hD⟩ := xjoin (W := [(a0, .inr (0, [.ref a1, .ref a3, .ref a5, .ref a7, .ref a8, .ref a13, .int v19, .int v20])), (a1, .inr (1, [.ref a2, .int v1, .int v2])), (a2, .inl (cT 0, 4096, .inl f0)), (a3, .inr (1, [.ref a4, .int v4, .int v5])), (a4, .inl (cT 0, 4096, .inl f3)), (a5, .inr (1, [.ref a6, .int v7, .int v8])), (a6, .inl (cT 0, 4096, .inl f6)), (a7, .inl (cT 3, 8, .inr (.inr (.inr (.inr rf0))))), (a8, .inr (3, [.ref a9, .ref a10, .ref p11, .ref p13, .int v15])), (a9, .inl (cT 1, 2048, .inl f9)), (a10, .inl (cT 1, 2048, .inl f10)), (p11, .inl (cT 1, 2048, .inl f12)), (p13, .inl (cT 1, 2048, .inl f14)), (a13, .inr (2, [.ref a14, .int v17, .int v18])), (a14, .inl (cT 2, 4096, .inr (.inl f16))), (a15, .inr (2, [.ref a16, .int v22, .int v23])), (a16, .inl (cT 2, 4096, .inr (.inl f21)))]) hP hD [] [0, 1, 2, 3, 4, 5, 6, 7, 8, 9, 10, 11, 12, 13, 14, 15, 16] 17 rfl rfl (by decide) (by decide) hk1 hFc hP1 hD1
      generalize H1 = H at hP hS ⊢
      rw [hr9]
      refine W.eq (g2 := F0 m 19 ls [.int o7]) rfl ?_
      refine lv_if_eq (tgt := 34) hx hb dB_binary_19 (by decide) (fun hc => ?_) (fun hc => ?_)
      · rw [if_pos hc] at hf
        refine lv_iconst (v := 0) hx hb dB_binary_34 (by decide) ?_
        obtain ⟨o10, hq11, hf⟩ := xbind hf
        by_cases hk12 : o10 = 0
        · rw [if_pos hk12] at hf
          obtain ⟨hPc, hDc, hFc⟩ := xcut (wc := []) hP hD hS hA [] rfl rfl (by decide)
          refine va_callv (va_runS (As := [.int 0]) (rest := []) ⟨hx, hb, hml, hown, htx⟩ (gB_demand l hl9 D cT aK aV H.size n (0 : Int32) o10 hq11 hk12) ⟨callB_of 1 htx (xw_goodC kw_1_221) rfl rfl rfl (htx _ kw_1_1) (htx _ kw_1_219) ⟨by decide, by decide, by decide +kernel⟩ ⟨Nat.le_of_ble_eq_true rfl, Nat.le_of_ble_eq_true rfl⟩, htx _ kw_1_220⟩ ⟨xPre_blind, (fun U hU hW => ⟨rfl, xPre_of hZ hS hFc hPc hDc hK U hU hW⟩)⟩ rfl rfl hl.1 rfl (lv_room (Nat.le_of_ble_eq_true rfl)) dB_binary_35 ⟨Nat.le_of_ble_eq_true rfl, Nat.le_of_ble_eq_true rfl⟩) hS (fun q _ h => hFc q h) hFc (fun u9 t H1 locs ht hvm hr9 hB hz1 hk1 hS => ?_)
          obtain ⟨hP1, hK1, hD1⟩ := hB
          rw [ht] at hP1
          obtain ⟨hP, hD⟩ := xjoin (W := [(a0, .inr (0, [.ref a1, .ref a3, .ref a5, .ref a7, .ref a8, .ref a13, .int v19, .int v20])), (a1, .inr (1, [.ref a2, .int v1, .int v2])), (a2, .inl (cT 0, 4096, .inl f0)), (a3, .inr (1, [.ref a4, .int v4, .int v5])), (a4, .inl (cT 0, 4096, .inl f3)), (a5, .inr (1, [.ref a6, .int v7, .int v8])), (a6, .inl (cT 0, 4096, .inl f6)), (a7, .inl (cT 3, 8, .inr (.inr (.inr (.inr rf0))))), (a8, .inr (3, [.ref a9, .ref a10, .ref p11, .ref p13, .int v15])), (a9, .inl (cT 1, 2048, .inl f9)), (a10, .inl (cT 1, 2048, .inl f10)), (p11, .inl (cT 1, 2048, .inl f12)), (p13, .inl (cT 1, 2048, .inl f14)), (a13, .inr (2, [.ref a14, .int v17, .int v18])), (a14, .inl (cT 2, 4096, .inr (.inl f16))), (a15, .inr (2, [.ref a16, .int v22, .int v23])), (a16, .inl (cT 2, 4096, .inr (.inl f21)))]) hP hD [] [0, 1, 2, 3, 4, 5, 6, 7, 8, 9, 10, 11, 12, 13, 14, 15, 16] 17 rfl rfl (by decide) (by decide) hk1 hFc hP1 hD1
          generalize H1 = H at hP hS ⊢
          refine lv_aload_n hx hb dB_binary_38 rfl (lv_at hl 0 rfl) ?_
          refine va_get (D := D) (ci := 0) (v := .ref a13) (C := "ValueBench") (T := TB) (N := 8) hx hb htx inB hown hK hP 0 rfl rfl 5 (by decide) (htx _ kw_1_100) (fun _ h9 => h9) rfl dB_binary_39 ?_
          obtain ⟨o13, hq14, hf⟩ := xbind hf
          obtain ⟨hPc, hDc, hFc⟩ := xcut (wc := [(a13, .inr (2, [.ref a14, .int v17, .int v18])), (a14, .inl (cT 2, 4096, .inr (.inl f16)))]) hP hD hS hA [13, 14] rfl rfl (by decide)
          refine va_callv (va_runV (C := "ValueBench$Row") (As := []) (rest := []) ⟨hx, hb, hml, hown, htx⟩ (gR_clear l hl9 D cT aK aV H.size n a13 a14 f16 v17 v18 o13 hq14) ⟨callB_of 0 htx (xw_goodC kw_2_22) rfl rfl rfl (htx _ kw_1_4) (htx _ kw_2_19) ⟨by decide, by decide, by decide +kernel⟩ ⟨Nat.le_of_ble_eq_true rfl, Nat.le_of_ble_eq_true rfl⟩, (htx _ kw_2_20), (htx _ kw_2_21)⟩ ⟨xPre_blind, va_recv hK hP (ci := 2) rfl (q0 := 13) rfl, (fun U hU hW => ⟨rfl, xPre_of hZ hS hFc hPc hDc hK U hU hW⟩)⟩ rfl rfl hl.1 rfl (lv_room (Nat.le_of_ble_eq_true rfl)) dB_binary_42 ⟨Nat.le_of_ble_eq_true rfl, Nat.le_of_ble_eq_true rfl⟩) hS (fun q _ h => hFc q h) hFc (fun u9 t H1 locs ht hvm hr9 hB hz1 hk1 hS => ?_)
          obtain ⟨hP1, hK1, hD1⟩ := hB
          rw [ht] at hP1
          obtain ⟨hP, hD⟩ := xjoin (W := [(a0, .inr (0, [.ref a1, .ref a3, .ref a5, .ref a7, .ref a8, .ref a13, .int v19, .int v20])), (a1, .inr (1, [.ref a2, .int v1, .int v2])), (a2, .inl (cT 0, 4096, .inl f0)), (a3, .inr (1, [.ref a4, .int v4, .int v5])), (a4, .inl (cT 0, 4096, .inl f3)), (a5, .inr (1, [.ref a6, .int v7, .int v8])), (a6, .inl (cT 0, 4096, .inl f6)), (a7, .inl (cT 3, 8, .inr (.inr (.inr (.inr rf0))))), (a8, .inr (3, [.ref a9, .ref a10, .ref p11, .ref p13, .int v15])), (a9, .inl (cT 1, 2048, .inl f9)), (a10, .inl (cT 1, 2048, .inl f10)), (p11, .inl (cT 1, 2048, .inl f12)), (p13, .inl (cT 1, 2048, .inl f14)), (a15, .inr (2, [.ref a16, .int v22, .int v23])), (a16, .inl (cT 2, 4096, .inr (.inl f21))), (a13, .inr (2, [.ref a14, .int o13.1, .int o13.2])), (a14, .inl (cT 2, 4096, .inr (.inl f16)))]) hP hD [13, 14] [0, 1, 2, 3, 4, 5, 6, 7, 8, 9, 10, 11, 12, 15, 16] 15 rfl rfl (by decide) (by decide) hk1 hFc hP1 hD1
          generalize H1 = H at hP hS ⊢
          refine lv_aload_n hx hb dB_binary_45 rfl (lv_at hl 0 rfl) ?_
          refine lv_iload_n hx hb dB_binary_46 rfl (lv_at hl 2 rfl) ?_
          refine lv_aload_n hx hb dB_binary_47 rfl (lv_at hl 0 rfl) ?_
          refine va_get (D := D) (ci := 0) (v := .ref a7) (C := "ValueBench") (T := TB) (N := 8) hx hb htx inB hown hK hP 0 rfl rfl 3 (by decide) (htx _ kw_1_98) (fun _ h9 => h9) rfl dB_binary_48 ?_
          refine lv_iload_n hx hb dB_binary_51 rfl (lv_at hl 3 rfl) ?_
          obtain ⟨hg15, hf⟩ := xifn hf
          refine va_aldq hx hb hK hP 7 3 rfl rfl hg15 dB_binary_52 ?_
          refine W.eq (g2 := F0 m 53 ls [va_rf (rf0 x3.toNatClampNeg), .int x2, .ref a0]) rfl ?_
          rw [hr3 hg15]
          refine W.eq (g2 := F0 m 53 ls [.ref a15, .int x2, .ref a0]) rfl ?_
          refine lv_aload_n hx hb dB_binary_53 rfl (lv_at hl 0 rfl) ?_
          refine va_get (D := D) (ci := 0) (v := .ref a7) (C := "ValueBench") (T := TB) (N := 8) hx hb htx inB hown hK hP 0 rfl rfl 3 (by decide) (htx _ kw_1_98) (fun _ h9 => h9) rfl dB_binary_54 ?_
          refine lv_iload hx hb dB_binary_57 (lv_at hl 4 rfl) ?_
          obtain ⟨hg16, hf⟩ := xifn hf
          refine va_aldq hx hb hK hP 7 3 rfl rfl hg16 dB_binary_59 ?_
          refine W.eq (g2 := F0 m 60 ls [va_rf (rf0 x4.toNatClampNeg), .ref a15, .int x2, .ref a0]) rfl ?_
          rw [hr4 hg16]
          refine W.eq (g2 := F0 m 60 ls [.ref a15, .ref a15, .int x2, .ref a0]) rfl ?_
          refine lv_aload_n hx hb dB_binary_60 rfl (lv_at hl 0 rfl) ?_
          refine va_get (D := D) (ci := 0) (v := .ref a13) (C := "ValueBench") (T := TB) (N := 8) hx hb htx inB hown hK hP 0 rfl rfl 5 (by decide) (htx _ kw_1_100) (fun _ h9 => h9) rfl dB_binary_61 ?_
          obtain ⟨o17, hq18, hf⟩ := xbind hf
          obtain ⟨hPc, hDc, hFc⟩ := xcut (wc := [(a15, .inr (2, [.ref a16, .int v22, .int v23])), (a16, .inl (cT 2, 4096, .inr (.inl f21))), (a13, .inr (2, [.ref a14, .int o13.1, .int o13.2])), (a14, .inl (cT 2, 4096, .inr (.inl f16)))]) hP hD hS hA [13, 14, 15, 16] rfl rfl (by decide)
          refine va_calli (va_runS (As := [.int x2, .ref a15, .ref a15, .ref a13]) (rest := [.ref a0]) ⟨hx, hb, hml, hown, htx⟩ (gA_applya l hl9 D cT aK aV H.size d n a15 a16 a13 a14 x2 f21 v22 v23 f16 o13.1 o13.2 o17 hq18) ⟨callB_of 4 htx (xw_goodC kw_3_105) rfl rfl rfl (htx _ kw_1_21) (htx _ kw_3_103) ⟨by decide, by decide, by decide +kernel⟩ ⟨(by show (16 * d + 5) + 1 ≤ 16 * d + 7; omega), (by show 8 + (4 + 11) + (400 * d + 157) ≤ 400 * d + 180; omega)⟩, htx _ kw_3_104⟩ ⟨xPre_blind, (fun U hU hW => ⟨rfl, xPre_of hZ hS hFc hPc hDc hK U hU hW⟩)⟩ rfl rfl hl.1 rfl (lv_room (Nat.le_of_ble_eq_true rfl)) dB_binary_64 ⟨Nat.le_of_ble_eq_true rfl, Nat.le_of_ble_eq_true rfl⟩) hS (fun q _ h => hFc q h) hFc (fun r19 u9 t H1 locs ht hvm hr9 hB hz1 hk1 hS => ?_)
          obtain ⟨hP1, hK1, hD1⟩ := hB
          rw [ht] at hP1
          obtain ⟨hP, hD⟩ := xjoin (W := [(a0, .inr (0, [.ref a1, .ref a3, .ref a5, .ref a7, .ref a8, .ref a13, .int v19, .int v20])), (a1, .inr (1, [.ref a2, .int v1, .int v2])), (a2, .inl (cT 0, 4096, .inl f0)), (a3, .inr (1, [.ref a4, .int v4, .int v5])), (a4, .inl (cT 0, 4096, .inl f3)), (a5, .inr (1, [.ref a6, .int v7, .int v8])), (a6, .inl (cT 0, 4096, .inl f6)), (a7, .inl (cT 3, 8, .inr (.inr (.inr (.inr rf0))))), (a8, .inr (3, [.ref a9, .ref a10, .ref p11, .ref p13, .int v15])), (a9, .inl (cT 1, 2048, .inl f9)), (a10, .inl (cT 1, 2048, .inl f10)), (p11, .inl (cT 1, 2048, .inl f12)), (p13, .inl (cT 1, 2048, .inl f14)), (a15, .inr (2, [.ref a16, .int v22, .int v23])), (a16, .inl (cT 2, 4096, .inr (.inl f21))), (a13, .inr (2, [.ref a14, .int o17.2.2.1, .int o17.2.2.2])), (a14, .inl (cT 2, 4096, .inr (.inl o17.2.1)))]) hP hD [13, 14, 15, 16] [0, 1, 2, 3, 4, 5, 6, 7, 8, 9, 10, 11, 12] 13 rfl rfl (by decide) (by decide) hk1 hFc hP1 hD1
          generalize H1 = H at hP hS ⊢
          rw [hr9]
          refine W.eq (g2 := F0 m 67 ls [.int o17.1, .ref a0]) rfl ?_
          obtain ⟨o20, hq21, hf⟩ := xbind hf
          by_cases hk22 : o20.1 = 0
          · rw [if_pos hk22] at hf
            obtain ⟨hPc, hDc, hFc⟩ := xcut (wc := [(a0, .inr (0, [.ref a1, .ref a3, .ref a5, .ref a7, .ref a8, .ref a13, .int v19, .int v20])), (a1, .inr (1, [.ref a2, .int v1, .int v2])), (a2, .inl (cT 0, 4096, .inl f0)), (a3, .inr (1, [.ref a4, .int v4, .int v5])), (a4, .inl (cT 0, 4096, .inl f3)), (a5, .inr (1, [.ref a6, .int v7, .int v8])), (a6, .inl (cT 0, 4096, .inl f6)), (a7, .inl (cT 3, 8, .inr (.inr (.inr (.inr rf0))))), (a8, .inr (3, [.ref a9, .ref a10, .ref p11, .ref p13, .int v15])), (a9, .inl (cT 1, 2048, .inl f9)), (a10, .inl (cT 1, 2048, .inl f10)), (p11, .inl (cT 1, 2048, .inl f12)), (p13, .inl (cT 1, 2048, .inl f14)), (a13, .inr (2, [.ref a14, .int o17.2.2.1, .int o17.2.2.2])), (a14, .inl (cT 2, 4096, .inr (.inl o17.2.1)))]) hP hD hS hA [0, 1, 2, 3, 4, 5, 6, 7, 8, 9, 10, 11, 12, 15, 16] rfl rfl (by decide)
            refine va_callv (va_runV (C := "ValueBench") (As := [.int o17.1]) (rest := []) ⟨hx, hb, hml, hown, htx⟩ (gB_demandDone l hl9 D cT aK aV H.size n a0 a1 a2 a3 a4 a5 a6 a7 a8 a9 a10 a13 a14 rf0 o17.1 f0 v1 v2 f3 v4 v5 f6 v7 v8 f9 f10 p11 f12 p13 f14 v15 o17.2.1 o17.2.2.1 o17.2.2.2 v19 v20 o20 hq21 hk22) ⟨callB_of 1 htx (xw_goodC kw_3_222) rfl rfl rfl (htx _ kw_1_1) (htx _ kw_3_219) ⟨by decide, by decide, by decide +kernel⟩ ⟨Nat.le_of_ble_eq_true rfl, Nat.le_of_ble_eq_true rfl⟩, (htx _ kw_3_221), (htx _ kp_B_demandDone)⟩ ⟨xPre_blind, va_recv hK hP (ci := 0) rfl (q0 := 0) rfl, (fun U hU hW => ⟨rfl, xPre_of hZ hS hFc hPc hDc hK U hU hW⟩)⟩ rfl rfl hl.1 rfl (lv_room (Nat.le_of_ble_eq_true rfl)) dB_binary_67 ⟨Nat.le_of_ble_eq_true rfl, Nat.le_of_ble_eq_true rfl⟩) hS (fun q _ h => hFc q h) hFc (fun u9 t H1 locs ht hvm hr9 hB hz1 hk1 hS => ?_)
            obtain ⟨hP1, hK1, hD1⟩ := hB
            rw [ht] at hP1
            obtain ⟨hP, hD⟩ := xjoin (W := [(a15, .inr (2, [.ref a16, .int v22, .int v23])), (a16, .inl (cT 2, 4096, .inr (.inl f21))), (a0, .inr (0, [.ref a1, .ref a3, .ref a5, .ref a7, .ref a8, .ref a13, .int v19, .int o20.2])), (a1, .inr (1, [.ref a2, .int v1, .int v2])), (a2, .inl (cT 0, 4096, .inl f0)), (a3, .inr (1, [.ref a4, .int v4, .int v5])), (a4, .inl (cT 0, 4096, .inl f3)), (a5, .inr (1, [.ref a6, .int v7, .int v8])), (a6, .inl (cT 0, 4096, .inl f6)), (a7, .inl (cT 3, 8, .inr (.inr (.inr (.inr rf0))))), (a8, .inr (3, [.ref a9, .ref a10, .ref p11, .ref p13, .int v15])), (a9, .inl (cT 1, 2048, .inl f9)), (a10, .inl (cT 1, 2048, .inl f10)), (p11, .inl (cT 1, 2048, .inl f12)), (p13, .inl (cT 1, 2048, .inl f14)), (a13, .inr (2, [.ref a14, .int o17.2.2.1, .int o17.2.2.2])), (a14, .inl (cT 2, 4096, .inr (.inl o17.2.1)))]) hP hD [0, 1, 2, 3, 4, 5, 6, 7, 8, 9, 10, 11, 12, 15, 16] [13, 14] 2 rfl rfl (by decide) (by decide) hk1 hFc hP1 hD1
            generalize H1 = H at hP hS ⊢
            refine lv_aload_n hx hb dB_binary_70 rfl (lv_at hl 0 rfl) ?_
            refine lv_iload_n hx hb dB_binary_71 rfl (lv_at hl 1 rfl) ?_
            obtain ⟨o23, hq24, hf⟩ := xbind hf
            by_cases hk25 : o23.1 = 0
            · rw [if_pos hk25] at hf
              obtain ⟨hPc, hDc, hFc⟩ := xcut (wc := [(a0, .inr (0, [.ref a1, .ref a3, .ref a5, .ref a7, .ref a8, .ref a13, .int v19, .int o20.2])), (a1, .inr (1, [.ref a2, .int v1, .int v2])), (a2, .inl (cT 0, 4096, .inl f0)), (a3, .inr (1, [.ref a4, .int v4, .int v5])), (a4, .inl (cT 0, 4096, .inl f3)), (a5, .inr (1, [.ref a6, .int v7, .int v8])), (a6, .inl (cT 0, 4096, .inl f6)), (a7, .inl (cT 3, 8, .inr (.inr (.inr (.inr rf0))))), (a8, .inr (3, [.ref a9, .ref a10, .ref p11, .ref p13, .int v15])), (a9, .inl (cT 1, 2048, .inl f9)), (a10, .inl (cT 1, 2048, .inl f10)), (p11, .inl (cT 1, 2048, .inl f12)), (p13, .inl (cT 1, 2048, .inl f14)), (a13, .inr (2, [.ref a14, .int o17.2.2.1, .int o17.2.2.2])), (a14, .inl (cT 2, 4096, .inr (.inl o17.2.1)))]) hP hD hS hA [2, 3, 4, 5, 6, 7, 8, 9, 10, 11, 12, 13, 14, 15, 16] rfl rfl (by decide)
              refine va_calli (va_runV (C := "ValueBench") (As := [.int x1]) (rest := []) ⟨hx, hb, hml, hown, htx⟩ (gB_keepSpare l hl9 D cT aK aV H.size d n a0 a1 a2 a3 a4 a5 a6 a7 a8 a9 a10 a13 a14 rf0 b1 x1 f0 v1 v2 f3 v4 v5 f6 v7 v8 f9 f10 p11 f12 p13 f14 v15 o17.2.1 o17.2.2.1 o17.2.2.2 v19 o20.2 hr1 o23 hq24 hk25) ⟨callB_of 1 htx (xw_goodC kw_3_17) rfl rfl rfl (htx _ kw_1_1) (htx _ kw_3_14) ⟨by decide, by decide, by decide +kernel⟩ ⟨(by show (16 * d + 6) + 1 ≤ 16 * d + 7; omega), (by show 8 + (3 + 11) + (400 * d + 100) ≤ 400 * d + 180; omega)⟩, (htx _ kw_3_16), (htx _ kp_B_keepSpare)⟩ ⟨xPre_blind, va_recv hK hP (ci := 0) rfl (q0 := 2) rfl, (fun U hU hW => ⟨rfl, xPre_of hZ hS hFc hPc hDc hK U hU hW⟩)⟩ rfl rfl hl.1 rfl (lv_room (Nat.le_of_ble_eq_true rfl)) dB_binary_72 ⟨Nat.le_of_ble_eq_true rfl, Nat.le_of_ble_eq_true rfl⟩) hS (fun q _ h => hFc q h) hFc (fun r26 u9 t H1 locs ht hvm hr9 hB hz1 hk1 hS => ?_)
              obtain ⟨hP1, hK1, hD1⟩ := hB
              rw [ht] at hP1
              obtain ⟨hP, hD⟩ := xjoin (W := [(a15, .inr (2, [.ref a16, .int v22, .int v23])), (a16, .inl (cT 2, 4096, .inr (.inl f21))), (a0, .inr (0, [.ref a1, .ref a3, .ref a5, .ref a7, .ref a8, .ref b1, .int v19, .int o20.2])), (a1, .inr (1, [.ref a2, .int v1, .int v2])), (a2, .inl (cT 0, 4096, .inl f0)), (a3, .inr (1, [.ref a4, .int v4, .int v5])), (a4, .inl (cT 0, 4096, .inl f3)), (a5, .inr (1, [.ref a6, .int o23.2.2.2.1, .int o23.2.2.2.2])), (a6, .inl (cT 0, 4096, .inl o23.2.2.1)), (a7, .inl (cT 3, 8, .inr (.inr (.inr (.inr (va_up rf0 x1.toNatClampNeg (some a13))))))), (a8, .inr (3, [.ref a9, .ref a10, .ref p11, .ref p13, .int v15])), (a9, .inl (cT 1, 2048, .inl f9)), (a10, .inl (cT 1, 2048, .inl f10)), (p11, .inl (cT 1, 2048, .inl f12)), (p13, .inl (cT 1, 2048, .inl f14)), (a13, .inr (2, [.ref a14, .int o17.2.2.1, .int o17.2.2.2])), (a14, .inl (cT 2, 4096, .inr (.inl o17.2.1)))]) hP hD [2, 3, 4, 5, 6, 7, 8, 9, 10, 11, 12, 13, 14, 15, 16] [0, 1] 2 rfl rfl (by decide) (by decide) hk1 hFc hP1 hD1
              generalize H1 = H at hP hS ⊢
              rw [hr9]
              refine W.eq (g2 := F0 m 75 ls [.int o23.2.1]) rfl ?_
              refine lv_pop hx hb dB_binary_75 rfl ?_
              obtain rfl := Option.some.inj hf
              obtain ⟨hP9, hD9⟩ := xsub (wc := [(a0, .inr (0, [.ref a1, .ref a3, .ref a5, .ref a7, .ref a8, .ref b1, .int v19, .int o20.2])), (a1, .inr (1, [.ref a2, .int v1, .int v2])), (a2, .inl (cT 0, 4096, .inl f0)), (a3, .inr (1, [.ref a4, .int v4, .int v5])), (a4, .inl (cT 0, 4096, .inl f3)), (a5, .inr (1, [.ref a6, .int o23.2.2.2.1, .int o23.2.2.2.2])), (a6, .inl (cT 0, 4096, .inl o23.2.2.1)), (a7, .inl (cT 3, 8, .inr (.inr (.inr (.inr (va_up rf0 x1.toNatClampNeg (some a13))))))), (a8, .inr (3, [.ref a9, .ref a10, .ref p11, .ref p13, .int v15])), (a9, .inl (cT 1, 2048, .inl f9)), (a10, .inl (cT 1, 2048, .inl f10)), (p11, .inl (cT 1, 2048, .inl f12)), (p13, .inl (cT 1, 2048, .inl f14)), (a13, .inr (2, [.ref a14, .int o17.2.2.1, .int o17.2.2.2])), (a14, .inl (cT 2, 4096, .inr (.inl o17.2.1))), (a15, .inr (2, [.ref a16, .int v22, .int v23])), (a16, .inl (cT 2, 4096, .inr (.inl f21)))]) hP hD [2, 3, 4, 5, 6, 7, 8, 9, 10, 11, 12, 13, 14, 15, 16, 0, 1] rfl rfl (by decide)
              refine W.widen (k := 3) (n := 18) (Nat.le_of_ble_eq_true rfl) (Nat.le_of_ble_eq_true rfl) ?_
              exact W.vret hx hb hr (fun t ht hW => ⟨⟨(), rfl, trivial, by rw [ht]; exact hP9, va_K.moved hW.alike hK, hD9⟩, hS.F ht⟩) hS.2.2 dB_binary_76
            rw [if_neg hk25] at hf
            by_cases hk27 : o23.1 = 1
            · rw [if_pos hk27] at hf
              obtain rfl := Option.some.inj hf
              exact absurd (show (1 : Nat) = 0 from hkd) (by decide)
            rw [if_neg hk27] at hf
            exact nomatch hf
          rw [if_neg hk22] at hf
          by_cases hk29 : o20.1 = 1
          · rw [if_pos hk29] at hf
            obtain rfl := Option.some.inj hf
            exact absurd (show (2 : Nat) = 0 from hkd) (by decide)
          rw [if_neg hk29] at hf
          exact nomatch hf
        rw [if_neg hk12] at hf
        by_cases hk30 : o10 = 1
        · rw [if_pos hk30] at hf
          obtain rfl := Option.some.inj hf
          exact absurd (show (3 : Nat) = 0 from hkd) (by decide)
        rw [if_neg hk30] at hf
        exact nomatch hf
      · rw [if_neg hc] at hf
        refine lv_iload hx hb dB_binary_22 (lv_at hl 4 rfl) ?_
        obtain ⟨o10, hq11, hf⟩ := xbind hf
        obtain ⟨hPc, hDc, hFc⟩ := xcut (wc := []) hP hD hS hA [] rfl rfl (by decide)
        refine va_calli (va_runS (As := [.int x4]) (rest := []) ⟨hx, hb, hml, hown, htx⟩ (gB_isRegister l hl9 D cT aK aV H.size n x4 o10 hq11) ⟨callB_of 1 htx (xw_goodC kw_2_18) rfl rfl rfl (htx _ kw_1_1) (htx _ kw_2_16) ⟨by decide, by decide, by decide +kernel⟩ ⟨Nat.le_of_ble_eq_true rfl, Nat.le_of_ble_eq_true rfl⟩, htx _ kw_2_17⟩ ⟨xPre_blind, (fun U hU hW => ⟨rfl, xPre_of hZ hS hFc hPc hDc hK U hU hW⟩)⟩ rfl rfl hl.1 rfl (lv_room (Nat.le_of_ble_eq_true rfl)) dB_binary_24 ⟨Nat.le_of_ble_eq_true rfl, Nat.le_of_ble_eq_true rfl⟩) hS (fun q _ h => hFc q h) hFc (fun r12 u9 t H1 locs ht hvm hr9 hB hz1 hk1 hS => ?_)
        obtain ⟨hP1, hK1, hD1⟩ := hB
        rw [ht] at hP1
        obtain ⟨hP, hD⟩ := xjoin (W := [(a0, .inr (0, [.ref a1, .ref a3, .ref a5, .ref a7, .ref a8, .ref a13, .int v19, .int v20])), (a1, .inr (1, [.ref a2, .int v1, .int v2])), (a2, .inl (cT 0, 4096, .inl f0)), (a3, .inr (1, [.ref a4, .int v4, .int v5])), (a4, .inl (cT 0, 4096, .inl f3)), (a5, .inr (1, [.ref a6, .int v7, .int v8])), (a6, .inl (cT 0, 4096, .inl f6)), (a7, .inl (cT 3, 8, .inr (.inr (.inr (.inr rf0))))), (a8, .inr (3, [.ref a9, .ref a10, .ref p11, .ref p13, .int v15])), (a9, .inl (cT 1, 2048, .inl f9)), (a10, .inl (cT 1, 2048, .inl f10)), (p11, .inl (cT 1, 2048, .inl f12)), (p13, .inl (cT 1, 2048, .inl f14)), (a13, .inr (2, [.ref a14, .int v17, .int v18])), (a14, .inl (cT 2, 4096, .inr (.inl f16))), (a15, .inr (2, [.ref a16, .int v22, .int v23])), (a16, .inl (cT 2, 4096, .inr (.inl f21)))]) hP hD [] [0, 1, 2, 3, 4, 5, 6, 7, 8, 9, 10, 11, 12, 13, 14, 15, 16] 17 rfl rfl (by decide) (by decide) hk1 hFc hP1 hD1
        generalize H1 = H at hP hS ⊢
        rw [hr9]
        refine W.eq (g2 := F0 m 27 ls [.int o10]) rfl ?_
        refine lv_if_eq (tgt := 34) hx hb dB_binary_27 (by decide) (fun hc => ?_) (fun hc => ?_)
        · rw [if_pos hc] at hf
          refine lv_iconst (v := 0) hx hb dB_binary_34 (by decide) ?_
          obtain ⟨o13, hq14, hf⟩ := xbind hf
          by_cases hk15 : o13 = 0
          · rw [if_pos hk15] at hf
            obtain ⟨hPc, hDc, hFc⟩ := xcut (wc := []) hP hD hS hA [] rfl rfl (by decide)
            refine va_callv (va_runS (As := [.int 0]) (rest := []) ⟨hx, hb, hml, hown, htx⟩ (gB_demand l hl9 D cT aK aV H.size n (0 : Int32) o13 hq14 hk15) ⟨callB_of 1 htx (xw_goodC kw_1_221) rfl rfl rfl (htx _ kw_1_1) (htx _ kw_1_219) ⟨by decide, by decide, by decide +kernel⟩ ⟨Nat.le_of_ble_eq_true rfl, Nat.le_of_ble_eq_true rfl⟩, htx _ kw_1_220⟩ ⟨xPre_blind, (fun U hU hW => ⟨rfl, xPre_of hZ hS hFc hPc hDc hK U hU hW⟩)⟩ rfl rfl hl.1 rfl (lv_room (Nat.le_of_ble_eq_true rfl)) dB_binary_35 ⟨Nat.le_of_ble_eq_true rfl, Nat.le_of_ble_eq_true rfl⟩) hS (fun q _ h => hFc q h) hFc (fun u9 t H1 locs ht hvm hr9 hB hz1 hk1 hS => ?_)
            obtain ⟨hP1, hK1, hD1⟩ := hB
            rw [ht] at hP1
            obtain ⟨hP, hD⟩ := xjoin (W := [(a0, .inr (0, [.ref a1, .ref a3, .ref a5, .ref a7, .ref a8, .ref a13, .int v19, .int v20])), (a1, .inr (1, [.ref a2, .int v1, .int v2])), (a2, .inl (cT 0, 4096, .inl f0)), (a3, .inr (1, [.ref a4, .int v4, .int v5])), (a4, .inl (cT 0, 4096, .inl f3)), (a5, .inr (1, [.ref a6, .int v7, .int v8])), (a6, .inl (cT 0, 4096, .inl f6)), (a7, .inl (cT 3, 8, .inr (.inr (.inr (.inr rf0))))), (a8, .inr (3, [.ref a9, .ref a10, .ref p11, .ref p13, .int v15])), (a9, .inl (cT 1, 2048, .inl f9)), (a10, .inl (cT 1, 2048, .inl f10)), (p11, .inl (cT 1, 2048, .inl f12)), (p13, .inl (cT 1, 2048, .inl f14)), (a13, .inr (2, [.ref a14, .int v17, .int v18])), (a14, .inl (cT 2, 4096, .inr (.inl f16))), (a15, .inr (2, [.ref a16, .int v22, .int v23])), (a16, .inl (cT 2, 4096, .inr (.inl f21)))]) hP hD [] [0, 1, 2, 3, 4, 5, 6, 7, 8, 9, 10, 11, 12, 13, 14, 15, 16] 17 rfl rfl (by decide) (by decide) hk1 hFc hP1 hD1
            generalize H1 = H at hP hS ⊢
            refine lv_aload_n hx hb dB_binary_38 rfl (lv_at hl 0 rfl) ?_
            refine va_get (D := D) (ci := 0) (v := .ref a13) (C := "ValueBench") (T := TB) (N := 8) hx hb htx inB hown hK hP 0 rfl rfl 5 (by decide) (htx _ kw_1_100) (fun _ h9 => h9) rfl dB_binary_39 ?_
            obtain ⟨o16, hq17, hf⟩ := xbind hf
            obtain ⟨hPc, hDc, hFc⟩ := xcut (wc := [(a13, .inr (2, [.ref a14, .int v17, .int v18])), (a14, .inl (cT 2, 4096, .inr (.inl f16)))]) hP hD hS hA [13, 14] rfl rfl (by decide)
            refine va_callv (va_runV (C := "ValueBench$Row") (As := []) (rest := []) ⟨hx, hb, hml, hown, htx⟩ (gR_clear l hl9 D cT aK aV H.size n a13 a14 f16 v17 v18 o16 hq17) ⟨callB_of 0 htx (xw_goodC kw_2_22) rfl rfl rfl (htx _ kw_1_4) (htx _ kw_2_19) ⟨by decide, by decide, by decide +kernel⟩ ⟨Nat.le_of_ble_eq_true rfl, Nat.le_of_ble_eq_true rfl⟩, (htx _ kw_2_20), (htx _ kw_2_21)⟩ ⟨xPre_blind, va_recv hK hP (ci := 2) rfl (q0 := 13) rfl, (fun U hU hW => ⟨rfl, xPre_of hZ hS hFc hPc hDc hK U hU hW⟩)⟩ rfl rfl hl.1 rfl (lv_room (Nat.le_of_ble_eq_true rfl)) dB_binary_42 ⟨Nat.le_of_ble_eq_true rfl, Nat.le_of_ble_eq_true rfl⟩) hS (fun q _ h => hFc q h) hFc (fun u9 t H1 locs ht hvm hr9 hB hz1 hk1 hS => ?_)
            obtain ⟨hP1, hK1, hD1⟩ := hB
            rw [ht] at hP1
            obtain ⟨hP, hD⟩ := xjoin (W := [(a0, .inr (0, [.ref a1, .ref a3, .ref a5, .ref a7, .ref a8, .ref a13, .int v19, .int v20])), (a1, .inr (1, [.ref a2, .int v1, .int v2])), (a2, .inl (cT 0, 4096, .inl f0)), (a3, .inr (1, [.ref a4, .int v4, .int v5])), (a4, .inl (cT 0, 4096, .inl f3)), (a5, .inr (1, [.ref a6, .int v7, .int v8])), (a6, .inl (cT 0, 4096, .inl f6)), (a7, .inl (cT 3, 8, .inr (.inr (.inr (.inr rf0))))), (a8, .inr (3, [.ref a9, .ref a10, .ref p11, .ref p13, .int v15])), (a9, .inl (cT 1, 2048, .inl f9)), (a10, .inl (cT 1, 2048, .inl f10)), (p11, .inl (cT 1, 2048, .inl f12)), (p13, .inl (cT 1, 2048, .inl f14)), (a15, .inr (2, [.ref a16, .int v22, .int v23])), (a16, .inl (cT 2, 4096, .inr (.inl f21))), (a13, .inr (2, [.ref a14, .int o16.1, .int o16.2])), (a14, .inl (cT 2, 4096, .inr (.inl f16)))]) hP hD [13, 14] [0, 1, 2, 3, 4, 5, 6, 7, 8, 9, 10, 11, 12, 15, 16] 15 rfl rfl (by decide) (by decide) hk1 hFc hP1 hD1
            generalize H1 = H at hP hS ⊢
            refine lv_aload_n hx hb dB_binary_45 rfl (lv_at hl 0 rfl) ?_
            refine lv_iload_n hx hb dB_binary_46 rfl (lv_at hl 2 rfl) ?_
            refine lv_aload_n hx hb dB_binary_47 rfl (lv_at hl 0 rfl) ?_
            refine va_get (D := D) (ci := 0) (v := .ref a7) (C := "ValueBench") (T := TB) (N := 8) hx hb htx inB hown hK hP 0 rfl rfl 3 (by decide) (htx _ kw_1_98) (fun _ h9 => h9) rfl dB_binary_48 ?_
            refine lv_iload_n hx hb dB_binary_51 rfl (lv_at hl 3 rfl) ?_
            obtain ⟨hg18, hf⟩ := xifn hf
            refine va_aldq hx hb hK hP 7 3 rfl rfl hg18 dB_binary_52 ?_
            refine W.eq (g2 := F0 m 53 ls [va_rf (rf0 x3.toNatClampNeg), .int x2, .ref a0]) rfl ?_
            rw [hr3 hg18]
            refine W.eq (g2 := F0 m 53 ls [.ref a15, .int x2, .ref a0]) rfl ?_
            refine lv_aload_n hx hb dB_binary_53 rfl (lv_at hl 0 rfl) ?_
            refine va_get (D := D) (ci := 0) (v := .ref a7) (C := "ValueBench") (T := TB) (N := 8) hx hb htx inB hown hK hP 0 rfl rfl 3 (by decide) (htx _ kw_1_98) (fun _ h9 => h9) rfl dB_binary_54 ?_
            refine lv_iload hx hb dB_binary_57 (lv_at hl 4 rfl) ?_
            obtain ⟨hg19, hf⟩ := xifn hf
            refine va_aldq hx hb hK hP 7 3 rfl rfl hg19 dB_binary_59 ?_
            refine W.eq (g2 := F0 m 60 ls [va_rf (rf0 x4.toNatClampNeg), .ref a15, .int x2, .ref a0]) rfl ?_
            rw [hr4 hg19]
            refine W.eq (g2 := F0 m 60 ls [.ref a15, .ref a15, .int x2, .ref a0]) rfl ?_
            refine lv_aload_n hx hb dB_binary_60 rfl (lv_at hl 0 rfl) ?_
            refine va_get (D := D) (ci := 0) (v := .ref a13) (C := "ValueBench") (T := TB) (N := 8) hx hb htx inB hown hK hP 0 rfl rfl 5 (by decide) (htx _ kw_1_100) (fun _ h9 => h9) rfl dB_binary_61 ?_
            obtain ⟨o20, hq21, hf⟩ := xbind hf
            obtain ⟨hPc, hDc, hFc⟩ := xcut (wc := [(a15, .inr (2, [.ref a16, .int v22, .int v23])), (a16, .inl (cT 2, 4096, .inr (.inl f21))), (a13, .inr (2, [.ref a14, .int o16.1, .int o16.2])), (a14, .inl (cT 2, 4096, .inr (.inl f16)))]) hP hD hS hA [13, 14, 15, 16] rfl rfl (by decide)
            refine va_calli (va_runS (As := [.int x2, .ref a15, .ref a15, .ref a13]) (rest := [.ref a0]) ⟨hx, hb, hml, hown, htx⟩ (gA_applya l hl9 D cT aK aV H.size d n a15 a16 a13 a14 x2 f21 v22 v23 f16 o16.1 o16.2 o20 hq21) ⟨callB_of 4 htx (xw_goodC kw_3_105) rfl rfl rfl (htx _ kw_1_21) (htx _ kw_3_103) ⟨by decide, by decide, by decide +kernel⟩ ⟨(by show (16 * d + 5) + 1 ≤ 16 * d + 7; omega), (by show 8 + (4 + 11) + (400 * d + 157) ≤ 400 * d + 180; omega)⟩, htx _ kw_3_104⟩ ⟨xPre_blind, (fun U hU hW => ⟨rfl, xPre_of hZ hS hFc hPc hDc hK U hU hW⟩)⟩ rfl rfl hl.1 rfl (lv_room (Nat.le_of_ble_eq_true rfl)) dB_binary_64 ⟨Nat.le_of_ble_eq_true rfl, Nat.le_of_ble_eq_true rfl⟩) hS (fun q _ h => hFc q h) hFc (fun r22 u9 t H1 locs ht hvm hr9 hB hz1 hk1 hS => ?_)
            obtain ⟨hP1, hK1, hD1⟩ := hB
            rw [ht] at hP1
            obtain ⟨hP, hD⟩ := xjoin (W := [(a0, .inr (0, [.ref a1, .ref a3, .ref a5, .ref a7, .ref a8, .ref a13, .int v19, .int v20])), (a1, .inr (1, [.ref a2, .int v1, .int v2])), (a2, .inl (cT 0, 4096, .inl f0)), (a3, .inr (1, [.ref a4, .int v4, .int v5])), (a4, .inl (cT 0, 4096, .inl f3)), (a5, .inr (1, [.ref a6, .int v7, .int v8])), (a6, .inl (cT 0, 4096, .inl f6)), (a7, .inl (cT 3, 8, .inr (.inr (.inr (.inr rf0))))), (a8, .inr (3, [.ref a9, .ref a10, .ref p11, .ref p13, .int v15])), (a9, .inl (cT 1, 2048, .inl f9)), (a10, .inl (cT 1, 2048, .inl f10)), (p11, .inl (cT 1, 2048, .inl f12)), (p13, .inl (cT 1, 2048, .inl f14)), (a15, .inr (2, [.ref a16, .int v22, .int v23])), (a16, .inl (cT 2, 4096, .inr (.inl f21))), (a13, .inr (2, [.ref a14, .int o20.2.2.1, .int o20.2.2.2])), (a14, .inl (cT 2, 4096, .inr (.inl o20.2.1)))]) hP hD [13, 14, 15, 16] [0, 1, 2, 3, 4, 5, 6, 7, 8, 9, 10, 11, 12] 13 rfl rfl (by decide) (by decide) hk1 hFc hP1 hD1
            generalize H1 = H at hP hS ⊢
            rw [hr9]
            refine W.eq (g2 := F0 m 67 ls [.int o20.1, .ref a0]) rfl ?_
            obtain ⟨o23, hq24, hf⟩ := xbind hf
            by_cases hk25 : o23.1 = 0
            · rw [if_pos hk25] at hf
              obtain ⟨hPc, hDc, hFc⟩ := xcut (wc := [(a0, .inr (0, [.ref a1, .ref a3, .ref a5, .ref a7, .ref a8, .ref a13, .int v19, .int v20])), (a1, .inr (1, [.ref a2, .int v1, .int v2])), (a2, .inl (cT 0, 4096, .inl f0)), (a3, .inr (1, [.ref a4, .int v4, .int v5])), (a4, .inl (cT 0, 4096, .inl f3)), (a5, .inr (1, [.ref a6, .int v7, .int v8])), (a6, .inl (cT 0, 4096, .inl f6)), (a7, .inl (cT 3, 8, .inr (.inr (.inr (.inr rf0))))), (a8, .inr (3, [.ref a9, .ref a10, .ref p11, .ref p13, .int v15])), (a9, .inl (cT 1, 2048, .inl f9)), (a10, .inl (cT 1, 2048, .inl f10)), (p11, .inl (cT 1, 2048, .inl f12)), (p13, .inl (cT 1, 2048, .inl f14)), (a13, .inr (2, [.ref a14, .int o20.2.2.1, .int o20.2.2.2])), (a14, .inl (cT 2, 4096, .inr (.inl o20.2.1)))]) hP hD hS hA [0, 1, 2, 3, 4, 5, 6, 7, 8, 9, 10, 11, 12, 15, 16] rfl rfl (by decide)
              refine va_callv (va_runV (C := "ValueBench") (As := [.int o20.1]) (rest := []) ⟨hx, hb, hml, hown, htx⟩ (gB_demandDone l hl9 D cT aK aV H.size n a0 a1 a2 a3 a4 a5 a6 a7 a8 a9 a10 a13 a14 rf0 o20.1 f0 v1 v2 f3 v4 v5 f6 v7 v8 f9 f10 p11 f12 p13 f14 v15 o20.2.1 o20.2.2.1 o20.2.2.2 v19 v20 o23 hq24 hk25) ⟨callB_of 1 htx (xw_goodC kw_3_222) rfl rfl rfl (htx _ kw_1_1) (htx _ kw_3_219) ⟨by decide, by decide, by decide +kernel⟩ ⟨Nat.le_of_ble_eq_true rfl, Nat.le_of_ble_eq_true rfl⟩, (htx _ kw_3_221), (htx _ kp_B_demandDone)⟩ ⟨xPre_blind, va_recv hK hP (ci := 0) rfl (q0 := 0) rfl, (fun U hU hW => ⟨rfl, xPre_of hZ hS hFc hPc hDc hK U hU hW⟩)⟩ rfl rfl hl.1 rfl (lv_room (Nat.le_of_ble_eq_true rfl)) dB_binary_67 ⟨Nat.le_of_ble_eq_true rfl, Nat.le_of_ble_eq_true rfl⟩) hS (fun q _ h => hFc q h) hFc (fun u9 t H1 locs ht hvm hr9 hB hz1 hk1 hS => ?_)
              obtain ⟨hP1, hK1, hD1⟩ := hB
              rw [ht] at hP1
              obtain ⟨hP, hD⟩ := xjoin (W := [(a15, .inr (2, [.ref a16, .int v22, .int v23])), (a16, .inl (cT 2, 4096, .inr (.inl f21))), (a0, .inr (0, [.ref a1, .ref a3, .ref a5, .ref a7, .ref a8, .ref a13, .int v19, .int o23.2])), (a1, .inr (1, [.ref a2, .int v1, .int v2])), (a2, .inl (cT 0, 4096, .inl f0)), (a3, .inr (1, [.ref a4, .int v4, .int v5])), (a4, .inl (cT 0, 4096, .inl f3)), (a5, .inr (1, [.ref a6, .int v7, .int v8])), (a6, .inl (cT 0, 4096, .inl f6)), (a7, .inl (cT 3, 8, .inr (.inr (.inr (.inr rf0))))), (a8, .inr (3, [.ref a9, .ref a10, .ref p11, .ref p13, .int v15])), (a9, .inl (cT 1, 2048, .inl f9)), (a10, .inl (cT 1, 2048, .inl f10)), (p11, .inl (cT 1, 2048, .inl f12)), (p13, .inl (cT 1, 2048, .inl f14)), (a13, .inr (2, [.ref a14, .int o20.2.2.1, .int o20.2.2.2])), (a14, .inl (cT 2, 4096, .inr (.inl o20.2.1)))]) hP hD [0, 1, 2, 3, 4, 5, 6, 7, 8, 9, 10, 11, 12, 15, 16] [13, 14] 2 rfl rfl (by decide) (by decide) hk1 hFc hP1 hD1
              generalize H1 = H at hP hS ⊢
              refine lv_aload_n hx hb dB_binary_70 rfl (lv_at hl 0 rfl) ?_
              refine lv_iload_n hx hb dB_binary_71 rfl (lv_at hl 1 rfl) ?_
              obtain ⟨o26, hq27, hf⟩ := xbind hf
              by_cases hk28 : o26.1 = 0
              · rw [if_pos hk28] at hf
                obtain ⟨hPc, hDc, hFc⟩ := xcut (wc := [(a0, .inr (0, [.ref a1, .ref a3, .ref a5, .ref a7, .ref a8, .ref a13, .int v19, .int o23.2])), (a1, .inr (1, [.ref a2, .int v1, .int v2])), (a2, .inl (cT 0, 4096, .inl f0)), (a3, .inr (1, [.ref a4, .int v4, .int v5])), (a4, .inl (cT 0, 4096, .inl f3)), (a5, .inr (1, [.ref a6, .int v7, .int v8])), (a6, .inl (cT 0, 4096, .inl f6)), (a7, .inl (cT 3, 8, .inr (.inr (.inr (.inr rf0))))), (a8, .inr (3, [.ref a9, .ref a10, .ref p11, .ref p13, .int v15])), (a9, .inl (cT 1, 2048, .inl f9)), (a10, .inl (cT 1, 2048, .inl f10)), (p11, .inl (cT 1, 2048, .inl f12)), (p13, .inl (cT 1, 2048, .inl f14)), (a13, .inr (2, [.ref a14, .int o20.2.2.1, .int o20.2.2.2])), (a14, .inl (cT 2, 4096, .inr (.inl o20.2.1)))]) hP hD hS hA [2, 3, 4, 5, 6, 7, 8, 9, 10, 11, 12, 13, 14, 15, 16] rfl rfl (by decide)
                refine va_calli (va_runV (C := "ValueBench") (As := [.int x1]) (rest := []) ⟨hx, hb, hml, hown, htx⟩ (gB_keepSpare l hl9 D cT aK aV H.size d n a0 a1 a2 a3 a4 a5 a6 a7 a8 a9 a10 a13 a14 rf0 b1 x1 f0 v1 v2 f3 v4 v5 f6 v7 v8 f9 f10 p11 f12 p13 f14 v15 o20.2.1 o20.2.2.1 o20.2.2.2 v19 o23.2 hr1 o26 hq27 hk28) ⟨callB_of 1 htx (xw_goodC kw_3_17) rfl rfl rfl (htx _ kw_1_1) (htx _ kw_3_14) ⟨by decide, by decide, by decide +kernel⟩ ⟨(by show (16 * d + 6) + 1 ≤ 16 * d + 7; omega), (by show 8 + (3 + 11) + (400 * d + 100) ≤ 400 * d + 180; omega)⟩, (htx _ kw_3_16), (htx _ kp_B_keepSpare)⟩ ⟨xPre_blind, va_recv hK hP (ci := 0) rfl (q0 := 2) rfl, (fun U hU hW => ⟨rfl, xPre_of hZ hS hFc hPc hDc hK U hU hW⟩)⟩ rfl rfl hl.1 rfl (lv_room (Nat.le_of_ble_eq_true rfl)) dB_binary_72 ⟨Nat.le_of_ble_eq_true rfl, Nat.le_of_ble_eq_true rfl⟩) hS (fun q _ h => hFc q h) hFc (fun r29 u9 t H1 locs ht hvm hr9 hB hz1 hk1 hS => ?_)
                obtain ⟨hP1, hK1, hD1⟩ := hB
                rw [ht] at hP1
                obtain ⟨hP, hD⟩ := xjoin (W := [(a15, .inr (2, [.ref a16, .int v22, .int v23])), (a16, .inl (cT 2, 4096, .inr (.inl f21))), (a0, .inr (0, [.ref a1, .ref a3, .ref a5, .ref a7, .ref a8, .ref b1, .int v19, .int o23.2])), (a1, .inr (1, [.ref a2, .int v1, .int v2])), (a2, .inl (cT 0, 4096, .inl f0)), (a3, .inr (1, [.ref a4, .int v4, .int v5])), (a4, .inl (cT 0, 4096, .inl f3)), (a5, .inr (1, [.ref a6, .int o26.2.2.2.1, .int o26.2.2.2.2])), (a6, .inl (cT 0, 4096, .inl o26.2.2.1)), (a7, .inl (cT 3, 8, .inr (.inr (.inr (.inr (va_up rf0 x1.toNatClampNeg (some a13))))))), (a8, .inr (3, [.ref a9, .ref a10, .ref p11, .ref p13, .int v15])), (a9, .inl (cT 1, 2048, .inl f9)), (a10, .inl (cT 1, 2048, .inl f10)), (p11, .inl (cT 1, 2048, .inl f12)), (p13, .inl (cT 1, 2048, .inl f14)), (a13, .inr (2, [.ref a14, .int o20.2.2.1, .int o20.2.2.2])), (a14, .inl (cT 2, 4096, .inr (.inl o20.2.1)))]) hP hD [2, 3, 4, 5, 6, 7, 8, 9, 10, 11, 12, 13, 14, 15, 16] [0, 1] 2 rfl rfl (by decide) (by decide) hk1 hFc hP1 hD1
                generalize H1 = H at hP hS ⊢
                rw [hr9]
                refine W.eq (g2 := F0 m 75 ls [.int o26.2.1]) rfl ?_
                refine lv_pop hx hb dB_binary_75 rfl ?_
                obtain rfl := Option.some.inj hf
                obtain ⟨hP9, hD9⟩ := xsub (wc := [(a0, .inr (0, [.ref a1, .ref a3, .ref a5, .ref a7, .ref a8, .ref b1, .int v19, .int o23.2])), (a1, .inr (1, [.ref a2, .int v1, .int v2])), (a2, .inl (cT 0, 4096, .inl f0)), (a3, .inr (1, [.ref a4, .int v4, .int v5])), (a4, .inl (cT 0, 4096, .inl f3)), (a5, .inr (1, [.ref a6, .int o26.2.2.2.1, .int o26.2.2.2.2])), (a6, .inl (cT 0, 4096, .inl o26.2.2.1)), (a7, .inl (cT 3, 8, .inr (.inr (.inr (.inr (va_up rf0 x1.toNatClampNeg (some a13))))))), (a8, .inr (3, [.ref a9, .ref a10, .ref p11, .ref p13, .int v15])), (a9, .inl (cT 1, 2048, .inl f9)), (a10, .inl (cT 1, 2048, .inl f10)), (p11, .inl (cT 1, 2048, .inl f12)), (p13, .inl (cT 1, 2048, .inl f14)), (a13, .inr (2, [.ref a14, .int o20.2.2.1, .int o20.2.2.2])), (a14, .inl (cT 2, 4096, .inr (.inl o20.2.1))), (a15, .inr (2, [.ref a16, .int v22, .int v23])), (a16, .inl (cT 2, 4096, .inr (.inl f21)))]) hP hD [2, 3, 4, 5, 6, 7, 8, 9, 10, 11, 12, 13, 14, 15, 16, 0, 1] rfl rfl (by decide)
                refine W.widen (k := 3) (n := 18) (Nat.le_of_ble_eq_true rfl) (Nat.le_of_ble_eq_true rfl) ?_
                exact W.vret hx hb hr (fun t ht hW => ⟨⟨(), rfl, trivial, by rw [ht]; exact hP9, va_K.moved hW.alike hK, hD9⟩, hS.F ht⟩) hS.2.2 dB_binary_76
              rw [if_neg hk28] at hf
              by_cases hk30 : o26.1 = 1
              · rw [if_pos hk30] at hf
                obtain rfl := Option.some.inj hf
                exact absurd (show (1 : Nat) = 0 from hkd) (by decide)
              rw [if_neg hk30] at hf
              exact nomatch hf
            rw [if_neg hk25] at hf
            by_cases hk32 : o23.1 = 1
            · rw [if_pos hk32] at hf
              obtain rfl := Option.some.inj hf
              exact absurd (show (2 : Nat) = 0 from hkd) (by decide)
            rw [if_neg hk32] at hf
            exact nomatch hf
          rw [if_neg hk15] at hf
          by_cases hk33 : o13 = 1
          · rw [if_pos hk33] at hf
            obtain rfl := Option.some.inj hf
            exact absurd (show (3 : Nat) = 0 from hkd) (by decide)
          rw [if_neg hk33] at hf
          exact nomatch hf
        · rw [if_neg hc] at hf
          refine lv_iconst (v := 1) hx hb dB_binary_30 (by decide) ?_
          refine lv_goto (tgt := 35) hx hb dB_binary_31 (by decide) ?_
          obtain ⟨o13, hq14, hf⟩ := xbind hf
          by_cases hk15 : o13 = 0
          · rw [if_pos hk15] at hf
            obtain ⟨hPc, hDc, hFc⟩ := xcut (wc := []) hP hD hS hA [] rfl rfl (by decide)
            refine va_callv (va_runS (As := [.int 1]) (rest := []) ⟨hx, hb, hml, hown, htx⟩ (gB_demand l hl9 D cT aK aV H.size n (1 : Int32) o13 hq14 hk15) ⟨callB_of 1 htx (xw_goodC kw_1_221) rfl rfl rfl (htx _ kw_1_1) (htx _ kw_1_219) ⟨by decide, by decide, by decide +kernel⟩ ⟨Nat.le_of_ble_eq_true rfl, Nat.le_of_ble_eq_true rfl⟩, htx _ kw_1_220⟩ ⟨xPre_blind, (fun U hU hW => ⟨rfl, xPre_of hZ hS hFc hPc hDc hK U hU hW⟩)⟩ rfl rfl hl.1 rfl (lv_room (Nat.le_of_ble_eq_true rfl)) dB_binary_35 ⟨Nat.le_of_ble_eq_true rfl, Nat.le_of_ble_eq_true rfl⟩) hS (fun q _ h => hFc q h) hFc (fun u9 t H1 locs ht hvm hr9 hB hz1 hk1 hS => ?_)
            obtain ⟨hP1, hK1, hD1⟩ := hB
            rw [ht] at hP1
            obtain ⟨hP, hD⟩ := xjoin (W := [(a0, .inr (0, [.ref a1, .ref a3, .ref a5, .ref a7, .ref a8, .ref a13, .int v19, .int v20])), (a1, .inr (1, [.ref a2, .int v1, .int v2])), (a2, .inl (cT 0, 4096, .inl f0)), (a3, .inr (1, [.ref a4, .int v4, .int v5])), (a4, .inl (cT 0, 4096, .inl f3)), (a5, .inr (1, [.ref a6, .int v7, .int v8])), (a6, .inl (cT 0, 4096, .inl f6)), (a7, .inl (cT 3, 8, .inr (.inr (.inr (.inr rf0))))), (a8, .inr (3, [.ref a9, .ref a10, .ref p11, .ref p13, .int v15])), (a9, .inl (cT 1, 2048, .inl f9)), (a10, .inl (cT 1, 2048, .inl f10)), (p11, .inl (cT 1, 2048, .inl f12)), (p13, .inl (cT 1, 2048, .inl f14)), (a13, .inr (2, [.ref a14, .int v17, .int v18])), (a14, .inl (cT 2, 4096, .inr (.inl f16))), (a15, .inr (2, [.ref a16, .int v22, .int v23])), (a16, .inl (cT 2, 4096, .inr (.inl f21)))]) hP hD [] [0, 1, 2, 3, 4, 5, 6, 7, 8, 9, 10, 11, 12, 13, 14, 15, 16] 17 rfl rfl (by decide) (by decide) hk1 hFc hP1 hD1
            generalize H1 = H at hP hS ⊢
            refine lv_aload_n hx hb dB_binary_38 rfl (lv_at hl 0 rfl) ?_
            refine va_get (D := D) (ci := 0) (v := .ref a13) (C := "ValueBench") (T := TB) (N := 8) hx hb htx inB hown hK hP 0 rfl rfl 5 (by decide) (htx _ kw_1_100) (fun _ h9 => h9) rfl dB_binary_39 ?_
            obtain ⟨o16, hq17, hf⟩ := xbind hf
            obtain ⟨hPc, hDc, hFc⟩ := xcut (wc := [(a13, .inr (2, [.ref a14, .int v17, .int v18])), (a14, .inl (cT 2, 4096, .inr (.inl f16)))]) hP hD hS hA [13, 14] rfl rfl (by decide)
            refine va_callv (va_runV (C := "ValueBench$Row") (As := []) (rest := []) ⟨hx, hb, hml, hown, htx⟩ (gR_clear l hl9 D cT aK aV H.size n a13 a14 f16 v17 v18 o16 hq17) ⟨callB_of 0 htx (xw_goodC kw_2_22) rfl rfl rfl (htx _ kw_1_4) (htx _ kw_2_19) ⟨by decide, by decide, by decide +kernel⟩ ⟨Nat.le_of_ble_eq_true rfl, Nat.le_of_ble_eq_true rfl⟩, (htx _ kw_2_20), (htx _ kw_2_21)⟩ ⟨xPre_blind, va_recv hK hP (ci := 2) rfl (q0 := 13) rfl, (fun U hU hW => ⟨rfl, xPre_of hZ hS hFc hPc hDc hK U hU hW⟩)⟩ rfl rfl hl.1 rfl (lv_room (Nat.le_of_ble_eq_true rfl)) dB_binary_42 ⟨Nat.le_of_ble_eq_true rfl, Nat.le_of_ble_eq_true rfl⟩) hS (fun q _ h => hFc q h) hFc (fun u9 t H1 locs ht hvm hr9 hB hz1 hk1 hS => ?_)
            obtain ⟨hP1, hK1, hD1⟩ := hB
            rw [ht] at hP1
            obtain ⟨hP, hD⟩ := xjoin (W := [(a0, .inr (0, [.ref a1, .ref a3, .ref a5, .ref a7, .ref a8, .ref a13, .int v19, .int v20])), (a1, .inr (1, [.ref a2, .int v1, .int v2])), (a2, .inl (cT 0, 4096, .inl f0)), (a3, .inr (1, [.ref a4, .int v4, .int v5])), (a4, .inl (cT 0, 4096, .inl f3)), (a5, .inr (1, [.ref a6, .int v7, .int v8])), (a6, .inl (cT 0, 4096, .inl f6)), (a7, .inl (cT 3, 8, .inr (.inr (.inr (.inr rf0))))), (a8, .inr (3, [.ref a9, .ref a10, .ref p11, .ref p13, .int v15])), (a9, .inl (cT 1, 2048, .inl f9)), (a10, .inl (cT 1, 2048, .inl f10)), (p11, .inl (cT 1, 2048, .inl f12)), (p13, .inl (cT 1, 2048, .inl f14)), (a15, .inr (2, [.ref a16, .int v22, .int v23])), (a16, .inl (cT 2, 4096, .inr (.inl f21))), (a13, .inr (2, [.ref a14, .int o16.1, .int o16.2])), (a14, .inl (cT 2, 4096, .inr (.inl f16)))]) hP hD [13, 14] [0, 1, 2, 3, 4, 5, 6, 7, 8, 9, 10, 11, 12, 15, 16] 15 rfl rfl (by decide) (by decide) hk1 hFc hP1 hD1
            generalize H1 = H at hP hS ⊢
            refine lv_aload_n hx hb dB_binary_45 rfl (lv_at hl 0 rfl) ?_
            refine lv_iload_n hx hb dB_binary_46 rfl (lv_at hl 2 rfl) ?_
            refine lv_aload_n hx hb dB_binary_47 rfl (lv_at hl 0 rfl) ?_
            refine va_get (D := D) (ci := 0) (v := .ref a7) (C := "ValueBench") (T := TB) (N := 8) hx hb htx inB hown hK hP 0 rfl rfl 3 (by decide) (htx _ kw_1_98) (fun _ h9 => h9) rfl dB_binary_48 ?_
            refine lv_iload_n hx hb dB_binary_51 rfl (lv_at hl 3 rfl) ?_
            obtain ⟨hg18, hf⟩ := xifn hf
            refine va_aldq hx hb hK hP 7 3 rfl rfl hg18 dB_binary_52 ?_
            refine W.eq (g2 := F0 m 53 ls [va_rf (rf0 x3.toNatClampNeg), .int x2, .ref a0]) rfl ?_
            rw [hr3 hg18]
            refine W.eq (g2 := F0 m 53 ls [.ref a15, .int x2, .ref a0]) rfl ?_
            refine lv_aload_n hx hb dB_binary_53 rfl (lv_at hl 0 rfl) ?_
            refine va_get (D := D) (ci := 0) (v := .ref a7) (C := "ValueBench") (T := TB) (N := 8) hx hb htx inB hown hK hP 0 rfl rfl 3 (by decide) (htx _ kw_1_98) (fun _ h9 => h9) rfl dB_binary_54 ?_
            refine lv_iload hx hb dB_binary_57 (lv_at hl 4 rfl) ?_
            obtain ⟨hg19, hf⟩ := xifn hf
            refine va_aldq hx hb hK hP 7 3 rfl rfl hg19 dB_binary_59 ?_
            refine W.eq (g2 := F0 m 60 ls [va_rf (rf0 x4.toNatClampNeg), .ref a15, .int x2, .ref a0]) rfl ?_
            rw [hr4 hg19]
            refine W.eq (g2 := F0 m 60 ls [.ref a15, .ref a15, .int x2, .ref a0]) rfl ?_
            refine lv_aload_n hx hb dB_binary_60 rfl (lv_at hl 0 rfl) ?_
            refine va_get (D := D) (ci := 0) (v := .ref a13) (C := "ValueBench") (T := TB) (N := 8) hx hb htx inB hown hK hP 0 rfl rfl 5 (by decide) (htx _ kw_1_100) (fun _ h9 => h9) rfl dB_binary_61 ?_
            obtain ⟨o20, hq21, hf⟩ := xbind hf
            obtain ⟨hPc, hDc, hFc⟩ := xcut (wc := [(a15, .inr (2, [.ref a16, .int v22, .int v23])), (a16, .inl (cT 2, 4096, .inr (.inl f21))), (a13, .inr (2, [.ref a14, .int o16.1, .int o16.2])), (a14, .inl (cT 2, 4096, .inr (.inl f16)))]) hP hD hS hA [13, 14, 15, 16] rfl rfl (by decide)
            refine va_calli (va_runS (As := [.int x2, .ref a15, .ref a15, .ref a13]) (rest := [.ref a0]) ⟨hx, hb, hml, hown, htx⟩ (gA_applya l hl9 D cT aK aV H.size d n a15 a16 a13 a14 x2 f21 v22 v23 f16 o16.1 o16.2 o20 hq21) ⟨callB_of 4 htx (xw_goodC kw_3_105) rfl rfl rfl (htx _ kw_1_21) (htx _ kw_3_103) ⟨by decide, by decide, by decide +kernel⟩ ⟨(by show (16 * d + 5) + 1 ≤ 16 * d + 7; omega), (by show 8 + (4 + 11) + (400 * d + 157) ≤ 400 * d + 180; omega)⟩, htx _ kw_3_104⟩ ⟨xPre_blind, (fun U hU hW => ⟨rfl, xPre_of hZ hS hFc hPc hDc hK U hU hW⟩)⟩ rfl rfl hl.1 rfl (lv_room (Nat.le_of_ble_eq_true rfl)) dB_binary_64 ⟨Nat.le_of_ble_eq_true rfl, Nat.le_of_ble_eq_true rfl⟩) hS (fun q _ h => hFc q h) hFc (fun r22 u9 t H1 locs ht hvm hr9 hB hz1 hk1 hS => ?_)
            obtain ⟨hP1, hK1, hD1⟩ := hB
            rw [ht] at hP1
            obtain ⟨hP, hD⟩ := xjoin (W := [(a0, .inr (0, [.ref a1, .ref a3, .ref a5, .ref a7, .ref a8, .ref a13, .int v19, .int v20])), (a1, .inr (1, [.ref a2, .int v1, .int v2])), (a2, .inl (cT 0, 4096, .inl f0)), (a3, .inr (1, [.ref a4, .int v4, .int v5])), (a4, .inl (cT 0, 4096, .inl f3)), (a5, .inr (1, [.ref a6, .int v7, .int v8])), (a6, .inl (cT 0, 4096, .inl f6)), (a7, .inl (cT 3, 8, .inr (.inr (.inr (.inr rf0))))), (a8, .inr (3, [.ref a9, .ref a10, .ref p11, .ref p13, .int v15])), (a9, .inl (cT 1, 2048, .inl f9)), (a10, .inl (cT 1, 2048, .inl f10)), (p11, .inl (cT 1, 2048, .inl f12)), (p13, .inl (cT 1, 2048, .inl f14)), (a15, .inr (2, [.ref a16, .int v22, .int v23])), (a16, .inl (cT 2, 4096, .inr (.inl f21))), (a13, .inr (2, [.ref a14, .int o20.2.2.1, .int o20.2.2.2])), (a14, .inl (cT 2, 4096, .inr (.inl o20.2.1)))]) hP hD [13, 14, 15, 16] [0, 1, 2, 3, 4, 5, 6, 7, 8, 9, 10, 11, 12] 13 rfl rfl (by decide) (by decide) hk1 hFc hP1 hD1
            generalize H1 = H at hP hS ⊢
            rw [hr9]
            refine W.eq (g2 := F0 m 67 ls [.int o20.1, .ref a0]) rfl ?_
            obtain ⟨o23, hq24, hf⟩ := xbind hf
            by_cases hk25 : o23.1 = 0
            · rw [if_pos hk25] at hf
              obtain ⟨hPc, hDc, hFc⟩ := xcut (wc := [(a0, .inr (0, [.ref a1, .ref a3, .ref a5, .ref a7, .ref a8, .ref a13, .int v19, .int v20])), (a1, .inr (1, [.ref a2, .int v1, .int v2])), (a2, .inl (cT 0, 4096, .inl f0)), (a3, .inr (1, [.ref a4, .int v4, .int v5])), (a4, .inl (cT 0, 4096, .inl f3)), (a5, .inr (1, [.ref a6, .int v7, .int v8])), (a6, .inl (cT 0, 4096, .inl f6)), (a7, .inl (cT 3, 8, .inr (.inr (.inr (.inr rf0))))), (a8, .inr (3, [.ref a9, .ref a10, .ref p11, .ref p13, .int v15])), (a9, .inl (cT 1, 2048, .inl f9)), (a10, .inl (cT 1, 2048, .inl f10)), (p11, .inl (cT 1, 2048, .inl f12)), (p13, .inl (cT 1, 2048, .inl f14)), (a13, .inr (2, [.ref a14, .int o20.2.2.1, .int o20.2.2.2])), (a14, .inl (cT 2, 4096, .inr (.inl o20.2.1)))]) hP hD hS hA [0, 1, 2, 3, 4, 5, 6, 7, 8, 9, 10, 11, 12, 15, 16] rfl rfl (by decide)
              refine va_callv (va_runV (C := "ValueBench") (As := [.int o20.1]) (rest := []) ⟨hx, hb, hml, hown, htx⟩ (gB_demandDone l hl9 D cT aK aV H.size n a0 a1 a2 a3 a4 a5 a6 a7 a8 a9 a10 a13 a14 rf0 o20.1 f0 v1 v2 f3 v4 v5 f6 v7 v8 f9 f10 p11 f12 p13 f14 v15 o20.2.1 o20.2.2.1 o20.2.2.2 v19 v20 o23 hq24 hk25) ⟨callB_of 1 htx (xw_goodC kw_3_222) rfl rfl rfl (htx _ kw_1_1) (htx _ kw_3_219) ⟨by decide, by decide, by decide +kernel⟩ ⟨Nat.le_of_ble_eq_true rfl, Nat.le_of_ble_eq_true rfl⟩, (htx _ kw_3_221), (htx _ kp_B_demandDone)⟩ ⟨xPre_blind, va_recv hK hP (ci := 0) rfl (q0 := 0) rfl, (fun U hU hW => ⟨rfl, xPre_of hZ hS hFc hPc hDc hK U hU hW⟩)⟩ rfl rfl hl.1 rfl (lv_room (Nat.le_of_ble_eq_true rfl)) dB_binary_67 ⟨Nat.le_of_ble_eq_true rfl, Nat.le_of_ble_eq_true rfl⟩) hS (fun q _ h => hFc q h) hFc (fun u9 t H1 locs ht hvm hr9 hB hz1 hk1 hS => ?_)
              obtain ⟨hP1, hK1, hD1⟩ := hB
              rw [ht] at hP1
              obtain ⟨hP, hD⟩ := xjoin (W := [(a15, .inr (2, [.ref a16, .int v22, .int v23])), (a16, .inl (cT 2, 4096, .inr (.inl f21))), (a0, .inr (0, [.ref a1, .ref a3, .ref a5, .ref a7, .ref a8, .ref a13, .int v19, .int o23.2])), (a1, .inr (1, [.ref a2, .int v1, .int v2])), (a2, .inl (cT 0, 4096, .inl f0)), (a3, .inr (1, [.ref a4, .int v4, .int v5])), (a4, .inl (cT 0, 4096, .inl f3)), (a5, .inr (1, [.ref a6, .int v7, .int v8])), (a6, .inl (cT 0, 4096, .inl f6)), (a7, .inl (cT 3, 8, .inr (.inr (.inr (.inr rf0))))), (a8, .inr (3, [.ref a9, .ref a10, .ref p11, .ref p13, .int v15])), (a9, .inl (cT 1, 2048, .inl f9)), (a10, .inl (cT 1, 2048, .inl f10)), (p11, .inl (cT 1, 2048, .inl f12)), (p13, .inl (cT 1, 2048, .inl f14)), (a13, .inr (2, [.ref a14, .int o20.2.2.1, .int o20.2.2.2])), (a14, .inl (cT 2, 4096, .inr (.inl o20.2.1)))]) hP hD [0, 1, 2, 3, 4, 5, 6, 7, 8, 9, 10, 11, 12, 15, 16] [13, 14] 2 rfl rfl (by decide) (by decide) hk1 hFc hP1 hD1
              generalize H1 = H at hP hS ⊢
              refine lv_aload_n hx hb dB_binary_70 rfl (lv_at hl 0 rfl) ?_
              refine lv_iload_n hx hb dB_binary_71 rfl (lv_at hl 1 rfl) ?_
              obtain ⟨o26, hq27, hf⟩ := xbind hf
              by_cases hk28 : o26.1 = 0
              · rw [if_pos hk28] at hf
                obtain ⟨hPc, hDc, hFc⟩ := xcut (wc := [(a0, .inr (0, [.ref a1, .ref a3, .ref a5, .ref a7, .ref a8, .ref a13, .int v19, .int o23.2])), (a1, .inr (1, [.ref a2, .int v1, .int v2])), (a2, .inl (cT 0, 4096, .inl f0)), (a3, .inr (1, [.ref a4, .int v4, .int v5])), (a4, .inl (cT 0, 4096, .inl f3)), (a5, .inr (1, [.ref a6, .int v7, .int v8])), (a6, .inl (cT 0, 4096, .inl f6)), (a7, .inl (cT 3, 8, .inr (.inr (.inr (.inr rf0))))), (a8, .inr (3, [.ref a9, .ref a10, .ref p11, .ref p13, .int v15])), (a9, .inl (cT 1, 2048, .inl f9)), (a10, .inl (cT 1, 2048, .inl f10)), (p11, .inl (cT 1, 2048, .inl f12)), (p13, .inl (cT 1, 2048, .inl f14)), (a13, .inr (2, [.ref a14, .int o20.2.2.1, .int o20.2.2.2])), (a14, .inl (cT 2, 4096, .inr (.inl o20.2.1)))]) hP hD hS hA [2, 3, 4, 5, 6, 7, 8, 9, 10, 11, 12, 13, 14, 15, 16] rfl rfl (by decide)
                refine va_calli (va_runV (C := "ValueBench") (As := [.int x1]) (rest := []) ⟨hx, hb, hml, hown, htx⟩ (gB_keepSpare l hl9 D cT aK aV H.size d n a0 a1 a2 a3 a4 a5 a6 a7 a8 a9 a10 a13 a14 rf0 b1 x1 f0 v1 v2 f3 v4 v5 f6 v7 v8 f9 f10 p11 f12 p13 f14 v15 o20.2.1 o20.2.2.1 o20.2.2.2 v19 o23.2 hr1 o26 hq27 hk28) ⟨callB_of 1 htx (xw_goodC kw_3_17) rfl rfl rfl (htx _ kw_1_1) (htx _ kw_3_14) ⟨by decide, by decide, by decide +kernel⟩ ⟨(by show (16 * d + 6) + 1 ≤ 16 * d + 7; omega), (by show 8 + (3 + 11) + (400 * d + 100) ≤ 400 * d + 180; omega)⟩, (htx _ kw_3_16), (htx _ kp_B_keepSpare)⟩ ⟨xPre_blind, va_recv hK hP (ci := 0) rfl (q0 := 2) rfl, (fun U hU hW => ⟨rfl, xPre_of hZ hS hFc hPc hDc hK U hU hW⟩)⟩ rfl rfl hl.1 rfl (lv_room (Nat.le_of_ble_eq_true rfl)) dB_binary_72 ⟨Nat.le_of_ble_eq_true rfl, Nat.le_of_ble_eq_true rfl⟩) hS (fun q _ h => hFc q h) hFc (fun r29 u9 t H1 locs ht hvm hr9 hB hz1 hk1 hS => ?_)
                obtain ⟨hP1, hK1, hD1⟩ := hB
                rw [ht] at hP1
                obtain ⟨hP, hD⟩ := xjoin (W := [(a15, .inr (2, [.ref a16, .int v22, .int v23])), (a16, .inl (cT 2, 4096, .inr (.inl f21))), (a0, .inr (0, [.ref a1, .ref a3, .ref a5, .ref a7, .ref a8, .ref b1, .int v19, .int o23.2])), (a1, .inr (1, [.ref a2, .int v1, .int v2])), (a2, .inl (cT 0, 4096, .inl f0)), (a3, .inr (1, [.ref a4, .int v4, .int v5])), (a4, .inl (cT 0, 4096, .inl f3)), (a5, .inr (1, [.ref a6, .int o26.2.2.2.1, .int o26.2.2.2.2])), (a6, .inl (cT 0, 4096, .inl o26.2.2.1)), (a7, .inl (cT 3, 8, .inr (.inr (.inr (.inr (va_up rf0 x1.toNatClampNeg (some a13))))))), (a8, .inr (3, [.ref a9, .ref a10, .ref p11, .ref p13, .int v15])), (a9, .inl (cT 1, 2048, .inl f9)), (a10, .inl (cT 1, 2048, .inl f10)), (p11, .inl (cT 1, 2048, .inl f12)), (p13, .inl (cT 1, 2048, .inl f14)), (a13, .inr (2, [.ref a14, .int o20.2.2.1, .int o20.2.2.2])), (a14, .inl (cT 2, 4096, .inr (.inl o20.2.1)))]) hP hD [2, 3, 4, 5, 6, 7, 8, 9, 10, 11, 12, 13, 14, 15, 16] [0, 1] 2 rfl rfl (by decide) (by decide) hk1 hFc hP1 hD1
                generalize H1 = H at hP hS ⊢
                rw [hr9]
                refine W.eq (g2 := F0 m 75 ls [.int o26.2.1]) rfl ?_
                refine lv_pop hx hb dB_binary_75 rfl ?_
                obtain rfl := Option.some.inj hf
                obtain ⟨hP9, hD9⟩ := xsub (wc := [(a0, .inr (0, [.ref a1, .ref a3, .ref a5, .ref a7, .ref a8, .ref b1, .int v19, .int o23.2])), (a1, .inr (1, [.ref a2, .int v1, .int v2])), (a2, .inl (cT 0, 4096, .inl f0)), (a3, .inr (1, [.ref a4, .int v4, .int v5])), (a4, .inl (cT 0, 4096, .inl f3)), (a5, .inr (1, [.ref a6, .int o26.2.2.2.1, .int o26.2.2.2.2])), (a6, .inl (cT 0, 4096, .inl o26.2.2.1)), (a7, .inl (cT 3, 8, .inr (.inr (.inr (.inr (va_up rf0 x1.toNatClampNeg (some a13))))))), (a8, .inr (3, [.ref a9, .ref a10, .ref p11, .ref p13, .int v15])), (a9, .inl (cT 1, 2048, .inl f9)), (a10, .inl (cT 1, 2048, .inl f10)), (p11, .inl (cT 1, 2048, .inl f12)), (p13, .inl (cT 1, 2048, .inl f14)), (a13, .inr (2, [.ref a14, .int o20.2.2.1, .int o20.2.2.2])), (a14, .inl (cT 2, 4096, .inr (.inl o20.2.1))), (a15, .inr (2, [.ref a16, .int v22, .int v23])), (a16, .inl (cT 2, 4096, .inr (.inl f21)))]) hP hD [2, 3, 4, 5, 6, 7, 8, 9, 10, 11, 12, 13, 14, 15, 16, 0, 1] rfl rfl (by decide)
                refine W.widen (k := 3) (n := 18) (Nat.le_of_ble_eq_true rfl) (Nat.le_of_ble_eq_true rfl) ?_
                exact W.vret hx hb hr (fun t ht hW => ⟨⟨(), rfl, trivial, by rw [ht]; exact hP9, va_K.moved hW.alike hK, hD9⟩, hS.F ht⟩) hS.2.2 dB_binary_76
              rw [if_neg hk28] at hf
              by_cases hk30 : o26.1 = 1
              · rw [if_pos hk30] at hf
                obtain rfl := Option.some.inj hf
                exact absurd (show (1 : Nat) = 0 from hkd) (by decide)
              rw [if_neg hk30] at hf
              exact nomatch hf
            rw [if_neg hk25] at hf
            by_cases hk32 : o23.1 = 1
            · rw [if_pos hk32] at hf
              obtain rfl := Option.some.inj hf
              exact absurd (show (2 : Nat) = 0 from hkd) (by decide)
            rw [if_neg hk32] at hf
            exact nomatch hf
          rw [if_neg hk15] at hf
          by_cases hk33 : o13 = 1
          · rw [if_pos hk33] at hf
            obtain rfl := Option.some.inj hf
            exact absurd (show (3 : Nat) = 0 from hkd) (by decide)
          rw [if_neg hk33] at hf
          exact nomatch hf
set_option maxHeartbeats 400000000 in
set_option maxRecDepth 100000 in
theorem gB_binarya_1 (l : Launch) (hl9 : l.stackTraces = false) (D : va_G) (cT : Nat → ClassId) (aK aV : Nat → Nat) (sz d n : Nat) (a0 : Nat) (a1 : Nat) (a2 : Nat) (a3 : Nat) (a4 : Nat) (a5 : Nat) (a6 : Nat) (a7 : Nat) (a8 : Nat) (a9 : Nat) (a10 : Nat) (a13 : Nat) (a14 : Nat) (a15 : Nat) (a16 : Nat) (rf0 : Nat → Option Nat) (b1 : Nat) (x1 : Int32) (x2 : Int32) (x3 : Int32) (x4 : Int32) (f0 : Nat → Int32) (v1 : Int32) (v2 : Int32) (f3 : Nat → Int32) (v4 : Int32) (v5 : Int32) (f6 : Nat → Int32) (v7 : Int32) (v8 : Int32) (f9 : Nat → Int32) (f10 : Nat → Int32) (p11 : Nat) (f12 : Nat → Int32) (p13 : Nat) (f14 : Nat → Int32) (v15 : Int32) (f16 : Nat → Int64) (v17 : Int32) (v18 : Int32) (v19 : Int32) (v20 : Int32) (f21 : Nat → Int64) (v22 : Int32) (v23 : Int32) (hr1 : ¬ (x1 < 0 ∨ 8 ≤ x1.toNatClampNeg) → rf0 x1.toNatClampNeg = some b1) (hr3 : ¬ (x3 < 0 ∨ 8 ≤ x3.toNatClampNeg) → rf0 x3.toNatClampNeg = some a15) (hr4 : ¬ (x4 < 0 ∨ 8 ≤ x4.toNatClampNeg) → rf0 x4.toNatClampNeg = some a15) (out : Nat × (Nat → Int32) × Int32 × Int32 × (Nat → Int64) × Int32 × Int32 × Int32) (hf : fB_binarya d n x1 x2 x3 x4 f0 v1 v2 f3 v4 v5 f6 v7 v8 f9 f10 p11 f12 p13 f14 v15 f16 v17 v18 v19 v20 f21 v22 v23 = some out) (hkd : out.1 = 1) : xMetX l yB_binary wyB_binary (16 * d + 7) 3 18 (400 * d + 180) D cT aK aV sz [.ref a0, .int x1, .int x2, .int x3, .int x4] [(a0, .inr (0, [.ref a1, .ref a3, .ref a5, .ref a7, .ref a8, .ref a13, .int v19, .int v20])), (a1, .inr (1, [.ref a2, .int v1, .int v2])), (a2, .inl (cT 0, 4096, .inl f0)), (a3, .inr (1, [.ref a4, .int v4, .int v5])), (a4, .inl (cT 0, 4096, .inl f3)), (a5, .inr (1, [.ref a6, .int v7, .int v8])), (a6, .inl (cT 0, 4096, .inl f6)), (a7, .inl (cT 3, 8, .inr (.inr (.inr (.inr rf0))))), (a8, .inr (3, [.ref a9, .ref a10, .ref p11, .ref p13, .int v15])), (a9, .inl (cT 1, 2048, .inl f9)), (a10, .inl (cT 1, 2048, .inl f10)), (p11, .inl (cT 1, 2048, .inl f12)), (p13, .inl (cT 1, 2048, .inl f14)), (a13, .inr (2, [.ref a14, .int v17, .int v18])), (a14, .inl (cT 2, 4096, .inr (.inl f16))), (a15, .inr (2, [.ref a16, .int v22, .int v23])), (a16, .inl (cT 2, 4096, .inr (.inl f21)))] "java/lang/IndexOutOfBoundsException" (fun A t => xB D xcl cT A [(a0, .inr (0, [.ref a1, .ref a3, .ref a5, .ref a7, .ref a8, .ref a13, .int v19, .int out.2.2.2.2.2.2.2])), (a1, .inr (1, [.ref a2, .int v1, .int v2])), (a2, .inl (cT 0, 4096, .inl f0)), (a3, .inr (1, [.ref a4, .int v4, .int v5])), (a4, .inl (cT 0, 4096, .inl f3)), (a5, .inr (1, [.ref a6, .int out.2.2.1, .int out.2.2.2.1])), (a6, .inl (cT 0, 4096, .inl out.2.1)), (a7, .inl (cT 3, 8, .inr (.inr (.inr (.inr rf0))))), (a8, .inr (3, [.ref a9, .ref a10, .ref p11, .ref p13, .int v15])), (a9, .inl (cT 1, 2048, .inl f9)), (a10, .inl (cT 1, 2048, .inl f10)), (p11, .inl (cT 1, 2048, .inl f12)), (p13, .inl (cT 1, 2048, .inl f14)), (a13, .inr (2, [.ref a14, .int out.2.2.2.2.2.1, .int out.2.2.2.2.2.2.1])), (a14, .inl (cT 2, 4096, .inr (.inl out.2.2.2.2.1))), (a15, .inr (2, [.ref a16, .int v22, .int v23])), (a16, .inl (cT 2, 4096, .inr (.inl f21)))] t) := by
  refine vx_ofW (cc := prog_1_method_6_code) (maxL := 5) (ret := none) (by decide) rfl ?_
  intro p e s m args below meth c s₁ B hml hne hv
  obtain ⟨rfl, hsz, hZ, hP, hK, hD0⟩ := hv
  have hx := B.exec
  have hb := B.bytes
  have hr := B.returns
  have hts := atoms_spec (ws := wyB_binary) B.pre
  have htx := fun w h => hts w (List.mem_cons_of_mem _ h)
  have hown : s.vm.findClass "ValueBench" = some m.cls := findClass_of_methodNamed B.named
  have hlocks := B.notSynchronized
  subst hsz
  have hD := hD0.self (sz := s.heap.size)
  generalize hAe : va_A [(a0, .inr (0, [.ref a1, .ref a3, .ref a5, .ref a7, .ref a8, .ref a13, .int v19, .int v20])), (a1, .inr (1, [.ref a2, .int v1, .int v2])), (a2, .inl (cT 0, 4096, .inl f0)), (a3, .inr (1, [.ref a4, .int v4, .int v5])), (a4, .inl (cT 0, 4096, .inl f3)), (a5, .inr (1, [.ref a6, .int v7, .int v8])), (a6, .inl (cT 0, 4096, .inl f6)), (a7, .inl (cT 3, 8, .inr (.inr (.inr (.inr rf0))))), (a8, .inr (3, [.ref a9, .ref a10, .ref p11, .ref p13, .int v15])), (a9, .inl (cT 1, 2048, .inl f9)), (a10, .inl (cT 1, 2048, .inl f10)), (p11, .inl (cT 1, 2048, .inl f12)), (p13, .inl (cT 1, 2048, .inl f14)), (a13, .inr (2, [.ref a14, .int v17, .int v18])), (a14, .inl (cT 2, 4096, .inr (.inl f16))), (a15, .inr (2, [.ref a16, .int v22, .int v23])), (a16, .inl (cT 2, 4096, .inr (.inl f21)))] s.heap.size = A at hD hZ ⊢
  have hA : ∀ q : Nat, s.heap.size ≤ q → A q := fun q h => by rw [← hAe]; exact Or.inr h
  have hS : va_S A s.heap s.heap [] := va_S.rf
  have hP : va_P D xcl [(a0, .inr (0, [.ref a1, .ref a3, .ref a5, .ref a7, .ref a8, .ref a13, .int v19, .int v20])), (a1, .inr (1, [.ref a2, .int v1, .int v2])), (a2, .inl (cT 0, 4096, .inl f0)), (a3, .inr (1, [.ref a4, .int v4, .int v5])), (a4, .inl (cT 0, 4096, .inl f3)), (a5, .inr (1, [.ref a6, .int v7, .int v8])), (a6, .inl (cT 0, 4096, .inl f6)), (a7, .inl (cT 3, 8, .inr (.inr (.inr (.inr rf0))))), (a8, .inr (3, [.ref a9, .ref a10, .ref p11, .ref p13, .int v15])), (a9, .inl (cT 1, 2048, .inl f9)), (a10, .inl (cT 1, 2048, .inl f10)), (p11, .inl (cT 1, 2048, .inl f12)), (p13, .inl (cT 1, 2048, .inl f14)), (a13, .inr (2, [.ref a14, .int v17, .int v18])), (a14, .inl (cT 2, 4096, .inr (.inl f16))), (a15, .inr (2, [.ref a16, .int v22, .int v23])), (a16, .inl (cT 2, 4096, .inr (.inl f21)))] s.heap := hP
  have hl := lv_entry ([.ref a0, .int x1, .int x2, .int x3, .int x4]) (n := 5) (Nat.le_of_ble_eq_true rfl)
  rw [lg_entry_eq]
  generalize (lg_sl ([.ref a0, .int x1, .int x2, .int x3, .int x4]) ++ List.replicate (5 - (lg_sl ([.ref a0, .int x1, .int x2, .int x3, .int x4])).length) Slot.unset).toArray = ls at hl ⊢
  have hl : lv_has ls 5 [(0, .ref a0), (1, .int x1), (2, .int x2), (3, .int x3), (4, .int x4)] := hl
  unfold fB_binarya at hf
  refine lv_iload_n hx hb dB_binary_0 rfl (lv_at hl 1 rfl) ?_
  obtain ⟨o1, hq2, hf⟩ := xbind hf
  obtain ⟨hPc, hDc, hFc⟩ := xcut (wc := []) hP hD hS hA [] rfl rfl (by decide)
  refine va_calli (va_runS (As := [.int x1]) (rest := []) ⟨hx, hb, hml, hown, htx⟩ (gB_isRegister l hl9 D cT aK aV s.heap.size n x1 o1 hq2) ⟨callB_of 1 htx (xw_goodC kw_2_18) rfl rfl rfl (htx _ kw_1_1) (htx _ kw_2_16) ⟨by decide, by decide, by decide +kernel⟩ ⟨Nat.le_of_ble_eq_true rfl, Nat.le_of_ble_eq_true rfl⟩, htx _ kw_2_17⟩ ⟨xPre_blind, (fun U hU hW => ⟨rfl, xPre_of hZ hS hFc hPc hDc hK U hU hW⟩)⟩ rfl rfl hl.1 rfl (lv_room (Nat.le_of_ble_eq_true rfl)) dB_binary_1 ⟨Nat.le_of_ble_eq_true rfl, Nat.le_of_ble_eq_true rfl⟩) hS (fun q _ h => hFc q h) hFc (fun r3 u9 t H1 locs ht hvm hr9 hB hz1 hk1 hS => ?_)
  obtain ⟨hP1, hK1, hD1⟩ := hB
  rw [ht] at hP1
  obtain ⟨hP, hD⟩ := xjoin (W := [(a0, .inr (0, [.ref a1, .ref a3, .ref a5, .ref a7, .ref a8, .ref a13, .int v19, .int v20])), (a1, .inr (1, [.ref a2, .int v1, .int v2])), (a2, .inl (cT 0, 4096, .inl f0)), (a3, .inr (1, [.ref a4, .int v4, .int v5])), (a4, .inl (cT 0, 4096, .inl f3)), (a5, .inr (1, [.ref a6, .int v7, .int v8])), (a6, .inl (cT 0, 4096, .inl f6)), (a7, .inl (cT 3, 8, .inr (.inr (.inr (.inr rf0))))), (a8, .inr (3, [.ref a9, .ref a10, .ref p11, .ref p13, .int v15])), (a9, .inl (cT 1, 2048, .inl f9)), (a10, .inl (cT 1, 2048, .inl f10)), (p11, .inl (cT 1, 2048, .inl f12)), (p13, .inl (cT 1, 2048, .inl f14)), (a13, .inr (2, [.ref a14, .int v17, .int v18])), (a14, .inl (cT 2, 4096, .inr (.inl f16))), (a15, .inr (2, [.ref a16, .int v22, .int v23])), (a16, .inl (cT 2, 4096, .inr (.inl f21)))]) hP hD [] [0, 1, 2, 3, 4, 5, 6, 7, 8, 9, 10, 11, 12, 13, 14, 15, 16] 17 rfl rfl (by decide) (by decide) hk1 hFc hP1 hD1
  generalize H1 = H at hP hS ⊢
  rw [hr9]
  refine W.eq (g2 := F0 m 4 ls [.int o1]) rfl ?_
  refine lv_if_eq (tgt := 34) hx hb dB_binary_4 (by decide) (fun hc => ?_) (fun hc => ?_)
  · rw [if_pos hc] at hf
    refine lv_iconst (v := 0) hx hb dB_binary_34 (by decide) ?_
    obtain ⟨o4, hq5, hf⟩ := xbind hf
    by_cases hk6 : o4 = 0
    · rw [if_pos hk6] at hf
      obtain ⟨hPc, hDc, hFc⟩ := xcut (wc := []) hP hD hS hA [] rfl rfl (by decide)
      refine va_callv (va_runS (As := [.int 0]) (rest := []) ⟨hx, hb, hml, hown, htx⟩ (gB_demand l hl9 D cT aK aV H.size n (0 : Int32) o4 hq5 hk6) ⟨callB_of 1 htx (xw_goodC kw_1_221) rfl rfl rfl (htx _ kw_1_1) (htx _ kw_1_219) ⟨by decide, by decide, by decide +kernel⟩ ⟨Nat.le_of_ble_eq_true rfl, Nat.le_of_ble_eq_true rfl⟩, htx _ kw_1_220⟩ ⟨xPre_blind, (fun U hU hW => ⟨rfl, xPre_of hZ hS hFc hPc hDc hK U hU hW⟩)⟩ rfl rfl hl.1 rfl (lv_room (Nat.le_of_ble_eq_true rfl)) dB_binary_35 ⟨Nat.le_of_ble_eq_true rfl, Nat.le_of_ble_eq_true rfl⟩) hS (fun q _ h => hFc q h) hFc (fun u9 t H1 locs ht hvm hr9 hB hz1 hk1 hS => ?_)
      obtain ⟨hP1, hK1, hD1⟩ := hB
      rw [ht] at hP1
      obtain ⟨hP, hD⟩ := xjoin (W := [(a0, .inr (0, [.ref a1, .ref a3, .ref a5, .ref a7, .ref a8, .ref a13, .int v19, .int v20])), (a1, .inr (1, [.ref a2, .int v1, .int v2])), (a2, .inl (cT 0, 4096, .inl f0)), (a3, .inr (1, [.ref a4, .int v4, .int v5])), (a4, .inl (cT 0, 4096, .inl f3)), (a5, .inr (1, [.ref a6, .int v7, .int v8])), (a6, .inl (cT 0, 4096, .inl f6)), (a7, .inl (cT 3, 8, .inr (.inr (.inr (.inr rf0))))), (a8, .inr (3, [.ref a9, .ref a10, .ref p11, .ref p13, .int v15])), (a9, .inl (cT 1, 2048, .inl f9)), (a10, .inl (cT 1, 2048, .inl f10)), (p11, .inl (cT 1, 2048, .inl f12)), (p13, .inl (cT 1, 2048, .inl f14)), (a13, .inr (2, [.ref a14, .int v17, .int v18])), (a14, .inl (cT 2, 4096, .inr (.inl f16))), (a15, .inr (2, [.ref a16, .int v22, .int v23])), (a16, .inl (cT 2, 4096, .inr (.inl f21)))]) hP hD [] [0, 1, 2, 3, 4, 5, 6, 7, 8, 9, 10, 11, 12, 13, 14, 15, 16] 17 rfl rfl (by decide) (by decide) hk1 hFc hP1 hD1
      generalize H1 = H at hP hS ⊢
      refine lv_aload_n hx hb dB_binary_38 rfl (lv_at hl 0 rfl) ?_
      refine va_get (D := D) (ci := 0) (v := .ref a13) (C := "ValueBench") (T := TB) (N := 8) hx hb htx inB hown hK hP 0 rfl rfl 5 (by decide) (htx _ kw_1_100) (fun _ h9 => h9) rfl dB_binary_39 ?_
      obtain ⟨o7, hq8, hf⟩ := xbind hf
      obtain ⟨hPc, hDc, hFc⟩ := xcut (wc := [(a13, .inr (2, [.ref a14, .int v17, .int v18])), (a14, .inl (cT 2, 4096, .inr (.inl f16)))]) hP hD hS hA [13, 14] rfl rfl (by decide)
      refine va_callv (va_runV (C := "ValueBench$Row") (As := []) (rest := []) ⟨hx, hb, hml, hown, htx⟩ (gR_clear l hl9 D cT aK aV H.size n a13 a14 f16 v17 v18 o7 hq8) ⟨callB_of 0 htx (xw_goodC kw_2_22) rfl rfl rfl (htx _ kw_1_4) (htx _ kw_2_19) ⟨by decide, by decide, by decide +kernel⟩ ⟨Nat.le_of_ble_eq_true rfl, Nat.le_of_ble_eq_true rfl⟩, (htx _ kw_2_20), (htx _ kw_2_21)⟩ ⟨xPre_blind, va_recv hK hP (ci := 2) rfl (q0 := 13) rfl, (fun U hU hW => ⟨rfl, xPre_of hZ hS hFc hPc hDc hK U hU hW⟩)⟩ rfl rfl hl.1 rfl (lv_room (Nat.le_of_ble_eq_true rfl)) dB_binary_42 ⟨Nat.le_of_ble_eq_true rfl, Nat.le_of_ble_eq_true rfl⟩) hS (fun q _ h => hFc q h) hFc (fun u9 t H1 locs ht hvm hr9 hB hz1 hk1 hS => ?_)
      obtain ⟨hP1, hK1, hD1⟩ := hB
      rw [ht] at hP1
      obtain ⟨hP, hD⟩ := xjoin (W := [(a0, .inr (0, [.ref a1, .ref a3, .ref a5, .ref a7, .ref a8, .ref a13, .int v19, .int v20])), (a1, .inr (1, [.ref a2, .int v1, .int v2])), (a2, .inl (cT 0, 4096, .inl f0)), (a3, .inr (1, [.ref a4, .int v4, .int v5])), (a4, .inl (cT 0, 4096, .inl f3)), (a5, .inr (1, [.ref a6, .int v7, .int v8])), (a6, .inl (cT 0, 4096, .inl f6)), (a7, .inl (cT 3, 8, .inr (.inr (.inr (.inr rf0))))), (a8, .inr (3, [.ref a9, .ref a10, .ref p11, .ref p13, .int v15])), (a9, .inl (cT 1, 2048, .inl f9)), (a10, .inl (cT 1, 2048, .inl f10)), (p11, .inl (cT 1, 2048, .inl f12)), (p13, .inl (cT 1, 2048, .inl f14)), (a15, .inr (2, [.ref a16, .int v22, .int v23])), (a16, .inl (cT 2, 4096, .inr (.inl f21))), (a13, .inr (2, [.ref a14, .int o7.1, .int o7.2])), (a14, .inl (cT 2, 4096, .inr (.inl f16)))]) hP hD [13, 14] [0, 1, 2, 3, 4, 5, 6, 7, 8, 9, 10, 11, 12, 15, 16] 15 rfl rfl (by decide) (by decide) hk1 hFc hP1 hD1
      generalize H1 = H at hP hS ⊢
      refine lv_aload_n hx hb dB_binary_45 rfl (lv_at hl 0 rfl) ?_
      refine lv_iload_n hx hb dB_binary_46 rfl (lv_at hl 2 rfl) ?_
      refine lv_aload_n hx hb dB_binary_47 rfl (lv_at hl 0 rfl) ?_
      refine va_get (D := D) (ci := 0) (v := .ref a7) (C := "ValueBench") (T := TB) (N := 8) hx hb htx inB hown hK hP 0 rfl rfl 3 (by decide) (htx _ kw_1_98) (fun _ h9 => h9) rfl dB_binary_48 ?_
      refine lv_iload_n hx hb dB_binary_51 rfl (lv_at hl 3 rfl) ?_
      obtain ⟨hg9, hf⟩ := xifn hf
      refine va_aldq hx hb hK hP 7 3 rfl rfl hg9 dB_binary_52 ?_
      refine W.eq (g2 := F0 m 53 ls [va_rf (rf0 x3.toNatClampNeg), .int x2, .ref a0]) rfl ?_
      rw [hr3 hg9]
      refine W.eq (g2 := F0 m 53 ls [.ref a15, .int x2, .ref a0]) rfl ?_
      refine lv_aload_n hx hb dB_binary_53 rfl (lv_at hl 0 rfl) ?_
      refine va_get (D := D) (ci := 0) (v := .ref a7) (C := "ValueBench") (T := TB) (N := 8) hx hb htx inB hown hK hP 0 rfl rfl 3 (by decide) (htx _ kw_1_98) (fun _ h9 => h9) rfl dB_binary_54 ?_
      refine lv_iload hx hb dB_binary_57 (lv_at hl 4 rfl) ?_
      obtain ⟨hg10, hf⟩ := xifn hf
      refine va_aldq hx hb hK hP 7 3 rfl rfl hg10 dB_binary_59 ?_
      refine W.eq (g2 := F0 m 60 ls [va_rf (rf0 x4.toNatClampNeg), .ref a15, .int x2, .ref a0]) rfl ?_
      rw [hr4 hg10]
      refine W.eq (g2 := F0 m 60 ls [.ref a15, .ref a15, .int x2, .ref a0]) rfl ?_
      refine lv_aload_n hx hb dB_binary_60 rfl (lv_at hl 0 rfl) ?_
      refine va_get (D := D) (ci := 0) (v := .ref a13) (C := "ValueBench") (T := TB) (N := 8) hx hb htx inB hown hK hP 0 rfl rfl 5 (by decide) (htx _ kw_1_100) (fun _ h9 => h9) rfl dB_binary_61 ?_
      obtain ⟨o11, hq12, hf⟩ := xbind hf
      obtain ⟨hPc, hDc, hFc⟩ := xcut (wc := [(a15, .inr (2, [.ref a16, .int v22, .int v23])), (a16, .inl (cT 2, 4096, .inr (.inl f21))), (a13, .inr (2, [.ref a14, .int o7.1, .int o7.2])), (a14, .inl (cT 2, 4096, .inr (.inl f16)))]) hP hD hS hA [13, 14, 15, 16] rfl rfl (by decide)
      refine va_calli (va_runS (As := [.int x2, .ref a15, .ref a15, .ref a13]) (rest := [.ref a0]) ⟨hx, hb, hml, hown, htx⟩ (gA_applya l hl9 D cT aK aV H.size d n a15 a16 a13 a14 x2 f21 v22 v23 f16 o7.1 o7.2 o11 hq12) ⟨callB_of 4 htx (xw_goodC kw_3_105) rfl rfl rfl (htx _ kw_1_21) (htx _ kw_3_103) ⟨by decide, by decide, by decide +kernel⟩ ⟨(by show (16 * d + 5) + 1 ≤ 16 * d + 7; omega), (by show 8 + (4 + 11) + (400 * d + 157) ≤ 400 * d + 180; omega)⟩, htx _ kw_3_104⟩ ⟨xPre_blind, (fun U hU hW => ⟨rfl, xPre_of hZ hS hFc hPc hDc hK U hU hW⟩)⟩ rfl rfl hl.1 rfl (lv_room (Nat.le_of_ble_eq_true rfl)) dB_binary_64 ⟨Nat.le_of_ble_eq_true rfl, Nat.le_of_ble_eq_true rfl⟩) hS (fun q _ h => hFc q h) hFc (fun r13 u9 t H1 locs ht hvm hr9 hB hz1 hk1 hS => ?_)
      obtain ⟨hP1, hK1, hD1⟩ := hB
      rw [ht] at hP1
      obtain ⟨hP, hD⟩ := xjoin (W := [(a0, .inr (0, [.ref a1, .ref a3, .ref a5, .ref a7, .ref a8, .ref a13, .int v19, .int v20])), (a1, .inr (1, [.ref a2, .int v1, .int v2])), (a2, .inl (cT 0, 4096, .inl f0)), (a3, .inr (1, [.ref a4, .int v4, .int v5])), (a4, .inl (cT 0, 4096, .inl f3)), (a5, .inr (1, [.ref a6, .int v7, .int v8])), (a6, .inl (cT 0, 4096, .inl f6)), (a7, .inl (cT 3, 8, .inr (.inr (.inr (.inr rf0))))), (a8, .inr (3, [.ref a9, .ref a10, .ref p11, .ref p13, .int v15])), (a9, .inl (cT 1, 2048, .inl f9)), (a10, .inl (cT 1, 2048, .inl f10)), (p11, .inl (cT 1, 2048, .inl f12)), (p13, .inl (cT 1, 2048, .inl f14)), (a15, .inr (2, [.ref a16, .int v22, .int v23])), (a16, .inl (cT 2, 4096, .inr (.inl f21))), (a13, .inr (2, [.ref a14, .int o11.2.2.1, .int o11.2.2.2])), (a14, .inl (cT 2, 4096, .inr (.inl o11.2.1)))]) hP hD [13, 14, 15, 16] [0, 1, 2, 3, 4, 5, 6, 7, 8, 9, 10, 11, 12] 13 rfl rfl (by decide) (by decide) hk1 hFc hP1 hD1
      generalize H1 = H at hP hS ⊢
      rw [hr9]
      refine W.eq (g2 := F0 m 67 ls [.int o11.1, .ref a0]) rfl ?_
      obtain ⟨o14, hq15, hf⟩ := xbind hf
      by_cases hk16 : o14.1 = 0
      · rw [if_pos hk16] at hf
        obtain ⟨hPc, hDc, hFc⟩ := xcut (wc := [(a0, .inr (0, [.ref a1, .ref a3, .ref a5, .ref a7, .ref a8, .ref a13, .int v19, .int v20])), (a1, .inr (1, [.ref a2, .int v1, .int v2])), (a2, .inl (cT 0, 4096, .inl f0)), (a3, .inr (1, [.ref a4, .int v4, .int v5])), (a4, .inl (cT 0, 4096, .inl f3)), (a5, .inr (1, [.ref a6, .int v7, .int v8])), (a6, .inl (cT 0, 4096, .inl f6)), (a7, .inl (cT 3, 8, .inr (.inr (.inr (.inr rf0))))), (a8, .inr (3, [.ref a9, .ref a10, .ref p11, .ref p13, .int v15])), (a9, .inl (cT 1, 2048, .inl f9)), (a10, .inl (cT 1, 2048, .inl f10)), (p11, .inl (cT 1, 2048, .inl f12)), (p13, .inl (cT 1, 2048, .inl f14)), (a13, .inr (2, [.ref a14, .int o11.2.2.1, .int o11.2.2.2])), (a14, .inl (cT 2, 4096, .inr (.inl o11.2.1)))]) hP hD hS hA [0, 1, 2, 3, 4, 5, 6, 7, 8, 9, 10, 11, 12, 15, 16] rfl rfl (by decide)
        refine va_callv (va_runV (C := "ValueBench") (As := [.int o11.1]) (rest := []) ⟨hx, hb, hml, hown, htx⟩ (gB_demandDone l hl9 D cT aK aV H.size n a0 a1 a2 a3 a4 a5 a6 a7 a8 a9 a10 a13 a14 rf0 o11.1 f0 v1 v2 f3 v4 v5 f6 v7 v8 f9 f10 p11 f12 p13 f14 v15 o11.2.1 o11.2.2.1 o11.2.2.2 v19 v20 o14 hq15 hk16) ⟨callB_of 1 htx (xw_goodC kw_3_222) rfl rfl rfl (htx _ kw_1_1) (htx _ kw_3_219) ⟨by decide, by decide, by decide +kernel⟩ ⟨Nat.le_of_ble_eq_true rfl, Nat.le_of_ble_eq_true rfl⟩, (htx _ kw_3_221), (htx _ kp_B_demandDone)⟩ ⟨xPre_blind, va_recv hK hP (ci := 0) rfl (q0 := 0) rfl, (fun U hU hW => ⟨rfl, xPre_of hZ hS hFc hPc hDc hK U hU hW⟩)⟩ rfl rfl hl.1 rfl (lv_room (Nat.le_of_ble_eq_true rfl)) dB_binary_67 ⟨Nat.le_of_ble_eq_true rfl, Nat.le_of_ble_eq_true rfl⟩) hS (fun q _ h => hFc q h) hFc (fun u9 t H1 locs ht hvm hr9 hB hz1 hk1 hS => ?_)
        obtain ⟨hP1, hK1, hD1⟩ := hB
        rw [ht] at hP1
        obtain ⟨hP, hD⟩ := xjoin (W := [(a15, .inr (2, [.ref a16, .int v22, .int v23])), (a16, .inl (cT 2, 4096, .inr (.inl f21))), (a0, .inr (0, [.ref a1, .ref a3, .ref a5, .ref a7, .ref a8, .ref a13, .int v19, .int o14.2])), (a1, .inr (1, [.ref a2, .int v1, .int v2])), (a2, .inl (cT 0, 4096, .inl f0)), (a3, .inr (1, [.ref a4, .int v4, .int v5])), (a4, .inl (cT 0, 4096, .inl f3)), (a5, .inr (1, [.ref a6, .int v7, .int v8])), (a6, .inl (cT 0, 4096, .inl f6)), (a7, .inl (cT 3, 8, .inr (.inr (.inr (.inr rf0))))), (a8, .inr (3, [.ref a9, .ref a10, .ref p11, .ref p13, .int v15])), (a9, .inl (cT 1, 2048, .inl f9)), (a10, .inl (cT 1, 2048, .inl f10)), (p11, .inl (cT 1, 2048, .inl f12)), (p13, .inl (cT 1, 2048, .inl f14)), (a13, .inr (2, [.ref a14, .int o11.2.2.1, .int o11.2.2.2])), (a14, .inl (cT 2, 4096, .inr (.inl o11.2.1)))]) hP hD [0, 1, 2, 3, 4, 5, 6, 7, 8, 9, 10, 11, 12, 15, 16] [13, 14] 2 rfl rfl (by decide) (by decide) hk1 hFc hP1 hD1
        generalize H1 = H at hP hS ⊢
        refine lv_aload_n hx hb dB_binary_70 rfl (lv_at hl 0 rfl) ?_
        refine lv_iload_n hx hb dB_binary_71 rfl (lv_at hl 1 rfl) ?_
        obtain ⟨o17, hq18, hf⟩ := xbind hf
        by_cases hk19 : o17.1 = 0
        · rw [if_pos hk19] at hf
          obtain ⟨hPc, hDc, hFc⟩ := xcut (wc := [(a0, .inr (0, [.ref a1, .ref a3, .ref a5, .ref a7, .ref a8, .ref a13, .int v19, .int o14.2])), (a1, .inr (1, [.ref a2, .int v1, .int v2])), (a2, .inl (cT 0, 4096, .inl f0)), (a3, .inr (1, [.ref a4, .int v4, .int v5])), (a4, .inl (cT 0, 4096, .inl f3)), (a5, .inr (1, [.ref a6, .int v7, .int v8])), (a6, .inl (cT 0, 4096, .inl f6)), (a7, .inl (cT 3, 8, .inr (.inr (.inr (.inr rf0))))), (a8, .inr (3, [.ref a9, .ref a10, .ref p11, .ref p13, .int v15])), (a9, .inl (cT 1, 2048, .inl f9)), (a10, .inl (cT 1, 2048, .inl f10)), (p11, .inl (cT 1, 2048, .inl f12)), (p13, .inl (cT 1, 2048, .inl f14)), (a13, .inr (2, [.ref a14, .int o11.2.2.1, .int o11.2.2.2])), (a14, .inl (cT 2, 4096, .inr (.inl o11.2.1)))]) hP hD hS hA [2, 3, 4, 5, 6, 7, 8, 9, 10, 11, 12, 13, 14, 15, 16] rfl rfl (by decide)
          refine va_calli (va_runV (C := "ValueBench") (As := [.int x1]) (rest := []) ⟨hx, hb, hml, hown, htx⟩ (gB_keepSpare l hl9 D cT aK aV H.size d n a0 a1 a2 a3 a4 a5 a6 a7 a8 a9 a10 a13 a14 rf0 b1 x1 f0 v1 v2 f3 v4 v5 f6 v7 v8 f9 f10 p11 f12 p13 f14 v15 o11.2.1 o11.2.2.1 o11.2.2.2 v19 o14.2 hr1 o17 hq18 hk19) ⟨callB_of 1 htx (xw_goodC kw_3_17) rfl rfl rfl (htx _ kw_1_1) (htx _ kw_3_14) ⟨by decide, by decide, by decide +kernel⟩ ⟨(by show (16 * d + 6) + 1 ≤ 16 * d + 7; omega), (by show 8 + (3 + 11) + (400 * d + 100) ≤ 400 * d + 180; omega)⟩, (htx _ kw_3_16), (htx _ kp_B_keepSpare)⟩ ⟨xPre_blind, va_recv hK hP (ci := 0) rfl (q0 := 2) rfl, (fun U hU hW => ⟨rfl, xPre_of hZ hS hFc hPc hDc hK U hU hW⟩)⟩ rfl rfl hl.1 rfl (lv_room (Nat.le_of_ble_eq_true rfl)) dB_binary_72 ⟨Nat.le_of_ble_eq_true rfl, Nat.le_of_ble_eq_true rfl⟩) hS (fun q _ h => hFc q h) hFc (fun r20 u9 t H1 locs ht hvm hr9 hB hz1 hk1 hS => ?_)
          obtain ⟨hP1, hK1, hD1⟩ := hB
          rw [ht] at hP1
          obtain ⟨hP, hD⟩ := xjoin (W := [(a15, .inr (2, [.ref a16, .int v22, .int v23])), (a16, .inl (cT 2, 4096, .inr (.inl f21))), (a0, .inr (0, [.ref a1, .ref a3, .ref a5, .ref a7, .ref a8, .ref b1, .int v19, .int o14.2])), (a1, .inr (1, [.ref a2, .int v1, .int v2])), (a2, .inl (cT 0, 4096, .inl f0)), (a3, .inr (1, [.ref a4, .int v4, .int v5])), (a4, .inl (cT 0, 4096, .inl f3)), (a5, .inr (1, [.ref a6, .int o17.2.2.2.1, .int o17.2.2.2.2])), (a6, .inl (cT 0, 4096, .inl o17.2.2.1)), (a7, .inl (cT 3, 8, .inr (.inr (.inr (.inr (va_up rf0 x1.toNatClampNeg (some a13))))))), (a8, .inr (3, [.ref a9, .ref a10, .ref p11, .ref p13, .int v15])), (a9, .inl (cT 1, 2048, .inl f9)), (a10, .inl (cT 1, 2048, .inl f10)), (p11, .inl (cT 1, 2048, .inl f12)), (p13, .inl (cT 1, 2048, .inl f14)), (a13, .inr (2, [.ref a14, .int o11.2.2.1, .int o11.2.2.2])), (a14, .inl (cT 2, 4096, .inr (.inl o11.2.1)))]) hP hD [2, 3, 4, 5, 6, 7, 8, 9, 10, 11, 12, 13, 14, 15, 16] [0, 1] 2 rfl rfl (by decide) (by decide) hk1 hFc hP1 hD1
          generalize H1 = H at hP hS ⊢
          rw [hr9]
          refine W.eq (g2 := F0 m 75 ls [.int o17.2.1]) rfl ?_
          refine lv_pop hx hb dB_binary_75 rfl ?_
          obtain rfl := Option.some.inj hf
          exact absurd (show (0 : Nat) = 1 from hkd) (by decide)
        rw [if_neg hk19] at hf
        by_cases hk21 : o17.1 = 1
        · rw [if_pos hk21] at hf
          obtain ⟨hPc, hDc, hFc⟩ := xcut (wc := [(a0, .inr (0, [.ref a1, .ref a3, .ref a5, .ref a7, .ref a8, .ref a13, .int v19, .int o14.2])), (a1, .inr (1, [.ref a2, .int v1, .int v2])), (a2, .inl (cT 0, 4096, .inl f0)), (a3, .inr (1, [.ref a4, .int v4, .int v5])), (a4, .inl (cT 0, 4096, .inl f3)), (a5, .inr (1, [.ref a6, .int v7, .int v8])), (a6, .inl (cT 0, 4096, .inl f6)), (a7, .inl (cT 3, 8, .inr (.inr (.inr (.inr rf0))))), (a8, .inr (3, [.ref a9, .ref a10, .ref p11, .ref p13, .int v15])), (a9, .inl (cT 1, 2048, .inl f9)), (a10, .inl (cT 1, 2048, .inl f10)), (p11, .inl (cT 1, 2048, .inl f12)), (p13, .inl (cT 1, 2048, .inl f14)), (a13, .inr (2, [.ref a14, .int o11.2.2.1, .int o11.2.2.2])), (a14, .inl (cT 2, 4096, .inr (.inl o11.2.1)))]) hP hD hS hA [2, 3, 4, 5, 6, 7, 8, 9, 10, 11, 12, 13, 14, 15, 16] rfl rfl (by decide)
          refine xx_thr (vx_runV (C := "ValueBench") (As := [.int x1]) (rest := []) ⟨hx, hb, hml, hown, htx⟩ (gB_keepSpare_1 l hl9 D cT aK aV H.size d n a0 a1 a2 a3 a4 a5 a6 a7 a8 a9 a10 a13 a14 rf0 b1 x1 f0 v1 v2 f3 v4 v5 f6 v7 v8 f9 f10 p11 f12 p13 f14 v15 o11.2.1 o11.2.2.1 o11.2.2.2 v19 o14.2 hr1 o17 hq18 hk21) ⟨callB_of 1 htx (xw_goodC kw_3_17) rfl rfl rfl (htx _ kw_1_1) (htx _ kw_3_14) ⟨by decide, by decide, by decide +kernel⟩ ⟨(by show (16 * d + 6) + 1 ≤ 16 * d + 7; omega), (by show 8 + (3 + 11) + (400 * d + 100) ≤ 400 * d + 180; omega)⟩, (htx _ kw_3_16), (htx _ kp_B_keepSpare)⟩ ⟨xPre_blind, va_recv hK hP (ci := 0) rfl (q0 := 2) rfl, (fun U hU hW => ⟨rfl, xPre_of hZ hS hFc hPc hDc hK U hU hW⟩)⟩ rfl rfl hl.1 rfl (lv_room (Nat.le_of_ble_eq_true rfl)) dB_binary_72 ⟨Nat.le_of_ble_eq_true rfl, Nat.le_of_ble_eq_true rfl⟩) hS hFc (fun q _ h => hFc q h) (fun E ce q9 u9 t H1 locs ht hvm _ hB hz1 hk1 hS hce hcv hcl => ?_)
          obtain ⟨rfl, hP1, hK1, hD1⟩ := hB
          rw [ht] at hP1
          obtain ⟨hP, hD⟩ := xjoin (W := [(a15, .inr (2, [.ref a16, .int v22, .int v23])), (a16, .inl (cT 2, 4096, .inr (.inl f21))), (a0, .inr (0, [.ref a1, .ref a3, .ref a5, .ref a7, .ref a8, .ref a13, .int v19, .int o14.2])), (a1, .inr (1, [.ref a2, .int v1, .int v2])), (a2, .inl (cT 0, 4096, .inl f0)), (a3, .inr (1, [.ref a4, .int v4, .int v5])), (a4, .inl (cT 0, 4096, .inl f3)), (a5, .inr (1, [.ref a6, .int o17.2.2.2.1, .int o17.2.2.2.2])), (a6, .inl (cT 0, 4096, .inl o17.2.2.1)), (a7, .inl (cT 3, 8, .inr (.inr (.inr (.inr rf0))))), (a8, .inr (3, [.ref a9, .ref a10, .ref p11, .ref p13, .int v15])), (a9, .inl (cT 1, 2048, .inl f9)), (a10, .inl (cT 1, 2048, .inl f10)), (p11, .inl (cT 1, 2048, .inl f12)), (p13, .inl (cT 1, 2048, .inl f14)), (a13, .inr (2, [.ref a14, .int o11.2.2.1, .int o11.2.2.2])), (a14, .inl (cT 2, 4096, .inr (.inl o11.2.1)))]) hP hD [2, 3, 4, 5, 6, 7, 8, 9, 10, 11, 12, 13, 14, 15, 16] [0, 1] 2 rfl rfl (by decide) (by decide) hk1 hFc hP1 hD1
          generalize H1 = H at hP hS hce ⊢
          obtain rfl := Option.some.inj hf
          obtain ⟨hP9, hD9⟩ := xsub (wc := [(a0, .inr (0, [.ref a1, .ref a3, .ref a5, .ref a7, .ref a8, .ref a13, .int v19, .int o14.2])), (a1, .inr (1, [.ref a2, .int v1, .int v2])), (a2, .inl (cT 0, 4096, .inl f0)), (a3, .inr (1, [.ref a4, .int v4, .int v5])), (a4, .inl (cT 0, 4096, .inl f3)), (a5, .inr (1, [.ref a6, .int o17.2.2.2.1, .int o17.2.2.2.2])), (a6, .inl (cT 0, 4096, .inl o17.2.2.1)), (a7, .inl (cT 3, 8, .inr (.inr (.inr (.inr rf0))))), (a8, .inr (3, [.ref a9, .ref a10, .ref p11, .ref p13, .int v15])), (a9, .inl (cT 1, 2048, .inl f9)), (a10, .inl (cT 1, 2048, .inl f10)), (p11, .inl (cT 1, 2048, .inl f12)), (p13, .inl (cT 1, 2048, .inl f14)), (a13, .inr (2, [.ref a14, .int o11.2.2.1, .int o11.2.2.2])), (a14, .inl (cT 2, 4096, .inr (.inl o11.2.1))), (a15, .inr (2, [.ref a16, .int v22, .int v23])), (a16, .inl (cT 2, 4096, .inr (.inl f21)))]) hP hD [2, 3, 4, 5, 6, 7, 8, 9, 10, 11, 12, 13, 14, 15, 16, 0, 1] rfl rfl (by decide)
          exact vx_out (E := "java/lang/IndexOutOfBoundsException") (fun x h => (hne x h).elim) hlocks hce hcv hcl (fun t ht ha => ⟨(), trivial, ⟨rfl, by rw [ht]; exact hP9, va_K.moved ha hK, hD9⟩, hS.F ht⟩) hS.2.2 (Nat.le_of_ble_eq_true rfl) (Nat.le_of_ble_eq_true rfl)
        rw [if_neg hk21] at hf
        exact nomatch hf
      rw [if_neg hk16] at hf
      by_cases hk23 : o14.1 = 1
      · rw [if_pos hk23] at hf
        obtain rfl := Option.some.inj hf
        exact absurd (show (2 : Nat) = 1 from hkd) (by decide)
      rw [if_neg hk23] at hf
      exact nomatch hf
    rw [if_neg hk6] at hf
    by_cases hk24 : o4 = 1
    · rw [if_pos hk24] at hf
      obtain rfl := Option.some.inj hf
      exact absurd (show (3 : Nat) = 1 from hkd) (by decide)
    rw [if_neg hk24] at hf
    exact nomatch hf
  · rw [if_neg hc] at hf
    refine lv_iload_n hx hb dB_binary_7 rfl (lv_at hl 2 rfl) ?_
    refine lv_iconst (v := 4) hx hb dB_binary_8 (by decide) ?_
    obtain ⟨o4, hq5, hf⟩ := xbind hf
    obtain ⟨hPc, hDc, hFc⟩ := xcut (wc := []) hP hD hS hA [] rfl rfl (by decide)
    refine va_calli (va_runS (As := [.int x2, .int 4]) (rest := []) ⟨hx, hb, hml, hown, htx⟩ (gB_isWithin l hl9 D cT aK aV H.size n x2 (4 : Int32) o4 hq5) ⟨callB_of 2 htx (xw_goodC kw_1_218) rfl rfl rfl (htx _ kw_1_1) (htx _ kw_1_216) ⟨by decide, by decide, by decide +kernel⟩ ⟨Nat.le_of_ble_eq_true rfl, Nat.le_of_ble_eq_true rfl⟩, htx _ kw_1_217⟩ ⟨xPre_blind, (fun U hU hW => ⟨rfl, xPre_of hZ hS hFc hPc hDc hK U hU hW⟩)⟩ rfl rfl hl.1 rfl (lv_room (Nat.le_of_ble_eq_true rfl)) dB_binary_9 ⟨Nat.le_of_ble_eq_true rfl, Nat.le_of_ble_eq_true rfl⟩) hS (fun q _ h => hFc q h) hFc (fun r6 u9 t H1 locs ht hvm hr9 hB hz1 hk1 hS => ?_)
    obtain ⟨hP1, hK1, hD1⟩ := hB
    rw [ht] at hP1
    obtain ⟨hP, hD⟩ := xjoin (W := [(a0, .inr (0, [.ref a1, .ref a3, .ref a5, .ref a7, .ref a8, .ref a13, .int v19, .int v20])), (a1, .inr (1, [.ref a2, .int v1, .int v2])), (a2, .inl (cT 0, 4096, .inl f0)), (a3, .inr (1, [.ref a4, .int v4, .int v5])), (a4, .inl (cT 0, 4096, .inl f3)), (a5, .inr (1, [.ref a6, .int v7, .int v8])), (a6, .inl (cT 0, 4096, .inl f6)), (a7, .inl (cT 3, 8, .inr (.inr (.inr (.inr rf0))))), (a8, .inr (3, [.ref a9, .ref a10, .ref p11, .ref p13, .int v15])), (a9, .inl (cT 1, 2048, .inl f9)), (a10, .inl (cT 1, 2048, .inl f10)), (p11, .inl (cT 1, 2048, .inl f12)), (p13, .inl (cT 1, 2048, .inl f14)), (a13, .inr (2, [.ref a14, .int v17, .int v18])), (a14, .inl (cT 2, 4096, .inr (.inl f16))), (a15, .inr (2, [.ref a16, .int v22, .int v23])), (a16, .inl (cT 2, 4096, .inr (.inl f21)))]) hP hD [] [0, 1, 2, 3, 4, 5, 6, 7, 8, 9, 10, 11, 12, 13, 14, 15, 16] 17 rfl rfl (by decide) (by decide) hk1 hFc hP1 hD1
    generalize H1 = H at hP hS ⊢
    rw [hr9]
    refine W.eq (g2 := F0 m 12 ls [.int o4]) rfl ?_
    refine lv_if_eq (tgt := 34) hx hb dB_binary_12 (by decide) (fun hc => ?_) (fun hc => ?_)
    · rw [if_pos hc] at hf
      refine lv_iconst (v := 0) hx hb dB_binary_34 (by decide) ?_
      obtain ⟨o7, hq8, hf⟩ := xbind hf
      by_cases hk9 : o7 = 0
      · rw [if_pos hk9] at hf
        obtain ⟨hPc, hDc, hFc⟩ := xcut (wc := []) hP hD hS hA [] rfl rfl (by decide)
        refine va_callv (va_runS (As := [.int 0]) (rest := []) ⟨hx, hb, hml, hown, htx⟩ (gB_demand l hl9 D cT aK aV H.size n (0 : Int32) o7 hq8 hk9) ⟨callB_of 1 htx (xw_goodC kw_1_221) rfl rfl rfl (htx _ kw_1_1) (htx _ kw_1_219) ⟨by decide, by decide, by decide +kernel⟩ ⟨Nat.le_of_ble_eq_true rfl, Nat.le_of_ble_eq_true rfl⟩, htx _ kw_1_220⟩ ⟨xPre_blind, (fun U hU hW => ⟨rfl, xPre_of hZ hS hFc hPc hDc hK U hU hW⟩)⟩ rfl rfl hl.1 rfl (lv_room (Nat.le_of_ble_eq_true rfl)) dB_binary_35 ⟨Nat.le_of_ble_eq_true rfl, Nat.le_of_ble_eq_true rfl⟩) hS (fun q _ h => hFc q h) hFc (fun u9 t H1 locs ht hvm hr9 hB hz1 hk1 hS => ?_)
        obtain ⟨hP1, hK1, hD1⟩ := hB
        rw [ht] at hP1
        obtain ⟨hP, hD⟩ := xjoin (W := [(a0, .inr (0, [.ref a1, .ref a3, .ref a5, .ref a7, .ref a8, .ref a13, .int v19, .int v20])), (a1, .inr (1, [.ref a2, .int v1, .int v2])), (a2, .inl (cT 0, 4096, .inl f0)), (a3, .inr (1, [.ref a4, .int v4, .int v5])), (a4, .inl (cT 0, 4096, .inl f3)), (a5, .inr (1, [.ref a6, .int v7, .int v8])), (a6, .inl (cT 0, 4096, .inl f6)), (a7, .inl (cT 3, 8, .inr (.inr (.inr (.inr rf0))))), (a8, .inr (3, [.ref a9, .ref a10, .ref p11, .ref p13, .int v15])), (a9, .inl (cT 1, 2048, .inl f9)), (a10, .inl (cT 1, 2048, .inl f10)), (p11, .inl (cT 1, 2048, .inl f12)), (p13, .inl (cT 1, 2048, .inl f14)), (a13, .inr (2, [.ref a14, .int v17, .int v18])), (a14, .inl (cT 2, 4096, .inr (.inl f16))), (a15, .inr (2, [.ref a16, .int v22, .int v23])), (a16, .inl (cT 2, 4096, .inr (.inl f21)))]) hP hD [] [0, 1, 2, 3, 4, 5, 6, 7, 8, 9, 10, 11, 12, 13, 14, 15, 16] 17 rfl rfl (by decide) (by decide) hk1 hFc hP1 hD1
        generalize H1 = H at hP hS ⊢
        refine lv_aload_n hx hb dB_binary_38 rfl (lv_at hl 0 rfl) ?_
        refine va_get (D := D) (ci := 0) (v := .ref a13) (C := "ValueBench") (T := TB) (N := 8) hx hb htx inB hown hK hP 0 rfl rfl 5 (by decide) (htx _ kw_1_100) (fun _ h9 => h9) rfl dB_binary_39 ?_
        obtain ⟨o10, hq11, hf⟩ := xbind hf
        obtain ⟨hPc, hDc, hFc⟩ := xcut (wc := [(a13, .inr (2, [.ref a14, .int v17, .int v18])), (a14, .inl (cT 2, 4096, .inr (.inl f16)))]) hP hD hS hA [13, 14] rfl rfl (by decide)
        refine va_callv (va_runV (C := "ValueBench$Row") (As := []) (rest := []) ⟨hx, hb, hml, hown, htx⟩ (gR_clear l hl9 D cT aK aV H.size n a13 a14 f16 v17 v18 o10 hq11) ⟨callB_of 0 htx (xw_goodC kw_2_22) rfl rfl rfl (htx _ kw_1_4) (htx _ kw_2_19) ⟨by decide, by decide, by decide +kernel⟩ ⟨Nat.le_of_ble_eq_true rfl, Nat.le_of_ble_eq_true rfl⟩, (htx _ kw_2_20), (htx _ kw_2_21)⟩ ⟨xPre_blind, va_recv hK hP (ci := 2) rfl (q0 := 13) rfl, (fun U hU hW => ⟨rfl, xPre_of hZ hS hFc hPc hDc hK U hU hW⟩)⟩ rfl rfl hl.1 rfl (lv_room (Nat.le_of_ble_eq_true rfl)) dB_binary_42 ⟨Nat.le_of_ble_eq_true rfl, Nat.le_of_ble_eq_true rfl⟩) hS (fun q _ h => hFc q h) hFc (fun u9 t H1 locs ht hvm hr9 hB hz1 hk1 hS => ?_)
        obtain ⟨hP1, hK1, hD1⟩ := hB
        rw [ht] at hP1
        obtain ⟨hP, hD⟩ := xjoin (W := [(a0, .inr (0, [.ref a1, .ref a3, .ref a5, .ref a7, .ref a8, .ref a13, .int v19, .int v20])), (a1, .inr (1, [.ref a2, .int v1, .int v2])), (a2, .inl (cT 0, 4096, .inl f0)), (a3, .inr (1, [.ref a4, .int v4, .int v5])), (a4, .inl (cT 0, 4096, .inl f3)), (a5, .inr (1, [.ref a6, .int v7, .int v8])), (a6, .inl (cT 0, 4096, .inl f6)), (a7, .inl (cT 3, 8, .inr (.inr (.inr (.inr rf0))))), (a8, .inr (3, [.ref a9, .ref a10, .ref p11, .ref p13, .int v15])), (a9, .inl (cT 1, 2048, .inl f9)), (a10, .inl (cT 1, 2048, .inl f10)), (p11, .inl (cT 1, 2048, .inl f12)), (p13, .inl (cT 1, 2048, .inl f14)), (a15, .inr (2, [.ref a16, .int v22, .int v23])), (a16, .inl (cT 2, 4096, .inr (.inl f21))), (a13, .inr (2, [.ref a14, .int o10.1, .int o10.2])), (a14, .inl (cT 2, 4096, .inr (.inl f16)))]) hP hD [13, 14] [0, 1, 2, 3, 4, 5, 6, 7, 8, 9, 10, 11, 12, 15, 16] 15 rfl rfl (by decide) (by decide) hk1 hFc hP1 hD1
        generalize H1 = H at hP hS ⊢
        refine lv_aload_n hx hb dB_binary_45 rfl (lv_at hl 0 rfl) ?_
        refine lv_iload_n hx hb dB_binary_46 rfl (lv_at hl 2 rfl) ?_
        refine lv_aload_n hx hb dB_binary_47 rfl (lv_at hl 0 rfl) ?_
        refine va_get (D := D) (ci := 0) (v := .ref a7) (C := "ValueBench") (T := TB) (N := 8) hx hb htx inB hown hK hP 0 rfl rfl 3 (by decide) (htx _ kw_1_98) (fun _ h9 => h9) rfl dB_binary_48 ?_
        refine lv_iload_n hx hb dB_binary_51 rfl (lv_at hl 3 rfl) ?_
        obtain ⟨hg12, hf⟩ := xifn hf
        refine va_aldq hx hb hK hP 7 3 rfl rfl hg12 dB_binary_52 ?_
        refine W.eq (g2 := F0 m 53 ls [va_rf (rf0 x3.toNatClampNeg), .int x2, .ref a0]) rfl ?_
        rw [hr3 hg12]
        refine W.eq (g2 := F0 m 53 ls [.ref a15, .int x2, .ref a0]) rfl ?_
        refine lv_aload_n hx hb dB_binary_53 rfl (lv_at hl 0 rfl) ?_
        refine va_get (D := D) (ci := 0) (v := .ref a7) (C := "ValueBench") (T := TB) (N := 8) hx hb htx inB hown hK hP 0 rfl rfl 3 (by decide) (htx _ kw_1_98) (fun _ h9 => h9) rfl dB_binary_54 ?_
        refine lv_iload hx hb dB_binary_57 (lv_at hl 4 rfl) ?_
        obtain ⟨hg13, hf⟩ := xifn hf
        refine va_aldq hx hb hK hP 7 3 rfl rfl hg13 dB_binary_59 ?_
        refine W.eq (g2 := F0 m 60 ls [va_rf (rf0 x4.toNatClampNeg), .ref a15, .int x2, .ref a0]) rfl ?_
        rw [hr4 hg13]
        refine W.eq (g2 := F0 m 60 ls [.ref a15, .ref a15, .int x2, .ref a0]) rfl ?_
        refine lv_aload_n hx hb dB_binary_60 rfl (lv_at hl 0 rfl) ?_
        refine va_get (D := D) (ci := 0) (v := .ref a13) (C := "ValueBench") (T := TB) (N := 8) hx hb htx inB hown hK hP 0 rfl rfl 5 (by decide) (htx _ kw_1_100) (fun _ h9 => h9) rfl dB_binary_61 ?_
        obtain ⟨o14, hq15, hf⟩ := xbind hf
        obtain ⟨hPc, hDc, hFc⟩ := xcut (wc := [(a15, .inr (2, [.ref a16, .int v22, .int v23])), (a16, .inl (cT 2, 4096, .inr (.inl f21))), (a13, .inr (2, [.ref a14, .int o10.1, .int o10.2])), (a14, .inl (cT 2, 4096, .inr (.inl f16)))]) hP hD hS hA [13, 14, 15, 16] rfl rfl (by decide)
        refine va_calli (va_runS (As := [.int x2, .ref a15, .ref a15, .ref a13]) (rest := [.ref a0]) ⟨hx, hb, hml, hown, htx⟩ (gA_applya l hl9 D cT aK aV H.size d n a15 a16 a13 a14 x2 f21 v22 v23 f16 o10.1 o10.2 o14 hq15) ⟨callB_of 4 htx (xw_goodC kw_3_105) rfl rfl rfl (htx _ kw_1_21) (htx _ kw_3_103) ⟨by decide, by decide, by decide +kernel⟩ ⟨(by show (16 * d + 5) + 1 ≤ 16 * d + 7; omega), (by show 8 + (4 + 11) + (400 * d + 157) ≤ 400 * d + 180; omega)⟩, htx _ kw_3_104⟩ ⟨xPre_blind, (fun U hU hW => ⟨rfl, xPre_of hZ hS hFc hPc hDc hK U hU hW⟩)⟩ rfl rfl hl.1 rfl (lv_room (Nat.le_of_ble_eq_true rfl)) dB_binary_64 ⟨Nat.le_of_ble_eq_true rfl, Nat.le_of_ble_eq_true rfl⟩) hS (fun q _ h => hFc q h) hFc (fun r16 u9 t H1 locs ht hvm hr9 hB hz1 hk1 hS => ?_)
        obtain ⟨hP1, hK1, hD1⟩ := hB
        rw [ht] at hP1
        obtain ⟨hP, hD⟩ := xjoin (W := [(a0, .inr (0, [.ref a1, .ref a3, .ref a5, .ref a7, .ref a8, .ref a13, .int v19, .int v20])), (a1, .inr (1, [.ref a2, .int v1, .int v2])), (a2, .inl (cT 0, 4096, .inl f0)), (a3, .inr (1, [.ref a4, .int v4, .int v5])), (a4, .inl (cT 0, 4096, .inl f3)), (a5, .inr (1, [.ref a6, .int v7, .int v8])), (a6, .inl (cT 0, 4096, .inl f6)), (a7, .inl (cT 3, 8, .inr (.inr (.inr (.inr rf0))))), (a8, .inr (3, [.ref a9, .ref a10, .ref p11, .ref p13, .int v15])), (a9, .inl (cT 1, 2048, .inl f9)), (a10, .inl (cT 1, 2048, .inl f10)), (p11, .inl (cT 1, 2048, .inl f12)), (p13, .inl (cT 1, 2048, .inl f14)), (a15, .inr (2, [.ref a16, .int v22, .int v23])), (a16, .inl (cT 2, 4096, .inr (.inl f21))), (a13, .inr (2, [.ref a14, .int o14.2.2.1, .int o14.2.2.2])), (a14, .inl (cT 2, 4096, .inr (.inl o14.2.1)))]) hP hD [13, 14, 15, 16] [0, 1, 2, 3, 4, 5, 6, 7, 8, 9, 10, 11, 12] 13 rfl rfl (by decide) (by decide) hk1 hFc hP1 hD1
        generalize H1 = H at hP hS ⊢
        rw [hr9]
        refine W.eq (g2 := F0 m 67 ls [.int o14.1, .ref a0]) rfl ?_
        obtain ⟨o17, hq18, hf⟩ := xbind hf
        by_cases hk19 : o17.1 = 0
        · rw [if_pos hk19] at hf
          obtain ⟨hPc, hDc, hFc⟩ := xcut (wc := [(a0, .inr (0, [.ref a1, .ref a3, .ref a5, .ref a7, .ref a8, .ref a13, .int v19, .int v20])), (a1, .inr (1, [.ref a2, .int v1, .int v2])), (a2, .inl (cT 0, 4096, .inl f0)), (a3, .inr (1, [.ref a4, .int v4, .int v5])), (a4, .inl (cT 0, 4096, .inl f3)), (a5, .inr (1, [.ref a6, .int v7, .int v8])), (a6, .inl (cT 0, 4096, .inl f6)), (a7, .inl (cT 3, 8, .inr (.inr (.inr (.inr rf0))))), (a8, .inr (3, [.ref a9, .ref a10, .ref p11, .ref p13, .int v15])), (a9, .inl (cT 1, 2048, .inl f9)), (a10, .inl (cT 1, 2048, .inl f10)), (p11, .inl (cT 1, 2048, .inl f12)), (p13, .inl (cT 1, 2048, .inl f14)), (a13, .inr (2, [.ref a14, .int o14.2.2.1, .int o14.2.2.2])), (a14, .inl (cT 2, 4096, .inr (.inl o14.2.1)))]) hP hD hS hA [0, 1, 2, 3, 4, 5, 6, 7, 8, 9, 10, 11, 12, 15, 16] rfl rfl (by decide)
          refine va_callv (va_runV (C := "ValueBench") (As := [.int o14.1]) (rest := []) ⟨hx, hb, hml, hown, htx⟩ (gB_demandDone l hl9 D cT aK aV H.size n a0 a1 a2 a3 a4 a5 a6 a7 a8 a9 a10 a13 a14 rf0 o14.1 f0 v1 v2 f3 v4 v5 f6 v7 v8 f9 f10 p11 f12 p13 f14 v15 o14.2.1 o14.2.2.1 o14.2.2.2 v19 v20 o17 hq18 hk19) ⟨callB_of 1 htx (xw_goodC kw_3_222) rfl rfl rfl (htx _ kw_1_1) (htx _ kw_3_219) ⟨by decide, by decide, by decide +kernel⟩ ⟨Nat.le_of_ble_eq_true rfl, Nat.le_of_ble_eq_true rfl⟩, (htx _ kw_3_221), (htx _ kp_B_demandDone)⟩ ⟨xPre_blind, va_recv hK hP (ci := 0) rfl (q0 := 0) rfl, (fun U hU hW => ⟨rfl, xPre_of hZ hS hFc hPc hDc hK U hU hW⟩)⟩ rfl rfl hl.1 rfl (lv_room (Nat.le_of_ble_eq_true rfl)) dB_binary_67 ⟨Nat.le_of_ble_eq_true rfl, Nat.le_of_ble_eq_true rfl⟩) hS (fun q _ h => hFc q h) hFc (fun u9 t H1 locs ht hvm hr9 hB hz1 hk1 hS => ?_)
          obtain ⟨hP1, hK1, hD1⟩ := hB
          rw [ht] at hP1
          obtain ⟨hP, hD⟩ := xjoin (W := [(a15, .inr (2, [.ref a16, .int v22, .int v23])), (a16, .inl (cT 2, 4096, .inr (.inl f21))), (a0, .inr (0, [.ref a1, .ref a3, .ref a5, .ref a7, .ref a8, .ref a13, .int v19, .int o17.2])), (a1, .inr (1, [.ref a2, .int v1, .int v2])), (a2, .inl (cT 0, 4096, .inl f0)), (a3, .inr (1, [.ref a4, .int v4, .int v5])), (a4, .inl (cT 0, 4096, .inl f3)), (a5, .inr (1, [.ref a6, .int v7, .int v8])), (a6, .inl (cT 0, 4096, .inl f6)), (a7, .inl (cT 3, 8, .inr (.inr (.inr (.inr rf0))))), (a8, .inr (3, [.ref a9, .ref a10, .ref p11, .ref p13, .int v15])), (a9, .inl (cT 1, 2048, .inl f9)), (a10, .inl (cT 1, 2048, .inl f10)), (p11, .inl (cT 1, 2048, .inl f12)), (p13, .inl (cT 1, 2048, .inl f14)), (a13, .inr (2, [.ref a14, .int o14.2.2.1, .int o14.2.2.2])), (a14, .inl (cT 2, 4096, .inr (.inl o14.2.1)))]) hP hD [0, 1, 2, 3, 4, 5, 6, 7, 8, 9, 10, 11, 12, 15, 16] [13, 14] 2 rfl rfl (by decide) (by decide) hk1 hFc hP1 hD1
          generalize H1 = H at hP hS ⊢
          refine lv_aload_n hx hb dB_binary_70 rfl (lv_at hl 0 rfl) ?_
          refine lv_iload_n hx hb dB_binary_71 rfl (lv_at hl 1 rfl) ?_
          obtain ⟨o20, hq21, hf⟩ := xbind hf
          by_cases hk22 : o20.1 = 0
          · rw [if_pos hk22] at hf
            obtain ⟨hPc, hDc, hFc⟩ := xcut (wc := [(a0, .inr (0, [.ref a1, .ref a3, .ref a5, .ref a7, .ref a8, .ref a13, .int v19, .int o17.2])), (a1, .inr (1, [.ref a2, .int v1, .int v2])), (a2, .inl (cT 0, 4096, .inl f0)), (a3, .inr (1, [.ref a4, .int v4, .int v5])), (a4, .inl (cT 0, 4096, .inl f3)), (a5, .inr (1, [.ref a6, .int v7, .int v8])), (a6, .inl (cT 0, 4096, .inl f6)), (a7, .inl (cT 3, 8, .inr (.inr (.inr (.inr rf0))))), (a8, .inr (3, [.ref a9, .ref a10, .ref p11, .ref p13, .int v15])), (a9, .inl (cT 1, 2048, .inl f9)), (a10, .inl (cT 1, 2048, .inl f10)), (p11, .inl (cT 1, 2048, .inl f12)), (p13, .inl (cT 1, 2048, .inl f14)), (a13, .inr (2, [.ref a14, .int o14.2.2.1, .int o14.2.2.2])), (a14, .inl (cT 2, 4096, .inr (.inl o14.2.1)))]) hP hD hS hA [2, 3, 4, 5, 6, 7, 8, 9, 10, 11, 12, 13, 14, 15, 16] rfl rfl (by decide)
            refine va_calli (va_runV (C := "ValueBench") (As := [.int x1]) (rest := []) ⟨hx, hb, hml, hown, htx⟩ (gB_keepSpare l hl9 D cT aK aV H.size d n a0 a1 a2 a3 a4 a5 a6 a7 a8 a9 a10 a13 a14 rf0 b1 x1 f0 v1 v2 f3 v4 v5 f6 v7 v8 f9 f10 p11 f12 p13 f14 v15 o14.2.1 o14.2.2.1 o14.2.2.2 v19 o17.2 hr1 o20 hq21 hk22) ⟨callB_of 1 htx (xw_goodC kw_3_17) rfl rfl rfl (htx _ kw_1_1) (htx _ kw_3_14) ⟨by decide, by decide, by decide +kernel⟩ ⟨(by show (16 * d + 6) + 1 ≤ 16 * d + 7; omega), (by show 8 + (3 + 11) + (400 * d + 100) ≤ 400 * d + 180; omega)⟩, (htx _ kw_3_16), (htx _ kp_B_keepSpare)⟩ ⟨xPre_blind, va_recv hK hP (ci := 0) rfl (q0 := 2) rfl, (fun U hU hW => ⟨rfl, xPre_of hZ hS hFc hPc hDc hK U hU hW⟩)⟩ rfl rfl hl.1 rfl (lv_room (Nat.le_of_ble_eq_true rfl)) dB_binary_72 ⟨Nat.le_of_ble_eq_true rfl, Nat.le_of_ble_eq_true rfl⟩) hS (fun q _ h => hFc q h) hFc (fun r23 u9 t H1 locs ht hvm hr9 hB hz1 hk1 hS => ?_)
            obtain ⟨hP1, hK1, hD1⟩ := hB
            rw [ht] at hP1
            obtain ⟨hP, hD⟩ := xjoin (W := [(a15, .inr (2, [.ref a16, .int v22, .int v23])), (a16, .inl (cT 2, 4096, .inr (.inl f21))), (a0, .inr (0, [.ref a1, .ref a3, .ref a5, .ref a7, .ref a8, .ref b1, .int v19, .int o17.2])), (a1, .inr (1, [.ref a2, .int v1, .int v2])), (a2, .inl (cT 0, 4096, .inl f0)), (a3, .inr (1, [.ref a4, .int v4, .int v5])), (a4, .inl (cT 0, 4096, .inl f3)), (a5, .inr (1, [.ref a6, .int o20.2.2.2.1, .int o20.2.2.2.2])), (a6, .inl (cT 0, 4096, .inl o20.2.2.1)), (a7, .inl (cT 3, 8, .inr (.inr (.inr (.inr (va_up rf0 x1.toNatClampNeg (some a13))))))), (a8, .inr (3, [.ref a9, .ref a10, .ref p11, .ref p13, .int v15])), (a9, .inl (cT 1, 2048, .inl f9)), (a10, .inl (cT 1, 2048, .inl f10)), (p11, .inl (cT 1, 2048, .inl f12)), (p13, .inl (cT 1, 2048, .inl f14)), (a13, .inr (2, [.ref a14, .int o14.2.2.1, .int o14.2.2.2])), (a14, .inl (cT 2, 4096, .inr (.inl o14.2.1)))]) hP hD [2, 3, 4, 5, 6, 7, 8, 9, 10, 11, 12, 13, 14, 15, 16] [0, 1] 2 rfl rfl (by decide) (by decide) hk1 hFc hP1 hD1
            generalize H1 = H at hP hS ⊢
            rw [hr9]
            refine W.eq (g2 := F0 m 75 ls [.int o20.2.1]) rfl ?_
            refine lv_pop hx hb dB_binary_75 rfl ?_
            obtain rfl := Option.some.inj hf
            exact absurd (show (0 : Nat) = 1 from hkd) (by decide)
          rw [if_neg hk22] at hf
          by_cases hk24 : o20.1 = 1
          · rw [if_pos hk24] at hf
            obtain ⟨hPc, hDc, hFc⟩ := xcut (wc := [(a0, .inr (0, [.ref a1, .ref a3, .ref a5, .ref a7, .ref a8, .ref a13, .int v19, .int o17.2])), (a1, .inr (1, [.ref a2, .int v1, .int v2])), (a2, .inl (cT 0, 4096, .inl f0)), (a3, .inr (1, [.ref a4, .int v4, .int v5])), (a4, .inl (cT 0, 4096, .inl f3)), (a5, .inr (1, [.ref a6, .int v7, .int v8])), (a6, .inl (cT 0, 4096, .inl f6)), (a7, .inl (cT 3, 8, .inr (.inr (.inr (.inr rf0))))), (a8, .inr (3, [.ref a9, .ref a10, .ref p11, .ref p13, .int v15])), (a9, .inl (cT 1, 2048, .inl f9)), (a10, .inl (cT 1, 2048, .inl f10)), (p11, .inl (cT 1, 2048, .inl f12)), (p13, .inl (cT 1, 2048, .inl f14)), (a13, .inr (2, [.ref a14, .int o14.2.2.1, .int o14.2.2.2])), (a14, .inl (cT 2, 4096, .inr (.inl o14.2.1)))]) hP hD hS hA [2, 3, 4, 5, 6, 7, 8, 9, 10, 11, 12, 13, 14, 15, 16] rfl rfl (by decide)
            refine xx_thr (vx_runV (C := "ValueBench") (As := [.int x1]) (rest := []) ⟨hx, hb, hml, hown, htx⟩ (gB_keepSpare_1 l hl9 D cT aK aV H.size d n a0 a1 a2 a3 a4 a5 a6 a7 a8 a9 a10 a13 a14 rf0 b1 x1 f0 v1 v2 f3 v4 v5 f6 v7 v8 f9 f10 p11 f12 p13 f14 v15 o14.2.1 o14.2.2.1 o14.2.2.2 v19 o17.2 hr1 o20 hq21 hk24) ⟨callB_of 1 htx (xw_goodC kw_3_17) rfl rfl rfl (htx _ kw_1_1) (htx _ kw_3_14) ⟨by decide, by decide, by decide +kernel⟩ ⟨(by show (16 * d + 6) + 1 ≤ 16 * d + 7; omega), (by show 8 + (3 + 11) + (400 * d + 100) ≤ 400 * d + 180; omega)⟩, (htx _ kw_3_16), (htx _ kp_B_keepSpare)⟩ ⟨xPre_blind, va_recv hK hP (ci := 0) rfl (q0 := 2) rfl, (fun U hU hW => ⟨rfl, xPre_of hZ hS hFc hPc hDc hK U hU hW⟩)⟩ rfl rfl hl.1 rfl (lv_room (Nat.le_of_ble_eq_true rfl)) dB_binary_72 ⟨Nat.le_of_ble_eq_true rfl, Nat.le_of_ble_eq_true rfl⟩) hS hFc (fun q _ h => hFc q h) (fun E ce q9 u9 t H1 locs ht hvm _ hB hz1 hk1 hS hce hcv hcl => ?_)
            obtain ⟨rfl, hP1, hK1, hD1⟩ := hB
            rw [ht] at hP1
            obtain ⟨hP, hD⟩ := xjoin (W := [(a15, .inr (2, [.ref a16, .int v22, .int v23])), (a16, .inl (cT 2, 4096, .inr (.inl f21))), (a0, .inr (0, [.ref a1, .ref a3, .ref a5, .ref a7, .ref a8, .ref a13, .int v19, .int o17.2])), (a1, .inr (1, [.ref a2, .int v1, .int v2])), (a2, .inl (cT 0, 4096, .inl f0)), (a3, .inr (1, [.ref a4, .int v4, .int v5])), (a4, .inl (cT 0, 4096, .inl f3)), (a5, .inr (1, [.ref a6, .int o20.2.2.2.1, .int o20.2.2.2.2])), (a6, .inl (cT 0, 4096, .inl o20.2.2.1)), (a7, .inl (cT 3, 8, .inr (.inr (.inr (.inr rf0))))), (a8, .inr (3, [.ref a9, .ref a10, .ref p11, .ref p13, .int v15])), (a9, .inl (cT 1, 2048, .inl f9)), (a10, .inl (cT 1, 2048, .inl f10)), (p11, .inl (cT 1, 2048, .inl f12)), (p13, .inl (cT 1, 2048, .inl f14)), (a13, .inr (2, [.ref a14, .int o14.2.2.1, .int o14.2.2.2])), (a14, .inl (cT 2, 4096, .inr (.inl o14.2.1)))]) hP hD [2, 3, 4, 5, 6, 7, 8, 9, 10, 11, 12, 13, 14, 15, 16] [0, 1] 2 rfl rfl (by decide) (by decide) hk1 hFc hP1 hD1
            generalize H1 = H at hP hS hce ⊢
            obtain rfl := Option.some.inj hf
            obtain ⟨hP9, hD9⟩ := xsub (wc := [(a0, .inr (0, [.ref a1, .ref a3, .ref a5, .ref a7, .ref a8, .ref a13, .int v19, .int o17.2])), (a1, .inr (1, [.ref a2, .int v1, .int v2])), (a2, .inl (cT 0, 4096, .inl f0)), (a3, .inr (1, [.ref a4, .int v4, .int v5])), (a4, .inl (cT 0, 4096, .inl f3)), (a5, .inr (1, [.ref a6, .int o20.2.2.2.1, .int o20.2.2.2.2])), (a6, .inl (cT 0, 4096, .inl o20.2.2.1)), (a7, .inl (cT 3, 8, .inr (.inr (.inr (.inr rf0))))), (a8, .inr (3, [.ref a9, .ref a10, .ref p11, .ref p13, .int v15])), (a9, .inl (cT 1, 2048, .inl f9)), (a10, .inl (cT 1, 2048, .inl f10)), (p11, .inl (cT 1, 2048, .inl f12)), (p13, .inl (cT 1, 2048, .inl f14)), (a13, .inr (2, [.ref a14, .int o14.2.2.1, .int o14.2.2.2])), (a14, .inl (cT 2, 4096, .inr (.inl o14.2.1))), (a15, .inr (2, [.ref a16, .int v22, .int v23])), (a16, .inl (cT 2, 4096, .inr (.inl f21)))]) hP hD [2, 3, 4, 5, 6, 7, 8, 9, 10, 11, 12, 13, 14, 15, 16, 0, 1] rfl rfl (by decide)
            exact vx_out (E := "java/lang/IndexOutOfBoundsException") (fun x h => (hne x h).elim) hlocks hce hcv hcl (fun t ht ha => ⟨(), trivial, ⟨rfl, by rw [ht]; exact hP9, va_K.moved ha hK, hD9⟩, hS.F ht⟩) hS.2.2 (Nat.le_of_ble_eq_true rfl) (Nat.le_of_ble_eq_true rfl)
          rw [if_neg hk24] at hf
          exact nomatch hf
        rw [if_neg hk19] at hf
        by_cases hk26 : o17.1 = 1
        · rw [if_pos hk26] at hf
          obtain rfl := Option.some.inj hf
          exact absurd (show (2 : Nat) = 1 from hkd) (by decide)
        rw [if_neg hk26] at hf
        exact nomatch hf
      rw [if_neg hk9] at hf
      by_cases hk27 : o7 = 1
      · rw [if_pos hk27] at hf
        obtain rfl := Option.some.inj hf
        exact absurd (show (3 : Nat) = 1 from hkd) (by decide)
      rw [if_neg hk27] at hf
      exact nomatch hf
    · rw [if_neg hc] at hf
      refine lv_iload_n hx hb dB_binary_15 rfl (lv_at hl 3 rfl) ?_
      obtain ⟨o7, hq8, hf⟩ := xbind hf
      obtain ⟨hPc, hDc, hFc⟩ := xcut (wc := []) hP hD hS hA [] rfl rfl (by decide)
      refine va_calli (va_runS (As := [.int x3]) (rest := []) ⟨hx, hb, hml, hown, htx⟩ (gB_isRegister l hl9 D cT aK aV H.size n x3 o7 hq8) ⟨callB_of 1 htx (xw_goodC kw_2_18) rfl rfl rfl (htx _ kw_1_1) (htx _ kw_2_16) ⟨by decide, by decide, by decide +kernel⟩ ⟨Nat.le_of_ble_eq_true rfl, Nat.le_of_ble_eq_true rfl⟩, htx _ kw_2_17⟩ ⟨xPre_blind, (fun U hU hW => ⟨rfl, xPre_of hZ hS hFc hPc hDc hK U hU hW⟩)⟩ rfl rfl hl.1 rfl (lv_room (Nat.le_of_ble_eq_true rfl)) dB_binary_16 ⟨Nat.le_of_ble_eq_true rfl, Nat.le_of_ble_eq_true rfl⟩) hS (fun q _ h => hFc q h) hFc (fun r9 u9 t H1 locs ht hvm hr9 hB hz1 hk1 hS => ?_)
      obtain ⟨hP1, hK1, hD1⟩ := hB
      rw [ht] at hP1
      obtain ⟨hP, hD⟩ := xjoin (W := [(a0, .inr (0, [.ref a1, .ref a3, .ref a5, .ref a7, .ref a8, .ref a13, .int v19, .int v20])), (a1, .inr (1, [.ref a2, .int v1, .int v2])), (a2, .inl (cT 0, 4096, .inl f0)), (a3, .inr (1, [.ref a4, .int v4, .int v5])), (a4, .inl (cT 0, 4096, .inl f3)), (a5, .inr (1, [.ref a6, .int v7, .int v8])), (a6, .inl (cT 0, 4096, .inl f6)), (a7, .inl (cT 3, 8, .inr (.inr (.inr (.inr rf0))))), (a8, .inr (3, [.ref a9, .ref a10, .ref p11, .ref p13, .int v15])), (a9, .inl (cT 1, 2048, .inl f9)), (a10, .inl (cT 1, 2048, .inl f10)), (p11, .inl (cT 1, 2048, .inl f12)), (p13, .inl (cT 1, 2048, .inl f14)), (a13, .inr (2, [.ref a14, .int v17, .int v18])), (a14, .inl (cT 2, 4096, .inr (.inl f16))), (a15, .inr (2, [.ref a16, .int v22, .int v23])), (a16, .inl (cT 2, 4096, .inr (.inl f21)))]) hP hD [] [0, 1, 2, 3, 4, 5, 6, 7, 8, 9, 10, 11, 12, 13, 14, 15, 16] 17 rfl rfl (by decide) (by decide) hk1 hFc hP1 hD1
      generalize H1 = H at hP hS ⊢
      rw [hr9]
      refine W.eq (g2 := F0 m 19 ls [.int o7]) rfl ?_
      refine lv_if_eq (tgt := 34) hx hb dB_binary_19 (by decide) (fun hc => ?_) (fun hc => ?_)
      · rw [if_pos hc] at hf
        refine lv_iconst (v := 0) hx hb dB_binary_34 (by decide) ?_
        obtain ⟨o10, hq11, hf⟩ := xbind hf
        by_cases hk12 : o10 = 0
        · rw [if_pos hk12] at hf
          obtain ⟨hPc, hDc, hFc⟩ := xcut (wc := []) hP hD hS hA [] rfl rfl (by decide)
          refine va_callv (va_runS (As := [.int 0]) (rest := []) ⟨hx, hb, hml, hown, htx⟩ (gB_demand l hl9 D cT aK aV H.size n (0 : Int32) o10 hq11 hk12) ⟨callB_of 1 htx (xw_goodC kw_1_221) rfl rfl rfl (htx _ kw_1_1) (htx _ kw_1_219) ⟨by decide, by decide, by decide +kernel⟩ ⟨Nat.le_of_ble_eq_true rfl, Nat.le_of_ble_eq_true rfl⟩, htx _ kw_1_220⟩ ⟨xPre_blind, (fun U hU hW => ⟨rfl, xPre_of hZ hS hFc hPc hDc hK U hU hW⟩)⟩ rfl rfl hl.1 rfl (lv_room (Nat.le_of_ble_eq_true rfl)) dB_binary_35 ⟨Nat.le_of_ble_eq_true rfl, Nat.le_of_ble_eq_true rfl⟩) hS (fun q _ h => hFc q h) hFc (fun u9 t H1 locs ht hvm hr9 hB hz1 hk1 hS => ?_)
          obtain ⟨hP1, hK1, hD1⟩ := hB
          rw [ht] at hP1
          obtain ⟨hP, hD⟩ := xjoin (W := [(a0, .inr (0, [.ref a1, .ref a3, .ref a5, .ref a7, .ref a8, .ref a13, .int v19, .int v20])), (a1, .inr (1, [.ref a2, .int v1, .int v2])), (a2, .inl (cT 0, 4096, .inl f0)), (a3, .inr (1, [.ref a4, .int v4, .int v5])), (a4, .inl (cT 0, 4096, .inl f3)), (a5, .inr (1, [.ref a6, .int v7, .int v8])), (a6, .inl (cT 0, 4096, .inl f6)), (a7, .inl (cT 3, 8, .inr (.inr (.inr (.inr rf0))))), (a8, .inr (3, [.ref a9, .ref a10, .ref p11, .ref p13, .int v15])), (a9, .inl (cT 1, 2048, .inl f9)), (a10, .inl (cT 1, 2048, .inl f10)), (p11, .inl (cT 1, 2048, .inl f12)), (p13, .inl (cT 1, 2048, .inl f14)), (a13, .inr (2, [.ref a14, .int v17, .int v18])), (a14, .inl (cT 2, 4096, .inr (.inl f16))), (a15, .inr (2, [.ref a16, .int v22, .int v23])), (a16, .inl (cT 2, 4096, .inr (.inl f21)))]) hP hD [] [0, 1, 2, 3, 4, 5, 6, 7, 8, 9, 10, 11, 12, 13, 14, 15, 16] 17 rfl rfl (by decide) (by decide) hk1 hFc hP1 hD1
          generalize H1 = H at hP hS ⊢
          refine lv_aload_n hx hb dB_binary_38 rfl (lv_at hl 0 rfl) ?_
          refine va_get (D := D) (ci := 0) (v := .ref a13) (C := "ValueBench") (T := TB) (N := 8) hx hb htx inB hown hK hP 0 rfl rfl 5 (by decide) (htx _ kw_1_100) (fun _ h9 => h9) rfl dB_binary_39 ?_
          obtain ⟨o13, hq14, hf⟩ := xbind hf
          obtain ⟨hPc, hDc, hFc⟩ := xcut (wc := [(a13, .inr (2, [.ref a14, .int v17, .int v18])), (a14, .inl (cT 2, 4096, .inr (.inl f16)))]) hP hD hS hA [13, 14] rfl rfl (by decide)
          refine va_callv (va_runV (C := "ValueBench$Row") (As := []) (rest := []) ⟨hx, hb, hml, hown, htx⟩ (gR_clear l hl9 D cT aK aV H.size n a13 a14 f16 v17 v18 o13 hq14) ⟨callB_of 0 htx (xw_goodC kw_2_22) rfl rfl rfl (htx _ kw_1_4) (htx _ kw_2_19) ⟨by decide, by decide, by decide +kernel⟩ ⟨Nat.le_of_ble_eq_true rfl, Nat.le_of_ble_eq_true rfl⟩, (htx _ kw_2_20), (htx _ kw_2_21)⟩ ⟨xPre_blind, va_recv hK hP (ci := 2) rfl (q0 := 13) rfl, (fun U hU hW => ⟨rfl, xPre_of hZ hS hFc hPc hDc hK U hU hW⟩)⟩ rfl rfl hl.1 rfl (lv_room (Nat.le_of_ble_eq_true rfl)) dB_binary_42 ⟨Nat.le_of_ble_eq_true rfl, Nat.le_of_ble_eq_true rfl⟩) hS (fun q _ h => hFc q h) hFc (fun u9 t H1 locs ht hvm hr9 hB hz1 hk1 hS => ?_)
          obtain ⟨hP1, hK1, hD1⟩ := hB
          rw [ht] at hP1
          obtain ⟨hP, hD⟩ := xjoin (W := [(a0, .inr (0, [.ref a1, .ref a3, .ref a5, .ref a7, .ref a8, .ref a13, .int v19, .int v20])), (a1, .inr (1, [.ref a2, .int v1, .int v2])), (a2, .inl (cT 0, 4096, .inl f0)), (a3, .inr (1, [.ref a4, .int v4, .int v5])), (a4, .inl (cT 0, 4096, .inl f3)), (a5, .inr (1, [.ref a6, .int v7, .int v8])), (a6, .inl (cT 0, 4096, .inl f6)), (a7, .inl (cT 3, 8, .inr (.inr (.inr (.inr rf0))))), (a8, .inr (3, [.ref a9, .ref a10, .ref p11, .ref p13, .int v15])), (a9, .inl (cT 1, 2048, .inl f9)), (a10, .inl (cT 1, 2048, .inl f10)), (p11, .inl (cT 1, 2048, .inl f12)), (p13, .inl (cT 1, 2048, .inl f14)), (a15, .inr (2, [.ref a16, .int v22, .int v23])), (a16, .inl (cT 2, 4096, .inr (.inl f21))), (a13, .inr (2, [.ref a14, .int o13.1, .int o13.2])), (a14, .inl (cT 2, 4096, .inr (.inl f16)))]) hP hD [13, 14] [0, 1, 2, 3, 4, 5, 6, 7, 8, 9, 10, 11, 12, 15, 16] 15 rfl rfl (by decide) (by decide) hk1 hFc hP1 hD1
          generalize H1 = H at hP hS ⊢
          refine lv_aload_n hx hb dB_binary_45 rfl (lv_at hl 0 rfl) ?_
          refine lv_iload_n hx hb dB_binary_46 rfl (lv_at hl 2 rfl) ?_
          refine lv_aload_n hx hb dB_binary_47 rfl (lv_at hl 0 rfl) ?_
          refine va_get (D := D) (ci := 0) (v := .ref a7) (C := "ValueBench") (T := TB) (N := 8) hx hb htx inB hown hK hP 0 rfl rfl 3 (by decide) (htx _ kw_1_98) (fun _ h9 => h9) rfl dB_binary_48 ?_
          refine lv_iload_n hx hb dB_binary_51 rfl (lv_at hl 3 rfl) ?_
          obtain ⟨hg15, hf⟩ := xifn hf
          refine va_aldq hx hb hK hP 7 3 rfl rfl hg15 dB_binary_52 ?_
          refine W.eq (g2 := F0 m 53 ls [va_rf (rf0 x3.toNatClampNeg), .int x2, .ref a0]) rfl ?_
          rw [hr3 hg15]
          refine W.eq (g2 := F0 m 53 ls [.ref a15, .int x2, .ref a0]) rfl ?_
          refine lv_aload_n hx hb dB_binary_53 rfl (lv_at hl 0 rfl) ?_
          refine va_get (D := D) (ci := 0) (v := .ref a7) (C := "ValueBench") (T := TB) (N := 8) hx hb htx inB hown hK hP 0 rfl rfl 3 (by decide) (htx _ kw_1_98) (fun _ h9 => h9) rfl dB_binary_54 ?_
          refine lv_iload hx hb dB_binary_57 (lv_at hl 4 rfl) ?_
          obtain ⟨hg16, hf⟩ := xifn hf
          refine va_aldq hx hb hK hP 7 3 rfl rfl hg16 dB_binary_59 ?_
          refine W.eq (g2 := F0 m 60 ls [va_rf (rf0 x4.toNatClampNeg), .ref a15, .int x2, .ref a0]) rfl ?_
          rw [hr4 hg16]
          refine W.eq (g2 := F0 m 60 ls [.ref a15, .ref a15, .int x2, .ref a0]) rfl ?_
          refine lv_aload_n hx hb dB_binary_60 rfl (lv_at hl 0 rfl) ?_
          refine va_get (D := D) (ci := 0) (v := .ref a13) (C := "ValueBench") (T := TB) (N := 8) hx hb htx inB hown hK hP 0 rfl rfl 5 (by decide) (htx _ kw_1_100) (fun _ h9 => h9) rfl dB_binary_61 ?_
          obtain ⟨o17, hq18, hf⟩ := xbind hf
          obtain ⟨hPc, hDc, hFc⟩ := xcut (wc := [(a15, .inr (2, [.ref a16, .int v22, .int v23])), (a16, .inl (cT 2, 4096, .inr (.inl f21))), (a13, .inr (2, [.ref a14, .int o13.1, .int o13.2])), (a14, .inl (cT 2, 4096, .inr (.inl f16)))]) hP hD hS hA [13, 14, 15, 16] rfl rfl (by decide)
          refine va_calli (va_runS (As := [.int x2, .ref a15, .ref a15, .ref a13]) (rest := [.ref a0]) ⟨hx, hb, hml, hown, htx⟩ (gA_applya l hl9 D cT aK aV H.size d n a15 a16 a13 a14 x2 f21 v22 v23 f16 o13.1 o13.2 o17 hq18) ⟨callB_of 4 htx (xw_goodC kw_3_105) rfl rfl rfl (htx _ kw_1_21) (htx _ kw_3_103) ⟨by decide, by decide, by decide +kernel⟩ ⟨(by show (16 * d + 5) + 1 ≤ 16 * d + 7; omega), (by show 8 + (4 + 11) + (400 * d + 157) ≤ 400 * d + 180; omega)⟩, htx _ kw_3_104⟩ ⟨xPre_blind, (fun U hU hW => ⟨rfl, xPre_of hZ hS hFc hPc hDc hK U hU hW⟩)⟩ rfl rfl hl.1 rfl (lv_room (Nat.le_of_ble_eq_true rfl)) dB_binary_64 ⟨Nat.le_of_ble_eq_true rfl, Nat.le_of_ble_eq_true rfl⟩) hS (fun q _ h => hFc q h) hFc (fun r19 u9 t H1 locs ht hvm hr9 hB hz1 hk1 hS => ?_)
          obtain ⟨hP1, hK1, hD1⟩ := hB
          rw [ht] at hP1
          obtain ⟨hP, hD⟩ := xjoin (W := [(a0, .inr (0, [.ref a1, .ref a3, .ref a5, .ref a7, .ref a8, .ref a13, .int v19, .int v20])), (a1, .inr (1, [.ref a2, .int v1, .int v2])), (a2, .inl (cT 0, 4096, .inl f0)), (a3, .inr (1, [.ref a4, .int v4, .int v5])), (a4, .inl (cT 0, 4096, .inl f3)), (a5, .inr (1, [.ref a6, .int v7, .int v8])), (a6, .inl (cT 0, 4096, .inl f6)), (a7, .inl (cT 3, 8, .inr (.inr (.inr (.inr rf0))))), (a8, .inr (3, [.ref a9, .ref a10, .ref p11, .ref p13, .int v15])), (a9, .inl (cT 1, 2048, .inl f9)), (a10, .inl (cT 1, 2048, .inl f10)), (p11, .inl (cT 1, 2048, .inl f12)), (p13, .inl (cT 1, 2048, .inl f14)), (a15, .inr (2, [.ref a16, .int v22, .int v23])), (a16, .inl (cT 2, 4096, .inr (.inl f21))), (a13, .inr (2, [.ref a14, .int o17.2.2.1, .int o17.2.2.2])), (a14, .inl (cT 2, 4096, .inr (.inl o17.2.1)))]) hP hD [13, 14, 15, 16] [0, 1, 2, 3, 4, 5, 6, 7, 8, 9, 10, 11, 12] 13 rfl rfl (by decide) (by decide) hk1 hFc hP1 hD1
          generalize H1 = H at hP hS ⊢
          rw [hr9]
          refine W.eq (g2 := F0 m 67 ls [.int o17.1, .ref a0]) rfl ?_
          obtain ⟨o20, hq21, hf⟩ := xbind hf
          by_cases hk22 : o20.1 = 0
          · rw [if_pos hk22] at hf
            obtain ⟨hPc, hDc, hFc⟩ := xcut (wc := [(a0, .inr (0, [.ref a1, .ref a3, .ref a5, .ref a7, .ref a8, .ref a13, .int v19, .int v20])), (a1, .inr (1, [.ref a2, .int v1, .int v2])), (a2, .inl (cT 0, 4096, .inl f0)), (a3, .inr (1, [.ref a4, .int v4, .int v5])), (a4, .inl (cT 0, 4096, .inl f3)), (a5, .inr (1, [.ref a6, .int v7, .int v8])), (a6, .inl (cT 0, 4096, .inl f6)), (a7, .inl (cT 3, 8, .inr (.inr (.inr (.inr rf0))))), (a8, .inr (3, [.ref a9, .ref a10, .ref p11, .ref p13, .int v15])), (a9, .inl (cT 1, 2048, .inl f9)), (a10, .inl (cT 1, 2048, .inl f10)), (p11, .inl (cT 1, 2048, .inl f12)), (p13, .inl (cT 1, 2048, .inl f14)), (a13, .inr (2, [.ref a14, .int o17.2.2.1, .int o17.2.2.2])), (a14, .inl (cT 2, 4096, .inr (.inl o17.2.1)))]) hP hD hS hA [0, 1, 2, 3, 4, 5, 6, 7, 8, 9, 10, 11, 12, 15, 16] rfl rfl (by decide)
            refine va_callv (va_runV (C := "ValueBench") (As := [.int o17.1]) (rest := []) ⟨hx, hb, hml, hown, htx⟩ (gB_demandDone l hl9 D cT aK aV H.size n a0 a1 a2 a3 a4 a5 a6 a7 a8 a9 a10 a13 a14 rf0 o17.1 f0 v1 v2 f3 v4 v5 f6 v7 v8 f9 f10 p11 f12 p13 f14 v15 o17.2.1 o17.2.2.1 o17.2.2.2 v19 v20 o20 hq21 hk22) ⟨callB_of 1 htx (xw_goodC kw_3_222) rfl rfl rfl (htx _ kw_1_1) (htx _ kw_3_219) ⟨by decide, by decide, by decide +kernel⟩ ⟨Nat.le_of_ble_eq_true rfl, Nat.le_of_ble_eq_true rfl⟩, (htx _ kw_3_221), (htx _ kp_B_demandDone)⟩ ⟨xPre_blind, va_recv hK hP (ci := 0) rfl (q0 := 0) rfl, (fun U hU hW => ⟨rfl, xPre_of hZ hS hFc hPc hDc hK U hU hW⟩)⟩ rfl rfl hl.1 rfl (lv_room (Nat.le_of_ble_eq_true rfl)) dB_binary_67 ⟨Nat.le_of_ble_eq_true rfl, Nat.le_of_ble_eq_true rfl⟩) hS (fun q _ h => hFc q h) hFc (fun u9 t H1 locs ht hvm hr9 hB hz1 hk1 hS => ?_)
            obtain ⟨hP1, hK1, hD1⟩ := hB
            rw [ht] at hP1
            obtain ⟨hP, hD⟩ := xjoin (W := [(a15, .inr (2, [.ref a16, .int v22, .int v23])), (a16, .inl (cT 2, 4096, .inr (.inl f21))), (a0, .inr (0, [.ref a1, .ref a3, .ref a5, .ref a7, .ref a8, .ref a13, .int v19, .int o20.2])), (a1, .inr (1, [.ref a2, .int v1, .int v2])), (a2, .inl (cT 0, 4096, .inl f0)), (a3, .inr (1, [.ref a4, .int v4, .int v5])), (a4, .inl (cT 0, 4096, .inl f3)), (a5, .inr (1, [.ref a6, .int v7, .int v8])), (a6, .inl (cT 0, 4096, .inl f6)), (a7, .inl (cT 3, 8, .inr (.inr (.inr (.inr rf0))))), (a8, .inr (3, [.ref a9, .ref a10, .ref p11, .ref p13, .int v15])), (a9, .inl (cT 1, 2048, .inl f9)), (a10, .inl (cT 1, 2048, .inl f10)), (p11, .inl (cT 1, 2048, .inl f12)), (p13, .inl (cT 1, 2048, .inl f14)), (a13, .inr (2, [.ref a14, .int o17.2.2.1, .int o17.2.2.2])), (a14, .inl (cT 2, 4096, .inr (.inl o17.2.1)))]) hP hD [0, 1, 2, 3, 4, 5, 6, 7, 8, 9, 10, 11, 12, 15, 16] [13, 14] 2 rfl rfl (by decide) (by decide) hk1 hFc hP1 hD1
            generalize H1 = H at hP hS ⊢
            refine lv_aload_n hx hb dB_binary_70 rfl (lv_at hl 0 rfl) ?_
            refine lv_iload_n hx hb dB_binary_71 rfl (lv_at hl 1 rfl) ?_
            obtain ⟨o23, hq24, hf⟩ := xbind hf
            by_cases hk25 : o23.1 = 0
            · rw [if_pos hk25] at hf
              obtain ⟨hPc, hDc, hFc⟩ := xcut (wc := [(a0, .inr (0, [.ref a1, .ref a3, .ref a5, .ref a7, .ref a8, .ref a13, .int v19, .int o20.2])), (a1, .inr (1, [.ref a2, .int v1, .int v2])), (a2, .inl (cT 0, 4096, .inl f0)), (a3, .inr (1, [.ref a4, .int v4, .int v5])), (a4, .inl (cT 0, 4096, .inl f3)), (a5, .inr (1, [.ref a6, .int v7, .int v8])), (a6, .inl (cT 0, 4096, .inl f6)), (a7, .inl (cT 3, 8, .inr (.inr (.inr (.inr rf0))))), (a8, .inr (3, [.ref a9, .ref a10, .ref p11, .ref p13, .int v15])), (a9, .inl (cT 1, 2048, .inl f9)), (a10, .inl (cT 1, 2048, .inl f10)), (p11, .inl (cT 1, 2048, .inl f12)), (p13, .inl (cT 1, 2048, .inl f14)), (a13, .inr (2, [.ref a14, .int o17.2.2.1, .int o17.2.2.2])), (a14, .inl (cT 2, 4096, .inr (.inl o17.2.1)))]) hP hD hS hA [2, 3, 4, 5, 6, 7, 8, 9, 10, 11, 12, 13, 14, 15, 16] rfl rfl (by decide)
              refine va_calli (va_runV (C := "ValueBench") (As := [.int x1]) (rest := []) ⟨hx, hb, hml, hown, htx⟩ (gB_keepSpare l hl9 D cT aK aV H.size d n a0 a1 a2 a3 a4 a5 a6 a7 a8 a9 a10 a13 a14 rf0 b1 x1 f0 v1 v2 f3 v4 v5 f6 v7 v8 f9 f10 p11 f12 p13 f14 v15 o17.2.1 o17.2.2.1 o17.2.2.2 v19 o20.2 hr1 o23 hq24 hk25) ⟨callB_of 1 htx (xw_goodC kw_3_17) rfl rfl rfl (htx _ kw_1_1) (htx _ kw_3_14) ⟨by decide, by decide, by decide +kernel⟩ ⟨(by show (16 * d + 6) + 1 ≤ 16 * d + 7; omega), (by show 8 + (3 + 11) + (400 * d + 100) ≤ 400 * d + 180; omega)⟩, (htx _ kw_3_16), (htx _ kp_B_keepSpare)⟩ ⟨xPre_blind, va_recv hK hP (ci := 0) rfl (q0 := 2) rfl, (fun U hU hW => ⟨rfl, xPre_of hZ hS hFc hPc hDc hK U hU hW⟩)⟩ rfl rfl hl.1 rfl (lv_room (Nat.le_of_ble_eq_true rfl)) dB_binary_72 ⟨Nat.le_of_ble_eq_true rfl, Nat.le_of_ble_eq_true rfl⟩) hS (fun q _ h => hFc q h) hFc (fun r26 u9 t H1 locs ht hvm hr9 hB hz1 hk1 hS => ?_)
              obtain ⟨hP1, hK1, hD1⟩ := hB
              rw [ht] at hP1
              obtain ⟨hP, hD⟩ := xjoin (W := [(a15, .inr (2, [.ref a16, .int v22, .int v23])), (a16, .inl (cT 2, 4096, .inr (.inl f21))), (a0, .inr (0, [.ref a1, .ref a3, .ref a5, .ref a7, .ref a8, .ref b1, .int v19, .int o20.2])), (a1, .inr (1, [.ref a2, .int v1, .int v2])), (a2, .inl (cT 0, 4096, .inl f0)), (a3, .inr (1, [.ref a4, .int v4, .int v5])), (a4, .inl (cT 0, 4096, .inl f3)), (a5, .inr (1, [.ref a6, .int o23.2.2.2.1, .int o23.2.2.2.2])), (a6, .inl (cT 0, 4096, .inl o23.2.2.1)), (a7, .inl (cT 3, 8, .inr (.inr (.inr (.inr (va_up rf0 x1.toNatClampNeg (some a13))))))), (a8, .inr (3, [.ref a9, .ref a10, .ref p11, .ref p13, .int v15])), (a9, .inl (cT 1, 2048, .inl f9)), (a10, .inl (cT 1, 2048, .inl f10)), (p11, .inl (cT 1, 2048, .inl f12)), (p13, .inl (cT 1, 2048, .inl f14)), (a13, .inr (2, [.ref a14, .int o17.2.2.1, .int o17.2.2.2])), (a14, .inl (cT 2, 4096, .inr (.inl o17.2.1)))]) hP hD [2, 3, 4, 5, 6, 7, 8, 9, 10, 11, 12, 13, 14, 15, 16] [0, 1] 2 rfl rfl (by decide) (by decide) hk1 hFc hP1 hD1
              generalize H1 = H at hP hS ⊢
              rw [hr9]
              refine W.eq (g2 := F0 m 75 ls [.int o23.2.1]) rfl ?_
              refine lv_pop hx hb dB_binary_75 rfl ?_
              obtain rfl := Option.some.inj hf
              exact absurd (show (0 : Nat) = 1 from hkd) (by decide)
            rw [if_neg hk25] at hf
            by_cases hk27 : o23.1 = 1
            · rw [if_pos hk27] at hf
              obtain ⟨hPc, hDc, hFc⟩ := xcut (wc := [(a0, .inr (0, [.ref a1, .ref a3, .ref a5, .ref a7, .ref a8, .ref a13, .int v19, .int o20.2])), (a1, .inr (1, [.ref a2, .int v1, .int v2])), (a2, .inl (cT 0, 4096, .inl f0)), (a3, .inr (1, [.ref a4, .int v4, .int v5])), (a4, .inl (cT 0, 4096, .inl f3)), (a5, .inr (1, [.ref a6, .int v7, .int v8])), (a6, .inl (cT 0, 4096, .inl f6)), (a7, .inl (cT 3, 8, .inr (.inr (.inr (.inr rf0))))), (a8, .inr (3, [.ref a9, .ref a10, .ref p11, .ref p13, .int v15])), (a9, .inl (cT 1, 2048, .inl f9)), (a10, .inl (cT 1, 2048, .inl f10)), (p11, .inl (cT 1, 2048, .inl f12)), (p13, .inl (cT 1, 2048, .inl f14)), (a13, .inr (2, [.ref a14, .int o17.2.2.1, .int o17.2.2.2])), (a14, .inl (cT 2, 4096, .inr (.inl o17.2.1)))]) hP hD hS hA [2, 3, 4, 5, 6, 7, 8, 9, 10, 11, 12, 13, 14, 15, 16] rfl rfl (by decide)
              refine xx_thr (vx_runV (C := "ValueBench") (As := [.int x1]) (rest := []) ⟨hx, hb, hml, hown, htx⟩ (gB_keepSpare_1 l hl9 D cT aK aV H.size d n a0 a1 a2 a3 a4 a5 a6 a7 a8 a9 a10 a13 a14 rf0 b1 x1 f0 v1 v2 f3 v4 v5 f6 v7 v8 f9 f10 p11 f12 p13 f14 v15 o17.2.1 o17.2.2.1 o17.2.2.2 v19 o20.2 hr1 o23 hq24 hk27) ⟨callB_of 1 htx (xw_goodC kw_3_17) rfl rfl rfl (htx _ kw_1_1) (htx _ kw_3_14) ⟨by decide, by decide, by decide +kernel⟩ ⟨(by show (16 * d + 6) + 1 ≤ 16 * d + 7; omega), (by show 8 + (3 + 11) + (400 * d + 100) ≤ 400 * d + 180; omega)⟩, (htx _ kw_3_16), (htx _ kp_B_keepSpare)⟩ ⟨xPre_blind, va_recv hK hP (ci := 0) rfl (q0 := 2) rfl, (fun U hU hW => ⟨rfl, xPre_of hZ hS hFc hPc hDc hK U hU hW⟩)⟩ rfl rfl hl.1 rfl (lv_room (Nat.le_of_ble_eq_true rfl)) dB_binary_72 ⟨Nat.le_of_ble_eq_true rfl, Nat.le_of_ble_eq_true rfl⟩) hS hFc (fun q _ h => hFc q h) (fun E ce q9 u9 t H1 locs ht hvm _ hB hz1 hk1 hS hce hcv hcl => ?_)
              obtain ⟨rfl, hP1, hK1, hD1⟩ := hB
              rw [ht] at hP1
              obtain ⟨hP, hD⟩ := xjoin (W := [(a15, .inr (2, [.ref a16, .int v22, .int v23])), (a16, .inl (cT 2, 4096, .inr (.inl f21))), (a0, .inr (0, [.ref a1, .ref a3, .ref a5, .ref a7, .ref a8, .ref a13, .int v19, .int o20.2])), (a1, .inr (1, [.ref a2, .int v1, .int v2])), (a2, .inl (cT 0, 4096, .inl f0)), (a3, .inr (1, [.ref a4, .int v4, .int v5])), (a4, .inl (cT 0, 4096, .inl f3)), (a5, .inr (1, [.ref a6, .int o23.2.2.2.1, .int o23.2.2.2.2])), (a6, .inl (cT 0, 4096, .inl o23.2.2.1)), (a7, .inl (cT 3, 8, .inr (.inr (.inr (.inr rf0))))), (a8, .inr (3, [.ref a9, .ref a10, .ref p11, .ref p13, .int v15])), (a9, .inl (cT 1, 2048, .inl f9)), (a10, .inl (cT 1, 2048, .inl f10)), (p11, .inl (cT 1, 2048, .inl f12)), (p13, .inl (cT 1, 2048, .inl f14)), (a13, .inr (2, [.ref a14, .int o17.2.2.1, .int o17.2.2.2])), (a14, .inl (cT 2, 4096, .inr (.inl o17.2.1)))]) hP hD [2, 3, 4, 5, 6, 7, 8, 9, 10, 11, 12, 13, 14, 15, 16] [0, 1] 2 rfl rfl (by decide) (by decide) hk1 hFc hP1 hD1
              generalize H1 = H at hP hS hce ⊢
              obtain rfl := Option.some.inj hf
              obtain ⟨hP9, hD9⟩ := xsub (wc := [(a0, .inr (0, [.ref a1, .ref a3, .ref a5, .ref a7, .ref a8, .ref a13, .int v19, .int o20.2])), (a1, .inr (1, [.ref a2, .int v1, .int v2])), (a2, .inl (cT 0, 4096, .inl f0)), (a3, .inr (1, [.ref a4, .int v4, .int v5])), (a4, .inl (cT 0, 4096, .inl f3)), (a5, .inr (1, [.ref a6, .int o23.2.2.2.1, .int o23.2.2.2.2])), (a6, .inl (cT 0, 4096, .inl o23.2.2.1)), (a7, .inl (cT 3, 8, .inr (.inr (.inr (.inr rf0))))), (a8, .inr (3, [.ref a9, .ref a10, .ref p11, .ref p13, .int v15])), (a9, .inl (cT 1, 2048, .inl f9)), (a10, .inl (cT 1, 2048, .inl f10)), (p11, .inl (cT 1, 2048, .inl f12)), (p13, .inl (cT 1, 2048, .inl f14)), (a13, .inr (2, [.ref a14, .int o17.2.2.1, .int o17.2.2.2])), (a14, .inl (cT 2, 4096, .inr (.inl o17.2.1))), (a15, .inr (2, [.ref a16, .int v22, .int v23])), (a16, .inl (cT 2, 4096, .inr (.inl f21)))]) hP hD [2, 3, 4, 5, 6, 7, 8, 9, 10, 11, 12, 13, 14, 15, 16, 0, 1] rfl rfl (by decide)
              exact vx_out (E := "java/lang/IndexOutOfBoundsException") (fun x h => (hne x h).elim) hlocks hce hcv hcl (fun t ht ha => ⟨(), trivial, ⟨rfl, by rw [ht]; exact hP9, va_K.moved ha hK, hD9⟩, hS.F ht⟩) hS.2.2 (Nat.le_of_ble_eq_true rfl) (Nat.le_of_ble_eq_true rfl)
            rw [if_neg hk27] at hf
            exact nomatch hf
          rw [if_neg hk22] at hf
          by_cases hk29 : o20.1 = 1
          · rw [if_pos hk29] at hf
            obtain rfl := Option.some.inj hf
            exact absurd (show (2 : Nat) = 1 from hkd) (by decide)
          rw [if_neg hk29] at hf
          exact nomatch hf
        rw [if_neg hk12] at hf
        by_cases hk30 : o10 = 1
        · rw [if_pos hk30] at hf
          obtain rfl := Option.some.inj hf
          exact absurd (show (3 : Nat) = 1 from hkd) (by decide)
        rw [if_neg hk30] at hf
        exact nomatch hf
      · rw [if_neg hc] at hf
        refine lv_iload hx hb dB_binary_22 (lv_at hl 4 rfl) ?_
        obtain ⟨o10, hq11, hf⟩ := xbind hf
        obtain ⟨hPc, hDc, hFc⟩ := xcut (wc := []) hP hD hS hA [] rfl rfl (by decide)
        refine va_calli (va_runS (As := [.int x4]) (rest := []) ⟨hx, hb, hml, hown, htx⟩ (gB_isRegister l hl9 D cT aK aV H.size n x4 o10 hq11) ⟨callB_of 1 htx (xw_goodC kw_2_18) rfl rfl rfl (htx _ kw_1_1) (htx _ kw_2_16) ⟨by decide, by decide, by decide +kernel⟩ ⟨Nat.le_of_ble_eq_true rfl, Nat.le_of_ble_eq_true rfl⟩, htx _ kw_2_17⟩ ⟨xPre_blind, (fun U hU hW => ⟨rfl, xPre_of hZ hS hFc hPc hDc hK U hU hW⟩)⟩ rfl rfl hl.1 rfl (lv_room (Nat.le_of_ble_eq_true rfl)) dB_binary_24 ⟨Nat.le_of_ble_eq_true rfl, Nat.le_of_ble_eq_true rfl⟩) hS (fun q _ h => hFc q h) hFc (fun r12 u9 t H1 locs ht hvm hr9 hB hz1 hk1 hS => ?_)
        obtain ⟨hP1, hK1, hD1⟩ := hB
        rw [ht] at hP1
        obtain ⟨hP, hD⟩ := xjoin (W := [(a0, .inr (0, [.ref a1, .ref a3, .ref a5, .ref a7, .ref a8, .ref a13, .int v19, .int v20])), (a1, .inr (1, [.ref a2, .int v1, .int v2])), (a2, .inl (cT 0, 4096, .inl f0)), (a3, .inr (1, [.ref a4, .int v4, .int v5])), (a4, .inl (cT 0, 4096, .inl f3)), (a5, .inr (1, [.ref a6, .int v7, .int v8])), (a6, .inl (cT 0, 4096, .inl f6)), (a7, .inl (cT 3, 8, .inr (.inr (.inr (.inr rf0))))), (a8, .inr (3, [.ref a9, .ref a10, .ref p11, .ref p13, .int v15])), (a9, .inl (cT 1, 2048, .inl f9)), (a10, .inl (cT 1, 2048, .inl f10)), (p11, .inl (cT 1, 2048, .inl f12)), (p13, .inl (cT 1, 2048, .inl f14)), (a13, .inr (2, [.ref a14, .int v17, .int v18])), (a14, .inl (cT 2, 4096, .inr (.inl f16))), (a15, .inr (2, [.ref a16, .int v22, .int v23])), (a16, .inl (cT 2, 4096, .inr (.inl f21)))]) hP hD [] [0, 1, 2, 3, 4, 5, 6, 7, 8, 9, 10, 11, 12, 13, 14, 15, 16] 17 rfl rfl (by decide) (by decide) hk1 hFc hP1 hD1
        generalize H1 = H at hP hS ⊢
        rw [hr9]
        refine W.eq (g2 := F0 m 27 ls [.int o10]) rfl ?_
        refine lv_if_eq (tgt := 34) hx hb dB_binary_27 (by decide) (fun hc => ?_) (fun hc => ?_)
        · rw [if_pos hc] at hf
          refine lv_iconst (v := 0) hx hb dB_binary_34 (by decide) ?_
          obtain ⟨o13, hq14, hf⟩ := xbind hf
          by_cases hk15 : o13 = 0
          · rw [if_pos hk15] at hf
            obtain ⟨hPc, hDc, hFc⟩ := xcut (wc := []) hP hD hS hA [] rfl rfl (by decide)
            refine va_callv (va_runS (As := [.int 0]) (rest := []) ⟨hx, hb, hml, hown, htx⟩ (gB_demand l hl9 D cT aK aV H.size n (0 : Int32) o13 hq14 hk15) ⟨callB_of 1 htx (xw_goodC kw_1_221) rfl rfl rfl (htx _ kw_1_1) (htx _ kw_1_219) ⟨by decide, by decide, by decide +kernel⟩ ⟨Nat.le_of_ble_eq_true rfl, Nat.le_of_ble_eq_true rfl⟩, htx _ kw_1_220⟩ ⟨xPre_blind, (fun U hU hW => ⟨rfl, xPre_of hZ hS hFc hPc hDc hK U hU hW⟩)⟩ rfl rfl hl.1 rfl (lv_room (Nat.le_of_ble_eq_true rfl)) dB_binary_35 ⟨Nat.le_of_ble_eq_true rfl, Nat.le_of_ble_eq_true rfl⟩) hS (fun q _ h => hFc q h) hFc (fun u9 t H1 locs ht hvm hr9 hB hz1 hk1 hS => ?_)
            obtain ⟨hP1, hK1, hD1⟩ := hB
            rw [ht] at hP1
            obtain ⟨hP, hD⟩ := xjoin (W := [(a0, .inr (0, [.ref a1, .ref a3, .ref a5, .ref a7, .ref a8, .ref a13, .int v19, .int v20])), (a1, .inr (1, [.ref a2, .int v1, .int v2])), (a2, .inl (cT 0, 4096, .inl f0)), (a3, .inr (1, [.ref a4, .int v4, .int v5])), (a4, .inl (cT 0, 4096, .inl f3)), (a5, .inr (1, [.ref a6, .int v7, .int v8])), (a6, .inl (cT 0, 4096, .inl f6)), (a7, .inl (cT 3, 8, .inr (.inr (.inr (.inr rf0))))), (a8, .inr (3, [.ref a9, .ref a10, .ref p11, .ref p13, .int v15])), (a9, .inl (cT 1, 2048, .inl f9)), (a10, .inl (cT 1, 2048, .inl f10)), (p11, .inl (cT 1, 2048, .inl f12)), (p13, .inl (cT 1, 2048, .inl f14)), (a13, .inr (2, [.ref a14, .int v17, .int v18])), (a14, .inl (cT 2, 4096, .inr (.inl f16))), (a15, .inr (2, [.ref a16, .int v22, .int v23])), (a16, .inl (cT 2, 4096, .inr (.inl f21)))]) hP hD [] [0, 1, 2, 3, 4, 5, 6, 7, 8, 9, 10, 11, 12, 13, 14, 15, 16] 17 rfl rfl (by decide) (by decide) hk1 hFc hP1 hD1
            generalize H1 = H at hP hS ⊢
            refine lv_aload_n hx hb dB_binary_38 rfl (lv_at hl 0 rfl) ?_
            refine va_get (D := D) (ci := 0) (v := .ref a13) (C := "ValueBench") (T := TB) (N := 8) hx hb htx inB hown hK hP 0 rfl rfl 5 (by decide) (htx _ kw_1_100) (fun _ h9 => h9) rfl dB_binary_39 ?_
            obtain ⟨o16, hq17, hf⟩ := xbind hf
            obtain ⟨hPc, hDc, hFc⟩ := xcut (wc := [(a13, .inr (2, [.ref a14, .int v17, .int v18])), (a14, .inl (cT 2, 4096, .inr (.inl f16)))]) hP hD hS hA [13, 14] rfl rfl (by decide)
            refine va_callv (va_runV (C := "ValueBench$Row") (As := []) (rest := []) ⟨hx, hb, hml, hown, htx⟩ (gR_clear l hl9 D cT aK aV H.size n a13 a14 f16 v17 v18 o16 hq17) ⟨callB_of 0 htx (xw_goodC kw_2_22) rfl rfl rfl (htx _ kw_1_4) (htx _ kw_2_19) ⟨by decide, by decide, by decide +kernel⟩ ⟨Nat.le_of_ble_eq_true rfl, Nat.le_of_ble_eq_true rfl⟩, (htx _ kw_2_20), (htx _ kw_2_21)⟩ ⟨xPre_blind, va_recv hK hP (ci := 2) rfl (q0 := 13) rfl, (fun U hU hW => ⟨rfl, xPre_of hZ hS hFc hPc hDc hK U hU hW⟩)⟩ rfl rfl hl.1 rfl (lv_room (Nat.le_of_ble_eq_true rfl)) dB_binary_42 ⟨Nat.le_of_ble_eq_true rfl, Nat.le_of_ble_eq_true rfl⟩) hS (fun q _ h => hFc q h) hFc (fun u9 t H1 locs ht hvm hr9 hB hz1 hk1 hS => ?_)
            obtain ⟨hP1, hK1, hD1⟩ := hB
            rw [ht] at hP1
            obtain ⟨hP, hD⟩ := xjoin (W := [(a0, .inr (0, [.ref a1, .ref a3, .ref a5, .ref a7, .ref a8, .ref a13, .int v19, .int v20])), (a1, .inr (1, [.ref a2, .int v1, .int v2])), (a2, .inl (cT 0, 4096, .inl f0)), (a3, .inr (1, [.ref a4, .int v4, .int v5])), (a4, .inl (cT 0, 4096, .inl f3)), (a5, .inr (1, [.ref a6, .int v7, .int v8])), (a6, .inl (cT 0, 4096, .inl f6)), (a7, .inl (cT 3, 8, .inr (.inr (.inr (.inr rf0))))), (a8, .inr (3, [.ref a9, .ref a10, .ref p11, .ref p13, .int v15])), (a9, .inl (cT 1, 2048, .inl f9)), (a10, .inl (cT 1, 2048, .inl f10)), (p11, .inl (cT 1, 2048, .inl f12)), (p13, .inl (cT 1, 2048, .inl f14)), (a15, .inr (2, [.ref a16, .int v22, .int v23])), (a16, .inl (cT 2, 4096, .inr (.inl f21))), (a13, .inr (2, [.ref a14, .int o16.1, .int o16.2])), (a14, .inl (cT 2, 4096, .inr (.inl f16)))]) hP hD [13, 14] [0, 1, 2, 3, 4, 5, 6, 7, 8, 9, 10, 11, 12, 15, 16] 15 rfl rfl (by decide) (by decide) hk1 hFc hP1 hD1
            generalize H1 = H at hP hS ⊢
            refine lv_aload_n hx hb dB_binary_45 rfl (lv_at hl 0 rfl) ?_
            refine lv_iload_n hx hb dB_binary_46 rfl (lv_at hl 2 rfl) ?_
            refine lv_aload_n hx hb dB_binary_47 rfl (lv_at hl 0 rfl) ?_
            refine va_get (D := D) (ci := 0) (v := .ref a7) (C := "ValueBench") (T := TB) (N := 8) hx hb htx inB hown hK hP 0 rfl rfl 3 (by decide) (htx _ kw_1_98) (fun _ h9 => h9) rfl dB_binary_48 ?_
            refine lv_iload_n hx hb dB_binary_51 rfl (lv_at hl 3 rfl) ?_
            obtain ⟨hg18, hf⟩ := xifn hf
            refine va_aldq hx hb hK hP 7 3 rfl rfl hg18 dB_binary_52 ?_
            refine W.eq (g2 := F0 m 53 ls [va_rf (rf0 x3.toNatClampNeg), .int x2, .ref a0]) rfl ?_
            rw [hr3 hg18]
            refine W.eq (g2 := F0 m 53 ls [.ref a15, .int x2, .ref a0]) rfl ?_
            refine lv_aload_n hx hb dB_binary_53 rfl (lv_at hl 0 rfl) ?_
            refine va_get (D := D) (ci := 0) (v := .ref a7) (C := "ValueBench") (T := TB) (N := 8) hx hb htx inB hown hK hP 0 rfl rfl 3 (by decide) (htx _ kw_1_98) (fun _ h9 => h9) rfl dB_binary_54 ?_
            refine lv_iload hx hb dB_binary_57 (lv_at hl 4 rfl) ?_
            obtain ⟨hg19, hf⟩ := xifn hf
            refine va_aldq hx hb hK hP 7 3 rfl rfl hg19 dB_binary_59 ?_
            refine W.eq (g2 := F0 m 60 ls [va_rf (rf0 x4.toNatClampNeg), .ref a15, .int x2, .ref a0]) rfl ?_
            rw [hr4 hg19]
            refine W.eq (g2 := F0 m 60 ls [.ref a15, .ref a15, .int x2, .ref a0]) rfl ?_
            refine lv_aload_n hx hb dB_binary_60 rfl (lv_at hl 0 rfl) ?_
            refine va_get (D := D) (ci := 0) (v := .ref a13) (C := "ValueBench") (T := TB) (N := 8) hx hb htx inB hown hK hP 0 rfl rfl 5 (by decide) (htx _ kw_1_100) (fun _ h9 => h9) rfl dB_binary_61 ?_
            obtain ⟨o20, hq21, hf⟩ := xbind hf
            obtain ⟨hPc, hDc, hFc⟩ := xcut (wc := [(a15, .inr (2, [.ref a16, .int v22, .int v23])), (a16, .inl (cT 2, 4096, .inr (.inl f21))), (a13, .inr (2, [.ref a14, .int o16.1, .int o16.2])), (a14, .inl (cT 2, 4096, .inr (.inl f16)))]) hP hD hS hA [13, 14, 15, 16] rfl rfl (by decide)
            refine va_calli (va_runS (As := [.int x2, .ref a15, .ref a15, .ref a13]) (rest := [.ref a0]) ⟨hx, hb, hml, hown, htx⟩ (gA_applya l hl9 D cT aK aV H.size d n a15 a16 a13 a14 x2 f21 v22 v23 f16 o16.1 o16.2 o20 hq21) ⟨callB_of 4 htx (xw_goodC kw_3_105) rfl rfl rfl (htx _ kw_1_21) (htx _ kw_3_103) ⟨by decide, by decide, by decide +kernel⟩ ⟨(by show (16 * d + 5) + 1 ≤ 16 * d + 7; omega), (by show 8 + (4 + 11) + (400 * d + 157) ≤ 400 * d + 180; omega)⟩, htx _ kw_3_104⟩ ⟨xPre_blind, (fun U hU hW => ⟨rfl, xPre_of hZ hS hFc hPc hDc hK U hU hW⟩)⟩ rfl rfl hl.1 rfl (lv_room (Nat.le_of_ble_eq_true rfl)) dB_binary_64 ⟨Nat.le_of_ble_eq_true rfl, Nat.le_of_ble_eq_true rfl⟩) hS (fun q _ h => hFc q h) hFc (fun r22 u9 t H1 locs ht hvm hr9 hB hz1 hk1 hS => ?_)
            obtain ⟨hP1, hK1, hD1⟩ := hB
            rw [ht] at hP1
            obtain ⟨hP, hD⟩ := xjoin (W := [(a0, .inr (0, [.ref a1, .ref a3, .ref a5, .ref a7, .ref a8, .ref a13, .int v19, .int v20])), (a1, .inr (1, [.ref a2, .int v1, .int v2])), (a2, .inl (cT 0, 4096, .inl f0)), (a3, .inr (1, [.ref a4, .int v4, .int v5])), (a4, .inl (cT 0, 4096, .inl f3)), (a5, .inr (1, [.ref a6, .int v7, .int v8])), (a6, .inl (cT 0, 4096, .inl f6)), (a7, .inl (cT 3, 8, .inr (.inr (.inr (.inr rf0))))), (a8, .inr (3, [.ref a9, .ref a10, .ref p11, .ref p13, .int v15])), (a9, .inl (cT 1, 2048, .inl f9)), (a10, .inl (cT 1, 2048, .inl f10)), (p11, .inl (cT 1, 2048, .inl f12)), (p13, .inl (cT 1, 2048, .inl f14)), (a15, .inr (2, [.ref a16, .int v22, .int v23])), (a16, .inl (cT 2, 4096, .inr (.inl f21))), (a13, .inr (2, [.ref a14, .int o20.2.2.1, .int o20.2.2.2])), (a14, .inl (cT 2, 4096, .inr (.inl o20.2.1)))]) hP hD [13, 14, 15, 16] [0, 1, 2, 3, 4, 5, 6, 7, 8, 9, 10, 11, 12] 13 rfl rfl (by decide) (by decide) hk1 hFc hP1 hD1
            generalize H1 = H at hP hS ⊢
            rw [hr9]
            refine W.eq (g2 := F0 m 67 ls [.int o20.1, .ref a0]) rfl ?_
            obtain ⟨o23, hq24, hf⟩ := xbind hf
            by_cases hk25 : o23.1 = 0
            · rw [if_pos hk25] at hf
              obtain ⟨hPc, hDc, hFc⟩ := xcut (wc := [(a0, .inr (0, [.ref a1, .ref a3, .ref a5, .ref a7, .ref a8, .ref a13, .int v19, .int v20])), (a1, .inr (1, [.ref a2, .int v1, .int v2])), (a2, .inl (cT 0, 4096, .inl f0)), (a3, .inr (1, [.ref a4, .int v4, .int v5])), (a4, .inl (cT 0, 4096, .inl f3)), (a5, .inr (1, [.ref a6, .int v7, .int v8])), (a6, .inl (cT 0, 4096, .inl f6)), (a7, .inl (cT 3, 8, .inr (.inr (.inr (.inr rf0))))), (a8, .inr (3, [.ref a9, .ref a10, .ref p11, .ref p13, .int v15])), (a9, .inl (cT 1, 2048, .inl f9)), (a10, .inl (cT 1, 2048, .inl f10)), (p11, .inl (cT 1, 2048, .inl f12)), (p13, .inl (cT 1, 2048, .inl f14)), (a13, .inr (2, [.ref a14, .int o20.2.2.1, .int o20.2.2.2])), (a14, .inl (cT 2, 4096, .inr (.inl o20.2.1)))]) hP hD hS hA [0, 1, 2, 3, 4, 5, 6, 7, 8, 9, 10, 11, 12, 15, 16] rfl rfl (by decide)
              refine va_callv (va_runV (C := "ValueBench") (As := [.int o20.1]) (rest := []) ⟨hx, hb, hml, hown, htx⟩ (gB_demandDone l hl9 D cT aK aV H.size n a0 a1 a2 a3 a4 a5 a6 a7 a8 a9 a10 a13 a14 rf0 o20.1 f0 v1 v2 f3 v4 v5 f6 v7 v8 f9 f10 p11 f12 p13 f14 v15 o20.2.1 o20.2.2.1 o20.2.2.2 v19 v20 o23 hq24 hk25) ⟨callB_of 1 htx (xw_goodC kw_3_222) rfl rfl rfl (htx _ kw_1_1) (htx _ kw_3_219) ⟨by decide, by decide, by decide +kernel⟩ ⟨Nat.le_of_ble_eq_true rfl, Nat.le_of_ble_eq_true rfl⟩, (htx _ kw_3_221), (htx _ kp_B_demandDone)⟩ ⟨xPre_blind, va_recv hK hP (ci := 0) rfl (q0 := 0) rfl, (fun U hU hW => ⟨rfl, xPre_of hZ hS hFc hPc hDc hK U hU hW⟩)⟩ rfl rfl hl.1 rfl (lv_room (Nat.le_of_ble_eq_true rfl)) dB_binary_67 ⟨Nat.le_of_ble_eq_true rfl, Nat.le_of_ble_eq_true rfl⟩) hS (fun q _ h => hFc q h) hFc (fun u9 t H1 locs ht hvm hr9 hB hz1 hk1 hS => ?_)
              obtain ⟨hP1, hK1, hD1⟩ := hB
              rw [ht] at hP1
              obtain ⟨hP, hD⟩ := xjoin (W := [(a15, .inr (2, [.ref a16, .int v22, .int v23])), (a16, .inl (cT 2, 4096, .inr (.inl f21))), (a0, .inr (0, [.ref a1, .ref a3, .ref a5, .ref a7, .ref a8, .ref a13, .int v19, .int o23.2])), (a1, .inr (1, [.ref a2, .int v1, .int v2])), (a2, .inl (cT 0, 4096, .inl f0)), (a3, .inr (1, [.ref a4, .int v4, .int v5])), (a4, .inl (cT 0, 4096, .inl f3)), (a5, .inr (1, [.ref a6, .int v7, .int v8])), (a6, .inl (cT 0, 4096, .inl f6)), (a7, .inl (cT 3, 8, .inr (.inr (.inr (.inr rf0))))), (a8, .inr (3, [.ref a9, .ref a10, .ref p11, .ref p13, .int v15])), (a9, .inl (cT 1, 2048, .inl f9)), (a10, .inl (cT 1, 2048, .inl f10)), (p11, .inl (cT 1, 2048, .inl f12)), (p13, .inl (cT 1, 2048, .inl f14)), (a13, .inr (2, [.ref a14, .int o20.2.2.1, .int o20.2.2.2])), (a14, .inl (cT 2, 4096, .inr (.inl o20.2.1)))]) hP hD [0, 1, 2, 3, 4, 5, 6, 7, 8, 9, 10, 11, 12, 15, 16] [13, 14] 2 rfl rfl (by decide) (by decide) hk1 hFc hP1 hD1
              generalize H1 = H at hP hS ⊢
              refine lv_aload_n hx hb dB_binary_70 rfl (lv_at hl 0 rfl) ?_
              refine lv_iload_n hx hb dB_binary_71 rfl (lv_at hl 1 rfl) ?_
              obtain ⟨o26, hq27, hf⟩ := xbind hf
              by_cases hk28 : o26.1 = 0
              · rw [if_pos hk28] at hf
                obtain ⟨hPc, hDc, hFc⟩ := xcut (wc := [(a0, .inr (0, [.ref a1, .ref a3, .ref a5, .ref a7, .ref a8, .ref a13, .int v19, .int o23.2])), (a1, .inr (1, [.ref a2, .int v1, .int v2])), (a2, .inl (cT 0, 4096, .inl f0)), (a3, .inr (1, [.ref a4, .int v4, .int v5])), (a4, .inl (cT 0, 4096, .inl f3)), (a5, .inr (1, [.ref a6, .int v7, .int v8])), (a6, .inl (cT 0, 4096, .inl f6)), (a7, .inl (cT 3, 8, .inr (.inr (.inr (.inr rf0))))), (a8, .inr (3, [.ref a9, .ref a10, .ref p11, .ref p13, .int v15])), (a9, .inl (cT 1, 2048, .inl f9)), (a10, .inl (cT 1, 2048, .inl f10)), (p11, .inl (cT 1, 2048, .inl f12)), (p13, .inl (cT 1, 2048, .inl f14)), (a13, .inr (2, [.ref a14, .int o20.2.2.1, .int o20.2.2.2])), (a14, .inl (cT 2, 4096, .inr (.inl o20.2.1)))]) hP hD hS hA [2, 3, 4, 5, 6, 7, 8, 9, 10, 11, 12, 13, 14, 15, 16] rfl rfl (by decide)
                refine va_calli (va_runV (C := "ValueBench") (As := [.int x1]) (rest := []) ⟨hx, hb, hml, hown, htx⟩ (gB_keepSpare l hl9 D cT aK aV H.size d n a0 a1 a2 a3 a4 a5 a6 a7 a8 a9 a10 a13 a14 rf0 b1 x1 f0 v1 v2 f3 v4 v5 f6 v7 v8 f9 f10 p11 f12 p13 f14 v15 o20.2.1 o20.2.2.1 o20.2.2.2 v19 o23.2 hr1 o26 hq27 hk28) ⟨callB_of 1 htx (xw_goodC kw_3_17) rfl rfl rfl (htx _ kw_1_1) (htx _ kw_3_14) ⟨by decide, by decide, by decide +kernel⟩ ⟨(by show (16 * d + 6) + 1 ≤ 16 * d + 7; omega), (by show 8 + (3 + 11) + (400 * d + 100) ≤ 400 * d + 180; omega)⟩, (htx _ kw_3_16), (htx _ kp_B_keepSpare)⟩ ⟨xPre_blind, va_recv hK hP (ci := 0) rfl (q0 := 2) rfl, (fun U hU hW => ⟨rfl, xPre_of hZ hS hFc hPc hDc hK U hU hW⟩)⟩ rfl rfl hl.1 rfl (lv_room (Nat.le_of_ble_eq_true rfl)) dB_binary_72 ⟨Nat.le_of_ble_eq_true rfl, Nat.le_of_ble_eq_true rfl⟩) hS (fun q _ h => hFc q h) hFc (fun r29 u9 t H1 locs ht hvm hr9 hB hz1 hk1 hS => ?_)
                obtain ⟨hP1, hK1, hD1⟩ := hB
                rw [ht] at hP1
                obtain ⟨hP, hD⟩ := xjoin (W := [(a15, .inr (2, [.ref a16, .int v22, .int v23])), (a16, .inl (cT 2, 4096, .inr (.inl f21))), (a0, .inr (0, [.ref a1, .ref a3, .ref a5, .ref a7, .ref a8, .ref b1, .int v19, .int o23.2])), (a1, .inr (1, [.ref a2, .int v1, .int v2])), (a2, .inl (cT 0, 4096, .inl f0)), (a3, .inr (1, [.ref a4, .int v4, .int v5])), (a4, .inl (cT 0, 4096, .inl f3)), (a5, .inr (1, [.ref a6, .int o26.2.2.2.1, .int o26.2.2.2.2])), (a6, .inl (cT 0, 4096, .inl o26.2.2.1)), (a7, .inl (cT 3, 8, .inr (.inr (.inr (.inr (va_up rf0 x1.toNatClampNeg (some a13))))))), (a8, .inr (3, [.ref a9, .ref a10, .ref p11, .ref p13, .int v15])), (a9, .inl (cT 1, 2048, .inl f9)), (a10, .inl (cT 1, 2048, .inl f10)), (p11, .inl (cT 1, 2048, .inl f12)), (p13, .inl (cT 1, 2048, .inl f14)), (a13, .inr (2, [.ref a14, .int o20.2.2.1, .int o20.2.2.2])), (a14, .inl (cT 2, 4096, .inr (.inl o20.2.1)))]) hP hD [2, 3, 4, 5, 6, 7, 8, 9, 10, 11, 12, 13, 14, 15, 16] [0, 1] 2 rfl rfl (by decide) (by decide) hk1 hFc hP1 hD1
                generalize H1 = H at hP hS ⊢
                rw [hr9]
                refine W.eq (g2 := F0 m 75 ls [.int o26.2.1]) rfl ?_
                refine lv_pop hx hb dB_binary_75 rfl ?_
                obtain rfl := Option.some.inj hf
                exact absurd (show (0 : Nat) = 1 from hkd) (by decide)
              rw [if_neg hk28] at hf
              by_cases hk30 : o26.1 = 1
              · rw [if_pos hk30] at hf
                obtain ⟨hPc, hDc, hFc⟩ := xcut (wc := [(a0, .inr (0, [.ref a1, .ref a3, .ref a5, .ref a7, .ref a8, .ref a13, .int v19, .int o23.2])), (a1, .inr (1, [.ref a2, .int v1, .int v2])), (a2, .inl (cT 0, 4096, .inl f0)), (a3, .inr (1, [.ref a4, .int v4, .int v5])), (a4, .inl (cT 0, 4096, .inl f3)), (a5, .inr (1, [.ref a6, .int v7, .int v8])), (a6, .inl (cT 0, 4096, .inl f6)), (a7, .inl (cT 3, 8, .inr (.inr (.inr (.inr rf0))))), (a8, .inr (3, [.ref a9, .ref a10, .ref p11, .ref p13, .int v15])), (a9, .inl (cT 1, 2048, .inl f9)), (a10, .inl (cT 1, 2048, .inl f10)), (p11, .inl (cT 1, 2048, .inl f12)), (p13, .inl (cT 1, 2048, .inl f14)), (a13, .inr (2, [.ref a14, .int o20.2.2.1, .int o20.2.2.2])), (a14, .inl (cT 2, 4096, .inr (.inl o20.2.1)))]) hP hD hS hA [2, 3, 4, 5, 6, 7, 8, 9, 10, 11, 12, 13, 14, 15, 16] rfl rfl (by decide)
                refine xx_thr (vx_runV (C := "ValueBench") (As := [.int x1]) (rest := []) ⟨hx, hb, hml, hown, htx⟩ (gB_keepSpare_1 l hl9 D cT aK aV H.size d n a0 a1 a2 a3 a4 a5 a6 a7 a8 a9 a10 a13 a14 rf0 b1 x1 f0 v1 v2 f3 v4 v5 f6 v7 v8 f9 f10 p11 f12 p13 f14 v15 o20.2.1 o20.2.2.1 o20.2.2.2 v19 o23.2 hr1 o26 hq27 hk30) ⟨callB_of 1 htx (xw_goodC kw_3_17) rfl rfl rfl (htx _ kw_1_1) (htx _ kw_3_14) ⟨by decide, by decide, by decide +kernel⟩ ⟨(by show (16 * d + 6) + 1 ≤ 16 * d + 7; omega), (by show 8 + (3 + 11) + (400 * d + 100) ≤ 400 * d + 180; omega)⟩, (htx _ kw_3_16), (htx _ kp_B_keepSpare)⟩ ⟨xPre_blind, va_recv hK hP (ci := 0) rfl (q0 := 2) rfl, (fun U hU hW => ⟨rfl, xPre_of hZ hS hFc hPc hDc hK U hU hW⟩)⟩ rfl rfl hl.1 rfl (lv_room (Nat.le_of_ble_eq_true rfl)) dB_binary_72 ⟨Nat.le_of_ble_eq_true rfl, Nat.le_of_ble_eq_true rfl⟩) hS hFc (fun q _ h => hFc q h) (fun E ce q9 u9 t H1 locs ht hvm _ hB hz1 hk1 hS hce hcv hcl => ?_)
                obtain ⟨rfl, hP1, hK1, hD1⟩ := hB
                rw [ht] at hP1
                obtain ⟨hP, hD⟩ := xjoin (W := [(a15, .inr (2, [.ref a16, .int v22, .int v23])), (a16, .inl (cT 2, 4096, .inr (.inl f21))), (a0, .inr (0, [.ref a1, .ref a3, .ref a5, .ref a7, .ref a8, .ref a13, .int v19, .int o23.2])), (a1, .inr (1, [.ref a2, .int v1, .int v2])), (a2, .inl (cT 0, 4096, .inl f0)), (a3, .inr (1, [.ref a4, .int v4, .int v5])), (a4, .inl (cT 0, 4096, .inl f3)), (a5, .inr (1, [.ref a6, .int o26.2.2.2.1, .int o26.2.2.2.2])), (a6, .inl (cT 0, 4096, .inl o26.2.2.1)), (a7, .inl (cT 3, 8, .inr (.inr (.inr (.inr rf0))))), (a8, .inr (3, [.ref a9, .ref a10, .ref p11, .ref p13, .int v15])), (a9, .inl (cT 1, 2048, .inl f9)), (a10, .inl (cT 1, 2048, .inl f10)), (p11, .inl (cT 1, 2048, .inl f12)), (p13, .inl (cT 1, 2048, .inl f14)), (a13, .inr (2, [.ref a14, .int o20.2.2.1, .int o20.2.2.2])), (a14, .inl (cT 2, 4096, .inr (.inl o20.2.1)))]) hP hD [2, 3, 4, 5, 6, 7, 8, 9, 10, 11, 12, 13, 14, 15, 16] [0, 1] 2 rfl rfl (by decide) (by decide) hk1 hFc hP1 hD1
                generalize H1 = H at hP hS hce ⊢
                obtain rfl := Option.some.inj hf
                obtain ⟨hP9, hD9⟩ := xsub (wc := [(a0, .inr (0, [.ref a1, .ref a3, .ref a5, .ref a7, .ref a8, .ref a13, .int v19, .int o23.2])), (a1, .inr (1, [.ref a2, .int v1, .int v2])), (a2, .inl (cT 0, 4096, .inl f0)), (a3, .inr (1, [.ref a4, .int v4, .int v5])), (a4, .inl (cT 0, 4096, .inl f3)), (a5, .inr (1, [.ref a6, .int o26.2.2.2.1, .int o26.2.2.2.2])), (a6, .inl (cT 0, 4096, .inl o26.2.2.1)), (a7, .inl (cT 3, 8, .inr (.inr (.inr (.inr rf0))))), (a8, .inr (3, [.ref a9, .ref a10, .ref p11, .ref p13, .int v15])), (a9, .inl (cT 1, 2048, .inl f9)), (a10, .inl (cT 1, 2048, .inl f10)), (p11, .inl (cT 1, 2048, .inl f12)), (p13, .inl (cT 1, 2048, .inl f14)), (a13, .inr (2, [.ref a14, .int o20.2.2.1, .int o20.2.2.2])), (a14, .inl (cT 2, 4096, .inr (.inl o20.2.1))), (a15, .inr (2, [.ref a16, .int v22, .int v23])), (a16, .inl (cT 2, 4096, .inr (.inl f21)))]) hP hD [2, 3, 4, 5, 6, 7, 8, 9, 10, 11, 12, 13, 14, 15, 16, 0, 1] rfl rfl (by decide)
                exact vx_out (E := "java/lang/IndexOutOfBoundsException") (fun x h => (hne x h).elim) hlocks hce hcv hcl (fun t ht ha => ⟨(), trivial, ⟨rfl, by rw [ht]; exact hP9, va_K.moved ha hK, hD9⟩, hS.F ht⟩) hS.2.2 (Nat.le_of_ble_eq_true rfl) (Nat.le_of_ble_eq_true rfl)
              rw [if_neg hk30] at hf
              exact nomatch hf
            rw [if_neg hk25] at hf
            by_cases hk32 : o23.1 = 1
            · rw [if_pos hk32] at hf
              obtain rfl := Option.some.inj hf
              exact absurd (show (2 : Nat) = 1 from hkd) (by decide)
            rw [if_neg hk32] at hf
            exact nomatch hf
          rw [if_neg hk15] at hf
          by_cases hk33 : o13 = 1
          · rw [if_pos hk33] at hf
            obtain rfl := Option.some.inj hf
            exact absurd (show (3 : Nat) = 1 from hkd) (by decide)
          rw [if_neg hk33] at hf
          exact nomatch hf
        · rw [if_neg hc] at hf
          refine lv_iconst (v := 1) hx hb dB_binary_30 (by decide) ?_
          refine lv_goto (tgt := 35) hx hb dB_binary_31 (by decide) ?_
          obtain ⟨o13, hq14, hf⟩ := xbind hf
          by_cases hk15 : o13 = 0
          · rw [if_pos hk15] at hf
            obtain ⟨hPc, hDc, hFc⟩ := xcut (wc := []) hP hD hS hA [] rfl rfl (by decide)
            refine va_callv (va_runS (As := [.int 1]) (rest := []) ⟨hx, hb, hml, hown, htx⟩ (gB_demand l hl9 D cT aK aV H.size n (1 : Int32) o13 hq14 hk15) ⟨callB_of 1 htx (xw_goodC kw_1_221) rfl rfl rfl (htx _ kw_1_1) (htx _ kw_1_219) ⟨by decide, by decide, by decide +kernel⟩ ⟨Nat.le_of_ble_eq_true rfl, Nat.le_of_ble_eq_true rfl⟩, htx _ kw_1_220⟩ ⟨xPre_blind, (fun U hU hW => ⟨rfl, xPre_of hZ hS hFc hPc hDc hK U hU hW⟩)⟩ rfl rfl hl.1 rfl (lv_room (Nat.le_of_ble_eq_true rfl)) dB_binary_35 ⟨Nat.le_of_ble_eq_true rfl, Nat.le_of_ble_eq_true rfl⟩) hS (fun q _ h => hFc q h) hFc (fun u9 t H1 locs ht hvm hr9 hB hz1 hk1 hS => ?_)
            obtain ⟨hP1, hK1, hD1⟩ := hB
            rw [ht] at hP1
            obtain ⟨hP, hD⟩ := xjoin (W := [(a0, .inr (0, [.ref a1, .ref a3, .ref a5, .ref a7, .ref a8, .ref a13, .int v19, .int v20])), (a1, .inr (1, [.ref a2, .int v1, .int v2])), (a2, .inl (cT 0, 4096, .inl f0)), (a3, .inr (1, [.ref a4, .int v4, .int v5])), (a4, .inl (cT 0, 4096, .inl f3)), (a5, .inr (1, [.ref a6, .int v7, .int v8])), (a6, .inl (cT 0, 4096, .inl f6)), (a7, .inl (cT 3, 8, .inr (.inr (.inr (.inr rf0))))), (a8, .inr (3, [.ref a9, .ref a10, .ref p11, .ref p13, .int v15])), (a9, .inl (cT 1, 2048, .inl f9)), (a10, .inl (cT 1, 2048, .inl f10)), (p11, .inl (cT 1, 2048, .inl f12)), (p13, .inl (cT 1, 2048, .inl f14)), (a13, .inr (2, [.ref a14, .int v17, .int v18])), (a14, .inl (cT 2, 4096, .inr (.inl f16))), (a15, .inr (2, [.ref a16, .int v22, .int v23])), (a16, .inl (cT 2, 4096, .inr (.inl f21)))]) hP hD [] [0, 1, 2, 3, 4, 5, 6, 7, 8, 9, 10, 11, 12, 13, 14, 15, 16] 17 rfl rfl (by decide) (by decide) hk1 hFc hP1 hD1
            generalize H1 = H at hP hS ⊢
            refine lv_aload_n hx hb dB_binary_38 rfl (lv_at hl 0 rfl) ?_
            refine va_get (D := D) (ci := 0) (v := .ref a13) (C := "ValueBench") (T := TB) (N := 8) hx hb htx inB hown hK hP 0 rfl rfl 5 (by decide) (htx _ kw_1_100) (fun _ h9 => h9) rfl dB_binary_39 ?_
            obtain ⟨o16, hq17, hf⟩ := xbind hf
            obtain ⟨hPc, hDc, hFc⟩ := xcut (wc := [(a13, .inr (2, [.ref a14, .int v17, .int v18])), (a14, .inl (cT 2, 4096, .inr (.inl f16)))]) hP hD hS hA [13, 14] rfl rfl (by decide)
            refine va_callv (va_runV (C := "ValueBench$Row") (As := []) (rest := []) ⟨hx, hb, hml, hown, htx⟩ (gR_clear l hl9 D cT aK aV H.size n a13 a14 f16 v17 v18 o16 hq17) ⟨callB_of 0 htx (xw_goodC kw_2_22) rfl rfl rfl (htx _ kw_1_4) (htx _ kw_2_19) ⟨by decide, by decide, by decide +kernel⟩ ⟨Nat.le_of_ble_eq_true rfl, Nat.le_of_ble_eq_true rfl⟩, (htx _ kw_2_20), (htx _ kw_2_21)⟩ ⟨xPre_blind, va_recv hK hP (ci := 2) rfl (q0 := 13) rfl, (fun U hU hW => ⟨rfl, xPre_of hZ hS hFc hPc hDc hK U hU hW⟩)⟩ rfl rfl hl.1 rfl (lv_room (Nat.le_of_ble_eq_true rfl)) dB_binary_42 ⟨Nat.le_of_ble_eq_true rfl, Nat.le_of_ble_eq_true rfl⟩) hS (fun q _ h => hFc q h) hFc (fun u9 t H1 locs ht hvm hr9 hB hz1 hk1 hS => ?_)
            obtain ⟨hP1, hK1, hD1⟩ := hB
            rw [ht] at hP1
            obtain ⟨hP, hD⟩ := xjoin (W := [(a0, .inr (0, [.ref a1, .ref a3, .ref a5, .ref a7, .ref a8, .ref a13, .int v19, .int v20])), (a1, .inr (1, [.ref a2, .int v1, .int v2])), (a2, .inl (cT 0, 4096, .inl f0)), (a3, .inr (1, [.ref a4, .int v4, .int v5])), (a4, .inl (cT 0, 4096, .inl f3)), (a5, .inr (1, [.ref a6, .int v7, .int v8])), (a6, .inl (cT 0, 4096, .inl f6)), (a7, .inl (cT 3, 8, .inr (.inr (.inr (.inr rf0))))), (a8, .inr (3, [.ref a9, .ref a10, .ref p11, .ref p13, .int v15])), (a9, .inl (cT 1, 2048, .inl f9)), (a10, .inl (cT 1, 2048, .inl f10)), (p11, .inl (cT 1, 2048, .inl f12)), (p13, .inl (cT 1, 2048, .inl f14)), (a15, .inr (2, [.ref a16, .int v22, .int v23])), (a16, .inl (cT 2, 4096, .inr (.inl f21))), (a13, .inr (2, [.ref a14, .int o16.1, .int o16.2])), (a14, .inl (cT 2, 4096, .inr (.inl f16)))]) hP hD [13, 14] [0, 1, 2, 3, 4, 5, 6, 7, 8, 9, 10, 11, 12, 15, 16] 15 rfl rfl (by decide) (by decide) hk1 hFc hP1 hD1
            generalize H1 = H at hP hS ⊢
            refine lv_aload_n hx hb dB_binary_45 rfl (lv_at hl 0 rfl) ?_
            refine lv_iload_n hx hb dB_binary_46 rfl (lv_at hl 2 rfl) ?_
            refine lv_aload_n hx hb dB_binary_47 rfl (lv_at hl 0 rfl) ?_
            refine va_get (D := D) (ci := 0) (v := .ref a7) (C := "ValueBench") (T := TB) (N := 8) hx hb htx inB hown hK hP 0 rfl rfl 3 (by decide) (htx _ kw_1_98) (fun _ h9 => h9) rfl dB_binary_48 ?_
            refine lv_iload_n hx hb dB_binary_51 rfl (lv_at hl 3 rfl) ?_
            obtain ⟨hg18, hf⟩ := xifn hf
            refine va_aldq hx hb hK hP 7 3 rfl rfl hg18 dB_binary_52 ?_
            refine W.eq (g2 := F0 m 53 ls [va_rf (rf0 x3.toNatClampNeg), .int x2, .ref a0]) rfl ?_
            rw [hr3 hg18]
            refine W.eq (g2 := F0 m 53 ls [.ref a15, .int x2, .ref a0]) rfl ?_
            refine lv_aload_n hx hb dB_binary_53 rfl (lv_at hl 0 rfl) ?_
            refine va_get (D := D) (ci := 0) (v := .ref a7) (C := "ValueBench") (T := TB) (N := 8) hx hb htx inB hown hK hP 0 rfl rfl 3 (by decide) (htx _ kw_1_98) (fun _ h9 => h9) rfl dB_binary_54 ?_
            refine lv_iload hx hb dB_binary_57 (lv_at hl 4 rfl) ?_
            obtain ⟨hg19, hf⟩ := xifn hf
            refine va_aldq hx hb hK hP 7 3 rfl rfl hg19 dB_binary_59 ?_
            refine W.eq (g2 := F0 m 60 ls [va_rf (rf0 x4.toNatClampNeg), .ref a15, .int x2, .ref a0]) rfl ?_
            rw [hr4 hg19]
            refine W.eq (g2 := F0 m 60 ls [.ref a15, .ref a15, .int x2, .ref a0]) rfl ?_
            refine lv_aload_n hx hb dB_binary_60 rfl (lv_at hl 0 rfl) ?_
            refine va_get (D := D) (ci := 0) (v := .ref a13) (C := "ValueBench") (T := TB) (N := 8) hx hb htx inB hown hK hP 0 rfl rfl 5 (by decide) (htx _ kw_1_100) (fun _ h9 => h9) rfl dB_binary_61 ?_
            obtain ⟨o20, hq21, hf⟩ := xbind hf
            obtain ⟨hPc, hDc, hFc⟩ := xcut (wc := [(a15, .inr (2, [.ref a16, .int v22, .int v23])), (a16, .inl (cT 2, 4096, .inr (.inl f21))), (a13, .inr (2, [.ref a14, .int o16.1, .int o16.2])), (a14, .inl (cT 2, 4096, .inr (.inl f16)))]) hP hD hS hA [13, 14, 15, 16] rfl rfl (by decide)
            refine va_calli (va_runS (As := [.int x2, .ref a15, .ref a15, .ref a13]) (rest := [.ref a0]) ⟨hx, hb, hml, hown, htx⟩ (gA_applya l hl9 D cT aK aV H.size d n a15 a16 a13 a14 x2 f21 v22 v23 f16 o16.1 o16.2 o20 hq21) ⟨callB_of 4 htx (xw_goodC kw_3_105) rfl rfl rfl (htx _ kw_1_21) (htx _ kw_3_103) ⟨by decide, by decide, by decide +kernel⟩ ⟨(by show (16 * d + 5) + 1 ≤ 16 * d + 7; omega), (by show 8 + (4 + 11) + (400 * d + 157) ≤ 400 * d + 180; omega)⟩, htx _ kw_3_104⟩ ⟨xPre_blind, (fun U hU hW => ⟨rfl, xPre_of hZ hS hFc hPc hDc hK U hU hW⟩)⟩ rfl rfl hl.1 rfl (lv_room (Nat.le_of_ble_eq_true rfl)) dB_binary_64 ⟨Nat.le_of_ble_eq_true rfl, Nat.le_of_ble_eq_true rfl⟩) hS (fun q _ h => hFc q h) hFc (fun r22 u9 t H1 locs ht hvm hr9 hB hz1 hk1 hS => ?_)
            obtain ⟨hP1, hK1, hD1⟩ := hB
            rw [ht] at hP1
            obtain ⟨hP, hD⟩ := xjoin (W := [(a0, .inr (0, [.ref a1, .ref a3, .ref a5, .ref a7, .ref a8, .ref a13, .int v19, .int v20])), (a1, .inr (1, [.ref a2, .int v1, .int v2])), (a2, .inl (cT 0, 4096, .inl f0)), (a3, .inr (1, [.ref a4, .int v4, .int v5])), (a4, .inl (cT 0, 4096, .inl f3)), (a5, .inr (1, [.ref a6, .int v7, .int v8])), (a6, .inl (cT 0, 4096, .inl f6)), (a7, .inl (cT 3, 8, .inr (.inr (.inr (.inr rf0))))), (a8, .inr (3, [.ref a9, .ref a10, .ref p11, .ref p13, .int v15])), (a9, .inl (cT 1, 2048, .inl f9)), (a10, .inl (cT 1, 2048, .inl f10)), (p11, .inl (cT 1, 2048, .inl f12)), (p13, .inl (cT 1, 2048, .inl f14)), (a15, .inr (2, [.ref a16, .int v22, .int v23])), (a16, .inl (cT 2, 4096, .inr (.inl f21))), (a13, .inr (2, [.ref a14, .int o20.2.2.1, .int o20.2.2.2])), (a14, .inl (cT 2, 4096, .inr (.inl o20.2.1)))]) hP hD [13, 14, 15, 16] [0, 1, 2, 3, 4, 5, 6, 7, 8, 9, 10, 11, 12] 13 rfl rfl (by decide) (by decide) hk1 hFc hP1 hD1
            generalize H1 = H at hP hS ⊢
            rw [hr9]
            refine W.eq (g2 := F0 m 67 ls [.int o20.1, .ref a0]) rfl ?_
            obtain ⟨o23, hq24, hf⟩ := xbind hf
            by_cases hk25 : o23.1 = 0
            · rw [if_pos hk25] at hf
              obtain ⟨hPc, hDc, hFc⟩ := xcut (wc := [(a0, .inr (0, [.ref a1, .ref a3, .ref a5, .ref a7, .ref a8, .ref a13, .int v19, .int v20])), (a1, .inr (1, [.ref a2, .int v1, .int v2])), (a2, .inl (cT 0, 4096, .inl f0)), (a3, .inr (1, [.ref a4, .int v4, .int v5])), (a4, .inl (cT 0, 4096, .inl f3)), (a5, .inr (1, [.ref a6, .int v7, .int v8])), (a6, .inl (cT 0, 4096, .inl f6)), (a7, .inl (cT 3, 8, .inr (.inr (.inr (.inr rf0))))), (a8, .inr (3, [.ref a9, .ref a10, .ref p11, .ref p13, .int v15])), (a9, .inl (cT 1, 2048, .inl f9)), (a10, .inl (cT 1, 2048, .inl f10)), (p11, .inl (cT 1, 2048, .inl f12)), (p13, .inl (cT 1, 2048, .inl f14)), (a13, .inr (2, [.ref a14, .int o20.2.2.1, .int o20.2.2.2])), (a14, .inl (cT 2, 4096, .inr (.inl o20.2.1)))]) hP hD hS hA [0, 1, 2, 3, 4, 5, 6, 7, 8, 9, 10, 11, 12, 15, 16] rfl rfl (by decide)
              refine va_callv (va_runV (C := "ValueBench") (As := [.int o20.1]) (rest := []) ⟨hx, hb, hml, hown, htx⟩ (gB_demandDone l hl9 D cT aK aV H.size n a0 a1 a2 a3 a4 a5 a6 a7 a8 a9 a10 a13 a14 rf0 o20.1 f0 v1 v2 f3 v4 v5 f6 v7 v8 f9 f10 p11 f12 p13 f14 v15 o20.2.1 o20.2.2.1 o20.2.2.2 v19 v20 o23 hq24 hk25) ⟨callB_of 1 htx (xw_goodC kw_3_222) rfl rfl rfl (htx _ kw_1_1) (htx _ kw_3_219) ⟨by decide, by decide, by decide +kernel⟩ ⟨Nat.le_of_ble_eq_true rfl, Nat.le_of_ble_eq_true rfl⟩, (htx _ kw_3_221), (htx _ kp_B_demandDone)⟩ ⟨xPre_blind, va_recv hK hP (ci := 0) rfl (q0 := 0) rfl, (fun U hU hW => ⟨rfl, xPre_of hZ hS hFc hPc hDc hK U hU hW⟩)⟩ rfl rfl hl.1 rfl (lv_room (Nat.le_of_ble_eq_true rfl)) dB_binary_67 ⟨Nat.le_of_ble_eq_true rfl, Nat.le_of_ble_eq_true rfl⟩) hS (fun q _ h => hFc q h) hFc (fun u9 t H1 locs ht hvm hr9 hB hz1 hk1 hS => ?_)
              obtain ⟨hP1, hK1, hD1⟩ := hB
              rw [ht] at hP1
              obtain ⟨hP, hD⟩ := xjoin (W := [(a15, .inr (2, [.ref a16, .int v22, .int v23])), (a16, .inl (cT 2, 4096, .inr (.inl f21))), (a0, .inr (0, [.ref a1, .ref a3, .ref a5, .ref a7, .ref a8, .ref a13, .int v19, .int o23.2])), (a1, .inr (1, [.ref a2, .int v1, .int v2])), (a2, .inl (cT 0, 4096, .inl f0)), (a3, .inr (1, [.ref a4, .int v4, .int v5])), (a4, .inl (cT 0, 4096, .inl f3)), (a5, .inr (1, [.ref a6, .int v7, .int v8])), (a6, .inl (cT 0, 4096, .inl f6)), (a7, .inl (cT 3, 8, .inr (.inr (.inr (.inr rf0))))), (a8, .inr (3, [.ref a9, .ref a10, .ref p11, .ref p13, .int v15])), (a9, .inl (cT 1, 2048, .inl f9)), (a10, .inl (cT 1, 2048, .inl f10)), (p11, .inl (cT 1, 2048, .inl f12)), (p13, .inl (cT 1, 2048, .inl f14)), (a13, .inr (2, [.ref a14, .int o20.2.2.1, .int o20.2.2.2])), (a14, .inl (cT 2, 4096, .inr (.inl o20.2.1)))]) hP hD [0, 1, 2, 3, 4, 5, 6, 7, 8, 9, 10, 11, 12, 15, 16] [13, 14] 2 rfl rfl (by decide) (by decide) hk1 hFc hP1 hD1
              generalize H1 = H at hP hS ⊢
              refine lv_aload_n hx hb dB_binary_70 rfl (lv_at hl 0 rfl) ?_
              refine lv_iload_n hx hb dB_binary_71 rfl (lv_at hl 1 rfl) ?_
              obtain ⟨o26, hq27, hf⟩ := xbind hf
              by_cases hk28 : o26.1 = 0
              · rw [if_pos hk28] at hf
                obtain ⟨hPc, hDc, hFc⟩ := xcut (wc := [(a0, .inr (0, [.ref a1, .ref a3, .ref a5, .ref a7, .ref a8, .ref a13, .int v19, .int o23.2])), (a1, .inr (1, [.ref a2, .int v1, .int v2])), (a2, .inl (cT 0, 4096, .inl f0)), (a3, .inr (1, [.ref a4, .int v4, .int v5])), (a4, .inl (cT 0, 4096, .inl f3)), (a5, .inr (1, [.ref a6, .int v7, .int v8])), (a6, .inl (cT 0, 4096, .inl f6)), (a7, .inl (cT 3, 8, .inr (.inr (.inr (.inr rf0))))), (a8, .inr (3, [.ref a9, .ref a10, .ref p11, .ref p13, .int v15])), (a9, .inl (cT 1, 2048, .inl f9)), (a10, .inl (cT 1, 2048, .inl f10)), (p11, .inl (cT 1, 2048, .inl f12)), (p13, .inl (cT 1, 2048, .inl f14)), (a13, .inr (2, [.ref a14, .int o20.2.2.1, .int o20.2.2.2])), (a14, .inl (cT 2, 4096, .inr (.inl o20.2.1)))]) hP hD hS hA [2, 3, 4, 5, 6, 7, 8, 9, 10, 11, 12, 13, 14, 15, 16] rfl rfl (by decide)
                refine va_calli (va_runV (C := "ValueBench") (As := [.int x1]) (rest := []) ⟨hx, hb, hml, hown, htx⟩ (gB_keepSpare l hl9 D cT aK aV H.size d n a0 a1 a2 a3 a4 a5 a6 a7 a8 a9 a10 a13 a14 rf0 b1 x1 f0 v1 v2 f3 v4 v5 f6 v7 v8 f9 f10 p11 f12 p13 f14 v15 o20.2.1 o20.2.2.1 o20.2.2.2 v19 o23.2 hr1 o26 hq27 hk28) ⟨callB_of 1 htx (xw_goodC kw_3_17) rfl rfl rfl (htx _ kw_1_1) (htx _ kw_3_14) ⟨by decide, by decide, by decide +kernel⟩ ⟨(by show (16 * d + 6) + 1 ≤ 16 * d + 7; omega), (by show 8 + (3 + 11) + (400 * d + 100) ≤ 400 * d + 180; omega)⟩, (htx _ kw_3_16), (htx _ kp_B_keepSpare)⟩ ⟨xPre_blind, va_recv hK hP (ci := 0) rfl (q0 := 2) rfl, (fun U hU hW => ⟨rfl, xPre_of hZ hS hFc hPc hDc hK U hU hW⟩)⟩ rfl rfl hl.1 rfl (lv_room (Nat.le_of_ble_eq_true rfl)) dB_binary_72 ⟨Nat.le_of_ble_eq_true rfl, Nat.le_of_ble_eq_true rfl⟩) hS (fun q _ h => hFc q h) hFc (fun r29 u9 t H1 locs ht hvm hr9 hB hz1 hk1 hS => ?_)
                obtain ⟨hP1, hK1, hD1⟩ := hB
                rw [ht] at hP1
                obtain ⟨hP, hD⟩ := xjoin (W := [(a15, .inr (2, [.ref a16, .int v22, .int v23])), (a16, .inl (cT 2, 4096, .inr (.inl f21))), (a0, .inr (0, [.ref a1, .ref a3, .ref a5, .ref a7, .ref a8, .ref b1, .int v19, .int o23.2])), (a1, .inr (1, [.ref a2, .int v1, .int v2])), (a2, .inl (cT 0, 4096, .inl f0)), (a3, .inr (1, [.ref a4, .int v4, .int v5])), (a4, .inl (cT 0, 4096, .inl f3)), (a5, .inr (1, [.ref a6, .int o26.2.2.2.1, .int o26.2.2.2.2])), (a6, .inl (cT 0, 4096, .inl o26.2.2.1)), (a7, .inl (cT 3, 8, .inr (.inr (.inr (.inr (va_up rf0 x1.toNatClampNeg (some a13))))))), (a8, .inr (3, [.ref a9, .ref a10, .ref p11, .ref p13, .int v15])), (a9, .inl (cT 1, 2048, .inl f9)), (a10, .inl (cT 1, 2048, .inl f10)), (p11, .inl (cT 1, 2048, .inl f12)), (p13, .inl (cT 1, 2048, .inl f14)), (a13, .inr (2, [.ref a14, .int o20.2.2.1, .int o20.2.2.2])), (a14, .inl (cT 2, 4096, .inr (.inl o20.2.1)))]) hP hD [2, 3, 4, 5, 6, 7, 8, 9, 10, 11, 12, 13, 14, 15, 16] [0, 1] 2 rfl rfl (by decide) (by decide) hk1 hFc hP1 hD1
                generalize H1 = H at hP hS ⊢
                rw [hr9]
                refine W.eq (g2 := F0 m 75 ls [.int o26.2.1]) rfl ?_
                refine lv_pop hx hb dB_binary_75 rfl ?_
                obtain rfl := Option.some.inj hf
                exact absurd (show (0 : Nat) = 1 from hkd) (by decide)
              rw [if_neg hk28] at hf
              by_cases hk30 : o26.1 = 1
              · rw [if_pos hk30] at hf
                obtain ⟨hPc, hDc, hFc⟩ := xcut (wc := [(a0, .inr (0, [.ref a1, .ref a3, .ref a5, .ref a7, .ref a8, .ref a13, .int v19, .int o23.2])), (a1, .inr (1, [.ref a2, .int v1, .int v2])), (a2, .inl (cT 0, 4096, .inl f0)), (a3, .inr (1, [.ref a4, .int v4, .int v5])), (a4, .inl (cT 0, 4096, .inl f3)), (a5, .inr (1, [.ref a6, .int v7, .int v8])), (a6, .inl (cT 0, 4096, .inl f6)), (a7, .inl (cT 3, 8, .inr (.inr (.inr (.inr rf0))))), (a8, .inr (3, [.ref a9, .ref a10, .ref p11, .ref p13, .int v15])), (a9, .inl (cT 1, 2048, .inl f9)), (a10, .inl (cT 1, 2048, .inl f10)), (p11, .inl (cT 1, 2048, .inl f12)), (p13, .inl (cT 1, 2048, .inl f14)), (a13, .inr (2, [.ref a14, .int o20.2.2.1, .int o20.2.2.2])), (a14, .inl (cT 2, 4096, .inr (.inl o20.2.1)))]) hP hD hS hA [2, 3, 4, 5, 6, 7, 8, 9, 10, 11, 12, 13, 14, 15, 16] rfl rfl (by decide)
                refine xx_thr (vx_runV (C := "ValueBench") (As := [.int x1]) (rest := []) ⟨hx, hb, hml, hown, htx⟩ (gB_keepSpare_1 l hl9 D cT aK aV H.size d n a0 a1 a2 a3 a4 a5 a6 a7 a8 a9 a10 a13 a14 rf0 b1 x1 f0 v1 v2 f3 v4 v5 f6 v7 v8 f9 f10 p11 f12 p13 f14 v15 o20.2.1 o20.2.2.1 o20.2.2.2 v19 o23.2 hr1 o26 hq27 hk30) ⟨callB_of 1 htx (xw_goodC kw_3_17) rfl rfl rfl (htx _ kw_1_1) (htx _ kw_3_14) ⟨by decide, by decide, by decide +kernel⟩ ⟨(by show (16 * d + 6) + 1 ≤ 16 * d + 7; omega), (by show 8 + (3 + 11) + (400 * d + 100) ≤ 400 * d + 180; omega)⟩, (htx _ kw_3_16), (htx _ kp_B_keepSpare)⟩ ⟨xPre_blind, va_recv hK hP (ci := 0) rfl (q0 := 2) rfl, (fun U hU hW => ⟨rfl, xPre_of hZ hS hFc hPc hDc hK U hU hW⟩)⟩ rfl rfl hl.1 rfl (lv_room (Nat.le_of_ble_eq_true rfl)) dB_binary_72 ⟨Nat.le_of_ble_eq_true rfl, Nat.le_of_ble_eq_true rfl⟩) hS hFc (fun q _ h => hFc q h) (fun E ce q9 u9 t H1 locs ht hvm _ hB hz1 hk1 hS hce hcv hcl => ?_)
                obtain ⟨rfl, hP1, hK1, hD1⟩ := hB
                rw [ht] at hP1
                obtain ⟨hP, hD⟩ := xjoin (W := [(a15, .inr (2, [.ref a16, .int v22, .int v23])), (a16, .inl (cT 2, 4096, .inr (.inl f21))), (a0, .inr (0, [.ref a1, .ref a3, .ref a5, .ref a7, .ref a8, .ref a13, .int v19, .int o23.2])), (a1, .inr (1, [.ref a2, .int v1, .int v2])), (a2, .inl (cT 0, 4096, .inl f0)), (a3, .inr (1, [.ref a4, .int v4, .int v5])), (a4, .inl (cT 0, 4096, .inl f3)), (a5, .inr (1, [.ref a6, .int o26.2.2.2.1, .int o26.2.2.2.2])), (a6, .inl (cT 0, 4096, .inl o26.2.2.1)), (a7, .inl (cT 3, 8, .inr (.inr (.inr (.inr rf0))))), (a8, .inr (3, [.ref a9, .ref a10, .ref p11, .ref p13, .int v15])), (a9, .inl (cT 1, 2048, .inl f9)), (a10, .inl (cT 1, 2048, .inl f10)), (p11, .inl (cT 1, 2048, .inl f12)), (p13, .inl (cT 1, 2048, .inl f14)), (a13, .inr (2, [.ref a14, .int o20.2.2.1, .int o20.2.2.2])), (a14, .inl (cT 2, 4096, .inr (.inl o20.2.1)))]) hP hD [2, 3, 4, 5, 6, 7, 8, 9, 10, 11, 12, 13, 14, 15, 16] [0, 1] 2 rfl rfl (by decide) (by decide) hk1 hFc hP1 hD1
                generalize H1 = H at hP hS hce ⊢
                obtain rfl := Option.some.inj hf
                obtain ⟨hP9, hD9⟩ := xsub (wc := [(a0, .inr (0, [.ref a1, .ref a3, .ref a5, .ref a7, .ref a8, .ref a13, .int v19, .int o23.2])), (a1, .inr (1, [.ref a2, .int v1, .int v2])), (a2, .inl (cT 0, 4096, .inl f0)), (a3, .inr (1, [.ref a4, .int v4, .int v5])), (a4, .inl (cT 0, 4096, .inl f3)), (a5, .inr (1, [.ref a6, .int o26.2.2.2.1, .int o26.2.2.2.2])), (a6, .inl (cT 0, 4096, .inl o26.2.2.1)), (a7, .inl (cT 3, 8, .inr (.inr (.inr (.inr rf0))))), (a8, .inr (3, [.ref a9, .ref a10, .ref p11, .ref p13, .int v15])), (a9, .inl (cT 1, 2048, .inl f9)), (a10, .inl (cT 1, 2048, .inl f10)), (p11, .inl (cT 1, 2048, .inl f12)), (p13, .inl (cT 1, 2048, .inl f14)), (a13, .inr (2, [.ref a14, .int o20.2.2.1, .int o20.2.2.2])), (a14, .inl (cT 2, 4096, .inr (.inl o20.2.1))), (a15, .inr (2, [.ref a16, .int v22, .int v23])), (a16, .inl (cT 2, 4096, .inr (.inl f21)))]) hP hD [2, 3, 4, 5, 6, 7, 8, 9, 10, 11, 12, 13, 14, 15, 16, 0, 1] rfl rfl (by decide)
                exact vx_out (E := "java/lang/IndexOutOfBoundsException") (fun x h => (hne x h).elim) hlocks hce hcv hcl (fun t ht ha => ⟨(), trivial, ⟨rfl, by rw [ht]; exact hP9, va_K.moved ha hK, hD9⟩, hS.F ht⟩) hS.2.2 (Nat.le_of_ble_eq_true rfl) (Nat.le_of_ble_eq_true rfl)
              rw [if_neg hk30] at hf
              exact nomatch hf
            rw [if_neg hk25] at hf
            by_cases hk32 : o23.1 = 1
            · rw [if_pos hk32] at hf
              obtain rfl := Option.some.inj hf
              exact absurd (show (2 : Nat) = 1 from hkd) (by decide)
            rw [if_neg hk32] at hf
            exact nomatch hf
          rw [if_neg hk15] at hf
          by_cases hk33 : o13 = 1
          · rw [if_pos hk33] at hf
            obtain rfl := Option.some.inj hf
            exact absurd (show (3 : Nat) = 1 from hkd) (by decide)
          rw [if_neg hk33] at hf
          exact nomatch hf
set_option maxHeartbeats 400000000 in
set_option maxRecDepth 100000 in
theorem gB_binarya_2 (l : Launch) (hl9 : l.stackTraces = false) (D : va_G) (cT : Nat → ClassId) (aK aV : Nat → Nat) (sz d n : Nat) (a0 : Nat) (a1 : Nat) (a2 : Nat) (a3 : Nat) (a4 : Nat) (a5 : Nat) (a6 : Nat) (a7 : Nat) (a8 : Nat) (a9 : Nat) (a10 : Nat) (a13 : Nat) (a14 : Nat) (a15 : Nat) (a16 : Nat) (rf0 : Nat → Option Nat) (b1 : Nat) (x1 : Int32) (x2 : Int32) (x3 : Int32) (x4 : Int32) (f0 : Nat → Int32) (v1 : Int32) (v2 : Int32) (f3 : Nat → Int32) (v4 : Int32) (v5 : Int32) (f6 : Nat → Int32) (v7 : Int32) (v8 : Int32) (f9 : Nat → Int32) (f10 : Nat → Int32) (p11 : Nat) (f12 : Nat → Int32) (p13 : Nat) (f14 : Nat → Int32) (v15 : Int32) (f16 : Nat → Int64) (v17 : Int32) (v18 : Int32) (v19 : Int32) (v20 : Int32) (f21 : Nat → Int64) (v22 : Int32) (v23 : Int32) (hr1 : ¬ (x1 < 0 ∨ 8 ≤ x1.toNatClampNeg) → rf0 x1.toNatClampNeg = some b1) (hr3 : ¬ (x3 < 0 ∨ 8 ≤ x3.toNatClampNeg) → rf0 x3.toNatClampNeg = some a15) (hr4 : ¬ (x4 < 0 ∨ 8 ≤ x4.toNatClampNeg) → rf0 x4.toNatClampNeg = some a15) (out : Nat × (Nat → Int32) × Int32 × Int32 × (Nat → Int64) × Int32 × Int32 × Int32) (hf : fB_binarya d n x1 x2 x3 x4 f0 v1 v2 f3 v4 v5 f6 v7 v8 f9 f10 p11 f12 p13 f14 v15 f16 v17 v18 v19 v20 f21 v22 v23 = some out) (hkd : out.1 = 2) : xMetX l yB_binary wyB_binary (16 * d + 7) 3 18 (400 * d + 180) D cT aK aV sz [.ref a0, .int x1, .int x2, .int x3, .int x4] [(a0, .inr (0, [.ref a1, .ref a3, .ref a5, .ref a7, .ref a8, .ref a13, .int v19, .int v20])), (a1, .inr (1, [.ref a2, .int v1, .int v2])), (a2, .inl (cT 0, 4096, .inl f0)), (a3, .inr (1, [.ref a4, .int v4, .int v5])), (a4, .inl (cT 0, 4096, .inl f3)), (a5, .inr (1, [.ref a6, .int v7, .int v8])), (a6, .inl (cT 0, 4096, .inl f6)), (a7, .inl (cT 3, 8, .inr (.inr (.inr (.inr rf0))))), (a8, .inr (3, [.ref a9, .ref a10, .ref p11, .ref p13, .int v15])), (a9, .inl (cT 1, 2048, .inl f9)), (a10, .inl (cT 1, 2048, .inl f10)), (p11, .inl (cT 1, 2048, .inl f12)), (p13, .inl (cT 1, 2048, .inl f14)), (a13, .inr (2, [.ref a14, .int v17, .int v18])), (a14, .inl (cT 2, 4096, .inr (.inl f16))), (a15, .inr (2, [.ref a16, .int v22, .int v23])), (a16, .inl (cT 2, 4096, .inr (.inl f21)))] "java/lang/ArithmeticException" (fun A t => xB D xcl cT A [(a0, .inr (0, [.ref a1, .ref a3, .ref a5, .ref a7, .ref a8, .ref a13, .int v19, .int out.2.2.2.2.2.2.2])), (a1, .inr (1, [.ref a2, .int v1, .int v2])), (a2, .inl (cT 0, 4096, .inl f0)), (a3, .inr (1, [.ref a4, .int v4, .int v5])), (a4, .inl (cT 0, 4096, .inl f3)), (a5, .inr (1, [.ref a6, .int out.2.2.1, .int out.2.2.2.1])), (a6, .inl (cT 0, 4096, .inl out.2.1)), (a7, .inl (cT 3, 8, .inr (.inr (.inr (.inr rf0))))), (a8, .inr (3, [.ref a9, .ref a10, .ref p11, .ref p13, .int v15])), (a9, .inl (cT 1, 2048, .inl f9)), (a10, .inl (cT 1, 2048, .inl f10)), (p11, .inl (cT 1, 2048, .inl f12)), (p13, .inl (cT 1, 2048, .inl f14)), (a13, .inr (2, [.ref a14, .int out.2.2.2.2.2.1, .int out.2.2.2.2.2.2.1])), (a14, .inl (cT 2, 4096, .inr (.inl out.2.2.2.2.1))), (a15, .inr (2, [.ref a16, .int v22, .int v23])), (a16, .inl (cT 2, 4096, .inr (.inl f21)))] t) := by
  refine vx_ofW (cc := prog_1_method_6_code) (maxL := 5) (ret := none) (by decide) rfl ?_
  intro p e s m args below meth c s₁ B hml hne hv
  obtain ⟨rfl, hsz, hZ, hP, hK, hD0⟩ := hv
  have hx := B.exec
  have hb := B.bytes
  have hr := B.returns
  have hts := atoms_spec (ws := wyB_binary) B.pre
  have htx := fun w h => hts w (List.mem_cons_of_mem _ h)
  have hown : s.vm.findClass "ValueBench" = some m.cls := findClass_of_methodNamed B.named
  have hlocks := B.notSynchronized
  subst hsz
  have hD := hD0.self (sz := s.heap.size)
  generalize hAe : va_A [(a0, .inr (0, [.ref a1, .ref a3, .ref a5, .ref a7, .ref a8, .ref a13, .int v19, .int v20])), (a1, .inr (1, [.ref a2, .int v1, .int v2])), (a2, .inl (cT 0, 4096, .inl f0)), (a3, .inr (1, [.ref a4, .int v4, .int v5])), (a4, .inl (cT 0, 4096, .inl f3)), (a5, .inr (1, [.ref a6, .int v7, .int v8])), (a6, .inl (cT 0, 4096, .inl f6)), (a7, .inl (cT 3, 8, .inr (.inr (.inr (.inr rf0))))), (a8, .inr (3, [.ref a9, .ref a10, .ref p11, .ref p13, .int v15])), (a9, .inl (cT 1, 2048, .inl f9)), (a10, .inl (cT 1, 2048, .inl f10)), (p11, .inl (cT 1, 2048, .inl f12)), (p13, .inl (cT 1, 2048, .inl f14)), (a13, .inr (2, [.ref a14, .int v17, .int v18])), (a14, .inl (cT 2, 4096, .inr (.inl f16))), (a15, .inr (2, [.ref a16, .int v22, .int v23])), (a16, .inl (cT 2, 4096, .inr (.inl f21)))] s.heap.size = A at hD hZ ⊢
  have hA : ∀ q : Nat, s.heap.size ≤ q → A q := fun q h => by rw [← hAe]; exact Or.inr h
  have hS : va_S A s.heap s.heap [] := va_S.rf
  have hP : va_P D xcl [(a0, .inr (0, [.ref a1, .ref a3, .ref a5, .ref a7, .ref a8, .ref a13, .int v19, .int v20])), (a1, .inr (1, [.ref a2, .int v1, .int v2])), (a2, .inl (cT 0, 4096, .inl f0)), (a3, .inr (1, [.ref a4, .int v4, .int v5])), (a4, .inl (cT 0, 4096, .inl f3)), (a5, .inr (1, [.ref a6, .int v7, .int v8])), (a6, .inl (cT 0, 4096, .inl f6)), (a7, .inl (cT 3, 8, .inr (.inr (.inr (.inr rf0))))), (a8, .inr (3, [.ref a9, .ref a10, .ref p11, .ref p13, .int v15])), (a9, .inl (cT 1, 2048, .inl f9)), (a10, .inl (cT 1, 2048, .inl f10)), (p11, .inl (cT 1, 2048, .inl f12)), (p13, .inl (cT 1, 2048, .inl f14)), (a13, .inr (2, [.ref a14, .int v17, .int v18])), (a14, .inl (cT 2, 4096, .inr (.inl f16))), (a15, .inr (2, [.ref a16, .int v22, .int v23])), (a16, .inl (cT 2, 4096, .inr (.inl f21)))] s.heap := hP
  have hl := lv_entry ([.ref a0, .int x1, .int x2, .int x3, .int x4]) (n := 5) (Nat.le_of_ble_eq_true rfl)
  rw [lg_entry_eq]
  generalize (lg_sl ([.ref a0, .int x1, .int x2, .int x3, .int x4]) ++ List.replicate (5 - (lg_sl ([.ref a0, .int x1, .int x2, .int x3, .int x4])).length) Slot.unset).toArray = ls at hl ⊢
  have hl : lv_has ls 5 [(0, .ref a0), (1, .int x1), (2, .int x2), (3, .int x3), (4, .int x4)] := hl
  unfold fB_binarya at hf
  refine lv_iload_n hx hb dB_binary_0 rfl (lv_at hl 1 rfl) ?_
  obtain ⟨o1, hq2, hf⟩ := xbind hf
  obtain ⟨hPc, hDc, hFc⟩ := xcut (wc := []) hP hD hS hA [] rfl rfl (by decide)
  refine va_calli (va_runS (As := [.int x1]) (rest := []) ⟨hx, hb, hml, hown, htx⟩ (gB_isRegister l hl9 D cT aK aV s.heap.size n x1 o1 hq2) ⟨callB_of 1 htx (xw_goodC kw_2_18) rfl rfl rfl (htx _ kw_1_1) (htx _ kw_2_16) ⟨by decide, by decide, by decide +kernel⟩ ⟨Nat.le_of_ble_eq_true rfl, Nat.le_of_ble_eq_true rfl⟩, htx _ kw_2_17⟩ ⟨xPre_blind, (fun U hU hW => ⟨rfl, xPre_of hZ hS hFc hPc hDc hK U hU hW⟩)⟩ rfl rfl hl.1 rfl (lv_room (Nat.le_of_ble_eq_true rfl)) dB_binary_1 ⟨Nat.le_of_ble_eq_true rfl, Nat.le_of_ble_eq_true rfl⟩) hS (fun q _ h => hFc q h) hFc (fun r3 u9 t H1 locs ht hvm hr9 hB hz1 hk1 hS => ?_)
  obtain ⟨hP1, hK1, hD1⟩ := hB
  rw [ht] at hP1
  obtain ⟨hP, hD⟩ := xjoin (W := [(a0, .inr (0, [.ref a1, .ref a3, .ref a5, .ref a7, .ref a8, .ref a13, .int v19, .int v20])), (a1, .inr (1, [.ref a2, .int v1, .int v2])), (a2, .inl (cT 0, 4096, .inl f0)), (a3, .inr (1, [.ref a4, .int v4, .int v5])), (a4, .inl (cT 0, 4096, .inl f3)), (a5, .inr (1, [.ref a6, .int v7, .int v8])), (a6, .inl (cT 0, 4096, .inl f6)), (a7, .inl (cT 3, 8, .inr (.inr (.inr (.inr rf0))))), (a8, .inr (3, [.ref a9, .ref a10, .ref p11, .ref p13, .int v15])), (a9, .inl (cT 1, 2048, .inl f9)), (a10, .inl (cT 1, 2048, .inl f10)), (p11, .inl (cT 1, 2048, .inl f12)), (p13, .inl (cT 1, 2048, .inl f14)), (a13, .inr (2, [.ref a14, .int v17, .int v18])), (a14, .inl (cT 2, 4096, .inr (.inl f16))), (a15, .inr (2, [.ref a16, .int v22, .int v23])), (a16, .inl (cT 2, 4096, .inr (.inl f21)))]) hP hD [] [0, 1, 2, 3, 4, 5, 6, 7, 8, 9, 10, 11, 12, 13, 14, 15, 16] 17 rfl rfl (by decide) (by decide) hk1 hFc hP1 hD1
  generalize H1 = H at hP hS ⊢
  rw [hr9]
  refine W.eq (g2 := F0 m 4 ls [.int o1]) rfl ?_
  refine lv_if_eq (tgt := 34) hx hb dB_binary_4 (by decide) (fun hc => ?_) (fun hc => ?_)
  · rw [if_pos hc] at hf
    refine lv_iconst (v := 0) hx hb dB_binary_34 (by decide) ?_
    obtain ⟨o4, hq5, hf⟩ := xbind hf
    by_cases hk6 : o4 = 0
    · rw [if_pos hk6] at hf
      obtain ⟨hPc, hDc, hFc⟩ := xcut (wc := []) hP hD hS hA [] rfl rfl (by decide)
      refine va_callv (va_runS (As := [.int 0]) (rest := []) ⟨hx, hb, hml, hown, htx⟩ (gB_demand l hl9 D cT aK aV H.size n (0 : Int32) o4 hq5 hk6) ⟨callB_of 1 htx (xw_goodC kw_1_221) rfl rfl rfl (htx _ kw_1_1) (htx _ kw_1_219) ⟨by decide, by decide, by decide +kernel⟩ ⟨Nat.le_of_ble_eq_true rfl, Nat.le_of_ble_eq_true rfl⟩, htx _ kw_1_220⟩ ⟨xPre_blind, (fun U hU hW => ⟨rfl, xPre_of hZ hS hFc hPc hDc hK U hU hW⟩)⟩ rfl rfl hl.1 rfl (lv_room (Nat.le_of_ble_eq_true rfl)) dB_binary_35 ⟨Nat.le_of_ble_eq_true rfl, Nat.le_of_ble_eq_true rfl⟩) hS (fun q _ h => hFc q h) hFc (fun u9 t H1 locs ht hvm hr9 hB hz1 hk1 hS => ?_)
      obtain ⟨hP1, hK1, hD1⟩ := hB
      rw [ht] at hP1
      obtain ⟨hP, hD⟩ := xjoin (W := [(a0, .inr (0, [.ref a1, .ref a3, .ref a5, .ref a7, .ref a8, .ref a13, .int v19, .int v20])), (a1, .inr (1, [.ref a2, .int v1, .int v2])), (a2, .inl (cT 0, 4096, .inl f0)), (a3, .inr (1, [.ref a4, .int v4, .int v5])), (a4, .inl (cT 0, 4096, .inl f3)), (a5, .inr (1, [.ref a6, .int v7, .int v8])), (a6, .inl (cT 0, 4096, .inl f6)), (a7, .inl (cT 3, 8, .inr (.inr (.inr (.inr rf0))))), (a8, .inr (3, [.ref a9, .ref a10, .ref p11, .ref p13, .int v15])), (a9, .inl (cT 1, 2048, .inl f9)), (a10, .inl (cT 1, 2048, .inl f10)), (p11, .inl (cT 1, 2048, .inl f12)), (p13, .inl (cT 1, 2048, .inl f14)), (a13, .inr (2, [.ref a14, .int v17, .int v18])), (a14, .inl (cT 2, 4096, .inr (.inl f16))), (a15, .inr (2, [.ref a16, .int v22, .int v23])), (a16, .inl (cT 2, 4096, .inr (.inl f21)))]) hP hD [] [0, 1, 2, 3, 4, 5, 6, 7, 8, 9, 10, 11, 12, 13, 14, 15, 16] 17 rfl rfl (by decide) (by decide) hk1 hFc hP1 hD1
      generalize H1 = H at hP hS ⊢
      refine lv_aload_n hx hb dB_binary_38 rfl (lv_at hl 0 rfl) ?_
      refine va_get (D := D) (ci := 0) (v := .ref a13) (C := "ValueBench") (T := TB) (N := 8) hx hb htx inB hown hK hP 0 rfl rfl 5 (by decide) (htx _ kw_1_100) (fun _ h9 => h9) rfl dB_binary_39 ?_
      obtain ⟨o7, hq8, hf⟩ := xbind hf
      obtain ⟨hPc, hDc, hFc⟩ := xcut (wc := [(a13, .inr (2, [.ref a14, .int v17, .int v18])), (a14, .inl (cT 2, 4096, .inr (.inl f16)))]) hP hD hS hA [13, 14] rfl rfl (by decide)
      refine va_callv (va_runV (C := "ValueBench$Row") (As := []) (rest := []) ⟨hx, hb, hml, hown, htx⟩ (gR_clear l hl9 D cT aK aV H.size n a13 a14 f16 v17 v18 o7 hq8) ⟨callB_of 0 htx (xw_goodC kw_2_22) rfl rfl rfl (htx _ kw_1_4) (htx _ kw_2_19) ⟨by decide, by decide, by decide +kernel⟩ ⟨Nat.le_of_ble_eq_true rfl, Nat.le_of_ble_eq_true rfl⟩, (htx _ kw_2_20), (htx _ kw_2_21)⟩ ⟨xPre_blind, va_recv hK hP (ci := 2) rfl (q0 := 13) rfl, (fun U hU hW => ⟨rfl, xPre_of hZ hS hFc hPc hDc hK U hU hW⟩)⟩ rfl rfl hl.1 rfl (lv_room (Nat.le_of_ble_eq_true rfl)) dB_binary_42 ⟨Nat.le_of_ble_eq_true rfl, Nat.le_of_ble_eq_true rfl⟩) hS (fun q _ h => hFc q h) hFc (fun u9 t H1 locs ht hvm hr9 hB hz1 hk1 hS => ?_)
      obtain ⟨hP1, hK1, hD1⟩ := hB
      rw [ht] at hP1
      obtain ⟨hP, hD⟩ := xjoin (W := [(a0, .inr (0, [.ref a1, .ref a3, .ref a5, .ref a7, .ref a8, .ref a13, .int v19, .int v20])), (a1, .inr (1, [.ref a2, .int v1, .int v2])), (a2, .inl (cT 0, 4096, .inl f0)), (a3, .inr (1, [.ref a4, .int v4, .int v5])), (a4, .inl (cT 0, 4096, .inl f3)), (a5, .inr (1, [.ref a6, .int v7, .int v8])), (a6, .inl (cT 0, 4096, .inl f6)), (a7, .inl (cT 3, 8, .inr (.inr (.inr (.inr rf0))))), (a8, .inr (3, [.ref a9, .ref a10, .ref p11, .ref p13, .int v15])), (a9, .inl (cT 1, 2048, .inl f9)), (a10, .inl (cT 1, 2048, .inl f10)), (p11, .inl (cT 1, 2048, .inl f12)), (p13, .inl (cT 1, 2048, .inl f14)), (a15, .inr (2, [.ref a16, .int v22, .int v23])), (a16, .inl (cT 2, 4096, .inr (.inl f21))), (a13, .inr (2, [.ref a14, .int o7.1, .int o7.2])), (a14, .inl (cT 2, 4096, .inr (.inl f16)))]) hP hD [13, 14] [0, 1, 2, 3, 4, 5, 6, 7, 8, 9, 10, 11, 12, 15, 16] 15 rfl rfl (by decide) (by decide) hk1 hFc hP1 hD1
      generalize H1 = H at hP hS ⊢
      refine lv_aload_n hx hb dB_binary_45 rfl (lv_at hl 0 rfl) ?_
      refine lv_iload_n hx hb dB_binary_46 rfl (lv_at hl 2 rfl) ?_
      refine lv_aload_n hx hb dB_binary_47 rfl (lv_at hl 0 rfl) ?_
      refine va_get (D := D) (ci := 0) (v := .ref a7) (C := "ValueBench") (T := TB) (N := 8) hx hb htx inB hown hK hP 0 rfl rfl 3 (by decide) (htx _ kw_1_98) (fun _ h9 => h9) rfl dB_binary_48 ?_
      refine lv_iload_n hx hb dB_binary_51 rfl (lv_at hl 3 rfl) ?_
      obtain ⟨hg9, hf⟩ := xifn hf
      refine va_aldq hx hb hK hP 7 3 rfl rfl hg9 dB_binary_52 ?_
      refine W.eq (g2 := F0 m 53 ls [va_rf (rf0 x3.toNatClampNeg), .int x2, .ref a0]) rfl ?_
      rw [hr3 hg9]
      refine W.eq (g2 := F0 m 53 ls [.ref a15, .int x2, .ref a0]) rfl ?_
      refine lv_aload_n hx hb dB_binary_53 rfl (lv_at hl 0 rfl) ?_
      refine va_get (D := D) (ci := 0) (v := .ref a7) (C := "ValueBench") (T := TB) (N := 8) hx hb htx inB hown hK hP 0 rfl rfl 3 (by decide) (htx _ kw_1_98) (fun _ h9 => h9) rfl dB_binary_54 ?_
      refine lv_iload hx hb dB_binary_57 (lv_at hl 4 rfl) ?_
      obtain ⟨hg10, hf⟩ := xifn hf
      refine va_aldq hx hb hK hP 7 3 rfl rfl hg10 dB_binary_59 ?_
      refine W.eq (g2 := F0 m 60 ls [va_rf (rf0 x4.toNatClampNeg), .ref a15, .int x2, .ref a0]) rfl ?_
      rw [hr4 hg10]
      refine W.eq (g2 := F0 m 60 ls [.ref a15, .ref a15, .int x2, .ref a0]) rfl ?_
      refine lv_aload_n hx hb dB_binary_60 rfl (lv_at hl 0 rfl) ?_
      refine va_get (D := D) (ci := 0) (v := .ref a13) (C := "ValueBench") (T := TB) (N := 8) hx hb htx inB hown hK hP 0 rfl rfl 5 (by decide) (htx _ kw_1_100) (fun _ h9 => h9) rfl dB_binary_61 ?_
      obtain ⟨o11, hq12, hf⟩ := xbind hf
      obtain ⟨hPc, hDc, hFc⟩ := xcut (wc := [(a15, .inr (2, [.ref a16, .int v22, .int v23])), (a16, .inl (cT 2, 4096, .inr (.inl f21))), (a13, .inr (2, [.ref a14, .int o7.1, .int o7.2])), (a14, .inl (cT 2, 4096, .inr (.inl f16)))]) hP hD hS hA [13, 14, 15, 16] rfl rfl (by decide)
      refine va_calli (va_runS (As := [.int x2, .ref a15, .ref a15, .ref a13]) (rest := [.ref a0]) ⟨hx, hb, hml, hown, htx⟩ (gA_applya l hl9 D cT aK aV H.size d n a15 a16 a13 a14 x2 f21 v22 v23 f16 o7.1 o7.2 o11 hq12) ⟨callB_of 4 htx (xw_goodC kw_3_105) rfl rfl rfl (htx _ kw_1_21) (htx _ kw_3_103) ⟨by decide, by decide, by decide +kernel⟩ ⟨(by show (16 * d + 5) + 1 ≤ 16 * d + 7; omega), (by show 8 + (4 + 11) + (400 * d + 157) ≤ 400 * d + 180; omega)⟩, htx _ kw_3_104⟩ ⟨xPre_blind, (fun U hU hW => ⟨rfl, xPre_of hZ hS hFc hPc hDc hK U hU hW⟩)⟩ rfl rfl hl.1 rfl (lv_room (Nat.le_of_ble_eq_true rfl)) dB_binary_64 ⟨Nat.le_of_ble_eq_true rfl, Nat.le_of_ble_eq_true rfl⟩) hS (fun q _ h => hFc q h) hFc (fun r13 u9 t H1 locs ht hvm hr9 hB hz1 hk1 hS => ?_)
      obtain ⟨hP1, hK1, hD1⟩ := hB
      rw [ht] at hP1
      obtain ⟨hP, hD⟩ := xjoin (W := [(a0, .inr (0, [.ref a1, .ref a3, .ref a5, .ref a7, .ref a8, .ref a13, .int v19, .int v20])), (a1, .inr (1, [.ref a2, .int v1, .int v2])), (a2, .inl (cT 0, 4096, .inl f0)), (a3, .inr (1, [.ref a4, .int v4, .int v5])), (a4, .inl (cT 0, 4096, .inl f3)), (a5, .inr (1, [.ref a6, .int v7, .int v8])), (a6, .inl (cT 0, 4096, .inl f6)), (a7, .inl (cT 3, 8, .inr (.inr (.inr (.inr rf0))))), (a8, .inr (3, [.ref a9, .ref a10, .ref p11, .ref p13, .int v15])), (a9, .inl (cT 1, 2048, .inl f9)), (a10, .inl (cT 1, 2048, .inl f10)), (p11, .inl (cT 1, 2048, .inl f12)), (p13, .inl (cT 1, 2048, .inl f14)), (a15, .inr (2, [.ref a16, .int v22, .int v23])), (a16, .inl (cT 2, 4096, .inr (.inl f21))), (a13, .inr (2, [.ref a14, .int o11.2.2.1, .int o11.2.2.2])), (a14, .inl (cT 2, 4096, .inr (.inl o11.2.1)))]) hP hD [13, 14, 15, 16] [0, 1, 2, 3, 4, 5, 6, 7, 8, 9, 10, 11, 12] 13 rfl rfl (by decide) (by decide) hk1 hFc hP1 hD1
      generalize H1 = H at hP hS ⊢
      rw [hr9]
      refine W.eq (g2 := F0 m 67 ls [.int o11.1, .ref a0]) rfl ?_
      obtain ⟨o14, hq15, hf⟩ := xbind hf
      by_cases hk16 : o14.1 = 0
      · rw [if_pos hk16] at hf
        obtain ⟨hPc, hDc, hFc⟩ := xcut (wc := [(a0, .inr (0, [.ref a1, .ref a3, .ref a5, .ref a7, .ref a8, .ref a13, .int v19, .int v20])), (a1, .inr (1, [.ref a2, .int v1, .int v2])), (a2, .inl (cT 0, 4096, .inl f0)), (a3, .inr (1, [.ref a4, .int v4, .int v5])), (a4, .inl (cT 0, 4096, .inl f3)), (a5, .inr (1, [.ref a6, .int v7, .int v8])), (a6, .inl (cT 0, 4096, .inl f6)), (a7, .inl (cT 3, 8, .inr (.inr (.inr (.inr rf0))))), (a8, .inr (3, [.ref a9, .ref a10, .ref p11, .ref p13, .int v15])), (a9, .inl (cT 1, 2048, .inl f9)), (a10, .inl (cT 1, 2048, .inl f10)), (p11, .inl (cT 1, 2048, .inl f12)), (p13, .inl (cT 1, 2048, .inl f14)), (a13, .inr (2, [.ref a14, .int o11.2.2.1, .int o11.2.2.2])), (a14, .inl (cT 2, 4096, .inr (.inl o11.2.1)))]) hP hD hS hA [0, 1, 2, 3, 4, 5, 6, 7, 8, 9, 10, 11, 12, 15, 16] rfl rfl (by decide)
        refine va_callv (va_runV (C := "ValueBench") (As := [.int o11.1]) (rest := []) ⟨hx, hb, hml, hown, htx⟩ (gB_demandDone l hl9 D cT aK aV H.size n a0 a1 a2 a3 a4 a5 a6 a7 a8 a9 a10 a13 a14 rf0 o11.1 f0 v1 v2 f3 v4 v5 f6 v7 v8 f9 f10 p11 f12 p13 f14 v15 o11.2.1 o11.2.2.1 o11.2.2.2 v19 v20 o14 hq15 hk16) ⟨callB_of 1 htx (xw_goodC kw_3_222) rfl rfl rfl (htx _ kw_1_1) (htx _ kw_3_219) ⟨by decide, by decide, by decide +kernel⟩ ⟨Nat.le_of_ble_eq_true rfl, Nat.le_of_ble_eq_true rfl⟩, (htx _ kw_3_221), (htx _ kp_B_demandDone)⟩ ⟨xPre_blind, va_recv hK hP (ci := 0) rfl (q0 := 0) rfl, (fun U hU hW => ⟨rfl, xPre_of hZ hS hFc hPc hDc hK U hU hW⟩)⟩ rfl rfl hl.1 rfl (lv_room (Nat.le_of_ble_eq_true rfl)) dB_binary_67 ⟨Nat.le_of_ble_eq_true rfl, Nat.le_of_ble_eq_true rfl⟩) hS (fun q _ h => hFc q h) hFc (fun u9 t H1 locs ht hvm hr9 hB hz1 hk1 hS => ?_)
        obtain ⟨hP1, hK1, hD1⟩ := hB
        rw [ht] at hP1
        obtain ⟨hP, hD⟩ := xjoin (W := [(a15, .inr (2, [.ref a16, .int v22, .int v23])), (a16, .inl (cT 2, 4096, .inr (.inl f21))), (a0, .inr (0, [.ref a1, .ref a3, .ref a5, .ref a7, .ref a8, .ref a13, .int v19, .int o14.2])), (a1, .inr (1, [.ref a2, .int v1, .int v2])), (a2, .inl (cT 0, 4096, .inl f0)), (a3, .inr (1, [.ref a4, .int v4, .int v5])), (a4, .inl (cT 0, 4096, .inl f3)), (a5, .inr (1, [.ref a6, .int v7, .int v8])), (a6, .inl (cT 0, 4096, .inl f6)), (a7, .inl (cT 3, 8, .inr (.inr (.inr (.inr rf0))))), (a8, .inr (3, [.ref a9, .ref a10, .ref p11, .ref p13, .int v15])), (a9, .inl (cT 1, 2048, .inl f9)), (a10, .inl (cT 1, 2048, .inl f10)), (p11, .inl (cT 1, 2048, .inl f12)), (p13, .inl (cT 1, 2048, .inl f14)), (a13, .inr (2, [.ref a14, .int o11.2.2.1, .int o11.2.2.2])), (a14, .inl (cT 2, 4096, .inr (.inl o11.2.1)))]) hP hD [0, 1, 2, 3, 4, 5, 6, 7, 8, 9, 10, 11, 12, 15, 16] [13, 14] 2 rfl rfl (by decide) (by decide) hk1 hFc hP1 hD1
        generalize H1 = H at hP hS ⊢
        refine lv_aload_n hx hb dB_binary_70 rfl (lv_at hl 0 rfl) ?_
        refine lv_iload_n hx hb dB_binary_71 rfl (lv_at hl 1 rfl) ?_
        obtain ⟨o17, hq18, hf⟩ := xbind hf
        by_cases hk19 : o17.1 = 0
        · rw [if_pos hk19] at hf
          obtain ⟨hPc, hDc, hFc⟩ := xcut (wc := [(a0, .inr (0, [.ref a1, .ref a3, .ref a5, .ref a7, .ref a8, .ref a13, .int v19, .int o14.2])), (a1, .inr (1, [.ref a2, .int v1, .int v2])), (a2, .inl (cT 0, 4096, .inl f0)), (a3, .inr (1, [.ref a4, .int v4, .int v5])), (a4, .inl (cT 0, 4096, .inl f3)), (a5, .inr (1, [.ref a6, .int v7, .int v8])), (a6, .inl (cT 0, 4096, .inl f6)), (a7, .inl (cT 3, 8, .inr (.inr (.inr (.inr rf0))))), (a8, .inr (3, [.ref a9, .ref a10, .ref p11, .ref p13, .int v15])), (a9, .inl (cT 1, 2048, .inl f9)), (a10, .inl (cT 1, 2048, .inl f10)), (p11, .inl (cT 1, 2048, .inl f12)), (p13, .inl (cT 1, 2048, .inl f14)), (a13, .inr (2, [.ref a14, .int o11.2.2.1, .int o11.2.2.2])), (a14, .inl (cT 2, 4096, .inr (.inl o11.2.1)))]) hP hD hS hA [2, 3, 4, 5, 6, 7, 8, 9, 10, 11, 12, 13, 14, 15, 16] rfl rfl (by decide)
          refine va_calli (va_runV (C := "ValueBench") (As := [.int x1]) (rest := []) ⟨hx, hb, hml, hown, htx⟩ (gB_keepSpare l hl9 D cT aK aV H.size d n a0 a1 a2 a3 a4 a5 a6 a7 a8 a9 a10 a13 a14 rf0 b1 x1 f0 v1 v2 f3 v4 v5 f6 v7 v8 f9 f10 p11 f12 p13 f14 v15 o11.2.1 o11.2.2.1 o11.2.2.2 v19 o14.2 hr1 o17 hq18 hk19) ⟨callB_of 1 htx (xw_goodC kw_3_17) rfl rfl rfl (htx _ kw_1_1) (htx _ kw_3_14) ⟨by decide, by decide, by decide +kernel⟩ ⟨(by show (16 * d + 6) + 1 ≤ 16 * d + 7; omega), (by show 8 + (3 + 11) + (400 * d + 100) ≤ 400 * d + 180; omega)⟩, (htx _ kw_3_16), (htx _ kp_B_keepSpare)⟩ ⟨xPre_blind, va_recv hK hP (ci := 0) rfl (q0 := 2) rfl, (fun U hU hW => ⟨rfl, xPre_of hZ hS hFc hPc hDc hK U hU hW⟩)⟩ rfl rfl hl.1 rfl (lv_room (Nat.le_of_ble_eq_true rfl)) dB_binary_72 ⟨Nat.le_of_ble_eq_true rfl, Nat.le_of_ble_eq_true rfl⟩) hS (fun q _ h => hFc q h) hFc (fun r20 u9 t H1 locs ht hvm hr9 hB hz1 hk1 hS => ?_)
          obtain ⟨hP1, hK1, hD1⟩ := hB
          rw [ht] at hP1
          obtain ⟨hP, hD⟩ := xjoin (W := [(a15, .inr (2, [.ref a16, .int v22, .int v23])), (a16, .inl (cT 2, 4096, .inr (.inl f21))), (a0, .inr (0, [.ref a1, .ref a3, .ref a5, .ref a7, .ref a8, .ref b1, .int v19, .int o14.2])), (a1, .inr (1, [.ref a2, .int v1, .int v2])), (a2, .inl (cT 0, 4096, .inl f0)), (a3, .inr (1, [.ref a4, .int v4, .int v5])), (a4, .inl (cT 0, 4096, .inl f3)), (a5, .inr (1, [.ref a6, .int o17.2.2.2.1, .int o17.2.2.2.2])), (a6, .inl (cT 0, 4096, .inl o17.2.2.1)), (a7, .inl (cT 3, 8, .inr (.inr (.inr (.inr (va_up rf0 x1.toNatClampNeg (some a13))))))), (a8, .inr (3, [.ref a9, .ref a10, .ref p11, .ref p13, .int v15])), (a9, .inl (cT 1, 2048, .inl f9)), (a10, .inl (cT 1, 2048, .inl f10)), (p11, .inl (cT 1, 2048, .inl f12)), (p13, .inl (cT 1, 2048, .inl f14)), (a13, .inr (2, [.ref a14, .int o11.2.2.1, .int o11.2.2.2])), (a14, .inl (cT 2, 4096, .inr (.inl o11.2.1)))]) hP hD [2, 3, 4, 5, 6, 7, 8, 9, 10, 11, 12, 13, 14, 15, 16] [0, 1] 2 rfl rfl (by decide) (by decide) hk1 hFc hP1 hD1
          generalize H1 = H at hP hS ⊢
          rw [hr9]
          refine W.eq (g2 := F0 m 75 ls [.int o17.2.1]) rfl ?_
          refine lv_pop hx hb dB_binary_75 rfl ?_
          obtain rfl := Option.some.inj hf
          exact absurd (show (0 : Nat) = 2 from hkd) (by decide)
        rw [if_neg hk19] at hf
        by_cases hk21 : o17.1 = 1
        · rw [if_pos hk21] at hf
          obtain rfl := Option.some.inj hf
          exact absurd (show (1 : Nat) = 2 from hkd) (by decide)
        rw [if_neg hk21] at hf
        exact nomatch hf
      rw [if_neg hk16] at hf
      by_cases hk23 : o14.1 = 1
      · rw [if_pos hk23] at hf
        obtain ⟨hPc, hDc, hFc⟩ := xcut (wc := [(a0, .inr (0, [.ref a1, .ref a3, .ref a5, .ref a7, .ref a8, .ref a13, .int v19, .int v20])), (a1, .inr (1, [.ref a2, .int v1, .int v2])), (a2, .inl (cT 0, 4096, .inl f0)), (a3, .inr (1, [.ref a4, .int v4, .int v5])), (a4, .inl (cT 0, 4096, .inl f3)), (a5, .inr (1, [.ref a6, .int v7, .int v8])), (a6, .inl (cT 0, 4096, .inl f6)), (a7, .inl (cT 3, 8, .inr (.inr (.inr (.inr rf0))))), (a8, .inr (3, [.ref a9, .ref a10, .ref p11, .ref p13, .int v15])), (a9, .inl (cT 1, 2048, .inl f9)), (a10, .inl (cT 1, 2048, .inl f10)), (p11, .inl (cT 1, 2048, .inl f12)), (p13, .inl (cT 1, 2048, .inl f14)), (a13, .inr (2, [.ref a14, .int o11.2.2.1, .int o11.2.2.2])), (a14, .inl (cT 2, 4096, .inr (.inl o11.2.1)))]) hP hD hS hA [0, 1, 2, 3, 4, 5, 6, 7, 8, 9, 10, 11, 12, 15, 16] rfl rfl (by decide)
        refine xx_thr (vx_runV (C := "ValueBench") (As := [.int o11.1]) (rest := []) ⟨hx, hb, hml, hown, htx⟩ (gB_demandDone_1 l hl9 D cT aK aV H.size n a0 a1 a2 a3 a4 a5 a6 a7 a8 a9 a10 a13 a14 rf0 o11.1 f0 v1 v2 f3 v4 v5 f6 v7 v8 f9 f10 p11 f12 p13 f14 v15 o11.2.1 o11.2.2.1 o11.2.2.2 v19 v20 o14 hq15 hk23) ⟨callB_of 1 htx (xw_goodC kw_3_222) rfl rfl rfl (htx _ kw_1_1) (htx _ kw_3_219) ⟨by decide, by decide, by decide +kernel⟩ ⟨Nat.le_of_ble_eq_true rfl, Nat.le_of_ble_eq_true rfl⟩, (htx _ kw_3_221), (htx _ kp_B_demandDone)⟩ ⟨xPre_blind, va_recv hK hP (ci := 0) rfl (q0 := 0) rfl, (fun U hU hW => ⟨rfl, xPre_of hZ hS hFc hPc hDc hK U hU hW⟩)⟩ rfl rfl hl.1 rfl (lv_room (Nat.le_of_ble_eq_true rfl)) dB_binary_67 ⟨Nat.le_of_ble_eq_true rfl, Nat.le_of_ble_eq_true rfl⟩) hS hFc (fun q _ h => hFc q h) (fun E ce q9 u9 t H1 locs ht hvm _ hB hz1 hk1 hS hce hcv hcl => ?_)
        obtain ⟨rfl, hP1, hK1, hD1⟩ := hB
        rw [ht] at hP1
        obtain ⟨hP, hD⟩ := xjoin (W := [(a15, .inr (2, [.ref a16, .int v22, .int v23])), (a16, .inl (cT 2, 4096, .inr (.inl f21))), (a0, .inr (0, [.ref a1, .ref a3, .ref a5, .ref a7, .ref a8, .ref a13, .int v19, .int o14.2])), (a1, .inr (1, [.ref a2, .int v1, .int v2])), (a2, .inl (cT 0, 4096, .inl f0)), (a3, .inr (1, [.ref a4, .int v4, .int v5])), (a4, .inl (cT 0, 4096, .inl f3)), (a5, .inr (1, [.ref a6, .int v7, .int v8])), (a6, .inl (cT 0, 4096, .inl f6)), (a7, .inl (cT 3, 8, .inr (.inr (.inr (.inr rf0))))), (a8, .inr (3, [.ref a9, .ref a10, .ref p11, .ref p13, .int v15])), (a9, .inl (cT 1, 2048, .inl f9)), (a10, .inl (cT 1, 2048, .inl f10)), (p11, .inl (cT 1, 2048, .inl f12)), (p13, .inl (cT 1, 2048, .inl f14)), (a13, .inr (2, [.ref a14, .int o11.2.2.1, .int o11.2.2.2])), (a14, .inl (cT 2, 4096, .inr (.inl o11.2.1)))]) hP hD [0, 1, 2, 3, 4, 5, 6, 7, 8, 9, 10, 11, 12, 15, 16] [13, 14] 2 rfl rfl (by decide) (by decide) hk1 hFc hP1 hD1
        generalize H1 = H at hP hS hce ⊢
        obtain rfl := Option.some.inj hf
        obtain ⟨hP9, hD9⟩ := xsub (wc := [(a0, .inr (0, [.ref a1, .ref a3, .ref a5, .ref a7, .ref a8, .ref a13, .int v19, .int o14.2])), (a1, .inr (1, [.ref a2, .int v1, .int v2])), (a2, .inl (cT 0, 4096, .inl f0)), (a3, .inr (1, [.ref a4, .int v4, .int v5])), (a4, .inl (cT 0, 4096, .inl f3)), (a5, .inr (1, [.ref a6, .int v7, .int v8])), (a6, .inl (cT 0, 4096, .inl f6)), (a7, .inl (cT 3, 8, .inr (.inr (.inr (.inr rf0))))), (a8, .inr (3, [.ref a9, .ref a10, .ref p11, .ref p13, .int v15])), (a9, .inl (cT 1, 2048, .inl f9)), (a10, .inl (cT 1, 2048, .inl f10)), (p11, .inl (cT 1, 2048, .inl f12)), (p13, .inl (cT 1, 2048, .inl f14)), (a13, .inr (2, [.ref a14, .int o11.2.2.1, .int o11.2.2.2])), (a14, .inl (cT 2, 4096, .inr (.inl o11.2.1))), (a15, .inr (2, [.ref a16, .int v22, .int v23])), (a16, .inl (cT 2, 4096, .inr (.inl f21)))]) hP hD [2, 3, 4, 5, 6, 7, 8, 9, 10, 11, 12, 13, 14, 15, 16, 0, 1] rfl rfl (by decide)
        exact vx_out (E := "java/lang/ArithmeticException") (fun x h => (hne x h).elim) hlocks hce hcv hcl (fun t ht ha => ⟨(), trivial, ⟨rfl, by rw [ht]; exact hP9, va_K.moved ha hK, hD9⟩, hS.F ht⟩) hS.2.2 (Nat.le_of_ble_eq_true rfl) (Nat.le_of_ble_eq_true rfl)
      rw [if_neg hk23] at hf
      exact nomatch hf
    rw [if_neg hk6] at hf
    by_cases hk24 : o4 = 1
    · rw [if_pos hk24] at hf
      obtain rfl := Option.some.inj hf
      exact absurd (show (3 : Nat) = 2 from hkd) (by decide)
    rw [if_neg hk24] at hf
    exact nomatch hf
  · rw [if_neg hc] at hf
    refine lv_iload_n hx hb dB_binary_7 rfl (lv_at hl 2 rfl) ?_
    refine lv_iconst (v := 4) hx hb dB_binary_8 (by decide) ?_
    obtain ⟨o4, hq5, hf⟩ := xbind hf
    obtain ⟨hPc, hDc, hFc⟩ := xcut (wc := []) hP hD hS hA [] rfl rfl (by decide)
    refine va_calli (va_runS (As := [.int x2, .int 4]) (rest := []) ⟨hx, hb, hml, hown, htx⟩ (gB_isWithin l hl9 D cT aK aV H.size n x2 (4 : Int32) o4 hq5) ⟨callB_of 2 htx (xw_goodC kw_1_218) rfl rfl rfl (htx _ kw_1_1) (htx _ kw_1_216) ⟨by decide, by decide, by decide +kernel⟩ ⟨Nat.le_of_ble_eq_true rfl, Nat.le_of_ble_eq_true rfl⟩, htx _ kw_1_217⟩ ⟨xPre_blind, (fun U hU hW => ⟨rfl, xPre_of hZ hS hFc hPc hDc hK U hU hW⟩)⟩ rfl rfl hl.1 rfl (lv_room (Nat.le_of_ble_eq_true rfl)) dB_binary_9 ⟨Nat.le_of_ble_eq_true rfl, Nat.le_of_ble_eq_true rfl⟩) hS (fun q _ h => hFc q h) hFc (fun r6 u9 t H1 locs ht hvm hr9 hB hz1 hk1 hS => ?_)
    obtain ⟨hP1, hK1, hD1⟩ := hB
    rw [ht] at hP1
    obtain ⟨hP, hD⟩ := xjoin (W := [(a0, .inr (0, [.ref a1, .ref a3, .ref a5, .ref a7, .ref a8, .ref a13, .int v19, .int v20])), (a1, .inr (1, [.ref a2, .int v1, .int v2])), (a2, .inl (cT 0, 4096, .inl f0)), (a3, .inr (1, [.ref a4, .int v4, .int v5])), (a4, .inl (cT 0, 4096, .inl f3)), (a5, .inr (1, [.ref a6, .int v7, .int v8])), (a6, .inl (cT 0, 4096, .inl f6)), (a7, .inl (cT 3, 8, .inr (.inr (.inr (.inr rf0))))), (a8, .inr (3, [.ref a9, .ref a10, .ref p11, .ref p13, .int v15])), (a9, .inl (cT 1, 2048, .inl f9)), (a10, .inl (cT 1, 2048, .inl f10)), (p11, .inl (cT 1, 2048, .inl f12)), (p13, .inl (cT 1, 2048, .inl f14)), (a13, .inr (2, [.ref a14, .int v17, .int v18])), (a14, .inl (cT 2, 4096, .inr (.inl f16))), (a15, .inr (2, [.ref a16, .int v22, .int v23])), (a16, .inl (cT 2, 4096, .inr (.inl f21)))]) hP hD [] [0, 1, 2, 3, 4, 5, 6, 7, 8, 9, 10, 11, 12, 13, 14, 15, 16] 17 rfl rfl (by decide) (by decide) hk1 hFc hP1 hD1
    generalize H1 = H at hP hS ⊢
    rw [hr9]
    refine W.eq (g2 := F0 m 12 ls [.int o4]) rfl ?_
    refine lv_if_eq (tgt := 34) hx hb dB_binary_12 (by decide) (fun hc => ?_) (fun hc => ?_)
    · rw [if_pos hc] at hf
      refine lv_iconst (v := 0) hx hb dB_binary_34 (by decide) ?_
      obtain ⟨o7, hq8, hf⟩ := xbind hf
      by_cases hk9 : o7 = 0
      · rw [if_pos hk9] at hf
        obtain ⟨hPc, hDc, hFc⟩ := xcut (wc := []) hP hD hS hA [] rfl rfl (by decide)
        refine va_callv (va_runS (As := [.int 0]) (rest := []) ⟨hx, hb, hml, hown, htx⟩ (gB_demand l hl9 D cT aK aV H.size n (0 : Int32) o7 hq8 hk9) ⟨callB_of 1 htx (xw_goodC kw_1_221) rfl rfl rfl (htx _ kw_1_1) (htx _ kw_1_219) ⟨by decide, by decide, by decide +kernel⟩ ⟨Nat.le_of_ble_eq_true rfl, Nat.le_of_ble_eq_true rfl⟩, htx _ kw_1_220⟩ ⟨xPre_blind, (fun U hU hW => ⟨rfl, xPre_of hZ hS hFc hPc hDc hK U hU hW⟩)⟩ rfl rfl hl.1 rfl (lv_room (Nat.le_of_ble_eq_true rfl)) dB_binary_35 ⟨Nat.le_of_ble_eq_true rfl, Nat.le_of_ble_eq_true rfl⟩) hS (fun q _ h => hFc q h) hFc (fun u9 t H1 locs ht hvm hr9 hB hz1 hk1 hS => ?_)
        obtain ⟨hP1, hK1, hD1⟩ := hB
        rw [ht] at hP1
        obtain ⟨hP, hD⟩ := xjoin (W := [(a0, .inr (0, [.ref a1, .ref a3, .ref a5, .ref a7, .ref a8, .ref a13, .int v19, .int v20])), (a1, .inr (1, [.ref a2, .int v1, .int v2])), (a2, .inl (cT 0, 4096, .inl f0)), (a3, .inr (1, [.ref a4, .int v4, .int v5])), (a4, .inl (cT 0, 4096, .inl f3)), (a5, .inr (1, [.ref a6, .int v7, .int v8])), (a6, .inl (cT 0, 4096, .inl f6)), (a7, .inl (cT 3, 8, .inr (.inr (.inr (.inr rf0))))), (a8, .inr (3, [.ref a9, .ref a10, .ref p11, .ref p13, .int v15])), (a9, .inl (cT 1, 2048, .inl f9)), (a10, .inl (cT 1, 2048, .inl f10)), (p11, .inl (cT 1, 2048, .inl f12)), (p13, .inl (cT 1, 2048, .inl f14)), (a13, .inr (2, [.ref a14, .int v17, .int v18])), (a14, .inl (cT 2, 4096, .inr (.inl f16))), (a15, .inr (2, [.ref a16, .int v22, .int v23])), (a16, .inl (cT 2, 4096, .inr (.inl f21)))]) hP hD [] [0, 1, 2, 3, 4, 5, 6, 7, 8, 9, 10, 11, 12, 13, 14, 15, 16] 17 rfl rfl (by decide) (by decide) hk1 hFc hP1 hD1
        generalize H1 = H at hP hS ⊢
        refine lv_aload_n hx hb dB_binary_38 rfl (lv_at hl 0 rfl) ?_
        refine va_get (D := D) (ci := 0) (v := .ref a13) (C := "ValueBench") (T := TB) (N := 8) hx hb htx inB hown hK hP 0 rfl rfl 5 (by decide) (htx _ kw_1_100) (fun _ h9 => h9) rfl dB_binary_39 ?_
        obtain ⟨o10, hq11, hf⟩ := xbind hf
        obtain ⟨hPc, hDc, hFc⟩ := xcut (wc := [(a13, .inr (2, [.ref a14, .int v17, .int v18])), (a14, .inl (cT 2, 4096, .inr (.inl f16)))]) hP hD hS hA [13, 14] rfl rfl (by decide)
        refine va_callv (va_runV (C := "ValueBench$Row") (As := []) (rest := []) ⟨hx, hb, hml, hown, htx⟩ (gR_clear l hl9 D cT aK aV H.size n a13 a14 f16 v17 v18 o10 hq11) ⟨callB_of 0 htx (xw_goodC kw_2_22) rfl rfl rfl (htx _ kw_1_4) (htx _ kw_2_19) ⟨by decide, by decide, by decide +kernel⟩ ⟨Nat.le_of_ble_eq_true rfl, Nat.le_of_ble_eq_true rfl⟩, (htx _ kw_2_20), (htx _ kw_2_21)⟩ ⟨xPre_blind, va_recv hK hP (ci := 2) rfl (q0 := 13) rfl, (fun U hU hW => ⟨rfl, xPre_of hZ hS hFc hPc hDc hK U hU hW⟩)⟩ rfl rfl hl.1 rfl (lv_room (Nat.le_of_ble_eq_true rfl)) dB_binary_42 ⟨Nat.le_of_ble_eq_true rfl, Nat.le_of_ble_eq_true rfl⟩) hS (fun q _ h => hFc q h) hFc (fun u9 t H1 locs ht hvm hr9 hB hz1 hk1 hS => ?_)
        obtain ⟨hP1, hK1, hD1⟩ := hB
        rw [ht] at hP1
        obtain ⟨hP, hD⟩ := xjoin (W := [(a0, .inr (0, [.ref a1, .ref a3, .ref a5, .ref a7, .ref a8, .ref a13, .int v19, .int v20])), (a1, .inr (1, [.ref a2, .int v1, .int v2])), (a2, .inl (cT 0, 4096, .inl f0)), (a3, .inr (1, [.ref a4, .int v4, .int v5])), (a4, .inl (cT 0, 4096, .inl f3)), (a5, .inr (1, [.ref a6, .int v7, .int v8])), (a6, .inl (cT 0, 4096, .inl f6)), (a7, .inl (cT 3, 8, .inr (.inr (.inr (.inr rf0))))), (a8, .inr (3, [.ref a9, .ref a10, .ref p11, .ref p13, .int v15])), (a9, .inl (cT 1, 2048, .inl f9)), (a10, .inl (cT 1, 2048, .inl f10)), (p11, .inl (cT 1, 2048, .inl f12)), (p13, .inl (cT 1, 2048, .inl f14)), (a15, .inr (2, [.ref a16, .int v22, .int v23])), (a16, .inl (cT 2, 4096, .inr (.inl f21))), (a13, .inr (2, [.ref a14, .int o10.1, .int o10.2])), (a14, .inl (cT 2, 4096, .inr (.inl f16)))]) hP hD [13, 14] [0, 1, 2, 3, 4, 5, 6, 7, 8, 9, 10, 11, 12, 15, 16] 15 rfl rfl (by decide) (by decide) hk1 hFc hP1 hD1
        generalize H1 = H at hP hS ⊢
        refine lv_aload_n hx hb dB_binary_45 rfl (lv_at hl 0 rfl) ?_
        refine lv_iload_n hx hb dB_binary_46 rfl (lv_at hl 2 rfl) ?_
        refine lv_aload_n hx hb dB_binary_47 rfl (lv_at hl 0 rfl) ?_
        refine va_get (D := D) (ci := 0) (v := .ref a7) (C := "ValueBench") (T := TB) (N := 8) hx hb htx inB hown hK hP 0 rfl rfl 3 (by decide) (htx _ kw_1_98) (fun _ h9 => h9) rfl dB_binary_48 ?_
        refine lv_iload_n hx hb dB_binary_51 rfl (lv_at hl 3 rfl) ?_
        obtain ⟨hg12, hf⟩ := xifn hf
        refine va_aldq hx hb hK hP 7 3 rfl rfl hg12 dB_binary_52 ?_
        refine W.eq (g2 := F0 m 53 ls [va_rf (rf0 x3.toNatClampNeg), .int x2, .ref a0]) rfl ?_
        rw [hr3 hg12]
        refine W.eq (g2 := F0 m 53 ls [.ref a15, .int x2, .ref a0]) rfl ?_
        refine lv_aload_n hx hb dB_binary_53 rfl (lv_at hl 0 rfl) ?_
        refine va_get (D := D) (ci := 0) (v := .ref a7) (C := "ValueBench") (T := TB) (N := 8) hx hb htx inB hown hK hP 0 rfl rfl 3 (by decide) (htx _ kw_1_98) (fun _ h9 => h9) rfl dB_binary_54 ?_
        refine lv_iload hx hb dB_binary_57 (lv_at hl 4 rfl) ?_
        obtain ⟨hg13, hf⟩ := xifn hf
        refine va_aldq hx hb hK hP 7 3 rfl rfl hg13 dB_binary_59 ?_
        refine W.eq (g2 := F0 m 60 ls [va_rf (rf0 x4.toNatClampNeg), .ref a15, .int x2, .ref a0]) rfl ?_
        rw [hr4 hg13]
        refine W.eq (g2 := F0 m 60 ls [.ref a15, .ref a15, .int x2, .ref a0]) rfl ?_
        refine lv_aload_n hx hb dB_binary_60 rfl (lv_at hl 0 rfl) ?_
        refine va_get (D := D) (ci := 0) (v := .ref a13) (C := "ValueBench") (T := TB) (N := 8) hx hb htx inB hown hK hP 0 rfl rfl 5 (by decide) (htx _ kw_1_100) (fun _ h9 => h9) rfl dB_binary_61 ?_
        obtain ⟨o14, hq15, hf⟩ := xbind hf
        obtain ⟨hPc, hDc, hFc⟩ := xcut (wc := [(a15, .inr (2, [.ref a16, .int v22, .int v23])), (a16, .inl (cT 2, 4096, .inr (.inl f21))), (a13, .inr (2, [.ref a14, .int o10.1, .int o10.2])), (a14, .inl (cT 2, 4096, .inr (.inl f16)))]) hP hD hS hA [13, 14, 15, 16] rfl rfl (by decide)
        refine va_calli (va_runS (As := [.int x2, .ref a15, .ref a15, .ref a13]) (rest := [.ref a0]) ⟨hx, hb, hml, hown, htx⟩ (gA_applya l hl9 D cT aK aV H.size d n a15 a16 a13 a14 x2 f21 v22 v23 f16 o10.1 o10.2 o14 hq15) ⟨callB_of 4 htx (xw_goodC kw_3_105) rfl rfl rfl (htx _ kw_1_21) (htx _ kw_3_103) ⟨by decide, by decide, by decide +kernel⟩ ⟨(by show (16 * d + 5) + 1 ≤ 16 * d + 7; omega), (by show 8 + (4 + 11) + (400 * d + 157) ≤ 400 * d + 180; omega)⟩, htx _ kw_3_104⟩ ⟨xPre_blind, (fun U hU hW => ⟨rfl, xPre_of hZ hS hFc hPc hDc hK U hU hW⟩)⟩ rfl rfl hl.1 rfl (lv_room (Nat.le_of_ble_eq_true rfl)) dB_binary_64 ⟨Nat.le_of_ble_eq_true rfl, Nat.le_of_ble_eq_true rfl⟩) hS (fun q _ h => hFc q h) hFc (fun r16 u9 t H1 locs ht hvm hr9 hB hz1 hk1 hS => ?_)
        obtain ⟨hP1, hK1, hD1⟩ := hB
        rw [ht] at hP1
        obtain ⟨hP, hD⟩ := xjoin (W := [(a0, .inr (0, [.ref a1, .ref a3, .ref a5, .ref a7, .ref a8, .ref a13, .int v19, .int v20])), (a1, .inr (1, [.ref a2, .int v1, .int v2])), (a2, .inl (cT 0, 4096, .inl f0)), (a3, .inr (1, [.ref a4, .int v4, .int v5])), (a4, .inl (cT 0, 4096, .inl f3)), (a5, .inr (1, [.ref a6, .int v7, .int v8])), (a6, .inl (cT 0, 4096, .inl f6)), (a7, .inl (cT 3, 8, .inr (.inr (.inr (.inr rf0))))), (a8, .inr (3, [.ref a9, .ref a10, .ref p11, .ref p13, .int v15])), (a9, .inl (cT 1, 2048, .inl f9)), (a10, .inl (cT 1, 2048, .inl f10)), (p11, .inl (cT 1, 2048, .inl f12)), (p13, .inl (cT 1, 2048, .inl f14)), (a15, .inr (2, [.ref a16, .int v22, .int v23])), (a16, .inl (cT 2, 4096, .inr (.inl f21))), (a13, .inr (2, [.ref a14, .int o14.2.2.1, .int o14.2.2.2])), (a14, .inl (cT 2, 4096, .inr (.inl o14.2.1)))]) hP hD [13, 14, 15, 16] [0, 1, 2, 3, 4, 5, 6, 7, 8, 9, 10, 11, 12] 13 rfl rfl (by decide) (by decide) hk1 hFc hP1 hD1
        generalize H1 = H at hP hS ⊢
        rw [hr9]
        refine W.eq (g2 := F0 m 67 ls [.int o14.1, .ref a0]) rfl ?_
        obtain ⟨o17, hq18, hf⟩ := xbind hf
        by_cases hk19 : o17.1 = 0
        · rw [if_pos hk19] at hf
          obtain ⟨hPc, hDc, hFc⟩ := xcut (wc := [(a0, .inr (0, [.ref a1, .ref a3, .ref a5, .ref a7, .ref a8, .ref a13, .int v19, .int v20])), (a1, .inr (1, [.ref a2, .int v1, .int v2])), (a2, .inl (cT 0, 4096, .inl f0)), (a3, .inr (1, [.ref a4, .int v4, .int v5])), (a4, .inl (cT 0, 4096, .inl f3)), (a5, .inr (1, [.ref a6, .int v7, .int v8])), (a6, .inl (cT 0, 4096, .inl f6)), (a7, .inl (cT 3, 8, .inr (.inr (.inr (.inr rf0))))), (a8, .inr (3, [.ref a9, .ref a10, .ref p11, .ref p13, .int v15])), (a9, .inl (cT 1, 2048, .inl f9)), (a10, .inl (cT 1, 2048, .inl f10)), (p11, .inl (cT 1, 2048, .inl f12)), (p13, .inl (cT 1, 2048, .inl f14)), (a13, .inr (2, [.ref a14, .int o14.2.2.1, .int o14.2.2.2])), (a14, .inl (cT 2, 4096, .inr (.inl o14.2.1)))]) hP hD hS hA [0, 1, 2, 3, 4, 5, 6, 7, 8, 9, 10, 11, 12, 15, 16] rfl rfl (by decide)
          refine va_callv (va_runV (C := "ValueBench") (As := [.int o14.1]) (rest := []) ⟨hx, hb, hml, hown, htx⟩ (gB_demandDone l hl9 D cT aK aV H.size n a0 a1 a2 a3 a4 a5 a6 a7 a8 a9 a10 a13 a14 rf0 o14.1 f0 v1 v2 f3 v4 v5 f6 v7 v8 f9 f10 p11 f12 p13 f14 v15 o14.2.1 o14.2.2.1 o14.2.2.2 v19 v20 o17 hq18 hk19) ⟨callB_of 1 htx (xw_goodC kw_3_222) rfl rfl rfl (htx _ kw_1_1) (htx _ kw_3_219) ⟨by decide, by decide, by decide +kernel⟩ ⟨Nat.le_of_ble_eq_true rfl, Nat.le_of_ble_eq_true rfl⟩, (htx _ kw_3_221), (htx _ kp_B_demandDone)⟩ ⟨xPre_blind, va_recv hK hP (ci := 0) rfl (q0 := 0) rfl, (fun U hU hW => ⟨rfl, xPre_of hZ hS hFc hPc hDc hK U hU hW⟩)⟩ rfl rfl hl.1 rfl (lv_room (Nat.le_of_ble_eq_true rfl)) dB_binary_67 ⟨Nat.le_of_ble_eq_true rfl, Nat.le_of_ble_eq_true rfl⟩) hS (fun q _ h => hFc q h) hFc (fun u9 t H1 locs ht hvm hr9 hB hz1 hk1 hS => ?_)
          obtain ⟨hP1, hK1, hD1⟩ := hB
          rw [ht] at hP1
          obtain ⟨hP, hD⟩ := xjoin (W := [(a15, .inr (2, [.ref a16, .int v22, .int v23])), (a16, .inl (cT 2, 4096, .inr (.inl f21))), (a0, .inr (0, [.ref a1, .ref a3, .ref a5, .ref a7, .ref a8, .ref a13, .int v19, .int o17.2])), (a1, .inr (1, [.ref a2, .int v1, .int v2])), (a2, .inl (cT 0, 4096, .inl f0)), (a3, .inr (1, [.ref a4, .int v4, .int v5])), (a4, .inl (cT 0, 4096, .inl f3)), (a5, .inr (1, [.ref a6, .int v7, .int v8])), (a6, .inl (cT 0, 4096, .inl f6)), (a7, .inl (cT 3, 8, .inr (.inr (.inr (.inr rf0))))), (a8, .inr (3, [.ref a9, .ref a10, .ref p11, .ref p13, .int v15])), (a9, .inl (cT 1, 2048, .inl f9)), (a10, .inl (cT 1, 2048, .inl f10)), (p11, .inl (cT 1, 2048, .inl f12)), (p13, .inl (cT 1, 2048, .inl f14)), (a13, .inr (2, [.ref a14, .int o14.2.2.1, .int o14.2.2.2])), (a14, .inl (cT 2, 4096, .inr (.inl o14.2.1)))]) hP hD [0, 1, 2, 3, 4, 5, 6, 7, 8, 9, 10, 11, 12, 15, 16] [13, 14] 2 rfl rfl (by decide) (by decide) hk1 hFc hP1 hD1
          generalize H1 = H at hP hS ⊢
          refine lv_aload_n hx hb dB_binary_70 rfl (lv_at hl 0 rfl) ?_
          refine lv_iload_n hx hb dB_binary_71 rfl (lv_at hl 1 rfl) ?_
          obtain ⟨o20, hq21, hf⟩ := xbind hf
          by_cases hk22 : o20.1 = 0
          · rw [if_pos hk22] at hf
            obtain ⟨hPc, hDc, hFc⟩ := xcut (wc := [(a0, .inr (0, [.ref a1, .ref a3, .ref a5, .ref a7, .ref a8, .ref a13, .int v19, .int o17.2])), (a1, .inr (1, [.ref a2, .int v1, .int v2])), (a2, .inl (cT 0, 4096, .inl f0)), (a3, .inr (1, [.ref a4, .int v4, .int v5])), (a4, .inl (cT 0, 4096, .inl f3)), (a5, .inr (1, [.ref a6, .int v7, .int v8])), (a6, .inl (cT 0, 4096, .inl f6)), (a7, .inl (cT 3, 8, .inr (.inr (.inr (.inr rf0))))), (a8, .inr (3, [.ref a9, .ref a10, .ref p11, .ref p13, .int v15])), (a9, .inl (cT 1, 2048, .inl f9)), (a10, .inl (cT 1, 2048, .inl f10)), (p11, .inl (cT 1, 2048, .inl f12)), (p13, .inl (cT 1, 2048, .inl f14)), (a13, .inr (2, [.ref a14, .int o14.2.2.1, .int o14.2.2.2])), (a14, .inl (cT 2, 4096, .inr (.inl o14.2.1)))]) hP hD hS hA [2, 3, 4, 5, 6, 7, 8, 9, 10, 11, 12, 13, 14, 15, 16] rfl rfl (by decide)
            refine va_calli (va_runV (C := "ValueBench") (As := [.int x1]) (rest := []) ⟨hx, hb, hml, hown, htx⟩ (gB_keepSpare l hl9 D cT aK aV H.size d n a0 a1 a2 a3 a4 a5 a6 a7 a8 a9 a10 a13 a14 rf0 b1 x1 f0 v1 v2 f3 v4 v5 f6 v7 v8 f9 f10 p11 f12 p13 f14 v15 o14.2.1 o14.2.2.1 o14.2.2.2 v19 o17.2 hr1 o20 hq21 hk22) ⟨callB_of 1 htx (xw_goodC kw_3_17) rfl rfl rfl (htx _ kw_1_1) (htx _ kw_3_14) ⟨by decide, by decide, by decide +kernel⟩ ⟨(by show (16 * d + 6) + 1 ≤ 16 * d + 7; omega), (by show 8 + (3 + 11) + (400 * d + 100) ≤ 400 * d + 180; omega)⟩, (htx _ kw_3_16), (htx _ kp_B_keepSpare)⟩ ⟨xPre_blind, va_recv hK hP (ci := 0) rfl (q0 := 2) rfl, (fun U hU hW => ⟨rfl, xPre_of hZ hS hFc hPc hDc hK U hU hW⟩)⟩ rfl rfl hl.1 rfl (lv_room (Nat.le_of_ble_eq_true rfl)) dB_binary_72 ⟨Nat.le_of_ble_eq_true rfl, Nat.le_of_ble_eq_true rfl⟩) hS (fun q _ h => hFc q h) hFc (fun r23 u9 t H1 locs ht hvm hr9 hB hz1 hk1 hS => ?_)
            obtain ⟨hP1, hK1, hD1⟩ := hB
            rw [ht] at hP1
            obtain ⟨hP, hD⟩ := xjoin (W := [(a15, .inr (2, [.ref a16, .int v22, .int v23])), (a16, .inl (cT 2, 4096, .inr (.inl f21))), (a0, .inr (0, [.ref a1, .ref a3, .ref a5, .ref a7, .ref a8, .ref b1, .int v19, .int o17.2])), (a1, .inr (1, [.ref a2, .int v1, .int v2])), (a2, .inl (cT 0, 4096, .inl f0)), (a3, .inr (1, [.ref a4, .int v4, .int v5])), (a4, .inl (cT 0, 4096, .inl f3)), (a5, .inr (1, [.ref a6, .int o20.2.2.2.1, .int o20.2.2.2.2])), (a6, .inl (cT 0, 4096, .inl o20.2.2.1)), (a7, .inl (cT 3, 8, .inr (.inr (.inr (.inr (va_up rf0 x1.toNatClampNeg (some a13))))))), (a8, .inr (3, [.ref a9, .ref a10, .ref p11, .ref p13, .int v15])), (a9, .inl (cT 1, 2048, .inl f9)), (a10, .inl (cT 1, 2048, .inl f10)), (p11, .inl (cT 1, 2048, .inl f12)), (p13, .inl (cT 1, 2048, .inl f14)), (a13, .inr (2, [.ref a14, .int o14.2.2.1, .int o14.2.2.2])), (a14, .inl (cT 2, 4096, .inr (.inl o14.2.1)))]) hP hD [2, 3, 4, 5, 6, 7, 8, 9, 10, 11, 12, 13, 14, 15, 16] [0, 1] 2 rfl rfl (by decide) (by decide) hk1 hFc hP1 hD1
            generalize H1 = H at hP hS ⊢
            rw [hr9]
            refine W.eq (g2 := F0 m 75 ls [.int o20.2.1]) rfl ?_
            refine lv_pop hx hb dB_binary_75 rfl ?_
            obtain rfl := Option.some.inj hf
            exact absurd (show (0 : Nat) = 2 from hkd) (by decide)
          rw [if_neg hk22] at hf
          by_cases hk24 : o20.1 = 1
          · rw [if_pos hk24] at hf
            obtain rfl := Option.some.inj hf
            exact absurd (show (1 : Nat) = 2 from hkd) (by decide)
          rw [if_neg hk24] at hf
          exact nomatch hf
        rw [if_neg hk19] at hf
        by_cases hk26 : o17.1 = 1
        · rw [if_pos hk26] at hf
          obtain ⟨hPc, hDc, hFc⟩ := xcut (wc := [(a0, .inr (0, [.ref a1, .ref a3, .ref a5, .ref a7, .ref a8, .ref a13, .int v19, .int v20])), (a1, .inr (1, [.ref a2, .int v1, .int v2])), (a2, .inl (cT 0, 4096, .inl f0)), (a3, .inr (1, [.ref a4, .int v4, .int v5])), (a4, .inl (cT 0, 4096, .inl f3)), (a5, .inr (1, [.ref a6, .int v7, .int v8])), (a6, .inl (cT 0, 4096, .inl f6)), (a7, .inl (cT 3, 8, .inr (.inr (.inr (.inr rf0))))), (a8, .inr (3, [.ref a9, .ref a10, .ref p11, .ref p13, .int v15])), (a9, .inl (cT 1, 2048, .inl f9)), (a10, .inl (cT 1, 2048, .inl f10)), (p11, .inl (cT 1, 2048, .inl f12)), (p13, .inl (cT 1, 2048, .inl f14)), (a13, .inr (2, [.ref a14, .int o14.2.2.1, .int o14.2.2.2])), (a14, .inl (cT 2, 4096, .inr (.inl o14.2.1)))]) hP hD hS hA [0, 1, 2, 3, 4, 5, 6, 7, 8, 9, 10, 11, 12, 15, 16] rfl rfl (by decide)
          refine xx_thr (vx_runV (C := "ValueBench") (As := [.int o14.1]) (rest := []) ⟨hx, hb, hml, hown, htx⟩ (gB_demandDone_1 l hl9 D cT aK aV H.size n a0 a1 a2 a3 a4 a5 a6 a7 a8 a9 a10 a13 a14 rf0 o14.1 f0 v1 v2 f3 v4 v5 f6 v7 v8 f9 f10 p11 f12 p13 f14 v15 o14.2.1 o14.2.2.1 o14.2.2.2 v19 v20 o17 hq18 hk26) ⟨callB_of 1 htx (xw_goodC kw_3_222) rfl rfl rfl (htx _ kw_1_1) (htx _ kw_3_219) ⟨by decide, by decide, by decide +kernel⟩ ⟨Nat.le_of_ble_eq_true rfl, Nat.le_of_ble_eq_true rfl⟩, (htx _ kw_3_221), (htx _ kp_B_demandDone)⟩ ⟨xPre_blind, va_recv hK hP (ci := 0) rfl (q0 := 0) rfl, (fun U hU hW => ⟨rfl, xPre_of hZ hS hFc hPc hDc hK U hU hW⟩)⟩ rfl rfl hl.1 rfl (lv_room (Nat.le_of_ble_eq_true rfl)) dB_binary_67 ⟨Nat.le_of_ble_eq_true rfl, Nat.le_of_ble_eq_true rfl⟩) hS hFc (fun q _ h => hFc q h) (fun E ce q9 u9 t H1 locs ht hvm _ hB hz1 hk1 hS hce hcv hcl => ?_)
          obtain ⟨rfl, hP1, hK1, hD1⟩ := hB
          rw [ht] at hP1
          obtain ⟨hP, hD⟩ := xjoin (W := [(a15, .inr (2, [.ref a16, .int v22, .int v23])), (a16, .inl (cT 2, 4096, .inr (.inl f21))), (a0, .inr (0, [.ref a1, .ref a3, .ref a5, .ref a7, .ref a8, .ref a13, .int v19, .int o17.2])), (a1, .inr (1, [.ref a2, .int v1, .int v2])), (a2, .inl (cT 0, 4096, .inl f0)), (a3, .inr (1, [.ref a4, .int v4, .int v5])), (a4, .inl (cT 0, 4096, .inl f3)), (a5, .inr (1, [.ref a6, .int v7, .int v8])), (a6, .inl (cT 0, 4096, .inl f6)), (a7, .inl (cT 3, 8, .inr (.inr (.inr (.inr rf0))))), (a8, .inr (3, [.ref a9, .ref a10, .ref p11, .ref p13, .int v15])), (a9, .inl (cT 1, 2048, .inl f9)), (a10, .inl (cT 1, 2048, .inl f10)), (p11, .inl (cT 1, 2048, .inl f12)), (p13, .inl (cT 1, 2048, .inl f14)), (a13, .inr (2, [.ref a14, .int o14.2.2.1, .int o14.2.2.2])), (a14, .inl (cT 2, 4096, .inr (.inl o14.2.1)))]) hP hD [0, 1, 2, 3, 4, 5, 6, 7, 8, 9, 10, 11, 12, 15, 16] [13, 14] 2 rfl rfl (by decide) (by decide) hk1 hFc hP1 hD1
          generalize H1 = H at hP hS hce ⊢
          obtain rfl := Option.some.inj hf
          obtain ⟨hP9, hD9⟩ := xsub (wc := [(a0, .inr (0, [.ref a1, .ref a3, .ref a5, .ref a7, .ref a8, .ref a13, .int v19, .int o17.2])), (a1, .inr (1, [.ref a2, .int v1, .int v2])), (a2, .inl (cT 0, 4096, .inl f0)), (a3, .inr (1, [.ref a4, .int v4, .int v5])), (a4, .inl (cT 0, 4096, .inl f3)), (a5, .inr (1, [.ref a6, .int v7, .int v8])), (a6, .inl (cT 0, 4096, .inl f6)), (a7, .inl (cT 3, 8, .inr (.inr (.inr (.inr rf0))))), (a8, .inr (3, [.ref a9, .ref a10, .ref p11, .ref p13, .int v15])), (a9, .inl (cT 1, 2048, .inl f9)), (a10, .inl (cT 1, 2048, .inl f10)), (p11, .inl (cT 1, 2048, .inl f12)), (p13, .inl (cT 1, 2048, .inl f14)), (a13, .inr (2, [.ref a14, .int o14.2.2.1, .int o14.2.2.2])), (a14, .inl (cT 2, 4096, .inr (.inl o14.2.1))), (a15, .inr (2, [.ref a16, .int v22, .int v23])), (a16, .inl (cT 2, 4096, .inr (.inl f21)))]) hP hD [2, 3, 4, 5, 6, 7, 8, 9, 10, 11, 12, 13, 14, 15, 16, 0, 1] rfl rfl (by decide)
          exact vx_out (E := "java/lang/ArithmeticException") (fun x h => (hne x h).elim) hlocks hce hcv hcl (fun t ht ha => ⟨(), trivial, ⟨rfl, by rw [ht]; exact hP9, va_K.moved ha hK, hD9⟩, hS.F ht⟩) hS.2.2 (Nat.le_of_ble_eq_true rfl) (Nat.le_of_ble_eq_true rfl)
        rw [if_neg hk26] at hf
        exact nomatch hf
      rw [if_neg hk9] at hf
      by_cases hk27 : o7 = 1
      · rw [if_pos hk27] at hf
        obtain rfl := Option.some.inj hf
        exact absurd (show (3 : Nat) = 2 from hkd) (by decide)
      rw [if_neg hk27] at hf
      exact nomatch hf
    · rw [if_neg hc] at hf
      refine lv_iload_n hx hb dB_binary_15 rfl (lv_at hl 3 rfl) ?_
      obtain ⟨o7, hq8, hf⟩ := xbind hf
      obtain ⟨hPc, hDc, hFc⟩ := xcut (wc := []) hP hD hS hA [] rfl rfl (by decide)
      refine va_calli (va_runS (As := [.int x3]) (rest := []) ⟨hx, hb, hml, hown, htx⟩ (gB_isRegister l hl9 D cT aK aV H.size n x3 o7 hq8) ⟨callB_of 1 htx (xw_goodC kw_2_18) rfl rfl rfl (htx _ kw_1_1) (htx _ kw_2_16) ⟨by decide, by decide, by decide +kernel⟩ ⟨Nat.le_of_ble_eq_true rfl, Nat.le_of_ble_eq_true rfl⟩, htx _ kw_2_17⟩ ⟨xPre_blind, (fun U hU hW => ⟨rfl, xPre_of hZ hS hFc hPc hDc hK U hU hW⟩)⟩ rfl rfl hl.1 rfl (lv_room (Nat.le_of_ble_eq_true rfl)) dB_binary_16 ⟨Nat.le_of_ble_eq_true rfl, Nat.le_of_ble_eq_true rfl⟩) hS (fun q _ h => hFc q h) hFc (fun r9 u9 t H1 locs ht hvm hr9 hB hz1 hk1 hS => ?_)
      obtain ⟨hP1, hK1, hD1⟩ := hB
      rw [ht] at hP1
      obtain ⟨hP, hD⟩ := xjoin (W := [(a0, .inr (0, [.ref a1, .ref a3, .ref a5, .ref a7, .ref a8, .ref a13, .int v19, .int v20])), (a1, .inr (1, [.ref a2, .int v1, .int v2])), (a2, .inl (cT 0, 4096, .inl f0)), (a3, .inr (1, [.ref a4, .int v4, .int v5])), (a4, .inl (cT 0, 4096, .inl f3)), (a5, .inr (1, [.ref a6, .int v7, .int v8])), (a6, .inl (cT 0, 4096, .inl f6)), (a7, .inl (cT 3, 8, .inr (.inr (.inr (.inr rf0))))), (a8, .inr (3, [.ref a9, .ref a10, .ref p11, .ref p13, .int v15])), (a9, .inl (cT 1, 2048, .inl f9)), (a10, .inl (cT 1, 2048, .inl f10)), (p11, .inl (cT 1, 2048, .inl f12)), (p13, .inl (cT 1, 2048, .inl f14)), (a13, .inr (2, [.ref a14, .int v17, .int v18])), (a14, .inl (cT 2, 4096, .inr (.inl f16))), (a15, .inr (2, [.ref a16, .int v22, .int v23])), (a16, .inl (cT 2, 4096, .inr (.inl f21)))]) hP hD [] [0, 1, 2, 3, 4, 5, 6, 7, 8, 9, 10, 11, 12, 13, 14, 15, 16] 17 rfl rfl (by decide) (by decide) hk1 hFc hP1 hD1
      generalize H1 = H at hP hS ⊢
      rw [hr9]
      refine W.eq (g2 := F0 m 19 ls [.int o7]) rfl ?_
      refine lv_if_eq (tgt := 34) hx hb dB_binary_19 (by decide) (fun hc => ?_) (fun hc => ?_)
      · rw [if_pos hc] at hf
        refine lv_iconst (v := 0) hx hb dB_binary_34 (by decide) ?_
        obtain ⟨o10, hq11, hf⟩ := xbind hf
        by_cases hk12 : o10 = 0
        · rw [if_pos hk12] at hf
          obtain ⟨hPc, hDc, hFc⟩ := xcut (wc := []) hP hD hS hA [] rfl rfl (by decide)
          refine va_callv (va_runS (As := [.int 0]) (rest := []) ⟨hx, hb, hml, hown, htx⟩ (gB_demand l hl9 D cT aK aV H.size n (0 : Int32) o10 hq11 hk12) ⟨callB_of 1 htx (xw_goodC kw_1_221) rfl rfl rfl (htx _ kw_1_1) (htx _ kw_1_219) ⟨by decide, by decide, by decide +kernel⟩ ⟨Nat.le_of_ble_eq_true rfl, Nat.le_of_ble_eq_true rfl⟩, htx _ kw_1_220⟩ ⟨xPre_blind, (fun U hU hW => ⟨rfl, xPre_of hZ hS hFc hPc hDc hK U hU hW⟩)⟩ rfl rfl hl.1 rfl (lv_room (Nat.le_of_ble_eq_true rfl)) dB_binary_35 ⟨Nat.le_of_ble_eq_true rfl, Nat.le_of_ble_eq_true rfl⟩) hS (fun q _ h => hFc q h) hFc (fun u9 t H1 locs ht hvm hr9 hB hz1 hk1 hS => ?_)
          obtain ⟨hP1, hK1, hD1⟩ := hB
          rw [ht] at hP1
          obtain ⟨hP, hD⟩ := xjoin (W := [(a0, .inr (0, [.ref a1, .ref a3, .ref a5, .ref a7, .ref a8, .ref a13, .int v19, .int v20])), (a1, .inr (1, [.ref a2, .int v1, .int v2])), (a2, .inl (cT 0, 4096, .inl f0)), (a3, .inr (1, [.ref a4, .int v4, .int v5])), (a4, .inl (cT 0, 4096, .inl f3)), (a5, .inr (1, [.ref a6, .int v7, .int v8])), (a6, .inl (cT 0, 4096, .inl f6)), (a7, .inl (cT 3, 8, .inr (.inr (.inr (.inr rf0))))), (a8, .inr (3, [.ref a9, .ref a10, .ref p11, .ref p13, .int v15])), (a9, .inl (cT 1, 2048, .inl f9)), (a10, .inl (cT 1, 2048, .inl f10)), (p11, .inl (cT 1, 2048, .inl f12)), (p13, .inl (cT 1, 2048, .inl f14)), (a13, .inr (2, [.ref a14, .int v17, .int v18])), (a14, .inl (cT 2, 4096, .inr (.inl f16))), (a15, .inr (2, [.ref a16, .int v22, .int v23])), (a16, .inl (cT 2, 4096, .inr (.inl f21)))]) hP hD [] [0, 1, 2, 3, 4, 5, 6, 7, 8, 9, 10, 11, 12, 13, 14, 15, 16] 17 rfl rfl (by decide) (by decide) hk1 hFc hP1 hD1
          generalize H1 = H at hP hS ⊢
          refine lv_aload_n hx hb dB_binary_38 rfl (lv_at hl 0 rfl) ?_
          refine va_get (D := D) (ci := 0) (v := .ref a13) (C := "ValueBench") (T := TB) (N := 8) hx hb htx inB hown hK hP 0 rfl rfl 5 (by decide) (htx _ kw_1_100) (fun _ h9 => h9) rfl dB_binary_39 ?_
          obtain ⟨o13, hq14, hf⟩ := xbind hf
          obtain ⟨hPc, hDc, hFc⟩ := xcut (wc := [(a13, .inr (2, [.ref a14, .int v17, .int v18])), (a14, .inl (cT 2, 4096, .inr (.inl f16)))]) hP hD hS hA [13, 14] rfl rfl (by decide)
          refine va_callv (va_runV (C := "ValueBench$Row") (As := []) (rest := []) ⟨hx, hb, hml, hown, htx⟩ (gR_clear l hl9 D cT aK aV H.size n a13 a14 f16 v17 v18 o13 hq14) ⟨callB_of 0 htx (xw_goodC kw_2_22) rfl rfl rfl (htx _ kw_1_4) (htx _ kw_2_19) ⟨by decide, by decide, by decide +kernel⟩ ⟨Nat.le_of_ble_eq_true rfl, Nat.le_of_ble_eq_true rfl⟩, (htx _ kw_2_20), (htx _ kw_2_21)⟩ ⟨xPre_blind, va_recv hK hP (ci := 2) rfl (q0 := 13) rfl, (fun U hU hW => ⟨rfl, xPre_of hZ hS hFc hPc hDc hK U hU hW⟩)⟩ rfl rfl hl.1 rfl (lv_room (Nat.le_of_ble_eq_true rfl)) dB_binary_42 ⟨Nat.le_of_ble_eq_true rfl, Nat.le_of_ble_eq_true rfl⟩) hS (fun q _ h => hFc q h) hFc (fun u9 t H1 locs ht hvm hr9 hB hz1 hk1 hS => ?_)
          obtain ⟨hP1, hK1, hD1⟩ := hB
          rw [ht] at hP1
          obtain ⟨hP, hD⟩ := xjoin (W := [(a0, .inr (0, [.ref a1, .ref a3, .ref a5, .ref a7, .ref a8, .ref a13, .int v19, .int v20])), (a1, .inr (1, [.ref a2, .int v1, .int v2])), (a2, .inl (cT 0, 4096, .inl f0)), (a3, .inr (1, [.ref a4, .int v4, .int v5])), (a4, .inl (cT 0, 4096, .inl f3)), (a5, .inr (1, [.ref a6, .int v7, .int v8])), (a6, .inl (cT 0, 4096, .inl f6)), (a7, .inl (cT 3, 8, .inr (.inr (.inr (.inr rf0))))), (a8, .inr (3, [.ref a9, .ref a10, .ref p11, .ref p13, .int v15])), (a9, .inl (cT 1, 2048, .inl f9)), (a10, .inl (cT 1, 2048, .inl f10)), (p11, .inl (cT 1, 2048, .inl f12)), (p13, .inl (cT 1, 2048, .inl f14)), (a15, .inr (2, [.ref a16, .int v22, .int v23])), (a16, .inl (cT 2, 4096, .inr (.inl f21))), (a13, .inr (2, [.ref a14, .int o13.1, .int o13.2])), (a14, .inl (cT 2, 4096, .inr (.inl f16)))]) hP hD [13, 14] [0, 1, 2, 3, 4, 5, 6, 7, 8, 9, 10, 11, 12, 15, 16] 15 rfl rfl (by decide) (by decide) hk1 hFc hP1 hD1
          generalize H1 = H at hP hS ⊢
          refine lv_aload_n hx hb dB_binary_45 rfl (lv_at hl 0 rfl) ?_
          refine lv_iload_n hx hb dB_binary_46 rfl (lv_at hl 2 rfl) ?_
          refine lv_aload_n hx hb dB_binary_47 rfl (lv_at hl 0 rfl) ?_
          refine va_get (D := D) (ci := 0) (v := .ref a7) (C := "ValueBench") (T := TB) (N := 8) hx hb htx inB hown hK hP 0 rfl rfl 3 (by decide) (htx _ kw_1_98) (fun _ h9 => h9) rfl dB_binary_48 ?_
          refine lv_iload_n hx hb dB_binary_51 rfl (lv_at hl 3 rfl) ?_
          obtain ⟨hg15, hf⟩ := xifn hf
          refine va_aldq hx hb hK hP 7 3 rfl rfl hg15 dB_binary_52 ?_
          refine W.eq (g2 := F0 m 53 ls [va_rf (rf0 x3.toNatClampNeg), .int x2, .ref a0]) rfl ?_
          rw [hr3 hg15]
          refine W.eq (g2 := F0 m 53 ls [.ref a15, .int x2, .ref a0]) rfl ?_
          refine lv_aload_n hx hb dB_binary_53 rfl (lv_at hl 0 rfl) ?_
          refine va_get (D := D) (ci := 0) (v := .ref a7) (C := "ValueBench") (T := TB) (N := 8) hx hb htx inB hown hK hP 0 rfl rfl 3 (by decide) (htx _ kw_1_98) (fun _ h9 => h9) rfl dB_binary_54 ?_
          refine lv_iload hx hb dB_binary_57 (lv_at hl 4 rfl) ?_
          obtain ⟨hg16, hf⟩ := xifn hf
          refine va_aldq hx hb hK hP 7 3 rfl rfl hg16 dB_binary_59 ?_
          refine W.eq (g2 := F0 m 60 ls [va_rf (rf0 x4.toNatClampNeg), .ref a15, .int x2, .ref a0]) rfl ?_
          rw [hr4 hg16]
          refine W.eq (g2 := F0 m 60 ls [.ref a15, .ref a15, .int x2, .ref a0]) rfl ?_
          refine lv_aload_n hx hb dB_binary_60 rfl (lv_at hl 0 rfl) ?_
          refine va_get (D := D) (ci := 0) (v := .ref a13) (C := "ValueBench") (T := TB) (N := 8) hx hb htx inB hown hK hP 0 rfl rfl 5 (by decide) (htx _ kw_1_100) (fun _ h9 => h9) rfl dB_binary_61 ?_
          obtain ⟨o17, hq18, hf⟩ := xbind hf
          obtain ⟨hPc, hDc, hFc⟩ := xcut (wc := [(a15, .inr (2, [.ref a16, .int v22, .int v23])), (a16, .inl (cT 2, 4096, .inr (.inl f21))), (a13, .inr (2, [.ref a14, .int o13.1, .int o13.2])), (a14, .inl (cT 2, 4096, .inr (.inl f16)))]) hP hD hS hA [13, 14, 15, 16] rfl rfl (by decide)
          refine va_calli (va_runS (As := [.int x2, .ref a15, .ref a15, .ref a13]) (rest := [.ref a0]) ⟨hx, hb, hml, hown, htx⟩ (gA_applya l hl9 D cT aK aV H.size d n a15 a16 a13 a14 x2 f21 v22 v23 f16 o13.1 o13.2 o17 hq18) ⟨callB_of 4 htx (xw_goodC kw_3_105) rfl rfl rfl (htx _ kw_1_21) (htx _ kw_3_103) ⟨by decide, by decide, by decide +kernel⟩ ⟨(by show (16 * d + 5) + 1 ≤ 16 * d + 7; omega), (by show 8 + (4 + 11) + (400 * d + 157) ≤ 400 * d + 180; omega)⟩, htx _ kw_3_104⟩ ⟨xPre_blind, (fun U hU hW => ⟨rfl, xPre_of hZ hS hFc hPc hDc hK U hU hW⟩)⟩ rfl rfl hl.1 rfl (lv_room (Nat.le_of_ble_eq_true rfl)) dB_binary_64 ⟨Nat.le_of_ble_eq_true rfl, Nat.le_of_ble_eq_true rfl⟩) hS (fun q _ h => hFc q h) hFc (fun r19 u9 t H1 locs ht hvm hr9 hB hz1 hk1 hS => ?_)
          obtain ⟨hP1, hK1, hD1⟩ := hB
          rw [ht] at hP1
          obtain ⟨hP, hD⟩ := xjoin (W := [(a0, .inr (0, [.ref a1, .ref a3, .ref a5, .ref a7, .ref a8, .ref a13, .int v19, .int v20])), (a1, .inr (1, [.ref a2, .int v1, .int v2])), (a2, .inl (cT 0, 4096, .inl f0)), (a3, .inr (1, [.ref a4, .int v4, .int v5])), (a4, .inl (cT 0, 4096, .inl f3)), (a5, .inr (1, [.ref a6, .int v7, .int v8])), (a6, .inl (cT 0, 4096, .inl f6)), (a7, .inl (cT 3, 8, .inr (.inr (.inr (.inr rf0))))), (a8, .inr (3, [.ref a9, .ref a10, .ref p11, .ref p13, .int v15])), (a9, .inl (cT 1, 2048, .inl f9)), (a10, .inl (cT 1, 2048, .inl f10)), (p11, .inl (cT 1, 2048, .inl f12)), (p13, .inl (cT 1, 2048, .inl f14)), (a15, .inr (2, [.ref a16, .int v22, .int v23])), (a16, .inl (cT 2, 4096, .inr (.inl f21))), (a13, .inr (2, [.ref a14, .int o17.2.2.1, .int o17.2.2.2])), (a14, .inl (cT 2, 4096, .inr (.inl o17.2.1)))]) hP hD [13, 14, 15, 16] [0, 1, 2, 3, 4, 5, 6, 7, 8, 9, 10, 11, 12] 13 rfl rfl (by decide) (by decide) hk1 hFc hP1 hD1
          generalize H1 = H at hP hS ⊢
          rw [hr9]
          refine W.eq (g2 := F0 m 67 ls [.int o17.1, .ref a0]) rfl ?_
          obtain ⟨o20, hq21, hf⟩ := xbind hf
          by_cases hk22 : o20.1 = 0
          · rw [if_pos hk22] at hf
            obtain ⟨hPc, hDc, hFc⟩ := xcut (wc := [(a0, .inr (0, [.ref a1, .ref a3, .ref a5, .ref a7, .ref a8, .ref a13, .int v19, .int v20])), (a1, .inr (1, [.ref a2, .int v1, .int v2])), (a2, .inl (cT 0, 4096, .inl f0)), (a3, .inr (1, [.ref a4, .int v4, .int v5])), (a4, .inl (cT 0, 4096, .inl f3)), (a5, .inr (1, [.ref a6, .int v7, .int v8])), (a6, .inl (cT 0, 4096, .inl f6)), (a7, .inl (cT 3, 8, .inr (.inr (.inr (.inr rf0))))), (a8, .inr (3, [.ref a9, .ref a10, .ref p11, .ref p13, .int v15])), (a9, .inl (cT 1, 2048, .inl f9)), (a10, .inl (cT 1, 2048, .inl f10)), (p11, .inl (cT 1, 2048, .inl f12)), (p13, .inl (cT 1, 2048, .inl f14)), (a13, .inr (2, [.ref a14, .int o17.2.2.1, .int o17.2.2.2])), (a14, .inl (cT 2, 4096, .inr (.inl o17.2.1)))]) hP hD hS hA [0, 1, 2, 3, 4, 5, 6, 7, 8, 9, 10, 11, 12, 15, 16] rfl rfl (by decide)
            refine va_callv (va_runV (C := "ValueBench") (As := [.int o17.1]) (rest := []) ⟨hx, hb, hml, hown, htx⟩ (gB_demandDone l hl9 D cT aK aV H.size n a0 a1 a2 a3 a4 a5 a6 a7 a8 a9 a10 a13 a14 rf0 o17.1 f0 v1 v2 f3 v4 v5 f6 v7 v8 f9 f10 p11 f12 p13 f14 v15 o17.2.1 o17.2.2.1 o17.2.2.2 v19 v20 o20 hq21 hk22) ⟨callB_of 1 htx (xw_goodC kw_3_222) rfl rfl rfl (htx _ kw_1_1) (htx _ kw_3_219) ⟨by decide, by decide, by decide +kernel⟩ ⟨Nat.le_of_ble_eq_true rfl, Nat.le_of_ble_eq_true rfl⟩, (htx _ kw_3_221), (htx _ kp_B_demandDone)⟩ ⟨xPre_blind, va_recv hK hP (ci := 0) rfl (q0 := 0) rfl, (fun U hU hW => ⟨rfl, xPre_of hZ hS hFc hPc hDc hK U hU hW⟩)⟩ rfl rfl hl.1 rfl (lv_room (Nat.le_of_ble_eq_true rfl)) dB_binary_67 ⟨Nat.le_of_ble_eq_true rfl, Nat.le_of_ble_eq_true rfl⟩) hS (fun q _ h => hFc q h) hFc (fun u9 t H1 locs ht hvm hr9 hB hz1 hk1 hS => ?_)
            obtain ⟨hP1, hK1, hD1⟩ := hB
            rw [ht] at hP1
            obtain ⟨hP, hD⟩ := xjoin (W := [(a15, .inr (2, [.ref a16, .int v22, .int v23])), (a16, .inl (cT 2, 4096, .inr (.inl f21))), (a0, .inr (0, [.ref a1, .ref a3, .ref a5, .ref a7, .ref a8, .ref a13, .int v19, .int o20.2])), (a1, .inr (1, [.ref a2, .int v1, .int v2])), (a2, .inl (cT 0, 4096, .inl f0)), (a3, .inr (1, [.ref a4, .int v4, .int v5])), (a4, .inl (cT 0, 4096, .inl f3)), (a5, .inr (1, [.ref a6, .int v7, .int v8])), (a6, .inl (cT 0, 4096, .inl f6)), (a7, .inl (cT 3, 8, .inr (.inr (.inr (.inr rf0))))), (a8, .inr (3, [.ref a9, .ref a10, .ref p11, .ref p13, .int v15])), (a9, .inl (cT 1, 2048, .inl f9)), (a10, .inl (cT 1, 2048, .inl f10)), (p11, .inl (cT 1, 2048, .inl f12)), (p13, .inl (cT 1, 2048, .inl f14)), (a13, .inr (2, [.ref a14, .int o17.2.2.1, .int o17.2.2.2])), (a14, .inl (cT 2, 4096, .inr (.inl o17.2.1)))]) hP hD [0, 1, 2, 3, 4, 5, 6, 7, 8, 9, 10, 11, 12, 15, 16] [13, 14] 2 rfl rfl (by decide) (by decide) hk1 hFc hP1 hD1
            generalize H1 = H at hP hS ⊢
            refine lv_aload_n hx hb dB_binary_70 rfl (lv_at hl 0 rfl) ?_
            refine lv_iload_n hx hb dB_binary_71 rfl (lv_at hl 1 rfl) ?_
            obtain ⟨o23, hq24, hf⟩ := xbind hf
            by_cases hk25 : o23.1 = 0
            · rw [if_pos hk25] at hf
              obtain ⟨hPc, hDc, hFc⟩ := xcut (wc := [(a0, .inr (0, [.ref a1, .ref a3, .ref a5, .ref a7, .ref a8, .ref a13, .int v19, .int o20.2])), (a1, .inr (1, [.ref a2, .int v1, .int v2])), (a2, .inl (cT 0, 4096, .inl f0)), (a3, .inr (1, [.ref a4, .int v4, .int v5])), (a4, .inl (cT 0, 4096, .inl f3)), (a5, .inr (1, [.ref a6, .int v7, .int v8])), (a6, .inl (cT 0, 4096, .inl f6)), (a7, .inl (cT 3, 8, .inr (.inr (.inr (.inr rf0))))), (a8, .inr (3, [.ref a9, .ref a10, .ref p11, .ref p13, .int v15])), (a9, .inl (cT 1, 2048, .inl f9)), (a10, .inl (cT 1, 2048, .inl f10)), (p11, .inl (cT 1, 2048, .inl f12)), (p13, .inl (cT 1, 2048, .inl f14)), (a13, .inr (2, [.ref a14, .int o17.2.2.1, .int o17.2.2.2])), (a14, .inl (cT 2, 4096, .inr (.inl o17.2.1)))]) hP hD hS hA [2, 3, 4, 5, 6, 7, 8, 9, 10, 11, 12, 13, 14, 15, 16] rfl rfl (by decide)
              refine va_calli (va_runV (C := "ValueBench") (As := [.int x1]) (rest := []) ⟨hx, hb, hml, hown, htx⟩ (gB_keepSpare l hl9 D cT aK aV H.size d n a0 a1 a2 a3 a4 a5 a6 a7 a8 a9 a10 a13 a14 rf0 b1 x1 f0 v1 v2 f3 v4 v5 f6 v7 v8 f9 f10 p11 f12 p13 f14 v15 o17.2.1 o17.2.2.1 o17.2.2.2 v19 o20.2 hr1 o23 hq24 hk25) ⟨callB_of 1 htx (xw_goodC kw_3_17) rfl rfl rfl (htx _ kw_1_1) (htx _ kw_3_14) ⟨by decide, by decide, by decide +kernel⟩ ⟨(by show (16 * d + 6) + 1 ≤ 16 * d + 7; omega), (by show 8 + (3 + 11) + (400 * d + 100) ≤ 400 * d + 180; omega)⟩, (htx _ kw_3_16), (htx _ kp_B_keepSpare)⟩ ⟨xPre_blind, va_recv hK hP (ci := 0) rfl (q0 := 2) rfl, (fun U hU hW => ⟨rfl, xPre_of hZ hS hFc hPc hDc hK U hU hW⟩)⟩ rfl rfl hl.1 rfl (lv_room (Nat.le_of_ble_eq_true rfl)) dB_binary_72 ⟨Nat.le_of_ble_eq_true rfl, Nat.le_of_ble_eq_true rfl⟩) hS (fun q _ h => hFc q h) hFc (fun r26 u9 t H1 locs ht hvm hr9 hB hz1 hk1 hS => ?_)
              obtain ⟨hP1, hK1, hD1⟩ := hB
              rw [ht] at hP1
              obtain ⟨hP, hD⟩ := xjoin (W := [(a15, .inr (2, [.ref a16, .int v22, .int v23])), (a16, .inl (cT 2, 4096, .inr (.inl f21))), (a0, .inr (0, [.ref a1, .ref a3, .ref a5, .ref a7, .ref a8, .ref b1, .int v19, .int o20.2])), (a1, .inr (1, [.ref a2, .int v1, .int v2])), (a2, .inl (cT 0, 4096, .inl f0)), (a3, .inr (1, [.ref a4, .int v4, .int v5])), (a4, .inl (cT 0, 4096, .inl f3)), (a5, .inr (1, [.ref a6, .int o23.2.2.2.1, .int o23.2.2.2.2])), (a6, .inl (cT 0, 4096, .inl o23.2.2.1)), (a7, .inl (cT 3, 8, .inr (.inr (.inr (.inr (va_up rf0 x1.toNatClampNeg (some a13))))))), (a8, .inr (3, [.ref a9, .ref a10, .ref p11, .ref p13, .int v15])), (a9, .inl (cT 1, 2048, .inl f9)), (a10, .inl (cT 1, 2048, .inl f10)), (p11, .inl (cT 1, 2048, .inl f12)), (p13, .inl (cT 1, 2048, .inl f14)), (a13, .inr (2, [.ref a14, .int o17.2.2.1, .int o17.2.2.2])), (a14, .inl (cT 2, 4096, .inr (.inl o17.2.1)))]) hP hD [2, 3, 4, 5, 6, 7, 8, 9, 10, 11, 12, 13, 14, 15, 16] [0, 1] 2 rfl rfl (by decide) (by decide) hk1 hFc hP1 hD1
              generalize H1 = H at hP hS ⊢
              rw [hr9]
              refine W.eq (g2 := F0 m 75 ls [.int o23.2.1]) rfl ?_
              refine lv_pop hx hb dB_binary_75 rfl ?_
              obtain rfl := Option.some.inj hf
              exact absurd (show (0 : Nat) = 2 from hkd) (by decide)
            rw [if_neg hk25] at hf
            by_cases hk27 : o23.1 = 1
            · rw [if_pos hk27] at hf
              obtain rfl := Option.some.inj hf
              exact absurd (show (1 : Nat) = 2 from hkd) (by decide)
            rw [if_neg hk27] at hf
            exact nomatch hf
          rw [if_neg hk22] at hf
          by_cases hk29 : o20.1 = 1
          · rw [if_pos hk29] at hf
            obtain ⟨hPc, hDc, hFc⟩ := xcut (wc := [(a0, .inr (0, [.ref a1, .ref a3, .ref a5, .ref a7, .ref a8, .ref a13, .int v19, .int v20])), (a1, .inr (1, [.ref a2, .int v1, .int v2])), (a2, .inl (cT 0, 4096, .inl f0)), (a3, .inr (1, [.ref a4, .int v4, .int v5])), (a4, .inl (cT 0, 4096, .inl f3)), (a5, .inr (1, [.ref a6, .int v7, .int v8])), (a6, .inl (cT 0, 4096, .inl f6)), (a7, .inl (cT 3, 8, .inr (.inr (.inr (.inr rf0))))), (a8, .inr (3, [.ref a9, .ref a10, .ref p11, .ref p13, .int v15])), (a9, .inl (cT 1, 2048, .inl f9)), (a10, .inl (cT 1, 2048, .inl f10)), (p11, .inl (cT 1, 2048, .inl f12)), (p13, .inl (cT 1, 2048, .inl f14)), (a13, .inr (2, [.ref a14, .int o17.2.2.1, .int o17.2.2.2])), (a14, .inl (cT 2, 4096, .inr (.inl o17.2.1)))]) hP hD hS hA [0, 1, 2, 3, 4, 5, 6, 7, 8, 9, 10, 11, 12, 15, 16] rfl rfl (by decide)
            refine xx_thr (vx_runV (C := "ValueBench") (As := [.int o17.1]) (rest := []) ⟨hx, hb, hml, hown, htx⟩ (gB_demandDone_1 l hl9 D cT aK aV H.size n a0 a1 a2 a3 a4 a5 a6 a7 a8 a9 a10 a13 a14 rf0 o17.1 f0 v1 v2 f3 v4 v5 f6 v7 v8 f9 f10 p11 f12 p13 f14 v15 o17.2.1 o17.2.2.1 o17.2.2.2 v19 v20 o20 hq21 hk29) ⟨callB_of 1 htx (xw_goodC kw_3_222) rfl rfl rfl (htx _ kw_1_1) (htx _ kw_3_219) ⟨by decide, by decide, by decide +kernel⟩ ⟨Nat.le_of_ble_eq_true rfl, Nat.le_of_ble_eq_true rfl⟩, (htx _ kw_3_221), (htx _ kp_B_demandDone)⟩ ⟨xPre_blind, va_recv hK hP (ci := 0) rfl (q0 := 0) rfl, (fun U hU hW => ⟨rfl, xPre_of hZ hS hFc hPc hDc hK U hU hW⟩)⟩ rfl rfl hl.1 rfl (lv_room (Nat.le_of_ble_eq_true rfl)) dB_binary_67 ⟨Nat.le_of_ble_eq_true rfl, Nat.le_of_ble_eq_true rfl⟩) hS hFc (fun q _ h => hFc q h) (fun E ce q9 u9 t H1 locs ht hvm _ hB hz1 hk1 hS hce hcv hcl => ?_)
            obtain ⟨rfl, hP1, hK1, hD1⟩ := hB
            rw [ht] at hP1
            obtain ⟨hP, hD⟩ := xjoin (W := [(a15, .inr (2, [.ref a16, .int v22, .int v23])), (a16, .inl (cT 2, 4096, .inr (.inl f21))), (a0, .inr (0, [.ref a1, .ref a3, .ref a5, .ref a7, .ref a8, .ref a13, .int v19, .int o20.2])), (a1, .inr (1, [.ref a2, .int v1, .int v2])), (a2, .inl (cT 0, 4096, .inl f0)), (a3, .inr (1, [.ref a4, .int v4, .int v5])), (a4, .inl (cT 0, 4096, .inl f3)), (a5, .inr (1, [.ref a6, .int v7, .int v8])), (a6, .inl (cT 0, 4096, .inl f6)), (a7, .inl (cT 3, 8, .inr (.inr (.inr (.inr rf0))))), (a8, .inr (3, [.ref a9, .ref a10, .ref p11, .ref p13, .int v15])), (a9, .inl (cT 1, 2048, .inl f9)), (a10, .inl (cT 1, 2048, .inl f10)), (p11, .inl (cT 1, 2048, .inl f12)), (p13, .inl (cT 1, 2048, .inl f14)), (a13, .inr (2, [.ref a14, .int o17.2.2.1, .int o17.2.2.2])), (a14, .inl (cT 2, 4096, .inr (.inl o17.2.1)))]) hP hD [0, 1, 2, 3, 4, 5, 6, 7, 8, 9, 10, 11, 12, 15, 16] [13, 14] 2 rfl rfl (by decide) (by decide) hk1 hFc hP1 hD1
            generalize H1 = H at hP hS hce ⊢
            obtain rfl := Option.some.inj hf
            obtain ⟨hP9, hD9⟩ := xsub (wc := [(a0, .inr (0, [.ref a1, .ref a3, .ref a5, .ref a7, .ref a8, .ref a13, .int v19, .int o20.2])), (a1, .inr (1, [.ref a2, .int v1, .int v2])), (a2, .inl (cT 0, 4096, .inl f0)), (a3, .inr (1, [.ref a4, .int v4, .int v5])), (a4, .inl (cT 0, 4096, .inl f3)), (a5, .inr (1, [.ref a6, .int v7, .int v8])), (a6, .inl (cT 0, 4096, .inl f6)), (a7, .inl (cT 3, 8, .inr (.inr (.inr (.inr rf0))))), (a8, .inr (3, [.ref a9, .ref a10, .ref p11, .ref p13, .int v15])), (a9, .inl (cT 1, 2048, .inl f9)), (a10, .inl (cT 1, 2048, .inl f10)), (p11, .inl (cT 1, 2048, .inl f12)), (p13, .inl (cT 1, 2048, .inl f14)), (a13, .inr (2, [.ref a14, .int o17.2.2.1, .int o17.2.2.2])), (a14, .inl (cT 2, 4096, .inr (.inl o17.2.1))), (a15, .inr (2, [.ref a16, .int v22, .int v23])), (a16, .inl (cT 2, 4096, .inr (.inl f21)))]) hP hD [2, 3, 4, 5, 6, 7, 8, 9, 10, 11, 12, 13, 14, 15, 16, 0, 1] rfl rfl (by decide)
            exact vx_out (E := "java/lang/ArithmeticException") (fun x h => (hne x h).elim) hlocks hce hcv hcl (fun t ht ha => ⟨(), trivial, ⟨rfl, by rw [ht]; exact hP9, va_K.moved ha hK, hD9⟩, hS.F ht⟩) hS.2.2 (Nat.le_of_ble_eq_true rfl) (Nat.le_of_ble_eq_true rfl)
          rw [if_neg hk29] at hf
          exact nomatch hf
        rw [if_neg hk12] at hf
        by_cases hk30 : o10 = 1
        · rw [if_pos hk30] at hf
          obtain rfl := Option.some.inj hf
          exact absurd (show (3 : Nat) = 2 from hkd) (by decide)
        rw [if_neg hk30] at hf
        exact nomatch hf
      · rw [if_neg hc] at hf
        refine lv_iload hx hb dB_binary_22 (lv_at hl 4 rfl) ?_
        obtain ⟨o10, hq11, hf⟩ := xbind hf
        obtain ⟨hPc, hDc, hFc⟩ := xcut (wc := []) hP hD hS hA [] rfl rfl (by decide)
        refine va_calli (va_runS (As := [.int x4]) (rest := []) ⟨hx, hb, hml, hown, htx⟩ (gB_isRegister l hl9 D cT aK aV H.size n x4 o10 hq11) ⟨callB_of 1 htx (xw_goodC kw_2_18) rfl rfl rfl (htx _ kw_1_1) (htx _ kw_2_16) ⟨by decide, by decide, by decide +kernel⟩ ⟨Nat.le_of_ble_eq_true rfl, Nat.le_of_ble_eq_true rfl⟩, htx _ kw_2_17⟩ ⟨xPre_blind, (fun U hU hW => ⟨rfl, xPre_of hZ hS hFc hPc hDc hK U hU hW⟩)⟩ rfl rfl hl.1 rfl (lv_room (Nat.le_of_ble_eq_true rfl)) dB_binary_24 ⟨Nat.le_of_ble_eq_true rfl, Nat.le_of_ble_eq_true rfl⟩) hS (fun q _ h => hFc q h) hFc (fun r12 u9 t H1 locs ht hvm hr9 hB hz1 hk1 hS => ?_)
        obtain ⟨hP1, hK1, hD1⟩ := hB
        rw [ht] at hP1
        obtain ⟨hP, hD⟩ := xjoin (W := [(a0, .inr (0, [.ref a1, .ref a3, .ref a5, .ref a7, .ref a8, .ref a13, .int v19, .int v20])), (a1, .inr (1, [.ref a2, .int v1, .int v2])), (a2, .inl (cT 0, 4096, .inl f0)), (a3, .inr (1, [.ref a4, .int v4, .int v5])), (a4, .inl (cT 0, 4096, .inl f3)), (a5, .inr (1, [.ref a6, .int v7, .int v8])), (a6, .inl (cT 0, 4096, .inl f6)), (a7, .inl (cT 3, 8, .inr (.inr (.inr (.inr rf0))))), (a8, .inr (3, [.ref a9, .ref a10, .ref p11, .ref p13, .int v15])), (a9, .inl (cT 1, 2048, .inl f9)), (a10, .inl (cT 1, 2048, .inl f10)), (p11, .inl (cT 1, 2048, .inl f12)), (p13, .inl (cT 1, 2048, .inl f14)), (a13, .inr (2, [.ref a14, .int v17, .int v18])), (a14, .inl (cT 2, 4096, .inr (.inl f16))), (a15, .inr (2, [.ref a16, .int v22, .int v23])), (a16, .inl (cT 2, 4096, .inr (.inl f21)))]) hP hD [] [0, 1, 2, 3, 4, 5, 6, 7, 8, 9, 10, 11, 12, 13, 14, 15, 16] 17 rfl rfl (by decide) (by decide) hk1 hFc hP1 hD1
        generalize H1 = H at hP hS ⊢
        rw [hr9]
        refine W.eq (g2 := F0 m 27 ls [.int o10]) rfl ?_
        refine lv_if_eq (tgt := 34) hx hb dB_binary_27 (by decide) (fun hc => ?_) (fun hc => ?_)
        · rw [if_pos hc] at hf
          refine lv_iconst (v := 0) hx hb dB_binary_34 (by decide) ?_
          obtain ⟨o13, hq14, hf⟩ := xbind hf
          by_cases hk15 : o13 = 0
          · rw [if_pos hk15] at hf
            obtain ⟨hPc, hDc, hFc⟩ := xcut (wc := []) hP hD hS hA [] rfl rfl (by decide)
            refine va_callv (va_runS (As := [.int 0]) (rest := []) ⟨hx, hb, hml, hown, htx⟩ (gB_demand l hl9 D cT aK aV H.size n (0 : Int32) o13 hq14 hk15) ⟨callB_of 1 htx (xw_goodC kw_1_221) rfl rfl rfl (htx _ kw_1_1) (htx _ kw_1_219) ⟨by decide, by decide, by decide +kernel⟩ ⟨Nat.le_of_ble_eq_true rfl, Nat.le_of_ble_eq_true rfl⟩, htx _ kw_1_220⟩ ⟨xPre_blind, (fun U hU hW => ⟨rfl, xPre_of hZ hS hFc hPc hDc hK U hU hW⟩)⟩ rfl rfl hl.1 rfl (lv_room (Nat.le_of_ble_eq_true rfl)) dB_binary_35 ⟨Nat.le_of_ble_eq_true rfl, Nat.le_of_ble_eq_true rfl⟩) hS (fun q _ h => hFc q h) hFc (fun u9 t H1 locs ht hvm hr9 hB hz1 hk1 hS => ?_)
            obtain ⟨hP1, hK1, hD1⟩ := hB
            rw [ht] at hP1
            obtain ⟨hP, hD⟩ := xjoin (W := [(a0, .inr (0, [.ref a1, .ref a3, .ref a5, .ref a7, .ref a8, .ref a13, .int v19, .int v20])), (a1, .inr (1, [.ref a2, .int v1, .int v2])), (a2, .inl (cT 0, 4096, .inl f0)), (a3, .inr (1, [.ref a4, .int v4, .int v5])), (a4, .inl (cT 0, 4096, .inl f3)), (a5, .inr (1, [.ref a6, .int v7, .int v8])), (a6, .inl (cT 0, 4096, .inl f6)), (a7, .inl (cT 3, 8, .inr (.inr (.inr (.inr rf0))))), (a8, .inr (3, [.ref a9, .ref a10, .ref p11, .ref p13, .int v15])), (a9, .inl (cT 1, 2048, .inl f9)), (a10, .inl (cT 1, 2048, .inl f10)), (p11, .inl (cT 1, 2048, .inl f12)), (p13, .inl (cT 1, 2048, .inl f14)), (a13, .inr (2, [.ref a14, .int v17, .int v18])), (a14, .inl (cT 2, 4096, .inr (.inl f16))), (a15, .inr (2, [.ref a16, .int v22, .int v23])), (a16, .inl (cT 2, 4096, .inr (.inl f21)))]) hP hD [] [0, 1, 2, 3, 4, 5, 6, 7, 8, 9, 10, 11, 12, 13, 14, 15, 16] 17 rfl rfl (by decide) (by decide) hk1 hFc hP1 hD1
            generalize H1 = H at hP hS ⊢
            refine lv_aload_n hx hb dB_binary_38 rfl (lv_at hl 0 rfl) ?_
            refine va_get (D := D) (ci := 0) (v := .ref a13) (C := "ValueBench") (T := TB) (N := 8) hx hb htx inB hown hK hP 0 rfl rfl 5 (by decide) (htx _ kw_1_100) (fun _ h9 => h9) rfl dB_binary_39 ?_
            obtain ⟨o16, hq17, hf⟩ := xbind hf
            obtain ⟨hPc, hDc, hFc⟩ := xcut (wc := [(a13, .inr (2, [.ref a14, .int v17, .int v18])), (a14, .inl (cT 2, 4096, .inr (.inl f16)))]) hP hD hS hA [13, 14] rfl rfl (by decide)
            refine va_callv (va_runV (C := "ValueBench$Row") (As := []) (rest := []) ⟨hx, hb, hml, hown, htx⟩ (gR_clear l hl9 D cT aK aV H.size n a13 a14 f16 v17 v18 o16 hq17) ⟨callB_of 0 htx (xw_goodC kw_2_22) rfl rfl rfl (htx _ kw_1_4) (htx _ kw_2_19) ⟨by decide, by decide, by decide +kernel⟩ ⟨Nat.le_of_ble_eq_true rfl, Nat.le_of_ble_eq_true rfl⟩, (htx _ kw_2_20), (htx _ kw_2_21)⟩ ⟨xPre_blind, va_recv hK hP (ci := 2) rfl (q0 := 13) rfl, (fun U hU hW => ⟨rfl, xPre_of hZ hS hFc hPc hDc hK U hU hW⟩)⟩ rfl rfl hl.1 rfl (lv_room (Nat.le_of_ble_eq_true rfl)) dB_binary_42 ⟨Nat.le_of_ble_eq_true rfl, Nat.le_of_ble_eq_true rfl⟩) hS (fun q _ h => hFc q h) hFc (fun u9 t H1 locs ht hvm hr9 hB hz1 hk1 hS => ?_)
            obtain ⟨hP1, hK1, hD1⟩ := hB
            rw [ht] at hP1
            obtain ⟨hP, hD⟩ := xjoin (W := [(a0, .inr (0, [.ref a1, .ref a3, .ref a5, .ref a7, .ref a8, .ref a13, .int v19, .int v20])), (a1, .inr (1, [.ref a2, .int v1, .int v2])), (a2, .inl (cT 0, 4096, .inl f0)), (a3, .inr (1, [.ref a4, .int v4, .int v5])), (a4, .inl (cT 0, 4096, .inl f3)), (a5, .inr (1, [.ref a6, .int v7, .int v8])), (a6, .inl (cT 0, 4096, .inl f6)), (a7, .inl (cT 3, 8, .inr (.inr (.inr (.inr rf0))))), (a8, .inr (3, [.ref a9, .ref a10, .ref p11, .ref p13, .int v15])), (a9, .inl (cT 1, 2048, .inl f9)), (a10, .inl (cT 1, 2048, .inl f10)), (p11, .inl (cT 1, 2048, .inl f12)), (p13, .inl (cT 1, 2048, .inl f14)), (a15, .inr (2, [.ref a16, .int v22, .int v23])), (a16, .inl (cT 2, 4096, .inr (.inl f21))), (a13, .inr (2, [.ref a14, .int o16.1, .int o16.2])), (a14, .inl (cT 2, 4096, .inr (.inl f16)))]) hP hD [13, 14] [0, 1, 2, 3, 4, 5, 6, 7, 8, 9, 10, 11, 12, 15, 16] 15 rfl rfl (by decide) (by decide) hk1 hFc hP1 hD1
            generalize H1 = H at hP hS ⊢
            refine lv_aload_n hx hb dB_binary_45 rfl (lv_at hl 0 rfl) ?_
            refine lv_iload_n hx hb dB_binary_46 rfl (lv_at hl 2 rfl) ?_
            refine lv_aload_n hx hb dB_binary_47 rfl (lv_at hl 0 rfl) ?_
            refine va_get (D := D) (ci := 0) (v := .ref a7) (C := "ValueBench") (T := TB) (N := 8) hx hb htx inB hown hK hP 0 rfl rfl 3 (by decide) (htx _ kw_1_98) (fun _ h9 => h9) rfl dB_binary_48 ?_
            refine lv_iload_n hx hb dB_binary_51 rfl (lv_at hl 3 rfl) ?_
            obtain ⟨hg18, hf⟩ := xifn hf
            refine va_aldq hx hb hK hP 7 3 rfl rfl hg18 dB_binary_52 ?_
            refine W.eq (g2 := F0 m 53 ls [va_rf (rf0 x3.toNatClampNeg), .int x2, .ref a0]) rfl ?_
            rw [hr3 hg18]
            refine W.eq (g2 := F0 m 53 ls [.ref a15, .int x2, .ref a0]) rfl ?_
            refine lv_aload_n hx hb dB_binary_53 rfl (lv_at hl 0 rfl) ?_
            refine va_get (D := D) (ci := 0) (v := .ref a7) (C := "ValueBench") (T := TB) (N := 8) hx hb htx inB hown hK hP 0 rfl rfl 3 (by decide) (htx _ kw_1_98) (fun _ h9 => h9) rfl dB_binary_54 ?_
            refine lv_iload hx hb dB_binary_57 (lv_at hl 4 rfl) ?_
            obtain ⟨hg19, hf⟩ := xifn hf
            refine va_aldq hx hb hK hP 7 3 rfl rfl hg19 dB_binary_59 ?_
            refine W.eq (g2 := F0 m 60 ls [va_rf (rf0 x4.toNatClampNeg), .ref a15, .int x2, .ref a0]) rfl ?_
            rw [hr4 hg19]
            refine W.eq (g2 := F0 m 60 ls [.ref a15, .ref a15, .int x2, .ref a0]) rfl ?_
            refine lv_aload_n hx hb dB_binary_60 rfl (lv_at hl 0 rfl) ?_
            refine va_get (D := D) (ci := 0) (v := .ref a13) (C := "ValueBench") (T := TB) (N := 8) hx hb htx inB hown hK hP 0 rfl rfl 5 (by decide) (htx _ kw_1_100) (fun _ h9 => h9) rfl dB_binary_61 ?_
            obtain ⟨o20, hq21, hf⟩ := xbind hf
            obtain ⟨hPc, hDc, hFc⟩ := xcut (wc := [(a15, .inr (2, [.ref a16, .int v22, .int v23])), (a16, .inl (cT 2, 4096, .inr (.inl f21))), (a13, .inr (2, [.ref a14, .int o16.1, .int o16.2])), (a14, .inl (cT 2, 4096, .inr (.inl f16)))]) hP hD hS hA [13, 14, 15, 16] rfl rfl (by decide)
            refine va_calli (va_runS (As := [.int x2, .ref a15, .ref a15, .ref a13]) (rest := [.ref a0]) ⟨hx, hb, hml, hown, htx⟩ (gA_applya l hl9 D cT aK aV H.size d n a15 a16 a13 a14 x2 f21 v22 v23 f16 o16.1 o16.2 o20 hq21) ⟨callB_of 4 htx (xw_goodC kw_3_105) rfl rfl rfl (htx _ kw_1_21) (htx _ kw_3_103) ⟨by decide, by decide, by decide +kernel⟩ ⟨(by show (16 * d + 5) + 1 ≤ 16 * d + 7; omega), (by show 8 + (4 + 11) + (400 * d + 157) ≤ 400 * d + 180; omega)⟩, htx _ kw_3_104⟩ ⟨xPre_blind, (fun U hU hW => ⟨rfl, xPre_of hZ hS hFc hPc hDc hK U hU hW⟩)⟩ rfl rfl hl.1 rfl (lv_room (Nat.le_of_ble_eq_true rfl)) dB_binary_64 ⟨Nat.le_of_ble_eq_true rfl, Nat.le_of_ble_eq_true rfl⟩) hS (fun q _ h => hFc q h) hFc (fun r22 u9 t H1 locs ht hvm hr9 hB hz1 hk1 hS => ?_)
            obtain ⟨hP1, hK1, hD1⟩ := hB
            rw [ht] at hP1
            obtain ⟨hP, hD⟩ := xjoin (W := [(a0, .inr (0, [.ref a1, .ref a3, .ref a5, .ref a7, .ref a8, .ref a13, .int v19, .int v20])), (a1, .inr (1, [.ref a2, .int v1, .int v2])), (a2, .inl (cT 0, 4096, .inl f0)), (a3, .inr (1, [.ref a4, .int v4, .int v5])), (a4, .inl (cT 0, 4096, .inl f3)), (a5, .inr (1, [.ref a6, .int v7, .int v8])), (a6, .inl (cT 0, 4096, .inl f6)), (a7, .inl (cT 3, 8, .inr (.inr (.inr (.inr rf0))))), (a8, .inr (3, [.ref a9, .ref a10, .ref p11, .ref p13, .int v15])), (a9, .inl (cT 1, 2048, .inl f9)), (a10, .inl (cT 1, 2048, .inl f10)), (p11, .inl (cT 1, 2048, .inl f12)), (p13, .inl (cT 1, 2048, .inl f14)), (a15, .inr (2, [.ref a16, .int v22, .int v23])), (a16, .inl (cT 2, 4096, .inr (.inl f21))), (a13, .inr (2, [.ref a14, .int o20.2.2.1, .int o20.2.2.2])), (a14, .inl (cT 2, 4096, .inr (.inl o20.2.1)))]) hP hD [13, 14, 15, 16] [0, 1, 2, 3, 4, 5, 6, 7, 8, 9, 10, 11, 12] 13 rfl rfl (by decide) (by decide) hk1 hFc hP1 hD1
            generalize H1 = H at hP hS ⊢
            rw [hr9]
            refine W.eq (g2 := F0 m 67 ls [.int o20.1, .ref a0]) rfl ?_
            obtain ⟨o23, hq24, hf⟩ := xbind hf
            by_cases hk25 : o23.1 = 0
            · rw [if_pos hk25] at hf
              obtain ⟨hPc, hDc, hFc⟩ := xcut (wc := [(a0, .inr (0, [.ref a1, .ref a3, .ref a5, .ref a7, .ref a8, .ref a13, .int v19, .int v20])), (a1, .inr (1, [.ref a2, .int v1, .int v2])), (a2, .inl (cT 0, 4096, .inl f0)), (a3, .inr (1, [.ref a4, .int v4, .int v5])), (a4, .inl (cT 0, 4096, .inl f3)), (a5, .inr (1, [.ref a6, .int v7, .int v8])), (a6, .inl (cT 0, 4096, .inl f6)), (a7, .inl (cT 3, 8, .inr (.inr (.inr (.inr rf0))))), (a8, .inr (3, [.ref a9, .ref a10, .ref p11, .ref p13, .int v15])), (a9, .inl (cT 1, 2048, .inl f9)), (a10, .inl (cT 1, 2048, .inl f10)), (p11, .inl (cT 1, 2048, .inl f12)), (p13, .inl (cT 1, 2048, .inl f14)), (a13, .inr (2, [.ref a14, .int o20.2.2.1, .int o20.2.2.2])), (a14, .inl (cT 2, 4096, .inr (.inl o20.2.1)))]) hP hD hS hA [0, 1, 2, 3, 4, 5, 6, 7, 8, 9, 10, 11, 12, 15, 16] rfl rfl (by decide)
              refine va_callv (va_runV (C := "ValueBench") (As := [.int o20.1]) (rest := []) ⟨hx, hb, hml, hown, htx⟩ (gB_demandDone l hl9 D cT aK aV H.size n a0 a1 a2 a3 a4 a5 a6 a7 a8 a9 a10 a13 a14 rf0 o20.1 f0 v1 v2 f3 v4 v5 f6 v7 v8 f9 f10 p11 f12 p13 f14 v15 o20.2.1 o20.2.2.1 o20.2.2.2 v19 v20 o23 hq24 hk25) ⟨callB_of 1 htx (xw_goodC kw_3_222) rfl rfl rfl (htx _ kw_1_1) (htx _ kw_3_219) ⟨by decide, by decide, by decide +kernel⟩ ⟨Nat.le_of_ble_eq_true rfl, Nat.le_of_ble_eq_true rfl⟩, (htx _ kw_3_221), (htx _ kp_B_demandDone)⟩ ⟨xPre_blind, va_recv hK hP (ci := 0) rfl (q0 := 0) rfl, (fun U hU hW => ⟨rfl, xPre_of hZ hS hFc hPc hDc hK U hU hW⟩)⟩ rfl rfl hl.1 rfl (lv_room (Nat.le_of_ble_eq_true rfl)) dB_binary_67 ⟨Nat.le_of_ble_eq_true rfl, Nat.le_of_ble_eq_true rfl⟩) hS (fun q _ h => hFc q h) hFc (fun u9 t H1 locs ht hvm hr9 hB hz1 hk1 hS => ?_)
              obtain ⟨hP1, hK1, hD1⟩ := hB
              rw [ht] at hP1
              obtain ⟨hP, hD⟩ := xjoin (W := [(a15, .inr (2, [.ref a16, .int v22, .int v23])), (a16, .inl (cT 2, 4096, .inr (.inl f21))), (a0, .inr (0, [.ref a1, .ref a3, .ref a5, .ref a7, .ref a8, .ref a13, .int v19, .int o23.2])), (a1, .inr (1, [.ref a2, .int v1, .int v2])), (a2, .inl (cT 0, 4096, .inl f0)), (a3, .inr (1, [.ref a4, .int v4, .int v5])), (a4, .inl (cT 0, 4096, .inl f3)), (a5, .inr (1, [.ref a6, .int v7, .int v8])), (a6, .inl (cT 0, 4096, .inl f6)), (a7, .inl (cT 3, 8, .inr (.inr (.inr (.inr rf0))))), (a8, .inr (3, [.ref a9, .ref a10, .ref p11, .ref p13, .int v15])), (a9, .inl (cT 1, 2048, .inl f9)), (a10, .inl (cT 1, 2048, .inl f10)), (p11, .inl (cT 1, 2048, .inl f12)), (p13, .inl (cT 1, 2048, .inl f14)), (a13, .inr (2, [.ref a14, .int o20.2.2.1, .int o20.2.2.2])), (a14, .inl (cT 2, 4096, .inr (.inl o20.2.1)))]) hP hD [0, 1, 2, 3, 4, 5, 6, 7, 8, 9, 10, 11, 12, 15, 16] [13, 14] 2 rfl rfl (by decide) (by decide) hk1 hFc hP1 hD1
              generalize H1 = H at hP hS ⊢
              refine lv_aload_n hx hb dB_binary_70 rfl (lv_at hl 0 rfl) ?_
              refine lv_iload_n hx hb dB_binary_71 rfl (lv_at hl 1 rfl) ?_
              obtain ⟨o26, hq27, hf⟩ := xbind hf
              by_cases hk28 : o26.1 = 0
              · rw [if_pos hk28] at hf
                obtain ⟨hPc, hDc, hFc⟩ := xcut (wc := [(a0, .inr (0, [.ref a1, .ref a3, .ref a5, .ref a7, .ref a8, .ref a13, .int v19, .int o23.2])), (a1, .inr (1, [.ref a2, .int v1, .int v2])), (a2, .inl (cT 0, 4096, .inl f0)), (a3, .inr (1, [.ref a4, .int v4, .int v5])), (a4, .inl (cT 0, 4096, .inl f3)), (a5, .inr (1, [.ref a6, .int v7, .int v8])), (a6, .inl (cT 0, 4096, .inl f6)), (a7, .inl (cT 3, 8, .inr (.inr (.inr (.inr rf0))))), (a8, .inr (3, [.ref a9, .ref a10, .ref p11, .ref p13, .int v15])), (a9, .inl (cT 1, 2048, .inl f9)), (a10, .inl (cT 1, 2048, .inl f10)), (p11, .inl (cT 1, 2048, .inl f12)), (p13, .inl (cT 1, 2048, .inl f14)), (a13, .inr (2, [.ref a14, .int o20.2.2.1, .int o20.2.2.2])), (a14, .inl (cT 2, 4096, .inr (.inl o20.2.1)))]) hP hD hS hA [2, 3, 4, 5, 6, 7, 8, 9, 10, 11, 12, 13, 14, 15, 16] rfl rfl (by decide)
                refine va_calli (va_runV (C := "ValueBench") (As := [.int x1]) (rest := []) ⟨hx, hb, hml, hown, htx⟩ (gB_keepSpare l hl9 D cT aK aV H.size d n a0 a1 a2 a3 a4 a5 a6 a7 a8 a9 a10 a13 a14 rf0 b1 x1 f0 v1 v2 f3 v4 v5 f6 v7 v8 f9 f10 p11 f12 p13 f14 v15 o20.2.1 o20.2.2.1 o20.2.2.2 v19 o23.2 hr1 o26 hq27 hk28) ⟨callB_of 1 htx (xw_goodC kw_3_17) rfl rfl rfl (htx _ kw_1_1) (htx _ kw_3_14) ⟨by decide, by decide, by decide +kernel⟩ ⟨(by show (16 * d + 6) + 1 ≤ 16 * d + 7; omega), (by show 8 + (3 + 11) + (400 * d + 100) ≤ 400 * d + 180; omega)⟩, (htx _ kw_3_16), (htx _ kp_B_keepSpare)⟩ ⟨xPre_blind, va_recv hK hP (ci := 0) rfl (q0 := 2) rfl, (fun U hU hW => ⟨rfl, xPre_of hZ hS hFc hPc hDc hK U hU hW⟩)⟩ rfl rfl hl.1 rfl (lv_room (Nat.le_of_ble_eq_true rfl)) dB_binary_72 ⟨Nat.le_of_ble_eq_true rfl, Nat.le_of_ble_eq_true rfl⟩) hS (fun q _ h => hFc q h) hFc (fun r29 u9 t H1 locs ht hvm hr9 hB hz1 hk1 hS => ?_)
                obtain ⟨hP1, hK1, hD1⟩ := hB
                rw [ht] at hP1
                obtain ⟨hP, hD⟩ := xjoin (W := [(a15, .inr (2, [.ref a16, .int v22, .int v23])), (a16, .inl (cT 2, 4096, .inr (.inl f21))), (a0, .inr (0, [.ref a1, .ref a3, .ref a5, .ref a7, .ref a8, .ref b1, .int v19, .int o23.2])), (a1, .inr (1, [.ref a2, .int v1, .int v2])), (a2, .inl (cT 0, 4096, .inl f0)), (a3, .inr (1, [.ref a4, .int v4, .int v5])), (a4, .inl (cT 0, 4096, .inl f3)), (a5, .inr (1, [.ref a6, .int o26.2.2.2.1, .int o26.2.2.2.2])), (a6, .inl (cT 0, 4096, .inl o26.2.2.1)), (a7, .inl (cT 3, 8, .inr (.inr (.inr (.inr (va_up rf0 x1.toNatClampNeg (some a13))))))), (a8, .inr (3, [.ref a9, .ref a10, .ref p11, .ref p13, .int v15])), (a9, .inl (cT 1, 2048, .inl f9)), (a10, .inl (cT 1, 2048, .inl f10)), (p11, .inl (cT 1, 2048, .inl f12)), (p13, .inl (cT 1, 2048, .inl f14)), (a13, .inr (2, [.ref a14, .int o20.2.2.1, .int o20.2.2.2])), (a14, .inl (cT 2, 4096, .inr (.inl o20.2.1)))]) hP hD [2, 3, 4, 5, 6, 7, 8, 9, 10, 11, 12, 13, 14, 15, 16] [0, 1] 2 rfl rfl (by decide) (by decide) hk1 hFc hP1 hD1
                generalize H1 = H at hP hS ⊢
                rw [hr9]
                refine W.eq (g2 := F0 m 75 ls [.int o26.2.1]) rfl ?_
                refine lv_pop hx hb dB_binary_75 rfl ?_
                obtain rfl := Option.some.inj hf
                exact absurd (show (0 : Nat) = 2 from hkd) (by decide)
              rw [if_neg hk28] at hf
              by_cases hk30 : o26.1 = 1
              · rw [if_pos hk30] at hf
                obtain rfl := Option.some.inj hf
                exact absurd (show (1 : Nat) = 2 from hkd) (by decide)
              rw [if_neg hk30] at hf
              exact nomatch hf
            rw [if_neg hk25] at hf
            by_cases hk32 : o23.1 = 1
            · rw [if_pos hk32] at hf
              obtain ⟨hPc, hDc, hFc⟩ := xcut (wc := [(a0, .inr (0, [.ref a1, .ref a3, .ref a5, .ref a7, .ref a8, .ref a13, .int v19, .int v20])), (a1, .inr (1, [.ref a2, .int v1, .int v2])), (a2, .inl (cT 0, 4096, .inl f0)), (a3, .inr (1, [.ref a4, .int v4, .int v5])), (a4, .inl (cT 0, 4096, .inl f3)), (a5, .inr (1, [.ref a6, .int v7, .int v8])), (a6, .inl (cT 0, 4096, .inl f6)), (a7, .inl (cT 3, 8, .inr (.inr (.inr (.inr rf0))))), (a8, .inr (3, [.ref a9, .ref a10, .ref p11, .ref p13, .int v15])), (a9, .inl (cT 1, 2048, .inl f9)), (a10, .inl (cT 1, 2048, .inl f10)), (p11, .inl (cT 1, 2048, .inl f12)), (p13, .inl (cT 1, 2048, .inl f14)), (a13, .inr (2, [.ref a14, .int o20.2.2.1, .int o20.2.2.2])), (a14, .inl (cT 2, 4096, .inr (.inl o20.2.1)))]) hP hD hS hA [0, 1, 2, 3, 4, 5, 6, 7, 8, 9, 10, 11, 12, 15, 16] rfl rfl (by decide)
              refine xx_thr (vx_runV (C := "ValueBench") (As := [.int o20.1]) (rest := []) ⟨hx, hb, hml, hown, htx⟩ (gB_demandDone_1 l hl9 D cT aK aV H.size n a0 a1 a2 a3 a4 a5 a6 a7 a8 a9 a10 a13 a14 rf0 o20.1 f0 v1 v2 f3 v4 v5 f6 v7 v8 f9 f10 p11 f12 p13 f14 v15 o20.2.1 o20.2.2.1 o20.2.2.2 v19 v20 o23 hq24 hk32) ⟨callB_of 1 htx (xw_goodC kw_3_222) rfl rfl rfl (htx _ kw_1_1) (htx _ kw_3_219) ⟨by decide, by decide, by decide +kernel⟩ ⟨Nat.le_of_ble_eq_true rfl, Nat.le_of_ble_eq_true rfl⟩, (htx _ kw_3_221), (htx _ kp_B_demandDone)⟩ ⟨xPre_blind, va_recv hK hP (ci := 0) rfl (q0 := 0) rfl, (fun U hU hW => ⟨rfl, xPre_of hZ hS hFc hPc hDc hK U hU hW⟩)⟩ rfl rfl hl.1 rfl (lv_room (Nat.le_of_ble_eq_true rfl)) dB_binary_67 ⟨Nat.le_of_ble_eq_true rfl, Nat.le_of_ble_eq_true rfl⟩) hS hFc (fun q _ h => hFc q h) (fun E ce q9 u9 t H1 locs ht hvm _ hB hz1 hk1 hS hce hcv hcl => ?_)
              obtain ⟨rfl, hP1, hK1, hD1⟩ := hB
              rw [ht] at hP1
              obtain ⟨hP, hD⟩ := xjoin (W := [(a15, .inr (2, [.ref a16, .int v22, .int v23])), (a16, .inl (cT 2, 4096, .inr (.inl f21))), (a0, .inr (0, [.ref a1, .ref a3, .ref a5, .ref a7, .ref a8, .ref a13, .int v19, .int o23.2])), (a1, .inr (1, [.ref a2, .int v1, .int v2])), (a2, .inl (cT 0, 4096, .inl f0)), (a3, .inr (1, [.ref a4, .int v4, .int v5])), (a4, .inl (cT 0, 4096, .inl f3)), (a5, .inr (1, [.ref a6, .int v7, .int v8])), (a6, .inl (cT 0, 4096, .inl f6)), (a7, .inl (cT 3, 8, .inr (.inr (.inr (.inr rf0))))), (a8, .inr (3, [.ref a9, .ref a10, .ref p11, .ref p13, .int v15])), (a9, .inl (cT 1, 2048, .inl f9)), (a10, .inl (cT 1, 2048, .inl f10)), (p11, .inl (cT 1, 2048, .inl f12)), (p13, .inl (cT 1, 2048, .inl f14)), (a13, .inr (2, [.ref a14, .int o20.2.2.1, .int o20.2.2.2])), (a14, .inl (cT 2, 4096, .inr (.inl o20.2.1)))]) hP hD [0, 1, 2, 3, 4, 5, 6, 7, 8, 9, 10, 11, 12, 15, 16] [13, 14] 2 rfl rfl (by decide) (by decide) hk1 hFc hP1 hD1
              generalize H1 = H at hP hS hce ⊢
              obtain rfl := Option.some.inj hf
              obtain ⟨hP9, hD9⟩ := xsub (wc := [(a0, .inr (0, [.ref a1, .ref a3, .ref a5, .ref a7, .ref a8, .ref a13, .int v19, .int o23.2])), (a1, .inr (1, [.ref a2, .int v1, .int v2])), (a2, .inl (cT 0, 4096, .inl f0)), (a3, .inr (1, [.ref a4, .int v4, .int v5])), (a4, .inl (cT 0, 4096, .inl f3)), (a5, .inr (1, [.ref a6, .int v7, .int v8])), (a6, .inl (cT 0, 4096, .inl f6)), (a7, .inl (cT 3, 8, .inr (.inr (.inr (.inr rf0))))), (a8, .inr (3, [.ref a9, .ref a10, .ref p11, .ref p13, .int v15])), (a9, .inl (cT 1, 2048, .inl f9)), (a10, .inl (cT 1, 2048, .inl f10)), (p11, .inl (cT 1, 2048, .inl f12)), (p13, .inl (cT 1, 2048, .inl f14)), (a13, .inr (2, [.ref a14, .int o20.2.2.1, .int o20.2.2.2])), (a14, .inl (cT 2, 4096, .inr (.inl o20.2.1))), (a15, .inr (2, [.ref a16, .int v22, .int v23])), (a16, .inl (cT 2, 4096, .inr (.inl f21)))]) hP hD [2, 3, 4, 5, 6, 7, 8, 9, 10, 11, 12, 13, 14, 15, 16, 0, 1] rfl rfl (by decide)
              exact vx_out (E := "java/lang/ArithmeticException") (fun x h => (hne x h).elim) hlocks hce hcv hcl (fun t ht ha => ⟨(), trivial, ⟨rfl, by rw [ht]; exact hP9, va_K.moved ha hK, hD9⟩, hS.F ht⟩) hS.2.2 (Nat.le_of_ble_eq_true rfl) (Nat.le_of_ble_eq_true rfl)
            rw [if_neg hk32] at hf
            exact nomatch hf
          rw [if_neg hk15] at hf
          by_cases hk33 : o13 = 1
          · rw [if_pos hk33] at hf
            obtain rfl := Option.some.inj hf
            exact absurd (show (3 : Nat) = 2 from hkd) (by decide)
          rw [if_neg hk33] at hf
          exact nomatch hf
        · rw [if_neg hc] at hf
          refine lv_iconst (v := 1) hx hb dB_binary_30 (by decide) ?_
          refine lv_goto (tgt := 35) hx hb dB_binary_31 (by decide) ?_
          obtain ⟨o13, hq14, hf⟩ := xbind hf
          by_cases hk15 : o13 = 0
          · rw [if_pos hk15] at hf
            obtain ⟨hPc, hDc, hFc⟩ := xcut (wc := []) hP hD hS hA [] rfl rfl (by decide)
            refine va_callv (va_runS (As := [.int 1]) (rest := []) ⟨hx, hb, hml, hown, htx⟩ (gB_demand l hl9 D cT aK aV H.size n (1 : Int32) o13 hq14 hk15) ⟨callB_of 1 htx (xw_goodC kw_1_221) rfl rfl rfl (htx _ kw_1_1) (htx _ kw_1_219) ⟨by decide, by decide, by decide +kernel⟩ ⟨Nat.le_of_ble_eq_true rfl, Nat.le_of_ble_eq_true rfl⟩, htx _ kw_1_220⟩ ⟨xPre_blind, (fun U hU hW => ⟨rfl, xPre_of hZ hS hFc hPc hDc hK U hU hW⟩)⟩ rfl rfl hl.1 rfl (lv_room (Nat.le_of_ble_eq_true rfl)) dB_binary_35 ⟨Nat.le_of_ble_eq_true rfl, Nat.le_of_ble_eq_true rfl⟩) hS (fun q _ h => hFc q h) hFc (fun u9 t H1 locs ht hvm hr9 hB hz1 hk1 hS => ?_)
            obtain ⟨hP1, hK1, hD1⟩ := hB
            rw [ht] at hP1
            obtain ⟨hP, hD⟩ := xjoin (W := [(a0, .inr (0, [.ref a1, .ref a3, .ref a5, .ref a7, .ref a8, .ref a13, .int v19, .int v20])), (a1, .inr (1, [.ref a2, .int v1, .int v2])), (a2, .inl (cT 0, 4096, .inl f0)), (a3, .inr (1, [.ref a4, .int v4, .int v5])), (a4, .inl (cT 0, 4096, .inl f3)), (a5, .inr (1, [.ref a6, .int v7, .int v8])), (a6, .inl (cT 0, 4096, .inl f6)), (a7, .inl (cT 3, 8, .inr (.inr (.inr (.inr rf0))))), (a8, .inr (3, [.ref a9, .ref a10, .ref p11, .ref p13, .int v15])), (a9, .inl (cT 1, 2048, .inl f9)), (a10, .inl (cT 1, 2048, .inl f10)), (p11, .inl (cT 1, 2048, .inl f12)), (p13, .inl (cT 1, 2048, .inl f14)), (a13, .inr (2, [.ref a14, .int v17, .int v18])), (a14, .inl (cT 2, 4096, .inr (.inl f16))), (a15, .inr (2, [.ref a16, .int v22, .int v23])), (a16, .inl (cT 2, 4096, .inr (.inl f21)))]) hP hD [] [0, 1, 2, 3, 4, 5, 6, 7, 8, 9, 10, 11, 12, 13, 14, 15, 16] 17 rfl rfl (by decide) (by decide) hk1 hFc hP1 hD1
            generalize H1 = H at hP hS ⊢
            refine lv_aload_n hx hb dB_binary_38 rfl (lv_at hl 0 rfl) ?_
            refine va_get (D := D) (ci := 0) (v := .ref a13) (C := "ValueBench") (T := TB) (N := 8) hx hb htx inB hown hK hP 0 rfl rfl 5 (by decide) (htx _ kw_1_100) (fun _ h9 => h9) rfl dB_binary_39 ?_
            obtain ⟨o16, hq17, hf⟩ := xbind hf
            obtain ⟨hPc, hDc, hFc⟩ := xcut (wc := [(a13, .inr (2, [.ref a14, .int v17, .int v18])), (a14, .inl (cT 2, 4096, .inr (.inl f16)))]) hP hD hS hA [13, 14] rfl rfl (by decide)
            refine va_callv (va_runV (C := "ValueBench$Row") (As := []) (rest := []) ⟨hx, hb, hml, hown, htx⟩ (gR_clear l hl9 D cT aK aV H.size n a13 a14 f16 v17 v18 o16 hq17) ⟨callB_of 0 htx (xw_goodC kw_2_22) rfl rfl rfl (htx _ kw_1_4) (htx _ kw_2_19) ⟨by decide, by decide, by decide +kernel⟩ ⟨Nat.le_of_ble_eq_true rfl, Nat.le_of_ble_eq_true rfl⟩, (htx _ kw_2_20), (htx _ kw_2_21)⟩ ⟨xPre_blind, va_recv hK hP (ci := 2) rfl (q0 := 13) rfl, (fun U hU hW => ⟨rfl, xPre_of hZ hS hFc hPc hDc hK U hU hW⟩)⟩ rfl rfl hl.1 rfl (lv_room (Nat.le_of_ble_eq_true rfl)) dB_binary_42 ⟨Nat.le_of_ble_eq_true rfl, Nat.le_of_ble_eq_true rfl⟩) hS (fun q _ h => hFc q h) hFc (fun u9 t H1 locs ht hvm hr9 hB hz1 hk1 hS => ?_)
            obtain ⟨hP1, hK1, hD1⟩ := hB
            rw [ht] at hP1
            obtain ⟨hP, hD⟩ := xjoin (W := [(a0, .inr (0, [.ref a1, .ref a3, .ref a5, .ref a7, .ref a8, .ref a13, .int v19, .int v20])), (a1, .inr (1, [.ref a2, .int v1, .int v2])), (a2, .inl (cT 0, 4096, .inl f0)), (a3, .inr (1, [.ref a4, .int v4, .int v5])), (a4, .inl (cT 0, 4096, .inl f3)), (a5, .inr (1, [.ref a6, .int v7, .int v8])), (a6, .inl (cT 0, 4096, .inl f6)), (a7, .inl (cT 3, 8, .inr (.inr (.inr (.inr rf0))))), (a8, .inr (3, [.ref a9, .ref a10, .ref p11, .ref p13, .int v15])), (a9, .inl (cT 1, 2048, .inl f9)), (a10, .inl (cT 1, 2048, .inl f10)), (p11, .inl (cT 1, 2048, .inl f12)), (p13, .inl (cT 1, 2048, .inl f14)), (a15, .inr (2, [.ref a16, .int v22, .int v23])), (a16, .inl (cT 2, 4096, .inr (.inl f21))), (a13, .inr (2, [.ref a14, .int o16.1, .int o16.2])), (a14, .inl (cT 2, 4096, .inr (.inl f16)))]) hP hD [13, 14] [0, 1, 2, 3, 4, 5, 6, 7, 8, 9, 10, 11, 12, 15, 16] 15 rfl rfl (by decide) (by decide) hk1 hFc hP1 hD1
            generalize H1 = H at hP hS ⊢
            refine lv_aload_n hx hb dB_binary_45 rfl (lv_at hl 0 rfl) ?_
            refine lv_iload_n hx hb dB_binary_46 rfl (lv_at hl 2 rfl) ?_
            refine lv_aload_n hx hb dB_binary_47 rfl (lv_at hl 0 rfl) ?_
            refine va_get (D := D) (ci := 0) (v := .ref a7) (C := "ValueBench") (T := TB) (N := 8) hx hb htx inB hown hK hP 0 rfl rfl 3 (by decide) (htx _ kw_1_98) (fun _ h9 => h9) rfl dB_binary_48 ?_
            refine lv_iload_n hx hb dB_binary_51 rfl (lv_at hl 3 rfl) ?_
            obtain ⟨hg18, hf⟩ := xifn hf
            refine va_aldq hx hb hK hP 7 3 rfl rfl hg18 dB_binary_52 ?_
            refine W.eq (g2 := F0 m 53 ls [va_rf (rf0 x3.toNatClampNeg), .int x2, .ref a0]) rfl ?_
            rw [hr3 hg18]
            refine W.eq (g2 := F0 m 53 ls [.ref a15, .int x2, .ref a0]) rfl ?_
            refine lv_aload_n hx hb dB_binary_53 rfl (lv_at hl 0 rfl) ?_
            refine va_get (D := D) (ci := 0) (v := .ref a7) (C := "ValueBench") (T := TB) (N := 8) hx hb htx inB hown hK hP 0 rfl rfl 3 (by decide) (htx _ kw_1_98) (fun _ h9 => h9) rfl dB_binary_54 ?_
            refine lv_iload hx hb dB_binary_57 (lv_at hl 4 rfl) ?_
            obtain ⟨hg19, hf⟩ := xifn hf
            refine va_aldq hx hb hK hP 7 3 rfl rfl hg19 dB_binary_59 ?_
            refine W.eq (g2 := F0 m 60 ls [va_rf (rf0 x4.toNatClampNeg), .ref a15, .int x2, .ref a0]) rfl ?_
            rw [hr4 hg19]
            refine W.eq (g2 := F0 m 60 ls [.ref a15, .ref a15, .int x2, .ref a0]) rfl ?_
            refine lv_aload_n hx hb dB_binary_60 rfl (lv_at hl 0 rfl) ?_
            refine va_get (D := D) (ci := 0) (v := .ref a13) (C := "ValueBench") (T := TB) (N := 8) hx hb htx inB hown hK hP 0 rfl rfl 5 (by decide) (htx _ kw_1_100) (fun _ h9 => h9) rfl dB_binary_61 ?_
            obtain ⟨o20, hq21, hf⟩ := xbind hf
            obtain ⟨hPc, hDc, hFc⟩ := xcut (wc := [(a15, .inr (2, [.ref a16, .int v22, .int v23])), (a16, .inl (cT 2, 4096, .inr (.inl f21))), (a13, .inr (2, [.ref a14, .int o16.1, .int o16.2])), (a14, .inl (cT 2, 4096, .inr (.inl f16)))]) hP hD hS hA [13, 14, 15, 16] rfl rfl (by decide)
            refine va_calli (va_runS (As := [.int x2, .ref a15, .ref a15, .ref a13]) (rest := [.ref a0]) ⟨hx, hb, hml, hown, htx⟩ (gA_applya l hl9 D cT aK aV H.size d n a15 a16 a13 a14 x2 f21 v22 v23 f16 o16.1 o16.2 o20 hq21) ⟨callB_of 4 htx (xw_goodC kw_3_105) rfl rfl rfl (htx _ kw_1_21) (htx _ kw_3_103) ⟨by decide, by decide, by decide +kernel⟩ ⟨(by show (16 * d + 5) + 1 ≤ 16 * d + 7; omega), (by show 8 + (4 + 11) + (400 * d + 157) ≤ 400 * d + 180; omega)⟩, htx _ kw_3_104⟩ ⟨xPre_blind, (fun U hU hW => ⟨rfl, xPre_of hZ hS hFc hPc hDc hK U hU hW⟩)⟩ rfl rfl hl.1 rfl (lv_room (Nat.le_of_ble_eq_true rfl)) dB_binary_64 ⟨Nat.le_of_ble_eq_true rfl, Nat.le_of_ble_eq_true rfl⟩) hS (fun q _ h => hFc q h) hFc (fun r22 u9 t H1 locs ht hvm hr9 hB hz1 hk1 hS => ?_)
            obtain ⟨hP1, hK1, hD1⟩ := hB
            rw [ht] at hP1
            obtain ⟨hP, hD⟩ := xjoin (W := [(a0, .inr (0, [.ref a1, .ref a3, .ref a5, .ref a7, .ref a8, .ref a13, .int v19, .int v20])), (a1, .inr (1, [.ref a2, .int v1, .int v2])), (a2, .inl (cT 0, 4096, .inl f0)), (a3, .inr (1, [.ref a4, .int v4, .int v5])), (a4, .inl (cT 0, 4096, .inl f3)), (a5, .inr (1, [.ref a6, .int v7, .int v8])), (a6, .inl (cT 0, 4096, .inl f6)), (a7, .inl (cT 3, 8, .inr (.inr (.inr (.inr rf0))))), (a8, .inr (3, [.ref a9, .ref a10, .ref p11, .ref p13, .int v15])), (a9, .inl (cT 1, 2048, .inl f9)), (a10, .inl (cT 1, 2048, .inl f10)), (p11, .inl (cT 1, 2048, .inl f12)), (p13, .inl (cT 1, 2048, .inl f14)), (a15, .inr (2, [.ref a16, .int v22, .int v23])), (a16, .inl (cT 2, 4096, .inr (.inl f21))), (a13, .inr (2, [.ref a14, .int o20.2.2.1, .int o20.2.2.2])), (a14, .inl (cT 2, 4096, .inr (.inl o20.2.1)))]) hP hD [13, 14, 15, 16] [0, 1, 2, 3, 4, 5, 6, 7, 8, 9, 10, 11, 12] 13 rfl rfl (by decide) (by decide) hk1 hFc hP1 hD1
            generalize H1 = H at hP hS ⊢
            rw [hr9]
            refine W.eq (g2 := F0 m 67 ls [.int o20.1, .ref a0]) rfl ?_
            obtain ⟨o23, hq24, hf⟩ := xbind hf
            by_cases hk25 : o23.1 = 0
            · rw [if_pos hk25] at hf
              obtain ⟨hPc, hDc, hFc⟩ := xcut (wc := [(a0, .inr (0, [.ref a1, .ref a3, .ref a5, .ref a7, .ref a8, .ref a13, .int v19, .int v20])), (a1, .inr (1, [.ref a2, .int v1, .int v2])), (a2, .inl (cT 0, 4096, .inl f0)), (a3, .inr (1, [.ref a4, .int v4, .int v5])), (a4, .inl (cT 0, 4096, .inl f3)), (a5, .inr (1, [.ref a6, .int v7, .int v8])), (a6, .inl (cT 0, 4096, .inl f6)), (a7, .inl (cT 3, 8, .inr (.inr (.inr (.inr rf0))))), (a8, .inr (3, [.ref a9, .ref a10, .ref p11, .ref p13, .int v15])), (a9, .inl (cT 1, 2048, .inl f9)), (a10, .inl (cT 1, 2048, .inl f10)), (p11, .inl (cT 1, 2048, .inl f12)), (p13, .inl (cT 1, 2048, .inl f14)), (a13, .inr (2, [.ref a14, .int o20.2.2.1, .int o20.2.2.2])), (a14, .inl (cT 2, 4096, .inr (.inl o20.2.1)))]) hP hD hS hA [0, 1, 2, 3, 4, 5, 6, 7, 8, 9, 10, 11, 12, 15, 16] rfl rfl (by decide)
              refine va_callv (va_runV (C := "ValueBench") (As := [.int o20.1]) (rest := []) ⟨hx, hb, hml, hown, htx⟩ (gB_demandDone l hl9 D cT aK aV H.size n a0 a1 a2 a3 a4 a5 a6 a7 a8 a9 a10 a13 a14 rf0 o20.1 f0 v1 v2 f3 v4 v5 f6 v7 v8 f9 f10 p11 f12 p13 f14 v15 o20.2.1 o20.2.2.1 o20.2.2.2 v19 v20 o23 hq24 hk25) ⟨callB_of 1 htx (xw_goodC kw_3_222) rfl rfl rfl (htx _ kw_1_1) (htx _ kw_3_219) ⟨by decide, by decide, by decide +kernel⟩ ⟨Nat.le_of_ble_eq_true rfl, Nat.le_of_ble_eq_true rfl⟩, (htx _ kw_3_221), (htx _ kp_B_demandDone)⟩ ⟨xPre_blind, va_recv hK hP (ci := 0) rfl (q0 := 0) rfl, (fun U hU hW => ⟨rfl, xPre_of hZ hS hFc hPc hDc hK U hU hW⟩)⟩ rfl rfl hl.1 rfl (lv_room (Nat.le_of_ble_eq_true rfl)) dB_binary_67 ⟨Nat.le_of_ble_eq_true rfl, Nat.le_of_ble_eq_true rfl⟩) hS (fun q _ h => hFc q h) hFc (fun u9 t H1 locs ht hvm hr9 hB hz1 hk1 hS => ?_)
              obtain ⟨hP1, hK1, hD1⟩ := hB
              rw [ht] at hP1
              obtain ⟨hP, hD⟩ := xjoin (W := [(a15, .inr (2, [.ref a16, .int v22, .int v23])), (a16, .inl (cT 2, 4096, .inr (.inl f21))), (a0, .inr (0, [.ref a1, .ref a3, .ref a5, .ref a7, .ref a8, .ref a13, .int v19, .int o23.2])), (a1, .inr (1, [.ref a2, .int v1, .int v2])), (a2, .inl (cT 0, 4096, .inl f0)), (a3, .inr (1, [.ref a4, .int v4, .int v5])), (a4, .inl (cT 0, 4096, .inl f3)), (a5, .inr (1, [.ref a6, .int v7, .int v8])), (a6, .inl (cT 0, 4096, .inl f6)), (a7, .inl (cT 3, 8, .inr (.inr (.inr (.inr rf0))))), (a8, .inr (3, [.ref a9, .ref a10, .ref p11, .ref p13, .int v15])), (a9, .inl (cT 1, 2048, .inl f9)), (a10, .inl (cT 1, 2048, .inl f10)), (p11, .inl (cT 1, 2048, .inl f12)), (p13, .inl (cT 1, 2048, .inl f14)), (a13, .inr (2, [.ref a14, .int o20.2.2.1, .int o20.2.2.2])), (a14, .inl (cT 2, 4096, .inr (.inl o20.2.1)))]) hP hD [0, 1, 2, 3, 4, 5, 6, 7, 8, 9, 10, 11, 12, 15, 16] [13, 14] 2 rfl rfl (by decide) (by decide) hk1 hFc hP1 hD1
              generalize H1 = H at hP hS ⊢
              refine lv_aload_n hx hb dB_binary_70 rfl (lv_at hl 0 rfl) ?_
              refine lv_iload_n hx hb dB_binary_71 rfl (lv_at hl 1 rfl) ?_
              obtain ⟨o26, hq27, hf⟩ := xbind hf
              by_cases hk28 : o26.1 = 0
              · rw [if_pos hk28] at hf
                obtain ⟨hPc, hDc, hFc⟩ := xcut (wc := [(a0, .inr (0, [.ref a1, .ref a3, .ref a5, .ref a7, .ref a8, .ref a13, .int v19, .int o23.2])), (a1, .inr (1, [.ref a2, .int v1, .int v2])), (a2, .inl (cT 0, 4096, .inl f0)), (a3, .inr (1, [.ref a4, .int v4, .int v5])), (a4, .inl (cT 0, 4096, .inl f3)), (a5, .inr (1, [.ref a6, .int v7, .int v8])), (a6, .inl (cT 0, 4096, .inl f6)), (a7, .inl (cT 3, 8, .inr (.inr (.inr (.inr rf0))))), (a8, .inr (3, [.ref a9, .ref a10, .ref p11, .ref p13, .int v15])), (a9, .inl (cT 1, 2048, .inl f9)), (a10, .inl (cT 1, 2048, .inl f10)), (p11, .inl (cT 1, 2048, .inl f12)), (p13, .inl (cT 1, 2048, .inl f14)), (a13, .inr (2, [.ref a14, .int o20.2.2.1, .int o20.2.2.2])), (a14, .inl (cT 2, 4096, .inr (.inl o20.2.1)))]) hP hD hS hA [2, 3, 4, 5, 6, 7, 8, 9, 10, 11, 12, 13, 14, 15, 16] rfl rfl (by decide)
                refine va_calli (va_runV (C := "ValueBench") (As := [.int x1]) (rest := []) ⟨hx, hb, hml, hown, htx⟩ (gB_keepSpare l hl9 D cT aK aV H.size d n a0 a1 a2 a3 a4 a5 a6 a7 a8 a9 a10 a13 a14 rf0 b1 x1 f0 v1 v2 f3 v4 v5 f6 v7 v8 f9 f10 p11 f12 p13 f14 v15 o20.2.1 o20.2.2.1 o20.2.2.2 v19 o23.2 hr1 o26 hq27 hk28) ⟨callB_of 1 htx (xw_goodC kw_3_17) rfl rfl rfl (htx _ kw_1_1) (htx _ kw_3_14) ⟨by decide, by decide, by decide +kernel⟩ ⟨(by show (16 * d + 6) + 1 ≤ 16 * d + 7; omega), (by show 8 + (3 + 11) + (400 * d + 100) ≤ 400 * d + 180; omega)⟩, (htx _ kw_3_16), (htx _ kp_B_keepSpare)⟩ ⟨xPre_blind, va_recv hK hP (ci := 0) rfl (q0 := 2) rfl, (fun U hU hW => ⟨rfl, xPre_of hZ hS hFc hPc hDc hK U hU hW⟩)⟩ rfl rfl hl.1 rfl (lv_room (Nat.le_of_ble_eq_true rfl)) dB_binary_72 ⟨Nat.le_of_ble_eq_true rfl, Nat.le_of_ble_eq_true rfl⟩) hS (fun q _ h => hFc q h) hFc (fun r29 u9 t H1 locs ht hvm hr9 hB hz1 hk1 hS => ?_)
                obtain ⟨hP1, hK1, hD1⟩ := hB
                rw [ht] at hP1
                obtain ⟨hP, hD⟩ := xjoin (W := [(a15, .inr (2, [.ref a16, .int v22, .int v23])), (a16, .inl (cT 2, 4096, .inr (.inl f21))), (a0, .inr (0, [.ref a1, .ref a3, .ref a5, .ref a7, .ref a8, .ref b1, .int v19, .int o23.2])), (a1, .inr (1, [.ref a2, .int v1, .int v2])), (a2, .inl (cT 0, 4096, .inl f0)), (a3, .inr (1, [.ref a4, .int v4, .int v5])), (a4, .inl (cT 0, 4096, .inl f3)), (a5, .inr (1, [.ref a6, .int o26.2.2.2.1, .int o26.2.2.2.2])), (a6, .inl (cT 0, 4096, .inl o26.2.2.1)), (a7, .inl (cT 3, 8, .inr (.inr (.inr (.inr (va_up rf0 x1.toNatClampNeg (some a13))))))), (a8, .inr (3, [.ref a9, .ref a10, .ref p11, .ref p13, .int v15])), (a9, .inl (cT 1, 2048, .inl f9)), (a10, .inl (cT 1, 2048, .inl f10)), (p11, .inl (cT 1, 2048, .inl f12)), (p13, .inl (cT 1, 2048, .inl f14)), (a13, .inr (2, [.ref a14, .int o20.2.2.1, .int o20.2.2.2])), (a14, .inl (cT 2, 4096, .inr (.inl o20.2.1)))]) hP hD [2, 3, 4, 5, 6, 7, 8, 9, 10, 11, 12, 13, 14, 15, 16] [0, 1] 2 rfl rfl (by decide) (by decide) hk1 hFc hP1 hD1
                generalize H1 = H at hP hS ⊢
                rw [hr9]
                refine W.eq (g2 := F0 m 75 ls [.int o26.2.1]) rfl ?_
                refine lv_pop hx hb dB_binary_75 rfl ?_
                obtain rfl := Option.some.inj hf
                exact absurd (show (0 : Nat) = 2 from hkd) (by decide)
              rw [if_neg hk28] at hf
              by_cases hk30 : o26.1 = 1
              · rw [if_pos hk30] at hf
                obtain rfl := Option.some.inj hf
                exact absurd (show (1 : Nat) = 2 from hkd) (by decide)
              rw [if_neg hk30] at hf
              exact nomatch hf
            rw [if_neg hk25] at hf
            by_cases hk32 : o23.1 = 1
            · rw [if_pos hk32] at hf
              obtain ⟨hPc, hDc, hFc⟩ := xcut (wc := [(a0, .inr (0, [.ref a1, .ref a3, .ref a5, .ref a7, .ref a8, .ref a13, .int v19, .int v20])), (a1, .inr (1, [.ref a2, .int v1, .int v2])), (a2, .inl (cT 0, 4096, .inl f0)), (a3, .inr (1, [.ref a4, .int v4, .int v5])), (a4, .inl (cT 0, 4096, .inl f3)), (a5, .inr (1, [.ref a6, .int v7, .int v8])), (a6, .inl (cT 0, 4096, .inl f6)), (a7, .inl (cT 3, 8, .inr (.inr (.inr (.inr rf0))))), (a8, .inr (3, [.ref a9, .ref a10, .ref p11, .ref p13, .int v15])), (a9, .inl (cT 1, 2048, .inl f9)), (a10, .inl (cT 1, 2048, .inl f10)), (p11, .inl (cT 1, 2048, .inl f12)), (p13, .inl (cT 1, 2048, .inl f14)), (a13, .inr (2, [.ref a14, .int o20.2.2.1, .int o20.2.2.2])), (a14, .inl (cT 2, 4096, .inr (.inl o20.2.1)))]) hP hD hS hA [0, 1, 2, 3, 4, 5, 6, 7, 8, 9, 10, 11, 12, 15, 16] rfl rfl (by decide)
              refine xx_thr (vx_runV (C := "ValueBench") (As := [.int o20.1]) (rest := []) ⟨hx, hb, hml, hown, htx⟩ (gB_demandDone_1 l hl9 D cT aK aV H.size n a0 a1 a2 a3 a4 a5 a6 a7 a8 a9 a10 a13 a14 rf0 o20.1 f0 v1 v2 f3 v4 v5 f6 v7 v8 f9 f10 p11 f12 p13 f14 v15 o20.2.1 o20.2.2.1 o20.2.2.2 v19 v20 o23 hq24 hk32) ⟨callB_of 1 htx (xw_goodC kw_3_222) rfl rfl rfl (htx _ kw_1_1) (htx _ kw_3_219) ⟨by decide, by decide, by decide +kernel⟩ ⟨Nat.le_of_ble_eq_true rfl, Nat.le_of_ble_eq_true rfl⟩, (htx _ kw_3_221), (htx _ kp_B_demandDone)⟩ ⟨xPre_blind, va_recv hK hP (ci := 0) rfl (q0 := 0) rfl, (fun U hU hW => ⟨rfl, xPre_of hZ hS hFc hPc hDc hK U hU hW⟩)⟩ rfl rfl hl.1 rfl (lv_room (Nat.le_of_ble_eq_true rfl)) dB_binary_67 ⟨Nat.le_of_ble_eq_true rfl, Nat.le_of_ble_eq_true rfl⟩) hS hFc (fun q _ h => hFc q h) (fun E ce q9 u9 t H1 locs ht hvm _ hB hz1 hk1 hS hce hcv hcl => ?_)
              obtain ⟨rfl, hP1, hK1, hD1⟩ := hB
              rw [ht] at hP1
              obtain ⟨hP, hD⟩ := xjoin (W := [(a15, .inr (2, [.ref a16, .int v22, .int v23])), (a16, .inl (cT 2, 4096, .inr (.inl f21))), (a0, .inr (0, [.ref a1, .ref a3, .ref a5, .ref a7, .ref a8, .ref a13, .int v19, .int o23.2])), (a1, .inr (1, [.ref a2, .int v1, .int v2])), (a2, .inl (cT 0, 4096, .inl f0)), (a3, .inr (1, [.ref a4, .int v4, .int v5])), (a4, .inl (cT 0, 4096, .inl f3)), (a5, .inr (1, [.ref a6, .int v7, .int v8])), (a6, .inl (cT 0, 4096, .inl f6)), (a7, .inl (cT 3, 8, .inr (.inr (.inr (.inr rf0))))), (a8, .inr (3, [.ref a9, .ref a10, .ref p11, .ref p13, .int v15])), (a9, .inl (cT 1, 2048, .inl f9)), (a10, .inl (cT 1, 2048, .inl f10)), (p11, .inl (cT 1, 2048, .inl f12)), (p13, .inl (cT 1, 2048, .inl f14)), (a13, .inr (2, [.ref a14, .int o20.2.2.1, .int o20.2.2.2])), (a14, .inl (cT 2, 4096, .inr (.inl o20.2.1)))]) hP hD [0, 1, 2, 3, 4, 5, 6, 7, 8, 9, 10, 11, 12, 15, 16] [13, 14] 2 rfl rfl (by decide) (by decide) hk1 hFc hP1 hD1
              generalize H1 = H at hP hS hce ⊢
              obtain rfl := Option.some.inj hf
              obtain ⟨hP9, hD9⟩ := xsub (wc := [(a0, .inr (0, [.ref a1, .ref a3, .ref a5, .ref a7, .ref a8, .ref a13, .int v19, .int o23.2])), (a1, .inr (1, [.ref a2, .int v1, .int v2])), (a2, .inl (cT 0, 4096, .inl f0)), (a3, .inr (1, [.ref a4, .int v4, .int v5])), (a4, .inl (cT 0, 4096, .inl f3)), (a5, .inr (1, [.ref a6, .int v7, .int v8])), (a6, .inl (cT 0, 4096, .inl f6)), (a7, .inl (cT 3, 8, .inr (.inr (.inr (.inr rf0))))), (a8, .inr (3, [.ref a9, .ref a10, .ref p11, .ref p13, .int v15])), (a9, .inl (cT 1, 2048, .inl f9)), (a10, .inl (cT 1, 2048, .inl f10)), (p11, .inl (cT 1, 2048, .inl f12)), (p13, .inl (cT 1, 2048, .inl f14)), (a13, .inr (2, [.ref a14, .int o20.2.2.1, .int o20.2.2.2])), (a14, .inl (cT 2, 4096, .inr (.inl o20.2.1))), (a15, .inr (2, [.ref a16, .int v22, .int v23])), (a16, .inl (cT 2, 4096, .inr (.inl f21)))]) hP hD [2, 3, 4, 5, 6, 7, 8, 9, 10, 11, 12, 13, 14, 15, 16, 0, 1] rfl rfl (by decide)
              exact vx_out (E := "java/lang/ArithmeticException") (fun x h => (hne x h).elim) hlocks hce hcv hcl (fun t ht ha => ⟨(), trivial, ⟨rfl, by rw [ht]; exact hP9, va_K.moved ha hK, hD9⟩, hS.F ht⟩) hS.2.2 (Nat.le_of_ble_eq_true rfl) (Nat.le_of_ble_eq_true rfl)
            rw [if_neg hk32] at hf
            exact nomatch hf
          rw [if_neg hk15] at hf
          by_cases hk33 : o13 = 1
          · rw [if_pos hk33] at hf
            obtain rfl := Option.some.inj hf
            exact absurd (show (3 : Nat) = 2 from hkd) (by decide)
          rw [if_neg hk33] at hf
          exact nomatch hf
