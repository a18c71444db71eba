set_option maxHeartbeats 400000000 in
set_option maxRecDepth 100000 in
theorem gB_samea_1 (l : Launch) (hl9 : l.stackTraces = false) (D : va_G) (cT : Nat → ClassId) (aK aV : Nat → Nat) (sz d n : Nat) (a0 : Nat) (a1 : Nat) (a2 : Nat) (a3 : Nat) (a4 : Nat) (a5 : Nat) (a6 : Nat) (a7 : Nat) (a8 : Nat) (a9 : Nat) (a10 : Nat) (a13 : Nat) (a14 : Nat) (a15 : Nat) (a16 : Nat) (rf0 : Nat → Option Nat) (x1 : Int32) (x2 : Int32) (f0 : Nat → Int32) (v1 : Int32) (v2 : Int32) (f3 : Nat → Int32) (v4 : Int32) (v5 : Int32) (f6 : Nat → Int32) (v7 : Int32) (v8 : Int32) (f9 : Nat → Int32) (f10 : Nat → Int32) (p11 : Nat) (f12 : Nat → Int32) (p13 : Nat) (f14 : Nat → Int32) (v15 : Int32) (f16 : Nat → Int64) (v17 : Int32) (v18 : Int32) (v19 : Int32) (v20 : Int32) (f21 : Nat → Int64) (v22 : Int32) (v23 : Int32) (hr1 : ¬ (x1 < 0 ∨ 8 ≤ x1.toNatClampNeg) → rf0 x1.toNatClampNeg = some a15) (hr2 : ¬ (x2 < 0 ∨ 8 ≤ x2.toNatClampNeg) → rf0 x2.toNatClampNeg = some a15) (out : Nat × Int32) (hf : fB_samea d n x1 x2 f0 v1 v2 f3 v4 v5 f6 v7 v8 f9 f10 p11 f12 p13 f14 v15 f16 v17 v18 v19 v20 f21 v22 v23 = some out) (hkd : out.1 = 1) : xMetX l yB_same wyB_same (16 * d + 7) 1 6 (400 * d + 120) D cT aK aV sz [.ref a0, .int x1, .int x2] [(a0, .inr (0, [.ref a1, .ref a3, .ref a5, .ref a7, .ref a8, .ref a13, .int v19, .int v20])), (a1, .inr (1, [.ref a2, .int v1, .int v2])), (a2, .inl (cT 0, 4096, .inl f0)), (a3, .inr (1, [.ref a4, .int v4, .int v5])), (a4, .inl (cT 0, 4096, .inl f3)), (a5, .inr (1, [.ref a6, .int v7, .int v8])), (a6, .inl (cT 0, 4096, .inl f6)), (a7, .inl (cT 3, 8, .inr (.inr (.inr (.inr rf0))))), (a8, .inr (3, [.ref a9, .ref a10, .ref p11, .ref p13, .int v15])), (a9, .inl (cT 1, 2048, .inl f9)), (a10, .inl (cT 1, 2048, .inl f10)), (p11, .inl (cT 1, 2048, .inl f12)), (p13, .inl (cT 1, 2048, .inl f14)), (a13, .inr (2, [.ref a14, .int v17, .int v18])), (a14, .inl (cT 2, 4096, .inr (.inl f16))), (a15, .inr (2, [.ref a16, .int v22, .int v23])), (a16, .inl (cT 2, 4096, .inr (.inl f21)))] "java/lang/IllegalArgumentException" (fun A t => xB D xcl cT A [(a0, .inr (0, [.ref a1, .ref a3, .ref a5, .ref a7, .ref a8, .ref a13, .int v19, .int v20])), (a1, .inr (1, [.ref a2, .int v1, .int v2])), (a2, .inl (cT 0, 4096, .inl f0)), (a3, .inr (1, [.ref a4, .int v4, .int v5])), (a4, .inl (cT 0, 4096, .inl f3)), (a5, .inr (1, [.ref a6, .int v7, .int v8])), (a6, .inl (cT 0, 4096, .inl f6)), (a7, .inl (cT 3, 8, .inr (.inr (.inr (.inr rf0))))), (a8, .inr (3, [.ref a9, .ref a10, .ref p11, .ref p13, .int v15])), (a9, .inl (cT 1, 2048, .inl f9)), (a10, .inl (cT 1, 2048, .inl f10)), (p11, .inl (cT 1, 2048, .inl f12)), (p13, .inl (cT 1, 2048, .inl f14)), (a13, .inr (2, [.ref a14, .int v17, .int v18])), (a14, .inl (cT 2, 4096, .inr (.inl f16))), (a15, .inr (2, [.ref a16, .int v22, .int v23])), (a16, .inl (cT 2, 4096, .inr (.inl f21)))] t) := by
  refine vx_ofW (cc := prog_1_method_8_code) (maxL := 3) (ret := (some .boolean)) (by decide) rfl ?_
  intro p e s m args below meth c s₁ B hml hne hv
  obtain ⟨rfl, hsz, hZ, hP, hK, hD0⟩ := hv
  have hx := B.exec
  have hb := B.bytes
  have hr := B.returns
  have hts := atoms_spec (ws := wyB_same) B.pre
  have htx := fun w h => hts w (List.mem_cons_of_mem _ h)
  have hown : s.vm.findClass "ValueBench" = some m.cls := findClass_of_methodNamed B.named
  have hlocks := B.notSynchronized
  subst hsz
  have hD := hD0.self (sz := s.heap.size)
  generalize hAe : va_A [(a0, .inr (0, [.ref a1, .ref a3, .ref a5, .ref a7, .ref a8, .ref a13, .int v19, .int v20])), (a1, .inr (1, [.ref a2, .int v1, .int v2])), (a2, .inl (cT 0, 4096, .inl f0)), (a3, .inr (1, [.ref a4, .int v4, .int v5])), (a4, .inl (cT 0, 4096, .inl f3)), (a5, .inr (1, [.ref a6, .int v7, .int v8])), (a6, .inl (cT 0, 4096, .inl f6)), (a7, .inl (cT 3, 8, .inr (.inr (.inr (.inr rf0))))), (a8, .inr (3, [.ref a9, .ref a10, .ref p11, .ref p13, .int v15])), (a9, .inl (cT 1, 2048, .inl f9)), (a10, .inl (cT 1, 2048, .inl f10)), (p11, .inl (cT 1, 2048, .inl f12)), (p13, .inl (cT 1, 2048, .inl f14)), (a13, .inr (2, [.ref a14, .int v17, .int v18])), (a14, .inl (cT 2, 4096, .inr (.inl f16))), (a15, .inr (2, [.ref a16, .int v22, .int v23])), (a16, .inl (cT 2, 4096, .inr (.inl f21)))] s.heap.size = A at hD hZ ⊢
  have hA : ∀ q : Nat, s.heap.size ≤ q → A q := fun q h => by rw [← hAe]; exact Or.inr h
  have hS : va_S A s.heap s.heap [] := va_S.rf
  have hP : va_P D xcl [(a0, .inr (0, [.ref a1, .ref a3, .ref a5, .ref a7, .ref a8, .ref a13, .int v19, .int v20])), (a1, .inr (1, [.ref a2, .int v1, .int v2])), (a2, .inl (cT 0, 4096, .inl f0)), (a3, .inr (1, [.ref a4, .int v4, .int v5])), (a4, .inl (cT 0, 4096, .inl f3)), (a5, .inr (1, [.ref a6, .int v7, .int v8])), (a6, .inl (cT 0, 4096, .inl f6)), (a7, .inl (cT 3, 8, .inr (.inr (.inr (.inr rf0))))), (a8, .inr (3, [.ref a9, .ref a10, .ref p11, .ref p13, .int v15])), (a9, .inl (cT 1, 2048, .inl f9)), (a10, .inl (cT 1, 2048, .inl f10)), (p11, .inl (cT 1, 2048, .inl f12)), (p13, .inl (cT 1, 2048, .inl f14)), (a13, .inr (2, [.ref a14, .int v17, .int v18])), (a14, .inl (cT 2, 4096, .inr (.inl f16))), (a15, .inr (2, [.ref a16, .int v22, .int v23])), (a16, .inl (cT 2, 4096, .inr (.inl f21)))] s.heap := hP
  have hl := lv_entry ([.ref a0, .int x1, .int x2]) (n := 3) (Nat.le_of_ble_eq_true rfl)
  rw [lg_entry_eq]
  generalize (lg_sl ([.ref a0, .int x1, .int x2]) ++ List.replicate (3 - (lg_sl ([.ref a0, .int x1, .int x2])).length) Slot.unset).toArray = ls at hl ⊢
  have hl : lv_has ls 3 [(0, .ref a0), (1, .int x1), (2, .int x2)] := hl
  unfold fB_samea at hf
  refine lv_iload_n hx hb dB_same_0 rfl (lv_at hl 1 rfl) ?_
  obtain ⟨o1, hq2, hf⟩ := xbind hf
  obtain ⟨hPc, hDc, hFc⟩ := xcut (wc := []) hP hD hS hA [] rfl rfl (by decide)
  refine va_calli (va_runS (As := [.int x1]) (rest := []) ⟨hx, hb, hml, hown, htx⟩ (gB_isRegister l hl9 D cT aK aV s.heap.size n x1 o1 hq2) ⟨callB_of 1 htx (xw_goodC kw_2_18) rfl rfl rfl (htx _ kw_1_1) (htx _ kw_2_16) ⟨by decide, by decide, by decide +kernel⟩ ⟨Nat.le_of_ble_eq_true rfl, Nat.le_of_ble_eq_true rfl⟩, htx _ kw_2_17⟩ ⟨xPre_blind, (fun U hU hW => ⟨rfl, xPre_of hZ hS hFc hPc hDc hK U hU hW⟩)⟩ rfl rfl hl.1 rfl (lv_room (Nat.le_of_ble_eq_true rfl)) dB_same_1 ⟨Nat.le_of_ble_eq_true rfl, Nat.le_of_ble_eq_true rfl⟩) hS (fun q _ h => hFc q h) hFc (fun r3 u9 t H1 locs ht hvm hr9 hB hz1 hk1 hS => ?_)
  obtain ⟨hP1, hK1, hD1⟩ := hB
  rw [ht] at hP1
  obtain ⟨hP, hD⟩ := xjoin (W := [(a0, .inr (0, [.ref a1, .ref a3, .ref a5, .ref a7, .ref a8, .ref a13, .int v19, .int v20])), (a1, .inr (1, [.ref a2, .int v1, .int v2])), (a2, .inl (cT 0, 4096, .inl f0)), (a3, .inr (1, [.ref a4, .int v4, .int v5])), (a4, .inl (cT 0, 4096, .inl f3)), (a5, .inr (1, [.ref a6, .int v7, .int v8])), (a6, .inl (cT 0, 4096, .inl f6)), (a7, .inl (cT 3, 8, .inr (.inr (.inr (.inr rf0))))), (a8, .inr (3, [.ref a9, .ref a10, .ref p11, .ref p13, .int v15])), (a9, .inl (cT 1, 2048, .inl f9)), (a10, .inl (cT 1, 2048, .inl f10)), (p11, .inl (cT 1, 2048, .inl f12)), (p13, .inl (cT 1, 2048, .inl f14)), (a13, .inr (2, [.ref a14, .int v17, .int v18])), (a14, .inl (cT 2, 4096, .inr (.inl f16))), (a15, .inr (2, [.ref a16, .int v22, .int v23])), (a16, .inl (cT 2, 4096, .inr (.inl f21)))]) hP hD [] [0, 1, 2, 3, 4, 5, 6, 7, 8, 9, 10, 11, 12, 13, 14, 15, 16] 17 rfl rfl (by decide) (by decide) hk1 hFc hP1 hD1
  generalize H1 = H at hP hS ⊢
  rw [hr9]
  refine W.eq (g2 := F0 m 4 ls [.int o1]) rfl ?_
  refine lv_if_eq (tgt := 18) hx hb dB_same_4 (by decide) (fun hc => ?_) (fun hc => ?_)
  · rw [if_pos hc] at hf
    refine lv_iconst (v := 0) hx hb dB_same_18 (by decide) ?_
    obtain ⟨o4, hq5, hf⟩ := xbind hf
    by_cases hk6 : o4 = 0
    · rw [if_pos hk6] at hf
      obtain ⟨hPc, hDc, hFc⟩ := xcut (wc := []) hP hD hS hA [] rfl rfl (by decide)
      refine va_callv (va_runS (As := [.int 0]) (rest := []) ⟨hx, hb, hml, hown, htx⟩ (gB_demand l hl9 D cT aK aV H.size n (0 : Int32) o4 hq5 hk6) ⟨callB_of 1 htx (xw_goodC kw_1_221) rfl rfl rfl (htx _ kw_1_1) (htx _ kw_1_219) ⟨by decide, by decide, by decide +kernel⟩ ⟨Nat.le_of_ble_eq_true rfl, Nat.le_of_ble_eq_true rfl⟩, htx _ kw_1_220⟩ ⟨xPre_blind, (fun U hU hW => ⟨rfl, xPre_of hZ hS hFc hPc hDc hK U hU hW⟩)⟩ rfl rfl hl.1 rfl (lv_room (Nat.le_of_ble_eq_true rfl)) dB_same_19 ⟨Nat.le_of_ble_eq_true rfl, Nat.le_of_ble_eq_true rfl⟩) hS (fun q _ h => hFc q h) hFc (fun u9 t H1 locs ht hvm hr9 hB hz1 hk1 hS => ?_)
      obtain ⟨hP1, hK1, hD1⟩ := hB
      rw [ht] at hP1
      obtain ⟨hP, hD⟩ := xjoin (W := [(a0, .inr (0, [.ref a1, .ref a3, .ref a5, .ref a7, .ref a8, .ref a13, .int v19, .int v20])), (a1, .inr (1, [.ref a2, .int v1, .int v2])), (a2, .inl (cT 0, 4096, .inl f0)), (a3, .inr (1, [.ref a4, .int v4, .int v5])), (a4, .inl (cT 0, 4096, .inl f3)), (a5, .inr (1, [.ref a6, .int v7, .int v8])), (a6, .inl (cT 0, 4096, .inl f6)), (a7, .inl (cT 3, 8, .inr (.inr (.inr (.inr rf0))))), (a8, .inr (3, [.ref a9, .ref a10, .ref p11, .ref p13, .int v15])), (a9, .inl (cT 1, 2048, .inl f9)), (a10, .inl (cT 1, 2048, .inl f10)), (p11, .inl (cT 1, 2048, .inl f12)), (p13, .inl (cT 1, 2048, .inl f14)), (a13, .inr (2, [.ref a14, .int v17, .int v18])), (a14, .inl (cT 2, 4096, .inr (.inl f16))), (a15, .inr (2, [.ref a16, .int v22, .int v23])), (a16, .inl (cT 2, 4096, .inr (.inl f21)))]) hP hD [] [0, 1, 2, 3, 4, 5, 6, 7, 8, 9, 10, 11, 12, 13, 14, 15, 16] 17 rfl rfl (by decide) (by decide) hk1 hFc hP1 hD1
      generalize H1 = H at hP hS ⊢
      refine lv_aload_n hx hb dB_same_22 rfl (lv_at hl 0 rfl) ?_
      refine va_get (D := D) (ci := 0) (v := .ref a7) (C := "ValueBench") (T := TB) (N := 8) hx hb htx inB hown hK hP 0 rfl rfl 3 (by decide) (htx _ kw_1_98) (fun _ h9 => h9) rfl dB_same_23 ?_
      refine lv_iload_n hx hb dB_same_26 rfl (lv_at hl 1 rfl) ?_
      obtain ⟨hg7, hf⟩ := xifn hf
      refine va_aldq hx hb hK hP 7 3 rfl rfl hg7 dB_same_27 ?_
      refine W.eq (g2 := F0 m 28 ls [va_rf (rf0 x1.toNatClampNeg)]) rfl ?_
      rw [hr1 hg7]
      refine W.eq (g2 := F0 m 28 ls [.ref a15]) rfl ?_
      refine lv_iconst (v := 0) hx hb dB_same_28 (by decide) ?_
      refine lv_aload_n hx hb dB_same_29 rfl (lv_at hl 0 rfl) ?_
      refine va_get (D := D) (ci := 0) (v := .ref a7) (C := "ValueBench") (T := TB) (N := 8) hx hb htx inB hown hK hP 0 rfl rfl 3 (by decide) (htx _ kw_1_98) (fun _ h9 => h9) rfl dB_same_30 ?_
      refine lv_iload_n hx hb dB_same_33 rfl (lv_at hl 2 rfl) ?_
      obtain ⟨hg8, hf⟩ := xifn hf
      refine va_aldq hx hb hK hP 7 3 rfl rfl hg8 dB_same_34 ?_
      refine W.eq (g2 := F0 m 35 ls [va_rf (rf0 x2.toNatClampNeg), .int 0, .ref a15]) rfl ?_
      rw [hr2 hg8]
      refine W.eq (g2 := F0 m 35 ls [.ref a15, .int 0, .ref a15]) rfl ?_
      refine lv_iconst (v := 0) hx hb dB_same_35 (by decide) ?_
      obtain ⟨o9, hq10, hf⟩ := xbind hf
      obtain ⟨hPc, hDc, hFc⟩ := xcut (wc := [(a15, .inr (2, [.ref a16, .int v22, .int v23])), (a16, .inl (cT 2, 4096, .inr (.inl f21)))]) hP hD hS hA [15, 16] rfl rfl (by decide)
      refine va_calli (va_runS (As := [.ref a15, .int 0, .ref a15, .int 0]) (rest := []) ⟨hx, hb, hml, hown, htx⟩ (gO_isSamea l hl9 D cT aK aV H.size d n a15 a16 (0 : Int32) (0 : Int32) f21 v22 v23 o9 hq10) ⟨callB_of 4 htx (xw_goodC kw_3_161) rfl rfl rfl (htx _ kw_1_23) (htx _ kw_4_18) ⟨by decide, by decide, by decide +kernel⟩ ⟨(by show (16 * d + 1) + 1 ≤ 16 * d + 7; omega), (by show 8 + (4 + 11) + (400 * d + 24) ≤ 400 * d + 120; omega)⟩, htx _ kw_3_160⟩ ⟨xPre_blind, (fun U hU hW => ⟨rfl, xPre_of hZ hS hFc hPc hDc hK U hU hW⟩)⟩ rfl rfl hl.1 rfl (lv_room (Nat.le_of_ble_eq_true rfl)) dB_same_36 ⟨Nat.le_of_ble_eq_true rfl, Nat.le_of_ble_eq_true rfl⟩) hS (fun q _ h => hFc q h) hFc (fun r11 u9 t H1 locs ht hvm hr9 hB hz1 hk1 hS => ?_)
      obtain ⟨hP1, hK1, hD1⟩ := hB
      rw [ht] at hP1
      obtain ⟨hP, hD⟩ := xjoin (W := [(a0, .inr (0, [.ref a1, .ref a3, .ref a5, .ref a7, .ref a8, .ref a13, .int v19, .int v20])), (a1, .inr (1, [.ref a2, .int v1, .int v2])), (a2, .inl (cT 0, 4096, .inl f0)), (a3, .inr (1, [.ref a4, .int v4, .int v5])), (a4, .inl (cT 0, 4096, .inl f3)), (a5, .inr (1, [.ref a6, .int v7, .int v8])), (a6, .inl (cT 0, 4096, .inl f6)), (a7, .inl (cT 3, 8, .inr (.inr (.inr (.inr rf0))))), (a8, .inr (3, [.ref a9, .ref a10, .ref p11, .ref p13, .int v15])), (a9, .inl (cT 1, 2048, .inl f9)), (a10, .inl (cT 1, 2048, .inl f10)), (p11, .inl (cT 1, 2048, .inl f12)), (p13, .inl (cT 1, 2048, .inl f14)), (a13, .inr (2, [.ref a14, .int v17, .int v18])), (a14, .inl (cT 2, 4096, .inr (.inl f16))), (a15, .inr (2, [.ref a16, .int v22, .int v23])), (a16, .inl (cT 2, 4096, .inr (.inl f21)))]) hP hD [15, 16] [0, 1, 2, 3, 4, 5, 6, 7, 8, 9, 10, 11, 12, 13, 14] 15 rfl rfl (by decide) (by decide) hk1 hFc hP1 hD1
      generalize H1 = H at hP hS ⊢
      rw [hr9]
      refine W.eq (g2 := F0 m 39 ls [.int o9]) rfl ?_
      obtain ⟨hg12, hf⟩ := xifn hf
      obtain rfl := Option.some.inj hf
      exact absurd (show (0 : Nat) = 1 from hkd) (by decide)
    rw [if_neg hk6] at hf
    by_cases hk13 : o4 = 1
    · rw [if_pos hk13] at hf
      obtain ⟨hPc, hDc, hFc⟩ := xcut (wc := []) hP hD hS hA [] rfl rfl (by decide)
      refine xx_thr (vx_runS (As := [.int 0]) (rest := []) ⟨hx, hb, hml, hown, htx⟩ (gB_demand_1 l hl9 D cT aK aV H.size n (0 : Int32) o4 hq5 hk13) ⟨callB_of 1 htx (xw_goodC kw_1_221) rfl rfl rfl (htx _ kw_1_1) (htx _ kw_1_219) ⟨by decide, by decide, by decide +kernel⟩ ⟨Nat.le_of_ble_eq_true rfl, Nat.le_of_ble_eq_true rfl⟩, htx _ kw_1_220⟩ ⟨xPre_blind, (fun U hU hW => ⟨rfl, xPre_of hZ hS hFc hPc hDc hK U hU hW⟩)⟩ rfl rfl hl.1 rfl (lv_room (Nat.le_of_ble_eq_true rfl)) dB_same_19 ⟨Nat.le_of_ble_eq_true rfl, Nat.le_of_ble_eq_true rfl⟩) hS hFc (fun q _ h => hFc q h) (fun E ce q9 u9 t H1 locs ht hvm _ hB hz1 hk1 hS hce hcv hcl => ?_)
      obtain ⟨rfl, hP1, hK1, hD1⟩ := hB
      rw [ht] at hP1
      obtain ⟨hP, hD⟩ := xjoin (W := [(a0, .inr (0, [.ref a1, .ref a3, .ref a5, .ref a7, .ref a8, .ref a13, .int v19, .int v20])), (a1, .inr (1, [.ref a2, .int v1, .int v2])), (a2, .inl (cT 0, 4096, .inl f0)), (a3, .inr (1, [.ref a4, .int v4, .int v5])), (a4, .inl (cT 0, 4096, .inl f3)), (a5, .inr (1, [.ref a6, .int v7, .int v8])), (a6, .inl (cT 0, 4096, .inl f6)), (a7, .inl (cT 3, 8, .inr (.inr (.inr (.inr rf0))))), (a8, .inr (3, [.ref a9, .ref a10, .ref p11, .ref p13, .int v15])), (a9, .inl (cT 1, 2048, .inl f9)), (a10, .inl (cT 1, 2048, .inl f10)), (p11, .inl (cT 1, 2048, .inl f12)), (p13, .inl (cT 1, 2048, .inl f14)), (a13, .inr (2, [.ref a14, .int v17, .int v18])), (a14, .inl (cT 2, 4096, .inr (.inl f16))), (a15, .inr (2, [.ref a16, .int v22, .int v23])), (a16, .inl (cT 2, 4096, .inr (.inl f21)))]) hP hD [] [0, 1, 2, 3, 4, 5, 6, 7, 8, 9, 10, 11, 12, 13, 14, 15, 16] 17 rfl rfl (by decide) (by decide) hk1 hFc hP1 hD1
      generalize H1 = H at hP hS hce ⊢
      obtain rfl := Option.some.inj hf
      obtain ⟨hP9, hD9⟩ := xsub (wc := [(a0, .inr (0, [.ref a1, .ref a3, .ref a5, .ref a7, .ref a8, .ref a13, .int v19, .int v20])), (a1, .inr (1, [.ref a2, .int v1, .int v2])), (a2, .inl (cT 0, 4096, .inl f0)), (a3, .inr (1, [.ref a4, .int v4, .int v5])), (a4, .inl (cT 0, 4096, .inl f3)), (a5, .inr (1, [.ref a6, .int v7, .int v8])), (a6, .inl (cT 0, 4096, .inl f6)), (a7, .inl (cT 3, 8, .inr (.inr (.inr (.inr rf0))))), (a8, .inr (3, [.ref a9, .ref a10, .ref p11, .ref p13, .int v15])), (a9, .inl (cT 1, 2048, .inl f9)), (a10, .inl (cT 1, 2048, .inl f10)), (p11, .inl (cT 1, 2048, .inl f12)), (p13, .inl (cT 1, 2048, .inl f14)), (a13, .inr (2, [.ref a14, .int v17, .int v18])), (a14, .inl (cT 2, 4096, .inr (.inl f16))), (a15, .inr (2, [.ref a16, .int v22, .int v23])), (a16, .inl (cT 2, 4096, .inr (.inl f21)))]) hP hD [0, 1, 2, 3, 4, 5, 6, 7, 8, 9, 10, 11, 12, 13, 14, 15, 16] rfl rfl (by decide)
      exact vx_out (E := "java/lang/IllegalArgumentException") (fun x h => (hne x h).elim) hlocks hce hcv hcl (fun t ht ha => ⟨(), trivial, ⟨rfl, by rw [ht]; exact hP9, va_K.moved ha hK, hD9⟩, hS.F ht⟩) hS.2.2 (Nat.le_of_ble_eq_true rfl) (Nat.le_of_ble_eq_true rfl)
    rw [if_neg hk13] at hf
    exact nomatch hf
  · rw [if_neg hc] at hf
    refine lv_iload_n hx hb dB_same_7 rfl (lv_at hl 2 rfl) ?_
    obtain ⟨o4, hq5, hf⟩ := xbind hf
    obtain ⟨hPc, hDc, hFc⟩ := xcut (wc := []) hP hD hS hA [] rfl rfl (by decide)
    refine va_calli (va_runS (As := [.int x2]) (rest := []) ⟨hx, hb, hml, hown, htx⟩ (gB_isRegister l hl9 D cT aK aV H.size n x2 o4 hq5) ⟨callB_of 1 htx (xw_goodC kw_2_18) rfl rfl rfl (htx _ kw_1_1) (htx _ kw_2_16) ⟨by decide, by decide, by decide +kernel⟩ ⟨Nat.le_of_ble_eq_true rfl, Nat.le_of_ble_eq_true rfl⟩, htx _ kw_2_17⟩ ⟨xPre_blind, (fun U hU hW => ⟨rfl, xPre_of hZ hS hFc hPc hDc hK U hU hW⟩)⟩ rfl rfl hl.1 rfl (lv_room (Nat.le_of_ble_eq_true rfl)) dB_same_8 ⟨Nat.le_of_ble_eq_true rfl, Nat.le_of_ble_eq_true rfl⟩) hS (fun q _ h => hFc q h) hFc (fun r6 u9 t H1 locs ht hvm hr9 hB hz1 hk1 hS => ?_)
    obtain ⟨hP1, hK1, hD1⟩ := hB
    rw [ht] at hP1
    obtain ⟨hP, hD⟩ := xjoin (W := [(a0, .inr (0, [.ref a1, .ref a3, .ref a5, .ref a7, .ref a8, .ref a13, .int v19, .int v20])), (a1, .inr (1, [.ref a2, .int v1, .int v2])), (a2, .inl (cT 0, 4096, .inl f0)), (a3, .inr (1, [.ref a4, .int v4, .int v5])), (a4, .inl (cT 0, 4096, .inl f3)), (a5, .inr (1, [.ref a6, .int v7, .int v8])), (a6, .inl (cT 0, 4096, .inl f6)), (a7, .inl (cT 3, 8, .inr (.inr (.inr (.inr rf0))))), (a8, .inr (3, [.ref a9, .ref a10, .ref p11, .ref p13, .int v15])), (a9, .inl (cT 1, 2048, .inl f9)), (a10, .inl (cT 1, 2048, .inl f10)), (p11, .inl (cT 1, 2048, .inl f12)), (p13, .inl (cT 1, 2048, .inl f14)), (a13, .inr (2, [.ref a14, .int v17, .int v18])), (a14, .inl (cT 2, 4096, .inr (.inl f16))), (a15, .inr (2, [.ref a16, .int v22, .int v23])), (a16, .inl (cT 2, 4096, .inr (.inl f21)))]) hP hD [] [0, 1, 2, 3, 4, 5, 6, 7, 8, 9, 10, 11, 12, 13, 14, 15, 16] 17 rfl rfl (by decide) (by decide) hk1 hFc hP1 hD1
    generalize H1 = H at hP hS ⊢
    rw [hr9]
    refine W.eq (g2 := F0 m 11 ls [.int o4]) rfl ?_
    refine lv_if_eq (tgt := 18) hx hb dB_same_11 (by decide) (fun hc => ?_) (fun hc => ?_)
    · rw [if_pos hc] at hf
      refine lv_iconst (v := 0) hx hb dB_same_18 (by decide) ?_
      obtain ⟨o7, hq8, hf⟩ := xbind hf
      by_cases hk9 : o7 = 0
      · rw [if_pos hk9] at hf
        obtain ⟨hPc, hDc, hFc⟩ := xcut (wc := []) hP hD hS hA [] rfl rfl (by decide)
        refine va_callv (va_runS (As := [.int 0]) (rest := []) ⟨hx, hb, hml, hown, htx⟩ (gB_demand l hl9 D cT aK aV H.size n (0 : Int32) o7 hq8 hk9) ⟨callB_of 1 htx (xw_goodC kw_1_221) rfl rfl rfl (htx _ kw_1_1) (htx _ kw_1_219) ⟨by decide, by decide, by decide +kernel⟩ ⟨Nat.le_of_ble_eq_true rfl, Nat.le_of_ble_eq_true rfl⟩, htx _ kw_1_220⟩ ⟨xPre_blind, (fun U hU hW => ⟨rfl, xPre_of hZ hS hFc hPc hDc hK U hU hW⟩)⟩ rfl rfl hl.1 rfl (lv_room (Nat.le_of_ble_eq_true rfl)) dB_same_19 ⟨Nat.le_of_ble_eq_true rfl, Nat.le_of_ble_eq_true rfl⟩) hS (fun q _ h => hFc q h) hFc (fun u9 t H1 locs ht hvm hr9 hB hz1 hk1 hS => ?_)
        obtain ⟨hP1, hK1, hD1⟩ := hB
        rw [ht] at hP1
        obtain ⟨hP, hD⟩ := xjoin (W := [(a0, .inr (0, [.ref a1, .ref a3, .ref a5, .ref a7, .ref a8, .ref a13, .int v19, .int v20])), (a1, .inr (1, [.ref a2, .int v1, .int v2])), (a2, .inl (cT 0, 4096, .inl f0)), (a3, .inr (1, [.ref a4, .int v4, .int v5])), (a4, .inl (cT 0, 4096, .inl f3)), (a5, .inr (1, [.ref a6, .int v7, .int v8])), (a6, .inl (cT 0, 4096, .inl f6)), (a7, .inl (cT 3, 8, .inr (.inr (.inr (.inr rf0))))), (a8, .inr (3, [.ref a9, .ref a10, .ref p11, .ref p13, .int v15])), (a9, .inl (cT 1, 2048, .inl f9)), (a10, .inl (cT 1, 2048, .inl f10)), (p11, .inl (cT 1, 2048, .inl f12)), (p13, .inl (cT 1, 2048, .inl f14)), (a13, .inr (2, [.ref a14, .int v17, .int v18])), (a14, .inl (cT 2, 4096, .inr (.inl f16))), (a15, .inr (2, [.ref a16, .int v22, .int v23])), (a16, .inl (cT 2, 4096, .inr (.inl f21)))]) hP hD [] [0, 1, 2, 3, 4, 5, 6, 7, 8, 9, 10, 11, 12, 13, 14, 15, 16] 17 rfl rfl (by decide) (by decide) hk1 hFc hP1 hD1
        generalize H1 = H at hP hS ⊢
        refine lv_aload_n hx hb dB_same_22 rfl (lv_at hl 0 rfl) ?_
        refine va_get (D := D) (ci := 0) (v := .ref a7) (C := "ValueBench") (T := TB) (N := 8) hx hb htx inB hown hK hP 0 rfl rfl 3 (by decide) (htx _ kw_1_98) (fun _ h9 => h9) rfl dB_same_23 ?_
        refine lv_iload_n hx hb dB_same_26 rfl (lv_at hl 1 rfl) ?_
        obtain ⟨hg10, hf⟩ := xifn hf
        refine va_aldq hx hb hK hP 7 3 rfl rfl hg10 dB_same_27 ?_
        refine W.eq (g2 := F0 m 28 ls [va_rf (rf0 x1.toNatClampNeg)]) rfl ?_
        rw [hr1 hg10]
        refine W.eq (g2 := F0 m 28 ls [.ref a15]) rfl ?_
        refine lv_iconst (v := 0) hx hb dB_same_28 (by decide) ?_
        refine lv_aload_n hx hb dB_same_29 rfl (lv_at hl 0 rfl) ?_
        refine va_get (D := D) (ci := 0) (v := .ref a7) (C := "ValueBench") (T := TB) (N := 8) hx hb htx inB hown hK hP 0 rfl rfl 3 (by decide) (htx _ kw_1_98) (fun _ h9 => h9) rfl dB_same_30 ?_
        refine lv_iload_n hx hb dB_same_33 rfl (lv_at hl 2 rfl) ?_
        obtain ⟨hg11, hf⟩ := xifn hf
        refine va_aldq hx hb hK hP 7 3 rfl rfl hg11 dB_same_34 ?_
        refine W.eq (g2 := F0 m 35 ls [va_rf (rf0 x2.toNatClampNeg), .int 0, .ref a15]) rfl ?_
        rw [hr2 hg11]
        refine W.eq (g2 := F0 m 35 ls [.ref a15, .int 0, .ref a15]) rfl ?_
        refine lv_iconst (v := 0) hx hb dB_same_35 (by decide) ?_
        obtain ⟨o12, hq13, hf⟩ := xbind hf
        obtain ⟨hPc, hDc, hFc⟩ := xcut (wc := [(a15, .inr (2, [.ref a16, .int v22, .int v23])), (a16, .inl (cT 2, 4096, .inr (.inl f21)))]) hP hD hS hA [15, 16] rfl rfl (by decide)
        refine va_calli (va_runS (As := [.ref a15, .int 0, .ref a15, .int 0]) (rest := []) ⟨hx, hb, hml, hown, htx⟩ (gO_isSamea l hl9 D cT aK aV H.size d n a15 a16 (0 : Int32) (0 : Int32) f21 v22 v23 o12 hq13) ⟨callB_of 4 htx (xw_goodC kw_3_161) rfl rfl rfl (htx _ kw_1_23) (htx _ kw_4_18) ⟨by decide, by decide, by decide +kernel⟩ ⟨(by show (16 * d + 1) + 1 ≤ 16 * d + 7; omega), (by show 8 + (4 + 11) + (400 * d + 24) ≤ 400 * d + 120; omega)⟩, htx _ kw_3_160⟩ ⟨xPre_blind, (fun U hU hW => ⟨rfl, xPre_of hZ hS hFc hPc hDc hK U hU hW⟩)⟩ rfl rfl hl.1 rfl (lv_room (Nat.le_of_ble_eq_true rfl)) dB_same_36 ⟨Nat.le_of_ble_eq_true rfl, Nat.le_of_ble_eq_true rfl⟩) hS (fun q _ h => hFc q h) hFc (fun r14 u9 t H1 locs ht hvm hr9 hB hz1 hk1 hS => ?_)
        obtain ⟨hP1, hK1, hD1⟩ := hB
        rw [ht] at hP1
        obtain ⟨hP, hD⟩ := xjoin (W := [(a0, .inr (0, [.ref a1, .ref a3, .ref a5, .ref a7, .ref a8, .ref a13, .int v19, .int v20])), (a1, .inr (1, [.ref a2, .int v1, .int v2])), (a2, .inl (cT 0, 4096, .inl f0)), (a3, .inr (1, [.ref a4, .int v4, .int v5])), (a4, .inl (cT 0, 4096, .inl f3)), (a5, .inr (1, [.ref a6, .int v7, .int v8])), (a6, .inl (cT 0, 4096, .inl f6)), (a7, .inl (cT 3, 8, .inr (.inr (.inr (.inr rf0))))), (a8, .inr (3, [.ref a9, .ref a10, .ref p11, .ref p13, .int v15])), (a9, .inl (cT 1, 2048, .inl f9)), (a10, .inl (cT 1, 2048, .inl f10)), (p11, .inl (cT 1, 2048, .inl f12)), (p13, .inl (cT 1, 2048, .inl f14)), (a13, .inr (2, [.ref a14, .int v17, .int v18])), (a14, .inl (cT 2, 4096, .inr (.inl f16))), (a15, .inr (2, [.ref a16, .int v22, .int v23])), (a16, .inl (cT 2, 4096, .inr (.inl f21)))]) hP hD [15, 16] [0, 1, 2, 3, 4, 5, 6, 7, 8, 9, 10, 11, 12, 13, 14] 15 rfl rfl (by decide) (by decide) hk1 hFc hP1 hD1
        generalize H1 = H at hP hS ⊢
        rw [hr9]
        refine W.eq (g2 := F0 m 39 ls [.int o12]) rfl ?_
        obtain ⟨hg15, hf⟩ := xifn hf
        obtain rfl := Option.some.inj hf
        exact absurd (show (0 : Nat) = 1 from hkd) (by decide)
      rw [if_neg hk9] at hf
      by_cases hk16 : o7 = 1
      · rw [if_pos hk16] at hf
        obtain ⟨hPc, hDc, hFc⟩ := xcut (wc := []) hP hD hS hA [] rfl rfl (by decide)
        refine xx_thr (vx_runS (As := [.int 0]) (rest := []) ⟨hx, hb, hml, hown, htx⟩ (gB_demand_1 l hl9 D cT aK aV H.size n (0 : Int32) o7 hq8 hk16) ⟨callB_of 1 htx (xw_goodC kw_1_221) rfl rfl rfl (htx _ kw_1_1) (htx _ kw_1_219) ⟨by decide, by decide, by decide +kernel⟩ ⟨Nat.le_of_ble_eq_true rfl, Nat.le_of_ble_eq_true rfl⟩, htx _ kw_1_220⟩ ⟨xPre_blind, (fun U hU hW => ⟨rfl, xPre_of hZ hS hFc hPc hDc hK U hU hW⟩)⟩ rfl rfl hl.1 rfl (lv_room (Nat.le_of_ble_eq_true rfl)) dB_same_19 ⟨Nat.le_of_ble_eq_true rfl, Nat.le_of_ble_eq_true rfl⟩) hS hFc (fun q _ h => hFc q h) (fun E ce q9 u9 t H1 locs ht hvm _ hB hz1 hk1 hS hce hcv hcl => ?_)
        obtain ⟨rfl, hP1, hK1, hD1⟩ := hB
        rw [ht] at hP1
        obtain ⟨hP, hD⟩ := xjoin (W := [(a0, .inr (0, [.ref a1, .ref a3, .ref a5, .ref a7, .ref a8, .ref a13, .int v19, .int v20])), (a1, .inr (1, [.ref a2, .int v1, .int v2])), (a2, .inl (cT 0, 4096, .inl f0)), (a3, .inr (1, [.ref a4, .int v4, .int v5])), (a4, .inl (cT 0, 4096, .inl f3)), (a5, .inr (1, [.ref a6, .int v7, .int v8])), (a6, .inl (cT 0, 4096, .inl f6)), (a7, .inl (cT 3, 8, .inr (.inr (.inr (.inr rf0))))), (a8, .inr (3, [.ref a9, .ref a10, .ref p11, .ref p13, .int v15])), (a9, .inl (cT 1, 2048, .inl f9)), (a10, .inl (cT 1, 2048, .inl f10)), (p11, .inl (cT 1, 2048, .inl f12)), (p13, .inl (cT 1, 2048, .inl f14)), (a13, .inr (2, [.ref a14, .int v17, .int v18])), (a14, .inl (cT 2, 4096, .inr (.inl f16))), (a15, .inr (2, [.ref a16, .int v22, .int v23])), (a16, .inl (cT 2, 4096, .inr (.inl f21)))]) hP hD [] [0, 1, 2, 3, 4, 5, 6, 7, 8, 9, 10, 11, 12, 13, 14, 15, 16] 17 rfl rfl (by decide) (by decide) hk1 hFc hP1 hD1
        generalize H1 = H at hP hS hce ⊢
        obtain rfl := Option.some.inj hf
        obtain ⟨hP9, hD9⟩ := xsub (wc := [(a0, .inr (0, [.ref a1, .ref a3, .ref a5, .ref a7, .ref a8, .ref a13, .int v19, .int v20])), (a1, .inr (1, [.ref a2, .int v1, .int v2])), (a2, .inl (cT 0, 4096, .inl f0)), (a3, .inr (1, [.ref a4, .int v4, .int v5])), (a4, .inl (cT 0, 4096, .inl f3)), (a5, .inr (1, [.ref a6, .int v7, .int v8])), (a6, .inl (cT 0, 4096, .inl f6)), (a7, .inl (cT 3, 8, .inr (.inr (.inr (.inr rf0))))), (a8, .inr (3, [.ref a9, .ref a10, .ref p11, .ref p13, .int v15])), (a9, .inl (cT 1, 2048, .inl f9)), (a10, .inl (cT 1, 2048, .inl f10)), (p11, .inl (cT 1, 2048, .inl f12)), (p13, .inl (cT 1, 2048, .inl f14)), (a13, .inr (2, [.ref a14, .int v17, .int v18])), (a14, .inl (cT 2, 4096, .inr (.inl f16))), (a15, .inr (2, [.ref a16, .int v22, .int v23])), (a16, .inl (cT 2, 4096, .inr (.inl f21)))]) hP hD [0, 1, 2, 3, 4, 5, 6, 7, 8, 9, 10, 11, 12, 13, 14, 15, 16] rfl rfl (by decide)
        exact vx_out (E := "java/lang/IllegalArgumentException") (fun x h => (hne x h).elim) hlocks hce hcv hcl (fun t ht ha => ⟨(), trivial, ⟨rfl, by rw [ht]; exact hP9, va_K.moved ha hK, hD9⟩, hS.F ht⟩) hS.2.2 (Nat.le_of_ble_eq_true rfl) (Nat.le_of_ble_eq_true rfl)
      rw [if_neg hk16] at hf
      exact nomatch hf
    · rw [if_neg hc] at hf
      refine lv_iconst (v := 1) hx hb dB_same_14 (by decide) ?_
      refine lv_goto (tgt := 19) hx hb dB_same_15 (by decide) ?_
      obtain ⟨o7, hq8, hf⟩ := xbind hf
      by_cases hk9 : o7 = 0
      · rw [if_pos hk9] at hf
        obtain ⟨hPc, hDc, hFc⟩ := xcut (wc := []) hP hD hS hA [] rfl rfl (by decide)
        refine va_callv (va_runS (As := [.int 1]) (rest := []) ⟨hx, hb, hml, hown, htx⟩ (gB_demand l hl9 D cT aK aV H.size n (1 : Int32) o7 hq8 hk9) ⟨callB_of 1 htx (xw_goodC kw_1_221) rfl rfl rfl (htx _ kw_1_1) (htx _ kw_1_219) ⟨by decide, by decide, by decide +kernel⟩ ⟨Nat.le_of_ble_eq_true rfl, Nat.le_of_ble_eq_true rfl⟩, htx _ kw_1_220⟩ ⟨xPre_blind, (fun U hU hW => ⟨rfl, xPre_of hZ hS hFc hPc hDc hK U hU hW⟩)⟩ rfl rfl hl.1 rfl (lv_room (Nat.le_of_ble_eq_true rfl)) dB_same_19 ⟨Nat.le_of_ble_eq_true rfl, Nat.le_of_ble_eq_true rfl⟩) hS (fun q _ h => hFc q h) hFc (fun u9 t H1 locs ht hvm hr9 hB hz1 hk1 hS => ?_)
        obtain ⟨hP1, hK1, hD1⟩ := hB
        rw [ht] at hP1
        obtain ⟨hP, hD⟩ := xjoin (W := [(a0, .inr (0, [.ref a1, .ref a3, .ref a5, .ref a7, .ref a8, .ref a13, .int v19, .int v20])), (a1, .inr (1, [.ref a2, .int v1, .int v2])), (a2, .inl (cT 0, 4096, .inl f0)), (a3, .inr (1, [.ref a4, .int v4, .int v5])), (a4, .inl (cT 0, 4096, .inl f3)), (a5, .inr (1, [.ref a6, .int v7, .int v8])), (a6, .inl (cT 0, 4096, .inl f6)), (a7, .inl (cT 3, 8, .inr (.inr (.inr (.inr rf0))))), (a8, .inr (3, [.ref a9, .ref a10, .ref p11, .ref p13, .int v15])), (a9, .inl (cT 1, 2048, .inl f9)), (a10, .inl (cT 1, 2048, .inl f10)), (p11, .inl (cT 1, 2048, .inl f12)), (p13, .inl (cT 1, 2048, .inl f14)), (a13, .inr (2, [.ref a14, .int v17, .int v18])), (a14, .inl (cT 2, 4096, .inr (.inl f16))), (a15, .inr (2, [.ref a16, .int v22, .int v23])), (a16, .inl (cT 2, 4096, .inr (.inl f21)))]) hP hD [] [0, 1, 2, 3, 4, 5, 6, 7, 8, 9, 10, 11, 12, 13, 14, 15, 16] 17 rfl rfl (by decide) (by decide) hk1 hFc hP1 hD1
        generalize H1 = H at hP hS ⊢
        refine lv_aload_n hx hb dB_same_22 rfl (lv_at hl 0 rfl) ?_
        refine va_get (D := D) (ci := 0) (v := .ref a7) (C := "ValueBench") (T := TB) (N := 8) hx hb htx inB hown hK hP 0 rfl rfl 3 (by decide) (htx _ kw_1_98) (fun _ h9 => h9) rfl dB_same_23 ?_
        refine lv_iload_n hx hb dB_same_26 rfl (lv_at hl 1 rfl) ?_
        obtain ⟨hg10, hf⟩ := xifn hf
        refine va_aldq hx hb hK hP 7 3 rfl rfl hg10 dB_same_27 ?_
        refine W.eq (g2 := F0 m 28 ls [va_rf (rf0 x1.toNatClampNeg)]) rfl ?_
        rw [hr1 hg10]
        refine W.eq (g2 := F0 m 28 ls [.ref a15]) rfl ?_
        refine lv_iconst (v := 0) hx hb dB_same_28 (by decide) ?_
        refine lv_aload_n hx hb dB_same_29 rfl (lv_at hl 0 rfl) ?_
        refine va_get (D := D) (ci := 0) (v := .ref a7) (C := "ValueBench") (T := TB) (N := 8) hx hb htx inB hown hK hP 0 rfl rfl 3 (by decide) (htx _ kw_1_98) (fun _ h9 => h9) rfl dB_same_30 ?_
        refine lv_iload_n hx hb dB_same_33 rfl (lv_at hl 2 rfl) ?_
        obtain ⟨hg11, hf⟩ := xifn hf
        refine va_aldq hx hb hK hP 7 3 rfl rfl hg11 dB_same_34 ?_
        refine W.eq (g2 := F0 m 35 ls [va_rf (rf0 x2.toNatClampNeg), .int 0, .ref a15]) rfl ?_
        rw [hr2 hg11]
        refine W.eq (g2 := F0 m 35 ls [.ref a15, .int 0, .ref a15]) rfl ?_
        refine lv_iconst (v := 0) hx hb dB_same_35 (by decide) ?_
        obtain ⟨o12, hq13, hf⟩ := xbind hf
        obtain ⟨hPc, hDc, hFc⟩ := xcut (wc := [(a15, .inr (2, [.ref a16, .int v22, .int v23])), (a16, .inl (cT 2, 4096, .inr (.inl f21)))]) hP hD hS hA [15, 16] rfl rfl (by decide)
        refine va_calli (va_runS (As := [.ref a15, .int 0, .ref a15, .int 0]) (rest := []) ⟨hx, hb, hml, hown, htx⟩ (gO_isSamea l hl9 D cT aK aV H.size d n a15 a16 (0 : Int32) (0 : Int32) f21 v22 v23 o12 hq13) ⟨callB_of 4 htx (xw_goodC kw_3_161) rfl rfl rfl (htx _ kw_1_23) (htx _ kw_4_18) ⟨by decide, by decide, by decide +kernel⟩ ⟨(by show (16 * d + 1) + 1 ≤ 16 * d + 7; omega), (by show 8 + (4 + 11) + (400 * d + 24) ≤ 400 * d + 120; omega)⟩, htx _ kw_3_160⟩ ⟨xPre_blind, (fun U hU hW => ⟨rfl, xPre_of hZ hS hFc hPc hDc hK U hU hW⟩)⟩ rfl rfl hl.1 rfl (lv_room (Nat.le_of_ble_eq_true rfl)) dB_same_36 ⟨Nat.le_of_ble_eq_true rfl, Nat.le_of_ble_eq_true rfl⟩) hS (fun q _ h => hFc q h) hFc (fun r14 u9 t H1 locs ht hvm hr9 hB hz1 hk1 hS => ?_)
        obtain ⟨hP1, hK1, hD1⟩ := hB
        rw [ht] at hP1
        obtain ⟨hP, hD⟩ := xjoin (W := [(a0, .inr (0, [.ref a1, .ref a3, .ref a5, .ref a7, .ref a8, .ref a13, .int v19, .int v20])), (a1, .inr (1, [.ref a2, .int v1, .int v2])), (a2, .inl (cT 0, 4096, .inl f0)), (a3, .inr (1, [.ref a4, .int v4, .int v5])), (a4, .inl (cT 0, 4096, .inl f3)), (a5, .inr (1, [.ref a6, .int v7, .int v8])), (a6, .inl (cT 0, 4096, .inl f6)), (a7, .inl (cT 3, 8, .inr (.inr (.inr (.inr rf0))))), (a8, .inr (3, [.ref a9, .ref a10, .ref p11, .ref p13, .int v15])), (a9, .inl (cT 1, 2048, .inl f9)), (a10, .inl (cT 1, 2048, .inl f10)), (p11, .inl (cT 1, 2048, .inl f12)), (p13, .inl (cT 1, 2048, .inl f14)), (a13, .inr (2, [.ref a14, .int v17, .int v18])), (a14, .inl (cT 2, 4096, .inr (.inl f16))), (a15, .inr (2, [.ref a16, .int v22, .int v23])), (a16, .inl (cT 2, 4096, .inr (.inl f21)))]) hP hD [15, 16] [0, 1, 2, 3, 4, 5, 6, 7, 8, 9, 10, 11, 12, 13, 14] 15 rfl rfl (by decide) (by decide) hk1 hFc hP1 hD1
        generalize H1 = H at hP hS ⊢
        rw [hr9]
        refine W.eq (g2 := F0 m 39 ls [.int o12]) rfl ?_
        obtain ⟨hg15, hf⟩ := xifn hf
        obtain rfl := Option.some.inj hf
        exact absurd (show (0 : Nat) = 1 from hkd) (by decide)
      rw [if_neg hk9] at hf
      by_cases hk16 : o7 = 1
      · rw [if_pos hk16] at hf
        obtain ⟨hPc, hDc, hFc⟩ := xcut (wc := []) hP hD hS hA [] rfl rfl (by decide)
        refine xx_thr (vx_runS (As := [.int 1]) (rest := []) ⟨hx, hb, hml, hown, htx⟩ (gB_demand_1 l hl9 D cT aK aV H.size n (1 : Int32) o7 hq8 hk16) ⟨callB_of 1 htx (xw_goodC kw_1_221) rfl rfl rfl (htx _ kw_1_1) (htx _ kw_1_219) ⟨by decide, by decide, by decide +kernel⟩ ⟨Nat.le_of_ble_eq_true rfl, Nat.le_of_ble_eq_true rfl⟩, htx _ kw_1_220⟩ ⟨xPre_blind, (fun U hU hW => ⟨rfl, xPre_of hZ hS hFc hPc hDc hK U hU hW⟩)⟩ rfl rfl hl.1 rfl (lv_room (Nat.le_of_ble_eq_true rfl)) dB_same_19 ⟨Nat.le_of_ble_eq_true rfl, Nat.le_of_ble_eq_true rfl⟩) hS hFc (fun q _ h => hFc q h) (fun E ce q9 u9 t H1 locs ht hvm _ hB hz1 hk1 hS hce hcv hcl => ?_)
        obtain ⟨rfl, hP1, hK1, hD1⟩ := hB
        rw [ht] at hP1
        obtain ⟨hP, hD⟩ := xjoin (W := [(a0, .inr (0, [.ref a1, .ref a3, .ref a5, .ref a7, .ref a8, .ref a13, .int v19, .int v20])), (a1, .inr (1, [.ref a2, .int v1, .int v2])), (a2, .inl (cT 0, 4096, .inl f0)), (a3, .inr (1, [.ref a4, .int v4, .int v5])), (a4, .inl (cT 0, 4096, .inl f3)), (a5, .inr (1, [.ref a6, .int v7, .int v8])), (a6, .inl (cT 0, 4096, .inl f6)), (a7, .inl (cT 3, 8, .inr (.inr (.inr (.inr rf0))))), (a8, .inr (3, [.ref a9, .ref a10, .ref p11, .ref p13, .int v15])), (a9, .inl (cT 1, 2048, .inl f9)), (a10, .inl (cT 1, 2048, .inl f10)), (p11, .inl (cT 1, 2048, .inl f12)), (p13, .inl (cT 1, 2048, .inl f14)), (a13, .inr (2, [.ref a14, .int v17, .int v18])), (a14, .inl (cT 2, 4096, .inr (.inl f16))), (a15, .inr (2, [.ref a16, .int v22, .int v23])), (a16, .inl (cT 2, 4096, .inr (.inl f21)))]) hP hD [] [0, 1, 2, 3, 4, 5, 6, 7, 8, 9, 10, 11, 12, 13, 14, 15, 16] 17 rfl rfl (by decide) (by decide) hk1 hFc hP1 hD1
        generalize H1 = H at hP hS hce ⊢
        obtain rfl := Option.some.inj hf
        obtain ⟨hP9, hD9⟩ := xsub (wc := [(a0, .inr (0, [.ref a1, .ref a3, .ref a5, .ref a7, .ref a8, .ref a13, .int v19, .int v20])), (a1, .inr (1, [.ref a2, .int v1, .int v2])), (a2, .inl (cT 0, 4096, .inl f0)), (a3, .inr (1, [.ref a4, .int v4, .int v5])), (a4, .inl (cT 0, 4096, .inl f3)), (a5, .inr (1, [.ref a6, .int v7, .int v8])), (a6, .inl (cT 0, 4096, .inl f6)), (a7, .inl (cT 3, 8, .inr (.inr (.inr (.inr rf0))))), (a8, .inr (3, [.ref a9, .ref a10, .ref p11, .ref p13, .int v15])), (a9, .inl (cT 1, 2048, .inl f9)), (a10, .inl (cT 1, 2048, .inl f10)), (p11, .inl (cT 1, 2048, .inl f12)), (p13, .inl (cT 1, 2048, .inl f14)), (a13, .inr (2, [.ref a14, .int v17, .int v18])), (a14, .inl (cT 2, 4096, .inr (.inl f16))), (a15, .inr (2, [.ref a16, .int v22, .int v23])), (a16, .inl (cT 2, 4096, .inr (.inl f21)))]) hP hD [0, 1, 2, 3, 4, 5, 6, 7, 8, 9, 10, 11, 12, 13, 14, 15, 16] rfl rfl (by decide)
        exact vx_out (E := "java/lang/IllegalArgumentException") (fun x h => (hne x h).elim) hlocks hce hcv hcl (fun t ht ha => ⟨(), trivial, ⟨rfl, by rw [ht]; exact hP9, va_K.moved ha hK, hD9⟩, hS.F ht⟩) hS.2.2 (Nat.le_of_ble_eq_true rfl) (Nat.le_of_ble_eq_true rfl)
      rw [if_neg hk16] at hf
      exact nomatch hf
set_option maxHeartbeats 400000000 in
set_option maxRecDepth 100000 in
theorem gB_one (l : Launch) (hl9 : l.stackTraces = false) (D : va_G) (cT : Nat → ClassId) (aK aV : Nat → Nat) (sz d n : Nat) (a0 : Nat) (a1 : Nat) (a2 : Nat) (a3 : Nat) (a4 : Nat) (a5 : Nat) (a6 : Nat) (a7 : Nat) (a8 : Nat) (a9 : Nat) (a10 : Nat) (a13 : Nat) (a14 : Nat) (a15 : Nat) (a16 : Nat) (rf0 : Nat → Option Nat) (b1 : Nat) (x1 : Int32) (x2 : Int32) (x3 : Int32) (f0 : Nat → Int32) (v1 : Int32) (v2 : Int32) (f3 : Nat → Int32) (v4 : Int32) (v5 : Int32) (f6 : Nat → Int32) (v7 : Int32) (v8 : Int32) (f9 : Nat → Int32) (f10 : Nat → Int32) (p11 : Nat) (f12 : Nat → Int32) (p13 : Nat) (f14 : Nat → Int32) (v15 : Int32) (f16 : Nat → Int64) (v17 : Int32) (v18 : Int32) (v19 : Int32) (v20 : Int32) (f21 : Nat → Int64) (v22 : Int32) (v23 : Int32) (hr1 : ¬ (x1 < 0 ∨ 8 ≤ x1.toNatClampNeg) → rf0 x1.toNatClampNeg = some b1) (hr3 : ¬ (x3 < 0 ∨ 8 ≤ x3.toNatClampNeg) → rf0 x3.toNatClampNeg = some a15) (out : Nat × (Nat → Int32) × Int32 × Int32 × (Nat → Int32) × (Nat → Int32) × Nat × (Nat → Int32) × Nat × Int32 × (Nat → Int64) × Int32 × Int32 × Int32) (hf : fB_one d n x1 x2 x3 f0 v1 v2 f3 v4 v5 f6 v7 v8 f9 f10 p11 f12 p13 f14 v15 f16 v17 v18 v19 v20 f21 v22 v23 = some out) (hkd : out.1 = 0) : xMet l yB_one wyB_one (16 * d + 7) 4 22 (400 * d + 175) D cT aK aV sz [.ref a0, .int x1, .int x2, .int x3] [(a0, .inr (0, [.ref a1, .ref a3, .ref a5, .ref a7, .ref a8, .ref a13, .int v19, .int v20])), (a1, .inr (1, [.ref a2, .int v1, .int v2])), (a2, .inl (cT 0, 4096, .inl f0)), (a3, .inr (1, [.ref a4, .int v4, .int v5])), (a4, .inl (cT 0, 4096, .inl f3)), (a5, .inr (1, [.ref a6, .int v7, .int v8])), (a6, .inl (cT 0, 4096, .inl f6)), (a7, .inl (cT 3, 8, .inr (.inr (.inr (.inr rf0))))), (a8, .inr (3, [.ref a9, .ref a10, .ref p11, .ref p13, .int v15])), (a9, .inl (cT 1, 2048, .inl f9)), (a10, .inl (cT 1, 2048, .inl f10)), (p11, .inl (cT 1, 2048, .inl f12)), (p13, .inl (cT 1, 2048, .inl f14)), (a13, .inr (2, [.ref a14, .int v17, .int v18])), (a14, .inl (cT 2, 4096, .inr (.inl f16))), (a15, .inr (2, [.ref a16, .int v22, .int v23])), (a16, .inl (cT 2, 4096, .inr (.inl f21)))] (fun A => va_Qv (fun _ : Unit => True) (fun _ t => xB D xcl cT A [(a0, .inr (0, [.ref a1, .ref a3, .ref a5, .ref a7, .ref a8, .ref b1, .int v19, .int out.2.2.2.2.2.2.2.2.2.2.2.2.2])), (a1, .inr (1, [.ref a2, .int v1, .int v2])), (a2, .inl (cT 0, 4096, .inl f0)), (a3, .inr (1, [.ref a4, .int v4, .int v5])), (a4, .inl (cT 0, 4096, .inl f3)), (a5, .inr (1, [.ref a6, .int out.2.2.1, .int out.2.2.2.1])), (a6, .inl (cT 0, 4096, .inl out.2.1)), (a7, .inl (cT 3, 8, .inr (.inr (.inr (.inr (va_up rf0 x1.toNatClampNeg (some a13))))))), (a8, .inr (3, [.ref a9, .ref a10, .ref out.2.2.2.2.2.2.1, .ref out.2.2.2.2.2.2.2.2.1, .int out.2.2.2.2.2.2.2.2.2.1])), (a9, .inl (cT 1, 2048, .inl out.2.2.2.2.1)), (a10, .inl (cT 1, 2048, .inl f10)), (out.2.2.2.2.2.2.1, .inl (cT 1, 2048, .inl out.2.2.2.2.2.1)), (out.2.2.2.2.2.2.2.2.1, .inl (cT 1, 2048, .inl out.2.2.2.2.2.2.2.1)), (a13, .inr (2, [.ref a14, .int out.2.2.2.2.2.2.2.2.2.2.2.1, .int out.2.2.2.2.2.2.2.2.2.2.2.2.1])), (a14, .inl (cT 2, 4096, .inr (.inl out.2.2.2.2.2.2.2.2.2.2.1))), (a15, .inr (2, [.ref a16, .int v22, .int v23])), (a16, .inl (cT 2, 4096, .inr (.inl f21)))] t) A) := by
  refine Met.ofW (cc := prog_1_method_9_code) (maxL := 4) (ret := none) (by decide) rfl ?_
  intro p e s m args below meth c s₁ B hml hv
  obtain ⟨rfl, hsz, hZ, hP, hK, hD0⟩ := hv
  have hx := B.exec
  have hb := B.bytes
  have hr := B.returns
  have hts := atoms_spec (ws := wyB_one) B.pre
  have htx := fun w h => hts w (List.mem_cons_of_mem _ h)
  have hown : s.vm.findClass "ValueBench" = some m.cls := findClass_of_methodNamed B.named
  have hlocks := B.notSynchronized
  subst hsz
  have hD := hD0.self (sz := s.heap.size)
  generalize hAe : va_A [(a0, .inr (0, [.ref a1, .ref a3, .ref a5, .ref a7, .ref a8, .ref a13, .int v19, .int v20])), (a1, .inr (1, [.ref a2, .int v1, .int v2])), (a2, .inl (cT 0, 4096, .inl f0)), (a3, .inr (1, [.ref a4, .int v4, .int v5])), (a4, .inl (cT 0, 4096, .inl f3)), (a5, .inr (1, [.ref a6, .int v7, .int v8])), (a6, .inl (cT 0, 4096, .inl f6)), (a7, .inl (cT 3, 8, .inr (.inr (.inr (.inr rf0))))), (a8, .inr (3, [.ref a9, .ref a10, .ref p11, .ref p13, .int v15])), (a9, .inl (cT 1, 2048, .inl f9)), (a10, .inl (cT 1, 2048, .inl f10)), (p11, .inl (cT 1, 2048, .inl f12)), (p13, .inl (cT 1, 2048, .inl f14)), (a13, .inr (2, [.ref a14, .int v17, .int v18])), (a14, .inl (cT 2, 4096, .inr (.inl f16))), (a15, .inr (2, [.ref a16, .int v22, .int v23])), (a16, .inl (cT 2, 4096, .inr (.inl f21)))] s.heap.size = A at hD hZ ⊢
  have hA : ∀ q : Nat, s.heap.size ≤ q → A q := fun q h => by rw [← hAe]; exact Or.inr h
  have hS : va_S A s.heap s.heap [] := va_S.rf
  have hP : va_P D xcl [(a0, .inr (0, [.ref a1, .ref a3, .ref a5, .ref a7, .ref a8, .ref a13, .int v19, .int v20])), (a1, .inr (1, [.ref a2, .int v1, .int v2])), (a2, .inl (cT 0, 4096, .inl f0)), (a3, .inr (1, [.ref a4, .int v4, .int v5])), (a4, .inl (cT 0, 4096, .inl f3)), (a5, .inr (1, [.ref a6, .int v7, .int v8])), (a6, .inl (cT 0, 4096, .inl f6)), (a7, .inl (cT 3, 8, .inr (.inr (.inr (.inr rf0))))), (a8, .inr (3, [.ref a9, .ref a10, .ref p11, .ref p13, .int v15])), (a9, .inl (cT 1, 2048, .inl f9)), (a10, .inl (cT 1, 2048, .inl f10)), (p11, .inl (cT 1, 2048, .inl f12)), (p13, .inl (cT 1, 2048, .inl f14)), (a13, .inr (2, [.ref a14, .int v17, .int v18])), (a14, .inl (cT 2, 4096, .inr (.inl f16))), (a15, .inr (2, [.ref a16, .int v22, .int v23])), (a16, .inl (cT 2, 4096, .inr (.inl f21)))] s.heap := hP
  have hl := lv_entry ([.ref a0, .int x1, .int x2, .int x3]) (n := 4) (Nat.le_of_ble_eq_true rfl)
  rw [lg_entry_eq]
  generalize (lg_sl ([.ref a0, .int x1, .int x2, .int x3]) ++ List.replicate (4 - (lg_sl ([.ref a0, .int x1, .int x2, .int x3])).length) Slot.unset).toArray = ls at hl ⊢
  have hl : lv_has ls 4 [(0, .ref a0), (1, .int x1), (2, .int x2), (3, .int x3)] := hl
  unfold fB_one at hf
  refine lv_iload_n hx hb dB_one_0 rfl (lv_at hl 1 rfl) ?_
  obtain ⟨o1, hq2, hf⟩ := xbind hf
  obtain ⟨hPc, hDc, hFc⟩ := xcut (wc := []) hP hD hS hA [] rfl rfl (by decide)
  refine va_calli (va_runS (As := [.int x1]) (rest := []) ⟨hx, hb, hml, hown, htx⟩ (gB_isRegister l hl9 D cT aK aV s.heap.size n x1 o1 hq2) ⟨callB_of 1 htx (xw_goodC kw_2_18) rfl rfl rfl (htx _ kw_1_1) (htx _ kw_2_16) ⟨by decide, by decide, by decide +kernel⟩ ⟨Nat.le_of_ble_eq_true rfl, Nat.le_of_ble_eq_true rfl⟩, htx _ kw_2_17⟩ ⟨xPre_blind, (fun U hU hW => ⟨rfl, xPre_of hZ hS hFc hPc hDc hK U hU hW⟩)⟩ rfl rfl hl.1 rfl (lv_room (Nat.le_of_ble_eq_true rfl)) dB_one_1 ⟨Nat.le_of_ble_eq_true rfl, Nat.le_of_ble_eq_true rfl⟩) hS (fun q _ h => hFc q h) hFc (fun r3 u9 t H1 locs ht hvm hr9 hB hz1 hk1 hS => ?_)
  obtain ⟨hP1, hK1, hD1⟩ := hB
  rw [ht] at hP1
  obtain ⟨hP, hD⟩ := xjoin (W := [(a0, .inr (0, [.ref a1, .ref a3, .ref a5, .ref a7, .ref a8, .ref a13, .int v19, .int v20])), (a1, .inr (1, [.ref a2, .int v1, .int v2])), (a2, .inl (cT 0, 4096, .inl f0)), (a3, .inr (1, [.ref a4, .int v4, .int v5])), (a4, .inl (cT 0, 4096, .inl f3)), (a5, .inr (1, [.ref a6, .int v7, .int v8])), (a6, .inl (cT 0, 4096, .inl f6)), (a7, .inl (cT 3, 8, .inr (.inr (.inr (.inr rf0))))), (a8, .inr (3, [.ref a9, .ref a10, .ref p11, .ref p13, .int v15])), (a9, .inl (cT 1, 2048, .inl f9)), (a10, .inl (cT 1, 2048, .inl f10)), (p11, .inl (cT 1, 2048, .inl f12)), (p13, .inl (cT 1, 2048, .inl f14)), (a13, .inr (2, [.ref a14, .int v17, .int v18])), (a14, .inl (cT 2, 4096, .inr (.inl f16))), (a15, .inr (2, [.ref a16, .int v22, .int v23])), (a16, .inl (cT 2, 4096, .inr (.inl f21)))]) hP hD [] [0, 1, 2, 3, 4, 5, 6, 7, 8, 9, 10, 11, 12, 13, 14, 15, 16] 17 rfl rfl (by decide) (by decide) hk1 hFc hP1 hD1
  generalize H1 = H at hP hS ⊢
  rw [hr9]
  refine W.eq (g2 := F0 m 4 ls [.int o1]) rfl ?_
  refine lv_if_eq (tgt := 27) hx hb dB_one_4 (by decide) (fun hc => ?_) (fun hc => ?_)
  · rw [if_pos hc] at hf
    refine lv_iconst (v := 0) hx hb dB_one_27 (by decide) ?_
    obtain ⟨o4, hq5, hf⟩ := xbind hf
    by_cases hk6 : o4 = 0
    · rw [if_pos hk6] at hf
      obtain ⟨hPc, hDc, hFc⟩ := xcut (wc := []) hP hD hS hA [] rfl rfl (by decide)
      refine va_callv (va_runS (As := [.int 0]) (rest := []) ⟨hx, hb, hml, hown, htx⟩ (gB_demand l hl9 D cT aK aV H.size n (0 : Int32) o4 hq5 hk6) ⟨callB_of 1 htx (xw_goodC kw_1_221) rfl rfl rfl (htx _ kw_1_1) (htx _ kw_1_219) ⟨by decide, by decide, by decide +kernel⟩ ⟨Nat.le_of_ble_eq_true rfl, Nat.le_of_ble_eq_true rfl⟩, htx _ kw_1_220⟩ ⟨xPre_blind, (fun U hU hW => ⟨rfl, xPre_of hZ hS hFc hPc hDc hK U hU hW⟩)⟩ rfl rfl hl.1 rfl (lv_room (Nat.le_of_ble_eq_true rfl)) dB_one_28 ⟨Nat.le_of_ble_eq_true rfl, Nat.le_of_ble_eq_true rfl⟩) hS (fun q _ h => hFc q h) hFc (fun u9 t H1 locs ht hvm hr9 hB hz1 hk1 hS => ?_)
      obtain ⟨hP1, hK1, hD1⟩ := hB
      rw [ht] at hP1
      obtain ⟨hP, hD⟩ := xjoin (W := [(a0, .inr (0, [.ref a1, .ref a3, .ref a5, .ref a7, .ref a8, .ref a13, .int v19, .int v20])), (a1, .inr (1, [.ref a2, .int v1, .int v2])), (a2, .inl (cT 0, 4096, .inl f0)), (a3, .inr (1, [.ref a4, .int v4, .int v5])), (a4, .inl (cT 0, 4096, .inl f3)), (a5, .inr (1, [.ref a6, .int v7, .int v8])), (a6, .inl (cT 0, 4096, .inl f6)), (a7, .inl (cT 3, 8, .inr (.inr (.inr (.inr rf0))))), (a8, .inr (3, [.ref a9, .ref a10, .ref p11, .ref p13, .int v15])), (a9, .inl (cT 1, 2048, .inl f9)), (a10, .inl (cT 1, 2048, .inl f10)), (p11, .inl (cT 1, 2048, .inl f12)), (p13, .inl (cT 1, 2048, .inl f14)), (a13, .inr (2, [.ref a14, .int v17, .int v18])), (a14, .inl (cT 2, 4096, .inr (.inl f16))), (a15, .inr (2, [.ref a16, .int v22, .int v23])), (a16, .inl (cT 2, 4096, .inr (.inl f21)))]) hP hD [] [0, 1, 2, 3, 4, 5, 6, 7, 8, 9, 10, 11, 12, 13, 14, 15, 16] 17 rfl rfl (by decide) (by decide) hk1 hFc hP1 hD1
      generalize H1 = H at hP hS ⊢
      refine lv_aload_n hx hb dB_one_31 rfl (lv_at hl 0 rfl) ?_
      refine va_get (D := D) (ci := 0) (v := .ref a13) (C := "ValueBench") (T := TB) (N := 8) hx hb htx inB hown hK hP 0 rfl rfl 5 (by decide) (htx _ kw_1_100) (fun _ h9 => h9) rfl dB_one_32 ?_
      obtain ⟨o7, hq8, hf⟩ := xbind hf
      obtain ⟨hPc, hDc, hFc⟩ := xcut (wc := [(a13, .inr (2, [.ref a14, .int v17, .int v18])), (a14, .inl (cT 2, 4096, .inr (.inl f16)))]) hP hD hS hA [13, 14] rfl rfl (by decide)
      refine va_callv (va_runV (C := "ValueBench$Row") (As := []) (rest := []) ⟨hx, hb, hml, hown, htx⟩ (gR_clear l hl9 D cT aK aV H.size n a13 a14 f16 v17 v18 o7 hq8) ⟨callB_of 0 htx (xw_goodC kw_2_22) rfl rfl rfl (htx _ kw_1_4) (htx _ kw_2_19) ⟨by decide, by decide, by decide +kernel⟩ ⟨Nat.le_of_ble_eq_true rfl, Nat.le_of_ble_eq_true rfl⟩, (htx _ kw_2_20), (htx _ kw_2_21)⟩ ⟨xPre_blind, va_recv hK hP (ci := 2) rfl (q0 := 13) rfl, (fun U hU hW => ⟨rfl, xPre_of hZ hS hFc hPc hDc hK U hU hW⟩)⟩ rfl rfl hl.1 rfl (lv_room (Nat.le_of_ble_eq_true rfl)) dB_one_35 ⟨Nat.le_of_ble_eq_true rfl, Nat.le_of_ble_eq_true rfl⟩) hS (fun q _ h => hFc q h) hFc (fun u9 t H1 locs ht hvm hr9 hB hz1 hk1 hS => ?_)
      obtain ⟨hP1, hK1, hD1⟩ := hB
      rw [ht] at hP1
      obtain ⟨hP, hD⟩ := xjoin (W := [(a0, .inr (0, [.ref a1, .ref a3, .ref a5, .ref a7, .ref a8, .ref a13, .int v19, .int v20])), (a1, .inr (1, [.ref a2, .int v1, .int v2])), (a2, .inl (cT 0, 4096, .inl f0)), (a3, .inr (1, [.ref a4, .int v4, .int v5])), (a4, .inl (cT 0, 4096, .inl f3)), (a5, .inr (1, [.ref a6, .int v7, .int v8])), (a6, .inl (cT 0, 4096, .inl f6)), (a7, .inl (cT 3, 8, .inr (.inr (.inr (.inr rf0))))), (a8, .inr (3, [.ref a9, .ref a10, .ref p11, .ref p13, .int v15])), (a9, .inl (cT 1, 2048, .inl f9)), (a10, .inl (cT 1, 2048, .inl f10)), (p11, .inl (cT 1, 2048, .inl f12)), (p13, .inl (cT 1, 2048, .inl f14)), (a15, .inr (2, [.ref a16, .int v22, .int v23])), (a16, .inl (cT 2, 4096, .inr (.inl f21))), (a13, .inr (2, [.ref a14, .int o7.1, .int o7.2])), (a14, .inl (cT 2, 4096, .inr (.inl f16)))]) hP hD [13, 14] [0, 1, 2, 3, 4, 5, 6, 7, 8, 9, 10, 11, 12, 15, 16] 15 rfl rfl (by decide) (by decide) hk1 hFc hP1 hD1
      generalize H1 = H at hP hS ⊢
      refine lv_aload_n hx hb dB_one_38 rfl (lv_at hl 0 rfl) ?_
      refine lv_iload_n hx hb dB_one_39 rfl (lv_at hl 2 rfl) ?_
      refine lv_aload_n hx hb dB_one_40 rfl (lv_at hl 0 rfl) ?_
      refine va_get (D := D) (ci := 0) (v := .ref a7) (C := "ValueBench") (T := TB) (N := 8) hx hb htx inB hown hK hP 0 rfl rfl 3 (by decide) (htx _ kw_1_98) (fun _ h9 => h9) rfl dB_one_41 ?_
      refine lv_iload_n hx hb dB_one_44 rfl (lv_at hl 3 rfl) ?_
      obtain ⟨hg9, hf⟩ := xifn hf
      refine va_aldq hx hb hK hP 7 3 rfl rfl hg9 dB_one_45 ?_
      refine W.eq (g2 := F0 m 46 ls [va_rf (rf0 x3.toNatClampNeg), .int x2, .ref a0]) rfl ?_
      rw [hr3 hg9]
      refine W.eq (g2 := F0 m 46 ls [.ref a15, .int x2, .ref a0]) rfl ?_
      refine lv_aload_n hx hb dB_one_46 rfl (lv_at hl 0 rfl) ?_
      refine va_get (D := D) (ci := 0) (v := .ref a5) (C := "ValueBench") (T := TB) (N := 8) hx hb htx inB hown hK hP 0 rfl rfl 2 (by decide) (htx _ kw_1_97) (fun _ h9 => h9) rfl dB_one_47 ?_
      refine lv_aload_n hx hb dB_one_50 rfl (lv_at hl 0 rfl) ?_
      refine va_get (D := D) (ci := 0) (v := .ref a8) (C := "ValueBench") (T := TB) (N := 8) hx hb htx inB hown hK hP 0 rfl rfl 4 (by decide) (htx _ kw_1_99) (fun _ h9 => h9) rfl dB_one_51 ?_
      refine lv_aload_n hx hb dB_one_54 rfl (lv_at hl 0 rfl) ?_
      refine va_get (D := D) (ci := 0) (v := .ref a13) (C := "ValueBench") (T := TB) (N := 8) hx hb htx inB hown hK hP 0 rfl rfl 5 (by decide) (htx _ kw_1_100) (fun _ h9 => h9) rfl dB_one_55 ?_
      obtain ⟨o10, hq11, hf⟩ := xbind hf
      obtain ⟨hPc, hDc, hFc⟩ := xcut (wc := [(a15, .inr (2, [.ref a16, .int v22, .int v23])), (a16, .inl (cT 2, 4096, .inr (.inl f21))), (a5, .inr (1, [.ref a6, .int v7, .int v8])), (a6, .inl (cT 0, 4096, .inl f6)), (a8, .inr (3, [.ref a9, .ref a10, .ref p11, .ref p13, .int v15])), (a9, .inl (cT 1, 2048, .inl f9)), (a10, .inl (cT 1, 2048, .inl f10)), (p11, .inl (cT 1, 2048, .inl f12)), (p13, .inl (cT 1, 2048, .inl f14)), (a13, .inr (2, [.ref a14, .int o7.1, .int o7.2])), (a14, .inl (cT 2, 4096, .inr (.inl f16)))]) hP hD hS hA [13, 14, 5, 6, 8, 9, 10, 11, 12, 15, 16] rfl rfl (by decide)
      refine va_calli (va_runS (As := [.int x2, .ref a15, .ref a5, .ref a8, .ref a13]) (rest := [.ref a0]) ⟨hx, hb, hml, hown, htx⟩ (gG_apply l hl9 D cT aK aV H.size d n a15 a16 a5 a6 a8 a9 a10 a13 a14 x2 f21 v22 v23 f6 v7 v8 f9 f10 p11 f12 p13 f14 v15 f16 o7.1 o7.2 o10 hq11) ⟨callB_of 5 htx (xw_goodC kw_4_28) rfl rfl rfl (htx _ kw_1_26) (htx _ kw_4_26) ⟨by decide, by decide, by decide +kernel⟩ ⟨(by show (16 * d + 5) + 1 ≤ 16 * d + 7; omega), (by show 8 + (5 + 11) + (400 * d + 151) ≤ 400 * d + 175; omega)⟩, htx _ kw_4_27⟩ ⟨xPre_blind, (fun U hU hW => ⟨rfl, xPre_of hZ hS hFc hPc hDc hK U hU hW⟩)⟩ rfl rfl hl.1 rfl (lv_room (Nat.le_of_ble_eq_true rfl)) dB_one_58 ⟨Nat.le_of_ble_eq_true rfl, Nat.le_of_ble_eq_true rfl⟩) hS (fun q _ h => hFc q h) hFc (fun r12 u9 t H1 locs ht hvm hr9 hB hz1 hk1 hS => ?_)
      obtain ⟨hP1, hK1, hD1⟩ := hB
      rw [ht] at hP1
      obtain ⟨hP, hD⟩ := xjoin (W := [(a0, .inr (0, [.ref a1, .ref a3, .ref a5, .ref a7, .ref a8, .ref a13, .int v19, .int v20])), (a1, .inr (1, [.ref a2, .int v1, .int v2])), (a2, .inl (cT 0, 4096, .inl f0)), (a3, .inr (1, [.ref a4, .int v4, .int v5])), (a4, .inl (cT 0, 4096, .inl f3)), (a7, .inl (cT 3, 8, .inr (.inr (.inr (.inr rf0))))), (a15, .inr (2, [.ref a16, .int v22, .int v23])), (a16, .inl (cT 2, 4096, .inr (.inl f21))), (a5, .inr (1, [.ref a6, .int o10.2.2.1, .int o10.2.2.2.1])), (a6, .inl (cT 0, 4096, .inl o10.2.1)), (a8, .inr (3, [.ref a9, .ref a10, .ref o10.2.2.2.2.2.2.1, .ref o10.2.2.2.2.2.2.2.2.1, .int o10.2.2.2.2.2.2.2.2.2.1])), (a9, .inl (cT 1, 2048, .inl o10.2.2.2.2.1)), (a10, .inl (cT 1, 2048, .inl f10)), (o10.2.2.2.2.2.2.1, .inl (cT 1, 2048, .inl o10.2.2.2.2.2.1)), (o10.2.2.2.2.2.2.2.2.1, .inl (cT 1, 2048, .inl o10.2.2.2.2.2.2.2.1)), (a13, .inr (2, [.ref a14, .int o10.2.2.2.2.2.2.2.2.2.2.2.1, .int o10.2.2.2.2.2.2.2.2.2.2.2.2])), (a14, .inl (cT 2, 4096, .inr (.inl o10.2.2.2.2.2.2.2.2.2.2.1)))]) hP hD [13, 14, 5, 6, 8, 9, 10, 11, 12, 15, 16] [0, 1, 2, 3, 4, 7] 6 rfl rfl (by decide) (by decide) hk1 hFc hP1 hD1
      generalize H1 = H at hP hS ⊢
      rw [hr9]
      refine W.eq (g2 := F0 m 61 ls [.int o10.1, .ref a0]) rfl ?_
      obtain ⟨o13, hq14, hf⟩ := xbind hf
      by_cases hk15 : o13.1 = 0
      · rw [if_pos hk15] at hf
        obtain ⟨hPc, hDc, hFc⟩ := xcut (wc := [(a0, .inr (0, [.ref a1, .ref a3, .ref a5, .ref a7, .ref a8, .ref a13, .int v19, .int v20])), (a1, .inr (1, [.ref a2, .int v1, .int v2])), (a2, .inl (cT 0, 4096, .inl f0)), (a3, .inr (1, [.ref a4, .int v4, .int v5])), (a4, .inl (cT 0, 4096, .inl f3)), (a5, .inr (1, [.ref a6, .int o10.2.2.1, .int o10.2.2.2.1])), (a6, .inl (cT 0, 4096, .inl o10.2.1)), (a7, .inl (cT 3, 8, .inr (.inr (.inr (.inr rf0))))), (a8, .inr (3, [.ref a9, .ref a10, .ref o10.2.2.2.2.2.2.1, .ref o10.2.2.2.2.2.2.2.2.1, .int o10.2.2.2.2.2.2.2.2.2.1])), (a9, .inl (cT 1, 2048, .inl o10.2.2.2.2.1)), (a10, .inl (cT 1, 2048, .inl f10)), (o10.2.2.2.2.2.2.1, .inl (cT 1, 2048, .inl o10.2.2.2.2.2.1)), (o10.2.2.2.2.2.2.2.2.1, .inl (cT 1, 2048, .inl o10.2.2.2.2.2.2.2.1)), (a13, .inr (2, [.ref a14, .int o10.2.2.2.2.2.2.2.2.2.2.2.1, .int o10.2.2.2.2.2.2.2.2.2.2.2.2])), (a14, .inl (cT 2, 4096, .inr (.inl o10.2.2.2.2.2.2.2.2.2.2.1)))]) hP hD hS hA [0, 1, 2, 3, 4, 8, 9, 5, 10, 11, 12, 13, 14, 15, 16] rfl rfl (by decide)
        refine va_callv (va_runV (C := "ValueBench") (As := [.int o10.1]) (rest := []) ⟨hx, hb, hml, hown, htx⟩ (gB_demandDone l hl9 D cT aK aV H.size n a0 a1 a2 a3 a4 a5 a6 a7 a8 a9 a10 a13 a14 rf0 o10.1 f0 v1 v2 f3 v4 v5 o10.2.1 o10.2.2.1 o10.2.2.2.1 o10.2.2.2.2.1 f10 o10.2.2.2.2.2.2.1 o10.2.2.2.2.2.1 o10.2.2.2.2.2.2.2.2.1 o10.2.2.2.2.2.2.2.1 o10.2.2.2.2.2.2.2.2.2.1 o10.2.2.2.2.2.2.2.2.2.2.1 o10.2.2.2.2.2.2.2.2.2.2.2.1 o10.2.2.2.2.2.2.2.2.2.2.2.2 v19 v20 o13 hq14 hk15) ⟨callB_of 1 htx (xw_goodC kw_3_222) rfl rfl rfl (htx _ kw_1_1) (htx _ kw_3_219) ⟨by decide, by decide, by decide +kernel⟩ ⟨Nat.le_of_ble_eq_true rfl, Nat.le_of_ble_eq_true rfl⟩, (htx _ kw_3_221), (htx _ kp_B_demandDone)⟩ ⟨xPre_blind, va_recv hK hP (ci := 0) rfl (q0 := 0) rfl, (fun U hU hW => ⟨rfl, xPre_of hZ hS hFc hPc hDc hK U hU hW⟩)⟩ rfl rfl hl.1 rfl (lv_room (Nat.le_of_ble_eq_true rfl)) dB_one_61 ⟨Nat.le_of_ble_eq_true rfl, Nat.le_of_ble_eq_true rfl⟩) hS (fun q _ h => hFc q h) hFc (fun u9 t H1 locs ht hvm hr9 hB hz1 hk1 hS => ?_)
        obtain ⟨hP1, hK1, hD1⟩ := hB
        rw [ht] at hP1
        obtain ⟨hP, hD⟩ := xjoin (W := [(a15, .inr (2, [.ref a16, .int v22, .int v23])), (a16, .inl (cT 2, 4096, .inr (.inl f21))), (a0, .inr (0, [.ref a1, .ref a3, .ref a5, .ref a7, .ref a8, .ref a13, .int v19, .int o13.2])), (a1, .inr (1, [.ref a2, .int v1, .int v2])), (a2, .inl (cT 0, 4096, .inl f0)), (a3, .inr (1, [.ref a4, .int v4, .int v5])), (a4, .inl (cT 0, 4096, .inl f3)), (a5, .inr (1, [.ref a6, .int o10.2.2.1, .int o10.2.2.2.1])), (a6, .inl (cT 0, 4096, .inl o10.2.1)), (a7, .inl (cT 3, 8, .inr (.inr (.inr (.inr rf0))))), (a8, .inr (3, [.ref a9, .ref a10, .ref o10.2.2.2.2.2.2.1, .ref o10.2.2.2.2.2.2.2.2.1, .int o10.2.2.2.2.2.2.2.2.2.1])), (a9, .inl (cT 1, 2048, .inl o10.2.2.2.2.1)), (a10, .inl (cT 1, 2048, .inl f10)), (o10.2.2.2.2.2.2.1, .inl (cT 1, 2048, .inl o10.2.2.2.2.2.1)), (o10.2.2.2.2.2.2.2.2.1, .inl (cT 1, 2048, .inl o10.2.2.2.2.2.2.2.1)), (a13, .inr (2, [.ref a14, .int o10.2.2.2.2.2.2.2.2.2.2.2.1, .int o10.2.2.2.2.2.2.2.2.2.2.2.2])), (a14, .inl (cT 2, 4096, .inr (.inl o10.2.2.2.2.2.2.2.2.2.2.1)))]) hP hD [0, 1, 2, 3, 4, 8, 9, 5, 10, 11, 12, 13, 14, 15, 16] [6, 7] 2 rfl rfl (by decide) (by decide) hk1 hFc hP1 hD1
        generalize H1 = H at hP hS ⊢
        refine lv_aload_n hx hb dB_one_64 rfl (lv_at hl 0 rfl) ?_
        refine lv_iload_n hx hb dB_one_65 rfl (lv_at hl 1 rfl) ?_
        obtain ⟨o16, hq17, hf⟩ := xbind hf
        by_cases hk18 : o16.1 = 0
        · rw [if_pos hk18] at hf
          obtain ⟨hPc, hDc, hFc⟩ := xcut (wc := [(a0, .inr (0, [.ref a1, .ref a3, .ref a5, .ref a7, .ref a8, .ref a13, .int v19, .int o13.2])), (a1, .inr (1, [.ref a2, .int v1, .int v2])), (a2, .inl (cT 0, 4096, .inl f0)), (a3, .inr (1, [.ref a4, .int v4, .int v5])), (a4, .inl (cT 0, 4096, .inl f3)), (a5, .inr (1, [.ref a6, .int o10.2.2.1, .int o10.2.2.2.1])), (a6, .inl (cT 0, 4096, .inl o10.2.1)), (a7, .inl (cT 3, 8, .inr (.inr (.inr (.inr rf0))))), (a8, .inr (3, [.ref a9, .ref a10, .ref o10.2.2.2.2.2.2.1, .ref o10.2.2.2.2.2.2.2.2.1, .int o10.2.2.2.2.2.2.2.2.2.1])), (a9, .inl (cT 1, 2048, .inl o10.2.2.2.2.1)), (a10, .inl (cT 1, 2048, .inl f10)), (o10.2.2.2.2.2.2.1, .inl (cT 1, 2048, .inl o10.2.2.2.2.2.1)), (o10.2.2.2.2.2.2.2.2.1, .inl (cT 1, 2048, .inl o10.2.2.2.2.2.2.2.1)), (a13, .inr (2, [.ref a14, .int o10.2.2.2.2.2.2.2.2.2.2.2.1, .int o10.2.2.2.2.2.2.2.2.2.2.2.2])), (a14, .inl (cT 2, 4096, .inr (.inl o10.2.2.2.2.2.2.2.2.2.2.1)))]) hP hD hS hA [2, 3, 4, 5, 6, 7, 8, 9, 10, 11, 12, 13, 14, 15, 16] rfl rfl (by decide)
          refine va_calli (va_runV (C := "ValueBench") (As := [.int x1]) (rest := []) ⟨hx, hb, hml, hown, htx⟩ (gB_keepSpare l hl9 D cT aK aV H.size d n a0 a1 a2 a3 a4 a5 a6 a7 a8 a9 a10 a13 a14 rf0 b1 x1 f0 v1 v2 f3 v4 v5 o10.2.1 o10.2.2.1 o10.2.2.2.1 o10.2.2.2.2.1 f10 o10.2.2.2.2.2.2.1 o10.2.2.2.2.2.1 o10.2.2.2.2.2.2.2.2.1 o10.2.2.2.2.2.2.2.1 o10.2.2.2.2.2.2.2.2.2.1 o10.2.2.2.2.2.2.2.2.2.2.1 o10.2.2.2.2.2.2.2.2.2.2.2.1 o10.2.2.2.2.2.2.2.2.2.2.2.2 v19 o13.2 hr1 o16 hq17 hk18) ⟨callB_of 1 htx (xw_goodC kw_3_17) rfl rfl rfl (htx _ kw_1_1) (htx _ kw_3_14) ⟨by decide, by decide, by decide +kernel⟩ ⟨(by show (16 * d + 6) + 1 ≤ 16 * d + 7; omega), (by show 8 + (3 + 11) + (400 * d + 100) ≤ 400 * d + 175; omega)⟩, (htx _ kw_3_16), (htx _ kp_B_keepSpare)⟩ ⟨xPre_blind, va_recv hK hP (ci := 0) rfl (q0 := 2) rfl, (fun U hU hW => ⟨rfl, xPre_of hZ hS hFc hPc hDc hK U hU hW⟩)⟩ rfl rfl hl.1 rfl (lv_room (Nat.le_of_ble_eq_true rfl)) dB_one_66 ⟨Nat.le_of_ble_eq_true rfl, Nat.le_of_ble_eq_true rfl⟩) hS (fun q _ h => hFc q h) hFc (fun r19 u9 t H1 locs ht hvm hr9 hB hz1 hk1 hS => ?_)
          obtain ⟨hP1, hK1, hD1⟩ := hB
          rw [ht] at hP1
          obtain ⟨hP, hD⟩ := xjoin (W := [(a15, .inr (2, [.ref a16, .int v22, .int v23])), (a16, .inl (cT 2, 4096, .inr (.inl f21))), (a0, .inr (0, [.ref a1, .ref a3, .ref a5, .ref a7, .ref a8, .ref b1, .int v19, .int o13.2])), (a1, .inr (1, [.ref a2, .int v1, .int v2])), (a2, .inl (cT 0, 4096, .inl f0)), (a3, .inr (1, [.ref a4, .int v4, .int v5])), (a4, .inl (cT 0, 4096, .inl f3)), (a5, .inr (1, [.ref a6, .int o16.2.2.2.1, .int o16.2.2.2.2])), (a6, .inl (cT 0, 4096, .inl o16.2.2.1)), (a7, .inl (cT 3, 8, .inr (.inr (.inr (.inr (va_up rf0 x1.toNatClampNeg (some a13))))))), (a8, .inr (3, [.ref a9, .ref a10, .ref o10.2.2.2.2.2.2.1, .ref o10.2.2.2.2.2.2.2.2.1, .int o10.2.2.2.2.2.2.2.2.2.1])), (a9, .inl (cT 1, 2048, .inl o10.2.2.2.2.1)), (a10, .inl (cT 1, 2048, .inl f10)), (o10.2.2.2.2.2.2.1, .inl (cT 1, 2048, .inl o10.2.2.2.2.2.1)), (o10.2.2.2.2.2.2.2.2.1, .inl (cT 1, 2048, .inl o10.2.2.2.2.2.2.2.1)), (a13, .inr (2, [.ref a14, .int o10.2.2.2.2.2.2.2.2.2.2.2.1, .int o10.2.2.2.2.2.2.2.2.2.2.2.2])), (a14, .inl (cT 2, 4096, .inr (.inl o10.2.2.2.2.2.2.2.2.2.2.1)))]) hP hD [2, 3, 4, 5, 6, 7, 8, 9, 10, 11, 12, 13, 14, 15, 16] [0, 1] 2 rfl rfl (by decide) (by decide) hk1 hFc hP1 hD1
          generalize H1 = H at hP hS ⊢
          rw [hr9]
          refine W.eq (g2 := F0 m 69 ls [.int o16.2.1]) rfl ?_
          refine lv_pop hx hb dB_one_69 rfl ?_
          obtain rfl := Option.some.inj hf
          obtain ⟨hP9, hD9⟩ := xsub (wc := [(a0, .inr (0, [.ref a1, .ref a3, .ref a5, .ref a7, .ref a8, .ref b1, .int v19, .int o13.2])), (a1, .inr (1, [.ref a2, .int v1, .int v2])), (a2, .inl (cT 0, 4096, .inl f0)), (a3, .inr (1, [.ref a4, .int v4, .int v5])), (a4, .inl (cT 0, 4096, .inl f3)), (a5, .inr (1, [.ref a6, .int o16.2.2.2.1, .int o16.2.2.2.2])), (a6, .inl (cT 0, 4096, .inl o16.2.2.1)), (a7, .inl (cT 3, 8, .inr (.inr (.inr (.inr (va_up rf0 x1.toNatClampNeg (some a13))))))), (a8, .inr (3, [.ref a9, .ref a10, .ref o10.2.2.2.2.2.2.1, .ref o10.2.2.2.2.2.2.2.2.1, .int o10.2.2.2.2.2.2.2.2.2.1])), (a9, .inl (cT 1, 2048, .inl o10.2.2.2.2.1)), (a10, .inl (cT 1, 2048, .inl f10)), (o10.2.2.2.2.2.2.1, .inl (cT 1, 2048, .inl o10.2.2.2.2.2.1)), (o10.2.2.2.2.2.2.2.2.1, .inl (cT 1, 2048, .inl o10.2.2.2.2.2.2.2.1)), (a13, .inr (2, [.ref a14, .int o10.2.2.2.2.2.2.2.2.2.2.2.1, .int o10.2.2.2.2.2.2.2.2.2.2.2.2])), (a14, .inl (cT 2, 4096, .inr (.inl o10.2.2.2.2.2.2.2.2.2.2.1))), (a15, .inr (2, [.ref a16, .int v22, .int v23])), (a16, .inl (cT 2, 4096, .inr (.inl f21)))]) hP hD [2, 3, 4, 5, 6, 7, 8, 9, 10, 11, 12, 13, 14, 15, 16, 0, 1] rfl rfl (by decide)
          refine W.widen (k := 4) (n := 22) (Nat.le_of_ble_eq_true rfl) (Nat.le_of_ble_eq_true rfl) ?_
          exact W.vret hx hb hr (fun t ht hW => ⟨⟨(), rfl, trivial, by rw [ht]; exact hP9, va_K.moved hW.alike hK, hD9⟩, hS.F ht⟩) hS.2.2 dB_one_70
        rw [if_neg hk18] at hf
        by_cases hk20 : o16.1 = 1
        · rw [if_pos hk20] at hf
          obtain rfl := Option.some.inj hf
          exact absurd (show (1 : Nat) = 0 from hkd) (by decide)
        rw [if_neg hk20] at hf
        exact nomatch hf
      rw [if_neg hk15] at hf
      by_cases hk22 : o13.1 = 1
      · rw [if_pos hk22] at hf
        obtain rfl := Option.some.inj hf
        exact absurd (show (2 : Nat) = 0 from hkd) (by decide)
      rw [if_neg hk22] at hf
      exact nomatch hf
    rw [if_neg hk6] at hf
    by_cases hk23 : o4 = 1
    · rw [if_pos hk23] at hf
      obtain rfl := Option.some.inj hf
      exact absurd (show (3 : Nat) = 0 from hkd) (by decide)
    rw [if_neg hk23] at hf
    exact nomatch hf
  · rw [if_neg hc] at hf
    refine lv_iload_n hx hb dB_one_7 rfl (lv_at hl 2 rfl) ?_
    refine lv_bipush (v := 13) hx hb dB_one_8 (by decide) ?_
    obtain ⟨o4, hq5, hf⟩ := xbind hf
    obtain ⟨hPc, hDc, hFc⟩ := xcut (wc := []) hP hD hS hA [] rfl rfl (by decide)
    refine va_calli (va_runS (As := [.int x2, .int 13]) (rest := []) ⟨hx, hb, hml, hown, htx⟩ (gB_isWithin l hl9 D cT aK aV H.size n x2 (13 : Int32) o4 hq5) ⟨callB_of 2 htx (xw_goodC kw_1_218) rfl rfl rfl (htx _ kw_1_1) (htx _ kw_1_216) ⟨by decide, by decide, by decide +kernel⟩ ⟨Nat.le_of_ble_eq_true rfl, Nat.le_of_ble_eq_true rfl⟩, htx _ kw_1_217⟩ ⟨xPre_blind, (fun U hU hW => ⟨rfl, xPre_of hZ hS hFc hPc hDc hK U hU hW⟩)⟩ rfl rfl hl.1 rfl (lv_room (Nat.le_of_ble_eq_true rfl)) dB_one_10 ⟨Nat.le_of_ble_eq_true rfl, Nat.le_of_ble_eq_true rfl⟩) hS (fun q _ h => hFc q h) hFc (fun r6 u9 t H1 locs ht hvm hr9 hB hz1 hk1 hS => ?_)
    obtain ⟨hP1, hK1, hD1⟩ := hB
    rw [ht] at hP1
    obtain ⟨hP, hD⟩ := xjoin (W := [(a0, .inr (0, [.ref a1, .ref a3, .ref a5, .ref a7, .ref a8, .ref a13, .int v19, .int v20])), (a1, .inr (1, [.ref a2, .int v1, .int v2])), (a2, .inl (cT 0, 4096, .inl f0)), (a3, .inr (1, [.ref a4, .int v4, .int v5])), (a4, .inl (cT 0, 4096, .inl f3)), (a5, .inr (1, [.ref a6, .int v7, .int v8])), (a6, .inl (cT 0, 4096, .inl f6)), (a7, .inl (cT 3, 8, .inr (.inr (.inr (.inr rf0))))), (a8, .inr (3, [.ref a9, .ref a10, .ref p11, .ref p13, .int v15])), (a9, .inl (cT 1, 2048, .inl f9)), (a10, .inl (cT 1, 2048, .inl f10)), (p11, .inl (cT 1, 2048, .inl f12)), (p13, .inl (cT 1, 2048, .inl f14)), (a13, .inr (2, [.ref a14, .int v17, .int v18])), (a14, .inl (cT 2, 4096, .inr (.inl f16))), (a15, .inr (2, [.ref a16, .int v22, .int v23])), (a16, .inl (cT 2, 4096, .inr (.inl f21)))]) hP hD [] [0, 1, 2, 3, 4, 5, 6, 7, 8, 9, 10, 11, 12, 13, 14, 15, 16] 17 rfl rfl (by decide) (by decide) hk1 hFc hP1 hD1
    generalize H1 = H at hP hS ⊢
    rw [hr9]
    refine W.eq (g2 := F0 m 13 ls [.int o4]) rfl ?_
    refine lv_if_eq (tgt := 27) hx hb dB_one_13 (by decide) (fun hc => ?_) (fun hc => ?_)
    · rw [if_pos hc] at hf
      refine lv_iconst (v := 0) hx hb dB_one_27 (by decide) ?_
      obtain ⟨o7, hq8, hf⟩ := xbind hf
      by_cases hk9 : o7 = 0
      · rw [if_pos hk9] at hf
        obtain ⟨hPc, hDc, hFc⟩ := xcut (wc := []) hP hD hS hA [] rfl rfl (by decide)
        refine va_callv (va_runS (As := [.int 0]) (rest := []) ⟨hx, hb, hml, hown, htx⟩ (gB_demand l hl9 D cT aK aV H.size n (0 : Int32) o7 hq8 hk9) ⟨callB_of 1 htx (xw_goodC kw_1_221) rfl rfl rfl (htx _ kw_1_1) (htx _ kw_1_219) ⟨by decide, by decide, by decide +kernel⟩ ⟨Nat.le_of_ble_eq_true rfl, Nat.le_of_ble_eq_true rfl⟩, htx _ kw_1_220⟩ ⟨xPre_blind, (fun U hU hW => ⟨rfl, xPre_of hZ hS hFc hPc hDc hK U hU hW⟩)⟩ rfl rfl hl.1 rfl (lv_room (Nat.le_of_ble_eq_true rfl)) dB_one_28 ⟨Nat.le_of_ble_eq_true rfl, Nat.le_of_ble_eq_true rfl⟩) hS (fun q _ h => hFc q h) hFc (fun u9 t H1 locs ht hvm hr9 hB hz1 hk1 hS => ?_)
        obtain ⟨hP1, hK1, hD1⟩ := hB
        rw [ht] at hP1
        obtain ⟨hP, hD⟩ := xjoin (W := [(a0, .inr (0, [.ref a1, .ref a3, .ref a5, .ref a7, .ref a8, .ref a13, .int v19, .int v20])), (a1, .inr (1, [.ref a2, .int v1, .int v2])), (a2, .inl (cT 0, 4096, .inl f0)), (a3, .inr (1, [.ref a4, .int v4, .int v5])), (a4, .inl (cT 0, 4096, .inl f3)), (a5, .inr (1, [.ref a6, .int v7, .int v8])), (a6, .inl (cT 0, 4096, .inl f6)), (a7, .inl (cT 3, 8, .inr (.inr (.inr (.inr rf0))))), (a8, .inr (3, [.ref a9, .ref a10, .ref p11, .ref p13, .int v15])), (a9, .inl (cT 1, 2048, .inl f9)), (a10, .inl (cT 1, 2048, .inl f10)), (p11, .inl (cT 1, 2048, .inl f12)), (p13, .inl (cT 1, 2048, .inl f14)), (a13, .inr (2, [.ref a14, .int v17, .int v18])), (a14, .inl (cT 2, 4096, .inr (.inl f16))), (a15, .inr (2, [.ref a16, .int v22, .int v23])), (a16, .inl (cT 2, 4096, .inr (.inl f21)))]) hP hD [] [0, 1, 2, 3, 4, 5, 6, 7, 8, 9, 10, 11, 12, 13, 14, 15, 16] 17 rfl rfl (by decide) (by decide) hk1 hFc hP1 hD1
        generalize H1 = H at hP hS ⊢
        refine lv_aload_n hx hb dB_one_31 rfl (lv_at hl 0 rfl) ?_
        refine va_get (D := D) (ci := 0) (v := .ref a13) (C := "ValueBench") (T := TB) (N := 8) hx hb htx inB hown hK hP 0 rfl rfl 5 (by decide) (htx _ kw_1_100) (fun _ h9 => h9) rfl dB_one_32 ?_
        obtain ⟨o10, hq11, hf⟩ := xbind hf
        obtain ⟨hPc, hDc, hFc⟩ := xcut (wc := [(a13, .inr (2, [.ref a14, .int v17, .int v18])), (a14, .inl (cT 2, 4096, .inr (.inl f16)))]) hP hD hS hA [13, 14] rfl rfl (by decide)
        refine va_callv (va_runV (C := "ValueBench$Row") (As := []) (rest := []) ⟨hx, hb, hml, hown, htx⟩ (gR_clear l hl9 D cT aK aV H.size n a13 a14 f16 v17 v18 o10 hq11) ⟨callB_of 0 htx (xw_goodC kw_2_22) rfl rfl rfl (htx _ kw_1_4) (htx _ kw_2_19) ⟨by decide, by decide, by decide +kernel⟩ ⟨Nat.le_of_ble_eq_true rfl, Nat.le_of_ble_eq_true rfl⟩, (htx _ kw_2_20), (htx _ kw_2_21)⟩ ⟨xPre_blind, va_recv hK hP (ci := 2) rfl (q0 := 13) rfl, (fun U hU hW => ⟨rfl, xPre_of hZ hS hFc hPc hDc hK U hU hW⟩)⟩ rfl rfl hl.1 rfl (lv_room (Nat.le_of_ble_eq_true rfl)) dB_one_35 ⟨Nat.le_of_ble_eq_true rfl, Nat.le_of_ble_eq_true rfl⟩) hS (fun q _ h => hFc q h) hFc (fun u9 t H1 locs ht hvm hr9 hB hz1 hk1 hS => ?_)
        obtain ⟨hP1, hK1, hD1⟩ := hB
        rw [ht] at hP1
        obtain ⟨hP, hD⟩ := xjoin (W := [(a0, .inr (0, [.ref a1, .ref a3, .ref a5, .ref a7, .ref a8, .ref a13, .int v19, .int v20])), (a1, .inr (1, [.ref a2, .int v1, .int v2])), (a2, .inl (cT 0, 4096, .inl f0)), (a3, .inr (1, [.ref a4, .int v4, .int v5])), (a4, .inl (cT 0, 4096, .inl f3)), (a5, .inr (1, [.ref a6, .int v7, .int v8])), (a6, .inl (cT 0, 4096, .inl f6)), (a7, .inl (cT 3, 8, .inr (.inr (.inr (.inr rf0))))), (a8, .inr (3, [.ref a9, .ref a10, .ref p11, .ref p13, .int v15])), (a9, .inl (cT 1, 2048, .inl f9)), (a10, .inl (cT 1, 2048, .inl f10)), (p11, .inl (cT 1, 2048, .inl f12)), (p13, .inl (cT 1, 2048, .inl f14)), (a15, .inr (2, [.ref a16, .int v22, .int v23])), (a16, .inl (cT 2, 4096, .inr (.inl f21))), (a13, .inr (2, [.ref a14, .int o10.1, .int o10.2])), (a14, .inl (cT 2, 4096, .inr (.inl f16)))]) hP hD [13, 14] [0, 1, 2, 3, 4, 5, 6, 7, 8, 9, 10, 11, 12, 15, 16] 15 rfl rfl (by decide) (by decide) hk1 hFc hP1 hD1
        generalize H1 = H at hP hS ⊢
        refine lv_aload_n hx hb dB_one_38 rfl (lv_at hl 0 rfl) ?_
        refine lv_iload_n hx hb dB_one_39 rfl (lv_at hl 2 rfl) ?_
        refine lv_aload_n hx hb dB_one_40 rfl (lv_at hl 0 rfl) ?_
        refine va_get (D := D) (ci := 0) (v := .ref a7) (C := "ValueBench") (T := TB) (N := 8) hx hb htx inB hown hK hP 0 rfl rfl 3 (by decide) (htx _ kw_1_98) (fun _ h9 => h9) rfl dB_one_41 ?_
        refine lv_iload_n hx hb dB_one_44 rfl (lv_at hl 3 rfl) ?_
        obtain ⟨hg12, hf⟩ := xifn hf
        refine va_aldq hx hb hK hP 7 3 rfl rfl hg12 dB_one_45 ?_
        refine W.eq (g2 := F0 m 46 ls [va_rf (rf0 x3.toNatClampNeg), .int x2, .ref a0]) rfl ?_
        rw [hr3 hg12]
        refine W.eq (g2 := F0 m 46 ls [.ref a15, .int x2, .ref a0]) rfl ?_
        refine lv_aload_n hx hb dB_one_46 rfl (lv_at hl 0 rfl) ?_
        refine va_get (D := D) (ci := 0) (v := .ref a5) (C := "ValueBench") (T := TB) (N := 8) hx hb htx inB hown hK hP 0 rfl rfl 2 (by decide) (htx _ kw_1_97) (fun _ h9 => h9) rfl dB_one_47 ?_
        refine lv_aload_n hx hb dB_one_50 rfl (lv_at hl 0 rfl) ?_
        refine va_get (D := D) (ci := 0) (v := .ref a8) (C := "ValueBench") (T := TB) (N := 8) hx hb htx inB hown hK hP 0 rfl rfl 4 (by decide) (htx _ kw_1_99) (fun _ h9 => h9) rfl dB_one_51 ?_
        refine lv_aload_n hx hb dB_one_54 rfl (lv_at hl 0 rfl) ?_
        refine va_get (D := D) (ci := 0) (v := .ref a13) (C := "ValueBench") (T := TB) (N := 8) hx hb htx inB hown hK hP 0 rfl rfl 5 (by decide) (htx _ kw_1_100) (fun _ h9 => h9) rfl dB_one_55 ?_
        obtain ⟨o13, hq14, hf⟩ := xbind hf
        obtain ⟨hPc, hDc, hFc⟩ := xcut (wc := [(a15, .inr (2, [.ref a16, .int v22, .int v23])), (a16, .inl (cT 2, 4096, .inr (.inl f21))), (a5, .inr (1, [.ref a6, .int v7, .int v8])), (a6, .inl (cT 0, 4096, .inl f6)), (a8, .inr (3, [.ref a9, .ref a10, .ref p11, .ref p13, .int v15])), (a9, .inl (cT 1, 2048, .inl f9)), (a10, .inl (cT 1, 2048, .inl f10)), (p11, .inl (cT 1, 2048, .inl f12)), (p13, .inl (cT 1, 2048, .inl f14)), (a13, .inr (2, [.ref a14, .int o10.1, .int o10.2])), (a14, .inl (cT 2, 4096, .inr (.inl f16)))]) hP hD hS hA [13, 14, 5, 6, 8, 9, 10, 11, 12, 15, 16] rfl rfl (by decide)
        refine va_calli (va_runS (As := [.int x2, .ref a15, .ref a5, .ref a8, .ref a13]) (rest := [.ref a0]) ⟨hx, hb, hml, hown, htx⟩ (gG_apply l hl9 D cT aK aV H.size d n a15 a16 a5 a6 a8 a9 a10 a13 a14 x2 f21 v22 v23 f6 v7 v8 f9 f10 p11 f12 p13 f14 v15 f16 o10.1 o10.2 o13 hq14) ⟨callB_of 5 htx (xw_goodC kw_4_28) rfl rfl rfl (htx _ kw_1_26) (htx _ kw_4_26) ⟨by decide, by decide, by decide +kernel⟩ ⟨(by show (16 * d + 5) + 1 ≤ 16 * d + 7; omega), (by show 8 + (5 + 11) + (400 * d + 151) ≤ 400 * d + 175; omega)⟩, htx _ kw_4_27⟩ ⟨xPre_blind, (fun U hU hW => ⟨rfl, xPre_of hZ hS hFc hPc hDc hK U hU hW⟩)⟩ rfl rfl hl.1 rfl (lv_room (Nat.le_of_ble_eq_true rfl)) dB_one_58 ⟨Nat.le_of_ble_eq_true rfl, Nat.le_of_ble_eq_true rfl⟩) hS (fun q _ h => hFc q h) hFc (fun r15 u9 t H1 locs ht hvm hr9 hB hz1 hk1 hS => ?_)
        obtain ⟨hP1, hK1, hD1⟩ := hB
        rw [ht] at hP1
        obtain ⟨hP, hD⟩ := xjoin (W := [(a0, .inr (0, [.ref a1, .ref a3, .ref a5, .ref a7, .ref a8, .ref a13, .int v19, .int v20])), (a1, .inr (1, [.ref a2, .int v1, .int v2])), (a2, .inl (cT 0, 4096, .inl f0)), (a3, .inr (1, [.ref a4, .int v4, .int v5])), (a4, .inl (cT 0, 4096, .inl f3)), (a7, .inl (cT 3, 8, .inr (.inr (.inr (.inr rf0))))), (a15, .inr (2, [.ref a16, .int v22, .int v23])), (a16, .inl (cT 2, 4096, .inr (.inl f21))), (a5, .inr (1, [.ref a6, .int o13.2.2.1, .int o13.2.2.2.1])), (a6, .inl (cT 0, 4096, .inl o13.2.1)), (a8, .inr (3, [.ref a9, .ref a10, .ref o13.2.2.2.2.2.2.1, .ref o13.2.2.2.2.2.2.2.2.1, .int o13.2.2.2.2.2.2.2.2.2.1])), (a9, .inl (cT 1, 2048, .inl o13.2.2.2.2.1)), (a10, .inl (cT 1, 2048, .inl f10)), (o13.2.2.2.2.2.2.1, .inl (cT 1, 2048, .inl o13.2.2.2.2.2.1)), (o13.2.2.2.2.2.2.2.2.1, .inl (cT 1, 2048, .inl o13.2.2.2.2.2.2.2.1)), (a13, .inr (2, [.ref a14, .int o13.2.2.2.2.2.2.2.2.2.2.2.1, .int o13.2.2.2.2.2.2.2.2.2.2.2.2])), (a14, .inl (cT 2, 4096, .inr (.inl o13.2.2.2.2.2.2.2.2.2.2.1)))]) hP hD [13, 14, 5, 6, 8, 9, 10, 11, 12, 15, 16] [0, 1, 2, 3, 4, 7] 6 rfl rfl (by decide) (by decide) hk1 hFc hP1 hD1
        generalize H1 = H at hP hS ⊢
        rw [hr9]
        refine W.eq (g2 := F0 m 61 ls [.int o13.1, .ref a0]) rfl ?_
        obtain ⟨o16, hq17, hf⟩ := xbind hf
        by_cases hk18 : o16.1 = 0
        · rw [if_pos hk18] at hf
          obtain ⟨hPc, hDc, hFc⟩ := xcut (wc := [(a0, .inr (0, [.ref a1, .ref a3, .ref a5, .ref a7, .ref a8, .ref a13, .int v19, .int v20])), (a1, .inr (1, [.ref a2, .int v1, .int v2])), (a2, .inl (cT 0, 4096, .inl f0)), (a3, .inr (1, [.ref a4, .int v4, .int v5])), (a4, .inl (cT 0, 4096, .inl f3)), (a5, .inr (1, [.ref a6, .int o13.2.2.1, .int o13.2.2.2.1])), (a6, .inl (cT 0, 4096, .inl o13.2.1)), (a7, .inl (cT 3, 8, .inr (.inr (.inr (.inr rf0))))), (a8, .inr (3, [.ref a9, .ref a10, .ref o13.2.2.2.2.2.2.1, .ref o13.2.2.2.2.2.2.2.2.1, .int o13.2.2.2.2.2.2.2.2.2.1])), (a9, .inl (cT 1, 2048, .inl o13.2.2.2.2.1)), (a10, .inl (cT 1, 2048, .inl f10)), (o13.2.2.2.2.2.2.1, .inl (cT 1, 2048, .inl o13.2.2.2.2.2.1)), (o13.2.2.2.2.2.2.2.2.1, .inl (cT 1, 2048, .inl o13.2.2.2.2.2.2.2.1)), (a13, .inr (2, [.ref a14, .int o13.2.2.2.2.2.2.2.2.2.2.2.1, .int o13.2.2.2.2.2.2.2.2.2.2.2.2])), (a14, .inl (cT 2, 4096, .inr (.inl o13.2.2.2.2.2.2.2.2.2.2.1)))]) hP hD hS hA [0, 1, 2, 3, 4, 8, 9, 5, 10, 11, 12, 13, 14, 15, 16] rfl rfl (by decide)
          refine va_callv (va_runV (C := "ValueBench") (As := [.int o13.1]) (rest := []) ⟨hx, hb, hml, hown, htx⟩ (gB_demandDone l hl9 D cT aK aV H.size n a0 a1 a2 a3 a4 a5 a6 a7 a8 a9 a10 a13 a14 rf0 o13.1 f0 v1 v2 f3 v4 v5 o13.2.1 o13.2.2.1 o13.2.2.2.1 o13.2.2.2.2.1 f10 o13.2.2.2.2.2.2.1 o13.2.2.2.2.2.1 o13.2.2.2.2.2.2.2.2.1 o13.2.2.2.2.2.2.2.1 o13.2.2.2.2.2.2.2.2.2.1 o13.2.2.2.2.2.2.2.2.2.2.1 o13.2.2.2.2.2.2.2.2.2.2.2.1 o13.2.2.2.2.2.2.2.2.2.2.2.2 v19 v20 o16 hq17 hk18) ⟨callB_of 1 htx (xw_goodC kw_3_222) rfl rfl rfl (htx _ kw_1_1) (htx _ kw_3_219) ⟨by decide, by decide, by decide +kernel⟩ ⟨Nat.le_of_ble_eq_true rfl, Nat.le_of_ble_eq_true rfl⟩, (htx _ kw_3_221), (htx _ kp_B_demandDone)⟩ ⟨xPre_blind, va_recv hK hP (ci := 0) rfl (q0 := 0) rfl, (fun U hU hW => ⟨rfl, xPre_of hZ hS hFc hPc hDc hK U hU hW⟩)⟩ rfl rfl hl.1 rfl (lv_room (Nat.le_of_ble_eq_true rfl)) dB_one_61 ⟨Nat.le_of_ble_eq_true rfl, Nat.le_of_ble_eq_true rfl⟩) hS (fun q _ h => hFc q h) hFc (fun u9 t H1 locs ht hvm hr9 hB hz1 hk1 hS => ?_)
          obtain ⟨hP1, hK1, hD1⟩ := hB
          rw [ht] at hP1
          obtain ⟨hP, hD⟩ := xjoin (W := [(a15, .inr (2, [.ref a16, .int v22, .int v23])), (a16, .inl (cT 2, 4096, .inr (.inl f21))), (a0, .inr (0, [.ref a1, .ref a3, .ref a5, .ref a7, .ref a8, .ref a13, .int v19, .int o16.2])), (a1, .inr (1, [.ref a2, .int v1, .int v2])), (a2, .inl (cT 0, 4096, .inl f0)), (a3, .inr (1, [.ref a4, .int v4, .int v5])), (a4, .inl (cT 0, 4096, .inl f3)), (a5, .inr (1, [.ref a6, .int o13.2.2.1, .int o13.2.2.2.1])), (a6, .inl (cT 0, 4096, .inl o13.2.1)), (a7, .inl (cT 3, 8, .inr (.inr (.inr (.inr rf0))))), (a8, .inr (3, [.ref a9, .ref a10, .ref o13.2.2.2.2.2.2.1, .ref o13.2.2.2.2.2.2.2.2.1, .int o13.2.2.2.2.2.2.2.2.2.1])), (a9, .inl (cT 1, 2048, .inl o13.2.2.2.2.1)), (a10, .inl (cT 1, 2048, .inl f10)), (o13.2.2.2.2.2.2.1, .inl (cT 1, 2048, .inl o13.2.2.2.2.2.1)), (o13.2.2.2.2.2.2.2.2.1, .inl (cT 1, 2048, .inl o13.2.2.2.2.2.2.2.1)), (a13, .inr (2, [.ref a14, .int o13.2.2.2.2.2.2.2.2.2.2.2.1, .int o13.2.2.2.2.2.2.2.2.2.2.2.2])), (a14, .inl (cT 2, 4096, .inr (.inl o13.2.2.2.2.2.2.2.2.2.2.1)))]) hP hD [0, 1, 2, 3, 4, 8, 9, 5, 10, 11, 12, 13, 14, 15, 16] [6, 7] 2 rfl rfl (by decide) (by decide) hk1 hFc hP1 hD1
          generalize H1 = H at hP hS ⊢
          refine lv_aload_n hx hb dB_one_64 rfl (lv_at hl 0 rfl) ?_
          refine lv_iload_n hx hb dB_one_65 rfl (lv_at hl 1 rfl) ?_
          obtain ⟨o19, hq20, hf⟩ := xbind hf
          by_cases hk21 : o19.1 = 0
          · rw [if_pos hk21] at hf
            obtain ⟨hPc, hDc, hFc⟩ := xcut (wc := [(a0, .inr (0, [.ref a1, .ref a3, .ref a5, .ref a7, .ref a8, .ref a13, .int v19, .int o16.2])), (a1, .inr (1, [.ref a2, .int v1, .int v2])), (a2, .inl (cT 0, 4096, .inl f0)), (a3, .inr (1, [.ref a4, .int v4, .int v5])), (a4, .inl (cT 0, 4096, .inl f3)), (a5, .inr (1, [.ref a6, .int o13.2.2.1, .int o13.2.2.2.1])), (a6, .inl (cT 0, 4096, .inl o13.2.1)), (a7, .inl (cT 3, 8, .inr (.inr (.inr (.inr rf0))))), (a8, .inr (3, [.ref a9, .ref a10, .ref o13.2.2.2.2.2.2.1, .ref o13.2.2.2.2.2.2.2.2.1, .int o13.2.2.2.2.2.2.2.2.2.1])), (a9, .inl (cT 1, 2048, .inl o13.2.2.2.2.1)), (a10, .inl (cT 1, 2048, .inl f10)), (o13.2.2.2.2.2.2.1, .inl (cT 1, 2048, .inl o13.2.2.2.2.2.1)), (o13.2.2.2.2.2.2.2.2.1, .inl (cT 1, 2048, .inl o13.2.2.2.2.2.2.2.1)), (a13, .inr (2, [.ref a14, .int o13.2.2.2.2.2.2.2.2.2.2.2.1, .int o13.2.2.2.2.2.2.2.2.2.2.2.2])), (a14, .inl (cT 2, 4096, .inr (.inl o13.2.2.2.2.2.2.2.2.2.2.1)))]) hP hD hS hA [2, 3, 4, 5, 6, 7, 8, 9, 10, 11, 12, 13, 14, 15, 16] rfl rfl (by decide)
            refine va_calli (va_runV (C := "ValueBench") (As := [.int x1]) (rest := []) ⟨hx, hb, hml, hown, htx⟩ (gB_keepSpare l hl9 D cT aK aV H.size d n a0 a1 a2 a3 a4 a5 a6 a7 a8 a9 a10 a13 a14 rf0 b1 x1 f0 v1 v2 f3 v4 v5 o13.2.1 o13.2.2.1 o13.2.2.2.1 o13.2.2.2.2.1 f10 o13.2.2.2.2.2.2.1 o13.2.2.2.2.2.1 o13.2.2.2.2.2.2.2.2.1 o13.2.2.2.2.2.2.2.1 o13.2.2.2.2.2.2.2.2.2.1 o13.2.2.2.2.2.2.2.2.2.2.1 o13.2.2.2.2.2.2.2.2.2.2.2.1 o13.2.2.2.2.2.2.2.2.2.2.2.2 v19 o16.2 hr1 o19 hq20 hk21) ⟨callB_of 1 htx (xw_goodC kw_3_17) rfl rfl rfl (htx _ kw_1_1) (htx _ kw_3_14) ⟨by decide, by decide, by decide +kernel⟩ ⟨(by show (16 * d + 6) + 1 ≤ 16 * d + 7; omega), (by show 8 + (3 + 11) + (400 * d + 100) ≤ 400 * d + 175; omega)⟩, (htx _ kw_3_16), (htx _ kp_B_keepSpare)⟩ ⟨xPre_blind, va_recv hK hP (ci := 0) rfl (q0 := 2) rfl, (fun U hU hW => ⟨rfl, xPre_of hZ hS hFc hPc hDc hK U hU hW⟩)⟩ rfl rfl hl.1 rfl (lv_room (Nat.le_of_ble_eq_true rfl)) dB_one_66 ⟨Nat.le_of_ble_eq_true rfl, Nat.le_of_ble_eq_true rfl⟩) hS (fun q _ h => hFc q h) hFc (fun r22 u9 t H1 locs ht hvm hr9 hB hz1 hk1 hS => ?_)
            obtain ⟨hP1, hK1, hD1⟩ := hB
            rw [ht] at hP1
            obtain ⟨hP, hD⟩ := xjoin (W := [(a15, .inr (2, [.ref a16, .int v22, .int v23])), (a16, .inl (cT 2, 4096, .inr (.inl f21))), (a0, .inr (0, [.ref a1, .ref a3, .ref a5, .ref a7, .ref a8, .ref b1, .int v19, .int o16.2])), (a1, .inr (1, [.ref a2, .int v1, .int v2])), (a2, .inl (cT 0, 4096, .inl f0)), (a3, .inr (1, [.ref a4, .int v4, .int v5])), (a4, .inl (cT 0, 4096, .inl f3)), (a5, .inr (1, [.ref a6, .int o19.2.2.2.1, .int o19.2.2.2.2])), (a6, .inl (cT 0, 4096, .inl o19.2.2.1)), (a7, .inl (cT 3, 8, .inr (.inr (.inr (.inr (va_up rf0 x1.toNatClampNeg (some a13))))))), (a8, .inr (3, [.ref a9, .ref a10, .ref o13.2.2.2.2.2.2.1, .ref o13.2.2.2.2.2.2.2.2.1, .int o13.2.2.2.2.2.2.2.2.2.1])), (a9, .inl (cT 1, 2048, .inl o13.2.2.2.2.1)), (a10, .inl (cT 1, 2048, .inl f10)), (o13.2.2.2.2.2.2.1, .inl (cT 1, 2048, .inl o13.2.2.2.2.2.1)), (o13.2.2.2.2.2.2.2.2.1, .inl (cT 1, 2048, .inl o13.2.2.2.2.2.2.2.1)), (a13, .inr (2, [.ref a14, .int o13.2.2.2.2.2.2.2.2.2.2.2.1, .int o13.2.2.2.2.2.2.2.2.2.2.2.2])), (a14, .inl (cT 2, 4096, .inr (.inl o13.2.2.2.2.2.2.2.2.2.2.1)))]) hP hD [2, 3, 4, 5, 6, 7, 8, 9, 10, 11, 12, 13, 14, 15, 16] [0, 1] 2 rfl rfl (by decide) (by decide) hk1 hFc hP1 hD1
            generalize H1 = H at hP hS ⊢
            rw [hr9]
            refine W.eq (g2 := F0 m 69 ls [.int o19.2.1]) rfl ?_
            refine lv_pop hx hb dB_one_69 rfl ?_
            obtain rfl := Option.some.inj hf
            obtain ⟨hP9, hD9⟩ := xsub (wc := [(a0, .inr (0, [.ref a1, .ref a3, .ref a5, .ref a7, .ref a8, .ref b1, .int v19, .int o16.2])), (a1, .inr (1, [.ref a2, .int v1, .int v2])), (a2, .inl (cT 0, 4096, .inl f0)), (a3, .inr (1, [.ref a4, .int v4, .int v5])), (a4, .inl (cT 0, 4096, .inl f3)), (a5, .inr (1, [.ref a6, .int o19.2.2.2.1, .int o19.2.2.2.2])), (a6, .inl (cT 0, 4096, .inl o19.2.2.1)), (a7, .inl (cT 3, 8, .inr (.inr (.inr (.inr (va_up rf0 x1.toNatClampNeg (some a13))))))), (a8, .inr (3, [.ref a9, .ref a10, .ref o13.2.2.2.2.2.2.1, .ref o13.2.2.2.2.2.2.2.2.1, .int o13.2.2.2.2.2.2.2.2.2.1])), (a9, .inl (cT 1, 2048, .inl o13.2.2.2.2.1)), (a10, .inl (cT 1, 2048, .inl f10)), (o13.2.2.2.2.2.2.1, .inl (cT 1, 2048, .inl o13.2.2.2.2.2.1)), (o13.2.2.2.2.2.2.2.2.1, .inl (cT 1, 2048, .inl o13.2.2.2.2.2.2.2.1)), (a13, .inr (2, [.ref a14, .int o13.2.2.2.2.2.2.2.2.2.2.2.1, .int o13.2.2.2.2.2.2.2.2.2.2.2.2])), (a14, .inl (cT 2, 4096, .inr (.inl o13.2.2.2.2.2.2.2.2.2.2.1))), (a15, .inr (2, [.ref a16, .int v22, .int v23])), (a16, .inl (cT 2, 4096, .inr (.inl f21)))]) hP hD [2, 3, 4, 5, 6, 7, 8, 9, 10, 11, 12, 13, 14, 15, 16, 0, 1] rfl rfl (by decide)
            refine W.widen (k := 4) (n := 22) (Nat.le_of_ble_eq_true rfl) (Nat.le_of_ble_eq_true rfl) ?_
            exact W.vret hx hb hr (fun t ht hW => ⟨⟨(), rfl, trivial, by rw [ht]; exact hP9, va_K.moved hW.alike hK, hD9⟩, hS.F ht⟩) hS.2.2 dB_one_70
          rw [if_neg hk21] at hf
          by_cases hk23 : o19.1 = 1
          · rw [if_pos hk23] at hf
            obtain rfl := Option.some.inj hf
            exact absurd (show (1 : Nat) = 0 from hkd) (by decide)
          rw [if_neg hk23] at hf
          exact nomatch hf
        rw [if_neg hk18] at hf
        by_cases hk25 : o16.1 = 1
        · rw [if_pos hk25] at hf
          obtain rfl := Option.some.inj hf
          exact absurd (show (2 : Nat) = 0 from hkd) (by decide)
        rw [if_neg hk25] at hf
        exact nomatch hf
      rw [if_neg hk9] at hf
      by_cases hk26 : o7 = 1
      · rw [if_pos hk26] at hf
        obtain rfl := Option.some.inj hf
        exact absurd (show (3 : Nat) = 0 from hkd) (by decide)
      rw [if_neg hk26] at hf
      exact nomatch hf
    · rw [if_neg hc] at hf
      refine lv_iload_n hx hb dB_one_16 rfl (lv_at hl 3 rfl) ?_
      obtain ⟨o7, hq8, hf⟩ := xbind hf
      obtain ⟨hPc, hDc, hFc⟩ := xcut (wc := []) hP hD hS hA [] rfl rfl (by decide)
      refine va_calli (va_runS (As := [.int x3]) (rest := []) ⟨hx, hb, hml, hown, htx⟩ (gB_isRegister l hl9 D cT aK aV H.size n x3 o7 hq8) ⟨callB_of 1 htx (xw_goodC kw_2_18) rfl rfl rfl (htx _ kw_1_1) (htx _ kw_2_16) ⟨by decide, by decide, by decide +kernel⟩ ⟨Nat.le_of_ble_eq_true rfl, Nat.le_of_ble_eq_true rfl⟩, htx _ kw_2_17⟩ ⟨xPre_blind, (fun U hU hW => ⟨rfl, xPre_of hZ hS hFc hPc hDc hK U hU hW⟩)⟩ rfl rfl hl.1 rfl (lv_room (Nat.le_of_ble_eq_true rfl)) dB_one_17 ⟨Nat.le_of_ble_eq_true rfl, Nat.le_of_ble_eq_true rfl⟩) hS (fun q _ h => hFc q h) hFc (fun r9 u9 t H1 locs ht hvm hr9 hB hz1 hk1 hS => ?_)
      obtain ⟨hP1, hK1, hD1⟩ := hB
      rw [ht] at hP1
      obtain ⟨hP, hD⟩ := xjoin (W := [(a0, .inr (0, [.ref a1, .ref a3, .ref a5, .ref a7, .ref a8, .ref a13, .int v19, .int v20])), (a1, .inr (1, [.ref a2, .int v1, .int v2])), (a2, .inl (cT 0, 4096, .inl f0)), (a3, .inr (1, [.ref a4, .int v4, .int v5])), (a4, .inl (cT 0, 4096, .inl f3)), (a5, .inr (1, [.ref a6, .int v7, .int v8])), (a6, .inl (cT 0, 4096, .inl f6)), (a7, .inl (cT 3, 8, .inr (.inr (.inr (.inr rf0))))), (a8, .inr (3, [.ref a9, .ref a10, .ref p11, .ref p13, .int v15])), (a9, .inl (cT 1, 2048, .inl f9)), (a10, .inl (cT 1, 2048, .inl f10)), (p11, .inl (cT 1, 2048, .inl f12)), (p13, .inl (cT 1, 2048, .inl f14)), (a13, .inr (2, [.ref a14, .int v17, .int v18])), (a14, .inl (cT 2, 4096, .inr (.inl f16))), (a15, .inr (2, [.ref a16, .int v22, .int v23])), (a16, .inl (cT 2, 4096, .inr (.inl f21)))]) hP hD [] [0, 1, 2, 3, 4, 5, 6, 7, 8, 9, 10, 11, 12, 13, 14, 15, 16] 17 rfl rfl (by decide) (by decide) hk1 hFc hP1 hD1
      generalize H1 = H at hP hS ⊢
      rw [hr9]
      refine W.eq (g2 := F0 m 20 ls [.int o7]) rfl ?_
      refine lv_if_eq (tgt := 27) hx hb dB_one_20 (by decide) (fun hc => ?_) (fun hc => ?_)
      · rw [if_pos hc] at hf
        refine lv_iconst (v := 0) hx hb dB_one_27 (by decide) ?_
        obtain ⟨o10, hq11, hf⟩ := xbind hf
        by_cases hk12 : o10 = 0
        · rw [if_pos hk12] at hf
          obtain ⟨hPc, hDc, hFc⟩ := xcut (wc := []) hP hD hS hA [] rfl rfl (by decide)
          refine va_callv (va_runS (As := [.int 0]) (rest := []) ⟨hx, hb, hml, hown, htx⟩ (gB_demand l hl9 D cT aK aV H.size n (0 : Int32) o10 hq11 hk12) ⟨callB_of 1 htx (xw_goodC kw_1_221) rfl rfl rfl (htx _ kw_1_1) (htx _ kw_1_219) ⟨by decide, by decide, by decide +kernel⟩ ⟨Nat.le_of_ble_eq_true rfl, Nat.le_of_ble_eq_true rfl⟩, htx _ kw_1_220⟩ ⟨xPre_blind, (fun U hU hW => ⟨rfl, xPre_of hZ hS hFc hPc hDc hK U hU hW⟩)⟩ rfl rfl hl.1 rfl (lv_room (Nat.le_of_ble_eq_true rfl)) dB_one_28 ⟨Nat.le_of_ble_eq_true rfl, Nat.le_of_ble_eq_true rfl⟩) hS (fun q _ h => hFc q h) hFc (fun u9 t H1 locs ht hvm hr9 hB hz1 hk1 hS => ?_)
          obtain ⟨hP1, hK1, hD1⟩ := hB
          rw [ht] at hP1
          obtain ⟨hP, hD⟩ := xjoin (W := [(a0, .inr (0, [.ref a1, .ref a3, .ref a5, .ref a7, .ref a8, .ref a13, .int v19, .int v20])), (a1, .inr (1, [.ref a2, .int v1, .int v2])), (a2, .inl (cT 0, 4096, .inl f0)), (a3, .inr (1, [.ref a4, .int v4, .int v5])), (a4, .inl (cT 0, 4096, .inl f3)), (a5, .inr (1, [.ref a6, .int v7, .int v8])), (a6, .inl (cT 0, 4096, .inl f6)), (a7, .inl (cT 3, 8, .inr (.inr (.inr (.inr rf0))))), (a8, .inr (3, [.ref a9, .ref a10, .ref p11, .ref p13, .int v15])), (a9, .inl (cT 1, 2048, .inl f9)), (a10, .inl (cT 1, 2048, .inl f10)), (p11, .inl (cT 1, 2048, .inl f12)), (p13, .inl (cT 1, 2048, .inl f14)), (a13, .inr (2, [.ref a14, .int v17, .int v18])), (a14, .inl (cT 2, 4096, .inr (.inl f16))), (a15, .inr (2, [.ref a16, .int v22, .int v23])), (a16, .inl (cT 2, 4096, .inr (.inl f21)))]) hP hD [] [0, 1, 2, 3, 4, 5, 6, 7, 8, 9, 10, 11, 12, 13, 14, 15, 16] 17 rfl rfl (by decide) (by decide) hk1 hFc hP1 hD1
          generalize H1 = H at hP hS ⊢
          refine lv_aload_n hx hb dB_one_31 rfl (lv_at hl 0 rfl) ?_
          refine va_get (D := D) (ci := 0) (v := .ref a13) (C := "ValueBench") (T := TB) (N := 8) hx hb htx inB hown hK hP 0 rfl rfl 5 (by decide) (htx _ kw_1_100) (fun _ h9 => h9) rfl dB_one_32 ?_
          obtain ⟨o13, hq14, hf⟩ := xbind hf
          obtain ⟨hPc, hDc, hFc⟩ := xcut (wc := [(a13, .inr (2, [.ref a14, .int v17, .int v18])), (a14, .inl (cT 2, 4096, .inr (.inl f16)))]) hP hD hS hA [13, 14] rfl rfl (by decide)
          refine va_callv (va_runV (C := "ValueBench$Row") (As := []) (rest := []) ⟨hx, hb, hml, hown, htx⟩ (gR_clear l hl9 D cT aK aV H.size n a13 a14 f16 v17 v18 o13 hq14) ⟨callB_of 0 htx (xw_goodC kw_2_22) rfl rfl rfl (htx _ kw_1_4) (htx _ kw_2_19) ⟨by decide, by decide, by decide +kernel⟩ ⟨Nat.le_of_ble_eq_true rfl, Nat.le_of_ble_eq_true rfl⟩, (htx _ kw_2_20), (htx _ kw_2_21)⟩ ⟨xPre_blind, va_recv hK hP (ci := 2) rfl (q0 := 13) rfl, (fun U hU hW => ⟨rfl, xPre_of hZ hS hFc hPc hDc hK U hU hW⟩)⟩ rfl rfl hl.1 rfl (lv_room (Nat.le_of_ble_eq_true rfl)) dB_one_35 ⟨Nat.le_of_ble_eq_true rfl, Nat.le_of_ble_eq_true rfl⟩) hS (fun q _ h => hFc q h) hFc (fun u9 t H1 locs ht hvm hr9 hB hz1 hk1 hS => ?_)
          obtain ⟨hP1, hK1, hD1⟩ := hB
          rw [ht] at hP1
          obtain ⟨hP, hD⟩ := xjoin (W := [(a0, .inr (0, [.ref a1, .ref a3, .ref a5, .ref a7, .ref a8, .ref a13, .int v19, .int v20])), (a1, .inr (1, [.ref a2, .int v1, .int v2])), (a2, .inl (cT 0, 4096, .inl f0)), (a3, .inr (1, [.ref a4, .int v4, .int v5])), (a4, .inl (cT 0, 4096, .inl f3)), (a5, .inr (1, [.ref a6, .int v7, .int v8])), (a6, .inl (cT 0, 4096, .inl f6)), (a7, .inl (cT 3, 8, .inr (.inr (.inr (.inr rf0))))), (a8, .inr (3, [.ref a9, .ref a10, .ref p11, .ref p13, .int v15])), (a9, .inl (cT 1, 2048, .inl f9)), (a10, .inl (cT 1, 2048, .inl f10)), (p11, .inl (cT 1, 2048, .inl f12)), (p13, .inl (cT 1, 2048, .inl f14)), (a15, .inr (2, [.ref a16, .int v22, .int v23])), (a16, .inl (cT 2, 4096, .inr (.inl f21))), (a13, .inr (2, [.ref a14, .int o13.1, .int o13.2])), (a14, .inl (cT 2, 4096, .inr (.inl f16)))]) hP hD [13, 14] [0, 1, 2, 3, 4, 5, 6, 7, 8, 9, 10, 11, 12, 15, 16] 15 rfl rfl (by decide) (by decide) hk1 hFc hP1 hD1
          generalize H1 = H at hP hS ⊢
          refine lv_aload_n hx hb dB_one_38 rfl (lv_at hl 0 rfl) ?_
          refine lv_iload_n hx hb dB_one_39 rfl (lv_at hl 2 rfl) ?_
          refine lv_aload_n hx hb dB_one_40 rfl (lv_at hl 0 rfl) ?_
          refine va_get (D := D) (ci := 0) (v := .ref a7) (C := "ValueBench") (T := TB) (N := 8) hx hb htx inB hown hK hP 0 rfl rfl 3 (by decide) (htx _ kw_1_98) (fun _ h9 => h9) rfl dB_one_41 ?_
          refine lv_iload_n hx hb dB_one_44 rfl (lv_at hl 3 rfl) ?_
          obtain ⟨hg15, hf⟩ := xifn hf
          refine va_aldq hx hb hK hP 7 3 rfl rfl hg15 dB_one_45 ?_
          refine W.eq (g2 := F0 m 46 ls [va_rf (rf0 x3.toNatClampNeg), .int x2, .ref a0]) rfl ?_
          rw [hr3 hg15]
          refine W.eq (g2 := F0 m 46 ls [.ref a15, .int x2, .ref a0]) rfl ?_
          refine lv_aload_n hx hb dB_one_46 rfl (lv_at hl 0 rfl) ?_
          refine va_get (D := D) (ci := 0) (v := .ref a5) (C := "ValueBench") (T := TB) (N := 8) hx hb htx inB hown hK hP 0 rfl rfl 2 (by decide) (htx _ kw_1_97) (fun _ h9 => h9) rfl dB_one_47 ?_
          refine lv_aload_n hx hb dB_one_50 rfl (lv_at hl 0 rfl) ?_
          refine va_get (D := D) (ci := 0) (v := .ref a8) (C := "ValueBench") (T := TB) (N := 8) hx hb htx inB hown hK hP 0 rfl rfl 4 (by decide) (htx _ kw_1_99) (fun _ h9 => h9) rfl dB_one_51 ?_
          refine lv_aload_n hx hb dB_one_54 rfl (lv_at hl 0 rfl) ?_
          refine va_get (D := D) (ci := 0) (v := .ref a13) (C := "ValueBench") (T := TB) (N := 8) hx hb htx inB hown hK hP 0 rfl rfl 5 (by decide) (htx _ kw_1_100) (fun _ h9 => h9) rfl dB_one_55 ?_
          obtain ⟨o16, hq17, hf⟩ := xbind hf
          obtain ⟨hPc, hDc, hFc⟩ := xcut (wc := [(a15, .inr (2, [.ref a16, .int v22, .int v23])), (a16, .inl (cT 2, 4096, .inr (.inl f21))), (a5, .inr (1, [.ref a6, .int v7, .int v8])), (a6, .inl (cT 0, 4096, .inl f6)), (a8, .inr (3, [.ref a9, .ref a10, .ref p11, .ref p13, .int v15])), (a9, .inl (cT 1, 2048, .inl f9)), (a10, .inl (cT 1, 2048, .inl f10)), (p11, .inl (cT 1, 2048, .inl f12)), (p13, .inl (cT 1, 2048, .inl f14)), (a13, .inr (2, [.ref a14, .int o13.1, .int o13.2])), (a14, .inl (cT 2, 4096, .inr (.inl f16)))]) hP hD hS hA [13, 14, 5, 6, 8, 9, 10, 11, 12, 15, 16] rfl rfl (by decide)
          refine va_calli (va_runS (As := [.int x2, .ref a15, .ref a5, .ref a8, .ref a13]) (rest := [.ref a0]) ⟨hx, hb, hml, hown, htx⟩ (gG_apply l hl9 D cT aK aV H.size d n a15 a16 a5 a6 a8 a9 a10 a13 a14 x2 f21 v22 v23 f6 v7 v8 f9 f10 p11 f12 p13 f14 v15 f16 o13.1 o13.2 o16 hq17) ⟨callB_of 5 htx (xw_goodC kw_4_28) rfl rfl rfl (htx _ kw_1_26) (htx _ kw_4_26) ⟨by decide, by decide, by decide +kernel⟩ ⟨(by show (16 * d + 5) + 1 ≤ 16 * d + 7; omega), (by show 8 + (5 + 11) + (400 * d + 151) ≤ 400 * d + 175; omega)⟩, htx _ kw_4_27⟩ ⟨xPre_blind, (fun U hU hW => ⟨rfl, xPre_of hZ hS hFc hPc hDc hK U hU hW⟩)⟩ rfl rfl hl.1 rfl (lv_room (Nat.le_of_ble_eq_true rfl)) dB_one_58 ⟨Nat.le_of_ble_eq_true rfl, Nat.le_of_ble_eq_true rfl⟩) hS (fun q _ h => hFc q h) hFc (fun r18 u9 t H1 locs ht hvm hr9 hB hz1 hk1 hS => ?_)
          obtain ⟨hP1, hK1, hD1⟩ := hB
          rw [ht] at hP1
          obtain ⟨hP, hD⟩ := xjoin (W := [(a0, .inr (0, [.ref a1, .ref a3, .ref a5, .ref a7, .ref a8, .ref a13, .int v19, .int v20])), (a1, .inr (1, [.ref a2, .int v1, .int v2])), (a2, .inl (cT 0, 4096, .inl f0)), (a3, .inr (1, [.ref a4, .int v4, .int v5])), (a4, .inl (cT 0, 4096, .inl f3)), (a7, .inl (cT 3, 8, .inr (.inr (.inr (.inr rf0))))), (a15, .inr (2, [.ref a16, .int v22, .int v23])), (a16, .inl (cT 2, 4096, .inr (.inl f21))), (a5, .inr (1, [.ref a6, .int o16.2.2.1, .int o16.2.2.2.1])), (a6, .inl (cT 0, 4096, .inl o16.2.1)), (a8, .inr (3, [.ref a9, .ref a10, .ref o16.2.2.2.2.2.2.1, .ref o16.2.2.2.2.2.2.2.2.1, .int o16.2.2.2.2.2.2.2.2.2.1])), (a9, .inl (cT 1, 2048, .inl o16.2.2.2.2.1)), (a10, .inl (cT 1, 2048, .inl f10)), (o16.2.2.2.2.2.2.1, .inl (cT 1, 2048, .inl o16.2.2.2.2.2.1)), (o16.2.2.2.2.2.2.2.2.1, .inl (cT 1, 2048, .inl o16.2.2.2.2.2.2.2.1)), (a13, .inr (2, [.ref a14, .int o16.2.2.2.2.2.2.2.2.2.2.2.1, .int o16.2.2.2.2.2.2.2.2.2.2.2.2])), (a14, .inl (cT 2, 4096, .inr (.inl o16.2.2.2.2.2.2.2.2.2.2.1)))]) hP hD [13, 14, 5, 6, 8, 9, 10, 11, 12, 15, 16] [0, 1, 2, 3, 4, 7] 6 rfl rfl (by decide) (by decide) hk1 hFc hP1 hD1
          generalize H1 = H at hP hS ⊢
          rw [hr9]
          refine W.eq (g2 := F0 m 61 ls [.int o16.1, .ref a0]) rfl ?_
          obtain ⟨o19, hq20, hf⟩ := xbind hf
          by_cases hk21 : o19.1 = 0
          · rw [if_pos hk21] at hf
            obtain ⟨hPc, hDc, hFc⟩ := xcut (wc := [(a0, .inr (0, [.ref a1, .ref a3, .ref a5, .ref a7, .ref a8, .ref a13, .int v19, .int v20])), (a1, .inr (1, [.ref a2, .int v1, .int v2])), (a2, .inl (cT 0, 4096, .inl f0)), (a3, .inr (1, [.ref a4, .int v4, .int v5])), (a4, .inl (cT 0, 4096, .inl f3)), (a5, .inr (1, [.ref a6, .int o16.2.2.1, .int o16.2.2.2.1])), (a6, .inl (cT 0, 4096, .inl o16.2.1)), (a7, .inl (cT 3, 8, .inr (.inr (.inr (.inr rf0))))), (a8, .inr (3, [.ref a9, .ref a10, .ref o16.2.2.2.2.2.2.1, .ref o16.2.2.2.2.2.2.2.2.1, .int o16.2.2.2.2.2.2.2.2.2.1])), (a9, .inl (cT 1, 2048, .inl o16.2.2.2.2.1)), (a10, .inl (cT 1, 2048, .inl f10)), (o16.2.2.2.2.2.2.1, .inl (cT 1, 2048, .inl o16.2.2.2.2.2.1)), (o16.2.2.2.2.2.2.2.2.1, .inl (cT 1, 2048, .inl o16.2.2.2.2.2.2.2.1)), (a13, .inr (2, [.ref a14, .int o16.2.2.2.2.2.2.2.2.2.2.2.1, .int o16.2.2.2.2.2.2.2.2.2.2.2.2])), (a14, .inl (cT 2, 4096, .inr (.inl o16.2.2.2.2.2.2.2.2.2.2.1)))]) hP hD hS hA [0, 1, 2, 3, 4, 8, 9, 5, 10, 11, 12, 13, 14, 15, 16] rfl rfl (by decide)
            refine va_callv (va_runV (C := "ValueBench") (As := [.int o16.1]) (rest := []) ⟨hx, hb, hml, hown, htx⟩ (gB_demandDone l hl9 D cT aK aV H.size n a0 a1 a2 a3 a4 a5 a6 a7 a8 a9 a10 a13 a14 rf0 o16.1 f0 v1 v2 f3 v4 v5 o16.2.1 o16.2.2.1 o16.2.2.2.1 o16.2.2.2.2.1 f10 o16.2.2.2.2.2.2.1 o16.2.2.2.2.2.1 o16.2.2.2.2.2.2.2.2.1 o16.2.2.2.2.2.2.2.1 o16.2.2.2.2.2.2.2.2.2.1 o16.2.2.2.2.2.2.2.2.2.2.1 o16.2.2.2.2.2.2.2.2.2.2.2.1 o16.2.2.2.2.2.2.2.2.2.2.2.2 v19 v20 o19 hq20 hk21) ⟨callB_of 1 htx (xw_goodC kw_3_222) rfl rfl rfl (htx _ kw_1_1) (htx _ kw_3_219) ⟨by decide, by decide, by decide +kernel⟩ ⟨Nat.le_of_ble_eq_true rfl, Nat.le_of_ble_eq_true rfl⟩, (htx _ kw_3_221), (htx _ kp_B_demandDone)⟩ ⟨xPre_blind, va_recv hK hP (ci := 0) rfl (q0 := 0) rfl, (fun U hU hW => ⟨rfl, xPre_of hZ hS hFc hPc hDc hK U hU hW⟩)⟩ rfl rfl hl.1 rfl (lv_room (Nat.le_of_ble_eq_true rfl)) dB_one_61 ⟨Nat.le_of_ble_eq_true rfl, Nat.le_of_ble_eq_true rfl⟩) hS (fun q _ h => hFc q h) hFc (fun u9 t H1 locs ht hvm hr9 hB hz1 hk1 hS => ?_)
            obtain ⟨hP1, hK1, hD1⟩ := hB
            rw [ht] at hP1
            obtain ⟨hP, hD⟩ := xjoin (W := [(a15, .inr (2, [.ref a16, .int v22, .int v23])), (a16, .inl (cT 2, 4096, .inr (.inl f21))), (a0, .inr (0, [.ref a1, .ref a3, .ref a5, .ref a7, .ref a8, .ref a13, .int v19, .int o19.2])), (a1, .inr (1, [.ref a2, .int v1, .int v2])), (a2, .inl (cT 0, 4096, .inl f0)), (a3, .inr (1, [.ref a4, .int v4, .int v5])), (a4, .inl (cT 0, 4096, .inl f3)), (a5, .inr (1, [.ref a6, .int o16.2.2.1, .int o16.2.2.2.1])), (a6, .inl (cT 0, 4096, .inl o16.2.1)), (a7, .inl (cT 3, 8, .inr (.inr (.inr (.inr rf0))))), (a8, .inr (3, [.ref a9, .ref a10, .ref o16.2.2.2.2.2.2.1, .ref o16.2.2.2.2.2.2.2.2.1, .int o16.2.2.2.2.2.2.2.2.2.1])), (a9, .inl (cT 1, 2048, .inl o16.2.2.2.2.1)), (a10, .inl (cT 1, 2048, .inl f10)), (o16.2.2.2.2.2.2.1, .inl (cT 1, 2048, .inl o16.2.2.2.2.2.1)), (o16.2.2.2.2.2.2.2.2.1, .inl (cT 1, 2048, .inl o16.2.2.2.2.2.2.2.1)), (a13, .inr (2, [.ref a14, .int o16.2.2.2.2.2.2.2.2.2.2.2.1, .int o16.2.2.2.2.2.2.2.2.2.2.2.2])), (a14, .inl (cT 2, 4096, .inr (.inl o16.2.2.2.2.2.2.2.2.2.2.1)))]) hP hD [0, 1, 2, 3, 4, 8, 9, 5, 10, 11, 12, 13, 14, 15, 16] [6, 7] 2 rfl rfl (by decide) (by decide) hk1 hFc hP1 hD1
            generalize H1 = H at hP hS ⊢
            refine lv_aload_n hx hb dB_one_64 rfl (lv_at hl 0 rfl) ?_
            refine lv_iload_n hx hb dB_one_65 rfl (lv_at hl 1 rfl) ?_
            obtain ⟨o22, hq23, hf⟩ := xbind hf
            by_cases hk24 : o22.1 = 0
            · rw [if_pos hk24] at hf
              obtain ⟨hPc, hDc, hFc⟩ := xcut (wc := [(a0, .inr (0, [.ref a1, .ref a3, .ref a5, .ref a7, .ref a8, .ref a13, .int v19, .int o19.2])), (a1, .inr (1, [.ref a2, .int v1, .int v2])), (a2, .inl (cT 0, 4096, .inl f0)), (a3, .inr (1, [.ref a4, .int v4, .int v5])), (a4, .inl (cT 0, 4096, .inl f3)), (a5, .inr (1, [.ref a6, .int o16.2.2.1, .int o16.2.2.2.1])), (a6, .inl (cT 0, 4096, .inl o16.2.1)), (a7, .inl (cT 3, 8, .inr (.inr (.inr (.inr rf0))))), (a8, .inr (3, [.ref a9, .ref a10, .ref o16.2.2.2.2.2.2.1, .ref o16.2.2.2.2.2.2.2.2.1, .int o16.2.2.2.2.2.2.2.2.2.1])), (a9, .inl (cT 1, 2048, .inl o16.2.2.2.2.1)), (a10, .inl (cT 1, 2048, .inl f10)), (o16.2.2.2.2.2.2.1, .inl (cT 1, 2048, .inl o16.2.2.2.2.2.1)), (o16.2.2.2.2.2.2.2.2.1, .inl (cT 1, 2048, .inl o16.2.2.2.2.2.2.2.1)), (a13, .inr (2, [.ref a14, .int o16.2.2.2.2.2.2.2.2.2.2.2.1, .int o16.2.2.2.2.2.2.2.2.2.2.2.2])), (a14, .inl (cT 2, 4096, .inr (.inl o16.2.2.2.2.2.2.2.2.2.2.1)))]) hP hD hS hA [2, 3, 4, 5, 6, 7, 8, 9, 10, 11, 12, 13, 14, 15, 16] rfl rfl (by decide)
              refine va_calli (va_runV (C := "ValueBench") (As := [.int x1]) (rest := []) ⟨hx, hb, hml, hown, htx⟩ (gB_keepSpare l hl9 D cT aK aV H.size d n a0 a1 a2 a3 a4 a5 a6 a7 a8 a9 a10 a13 a14 rf0 b1 x1 f0 v1 v2 f3 v4 v5 o16.2.1 o16.2.2.1 o16.2.2.2.1 o16.2.2.2.2.1 f10 o16.2.2.2.2.2.2.1 o16.2.2.2.2.2.1 o16.2.2.2.2.2.2.2.2.1 o16.2.2.2.2.2.2.2.1 o16.2.2.2.2.2.2.2.2.2.1 o16.2.2.2.2.2.2.2.2.2.2.1 o16.2.2.2.2.2.2.2.2.2.2.2.1 o16.2.2.2.2.2.2.2.2.2.2.2.2 v19 o19.2 hr1 o22 hq23 hk24) ⟨callB_of 1 htx (xw_goodC kw_3_17) rfl rfl rfl (htx _ kw_1_1) (htx _ kw_3_14) ⟨by decide, by decide, by decide +kernel⟩ ⟨(by show (16 * d + 6) + 1 ≤ 16 * d + 7; omega), (by show 8 + (3 + 11) + (400 * d + 100) ≤ 400 * d + 175; omega)⟩, (htx _ kw_3_16), (htx _ kp_B_keepSpare)⟩ ⟨xPre_blind, va_recv hK hP (ci := 0) rfl (q0 := 2) rfl, (fun U hU hW => ⟨rfl, xPre_of hZ hS hFc hPc hDc hK U hU hW⟩)⟩ rfl rfl hl.1 rfl (lv_room (Nat.le_of_ble_eq_true rfl)) dB_one_66 ⟨Nat.le_of_ble_eq_true rfl, Nat.le_of_ble_eq_true rfl⟩) hS (fun q _ h => hFc q h) hFc (fun r25 u9 t H1 locs ht hvm hr9 hB hz1 hk1 hS => ?_)
              obtain ⟨hP1, hK1, hD1⟩ := hB
              rw [ht] at hP1
              obtain ⟨hP, hD⟩ := xjoin (W := [(a15, .inr (2, [.ref a16, .int v22, .int v23])), (a16, .inl (cT 2, 4096, .inr (.inl f21))), (a0, .inr (0, [.ref a1, .ref a3, .ref a5, .ref a7, .ref a8, .ref b1, .int v19, .int o19.2])), (a1, .inr (1, [.ref a2, .int v1, .int v2])), (a2, .inl (cT 0, 4096, .inl f0)), (a3, .inr (1, [.ref a4, .int v4, .int v5])), (a4, .inl (cT 0, 4096, .inl f3)), (a5, .inr (1, [.ref a6, .int o22.2.2.2.1, .int o22.2.2.2.2])), (a6, .inl (cT 0, 4096, .inl o22.2.2.1)), (a7, .inl (cT 3, 8, .inr (.inr (.inr (.inr (va_up rf0 x1.toNatClampNeg (some a13))))))), (a8, .inr (3, [.ref a9, .ref a10, .ref o16.2.2.2.2.2.2.1, .ref o16.2.2.2.2.2.2.2.2.1, .int o16.2.2.2.2.2.2.2.2.2.1])), (a9, .inl (cT 1, 2048, .inl o16.2.2.2.2.1)), (a10, .inl (cT 1, 2048, .inl f10)), (o16.2.2.2.2.2.2.1, .inl (cT 1, 2048, .inl o16.2.2.2.2.2.1)), (o16.2.2.2.2.2.2.2.2.1, .inl (cT 1, 2048, .inl o16.2.2.2.2.2.2.2.1)), (a13, .inr (2, [.ref a14, .int o16.2.2.2.2.2.2.2.2.2.2.2.1, .int o16.2.2.2.2.2.2.2.2.2.2.2.2])), (a14, .inl (cT 2, 4096, .inr (.inl o16.2.2.2.2.2.2.2.2.2.2.1)))]) hP hD [2, 3, 4, 5, 6, 7, 8, 9, 10, 11, 12, 13, 14, 15, 16] [0, 1] 2 rfl rfl (by decide) (by decide) hk1 hFc hP1 hD1
              generalize H1 = H at hP hS ⊢
              rw [hr9]
              refine W.eq (g2 := F0 m 69 ls [.int o22.2.1]) rfl ?_
              refine lv_pop hx hb dB_one_69 rfl ?_
              obtain rfl := Option.some.inj hf
              obtain ⟨hP9, hD9⟩ := xsub (wc := [(a0, .inr (0, [.ref a1, .ref a3, .ref a5, .ref a7, .ref a8, .ref b1, .int v19, .int o19.2])), (a1, .inr (1, [.ref a2, .int v1, .int v2])), (a2, .inl (cT 0, 4096, .inl f0)), (a3, .inr (1, [.ref a4, .int v4, .int v5])), (a4, .inl (cT 0, 4096, .inl f3)), (a5, .inr (1, [.ref a6, .int o22.2.2.2.1, .int o22.2.2.2.2])), (a6, .inl (cT 0, 4096, .inl o22.2.2.1)), (a7, .inl (cT 3, 8, .inr (.inr (.inr (.inr (va_up rf0 x1.toNatClampNeg (some a13))))))), (a8, .inr (3, [.ref a9, .ref a10, .ref o16.2.2.2.2.2.2.1, .ref o16.2.2.2.2.2.2.2.2.1, .int o16.2.2.2.2.2.2.2.2.2.1])), (a9, .inl (cT 1, 2048, .inl o16.2.2.2.2.1)), (a10, .inl (cT 1, 2048, .inl f10)), (o16.2.2.2.2.2.2.1, .inl (cT 1, 2048, .inl o16.2.2.2.2.2.1)), (o16.2.2.2.2.2.2.2.2.1, .inl (cT 1, 2048, .inl o16.2.2.2.2.2.2.2.1)), (a13, .inr (2, [.ref a14, .int o16.2.2.2.2.2.2.2.2.2.2.2.1, .int o16.2.2.2.2.2.2.2.2.2.2.2.2])), (a14, .inl (cT 2, 4096, .inr (.inl o16.2.2.2.2.2.2.2.2.2.2.1))), (a15, .inr (2, [.ref a16, .int v22, .int v23])), (a16, .inl (cT 2, 4096, .inr (.inl f21)))]) hP hD [2, 3, 4, 5, 6, 7, 8, 9, 10, 11, 12, 13, 14, 15, 16, 0, 1] rfl rfl (by decide)
              refine W.widen (k := 4) (n := 22) (Nat.le_of_ble_eq_true rfl) (Nat.le_of_ble_eq_true rfl) ?_
              exact W.vret hx hb hr (fun t ht hW => ⟨⟨(), rfl, trivial, by rw [ht]; exact hP9, va_K.moved hW.alike hK, hD9⟩, hS.F ht⟩) hS.2.2 dB_one_70
            rw [if_neg hk24] at hf
            by_cases hk26 : o22.1 = 1
            · rw [if_pos hk26] at hf
              obtain rfl := Option.some.inj hf
              exact absurd (show (1 : Nat) = 0 from hkd) (by decide)
            rw [if_neg hk26] at hf
            exact nomatch hf
          rw [if_neg hk21] at hf
          by_cases hk28 : o19.1 = 1
          · rw [if_pos hk28] at hf
            obtain rfl := Option.some.inj hf
            exact absurd (show (2 : Nat) = 0 from hkd) (by decide)
          rw [if_neg hk28] at hf
          exact nomatch hf
        rw [if_neg hk12] at hf
        by_cases hk29 : o10 = 1
        · rw [if_pos hk29] at hf
          obtain rfl := Option.some.inj hf
          exact absurd (show (3 : Nat) = 0 from hkd) (by decide)
        rw [if_neg hk29] at hf
        exact nomatch hf
      · rw [if_neg hc] at hf
        refine lv_iconst (v := 1) hx hb dB_one_23 (by decide) ?_
        refine lv_goto (tgt := 28) hx hb dB_one_24 (by decide) ?_
        obtain ⟨o10, hq11, hf⟩ := xbind hf
        by_cases hk12 : o10 = 0
        · rw [if_pos hk12] at hf
          obtain ⟨hPc, hDc, hFc⟩ := xcut (wc := []) hP hD hS hA [] rfl rfl (by decide)
          refine va_callv (va_runS (As := [.int 1]) (rest := []) ⟨hx, hb, hml, hown, htx⟩ (gB_demand l hl9 D cT aK aV H.size n (1 : Int32) o10 hq11 hk12) ⟨callB_of 1 htx (xw_goodC kw_1_221) rfl rfl rfl (htx _ kw_1_1) (htx _ kw_1_219) ⟨by decide, by decide, by decide +kernel⟩ ⟨Nat.le_of_ble_eq_true rfl, Nat.le_of_ble_eq_true rfl⟩, htx _ kw_1_220⟩ ⟨xPre_blind, (fun U hU hW => ⟨rfl, xPre_of hZ hS hFc hPc hDc hK U hU hW⟩)⟩ rfl rfl hl.1 rfl (lv_room (Nat.le_of_ble_eq_true rfl)) dB_one_28 ⟨Nat.le_of_ble_eq_true rfl, Nat.le_of_ble_eq_true rfl⟩) hS (fun q _ h => hFc q h) hFc (fun u9 t H1 locs ht hvm hr9 hB hz1 hk1 hS => ?_)
          obtain ⟨hP1, hK1, hD1⟩ := hB
          rw [ht] at hP1
          obtain ⟨hP, hD⟩ := xjoin (W := [(a0, .inr (0, [.ref a1, .ref a3, .ref a5, .ref a7, .ref a8, .ref a13, .int v19, .int v20])), (a1, .inr (1, [.ref a2, .int v1, .int v2])), (a2, .inl (cT 0, 4096, .inl f0)), (a3, .inr (1, [.ref a4, .int v4, .int v5])), (a4, .inl (cT 0, 4096, .inl f3)), (a5, .inr (1, [.ref a6, .int v7, .int v8])), (a6, .inl (cT 0, 4096, .inl f6)), (a7, .inl (cT 3, 8, .inr (.inr (.inr (.inr rf0))))), (a8, .inr (3, [.ref a9, .ref a10, .ref p11, .ref p13, .int v15])), (a9, .inl (cT 1, 2048, .inl f9)), (a10, .inl (cT 1, 2048, .inl f10)), (p11, .inl (cT 1, 2048, .inl f12)), (p13, .inl (cT 1, 2048, .inl f14)), (a13, .inr (2, [.ref a14, .int v17, .int v18])), (a14, .inl (cT 2, 4096, .inr (.inl f16))), (a15, .inr (2, [.ref a16, .int v22, .int v23])), (a16, .inl (cT 2, 4096, .inr (.inl f21)))]) hP hD [] [0, 1, 2, 3, 4, 5, 6, 7, 8, 9, 10, 11, 12, 13, 14, 15, 16] 17 rfl rfl (by decide) (by decide) hk1 hFc hP1 hD1
          generalize H1 = H at hP hS ⊢
          refine lv_aload_n hx hb dB_one_31 rfl (lv_at hl 0 rfl) ?_
          refine va_get (D := D) (ci := 0) (v := .ref a13) (C := "ValueBench") (T := TB) (N := 8) hx hb htx inB hown hK hP 0 rfl rfl 5 (by decide) (htx _ kw_1_100) (fun _ h9 => h9) rfl dB_one_32 ?_
          obtain ⟨o13, hq14, hf⟩ := xbind hf
          obtain ⟨hPc, hDc, hFc⟩ := xcut (wc := [(a13, .inr (2, [.ref a14, .int v17, .int v18])), (a14, .inl (cT 2, 4096, .inr (.inl f16)))]) hP hD hS hA [13, 14] rfl rfl (by decide)
          refine va_callv (va_runV (C := "ValueBench$Row") (As := []) (rest := []) ⟨hx, hb, hml, hown, htx⟩ (gR_clear l hl9 D cT aK aV H.size n a13 a14 f16 v17 v18 o13 hq14) ⟨callB_of 0 htx (xw_goodC kw_2_22) rfl rfl rfl (htx _ kw_1_4) (htx _ kw_2_19) ⟨by decide, by decide, by decide +kernel⟩ ⟨Nat.le_of_ble_eq_true rfl, Nat.le_of_ble_eq_true rfl⟩, (htx _ kw_2_20), (htx _ kw_2_21)⟩ ⟨xPre_blind, va_recv hK hP (ci := 2) rfl (q0 := 13) rfl, (fun U hU hW => ⟨rfl, xPre_of hZ hS hFc hPc hDc hK U hU hW⟩)⟩ rfl rfl hl.1 rfl (lv_room (Nat.le_of_ble_eq_true rfl)) dB_one_35 ⟨Nat.le_of_ble_eq_true rfl, Nat.le_of_ble_eq_true rfl⟩) hS (fun q _ h => hFc q h) hFc (fun u9 t H1 locs ht hvm hr9 hB hz1 hk1 hS => ?_)
          obtain ⟨hP1, hK1, hD1⟩ := hB
          rw [ht] at hP1
          obtain ⟨hP, hD⟩ := xjoin (W := [(a0, .inr (0, [.ref a1, .ref a3, .ref a5, .ref a7, .ref a8, .ref a13, .int v19, .int v20])), (a1, .inr (1, [.ref a2, .int v1, .int v2])), (a2, .inl (cT 0, 4096, .inl f0)), (a3, .inr (1, [.ref a4, .int v4, .int v5])), (a4, .inl (cT 0, 4096, .inl f3)), (a5, .inr (1, [.ref a6, .int v7, .int v8])), (a6, .inl (cT 0, 4096, .inl f6)), (a7, .inl (cT 3, 8, .inr (.inr (.inr (.inr rf0))))), (a8, .inr (3, [.ref a9, .ref a10, .ref p11, .ref p13, .int v15])), (a9, .inl (cT 1, 2048, .inl f9)), (a10, .inl (cT 1, 2048, .inl f10)), (p11, .inl (cT 1, 2048, .inl f12)), (p13, .inl (cT 1, 2048, .inl f14)), (a15, .inr (2, [.ref a16, .int v22, .int v23])), (a16, .inl (cT 2, 4096, .inr (.inl f21))), (a13, .inr (2, [.ref a14, .int o13.1, .int o13.2])), (a14, .inl (cT 2, 4096, .inr (.inl f16)))]) hP hD [13, 14] [0, 1, 2, 3, 4, 5, 6, 7, 8, 9, 10, 11, 12, 15, 16] 15 rfl rfl (by decide) (by decide) hk1 hFc hP1 hD1
          generalize H1 = H at hP hS ⊢
          refine lv_aload_n hx hb dB_one_38 rfl (lv_at hl 0 rfl) ?_
          refine lv_iload_n hx hb dB_one_39 rfl (lv_at hl 2 rfl) ?_
          refine lv_aload_n hx hb dB_one_40 rfl (lv_at hl 0 rfl) ?_
          refine va_get (D := D) (ci := 0) (v := .ref a7) (C := "ValueBench") (T := TB) (N := 8) hx hb htx inB hown hK hP 0 rfl rfl 3 (by decide) (htx _ kw_1_98) (fun _ h9 => h9) rfl dB_one_41 ?_
          refine lv_iload_n hx hb dB_one_44 rfl (lv_at hl 3 rfl) ?_
          obtain ⟨hg15, hf⟩ := xifn hf
          refine va_aldq hx hb hK hP 7 3 rfl rfl hg15 dB_one_45 ?_
          refine W.eq (g2 := F0 m 46 ls [va_rf (rf0 x3.toNatClampNeg), .int x2, .ref a0]) rfl ?_
          rw [hr3 hg15]
          refine W.eq (g2 := F0 m 46 ls [.ref a15, .int x2, .ref a0]) rfl ?_
          refine lv_aload_n hx hb dB_one_46 rfl (lv_at hl 0 rfl) ?_
          refine va_get (D := D) (ci := 0) (v := .ref a5) (C := "ValueBench") (T := TB) (N := 8) hx hb htx inB hown hK hP 0 rfl rfl 2 (by decide) (htx _ kw_1_97) (fun _ h9 => h9) rfl dB_one_47 ?_
          refine lv_aload_n hx hb dB_one_50 rfl (lv_at hl 0 rfl) ?_
          refine va_get (D := D) (ci := 0) (v := .ref a8) (C := "ValueBench") (T := TB) (N := 8) hx hb htx inB hown hK hP 0 rfl rfl 4 (by decide) (htx _ kw_1_99) (fun _ h9 => h9) rfl dB_one_51 ?_
          refine lv_aload_n hx hb dB_one_54 rfl (lv_at hl 0 rfl) ?_
          refine va_get (D := D) (ci := 0) (v := .ref a13) (C := "ValueBench") (T := TB) (N := 8) hx hb htx inB hown hK hP 0 rfl rfl 5 (by decide) (htx _ kw_1_100) (fun _ h9 => h9) rfl dB_one_55 ?_
          obtain ⟨o16, hq17, hf⟩ := xbind hf
          obtain ⟨hPc, hDc, hFc⟩ := xcut (wc := [(a15, .inr (2, [.ref a16, .int v22, .int v23])), (a16, .inl (cT 2, 4096, .inr (.inl f21))), (a5, .inr (1, [.ref a6, .int v7, .int v8])), (a6, .inl (cT 0, 4096, .inl f6)), (a8, .inr (3, [.ref a9, .ref a10, .ref p11, .ref p13, .int v15])), (a9, .inl (cT 1, 2048, .inl f9)), (a10, .inl (cT 1, 2048, .inl f10)), (p11, .inl (cT 1, 2048, .inl f12)), (p13, .inl (cT 1, 2048, .inl f14)), (a13, .inr (2, [.ref a14, .int o13.1, .int o13.2])), (a14, .inl (cT 2, 4096, .inr (.inl f16)))]) hP hD hS hA [13, 14, 5, 6, 8, 9, 10, 11, 12, 15, 16] rfl rfl (by decide)
          refine va_calli (va_runS (As := [.int x2, .ref a15, .ref a5, .ref a8, .ref a13]) (rest := [.ref a0]) ⟨hx, hb, hml, hown, htx⟩ (gG_apply l hl9 D cT aK aV H.size d n a15 a16 a5 a6 a8 a9 a10 a13 a14 x2 f21 v22 v23 f6 v7 v8 f9 f10 p11 f12 p13 f14 v15 f16 o13.1 o13.2 o16 hq17) ⟨callB_of 5 htx (xw_goodC kw_4_28) rfl rfl rfl (htx _ kw_1_26) (htx _ kw_4_26) ⟨by decide, by decide, by decide +kernel⟩ ⟨(by show (16 * d + 5) + 1 ≤ 16 * d + 7; omega), (by show 8 + (5 + 11) + (400 * d + 151) ≤ 400 * d + 175; omega)⟩, htx _ kw_4_27⟩ ⟨xPre_blind, (fun U hU hW => ⟨rfl, xPre_of hZ hS hFc hPc hDc hK U hU hW⟩)⟩ rfl rfl hl.1 rfl (lv_room (Nat.le_of_ble_eq_true rfl)) dB_one_58 ⟨Nat.le_of_ble_eq_true rfl, Nat.le_of_ble_eq_true rfl⟩) hS (fun q _ h => hFc q h) hFc (fun r18 u9 t H1 locs ht hvm hr9 hB hz1 hk1 hS => ?_)
          obtain ⟨hP1, hK1, hD1⟩ := hB
          rw [ht] at hP1
          obtain ⟨hP, hD⟩ := xjoin (W := [(a0, .inr (0, [.ref a1, .ref a3, .ref a5, .ref a7, .ref a8, .ref a13, .int v19, .int v20])), (a1, .inr (1, [.ref a2, .int v1, .int v2])), (a2, .inl (cT 0, 4096, .inl f0)), (a3, .inr (1, [.ref a4, .int v4, .int v5])), (a4, .inl (cT 0, 4096, .inl f3)), (a7, .inl (cT 3, 8, .inr (.inr (.inr (.inr rf0))))), (a15, .inr (2, [.ref a16, .int v22, .int v23])), (a16, .inl (cT 2, 4096, .inr (.inl f21))), (a5, .inr (1, [.ref a6, .int o16.2.2.1, .int o16.2.2.2.1])), (a6, .inl (cT 0, 4096, .inl o16.2.1)), (a8, .inr (3, [.ref a9, .ref a10, .ref o16.2.2.2.2.2.2.1, .ref o16.2.2.2.2.2.2.2.2.1, .int o16.2.2.2.2.2.2.2.2.2.1])), (a9, .inl (cT 1, 2048, .inl o16.2.2.2.2.1)), (a10, .inl (cT 1, 2048, .inl f10)), (o16.2.2.2.2.2.2.1, .inl (cT 1, 2048, .inl o16.2.2.2.2.2.1)), (o16.2.2.2.2.2.2.2.2.1, .inl (cT 1, 2048, .inl o16.2.2.2.2.2.2.2.1)), (a13, .inr (2, [.ref a14, .int o16.2.2.2.2.2.2.2.2.2.2.2.1, .int o16.2.2.2.2.2.2.2.2.2.2.2.2])), (a14, .inl (cT 2, 4096, .inr (.inl o16.2.2.2.2.2.2.2.2.2.2.1)))]) hP hD [13, 14, 5, 6, 8, 9, 10, 11, 12, 15, 16] [0, 1, 2, 3, 4, 7] 6 rfl rfl (by decide) (by decide) hk1 hFc hP1 hD1
          generalize H1 = H at hP hS ⊢
          rw [hr9]
          refine W.eq (g2 := F0 m 61 ls [.int o16.1, .ref a0]) rfl ?_
          obtain ⟨o19, hq20, hf⟩ := xbind hf
          by_cases hk21 : o19.1 = 0
          · rw [if_pos hk21] at hf
            obtain ⟨hPc, hDc, hFc⟩ := xcut (wc := [(a0, .inr (0, [.ref a1, .ref a3, .ref a5, .ref a7, .ref a8, .ref a13, .int v19, .int v20])), (a1, .inr (1, [.ref a2, .int v1, .int v2])), (a2, .inl (cT 0, 4096, .inl f0)), (a3, .inr (1, [.ref a4, .int v4, .int v5])), (a4, .inl (cT 0, 4096, .inl f3)), (a5, .inr (1, [.ref a6, .int o16.2.2.1, .int o16.2.2.2.1])), (a6, .inl (cT 0, 4096, .inl o16.2.1)), (a7, .inl (cT 3, 8, .inr (.inr (.inr (.inr rf0))))), (a8, .inr (3, [.ref a9, .ref a10, .ref o16.2.2.2.2.2.2.1, .ref o16.2.2.2.2.2.2.2.2.1, .int o16.2.2.2.2.2.2.2.2.2.1])), (a9, .inl (cT 1, 2048, .inl o16.2.2.2.2.1)), (a10, .inl (cT 1, 2048, .inl f10)), (o16.2.2.2.2.2.2.1, .inl (cT 1, 2048, .inl o16.2.2.2.2.2.1)), (o16.2.2.2.2.2.2.2.2.1, .inl (cT 1, 2048, .inl o16.2.2.2.2.2.2.2.1)), (a13, .inr (2, [.ref a14, .int o16.2.2.2.2.2.2.2.2.2.2.2.1, .int o16.2.2.2.2.2.2.2.2.2.2.2.2])), (a14, .inl (cT 2, 4096, .inr (.inl o16.2.2.2.2.2.2.2.2.2.2.1)))]) hP hD hS hA [0, 1, 2, 3, 4, 8, 9, 5, 10, 11, 12, 13, 14, 15, 16] rfl rfl (by decide)
            refine va_callv (va_runV (C := "ValueBench") (As := [.int o16.1]) (rest := []) ⟨hx, hb, hml, hown, htx⟩ (gB_demandDone l hl9 D cT aK aV H.size n a0 a1 a2 a3 a4 a5 a6 a7 a8 a9 a10 a13 a14 rf0 o16.1 f0 v1 v2 f3 v4 v5 o16.2.1 o16.2.2.1 o16.2.2.2.1 o16.2.2.2.2.1 f10 o16.2.2.2.2.2.2.1 o16.2.2.2.2.2.1 o16.2.2.2.2.2.2.2.2.1 o16.2.2.2.2.2.2.2.1 o16.2.2.2.2.2.2.2.2.2.1 o16.2.2.2.2.2.2.2.2.2.2.1 o16.2.2.2.2.2.2.2.2.2.2.2.1 o16.2.2.2.2.2.2.2.2.2.2.2.2 v19 v20 o19 hq20 hk21) ⟨callB_of 1 htx (xw_goodC kw_3_222) rfl rfl rfl (htx _ kw_1_1) (htx _ kw_3_219) ⟨by decide, by decide, by decide +kernel⟩ ⟨Nat.le_of_ble_eq_true rfl, Nat.le_of_ble_eq_true rfl⟩, (htx _ kw_3_221), (htx _ kp_B_demandDone)⟩ ⟨xPre_blind, va_recv hK hP (ci := 0) rfl (q0 := 0) rfl, (fun U hU hW => ⟨rfl, xPre_of hZ hS hFc hPc hDc hK U hU hW⟩)⟩ rfl rfl hl.1 rfl (lv_room (Nat.le_of_ble_eq_true rfl)) dB_one_61 ⟨Nat.le_of_ble_eq_true rfl, Nat.le_of_ble_eq_true rfl⟩) hS (fun q _ h => hFc q h) hFc (fun u9 t H1 locs ht hvm hr9 hB hz1 hk1 hS => ?_)
            obtain ⟨hP1, hK1, hD1⟩ := hB
            rw [ht] at hP1
            obtain ⟨hP, hD⟩ := xjoin (W := [(a15, .inr (2, [.ref a16, .int v22, .int v23])), (a16, .inl (cT 2, 4096, .inr (.inl f21))), (a0, .inr (0, [.ref a1, .ref a3, .ref a5, .ref a7, .ref a8, .ref a13, .int v19, .int o19.2])), (a1, .inr (1, [.ref a2, .int v1, .int v2])), (a2, .inl (cT 0, 4096, .inl f0)), (a3, .inr (1, [.ref a4, .int v4, .int v5])), (a4, .inl (cT 0, 4096, .inl f3)), (a5, .inr (1, [.ref a6, .int o16.2.2.1, .int o16.2.2.2.1])), (a6, .inl (cT 0, 4096, .inl o16.2.1)), (a7, .inl (cT 3, 8, .inr (.inr (.inr (.inr rf0))))), (a8, .inr (3, [.ref a9, .ref a10, .ref o16.2.2.2.2.2.2.1, .ref o16.2.2.2.2.2.2.2.2.1, .int o16.2.2.2.2.2.2.2.2.2.1])), (a9, .inl (cT 1, 2048, .inl o16.2.2.2.2.1)), (a10, .inl (cT 1, 2048, .inl f10)), (o16.2.2.2.2.2.2.1, .inl (cT 1, 2048, .inl o16.2.2.2.2.2.1)), (o16.2.2.2.2.2.2.2.2.1, .inl (cT 1, 2048, .inl o16.2.2.2.2.2.2.2.1)), (a13, .inr (2, [.ref a14, .int o16.2.2.2.2.2.2.2.2.2.2.2.1, .int o16.2.2.2.2.2.2.2.2.2.2.2.2])), (a14, .inl (cT 2, 4096, .inr (.inl o16.2.2.2.2.2.2.2.2.2.2.1)))]) hP hD [0, 1, 2, 3, 4, 8, 9, 5, 10, 11, 12, 13, 14, 15, 16] [6, 7] 2 rfl rfl (by decide) (by decide) hk1 hFc hP1 hD1
            generalize H1 = H at hP hS ⊢
            refine lv_aload_n hx hb dB_one_64 rfl (lv_at hl 0 rfl) ?_
            refine lv_iload_n hx hb dB_one_65 rfl (lv_at hl 1 rfl) ?_
            obtain ⟨o22, hq23, hf⟩ := xbind hf
            by_cases hk24 : o22.1 = 0
            · rw [if_pos hk24] at hf
              obtain ⟨hPc, hDc, hFc⟩ := xcut (wc := [(a0, .inr (0, [.ref a1, .ref a3, .ref a5, .ref a7, .ref a8, .ref a13, .int v19, .int o19.2])), (a1, .inr (1, [.ref a2, .int v1, .int v2])), (a2, .inl (cT 0, 4096, .inl f0)), (a3, .inr (1, [.ref a4, .int v4, .int v5])), (a4, .inl (cT 0, 4096, .inl f3)), (a5, .inr (1, [.ref a6, .int o16.2.2.1, .int o16.2.2.2.1])), (a6, .inl (cT 0, 4096, .inl o16.2.1)), (a7, .inl (cT 3, 8, .inr (.inr (.inr (.inr rf0))))), (a8, .inr (3, [.ref a9, .ref a10, .ref o16.2.2.2.2.2.2.1, .ref o16.2.2.2.2.2.2.2.2.1, .int o16.2.2.2.2.2.2.2.2.2.1])), (a9, .inl (cT 1, 2048, .inl o16.2.2.2.2.1)), (a10, .inl (cT 1, 2048, .inl f10)), (o16.2.2.2.2.2.2.1, .inl (cT 1, 2048, .inl o16.2.2.2.2.2.1)), (o16.2.2.2.2.2.2.2.2.1, .inl (cT 1, 2048, .inl o16.2.2.2.2.2.2.2.1)), (a13, .inr (2, [.ref a14, .int o16.2.2.2.2.2.2.2.2.2.2.2.1, .int o16.2.2.2.2.2.2.2.2.2.2.2.2])), (a14, .inl (cT 2, 4096, .inr (.inl o16.2.2.2.2.2.2.2.2.2.2.1)))]) hP hD hS hA [2, 3, 4, 5, 6, 7, 8, 9, 10, 11, 12, 13, 14, 15, 16] rfl rfl (by decide)
              refine va_calli (va_runV (C := "ValueBench") (As := [.int x1]) (rest := []) ⟨hx, hb, hml, hown, htx⟩ (gB_keepSpare l hl9 D cT aK aV H.size d n a0 a1 a2 a3 a4 a5 a6 a7 a8 a9 a10 a13 a14 rf0 b1 x1 f0 v1 v2 f3 v4 v5 o16.2.1 o16.2.2.1 o16.2.2.2.1 o16.2.2.2.2.1 f10 o16.2.2.2.2.2.2.1 o16.2.2.2.2.2.1 o16.2.2.2.2.2.2.2.2.1 o16.2.2.2.2.2.2.2.1 o16.2.2.2.2.2.2.2.2.2.1 o16.2.2.2.2.2.2.2.2.2.2.1 o16.2.2.2.2.2.2.2.2.2.2.2.1 o16.2.2.2.2.2.2.2.2.2.2.2.2 v19 o19.2 hr1 o22 hq23 hk24) ⟨callB_of 1 htx (xw_goodC kw_3_17) rfl rfl rfl (htx _ kw_1_1) (htx _ kw_3_14) ⟨by decide, by decide, by decide +kernel⟩ ⟨(by show (16 * d + 6) + 1 ≤ 16 * d + 7; omega), (by show 8 + (3 + 11) + (400 * d + 100) ≤ 400 * d + 175; omega)⟩, (htx _ kw_3_16), (htx _ kp_B_keepSpare)⟩ ⟨xPre_blind, va_recv hK hP (ci := 0) rfl (q0 := 2) rfl, (fun U hU hW => ⟨rfl, xPre_of hZ hS hFc hPc hDc hK U hU hW⟩)⟩ rfl rfl hl.1 rfl (lv_room (Nat.le_of_ble_eq_true rfl)) dB_one_66 ⟨Nat.le_of_ble_eq_true rfl, Nat.le_of_ble_eq_true rfl⟩) hS (fun q _ h => hFc q h) hFc (fun r25 u9 t H1 locs ht hvm hr9 hB hz1 hk1 hS => ?_)
              obtain ⟨hP1, hK1, hD1⟩ := hB
              rw [ht] at hP1
              obtain ⟨hP, hD⟩ := xjoin (W := [(a15, .inr (2, [.ref a16, .int v22, .int v23])), (a16, .inl (cT 2, 4096, .inr (.inl f21))), (a0, .inr (0, [.ref a1, .ref a3, .ref a5, .ref a7, .ref a8, .ref b1, .int v19, .int o19.2])), (a1, .inr (1, [.ref a2, .int v1, .int v2])), (a2, .inl (cT 0, 4096, .inl f0)), (a3, .inr (1, [.ref a4, .int v4, .int v5])), (a4, .inl (cT 0, 4096, .inl f3)), (a5, .inr (1, [.ref a6, .int o22.2.2.2.1, .int o22.2.2.2.2])), (a6, .inl (cT 0, 4096, .inl o22.2.2.1)), (a7, .inl (cT 3, 8, .inr (.inr (.inr (.inr (va_up rf0 x1.toNatClampNeg (some a13))))))), (a8, .inr (3, [.ref a9, .ref a10, .ref o16.2.2.2.2.2.2.1, .ref o16.2.2.2.2.2.2.2.2.1, .int o16.2.2.2.2.2.2.2.2.2.1])), (a9, .inl (cT 1, 2048, .inl o16.2.2.2.2.1)), (a10, .inl (cT 1, 2048, .inl f10)), (o16.2.2.2.2.2.2.1, .inl (cT 1, 2048, .inl o16.2.2.2.2.2.1)), (o16.2.2.2.2.2.2.2.2.1, .inl (cT 1, 2048, .inl o16.2.2.2.2.2.2.2.1)), (a13, .inr (2, [.ref a14, .int o16.2.2.2.2.2.2.2.2.2.2.2.1, .int o16.2.2.2.2.2.2.2.2.2.2.2.2])), (a14, .inl (cT 2, 4096, .inr (.inl o16.2.2.2.2.2.2.2.2.2.2.1)))]) hP hD [2, 3, 4, 5, 6, 7, 8, 9, 10, 11, 12, 13, 14, 15, 16] [0, 1] 2 rfl rfl (by decide) (by decide) hk1 hFc hP1 hD1
              generalize H1 = H at hP hS ⊢
              rw [hr9]
              refine W.eq (g2 := F0 m 69 ls [.int o22.2.1]) rfl ?_
              refine lv_pop hx hb dB_one_69 rfl ?_
              obtain rfl := Option.some.inj hf
              obtain ⟨hP9, hD9⟩ := xsub (wc := [(a0, .inr (0, [.ref a1, .ref a3, .ref a5, .ref a7, .ref a8, .ref b1, .int v19, .int o19.2])), (a1, .inr (1, [.ref a2, .int v1, .int v2])), (a2, .inl (cT 0, 4096, .inl f0)), (a3, .inr (1, [.ref a4, .int v4, .int v5])), (a4, .inl (cT 0, 4096, .inl f3)), (a5, .inr (1, [.ref a6, .int o22.2.2.2.1, .int o22.2.2.2.2])), (a6, .inl (cT 0, 4096, .inl o22.2.2.1)), (a7, .inl (cT 3, 8, .inr (.inr (.inr (.inr (va_up rf0 x1.toNatClampNeg (some a13))))))), (a8, .inr (3, [.ref a9, .ref a10, .ref o16.2.2.2.2.2.2.1, .ref o16.2.2.2.2.2.2.2.2.1, .int o16.2.2.2.2.2.2.2.2.2.1])), (a9, .inl (cT 1, 2048, .inl o16.2.2.2.2.1)), (a10, .inl (cT 1, 2048, .inl f10)), (o16.2.2.2.2.2.2.1, .inl (cT 1, 2048, .inl o16.2.2.2.2.2.1)), (o16.2.2.2.2.2.2.2.2.1, .inl (cT 1, 2048, .inl o16.2.2.2.2.2.2.2.1)), (a13, .inr (2, [.ref a14, .int o16.2.2.2.2.2.2.2.2.2.2.2.1, .int o16.2.2.2.2.2.2.2.2.2.2.2.2])), (a14, .inl (cT 2, 4096, .inr (.inl o16.2.2.2.2.2.2.2.2.2.2.1))), (a15, .inr (2, [.ref a16, .int v22, .int v23])), (a16, .inl (cT 2, 4096, .inr (.inl f21)))]) hP hD [2, 3, 4, 5, 6, 7, 8, 9, 10, 11, 12, 13, 14, 15, 16, 0, 1] rfl rfl (by decide)
              refine W.widen (k := 4) (n := 22) (Nat.le_of_ble_eq_true rfl) (Nat.le_of_ble_eq_true rfl) ?_
              exact W.vret hx hb hr (fun t ht hW => ⟨⟨(), rfl, trivial, by rw [ht]; exact hP9, va_K.moved hW.alike hK, hD9⟩, hS.F ht⟩) hS.2.2 dB_one_70
            rw [if_neg hk24] at hf
            by_cases hk26 : o22.1 = 1
            · rw [if_pos hk26] at hf
              obtain rfl := Option.some.inj hf
              exact absurd (show (1 : Nat) = 0 from hkd) (by decide)
            rw [if_neg hk26] at hf
            exact nomatch hf
          rw [if_neg hk21] at hf
          by_cases hk28 : o19.1 = 1
          · rw [if_pos hk28] at hf
            obtain rfl := Option.some.inj hf
            exact absurd (show (2 : Nat) = 0 from hkd) (by decide)
          rw [if_neg hk28] at hf
          exact nomatch hf
        rw [if_neg hk12] at hf
        by_cases hk29 : o10 = 1
        · rw [if_pos hk29] at hf
          obtain rfl := Option.some.inj hf
          exact absurd (show (3 : Nat) = 0 from hkd) (by decide)
        rw [if_neg hk29] at hf
        exact nomatch hf
set_option maxHeartbeats 400000000 in
set_option maxRecDepth 100000 in
theorem gB_one_1 (l : Launch) (hl9 : l.stackTraces = false) (D : va_G) (cT : Nat → ClassId) (aK aV : Nat → Nat) (sz d n : Nat) (a0 : Nat) (a1 : Nat) (a2 : Nat) (a3 : Nat) (a4 : Nat) (a5 : Nat) (a6 : Nat) (a7 : Nat) (a8 : Nat) (a9 : Nat) (a10 : Nat) (a13 : Nat) (a14 : Nat) (a15 : Nat) (a16 : Nat) (rf0 : Nat → Option Nat) (b1 : Nat) (x1 : Int32) (x2 : Int32) (x3 : Int32) (f0 : Nat → Int32) (v1 : Int32) (v2 : Int32) (f3 : Nat → Int32) (v4 : Int32) (v5 : Int32) (f6 : Nat → Int32) (v7 : Int32) (v8 : Int32) (f9 : Nat → Int32) (f10 : Nat → Int32) (p11 : Nat) (f12 : Nat → Int32) (p13 : Nat) (f14 : Nat → Int32) (v15 : Int32) (f16 : Nat → Int64) (v17 : Int32) (v18 : Int32) (v19 : Int32) (v20 : Int32) (f21 : Nat → Int64) (v22 : Int32) (v23 : Int32) (hr1 : ¬ (x1 < 0 ∨ 8 ≤ x1.toNatClampNeg) → rf0 x1.toNatClampNeg = some b1) (hr3 : ¬ (x3 < 0 ∨ 8 ≤ x3.toNatClampNeg) → rf0 x3.toNatClampNeg = some a15) (out : Nat × (Nat → Int32) × Int32 × Int32 × (Nat → Int32) × (Nat → Int32) × Nat × (Nat → Int32) × Nat × Int32 × (Nat → Int64) × Int32 × Int32 × Int32) (hf : fB_one d n x1 x2 x3 f0 v1 v2 f3 v4 v5 f6 v7 v8 f9 f10 p11 f12 p13 f14 v15 f16 v17 v18 v19 v20 f21 v22 v23 = some out) (hkd : out.1 = 1) : xMetX l yB_one wyB_one (16 * d + 7) 4 22 (400 * d + 175) D cT aK aV sz [.ref a0, .int x1, .int x2, .int x3] [(a0, .inr (0, [.ref a1, .ref a3, .ref a5, .ref a7, .ref a8, .ref a13, .int v19, .int v20])), (a1, .inr (1, [.ref a2, .int v1, .int v2])), (a2, .inl (cT 0, 4096, .inl f0)), (a3, .inr (1, [.ref a4, .int v4, .int v5])), (a4, .inl (cT 0, 4096, .inl f3)), (a5, .inr (1, [.ref a6, .int v7, .int v8])), (a6, .inl (cT 0, 4096, .inl f6)), (a7, .inl (cT 3, 8, .inr (.inr (.inr (.inr rf0))))), (a8, .inr (3, [.ref a9, .ref a10, .ref p11, .ref p13, .int v15])), (a9, .inl (cT 1, 2048, .inl f9)), (a10, .inl (cT 1, 2048, .inl f10)), (p11, .inl (cT 1, 2048, .inl f12)), (p13, .inl (cT 1, 2048, .inl f14)), (a13, .inr (2, [.ref a14, .int v17, .int v18])), (a14, .inl (cT 2, 4096, .inr (.inl f16))), (a15, .inr (2, [.ref a16, .int v22, .int v23])), (a16, .inl (cT 2, 4096, .inr (.inl f21)))] "java/lang/IndexOutOfBoundsException" (fun A t => xB D xcl cT A [(a0, .inr (0, [.ref a1, .ref a3, .ref a5, .ref a7, .ref a8, .ref a13, .int v19, .int out.2.2.2.2.2.2.2.2.2.2.2.2.2])), (a1, .inr (1, [.ref a2, .int v1, .int v2])), (a2, .inl (cT 0, 4096, .inl f0)), (a3, .inr (1, [.ref a4, .int v4, .int v5])), (a4, .inl (cT 0, 4096, .inl f3)), (a5, .inr (1, [.ref a6, .int out.2.2.1, .int out.2.2.2.1])), (a6, .inl (cT 0, 4096, .inl out.2.1)), (a7, .inl (cT 3, 8, .inr (.inr (.inr (.inr rf0))))), (a8, .inr (3, [.ref a9, .ref a10, .ref out.2.2.2.2.2.2.1, .ref out.2.2.2.2.2.2.2.2.1, .int out.2.2.2.2.2.2.2.2.2.1])), (a9, .inl (cT 1, 2048, .inl out.2.2.2.2.1)), (a10, .inl (cT 1, 2048, .inl f10)), (out.2.2.2.2.2.2.1, .inl (cT 1, 2048, .inl out.2.2.2.2.2.1)), (out.2.2.2.2.2.2.2.2.1, .inl (cT 1, 2048, .inl out.2.2.2.2.2.2.2.1)), (a13, .inr (2, [.ref a14, .int out.2.2.2.2.2.2.2.2.2.2.2.1, .int out.2.2.2.2.2.2.2.2.2.2.2.2.1])), (a14, .inl (cT 2, 4096, .inr (.inl out.2.2.2.2.2.2.2.2.2.2.1))), (a15, .inr (2, [.ref a16, .int v22, .int v23])), (a16, .inl (cT 2, 4096, .inr (.inl f21)))] t) := by
  refine vx_ofW (cc := prog_1_method_9_code) (maxL := 4) (ret := none) (by decide) rfl ?_
  intro p e s m args below meth c s₁ B hml hne hv
  obtain ⟨rfl, hsz, hZ, hP, hK, hD0⟩ := hv
  have hx := B.exec
  have hb := B.bytes
  have hr := B.returns
  have hts := atoms_spec (ws := wyB_one) B.pre
  have htx := fun w h => hts w (List.mem_cons_of_mem _ h)
  have hown : s.vm.findClass "ValueBench" = some m.cls := findClass_of_methodNamed B.named
  have hlocks := B.notSynchronized
  subst hsz
  have hD := hD0.self (sz := s.heap.size)
  generalize hAe : va_A [(a0, .inr (0, [.ref a1, .ref a3, .ref a5, .ref a7, .ref a8, .ref a13, .int v19, .int v20])), (a1, .inr (1, [.ref a2, .int v1, .int v2])), (a2, .inl (cT 0, 4096, .inl f0)), (a3, .inr (1, [.ref a4, .int v4, .int v5])), (a4, .inl (cT 0, 4096, .inl f3)), (a5, .inr (1, [.ref a6, .int v7, .int v8])), (a6, .inl (cT 0, 4096, .inl f6)), (a7, .inl (cT 3, 8, .inr (.inr (.inr (.inr rf0))))), (a8, .inr (3, [.ref a9, .ref a10, .ref p11, .ref p13, .int v15])), (a9, .inl (cT 1, 2048, .inl f9)), (a10, .inl (cT 1, 2048, .inl f10)), (p11, .inl (cT 1, 2048, .inl f12)), (p13, .inl (cT 1, 2048, .inl f14)), (a13, .inr (2, [.ref a14, .int v17, .int v18])), (a14, .inl (cT 2, 4096, .inr (.inl f16))), (a15, .inr (2, [.ref a16, .int v22, .int v23])), (a16, .inl (cT 2, 4096, .inr (.inl f21)))] s.heap.size = A at hD hZ ⊢
  have hA : ∀ q : Nat, s.heap.size ≤ q → A q := fun q h => by rw [← hAe]; exact Or.inr h
  have hS : va_S A s.heap s.heap [] := va_S.rf
  have hP : va_P D xcl [(a0, .inr (0, [.ref a1, .ref a3, .ref a5, .ref a7, .ref a8, .ref a13, .int v19, .int v20])), (a1, .inr (1, [.ref a2, .int v1, .int v2])), (a2, .inl (cT 0, 4096, .inl f0)), (a3, .inr (1, [.ref a4, .int v4, .int v5])), (a4, .inl (cT 0, 4096, .inl f3)), (a5, .inr (1, [.ref a6, .int v7, .int v8])), (a6, .inl (cT 0, 4096, .inl f6)), (a7, .inl (cT 3, 8, .inr (.inr (.inr (.inr rf0))))), (a8, .inr (3, [.ref a9, .ref a10, .ref p11, .ref p13, .int v15])), (a9, .inl (cT 1, 2048, .inl f9)), (a10, .inl (cT 1, 2048, .inl f10)), (p11, .inl (cT 1, 2048, .inl f12)), (p13, .inl (cT 1, 2048, .inl f14)), (a13, .inr (2, [.ref a14, .int v17, .int v18])), (a14, .inl (cT 2, 4096, .inr (.inl f16))), (a15, .inr (2, [.ref a16, .int v22, .int v23])), (a16, .inl (cT 2, 4096, .inr (.inl f21)))] s.heap := hP
  have hl := lv_entry ([.ref a0, .int x1, .int x2, .int x3]) (n := 4) (Nat.le_of_ble_eq_true rfl)
  rw [lg_entry_eq]
  generalize (lg_sl ([.ref a0, .int x1, .int x2, .int x3]) ++ List.replicate (4 - (lg_sl ([.ref a0, .int x1, .int x2, .int x3])).length) Slot.unset).toArray = ls at hl ⊢
  have hl : lv_has ls 4 [(0, .ref a0), (1, .int x1), (2, .int x2), (3, .int x3)] := hl
  unfold fB_one at hf
  refine lv_iload_n hx hb dB_one_0 rfl (lv_at hl 1 rfl) ?_
  obtain ⟨o1, hq2, hf⟩ := xbind hf
  obtain ⟨hPc, hDc, hFc⟩ := xcut (wc := []) hP hD hS hA [] rfl rfl (by decide)
  refine va_calli (va_runS (As := [.int x1]) (rest := []) ⟨hx, hb, hml, hown, htx⟩ (gB_isRegister l hl9 D cT aK aV s.heap.size n x1 o1 hq2) ⟨callB_of 1 htx (xw_goodC kw_2_18) rfl rfl rfl (htx _ kw_1_1) (htx _ kw_2_16) ⟨by decide, by decide, by decide +kernel⟩ ⟨Nat.le_of_ble_eq_true rfl, Nat.le_of_ble_eq_true rfl⟩, htx _ kw_2_17⟩ ⟨xPre_blind, (fun U hU hW => ⟨rfl, xPre_of hZ hS hFc hPc hDc hK U hU hW⟩)⟩ rfl rfl hl.1 rfl (lv_room (Nat.le_of_ble_eq_true rfl)) dB_one_1 ⟨Nat.le_of_ble_eq_true rfl, Nat.le_of_ble_eq_true rfl⟩) hS (fun q _ h => hFc q h) hFc (fun r3 u9 t H1 locs ht hvm hr9 hB hz1 hk1 hS => ?_)
  obtain ⟨hP1, hK1, hD1⟩ := hB
  rw [ht] at hP1
  obtain ⟨hP, hD⟩ := xjoin (W := [(a0, .inr (0, [.ref a1, .ref a3, .ref a5, .ref a7, .ref a8, .ref a13, .int v19, .int v20])), (a1, .inr (1, [.ref a2, .int v1, .int v2])), (a2, .inl (cT 0, 4096, .inl f0)), (a3, .inr (1, [.ref a4, .int v4, .int v5])), (a4, .inl (cT 0, 4096, .inl f3)), (a5, .inr (1, [.ref a6, .int v7, .int v8])), (a6, .inl (cT 0, 4096, .inl f6)), (a7, .inl (cT 3, 8, .inr (.inr (.inr (.inr rf0))))), (a8, .inr (3, [.ref a9, .ref a10, .ref p11, .ref p13, .int v15])), (a9, .inl (cT 1, 2048, .inl f9)), (a10, .inl (cT 1, 2048, .inl f10)), (p11, .inl (cT 1, 2048, .inl f12)), (p13, .inl (cT 1, 2048, .inl f14)), (a13, .inr (2, [.ref a14, .int v17, .int v18])), (a14, .inl (cT 2, 4096, .inr (.inl f16))), (a15, .inr (2, [.ref a16, .int v22, .int v23])), (a16, .inl (cT 2, 4096, .inr (.inl f21)))]) hP hD [] [0, 1, 2, 3, 4, 5, 6, 7, 8, 9, 10, 11, 12, 13, 14, 15, 16] 17 rfl rfl (by decide) (by decide) hk1 hFc hP1 hD1
  generalize H1 = H at hP hS ⊢
  rw [hr9]
  refine W.eq (g2 := F0 m 4 ls [.int o1]) rfl ?_
  refine lv_if_eq (tgt := 27) hx hb dB_one_4 (by decide) (fun hc => ?_) (fun hc => ?_)
  · rw [if_pos hc] at hf
    refine lv_iconst (v := 0) hx hb dB_one_27 (by decide) ?_
    obtain ⟨o4, hq5, hf⟩ := xbind hf
    by_cases hk6 : o4 = 0
    · rw [if_pos hk6] at hf
      obtain ⟨hPc, hDc, hFc⟩ := xcut (wc := []) hP hD hS hA [] rfl rfl (by decide)
      refine va_callv (va_runS (As := [.int 0]) (rest := []) ⟨hx, hb, hml, hown, htx⟩ (gB_demand l hl9 D cT aK aV H.size n (0 : Int32) o4 hq5 hk6) ⟨callB_of 1 htx (xw_goodC kw_1_221) rfl rfl rfl (htx _ kw_1_1) (htx _ kw_1_219) ⟨by decide, by decide, by decide +kernel⟩ ⟨Nat.le_of_ble_eq_true rfl, Nat.le_of_ble_eq_true rfl⟩, htx _ kw_1_220⟩ ⟨xPre_blind, (fun U hU hW => ⟨rfl, xPre_of hZ hS hFc hPc hDc hK U hU hW⟩)⟩ rfl rfl hl.1 rfl (lv_room (Nat.le_of_ble_eq_true rfl)) dB_one_28 ⟨Nat.le_of_ble_eq_true rfl, Nat.le_of_ble_eq_true rfl⟩) hS (fun q _ h => hFc q h) hFc (fun u9 t H1 locs ht hvm hr9 hB hz1 hk1 hS => ?_)
      obtain ⟨hP1, hK1, hD1⟩ := hB
      rw [ht] at hP1
      obtain ⟨hP, hD⟩ := xjoin (W := [(a0, .inr (0, [.ref a1, .ref a3, .ref a5, .ref a7, .ref a8, .ref a13, .int v19, .int v20])), (a1, .inr (1, [.ref a2, .int v1, .int v2])), (a2, .inl (cT 0, 4096, .inl f0)), (a3, .inr (1, [.ref a4, .int v4, .int v5])), (a4, .inl (cT 0, 4096, .inl f3)), (a5, .inr (1, [.ref a6, .int v7, .int v8])), (a6, .inl (cT 0, 4096, .inl f6)), (a7, .inl (cT 3, 8, .inr (.inr (.inr (.inr rf0))))), (a8, .inr (3, [.ref a9, .ref a10, .ref p11, .ref p13, .int v15])), (a9, .inl (cT 1, 2048, .inl f9)), (a10, .inl (cT 1, 2048, .inl f10)), (p11, .inl (cT 1, 2048, .inl f12)), (p13, .inl (cT 1, 2048, .inl f14)), (a13, .inr (2, [.ref a14, .int v17, .int v18])), (a14, .inl (cT 2, 4096, .inr (.inl f16))), (a15, .inr (2, [.ref a16, .int v22, .int v23])), (a16, .inl (cT 2, 4096, .inr (.inl f21)))]) hP hD [] [0, 1, 2, 3, 4, 5, 6, 7, 8, 9, 10, 11, 12, 13, 14, 15, 16] 17 rfl rfl (by decide) (by decide) hk1 hFc hP1 hD1
      generalize H1 = H at hP hS ⊢
      refine lv_aload_n hx hb dB_one_31 rfl (lv_at hl 0 rfl) ?_
      refine va_get (D := D) (ci := 0) (v := .ref a13) (C := "ValueBench") (T := TB) (N := 8) hx hb htx inB hown hK hP 0 rfl rfl 5 (by decide) (htx _ kw_1_100) (fun _ h9 => h9) rfl dB_one_32 ?_
      obtain ⟨o7, hq8, hf⟩ := xbind hf
      obtain ⟨hPc, hDc, hFc⟩ := xcut (wc := [(a13, .inr (2, [.ref a14, .int v17, .int v18])), (a14, .inl (cT 2, 4096, .inr (.inl f16)))]) hP hD hS hA [13, 14] rfl rfl (by decide)
      refine va_callv (va_runV (C := "ValueBench$Row") (As := []) (rest := []) ⟨hx, hb, hml, hown, htx⟩ (gR_clear l hl9 D cT aK aV H.size n a13 a14 f16 v17 v18 o7 hq8) ⟨callB_of 0 htx (xw_goodC kw_2_22) rfl rfl rfl (htx _ kw_1_4) (htx _ kw_2_19) ⟨by decide, by decide, by decide +kernel⟩ ⟨Nat.le_of_ble_eq_true rfl, Nat.le_of_ble_eq_true rfl⟩, (htx _ kw_2_20), (htx _ kw_2_21)⟩ ⟨xPre_blind, va_recv hK hP (ci := 2) rfl (q0 := 13) rfl, (fun U hU hW => ⟨rfl, xPre_of hZ hS hFc hPc hDc hK U hU hW⟩)⟩ rfl rfl hl.1 rfl (lv_room (Nat.le_of_ble_eq_true rfl)) dB_one_35 ⟨Nat.le_of_ble_eq_true rfl, Nat.le_of_ble_eq_true rfl⟩) hS (fun q _ h => hFc q h) hFc (fun u9 t H1 locs ht hvm hr9 hB hz1 hk1 hS => ?_)
      obtain ⟨hP1, hK1, hD1⟩ := hB
      rw [ht] at hP1
      obtain ⟨hP, hD⟩ := xjoin (W := [(a0, .inr (0, [.ref a1, .ref a3, .ref a5, .ref a7, .ref a8, .ref a13, .int v19, .int v20])), (a1, .inr (1, [.ref a2, .int v1, .int v2])), (a2, .inl (cT 0, 4096, .inl f0)), (a3, .inr (1, [.ref a4, .int v4, .int v5])), (a4, .inl (cT 0, 4096, .inl f3)), (a5, .inr (1, [.ref a6, .int v7, .int v8])), (a6, .inl (cT 0, 4096, .inl f6)), (a7, .inl (cT 3, 8, .inr (.inr (.inr (.inr rf0))))), (a8, .inr (3, [.ref a9, .ref a10, .ref p11, .ref p13, .int v15])), (a9, .inl (cT 1, 2048, .inl f9)), (a10, .inl (cT 1, 2048, .inl f10)), (p11, .inl (cT 1, 2048, .inl f12)), (p13, .inl (cT 1, 2048, .inl f14)), (a15, .inr (2, [.ref a16, .int v22, .int v23])), (a16, .inl (cT 2, 4096, .inr (.inl f21))), (a13, .inr (2, [.ref a14, .int o7.1, .int o7.2])), (a14, .inl (cT 2, 4096, .inr (.inl f16)))]) hP hD [13, 14] [0, 1, 2, 3, 4, 5, 6, 7, 8, 9, 10, 11, 12, 15, 16] 15 rfl rfl (by decide) (by decide) hk1 hFc hP1 hD1
      generalize H1 = H at hP hS ⊢
      refine lv_aload_n hx hb dB_one_38 rfl (lv_at hl 0 rfl) ?_
      refine lv_iload_n hx hb dB_one_39 rfl (lv_at hl 2 rfl) ?_
      refine lv_aload_n hx hb dB_one_40 rfl (lv_at hl 0 rfl) ?_
      refine va_get (D := D) (ci := 0) (v := .ref a7) (C := "ValueBench") (T := TB) (N := 8) hx hb htx inB hown hK hP 0 rfl rfl 3 (by decide) (htx _ kw_1_98) (fun _ h9 => h9) rfl dB_one_41 ?_
      refine lv_iload_n hx hb dB_one_44 rfl (lv_at hl 3 rfl) ?_
      obtain ⟨hg9, hf⟩ := xifn hf
      refine va_aldq hx hb hK hP 7 3 rfl rfl hg9 dB_one_45 ?_
      refine W.eq (g2 := F0 m 46 ls [va_rf (rf0 x3.toNatClampNeg), .int x2, .ref a0]) rfl ?_
      rw [hr3 hg9]
      refine W.eq (g2 := F0 m 46 ls [.ref a15, .int x2, .ref a0]) rfl ?_
      refine lv_aload_n hx hb dB_one_46 rfl (lv_at hl 0 rfl) ?_
      refine va_get (D := D) (ci := 0) (v := .ref a5) (C := "ValueBench") (T := TB) (N := 8) hx hb htx inB hown hK hP 0 rfl rfl 2 (by decide) (htx _ kw_1_97) (fun _ h9 => h9) rfl dB_one_47 ?_
      refine lv_aload_n hx hb dB_one_50 rfl (lv_at hl 0 rfl) ?_
      refine va_get (D := D) (ci := 0) (v := .ref a8) (C := "ValueBench") (T := TB) (N := 8) hx hb htx inB hown hK hP 0 rfl rfl 4 (by decide) (htx _ kw_1_99) (fun _ h9 => h9) rfl dB_one_51 ?_
      refine lv_aload_n hx hb dB_one_54 rfl (lv_at hl 0 rfl) ?_
      refine va_get (D := D) (ci := 0) (v := .ref a13) (C := "ValueBench") (T := TB) (N := 8) hx hb htx inB hown hK hP 0 rfl rfl 5 (by decide) (htx _ kw_1_100) (fun _ h9 => h9) rfl dB_one_55 ?_
      obtain ⟨o10, hq11, hf⟩ := xbind hf
      obtain ⟨hPc, hDc, hFc⟩ := xcut (wc := [(a15, .inr (2, [.ref a16, .int v22, .int v23])), (a16, .inl (cT 2, 4096, .inr (.inl f21))), (a5, .inr (1, [.ref a6, .int v7, .int v8])), (a6, .inl (cT 0, 4096, .inl f6)), (a8, .inr (3, [.ref a9, .ref a10, .ref p11, .ref p13, .int v15])), (a9, .inl (cT 1, 2048, .inl f9)), (a10, .inl (cT 1, 2048, .inl f10)), (p11, .inl (cT 1, 2048, .inl f12)), (p13, .inl (cT 1, 2048, .inl f14)), (a13, .inr (2, [.ref a14, .int o7.1, .int o7.2])), (a14, .inl (cT 2, 4096, .inr (.inl f16)))]) hP hD hS hA [13, 14, 5, 6, 8, 9, 10, 11, 12, 15, 16] rfl rfl (by decide)
      refine va_calli (va_runS (As := [.int x2, .ref a15, .ref a5, .ref a8, .ref a13]) (rest := [.ref a0]) ⟨hx, hb, hml, hown, htx⟩ (gG_apply l hl9 D cT aK aV H.size d n a15 a16 a5 a6 a8 a9 a10 a13 a14 x2 f21 v22 v23 f6 v7 v8 f9 f10 p11 f12 p13 f14 v15 f16 o7.1 o7.2 o10 hq11) ⟨callB_of 5 htx (xw_goodC kw_4_28) rfl rfl rfl (htx _ kw_1_26) (htx _ kw_4_26) ⟨by decide, by decide, by decide +kernel⟩ ⟨(by show (16 * d + 5) + 1 ≤ 16 * d + 7; omega), (by show 8 + (5 + 11) + (400 * d + 151) ≤ 400 * d + 175; omega)⟩, htx _ kw_4_27⟩ ⟨xPre_blind, (fun U hU hW => ⟨rfl, xPre_of hZ hS hFc hPc hDc hK U hU hW⟩)⟩ rfl rfl hl.1 rfl (lv_room (Nat.le_of_ble_eq_true rfl)) dB_one_58 ⟨Nat.le_of_ble_eq_true rfl, Nat.le_of_ble_eq_true rfl⟩) hS (fun q _ h => hFc q h) hFc (fun r12 u9 t H1 locs ht hvm hr9 hB hz1 hk1 hS => ?_)
      obtain ⟨hP1, hK1, hD1⟩ := hB
      rw [ht] at hP1
      obtain ⟨hP, hD⟩ := xjoin (W := [(a0, .inr (0, [.ref a1, .ref a3, .ref a5, .ref a7, .ref a8, .ref a13, .int v19, .int v20])), (a1, .inr (1, [.ref a2, .int v1, .int v2])), (a2, .inl (cT 0, 4096, .inl f0)), (a3, .inr (1, [.ref a4, .int v4, .int v5])), (a4, .inl (cT 0, 4096, .inl f3)), (a7, .inl (cT 3, 8, .inr (.inr (.inr (.inr rf0))))), (a15, .inr (2, [.ref a16, .int v22, .int v23])), (a16, .inl (cT 2, 4096, .inr (.inl f21))), (a5, .inr (1, [.ref a6, .int o10.2.2.1, .int o10.2.2.2.1])), (a6, .inl (cT 0, 4096, .inl o10.2.1)), (a8, .inr (3, [.ref a9, .ref a10, .ref o10.2.2.2.2.2.2.1, .ref o10.2.2.2.2.2.2.2.2.1, .int o10.2.2.2.2.2.2.2.2.2.1])), (a9, .inl (cT 1, 2048, .inl o10.2.2.2.2.1)), (a10, .inl (cT 1, 2048, .inl f10)), (o10.2.2.2.2.2.2.1, .inl (cT 1, 2048, .inl o10.2.2.2.2.2.1)), (o10.2.2.2.2.2.2.2.2.1, .inl (cT 1, 2048, .inl o10.2.2.2.2.2.2.2.1)), (a13, .inr (2, [.ref a14, .int o10.2.2.2.2.2.2.2.2.2.2.2.1, .int o10.2.2.2.2.2.2.2.2.2.2.2.2])), (a14, .inl (cT 2, 4096, .inr (.inl o10.2.2.2.2.2.2.2.2.2.2.1)))]) hP hD [13, 14, 5, 6, 8, 9, 10, 11, 12, 15, 16] [0, 1, 2, 3, 4, 7] 6 rfl rfl (by decide) (by decide) hk1 hFc hP1 hD1
      generalize H1 = H at hP hS ⊢
      rw [hr9]
      refine W.eq (g2 := F0 m 61 ls [.int o10.1, .ref a0]) rfl ?_
      obtain ⟨o13, hq14, hf⟩ := xbind hf
      by_cases hk15 : o13.1 = 0
      · rw [if_pos hk15] at hf
        obtain ⟨hPc, hDc, hFc⟩ := xcut (wc := [(a0, .inr (0, [.ref a1, .ref a3, .ref a5, .ref a7, .ref a8, .ref a13, .int v19, .int v20])), (a1, .inr (1, [.ref a2, .int v1, .int v2])), (a2, .inl (cT 0, 4096, .inl f0)), (a3, .inr (1, [.ref a4, .int v4, .int v5])), (a4, .inl (cT 0, 4096, .inl f3)), (a5, .inr (1, [.ref a6, .int o10.2.2.1, .int o10.2.2.2.1])), (a6, .inl (cT 0, 4096, .inl o10.2.1)), (a7, .inl (cT 3, 8, .inr (.inr (.inr (.inr rf0))))), (a8, .inr (3, [.ref a9, .ref a10, .ref o10.2.2.2.2.2.2.1, .ref o10.2.2.2.2.2.2.2.2.1, .int o10.2.2.2.2.2.2.2.2.2.1])), (a9, .inl (cT 1, 2048, .inl o10.2.2.2.2.1)), (a10, .inl (cT 1, 2048, .inl f10)), (o10.2.2.2.2.2.2.1, .inl (cT 1, 2048, .inl o10.2.2.2.2.2.1)), (o10.2.2.2.2.2.2.2.2.1, .inl (cT 1, 2048, .inl o10.2.2.2.2.2.2.2.1)), (a13, .inr (2, [.ref a14, .int o10.2.2.2.2.2.2.2.2.2.2.2.1, .int o10.2.2.2.2.2.2.2.2.2.2.2.2])), (a14, .inl (cT 2, 4096, .inr (.inl o10.2.2.2.2.2.2.2.2.2.2.1)))]) hP hD hS hA [0, 1, 2, 3, 4, 8, 9, 5, 10, 11, 12, 13, 14, 15, 16] rfl rfl (by decide)
        refine va_callv (va_runV (C := "ValueBench") (As := [.int o10.1]) (rest := []) ⟨hx, hb, hml, hown, htx⟩ (gB_demandDone l hl9 D cT aK aV H.size n a0 a1 a2 a3 a4 a5 a6 a7 a8 a9 a10 a13 a14 rf0 o10.1 f0 v1 v2 f3 v4 v5 o10.2.1 o10.2.2.1 o10.2.2.2.1 o10.2.2.2.2.1 f10 o10.2.2.2.2.2.2.1 o10.2.2.2.2.2.1 o10.2.2.2.2.2.2.2.2.1 o10.2.2.2.2.2.2.2.1 o10.2.2.2.2.2.2.2.2.2.1 o10.2.2.2.2.2.2.2.2.2.2.1 o10.2.2.2.2.2.2.2.2.2.2.2.1 o10.2.2.2.2.2.2.2.2.2.2.2.2 v19 v20 o13 hq14 hk15) ⟨callB_of 1 htx (xw_goodC kw_3_222) rfl rfl rfl (htx _ kw_1_1) (htx _ kw_3_219) ⟨by decide, by decide, by decide +kernel⟩ ⟨Nat.le_of_ble_eq_true rfl, Nat.le_of_ble_eq_true rfl⟩, (htx _ kw_3_221), (htx _ kp_B_demandDone)⟩ ⟨xPre_blind, va_recv hK hP (ci := 0) rfl (q0 := 0) rfl, (fun U hU hW => ⟨rfl, xPre_of hZ hS hFc hPc hDc hK U hU hW⟩)⟩ rfl rfl hl.1 rfl (lv_room (Nat.le_of_ble_eq_true rfl)) dB_one_61 ⟨Nat.le_of_ble_eq_true rfl, Nat.le_of_ble_eq_true rfl⟩) hS (fun q _ h => hFc q h) hFc (fun u9 t H1 locs ht hvm hr9 hB hz1 hk1 hS => ?_)
        obtain ⟨hP1, hK1, hD1⟩ := hB
        rw [ht] at hP1
        obtain ⟨hP, hD⟩ := xjoin (W := [(a15, .inr (2, [.ref a16, .int v22, .int v23])), (a16, .inl (cT 2, 4096, .inr (.inl f21))), (a0, .inr (0, [.ref a1, .ref a3, .ref a5, .ref a7, .ref a8, .ref a13, .int v19, .int o13.2])), (a1, .inr (1, [.ref a2, .int v1, .int v2])), (a2, .inl (cT 0, 4096, .inl f0)), (a3, .inr (1, [.ref a4, .int v4, .int v5])), (a4, .inl (cT 0, 4096, .inl f3)), (a5, .inr (1, [.ref a6, .int o10.2.2.1, .int o10.2.2.2.1])), (a6, .inl (cT 0, 4096, .inl o10.2.1)), (a7, .inl (cT 3, 8, .inr (.inr (.inr (.inr rf0))))), (a8, .inr (3, [.ref a9, .ref a10, .ref o10.2.2.2.2.2.2.1, .ref o10.2.2.2.2.2.2.2.2.1, .int o10.2.2.2.2.2.2.2.2.2.1])), (a9, .inl (cT 1, 2048, .inl o10.2.2.2.2.1)), (a10, .inl (cT 1, 2048, .inl f10)), (o10.2.2.2.2.2.2.1, .inl (cT 1, 2048, .inl o10.2.2.2.2.2.1)), (o10.2.2.2.2.2.2.2.2.1, .inl (cT 1, 2048, .inl o10.2.2.2.2.2.2.2.1)), (a13, .inr (2, [.ref a14, .int o10.2.2.2.2.2.2.2.2.2.2.2.1, .int o10.2.2.2.2.2.2.2.2.2.2.2.2])), (a14, .inl (cT 2, 4096, .inr (.inl o10.2.2.2.2.2.2.2.2.2.2.1)))]) hP hD [0, 1, 2, 3, 4, 8, 9, 5, 10, 11, 12, 13, 14, 15, 16] [6, 7] 2 rfl rfl (by decide) (by decide) hk1 hFc hP1 hD1
        generalize H1 = H at hP hS ⊢
        refine lv_aload_n hx hb dB_one_64 rfl (lv_at hl 0 rfl) ?_
        refine lv_iload_n hx hb dB_one_65 rfl (lv_at hl 1 rfl) ?_
        obtain ⟨o16, hq17, hf⟩ := xbind hf
        by_cases hk18 : o16.1 = 0
        · rw [if_pos hk18] at hf
          obtain ⟨hPc, hDc, hFc⟩ := xcut (wc := [(a0, .inr (0, [.ref a1, .ref a3, .ref a5, .ref a7, .ref a8, .ref a13, .int v19, .int o13.2])), (a1, .inr (1, [.ref a2, .int v1, .int v2])), (a2, .inl (cT 0, 4096, .inl f0)), (a3, .inr (1, [.ref a4, .int v4, .int v5])), (a4, .inl (cT 0, 4096, .inl f3)), (a5, .inr (1, [.ref a6, .int o10.2.2.1, .int o10.2.2.2.1])), (a6, .inl (cT 0, 4096, .inl o10.2.1)), (a7, .inl (cT 3, 8, .inr (.inr (.inr (.inr rf0))))), (a8, .inr (3, [.ref a9, .ref a10, .ref o10.2.2.2.2.2.2.1, .ref o10.2.2.2.2.2.2.2.2.1, .int o10.2.2.2.2.2.2.2.2.2.1])), (a9, .inl (cT 1, 2048, .inl o10.2.2.2.2.1)), (a10, .inl (cT 1, 2048, .inl f10)), (o10.2.2.2.2.2.2.1, .inl (cT 1, 2048, .inl o10.2.2.2.2.2.1)), (o10.2.2.2.2.2.2.2.2.1, .inl (cT 1, 2048, .inl o10.2.2.2.2.2.2.2.1)), (a13, .inr (2, [.ref a14, .int o10.2.2.2.2.2.2.2.2.2.2.2.1, .int o10.2.2.2.2.2.2.2.2.2.2.2.2])), (a14, .inl (cT 2, 4096, .inr (.inl o10.2.2.2.2.2.2.2.2.2.2.1)))]) hP hD hS hA [2, 3, 4, 5, 6, 7, 8, 9, 10, 11, 12, 13, 14, 15, 16] rfl rfl (by decide)
          refine va_calli (va_runV (C := "ValueBench") (As := [.int x1]) (rest := []) ⟨hx, hb, hml, hown, htx⟩ (gB_keepSpare l hl9 D cT aK aV H.size d n a0 a1 a2 a3 a4 a5 a6 a7 a8 a9 a10 a13 a14 rf0 b1 x1 f0 v1 v2 f3 v4 v5 o10.2.1 o10.2.2.1 o10.2.2.2.1 o10.2.2.2.2.1 f10 o10.2.2.2.2.2.2.1 o10.2.2.2.2.2.1 o10.2.2.2.2.2.2.2.2.1 o10.2.2.2.2.2.2.2.1 o10.2.2.2.2.2.2.2.2.2.1 o10.2.2.2.2.2.2.2.2.2.2.1 o10.2.2.2.2.2.2.2.2.2.2.2.1 o10.2.2.2.2.2.2.2.2.2.2.2.2 v19 o13.2 hr1 o16 hq17 hk18) ⟨callB_of 1 htx (xw_goodC kw_3_17) rfl rfl rfl (htx _ kw_1_1) (htx _ kw_3_14) ⟨by decide, by decide, by decide +kernel⟩ ⟨(by show (16 * d + 6) + 1 ≤ 16 * d + 7; omega), (by show 8 + (3 + 11) + (400 * d + 100) ≤ 400 * d + 175; omega)⟩, (htx _ kw_3_16), (htx _ kp_B_keepSpare)⟩ ⟨xPre_blind, va_recv hK hP (ci := 0) rfl (q0 := 2) rfl, (fun U hU hW => ⟨rfl, xPre_of hZ hS hFc hPc hDc hK U hU hW⟩)⟩ rfl rfl hl.1 rfl (lv_room (Nat.le_of_ble_eq_true rfl)) dB_one_66 ⟨Nat.le_of_ble_eq_true rfl, Nat.le_of_ble_eq_true rfl⟩) hS (fun q _ h => hFc q h) hFc (fun r19 u9 t H1 locs ht hvm hr9 hB hz1 hk1 hS => ?_)
          obtain ⟨hP1, hK1, hD1⟩ := hB
          rw [ht] at hP1
          obtain ⟨hP, hD⟩ := xjoin (W := [(a15, .inr (2, [.ref a16, .int v22, .int v23])), (a16, .inl (cT 2, 4096, .inr (.inl f21))), (a0, .inr (0, [.ref a1, .ref a3, .ref a5, .ref a7, .ref a8, .ref b1, .int v19, .int o13.2])), (a1, .inr (1, [.ref a2, .int v1, .int v2])), (a2, .inl (cT 0, 4096, .inl f0)), (a3, .inr (1, [.ref a4, .int v4, .int v5])), (a4, .inl (cT 0, 4096, .inl f3)), (a5, .inr (1, [.ref a6, .int o16.2.2.2.1, .int o16.2.2.2.2])), (a6, .inl (cT 0, 4096, .inl o16.2.2.1)), (a7, .inl (cT 3, 8, .inr (.inr (.inr (.inr (va_up rf0 x1.toNatClampNeg (some a13))))))), (a8, .inr (3, [.ref a9, .ref a10, .ref o10.2.2.2.2.2.2.1, .ref o10.2.2.2.2.2.2.2.2.1, .int o10.2.2.2.2.2.2.2.2.2.1])), (a9, .inl (cT 1, 2048, .inl o10.2.2.2.2.1)), (a10, .inl (cT 1, 2048, .inl f10)), (o10.2.2.2.2.2.2.1, .inl (cT 1, 2048, .inl o10.2.2.2.2.2.1)), (o10.2.2.2.2.2.2.2.2.1, .inl (cT 1, 2048, .inl o10.2.2.2.2.2.2.2.1)), (a13, .inr (2, [.ref a14, .int o10.2.2.2.2.2.2.2.2.2.2.2.1, .int o10.2.2.2.2.2.2.2.2.2.2.2.2])), (a14, .inl (cT 2, 4096, .inr (.inl o10.2.2.2.2.2.2.2.2.2.2.1)))]) hP hD [2, 3, 4, 5, 6, 7, 8, 9, 10, 11, 12, 13, 14, 15, 16] [0, 1] 2 rfl rfl (by decide) (by decide) hk1 hFc hP1 hD1
          generalize H1 = H at hP hS ⊢
          rw [hr9]
          refine W.eq (g2 := F0 m 69 ls [.int o16.2.1]) rfl ?_
          refine lv_pop hx hb dB_one_69 rfl ?_
          obtain rfl := Option.some.inj hf
          exact absurd (show (0 : Nat) = 1 from hkd) (by decide)
        rw [if_neg hk18] at hf
        by_cases hk20 : o16.1 = 1
        · rw [if_pos hk20] at hf
          obtain ⟨hPc, hDc, hFc⟩ := xcut (wc := [(a0, .inr (0, [.ref a1, .ref a3, .ref a5, .ref a7, .ref a8, .ref a13, .int v19, .int o13.2])), (a1, .inr (1, [.ref a2, .int v1, .int v2])), (a2, .inl (cT 0, 4096, .inl f0)), (a3, .inr (1, [.ref a4, .int v4, .int v5])), (a4, .inl (cT 0, 4096, .inl f3)), (a5, .inr (1, [.ref a6, .int o10.2.2.1, .int o10.2.2.2.1])), (a6, .inl (cT 0, 4096, .inl o10.2.1)), (a7, .inl (cT 3, 8, .inr (.inr (.inr (.inr rf0))))), (a8, .inr (3, [.ref a9, .ref a10, .ref o10.2.2.2.2.2.2.1, .ref o10.2.2.2.2.2.2.2.2.1, .int o10.2.2.2.2.2.2.2.2.2.1])), (a9, .inl (cT 1, 2048, .inl o10.2.2.2.2.1)), (a10, .inl (cT 1, 2048, .inl f10)), (o10.2.2.2.2.2.2.1, .inl (cT 1, 2048, .inl o10.2.2.2.2.2.1)), (o10.2.2.2.2.2.2.2.2.1, .inl (cT 1, 2048, .inl o10.2.2.2.2.2.2.2.1)), (a13, .inr (2, [.ref a14, .int o10.2.2.2.2.2.2.2.2.2.2.2.1, .int o10.2.2.2.2.2.2.2.2.2.2.2.2])), (a14, .inl (cT 2, 4096, .inr (.inl o10.2.2.2.2.2.2.2.2.2.2.1)))]) hP hD hS hA [2, 3, 4, 5, 6, 7, 8, 9, 10, 11, 12, 13, 14, 15, 16] rfl rfl (by decide)
          refine xx_thr (vx_runV (C := "ValueBench") (As := [.int x1]) (rest := []) ⟨hx, hb, hml, hown, htx⟩ (gB_keepSpare_1 l hl9 D cT aK aV H.size d n a0 a1 a2 a3 a4 a5 a6 a7 a8 a9 a10 a13 a14 rf0 b1 x1 f0 v1 v2 f3 v4 v5 o10.2.1 o10.2.2.1 o10.2.2.2.1 o10.2.2.2.2.1 f10 o10.2.2.2.2.2.2.1 o10.2.2.2.2.2.1 o10.2.2.2.2.2.2.2.2.1 o10.2.2.2.2.2.2.2.1 o10.2.2.2.2.2.2.2.2.2.1 o10.2.2.2.2.2.2.2.2.2.2.1 o10.2.2.2.2.2.2.2.2.2.2.2.1 o10.2.2.2.2.2.2.2.2.2.2.2.2 v19 o13.2 hr1 o16 hq17 hk20) ⟨callB_of 1 htx (xw_goodC kw_3_17) rfl rfl rfl (htx _ kw_1_1) (htx _ kw_3_14) ⟨by decide, by decide, by decide +kernel⟩ ⟨(by show (16 * d + 6) + 1 ≤ 16 * d + 7; omega), (by show 8 + (3 + 11) + (400 * d + 100) ≤ 400 * d + 175; omega)⟩, (htx _ kw_3_16), (htx _ kp_B_keepSpare)⟩ ⟨xPre_blind, va_recv hK hP (ci := 0) rfl (q0 := 2) rfl, (fun U hU hW => ⟨rfl, xPre_of hZ hS hFc hPc hDc hK U hU hW⟩)⟩ rfl rfl hl.1 rfl (lv_room (Nat.le_of_ble_eq_true rfl)) dB_one_66 ⟨Nat.le_of_ble_eq_true rfl, Nat.le_of_ble_eq_true rfl⟩) hS hFc (fun q _ h => hFc q h) (fun E ce q9 u9 t H1 locs ht hvm _ hB hz1 hk1 hS hce hcv hcl => ?_)
          obtain ⟨rfl, hP1, hK1, hD1⟩ := hB
          rw [ht] at hP1
          obtain ⟨hP, hD⟩ := xjoin (W := [(a15, .inr (2, [.ref a16, .int v22, .int v23])), (a16, .inl (cT 2, 4096, .inr (.inl f21))), (a0, .inr (0, [.ref a1, .ref a3, .ref a5, .ref a7, .ref a8, .ref a13, .int v19, .int o13.2])), (a1, .inr (1, [.ref a2, .int v1, .int v2])), (a2, .inl (cT 0, 4096, .inl f0)), (a3, .inr (1, [.ref a4, .int v4, .int v5])), (a4, .inl (cT 0, 4096, .inl f3)), (a5, .inr (1, [.ref a6, .int o16.2.2.2.1, .int o16.2.2.2.2])), (a6, .inl (cT 0, 4096, .inl o16.2.2.1)), (a7, .inl (cT 3, 8, .inr (.inr (.inr (.inr rf0))))), (a8, .inr (3, [.ref a9, .ref a10, .ref o10.2.2.2.2.2.2.1, .ref o10.2.2.2.2.2.2.2.2.1, .int o10.2.2.2.2.2.2.2.2.2.1])), (a9, .inl (cT 1, 2048, .inl o10.2.2.2.2.1)), (a10, .inl (cT 1, 2048, .inl f10)), (o10.2.2.2.2.2.2.1, .inl (cT 1, 2048, .inl o10.2.2.2.2.2.1)), (o10.2.2.2.2.2.2.2.2.1, .inl (cT 1, 2048, .inl o10.2.2.2.2.2.2.2.1)), (a13, .inr (2, [.ref a14, .int o10.2.2.2.2.2.2.2.2.2.2.2.1, .int o10.2.2.2.2.2.2.2.2.2.2.2.2])), (a14, .inl (cT 2, 4096, .inr (.inl o10.2.2.2.2.2.2.2.2.2.2.1)))]) hP hD [2, 3, 4, 5, 6, 7, 8, 9, 10, 11, 12, 13, 14, 15, 16] [0, 1] 2 rfl rfl (by decide) (by decide) hk1 hFc hP1 hD1
          generalize H1 = H at hP hS hce ⊢
          obtain rfl := Option.some.inj hf
          obtain ⟨hP9, hD9⟩ := xsub (wc := [(a0, .inr (0, [.ref a1, .ref a3, .ref a5, .ref a7, .ref a8, .ref a13, .int v19, .int o13.2])), (a1, .inr (1, [.ref a2, .int v1, .int v2])), (a2, .inl (cT 0, 4096, .inl f0)), (a3, .inr (1, [.ref a4, .int v4, .int v5])), (a4, .inl (cT 0, 4096, .inl f3)), (a5, .inr (1, [.ref a6, .int o16.2.2.2.1, .int o16.2.2.2.2])), (a6, .inl (cT 0, 4096, .inl o16.2.2.1)), (a7, .inl (cT 3, 8, .inr (.inr (.inr (.inr rf0))))), (a8, .inr (3, [.ref a9, .ref a10, .ref o10.2.2.2.2.2.2.1, .ref o10.2.2.2.2.2.2.2.2.1, .int o10.2.2.2.2.2.2.2.2.2.1])), (a9, .inl (cT 1, 2048, .inl o10.2.2.2.2.1)), (a10, .inl (cT 1, 2048, .inl f10)), (o10.2.2.2.2.2.2.1, .inl (cT 1, 2048, .inl o10.2.2.2.2.2.1)), (o10.2.2.2.2.2.2.2.2.1, .inl (cT 1, 2048, .inl o10.2.2.2.2.2.2.2.1)), (a13, .inr (2, [.ref a14, .int o10.2.2.2.2.2.2.2.2.2.2.2.1, .int o10.2.2.2.2.2.2.2.2.2.2.2.2])), (a14, .inl (cT 2, 4096, .inr (.inl o10.2.2.2.2.2.2.2.2.2.2.1))), (a15, .inr (2, [.ref a16, .int v22, .int v23])), (a16, .inl (cT 2, 4096, .inr (.inl f21)))]) hP hD [2, 3, 4, 5, 6, 7, 8, 9, 10, 11, 12, 13, 14, 15, 16, 0, 1] rfl rfl (by decide)
          exact vx_out (E := "java/lang/IndexOutOfBoundsException") (fun x h => (hne x h).elim) hlocks hce hcv hcl (fun t ht ha => ⟨(), trivial, ⟨rfl, by rw [ht]; exact hP9, va_K.moved ha hK, hD9⟩, hS.F ht⟩) hS.2.2 (Nat.le_of_ble_eq_true rfl) (Nat.le_of_ble_eq_true rfl)
        rw [if_neg hk20] at hf
        exact nomatch hf
      rw [if_neg hk15] at hf
      by_cases hk22 : o13.1 = 1
      · rw [if_pos hk22] at hf
        obtain rfl := Option.some.inj hf
        exact absurd (show (2 : Nat) = 1 from hkd) (by decide)
      rw [if_neg hk22] at hf
      exact nomatch hf
    rw [if_neg hk6] at hf
    by_cases hk23 : o4 = 1
    · rw [if_pos hk23] at hf
      obtain rfl := Option.some.inj hf
      exact absurd (show (3 : Nat) = 1 from hkd) (by decide)
    rw [if_neg hk23] at hf
    exact nomatch hf
  · rw [if_neg hc] at hf
    refine lv_iload_n hx hb dB_one_7 rfl (lv_at hl 2 rfl) ?_
    refine lv_bipush (v := 13) hx hb dB_one_8 (by decide) ?_
    obtain ⟨o4, hq5, hf⟩ := xbind hf
    obtain ⟨hPc, hDc, hFc⟩ := xcut (wc := []) hP hD hS hA [] rfl rfl (by decide)
    refine va_calli (va_runS (As := [.int x2, .int 13]) (rest := []) ⟨hx, hb, hml, hown, htx⟩ (gB_isWithin l hl9 D cT aK aV H.size n x2 (13 : Int32) o4 hq5) ⟨callB_of 2 htx (xw_goodC kw_1_218) rfl rfl rfl (htx _ kw_1_1) (htx _ kw_1_216) ⟨by decide, by decide, by decide +kernel⟩ ⟨Nat.le_of_ble_eq_true rfl, Nat.le_of_ble_eq_true rfl⟩, htx _ kw_1_217⟩ ⟨xPre_blind, (fun U hU hW => ⟨rfl, xPre_of hZ hS hFc hPc hDc hK U hU hW⟩)⟩ rfl rfl hl.1 rfl (lv_room (Nat.le_of_ble_eq_true rfl)) dB_one_10 ⟨Nat.le_of_ble_eq_true rfl, Nat.le_of_ble_eq_true rfl⟩) hS (fun q _ h => hFc q h) hFc (fun r6 u9 t H1 locs ht hvm hr9 hB hz1 hk1 hS => ?_)
    obtain ⟨hP1, hK1, hD1⟩ := hB
    rw [ht] at hP1
    obtain ⟨hP, hD⟩ := xjoin (W := [(a0, .inr (0, [.ref a1, .ref a3, .ref a5, .ref a7, .ref a8, .ref a13, .int v19, .int v20])), (a1, .inr (1, [.ref a2, .int v1, .int v2])), (a2, .inl (cT 0, 4096, .inl f0)), (a3, .inr (1, [.ref a4, .int v4, .int v5])), (a4, .inl (cT 0, 4096, .inl f3)), (a5, .inr (1, [.ref a6, .int v7, .int v8])), (a6, .inl (cT 0, 4096, .inl f6)), (a7, .inl (cT 3, 8, .inr (.inr (.inr (.inr rf0))))), (a8, .inr (3, [.ref a9, .ref a10, .ref p11, .ref p13, .int v15])), (a9, .inl (cT 1, 2048, .inl f9)), (a10, .inl (cT 1, 2048, .inl f10)), (p11, .inl (cT 1, 2048, .inl f12)), (p13, .inl (cT 1, 2048, .inl f14)), (a13, .inr (2, [.ref a14, .int v17, .int v18])), (a14, .inl (cT 2, 4096, .inr (.inl f16))), (a15, .inr (2, [.ref a16, .int v22, .int v23])), (a16, .inl (cT 2, 4096, .inr (.inl f21)))]) hP hD [] [0, 1, 2, 3, 4, 5, 6, 7, 8, 9, 10, 11, 12, 13, 14, 15, 16] 17 rfl rfl (by decide) (by decide) hk1 hFc hP1 hD1
    generalize H1 = H at hP hS ⊢
    rw [hr9]
    refine W.eq (g2 := F0 m 13 ls [.int o4]) rfl ?_
    refine lv_if_eq (tgt := 27) hx hb dB_one_13 (by decide) (fun hc => ?_) (fun hc => ?_)
    · rw [if_pos hc] at hf
      refine lv_iconst (v := 0) hx hb dB_one_27 (by decide) ?_
      obtain ⟨o7, hq8, hf⟩ := xbind hf
      by_cases hk9 : o7 = 0
      · rw [if_pos hk9] at hf
        obtain ⟨hPc, hDc, hFc⟩ := xcut (wc := []) hP hD hS hA [] rfl rfl (by decide)
        refine va_callv (va_runS (As := [.int 0]) (rest := []) ⟨hx, hb, hml, hown, htx⟩ (gB_demand l hl9 D cT aK aV H.size n (0 : Int32) o7 hq8 hk9) ⟨callB_of 1 htx (xw_goodC kw_1_221) rfl rfl rfl (htx _ kw_1_1) (htx _ kw_1_219) ⟨by decide, by decide, by decide +kernel⟩ ⟨Nat.le_of_ble_eq_true rfl, Nat.le_of_ble_eq_true rfl⟩, htx _ kw_1_220⟩ ⟨xPre_blind, (fun U hU hW => ⟨rfl, xPre_of hZ hS hFc hPc hDc hK U hU hW⟩)⟩ rfl rfl hl.1 rfl (lv_room (Nat.le_of_ble_eq_true rfl)) dB_one_28 ⟨Nat.le_of_ble_eq_true rfl, Nat.le_of_ble_eq_true rfl⟩) hS (fun q _ h => hFc q h) hFc (fun u9 t H1 locs ht hvm hr9 hB hz1 hk1 hS => ?_)
        obtain ⟨hP1, hK1, hD1⟩ := hB
        rw [ht] at hP1
        obtain ⟨hP, hD⟩ := xjoin (W := [(a0, .inr (0, [.ref a1, .ref a3, .ref a5, .ref a7, .ref a8, .ref a13, .int v19, .int v20])), (a1, .inr (1, [.ref a2, .int v1, .int v2])), (a2, .inl (cT 0, 4096, .inl f0)), (a3, .inr (1, [.ref a4, .int v4, .int v5])), (a4, .inl (cT 0, 4096, .inl f3)), (a5, .inr (1, [.ref a6, .int v7, .int v8])), (a6, .inl (cT 0, 4096, .inl f6)), (a7, .inl (cT 3, 8, .inr (.inr (.inr (.inr rf0))))), (a8, .inr (3, [.ref a9, .ref a10, .ref p11, .ref p13, .int v15])), (a9, .inl (cT 1, 2048, .inl f9)), (a10, .inl (cT 1, 2048, .inl f10)), (p11, .inl (cT 1, 2048, .inl f12)), (p13, .inl (cT 1, 2048, .inl f14)), (a13, .inr (2, [.ref a14, .int v17, .int v18])), (a14, .inl (cT 2, 4096, .inr (.inl f16))), (a15, .inr (2, [.ref a16, .int v22, .int v23])), (a16, .inl (cT 2, 4096, .inr (.inl f21)))]) hP hD [] [0, 1, 2, 3, 4, 5, 6, 7, 8, 9, 10, 11, 12, 13, 14, 15, 16] 17 rfl rfl (by decide) (by decide) hk1 hFc hP1 hD1
        generalize H1 = H at hP hS ⊢
        refine lv_aload_n hx hb dB_one_31 rfl (lv_at hl 0 rfl) ?_
        refine va_get (D := D) (ci := 0) (v := .ref a13) (C := "ValueBench") (T := TB) (N := 8) hx hb htx inB hown hK hP 0 rfl rfl 5 (by decide) (htx _ kw_1_100) (fun _ h9 => h9) rfl dB_one_32 ?_
        obtain ⟨o10, hq11, hf⟩ := xbind hf
        obtain ⟨hPc, hDc, hFc⟩ := xcut (wc := [(a13, .inr (2, [.ref a14, .int v17, .int v18])), (a14, .inl (cT 2, 4096, .inr (.inl f16)))]) hP hD hS hA [13, 14] rfl rfl (by decide)
        refine va_callv (va_runV (C := "ValueBench$Row") (As := []) (rest := []) ⟨hx, hb, hml, hown, htx⟩ (gR_clear l hl9 D cT aK aV H.size n a13 a14 f16 v17 v18 o10 hq11) ⟨callB_of 0 htx (xw_goodC kw_2_22) rfl rfl rfl (htx _ kw_1_4) (htx _ kw_2_19) ⟨by decide, by decide, by decide +kernel⟩ ⟨Nat.le_of_ble_eq_true rfl, Nat.le_of_ble_eq_true rfl⟩, (htx _ kw_2_20), (htx _ kw_2_21)⟩ ⟨xPre_blind, va_recv hK hP (ci := 2) rfl (q0 := 13) rfl, (fun U hU hW => ⟨rfl, xPre_of hZ hS hFc hPc hDc hK U hU hW⟩)⟩ rfl rfl hl.1 rfl (lv_room (Nat.le_of_ble_eq_true rfl)) dB_one_35 ⟨Nat.le_of_ble_eq_true rfl, Nat.le_of_ble_eq_true rfl⟩) hS (fun q _ h => hFc q h) hFc (fun u9 t H1 locs ht hvm hr9 hB hz1 hk1 hS => ?_)
        obtain ⟨hP1, hK1, hD1⟩ := hB
        rw [ht] at hP1
        obtain ⟨hP, hD⟩ := xjoin (W := [(a0, .inr (0, [.ref a1, .ref a3, .ref a5, .ref a7, .ref a8, .ref a13, .int v19, .int v20])), (a1, .inr (1, [.ref a2, .int v1, .int v2])), (a2, .inl (cT 0, 4096, .inl f0)), (a3, .inr (1, [.ref a4, .int v4, .int v5])), (a4, .inl (cT 0, 4096, .inl f3)), (a5, .inr (1, [.ref a6, .int v7, .int v8])), (a6, .inl (cT 0, 4096, .inl f6)), (a7, .inl (cT 3, 8, .inr (.inr (.inr (.inr rf0))))), (a8, .inr (3, [.ref a9, .ref a10, .ref p11, .ref p13, .int v15])), (a9, .inl (cT 1, 2048, .inl f9)), (a10, .inl (cT 1, 2048, .inl f10)), (p11, .inl (cT 1, 2048, .inl f12)), (p13, .inl (cT 1, 2048, .inl f14)), (a15, .inr (2, [.ref a16, .int v22, .int v23])), (a16, .inl (cT 2, 4096, .inr (.inl f21))), (a13, .inr (2, [.ref a14, .int o10.1, .int o10.2])), (a14, .inl (cT 2, 4096, .inr (.inl f16)))]) hP hD [13, 14] [0, 1, 2, 3, 4, 5, 6, 7, 8, 9, 10, 11, 12, 15, 16] 15 rfl rfl (by decide) (by decide) hk1 hFc hP1 hD1
        generalize H1 = H at hP hS ⊢
        refine lv_aload_n hx hb dB_one_38 rfl (lv_at hl 0 rfl) ?_
        refine lv_iload_n hx hb dB_one_39 rfl (lv_at hl 2 rfl) ?_
        refine lv_aload_n hx hb dB_one_40 rfl (lv_at hl 0 rfl) ?_
        refine va_get (D := D) (ci := 0) (v := .ref a7) (C := "ValueBench") (T := TB) (N := 8) hx hb htx inB hown hK hP 0 rfl rfl 3 (by decide) (htx _ kw_1_98) (fun _ h9 => h9) rfl dB_one_41 ?_
        refine lv_iload_n hx hb dB_one_44 rfl (lv_at hl 3 rfl) ?_
        obtain ⟨hg12, hf⟩ := xifn hf
        refine va_aldq hx hb hK hP 7 3 rfl rfl hg12 dB_one_45 ?_
        refine W.eq (g2 := F0 m 46 ls [va_rf (rf0 x3.toNatClampNeg), .int x2, .ref a0]) rfl ?_
        rw [hr3 hg12]
        refine W.eq (g2 := F0 m 46 ls [.ref a15, .int x2, .ref a0]) rfl ?_
        refine lv_aload_n hx hb dB_one_46 rfl (lv_at hl 0 rfl) ?_
        refine va_get (D := D) (ci := 0) (v := .ref a5) (C := "ValueBench") (T := TB) (N := 8) hx hb htx inB hown hK hP 0 rfl rfl 2 (by decide) (htx _ kw_1_97) (fun _ h9 => h9) rfl dB_one_47 ?_
        refine lv_aload_n hx hb dB_one_50 rfl (lv_at hl 0 rfl) ?_
        refine va_get (D := D) (ci := 0) (v := .ref a8) (C := "ValueBench") (T := TB) (N := 8) hx hb htx inB hown hK hP 0 rfl rfl 4 (by decide) (htx _ kw_1_99) (fun _ h9 => h9) rfl dB_one_51 ?_
        refine lv_aload_n hx hb dB_one_54 rfl (lv_at hl 0 rfl) ?_
        refine va_get (D := D) (ci := 0) (v := .ref a13) (C := "ValueBench") (T := TB) (N := 8) hx hb htx inB hown hK hP 0 rfl rfl 5 (by decide) (htx _ kw_1_100) (fun _ h9 => h9) rfl dB_one_55 ?_
        obtain ⟨o13, hq14, hf⟩ := xbind hf
        obtain ⟨hPc, hDc, hFc⟩ := xcut (wc := [(a15, .inr (2, [.ref a16, .int v22, .int v23])), (a16, .inl (cT 2, 4096, .inr (.inl f21))), (a5, .inr (1, [.ref a6, .int v7, .int v8])), (a6, .inl (cT 0, 4096, .inl f6)), (a8, .inr (3, [.ref a9, .ref a10, .ref p11, .ref p13, .int v15])), (a9, .inl (cT 1, 2048, .inl f9)), (a10, .inl (cT 1, 2048, .inl f10)), (p11, .inl (cT 1, 2048, .inl f12)), (p13, .inl (cT 1, 2048, .inl f14)), (a13, .inr (2, [.ref a14, .int o10.1, .int o10.2])), (a14, .inl (cT 2, 4096, .inr (.inl f16)))]) hP hD hS hA [13, 14, 5, 6, 8, 9, 10, 11, 12, 15, 16] rfl rfl (by decide)
        refine va_calli (va_runS (As := [.int x2, .ref a15, .ref a5, .ref a8, .ref a13]) (rest := [.ref a0]) ⟨hx, hb, hml, hown, htx⟩ (gG_apply l hl9 D cT aK aV H.size d n a15 a16 a5 a6 a8 a9 a10 a13 a14 x2 f21 v22 v23 f6 v7 v8 f9 f10 p11 f12 p13 f14 v15 f16 o10.1 o10.2 o13 hq14) ⟨callB_of 5 htx (xw_goodC kw_4_28) rfl rfl rfl (htx _ kw_1_26) (htx _ kw_4_26) ⟨by decide, by decide, by decide +kernel⟩ ⟨(by show (16 * d + 5) + 1 ≤ 16 * d + 7; omega), (by show 8 + (5 + 11) + (400 * d + 151) ≤ 400 * d + 175; omega)⟩, htx _ kw_4_27⟩ ⟨xPre_blind, (fun U hU hW => ⟨rfl, xPre_of hZ hS hFc hPc hDc hK U hU hW⟩)⟩ rfl rfl hl.1 rfl (lv_room (Nat.le_of_ble_eq_true rfl)) dB_one_58 ⟨Nat.le_of_ble_eq_true rfl, Nat.le_of_ble_eq_true rfl⟩) hS (fun q _ h => hFc q h) hFc (fun r15 u9 t H1 locs ht hvm hr9 hB hz1 hk1 hS => ?_)
        obtain ⟨hP1, hK1, hD1⟩ := hB
        rw [ht] at hP1
        obtain ⟨hP, hD⟩ := xjoin (W := [(a0, .inr (0, [.ref a1, .ref a3, .ref a5, .ref a7, .ref a8, .ref a13, .int v19, .int v20])), (a1, .inr (1, [.ref a2, .int v1, .int v2])), (a2, .inl (cT 0, 4096, .inl f0)), (a3, .inr (1, [.ref a4, .int v4, .int v5])), (a4, .inl (cT 0, 4096, .inl f3)), (a7, .inl (cT 3, 8, .inr (.inr (.inr (.inr rf0))))), (a15, .inr (2, [.ref a16, .int v22, .int v23])), (a16, .inl (cT 2, 4096, .inr (.inl f21))), (a5, .inr (1, [.ref a6, .int o13.2.2.1, .int o13.2.2.2.1])), (a6, .inl (cT 0, 4096, .inl o13.2.1)), (a8, .inr (3, [.ref a9, .ref a10, .ref o13.2.2.2.2.2.2.1, .ref o13.2.2.2.2.2.2.2.2.1, .int o13.2.2.2.2.2.2.2.2.2.1])), (a9, .inl (cT 1, 2048, .inl o13.2.2.2.2.1)), (a10, .inl (cT 1, 2048, .inl f10)), (o13.2.2.2.2.2.2.1, .inl (cT 1, 2048, .inl o13.2.2.2.2.2.1)), (o13.2.2.2.2.2.2.2.2.1, .inl (cT 1, 2048, .inl o13.2.2.2.2.2.2.2.1)), (a13, .inr (2, [.ref a14, .int o13.2.2.2.2.2.2.2.2.2.2.2.1, .int o13.2.2.2.2.2.2.2.2.2.2.2.2])), (a14, .inl (cT 2, 4096, .inr (.inl o13.2.2.2.2.2.2.2.2.2.2.1)))]) hP hD [13, 14, 5, 6, 8, 9, 10, 11, 12, 15, 16] [0, 1, 2, 3, 4, 7] 6 rfl rfl (by decide) (by decide) hk1 hFc hP1 hD1
        generalize H1 = H at hP hS ⊢
        rw [hr9]
        refine W.eq (g2 := F0 m 61 ls [.int o13.1, .ref a0]) rfl ?_
        obtain ⟨o16, hq17, hf⟩ := xbind hf
        by_cases hk18 : o16.1 = 0
        · rw [if_pos hk18] at hf
          obtain ⟨hPc, hDc, hFc⟩ := xcut (wc := [(a0, .inr (0, [.ref a1, .ref a3, .ref a5, .ref a7, .ref a8, .ref a13, .int v19, .int v20])), (a1, .inr (1, [.ref a2, .int v1, .int v2])), (a2, .inl (cT 0, 4096, .inl f0)), (a3, .inr (1, [.ref a4, .int v4, .int v5])), (a4, .inl (cT 0, 4096, .inl f3)), (a5, .inr (1, [.ref a6, .int o13.2.2.1, .int o13.2.2.2.1])), (a6, .inl (cT 0, 4096, .inl o13.2.1)), (a7, .inl (cT 3, 8, .inr (.inr (.inr (.inr rf0))))), (a8, .inr (3, [.ref a9, .ref a10, .ref o13.2.2.2.2.2.2.1, .ref o13.2.2.2.2.2.2.2.2.1, .int o13.2.2.2.2.2.2.2.2.2.1])), (a9, .inl (cT 1, 2048, .inl o13.2.2.2.2.1)), (a10, .inl (cT 1, 2048, .inl f10)), (o13.2.2.2.2.2.2.1, .inl (cT 1, 2048, .inl o13.2.2.2.2.2.1)), (o13.2.2.2.2.2.2.2.2.1, .inl (cT 1, 2048, .inl o13.2.2.2.2.2.2.2.1)), (a13, .inr (2, [.ref a14, .int o13.2.2.2.2.2.2.2.2.2.2.2.1, .int o13.2.2.2.2.2.2.2.2.2.2.2.2])), (a14, .inl (cT 2, 4096, .inr (.inl o13.2.2.2.2.2.2.2.2.2.2.1)))]) hP hD hS hA [0, 1, 2, 3, 4, 8, 9, 5, 10, 11, 12, 13, 14, 15, 16] rfl rfl (by decide)
          refine va_callv (va_runV (C := "ValueBench") (As := [.int o13.1]) (rest := []) ⟨hx, hb, hml, hown, htx⟩ (gB_demandDone l hl9 D cT aK aV H.size n a0 a1 a2 a3 a4 a5 a6 a7 a8 a9 a10 a13 a14 rf0 o13.1 f0 v1 v2 f3 v4 v5 o13.2.1 o13.2.2.1 o13.2.2.2.1 o13.2.2.2.2.1 f10 o13.2.2.2.2.2.2.1 o13.2.2.2.2.2.1 o13.2.2.2.2.2.2.2.2.1 o13.2.2.2.2.2.2.2.1 o13.2.2.2.2.2.2.2.2.2.1 o13.2.2.2.2.2.2.2.2.2.2.1 o13.2.2.2.2.2.2.2.2.2.2.2.1 o13.2.2.2.2.2.2.2.2.2.2.2.2 v19 v20 o16 hq17 hk18) ⟨callB_of 1 htx (xw_goodC kw_3_222) rfl rfl rfl (htx _ kw_1_1) (htx _ kw_3_219) ⟨by decide, by decide, by decide +kernel⟩ ⟨Nat.le_of_ble_eq_true rfl, Nat.le_of_ble_eq_true rfl⟩, (htx _ kw_3_221), (htx _ kp_B_demandDone)⟩ ⟨xPre_blind, va_recv hK hP (ci := 0) rfl (q0 := 0) rfl, (fun U hU hW => ⟨rfl, xPre_of hZ hS hFc hPc hDc hK U hU hW⟩)⟩ rfl rfl hl.1 rfl (lv_room (Nat.le_of_ble_eq_true rfl)) dB_one_61 ⟨Nat.le_of_ble_eq_true rfl, Nat.le_of_ble_eq_true rfl⟩) hS (fun q _ h => hFc q h) hFc (fun u9 t H1 locs ht hvm hr9 hB hz1 hk1 hS => ?_)
          obtain ⟨hP1, hK1, hD1⟩ := hB
          rw [ht] at hP1
          obtain ⟨hP, hD⟩ := xjoin (W := [(a15, .inr (2, [.ref a16, .int v22, .int v23])), (a16, .inl (cT 2, 4096, .inr (.inl f21))), (a0, .inr (0, [.ref a1, .ref a3, .ref a5, .ref a7, .ref a8, .ref a13, .int v19, .int o16.2])), (a1, .inr (1, [.ref a2, .int v1, .int v2])), (a2, .inl (cT 0, 4096, .inl f0)), (a3, .inr (1, [.ref a4, .int v4, .int v5])), (a4, .inl (cT 0, 4096, .inl f3)), (a5, .inr (1, [.ref a6, .int o13.2.2.1, .int o13.2.2.2.1])), (a6, .inl (cT 0, 4096, .inl o13.2.1)), (a7, .inl (cT 3, 8, .inr (.inr (.inr (.inr rf0))))), (a8, .inr (3, [.ref a9, .ref a10, .ref o13.2.2.2.2.2.2.1, .ref o13.2.2.2.2.2.2.2.2.1, .int o13.2.2.2.2.2.2.2.2.2.1])), (a9, .inl (cT 1, 2048, .inl o13.2.2.2.2.1)), (a10, .inl (cT 1, 2048, .inl f10)), (o13.2.2.2.2.2.2.1, .inl (cT 1, 2048, .inl o13.2.2.2.2.2.1)), (o13.2.2.2.2.2.2.2.2.1, .inl (cT 1, 2048, .inl o13.2.2.2.2.2.2.2.1)), (a13, .inr (2, [.ref a14, .int o13.2.2.2.2.2.2.2.2.2.2.2.1, .int o13.2.2.2.2.2.2.2.2.2.2.2.2])), (a14, .inl (cT 2, 4096, .inr (.inl o13.2.2.2.2.2.2.2.2.2.2.1)))]) hP hD [0, 1, 2, 3, 4, 8, 9, 5, 10, 11, 12, 13, 14, 15, 16] [6, 7] 2 rfl rfl (by decide) (by decide) hk1 hFc hP1 hD1
          generalize H1 = H at hP hS ⊢
          refine lv_aload_n hx hb dB_one_64 rfl (lv_at hl 0 rfl) ?_
          refine lv_iload_n hx hb dB_one_65 rfl (lv_at hl 1 rfl) ?_
          obtain ⟨o19, hq20, hf⟩ := xbind hf
          by_cases hk21 : o19.1 = 0
          · rw [if_pos hk21] at hf
            obtain ⟨hPc, hDc, hFc⟩ := xcut (wc := [(a0, .inr (0, [.ref a1, .ref a3, .ref a5, .ref a7, .ref a8, .ref a13, .int v19, .int o16.2])), (a1, .inr (1, [.ref a2, .int v1, .int v2])), (a2, .inl (cT 0, 4096, .inl f0)), (a3, .inr (1, [.ref a4, .int v4, .int v5])), (a4, .inl (cT 0, 4096, .inl f3)), (a5, .inr (1, [.ref a6, .int o13.2.2.1, .int o13.2.2.2.1])), (a6, .inl (cT 0, 4096, .inl o13.2.1)), (a7, .inl (cT 3, 8, .inr (.inr (.inr (.inr rf0))))), (a8, .inr (3, [.ref a9, .ref a10, .ref o13.2.2.2.2.2.2.1, .ref o13.2.2.2.2.2.2.2.2.1, .int o13.2.2.2.2.2.2.2.2.2.1])), (a9, .inl (cT 1, 2048, .inl o13.2.2.2.2.1)), (a10, .inl (cT 1, 2048, .inl f10)), (o13.2.2.2.2.2.2.1, .inl (cT 1, 2048, .inl o13.2.2.2.2.2.1)), (o13.2.2.2.2.2.2.2.2.1, .inl (cT 1, 2048, .inl o13.2.2.2.2.2.2.2.1)), (a13, .inr (2, [.ref a14, .int o13.2.2.2.2.2.2.2.2.2.2.2.1, .int o13.2.2.2.2.2.2.2.2.2.2.2.2])), (a14, .inl (cT 2, 4096, .inr (.inl o13.2.2.2.2.2.2.2.2.2.2.1)))]) hP hD hS hA [2, 3, 4, 5, 6, 7, 8, 9, 10, 11, 12, 13, 14, 15, 16] rfl rfl (by decide)
            refine va_calli (va_runV (C := "ValueBench") (As := [.int x1]) (rest := []) ⟨hx, hb, hml, hown, htx⟩ (gB_keepSpare l hl9 D cT aK aV H.size d n a0 a1 a2 a3 a4 a5 a6 a7 a8 a9 a10 a13 a14 rf0 b1 x1 f0 v1 v2 f3 v4 v5 o13.2.1 o13.2.2.1 o13.2.2.2.1 o13.2.2.2.2.1 f10 o13.2.2.2.2.2.2.1 o13.2.2.2.2.2.1 o13.2.2.2.2.2.2.2.2.1 o13.2.2.2.2.2.2.2.1 o13.2.2.2.2.2.2.2.2.2.1 o13.2.2.2.2.2.2.2.2.2.2.1 o13.2.2.2.2.2.2.2.2.2.2.2.1 o13.2.2.2.2.2.2.2.2.2.2.2.2 v19 o16.2 hr1 o19 hq20 hk21) ⟨callB_of 1 htx (xw_goodC kw_3_17) rfl rfl rfl (htx _ kw_1_1) (htx _ kw_3_14) ⟨by decide, by decide, by decide +kernel⟩ ⟨(by show (16 * d + 6) + 1 ≤ 16 * d + 7; omega), (by show 8 + (3 + 11) + (400 * d + 100) ≤ 400 * d + 175; omega)⟩, (htx _ kw_3_16), (htx _ kp_B_keepSpare)⟩ ⟨xPre_blind, va_recv hK hP (ci := 0) rfl (q0 := 2) rfl, (fun U hU hW => ⟨rfl, xPre_of hZ hS hFc hPc hDc hK U hU hW⟩)⟩ rfl rfl hl.1 rfl (lv_room (Nat.le_of_ble_eq_true rfl)) dB_one_66 ⟨Nat.le_of_ble_eq_true rfl, Nat.le_of_ble_eq_true rfl⟩) hS (fun q _ h => hFc q h) hFc (fun r22 u9 t H1 locs ht hvm hr9 hB hz1 hk1 hS => ?_)
            obtain ⟨hP1, hK1, hD1⟩ := hB
            rw [ht] at hP1
            obtain ⟨hP, hD⟩ := xjoin (W := [(a15, .inr (2, [.ref a16, .int v22, .int v23])), (a16, .inl (cT 2, 4096, .inr (.inl f21))), (a0, .inr (0, [.ref a1, .ref a3, .ref a5, .ref a7, .ref a8, .ref b1, .int v19, .int o16.2])), (a1, .inr (1, [.ref a2, .int v1, .int v2])), (a2, .inl (cT 0, 4096, .inl f0)), (a3, .inr (1, [.ref a4, .int v4, .int v5])), (a4, .inl (cT 0, 4096, .inl f3)), (a5, .inr (1, [.ref a6, .int o19.2.2.2.1, .int o19.2.2.2.2])), (a6, .inl (cT 0, 4096, .inl o19.2.2.1)), (a7, .inl (cT 3, 8, .inr (.inr (.inr (.inr (va_up rf0 x1.toNatClampNeg (some a13))))))), (a8, .inr (3, [.ref a9, .ref a10, .ref o13.2.2.2.2.2.2.1, .ref o13.2.2.2.2.2.2.2.2.1, .int o13.2.2.2.2.2.2.2.2.2.1])), (a9, .inl (cT 1, 2048, .inl o13.2.2.2.2.1)), (a10, .inl (cT 1, 2048, .inl f10)), (o13.2.2.2.2.2.2.1, .inl (cT 1, 2048, .inl o13.2.2.2.2.2.1)), (o13.2.2.2.2.2.2.2.2.1, .inl (cT 1, 2048, .inl o13.2.2.2.2.2.2.2.1)), (a13, .inr (2, [.ref a14, .int o13.2.2.2.2.2.2.2.2.2.2.2.1, .int o13.2.2.2.2.2.2.2.2.2.2.2.2])), (a14, .inl (cT 2, 4096, .inr (.inl o13.2.2.2.2.2.2.2.2.2.2.1)))]) hP hD [2, 3, 4, 5, 6, 7, 8, 9, 10, 11, 12, 13, 14, 15, 16] [0, 1] 2 rfl rfl (by decide) (by decide) hk1 hFc hP1 hD1
            generalize H1 = H at hP hS ⊢
            rw [hr9]
            refine W.eq (g2 := F0 m 69 ls [.int o19.2.1]) rfl ?_
            refine lv_pop hx hb dB_one_69 rfl ?_
            obtain rfl := Option.some.inj hf
            exact absurd (show (0 : Nat) = 1 from hkd) (by decide)
          rw [if_neg hk21] at hf
          by_cases hk23 : o19.1 = 1
          · rw [if_pos hk23] at hf
            obtain ⟨hPc, hDc, hFc⟩ := xcut (wc := [(a0, .inr (0, [.ref a1, .ref a3, .ref a5, .ref a7, .ref a8, .ref a13, .int v19, .int o16.2])), (a1, .inr (1, [.ref a2, .int v1, .int v2])), (a2, .inl (cT 0, 4096, .inl f0)), (a3, .inr (1, [.ref a4, .int v4, .int v5])), (a4, .inl (cT 0, 4096, .inl f3)), (a5, .inr (1, [.ref a6, .int o13.2.2.1, .int o13.2.2.2.1])), (a6, .inl (cT 0, 4096, .inl o13.2.1)), (a7, .inl (cT 3, 8, .inr (.inr (.inr (.inr rf0))))), (a8, .inr (3, [.ref a9, .ref a10, .ref o13.2.2.2.2.2.2.1, .ref o13.2.2.2.2.2.2.2.2.1, .int o13.2.2.2.2.2.2.2.2.2.1])), (a9, .inl (cT 1, 2048, .inl o13.2.2.2.2.1)), (a10, .inl (cT 1, 2048, .inl f10)), (o13.2.2.2.2.2.2.1, .inl (cT 1, 2048, .inl o13.2.2.2.2.2.1)), (o13.2.2.2.2.2.2.2.2.1, .inl (cT 1, 2048, .inl o13.2.2.2.2.2.2.2.1)), (a13, .inr (2, [.ref a14, .int o13.2.2.2.2.2.2.2.2.2.2.2.1, .int o13.2.2.2.2.2.2.2.2.2.2.2.2])), (a14, .inl (cT 2, 4096, .inr (.inl o13.2.2.2.2.2.2.2.2.2.2.1)))]) hP hD hS hA [2, 3, 4, 5, 6, 7, 8, 9, 10, 11, 12, 13, 14, 15, 16] rfl rfl (by decide)
            refine xx_thr (vx_runV (C := "ValueBench") (As := [.int x1]) (rest := []) ⟨hx, hb, hml, hown, htx⟩ (gB_keepSpare_1 l hl9 D cT aK aV H.size d n a0 a1 a2 a3 a4 a5 a6 a7 a8 a9 a10 a13 a14 rf0 b1 x1 f0 v1 v2 f3 v4 v5 o13.2.1 o13.2.2.1 o13.2.2.2.1 o13.2.2.2.2.1 f10 o13.2.2.2.2.2.2.1 o13.2.2.2.2.2.1 o13.2.2.2.2.2.2.2.2.1 o13.2.2.2.2.2.2.2.1 o13.2.2.2.2.2.2.2.2.2.1 o13.2.2.2.2.2.2.2.2.2.2.1 o13.2.2.2.2.2.2.2.2.2.2.2.1 o13.2.2.2.2.2.2.2.2.2.2.2.2 v19 o16.2 hr1 o19 hq20 hk23) ⟨callB_of 1 htx (xw_goodC kw_3_17) rfl rfl rfl (htx _ kw_1_1) (htx _ kw_3_14) ⟨by decide, by decide, by decide +kernel⟩ ⟨(by show (16 * d + 6) + 1 ≤ 16 * d + 7; omega), (by show 8 + (3 + 11) + (400 * d + 100) ≤ 400 * d + 175; omega)⟩, (htx _ kw_3_16), (htx _ kp_B_keepSpare)⟩ ⟨xPre_blind, va_recv hK hP (ci := 0) rfl (q0 := 2) rfl, (fun U hU hW => ⟨rfl, xPre_of hZ hS hFc hPc hDc hK U hU hW⟩)⟩ rfl rfl hl.1 rfl (lv_room (Nat.le_of_ble_eq_true rfl)) dB_one_66 ⟨Nat.le_of_ble_eq_true rfl, Nat.le_of_ble_eq_true rfl⟩) hS hFc (fun q _ h => hFc q h) (fun E ce q9 u9 t H1 locs ht hvm _ hB hz1 hk1 hS hce hcv hcl => ?_)
            obtain ⟨rfl, hP1, hK1, hD1⟩ := hB
            rw [ht] at hP1
            obtain ⟨hP, hD⟩ := xjoin (W := [(a15, .inr (2, [.ref a16, .int v22, .int v23])), (a16, .inl (cT 2, 4096, .inr (.inl f21))), (a0, .inr (0, [.ref a1, .ref a3, .ref a5, .ref a7, .ref a8, .ref a13, .int v19, .int o16.2])), (a1, .inr (1, [.ref a2, .int v1, .int v2])), (a2, .inl (cT 0, 4096, .inl f0)), (a3, .inr (1, [.ref a4, .int v4, .int v5])), (a4, .inl (cT 0, 4096, .inl f3)), (a5, .inr (1, [.ref a6, .int o19.2.2.2.1, .int o19.2.2.2.2])), (a6, .inl (cT 0, 4096, .inl o19.2.2.1)), (a7, .inl (cT 3, 8, .inr (.inr (.inr (.inr rf0))))), (a8, .inr (3, [.ref a9, .ref a10, .ref o13.2.2.2.2.2.2.1, .ref o13.2.2.2.2.2.2.2.2.1, .int o13.2.2.2.2.2.2.2.2.2.1])), (a9, .inl (cT 1, 2048, .inl o13.2.2.2.2.1)), (a10, .inl (cT 1, 2048, .inl f10)), (o13.2.2.2.2.2.2.1, .inl (cT 1, 2048, .inl o13.2.2.2.2.2.1)), (o13.2.2.2.2.2.2.2.2.1, .inl (cT 1, 2048, .inl o13.2.2.2.2.2.2.2.1)), (a13, .inr (2, [.ref a14, .int o13.2.2.2.2.2.2.2.2.2.2.2.1, .int o13.2.2.2.2.2.2.2.2.2.2.2.2])), (a14, .inl (cT 2, 4096, .inr (.inl o13.2.2.2.2.2.2.2.2.2.2.1)))]) hP hD [2, 3, 4, 5, 6, 7, 8, 9, 10, 11, 12, 13, 14, 15, 16] [0, 1] 2 rfl rfl (by decide) (by decide) hk1 hFc hP1 hD1
            generalize H1 = H at hP hS hce ⊢
            obtain rfl := Option.some.inj hf
            obtain ⟨hP9, hD9⟩ := xsub (wc := [(a0, .inr (0, [.ref a1, .ref a3, .ref a5, .ref a7, .ref a8, .ref a13, .int v19, .int o16.2])), (a1, .inr (1, [.ref a2, .int v1, .int v2])), (a2, .inl (cT 0, 4096, .inl f0)), (a3, .inr (1, [.ref a4, .int v4, .int v5])), (a4, .inl (cT 0, 4096, .inl f3)), (a5, .inr (1, [.ref a6, .int o19.2.2.2.1, .int o19.2.2.2.2])), (a6, .inl (cT 0, 4096, .inl o19.2.2.1)), (a7, .inl (cT 3, 8, .inr (.inr (.inr (.inr rf0))))), (a8, .inr (3, [.ref a9, .ref a10, .ref o13.2.2.2.2.2.2.1, .ref o13.2.2.2.2.2.2.2.2.1, .int o13.2.2.2.2.2.2.2.2.2.1])), (a9, .inl (cT 1, 2048, .inl o13.2.2.2.2.1)), (a10, .inl (cT 1, 2048, .inl f10)), (o13.2.2.2.2.2.2.1, .inl (cT 1, 2048, .inl o13.2.2.2.2.2.1)), (o13.2.2.2.2.2.2.2.2.1, .inl (cT 1, 2048, .inl o13.2.2.2.2.2.2.2.1)), (a13, .inr (2, [.ref a14, .int o13.2.2.2.2.2.2.2.2.2.2.2.1, .int o13.2.2.2.2.2.2.2.2.2.2.2.2])), (a14, .inl (cT 2, 4096, .inr (.inl o13.2.2.2.2.2.2.2.2.2.2.1))), (a15, .inr (2, [.ref a16, .int v22, .int v23])), (a16, .inl (cT 2, 4096, .inr (.inl f21)))]) hP hD [2, 3, 4, 5, 6, 7, 8, 9, 10, 11, 12, 13, 14, 15, 16, 0, 1] rfl rfl (by decide)
            exact vx_out (E := "java/lang/IndexOutOfBoundsException") (fun x h => (hne x h).elim) hlocks hce hcv hcl (fun t ht ha => ⟨(), trivial, ⟨rfl, by rw [ht]; exact hP9, va_K.moved ha hK, hD9⟩, hS.F ht⟩) hS.2.2 (Nat.le_of_ble_eq_true rfl) (Nat.le_of_ble_eq_true rfl)
          rw [if_neg hk23] at hf
          exact nomatch hf
        rw [if_neg hk18] at hf
        by_cases hk25 : o16.1 = 1
        · rw [if_pos hk25] at hf
          obtain rfl := Option.some.inj hf
          exact absurd (show (2 : Nat) = 1 from hkd) (by decide)
        rw [if_neg hk25] at hf
        exact nomatch hf
      rw [if_neg hk9] at hf
      by_cases hk26 : o7 = 1
      · rw [if_pos hk26] at hf
        obtain rfl := Option.some.inj hf
        exact absurd (show (3 : Nat) = 1 from hkd) (by decide)
      rw [if_neg hk26] at hf
      exact nomatch hf
    · rw [if_neg hc] at hf
      refine lv_iload_n hx hb dB_one_16 rfl (lv_at hl 3 rfl) ?_
      obtain ⟨o7, hq8, hf⟩ := xbind hf
      obtain ⟨hPc, hDc, hFc⟩ := xcut (wc := []) hP hD hS hA [] rfl rfl (by decide)
      refine va_calli (va_runS (As := [.int x3]) (rest := []) ⟨hx, hb, hml, hown, htx⟩ (gB_isRegister l hl9 D cT aK aV H.size n x3 o7 hq8) ⟨callB_of 1 htx (xw_goodC kw_2_18) rfl rfl rfl (htx _ kw_1_1) (htx _ kw_2_16) ⟨by decide, by decide, by decide +kernel⟩ ⟨Nat.le_of_ble_eq_true rfl, Nat.le_of_ble_eq_true rfl⟩, htx _ kw_2_17⟩ ⟨xPre_blind, (fun U hU hW => ⟨rfl, xPre_of hZ hS hFc hPc hDc hK U hU hW⟩)⟩ rfl rfl hl.1 rfl (lv_room (Nat.le_of_ble_eq_true rfl)) dB_one_17 ⟨Nat.le_of_ble_eq_true rfl, Nat.le_of_ble_eq_true rfl⟩) hS (fun q _ h => hFc q h) hFc (fun r9 u9 t H1 locs ht hvm hr9 hB hz1 hk1 hS => ?_)
      obtain ⟨hP1, hK1, hD1⟩ := hB
      rw [ht] at hP1
      obtain ⟨hP, hD⟩ := xjoin (W := [(a0, .inr (0, [.ref a1, .ref a3, .ref a5, .ref a7, .ref a8, .ref a13, .int v19, .int v20])), (a1, .inr (1, [.ref a2, .int v1, .int v2])), (a2, .inl (cT 0, 4096, .inl f0)), (a3, .inr (1, [.ref a4, .int v4, .int v5])), (a4, .inl (cT 0, 4096, .inl f3)), (a5, .inr (1, [.ref a6, .int v7, .int v8])), (a6, .inl (cT 0, 4096, .inl f6)), (a7, .inl (cT 3, 8, .inr (.inr (.inr (.inr rf0))))), (a8, .inr (3, [.ref a9, .ref a10, .ref p11, .ref p13, .int v15])), (a9, .inl (cT 1, 2048, .inl f9)), (a10, .inl (cT 1, 2048, .inl f10)), (p11, .inl (cT 1, 2048, .inl f12)), (p13, .inl (cT 1, 2048, .inl f14)), (a13, .inr (2, [.ref a14, .int v17, .int v18])), (a14, .inl (cT 2, 4096, .inr (.inl f16))), (a15, .inr (2, [.ref a16, .int v22, .int v23])), (a16, .inl (cT 2, 4096, .inr (.inl f21)))]) hP hD [] [0, 1, 2, 3, 4, 5, 6, 7, 8, 9, 10, 11, 12, 13, 14, 15, 16] 17 rfl rfl (by decide) (by decide) hk1 hFc hP1 hD1
      generalize H1 = H at hP hS ⊢
      rw [hr9]
      refine W.eq (g2 := F0 m 20 ls [.int o7]) rfl ?_
      refine lv_if_eq (tgt := 27) hx hb dB_one_20 (by decide) (fun hc => ?_) (fun hc => ?_)
      · rw [if_pos hc] at hf
        refine lv_iconst (v := 0) hx hb dB_one_27 (by decide) ?_
        obtain ⟨o10, hq11, hf⟩ := xbind hf
        by_cases hk12 : o10 = 0
        · rw [if_pos hk12] at hf
          obtain ⟨hPc, hDc, hFc⟩ := xcut (wc := []) hP hD hS hA [] rfl rfl (by decide)
          refine va_callv (va_runS (As := [.int 0]) (rest := []) ⟨hx, hb, hml, hown, htx⟩ (gB_demand l hl9 D cT aK aV H.size n (0 : Int32) o10 hq11 hk12) ⟨callB_of 1 htx (xw_goodC kw_1_221) rfl rfl rfl (htx _ kw_1_1) (htx _ kw_1_219) ⟨by decide, by decide, by decide +kernel⟩ ⟨Nat.le_of_ble_eq_true rfl, Nat.le_of_ble_eq_true rfl⟩, htx _ kw_1_220⟩ ⟨xPre_blind, (fun U hU hW => ⟨rfl, xPre_of hZ hS hFc hPc hDc hK U hU hW⟩)⟩ rfl rfl hl.1 rfl (lv_room (Nat.le_of_ble_eq_true rfl)) dB_one_28 ⟨Nat.le_of_ble_eq_true rfl, Nat.le_of_ble_eq_true rfl⟩) hS (fun q _ h => hFc q h) hFc (fun u9 t H1 locs ht hvm hr9 hB hz1 hk1 hS => ?_)
          obtain ⟨hP1, hK1, hD1⟩ := hB
          rw [ht] at hP1
          obtain ⟨hP, hD⟩ := xjoin (W := [(a0, .inr (0, [.ref a1, .ref a3, .ref a5, .ref a7, .ref a8, .ref a13, .int v19, .int v20])), (a1, .inr (1, [.ref a2, .int v1, .int v2])), (a2, .inl (cT 0, 4096, .inl f0)), (a3, .inr (1, [.ref a4, .int v4, .int v5])), (a4, .inl (cT 0, 4096, .inl f3)), (a5, .inr (1, [.ref a6, .int v7, .int v8])), (a6, .inl (cT 0, 4096, .inl f6)), (a7, .inl (cT 3, 8, .inr (.inr (.inr (.inr rf0))))), (a8, .inr (3, [.ref a9, .ref a10, .ref p11, .ref p13, .int v15])), (a9, .inl (cT 1, 2048, .inl f9)), (a10, .inl (cT 1, 2048, .inl f10)), (p11, .inl (cT 1, 2048, .inl f12)), (p13, .inl (cT 1, 2048, .inl f14)), (a13, .inr (2, [.ref a14, .int v17, .int v18])), (a14, .inl (cT 2, 4096, .inr (.inl f16))), (a15, .inr (2, [.ref a16, .int v22, .int v23])), (a16, .inl (cT 2, 4096, .inr (.inl f21)))]) hP hD [] [0, 1, 2, 3, 4, 5, 6, 7, 8, 9, 10, 11, 12, 13, 14, 15, 16] 17 rfl rfl (by decide) (by decide) hk1 hFc hP1 hD1
          generalize H1 = H at hP hS ⊢
          refine lv_aload_n hx hb dB_one_31 rfl (lv_at hl 0 rfl) ?_
          refine va_get (D := D) (ci := 0) (v := .ref a13) (C := "ValueBench") (T := TB) (N := 8) hx hb htx inB hown hK hP 0 rfl rfl 5 (by decide) (htx _ kw_1_100) (fun _ h9 => h9) rfl dB_one_32 ?_
          obtain ⟨o13, hq14, hf⟩ := xbind hf
          obtain ⟨hPc, hDc, hFc⟩ := xcut (wc := [(a13, .inr (2, [.ref a14, .int v17, .int v18])), (a14, .inl (cT 2, 4096, .inr (.inl f16)))]) hP hD hS hA [13, 14] rfl rfl (by decide)
          refine va_callv (va_runV (C := "ValueBench$Row") (As := []) (rest := []) ⟨hx, hb, hml, hown, htx⟩ (gR_clear l hl9 D cT aK aV H.size n a13 a14 f16 v17 v18 o13 hq14) ⟨callB_of 0 htx (xw_goodC kw_2_22) rfl rfl rfl (htx _ kw_1_4) (htx _ kw_2_19) ⟨by decide, by decide, by decide +kernel⟩ ⟨Nat.le_of_ble_eq_true rfl, Nat.le_of_ble_eq_true rfl⟩, (htx _ kw_2_20), (htx _ kw_2_21)⟩ ⟨xPre_blind, va_recv hK hP (ci := 2) rfl (q0 := 13) rfl, (fun U hU hW => ⟨rfl, xPre_of hZ hS hFc hPc hDc hK U hU hW⟩)⟩ rfl rfl hl.1 rfl (lv_room (Nat.le_of_ble_eq_true rfl)) dB_one_35 ⟨Nat.le_of_ble_eq_true rfl, Nat.le_of_ble_eq_true rfl⟩) hS (fun q _ h => hFc q h) hFc (fun u9 t H1 locs ht hvm hr9 hB hz1 hk1 hS => ?_)
          obtain ⟨hP1, hK1, hD1⟩ := hB
          rw [ht] at hP1
          obtain ⟨hP, hD⟩ := xjoin (W := [(a0, .inr (0, [.ref a1, .ref a3, .ref a5, .ref a7, .ref a8, .ref a13, .int v19, .int v20])), (a1, .inr (1, [.ref a2, .int v1, .int v2])), (a2, .inl (cT 0, 4096, .inl f0)), (a3, .inr (1, [.ref a4, .int v4, .int v5])), (a4, .inl (cT 0, 4096, .inl f3)), (a5, .inr (1, [.ref a6, .int v7, .int v8])), (a6, .inl (cT 0, 4096, .inl f6)), (a7, .inl (cT 3, 8, .inr (.inr (.inr (.inr rf0))))), (a8, .inr (3, [.ref a9, .ref a10, .ref p11, .ref p13, .int v15])), (a9, .inl (cT 1, 2048, .inl f9)), (a10, .inl (cT 1, 2048, .inl f10)), (p11, .inl (cT 1, 2048, .inl f12)), (p13, .inl (cT 1, 2048, .inl f14)), (a15, .inr (2, [.ref a16, .int v22, .int v23])), (a16, .inl (cT 2, 4096, .inr (.inl f21))), (a13, .inr (2, [.ref a14, .int o13.1, .int o13.2])), (a14, .inl (cT 2, 4096, .inr (.inl f16)))]) hP hD [13, 14] [0, 1, 2, 3, 4, 5, 6, 7, 8, 9, 10, 11, 12, 15, 16] 15 rfl rfl (by decide) (by decide) hk1 hFc hP1 hD1
          generalize H1 = H at hP hS ⊢
          refine lv_aload_n hx hb dB_one_38 rfl (lv_at hl 0 rfl) ?_
          refine lv_iload_n hx hb dB_one_39 rfl (lv_at hl 2 rfl) ?_
          refine lv_aload_n hx hb dB_one_40 rfl (lv_at hl 0 rfl) ?_
          refine va_get (D := D) (ci := 0) (v := .ref a7) (C := "ValueBench") (T := TB) (N := 8) hx hb htx inB hown hK hP 0 rfl rfl 3 (by decide) (htx _ kw_1_98) (fun _ h9 => h9) rfl dB_one_41 ?_
          refine lv_iload_n hx hb dB_one_44 rfl (lv_at hl 3 rfl) ?_
          obtain ⟨hg15, hf⟩ := xifn hf
          refine va_aldq hx hb hK hP 7 3 rfl rfl hg15 dB_one_45 ?_
          refine W.eq (g2 := F0 m 46 ls [va_rf (rf0 x3.toNatClampNeg), .int x2, .ref a0]) rfl ?_
          rw [hr3 hg15]
          refine W.eq (g2 := F0 m 46 ls [.ref a15, .int x2, .ref a0]) rfl ?_
          refine lv_aload_n hx hb dB_one_46 rfl (lv_at hl 0 rfl) ?_
          refine va_get (D := D) (ci := 0) (v := .ref a5) (C := "ValueBench") (T := TB) (N := 8) hx hb htx inB hown hK hP 0 rfl rfl 2 (by decide) (htx _ kw_1_97) (fun _ h9 => h9) rfl dB_one_47 ?_
          refine lv_aload_n hx hb dB_one_50 rfl (lv_at hl 0 rfl) ?_
          refine va_get (D := D) (ci := 0) (v := .ref a8) (C := "ValueBench") (T := TB) (N := 8) hx hb htx inB hown hK hP 0 rfl rfl 4 (by decide) (htx _ kw_1_99) (fun _ h9 => h9) rfl dB_one_51 ?_
          refine lv_aload_n hx hb dB_one_54 rfl (lv_at hl 0 rfl) ?_
          refine va_get (D := D) (ci := 0) (v := .ref a13) (C := "ValueBench") (T := TB) (N := 8) hx hb htx inB hown hK hP 0 rfl rfl 5 (by decide) (htx _ kw_1_100) (fun _ h9 => h9) rfl dB_one_55 ?_
          obtain ⟨o16, hq17, hf⟩ := xbind hf
          obtain ⟨hPc, hDc, hFc⟩ := xcut (wc := [(a15, .inr (2, [.ref a16, .int v22, .int v23])), (a16, .inl (cT 2, 4096, .inr (.inl f21))), (a5, .inr (1, [.ref a6, .int v7, .int v8])), (a6, .inl (cT 0, 4096, .inl f6)), (a8, .inr (3, [.ref a9, .ref a10, .ref p11, .ref p13, .int v15])), (a9, .inl (cT 1, 2048, .inl f9)), (a10, .inl (cT 1, 2048, .inl f10)), (p11, .inl (cT 1, 2048, .inl f12)), (p13, .inl (cT 1, 2048, .inl f14)), (a13, .inr (2, [.ref a14, .int o13.1, .int o13.2])), (a14, .inl (cT 2, 4096, .inr (.inl f16)))]) hP hD hS hA [13, 14, 5, 6, 8, 9, 10, 11, 12, 15, 16] rfl rfl (by decide)
          refine va_calli (va_runS (As := [.int x2, .ref a15, .ref a5, .ref a8, .ref a13]) (rest := [.ref a0]) ⟨hx, hb, hml, hown, htx⟩ (gG_apply l hl9 D cT aK aV H.size d n a15 a16 a5 a6 a8 a9 a10 a13 a14 x2 f21 v22 v23 f6 v7 v8 f9 f10 p11 f12 p13 f14 v15 f16 o13.1 o13.2 o16 hq17) ⟨callB_of 5 htx (xw_goodC kw_4_28) rfl rfl rfl (htx _ kw_1_26) (htx _ kw_4_26) ⟨by decide, by decide, by decide +kernel⟩ ⟨(by show (16 * d + 5) + 1 ≤ 16 * d + 7; omega), (by show 8 + (5 + 11) + (400 * d + 151) ≤ 400 * d + 175; omega)⟩, htx _ kw_4_27⟩ ⟨xPre_blind, (fun U hU hW => ⟨rfl, xPre_of hZ hS hFc hPc hDc hK U hU hW⟩)⟩ rfl rfl hl.1 rfl (lv_room (Nat.le_of_ble_eq_true rfl)) dB_one_58 ⟨Nat.le_of_ble_eq_true rfl, Nat.le_of_ble_eq_true rfl⟩) hS (fun q _ h => hFc q h) hFc (fun r18 u9 t H1 locs ht hvm hr9 hB hz1 hk1 hS => ?_)
          obtain ⟨hP1, hK1, hD1⟩ := hB
          rw [ht] at hP1
          obtain ⟨hP, hD⟩ := xjoin (W := [(a0, .inr (0, [.ref a1, .ref a3, .ref a5, .ref a7, .ref a8, .ref a13, .int v19, .int v20])), (a1, .inr (1, [.ref a2, .int v1, .int v2])), (a2, .inl (cT 0, 4096, .inl f0)), (a3, .inr (1, [.ref a4, .int v4, .int v5])), (a4, .inl (cT 0, 4096, .inl f3)), (a7, .inl (cT 3, 8, .inr (.inr (.inr (.inr rf0))))), (a15, .inr (2, [.ref a16, .int v22, .int v23])), (a16, .inl (cT 2, 4096, .inr (.inl f21))), (a5, .inr (1, [.ref a6, .int o16.2.2.1, .int o16.2.2.2.1])), (a6, .inl (cT 0, 4096, .inl o16.2.1)), (a8, .inr (3, [.ref a9, .ref a10, .ref o16.2.2.2.2.2.2.1, .ref o16.2.2.2.2.2.2.2.2.1, .int o16.2.2.2.2.2.2.2.2.2.1])), (a9, .inl (cT 1, 2048, .inl o16.2.2.2.2.1)), (a10, .inl (cT 1, 2048, .inl f10)), (o16.2.2.2.2.2.2.1, .inl (cT 1, 2048, .inl o16.2.2.2.2.2.1)), (o16.2.2.2.2.2.2.2.2.1, .inl (cT 1, 2048, .inl o16.2.2.2.2.2.2.2.1)), (a13, .inr (2, [.ref a14, .int o16.2.2.2.2.2.2.2.2.2.2.2.1, .int o16.2.2.2.2.2.2.2.2.2.2.2.2])), (a14, .inl (cT 2, 4096, .inr (.inl o16.2.2.2.2.2.2.2.2.2.2.1)))]) hP hD [13, 14, 5, 6, 8, 9, 10, 11, 12, 15, 16] [0, 1, 2, 3, 4, 7] 6 rfl rfl (by decide) (by decide) hk1 hFc hP1 hD1
          generalize H1 = H at hP hS ⊢
          rw [hr9]
          refine W.eq (g2 := F0 m 61 ls [.int o16.1, .ref a0]) rfl ?_
          obtain ⟨o19, hq20, hf⟩ := xbind hf
          by_cases hk21 : o19.1 = 0
          · rw [if_pos hk21] at hf
            obtain ⟨hPc, hDc, hFc⟩ := xcut (wc := [(a0, .inr (0, [.ref a1, .ref a3, .ref a5, .ref a7, .ref a8, .ref a13, .int v19, .int v20])), (a1, .inr (1, [.ref a2, .int v1, .int v2])), (a2, .inl (cT 0, 4096, .inl f0)), (a3, .inr (1, [.ref a4, .int v4, .int v5])), (a4, .inl (cT 0, 4096, .inl f3)), (a5, .inr (1, [.ref a6, .int o16.2.2.1, .int o16.2.2.2.1])), (a6, .inl (cT 0, 4096, .inl o16.2.1)), (a7, .inl (cT 3, 8, .inr (.inr (.inr (.inr rf0))))), (a8, .inr (3, [.ref a9, .ref a10, .ref o16.2.2.2.2.2.2.1, .ref o16.2.2.2.2.2.2.2.2.1, .int o16.2.2.2.2.2.2.2.2.2.1])), (a9, .inl (cT 1, 2048, .inl o16.2.2.2.2.1)), (a10, .inl (cT 1, 2048, .inl f10)), (o16.2.2.2.2.2.2.1, .inl (cT 1, 2048, .inl o16.2.2.2.2.2.1)), (o16.2.2.2.2.2.2.2.2.1, .inl (cT 1, 2048, .inl o16.2.2.2.2.2.2.2.1)), (a13, .inr (2, [.ref a14, .int o16.2.2.2.2.2.2.2.2.2.2.2.1, .int o16.2.2.2.2.2.2.2.2.2.2.2.2])), (a14, .inl (cT 2, 4096, .inr (.inl o16.2.2.2.2.2.2.2.2.2.2.1)))]) hP hD hS hA [0, 1, 2, 3, 4, 8, 9, 5, 10, 11, 12, 13, 14, 15, 16] rfl rfl (by decide)
            refine va_callv (va_runV (C := "ValueBench") (As := [.int o16.1]) (rest := []) ⟨hx, hb, hml, hown, htx⟩ (gB_demandDone l hl9 D cT aK aV H.size n a0 a1 a2 a3 a4 a5 a6 a7 a8 a9 a10 a13 a14 rf0 o16.1 f0 v1 v2 f3 v4 v5 o16.2.1 o16.2.2.1 o16.2.2.2.1 o16.2.2.2.2.1 f10 o16.2.2.2.2.2.2.1 o16.2.2.2.2.2.1 o16.2.2.2.2.2.2.2.2.1 o16.2.2.2.2.2.2.2.1 o16.2.2.2.2.2.2.2.2.2.1 o16.2.2.2.2.2.2.2.2.2.2.1 o16.2.2.2.2.2.2.2.2.2.2.2.1 o16.2.2.2.2.2.2.2.2.2.2.2.2 v19 v20 o19 hq20 hk21) ⟨callB_of 1 htx (xw_goodC kw_3_222) rfl rfl rfl (htx _ kw_1_1) (htx _ kw_3_219) ⟨by decide, by decide, by decide +kernel⟩ ⟨Nat.le_of_ble_eq_true rfl, Nat.le_of_ble_eq_true rfl⟩, (htx _ kw_3_221), (htx _ kp_B_demandDone)⟩ ⟨xPre_blind, va_recv hK hP (ci := 0) rfl (q0 := 0) rfl, (fun U hU hW => ⟨rfl, xPre_of hZ hS hFc hPc hDc hK U hU hW⟩)⟩ rfl rfl hl.1 rfl (lv_room (Nat.le_of_ble_eq_true rfl)) dB_one_61 ⟨Nat.le_of_ble_eq_true rfl, Nat.le_of_ble_eq_true rfl⟩) hS (fun q _ h => hFc q h) hFc (fun u9 t H1 locs ht hvm hr9 hB hz1 hk1 hS => ?_)
            obtain ⟨hP1, hK1, hD1⟩ := hB
            rw [ht] at hP1
            obtain ⟨hP, hD⟩ := xjoin (W := [(a15, .inr (2, [.ref a16, .int v22, .int v23])), (a16, .inl (cT 2, 4096, .inr (.inl f21))), (a0, .inr (0, [.ref a1, .ref a3, .ref a5, .ref a7, .ref a8, .ref a13, .int v19, .int o19.2])), (a1, .inr (1, [.ref a2, .int v1, .int v2])), (a2, .inl (cT 0, 4096, .inl f0)), (a3, .inr (1, [.ref a4, .int v4, .int v5])), (a4, .inl (cT 0, 4096, .inl f3)), (a5, .inr (1, [.ref a6, .int o16.2.2.1, .int o16.2.2.2.1])), (a6, .inl (cT 0, 4096, .inl o16.2.1)), (a7, .inl (cT 3, 8, .inr (.inr (.inr (.inr rf0))))), (a8, .inr (3, [.ref a9, .ref a10, .ref o16.2.2.2.2.2.2.1, .ref o16.2.2.2.2.2.2.2.2.1, .int o16.2.2.2.2.2.2.2.2.2.1])), (a9, .inl (cT 1, 2048, .inl o16.2.2.2.2.1)), (a10, .inl (cT 1, 2048, .inl f10)), (o16.2.2.2.2.2.2.1, .inl (cT 1, 2048, .inl o16.2.2.2.2.2.1)), (o16.2.2.2.2.2.2.2.2.1, .inl (cT 1, 2048, .inl o16.2.2.2.2.2.2.2.1)), (a13, .inr (2, [.ref a14, .int o16.2.2.2.2.2.2.2.2.2.2.2.1, .int o16.2.2.2.2.2.2.2.2.2.2.2.2])), (a14, .inl (cT 2, 4096, .inr (.inl o16.2.2.2.2.2.2.2.2.2.2.1)))]) hP hD [0, 1, 2, 3, 4, 8, 9, 5, 10, 11, 12, 13, 14, 15, 16] [6, 7] 2 rfl rfl (by decide) (by decide) hk1 hFc hP1 hD1
            generalize H1 = H at hP hS ⊢
            refine lv_aload_n hx hb dB_one_64 rfl (lv_at hl 0 rfl) ?_
            refine lv_iload_n hx hb dB_one_65 rfl (lv_at hl 1 rfl) ?_
            obtain ⟨o22, hq23, hf⟩ := xbind hf
            by_cases hk24 : o22.1 = 0
            · rw [if_pos hk24] at hf
              obtain ⟨hPc, hDc, hFc⟩ := xcut (wc := [(a0, .inr (0, [.ref a1, .ref a3, .ref a5, .ref a7, .ref a8, .ref a13, .int v19, .int o19.2])), (a1, .inr (1, [.ref a2, .int v1, .int v2])), (a2, .inl (cT 0, 4096, .inl f0)), (a3, .inr (1, [.ref a4, .int v4, .int v5])), (a4, .inl (cT 0, 4096, .inl f3)), (a5, .inr (1, [.ref a6, .int o16.2.2.1, .int o16.2.2.2.1])), (a6, .inl (cT 0, 4096, .inl o16.2.1)), (a7, .inl (cT 3, 8, .inr (.inr (.inr (.inr rf0))))), (a8, .inr (3, [.ref a9, .ref a10, .ref o16.2.2.2.2.2.2.1, .ref o16.2.2.2.2.2.2.2.2.1, .int o16.2.2.2.2.2.2.2.2.2.1])), (a9, .inl (cT 1, 2048, .inl o16.2.2.2.2.1)), (a10, .inl (cT 1, 2048, .inl f10)), (o16.2.2.2.2.2.2.1, .inl (cT 1, 2048, .inl o16.2.2.2.2.2.1)), (o16.2.2.2.2.2.2.2.2.1, .inl (cT 1, 2048, .inl o16.2.2.2.2.2.2.2.1)), (a13, .inr (2, [.ref a14, .int o16.2.2.2.2.2.2.2.2.2.2.2.1, .int o16.2.2.2.2.2.2.2.2.2.2.2.2])), (a14, .inl (cT 2, 4096, .inr (.inl o16.2.2.2.2.2.2.2.2.2.2.1)))]) hP hD hS hA [2, 3, 4, 5, 6, 7, 8, 9, 10, 11, 12, 13, 14, 15, 16] rfl rfl (by decide)
              refine va_calli (va_runV (C := "ValueBench") (As := [.int x1]) (rest := []) ⟨hx, hb, hml, hown, htx⟩ (gB_keepSpare l hl9 D cT aK aV H.size d n a0 a1 a2 a3 a4 a5 a6 a7 a8 a9 a10 a13 a14 rf0 b1 x1 f0 v1 v2 f3 v4 v5 o16.2.1 o16.2.2.1 o16.2.2.2.1 o16.2.2.2.2.1 f10 o16.2.2.2.2.2.2.1 o16.2.2.2.2.2.1 o16.2.2.2.2.2.2.2.2.1 o16.2.2.2.2.2.2.2.1 o16.2.2.2.2.2.2.2.2.2.1 o16.2.2.2.2.2.2.2.2.2.2.1 o16.2.2.2.2.2.2.2.2.2.2.2.1 o16.2.2.2.2.2.2.2.2.2.2.2.2 v19 o19.2 hr1 o22 hq23 hk24) ⟨callB_of 1 htx (xw_goodC kw_3_17) rfl rfl rfl (htx _ kw_1_1) (htx _ kw_3_14) ⟨by decide, by decide, by decide +kernel⟩ ⟨(by show (16 * d + 6) + 1 ≤ 16 * d + 7; omega), (by show 8 + (3 + 11) + (400 * d + 100) ≤ 400 * d + 175; omega)⟩, (htx _ kw_3_16), (htx _ kp_B_keepSpare)⟩ ⟨xPre_blind, va_recv hK hP (ci := 0) rfl (q0 := 2) rfl, (fun U hU hW => ⟨rfl, xPre_of hZ hS hFc hPc hDc hK U hU hW⟩)⟩ rfl rfl hl.1 rfl (lv_room (Nat.le_of_ble_eq_true rfl)) dB_one_66 ⟨Nat.le_of_ble_eq_true rfl, Nat.le_of_ble_eq_true rfl⟩) hS (fun q _ h => hFc q h) hFc (fun r25 u9 t H1 locs ht hvm hr9 hB hz1 hk1 hS => ?_)
              obtain ⟨hP1, hK1, hD1⟩ := hB
              rw [ht] at hP1
              obtain ⟨hP, hD⟩ := xjoin (W := [(a15, .inr (2, [.ref a16, .int v22, .int v23])), (a16, .inl (cT 2, 4096, .inr (.inl f21))), (a0, .inr (0, [.ref a1, .ref a3, .ref a5, .ref a7, .ref a8, .ref b1, .int v19, .int o19.2])), (a1, .inr (1, [.ref a2, .int v1, .int v2])), (a2, .inl (cT 0, 4096, .inl f0)), (a3, .inr (1, [.ref a4, .int v4, .int v5])), (a4, .inl (cT 0, 4096, .inl f3)), (a5, .inr (1, [.ref a6, .int o22.2.2.2.1, .int o22.2.2.2.2])), (a6, .inl (cT 0, 4096, .inl o22.2.2.1)), (a7, .inl (cT 3, 8, .inr (.inr (.inr (.inr (va_up rf0 x1.toNatClampNeg (some a13))))))), (a8, .inr (3, [.ref a9, .ref a10, .ref o16.2.2.2.2.2.2.1, .ref o16.2.2.2.2.2.2.2.2.1, .int o16.2.2.2.2.2.2.2.2.2.1])), (a9, .inl (cT 1, 2048, .inl o16.2.2.2.2.1)), (a10, .inl (cT 1, 2048, .inl f10)), (o16.2.2.2.2.2.2.1, .inl (cT 1, 2048, .inl o16.2.2.2.2.2.1)), (o16.2.2.2.2.2.2.2.2.1, .inl (cT 1, 2048, .inl o16.2.2.2.2.2.2.2.1)), (a13, .inr (2, [.ref a14, .int o16.2.2.2.2.2.2.2.2.2.2.2.1, .int o16.2.2.2.2.2.2.2.2.2.2.2.2])), (a14, .inl (cT 2, 4096, .inr (.inl o16.2.2.2.2.2.2.2.2.2.2.1)))]) hP hD [2, 3, 4, 5, 6, 7, 8, 9, 10, 11, 12, 13, 14, 15, 16] [0, 1] 2 rfl rfl (by decide) (by decide) hk1 hFc hP1 hD1
              generalize H1 = H at hP hS ⊢
              rw [hr9]
              refine W.eq (g2 := F0 m 69 ls [.int o22.2.1]) rfl ?_
              refine lv_pop hx hb dB_one_69 rfl ?_
              obtain rfl := Option.some.inj hf
              exact absurd (show (0 : Nat) = 1 from hkd) (by decide)
            rw [if_neg hk24] at hf
            by_cases hk26 : o22.1 = 1
            · rw [if_pos hk26] at hf
              obtain ⟨hPc, hDc, hFc⟩ := xcut (wc := [(a0, .inr (0, [.ref a1, .ref a3, .ref a5, .ref a7, .ref a8, .ref a13, .int v19, .int o19.2])), (a1, .inr (1, [.ref a2, .int v1, .int v2])), (a2, .inl (cT 0, 4096, .inl f0)), (a3, .inr (1, [.ref a4, .int v4, .int v5])), (a4, .inl (cT 0, 4096, .inl f3)), (a5, .inr (1, [.ref a6, .int o16.2.2.1, .int o16.2.2.2.1])), (a6, .inl (cT 0, 4096, .inl o16.2.1)), (a7, .inl (cT 3, 8, .inr (.inr (.inr (.inr rf0))))), (a8, .inr (3, [.ref a9, .ref a10, .ref o16.2.2.2.2.2.2.1, .ref o16.2.2.2.2.2.2.2.2.1, .int o16.2.2.2.2.2.2.2.2.2.1])), (a9, .inl (cT 1, 2048, .inl o16.2.2.2.2.1)), (a10, .inl (cT 1, 2048, .inl f10)), (o16.2.2.2.2.2.2.1, .inl (cT 1, 2048, .inl o16.2.2.2.2.2.1)), (o16.2.2.2.2.2.2.2.2.1, .inl (cT 1, 2048, .inl o16.2.2.2.2.2.2.2.1)), (a13, .inr (2, [.ref a14, .int o16.2.2.2.2.2.2.2.2.2.2.2.1, .int o16.2.2.2.2.2.2.2.2.2.2.2.2])), (a14, .inl (cT 2, 4096, .inr (.inl o16.2.2.2.2.2.2.2.2.2.2.1)))]) hP hD hS hA [2, 3, 4, 5, 6, 7, 8, 9, 10, 11, 12, 13, 14, 15, 16] rfl rfl (by decide)
              refine xx_thr (vx_runV (C := "ValueBench") (As := [.int x1]) (rest := []) ⟨hx, hb, hml, hown, htx⟩ (gB_keepSpare_1 l hl9 D cT aK aV H.size d n a0 a1 a2 a3 a4 a5 a6 a7 a8 a9 a10 a13 a14 rf0 b1 x1 f0 v1 v2 f3 v4 v5 o16.2.1 o16.2.2.1 o16.2.2.2.1 o16.2.2.2.2.1 f10 o16.2.2.2.2.2.2.1 o16.2.2.2.2.2.1 o16.2.2.2.2.2.2.2.2.1 o16.2.2.2.2.2.2.2.1 o16.2.2.2.2.2.2.2.2.2.1 o16.2.2.2.2.2.2.2.2.2.2.1 o16.2.2.2.2.2.2.2.2.2.2.2.1 o16.2.2.2.2.2.2.2.2.2.2.2.2 v19 o19.2 hr1 o22 hq23 hk26) ⟨callB_of 1 htx (xw_goodC kw_3_17) rfl rfl rfl (htx _ kw_1_1) (htx _ kw_3_14) ⟨by decide, by decide, by decide +kernel⟩ ⟨(by show (16 * d + 6) + 1 ≤ 16 * d + 7; omega), (by show 8 + (3 + 11) + (400 * d + 100) ≤ 400 * d + 175; omega)⟩, (htx _ kw_3_16), (htx _ kp_B_keepSpare)⟩ ⟨xPre_blind, va_recv hK hP (ci := 0) rfl (q0 := 2) rfl, (fun U hU hW => ⟨rfl, xPre_of hZ hS hFc hPc hDc hK U hU hW⟩)⟩ rfl rfl hl.1 rfl (lv_room (Nat.le_of_ble_eq_true rfl)) dB_one_66 ⟨Nat.le_of_ble_eq_true rfl, Nat.le_of_ble_eq_true rfl⟩) hS hFc (fun q _ h => hFc q h) (fun E ce q9 u9 t H1 locs ht hvm _ hB hz1 hk1 hS hce hcv hcl => ?_)
              obtain ⟨rfl, hP1, hK1, hD1⟩ := hB
              rw [ht] at hP1
              obtain ⟨hP, hD⟩ := xjoin (W := [(a15, .inr (2, [.ref a16, .int v22, .int v23])), (a16, .inl (cT 2, 4096, .inr (.inl f21))), (a0, .inr (0, [.ref a1, .ref a3, .ref a5, .ref a7, .ref a8, .ref a13, .int v19, .int o19.2])), (a1, .inr (1, [.ref a2, .int v1, .int v2])), (a2, .inl (cT 0, 4096, .inl f0)), (a3, .inr (1, [.ref a4, .int v4, .int v5])), (a4, .inl (cT 0, 4096, .inl f3)), (a5, .inr (1, [.ref a6, .int o22.2.2.2.1, .int o22.2.2.2.2])), (a6, .inl (cT 0, 4096, .inl o22.2.2.1)), (a7, .inl (cT 3, 8, .inr (.inr (.inr (.inr rf0))))), (a8, .inr (3, [.ref a9, .ref a10, .ref o16.2.2.2.2.2.2.1, .ref o16.2.2.2.2.2.2.2.2.1, .int o16.2.2.2.2.2.2.2.2.2.1])), (a9, .inl (cT 1, 2048, .inl o16.2.2.2.2.1)), (a10, .inl (cT 1, 2048, .inl f10)), (o16.2.2.2.2.2.2.1, .inl (cT 1, 2048, .inl o16.2.2.2.2.2.1)), (o16.2.2.2.2.2.2.2.2.1, .inl (cT 1, 2048, .inl o16.2.2.2.2.2.2.2.1)), (a13, .inr (2, [.ref a14, .int o16.2.2.2.2.2.2.2.2.2.2.2.1, .int o16.2.2.2.2.2.2.2.2.2.2.2.2])), (a14, .inl (cT 2, 4096, .inr (.inl o16.2.2.2.2.2.2.2.2.2.2.1)))]) hP hD [2, 3, 4, 5, 6, 7, 8, 9, 10, 11, 12, 13, 14, 15, 16] [0, 1] 2 rfl rfl (by decide) (by decide) hk1 hFc hP1 hD1
              generalize H1 = H at hP hS hce ⊢
              obtain rfl := Option.some.inj hf
              obtain ⟨hP9, hD9⟩ := xsub (wc := [(a0, .inr (0, [.ref a1, .ref a3, .ref a5, .ref a7, .ref a8, .ref a13, .int v19, .int o19.2])), (a1, .inr (1, [.ref a2, .int v1, .int v2])), (a2, .inl (cT 0, 4096, .inl f0)), (a3, .inr (1, [.ref a4, .int v4, .int v5])), (a4, .inl (cT 0, 4096, .inl f3)), (a5, .inr (1, [.ref a6, .int o22.2.2.2.1, .int o22.2.2.2.2])), (a6, .inl (cT 0, 4096, .inl o22.2.2.1)), (a7, .inl (cT 3, 8, .inr (.inr (.inr (.inr rf0))))), (a8, .inr (3, [.ref a9, .ref a10, .ref o16.2.2.2.2.2.2.1, .ref o16.2.2.2.2.2.2.2.2.1, .int o16.2.2.2.2.2.2.2.2.2.1])), (a9, .inl (cT 1, 2048, .inl o16.2.2.2.2.1)), (a10, .inl (cT 1, 2048, .inl f10)), (o16.2.2.2.2.2.2.1, .inl (cT 1, 2048, .inl o16.2.2.2.2.2.1)), (o16.2.2.2.2.2.2.2.2.1, .inl (cT 1, 2048, .inl o16.2.2.2.2.2.2.2.1)), (a13, .inr (2, [.ref a14, .int o16.2.2.2.2.2.2.2.2.2.2.2.1, .int o16.2.2.2.2.2.2.2.2.2.2.2.2])), (a14, .inl (cT 2, 4096, .inr (.inl o16.2.2.2.2.2.2.2.2.2.2.1))), (a15, .inr (2, [.ref a16, .int v22, .int v23])), (a16, .inl (cT 2, 4096, .inr (.inl f21)))]) hP hD [2, 3, 4, 5, 6, 7, 8, 9, 10, 11, 12, 13, 14, 15, 16, 0, 1] rfl rfl (by decide)
              exact vx_out (E := "java/lang/IndexOutOfBoundsException") (fun x h => (hne x h).elim) hlocks hce hcv hcl (fun t ht ha => ⟨(), trivial, ⟨rfl, by rw [ht]; exact hP9, va_K.moved ha hK, hD9⟩, hS.F ht⟩) hS.2.2 (Nat.le_of_ble_eq_true rfl) (Nat.le_of_ble_eq_true rfl)
            rw [if_neg hk26] at hf
            exact nomatch hf
          rw [if_neg hk21] at hf
          by_cases hk28 : o19.1 = 1
          · rw [if_pos hk28] at hf
            obtain rfl := Option.some.inj hf
            exact absurd (show (2 : Nat) = 1 from hkd) (by decide)
          rw [if_neg hk28] at hf
          exact nomatch hf
        rw [if_neg hk12] at hf
        by_cases hk29 : o10 = 1
        · rw [if_pos hk29] at hf
          obtain rfl := Option.some.inj hf
          exact absurd (show (3 : Nat) = 1 from hkd) (by decide)
        rw [if_neg hk29] at hf
        exact nomatch hf
      · rw [if_neg hc] at hf
        refine lv_iconst (v := 1) hx hb dB_one_23 (by decide) ?_
        refine lv_goto (tgt := 28) hx hb dB_one_24 (by decide) ?_
        obtain ⟨o10, hq11, hf⟩ := xbind hf
        by_cases hk12 : o10 = 0
        · rw [if_pos hk12] at hf
          obtain ⟨hPc, hDc, hFc⟩ := xcut (wc := []) hP hD hS hA [] rfl rfl (by decide)
          refine va_callv (va_runS (As := [.int 1]) (rest := []) ⟨hx, hb, hml, hown, htx⟩ (gB_demand l hl9 D cT aK aV H.size n (1 : Int32) o10 hq11 hk12) ⟨callB_of 1 htx (xw_goodC kw_1_221) rfl rfl rfl (htx _ kw_1_1) (htx _ kw_1_219) ⟨by decide, by decide, by decide +kernel⟩ ⟨Nat.le_of_ble_eq_true rfl, Nat.le_of_ble_eq_true rfl⟩, htx _ kw_1_220⟩ ⟨xPre_blind, (fun U hU hW => ⟨rfl, xPre_of hZ hS hFc hPc hDc hK U hU hW⟩)⟩ rfl rfl hl.1 rfl (lv_room (Nat.le_of_ble_eq_true rfl)) dB_one_28 ⟨Nat.le_of_ble_eq_true rfl, Nat.le_of_ble_eq_true rfl⟩) hS (fun q _ h => hFc q h) hFc (fun u9 t H1 locs ht hvm hr9 hB hz1 hk1 hS => ?_)
          obtain ⟨hP1, hK1, hD1⟩ := hB
          rw [ht] at hP1
          obtain ⟨hP, hD⟩ := xjoin (W := [(a0, .inr (0, [.ref a1, .ref a3, .ref a5, .ref a7, .ref a8, .ref a13, .int v19, .int v20])), (a1, .inr (1, [.ref a2, .int v1, .int v2])), (a2, .inl (cT 0, 4096, .inl f0)), (a3, .inr (1, [.ref a4, .int v4, .int v5])), (a4, .inl (cT 0, 4096, .inl f3)), (a5, .inr (1, [.ref a6, .int v7, .int v8])), (a6, .inl (cT 0, 4096, .inl f6)), (a7, .inl (cT 3, 8, .inr (.inr (.inr (.inr rf0))))), (a8, .inr (3, [.ref a9, .ref a10, .ref p11, .ref p13, .int v15])), (a9, .inl (cT 1, 2048, .inl f9)), (a10, .inl (cT 1, 2048, .inl f10)), (p11, .inl (cT 1, 2048, .inl f12)), (p13, .inl (cT 1, 2048, .inl f14)), (a13, .inr (2, [.ref a14, .int v17, .int v18])), (a14, .inl (cT 2, 4096, .inr (.inl f16))), (a15, .inr (2, [.ref a16, .int v22, .int v23])), (a16, .inl (cT 2, 4096, .inr (.inl f21)))]) hP hD [] [0, 1, 2, 3, 4, 5, 6, 7, 8, 9, 10, 11, 12, 13, 14, 15, 16] 17 rfl rfl (by decide) (by decide) hk1 hFc hP1 hD1
          generalize H1 = H at hP hS ⊢
          refine lv_aload_n hx hb dB_one_31 rfl (lv_at hl 0 rfl) ?_
          refine va_get (D := D) (ci := 0) (v := .ref a13) (C := "ValueBench") (T := TB) (N := 8) hx hb htx inB hown hK hP 0 rfl rfl 5 (by decide) (htx _ kw_1_100) (fun _ h9 => h9) rfl dB_one_32 ?_
          obtain ⟨o13, hq14, hf⟩ := xbind hf
          obtain ⟨hPc, hDc, hFc⟩ := xcut (wc := [(a13, .inr (2, [.ref a14, .int v17, .int v18])), (a14, .inl (cT 2, 4096, .inr (.inl f16)))]) hP hD hS hA [13, 14] rfl rfl (by decide)
          refine va_callv (va_runV (C := "ValueBench$Row") (As := []) (rest := []) ⟨hx, hb, hml, hown, htx⟩ (gR_clear l hl9 D cT aK aV H.size n a13 a14 f16 v17 v18 o13 hq14) ⟨callB_of 0 htx (xw_goodC kw_2_22) rfl rfl rfl (htx _ kw_1_4) (htx _ kw_2_19) ⟨by decide, by decide, by decide +kernel⟩ ⟨Nat.le_of_ble_eq_true rfl, Nat.le_of_ble_eq_true rfl⟩, (htx _ kw_2_20), (htx _ kw_2_21)⟩ ⟨xPre_blind, va_recv hK hP (ci := 2) rfl (q0 := 13) rfl, (fun U hU hW => ⟨rfl, xPre_of hZ hS hFc hPc hDc hK U hU hW⟩)⟩ rfl rfl hl.1 rfl (lv_room (Nat.le_of_ble_eq_true rfl)) dB_one_35 ⟨Nat.le_of_ble_eq_true rfl, Nat.le_of_ble_eq_true rfl⟩) hS (fun q _ h => hFc q h) hFc (fun u9 t H1 locs ht hvm hr9 hB hz1 hk1 hS => ?_)
          obtain ⟨hP1, hK1, hD1⟩ := hB
          rw [ht] at hP1
          obtain ⟨hP, hD⟩ := xjoin (W := [(a0, .inr (0, [.ref a1, .ref a3, .ref a5, .ref a7, .ref a8, .ref a13, .int v19, .int v20])), (a1, .inr (1, [.ref a2, .int v1, .int v2])), (a2, .inl (cT 0, 4096, .inl f0)), (a3, .inr (1, [.ref a4, .int v4, .int v5])), (a4, .inl (cT 0, 4096, .inl f3)), (a5, .inr (1, [.ref a6, .int v7, .int v8])), (a6, .inl (cT 0, 4096, .inl f6)), (a7, .inl (cT 3, 8, .inr (.inr (.inr (.inr rf0))))), (a8, .inr (3, [.ref a9, .ref a10, .ref p11, .ref p13, .int v15])), (a9, .inl (cT 1, 2048, .inl f9)), (a10, .inl (cT 1, 2048, .inl f10)), (p11, .inl (cT 1, 2048, .inl f12)), (p13, .inl (cT 1, 2048, .inl f14)), (a15, .inr (2, [.ref a16, .int v22, .int v23])), (a16, .inl (cT 2, 4096, .inr (.inl f21))), (a13, .inr (2, [.ref a14, .int o13.1, .int o13.2])), (a14, .inl (cT 2, 4096, .inr (.inl f16)))]) hP hD [13, 14] [0, 1, 2, 3, 4, 5, 6, 7, 8, 9, 10, 11, 12, 15, 16] 15 rfl rfl (by decide) (by decide) hk1 hFc hP1 hD1
          generalize H1 = H at hP hS ⊢
          refine lv_aload_n hx hb dB_one_38 rfl (lv_at hl 0 rfl) ?_
          refine lv_iload_n hx hb dB_one_39 rfl (lv_at hl 2 rfl) ?_
          refine lv_aload_n hx hb dB_one_40 rfl (lv_at hl 0 rfl) ?_
          refine va_get (D := D) (ci := 0) (v := .ref a7) (C := "ValueBench") (T := TB) (N := 8) hx hb htx inB hown hK hP 0 rfl rfl 3 (by decide) (htx _ kw_1_98) (fun _ h9 => h9) rfl dB_one_41 ?_
          refine lv_iload_n hx hb dB_one_44 rfl (lv_at hl 3 rfl) ?_
          obtain ⟨hg15, hf⟩ := xifn hf
          refine va_aldq hx hb hK hP 7 3 rfl rfl hg15 dB_one_45 ?_
          refine W.eq (g2 := F0 m 46 ls [va_rf (rf0 x3.toNatClampNeg), .int x2, .ref a0]) rfl ?_
          rw [hr3 hg15]
          refine W.eq (g2 := F0 m 46 ls [.ref a15, .int x2, .ref a0]) rfl ?_
          refine lv_aload_n hx hb dB_one_46 rfl (lv_at hl 0 rfl) ?_
          refine va_get (D := D) (ci := 0) (v := .ref a5) (C := "ValueBench") (T := TB) (N := 8) hx hb htx inB hown hK hP 0 rfl rfl 2 (by decide) (htx _ kw_1_97) (fun _ h9 => h9) rfl dB_one_47 ?_
          refine lv_aload_n hx hb dB_one_50 rfl (lv_at hl 0 rfl) ?_
          refine va_get (D := D) (ci := 0) (v := .ref a8) (C := "ValueBench") (T := TB) (N := 8) hx hb htx inB hown hK hP 0 rfl rfl 4 (by decide) (htx _ kw_1_99) (fun _ h9 => h9) rfl dB_one_51 ?_
          refine lv_aload_n hx hb dB_one_54 rfl (lv_at hl 0 rfl) ?_
          refine va_get (D := D) (ci := 0) (v := .ref a13) (C := "ValueBench") (T := TB) (N := 8) hx hb htx inB hown hK hP 0 rfl rfl 5 (by decide) (htx _ kw_1_100) (fun _ h9 => h9) rfl dB_one_55 ?_
          obtain ⟨o16, hq17, hf⟩ := xbind hf
          obtain ⟨hPc, hDc, hFc⟩ := xcut (wc := [(a15, .inr (2, [.ref a16, .int v22, .int v23])), (a16, .inl (cT 2, 4096, .inr (.inl f21))), (a5, .inr (1, [.ref a6, .int v7, .int v8])), (a6, .inl (cT 0, 4096, .inl f6)), (a8, .inr (3, [.ref a9, .ref a10, .ref p11, .ref p13, .int v15])), (a9, .inl (cT 1, 2048, .inl f9)), (a10, .inl (cT 1, 2048, .inl f10)), (p11, .inl (cT 1, 2048, .inl f12)), (p13, .inl (cT 1, 2048, .inl f14)), (a13, .inr (2, [.ref a14, .int o13.1, .int o13.2])), (a14, .inl (cT 2, 4096, .inr (.inl f16)))]) hP hD hS hA [13, 14, 5, 6, 8, 9, 10, 11, 12, 15, 16] rfl rfl (by decide)
          refine va_calli (va_runS (As := [.int x2, .ref a15, .ref a5, .ref a8, .ref a13]) (rest := [.ref a0]) ⟨hx, hb, hml, hown, htx⟩ (gG_apply l hl9 D cT aK aV H.size d n a15 a16 a5 a6 a8 a9 a10 a13 a14 x2 f21 v22 v23 f6 v7 v8 f9 f10 p11 f12 p13 f14 v15 f16 o13.1 o13.2 o16 hq17) ⟨callB_of 5 htx (xw_goodC kw_4_28) rfl rfl rfl (htx _ kw_1_26) (htx _ kw_4_26) ⟨by decide, by decide, by decide +kernel⟩ ⟨(by show (16 * d + 5) + 1 ≤ 16 * d + 7; omega), (by show 8 + (5 + 11) + (400 * d + 151) ≤ 400 * d + 175; omega)⟩, htx _ kw_4_27⟩ ⟨xPre_blind, (fun U hU hW => ⟨rfl, xPre_of hZ hS hFc hPc hDc hK U hU hW⟩)⟩ rfl rfl hl.1 rfl (lv_room (Nat.le_of_ble_eq_true rfl)) dB_one_58 ⟨Nat.le_of_ble_eq_true rfl, Nat.le_of_ble_eq_true rfl⟩) hS (fun q _ h => hFc q h) hFc (fun r18 u9 t H1 locs ht hvm hr9 hB hz1 hk1 hS => ?_)
          obtain ⟨hP1, hK1, hD1⟩ := hB
          rw [ht] at hP1
          obtain ⟨hP, hD⟩ := xjoin (W := [(a0, .inr (0, [.ref a1, .ref a3, .ref a5, .ref a7, .ref a8, .ref a13, .int v19, .int v20])), (a1, .inr (1, [.ref a2, .int v1, .int v2])), (a2, .inl (cT 0, 4096, .inl f0)), (a3, .inr (1, [.ref a4, .int v4, .int v5])), (a4, .inl (cT 0, 4096, .inl f3)), (a7, .inl (cT 3, 8, .inr (.inr (.inr (.inr rf0))))), (a15, .inr (2, [.ref a16, .int v22, .int v23])), (a16, .inl (cT 2, 4096, .inr (.inl f21))), (a5, .inr (1, [.ref a6, .int o16.2.2.1, .int o16.2.2.2.1])), (a6, .inl (cT 0, 4096, .inl o16.2.1)), (a8, .inr (3, [.ref a9, .ref a10, .ref o16.2.2.2.2.2.2.1, .ref o16.2.2.2.2.2.2.2.2.1, .int o16.2.2.2.2.2.2.2.2.2.1])), (a9, .inl (cT 1, 2048, .inl o16.2.2.2.2.1)), (a10, .inl (cT 1, 2048, .inl f10)), (o16.2.2.2.2.2.2.1, .inl (cT 1, 2048, .inl o16.2.2.2.2.2.1)), (o16.2.2.2.2.2.2.2.2.1, .inl (cT 1, 2048, .inl o16.2.2.2.2.2.2.2.1)), (a13, .inr (2, [.ref a14, .int o16.2.2.2.2.2.2.2.2.2.2.2.1, .int o16.2.2.2.2.2.2.2.2.2.2.2.2])), (a14, .inl (cT 2, 4096, .inr (.inl o16.2.2.2.2.2.2.2.2.2.2.1)))]) hP hD [13, 14, 5, 6, 8, 9, 10, 11, 12, 15, 16] [0, 1, 2, 3, 4, 7] 6 rfl rfl (by decide) (by decide) hk1 hFc hP1 hD1
          generalize H1 = H at hP hS ⊢
          rw [hr9]
          refine W.eq (g2 := F0 m 61 ls [.int o16.1, .ref a0]) rfl ?_
          obtain ⟨o19, hq20, hf⟩ := xbind hf
          by_cases hk21 : o19.1 = 0
          · rw [if_pos hk21] at hf
            obtain ⟨hPc, hDc, hFc⟩ := xcut (wc := [(a0, .inr (0, [.ref a1, .ref a3, .ref a5, .ref a7, .ref a8, .ref a13, .int v19, .int v20])), (a1, .inr (1, [.ref a2, .int v1, .int v2])), (a2, .inl (cT 0, 4096, .inl f0)), (a3, .inr (1, [.ref a4, .int v4, .int v5])), (a4, .inl (cT 0, 4096, .inl f3)), (a5, .inr (1, [.ref a6, .int o16.2.2.1, .int o16.2.2.2.1])), (a6, .inl (cT 0, 4096, .inl o16.2.1)), (a7, .inl (cT 3, 8, .inr (.inr (.inr (.inr rf0))))), (a8, .inr (3, [.ref a9, .ref a10, .ref o16.2.2.2.2.2.2.1, .ref o16.2.2.2.2.2.2.2.2.1, .int o16.2.2.2.2.2.2.2.2.2.1])), (a9, .inl (cT 1, 2048, .inl o16.2.2.2.2.1)), (a10, .inl (cT 1, 2048, .inl f10)), (o16.2.2.2.2.2.2.1, .inl (cT 1, 2048, .inl o16.2.2.2.2.2.1)), (o16.2.2.2.2.2.2.2.2.1, .inl (cT 1, 2048, .inl o16.2.2.2.2.2.2.2.1)), (a13, .inr (2, [.ref a14, .int o16.2.2.2.2.2.2.2.2.2.2.2.1, .int o16.2.2.2.2.2.2.2.2.2.2.2.2])), (a14, .inl (cT 2, 4096, .inr (.inl o16.2.2.2.2.2.2.2.2.2.2.1)))]) hP hD hS hA [0, 1, 2, 3, 4, 8, 9, 5, 10, 11, 12, 13, 14, 15, 16] rfl rfl (by decide)
            refine va_callv (va_runV (C := "ValueBench") (As := [.int o16.1]) (rest := []) ⟨hx, hb, hml, hown, htx⟩ (gB_demandDone l hl9 D cT aK aV H.size n a0 a1 a2 a3 a4 a5 a6 a7 a8 a9 a10 a13 a14 rf0 o16.1 f0 v1 v2 f3 v4 v5 o16.2.1 o16.2.2.1 o16.2.2.2.1 o16.2.2.2.2.1 f10 o16.2.2.2.2.2.2.1 o16.2.2.2.2.2.1 o16.2.2.2.2.2.2.2.2.1 o16.2.2.2.2.2.2.2.1 o16.2.2.2.2.2.2.2.2.2.1 o16.2.2.2.2.2.2.2.2.2.2.1 o16.2.2.2.2.2.2.2.2.2.2.2.1 o16.2.2.2.2.2.2.2.2.2.2.2.2 v19 v20 o19 hq20 hk21) ⟨callB_of 1 htx (xw_goodC kw_3_222) rfl rfl rfl (htx _ kw_1_1) (htx _ kw_3_219) ⟨by decide, by decide, by decide +kernel⟩ ⟨Nat.le_of_ble_eq_true rfl, Nat.le_of_ble_eq_true rfl⟩, (htx _ kw_3_221), (htx _ kp_B_demandDone)⟩ ⟨xPre_blind, va_recv hK hP (ci := 0) rfl (q0 := 0) rfl, (fun U hU hW => ⟨rfl, xPre_of hZ hS hFc hPc hDc hK U hU hW⟩)⟩ rfl rfl hl.1 rfl (lv_room (Nat.le_of_ble_eq_true rfl)) dB_one_61 ⟨Nat.le_of_ble_eq_true rfl, Nat.le_of_ble_eq_true rfl⟩) hS (fun q _ h => hFc q h) hFc (fun u9 t H1 locs ht hvm hr9 hB hz1 hk1 hS => ?_)
            obtain ⟨hP1, hK1, hD1⟩ := hB
            rw [ht] at hP1
            obtain ⟨hP, hD⟩ := xjoin (W := [(a15, .inr (2, [.ref a16, .int v22, .int v23])), (a16, .inl (cT 2, 4096, .inr (.inl f21))), (a0, .inr (0, [.ref a1, .ref a3, .ref a5, .ref a7, .ref a8, .ref a13, .int v19, .int o19.2])), (a1, .inr (1, [.ref a2, .int v1, .int v2])), (a2, .inl (cT 0, 4096, .inl f0)), (a3, .inr (1, [.ref a4, .int v4, .int v5])), (a4, .inl (cT 0, 4096, .inl f3)), (a5, .inr (1, [.ref a6, .int o16.2.2.1, .int o16.2.2.2.1])), (a6, .inl (cT 0, 4096, .inl o16.2.1)), (a7, .inl (cT 3, 8, .inr (.inr (.inr (.inr rf0))))), (a8, .inr (3, [.ref a9, .ref a10, .ref o16.2.2.2.2.2.2.1, .ref o16.2.2.2.2.2.2.2.2.1, .int o16.2.2.2.2.2.2.2.2.2.1])), (a9, .inl (cT 1, 2048, .inl o16.2.2.2.2.1)), (a10, .inl (cT 1, 2048, .inl f10)), (o16.2.2.2.2.2.2.1, .inl (cT 1, 2048, .inl o16.2.2.2.2.2.1)), (o16.2.2.2.2.2.2.2.2.1, .inl (cT 1, 2048, .inl o16.2.2.2.2.2.2.2.1)), (a13, .inr (2, [.ref a14, .int o16.2.2.2.2.2.2.2.2.2.2.2.1, .int o16.2.2.2.2.2.2.2.2.2.2.2.2])), (a14, .inl (cT 2, 4096, .inr (.inl o16.2.2.2.2.2.2.2.2.2.2.1)))]) hP hD [0, 1, 2, 3, 4, 8, 9, 5, 10, 11, 12, 13, 14, 15, 16] [6, 7] 2 rfl rfl (by decide) (by decide) hk1 hFc hP1 hD1
            generalize H1 = H at hP hS ⊢
            refine lv_aload_n hx hb dB_one_64 rfl (lv_at hl 0 rfl) ?_
            refine lv_iload_n hx hb dB_one_65 rfl (lv_at hl 1 rfl) ?_
            obtain ⟨o22, hq23, hf⟩ := xbind hf
            by_cases hk24 : o22.1 = 0
            · rw [if_pos hk24] at hf
              obtain ⟨hPc, hDc, hFc⟩ := xcut (wc := [(a0, .inr (0, [.ref a1, .ref a3, .ref a5, .ref a7, .ref a8, .ref a13, .int v19, .int o19.2])), (a1, .inr (1, [.ref a2, .int v1, .int v2])), (a2, .inl (cT 0, 4096, .inl f0)), (a3, .inr (1, [.ref a4, .int v4, .int v5])), (a4, .inl (cT 0, 4096, .inl f3)), (a5, .inr (1, [.ref a6, .int o16.2.2.1, .int o16.2.2.2.1])), (a6, .inl (cT 0, 4096, .inl o16.2.1)), (a7, .inl (cT 3, 8, .inr (.inr (.inr (.inr rf0))))), (a8, .inr (3, [.ref a9, .ref a10, .ref o16.2.2.2.2.2.2.1, .ref o16.2.2.2.2.2.2.2.2.1, .int o16.2.2.2.2.2.2.2.2.2.1])), (a9, .inl (cT 1, 2048, .inl o16.2.2.2.2.1)), (a10, .inl (cT 1, 2048, .inl f10)), (o16.2.2.2.2.2.2.1, .inl (cT 1, 2048, .inl o16.2.2.2.2.2.1)), (o16.2.2.2.2.2.2.2.2.1, .inl (cT 1, 2048, .inl o16.2.2.2.2.2.2.2.1)), (a13, .inr (2, [.ref a14, .int o16.2.2.2.2.2.2.2.2.2.2.2.1, .int o16.2.2.2.2.2.2.2.2.2.2.2.2])), (a14, .inl (cT 2, 4096, .inr (.inl o16.2.2.2.2.2.2.2.2.2.2.1)))]) hP hD hS hA [2, 3, 4, 5, 6, 7, 8, 9, 10, 11, 12, 13, 14, 15, 16] rfl rfl (by decide)
              refine va_calli (va_runV (C := "ValueBench") (As := [.int x1]) (rest := []) ⟨hx, hb, hml, hown, htx⟩ (gB_keepSpare l hl9 D cT aK aV H.size d n a0 a1 a2 a3 a4 a5 a6 a7 a8 a9 a10 a13 a14 rf0 b1 x1 f0 v1 v2 f3 v4 v5 o16.2.1 o16.2.2.1 o16.2.2.2.1 o16.2.2.2.2.1 f10 o16.2.2.2.2.2.2.1 o16.2.2.2.2.2.1 o16.2.2.2.2.2.2.2.2.1 o16.2.2.2.2.2.2.2.1 o16.2.2.2.2.2.2.2.2.2.1 o16.2.2.2.2.2.2.2.2.2.2.1 o16.2.2.2.2.2.2.2.2.2.2.2.1 o16.2.2.2.2.2.2.2.2.2.2.2.2 v19 o19.2 hr1 o22 hq23 hk24) ⟨callB_of 1 htx (xw_goodC kw_3_17) rfl rfl rfl (htx _ kw_1_1) (htx _ kw_3_14) ⟨by decide, by decide, by decide +kernel⟩ ⟨(by show (16 * d + 6) + 1 ≤ 16 * d + 7; omega), (by show 8 + (3 + 11) + (400 * d + 100) ≤ 400 * d + 175; omega)⟩, (htx _ kw_3_16), (htx _ kp_B_keepSpare)⟩ ⟨xPre_blind, va_recv hK hP (ci := 0) rfl (q0 := 2) rfl, (fun U hU hW => ⟨rfl, xPre_of hZ hS hFc hPc hDc hK U hU hW⟩)⟩ rfl rfl hl.1 rfl (lv_room (Nat.le_of_ble_eq_true rfl)) dB_one_66 ⟨Nat.le_of_ble_eq_true rfl, Nat.le_of_ble_eq_true rfl⟩) hS (fun q _ h => hFc q h) hFc (fun r25 u9 t H1 locs ht hvm hr9 hB hz1 hk1 hS => ?_)
              obtain ⟨hP1, hK1, hD1⟩ := hB
              rw [ht] at hP1
              obtain ⟨hP, hD⟩ := xjoin (W := [(a15, .inr (2, [.ref a16, .int v22, .int v23])), (a16, .inl (cT 2, 4096, .inr (.inl f21))), (a0, .inr (0, [.ref a1, .ref a3, .ref a5, .ref a7, .ref a8, .ref b1, .int v19, .int o19.2])), (a1, .inr (1, [.ref a2, .int v1, .int v2])), (a2, .inl (cT 0, 4096, .inl f0)), (a3, .inr (1, [.ref a4, .int v4, .int v5])), (a4, .inl (cT 0, 4096, .inl f3)), (a5, .inr (1, [.ref a6, .int o22.2.2.2.1, .int o22.2.2.2.2])), (a6, .inl (cT 0, 4096, .inl o22.2.2.1)), (a7, .inl (cT 3, 8, .inr (.inr (.inr (.inr (va_up rf0 x1.toNatClampNeg (some a13))))))), (a8, .inr (3, [.ref a9, .ref a10, .ref o16.2.2.2.2.2.2.1, .ref o16.2.2.2.2.2.2.2.2.1, .int o16.2.2.2.2.2.2.2.2.2.1])), (a9, .inl (cT 1, 2048, .inl o16.2.2.2.2.1)), (a10, .inl (cT 1, 2048, .inl f10)), (o16.2.2.2.2.2.2.1, .inl (cT 1, 2048, .inl o16.2.2.2.2.2.1)), (o16.2.2.2.2.2.2.2.2.1, .inl (cT 1, 2048, .inl o16.2.2.2.2.2.2.2.1)), (a13, .inr (2, [.ref a14, .int o16.2.2.2.2.2.2.2.2.2.2.2.1, .int o16.2.2.2.2.2.2.2.2.2.2.2.2])), (a14, .inl (cT 2, 4096, .inr (.inl o16.2.2.2.2.2.2.2.2.2.2.1)))]) hP hD [2, 3, 4, 5, 6, 7, 8, 9, 10, 11, 12, 13, 14, 15, 16] [0, 1] 2 rfl rfl (by decide) (by decide) hk1 hFc hP1 hD1
              generalize H1 = H at hP hS ⊢
              rw [hr9]
              refine W.eq (g2 := F0 m 69 ls [.int o22.2.1]) rfl ?_
              refine lv_pop hx hb dB_one_69 rfl ?_
              obtain rfl := Option.some.inj hf
              exact absurd (show (0 : Nat) = 1 from hkd) (by decide)
            rw [if_neg hk24] at hf
            by_cases hk26 : o22.1 = 1
            · rw [if_pos hk26] at hf
              obtain ⟨hPc, hDc, hFc⟩ := xcut (wc := [(a0, .inr (0, [.ref a1, .ref a3, .ref a5, .ref a7, .ref a8, .ref a13, .int v19, .int o19.2])), (a1, .inr (1, [.ref a2, .int v1, .int v2])), (a2, .inl (cT 0, 4096, .inl f0)), (a3, .inr (1, [.ref a4, .int v4, .int v5])), (a4, .inl (cT 0, 4096, .inl f3)), (a5, .inr (1, [.ref a6, .int o16.2.2.1, .int o16.2.2.2.1])), (a6, .inl (cT 0, 4096, .inl o16.2.1)), (a7, .inl (cT 3, 8, .inr (.inr (.inr (.inr rf0))))), (a8, .inr (3, [.ref a9, .ref a10, .ref o16.2.2.2.2.2.2.1, .ref o16.2.2.2.2.2.2.2.2.1, .int o16.2.2.2.2.2.2.2.2.2.1])), (a9, .inl (cT 1, 2048, .inl o16.2.2.2.2.1)), (a10, .inl (cT 1, 2048, .inl f10)), (o16.2.2.2.2.2.2.1, .inl (cT 1, 2048, .inl o16.2.2.2.2.2.1)), (o16.2.2.2.2.2.2.2.2.1, .inl (cT 1, 2048, .inl o16.2.2.2.2.2.2.2.1)), (a13, .inr (2, [.ref a14, .int o16.2.2.2.2.2.2.2.2.2.2.2.1, .int o16.2.2.2.2.2.2.2.2.2.2.2.2])), (a14, .inl (cT 2, 4096, .inr (.inl o16.2.2.2.2.2.2.2.2.2.2.1)))]) hP hD hS hA [2, 3, 4, 5, 6, 7, 8, 9, 10, 11, 12, 13, 14, 15, 16] rfl rfl (by decide)
              refine xx_thr (vx_runV (C := "ValueBench") (As := [.int x1]) (rest := []) ⟨hx, hb, hml, hown, htx⟩ (gB_keepSpare_1 l hl9 D cT aK aV H.size d n a0 a1 a2 a3 a4 a5 a6 a7 a8 a9 a10 a13 a14 rf0 b1 x1 f0 v1 v2 f3 v4 v5 o16.2.1 o16.2.2.1 o16.2.2.2.1 o16.2.2.2.2.1 f10 o16.2.2.2.2.2.2.1 o16.2.2.2.2.2.1 o16.2.2.2.2.2.2.2.2.1 o16.2.2.2.2.2.2.2.1 o16.2.2.2.2.2.2.2.2.2.1 o16.2.2.2.2.2.2.2.2.2.2.1 o16.2.2.2.2.2.2.2.2.2.2.2.1 o16.2.2.2.2.2.2.2.2.2.2.2.2 v19 o19.2 hr1 o22 hq23 hk26) ⟨callB_of 1 htx (xw_goodC kw_3_17) rfl rfl rfl (htx _ kw_1_1) (htx _ kw_3_14) ⟨by decide, by decide, by decide +kernel⟩ ⟨(by show (16 * d + 6) + 1 ≤ 16 * d + 7; omega), (by show 8 + (3 + 11) + (400 * d + 100) ≤ 400 * d + 175; omega)⟩, (htx _ kw_3_16), (htx _ kp_B_keepSpare)⟩ ⟨xPre_blind, va_recv hK hP (ci := 0) rfl (q0 := 2) rfl, (fun U hU hW => ⟨rfl, xPre_of hZ hS hFc hPc hDc hK U hU hW⟩)⟩ rfl rfl hl.1 rfl (lv_room (Nat.le_of_ble_eq_true rfl)) dB_one_66 ⟨Nat.le_of_ble_eq_true rfl, Nat.le_of_ble_eq_true rfl⟩) hS hFc (fun q _ h => hFc q h) (fun E ce q9 u9 t H1 locs ht hvm _ hB hz1 hk1 hS hce hcv hcl => ?_)
              obtain ⟨rfl, hP1, hK1, hD1⟩ := hB
              rw [ht] at hP1
              obtain ⟨hP, hD⟩ := xjoin (W := [(a15, .inr (2, [.ref a16, .int v22, .int v23])), (a16, .inl (cT 2, 4096, .inr (.inl f21))), (a0, .inr (0, [.ref a1, .ref a3, .ref a5, .ref a7, .ref a8, .ref a13, .int v19, .int o19.2])), (a1, .inr (1, [.ref a2, .int v1, .int v2])), (a2, .inl (cT 0, 4096, .inl f0)), (a3, .inr (1, [.ref a4, .int v4, .int v5])), (a4, .inl (cT 0, 4096, .inl f3)), (a5, .inr (1, [.ref a6, .int o22.2.2.2.1, .int o22.2.2.2.2])), (a6, .inl (cT 0, 4096, .inl o22.2.2.1)), (a7, .inl (cT 3, 8, .inr (.inr (.inr (.inr rf0))))), (a8, .inr (3, [.ref a9, .ref a10, .ref o16.2.2.2.2.2.2.1, .ref o16.2.2.2.2.2.2.2.2.1, .int o16.2.2.2.2.2.2.2.2.2.1])), (a9, .inl (cT 1, 2048, .inl o16.2.2.2.2.1)), (a10, .inl (cT 1, 2048, .inl f10)), (o16.2.2.2.2.2.2.1, .inl (cT 1, 2048, .inl o16.2.2.2.2.2.1)), (o16.2.2.2.2.2.2.2.2.1, .inl (cT 1, 2048, .inl o16.2.2.2.2.2.2.2.1)), (a13, .inr (2, [.ref a14, .int o16.2.2.2.2.2.2.2.2.2.2.2.1, .int o16.2.2.2.2.2.2.2.2.2.2.2.2])), (a14, .inl (cT 2, 4096, .inr (.inl o16.2.2.2.2.2.2.2.2.2.2.1)))]) hP hD [2, 3, 4, 5, 6, 7, 8, 9, 10, 11, 12, 13, 14, 15, 16] [0, 1] 2 rfl rfl (by decide) (by decide) hk1 hFc hP1 hD1
              generalize H1 = H at hP hS hce ⊢
              obtain rfl := Option.some.inj hf
              obtain ⟨hP9, hD9⟩ := xsub (wc := [(a0, .inr (0, [.ref a1, .ref a3, .ref a5, .ref a7, .ref a8, .ref a13, .int v19, .int o19.2])), (a1, .inr (1, [.ref a2, .int v1, .int v2])), (a2, .inl (cT 0, 4096, .inl f0)), (a3, .inr (1, [.ref a4, .int v4, .int v5])), (a4, .inl (cT 0, 4096, .inl f3)), (a5, .inr (1, [.ref a6, .int o22.2.2.2.1, .int o22.2.2.2.2])), (a6, .inl (cT 0, 4096, .inl o22.2.2.1)), (a7, .inl (cT 3, 8, .inr (.inr (.inr (.inr rf0))))), (a8, .inr (3, [.ref a9, .ref a10, .ref o16.2.2.2.2.2.2.1, .ref o16.2.2.2.2.2.2.2.2.1, .int o16.2.2.2.2.2.2.2.2.2.1])), (a9, .inl (cT 1, 2048, .inl o16.2.2.2.2.1)), (a10, .inl (cT 1, 2048, .inl f10)), (o16.2.2.2.2.2.2.1, .inl (cT 1, 2048, .inl o16.2.2.2.2.2.1)), (o16.2.2.2.2.2.2.2.2.1, .inl (cT 1, 2048, .inl o16.2.2.2.2.2.2.2.1)), (a13, .inr (2, [.ref a14, .int o16.2.2.2.2.2.2.2.2.2.2.2.1, .int o16.2.2.2.2.2.2.2.2.2.2.2.2])), (a14, .inl (cT 2, 4096, .inr (.inl o16.2.2.2.2.2.2.2.2.2.2.1))), (a15, .inr (2, [.ref a16, .int v22, .int v23])), (a16, .inl (cT 2, 4096, .inr (.inl f21)))]) hP hD [2, 3, 4, 5, 6, 7, 8, 9, 10, 11, 12, 13, 14, 15, 16, 0, 1] rfl rfl (by decide)
              exact vx_out (E := "java/lang/IndexOutOfBoundsException") (fun x h => (hne x h).elim) hlocks hce hcv hcl (fun t ht ha => ⟨(), trivial, ⟨rfl, by rw [ht]; exact hP9, va_K.moved ha hK, hD9⟩, hS.F ht⟩) hS.2.2 (Nat.le_of_ble_eq_true rfl) (Nat.le_of_ble_eq_true rfl)
            rw [if_neg hk26] at hf
            exact nomatch hf
          rw [if_neg hk21] at hf
          by_cases hk28 : o19.1 = 1
          · rw [if_pos hk28] at hf
            obtain rfl := Option.some.inj hf
            exact absurd (show (2 : Nat) = 1 from hkd) (by decide)
          rw [if_neg hk28] at hf
          exact nomatch hf
        rw [if_neg hk12] at hf
        by_cases hk29 : o10 = 1
        · rw [if_pos hk29] at hf
          obtain rfl := Option.some.inj hf
          exact absurd (show (3 : Nat) = 1 from hkd) (by decide)
        rw [if_neg hk29] at hf
        exact nomatch hf
set_option maxHeartbeats 400000000 in
set_option maxRecDepth 100000 in
theorem gB_one_2 (l : Launch) (hl9 : l.stackTraces = false) (D : va_G) (cT : Nat → ClassId) (aK aV : Nat → Nat) (sz d n : Nat) (a0 : Nat) (a1 : Nat) (a2 : Nat) (a3 : Nat) (a4 : Nat) (a5 : Nat) (a6 : Nat) (a7 : Nat) (a8 : Nat) (a9 : Nat) (a10 : Nat) (a13 : Nat) (a14 : Nat) (a15 : Nat) (a16 : Nat) (rf0 : Nat → Option Nat) (b1 : Nat) (x1 : Int32) (x2 : Int32) (x3 : Int32) (f0 : Nat → Int32) (v1 : Int32) (v2 : Int32) (f3 : Nat → Int32) (v4 : Int32) (v5 : Int32) (f6 : Nat → Int32) (v7 : Int32) (v8 : Int32) (f9 : Nat → Int32) (f10 : Nat → Int32) (p11 : Nat) (f12 : Nat → Int32) (p13 : Nat) (f14 : Nat → Int32) (v15 : Int32) (f16 : Nat → Int64) (v17 : Int32) (v18 : Int32) (v19 : Int32) (v20 : Int32) (f21 : Nat → Int64) (v22 : Int32) (v23 : Int32) (hr1 : ¬ (x1 < 0 ∨ 8 ≤ x1.toNatClampNeg) → rf0 x1.toNatClampNeg = some b1) (hr3 : ¬ (x3 < 0 ∨ 8 ≤ x3.toNatClampNeg) → rf0 x3.toNatClampNeg = some a15) (out : Nat × (Nat → Int32) × Int32 × Int32 × (Nat → Int32) × (Nat → Int32) × Nat × (Nat → Int32) × Nat × Int32 × (Nat → Int64) × Int32 × Int32 × Int32) (hf : fB_one d n x1 x2 x3 f0 v1 v2 f3 v4 v5 f6 v7 v8 f9 f10 p11 f12 p13 f14 v15 f16 v17 v18 v19 v20 f21 v22 v23 = some out) (hkd : out.1 = 2) : xMetX l yB_one wyB_one (16 * d + 7) 4 22 (400 * d + 175) D cT aK aV sz [.ref a0, .int x1, .int x2, .int x3] [(a0, .inr (0, [.ref a1, .ref a3, .ref a5, .ref a7, .ref a8, .ref a13, .int v19, .int v20])), (a1, .inr (1, [.ref a2, .int v1, .int v2])), (a2, .inl (cT 0, 4096, .inl f0)), (a3, .inr (1, [.ref a4, .int v4, .int v5])), (a4, .inl (cT 0, 4096, .inl f3)), (a5, .inr (1, [.ref a6, .int v7, .int v8])), (a6, .inl (cT 0, 4096, .inl f6)), (a7, .inl (cT 3, 8, .inr (.inr (.inr (.inr rf0))))), (a8, .inr (3, [.ref a9, .ref a10, .ref p11, .ref p13, .int v15])), (a9, .inl (cT 1, 2048, .inl f9)), (a10, .inl (cT 1, 2048, .inl f10)), (p11, .inl (cT 1, 2048, .inl f12)), (p13, .inl (cT 1, 2048, .inl f14)), (a13, .inr (2, [.ref a14, .int v17, .int v18])), (a14, .inl (cT 2, 4096, .inr (.inl f16))), (a15, .inr (2, [.ref a16, .int v22, .int v23])), (a16, .inl (cT 2, 4096, .inr (.inl f21)))] "java/lang/ArithmeticException" (fun A t => xB D xcl cT A [(a0, .inr (0, [.ref a1, .ref a3, .ref a5, .ref a7, .ref a8, .ref a13, .int v19, .int out.2.2.2.2.2.2.2.2.2.2.2.2.2])), (a1, .inr (1, [.ref a2, .int v1, .int v2])), (a2, .inl (cT 0, 4096, .inl f0)), (a3, .inr (1, [.ref a4, .int v4, .int v5])), (a4, .inl (cT 0, 4096, .inl f3)), (a5, .inr (1, [.ref a6, .int out.2.2.1, .int out.2.2.2.1])), (a6, .inl (cT 0, 4096, .inl out.2.1)), (a7, .inl (cT 3, 8, .inr (.inr (.inr (.inr rf0))))), (a8, .inr (3, [.ref a9, .ref a10, .ref out.2.2.2.2.2.2.1, .ref out.2.2.2.2.2.2.2.2.1, .int out.2.2.2.2.2.2.2.2.2.1])), (a9, .inl (cT 1, 2048, .inl out.2.2.2.2.1)), (a10, .inl (cT 1, 2048, .inl f10)), (out.2.2.2.2.2.2.1, .inl (cT 1, 2048, .inl out.2.2.2.2.2.1)), (out.2.2.2.2.2.2.2.2.1, .inl (cT 1, 2048, .inl out.2.2.2.2.2.2.2.1)), (a13, .inr (2, [.ref a14, .int out.2.2.2.2.2.2.2.2.2.2.2.1, .int out.2.2.2.2.2.2.2.2.2.2.2.2.1])), (a14, .inl (cT 2, 4096, .inr (.inl out.2.2.2.2.2.2.2.2.2.2.1))), (a15, .inr (2, [.ref a16, .int v22, .int v23])), (a16, .inl (cT 2, 4096, .inr (.inl f21)))] t) := by
  refine vx_ofW (cc := prog_1_method_9_code) (maxL := 4) (ret := none) (by decide) rfl ?_
  intro p e s m args below meth c s₁ B hml hne hv
  obtain ⟨rfl, hsz, hZ, hP, hK, hD0⟩ := hv
  have hx := B.exec
  have hb := B.bytes
  have hr := B.returns
  have hts := atoms_spec (ws := wyB_one) B.pre
  have htx := fun w h => hts w (List.mem_cons_of_mem _ h)
  have hown : s.vm.findClass "ValueBench" = some m.cls := findClass_of_methodNamed B.named
  have hlocks := B.notSynchronized
  subst hsz
  have hD := hD0.self (sz := s.heap.size)
  generalize hAe : va_A [(a0, .inr (0, [.ref a1, .ref a3, .ref a5, .ref a7, .ref a8, .ref a13, .int v19, .int v20])), (a1, .inr (1, [.ref a2, .int v1, .int v2])), (a2, .inl (cT 0, 4096, .inl f0)), (a3, .inr (1, [.ref a4, .int v4, .int v5])), (a4, .inl (cT 0, 4096, .inl f3)), (a5, .inr (1, [.ref a6, .int v7, .int v8])), (a6, .inl (cT 0, 4096, .inl f6)), (a7, .inl (cT 3, 8, .inr (.inr (.inr (.inr rf0))))), (a8, .inr (3, [.ref a9, .ref a10, .ref p11, .ref p13, .int v15])), (a9, .inl (cT 1, 2048, .inl f9)), (a10, .inl (cT 1, 2048, .inl f10)), (p11, .inl (cT 1, 2048, .inl f12)), (p13, .inl (cT 1, 2048, .inl f14)), (a13, .inr (2, [.ref a14, .int v17, .int v18])), (a14, .inl (cT 2, 4096, .inr (.inl f16))), (a15, .inr (2, [.ref a16, .int v22, .int v23])), (a16, .inl (cT 2, 4096, .inr (.inl f21)))] s.heap.size = A at hD hZ ⊢
  have hA : ∀ q : Nat, s.heap.size ≤ q → A q := fun q h => by rw [← hAe]; exact Or.inr h
  have hS : va_S A s.heap s.heap [] := va_S.rf
  have hP : va_P D xcl [(a0, .inr (0, [.ref a1, .ref a3, .ref a5, .ref a7, .ref a8, .ref a13, .int v19, .int v20])), (a1, .inr (1, [.ref a2, .int v1, .int v2])), (a2, .inl (cT 0, 4096, .inl f0)), (a3, .inr (1, [.ref a4, .int v4, .int v5])), (a4, .inl (cT 0, 4096, .inl f3)), (a5, .inr (1, [.ref a6, .int v7, .int v8])), (a6, .inl (cT 0, 4096, .inl f6)), (a7, .inl (cT 3, 8, .inr (.inr (.inr (.inr rf0))))), (a8, .inr (3, [.ref a9, .ref a10, .ref p11, .ref p13, .int v15])), (a9, .inl (cT 1, 2048, .inl f9)), (a10, .inl (cT 1, 2048, .inl f10)), (p11, .inl (cT 1, 2048, .inl f12)), (p13, .inl (cT 1, 2048, .inl f14)), (a13, .inr (2, [.ref a14, .int v17, .int v18])), (a14, .inl (cT 2, 4096, .inr (.inl f16))), (a15, .inr (2, [.ref a16, .int v22, .int v23])), (a16, .inl (cT 2, 4096, .inr (.inl f21)))] s.heap := hP
  have hl := lv_entry ([.ref a0, .int x1, .int x2, .int x3]) (n := 4) (Nat.le_of_ble_eq_true rfl)
  rw [lg_entry_eq]
  generalize (lg_sl ([.ref a0, .int x1, .int x2, .int x3]) ++ List.replicate (4 - (lg_sl ([.ref a0, .int x1, .int x2, .int x3])).length) Slot.unset).toArray = ls at hl ⊢
  have hl : lv_has ls 4 [(0, .ref a0), (1, .int x1), (2, .int x2), (3, .int x3)] := hl
  unfold fB_one at hf
  refine lv_iload_n hx hb dB_one_0 rfl (lv_at hl 1 rfl) ?_
  obtain ⟨o1, hq2, hf⟩ := xbind hf
  obtain ⟨hPc, hDc, hFc⟩ := xcut (wc := []) hP hD hS hA [] rfl rfl (by decide)
  refine va_calli (va_runS (As := [.int x1]) (rest := []) ⟨hx, hb, hml, hown, htx⟩ (gB_isRegister l hl9 D cT aK aV s.heap.size n x1 o1 hq2) ⟨callB_of 1 htx (xw_goodC kw_2_18) rfl rfl rfl (htx _ kw_1_1) (htx _ kw_2_16) ⟨by decide, by decide, by decide +kernel⟩ ⟨Nat.le_of_ble_eq_true rfl, Nat.le_of_ble_eq_true rfl⟩, htx _ kw_2_17⟩ ⟨xPre_blind, (fun U hU hW => ⟨rfl, xPre_of hZ hS hFc hPc hDc hK U hU hW⟩)⟩ rfl rfl hl.1 rfl (lv_room (Nat.le_of_ble_eq_true rfl)) dB_one_1 ⟨Nat.le_of_ble_eq_true rfl, Nat.le_of_ble_eq_true rfl⟩) hS (fun q _ h => hFc q h) hFc (fun r3 u9 t H1 locs ht hvm hr9 hB hz1 hk1 hS => ?_)
  obtain ⟨hP1, hK1, hD1⟩ := hB
  rw [ht] at hP1
  obtain ⟨hP, hD⟩ := xjoin (W := [(a0, .inr (0, [.ref a1, .ref a3, .ref a5, .ref a7, .ref a8, .ref a13, .int v19, .int v20])), (a1, .inr (1, [.ref a2, .int v1, .int v2])), (a2, .inl (cT 0, 4096, .inl f0)), (a3, .inr (1, [.ref a4, .int v4, .int v5])), (a4, .inl (cT 0, 4096, .inl f3)), (a5, .inr (1, [.ref a6, .int v7, .int v8])), (a6, .inl (cT 0, 4096, .inl f6)), (a7, .inl (cT 3, 8, .inr (.inr (.inr (.inr rf0))))), (a8, .inr (3, [.ref a9, .ref a10, .ref p11, .ref p13, .int v15])), (a9, .inl (cT 1, 2048, .inl f9)), (a10, .inl (cT 1, 2048, .inl f10)), (p11, .inl (cT 1, 2048, .inl f12)), (p13, .inl (cT 1, 2048, .inl f14)), (a13, .inr (2, [.ref a14, .int v17, .int v18])), (a14, .inl (cT 2, 4096, .inr (.inl f16))), (a15, .inr (2, [.ref a16, .int v22, .int v23])), (a16, .inl (cT 2, 4096, .inr (.inl f21)))]) hP hD [] [0, 1, 2, 3, 4, 5, 6, 7, 8, 9, 10, 11, 12, 13, 14, 15, 16] 17 rfl rfl (by decide) (by decide) hk1 hFc hP1 hD1
  generalize H1 = H at hP hS ⊢
  rw [hr9]
  refine W.eq (g2 := F0 m 4 ls [.int o1]) rfl ?_
  refine lv_if_eq (tgt := 27) hx hb dB_one_4 (by decide) (fun hc => ?_) (fun hc => ?_)
  · rw [if_pos hc] at hf
    refine lv_iconst (v := 0) hx hb dB_one_27 (by decide) ?_
    obtain ⟨o4, hq5, hf⟩ := xbind hf
    by_cases hk6 : o4 = 0
    · rw [if_pos hk6] at hf
      obtain ⟨hPc, hDc, hFc⟩ := xcut (wc := []) hP hD hS hA [] rfl rfl (by decide)
      refine va_callv (va_runS (As := [.int 0]) (rest := []) ⟨hx, hb, hml, hown, htx⟩ (gB_demand l hl9 D cT aK aV H.size n (0 : Int32) o4 hq5 hk6) ⟨callB_of 1 htx (xw_goodC kw_1_221) rfl rfl rfl (htx _ kw_1_1) (htx _ kw_1_219) ⟨by decide, by decide, by decide +kernel⟩ ⟨Nat.le_of_ble_eq_true rfl, Nat.le_of_ble_eq_true rfl⟩, htx _ kw_1_220⟩ ⟨xPre_blind, (fun U hU hW => ⟨rfl, xPre_of hZ hS hFc hPc hDc hK U hU hW⟩)⟩ rfl rfl hl.1 rfl (lv_room (Nat.le_of_ble_eq_true rfl)) dB_one_28 ⟨Nat.le_of_ble_eq_true rfl, Nat.le_of_ble_eq_true rfl⟩) hS (fun q _ h => hFc q h) hFc (fun u9 t H1 locs ht hvm hr9 hB hz1 hk1 hS => ?_)
      obtain ⟨hP1, hK1, hD1⟩ := hB
      rw [ht] at hP1
      obtain ⟨hP, hD⟩ := xjoin (W := [(a0, .inr (0, [.ref a1, .ref a3, .ref a5, .ref a7, .ref a8, .ref a13, .int v19, .int v20])), (a1, .inr (1, [.ref a2, .int v1, .int v2])), (a2, .inl (cT 0, 4096, .inl f0)), (a3, .inr (1, [.ref a4, .int v4, .int v5])), (a4, .inl (cT 0, 4096, .inl f3)), (a5, .inr (1, [.ref a6, .int v7, .int v8])), (a6, .inl (cT 0, 4096, .inl f6)), (a7, .inl (cT 3, 8, .inr (.inr (.inr (.inr rf0))))), (a8, .inr (3, [.ref a9, .ref a10, .ref p11, .ref p13, .int v15])), (a9, .inl (cT 1, 2048, .inl f9)), (a10, .inl (cT 1, 2048, .inl f10)), (p11, .inl (cT 1, 2048, .inl f12)), (p13, .inl (cT 1, 2048, .inl f14)), (a13, .inr (2, [.ref a14, .int v17, .int v18])), (a14, .inl (cT 2, 4096, .inr (.inl f16))), (a15, .inr (2, [.ref a16, .int v22, .int v23])), (a16, .inl (cT 2, 4096, .inr (.inl f21)))]) hP hD [] [0, 1, 2, 3, 4, 5, 6, 7, 8, 9, 10, 11, 12, 13, 14, 15, 16] 17 rfl rfl (by decide) (by decide) hk1 hFc hP1 hD1
      generalize H1 = H at hP hS ⊢
      refine lv_aload_n hx hb dB_one_31 rfl (lv_at hl 0 rfl) ?_
      refine va_get (D := D) (ci := 0) (v := .ref a13) (C := "ValueBench") (T := TB) (N := 8) hx hb htx inB hown hK hP 0 rfl rfl 5 (by decide) (htx _ kw_1_100) (fun _ h9 => h9) rfl dB_one_32 ?_
      obtain ⟨o7, hq8, hf⟩ := xbind hf
      obtain ⟨hPc, hDc, hFc⟩ := xcut (wc := [(a13, .inr (2, [.ref a14, .int v17, .int v18])), (a14, .inl (cT 2, 4096, .inr (.inl f16)))]) hP hD hS hA [13, 14] rfl rfl (by decide)
      refine va_callv (va_runV (C := "ValueBench$Row") (As := []) (rest := []) ⟨hx, hb, hml, hown, htx⟩ (gR_clear l hl9 D cT aK aV H.size n a13 a14 f16 v17 v18 o7 hq8) ⟨callB_of 0 htx (xw_goodC kw_2_22) rfl rfl rfl (htx _ kw_1_4) (htx _ kw_2_19) ⟨by decide, by decide, by decide +kernel⟩ ⟨Nat.le_of_ble_eq_true rfl, Nat.le_of_ble_eq_true rfl⟩, (htx _ kw_2_20), (htx _ kw_2_21)⟩ ⟨xPre_blind, va_recv hK hP (ci := 2) rfl (q0 := 13) rfl, (fun U hU hW => ⟨rfl, xPre_of hZ hS hFc hPc hDc hK U hU hW⟩)⟩ rfl rfl hl.1 rfl (lv_room (Nat.le_of_ble_eq_true rfl)) dB_one_35 ⟨Nat.le_of_ble_eq_true rfl, Nat.le_of_ble_eq_true rfl⟩) hS (fun q _ h => hFc q h) hFc (fun u9 t H1 locs ht hvm hr9 hB hz1 hk1 hS => ?_)
      obtain ⟨hP1, hK1, hD1⟩ := hB
      rw [ht] at hP1
      obtain ⟨hP, hD⟩ := xjoin (W := [(a0, .inr (0, [.ref a1, .ref a3, .ref a5, .ref a7, .ref a8, .ref a13, .int v19, .int v20])), (a1, .inr (1, [.ref a2, .int v1, .int v2])), (a2, .inl (cT 0, 4096, .inl f0)), (a3, .inr (1, [.ref a4, .int v4, .int v5])), (a4, .inl (cT 0, 4096, .inl f3)), (a5, .inr (1, [.ref a6, .int v7, .int v8])), (a6, .inl (cT 0, 4096, .inl f6)), (a7, .inl (cT 3, 8, .inr (.inr (.inr (.inr rf0))))), (a8, .inr (3, [.ref a9, .ref a10, .ref p11, .ref p13, .int v15])), (a9, .inl (cT 1, 2048, .inl f9)), (a10, .inl (cT 1, 2048, .inl f10)), (p11, .inl (cT 1, 2048, .inl f12)), (p13, .inl (cT 1, 2048, .inl f14)), (a15, .inr (2, [.ref a16, .int v22, .int v23])), (a16, .inl (cT 2, 4096, .inr (.inl f21))), (a13, .inr (2, [.ref a14, .int o7.1, .int o7.2])), (a14, .inl (cT 2, 4096, .inr (.inl f16)))]) hP hD [13, 14] [0, 1, 2, 3, 4, 5, 6, 7, 8, 9, 10, 11, 12, 15, 16] 15 rfl rfl (by decide) (by decide) hk1 hFc hP1 hD1
      generalize H1 = H at hP hS ⊢
      refine lv_aload_n hx hb dB_one_38 rfl (lv_at hl 0 rfl) ?_
      refine lv_iload_n hx hb dB_one_39 rfl (lv_at hl 2 rfl) ?_
      refine lv_aload_n hx hb dB_one_40 rfl (lv_at hl 0 rfl) ?_
      refine va_get (D := D) (ci := 0) (v := .ref a7) (C := "ValueBench") (T := TB) (N := 8) hx hb htx inB hown hK hP 0 rfl rfl 3 (by decide) (htx _ kw_1_98) (fun _ h9 => h9) rfl dB_one_41 ?_
      refine lv_iload_n hx hb dB_one_44 rfl (lv_at hl 3 rfl) ?_
      obtain ⟨hg9, hf⟩ := xifn hf
      refine va_aldq hx hb hK hP 7 3 rfl rfl hg9 dB_one_45 ?_
      refine W.eq (g2 := F0 m 46 ls [va_rf (rf0 x3.toNatClampNeg), .int x2, .ref a0]) rfl ?_
      rw [hr3 hg9]
      refine W.eq (g2 := F0 m 46 ls [.ref a15, .int x2, .ref a0]) rfl ?_
      refine lv_aload_n hx hb dB_one_46 rfl (lv_at hl 0 rfl) ?_
      refine va_get (D := D) (ci := 0) (v := .ref a5) (C := "ValueBench") (T := TB) (N := 8) hx hb htx inB hown hK hP 0 rfl rfl 2 (by decide) (htx _ kw_1_97) (fun _ h9 => h9) rfl dB_one_47 ?_
      refine lv_aload_n hx hb dB_one_50 rfl (lv_at hl 0 rfl) ?_
      refine va_get (D := D) (ci := 0) (v := .ref a8) (C := "ValueBench") (T := TB) (N := 8) hx hb htx inB hown hK hP 0 rfl rfl 4 (by decide) (htx _ kw_1_99) (fun _ h9 => h9) rfl dB_one_51 ?_
      refine lv_aload_n hx hb dB_one_54 rfl (lv_at hl 0 rfl) ?_
      refine va_get (D := D) (ci := 0) (v := .ref a13) (C := "ValueBench") (T := TB) (N := 8) hx hb htx inB hown hK hP 0 rfl rfl 5 (by decide) (htx _ kw_1_100) (fun _ h9 => h9) rfl dB_one_55 ?_
      obtain ⟨o10, hq11, hf⟩ := xbind hf
      obtain ⟨hPc, hDc, hFc⟩ := xcut (wc := [(a15, .inr (2, [.ref a16, .int v22, .int v23])), (a16, .inl (cT 2, 4096, .inr (.inl f21))), (a5, .inr (1, [.ref a6, .int v7, .int v8])), (a6, .inl (cT 0, 4096, .inl f6)), (a8, .inr (3, [.ref a9, .ref a10, .ref p11, .ref p13, .int v15])), (a9, .inl (cT 1, 2048, .inl f9)), (a10, .inl (cT 1, 2048, .inl f10)), (p11, .inl (cT 1, 2048, .inl f12)), (p13, .inl (cT 1, 2048, .inl f14)), (a13, .inr (2, [.ref a14, .int o7.1, .int o7.2])), (a14, .inl (cT 2, 4096, .inr (.inl f16)))]) hP hD hS hA [13, 14, 5, 6, 8, 9, 10, 11, 12, 15, 16] rfl rfl (by decide)
      refine va_calli (va_runS (As := [.int x2, .ref a15, .ref a5, .ref a8, .ref a13]) (rest := [.ref a0]) ⟨hx, hb, hml, hown, htx⟩ (gG_apply l hl9 D cT aK aV H.size d n a15 a16 a5 a6 a8 a9 a10 a13 a14 x2 f21 v22 v23 f6 v7 v8 f9 f10 p11 f12 p13 f14 v15 f16 o7.1 o7.2 o10 hq11) ⟨callB_of 5 htx (xw_goodC kw_4_28) rfl rfl rfl (htx _ kw_1_26) (htx _ kw_4_26) ⟨by decide, by decide, by decide +kernel⟩ ⟨(by show (16 * d + 5) + 1 ≤ 16 * d + 7; omega), (by show 8 + (5 + 11) + (400 * d + 151) ≤ 400 * d + 175; omega)⟩, htx _ kw_4_27⟩ ⟨xPre_blind, (fun U hU hW => ⟨rfl, xPre_of hZ hS hFc hPc hDc hK U hU hW⟩)⟩ rfl rfl hl.1 rfl (lv_room (Nat.le_of_ble_eq_true rfl)) dB_one_58 ⟨Nat.le_of_ble_eq_true rfl, Nat.le_of_ble_eq_true rfl⟩) hS (fun q _ h => hFc q h) hFc (fun r12 u9 t H1 locs ht hvm hr9 hB hz1 hk1 hS => ?_)
      obtain ⟨hP1, hK1, hD1⟩ := hB
      rw [ht] at hP1
      obtain ⟨hP, hD⟩ := xjoin (W := [(a0, .inr (0, [.ref a1, .ref a3, .ref a5, .ref a7, .ref a8, .ref a13, .int v19, .int v20])), (a1, .inr (1, [.ref a2, .int v1, .int v2])), (a2, .inl (cT 0, 4096, .inl f0)), (a3, .inr (1, [.ref a4, .int v4, .int v5])), (a4, .inl (cT 0, 4096, .inl f3)), (a7, .inl (cT 3, 8, .inr (.inr (.inr (.inr rf0))))), (a15, .inr (2, [.ref a16, .int v22, .int v23])), (a16, .inl (cT 2, 4096, .inr (.inl f21))), (a5, .inr (1, [.ref a6, .int o10.2.2.1, .int o10.2.2.2.1])), (a6, .inl (cT 0, 4096, .inl o10.2.1)), (a8, .inr (3, [.ref a9, .ref a10, .ref o10.2.2.2.2.2.2.1, .ref o10.2.2.2.2.2.2.2.2.1, .int o10.2.2.2.2.2.2.2.2.2.1])), (a9, .inl (cT 1, 2048, .inl o10.2.2.2.2.1)), (a10, .inl (cT 1, 2048, .inl f10)), (o10.2.2.2.2.2.2.1, .inl (cT 1, 2048, .inl o10.2.2.2.2.2.1)), (o10.2.2.2.2.2.2.2.2.1, .inl (cT 1, 2048, .inl o10.2.2.2.2.2.2.2.1)), (a13, .inr (2, [.ref a14, .int o10.2.2.2.2.2.2.2.2.2.2.2.1, .int o10.2.2.2.2.2.2.2.2.2.2.2.2])), (a14, .inl (cT 2, 4096, .inr (.inl o10.2.2.2.2.2.2.2.2.2.2.1)))]) hP hD [13, 14, 5, 6, 8, 9, 10, 11, 12, 15, 16] [0, 1, 2, 3, 4, 7] 6 rfl rfl (by decide) (by decide) hk1 hFc hP1 hD1
      generalize H1 = H at hP hS ⊢
      rw [hr9]
      refine W.eq (g2 := F0 m 61 ls [.int o10.1, .ref a0]) rfl ?_
      obtain ⟨o13, hq14, hf⟩ := xbind hf
      by_cases hk15 : o13.1 = 0
      · rw [if_pos hk15] at hf
        obtain ⟨hPc, hDc, hFc⟩ := xcut (wc := [(a0, .inr (0, [.ref a1, .ref a3, .ref a5, .ref a7, .ref a8, .ref a13, .int v19, .int v20])), (a1, .inr (1, [.ref a2, .int v1, .int v2])), (a2, .inl (cT 0, 4096, .inl f0)), (a3, .inr (1, [.ref a4, .int v4, .int v5])), (a4, .inl (cT 0, 4096, .inl f3)), (a5, .inr (1, [.ref a6, .int o10.2.2.1, .int o10.2.2.2.1])), (a6, .inl (cT 0, 4096, .inl o10.2.1)), (a7, .inl (cT 3, 8, .inr (.inr (.inr (.inr rf0))))), (a8, .inr (3, [.ref a9, .ref a10, .ref o10.2.2.2.2.2.2.1, .ref o10.2.2.2.2.2.2.2.2.1, .int o10.2.2.2.2.2.2.2.2.2.1])), (a9, .inl (cT 1, 2048, .inl o10.2.2.2.2.1)), (a10, .inl (cT 1, 2048, .inl f10)), (o10.2.2.2.2.2.2.1, .inl (cT 1, 2048, .inl o10.2.2.2.2.2.1)), (o10.2.2.2.2.2.2.2.2.1, .inl (cT 1, 2048, .inl o10.2.2.2.2.2.2.2.1)), (a13, .inr (2, [.ref a14, .int o10.2.2.2.2.2.2.2.2.2.2.2.1, .int o10.2.2.2.2.2.2.2.2.2.2.2.2])), (a14, .inl (cT 2, 4096, .inr (.inl o10.2.2.2.2.2.2.2.2.2.2.1)))]) hP hD hS hA [0, 1, 2, 3, 4, 8, 9, 5, 10, 11, 12, 13, 14, 15, 16] rfl rfl (by decide)
        refine va_callv (va_runV (C := "ValueBench") (As := [.int o10.1]) (rest := []) ⟨hx, hb, hml, hown, htx⟩ (gB_demandDone l hl9 D cT aK aV H.size n a0 a1 a2 a3 a4 a5 a6 a7 a8 a9 a10 a13 a14 rf0 o10.1 f0 v1 v2 f3 v4 v5 o10.2.1 o10.2.2.1 o10.2.2.2.1 o10.2.2.2.2.1 f10 o10.2.2.2.2.2.2.1 o10.2.2.2.2.2.1 o10.2.2.2.2.2.2.2.2.1 o10.2.2.2.2.2.2.2.1 o10.2.2.2.2.2.2.2.2.2.1 o10.2.2.2.2.2.2.2.2.2.2.1 o10.2.2.2.2.2.2.2.2.2.2.2.1 o10.2.2.2.2.2.2.2.2.2.2.2.2 v19 v20 o13 hq14 hk15) ⟨callB_of 1 htx (xw_goodC kw_3_222) rfl rfl rfl (htx _ kw_1_1) (htx _ kw_3_219) ⟨by decide, by decide, by decide +kernel⟩ ⟨Nat.le_of_ble_eq_true rfl, Nat.le_of_ble_eq_true rfl⟩, (htx _ kw_3_221), (htx _ kp_B_demandDone)⟩ ⟨xPre_blind, va_recv hK hP (ci := 0) rfl (q0 := 0) rfl, (fun U hU hW => ⟨rfl, xPre_of hZ hS hFc hPc hDc hK U hU hW⟩)⟩ rfl rfl hl.1 rfl (lv_room (Nat.le_of_ble_eq_true rfl)) dB_one_61 ⟨Nat.le_of_ble_eq_true rfl, Nat.le_of_ble_eq_true rfl⟩) hS (fun q _ h => hFc q h) hFc (fun u9 t H1 locs ht hvm hr9 hB hz1 hk1 hS => ?_)
        obtain ⟨hP1, hK1, hD1⟩ := hB
        rw [ht] at hP1
        obtain ⟨hP, hD⟩ := xjoin (W := [(a15, .inr (2, [.ref a16, .int v22, .int v23])), (a16, .inl (cT 2, 4096, .inr (.inl f21))), (a0, .inr (0, [.ref a1, .ref a3, .ref a5, .ref a7, .ref a8, .ref a13, .int v19, .int o13.2])), (a1, .inr (1, [.ref a2, .int v1, .int v2])), (a2, .inl (cT 0, 4096, .inl f0)), (a3, .inr (1, [.ref a4, .int v4, .int v5])), (a4, .inl (cT 0, 4096, .inl f3)), (a5, .inr (1, [.ref a6, .int o10.2.2.1, .int o10.2.2.2.1])), (a6, .inl (cT 0, 4096, .inl o10.2.1)), (a7, .inl (cT 3, 8, .inr (.inr (.inr (.inr rf0))))), (a8, .inr (3, [.ref a9, .ref a10, .ref o10.2.2.2.2.2.2.1, .ref o10.2.2.2.2.2.2.2.2.1, .int o10.2.2.2.2.2.2.2.2.2.1])), (a9, .inl (cT 1, 2048, .inl o10.2.2.2.2.1)), (a10, .inl (cT 1, 2048, .inl f10)), (o10.2.2.2.2.2.2.1, .inl (cT 1, 2048, .inl o10.2.2.2.2.2.1)), (o10.2.2.2.2.2.2.2.2.1, .inl (cT 1, 2048, .inl o10.2.2.2.2.2.2.2.1)), (a13, .inr (2, [.ref a14, .int o10.2.2.2.2.2.2.2.2.2.2.2.1, .int o10.2.2.2.2.2.2.2.2.2.2.2.2])), (a14, .inl (cT 2, 4096, .inr (.inl o10.2.2.2.2.2.2.2.2.2.2.1)))]) hP hD [0, 1, 2, 3, 4, 8, 9, 5, 10, 11, 12, 13, 14, 15, 16] [6, 7] 2 rfl rfl (by decide) (by decide) hk1 hFc hP1 hD1
        generalize H1 = H at hP hS ⊢
        refine lv_aload_n hx hb dB_one_64 rfl (lv_at hl 0 rfl) ?_
        refine lv_iload_n hx hb dB_one_65 rfl (lv_at hl 1 rfl) ?_
        obtain ⟨o16, hq17, hf⟩ := xbind hf
        by_cases hk18 : o16.1 = 0
        · rw [if_pos hk18] at hf
          obtain ⟨hPc, hDc, hFc⟩ := xcut (wc := [(a0, .inr (0, [.ref a1, .ref a3, .ref a5, .ref a7, .ref a8, .ref a13, .int v19, .int o13.2])), (a1, .inr (1, [.ref a2, .int v1, .int v2])), (a2, .inl (cT 0, 4096, .inl f0)), (a3, .inr (1, [.ref a4, .int v4, .int v5])), (a4, .inl (cT 0, 4096, .inl f3)), (a5, .inr (1, [.ref a6, .int o10.2.2.1, .int o10.2.2.2.1])), (a6, .inl (cT 0, 4096, .inl o10.2.1)), (a7, .inl (cT 3, 8, .inr (.inr (.inr (.inr rf0))))), (a8, .inr (3, [.ref a9, .ref a10, .ref o10.2.2.2.2.2.2.1, .ref o10.2.2.2.2.2.2.2.2.1, .int o10.2.2.2.2.2.2.2.2.2.1])), (a9, .inl (cT 1, 2048, .inl o10.2.2.2.2.1)), (a10, .inl (cT 1, 2048, .inl f10)), (o10.2.2.2.2.2.2.1, .inl (cT 1, 2048, .inl o10.2.2.2.2.2.1)), (o10.2.2.2.2.2.2.2.2.1, .inl (cT 1, 2048, .inl o10.2.2.2.2.2.2.2.1)), (a13, .inr (2, [.ref a14, .int o10.2.2.2.2.2.2.2.2.2.2.2.1, .int o10.2.2.2.2.2.2.2.2.2.2.2.2])), (a14, .inl (cT 2, 4096, .inr (.inl o10.2.2.2.2.2.2.2.2.2.2.1)))]) hP hD hS hA [2, 3, 4, 5, 6, 7, 8, 9, 10, 11, 12, 13, 14, 15, 16] rfl rfl (by decide)
          refine va_calli (va_runV (C := "ValueBench") (As := [.int x1]) (rest := []) ⟨hx, hb, hml, hown, htx⟩ (gB_keepSpare l hl9 D cT aK aV H.size d n a0 a1 a2 a3 a4 a5 a6 a7 a8 a9 a10 a13 a14 rf0 b1 x1 f0 v1 v2 f3 v4 v5 o10.2.1 o10.2.2.1 o10.2.2.2.1 o10.2.2.2.2.1 f10 o10.2.2.2.2.2.2.1 o10.2.2.2.2.2.1 o10.2.2.2.2.2.2.2.2.1 o10.2.2.2.2.2.2.2.1 o10.2.2.2.2.2.2.2.2.2.1 o10.2.2.2.2.2.2.2.2.2.2.1 o10.2.2.2.2.2.2.2.2.2.2.2.1 o10.2.2.2.2.2.2.2.2.2.2.2.2 v19 o13.2 hr1 o16 hq17 hk18) ⟨callB_of 1 htx (xw_goodC kw_3_17) rfl rfl rfl (htx _ kw_1_1) (htx _ kw_3_14) ⟨by decide, by decide, by decide +kernel⟩ ⟨(by show (16 * d + 6) + 1 ≤ 16 * d + 7; omega), (by show 8 + (3 + 11) + (400 * d + 100) ≤ 400 * d + 175; omega)⟩, (htx _ kw_3_16), (htx _ kp_B_keepSpare)⟩ ⟨xPre_blind, va_recv hK hP (ci := 0) rfl (q0 := 2) rfl, (fun U hU hW => ⟨rfl, xPre_of hZ hS hFc hPc hDc hK U hU hW⟩)⟩ rfl rfl hl.1 rfl (lv_room (Nat.le_of_ble_eq_true rfl)) dB_one_66 ⟨Nat.le_of_ble_eq_true rfl, Nat.le_of_ble_eq_true rfl⟩) hS (fun q _ h => hFc q h) hFc (fun r19 u9 t H1 locs ht hvm hr9 hB hz1 hk1 hS => ?_)
          obtain ⟨hP1, hK1, hD1⟩ := hB
          rw [ht] at hP1
          obtain ⟨hP, hD⟩ := xjoin (W := [(a15, .inr (2, [.ref a16, .int v22, .int v23])), (a16, .inl (cT 2, 4096, .inr (.inl f21))), (a0, .inr (0, [.ref a1, .ref a3, .ref a5, .ref a7, .ref a8, .ref b1, .int v19, .int o13.2])), (a1, .inr (1, [.ref a2, .int v1, .int v2])), (a2, .inl (cT 0, 4096, .inl f0)), (a3, .inr (1, [.ref a4, .int v4, .int v5])), (a4, .inl (cT 0, 4096, .inl f3)), (a5, .inr (1, [.ref a6, .int o16.2.2.2.1, .int o16.2.2.2.2])), (a6, .inl (cT 0, 4096, .inl o16.2.2.1)), (a7, .inl (cT 3, 8, .inr (.inr (.inr (.inr (va_up rf0 x1.toNatClampNeg (some a13))))))), (a8, .inr (3, [.ref a9, .ref a10, .ref o10.2.2.2.2.2.2.1, .ref o10.2.2.2.2.2.2.2.2.1, .int o10.2.2.2.2.2.2.2.2.2.1])), (a9, .inl (cT 1, 2048, .inl o10.2.2.2.2.1)), (a10, .inl (cT 1, 2048, .inl f10)), (o10.2.2.2.2.2.2.1, .inl (cT 1, 2048, .inl o10.2.2.2.2.2.1)), (o10.2.2.2.2.2.2.2.2.1, .inl (cT 1, 2048, .inl o10.2.2.2.2.2.2.2.1)), (a13, .inr (2, [.ref a14, .int o10.2.2.2.2.2.2.2.2.2.2.2.1, .int o10.2.2.2.2.2.2.2.2.2.2.2.2])), (a14, .inl (cT 2, 4096, .inr (.inl o10.2.2.2.2.2.2.2.2.2.2.1)))]) hP hD [2, 3, 4, 5, 6, 7, 8, 9, 10, 11, 12, 13, 14, 15, 16] [0, 1] 2 rfl rfl (by decide) (by decide) hk1 hFc hP1 hD1
          generalize H1 = H at hP hS ⊢
          rw [hr9]
          refine W.eq (g2 := F0 m 69 ls [.int o16.2.1]) rfl ?_
          refine lv_pop hx hb dB_one_69 rfl ?_
          obtain rfl := Option.some.inj hf
          exact absurd (show (0 : Nat) = 2 from hkd) (by decide)
        rw [if_neg hk18] at hf
        by_cases hk20 : o16.1 = 1
        · rw [if_pos hk20] at hf
          obtain rfl := Option.some.inj hf
          exact absurd (show (1 : Nat) = 2 from hkd) (by decide)
        rw [if_neg hk20] at hf
        exact nomatch hf
      rw [if_neg hk15] at hf
      by_cases hk22 : o13.1 = 1
      · rw [if_pos hk22] at hf
        obtain ⟨hPc, hDc, hFc⟩ := xcut (wc := [(a0, .inr (0, [.ref a1, .ref a3, .ref a5, .ref a7, .ref a8, .ref a13, .int v19, .int v20])), (a1, .inr (1, [.ref a2, .int v1, .int v2])), (a2, .inl (cT 0, 4096, .inl f0)), (a3, .inr (1, [.ref a4, .int v4, .int v5])), (a4, .inl (cT 0, 4096, .inl f3)), (a5, .inr (1, [.ref a6, .int o10.2.2.1, .int o10.2.2.2.1])), (a6, .inl (cT 0, 4096, .inl o10.2.1)), (a7, .inl (cT 3, 8, .inr (.inr (.inr (.inr rf0))))), (a8, .inr (3, [.ref a9, .ref a10, .ref o10.2.2.2.2.2.2.1, .ref o10.2.2.2.2.2.2.2.2.1, .int o10.2.2.2.2.2.2.2.2.2.1])), (a9, .inl (cT 1, 2048, .inl o10.2.2.2.2.1)), (a10, .inl (cT 1, 2048, .inl f10)), (o10.2.2.2.2.2.2.1, .inl (cT 1, 2048, .inl o10.2.2.2.2.2.1)), (o10.2.2.2.2.2.2.2.2.1, .inl (cT 1, 2048, .inl o10.2.2.2.2.2.2.2.1)), (a13, .inr (2, [.ref a14, .int o10.2.2.2.2.2.2.2.2.2.2.2.1, .int o10.2.2.2.2.2.2.2.2.2.2.2.2])), (a14, .inl (cT 2, 4096, .inr (.inl o10.2.2.2.2.2.2.2.2.2.2.1)))]) hP hD hS hA [0, 1, 2, 3, 4, 8, 9, 5, 10, 11, 12, 13, 14, 15, 16] rfl rfl (by decide)
        refine xx_thr (vx_runV (C := "ValueBench") (As := [.int o10.1]) (rest := []) ⟨hx, hb, hml, hown, htx⟩ (gB_demandDone_1 l hl9 D cT aK aV H.size n a0 a1 a2 a3 a4 a5 a6 a7 a8 a9 a10 a13 a14 rf0 o10.1 f0 v1 v2 f3 v4 v5 o10.2.1 o10.2.2.1 o10.2.2.2.1 o10.2.2.2.2.1 f10 o10.2.2.2.2.2.2.1 o10.2.2.2.2.2.1 o10.2.2.2.2.2.2.2.2.1 o10.2.2.2.2.2.2.2.1 o10.2.2.2.2.2.2.2.2.2.1 o10.2.2.2.2.2.2.2.2.2.2.1 o10.2.2.2.2.2.2.2.2.2.2.2.1 o10.2.2.2.2.2.2.2.2.2.2.2.2 v19 v20 o13 hq14 hk22) ⟨callB_of 1 htx (xw_goodC kw_3_222) rfl rfl rfl (htx _ kw_1_1) (htx _ kw_3_219) ⟨by decide, by decide, by decide +kernel⟩ ⟨Nat.le_of_ble_eq_true rfl, Nat.le_of_ble_eq_true rfl⟩, (htx _ kw_3_221), (htx _ kp_B_demandDone)⟩ ⟨xPre_blind, va_recv hK hP (ci := 0) rfl (q0 := 0) rfl, (fun U hU hW => ⟨rfl, xPre_of hZ hS hFc hPc hDc hK U hU hW⟩)⟩ rfl rfl hl.1 rfl (lv_room (Nat.le_of_ble_eq_true rfl)) dB_one_61 ⟨Nat.le_of_ble_eq_true rfl, Nat.le_of_ble_eq_true rfl⟩) hS hFc (fun q _ h => hFc q h) (fun E ce q9 u9 t H1 locs ht hvm _ hB hz1 hk1 hS hce hcv hcl => ?_)
        obtain ⟨rfl, hP1, hK1, hD1⟩ := hB
        rw [ht] at hP1
        obtain ⟨hP, hD⟩ := xjoin (W := [(a15, .inr (2, [.ref a16, .int v22, .int v23])), (a16, .inl (cT 2, 4096, .inr (.inl f21))), (a0, .inr (0, [.ref a1, .ref a3, .ref a5, .ref a7, .ref a8, .ref a13, .int v19, .int o13.2])), (a1, .inr (1, [.ref a2, .int v1, .int v2])), (a2, .inl (cT 0, 4096, .inl f0)), (a3, .inr (1, [.ref a4, .int v4, .int v5])), (a4, .inl (cT 0, 4096, .inl f3)), (a5, .inr (1, [.ref a6, .int o10.2.2.1, .int o10.2.2.2.1])), (a6, .inl (cT 0, 4096, .inl o10.2.1)), (a7, .inl (cT 3, 8, .inr (.inr (.inr (.inr rf0))))), (a8, .inr (3, [.ref a9, .ref a10, .ref o10.2.2.2.2.2.2.1, .ref o10.2.2.2.2.2.2.2.2.1, .int o10.2.2.2.2.2.2.2.2.2.1])), (a9, .inl (cT 1, 2048, .inl o10.2.2.2.2.1)), (a10, .inl (cT 1, 2048, .inl f10)), (o10.2.2.2.2.2.2.1, .inl (cT 1, 2048, .inl o10.2.2.2.2.2.1)), (o10.2.2.2.2.2.2.2.2.1, .inl (cT 1, 2048, .inl o10.2.2.2.2.2.2.2.1)), (a13, .inr (2, [.ref a14, .int o10.2.2.2.2.2.2.2.2.2.2.2.1, .int o10.2.2.2.2.2.2.2.2.2.2.2.2])), (a14, .inl (cT 2, 4096, .inr (.inl o10.2.2.2.2.2.2.2.2.2.2.1)))]) hP hD [0, 1, 2, 3, 4, 8, 9, 5, 10, 11, 12, 13, 14, 15, 16] [6, 7] 2 rfl rfl (by decide) (by decide) hk1 hFc hP1 hD1
        generalize H1 = H at hP hS hce ⊢
        obtain rfl := Option.some.inj hf
        obtain ⟨hP9, hD9⟩ := xsub (wc := [(a0, .inr (0, [.ref a1, .ref a3, .ref a5, .ref a7, .ref a8, .ref a13, .int v19, .int o13.2])), (a1, .inr (1, [.ref a2, .int v1, .int v2])), (a2, .inl (cT 0, 4096, .inl f0)), (a3, .inr (1, [.ref a4, .int v4, .int v5])), (a4, .inl (cT 0, 4096, .inl f3)), (a5, .inr (1, [.ref a6, .int o10.2.2.1, .int o10.2.2.2.1])), (a6, .inl (cT 0, 4096, .inl o10.2.1)), (a7, .inl (cT 3, 8, .inr (.inr (.inr (.inr rf0))))), (a8, .inr (3, [.ref a9, .ref a10, .ref o10.2.2.2.2.2.2.1, .ref o10.2.2.2.2.2.2.2.2.1, .int o10.2.2.2.2.2.2.2.2.2.1])), (a9, .inl (cT 1, 2048, .inl o10.2.2.2.2.1)), (a10, .inl (cT 1, 2048, .inl f10)), (o10.2.2.2.2.2.2.1, .inl (cT 1, 2048, .inl o10.2.2.2.2.2.1)), (o10.2.2.2.2.2.2.2.2.1, .inl (cT 1, 2048, .inl o10.2.2.2.2.2.2.2.1)), (a13, .inr (2, [.ref a14, .int o10.2.2.2.2.2.2.2.2.2.2.2.1, .int o10.2.2.2.2.2.2.2.2.2.2.2.2])), (a14, .inl (cT 2, 4096, .inr (.inl o10.2.2.2.2.2.2.2.2.2.2.1))), (a15, .inr (2, [.ref a16, .int v22, .int v23])), (a16, .inl (cT 2, 4096, .inr (.inl f21)))]) hP hD [2, 3, 4, 5, 6, 7, 8, 9, 10, 11, 12, 13, 14, 15, 16, 0, 1] rfl rfl (by decide)
        exact vx_out (E := "java/lang/ArithmeticException") (fun x h => (hne x h).elim) hlocks hce hcv hcl (fun t ht ha => ⟨(), trivial, ⟨rfl, by rw [ht]; exact hP9, va_K.moved ha hK, hD9⟩, hS.F ht⟩) hS.2.2 (Nat.le_of_ble_eq_true rfl) (Nat.le_of_ble_eq_true rfl)
      rw [if_neg hk22] at hf
      exact nomatch hf
    rw [if_neg hk6] at hf
    by_cases hk23 : o4 = 1
    · rw [if_pos hk23] at hf
      obtain rfl := Option.some.inj hf
      exact absurd (show (3 : Nat) = 2 from hkd) (by decide)
    rw [if_neg hk23] at hf
    exact nomatch hf
  · rw [if_neg hc] at hf
    refine lv_iload_n hx hb dB_one_7 rfl (lv_at hl 2 rfl) ?_
    refine lv_bipush (v := 13) hx hb dB_one_8 (by decide) ?_
    obtain ⟨o4, hq5, hf⟩ := xbind hf
    obtain ⟨hPc, hDc, hFc⟩ := xcut (wc := []) hP hD hS hA [] rfl rfl (by decide)
    refine va_calli (va_runS (As := [.int x2, .int 13]) (rest := []) ⟨hx, hb, hml, hown, htx⟩ (gB_isWithin l hl9 D cT aK aV H.size n x2 (13 : Int32) o4 hq5) ⟨callB_of 2 htx (xw_goodC kw_1_218) rfl rfl rfl (htx _ kw_1_1) (htx _ kw_1_216) ⟨by decide, by decide, by decide +kernel⟩ ⟨Nat.le_of_ble_eq_true rfl, Nat.le_of_ble_eq_true rfl⟩, htx _ kw_1_217⟩ ⟨xPre_blind, (fun U hU hW => ⟨rfl, xPre_of hZ hS hFc hPc hDc hK U hU hW⟩)⟩ rfl rfl hl.1 rfl (lv_room (Nat.le_of_ble_eq_true rfl)) dB_one_10 ⟨Nat.le_of_ble_eq_true rfl, Nat.le_of_ble_eq_true rfl⟩) hS (fun q _ h => hFc q h) hFc (fun r6 u9 t H1 locs ht hvm hr9 hB hz1 hk1 hS => ?_)
    obtain ⟨hP1, hK1, hD1⟩ := hB
    rw [ht] at hP1
    obtain ⟨hP, hD⟩ := xjoin (W := [(a0, .inr (0, [.ref a1, .ref a3, .ref a5, .ref a7, .ref a8, .ref a13, .int v19, .int v20])), (a1, .inr (1, [.ref a2, .int v1, .int v2])), (a2, .inl (cT 0, 4096, .inl f0)), (a3, .inr (1, [.ref a4, .int v4, .int v5])), (a4, .inl (cT 0, 4096, .inl f3)), (a5, .inr (1, [.ref a6, .int v7, .int v8])), (a6, .inl (cT 0, 4096, .inl f6)), (a7, .inl (cT 3, 8, .inr (.inr (.inr (.inr rf0))))), (a8, .inr (3, [.ref a9, .ref a10, .ref p11, .ref p13, .int v15])), (a9, .inl (cT 1, 2048, .inl f9)), (a10, .inl (cT 1, 2048, .inl f10)), (p11, .inl (cT 1, 2048, .inl f12)), (p13, .inl (cT 1, 2048, .inl f14)), (a13, .inr (2, [.ref a14, .int v17, .int v18])), (a14, .inl (cT 2, 4096, .inr (.inl f16))), (a15, .inr (2, [.ref a16, .int v22, .int v23])), (a16, .inl (cT 2, 4096, .inr (.inl f21)))]) hP hD [] [0, 1, 2, 3, 4, 5, 6, 7, 8, 9, 10, 11, 12, 13, 14, 15, 16] 17 rfl rfl (by decide) (by decide) hk1 hFc hP1 hD1
    generalize H1 = H at hP hS ⊢
    rw [hr9]
    refine W.eq (g2 := F0 m 13 ls [.int o4]) rfl ?_
    refine lv_if_eq (tgt := 27) hx hb dB_one_13 (by decide) (fun hc => ?_) (fun hc => ?_)
    · rw [if_pos hc] at hf
      refine lv_iconst (v := 0) hx hb dB_one_27 (by decide) ?_
      obtain ⟨o7, hq8, hf⟩ := xbind hf
      by_cases hk9 : o7 = 0
      · rw [if_pos hk9] at hf
        obtain ⟨hPc, hDc, hFc⟩ := xcut (wc := []) hP hD hS hA [] rfl rfl (by decide)
        refine va_callv (va_runS (As := [.int 0]) (rest := []) ⟨hx, hb, hml, hown, htx⟩ (gB_demand l hl9 D cT aK aV H.size n (0 : Int32) o7 hq8 hk9) ⟨callB_of 1 htx (xw_goodC kw_1_221) rfl rfl rfl (htx _ kw_1_1) (htx _ kw_1_219) ⟨by decide, by decide, by decide +kernel⟩ ⟨Nat.le_of_ble_eq_true rfl, Nat.le_of_ble_eq_true rfl⟩, htx _ kw_1_220⟩ ⟨xPre_blind, (fun U hU hW => ⟨rfl, xPre_of hZ hS hFc hPc hDc hK U hU hW⟩)⟩ rfl rfl hl.1 rfl (lv_room (Nat.le_of_ble_eq_true rfl)) dB_one_28 ⟨Nat.le_of_ble_eq_true rfl, Nat.le_of_ble_eq_true rfl⟩) hS (fun q _ h => hFc q h) hFc (fun u9 t H1 locs ht hvm hr9 hB hz1 hk1 hS => ?_)
        obtain ⟨hP1, hK1, hD1⟩ := hB
        rw [ht] at hP1
        obtain ⟨hP, hD⟩ := xjoin (W := [(a0, .inr (0, [.ref a1, .ref a3, .ref a5, .ref a7, .ref a8, .ref a13, .int v19, .int v20])), (a1, .inr (1, [.ref a2, .int v1, .int v2])), (a2, .inl (cT 0, 4096, .inl f0)), (a3, .inr (1, [.ref a4, .int v4, .int v5])), (a4, .inl (cT 0, 4096, .inl f3)), (a5, .inr (1, [.ref a6, .int v7, .int v8])), (a6, .inl (cT 0, 4096, .inl f6)), (a7, .inl (cT 3, 8, .inr (.inr (.inr (.inr rf0))))), (a8, .inr (3, [.ref a9, .ref a10, .ref p11, .ref p13, .int v15])), (a9, .inl (cT 1, 2048, .inl f9)), (a10, .inl (cT 1, 2048, .inl f10)), (p11, .inl (cT 1, 2048, .inl f12)), (p13, .inl (cT 1, 2048, .inl f14)), (a13, .inr (2, [.ref a14, .int v17, .int v18])), (a14, .inl (cT 2, 4096, .inr (.inl f16))), (a15, .inr (2, [.ref a16, .int v22, .int v23])), (a16, .inl (cT 2, 4096, .inr (.inl f21)))]) hP hD [] [0, 1, 2, 3, 4, 5, 6, 7, 8, 9, 10, 11, 12, 13, 14, 15, 16] 17 rfl rfl (by decide) (by decide) hk1 hFc hP1 hD1
        generalize H1 = H at hP hS ⊢
        refine lv_aload_n hx hb dB_one_31 rfl (lv_at hl 0 rfl) ?_
        refine va_get (D := D) (ci := 0) (v := .ref a13) (C := "ValueBench") (T := TB) (N := 8) hx hb htx inB hown hK hP 0 rfl rfl 5 (by decide) (htx _ kw_1_100) (fun _ h9 => h9) rfl dB_one_32 ?_
        obtain ⟨o10, hq11, hf⟩ := xbind hf
        obtain ⟨hPc, hDc, hFc⟩ := xcut (wc := [(a13, .inr (2, [.ref a14, .int v17, .int v18])), (a14, .inl (cT 2, 4096, .inr (.inl f16)))]) hP hD hS hA [13, 14] rfl rfl (by decide)
        refine va_callv (va_runV (C := "ValueBench$Row") (As := []) (rest := []) ⟨hx, hb, hml, hown, htx⟩ (gR_clear l hl9 D cT aK aV H.size n a13 a14 f16 v17 v18 o10 hq11) ⟨callB_of 0 htx (xw_goodC kw_2_22) rfl rfl rfl (htx _ kw_1_4) (htx _ kw_2_19) ⟨by decide, by decide, by decide +kernel⟩ ⟨Nat.le_of_ble_eq_true rfl, Nat.le_of_ble_eq_true rfl⟩, (htx _ kw_2_20), (htx _ kw_2_21)⟩ ⟨xPre_blind, va_recv hK hP (ci := 2) rfl (q0 := 13) rfl, (fun U hU hW => ⟨rfl, xPre_of hZ hS hFc hPc hDc hK U hU hW⟩)⟩ rfl rfl hl.1 rfl (lv_room (Nat.le_of_ble_eq_true rfl)) dB_one_35 ⟨Nat.le_of_ble_eq_true rfl, Nat.le_of_ble_eq_true rfl⟩) hS (fun q _ h => hFc q h) hFc (fun u9 t H1 locs ht hvm hr9 hB hz1 hk1 hS => ?_)
        obtain ⟨hP1, hK1, hD1⟩ := hB
        rw [ht] at hP1
        obtain ⟨hP, hD⟩ := xjoin (W := [(a0, .inr (0, [.ref a1, .ref a3, .ref a5, .ref a7, .ref a8, .ref a13, .int v19, .int v20])), (a1, .inr (1, [.ref a2, .int v1, .int v2])), (a2, .inl (cT 0, 4096, .inl f0)), (a3, .inr (1, [.ref a4, .int v4, .int v5])), (a4, .inl (cT 0, 4096, .inl f3)), (a5, .inr (1, [.ref a6, .int v7, .int v8])), (a6, .inl (cT 0, 4096, .inl f6)), (a7, .inl (cT 3, 8, .inr (.inr (.inr (.inr rf0))))), (a8, .inr (3, [.ref a9, .ref a10, .ref p11, .ref p13, .int v15])), (a9, .inl (cT 1, 2048, .inl f9)), (a10, .inl (cT 1, 2048, .inl f10)), (p11, .inl (cT 1, 2048, .inl f12)), (p13, .inl (cT 1, 2048, .inl f14)), (a15, .inr (2, [.ref a16, .int v22, .int v23])), (a16, .inl (cT 2, 4096, .inr (.inl f21))), (a13, .inr (2, [.ref a14, .int o10.1, .int o10.2])), (a14, .inl (cT 2, 4096, .inr (.inl f16)))]) hP hD [13, 14] [0, 1, 2, 3, 4, 5, 6, 7, 8, 9, 10, 11, 12, 15, 16] 15 rfl rfl (by decide) (by decide) hk1 hFc hP1 hD1
        generalize H1 = H at hP hS ⊢
        refine lv_aload_n hx hb dB_one_38 rfl (lv_at hl 0 rfl) ?_
        refine lv_iload_n hx hb dB_one_39 rfl (lv_at hl 2 rfl) ?_
        refine lv_aload_n hx hb dB_one_40 rfl (lv_at hl 0 rfl) ?_
        refine va_get (D := D) (ci := 0) (v := .ref a7) (C := "ValueBench") (T := TB) (N := 8) hx hb htx inB hown hK hP 0 rfl rfl 3 (by decide) (htx _ kw_1_98) (fun _ h9 => h9) rfl dB_one_41 ?_
        refine lv_iload_n hx hb dB_one_44 rfl (lv_at hl 3 rfl) ?_
        obtain ⟨hg12, hf⟩ := xifn hf
        refine va_aldq hx hb hK hP 7 3 rfl rfl hg12 dB_one_45 ?_
        refine W.eq (g2 := F0 m 46 ls [va_rf (rf0 x3.toNatClampNeg), .int x2, .ref a0]) rfl ?_
        rw [hr3 hg12]
        refine W.eq (g2 := F0 m 46 ls [.ref a15, .int x2, .ref a0]) rfl ?_
        refine lv_aload_n hx hb dB_one_46 rfl (lv_at hl 0 rfl) ?_
        refine va_get (D := D) (ci := 0) (v := .ref a5) (C := "ValueBench") (T := TB) (N := 8) hx hb htx inB hown hK hP 0 rfl rfl 2 (by decide) (htx _ kw_1_97) (fun _ h9 => h9) rfl dB_one_47 ?_
        refine lv_aload_n hx hb dB_one_50 rfl (lv_at hl 0 rfl) ?_
        refine va_get (D := D) (ci := 0) (v := .ref a8) (C := "ValueBench") (T := TB) (N := 8) hx hb htx inB hown hK hP 0 rfl rfl 4 (by decide) (htx _ kw_1_99) (fun _ h9 => h9) rfl dB_one_51 ?_
        refine lv_aload_n hx hb dB_one_54 rfl (lv_at hl 0 rfl) ?_
        refine va_get (D := D) (ci := 0) (v := .ref a13) (C := "ValueBench") (T := TB) (N := 8) hx hb htx inB hown hK hP 0 rfl rfl 5 (by decide) (htx _ kw_1_100) (fun _ h9 => h9) rfl dB_one_55 ?_
        obtain ⟨o13, hq14, hf⟩ := xbind hf
        obtain ⟨hPc, hDc, hFc⟩ := xcut (wc := [(a15, .inr (2, [.ref a16, .int v22, .int v23])), (a16, .inl (cT 2, 4096, .inr (.inl f21))), (a5, .inr (1, [.ref a6, .int v7, .int v8])), (a6, .inl (cT 0, 4096, .inl f6)), (a8, .inr (3, [.ref a9, .ref a10, .ref p11, .ref p13, .int v15])), (a9, .inl (cT 1, 2048, .inl f9)), (a10, .inl (cT 1, 2048, .inl f10)), (p11, .inl (cT 1, 2048, .inl f12)), (p13, .inl (cT 1, 2048, .inl f14)), (a13, .inr (2, [.ref a14, .int o10.1, .int o10.2])), (a14, .inl (cT 2, 4096, .inr (.inl f16)))]) hP hD hS hA [13, 14, 5, 6, 8, 9, 10, 11, 12, 15, 16] rfl rfl (by decide)
        refine va_calli (va_runS (As := [.int x2, .ref a15, .ref a5, .ref a8, .ref a13]) (rest := [.ref a0]) ⟨hx, hb, hml, hown, htx⟩ (gG_apply l hl9 D cT aK aV H.size d n a15 a16 a5 a6 a8 a9 a10 a13 a14 x2 f21 v22 v23 f6 v7 v8 f9 f10 p11 f12 p13 f14 v15 f16 o10.1 o10.2 o13 hq14) ⟨callB_of 5 htx (xw_goodC kw_4_28) rfl rfl rfl (htx _ kw_1_26) (htx _ kw_4_26) ⟨by decide, by decide, by decide +kernel⟩ ⟨(by show (16 * d + 5) + 1 ≤ 16 * d + 7; omega), (by show 8 + (5 + 11) + (400 * d + 151) ≤ 400 * d + 175; omega)⟩, htx _ kw_4_27⟩ ⟨xPre_blind, (fun U hU hW => ⟨rfl, xPre_of hZ hS hFc hPc hDc hK U hU hW⟩)⟩ rfl rfl hl.1 rfl (lv_room (Nat.le_of_ble_eq_true rfl)) dB_one_58 ⟨Nat.le_of_ble_eq_true rfl, Nat.le_of_ble_eq_true rfl⟩) hS (fun q _ h => hFc q h) hFc (fun r15 u9 t H1 locs ht hvm hr9 hB hz1 hk1 hS => ?_)
        obtain ⟨hP1, hK1, hD1⟩ := hB
        rw [ht] at hP1
        obtain ⟨hP, hD⟩ := xjoin (W := [(a0, .inr (0, [.ref a1, .ref a3, .ref a5, .ref a7, .ref a8, .ref a13, .int v19, .int v20])), (a1, .inr (1, [.ref a2, .int v1, .int v2])), (a2, .inl (cT 0, 4096, .inl f0)), (a3, .inr (1, [.ref a4, .int v4, .int v5])), (a4, .inl (cT 0, 4096, .inl f3)), (a7, .inl (cT 3, 8, .inr (.inr (.inr (.inr rf0))))), (a15, .inr (2, [.ref a16, .int v22, .int v23])), (a16, .inl (cT 2, 4096, .inr (.inl f21))), (a5, .inr (1, [.ref a6, .int o13.2.2.1, .int o13.2.2.2.1])), (a6, .inl (cT 0, 4096, .inl o13.2.1)), (a8, .inr (3, [.ref a9, .ref a10, .ref o13.2.2.2.2.2.2.1, .ref o13.2.2.2.2.2.2.2.2.1, .int o13.2.2.2.2.2.2.2.2.2.1])), (a9, .inl (cT 1, 2048, .inl o13.2.2.2.2.1)), (a10, .inl (cT 1, 2048, .inl f10)), (o13.2.2.2.2.2.2.1, .inl (cT 1, 2048, .inl o13.2.2.2.2.2.1)), (o13.2.2.2.2.2.2.2.2.1, .inl (cT 1, 2048, .inl o13.2.2.2.2.2.2.2.1)), (a13, .inr (2, [.ref a14, .int o13.2.2.2.2.2.2.2.2.2.2.2.1, .int o13.2.2.2.2.2.2.2.2.2.2.2.2])), (a14, .inl (cT 2, 4096, .inr (.inl o13.2.2.2.2.2.2.2.2.2.2.1)))]) hP hD [13, 14, 5, 6, 8, 9, 10, 11, 12, 15, 16] [0, 1, 2, 3, 4, 7] 6 rfl rfl (by decide) (by decide) hk1 hFc hP1 hD1
        generalize H1 = H at hP hS ⊢
        rw [hr9]
        refine W.eq (g2 := F0 m 61 ls [.int o13.1, .ref a0]) rfl ?_
        obtain ⟨o16, hq17, hf⟩ := xbind hf
        by_cases hk18 : o16.1 = 0
        · rw [if_pos hk18] at hf
          obtain ⟨hPc, hDc, hFc⟩ := xcut (wc := [(a0, .inr (0, [.ref a1, .ref a3, .ref a5, .ref a7, .ref a8, .ref a13, .int v19, .int v20])), (a1, .inr (1, [.ref a2, .int v1, .int v2])), (a2, .inl (cT 0, 4096, .inl f0)), (a3, .inr (1, [.ref a4, .int v4, .int v5])), (a4, .inl (cT 0, 4096, .inl f3)), (a5, .inr (1, [.ref a6, .int o13.2.2.1, .int o13.2.2.2.1])), (a6, .inl (cT 0, 4096, .inl o13.2.1)), (a7, .inl (cT 3, 8, .inr (.inr (.inr (.inr rf0))))), (a8, .inr (3, [.ref a9, .ref a10, .ref o13.2.2.2.2.2.2.1, .ref o13.2.2.2.2.2.2.2.2.1, .int o13.2.2.2.2.2.2.2.2.2.1])), (a9, .inl (cT 1, 2048, .inl o13.2.2.2.2.1)), (a10, .inl (cT 1, 2048, .inl f10)), (o13.2.2.2.2.2.2.1, .inl (cT 1, 2048, .inl o13.2.2.2.2.2.1)), (o13.2.2.2.2.2.2.2.2.1, .inl (cT 1, 2048, .inl o13.2.2.2.2.2.2.2.1)), (a13, .inr (2, [.ref a14, .int o13.2.2.2.2.2.2.2.2.2.2.2.1, .int o13.2.2.2.2.2.2.2.2.2.2.2.2])), (a14, .inl (cT 2, 4096, .inr (.inl o13.2.2.2.2.2.2.2.2.2.2.1)))]) hP hD hS hA [0, 1, 2, 3, 4, 8, 9, 5, 10, 11, 12, 13, 14, 15, 16] rfl rfl (by decide)
          refine va_callv (va_runV (C := "ValueBench") (As := [.int o13.1]) (rest := []) ⟨hx, hb, hml, hown, htx⟩ (gB_demandDone l hl9 D cT aK aV H.size n a0 a1 a2 a3 a4 a5 a6 a7 a8 a9 a10 a13 a14 rf0 o13.1 f0 v1 v2 f3 v4 v5 o13.2.1 o13.2.2.1 o13.2.2.2.1 o13.2.2.2.2.1 f10 o13.2.2.2.2.2.2.1 o13.2.2.2.2.2.1 o13.2.2.2.2.2.2.2.2.1 o13.2.2.2.2.2.2.2.1 o13.2.2.2.2.2.2.2.2.2.1 o13.2.2.2.2.2.2.2.2.2.2.1 o13.2.2.2.2.2.2.2.2.2.2.2.1 o13.2.2.2.2.2.2.2.2.2.2.2.2 v19 v20 o16 hq17 hk18) ⟨callB_of 1 htx (xw_goodC kw_3_222) rfl rfl rfl (htx _ kw_1_1) (htx _ kw_3_219) ⟨by decide, by decide, by decide +kernel⟩ ⟨Nat.le_of_ble_eq_true rfl, Nat.le_of_ble_eq_true rfl⟩, (htx _ kw_3_221), (htx _ kp_B_demandDone)⟩ ⟨xPre_blind, va_recv hK hP (ci := 0) rfl (q0 := 0) rfl, (fun U hU hW => ⟨rfl, xPre_of hZ hS hFc hPc hDc hK U hU hW⟩)⟩ rfl rfl hl.1 rfl (lv_room (Nat.le_of_ble_eq_true rfl)) dB_one_61 ⟨Nat.le_of_ble_eq_true rfl, Nat.le_of_ble_eq_true rfl⟩) hS (fun q _ h => hFc q h) hFc (fun u9 t H1 locs ht hvm hr9 hB hz1 hk1 hS => ?_)
          obtain ⟨hP1, hK1, hD1⟩ := hB
          rw [ht] at hP1
          obtain ⟨hP, hD⟩ := xjoin (W := [(a15, .inr (2, [.ref a16, .int v22, .int v23])), (a16, .inl (cT 2, 4096, .inr (.inl f21))), (a0, .inr (0, [.ref a1, .ref a3, .ref a5, .ref a7, .ref a8, .ref a13, .int v19, .int o16.2])), (a1, .inr (1, [.ref a2, .int v1, .int v2])), (a2, .inl (cT 0, 4096, .inl f0)), (a3, .inr (1, [.ref a4, .int v4, .int v5])), (a4, .inl (cT 0, 4096, .inl f3)), (a5, .inr (1, [.ref a6, .int o13.2.2.1, .int o13.2.2.2.1])), (a6, .inl (cT 0, 4096, .inl o13.2.1)), (a7, .inl (cT 3, 8, .inr (.inr (.inr (.inr rf0))))), (a8, .inr (3, [.ref a9, .ref a10, .ref o13.2.2.2.2.2.2.1, .ref o13.2.2.2.2.2.2.2.2.1, .int o13.2.2.2.2.2.2.2.2.2.1])), (a9, .inl (cT 1, 2048, .inl o13.2.2.2.2.1)), (a10, .inl (cT 1, 2048, .inl f10)), (o13.2.2.2.2.2.2.1, .inl (cT 1, 2048, .inl o13.2.2.2.2.2.1)), (o13.2.2.2.2.2.2.2.2.1, .inl (cT 1, 2048, .inl o13.2.2.2.2.2.2.2.1)), (a13, .inr (2, [.ref a14, .int o13.2.2.2.2.2.2.2.2.2.2.2.1, .int o13.2.2.2.2.2.2.2.2.2.2.2.2])), (a14, .inl (cT 2, 4096, .inr (.inl o13.2.2.2.2.2.2.2.2.2.2.1)))]) hP hD [0, 1, 2, 3, 4, 8, 9, 5, 10, 11, 12, 13, 14, 15, 16] [6, 7] 2 rfl rfl (by decide) (by decide) hk1 hFc hP1 hD1
          generalize H1 = H at hP hS ⊢
          refine lv_aload_n hx hb dB_one_64 rfl (lv_at hl 0 rfl) ?_
          refine lv_iload_n hx hb dB_one_65 rfl (lv_at hl 1 rfl) ?_
          obtain ⟨o19, hq20, hf⟩ := xbind hf
          by_cases hk21 : o19.1 = 0
          · rw [if_pos hk21] at hf
            obtain ⟨hPc, hDc, hFc⟩ := xcut (wc := [(a0, .inr (0, [.ref a1, .ref a3, .ref a5, .ref a7, .ref a8, .ref a13, .int v19, .int o16.2])), (a1, .inr (1, [.ref a2, .int v1, .int v2])), (a2, .inl (cT 0, 4096, .inl f0)), (a3, .inr (1, [.ref a4, .int v4, .int v5])), (a4, .inl (cT 0, 4096, .inl f3)), (a5, .inr (1, [.ref a6, .int o13.2.2.1, .int o13.2.2.2.1])), (a6, .inl (cT 0, 4096, .inl o13.2.1)), (a7, .inl (cT 3, 8, .inr (.inr (.inr (.inr rf0))))), (a8, .inr (3, [.ref a9, .ref a10, .ref o13.2.2.2.2.2.2.1, .ref o13.2.2.2.2.2.2.2.2.1, .int o13.2.2.2.2.2.2.2.2.2.1])), (a9, .inl (cT 1, 2048, .inl o13.2.2.2.2.1)), (a10, .inl (cT 1, 2048, .inl f10)), (o13.2.2.2.2.2.2.1, .inl (cT 1, 2048, .inl o13.2.2.2.2.2.1)), (o13.2.2.2.2.2.2.2.2.1, .inl (cT 1, 2048, .inl o13.2.2.2.2.2.2.2.1)), (a13, .inr (2, [.ref a14, .int o13.2.2.2.2.2.2.2.2.2.2.2.1, .int o13.2.2.2.2.2.2.2.2.2.2.2.2])), (a14, .inl (cT 2, 4096, .inr (.inl o13.2.2.2.2.2.2.2.2.2.2.1)))]) hP hD hS hA [2, 3, 4, 5, 6, 7, 8, 9, 10, 11, 12, 13, 14, 15, 16] rfl rfl (by decide)
            refine va_calli (va_runV (C := "ValueBench") (As := [.int x1]) (rest := []) ⟨hx, hb, hml, hown, htx⟩ (gB_keepSpare l hl9 D cT aK aV H.size d n a0 a1 a2 a3 a4 a5 a6 a7 a8 a9 a10 a13 a14 rf0 b1 x1 f0 v1 v2 f3 v4 v5 o13.2.1 o13.2.2.1 o13.2.2.2.1 o13.2.2.2.2.1 f10 o13.2.2.2.2.2.2.1 o13.2.2.2.2.2.1 o13.2.2.2.2.2.2.2.2.1 o13.2.2.2.2.2.2.2.1 o13.2.2.2.2.2.2.2.2.2.1 o13.2.2.2.2.2.2.2.2.2.2.1 o13.2.2.2.2.2.2.2.2.2.2.2.1 o13.2.2.2.2.2.2.2.2.2.2.2.2 v19 o16.2 hr1 o19 hq20 hk21) ⟨callB_of 1 htx (xw_goodC kw_3_17) rfl rfl rfl (htx _ kw_1_1) (htx _ kw_3_14) ⟨by decide, by decide, by decide +kernel⟩ ⟨(by show (16 * d + 6) + 1 ≤ 16 * d + 7; omega), (by show 8 + (3 + 11) + (400 * d + 100) ≤ 400 * d + 175; omega)⟩, (htx _ kw_3_16), (htx _ kp_B_keepSpare)⟩ ⟨xPre_blind, va_recv hK hP (ci := 0) rfl (q0 := 2) rfl, (fun U hU hW => ⟨rfl, xPre_of hZ hS hFc hPc hDc hK U hU hW⟩)⟩ rfl rfl hl.1 rfl (lv_room (Nat.le_of_ble_eq_true rfl)) dB_one_66 ⟨Nat.le_of_ble_eq_true rfl, Nat.le_of_ble_eq_true rfl⟩) hS (fun q _ h => hFc q h) hFc (fun r22 u9 t H1 locs ht hvm hr9 hB hz1 hk1 hS => ?_)
            obtain ⟨hP1, hK1, hD1⟩ := hB
            rw [ht] at hP1
            obtain ⟨hP, hD⟩ := xjoin (W := [(a15, .inr (2, [.ref a16, .int v22, .int v23])), (a16, .inl (cT 2, 4096, .inr (.inl f21))), (a0, .inr (0, [.ref a1, .ref a3, .ref a5, .ref a7, .ref a8, .ref b1, .int v19, .int o16.2])), (a1, .inr (1, [.ref a2, .int v1, .int v2])), (a2, .inl (cT 0, 4096, .inl f0)), (a3, .inr (1, [.ref a4, .int v4, .int v5])), (a4, .inl (cT 0, 4096, .inl f3)), (a5, .inr (1, [.ref a6, .int o19.2.2.2.1, .int o19.2.2.2.2])), (a6, .inl (cT 0, 4096, .inl o19.2.2.1)), (a7, .inl (cT 3, 8, .inr (.inr (.inr (.inr (va_up rf0 x1.toNatClampNeg (some a13))))))), (a8, .inr (3, [.ref a9, .ref a10, .ref o13.2.2.2.2.2.2.1, .ref o13.2.2.2.2.2.2.2.2.1, .int o13.2.2.2.2.2.2.2.2.2.1])), (a9, .inl (cT 1, 2048, .inl o13.2.2.2.2.1)), (a10, .inl (cT 1, 2048, .inl f10)), (o13.2.2.2.2.2.2.1, .inl (cT 1, 2048, .inl o13.2.2.2.2.2.1)), (o13.2.2.2.2.2.2.2.2.1, .inl (cT 1, 2048, .inl o13.2.2.2.2.2.2.2.1)), (a13, .inr (2, [.ref a14, .int o13.2.2.2.2.2.2.2.2.2.2.2.1, .int o13.2.2.2.2.2.2.2.2.2.2.2.2])), (a14, .inl (cT 2, 4096, .inr (.inl o13.2.2.2.2.2.2.2.2.2.2.1)))]) hP hD [2, 3, 4, 5, 6, 7, 8, 9, 10, 11, 12, 13, 14, 15, 16] [0, 1] 2 rfl rfl (by decide) (by decide) hk1 hFc hP1 hD1
            generalize H1 = H at hP hS ⊢
            rw [hr9]
            refine W.eq (g2 := F0 m 69 ls [.int o19.2.1]) rfl ?_
            refine lv_pop hx hb dB_one_69 rfl ?_
            obtain rfl := Option.some.inj hf
            exact absurd (show (0 : Nat) = 2 from hkd) (by decide)
          rw [if_neg hk21] at hf
          by_cases hk23 : o19.1 = 1
          · rw [if_pos hk23] at hf
            obtain rfl := Option.some.inj hf
            exact absurd (show (1 : Nat) = 2 from hkd) (by decide)
          rw [if_neg hk23] at hf
          exact nomatch hf
        rw [if_neg hk18] at hf
        by_cases hk25 : o16.1 = 1
        · rw [if_pos hk25] at hf
          obtain ⟨hPc, hDc, hFc⟩ := xcut (wc := [(a0, .inr (0, [.ref a1, .ref a3, .ref a5, .ref a7, .ref a8, .ref a13, .int v19, .int v20])), (a1, .inr (1, [.ref a2, .int v1, .int v2])), (a2, .inl (cT 0, 4096, .inl f0)), (a3, .inr (1, [.ref a4, .int v4, .int v5])), (a4, .inl (cT 0, 4096, .inl f3)), (a5, .inr (1, [.ref a6, .int o13.2.2.1, .int o13.2.2.2.1])), (a6, .inl (cT 0, 4096, .inl o13.2.1)), (a7, .inl (cT 3, 8, .inr (.inr (.inr (.inr rf0))))), (a8, .inr (3, [.ref a9, .ref a10, .ref o13.2.2.2.2.2.2.1, .ref o13.2.2.2.2.2.2.2.2.1, .int o13.2.2.2.2.2.2.2.2.2.1])), (a9, .inl (cT 1, 2048, .inl o13.2.2.2.2.1)), (a10, .inl (cT 1, 2048, .inl f10)), (o13.2.2.2.2.2.2.1, .inl (cT 1, 2048, .inl o13.2.2.2.2.2.1)), (o13.2.2.2.2.2.2.2.2.1, .inl (cT 1, 2048, .inl o13.2.2.2.2.2.2.2.1)), (a13, .inr (2, [.ref a14, .int o13.2.2.2.2.2.2.2.2.2.2.2.1, .int o13.2.2.2.2.2.2.2.2.2.2.2.2])), (a14, .inl (cT 2, 4096, .inr (.inl o13.2.2.2.2.2.2.2.2.2.2.1)))]) hP hD hS hA [0, 1, 2, 3, 4, 8, 9, 5, 10, 11, 12, 13, 14, 15, 16] rfl rfl (by decide)
          refine xx_thr (vx_runV (C := "ValueBench") (As := [.int o13.1]) (rest := []) ⟨hx, hb, hml, hown, htx⟩ (gB_demandDone_1 l hl9 D cT aK aV H.size n a0 a1 a2 a3 a4 a5 a6 a7 a8 a9 a10 a13 a14 rf0 o13.1 f0 v1 v2 f3 v4 v5 o13.2.1 o13.2.2.1 o13.2.2.2.1 o13.2.2.2.2.1 f10 o13.2.2.2.2.2.2.1 o13.2.2.2.2.2.1 o13.2.2.2.2.2.2.2.2.1 o13.2.2.2.2.2.2.2.1 o13.2.2.2.2.2.2.2.2.2.1 o13.2.2.2.2.2.2.2.2.2.2.1 o13.2.2.2.2.2.2.2.2.2.2.2.1 o13.2.2.2.2.2.2.2.2.2.2.2.2 v19 v20 o16 hq17 hk25) ⟨callB_of 1 htx (xw_goodC kw_3_222) rfl rfl rfl (htx _ kw_1_1) (htx _ kw_3_219) ⟨by decide, by decide, by decide +kernel⟩ ⟨Nat.le_of_ble_eq_true rfl, Nat.le_of_ble_eq_true rfl⟩, (htx _ kw_3_221), (htx _ kp_B_demandDone)⟩ ⟨xPre_blind, va_recv hK hP (ci := 0) rfl (q0 := 0) rfl, (fun U hU hW => ⟨rfl, xPre_of hZ hS hFc hPc hDc hK U hU hW⟩)⟩ rfl rfl hl.1 rfl (lv_room (Nat.le_of_ble_eq_true rfl)) dB_one_61 ⟨Nat.le_of_ble_eq_true rfl, Nat.le_of_ble_eq_true rfl⟩) hS hFc (fun q _ h => hFc q h) (fun E ce q9 u9 t H1 locs ht hvm _ hB hz1 hk1 hS hce hcv hcl => ?_)
          obtain ⟨rfl, hP1, hK1, hD1⟩ := hB
          rw [ht] at hP1
          obtain ⟨hP, hD⟩ := xjoin (W := [(a15, .inr (2, [.ref a16, .int v22, .int v23])), (a16, .inl (cT 2, 4096, .inr (.inl f21))), (a0, .inr (0, [.ref a1, .ref a3, .ref a5, .ref a7, .ref a8, .ref a13, .int v19, .int o16.2])), (a1, .inr (1, [.ref a2, .int v1, .int v2])), (a2, .inl (cT 0, 4096, .inl f0)), (a3, .inr (1, [.ref a4, .int v4, .int v5])), (a4, .inl (cT 0, 4096, .inl f3)), (a5, .inr (1, [.ref a6, .int o13.2.2.1, .int o13.2.2.2.1])), (a6, .inl (cT 0, 4096, .inl o13.2.1)), (a7, .inl (cT 3, 8, .inr (.inr (.inr (.inr rf0))))), (a8, .inr (3, [.ref a9, .ref a10, .ref o13.2.2.2.2.2.2.1, .ref o13.2.2.2.2.2.2.2.2.1, .int o13.2.2.2.2.2.2.2.2.2.1])), (a9, .inl (cT 1, 2048, .inl o13.2.2.2.2.1)), (a10, .inl (cT 1, 2048, .inl f10)), (o13.2.2.2.2.2.2.1, .inl (cT 1, 2048, .inl o13.2.2.2.2.2.1)), (o13.2.2.2.2.2.2.2.2.1, .inl (cT 1, 2048, .inl o13.2.2.2.2.2.2.2.1)), (a13, .inr (2, [.ref a14, .int o13.2.2.2.2.2.2.2.2.2.2.2.1, .int o13.2.2.2.2.2.2.2.2.2.2.2.2])), (a14, .inl (cT 2, 4096, .inr (.inl o13.2.2.2.2.2.2.2.2.2.2.1)))]) hP hD [0, 1, 2, 3, 4, 8, 9, 5, 10, 11, 12, 13, 14, 15, 16] [6, 7] 2 rfl rfl (by decide) (by decide) hk1 hFc hP1 hD1
          generalize H1 = H at hP hS hce ⊢
          obtain rfl := Option.some.inj hf
          obtain ⟨hP9, hD9⟩ := xsub (wc := [(a0, .inr (0, [.ref a1, .ref a3, .ref a5, .ref a7, .ref a8, .ref a13, .int v19, .int o16.2])), (a1, .inr (1, [.ref a2, .int v1, .int v2])), (a2, .inl (cT 0, 4096, .inl f0)), (a3, .inr (1, [.ref a4, .int v4, .int v5])), (a4, .inl (cT 0, 4096, .inl f3)), (a5, .inr (1, [.ref a6, .int o13.2.2.1, .int o13.2.2.2.1])), (a6, .inl (cT 0, 4096, .inl o13.2.1)), (a7, .inl (cT 3, 8, .inr (.inr (.inr (.inr rf0))))), (a8, .inr (3, [.ref a9, .ref a10, .ref o13.2.2.2.2.2.2.1, .ref o13.2.2.2.2.2.2.2.2.1, .int o13.2.2.2.2.2.2.2.2.2.1])), (a9, .inl (cT 1, 2048, .inl o13.2.2.2.2.1)), (a10, .inl (cT 1, 2048, .inl f10)), (o13.2.2.2.2.2.2.1, .inl (cT 1, 2048, .inl o13.2.2.2.2.2.1)), (o13.2.2.2.2.2.2.2.2.1, .inl (cT 1, 2048, .inl o13.2.2.2.2.2.2.2.1)), (a13, .inr (2, [.ref a14, .int o13.2.2.2.2.2.2.2.2.2.2.2.1, .int o13.2.2.2.2.2.2.2.2.2.2.2.2])), (a14, .inl (cT 2, 4096, .inr (.inl o13.2.2.2.2.2.2.2.2.2.2.1))), (a15, .inr (2, [.ref a16, .int v22, .int v23])), (a16, .inl (cT 2, 4096, .inr (.inl f21)))]) hP hD [2, 3, 4, 5, 6, 7, 8, 9, 10, 11, 12, 13, 14, 15, 16, 0, 1] rfl rfl (by decide)
          exact vx_out (E := "java/lang/ArithmeticException") (fun x h => (hne x h).elim) hlocks hce hcv hcl (fun t ht ha => ⟨(), trivial, ⟨rfl, by rw [ht]; exact hP9, va_K.moved ha hK, hD9⟩, hS.F ht⟩) hS.2.2 (Nat.le_of_ble_eq_true rfl) (Nat.le_of_ble_eq_true rfl)
        rw [if_neg hk25] at hf
        exact nomatch hf
      rw [if_neg hk9] at hf
      by_cases hk26 : o7 = 1
      · rw [if_pos hk26] at hf
        obtain rfl := Option.some.inj hf
        exact absurd (show (3 : Nat) = 2 from hkd) (by decide)
      rw [if_neg hk26] at hf
      exact nomatch hf
    · rw [if_neg hc] at hf
      refine lv_iload_n hx hb dB_one_16 rfl (lv_at hl 3 rfl) ?_
      obtain ⟨o7, hq8, hf⟩ := xbind hf
      obtain ⟨hPc, hDc, hFc⟩ := xcut (wc := []) hP hD hS hA [] rfl rfl (by decide)
      refine va_calli (va_runS (As := [.int x3]) (rest := []) ⟨hx, hb, hml, hown, htx⟩ (gB_isRegister l hl9 D cT aK aV H.size n x3 o7 hq8) ⟨callB_of 1 htx (xw_goodC kw_2_18) rfl rfl rfl (htx _ kw_1_1) (htx _ kw_2_16) ⟨by decide, by decide, by decide +kernel⟩ ⟨Nat.le_of_ble_eq_true rfl, Nat.le_of_ble_eq_true rfl⟩, htx _ kw_2_17⟩ ⟨xPre_blind, (fun U hU hW => ⟨rfl, xPre_of hZ hS hFc hPc hDc hK U hU hW⟩)⟩ rfl rfl hl.1 rfl (lv_room (Nat.le_of_ble_eq_true rfl)) dB_one_17 ⟨Nat.le_of_ble_eq_true rfl, Nat.le_of_ble_eq_true rfl⟩) hS (fun q _ h => hFc q h) hFc (fun r9 u9 t H1 locs ht hvm hr9 hB hz1 hk1 hS => ?_)
      obtain ⟨hP1, hK1, hD1⟩ := hB
      rw [ht] at hP1
      obtain ⟨hP, hD⟩ := xjoin (W := [(a0, .inr (0, [.ref a1, .ref a3, .ref a5, .ref a7, .ref a8, .ref a13, .int v19, .int v20])), (a1, .inr (1, [.ref a2, .int v1, .int v2])), (a2, .inl (cT 0, 4096, .inl f0)), (a3, .inr (1, [.ref a4, .int v4, .int v5])), (a4, .inl (cT 0, 4096, .inl f3)), (a5, .inr (1, [.ref a6, .int v7, .int v8])), (a6, .inl (cT 0, 4096, .inl f6)), (a7, .inl (cT 3, 8, .inr (.inr (.inr (.inr rf0))))), (a8, .inr (3, [.ref a9, .ref a10, .ref p11, .ref p13, .int v15])), (a9, .inl (cT 1, 2048, .inl f9)), (a10, .inl (cT 1, 2048, .inl f10)), (p11, .inl (cT 1, 2048, .inl f12)), (p13, .inl (cT 1, 2048, .inl f14)), (a13, .inr (2, [.ref a14, .int v17, .int v18])), (a14, .inl (cT 2, 4096, .inr (.inl f16))), (a15, .inr (2, [.ref a16, .int v22, .int v23])), (a16, .inl (cT 2, 4096, .inr (.inl f21)))]) hP hD [] [0, 1, 2, 3, 4, 5, 6, 7, 8, 9, 10, 11, 12, 13, 14, 15, 16] 17 rfl rfl (by decide) (by decide) hk1 hFc hP1 hD1
      generalize H1 = H at hP hS ⊢
      rw [hr9]
      refine W.eq (g2 := F0 m 20 ls [.int o7]) rfl ?_
      refine lv_if_eq (tgt := 27) hx hb dB_one_20 (by decide) (fun hc => ?_) (fun hc => ?_)
      · rw [if_pos hc] at hf
        refine lv_iconst (v := 0) hx hb dB_one_27 (by decide) ?_
        obtain ⟨o10, hq11, hf⟩ := xbind hf
        by_cases hk12 : o10 = 0
        · rw [if_pos hk12] at hf
          obtain ⟨hPc, hDc, hFc⟩ := xcut (wc := []) hP hD hS hA [] rfl rfl (by decide)
          refine va_callv (va_runS (As := [.int 0]) (rest := []) ⟨hx, hb, hml, hown, htx⟩ (gB_demand l hl9 D cT aK aV H.size n (0 : Int32) o10 hq11 hk12) ⟨callB_of 1 htx (xw_goodC kw_1_221) rfl rfl rfl (htx _ kw_1_1) (htx _ kw_1_219) ⟨by decide, by decide, by decide +kernel⟩ ⟨Nat.le_of_ble_eq_true rfl, Nat.le_of_ble_eq_true rfl⟩, htx _ kw_1_220⟩ ⟨xPre_blind, (fun U hU hW => ⟨rfl, xPre_of hZ hS hFc hPc hDc hK U hU hW⟩)⟩ rfl rfl hl.1 rfl (lv_room (Nat.le_of_ble_eq_true rfl)) dB_one_28 ⟨Nat.le_of_ble_eq_true rfl, Nat.le_of_ble_eq_true rfl⟩) hS (fun q _ h => hFc q h) hFc (fun u9 t H1 locs ht hvm hr9 hB hz1 hk1 hS => ?_)
          obtain ⟨hP1, hK1, hD1⟩ := hB
          rw [ht] at hP1
          obtain ⟨hP, hD⟩ := xjoin (W := [(a0, .inr (0, [.ref a1, .ref a3, .ref a5, .ref a7, .ref a8, .ref a13, .int v19, .int v20])), (a1, .inr (1, [.ref a2, .int v1, .int v2])), (a2, .inl (cT 0, 4096, .inl f0)), (a3, .inr (1, [.ref a4, .int v4, .int v5])), (a4, .inl (cT 0, 4096, .inl f3)), (a5, .inr (1, [.ref a6, .int v7, .int v8])), (a6, .inl (cT 0, 4096, .inl f6)), (a7, .inl (cT 3, 8, .inr (.inr (.inr (.inr rf0))))), (a8, .inr (3, [.ref a9, .ref a10, .ref p11, .ref p13, .int v15])), (a9, .inl (cT 1, 2048, .inl f9)), (a10, .inl (cT 1, 2048, .inl f10)), (p11, .inl (cT 1, 2048, .inl f12)), (p13, .inl (cT 1, 2048, .inl f14)), (a13, .inr (2, [.ref a14, .int v17, .int v18])), (a14, .inl (cT 2, 4096, .inr (.inl f16))), (a15, .inr (2, [.ref a16, .int v22, .int v23])), (a16, .inl (cT 2, 4096, .inr (.inl f21)))]) hP hD [] [0, 1, 2, 3, 4, 5, 6, 7, 8, 9, 10, 11, 12, 13, 14, 15, 16] 17 rfl rfl (by decide) (by decide) hk1 hFc hP1 hD1
          generalize H1 = H at hP hS ⊢
          refine lv_aload_n hx hb dB_one_31 rfl (lv_at hl 0 rfl) ?_
          refine va_get (D := D) (ci := 0) (v := .ref a13) (C := "ValueBench") (T := TB) (N := 8) hx hb htx inB hown hK hP 0 rfl rfl 5 (by decide) (htx _ kw_1_100) (fun _ h9 => h9) rfl dB_one_32 ?_
          obtain ⟨o13, hq14, hf⟩ := xbind hf
          obtain ⟨hPc, hDc, hFc⟩ := xcut (wc := [(a13, .inr (2, [.ref a14, .int v17, .int v18])), (a14, .inl (cT 2, 4096, .inr (.inl f16)))]) hP hD hS hA [13, 14] rfl rfl (by decide)
          refine va_callv (va_runV (C := "ValueBench$Row") (As := []) (rest := []) ⟨hx, hb, hml, hown, htx⟩ (gR_clear l hl9 D cT aK aV H.size n a13 a14 f16 v17 v18 o13 hq14) ⟨callB_of 0 htx (xw_goodC kw_2_22) rfl rfl rfl (htx _ kw_1_4) (htx _ kw_2_19) ⟨by decide, by decide, by decide +kernel⟩ ⟨Nat.le_of_ble_eq_true rfl, Nat.le_of_ble_eq_true rfl⟩, (htx _ kw_2_20), (htx _ kw_2_21)⟩ ⟨xPre_blind, va_recv hK hP (ci := 2) rfl (q0 := 13) rfl, (fun U hU hW => ⟨rfl, xPre_of hZ hS hFc hPc hDc hK U hU hW⟩)⟩ rfl rfl hl.1 rfl (lv_room (Nat.le_of_ble_eq_true rfl)) dB_one_35 ⟨Nat.le_of_ble_eq_true rfl, Nat.le_of_ble_eq_true rfl⟩) hS (fun q _ h => hFc q h) hFc (fun u9 t H1 locs ht hvm hr9 hB hz1 hk1 hS => ?_)
          obtain ⟨hP1, hK1, hD1⟩ := hB
          rw [ht] at hP1
          obtain ⟨hP, hD⟩ := xjoin (W := [(a0, .inr (0, [.ref a1, .ref a3, .ref a5, .ref a7, .ref a8, .ref a13, .int v19, .int v20])), (a1, .inr (1, [.ref a2, .int v1, .int v2])), (a2, .inl (cT 0, 4096, .inl f0)), (a3, .inr (1, [.ref a4, .int v4, .int v5])), (a4, .inl (cT 0, 4096, .inl f3)), (a5, .inr (1, [.ref a6, .int v7, .int v8])), (a6, .inl (cT 0, 4096, .inl f6)), (a7, .inl (cT 3, 8, .inr (.inr (.inr (.inr rf0))))), (a8, .inr (3, [.ref a9, .ref a10, .ref p11, .ref p13, .int v15])), (a9, .inl (cT 1, 2048, .inl f9)), (a10, .inl (cT 1, 2048, .inl f10)), (p11, .inl (cT 1, 2048, .inl f12)), (p13, .inl (cT 1, 2048, .inl f14)), (a15, .inr (2, [.ref a16, .int v22, .int v23])), (a16, .inl (cT 2, 4096, .inr (.inl f21))), (a13, .inr (2, [.ref a14, .int o13.1, .int o13.2])), (a14, .inl (cT 2, 4096, .inr (.inl f16)))]) hP hD [13, 14] [0, 1, 2, 3, 4, 5, 6, 7, 8, 9, 10, 11, 12, 15, 16] 15 rfl rfl (by decide) (by decide) hk1 hFc hP1 hD1
          generalize H1 = H at hP hS ⊢
          refine lv_aload_n hx hb dB_one_38 rfl (lv_at hl 0 rfl) ?_
          refine lv_iload_n hx hb dB_one_39 rfl (lv_at hl 2 rfl) ?_
          refine lv_aload_n hx hb dB_one_40 rfl (lv_at hl 0 rfl) ?_
          refine va_get (D := D) (ci := 0) (v := .ref a7) (C := "ValueBench") (T := TB) (N := 8) hx hb htx inB hown hK hP 0 rfl rfl 3 (by decide) (htx _ kw_1_98) (fun _ h9 => h9) rfl dB_one_41 ?_
          refine lv_iload_n hx hb dB_one_44 rfl (lv_at hl 3 rfl) ?_
          obtain ⟨hg15, hf⟩ := xifn hf
          refine va_aldq hx hb hK hP 7 3 rfl rfl hg15 dB_one_45 ?_
          refine W.eq (g2 := F0 m 46 ls [va_rf (rf0 x3.toNatClampNeg), .int x2, .ref a0]) rfl ?_
          rw [hr3 hg15]
          refine W.eq (g2 := F0 m 46 ls [.ref a15, .int x2, .ref a0]) rfl ?_
          refine lv_aload_n hx hb dB_one_46 rfl (lv_at hl 0 rfl) ?_
          refine va_get (D := D) (ci := 0) (v := .ref a5) (C := "ValueBench") (T := TB) (N := 8) hx hb htx inB hown hK hP 0 rfl rfl 2 (by decide) (htx _ kw_1_97) (fun _ h9 => h9) rfl dB_one_47 ?_
          refine lv_aload_n hx hb dB_one_50 rfl (lv_at hl 0 rfl) ?_
          refine va_get (D := D) (ci := 0) (v := .ref a8) (C := "ValueBench") (T := TB) (N := 8) hx hb htx inB hown hK hP 0 rfl rfl 4 (by decide) (htx _ kw_1_99) (fun _ h9 => h9) rfl dB_one_51 ?_
          refine lv_aload_n hx hb dB_one_54 rfl (lv_at hl 0 rfl) ?_
          refine va_get (D := D) (ci := 0) (v := .ref a13) (C := "ValueBench") (T := TB) (N := 8) hx hb htx inB hown hK hP 0 rfl rfl 5 (by decide) (htx _ kw_1_100) (fun _ h9 => h9) rfl dB_one_55 ?_
          obtain ⟨o16, hq17, hf⟩ := xbind hf
          obtain ⟨hPc, hDc, hFc⟩ := xcut (wc := [(a15, .inr (2, [.ref a16, .int v22, .int v23])), (a16, .inl (cT 2, 4096, .inr (.inl f21))), (a5, .inr (1, [.ref a6, .int v7, .int v8])), (a6, .inl (cT 0, 4096, .inl f6)), (a8, .inr (3, [.ref a9, .ref a10, .ref p11, .ref p13, .int v15])), (a9, .inl (cT 1, 2048, .inl f9)), (a10, .inl (cT 1, 2048, .inl f10)), (p11, .inl (cT 1, 2048, .inl f12)), (p13, .inl (cT 1, 2048, .inl f14)), (a13, .inr (2, [.ref a14, .int o13.1, .int o13.2])), (a14, .inl (cT 2, 4096, .inr (.inl f16)))]) hP hD hS hA [13, 14, 5, 6, 8, 9, 10, 11, 12, 15, 16] rfl rfl (by decide)
          refine va_calli (va_runS (As := [.int x2, .ref a15, .ref a5, .ref a8, .ref a13]) (rest := [.ref a0]) ⟨hx, hb, hml, hown, htx⟩ (gG_apply l hl9 D cT aK aV H.size d n a15 a16 a5 a6 a8 a9 a10 a13 a14 x2 f21 v22 v23 f6 v7 v8 f9 f10 p11 f12 p13 f14 v15 f16 o13.1 o13.2 o16 hq17) ⟨callB_of 5 htx (xw_goodC kw_4_28) rfl rfl rfl (htx _ kw_1_26) (htx _ kw_4_26) ⟨by decide, by decide, by decide +kernel⟩ ⟨(by show (16 * d + 5) + 1 ≤ 16 * d + 7; omega), (by show 8 + (5 + 11) + (400 * d + 151) ≤ 400 * d + 175; omega)⟩, htx _ kw_4_27⟩ ⟨xPre_blind, (fun U hU hW => ⟨rfl, xPre_of hZ hS hFc hPc hDc hK U hU hW⟩)⟩ rfl rfl hl.1 rfl (lv_room (Nat.le_of_ble_eq_true rfl)) dB_one_58 ⟨Nat.le_of_ble_eq_true rfl, Nat.le_of_ble_eq_true rfl⟩) hS (fun q _ h => hFc q h) hFc (fun r18 u9 t H1 locs ht hvm hr9 hB hz1 hk1 hS => ?_)
          obtain ⟨hP1, hK1, hD1⟩ := hB
          rw [ht] at hP1
          obtain ⟨hP, hD⟩ := xjoin (W := [(a0, .inr (0, [.ref a1, .ref a3, .ref a5, .ref a7, .ref a8, .ref a13, .int v19, .int v20])), (a1, .inr (1, [.ref a2, .int v1, .int v2])), (a2, .inl (cT 0, 4096, .inl f0)), (a3, .inr (1, [.ref a4, .int v4, .int v5])), (a4, .inl (cT 0, 4096, .inl f3)), (a7, .inl (cT 3, 8, .inr (.inr (.inr (.inr rf0))))), (a15, .inr (2, [.ref a16, .int v22, .int v23])), (a16, .inl (cT 2, 4096, .inr (.inl f21))), (a5, .inr (1, [.ref a6, .int o16.2.2.1, .int o16.2.2.2.1])), (a6, .inl (cT 0, 4096, .inl o16.2.1)), (a8, .inr (3, [.ref a9, .ref a10, .ref o16.2.2.2.2.2.2.1, .ref o16.2.2.2.2.2.2.2.2.1, .int o16.2.2.2.2.2.2.2.2.2.1])), (a9, .inl (cT 1, 2048, .inl o16.2.2.2.2.1)), (a10, .inl (cT 1, 2048, .inl f10)), (o16.2.2.2.2.2.2.1, .inl (cT 1, 2048, .inl o16.2.2.2.2.2.1)), (o16.2.2.2.2.2.2.2.2.1, .inl (cT 1, 2048, .inl o16.2.2.2.2.2.2.2.1)), (a13, .inr (2, [.ref a14, .int o16.2.2.2.2.2.2.2.2.2.2.2.1, .int o16.2.2.2.2.2.2.2.2.2.2.2.2])), (a14, .inl (cT 2, 4096, .inr (.inl o16.2.2.2.2.2.2.2.2.2.2.1)))]) hP hD [13, 14, 5, 6, 8, 9, 10, 11, 12, 15, 16] [0, 1, 2, 3, 4, 7] 6 rfl rfl (by decide) (by decide) hk1 hFc hP1 hD1
          generalize H1 = H at hP hS ⊢
          rw [hr9]
          refine W.eq (g2 := F0 m 61 ls [.int o16.1, .ref a0]) rfl ?_
          obtain ⟨o19, hq20, hf⟩ := xbind hf
          by_cases hk21 : o19.1 = 0
          · rw [if_pos hk21] at hf
            obtain ⟨hPc, hDc, hFc⟩ := xcut (wc := [(a0, .inr (0, [.ref a1, .ref a3, .ref a5, .ref a7, .ref a8, .ref a13, .int v19, .int v20])), (a1, .inr (1, [.ref a2, .int v1, .int v2])), (a2, .inl (cT 0, 4096, .inl f0)), (a3, .inr (1, [.ref a4, .int v4, .int v5])), (a4, .inl (cT 0, 4096, .inl f3)), (a5, .inr (1, [.ref a6, .int o16.2.2.1, .int o16.2.2.2.1])), (a6, .inl (cT 0, 4096, .inl o16.2.1)), (a7, .inl (cT 3, 8, .inr (.inr (.inr (.inr rf0))))), (a8, .inr (3, [.ref a9, .ref a10, .ref o16.2.2.2.2.2.2.1, .ref o16.2.2.2.2.2.2.2.2.1, .int o16.2.2.2.2.2.2.2.2.2.1])), (a9, .inl (cT 1, 2048, .inl o16.2.2.2.2.1)), (a10, .inl (cT 1, 2048, .inl f10)), (o16.2.2.2.2.2.2.1, .inl (cT 1, 2048, .inl o16.2.2.2.2.2.1)), (o16.2.2.2.2.2.2.2.2.1, .inl (cT 1, 2048, .inl o16.2.2.2.2.2.2.2.1)), (a13, .inr (2, [.ref a14, .int o16.2.2.2.2.2.2.2.2.2.2.2.1, .int o16.2.2.2.2.2.2.2.2.2.2.2.2])), (a14, .inl (cT 2, 4096, .inr (.inl o16.2.2.2.2.2.2.2.2.2.2.1)))]) hP hD hS hA [0, 1, 2, 3, 4, 8, 9, 5, 10, 11, 12, 13, 14, 15, 16] rfl rfl (by decide)
            refine va_callv (va_runV (C := "ValueBench") (As := [.int o16.1]) (rest := []) ⟨hx, hb, hml, hown, htx⟩ (gB_demandDone l hl9 D cT aK aV H.size n a0 a1 a2 a3 a4 a5 a6 a7 a8 a9 a10 a13 a14 rf0 o16.1 f0 v1 v2 f3 v4 v5 o16.2.1 o16.2.2.1 o16.2.2.2.1 o16.2.2.2.2.1 f10 o16.2.2.2.2.2.2.1 o16.2.2.2.2.2.1 o16.2.2.2.2.2.2.2.2.1 o16.2.2.2.2.2.2.2.1 o16.2.2.2.2.2.2.2.2.2.1 o16.2.2.2.2.2.2.2.2.2.2.1 o16.2.2.2.2.2.2.2.2.2.2.2.1 o16.2.2.2.2.2.2.2.2.2.2.2.2 v19 v20 o19 hq20 hk21) ⟨callB_of 1 htx (xw_goodC kw_3_222) rfl rfl rfl (htx _ kw_1_1) (htx _ kw_3_219) ⟨by decide, by decide, by decide +kernel⟩ ⟨Nat.le_of_ble_eq_true rfl, Nat.le_of_ble_eq_true rfl⟩, (htx _ kw_3_221), (htx _ kp_B_demandDone)⟩ ⟨xPre_blind, va_recv hK hP (ci := 0) rfl (q0 := 0) rfl, (fun U hU hW => ⟨rfl, xPre_of hZ hS hFc hPc hDc hK U hU hW⟩)⟩ rfl rfl hl.1 rfl (lv_room (Nat.le_of_ble_eq_true rfl)) dB_one_61 ⟨Nat.le_of_ble_eq_true rfl, Nat.le_of_ble_eq_true rfl⟩) hS (fun q _ h => hFc q h) hFc (fun u9 t H1 locs ht hvm hr9 hB hz1 hk1 hS => ?_)
            obtain ⟨hP1, hK1, hD1⟩ := hB
            rw [ht] at hP1
            obtain ⟨hP, hD⟩ := xjoin (W := [(a15, .inr (2, [.ref a16, .int v22, .int v23])), (a16, .inl (cT 2, 4096, .inr (.inl f21))), (a0, .inr (0, [.ref a1, .ref a3, .ref a5, .ref a7, .ref a8, .ref a13, .int v19, .int o19.2])), (a1, .inr (1, [.ref a2, .int v1, .int v2])), (a2, .inl (cT 0, 4096, .inl f0)), (a3, .inr (1, [.ref a4, .int v4, .int v5])), (a4, .inl (cT 0, 4096, .inl f3)), (a5, .inr (1, [.ref a6, .int o16.2.2.1, .int o16.2.2.2.1])), (a6, .inl (cT 0, 4096, .inl o16.2.1)), (a7, .inl (cT 3, 8, .inr (.inr (.inr (.inr rf0))))), (a8, .inr (3, [.ref a9, .ref a10, .ref o16.2.2.2.2.2.2.1, .ref o16.2.2.2.2.2.2.2.2.1, .int o16.2.2.2.2.2.2.2.2.2.1])), (a9, .inl (cT 1, 2048, .inl o16.2.2.2.2.1)), (a10, .inl (cT 1, 2048, .inl f10)), (o16.2.2.2.2.2.2.1, .inl (cT 1, 2048, .inl o16.2.2.2.2.2.1)), (o16.2.2.2.2.2.2.2.2.1, .inl (cT 1, 2048, .inl o16.2.2.2.2.2.2.2.1)), (a13, .inr (2, [.ref a14, .int o16.2.2.2.2.2.2.2.2.2.2.2.1, .int o16.2.2.2.2.2.2.2.2.2.2.2.2])), (a14, .inl (cT 2, 4096, .inr (.inl o16.2.2.2.2.2.2.2.2.2.2.1)))]) hP hD [0, 1, 2, 3, 4, 8, 9, 5, 10, 11, 12, 13, 14, 15, 16] [6, 7] 2 rfl rfl (by decide) (by decide) hk1 hFc hP1 hD1
            generalize H1 = H at hP hS ⊢
            refine lv_aload_n hx hb dB_one_64 rfl (lv_at hl 0 rfl) ?_
            refine lv_iload_n hx hb dB_one_65 rfl (lv_at hl 1 rfl) ?_
            obtain ⟨o22, hq23, hf⟩ := xbind hf
            by_cases hk24 : o22.1 = 0
            · rw [if_pos hk24] at hf
              obtain ⟨hPc, hDc, hFc⟩ := xcut (wc := [(a0, .inr (0, [.ref a1, .ref a3, .ref a5, .ref a7, .ref a8, .ref a13, .int v19, .int o19.2])), (a1, .inr (1, [.ref a2, .int v1, .int v2])), (a2, .inl (cT 0, 4096, .inl f0)), (a3, .inr (1, [.ref a4, .int v4, .int v5])), (a4, .inl (cT 0, 4096, .inl f3)), (a5, .inr (1, [.ref a6, .int o16.2.2.1, .int o16.2.2.2.1])), (a6, .inl (cT 0, 4096, .inl o16.2.1)), (a7, .inl (cT 3, 8, .inr (.inr (.inr (.inr rf0))))), (a8, .inr (3, [.ref a9, .ref a10, .ref o16.2.2.2.2.2.2.1, .ref o16.2.2.2.2.2.2.2.2.1, .int o16.2.2.2.2.2.2.2.2.2.1])), (a9, .inl (cT 1, 2048, .inl o16.2.2.2.2.1)), (a10, .inl (cT 1, 2048, .inl f10)), (o16.2.2.2.2.2.2.1, .inl (cT 1, 2048, .inl o16.2.2.2.2.2.1)), (o16.2.2.2.2.2.2.2.2.1, .inl (cT 1, 2048, .inl o16.2.2.2.2.2.2.2.1)), (a13, .inr (2, [.ref a14, .int o16.2.2.2.2.2.2.2.2.2.2.2.1, .int o16.2.2.2.2.2.2.2.2.2.2.2.2])), (a14, .inl (cT 2, 4096, .inr (.inl o16.2.2.2.2.2.2.2.2.2.2.1)))]) hP hD hS hA [2, 3, 4, 5, 6, 7, 8, 9, 10, 11, 12, 13, 14, 15, 16] rfl rfl (by decide)
              refine va_calli (va_runV (C := "ValueBench") (As := [.int x1]) (rest := []) ⟨hx, hb, hml, hown, htx⟩ (gB_keepSpare l hl9 D cT aK aV H.size d n a0 a1 a2 a3 a4 a5 a6 a7 a8 a9 a10 a13 a14 rf0 b1 x1 f0 v1 v2 f3 v4 v5 o16.2.1 o16.2.2.1 o16.2.2.2.1 o16.2.2.2.2.1 f10 o16.2.2.2.2.2.2.1 o16.2.2.2.2.2.1 o16.2.2.2.2.2.2.2.2.1 o16.2.2.2.2.2.2.2.1 o16.2.2.2.2.2.2.2.2.2.1 o16.2.2.2.2.2.2.2.2.2.2.1 o16.2.2.2.2.2.2.2.2.2.2.2.1 o16.2.2.2.2.2.2.2.2.2.2.2.2 v19 o19.2 hr1 o22 hq23 hk24) ⟨callB_of 1 htx (xw_goodC kw_3_17) rfl rfl rfl (htx _ kw_1_1) (htx _ kw_3_14) ⟨by decide, by decide, by decide +kernel⟩ ⟨(by show (16 * d + 6) + 1 ≤ 16 * d + 7; omega), (by show 8 + (3 + 11) + (400 * d + 100) ≤ 400 * d + 175; omega)⟩, (htx _ kw_3_16), (htx _ kp_B_keepSpare)⟩ ⟨xPre_blind, va_recv hK hP (ci := 0) rfl (q0 := 2) rfl, (fun U hU hW => ⟨rfl, xPre_of hZ hS hFc hPc hDc hK U hU hW⟩)⟩ rfl rfl hl.1 rfl (lv_room (Nat.le_of_ble_eq_true rfl)) dB_one_66 ⟨Nat.le_of_ble_eq_true rfl, Nat.le_of_ble_eq_true rfl⟩) hS (fun q _ h => hFc q h) hFc (fun r25 u9 t H1 locs ht hvm hr9 hB hz1 hk1 hS => ?_)
              obtain ⟨hP1, hK1, hD1⟩ := hB
              rw [ht] at hP1
              obtain ⟨hP, hD⟩ := xjoin (W := [(a15, .inr (2, [.ref a16, .int v22, .int v23])), (a16, .inl (cT 2, 4096, .inr (.inl f21))), (a0, .inr (0, [.ref a1, .ref a3, .ref a5, .ref a7, .ref a8, .ref b1, .int v19, .int o19.2])), (a1, .inr (1, [.ref a2, .int v1, .int v2])), (a2, .inl (cT 0, 4096, .inl f0)), (a3, .inr (1, [.ref a4, .int v4, .int v5])), (a4, .inl (cT 0, 4096, .inl f3)), (a5, .inr (1, [.ref a6, .int o22.2.2.2.1, .int o22.2.2.2.2])), (a6, .inl (cT 0, 4096, .inl o22.2.2.1)), (a7, .inl (cT 3, 8, .inr (.inr (.inr (.inr (va_up rf0 x1.toNatClampNeg (some a13))))))), (a8, .inr (3, [.ref a9, .ref a10, .ref o16.2.2.2.2.2.2.1, .ref o16.2.2.2.2.2.2.2.2.1, .int o16.2.2.2.2.2.2.2.2.2.1])), (a9, .inl (cT 1, 2048, .inl o16.2.2.2.2.1)), (a10, .inl (cT 1, 2048, .inl f10)), (o16.2.2.2.2.2.2.1, .inl (cT 1, 2048, .inl o16.2.2.2.2.2.1)), (o16.2.2.2.2.2.2.2.2.1, .inl (cT 1, 2048, .inl o16.2.2.2.2.2.2.2.1)), (a13, .inr (2, [.ref a14, .int o16.2.2.2.2.2.2.2.2.2.2.2.1, .int o16.2.2.2.2.2.2.2.2.2.2.2.2])), (a14, .inl (cT 2, 4096, .inr (.inl o16.2.2.2.2.2.2.2.2.2.2.1)))]) hP hD [2, 3, 4, 5, 6, 7, 8, 9, 10, 11, 12, 13, 14, 15, 16] [0, 1] 2 rfl rfl (by decide) (by decide) hk1 hFc hP1 hD1
              generalize H1 = H at hP hS ⊢
              rw [hr9]
              refine W.eq (g2 := F0 m 69 ls [.int o22.2.1]) rfl ?_
              refine lv_pop hx hb dB_one_69 rfl ?_
              obtain rfl := Option.some.inj hf
              exact absurd (show (0 : Nat) = 2 from hkd) (by decide)
            rw [if_neg hk24] at hf
            by_cases hk26 : o22.1 = 1
            · rw [if_pos hk26] at hf
              obtain rfl := Option.some.inj hf
              exact absurd (show (1 : Nat) = 2 from hkd) (by decide)
            rw [if_neg hk26] at hf
            exact nomatch hf
          rw [if_neg hk21] at hf
          by_cases hk28 : o19.1 = 1
          · rw [if_pos hk28] at hf
            obtain ⟨hPc, hDc, hFc⟩ := xcut (wc := [(a0, .inr (0, [.ref a1, .ref a3, .ref a5, .ref a7, .ref a8, .ref a13, .int v19, .int v20])), (a1, .inr (1, [.ref a2, .int v1, .int v2])), (a2, .inl (cT 0, 4096, .inl f0)), (a3, .inr (1, [.ref a4, .int v4, .int v5])), (a4, .inl (cT 0, 4096, .inl f3)), (a5, .inr (1, [.ref a6, .int o16.2.2.1, .int o16.2.2.2.1])), (a6, .inl (cT 0, 4096, .inl o16.2.1)), (a7, .inl (cT 3, 8, .inr (.inr (.inr (.inr rf0))))), (a8, .inr (3, [.ref a9, .ref a10, .ref o16.2.2.2.2.2.2.1, .ref o16.2.2.2.2.2.2.2.2.1, .int o16.2.2.2.2.2.2.2.2.2.1])), (a9, .inl (cT 1, 2048, .inl o16.2.2.2.2.1)), (a10, .inl (cT 1, 2048, .inl f10)), (o16.2.2.2.2.2.2.1, .inl (cT 1, 2048, .inl o16.2.2.2.2.2.1)), (o16.2.2.2.2.2.2.2.2.1, .inl (cT 1, 2048, .inl o16.2.2.2.2.2.2.2.1)), (a13, .inr (2, [.ref a14, .int o16.2.2.2.2.2.2.2.2.2.2.2.1, .int o16.2.2.2.2.2.2.2.2.2.2.2.2])), (a14, .inl (cT 2, 4096, .inr (.inl o16.2.2.2.2.2.2.2.2.2.2.1)))]) hP hD hS hA [0, 1, 2, 3, 4, 8, 9, 5, 10, 11, 12, 13, 14, 15, 16] rfl rfl (by decide)
            refine xx_thr (vx_runV (C := "ValueBench") (As := [.int o16.1]) (rest := []) ⟨hx, hb, hml, hown, htx⟩ (gB_demandDone_1 l hl9 D cT aK aV H.size n a0 a1 a2 a3 a4 a5 a6 a7 a8 a9 a10 a13 a14 rf0 o16.1 f0 v1 v2 f3 v4 v5 o16.2.1 o16.2.2.1 o16.2.2.2.1 o16.2.2.2.2.1 f10 o16.2.2.2.2.2.2.1 o16.2.2.2.2.2.1 o16.2.2.2.2.2.2.2.2.1 o16.2.2.2.2.2.2.2.1 o16.2.2.2.2.2.2.2.2.2.1 o16.2.2.2.2.2.2.2.2.2.2.1 o16.2.2.2.2.2.2.2.2.2.2.2.1 o16.2.2.2.2.2.2.2.2.2.2.2.2 v19 v20 o19 hq20 hk28) ⟨callB_of 1 htx (xw_goodC kw_3_222) rfl rfl rfl (htx _ kw_1_1) (htx _ kw_3_219) ⟨by decide, by decide, by decide +kernel⟩ ⟨Nat.le_of_ble_eq_true rfl, Nat.le_of_ble_eq_true rfl⟩, (htx _ kw_3_221), (htx _ kp_B_demandDone)⟩ ⟨xPre_blind, va_recv hK hP (ci := 0) rfl (q0 := 0) rfl, (fun U hU hW => ⟨rfl, xPre_of hZ hS hFc hPc hDc hK U hU hW⟩)⟩ rfl rfl hl.1 rfl (lv_room (Nat.le_of_ble_eq_true rfl)) dB_one_61 ⟨Nat.le_of_ble_eq_true rfl, Nat.le_of_ble_eq_true rfl⟩) hS hFc (fun q _ h => hFc q h) (fun E ce q9 u9 t H1 locs ht hvm _ hB hz1 hk1 hS hce hcv hcl => ?_)
            obtain ⟨rfl, hP1, hK1, hD1⟩ := hB
            rw [ht] at hP1
            obtain ⟨hP, hD⟩ := xjoin (W := [(a15, .inr (2, [.ref a16, .int v22, .int v23])), (a16, .inl (cT 2, 4096, .inr (.inl f21))), (a0, .inr (0, [.ref a1, .ref a3, .ref a5, .ref a7, .ref a8, .ref a13, .int v19, .int o19.2])), (a1, .inr (1, [.ref a2, .int v1, .int v2])), (a2, .inl (cT 0, 4096, .inl f0)), (a3, .inr (1, [.ref a4, .int v4, .int v5])), (a4, .inl (cT 0, 4096, .inl f3)), (a5, .inr (1, [.ref a6, .int o16.2.2.1, .int o16.2.2.2.1])), (a6, .inl (cT 0, 4096, .inl o16.2.1)), (a7, .inl (cT 3, 8, .inr (.inr (.inr (.inr rf0))))), (a8, .inr (3, [.ref a9, .ref a10, .ref o16.2.2.2.2.2.2.1, .ref o16.2.2.2.2.2.2.2.2.1, .int o16.2.2.2.2.2.2.2.2.2.1])), (a9, .inl (cT 1, 2048, .inl o16.2.2.2.2.1)), (a10, .inl (cT 1, 2048, .inl f10)), (o16.2.2.2.2.2.2.1, .inl (cT 1, 2048, .inl o16.2.2.2.2.2.1)), (o16.2.2.2.2.2.2.2.2.1, .inl (cT 1, 2048, .inl o16.2.2.2.2.2.2.2.1)), (a13, .inr (2, [.ref a14, .int o16.2.2.2.2.2.2.2.2.2.2.2.1, .int o16.2.2.2.2.2.2.2.2.2.2.2.2])), (a14, .inl (cT 2, 4096, .inr (.inl o16.2.2.2.2.2.2.2.2.2.2.1)))]) hP hD [0, 1, 2, 3, 4, 8, 9, 5, 10, 11, 12, 13, 14, 15, 16] [6, 7] 2 rfl rfl (by decide) (by decide) hk1 hFc hP1 hD1
            generalize H1 = H at hP hS hce ⊢
            obtain rfl := Option.some.inj hf
            obtain ⟨hP9, hD9⟩ := xsub (wc := [(a0, .inr (0, [.ref a1, .ref a3, .ref a5, .ref a7, .ref a8, .ref a13, .int v19, .int o19.2])), (a1, .inr (1, [.ref a2, .int v1, .int v2])), (a2, .inl (cT 0, 4096, .inl f0)), (a3, .inr (1, [.ref a4, .int v4, .int v5])), (a4, .inl (cT 0, 4096, .inl f3)), (a5, .inr (1, [.ref a6, .int o16.2.2.1, .int o16.2.2.2.1])), (a6, .inl (cT 0, 4096, .inl o16.2.1)), (a7, .inl (cT 3, 8, .inr (.inr (.inr (.inr rf0))))), (a8, .inr (3, [.ref a9, .ref a10, .ref o16.2.2.2.2.2.2.1, .ref o16.2.2.2.2.2.2.2.2.1, .int o16.2.2.2.2.2.2.2.2.2.1])), (a9, .inl (cT 1, 2048, .inl o16.2.2.2.2.1)), (a10, .inl (cT 1, 2048, .inl f10)), (o16.2.2.2.2.2.2.1, .inl (cT 1, 2048, .inl o16.2.2.2.2.2.1)), (o16.2.2.2.2.2.2.2.2.1, .inl (cT 1, 2048, .inl o16.2.2.2.2.2.2.2.1)), (a13, .inr (2, [.ref a14, .int o16.2.2.2.2.2.2.2.2.2.2.2.1, .int o16.2.2.2.2.2.2.2.2.2.2.2.2])), (a14, .inl (cT 2, 4096, .inr (.inl o16.2.2.2.2.2.2.2.2.2.2.1))), (a15, .inr (2, [.ref a16, .int v22, .int v23])), (a16, .inl (cT 2, 4096, .inr (.inl f21)))]) hP hD [2, 3, 4, 5, 6, 7, 8, 9, 10, 11, 12, 13, 14, 15, 16, 0, 1] rfl rfl (by decide)
            exact vx_out (E := "java/lang/ArithmeticException") (fun x h => (hne x h).elim) hlocks hce hcv hcl (fun t ht ha => ⟨(), trivial, ⟨rfl, by rw [ht]; exact hP9, va_K.moved ha hK, hD9⟩, hS.F ht⟩) hS.2.2 (Nat.le_of_ble_eq_true rfl) (Nat.le_of_ble_eq_true rfl)
          rw [if_neg hk28] at hf
          exact nomatch hf
        rw [if_neg hk12] at hf
        by_cases hk29 : o10 = 1
        · rw [if_pos hk29] at hf
          obtain rfl := Option.some.inj hf
          exact absurd (show (3 : Nat) = 2 from hkd) (by decide)
        rw [if_neg hk29] at hf
        exact nomatch hf
      · rw [if_neg hc] at hf
        refine lv_iconst (v := 1) hx hb dB_one_23 (by decide) ?_
        refine lv_goto (tgt := 28) hx hb dB_one_24 (by decide) ?_
        obtain ⟨o10, hq11, hf⟩ := xbind hf
        by_cases hk12 : o10 = 0
        · rw [if_pos hk12] at hf
          obtain ⟨hPc, hDc, hFc⟩ := xcut (wc := []) hP hD hS hA [] rfl rfl (by decide)
          refine va_callv (va_runS (As := [.int 1]) (rest := []) ⟨hx, hb, hml, hown, htx⟩ (gB_demand l hl9 D cT aK aV H.size n (1 : Int32) o10 hq11 hk12) ⟨callB_of 1 htx (xw_goodC kw_1_221) rfl rfl rfl (htx _ kw_1_1) (htx _ kw_1_219) ⟨by decide, by decide, by decide +kernel⟩ ⟨Nat.le_of_ble_eq_true rfl, Nat.le_of_ble_eq_true rfl⟩, htx _ kw_1_220⟩ ⟨xPre_blind, (fun U hU hW => ⟨rfl, xPre_of hZ hS hFc hPc hDc hK U hU hW⟩)⟩ rfl rfl hl.1 rfl (lv_room (Nat.le_of_ble_eq_true rfl)) dB_one_28 ⟨Nat.le_of_ble_eq_true rfl, Nat.le_of_ble_eq_true rfl⟩) hS (fun q _ h => hFc q h) hFc (fun u9 t H1 locs ht hvm hr9 hB hz1 hk1 hS => ?_)
          obtain ⟨hP1, hK1, hD1⟩ := hB
          rw [ht] at hP1
          obtain ⟨hP, hD⟩ := xjoin (W := [(a0, .inr (0, [.ref a1, .ref a3, .ref a5, .ref a7, .ref a8, .ref a13, .int v19, .int v20])), (a1, .inr (1, [.ref a2, .int v1, .int v2])), (a2, .inl (cT 0, 4096, .inl f0)), (a3, .inr (1, [.ref a4, .int v4, .int v5])), (a4, .inl (cT 0, 4096, .inl f3)), (a5, .inr (1, [.ref a6, .int v7, .int v8])), (a6, .inl (cT 0, 4096, .inl f6)), (a7, .inl (cT 3, 8, .inr (.inr (.inr (.inr rf0))))), (a8, .inr (3, [.ref a9, .ref a10, .ref p11, .ref p13, .int v15])), (a9, .inl (cT 1, 2048, .inl f9)), (a10, .inl (cT 1, 2048, .inl f10)), (p11, .inl (cT 1, 2048, .inl f12)), (p13, .inl (cT 1, 2048, .inl f14)), (a13, .inr (2, [.ref a14, .int v17, .int v18])), (a14, .inl (cT 2, 4096, .inr (.inl f16))), (a15, .inr (2, [.ref a16, .int v22, .int v23])), (a16, .inl (cT 2, 4096, .inr (.inl f21)))]) hP hD [] [0, 1, 2, 3, 4, 5, 6, 7, 8, 9, 10, 11, 12, 13, 14, 15, 16] 17 rfl rfl (by decide) (by decide) hk1 hFc hP1 hD1
          generalize H1 = H at hP hS ⊢
          refine lv_aload_n hx hb dB_one_31 rfl (lv_at hl 0 rfl) ?_
          refine va_get (D := D) (ci := 0) (v := .ref a13) (C := "ValueBench") (T := TB) (N := 8) hx hb htx inB hown hK hP 0 rfl rfl 5 (by decide) (htx _ kw_1_100) (fun _ h9 => h9) rfl dB_one_32 ?_
          obtain ⟨o13, hq14, hf⟩ := xbind hf
          obtain ⟨hPc, hDc, hFc⟩ := xcut (wc := [(a13, .inr (2, [.ref a14, .int v17, .int v18])), (a14, .inl (cT 2, 4096, .inr (.inl f16)))]) hP hD hS hA [13, 14] rfl rfl (by decide)
          refine va_callv (va_runV (C := "ValueBench$Row") (As := []) (rest := []) ⟨hx, hb, hml, hown, htx⟩ (gR_clear l hl9 D cT aK aV H.size n a13 a14 f16 v17 v18 o13 hq14) ⟨callB_of 0 htx (xw_goodC kw_2_22) rfl rfl rfl (htx _ kw_1_4) (htx _ kw_2_19) ⟨by decide, by decide, by decide +kernel⟩ ⟨Nat.le_of_ble_eq_true rfl, Nat.le_of_ble_eq_true rfl⟩, (htx _ kw_2_20), (htx _ kw_2_21)⟩ ⟨xPre_blind, va_recv hK hP (ci := 2) rfl (q0 := 13) rfl, (fun U hU hW => ⟨rfl, xPre_of hZ hS hFc hPc hDc hK U hU hW⟩)⟩ rfl rfl hl.1 rfl (lv_room (Nat.le_of_ble_eq_true rfl)) dB_one_35 ⟨Nat.le_of_ble_eq_true rfl, Nat.le_of_ble_eq_true rfl⟩) hS (fun q _ h => hFc q h) hFc (fun u9 t H1 locs ht hvm hr9 hB hz1 hk1 hS => ?_)
          obtain ⟨hP1, hK1, hD1⟩ := hB
          rw [ht] at hP1
          obtain ⟨hP, hD⟩ := xjoin (W := [(a0, .inr (0, [.ref a1, .ref a3, .ref a5, .ref a7, .ref a8, .ref a13, .int v19, .int v20])), (a1, .inr (1, [.ref a2, .int v1, .int v2])), (a2, .inl (cT 0, 4096, .inl f0)), (a3, .inr (1, [.ref a4, .int v4, .int v5])), (a4, .inl (cT 0, 4096, .inl f3)), (a5, .inr (1, [.ref a6, .int v7, .int v8])), (a6, .inl (cT 0, 4096, .inl f6)), (a7, .inl (cT 3, 8, .inr (.inr (.inr (.inr rf0))))), (a8, .inr (3, [.ref a9, .ref a10, .ref p11, .ref p13, .int v15])), (a9, .inl (cT 1, 2048, .inl f9)), (a10, .inl (cT 1, 2048, .inl f10)), (p11, .inl (cT 1, 2048, .inl f12)), (p13, .inl (cT 1, 2048, .inl f14)), (a15, .inr (2, [.ref a16, .int v22, .int v23])), (a16, .inl (cT 2, 4096, .inr (.inl f21))), (a13, .inr (2, [.ref a14, .int o13.1, .int o13.2])), (a14, .inl (cT 2, 4096, .inr (.inl f16)))]) hP hD [13, 14] [0, 1, 2, 3, 4, 5, 6, 7, 8, 9, 10, 11, 12, 15, 16] 15 rfl rfl (by decide) (by decide) hk1 hFc hP1 hD1
          generalize H1 = H at hP hS ⊢
          refine lv_aload_n hx hb dB_one_38 rfl (lv_at hl 0 rfl) ?_
          refine lv_iload_n hx hb dB_one_39 rfl (lv_at hl 2 rfl) ?_
          refine lv_aload_n hx hb dB_one_40 rfl (lv_at hl 0 rfl) ?_
          refine va_get (D := D) (ci := 0) (v := .ref a7) (C := "ValueBench") (T := TB) (N := 8) hx hb htx inB hown hK hP 0 rfl rfl 3 (by decide) (htx _ kw_1_98) (fun _ h9 => h9) rfl dB_one_41 ?_
          refine lv_iload_n hx hb dB_one_44 rfl (lv_at hl 3 rfl) ?_
          obtain ⟨hg15, hf⟩ := xifn hf
          refine va_aldq hx hb hK hP 7 3 rfl rfl hg15 dB_one_45 ?_
          refine W.eq (g2 := F0 m 46 ls [va_rf (rf0 x3.toNatClampNeg), .int x2, .ref a0]) rfl ?_
          rw [hr3 hg15]
          refine W.eq (g2 := F0 m 46 ls [.ref a15, .int x2, .ref a0]) rfl ?_
          refine lv_aload_n hx hb dB_one_46 rfl (lv_at hl 0 rfl) ?_
          refine va_get (D := D) (ci := 0) (v := .ref a5) (C := "ValueBench") (T := TB) (N := 8) hx hb htx inB hown hK hP 0 rfl rfl 2 (by decide) (htx _ kw_1_97) (fun _ h9 => h9) rfl dB_one_47 ?_
          refine lv_aload_n hx hb dB_one_50 rfl (lv_at hl 0 rfl) ?_
          refine va_get (D := D) (ci := 0) (v := .ref a8) (C := "ValueBench") (T := TB) (N := 8) hx hb htx inB hown hK hP 0 rfl rfl 4 (by decide) (htx _ kw_1_99) (fun _ h9 => h9) rfl dB_one_51 ?_
          refine lv_aload_n hx hb dB_one_54 rfl (lv_at hl 0 rfl) ?_
          refine va_get (D := D) (ci := 0) (v := .ref a13) (C := "ValueBench") (T := TB) (N := 8) hx hb htx inB hown hK hP 0 rfl rfl 5 (by decide) (htx _ kw_1_100) (fun _ h9 => h9) rfl dB_one_55 ?_
          obtain ⟨o16, hq17, hf⟩ := xbind hf
          obtain ⟨hPc, hDc, hFc⟩ := xcut (wc := [(a15, .inr (2, [.ref a16, .int v22, .int v23])), (a16, .inl (cT 2, 4096, .inr (.inl f21))), (a5, .inr (1, [.ref a6, .int v7, .int v8])), (a6, .inl (cT 0, 4096, .inl f6)), (a8, .inr (3, [.ref a9, .ref a10, .ref p11, .ref p13, .int v15])), (a9, .inl (cT 1, 2048, .inl f9)), (a10, .inl (cT 1, 2048, .inl f10)), (p11, .inl (cT 1, 2048, .inl f12)), (p13, .inl (cT 1, 2048, .inl f14)), (a13, .inr (2, [.ref a14, .int o13.1, .int o13.2])), (a14, .inl (cT 2, 4096, .inr (.inl f16)))]) hP hD hS hA [13, 14, 5, 6, 8, 9, 10, 11, 12, 15, 16] rfl rfl (by decide)
          refine va_calli (va_runS (As := [.int x2, .ref a15, .ref a5, .ref a8, .ref a13]) (rest := [.ref a0]) ⟨hx, hb, hml, hown, htx⟩ (gG_apply l hl9 D cT aK aV H.size d n a15 a16 a5 a6 a8 a9 a10 a13 a14 x2 f21 v22 v23 f6 v7 v8 f9 f10 p11 f12 p13 f14 v15 f16 o13.1 o13.2 o16 hq17) ⟨callB_of 5 htx (xw_goodC kw_4_28) rfl rfl rfl (htx _ kw_1_26) (htx _ kw_4_26) ⟨by decide, by decide, by decide +kernel⟩ ⟨(by show (16 * d + 5) + 1 ≤ 16 * d + 7; omega), (by show 8 + (5 + 11) + (400 * d + 151) ≤ 400 * d + 175; omega)⟩, htx _ kw_4_27⟩ ⟨xPre_blind, (fun U hU hW => ⟨rfl, xPre_of hZ hS hFc hPc hDc hK U hU hW⟩)⟩ rfl rfl hl.1 rfl (lv_room (Nat.le_of_ble_eq_true rfl)) dB_one_58 ⟨Nat.le_of_ble_eq_true rfl, Nat.le_of_ble_eq_true rfl⟩) hS (fun q _ h => hFc q h) hFc (fun r18 u9 t H1 locs ht hvm hr9 hB hz1 hk1 hS => ?_)
          obtain ⟨hP1, hK1, hD1⟩ := hB
          rw [ht] at hP1
          obtain ⟨hP, hD⟩ := xjoin (W := [(a0, .inr (0, [.ref a1, .ref a3, .ref a5, .ref a7, .ref a8, .ref a13, .int v19, .int v20])), (a1, .inr (1, [.ref a2, .int v1, .int v2])), (a2, .inl (cT 0, 4096, .inl f0)), (a3, .inr (1, [.ref a4, .int v4, .int v5])), (a4, .inl (cT 0, 4096, .inl f3)), (a7, .inl (cT 3, 8, .inr (.inr (.inr (.inr rf0))))), (a15, .inr (2, [.ref a16, .int v22, .int v23])), (a16, .inl (cT 2, 4096, .inr (.inl f21))), (a5, .inr (1, [.ref a6, .int o16.2.2.1, .int o16.2.2.2.1])), (a6, .inl (cT 0, 4096, .inl o16.2.1)), (a8, .inr (3, [.ref a9, .ref a10, .ref o16.2.2.2.2.2.2.1, .ref o16.2.2.2.2.2.2.2.2.1, .int o16.2.2.2.2.2.2.2.2.2.1])), (a9, .inl (cT 1, 2048, .inl o16.2.2.2.2.1)), (a10, .inl (cT 1, 2048, .inl f10)), (o16.2.2.2.2.2.2.1, .inl (cT 1, 2048, .inl o16.2.2.2.2.2.1)), (o16.2.2.2.2.2.2.2.2.1, .inl (cT 1, 2048, .inl o16.2.2.2.2.2.2.2.1)), (a13, .inr (2, [.ref a14, .int o16.2.2.2.2.2.2.2.2.2.2.2.1, .int o16.2.2.2.2.2.2.2.2.2.2.2.2])), (a14, .inl (cT 2, 4096, .inr (.inl o16.2.2.2.2.2.2.2.2.2.2.1)))]) hP hD [13, 14, 5, 6, 8, 9, 10, 11, 12, 15, 16] [0, 1, 2, 3, 4, 7] 6 rfl rfl (by decide) (by decide) hk1 hFc hP1 hD1
          generalize H1 = H at hP hS ⊢
          rw [hr9]
          refine W.eq (g2 := F0 m 61 ls [.int o16.1, .ref a0]) rfl ?_
          obtain ⟨o19, hq20, hf⟩ := xbind hf
          by_cases hk21 : o19.1 = 0
          · rw [if_pos hk21] at hf
            obtain ⟨hPc, hDc, hFc⟩ := xcut (wc := [(a0, .inr (0, [.ref a1, .ref a3, .ref a5, .ref a7, .ref a8, .ref a13, .int v19, .int v20])), (a1, .inr (1, [.ref a2, .int v1, .int v2])), (a2, .inl (cT 0, 4096, .inl f0)), (a3, .inr (1, [.ref a4, .int v4, .int v5])), (a4, .inl (cT 0, 4096, .inl f3)), (a5, .inr (1, [.ref a6, .int o16.2.2.1, .int o16.2.2.2.1])), (a6, .inl (cT 0, 4096, .inl o16.2.1)), (a7, .inl (cT 3, 8, .inr (.inr (.inr (.inr rf0))))), (a8, .inr (3, [.ref a9, .ref a10, .ref o16.2.2.2.2.2.2.1, .ref o16.2.2.2.2.2.2.2.2.1, .int o16.2.2.2.2.2.2.2.2.2.1])), (a9, .inl (cT 1, 2048, .inl o16.2.2.2.2.1)), (a10, .inl (cT 1, 2048, .inl f10)), (o16.2.2.2.2.2.2.1, .inl (cT 1, 2048, .inl o16.2.2.2.2.2.1)), (o16.2.2.2.2.2.2.2.2.1, .inl (cT 1, 2048, .inl o16.2.2.2.2.2.2.2.1)), (a13, .inr (2, [.ref a14, .int o16.2.2.2.2.2.2.2.2.2.2.2.1, .int o16.2.2.2.2.2.2.2.2.2.2.2.2])), (a14, .inl (cT 2, 4096, .inr (.inl o16.2.2.2.2.2.2.2.2.2.2.1)))]) hP hD hS hA [0, 1, 2, 3, 4, 8, 9, 5, 10, 11, 12, 13, 14, 15, 16] rfl rfl (by decide)
            refine va_callv (va_runV (C := "ValueBench") (As := [.int o16.1]) (rest := []) ⟨hx, hb, hml, hown, htx⟩ (gB_demandDone l hl9 D cT aK aV H.size n a0 a1 a2 a3 a4 a5 a6 a7 a8 a9 a10 a13 a14 rf0 o16.1 f0 v1 v2 f3 v4 v5 o16.2.1 o16.2.2.1 o16.2.2.2.1 o16.2.2.2.2.1 f10 o16.2.2.2.2.2.2.1 o16.2.2.2.2.2.1 o16.2.2.2.2.2.2.2.2.1 o16.2.2.2.2.2.2.2.1 o16.2.2.2.2.2.2.2.2.2.1 o16.2.2.2.2.2.2.2.2.2.2.1 o16.2.2.2.2.2.2.2.2.2.2.2.1 o16.2.2.2.2.2.2.2.2.2.2.2.2 v19 v20 o19 hq20 hk21) ⟨callB_of 1 htx (xw_goodC kw_3_222) rfl rfl rfl (htx _ kw_1_1) (htx _ kw_3_219) ⟨by decide, by decide, by decide +kernel⟩ ⟨Nat.le_of_ble_eq_true rfl, Nat.le_of_ble_eq_true rfl⟩, (htx _ kw_3_221), (htx _ kp_B_demandDone)⟩ ⟨xPre_blind, va_recv hK hP (ci := 0) rfl (q0 := 0) rfl, (fun U hU hW => ⟨rfl, xPre_of hZ hS hFc hPc hDc hK U hU hW⟩)⟩ rfl rfl hl.1 rfl (lv_room (Nat.le_of_ble_eq_true rfl)) dB_one_61 ⟨Nat.le_of_ble_eq_true rfl, Nat.le_of_ble_eq_true rfl⟩) hS (fun q _ h => hFc q h) hFc (fun u9 t H1 locs ht hvm hr9 hB hz1 hk1 hS => ?_)
            obtain ⟨hP1, hK1, hD1⟩ := hB
            rw [ht] at hP1
            obtain ⟨hP, hD⟩ := xjoin (W := [(a15, .inr (2, [.ref a16, .int v22, .int v23])), (a16, .inl (cT 2, 4096, .inr (.inl f21))), (a0, .inr (0, [.ref a1, .ref a3, .ref a5, .ref a7, .ref a8, .ref a13, .int v19, .int o19.2])), (a1, .inr (1, [.ref a2, .int v1, .int v2])), (a2, .inl (cT 0, 4096, .inl f0)), (a3, .inr (1, [.ref a4, .int v4, .int v5])), (a4, .inl (cT 0, 4096, .inl f3)), (a5, .inr (1, [.ref a6, .int o16.2.2.1, .int o16.2.2.2.1])), (a6, .inl (cT 0, 4096, .inl o16.2.1)), (a7, .inl (cT 3, 8, .inr (.inr (.inr (.inr rf0))))), (a8, .inr (3, [.ref a9, .ref a10, .ref o16.2.2.2.2.2.2.1, .ref o16.2.2.2.2.2.2.2.2.1, .int o16.2.2.2.2.2.2.2.2.2.1])), (a9, .inl (cT 1, 2048, .inl o16.2.2.2.2.1)), (a10, .inl (cT 1, 2048, .inl f10)), (o16.2.2.2.2.2.2.1, .inl (cT 1, 2048, .inl o16.2.2.2.2.2.1)), (o16.2.2.2.2.2.2.2.2.1, .inl (cT 1, 2048, .inl o16.2.2.2.2.2.2.2.1)), (a13, .inr (2, [.ref a14, .int o16.2.2.2.2.2.2.2.2.2.2.2.1, .int o16.2.2.2.2.2.2.2.2.2.2.2.2])), (a14, .inl (cT 2, 4096, .inr (.inl o16.2.2.2.2.2.2.2.2.2.2.1)))]) hP hD [0, 1, 2, 3, 4, 8, 9, 5, 10, 11, 12, 13, 14, 15, 16] [6, 7] 2 rfl rfl (by decide) (by decide) hk1 hFc hP1 hD1
            generalize H1 = H at hP hS ⊢
            refine lv_aload_n hx hb dB_one_64 rfl (lv_at hl 0 rfl) ?_
            refine lv_iload_n hx hb dB_one_65 rfl (lv_at hl 1 rfl) ?_
            obtain ⟨o22, hq23, hf⟩ := xbind hf
            by_cases hk24 : o22.1 = 0
            · rw [if_pos hk24] at hf
              obtain ⟨hPc, hDc, hFc⟩ := xcut (wc := [(a0, .inr (0, [.ref a1, .ref a3, .ref a5, .ref a7, .ref a8, .ref a13, .int v19, .int o19.2])), (a1, .inr (1, [.ref a2, .int v1, .int v2])), (a2, .inl (cT 0, 4096, .inl f0)), (a3, .inr (1, [.ref a4, .int v4, .int v5])), (a4, .inl (cT 0, 4096, .inl f3)), (a5, .inr (1, [.ref a6, .int o16.2.2.1, .int o16.2.2.2.1])), (a6, .inl (cT 0, 4096, .inl o16.2.1)), (a7, .inl (cT 3, 8, .inr (.inr (.inr (.inr rf0))))), (a8, .inr (3, [.ref a9, .ref a10, .ref o16.2.2.2.2.2.2.1, .ref o16.2.2.2.2.2.2.2.2.1, .int o16.2.2.2.2.2.2.2.2.2.1])), (a9, .inl (cT 1, 2048, .inl o16.2.2.2.2.1)), (a10, .inl (cT 1, 2048, .inl f10)), (o16.2.2.2.2.2.2.1, .inl (cT 1, 2048, .inl o16.2.2.2.2.2.1)), (o16.2.2.2.2.2.2.2.2.1, .inl (cT 1, 2048, .inl o16.2.2.2.2.2.2.2.1)), (a13, .inr (2, [.ref a14, .int o16.2.2.2.2.2.2.2.2.2.2.2.1, .int o16.2.2.2.2.2.2.2.2.2.2.2.2])), (a14, .inl (cT 2, 4096, .inr (.inl o16.2.2.2.2.2.2.2.2.2.2.1)))]) hP hD hS hA [2, 3, 4, 5, 6, 7, 8, 9, 10, 11, 12, 13, 14, 15, 16] rfl rfl (by decide)
              refine va_calli (va_runV (C := "ValueBench") (As := [.int x1]) (rest := []) ⟨hx, hb, hml, hown, htx⟩ (gB_keepSpare l hl9 D cT aK aV H.size d n a0 a1 a2 a3 a4 a5 a6 a7 a8 a9 a10 a13 a14 rf0 b1 x1 f0 v1 v2 f3 v4 v5 o16.2.1 o16.2.2.1 o16.2.2.2.1 o16.2.2.2.2.1 f10 o16.2.2.2.2.2.2.1 o16.2.2.2.2.2.1 o16.2.2.2.2.2.2.2.2.1 o16.2.2.2.2.2.2.2.1 o16.2.2.2.2.2.2.2.2.2.1 o16.2.2.2.2.2.2.2.2.2.2.1 o16.2.2.2.2.2.2.2.2.2.2.2.1 o16.2.2.2.2.2.2.2.2.2.2.2.2 v19 o19.2 hr1 o22 hq23 hk24) ⟨callB_of 1 htx (xw_goodC kw_3_17) rfl rfl rfl (htx _ kw_1_1) (htx _ kw_3_14) ⟨by decide, by decide, by decide +kernel⟩ ⟨(by show (16 * d + 6) + 1 ≤ 16 * d + 7; omega), (by show 8 + (3 + 11) + (400 * d + 100) ≤ 400 * d + 175; omega)⟩, (htx _ kw_3_16), (htx _ kp_B_keepSpare)⟩ ⟨xPre_blind, va_recv hK hP (ci := 0) rfl (q0 := 2) rfl, (fun U hU hW => ⟨rfl, xPre_of hZ hS hFc hPc hDc hK U hU hW⟩)⟩ rfl rfl hl.1 rfl (lv_room (Nat.le_of_ble_eq_true rfl)) dB_one_66 ⟨Nat.le_of_ble_eq_true rfl, Nat.le_of_ble_eq_true rfl⟩) hS (fun q _ h => hFc q h) hFc (fun r25 u9 t H1 locs ht hvm hr9 hB hz1 hk1 hS => ?_)
              obtain ⟨hP1, hK1, hD1⟩ := hB
              rw [ht] at hP1
              obtain ⟨hP, hD⟩ := xjoin (W := [(a15, .inr (2, [.ref a16, .int v22, .int v23])), (a16, .inl (cT 2, 4096, .inr (.inl f21))), (a0, .inr (0, [.ref a1, .ref a3, .ref a5, .ref a7, .ref a8, .ref b1, .int v19, .int o19.2])), (a1, .inr (1, [.ref a2, .int v1, .int v2])), (a2, .inl (cT 0, 4096, .inl f0)), (a3, .inr (1, [.ref a4, .int v4, .int v5])), (a4, .inl (cT 0, 4096, .inl f3)), (a5, .inr (1, [.ref a6, .int o22.2.2.2.1, .int o22.2.2.2.2])), (a6, .inl (cT 0, 4096, .inl o22.2.2.1)), (a7, .inl (cT 3, 8, .inr (.inr (.inr (.inr (va_up rf0 x1.toNatClampNeg (some a13))))))), (a8, .inr (3, [.ref a9, .ref a10, .ref o16.2.2.2.2.2.2.1, .ref o16.2.2.2.2.2.2.2.2.1, .int o16.2.2.2.2.2.2.2.2.2.1])), (a9, .inl (cT 1, 2048, .inl o16.2.2.2.2.1)), (a10, .inl (cT 1, 2048, .inl f10)), (o16.2.2.2.2.2.2.1, .inl (cT 1, 2048, .inl o16.2.2.2.2.2.1)), (o16.2.2.2.2.2.2.2.2.1, .inl (cT 1, 2048, .inl o16.2.2.2.2.2.2.2.1)), (a13, .inr (2, [.ref a14, .int o16.2.2.2.2.2.2.2.2.2.2.2.1, .int o16.2.2.2.2.2.2.2.2.2.2.2.2])), (a14, .inl (cT 2, 4096, .inr (.inl o16.2.2.2.2.2.2.2.2.2.2.1)))]) hP hD [2, 3, 4, 5, 6, 7, 8, 9, 10, 11, 12, 13, 14, 15, 16] [0, 1] 2 rfl rfl (by decide) (by decide) hk1 hFc hP1 hD1
              generalize H1 = H at hP hS ⊢
              rw [hr9]
              refine W.eq (g2 := F0 m 69 ls [.int o22.2.1]) rfl ?_
              refine lv_pop hx hb dB_one_69 rfl ?_
              obtain rfl := Option.some.inj hf
              exact absurd (show (0 : Nat) = 2 from hkd) (by decide)
            rw [if_neg hk24] at hf
            by_cases hk26 : o22.1 = 1
            · rw [if_pos hk26] at hf
              obtain rfl := Option.some.inj hf
              exact absurd (show (1 : Nat) = 2 from hkd) (by decide)
            rw [if_neg hk26] at hf
            exact nomatch hf
          rw [if_neg hk21] at hf
          by_cases hk28 : o19.1 = 1
          · rw [if_pos hk28] at hf
            obtain ⟨hPc, hDc, hFc⟩ := xcut (wc := [(a0, .inr (0, [.ref a1, .ref a3, .ref a5, .ref a7, .ref a8, .ref a13, .int v19, .int v20])), (a1, .inr (1, [.ref a2, .int v1, .int v2])), (a2, .inl (cT 0, 4096, .inl f0)), (a3, .inr (1, [.ref a4, .int v4, .int v5])), (a4, .inl (cT 0, 4096, .inl f3)), (a5, .inr (1, [.ref a6, .int o16.2.2.1, .int o16.2.2.2.1])), (a6, .inl (cT 0, 4096, .inl o16.2.1)), (a7, .inl (cT 3, 8, .inr (.inr (.inr (.inr rf0))))), (a8, .inr (3, [.ref a9, .ref a10, .ref o16.2.2.2.2.2.2.1, .ref o16.2.2.2.2.2.2.2.2.1, .int o16.2.2.2.2.2.2.2.2.2.1])), (a9, .inl (cT 1, 2048, .inl o16.2.2.2.2.1)), (a10, .inl (cT 1, 2048, .inl f10)), (o16.2.2.2.2.2.2.1, .inl (cT 1, 2048, .inl o16.2.2.2.2.2.1)), (o16.2.2.2.2.2.2.2.2.1, .inl (cT 1, 2048, .inl o16.2.2.2.2.2.2.2.1)), (a13, .inr (2, [.ref a14, .int o16.2.2.2.2.2.2.2.2.2.2.2.1, .int o16.2.2.2.2.2.2.2.2.2.2.2.2])), (a14, .inl (cT 2, 4096, .inr (.inl o16.2.2.2.2.2.2.2.2.2.2.1)))]) hP hD hS hA [0, 1, 2, 3, 4, 8, 9, 5, 10, 11, 12, 13, 14, 15, 16] rfl rfl (by decide)
            refine xx_thr (vx_runV (C := "ValueBench") (As := [.int o16.1]) (rest := []) ⟨hx, hb, hml, hown, htx⟩ (gB_demandDone_1 l hl9 D cT aK aV H.size n a0 a1 a2 a3 a4 a5 a6 a7 a8 a9 a10 a13 a14 rf0 o16.1 f0 v1 v2 f3 v4 v5 o16.2.1 o16.2.2.1 o16.2.2.2.1 o16.2.2.2.2.1 f10 o16.2.2.2.2.2.2.1 o16.2.2.2.2.2.1 o16.2.2.2.2.2.2.2.2.1 o16.2.2.2.2.2.2.2.1 o16.2.2.2.2.2.2.2.2.2.1 o16.2.2.2.2.2.2.2.2.2.2.1 o16.2.2.2.2.2.2.2.2.2.2.2.1 o16.2.2.2.2.2.2.2.2.2.2.2.2 v19 v20 o19 hq20 hk28) ⟨callB_of 1 htx (xw_goodC kw_3_222) rfl rfl rfl (htx _ kw_1_1) (htx _ kw_3_219) ⟨by decide, by decide, by decide +kernel⟩ ⟨Nat.le_of_ble_eq_true rfl, Nat.le_of_ble_eq_true rfl⟩, (htx _ kw_3_221), (htx _ kp_B_demandDone)⟩ ⟨xPre_blind, va_recv hK hP (ci := 0) rfl (q0 := 0) rfl, (fun U hU hW => ⟨rfl, xPre_of hZ hS hFc hPc hDc hK U hU hW⟩)⟩ rfl rfl hl.1 rfl (lv_room (Nat.le_of_ble_eq_true rfl)) dB_one_61 ⟨Nat.le_of_ble_eq_true rfl, Nat.le_of_ble_eq_true rfl⟩) hS hFc (fun q _ h => hFc q h) (fun E ce q9 u9 t H1 locs ht hvm _ hB hz1 hk1 hS hce hcv hcl => ?_)
            obtain ⟨rfl, hP1, hK1, hD1⟩ := hB
            rw [ht] at hP1
            obtain ⟨hP, hD⟩ := xjoin (W := [(a15, .inr (2, [.ref a16, .int v22, .int v23])), (a16, .inl (cT 2, 4096, .inr (.inl f21))), (a0, .inr (0, [.ref a1, .ref a3, .ref a5, .ref a7, .ref a8, .ref a13, .int v19, .int o19.2])), (a1, .inr (1, [.ref a2, .int v1, .int v2])), (a2, .inl (cT 0, 4096, .inl f0)), (a3, .inr (1, [.ref a4, .int v4, .int v5])), (a4, .inl (cT 0, 4096, .inl f3)), (a5, .inr (1, [.ref a6, .int o16.2.2.1, .int o16.2.2.2.1])), (a6, .inl (cT 0, 4096, .inl o16.2.1)), (a7, .inl (cT 3, 8, .inr (.inr (.inr (.inr rf0))))), (a8, .inr (3, [.ref a9, .ref a10, .ref o16.2.2.2.2.2.2.1, .ref o16.2.2.2.2.2.2.2.2.1, .int o16.2.2.2.2.2.2.2.2.2.1])), (a9, .inl (cT 1, 2048, .inl o16.2.2.2.2.1)), (a10, .inl (cT 1, 2048, .inl f10)), (o16.2.2.2.2.2.2.1, .inl (cT 1, 2048, .inl o16.2.2.2.2.2.1)), (o16.2.2.2.2.2.2.2.2.1, .inl (cT 1, 2048, .inl o16.2.2.2.2.2.2.2.1)), (a13, .inr (2, [.ref a14, .int o16.2.2.2.2.2.2.2.2.2.2.2.1, .int o16.2.2.2.2.2.2.2.2.2.2.2.2])), (a14, .inl (cT 2, 4096, .inr (.inl o16.2.2.2.2.2.2.2.2.2.2.1)))]) hP hD [0, 1, 2, 3, 4, 8, 9, 5, 10, 11, 12, 13, 14, 15, 16] [6, 7] 2 rfl rfl (by decide) (by decide) hk1 hFc hP1 hD1
            generalize H1 = H at hP hS hce ⊢
            obtain rfl := Option.some.inj hf
            obtain ⟨hP9, hD9⟩ := xsub (wc := [(a0, .inr (0, [.ref a1, .ref a3, .ref a5, .ref a7, .ref a8, .ref a13, .int v19, .int o19.2])), (a1, .inr (1, [.ref a2, .int v1, .int v2])), (a2, .inl (cT 0, 4096, .inl f0)), (a3, .inr (1, [.ref a4, .int v4, .int v5])), (a4, .inl (cT 0, 4096, .inl f3)), (a5, .inr (1, [.ref a6, .int o16.2.2.1, .int o16.2.2.2.1])), (a6, .inl (cT 0, 4096, .inl o16.2.1)), (a7, .inl (cT 3, 8, .inr (.inr (.inr (.inr rf0))))), (a8, .inr (3, [.ref a9, .ref a10, .ref o16.2.2.2.2.2.2.1, .ref o16.2.2.2.2.2.2.2.2.1, .int o16.2.2.2.2.2.2.2.2.2.1])), (a9, .inl (cT 1, 2048, .inl o16.2.2.2.2.1)), (a10, .inl (cT 1, 2048, .inl f10)), (o16.2.2.2.2.2.2.1, .inl (cT 1, 2048, .inl o16.2.2.2.2.2.1)), (o16.2.2.2.2.2.2.2.2.1, .inl (cT 1, 2048, .inl o16.2.2.2.2.2.2.2.1)), (a13, .inr (2, [.ref a14, .int o16.2.2.2.2.2.2.2.2.2.2.2.1, .int o16.2.2.2.2.2.2.2.2.2.2.2.2])), (a14, .inl (cT 2, 4096, .inr (.inl o16.2.2.2.2.2.2.2.2.2.2.1))), (a15, .inr (2, [.ref a16, .int v22, .int v23])), (a16, .inl (cT 2, 4096, .inr (.inl f21)))]) hP hD [2, 3, 4, 5, 6, 7, 8, 9, 10, 11, 12, 13, 14, 15, 16, 0, 1] rfl rfl (by decide)
            exact vx_out (E := "java/lang/ArithmeticException") (fun x h => (hne x h).elim) hlocks hce hcv hcl (fun t ht ha => ⟨(), trivial, ⟨rfl, by rw [ht]; exact hP9, va_K.moved ha hK, hD9⟩, hS.F ht⟩) hS.2.2 (Nat.le_of_ble_eq_true rfl) (Nat.le_of_ble_eq_true rfl)
          rw [if_neg hk28] at hf
          exact nomatch hf
        rw [if_neg hk12] at hf
        by_cases hk29 : o10 = 1
        · rw [if_pos hk29] at hf
          obtain rfl := Option.some.inj hf
          exact absurd (show (3 : Nat) = 2 from hkd) (by decide)
        rw [if_neg hk29] at hf
        exact nomatch hf
set_option maxHeartbeats 400000000 in
set_option maxRecDepth 100000 in
theorem gB_one_3 (l : Launch) (hl9 : l.stackTraces = false) (D : va_G) (cT : Nat → ClassId) (aK aV : Nat → Nat) (sz d n : Nat) (a0 : Nat) (a1 : Nat) (a2 : Nat) (a3 : Nat) (a4 : Nat) (a5 : Nat) (a6 : Nat) (a7 : Nat) (a8 : Nat) (a9 : Nat) (a10 : Nat) (a13 : Nat) (a14 : Nat) (a15 : Nat) (a16 : Nat) (rf0 : Nat → Option Nat) (b1 : Nat) (x1 : Int32) (x2 : Int32) (x3 : Int32) (f0 : Nat → Int32) (v1 : Int32) (v2 : Int32) (f3 : Nat → Int32) (v4 : Int32) (v5 : Int32) (f6 : Nat → Int32) (v7 : Int32) (v8 : Int32) (f9 : Nat → Int32) (f10 : Nat → Int32) (p11 : Nat) (f12 : Nat → Int32) (p13 : Nat) (f14 : Nat → Int32) (v15 : Int32) (f16 : Nat → Int64) (v17 : Int32) (v18 : Int32) (v19 : Int32) (v20 : Int32) (f21 : Nat → Int64) (v22 : Int32) (v23 : Int32) (hr1 : ¬ (x1 < 0 ∨ 8 ≤ x1.toNatClampNeg) → rf0 x1.toNatClampNeg = some b1) (hr3 : ¬ (x3 < 0 ∨ 8 ≤ x3.toNatClampNeg) → rf0 x3.toNatClampNeg = some a15) (out : Nat × (Nat → Int32) × Int32 × Int32 × (Nat → Int32) × (Nat → Int32) × Nat × (Nat → Int32) × Nat × Int32 × (Nat → Int64) × Int32 × Int32 × Int32) (hf : fB_one d n x1 x2 x3 f0 v1 v2 f3 v4 v5 f6 v7 v8 f9 f10 p11 f12 p13 f14 v15 f16 v17 v18 v19 v20 f21 v22 v23 = some out) (hkd : out.1 = 3) : xMetX l yB_one wyB_one (16 * d + 7) 4 22 (400 * d + 175) D cT aK aV sz [.ref a0, .int x1, .int x2, .int x3] [(a0, .inr (0, [.ref a1, .ref a3, .ref a5, .ref a7, .ref a8, .ref a13, .int v19, .int v20])), (a1, .inr (1, [.ref a2, .int v1, .int v2])), (a2, .inl (cT 0, 4096, .inl f0)), (a3, .inr (1, [.ref a4, .int v4, .int v5])), (a4, .inl (cT 0, 4096, .inl f3)), (a5, .inr (1, [.ref a6, .int v7, .int v8])), (a6, .inl (cT 0, 4096, .inl f6)), (a7, .inl (cT 3, 8, .inr (.inr (.inr (.inr rf0))))), (a8, .inr (3, [.ref a9, .ref a10, .ref p11, .ref p13, .int v15])), (a9, .inl (cT 1, 2048, .inl f9)), (a10, .inl (cT 1, 2048, .inl f10)), (p11, .inl (cT 1, 2048, .inl f12)), (p13, .inl (cT 1, 2048, .inl f14)), (a13, .inr (2, [.ref a14, .int v17, .int v18])), (a14, .inl (cT 2, 4096, .inr (.inl f16))), (a15, .inr (2, [.ref a16, .int v22, .int v23])), (a16, .inl (cT 2, 4096, .inr (.inl f21)))] "java/lang/IllegalArgumentException" (fun A t => xB D xcl cT A [(a0, .inr (0, [.ref a1, .ref a3, .ref a5, .ref a7, .ref a8, .ref a13, .int v19, .int out.2.2.2.2.2.2.2.2.2.2.2.2.2])), (a1, .inr (1, [.ref a2, .int v1, .int v2])), (a2, .inl (cT 0, 4096, .inl f0)), (a3, .inr (1, [.ref a4, .int v4, .int v5])), (a4, .inl (cT 0, 4096, .inl f3)), (a5, .inr (1, [.ref a6, .int out.2.2.1, .int out.2.2.2.1])), (a6, .inl (cT 0, 4096, .inl out.2.1)), (a7, .inl (cT 3, 8, .inr (.inr (.inr (.inr rf0))))), (a8, .inr (3, [.ref a9, .ref a10, .ref out.2.2.2.2.2.2.1, .ref out.2.2.2.2.2.2.2.2.1, .int out.2.2.2.2.2.2.2.2.2.1])), (a9, .inl (cT 1, 2048, .inl out.2.2.2.2.1)), (a10, .inl (cT 1, 2048, .inl f10)), (out.2.2.2.2.2.2.1, .inl (cT 1, 2048, .inl out.2.2.2.2.2.1)), (out.2.2.2.2.2.2.2.2.1, .inl (cT 1, 2048, .inl out.2.2.2.2.2.2.2.1)), (a13, .inr (2, [.ref a14, .int out.2.2.2.2.2.2.2.2.2.2.2.1, .int out.2.2.2.2.2.2.2.2.2.2.2.2.1])), (a14, .inl (cT 2, 4096, .inr (.inl out.2.2.2.2.2.2.2.2.2.2.1))), (a15, .inr (2, [.ref a16, .int v22, .int v23])), (a16, .inl (cT 2, 4096, .inr (.inl f21)))] t) := by
  refine vx_ofW (cc := prog_1_method_9_code) (maxL := 4) (ret := none) (by decide) rfl ?_
  intro p e s m args below meth c s₁ B hml hne hv
  obtain ⟨rfl, hsz, hZ, hP, hK, hD0⟩ := hv
  have hx := B.exec
  have hb := B.bytes
  have hr := B.returns
  have hts := atoms_spec (ws := wyB_one) B.pre
  have htx := fun w h => hts w (List.mem_cons_of_mem _ h)
  have hown : s.vm.findClass "ValueBench" = some m.cls := findClass_of_methodNamed B.named
  have hlocks := B.notSynchronized
  subst hsz
  have hD := hD0.self (sz := s.heap.size)
  generalize hAe : va_A [(a0, .inr (0, [.ref a1, .ref a3, .ref a5, .ref a7, .ref a8, .ref a13, .int v19, .int v20])), (a1, .inr (1, [.ref a2, .int v1, .int v2])), (a2, .inl (cT 0, 4096, .inl f0)), (a3, .inr (1, [.ref a4, .int v4, .int v5])), (a4, .inl (cT 0, 4096, .inl f3)), (a5, .inr (1, [.ref a6, .int v7, .int v8])), (a6, .inl (cT 0, 4096, .inl f6)), (a7, .inl (cT 3, 8, .inr (.inr (.inr (.inr rf0))))), (a8, .inr (3, [.ref a9, .ref a10, .ref p11, .ref p13, .int v15])), (a9, .inl (cT 1, 2048, .inl f9)), (a10, .inl (cT 1, 2048, .inl f10)), (p11, .inl (cT 1, 2048, .inl f12)), (p13, .inl (cT 1, 2048, .inl f14)), (a13, .inr (2, [.ref a14, .int v17, .int v18])), (a14, .inl (cT 2, 4096, .inr (.inl f16))), (a15, .inr (2, [.ref a16, .int v22, .int v23])), (a16, .inl (cT 2, 4096, .inr (.inl f21)))] s.heap.size = A at hD hZ ⊢
  have hA : ∀ q : Nat, s.heap.size ≤ q → A q := fun q h => by rw [← hAe]; exact Or.inr h
  have hS : va_S A s.heap s.heap [] := va_S.rf
  have hP : va_P D xcl [(a0, .inr (0, [.ref a1, .ref a3, .ref a5, .ref a7, .ref a8, .ref a13, .int v19, .int v20])), (a1, .inr (1, [.ref a2, .int v1, .int v2])), (a2, .inl (cT 0, 4096, .inl f0)), (a3, .inr (1, [.ref a4, .int v4, .int v5])), (a4, .inl (cT 0, 4096, .inl f3)), (a5, .inr (1, [.ref a6, .int v7, .int v8])), (a6, .inl (cT 0, 4096, .inl f6)), (a7, .inl (cT 3, 8, .inr (.inr (.inr (.inr rf0))))), (a8, .inr (3, [.ref a9, .ref a10, .ref p11, .ref p13, .int v15])), (a9, .inl (cT 1, 2048, .inl f9)), (a10, .inl (cT 1, 2048, .inl f10)), (p11, .inl (cT 1, 2048, .inl f12)), (p13, .inl (cT 1, 2048, .inl f14)), (a13, .inr (2, [.ref a14, .int v17, .int v18])), (a14, .inl (cT 2, 4096, .inr (.inl f16))), (a15, .inr (2, [.ref a16, .int v22, .int v23])), (a16, .inl (cT 2, 4096, .inr (.inl f21)))] s.heap := hP
  have hl := lv_entry ([.ref a0, .int x1, .int x2, .int x3]) (n := 4) (Nat.le_of_ble_eq_true rfl)
  rw [lg_entry_eq]
  generalize (lg_sl ([.ref a0, .int x1, .int x2, .int x3]) ++ List.replicate (4 - (lg_sl ([.ref a0, .int x1, .int x2, .int x3])).length) Slot.unset).toArray = ls at hl ⊢
  have hl : lv_has ls 4 [(0, .ref a0), (1, .int x1), (2, .int x2), (3, .int x3)] := hl
  unfold fB_one at hf
  refine lv_iload_n hx hb dB_one_0 rfl (lv_at hl 1 rfl) ?_
  obtain ⟨o1, hq2, hf⟩ := xbind hf
  obtain ⟨hPc, hDc, hFc⟩ := xcut (wc := []) hP hD hS hA [] rfl rfl (by decide)
  refine va_calli (va_runS (As := [.int x1]) (rest := []) ⟨hx, hb, hml, hown, htx⟩ (gB_isRegister l hl9 D cT aK aV s.heap.size n x1 o1 hq2) ⟨callB_of 1 htx (xw_goodC kw_2_18) rfl rfl rfl (htx _ kw_1_1) (htx _ kw_2_16) ⟨by decide, by decide, by decide +kernel⟩ ⟨Nat.le_of_ble_eq_true rfl, Nat.le_of_ble_eq_true rfl⟩, htx _ kw_2_17⟩ ⟨xPre_blind, (fun U hU hW => ⟨rfl, xPre_of hZ hS hFc hPc hDc hK U hU hW⟩)⟩ rfl rfl hl.1 rfl (lv_room (Nat.le_of_ble_eq_true rfl)) dB_one_1 ⟨Nat.le_of_ble_eq_true rfl, Nat.le_of_ble_eq_true rfl⟩) hS (fun q _ h => hFc q h) hFc (fun r3 u9 t H1 locs ht hvm hr9 hB hz1 hk1 hS => ?_)
  obtain ⟨hP1, hK1, hD1⟩ := hB
  rw [ht] at hP1
  obtain ⟨hP, hD⟩ := xjoin (W := [(a0, .inr (0, [.ref a1, .ref a3, .ref a5, .ref a7, .ref a8, .ref a13, .int v19, .int v20])), (a1, .inr (1, [.ref a2, .int v1, .int v2])), (a2, .inl (cT 0, 4096, .inl f0)), (a3, .inr (1, [.ref a4, .int v4, .int v5])), (a4, .inl (cT 0, 4096, .inl f3)), (a5, .inr (1, [.ref a6, .int v7, .int v8])), (a6, .inl (cT 0, 4096, .inl f6)), (a7, .inl (cT 3, 8, .inr (.inr (.inr (.inr rf0))))), (a8, .inr (3, [.ref a9, .ref a10, .ref p11, .ref p13, .int v15])), (a9, .inl (cT 1, 2048, .inl f9)), (a10, .inl (cT 1, 2048, .inl f10)), (p11, .inl (cT 1, 2048, .inl f12)), (p13, .inl (cT 1, 2048, .inl f14)), (a13, .inr (2, [.ref a14, .int v17, .int v18])), (a14, .inl (cT 2, 4096, .inr (.inl f16))), (a15, .inr (2, [.ref a16, .int v22, .int v23])), (a16, .inl (cT 2, 4096, .inr (.inl f21)))]) hP hD [] [0, 1, 2, 3, 4, 5, 6, 7, 8, 9, 10, 11, 12, 13, 14, 15, 16] 17 rfl rfl (by decide) (by decide) hk1 hFc hP1 hD1
  generalize H1 = H at hP hS ⊢
  rw [hr9]
  refine W.eq (g2 := F0 m 4 ls [.int o1]) rfl ?_
  refine lv_if_eq (tgt := 27) hx hb dB_one_4 (by decide) (fun hc => ?_) (fun hc => ?_)
  · rw [if_pos hc] at hf
    refine lv_iconst (v := 0) hx hb dB_one_27 (by decide) ?_
    obtain ⟨o4, hq5, hf⟩ := xbind hf
    by_cases hk6 : o4 = 0
    · rw [if_pos hk6] at hf
      obtain ⟨hPc, hDc, hFc⟩ := xcut (wc := []) hP hD hS hA [] rfl rfl (by decide)
      refine va_callv (va_runS (As := [.int 0]) (rest := []) ⟨hx, hb, hml, hown, htx⟩ (gB_demand l hl9 D cT aK aV H.size n (0 : Int32) o4 hq5 hk6) ⟨callB_of 1 htx (xw_goodC kw_1_221) rfl rfl rfl (htx _ kw_1_1) (htx _ kw_1_219) ⟨by decide, by decide, by decide +kernel⟩ ⟨Nat.le_of_ble_eq_true rfl, Nat.le_of_ble_eq_true rfl⟩, htx _ kw_1_220⟩ ⟨xPre_blind, (fun U hU hW => ⟨rfl, xPre_of hZ hS hFc hPc hDc hK U hU hW⟩)⟩ rfl rfl hl.1 rfl (lv_room (Nat.le_of_ble_eq_true rfl)) dB_one_28 ⟨Nat.le_of_ble_eq_true rfl, Nat.le_of_ble_eq_true rfl⟩) hS (fun q _ h => hFc q h) hFc (fun u9 t H1 locs ht hvm hr9 hB hz1 hk1 hS => ?_)
      obtain ⟨hP1, hK1, hD1⟩ := hB
      rw [ht] at hP1
      obtain ⟨hP, hD⟩ := xjoin (W := [(a0, .inr (0, [.ref a1, .ref a3, .ref a5, .ref a7, .ref a8, .ref a13, .int v19, .int v20])), (a1, .inr (1, [.ref a2, .int v1, .int v2])), (a2, .inl (cT 0, 4096, .inl f0)), (a3, .inr (1, [.ref a4, .int v4, .int v5])), (a4, .inl (cT 0, 4096, .inl f3)), (a5, .inr (1, [.ref a6, .int v7, .int v8])), (a6, .inl (cT 0, 4096, .inl f6)), (a7, .inl (cT 3, 8, .inr (.inr (.inr (.inr rf0))))), (a8, .inr (3, [.ref a9, .ref a10, .ref p11, .ref p13, .int v15])), (a9, .inl (cT 1, 2048, .inl f9)), (a10, .inl (cT 1, 2048, .inl f10)), (p11, .inl (cT 1, 2048, .inl f12)), (p13, .inl (cT 1, 2048, .inl f14)), (a13, .inr (2, [.ref a14, .int v17, .int v18])), (a14, .inl (cT 2, 4096, .inr (.inl f16))), (a15, .inr (2, [.ref a16, .int v22, .int v23])), (a16, .inl (cT 2, 4096, .inr (.inl f21)))]) hP hD [] [0, 1, 2, 3, 4, 5, 6, 7, 8, 9, 10, 11, 12, 13, 14, 15, 16] 17 rfl rfl (by decide) (by decide) hk1 hFc hP1 hD1
      generalize H1 = H at hP hS ⊢
      refine lv_aload_n hx hb dB_one_31 rfl (lv_at hl 0 rfl) ?_
      refine va_get (D := D) (ci := 0) (v := .ref a13) (C := "ValueBench") (T := TB) (N := 8) hx hb htx inB hown hK hP 0 rfl rfl 5 (by decide) (htx _ kw_1_100) (fun _ h9 => h9) rfl dB_one_32 ?_
      obtain ⟨o7, hq8, hf⟩ := xbind hf
      obtain ⟨hPc, hDc, hFc⟩ := xcut (wc := [(a13, .inr (2, [.ref a14, .int v17, .int v18])), (a14, .inl (cT 2, 4096, .inr (.inl f16)))]) hP hD hS hA [13, 14] rfl rfl (by decide)
      refine va_callv (va_runV (C := "ValueBench$Row") (As := []) (rest := []) ⟨hx, hb, hml, hown, htx⟩ (gR_clear l hl9 D cT aK aV H.size n a13 a14 f16 v17 v18 o7 hq8) ⟨callB_of 0 htx (xw_goodC kw_2_22) rfl rfl rfl (htx _ kw_1_4) (htx _ kw_2_19) ⟨by decide, by decide, by decide +kernel⟩ ⟨Nat.le_of_ble_eq_true rfl, Nat.le_of_ble_eq_true rfl⟩, (htx _ kw_2_20), (htx _ kw_2_21)⟩ ⟨xPre_blind, va_recv hK hP (ci := 2) rfl (q0 := 13) rfl, (fun U hU hW => ⟨rfl, xPre_of hZ hS hFc hPc hDc hK U hU hW⟩)⟩ rfl rfl hl.1 rfl (lv_room (Nat.le_of_ble_eq_true rfl)) dB_one_35 ⟨Nat.le_of_ble_eq_true rfl, Nat.le_of_ble_eq_true rfl⟩) hS (fun q _ h => hFc q h) hFc (fun u9 t H1 locs ht hvm hr9 hB hz1 hk1 hS => ?_)
      obtain ⟨hP1, hK1, hD1⟩ := hB
      rw [ht] at hP1
      obtain ⟨hP, hD⟩ := xjoin (W := [(a0, .inr (0, [.ref a1, .ref a3, .ref a5, .ref a7, .ref a8, .ref a13, .int v19, .int v20])), (a1, .inr (1, [.ref a2, .int v1, .int v2])), (a2, .inl (cT 0, 4096, .inl f0)), (a3, .inr (1, [.ref a4, .int v4, .int v5])), (a4, .inl (cT 0, 4096, .inl f3)), (a5, .inr (1, [.ref a6, .int v7, .int v8])), (a6, .inl (cT 0, 4096, .inl f6)), (a7, .inl (cT 3, 8, .inr (.inr (.inr (.inr rf0))))), (a8, .inr (3, [.ref a9, .ref a10, .ref p11, .ref p13, .int v15])), (a9, .inl (cT 1, 2048, .inl f9)), (a10, .inl (cT 1, 2048, .inl f10)), (p11, .inl (cT 1, 2048, .inl f12)), (p13, .inl (cT 1, 2048, .inl f14)), (a15, .inr (2, [.ref a16, .int v22, .int v23])), (a16, .inl (cT 2, 4096, .inr (.inl f21))), (a13, .inr (2, [.ref a14, .int o7.1, .int o7.2])), (a14, .inl (cT 2, 4096, .inr (.inl f16)))]) hP hD [13, 14] [0, 1, 2, 3, 4, 5, 6, 7, 8, 9, 10, 11, 12, 15, 16] 15 rfl rfl (by decide) (by decide) hk1 hFc hP1 hD1
      generalize H1 = H at hP hS ⊢
      refine lv_aload_n hx hb dB_one_38 rfl (lv_at hl 0 rfl) ?_
      refine lv_iload_n hx hb dB_one_39 rfl (lv_at hl 2 rfl) ?_
      refine lv_aload_n hx hb dB_one_40 rfl (lv_at hl 0 rfl) ?_
      refine va_get (D := D) (ci := 0) (v := .ref a7) (C := "ValueBench") (T := TB) (N := 8) hx hb htx inB hown hK hP 0 rfl rfl 3 (by decide) (htx _ kw_1_98) (fun _ h9 => h9) rfl dB_one_41 ?_
      refine lv_iload_n hx hb dB_one_44 rfl (lv_at hl 3 rfl) ?_
      obtain ⟨hg9, hf⟩ := xifn hf
      refine va_aldq hx hb hK hP 7 3 rfl rfl hg9 dB_one_45 ?_
      refine W.eq (g2 := F0 m 46 ls [va_rf (rf0 x3.toNatClampNeg), .int x2, .ref a0]) rfl ?_
      rw [hr3 hg9]
      refine W.eq (g2 := F0 m 46 ls [.ref a15, .int x2, .ref a0]) rfl ?_
      refine lv_aload_n hx hb dB_one_46 rfl (lv_at hl 0 rfl) ?_
      refine va_get (D := D) (ci := 0) (v := .ref a5) (C := "ValueBench") (T := TB) (N := 8) hx hb htx inB hown hK hP 0 rfl rfl 2 (by decide) (htx _ kw_1_97) (fun _ h9 => h9) rfl dB_one_47 ?_
      refine lv_aload_n hx hb dB_one_50 rfl (lv_at hl 0 rfl) ?_
      refine va_get (D := D) (ci := 0) (v := .ref a8) (C := "ValueBench") (T := TB) (N := 8) hx hb htx inB hown hK hP 0 rfl rfl 4 (by decide) (htx _ kw_1_99) (fun _ h9 => h9) rfl dB_one_51 ?_
      refine lv_aload_n hx hb dB_one_54 rfl (lv_at hl 0 rfl) ?_
      refine va_get (D := D) (ci := 0) (v := .ref a13) (C := "ValueBench") (T := TB) (N := 8) hx hb htx inB hown hK hP 0 rfl rfl 5 (by decide) (htx _ kw_1_100) (fun _ h9 => h9) rfl dB_one_55 ?_
      obtain ⟨o10, hq11, hf⟩ := xbind hf
      obtain ⟨hPc, hDc, hFc⟩ := xcut (wc := [(a15, .inr (2, [.ref a16, .int v22, .int v23])), (a16, .inl (cT 2, 4096, .inr (.inl f21))), (a5, .inr (1, [.ref a6, .int v7, .int v8])), (a6, .inl (cT 0, 4096, .inl f6)), (a8, .inr (3, [.ref a9, .ref a10, .ref p11, .ref p13, .int v15])), (a9, .inl (cT 1, 2048, .inl f9)), (a10, .inl (cT 1, 2048, .inl f10)), (p11, .inl (cT 1, 2048, .inl f12)), (p13, .inl (cT 1, 2048, .inl f14)), (a13, .inr (2, [.ref a14, .int o7.1, .int o7.2])), (a14, .inl (cT 2, 4096, .inr (.inl f16)))]) hP hD hS hA [13, 14, 5, 6, 8, 9, 10, 11, 12, 15, 16] rfl rfl (by decide)
      refine va_calli (va_runS (As := [.int x2, .ref a15, .ref a5, .ref a8, .ref a13]) (rest := [.ref a0]) ⟨hx, hb, hml, hown, htx⟩ (gG_apply l hl9 D cT aK aV H.size d n a15 a16 a5 a6 a8 a9 a10 a13 a14 x2 f21 v22 v23 f6 v7 v8 f9 f10 p11 f12 p13 f14 v15 f16 o7.1 o7.2 o10 hq11) ⟨callB_of 5 htx (xw_goodC kw_4_28) rfl rfl rfl (htx _ kw_1_26) (htx _ kw_4_26) ⟨by decide, by decide, by decide +kernel⟩ ⟨(by show (16 * d + 5) + 1 ≤ 16 * d + 7; omega), (by show 8 + (5 + 11) + (400 * d + 151) ≤ 400 * d + 175; omega)⟩, htx _ kw_4_27⟩ ⟨xPre_blind, (fun U hU hW => ⟨rfl, xPre_of hZ hS hFc hPc hDc hK U hU hW⟩)⟩ rfl rfl hl.1 rfl (lv_room (Nat.le_of_ble_eq_true rfl)) dB_one_58 ⟨Nat.le_of_ble_eq_true rfl, Nat.le_of_ble_eq_true rfl⟩) hS (fun q _ h => hFc q h) hFc (fun r12 u9 t H1 locs ht hvm hr9 hB hz1 hk1 hS => ?_)
      obtain ⟨hP1, hK1, hD1⟩ := hB
      rw [ht] at hP1
      obtain ⟨hP, hD⟩ := xjoin (W := [(a0, .inr (0, [.ref a1, .ref a3, .ref a5, .ref a7, .ref a8, .ref a13, .int v19, .int v20])), (a1, .inr (1, [.ref a2, .int v1, .int v2])), (a2, .inl (cT 0, 4096, .inl f0)), (a3, .inr (1, [.ref a4, .int v4, .int v5])), (a4, .inl (cT 0, 4096, .inl f3)), (a7, .inl (cT 3, 8, .inr (.inr (.inr (.inr rf0))))), (a15, .inr (2, [.ref a16, .int v22, .int v23])), (a16, .inl (cT 2, 4096, .inr (.inl f21))), (a5, .inr (1, [.ref a6, .int o10.2.2.1, .int o10.2.2.2.1])), (a6, .inl (cT 0, 4096, .inl o10.2.1)), (a8, .inr (3, [.ref a9, .ref a10, .ref o10.2.2.2.2.2.2.1, .ref o10.2.2.2.2.2.2.2.2.1, .int o10.2.2.2.2.2.2.2.2.2.1])), (a9, .inl (cT 1, 2048, .inl o10.2.2.2.2.1)), (a10, .inl (cT 1, 2048, .inl f10)), (o10.2.2.2.2.2.2.1, .inl (cT 1, 2048, .inl o10.2.2.2.2.2.1)), (o10.2.2.2.2.2.2.2.2.1, .inl (cT 1, 2048, .inl o10.2.2.2.2.2.2.2.1)), (a13, .inr (2, [.ref a14, .int o10.2.2.2.2.2.2.2.2.2.2.2.1, .int o10.2.2.2.2.2.2.2.2.2.2.2.2])), (a14, .inl (cT 2, 4096, .inr (.inl o10.2.2.2.2.2.2.2.2.2.2.1)))]) hP hD [13, 14, 5, 6, 8, 9, 10, 11, 12, 15, 16] [0, 1, 2, 3, 4, 7] 6 rfl rfl (by decide) (by decide) hk1 hFc hP1 hD1
      generalize H1 = H at hP hS ⊢
      rw [hr9]
      refine W.eq (g2 := F0 m 61 ls [.int o10.1, .ref a0]) rfl ?_
      obtain ⟨o13, hq14, hf⟩ := xbind hf
      by_cases hk15 : o13.1 = 0
      · rw [if_pos hk15] at hf
        obtain ⟨hPc, hDc, hFc⟩ := xcut (wc := [(a0, .inr (0, [.ref a1, .ref a3, .ref a5, .ref a7, .ref a8, .ref a13, .int v19, .int v20])), (a1, .inr (1, [.ref a2, .int v1, .int v2])), (a2, .inl (cT 0, 4096, .inl f0)), (a3, .inr (1, [.ref a4, .int v4, .int v5])), (a4, .inl (cT 0, 4096, .inl f3)), (a5, .inr (1, [.ref a6, .int o10.2.2.1, .int o10.2.2.2.1])), (a6, .inl (cT 0, 4096, .inl o10.2.1)), (a7, .inl (cT 3, 8, .inr (.inr (.inr (.inr rf0))))), (a8, .inr (3, [.ref a9, .ref a10, .ref o10.2.2.2.2.2.2.1, .ref o10.2.2.2.2.2.2.2.2.1, .int o10.2.2.2.2.2.2.2.2.2.1])), (a9, .inl (cT 1, 2048, .inl o10.2.2.2.2.1)), (a10, .inl (cT 1, 2048, .inl f10)), (o10.2.2.2.2.2.2.1, .inl (cT 1, 2048, .inl o10.2.2.2.2.2.1)), (o10.2.2.2.2.2.2.2.2.1, .inl (cT 1, 2048, .inl o10.2.2.2.2.2.2.2.1)), (a13, .inr (2, [.ref a14, .int o10.2.2.2.2.2.2.2.2.2.2.2.1, .int o10.2.2.2.2.2.2.2.2.2.2.2.2])), (a14, .inl (cT 2, 4096, .inr (.inl o10.2.2.2.2.2.2.2.2.2.2.1)))]) hP hD hS hA [0, 1, 2, 3, 4, 8, 9, 5, 10, 11, 12, 13, 14, 15, 16] rfl rfl (by decide)
        refine va_callv (va_runV (C := "ValueBench") (As := [.int o10.1]) (rest := []) ⟨hx, hb, hml, hown, htx⟩ (gB_demandDone l hl9 D cT aK aV H.size n a0 a1 a2 a3 a4 a5 a6 a7 a8 a9 a10 a13 a14 rf0 o10.1 f0 v1 v2 f3 v4 v5 o10.2.1 o10.2.2.1 o10.2.2.2.1 o10.2.2.2.2.1 f10 o10.2.2.2.2.2.2.1 o10.2.2.2.2.2.1 o10.2.2.2.2.2.2.2.2.1 o10.2.2.2.2.2.2.2.1 o10.2.2.2.2.2.2.2.2.2.1 o10.2.2.2.2.2.2.2.2.2.2.1 o10.2.2.2.2.2.2.2.2.2.2.2.1 o10.2.2.2.2.2.2.2.2.2.2.2.2 v19 v20 o13 hq14 hk15) ⟨callB_of 1 htx (xw_goodC kw_3_222) rfl rfl rfl (htx _ kw_1_1) (htx _ kw_3_219) ⟨by decide, by decide, by decide +kernel⟩ ⟨Nat.le_of_ble_eq_true rfl, Nat.le_of_ble_eq_true rfl⟩, (htx _ kw_3_221), (htx _ kp_B_demandDone)⟩ ⟨xPre_blind, va_recv hK hP (ci := 0) rfl (q0 := 0) rfl, (fun U hU hW => ⟨rfl, xPre_of hZ hS hFc hPc hDc hK U hU hW⟩)⟩ rfl rfl hl.1 rfl (lv_room (Nat.le_of_ble_eq_true rfl)) dB_one_61 ⟨Nat.le_of_ble_eq_true rfl, Nat.le_of_ble_eq_true rfl⟩) hS (fun q _ h => hFc q h) hFc (fun u9 t H1 locs ht hvm hr9 hB hz1 hk1 hS => ?_)
        obtain ⟨hP1, hK1, hD1⟩ := hB
        rw [ht] at hP1
        obtain ⟨hP, hD⟩ := xjoin (W := [(a15, .inr (2, [.ref a16, .int v22, .int v23])), (a16, .inl (cT 2, 4096, .inr (.inl f21))), (a0, .inr (0, [.ref a1, .ref a3, .ref a5, .ref a7, .ref a8, .ref a13, .int v19, .int o13.2])), (a1, .inr (1, [.ref a2, .int v1, .int v2])), (a2, .inl (cT 0, 4096, .inl f0)), (a3, .inr (1, [.ref a4, .int v4, .int v5])), (a4, .inl (cT 0, 4096, .inl f3)), (a5, .inr (1, [.ref a6, .int o10.2.2.1, .int o10.2.2.2.1])), (a6, .inl (cT 0, 4096, .inl o10.2.1)), (a7, .inl (cT 3, 8, .inr (.inr (.inr (.inr rf0))))), (a8, .inr (3, [.ref a9, .ref a10, .ref o10.2.2.2.2.2.2.1, .ref o10.2.2.2.2.2.2.2.2.1, .int o10.2.2.2.2.2.2.2.2.2.1])), (a9, .inl (cT 1, 2048, .inl o10.2.2.2.2.1)), (a10, .inl (cT 1, 2048, .inl f10)), (o10.2.2.2.2.2.2.1, .inl (cT 1, 2048, .inl o10.2.2.2.2.2.1)), (o10.2.2.2.2.2.2.2.2.1, .inl (cT 1, 2048, .inl o10.2.2.2.2.2.2.2.1)), (a13, .inr (2, [.ref a14, .int o10.2.2.2.2.2.2.2.2.2.2.2.1, .int o10.2.2.2.2.2.2.2.2.2.2.2.2])), (a14, .inl (cT 2, 4096, .inr (.inl o10.2.2.2.2.2.2.2.2.2.2.1)))]) hP hD [0, 1, 2, 3, 4, 8, 9, 5, 10, 11, 12, 13, 14, 15, 16] [6, 7] 2 rfl rfl (by decide) (by decide) hk1 hFc hP1 hD1
        generalize H1 = H at hP hS ⊢
        refine lv_aload_n hx hb dB_one_64 rfl (lv_at hl 0 rfl) ?_
        refine lv_iload_n hx hb dB_one_65 rfl (lv_at hl 1 rfl) ?_
        obtain ⟨o16, hq17, hf⟩ := xbind hf
        by_cases hk18 : o16.1 = 0
        · rw [if_pos hk18] at hf
          obtain ⟨hPc, hDc, hFc⟩ := xcut (wc := [(a0, .inr (0, [.ref a1, .ref a3, .ref a5, .ref a7, .ref a8, .ref a13, .int v19, .int o13.2])), (a1, .inr (1, [.ref a2, .int v1, .int v2])), (a2, .inl (cT 0, 4096, .inl f0)), (a3, .inr (1, [.ref a4, .int v4, .int v5])), (a4, .inl (cT 0, 4096, .inl f3)), (a5, .inr (1, [.ref a6, .int o10.2.2.1, .int o10.2.2.2.1])), (a6, .inl (cT 0, 4096, .inl o10.2.1)), (a7, .inl (cT 3, 8, .inr (.inr (.inr (.inr rf0))))), (a8, .inr (3, [.ref a9, .ref a10, .ref o10.2.2.2.2.2.2.1, .ref o10.2.2.2.2.2.2.2.2.1, .int o10.2.2.2.2.2.2.2.2.2.1])), (a9, .inl (cT 1, 2048, .inl o10.2.2.2.2.1)), (a10, .inl (cT 1, 2048, .inl f10)), (o10.2.2.2.2.2.2.1, .inl (cT 1, 2048, .inl o10.2.2.2.2.2.1)), (o10.2.2.2.2.2.2.2.2.1, .inl (cT 1, 2048, .inl o10.2.2.2.2.2.2.2.1)), (a13, .inr (2, [.ref a14, .int o10.2.2.2.2.2.2.2.2.2.2.2.1, .int o10.2.2.2.2.2.2.2.2.2.2.2.2])), (a14, .inl (cT 2, 4096, .inr (.inl o10.2.2.2.2.2.2.2.2.2.2.1)))]) hP hD hS hA [2, 3, 4, 5, 6, 7, 8, 9, 10, 11, 12, 13, 14, 15, 16] rfl rfl (by decide)
          refine va_calli (va_runV (C := "ValueBench") (As := [.int x1]) (rest := []) ⟨hx, hb, hml, hown, htx⟩ (gB_keepSpare l hl9 D cT aK aV H.size d n a0 a1 a2 a3 a4 a5 a6 a7 a8 a9 a10 a13 a14 rf0 b1 x1 f0 v1 v2 f3 v4 v5 o10.2.1 o10.2.2.1 o10.2.2.2.1 o10.2.2.2.2.1 f10 o10.2.2.2.2.2.2.1 o10.2.2.2.2.2.1 o10.2.2.2.2.2.2.2.2.1 o10.2.2.2.2.2.2.2.1 o10.2.2.2.2.2.2.2.2.2.1 o10.2.2.2.2.2.2.2.2.2.2.1 o10.2.2.2.2.2.2.2.2.2.2.2.1 o10.2.2.2.2.2.2.2.2.2.2.2.2 v19 o13.2 hr1 o16 hq17 hk18) ⟨callB_of 1 htx (xw_goodC kw_3_17) rfl rfl rfl (htx _ kw_1_1) (htx _ kw_3_14) ⟨by decide, by decide, by decide +kernel⟩ ⟨(by show (16 * d + 6) + 1 ≤ 16 * d + 7; omega), (by show 8 + (3 + 11) + (400 * d + 100) ≤ 400 * d + 175; omega)⟩, (htx _ kw_3_16), (htx _ kp_B_keepSpare)⟩ ⟨xPre_blind, va_recv hK hP (ci := 0) rfl (q0 := 2) rfl, (fun U hU hW => ⟨rfl, xPre_of hZ hS hFc hPc hDc hK U hU hW⟩)⟩ rfl rfl hl.1 rfl (lv_room (Nat.le_of_ble_eq_true rfl)) dB_one_66 ⟨Nat.le_of_ble_eq_true rfl, Nat.le_of_ble_eq_true rfl⟩) hS (fun q _ h => hFc q h) hFc (fun r19 u9 t H1 locs ht hvm hr9 hB hz1 hk1 hS => ?_)
          obtain ⟨hP1, hK1, hD1⟩ := hB
          rw [ht] at hP1
          obtain ⟨hP, hD⟩ := xjoin (W := [(a15, .inr (2, [.ref a16, .int v22, .int v23])), (a16, .inl (cT 2, 4096, .inr (.inl f21))), (a0, .inr (0, [.ref a1, .ref a3, .ref a5, .ref a7, .ref a8, .ref b1, .int v19, .int o13.2])), (a1, .inr (1, [.ref a2, .int v1, .int v2])), (a2, .inl (cT 0, 4096, .inl f0)), (a3, .inr (1, [.ref a4, .int v4, .int v5])), (a4, .inl (cT 0, 4096, .inl f3)), (a5, .inr (1, [.ref a6, .int o16.2.2.2.1, .int o16.2.2.2.2])), (a6, .inl (cT 0, 4096, .inl o16.2.2.1)), (a7, .inl (cT 3, 8, .inr (.inr (.inr (.inr (va_up rf0 x1.toNatClampNeg (some a13))))))), (a8, .inr (3, [.ref a9, .ref a10, .ref o10.2.2.2.2.2.2.1, .ref o10.2.2.2.2.2.2.2.2.1, .int o10.2.2.2.2.2.2.2.2.2.1])), (a9, .inl (cT 1, 2048, .inl o10.2.2.2.2.1)), (a10, .inl (cT 1, 2048, .inl f10)), (o10.2.2.2.2.2.2.1, .inl (cT 1, 2048, .inl o10.2.2.2.2.2.1)), (o10.2.2.2.2.2.2.2.2.1, .inl (cT 1, 2048, .inl o10.2.2.2.2.2.2.2.1)), (a13, .inr (2, [.ref a14, .int o10.2.2.2.2.2.2.2.2.2.2.2.1, .int o10.2.2.2.2.2.2.2.2.2.2.2.2])), (a14, .inl (cT 2, 4096, .inr (.inl o10.2.2.2.2.2.2.2.2.2.2.1)))]) hP hD [2, 3, 4, 5, 6, 7, 8, 9, 10, 11, 12, 13, 14, 15, 16] [0, 1] 2 rfl rfl (by decide) (by decide) hk1 hFc hP1 hD1
          generalize H1 = H at hP hS ⊢
          rw [hr9]
          refine W.eq (g2 := F0 m 69 ls [.int o16.2.1]) rfl ?_
          refine lv_pop hx hb dB_one_69 rfl ?_
          obtain rfl := Option.some.inj hf
          exact absurd (show (0 : Nat) = 3 from hkd) (by decide)
        rw [if_neg hk18] at hf
        by_cases hk20 : o16.1 = 1
        · rw [if_pos hk20] at hf
          obtain rfl := Option.some.inj hf
          exact absurd (show (1 : Nat) = 3 from hkd) (by decide)
        rw [if_neg hk20] at hf
        exact nomatch hf
      rw [if_neg hk15] at hf
      by_cases hk22 : o13.1 = 1
      · rw [if_pos hk22] at hf
        obtain rfl := Option.some.inj hf
        exact absurd (show (2 : Nat) = 3 from hkd) (by decide)
      rw [if_neg hk22] at hf
      exact nomatch hf
    rw [if_neg hk6] at hf
    by_cases hk23 : o4 = 1
    · rw [if_pos hk23] at hf
      obtain ⟨hPc, hDc, hFc⟩ := xcut (wc := []) hP hD hS hA [] rfl rfl (by decide)
      refine xx_thr (vx_runS (As := [.int 0]) (rest := []) ⟨hx, hb, hml, hown, htx⟩ (gB_demand_1 l hl9 D cT aK aV H.size n (0 : Int32) o4 hq5 hk23) ⟨callB_of 1 htx (xw_goodC kw_1_221) rfl rfl rfl (htx _ kw_1_1) (htx _ kw_1_219) ⟨by decide, by decide, by decide +kernel⟩ ⟨Nat.le_of_ble_eq_true rfl, Nat.le_of_ble_eq_true rfl⟩, htx _ kw_1_220⟩ ⟨xPre_blind, (fun U hU hW => ⟨rfl, xPre_of hZ hS hFc hPc hDc hK U hU hW⟩)⟩ rfl rfl hl.1 rfl (lv_room (Nat.le_of_ble_eq_true rfl)) dB_one_28 ⟨Nat.le_of_ble_eq_true rfl, Nat.le_of_ble_eq_true rfl⟩) hS hFc (fun q _ h => hFc q h) (fun E ce q9 u9 t H1 locs ht hvm _ hB hz1 hk1 hS hce hcv hcl => ?_)
      obtain ⟨rfl, hP1, hK1, hD1⟩ := hB
      rw [ht] at hP1
      obtain ⟨hP, hD⟩ := xjoin (W := [(a0, .inr (0, [.ref a1, .ref a3, .ref a5, .ref a7, .ref a8, .ref a13, .int v19, .int v20])), (a1, .inr (1, [.ref a2, .int v1, .int v2])), (a2, .inl (cT 0, 4096, .inl f0)), (a3, .inr (1, [.ref a4, .int v4, .int v5])), (a4, .inl (cT 0, 4096, .inl f3)), (a5, .inr (1, [.ref a6, .int v7, .int v8])), (a6, .inl (cT 0, 4096, .inl f6)), (a7, .inl (cT 3, 8, .inr (.inr (.inr (.inr rf0))))), (a8, .inr (3, [.ref a9, .ref a10, .ref p11, .ref p13, .int v15])), (a9, .inl (cT 1, 2048, .inl f9)), (a10, .inl (cT 1, 2048, .inl f10)), (p11, .inl (cT 1, 2048, .inl f12)), (p13, .inl (cT 1, 2048, .inl f14)), (a13, .inr (2, [.ref a14, .int v17, .int v18])), (a14, .inl (cT 2, 4096, .inr (.inl f16))), (a15, .inr (2, [.ref a16, .int v22, .int v23])), (a16, .inl (cT 2, 4096, .inr (.inl f21)))]) hP hD [] [0, 1, 2, 3, 4, 5, 6, 7, 8, 9, 10, 11, 12, 13, 14, 15, 16] 17 rfl rfl (by decide) (by decide) hk1 hFc hP1 hD1
      generalize H1 = H at hP hS hce ⊢
      obtain rfl := Option.some.inj hf
      obtain ⟨hP9, hD9⟩ := xsub (wc := [(a0, .inr (0, [.ref a1, .ref a3, .ref a5, .ref a7, .ref a8, .ref a13, .int v19, .int v20])), (a1, .inr (1, [.ref a2, .int v1, .int v2])), (a2, .inl (cT 0, 4096, .inl f0)), (a3, .inr (1, [.ref a4, .int v4, .int v5])), (a4, .inl (cT 0, 4096, .inl f3)), (a5, .inr (1, [.ref a6, .int v7, .int v8])), (a6, .inl (cT 0, 4096, .inl f6)), (a7, .inl (cT 3, 8, .inr (.inr (.inr (.inr rf0))))), (a8, .inr (3, [.ref a9, .ref a10, .ref p11, .ref p13, .int v15])), (a9, .inl (cT 1, 2048, .inl f9)), (a10, .inl (cT 1, 2048, .inl f10)), (p11, .inl (cT 1, 2048, .inl f12)), (p13, .inl (cT 1, 2048, .inl f14)), (a13, .inr (2, [.ref a14, .int v17, .int v18])), (a14, .inl (cT 2, 4096, .inr (.inl f16))), (a15, .inr (2, [.ref a16, .int v22, .int v23])), (a16, .inl (cT 2, 4096, .inr (.inl f21)))]) hP hD [0, 1, 2, 3, 4, 5, 6, 7, 8, 9, 10, 11, 12, 13, 14, 15, 16] rfl rfl (by decide)
      exact vx_out (E := "java/lang/IllegalArgumentException") (fun x h => (hne x h).elim) hlocks hce hcv hcl (fun t ht ha => ⟨(), trivial, ⟨rfl, by rw [ht]; exact hP9, va_K.moved ha hK, hD9⟩, hS.F ht⟩) hS.2.2 (Nat.le_of_ble_eq_true rfl) (Nat.le_of_ble_eq_true rfl)
    rw [if_neg hk23] at hf
    exact nomatch hf
  · rw [if_neg hc] at hf
    refine lv_iload_n hx hb dB_one_7 rfl (lv_at hl 2 rfl) ?_
    refine lv_bipush (v := 13) hx hb dB_one_8 (by decide) ?_
    obtain ⟨o4, hq5, hf⟩ := xbind hf
    obtain ⟨hPc, hDc, hFc⟩ := xcut (wc := []) hP hD hS hA [] rfl rfl (by decide)
    refine va_calli (va_runS (As := [.int x2, .int 13]) (rest := []) ⟨hx, hb, hml, hown, htx⟩ (gB_isWithin l hl9 D cT aK aV H.size n x2 (13 : Int32) o4 hq5) ⟨callB_of 2 htx (xw_goodC kw_1_218) rfl rfl rfl (htx _ kw_1_1) (htx _ kw_1_216) ⟨by decide, by decide, by decide +kernel⟩ ⟨Nat.le_of_ble_eq_true rfl, Nat.le_of_ble_eq_true rfl⟩, htx _ kw_1_217⟩ ⟨xPre_blind, (fun U hU hW => ⟨rfl, xPre_of hZ hS hFc hPc hDc hK U hU hW⟩)⟩ rfl rfl hl.1 rfl (lv_room (Nat.le_of_ble_eq_true rfl)) dB_one_10 ⟨Nat.le_of_ble_eq_true rfl, Nat.le_of_ble_eq_true rfl⟩) hS (fun q _ h => hFc q h) hFc (fun r6 u9 t H1 locs ht hvm hr9 hB hz1 hk1 hS => ?_)
    obtain ⟨hP1, hK1, hD1⟩ := hB
    rw [ht] at hP1
    obtain ⟨hP, hD⟩ := xjoin (W := [(a0, .inr (0, [.ref a1, .ref a3, .ref a5, .ref a7, .ref a8, .ref a13, .int v19, .int v20])), (a1, .inr (1, [.ref a2, .int v1, .int v2])), (a2, .inl (cT 0, 4096, .inl f0)), (a3, .inr (1, [.ref a4, .int v4, .int v5])), (a4, .inl (cT 0, 4096, .inl f3)), (a5, .inr (1, [.ref a6, .int v7, .int v8])), (a6, .inl (cT 0, 4096, .inl f6)), (a7, .inl (cT 3, 8, .inr (.inr (.inr (.inr rf0))))), (a8, .inr (3, [.ref a9, .ref a10, .ref p11, .ref p13, .int v15])), (a9, .inl (cT 1, 2048, .inl f9)), (a10, .inl (cT 1, 2048, .inl f10)), (p11, .inl (cT 1, 2048, .inl f12)), (p13, .inl (cT 1, 2048, .inl f14)), (a13, .inr (2, [.ref a14, .int v17, .int v18])), (a14, .inl (cT 2, 4096, .inr (.inl f16))), (a15, .inr (2, [.ref a16, .int v22, .int v23])), (a16, .inl (cT 2, 4096, .inr (.inl f21)))]) hP hD [] [0, 1, 2, 3, 4, 5, 6, 7, 8, 9, 10, 11, 12, 13, 14, 15, 16] 17 rfl rfl (by decide) (by decide) hk1 hFc hP1 hD1
    generalize H1 = H at hP hS ⊢
    rw [hr9]
    refine W.eq (g2 := F0 m 13 ls [.int o4]) rfl ?_
    refine lv_if_eq (tgt := 27) hx hb dB_one_13 (by decide) (fun hc => ?_) (fun hc => ?_)
    · rw [if_pos hc] at hf
      refine lv_iconst (v := 0) hx hb dB_one_27 (by decide) ?_
      obtain ⟨o7, hq8, hf⟩ := xbind hf
      by_cases hk9 : o7 = 0
      · rw [if_pos hk9] at hf
        obtain ⟨hPc, hDc, hFc⟩ := xcut (wc := []) hP hD hS hA [] rfl rfl (by decide)
        refine va_callv (va_runS (As := [.int 0]) (rest := []) ⟨hx, hb, hml, hown, htx⟩ (gB_demand l hl9 D cT aK aV H.size n (0 : Int32) o7 hq8 hk9) ⟨callB_of 1 htx (xw_goodC kw_1_221) rfl rfl rfl (htx _ kw_1_1) (htx _ kw_1_219) ⟨by decide, by decide, by decide +kernel⟩ ⟨Nat.le_of_ble_eq_true rfl, Nat.le_of_ble_eq_true rfl⟩, htx _ kw_1_220⟩ ⟨xPre_blind, (fun U hU hW => ⟨rfl, xPre_of hZ hS hFc hPc hDc hK U hU hW⟩)⟩ rfl rfl hl.1 rfl (lv_room (Nat.le_of_ble_eq_true rfl)) dB_one_28 ⟨Nat.le_of_ble_eq_true rfl, Nat.le_of_ble_eq_true rfl⟩) hS (fun q _ h => hFc q h) hFc (fun u9 t H1 locs ht hvm hr9 hB hz1 hk1 hS => ?_)
        obtain ⟨hP1, hK1, hD1⟩ := hB
        rw [ht] at hP1
        obtain ⟨hP, hD⟩ := xjoin (W := [(a0, .inr (0, [.ref a1, .ref a3, .ref a5, .ref a7, .ref a8, .ref a13, .int v19, .int v20])), (a1, .inr (1, [.ref a2, .int v1, .int v2])), (a2, .inl (cT 0, 4096, .inl f0)), (a3, .inr (1, [.ref a4, .int v4, .int v5])), (a4, .inl (cT 0, 4096, .inl f3)), (a5, .inr (1, [.ref a6, .int v7, .int v8])), (a6, .inl (cT 0, 4096, .inl f6)), (a7, .inl (cT 3, 8, .inr (.inr (.inr (.inr rf0))))), (a8, .inr (3, [.ref a9, .ref a10, .ref p11, .ref p13, .int v15])), (a9, .inl (cT 1, 2048, .inl f9)), (a10, .inl (cT 1, 2048, .inl f10)), (p11, .inl (cT 1, 2048, .inl f12)), (p13, .inl (cT 1, 2048, .inl f14)), (a13, .inr (2, [.ref a14, .int v17, .int v18])), (a14, .inl (cT 2, 4096, .inr (.inl f16))), (a15, .inr (2, [.ref a16, .int v22, .int v23])), (a16, .inl (cT 2, 4096, .inr (.inl f21)))]) hP hD [] [0, 1, 2, 3, 4, 5, 6, 7, 8, 9, 10, 11, 12, 13, 14, 15, 16] 17 rfl rfl (by decide) (by decide) hk1 hFc hP1 hD1
        generalize H1 = H at hP hS ⊢
        refine lv_aload_n hx hb dB_one_31 rfl (lv_at hl 0 rfl) ?_
        refine va_get (D := D) (ci := 0) (v := .ref a13) (C := "ValueBench") (T := TB) (N := 8) hx hb htx inB hown hK hP 0 rfl rfl 5 (by decide) (htx _ kw_1_100) (fun _ h9 => h9) rfl dB_one_32 ?_
        obtain ⟨o10, hq11, hf⟩ := xbind hf
        obtain ⟨hPc, hDc, hFc⟩ := xcut (wc := [(a13, .inr (2, [.ref a14, .int v17, .int v18])), (a14, .inl (cT 2, 4096, .inr (.inl f16)))]) hP hD hS hA [13, 14] rfl rfl (by decide)
        refine va_callv (va_runV (C := "ValueBench$Row") (As := []) (rest := []) ⟨hx, hb, hml, hown, htx⟩ (gR_clear l hl9 D cT aK aV H.size n a13 a14 f16 v17 v18 o10 hq11) ⟨callB_of 0 htx (xw_goodC kw_2_22) rfl rfl rfl (htx _ kw_1_4) (htx _ kw_2_19) ⟨by decide, by decide, by decide +kernel⟩ ⟨Nat.le_of_ble_eq_true rfl, Nat.le_of_ble_eq_true rfl⟩, (htx _ kw_2_20), (htx _ kw_2_21)⟩ ⟨xPre_blind, va_recv hK hP (ci := 2) rfl (q0 := 13) rfl, (fun U hU hW => ⟨rfl, xPre_of hZ hS hFc hPc hDc hK U hU hW⟩)⟩ rfl rfl hl.1 rfl (lv_room (Nat.le_of_ble_eq_true rfl)) dB_one_35 ⟨Nat.le_of_ble_eq_true rfl, Nat.le_of_ble_eq_true rfl⟩) hS (fun q _ h => hFc q h) hFc (fun u9 t H1 locs ht hvm hr9 hB hz1 hk1 hS => ?_)
        obtain ⟨hP1, hK1, hD1⟩ := hB
        rw [ht] at hP1
        obtain ⟨hP, hD⟩ := xjoin (W := [(a0, .inr (0, [.ref a1, .ref a3, .ref a5, .ref a7, .ref a8, .ref a13, .int v19, .int v20])), (a1, .inr (1, [.ref a2, .int v1, .int v2])), (a2, .inl (cT 0, 4096, .inl f0)), (a3, .inr (1, [.ref a4, .int v4, .int v5])), (a4, .inl (cT 0, 4096, .inl f3)), (a5, .inr (1, [.ref a6, .int v7, .int v8])), (a6, .inl (cT 0, 4096, .inl f6)), (a7, .inl (cT 3, 8, .inr (.inr (.inr (.inr rf0))))), (a8, .inr (3, [.ref a9, .ref a10, .ref p11, .ref p13, .int v15])), (a9, .inl (cT 1, 2048, .inl f9)), (a10, .inl (cT 1, 2048, .inl f10)), (p11, .inl (cT 1, 2048, .inl f12)), (p13, .inl (cT 1, 2048, .inl f14)), (a15, .inr (2, [.ref a16, .int v22, .int v23])), (a16, .inl (cT 2, 4096, .inr (.inl f21))), (a13, .inr (2, [.ref a14, .int o10.1, .int o10.2])), (a14, .inl (cT 2, 4096, .inr (.inl f16)))]) hP hD [13, 14] [0, 1, 2, 3, 4, 5, 6, 7, 8, 9, 10, 11, 12, 15, 16] 15 rfl rfl (by decide) (by decide) hk1 hFc hP1 hD1
        generalize H1 = H at hP hS ⊢
        refine lv_aload_n hx hb dB_one_38 rfl (lv_at hl 0 rfl) ?_
        refine lv_iload_n hx hb dB_one_39 rfl (lv_at hl 2 rfl) ?_
        refine lv_aload_n hx hb dB_one_40 rfl (lv_at hl 0 rfl) ?_
        refine va_get (D := D) (ci := 0) (v := .ref a7) (C := "ValueBench") (T := TB) (N := 8) hx hb htx inB hown hK hP 0 rfl rfl 3 (by decide) (htx _ kw_1_98) (fun _ h9 => h9) rfl dB_one_41 ?_
        refine lv_iload_n hx hb dB_one_44 rfl (lv_at hl 3 rfl) ?_
        obtain ⟨hg12, hf⟩ := xifn hf
        refine va_aldq hx hb hK hP 7 3 rfl rfl hg12 dB_one_45 ?_
        refine W.eq (g2 := F0 m 46 ls [va_rf (rf0 x3.toNatClampNeg), .int x2, .ref a0]) rfl ?_
        rw [hr3 hg12]
        refine W.eq (g2 := F0 m 46 ls [.ref a15, .int x2, .ref a0]) rfl ?_
        refine lv_aload_n hx hb dB_one_46 rfl (lv_at hl 0 rfl) ?_
        refine va_get (D := D) (ci := 0) (v := .ref a5) (C := "ValueBench") (T := TB) (N := 8) hx hb htx inB hown hK hP 0 rfl rfl 2 (by decide) (htx _ kw_1_97) (fun _ h9 => h9) rfl dB_one_47 ?_
        refine lv_aload_n hx hb dB_one_50 rfl (lv_at hl 0 rfl) ?_
        refine va_get (D := D) (ci := 0) (v := .ref a8) (C := "ValueBench") (T := TB) (N := 8) hx hb htx inB hown hK hP 0 rfl rfl 4 (by decide) (htx _ kw_1_99) (fun _ h9 => h9) rfl dB_one_51 ?_
        refine lv_aload_n hx hb dB_one_54 rfl (lv_at hl 0 rfl) ?_
        refine va_get (D := D) (ci := 0) (v := .ref a13) (C := "ValueBench") (T := TB) (N := 8) hx hb htx inB hown hK hP 0 rfl rfl 5 (by decide) (htx _ kw_1_100) (fun _ h9 => h9) rfl dB_one_55 ?_
        obtain ⟨o13, hq14, hf⟩ := xbind hf
        obtain ⟨hPc, hDc, hFc⟩ := xcut (wc := [(a15, .inr (2, [.ref a16, .int v22, .int v23])), (a16, .inl (cT 2, 4096, .inr (.inl f21))), (a5, .inr (1, [.ref a6, .int v7, .int v8])), (a6, .inl (cT 0, 4096, .inl f6)), (a8, .inr (3, [.ref a9, .ref a10, .ref p11, .ref p13, .int v15])), (a9, .inl (cT 1, 2048, .inl f9)), (a10, .inl (cT 1, 2048, .inl f10)), (p11, .inl (cT 1, 2048, .inl f12)), (p13, .inl (cT 1, 2048, .inl f14)), (a13, .inr (2, [.ref a14, .int o10.1, .int o10.2])), (a14, .inl (cT 2, 4096, .inr (.inl f16)))]) hP hD hS hA [13, 14, 5, 6, 8, 9, 10, 11, 12, 15, 16] rfl rfl (by decide)
        refine va_calli (va_runS (As := [.int x2, .ref a15, .ref a5, .ref a8, .ref a13]) (rest := [.ref a0]) ⟨hx, hb, hml, hown, htx⟩ (gG_apply l hl9 D cT aK aV H.size d n a15 a16 a5 a6 a8 a9 a10 a13 a14 x2 f21 v22 v23 f6 v7 v8 f9 f10 p11 f12 p13 f14 v15 f16 o10.1 o10.2 o13 hq14) ⟨callB_of 5 htx (xw_goodC kw_4_28) rfl rfl rfl (htx _ kw_1_26) (htx _ kw_4_26) ⟨by decide, by decide, by decide +kernel⟩ ⟨(by show (16 * d + 5) + 1 ≤ 16 * d + 7; omega), (by show 8 + (5 + 11) + (400 * d + 151) ≤ 400 * d + 175; omega)⟩, htx _ kw_4_27⟩ ⟨xPre_blind, (fun U hU hW => ⟨rfl, xPre_of hZ hS hFc hPc hDc hK U hU hW⟩)⟩ rfl rfl hl.1 rfl (lv_room (Nat.le_of_ble_eq_true rfl)) dB_one_58 ⟨Nat.le_of_ble_eq_true rfl, Nat.le_of_ble_eq_true rfl⟩) hS (fun q _ h => hFc q h) hFc (fun r15 u9 t H1 locs ht hvm hr9 hB hz1 hk1 hS => ?_)
        obtain ⟨hP1, hK1, hD1⟩ := hB
        rw [ht] at hP1
        obtain ⟨hP, hD⟩ := xjoin (W := [(a0, .inr (0, [.ref a1, .ref a3, .ref a5, .ref a7, .ref a8, .ref a13, .int v19, .int v20])), (a1, .inr (1, [.ref a2, .int v1, .int v2])), (a2, .inl (cT 0, 4096, .inl f0)), (a3, .inr (1, [.ref a4, .int v4, .int v5])), (a4, .inl (cT 0, 4096, .inl f3)), (a7, .inl (cT 3, 8, .inr (.inr (.inr (.inr rf0))))), (a15, .inr (2, [.ref a16, .int v22, .int v23])), (a16, .inl (cT 2, 4096, .inr (.inl f21))), (a5, .inr (1, [.ref a6, .int o13.2.2.1, .int o13.2.2.2.1])), (a6, .inl (cT 0, 4096, .inl o13.2.1)), (a8, .inr (3, [.ref a9, .ref a10, .ref o13.2.2.2.2.2.2.1, .ref o13.2.2.2.2.2.2.2.2.1, .int o13.2.2.2.2.2.2.2.2.2.1])), (a9, .inl (cT 1, 2048, .inl o13.2.2.2.2.1)), (a10, .inl (cT 1, 2048, .inl f10)), (o13.2.2.2.2.2.2.1, .inl (cT 1, 2048, .inl o13.2.2.2.2.2.1)), (o13.2.2.2.2.2.2.2.2.1, .inl (cT 1, 2048, .inl o13.2.2.2.2.2.2.2.1)), (a13, .inr (2, [.ref a14, .int o13.2.2.2.2.2.2.2.2.2.2.2.1, .int o13.2.2.2.2.2.2.2.2.2.2.2.2])), (a14, .inl (cT 2, 4096, .inr (.inl o13.2.2.2.2.2.2.2.2.2.2.1)))]) hP hD [13, 14, 5, 6, 8, 9, 10, 11, 12, 15, 16] [0, 1, 2, 3, 4, 7] 6 rfl rfl (by decide) (by decide) hk1 hFc hP1 hD1
        generalize H1 = H at hP hS ⊢
        rw [hr9]
        refine W.eq (g2 := F0 m 61 ls [.int o13.1, .ref a0]) rfl ?_
        obtain ⟨o16, hq17, hf⟩ := xbind hf
        by_cases hk18 : o16.1 = 0
        · rw [if_pos hk18] at hf
          obtain ⟨hPc, hDc, hFc⟩ := xcut (wc := [(a0, .inr (0, [.ref a1, .ref a3, .ref a5, .ref a7, .ref a8, .ref a13, .int v19, .int v20])), (a1, .inr (1, [.ref a2, .int v1, .int v2])), (a2, .inl (cT 0, 4096, .inl f0)), (a3, .inr (1, [.ref a4, .int v4, .int v5])), (a4, .inl (cT 0, 4096, .inl f3)), (a5, .inr (1, [.ref a6, .int o13.2.2.1, .int o13.2.2.2.1])), (a6, .inl (cT 0, 4096, .inl o13.2.1)), (a7, .inl (cT 3, 8, .inr (.inr (.inr (.inr rf0))))), (a8, .inr (3, [.ref a9, .ref a10, .ref o13.2.2.2.2.2.2.1, .ref o13.2.2.2.2.2.2.2.2.1, .int o13.2.2.2.2.2.2.2.2.2.1])), (a9, .inl (cT 1, 2048, .inl o13.2.2.2.2.1)), (a10, .inl (cT 1, 2048, .inl f10)), (o13.2.2.2.2.2.2.1, .inl (cT 1, 2048, .inl o13.2.2.2.2.2.1)), (o13.2.2.2.2.2.2.2.2.1, .inl (cT 1, 2048, .inl o13.2.2.2.2.2.2.2.1)), (a13, .inr (2, [.ref a14, .int o13.2.2.2.2.2.2.2.2.2.2.2.1, .int o13.2.2.2.2.2.2.2.2.2.2.2.2])), (a14, .inl (cT 2, 4096, .inr (.inl o13.2.2.2.2.2.2.2.2.2.2.1)))]) hP hD hS hA [0, 1, 2, 3, 4, 8, 9, 5, 10, 11, 12, 13, 14, 15, 16] rfl rfl (by decide)
          refine va_callv (va_runV (C := "ValueBench") (As := [.int o13.1]) (rest := []) ⟨hx, hb, hml, hown, htx⟩ (gB_demandDone l hl9 D cT aK aV H.size n a0 a1 a2 a3 a4 a5 a6 a7 a8 a9 a10 a13 a14 rf0 o13.1 f0 v1 v2 f3 v4 v5 o13.2.1 o13.2.2.1 o13.2.2.2.1 o13.2.2.2.2.1 f10 o13.2.2.2.2.2.2.1 o13.2.2.2.2.2.1 o13.2.2.2.2.2.2.2.2.1 o13.2.2.2.2.2.2.2.1 o13.2.2.2.2.2.2.2.2.2.1 o13.2.2.2.2.2.2.2.2.2.2.1 o13.2.2.2.2.2.2.2.2.2.2.2.1 o13.2.2.2.2.2.2.2.2.2.2.2.2 v19 v20 o16 hq17 hk18) ⟨callB_of 1 htx (xw_goodC kw_3_222) rfl rfl rfl (htx _ kw_1_1) (htx _ kw_3_219) ⟨by decide, by decide, by decide +kernel⟩ ⟨Nat.le_of_ble_eq_true rfl, Nat.le_of_ble_eq_true rfl⟩, (htx _ kw_3_221), (htx _ kp_B_demandDone)⟩ ⟨xPre_blind, va_recv hK hP (ci := 0) rfl (q0 := 0) rfl, (fun U hU hW => ⟨rfl, xPre_of hZ hS hFc hPc hDc hK U hU hW⟩)⟩ rfl rfl hl.1 rfl (lv_room (Nat.le_of_ble_eq_true rfl)) dB_one_61 ⟨Nat.le_of_ble_eq_true rfl, Nat.le_of_ble_eq_true rfl⟩) hS (fun q _ h => hFc q h) hFc (fun u9 t H1 locs ht hvm hr9 hB hz1 hk1 hS => ?_)
          obtain ⟨hP1, hK1, hD1⟩ := hB
          rw [ht] at hP1
          obtain ⟨hP, hD⟩ := xjoin (W := [(a15, .inr (2, [.ref a16, .int v22, .int v23])), (a16, .inl (cT 2, 4096, .inr (.inl f21))), (a0, .inr (0, [.ref a1, .ref a3, .ref a5, .ref a7, .ref a8, .ref a13, .int v19, .int o16.2])), (a1, .inr (1, [.ref a2, .int v1, .int v2])), (a2, .inl (cT 0, 4096, .inl f0)), (a3, .inr (1, [.ref a4, .int v4, .int v5])), (a4, .inl (cT 0, 4096, .inl f3)), (a5, .inr (1, [.ref a6, .int o13.2.2.1, .int o13.2.2.2.1])), (a6, .inl (cT 0, 4096, .inl o13.2.1)), (a7, .inl (cT 3, 8, .inr (.inr (.inr (.inr rf0))))), (a8, .inr (3, [.ref a9, .ref a10, .ref o13.2.2.2.2.2.2.1, .ref o13.2.2.2.2.2.2.2.2.1, .int o13.2.2.2.2.2.2.2.2.2.1])), (a9, .inl (cT 1, 2048, .inl o13.2.2.2.2.1)), (a10, .inl (cT 1, 2048, .inl f10)), (o13.2.2.2.2.2.2.1, .inl (cT 1, 2048, .inl o13.2.2.2.2.2.1)), (o13.2.2.2.2.2.2.2.2.1, .inl (cT 1, 2048, .inl o13.2.2.2.2.2.2.2.1)), (a13, .inr (2, [.ref a14, .int o13.2.2.2.2.2.2.2.2.2.2.2.1, .int o13.2.2.2.2.2.2.2.2.2.2.2.2])), (a14, .inl (cT 2, 4096, .inr (.inl o13.2.2.2.2.2.2.2.2.2.2.1)))]) hP hD [0, 1, 2, 3, 4, 8, 9, 5, 10, 11, 12, 13, 14, 15, 16] [6, 7] 2 rfl rfl (by decide) (by decide) hk1 hFc hP1 hD1
          generalize H1 = H at hP hS ⊢
          refine lv_aload_n hx hb dB_one_64 rfl (lv_at hl 0 rfl) ?_
          refine lv_iload_n hx hb dB_one_65 rfl (lv_at hl 1 rfl) ?_
          obtain ⟨o19, hq20, hf⟩ := xbind hf
          by_cases hk21 : o19.1 = 0
          · rw [if_pos hk21] at hf
            obtain ⟨hPc, hDc, hFc⟩ := xcut (wc := [(a0, .inr (0, [.ref a1, .ref a3, .ref a5, .ref a7, .ref a8, .ref a13, .int v19, .int o16.2])), (a1, .inr (1, [.ref a2, .int v1, .int v2])), (a2, .inl (cT 0, 4096, .inl f0)), (a3, .inr (1, [.ref a4, .int v4, .int v5])), (a4, .inl (cT 0, 4096, .inl f3)), (a5, .inr (1, [.ref a6, .int o13.2.2.1, .int o13.2.2.2.1])), (a6, .inl (cT 0, 4096, .inl o13.2.1)), (a7, .inl (cT 3, 8, .inr (.inr (.inr (.inr rf0))))), (a8, .inr (3, [.ref a9, .ref a10, .ref o13.2.2.2.2.2.2.1, .ref o13.2.2.2.2.2.2.2.2.1, .int o13.2.2.2.2.2.2.2.2.2.1])), (a9, .inl (cT 1, 2048, .inl o13.2.2.2.2.1)), (a10, .inl (cT 1, 2048, .inl f10)), (o13.2.2.2.2.2.2.1, .inl (cT 1, 2048, .inl o13.2.2.2.2.2.1)), (o13.2.2.2.2.2.2.2.2.1, .inl (cT 1, 2048, .inl o13.2.2.2.2.2.2.2.1)), (a13, .inr (2, [.ref a14, .int o13.2.2.2.2.2.2.2.2.2.2.2.1, .int o13.2.2.2.2.2.2.2.2.2.2.2.2])), (a14, .inl (cT 2, 4096, .inr (.inl o13.2.2.2.2.2.2.2.2.2.2.1)))]) hP hD hS hA [2, 3, 4, 5, 6, 7, 8, 9, 10, 11, 12, 13, 14, 15, 16] rfl rfl (by decide)
            refine va_calli (va_runV (C := "ValueBench") (As := [.int x1]) (rest := []) ⟨hx, hb, hml, hown, htx⟩ (gB_keepSpare l hl9 D cT aK aV H.size d n a0 a1 a2 a3 a4 a5 a6 a7 a8 a9 a10 a13 a14 rf0 b1 x1 f0 v1 v2 f3 v4 v5 o13.2.1 o13.2.2.1 o13.2.2.2.1 o13.2.2.2.2.1 f10 o13.2.2.2.2.2.2.1 o13.2.2.2.2.2.1 o13.2.2.2.2.2.2.2.2.1 o13.2.2.2.2.2.2.2.1 o13.2.2.2.2.2.2.2.2.2.1 o13.2.2.2.2.2.2.2.2.2.2.1 o13.2.2.2.2.2.2.2.2.2.2.2.1 o13.2.2.2.2.2.2.2.2.2.2.2.2 v19 o16.2 hr1 o19 hq20 hk21) ⟨callB_of 1 htx (xw_goodC kw_3_17) rfl rfl rfl (htx _ kw_1_1) (htx _ kw_3_14) ⟨by decide, by decide, by decide +kernel⟩ ⟨(by show (16 * d + 6) + 1 ≤ 16 * d + 7; omega), (by show 8 + (3 + 11) + (400 * d + 100) ≤ 400 * d + 175; omega)⟩, (htx _ kw_3_16), (htx _ kp_B_keepSpare)⟩ ⟨xPre_blind, va_recv hK hP (ci := 0) rfl (q0 := 2) rfl, (fun U hU hW => ⟨rfl, xPre_of hZ hS hFc hPc hDc hK U hU hW⟩)⟩ rfl rfl hl.1 rfl (lv_room (Nat.le_of_ble_eq_true rfl)) dB_one_66 ⟨Nat.le_of_ble_eq_true rfl, Nat.le_of_ble_eq_true rfl⟩) hS (fun q _ h => hFc q h) hFc (fun r22 u9 t H1 locs ht hvm hr9 hB hz1 hk1 hS => ?_)
            obtain ⟨hP1, hK1, hD1⟩ := hB
            rw [ht] at hP1
            obtain ⟨hP, hD⟩ := xjoin (W := [(a15, .inr (2, [.ref a16, .int v22, .int v23])), (a16, .inl (cT 2, 4096, .inr (.inl f21))), (a0, .inr (0, [.ref a1, .ref a3, .ref a5, .ref a7, .ref a8, .ref b1, .int v19, .int o16.2])), (a1, .inr (1, [.ref a2, .int v1, .int v2])), (a2, .inl (cT 0, 4096, .inl f0)), (a3, .inr (1, [.ref a4, .int v4, .int v5])), (a4, .inl (cT 0, 4096, .inl f3)), (a5, .inr (1, [.ref a6, .int o19.2.2.2.1, .int o19.2.2.2.2])), (a6, .inl (cT 0, 4096, .inl o19.2.2.1)), (a7, .inl (cT 3, 8, .inr (.inr (.inr (.inr (va_up rf0 x1.toNatClampNeg (some a13))))))), (a8, .inr (3, [.ref a9, .ref a10, .ref o13.2.2.2.2.2.2.1, .ref o13.2.2.2.2.2.2.2.2.1, .int o13.2.2.2.2.2.2.2.2.2.1])), (a9, .inl (cT 1, 2048, .inl o13.2.2.2.2.1)), (a10, .inl (cT 1, 2048, .inl f10)), (o13.2.2.2.2.2.2.1, .inl (cT 1, 2048, .inl o13.2.2.2.2.2.1)), (o13.2.2.2.2.2.2.2.2.1, .inl (cT 1, 2048, .inl o13.2.2.2.2.2.2.2.1)), (a13, .inr (2, [.ref a14, .int o13.2.2.2.2.2.2.2.2.2.2.2.1, .int o13.2.2.2.2.2.2.2.2.2.2.2.2])), (a14, .inl (cT 2, 4096, .inr (.inl o13.2.2.2.2.2.2.2.2.2.2.1)))]) hP hD [2, 3, 4, 5, 6, 7, 8, 9, 10, 11, 12, 13, 14, 15, 16] [0, 1] 2 rfl rfl (by decide) (by decide) hk1 hFc hP1 hD1
            generalize H1 = H at hP hS ⊢
            rw [hr9]
            refine W.eq (g2 := F0 m 69 ls [.int o19.2.1]) rfl ?_
            refine lv_pop hx hb dB_one_69 rfl ?_
            obtain rfl := Option.some.inj hf
            exact absurd (show (0 : Nat) = 3 from hkd) (by decide)
          rw [if_neg hk21] at hf
          by_cases hk23 : o19.1 = 1
          · rw [if_pos hk23] at hf
            obtain rfl := Option.some.inj hf
            exact absurd (show (1 : Nat) = 3 from hkd) (by decide)
          rw [if_neg hk23] at hf
          exact nomatch hf
        rw [if_neg hk18] at hf
        by_cases hk25 : o16.1 = 1
        · rw [if_pos hk25] at hf
          obtain rfl := Option.some.inj hf
          exact absurd (show (2 : Nat) = 3 from hkd) (by decide)
        rw [if_neg hk25] at hf
        exact nomatch hf
      rw [if_neg hk9] at hf
      by_cases hk26 : o7 = 1
      · rw [if_pos hk26] at hf
        obtain ⟨hPc, hDc, hFc⟩ := xcut (wc := []) hP hD hS hA [] rfl rfl (by decide)
        refine xx_thr (vx_runS (As := [.int 0]) (rest := []) ⟨hx, hb, hml, hown, htx⟩ (gB_demand_1 l hl9 D cT aK aV H.size n (0 : Int32) o7 hq8 hk26) ⟨callB_of 1 htx (xw_goodC kw_1_221) rfl rfl rfl (htx _ kw_1_1) (htx _ kw_1_219) ⟨by decide, by decide, by decide +kernel⟩ ⟨Nat.le_of_ble_eq_true rfl, Nat.le_of_ble_eq_true rfl⟩, htx _ kw_1_220⟩ ⟨xPre_blind, (fun U hU hW => ⟨rfl, xPre_of hZ hS hFc hPc hDc hK U hU hW⟩)⟩ rfl rfl hl.1 rfl (lv_room (Nat.le_of_ble_eq_true rfl)) dB_one_28 ⟨Nat.le_of_ble_eq_true rfl, Nat.le_of_ble_eq_true rfl⟩) hS hFc (fun q _ h => hFc q h) (fun E ce q9 u9 t H1 locs ht hvm _ hB hz1 hk1 hS hce hcv hcl => ?_)
        obtain ⟨rfl, hP1, hK1, hD1⟩ := hB
        rw [ht] at hP1
        obtain ⟨hP, hD⟩ := xjoin (W := [(a0, .inr (0, [.ref a1, .ref a3, .ref a5, .ref a7, .ref a8, .ref a13, .int v19, .int v20])), (a1, .inr (1, [.ref a2, .int v1, .int v2])), (a2, .inl (cT 0, 4096, .inl f0)), (a3, .inr (1, [.ref a4, .int v4, .int v5])), (a4, .inl (cT 0, 4096, .inl f3)), (a5, .inr (1, [.ref a6, .int v7, .int v8])), (a6, .inl (cT 0, 4096, .inl f6)), (a7, .inl (cT 3, 8, .inr (.inr (.inr (.inr rf0))))), (a8, .inr (3, [.ref a9, .ref a10, .ref p11, .ref p13, .int v15])), (a9, .inl (cT 1, 2048, .inl f9)), (a10, .inl (cT 1, 2048, .inl f10)), (p11, .inl (cT 1, 2048, .inl f12)), (p13, .inl (cT 1, 2048, .inl f14)), (a13, .inr (2, [.ref a14, .int v17, .int v18])), (a14, .inl (cT 2, 4096, .inr (.inl f16))), (a15, .inr (2, [.ref a16, .int v22, .int v23])), (a16, .inl (cT 2, 4096, .inr (.inl f21)))]) hP hD [] [0, 1, 2, 3, 4, 5, 6, 7, 8, 9, 10, 11, 12, 13, 14, 15, 16] 17 rfl rfl (by decide) (by decide) hk1 hFc hP1 hD1
        generalize H1 = H at hP hS hce ⊢
        obtain rfl := Option.some.inj hf
        obtain ⟨hP9, hD9⟩ := xsub (wc := [(a0, .inr (0, [.ref a1, .ref a3, .ref a5, .ref a7, .ref a8, .ref a13, .int v19, .int v20])), (a1, .inr (1, [.ref a2, .int v1, .int v2])), (a2, .inl (cT 0, 4096, .inl f0)), (a3, .inr (1, [.ref a4, .int v4, .int v5])), (a4, .inl (cT 0, 4096, .inl f3)), (a5, .inr (1, [.ref a6, .int v7, .int v8])), (a6, .inl (cT 0, 4096, .inl f6)), (a7, .inl (cT 3, 8, .inr (.inr (.inr (.inr rf0))))), (a8, .inr (3, [.ref a9, .ref a10, .ref p11, .ref p13, .int v15])), (a9, .inl (cT 1, 2048, .inl f9)), (a10, .inl (cT 1, 2048, .inl f10)), (p11, .inl (cT 1, 2048, .inl f12)), (p13, .inl (cT 1, 2048, .inl f14)), (a13, .inr (2, [.ref a14, .int v17, .int v18])), (a14, .inl (cT 2, 4096, .inr (.inl f16))), (a15, .inr (2, [.ref a16, .int v22, .int v23])), (a16, .inl (cT 2, 4096, .inr (.inl f21)))]) hP hD [0, 1, 2, 3, 4, 5, 6, 7, 8, 9, 10, 11, 12, 13, 14, 15, 16] rfl rfl (by decide)
        exact vx_out (E := "java/lang/IllegalArgumentException") (fun x h => (hne x h).elim) hlocks hce hcv hcl (fun t ht ha => ⟨(), trivial, ⟨rfl, by rw [ht]; exact hP9, va_K.moved ha hK, hD9⟩, hS.F ht⟩) hS.2.2 (Nat.le_of_ble_eq_true rfl) (Nat.le_of_ble_eq_true rfl)
      rw [if_neg hk26] at hf
      exact nomatch hf
    · rw [if_neg hc] at hf
      refine lv_iload_n hx hb dB_one_16 rfl (lv_at hl 3 rfl) ?_
      obtain ⟨o7, hq8, hf⟩ := xbind hf
      obtain ⟨hPc, hDc, hFc⟩ := xcut (wc := []) hP hD hS hA [] rfl rfl (by decide)
      refine va_calli (va_runS (As := [.int x3]) (rest := []) ⟨hx, hb, hml, hown, htx⟩ (gB_isRegister l hl9 D cT aK aV H.size n x3 o7 hq8) ⟨callB_of 1 htx (xw_goodC kw_2_18) rfl rfl rfl (htx _ kw_1_1) (htx _ kw_2_16) ⟨by decide, by decide, by decide +kernel⟩ ⟨Nat.le_of_ble_eq_true rfl, Nat.le_of_ble_eq_true rfl⟩, htx _ kw_2_17⟩ ⟨xPre_blind, (fun U hU hW => ⟨rfl, xPre_of hZ hS hFc hPc hDc hK U hU hW⟩)⟩ rfl rfl hl.1 rfl (lv_room (Nat.le_of_ble_eq_true rfl)) dB_one_17 ⟨Nat.le_of_ble_eq_true rfl, Nat.le_of_ble_eq_true rfl⟩) hS (fun q _ h => hFc q h) hFc (fun r9 u9 t H1 locs ht hvm hr9 hB hz1 hk1 hS => ?_)
      obtain ⟨hP1, hK1, hD1⟩ := hB
      rw [ht] at hP1
      obtain ⟨hP, hD⟩ := xjoin (W := [(a0, .inr (0, [.ref a1, .ref a3, .ref a5, .ref a7, .ref a8, .ref a13, .int v19, .int v20])), (a1, .inr (1, [.ref a2, .int v1, .int v2])), (a2, .inl (cT 0, 4096, .inl f0)), (a3, .inr (1, [.ref a4, .int v4, .int v5])), (a4, .inl (cT 0, 4096, .inl f3)), (a5, .inr (1, [.ref a6, .int v7, .int v8])), (a6, .inl (cT 0, 4096, .inl f6)), (a7, .inl (cT 3, 8, .inr (.inr (.inr (.inr rf0))))), (a8, .inr (3, [.ref a9, .ref a10, .ref p11, .ref p13, .int v15])), (a9, .inl (cT 1, 2048, .inl f9)), (a10, .inl (cT 1, 2048, .inl f10)), (p11, .inl (cT 1, 2048, .inl f12)), (p13, .inl (cT 1, 2048, .inl f14)), (a13, .inr (2, [.ref a14, .int v17, .int v18])), (a14, .inl (cT 2, 4096, .inr (.inl f16))), (a15, .inr (2, [.ref a16, .int v22, .int v23])), (a16, .inl (cT 2, 4096, .inr (.inl f21)))]) hP hD [] [0, 1, 2, 3, 4, 5, 6, 7, 8, 9, 10, 11, 12, 13, 14, 15, 16] 17 rfl rfl (by decide) (by decide) hk1 hFc hP1 hD1
      generalize H1 = H at hP hS ⊢
      rw [hr9]
      refine W.eq (g2 := F0 m 20 ls [.int o7]) rfl ?_
      refine lv_if_eq (tgt := 27) hx hb dB_one_20 (by decide) (fun hc => ?_) (fun hc => ?_)
      · rw [if_pos hc] at hf
        refine lv_iconst (v := 0) hx hb dB_one_27 (by decide) ?_
        obtain ⟨o10, hq11, hf⟩ := xbind hf
        by_cases hk12 : o10 = 0
        · rw [if_pos hk12] at hf
          obtain ⟨hPc, hDc, hFc⟩ := xcut (wc := []) hP hD hS hA [] rfl rfl (by decide)
          refine va_callv (va_runS (As := [.int 0]) (rest := []) ⟨hx, hb, hml, hown, htx⟩ (gB_demand l hl9 D cT aK aV H.size n (0 : Int32) o10 hq11 hk12) ⟨callB_of 1 htx (xw_goodC kw_1_221) rfl rfl rfl (htx _ kw_1_1) (htx _ kw_1_219) ⟨by decide, by decide, by decide +kernel⟩ ⟨Nat.le_of_ble_eq_true rfl, Nat.le_of_ble_eq_true rfl⟩, htx _ kw_1_220⟩ ⟨xPre_blind, (fun U hU hW => ⟨rfl, xPre_of hZ hS hFc hPc hDc hK U hU hW⟩)⟩ rfl rfl hl.1 rfl (lv_room (Nat.le_of_ble_eq_true rfl)) dB_one_28 ⟨Nat.le_of_ble_eq_true rfl, Nat.le_of_ble_eq_true rfl⟩) hS (fun q _ h => hFc q h) hFc (fun u9 t H1 locs ht hvm hr9 hB hz1 hk1 hS => ?_)
          obtain ⟨hP1, hK1, hD1⟩ := hB
          rw [ht] at hP1
          obtain ⟨hP, hD⟩ := xjoin (W := [(a0, .inr (0, [.ref a1, .ref a3, .ref a5, .ref a7, .ref a8, .ref a13, .int v19, .int v20])), (a1, .inr (1, [.ref a2, .int v1, .int v2])), (a2, .inl (cT 0, 4096, .inl f0)), (a3, .inr (1, [.ref a4, .int v4, .int v5])), (a4, .inl (cT 0, 4096, .inl f3)), (a5, .inr (1, [.ref a6, .int v7, .int v8])), (a6, .inl (cT 0, 4096, .inl f6)), (a7, .inl (cT 3, 8, .inr (.inr (.inr (.inr rf0))))), (a8, .inr (3, [.ref a9, .ref a10, .ref p11, .ref p13, .int v15])), (a9, .inl (cT 1, 2048, .inl f9)), (a10, .inl (cT 1, 2048, .inl f10)), (p11, .inl (cT 1, 2048, .inl f12)), (p13, .inl (cT 1, 2048, .inl f14)), (a13, .inr (2, [.ref a14, .int v17, .int v18])), (a14, .inl (cT 2, 4096, .inr (.inl f16))), (a15, .inr (2, [.ref a16, .int v22, .int v23])), (a16, .inl (cT 2, 4096, .inr (.inl f21)))]) hP hD [] [0, 1, 2, 3, 4, 5, 6, 7, 8, 9, 10, 11, 12, 13, 14, 15, 16] 17 rfl rfl (by decide) (by decide) hk1 hFc hP1 hD1
          generalize H1 = H at hP hS ⊢
          refine lv_aload_n hx hb dB_one_31 rfl (lv_at hl 0 rfl) ?_
          refine va_get (D := D) (ci := 0) (v := .ref a13) (C := "ValueBench") (T := TB) (N := 8) hx hb htx inB hown hK hP 0 rfl rfl 5 (by decide) (htx _ kw_1_100) (fun _ h9 => h9) rfl dB_one_32 ?_
          obtain ⟨o13, hq14, hf⟩ := xbind hf
          obtain ⟨hPc, hDc, hFc⟩ := xcut (wc := [(a13, .inr (2, [.ref a14, .int v17, .int v18])), (a14, .inl (cT 2, 4096, .inr (.inl f16)))]) hP hD hS hA [13, 14] rfl rfl (by decide)
          refine va_callv (va_runV (C := "ValueBench$Row") (As := []) (rest := []) ⟨hx, hb, hml, hown, htx⟩ (gR_clear l hl9 D cT aK aV H.size n a13 a14 f16 v17 v18 o13 hq14) ⟨callB_of 0 htx (xw_goodC kw_2_22) rfl rfl rfl (htx _ kw_1_4) (htx _ kw_2_19) ⟨by decide, by decide, by decide +kernel⟩ ⟨Nat.le_of_ble_eq_true rfl, Nat.le_of_ble_eq_true rfl⟩, (htx _ kw_2_20), (htx _ kw_2_21)⟩ ⟨xPre_blind, va_recv hK hP (ci := 2) rfl (q0 := 13) rfl, (fun U hU hW => ⟨rfl, xPre_of hZ hS hFc hPc hDc hK U hU hW⟩)⟩ rfl rfl hl.1 rfl (lv_room (Nat.le_of_ble_eq_true rfl)) dB_one_35 ⟨Nat.le_of_ble_eq_true rfl, Nat.le_of_ble_eq_true rfl⟩) hS (fun q _ h => hFc q h) hFc (fun u9 t H1 locs ht hvm hr9 hB hz1 hk1 hS => ?_)
          obtain ⟨hP1, hK1, hD1⟩ := hB
          rw [ht] at hP1
          obtain ⟨hP, hD⟩ := xjoin (W := [(a0, .inr (0, [.ref a1, .ref a3, .ref a5, .ref a7, .ref a8, .ref a13, .int v19, .int v20])), (a1, .inr (1, [.ref a2, .int v1, .int v2])), (a2, .inl (cT 0, 4096, .inl f0)), (a3, .inr (1, [.ref a4, .int v4, .int v5])), (a4, .inl (cT 0, 4096, .inl f3)), (a5, .inr (1, [.ref a6, .int v7, .int v8])), (a6, .inl (cT 0, 4096, .inl f6)), (a7, .inl (cT 3, 8, .inr (.inr (.inr (.inr rf0))))), (a8, .inr (3, [.ref a9, .ref a10, .ref p11, .ref p13, .int v15])), (a9, .inl (cT 1, 2048, .inl f9)), (a10, .inl (cT 1, 2048, .inl f10)), (p11, .inl (cT 1, 2048, .inl f12)), (p13, .inl (cT 1, 2048, .inl f14)), (a15, .inr (2, [.ref a16, .int v22, .int v23])), (a16, .inl (cT 2, 4096, .inr (.inl f21))), (a13, .inr (2, [.ref a14, .int o13.1, .int o13.2])), (a14, .inl (cT 2, 4096, .inr (.inl f16)))]) hP hD [13, 14] [0, 1, 2, 3, 4, 5, 6, 7, 8, 9, 10, 11, 12, 15, 16] 15 rfl rfl (by decide) (by decide) hk1 hFc hP1 hD1
          generalize H1 = H at hP hS ⊢
          refine lv_aload_n hx hb dB_one_38 rfl (lv_at hl 0 rfl) ?_
          refine lv_iload_n hx hb dB_one_39 rfl (lv_at hl 2 rfl) ?_
          refine lv_aload_n hx hb dB_one_40 rfl (lv_at hl 0 rfl) ?_
          refine va_get (D := D) (ci := 0) (v := .ref a7) (C := "ValueBench") (T := TB) (N := 8) hx hb htx inB hown hK hP 0 rfl rfl 3 (by decide) (htx _ kw_1_98) (fun _ h9 => h9) rfl dB_one_41 ?_
          refine lv_iload_n hx hb dB_one_44 rfl (lv_at hl 3 rfl) ?_
          obtain ⟨hg15, hf⟩ := xifn hf
          refine va_aldq hx hb hK hP 7 3 rfl rfl hg15 dB_one_45 ?_
          refine W.eq (g2 := F0 m 46 ls [va_rf (rf0 x3.toNatClampNeg), .int x2, .ref a0]) rfl ?_
          rw [hr3 hg15]
          refine W.eq (g2 := F0 m 46 ls [.ref a15, .int x2, .ref a0]) rfl ?_
          refine lv_aload_n hx hb dB_one_46 rfl (lv_at hl 0 rfl) ?_
          refine va_get (D := D) (ci := 0) (v := .ref a5) (C := "ValueBench") (T := TB) (N := 8) hx hb htx inB hown hK hP 0 rfl rfl 2 (by decide) (htx _ kw_1_97) (fun _ h9 => h9) rfl dB_one_47 ?_
          refine lv_aload_n hx hb dB_one_50 rfl (lv_at hl 0 rfl) ?_
          refine va_get (D := D) (ci := 0) (v := .ref a8) (C := "ValueBench") (T := TB) (N := 8) hx hb htx inB hown hK hP 0 rfl rfl 4 (by decide) (htx _ kw_1_99) (fun _ h9 => h9) rfl dB_one_51 ?_
          refine lv_aload_n hx hb dB_one_54 rfl (lv_at hl 0 rfl) ?_
          refine va_get (D := D) (ci := 0) (v := .ref a13) (C := "ValueBench") (T := TB) (N := 8) hx hb htx inB hown hK hP 0 rfl rfl 5 (by decide) (htx _ kw_1_100) (fun _ h9 => h9) rfl dB_one_55 ?_
          obtain ⟨o16, hq17, hf⟩ := xbind hf
          obtain ⟨hPc, hDc, hFc⟩ := xcut (wc := [(a15, .inr (2, [.ref a16, .int v22, .int v23])), (a16, .inl (cT 2, 4096, .inr (.inl f21))), (a5, .inr (1, [.ref a6, .int v7, .int v8])), (a6, .inl (cT 0, 4096, .inl f6)), (a8, .inr (3, [.ref a9, .ref a10, .ref p11, .ref p13, .int v15])), (a9, .inl (cT 1, 2048, .inl f9)), (a10, .inl (cT 1, 2048, .inl f10)), (p11, .inl (cT 1, 2048, .inl f12)), (p13, .inl (cT 1, 2048, .inl f14)), (a13, .inr (2, [.ref a14, .int o13.1, .int o13.2])), (a14, .inl (cT 2, 4096, .inr (.inl f16)))]) hP hD hS hA [13, 14, 5, 6, 8, 9, 10, 11, 12, 15, 16] rfl rfl (by decide)
          refine va_calli (va_runS (As := [.int x2, .ref a15, .ref a5, .ref a8, .ref a13]) (rest := [.ref a0]) ⟨hx, hb, hml, hown, htx⟩ (gG_apply l hl9 D cT aK aV H.size d n a15 a16 a5 a6 a8 a9 a10 a13 a14 x2 f21 v22 v23 f6 v7 v8 f9 f10 p11 f12 p13 f14 v15 f16 o13.1 o13.2 o16 hq17) ⟨callB_of 5 htx (xw_goodC kw_4_28) rfl rfl rfl (htx _ kw_1_26) (htx _ kw_4_26) ⟨by decide, by decide, by decide +kernel⟩ ⟨(by show (16 * d + 5) + 1 ≤ 16 * d + 7; omega), (by show 8 + (5 + 11) + (400 * d + 151) ≤ 400 * d + 175; omega)⟩, htx _ kw_4_27⟩ ⟨xPre_blind, (fun U hU hW => ⟨rfl, xPre_of hZ hS hFc hPc hDc hK U hU hW⟩)⟩ rfl rfl hl.1 rfl (lv_room (Nat.le_of_ble_eq_true rfl)) dB_one_58 ⟨Nat.le_of_ble_eq_true rfl, Nat.le_of_ble_eq_true rfl⟩) hS (fun q _ h => hFc q h) hFc (fun r18 u9 t H1 locs ht hvm hr9 hB hz1 hk1 hS => ?_)
          obtain ⟨hP1, hK1, hD1⟩ := hB
          rw [ht] at hP1
          obtain ⟨hP, hD⟩ := xjoin (W := [(a0, .inr (0, [.ref a1, .ref a3, .ref a5, .ref a7, .ref a8, .ref a13, .int v19, .int v20])), (a1, .inr (1, [.ref a2, .int v1, .int v2])), (a2, .inl (cT 0, 4096, .inl f0)), (a3, .inr (1, [.ref a4, .int v4, .int v5])), (a4, .inl (cT 0, 4096, .inl f3)), (a7, .inl (cT 3, 8, .inr (.inr (.inr (.inr rf0))))), (a15, .inr (2, [.ref a16, .int v22, .int v23])), (a16, .inl (cT 2, 4096, .inr (.inl f21))), (a5, .inr (1, [.ref a6, .int o16.2.2.1, .int o16.2.2.2.1])), (a6, .inl (cT 0, 4096, .inl o16.2.1)), (a8, .inr (3, [.ref a9, .ref a10, .ref o16.2.2.2.2.2.2.1, .ref o16.2.2.2.2.2.2.2.2.1, .int o16.2.2.2.2.2.2.2.2.2.1])), (a9, .inl (cT 1, 2048, .inl o16.2.2.2.2.1)), (a10, .inl (cT 1, 2048, .inl f10)), (o16.2.2.2.2.2.2.1, .inl (cT 1, 2048, .inl o16.2.2.2.2.2.1)), (o16.2.2.2.2.2.2.2.2.1, .inl (cT 1, 2048, .inl o16.2.2.2.2.2.2.2.1)), (a13, .inr (2, [.ref a14, .int o16.2.2.2.2.2.2.2.2.2.2.2.1, .int o16.2.2.2.2.2.2.2.2.2.2.2.2])), (a14, .inl (cT 2, 4096, .inr (.inl o16.2.2.2.2.2.2.2.2.2.2.1)))]) hP hD [13, 14, 5, 6, 8, 9, 10, 11, 12, 15, 16] [0, 1, 2, 3, 4, 7] 6 rfl rfl (by decide) (by decide) hk1 hFc hP1 hD1
          generalize H1 = H at hP hS ⊢
          rw [hr9]
          refine W.eq (g2 := F0 m 61 ls [.int o16.1, .ref a0]) rfl ?_
          obtain ⟨o19, hq20, hf⟩ := xbind hf
          by_cases hk21 : o19.1 = 0
          · rw [if_pos hk21] at hf
            obtain ⟨hPc, hDc, hFc⟩ := xcut (wc := [(a0, .inr (0, [.ref a1, .ref a3, .ref a5, .ref a7, .ref a8, .ref a13, .int v19, .int v20])), (a1, .inr (1, [.ref a2, .int v1, .int v2])), (a2, .inl (cT 0, 4096, .inl f0)), (a3, .inr (1, [.ref a4, .int v4, .int v5])), (a4, .inl (cT 0, 4096, .inl f3)), (a5, .inr (1, [.ref a6, .int o16.2.2.1, .int o16.2.2.2.1])), (a6, .inl (cT 0, 4096, .inl o16.2.1)), (a7, .inl (cT 3, 8, .inr (.inr (.inr (.inr rf0))))), (a8, .inr (3, [.ref a9, .ref a10, .ref o16.2.2.2.2.2.2.1, .ref o16.2.2.2.2.2.2.2.2.1, .int o16.2.2.2.2.2.2.2.2.2.1])), (a9, .inl (cT 1, 2048, .inl o16.2.2.2.2.1)), (a10, .inl (cT 1, 2048, .inl f10)), (o16.2.2.2.2.2.2.1, .inl (cT 1, 2048, .inl o16.2.2.2.2.2.1)), (o16.2.2.2.2.2.2.2.2.1, .inl (cT 1, 2048, .inl o16.2.2.2.2.2.2.2.1)), (a13, .inr (2, [.ref a14, .int o16.2.2.2.2.2.2.2.2.2.2.2.1, .int o16.2.2.2.2.2.2.2.2.2.2.2.2])), (a14, .inl (cT 2, 4096, .inr (.inl o16.2.2.2.2.2.2.2.2.2.2.1)))]) hP hD hS hA [0, 1, 2, 3, 4, 8, 9, 5, 10, 11, 12, 13, 14, 15, 16] rfl rfl (by decide)
            refine va_callv (va_runV (C := "ValueBench") (As := [.int o16.1]) (rest := []) ⟨hx, hb, hml, hown, htx⟩ (gB_demandDone l hl9 D cT aK aV H.size n a0 a1 a2 a3 a4 a5 a6 a7 a8 a9 a10 a13 a14 rf0 o16.1 f0 v1 v2 f3 v4 v5 o16.2.1 o16.2.2.1 o16.2.2.2.1 o16.2.2.2.2.1 f10 o16.2.2.2.2.2.2.1 o16.2.2.2.2.2.1 o16.2.2.2.2.2.2.2.2.1 o16.2.2.2.2.2.2.2.1 o16.2.2.2.2.2.2.2.2.2.1 o16.2.2.2.2.2.2.2.2.2.2.1 o16.2.2.2.2.2.2.2.2.2.2.2.1 o16.2.2.2.2.2.2.2.2.2.2.2.2 v19 v20 o19 hq20 hk21) ⟨callB_of 1 htx (xw_goodC kw_3_222) rfl rfl rfl (htx _ kw_1_1) (htx _ kw_3_219) ⟨by decide, by decide, by decide +kernel⟩ ⟨Nat.le_of_ble_eq_true rfl, Nat.le_of_ble_eq_true rfl⟩, (htx _ kw_3_221), (htx _ kp_B_demandDone)⟩ ⟨xPre_blind, va_recv hK hP (ci := 0) rfl (q0 := 0) rfl, (fun U hU hW => ⟨rfl, xPre_of hZ hS hFc hPc hDc hK U hU hW⟩)⟩ rfl rfl hl.1 rfl (lv_room (Nat.le_of_ble_eq_true rfl)) dB_one_61 ⟨Nat.le_of_ble_eq_true rfl, Nat.le_of_ble_eq_true rfl⟩) hS (fun q _ h => hFc q h) hFc (fun u9 t H1 locs ht hvm hr9 hB hz1 hk1 hS => ?_)
            obtain ⟨hP1, hK1, hD1⟩ := hB
            rw [ht] at hP1
            obtain ⟨hP, hD⟩ := xjoin (W := [(a15, .inr (2, [.ref a16, .int v22, .int v23])), (a16, .inl (cT 2, 4096, .inr (.inl f21))), (a0, .inr (0, [.ref a1, .ref a3, .ref a5, .ref a7, .ref a8, .ref a13, .int v19, .int o19.2])), (a1, .inr (1, [.ref a2, .int v1, .int v2])), (a2, .inl (cT 0, 4096, .inl f0)), (a3, .inr (1, [.ref a4, .int v4, .int v5])), (a4, .inl (cT 0, 4096, .inl f3)), (a5, .inr (1, [.ref a6, .int o16.2.2.1, .int o16.2.2.2.1])), (a6, .inl (cT 0, 4096, .inl o16.2.1)), (a7, .inl (cT 3, 8, .inr (.inr (.inr (.inr rf0))))), (a8, .inr (3, [.ref a9, .ref a10, .ref o16.2.2.2.2.2.2.1, .ref o16.2.2.2.2.2.2.2.2.1, .int o16.2.2.2.2.2.2.2.2.2.1])), (a9, .inl (cT 1, 2048, .inl o16.2.2.2.2.1)), (a10, .inl (cT 1, 2048, .inl f10)), (o16.2.2.2.2.2.2.1, .inl (cT 1, 2048, .inl o16.2.2.2.2.2.1)), (o16.2.2.2.2.2.2.2.2.1, .inl (cT 1, 2048, .inl o16.2.2.2.2.2.2.2.1)), (a13, .inr (2, [.ref a14, .int o16.2.2.2.2.2.2.2.2.2.2.2.1, .int o16.2.2.2.2.2.2.2.2.2.2.2.2])), (a14, .inl (cT 2, 4096, .inr (.inl o16.2.2.2.2.2.2.2.2.2.2.1)))]) hP hD [0, 1, 2, 3, 4, 8, 9, 5, 10, 11, 12, 13, 14, 15, 16] [6, 7] 2 rfl rfl (by decide) (by decide) hk1 hFc hP1 hD1
            generalize H1 = H at hP hS ⊢
            refine lv_aload_n hx hb dB_one_64 rfl (lv_at hl 0 rfl) ?_
            refine lv_iload_n hx hb dB_one_65 rfl (lv_at hl 1 rfl) ?_
            obtain ⟨o22, hq23, hf⟩ := xbind hf
            by_cases hk24 : o22.1 = 0
            · rw [if_pos hk24] at hf
              obtain ⟨hPc, hDc, hFc⟩ := xcut (wc := [(a0, .inr (0, [.ref a1, .ref a3, .ref a5, .ref a7, .ref a8, .ref a13, .int v19, .int o19.2])), (a1, .inr (1, [.ref a2, .int v1, .int v2])), (a2, .inl (cT 0, 4096, .inl f0)), (a3, .inr (1, [.ref a4, .int v4, .int v5])), (a4, .inl (cT 0, 4096, .inl f3)), (a5, .inr (1, [.ref a6, .int o16.2.2.1, .int o16.2.2.2.1])), (a6, .inl (cT 0, 4096, .inl o16.2.1)), (a7, .inl (cT 3, 8, .inr (.inr (.inr (.inr rf0))))), (a8, .inr (3, [.ref a9, .ref a10, .ref o16.2.2.2.2.2.2.1, .ref o16.2.2.2.2.2.2.2.2.1, .int o16.2.2.2.2.2.2.2.2.2.1])), (a9, .inl (cT 1, 2048, .inl o16.2.2.2.2.1)), (a10, .inl (cT 1, 2048, .inl f10)), (o16.2.2.2.2.2.2.1, .inl (cT 1, 2048, .inl o16.2.2.2.2.2.1)), (o16.2.2.2.2.2.2.2.2.1, .inl (cT 1, 2048, .inl o16.2.2.2.2.2.2.2.1)), (a13, .inr (2, [.ref a14, .int o16.2.2.2.2.2.2.2.2.2.2.2.1, .int o16.2.2.2.2.2.2.2.2.2.2.2.2])), (a14, .inl (cT 2, 4096, .inr (.inl o16.2.2.2.2.2.2.2.2.2.2.1)))]) hP hD hS hA [2, 3, 4, 5, 6, 7, 8, 9, 10, 11, 12, 13, 14, 15, 16] rfl rfl (by decide)
              refine va_calli (va_runV (C := "ValueBench") (As := [.int x1]) (rest := []) ⟨hx, hb, hml, hown, htx⟩ (gB_keepSpare l hl9 D cT aK aV H.size d n a0 a1 a2 a3 a4 a5 a6 a7 a8 a9 a10 a13 a14 rf0 b1 x1 f0 v1 v2 f3 v4 v5 o16.2.1 o16.2.2.1 o16.2.2.2.1 o16.2.2.2.2.1 f10 o16.2.2.2.2.2.2.1 o16.2.2.2.2.2.1 o16.2.2.2.2.2.2.2.2.1 o16.2.2.2.2.2.2.2.1 o16.2.2.2.2.2.2.2.2.2.1 o16.2.2.2.2.2.2.2.2.2.2.1 o16.2.2.2.2.2.2.2.2.2.2.2.1 o16.2.2.2.2.2.2.2.2.2.2.2.2 v19 o19.2 hr1 o22 hq23 hk24) ⟨callB_of 1 htx (xw_goodC kw_3_17) rfl rfl rfl (htx _ kw_1_1) (htx _ kw_3_14) ⟨by decide, by decide, by decide +kernel⟩ ⟨(by show (16 * d + 6) + 1 ≤ 16 * d + 7; omega), (by show 8 + (3 + 11) + (400 * d + 100) ≤ 400 * d + 175; omega)⟩, (htx _ kw_3_16), (htx _ kp_B_keepSpare)⟩ ⟨xPre_blind, va_recv hK hP (ci := 0) rfl (q0 := 2) rfl, (fun U hU hW => ⟨rfl, xPre_of hZ hS hFc hPc hDc hK U hU hW⟩)⟩ rfl rfl hl.1 rfl (lv_room (Nat.le_of_ble_eq_true rfl)) dB_one_66 ⟨Nat.le_of_ble_eq_true rfl, Nat.le_of_ble_eq_true rfl⟩) hS (fun q _ h => hFc q h) hFc (fun r25 u9 t H1 locs ht hvm hr9 hB hz1 hk1 hS => ?_)
              obtain ⟨hP1, hK1, hD1⟩ := hB
              rw [ht] at hP1
              obtain ⟨hP, hD⟩ := xjoin (W := [(a15, .inr (2, [.ref a16, .int v22, .int v23])), (a16, .inl (cT 2, 4096, .inr (.inl f21))), (a0, .inr (0, [.ref a1, .ref a3, .ref a5, .ref a7, .ref a8, .ref b1, .int v19, .int o19.2])), (a1, .inr (1, [.ref a2, .int v1, .int v2])), (a2, .inl (cT 0, 4096, .inl f0)), (a3, .inr (1, [.ref a4, .int v4, .int v5])), (a4, .inl (cT 0, 4096, .inl f3)), (a5, .inr (1, [.ref a6, .int o22.2.2.2.1, .int o22.2.2.2.2])), (a6, .inl (cT 0, 4096, .inl o22.2.2.1)), (a7, .inl (cT 3, 8, .inr (.inr (.inr (.inr (va_up rf0 x1.toNatClampNeg (some a13))))))), (a8, .inr (3, [.ref a9, .ref a10, .ref o16.2.2.2.2.2.2.1, .ref o16.2.2.2.2.2.2.2.2.1, .int o16.2.2.2.2.2.2.2.2.2.1])), (a9, .inl (cT 1, 2048, .inl o16.2.2.2.2.1)), (a10, .inl (cT 1, 2048, .inl f10)), (o16.2.2.2.2.2.2.1, .inl (cT 1, 2048, .inl o16.2.2.2.2.2.1)), (o16.2.2.2.2.2.2.2.2.1, .inl (cT 1, 2048, .inl o16.2.2.2.2.2.2.2.1)), (a13, .inr (2, [.ref a14, .int o16.2.2.2.2.2.2.2.2.2.2.2.1, .int o16.2.2.2.2.2.2.2.2.2.2.2.2])), (a14, .inl (cT 2, 4096, .inr (.inl o16.2.2.2.2.2.2.2.2.2.2.1)))]) hP hD [2, 3, 4, 5, 6, 7, 8, 9, 10, 11, 12, 13, 14, 15, 16] [0, 1] 2 rfl rfl (by decide) (by decide) hk1 hFc hP1 hD1
              generalize H1 = H at hP hS ⊢
              rw [hr9]
              refine W.eq (g2 := F0 m 69 ls [.int o22.2.1]) rfl ?_
              refine lv_pop hx hb dB_one_69 rfl ?_
              obtain rfl := Option.some.inj hf
              exact absurd (show (0 : Nat) = 3 from hkd) (by decide)
            rw [if_neg hk24] at hf
            by_cases hk26 : o22.1 = 1
            · rw [if_pos hk26] at hf
              obtain rfl := Option.some.inj hf
              exact absurd (show (1 : Nat) = 3 from hkd) (by decide)
            rw [if_neg hk26] at hf
            exact nomatch hf
          rw [if_neg hk21] at hf
          by_cases hk28 : o19.1 = 1
          · rw [if_pos hk28] at hf
            obtain rfl := Option.some.inj hf
            exact absurd (show (2 : Nat) = 3 from hkd) (by decide)
          rw [if_neg hk28] at hf
          exact nomatch hf
        rw [if_neg hk12] at hf
        by_cases hk29 : o10 = 1
        · rw [if_pos hk29] at hf
          obtain ⟨hPc, hDc, hFc⟩ := xcut (wc := []) hP hD hS hA [] rfl rfl (by decide)
          refine xx_thr (vx_runS (As := [.int 0]) (rest := []) ⟨hx, hb, hml, hown, htx⟩ (gB_demand_1 l hl9 D cT aK aV H.size n (0 : Int32) o10 hq11 hk29) ⟨callB_of 1 htx (xw_goodC kw_1_221) rfl rfl rfl (htx _ kw_1_1) (htx _ kw_1_219) ⟨by decide, by decide, by decide +kernel⟩ ⟨Nat.le_of_ble_eq_true rfl, Nat.le_of_ble_eq_true rfl⟩, htx _ kw_1_220⟩ ⟨xPre_blind, (fun U hU hW => ⟨rfl, xPre_of hZ hS hFc hPc hDc hK U hU hW⟩)⟩ rfl rfl hl.1 rfl (lv_room (Nat.le_of_ble_eq_true rfl)) dB_one_28 ⟨Nat.le_of_ble_eq_true rfl, Nat.le_of_ble_eq_true rfl⟩) hS hFc (fun q _ h => hFc q h) (fun E ce q9 u9 t H1 locs ht hvm _ hB hz1 hk1 hS hce hcv hcl => ?_)
          obtain ⟨rfl, hP1, hK1, hD1⟩ := hB
          rw [ht] at hP1
          obtain ⟨hP, hD⟩ := xjoin (W := [(a0, .inr (0, [.ref a1, .ref a3, .ref a5, .ref a7, .ref a8, .ref a13, .int v19, .int v20])), (a1, .inr (1, [.ref a2, .int v1, .int v2])), (a2, .inl (cT 0, 4096, .inl f0)), (a3, .inr (1, [.ref a4, .int v4, .int v5])), (a4, .inl (cT 0, 4096, .inl f3)), (a5, .inr (1, [.ref a6, .int v7, .int v8])), (a6, .inl (cT 0, 4096, .inl f6)), (a7, .inl (cT 3, 8, .inr (.inr (.inr (.inr rf0))))), (a8, .inr (3, [.ref a9, .ref a10, .ref p11, .ref p13, .int v15])), (a9, .inl (cT 1, 2048, .inl f9)), (a10, .inl (cT 1, 2048, .inl f10)), (p11, .inl (cT 1, 2048, .inl f12)), (p13, .inl (cT 1, 2048, .inl f14)), (a13, .inr (2, [.ref a14, .int v17, .int v18])), (a14, .inl (cT 2, 4096, .inr (.inl f16))), (a15, .inr (2, [.ref a16, .int v22, .int v23])), (a16, .inl (cT 2, 4096, .inr (.inl f21)))]) hP hD [] [0, 1, 2, 3, 4, 5, 6, 7, 8, 9, 10, 11, 12, 13, 14, 15, 16] 17 rfl rfl (by decide) (by decide) hk1 hFc hP1 hD1
          generalize H1 = H at hP hS hce ⊢
          obtain rfl := Option.some.inj hf
          obtain ⟨hP9, hD9⟩ := xsub (wc := [(a0, .inr (0, [.ref a1, .ref a3, .ref a5, .ref a7, .ref a8, .ref a13, .int v19, .int v20])), (a1, .inr (1, [.ref a2, .int v1, .int v2])), (a2, .inl (cT 0, 4096, .inl f0)), (a3, .inr (1, [.ref a4, .int v4, .int v5])), (a4, .inl (cT 0, 4096, .inl f3)), (a5, .inr (1, [.ref a6, .int v7, .int v8])), (a6, .inl (cT 0, 4096, .inl f6)), (a7, .inl (cT 3, 8, .inr (.inr (.inr (.inr rf0))))), (a8, .inr (3, [.ref a9, .ref a10, .ref p11, .ref p13, .int v15])), (a9, .inl (cT 1, 2048, .inl f9)), (a10, .inl (cT 1, 2048, .inl f10)), (p11, .inl (cT 1, 2048, .inl f12)), (p13, .inl (cT 1, 2048, .inl f14)), (a13, .inr (2, [.ref a14, .int v17, .int v18])), (a14, .inl (cT 2, 4096, .inr (.inl f16))), (a15, .inr (2, [.ref a16, .int v22, .int v23])), (a16, .inl (cT 2, 4096, .inr (.inl f21)))]) hP hD [0, 1, 2, 3, 4, 5, 6, 7, 8, 9, 10, 11, 12, 13, 14, 15, 16] rfl rfl (by decide)
          exact vx_out (E := "java/lang/IllegalArgumentException") (fun x h => (hne x h).elim) hlocks hce hcv hcl (fun t ht ha => ⟨(), trivial, ⟨rfl, by rw [ht]; exact hP9, va_K.moved ha hK, hD9⟩, hS.F ht⟩) hS.2.2 (Nat.le_of_ble_eq_true rfl) (Nat.le_of_ble_eq_true rfl)
        rw [if_neg hk29] at hf
        exact nomatch hf
      · rw [if_neg hc] at hf
        refine lv_iconst (v := 1) hx hb dB_one_23 (by decide) ?_
        refine lv_goto (tgt := 28) hx hb dB_one_24 (by decide) ?_
        obtain ⟨o10, hq11, hf⟩ := xbind hf
        by_cases hk12 : o10 = 0
        · rw [if_pos hk12] at hf
          obtain ⟨hPc, hDc, hFc⟩ := xcut (wc := []) hP hD hS hA [] rfl rfl (by decide)
          refine va_callv (va_runS (As := [.int 1]) (rest := []) ⟨hx, hb, hml, hown, htx⟩ (gB_demand l hl9 D cT aK aV H.size n (1 : Int32) o10 hq11 hk12) ⟨callB_of 1 htx (xw_goodC kw_1_221) rfl rfl rfl (htx _ kw_1_1) (htx _ kw_1_219) ⟨by decide, by decide, by decide +kernel⟩ ⟨Nat.le_of_ble_eq_true rfl, Nat.le_of_ble_eq_true rfl⟩, htx _ kw_1_220⟩ ⟨xPre_blind, (fun U hU hW => ⟨rfl, xPre_of hZ hS hFc hPc hDc hK U hU hW⟩)⟩ rfl rfl hl.1 rfl (lv_room (Nat.le_of_ble_eq_true rfl)) dB_one_28 ⟨Nat.le_of_ble_eq_true rfl, Nat.le_of_ble_eq_true rfl⟩) hS (fun q _ h => hFc q h) hFc (fun u9 t H1 locs ht hvm hr9 hB hz1 hk1 hS => ?_)
          obtain ⟨hP1, hK1, hD1⟩ := hB
          rw [ht] at hP1
          obtain ⟨hP, hD⟩ := xjoin (W := [(a0, .inr (0, [.ref a1, .ref a3, .ref a5, .ref a7, .ref a8, .ref a13, .int v19, .int v20])), (a1, .inr (1, [.ref a2, .int v1, .int v2])), (a2, .inl (cT 0, 4096, .inl f0)), (a3, .inr (1, [.ref a4, .int v4, .int v5])), (a4, .inl (cT 0, 4096, .inl f3)), (a5, .inr (1, [.ref a6, .int v7, .int v8])), (a6, .inl (cT 0, 4096, .inl f6)), (a7, .inl (cT 3, 8, .inr (.inr (.inr (.inr rf0))))), (a8, .inr (3, [.ref a9, .ref a10, .ref p11, .ref p13, .int v15])), (a9, .inl (cT 1, 2048, .inl f9)), (a10, .inl (cT 1, 2048, .inl f10)), (p11, .inl (cT 1, 2048, .inl f12)), (p13, .inl (cT 1, 2048, .inl f14)), (a13, .inr (2, [.ref a14, .int v17, .int v18])), (a14, .inl (cT 2, 4096, .inr (.inl f16))), (a15, .inr (2, [.ref a16, .int v22, .int v23])), (a16, .inl (cT 2, 4096, .inr (.inl f21)))]) hP hD [] [0, 1, 2, 3, 4, 5, 6, 7, 8, 9, 10, 11, 12, 13, 14, 15, 16] 17 rfl rfl (by decide) (by decide) hk1 hFc hP1 hD1
          generalize H1 = H at hP hS ⊢
          refine lv_aload_n hx hb dB_one_31 rfl (lv_at hl 0 rfl) ?_
          refine va_get (D := D) (ci := 0) (v := .ref a13) (C := "ValueBench") (T := TB) (N := 8) hx hb htx inB hown hK hP 0 rfl rfl 5 (by decide) (htx _ kw_1_100) (fun _ h9 => h9) rfl dB_one_32 ?_
          obtain ⟨o13, hq14, hf⟩ := xbind hf
          obtain ⟨hPc, hDc, hFc⟩ := xcut (wc := [(a13, .inr (2, [.ref a14, .int v17, .int v18])), (a14, .inl (cT 2, 4096, .inr (.inl f16)))]) hP hD hS hA [13, 14] rfl rfl (by decide)
          refine va_callv (va_runV (C := "ValueBench$Row") (As := []) (rest := []) ⟨hx, hb, hml, hown, htx⟩ (gR_clear l hl9 D cT aK aV H.size n a13 a14 f16 v17 v18 o13 hq14) ⟨callB_of 0 htx (xw_goodC kw_2_22) rfl rfl rfl (htx _ kw_1_4) (htx _ kw_2_19) ⟨by decide, by decide, by decide +kernel⟩ ⟨Nat.le_of_ble_eq_true rfl, Nat.le_of_ble_eq_true rfl⟩, (htx _ kw_2_20), (htx _ kw_2_21)⟩ ⟨xPre_blind, va_recv hK hP (ci := 2) rfl (q0 := 13) rfl, (fun U hU hW => ⟨rfl, xPre_of hZ hS hFc hPc hDc hK U hU hW⟩)⟩ rfl rfl hl.1 rfl (lv_room (Nat.le_of_ble_eq_true rfl)) dB_one_35 ⟨Nat.le_of_ble_eq_true rfl, Nat.le_of_ble_eq_true rfl⟩) hS (fun q _ h => hFc q h) hFc (fun u9 t H1 locs ht hvm hr9 hB hz1 hk1 hS => ?_)
          obtain ⟨hP1, hK1, hD1⟩ := hB
          rw [ht] at hP1
          obtain ⟨hP, hD⟩ := xjoin (W := [(a0, .inr (0, [.ref a1, .ref a3, .ref a5, .ref a7, .ref a8, .ref a13, .int v19, .int v20])), (a1, .inr (1, [.ref a2, .int v1, .int v2])), (a2, .inl (cT 0, 4096, .inl f0)), (a3, .inr (1, [.ref a4, .int v4, .int v5])), (a4, .inl (cT 0, 4096, .inl f3)), (a5, .inr (1, [.ref a6, .int v7, .int v8])), (a6, .inl (cT 0, 4096, .inl f6)), (a7, .inl (cT 3, 8, .inr (.inr (.inr (.inr rf0))))), (a8, .inr (3, [.ref a9, .ref a10, .ref p11, .ref p13, .int v15])), (a9, .inl (cT 1, 2048, .inl f9)), (a10, .inl (cT 1, 2048, .inl f10)), (p11, .inl (cT 1, 2048, .inl f12)), (p13, .inl (cT 1, 2048, .inl f14)), (a15, .inr (2, [.ref a16, .int v22, .int v23])), (a16, .inl (cT 2, 4096, .inr (.inl f21))), (a13, .inr (2, [.ref a14, .int o13.1, .int o13.2])), (a14, .inl (cT 2, 4096, .inr (.inl f16)))]) hP hD [13, 14] [0, 1, 2, 3, 4, 5, 6, 7, 8, 9, 10, 11, 12, 15, 16] 15 rfl rfl (by decide) (by decide) hk1 hFc hP1 hD1
          generalize H1 = H at hP hS ⊢
          refine lv_aload_n hx hb dB_one_38 rfl (lv_at hl 0 rfl) ?_
          refine lv_iload_n hx hb dB_one_39 rfl (lv_at hl 2 rfl) ?_
          refine lv_aload_n hx hb dB_one_40 rfl (lv_at hl 0 rfl) ?_
          refine va_get (D := D) (ci := 0) (v := .ref a7) (C := "ValueBench") (T := TB) (N := 8) hx hb htx inB hown hK hP 0 rfl rfl 3 (by decide) (htx _ kw_1_98) (fun _ h9 => h9) rfl dB_one_41 ?_
          refine lv_iload_n hx hb dB_one_44 rfl (lv_at hl 3 rfl) ?_
          obtain ⟨hg15, hf⟩ := xifn hf
          refine va_aldq hx hb hK hP 7 3 rfl rfl hg15 dB_one_45 ?_
          refine W.eq (g2 := F0 m 46 ls [va_rf (rf0 x3.toNatClampNeg), .int x2, .ref a0]) rfl ?_
          rw [hr3 hg15]
          refine W.eq (g2 := F0 m 46 ls [.ref a15, .int x2, .ref a0]) rfl ?_
          refine lv_aload_n hx hb dB_one_46 rfl (lv_at hl 0 rfl) ?_
          refine va_get (D := D) (ci := 0) (v := .ref a5) (C := "ValueBench") (T := TB) (N := 8) hx hb htx inB hown hK hP 0 rfl rfl 2 (by decide) (htx _ kw_1_97) (fun _ h9 => h9) rfl dB_one_47 ?_
          refine lv_aload_n hx hb dB_one_50 rfl (lv_at hl 0 rfl) ?_
          refine va_get (D := D) (ci := 0) (v := .ref a8) (C := "ValueBench") (T := TB) (N := 8) hx hb htx inB hown hK hP 0 rfl rfl 4 (by decide) (htx _ kw_1_99) (fun _ h9 => h9) rfl dB_one_51 ?_
          refine lv_aload_n hx hb dB_one_54 rfl (lv_at hl 0 rfl) ?_
          refine va_get (D := D) (ci := 0) (v := .ref a13) (C := "ValueBench") (T := TB) (N := 8) hx hb htx inB hown hK hP 0 rfl rfl 5 (by decide) (htx _ kw_1_100) (fun _ h9 => h9) rfl dB_one_55 ?_
          obtain ⟨o16, hq17, hf⟩ := xbind hf
          obtain ⟨hPc, hDc, hFc⟩ := xcut (wc := [(a15, .inr (2, [.ref a16, .int v22, .int v23])), (a16, .inl (cT 2, 4096, .inr (.inl f21))), (a5, .inr (1, [.ref a6, .int v7, .int v8])), (a6, .inl (cT 0, 4096, .inl f6)), (a8, .inr (3, [.ref a9, .ref a10, .ref p11, .ref p13, .int v15])), (a9, .inl (cT 1, 2048, .inl f9)), (a10, .inl (cT 1, 2048, .inl f10)), (p11, .inl (cT 1, 2048, .inl f12)), (p13, .inl (cT 1, 2048, .inl f14)), (a13, .inr (2, [.ref a14, .int o13.1, .int o13.2])), (a14, .inl (cT 2, 4096, .inr (.inl f16)))]) hP hD hS hA [13, 14, 5, 6, 8, 9, 10, 11, 12, 15, 16] rfl rfl (by decide)
          refine va_calli (va_runS (As := [.int x2, .ref a15, .ref a5, .ref a8, .ref a13]) (rest := [.ref a0]) ⟨hx, hb, hml, hown, htx⟩ (gG_apply l hl9 D cT aK aV H.size d n a15 a16 a5 a6 a8 a9 a10 a13 a14 x2 f21 v22 v23 f6 v7 v8 f9 f10 p11 f12 p13 f14 v15 f16 o13.1 o13.2 o16 hq17) ⟨callB_of 5 htx (xw_goodC kw_4_28) rfl rfl rfl (htx _ kw_1_26) (htx _ kw_4_26) ⟨by decide, by decide, by decide +kernel⟩ ⟨(by show (16 * d + 5) + 1 ≤ 16 * d + 7; omega), (by show 8 + (5 + 11) + (400 * d + 151) ≤ 400 * d + 175; omega)⟩, htx _ kw_4_27⟩ ⟨xPre_blind, (fun U hU hW => ⟨rfl, xPre_of hZ hS hFc hPc hDc hK U hU hW⟩)⟩ rfl rfl hl.1 rfl (lv_room (Nat.le_of_ble_eq_true rfl)) dB_one_58 ⟨Nat.le_of_ble_eq_true rfl, Nat.le_of_ble_eq_true rfl⟩) hS (fun q _ h => hFc q h) hFc (fun r18 u9 t H1 locs ht hvm hr9 hB hz1 hk1 hS => ?_)
          obtain ⟨hP1, hK1, hD1⟩ := hB
          rw [ht] at hP1
          obtain ⟨hP, hD⟩ := xjoin (W := [(a0, .inr (0, [.ref a1, .ref a3, .ref a5, .ref a7, .ref a8, .ref a13, .int v19, .int v20])), (a1, .inr (1, [.ref a2, .int v1, .int v2])), (a2, .inl (cT 0, 4096, .inl f0)), (a3, .inr (1, [.ref a4, .int v4, .int v5])), (a4, .inl (cT 0, 4096, .inl f3)), (a7, .inl (cT 3, 8, .inr (.inr (.inr (.inr rf0))))), (a15, .inr (2, [.ref a16, .int v22, .int v23])), (a16, .inl (cT 2, 4096, .inr (.inl f21))), (a5, .inr (1, [.ref a6, .int o16.2.2.1, .int o16.2.2.2.1])), (a6, .inl (cT 0, 4096, .inl o16.2.1)), (a8, .inr (3, [.ref a9, .ref a10, .ref o16.2.2.2.2.2.2.1, .ref o16.2.2.2.2.2.2.2.2.1, .int o16.2.2.2.2.2.2.2.2.2.1])), (a9, .inl (cT 1, 2048, .inl o16.2.2.2.2.1)), (a10, .inl (cT 1, 2048, .inl f10)), (o16.2.2.2.2.2.2.1, .inl (cT 1, 2048, .inl o16.2.2.2.2.2.1)), (o16.2.2.2.2.2.2.2.2.1, .inl (cT 1, 2048, .inl o16.2.2.2.2.2.2.2.1)), (a13, .inr (2, [.ref a14, .int o16.2.2.2.2.2.2.2.2.2.2.2.1, .int o16.2.2.2.2.2.2.2.2.2.2.2.2])), (a14, .inl (cT 2, 4096, .inr (.inl o16.2.2.2.2.2.2.2.2.2.2.1)))]) hP hD [13, 14, 5, 6, 8, 9, 10, 11, 12, 15, 16] [0, 1, 2, 3, 4, 7] 6 rfl rfl (by decide) (by decide) hk1 hFc hP1 hD1
          generalize H1 = H at hP hS ⊢
          rw [hr9]
          refine W.eq (g2 := F0 m 61 ls [.int o16.1, .ref a0]) rfl ?_
          obtain ⟨o19, hq20, hf⟩ := xbind hf
          by_cases hk21 : o19.1 = 0
          · rw [if_pos hk21] at hf
            obtain ⟨hPc, hDc, hFc⟩ := xcut (wc := [(a0, .inr (0, [.ref a1, .ref a3, .ref a5, .ref a7, .ref a8, .ref a13, .int v19, .int v20])), (a1, .inr (1, [.ref a2, .int v1, .int v2])), (a2, .inl (cT 0, 4096, .inl f0)), (a3, .inr (1, [.ref a4, .int v4, .int v5])), (a4, .inl (cT 0, 4096, .inl f3)), (a5, .inr (1, [.ref a6, .int o16.2.2.1, .int o16.2.2.2.1])), (a6, .inl (cT 0, 4096, .inl o16.2.1)), (a7, .inl (cT 3, 8, .inr (.inr (.inr (.inr rf0))))), (a8, .inr (3, [.ref a9, .ref a10, .ref o16.2.2.2.2.2.2.1, .ref o16.2.2.2.2.2.2.2.2.1, .int o16.2.2.2.2.2.2.2.2.2.1])), (a9, .inl (cT 1, 2048, .inl o16.2.2.2.2.1)), (a10, .inl (cT 1, 2048, .inl f10)), (o16.2.2.2.2.2.2.1, .inl (cT 1, 2048, .inl o16.2.2.2.2.2.1)), (o16.2.2.2.2.2.2.2.2.1, .inl (cT 1, 2048, .inl o16.2.2.2.2.2.2.2.1)), (a13, .inr (2, [.ref a14, .int o16.2.2.2.2.2.2.2.2.2.2.2.1, .int o16.2.2.2.2.2.2.2.2.2.2.2.2])), (a14, .inl (cT 2, 4096, .inr (.inl o16.2.2.2.2.2.2.2.2.2.2.1)))]) hP hD hS hA [0, 1, 2, 3, 4, 8, 9, 5, 10, 11, 12, 13, 14, 15, 16] rfl rfl (by decide)
            refine va_callv (va_runV (C := "ValueBench") (As := [.int o16.1]) (rest := []) ⟨hx, hb, hml, hown, htx⟩ (gB_demandDone l hl9 D cT aK aV H.size n a0 a1 a2 a3 a4 a5 a6 a7 a8 a9 a10 a13 a14 rf0 o16.1 f0 v1 v2 f3 v4 v5 o16.2.1 o16.2.2.1 o16.2.2.2.1 o16.2.2.2.2.1 f10 o16.2.2.2.2.2.2.1 o16.2.2.2.2.2.1 o16.2.2.2.2.2.2.2.2.1 o16.2.2.2.2.2.2.2.1 o16.2.2.2.2.2.2.2.2.2.1 o16.2.2.2.2.2.2.2.2.2.2.1 o16.2.2.2.2.2.2.2.2.2.2.2.1 o16.2.2.2.2.2.2.2.2.2.2.2.2 v19 v20 o19 hq20 hk21) ⟨callB_of 1 htx (xw_goodC kw_3_222) rfl rfl rfl (htx _ kw_1_1) (htx _ kw_3_219) ⟨by decide, by decide, by decide +kernel⟩ ⟨Nat.le_of_ble_eq_true rfl, Nat.le_of_ble_eq_true rfl⟩, (htx _ kw_3_221), (htx _ kp_B_demandDone)⟩ ⟨xPre_blind, va_recv hK hP (ci := 0) rfl (q0 := 0) rfl, (fun U hU hW => ⟨rfl, xPre_of hZ hS hFc hPc hDc hK U hU hW⟩)⟩ rfl rfl hl.1 rfl (lv_room (Nat.le_of_ble_eq_true rfl)) dB_one_61 ⟨Nat.le_of_ble_eq_true rfl, Nat.le_of_ble_eq_true rfl⟩) hS (fun q _ h => hFc q h) hFc (fun u9 t H1 locs ht hvm hr9 hB hz1 hk1 hS => ?_)
            obtain ⟨hP1, hK1, hD1⟩ := hB
            rw [ht] at hP1
            obtain ⟨hP, hD⟩ := xjoin (W := [(a15, .inr (2, [.ref a16, .int v22, .int v23])), (a16, .inl (cT 2, 4096, .inr (.inl f21))), (a0, .inr (0, [.ref a1, .ref a3, .ref a5, .ref a7, .ref a8, .ref a13, .int v19, .int o19.2])), (a1, .inr (1, [.ref a2, .int v1, .int v2])), (a2, .inl (cT 0, 4096, .inl f0)), (a3, .inr (1, [.ref a4, .int v4, .int v5])), (a4, .inl (cT 0, 4096, .inl f3)), (a5, .inr (1, [.ref a6, .int o16.2.2.1, .int o16.2.2.2.1])), (a6, .inl (cT 0, 4096, .inl o16.2.1)), (a7, .inl (cT 3, 8, .inr (.inr (.inr (.inr rf0))))), (a8, .inr (3, [.ref a9, .ref a10, .ref o16.2.2.2.2.2.2.1, .ref o16.2.2.2.2.2.2.2.2.1, .int o16.2.2.2.2.2.2.2.2.2.1])), (a9, .inl (cT 1, 2048, .inl o16.2.2.2.2.1)), (a10, .inl (cT 1, 2048, .inl f10)), (o16.2.2.2.2.2.2.1, .inl (cT 1, 2048, .inl o16.2.2.2.2.2.1)), (o16.2.2.2.2.2.2.2.2.1, .inl (cT 1, 2048, .inl o16.2.2.2.2.2.2.2.1)), (a13, .inr (2, [.ref a14, .int o16.2.2.2.2.2.2.2.2.2.2.2.1, .int o16.2.2.2.2.2.2.2.2.2.2.2.2])), (a14, .inl (cT 2, 4096, .inr (.inl o16.2.2.2.2.2.2.2.2.2.2.1)))]) hP hD [0, 1, 2, 3, 4, 8, 9, 5, 10, 11, 12, 13, 14, 15, 16] [6, 7] 2 rfl rfl (by decide) (by decide) hk1 hFc hP1 hD1
            generalize H1 = H at hP hS ⊢
            refine lv_aload_n hx hb dB_one_64 rfl (lv_at hl 0 rfl) ?_
            refine lv_iload_n hx hb dB_one_65 rfl (lv_at hl 1 rfl) ?_
            obtain ⟨o22, hq23, hf⟩ := xbind hf
            by_cases hk24 : o22.1 = 0
            · rw [if_pos hk24] at hf
              obtain ⟨hPc, hDc, hFc⟩ := xcut (wc := [(a0, .inr (0, [.ref a1, .ref a3, .ref a5, .ref a7, .ref a8, .ref a13, .int v19, .int o19.2])), (a1, .inr (1, [.ref a2, .int v1, .int v2])), (a2, .inl (cT 0, 4096, .inl f0)), (a3, .inr (1, [.ref a4, .int v4, .int v5])), (a4, .inl (cT 0, 4096, .inl f3)), (a5, .inr (1, [.ref a6, .int o16.2.2.1, .int o16.2.2.2.1])), (a6, .inl (cT 0, 4096, .inl o16.2.1)), (a7, .inl (cT 3, 8, .inr (.inr (.inr (.inr rf0))))), (a8, .inr (3, [.ref a9, .ref a10, .ref o16.2.2.2.2.2.2.1, .ref o16.2.2.2.2.2.2.2.2.1, .int o16.2.2.2.2.2.2.2.2.2.1])), (a9, .inl (cT 1, 2048, .inl o16.2.2.2.2.1)), (a10, .inl (cT 1, 2048, .inl f10)), (o16.2.2.2.2.2.2.1, .inl (cT 1, 2048, .inl o16.2.2.2.2.2.1)), (o16.2.2.2.2.2.2.2.2.1, .inl (cT 1, 2048, .inl o16.2.2.2.2.2.2.2.1)), (a13, .inr (2, [.ref a14, .int o16.2.2.2.2.2.2.2.2.2.2.2.1, .int o16.2.2.2.2.2.2.2.2.2.2.2.2])), (a14, .inl (cT 2, 4096, .inr (.inl o16.2.2.2.2.2.2.2.2.2.2.1)))]) hP hD hS hA [2, 3, 4, 5, 6, 7, 8, 9, 10, 11, 12, 13, 14, 15, 16] rfl rfl (by decide)
              refine va_calli (va_runV (C := "ValueBench") (As := [.int x1]) (rest := []) ⟨hx, hb, hml, hown, htx⟩ (gB_keepSpare l hl9 D cT aK aV H.size d n a0 a1 a2 a3 a4 a5 a6 a7 a8 a9 a10 a13 a14 rf0 b1 x1 f0 v1 v2 f3 v4 v5 o16.2.1 o16.2.2.1 o16.2.2.2.1 o16.2.2.2.2.1 f10 o16.2.2.2.2.2.2.1 o16.2.2.2.2.2.1 o16.2.2.2.2.2.2.2.2.1 o16.2.2.2.2.2.2.2.1 o16.2.2.2.2.2.2.2.2.2.1 o16.2.2.2.2.2.2.2.2.2.2.1 o16.2.2.2.2.2.2.2.2.2.2.2.1 o16.2.2.2.2.2.2.2.2.2.2.2.2 v19 o19.2 hr1 o22 hq23 hk24) ⟨callB_of 1 htx (xw_goodC kw_3_17) rfl rfl rfl (htx _ kw_1_1) (htx _ kw_3_14) ⟨by decide, by decide, by decide +kernel⟩ ⟨(by show (16 * d + 6) + 1 ≤ 16 * d + 7; omega), (by show 8 + (3 + 11) + (400 * d + 100) ≤ 400 * d + 175; omega)⟩, (htx _ kw_3_16), (htx _ kp_B_keepSpare)⟩ ⟨xPre_blind, va_recv hK hP (ci := 0) rfl (q0 := 2) rfl, (fun U hU hW => ⟨rfl, xPre_of hZ hS hFc hPc hDc hK U hU hW⟩)⟩ rfl rfl hl.1 rfl (lv_room (Nat.le_of_ble_eq_true rfl)) dB_one_66 ⟨Nat.le_of_ble_eq_true rfl, Nat.le_of_ble_eq_true rfl⟩) hS (fun q _ h => hFc q h) hFc (fun r25 u9 t H1 locs ht hvm hr9 hB hz1 hk1 hS => ?_)
              obtain ⟨hP1, hK1, hD1⟩ := hB
              rw [ht] at hP1
              obtain ⟨hP, hD⟩ := xjoin (W := [(a15, .inr (2, [.ref a16, .int v22, .int v23])), (a16, .inl (cT 2, 4096, .inr (.inl f21))), (a0, .inr (0, [.ref a1, .ref a3, .ref a5, .ref a7, .ref a8, .ref b1, .int v19, .int o19.2])), (a1, .inr (1, [.ref a2, .int v1, .int v2])), (a2, .inl (cT 0, 4096, .inl f0)), (a3, .inr (1, [.ref a4, .int v4, .int v5])), (a4, .inl (cT 0, 4096, .inl f3)), (a5, .inr (1, [.ref a6, .int o22.2.2.2.1, .int o22.2.2.2.2])), (a6, .inl (cT 0, 4096, .inl o22.2.2.1)), (a7, .inl (cT 3, 8, .inr (.inr (.inr (.inr (va_up rf0 x1.toNatClampNeg (some a13))))))), (a8, .inr (3, [.ref a9, .ref a10, .ref o16.2.2.2.2.2.2.1, .ref o16.2.2.2.2.2.2.2.2.1, .int o16.2.2.2.2.2.2.2.2.2.1])), (a9, .inl (cT 1, 2048, .inl o16.2.2.2.2.1)), (a10, .inl (cT 1, 2048, .inl f10)), (o16.2.2.2.2.2.2.1, .inl (cT 1, 2048, .inl o16.2.2.2.2.2.1)), (o16.2.2.2.2.2.2.2.2.1, .inl (cT 1, 2048, .inl o16.2.2.2.2.2.2.2.1)), (a13, .inr (2, [.ref a14, .int o16.2.2.2.2.2.2.2.2.2.2.2.1, .int o16.2.2.2.2.2.2.2.2.2.2.2.2])), (a14, .inl (cT 2, 4096, .inr (.inl o16.2.2.2.2.2.2.2.2.2.2.1)))]) hP hD [2, 3, 4, 5, 6, 7, 8, 9, 10, 11, 12, 13, 14, 15, 16] [0, 1] 2 rfl rfl (by decide) (by decide) hk1 hFc hP1 hD1
              generalize H1 = H at hP hS ⊢
              rw [hr9]
              refine W.eq (g2 := F0 m 69 ls [.int o22.2.1]) rfl ?_
              refine lv_pop hx hb dB_one_69 rfl ?_
              obtain rfl := Option.some.inj hf
              exact absurd (show (0 : Nat) = 3 from hkd) (by decide)
            rw [if_neg hk24] at hf
            by_cases hk26 : o22.1 = 1
            · rw [if_pos hk26] at hf
              obtain rfl := Option.some.inj hf
              exact absurd (show (1 : Nat) = 3 from hkd) (by decide)
            rw [if_neg hk26] at hf
            exact nomatch hf
          rw [if_neg hk21] at hf
          by_cases hk28 : o19.1 = 1
          · rw [if_pos hk28] at hf
            obtain rfl := Option.some.inj hf
            exact absurd (show (2 : Nat) = 3 from hkd) (by decide)
          rw [if_neg hk28] at hf
          exact nomatch hf
        rw [if_neg hk12] at hf
        by_cases hk29 : o10 = 1
        · rw [if_pos hk29] at hf
          obtain ⟨hPc, hDc, hFc⟩ := xcut (wc := []) hP hD hS hA [] rfl rfl (by decide)
          refine xx_thr (vx_runS (As := [.int 1]) (rest := []) ⟨hx, hb, hml, hown, htx⟩ (gB_demand_1 l hl9 D cT aK aV H.size n (1 : Int32) o10 hq11 hk29) ⟨callB_of 1 htx (xw_goodC kw_1_221) rfl rfl rfl (htx _ kw_1_1) (htx _ kw_1_219) ⟨by decide, by decide, by decide +kernel⟩ ⟨Nat.le_of_ble_eq_true rfl, Nat.le_of_ble_eq_true rfl⟩, htx _ kw_1_220⟩ ⟨xPre_blind, (fun U hU hW => ⟨rfl, xPre_of hZ hS hFc hPc hDc hK U hU hW⟩)⟩ rfl rfl hl.1 rfl (lv_room (Nat.le_of_ble_eq_true rfl)) dB_one_28 ⟨Nat.le_of_ble_eq_true rfl, Nat.le_of_ble_eq_true rfl⟩) hS hFc (fun q _ h => hFc q h) (fun E ce q9 u9 t H1 locs ht hvm _ hB hz1 hk1 hS hce hcv hcl => ?_)
          obtain ⟨rfl, hP1, hK1, hD1⟩ := hB
          rw [ht] at hP1
          obtain ⟨hP, hD⟩ := xjoin (W := [(a0, .inr (0, [.ref a1, .ref a3, .ref a5, .ref a7, .ref a8, .ref a13, .int v19, .int v20])), (a1, .inr (1, [.ref a2, .int v1, .int v2])), (a2, .inl (cT 0, 4096, .inl f0)), (a3, .inr (1, [.ref a4, .int v4, .int v5])), (a4, .inl (cT 0, 4096, .inl f3)), (a5, .inr (1, [.ref a6, .int v7, .int v8])), (a6, .inl (cT 0, 4096, .inl f6)), (a7, .inl (cT 3, 8, .inr (.inr (.inr (.inr rf0))))), (a8, .inr (3, [.ref a9, .ref a10, .ref p11, .ref p13, .int v15])), (a9, .inl (cT 1, 2048, .inl f9)), (a10, .inl (cT 1, 2048, .inl f10)), (p11, .inl (cT 1, 2048, .inl f12)), (p13, .inl (cT 1, 2048, .inl f14)), (a13, .inr (2, [.ref a14, .int v17, .int v18])), (a14, .inl (cT 2, 4096, .inr (.inl f16))), (a15, .inr (2, [.ref a16, .int v22, .int v23])), (a16, .inl (cT 2, 4096, .inr (.inl f21)))]) hP hD [] [0, 1, 2, 3, 4, 5, 6, 7, 8, 9, 10, 11, 12, 13, 14, 15, 16] 17 rfl rfl (by decide) (by decide) hk1 hFc hP1 hD1
          generalize H1 = H at hP hS hce ⊢
          obtain rfl := Option.some.inj hf
          obtain ⟨hP9, hD9⟩ := xsub (wc := [(a0, .inr (0, [.ref a1, .ref a3, .ref a5, .ref a7, .ref a8, .ref a13, .int v19, .int v20])), (a1, .inr (1, [.ref a2, .int v1, .int v2])), (a2, .inl (cT 0, 4096, .inl f0)), (a3, .inr (1, [.ref a4, .int v4, .int v5])), (a4, .inl (cT 0, 4096, .inl f3)), (a5, .inr (1, [.ref a6, .int v7, .int v8])), (a6, .inl (cT 0, 4096, .inl f6)), (a7, .inl (cT 3, 8, .inr (.inr (.inr (.inr rf0))))), (a8, .inr (3, [.ref a9, .ref a10, .ref p11, .ref p13, .int v15])), (a9, .inl (cT 1, 2048, .inl f9)), (a10, .inl (cT 1, 2048, .inl f10)), (p11, .inl (cT 1, 2048, .inl f12)), (p13, .inl (cT 1, 2048, .inl f14)), (a13, .inr (2, [.ref a14, .int v17, .int v18])), (a14, .inl (cT 2, 4096, .inr (.inl f16))), (a15, .inr (2, [.ref a16, .int v22, .int v23])), (a16, .inl (cT 2, 4096, .inr (.inl f21)))]) hP hD [0, 1, 2, 3, 4, 5, 6, 7, 8, 9, 10, 11, 12, 13, 14, 15, 16] rfl rfl (by decide)
          exact vx_out (E := "java/lang/IllegalArgumentException") (fun x h => (hne x h).elim) hlocks hce hcv hcl (fun t ht ha => ⟨(), trivial, ⟨rfl, by rw [ht]; exact hP9, va_K.moved ha hK, hD9⟩, hS.F ht⟩) hS.2.2 (Nat.le_of_ble_eq_true rfl) (Nat.le_of_ble_eq_true rfl)
        rw [if_neg hk29] at hf
        exact nomatch hf
set_option maxHeartbeats 400000000 in
set_option maxRecDepth 100000 in
theorem gB_word (l : Launch) (hl9 : l.stackTraces = false) (D : va_G) (cT : Nat → ClassId) (aK aV : Nat → Nat) (sz n : Nat) (a0 : Nat) (a1 : Nat) (a2 : Nat) (a3 : Nat) (a4 : Nat) (a5 : Nat) (a6 : Nat) (a7 : Nat) (a8 : Nat) (a9 : Nat) (a10 : Nat) (a13 : Nat) (a14 : Nat) (rf0 : Nat → Option Nat) (x1 : Int32) (f0 : Nat → Int32) (v1 : Int32) (v2 : Int32) (f3 : Nat → Int32) (v4 : Int32) (v5 : Int32) (f6 : Nat → Int32) (v7 : Int32) (v8 : Int32) (f9 : Nat → Int32) (f10 : Nat → Int32) (p11 : Nat) (f12 : Nat → Int32) (p13 : Nat) (f14 : Nat → Int32) (v15 : Int32) (f16 : Nat → Int64) (v17 : Int32) (v18 : Int32) (v19 : Int32) (v20 : Int32) (out : Nat × Int64) (hf : fB_word n x1 f0 v1 v2 f3 v4 v5 f6 v7 v8 f9 f10 p11 f12 p13 f14 v15 f16 v17 v18 v19 v20 = some out) (hkd : out.1 = 0) : xMet l yB_word wyB_word 6 1 6 100 D cT aK aV sz [.ref a0, .int x1] [(a0, .inr (0, [.ref a1, .ref a3, .ref a5, .ref a7, .ref a8, .ref a13, .int v19, .int v20])), (a1, .inr (1, [.ref a2, .int v1, .int v2])), (a2, .inl (cT 0, 4096, .inl f0)), (a3, .inr (1, [.ref a4, .int v4, .int v5])), (a4, .inl (cT 0, 4096, .inl f3)), (a5, .inr (1, [.ref a6, .int v7, .int v8])), (a6, .inl (cT 0, 4096, .inl f6)), (a7, .inl (cT 3, 8, .inr (.inr (.inr (.inr rf0))))), (a8, .inr (3, [.ref a9, .ref a10, .ref p11, .ref p13, .int v15])), (a9, .inl (cT 1, 2048, .inl f9)), (a10, .inl (cT 1, 2048, .inl f10)), (p11, .inl (cT 1, 2048, .inl f12)), (p13, .inl (cT 1, 2048, .inl f14)), (a13, .inr (2, [.ref a14, .int v17, .int v18])), (a14, .inl (cT 2, 4096, .inr (.inl f16)))] (fun A => va_Ql (fun (r : Int64) (_ : Unit) => r = out.2) (fun _ t => xB D xcl cT A [(a0, .inr (0, [.ref a1, .ref a3, .ref a5, .ref a7, .ref a8, .ref a13, .int v19, .int v20])), (a1, .inr (1, [.ref a2, .int v1, .int v2])), (a2, .inl (cT 0, 4096, .inl f0)), (a3, .inr (1, [.ref a4, .int v4, .int v5])), (a4, .inl (cT 0, 4096, .inl f3)), (a5, .inr (1, [.ref a6, .int v7, .int v8])), (a6, .inl (cT 0, 4096, .inl f6)), (a7, .inl (cT 3, 8, .inr (.inr (.inr (.inr rf0))))), (a8, .inr (3, [.ref a9, .ref a10, .ref p11, .ref p13, .int v15])), (a9, .inl (cT 1, 2048, .inl f9)), (a10, .inl (cT 1, 2048, .inl f10)), (p11, .inl (cT 1, 2048, .inl f12)), (p13, .inl (cT 1, 2048, .inl f14)), (a13, .inr (2, [.ref a14, .int v17, .int v18])), (a14, .inl (cT 2, 4096, .inr (.inl f16)))] t) A) := by
  refine Met.ofW (cc := prog_1_method_12_code) (maxL := 5) (ret := (some .long)) (by decide) rfl ?_
  intro p e s m args below meth c s₁ B hml hv
  obtain ⟨rfl, hsz, hZ, hP, hK, hD0⟩ := hv
  have hx := B.exec
  have hb := B.bytes
  have hr := B.returns
  have hts := atoms_spec (ws := wyB_word) B.pre
  have htx := fun w h => hts w (List.mem_cons_of_mem _ h)
  have hown : s.vm.findClass "ValueBench" = some m.cls := findClass_of_methodNamed B.named
  have hlocks := B.notSynchronized
  subst hsz
  have hD := hD0.self (sz := s.heap.size)
  generalize hAe : va_A [(a0, .inr (0, [.ref a1, .ref a3, .ref a5, .ref a7, .ref a8, .ref a13, .int v19, .int v20])), (a1, .inr (1, [.ref a2, .int v1, .int v2])), (a2, .inl (cT 0, 4096, .inl f0)), (a3, .inr (1, [.ref a4, .int v4, .int v5])), (a4, .inl (cT 0, 4096, .inl f3)), (a5, .inr (1, [.ref a6, .int v7, .int v8])), (a6, .inl (cT 0, 4096, .inl f6)), (a7, .inl (cT 3, 8, .inr (.inr (.inr (.inr rf0))))), (a8, .inr (3, [.ref a9, .ref a10, .ref p11, .ref p13, .int v15])), (a9, .inl (cT 1, 2048, .inl f9)), (a10, .inl (cT 1, 2048, .inl f10)), (p11, .inl (cT 1, 2048, .inl f12)), (p13, .inl (cT 1, 2048, .inl f14)), (a13, .inr (2, [.ref a14, .int v17, .int v18])), (a14, .inl (cT 2, 4096, .inr (.inl f16)))] s.heap.size = A at hD hZ ⊢
  have hA : ∀ q : Nat, s.heap.size ≤ q → A q := fun q h => by rw [← hAe]; exact Or.inr h
  have hS : va_S A s.heap s.heap [] := va_S.rf
  have hP : va_P D xcl [(a0, .inr (0, [.ref a1, .ref a3, .ref a5, .ref a7, .ref a8, .ref a13, .int v19, .int v20])), (a1, .inr (1, [.ref a2, .int v1, .int v2])), (a2, .inl (cT 0, 4096, .inl f0)), (a3, .inr (1, [.ref a4, .int v4, .int v5])), (a4, .inl (cT 0, 4096, .inl f3)), (a5, .inr (1, [.ref a6, .int v7, .int v8])), (a6, .inl (cT 0, 4096, .inl f6)), (a7, .inl (cT 3, 8, .inr (.inr (.inr (.inr rf0))))), (a8, .inr (3, [.ref a9, .ref a10, .ref p11, .ref p13, .int v15])), (a9, .inl (cT 1, 2048, .inl f9)), (a10, .inl (cT 1, 2048, .inl f10)), (p11, .inl (cT 1, 2048, .inl f12)), (p13, .inl (cT 1, 2048, .inl f14)), (a13, .inr (2, [.ref a14, .int v17, .int v18])), (a14, .inl (cT 2, 4096, .inr (.inl f16)))] s.heap := hP
  have hl := lv_entry ([.ref a0, .int x1]) (n := 5) (Nat.le_of_ble_eq_true rfl)
  rw [lg_entry_eq]
  generalize (lg_sl ([.ref a0, .int x1]) ++ List.replicate (5 - (lg_sl ([.ref a0, .int x1])).length) Slot.unset).toArray = ls at hl ⊢
  have hl : lv_has ls 5 [(0, .ref a0), (1, .int x1)] := hl
  unfold fB_word at hf
  refine xloopK (σ := Nat × Int32 × Int64 × Int32) (fun n x H locs ls => (x.1 = 1 ∧ fB_word_b f0 v1 v2 f3 v4 v5 f6 v7 v8 f9 f10 p11 f12 p13 f14 v15 f16 v17 v18 v19 v20 n x.1 x.2.1 x.2.2.1 x.2.2.2 = some out ∧ va_P D xcl [(a0, .inr (0, [.ref a1, .ref a3, .ref a5, .ref a7, .ref a8, .ref a13, .int v19, .int v20])), (a1, .inr (1, [.ref a2, .int v1, .int v2])), (a2, .inl (cT 0, 4096, .inl f0)), (a3, .inr (1, [.ref a4, .int v4, .int v5])), (a4, .inl (cT 0, 4096, .inl f3)), (a5, .inr (1, [.ref a6, .int v7, .int v8])), (a6, .inl (cT 0, 4096, .inl f6)), (a7, .inl (cT 3, 8, .inr (.inr (.inr (.inr rf0))))), (a8, .inr (3, [.ref a9, .ref a10, .ref p11, .ref p13, .int v15])), (a9, .inl (cT 1, 2048, .inl f9)), (a10, .inl (cT 1, 2048, .inl f10)), (p11, .inl (cT 1, 2048, .inl f12)), (p13, .inl (cT 1, 2048, .inl f14)), (a13, .inr (2, [.ref a14, .int v17, .int v18])), (a14, .inl (cT 2, 4096, .inr (.inl f16)))] H ∧ va_D A [(a0, .inr (0, [.ref a1, .ref a3, .ref a5, .ref a7, .ref a8, .ref a13, .int v19, .int v20])), (a1, .inr (1, [.ref a2, .int v1, .int v2])), (a2, .inl (cT 0, 4096, .inl f0)), (a3, .inr (1, [.ref a4, .int v4, .int v5])), (a4, .inl (cT 0, 4096, .inl f3)), (a5, .inr (1, [.ref a6, .int v7, .int v8])), (a6, .inl (cT 0, 4096, .inl f6)), (a7, .inl (cT 3, 8, .inr (.inr (.inr (.inr rf0))))), (a8, .inr (3, [.ref a9, .ref a10, .ref p11, .ref p13, .int v15])), (a9, .inl (cT 1, 2048, .inl f9)), (a10, .inl (cT 1, 2048, .inl f10)), (p11, .inl (cT 1, 2048, .inl f12)), (p13, .inl (cT 1, 2048, .inl f14)), (a13, .inr (2, [.ref a14, .int v17, .int v18])), (a14, .inl (cT 2, 4096, .inr (.inl f16)))] ∧ va_S A s.heap H locs ∧ lv_has ls 5 [(4, .int x.2.1), (2, .long x.2.2.1), (0, .ref a0), (1, .int x.2.2.2)])) (fun x => 30) (fun x H locs ls h => by exact absurd h.2.1 (by rw [fB_word_b]; exact fun h => nomatch h)) (fun n ih x H locs ls hv => ?_) (fun key => ?_)
  · obtain ⟨lb, y4, y2, y1⟩ := x
    rcases hv with ⟨hj, hf, hP, hD, hS, hl⟩
    subst hj
    have hf : fB_word_b f0 v1 v2 f3 v4 v5 f6 v7 v8 f9 f10 p11 f12 p13 f14 v15 f16 v17 v18 v19 v20 (n + 1) 1 y4 y2 y1 = some out := hf
    rw [fB_word_b] at hf
    obtain ⟨hP, hD⟩ : xPD D xcl A [(a0, .inr (0, [.ref a1, .ref a3, .ref a5, .ref a7, .ref a8, .ref a13, .int v19, .int v20])), (a1, .inr (1, [.ref a2, .int v1, .int v2])), (a2, .inl (cT 0, 4096, .inl f0)), (a3, .inr (1, [.ref a4, .int v4, .int v5])), (a4, .inl (cT 0, 4096, .inl f3)), (a5, .inr (1, [.ref a6, .int v7, .int v8])), (a6, .inl (cT 0, 4096, .inl f6)), (a7, .inl (cT 3, 8, .inr (.inr (.inr (.inr rf0))))), (a8, .inr (3, [.ref a9, .ref a10, .ref p11, .ref p13, .int v15])), (a9, .inl (cT 1, 2048, .inl f9)), (a10, .inl (cT 1, 2048, .inl f10)), (p11, .inl (cT 1, 2048, .inl f12)), (p13, .inl (cT 1, 2048, .inl f14)), (a13, .inr (2, [.ref a14, .int v17, .int v18])), (a14, .inl (cT 2, 4096, .inr (.inl f16)))] H := ⟨hP, hD⟩
    have hl : lv_has ls 5 [(4, .int y4), (2, .long y2), (0, .ref a0), (1, .int y1)] := hl
    refine W.eq (g2 := F0 m 30 ls []) rfl ?_
    refine lv_iload hx hb dB_word_30 (lv_at hl 0 rfl) ?_
    refine lv_bipush (v := 8) hx hb dB_word_32 (by decide) ?_
    refine lv_icmp_ge (tgt := 65) hx hb dB_word_34 (by decide) (fun hc => ?_) (fun hc => ?_)
    · rw [if_pos hc] at hf
      refine lv_lload_n hx hb dB_word_65 rfl (lv_at hl 1 rfl) ?_
      obtain rfl := Option.some.inj hf
      obtain ⟨hP9, hD9⟩ := xsub (wc := [(a0, .inr (0, [.ref a1, .ref a3, .ref a5, .ref a7, .ref a8, .ref a13, .int v19, .int v20])), (a1, .inr (1, [.ref a2, .int v1, .int v2])), (a2, .inl (cT 0, 4096, .inl f0)), (a3, .inr (1, [.ref a4, .int v4, .int v5])), (a4, .inl (cT 0, 4096, .inl f3)), (a5, .inr (1, [.ref a6, .int v7, .int v8])), (a6, .inl (cT 0, 4096, .inl f6)), (a7, .inl (cT 3, 8, .inr (.inr (.inr (.inr rf0))))), (a8, .inr (3, [.ref a9, .ref a10, .ref p11, .ref p13, .int v15])), (a9, .inl (cT 1, 2048, .inl f9)), (a10, .inl (cT 1, 2048, .inl f10)), (p11, .inl (cT 1, 2048, .inl f12)), (p13, .inl (cT 1, 2048, .inl f14)), (a13, .inr (2, [.ref a14, .int v17, .int v18])), (a14, .inl (cT 2, 4096, .inr (.inl f16)))]) hP hD [0, 1, 2, 3, 4, 5, 6, 7, 8, 9, 10, 11, 12, 13, 14] rfl rfl (by decide)
      refine W.widen (k := 1) (n := 6) (Nat.le_of_ble_eq_true rfl) (Nat.le_of_ble_eq_true rfl) ?_
      exact W.lret (v := y2) hx hb hr (fun t ht hW => ⟨⟨y2, (), rfl, rfl, by rw [ht]; exact hP9, va_K.moved hW.alike hK, hD9⟩, hS.F ht⟩) hS.2.2 dB_word_66
    · rw [if_neg hc] at hf
      refine lv_lload_n hx hb dB_word_37 rfl (lv_at hl 1 rfl) ?_
      refine lv_bipush (v := 8) hx hb dB_word_38 (by decide) ?_
      refine lv_lshl hx hb dB_word_40 rfl ?_
      refine lv_aload_n hx hb dB_word_41 rfl (lv_at hl 2 rfl) ?_
      refine va_get (D := D) (ci := 0) (v := .ref a3) (C := "ValueBench") (T := TB) (N := 8) hx hb htx inB hown hK hP 0 rfl rfl 1 (by decide) (htx _ kw_1_96) (fun _ h9 => h9) rfl dB_word_42 ?_
      refine lv_iload_n hx hb dB_word_45 rfl (lv_at hl 3 rfl) ?_
      refine lv_iload hx hb dB_word_46 (lv_at hl 0 rfl) ?_
      refine lv_iadd hx hb dB_word_48 ?_
      obtain ⟨o1, hq2, hf⟩ := xbind hf
      obtain ⟨hPc, hDc, hFc⟩ := xcut (wc := [(a3, .inr (1, [.ref a4, .int v4, .int v5])), (a4, .inl (cT 0, 4096, .inl f3))]) hP hD hS hA [3, 4] rfl rfl (by decide)
      refine va_calli (va_runV (C := "ValueBench$Text") (As := [.int (y1 + y4)]) (rest := [.long (y2 <<< ((8 : Int32).toInt64 &&& 63))]) ⟨hx, hb, hml, hown, htx⟩ (gT_at l hl9 D cT aK aV H.size n a3 a4 (y1 + y4) f3 v4 v5 o1 hq2) ⟨callB_of 1 htx (xw_goodC kw_2_58) rfl rfl rfl (htx _ kw_1_2) (htx _ kw_5_65) ⟨by decide, by decide, by decide +kernel⟩ ⟨Nat.le_of_ble_eq_true rfl, Nat.le_of_ble_eq_true rfl⟩, (htx _ kw_2_56), (htx _ kw_2_57)⟩ ⟨xPre_blind, va_recv hK hP (ci := 1) rfl (q0 := 3) rfl, (fun U hU hW => ⟨rfl, xPre_of hZ hS hFc hPc hDc hK U hU hW⟩)⟩ rfl rfl hl.1 rfl (lv_room (Nat.le_of_ble_eq_true rfl)) dB_word_49 ⟨Nat.le_of_ble_eq_true rfl, Nat.le_of_ble_eq_true rfl⟩) hS (fun q _ h => hFc q h) hFc (fun r3 u9 t H1 locs ht hvm hr9 hB hz1 hk1 hS => ?_)
      obtain ⟨hP1, hK1, hD1⟩ := hB
      rw [ht] at hP1
      obtain ⟨hP, hD⟩ := xjoin (W := [(a0, .inr (0, [.ref a1, .ref a3, .ref a5, .ref a7, .ref a8, .ref a13, .int v19, .int v20])), (a1, .inr (1, [.ref a2, .int v1, .int v2])), (a2, .inl (cT 0, 4096, .inl f0)), (a5, .inr (1, [.ref a6, .int v7, .int v8])), (a6, .inl (cT 0, 4096, .inl f6)), (a7, .inl (cT 3, 8, .inr (.inr (.inr (.inr rf0))))), (a8, .inr (3, [.ref a9, .ref a10, .ref p11, .ref p13, .int v15])), (a9, .inl (cT 1, 2048, .inl f9)), (a10, .inl (cT 1, 2048, .inl f10)), (p11, .inl (cT 1, 2048, .inl f12)), (p13, .inl (cT 1, 2048, .inl f14)), (a13, .inr (2, [.ref a14, .int v17, .int v18])), (a14, .inl (cT 2, 4096, .inr (.inl f16))), (a3, .inr (1, [.ref a4, .int v4, .int v5])), (a4, .inl (cT 0, 4096, .inl f3))]) hP hD [3, 4] [0, 1, 2, 5, 6, 7, 8, 9, 10, 11, 12, 13, 14] 13 rfl rfl (by decide) (by decide) hk1 hFc hP1 hD1
      generalize H1 = H at hP hS ⊢
      rw [hr9]
      refine W.eq (g2 := F0 m 52 ls [.int o1, .long (y2 <<< ((8 : Int32).toInt64 &&& 63))]) rfl ?_
      refine lv_iconst (v := 0) hx hb dB_word_52 (by decide) ?_
      refine va_mmax hx hb (hml.trans hl.1.symm) hown (htx _ kw_5_66) (htx _ kw_2_6) (htx _ kw_1_15) (htx _ kw_2_7) (Nat.le_of_ble_eq_true rfl) (Nat.le_of_ble_eq_true rfl) (Nat.le_of_ble_eq_true rfl) (Nat.le_of_ble_eq_true rfl) dB_word_53 ?_
      refine W.eq (g2 := F0 m 56 ls [.int (if o1 < (0 : Int32) then (0 : Int32) else o1), .long (y2 <<< ((8 : Int32).toInt64 &&& 63))]) rfl ?_
      refine lv_i2l hx hb dB_word_56 rfl ?_
      refine lv_lor hx hb dB_word_57 ?_
      refine lv_lstore_n (lv' := [(2, .long ((y2 <<< ((8 : Int32).toInt64 &&& 63)) ||| (if o1 < (0 : Int32) then (0 : Int32) else o1).toInt64)), (4, .int y4), (0, .ref a0), (1, .int y1)]) hx hb dB_word_58 rfl hl (by decide) rfl (fun ls hl => ?_)
      refine lv_iinc (v := (y4 + 1)) (lv' := [(4, .int (y4 + 1)), (2, .long ((y2 <<< ((8 : Int32).toInt64 &&& 63)) ||| (if o1 < (0 : Int32) then (0 : Int32) else o1).toInt64)), (0, .ref a0), (1, .int y1)]) hx hb dB_word_59 hl (k := 1) rfl rfl (by decide) rfl (fun ls hl => ?_)
      refine lv_goto (tgt := 30) hx hb dB_word_62 (by decide) ?_
      obtain ⟨hP9, hD9⟩ := xsub (wc := [(a0, .inr (0, [.ref a1, .ref a3, .ref a5, .ref a7, .ref a8, .ref a13, .int v19, .int v20])), (a1, .inr (1, [.ref a2, .int v1, .int v2])), (a2, .inl (cT 0, 4096, .inl f0)), (a3, .inr (1, [.ref a4, .int v4, .int v5])), (a4, .inl (cT 0, 4096, .inl f3)), (a5, .inr (1, [.ref a6, .int v7, .int v8])), (a6, .inl (cT 0, 4096, .inl f6)), (a7, .inl (cT 3, 8, .inr (.inr (.inr (.inr rf0))))), (a8, .inr (3, [.ref a9, .ref a10, .ref p11, .ref p13, .int v15])), (a9, .inl (cT 1, 2048, .inl f9)), (a10, .inl (cT 1, 2048, .inl f10)), (p11, .inl (cT 1, 2048, .inl f12)), (p13, .inl (cT 1, 2048, .inl f14)), (a13, .inr (2, [.ref a14, .int v17, .int v18])), (a14, .inl (cT 2, 4096, .inr (.inl f16)))]) hP hD [0, 1, 2, 13, 14, 3, 4, 5, 6, 7, 8, 9, 10, 11, 12] rfl rfl (by decide)
      exact ih (1, (y4 + 1), ((y2 <<< ((8 : Int32).toInt64 &&& 63)) ||| (if o1 < (0 : Int32) then (0 : Int32) else o1).toInt64), y1) _ _ ls (⟨rfl, hf, hP9, hD9, hS, lv_sub hl [0, 1, 2, 3] rfl⟩)
  refine lv_iload_n hx hb dB_word_0 rfl (lv_at hl 1 rfl) ?_
  refine lv_if_lt (tgt := 15) hx hb dB_word_1 (by decide) (fun hc => ?_) (fun hc => ?_)
  · rw [if_pos hc] at hf
    obtain rfl := Option.some.inj hf
    exact absurd (show (1 : Nat) = 0 from hkd) (by decide)
  · rw [if_neg hc] at hf
    refine lv_iload_n hx hb dB_word_4 rfl (lv_at hl 1 rfl) ?_
    refine lv_aload_n hx hb dB_word_5 rfl (lv_at hl 0 rfl) ?_
    refine va_get (D := D) (ci := 0) (v := .ref a3) (C := "ValueBench") (T := TB) (N := 8) hx hb htx inB hown hK hP 0 rfl rfl 1 (by decide) (htx _ kw_1_96) (fun _ h9 => h9) rfl dB_word_6 ?_
    obtain ⟨o1, hq2, hf⟩ := xbind hf
    obtain ⟨hPc, hDc, hFc⟩ := xcut (wc := [(a3, .inr (1, [.ref a4, .int v4, .int v5])), (a4, .inl (cT 0, 4096, .inl f3))]) hP hD hS hA [3, 4] rfl rfl (by decide)
    refine va_calli (va_runV (C := "ValueBench$Text") (As := []) (rest := [.int x1]) ⟨hx, hb, hml, hown, htx⟩ (gT_size l hl9 D cT aK aV s.heap.size n a3 a4 f3 v4 v5 o1 hq2) ⟨callB_of 0 htx (xw_goodC kw_1_131) rfl rfl rfl (htx _ kw_1_2) (htx _ kw_1_128) ⟨by decide, by decide, by decide +kernel⟩ ⟨Nat.le_of_ble_eq_true rfl, Nat.le_of_ble_eq_true rfl⟩, (htx _ kw_1_129), (htx _ kw_1_130)⟩ ⟨xPre_blind, va_recv hK hP (ci := 1) rfl (q0 := 3) rfl, (fun U hU hW => ⟨rfl, xPre_of hZ hS hFc hPc hDc hK U hU hW⟩)⟩ rfl rfl hl.1 rfl (lv_room (Nat.le_of_ble_eq_true rfl)) dB_word_9 ⟨Nat.le_of_ble_eq_true rfl, Nat.le_of_ble_eq_true rfl⟩) hS (fun q _ h => hFc q h) hFc (fun r3 u9 t H1 locs ht hvm hr9 hB hz1 hk1 hS => ?_)
    obtain ⟨hP1, hK1, hD1⟩ := hB
    rw [ht] at hP1
    obtain ⟨hP, hD⟩ := xjoin (W := [(a0, .inr (0, [.ref a1, .ref a3, .ref a5, .ref a7, .ref a8, .ref a13, .int v19, .int v20])), (a1, .inr (1, [.ref a2, .int v1, .int v2])), (a2, .inl (cT 0, 4096, .inl f0)), (a5, .inr (1, [.ref a6, .int v7, .int v8])), (a6, .inl (cT 0, 4096, .inl f6)), (a7, .inl (cT 3, 8, .inr (.inr (.inr (.inr rf0))))), (a8, .inr (3, [.ref a9, .ref a10, .ref p11, .ref p13, .int v15])), (a9, .inl (cT 1, 2048, .inl f9)), (a10, .inl (cT 1, 2048, .inl f10)), (p11, .inl (cT 1, 2048, .inl f12)), (p13, .inl (cT 1, 2048, .inl f14)), (a13, .inr (2, [.ref a14, .int v17, .int v18])), (a14, .inl (cT 2, 4096, .inr (.inl f16))), (a3, .inr (1, [.ref a4, .int v4, .int v5])), (a4, .inl (cT 0, 4096, .inl f3))]) hP hD [3, 4] [0, 1, 2, 5, 6, 7, 8, 9, 10, 11, 12, 13, 14] 13 rfl rfl (by decide) (by decide) hk1 hFc hP1 hD1
    generalize H1 = H at hP hS ⊢
    rw [hr9]
    refine W.eq (g2 := F0 m 12 ls [.int o1, .int x1]) rfl ?_
    refine lv_icmp_lt (tgt := 25) hx hb dB_word_12 (by decide) (fun hc => ?_) (fun hc => ?_)
    · rw [if_pos hc] at hf
      refine lv_lconst (v := 0) hx hb dB_word_25 (by decide) ?_
      refine lv_lstore_n (lv' := [(2, .long 0), (0, .ref a0), (1, .int x1)]) hx hb dB_word_26 rfl hl (by decide) rfl (fun ls hl => ?_)
      refine lv_iconst (v := 0) hx hb dB_word_27 (by decide) ?_
      refine lv_istore (lv' := [(4, .int 0), (2, .long 0), (0, .ref a0), (1, .int x1)]) hx hb dB_word_28 hl (by decide) rfl (fun ls hl => ?_)
      obtain ⟨hP9, hD9⟩ := xsub (wc := [(a0, .inr (0, [.ref a1, .ref a3, .ref a5, .ref a7, .ref a8, .ref a13, .int v19, .int v20])), (a1, .inr (1, [.ref a2, .int v1, .int v2])), (a2, .inl (cT 0, 4096, .inl f0)), (a3, .inr (1, [.ref a4, .int v4, .int v5])), (a4, .inl (cT 0, 4096, .inl f3)), (a5, .inr (1, [.ref a6, .int v7, .int v8])), (a6, .inl (cT 0, 4096, .inl f6)), (a7, .inl (cT 3, 8, .inr (.inr (.inr (.inr rf0))))), (a8, .inr (3, [.ref a9, .ref a10, .ref p11, .ref p13, .int v15])), (a9, .inl (cT 1, 2048, .inl f9)), (a10, .inl (cT 1, 2048, .inl f10)), (p11, .inl (cT 1, 2048, .inl f12)), (p13, .inl (cT 1, 2048, .inl f14)), (a13, .inr (2, [.ref a14, .int v17, .int v18])), (a14, .inl (cT 2, 4096, .inr (.inl f16)))]) hP hD [0, 1, 2, 13, 14, 3, 4, 5, 6, 7, 8, 9, 10, 11, 12] rfl rfl (by decide)
      exact key n (1, 0, 0, x1) _ _ ls (⟨rfl, hf, hP9, hD9, hS, lv_sub hl [0, 1, 2, 3] rfl⟩)
    · rw [if_neg hc] at hf
      obtain rfl := Option.some.inj hf
      exact absurd (show (1 : Nat) = 0 from hkd) (by decide)
set_option maxHeartbeats 400000000 in
set_option maxRecDepth 100000 in
theorem gB_word_1 (l : Launch) (hl9 : l.stackTraces = false) (D : va_G) (cT : Nat → ClassId) (aK aV : Nat → Nat) (sz n : Nat) (a0 : Nat) (a1 : Nat) (a2 : Nat) (a3 : Nat) (a4 : Nat) (a5 : Nat) (a6 : Nat) (a7 : Nat) (a8 : Nat) (a9 : Nat) (a10 : Nat) (a13 : Nat) (a14 : Nat) (rf0 : Nat → Option Nat) (x1 : Int32) (f0 : Nat → Int32) (v1 : Int32) (v2 : Int32) (f3 : Nat → Int32) (v4 : Int32) (v5 : Int32) (f6 : Nat → Int32) (v7 : Int32) (v8 : Int32) (f9 : Nat → Int32) (f10 : Nat → Int32) (p11 : Nat) (f12 : Nat → Int32) (p13 : Nat) (f14 : Nat → Int32) (v15 : Int32) (f16 : Nat → Int64) (v17 : Int32) (v18 : Int32) (v19 : Int32) (v20 : Int32) (out : Nat × Int64) (hf : fB_word n x1 f0 v1 v2 f3 v4 v5 f6 v7 v8 f9 f10 p11 f12 p13 f14 v15 f16 v17 v18 v19 v20 = some out) (hkd : out.1 = 1) : xMetX l yB_word wyB_word 6 1 6 100 D cT aK aV sz [.ref a0, .int x1] [(a0, .inr (0, [.ref a1, .ref a3, .ref a5, .ref a7, .ref a8, .ref a13, .int v19, .int v20])), (a1, .inr (1, [.ref a2, .int v1, .int v2])), (a2, .inl (cT 0, 4096, .inl f0)), (a3, .inr (1, [.ref a4, .int v4, .int v5])), (a4, .inl (cT 0, 4096, .inl f3)), (a5, .inr (1, [.ref a6, .int v7, .int v8])), (a6, .inl (cT 0, 4096, .inl f6)), (a7, .inl (cT 3, 8, .inr (.inr (.inr (.inr rf0))))), (a8, .inr (3, [.ref a9, .ref a10, .ref p11, .ref p13, .int v15])), (a9, .inl (cT 1, 2048, .inl f9)), (a10, .inl (cT 1, 2048, .inl f10)), (p11, .inl (cT 1, 2048, .inl f12)), (p13, .inl (cT 1, 2048, .inl f14)), (a13, .inr (2, [.ref a14, .int v17, .int v18])), (a14, .inl (cT 2, 4096, .inr (.inl f16)))] "java/lang/IndexOutOfBoundsException" (fun A t => xB D xcl cT A [(a0, .inr (0, [.ref a1, .ref a3, .ref a5, .ref a7, .ref a8, .ref a13, .int v19, .int v20])), (a1, .inr (1, [.ref a2, .int v1, .int v2])), (a2, .inl (cT 0, 4096, .inl f0)), (a3, .inr (1, [.ref a4, .int v4, .int v5])), (a4, .inl (cT 0, 4096, .inl f3)), (a5, .inr (1, [.ref a6, .int v7, .int v8])), (a6, .inl (cT 0, 4096, .inl f6)), (a7, .inl (cT 3, 8, .inr (.inr (.inr (.inr rf0))))), (a8, .inr (3, [.ref a9, .ref a10, .ref p11, .ref p13, .int v15])), (a9, .inl (cT 1, 2048, .inl f9)), (a10, .inl (cT 1, 2048, .inl f10)), (p11, .inl (cT 1, 2048, .inl f12)), (p13, .inl (cT 1, 2048, .inl f14)), (a13, .inr (2, [.ref a14, .int v17, .int v18])), (a14, .inl (cT 2, 4096, .inr (.inl f16)))] t) := by
  refine vx_ofW (cc := prog_1_method_12_code) (maxL := 5) (ret := (some .long)) (by decide) rfl ?_
  intro p e s m args below meth c s₁ B hml hne hv
  obtain ⟨rfl, hsz, hZ, hP, hK, hD0⟩ := hv
  have hx := B.exec
  have hb := B.bytes
  have hr := B.returns
  have hts := atoms_spec (ws := wyB_word) B.pre
  have htx := fun w h => hts w (List.mem_cons_of_mem _ h)
  have hown : s.vm.findClass "ValueBench" = some m.cls := findClass_of_methodNamed B.named
  have hlocks := B.notSynchronized
  subst hsz
  have hD := hD0.self (sz := s.heap.size)
  generalize hAe : va_A [(a0, .inr (0, [.ref a1, .ref a3, .ref a5, .ref a7, .ref a8, .ref a13, .int v19, .int v20])), (a1, .inr (1, [.ref a2, .int v1, .int v2])), (a2, .inl (cT 0, 4096, .inl f0)), (a3, .inr (1, [.ref a4, .int v4, .int v5])), (a4, .inl (cT 0, 4096, .inl f3)), (a5, .inr (1, [.ref a6, .int v7, .int v8])), (a6, .inl (cT 0, 4096, .inl f6)), (a7, .inl (cT 3, 8, .inr (.inr (.inr (.inr rf0))))), (a8, .inr (3, [.ref a9, .ref a10, .ref p11, .ref p13, .int v15])), (a9, .inl (cT 1, 2048, .inl f9)), (a10, .inl (cT 1, 2048, .inl f10)), (p11, .inl (cT 1, 2048, .inl f12)), (p13, .inl (cT 1, 2048, .inl f14)), (a13, .inr (2, [.ref a14, .int v17, .int v18])), (a14, .inl (cT 2, 4096, .inr (.inl f16)))] s.heap.size = A at hD hZ ⊢
  have hA : ∀ q : Nat, s.heap.size ≤ q → A q := fun q h => by rw [← hAe]; exact Or.inr h
  have hS : va_S A s.heap s.heap [] := va_S.rf
  have hP : va_P D xcl [(a0, .inr (0, [.ref a1, .ref a3, .ref a5, .ref a7, .ref a8, .ref a13, .int v19, .int v20])), (a1, .inr (1, [.ref a2, .int v1, .int v2])), (a2, .inl (cT 0, 4096, .inl f0)), (a3, .inr (1, [.ref a4, .int v4, .int v5])), (a4, .inl (cT 0, 4096, .inl f3)), (a5, .inr (1, [.ref a6, .int v7, .int v8])), (a6, .inl (cT 0, 4096, .inl f6)), (a7, .inl (cT 3, 8, .inr (.inr (.inr (.inr rf0))))), (a8, .inr (3, [.ref a9, .ref a10, .ref p11, .ref p13, .int v15])), (a9, .inl (cT 1, 2048, .inl f9)), (a10, .inl (cT 1, 2048, .inl f10)), (p11, .inl (cT 1, 2048, .inl f12)), (p13, .inl (cT 1, 2048, .inl f14)), (a13, .inr (2, [.ref a14, .int v17, .int v18])), (a14, .inl (cT 2, 4096, .inr (.inl f16)))] s.heap := hP
  have hl := lv_entry ([.ref a0, .int x1]) (n := 5) (Nat.le_of_ble_eq_true rfl)
  rw [lg_entry_eq]
  generalize (lg_sl ([.ref a0, .int x1]) ++ List.replicate (5 - (lg_sl ([.ref a0, .int x1])).length) Slot.unset).toArray = ls at hl ⊢
  have hl : lv_has ls 5 [(0, .ref a0), (1, .int x1)] := hl
  unfold fB_word at hf
  refine xloopK (σ := Nat × Int32 × Int64 × Int32) (fun n x H locs ls => (x.1 = 1 ∧ fB_word_b f0 v1 v2 f3 v4 v5 f6 v7 v8 f9 f10 p11 f12 p13 f14 v15 f16 v17 v18 v19 v20 n x.1 x.2.1 x.2.2.1 x.2.2.2 = some out ∧ va_P D xcl [(a0, .inr (0, [.ref a1, .ref a3, .ref a5, .ref a7, .ref a8, .ref a13, .int v19, .int v20])), (a1, .inr (1, [.ref a2, .int v1, .int v2])), (a2, .inl (cT 0, 4096, .inl f0)), (a3, .inr (1, [.ref a4, .int v4, .int v5])), (a4, .inl (cT 0, 4096, .inl f3)), (a5, .inr (1, [.ref a6, .int v7, .int v8])), (a6, .inl (cT 0, 4096, .inl f6)), (a7, .inl (cT 3, 8, .inr (.inr (.inr (.inr rf0))))), (a8, .inr (3, [.ref a9, .ref a10, .ref p11, .ref p13, .int v15])), (a9, .inl (cT 1, 2048, .inl f9)), (a10, .inl (cT 1, 2048, .inl f10)), (p11, .inl (cT 1, 2048, .inl f12)), (p13, .inl (cT 1, 2048, .inl f14)), (a13, .inr (2, [.ref a14, .int v17, .int v18])), (a14, .inl (cT 2, 4096, .inr (.inl f16)))] H ∧ va_D A [(a0, .inr (0, [.ref a1, .ref a3, .ref a5, .ref a7, .ref a8, .ref a13, .int v19, .int v20])), (a1, .inr (1, [.ref a2, .int v1, .int v2])), (a2, .inl (cT 0, 4096, .inl f0)), (a3, .inr (1, [.ref a4, .int v4, .int v5])), (a4, .inl (cT 0, 4096, .inl f3)), (a5, .inr (1, [.ref a6, .int v7, .int v8])), (a6, .inl (cT 0, 4096, .inl f6)), (a7, .inl (cT 3, 8, .inr (.inr (.inr (.inr rf0))))), (a8, .inr (3, [.ref a9, .ref a10, .ref p11, .ref p13, .int v15])), (a9, .inl (cT 1, 2048, .inl f9)), (a10, .inl (cT 1, 2048, .inl f10)), (p11, .inl (cT 1, 2048, .inl f12)), (p13, .inl (cT 1, 2048, .inl f14)), (a13, .inr (2, [.ref a14, .int v17, .int v18])), (a14, .inl (cT 2, 4096, .inr (.inl f16)))] ∧ va_S A s.heap H locs ∧ lv_has ls 5 [(4, .int x.2.1), (2, .long x.2.2.1), (0, .ref a0), (1, .int x.2.2.2)])) (fun x => 30) (fun x H locs ls h => by exact absurd h.2.1 (by rw [fB_word_b]; exact fun h => nomatch h)) (fun n ih x H locs ls hv => ?_) (fun key => ?_)
  · obtain ⟨lb, y4, y2, y1⟩ := x
    rcases hv with ⟨hj, hf, hP, hD, hS, hl⟩
    subst hj
    have hf : fB_word_b f0 v1 v2 f3 v4 v5 f6 v7 v8 f9 f10 p11 f12 p13 f14 v15 f16 v17 v18 v19 v20 (n + 1) 1 y4 y2 y1 = some out := hf
    rw [fB_word_b] at hf
    obtain ⟨hP, hD⟩ : xPD D xcl A [(a0, .inr (0, [.ref a1, .ref a3, .ref a5, .ref a7, .ref a8, .ref a13, .int v19, .int v20])), (a1, .inr (1, [.ref a2, .int v1, .int v2])), (a2, .inl (cT 0, 4096, .inl f0)), (a3, .inr (1, [.ref a4, .int v4, .int v5])), (a4, .inl (cT 0, 4096, .inl f3)), (a5, .inr (1, [.ref a6, .int v7, .int v8])), (a6, .inl (cT 0, 4096, .inl f6)), (a7, .inl (cT 3, 8, .inr (.inr (.inr (.inr rf0))))), (a8, .inr (3, [.ref a9, .ref a10, .ref p11, .ref p13, .int v15])), (a9, .inl (cT 1, 2048, .inl f9)), (a10, .inl (cT 1, 2048, .inl f10)), (p11, .inl (cT 1, 2048, .inl f12)), (p13, .inl (cT 1, 2048, .inl f14)), (a13, .inr (2, [.ref a14, .int v17, .int v18])), (a14, .inl (cT 2, 4096, .inr (.inl f16)))] H := ⟨hP, hD⟩
    have hl : lv_has ls 5 [(4, .int y4), (2, .long y2), (0, .ref a0), (1, .int y1)] := hl
    refine W.eq (g2 := F0 m 30 ls []) rfl ?_
    refine lv_iload hx hb dB_word_30 (lv_at hl 0 rfl) ?_
    refine lv_bipush (v := 8) hx hb dB_word_32 (by decide) ?_
    refine lv_icmp_ge (tgt := 65) hx hb dB_word_34 (by decide) (fun hc => ?_) (fun hc => ?_)
    · rw [if_pos hc] at hf
      refine lv_lload_n hx hb dB_word_65 rfl (lv_at hl 1 rfl) ?_
      obtain rfl := Option.some.inj hf
      exact absurd (show (0 : Nat) = 1 from hkd) (by decide)
    · rw [if_neg hc] at hf
      refine lv_lload_n hx hb dB_word_37 rfl (lv_at hl 1 rfl) ?_
      refine lv_bipush (v := 8) hx hb dB_word_38 (by decide) ?_
      refine lv_lshl hx hb dB_word_40 rfl ?_
      refine lv_aload_n hx hb dB_word_41 rfl (lv_at hl 2 rfl) ?_
      refine va_get (D := D) (ci := 0) (v := .ref a3) (C := "ValueBench") (T := TB) (N := 8) hx hb htx inB hown hK hP 0 rfl rfl 1 (by decide) (htx _ kw_1_96) (fun _ h9 => h9) rfl dB_word_42 ?_
      refine lv_iload_n hx hb dB_word_45 rfl (lv_at hl 3 rfl) ?_
      refine lv_iload hx hb dB_word_46 (lv_at hl 0 rfl) ?_
      refine lv_iadd hx hb dB_word_48 ?_
      obtain ⟨o1, hq2, hf⟩ := xbind hf
      obtain ⟨hPc, hDc, hFc⟩ := xcut (wc := [(a3, .inr (1, [.ref a4, .int v4, .int v5])), (a4, .inl (cT 0, 4096, .inl f3))]) hP hD hS hA [3, 4] rfl rfl (by decide)
      refine va_calli (va_runV (C := "ValueBench$Text") (As := [.int (y1 + y4)]) (rest := [.long (y2 <<< ((8 : Int32).toInt64 &&& 63))]) ⟨hx, hb, hml, hown, htx⟩ (gT_at l hl9 D cT aK aV H.size n a3 a4 (y1 + y4) f3 v4 v5 o1 hq2) ⟨callB_of 1 htx (xw_goodC kw_2_58) rfl rfl rfl (htx _ kw_1_2) (htx _ kw_5_65) ⟨by decide, by decide, by decide +kernel⟩ ⟨Nat.le_of_ble_eq_true rfl, Nat.le_of_ble_eq_true rfl⟩, (htx _ kw_2_56), (htx _ kw_2_57)⟩ ⟨xPre_blind, va_recv hK hP (ci := 1) rfl (q0 := 3) rfl, (fun U hU hW => ⟨rfl, xPre_of hZ hS hFc hPc hDc hK U hU hW⟩)⟩ rfl rfl hl.1 rfl (lv_room (Nat.le_of_ble_eq_true rfl)) dB_word_49 ⟨Nat.le_of_ble_eq_true rfl, Nat.le_of_ble_eq_true rfl⟩) hS (fun q _ h => hFc q h) hFc (fun r3 u9 t H1 locs ht hvm hr9 hB hz1 hk1 hS => ?_)
      obtain ⟨hP1, hK1, hD1⟩ := hB
      rw [ht] at hP1
      obtain ⟨hP, hD⟩ := xjoin (W := [(a0, .inr (0, [.ref a1, .ref a3, .ref a5, .ref a7, .ref a8, .ref a13, .int v19, .int v20])), (a1, .inr (1, [.ref a2, .int v1, .int v2])), (a2, .inl (cT 0, 4096, .inl f0)), (a5, .inr (1, [.ref a6, .int v7, .int v8])), (a6, .inl (cT 0, 4096, .inl f6)), (a7, .inl (cT 3, 8, .inr (.inr (.inr (.inr rf0))))), (a8, .inr (3, [.ref a9, .ref a10, .ref p11, .ref p13, .int v15])), (a9, .inl (cT 1, 2048, .inl f9)), (a10, .inl (cT 1, 2048, .inl f10)), (p11, .inl (cT 1, 2048, .inl f12)), (p13, .inl (cT 1, 2048, .inl f14)), (a13, .inr (2, [.ref a14, .int v17, .int v18])), (a14, .inl (cT 2, 4096, .inr (.inl f16))), (a3, .inr (1, [.ref a4, .int v4, .int v5])), (a4, .inl (cT 0, 4096, .inl f3))]) hP hD [3, 4] [0, 1, 2, 5, 6, 7, 8, 9, 10, 11, 12, 13, 14] 13 rfl rfl (by decide) (by decide) hk1 hFc hP1 hD1
      generalize H1 = H at hP hS ⊢
      rw [hr9]
      refine W.eq (g2 := F0 m 52 ls [.int o1, .long (y2 <<< ((8 : Int32).toInt64 &&& 63))]) rfl ?_
      refine lv_iconst (v := 0) hx hb dB_word_52 (by decide) ?_
      refine va_mmax hx hb (hml.trans hl.1.symm) hown (htx _ kw_5_66) (htx _ kw_2_6) (htx _ kw_1_15) (htx _ kw_2_7) (Nat.le_of_ble_eq_true rfl) (Nat.le_of_ble_eq_true rfl) (Nat.le_of_ble_eq_true rfl) (Nat.le_of_ble_eq_true rfl) dB_word_53 ?_
      refine W.eq (g2 := F0 m 56 ls [.int (if o1 < (0 : Int32) then (0 : Int32) else o1), .long (y2 <<< ((8 : Int32).toInt64 &&& 63))]) rfl ?_
      refine lv_i2l hx hb dB_word_56 rfl ?_
      refine lv_lor hx hb dB_word_57 ?_
      refine lv_lstore_n (lv' := [(2, .long ((y2 <<< ((8 : Int32).toInt64 &&& 63)) ||| (if o1 < (0 : Int32) then (0 : Int32) else o1).toInt64)), (4, .int y4), (0, .ref a0), (1, .int y1)]) hx hb dB_word_58 rfl hl (by decide) rfl (fun ls hl => ?_)
      refine lv_iinc (v := (y4 + 1)) (lv' := [(4, .int (y4 + 1)), (2, .long ((y2 <<< ((8 : Int32).toInt64 &&& 63)) ||| (if o1 < (0 : Int32) then (0 : Int32) else o1).toInt64)), (0, .ref a0), (1, .int y1)]) hx hb dB_word_59 hl (k := 1) rfl rfl (by decide) rfl (fun ls hl => ?_)
      refine lv_goto (tgt := 30) hx hb dB_word_62 (by decide) ?_
      obtain ⟨hP9, hD9⟩ := xsub (wc := [(a0, .inr (0, [.ref a1, .ref a3, .ref a5, .ref a7, .ref a8, .ref a13, .int v19, .int v20])), (a1, .inr (1, [.ref a2, .int v1, .int v2])), (a2, .inl (cT 0, 4096, .inl f0)), (a3, .inr (1, [.ref a4, .int v4, .int v5])), (a4, .inl (cT 0, 4096, .inl f3)), (a5, .inr (1, [.ref a6, .int v7, .int v8])), (a6, .inl (cT 0, 4096, .inl f6)), (a7, .inl (cT 3, 8, .inr (.inr (.inr (.inr rf0))))), (a8, .inr (3, [.ref a9, .ref a10, .ref p11, .ref p13, .int v15])), (a9, .inl (cT 1, 2048, .inl f9)), (a10, .inl (cT 1, 2048, .inl f10)), (p11, .inl (cT 1, 2048, .inl f12)), (p13, .inl (cT 1, 2048, .inl f14)), (a13, .inr (2, [.ref a14, .int v17, .int v18])), (a14, .inl (cT 2, 4096, .inr (.inl f16)))]) hP hD [0, 1, 2, 13, 14, 3, 4, 5, 6, 7, 8, 9, 10, 11, 12] rfl rfl (by decide)
      exact ih (1, (y4 + 1), ((y2 <<< ((8 : Int32).toInt64 &&& 63)) ||| (if o1 < (0 : Int32) then (0 : Int32) else o1).toInt64), y1) _ _ ls (⟨rfl, hf, hP9, hD9, hS, lv_sub hl [0, 1, 2, 3] rfl⟩)
  refine lv_iload_n hx hb dB_word_0 rfl (lv_at hl 1 rfl) ?_
  refine lv_if_lt (tgt := 15) hx hb dB_word_1 (by decide) (fun hc => ?_) (fun hc => ?_)
  · rw [if_pos hc] at hf
    obtain rfl := Option.some.inj hf
    obtain ⟨hP9, hD9⟩ := xsub (wc := [(a0, .inr (0, [.ref a1, .ref a3, .ref a5, .ref a7, .ref a8, .ref a13, .int v19, .int v20])), (a1, .inr (1, [.ref a2, .int v1, .int v2])), (a2, .inl (cT 0, 4096, .inl f0)), (a3, .inr (1, [.ref a4, .int v4, .int v5])), (a4, .inl (cT 0, 4096, .inl f3)), (a5, .inr (1, [.ref a6, .int v7, .int v8])), (a6, .inl (cT 0, 4096, .inl f6)), (a7, .inl (cT 3, 8, .inr (.inr (.inr (.inr rf0))))), (a8, .inr (3, [.ref a9, .ref a10, .ref p11, .ref p13, .int v15])), (a9, .inl (cT 1, 2048, .inl f9)), (a10, .inl (cT 1, 2048, .inl f10)), (p11, .inl (cT 1, 2048, .inl f12)), (p13, .inl (cT 1, 2048, .inl f14)), (a13, .inr (2, [.ref a14, .int v17, .int v18])), (a14, .inl (cT 2, 4096, .inr (.inl f16)))]) hP hD [0, 1, 2, 3, 4, 5, 6, 7, 8, 9, 10, 11, 12, 13, 14] rfl rfl (by decide)
    exact vx_throwS (own := "ValueBench") (cls := "java/lang/IndexOutOfBoundsException") (text := "no byte of the result") (sa := aK 2) (names := ["java/lang/RuntimeException", "java/lang/Exception"]) hx hb hl9 hown (by decide +kernel) (by decide +kernel) (htx _ kw_1_132) (htx _ kw_1_13) (hZ.2.2.2.2.2.2.2.2.1 ("ValueBench", 138, "no byte of the result", 2) (List.mem_of_getElem? (i := 2) rfl)) (vx_hat (B := [.castable "java/lang/IndexOutOfBoundsException" "java/lang/IndexOutOfBoundsException", .declares ⟨"java/lang/RuntimeException", "<init>", "(Ljava/lang/String;)V"⟩, .declares ⟨"java/lang/Exception", "<init>", "(Ljava/lang/String;)V"⟩, .declares ⟨"java/lang/Throwable", "<init>", "(Ljava/lang/String;)V"⟩]) (fun w h => htx w (xat_B_51_55 w h)) xat_B_51_55_b (vx_c ((hZ.2.2.2.2.2.1 "java/lang/IndexOutOfBoundsException" (List.mem_of_getElem? (i := 0) rfl)).use rfl) (vx_c ((hZ.2.2.2.2.2.2.1 ⟨"java/lang/RuntimeException", "<init>", "(Ljava/lang/String;)V"⟩ (List.mem_of_getElem? (i := 3) rfl)).use rfl) (vx_c ((hZ.2.2.2.2.2.2.1 ⟨"java/lang/Exception", "<init>", "(Ljava/lang/String;)V"⟩ (List.mem_of_getElem? (i := 4) rfl)).use rfl) (vx_c ((hZ.2.2.2.2.2.2.1 ⟨"java/lang/Throwable", "<init>", "(Ljava/lang/String;)V"⟩ (List.mem_of_getElem? (i := 5) rfl)).use rfl) vx_n))))) xat_B_51_55_g hZ.2.2.2.1 hZ.2.2.2.2.1 hS (hl.1.trans hml.symm) dB_word_15 dB_word_18 dB_word_19 dB_word_21 dB_word_24 (fun x h => (hne x h).elim) (Nat.le_of_ble_eq_true rfl) (Nat.le_of_ble_eq_true rfl) (Nat.le_of_ble_eq_true rfl) (Nat.le_of_ble_eq_true rfl) hlocks (fun t ha hz hk => ⟨(), trivial, ⟨rfl, xx_keepP hP9 hk, va_K.moved ha hK, hD9⟩, xx_grown hS hz hk⟩) hS.2.2 (Nat.le_of_ble_eq_true rfl) (Nat.le_of_ble_eq_true rfl)
  · rw [if_neg hc] at hf
    refine lv_iload_n hx hb dB_word_4 rfl (lv_at hl 1 rfl) ?_
    refine lv_aload_n hx hb dB_word_5 rfl (lv_at hl 0 rfl) ?_
    refine va_get (D := D) (ci := 0) (v := .ref a3) (C := "ValueBench") (T := TB) (N := 8) hx hb htx inB hown hK hP 0 rfl rfl 1 (by decide) (htx _ kw_1_96) (fun _ h9 => h9) rfl dB_word_6 ?_
    obtain ⟨o1, hq2, hf⟩ := xbind hf
    obtain ⟨hPc, hDc, hFc⟩ := xcut (wc := [(a3, .inr (1, [.ref a4, .int v4, .int v5])), (a4, .inl (cT 0, 4096, .inl f3))]) hP hD hS hA [3, 4] rfl rfl (by decide)
    refine va_calli (va_runV (C := "ValueBench$Text") (As := []) (rest := [.int x1]) ⟨hx, hb, hml, hown, htx⟩ (gT_size l hl9 D cT aK aV s.heap.size n a3 a4 f3 v4 v5 o1 hq2) ⟨callB_of 0 htx (xw_goodC kw_1_131) rfl rfl rfl (htx _ kw_1_2) (htx _ kw_1_128) ⟨by decide, by decide, by decide +kernel⟩ ⟨Nat.le_of_ble_eq_true rfl, Nat.le_of_ble_eq_true rfl⟩, (htx _ kw_1_129), (htx _ kw_1_130)⟩ ⟨xPre_blind, va_recv hK hP (ci := 1) rfl (q0 := 3) rfl, (fun U hU hW => ⟨rfl, xPre_of hZ hS hFc hPc hDc hK U hU hW⟩)⟩ rfl rfl hl.1 rfl (lv_room (Nat.le_of_ble_eq_true rfl)) dB_word_9 ⟨Nat.le_of_ble_eq_true rfl, Nat.le_of_ble_eq_true rfl⟩) hS (fun q _ h => hFc q h) hFc (fun r3 u9 t H1 locs ht hvm hr9 hB hz1 hk1 hS => ?_)
    obtain ⟨hP1, hK1, hD1⟩ := hB
    rw [ht] at hP1
    obtain ⟨hP, hD⟩ := xjoin (W := [(a0, .inr (0, [.ref a1, .ref a3, .ref a5, .ref a7, .ref a8, .ref a13, .int v19, .int v20])), (a1, .inr (1, [.ref a2, .int v1, .int v2])), (a2, .inl (cT 0, 4096, .inl f0)), (a5, .inr (1, [.ref a6, .int v7, .int v8])), (a6, .inl (cT 0, 4096, .inl f6)), (a7, .inl (cT 3, 8, .inr (.inr (.inr (.inr rf0))))), (a8, .inr (3, [.ref a9, .ref a10, .ref p11, .ref p13, .int v15])), (a9, .inl (cT 1, 2048, .inl f9)), (a10, .inl (cT 1, 2048, .inl f10)), (p11, .inl (cT 1, 2048, .inl f12)), (p13, .inl (cT 1, 2048, .inl f14)), (a13, .inr (2, [.ref a14, .int v17, .int v18])), (a14, .inl (cT 2, 4096, .inr (.inl f16))), (a3, .inr (1, [.ref a4, .int v4, .int v5])), (a4, .inl (cT 0, 4096, .inl f3))]) hP hD [3, 4] [0, 1, 2, 5, 6, 7, 8, 9, 10, 11, 12, 13, 14] 13 rfl rfl (by decide) (by decide) hk1 hFc hP1 hD1
    generalize H1 = H at hP hS ⊢
    rw [hr9]
    refine W.eq (g2 := F0 m 12 ls [.int o1, .int x1]) rfl ?_
    refine lv_icmp_lt (tgt := 25) hx hb dB_word_12 (by decide) (fun hc => ?_) (fun hc => ?_)
    · rw [if_pos hc] at hf
      refine lv_lconst (v := 0) hx hb dB_word_25 (by decide) ?_
      refine lv_lstore_n (lv' := [(2, .long 0), (0, .ref a0), (1, .int x1)]) hx hb dB_word_26 rfl hl (by decide) rfl (fun ls hl => ?_)
      refine lv_iconst (v := 0) hx hb dB_word_27 (by decide) ?_
      refine lv_istore (lv' := [(4, .int 0), (2, .long 0), (0, .ref a0), (1, .int x1)]) hx hb dB_word_28 hl (by decide) rfl (fun ls hl => ?_)
      obtain ⟨hP9, hD9⟩ := xsub (wc := [(a0, .inr (0, [.ref a1, .ref a3, .ref a5, .ref a7, .ref a8, .ref a13, .int v19, .int v20])), (a1, .inr (1, [.ref a2, .int v1, .int v2])), (a2, .inl (cT 0, 4096, .inl f0)), (a3, .inr (1, [.ref a4, .int v4, .int v5])), (a4, .inl (cT 0, 4096, .inl f3)), (a5, .inr (1, [.ref a6, .int v7, .int v8])), (a6, .inl (cT 0, 4096, .inl f6)), (a7, .inl (cT 3, 8, .inr (.inr (.inr (.inr rf0))))), (a8, .inr (3, [.ref a9, .ref a10, .ref p11, .ref p13, .int v15])), (a9, .inl (cT 1, 2048, .inl f9)), (a10, .inl (cT 1, 2048, .inl f10)), (p11, .inl (cT 1, 2048, .inl f12)), (p13, .inl (cT 1, 2048, .inl f14)), (a13, .inr (2, [.ref a14, .int v17, .int v18])), (a14, .inl (cT 2, 4096, .inr (.inl f16)))]) hP hD [0, 1, 2, 13, 14, 3, 4, 5, 6, 7, 8, 9, 10, 11, 12] rfl rfl (by decide)
      exact key n (1, 0, 0, x1) _ _ ls (⟨rfl, hf, hP9, hD9, hS, lv_sub hl [0, 1, 2, 3] rfl⟩)
    · rw [if_neg hc] at hf
      obtain rfl := Option.some.inj hf
      obtain ⟨hP9, hD9⟩ := xsub (wc := [(a0, .inr (0, [.ref a1, .ref a3, .ref a5, .ref a7, .ref a8, .ref a13, .int v19, .int v20])), (a1, .inr (1, [.ref a2, .int v1, .int v2])), (a2, .inl (cT 0, 4096, .inl f0)), (a3, .inr (1, [.ref a4, .int v4, .int v5])), (a4, .inl (cT 0, 4096, .inl f3)), (a5, .inr (1, [.ref a6, .int v7, .int v8])), (a6, .inl (cT 0, 4096, .inl f6)), (a7, .inl (cT 3, 8, .inr (.inr (.inr (.inr rf0))))), (a8, .inr (3, [.ref a9, .ref a10, .ref p11, .ref p13, .int v15])), (a9, .inl (cT 1, 2048, .inl f9)), (a10, .inl (cT 1, 2048, .inl f10)), (p11, .inl (cT 1, 2048, .inl f12)), (p13, .inl (cT 1, 2048, .inl f14)), (a13, .inr (2, [.ref a14, .int v17, .int v18])), (a14, .inl (cT 2, 4096, .inr (.inl f16)))]) hP hD [0, 1, 2, 13, 14, 3, 4, 5, 6, 7, 8, 9, 10, 11, 12] rfl rfl (by decide)
      exact vx_throwS (own := "ValueBench") (cls := "java/lang/IndexOutOfBoundsException") (text := "no byte of the result") (sa := aK 2) (names := ["java/lang/RuntimeException", "java/lang/Exception"]) hx hb hl9 hown (by decide +kernel) (by decide +kernel) (htx _ kw_1_132) (htx _ kw_1_13) (hZ.2.2.2.2.2.2.2.2.1 ("ValueBench", 138, "no byte of the result", 2) (List.mem_of_getElem? (i := 2) rfl)) (vx_hat (B := [.castable "java/lang/IndexOutOfBoundsException" "java/lang/IndexOutOfBoundsException", .declares ⟨"java/lang/RuntimeException", "<init>", "(Ljava/lang/String;)V"⟩, .declares ⟨"java/lang/Exception", "<init>", "(Ljava/lang/String;)V"⟩, .declares ⟨"java/lang/Throwable", "<init>", "(Ljava/lang/String;)V"⟩]) (fun w h => htx w (xat_B_51_55 w h)) xat_B_51_55_b (vx_c ((hZ.2.2.2.2.2.1 "java/lang/IndexOutOfBoundsException" (List.mem_of_getElem? (i := 0) rfl)).use rfl) (vx_c ((hZ.2.2.2.2.2.2.1 ⟨"java/lang/RuntimeException", "<init>", "(Ljava/lang/String;)V"⟩ (List.mem_of_getElem? (i := 3) rfl)).use rfl) (vx_c ((hZ.2.2.2.2.2.2.1 ⟨"java/lang/Exception", "<init>", "(Ljava/lang/String;)V"⟩ (List.mem_of_getElem? (i := 4) rfl)).use rfl) (vx_c ((hZ.2.2.2.2.2.2.1 ⟨"java/lang/Throwable", "<init>", "(Ljava/lang/String;)V"⟩ (List.mem_of_getElem? (i := 5) rfl)).use rfl) vx_n))))) xat_B_51_55_g hZ.2.2.2.1 hZ.2.2.2.2.1 hS (hl.1.trans hml.symm) dB_word_15 dB_word_18 dB_word_19 dB_word_21 dB_word_24 (fun x h => (hne x h).elim) (Nat.le_of_ble_eq_true rfl) (Nat.le_of_ble_eq_true rfl) (Nat.le_of_ble_eq_true rfl) (Nat.le_of_ble_eq_true rfl) hlocks (fun t ha hz hk => ⟨(), trivial, ⟨rfl, xx_keepP hP9 hk, va_K.moved ha hK, hD9⟩, xx_grown hS hz hk⟩) hS.2.2 (Nat.le_of_ble_eq_true rfl) (Nat.le_of_ble_eq_true rfl)
set_option maxHeartbeats 400000000 in
set_option maxRecDepth 100000 in
theorem gB_count (l : Launch) (hl9 : l.stackTraces = false) (D : va_G) (cT : Nat → ClassId) (aK aV : Nat → Nat) (sz n : Nat) (a0 : Nat) (a1 : Nat) (a2 : Nat) (a3 : Nat) (a4 : Nat) (a5 : Nat) (a6 : Nat) (a7 : Nat) (a8 : Nat) (a9 : Nat) (a10 : Nat) (a13 : Nat) (a14 : Nat) (rf0 : Nat → Option Nat) (x1 : Int32) (f0 : Nat → Int32) (v1 : Int32) (v2 : Int32) (f3 : Nat → Int32) (v4 : Int32) (v5 : Int32) (f6 : Nat → Int32) (v7 : Int32) (v8 : Int32) (f9 : Nat → Int32) (f10 : Nat → Int32) (p11 : Nat) (f12 : Nat → Int32) (p13 : Nat) (f14 : Nat → Int32) (v15 : Int32) (f16 : Nat → Int64) (v17 : Int32) (v18 : Int32) (v19 : Int32) (v20 : Int32) (out : Nat × Int32) (hf : fB_count n x1 f0 v1 v2 f3 v4 v5 f6 v7 v8 f9 f10 p11 f12 p13 f14 v15 f16 v17 v18 v19 v20 = some out) (hkd : out.1 = 0) : xMet l yB_count wyB_count 7 1 6 120 D cT aK aV sz [.ref a0, .int x1] [(a0, .inr (0, [.ref a1, .ref a3, .ref a5, .ref a7, .ref a8, .ref a13, .int v19, .int v20])), (a1, .inr (1, [.ref a2, .int v1, .int v2])), (a2, .inl (cT 0, 4096, .inl f0)), (a3, .inr (1, [.ref a4, .int v4, .int v5])), (a4, .inl (cT 0, 4096, .inl f3)), (a5, .inr (1, [.ref a6, .int v7, .int v8])), (a6, .inl (cT 0, 4096, .inl f6)), (a7, .inl (cT 3, 8, .inr (.inr (.inr (.inr rf0))))), (a8, .inr (3, [.ref a9, .ref a10, .ref p11, .ref p13, .int v15])), (a9, .inl (cT 1, 2048, .inl f9)), (a10, .inl (cT 1, 2048, .inl f10)), (p11, .inl (cT 1, 2048, .inl f12)), (p13, .inl (cT 1, 2048, .inl f14)), (a13, .inr (2, [.ref a14, .int v17, .int v18])), (a14, .inl (cT 2, 4096, .inr (.inl f16)))] (fun A => va_Qi (fun (r : Int32) (_ : Unit) => r = out.2) (fun _ t => xB D xcl cT A [(a0, .inr (0, [.ref a1, .ref a3, .ref a5, .ref a7, .ref a8, .ref a13, .int v19, .int v20])), (a1, .inr (1, [.ref a2, .int v1, .int v2])), (a2, .inl (cT 0, 4096, .inl f0)), (a3, .inr (1, [.ref a4, .int v4, .int v5])), (a4, .inl (cT 0, 4096, .inl f3)), (a5, .inr (1, [.ref a6, .int v7, .int v8])), (a6, .inl (cT 0, 4096, .inl f6)), (a7, .inl (cT 3, 8, .inr (.inr (.inr (.inr rf0))))), (a8, .inr (3, [.ref a9, .ref a10, .ref p11, .ref p13, .int v15])), (a9, .inl (cT 1, 2048, .inl f9)), (a10, .inl (cT 1, 2048, .inl f10)), (p11, .inl (cT 1, 2048, .inl f12)), (p13, .inl (cT 1, 2048, .inl f14)), (a13, .inr (2, [.ref a14, .int v17, .int v18])), (a14, .inl (cT 2, 4096, .inr (.inl f16)))] t) A) := by
  refine Met.ofW (cc := prog_1_method_13_code) (maxL := 2) (ret := (some .int)) (by decide) rfl ?_
  intro p e s m args below meth c s₁ B hml hv
  obtain ⟨rfl, hsz, hZ, hP, hK, hD0⟩ := hv
  have hx := B.exec
  have hb := B.bytes
  have hr := B.returns
  have hts := atoms_spec (ws := wyB_count) B.pre
  have htx := fun w h => hts w (List.mem_cons_of_mem _ h)
  have hown : s.vm.findClass "ValueBench" = some m.cls := findClass_of_methodNamed B.named
  have hlocks := B.notSynchronized
  subst hsz
  have hD := hD0.self (sz := s.heap.size)
  generalize hAe : va_A [(a0, .inr (0, [.ref a1, .ref a3, .ref a5, .ref a7, .ref a8, .ref a13, .int v19, .int v20])), (a1, .inr (1, [.ref a2, .int v1, .int v2])), (a2, .inl (cT 0, 4096, .inl f0)), (a3, .inr (1, [.ref a4, .int v4, .int v5])), (a4, .inl (cT 0, 4096, .inl f3)), (a5, .inr (1, [.ref a6, .int v7, .int v8])), (a6, .inl (cT 0, 4096, .inl f6)), (a7, .inl (cT 3, 8, .inr (.inr (.inr (.inr rf0))))), (a8, .inr (3, [.ref a9, .ref a10, .ref p11, .ref p13, .int v15])), (a9, .inl (cT 1, 2048, .inl f9)), (a10, .inl (cT 1, 2048, .inl f10)), (p11, .inl (cT 1, 2048, .inl f12)), (p13, .inl (cT 1, 2048, .inl f14)), (a13, .inr (2, [.ref a14, .int v17, .int v18])), (a14, .inl (cT 2, 4096, .inr (.inl f16)))] s.heap.size = A at hD hZ ⊢
  have hA : ∀ q : Nat, s.heap.size ≤ q → A q := fun q h => by rw [← hAe]; exact Or.inr h
  have hS : va_S A s.heap s.heap [] := va_S.rf
  have hP : va_P D xcl [(a0, .inr (0, [.ref a1, .ref a3, .ref a5, .ref a7, .ref a8, .ref a13, .int v19, .int v20])), (a1, .inr (1, [.ref a2, .int v1, .int v2])), (a2, .inl (cT 0, 4096, .inl f0)), (a3, .inr (1, [.ref a4, .int v4, .int v5])), (a4, .inl (cT 0, 4096, .inl f3)), (a5, .inr (1, [.ref a6, .int v7, .int v8])), (a6, .inl (cT 0, 4096, .inl f6)), (a7, .inl (cT 3, 8, .inr (.inr (.inr (.inr rf0))))), (a8, .inr (3, [.ref a9, .ref a10, .ref p11, .ref p13, .int v15])), (a9, .inl (cT 1, 2048, .inl f9)), (a10, .inl (cT 1, 2048, .inl f10)), (p11, .inl (cT 1, 2048, .inl f12)), (p13, .inl (cT 1, 2048, .inl f14)), (a13, .inr (2, [.ref a14, .int v17, .int v18])), (a14, .inl (cT 2, 4096, .inr (.inl f16)))] s.heap := hP
  have hl := lv_entry ([.ref a0, .int x1]) (n := 2) (Nat.le_of_ble_eq_true rfl)
  rw [lg_entry_eq]
  generalize (lg_sl ([.ref a0, .int x1]) ++ List.replicate (2 - (lg_sl ([.ref a0, .int x1])).length) Slot.unset).toArray = ls at hl ⊢
  have hl : lv_has ls 2 [(0, .ref a0), (1, .int x1)] := hl
  unfold fB_count at hf
  refine lv_iload_n hx hb dB_count_0 rfl (lv_at hl 1 rfl) ?_
  refine lv_iconst (v := 3) hx hb dB_count_1 (by decide) ?_
  obtain ⟨o1, hq2, hf⟩ := xbind hf
  obtain ⟨hPc, hDc, hFc⟩ := xcut (wc := []) hP hD hS hA [] rfl rfl (by decide)
  refine va_calli (va_runS (As := [.int x1, .int 3]) (rest := []) ⟨hx, hb, hml, hown, htx⟩ (gB_isWithin l hl9 D cT aK aV s.heap.size n x1 (3 : Int32) o1 hq2) ⟨callB_of 2 htx (xw_goodC kw_1_218) rfl rfl rfl (htx _ kw_1_1) (htx _ kw_1_216) ⟨by decide, by decide, by decide +kernel⟩ ⟨Nat.le_of_ble_eq_true rfl, Nat.le_of_ble_eq_true rfl⟩, htx _ kw_1_217⟩ ⟨xPre_blind, (fun U hU hW => ⟨rfl, xPre_of hZ hS hFc hPc hDc hK U hU hW⟩)⟩ rfl rfl hl.1 rfl (lv_room (Nat.le_of_ble_eq_true rfl)) dB_count_2 ⟨Nat.le_of_ble_eq_true rfl, Nat.le_of_ble_eq_true rfl⟩) hS (fun q _ h => hFc q h) hFc (fun r3 u9 t H1 locs ht hvm hr9 hB hz1 hk1 hS => ?_)
  obtain ⟨hP1, hK1, hD1⟩ := hB
  rw [ht] at hP1
  obtain ⟨hP, hD⟩ := xjoin (W := [(a0, .inr (0, [.ref a1, .ref a3, .ref a5, .ref a7, .ref a8, .ref a13, .int v19, .int v20])), (a1, .inr (1, [.ref a2, .int v1, .int v2])), (a2, .inl (cT 0, 4096, .inl f0)), (a3, .inr (1, [.ref a4, .int v4, .int v5])), (a4, .inl (cT 0, 4096, .inl f3)), (a5, .inr (1, [.ref a6, .int v7, .int v8])), (a6, .inl (cT 0, 4096, .inl f6)), (a7, .inl (cT 3, 8, .inr (.inr (.inr (.inr rf0))))), (a8, .inr (3, [.ref a9, .ref a10, .ref p11, .ref p13, .int v15])), (a9, .inl (cT 1, 2048, .inl f9)), (a10, .inl (cT 1, 2048, .inl f10)), (p11, .inl (cT 1, 2048, .inl f12)), (p13, .inl (cT 1, 2048, .inl f14)), (a13, .inr (2, [.ref a14, .int v17, .int v18])), (a14, .inl (cT 2, 4096, .inr (.inl f16)))]) hP hD [] [0, 1, 2, 3, 4, 5, 6, 7, 8, 9, 10, 11, 12, 13, 14] 15 rfl rfl (by decide) (by decide) hk1 hFc hP1 hD1
  generalize H1 = H at hP hS ⊢
  rw [hr9]
  refine W.eq (g2 := F0 m 5 ls [.int o1]) rfl ?_
  obtain ⟨o4, hq5, hf⟩ := xbind hf
  by_cases hk6 : o4 = 0
  · rw [if_pos hk6] at hf
    obtain ⟨hPc, hDc, hFc⟩ := xcut (wc := []) hP hD hS hA [] rfl rfl (by decide)
    refine va_callv (va_runS (As := [.int o1]) (rest := []) ⟨hx, hb, hml, hown, htx⟩ (gB_demand l hl9 D cT aK aV H.size n o1 o4 hq5 hk6) ⟨callB_of 1 htx (xw_goodC kw_1_221) rfl rfl rfl (htx _ kw_1_1) (htx _ kw_1_219) ⟨by decide, by decide, by decide +kernel⟩ ⟨Nat.le_of_ble_eq_true rfl, Nat.le_of_ble_eq_true rfl⟩, htx _ kw_1_220⟩ ⟨xPre_blind, (fun U hU hW => ⟨rfl, xPre_of hZ hS hFc hPc hDc hK U hU hW⟩)⟩ rfl rfl hl.1 rfl (lv_room (Nat.le_of_ble_eq_true rfl)) dB_count_5 ⟨Nat.le_of_ble_eq_true rfl, Nat.le_of_ble_eq_true rfl⟩) hS (fun q _ h => hFc q h) hFc (fun u9 t H1 locs ht hvm hr9 hB hz1 hk1 hS => ?_)
    obtain ⟨hP1, hK1, hD1⟩ := hB
    rw [ht] at hP1
    obtain ⟨hP, hD⟩ := xjoin (W := [(a0, .inr (0, [.ref a1, .ref a3, .ref a5, .ref a7, .ref a8, .ref a13, .int v19, .int v20])), (a1, .inr (1, [.ref a2, .int v1, .int v2])), (a2, .inl (cT 0, 4096, .inl f0)), (a3, .inr (1, [.ref a4, .int v4, .int v5])), (a4, .inl (cT 0, 4096, .inl f3)), (a5, .inr (1, [.ref a6, .int v7, .int v8])), (a6, .inl (cT 0, 4096, .inl f6)), (a7, .inl (cT 3, 8, .inr (.inr (.inr (.inr rf0))))), (a8, .inr (3, [.ref a9, .ref a10, .ref p11, .ref p13, .int v15])), (a9, .inl (cT 1, 2048, .inl f9)), (a10, .inl (cT 1, 2048, .inl f10)), (p11, .inl (cT 1, 2048, .inl f12)), (p13, .inl (cT 1, 2048, .inl f14)), (a13, .inr (2, [.ref a14, .int v17, .int v18])), (a14, .inl (cT 2, 4096, .inr (.inl f16)))]) hP hD [] [0, 1, 2, 3, 4, 5, 6, 7, 8, 9, 10, 11, 12, 13, 14] 15 rfl rfl (by decide) (by decide) hk1 hFc hP1 hD1
    generalize H1 = H at hP hS ⊢
    refine lv_iload_n hx hb dB_count_8 rfl (lv_at hl 1 rfl) ?_
    by_cases hc7 : x1 = 0
    · rw [if_pos hc7] at hf
      refine lv_tableIn (off := 27) (tgt := 36) hx hb dB_count_9 (by rw [hc7]; decide) (by rw [hc7]; decide) (by rw [hc7]; decide) (by decide) ?_
      refine lv_aload_n hx hb dB_count_36 rfl (lv_at hl 0 rfl) ?_
      refine va_get (D := D) (ci := 0) (v := .ref a1) (C := "ValueBench") (T := TB) (N := 8) hx hb htx inB hown hK hP 0 rfl rfl 0 (by decide) (htx _ kw_1_95) (fun _ h9 => h9) rfl dB_count_37 ?_
      obtain ⟨o8, hq9, hf⟩ := xbind hf
      obtain ⟨hPc, hDc, hFc⟩ := xcut (wc := [(a1, .inr (1, [.ref a2, .int v1, .int v2])), (a2, .inl (cT 0, 4096, .inl f0))]) hP hD hS hA [1, 2] rfl rfl (by decide)
      refine va_calli (va_runV (C := "ValueBench$Text") (As := []) (rest := []) ⟨hx, hb, hml, hown, htx⟩ (gT_size l hl9 D cT aK aV H.size n a1 a2 f0 v1 v2 o8 hq9) ⟨callB_of 0 htx (xw_goodC kw_1_131) rfl rfl rfl (htx _ kw_1_2) (htx _ kw_1_128) ⟨by decide, by decide, by decide +kernel⟩ ⟨Nat.le_of_ble_eq_true rfl, Nat.le_of_ble_eq_true rfl⟩, (htx _ kw_1_129), (htx _ kw_1_130)⟩ ⟨xPre_blind, va_recv hK hP (ci := 1) rfl (q0 := 1) rfl, (fun U hU hW => ⟨rfl, xPre_of hZ hS hFc hPc hDc hK U hU hW⟩)⟩ rfl rfl hl.1 rfl (lv_room (Nat.le_of_ble_eq_true rfl)) dB_count_40 ⟨Nat.le_of_ble_eq_true rfl, Nat.le_of_ble_eq_true rfl⟩) hS (fun q _ h => hFc q h) hFc (fun r10 u9 t H1 locs ht hvm hr9 hB hz1 hk1 hS => ?_)
      obtain ⟨hP1, hK1, hD1⟩ := hB
      rw [ht] at hP1
      obtain ⟨hP, hD⟩ := xjoin (W := [(a0, .inr (0, [.ref a1, .ref a3, .ref a5, .ref a7, .ref a8, .ref a13, .int v19, .int v20])), (a3, .inr (1, [.ref a4, .int v4, .int v5])), (a4, .inl (cT 0, 4096, .inl f3)), (a5, .inr (1, [.ref a6, .int v7, .int v8])), (a6, .inl (cT 0, 4096, .inl f6)), (a7, .inl (cT 3, 8, .inr (.inr (.inr (.inr rf0))))), (a8, .inr (3, [.ref a9, .ref a10, .ref p11, .ref p13, .int v15])), (a9, .inl (cT 1, 2048, .inl f9)), (a10, .inl (cT 1, 2048, .inl f10)), (p11, .inl (cT 1, 2048, .inl f12)), (p13, .inl (cT 1, 2048, .inl f14)), (a13, .inr (2, [.ref a14, .int v17, .int v18])), (a14, .inl (cT 2, 4096, .inr (.inl f16))), (a1, .inr (1, [.ref a2, .int v1, .int v2])), (a2, .inl (cT 0, 4096, .inl f0))]) hP hD [1, 2] [0, 3, 4, 5, 6, 7, 8, 9, 10, 11, 12, 13, 14] 13 rfl rfl (by decide) (by decide) hk1 hFc hP1 hD1
      generalize H1 = H at hP hS ⊢
      rw [hr9]
      refine W.eq (g2 := F0 m 43 ls [.int o8]) rfl ?_
      obtain rfl := Option.some.inj hf
      obtain ⟨hP9, hD9⟩ := xsub (wc := [(a0, .inr (0, [.ref a1, .ref a3, .ref a5, .ref a7, .ref a8, .ref a13, .int v19, .int v20])), (a1, .inr (1, [.ref a2, .int v1, .int v2])), (a2, .inl (cT 0, 4096, .inl f0)), (a3, .inr (1, [.ref a4, .int v4, .int v5])), (a4, .inl (cT 0, 4096, .inl f3)), (a5, .inr (1, [.ref a6, .int v7, .int v8])), (a6, .inl (cT 0, 4096, .inl f6)), (a7, .inl (cT 3, 8, .inr (.inr (.inr (.inr rf0))))), (a8, .inr (3, [.ref a9, .ref a10, .ref p11, .ref p13, .int v15])), (a9, .inl (cT 1, 2048, .inl f9)), (a10, .inl (cT 1, 2048, .inl f10)), (p11, .inl (cT 1, 2048, .inl f12)), (p13, .inl (cT 1, 2048, .inl f14)), (a13, .inr (2, [.ref a14, .int v17, .int v18])), (a14, .inl (cT 2, 4096, .inr (.inl f16)))]) hP hD [0, 13, 14, 1, 2, 3, 4, 5, 6, 7, 8, 9, 10, 11, 12] rfl rfl (by decide)
      refine W.widen (k := 1) (n := 6) (Nat.le_of_ble_eq_true rfl) (Nat.le_of_ble_eq_true rfl) ?_
      exact W.iret (v := o8) hx hb hr (fun t ht hW => ⟨⟨o8, (), rfl, rfl, by rw [ht]; exact hP9, va_K.moved hW.alike hK, hD9⟩, hS.F ht⟩) hS.2.2 dB_count_43
    rw [if_neg hc7] at hf
    by_cases hc11 : x1 = 1
    · rw [if_pos hc11] at hf
      refine lv_tableIn (off := 35) (tgt := 44) hx hb dB_count_9 (by rw [hc11]; decide) (by rw [hc11]; decide) (by rw [hc11]; decide) (by decide) ?_
      refine lv_aload_n hx hb dB_count_44 rfl (lv_at hl 0 rfl) ?_
      refine va_get (D := D) (ci := 0) (v := .ref a3) (C := "ValueBench") (T := TB) (N := 8) hx hb htx inB hown hK hP 0 rfl rfl 1 (by decide) (htx _ kw_1_96) (fun _ h9 => h9) rfl dB_count_45 ?_
      obtain ⟨o12, hq13, hf⟩ := xbind hf
      obtain ⟨hPc, hDc, hFc⟩ := xcut (wc := [(a3, .inr (1, [.ref a4, .int v4, .int v5])), (a4, .inl (cT 0, 4096, .inl f3))]) hP hD hS hA [3, 4] rfl rfl (by decide)
      refine va_calli (va_runV (C := "ValueBench$Text") (As := []) (rest := []) ⟨hx, hb, hml, hown, htx⟩ (gT_size l hl9 D cT aK aV H.size n a3 a4 f3 v4 v5 o12 hq13) ⟨callB_of 0 htx (xw_goodC kw_1_131) rfl rfl rfl (htx _ kw_1_2) (htx _ kw_1_128) ⟨by decide, by decide, by decide +kernel⟩ ⟨Nat.le_of_ble_eq_true rfl, Nat.le_of_ble_eq_true rfl⟩, (htx _ kw_1_129), (htx _ kw_1_130)⟩ ⟨xPre_blind, va_recv hK hP (ci := 1) rfl (q0 := 3) rfl, (fun U hU hW => ⟨rfl, xPre_of hZ hS hFc hPc hDc hK U hU hW⟩)⟩ rfl rfl hl.1 rfl (lv_room (Nat.le_of_ble_eq_true rfl)) dB_count_48 ⟨Nat.le_of_ble_eq_true rfl, Nat.le_of_ble_eq_true rfl⟩) hS (fun q _ h => hFc q h) hFc (fun r14 u9 t H1 locs ht hvm hr9 hB hz1 hk1 hS => ?_)
      obtain ⟨hP1, hK1, hD1⟩ := hB
      rw [ht] at hP1
      obtain ⟨hP, hD⟩ := xjoin (W := [(a0, .inr (0, [.ref a1, .ref a3, .ref a5, .ref a7, .ref a8, .ref a13, .int v19, .int v20])), (a1, .inr (1, [.ref a2, .int v1, .int v2])), (a2, .inl (cT 0, 4096, .inl f0)), (a5, .inr (1, [.ref a6, .int v7, .int v8])), (a6, .inl (cT 0, 4096, .inl f6)), (a7, .inl (cT 3, 8, .inr (.inr (.inr (.inr rf0))))), (a8, .inr (3, [.ref a9, .ref a10, .ref p11, .ref p13, .int v15])), (a9, .inl (cT 1, 2048, .inl f9)), (a10, .inl (cT 1, 2048, .inl f10)), (p11, .inl (cT 1, 2048, .inl f12)), (p13, .inl (cT 1, 2048, .inl f14)), (a13, .inr (2, [.ref a14, .int v17, .int v18])), (a14, .inl (cT 2, 4096, .inr (.inl f16))), (a3, .inr (1, [.ref a4, .int v4, .int v5])), (a4, .inl (cT 0, 4096, .inl f3))]) hP hD [3, 4] [0, 1, 2, 5, 6, 7, 8, 9, 10, 11, 12, 13, 14] 13 rfl rfl (by decide) (by decide) hk1 hFc hP1 hD1
      generalize H1 = H at hP hS ⊢
      rw [hr9]
      refine W.eq (g2 := F0 m 51 ls [.int o12]) rfl ?_
      obtain rfl := Option.some.inj hf
      obtain ⟨hP9, hD9⟩ := xsub (wc := [(a0, .inr (0, [.ref a1, .ref a3, .ref a5, .ref a7, .ref a8, .ref a13, .int v19, .int v20])), (a1, .inr (1, [.ref a2, .int v1, .int v2])), (a2, .inl (cT 0, 4096, .inl f0)), (a3, .inr (1, [.ref a4, .int v4, .int v5])), (a4, .inl (cT 0, 4096, .inl f3)), (a5, .inr (1, [.ref a6, .int v7, .int v8])), (a6, .inl (cT 0, 4096, .inl f6)), (a7, .inl (cT 3, 8, .inr (.inr (.inr (.inr rf0))))), (a8, .inr (3, [.ref a9, .ref a10, .ref p11, .ref p13, .int v15])), (a9, .inl (cT 1, 2048, .inl f9)), (a10, .inl (cT 1, 2048, .inl f10)), (p11, .inl (cT 1, 2048, .inl f12)), (p13, .inl (cT 1, 2048, .inl f14)), (a13, .inr (2, [.ref a14, .int v17, .int v18])), (a14, .inl (cT 2, 4096, .inr (.inl f16)))]) hP hD [0, 1, 2, 13, 14, 3, 4, 5, 6, 7, 8, 9, 10, 11, 12] rfl rfl (by decide)
      refine W.widen (k := 1) (n := 6) (Nat.le_of_ble_eq_true rfl) (Nat.le_of_ble_eq_true rfl) ?_
      exact W.iret (v := o12) hx hb hr (fun t ht hW => ⟨⟨o12, (), rfl, rfl, by rw [ht]; exact hP9, va_K.moved hW.alike hK, hD9⟩, hS.F ht⟩) hS.2.2 dB_count_51
    rw [if_neg hc11] at hf
    by_cases hc15 : x1 = 2
    · rw [if_pos hc15] at hf
      refine lv_tableIn (off := 43) (tgt := 52) hx hb dB_count_9 (by rw [hc15]; decide) (by rw [hc15]; decide) (by rw [hc15]; decide) (by decide) ?_
      refine lv_aload_n hx hb dB_count_52 rfl (lv_at hl 0 rfl) ?_
      refine va_get (D := D) (ci := 0) (v := .int v19) (C := "ValueBench") (T := TB) (N := 8) hx hb htx inB hown hK hP 0 rfl rfl 6 (by decide) (htx _ kw_1_101) (fun _ h9 => h9) rfl dB_count_53 ?_
      obtain rfl := Option.some.inj hf
      obtain ⟨hP9, hD9⟩ := xsub (wc := [(a0, .inr (0, [.ref a1, .ref a3, .ref a5, .ref a7, .ref a8, .ref a13, .int v19, .int v20])), (a1, .inr (1, [.ref a2, .int v1, .int v2])), (a2, .inl (cT 0, 4096, .inl f0)), (a3, .inr (1, [.ref a4, .int v4, .int v5])), (a4, .inl (cT 0, 4096, .inl f3)), (a5, .inr (1, [.ref a6, .int v7, .int v8])), (a6, .inl (cT 0, 4096, .inl f6)), (a7, .inl (cT 3, 8, .inr (.inr (.inr (.inr rf0))))), (a8, .inr (3, [.ref a9, .ref a10, .ref p11, .ref p13, .int v15])), (a9, .inl (cT 1, 2048, .inl f9)), (a10, .inl (cT 1, 2048, .inl f10)), (p11, .inl (cT 1, 2048, .inl f12)), (p13, .inl (cT 1, 2048, .inl f14)), (a13, .inr (2, [.ref a14, .int v17, .int v18])), (a14, .inl (cT 2, 4096, .inr (.inl f16)))]) hP hD [0, 1, 2, 3, 4, 5, 6, 7, 8, 9, 10, 11, 12, 13, 14] rfl rfl (by decide)
      refine W.widen (k := 1) (n := 6) (Nat.le_of_ble_eq_true rfl) (Nat.le_of_ble_eq_true rfl) ?_
      exact W.iret (v := v19) hx hb hr (fun t ht hW => ⟨⟨v19, (), rfl, rfl, by rw [ht]; exact hP9, va_K.moved hW.alike hK, hD9⟩, hS.F ht⟩) hS.2.2 dB_count_56
    rw [if_neg hc15] at hf
    refine lv_tableOut (tgt := 57) hx hb dB_count_9 (by have e0 : x1.toInt ≠ 0 := xsw hc7 (by decide); have e1 : x1.toInt ≠ 1 := xsw hc11 (by decide); have e2 : x1.toInt ≠ 2 := xsw hc15 (by decide); omega) (by decide) ?_
    refine lv_aload_n hx hb dB_count_57 rfl (lv_at hl 0 rfl) ?_
    refine va_get (D := D) (ci := 0) (v := .int v20) (C := "ValueBench") (T := TB) (N := 8) hx hb htx inB hown hK hP 0 rfl rfl 7 (by decide) (htx _ kw_1_102) (fun _ h9 => h9) rfl dB_count_58 ?_
    obtain rfl := Option.some.inj hf
    obtain ⟨hP9, hD9⟩ := xsub (wc := [(a0, .inr (0, [.ref a1, .ref a3, .ref a5, .ref a7, .ref a8, .ref a13, .int v19, .int v20])), (a1, .inr (1, [.ref a2, .int v1, .int v2])), (a2, .inl (cT 0, 4096, .inl f0)), (a3, .inr (1, [.ref a4, .int v4, .int v5])), (a4, .inl (cT 0, 4096, .inl f3)), (a5, .inr (1, [.ref a6, .int v7, .int v8])), (a6, .inl (cT 0, 4096, .inl f6)), (a7, .inl (cT 3, 8, .inr (.inr (.inr (.inr rf0))))), (a8, .inr (3, [.ref a9, .ref a10, .ref p11, .ref p13, .int v15])), (a9, .inl (cT 1, 2048, .inl f9)), (a10, .inl (cT 1, 2048, .inl f10)), (p11, .inl (cT 1, 2048, .inl f12)), (p13, .inl (cT 1, 2048, .inl f14)), (a13, .inr (2, [.ref a14, .int v17, .int v18])), (a14, .inl (cT 2, 4096, .inr (.inl f16)))]) hP hD [0, 1, 2, 3, 4, 5, 6, 7, 8, 9, 10, 11, 12, 13, 14] rfl rfl (by decide)
    refine W.widen (k := 1) (n := 6) (Nat.le_of_ble_eq_true rfl) (Nat.le_of_ble_eq_true rfl) ?_
    exact W.iret (v := v20) hx hb hr (fun t ht hW => ⟨⟨v20, (), rfl, rfl, by rw [ht]; exact hP9, va_K.moved hW.alike hK, hD9⟩, hS.F ht⟩) hS.2.2 dB_count_61
  rw [if_neg hk6] at hf
  by_cases hk16 : o4 = 1
  · rw [if_pos hk16] at hf
    obtain rfl := Option.some.inj hf
    exact absurd (show (1 : Nat) = 0 from hkd) (by decide)
  rw [if_neg hk16] at hf
  exact nomatch hf
set_option maxHeartbeats 400000000 in
set_option maxRecDepth 100000 in
theorem gB_count_1 (l : Launch) (hl9 : l.stackTraces = false) (D : va_G) (cT : Nat → ClassId) (aK aV : Nat → Nat) (sz n : Nat) (a0 : Nat) (a1 : Nat) (a2 : Nat) (a3 : Nat) (a4 : Nat) (a5 : Nat) (a6 : Nat) (a7 : Nat) (a8 : Nat) (a9 : Nat) (a10 : Nat) (a13 : Nat) (a14 : Nat) (rf0 : Nat → Option Nat) (x1 : Int32) (f0 : Nat → Int32) (v1 : Int32) (v2 : Int32) (f3 : Nat → Int32) (v4 : Int32) (v5 : Int32) (f6 : Nat → Int32) (v7 : Int32) (v8 : Int32) (f9 : Nat → Int32) (f10 : Nat → Int32) (p11 : Nat) (f12 : Nat → Int32) (p13 : Nat) (f14 : Nat → Int32) (v15 : Int32) (f16 : Nat → Int64) (v17 : Int32) (v18 : Int32) (v19 : Int32) (v20 : Int32) (out : Nat × Int32) (hf : fB_count n x1 f0 v1 v2 f3 v4 v5 f6 v7 v8 f9 f10 p11 f12 p13 f14 v15 f16 v17 v18 v19 v20 = some out) (hkd : out.1 = 1) : xMetX l yB_count wyB_count 7 1 6 120 D cT aK aV sz [.ref a0, .int x1] [(a0, .inr (0, [.ref a1, .ref a3, .ref a5, .ref a7, .ref a8, .ref a13, .int v19, .int v20])), (a1, .inr (1, [.ref a2, .int v1, .int v2])), (a2, .inl (cT 0, 4096, .inl f0)), (a3, .inr (1, [.ref a4, .int v4, .int v5])), (a4, .inl (cT 0, 4096, .inl f3)), (a5, .inr (1, [.ref a6, .int v7, .int v8])), (a6, .inl (cT 0, 4096, .inl f6)), (a7, .inl (cT 3, 8, .inr (.inr (.inr (.inr rf0))))), (a8, .inr (3, [.ref a9, .ref a10, .ref p11, .ref p13, .int v15])), (a9, .inl (cT 1, 2048, .inl f9)), (a10, .inl (cT 1, 2048, .inl f10)), (p11, .inl (cT 1, 2048, .inl f12)), (p13, .inl (cT 1, 2048, .inl f14)), (a13, .inr (2, [.ref a14, .int v17, .int v18])), (a14, .inl (cT 2, 4096, .inr (.inl f16)))] "java/lang/IllegalArgumentException" (fun A t => xB D xcl cT A [(a0, .inr (0, [.ref a1, .ref a3, .ref a5, .ref a7, .ref a8, .ref a13, .int v19, .int v20])), (a1, .inr (1, [.ref a2, .int v1, .int v2])), (a2, .inl (cT 0, 4096, .inl f0)), (a3, .inr (1, [.ref a4, .int v4, .int v5])), (a4, .inl (cT 0, 4096, .inl f3)), (a5, .inr (1, [.ref a6, .int v7, .int v8])), (a6, .inl (cT 0, 4096, .inl f6)), (a7, .inl (cT 3, 8, .inr (.inr (.inr (.inr rf0))))), (a8, .inr (3, [.ref a9, .ref a10, .ref p11, .ref p13, .int v15])), (a9, .inl (cT 1, 2048, .inl f9)), (a10, .inl (cT 1, 2048, .inl f10)), (p11, .inl (cT 1, 2048, .inl f12)), (p13, .inl (cT 1, 2048, .inl f14)), (a13, .inr (2, [.ref a14, .int v17, .int v18])), (a14, .inl (cT 2, 4096, .inr (.inl f16)))] t) := by
  refine vx_ofW (cc := prog_1_method_13_code) (maxL := 2) (ret := (some .int)) (by decide) rfl ?_
  intro p e s m args below meth c s₁ B hml hne hv
  obtain ⟨rfl, hsz, hZ, hP, hK, hD0⟩ := hv
  have hx := B.exec
  have hb := B.bytes
  have hr := B.returns
  have hts := atoms_spec (ws := wyB_count) B.pre
  have htx := fun w h => hts w (List.mem_cons_of_mem _ h)
  have hown : s.vm.findClass "ValueBench" = some m.cls := findClass_of_methodNamed B.named
  have hlocks := B.notSynchronized
  subst hsz
  have hD := hD0.self (sz := s.heap.size)
  generalize hAe : va_A [(a0, .inr (0, [.ref a1, .ref a3, .ref a5, .ref a7, .ref a8, .ref a13, .int v19, .int v20])), (a1, .inr (1, [.ref a2, .int v1, .int v2])), (a2, .inl (cT 0, 4096, .inl f0)), (a3, .inr (1, [.ref a4, .int v4, .int v5])), (a4, .inl (cT 0, 4096, .inl f3)), (a5, .inr (1, [.ref a6, .int v7, .int v8])), (a6, .inl (cT 0, 4096, .inl f6)), (a7, .inl (cT 3, 8, .inr (.inr (.inr (.inr rf0))))), (a8, .inr (3, [.ref a9, .ref a10, .ref p11, .ref p13, .int v15])), (a9, .inl (cT 1, 2048, .inl f9)), (a10, .inl (cT 1, 2048, .inl f10)), (p11, .inl (cT 1, 2048, .inl f12)), (p13, .inl (cT 1, 2048, .inl f14)), (a13, .inr (2, [.ref a14, .int v17, .int v18])), (a14, .inl (cT 2, 4096, .inr (.inl f16)))] s.heap.size = A at hD hZ ⊢
  have hA : ∀ q : Nat, s.heap.size ≤ q → A q := fun q h => by rw [← hAe]; exact Or.inr h
  have hS : va_S A s.heap s.heap [] := va_S.rf
  have hP : va_P D xcl [(a0, .inr (0, [.ref a1, .ref a3, .ref a5, .ref a7, .ref a8, .ref a13, .int v19, .int v20])), (a1, .inr (1, [.ref a2, .int v1, .int v2])), (a2, .inl (cT 0, 4096, .inl f0)), (a3, .inr (1, [.ref a4, .int v4, .int v5])), (a4, .inl (cT 0, 4096, .inl f3)), (a5, .inr (1, [.ref a6, .int v7, .int v8])), (a6, .inl (cT 0, 4096, .inl f6)), (a7, .inl (cT 3, 8, .inr (.inr (.inr (.inr rf0))))), (a8, .inr (3, [.ref a9, .ref a10, .ref p11, .ref p13, .int v15])), (a9, .inl (cT 1, 2048, .inl f9)), (a10, .inl (cT 1, 2048, .inl f10)), (p11, .inl (cT 1, 2048, .inl f12)), (p13, .inl (cT 1, 2048, .inl f14)), (a13, .inr (2, [.ref a14, .int v17, .int v18])), (a14, .inl (cT 2, 4096, .inr (.inl f16)))] s.heap := hP
  have hl := lv_entry ([.ref a0, .int x1]) (n := 2) (Nat.le_of_ble_eq_true rfl)
  rw [lg_entry_eq]
  generalize (lg_sl ([.ref a0, .int x1]) ++ List.replicate (2 - (lg_sl ([.ref a0, .int x1])).length) Slot.unset).toArray = ls at hl ⊢
  have hl : lv_has ls 2 [(0, .ref a0), (1, .int x1)] := hl
  unfold fB_count at hf
  refine lv_iload_n hx hb dB_count_0 rfl (lv_at hl 1 rfl) ?_
  refine lv_iconst (v := 3) hx hb dB_count_1 (by decide) ?_
  obtain ⟨o1, hq2, hf⟩ := xbind hf
  obtain ⟨hPc, hDc, hFc⟩ := xcut (wc := []) hP hD hS hA [] rfl rfl (by decide)
  refine va_calli (va_runS (As := [.int x1, .int 3]) (rest := []) ⟨hx, hb, hml, hown, htx⟩ (gB_isWithin l hl9 D cT aK aV s.heap.size n x1 (3 : Int32) o1 hq2) ⟨callB_of 2 htx (xw_goodC kw_1_218) rfl rfl rfl (htx _ kw_1_1) (htx _ kw_1_216) ⟨by decide, by decide, by decide +kernel⟩ ⟨Nat.le_of_ble_eq_true rfl, Nat.le_of_ble_eq_true rfl⟩, htx _ kw_1_217⟩ ⟨xPre_blind, (fun U hU hW => ⟨rfl, xPre_of hZ hS hFc hPc hDc hK U hU hW⟩)⟩ rfl rfl hl.1 rfl (lv_room (Nat.le_of_ble_eq_true rfl)) dB_count_2 ⟨Nat.le_of_ble_eq_true rfl, Nat.le_of_ble_eq_true rfl⟩) hS (fun q _ h => hFc q h) hFc (fun r3 u9 t H1 locs ht hvm hr9 hB hz1 hk1 hS => ?_)
  obtain ⟨hP1, hK1, hD1⟩ := hB
  rw [ht] at hP1
  obtain ⟨hP, hD⟩ := xjoin (W := [(a0, .inr (0, [.ref a1, .ref a3, .ref a5, .ref a7, .ref a8, .ref a13, .int v19, .int v20])), (a1, .inr (1, [.ref a2, .int v1, .int v2])), (a2, .inl (cT 0, 4096, .inl f0)), (a3, .inr (1, [.ref a4, .int v4, .int v5])), (a4, .inl (cT 0, 4096, .inl f3)), (a5, .inr (1, [.ref a6, .int v7, .int v8])), (a6, .inl (cT 0, 4096, .inl f6)), (a7, .inl (cT 3, 8, .inr (.inr (.inr (.inr rf0))))), (a8, .inr (3, [.ref a9, .ref a10, .ref p11, .ref p13, .int v15])), (a9, .inl (cT 1, 2048, .inl f9)), (a10, .inl (cT 1, 2048, .inl f10)), (p11, .inl (cT 1, 2048, .inl f12)), (p13, .inl (cT 1, 2048, .inl f14)), (a13, .inr (2, [.ref a14, .int v17, .int v18])), (a14, .inl (cT 2, 4096, .inr (.inl f16)))]) hP hD [] [0, 1, 2, 3, 4, 5, 6, 7, 8, 9, 10, 11, 12, 13, 14] 15 rfl rfl (by decide) (by decide) hk1 hFc hP1 hD1
  generalize H1 = H at hP hS ⊢
  rw [hr9]
  refine W.eq (g2 := F0 m 5 ls [.int o1]) rfl ?_
  obtain ⟨o4, hq5, hf⟩ := xbind hf
  by_cases hk6 : o4 = 0
  · rw [if_pos hk6] at hf
    obtain ⟨hPc, hDc, hFc⟩ := xcut (wc := []) hP hD hS hA [] rfl rfl (by decide)
    refine va_callv (va_runS (As := [.int o1]) (rest := []) ⟨hx, hb, hml, hown, htx⟩ (gB_demand l hl9 D cT aK aV H.size n o1 o4 hq5 hk6) ⟨callB_of 1 htx (xw_goodC kw_1_221) rfl rfl rfl (htx _ kw_1_1) (htx _ kw_1_219) ⟨by decide, by decide, by decide +kernel⟩ ⟨Nat.le_of_ble_eq_true rfl, Nat.le_of_ble_eq_true rfl⟩, htx _ kw_1_220⟩ ⟨xPre_blind, (fun U hU hW => ⟨rfl, xPre_of hZ hS hFc hPc hDc hK U hU hW⟩)⟩ rfl rfl hl.1 rfl (lv_room (Nat.le_of_ble_eq_true rfl)) dB_count_5 ⟨Nat.le_of_ble_eq_true rfl, Nat.le_of_ble_eq_true rfl⟩) hS (fun q _ h => hFc q h) hFc (fun u9 t H1 locs ht hvm hr9 hB hz1 hk1 hS => ?_)
    obtain ⟨hP1, hK1, hD1⟩ := hB
    rw [ht] at hP1
    obtain ⟨hP, hD⟩ := xjoin (W := [(a0, .inr (0, [.ref a1, .ref a3, .ref a5, .ref a7, .ref a8, .ref a13, .int v19, .int v20])), (a1, .inr (1, [.ref a2, .int v1, .int v2])), (a2, .inl (cT 0, 4096, .inl f0)), (a3, .inr (1, [.ref a4, .int v4, .int v5])), (a4, .inl (cT 0, 4096, .inl f3)), (a5, .inr (1, [.ref a6, .int v7, .int v8])), (a6, .inl (cT 0, 4096, .inl f6)), (a7, .inl (cT 3, 8, .inr (.inr (.inr (.inr rf0))))), (a8, .inr (3, [.ref a9, .ref a10, .ref p11, .ref p13, .int v15])), (a9, .inl (cT 1, 2048, .inl f9)), (a10, .inl (cT 1, 2048, .inl f10)), (p11, .inl (cT 1, 2048, .inl f12)), (p13, .inl (cT 1, 2048, .inl f14)), (a13, .inr (2, [.ref a14, .int v17, .int v18])), (a14, .inl (cT 2, 4096, .inr (.inl f16)))]) hP hD [] [0, 1, 2, 3, 4, 5, 6, 7, 8, 9, 10, 11, 12, 13, 14] 15 rfl rfl (by decide) (by decide) hk1 hFc hP1 hD1
    generalize H1 = H at hP hS ⊢
    refine lv_iload_n hx hb dB_count_8 rfl (lv_at hl 1 rfl) ?_
    by_cases hc7 : x1 = 0
    · rw [if_pos hc7] at hf
      refine lv_tableIn (off := 27) (tgt := 36) hx hb dB_count_9 (by rw [hc7]; decide) (by rw [hc7]; decide) (by rw [hc7]; decide) (by decide) ?_
      refine lv_aload_n hx hb dB_count_36 rfl (lv_at hl 0 rfl) ?_
      refine va_get (D := D) (ci := 0) (v := .ref a1) (C := "ValueBench") (T := TB) (N := 8) hx hb htx inB hown hK hP 0 rfl rfl 0 (by decide) (htx _ kw_1_95) (fun _ h9 => h9) rfl dB_count_37 ?_
      obtain ⟨o8, hq9, hf⟩ := xbind hf
      obtain ⟨hPc, hDc, hFc⟩ := xcut (wc := [(a1, .inr (1, [.ref a2, .int v1, .int v2])), (a2, .inl (cT 0, 4096, .inl f0))]) hP hD hS hA [1, 2] rfl rfl (by decide)
      refine va_calli (va_runV (C := "ValueBench$Text") (As := []) (rest := []) ⟨hx, hb, hml, hown, htx⟩ (gT_size l hl9 D cT aK aV H.size n a1 a2 f0 v1 v2 o8 hq9) ⟨callB_of 0 htx (xw_goodC kw_1_131) rfl rfl rfl (htx _ kw_1_2) (htx _ kw_1_128) ⟨by decide, by decide, by decide +kernel⟩ ⟨Nat.le_of_ble_eq_true rfl, Nat.le_of_ble_eq_true rfl⟩, (htx _ kw_1_129), (htx _ kw_1_130)⟩ ⟨xPre_blind, va_recv hK hP (ci := 1) rfl (q0 := 1) rfl, (fun U hU hW => ⟨rfl, xPre_of hZ hS hFc hPc hDc hK U hU hW⟩)⟩ rfl rfl hl.1 rfl (lv_room (Nat.le_of_ble_eq_true rfl)) dB_count_40 ⟨Nat.le_of_ble_eq_true rfl, Nat.le_of_ble_eq_true rfl⟩) hS (fun q _ h => hFc q h) hFc (fun r10 u9 t H1 locs ht hvm hr9 hB hz1 hk1 hS => ?_)
      obtain ⟨hP1, hK1, hD1⟩ := hB
      rw [ht] at hP1
      obtain ⟨hP, hD⟩ := xjoin (W := [(a0, .inr (0, [.ref a1, .ref a3, .ref a5, .ref a7, .ref a8, .ref a13, .int v19, .int v20])), (a3, .inr (1, [.ref a4, .int v4, .int v5])), (a4, .inl (cT 0, 4096, .inl f3)), (a5, .inr (1, [.ref a6, .int v7, .int v8])), (a6, .inl (cT 0, 4096, .inl f6)), (a7, .inl (cT 3, 8, .inr (.inr (.inr (.inr rf0))))), (a8, .inr (3, [.ref a9, .ref a10, .ref p11, .ref p13, .int v15])), (a9, .inl (cT 1, 2048, .inl f9)), (a10, .inl (cT 1, 2048, .inl f10)), (p11, .inl (cT 1, 2048, .inl f12)), (p13, .inl (cT 1, 2048, .inl f14)), (a13, .inr (2, [.ref a14, .int v17, .int v18])), (a14, .inl (cT 2, 4096, .inr (.inl f16))), (a1, .inr (1, [.ref a2, .int v1, .int v2])), (a2, .inl (cT 0, 4096, .inl f0))]) hP hD [1, 2] [0, 3, 4, 5, 6, 7, 8, 9, 10, 11, 12, 13, 14] 13 rfl rfl (by decide) (by decide) hk1 hFc hP1 hD1
      generalize H1 = H at hP hS ⊢
      rw [hr9]
      refine W.eq (g2 := F0 m 43 ls [.int o8]) rfl ?_
      obtain rfl := Option.some.inj hf
      exact absurd (show (0 : Nat) = 1 from hkd) (by decide)
    rw [if_neg hc7] at hf
    by_cases hc11 : x1 = 1
    · rw [if_pos hc11] at hf
      refine lv_tableIn (off := 35) (tgt := 44) hx hb dB_count_9 (by rw [hc11]; decide) (by rw [hc11]; decide) (by rw [hc11]; decide) (by decide) ?_
      refine lv_aload_n hx hb dB_count_44 rfl (lv_at hl 0 rfl) ?_
      refine va_get (D := D) (ci := 0) (v := .ref a3) (C := "ValueBench") (T := TB) (N := 8) hx hb htx inB hown hK hP 0 rfl rfl 1 (by decide) (htx _ kw_1_96) (fun _ h9 => h9) rfl dB_count_45 ?_
      obtain ⟨o12, hq13, hf⟩ := xbind hf
      obtain ⟨hPc, hDc, hFc⟩ := xcut (wc := [(a3, .inr (1, [.ref a4, .int v4, .int v5])), (a4, .inl (cT 0, 4096, .inl f3))]) hP hD hS hA [3, 4] rfl rfl (by decide)
      refine va_calli (va_runV (C := "ValueBench$Text") (As := []) (rest := []) ⟨hx, hb, hml, hown, htx⟩ (gT_size l hl9 D cT aK aV H.size n a3 a4 f3 v4 v5 o12 hq13) ⟨callB_of 0 htx (xw_goodC kw_1_131) rfl rfl rfl (htx _ kw_1_2) (htx _ kw_1_128) ⟨by decide, by decide, by decide +kernel⟩ ⟨Nat.le_of_ble_eq_true rfl, Nat.le_of_ble_eq_true rfl⟩, (htx _ kw_1_129), (htx _ kw_1_130)⟩ ⟨xPre_blind, va_recv hK hP (ci := 1) rfl (q0 := 3) rfl, (fun U hU hW => ⟨rfl, xPre_of hZ hS hFc hPc hDc hK U hU hW⟩)⟩ rfl rfl hl.1 rfl (lv_room (Nat.le_of_ble_eq_true rfl)) dB_count_48 ⟨Nat.le_of_ble_eq_true rfl, Nat.le_of_ble_eq_true rfl⟩) hS (fun q _ h => hFc q h) hFc (fun r14 u9 t H1 locs ht hvm hr9 hB hz1 hk1 hS => ?_)
      obtain ⟨hP1, hK1, hD1⟩ := hB
      rw [ht] at hP1
      obtain ⟨hP, hD⟩ := xjoin (W := [(a0, .inr (0, [.ref a1, .ref a3, .ref a5, .ref a7, .ref a8, .ref a13, .int v19, .int v20])), (a1, .inr (1, [.ref a2, .int v1, .int v2])), (a2, .inl (cT 0, 4096, .inl f0)), (a5, .inr (1, [.ref a6, .int v7, .int v8])), (a6, .inl (cT 0, 4096, .inl f6)), (a7, .inl (cT 3, 8, .inr (.inr (.inr (.inr rf0))))), (a8, .inr (3, [.ref a9, .ref a10, .ref p11, .ref p13, .int v15])), (a9, .inl (cT 1, 2048, .inl f9)), (a10, .inl (cT 1, 2048, .inl f10)), (p11, .inl (cT 1, 2048, .inl f12)), (p13, .inl (cT 1, 2048, .inl f14)), (a13, .inr (2, [.ref a14, .int v17, .int v18])), (a14, .inl (cT 2, 4096, .inr (.inl f16))), (a3, .inr (1, [.ref a4, .int v4, .int v5])), (a4, .inl (cT 0, 4096, .inl f3))]) hP hD [3, 4] [0, 1, 2, 5, 6, 7, 8, 9, 10, 11, 12, 13, 14] 13 rfl rfl (by decide) (by decide) hk1 hFc hP1 hD1
      generalize H1 = H at hP hS ⊢
      rw [hr9]
      refine W.eq (g2 := F0 m 51 ls [.int o12]) rfl ?_
      obtain rfl := Option.some.inj hf
      exact absurd (show (0 : Nat) = 1 from hkd) (by decide)
    rw [if_neg hc11] at hf
    by_cases hc15 : x1 = 2
    · rw [if_pos hc15] at hf
      refine lv_tableIn (off := 43) (tgt := 52) hx hb dB_count_9 (by rw [hc15]; decide) (by rw [hc15]; decide) (by rw [hc15]; decide) (by decide) ?_
      refine lv_aload_n hx hb dB_count_52 rfl (lv_at hl 0 rfl) ?_
      refine va_get (D := D) (ci := 0) (v := .int v19) (C := "ValueBench") (T := TB) (N := 8) hx hb htx inB hown hK hP 0 rfl rfl 6 (by decide) (htx _ kw_1_101) (fun _ h9 => h9) rfl dB_count_53 ?_
      obtain rfl := Option.some.inj hf
      exact absurd (show (0 : Nat) = 1 from hkd) (by decide)
    rw [if_neg hc15] at hf
    refine lv_tableOut (tgt := 57) hx hb dB_count_9 (by have e0 : x1.toInt ≠ 0 := xsw hc7 (by decide); have e1 : x1.toInt ≠ 1 := xsw hc11 (by decide); have e2 : x1.toInt ≠ 2 := xsw hc15 (by decide); omega) (by decide) ?_
    refine lv_aload_n hx hb dB_count_57 rfl (lv_at hl 0 rfl) ?_
    refine va_get (D := D) (ci := 0) (v := .int v20) (C := "ValueBench") (T := TB) (N := 8) hx hb htx inB hown hK hP 0 rfl rfl 7 (by decide) (htx _ kw_1_102) (fun _ h9 => h9) rfl dB_count_58 ?_
    obtain rfl := Option.some.inj hf
    exact absurd (show (0 : Nat) = 1 from hkd) (by decide)
  rw [if_neg hk6] at hf
  by_cases hk16 : o4 = 1
  · rw [if_pos hk16] at hf
    obtain ⟨hPc, hDc, hFc⟩ := xcut (wc := []) hP hD hS hA [] rfl rfl (by decide)
    refine xx_thr (vx_runS (As := [.int o1]) (rest := []) ⟨hx, hb, hml, hown, htx⟩ (gB_demand_1 l hl9 D cT aK aV H.size n o1 o4 hq5 hk16) ⟨callB_of 1 htx (xw_goodC kw_1_221) rfl rfl rfl (htx _ kw_1_1) (htx _ kw_1_219) ⟨by decide, by decide, by decide +kernel⟩ ⟨Nat.le_of_ble_eq_true rfl, Nat.le_of_ble_eq_true rfl⟩, htx _ kw_1_220⟩ ⟨xPre_blind, (fun U hU hW => ⟨rfl, xPre_of hZ hS hFc hPc hDc hK U hU hW⟩)⟩ rfl rfl hl.1 rfl (lv_room (Nat.le_of_ble_eq_true rfl)) dB_count_5 ⟨Nat.le_of_ble_eq_true rfl, Nat.le_of_ble_eq_true rfl⟩) hS hFc (fun q _ h => hFc q h) (fun E ce q9 u9 t H1 locs ht hvm _ hB hz1 hk1 hS hce hcv hcl => ?_)
    obtain ⟨rfl, hP1, hK1, hD1⟩ := hB
    rw [ht] at hP1
    obtain ⟨hP, hD⟩ := xjoin (W := [(a0, .inr (0, [.ref a1, .ref a3, .ref a5, .ref a7, .ref a8, .ref a13, .int v19, .int v20])), (a1, .inr (1, [.ref a2, .int v1, .int v2])), (a2, .inl (cT 0, 4096, .inl f0)), (a3, .inr (1, [.ref a4, .int v4, .int v5])), (a4, .inl (cT 0, 4096, .inl f3)), (a5, .inr (1, [.ref a6, .int v7, .int v8])), (a6, .inl (cT 0, 4096, .inl f6)), (a7, .inl (cT 3, 8, .inr (.inr (.inr (.inr rf0))))), (a8, .inr (3, [.ref a9, .ref a10, .ref p11, .ref p13, .int v15])), (a9, .inl (cT 1, 2048, .inl f9)), (a10, .inl (cT 1, 2048, .inl f10)), (p11, .inl (cT 1, 2048, .inl f12)), (p13, .inl (cT 1, 2048, .inl f14)), (a13, .inr (2, [.ref a14, .int v17, .int v18])), (a14, .inl (cT 2, 4096, .inr (.inl f16)))]) hP hD [] [0, 1, 2, 3, 4, 5, 6, 7, 8, 9, 10, 11, 12, 13, 14] 15 rfl rfl (by decide) (by decide) hk1 hFc hP1 hD1
    generalize H1 = H at hP hS hce ⊢
    obtain rfl := Option.some.inj hf
    obtain ⟨hP9, hD9⟩ := xsub (wc := [(a0, .inr (0, [.ref a1, .ref a3, .ref a5, .ref a7, .ref a8, .ref a13, .int v19, .int v20])), (a1, .inr (1, [.ref a2, .int v1, .int v2])), (a2, .inl (cT 0, 4096, .inl f0)), (a3, .inr (1, [.ref a4, .int v4, .int v5])), (a4, .inl (cT 0, 4096, .inl f3)), (a5, .inr (1, [.ref a6, .int v7, .int v8])), (a6, .inl (cT 0, 4096, .inl f6)), (a7, .inl (cT 3, 8, .inr (.inr (.inr (.inr rf0))))), (a8, .inr (3, [.ref a9, .ref a10, .ref p11, .ref p13, .int v15])), (a9, .inl (cT 1, 2048, .inl f9)), (a10, .inl (cT 1, 2048, .inl f10)), (p11, .inl (cT 1, 2048, .inl f12)), (p13, .inl (cT 1, 2048, .inl f14)), (a13, .inr (2, [.ref a14, .int v17, .int v18])), (a14, .inl (cT 2, 4096, .inr (.inl f16)))]) hP hD [0, 1, 2, 3, 4, 5, 6, 7, 8, 9, 10, 11, 12, 13, 14] rfl rfl (by decide)
    exact vx_out (E := "java/lang/IllegalArgumentException") (fun x h => (hne x h).elim) hlocks hce hcv hcl (fun t ht ha => ⟨(), trivial, ⟨rfl, by rw [ht]; exact hP9, va_K.moved ha hK, hD9⟩, hS.F ht⟩) hS.2.2 (Nat.le_of_ble_eq_true rfl) (Nat.le_of_ble_eq_true rfl)
  rw [if_neg hk16] at hf
  exact nomatch hf
set_option maxHeartbeats 400000000 in
set_option maxRecDepth 100000 in
theorem gL_feed (l : Launch) (hl9 : l.stackTraces = false) (D : va_G) (cT : Nat → ClassId) (aK aV : Nat → Nat) (sz n : Nat) (a0 : Nat) (a1 : Nat) (a2 : Nat) (a3 : Nat) (a4 : Nat) (a5 : Nat) (a6 : Nat) (a7 : Nat) (a8 : Nat) (a9 : Nat) (a10 : Nat) (a13 : Nat) (a14 : Nat) (a15 : Nat) (rf0 : Nat → Option Nat) (x1 : Int32) (x2 : Int32) (x3 : Int32) (x4 : Int32) (x5 : Int32) (f0 : Nat → Int32) (v1 : Int32) (v2 : Int32) (f3 : Nat → Int32) (v4 : Int32) (v5 : Int32) (f6 : Nat → Int32) (v7 : Int32) (v8 : Int32) (f9 : Nat → Int32) (f10 : Nat → Int32) (p11 : Nat) (f12 : Nat → Int32) (p13 : Nat) (f14 : Nat → Int32) (v15 : Int32) (f16 : Nat → Int64) (v17 : Int32) (v18 : Int32) (v19 : Int32) (v20 : Int32) (f21 : Nat → Int64) (out : Int32 × (Nat → Int32) × Int32 × Int32 × (Nat → Int64)) (hf : fL_feed n x1 x2 x3 x4 x5 f0 v1 v2 f3 v4 v5 f6 v7 v8 f9 f10 p11 f12 p13 f14 v15 f16 v17 v18 v19 v20 f21 = some out) : xMet l yL_feed wyL_feed 7 1 6 125 D cT aK aV sz [.ref a0, .int x1, .int x2, .int x3, .int x4, .int x5, .ref a15] [(a0, .inr (0, [.ref a1, .ref a3, .ref a5, .ref a7, .ref a8, .ref a13, .int v19, .int v20])), (a1, .inr (1, [.ref a2, .int v1, .int v2])), (a2, .inl (cT 0, 4096, .inl f0)), (a3, .inr (1, [.ref a4, .int v4, .int v5])), (a4, .inl (cT 0, 4096, .inl f3)), (a5, .inr (1, [.ref a6, .int v7, .int v8])), (a6, .inl (cT 0, 4096, .inl f6)), (a7, .inl (cT 3, 8, .inr (.inr (.inr (.inr rf0))))), (a8, .inr (3, [.ref a9, .ref a10, .ref p11, .ref p13, .int v15])), (a9, .inl (cT 1, 2048, .inl f9)), (a10, .inl (cT 1, 2048, .inl f10)), (p11, .inl (cT 1, 2048, .inl f12)), (p13, .inl (cT 1, 2048, .inl f14)), (a13, .inr (2, [.ref a14, .int v17, .int v18])), (a14, .inl (cT 2, 4096, .inr (.inl f16))), (a15, .inl (cT 2, 1, .inr (.inl f21)))] (fun A => va_Qi (fun (r : Int32) (_ : Unit) => r = out.1) (fun _ t => xB D xcl cT A [(a0, .inr (0, [.ref a1, .ref a3, .ref a5, .ref a7, .ref a8, .ref a13, .int v19, .int v20])), (a1, .inr (1, [.ref a2, .int out.2.2.1, .int out.2.2.2.1])), (a2, .inl (cT 0, 4096, .inl out.2.1)), (a3, .inr (1, [.ref a4, .int v4, .int v5])), (a4, .inl (cT 0, 4096, .inl f3)), (a5, .inr (1, [.ref a6, .int v7, .int v8])), (a6, .inl (cT 0, 4096, .inl f6)), (a7, .inl (cT 3, 8, .inr (.inr (.inr (.inr rf0))))), (a8, .inr (3, [.ref a9, .ref a10, .ref p11, .ref p13, .int v15])), (a9, .inl (cT 1, 2048, .inl f9)), (a10, .inl (cT 1, 2048, .inl f10)), (p11, .inl (cT 1, 2048, .inl f12)), (p13, .inl (cT 1, 2048, .inl f14)), (a13, .inr (2, [.ref a14, .int v17, .int v18])), (a14, .inl (cT 2, 4096, .inr (.inl f16))), (a15, .inl (cT 2, 1, .inr (.inl out.2.2.2.2)))] t) A) := by
  refine va_MetW (cc := method_3_code) (maxL := 8) (ret := (some .int)) (hh := [(0, 16, 19, 13)]) (by decide) rfl ?_
  intro p e s m args below meth c s₁ B hml hv
  obtain ⟨rfl, hsz, hZ, hP, hK, hD0⟩ := hv
  have hx := B.exec
  have hb := B.bytes
  have hr := B.returns
  have hts := atoms_spec (ws := wyL_feed) B.pre
  have htx := fun w h => hts w (List.mem_cons_of_mem _ h)
  have hown : s.vm.findClass "ValueBenchLaw" = some m.cls := findClass_of_methodNamed B.named
  have hlocks := B.notSynchronized
  subst hsz
  have hD := hD0.self (sz := s.heap.size)
  generalize hAe : va_A [(a0, .inr (0, [.ref a1, .ref a3, .ref a5, .ref a7, .ref a8, .ref a13, .int v19, .int v20])), (a1, .inr (1, [.ref a2, .int v1, .int v2])), (a2, .inl (cT 0, 4096, .inl f0)), (a3, .inr (1, [.ref a4, .int v4, .int v5])), (a4, .inl (cT 0, 4096, .inl f3)), (a5, .inr (1, [.ref a6, .int v7, .int v8])), (a6, .inl (cT 0, 4096, .inl f6)), (a7, .inl (cT 3, 8, .inr (.inr (.inr (.inr rf0))))), (a8, .inr (3, [.ref a9, .ref a10, .ref p11, .ref p13, .int v15])), (a9, .inl (cT 1, 2048, .inl f9)), (a10, .inl (cT 1, 2048, .inl f10)), (p11, .inl (cT 1, 2048, .inl f12)), (p13, .inl (cT 1, 2048, .inl f14)), (a13, .inr (2, [.ref a14, .int v17, .int v18])), (a14, .inl (cT 2, 4096, .inr (.inl f16))), (a15, .inl (cT 2, 1, .inr (.inl f21)))] s.heap.size = A at hD hZ ⊢
  have hA : ∀ q : Nat, s.heap.size ≤ q → A q := fun q h => by rw [← hAe]; exact Or.inr h
  have hS : va_S A s.heap s.heap [] := va_S.rf
  have hP : va_P D xcl [(a0, .inr (0, [.ref a1, .ref a3, .ref a5, .ref a7, .ref a8, .ref a13, .int v19, .int v20])), (a1, .inr (1, [.ref a2, .int v1, .int v2])), (a2, .inl (cT 0, 4096, .inl f0)), (a3, .inr (1, [.ref a4, .int v4, .int v5])), (a4, .inl (cT 0, 4096, .inl f3)), (a5, .inr (1, [.ref a6, .int v7, .int v8])), (a6, .inl (cT 0, 4096, .inl f6)), (a7, .inl (cT 3, 8, .inr (.inr (.inr (.inr rf0))))), (a8, .inr (3, [.ref a9, .ref a10, .ref p11, .ref p13, .int v15])), (a9, .inl (cT 1, 2048, .inl f9)), (a10, .inl (cT 1, 2048, .inl f10)), (p11, .inl (cT 1, 2048, .inl f12)), (p13, .inl (cT 1, 2048, .inl f14)), (a13, .inr (2, [.ref a14, .int v17, .int v18])), (a14, .inl (cT 2, 4096, .inr (.inl f16))), (a15, .inl (cT 2, 1, .inr (.inl f21)))] s.heap := hP
  have hl := lv_entry ([.ref a0, .int x1, .int x2, .int x3, .int x4, .int x5, .ref a15]) (n := 8) (Nat.le_of_ble_eq_true rfl)
  rw [lg_entry_eq]
  generalize (lg_sl ([.ref a0, .int x1, .int x2, .int x3, .int x4, .int x5, .ref a15]) ++ List.replicate (8 - (lg_sl ([.ref a0, .int x1, .int x2, .int x3, .int x4, .int x5, .ref a15])).length) Slot.unset).toArray = ls at hl ⊢
  have hl : lv_has ls 8 [(0, .ref a0), (1, .int x1), (2, .int x2), (3, .int x3), (4, .int x4), (5, .int x5), (6, .ref a15)] := hl
  have htab := vx_table (x := yL_feed) B (hts _ List.mem_cons_self)
  unfold fL_feed at hf
  refine lv_aload hx hb dL_feed_0 (lv_at hl 6 rfl) ?_
  refine lv_iconst (v := 0) hx hb dL_feed_2 (by decide) ?_
  refine lv_aload_n hx hb dL_feed_3 rfl (lv_at hl 0 rfl) ?_
  refine lv_iload_n hx hb dL_feed_4 rfl (lv_at hl 1 rfl) ?_
  refine lv_iload_n hx hb dL_feed_5 rfl (lv_at hl 2 rfl) ?_
  refine lv_iload_n hx hb dL_feed_6 rfl (lv_at hl 3 rfl) ?_
  refine lv_iload hx hb dL_feed_7 (lv_at hl 4 rfl) ?_
  refine lv_iload hx hb dL_feed_9 (lv_at hl 5 rfl) ?_
  obtain ⟨o1, hq2, hf⟩ := xbind hf
  by_cases hk3 : o1.1 = 0
  · rw [if_pos hk3] at hf
    obtain ⟨hPc, hDc, hFc⟩ := xcut (wc := [(a0, .inr (0, [.ref a1, .ref a3, .ref a5, .ref a7, .ref a8, .ref a13, .int v19, .int v20])), (a1, .inr (1, [.ref a2, .int v1, .int v2])), (a2, .inl (cT 0, 4096, .inl f0)), (a3, .inr (1, [.ref a4, .int v4, .int v5])), (a4, .inl (cT 0, 4096, .inl f3)), (a5, .inr (1, [.ref a6, .int v7, .int v8])), (a6, .inl (cT 0, 4096, .inl f6)), (a7, .inl (cT 3, 8, .inr (.inr (.inr (.inr rf0))))), (a8, .inr (3, [.ref a9, .ref a10, .ref p11, .ref p13, .int v15])), (a9, .inl (cT 1, 2048, .inl f9)), (a10, .inl (cT 1, 2048, .inl f10)), (p11, .inl (cT 1, 2048, .inl f12)), (p13, .inl (cT 1, 2048, .inl f14)), (a13, .inr (2, [.ref a14, .int v17, .int v18])), (a14, .inl (cT 2, 4096, .inr (.inl f16)))]) hP hD hS hA [0, 1, 2, 3, 4, 5, 6, 7, 8, 9, 10, 11, 12, 13, 14] rfl rfl (by decide)
    refine va_calli (va_runV (C := "ValueBench") (As := [.int x1, .int x2, .int x3, .int x4, .int x5]) (rest := [.int 0, .ref a15]) ⟨hx, hb, hml, hown, htx⟩ (gB_feed l hl9 D cT aK aV s.heap.size n a0 a1 a2 a3 a4 a5 a6 a7 a8 a9 a10 a13 a14 rf0 x1 x2 x3 x4 x5 f0 v1 v2 f3 v4 v5 f6 v7 v8 f9 f10 p11 f12 p13 f14 v15 f16 v17 v18 v19 v20 o1 hq2 hk3) ⟨callB_of 5 htx (xw_goodC kw_1_127) rfl rfl rfl (htx _ kw_1_1) (htx _ kw_1_124) ⟨by decide, by decide, by decide +kernel⟩ ⟨Nat.le_of_ble_eq_true rfl, Nat.le_of_ble_eq_true rfl⟩, (htx _ kw_1_125), (htx _ kw_1_126)⟩ ⟨xPre_blind, va_recv hK hP (ci := 0) rfl (q0 := 0) rfl, (fun U hU hW => ⟨rfl, xPre_of hZ hS hFc hPc hDc hK U hU hW⟩)⟩ rfl rfl hl.1 rfl (lv_room (Nat.le_of_ble_eq_true rfl)) dL_feed_11 ⟨Nat.le_of_ble_eq_true rfl, Nat.le_of_ble_eq_true rfl⟩) hS (fun q _ h => hFc q h) hFc (fun r4 u9 t H1 locs ht hvm hr9 hB hz1 hk1 hS => ?_)
    obtain ⟨hP1, hK1, hD1⟩ := hB
    rw [ht] at hP1
    obtain ⟨hP, hD⟩ := xjoin (W := [(a15, .inl (cT 2, 1, .inr (.inl f21))), (a0, .inr (0, [.ref a1, .ref a3, .ref a5, .ref a7, .ref a8, .ref a13, .int v19, .int v20])), (a1, .inr (1, [.ref a2, .int o1.2.2.2.1, .int o1.2.2.2.2])), (a2, .inl (cT 0, 4096, .inl o1.2.2.1)), (a3, .inr (1, [.ref a4, .int v4, .int v5])), (a4, .inl (cT 0, 4096, .inl f3)), (a5, .inr (1, [.ref a6, .int v7, .int v8])), (a6, .inl (cT 0, 4096, .inl f6)), (a7, .inl (cT 3, 8, .inr (.inr (.inr (.inr rf0))))), (a8, .inr (3, [.ref a9, .ref a10, .ref p11, .ref p13, .int v15])), (a9, .inl (cT 1, 2048, .inl f9)), (a10, .inl (cT 1, 2048, .inl f10)), (p11, .inl (cT 1, 2048, .inl f12)), (p13, .inl (cT 1, 2048, .inl f14)), (a13, .inr (2, [.ref a14, .int v17, .int v18])), (a14, .inl (cT 2, 4096, .inr (.inl f16)))]) hP hD [0, 1, 2, 3, 4, 5, 6, 7, 8, 9, 10, 11, 12, 13, 14] [15] 1 rfl rfl (by decide) (by decide) hk1 hFc hP1 hD1
    generalize H1 = H at hP hS ⊢
    rw [hr9]
    refine W.eq (g2 := F0 m 14 ls [.int o1.2.1, .int 0, .ref a15]) rfl ?_
    refine lv_i2l hx hb dL_feed_14 rfl ?_
    refine va_last hx hb hK hP hD hS 0 2 rfl rfl (show ¬ ((0 : Int32) < 0 ∨ 1 ≤ (0 : Int32).toNatClampNeg) by decide) dL_feed_15 (fun H locs hP hD hS => ?_)
    obtain ⟨hP, hD⟩ : xPD D xcl A [(a15, .inl (cT 2, 1, .inr (.inl (vp_updL f21 0 o1.2.1.toInt64)))), (a0, .inr (0, [.ref a1, .ref a3, .ref a5, .ref a7, .ref a8, .ref a13, .int v19, .int v20])), (a1, .inr (1, [.ref a2, .int o1.2.2.2.1, .int o1.2.2.2.2])), (a2, .inl (cT 0, 4096, .inl o1.2.2.1)), (a3, .inr (1, [.ref a4, .int v4, .int v5])), (a4, .inl (cT 0, 4096, .inl f3)), (a5, .inr (1, [.ref a6, .int v7, .int v8])), (a6, .inl (cT 0, 4096, .inl f6)), (a7, .inl (cT 3, 8, .inr (.inr (.inr (.inr rf0))))), (a8, .inr (3, [.ref a9, .ref a10, .ref p11, .ref p13, .int v15])), (a9, .inl (cT 1, 2048, .inl f9)), (a10, .inl (cT 1, 2048, .inl f10)), (p11, .inl (cT 1, 2048, .inl f12)), (p13, .inl (cT 1, 2048, .inl f14)), (a13, .inr (2, [.ref a14, .int v17, .int v18])), (a14, .inl (cT 2, 4096, .inr (.inl f16)))] H := ⟨hP, hD⟩
    refine lv_goto (tgt := 23) hx hb dL_feed_16 (by decide) ?_
    refine lv_iconst (v := 0) hx hb dL_feed_23 (by decide) ?_
    obtain rfl := Option.some.inj hf
    obtain ⟨hP9, hD9⟩ := xsub (wc := [(a0, .inr (0, [.ref a1, .ref a3, .ref a5, .ref a7, .ref a8, .ref a13, .int v19, .int v20])), (a1, .inr (1, [.ref a2, .int o1.2.2.2.1, .int o1.2.2.2.2])), (a2, .inl (cT 0, 4096, .inl o1.2.2.1)), (a3, .inr (1, [.ref a4, .int v4, .int v5])), (a4, .inl (cT 0, 4096, .inl f3)), (a5, .inr (1, [.ref a6, .int v7, .int v8])), (a6, .inl (cT 0, 4096, .inl f6)), (a7, .inl (cT 3, 8, .inr (.inr (.inr (.inr rf0))))), (a8, .inr (3, [.ref a9, .ref a10, .ref p11, .ref p13, .int v15])), (a9, .inl (cT 1, 2048, .inl f9)), (a10, .inl (cT 1, 2048, .inl f10)), (p11, .inl (cT 1, 2048, .inl f12)), (p13, .inl (cT 1, 2048, .inl f14)), (a13, .inr (2, [.ref a14, .int v17, .int v18])), (a14, .inl (cT 2, 4096, .inr (.inl f16))), (a15, .inl (cT 2, 1, .inr (.inl (vp_updL f21 0 o1.2.1.toInt64))))]) hP hD [1, 2, 3, 4, 5, 6, 7, 8, 9, 10, 11, 12, 13, 14, 15, 0] rfl rfl (by decide)
    refine W.widen (k := 1) (n := 6) (Nat.le_of_ble_eq_true rfl) (Nat.le_of_ble_eq_true rfl) ?_
    exact W.iret (v := (0 : Int32)) hx hb hr (fun t ht hW => ⟨⟨(0 : Int32), (), rfl, rfl, by rw [ht]; exact hP9, va_K.moved hW.alike hK, hD9⟩, hS.F ht⟩) hS.2.2 dL_feed_24
  rw [if_neg hk3] at hf
  by_cases hk5 : o1.1 = 1
  · rw [if_pos hk5] at hf
    obtain ⟨hPc, hDc, hFc⟩ := xcut (wc := [(a0, .inr (0, [.ref a1, .ref a3, .ref a5, .ref a7, .ref a8, .ref a13, .int v19, .int v20])), (a1, .inr (1, [.ref a2, .int v1, .int v2])), (a2, .inl (cT 0, 4096, .inl f0)), (a3, .inr (1, [.ref a4, .int v4, .int v5])), (a4, .inl (cT 0, 4096, .inl f3)), (a5, .inr (1, [.ref a6, .int v7, .int v8])), (a6, .inl (cT 0, 4096, .inl f6)), (a7, .inl (cT 3, 8, .inr (.inr (.inr (.inr rf0))))), (a8, .inr (3, [.ref a9, .ref a10, .ref p11, .ref p13, .int v15])), (a9, .inl (cT 1, 2048, .inl f9)), (a10, .inl (cT 1, 2048, .inl f10)), (p11, .inl (cT 1, 2048, .inl f12)), (p13, .inl (cT 1, 2048, .inl f14)), (a13, .inr (2, [.ref a14, .int v17, .int v18])), (a14, .inl (cT 2, 4096, .inr (.inl f16)))]) hP hD hS hA [0, 1, 2, 3, 4, 5, 6, 7, 8, 9, 10, 11, 12, 13, 14] rfl rfl (by decide)
    refine xx_thr (vx_runV (C := "ValueBench") (As := [.int x1, .int x2, .int x3, .int x4, .int x5]) (rest := [.int 0, .ref a15]) ⟨hx, hb, hml, hown, htx⟩ (gB_feed_1 l hl9 D cT aK aV s.heap.size n a0 a1 a2 a3 a4 a5 a6 a7 a8 a9 a10 a13 a14 rf0 x1 x2 x3 x4 x5 f0 v1 v2 f3 v4 v5 f6 v7 v8 f9 f10 p11 f12 p13 f14 v15 f16 v17 v18 v19 v20 o1 hq2 hk5) ⟨callB_of 5 htx (xw_goodC kw_1_127) rfl rfl rfl (htx _ kw_1_1) (htx _ kw_1_124) ⟨by decide, by decide, by decide +kernel⟩ ⟨Nat.le_of_ble_eq_true rfl, Nat.le_of_ble_eq_true rfl⟩, (htx _ kw_1_125), (htx _ kw_1_126)⟩ ⟨xPre_blind, va_recv hK hP (ci := 0) rfl (q0 := 0) rfl, (fun U hU hW => ⟨rfl, xPre_of hZ hS hFc hPc hDc hK U hU hW⟩)⟩ rfl rfl hl.1 rfl (lv_room (Nat.le_of_ble_eq_true rfl)) dL_feed_11 ⟨Nat.le_of_ble_eq_true rfl, Nat.le_of_ble_eq_true rfl⟩) hS hFc (fun q _ h => hFc q h) (fun E ce q9 u9 t H1 locs ht hvm _ hB hz1 hk1 hS hce hcv hcl => ?_)
    obtain ⟨rfl, hP1, hK1, hD1⟩ := hB
    rw [ht] at hP1
    obtain ⟨hP, hD⟩ := xjoin (W := [(a15, .inl (cT 2, 1, .inr (.inl f21))), (a0, .inr (0, [.ref a1, .ref a3, .ref a5, .ref a7, .ref a8, .ref a13, .int v19, .int v20])), (a1, .inr (1, [.ref a2, .int o1.2.2.2.1, .int o1.2.2.2.2])), (a2, .inl (cT 0, 4096, .inl o1.2.2.1)), (a3, .inr (1, [.ref a4, .int v4, .int v5])), (a4, .inl (cT 0, 4096, .inl f3)), (a5, .inr (1, [.ref a6, .int v7, .int v8])), (a6, .inl (cT 0, 4096, .inl f6)), (a7, .inl (cT 3, 8, .inr (.inr (.inr (.inr rf0))))), (a8, .inr (3, [.ref a9, .ref a10, .ref p11, .ref p13, .int v15])), (a9, .inl (cT 1, 2048, .inl f9)), (a10, .inl (cT 1, 2048, .inl f10)), (p11, .inl (cT 1, 2048, .inl f12)), (p13, .inl (cT 1, 2048, .inl f14)), (a13, .inr (2, [.ref a14, .int v17, .int v18])), (a14, .inl (cT 2, 4096, .inr (.inl f16)))]) hP hD [0, 1, 2, 3, 4, 5, 6, 7, 8, 9, 10, 11, 12, 13, 14] [15] 1 rfl rfl (by decide) (by decide) hk1 hFc hP1 hD1
    generalize H1 = H at hP hS hce ⊢
    refine vx_catch (own := "ValueBenchLaw") (name := "java/lang/IndexOutOfBoundsException") (E := "java/lang/IndexOutOfBoundsException") hown [] ⟨0, 16, 19, 13⟩ [] (by rw [htab]; rfl) (fun z hz => nomatch hz) (by decide) (by decide) (htx _ kw_1_123) ((hZ.2.2.2.2.2.1 "java/lang/IndexOutOfBoundsException" (List.mem_of_getElem? (i := 0) rfl)).use rfl) hce hcv hcl ?_
    refine lv_astore (lv' := [(7, .ref q9), (0, .ref a0), (1, .int x1), (2, .int x2), (3, .int x3), (4, .int x4), (5, .int x5), (6, .ref a15)]) hx hb dL_feed_19 hl (by decide) rfl (fun ls hl => ?_)
    refine lv_iconst (v := 1) hx hb dL_feed_21 (by decide) ?_
    obtain rfl := Option.some.inj hf
    obtain ⟨hP9, hD9⟩ := xsub (wc := [(a0, .inr (0, [.ref a1, .ref a3, .ref a5, .ref a7, .ref a8, .ref a13, .int v19, .int v20])), (a1, .inr (1, [.ref a2, .int o1.2.2.2.1, .int o1.2.2.2.2])), (a2, .inl (cT 0, 4096, .inl o1.2.2.1)), (a3, .inr (1, [.ref a4, .int v4, .int v5])), (a4, .inl (cT 0, 4096, .inl f3)), (a5, .inr (1, [.ref a6, .int v7, .int v8])), (a6, .inl (cT 0, 4096, .inl f6)), (a7, .inl (cT 3, 8, .inr (.inr (.inr (.inr rf0))))), (a8, .inr (3, [.ref a9, .ref a10, .ref p11, .ref p13, .int v15])), (a9, .inl (cT 1, 2048, .inl f9)), (a10, .inl (cT 1, 2048, .inl f10)), (p11, .inl (cT 1, 2048, .inl f12)), (p13, .inl (cT 1, 2048, .inl f14)), (a13, .inr (2, [.ref a14, .int v17, .int v18])), (a14, .inl (cT 2, 4096, .inr (.inl f16))), (a15, .inl (cT 2, 1, .inr (.inl f21)))]) hP hD [1, 2, 3, 4, 5, 6, 7, 8, 9, 10, 11, 12, 13, 14, 15, 0] rfl rfl (by decide)
    refine W.widen (k := 1) (n := 6) (Nat.le_of_ble_eq_true rfl) (Nat.le_of_ble_eq_true rfl) ?_
    exact W.iret (v := (1 : Int32)) hx hb hr (fun t ht hW => ⟨⟨(1 : Int32), (), rfl, rfl, by rw [ht]; exact hP9, va_K.moved hW.alike hK, hD9⟩, hS.F ht⟩) hS.2.2 dL_feed_22
  rw [if_neg hk5] at hf
  exact nomatch hf
set_option maxHeartbeats 400000000 in
set_option maxRecDepth 100000 in
theorem gL_end (l : Launch) (hl9 : l.stackTraces = false) (D : va_G) (cT : Nat → ClassId) (aK aV : Nat → Nat) (sz n : Nat) (a0 : Nat) (a1 : Nat) (a2 : Nat) (a3 : Nat) (a4 : Nat) (a5 : Nat) (a6 : Nat) (a7 : Nat) (a8 : Nat) (a9 : Nat) (a10 : Nat) (a13 : Nat) (a14 : Nat) (a15 : Nat) (rf0 : Nat → Option Nat) (x1 : Int32) (f0 : Nat → Int32) (v1 : Int32) (v2 : Int32) (f3 : Nat → Int32) (v4 : Int32) (v5 : Int32) (f6 : Nat → Int32) (v7 : Int32) (v8 : Int32) (f9 : Nat → Int32) (f10 : Nat → Int32) (p11 : Nat) (f12 : Nat → Int32) (p13 : Nat) (f14 : Nat → Int32) (v15 : Int32) (f16 : Nat → Int64) (v17 : Int32) (v18 : Int32) (v19 : Int32) (v20 : Int32) (f21 : Nat → Int64) (out : Int32 × Int32 × (Nat → Int64)) (hf : fL_end n x1 f0 v1 v2 f3 v4 v5 f6 v7 v8 f9 f10 p11 f12 p13 f14 v15 f16 v17 v18 v19 v20 f21 = some out) : xMet l yL_end wyL_end 8 1 6 141 D cT aK aV sz [.ref a0, .int x1, .ref a15] [(a0, .inr (0, [.ref a1, .ref a3, .ref a5, .ref a7, .ref a8, .ref a13, .int v19, .int v20])), (a1, .inr (1, [.ref a2, .int v1, .int v2])), (a2, .inl (cT 0, 4096, .inl f0)), (a3, .inr (1, [.ref a4, .int v4, .int v5])), (a4, .inl (cT 0, 4096, .inl f3)), (a5, .inr (1, [.ref a6, .int v7, .int v8])), (a6, .inl (cT 0, 4096, .inl f6)), (a7, .inl (cT 3, 8, .inr (.inr (.inr (.inr rf0))))), (a8, .inr (3, [.ref a9, .ref a10, .ref p11, .ref p13, .int v15])), (a9, .inl (cT 1, 2048, .inl f9)), (a10, .inl (cT 1, 2048, .inl f10)), (p11, .inl (cT 1, 2048, .inl f12)), (p13, .inl (cT 1, 2048, .inl f14)), (a13, .inr (2, [.ref a14, .int v17, .int v18])), (a14, .inl (cT 2, 4096, .inr (.inl f16))), (a15, .inl (cT 2, 1, .inr (.inl f21)))] (fun A => va_Qi (fun (r : Int32) (_ : Unit) => r = out.1) (fun _ t => xB D xcl cT A [(a0, .inr (0, [.ref a1, .ref a3, .ref a5, .ref a7, .ref a8, .ref a13, .int v19, .int v20])), (a1, .inr (1, [.ref a2, .int out.2.1, .int v2])), (a2, .inl (cT 0, 4096, .inl f0)), (a3, .inr (1, [.ref a4, .int v4, .int v5])), (a4, .inl (cT 0, 4096, .inl f3)), (a5, .inr (1, [.ref a6, .int v7, .int v8])), (a6, .inl (cT 0, 4096, .inl f6)), (a7, .inl (cT 3, 8, .inr (.inr (.inr (.inr rf0))))), (a8, .inr (3, [.ref a9, .ref a10, .ref p11, .ref p13, .int v15])), (a9, .inl (cT 1, 2048, .inl f9)), (a10, .inl (cT 1, 2048, .inl f10)), (p11, .inl (cT 1, 2048, .inl f12)), (p13, .inl (cT 1, 2048, .inl f14)), (a13, .inr (2, [.ref a14, .int v17, .int v18])), (a14, .inl (cT 2, 4096, .inr (.inl f16))), (a15, .inl (cT 2, 1, .inr (.inl out.2.2)))] t) A) := by
  refine va_MetW (cc := method_4_code) (maxL := 4) (ret := (some .int)) (hh := [(0, 9, 12, 19)]) (by decide) rfl ?_
  intro p e s m args below meth c s₁ B hml hv
  obtain ⟨rfl, hsz, hZ, hP, hK, hD0⟩ := hv
  have hx := B.exec
  have hb := B.bytes
  have hr := B.returns
  have hts := atoms_spec (ws := wyL_end) B.pre
  have htx := fun w h => hts w (List.mem_cons_of_mem _ h)
  have hown : s.vm.findClass "ValueBenchLaw" = some m.cls := findClass_of_methodNamed B.named
  have hlocks := B.notSynchronized
  subst hsz
  have hD := hD0.self (sz := s.heap.size)
  generalize hAe : va_A [(a0, .inr (0, [.ref a1, .ref a3, .ref a5, .ref a7, .ref a8, .ref a13, .int v19, .int v20])), (a1, .inr (1, [.ref a2, .int v1, .int v2])), (a2, .inl (cT 0, 4096, .inl f0)), (a3, .inr (1, [.ref a4, .int v4, .int v5])), (a4, .inl (cT 0, 4096, .inl f3)), (a5, .inr (1, [.ref a6, .int v7, .int v8])), (a6, .inl (cT 0, 4096, .inl f6)), (a7, .inl (cT 3, 8, .inr (.inr (.inr (.inr rf0))))), (a8, .inr (3, [.ref a9, .ref a10, .ref p11, .ref p13, .int v15])), (a9, .inl (cT 1, 2048, .inl f9)), (a10, .inl (cT 1, 2048, .inl f10)), (p11, .inl (cT 1, 2048, .inl f12)), (p13, .inl (cT 1, 2048, .inl f14)), (a13, .inr (2, [.ref a14, .int v17, .int v18])), (a14, .inl (cT 2, 4096, .inr (.inl f16))), (a15, .inl (cT 2, 1, .inr (.inl f21)))] s.heap.size = A at hD hZ ⊢
  have hA : ∀ q : Nat, s.heap.size ≤ q → A q := fun q h => by rw [← hAe]; exact Or.inr h
  have hS : va_S A s.heap s.heap [] := va_S.rf
  have hP : va_P D xcl [(a0, .inr (0, [.ref a1, .ref a3, .ref a5, .ref a7, .ref a8, .ref a13, .int v19, .int v20])), (a1, .inr (1, [.ref a2, .int v1, .int v2])), (a2, .inl (cT 0, 4096, .inl f0)), (a3, .inr (1, [.ref a4, .int v4, .int v5])), (a4, .inl (cT 0, 4096, .inl f3)), (a5, .inr (1, [.ref a6, .int v7, .int v8])), (a6, .inl (cT 0, 4096, .inl f6)), (a7, .inl (cT 3, 8, .inr (.inr (.inr (.inr rf0))))), (a8, .inr (3, [.ref a9, .ref a10, .ref p11, .ref p13, .int v15])), (a9, .inl (cT 1, 2048, .inl f9)), (a10, .inl (cT 1, 2048, .inl f10)), (p11, .inl (cT 1, 2048, .inl f12)), (p13, .inl (cT 1, 2048, .inl f14)), (a13, .inr (2, [.ref a14, .int v17, .int v18])), (a14, .inl (cT 2, 4096, .inr (.inl f16))), (a15, .inl (cT 2, 1, .inr (.inl f21)))] s.heap := hP
  have hl := lv_entry ([.ref a0, .int x1, .ref a15]) (n := 4) (Nat.le_of_ble_eq_true rfl)
  rw [lg_entry_eq]
  generalize (lg_sl ([.ref a0, .int x1, .ref a15]) ++ List.replicate (4 - (lg_sl ([.ref a0, .int x1, .ref a15])).length) Slot.unset).toArray = ls at hl ⊢
  have hl : lv_has ls 4 [(0, .ref a0), (1, .int x1), (2, .ref a15)] := hl
  have htab := vx_table (x := yL_end) B (hts _ List.mem_cons_self)
  unfold fL_end at hf
  refine lv_aload_n hx hb dL_end_0 rfl (lv_at hl 2 rfl) ?_
  refine lv_iconst (v := 0) hx hb dL_end_1 (by decide) ?_
  refine lv_aload_n hx hb dL_end_2 rfl (lv_at hl 0 rfl) ?_
  refine lv_iload_n hx hb dL_end_3 rfl (lv_at hl 1 rfl) ?_
  obtain ⟨o1, hq2, hf⟩ := xbind hf
  by_cases hk3 : o1.1 = 0
  · rw [if_pos hk3] at hf
    obtain ⟨hPc, hDc, hFc⟩ := xcut (wc := [(a0, .inr (0, [.ref a1, .ref a3, .ref a5, .ref a7, .ref a8, .ref a13, .int v19, .int v20])), (a1, .inr (1, [.ref a2, .int v1, .int v2])), (a2, .inl (cT 0, 4096, .inl f0)), (a3, .inr (1, [.ref a4, .int v4, .int v5])), (a4, .inl (cT 0, 4096, .inl f3)), (a5, .inr (1, [.ref a6, .int v7, .int v8])), (a6, .inl (cT 0, 4096, .inl f6)), (a7, .inl (cT 3, 8, .inr (.inr (.inr (.inr rf0))))), (a8, .inr (3, [.ref a9, .ref a10, .ref p11, .ref p13, .int v15])), (a9, .inl (cT 1, 2048, .inl f9)), (a10, .inl (cT 1, 2048, .inl f10)), (p11, .inl (cT 1, 2048, .inl f12)), (p13, .inl (cT 1, 2048, .inl f14)), (a13, .inr (2, [.ref a14, .int v17, .int v18])), (a14, .inl (cT 2, 4096, .inr (.inl f16)))]) hP hD hS hA [0, 1, 2, 3, 4, 5, 6, 7, 8, 9, 10, 11, 12, 13, 14] rfl rfl (by decide)
    refine va_calli (va_runV (C := "ValueBench") (As := [.int x1]) (rest := [.int 0, .ref a15]) ⟨hx, hb, hml, hown, htx⟩ (gB_end l hl9 D cT aK aV s.heap.size n a0 a1 a2 a3 a4 a5 a6 a7 a8 a9 a10 a13 a14 rf0 x1 f0 v1 v2 f3 v4 v5 f6 v7 v8 f9 f10 p11 f12 p13 f14 v15 f16 v17 v18 v19 v20 o1 hq2 hk3) ⟨callB_of 1 htx (xw_goodC kw_1_215) rfl rfl rfl (htx _ kw_1_1) (htx _ kw_1_212) ⟨by decide, by decide, by decide +kernel⟩ ⟨Nat.le_of_ble_eq_true rfl, Nat.le_of_ble_eq_true rfl⟩, (htx _ kw_1_213), (htx _ kw_1_214)⟩ ⟨xPre_blind, va_recv hK hP (ci := 0) rfl (q0 := 0) rfl, (fun U hU hW => ⟨rfl, xPre_of hZ hS hFc hPc hDc hK U hU hW⟩)⟩ rfl rfl hl.1 rfl (lv_room (Nat.le_of_ble_eq_true rfl)) dL_end_4 ⟨Nat.le_of_ble_eq_true rfl, Nat.le_of_ble_eq_true rfl⟩) hS (fun q _ h => hFc q h) hFc (fun r4 u9 t H1 locs ht hvm hr9 hB hz1 hk1 hS => ?_)
    obtain ⟨hP1, hK1, hD1⟩ := hB
    rw [ht] at hP1
    obtain ⟨hP, hD⟩ := xjoin (W := [(a15, .inl (cT 2, 1, .inr (.inl f21))), (a0, .inr (0, [.ref a1, .ref a3, .ref a5, .ref a7, .ref a8, .ref a13, .int v19, .int v20])), (a1, .inr (1, [.ref a2, .int o1.2.2, .int v2])), (a2, .inl (cT 0, 4096, .inl f0)), (a3, .inr (1, [.ref a4, .int v4, .int v5])), (a4, .inl (cT 0, 4096, .inl f3)), (a5, .inr (1, [.ref a6, .int v7, .int v8])), (a6, .inl (cT 0, 4096, .inl f6)), (a7, .inl (cT 3, 8, .inr (.inr (.inr (.inr rf0))))), (a8, .inr (3, [.ref a9, .ref a10, .ref p11, .ref p13, .int v15])), (a9, .inl (cT 1, 2048, .inl f9)), (a10, .inl (cT 1, 2048, .inl f10)), (p11, .inl (cT 1, 2048, .inl f12)), (p13, .inl (cT 1, 2048, .inl f14)), (a13, .inr (2, [.ref a14, .int v17, .int v18])), (a14, .inl (cT 2, 4096, .inr (.inl f16)))]) hP hD [0, 1, 2, 3, 4, 5, 6, 7, 8, 9, 10, 11, 12, 13, 14] [15] 1 rfl rfl (by decide) (by decide) hk1 hFc hP1 hD1
    generalize H1 = H at hP hS ⊢
    rw [hr9]
    refine W.eq (g2 := F0 m 7 ls [.int o1.2.1, .int 0, .ref a15]) rfl ?_
    refine lv_i2l hx hb dL_end_7 rfl ?_
    refine va_last hx hb hK hP hD hS 0 2 rfl rfl (show ¬ ((0 : Int32) < 0 ∨ 1 ≤ (0 : Int32).toNatClampNeg) by decide) dL_end_8 (fun H locs hP hD hS => ?_)
    obtain ⟨hP, hD⟩ : xPD D xcl A [(a15, .inl (cT 2, 1, .inr (.inl (vp_updL f21 0 o1.2.1.toInt64)))), (a0, .inr (0, [.ref a1, .ref a3, .ref a5, .ref a7, .ref a8, .ref a13, .int v19, .int v20])), (a1, .inr (1, [.ref a2, .int o1.2.2, .int v2])), (a2, .inl (cT 0, 4096, .inl f0)), (a3, .inr (1, [.ref a4, .int v4, .int v5])), (a4, .inl (cT 0, 4096, .inl f3)), (a5, .inr (1, [.ref a6, .int v7, .int v8])), (a6, .inl (cT 0, 4096, .inl f6)), (a7, .inl (cT 3, 8, .inr (.inr (.inr (.inr rf0))))), (a8, .inr (3, [.ref a9, .ref a10, .ref p11, .ref p13, .int v15])), (a9, .inl (cT 1, 2048, .inl f9)), (a10, .inl (cT 1, 2048, .inl f10)), (p11, .inl (cT 1, 2048, .inl f12)), (p13, .inl (cT 1, 2048, .inl f14)), (a13, .inr (2, [.ref a14, .int v17, .int v18])), (a14, .inl (cT 2, 4096, .inr (.inl f16)))] H := ⟨hP, hD⟩
    refine lv_goto (tgt := 15) hx hb dL_end_9 (by decide) ?_
    refine lv_iconst (v := 0) hx hb dL_end_15 (by decide) ?_
    obtain rfl := Option.some.inj hf
    obtain ⟨hP9, hD9⟩ := xsub (wc := [(a0, .inr (0, [.ref a1, .ref a3, .ref a5, .ref a7, .ref a8, .ref a13, .int v19, .int v20])), (a1, .inr (1, [.ref a2, .int o1.2.2, .int v2])), (a2, .inl (cT 0, 4096, .inl f0)), (a3, .inr (1, [.ref a4, .int v4, .int v5])), (a4, .inl (cT 0, 4096, .inl f3)), (a5, .inr (1, [.ref a6, .int v7, .int v8])), (a6, .inl (cT 0, 4096, .inl f6)), (a7, .inl (cT 3, 8, .inr (.inr (.inr (.inr rf0))))), (a8, .inr (3, [.ref a9, .ref a10, .ref p11, .ref p13, .int v15])), (a9, .inl (cT 1, 2048, .inl f9)), (a10, .inl (cT 1, 2048, .inl f10)), (p11, .inl (cT 1, 2048, .inl f12)), (p13, .inl (cT 1, 2048, .inl f14)), (a13, .inr (2, [.ref a14, .int v17, .int v18])), (a14, .inl (cT 2, 4096, .inr (.inl f16))), (a15, .inl (cT 2, 1, .inr (.inl (vp_updL f21 0 o1.2.1.toInt64))))]) hP hD [1, 2, 3, 4, 5, 6, 7, 8, 9, 10, 11, 12, 13, 14, 15, 0] rfl rfl (by decide)
    refine W.widen (k := 1) (n := 6) (Nat.le_of_ble_eq_true rfl) (Nat.le_of_ble_eq_true rfl) ?_
    exact W.iret (v := (0 : Int32)) hx hb hr (fun t ht hW => ⟨⟨(0 : Int32), (), rfl, rfl, by rw [ht]; exact hP9, va_K.moved hW.alike hK, hD9⟩, hS.F ht⟩) hS.2.2 dL_end_16
  rw [if_neg hk3] at hf
  by_cases hk5 : o1.1 = 1
  · rw [if_pos hk5] at hf
    obtain ⟨hPc, hDc, hFc⟩ := xcut (wc := [(a0, .inr (0, [.ref a1, .ref a3, .ref a5, .ref a7, .ref a8, .ref a13, .int v19, .int v20])), (a1, .inr (1, [.ref a2, .int v1, .int v2])), (a2, .inl (cT 0, 4096, .inl f0)), (a3, .inr (1, [.ref a4, .int v4, .int v5])), (a4, .inl (cT 0, 4096, .inl f3)), (a5, .inr (1, [.ref a6, .int v7, .int v8])), (a6, .inl (cT 0, 4096, .inl f6)), (a7, .inl (cT 3, 8, .inr (.inr (.inr (.inr rf0))))), (a8, .inr (3, [.ref a9, .ref a10, .ref p11, .ref p13, .int v15])), (a9, .inl (cT 1, 2048, .inl f9)), (a10, .inl (cT 1, 2048, .inl f10)), (p11, .inl (cT 1, 2048, .inl f12)), (p13, .inl (cT 1, 2048, .inl f14)), (a13, .inr (2, [.ref a14, .int v17, .int v18])), (a14, .inl (cT 2, 4096, .inr (.inl f16)))]) hP hD hS hA [0, 1, 2, 3, 4, 5, 6, 7, 8, 9, 10, 11, 12, 13, 14] rfl rfl (by decide)
    refine xx_thr (vx_runV (C := "ValueBench") (As := [.int x1]) (rest := [.int 0, .ref a15]) ⟨hx, hb, hml, hown, htx⟩ (gB_end_1 l hl9 D cT aK aV s.heap.size n a0 a1 a2 a3 a4 a5 a6 a7 a8 a9 a10 a13 a14 rf0 x1 f0 v1 v2 f3 v4 v5 f6 v7 v8 f9 f10 p11 f12 p13 f14 v15 f16 v17 v18 v19 v20 o1 hq2 hk5) ⟨callB_of 1 htx (xw_goodC kw_1_215) rfl rfl rfl (htx _ kw_1_1) (htx _ kw_1_212) ⟨by decide, by decide, by decide +kernel⟩ ⟨Nat.le_of_ble_eq_true rfl, Nat.le_of_ble_eq_true rfl⟩, (htx _ kw_1_213), (htx _ kw_1_214)⟩ ⟨xPre_blind, va_recv hK hP (ci := 0) rfl (q0 := 0) rfl, (fun U hU hW => ⟨rfl, xPre_of hZ hS hFc hPc hDc hK U hU hW⟩)⟩ rfl rfl hl.1 rfl (lv_room (Nat.le_of_ble_eq_true rfl)) dL_end_4 ⟨Nat.le_of_ble_eq_true rfl, Nat.le_of_ble_eq_true rfl⟩) hS hFc (fun q _ h => hFc q h) (fun E ce q9 u9 t H1 locs ht hvm _ hB hz1 hk1 hS hce hcv hcl => ?_)
    obtain ⟨rfl, hP1, hK1, hD1⟩ := hB
    rw [ht] at hP1
    obtain ⟨hP, hD⟩ := xjoin (W := [(a15, .inl (cT 2, 1, .inr (.inl f21))), (a0, .inr (0, [.ref a1, .ref a3, .ref a5, .ref a7, .ref a8, .ref a13, .int v19, .int v20])), (a1, .inr (1, [.ref a2, .int o1.2.2, .int v2])), (a2, .inl (cT 0, 4096, .inl f0)), (a3, .inr (1, [.ref a4, .int v4, .int v5])), (a4, .inl (cT 0, 4096, .inl f3)), (a5, .inr (1, [.ref a6, .int v7, .int v8])), (a6, .inl (cT 0, 4096, .inl f6)), (a7, .inl (cT 3, 8, .inr (.inr (.inr (.inr rf0))))), (a8, .inr (3, [.ref a9, .ref a10, .ref p11, .ref p13, .int v15])), (a9, .inl (cT 1, 2048, .inl f9)), (a10, .inl (cT 1, 2048, .inl f10)), (p11, .inl (cT 1, 2048, .inl f12)), (p13, .inl (cT 1, 2048, .inl f14)), (a13, .inr (2, [.ref a14, .int v17, .int v18])), (a14, .inl (cT 2, 4096, .inr (.inl f16)))]) hP hD [0, 1, 2, 3, 4, 5, 6, 7, 8, 9, 10, 11, 12, 13, 14] [15] 1 rfl rfl (by decide) (by decide) hk1 hFc hP1 hD1
    generalize H1 = H at hP hS hce ⊢
    refine vx_catch (own := "ValueBenchLaw") (name := "java/lang/IllegalArgumentException") (E := "java/lang/IllegalArgumentException") hown [] ⟨0, 9, 12, 19⟩ [] (by rw [htab]; rfl) (fun z hz => nomatch hz) (by decide) (by decide) (htx _ kw_1_211) ((hZ.2.2.2.2.2.1 "java/lang/IllegalArgumentException" (List.mem_of_getElem? (i := 1) rfl)).use rfl) hce hcv hcl ?_
    refine lv_astore_n (lv' := [(3, .ref q9), (0, .ref a0), (1, .int x1), (2, .ref a15)]) hx hb dL_end_12 rfl hl (by decide) rfl (fun ls hl => ?_)
    refine lv_iconst (v := 1) hx hb dL_end_13 (by decide) ?_
    obtain rfl := Option.some.inj hf
    obtain ⟨hP9, hD9⟩ := xsub (wc := [(a0, .inr (0, [.ref a1, .ref a3, .ref a5, .ref a7, .ref a8, .ref a13, .int v19, .int v20])), (a1, .inr (1, [.ref a2, .int o1.2.2, .int v2])), (a2, .inl (cT 0, 4096, .inl f0)), (a3, .inr (1, [.ref a4, .int v4, .int v5])), (a4, .inl (cT 0, 4096, .inl f3)), (a5, .inr (1, [.ref a6, .int v7, .int v8])), (a6, .inl (cT 0, 4096, .inl f6)), (a7, .inl (cT 3, 8, .inr (.inr (.inr (.inr rf0))))), (a8, .inr (3, [.ref a9, .ref a10, .ref p11, .ref p13, .int v15])), (a9, .inl (cT 1, 2048, .inl f9)), (a10, .inl (cT 1, 2048, .inl f10)), (p11, .inl (cT 1, 2048, .inl f12)), (p13, .inl (cT 1, 2048, .inl f14)), (a13, .inr (2, [.ref a14, .int v17, .int v18])), (a14, .inl (cT 2, 4096, .inr (.inl f16))), (a15, .inl (cT 2, 1, .inr (.inl f21)))]) hP hD [1, 2, 3, 4, 5, 6, 7, 8, 9, 10, 11, 12, 13, 14, 15, 0] rfl rfl (by decide)
    refine W.widen (k := 1) (n := 6) (Nat.le_of_ble_eq_true rfl) (Nat.le_of_ble_eq_true rfl) ?_
    exact W.iret (v := (1 : Int32)) hx hb hr (fun t ht hW => ⟨⟨(1 : Int32), (), rfl, rfl, by rw [ht]; exact hP9, va_K.moved hW.alike hK, hD9⟩, hS.F ht⟩) hS.2.2 dL_end_14
  rw [if_neg hk5] at hf
  exact nomatch hf
