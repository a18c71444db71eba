set_option maxHeartbeats 400000000 in
set_option maxRecDepth 100000 in
theorem gH_apply (l : Launch) (hl9 : l.stackTraces = false) (D : va_G) (cT : Nat → ClassId) (aK aV : Nat → Nat) (sz d n : Nat) (a0 : Nat) (a1 : Nat) (a2 : Nat) (a3 : Nat) (a4 : Nat) (a5 : Nat) (a6 : Nat) (a7 : Nat) (x0 : Int32) (f0 : Nat → Int64) (v1 : Int32) (v2 : Int32) (f3 : Nat → Int64) (v4 : Int32) (v5 : Int32) (f6 : Nat → Int32) (v7 : Int32) (v8 : Int32) (f9 : Nat → Int64) (v10 : Int32) (v11 : Int32) (out : Int32 × (Nat → Int32) × Int32 × Int32 × (Nat → Int64) × Int32 × Int32) (hf : fH_apply d n x0 f0 v1 v2 f3 v4 v5 f6 v7 v8 f9 v10 v11 = some out) : xMet l yH_apply wyH_apply (16 * d + 6) 0 0 (400 * d + 176) D cT aK aV sz [.int x0, .ref a0, .ref a2, .ref a4, .ref a6] [(a0, .inr (2, [.ref a1, .int v1, .int v2])), (a1, .inl (cT 2, 4096, .inr (.inl f0))), (a2, .inr (2, [.ref a3, .int v4, .int v5])), (a3, .inl (cT 2, 4096, .inr (.inl f3))), (a4, .inr (1, [.ref a5, .int v7, .int v8])), (a5, .inl (cT 0, 4096, .inl f6)), (a6, .inr (2, [.ref a7, .int v10, .int v11])), (a7, .inl (cT 2, 4096, .inr (.inl f9)))] (fun A => va_Qi (fun (r : Int32) (_ : Unit) => r = out.1) (fun _ t => xB D xcl cT A [(a0, .inr (2, [.ref a1, .int v1, .int v2])), (a1, .inl (cT 2, 4096, .inr (.inl f0))), (a2, .inr (2, [.ref a3, .int v4, .int v5])), (a3, .inl (cT 2, 4096, .inr (.inl f3))), (a4, .inr (1, [.ref a5, .int out.2.2.1, .int out.2.2.2.1])), (a5, .inl (cT 0, 4096, .inl out.2.1)), (a6, .inr (2, [.ref a7, .int out.2.2.2.2.2.1, .int out.2.2.2.2.2.2])), (a7, .inl (cT 2, 4096, .inr (.inl out.2.2.2.2.1)))] t) A) := by
  refine Met.ofW (cc := prog_5_method_2_code) (maxL := 5) (ret := (some .int)) (by decide) rfl ?_
  intro p e s m args below meth c s₁ B hml hv
  obtain ⟨rfl, hsz, hZ, hP, hK, hD0⟩ := hv
  have hx := B.exec
  have hb := B.bytes
  have hr := B.returns
  have hts := atoms_spec (ws := wyH_apply) B.pre
  have htx := fun w h => hts w (List.mem_cons_of_mem _ h)
  have hown : s.vm.findClass "ValueBench$Pairs" = some m.cls := findClass_of_methodNamed B.named
  have hlocks := B.notSynchronized
  subst hsz
  have hD := hD0.self (sz := s.heap.size)
  generalize hAe : va_A [(a0, .inr (2, [.ref a1, .int v1, .int v2])), (a1, .inl (cT 2, 4096, .inr (.inl f0))), (a2, .inr (2, [.ref a3, .int v4, .int v5])), (a3, .inl (cT 2, 4096, .inr (.inl f3))), (a4, .inr (1, [.ref a5, .int v7, .int v8])), (a5, .inl (cT 0, 4096, .inl f6)), (a6, .inr (2, [.ref a7, .int v10, .int v11])), (a7, .inl (cT 2, 4096, .inr (.inl f9)))] s.heap.size = A at hD hZ ⊢
  have hA : ∀ q : Nat, s.heap.size ≤ q → A q := fun q h => by rw [← hAe]; exact Or.inr h
  have hS : va_S A s.heap s.heap [] := va_S.rf
  have hP : va_P D xcl [(a0, .inr (2, [.ref a1, .int v1, .int v2])), (a1, .inl (cT 2, 4096, .inr (.inl f0))), (a2, .inr (2, [.ref a3, .int v4, .int v5])), (a3, .inl (cT 2, 4096, .inr (.inl f3))), (a4, .inr (1, [.ref a5, .int v7, .int v8])), (a5, .inl (cT 0, 4096, .inl f6)), (a6, .inr (2, [.ref a7, .int v10, .int v11])), (a7, .inl (cT 2, 4096, .inr (.inl f9)))] s.heap := hP
  have hl := lv_entry ([.int x0, .ref a0, .ref a2, .ref a4, .ref a6]) (n := 5) (Nat.le_of_ble_eq_true rfl)
  rw [lg_entry_eq]
  generalize (lg_sl ([.int x0, .ref a0, .ref a2, .ref a4, .ref a6]) ++ List.replicate (5 - (lg_sl ([.int x0, .ref a0, .ref a2, .ref a4, .ref a6])).length) Slot.unset).toArray = ls at hl ⊢
  have hl : lv_has ls 5 [(0, .int x0), (1, .ref a0), (2, .ref a2), (3, .ref a4), (4, .ref a6)] := hl
  unfold fH_apply at hf
  refine lv_iload_n hx hb dH_apply_0 rfl (lv_at hl 0 rfl) ?_
  by_cases hc1 : x0 = 0
  · rw [if_pos hc1] at hf
    refine lv_tableIn (off := 51) (tgt := 52) hx hb dH_apply_1 (by rw [hc1]; decide) (by rw [hc1]; decide) (by rw [hc1]; decide) (by decide) ?_
    refine lv_aload_n hx hb dH_apply_52 rfl (lv_at hl 1 rfl) ?_
    refine lv_aload_n hx hb dH_apply_53 rfl (lv_at hl 2 rfl) ?_
    refine lv_aload hx hb dH_apply_54 (lv_at hl 4 rfl) ?_
    obtain ⟨o2, hq3, hf⟩ := xbind hf
    obtain ⟨hPc, hDc, hFc⟩ := xcut (wc := [(a0, .inr (2, [.ref a1, .int v1, .int v2])), (a1, .inl (cT 2, 4096, .inr (.inl f0))), (a2, .inr (2, [.ref a3, .int v4, .int v5])), (a3, .inl (cT 2, 4096, .inr (.inl f3))), (a6, .inr (2, [.ref a7, .int v10, .int v11])), (a7, .inl (cT 2, 4096, .inr (.inl f9)))]) hP hD hS hA [0, 1, 2, 3, 6, 7] rfl rfl (by decide)
    refine va_calli (va_runS (As := [.ref a0, .ref a2, .ref a6]) (rest := []) ⟨hx, hb, hml, hown, htx⟩ (gH_has l hl9 D cT aK aV s.heap.size n a0 a1 a2 a3 a6 a7 f0 v1 v2 f3 v4 v5 f9 v10 v11 o2 hq3) ⟨callB_of 3 htx (xw_goodC kw_4_149) rfl rfl rfl (htx _ kw_1_27) (htx _ kw_4_147) ⟨by decide, by decide, by decide +kernel⟩ ⟨Nat.le_of_ble_eq_true rfl, Nat.le_of_ble_eq_true rfl⟩, htx _ kw_4_148⟩ ⟨xPre_blind, (fun U hU hW => ⟨rfl, xPre_of hZ hS hFc hPc hDc hK U hU hW⟩)⟩ rfl rfl hl.1 rfl (lv_room (Nat.le_of_ble_eq_true rfl)) dH_apply_56 ⟨Nat.le_of_ble_eq_true rfl, Nat.le_of_ble_eq_true rfl⟩) hS (fun q _ h => hFc q h) hFc (fun r4 u9 t H1 locs ht hvm hr9 hB hz1 hk1 hS => ?_)
    obtain ⟨hP1, hK1, hD1⟩ := hB
    rw [ht] at hP1
    obtain ⟨hP, hD⟩ := xjoin (W := [(a4, .inr (1, [.ref a5, .int v7, .int v8])), (a5, .inl (cT 0, 4096, .inl f6)), (a0, .inr (2, [.ref a1, .int v1, .int v2])), (a1, .inl (cT 2, 4096, .inr (.inl f0))), (a2, .inr (2, [.ref a3, .int v4, .int v5])), (a3, .inl (cT 2, 4096, .inr (.inl f3))), (a6, .inr (2, [.ref a7, .int o2.2.2.1, .int o2.2.2.2])), (a7, .inl (cT 2, 4096, .inr (.inl o2.2.1)))]) hP hD [0, 1, 2, 3, 6, 7] [4, 5] 2 rfl rfl (by decide) (by decide) hk1 hFc hP1 hD1
    generalize H1 = H at hP hS ⊢
    rw [hr9]
    refine W.eq (g2 := F0 m 59 ls [.int o2.1]) rfl ?_
    obtain rfl := Option.some.inj hf
    obtain ⟨hP9, hD9⟩ := xsub (wc := [(a0, .inr (2, [.ref a1, .int v1, .int v2])), (a1, .inl (cT 2, 4096, .inr (.inl f0))), (a2, .inr (2, [.ref a3, .int v4, .int v5])), (a3, .inl (cT 2, 4096, .inr (.inl f3))), (a4, .inr (1, [.ref a5, .int v7, .int v8])), (a5, .inl (cT 0, 4096, .inl f6)), (a6, .inr (2, [.ref a7, .int o2.2.2.1, .int o2.2.2.2])), (a7, .inl (cT 2, 4096, .inr (.inl o2.2.1)))]) hP hD [2, 3, 4, 5, 0, 1, 6, 7] rfl rfl (by decide)
    exact W.iret (v := o2.1) hx hb hr (fun t ht hW => ⟨⟨o2.1, (), rfl, rfl, by rw [ht]; exact hP9, va_K.moved hW.alike hK, hD9⟩, hS.F ht⟩) hS.2.2 dH_apply_59
  rw [if_neg hc1] at hf
  by_cases hc5 : x0 = 1
  · rw [if_pos hc5] at hf
    refine lv_tableIn (off := 59) (tgt := 60) hx hb dH_apply_1 (by rw [hc5]; decide) (by rw [hc5]; decide) (by rw [hc5]; decide) (by decide) ?_
    refine lv_aload_n hx hb dH_apply_60 rfl (lv_at hl 1 rfl) ?_
    refine lv_aload_n hx hb dH_apply_61 rfl (lv_at hl 2 rfl) ?_
    refine lv_aload hx hb dH_apply_62 (lv_at hl 4 rfl) ?_
    obtain ⟨o6, hq7, hf⟩ := xbind hf
    obtain ⟨hPc, hDc, hFc⟩ := xcut (wc := [(a0, .inr (2, [.ref a1, .int v1, .int v2])), (a1, .inl (cT 2, 4096, .inr (.inl f0))), (a2, .inr (2, [.ref a3, .int v4, .int v5])), (a3, .inl (cT 2, 4096, .inr (.inl f3))), (a6, .inr (2, [.ref a7, .int v10, .int v11])), (a7, .inl (cT 2, 4096, .inr (.inl f9)))]) hP hD hS hA [0, 1, 2, 3, 6, 7] rfl rfl (by decide)
    refine va_calli (va_runS (As := [.ref a0, .ref a2, .ref a6]) (rest := []) ⟨hx, hb, hml, hown, htx⟩ (gH_contains l hl9 D cT aK aV s.heap.size d n a0 a1 a2 a3 a6 a7 f0 v1 v2 f3 v4 v5 f9 v10 v11 o6 hq7) ⟨callB_of 3 htx (xw_goodC kw_4_160) rfl rfl rfl (htx _ kw_1_27) (htx _ kw_4_158) ⟨by decide, by decide, by decide +kernel⟩ ⟨(by show (16 * d + 3) + 1 ≤ 16 * d + 6; omega), (by show 8 + (3 + 11) + (400 * d + 64) ≤ 400 * d + 176; omega)⟩, htx _ kw_4_159⟩ ⟨xPre_blind, (fun U hU hW => ⟨rfl, xPre_of hZ hS hFc hPc hDc hK U hU hW⟩)⟩ rfl rfl hl.1 rfl (lv_room (Nat.le_of_ble_eq_true rfl)) dH_apply_64 ⟨Nat.le_of_ble_eq_true rfl, Nat.le_of_ble_eq_true rfl⟩) hS (fun q _ h => hFc q h) hFc (fun r8 u9 t H1 locs ht hvm hr9 hB hz1 hk1 hS => ?_)
    obtain ⟨hP1, hK1, hD1⟩ := hB
    rw [ht] at hP1
    obtain ⟨hP, hD⟩ := xjoin (W := [(a4, .inr (1, [.ref a5, .int v7, .int v8])), (a5, .inl (cT 0, 4096, .inl f6)), (a0, .inr (2, [.ref a1, .int v1, .int v2])), (a1, .inl (cT 2, 4096, .inr (.inl f0))), (a2, .inr (2, [.ref a3, .int v4, .int v5])), (a3, .inl (cT 2, 4096, .inr (.inl f3))), (a6, .inr (2, [.ref a7, .int o6.2.2.1, .int o6.2.2.2])), (a7, .inl (cT 2, 4096, .inr (.inl o6.2.1)))]) hP hD [0, 1, 2, 3, 6, 7] [4, 5] 2 rfl rfl (by decide) (by decide) hk1 hFc hP1 hD1
    generalize H1 = H at hP hS ⊢
    rw [hr9]
    refine W.eq (g2 := F0 m 67 ls [.int o6.1]) rfl ?_
    obtain rfl := Option.some.inj hf
    obtain ⟨hP9, hD9⟩ := xsub (wc := [(a0, .inr (2, [.ref a1, .int v1, .int v2])), (a1, .inl (cT 2, 4096, .inr (.inl f0))), (a2, .inr (2, [.ref a3, .int v4, .int v5])), (a3, .inl (cT 2, 4096, .inr (.inl f3))), (a4, .inr (1, [.ref a5, .int v7, .int v8])), (a5, .inl (cT 0, 4096, .inl f6)), (a6, .inr (2, [.ref a7, .int o6.2.2.1, .int o6.2.2.2])), (a7, .inl (cT 2, 4096, .inr (.inl o6.2.1)))]) hP hD [2, 3, 4, 5, 0, 1, 6, 7] rfl rfl (by decide)
    exact W.iret (v := o6.1) hx hb hr (fun t ht hW => ⟨⟨o6.1, (), rfl, rfl, by rw [ht]; exact hP9, va_K.moved hW.alike hK, hD9⟩, hS.F ht⟩) hS.2.2 dH_apply_67
  rw [if_neg hc5] at hf
  by_cases hc9 : x0 = 2
  · rw [if_pos hc9] at hf
    refine lv_tableIn (off := 67) (tgt := 68) hx hb dH_apply_1 (by rw [hc9]; decide) (by rw [hc9]; decide) (by rw [hc9]; decide) (by decide) ?_
    refine lv_aload_n hx hb dH_apply_68 rfl (lv_at hl 1 rfl) ?_
    refine lv_aload_n hx hb dH_apply_69 rfl (lv_at hl 2 rfl) ?_
    refine lv_aload_n hx hb dH_apply_70 rfl (lv_at hl 3 rfl) ?_
    refine lv_aload hx hb dH_apply_71 (lv_at hl 4 rfl) ?_
    obtain ⟨o10, hq11, hf⟩ := xbind hf
    obtain ⟨hPc, hDc, hFc⟩ := xcut (wc := [(a0, .inr (2, [.ref a1, .int v1, .int v2])), (a1, .inl (cT 2, 4096, .inr (.inl f0))), (a2, .inr (2, [.ref a3, .int v4, .int v5])), (a3, .inl (cT 2, 4096, .inr (.inl f3))), (a4, .inr (1, [.ref a5, .int v7, .int v8])), (a5, .inl (cT 0, 4096, .inl f6)), (a6, .inr (2, [.ref a7, .int v10, .int v11])), (a7, .inl (cT 2, 4096, .inr (.inl f9)))]) hP hD hS hA [0, 1, 2, 3, 4, 5, 6, 7] rfl rfl (by decide)
    refine va_calli (va_runS (As := [.ref a0, .ref a2, .ref a4, .ref a6]) (rest := []) ⟨hx, hb, hml, hown, htx⟩ (gH_joined l hl9 D cT aK aV s.heap.size d n a0 a1 a2 a3 a4 a5 a6 a7 f0 v1 v2 f3 v4 v5 f6 v7 v8 f9 v10 v11 o10 hq11) ⟨callB_of 4 htx (xw_goodC kw_4_188) rfl rfl rfl (htx _ kw_1_27) (htx _ kw_4_186) ⟨by decide, by decide, by decide +kernel⟩ ⟨(by show (16 * d + 3) + 1 ≤ 16 * d + 6; omega), (by show 8 + (6 + 11) + (400 * d + 68) ≤ 400 * d + 176; omega)⟩, htx _ kw_4_187⟩ ⟨xPre_blind, (fun U hU hW => ⟨rfl, xPre_of hZ hS hFc hPc hDc hK U hU hW⟩)⟩ rfl rfl hl.1 rfl (lv_room (Nat.le_of_ble_eq_true rfl)) dH_apply_73 ⟨Nat.le_of_ble_eq_true rfl, Nat.le_of_ble_eq_true rfl⟩) hS (fun q _ h => hFc q h) hFc (fun r12 u9 t H1 locs ht hvm hr9 hB hz1 hk1 hS => ?_)
    obtain ⟨hP1, hK1, hD1⟩ := hB
    rw [ht] at hP1
    obtain ⟨hP, hD⟩ := xjoin (W := [(a0, .inr (2, [.ref a1, .int v1, .int v2])), (a1, .inl (cT 2, 4096, .inr (.inl f0))), (a2, .inr (2, [.ref a3, .int v4, .int v5])), (a3, .inl (cT 2, 4096, .inr (.inl f3))), (a4, .inr (1, [.ref a5, .int o10.2.2.1, .int o10.2.2.2.1])), (a5, .inl (cT 0, 4096, .inl o10.2.1)), (a6, .inr (2, [.ref a7, .int o10.2.2.2.2.2.1, .int o10.2.2.2.2.2.2])), (a7, .inl (cT 2, 4096, .inr (.inl o10.2.2.2.2.1)))]) hP hD [0, 1, 2, 3, 4, 5, 6, 7] [] 0 rfl rfl (by decide) (by decide) hk1 hFc hP1 hD1
    generalize H1 = H at hP hS ⊢
    rw [hr9]
    refine W.eq (g2 := F0 m 76 ls [.int o10.1]) rfl ?_
    obtain rfl := Option.some.inj hf
    obtain ⟨hP9, hD9⟩ := xsub (wc := [(a0, .inr (2, [.ref a1, .int v1, .int v2])), (a1, .inl (cT 2, 4096, .inr (.inl f0))), (a2, .inr (2, [.ref a3, .int v4, .int v5])), (a3, .inl (cT 2, 4096, .inr (.inl f3))), (a4, .inr (1, [.ref a5, .int o10.2.2.1, .int o10.2.2.2.1])), (a5, .inl (cT 0, 4096, .inl o10.2.1)), (a6, .inr (2, [.ref a7, .int o10.2.2.2.2.2.1, .int o10.2.2.2.2.2.2])), (a7, .inl (cT 2, 4096, .inr (.inl o10.2.2.2.2.1)))]) hP hD [0, 1, 2, 3, 4, 5, 6, 7] rfl rfl (by decide)
    exact W.iret (v := o10.1) hx hb hr (fun t ht hW => ⟨⟨o10.1, (), rfl, rfl, by rw [ht]; exact hP9, va_K.moved hW.alike hK, hD9⟩, hS.F ht⟩) hS.2.2 dH_apply_76
  rw [if_neg hc9] at hf
  by_cases hc13 : x0 = 3
  · rw [if_pos hc13] at hf
    refine lv_tableIn (off := 76) (tgt := 77) hx hb dH_apply_1 (by rw [hc13]; decide) (by rw [hc13]; decide) (by rw [hc13]; decide) (by decide) ?_
    refine lv_aload_n hx hb dH_apply_77 rfl (lv_at hl 1 rfl) ?_
    refine lv_aload_n hx hb dH_apply_78 rfl (lv_at hl 2 rfl) ?_
    refine lv_aload hx hb dH_apply_79 (lv_at hl 4 rfl) ?_
    obtain ⟨o14, hq15, hf⟩ := xbind hf
    obtain ⟨hPc, hDc, hFc⟩ := xcut (wc := [(a0, .inr (2, [.ref a1, .int v1, .int v2])), (a1, .inl (cT 2, 4096, .inr (.inl f0))), (a2, .inr (2, [.ref a3, .int v4, .int v5])), (a3, .inl (cT 2, 4096, .inr (.inl f3))), (a6, .inr (2, [.ref a7, .int v10, .int v11])), (a7, .inl (cT 2, 4096, .inr (.inl f9)))]) hP hD hS hA [0, 1, 2, 3, 6, 7] rfl rfl (by decide)
    refine va_calli (va_runS (As := [.ref a0, .ref a2, .ref a6]) (rest := []) ⟨hx, hb, hml, hown, htx⟩ (gH_withoutBeginning l hl9 D cT aK aV s.heap.size n a0 a1 a2 a3 a6 a7 f0 v1 v2 f3 v4 v5 f9 v10 v11 o14 hq15) ⟨callB_of 3 htx (xw_goodC kw_4_198) rfl rfl rfl (htx _ kw_1_27) (htx _ kw_4_196) ⟨by decide, by decide, by decide +kernel⟩ ⟨Nat.le_of_ble_eq_true rfl, Nat.le_of_ble_eq_true rfl⟩, htx _ kw_4_197⟩ ⟨xPre_blind, (fun U hU hW => ⟨rfl, xPre_of hZ hS hFc hPc hDc hK U hU hW⟩)⟩ rfl rfl hl.1 rfl (lv_room (Nat.le_of_ble_eq_true rfl)) dH_apply_81 ⟨Nat.le_of_ble_eq_true rfl, Nat.le_of_ble_eq_true rfl⟩) hS (fun q _ h => hFc q h) hFc (fun r16 u9 t H1 locs ht hvm hr9 hB hz1 hk1 hS => ?_)
    obtain ⟨hP1, hK1, hD1⟩ := hB
    rw [ht] at hP1
    obtain ⟨hP, hD⟩ := xjoin (W := [(a4, .inr (1, [.ref a5, .int v7, .int v8])), (a5, .inl (cT 0, 4096, .inl f6)), (a0, .inr (2, [.ref a1, .int v1, .int v2])), (a1, .inl (cT 2, 4096, .inr (.inl f0))), (a2, .inr (2, [.ref a3, .int v4, .int v5])), (a3, .inl (cT 2, 4096, .inr (.inl f3))), (a6, .inr (2, [.ref a7, .int o14.2.2.1, .int o14.2.2.2])), (a7, .inl (cT 2, 4096, .inr (.inl o14.2.1)))]) hP hD [0, 1, 2, 3, 6, 7] [4, 5] 2 rfl rfl (by decide) (by decide) hk1 hFc hP1 hD1
    generalize H1 = H at hP hS ⊢
    rw [hr9]
    refine W.eq (g2 := F0 m 84 ls [.int o14.1]) rfl ?_
    obtain rfl := Option.some.inj hf
    obtain ⟨hP9, hD9⟩ := xsub (wc := [(a0, .inr (2, [.ref a1, .int v1, .int v2])), (a1, .inl (cT 2, 4096, .inr (.inl f0))), (a2, .inr (2, [.ref a3, .int v4, .int v5])), (a3, .inl (cT 2, 4096, .inr (.inl f3))), (a4, .inr (1, [.ref a5, .int v7, .int v8])), (a5, .inl (cT 0, 4096, .inl f6)), (a6, .inr (2, [.ref a7, .int o14.2.2.1, .int o14.2.2.2])), (a7, .inl (cT 2, 4096, .inr (.inl o14.2.1)))]) hP hD [2, 3, 4, 5, 0, 1, 6, 7] rfl rfl (by decide)
    exact W.iret (v := o14.1) hx hb hr (fun t ht hW => ⟨⟨o14.1, (), rfl, rfl, by rw [ht]; exact hP9, va_K.moved hW.alike hK, hD9⟩, hS.F ht⟩) hS.2.2 dH_apply_84
  rw [if_neg hc13] at hf
  by_cases hc17 : x0 = 4
  · rw [if_pos hc17] at hf
    refine lv_tableIn (off := 84) (tgt := 85) hx hb dH_apply_1 (by rw [hc17]; decide) (by rw [hc17]; decide) (by rw [hc17]; decide) (by decide) ?_
    refine lv_aload_n hx hb dH_apply_85 rfl (lv_at hl 1 rfl) ?_
    refine lv_aload_n hx hb dH_apply_86 rfl (lv_at hl 2 rfl) ?_
    refine lv_aload hx hb dH_apply_87 (lv_at hl 4 rfl) ?_
    obtain ⟨o18, hq19, hf⟩ := xbind hf
    obtain ⟨hPc, hDc, hFc⟩ := xcut (wc := [(a0, .inr (2, [.ref a1, .int v1, .int v2])), (a1, .inl (cT 2, 4096, .inr (.inl f0))), (a2, .inr (2, [.ref a3, .int v4, .int v5])), (a3, .inl (cT 2, 4096, .inr (.inl f3))), (a6, .inr (2, [.ref a7, .int v10, .int v11])), (a7, .inl (cT 2, 4096, .inr (.inl f9)))]) hP hD hS hA [0, 1, 2, 3, 6, 7] rfl rfl (by decide)
    refine va_calli (va_runS (As := [.ref a0, .ref a2, .ref a6]) (rest := []) ⟨hx, hb, hml, hown, htx⟩ (gH_withoutEnd l hl9 D cT aK aV s.heap.size n a0 a1 a2 a3 a6 a7 f0 v1 v2 f3 v4 v5 f9 v10 v11 o18 hq19) ⟨callB_of 3 htx (xw_goodC kw_4_212) rfl rfl rfl (htx _ kw_1_27) (htx _ kw_4_210) ⟨by decide, by decide, by decide +kernel⟩ ⟨Nat.le_of_ble_eq_true rfl, Nat.le_of_ble_eq_true rfl⟩, htx _ kw_4_211⟩ ⟨xPre_blind, (fun U hU hW => ⟨rfl, xPre_of hZ hS hFc hPc hDc hK U hU hW⟩)⟩ rfl rfl hl.1 rfl (lv_room (Nat.le_of_ble_eq_true rfl)) dH_apply_89 ⟨Nat.le_of_ble_eq_true rfl, Nat.le_of_ble_eq_true rfl⟩) hS (fun q _ h => hFc q h) hFc (fun r20 u9 t H1 locs ht hvm hr9 hB hz1 hk1 hS => ?_)
    obtain ⟨hP1, hK1, hD1⟩ := hB
    rw [ht] at hP1
    obtain ⟨hP, hD⟩ := xjoin (W := [(a4, .inr (1, [.ref a5, .int v7, .int v8])), (a5, .inl (cT 0, 4096, .inl f6)), (a0, .inr (2, [.ref a1, .int v1, .int v2])), (a1, .inl (cT 2, 4096, .inr (.inl f0))), (a2, .inr (2, [.ref a3, .int v4, .int v5])), (a3, .inl (cT 2, 4096, .inr (.inl f3))), (a6, .inr (2, [.ref a7, .int o18.2.2.1, .int o18.2.2.2])), (a7, .inl (cT 2, 4096, .inr (.inl o18.2.1)))]) hP hD [0, 1, 2, 3, 6, 7] [4, 5] 2 rfl rfl (by decide) (by decide) hk1 hFc hP1 hD1
    generalize H1 = H at hP hS ⊢
    rw [hr9]
    refine W.eq (g2 := F0 m 92 ls [.int o18.1]) rfl ?_
    obtain rfl := Option.some.inj hf
    obtain ⟨hP9, hD9⟩ := xsub (wc := [(a0, .inr (2, [.ref a1, .int v1, .int v2])), (a1, .inl (cT 2, 4096, .inr (.inl f0))), (a2, .inr (2, [.ref a3, .int v4, .int v5])), (a3, .inl (cT 2, 4096, .inr (.inl f3))), (a4, .inr (1, [.ref a5, .int v7, .int v8])), (a5, .inl (cT 0, 4096, .inl f6)), (a6, .inr (2, [.ref a7, .int o18.2.2.1, .int o18.2.2.2])), (a7, .inl (cT 2, 4096, .inr (.inl o18.2.1)))]) hP hD [2, 3, 4, 5, 0, 1, 6, 7] rfl rfl (by decide)
    exact W.iret (v := o18.1) hx hb hr (fun t ht hW => ⟨⟨o18.1, (), rfl, rfl, by rw [ht]; exact hP9, va_K.moved hW.alike hK, hD9⟩, hS.F ht⟩) hS.2.2 dH_apply_92
  rw [if_neg hc17] at hf
  by_cases hc21 : x0 = 5
  · rw [if_pos hc21] at hf
    refine lv_tableIn (off := 92) (tgt := 93) hx hb dH_apply_1 (by rw [hc21]; decide) (by rw [hc21]; decide) (by rw [hc21]; decide) (by decide) ?_
    refine lv_aload_n hx hb dH_apply_93 rfl (lv_at hl 1 rfl) ?_
    refine lv_aload_n hx hb dH_apply_94 rfl (lv_at hl 2 rfl) ?_
    obtain ⟨o22, hq23, hf⟩ := xbind hf
    obtain ⟨hPc, hDc, hFc⟩ := xcut (wc := [(a0, .inr (2, [.ref a1, .int v1, .int v2])), (a1, .inl (cT 2, 4096, .inr (.inl f0))), (a2, .inr (2, [.ref a3, .int v4, .int v5])), (a3, .inl (cT 2, 4096, .inr (.inl f3)))]) hP hD hS hA [0, 1, 2, 3] rfl rfl (by decide)
    refine va_calli (va_runS (As := [.ref a0, .ref a2]) (rest := []) ⟨hx, hb, hml, hown, htx⟩ (gH_areStrings l hl9 D cT aK aV s.heap.size n a0 a1 a2 a3 f0 v1 v2 f3 v4 v5 o22 hq23) ⟨callB_of 2 htx (xw_goodC kw_4_201) rfl rfl rfl (htx _ kw_1_27) (htx _ kw_4_199) ⟨by decide, by decide, by decide +kernel⟩ ⟨Nat.le_of_ble_eq_true rfl, Nat.le_of_ble_eq_true rfl⟩, htx _ kw_4_200⟩ ⟨xPre_blind, (fun U hU hW => ⟨rfl, xPre_of hZ hS hFc hPc hDc hK U hU hW⟩)⟩ rfl rfl hl.1 rfl (lv_room (Nat.le_of_ble_eq_true rfl)) dH_apply_95 ⟨Nat.le_of_ble_eq_true rfl, Nat.le_of_ble_eq_true rfl⟩) hS (fun q _ h => hFc q h) hFc (fun r24 u9 t H1 locs ht hvm hr9 hB hz1 hk1 hS => ?_)
    obtain ⟨hP1, hK1, hD1⟩ := hB
    rw [ht] at hP1
    obtain ⟨hP, hD⟩ := xjoin (W := [(a4, .inr (1, [.ref a5, .int v7, .int v8])), (a5, .inl (cT 0, 4096, .inl f6)), (a6, .inr (2, [.ref a7, .int v10, .int v11])), (a7, .inl (cT 2, 4096, .inr (.inl f9))), (a0, .inr (2, [.ref a1, .int v1, .int v2])), (a1, .inl (cT 2, 4096, .inr (.inl f0))), (a2, .inr (2, [.ref a3, .int v4, .int v5])), (a3, .inl (cT 2, 4096, .inr (.inl f3)))]) hP hD [0, 1, 2, 3] [4, 5, 6, 7] 4 rfl rfl (by decide) (by decide) hk1 hFc hP1 hD1
    generalize H1 = H at hP hS ⊢
    rw [hr9]
    refine W.eq (g2 := F0 m 98 ls [.int o22]) rfl ?_
    refine lv_if_eq (tgt := 114) hx hb dH_apply_98 (by decide) (fun hc => ?_) (fun hc => ?_)
    · rw [if_pos hc] at hf
      refine lv_iconst (v := 1) hx hb dH_apply_114 (by decide) ?_
      obtain rfl := Option.some.inj hf
      obtain ⟨hP9, hD9⟩ := xsub (wc := [(a0, .inr (2, [.ref a1, .int v1, .int v2])), (a1, .inl (cT 2, 4096, .inr (.inl f0))), (a2, .inr (2, [.ref a3, .int v4, .int v5])), (a3, .inl (cT 2, 4096, .inr (.inl f3))), (a4, .inr (1, [.ref a5, .int v7, .int v8])), (a5, .inl (cT 0, 4096, .inl f6)), (a6, .inr (2, [.ref a7, .int v10, .int v11])), (a7, .inl (cT 2, 4096, .inr (.inl f9)))]) hP hD [4, 5, 6, 7, 0, 1, 2, 3] rfl rfl (by decide)
      exact W.iret (v := (1 : Int32)) hx hb hr (fun t ht hW => ⟨⟨(1 : Int32), (), rfl, rfl, by rw [ht]; exact hP9, va_K.moved hW.alike hK, hD9⟩, hS.F ht⟩) hS.2.2 dH_apply_115
    · rw [if_neg hc] at hf
      refine lv_aload_n hx hb dH_apply_101 rfl (lv_at hl 1 rfl) ?_
      refine lv_aload_n hx hb dH_apply_102 rfl (lv_at hl 2 rfl) ?_
      obtain ⟨o25, hq26, hf⟩ := xbind hf
      obtain ⟨hPc, hDc, hFc⟩ := xcut (wc := [(a0, .inr (2, [.ref a1, .int v1, .int v2])), (a1, .inl (cT 2, 4096, .inr (.inl f0))), (a2, .inr (2, [.ref a3, .int v4, .int v5])), (a3, .inl (cT 2, 4096, .inr (.inl f3)))]) hP hD hS hA [4, 5, 6, 7] rfl rfl (by decide)
      refine va_calli (va_runS (As := [.ref a0, .ref a2]) (rest := []) ⟨hx, hb, hml, hown, htx⟩ (gH_begins l hl9 D cT aK aV H.size n a0 a1 a2 a3 f0 v1 v2 f3 v4 v5 o25 hq26) ⟨callB_of 2 htx (xw_goodC kw_4_204) rfl rfl rfl (htx _ kw_1_27) (htx _ kw_4_202) ⟨by decide, by decide, by decide +kernel⟩ ⟨Nat.le_of_ble_eq_true rfl, Nat.le_of_ble_eq_true rfl⟩, htx _ kw_4_203⟩ ⟨xPre_blind, (fun U hU hW => ⟨rfl, xPre_of hZ hS hFc hPc hDc hK U hU hW⟩)⟩ rfl rfl hl.1 rfl (lv_room (Nat.le_of_ble_eq_true rfl)) dH_apply_103 ⟨Nat.le_of_ble_eq_true rfl, Nat.le_of_ble_eq_true rfl⟩) hS (fun q _ h => hFc q h) hFc (fun r27 u9 t H1 locs ht hvm hr9 hB hz1 hk1 hS => ?_)
      obtain ⟨hP1, hK1, hD1⟩ := hB
      rw [ht] at hP1
      obtain ⟨hP, hD⟩ := xjoin (W := [(a4, .inr (1, [.ref a5, .int v7, .int v8])), (a5, .inl (cT 0, 4096, .inl f6)), (a6, .inr (2, [.ref a7, .int v10, .int v11])), (a7, .inl (cT 2, 4096, .inr (.inl f9))), (a0, .inr (2, [.ref a1, .int v1, .int v2])), (a1, .inl (cT 2, 4096, .inr (.inl f0))), (a2, .inr (2, [.ref a3, .int v4, .int v5])), (a3, .inl (cT 2, 4096, .inr (.inl f3)))]) hP hD [4, 5, 6, 7] [0, 1, 2, 3] 4 rfl rfl (by decide) (by decide) hk1 hFc hP1 hD1
      generalize H1 = H at hP hS ⊢
      rw [hr9]
      refine W.eq (g2 := F0 m 106 ls [.int o25]) rfl ?_
      refine lv_aload hx hb dH_apply_106 (lv_at hl 4 rfl) ?_
      obtain ⟨o28, hq29, hf⟩ := xbind hf
      obtain ⟨hPc, hDc, hFc⟩ := xcut (wc := [(a6, .inr (2, [.ref a7, .int v10, .int v11])), (a7, .inl (cT 2, 4096, .inr (.inl f9)))]) hP hD hS hA [2, 3] rfl rfl (by decide)
      refine va_calli (va_runS (As := [.int o25, .ref a6]) (rest := []) ⟨hx, hb, hml, hown, htx⟩ (gH_truth l hl9 D cT aK aV H.size n a6 a7 o25 f9 v10 v11 o28 hq29) ⟨callB_of 2 htx (xw_goodC kw_4_154) rfl rfl rfl (htx _ kw_1_27) (htx _ kw_4_152) ⟨by decide, by decide, by decide +kernel⟩ ⟨Nat.le_of_ble_eq_true rfl, Nat.le_of_ble_eq_true rfl⟩, htx _ kw_4_153⟩ ⟨xPre_blind, (fun U hU hW => ⟨rfl, xPre_of hZ hS hFc hPc hDc hK U hU hW⟩)⟩ rfl rfl hl.1 rfl (lv_room (Nat.le_of_ble_eq_true rfl)) dH_apply_108 ⟨Nat.le_of_ble_eq_true rfl, Nat.le_of_ble_eq_true rfl⟩) hS (fun q _ h => hFc q h) hFc (fun r30 u9 t H1 locs ht hvm hr9 hB hz1 hk1 hS => ?_)
      obtain ⟨hP1, hK1, hD1⟩ := hB
      rw [ht] at hP1
      obtain ⟨hP, hD⟩ := xjoin (W := [(a4, .inr (1, [.ref a5, .int v7, .int v8])), (a5, .inl (cT 0, 4096, .inl f6)), (a0, .inr (2, [.ref a1, .int v1, .int v2])), (a1, .inl (cT 2, 4096, .inr (.inl f0))), (a2, .inr (2, [.ref a3, .int v4, .int v5])), (a3, .inl (cT 2, 4096, .inr (.inl f3))), (a6, .inr (2, [.ref a7, .int o28.2.2.1, .int o28.2.2.2])), (a7, .inl (cT 2, 4096, .inr (.inl o28.2.1)))]) hP hD [2, 3] [0, 1, 4, 5, 6, 7] 6 rfl rfl (by decide) (by decide) hk1 hFc hP1 hD1
      generalize H1 = H at hP hS ⊢
      rw [hr9]
      refine W.eq (g2 := F0 m 111 ls [.int o28.1]) rfl ?_
      refine lv_goto (tgt := 115) hx hb dH_apply_111 (by decide) ?_
      obtain rfl := Option.some.inj hf
      obtain ⟨hP9, hD9⟩ := xsub (wc := [(a0, .inr (2, [.ref a1, .int v1, .int v2])), (a1, .inl (cT 2, 4096, .inr (.inl f0))), (a2, .inr (2, [.ref a3, .int v4, .int v5])), (a3, .inl (cT 2, 4096, .inr (.inl f3))), (a4, .inr (1, [.ref a5, .int v7, .int v8])), (a5, .inl (cT 0, 4096, .inl f6)), (a6, .inr (2, [.ref a7, .int o28.2.2.1, .int o28.2.2.2])), (a7, .inl (cT 2, 4096, .inr (.inl o28.2.1)))]) hP hD [2, 3, 4, 5, 0, 1, 6, 7] rfl rfl (by decide)
      exact W.iret (v := o28.1) hx hb hr (fun t ht hW => ⟨⟨o28.1, (), rfl, rfl, by rw [ht]; exact hP9, va_K.moved hW.alike hK, hD9⟩, hS.F ht⟩) hS.2.2 dH_apply_115
  rw [if_neg hc21] at hf
  by_cases hc25 : x0 = 6
  · rw [if_pos hc25] at hf
    refine lv_tableIn (off := 115) (tgt := 116) hx hb dH_apply_1 (by rw [hc25]; decide) (by rw [hc25]; decide) (by rw [hc25]; decide) (by decide) ?_
    refine lv_aload_n hx hb dH_apply_116 rfl (lv_at hl 1 rfl) ?_
    refine lv_aload_n hx hb dH_apply_117 rfl (lv_at hl 2 rfl) ?_
    obtain ⟨o26, hq27, hf⟩ := xbind hf
    obtain ⟨hPc, hDc, hFc⟩ := xcut (wc := [(a0, .inr (2, [.ref a1, .int v1, .int v2])), (a1, .inl (cT 2, 4096, .inr (.inl f0))), (a2, .inr (2, [.ref a3, .int v4, .int v5])), (a3, .inl (cT 2, 4096, .inr (.inl f3)))]) hP hD hS hA [0, 1, 2, 3] rfl rfl (by decide)
    refine va_calli (va_runS (As := [.ref a0, .ref a2]) (rest := []) ⟨hx, hb, hml, hown, htx⟩ (gH_areStrings l hl9 D cT aK aV s.heap.size n a0 a1 a2 a3 f0 v1 v2 f3 v4 v5 o26 hq27) ⟨callB_of 2 htx (xw_goodC kw_4_201) rfl rfl rfl (htx _ kw_1_27) (htx _ kw_4_199) ⟨by decide, by decide, by decide +kernel⟩ ⟨Nat.le_of_ble_eq_true rfl, Nat.le_of_ble_eq_true rfl⟩, htx _ kw_4_200⟩ ⟨xPre_blind, (fun U hU hW => ⟨rfl, xPre_of hZ hS hFc hPc hDc hK U hU hW⟩)⟩ rfl rfl hl.1 rfl (lv_room (Nat.le_of_ble_eq_true rfl)) dH_apply_118 ⟨Nat.le_of_ble_eq_true rfl, Nat.le_of_ble_eq_true rfl⟩) hS (fun q _ h => hFc q h) hFc (fun r28 u9 t H1 locs ht hvm hr9 hB hz1 hk1 hS => ?_)
    obtain ⟨hP1, hK1, hD1⟩ := hB
    rw [ht] at hP1
    obtain ⟨hP, hD⟩ := xjoin (W := [(a4, .inr (1, [.ref a5, .int v7, .int v8])), (a5, .inl (cT 0, 4096, .inl f6)), (a6, .inr (2, [.ref a7, .int v10, .int v11])), (a7, .inl (cT 2, 4096, .inr (.inl f9))), (a0, .inr (2, [.ref a1, .int v1, .int v2])), (a1, .inl (cT 2, 4096, .inr (.inl f0))), (a2, .inr (2, [.ref a3, .int v4, .int v5])), (a3, .inl (cT 2, 4096, .inr (.inl f3)))]) hP hD [0, 1, 2, 3] [4, 5, 6, 7] 4 rfl rfl (by decide) (by decide) hk1 hFc hP1 hD1
    generalize H1 = H at hP hS ⊢
    rw [hr9]
    refine W.eq (g2 := F0 m 121 ls [.int o26]) rfl ?_
    refine lv_if_eq (tgt := 137) hx hb dH_apply_121 (by decide) (fun hc => ?_) (fun hc => ?_)
    · rw [if_pos hc] at hf
      refine lv_iconst (v := 1) hx hb dH_apply_137 (by decide) ?_
      obtain rfl := Option.some.inj hf
      obtain ⟨hP9, hD9⟩ := xsub (wc := [(a0, .inr (2, [.ref a1, .int v1, .int v2])), (a1, .inl (cT 2, 4096, .inr (.inl f0))), (a2, .inr (2, [.ref a3, .int v4, .int v5])), (a3, .inl (cT 2, 4096, .inr (.inl f3))), (a4, .inr (1, [.ref a5, .int v7, .int v8])), (a5, .inl (cT 0, 4096, .inl f6)), (a6, .inr (2, [.ref a7, .int v10, .int v11])), (a7, .inl (cT 2, 4096, .inr (.inl f9)))]) hP hD [4, 5, 6, 7, 0, 1, 2, 3] rfl rfl (by decide)
      exact W.iret (v := (1 : Int32)) hx hb hr (fun t ht hW => ⟨⟨(1 : Int32), (), rfl, rfl, by rw [ht]; exact hP9, va_K.moved hW.alike hK, hD9⟩, hS.F ht⟩) hS.2.2 dH_apply_138
    · rw [if_neg hc] at hf
      refine lv_aload_n hx hb dH_apply_124 rfl (lv_at hl 1 rfl) ?_
      refine lv_aload_n hx hb dH_apply_125 rfl (lv_at hl 2 rfl) ?_
      obtain ⟨o29, hq30, hf⟩ := xbind hf
      obtain ⟨hPc, hDc, hFc⟩ := xcut (wc := [(a0, .inr (2, [.ref a1, .int v1, .int v2])), (a1, .inl (cT 2, 4096, .inr (.inl f0))), (a2, .inr (2, [.ref a3, .int v4, .int v5])), (a3, .inl (cT 2, 4096, .inr (.inl f3)))]) hP hD hS hA [4, 5, 6, 7] rfl rfl (by decide)
      refine va_calli (va_runS (As := [.ref a0, .ref a2]) (rest := []) ⟨hx, hb, hml, hown, htx⟩ (gH_ends l hl9 D cT aK aV H.size n a0 a1 a2 a3 f0 v1 v2 f3 v4 v5 o29 hq30) ⟨callB_of 2 htx (xw_goodC kw_4_215) rfl rfl rfl (htx _ kw_1_27) (htx _ kw_4_213) ⟨by decide, by decide, by decide +kernel⟩ ⟨Nat.le_of_ble_eq_true rfl, Nat.le_of_ble_eq_true rfl⟩, htx _ kw_4_214⟩ ⟨xPre_blind, (fun U hU hW => ⟨rfl, xPre_of hZ hS hFc hPc hDc hK U hU hW⟩)⟩ rfl rfl hl.1 rfl (lv_room (Nat.le_of_ble_eq_true rfl)) dH_apply_126 ⟨Nat.le_of_ble_eq_true rfl, Nat.le_of_ble_eq_true rfl⟩) hS (fun q _ h => hFc q h) hFc (fun r31 u9 t H1 locs ht hvm hr9 hB hz1 hk1 hS => ?_)
      obtain ⟨hP1, hK1, hD1⟩ := hB
      rw [ht] at hP1
      obtain ⟨hP, hD⟩ := xjoin (W := [(a4, .inr (1, [.ref a5, .int v7, .int v8])), (a5, .inl (cT 0, 4096, .inl f6)), (a6, .inr (2, [.ref a7, .int v10, .int v11])), (a7, .inl (cT 2, 4096, .inr (.inl f9))), (a0, .inr (2, [.ref a1, .int v1, .int v2])), (a1, .inl (cT 2, 4096, .inr (.inl f0))), (a2, .inr (2, [.ref a3, .int v4, .int v5])), (a3, .inl (cT 2, 4096, .inr (.inl f3)))]) hP hD [4, 5, 6, 7] [0, 1, 2, 3] 4 rfl rfl (by decide) (by decide) hk1 hFc hP1 hD1
      generalize H1 = H at hP hS ⊢
      rw [hr9]
      refine W.eq (g2 := F0 m 129 ls [.int o29]) rfl ?_
      refine lv_aload hx hb dH_apply_129 (lv_at hl 4 rfl) ?_
      obtain ⟨o32, hq33, hf⟩ := xbind hf
      obtain ⟨hPc, hDc, hFc⟩ := xcut (wc := [(a6, .inr (2, [.ref a7, .int v10, .int v11])), (a7, .inl (cT 2, 4096, .inr (.inl f9)))]) hP hD hS hA [2, 3] rfl rfl (by decide)
      refine va_calli (va_runS (As := [.int o29, .ref a6]) (rest := []) ⟨hx, hb, hml, hown, htx⟩ (gH_truth l hl9 D cT aK aV H.size n a6 a7 o29 f9 v10 v11 o32 hq33) ⟨callB_of 2 htx (xw_goodC kw_4_154) rfl rfl rfl (htx _ kw_1_27) (htx _ kw_4_152) ⟨by decide, by decide, by decide +kernel⟩ ⟨Nat.le_of_ble_eq_true rfl, Nat.le_of_ble_eq_true rfl⟩, htx _ kw_4_153⟩ ⟨xPre_blind, (fun U hU hW => ⟨rfl, xPre_of hZ hS hFc hPc hDc hK U hU hW⟩)⟩ rfl rfl hl.1 rfl (lv_room (Nat.le_of_ble_eq_true rfl)) dH_apply_131 ⟨Nat.le_of_ble_eq_true rfl, Nat.le_of_ble_eq_true rfl⟩) hS (fun q _ h => hFc q h) hFc (fun r34 u9 t H1 locs ht hvm hr9 hB hz1 hk1 hS => ?_)
      obtain ⟨hP1, hK1, hD1⟩ := hB
      rw [ht] at hP1
      obtain ⟨hP, hD⟩ := xjoin (W := [(a4, .inr (1, [.ref a5, .int v7, .int v8])), (a5, .inl (cT 0, 4096, .inl f6)), (a0, .inr (2, [.ref a1, .int v1, .int v2])), (a1, .inl (cT 2, 4096, .inr (.inl f0))), (a2, .inr (2, [.ref a3, .int v4, .int v5])), (a3, .inl (cT 2, 4096, .inr (.inl f3))), (a6, .inr (2, [.ref a7, .int o32.2.2.1, .int o32.2.2.2])), (a7, .inl (cT 2, 4096, .inr (.inl o32.2.1)))]) hP hD [2, 3] [0, 1, 4, 5, 6, 7] 6 rfl rfl (by decide) (by decide) hk1 hFc hP1 hD1
      generalize H1 = H at hP hS ⊢
      rw [hr9]
      refine W.eq (g2 := F0 m 134 ls [.int o32.1]) rfl ?_
      refine lv_goto (tgt := 138) hx hb dH_apply_134 (by decide) ?_
      obtain rfl := Option.some.inj hf
      obtain ⟨hP9, hD9⟩ := xsub (wc := [(a0, .inr (2, [.ref a1, .int v1, .int v2])), (a1, .inl (cT 2, 4096, .inr (.inl f0))), (a2, .inr (2, [.ref a3, .int v4, .int v5])), (a3, .inl (cT 2, 4096, .inr (.inl f3))), (a4, .inr (1, [.ref a5, .int v7, .int v8])), (a5, .inl (cT 0, 4096, .inl f6)), (a6, .inr (2, [.ref a7, .int o32.2.2.1, .int o32.2.2.2])), (a7, .inl (cT 2, 4096, .inr (.inl o32.2.1)))]) hP hD [2, 3, 4, 5, 0, 1, 6, 7] rfl rfl (by decide)
      exact W.iret (v := o32.1) hx hb hr (fun t ht hW => ⟨⟨o32.1, (), rfl, rfl, by rw [ht]; exact hP9, va_K.moved hW.alike hK, hD9⟩, hS.F ht⟩) hS.2.2 dH_apply_138
  rw [if_neg hc25] at hf
  by_cases hc29 : x0 = 7
  · rw [if_pos hc29] at hf
    refine lv_tableIn (off := 138) (tgt := 139) hx hb dH_apply_1 (by rw [hc29]; decide) (by rw [hc29]; decide) (by rw [hc29]; decide) (by decide) ?_
    refine lv_aload_n hx hb dH_apply_139 rfl (lv_at hl 1 rfl) ?_
    refine lv_aload_n hx hb dH_apply_140 rfl (lv_at hl 2 rfl) ?_
    refine lv_aload hx hb dH_apply_141 (lv_at hl 4 rfl) ?_
    obtain ⟨o30, hq31, hf⟩ := xbind hf
    obtain ⟨hPc, hDc, hFc⟩ := xcut (wc := [(a0, .inr (2, [.ref a1, .int v1, .int v2])), (a1, .inl (cT 2, 4096, .inr (.inl f0))), (a2, .inr (2, [.ref a3, .int v4, .int v5])), (a3, .inl (cT 2, 4096, .inr (.inl f3))), (a6, .inr (2, [.ref a7, .int v10, .int v11])), (a7, .inl (cT 2, 4096, .inr (.inl f9)))]) hP hD hS hA [0, 1, 2, 3, 6, 7] rfl rfl (by decide)
    refine va_calli (va_runS (As := [.ref a0, .ref a2, .ref a6]) (rest := []) ⟨hx, hb, hml, hown, htx⟩ (gH_indices l hl9 D cT aK aV s.heap.size d n a0 a1 a2 a3 a6 a7 f0 v1 v2 f3 v4 v5 f9 v10 v11 o30 hq31) ⟨callB_of 3 htx (xw_goodC kw_4_218) rfl rfl rfl (htx _ kw_1_27) (htx _ kw_4_216) ⟨by decide, by decide, by decide +kernel⟩ ⟨(by show (16 * d + 3) + 1 ≤ 16 * d + 6; omega), (by show 8 + (6 + 11) + (400 * d + 79) ≤ 400 * d + 176; omega)⟩, htx _ kw_4_217⟩ ⟨xPre_blind, (fun U hU hW => ⟨rfl, xPre_of hZ hS hFc hPc hDc hK U hU hW⟩)⟩ rfl rfl hl.1 rfl (lv_room (Nat.le_of_ble_eq_true rfl)) dH_apply_143 ⟨Nat.le_of_ble_eq_true rfl, Nat.le_of_ble_eq_true rfl⟩) hS (fun q _ h => hFc q h) hFc (fun r32 u9 t H1 locs ht hvm hr9 hB hz1 hk1 hS => ?_)
    obtain ⟨hP1, hK1, hD1⟩ := hB
    rw [ht] at hP1
    obtain ⟨hP, hD⟩ := xjoin (W := [(a4, .inr (1, [.ref a5, .int v7, .int v8])), (a5, .inl (cT 0, 4096, .inl f6)), (a0, .inr (2, [.ref a1, .int v1, .int v2])), (a1, .inl (cT 2, 4096, .inr (.inl f0))), (a2, .inr (2, [.ref a3, .int v4, .int v5])), (a3, .inl (cT 2, 4096, .inr (.inl f3))), (a6, .inr (2, [.ref a7, .int o30.2.2.1, .int o30.2.2.2])), (a7, .inl (cT 2, 4096, .inr (.inl o30.2.1)))]) hP hD [0, 1, 2, 3, 6, 7] [4, 5] 2 rfl rfl (by decide) (by decide) hk1 hFc hP1 hD1
    generalize H1 = H at hP hS ⊢
    rw [hr9]
    refine W.eq (g2 := F0 m 146 ls [.int o30.1]) rfl ?_
    obtain rfl := Option.some.inj hf
    obtain ⟨hP9, hD9⟩ := xsub (wc := [(a0, .inr (2, [.ref a1, .int v1, .int v2])), (a1, .inl (cT 2, 4096, .inr (.inl f0))), (a2, .inr (2, [.ref a3, .int v4, .int v5])), (a3, .inl (cT 2, 4096, .inr (.inl f3))), (a4, .inr (1, [.ref a5, .int v7, .int v8])), (a5, .inl (cT 0, 4096, .inl f6)), (a6, .inr (2, [.ref a7, .int o30.2.2.1, .int o30.2.2.2])), (a7, .inl (cT 2, 4096, .inr (.inl o30.2.1)))]) hP hD [2, 3, 4, 5, 0, 1, 6, 7] rfl rfl (by decide)
    exact W.iret (v := o30.1) hx hb hr (fun t ht hW => ⟨⟨o30.1, (), rfl, rfl, by rw [ht]; exact hP9, va_K.moved hW.alike hK, hD9⟩, hS.F ht⟩) hS.2.2 dH_apply_146
  rw [if_neg hc29] at hf
  by_cases hc33 : x0 = 8
  · rw [if_pos hc33] at hf
    refine lv_tableIn (off := 146) (tgt := 147) hx hb dH_apply_1 (by rw [hc33]; decide) (by rw [hc33]; decide) (by rw [hc33]; decide) (by decide) ?_
    refine lv_aload_n hx hb dH_apply_147 rfl (lv_at hl 1 rfl) ?_
    refine lv_aload_n hx hb dH_apply_148 rfl (lv_at hl 2 rfl) ?_
    refine lv_aload hx hb dH_apply_149 (lv_at hl 4 rfl) ?_
    obtain ⟨o34, hq35, hf⟩ := xbind hf
    obtain ⟨hPc, hDc, hFc⟩ := xcut (wc := [(a0, .inr (2, [.ref a1, .int v1, .int v2])), (a1, .inl (cT 2, 4096, .inr (.inl f0))), (a2, .inr (2, [.ref a3, .int v4, .int v5])), (a3, .inl (cT 2, 4096, .inr (.inl f3))), (a6, .inr (2, [.ref a7, .int v10, .int v11])), (a7, .inl (cT 2, 4096, .inr (.inl f9)))]) hP hD hS hA [0, 1, 2, 3, 6, 7] rfl rfl (by decide)
    refine va_calli (va_runS (As := [.ref a0, .ref a2, .ref a6]) (rest := []) ⟨hx, hb, hml, hown, htx⟩ (gH_flat l hl9 D cT aK aV s.heap.size d n a0 a1 a2 a3 a6 a7 f0 v1 v2 f3 v4 v5 f9 v10 v11 o34 hq35) ⟨callB_of 3 htx (xw_goodC kw_4_238) rfl rfl rfl (htx _ kw_1_27) (htx _ kw_4_236) ⟨by decide, by decide, by decide +kernel⟩ ⟨(by show (16 * d + 2) + 1 ≤ 16 * d + 6; omega), (by show 8 + (5 + 11) + (400 * d + 43) ≤ 400 * d + 176; omega)⟩, htx _ kw_4_237⟩ ⟨xPre_blind, (fun U hU hW => ⟨rfl, xPre_of hZ hS hFc hPc hDc hK U hU hW⟩)⟩ rfl rfl hl.1 rfl (lv_room (Nat.le_of_ble_eq_true rfl)) dH_apply_151 ⟨Nat.le_of_ble_eq_true rfl, Nat.le_of_ble_eq_true rfl⟩) hS (fun q _ h => hFc q h) hFc (fun r36 u9 t H1 locs ht hvm hr9 hB hz1 hk1 hS => ?_)
    obtain ⟨hP1, hK1, hD1⟩ := hB
    rw [ht] at hP1
    obtain ⟨hP, hD⟩ := xjoin (W := [(a4, .inr (1, [.ref a5, .int v7, .int v8])), (a5, .inl (cT 0, 4096, .inl f6)), (a0, .inr (2, [.ref a1, .int v1, .int v2])), (a1, .inl (cT 2, 4096, .inr (.inl f0))), (a2, .inr (2, [.ref a3, .int v4, .int v5])), (a3, .inl (cT 2, 4096, .inr (.inl f3))), (a6, .inr (2, [.ref a7, .int o34.2.2.1, .int o34.2.2.2])), (a7, .inl (cT 2, 4096, .inr (.inl o34.2.1)))]) hP hD [0, 1, 2, 3, 6, 7] [4, 5] 2 rfl rfl (by decide) (by decide) hk1 hFc hP1 hD1
    generalize H1 = H at hP hS ⊢
    rw [hr9]
    refine W.eq (g2 := F0 m 154 ls [.int o34.1]) rfl ?_
    obtain rfl := Option.some.inj hf
    obtain ⟨hP9, hD9⟩ := xsub (wc := [(a0, .inr (2, [.ref a1, .int v1, .int v2])), (a1, .inl (cT 2, 4096, .inr (.inl f0))), (a2, .inr (2, [.ref a3, .int v4, .int v5])), (a3, .inl (cT 2, 4096, .inr (.inl f3))), (a4, .inr (1, [.ref a5, .int v7, .int v8])), (a5, .inl (cT 0, 4096, .inl f6)), (a6, .inr (2, [.ref a7, .int o34.2.2.1, .int o34.2.2.2])), (a7, .inl (cT 2, 4096, .inr (.inl o34.2.1)))]) hP hD [2, 3, 4, 5, 0, 1, 6, 7] rfl rfl (by decide)
    exact W.iret (v := o34.1) hx hb hr (fun t ht hW => ⟨⟨o34.1, (), rfl, rfl, by rw [ht]; exact hP9, va_K.moved hW.alike hK, hD9⟩, hS.F ht⟩) hS.2.2 dH_apply_154
  rw [if_neg hc33] at hf
  refine lv_tableOut (tgt := 155) hx hb dH_apply_1 (by have e0 : x0.toInt ≠ 0 := xsw hc1 (by decide); have e1 : x0.toInt ≠ 1 := xsw hc5 (by decide); have e2 : x0.toInt ≠ 2 := xsw hc9 (by decide); have e3 : x0.toInt ≠ 3 := xsw hc13 (by decide); have e4 : x0.toInt ≠ 4 := xsw hc17 (by decide); have e5 : x0.toInt ≠ 5 := xsw hc21 (by decide); have e6 : x0.toInt ≠ 6 := xsw hc25 (by decide); have e7 : x0.toInt ≠ 7 := xsw hc29 (by decide); have e8 : x0.toInt ≠ 8 := xsw hc33 (by decide); omega) (by decide) ?_
  refine lv_aload_n hx hb dH_apply_155 rfl (lv_at hl 1 rfl) ?_
  refine lv_iconst (v := 0) hx hb dH_apply_156 (by decide) ?_
  refine lv_iconst (v := 5) hx hb dH_apply_157 (by decide) ?_
  obtain ⟨o37, hq38, hf⟩ := xbind hf
  obtain ⟨hPc, hDc, hFc⟩ := xcut (wc := [(a0, .inr (2, [.ref a1, .int v1, .int v2])), (a1, .inl (cT 2, 4096, .inr (.inl f0)))]) hP hD hS hA [0, 1] rfl rfl (by decide)
  refine va_calli (va_runV (C := "ValueBench$Row") (As := [.int 0, .int 5]) (rest := []) ⟨hx, hb, hml, hown, htx⟩ (gR_is l hl9 D cT aK aV s.heap.size n a0 a1 (0 : Int32) (5 : Int32) f0 v1 v2 o37 hq38) ⟨callB_of 2 htx (xw_goodC kw_3_75) rfl rfl rfl (htx _ kw_1_4) (htx _ kw_4_150) ⟨by decide, by decide, by decide +kernel⟩ ⟨Nat.le_of_ble_eq_true rfl, Nat.le_of_ble_eq_true rfl⟩, (htx _ kw_3_73), (htx _ kw_3_74)⟩ ⟨xPre_blind, va_recv hK hP (ci := 2) rfl (q0 := 0) rfl, (fun U hU hW => ⟨rfl, xPre_of hZ hS hFc hPc hDc hK U hU hW⟩)⟩ rfl rfl hl.1 rfl (lv_room (Nat.le_of_ble_eq_true rfl)) dH_apply_158 ⟨Nat.le_of_ble_eq_true rfl, Nat.le_of_ble_eq_true rfl⟩) hS (fun q _ h => hFc q h) hFc (fun r39 u9 t H1 locs ht hvm hr9 hB hz1 hk1 hS => ?_)
  obtain ⟨hP1, hK1, hD1⟩ := hB
  rw [ht] at hP1
  obtain ⟨hP, hD⟩ := xjoin (W := [(a2, .inr (2, [.ref a3, .int v4, .int v5])), (a3, .inl (cT 2, 4096, .inr (.inl f3))), (a4, .inr (1, [.ref a5, .int v7, .int v8])), (a5, .inl (cT 0, 4096, .inl f6)), (a6, .inr (2, [.ref a7, .int v10, .int v11])), (a7, .inl (cT 2, 4096, .inr (.inl f9))), (a0, .inr (2, [.ref a1, .int v1, .int v2])), (a1, .inl (cT 2, 4096, .inr (.inl f0)))]) hP hD [0, 1] [2, 3, 4, 5, 6, 7] 6 rfl rfl (by decide) (by decide) hk1 hFc hP1 hD1
  generalize H1 = H at hP hS ⊢
  rw [hr9]
  refine W.eq (g2 := F0 m 161 ls [.int o37]) rfl ?_
  refine lv_if_eq (tgt := 183) hx hb dH_apply_161 (by decide) (fun hc => ?_) (fun hc => ?_)
  · rw [if_pos hc] at hf
    refine lv_aload_n hx hb dH_apply_183 rfl (lv_at hl 1 rfl) ?_
    refine lv_aload_n hx hb dH_apply_184 rfl (lv_at hl 2 rfl) ?_
    refine lv_aload hx hb dH_apply_185 (lv_at hl 4 rfl) ?_
    obtain ⟨o40, hq41, hf⟩ := xbind hf
    obtain ⟨hPc, hDc, hFc⟩ := xcut (wc := [(a0, .inr (2, [.ref a1, .int v1, .int v2])), (a1, .inl (cT 2, 4096, .inr (.inl f0))), (a2, .inr (2, [.ref a3, .int v4, .int v5])), (a3, .inl (cT 2, 4096, .inr (.inl f3))), (a6, .inr (2, [.ref a7, .int v10, .int v11])), (a7, .inl (cT 2, 4096, .inr (.inl f9)))]) hP hD hS hA [6, 7, 0, 1, 4, 5] rfl rfl (by decide)
    refine va_calli (va_runS (As := [.ref a0, .ref a2, .ref a6]) (rest := []) ⟨hx, hb, hml, hown, htx⟩ (gH_at l hl9 D cT aK aV H.size n a0 a1 a2 a3 a6 a7 f0 v1 v2 f3 v4 v5 f9 v10 v11 o40 hq41) ⟨callB_of 3 htx (xw_goodC kw_5_4) rfl rfl rfl (htx _ kw_1_27) (htx _ kw_5_2) ⟨by decide, by decide, by decide +kernel⟩ ⟨Nat.le_of_ble_eq_true rfl, Nat.le_of_ble_eq_true rfl⟩, htx _ kw_5_3⟩ ⟨xPre_blind, (fun U hU hW => ⟨rfl, xPre_of hZ hS hFc hPc hDc hK U hU hW⟩)⟩ rfl rfl hl.1 rfl (lv_room (Nat.le_of_ble_eq_true rfl)) dH_apply_187 ⟨Nat.le_of_ble_eq_true rfl, Nat.le_of_ble_eq_true rfl⟩) hS (fun q _ h => hFc q h) hFc (fun r42 u9 t H1 locs ht hvm hr9 hB hz1 hk1 hS => ?_)
    obtain ⟨hP1, hK1, hD1⟩ := hB
    rw [ht] at hP1
    obtain ⟨hP, hD⟩ := xjoin (W := [(a4, .inr (1, [.ref a5, .int v7, .int v8])), (a5, .inl (cT 0, 4096, .inl f6)), (a0, .inr (2, [.ref a1, .int v1, .int v2])), (a1, .inl (cT 2, 4096, .inr (.inl f0))), (a2, .inr (2, [.ref a3, .int v4, .int v5])), (a3, .inl (cT 2, 4096, .inr (.inl f3))), (a6, .inr (2, [.ref a7, .int o40.2.2.1, .int o40.2.2.2])), (a7, .inl (cT 2, 4096, .inr (.inl o40.2.1)))]) hP hD [6, 7, 0, 1, 4, 5] [2, 3] 2 rfl rfl (by decide) (by decide) hk1 hFc hP1 hD1
    generalize H1 = H at hP hS ⊢
    rw [hr9]
    refine W.eq (g2 := F0 m 190 ls [.int o40.1]) rfl ?_
    obtain rfl := Option.some.inj hf
    obtain ⟨hP9, hD9⟩ := xsub (wc := [(a0, .inr (2, [.ref a1, .int v1, .int v2])), (a1, .inl (cT 2, 4096, .inr (.inl f0))), (a2, .inr (2, [.ref a3, .int v4, .int v5])), (a3, .inl (cT 2, 4096, .inr (.inl f3))), (a4, .inr (1, [.ref a5, .int v7, .int v8])), (a5, .inl (cT 0, 4096, .inl f6)), (a6, .inr (2, [.ref a7, .int o40.2.2.1, .int o40.2.2.2])), (a7, .inl (cT 2, 4096, .inr (.inl o40.2.1)))]) hP hD [2, 3, 4, 5, 0, 1, 6, 7] rfl rfl (by decide)
    exact W.iret (v := o40.1) hx hb hr (fun t ht hW => ⟨⟨o40.1, (), rfl, rfl, by rw [ht]; exact hP9, va_K.moved hW.alike hK, hD9⟩, hS.F ht⟩) hS.2.2 dH_apply_190
  · rw [if_neg hc] at hf
    refine lv_aload_n hx hb dH_apply_164 rfl (lv_at hl 2 rfl) ?_
    refine lv_iconst (v := 0) hx hb dH_apply_165 (by decide) ?_
    refine lv_iconst (v := 5) hx hb dH_apply_166 (by decide) ?_
    obtain ⟨o40, hq41, hf⟩ := xbind hf
    obtain ⟨hPc, hDc, hFc⟩ := xcut (wc := [(a2, .inr (2, [.ref a3, .int v4, .int v5])), (a3, .inl (cT 2, 4096, .inr (.inl f3)))]) hP hD hS hA [0, 1] rfl rfl (by decide)
    refine va_calli (va_runV (C := "ValueBench$Row") (As := [.int 0, .int 5]) (rest := []) ⟨hx, hb, hml, hown, htx⟩ (gR_is l hl9 D cT aK aV H.size n a2 a3 (0 : Int32) (5 : Int32) f3 v4 v5 o40 hq41) ⟨callB_of 2 htx (xw_goodC kw_3_75) rfl rfl rfl (htx _ kw_1_4) (htx _ kw_4_150) ⟨by decide, by decide, by decide +kernel⟩ ⟨Nat.le_of_ble_eq_true rfl, Nat.le_of_ble_eq_true rfl⟩, (htx _ kw_3_73), (htx _ kw_3_74)⟩ ⟨xPre_blind, va_recv hK hP (ci := 2) rfl (q0 := 0) rfl, (fun U hU hW => ⟨rfl, xPre_of hZ hS hFc hPc hDc hK U hU hW⟩)⟩ rfl rfl hl.1 rfl (lv_room (Nat.le_of_ble_eq_true rfl)) dH_apply_167 ⟨Nat.le_of_ble_eq_true rfl, Nat.le_of_ble_eq_true rfl⟩) hS (fun q _ h => hFc q h) hFc (fun r42 u9 t H1 locs ht hvm hr9 hB hz1 hk1 hS => ?_)
    obtain ⟨hP1, hK1, hD1⟩ := hB
    rw [ht] at hP1
    obtain ⟨hP, hD⟩ := xjoin (W := [(a4, .inr (1, [.ref a5, .int v7, .int v8])), (a5, .inl (cT 0, 4096, .inl f6)), (a6, .inr (2, [.ref a7, .int v10, .int v11])), (a7, .inl (cT 2, 4096, .inr (.inl f9))), (a0, .inr (2, [.ref a1, .int v1, .int v2])), (a1, .inl (cT 2, 4096, .inr (.inl f0))), (a2, .inr (2, [.ref a3, .int v4, .int v5])), (a3, .inl (cT 2, 4096, .inr (.inl f3)))]) hP hD [0, 1] [2, 3, 4, 5, 6, 7] 6 rfl rfl (by decide) (by decide) hk1 hFc hP1 hD1
    generalize H1 = H at hP hS ⊢
    rw [hr9]
    refine W.eq (g2 := F0 m 170 ls [.int o40]) rfl ?_
    refine lv_if_eq (tgt := 183) hx hb dH_apply_170 (by decide) (fun hc => ?_) (fun hc => ?_)
    · rw [if_pos hc] at hf
      refine lv_aload_n hx hb dH_apply_183 rfl (lv_at hl 1 rfl) ?_
      refine lv_aload_n hx hb dH_apply_184 rfl (lv_at hl 2 rfl) ?_
      refine lv_aload hx hb dH_apply_185 (lv_at hl 4 rfl) ?_
      obtain ⟨o43, hq44, hf⟩ := xbind hf
      obtain ⟨hPc, hDc, hFc⟩ := xcut (wc := [(a0, .inr (2, [.ref a1, .int v1, .int v2])), (a1, .inl (cT 2, 4096, .inr (.inl f0))), (a2, .inr (2, [.ref a3, .int v4, .int v5])), (a3, .inl (cT 2, 4096, .inr (.inl f3))), (a6, .inr (2, [.ref a7, .int v10, .int v11])), (a7, .inl (cT 2, 4096, .inr (.inl f9)))]) hP hD hS hA [4, 5, 6, 7, 2, 3] rfl rfl (by decide)
      refine va_calli (va_runS (As := [.ref a0, .ref a2, .ref a6]) (rest := []) ⟨hx, hb, hml, hown, htx⟩ (gH_at l hl9 D cT aK aV H.size n a0 a1 a2 a3 a6 a7 f0 v1 v2 f3 v4 v5 f9 v10 v11 o43 hq44) ⟨callB_of 3 htx (xw_goodC kw_5_4) rfl rfl rfl (htx _ kw_1_27) (htx _ kw_5_2) ⟨by decide, by decide, by decide +kernel⟩ ⟨Nat.le_of_ble_eq_true rfl, Nat.le_of_ble_eq_true rfl⟩, htx _ kw_5_3⟩ ⟨xPre_blind, (fun U hU hW => ⟨rfl, xPre_of hZ hS hFc hPc hDc hK U hU hW⟩)⟩ rfl rfl hl.1 rfl (lv_room (Nat.le_of_ble_eq_true rfl)) dH_apply_187 ⟨Nat.le_of_ble_eq_true rfl, Nat.le_of_ble_eq_true rfl⟩) hS (fun q _ h => hFc q h) hFc (fun r45 u9 t H1 locs ht hvm hr9 hB hz1 hk1 hS => ?_)
      obtain ⟨hP1, hK1, hD1⟩ := hB
      rw [ht] at hP1
      obtain ⟨hP, hD⟩ := xjoin (W := [(a4, .inr (1, [.ref a5, .int v7, .int v8])), (a5, .inl (cT 0, 4096, .inl f6)), (a0, .inr (2, [.ref a1, .int v1, .int v2])), (a1, .inl (cT 2, 4096, .inr (.inl f0))), (a2, .inr (2, [.ref a3, .int v4, .int v5])), (a3, .inl (cT 2, 4096, .inr (.inl f3))), (a6, .inr (2, [.ref a7, .int o43.2.2.1, .int o43.2.2.2])), (a7, .inl (cT 2, 4096, .inr (.inl o43.2.1)))]) hP hD [4, 5, 6, 7, 2, 3] [0, 1] 2 rfl rfl (by decide) (by decide) hk1 hFc hP1 hD1
      generalize H1 = H at hP hS ⊢
      rw [hr9]
      refine W.eq (g2 := F0 m 190 ls [.int o43.1]) rfl ?_
      obtain rfl := Option.some.inj hf
      obtain ⟨hP9, hD9⟩ := xsub (wc := [(a0, .inr (2, [.ref a1, .int v1, .int v2])), (a1, .inl (cT 2, 4096, .inr (.inl f0))), (a2, .inr (2, [.ref a3, .int v4, .int v5])), (a3, .inl (cT 2, 4096, .inr (.inl f3))), (a4, .inr (1, [.ref a5, .int v7, .int v8])), (a5, .inl (cT 0, 4096, .inl f6)), (a6, .inr (2, [.ref a7, .int o43.2.2.1, .int o43.2.2.2])), (a7, .inl (cT 2, 4096, .inr (.inl o43.2.1)))]) hP hD [2, 3, 4, 5, 0, 1, 6, 7] rfl rfl (by decide)
      exact W.iret (v := o43.1) hx hb hr (fun t ht hW => ⟨⟨o43.1, (), rfl, rfl, by rw [ht]; exact hP9, va_K.moved hW.alike hK, hD9⟩, hS.F ht⟩) hS.2.2 dH_apply_190
    · rw [if_neg hc] at hf
      refine lv_aload_n hx hb dH_apply_173 rfl (lv_at hl 1 rfl) ?_
      refine lv_aload_n hx hb dH_apply_174 rfl (lv_at hl 2 rfl) ?_
      refine lv_aload hx hb dH_apply_175 (lv_at hl 4 rfl) ?_
      obtain ⟨o43, hq44, hf⟩ := xbind hf
      obtain ⟨hPc, hDc, hFc⟩ := xcut (wc := [(a0, .inr (2, [.ref a1, .int v1, .int v2])), (a1, .inl (cT 2, 4096, .inr (.inl f0))), (a2, .inr (2, [.ref a3, .int v4, .int v5])), (a3, .inl (cT 2, 4096, .inr (.inl f3))), (a6, .inr (2, [.ref a7, .int v10, .int v11])), (a7, .inl (cT 2, 4096, .inr (.inl f9)))]) hP hD hS hA [4, 5, 6, 7, 2, 3] rfl rfl (by decide)
      refine va_calli (va_runS (As := [.ref a0, .ref a2, .ref a6]) (rest := []) ⟨hx, hb, hml, hown, htx⟩ (gH_indices l hl9 D cT aK aV H.size d n a0 a1 a2 a3 a6 a7 f0 v1 v2 f3 v4 v5 f9 v10 v11 o43 hq44) ⟨callB_of 3 htx (xw_goodC kw_4_218) rfl rfl rfl (htx _ kw_1_27) (htx _ kw_4_216) ⟨by decide, by decide, by decide +kernel⟩ ⟨(by show (16 * d + 3) + 1 ≤ 16 * d + 6; omega), (by show 8 + (6 + 11) + (400 * d + 79) ≤ 400 * d + 176; omega)⟩, htx _ kw_4_217⟩ ⟨xPre_blind, (fun U hU hW => ⟨rfl, xPre_of hZ hS hFc hPc hDc hK U hU hW⟩)⟩ rfl rfl hl.1 rfl (lv_room (Nat.le_of_ble_eq_true rfl)) dH_apply_177 ⟨Nat.le_of_ble_eq_true rfl, Nat.le_of_ble_eq_true rfl⟩) hS (fun q _ h => hFc q h) hFc (fun r45 u9 t H1 locs ht hvm hr9 hB hz1 hk1 hS => ?_)
      obtain ⟨hP1, hK1, hD1⟩ := hB
      rw [ht] at hP1
      obtain ⟨hP, hD⟩ := xjoin (W := [(a4, .inr (1, [.ref a5, .int v7, .int v8])), (a5, .inl (cT 0, 4096, .inl f6)), (a0, .inr (2, [.ref a1, .int v1, .int v2])), (a1, .inl (cT 2, 4096, .inr (.inl f0))), (a2, .inr (2, [.ref a3, .int v4, .int v5])), (a3, .inl (cT 2, 4096, .inr (.inl f3))), (a6, .inr (2, [.ref a7, .int o43.2.2.1, .int o43.2.2.2])), (a7, .inl (cT 2, 4096, .inr (.inl o43.2.1)))]) hP hD [4, 5, 6, 7, 2, 3] [0, 1] 2 rfl rfl (by decide) (by decide) hk1 hFc hP1 hD1
      generalize H1 = H at hP hS ⊢
      rw [hr9]
      refine W.eq (g2 := F0 m 180 ls [.int o43.1]) rfl ?_
      refine lv_goto (tgt := 190) hx hb dH_apply_180 (by decide) ?_
      obtain rfl := Option.some.inj hf
      obtain ⟨hP9, hD9⟩ := xsub (wc := [(a0, .inr (2, [.ref a1, .int v1, .int v2])), (a1, .inl (cT 2, 4096, .inr (.inl f0))), (a2, .inr (2, [.ref a3, .int v4, .int v5])), (a3, .inl (cT 2, 4096, .inr (.inl f3))), (a4, .inr (1, [.ref a5, .int v7, .int v8])), (a5, .inl (cT 0, 4096, .inl f6)), (a6, .inr (2, [.ref a7, .int o43.2.2.1, .int o43.2.2.2])), (a7, .inl (cT 2, 4096, .inr (.inl o43.2.1)))]) hP hD [2, 3, 4, 5, 0, 1, 6, 7] rfl rfl (by decide)
      exact W.iret (v := o43.1) hx hb hr (fun t ht hW => ⟨⟨o43.1, (), rfl, rfl, by rw [ht]; exact hP9, va_K.moved hW.alike hK, hD9⟩, hS.F ht⟩) hS.2.2 dH_apply_190
set_option maxHeartbeats 400000000 in
set_option maxRecDepth 100000 in
theorem gH_hasa (l : Launch) (hl9 : l.stackTraces = false) (D : va_G) (cT : Nat → ClassId) (aK aV : Nat → Nat) (sz n : Nat) (a0 : Nat) (a1 : Nat) (a2 : Nat) (a3 : Nat) (f0 : Nat → Int64) (v1 : Int32) (v2 : Int32) (f3 : Nat → Int64) (v4 : Int32) (v5 : Int32) (out : Int32 × (Nat → Int64) × Int32 × Int32) (hf : fH_hasa n f0 v1 v2 f3 v4 v5 = some out) : xMet l yH_has wyH_has 3 0 0 64 D cT aK aV sz [.ref a0, .ref a0, .ref a2] [(a0, .inr (2, [.ref a1, .int v1, .int v2])), (a1, .inl (cT 2, 4096, .inr (.inl f0))), (a2, .inr (2, [.ref a3, .int v4, .int v5])), (a3, .inl (cT 2, 4096, .inr (.inl f3)))] (fun A => va_Qi (fun (r : Int32) (_ : Unit) => r = out.1) (fun _ t => xB D xcl cT A [(a0, .inr (2, [.ref a1, .int v1, .int v2])), (a1, .inl (cT 2, 4096, .inr (.inl f0))), (a2, .inr (2, [.ref a3, .int out.2.2.1, .int out.2.2.2])), (a3, .inl (cT 2, 4096, .inr (.inl out.2.1)))] t) A) := by
  refine Met.ofW (cc := prog_5_method_7_code) (maxL := 3) (ret := (some .int)) (by decide) rfl ?_
  intro p e s m args below meth c s₁ B hml hv
  obtain ⟨rfl, hsz, hZ, hP, hK, hD0⟩ := hv
  have hx := B.exec
  have hb := B.bytes
  have hr := B.returns
  have hts := atoms_spec (ws := wyH_has) B.pre
  have htx := fun w h => hts w (List.mem_cons_of_mem _ h)
  have hown : s.vm.findClass "ValueBench$Pairs" = some m.cls := findClass_of_methodNamed B.named
  have hlocks := B.notSynchronized
  subst hsz
  have hD := hD0.self (sz := s.heap.size)
  generalize hAe : va_A [(a0, .inr (2, [.ref a1, .int v1, .int v2])), (a1, .inl (cT 2, 4096, .inr (.inl f0))), (a2, .inr (2, [.ref a3, .int v4, .int v5])), (a3, .inl (cT 2, 4096, .inr (.inl f3)))] s.heap.size = A at hD hZ ⊢
  have hA : ∀ q : Nat, s.heap.size ≤ q → A q := fun q h => by rw [← hAe]; exact Or.inr h
  have hS : va_S A s.heap s.heap [] := va_S.rf
  have hP : va_P D xcl [(a0, .inr (2, [.ref a1, .int v1, .int v2])), (a1, .inl (cT 2, 4096, .inr (.inl f0))), (a2, .inr (2, [.ref a3, .int v4, .int v5])), (a3, .inl (cT 2, 4096, .inr (.inl f3)))] s.heap := hP
  have hl := lv_entry ([.ref a0, .ref a0, .ref a2]) (n := 3) (Nat.le_of_ble_eq_true rfl)
  rw [lg_entry_eq]
  generalize (lg_sl ([.ref a0, .ref a0, .ref a2]) ++ List.replicate (3 - (lg_sl ([.ref a0, .ref a0, .ref a2])).length) Slot.unset).toArray = ls at hl ⊢
  have hl : lv_has ls 3 [(0, .ref a0), (1, .ref a0), (2, .ref a2)] := hl
  unfold fH_hasa at hf
  refine lv_aload_n hx hb dH_has_0 rfl (lv_at hl 0 rfl) ?_
  refine lv_iconst (v := 0) hx hb dH_has_1 (by decide) ?_
  refine lv_bipush (v := 6) hx hb dH_has_2 (by decide) ?_
  obtain ⟨o1, hq2, hf⟩ := xbind hf
  obtain ⟨hPc, hDc, hFc⟩ := xcut (wc := [(a0, .inr (2, [.ref a1, .int v1, .int v2])), (a1, .inl (cT 2, 4096, .inr (.inl f0)))]) hP hD hS hA [0, 1] rfl rfl (by decide)
  refine va_calli (va_runV (C := "ValueBench$Row") (As := [.int 0, .int 6]) (rest := []) ⟨hx, hb, hml, hown, htx⟩ (gR_is l hl9 D cT aK aV s.heap.size n a0 a1 (0 : Int32) (6 : Int32) f0 v1 v2 o1 hq2) ⟨callB_of 2 htx (xw_goodC kw_3_75) rfl rfl rfl (htx _ kw_1_4) (htx _ kw_4_150) ⟨by decide, by decide, by decide +kernel⟩ ⟨Nat.le_of_ble_eq_true rfl, Nat.le_of_ble_eq_true rfl⟩, (htx _ kw_3_73), (htx _ kw_3_74)⟩ ⟨xPre_blind, va_recv hK hP (ci := 2) rfl (q0 := 0) rfl, (fun U hU hW => ⟨rfl, xPre_of hZ hS hFc hPc hDc hK U hU hW⟩)⟩ rfl rfl hl.1 rfl (lv_room (Nat.le_of_ble_eq_true rfl)) dH_has_4 ⟨Nat.le_of_ble_eq_true rfl, Nat.le_of_ble_eq_true rfl⟩) hS (fun q _ h => hFc q h) hFc (fun r3 u9 t H1 locs ht hvm hr9 hB hz1 hk1 hS => ?_)
  obtain ⟨hP1, hK1, hD1⟩ := hB
  rw [ht] at hP1
  obtain ⟨hP, hD⟩ := xjoin (W := [(a2, .inr (2, [.ref a3, .int v4, .int v5])), (a3, .inl (cT 2, 4096, .inr (.inl f3))), (a0, .inr (2, [.ref a1, .int v1, .int v2])), (a1, .inl (cT 2, 4096, .inr (.inl f0)))]) hP hD [0, 1] [2, 3] 2 rfl rfl (by decide) (by decide) hk1 hFc hP1 hD1
  generalize H1 = H at hP hS ⊢
  rw [hr9]
  refine W.eq (g2 := F0 m 7 ls [.int o1]) rfl ?_
  refine lv_if_eq (tgt := 40) hx hb dH_has_7 (by decide) (fun hc => ?_) (fun hc => ?_)
  · rw [if_pos hc] at hf
    refine lv_aload_n hx hb dH_has_40 rfl (lv_at hl 0 rfl) ?_
    refine lv_iconst (v := 0) hx hb dH_has_41 (by decide) ?_
    refine lv_iconst (v := 5) hx hb dH_has_42 (by decide) ?_
    obtain ⟨o4, hq5, hf⟩ := xbind hf
    obtain ⟨hPc, hDc, hFc⟩ := xcut (wc := [(a0, .inr (2, [.ref a1, .int v1, .int v2])), (a1, .inl (cT 2, 4096, .inr (.inl f0)))]) hP hD hS hA [2, 3] rfl rfl (by decide)
    refine va_calli (va_runV (C := "ValueBench$Row") (As := [.int 0, .int 5]) (rest := []) ⟨hx, hb, hml, hown, htx⟩ (gR_is l hl9 D cT aK aV H.size n a0 a1 (0 : Int32) (5 : Int32) f0 v1 v2 o4 hq5) ⟨callB_of 2 htx (xw_goodC kw_3_75) rfl rfl rfl (htx _ kw_1_4) (htx _ kw_4_150) ⟨by decide, by decide, by decide +kernel⟩ ⟨Nat.le_of_ble_eq_true rfl, Nat.le_of_ble_eq_true rfl⟩, (htx _ kw_3_73), (htx _ kw_3_74)⟩ ⟨xPre_blind, va_recv hK hP (ci := 2) rfl (q0 := 2) rfl, (fun U hU hW => ⟨rfl, xPre_of hZ hS hFc hPc hDc hK U hU hW⟩)⟩ rfl rfl hl.1 rfl (lv_room (Nat.le_of_ble_eq_true rfl)) dH_has_43 ⟨Nat.le_of_ble_eq_true rfl, Nat.le_of_ble_eq_true rfl⟩) hS (fun q _ h => hFc q h) hFc (fun r6 u9 t H1 locs ht hvm hr9 hB hz1 hk1 hS => ?_)
    obtain ⟨hP1, hK1, hD1⟩ := hB
    rw [ht] at hP1
    obtain ⟨hP, hD⟩ := xjoin (W := [(a2, .inr (2, [.ref a3, .int v4, .int v5])), (a3, .inl (cT 2, 4096, .inr (.inl f3))), (a0, .inr (2, [.ref a1, .int v1, .int v2])), (a1, .inl (cT 2, 4096, .inr (.inl f0)))]) hP hD [2, 3] [0, 1] 2 rfl rfl (by decide) (by decide) hk1 hFc hP1 hD1
    generalize H1 = H at hP hS ⊢
    rw [hr9]
    refine W.eq (g2 := F0 m 46 ls [.int o4]) rfl ?_
    refine lv_if_eq (tgt := 93) hx hb dH_has_46 (by decide) (fun hc => ?_) (fun hc => ?_)
    · rw [if_pos hc] at hf
      refine lv_iconst (v := 1) hx hb dH_has_93 (by decide) ?_
      obtain rfl := Option.some.inj hf
      obtain ⟨hP9, hD9⟩ := xsub (wc := [(a0, .inr (2, [.ref a1, .int v1, .int v2])), (a1, .inl (cT 2, 4096, .inr (.inl f0))), (a2, .inr (2, [.ref a3, .int v4, .int v5])), (a3, .inl (cT 2, 4096, .inr (.inl f3)))]) hP hD [2, 3, 0, 1] rfl rfl (by decide)
      exact W.iret (v := (1 : Int32)) hx hb hr (fun t ht hW => ⟨⟨(1 : Int32), (), rfl, rfl, by rw [ht]; exact hP9, va_K.moved hW.alike hK, hD9⟩, hS.F ht⟩) hS.2.2 dH_has_94
    · rw [if_neg hc] at hf
      refine lv_aload_n hx hb dH_has_49 rfl (lv_at hl 1 rfl) ?_
      refine lv_iconst (v := 0) hx hb dH_has_50 (by decide) ?_
      refine lv_iconst (v := 3) hx hb dH_has_51 (by decide) ?_
      obtain ⟨o7, hq8, hf⟩ := xbind hf
      obtain ⟨hPc, hDc, hFc⟩ := xcut (wc := [(a0, .inr (2, [.ref a1, .int v1, .int v2])), (a1, .inl (cT 2, 4096, .inr (.inl f0)))]) hP hD hS hA [2, 3] rfl rfl (by decide)
      refine va_calli (va_runV (C := "ValueBench$Row") (As := [.int 0, .int 3]) (rest := []) ⟨hx, hb, hml, hown, htx⟩ (gR_is l hl9 D cT aK aV H.size n a0 a1 (0 : Int32) (3 : Int32) f0 v1 v2 o7 hq8) ⟨callB_of 2 htx (xw_goodC kw_3_75) rfl rfl rfl (htx _ kw_1_4) (htx _ kw_4_150) ⟨by decide, by decide, by decide +kernel⟩ ⟨Nat.le_of_ble_eq_true rfl, Nat.le_of_ble_eq_true rfl⟩, (htx _ kw_3_73), (htx _ kw_3_74)⟩ ⟨xPre_blind, va_recv hK hP (ci := 2) rfl (q0 := 2) rfl, (fun U hU hW => ⟨rfl, xPre_of hZ hS hFc hPc hDc hK U hU hW⟩)⟩ rfl rfl hl.1 rfl (lv_room (Nat.le_of_ble_eq_true rfl)) dH_has_52 ⟨Nat.le_of_ble_eq_true rfl, Nat.le_of_ble_eq_true rfl⟩) hS (fun q _ h => hFc q h) hFc (fun r9 u9 t H1 locs ht hvm hr9 hB hz1 hk1 hS => ?_)
      obtain ⟨hP1, hK1, hD1⟩ := hB
      rw [ht] at hP1
      obtain ⟨hP, hD⟩ := xjoin (W := [(a2, .inr (2, [.ref a3, .int v4, .int v5])), (a3, .inl (cT 2, 4096, .inr (.inl f3))), (a0, .inr (2, [.ref a1, .int v1, .int v2])), (a1, .inl (cT 2, 4096, .inr (.inl f0)))]) hP hD [2, 3] [0, 1] 2 rfl rfl (by decide) (by decide) hk1 hFc hP1 hD1
      generalize H1 = H at hP hS ⊢
      rw [hr9]
      refine W.eq (g2 := F0 m 55 ls [.int o7]) rfl ?_
      refine lv_if_eq (tgt := 93) hx hb dH_has_55 (by decide) (fun hc => ?_) (fun hc => ?_)
      · rw [if_pos hc] at hf
        refine lv_iconst (v := 1) hx hb dH_has_93 (by decide) ?_
        obtain rfl := Option.some.inj hf
        obtain ⟨hP9, hD9⟩ := xsub (wc := [(a0, .inr (2, [.ref a1, .int v1, .int v2])), (a1, .inl (cT 2, 4096, .inr (.inl f0))), (a2, .inr (2, [.ref a3, .int v4, .int v5])), (a3, .inl (cT 2, 4096, .inr (.inl f3)))]) hP hD [2, 3, 0, 1] rfl rfl (by decide)
        exact W.iret (v := (1 : Int32)) hx hb hr (fun t ht hW => ⟨⟨(1 : Int32), (), rfl, rfl, by rw [ht]; exact hP9, va_K.moved hW.alike hK, hD9⟩, hS.F ht⟩) hS.2.2 dH_has_94
      · rw [if_neg hc] at hf
        refine lv_aload_n hx hb dH_has_58 rfl (lv_at hl 1 rfl) ?_
        refine lv_iconst (v := 0) hx hb dH_has_59 (by decide) ?_
        obtain ⟨o10, hq11, hf⟩ := xbind hf
        obtain ⟨hPc, hDc, hFc⟩ := xcut (wc := [(a0, .inr (2, [.ref a1, .int v1, .int v2])), (a1, .inl (cT 2, 4096, .inr (.inl f0)))]) hP hD hS hA [2, 3] rfl rfl (by decide)
        refine va_calll (va_runV (C := "ValueBench$Row") (As := [.int 0]) (rest := []) ⟨hx, hb, hml, hown, htx⟩ (gR_number l hl9 D cT aK aV H.size n a0 a1 (0 : Int32) f0 v1 v2 o10 hq11) ⟨callB_of 1 htx (xw_goodC kw_3_37) rfl rfl rfl (htx _ kw_1_4) (htx _ kw_4_156) ⟨by decide, by decide, by decide +kernel⟩ ⟨Nat.le_of_ble_eq_true rfl, Nat.le_of_ble_eq_true rfl⟩, (htx _ kw_3_35), (htx _ kw_3_36)⟩ ⟨xPre_blind, va_recv hK hP (ci := 2) rfl (q0 := 2) rfl, (fun U hU hW => ⟨rfl, xPre_of hZ hS hFc hPc hDc hK U hU hW⟩)⟩ rfl rfl hl.1 rfl (lv_room (Nat.le_of_ble_eq_true rfl)) dH_has_60 ⟨Nat.le_of_ble_eq_true rfl, Nat.le_of_ble_eq_true rfl⟩) hS (fun q _ h => hFc q h) hFc (fun r12 u9 t H1 locs ht hvm hr9 hB hz1 hk1 hS => ?_)
        obtain ⟨hP1, hK1, hD1⟩ := hB
        rw [ht] at hP1
        obtain ⟨hP, hD⟩ := xjoin (W := [(a2, .inr (2, [.ref a3, .int v4, .int v5])), (a3, .inl (cT 2, 4096, .inr (.inl f3))), (a0, .inr (2, [.ref a1, .int v1, .int v2])), (a1, .inl (cT 2, 4096, .inr (.inl f0)))]) hP hD [2, 3] [0, 1] 2 rfl rfl (by decide) (by decide) hk1 hFc hP1 hD1
        generalize H1 = H at hP hS ⊢
        rw [hr9]
        refine W.eq (g2 := F0 m 63 ls [.long o10]) rfl ?_
        refine lv_lconst (v := 0) hx hb dH_has_63 (by decide) ?_
        refine W.lcmp hx hb dH_has_64 ?_
        refine lv_if_lt (tgt := 87) hx hb dH_has_65 (by decide) (fun hc => ?_) (fun hc => ?_)
        · rw [if_pos hc] at hf
          refine lv_iconst (v := 0) hx hb dH_has_87 (by decide) ?_
          refine lv_aload_n hx hb dH_has_88 rfl (lv_at hl 2 rfl) ?_
          obtain ⟨o13, hq14, hf⟩ := xbind hf
          obtain ⟨hPc, hDc, hFc⟩ := xcut (wc := [(a2, .inr (2, [.ref a3, .int v4, .int v5])), (a3, .inl (cT 2, 4096, .inr (.inl f3)))]) hP hD hS hA [0, 1] rfl rfl (by decide)
          refine va_calli (va_runS (As := [.int 0, .ref a2]) (rest := []) ⟨hx, hb, hml, hown, htx⟩ (gH_truth l hl9 D cT aK aV H.size n a2 a3 (0 : Int32) f3 v4 v5 o13 hq14) ⟨callB_of 2 htx (xw_goodC kw_4_154) rfl rfl rfl (htx _ kw_1_27) (htx _ kw_4_152) ⟨by decide, by decide, by decide +kernel⟩ ⟨Nat.le_of_ble_eq_true rfl, Nat.le_of_ble_eq_true rfl⟩, htx _ kw_4_153⟩ ⟨xPre_blind, (fun U hU hW => ⟨rfl, xPre_of hZ hS hFc hPc hDc hK U hU hW⟩)⟩ rfl rfl hl.1 rfl (lv_room (Nat.le_of_ble_eq_true rfl)) dH_has_89 ⟨Nat.le_of_ble_eq_true rfl, Nat.le_of_ble_eq_true rfl⟩) hS (fun q _ h => hFc q h) hFc (fun r15 u9 t H1 locs ht hvm hr9 hB hz1 hk1 hS => ?_)
          obtain ⟨hP1, hK1, hD1⟩ := hB
          rw [ht] at hP1
          obtain ⟨hP, hD⟩ := xjoin (W := [(a0, .inr (2, [.ref a1, .int v1, .int v2])), (a1, .inl (cT 2, 4096, .inr (.inl f0))), (a2, .inr (2, [.ref a3, .int o13.2.2.1, .int o13.2.2.2])), (a3, .inl (cT 2, 4096, .inr (.inl o13.2.1)))]) hP hD [0, 1] [2, 3] 2 rfl rfl (by decide) (by decide) hk1 hFc hP1 hD1
          generalize H1 = H at hP hS ⊢
          rw [hr9]
          refine W.eq (g2 := F0 m 92 ls [.int o13.1]) rfl ?_
          obtain rfl := Option.some.inj hf
          obtain ⟨hP9, hD9⟩ := xsub (wc := [(a0, .inr (2, [.ref a1, .int v1, .int v2])), (a1, .inl (cT 2, 4096, .inr (.inl f0))), (a2, .inr (2, [.ref a3, .int o13.2.2.1, .int o13.2.2.2])), (a3, .inl (cT 2, 4096, .inr (.inl o13.2.1)))]) hP hD [0, 1, 2, 3] rfl rfl (by decide)
          exact W.iret (v := o13.1) hx hb hr (fun t ht hW => ⟨⟨o13.1, (), rfl, rfl, by rw [ht]; exact hP9, va_K.moved hW.alike hK, hD9⟩, hS.F ht⟩) hS.2.2 dH_has_92
        · rw [if_neg hc] at hf
          refine lv_aload_n hx hb dH_has_68 rfl (lv_at hl 1 rfl) ?_
          refine lv_iconst (v := 0) hx hb dH_has_69 (by decide) ?_
          obtain ⟨o13, hq14, hf⟩ := xbind hf
          obtain ⟨hPc, hDc, hFc⟩ := xcut (wc := [(a0, .inr (2, [.ref a1, .int v1, .int v2])), (a1, .inl (cT 2, 4096, .inr (.inl f0)))]) hP hD hS hA [2, 3] rfl rfl (by decide)
          refine va_calll (va_runV (C := "ValueBench$Row") (As := [.int 0]) (rest := []) ⟨hx, hb, hml, hown, htx⟩ (gR_number l hl9 D cT aK aV H.size n a0 a1 (0 : Int32) f0 v1 v2 o13 hq14) ⟨callB_of 1 htx (xw_goodC kw_3_37) rfl rfl rfl (htx _ kw_1_4) (htx _ kw_4_156) ⟨by decide, by decide, by decide +kernel⟩ ⟨Nat.le_of_ble_eq_true rfl, Nat.le_of_ble_eq_true rfl⟩, (htx _ kw_3_35), (htx _ kw_3_36)⟩ ⟨xPre_blind, va_recv hK hP (ci := 2) rfl (q0 := 2) rfl, (fun U hU hW => ⟨rfl, xPre_of hZ hS hFc hPc hDc hK U hU hW⟩)⟩ rfl rfl hl.1 rfl (lv_room (Nat.le_of_ble_eq_true rfl)) dH_has_70 ⟨Nat.le_of_ble_eq_true rfl, Nat.le_of_ble_eq_true rfl⟩) hS (fun q _ h => hFc q h) hFc (fun r15 u9 t H1 locs ht hvm hr9 hB hz1 hk1 hS => ?_)
          obtain ⟨hP1, hK1, hD1⟩ := hB
          rw [ht] at hP1
          obtain ⟨hP, hD⟩ := xjoin (W := [(a2, .inr (2, [.ref a3, .int v4, .int v5])), (a3, .inl (cT 2, 4096, .inr (.inl f3))), (a0, .inr (2, [.ref a1, .int v1, .int v2])), (a1, .inl (cT 2, 4096, .inr (.inl f0)))]) hP hD [2, 3] [0, 1] 2 rfl rfl (by decide) (by decide) hk1 hFc hP1 hD1
          generalize H1 = H at hP hS ⊢
          rw [hr9]
          refine W.eq (g2 := F0 m 73 ls [.long o13]) rfl ?_
          refine lv_aload_n hx hb dH_has_73 rfl (lv_at hl 0 rfl) ?_
          refine lv_iconst (v := 0) hx hb dH_has_74 (by decide) ?_
          obtain ⟨o16, hq17, hf⟩ := xbind hf
          obtain ⟨hPc, hDc, hFc⟩ := xcut (wc := [(a0, .inr (2, [.ref a1, .int v1, .int v2])), (a1, .inl (cT 2, 4096, .inr (.inl f0)))]) hP hD hS hA [2, 3] rfl rfl (by decide)
          refine va_calli (va_runV (C := "ValueBench$Row") (As := [.int 0]) (rest := [.long o13]) ⟨hx, hb, hml, hown, htx⟩ (gR_length l hl9 D cT aK aV H.size n a0 a1 (0 : Int32) f0 v1 v2 o16 hq17) ⟨callB_of 1 htx (xw_goodC kw_2_191) rfl rfl rfl (htx _ kw_1_4) (htx _ kw_4_157) ⟨by decide, by decide, by decide +kernel⟩ ⟨Nat.le_of_ble_eq_true rfl, Nat.le_of_ble_eq_true rfl⟩, (htx _ kw_2_189), (htx _ kw_2_190)⟩ ⟨xPre_blind, va_recv hK hP (ci := 2) rfl (q0 := 2) rfl, (fun U hU hW => ⟨rfl, xPre_of hZ hS hFc hPc hDc hK U hU hW⟩)⟩ rfl rfl hl.1 rfl (lv_room (Nat.le_of_ble_eq_true rfl)) dH_has_75 ⟨Nat.le_of_ble_eq_true rfl, Nat.le_of_ble_eq_true rfl⟩) hS (fun q _ h => hFc q h) hFc (fun r18 u9 t H1 locs ht hvm hr9 hB hz1 hk1 hS => ?_)
          obtain ⟨hP1, hK1, hD1⟩ := hB
          rw [ht] at hP1
          obtain ⟨hP, hD⟩ := xjoin (W := [(a2, .inr (2, [.ref a3, .int v4, .int v5])), (a3, .inl (cT 2, 4096, .inr (.inl f3))), (a0, .inr (2, [.ref a1, .int v1, .int v2])), (a1, .inl (cT 2, 4096, .inr (.inl f0)))]) hP hD [2, 3] [0, 1] 2 rfl rfl (by decide) (by decide) hk1 hFc hP1 hD1
          generalize H1 = H at hP hS ⊢
          rw [hr9]
          refine W.eq (g2 := F0 m 78 ls [.int o16, .long o13]) rfl ?_
          refine lv_i2l hx hb dH_has_78 rfl ?_
          refine W.lcmp hx hb dH_has_79 ?_
          refine lv_if_ge (tgt := 87) hx hb dH_has_80 (by decide) (fun hc => ?_) (fun hc => ?_)
          · rw [if_pos hc] at hf
            refine lv_iconst (v := 0) hx hb dH_has_87 (by decide) ?_
            refine lv_aload_n hx hb dH_has_88 rfl (lv_at hl 2 rfl) ?_
            obtain ⟨o19, hq20, hf⟩ := xbind hf
            obtain ⟨hPc, hDc, hFc⟩ := xcut (wc := [(a2, .inr (2, [.ref a3, .int v4, .int v5])), (a3, .inl (cT 2, 4096, .inr (.inl f3)))]) hP hD hS hA [0, 1] rfl rfl (by decide)
            refine va_calli (va_runS (As := [.int 0, .ref a2]) (rest := []) ⟨hx, hb, hml, hown, htx⟩ (gH_truth l hl9 D cT aK aV H.size n a2 a3 (0 : Int32) f3 v4 v5 o19 hq20) ⟨callB_of 2 htx (xw_goodC kw_4_154) rfl rfl rfl (htx _ kw_1_27) (htx _ kw_4_152) ⟨by decide, by decide, by decide +kernel⟩ ⟨Nat.le_of_ble_eq_true rfl, Nat.le_of_ble_eq_true rfl⟩, htx _ kw_4_153⟩ ⟨xPre_blind, (fun U hU hW => ⟨rfl, xPre_of hZ hS hFc hPc hDc hK U hU hW⟩)⟩ rfl rfl hl.1 rfl (lv_room (Nat.le_of_ble_eq_true rfl)) dH_has_89 ⟨Nat.le_of_ble_eq_true rfl, Nat.le_of_ble_eq_true rfl⟩) hS (fun q _ h => hFc q h) hFc (fun r21 u9 t H1 locs ht hvm hr9 hB hz1 hk1 hS => ?_)
            obtain ⟨hP1, hK1, hD1⟩ := hB
            rw [ht] at hP1
            obtain ⟨hP, hD⟩ := xjoin (W := [(a0, .inr (2, [.ref a1, .int v1, .int v2])), (a1, .inl (cT 2, 4096, .inr (.inl f0))), (a2, .inr (2, [.ref a3, .int o19.2.2.1, .int o19.2.2.2])), (a3, .inl (cT 2, 4096, .inr (.inl o19.2.1)))]) hP hD [0, 1] [2, 3] 2 rfl rfl (by decide) (by decide) hk1 hFc hP1 hD1
            generalize H1 = H at hP hS ⊢
            rw [hr9]
            refine W.eq (g2 := F0 m 92 ls [.int o19.1]) rfl ?_
            obtain rfl := Option.some.inj hf
            obtain ⟨hP9, hD9⟩ := xsub (wc := [(a0, .inr (2, [.ref a1, .int v1, .int v2])), (a1, .inl (cT 2, 4096, .inr (.inl f0))), (a2, .inr (2, [.ref a3, .int o19.2.2.1, .int o19.2.2.2])), (a3, .inl (cT 2, 4096, .inr (.inl o19.2.1)))]) hP hD [0, 1, 2, 3] rfl rfl (by decide)
            exact W.iret (v := o19.1) hx hb hr (fun t ht hW => ⟨⟨o19.1, (), rfl, rfl, by rw [ht]; exact hP9, va_K.moved hW.alike hK, hD9⟩, hS.F ht⟩) hS.2.2 dH_has_92
          · rw [if_neg hc] at hf
            refine lv_iconst (v := 1) hx hb dH_has_83 (by decide) ?_
            refine lv_goto (tgt := 88) hx hb dH_has_84 (by decide) ?_
            refine lv_aload_n hx hb dH_has_88 rfl (lv_at hl 2 rfl) ?_
            obtain ⟨o19, hq20, hf⟩ := xbind hf
            obtain ⟨hPc, hDc, hFc⟩ := xcut (wc := [(a2, .inr (2, [.ref a3, .int v4, .int v5])), (a3, .inl (cT 2, 4096, .inr (.inl f3)))]) hP hD hS hA [0, 1] rfl rfl (by decide)
            refine va_calli (va_runS (As := [.int 1, .ref a2]) (rest := []) ⟨hx, hb, hml, hown, htx⟩ (gH_truth l hl9 D cT aK aV H.size n a2 a3 (1 : Int32) f3 v4 v5 o19 hq20) ⟨callB_of 2 htx (xw_goodC kw_4_154) rfl rfl rfl (htx _ kw_1_27) (htx _ kw_4_152) ⟨by decide, by decide, by decide +kernel⟩ ⟨Nat.le_of_ble_eq_true rfl, Nat.le_of_ble_eq_true rfl⟩, htx _ kw_4_153⟩ ⟨xPre_blind, (fun U hU hW => ⟨rfl, xPre_of hZ hS hFc hPc hDc hK U hU hW⟩)⟩ rfl rfl hl.1 rfl (lv_room (Nat.le_of_ble_eq_true rfl)) dH_has_89 ⟨Nat.le_of_ble_eq_true rfl, Nat.le_of_ble_eq_true rfl⟩) hS (fun q _ h => hFc q h) hFc (fun r21 u9 t H1 locs ht hvm hr9 hB hz1 hk1 hS => ?_)
            obtain ⟨hP1, hK1, hD1⟩ := hB
            rw [ht] at hP1
            obtain ⟨hP, hD⟩ := xjoin (W := [(a0, .inr (2, [.ref a1, .int v1, .int v2])), (a1, .inl (cT 2, 4096, .inr (.inl f0))), (a2, .inr (2, [.ref a3, .int o19.2.2.1, .int o19.2.2.2])), (a3, .inl (cT 2, 4096, .inr (.inl o19.2.1)))]) hP hD [0, 1] [2, 3] 2 rfl rfl (by decide) (by decide) hk1 hFc hP1 hD1
            generalize H1 = H at hP hS ⊢
            rw [hr9]
            refine W.eq (g2 := F0 m 92 ls [.int o19.1]) rfl ?_
            obtain rfl := Option.some.inj hf
            obtain ⟨hP9, hD9⟩ := xsub (wc := [(a0, .inr (2, [.ref a1, .int v1, .int v2])), (a1, .inl (cT 2, 4096, .inr (.inl f0))), (a2, .inr (2, [.ref a3, .int o19.2.2.1, .int o19.2.2.2])), (a3, .inl (cT 2, 4096, .inr (.inl o19.2.1)))]) hP hD [0, 1, 2, 3] rfl rfl (by decide)
            exact W.iret (v := o19.1) hx hb hr (fun t ht hW => ⟨⟨o19.1, (), rfl, rfl, by rw [ht]; exact hP9, va_K.moved hW.alike hK, hD9⟩, hS.F ht⟩) hS.2.2 dH_has_92
  · rw [if_neg hc] at hf
    refine lv_aload_n hx hb dH_has_10 rfl (lv_at hl 1 rfl) ?_
    refine lv_iconst (v := 0) hx hb dH_has_11 (by decide) ?_
    refine lv_iconst (v := 4) hx hb dH_has_12 (by decide) ?_
    obtain ⟨o4, hq5, hf⟩ := xbind hf
    obtain ⟨hPc, hDc, hFc⟩ := xcut (wc := [(a0, .inr (2, [.ref a1, .int v1, .int v2])), (a1, .inl (cT 2, 4096, .inr (.inl f0)))]) hP hD hS hA [2, 3] rfl rfl (by decide)
    refine va_calli (va_runV (C := "ValueBench$Row") (As := [.int 0, .int 4]) (rest := []) ⟨hx, hb, hml, hown, htx⟩ (gR_is l hl9 D cT aK aV H.size n a0 a1 (0 : Int32) (4 : Int32) f0 v1 v2 o4 hq5) ⟨callB_of 2 htx (xw_goodC kw_3_75) rfl rfl rfl (htx _ kw_1_4) (htx _ kw_4_150) ⟨by decide, by decide, by decide +kernel⟩ ⟨Nat.le_of_ble_eq_true rfl, Nat.le_of_ble_eq_true rfl⟩, (htx _ kw_3_73), (htx _ kw_3_74)⟩ ⟨xPre_blind, va_recv hK hP (ci := 2) rfl (q0 := 2) rfl, (fun U hU hW => ⟨rfl, xPre_of hZ hS hFc hPc hDc hK U hU hW⟩)⟩ rfl rfl hl.1 rfl (lv_room (Nat.le_of_ble_eq_true rfl)) dH_has_13 ⟨Nat.le_of_ble_eq_true rfl, Nat.le_of_ble_eq_true rfl⟩) hS (fun q _ h => hFc q h) hFc (fun r6 u9 t H1 locs ht hvm hr9 hB hz1 hk1 hS => ?_)
    obtain ⟨hP1, hK1, hD1⟩ := hB
    rw [ht] at hP1
    obtain ⟨hP, hD⟩ := xjoin (W := [(a2, .inr (2, [.ref a3, .int v4, .int v5])), (a3, .inl (cT 2, 4096, .inr (.inl f3))), (a0, .inr (2, [.ref a1, .int v1, .int v2])), (a1, .inl (cT 2, 4096, .inr (.inl f0)))]) hP hD [2, 3] [0, 1] 2 rfl rfl (by decide) (by decide) hk1 hFc hP1 hD1
    generalize H1 = H at hP hS ⊢
    rw [hr9]
    refine W.eq (g2 := F0 m 16 ls [.int o4]) rfl ?_
    refine lv_if_eq (tgt := 40) hx hb dH_has_16 (by decide) (fun hc => ?_) (fun hc => ?_)
    · rw [if_pos hc] at hf
      refine lv_aload_n hx hb dH_has_40 rfl (lv_at hl 0 rfl) ?_
      refine lv_iconst (v := 0) hx hb dH_has_41 (by decide) ?_
      refine lv_iconst (v := 5) hx hb dH_has_42 (by decide) ?_
      obtain ⟨o7, hq8, hf⟩ := xbind hf
      obtain ⟨hPc, hDc, hFc⟩ := xcut (wc := [(a0, .inr (2, [.ref a1, .int v1, .int v2])), (a1, .inl (cT 2, 4096, .inr (.inl f0)))]) hP hD hS hA [2, 3] rfl rfl (by decide)
      refine va_calli (va_runV (C := "ValueBench$Row") (As := [.int 0, .int 5]) (rest := []) ⟨hx, hb, hml, hown, htx⟩ (gR_is l hl9 D cT aK aV H.size n a0 a1 (0 : Int32) (5 : Int32) f0 v1 v2 o7 hq8) ⟨callB_of 2 htx (xw_goodC kw_3_75) rfl rfl rfl (htx _ kw_1_4) (htx _ kw_4_150) ⟨by decide, by decide, by decide +kernel⟩ ⟨Nat.le_of_ble_eq_true rfl, Nat.le_of_ble_eq_true rfl⟩, (htx _ kw_3_73), (htx _ kw_3_74)⟩ ⟨xPre_blind, va_recv hK hP (ci := 2) rfl (q0 := 2) rfl, (fun U hU hW => ⟨rfl, xPre_of hZ hS hFc hPc hDc hK U hU hW⟩)⟩ rfl rfl hl.1 rfl (lv_room (Nat.le_of_ble_eq_true rfl)) dH_has_43 ⟨Nat.le_of_ble_eq_true rfl, Nat.le_of_ble_eq_true rfl⟩) hS (fun q _ h => hFc q h) hFc (fun r9 u9 t H1 locs ht hvm hr9 hB hz1 hk1 hS => ?_)
      obtain ⟨hP1, hK1, hD1⟩ := hB
      rw [ht] at hP1
      obtain ⟨hP, hD⟩ := xjoin (W := [(a2, .inr (2, [.ref a3, .int v4, .int v5])), (a3, .inl (cT 2, 4096, .inr (.inl f3))), (a0, .inr (2, [.ref a1, .int v1, .int v2])), (a1, .inl (cT 2, 4096, .inr (.inl f0)))]) hP hD [2, 3] [0, 1] 2 rfl rfl (by decide) (by decide) hk1 hFc hP1 hD1
      generalize H1 = H at hP hS ⊢
      rw [hr9]
      refine W.eq (g2 := F0 m 46 ls [.int o7]) rfl ?_
      refine lv_if_eq (tgt := 93) hx hb dH_has_46 (by decide) (fun hc => ?_) (fun hc => ?_)
      · rw [if_pos hc] at hf
        refine lv_iconst (v := 1) hx hb dH_has_93 (by decide) ?_
        obtain rfl := Option.some.inj hf
        obtain ⟨hP9, hD9⟩ := xsub (wc := [(a0, .inr (2, [.ref a1, .int v1, .int v2])), (a1, .inl (cT 2, 4096, .inr (.inl f0))), (a2, .inr (2, [.ref a3, .int v4, .int v5])), (a3, .inl (cT 2, 4096, .inr (.inl f3)))]) hP hD [2, 3, 0, 1] rfl rfl (by decide)
        exact W.iret (v := (1 : Int32)) hx hb hr (fun t ht hW => ⟨⟨(1 : Int32), (), rfl, rfl, by rw [ht]; exact hP9, va_K.moved hW.alike hK, hD9⟩, hS.F ht⟩) hS.2.2 dH_has_94
      · rw [if_neg hc] at hf
        refine lv_aload_n hx hb dH_has_49 rfl (lv_at hl 1 rfl) ?_
        refine lv_iconst (v := 0) hx hb dH_has_50 (by decide) ?_
        refine lv_iconst (v := 3) hx hb dH_has_51 (by decide) ?_
        obtain ⟨o10, hq11, hf⟩ := xbind hf
        obtain ⟨hPc, hDc, hFc⟩ := xcut (wc := [(a0, .inr (2, [.ref a1, .int v1, .int v2])), (a1, .inl (cT 2, 4096, .inr (.inl f0)))]) hP hD hS hA [2, 3] rfl rfl (by decide)
        refine va_calli (va_runV (C := "ValueBench$Row") (As := [.int 0, .int 3]) (rest := []) ⟨hx, hb, hml, hown, htx⟩ (gR_is l hl9 D cT aK aV H.size n a0 a1 (0 : Int32) (3 : Int32) f0 v1 v2 o10 hq11) ⟨callB_of 2 htx (xw_goodC kw_3_75) rfl rfl rfl (htx _ kw_1_4) (htx _ kw_4_150) ⟨by decide, by decide, by decide +kernel⟩ ⟨Nat.le_of_ble_eq_true rfl, Nat.le_of_ble_eq_true rfl⟩, (htx _ kw_3_73), (htx _ kw_3_74)⟩ ⟨xPre_blind, va_recv hK hP (ci := 2) rfl (q0 := 2) rfl, (fun U hU hW => ⟨rfl, xPre_of hZ hS hFc hPc hDc hK U hU hW⟩)⟩ rfl rfl hl.1 rfl (lv_room (Nat.le_of_ble_eq_true rfl)) dH_has_52 ⟨Nat.le_of_ble_eq_true rfl, Nat.le_of_ble_eq_true rfl⟩) hS (fun q _ h => hFc q h) hFc (fun r12 u9 t H1 locs ht hvm hr9 hB hz1 hk1 hS => ?_)
        obtain ⟨hP1, hK1, hD1⟩ := hB
        rw [ht] at hP1
        obtain ⟨hP, hD⟩ := xjoin (W := [(a2, .inr (2, [.ref a3, .int v4, .int v5])), (a3, .inl (cT 2, 4096, .inr (.inl f3))), (a0, .inr (2, [.ref a1, .int v1, .int v2])), (a1, .inl (cT 2, 4096, .inr (.inl f0)))]) hP hD [2, 3] [0, 1] 2 rfl rfl (by decide) (by decide) hk1 hFc hP1 hD1
        generalize H1 = H at hP hS ⊢
        rw [hr9]
        refine W.eq (g2 := F0 m 55 ls [.int o10]) rfl ?_
        refine lv_if_eq (tgt := 93) hx hb dH_has_55 (by decide) (fun hc => ?_) (fun hc => ?_)
        · rw [if_pos hc] at hf
          refine lv_iconst (v := 1) hx hb dH_has_93 (by decide) ?_
          obtain rfl := Option.some.inj hf
          obtain ⟨hP9, hD9⟩ := xsub (wc := [(a0, .inr (2, [.ref a1, .int v1, .int v2])), (a1, .inl (cT 2, 4096, .inr (.inl f0))), (a2, .inr (2, [.ref a3, .int v4, .int v5])), (a3, .inl (cT 2, 4096, .inr (.inl f3)))]) hP hD [2, 3, 0, 1] rfl rfl (by decide)
          exact W.iret (v := (1 : Int32)) hx hb hr (fun t ht hW => ⟨⟨(1 : Int32), (), rfl, rfl, by rw [ht]; exact hP9, va_K.moved hW.alike hK, hD9⟩, hS.F ht⟩) hS.2.2 dH_has_94
        · rw [if_neg hc] at hf
          refine lv_aload_n hx hb dH_has_58 rfl (lv_at hl 1 rfl) ?_
          refine lv_iconst (v := 0) hx hb dH_has_59 (by decide) ?_
          obtain ⟨o13, hq14, hf⟩ := xbind hf
          obtain ⟨hPc, hDc, hFc⟩ := xcut (wc := [(a0, .inr (2, [.ref a1, .int v1, .int v2])), (a1, .inl (cT 2, 4096, .inr (.inl f0)))]) hP hD hS hA [2, 3] rfl rfl (by decide)
          refine va_calll (va_runV (C := "ValueBench$Row") (As := [.int 0]) (rest := []) ⟨hx, hb, hml, hown, htx⟩ (gR_number l hl9 D cT aK aV H.size n a0 a1 (0 : Int32) f0 v1 v2 o13 hq14) ⟨callB_of 1 htx (xw_goodC kw_3_37) rfl rfl rfl (htx _ kw_1_4) (htx _ kw_4_156) ⟨by decide, by decide, by decide +kernel⟩ ⟨Nat.le_of_ble_eq_true rfl, Nat.le_of_ble_eq_true rfl⟩, (htx _ kw_3_35), (htx _ kw_3_36)⟩ ⟨xPre_blind, va_recv hK hP (ci := 2) rfl (q0 := 2) rfl, (fun U hU hW => ⟨rfl, xPre_of hZ hS hFc hPc hDc hK U hU hW⟩)⟩ rfl rfl hl.1 rfl (lv_room (Nat.le_of_ble_eq_true rfl)) dH_has_60 ⟨Nat.le_of_ble_eq_true rfl, Nat.le_of_ble_eq_true rfl⟩) hS (fun q _ h => hFc q h) hFc (fun r15 u9 t H1 locs ht hvm hr9 hB hz1 hk1 hS => ?_)
          obtain ⟨hP1, hK1, hD1⟩ := hB
          rw [ht] at hP1
          obtain ⟨hP, hD⟩ := xjoin (W := [(a2, .inr (2, [.ref a3, .int v4, .int v5])), (a3, .inl (cT 2, 4096, .inr (.inl f3))), (a0, .inr (2, [.ref a1, .int v1, .int v2])), (a1, .inl (cT 2, 4096, .inr (.inl f0)))]) hP hD [2, 3] [0, 1] 2 rfl rfl (by decide) (by decide) hk1 hFc hP1 hD1
          generalize H1 = H at hP hS ⊢
          rw [hr9]
          refine W.eq (g2 := F0 m 63 ls [.long o13]) rfl ?_
          refine lv_lconst (v := 0) hx hb dH_has_63 (by decide) ?_
          refine W.lcmp hx hb dH_has_64 ?_
          refine lv_if_lt (tgt := 87) hx hb dH_has_65 (by decide) (fun hc => ?_) (fun hc => ?_)
          · rw [if_pos hc] at hf
            refine lv_iconst (v := 0) hx hb dH_has_87 (by decide) ?_
            refine lv_aload_n hx hb dH_has_88 rfl (lv_at hl 2 rfl) ?_
            obtain ⟨o16, hq17, hf⟩ := xbind hf
            obtain ⟨hPc, hDc, hFc⟩ := xcut (wc := [(a2, .inr (2, [.ref a3, .int v4, .int v5])), (a3, .inl (cT 2, 4096, .inr (.inl f3)))]) hP hD hS hA [0, 1] rfl rfl (by decide)
            refine va_calli (va_runS (As := [.int 0, .ref a2]) (rest := []) ⟨hx, hb, hml, hown, htx⟩ (gH_truth l hl9 D cT aK aV H.size n a2 a3 (0 : Int32) f3 v4 v5 o16 hq17) ⟨callB_of 2 htx (xw_goodC kw_4_154) rfl rfl rfl (htx _ kw_1_27) (htx _ kw_4_152) ⟨by decide, by decide, by decide +kernel⟩ ⟨Nat.le_of_ble_eq_true rfl, Nat.le_of_ble_eq_true rfl⟩, htx _ kw_4_153⟩ ⟨xPre_blind, (fun U hU hW => ⟨rfl, xPre_of hZ hS hFc hPc hDc hK U hU hW⟩)⟩ rfl rfl hl.1 rfl (lv_room (Nat.le_of_ble_eq_true rfl)) dH_has_89 ⟨Nat.le_of_ble_eq_true rfl, Nat.le_of_ble_eq_true rfl⟩) hS (fun q _ h => hFc q h) hFc (fun r18 u9 t H1 locs ht hvm hr9 hB hz1 hk1 hS => ?_)
            obtain ⟨hP1, hK1, hD1⟩ := hB
            rw [ht] at hP1
            obtain ⟨hP, hD⟩ := xjoin (W := [(a0, .inr (2, [.ref a1, .int v1, .int v2])), (a1, .inl (cT 2, 4096, .inr (.inl f0))), (a2, .inr (2, [.ref a3, .int o16.2.2.1, .int o16.2.2.2])), (a3, .inl (cT 2, 4096, .inr (.inl o16.2.1)))]) hP hD [0, 1] [2, 3] 2 rfl rfl (by decide) (by decide) hk1 hFc hP1 hD1
            generalize H1 = H at hP hS ⊢
            rw [hr9]
            refine W.eq (g2 := F0 m 92 ls [.int o16.1]) rfl ?_
            obtain rfl := Option.some.inj hf
            obtain ⟨hP9, hD9⟩ := xsub (wc := [(a0, .inr (2, [.ref a1, .int v1, .int v2])), (a1, .inl (cT 2, 4096, .inr (.inl f0))), (a2, .inr (2, [.ref a3, .int o16.2.2.1, .int o16.2.2.2])), (a3, .inl (cT 2, 4096, .inr (.inl o16.2.1)))]) hP hD [0, 1, 2, 3] rfl rfl (by decide)
            exact W.iret (v := o16.1) hx hb hr (fun t ht hW => ⟨⟨o16.1, (), rfl, rfl, by rw [ht]; exact hP9, va_K.moved hW.alike hK, hD9⟩, hS.F ht⟩) hS.2.2 dH_has_92
          · rw [if_neg hc] at hf
            refine lv_aload_n hx hb dH_has_68 rfl (lv_at hl 1 rfl) ?_
            refine lv_iconst (v := 0) hx hb dH_has_69 (by decide) ?_
            obtain ⟨o16, hq17, hf⟩ := xbind hf
            obtain ⟨hPc, hDc, hFc⟩ := xcut (wc := [(a0, .inr (2, [.ref a1, .int v1, .int v2])), (a1, .inl (cT 2, 4096, .inr (.inl f0)))]) hP hD hS hA [2, 3] rfl rfl (by decide)
            refine va_calll (va_runV (C := "ValueBench$Row") (As := [.int 0]) (rest := []) ⟨hx, hb, hml, hown, htx⟩ (gR_number l hl9 D cT aK aV H.size n a0 a1 (0 : Int32) f0 v1 v2 o16 hq17) ⟨callB_of 1 htx (xw_goodC kw_3_37) rfl rfl rfl (htx _ kw_1_4) (htx _ kw_4_156) ⟨by decide, by decide, by decide +kernel⟩ ⟨Nat.le_of_ble_eq_true rfl, Nat.le_of_ble_eq_true rfl⟩, (htx _ kw_3_35), (htx _ kw_3_36)⟩ ⟨xPre_blind, va_recv hK hP (ci := 2) rfl (q0 := 2) rfl, (fun U hU hW => ⟨rfl, xPre_of hZ hS hFc hPc hDc hK U hU hW⟩)⟩ rfl rfl hl.1 rfl (lv_room (Nat.le_of_ble_eq_true rfl)) dH_has_70 ⟨Nat.le_of_ble_eq_true rfl, Nat.le_of_ble_eq_true rfl⟩) hS (fun q _ h => hFc q h) hFc (fun r18 u9 t H1 locs ht hvm hr9 hB hz1 hk1 hS => ?_)
            obtain ⟨hP1, hK1, hD1⟩ := hB
            rw [ht] at hP1
            obtain ⟨hP, hD⟩ := xjoin (W := [(a2, .inr (2, [.ref a3, .int v4, .int v5])), (a3, .inl (cT 2, 4096, .inr (.inl f3))), (a0, .inr (2, [.ref a1, .int v1, .int v2])), (a1, .inl (cT 2, 4096, .inr (.inl f0)))]) hP hD [2, 3] [0, 1] 2 rfl rfl (by decide) (by decide) hk1 hFc hP1 hD1
            generalize H1 = H at hP hS ⊢
            rw [hr9]
            refine W.eq (g2 := F0 m 73 ls [.long o16]) rfl ?_
            refine lv_aload_n hx hb dH_has_73 rfl (lv_at hl 0 rfl) ?_
            refine lv_iconst (v := 0) hx hb dH_has_74 (by decide) ?_
            obtain ⟨o19, hq20, hf⟩ := xbind hf
            obtain ⟨hPc, hDc, hFc⟩ := xcut (wc := [(a0, .inr (2, [.ref a1, .int v1, .int v2])), (a1, .inl (cT 2, 4096, .inr (.inl f0)))]) hP hD hS hA [2, 3] rfl rfl (by decide)
            refine va_calli (va_runV (C := "ValueBench$Row") (As := [.int 0]) (rest := [.long o16]) ⟨hx, hb, hml, hown, htx⟩ (gR_length l hl9 D cT aK aV H.size n a0 a1 (0 : Int32) f0 v1 v2 o19 hq20) ⟨callB_of 1 htx (xw_goodC kw_2_191) rfl rfl rfl (htx _ kw_1_4) (htx _ kw_4_157) ⟨by decide, by decide, by decide +kernel⟩ ⟨Nat.le_of_ble_eq_true rfl, Nat.le_of_ble_eq_true rfl⟩, (htx _ kw_2_189), (htx _ kw_2_190)⟩ ⟨xPre_blind, va_recv hK hP (ci := 2) rfl (q0 := 2) rfl, (fun U hU hW => ⟨rfl, xPre_of hZ hS hFc hPc hDc hK U hU hW⟩)⟩ rfl rfl hl.1 rfl (lv_room (Nat.le_of_ble_eq_true rfl)) dH_has_75 ⟨Nat.le_of_ble_eq_true rfl, Nat.le_of_ble_eq_true rfl⟩) hS (fun q _ h => hFc q h) hFc (fun r21 u9 t H1 locs ht hvm hr9 hB hz1 hk1 hS => ?_)
            obtain ⟨hP1, hK1, hD1⟩ := hB
            rw [ht] at hP1
            obtain ⟨hP, hD⟩ := xjoin (W := [(a2, .inr (2, [.ref a3, .int v4, .int v5])), (a3, .inl (cT 2, 4096, .inr (.inl f3))), (a0, .inr (2, [.ref a1, .int v1, .int v2])), (a1, .inl (cT 2, 4096, .inr (.inl f0)))]) hP hD [2, 3] [0, 1] 2 rfl rfl (by decide) (by decide) hk1 hFc hP1 hD1
            generalize H1 = H at hP hS ⊢
            rw [hr9]
            refine W.eq (g2 := F0 m 78 ls [.int o19, .long o16]) rfl ?_
            refine lv_i2l hx hb dH_has_78 rfl ?_
            refine W.lcmp hx hb dH_has_79 ?_
            refine lv_if_ge (tgt := 87) hx hb dH_has_80 (by decide) (fun hc => ?_) (fun hc => ?_)
            · rw [if_pos hc] at hf
              refine lv_iconst (v := 0) hx hb dH_has_87 (by decide) ?_
              refine lv_aload_n hx hb dH_has_88 rfl (lv_at hl 2 rfl) ?_
              obtain ⟨o22, hq23, hf⟩ := xbind hf
              obtain ⟨hPc, hDc, hFc⟩ := xcut (wc := [(a2, .inr (2, [.ref a3, .int v4, .int v5])), (a3, .inl (cT 2, 4096, .inr (.inl f3)))]) hP hD hS hA [0, 1] rfl rfl (by decide)
              refine va_calli (va_runS (As := [.int 0, .ref a2]) (rest := []) ⟨hx, hb, hml, hown, htx⟩ (gH_truth l hl9 D cT aK aV H.size n a2 a3 (0 : Int32) f3 v4 v5 o22 hq23) ⟨callB_of 2 htx (xw_goodC kw_4_154) rfl rfl rfl (htx _ kw_1_27) (htx _ kw_4_152) ⟨by decide, by decide, by decide +kernel⟩ ⟨Nat.le_of_ble_eq_true rfl, Nat.le_of_ble_eq_true rfl⟩, htx _ kw_4_153⟩ ⟨xPre_blind, (fun U hU hW => ⟨rfl, xPre_of hZ hS hFc hPc hDc hK U hU hW⟩)⟩ rfl rfl hl.1 rfl (lv_room (Nat.le_of_ble_eq_true rfl)) dH_has_89 ⟨Nat.le_of_ble_eq_true rfl, Nat.le_of_ble_eq_true rfl⟩) hS (fun q _ h => hFc q h) hFc (fun r24 u9 t H1 locs ht hvm hr9 hB hz1 hk1 hS => ?_)
              obtain ⟨hP1, hK1, hD1⟩ := hB
              rw [ht] at hP1
              obtain ⟨hP, hD⟩ := xjoin (W := [(a0, .inr (2, [.ref a1, .int v1, .int v2])), (a1, .inl (cT 2, 4096, .inr (.inl f0))), (a2, .inr (2, [.ref a3, .int o22.2.2.1, .int o22.2.2.2])), (a3, .inl (cT 2, 4096, .inr (.inl o22.2.1)))]) hP hD [0, 1] [2, 3] 2 rfl rfl (by decide) (by decide) hk1 hFc hP1 hD1
              generalize H1 = H at hP hS ⊢
              rw [hr9]
              refine W.eq (g2 := F0 m 92 ls [.int o22.1]) rfl ?_
              obtain rfl := Option.some.inj hf
              obtain ⟨hP9, hD9⟩ := xsub (wc := [(a0, .inr (2, [.ref a1, .int v1, .int v2])), (a1, .inl (cT 2, 4096, .inr (.inl f0))), (a2, .inr (2, [.ref a3, .int o22.2.2.1, .int o22.2.2.2])), (a3, .inl (cT 2, 4096, .inr (.inl o22.2.1)))]) hP hD [0, 1, 2, 3] rfl rfl (by decide)
              exact W.iret (v := o22.1) hx hb hr (fun t ht hW => ⟨⟨o22.1, (), rfl, rfl, by rw [ht]; exact hP9, va_K.moved hW.alike hK, hD9⟩, hS.F ht⟩) hS.2.2 dH_has_92
            · rw [if_neg hc] at hf
              refine lv_iconst (v := 1) hx hb dH_has_83 (by decide) ?_
              refine lv_goto (tgt := 88) hx hb dH_has_84 (by decide) ?_
              refine lv_aload_n hx hb dH_has_88 rfl (lv_at hl 2 rfl) ?_
              obtain ⟨o22, hq23, hf⟩ := xbind hf
              obtain ⟨hPc, hDc, hFc⟩ := xcut (wc := [(a2, .inr (2, [.ref a3, .int v4, .int v5])), (a3, .inl (cT 2, 4096, .inr (.inl f3)))]) hP hD hS hA [0, 1] rfl rfl (by decide)
              refine va_calli (va_runS (As := [.int 1, .ref a2]) (rest := []) ⟨hx, hb, hml, hown, htx⟩ (gH_truth l hl9 D cT aK aV H.size n a2 a3 (1 : Int32) f3 v4 v5 o22 hq23) ⟨callB_of 2 htx (xw_goodC kw_4_154) rfl rfl rfl (htx _ kw_1_27) (htx _ kw_4_152) ⟨by decide, by decide, by decide +kernel⟩ ⟨Nat.le_of_ble_eq_true rfl, Nat.le_of_ble_eq_true rfl⟩, htx _ kw_4_153⟩ ⟨xPre_blind, (fun U hU hW => ⟨rfl, xPre_of hZ hS hFc hPc hDc hK U hU hW⟩)⟩ rfl rfl hl.1 rfl (lv_room (Nat.le_of_ble_eq_true rfl)) dH_has_89 ⟨Nat.le_of_ble_eq_true rfl, Nat.le_of_ble_eq_true rfl⟩) hS (fun q _ h => hFc q h) hFc (fun r24 u9 t H1 locs ht hvm hr9 hB hz1 hk1 hS => ?_)
              obtain ⟨hP1, hK1, hD1⟩ := hB
              rw [ht] at hP1
              obtain ⟨hP, hD⟩ := xjoin (W := [(a0, .inr (2, [.ref a1, .int v1, .int v2])), (a1, .inl (cT 2, 4096, .inr (.inl f0))), (a2, .inr (2, [.ref a3, .int o22.2.2.1, .int o22.2.2.2])), (a3, .inl (cT 2, 4096, .inr (.inl o22.2.1)))]) hP hD [0, 1] [2, 3] 2 rfl rfl (by decide) (by decide) hk1 hFc hP1 hD1
              generalize H1 = H at hP hS ⊢
              rw [hr9]
              refine W.eq (g2 := F0 m 92 ls [.int o22.1]) rfl ?_
              obtain rfl := Option.some.inj hf
              obtain ⟨hP9, hD9⟩ := xsub (wc := [(a0, .inr (2, [.ref a1, .int v1, .int v2])), (a1, .inl (cT 2, 4096, .inr (.inl f0))), (a2, .inr (2, [.ref a3, .int o22.2.2.1, .int o22.2.2.2])), (a3, .inl (cT 2, 4096, .inr (.inl o22.2.1)))]) hP hD [0, 1, 2, 3] rfl rfl (by decide)
              exact W.iret (v := o22.1) hx hb hr (fun t ht hW => ⟨⟨o22.1, (), rfl, rfl, by rw [ht]; exact hP9, va_K.moved hW.alike hK, hD9⟩, hS.F ht⟩) hS.2.2 dH_has_92
    · rw [if_neg hc] at hf
      refine lv_aload_n hx hb dH_has_19 rfl (lv_at hl 0 rfl) ?_
      refine lv_iconst (v := 0) hx hb dH_has_20 (by decide) ?_
      refine lv_aload_n hx hb dH_has_21 rfl (lv_at hl 1 rfl) ?_
      refine lv_iconst (v := 0) hx hb dH_has_22 (by decide) ?_
      obtain ⟨o7, hq8, hf⟩ := xbind hf
      obtain ⟨hPc, hDc, hFc⟩ := xcut (wc := [(a0, .inr (2, [.ref a1, .int v1, .int v2])), (a1, .inl (cT 2, 4096, .inr (.inl f0)))]) hP hD hS hA [2, 3] rfl rfl (by decide)
      refine va_calli (va_runV (C := "ValueBench$Row") (As := [.int 0, .ref a0, .int 0]) (rest := []) ⟨hx, hb, hml, hown, htx⟩ (gR_valueOf l hl9 D cT aK aV H.size n a0 a1 (0 : Int32) (0 : Int32) f0 v1 v2 o7 hq8) ⟨callB_of 3 htx (xw_goodC kw_2_187) rfl rfl rfl (htx _ kw_1_4) (htx _ kw_4_151) ⟨by decide, by decide, by decide +kernel⟩ ⟨Nat.le_of_ble_eq_true rfl, Nat.le_of_ble_eq_true rfl⟩, (htx _ kw_2_185), (htx _ kw_2_186)⟩ ⟨xPre_blind, va_recv hK hP (ci := 2) rfl (q0 := 2) rfl, (fun U hU hW => ⟨rfl, xPre_of hZ hS hFc hPc hDc hK U hU hW⟩)⟩ rfl rfl hl.1 rfl (lv_room (Nat.le_of_ble_eq_true rfl)) dH_has_23 ⟨Nat.le_of_ble_eq_true rfl, Nat.le_of_ble_eq_true rfl⟩) hS (fun q _ h => hFc q h) hFc (fun r9 u9 t H1 locs ht hvm hr9 hB hz1 hk1 hS => ?_)
      obtain ⟨hP1, hK1, hD1⟩ := hB
      rw [ht] at hP1
      obtain ⟨hP, hD⟩ := xjoin (W := [(a2, .inr (2, [.ref a3, .int v4, .int v5])), (a3, .inl (cT 2, 4096, .inr (.inl f3))), (a0, .inr (2, [.ref a1, .int v1, .int v2])), (a1, .inl (cT 2, 4096, .inr (.inl f0)))]) hP hD [2, 3] [0, 1] 2 rfl rfl (by decide) (by decide) hk1 hFc hP1 hD1
      generalize H1 = H at hP hS ⊢
      rw [hr9]
      refine W.eq (g2 := F0 m 26 ls [.int o7]) rfl ?_
      refine lv_iconst (v := (-1)) hx hb dH_has_26 (by decide) ?_
      refine lv_icmp_eq (tgt := 34) hx hb dH_has_27 (by decide) (fun hc => ?_) (fun hc => ?_)
      · rw [if_pos hc] at hf
        refine lv_iconst (v := 0) hx hb dH_has_34 (by decide) ?_
        refine lv_aload_n hx hb dH_has_35 rfl (lv_at hl 2 rfl) ?_
        obtain ⟨o10, hq11, hf⟩ := xbind hf
        obtain ⟨hPc, hDc, hFc⟩ := xcut (wc := [(a2, .inr (2, [.ref a3, .int v4, .int v5])), (a3, .inl (cT 2, 4096, .inr (.inl f3)))]) hP hD hS hA [0, 1] rfl rfl (by decide)
        refine va_calli (va_runS (As := [.int 0, .ref a2]) (rest := []) ⟨hx, hb, hml, hown, htx⟩ (gH_truth l hl9 D cT aK aV H.size n a2 a3 (0 : Int32) f3 v4 v5 o10 hq11) ⟨callB_of 2 htx (xw_goodC kw_4_154) rfl rfl rfl (htx _ kw_1_27) (htx _ kw_4_152) ⟨by decide, by decide, by decide +kernel⟩ ⟨Nat.le_of_ble_eq_true rfl, Nat.le_of_ble_eq_true rfl⟩, htx _ kw_4_153⟩ ⟨xPre_blind, (fun U hU hW => ⟨rfl, xPre_of hZ hS hFc hPc hDc hK U hU hW⟩)⟩ rfl rfl hl.1 rfl (lv_room (Nat.le_of_ble_eq_true rfl)) dH_has_36 ⟨Nat.le_of_ble_eq_true rfl, Nat.le_of_ble_eq_true rfl⟩) hS (fun q _ h => hFc q h) hFc (fun r12 u9 t H1 locs ht hvm hr9 hB hz1 hk1 hS => ?_)
        obtain ⟨hP1, hK1, hD1⟩ := hB
        rw [ht] at hP1
        obtain ⟨hP, hD⟩ := xjoin (W := [(a0, .inr (2, [.ref a1, .int v1, .int v2])), (a1, .inl (cT 2, 4096, .inr (.inl f0))), (a2, .inr (2, [.ref a3, .int o10.2.2.1, .int o10.2.2.2])), (a3, .inl (cT 2, 4096, .inr (.inl o10.2.1)))]) hP hD [0, 1] [2, 3] 2 rfl rfl (by decide) (by decide) hk1 hFc hP1 hD1
        generalize H1 = H at hP hS ⊢
        rw [hr9]
        refine W.eq (g2 := F0 m 39 ls [.int o10.1]) rfl ?_
        obtain rfl := Option.some.inj hf
        obtain ⟨hP9, hD9⟩ := xsub (wc := [(a0, .inr (2, [.ref a1, .int v1, .int v2])), (a1, .inl (cT 2, 4096, .inr (.inl f0))), (a2, .inr (2, [.ref a3, .int o10.2.2.1, .int o10.2.2.2])), (a3, .inl (cT 2, 4096, .inr (.inl o10.2.1)))]) hP hD [0, 1, 2, 3] rfl rfl (by decide)
        exact W.iret (v := o10.1) hx hb hr (fun t ht hW => ⟨⟨o10.1, (), rfl, rfl, by rw [ht]; exact hP9, va_K.moved hW.alike hK, hD9⟩, hS.F ht⟩) hS.2.2 dH_has_39
      · rw [if_neg hc] at hf
        refine lv_iconst (v := 1) hx hb dH_has_30 (by decide) ?_
        refine lv_goto (tgt := 35) hx hb dH_has_31 (by decide) ?_
        refine lv_aload_n hx hb dH_has_35 rfl (lv_at hl 2 rfl) ?_
        obtain ⟨o10, hq11, hf⟩ := xbind hf
        obtain ⟨hPc, hDc, hFc⟩ := xcut (wc := [(a2, .inr (2, [.ref a3, .int v4, .int v5])), (a3, .inl (cT 2, 4096, .inr (.inl f3)))]) hP hD hS hA [0, 1] rfl rfl (by decide)
        refine va_calli (va_runS (As := [.int 1, .ref a2]) (rest := []) ⟨hx, hb, hml, hown, htx⟩ (gH_truth l hl9 D cT aK aV H.size n a2 a3 (1 : Int32) f3 v4 v5 o10 hq11) ⟨callB_of 2 htx (xw_goodC kw_4_154) rfl rfl rfl (htx _ kw_1_27) (htx _ kw_4_152) ⟨by decide, by decide, by decide +kernel⟩ ⟨Nat.le_of_ble_eq_true rfl, Nat.le_of_ble_eq_true rfl⟩, htx _ kw_4_153⟩ ⟨xPre_blind, (fun U hU hW => ⟨rfl, xPre_of hZ hS hFc hPc hDc hK U hU hW⟩)⟩ rfl rfl hl.1 rfl (lv_room (Nat.le_of_ble_eq_true rfl)) dH_has_36 ⟨Nat.le_of_ble_eq_true rfl, Nat.le_of_ble_eq_true rfl⟩) hS (fun q _ h => hFc q h) hFc (fun r12 u9 t H1 locs ht hvm hr9 hB hz1 hk1 hS => ?_)
        obtain ⟨hP1, hK1, hD1⟩ := hB
        rw [ht] at hP1
        obtain ⟨hP, hD⟩ := xjoin (W := [(a0, .inr (2, [.ref a1, .int v1, .int v2])), (a1, .inl (cT 2, 4096, .inr (.inl f0))), (a2, .inr (2, [.ref a3, .int o10.2.2.1, .int o10.2.2.2])), (a3, .inl (cT 2, 4096, .inr (.inl o10.2.1)))]) hP hD [0, 1] [2, 3] 2 rfl rfl (by decide) (by decide) hk1 hFc hP1 hD1
        generalize H1 = H at hP hS ⊢
        rw [hr9]
        refine W.eq (g2 := F0 m 39 ls [.int o10.1]) rfl ?_
        obtain rfl := Option.some.inj hf
        obtain ⟨hP9, hD9⟩ := xsub (wc := [(a0, .inr (2, [.ref a1, .int v1, .int v2])), (a1, .inl (cT 2, 4096, .inr (.inl f0))), (a2, .inr (2, [.ref a3, .int o10.2.2.1, .int o10.2.2.2])), (a3, .inl (cT 2, 4096, .inr (.inl o10.2.1)))]) hP hD [0, 1, 2, 3] rfl rfl (by decide)
        exact W.iret (v := o10.1) hx hb hr (fun t ht hW => ⟨⟨o10.1, (), rfl, rfl, by rw [ht]; exact hP9, va_K.moved hW.alike hK, hD9⟩, hS.F ht⟩) hS.2.2 dH_has_39
set_option maxHeartbeats 400000000 in
set_option maxRecDepth 100000 in
theorem gH_areOfOneKinda (l : Launch) (hl9 : l.stackTraces = false) (D : va_G) (cT : Nat → ClassId) (aK aV : Nat → Nat) (sz n : Nat) (a0 : Nat) (a1 : Nat) (x1 : Int32) (x3 : Int32) (f0 : Nat → Int64) (v1 : Int32) (v2 : Int32) (out : Int32) (hf : fH_areOfOneKinda n x1 x3 f0 v1 v2 = some out) : xMet l yH_areOfOneKind wyH_areOfOneKind 1 0 0 21 D cT aK aV sz [.ref a0, .int x1, .ref a0, .int x3] [(a0, .inr (2, [.ref a1, .int v1, .int v2])), (a1, .inl (cT 2, 4096, .inr (.inl f0)))] (fun A => va_Qi (fun (r : Int32) (_ : Unit) => r = out) (fun _ t => xB D xcl cT A [(a0, .inr (2, [.ref a1, .int v1, .int v2])), (a1, .inl (cT 2, 4096, .inr (.inl f0)))] t) A) := by
  refine Met.ofW (cc := prog_5_method_9_code) (maxL := 4) (ret := (some .boolean)) (by decide) rfl ?_
  intro p e s m args below meth c s₁ B hml hv
  obtain ⟨rfl, hsz, hZ, hP, hK, hD0⟩ := hv
  have hx := B.exec
  have hb := B.bytes
  have hr := B.returns
  have hts := atoms_spec (ws := wyH_areOfOneKind) B.pre
  have htx := fun w h => hts w (List.mem_cons_of_mem _ h)
  have hown : s.vm.findClass "ValueBench$Pairs" = some m.cls := findClass_of_methodNamed B.named
  have hlocks := B.notSynchronized
  subst hsz
  have hD := hD0.self (sz := s.heap.size)
  generalize hAe : va_A [(a0, .inr (2, [.ref a1, .int v1, .int v2])), (a1, .inl (cT 2, 4096, .inr (.inl f0)))] s.heap.size = A at hD hZ ⊢
  have hA : ∀ q : Nat, s.heap.size ≤ q → A q := fun q h => by rw [← hAe]; exact Or.inr h
  have hS : va_S A s.heap s.heap [] := va_S.rf
  have hP : va_P D xcl [(a0, .inr (2, [.ref a1, .int v1, .int v2])), (a1, .inl (cT 2, 4096, .inr (.inl f0)))] s.heap := hP
  have hl := lv_entry ([.ref a0, .int x1, .ref a0, .int x3]) (n := 4) (Nat.le_of_ble_eq_true rfl)
  rw [lg_entry_eq]
  generalize (lg_sl ([.ref a0, .int x1, .ref a0, .int x3]) ++ List.replicate (4 - (lg_sl ([.ref a0, .int x1, .ref a0, .int x3])).length) Slot.unset).toArray = ls at hl ⊢
  have hl : lv_has ls 4 [(0, .ref a0), (1, .int x1), (2, .ref a0), (3, .int x3)] := hl
  unfold fH_areOfOneKinda at hf
  refine lv_aload_n hx hb dH_areOfOneKind_0 rfl (lv_at hl 0 rfl) ?_
  refine lv_iload_n hx hb dH_areOfOneKind_1 rfl (lv_at hl 1 rfl) ?_
  obtain ⟨o1, hq2, hf⟩ := xbind hf
  obtain ⟨hPc, hDc, hFc⟩ := xcut (wc := [(a0, .inr (2, [.ref a1, .int v1, .int v2])), (a1, .inl (cT 2, 4096, .inr (.inl f0)))]) hP hD hS hA [0, 1] rfl rfl (by decide)
  refine va_calli (va_runV (C := "ValueBench$Row") (As := [.int x1]) (rest := []) ⟨hx, hb, hml, hown, htx⟩ (gR_kind l hl9 D cT aK aV s.heap.size n a0 a1 x1 f0 v1 v2 o1 hq2) ⟨callB_of 1 htx (xw_goodC kw_3_24) rfl rfl rfl (htx _ kw_1_4) (htx _ kw_4_164) ⟨by decide, by decide, by decide +kernel⟩ ⟨Nat.le_of_ble_eq_true rfl, Nat.le_of_ble_eq_true rfl⟩, (htx _ kw_3_22), (htx _ kw_3_23)⟩ ⟨xPre_blind, va_recv hK hP (ci := 2) rfl (q0 := 0) rfl, (fun U hU hW => ⟨rfl, xPre_of hZ hS hFc hPc hDc hK U hU hW⟩)⟩ rfl rfl hl.1 rfl (lv_room (Nat.le_of_ble_eq_true rfl)) dH_areOfOneKind_2 ⟨Nat.le_of_ble_eq_true rfl, Nat.le_of_ble_eq_true rfl⟩) hS (fun q _ h => hFc q h) hFc (fun r3 u9 t H1 locs ht hvm hr9 hB hz1 hk1 hS => ?_)
  obtain ⟨hP1, hK1, hD1⟩ := hB
  rw [ht] at hP1
  obtain ⟨hP, hD⟩ := xjoin (W := [(a0, .inr (2, [.ref a1, .int v1, .int v2])), (a1, .inl (cT 2, 4096, .inr (.inl f0)))]) hP hD [0, 1] [] 0 rfl rfl (by decide) (by decide) hk1 hFc hP1 hD1
  generalize H1 = H at hP hS ⊢
  rw [hr9]
  refine W.eq (g2 := F0 m 5 ls [.int o1]) rfl ?_
  refine lv_aload_n hx hb dH_areOfOneKind_5 rfl (lv_at hl 2 rfl) ?_
  refine lv_iload_n hx hb dH_areOfOneKind_6 rfl (lv_at hl 3 rfl) ?_
  obtain ⟨o4, hq5, hf⟩ := xbind hf
  obtain ⟨hPc, hDc, hFc⟩ := xcut (wc := [(a0, .inr (2, [.ref a1, .int v1, .int v2])), (a1, .inl (cT 2, 4096, .inr (.inl f0)))]) hP hD hS hA [0, 1] rfl rfl (by decide)
  refine va_calli (va_runV (C := "ValueBench$Row") (As := [.int x3]) (rest := [.int o1]) ⟨hx, hb, hml, hown, htx⟩ (gR_kind l hl9 D cT aK aV H.size n a0 a1 x3 f0 v1 v2 o4 hq5) ⟨callB_of 1 htx (xw_goodC kw_3_24) rfl rfl rfl (htx _ kw_1_4) (htx _ kw_4_164) ⟨by decide, by decide, by decide +kernel⟩ ⟨Nat.le_of_ble_eq_true rfl, Nat.le_of_ble_eq_true rfl⟩, (htx _ kw_3_22), (htx _ kw_3_23)⟩ ⟨xPre_blind, va_recv hK hP (ci := 2) rfl (q0 := 0) rfl, (fun U hU hW => ⟨rfl, xPre_of hZ hS hFc hPc hDc hK U hU hW⟩)⟩ rfl rfl hl.1 rfl (lv_room (Nat.le_of_ble_eq_true rfl)) dH_areOfOneKind_7 ⟨Nat.le_of_ble_eq_true rfl, Nat.le_of_ble_eq_true rfl⟩) hS (fun q _ h => hFc q h) hFc (fun r6 u9 t H1 locs ht hvm hr9 hB hz1 hk1 hS => ?_)
  obtain ⟨hP1, hK1, hD1⟩ := hB
  rw [ht] at hP1
  obtain ⟨hP, hD⟩ := xjoin (W := [(a0, .inr (2, [.ref a1, .int v1, .int v2])), (a1, .inl (cT 2, 4096, .inr (.inl f0)))]) hP hD [0, 1] [] 0 rfl rfl (by decide) (by decide) hk1 hFc hP1 hD1
  generalize H1 = H at hP hS ⊢
  rw [hr9]
  refine W.eq (g2 := F0 m 10 ls [.int o4, .int o1]) rfl ?_
  refine lv_icmp_eq (tgt := 35) hx hb dH_areOfOneKind_10 (by decide) (fun hc => ?_) (fun hc => ?_)
  · rw [if_pos hc] at hf
    refine lv_iconst (v := 1) hx hb dH_areOfOneKind_35 (by decide) ?_
    refine lv_goto (tgt := 40) hx hb dH_areOfOneKind_36 (by decide) ?_
    obtain rfl := Option.some.inj hf
    obtain ⟨hP9, hD9⟩ := xsub (wc := [(a0, .inr (2, [.ref a1, .int v1, .int v2])), (a1, .inl (cT 2, 4096, .inr (.inl f0)))]) hP hD [0, 1] rfl rfl (by decide)
    exact W.zret (v := (1 : Int32)) hx hb hr rfl (fun t ht hW => ⟨⟨(1 : Int32), (), rfl, rfl, by rw [ht]; exact hP9, va_K.moved hW.alike hK, hD9⟩, hS.F ht⟩) hS.2.2 dH_areOfOneKind_40
  · rw [if_neg hc] at hf
    refine lv_aload_n hx hb dH_areOfOneKind_13 rfl (lv_at hl 0 rfl) ?_
    refine lv_iload_n hx hb dH_areOfOneKind_14 rfl (lv_at hl 1 rfl) ?_
    obtain ⟨o7, hq8, hf⟩ := xbind hf
    obtain ⟨hPc, hDc, hFc⟩ := xcut (wc := [(a0, .inr (2, [.ref a1, .int v1, .int v2])), (a1, .inl (cT 2, 4096, .inr (.inl f0)))]) hP hD hS hA [0, 1] rfl rfl (by decide)
    refine va_calli (va_runV (C := "ValueBench$Row") (As := [.int x1]) (rest := []) ⟨hx, hb, hml, hown, htx⟩ (gR_kind l hl9 D cT aK aV H.size n a0 a1 x1 f0 v1 v2 o7 hq8) ⟨callB_of 1 htx (xw_goodC kw_3_24) rfl rfl rfl (htx _ kw_1_4) (htx _ kw_4_164) ⟨by decide, by decide, by decide +kernel⟩ ⟨Nat.le_of_ble_eq_true rfl, Nat.le_of_ble_eq_true rfl⟩, (htx _ kw_3_22), (htx _ kw_3_23)⟩ ⟨xPre_blind, va_recv hK hP (ci := 2) rfl (q0 := 0) rfl, (fun U hU hW => ⟨rfl, xPre_of hZ hS hFc hPc hDc hK U hU hW⟩)⟩ rfl rfl hl.1 rfl (lv_room (Nat.le_of_ble_eq_true rfl)) dH_areOfOneKind_15 ⟨Nat.le_of_ble_eq_true rfl, Nat.le_of_ble_eq_true rfl⟩) hS (fun q _ h => hFc q h) hFc (fun r9 u9 t H1 locs ht hvm hr9 hB hz1 hk1 hS => ?_)
    obtain ⟨hP1, hK1, hD1⟩ := hB
    rw [ht] at hP1
    obtain ⟨hP, hD⟩ := xjoin (W := [(a0, .inr (2, [.ref a1, .int v1, .int v2])), (a1, .inl (cT 2, 4096, .inr (.inl f0)))]) hP hD [0, 1] [] 0 rfl rfl (by decide) (by decide) hk1 hFc hP1 hD1
    generalize H1 = H at hP hS ⊢
    rw [hr9]
    refine W.eq (g2 := F0 m 18 ls [.int o7]) rfl ?_
    obtain ⟨o10, hq11, hf⟩ := xbind hf
    obtain ⟨hPc, hDc, hFc⟩ := xcut (wc := []) hP hD hS hA [] rfl rfl (by decide)
    refine va_calli (va_runS (As := [.int o7]) (rest := []) ⟨hx, hb, hml, hown, htx⟩ (gH_isTruth l hl9 D cT aK aV H.size n o7 o10 hq11) ⟨callB_of 1 htx (xw_goodC kw_4_167) rfl rfl rfl (htx _ kw_1_27) (htx _ kw_4_165) ⟨by decide, by decide, by decide +kernel⟩ ⟨Nat.le_of_ble_eq_true rfl, Nat.le_of_ble_eq_true rfl⟩, htx _ kw_4_166⟩ ⟨xPre_blind, (fun U hU hW => ⟨rfl, xPre_of hZ hS hFc hPc hDc hK U hU hW⟩)⟩ rfl rfl hl.1 rfl (lv_room (Nat.le_of_ble_eq_true rfl)) dH_areOfOneKind_18 ⟨Nat.le_of_ble_eq_true rfl, Nat.le_of_ble_eq_true rfl⟩) hS (fun q _ h => hFc q h) hFc (fun r12 u9 t H1 locs ht hvm hr9 hB hz1 hk1 hS => ?_)
    obtain ⟨hP1, hK1, hD1⟩ := hB
    rw [ht] at hP1
    obtain ⟨hP, hD⟩ := xjoin (W := [(a0, .inr (2, [.ref a1, .int v1, .int v2])), (a1, .inl (cT 2, 4096, .inr (.inl f0)))]) hP hD [] [0, 1] 2 rfl rfl (by decide) (by decide) hk1 hFc hP1 hD1
    generalize H1 = H at hP hS ⊢
    rw [hr9]
    refine W.eq (g2 := F0 m 21 ls [.int o10]) rfl ?_
    refine lv_if_eq (tgt := 39) hx hb dH_areOfOneKind_21 (by decide) (fun hc => ?_) (fun hc => ?_)
    · rw [if_pos hc] at hf
      refine lv_iconst (v := 0) hx hb dH_areOfOneKind_39 (by decide) ?_
      obtain rfl := Option.some.inj hf
      obtain ⟨hP9, hD9⟩ := xsub (wc := [(a0, .inr (2, [.ref a1, .int v1, .int v2])), (a1, .inl (cT 2, 4096, .inr (.inl f0)))]) hP hD [0, 1] rfl rfl (by decide)
      exact W.zret (v := (0 : Int32)) hx hb hr rfl (fun t ht hW => ⟨⟨(0 : Int32), (), rfl, rfl, by rw [ht]; exact hP9, va_K.moved hW.alike hK, hD9⟩, hS.F ht⟩) hS.2.2 dH_areOfOneKind_40
    · rw [if_neg hc] at hf
      refine lv_aload_n hx hb dH_areOfOneKind_24 rfl (lv_at hl 2 rfl) ?_
      refine lv_iload_n hx hb dH_areOfOneKind_25 rfl (lv_at hl 3 rfl) ?_
      obtain ⟨o13, hq14, hf⟩ := xbind hf
      obtain ⟨hPc, hDc, hFc⟩ := xcut (wc := [(a0, .inr (2, [.ref a1, .int v1, .int v2])), (a1, .inl (cT 2, 4096, .inr (.inl f0)))]) hP hD hS hA [0, 1] rfl rfl (by decide)
      refine va_calli (va_runV (C := "ValueBench$Row") (As := [.int x3]) (rest := []) ⟨hx, hb, hml, hown, htx⟩ (gR_kind l hl9 D cT aK aV H.size n a0 a1 x3 f0 v1 v2 o13 hq14) ⟨callB_of 1 htx (xw_goodC kw_3_24) rfl rfl rfl (htx _ kw_1_4) (htx _ kw_4_164) ⟨by decide, by decide, by decide +kernel⟩ ⟨Nat.le_of_ble_eq_true rfl, Nat.le_of_ble_eq_true rfl⟩, (htx _ kw_3_22), (htx _ kw_3_23)⟩ ⟨xPre_blind, va_recv hK hP (ci := 2) rfl (q0 := 0) rfl, (fun U hU hW => ⟨rfl, xPre_of hZ hS hFc hPc hDc hK U hU hW⟩)⟩ rfl rfl hl.1 rfl (lv_room (Nat.le_of_ble_eq_true rfl)) dH_areOfOneKind_26 ⟨Nat.le_of_ble_eq_true rfl, Nat.le_of_ble_eq_true rfl⟩) hS (fun q _ h => hFc q h) hFc (fun r15 u9 t H1 locs ht hvm hr9 hB hz1 hk1 hS => ?_)
      obtain ⟨hP1, hK1, hD1⟩ := hB
      rw [ht] at hP1
      obtain ⟨hP, hD⟩ := xjoin (W := [(a0, .inr (2, [.ref a1, .int v1, .int v2])), (a1, .inl (cT 2, 4096, .inr (.inl f0)))]) hP hD [0, 1] [] 0 rfl rfl (by decide) (by decide) hk1 hFc hP1 hD1
      generalize H1 = H at hP hS ⊢
      rw [hr9]
      refine W.eq (g2 := F0 m 29 ls [.int o13]) rfl ?_
      obtain ⟨o16, hq17, hf⟩ := xbind hf
      obtain ⟨hPc, hDc, hFc⟩ := xcut (wc := []) hP hD hS hA [] rfl rfl (by decide)
      refine va_calli (va_runS (As := [.int o13]) (rest := []) ⟨hx, hb, hml, hown, htx⟩ (gH_isTruth l hl9 D cT aK aV H.size n o13 o16 hq17) ⟨callB_of 1 htx (xw_goodC kw_4_167) rfl rfl rfl (htx _ kw_1_27) (htx _ kw_4_165) ⟨by decide, by decide, by decide +kernel⟩ ⟨Nat.le_of_ble_eq_true rfl, Nat.le_of_ble_eq_true rfl⟩, htx _ kw_4_166⟩ ⟨xPre_blind, (fun U hU hW => ⟨rfl, xPre_of hZ hS hFc hPc hDc hK U hU hW⟩)⟩ rfl rfl hl.1 rfl (lv_room (Nat.le_of_ble_eq_true rfl)) dH_areOfOneKind_29 ⟨Nat.le_of_ble_eq_true rfl, Nat.le_of_ble_eq_true rfl⟩) hS (fun q _ h => hFc q h) hFc (fun r18 u9 t H1 locs ht hvm hr9 hB hz1 hk1 hS => ?_)
      obtain ⟨hP1, hK1, hD1⟩ := hB
      rw [ht] at hP1
      obtain ⟨hP, hD⟩ := xjoin (W := [(a0, .inr (2, [.ref a1, .int v1, .int v2])), (a1, .inl (cT 2, 4096, .inr (.inl f0)))]) hP hD [] [0, 1] 2 rfl rfl (by decide) (by decide) hk1 hFc hP1 hD1
      generalize H1 = H at hP hS ⊢
      rw [hr9]
      refine W.eq (g2 := F0 m 32 ls [.int o16]) rfl ?_
      refine lv_if_eq (tgt := 39) hx hb dH_areOfOneKind_32 (by decide) (fun hc => ?_) (fun hc => ?_)
      · rw [if_pos hc] at hf
        refine lv_iconst (v := 0) hx hb dH_areOfOneKind_39 (by decide) ?_
        obtain rfl := Option.some.inj hf
        obtain ⟨hP9, hD9⟩ := xsub (wc := [(a0, .inr (2, [.ref a1, .int v1, .int v2])), (a1, .inl (cT 2, 4096, .inr (.inl f0)))]) hP hD [0, 1] rfl rfl (by decide)
        exact W.zret (v := (0 : Int32)) hx hb hr rfl (fun t ht hW => ⟨⟨(0 : Int32), (), rfl, rfl, by rw [ht]; exact hP9, va_K.moved hW.alike hK, hD9⟩, hS.F ht⟩) hS.2.2 dH_areOfOneKind_40
      · rw [if_neg hc] at hf
        refine lv_iconst (v := 1) hx hb dH_areOfOneKind_35 (by decide) ?_
        refine lv_goto (tgt := 40) hx hb dH_areOfOneKind_36 (by decide) ?_
        obtain rfl := Option.some.inj hf
        obtain ⟨hP9, hD9⟩ := xsub (wc := [(a0, .inr (2, [.ref a1, .int v1, .int v2])), (a1, .inl (cT 2, 4096, .inr (.inl f0)))]) hP hD [0, 1] rfl rfl (by decide)
        exact W.zret (v := (1 : Int32)) hx hb hr rfl (fun t ht hW => ⟨⟨(1 : Int32), (), rfl, rfl, by rw [ht]; exact hP9, va_K.moved hW.alike hK, hD9⟩, hS.F ht⟩) hS.2.2 dH_areOfOneKind_40
set_option maxHeartbeats 400000000 in
set_option maxRecDepth 100000 in
theorem gH_isParta (l : Launch) (hl9 : l.stackTraces = false) (D : va_G) (cT : Nat → ClassId) (aK aV : Nat → Nat) (sz n : Nat) (a0 : Nat) (a1 : Nat) (x1 : Int32) (x3 : Int32) (f0 : Nat → Int64) (v1 : Int32) (v2 : Int32) (out : Int32) (hf : fH_isParta n x1 x3 f0 v1 v2 = some out) : xMet l yH_isPart wyH_isPart 2 0 0 49 D cT aK aV sz [.ref a0, .int x1, .ref a0, .int x3] [(a0, .inr (2, [.ref a1, .int v1, .int v2])), (a1, .inl (cT 2, 4096, .inr (.inl f0)))] (fun A => va_Qi (fun (r : Int32) (_ : Unit) => r = out) (fun _ t => xB D xcl cT A [(a0, .inr (2, [.ref a1, .int v1, .int v2])), (a1, .inl (cT 2, 4096, .inr (.inl f0)))] t) A) := by
  refine Met.ofW (cc := prog_5_method_12_code) (maxL := 5) (ret := (some .boolean)) (by decide) rfl ?_
  intro p e s m args below meth c s₁ B hml hv
  obtain ⟨rfl, hsz, hZ, hP, hK, hD0⟩ := hv
  have hx := B.exec
  have hb := B.bytes
  have hr := B.returns
  have hts := atoms_spec (ws := wyH_isPart) B.pre
  have htx := fun w h => hts w (List.mem_cons_of_mem _ h)
  have hown : s.vm.findClass "ValueBench$Pairs" = some m.cls := findClass_of_methodNamed B.named
  have hlocks := B.notSynchronized
  subst hsz
  have hD := hD0.self (sz := s.heap.size)
  generalize hAe : va_A [(a0, .inr (2, [.ref a1, .int v1, .int v2])), (a1, .inl (cT 2, 4096, .inr (.inl f0)))] s.heap.size = A at hD hZ ⊢
  have hA : ∀ q : Nat, s.heap.size ≤ q → A q := fun q h => by rw [← hAe]; exact Or.inr h
  have hS : va_S A s.heap s.heap [] := va_S.rf
  have hP : va_P D xcl [(a0, .inr (2, [.ref a1, .int v1, .int v2])), (a1, .inl (cT 2, 4096, .inr (.inl f0)))] s.heap := hP
  have hl := lv_entry ([.ref a0, .int x1, .ref a0, .int x3]) (n := 5) (Nat.le_of_ble_eq_true rfl)
  rw [lg_entry_eq]
  generalize (lg_sl ([.ref a0, .int x1, .ref a0, .int x3]) ++ List.replicate (5 - (lg_sl ([.ref a0, .int x1, .ref a0, .int x3])).length) Slot.unset).toArray = ls at hl ⊢
  have hl : lv_has ls 5 [(0, .ref a0), (1, .int x1), (2, .ref a0), (3, .int x3)] := hl
  unfold fH_isParta at hf
  refine xloopK (σ := Nat × Int32 × Int32 × Int32) (fun n x H locs ls => (x.1 = 1 ∧ fH_isParta_b f0 v1 v2 n x.1 x.2.1 x.2.2.1 x.2.2.2 = some out ∧ va_P D xcl [(a0, .inr (2, [.ref a1, .int v1, .int v2])), (a1, .inl (cT 2, 4096, .inr (.inl f0)))] H ∧ va_D A [(a0, .inr (2, [.ref a1, .int v1, .int v2])), (a1, .inl (cT 2, 4096, .inr (.inl f0)))] ∧ va_S A s.heap H locs ∧ lv_has ls 5 [(4, .int x.2.1), (0, .ref a0), (1, .int x.2.2.1), (2, .ref a0), (3, .int x.2.2.2)])) (fun x => 3) (fun x H locs ls h => by exact absurd h.2.1 (by rw [fH_isParta_b]; exact fun h => nomatch h)) (fun n ih x H locs ls hv => ?_) (fun key => ?_)
  · obtain ⟨lb, y4, y1, y3⟩ := x
    rcases hv with ⟨hj, hf, hP, hD, hS, hl⟩
    subst hj
    have hf : fH_isParta_b f0 v1 v2 (n + 1) 1 y4 y1 y3 = some out := hf
    rw [fH_isParta_b] at hf
    obtain ⟨hP, hD⟩ : xPD D xcl A [(a0, .inr (2, [.ref a1, .int v1, .int v2])), (a1, .inl (cT 2, 4096, .inr (.inl f0)))] H := ⟨hP, hD⟩
    have hl : lv_has ls 5 [(4, .int y4), (0, .ref a0), (1, .int y1), (2, .ref a0), (3, .int y3)] := hl
    refine W.eq (g2 := F0 m 3 ls []) rfl ?_
    refine lv_iload hx hb dH_isPart_3 (lv_at hl 0 rfl) ?_
    refine lv_aload_n hx hb dH_isPart_5 rfl (lv_at hl 1 rfl) ?_
    refine lv_iload_n hx hb dH_isPart_6 rfl (lv_at hl 2 rfl) ?_
    obtain ⟨o1, hq2, hf⟩ := xbind hf
    obtain ⟨hPc, hDc, hFc⟩ := xcut (wc := [(a0, .inr (2, [.ref a1, .int v1, .int v2])), (a1, .inl (cT 2, 4096, .inr (.inl f0)))]) hP hD hS hA [0, 1] rfl rfl (by decide)
    refine va_calli (va_runV (C := "ValueBench$Row") (As := [.int y1]) (rest := [.int y4]) ⟨hx, hb, hml, hown, htx⟩ (gR_length l hl9 D cT aK aV H.size n a0 a1 y1 f0 v1 v2 o1 hq2) ⟨callB_of 1 htx (xw_goodC kw_2_191) rfl rfl rfl (htx _ kw_1_4) (htx _ kw_4_157) ⟨by decide, by decide, by decide +kernel⟩ ⟨Nat.le_of_ble_eq_true rfl, Nat.le_of_ble_eq_true rfl⟩, (htx _ kw_2_189), (htx _ kw_2_190)⟩ ⟨xPre_blind, va_recv hK hP (ci := 2) rfl (q0 := 0) rfl, (fun U hU hW => ⟨rfl, xPre_of hZ hS hFc hPc hDc hK U hU hW⟩)⟩ rfl rfl hl.1 rfl (lv_room (Nat.le_of_ble_eq_true rfl)) dH_isPart_7 ⟨Nat.le_of_ble_eq_true rfl, Nat.le_of_ble_eq_true rfl⟩) hS (fun q _ h => hFc q h) hFc (fun r3 u9 t H1 locs ht hvm hr9 hB hz1 hk1 hS => ?_)
    obtain ⟨hP1, hK1, hD1⟩ := hB
    rw [ht] at hP1
    obtain ⟨hP, hD⟩ := xjoin (W := [(a0, .inr (2, [.ref a1, .int v1, .int v2])), (a1, .inl (cT 2, 4096, .inr (.inl f0)))]) hP hD [0, 1] [] 0 rfl rfl (by decide) (by decide) hk1 hFc hP1 hD1
    generalize H1 = H at hP hS ⊢
    rw [hr9]
    refine W.eq (g2 := F0 m 10 ls [.int o1, .int y4]) rfl ?_
    refine lv_icmp_gt (tgt := 33) hx hb dH_isPart_10 (by decide) (fun hc => ?_) (fun hc => ?_)
    · rw [if_pos hc] at hf
      refine lv_iconst (v := 0) hx hb dH_isPart_33 (by decide) ?_
      obtain rfl := Option.some.inj hf
      obtain ⟨hP9, hD9⟩ := xsub (wc := [(a0, .inr (2, [.ref a1, .int v1, .int v2])), (a1, .inl (cT 2, 4096, .inr (.inl f0)))]) hP hD [0, 1] rfl rfl (by decide)
      exact W.zret (v := (0 : Int32)) hx hb hr rfl (fun t ht hW => ⟨⟨(0 : Int32), (), rfl, rfl, by rw [ht]; exact hP9, va_K.moved hW.alike hK, hD9⟩, hS.F ht⟩) hS.2.2 dH_isPart_34
    · rw [if_neg hc] at hf
      refine lv_aload_n hx hb dH_isPart_13 rfl (lv_at hl 1 rfl) ?_
      refine lv_iload_n hx hb dH_isPart_14 rfl (lv_at hl 2 rfl) ?_
      refine lv_iload hx hb dH_isPart_15 (lv_at hl 0 rfl) ?_
      refine lv_aload_n hx hb dH_isPart_17 rfl (lv_at hl 3 rfl) ?_
      refine lv_iload_n hx hb dH_isPart_18 rfl (lv_at hl 4 rfl) ?_
      obtain ⟨o4, hq5, hf⟩ := xbind hf
      obtain ⟨hPc, hDc, hFc⟩ := xcut (wc := [(a0, .inr (2, [.ref a1, .int v1, .int v2])), (a1, .inl (cT 2, 4096, .inr (.inl f0)))]) hP hD hS hA [0, 1] rfl rfl (by decide)
      refine va_calli (va_runV (C := "ValueBench$Row") (As := [.int y1, .int y4, .ref a0, .int y3]) (rest := []) ⟨hx, hb, hml, hown, htx⟩ (gR_hasPart l hl9 D cT aK aV H.size n a0 a1 y1 y4 y3 f0 v1 v2 o4 hq5) ⟨callB_of 4 htx (xw_goodC kw_3_217) rfl rfl rfl (htx _ kw_1_4) (htx _ kw_4_174) ⟨by decide, by decide, by decide +kernel⟩ ⟨Nat.le_of_ble_eq_true rfl, Nat.le_of_ble_eq_true rfl⟩, (htx _ kw_3_215), (htx _ kw_3_216)⟩ ⟨xPre_blind, va_recv hK hP (ci := 2) rfl (q0 := 0) rfl, (fun U hU hW => ⟨rfl, xPre_of hZ hS hFc hPc hDc hK U hU hW⟩)⟩ rfl rfl hl.1 rfl (lv_room (Nat.le_of_ble_eq_true rfl)) dH_isPart_19 ⟨Nat.le_of_ble_eq_true rfl, Nat.le_of_ble_eq_true rfl⟩) hS (fun q _ h => hFc q h) hFc (fun r6 u9 t H1 locs ht hvm hr9 hB hz1 hk1 hS => ?_)
      obtain ⟨hP1, hK1, hD1⟩ := hB
      rw [ht] at hP1
      obtain ⟨hP, hD⟩ := xjoin (W := [(a0, .inr (2, [.ref a1, .int v1, .int v2])), (a1, .inl (cT 2, 4096, .inr (.inl f0)))]) hP hD [0, 1] [] 0 rfl rfl (by decide) (by decide) hk1 hFc hP1 hD1
      generalize H1 = H at hP hS ⊢
      rw [hr9]
      refine W.eq (g2 := F0 m 22 ls [.int o4]) rfl ?_
      refine lv_if_eq (tgt := 27) hx hb dH_isPart_22 (by decide) (fun hc => ?_) (fun hc => ?_)
      · rw [if_pos hc] at hf
        refine lv_iinc (v := (y4 + 1)) (lv' := [(4, .int (y4 + 1)), (0, .ref a0), (1, .int y1), (2, .ref a0), (3, .int y3)]) hx hb dH_isPart_27 hl (k := 0) rfl rfl (by decide) rfl (fun ls hl => ?_)
        refine lv_goto (tgt := 3) hx hb dH_isPart_30 (by decide) ?_
        obtain ⟨hP9, hD9⟩ := xsub (wc := [(a0, .inr (2, [.ref a1, .int v1, .int v2])), (a1, .inl (cT 2, 4096, .inr (.inl f0)))]) hP hD [0, 1] rfl rfl (by decide)
        exact ih (1, (y4 + 1), y1, y3) _ _ ls (⟨rfl, hf, hP9, hD9, hS, lv_sub hl [0, 1, 2, 3, 4] rfl⟩)
      · rw [if_neg hc] at hf
        refine lv_iconst (v := 1) hx hb dH_isPart_25 (by decide) ?_
        obtain rfl := Option.some.inj hf
        obtain ⟨hP9, hD9⟩ := xsub (wc := [(a0, .inr (2, [.ref a1, .int v1, .int v2])), (a1, .inl (cT 2, 4096, .inr (.inl f0)))]) hP hD [0, 1] rfl rfl (by decide)
        exact W.zret (v := (1 : Int32)) hx hb hr rfl (fun t ht hW => ⟨⟨(1 : Int32), (), rfl, rfl, by rw [ht]; exact hP9, va_K.moved hW.alike hK, hD9⟩, hS.F ht⟩) hS.2.2 dH_isPart_26
  refine lv_iconst (v := 0) hx hb dH_isPart_0 (by decide) ?_
  refine lv_istore (lv' := [(4, .int 0), (0, .ref a0), (1, .int x1), (2, .ref a0), (3, .int x3)]) hx hb dH_isPart_1 hl (by decide) rfl (fun ls hl => ?_)
  obtain ⟨hP9, hD9⟩ := xsub (wc := [(a0, .inr (2, [.ref a1, .int v1, .int v2])), (a1, .inl (cT 2, 4096, .inr (.inl f0)))]) hP hD [0, 1] rfl rfl (by decide)
  exact key n (1, 0, x1, x3) _ _ ls (⟨rfl, hf, hP9, hD9, hS, lv_sub hl [0, 1, 2, 3, 4] rfl⟩)
set_option maxHeartbeats 400000000 in
set_option maxRecDepth 100000 in
theorem gH_isInSomea (l : Launch) (hl9 : l.stackTraces = false) (D : va_G) (cT : Nat → ClassId) (aK aV : Nat → Nat) (fr lo : Nat) (rec : Int32 → Int32 → Int32 → (Nat → Int64) → Int32 → Int32 → Option (Int32)) (hrec : ∀ (sz : Nat) (a0 : Nat) (a1 : Nat) (x1 : Int32) (x3 : Int32) (x4 : Int32) (f0 : Nat → Int64) (v1 : Int32) (v2 : Int32) (out : Int32), rec x1 x3 x4 f0 v1 v2 = some out → xMet l yH_isIn wyH_isIn fr 0 0 lo D cT aK aV sz [.ref a0, .int x1, .ref a0, .int x3, .int x4] [(a0, .inr (2, [.ref a1, .int v1, .int v2])), (a1, .inl (cT 2, 4096, .inr (.inl f0)))] (fun A => va_Qi (fun (r : Int32) (_ : Unit) => r = out) (fun _ t => xB D xcl cT A [(a0, .inr (2, [.ref a1, .int v1, .int v2])), (a1, .inl (cT 2, 4096, .inr (.inl f0)))] t) A)) (sz n : Nat) (a0 : Nat) (a1 : Nat) (x1 : Int32) (x3 : Int32) (x4 : Int32) (f0 : Nat → Int64) (v1 : Int32) (v2 : Int32) (out : Int32) (hf : fH_isInSomea rec n x1 x3 x4 f0 v1 v2 = some out) : xMet l yH_isInSome wyH_isInSome (fr + 1) 0 0 (lo + 24) D cT aK aV sz [.ref a0, .int x1, .ref a0, .int x3, .int x4] [(a0, .inr (2, [.ref a1, .int v1, .int v2])), (a1, .inl (cT 2, 4096, .inr (.inl f0)))] (fun A => va_Qi (fun (r : Int32) (_ : Unit) => r = out) (fun _ t => xB D xcl cT A [(a0, .inr (2, [.ref a1, .int v1, .int v2])), (a1, .inl (cT 2, 4096, .inr (.inl f0)))] t) A) := by
  refine Met.ofW (cc := prog_5_method_14_code) (maxL := 7) (ret := (some .boolean)) (by decide) rfl ?_
  intro p e s m args below meth c s₁ B hml hv
  obtain ⟨rfl, hsz, hZ, hP, hK, hD0⟩ := hv
  have hx := B.exec
  have hb := B.bytes
  have hr := B.returns
  have hts := atoms_spec (ws := wyH_isInSome) B.pre
  have htx := fun w h => hts w (List.mem_cons_of_mem _ h)
  have hown : s.vm.findClass "ValueBench$Pairs" = some m.cls := findClass_of_methodNamed B.named
  have hlocks := B.notSynchronized
  subst hsz
  have hD := hD0.self (sz := s.heap.size)
  generalize hAe : va_A [(a0, .inr (2, [.ref a1, .int v1, .int v2])), (a1, .inl (cT 2, 4096, .inr (.inl f0)))] s.heap.size = A at hD hZ ⊢
  have hA : ∀ q : Nat, s.heap.size ≤ q → A q := fun q h => by rw [← hAe]; exact Or.inr h
  have hS : va_S A s.heap s.heap [] := va_S.rf
  have hP : va_P D xcl [(a0, .inr (2, [.ref a1, .int v1, .int v2])), (a1, .inl (cT 2, 4096, .inr (.inl f0)))] s.heap := hP
  have hl := lv_entry ([.ref a0, .int x1, .ref a0, .int x3, .int x4]) (n := 7) (Nat.le_of_ble_eq_true rfl)
  rw [lg_entry_eq]
  generalize (lg_sl ([.ref a0, .int x1, .ref a0, .int x3, .int x4]) ++ List.replicate (7 - (lg_sl ([.ref a0, .int x1, .ref a0, .int x3, .int x4])).length) Slot.unset).toArray = ls at hl ⊢
  have hl : lv_has ls 7 [(0, .ref a0), (1, .int x1), (2, .ref a0), (3, .int x3), (4, .int x4)] := hl
  unfold fH_isInSomea at hf
  refine xloopK (σ := Nat × Int32 × Int32 × Int32 × Int32 × Int32) (fun n x H locs ls => (x.1 = 1 ∧ fH_isInSomea_b rec f0 v1 v2 n x.1 x.2.1 x.2.2.1 x.2.2.2.1 x.2.2.2.2.1 x.2.2.2.2.2 = some out ∧ va_P D xcl [(a0, .inr (2, [.ref a1, .int v1, .int v2])), (a1, .inl (cT 2, 4096, .inr (.inl f0)))] H ∧ va_D A [(a0, .inr (2, [.ref a1, .int v1, .int v2])), (a1, .inl (cT 2, 4096, .inr (.inl f0)))] ∧ va_S A s.heap H locs ∧ lv_has ls 7 [(6, .int x.2.1), (5, .int x.2.2.1), (0, .ref a0), (1, .int x.2.2.2.1), (2, .ref a0), (3, .int x.2.2.2.2.1), (4, .int x.2.2.2.2.2)])) (fun x => 8) (fun x H locs ls h => by exact absurd h.2.1 (by rw [fH_isInSomea_b]; exact fun h => nomatch h)) (fun n ih x H locs ls hv => ?_) (fun key => ?_)
  · obtain ⟨lb, y6, y5, y1, y3, y4⟩ := x
    rcases hv with ⟨hj, hf, hP, hD, hS, hl⟩
    subst hj
    have hf : fH_isInSomea_b rec f0 v1 v2 (n + 1) 1 y6 y5 y1 y3 y4 = some out := hf
    rw [fH_isInSomea_b] at hf
    obtain ⟨hP, hD⟩ : xPD D xcl A [(a0, .inr (2, [.ref a1, .int v1, .int v2])), (a1, .inl (cT 2, 4096, .inr (.inl f0)))] H := ⟨hP, hD⟩
    have hl : lv_has ls 7 [(6, .int y6), (5, .int y5), (0, .ref a0), (1, .int y1), (2, .ref a0), (3, .int y3), (4, .int y4)] := hl
    refine W.eq (g2 := F0 m 8 ls []) rfl ?_
    refine lv_iload hx hb dH_isInSome_8 (lv_at hl 0 rfl) ?_
    refine lv_aload_n hx hb dH_isInSome_10 rfl (lv_at hl 2 rfl) ?_
    refine lv_iload_n hx hb dH_isInSome_11 rfl (lv_at hl 3 rfl) ?_
    obtain ⟨o1, hq2, hf⟩ := xbind hf
    obtain ⟨hPc, hDc, hFc⟩ := xcut (wc := [(a0, .inr (2, [.ref a1, .int v1, .int v2])), (a1, .inl (cT 2, 4096, .inr (.inl f0)))]) hP hD hS hA [0, 1] rfl rfl (by decide)
    refine va_calli (va_runV (C := "ValueBench$Row") (As := [.int y1]) (rest := [.int y6]) ⟨hx, hb, hml, hown, htx⟩ (gR_length l hl9 D cT aK aV H.size n a0 a1 y1 f0 v1 v2 o1 hq2) ⟨callB_of 1 htx (xw_goodC kw_2_191) rfl rfl rfl (htx _ kw_1_4) (htx _ kw_4_157) ⟨by decide, by decide, by decide +kernel⟩ ⟨Nat.le_of_ble_eq_true rfl, Nat.le_of_ble_eq_true rfl⟩, (htx _ kw_2_189), (htx _ kw_2_190)⟩ ⟨xPre_blind, va_recv hK hP (ci := 2) rfl (q0 := 0) rfl, (fun U hU hW => ⟨rfl, xPre_of hZ hS hFc hPc hDc hK U hU hW⟩)⟩ rfl rfl hl.1 rfl (lv_room (Nat.le_of_ble_eq_true rfl)) dH_isInSome_12 ⟨Nat.le_of_ble_eq_true rfl, Nat.le_of_ble_eq_true rfl⟩) hS (fun q _ h => hFc q h) hFc (fun r3 u9 t H1 locs ht hvm hr9 hB hz1 hk1 hS => ?_)
    obtain ⟨hP1, hK1, hD1⟩ := hB
    rw [ht] at hP1
    obtain ⟨hP, hD⟩ := xjoin (W := [(a0, .inr (2, [.ref a1, .int v1, .int v2])), (a1, .inl (cT 2, 4096, .inr (.inl f0)))]) hP hD [0, 1] [] 0 rfl rfl (by decide) (by decide) hk1 hFc hP1 hD1
    generalize H1 = H at hP hS ⊢
    rw [hr9]
    refine W.eq (g2 := F0 m 15 ls [.int o1, .int y6]) rfl ?_
    refine lv_icmp_ge (tgt := 49) hx hb dH_isInSome_15 (by decide) (fun hc => ?_) (fun hc => ?_)
    · rw [if_pos hc] at hf
      refine lv_iconst (v := 0) hx hb dH_isInSome_49 (by decide) ?_
      obtain rfl := Option.some.inj hf
      obtain ⟨hP9, hD9⟩ := xsub (wc := [(a0, .inr (2, [.ref a1, .int v1, .int v2])), (a1, .inl (cT 2, 4096, .inr (.inl f0)))]) hP hD [0, 1] rfl rfl (by decide)
      exact W.zret (v := (0 : Int32)) hx hb hr rfl (fun t ht hW => ⟨⟨(0 : Int32), (), rfl, rfl, by rw [ht]; exact hP9, va_K.moved hW.alike hK, hD9⟩, hS.F ht⟩) hS.2.2 dH_isInSome_50
    · rw [if_neg hc] at hf
      refine lv_aload_n hx hb dH_isInSome_18 rfl (lv_at hl 2 rfl) ?_
      refine lv_iload hx hb dH_isInSome_19 (lv_at hl 1 rfl) ?_
      refine lv_aload_n hx hb dH_isInSome_21 rfl (lv_at hl 4 rfl) ?_
      refine lv_iload_n hx hb dH_isInSome_22 rfl (lv_at hl 5 rfl) ?_
      refine lv_iload hx hb dH_isInSome_23 (lv_at hl 6 rfl) ?_
      refine lv_iconst (v := 1) hx hb dH_isInSome_25 (by decide) ?_
      refine lv_iadd hx hb dH_isInSome_26 ?_
      obtain ⟨o4, hq5, hf⟩ := xbind hf
      obtain ⟨hPc, hDc, hFc⟩ := xcut (wc := [(a0, .inr (2, [.ref a1, .int v1, .int v2])), (a1, .inl (cT 2, 4096, .inr (.inl f0)))]) hP hD hS hA [0, 1] rfl rfl (by decide)
      refine va_calli (va_runS (As := [.ref a0, .int y5, .ref a0, .int y3, .int (y4 + (1 : Int32))]) (rest := []) ⟨hx, hb, hml, hown, htx⟩ (hrec H.size a0 a1 y5 y3 (y4 + (1 : Int32)) f0 v1 v2 o4 hq5) ⟨callB_of 5 htx (xw_goodC kw_4_170) rfl rfl rfl (htx _ kw_1_27) (htx _ kw_4_168) ⟨by decide, by decide, by decide +kernel⟩ ⟨(by show (fr) + 1 ≤ fr + 1; omega), (by show 8 + (5 + 11) + (lo) ≤ lo + 24; omega)⟩, htx _ kw_4_169⟩ ⟨xPre_blind, (fun U hU hW => ⟨rfl, xPre_of hZ hS hFc hPc hDc hK U hU hW⟩)⟩ rfl rfl hl.1 rfl (lv_room (Nat.le_of_ble_eq_true rfl)) dH_isInSome_27 ⟨Nat.le_of_ble_eq_true rfl, Nat.le_of_ble_eq_true rfl⟩) hS (fun q _ h => hFc q h) hFc (fun r6 u9 t H1 locs ht hvm hr9 hB hz1 hk1 hS => ?_)
      obtain ⟨hP1, hK1, hD1⟩ := hB
      rw [ht] at hP1
      obtain ⟨hP, hD⟩ := xjoin (W := [(a0, .inr (2, [.ref a1, .int v1, .int v2])), (a1, .inl (cT 2, 4096, .inr (.inl f0)))]) hP hD [0, 1] [] 0 rfl rfl (by decide) (by decide) hk1 hFc hP1 hD1
      generalize H1 = H at hP hS ⊢
      rw [hr9]
      refine W.eq (g2 := F0 m 30 ls [.int o4]) rfl ?_
      refine lv_if_eq (tgt := 35) hx hb dH_isInSome_30 (by decide) (fun hc => ?_) (fun hc => ?_)
      · rw [if_pos hc] at hf
        refine lv_aload_n hx hb dH_isInSome_35 rfl (lv_at hl 2 rfl) ?_
        refine lv_iload hx hb dH_isInSome_36 (lv_at hl 1 rfl) ?_
        obtain ⟨o7, hq8, hf⟩ := xbind hf
        obtain ⟨hPc, hDc, hFc⟩ := xcut (wc := [(a0, .inr (2, [.ref a1, .int v1, .int v2])), (a1, .inl (cT 2, 4096, .inr (.inl f0)))]) hP hD hS hA [0, 1] rfl rfl (by decide)
        refine va_calli (va_runV (C := "ValueBench$Row") (As := [.int y5]) (rest := []) ⟨hx, hb, hml, hown, htx⟩ (gR_after l hl9 D cT aK aV H.size n a0 a1 y5 f0 v1 v2 o7 hq8) ⟨callB_of 1 htx (xw_goodC kw_2_196) rfl rfl rfl (htx _ kw_1_4) (htx _ kw_4_181) ⟨by decide, by decide, by decide +kernel⟩ ⟨Nat.le_of_ble_eq_true rfl, Nat.le_of_ble_eq_true rfl⟩, (htx _ kw_2_194), (htx _ kw_2_195)⟩ ⟨xPre_blind, va_recv hK hP (ci := 2) rfl (q0 := 0) rfl, (fun U hU hW => ⟨rfl, xPre_of hZ hS hFc hPc hDc hK U hU hW⟩)⟩ rfl rfl hl.1 rfl (lv_room (Nat.le_of_ble_eq_true rfl)) dH_isInSome_38 ⟨Nat.le_of_ble_eq_true rfl, Nat.le_of_ble_eq_true rfl⟩) hS (fun q _ h => hFc q h) hFc (fun r9 u9 t H1 locs ht hvm hr9 hB hz1 hk1 hS => ?_)
        obtain ⟨hP1, hK1, hD1⟩ := hB
        rw [ht] at hP1
        obtain ⟨hP, hD⟩ := xjoin (W := [(a0, .inr (2, [.ref a1, .int v1, .int v2])), (a1, .inl (cT 2, 4096, .inr (.inl f0)))]) hP hD [0, 1] [] 0 rfl rfl (by decide) (by decide) hk1 hFc hP1 hD1
        generalize H1 = H at hP hS ⊢
        rw [hr9]
        refine W.eq (g2 := F0 m 41 ls [.int o7]) rfl ?_
        refine lv_istore (lv' := [(5, .int o7), (6, .int y6), (0, .ref a0), (1, .int y1), (2, .ref a0), (3, .int y3), (4, .int y4)]) hx hb dH_isInSome_41 hl (by decide) rfl (fun ls hl => ?_)
        refine lv_iinc (v := (y6 + 1)) (lv' := [(6, .int (y6 + 1)), (5, .int o7), (0, .ref a0), (1, .int y1), (2, .ref a0), (3, .int y3), (4, .int y4)]) hx hb dH_isInSome_43 hl (k := 1) rfl rfl (by decide) rfl (fun ls hl => ?_)
        refine lv_goto (tgt := 8) hx hb dH_isInSome_46 (by decide) ?_
        obtain ⟨hP9, hD9⟩ := xsub (wc := [(a0, .inr (2, [.ref a1, .int v1, .int v2])), (a1, .inl (cT 2, 4096, .inr (.inl f0)))]) hP hD [0, 1] rfl rfl (by decide)
        exact ih (1, (y6 + 1), o7, y1, y3, y4) _ _ ls (⟨rfl, hf, hP9, hD9, hS, lv_sub hl [0, 1, 2, 3, 4, 5, 6] rfl⟩)
      · rw [if_neg hc] at hf
        refine lv_iconst (v := 1) hx hb dH_isInSome_33 (by decide) ?_
        obtain rfl := Option.some.inj hf
        obtain ⟨hP9, hD9⟩ := xsub (wc := [(a0, .inr (2, [.ref a1, .int v1, .int v2])), (a1, .inl (cT 2, 4096, .inr (.inl f0)))]) hP hD [0, 1] rfl rfl (by decide)
        exact W.zret (v := (1 : Int32)) hx hb hr rfl (fun t ht hW => ⟨⟨(1 : Int32), (), rfl, rfl, by rw [ht]; exact hP9, va_K.moved hW.alike hK, hD9⟩, hS.F ht⟩) hS.2.2 dH_isInSome_34
  refine lv_iload_n hx hb dH_isInSome_0 rfl (lv_at hl 1 rfl) ?_
  refine lv_iconst (v := 1) hx hb dH_isInSome_1 (by decide) ?_
  refine lv_iadd hx hb dH_isInSome_2 ?_
  refine lv_istore (lv' := [(5, .int (x1 + (1 : Int32))), (0, .ref a0), (1, .int x1), (2, .ref a0), (3, .int x3), (4, .int x4)]) hx hb dH_isInSome_3 hl (by decide) rfl (fun ls hl => ?_)
  refine lv_iconst (v := 0) hx hb dH_isInSome_5 (by decide) ?_
  refine lv_istore (lv' := [(6, .int 0), (5, .int (x1 + (1 : Int32))), (0, .ref a0), (1, .int x1), (2, .ref a0), (3, .int x3), (4, .int x4)]) hx hb dH_isInSome_6 hl (by decide) rfl (fun ls hl => ?_)
  obtain ⟨hP9, hD9⟩ := xsub (wc := [(a0, .inr (2, [.ref a1, .int v1, .int v2])), (a1, .inl (cT 2, 4096, .inr (.inl f0)))]) hP hD [0, 1] rfl rfl (by decide)
  exact key n (1, 0, (x1 + (1 : Int32)), x1, x3, x4) _ _ ls (⟨rfl, hf, hP9, hD9, hS, lv_sub hl [0, 1, 2, 3, 4, 5, 6] rfl⟩)
set_option maxHeartbeats 400000000 in
set_option maxRecDepth 100000 in
theorem gH_areElementsIna (l : Launch) (hl9 : l.stackTraces = false) (D : va_G) (cT : Nat → ClassId) (aK aV : Nat → Nat) (fr lo : Nat) (rec : Int32 → Int32 → Int32 → (Nat → Int64) → Int32 → Int32 → Option (Int32)) (hrec : ∀ (sz : Nat) (a0 : Nat) (a1 : Nat) (x1 : Int32) (x3 : Int32) (x4 : Int32) (f0 : Nat → Int64) (v1 : Int32) (v2 : Int32) (out : Int32), rec x1 x3 x4 f0 v1 v2 = some out → xMet l yH_isIn wyH_isIn fr 0 0 lo D cT aK aV sz [.ref a0, .int x1, .ref a0, .int x3, .int x4] [(a0, .inr (2, [.ref a1, .int v1, .int v2])), (a1, .inl (cT 2, 4096, .inr (.inl f0)))] (fun A => va_Qi (fun (r : Int32) (_ : Unit) => r = out) (fun _ t => xB D xcl cT A [(a0, .inr (2, [.ref a1, .int v1, .int v2])), (a1, .inl (cT 2, 4096, .inr (.inl f0)))] t) A)) (sz n : Nat) (a0 : Nat) (a1 : Nat) (x1 : Int32) (x3 : Int32) (x4 : Int32) (f0 : Nat → Int64) (v1 : Int32) (v2 : Int32) (out : Int32) (hf : fH_areElementsIna rec n x1 x3 x4 f0 v1 v2 = some out) : xMet l yH_areElementsIn wyH_areElementsIn (fr + 2) 0 0 (lo + 50) D cT aK aV sz [.ref a0, .int x1, .ref a0, .int x3, .int x4] [(a0, .inr (2, [.ref a1, .int v1, .int v2])), (a1, .inl (cT 2, 4096, .inr (.inl f0)))] (fun A => va_Qi (fun (r : Int32) (_ : Unit) => r = out) (fun _ t => xB D xcl cT A [(a0, .inr (2, [.ref a1, .int v1, .int v2])), (a1, .inl (cT 2, 4096, .inr (.inl f0)))] t) A) := by
  refine Met.ofW (cc := prog_5_method_13_code) (maxL := 7) (ret := (some .boolean)) (by decide) rfl ?_
  intro p e s m args below meth c s₁ B hml hv
  obtain ⟨rfl, hsz, hZ, hP, hK, hD0⟩ := hv
  have hx := B.exec
  have hb := B.bytes
  have hr := B.returns
  have hts := atoms_spec (ws := wyH_areElementsIn) B.pre
  have htx := fun w h => hts w (List.mem_cons_of_mem _ h)
  have hown : s.vm.findClass "ValueBench$Pairs" = some m.cls := findClass_of_methodNamed B.named
  have hlocks := B.notSynchronized
  subst hsz
  have hD := hD0.self (sz := s.heap.size)
  generalize hAe : va_A [(a0, .inr (2, [.ref a1, .int v1, .int v2])), (a1, .inl (cT 2, 4096, .inr (.inl f0)))] s.heap.size = A at hD hZ ⊢
  have hA : ∀ q : Nat, s.heap.size ≤ q → A q := fun q h => by rw [← hAe]; exact Or.inr h
  have hS : va_S A s.heap s.heap [] := va_S.rf
  have hP : va_P D xcl [(a0, .inr (2, [.ref a1, .int v1, .int v2])), (a1, .inl (cT 2, 4096, .inr (.inl f0)))] s.heap := hP
  have hl := lv_entry ([.ref a0, .int x1, .ref a0, .int x3, .int x4]) (n := 7) (Nat.le_of_ble_eq_true rfl)
  rw [lg_entry_eq]
  generalize (lg_sl ([.ref a0, .int x1, .ref a0, .int x3, .int x4]) ++ List.replicate (7 - (lg_sl ([.ref a0, .int x1, .ref a0, .int x3, .int x4])).length) Slot.unset).toArray = ls at hl ⊢
  have hl : lv_has ls 7 [(0, .ref a0), (1, .int x1), (2, .ref a0), (3, .int x3), (4, .int x4)] := hl
  unfold fH_areElementsIna at hf
  refine xloopK (σ := Nat × Int32 × Int32 × Int32 × Int32 × Int32) (fun n x H locs ls => (x.1 = 1 ∧ fH_areElementsIna_b rec f0 v1 v2 n x.1 x.2.1 x.2.2.1 x.2.2.2.1 x.2.2.2.2.1 x.2.2.2.2.2 = some out ∧ va_P D xcl [(a0, .inr (2, [.ref a1, .int v1, .int v2])), (a1, .inl (cT 2, 4096, .inr (.inl f0)))] H ∧ va_D A [(a0, .inr (2, [.ref a1, .int v1, .int v2])), (a1, .inl (cT 2, 4096, .inr (.inl f0)))] ∧ va_S A s.heap H locs ∧ lv_has ls 7 [(6, .int x.2.1), (5, .int x.2.2.1), (0, .ref a0), (1, .int x.2.2.2.1), (2, .ref a0), (3, .int x.2.2.2.2.1), (4, .int x.2.2.2.2.2)])) (fun x => 8) (fun x H locs ls h => by exact absurd h.2.1 (by rw [fH_areElementsIna_b]; exact fun h => nomatch h)) (fun n ih x H locs ls hv => ?_) (fun key => ?_)
  · obtain ⟨lb, y6, y5, y1, y3, y4⟩ := x
    rcases hv with ⟨hj, hf, hP, hD, hS, hl⟩
    subst hj
    have hf : fH_areElementsIna_b rec f0 v1 v2 (n + 1) 1 y6 y5 y1 y3 y4 = some out := hf
    rw [fH_areElementsIna_b] at hf
    obtain ⟨hP, hD⟩ : xPD D xcl A [(a0, .inr (2, [.ref a1, .int v1, .int v2])), (a1, .inl (cT 2, 4096, .inr (.inl f0)))] H := ⟨hP, hD⟩
    have hl : lv_has ls 7 [(6, .int y6), (5, .int y5), (0, .ref a0), (1, .int y1), (2, .ref a0), (3, .int y3), (4, .int y4)] := hl
    refine W.eq (g2 := F0 m 8 ls []) rfl ?_
    refine lv_iload hx hb dH_areElementsIn_8 (lv_at hl 0 rfl) ?_
    refine lv_aload_n hx hb dH_areElementsIn_10 rfl (lv_at hl 4 rfl) ?_
    refine lv_iload_n hx hb dH_areElementsIn_11 rfl (lv_at hl 5 rfl) ?_
    obtain ⟨o1, hq2, hf⟩ := xbind hf
    obtain ⟨hPc, hDc, hFc⟩ := xcut (wc := [(a0, .inr (2, [.ref a1, .int v1, .int v2])), (a1, .inl (cT 2, 4096, .inr (.inl f0)))]) hP hD hS hA [0, 1] rfl rfl (by decide)
    refine va_calli (va_runV (C := "ValueBench$Row") (As := [.int y3]) (rest := [.int y6]) ⟨hx, hb, hml, hown, htx⟩ (gR_length l hl9 D cT aK aV H.size n a0 a1 y3 f0 v1 v2 o1 hq2) ⟨callB_of 1 htx (xw_goodC kw_2_191) rfl rfl rfl (htx _ kw_1_4) (htx _ kw_4_157) ⟨by decide, by decide, by decide +kernel⟩ ⟨Nat.le_of_ble_eq_true rfl, Nat.le_of_ble_eq_true rfl⟩, (htx _ kw_2_189), (htx _ kw_2_190)⟩ ⟨xPre_blind, va_recv hK hP (ci := 2) rfl (q0 := 0) rfl, (fun U hU hW => ⟨rfl, xPre_of hZ hS hFc hPc hDc hK U hU hW⟩)⟩ rfl rfl hl.1 rfl (lv_room (Nat.le_of_ble_eq_true rfl)) dH_areElementsIn_12 ⟨Nat.le_of_ble_eq_true rfl, Nat.le_of_ble_eq_true rfl⟩) hS (fun q _ h => hFc q h) hFc (fun r3 u9 t H1 locs ht hvm hr9 hB hz1 hk1 hS => ?_)
    obtain ⟨hP1, hK1, hD1⟩ := hB
    rw [ht] at hP1
    obtain ⟨hP, hD⟩ := xjoin (W := [(a0, .inr (2, [.ref a1, .int v1, .int v2])), (a1, .inl (cT 2, 4096, .inr (.inl f0)))]) hP hD [0, 1] [] 0 rfl rfl (by decide) (by decide) hk1 hFc hP1 hD1
    generalize H1 = H at hP hS ⊢
    rw [hr9]
    refine W.eq (g2 := F0 m 15 ls [.int o1, .int y6]) rfl ?_
    refine lv_icmp_ge (tgt := 47) hx hb dH_areElementsIn_15 (by decide) (fun hc => ?_) (fun hc => ?_)
    · rw [if_pos hc] at hf
      refine lv_iconst (v := 1) hx hb dH_areElementsIn_47 (by decide) ?_
      obtain rfl := Option.some.inj hf
      obtain ⟨hP9, hD9⟩ := xsub (wc := [(a0, .inr (2, [.ref a1, .int v1, .int v2])), (a1, .inl (cT 2, 4096, .inr (.inl f0)))]) hP hD [0, 1] rfl rfl (by decide)
      exact W.zret (v := (1 : Int32)) hx hb hr rfl (fun t ht hW => ⟨⟨(1 : Int32), (), rfl, rfl, by rw [ht]; exact hP9, va_K.moved hW.alike hK, hD9⟩, hS.F ht⟩) hS.2.2 dH_areElementsIn_48
    · rw [if_neg hc] at hf
      refine lv_aload_n hx hb dH_areElementsIn_18 rfl (lv_at hl 2 rfl) ?_
      refine lv_iload_n hx hb dH_areElementsIn_19 rfl (lv_at hl 3 rfl) ?_
      refine lv_aload_n hx hb dH_areElementsIn_20 rfl (lv_at hl 4 rfl) ?_
      refine lv_iload hx hb dH_areElementsIn_21 (lv_at hl 1 rfl) ?_
      refine lv_iload hx hb dH_areElementsIn_23 (lv_at hl 6 rfl) ?_
      obtain ⟨o4, hq5, hf⟩ := xbind hf
      obtain ⟨hPc, hDc, hFc⟩ := xcut (wc := [(a0, .inr (2, [.ref a1, .int v1, .int v2])), (a1, .inl (cT 2, 4096, .inr (.inl f0)))]) hP hD hS hA [0, 1] rfl rfl (by decide)
      refine va_calli (va_runS (As := [.ref a0, .int y1, .ref a0, .int y5, .int y4]) (rest := []) ⟨hx, hb, hml, hown, htx⟩ (gH_isInSomea l hl9 D cT aK aV fr lo rec hrec H.size n a0 a1 y1 y5 y4 f0 v1 v2 o4 hq5) ⟨callB_of 5 htx (xw_goodC kw_4_180) rfl rfl rfl (htx _ kw_1_27) (htx _ kw_4_178) ⟨by decide, by decide, by decide +kernel⟩ ⟨(by show (fr + 1) + 1 ≤ fr + 2; omega), (by show 8 + (7 + 11) + (lo + 24) ≤ lo + 50; omega)⟩, htx _ kw_4_179⟩ ⟨xPre_blind, (fun U hU hW => ⟨rfl, xPre_of hZ hS hFc hPc hDc hK U hU hW⟩)⟩ rfl rfl hl.1 rfl (lv_room (Nat.le_of_ble_eq_true rfl)) dH_areElementsIn_25 ⟨Nat.le_of_ble_eq_true rfl, Nat.le_of_ble_eq_true rfl⟩) hS (fun q _ h => hFc q h) hFc (fun r6 u9 t H1 locs ht hvm hr9 hB hz1 hk1 hS => ?_)
      obtain ⟨hP1, hK1, hD1⟩ := hB
      rw [ht] at hP1
      obtain ⟨hP, hD⟩ := xjoin (W := [(a0, .inr (2, [.ref a1, .int v1, .int v2])), (a1, .inl (cT 2, 4096, .inr (.inl f0)))]) hP hD [0, 1] [] 0 rfl rfl (by decide) (by decide) hk1 hFc hP1 hD1
      generalize H1 = H at hP hS ⊢
      rw [hr9]
      refine W.eq (g2 := F0 m 28 ls [.int o4]) rfl ?_
      refine lv_if_ne (tgt := 33) hx hb dH_areElementsIn_28 (by decide) (fun hc => ?_) (fun hc => ?_)
      · rw [if_neg hc] at hf
        refine lv_aload_n hx hb dH_areElementsIn_33 rfl (lv_at hl 4 rfl) ?_
        refine lv_iload hx hb dH_areElementsIn_34 (lv_at hl 1 rfl) ?_
        obtain ⟨o7, hq8, hf⟩ := xbind hf
        obtain ⟨hPc, hDc, hFc⟩ := xcut (wc := [(a0, .inr (2, [.ref a1, .int v1, .int v2])), (a1, .inl (cT 2, 4096, .inr (.inl f0)))]) hP hD hS hA [0, 1] rfl rfl (by decide)
        refine va_calli (va_runV (C := "ValueBench$Row") (As := [.int y5]) (rest := []) ⟨hx, hb, hml, hown, htx⟩ (gR_after l hl9 D cT aK aV H.size n a0 a1 y5 f0 v1 v2 o7 hq8) ⟨callB_of 1 htx (xw_goodC kw_2_196) rfl rfl rfl (htx _ kw_1_4) (htx _ kw_4_181) ⟨by decide, by decide, by decide +kernel⟩ ⟨Nat.le_of_ble_eq_true rfl, Nat.le_of_ble_eq_true rfl⟩, (htx _ kw_2_194), (htx _ kw_2_195)⟩ ⟨xPre_blind, va_recv hK hP (ci := 2) rfl (q0 := 0) rfl, (fun U hU hW => ⟨rfl, xPre_of hZ hS hFc hPc hDc hK U hU hW⟩)⟩ rfl rfl hl.1 rfl (lv_room (Nat.le_of_ble_eq_true rfl)) dH_areElementsIn_36 ⟨Nat.le_of_ble_eq_true rfl, Nat.le_of_ble_eq_true rfl⟩) hS (fun q _ h => hFc q h) hFc (fun r9 u9 t H1 locs ht hvm hr9 hB hz1 hk1 hS => ?_)
        obtain ⟨hP1, hK1, hD1⟩ := hB
        rw [ht] at hP1
        obtain ⟨hP, hD⟩ := xjoin (W := [(a0, .inr (2, [.ref a1, .int v1, .int v2])), (a1, .inl (cT 2, 4096, .inr (.inl f0)))]) hP hD [0, 1] [] 0 rfl rfl (by decide) (by decide) hk1 hFc hP1 hD1
        generalize H1 = H at hP hS ⊢
        rw [hr9]
        refine W.eq (g2 := F0 m 39 ls [.int o7]) rfl ?_
        refine lv_istore (lv' := [(5, .int o7), (6, .int y6), (0, .ref a0), (1, .int y1), (2, .ref a0), (3, .int y3), (4, .int y4)]) hx hb dH_areElementsIn_39 hl (by decide) rfl (fun ls hl => ?_)
        refine lv_iinc (v := (y6 + 1)) (lv' := [(6, .int (y6 + 1)), (5, .int o7), (0, .ref a0), (1, .int y1), (2, .ref a0), (3, .int y3), (4, .int y4)]) hx hb dH_areElementsIn_41 hl (k := 1) rfl rfl (by decide) rfl (fun ls hl => ?_)
        refine lv_goto (tgt := 8) hx hb dH_areElementsIn_44 (by decide) ?_
        obtain ⟨hP9, hD9⟩ := xsub (wc := [(a0, .inr (2, [.ref a1, .int v1, .int v2])), (a1, .inl (cT 2, 4096, .inr (.inl f0)))]) hP hD [0, 1] rfl rfl (by decide)
        exact ih (1, (y6 + 1), o7, y1, y3, y4) _ _ ls (⟨rfl, hf, hP9, hD9, hS, lv_sub hl [0, 1, 2, 3, 4, 5, 6] rfl⟩)
      · rw [if_pos hc] at hf
        refine lv_iconst (v := 0) hx hb dH_areElementsIn_31 (by decide) ?_
        obtain rfl := Option.some.inj hf
        obtain ⟨hP9, hD9⟩ := xsub (wc := [(a0, .inr (2, [.ref a1, .int v1, .int v2])), (a1, .inl (cT 2, 4096, .inr (.inl f0)))]) hP hD [0, 1] rfl rfl (by decide)
        exact W.zret (v := (0 : Int32)) hx hb hr rfl (fun t ht hW => ⟨⟨(0 : Int32), (), rfl, rfl, by rw [ht]; exact hP9, va_K.moved hW.alike hK, hD9⟩, hS.F ht⟩) hS.2.2 dH_areElementsIn_32
  refine lv_iload_n hx hb dH_areElementsIn_0 rfl (lv_at hl 3 rfl) ?_
  refine lv_iconst (v := 1) hx hb dH_areElementsIn_1 (by decide) ?_
  refine lv_iadd hx hb dH_areElementsIn_2 ?_
  refine lv_istore (lv' := [(5, .int (x3 + (1 : Int32))), (0, .ref a0), (1, .int x1), (2, .ref a0), (3, .int x3), (4, .int x4)]) hx hb dH_areElementsIn_3 hl (by decide) rfl (fun ls hl => ?_)
  refine lv_iconst (v := 0) hx hb dH_areElementsIn_5 (by decide) ?_
  refine lv_istore (lv' := [(6, .int 0), (5, .int (x3 + (1 : Int32))), (0, .ref a0), (1, .int x1), (2, .ref a0), (3, .int x3), (4, .int x4)]) hx hb dH_areElementsIn_6 hl (by decide) rfl (fun ls hl => ?_)
  obtain ⟨hP9, hD9⟩ := xsub (wc := [(a0, .inr (2, [.ref a1, .int v1, .int v2])), (a1, .inl (cT 2, 4096, .inr (.inl f0)))]) hP hD [0, 1] rfl rfl (by decide)
  exact key n (1, 0, (x3 + (1 : Int32)), x1, x3, x4) _ _ ls (⟨rfl, hf, hP9, hD9, hS, lv_sub hl [0, 1, 2, 3, 4, 5, 6] rfl⟩)
set_option maxHeartbeats 400000000 in
set_option maxRecDepth 100000 in
theorem gH_areNamesIna (l : Launch) (hl9 : l.stackTraces = false) (D : va_G) (cT : Nat → ClassId) (aK aV : Nat → Nat) (fr lo : Nat) (rec : Int32 → Int32 → Int32 → (Nat → Int64) → Int32 → Int32 → Option (Int32)) (hrec : ∀ (sz : Nat) (a0 : Nat) (a1 : Nat) (x1 : Int32) (x3 : Int32) (x4 : Int32) (f0 : Nat → Int64) (v1 : Int32) (v2 : Int32) (out : Int32), rec x1 x3 x4 f0 v1 v2 = some out → xMet l yH_isIn wyH_isIn fr 0 0 lo D cT aK aV sz [.ref a0, .int x1, .ref a0, .int x3, .int x4] [(a0, .inr (2, [.ref a1, .int v1, .int v2])), (a1, .inl (cT 2, 4096, .inr (.inl f0)))] (fun A => va_Qi (fun (r : Int32) (_ : Unit) => r = out) (fun _ t => xB D xcl cT A [(a0, .inr (2, [.ref a1, .int v1, .int v2])), (a1, .inl (cT 2, 4096, .inr (.inl f0)))] t) A)) (sz n : Nat) (a0 : Nat) (a1 : Nat) (x1 : Int32) (x3 : Int32) (x4 : Int32) (f0 : Nat → Int64) (v1 : Int32) (v2 : Int32) (out : Int32) (hf : fH_areNamesIna rec n x1 x3 x4 f0 v1 v2 = some out) : xMet l yH_areNamesIn wyH_areNamesIn (fr + 2) 0 0 (lo + 55) D cT aK aV sz [.ref a0, .int x1, .ref a0, .int x3, .int x4] [(a0, .inr (2, [.ref a1, .int v1, .int v2])), (a1, .inl (cT 2, 4096, .inr (.inl f0)))] (fun A => va_Qi (fun (r : Int32) (_ : Unit) => r = out) (fun _ t => xB D xcl cT A [(a0, .inr (2, [.ref a1, .int v1, .int v2])), (a1, .inl (cT 2, 4096, .inr (.inl f0)))] t) A) := by
  refine Met.ofW (cc := prog_5_method_15_code) (maxL := 9) (ret := (some .boolean)) (by decide) rfl ?_
  intro p e s m args below meth c s₁ B hml hv
  obtain ⟨rfl, hsz, hZ, hP, hK, hD0⟩ := hv
  have hx := B.exec
  have hb := B.bytes
  have hr := B.returns
  have hts := atoms_spec (ws := wyH_areNamesIn) B.pre
  have htx := fun w h => hts w (List.mem_cons_of_mem _ h)
  have hown : s.vm.findClass "ValueBench$Pairs" = some m.cls := findClass_of_methodNamed B.named
  have hlocks := B.notSynchronized
  subst hsz
  have hD := hD0.self (sz := s.heap.size)
  generalize hAe : va_A [(a0, .inr (2, [.ref a1, .int v1, .int v2])), (a1, .inl (cT 2, 4096, .inr (.inl f0)))] s.heap.size = A at hD hZ ⊢
  have hA : ∀ q : Nat, s.heap.size ≤ q → A q := fun q h => by rw [← hAe]; exact Or.inr h
  have hS : va_S A s.heap s.heap [] := va_S.rf
  have hP : va_P D xcl [(a0, .inr (2, [.ref a1, .int v1, .int v2])), (a1, .inl (cT 2, 4096, .inr (.inl f0)))] s.heap := hP
  have hl := lv_entry ([.ref a0, .int x1, .ref a0, .int x3, .int x4]) (n := 9) (Nat.le_of_ble_eq_true rfl)
  rw [lg_entry_eq]
  generalize (lg_sl ([.ref a0, .int x1, .ref a0, .int x3, .int x4]) ++ List.replicate (9 - (lg_sl ([.ref a0, .int x1, .ref a0, .int x3, .int x4])).length) Slot.unset).toArray = ls at hl ⊢
  have hl : lv_has ls 9 [(0, .ref a0), (1, .int x1), (2, .ref a0), (3, .int x3), (4, .int x4)] := hl
  unfold fH_areNamesIna at hf
  refine xloopK (σ := Nat × Int32 × Int32 × Int32 × Int32 × Int32) (fun n x H locs ls => (x.1 = 1 ∧ fH_areNamesIna_b rec f0 v1 v2 n x.1 x.2.1 x.2.2.1 x.2.2.2.1 x.2.2.2.2.1 x.2.2.2.2.2 = some out ∧ va_P D xcl [(a0, .inr (2, [.ref a1, .int v1, .int v2])), (a1, .inl (cT 2, 4096, .inr (.inl f0)))] H ∧ va_D A [(a0, .inr (2, [.ref a1, .int v1, .int v2])), (a1, .inl (cT 2, 4096, .inr (.inl f0)))] ∧ va_S A s.heap H locs ∧ lv_has ls 9 [(6, .int x.2.1), (5, .int x.2.2.1), (0, .ref a0), (1, .int x.2.2.2.1), (2, .ref a0), (3, .int x.2.2.2.2.1), (4, .int x.2.2.2.2.2)])) (fun x => 8) (fun x H locs ls h => by exact absurd h.2.1 (by rw [fH_areNamesIna_b]; exact fun h => nomatch h)) (fun n ih x H locs ls hv => ?_) (fun key => ?_)
  · obtain ⟨lb, y6, y5, y1, y3, y4⟩ := x
    rcases hv with ⟨hj, hf, hP, hD, hS, hl⟩
    subst hj
    have hf : fH_areNamesIna_b rec f0 v1 v2 (n + 1) 1 y6 y5 y1 y3 y4 = some out := hf
    rw [fH_areNamesIna_b] at hf
    obtain ⟨hP, hD⟩ : xPD D xcl A [(a0, .inr (2, [.ref a1, .int v1, .int v2])), (a1, .inl (cT 2, 4096, .inr (.inl f0)))] H := ⟨hP, hD⟩
    have hl : lv_has ls 9 [(6, .int y6), (5, .int y5), (0, .ref a0), (1, .int y1), (2, .ref a0), (3, .int y3), (4, .int y4)] := hl
    refine W.eq (g2 := F0 m 8 ls []) rfl ?_
    refine lv_iload hx hb dH_areNamesIn_8 (lv_at hl 0 rfl) ?_
    refine lv_aload_n hx hb dH_areNamesIn_10 rfl (lv_at hl 4 rfl) ?_
    refine lv_iload_n hx hb dH_areNamesIn_11 rfl (lv_at hl 5 rfl) ?_
    obtain ⟨o1, hq2, hf⟩ := xbind hf
    obtain ⟨hPc, hDc, hFc⟩ := xcut (wc := [(a0, .inr (2, [.ref a1, .int v1, .int v2])), (a1, .inl (cT 2, 4096, .inr (.inl f0)))]) hP hD hS hA [0, 1] rfl rfl (by decide)
    refine va_calli (va_runV (C := "ValueBench$Row") (As := [.int y3]) (rest := [.int y6]) ⟨hx, hb, hml, hown, htx⟩ (gR_length l hl9 D cT aK aV H.size n a0 a1 y3 f0 v1 v2 o1 hq2) ⟨callB_of 1 htx (xw_goodC kw_2_191) rfl rfl rfl (htx _ kw_1_4) (htx _ kw_4_157) ⟨by decide, by decide, by decide +kernel⟩ ⟨Nat.le_of_ble_eq_true rfl, Nat.le_of_ble_eq_true rfl⟩, (htx _ kw_2_189), (htx _ kw_2_190)⟩ ⟨xPre_blind, va_recv hK hP (ci := 2) rfl (q0 := 0) rfl, (fun U hU hW => ⟨rfl, xPre_of hZ hS hFc hPc hDc hK U hU hW⟩)⟩ rfl rfl hl.1 rfl (lv_room (Nat.le_of_ble_eq_true rfl)) dH_areNamesIn_12 ⟨Nat.le_of_ble_eq_true rfl, Nat.le_of_ble_eq_true rfl⟩) hS (fun q _ h => hFc q h) hFc (fun r3 u9 t H1 locs ht hvm hr9 hB hz1 hk1 hS => ?_)
    obtain ⟨hP1, hK1, hD1⟩ := hB
    rw [ht] at hP1
    obtain ⟨hP, hD⟩ := xjoin (W := [(a0, .inr (2, [.ref a1, .int v1, .int v2])), (a1, .inl (cT 2, 4096, .inr (.inl f0)))]) hP hD [0, 1] [] 0 rfl rfl (by decide) (by decide) hk1 hFc hP1 hD1
    generalize H1 = H at hP hS ⊢
    rw [hr9]
    refine W.eq (g2 := F0 m 15 ls [.int o1, .int y6]) rfl ?_
    refine lv_icmp_ge (tgt := 74) hx hb dH_areNamesIn_15 (by decide) (fun hc => ?_) (fun hc => ?_)
    · rw [if_pos hc] at hf
      refine lv_iconst (v := 1) hx hb dH_areNamesIn_74 (by decide) ?_
      obtain rfl := Option.some.inj hf
      obtain ⟨hP9, hD9⟩ := xsub (wc := [(a0, .inr (2, [.ref a1, .int v1, .int v2])), (a1, .inl (cT 2, 4096, .inr (.inl f0)))]) hP hD [0, 1] rfl rfl (by decide)
      exact W.zret (v := (1 : Int32)) hx hb hr rfl (fun t ht hW => ⟨⟨(1 : Int32), (), rfl, rfl, by rw [ht]; exact hP9, va_K.moved hW.alike hK, hD9⟩, hS.F ht⟩) hS.2.2 dH_areNamesIn_75
    · rw [if_neg hc] at hf
      refine lv_aload_n hx hb dH_areNamesIn_18 rfl (lv_at hl 4 rfl) ?_
      refine lv_iload hx hb dH_areNamesIn_19 (lv_at hl 1 rfl) ?_
      obtain ⟨o4, hq5, hf⟩ := xbind hf
      obtain ⟨hPc, hDc, hFc⟩ := xcut (wc := [(a0, .inr (2, [.ref a1, .int v1, .int v2])), (a1, .inl (cT 2, 4096, .inr (.inl f0)))]) hP hD hS hA [0, 1] rfl rfl (by decide)
      refine va_calli (va_runV (C := "ValueBench$Row") (As := [.int y5]) (rest := []) ⟨hx, hb, hml, hown, htx⟩ (gR_after l hl9 D cT aK aV H.size n a0 a1 y5 f0 v1 v2 o4 hq5) ⟨callB_of 1 htx (xw_goodC kw_2_196) rfl rfl rfl (htx _ kw_1_4) (htx _ kw_4_181) ⟨by decide, by decide, by decide +kernel⟩ ⟨Nat.le_of_ble_eq_true rfl, Nat.le_of_ble_eq_true rfl⟩, (htx _ kw_2_194), (htx _ kw_2_195)⟩ ⟨xPre_blind, va_recv hK hP (ci := 2) rfl (q0 := 0) rfl, (fun U hU hW => ⟨rfl, xPre_of hZ hS hFc hPc hDc hK U hU hW⟩)⟩ rfl rfl hl.1 rfl (lv_room (Nat.le_of_ble_eq_true rfl)) dH_areNamesIn_21 ⟨Nat.le_of_ble_eq_true rfl, Nat.le_of_ble_eq_true rfl⟩) hS (fun q _ h => hFc q h) hFc (fun r6 u9 t H1 locs ht hvm hr9 hB hz1 hk1 hS => ?_)
      obtain ⟨hP1, hK1, hD1⟩ := hB
      rw [ht] at hP1
      obtain ⟨hP, hD⟩ := xjoin (W := [(a0, .inr (2, [.ref a1, .int v1, .int v2])), (a1, .inl (cT 2, 4096, .inr (.inl f0)))]) hP hD [0, 1] [] 0 rfl rfl (by decide) (by decide) hk1 hFc hP1 hD1
      generalize H1 = H at hP hS ⊢
      rw [hr9]
      refine W.eq (g2 := F0 m 24 ls [.int o4]) rfl ?_
      refine lv_istore (lv' := [(7, .int o4), (6, .int y6), (5, .int y5), (0, .ref a0), (1, .int y1), (2, .ref a0), (3, .int y3), (4, .int y4)]) hx hb dH_areNamesIn_24 hl (by decide) rfl (fun ls hl => ?_)
      refine lv_aload_n hx hb dH_areNamesIn_26 rfl (lv_at hl 3 rfl) ?_
      refine lv_iload_n hx hb dH_areNamesIn_27 rfl (lv_at hl 4 rfl) ?_
      refine lv_aload_n hx hb dH_areNamesIn_28 rfl (lv_at hl 5 rfl) ?_
      refine lv_iload hx hb dH_areNamesIn_29 (lv_at hl 2 rfl) ?_
      obtain ⟨o7, hq8, hf⟩ := xbind hf
      obtain ⟨hPc, hDc, hFc⟩ := xcut (wc := [(a0, .inr (2, [.ref a1, .int v1, .int v2])), (a1, .inl (cT 2, 4096, .inr (.inl f0)))]) hP hD hS hA [0, 1] rfl rfl (by decide)
      refine va_calli (va_runV (C := "ValueBench$Row") (As := [.int y1, .ref a0, .int y5]) (rest := []) ⟨hx, hb, hml, hown, htx⟩ (gR_valueOf l hl9 D cT aK aV H.size n a0 a1 y1 y5 f0 v1 v2 o7 hq8) ⟨callB_of 3 htx (xw_goodC kw_2_187) rfl rfl rfl (htx _ kw_1_4) (htx _ kw_4_151) ⟨by decide, by decide, by decide +kernel⟩ ⟨Nat.le_of_ble_eq_true rfl, Nat.le_of_ble_eq_true rfl⟩, (htx _ kw_2_185), (htx _ kw_2_186)⟩ ⟨xPre_blind, va_recv hK hP (ci := 2) rfl (q0 := 0) rfl, (fun U hU hW => ⟨rfl, xPre_of hZ hS hFc hPc hDc hK U hU hW⟩)⟩ rfl rfl hl.1 rfl (lv_room (Nat.le_of_ble_eq_true rfl)) dH_areNamesIn_31 ⟨Nat.le_of_ble_eq_true rfl, Nat.le_of_ble_eq_true rfl⟩) hS (fun q _ h => hFc q h) hFc (fun r9 u9 t H1 locs ht hvm hr9 hB hz1 hk1 hS => ?_)
      obtain ⟨hP1, hK1, hD1⟩ := hB
      rw [ht] at hP1
      obtain ⟨hP, hD⟩ := xjoin (W := [(a0, .inr (2, [.ref a1, .int v1, .int v2])), (a1, .inl (cT 2, 4096, .inr (.inl f0)))]) hP hD [0, 1] [] 0 rfl rfl (by decide) (by decide) hk1 hFc hP1 hD1
      generalize H1 = H at hP hS ⊢
      rw [hr9]
      refine W.eq (g2 := F0 m 34 ls [.int o7]) rfl ?_
      refine lv_istore (lv' := [(8, .int o7), (7, .int o4), (6, .int y6), (5, .int y5), (0, .ref a0), (1, .int y1), (2, .ref a0), (3, .int y3), (4, .int y4)]) hx hb dH_areNamesIn_34 hl (by decide) rfl (fun ls hl => ?_)
      refine lv_iload hx hb dH_areNamesIn_36 (lv_at hl 0 rfl) ?_
      refine lv_iconst (v := (-1)) hx hb dH_areNamesIn_38 (by decide) ?_
      refine lv_icmp_eq (tgt := 58) hx hb dH_areNamesIn_39 (by decide) (fun hc => ?_) (fun hc => ?_)
      · rw [if_pos hc] at hf
        refine lv_iconst (v := 0) hx hb dH_areNamesIn_58 (by decide) ?_
        obtain rfl := Option.some.inj hf
        obtain ⟨hP9, hD9⟩ := xsub (wc := [(a0, .inr (2, [.ref a1, .int v1, .int v2])), (a1, .inl (cT 2, 4096, .inr (.inl f0)))]) hP hD [0, 1] rfl rfl (by decide)
        exact W.zret (v := (0 : Int32)) hx hb hr rfl (fun t ht hW => ⟨⟨(0 : Int32), (), rfl, rfl, by rw [ht]; exact hP9, va_K.moved hW.alike hK, hD9⟩, hS.F ht⟩) hS.2.2 dH_areNamesIn_59
      · rw [if_neg hc] at hf
        refine lv_aload_n hx hb dH_areNamesIn_42 rfl (lv_at hl 4 rfl) ?_
        refine lv_iload hx hb dH_areNamesIn_43 (lv_at hl 0 rfl) ?_
        refine lv_aload_n hx hb dH_areNamesIn_45 rfl (lv_at hl 6 rfl) ?_
        refine lv_iload hx hb dH_areNamesIn_46 (lv_at hl 1 rfl) ?_
        refine lv_iload hx hb dH_areNamesIn_48 (lv_at hl 8 rfl) ?_
        refine lv_iconst (v := 1) hx hb dH_areNamesIn_50 (by decide) ?_
        refine lv_iadd hx hb dH_areNamesIn_51 ?_
        obtain ⟨o10, hq11, hf⟩ := xbind hf
        obtain ⟨hPc, hDc, hFc⟩ := xcut (wc := [(a0, .inr (2, [.ref a1, .int v1, .int v2])), (a1, .inl (cT 2, 4096, .inr (.inl f0)))]) hP hD hS hA [0, 1] rfl rfl (by decide)
        refine va_calli (va_runS (As := [.ref a0, .int o7, .ref a0, .int o4, .int (y4 + (1 : Int32))]) (rest := []) ⟨hx, hb, hml, hown, htx⟩ (hrec H.size a0 a1 o7 o4 (y4 + (1 : Int32)) f0 v1 v2 o10 hq11) ⟨callB_of 5 htx (xw_goodC kw_4_170) rfl rfl rfl (htx _ kw_1_27) (htx _ kw_4_168) ⟨by decide, by decide, by decide +kernel⟩ ⟨(by show (fr) + 1 ≤ fr + 2; omega), (by show 8 + (5 + 11) + (lo) ≤ lo + 55; omega)⟩, htx _ kw_4_169⟩ ⟨xPre_blind, (fun U hU hW => ⟨rfl, xPre_of hZ hS hFc hPc hDc hK U hU hW⟩)⟩ rfl rfl hl.1 rfl (lv_room (Nat.le_of_ble_eq_true rfl)) dH_areNamesIn_52 ⟨Nat.le_of_ble_eq_true rfl, Nat.le_of_ble_eq_true rfl⟩) hS (fun q _ h => hFc q h) hFc (fun r12 u9 t H1 locs ht hvm hr9 hB hz1 hk1 hS => ?_)
        obtain ⟨hP1, hK1, hD1⟩ := hB
        rw [ht] at hP1
        obtain ⟨hP, hD⟩ := xjoin (W := [(a0, .inr (2, [.ref a1, .int v1, .int v2])), (a1, .inl (cT 2, 4096, .inr (.inl f0)))]) hP hD [0, 1] [] 0 rfl rfl (by decide) (by decide) hk1 hFc hP1 hD1
        generalize H1 = H at hP hS ⊢
        rw [hr9]
        refine W.eq (g2 := F0 m 55 ls [.int o10]) rfl ?_
        refine lv_if_ne (tgt := 60) hx hb dH_areNamesIn_55 (by decide) (fun hc => ?_) (fun hc => ?_)
        · rw [if_neg hc] at hf
          refine lv_aload_n hx hb dH_areNamesIn_60 rfl (lv_at hl 6 rfl) ?_
          refine lv_iload hx hb dH_areNamesIn_61 (lv_at hl 1 rfl) ?_
          obtain ⟨o13, hq14, hf⟩ := xbind hf
          obtain ⟨hPc, hDc, hFc⟩ := xcut (wc := [(a0, .inr (2, [.ref a1, .int v1, .int v2])), (a1, .inl (cT 2, 4096, .inr (.inl f0)))]) hP hD hS hA [0, 1] rfl rfl (by decide)
          refine va_calli (va_runV (C := "ValueBench$Row") (As := [.int o4]) (rest := []) ⟨hx, hb, hml, hown, htx⟩ (gR_after l hl9 D cT aK aV H.size n a0 a1 o4 f0 v1 v2 o13 hq14) ⟨callB_of 1 htx (xw_goodC kw_2_196) rfl rfl rfl (htx _ kw_1_4) (htx _ kw_4_181) ⟨by decide, by decide, by decide +kernel⟩ ⟨Nat.le_of_ble_eq_true rfl, Nat.le_of_ble_eq_true rfl⟩, (htx _ kw_2_194), (htx _ kw_2_195)⟩ ⟨xPre_blind, va_recv hK hP (ci := 2) rfl (q0 := 0) rfl, (fun U hU hW => ⟨rfl, xPre_of hZ hS hFc hPc hDc hK U hU hW⟩)⟩ rfl rfl hl.1 rfl (lv_room (Nat.le_of_ble_eq_true rfl)) dH_areNamesIn_63 ⟨Nat.le_of_ble_eq_true rfl, Nat.le_of_ble_eq_true rfl⟩) hS (fun q _ h => hFc q h) hFc (fun r15 u9 t H1 locs ht hvm hr9 hB hz1 hk1 hS => ?_)
          obtain ⟨hP1, hK1, hD1⟩ := hB
          rw [ht] at hP1
          obtain ⟨hP, hD⟩ := xjoin (W := [(a0, .inr (2, [.ref a1, .int v1, .int v2])), (a1, .inl (cT 2, 4096, .inr (.inl f0)))]) hP hD [0, 1] [] 0 rfl rfl (by decide) (by decide) hk1 hFc hP1 hD1
          generalize H1 = H at hP hS ⊢
          rw [hr9]
          refine W.eq (g2 := F0 m 66 ls [.int o13]) rfl ?_
          refine lv_istore (lv' := [(5, .int o13), (8, .int o7), (7, .int o4), (6, .int y6), (0, .ref a0), (1, .int y1), (2, .ref a0), (3, .int y3), (4, .int y4)]) hx hb dH_areNamesIn_66 hl (by decide) rfl (fun ls hl => ?_)
          refine lv_iinc (v := (y6 + 1)) (lv' := [(6, .int (y6 + 1)), (5, .int o13), (8, .int o7), (7, .int o4), (0, .ref a0), (1, .int y1), (2, .ref a0), (3, .int y3), (4, .int y4)]) hx hb dH_areNamesIn_68 hl (k := 3) rfl rfl (by decide) rfl (fun ls hl => ?_)
          refine lv_goto (tgt := 8) hx hb dH_areNamesIn_71 (by decide) ?_
          obtain ⟨hP9, hD9⟩ := xsub (wc := [(a0, .inr (2, [.ref a1, .int v1, .int v2])), (a1, .inl (cT 2, 4096, .inr (.inl f0)))]) hP hD [0, 1] rfl rfl (by decide)
          exact ih (1, (y6 + 1), o13, y1, y3, y4) _ _ ls (⟨rfl, hf, hP9, hD9, hS, lv_sub hl [0, 1, 4, 5, 6, 7, 8] rfl⟩)
        · rw [if_pos hc] at hf
          refine lv_iconst (v := 0) hx hb dH_areNamesIn_58 (by decide) ?_
          obtain rfl := Option.some.inj hf
          obtain ⟨hP9, hD9⟩ := xsub (wc := [(a0, .inr (2, [.ref a1, .int v1, .int v2])), (a1, .inl (cT 2, 4096, .inr (.inl f0)))]) hP hD [0, 1] rfl rfl (by decide)
          exact W.zret (v := (0 : Int32)) hx hb hr rfl (fun t ht hW => ⟨⟨(0 : Int32), (), rfl, rfl, by rw [ht]; exact hP9, va_K.moved hW.alike hK, hD9⟩, hS.F ht⟩) hS.2.2 dH_areNamesIn_59
  refine lv_iload_n hx hb dH_areNamesIn_0 rfl (lv_at hl 3 rfl) ?_
  refine lv_iconst (v := 1) hx hb dH_areNamesIn_1 (by decide) ?_
  refine lv_iadd hx hb dH_areNamesIn_2 ?_
  refine lv_istore (lv' := [(5, .int (x3 + (1 : Int32))), (0, .ref a0), (1, .int x1), (2, .ref a0), (3, .int x3), (4, .int x4)]) hx hb dH_areNamesIn_3 hl (by decide) rfl (fun ls hl => ?_)
  refine lv_iconst (v := 0) hx hb dH_areNamesIn_5 (by decide) ?_
  refine lv_istore (lv' := [(6, .int 0), (5, .int (x3 + (1 : Int32))), (0, .ref a0), (1, .int x1), (2, .ref a0), (3, .int x3), (4, .int x4)]) hx hb dH_areNamesIn_6 hl (by decide) rfl (fun ls hl => ?_)
  obtain ⟨hP9, hD9⟩ := xsub (wc := [(a0, .inr (2, [.ref a1, .int v1, .int v2])), (a1, .inl (cT 2, 4096, .inr (.inl f0)))]) hP hD [0, 1] rfl rfl (by decide)
  exact key n (1, 0, (x3 + (1 : Int32)), x1, x3, x4) _ _ ls (⟨rfl, hf, hP9, hD9, hS, lv_sub hl [0, 1, 2, 3, 4, 5, 6] rfl⟩)
set_option maxHeartbeats 400000000 in
set_option maxRecDepth 100000 in
theorem gH_isIna (l : Launch) (hl9 : l.stackTraces = false) (D : va_G) (cT : Nat → ClassId) (aK aV : Nat → Nat) : ∀ (d sz n : Nat) (a0 : Nat) (a1 : Nat) (x1 : Int32) (x3 : Int32) (x4 : Int32) (f0 : Nat → Int64) (v1 : Int32) (v2 : Int32) (out : Int32) (hf : fH_isIna d n x1 x3 x4 f0 v1 v2 = some out), xMet l yH_isIn wyH_isIn (16 * d) 0 0 (400 * d) D cT aK aV sz [.ref a0, .int x1, .ref a0, .int x3, .int x4] [(a0, .inr (2, [.ref a1, .int v1, .int v2])), (a1, .inl (cT 2, 4096, .inr (.inl f0)))] (fun A => va_Qi (fun (r : Int32) (_ : Unit) => r = out) (fun _ t => xB D xcl cT A [(a0, .inr (2, [.ref a1, .int v1, .int v2])), (a1, .inl (cT 2, 4096, .inr (.inl f0)))] t) A) := by
  intro d
  induction d with
  | zero =>
    intro sz n a0 a1 x1 x3 x4 f0 v1 v2 out hf
    rw [fH_isIna] at hf
    exact nomatch hf
  | succ d ih =>
    intro sz n a0 a1 x1 x3 x4 f0 v1 v2 out hf
    rw [fH_isIna] at hf
    refine Met.ofW (cc := prog_5_method_11_code) (maxL := 5) (ret := (some .boolean)) (by decide) rfl ?_
    intro p e s m args below meth c s₁ B hml hv
    obtain ⟨rfl, hsz, hZ, hP, hK, hD0⟩ := hv
    have hx := B.exec
    have hb := B.bytes
    have hr := B.returns
    have hts := atoms_spec (ws := wyH_isIn) B.pre
    have htx := fun w h => hts w (List.mem_cons_of_mem _ h)
    have hown : s.vm.findClass "ValueBench$Pairs" = some m.cls := findClass_of_methodNamed B.named
    have hlocks := B.notSynchronized
    subst hsz
    have hD := hD0.self (sz := s.heap.size)
    generalize hAe : va_A [(a0, .inr (2, [.ref a1, .int v1, .int v2])), (a1, .inl (cT 2, 4096, .inr (.inl f0)))] s.heap.size = A at hD hZ ⊢
    have hA : ∀ q : Nat, s.heap.size ≤ q → A q := fun q h => by rw [← hAe]; exact Or.inr h
    have hS : va_S A s.heap s.heap [] := va_S.rf
    have hP : va_P D xcl [(a0, .inr (2, [.ref a1, .int v1, .int v2])), (a1, .inl (cT 2, 4096, .inr (.inl f0)))] s.heap := hP
    have hl := lv_entry ([.ref a0, .int x1, .ref a0, .int x3, .int x4]) (n := 5) (Nat.le_of_ble_eq_true rfl)
    rw [lg_entry_eq]
    generalize (lg_sl ([.ref a0, .int x1, .ref a0, .int x3, .int x4]) ++ List.replicate (5 - (lg_sl ([.ref a0, .int x1, .ref a0, .int x3, .int x4])).length) Slot.unset).toArray = ls at hl ⊢
    have hl : lv_has ls 5 [(0, .ref a0), (1, .int x1), (2, .ref a0), (3, .int x3), (4, .int x4)] := hl
    refine lv_aload_n hx hb dH_isIn_0 rfl (lv_at hl 0 rfl) ?_
    refine lv_iload_n hx hb dH_isIn_1 rfl (lv_at hl 1 rfl) ?_
    obtain ⟨o1, hq2, hf⟩ := xbind hf
    obtain ⟨hPc, hDc, hFc⟩ := xcut (wc := [(a0, .inr (2, [.ref a1, .int v1, .int v2])), (a1, .inl (cT 2, 4096, .inr (.inl f0)))]) hP hD hS hA [0, 1] rfl rfl (by decide)
    refine va_calli (va_runV (C := "ValueBench$Row") (As := [.int x1]) (rest := []) ⟨hx, hb, hml, hown, htx⟩ (gR_kind l hl9 D cT aK aV s.heap.size n a0 a1 x1 f0 v1 v2 o1 hq2) ⟨callB_of 1 htx (xw_goodC kw_3_24) rfl rfl rfl (htx _ kw_1_4) (htx _ kw_4_164) ⟨by decide, by decide, by decide +kernel⟩ ⟨Nat.le_of_ble_eq_true rfl, Nat.le_of_ble_eq_true rfl⟩, (htx _ kw_3_22), (htx _ kw_3_23)⟩ ⟨xPre_blind, va_recv hK hP (ci := 2) rfl (q0 := 0) rfl, (fun U hU hW => ⟨rfl, xPre_of hZ hS hFc hPc hDc hK U hU hW⟩)⟩ rfl rfl hl.1 rfl (lv_room (Nat.le_of_ble_eq_true rfl)) dH_isIn_2 ⟨Nat.le_of_ble_eq_true rfl, Nat.le_of_ble_eq_true rfl⟩) hS (fun q _ h => hFc q h) hFc (fun r3 u9 t H1 locs ht hvm hr9 hB hz1 hk1 hS => ?_)
    obtain ⟨hP1, hK1, hD1⟩ := hB
    rw [ht] at hP1
    obtain ⟨hP, hD⟩ := xjoin (W := [(a0, .inr (2, [.ref a1, .int v1, .int v2])), (a1, .inl (cT 2, 4096, .inr (.inl f0)))]) hP hD [0, 1] [] 0 rfl rfl (by decide) (by decide) hk1 hFc hP1 hD1
    generalize H1 = H at hP hS ⊢
    rw [hr9]
    refine W.eq (g2 := F0 m 5 ls [.int o1]) rfl ?_
    refine lv_aload_n hx hb dH_isIn_5 rfl (lv_at hl 2 rfl) ?_
    refine lv_iload_n hx hb dH_isIn_6 rfl (lv_at hl 3 rfl) ?_
    obtain ⟨o4, hq5, hf⟩ := xbind hf
    obtain ⟨hPc, hDc, hFc⟩ := xcut (wc := [(a0, .inr (2, [.ref a1, .int v1, .int v2])), (a1, .inl (cT 2, 4096, .inr (.inl f0)))]) hP hD hS hA [0, 1] rfl rfl (by decide)
    refine va_calli (va_runV (C := "ValueBench$Row") (As := [.int x3]) (rest := [.int o1]) ⟨hx, hb, hml, hown, htx⟩ (gR_kind l hl9 D cT aK aV H.size n a0 a1 x3 f0 v1 v2 o4 hq5) ⟨callB_of 1 htx (xw_goodC kw_3_24) rfl rfl rfl (htx _ kw_1_4) (htx _ kw_4_164) ⟨by decide, by decide, by decide +kernel⟩ ⟨Nat.le_of_ble_eq_true rfl, Nat.le_of_ble_eq_true rfl⟩, (htx _ kw_3_22), (htx _ kw_3_23)⟩ ⟨xPre_blind, va_recv hK hP (ci := 2) rfl (q0 := 0) rfl, (fun U hU hW => ⟨rfl, xPre_of hZ hS hFc hPc hDc hK U hU hW⟩)⟩ rfl rfl hl.1 rfl (lv_room (Nat.le_of_ble_eq_true rfl)) dH_isIn_7 ⟨Nat.le_of_ble_eq_true rfl, Nat.le_of_ble_eq_true rfl⟩) hS (fun q _ h => hFc q h) hFc (fun r6 u9 t H1 locs ht hvm hr9 hB hz1 hk1 hS => ?_)
    obtain ⟨hP1, hK1, hD1⟩ := hB
    rw [ht] at hP1
    obtain ⟨hP, hD⟩ := xjoin (W := [(a0, .inr (2, [.ref a1, .int v1, .int v2])), (a1, .inl (cT 2, 4096, .inr (.inl f0)))]) hP hD [0, 1] [] 0 rfl rfl (by decide) (by decide) hk1 hFc hP1 hD1
    generalize H1 = H at hP hS ⊢
    rw [hr9]
    refine W.eq (g2 := F0 m 10 ls [.int o4, .int o1]) rfl ?_
    refine lv_icmp_ne (tgt := 20) hx hb dH_isIn_10 (by decide) (fun hc => ?_) (fun hc => ?_)
    · rw [if_neg hc] at hf
      refine lv_iconst (v := 0) hx hb dH_isIn_20 (by decide) ?_
      obtain rfl := Option.some.inj hf
      obtain ⟨hP9, hD9⟩ := xsub (wc := [(a0, .inr (2, [.ref a1, .int v1, .int v2])), (a1, .inl (cT 2, 4096, .inr (.inl f0)))]) hP hD [0, 1] rfl rfl (by decide)
      exact W.zret (v := (0 : Int32)) hx hb hr rfl (fun t ht hW => ⟨⟨(0 : Int32), (), rfl, rfl, by rw [ht]; exact hP9, va_K.moved hW.alike hK, hD9⟩, hS.F ht⟩) hS.2.2 dH_isIn_21
    · rw [if_pos hc] at hf
      refine lv_iload hx hb dH_isIn_13 (lv_at hl 4 rfl) ?_
      refine lv_bipush (v := 60) hx hb dH_isIn_15 (by decide) ?_
      refine lv_icmp_le (tgt := 22) hx hb dH_isIn_17 (by decide) (fun hc => ?_) (fun hc => ?_)
      · rw [if_pos hc] at hf
        refine lv_aload_n hx hb dH_isIn_22 rfl (lv_at hl 0 rfl) ?_
        refine lv_iload_n hx hb dH_isIn_23 rfl (lv_at hl 1 rfl) ?_
        obtain ⟨o7, hq8, hf⟩ := xbind hf
        obtain ⟨hPc, hDc, hFc⟩ := xcut (wc := [(a0, .inr (2, [.ref a1, .int v1, .int v2])), (a1, .inl (cT 2, 4096, .inr (.inl f0)))]) hP hD hS hA [0, 1] rfl rfl (by decide)
        refine va_calli (va_runV (C := "ValueBench$Row") (As := [.int x1]) (rest := []) ⟨hx, hb, hml, hown, htx⟩ (gR_kind l hl9 D cT aK aV H.size n a0 a1 x1 f0 v1 v2 o7 hq8) ⟨callB_of 1 htx (xw_goodC kw_3_24) rfl rfl rfl (htx _ kw_1_4) (htx _ kw_4_164) ⟨by decide, by decide, by decide +kernel⟩ ⟨Nat.le_of_ble_eq_true rfl, Nat.le_of_ble_eq_true rfl⟩, (htx _ kw_3_22), (htx _ kw_3_23)⟩ ⟨xPre_blind, va_recv hK hP (ci := 2) rfl (q0 := 0) rfl, (fun U hU hW => ⟨rfl, xPre_of hZ hS hFc hPc hDc hK U hU hW⟩)⟩ rfl rfl hl.1 rfl (lv_room (Nat.le_of_ble_eq_true rfl)) dH_isIn_24 ⟨Nat.le_of_ble_eq_true rfl, Nat.le_of_ble_eq_true rfl⟩) hS (fun q _ h => hFc q h) hFc (fun r9 u9 t H1 locs ht hvm hr9 hB hz1 hk1 hS => ?_)
        obtain ⟨hP1, hK1, hD1⟩ := hB
        rw [ht] at hP1
        obtain ⟨hP, hD⟩ := xjoin (W := [(a0, .inr (2, [.ref a1, .int v1, .int v2])), (a1, .inl (cT 2, 4096, .inr (.inl f0)))]) hP hD [0, 1] [] 0 rfl rfl (by decide) (by decide) hk1 hFc hP1 hD1
        generalize H1 = H at hP hS ⊢
        rw [hr9]
        refine W.eq (g2 := F0 m 27 ls [.int o7]) rfl ?_
        by_cases hc10 : o7 = 4
        · rw [if_pos hc10] at hf
          refine lv_tableIn (off := 25) (tgt := 52) hx hb dH_isIn_27 (by rw [hc10]; decide) (by rw [hc10]; decide) (by rw [hc10]; decide) (by decide) ?_
          refine lv_aload_n hx hb dH_isIn_52 rfl (lv_at hl 0 rfl) ?_
          refine lv_iload_n hx hb dH_isIn_53 rfl (lv_at hl 1 rfl) ?_
          refine lv_aload_n hx hb dH_isIn_54 rfl (lv_at hl 2 rfl) ?_
          refine lv_iload_n hx hb dH_isIn_55 rfl (lv_at hl 3 rfl) ?_
          obtain ⟨o11, hq12, hf⟩ := xbind hf
          obtain ⟨hPc, hDc, hFc⟩ := xcut (wc := [(a0, .inr (2, [.ref a1, .int v1, .int v2])), (a1, .inl (cT 2, 4096, .inr (.inl f0)))]) hP hD hS hA [0, 1] rfl rfl (by decide)
          refine va_calli (va_runS (As := [.ref a0, .int x1, .ref a0, .int x3]) (rest := []) ⟨hx, hb, hml, hown, htx⟩ (gH_isParta l hl9 D cT aK aV H.size n a0 a1 x1 x3 f0 v1 v2 o11 hq12) ⟨callB_of 4 htx (xw_goodC kw_4_173) rfl rfl rfl (htx _ kw_1_27) (htx _ kw_4_171) ⟨by decide, by decide, by decide +kernel⟩ ⟨Nat.le_of_ble_eq_true rfl, Nat.le_of_ble_eq_true rfl⟩, htx _ kw_4_172⟩ ⟨xPre_blind, (fun U hU hW => ⟨rfl, xPre_of hZ hS hFc hPc hDc hK U hU hW⟩)⟩ rfl rfl hl.1 rfl (lv_room (Nat.le_of_ble_eq_true rfl)) dH_isIn_56 ⟨Nat.le_of_ble_eq_true rfl, Nat.le_of_ble_eq_true rfl⟩) hS (fun q _ h => hFc q h) hFc (fun r13 u9 t H1 locs ht hvm hr9 hB hz1 hk1 hS => ?_)
          obtain ⟨hP1, hK1, hD1⟩ := hB
          rw [ht] at hP1
          obtain ⟨hP, hD⟩ := xjoin (W := [(a0, .inr (2, [.ref a1, .int v1, .int v2])), (a1, .inl (cT 2, 4096, .inr (.inl f0)))]) hP hD [0, 1] [] 0 rfl rfl (by decide) (by decide) hk1 hFc hP1 hD1
          generalize H1 = H at hP hS ⊢
          rw [hr9]
          refine W.eq (g2 := F0 m 59 ls [.int o11]) rfl ?_
          obtain ⟨hg14, hf⟩ := xifn hf
          obtain rfl := Option.some.inj hf
          obtain ⟨hP9, hD9⟩ := xsub (wc := [(a0, .inr (2, [.ref a1, .int v1, .int v2])), (a1, .inl (cT 2, 4096, .inr (.inl f0)))]) hP hD [0, 1] rfl rfl (by decide)
          exact W.zret (v := o11) hx hb hr (xzb hg14) (fun t ht hW => ⟨⟨o11, (), rfl, rfl, by rw [ht]; exact hP9, va_K.moved hW.alike hK, hD9⟩, hS.F ht⟩) hS.2.2 dH_isIn_59
        rw [if_neg hc10] at hf
        by_cases hc15 : o7 = 5
        · rw [if_pos hc15] at hf
          refine lv_tableIn (off := 33) (tgt := 60) hx hb dH_isIn_27 (by rw [hc15]; decide) (by rw [hc15]; decide) (by rw [hc15]; decide) (by decide) ?_
          refine lv_aload_n hx hb dH_isIn_60 rfl (lv_at hl 0 rfl) ?_
          refine lv_iload_n hx hb dH_isIn_61 rfl (lv_at hl 1 rfl) ?_
          refine lv_aload_n hx hb dH_isIn_62 rfl (lv_at hl 2 rfl) ?_
          refine lv_iload_n hx hb dH_isIn_63 rfl (lv_at hl 3 rfl) ?_
          refine lv_iload hx hb dH_isIn_64 (lv_at hl 4 rfl) ?_
          obtain ⟨o16, hq17, hf⟩ := xbind hf
          obtain ⟨hPc, hDc, hFc⟩ := xcut (wc := [(a0, .inr (2, [.ref a1, .int v1, .int v2])), (a1, .inl (cT 2, 4096, .inr (.inl f0)))]) hP hD hS hA [0, 1] rfl rfl (by decide)
          refine va_calli (va_runS (As := [.ref a0, .int x1, .ref a0, .int x3, .int x4]) (rest := []) ⟨hx, hb, hml, hown, htx⟩ (gH_areElementsIna l hl9 D cT aK aV (16 * d) (400 * d) (fH_isIna d n) (fun sz => ih sz n) H.size n a0 a1 x1 x3 x4 f0 v1 v2 o16 hq17) ⟨callB_of 5 htx (xw_goodC kw_4_177) rfl rfl rfl (htx _ kw_1_27) (htx _ kw_4_175) ⟨by decide, by decide, by decide +kernel⟩ ⟨(by show (16 * d + 2) + 1 ≤ 16 * (d + 1); omega), (by show 8 + (7 + 11) + (400 * d + 50) ≤ 400 * (d + 1); omega)⟩, htx _ kw_4_176⟩ ⟨xPre_blind, (fun U hU hW => ⟨rfl, xPre_of hZ hS hFc hPc hDc hK U hU hW⟩)⟩ rfl rfl hl.1 rfl (lv_room (Nat.le_of_ble_eq_true rfl)) dH_isIn_66 ⟨Nat.le_of_ble_eq_true rfl, Nat.le_of_ble_eq_true rfl⟩) hS (fun q _ h => hFc q h) hFc (fun r18 u9 t H1 locs ht hvm hr9 hB hz1 hk1 hS => ?_)
          obtain ⟨hP1, hK1, hD1⟩ := hB
          rw [ht] at hP1
          obtain ⟨hP, hD⟩ := xjoin (W := [(a0, .inr (2, [.ref a1, .int v1, .int v2])), (a1, .inl (cT 2, 4096, .inr (.inl f0)))]) hP hD [0, 1] [] 0 rfl rfl (by decide) (by decide) hk1 hFc hP1 hD1
          generalize H1 = H at hP hS ⊢
          rw [hr9]
          refine W.eq (g2 := F0 m 69 ls [.int o16]) rfl ?_
          obtain ⟨hg19, hf⟩ := xifn hf
          obtain rfl := Option.some.inj hf
          obtain ⟨hP9, hD9⟩ := xsub (wc := [(a0, .inr (2, [.ref a1, .int v1, .int v2])), (a1, .inl (cT 2, 4096, .inr (.inl f0)))]) hP hD [0, 1] rfl rfl (by decide)
          exact W.zret (v := o16) hx hb hr (xzb hg19) (fun t ht hW => ⟨⟨o16, (), rfl, rfl, by rw [ht]; exact hP9, va_K.moved hW.alike hK, hD9⟩, hS.F ht⟩) hS.2.2 dH_isIn_69
        rw [if_neg hc15] at hf
        by_cases hc20 : o7 = 6
        · rw [if_pos hc20] at hf
          refine lv_tableIn (off := 43) (tgt := 70) hx hb dH_isIn_27 (by rw [hc20]; decide) (by rw [hc20]; decide) (by rw [hc20]; decide) (by decide) ?_
          refine lv_aload_n hx hb dH_isIn_70 rfl (lv_at hl 0 rfl) ?_
          refine lv_iload_n hx hb dH_isIn_71 rfl (lv_at hl 1 rfl) ?_
          refine lv_aload_n hx hb dH_isIn_72 rfl (lv_at hl 2 rfl) ?_
          refine lv_iload_n hx hb dH_isIn_73 rfl (lv_at hl 3 rfl) ?_
          refine lv_iload hx hb dH_isIn_74 (lv_at hl 4 rfl) ?_
          obtain ⟨o21, hq22, hf⟩ := xbind hf
          obtain ⟨hPc, hDc, hFc⟩ := xcut (wc := [(a0, .inr (2, [.ref a1, .int v1, .int v2])), (a1, .inl (cT 2, 4096, .inr (.inl f0)))]) hP hD hS hA [0, 1] rfl rfl (by decide)
          refine va_calli (va_runS (As := [.ref a0, .int x1, .ref a0, .int x3, .int x4]) (rest := []) ⟨hx, hb, hml, hown, htx⟩ (gH_areNamesIna l hl9 D cT aK aV (16 * d) (400 * d) (fH_isIna d n) (fun sz => ih sz n) H.size n a0 a1 x1 x3 x4 f0 v1 v2 o21 hq22) ⟨callB_of 5 htx (xw_goodC kw_4_184) rfl rfl rfl (htx _ kw_1_27) (htx _ kw_4_182) ⟨by decide, by decide, by decide +kernel⟩ ⟨(by show (16 * d + 2) + 1 ≤ 16 * (d + 1); omega), (by show 8 + (9 + 11) + (400 * d + 55) ≤ 400 * (d + 1); omega)⟩, htx _ kw_4_183⟩ ⟨xPre_blind, (fun U hU hW => ⟨rfl, xPre_of hZ hS hFc hPc hDc hK U hU hW⟩)⟩ rfl rfl hl.1 rfl (lv_room (Nat.le_of_ble_eq_true rfl)) dH_isIn_76 ⟨Nat.le_of_ble_eq_true rfl, Nat.le_of_ble_eq_true rfl⟩) hS (fun q _ h => hFc q h) hFc (fun r23 u9 t H1 locs ht hvm hr9 hB hz1 hk1 hS => ?_)
          obtain ⟨hP1, hK1, hD1⟩ := hB
          rw [ht] at hP1
          obtain ⟨hP, hD⟩ := xjoin (W := [(a0, .inr (2, [.ref a1, .int v1, .int v2])), (a1, .inl (cT 2, 4096, .inr (.inl f0)))]) hP hD [0, 1] [] 0 rfl rfl (by decide) (by decide) hk1 hFc hP1 hD1
          generalize H1 = H at hP hS ⊢
          rw [hr9]
          refine W.eq (g2 := F0 m 79 ls [.int o21]) rfl ?_
          obtain ⟨hg24, hf⟩ := xifn hf
          obtain rfl := Option.some.inj hf
          obtain ⟨hP9, hD9⟩ := xsub (wc := [(a0, .inr (2, [.ref a1, .int v1, .int v2])), (a1, .inl (cT 2, 4096, .inr (.inl f0)))]) hP hD [0, 1] rfl rfl (by decide)
          exact W.zret (v := o21) hx hb hr (xzb hg24) (fun t ht hW => ⟨⟨o21, (), rfl, rfl, by rw [ht]; exact hP9, va_K.moved hW.alike hK, hD9⟩, hS.F ht⟩) hS.2.2 dH_isIn_79
        rw [if_neg hc20] at hf
        refine lv_tableOut (tgt := 80) hx hb dH_isIn_27 (by have e0 : o7.toInt ≠ 4 := xsw hc10 (by decide); have e1 : o7.toInt ≠ 5 := xsw hc15 (by decide); have e2 : o7.toInt ≠ 6 := xsw hc20 (by decide); omega) (by decide) ?_
        refine lv_aload_n hx hb dH_isIn_80 rfl (lv_at hl 0 rfl) ?_
        refine lv_iload_n hx hb dH_isIn_81 rfl (lv_at hl 1 rfl) ?_
        obtain ⟨o25, hq26, hf⟩ := xbind hf
        obtain ⟨hPc, hDc, hFc⟩ := xcut (wc := [(a0, .inr (2, [.ref a1, .int v1, .int v2])), (a1, .inl (cT 2, 4096, .inr (.inl f0)))]) hP hD hS hA [0, 1] rfl rfl (by decide)
        refine va_calll (va_runV (C := "ValueBench$Row") (As := [.int x1]) (rest := []) ⟨hx, hb, hml, hown, htx⟩ (gR_cell l hl9 D cT aK aV H.size n a0 a1 x1 f0 v1 v2 o25 hq26) ⟨callB_of 1 htx (xw_goodC kw_2_202) rfl rfl rfl (htx _ kw_1_4) (htx _ kw_4_185) ⟨by decide, by decide, by decide +kernel⟩ ⟨Nat.le_of_ble_eq_true rfl, Nat.le_of_ble_eq_true rfl⟩, (htx _ kw_2_200), (htx _ kw_2_201)⟩ ⟨xPre_blind, va_recv hK hP (ci := 2) rfl (q0 := 0) rfl, (fun U hU hW => ⟨rfl, xPre_of hZ hS hFc hPc hDc hK U hU hW⟩)⟩ rfl rfl hl.1 rfl (lv_room (Nat.le_of_ble_eq_true rfl)) dH_isIn_82 ⟨Nat.le_of_ble_eq_true rfl, Nat.le_of_ble_eq_true rfl⟩) hS (fun q _ h => hFc q h) hFc (fun r27 u9 t H1 locs ht hvm hr9 hB hz1 hk1 hS => ?_)
        obtain ⟨hP1, hK1, hD1⟩ := hB
        rw [ht] at hP1
        obtain ⟨hP, hD⟩ := xjoin (W := [(a0, .inr (2, [.ref a1, .int v1, .int v2])), (a1, .inl (cT 2, 4096, .inr (.inl f0)))]) hP hD [0, 1] [] 0 rfl rfl (by decide) (by decide) hk1 hFc hP1 hD1
        generalize H1 = H at hP hS ⊢
        rw [hr9]
        refine W.eq (g2 := F0 m 85 ls [.long o25]) rfl ?_
        refine lv_aload_n hx hb dH_isIn_85 rfl (lv_at hl 2 rfl) ?_
        refine lv_iload_n hx hb dH_isIn_86 rfl (lv_at hl 3 rfl) ?_
        obtain ⟨o28, hq29, hf⟩ := xbind hf
        obtain ⟨hPc, hDc, hFc⟩ := xcut (wc := [(a0, .inr (2, [.ref a1, .int v1, .int v2])), (a1, .inl (cT 2, 4096, .inr (.inl f0)))]) hP hD hS hA [0, 1] rfl rfl (by decide)
        refine va_calll (va_runV (C := "ValueBench$Row") (As := [.int x3]) (rest := [.long o25]) ⟨hx, hb, hml, hown, htx⟩ (gR_cell l hl9 D cT aK aV H.size n a0 a1 x3 f0 v1 v2 o28 hq29) ⟨callB_of 1 htx (xw_goodC kw_2_202) rfl rfl rfl (htx _ kw_1_4) (htx _ kw_4_185) ⟨by decide, by decide, by decide +kernel⟩ ⟨Nat.le_of_ble_eq_true rfl, Nat.le_of_ble_eq_true rfl⟩, (htx _ kw_2_200), (htx _ kw_2_201)⟩ ⟨xPre_blind, va_recv hK hP (ci := 2) rfl (q0 := 0) rfl, (fun U hU hW => ⟨rfl, xPre_of hZ hS hFc hPc hDc hK U hU hW⟩)⟩ rfl rfl hl.1 rfl (lv_room (Nat.le_of_ble_eq_true rfl)) dH_isIn_87 ⟨Nat.le_of_ble_eq_true rfl, Nat.le_of_ble_eq_true rfl⟩) hS (fun q _ h => hFc q h) hFc (fun r30 u9 t H1 locs ht hvm hr9 hB hz1 hk1 hS => ?_)
        obtain ⟨hP1, hK1, hD1⟩ := hB
        rw [ht] at hP1
        obtain ⟨hP, hD⟩ := xjoin (W := [(a0, .inr (2, [.ref a1, .int v1, .int v2])), (a1, .inl (cT 2, 4096, .inr (.inl f0)))]) hP hD [0, 1] [] 0 rfl rfl (by decide) (by decide) hk1 hFc hP1 hD1
        generalize H1 = H at hP hS ⊢
        rw [hr9]
        refine W.eq (g2 := F0 m 90 ls [.long o28, .long o25]) rfl ?_
        refine W.lcmp hx hb dH_isIn_90 ?_
        refine lv_if_ne (tgt := 98) hx hb dH_isIn_91 (by decide) (fun hc => ?_) (fun hc => ?_)
        · rw [if_neg hc] at hf
          refine lv_iconst (v := 0) hx hb dH_isIn_98 (by decide) ?_
          obtain rfl := Option.some.inj hf
          obtain ⟨hP9, hD9⟩ := xsub (wc := [(a0, .inr (2, [.ref a1, .int v1, .int v2])), (a1, .inl (cT 2, 4096, .inr (.inl f0)))]) hP hD [0, 1] rfl rfl (by decide)
          exact W.zret (v := (0 : Int32)) hx hb hr rfl (fun t ht hW => ⟨⟨(0 : Int32), (), rfl, rfl, by rw [ht]; exact hP9, va_K.moved hW.alike hK, hD9⟩, hS.F ht⟩) hS.2.2 dH_isIn_99
        · rw [if_pos hc] at hf
          refine lv_iconst (v := 1) hx hb dH_isIn_94 (by decide) ?_
          refine lv_goto (tgt := 99) hx hb dH_isIn_95 (by decide) ?_
          obtain rfl := Option.some.inj hf
          obtain ⟨hP9, hD9⟩ := xsub (wc := [(a0, .inr (2, [.ref a1, .int v1, .int v2])), (a1, .inl (cT 2, 4096, .inr (.inl f0)))]) hP hD [0, 1] rfl rfl (by decide)
          exact W.zret (v := (1 : Int32)) hx hb hr rfl (fun t ht hW => ⟨⟨(1 : Int32), (), rfl, rfl, by rw [ht]; exact hP9, va_K.moved hW.alike hK, hD9⟩, hS.F ht⟩) hS.2.2 dH_isIn_99
      · rw [if_neg hc] at hf
        refine lv_iconst (v := 0) hx hb dH_isIn_20 (by decide) ?_
        obtain rfl := Option.some.inj hf
        obtain ⟨hP9, hD9⟩ := xsub (wc := [(a0, .inr (2, [.ref a1, .int v1, .int v2])), (a1, .inl (cT 2, 4096, .inr (.inl f0)))]) hP hD [0, 1] rfl rfl (by decide)
        exact W.zret (v := (0 : Int32)) hx hb hr rfl (fun t ht hW => ⟨⟨(0 : Int32), (), rfl, rfl, by rw [ht]; exact hP9, va_K.moved hW.alike hK, hD9⟩, hS.F ht⟩) hS.2.2 dH_isIn_21
set_option maxHeartbeats 400000000 in
set_option maxRecDepth 100000 in
theorem gH_containsa (l : Launch) (hl9 : l.stackTraces = false) (D : va_G) (cT : Nat → ClassId) (aK aV : Nat → Nat) (sz d n : Nat) (a0 : Nat) (a1 : Nat) (a2 : Nat) (a3 : Nat) (f0 : Nat → Int64) (v1 : Int32) (v2 : Int32) (f3 : Nat → Int64) (v4 : Int32) (v5 : Int32) (out : Int32 × (Nat → Int64) × Int32 × Int32) (hf : fH_containsa d n f0 v1 v2 f3 v4 v5 = some out) : xMet l yH_contains wyH_contains (16 * d + 3) 0 0 (400 * d + 64) D cT aK aV sz [.ref a0, .ref a0, .ref a2] [(a0, .inr (2, [.ref a1, .int v1, .int v2])), (a1, .inl (cT 2, 4096, .inr (.inl f0))), (a2, .inr (2, [.ref a3, .int v4, .int v5])), (a3, .inl (cT 2, 4096, .inr (.inl f3)))] (fun A => va_Qi (fun (r : Int32) (_ : Unit) => r = out.1) (fun _ t => xB D xcl cT A [(a0, .inr (2, [.ref a1, .int v1, .int v2])), (a1, .inl (cT 2, 4096, .inr (.inl f0))), (a2, .inr (2, [.ref a3, .int out.2.2.1, .int out.2.2.2])), (a3, .inl (cT 2, 4096, .inr (.inl out.2.1)))] t) A) := by
  refine Met.ofW (cc := prog_5_method_8_code) (maxL := 3) (ret := (some .int)) (by decide) rfl ?_
  intro p e s m args below meth c s₁ B hml hv
  obtain ⟨rfl, hsz, hZ, hP, hK, hD0⟩ := hv
  have hx := B.exec
  have hb := B.bytes
  have hr := B.returns
  have hts := atoms_spec (ws := wyH_contains) B.pre
  have htx := fun w h => hts w (List.mem_cons_of_mem _ h)
  have hown : s.vm.findClass "ValueBench$Pairs" = some m.cls := findClass_of_methodNamed B.named
  have hlocks := B.notSynchronized
  subst hsz
  have hD := hD0.self (sz := s.heap.size)
  generalize hAe : va_A [(a0, .inr (2, [.ref a1, .int v1, .int v2])), (a1, .inl (cT 2, 4096, .inr (.inl f0))), (a2, .inr (2, [.ref a3, .int v4, .int v5])), (a3, .inl (cT 2, 4096, .inr (.inl f3)))] s.heap.size = A at hD hZ ⊢
  have hA : ∀ q : Nat, s.heap.size ≤ q → A q := fun q h => by rw [← hAe]; exact Or.inr h
  have hS : va_S A s.heap s.heap [] := va_S.rf
  have hP : va_P D xcl [(a0, .inr (2, [.ref a1, .int v1, .int v2])), (a1, .inl (cT 2, 4096, .inr (.inl f0))), (a2, .inr (2, [.ref a3, .int v4, .int v5])), (a3, .inl (cT 2, 4096, .inr (.inl f3)))] s.heap := hP
  have hl := lv_entry ([.ref a0, .ref a0, .ref a2]) (n := 3) (Nat.le_of_ble_eq_true rfl)
  rw [lg_entry_eq]
  generalize (lg_sl ([.ref a0, .ref a0, .ref a2]) ++ List.replicate (3 - (lg_sl ([.ref a0, .ref a0, .ref a2])).length) Slot.unset).toArray = ls at hl ⊢
  have hl : lv_has ls 3 [(0, .ref a0), (1, .ref a0), (2, .ref a2)] := hl
  unfold fH_containsa at hf
  refine lv_aload_n hx hb dH_contains_0 rfl (lv_at hl 0 rfl) ?_
  refine lv_iconst (v := 0) hx hb dH_contains_1 (by decide) ?_
  refine lv_aload_n hx hb dH_contains_2 rfl (lv_at hl 1 rfl) ?_
  refine lv_iconst (v := 0) hx hb dH_contains_3 (by decide) ?_
  obtain ⟨o1, hq2, hf⟩ := xbind hf
  obtain ⟨hPc, hDc, hFc⟩ := xcut (wc := [(a0, .inr (2, [.ref a1, .int v1, .int v2])), (a1, .inl (cT 2, 4096, .inr (.inl f0)))]) hP hD hS hA [0, 1] rfl rfl (by decide)
  refine va_calli (va_runS (As := [.ref a0, .int 0, .ref a0, .int 0]) (rest := []) ⟨hx, hb, hml, hown, htx⟩ (gH_areOfOneKinda l hl9 D cT aK aV s.heap.size n a0 a1 (0 : Int32) (0 : Int32) f0 v1 v2 o1 hq2) ⟨callB_of 4 htx (xw_goodC kw_4_163) rfl rfl rfl (htx _ kw_1_27) (htx _ kw_4_161) ⟨by decide, by decide, by decide +kernel⟩ ⟨Nat.le_of_ble_eq_true rfl, Nat.le_of_ble_eq_true rfl⟩, htx _ kw_4_162⟩ ⟨xPre_blind, (fun U hU hW => ⟨rfl, xPre_of hZ hS hFc hPc hDc hK U hU hW⟩)⟩ rfl rfl hl.1 rfl (lv_room (Nat.le_of_ble_eq_true rfl)) dH_contains_4 ⟨Nat.le_of_ble_eq_true rfl, Nat.le_of_ble_eq_true rfl⟩) hS (fun q _ h => hFc q h) hFc (fun r3 u9 t H1 locs ht hvm hr9 hB hz1 hk1 hS => ?_)
  obtain ⟨hP1, hK1, hD1⟩ := hB
  rw [ht] at hP1
  obtain ⟨hP, hD⟩ := xjoin (W := [(a2, .inr (2, [.ref a3, .int v4, .int v5])), (a3, .inl (cT 2, 4096, .inr (.inl f3))), (a0, .inr (2, [.ref a1, .int v1, .int v2])), (a1, .inl (cT 2, 4096, .inr (.inl f0)))]) hP hD [0, 1] [2, 3] 2 rfl rfl (by decide) (by decide) hk1 hFc hP1 hD1
  generalize H1 = H at hP hS ⊢
  rw [hr9]
  refine W.eq (g2 := F0 m 7 ls [.int o1]) rfl ?_
  refine lv_if_eq (tgt := 25) hx hb dH_contains_7 (by decide) (fun hc => ?_) (fun hc => ?_)
  · rw [if_pos hc] at hf
    refine lv_iconst (v := 1) hx hb dH_contains_25 (by decide) ?_
    obtain rfl := Option.some.inj hf
    obtain ⟨hP9, hD9⟩ := xsub (wc := [(a0, .inr (2, [.ref a1, .int v1, .int v2])), (a1, .inl (cT 2, 4096, .inr (.inl f0))), (a2, .inr (2, [.ref a3, .int v4, .int v5])), (a3, .inl (cT 2, 4096, .inr (.inl f3)))]) hP hD [2, 3, 0, 1] rfl rfl (by decide)
    exact W.iret (v := (1 : Int32)) hx hb hr (fun t ht hW => ⟨⟨(1 : Int32), (), rfl, rfl, by rw [ht]; exact hP9, va_K.moved hW.alike hK, hD9⟩, hS.F ht⟩) hS.2.2 dH_contains_26
  · rw [if_neg hc] at hf
    refine lv_aload_n hx hb dH_contains_10 rfl (lv_at hl 0 rfl) ?_
    refine lv_iconst (v := 0) hx hb dH_contains_11 (by decide) ?_
    refine lv_aload_n hx hb dH_contains_12 rfl (lv_at hl 1 rfl) ?_
    refine lv_iconst (v := 0) hx hb dH_contains_13 (by decide) ?_
    refine lv_iconst (v := 0) hx hb dH_contains_14 (by decide) ?_
    obtain ⟨o4, hq5, hf⟩ := xbind hf
    obtain ⟨hPc, hDc, hFc⟩ := xcut (wc := [(a0, .inr (2, [.ref a1, .int v1, .int v2])), (a1, .inl (cT 2, 4096, .inr (.inl f0)))]) hP hD hS hA [2, 3] rfl rfl (by decide)
    refine va_calli (va_runS (As := [.ref a0, .int 0, .ref a0, .int 0, .int 0]) (rest := []) ⟨hx, hb, hml, hown, htx⟩ (gH_isIna l hl9 D cT aK aV d H.size n a0 a1 (0 : Int32) (0 : Int32) (0 : Int32) f0 v1 v2 o4 hq5) ⟨callB_of 5 htx (xw_goodC kw_4_170) rfl rfl rfl (htx _ kw_1_27) (htx _ kw_4_168) ⟨by decide, by decide, by decide +kernel⟩ ⟨(by show (16 * d) + 1 ≤ 16 * d + 3; omega), (by show 8 + (5 + 11) + (400 * d) ≤ 400 * d + 64; omega)⟩, htx _ kw_4_169⟩ ⟨xPre_blind, (fun U hU hW => ⟨rfl, xPre_of hZ hS hFc hPc hDc hK U hU hW⟩)⟩ rfl rfl hl.1 rfl (lv_room (Nat.le_of_ble_eq_true rfl)) dH_contains_15 ⟨Nat.le_of_ble_eq_true rfl, Nat.le_of_ble_eq_true rfl⟩) hS (fun q _ h => hFc q h) hFc (fun r6 u9 t H1 locs ht hvm hr9 hB hz1 hk1 hS => ?_)
    obtain ⟨hP1, hK1, hD1⟩ := hB
    rw [ht] at hP1
    obtain ⟨hP, hD⟩ := xjoin (W := [(a2, .inr (2, [.ref a3, .int v4, .int v5])), (a3, .inl (cT 2, 4096, .inr (.inl f3))), (a0, .inr (2, [.ref a1, .int v1, .int v2])), (a1, .inl (cT 2, 4096, .inr (.inl f0)))]) hP hD [2, 3] [0, 1] 2 rfl rfl (by decide) (by decide) hk1 hFc hP1 hD1
    generalize H1 = H at hP hS ⊢
    rw [hr9]
    refine W.eq (g2 := F0 m 18 ls [.int o4]) rfl ?_
    refine lv_aload_n hx hb dH_contains_18 rfl (lv_at hl 2 rfl) ?_
    obtain ⟨o7, hq8, hf⟩ := xbind hf
    obtain ⟨hPc, hDc, hFc⟩ := xcut (wc := [(a2, .inr (2, [.ref a3, .int v4, .int v5])), (a3, .inl (cT 2, 4096, .inr (.inl f3)))]) hP hD hS hA [0, 1] rfl rfl (by decide)
    refine va_calli (va_runS (As := [.int o4, .ref a2]) (rest := []) ⟨hx, hb, hml, hown, htx⟩ (gH_truth l hl9 D cT aK aV H.size n a2 a3 o4 f3 v4 v5 o7 hq8) ⟨callB_of 2 htx (xw_goodC kw_4_154) rfl rfl rfl (htx _ kw_1_27) (htx _ kw_4_152) ⟨by decide, by decide, by decide +kernel⟩ ⟨Nat.le_of_ble_eq_true rfl, Nat.le_of_ble_eq_true rfl⟩, htx _ kw_4_153⟩ ⟨xPre_blind, (fun U hU hW => ⟨rfl, xPre_of hZ hS hFc hPc hDc hK U hU hW⟩)⟩ rfl rfl hl.1 rfl (lv_room (Nat.le_of_ble_eq_true rfl)) dH_contains_19 ⟨Nat.le_of_ble_eq_true rfl, Nat.le_of_ble_eq_true rfl⟩) hS (fun q _ h => hFc q h) hFc (fun r9 u9 t H1 locs ht hvm hr9 hB hz1 hk1 hS => ?_)
    obtain ⟨hP1, hK1, hD1⟩ := hB
    rw [ht] at hP1
    obtain ⟨hP, hD⟩ := xjoin (W := [(a0, .inr (2, [.ref a1, .int v1, .int v2])), (a1, .inl (cT 2, 4096, .inr (.inl f0))), (a2, .inr (2, [.ref a3, .int o7.2.2.1, .int o7.2.2.2])), (a3, .inl (cT 2, 4096, .inr (.inl o7.2.1)))]) hP hD [0, 1] [2, 3] 2 rfl rfl (by decide) (by decide) hk1 hFc hP1 hD1
    generalize H1 = H at hP hS ⊢
    rw [hr9]
    refine W.eq (g2 := F0 m 22 ls [.int o7.1]) rfl ?_
    refine lv_goto (tgt := 26) hx hb dH_contains_22 (by decide) ?_
    obtain rfl := Option.some.inj hf
    obtain ⟨hP9, hD9⟩ := xsub (wc := [(a0, .inr (2, [.ref a1, .int v1, .int v2])), (a1, .inl (cT 2, 4096, .inr (.inl f0))), (a2, .inr (2, [.ref a3, .int o7.2.2.1, .int o7.2.2.2])), (a3, .inl (cT 2, 4096, .inr (.inl o7.2.1)))]) hP hD [0, 1, 2, 3] rfl rfl (by decide)
    exact W.iret (v := o7.1) hx hb hr (fun t ht hW => ⟨⟨o7.1, (), rfl, rfl, by rw [ht]; exact hP9, va_K.moved hW.alike hK, hD9⟩, hS.F ht⟩) hS.2.2 dH_contains_26
set_option maxHeartbeats 400000000 in
set_option maxRecDepth 100000 in
theorem gH_joineda (l : Launch) (hl9 : l.stackTraces = false) (D : va_G) (cT : Nat → ClassId) (aK aV : Nat → Nat) (sz d n : Nat) (a0 : Nat) (a1 : Nat) (a2 : Nat) (a3 : Nat) (a4 : Nat) (a5 : Nat) (f0 : Nat → Int64) (v1 : Int32) (v2 : Int32) (f3 : Nat → Int32) (v4 : Int32) (v5 : Int32) (f6 : Nat → Int64) (v7 : Int32) (v8 : Int32) (out : Int32 × (Nat → Int32) × Int32 × Int32 × (Nat → Int64) × Int32 × Int32) (hf : fH_joineda d n f0 v1 v2 f3 v4 v5 f6 v7 v8 = some out) : xMet l yH_joined wyH_joined (16 * d + 3) 0 0 (400 * d + 68) D cT aK aV sz [.ref a0, .ref a0, .ref a2, .ref a4] [(a0, .inr (2, [.ref a1, .int v1, .int v2])), (a1, .inl (cT 2, 4096, .inr (.inl f0))), (a2, .inr (1, [.ref a3, .int v4, .int v5])), (a3, .inl (cT 0, 4096, .inl f3)), (a4, .inr (2, [.ref a5, .int v7, .int v8])), (a5, .inl (cT 2, 4096, .inr (.inl f6)))] (fun A => va_Qi (fun (r : Int32) (_ : Unit) => r = out.1) (fun _ t => xB D xcl cT A [(a0, .inr (2, [.ref a1, .int v1, .int v2])), (a1, .inl (cT 2, 4096, .inr (.inl f0))), (a2, .inr (1, [.ref a3, .int out.2.2.1, .int out.2.2.2.1])), (a3, .inl (cT 0, 4096, .inl out.2.1)), (a4, .inr (2, [.ref a5, .int out.2.2.2.2.2.1, .int out.2.2.2.2.2.2])), (a5, .inl (cT 2, 4096, .inr (.inl out.2.2.2.2.1)))] t) A) := by
  refine Met.ofW (cc := prog_5_method_16_code) (maxL := 6) (ret := (some .int)) (by decide) rfl ?_
  intro p e s m args below meth c s₁ B hml hv
  obtain ⟨rfl, hsz, hZ, hP, hK, hD0⟩ := hv
  have hx := B.exec
  have hb := B.bytes
  have hr := B.returns
  have hts := atoms_spec (ws := wyH_joined) B.pre
  have htx := fun w h => hts w (List.mem_cons_of_mem _ h)
  have hown : s.vm.findClass "ValueBench$Pairs" = some m.cls := findClass_of_methodNamed B.named
  have hlocks := B.notSynchronized
  subst hsz
  have hD := hD0.self (sz := s.heap.size)
  generalize hAe : va_A [(a0, .inr (2, [.ref a1, .int v1, .int v2])), (a1, .inl (cT 2, 4096, .inr (.inl f0))), (a2, .inr (1, [.ref a3, .int v4, .int v5])), (a3, .inl (cT 0, 4096, .inl f3)), (a4, .inr (2, [.ref a5, .int v7, .int v8])), (a5, .inl (cT 2, 4096, .inr (.inl f6)))] s.heap.size = A at hD hZ ⊢
  have hA : ∀ q : Nat, s.heap.size ≤ q → A q := fun q h => by rw [← hAe]; exact Or.inr h
  have hS : va_S A s.heap s.heap [] := va_S.rf
  have hP : va_P D xcl [(a0, .inr (2, [.ref a1, .int v1, .int v2])), (a1, .inl (cT 2, 4096, .inr (.inl f0))), (a2, .inr (1, [.ref a3, .int v4, .int v5])), (a3, .inl (cT 0, 4096, .inl f3)), (a4, .inr (2, [.ref a5, .int v7, .int v8])), (a5, .inl (cT 2, 4096, .inr (.inl f6)))] s.heap := hP
  have hl := lv_entry ([.ref a0, .ref a0, .ref a2, .ref a4]) (n := 6) (Nat.le_of_ble_eq_true rfl)
  rw [lg_entry_eq]
  generalize (lg_sl ([.ref a0, .ref a0, .ref a2, .ref a4]) ++ List.replicate (6 - (lg_sl ([.ref a0, .ref a0, .ref a2, .ref a4])).length) Slot.unset).toArray = ls at hl ⊢
  have hl : lv_has ls 6 [(0, .ref a0), (1, .ref a0), (2, .ref a2), (3, .ref a4)] := hl
  unfold fH_joineda at hf
  refine xloopK (σ := Nat × Int32 × Int32 × (Nat → Int32) × Int32 × Int32 × (Nat → Int64) × Int32 × Int32) (fun n x H locs ls => (x.1 = 1 ∧ fH_joineda_b d f0 v1 v2 n x.1 x.2.1 x.2.2.1 x.2.2.2.1 x.2.2.2.2.1 x.2.2.2.2.2.1 x.2.2.2.2.2.2.1 x.2.2.2.2.2.2.2.1 x.2.2.2.2.2.2.2.2 = some out ∧ va_P D xcl [(a0, .inr (2, [.ref a1, .int v1, .int v2])), (a1, .inl (cT 2, 4096, .inr (.inl f0))), (a2, .inr (1, [.ref a3, .int x.2.2.2.2.1, .int x.2.2.2.2.2.1])), (a3, .inl (cT 0, 4096, .inl x.2.2.2.1)), (a4, .inr (2, [.ref a5, .int x.2.2.2.2.2.2.2.1, .int x.2.2.2.2.2.2.2.2])), (a5, .inl (cT 2, 4096, .inr (.inl x.2.2.2.2.2.2.1)))] H ∧ va_D A [(a0, .inr (2, [.ref a1, .int v1, .int v2])), (a1, .inl (cT 2, 4096, .inr (.inl f0))), (a2, .inr (1, [.ref a3, .int x.2.2.2.2.1, .int x.2.2.2.2.2.1])), (a3, .inl (cT 0, 4096, .inl x.2.2.2.1)), (a4, .inr (2, [.ref a5, .int x.2.2.2.2.2.2.2.1, .int x.2.2.2.2.2.2.2.2])), (a5, .inl (cT 2, 4096, .inr (.inl x.2.2.2.2.2.2.1)))] ∧ va_S A s.heap H locs ∧ lv_has ls 6 [(5, .int x.2.1), (4, .int x.2.2.1), (0, .ref a0), (1, .ref a0), (2, .ref a2), (3, .ref a4)])) (fun x => 30) (fun x H locs ls h => by exact absurd h.2.1 (by rw [fH_joineda_b]; exact fun h => nomatch h)) (fun n ih x H locs ls hv => ?_) (fun key => ?_)
  · obtain ⟨lb, y5, y4, w0, w1, w2, w3, w4, w5⟩ := x
    rcases hv with ⟨hj, hf, hP, hD, hS, hl⟩
    subst hj
    have hf : fH_joineda_b d f0 v1 v2 (n + 1) 1 y5 y4 w0 w1 w2 w3 w4 w5 = some out := hf
    rw [fH_joineda_b] at hf
    obtain ⟨hP, hD⟩ : xPD D xcl A [(a0, .inr (2, [.ref a1, .int v1, .int v2])), (a1, .inl (cT 2, 4096, .inr (.inl f0))), (a2, .inr (1, [.ref a3, .int w1, .int w2])), (a3, .inl (cT 0, 4096, .inl w0)), (a4, .inr (2, [.ref a5, .int w4, .int w5])), (a5, .inl (cT 2, 4096, .inr (.inl w3)))] H := ⟨hP, hD⟩
    have hl : lv_has ls 6 [(5, .int y5), (4, .int y4), (0, .ref a0), (1, .ref a0), (2, .ref a2), (3, .ref a4)] := hl
    refine W.eq (g2 := F0 m 30 ls []) rfl ?_
    refine lv_iload hx hb dH_joined_30 (lv_at hl 0 rfl) ?_
    refine lv_aload_n hx hb dH_joined_32 rfl (lv_at hl 2 rfl) ?_
    refine lv_iconst (v := 0) hx hb dH_joined_33 (by decide) ?_
    obtain ⟨o1, hq2, hf⟩ := xbind hf
    obtain ⟨hPc, hDc, hFc⟩ := xcut (wc := [(a0, .inr (2, [.ref a1, .int v1, .int v2])), (a1, .inl (cT 2, 4096, .inr (.inl f0)))]) hP hD hS hA [0, 1] rfl rfl (by decide)
    refine va_calli (va_runV (C := "ValueBench$Row") (As := [.int 0]) (rest := [.int y5]) ⟨hx, hb, hml, hown, htx⟩ (gR_length l hl9 D cT aK aV H.size n a0 a1 (0 : Int32) f0 v1 v2 o1 hq2) ⟨callB_of 1 htx (xw_goodC kw_2_191) rfl rfl rfl (htx _ kw_1_4) (htx _ kw_4_157) ⟨by decide, by decide, by decide +kernel⟩ ⟨Nat.le_of_ble_eq_true rfl, Nat.le_of_ble_eq_true rfl⟩, (htx _ kw_2_189), (htx _ kw_2_190)⟩ ⟨xPre_blind, va_recv hK hP (ci := 2) rfl (q0 := 0) rfl, (fun U hU hW => ⟨rfl, xPre_of hZ hS hFc hPc hDc hK U hU hW⟩)⟩ rfl rfl hl.1 rfl (lv_room (Nat.le_of_ble_eq_true rfl)) dH_joined_34 ⟨Nat.le_of_ble_eq_true rfl, Nat.le_of_ble_eq_true rfl⟩) hS (fun q _ h => hFc q h) hFc (fun r3 u9 t H1 locs ht hvm hr9 hB hz1 hk1 hS => ?_)
    obtain ⟨hP1, hK1, hD1⟩ := hB
    rw [ht] at hP1
    obtain ⟨hP, hD⟩ := xjoin (W := [(a2, .inr (1, [.ref a3, .int w1, .int w2])), (a3, .inl (cT 0, 4096, .inl w0)), (a4, .inr (2, [.ref a5, .int w4, .int w5])), (a5, .inl (cT 2, 4096, .inr (.inl w3))), (a0, .inr (2, [.ref a1, .int v1, .int v2])), (a1, .inl (cT 2, 4096, .inr (.inl f0)))]) hP hD [0, 1] [2, 3, 4, 5] 4 rfl rfl (by decide) (by decide) hk1 hFc hP1 hD1
    generalize H1 = H at hP hS ⊢
    rw [hr9]
    refine W.eq (g2 := F0 m 37 ls [.int o1, .int y5]) rfl ?_
    refine lv_icmp_ge (tgt := 95) hx hb dH_joined_37 (by decide) (fun hc => ?_) (fun hc => ?_)
    · rw [if_pos hc] at hf
      refine lv_aload_n hx hb dH_joined_95 rfl (lv_at hl 5 rfl) ?_
      refine lv_aload_n hx hb dH_joined_96 rfl (lv_at hl 4 rfl) ?_
      obtain ⟨o4, hq5, hf⟩ := xbind hf
      obtain ⟨hPc, hDc, hFc⟩ := xcut (wc := [(a4, .inr (2, [.ref a5, .int w4, .int w5])), (a5, .inl (cT 2, 4096, .inr (.inl w3))), (a2, .inr (1, [.ref a3, .int w1, .int w2])), (a3, .inl (cT 0, 4096, .inl w0))]) hP hD hS hA [2, 3, 0, 1] rfl rfl (by decide)
      refine va_callv (va_runV (C := "ValueBench$Row") (As := [.ref a2]) (rest := []) ⟨hx, hb, hml, hown, htx⟩ (gR_putText l hl9 D cT aK aV H.size n a4 a5 a2 a3 w3 w4 w5 w0 w1 w2 o4 hq5) ⟨callB_of 1 htx (xw_goodC kw_4_86) rfl rfl rfl (htx _ kw_1_4) (htx _ kw_4_195) ⟨by decide, by decide, by decide +kernel⟩ ⟨Nat.le_of_ble_eq_true rfl, Nat.le_of_ble_eq_true rfl⟩, (htx _ kw_4_84), (htx _ kw_4_85)⟩ ⟨xPre_blind, va_recv hK hP (ci := 2) rfl (q0 := 2) rfl, (fun U hU hW => ⟨rfl, xPre_of hZ hS hFc hPc hDc hK U hU hW⟩)⟩ rfl rfl hl.1 rfl (lv_room (Nat.le_of_ble_eq_true rfl)) dH_joined_97 ⟨Nat.le_of_ble_eq_true rfl, Nat.le_of_ble_eq_true rfl⟩) hS (fun q _ h => hFc q h) hFc (fun u9 t H1 locs ht hvm hr9 hB hz1 hk1 hS => ?_)
      obtain ⟨hP1, hK1, hD1⟩ := hB
      rw [ht] at hP1
      obtain ⟨hP, hD⟩ := xjoin (W := [(a0, .inr (2, [.ref a1, .int v1, .int v2])), (a1, .inl (cT 2, 4096, .inr (.inl f0))), (a4, .inr (2, [.ref a5, .int o4.2.1, .int o4.2.2])), (a5, .inl (cT 2, 4096, .inr (.inl o4.1))), (a2, .inr (1, [.ref a3, .int w1, .int w2])), (a3, .inl (cT 0, 4096, .inl w0))]) hP hD [2, 3, 0, 1] [4, 5] 2 rfl rfl (by decide) (by decide) hk1 hFc hP1 hD1
      generalize H1 = H at hP hS ⊢
      refine lv_iconst (v := 0) hx hb dH_joined_100 (by decide) ?_
      obtain rfl := Option.some.inj hf
      obtain ⟨hP9, hD9⟩ := xsub (wc := [(a0, .inr (2, [.ref a1, .int v1, .int v2])), (a1, .inl (cT 2, 4096, .inr (.inl f0))), (a2, .inr (1, [.ref a3, .int w1, .int w2])), (a3, .inl (cT 0, 4096, .inl w0)), (a4, .inr (2, [.ref a5, .int o4.2.1, .int o4.2.2])), (a5, .inl (cT 2, 4096, .inr (.inl o4.1)))]) hP hD [0, 1, 4, 5, 2, 3] rfl rfl (by decide)
      exact W.iret (v := (0 : Int32)) hx hb hr (fun t ht hW => ⟨⟨(0 : Int32), (), rfl, rfl, by rw [ht]; exact hP9, va_K.moved hW.alike hK, hD9⟩, hS.F ht⟩) hS.2.2 dH_joined_101
    · rw [if_neg hc] at hf
      refine lv_aload_n hx hb dH_joined_40 rfl (lv_at hl 2 rfl) ?_
      refine lv_iload hx hb dH_joined_41 (lv_at hl 1 rfl) ?_
      refine lv_iconst (v := 5) hx hb dH_joined_43 (by decide) ?_
      obtain ⟨o4, hq5, hf⟩ := xbind hf
      obtain ⟨hPc, hDc, hFc⟩ := xcut (wc := [(a0, .inr (2, [.ref a1, .int v1, .int v2])), (a1, .inl (cT 2, 4096, .inr (.inl f0)))]) hP hD hS hA [4, 5] rfl rfl (by decide)
      refine va_calli (va_runV (C := "ValueBench$Row") (As := [.int y4, .int 5]) (rest := []) ⟨hx, hb, hml, hown, htx⟩ (gR_is l hl9 D cT aK aV H.size n a0 a1 y4 (5 : Int32) f0 v1 v2 o4 hq5) ⟨callB_of 2 htx (xw_goodC kw_3_75) rfl rfl rfl (htx _ kw_1_4) (htx _ kw_4_150) ⟨by decide, by decide, by decide +kernel⟩ ⟨Nat.le_of_ble_eq_true rfl, Nat.le_of_ble_eq_true rfl⟩, (htx _ kw_3_73), (htx _ kw_3_74)⟩ ⟨xPre_blind, va_recv hK hP (ci := 2) rfl (q0 := 4) rfl, (fun U hU hW => ⟨rfl, xPre_of hZ hS hFc hPc hDc hK U hU hW⟩)⟩ rfl rfl hl.1 rfl (lv_room (Nat.le_of_ble_eq_true rfl)) dH_joined_44 ⟨Nat.le_of_ble_eq_true rfl, Nat.le_of_ble_eq_true rfl⟩) hS (fun q _ h => hFc q h) hFc (fun r6 u9 t H1 locs ht hvm hr9 hB hz1 hk1 hS => ?_)
      obtain ⟨hP1, hK1, hD1⟩ := hB
      rw [ht] at hP1
      obtain ⟨hP, hD⟩ := xjoin (W := [(a2, .inr (1, [.ref a3, .int w1, .int w2])), (a3, .inl (cT 0, 4096, .inl w0)), (a4, .inr (2, [.ref a5, .int w4, .int w5])), (a5, .inl (cT 2, 4096, .inr (.inl w3))), (a0, .inr (2, [.ref a1, .int v1, .int v2])), (a1, .inl (cT 2, 4096, .inr (.inl f0)))]) hP hD [4, 5] [0, 1, 2, 3] 4 rfl rfl (by decide) (by decide) hk1 hFc hP1 hD1
      generalize H1 = H at hP hS ⊢
      rw [hr9]
      refine W.eq (g2 := F0 m 47 ls [.int o4]) rfl ?_
      refine lv_if_ne (tgt := 61) hx hb dH_joined_47 (by decide) (fun hc => ?_) (fun hc => ?_)
      · rw [if_neg hc] at hf
        refine lv_iconst (v := 1) hx hb dH_joined_61 (by decide) ?_
        obtain rfl := Option.some.inj hf
        obtain ⟨hP9, hD9⟩ := xsub (wc := [(a0, .inr (2, [.ref a1, .int v1, .int v2])), (a1, .inl (cT 2, 4096, .inr (.inl f0))), (a2, .inr (1, [.ref a3, .int w1, .int w2])), (a3, .inl (cT 0, 4096, .inl w0)), (a4, .inr (2, [.ref a5, .int w4, .int w5])), (a5, .inl (cT 2, 4096, .inr (.inl w3)))]) hP hD [4, 5, 0, 1, 2, 3] rfl rfl (by decide)
        exact W.iret (v := (1 : Int32)) hx hb hr (fun t ht hW => ⟨⟨(1 : Int32), (), rfl, rfl, by rw [ht]; exact hP9, va_K.moved hW.alike hK, hD9⟩, hS.F ht⟩) hS.2.2 dH_joined_62
      · rw [if_pos hc] at hf
        refine lv_aload_n hx hb dH_joined_50 rfl (lv_at hl 2 rfl) ?_
        refine lv_iload hx hb dH_joined_51 (lv_at hl 1 rfl) ?_
        refine lv_bipush (v := 6) hx hb dH_joined_53 (by decide) ?_
        obtain ⟨o7, hq8, hf⟩ := xbind hf
        obtain ⟨hPc, hDc, hFc⟩ := xcut (wc := [(a0, .inr (2, [.ref a1, .int v1, .int v2])), (a1, .inl (cT 2, 4096, .inr (.inl f0)))]) hP hD hS hA [4, 5] rfl rfl (by decide)
        refine va_calli (va_runV (C := "ValueBench$Row") (As := [.int y4, .int 6]) (rest := []) ⟨hx, hb, hml, hown, htx⟩ (gR_is l hl9 D cT aK aV H.size n a0 a1 y4 (6 : Int32) f0 v1 v2 o7 hq8) ⟨callB_of 2 htx (xw_goodC kw_3_75) rfl rfl rfl (htx _ kw_1_4) (htx _ kw_4_150) ⟨by decide, by decide, by decide +kernel⟩ ⟨Nat.le_of_ble_eq_true rfl, Nat.le_of_ble_eq_true rfl⟩, (htx _ kw_3_73), (htx _ kw_3_74)⟩ ⟨xPre_blind, va_recv hK hP (ci := 2) rfl (q0 := 4) rfl, (fun U hU hW => ⟨rfl, xPre_of hZ hS hFc hPc hDc hK U hU hW⟩)⟩ rfl rfl hl.1 rfl (lv_room (Nat.le_of_ble_eq_true rfl)) dH_joined_55 ⟨Nat.le_of_ble_eq_true rfl, Nat.le_of_ble_eq_true rfl⟩) hS (fun q _ h => hFc q h) hFc (fun r9 u9 t H1 locs ht hvm hr9 hB hz1 hk1 hS => ?_)
        obtain ⟨hP1, hK1, hD1⟩ := hB
        rw [ht] at hP1
        obtain ⟨hP, hD⟩ := xjoin (W := [(a2, .inr (1, [.ref a3, .int w1, .int w2])), (a3, .inl (cT 0, 4096, .inl w0)), (a4, .inr (2, [.ref a5, .int w4, .int w5])), (a5, .inl (cT 2, 4096, .inr (.inl w3))), (a0, .inr (2, [.ref a1, .int v1, .int v2])), (a1, .inl (cT 2, 4096, .inr (.inl f0)))]) hP hD [4, 5] [0, 1, 2, 3] 4 rfl rfl (by decide) (by decide) hk1 hFc hP1 hD1
        generalize H1 = H at hP hS ⊢
        rw [hr9]
        refine W.eq (g2 := F0 m 58 ls [.int o7]) rfl ?_
        refine lv_if_eq (tgt := 63) hx hb dH_joined_58 (by decide) (fun hc => ?_) (fun hc => ?_)
        · rw [if_pos hc] at hf
          refine lv_iload hx hb dH_joined_63 (lv_at hl 0 rfl) ?_
          refine lv_if_le (tgt := 74) hx hb dH_joined_65 (by decide) (fun hc => ?_) (fun hc => ?_)
          · rw [if_pos hc] at hf
            refine lv_aload_n hx hb dH_joined_74 rfl (lv_at hl 2 rfl) ?_
            refine lv_iload hx hb dH_joined_75 (lv_at hl 1 rfl) ?_
            refine lv_aload_n hx hb dH_joined_77 rfl (lv_at hl 4 rfl) ?_
            obtain ⟨o10, hq11, hf⟩ := xbind hf
            obtain ⟨hPc, hDc, hFc⟩ := xcut (wc := [(a0, .inr (2, [.ref a1, .int v1, .int v2])), (a1, .inl (cT 2, 4096, .inr (.inl f0))), (a2, .inr (1, [.ref a3, .int w1, .int w2])), (a3, .inl (cT 0, 4096, .inl w0))]) hP hD hS hA [4, 5, 0, 1] rfl rfl (by decide)
            refine va_callv (va_runS (As := [.ref a0, .int y4, .ref a2]) (rest := []) ⟨hx, hb, hml, hown, htx⟩ (gH_addShown l hl9 D cT aK aV H.size d n a0 a1 a2 a3 y4 f0 v1 v2 w0 w1 w2 o10 hq11) ⟨callB_of 3 htx (xw_goodC kw_4_193) rfl rfl rfl (htx _ kw_1_27) (htx _ kw_4_191) ⟨by decide, by decide, by decide +kernel⟩ ⟨(by show (16 * d + 2) + 1 ≤ 16 * d + 3; omega), (by show 8 + (3 + 11) + (400 * d + 46) ≤ 400 * d + 68; omega)⟩, htx _ kw_4_192⟩ ⟨xPre_blind, (fun U hU hW => ⟨rfl, xPre_of hZ hS hFc hPc hDc hK U hU hW⟩)⟩ rfl rfl hl.1 rfl (lv_room (Nat.le_of_ble_eq_true rfl)) dH_joined_78 ⟨Nat.le_of_ble_eq_true rfl, Nat.le_of_ble_eq_true rfl⟩) hS (fun q _ h => hFc q h) hFc (fun u9 t H1 locs ht hvm hr9 hB hz1 hk1 hS => ?_)
            obtain ⟨hP1, hK1, hD1⟩ := hB
            rw [ht] at hP1
            obtain ⟨hP, hD⟩ := xjoin (W := [(a4, .inr (2, [.ref a5, .int w4, .int w5])), (a5, .inl (cT 2, 4096, .inr (.inl w3))), (a0, .inr (2, [.ref a1, .int v1, .int v2])), (a1, .inl (cT 2, 4096, .inr (.inl f0))), (a2, .inr (1, [.ref a3, .int o10.2.1, .int o10.2.2])), (a3, .inl (cT 0, 4096, .inl o10.1))]) hP hD [4, 5, 0, 1] [2, 3] 2 rfl rfl (by decide) (by decide) hk1 hFc hP1 hD1
            generalize H1 = H at hP hS ⊢
            refine lv_aload_n hx hb dH_joined_81 rfl (lv_at hl 2 rfl) ?_
            refine lv_iload hx hb dH_joined_82 (lv_at hl 1 rfl) ?_
            obtain ⟨o12, hq13, hf⟩ := xbind hf
            obtain ⟨hPc, hDc, hFc⟩ := xcut (wc := [(a0, .inr (2, [.ref a1, .int v1, .int v2])), (a1, .inl (cT 2, 4096, .inr (.inl f0)))]) hP hD hS hA [2, 3] rfl rfl (by decide)
            refine va_calli (va_runV (C := "ValueBench$Row") (As := [.int y4]) (rest := []) ⟨hx, hb, hml, hown, htx⟩ (gR_after l hl9 D cT aK aV H.size n a0 a1 y4 f0 v1 v2 o12 hq13) ⟨callB_of 1 htx (xw_goodC kw_2_196) rfl rfl rfl (htx _ kw_1_4) (htx _ kw_4_181) ⟨by decide, by decide, by decide +kernel⟩ ⟨Nat.le_of_ble_eq_true rfl, Nat.le_of_ble_eq_true rfl⟩, (htx _ kw_2_194), (htx _ kw_2_195)⟩ ⟨xPre_blind, va_recv hK hP (ci := 2) rfl (q0 := 2) rfl, (fun U hU hW => ⟨rfl, xPre_of hZ hS hFc hPc hDc hK U hU hW⟩)⟩ rfl rfl hl.1 rfl (lv_room (Nat.le_of_ble_eq_true rfl)) dH_joined_84 ⟨Nat.le_of_ble_eq_true rfl, Nat.le_of_ble_eq_true rfl⟩) hS (fun q _ h => hFc q h) hFc (fun r14 u9 t H1 locs ht hvm hr9 hB hz1 hk1 hS => ?_)
            obtain ⟨hP1, hK1, hD1⟩ := hB
            rw [ht] at hP1
            obtain ⟨hP, hD⟩ := xjoin (W := [(a4, .inr (2, [.ref a5, .int w4, .int w5])), (a5, .inl (cT 2, 4096, .inr (.inl w3))), (a2, .inr (1, [.ref a3, .int o10.2.1, .int o10.2.2])), (a3, .inl (cT 0, 4096, .inl o10.1)), (a0, .inr (2, [.ref a1, .int v1, .int v2])), (a1, .inl (cT 2, 4096, .inr (.inl f0)))]) hP hD [2, 3] [0, 1, 4, 5] 4 rfl rfl (by decide) (by decide) hk1 hFc hP1 hD1
            generalize H1 = H at hP hS ⊢
            rw [hr9]
            refine W.eq (g2 := F0 m 87 ls [.int o12]) rfl ?_
            refine lv_istore (lv' := [(4, .int o12), (5, .int y5), (0, .ref a0), (1, .ref a0), (2, .ref a2), (3, .ref a4)]) hx hb dH_joined_87 hl (by decide) rfl (fun ls hl => ?_)
            refine lv_iinc (v := (y5 + 1)) (lv' := [(5, .int (y5 + 1)), (4, .int o12), (0, .ref a0), (1, .ref a0), (2, .ref a2), (3, .ref a4)]) hx hb dH_joined_89 hl (k := 1) rfl rfl (by decide) rfl (fun ls hl => ?_)
            refine lv_goto (tgt := 30) hx hb dH_joined_92 (by decide) ?_
            obtain ⟨hP9, hD9⟩ := xsub (wc := [(a0, .inr (2, [.ref a1, .int v1, .int v2])), (a1, .inl (cT 2, 4096, .inr (.inl f0))), (a2, .inr (1, [.ref a3, .int o10.2.1, .int o10.2.2])), (a3, .inl (cT 0, 4096, .inl o10.1)), (a4, .inr (2, [.ref a5, .int w4, .int w5])), (a5, .inl (cT 2, 4096, .inr (.inl w3)))]) hP hD [4, 5, 2, 3, 0, 1] rfl rfl (by decide)
            exact ih (1, (y5 + 1), o12, o10.1, o10.2.1, o10.2.2, w3, w4, w5) _ _ ls (⟨rfl, hf, hP9, hD9, hS, lv_sub hl [0, 1, 2, 3, 4, 5] rfl⟩)
          · rw [if_neg hc] at hf
            refine lv_aload_n hx hb dH_joined_68 rfl (lv_at hl 4 rfl) ?_
            refine lv_aload_n hx hb dH_joined_69 rfl (lv_at hl 3 rfl) ?_
            refine lv_iconst (v := 0) hx hb dH_joined_70 (by decide) ?_
            obtain ⟨o10, hq11, hf⟩ := xbind hf
            obtain ⟨hPc, hDc, hFc⟩ := xcut (wc := [(a2, .inr (1, [.ref a3, .int w1, .int w2])), (a3, .inl (cT 0, 4096, .inl w0)), (a0, .inr (2, [.ref a1, .int v1, .int v2])), (a1, .inl (cT 2, 4096, .inr (.inl f0)))]) hP hD hS hA [0, 1, 4, 5] rfl rfl (by decide)
            refine va_callv (va_runV (C := "ValueBench$Text") (As := [.ref a0, .int 0]) (rest := []) ⟨hx, hb, hml, hown, htx⟩ (gT_addString l hl9 D cT aK aV H.size n a2 a3 a0 a1 (0 : Int32) w0 w1 w2 f0 v1 v2 o10 hq11) ⟨callB_of 2 htx (xw_goodC kw_4_99) rfl rfl rfl (htx _ kw_1_2) (htx _ kw_4_190) ⟨by decide, by decide, by decide +kernel⟩ ⟨Nat.le_of_ble_eq_true rfl, Nat.le_of_ble_eq_true rfl⟩, (htx _ kw_4_97), (htx _ kw_4_98)⟩ ⟨xPre_blind, va_recv hK hP (ci := 1) rfl (q0 := 0) rfl, (fun U hU hW => ⟨rfl, xPre_of hZ hS hFc hPc hDc hK U hU hW⟩)⟩ rfl rfl hl.1 rfl (lv_room (Nat.le_of_ble_eq_true rfl)) dH_joined_71 ⟨Nat.le_of_ble_eq_true rfl, Nat.le_of_ble_eq_true rfl⟩) hS (fun q _ h => hFc q h) hFc (fun u9 t H1 locs ht hvm hr9 hB hz1 hk1 hS => ?_)
            obtain ⟨hP1, hK1, hD1⟩ := hB
            rw [ht] at hP1
            obtain ⟨hP, hD⟩ := xjoin (W := [(a4, .inr (2, [.ref a5, .int w4, .int w5])), (a5, .inl (cT 2, 4096, .inr (.inl w3))), (a2, .inr (1, [.ref a3, .int o10.2.1, .int o10.2.2])), (a3, .inl (cT 0, 4096, .inl o10.1)), (a0, .inr (2, [.ref a1, .int v1, .int v2])), (a1, .inl (cT 2, 4096, .inr (.inl f0)))]) hP hD [0, 1, 4, 5] [2, 3] 2 rfl rfl (by decide) (by decide) hk1 hFc hP1 hD1
            generalize H1 = H at hP hS ⊢
            refine lv_aload_n hx hb dH_joined_74 rfl (lv_at hl 2 rfl) ?_
            refine lv_iload hx hb dH_joined_75 (lv_at hl 1 rfl) ?_
            refine lv_aload_n hx hb dH_joined_77 rfl (lv_at hl 4 rfl) ?_
            obtain ⟨o12, hq13, hf⟩ := xbind hf
            obtain ⟨hPc, hDc, hFc⟩ := xcut (wc := [(a0, .inr (2, [.ref a1, .int v1, .int v2])), (a1, .inl (cT 2, 4096, .inr (.inl f0))), (a2, .inr (1, [.ref a3, .int o10.2.1, .int o10.2.2])), (a3, .inl (cT 0, 4096, .inl o10.1))]) hP hD hS hA [4, 5, 2, 3] rfl rfl (by decide)
            refine va_callv (va_runS (As := [.ref a0, .int y4, .ref a2]) (rest := []) ⟨hx, hb, hml, hown, htx⟩ (gH_addShown l hl9 D cT aK aV H.size d n a0 a1 a2 a3 y4 f0 v1 v2 o10.1 o10.2.1 o10.2.2 o12 hq13) ⟨callB_of 3 htx (xw_goodC kw_4_193) rfl rfl rfl (htx _ kw_1_27) (htx _ kw_4_191) ⟨by decide, by decide, by decide +kernel⟩ ⟨(by show (16 * d + 2) + 1 ≤ 16 * d + 3; omega), (by show 8 + (3 + 11) + (400 * d + 46) ≤ 400 * d + 68; omega)⟩, htx _ kw_4_192⟩ ⟨xPre_blind, (fun U hU hW => ⟨rfl, xPre_of hZ hS hFc hPc hDc hK U hU hW⟩)⟩ rfl rfl hl.1 rfl (lv_room (Nat.le_of_ble_eq_true rfl)) dH_joined_78 ⟨Nat.le_of_ble_eq_true rfl, Nat.le_of_ble_eq_true rfl⟩) hS (fun q _ h => hFc q h) hFc (fun u9 t H1 locs ht hvm hr9 hB hz1 hk1 hS => ?_)
            obtain ⟨hP1, hK1, hD1⟩ := hB
            rw [ht] at hP1
            obtain ⟨hP, hD⟩ := xjoin (W := [(a4, .inr (2, [.ref a5, .int w4, .int w5])), (a5, .inl (cT 2, 4096, .inr (.inl w3))), (a0, .inr (2, [.ref a1, .int v1, .int v2])), (a1, .inl (cT 2, 4096, .inr (.inl f0))), (a2, .inr (1, [.ref a3, .int o12.2.1, .int o12.2.2])), (a3, .inl (cT 0, 4096, .inl o12.1))]) hP hD [4, 5, 2, 3] [0, 1] 2 rfl rfl (by decide) (by decide) hk1 hFc hP1 hD1
            generalize H1 = H at hP hS ⊢
            refine lv_aload_n hx hb dH_joined_81 rfl (lv_at hl 2 rfl) ?_
            refine lv_iload hx hb dH_joined_82 (lv_at hl 1 rfl) ?_
            obtain ⟨o14, hq15, hf⟩ := xbind hf
            obtain ⟨hPc, hDc, hFc⟩ := xcut (wc := [(a0, .inr (2, [.ref a1, .int v1, .int v2])), (a1, .inl (cT 2, 4096, .inr (.inl f0)))]) hP hD hS hA [2, 3] rfl rfl (by decide)
            refine va_calli (va_runV (C := "ValueBench$Row") (As := [.int y4]) (rest := []) ⟨hx, hb, hml, hown, htx⟩ (gR_after l hl9 D cT aK aV H.size n a0 a1 y4 f0 v1 v2 o14 hq15) ⟨callB_of 1 htx (xw_goodC kw_2_196) rfl rfl rfl (htx _ kw_1_4) (htx _ kw_4_181) ⟨by decide, by decide, by decide +kernel⟩ ⟨Nat.le_of_ble_eq_true rfl, Nat.le_of_ble_eq_true rfl⟩, (htx _ kw_2_194), (htx _ kw_2_195)⟩ ⟨xPre_blind, va_recv hK hP (ci := 2) rfl (q0 := 2) rfl, (fun U hU hW => ⟨rfl, xPre_of hZ hS hFc hPc hDc hK U hU hW⟩)⟩ rfl rfl hl.1 rfl (lv_room (Nat.le_of_ble_eq_true rfl)) dH_joined_84 ⟨Nat.le_of_ble_eq_true rfl, Nat.le_of_ble_eq_true rfl⟩) hS (fun q _ h => hFc q h) hFc (fun r16 u9 t H1 locs ht hvm hr9 hB hz1 hk1 hS => ?_)
            obtain ⟨hP1, hK1, hD1⟩ := hB
            rw [ht] at hP1
            obtain ⟨hP, hD⟩ := xjoin (W := [(a4, .inr (2, [.ref a5, .int w4, .int w5])), (a5, .inl (cT 2, 4096, .inr (.inl w3))), (a2, .inr (1, [.ref a3, .int o12.2.1, .int o12.2.2])), (a3, .inl (cT 0, 4096, .inl o12.1)), (a0, .inr (2, [.ref a1, .int v1, .int v2])), (a1, .inl (cT 2, 4096, .inr (.inl f0)))]) hP hD [2, 3] [0, 1, 4, 5] 4 rfl rfl (by decide) (by decide) hk1 hFc hP1 hD1
            generalize H1 = H at hP hS ⊢
            rw [hr9]
            refine W.eq (g2 := F0 m 87 ls [.int o14]) rfl ?_
            refine lv_istore (lv' := [(4, .int o14), (5, .int y5), (0, .ref a0), (1, .ref a0), (2, .ref a2), (3, .ref a4)]) hx hb dH_joined_87 hl (by decide) rfl (fun ls hl => ?_)
            refine lv_iinc (v := (y5 + 1)) (lv' := [(5, .int (y5 + 1)), (4, .int o14), (0, .ref a0), (1, .ref a0), (2, .ref a2), (3, .ref a4)]) hx hb dH_joined_89 hl (k := 1) rfl rfl (by decide) rfl (fun ls hl => ?_)
            refine lv_goto (tgt := 30) hx hb dH_joined_92 (by decide) ?_
            obtain ⟨hP9, hD9⟩ := xsub (wc := [(a0, .inr (2, [.ref a1, .int v1, .int v2])), (a1, .inl (cT 2, 4096, .inr (.inl f0))), (a2, .inr (1, [.ref a3, .int o12.2.1, .int o12.2.2])), (a3, .inl (cT 0, 4096, .inl o12.1)), (a4, .inr (2, [.ref a5, .int w4, .int w5])), (a5, .inl (cT 2, 4096, .inr (.inl w3)))]) hP hD [4, 5, 2, 3, 0, 1] rfl rfl (by decide)
            exact ih (1, (y5 + 1), o14, o12.1, o12.2.1, o12.2.2, w3, w4, w5) _ _ ls (⟨rfl, hf, hP9, hD9, hS, lv_sub hl [0, 1, 2, 3, 4, 5] rfl⟩)
        · rw [if_neg hc] at hf
          refine lv_iconst (v := 1) hx hb dH_joined_61 (by decide) ?_
          obtain rfl := Option.some.inj hf
          obtain ⟨hP9, hD9⟩ := xsub (wc := [(a0, .inr (2, [.ref a1, .int v1, .int v2])), (a1, .inl (cT 2, 4096, .inr (.inl f0))), (a2, .inr (1, [.ref a3, .int w1, .int w2])), (a3, .inl (cT 0, 4096, .inl w0)), (a4, .inr (2, [.ref a5, .int w4, .int w5])), (a5, .inl (cT 2, 4096, .inr (.inl w3)))]) hP hD [4, 5, 0, 1, 2, 3] rfl rfl (by decide)
          exact W.iret (v := (1 : Int32)) hx hb hr (fun t ht hW => ⟨⟨(1 : Int32), (), rfl, rfl, by rw [ht]; exact hP9, va_K.moved hW.alike hK, hD9⟩, hS.F ht⟩) hS.2.2 dH_joined_62
  refine lv_aload_n hx hb dH_joined_0 rfl (lv_at hl 0 rfl) ?_
  refine lv_iconst (v := 0) hx hb dH_joined_1 (by decide) ?_
  refine lv_iconst (v := 5) hx hb dH_joined_2 (by decide) ?_
  obtain ⟨o1, hq2, hf⟩ := xbind hf
  obtain ⟨hPc, hDc, hFc⟩ := xcut (wc := [(a0, .inr (2, [.ref a1, .int v1, .int v2])), (a1, .inl (cT 2, 4096, .inr (.inl f0)))]) hP hD hS hA [0, 1] rfl rfl (by decide)
  refine va_calli (va_runV (C := "ValueBench$Row") (As := [.int 0, .int 5]) (rest := []) ⟨hx, hb, hml, hown, htx⟩ (gR_is l hl9 D cT aK aV s.heap.size n a0 a1 (0 : Int32) (5 : Int32) f0 v1 v2 o1 hq2) ⟨callB_of 2 htx (xw_goodC kw_3_75) rfl rfl rfl (htx _ kw_1_4) (htx _ kw_4_150) ⟨by decide, by decide, by decide +kernel⟩ ⟨Nat.le_of_ble_eq_true rfl, Nat.le_of_ble_eq_true rfl⟩, (htx _ kw_3_73), (htx _ kw_3_74)⟩ ⟨xPre_blind, va_recv hK hP (ci := 2) rfl (q0 := 0) rfl, (fun U hU hW => ⟨rfl, xPre_of hZ hS hFc hPc hDc hK U hU hW⟩)⟩ rfl rfl hl.1 rfl (lv_room (Nat.le_of_ble_eq_true rfl)) dH_joined_3 ⟨Nat.le_of_ble_eq_true rfl, Nat.le_of_ble_eq_true rfl⟩) hS (fun q _ h => hFc q h) hFc (fun r3 u9 t H1 locs ht hvm hr9 hB hz1 hk1 hS => ?_)
  obtain ⟨hP1, hK1, hD1⟩ := hB
  rw [ht] at hP1
  obtain ⟨hP, hD⟩ := xjoin (W := [(a2, .inr (1, [.ref a3, .int v4, .int v5])), (a3, .inl (cT 0, 4096, .inl f3)), (a4, .inr (2, [.ref a5, .int v7, .int v8])), (a5, .inl (cT 2, 4096, .inr (.inl f6))), (a0, .inr (2, [.ref a1, .int v1, .int v2])), (a1, .inl (cT 2, 4096, .inr (.inl f0)))]) hP hD [0, 1] [2, 3, 4, 5] 4 rfl rfl (by decide) (by decide) hk1 hFc hP1 hD1
  generalize H1 = H at hP hS ⊢
  rw [hr9]
  refine W.eq (g2 := F0 m 6 ls [.int o1]) rfl ?_
  refine lv_if_eq (tgt := 18) hx hb dH_joined_6 (by decide) (fun hc => ?_) (fun hc => ?_)
  · rw [if_pos hc] at hf
    refine lv_iconst (v := 1) hx hb dH_joined_18 (by decide) ?_
    obtain rfl := Option.some.inj hf
    obtain ⟨hP9, hD9⟩ := xsub (wc := [(a0, .inr (2, [.ref a1, .int v1, .int v2])), (a1, .inl (cT 2, 4096, .inr (.inl f0))), (a2, .inr (1, [.ref a3, .int v4, .int v5])), (a3, .inl (cT 0, 4096, .inl f3)), (a4, .inr (2, [.ref a5, .int v7, .int v8])), (a5, .inl (cT 2, 4096, .inr (.inl f6)))]) hP hD [4, 5, 0, 1, 2, 3] rfl rfl (by decide)
    exact W.iret (v := (1 : Int32)) hx hb hr (fun t ht hW => ⟨⟨(1 : Int32), (), rfl, rfl, by rw [ht]; exact hP9, va_K.moved hW.alike hK, hD9⟩, hS.F ht⟩) hS.2.2 dH_joined_19
  · rw [if_neg hc] at hf
    refine lv_aload_n hx hb dH_joined_9 rfl (lv_at hl 1 rfl) ?_
    refine lv_iconst (v := 0) hx hb dH_joined_10 (by decide) ?_
    refine lv_iconst (v := 4) hx hb dH_joined_11 (by decide) ?_
    obtain ⟨o4, hq5, hf⟩ := xbind hf
    obtain ⟨hPc, hDc, hFc⟩ := xcut (wc := [(a0, .inr (2, [.ref a1, .int v1, .int v2])), (a1, .inl (cT 2, 4096, .inr (.inl f0)))]) hP hD hS hA [4, 5] rfl rfl (by decide)
    refine va_calli (va_runV (C := "ValueBench$Row") (As := [.int 0, .int 4]) (rest := []) ⟨hx, hb, hml, hown, htx⟩ (gR_is l hl9 D cT aK aV H.size n a0 a1 (0 : Int32) (4 : Int32) f0 v1 v2 o4 hq5) ⟨callB_of 2 htx (xw_goodC kw_3_75) rfl rfl rfl (htx _ kw_1_4) (htx _ kw_4_150) ⟨by decide, by decide, by decide +kernel⟩ ⟨Nat.le_of_ble_eq_true rfl, Nat.le_of_ble_eq_true rfl⟩, (htx _ kw_3_73), (htx _ kw_3_74)⟩ ⟨xPre_blind, va_recv hK hP (ci := 2) rfl (q0 := 4) rfl, (fun U hU hW => ⟨rfl, xPre_of hZ hS hFc hPc hDc hK U hU hW⟩)⟩ rfl rfl hl.1 rfl (lv_room (Nat.le_of_ble_eq_true rfl)) dH_joined_12 ⟨Nat.le_of_ble_eq_true rfl, Nat.le_of_ble_eq_true rfl⟩) hS (fun q _ h => hFc q h) hFc (fun r6 u9 t H1 locs ht hvm hr9 hB hz1 hk1 hS => ?_)
    obtain ⟨hP1, hK1, hD1⟩ := hB
    rw [ht] at hP1
    obtain ⟨hP, hD⟩ := xjoin (W := [(a2, .inr (1, [.ref a3, .int v4, .int v5])), (a3, .inl (cT 0, 4096, .inl f3)), (a4, .inr (2, [.ref a5, .int v7, .int v8])), (a5, .inl (cT 2, 4096, .inr (.inl f6))), (a0, .inr (2, [.ref a1, .int v1, .int v2])), (a1, .inl (cT 2, 4096, .inr (.inl f0)))]) hP hD [4, 5] [0, 1, 2, 3] 4 rfl rfl (by decide) (by decide) hk1 hFc hP1 hD1
    generalize H1 = H at hP hS ⊢
    rw [hr9]
    refine W.eq (g2 := F0 m 15 ls [.int o4]) rfl ?_
    refine lv_if_ne (tgt := 20) hx hb dH_joined_15 (by decide) (fun hc => ?_) (fun hc => ?_)
    · rw [if_neg hc] at hf
      refine lv_aload_n hx hb dH_joined_20 rfl (lv_at hl 2 rfl) ?_
      obtain ⟨o7, hq8, hf⟩ := xbind hf
      obtain ⟨hPc, hDc, hFc⟩ := xcut (wc := [(a2, .inr (1, [.ref a3, .int v4, .int v5])), (a3, .inl (cT 0, 4096, .inl f3))]) hP hD hS hA [0, 1] rfl rfl (by decide)
      refine va_callv (va_runV (C := "ValueBench$Text") (As := []) (rest := []) ⟨hx, hb, hml, hown, htx⟩ (gT_clear l hl9 D cT aK aV H.size n a2 a3 f3 v4 v5 o7 hq8) ⟨callB_of 0 htx (xw_goodC kw_2_237) rfl rfl rfl (htx _ kw_1_2) (htx _ kw_4_189) ⟨by decide, by decide, by decide +kernel⟩ ⟨Nat.le_of_ble_eq_true rfl, Nat.le_of_ble_eq_true rfl⟩, (htx _ kw_2_235), (htx _ kw_2_236)⟩ ⟨xPre_blind, va_recv hK hP (ci := 1) rfl (q0 := 0) rfl, (fun U hU hW => ⟨rfl, xPre_of hZ hS hFc hPc hDc hK U hU hW⟩)⟩ rfl rfl hl.1 rfl (lv_room (Nat.le_of_ble_eq_true rfl)) dH_joined_21 ⟨Nat.le_of_ble_eq_true rfl, Nat.le_of_ble_eq_true rfl⟩) hS (fun q _ h => hFc q h) hFc (fun u9 t H1 locs ht hvm hr9 hB hz1 hk1 hS => ?_)
      obtain ⟨hP1, hK1, hD1⟩ := hB
      rw [ht] at hP1
      obtain ⟨hP, hD⟩ := xjoin (W := [(a4, .inr (2, [.ref a5, .int v7, .int v8])), (a5, .inl (cT 2, 4096, .inr (.inl f6))), (a0, .inr (2, [.ref a1, .int v1, .int v2])), (a1, .inl (cT 2, 4096, .inr (.inl f0))), (a2, .inr (1, [.ref a3, .int o7.1, .int o7.2])), (a3, .inl (cT 0, 4096, .inl f3))]) hP hD [0, 1] [2, 3, 4, 5] 4 rfl rfl (by decide) (by decide) hk1 hFc hP1 hD1
      generalize H1 = H at hP hS ⊢
      refine lv_iconst (v := 1) hx hb dH_joined_24 (by decide) ?_
      refine lv_istore (lv' := [(4, .int 1), (0, .ref a0), (1, .ref a0), (2, .ref a2), (3, .ref a4)]) hx hb dH_joined_25 hl (by decide) rfl (fun ls hl => ?_)
      refine lv_iconst (v := 0) hx hb dH_joined_27 (by decide) ?_
      refine lv_istore (lv' := [(5, .int 0), (4, .int 1), (0, .ref a0), (1, .ref a0), (2, .ref a2), (3, .ref a4)]) hx hb dH_joined_28 hl (by decide) rfl (fun ls hl => ?_)
      obtain ⟨hP9, hD9⟩ := xsub (wc := [(a0, .inr (2, [.ref a1, .int v1, .int v2])), (a1, .inl (cT 2, 4096, .inr (.inl f0))), (a2, .inr (1, [.ref a3, .int o7.1, .int o7.2])), (a3, .inl (cT 0, 4096, .inl f3)), (a4, .inr (2, [.ref a5, .int v7, .int v8])), (a5, .inl (cT 2, 4096, .inr (.inl f6)))]) hP hD [2, 3, 4, 5, 0, 1] rfl rfl (by decide)
      exact key n (1, 0, 1, f3, o7.1, o7.2, f6, v7, v8) _ _ ls (⟨rfl, hf, hP9, hD9, hS, lv_sub hl [0, 1, 2, 3, 4, 5] rfl⟩)
    · rw [if_pos hc] at hf
      refine lv_iconst (v := 1) hx hb dH_joined_18 (by decide) ?_
      obtain rfl := Option.some.inj hf
      obtain ⟨hP9, hD9⟩ := xsub (wc := [(a0, .inr (2, [.ref a1, .int v1, .int v2])), (a1, .inl (cT 2, 4096, .inr (.inl f0))), (a2, .inr (1, [.ref a3, .int v4, .int v5])), (a3, .inl (cT 0, 4096, .inl f3)), (a4, .inr (2, [.ref a5, .int v7, .int v8])), (a5, .inl (cT 2, 4096, .inr (.inl f6)))]) hP hD [4, 5, 0, 1, 2, 3] rfl rfl (by decide)
      exact W.iret (v := (1 : Int32)) hx hb hr (fun t ht hW => ⟨⟨(1 : Int32), (), rfl, rfl, by rw [ht]; exact hP9, va_K.moved hW.alike hK, hD9⟩, hS.F ht⟩) hS.2.2 dH_joined_19
set_option maxHeartbeats 400000000 in
set_option maxRecDepth 100000 in
theorem gH_areStringsa (l : Launch) (hl9 : l.stackTraces = false) (D : va_G) (cT : Nat → ClassId) (aK aV : Nat → Nat) (sz n : Nat) (a0 : Nat) (a1 : Nat) (f0 : Nat → Int64) (v1 : Int32) (v2 : Int32) (out : Int32) (hf : fH_areStringsa n f0 v1 v2 = some out) : xMet l yH_areStrings wyH_areStrings 2 0 0 43 D cT aK aV sz [.ref a0, .ref a0] [(a0, .inr (2, [.ref a1, .int v1, .int v2])), (a1, .inl (cT 2, 4096, .inr (.inl f0)))] (fun A => va_Qi (fun (r : Int32) (_ : Unit) => r = out) (fun _ t => xB D xcl cT A [(a0, .inr (2, [.ref a1, .int v1, .int v2])), (a1, .inl (cT 2, 4096, .inr (.inl f0)))] t) A) := by
  refine Met.ofW (cc := prog_5_method_6_code) (maxL := 2) (ret := (some .boolean)) (by decide) rfl ?_
  intro p e s m args below meth c s₁ B hml hv
  obtain ⟨rfl, hsz, hZ, hP, hK, hD0⟩ := hv
  have hx := B.exec
  have hb := B.bytes
  have hr := B.returns
  have hts := atoms_spec (ws := wyH_areStrings) B.pre
  have htx := fun w h => hts w (List.mem_cons_of_mem _ h)
  have hown : s.vm.findClass "ValueBench$Pairs" = some m.cls := findClass_of_methodNamed B.named
  have hlocks := B.notSynchronized
  subst hsz
  have hD := hD0.self (sz := s.heap.size)
  generalize hAe : va_A [(a0, .inr (2, [.ref a1, .int v1, .int v2])), (a1, .inl (cT 2, 4096, .inr (.inl f0)))] s.heap.size = A at hD hZ ⊢
  have hA : ∀ q : Nat, s.heap.size ≤ q → A q := fun q h => by rw [← hAe]; exact Or.inr h
  have hS : va_S A s.heap s.heap [] := va_S.rf
  have hP : va_P D xcl [(a0, .inr (2, [.ref a1, .int v1, .int v2])), (a1, .inl (cT 2, 4096, .inr (.inl f0)))] s.heap := hP
  have hl := lv_entry ([.ref a0, .ref a0]) (n := 2) (Nat.le_of_ble_eq_true rfl)
  rw [lg_entry_eq]
  generalize (lg_sl ([.ref a0, .ref a0]) ++ List.replicate (2 - (lg_sl ([.ref a0, .ref a0])).length) Slot.unset).toArray = ls at hl ⊢
  have hl : lv_has ls 2 [(0, .ref a0), (1, .ref a0)] := hl
  unfold fH_areStringsa at hf
  refine lv_aload_n hx hb dH_areStrings_0 rfl (lv_at hl 0 rfl) ?_
  refine lv_iconst (v := 0) hx hb dH_areStrings_1 (by decide) ?_
  refine lv_iconst (v := 4) hx hb dH_areStrings_2 (by decide) ?_
  obtain ⟨o1, hq2, hf⟩ := xbind hf
  obtain ⟨hPc, hDc, hFc⟩ := xcut (wc := [(a0, .inr (2, [.ref a1, .int v1, .int v2])), (a1, .inl (cT 2, 4096, .inr (.inl f0)))]) hP hD hS hA [0, 1] rfl rfl (by decide)
  refine va_calli (va_runV (C := "ValueBench$Row") (As := [.int 0, .int 4]) (rest := []) ⟨hx, hb, hml, hown, htx⟩ (gR_is l hl9 D cT aK aV s.heap.size n a0 a1 (0 : Int32) (4 : Int32) f0 v1 v2 o1 hq2) ⟨callB_of 2 htx (xw_goodC kw_3_75) rfl rfl rfl (htx _ kw_1_4) (htx _ kw_4_150) ⟨by decide, by decide, by decide +kernel⟩ ⟨Nat.le_of_ble_eq_true rfl, Nat.le_of_ble_eq_true rfl⟩, (htx _ kw_3_73), (htx _ kw_3_74)⟩ ⟨xPre_blind, va_recv hK hP (ci := 2) rfl (q0 := 0) rfl, (fun U hU hW => ⟨rfl, xPre_of hZ hS hFc hPc hDc hK U hU hW⟩)⟩ rfl rfl hl.1 rfl (lv_room (Nat.le_of_ble_eq_true rfl)) dH_areStrings_3 ⟨Nat.le_of_ble_eq_true rfl, Nat.le_of_ble_eq_true rfl⟩) hS (fun q _ h => hFc q h) hFc (fun r3 u9 t H1 locs ht hvm hr9 hB hz1 hk1 hS => ?_)
  obtain ⟨hP1, hK1, hD1⟩ := hB
  rw [ht] at hP1
  obtain ⟨hP, hD⟩ := xjoin (W := [(a0, .inr (2, [.ref a1, .int v1, .int v2])), (a1, .inl (cT 2, 4096, .inr (.inl f0)))]) hP hD [0, 1] [] 0 rfl rfl (by decide) (by decide) hk1 hFc hP1 hD1
  generalize H1 = H at hP hS ⊢
  rw [hr9]
  refine W.eq (g2 := F0 m 6 ls [.int o1]) rfl ?_
  refine lv_if_eq (tgt := 22) hx hb dH_areStrings_6 (by decide) (fun hc => ?_) (fun hc => ?_)
  · rw [if_pos hc] at hf
    refine lv_iconst (v := 0) hx hb dH_areStrings_22 (by decide) ?_
    obtain rfl := Option.some.inj hf
    obtain ⟨hP9, hD9⟩ := xsub (wc := [(a0, .inr (2, [.ref a1, .int v1, .int v2])), (a1, .inl (cT 2, 4096, .inr (.inl f0)))]) hP hD [0, 1] rfl rfl (by decide)
    exact W.zret (v := (0 : Int32)) hx hb hr rfl (fun t ht hW => ⟨⟨(0 : Int32), (), rfl, rfl, by rw [ht]; exact hP9, va_K.moved hW.alike hK, hD9⟩, hS.F ht⟩) hS.2.2 dH_areStrings_23
  · rw [if_neg hc] at hf
    refine lv_aload_n hx hb dH_areStrings_9 rfl (lv_at hl 1 rfl) ?_
    refine lv_iconst (v := 0) hx hb dH_areStrings_10 (by decide) ?_
    refine lv_iconst (v := 4) hx hb dH_areStrings_11 (by decide) ?_
    obtain ⟨o4, hq5, hf⟩ := xbind hf
    obtain ⟨hPc, hDc, hFc⟩ := xcut (wc := [(a0, .inr (2, [.ref a1, .int v1, .int v2])), (a1, .inl (cT 2, 4096, .inr (.inl f0)))]) hP hD hS hA [0, 1] rfl rfl (by decide)
    refine va_calli (va_runV (C := "ValueBench$Row") (As := [.int 0, .int 4]) (rest := []) ⟨hx, hb, hml, hown, htx⟩ (gR_is l hl9 D cT aK aV H.size n a0 a1 (0 : Int32) (4 : Int32) f0 v1 v2 o4 hq5) ⟨callB_of 2 htx (xw_goodC kw_3_75) rfl rfl rfl (htx _ kw_1_4) (htx _ kw_4_150) ⟨by decide, by decide, by decide +kernel⟩ ⟨Nat.le_of_ble_eq_true rfl, Nat.le_of_ble_eq_true rfl⟩, (htx _ kw_3_73), (htx _ kw_3_74)⟩ ⟨xPre_blind, va_recv hK hP (ci := 2) rfl (q0 := 0) rfl, (fun U hU hW => ⟨rfl, xPre_of hZ hS hFc hPc hDc hK U hU hW⟩)⟩ rfl rfl hl.1 rfl (lv_room (Nat.le_of_ble_eq_true rfl)) dH_areStrings_12 ⟨Nat.le_of_ble_eq_true rfl, Nat.le_of_ble_eq_true rfl⟩) hS (fun q _ h => hFc q h) hFc (fun r6 u9 t H1 locs ht hvm hr9 hB hz1 hk1 hS => ?_)
    obtain ⟨hP1, hK1, hD1⟩ := hB
    rw [ht] at hP1
    obtain ⟨hP, hD⟩ := xjoin (W := [(a0, .inr (2, [.ref a1, .int v1, .int v2])), (a1, .inl (cT 2, 4096, .inr (.inl f0)))]) hP hD [0, 1] [] 0 rfl rfl (by decide) (by decide) hk1 hFc hP1 hD1
    generalize H1 = H at hP hS ⊢
    rw [hr9]
    refine W.eq (g2 := F0 m 15 ls [.int o4]) rfl ?_
    refine lv_if_eq (tgt := 22) hx hb dH_areStrings_15 (by decide) (fun hc => ?_) (fun hc => ?_)
    · rw [if_pos hc] at hf
      refine lv_iconst (v := 0) hx hb dH_areStrings_22 (by decide) ?_
      obtain rfl := Option.some.inj hf
      obtain ⟨hP9, hD9⟩ := xsub (wc := [(a0, .inr (2, [.ref a1, .int v1, .int v2])), (a1, .inl (cT 2, 4096, .inr (.inl f0)))]) hP hD [0, 1] rfl rfl (by decide)
      exact W.zret (v := (0 : Int32)) hx hb hr rfl (fun t ht hW => ⟨⟨(0 : Int32), (), rfl, rfl, by rw [ht]; exact hP9, va_K.moved hW.alike hK, hD9⟩, hS.F ht⟩) hS.2.2 dH_areStrings_23
    · rw [if_neg hc] at hf
      refine lv_iconst (v := 1) hx hb dH_areStrings_18 (by decide) ?_
      refine lv_goto (tgt := 23) hx hb dH_areStrings_19 (by decide) ?_
      obtain rfl := Option.some.inj hf
      obtain ⟨hP9, hD9⟩ := xsub (wc := [(a0, .inr (2, [.ref a1, .int v1, .int v2])), (a1, .inl (cT 2, 4096, .inr (.inl f0)))]) hP hD [0, 1] rfl rfl (by decide)
      exact W.zret (v := (1 : Int32)) hx hb hr rfl (fun t ht hW => ⟨⟨(1 : Int32), (), rfl, rfl, by rw [ht]; exact hP9, va_K.moved hW.alike hK, hD9⟩, hS.F ht⟩) hS.2.2 dH_areStrings_23
set_option maxHeartbeats 400000000 in
set_option maxRecDepth 100000 in
theorem gH_beginsa (l : Launch) (hl9 : l.stackTraces = false) (D : va_G) (cT : Nat → ClassId) (aK aV : Nat → Nat) (sz n : Nat) (a0 : Nat) (a1 : Nat) (f0 : Nat → Int64) (v1 : Int32) (v2 : Int32) (out : Int32) (hf : fH_beginsa n f0 v1 v2 = some out) : xMet l yH_begins wyH_begins 2 0 0 49 D cT aK aV sz [.ref a0, .ref a0] [(a0, .inr (2, [.ref a1, .int v1, .int v2])), (a1, .inl (cT 2, 4096, .inr (.inl f0)))] (fun A => va_Qi (fun (r : Int32) (_ : Unit) => r = out) (fun _ t => xB D xcl cT A [(a0, .inr (2, [.ref a1, .int v1, .int v2])), (a1, .inl (cT 2, 4096, .inr (.inl f0)))] t) A) := by
  refine Met.ofW (cc := prog_5_method_18_code) (maxL := 2) (ret := (some .boolean)) (by decide) rfl ?_
  intro p e s m args below meth c s₁ B hml hv
  obtain ⟨rfl, hsz, hZ, hP, hK, hD0⟩ := hv
  have hx := B.exec
  have hb := B.bytes
  have hr := B.returns
  have hts := atoms_spec (ws := wyH_begins) B.pre
  have htx := fun w h => hts w (List.mem_cons_of_mem _ h)
  have hown : s.vm.findClass "ValueBench$Pairs" = some m.cls := findClass_of_methodNamed B.named
  have hlocks := B.notSynchronized
  subst hsz
  have hD := hD0.self (sz := s.heap.size)
  generalize hAe : va_A [(a0, .inr (2, [.ref a1, .int v1, .int v2])), (a1, .inl (cT 2, 4096, .inr (.inl f0)))] s.heap.size = A at hD hZ ⊢
  have hA : ∀ q : Nat, s.heap.size ≤ q → A q := fun q h => by rw [← hAe]; exact Or.inr h
  have hS : va_S A s.heap s.heap [] := va_S.rf
  have hP : va_P D xcl [(a0, .inr (2, [.ref a1, .int v1, .int v2])), (a1, .inl (cT 2, 4096, .inr (.inl f0)))] s.heap := hP
  have hl := lv_entry ([.ref a0, .ref a0]) (n := 2) (Nat.le_of_ble_eq_true rfl)
  rw [lg_entry_eq]
  generalize (lg_sl ([.ref a0, .ref a0]) ++ List.replicate (2 - (lg_sl ([.ref a0, .ref a0])).length) Slot.unset).toArray = ls at hl ⊢
  have hl : lv_has ls 2 [(0, .ref a0), (1, .ref a0)] := hl
  unfold fH_beginsa at hf
  refine lv_aload_n hx hb dH_begins_0 rfl (lv_at hl 0 rfl) ?_
  refine lv_iconst (v := 0) hx hb dH_begins_1 (by decide) ?_
  refine lv_iconst (v := 0) hx hb dH_begins_2 (by decide) ?_
  refine lv_aload_n hx hb dH_begins_3 rfl (lv_at hl 1 rfl) ?_
  refine lv_iconst (v := 0) hx hb dH_begins_4 (by decide) ?_
  obtain ⟨o1, hq2, hf⟩ := xbind hf
  obtain ⟨hPc, hDc, hFc⟩ := xcut (wc := [(a0, .inr (2, [.ref a1, .int v1, .int v2])), (a1, .inl (cT 2, 4096, .inr (.inl f0)))]) hP hD hS hA [0, 1] rfl rfl (by decide)
  refine va_calli (va_runV (C := "ValueBench$Row") (As := [.int 0, .int 0, .ref a0, .int 0]) (rest := []) ⟨hx, hb, hml, hown, htx⟩ (gR_hasPart l hl9 D cT aK aV s.heap.size n a0 a1 (0 : Int32) (0 : Int32) (0 : Int32) f0 v1 v2 o1 hq2) ⟨callB_of 4 htx (xw_goodC kw_3_217) rfl rfl rfl (htx _ kw_1_4) (htx _ kw_4_174) ⟨by decide, by decide, by decide +kernel⟩ ⟨Nat.le_of_ble_eq_true rfl, Nat.le_of_ble_eq_true rfl⟩, (htx _ kw_3_215), (htx _ kw_3_216)⟩ ⟨xPre_blind, va_recv hK hP (ci := 2) rfl (q0 := 0) rfl, (fun U hU hW => ⟨rfl, xPre_of hZ hS hFc hPc hDc hK U hU hW⟩)⟩ rfl rfl hl.1 rfl (lv_room (Nat.le_of_ble_eq_true rfl)) dH_begins_5 ⟨Nat.le_of_ble_eq_true rfl, Nat.le_of_ble_eq_true rfl⟩) hS (fun q _ h => hFc q h) hFc (fun r3 u9 t H1 locs ht hvm hr9 hB hz1 hk1 hS => ?_)
  obtain ⟨hP1, hK1, hD1⟩ := hB
  rw [ht] at hP1
  obtain ⟨hP, hD⟩ := xjoin (W := [(a0, .inr (2, [.ref a1, .int v1, .int v2])), (a1, .inl (cT 2, 4096, .inr (.inl f0)))]) hP hD [0, 1] [] 0 rfl rfl (by decide) (by decide) hk1 hFc hP1 hD1
  generalize H1 = H at hP hS ⊢
  rw [hr9]
  refine W.eq (g2 := F0 m 8 ls [.int o1]) rfl ?_
  obtain ⟨hg4, hf⟩ := xifn hf
  obtain rfl := Option.some.inj hf
  obtain ⟨hP9, hD9⟩ := xsub (wc := [(a0, .inr (2, [.ref a1, .int v1, .int v2])), (a1, .inl (cT 2, 4096, .inr (.inl f0)))]) hP hD [0, 1] rfl rfl (by decide)
  exact W.zret (v := o1) hx hb hr (xzb hg4) (fun t ht hW => ⟨⟨o1, (), rfl, rfl, by rw [ht]; exact hP9, va_K.moved hW.alike hK, hD9⟩, hS.F ht⟩) hS.2.2 dH_begins_8
set_option maxHeartbeats 400000000 in
set_option maxRecDepth 100000 in
theorem gH_withoutBeginninga (l : Launch) (hl9 : l.stackTraces = false) (D : va_G) (cT : Nat → ClassId) (aK aV : Nat → Nat) (sz n : Nat) (a0 : Nat) (a1 : Nat) (a2 : Nat) (a3 : Nat) (f0 : Nat → Int64) (v1 : Int32) (v2 : Int32) (f3 : Nat → Int64) (v4 : Int32) (v5 : Int32) (out : Int32 × (Nat → Int64) × Int32 × Int32) (hf : fH_withoutBeginninga n f0 v1 v2 f3 v4 v5 = some out) : xMet l yH_withoutBeginning wyH_withoutBeginning 4 0 0 127 D cT aK aV sz [.ref a0, .ref a0, .ref a2] [(a0, .inr (2, [.ref a1, .int v1, .int v2])), (a1, .inl (cT 2, 4096, .inr (.inl f0))), (a2, .inr (2, [.ref a3, .int v4, .int v5])), (a3, .inl (cT 2, 4096, .inr (.inl f3)))] (fun A => va_Qi (fun (r : Int32) (_ : Unit) => r = out.1) (fun _ t => xB D xcl cT A [(a0, .inr (2, [.ref a1, .int v1, .int v2])), (a1, .inl (cT 2, 4096, .inr (.inl f0))), (a2, .inr (2, [.ref a3, .int out.2.2.1, .int out.2.2.2])), (a3, .inl (cT 2, 4096, .inr (.inl out.2.1)))] t) A) := by
  refine Met.ofW (cc := prog_5_method_20_code) (maxL := 3) (ret := (some .int)) (by decide) rfl ?_
  intro p e s m args below meth c s₁ B hml hv
  obtain ⟨rfl, hsz, hZ, hP, hK, hD0⟩ := hv
  have hx := B.exec
  have hb := B.bytes
  have hr := B.returns
  have hts := atoms_spec (ws := wyH_withoutBeginning) B.pre
  have htx := fun w h => hts w (List.mem_cons_of_mem _ h)
  have hown : s.vm.findClass "ValueBench$Pairs" = some m.cls := findClass_of_methodNamed B.named
  have hlocks := B.notSynchronized
  subst hsz
  have hD := hD0.self (sz := s.heap.size)
  generalize hAe : va_A [(a0, .inr (2, [.ref a1, .int v1, .int v2])), (a1, .inl (cT 2, 4096, .inr (.inl f0))), (a2, .inr (2, [.ref a3, .int v4, .int v5])), (a3, .inl (cT 2, 4096, .inr (.inl f3)))] s.heap.size = A at hD hZ ⊢
  have hA : ∀ q : Nat, s.heap.size ≤ q → A q := fun q h => by rw [← hAe]; exact Or.inr h
  have hS : va_S A s.heap s.heap [] := va_S.rf
  have hP : va_P D xcl [(a0, .inr (2, [.ref a1, .int v1, .int v2])), (a1, .inl (cT 2, 4096, .inr (.inl f0))), (a2, .inr (2, [.ref a3, .int v4, .int v5])), (a3, .inl (cT 2, 4096, .inr (.inl f3)))] s.heap := hP
  have hl := lv_entry ([.ref a0, .ref a0, .ref a2]) (n := 3) (Nat.le_of_ble_eq_true rfl)
  rw [lg_entry_eq]
  generalize (lg_sl ([.ref a0, .ref a0, .ref a2]) ++ List.replicate (3 - (lg_sl ([.ref a0, .ref a0, .ref a2])).length) Slot.unset).toArray = ls at hl ⊢
  have hl : lv_has ls 3 [(0, .ref a0), (1, .ref a0), (2, .ref a2)] := hl
  unfold fH_withoutBeginninga at hf
  refine lv_aload_n hx hb dH_withoutBeginning_0 rfl (lv_at hl 0 rfl) ?_
  refine lv_aload_n hx hb dH_withoutBeginning_1 rfl (lv_at hl 1 rfl) ?_
  obtain ⟨o1, hq2, hf⟩ := xbind hf
  obtain ⟨hPc, hDc, hFc⟩ := xcut (wc := [(a0, .inr (2, [.ref a1, .int v1, .int v2])), (a1, .inl (cT 2, 4096, .inr (.inl f0)))]) hP hD hS hA [0, 1] rfl rfl (by decide)
  refine va_calli (va_runS (As := [.ref a0, .ref a0]) (rest := []) ⟨hx, hb, hml, hown, htx⟩ (gH_areStringsa l hl9 D cT aK aV s.heap.size n a0 a1 f0 v1 v2 o1 hq2) ⟨callB_of 2 htx (xw_goodC kw_4_201) rfl rfl rfl (htx _ kw_1_27) (htx _ kw_4_199) ⟨by decide, by decide, by decide +kernel⟩ ⟨Nat.le_of_ble_eq_true rfl, Nat.le_of_ble_eq_true rfl⟩, htx _ kw_4_200⟩ ⟨xPre_blind, (fun U hU hW => ⟨rfl, xPre_of hZ hS hFc hPc hDc hK U hU hW⟩)⟩ rfl rfl hl.1 rfl (lv_room (Nat.le_of_ble_eq_true rfl)) dH_withoutBeginning_2 ⟨Nat.le_of_ble_eq_true rfl, Nat.le_of_ble_eq_true rfl⟩) hS (fun q _ h => hFc q h) hFc (fun r3 u9 t H1 locs ht hvm hr9 hB hz1 hk1 hS => ?_)
  obtain ⟨hP1, hK1, hD1⟩ := hB
  rw [ht] at hP1
  obtain ⟨hP, hD⟩ := xjoin (W := [(a2, .inr (2, [.ref a3, .int v4, .int v5])), (a3, .inl (cT 2, 4096, .inr (.inl f3))), (a0, .inr (2, [.ref a1, .int v1, .int v2])), (a1, .inl (cT 2, 4096, .inr (.inl f0)))]) hP hD [0, 1] [2, 3] 2 rfl rfl (by decide) (by decide) hk1 hFc hP1 hD1
  generalize H1 = H at hP hS ⊢
  rw [hr9]
  refine W.eq (g2 := F0 m 5 ls [.int o1]) rfl ?_
  refine lv_if_eq (tgt := 16) hx hb dH_withoutBeginning_5 (by decide) (fun hc => ?_) (fun hc => ?_)
  · rw [if_pos hc] at hf
    refine lv_aload_n hx hb dH_withoutBeginning_16 rfl (lv_at hl 0 rfl) ?_
    refine lv_iconst (v := 0) hx hb dH_withoutBeginning_17 (by decide) ?_
    refine lv_aload_n hx hb dH_withoutBeginning_18 rfl (lv_at hl 2 rfl) ?_
    obtain ⟨o4, hq5, hf⟩ := xbind hf
    obtain ⟨hPc, hDc, hFc⟩ := xcut (wc := [(a0, .inr (2, [.ref a1, .int v1, .int v2])), (a1, .inl (cT 2, 4096, .inr (.inl f0))), (a2, .inr (2, [.ref a3, .int v4, .int v5])), (a3, .inl (cT 2, 4096, .inr (.inl f3)))]) hP hD hS hA [2, 3, 0, 1] rfl rfl (by decide)
    refine va_calli (va_runS (As := [.ref a0, .int 0, .ref a2]) (rest := []) ⟨hx, hb, hml, hown, htx⟩ (gH_copy l hl9 D cT aK aV H.size n a0 a1 a2 a3 (0 : Int32) f0 v1 v2 f3 v4 v5 o4 hq5) ⟨callB_of 3 htx (xw_goodC kw_4_207) rfl rfl rfl (htx _ kw_1_27) (htx _ kw_4_205) ⟨by decide, by decide, by decide +kernel⟩ ⟨Nat.le_of_ble_eq_true rfl, Nat.le_of_ble_eq_true rfl⟩, htx _ kw_4_206⟩ ⟨xPre_blind, (fun U hU hW => ⟨rfl, xPre_of hZ hS hFc hPc hDc hK U hU hW⟩)⟩ rfl rfl hl.1 rfl (lv_room (Nat.le_of_ble_eq_true rfl)) dH_withoutBeginning_19 ⟨Nat.le_of_ble_eq_true rfl, Nat.le_of_ble_eq_true rfl⟩) hS (fun q _ h => hFc q h) hFc (fun r6 u9 t H1 locs ht hvm hr9 hB hz1 hk1 hS => ?_)
    obtain ⟨hP1, hK1, hD1⟩ := hB
    rw [ht] at hP1
    obtain ⟨hP, hD⟩ := xjoin (W := [(a0, .inr (2, [.ref a1, .int v1, .int v2])), (a1, .inl (cT 2, 4096, .inr (.inl f0))), (a2, .inr (2, [.ref a3, .int o4.2.2.1, .int o4.2.2.2])), (a3, .inl (cT 2, 4096, .inr (.inl o4.2.1)))]) hP hD [2, 3, 0, 1] [] 0 rfl rfl (by decide) (by decide) hk1 hFc hP1 hD1
    generalize H1 = H at hP hS ⊢
    rw [hr9]
    refine W.eq (g2 := F0 m 22 ls [.int o4.1]) rfl ?_
    obtain rfl := Option.some.inj hf
    obtain ⟨hP9, hD9⟩ := xsub (wc := [(a0, .inr (2, [.ref a1, .int v1, .int v2])), (a1, .inl (cT 2, 4096, .inr (.inl f0))), (a2, .inr (2, [.ref a3, .int o4.2.2.1, .int o4.2.2.2])), (a3, .inl (cT 2, 4096, .inr (.inl o4.2.1)))]) hP hD [0, 1, 2, 3] rfl rfl (by decide)
    exact W.iret (v := o4.1) hx hb hr (fun t ht hW => ⟨⟨o4.1, (), rfl, rfl, by rw [ht]; exact hP9, va_K.moved hW.alike hK, hD9⟩, hS.F ht⟩) hS.2.2 dH_withoutBeginning_22
  · rw [if_neg hc] at hf
    refine lv_aload_n hx hb dH_withoutBeginning_8 rfl (lv_at hl 0 rfl) ?_
    refine lv_aload_n hx hb dH_withoutBeginning_9 rfl (lv_at hl 1 rfl) ?_
    obtain ⟨o4, hq5, hf⟩ := xbind hf
    obtain ⟨hPc, hDc, hFc⟩ := xcut (wc := [(a0, .inr (2, [.ref a1, .int v1, .int v2])), (a1, .inl (cT 2, 4096, .inr (.inl f0)))]) hP hD hS hA [2, 3] rfl rfl (by decide)
    refine va_calli (va_runS (As := [.ref a0, .ref a0]) (rest := []) ⟨hx, hb, hml, hown, htx⟩ (gH_beginsa l hl9 D cT aK aV H.size n a0 a1 f0 v1 v2 o4 hq5) ⟨callB_of 2 htx (xw_goodC kw_4_204) rfl rfl rfl (htx _ kw_1_27) (htx _ kw_4_202) ⟨by decide, by decide, by decide +kernel⟩ ⟨Nat.le_of_ble_eq_true rfl, Nat.le_of_ble_eq_true rfl⟩, htx _ kw_4_203⟩ ⟨xPre_blind, (fun U hU hW => ⟨rfl, xPre_of hZ hS hFc hPc hDc hK U hU hW⟩)⟩ rfl rfl hl.1 rfl (lv_room (Nat.le_of_ble_eq_true rfl)) dH_withoutBeginning_10 ⟨Nat.le_of_ble_eq_true rfl, Nat.le_of_ble_eq_true rfl⟩) hS (fun q _ h => hFc q h) hFc (fun r6 u9 t H1 locs ht hvm hr9 hB hz1 hk1 hS => ?_)
    obtain ⟨hP1, hK1, hD1⟩ := hB
    rw [ht] at hP1
    obtain ⟨hP, hD⟩ := xjoin (W := [(a2, .inr (2, [.ref a3, .int v4, .int v5])), (a3, .inl (cT 2, 4096, .inr (.inl f3))), (a0, .inr (2, [.ref a1, .int v1, .int v2])), (a1, .inl (cT 2, 4096, .inr (.inl f0)))]) hP hD [2, 3] [0, 1] 2 rfl rfl (by decide) (by decide) hk1 hFc hP1 hD1
    generalize H1 = H at hP hS ⊢
    rw [hr9]
    refine W.eq (g2 := F0 m 13 ls [.int o4]) rfl ?_
    refine lv_if_ne (tgt := 23) hx hb dH_withoutBeginning_13 (by decide) (fun hc => ?_) (fun hc => ?_)
    · rw [if_neg hc] at hf
      refine lv_aload_n hx hb dH_withoutBeginning_23 rfl (lv_at hl 2 rfl) ?_
      refine lv_aload_n hx hb dH_withoutBeginning_24 rfl (lv_at hl 0 rfl) ?_
      refine lv_iconst (v := 0) hx hb dH_withoutBeginning_25 (by decide) ?_
      refine lv_aload_n hx hb dH_withoutBeginning_26 rfl (lv_at hl 1 rfl) ?_
      refine lv_iconst (v := 0) hx hb dH_withoutBeginning_27 (by decide) ?_
      obtain ⟨o7, hq8, hf⟩ := xbind hf
      obtain ⟨hPc, hDc, hFc⟩ := xcut (wc := [(a0, .inr (2, [.ref a1, .int v1, .int v2])), (a1, .inl (cT 2, 4096, .inr (.inl f0)))]) hP hD hS hA [2, 3] rfl rfl (by decide)
      refine va_calli (va_runV (C := "ValueBench$Row") (As := [.int 0]) (rest := [.int 0, .ref a0, .ref a2]) ⟨hx, hb, hml, hown, htx⟩ (gR_length l hl9 D cT aK aV H.size n a0 a1 (0 : Int32) f0 v1 v2 o7 hq8) ⟨callB_of 1 htx (xw_goodC kw_2_191) rfl rfl rfl (htx _ kw_1_4) (htx _ kw_4_157) ⟨by decide, by decide, by decide +kernel⟩ ⟨Nat.le_of_ble_eq_true rfl, Nat.le_of_ble_eq_true rfl⟩, (htx _ kw_2_189), (htx _ kw_2_190)⟩ ⟨xPre_blind, va_recv hK hP (ci := 2) rfl (q0 := 2) rfl, (fun U hU hW => ⟨rfl, xPre_of hZ hS hFc hPc hDc hK U hU hW⟩)⟩ rfl rfl hl.1 rfl (lv_room (Nat.le_of_ble_eq_true rfl)) dH_withoutBeginning_28 ⟨Nat.le_of_ble_eq_true rfl, Nat.le_of_ble_eq_true rfl⟩) hS (fun q _ h => hFc q h) hFc (fun r9 u9 t H1 locs ht hvm hr9 hB hz1 hk1 hS => ?_)
      obtain ⟨hP1, hK1, hD1⟩ := hB
      rw [ht] at hP1
      obtain ⟨hP, hD⟩ := xjoin (W := [(a2, .inr (2, [.ref a3, .int v4, .int v5])), (a3, .inl (cT 2, 4096, .inr (.inl f3))), (a0, .inr (2, [.ref a1, .int v1, .int v2])), (a1, .inl (cT 2, 4096, .inr (.inl f0)))]) hP hD [2, 3] [0, 1] 2 rfl rfl (by decide) (by decide) hk1 hFc hP1 hD1
      generalize H1 = H at hP hS ⊢
      rw [hr9]
      refine W.eq (g2 := F0 m 31 ls [.int o7, .int 0, .ref a0, .ref a2]) rfl ?_
      refine lv_aload_n hx hb dH_withoutBeginning_31 rfl (lv_at hl 0 rfl) ?_
      refine lv_iconst (v := 0) hx hb dH_withoutBeginning_32 (by decide) ?_
      obtain ⟨o10, hq11, hf⟩ := xbind hf
      obtain ⟨hPc, hDc, hFc⟩ := xcut (wc := [(a0, .inr (2, [.ref a1, .int v1, .int v2])), (a1, .inl (cT 2, 4096, .inr (.inl f0)))]) hP hD hS hA [2, 3] rfl rfl (by decide)
      refine va_calli (va_runV (C := "ValueBench$Row") (As := [.int 0]) (rest := [.int o7, .int 0, .ref a0, .ref a2]) ⟨hx, hb, hml, hown, htx⟩ (gR_length l hl9 D cT aK aV H.size n a0 a1 (0 : Int32) f0 v1 v2 o10 hq11) ⟨callB_of 1 htx (xw_goodC kw_2_191) rfl rfl rfl (htx _ kw_1_4) (htx _ kw_4_157) ⟨by decide, by decide, by decide +kernel⟩ ⟨Nat.le_of_ble_eq_true rfl, Nat.le_of_ble_eq_true rfl⟩, (htx _ kw_2_189), (htx _ kw_2_190)⟩ ⟨xPre_blind, va_recv hK hP (ci := 2) rfl (q0 := 2) rfl, (fun U hU hW => ⟨rfl, xPre_of hZ hS hFc hPc hDc hK U hU hW⟩)⟩ rfl rfl hl.1 rfl (lv_room (Nat.le_of_ble_eq_true rfl)) dH_withoutBeginning_33 ⟨Nat.le_of_ble_eq_true rfl, Nat.le_of_ble_eq_true rfl⟩) hS (fun q _ h => hFc q h) hFc (fun r12 u9 t H1 locs ht hvm hr9 hB hz1 hk1 hS => ?_)
      obtain ⟨hP1, hK1, hD1⟩ := hB
      rw [ht] at hP1
      obtain ⟨hP, hD⟩ := xjoin (W := [(a2, .inr (2, [.ref a3, .int v4, .int v5])), (a3, .inl (cT 2, 4096, .inr (.inl f3))), (a0, .inr (2, [.ref a1, .int v1, .int v2])), (a1, .inl (cT 2, 4096, .inr (.inl f0)))]) hP hD [2, 3] [0, 1] 2 rfl rfl (by decide) (by decide) hk1 hFc hP1 hD1
      generalize H1 = H at hP hS ⊢
      rw [hr9]
      refine W.eq (g2 := F0 m 36 ls [.int o10, .int o7, .int 0, .ref a0, .ref a2]) rfl ?_
      obtain ⟨o13, hq14, hf⟩ := xbind hf
      obtain ⟨hPc, hDc, hFc⟩ := xcut (wc := [(a2, .inr (2, [.ref a3, .int v4, .int v5])), (a3, .inl (cT 2, 4096, .inr (.inl f3))), (a0, .inr (2, [.ref a1, .int v1, .int v2])), (a1, .inl (cT 2, 4096, .inr (.inl f0)))]) hP hD hS hA [0, 1, 2, 3] rfl rfl (by decide)
      refine va_callv (va_runV (C := "ValueBench$Row") (As := [.ref a0, .int 0, .int o7, .int o10]) (rest := []) ⟨hx, hb, hml, hown, htx⟩ (gR_putPart l hl9 D cT aK aV H.size n a2 a3 a0 a1 (0 : Int32) o7 o10 f3 v4 v5 f0 v1 v2 o13 hq14) ⟨callB_of 4 htx (xw_goodC kw_3_208) rfl rfl rfl (htx _ kw_1_4) (htx _ kw_4_209) ⟨by decide, by decide, by decide +kernel⟩ ⟨Nat.le_of_ble_eq_true rfl, Nat.le_of_ble_eq_true rfl⟩, (htx _ kw_3_206), (htx _ kw_3_207)⟩ ⟨xPre_blind, va_recv hK hP (ci := 2) rfl (q0 := 0) rfl, (fun U hU hW => ⟨rfl, xPre_of hZ hS hFc hPc hDc hK U hU hW⟩)⟩ rfl rfl hl.1 rfl (lv_room (Nat.le_of_ble_eq_true rfl)) dH_withoutBeginning_36 ⟨Nat.le_of_ble_eq_true rfl, Nat.le_of_ble_eq_true rfl⟩) hS (fun q _ h => hFc q h) hFc (fun u9 t H1 locs ht hvm hr9 hB hz1 hk1 hS => ?_)
      obtain ⟨hP1, hK1, hD1⟩ := hB
      rw [ht] at hP1
      obtain ⟨hP, hD⟩ := xjoin (W := [(a2, .inr (2, [.ref a3, .int o13.2.1, .int o13.2.2])), (a3, .inl (cT 2, 4096, .inr (.inl o13.1))), (a0, .inr (2, [.ref a1, .int v1, .int v2])), (a1, .inl (cT 2, 4096, .inr (.inl f0)))]) hP hD [0, 1, 2, 3] [] 0 rfl rfl (by decide) (by decide) hk1 hFc hP1 hD1
      generalize H1 = H at hP hS ⊢
      refine lv_iconst (v := 0) hx hb dH_withoutBeginning_39 (by decide) ?_
      obtain rfl := Option.some.inj hf
      obtain ⟨hP9, hD9⟩ := xsub (wc := [(a0, .inr (2, [.ref a1, .int v1, .int v2])), (a1, .inl (cT 2, 4096, .inr (.inl f0))), (a2, .inr (2, [.ref a3, .int o13.2.1, .int o13.2.2])), (a3, .inl (cT 2, 4096, .inr (.inl o13.1)))]) hP hD [2, 3, 0, 1] rfl rfl (by decide)
      exact W.iret (v := (0 : Int32)) hx hb hr (fun t ht hW => ⟨⟨(0 : Int32), (), rfl, rfl, by rw [ht]; exact hP9, va_K.moved hW.alike hK, hD9⟩, hS.F ht⟩) hS.2.2 dH_withoutBeginning_40
    · rw [if_pos hc] at hf
      refine lv_aload_n hx hb dH_withoutBeginning_16 rfl (lv_at hl 0 rfl) ?_
      refine lv_iconst (v := 0) hx hb dH_withoutBeginning_17 (by decide) ?_
      refine lv_aload_n hx hb dH_withoutBeginning_18 rfl (lv_at hl 2 rfl) ?_
      obtain ⟨o7, hq8, hf⟩ := xbind hf
      obtain ⟨hPc, hDc, hFc⟩ := xcut (wc := [(a0, .inr (2, [.ref a1, .int v1, .int v2])), (a1, .inl (cT 2, 4096, .inr (.inl f0))), (a2, .inr (2, [.ref a3, .int v4, .int v5])), (a3, .inl (cT 2, 4096, .inr (.inl f3)))]) hP hD hS hA [2, 3, 0, 1] rfl rfl (by decide)
      refine va_calli (va_runS (As := [.ref a0, .int 0, .ref a2]) (rest := []) ⟨hx, hb, hml, hown, htx⟩ (gH_copy l hl9 D cT aK aV H.size n a0 a1 a2 a3 (0 : Int32) f0 v1 v2 f3 v4 v5 o7 hq8) ⟨callB_of 3 htx (xw_goodC kw_4_207) rfl rfl rfl (htx _ kw_1_27) (htx _ kw_4_205) ⟨by decide, by decide, by decide +kernel⟩ ⟨Nat.le_of_ble_eq_true rfl, Nat.le_of_ble_eq_true rfl⟩, htx _ kw_4_206⟩ ⟨xPre_blind, (fun U hU hW => ⟨rfl, xPre_of hZ hS hFc hPc hDc hK U hU hW⟩)⟩ rfl rfl hl.1 rfl (lv_room (Nat.le_of_ble_eq_true rfl)) dH_withoutBeginning_19 ⟨Nat.le_of_ble_eq_true rfl, Nat.le_of_ble_eq_true rfl⟩) hS (fun q _ h => hFc q h) hFc (fun r9 u9 t H1 locs ht hvm hr9 hB hz1 hk1 hS => ?_)
      obtain ⟨hP1, hK1, hD1⟩ := hB
      rw [ht] at hP1
      obtain ⟨hP, hD⟩ := xjoin (W := [(a0, .inr (2, [.ref a1, .int v1, .int v2])), (a1, .inl (cT 2, 4096, .inr (.inl f0))), (a2, .inr (2, [.ref a3, .int o7.2.2.1, .int o7.2.2.2])), (a3, .inl (cT 2, 4096, .inr (.inl o7.2.1)))]) hP hD [2, 3, 0, 1] [] 0 rfl rfl (by decide) (by decide) hk1 hFc hP1 hD1
      generalize H1 = H at hP hS ⊢
      rw [hr9]
      refine W.eq (g2 := F0 m 22 ls [.int o7.1]) rfl ?_
      obtain rfl := Option.some.inj hf
      obtain ⟨hP9, hD9⟩ := xsub (wc := [(a0, .inr (2, [.ref a1, .int v1, .int v2])), (a1, .inl (cT 2, 4096, .inr (.inl f0))), (a2, .inr (2, [.ref a3, .int o7.2.2.1, .int o7.2.2.2])), (a3, .inl (cT 2, 4096, .inr (.inl o7.2.1)))]) hP hD [0, 1, 2, 3] rfl rfl (by decide)
      exact W.iret (v := o7.1) hx hb hr (fun t ht hW => ⟨⟨o7.1, (), rfl, rfl, by rw [ht]; exact hP9, va_K.moved hW.alike hK, hD9⟩, hS.F ht⟩) hS.2.2 dH_withoutBeginning_22
set_option maxHeartbeats 400000000 in
set_option maxRecDepth 100000 in
theorem gH_endsa (l : Launch) (hl9 : l.stackTraces = false) (D : va_G) (cT : Nat → ClassId) (aK aV : Nat → Nat) (sz n : Nat) (a0 : Nat) (a1 : Nat) (f0 : Nat → Int64) (v1 : Int32) (v2 : Int32) (out : Int32) (hf : fH_endsa n f0 v1 v2 = some out) : xMet l yH_ends wyH_ends 2 0 0 49 D cT aK aV sz [.ref a0, .ref a0] [(a0, .inr (2, [.ref a1, .int v1, .int v2])), (a1, .inl (cT 2, 4096, .inr (.inl f0)))] (fun A => va_Qi (fun (r : Int32) (_ : Unit) => r = out) (fun _ t => xB D xcl cT A [(a0, .inr (2, [.ref a1, .int v1, .int v2])), (a1, .inl (cT 2, 4096, .inr (.inl f0)))] t) A) := by
  refine Met.ofW (cc := prog_5_method_19_code) (maxL := 2) (ret := (some .boolean)) (by decide) rfl ?_
  intro p e s m args below meth c s₁ B hml hv
  obtain ⟨rfl, hsz, hZ, hP, hK, hD0⟩ := hv
  have hx := B.exec
  have hb := B.bytes
  have hr := B.returns
  have hts := atoms_spec (ws := wyH_ends) B.pre
  have htx := fun w h => hts w (List.mem_cons_of_mem _ h)
  have hown : s.vm.findClass "ValueBench$Pairs" = some m.cls := findClass_of_methodNamed B.named
  have hlocks := B.notSynchronized
  subst hsz
  have hD := hD0.self (sz := s.heap.size)
  generalize hAe : va_A [(a0, .inr (2, [.ref a1, .int v1, .int v2])), (a1, .inl (cT 2, 4096, .inr (.inl f0)))] s.heap.size = A at hD hZ ⊢
  have hA : ∀ q : Nat, s.heap.size ≤ q → A q := fun q h => by rw [← hAe]; exact Or.inr h
  have hS : va_S A s.heap s.heap [] := va_S.rf
  have hP : va_P D xcl [(a0, .inr (2, [.ref a1, .int v1, .int v2])), (a1, .inl (cT 2, 4096, .inr (.inl f0)))] s.heap := hP
  have hl := lv_entry ([.ref a0, .ref a0]) (n := 2) (Nat.le_of_ble_eq_true rfl)
  rw [lg_entry_eq]
  generalize (lg_sl ([.ref a0, .ref a0]) ++ List.replicate (2 - (lg_sl ([.ref a0, .ref a0])).length) Slot.unset).toArray = ls at hl ⊢
  have hl : lv_has ls 2 [(0, .ref a0), (1, .ref a0)] := hl
  unfold fH_endsa at hf
  refine lv_aload_n hx hb dH_ends_0 rfl (lv_at hl 0 rfl) ?_
  refine lv_iconst (v := 0) hx hb dH_ends_1 (by decide) ?_
  refine lv_aload_n hx hb dH_ends_2 rfl (lv_at hl 0 rfl) ?_
  refine lv_iconst (v := 0) hx hb dH_ends_3 (by decide) ?_
  obtain ⟨o1, hq2, hf⟩ := xbind hf
  obtain ⟨hPc, hDc, hFc⟩ := xcut (wc := [(a0, .inr (2, [.ref a1, .int v1, .int v2])), (a1, .inl (cT 2, 4096, .inr (.inl f0)))]) hP hD hS hA [0, 1] rfl rfl (by decide)
  refine va_calli (va_runV (C := "ValueBench$Row") (As := [.int 0]) (rest := [.int 0, .ref a0]) ⟨hx, hb, hml, hown, htx⟩ (gR_length l hl9 D cT aK aV s.heap.size n a0 a1 (0 : Int32) f0 v1 v2 o1 hq2) ⟨callB_of 1 htx (xw_goodC kw_2_191) rfl rfl rfl (htx _ kw_1_4) (htx _ kw_4_157) ⟨by decide, by decide, by decide +kernel⟩ ⟨Nat.le_of_ble_eq_true rfl, Nat.le_of_ble_eq_true rfl⟩, (htx _ kw_2_189), (htx _ kw_2_190)⟩ ⟨xPre_blind, va_recv hK hP (ci := 2) rfl (q0 := 0) rfl, (fun U hU hW => ⟨rfl, xPre_of hZ hS hFc hPc hDc hK U hU hW⟩)⟩ rfl rfl hl.1 rfl (lv_room (Nat.le_of_ble_eq_true rfl)) dH_ends_4 ⟨Nat.le_of_ble_eq_true rfl, Nat.le_of_ble_eq_true rfl⟩) hS (fun q _ h => hFc q h) hFc (fun r3 u9 t H1 locs ht hvm hr9 hB hz1 hk1 hS => ?_)
  obtain ⟨hP1, hK1, hD1⟩ := hB
  rw [ht] at hP1
  obtain ⟨hP, hD⟩ := xjoin (W := [(a0, .inr (2, [.ref a1, .int v1, .int v2])), (a1, .inl (cT 2, 4096, .inr (.inl f0)))]) hP hD [0, 1] [] 0 rfl rfl (by decide) (by decide) hk1 hFc hP1 hD1
  generalize H1 = H at hP hS ⊢
  rw [hr9]
  refine W.eq (g2 := F0 m 7 ls [.int o1, .int 0, .ref a0]) rfl ?_
  refine lv_aload_n hx hb dH_ends_7 rfl (lv_at hl 1 rfl) ?_
  refine lv_iconst (v := 0) hx hb dH_ends_8 (by decide) ?_
  obtain ⟨o4, hq5, hf⟩ := xbind hf
  obtain ⟨hPc, hDc, hFc⟩ := xcut (wc := [(a0, .inr (2, [.ref a1, .int v1, .int v2])), (a1, .inl (cT 2, 4096, .inr (.inl f0)))]) hP hD hS hA [0, 1] rfl rfl (by decide)
  refine va_calli (va_runV (C := "ValueBench$Row") (As := [.int 0]) (rest := [.int o1, .int 0, .ref a0]) ⟨hx, hb, hml, hown, htx⟩ (gR_length l hl9 D cT aK aV H.size n a0 a1 (0 : Int32) f0 v1 v2 o4 hq5) ⟨callB_of 1 htx (xw_goodC kw_2_191) rfl rfl rfl (htx _ kw_1_4) (htx _ kw_4_157) ⟨by decide, by decide, by decide +kernel⟩ ⟨Nat.le_of_ble_eq_true rfl, Nat.le_of_ble_eq_true rfl⟩, (htx _ kw_2_189), (htx _ kw_2_190)⟩ ⟨xPre_blind, va_recv hK hP (ci := 2) rfl (q0 := 0) rfl, (fun U hU hW => ⟨rfl, xPre_of hZ hS hFc hPc hDc hK U hU hW⟩)⟩ rfl rfl hl.1 rfl (lv_room (Nat.le_of_ble_eq_true rfl)) dH_ends_9 ⟨Nat.le_of_ble_eq_true rfl, Nat.le_of_ble_eq_true rfl⟩) hS (fun q _ h => hFc q h) hFc (fun r6 u9 t H1 locs ht hvm hr9 hB hz1 hk1 hS => ?_)
  obtain ⟨hP1, hK1, hD1⟩ := hB
  rw [ht] at hP1
  obtain ⟨hP, hD⟩ := xjoin (W := [(a0, .inr (2, [.ref a1, .int v1, .int v2])), (a1, .inl (cT 2, 4096, .inr (.inl f0)))]) hP hD [0, 1] [] 0 rfl rfl (by decide) (by decide) hk1 hFc hP1 hD1
  generalize H1 = H at hP hS ⊢
  rw [hr9]
  refine W.eq (g2 := F0 m 12 ls [.int o4, .int o1, .int 0, .ref a0]) rfl ?_
  refine lv_isub hx hb dH_ends_12 ?_
  refine lv_aload_n hx hb dH_ends_13 rfl (lv_at hl 1 rfl) ?_
  refine lv_iconst (v := 0) hx hb dH_ends_14 (by decide) ?_
  obtain ⟨o7, hq8, hf⟩ := xbind hf
  obtain ⟨hPc, hDc, hFc⟩ := xcut (wc := [(a0, .inr (2, [.ref a1, .int v1, .int v2])), (a1, .inl (cT 2, 4096, .inr (.inl f0)))]) hP hD hS hA [0, 1] rfl rfl (by decide)
  refine va_calli (va_runV (C := "ValueBench$Row") (As := [.int 0, .int (o1 - o4), .ref a0, .int 0]) (rest := []) ⟨hx, hb, hml, hown, htx⟩ (gR_hasPart l hl9 D cT aK aV H.size n a0 a1 (0 : Int32) (o1 - o4) (0 : Int32) f0 v1 v2 o7 hq8) ⟨callB_of 4 htx (xw_goodC kw_3_217) rfl rfl rfl (htx _ kw_1_4) (htx _ kw_4_174) ⟨by decide, by decide, by decide +kernel⟩ ⟨Nat.le_of_ble_eq_true rfl, Nat.le_of_ble_eq_true rfl⟩, (htx _ kw_3_215), (htx _ kw_3_216)⟩ ⟨xPre_blind, va_recv hK hP (ci := 2) rfl (q0 := 0) rfl, (fun U hU hW => ⟨rfl, xPre_of hZ hS hFc hPc hDc hK U hU hW⟩)⟩ rfl rfl hl.1 rfl (lv_room (Nat.le_of_ble_eq_true rfl)) dH_ends_15 ⟨Nat.le_of_ble_eq_true rfl, Nat.le_of_ble_eq_true rfl⟩) hS (fun q _ h => hFc q h) hFc (fun r9 u9 t H1 locs ht hvm hr9 hB hz1 hk1 hS => ?_)
  obtain ⟨hP1, hK1, hD1⟩ := hB
  rw [ht] at hP1
  obtain ⟨hP, hD⟩ := xjoin (W := [(a0, .inr (2, [.ref a1, .int v1, .int v2])), (a1, .inl (cT 2, 4096, .inr (.inl f0)))]) hP hD [0, 1] [] 0 rfl rfl (by decide) (by decide) hk1 hFc hP1 hD1
  generalize H1 = H at hP hS ⊢
  rw [hr9]
  refine W.eq (g2 := F0 m 18 ls [.int o7]) rfl ?_
  obtain ⟨hg10, hf⟩ := xifn hf
  obtain rfl := Option.some.inj hf
  obtain ⟨hP9, hD9⟩ := xsub (wc := [(a0, .inr (2, [.ref a1, .int v1, .int v2])), (a1, .inl (cT 2, 4096, .inr (.inl f0)))]) hP hD [0, 1] rfl rfl (by decide)
  exact W.zret (v := o7) hx hb hr (xzb hg10) (fun t ht hW => ⟨⟨o7, (), rfl, rfl, by rw [ht]; exact hP9, va_K.moved hW.alike hK, hD9⟩, hS.F ht⟩) hS.2.2 dH_ends_18
set_option maxHeartbeats 400000000 in
set_option maxRecDepth 100000 in
theorem gH_withoutEnda (l : Launch) (hl9 : l.stackTraces = false) (D : va_G) (cT : Nat → ClassId) (aK aV : Nat → Nat) (sz n : Nat) (a0 : Nat) (a1 : Nat) (a2 : Nat) (a3 : Nat) (f0 : Nat → Int64) (v1 : Int32) (v2 : Int32) (f3 : Nat → Int64) (v4 : Int32) (v5 : Int32) (out : Int32 × (Nat → Int64) × Int32 × Int32) (hf : fH_withoutEnda n f0 v1 v2 f3 v4 v5 = some out) : xMet l yH_withoutEnd wyH_withoutEnd 4 0 0 127 D cT aK aV sz [.ref a0, .ref a0, .ref a2] [(a0, .inr (2, [.ref a1, .int v1, .int v2])), (a1, .inl (cT 2, 4096, .inr (.inl f0))), (a2, .inr (2, [.ref a3, .int v4, .int v5])), (a3, .inl (cT 2, 4096, .inr (.inl f3)))] (fun A => va_Qi (fun (r : Int32) (_ : Unit) => r = out.1) (fun _ t => xB D xcl cT A [(a0, .inr (2, [.ref a1, .int v1, .int v2])), (a1, .inl (cT 2, 4096, .inr (.inl f0))), (a2, .inr (2, [.ref a3, .int out.2.2.1, .int out.2.2.2])), (a3, .inl (cT 2, 4096, .inr (.inl out.2.1)))] t) A) := by
  refine Met.ofW (cc := prog_5_method_21_code) (maxL := 3) (ret := (some .int)) (by decide) rfl ?_
  intro p e s m args below meth c s₁ B hml hv
  obtain ⟨rfl, hsz, hZ, hP, hK, hD0⟩ := hv
  have hx := B.exec
  have hb := B.bytes
  have hr := B.returns
  have hts := atoms_spec (ws := wyH_withoutEnd) B.pre
  have htx := fun w h => hts w (List.mem_cons_of_mem _ h)
  have hown : s.vm.findClass "ValueBench$Pairs" = some m.cls := findClass_of_methodNamed B.named
  have hlocks := B.notSynchronized
  subst hsz
  have hD := hD0.self (sz := s.heap.size)
  generalize hAe : va_A [(a0, .inr (2, [.ref a1, .int v1, .int v2])), (a1, .inl (cT 2, 4096, .inr (.inl f0))), (a2, .inr (2, [.ref a3, .int v4, .int v5])), (a3, .inl (cT 2, 4096, .inr (.inl f3)))] s.heap.size = A at hD hZ ⊢
  have hA : ∀ q : Nat, s.heap.size ≤ q → A q := fun q h => by rw [← hAe]; exact Or.inr h
  have hS : va_S A s.heap s.heap [] := va_S.rf
  have hP : va_P D xcl [(a0, .inr (2, [.ref a1, .int v1, .int v2])), (a1, .inl (cT 2, 4096, .inr (.inl f0))), (a2, .inr (2, [.ref a3, .int v4, .int v5])), (a3, .inl (cT 2, 4096, .inr (.inl f3)))] s.heap := hP
  have hl := lv_entry ([.ref a0, .ref a0, .ref a2]) (n := 3) (Nat.le_of_ble_eq_true rfl)
  rw [lg_entry_eq]
  generalize (lg_sl ([.ref a0, .ref a0, .ref a2]) ++ List.replicate (3 - (lg_sl ([.ref a0, .ref a0, .ref a2])).length) Slot.unset).toArray = ls at hl ⊢
  have hl : lv_has ls 3 [(0, .ref a0), (1, .ref a0), (2, .ref a2)] := hl
  unfold fH_withoutEnda at hf
  refine lv_aload_n hx hb dH_withoutEnd_0 rfl (lv_at hl 0 rfl) ?_
  refine lv_aload_n hx hb dH_withoutEnd_1 rfl (lv_at hl 1 rfl) ?_
  obtain ⟨o1, hq2, hf⟩ := xbind hf
  obtain ⟨hPc, hDc, hFc⟩ := xcut (wc := [(a0, .inr (2, [.ref a1, .int v1, .int v2])), (a1, .inl (cT 2, 4096, .inr (.inl f0)))]) hP hD hS hA [0, 1] rfl rfl (by decide)
  refine va_calli (va_runS (As := [.ref a0, .ref a0]) (rest := []) ⟨hx, hb, hml, hown, htx⟩ (gH_areStringsa l hl9 D cT aK aV s.heap.size n a0 a1 f0 v1 v2 o1 hq2) ⟨callB_of 2 htx (xw_goodC kw_4_201) rfl rfl rfl (htx _ kw_1_27) (htx _ kw_4_199) ⟨by decide, by decide, by decide +kernel⟩ ⟨Nat.le_of_ble_eq_true rfl, Nat.le_of_ble_eq_true rfl⟩, htx _ kw_4_200⟩ ⟨xPre_blind, (fun U hU hW => ⟨rfl, xPre_of hZ hS hFc hPc hDc hK U hU hW⟩)⟩ rfl rfl hl.1 rfl (lv_room (Nat.le_of_ble_eq_true rfl)) dH_withoutEnd_2 ⟨Nat.le_of_ble_eq_true rfl, Nat.le_of_ble_eq_true rfl⟩) hS (fun q _ h => hFc q h) hFc (fun r3 u9 t H1 locs ht hvm hr9 hB hz1 hk1 hS => ?_)
  obtain ⟨hP1, hK1, hD1⟩ := hB
  rw [ht] at hP1
  obtain ⟨hP, hD⟩ := xjoin (W := [(a2, .inr (2, [.ref a3, .int v4, .int v5])), (a3, .inl (cT 2, 4096, .inr (.inl f3))), (a0, .inr (2, [.ref a1, .int v1, .int v2])), (a1, .inl (cT 2, 4096, .inr (.inl f0)))]) hP hD [0, 1] [2, 3] 2 rfl rfl (by decide) (by decide) hk1 hFc hP1 hD1
  generalize H1 = H at hP hS ⊢
  rw [hr9]
  refine W.eq (g2 := F0 m 5 ls [.int o1]) rfl ?_
  refine lv_if_eq (tgt := 16) hx hb dH_withoutEnd_5 (by decide) (fun hc => ?_) (fun hc => ?_)
  · rw [if_pos hc] at hf
    refine lv_aload_n hx hb dH_withoutEnd_16 rfl (lv_at hl 0 rfl) ?_
    refine lv_iconst (v := 0) hx hb dH_withoutEnd_17 (by decide) ?_
    refine lv_aload_n hx hb dH_withoutEnd_18 rfl (lv_at hl 2 rfl) ?_
    obtain ⟨o4, hq5, hf⟩ := xbind hf
    obtain ⟨hPc, hDc, hFc⟩ := xcut (wc := [(a0, .inr (2, [.ref a1, .int v1, .int v2])), (a1, .inl (cT 2, 4096, .inr (.inl f0))), (a2, .inr (2, [.ref a3, .int v4, .int v5])), (a3, .inl (cT 2, 4096, .inr (.inl f3)))]) hP hD hS hA [2, 3, 0, 1] rfl rfl (by decide)
    refine va_calli (va_runS (As := [.ref a0, .int 0, .ref a2]) (rest := []) ⟨hx, hb, hml, hown, htx⟩ (gH_copy l hl9 D cT aK aV H.size n a0 a1 a2 a3 (0 : Int32) f0 v1 v2 f3 v4 v5 o4 hq5) ⟨callB_of 3 htx (xw_goodC kw_4_207) rfl rfl rfl (htx _ kw_1_27) (htx _ kw_4_205) ⟨by decide, by decide, by decide +kernel⟩ ⟨Nat.le_of_ble_eq_true rfl, Nat.le_of_ble_eq_true rfl⟩, htx _ kw_4_206⟩ ⟨xPre_blind, (fun U hU hW => ⟨rfl, xPre_of hZ hS hFc hPc hDc hK U hU hW⟩)⟩ rfl rfl hl.1 rfl (lv_room (Nat.le_of_ble_eq_true rfl)) dH_withoutEnd_19 ⟨Nat.le_of_ble_eq_true rfl, Nat.le_of_ble_eq_true rfl⟩) hS (fun q _ h => hFc q h) hFc (fun r6 u9 t H1 locs ht hvm hr9 hB hz1 hk1 hS => ?_)
    obtain ⟨hP1, hK1, hD1⟩ := hB
    rw [ht] at hP1
    obtain ⟨hP, hD⟩ := xjoin (W := [(a0, .inr (2, [.ref a1, .int v1, .int v2])), (a1, .inl (cT 2, 4096, .inr (.inl f0))), (a2, .inr (2, [.ref a3, .int o4.2.2.1, .int o4.2.2.2])), (a3, .inl (cT 2, 4096, .inr (.inl o4.2.1)))]) hP hD [2, 3, 0, 1] [] 0 rfl rfl (by decide) (by decide) hk1 hFc hP1 hD1
    generalize H1 = H at hP hS ⊢
    rw [hr9]
    refine W.eq (g2 := F0 m 22 ls [.int o4.1]) rfl ?_
    obtain rfl := Option.some.inj hf
    obtain ⟨hP9, hD9⟩ := xsub (wc := [(a0, .inr (2, [.ref a1, .int v1, .int v2])), (a1, .inl (cT 2, 4096, .inr (.inl f0))), (a2, .inr (2, [.ref a3, .int o4.2.2.1, .int o4.2.2.2])), (a3, .inl (cT 2, 4096, .inr (.inl o4.2.1)))]) hP hD [0, 1, 2, 3] rfl rfl (by decide)
    exact W.iret (v := o4.1) hx hb hr (fun t ht hW => ⟨⟨o4.1, (), rfl, rfl, by rw [ht]; exact hP9, va_K.moved hW.alike hK, hD9⟩, hS.F ht⟩) hS.2.2 dH_withoutEnd_22
  · rw [if_neg hc] at hf
    refine lv_aload_n hx hb dH_withoutEnd_8 rfl (lv_at hl 0 rfl) ?_
    refine lv_aload_n hx hb dH_withoutEnd_9 rfl (lv_at hl 1 rfl) ?_
    obtain ⟨o4, hq5, hf⟩ := xbind hf
    obtain ⟨hPc, hDc, hFc⟩ := xcut (wc := [(a0, .inr (2, [.ref a1, .int v1, .int v2])), (a1, .inl (cT 2, 4096, .inr (.inl f0)))]) hP hD hS hA [2, 3] rfl rfl (by decide)
    refine va_calli (va_runS (As := [.ref a0, .ref a0]) (rest := []) ⟨hx, hb, hml, hown, htx⟩ (gH_endsa l hl9 D cT aK aV H.size n a0 a1 f0 v1 v2 o4 hq5) ⟨callB_of 2 htx (xw_goodC kw_4_215) rfl rfl rfl (htx _ kw_1_27) (htx _ kw_4_213) ⟨by decide, by decide, by decide +kernel⟩ ⟨Nat.le_of_ble_eq_true rfl, Nat.le_of_ble_eq_true rfl⟩, htx _ kw_4_214⟩ ⟨xPre_blind, (fun U hU hW => ⟨rfl, xPre_of hZ hS hFc hPc hDc hK U hU hW⟩)⟩ rfl rfl hl.1 rfl (lv_room (Nat.le_of_ble_eq_true rfl)) dH_withoutEnd_10 ⟨Nat.le_of_ble_eq_true rfl, Nat.le_of_ble_eq_true rfl⟩) hS (fun q _ h => hFc q h) hFc (fun r6 u9 t H1 locs ht hvm hr9 hB hz1 hk1 hS => ?_)
    obtain ⟨hP1, hK1, hD1⟩ := hB
    rw [ht] at hP1
    obtain ⟨hP, hD⟩ := xjoin (W := [(a2, .inr (2, [.ref a3, .int v4, .int v5])), (a3, .inl (cT 2, 4096, .inr (.inl f3))), (a0, .inr (2, [.ref a1, .int v1, .int v2])), (a1, .inl (cT 2, 4096, .inr (.inl f0)))]) hP hD [2, 3] [0, 1] 2 rfl rfl (by decide) (by decide) hk1 hFc hP1 hD1
    generalize H1 = H at hP hS ⊢
    rw [hr9]
    refine W.eq (g2 := F0 m 13 ls [.int o4]) rfl ?_
    refine lv_if_ne (tgt := 23) hx hb dH_withoutEnd_13 (by decide) (fun hc => ?_) (fun hc => ?_)
    · rw [if_neg hc] at hf
      refine lv_aload_n hx hb dH_withoutEnd_23 rfl (lv_at hl 2 rfl) ?_
      refine lv_aload_n hx hb dH_withoutEnd_24 rfl (lv_at hl 0 rfl) ?_
      refine lv_iconst (v := 0) hx hb dH_withoutEnd_25 (by decide) ?_
      refine lv_iconst (v := 0) hx hb dH_withoutEnd_26 (by decide) ?_
      refine lv_aload_n hx hb dH_withoutEnd_27 rfl (lv_at hl 0 rfl) ?_
      refine lv_iconst (v := 0) hx hb dH_withoutEnd_28 (by decide) ?_
      obtain ⟨o7, hq8, hf⟩ := xbind hf
      obtain ⟨hPc, hDc, hFc⟩ := xcut (wc := [(a0, .inr (2, [.ref a1, .int v1, .int v2])), (a1, .inl (cT 2, 4096, .inr (.inl f0)))]) hP hD hS hA [2, 3] rfl rfl (by decide)
      refine va_calli (va_runV (C := "ValueBench$Row") (As := [.int 0]) (rest := [.int 0, .int 0, .ref a0, .ref a2]) ⟨hx, hb, hml, hown, htx⟩ (gR_length l hl9 D cT aK aV H.size n a0 a1 (0 : Int32) f0 v1 v2 o7 hq8) ⟨callB_of 1 htx (xw_goodC kw_2_191) rfl rfl rfl (htx _ kw_1_4) (htx _ kw_4_157) ⟨by decide, by decide, by decide +kernel⟩ ⟨Nat.le_of_ble_eq_true rfl, Nat.le_of_ble_eq_true rfl⟩, (htx _ kw_2_189), (htx _ kw_2_190)⟩ ⟨xPre_blind, va_recv hK hP (ci := 2) rfl (q0 := 2) rfl, (fun U hU hW => ⟨rfl, xPre_of hZ hS hFc hPc hDc hK U hU hW⟩)⟩ rfl rfl hl.1 rfl (lv_room (Nat.le_of_ble_eq_true rfl)) dH_withoutEnd_29 ⟨Nat.le_of_ble_eq_true rfl, Nat.le_of_ble_eq_true rfl⟩) hS (fun q _ h => hFc q h) hFc (fun r9 u9 t H1 locs ht hvm hr9 hB hz1 hk1 hS => ?_)
      obtain ⟨hP1, hK1, hD1⟩ := hB
      rw [ht] at hP1
      obtain ⟨hP, hD⟩ := xjoin (W := [(a2, .inr (2, [.ref a3, .int v4, .int v5])), (a3, .inl (cT 2, 4096, .inr (.inl f3))), (a0, .inr (2, [.ref a1, .int v1, .int v2])), (a1, .inl (cT 2, 4096, .inr (.inl f0)))]) hP hD [2, 3] [0, 1] 2 rfl rfl (by decide) (by decide) hk1 hFc hP1 hD1
      generalize H1 = H at hP hS ⊢
      rw [hr9]
      refine W.eq (g2 := F0 m 32 ls [.int o7, .int 0, .int 0, .ref a0, .ref a2]) rfl ?_
      refine lv_aload_n hx hb dH_withoutEnd_32 rfl (lv_at hl 1 rfl) ?_
      refine lv_iconst (v := 0) hx hb dH_withoutEnd_33 (by decide) ?_
      obtain ⟨o10, hq11, hf⟩ := xbind hf
      obtain ⟨hPc, hDc, hFc⟩ := xcut (wc := [(a0, .inr (2, [.ref a1, .int v1, .int v2])), (a1, .inl (cT 2, 4096, .inr (.inl f0)))]) hP hD hS hA [2, 3] rfl rfl (by decide)
      refine va_calli (va_runV (C := "ValueBench$Row") (As := [.int 0]) (rest := [.int o7, .int 0, .int 0, .ref a0, .ref a2]) ⟨hx, hb, hml, hown, htx⟩ (gR_length l hl9 D cT aK aV H.size n a0 a1 (0 : Int32) f0 v1 v2 o10 hq11) ⟨callB_of 1 htx (xw_goodC kw_2_191) rfl rfl rfl (htx _ kw_1_4) (htx _ kw_4_157) ⟨by decide, by decide, by decide +kernel⟩ ⟨Nat.le_of_ble_eq_true rfl, Nat.le_of_ble_eq_true rfl⟩, (htx _ kw_2_189), (htx _ kw_2_190)⟩ ⟨xPre_blind, va_recv hK hP (ci := 2) rfl (q0 := 2) rfl, (fun U hU hW => ⟨rfl, xPre_of hZ hS hFc hPc hDc hK U hU hW⟩)⟩ rfl rfl hl.1 rfl (lv_room (Nat.le_of_ble_eq_true rfl)) dH_withoutEnd_34 ⟨Nat.le_of_ble_eq_true rfl, Nat.le_of_ble_eq_true rfl⟩) hS (fun q _ h => hFc q h) hFc (fun r12 u9 t H1 locs ht hvm hr9 hB hz1 hk1 hS => ?_)
      obtain ⟨hP1, hK1, hD1⟩ := hB
      rw [ht] at hP1
      obtain ⟨hP, hD⟩ := xjoin (W := [(a2, .inr (2, [.ref a3, .int v4, .int v5])), (a3, .inl (cT 2, 4096, .inr (.inl f3))), (a0, .inr (2, [.ref a1, .int v1, .int v2])), (a1, .inl (cT 2, 4096, .inr (.inl f0)))]) hP hD [2, 3] [0, 1] 2 rfl rfl (by decide) (by decide) hk1 hFc hP1 hD1
      generalize H1 = H at hP hS ⊢
      rw [hr9]
      refine W.eq (g2 := F0 m 37 ls [.int o10, .int o7, .int 0, .int 0, .ref a0, .ref a2]) rfl ?_
      refine lv_isub hx hb dH_withoutEnd_37 ?_
      obtain ⟨o13, hq14, hf⟩ := xbind hf
      obtain ⟨hPc, hDc, hFc⟩ := xcut (wc := [(a2, .inr (2, [.ref a3, .int v4, .int v5])), (a3, .inl (cT 2, 4096, .inr (.inl f3))), (a0, .inr (2, [.ref a1, .int v1, .int v2])), (a1, .inl (cT 2, 4096, .inr (.inl f0)))]) hP hD hS hA [0, 1, 2, 3] rfl rfl (by decide)
      refine va_callv (va_runV (C := "ValueBench$Row") (As := [.ref a0, .int 0, .int 0, .int (o7 - o10)]) (rest := []) ⟨hx, hb, hml, hown, htx⟩ (gR_putPart l hl9 D cT aK aV H.size n a2 a3 a0 a1 (0 : Int32) (0 : Int32) (o7 - o10) f3 v4 v5 f0 v1 v2 o13 hq14) ⟨callB_of 4 htx (xw_goodC kw_3_208) rfl rfl rfl (htx _ kw_1_4) (htx _ kw_4_209) ⟨by decide, by decide, by decide +kernel⟩ ⟨Nat.le_of_ble_eq_true rfl, Nat.le_of_ble_eq_true rfl⟩, (htx _ kw_3_206), (htx _ kw_3_207)⟩ ⟨xPre_blind, va_recv hK hP (ci := 2) rfl (q0 := 0) rfl, (fun U hU hW => ⟨rfl, xPre_of hZ hS hFc hPc hDc hK U hU hW⟩)⟩ rfl rfl hl.1 rfl (lv_room (Nat.le_of_ble_eq_true rfl)) dH_withoutEnd_38 ⟨Nat.le_of_ble_eq_true rfl, Nat.le_of_ble_eq_true rfl⟩) hS (fun q _ h => hFc q h) hFc (fun u9 t H1 locs ht hvm hr9 hB hz1 hk1 hS => ?_)
      obtain ⟨hP1, hK1, hD1⟩ := hB
      rw [ht] at hP1
      obtain ⟨hP, hD⟩ := xjoin (W := [(a2, .inr (2, [.ref a3, .int o13.2.1, .int o13.2.2])), (a3, .inl (cT 2, 4096, .inr (.inl o13.1))), (a0, .inr (2, [.ref a1, .int v1, .int v2])), (a1, .inl (cT 2, 4096, .inr (.inl f0)))]) hP hD [0, 1, 2, 3] [] 0 rfl rfl (by decide) (by decide) hk1 hFc hP1 hD1
      generalize H1 = H at hP hS ⊢
      refine lv_iconst (v := 0) hx hb dH_withoutEnd_41 (by decide) ?_
      obtain rfl := Option.some.inj hf
      obtain ⟨hP9, hD9⟩ := xsub (wc := [(a0, .inr (2, [.ref a1, .int v1, .int v2])), (a1, .inl (cT 2, 4096, .inr (.inl f0))), (a2, .inr (2, [.ref a3, .int o13.2.1, .int o13.2.2])), (a3, .inl (cT 2, 4096, .inr (.inl o13.1)))]) hP hD [2, 3, 0, 1] rfl rfl (by decide)
      exact W.iret (v := (0 : Int32)) hx hb hr (fun t ht hW => ⟨⟨(0 : Int32), (), rfl, rfl, by rw [ht]; exact hP9, va_K.moved hW.alike hK, hD9⟩, hS.F ht⟩) hS.2.2 dH_withoutEnd_42
    · rw [if_pos hc] at hf
      refine lv_aload_n hx hb dH_withoutEnd_16 rfl (lv_at hl 0 rfl) ?_
      refine lv_iconst (v := 0) hx hb dH_withoutEnd_17 (by decide) ?_
      refine lv_aload_n hx hb dH_withoutEnd_18 rfl (lv_at hl 2 rfl) ?_
      obtain ⟨o7, hq8, hf⟩ := xbind hf
      obtain ⟨hPc, hDc, hFc⟩ := xcut (wc := [(a0, .inr (2, [.ref a1, .int v1, .int v2])), (a1, .inl (cT 2, 4096, .inr (.inl f0))), (a2, .inr (2, [.ref a3, .int v4, .int v5])), (a3, .inl (cT 2, 4096, .inr (.inl f3)))]) hP hD hS hA [2, 3, 0, 1] rfl rfl (by decide)
      refine va_calli (va_runS (As := [.ref a0, .int 0, .ref a2]) (rest := []) ⟨hx, hb, hml, hown, htx⟩ (gH_copy l hl9 D cT aK aV H.size n a0 a1 a2 a3 (0 : Int32) f0 v1 v2 f3 v4 v5 o7 hq8) ⟨callB_of 3 htx (xw_goodC kw_4_207) rfl rfl rfl (htx _ kw_1_27) (htx _ kw_4_205) ⟨by decide, by decide, by decide +kernel⟩ ⟨Nat.le_of_ble_eq_true rfl, Nat.le_of_ble_eq_true rfl⟩, htx _ kw_4_206⟩ ⟨xPre_blind, (fun U hU hW => ⟨rfl, xPre_of hZ hS hFc hPc hDc hK U hU hW⟩)⟩ rfl rfl hl.1 rfl (lv_room (Nat.le_of_ble_eq_true rfl)) dH_withoutEnd_19 ⟨Nat.le_of_ble_eq_true rfl, Nat.le_of_ble_eq_true rfl⟩) hS (fun q _ h => hFc q h) hFc (fun r9 u9 t H1 locs ht hvm hr9 hB hz1 hk1 hS => ?_)
      obtain ⟨hP1, hK1, hD1⟩ := hB
      rw [ht] at hP1
      obtain ⟨hP, hD⟩ := xjoin (W := [(a0, .inr (2, [.ref a1, .int v1, .int v2])), (a1, .inl (cT 2, 4096, .inr (.inl f0))), (a2, .inr (2, [.ref a3, .int o7.2.2.1, .int o7.2.2.2])), (a3, .inl (cT 2, 4096, .inr (.inl o7.2.1)))]) hP hD [2, 3, 0, 1] [] 0 rfl rfl (by decide) (by decide) hk1 hFc hP1 hD1
      generalize H1 = H at hP hS ⊢
      rw [hr9]
      refine W.eq (g2 := F0 m 22 ls [.int o7.1]) rfl ?_
      obtain rfl := Option.some.inj hf
      obtain ⟨hP9, hD9⟩ := xsub (wc := [(a0, .inr (2, [.ref a1, .int v1, .int v2])), (a1, .inl (cT 2, 4096, .inr (.inl f0))), (a2, .inr (2, [.ref a3, .int o7.2.2.1, .int o7.2.2.2])), (a3, .inl (cT 2, 4096, .inr (.inl o7.2.1)))]) hP hD [0, 1, 2, 3] rfl rfl (by decide)
      exact W.iret (v := o7.1) hx hb hr (fun t ht hW => ⟨⟨o7.1, (), rfl, rfl, by rw [ht]; exact hP9, va_K.moved hW.alike hK, hD9⟩, hS.F ht⟩) hS.2.2 dH_withoutEnd_22
set_option maxHeartbeats 400000000 in
set_option maxRecDepth 100000 in
theorem gH_areSamea (l : Launch) (hl9 : l.stackTraces = false) (D : va_G) (cT : Nat → ClassId) (aK aV : Nat → Nat) (sz d n : Nat) (a0 : Nat) (a1 : Nat) (x1 : Int32) (x3 : Int32) (x4 : Int32) (f0 : Nat → Int64) (v1 : Int32) (v2 : Int32) (out : Int32) (hf : fH_areSamea d n x1 x3 x4 f0 v1 v2 = some out) : xMet l yH_areSame wyH_areSame (16 * d + 1) 0 0 (400 * d + 24) D cT aK aV sz [.ref a0, .int x1, .ref a0, .int x3, .int x4] [(a0, .inr (2, [.ref a1, .int v1, .int v2])), (a1, .inl (cT 2, 4096, .inr (.inl f0)))] (fun A => va_Qi (fun (r : Int32) (_ : Unit) => r = out) (fun _ t => xB D xcl cT A [(a0, .inr (2, [.ref a1, .int v1, .int v2])), (a1, .inl (cT 2, 4096, .inr (.inl f0)))] t) A) := by
  refine Met.ofW (cc := prog_5_method_25_code) (maxL := 8) (ret := (some .boolean)) (by decide) rfl ?_
  intro p e s m args below meth c s₁ B hml hv
  obtain ⟨rfl, hsz, hZ, hP, hK, hD0⟩ := hv
  have hx := B.exec
  have hb := B.bytes
  have hr := B.returns
  have hts := atoms_spec (ws := wyH_areSame) B.pre
  have htx := fun w h => hts w (List.mem_cons_of_mem _ h)
  have hown : s.vm.findClass "ValueBench$Pairs" = some m.cls := findClass_of_methodNamed B.named
  have hlocks := B.notSynchronized
  subst hsz
  have hD := hD0.self (sz := s.heap.size)
  generalize hAe : va_A [(a0, .inr (2, [.ref a1, .int v1, .int v2])), (a1, .inl (cT 2, 4096, .inr (.inl f0)))] s.heap.size = A at hD hZ ⊢
  have hA : ∀ q : Nat, s.heap.size ≤ q → A q := fun q h => by rw [← hAe]; exact Or.inr h
  have hS : va_S A s.heap s.heap [] := va_S.rf
  have hP : va_P D xcl [(a0, .inr (2, [.ref a1, .int v1, .int v2])), (a1, .inl (cT 2, 4096, .inr (.inl f0)))] s.heap := hP
  have hl := lv_entry ([.ref a0, .int x1, .ref a0, .int x3, .int x4]) (n := 8) (Nat.le_of_ble_eq_true rfl)
  rw [lg_entry_eq]
  generalize (lg_sl ([.ref a0, .int x1, .ref a0, .int x3, .int x4]) ++ List.replicate (8 - (lg_sl ([.ref a0, .int x1, .ref a0, .int x3, .int x4])).length) Slot.unset).toArray = ls at hl ⊢
  have hl : lv_has ls 8 [(0, .ref a0), (1, .int x1), (2, .ref a0), (3, .int x3), (4, .int x4)] := hl
  unfold fH_areSamea at hf
  refine xloopK (σ := Nat × Int32 × Int32 × Int32 × Int32 × Int32 × Int32) (fun n x H locs ls => (x.1 = 1 ∧ fH_areSamea_b d f0 v1 v2 n x.1 x.2.1 x.2.2.1 x.2.2.2.1 x.2.2.2.2.1 x.2.2.2.2.2.1 x.2.2.2.2.2.2 = some out ∧ va_P D xcl [(a0, .inr (2, [.ref a1, .int v1, .int v2])), (a1, .inl (cT 2, 4096, .inr (.inl f0)))] H ∧ va_D A [(a0, .inr (2, [.ref a1, .int v1, .int v2])), (a1, .inl (cT 2, 4096, .inr (.inl f0)))] ∧ va_S A s.heap H locs ∧ lv_has ls 8 [(7, .int x.2.1), (6, .int x.2.2.1), (5, .int x.2.2.2.1), (0, .ref a0), (1, .int x.2.2.2.2.1), (2, .ref a0), (3, .int x.2.2.2.2.2.1), (4, .int x.2.2.2.2.2.2)])) (fun x => 9) (fun x H locs ls h => by exact absurd h.2.1 (by rw [fH_areSamea_b]; exact fun h => nomatch h)) (fun n ih x H locs ls hv => ?_) (fun key => ?_)
  · obtain ⟨lb, y7, y6, y5, y1, y3, y4⟩ := x
    rcases hv with ⟨hj, hf, hP, hD, hS, hl⟩
    subst hj
    have hf : fH_areSamea_b d f0 v1 v2 (n + 1) 1 y7 y6 y5 y1 y3 y4 = some out := hf
    rw [fH_areSamea_b] at hf
    obtain ⟨hP, hD⟩ : xPD D xcl A [(a0, .inr (2, [.ref a1, .int v1, .int v2])), (a1, .inl (cT 2, 4096, .inr (.inl f0)))] H := ⟨hP, hD⟩
    have hl : lv_has ls 8 [(7, .int y7), (6, .int y6), (5, .int y5), (0, .ref a0), (1, .int y1), (2, .ref a0), (3, .int y3), (4, .int y4)] := hl
    refine W.eq (g2 := F0 m 9 ls []) rfl ?_
    refine lv_iload hx hb dH_areSame_9 (lv_at hl 0 rfl) ?_
    refine lv_iload hx hb dH_areSame_11 (lv_at hl 7 rfl) ?_
    refine lv_icmp_ge (tgt := 69) hx hb dH_areSame_13 (by decide) (fun hc => ?_) (fun hc => ?_)
    · rw [if_pos hc] at hf
      refine lv_iconst (v := 1) hx hb dH_areSame_69 (by decide) ?_
      obtain rfl := Option.some.inj hf
      obtain ⟨hP9, hD9⟩ := xsub (wc := [(a0, .inr (2, [.ref a1, .int v1, .int v2])), (a1, .inl (cT 2, 4096, .inr (.inl f0)))]) hP hD [0, 1] rfl rfl (by decide)
      exact W.zret (v := (1 : Int32)) hx hb hr rfl (fun t ht hW => ⟨⟨(1 : Int32), (), rfl, rfl, by rw [ht]; exact hP9, va_K.moved hW.alike hK, hD9⟩, hS.F ht⟩) hS.2.2 dH_areSame_70
    · rw [if_neg hc] at hf
      refine lv_aload_n hx hb dH_areSame_16 rfl (lv_at hl 3 rfl) ?_
      refine lv_iload hx hb dH_areSame_17 (lv_at hl 2 rfl) ?_
      obtain ⟨o1, hq2, hf⟩ := xbind hf
      obtain ⟨hPc, hDc, hFc⟩ := xcut (wc := [(a0, .inr (2, [.ref a1, .int v1, .int v2])), (a1, .inl (cT 2, 4096, .inr (.inl f0)))]) hP hD hS hA [0, 1] rfl rfl (by decide)
      refine va_calll (va_runV (C := "ValueBench$Row") (As := [.int y5]) (rest := []) ⟨hx, hb, hml, hown, htx⟩ (gR_cell l hl9 D cT aK aV H.size n a0 a1 y5 f0 v1 v2 o1 hq2) ⟨callB_of 1 htx (xw_goodC kw_2_202) rfl rfl rfl (htx _ kw_1_4) (htx _ kw_4_185) ⟨by decide, by decide, by decide +kernel⟩ ⟨Nat.le_of_ble_eq_true rfl, Nat.le_of_ble_eq_true rfl⟩, (htx _ kw_2_200), (htx _ kw_2_201)⟩ ⟨xPre_blind, va_recv hK hP (ci := 2) rfl (q0 := 0) rfl, (fun U hU hW => ⟨rfl, xPre_of hZ hS hFc hPc hDc hK U hU hW⟩)⟩ rfl rfl hl.1 rfl (lv_room (Nat.le_of_ble_eq_true rfl)) dH_areSame_19 ⟨Nat.le_of_ble_eq_true rfl, Nat.le_of_ble_eq_true rfl⟩) hS (fun q _ h => hFc q h) hFc (fun r3 u9 t H1 locs ht hvm hr9 hB hz1 hk1 hS => ?_)
      obtain ⟨hP1, hK1, hD1⟩ := hB
      rw [ht] at hP1
      obtain ⟨hP, hD⟩ := xjoin (W := [(a0, .inr (2, [.ref a1, .int v1, .int v2])), (a1, .inl (cT 2, 4096, .inr (.inl f0)))]) hP hD [0, 1] [] 0 rfl rfl (by decide) (by decide) hk1 hFc hP1 hD1
      generalize H1 = H at hP hS ⊢
      rw [hr9]
      refine W.eq (g2 := F0 m 22 ls [.long o1]) rfl ?_
      refine lv_aload_n hx hb dH_areSame_22 rfl (lv_at hl 5 rfl) ?_
      refine lv_iload hx hb dH_areSame_23 (lv_at hl 1 rfl) ?_
      obtain ⟨o4, hq5, hf⟩ := xbind hf
      obtain ⟨hPc, hDc, hFc⟩ := xcut (wc := [(a0, .inr (2, [.ref a1, .int v1, .int v2])), (a1, .inl (cT 2, 4096, .inr (.inl f0)))]) hP hD hS hA [0, 1] rfl rfl (by decide)
      refine va_calll (va_runV (C := "ValueBench$Row") (As := [.int y6]) (rest := [.long o1]) ⟨hx, hb, hml, hown, htx⟩ (gR_cell l hl9 D cT aK aV H.size n a0 a1 y6 f0 v1 v2 o4 hq5) ⟨callB_of 1 htx (xw_goodC kw_2_202) rfl rfl rfl (htx _ kw_1_4) (htx _ kw_4_185) ⟨by decide, by decide, by decide +kernel⟩ ⟨Nat.le_of_ble_eq_true rfl, Nat.le_of_ble_eq_true rfl⟩, (htx _ kw_2_200), (htx _ kw_2_201)⟩ ⟨xPre_blind, va_recv hK hP (ci := 2) rfl (q0 := 0) rfl, (fun U hU hW => ⟨rfl, xPre_of hZ hS hFc hPc hDc hK U hU hW⟩)⟩ rfl rfl hl.1 rfl (lv_room (Nat.le_of_ble_eq_true rfl)) dH_areSame_25 ⟨Nat.le_of_ble_eq_true rfl, Nat.le_of_ble_eq_true rfl⟩) hS (fun q _ h => hFc q h) hFc (fun r6 u9 t H1 locs ht hvm hr9 hB hz1 hk1 hS => ?_)
      obtain ⟨hP1, hK1, hD1⟩ := hB
      rw [ht] at hP1
      obtain ⟨hP, hD⟩ := xjoin (W := [(a0, .inr (2, [.ref a1, .int v1, .int v2])), (a1, .inl (cT 2, 4096, .inr (.inl f0)))]) hP hD [0, 1] [] 0 rfl rfl (by decide) (by decide) hk1 hFc hP1 hD1
      generalize H1 = H at hP hS ⊢
      rw [hr9]
      refine W.eq (g2 := F0 m 28 ls [.long o4, .long o1]) rfl ?_
      refine W.lcmp hx hb dH_areSame_28 ?_
      refine lv_if_ne (tgt := 45) hx hb dH_areSame_29 (by decide) (fun hc => ?_) (fun hc => ?_)
      · rw [if_neg hc] at hf
        refine lv_iconst (v := 0) hx hb dH_areSame_45 (by decide) ?_
        obtain rfl := Option.some.inj hf
        obtain ⟨hP9, hD9⟩ := xsub (wc := [(a0, .inr (2, [.ref a1, .int v1, .int v2])), (a1, .inl (cT 2, 4096, .inr (.inl f0)))]) hP hD [0, 1] rfl rfl (by decide)
        exact W.zret (v := (0 : Int32)) hx hb hr rfl (fun t ht hW => ⟨⟨(0 : Int32), (), rfl, rfl, by rw [ht]; exact hP9, va_K.moved hW.alike hK, hD9⟩, hS.F ht⟩) hS.2.2 dH_areSame_46
      · rw [if_pos hc] at hf
        refine lv_aload_n hx hb dH_areSame_32 rfl (lv_at hl 3 rfl) ?_
        refine lv_iload hx hb dH_areSame_33 (lv_at hl 2 rfl) ?_
        refine lv_aload_n hx hb dH_areSame_35 rfl (lv_at hl 5 rfl) ?_
        refine lv_iload hx hb dH_areSame_36 (lv_at hl 1 rfl) ?_
        refine lv_iconst (v := 0) hx hb dH_areSame_38 (by decide) ?_
        obtain ⟨o7, hq8, hf⟩ := xbind hf
        obtain ⟨hPc, hDc, hFc⟩ := xcut (wc := [(a0, .inr (2, [.ref a1, .int v1, .int v2])), (a1, .inl (cT 2, 4096, .inr (.inl f0)))]) hP hD hS hA [0, 1] rfl rfl (by decide)
        refine va_calli (va_runS (As := [.ref a0, .int y5, .ref a0, .int y6, .int 0]) (rest := []) ⟨hx, hb, hml, hown, htx⟩ (gO_ofa l hl9 D cT aK aV d H.size n a0 a1 y5 y6 (0 : Int32) f0 v1 v2 o7 hq8) ⟨callB_of 5 htx (xw_goodC kw_3_165) rfl rfl rfl (htx _ kw_1_23) (htx _ kw_4_234) ⟨by decide, by decide, by decide +kernel⟩ ⟨(by show (16 * d) + 1 ≤ 16 * d + 1; omega), (by show 8 + (5 + 11) + (400 * d) ≤ 400 * d + 24; omega)⟩, htx _ kw_3_164⟩ ⟨xPre_blind, (fun U hU hW => ⟨rfl, xPre_of hZ hS hFc hPc hDc hK U hU hW⟩)⟩ rfl rfl hl.1 rfl (lv_room (Nat.le_of_ble_eq_true rfl)) dH_areSame_39 ⟨Nat.le_of_ble_eq_true rfl, Nat.le_of_ble_eq_true rfl⟩) hS (fun q _ h => hFc q h) hFc (fun r9 u9 t H1 locs ht hvm hr9 hB hz1 hk1 hS => ?_)
        obtain ⟨hP1, hK1, hD1⟩ := hB
        rw [ht] at hP1
        obtain ⟨hP, hD⟩ := xjoin (W := [(a0, .inr (2, [.ref a1, .int v1, .int v2])), (a1, .inl (cT 2, 4096, .inr (.inl f0)))]) hP hD [0, 1] [] 0 rfl rfl (by decide) (by decide) hk1 hFc hP1 hD1
        generalize H1 = H at hP hS ⊢
        rw [hr9]
        refine W.eq (g2 := F0 m 42 ls [.int o7]) rfl ?_
        refine lv_if_eq (tgt := 47) hx hb dH_areSame_42 (by decide) (fun hc => ?_) (fun hc => ?_)
        · rw [if_pos hc] at hf
          refine lv_aload_n hx hb dH_areSame_47 rfl (lv_at hl 3 rfl) ?_
          refine lv_iload hx hb dH_areSame_48 (lv_at hl 2 rfl) ?_
          obtain ⟨o10, hq11, hf⟩ := xbind hf
          obtain ⟨hPc, hDc, hFc⟩ := xcut (wc := [(a0, .inr (2, [.ref a1, .int v1, .int v2])), (a1, .inl (cT 2, 4096, .inr (.inl f0)))]) hP hD hS hA [0, 1] rfl rfl (by decide)
          refine va_calli (va_runV (C := "ValueBench$Row") (As := [.int y5]) (rest := []) ⟨hx, hb, hml, hown, htx⟩ (gR_after l hl9 D cT aK aV H.size n a0 a1 y5 f0 v1 v2 o10 hq11) ⟨callB_of 1 htx (xw_goodC kw_2_196) rfl rfl rfl (htx _ kw_1_4) (htx _ kw_4_181) ⟨by decide, by decide, by decide +kernel⟩ ⟨Nat.le_of_ble_eq_true rfl, Nat.le_of_ble_eq_true rfl⟩, (htx _ kw_2_194), (htx _ kw_2_195)⟩ ⟨xPre_blind, va_recv hK hP (ci := 2) rfl (q0 := 0) rfl, (fun U hU hW => ⟨rfl, xPre_of hZ hS hFc hPc hDc hK U hU hW⟩)⟩ rfl rfl hl.1 rfl (lv_room (Nat.le_of_ble_eq_true rfl)) dH_areSame_50 ⟨Nat.le_of_ble_eq_true rfl, Nat.le_of_ble_eq_true rfl⟩) hS (fun q _ h => hFc q h) hFc (fun r12 u9 t H1 locs ht hvm hr9 hB hz1 hk1 hS => ?_)
          obtain ⟨hP1, hK1, hD1⟩ := hB
          rw [ht] at hP1
          obtain ⟨hP, hD⟩ := xjoin (W := [(a0, .inr (2, [.ref a1, .int v1, .int v2])), (a1, .inl (cT 2, 4096, .inr (.inl f0)))]) hP hD [0, 1] [] 0 rfl rfl (by decide) (by decide) hk1 hFc hP1 hD1
          generalize H1 = H at hP hS ⊢
          rw [hr9]
          refine W.eq (g2 := F0 m 53 ls [.int o10]) rfl ?_
          refine lv_istore (lv' := [(5, .int o10), (7, .int y7), (6, .int y6), (0, .ref a0), (1, .int y1), (2, .ref a0), (3, .int y3), (4, .int y4)]) hx hb dH_areSame_53 hl (by decide) rfl (fun ls hl => ?_)
          refine lv_aload_n hx hb dH_areSame_55 rfl (lv_at hl 5 rfl) ?_
          refine lv_iload hx hb dH_areSame_56 (lv_at hl 2 rfl) ?_
          obtain ⟨o13, hq14, hf⟩ := xbind hf
          obtain ⟨hPc, hDc, hFc⟩ := xcut (wc := [(a0, .inr (2, [.ref a1, .int v1, .int v2])), (a1, .inl (cT 2, 4096, .inr (.inl f0)))]) hP hD hS hA [0, 1] rfl rfl (by decide)
          refine va_calli (va_runV (C := "ValueBench$Row") (As := [.int y6]) (rest := []) ⟨hx, hb, hml, hown, htx⟩ (gR_after l hl9 D cT aK aV H.size n a0 a1 y6 f0 v1 v2 o13 hq14) ⟨callB_of 1 htx (xw_goodC kw_2_196) rfl rfl rfl (htx _ kw_1_4) (htx _ kw_4_181) ⟨by decide, by decide, by decide +kernel⟩ ⟨Nat.le_of_ble_eq_true rfl, Nat.le_of_ble_eq_true rfl⟩, (htx _ kw_2_194), (htx _ kw_2_195)⟩ ⟨xPre_blind, va_recv hK hP (ci := 2) rfl (q0 := 0) rfl, (fun U hU hW => ⟨rfl, xPre_of hZ hS hFc hPc hDc hK U hU hW⟩)⟩ rfl rfl hl.1 rfl (lv_room (Nat.le_of_ble_eq_true rfl)) dH_areSame_58 ⟨Nat.le_of_ble_eq_true rfl, Nat.le_of_ble_eq_true rfl⟩) hS (fun q _ h => hFc q h) hFc (fun r15 u9 t H1 locs ht hvm hr9 hB hz1 hk1 hS => ?_)
          obtain ⟨hP1, hK1, hD1⟩ := hB
          rw [ht] at hP1
          obtain ⟨hP, hD⟩ := xjoin (W := [(a0, .inr (2, [.ref a1, .int v1, .int v2])), (a1, .inl (cT 2, 4096, .inr (.inl f0)))]) hP hD [0, 1] [] 0 rfl rfl (by decide) (by decide) hk1 hFc hP1 hD1
          generalize H1 = H at hP hS ⊢
          rw [hr9]
          refine W.eq (g2 := F0 m 61 ls [.int o13]) rfl ?_
          refine lv_istore (lv' := [(6, .int o13), (5, .int o10), (7, .int y7), (0, .ref a0), (1, .int y1), (2, .ref a0), (3, .int y3), (4, .int y4)]) hx hb dH_areSame_61 hl (by decide) rfl (fun ls hl => ?_)
          refine lv_iinc (v := (y7 + 1)) (lv' := [(7, .int (y7 + 1)), (6, .int o13), (5, .int o10), (0, .ref a0), (1, .int y1), (2, .ref a0), (3, .int y3), (4, .int y4)]) hx hb dH_areSame_63 hl (k := 2) rfl rfl (by decide) rfl (fun ls hl => ?_)
          refine lv_goto (tgt := 9) hx hb dH_areSame_66 (by decide) ?_
          obtain ⟨hP9, hD9⟩ := xsub (wc := [(a0, .inr (2, [.ref a1, .int v1, .int v2])), (a1, .inl (cT 2, 4096, .inr (.inl f0)))]) hP hD [0, 1] rfl rfl (by decide)
          exact ih (1, (y7 + 1), o13, o10, y1, y3, y4) _ _ ls (⟨rfl, hf, hP9, hD9, hS, lv_sub hl [0, 1, 2, 3, 4, 5, 6, 7] rfl⟩)
        · rw [if_neg hc] at hf
          refine lv_iconst (v := 0) hx hb dH_areSame_45 (by decide) ?_
          obtain rfl := Option.some.inj hf
          obtain ⟨hP9, hD9⟩ := xsub (wc := [(a0, .inr (2, [.ref a1, .int v1, .int v2])), (a1, .inl (cT 2, 4096, .inr (.inl f0)))]) hP hD [0, 1] rfl rfl (by decide)
          exact W.zret (v := (0 : Int32)) hx hb hr rfl (fun t ht hW => ⟨⟨(0 : Int32), (), rfl, rfl, by rw [ht]; exact hP9, va_K.moved hW.alike hK, hD9⟩, hS.F ht⟩) hS.2.2 dH_areSame_46
  refine lv_iload_n hx hb dH_areSame_0 rfl (lv_at hl 1 rfl) ?_
  refine lv_istore (lv' := [(5, .int x1), (0, .ref a0), (1, .int x1), (2, .ref a0), (3, .int x3), (4, .int x4)]) hx hb dH_areSame_1 hl (by decide) rfl (fun ls hl => ?_)
  refine lv_iload_n hx hb dH_areSame_3 rfl (lv_at hl 4 rfl) ?_
  refine lv_istore (lv' := [(6, .int x3), (5, .int x1), (0, .ref a0), (1, .int x1), (2, .ref a0), (3, .int x3), (4, .int x4)]) hx hb dH_areSame_4 hl (by decide) rfl (fun ls hl => ?_)
  refine lv_iconst (v := 0) hx hb dH_areSame_6 (by decide) ?_
  refine lv_istore (lv' := [(7, .int 0), (6, .int x3), (5, .int x1), (0, .ref a0), (1, .int x1), (2, .ref a0), (3, .int x3), (4, .int x4)]) hx hb dH_areSame_7 hl (by decide) rfl (fun ls hl => ?_)
  obtain ⟨hP9, hD9⟩ := xsub (wc := [(a0, .inr (2, [.ref a1, .int v1, .int v2])), (a1, .inl (cT 2, 4096, .inr (.inl f0)))]) hP hD [0, 1] rfl rfl (by decide)
  exact key n (1, 0, x3, x1, x1, x3, x4) _ _ ls (⟨rfl, hf, hP9, hD9, hS, lv_sub hl [0, 1, 2, 3, 4, 5, 6, 7] rfl⟩)
set_option maxHeartbeats 400000000 in
set_option maxRecDepth 100000 in
theorem gH_putArrayIndicesa (l : Launch) (hl9 : l.stackTraces = false) (D : va_G) (cT : Nat → ClassId) (aK aV : Nat → Nat) (sz d n : Nat) (a0 : Nat) (a1 : Nat) (a2 : Nat) (a3 : Nat) (x2 : Int32) (f0 : Nat → Int64) (v1 : Int32) (v2 : Int32) (f3 : Nat → Int64) (v4 : Int32) (v5 : Int32) (out : Int32 × (Nat → Int64) × Int32 × Int32) (hf : fH_putArrayIndicesa d n x2 f0 v1 v2 f3 v4 v5 = some out) : xMet l yH_putArrayIndices wyH_putArrayIndices (16 * d + 2) 0 0 (400 * d + 51) D cT aK aV sz [.ref a0, .ref a0, .int x2, .ref a2] [(a0, .inr (2, [.ref a1, .int v1, .int v2])), (a1, .inl (cT 2, 4096, .inr (.inl f0))), (a2, .inr (2, [.ref a3, .int v4, .int v5])), (a3, .inl (cT 2, 4096, .inr (.inl f3)))] (fun A => va_Qi (fun (r : Int32) (_ : Unit) => r = out.1) (fun _ t => xB D xcl cT A [(a0, .inr (2, [.ref a1, .int v1, .int v2])), (a1, .inl (cT 2, 4096, .inr (.inl f0))), (a2, .inr (2, [.ref a3, .int out.2.2.1, .int out.2.2.2])), (a3, .inl (cT 2, 4096, .inr (.inl out.2.1)))] t) A) := by
  refine Met.ofW (cc := prog_5_method_24_code) (maxL := 9) (ret := (some .int)) (by decide) rfl ?_
  intro p e s m args below meth c s₁ B hml hv
  obtain ⟨rfl, hsz, hZ, hP, hK, hD0⟩ := hv
  have hx := B.exec
  have hb := B.bytes
  have hr := B.returns
  have hts := atoms_spec (ws := wyH_putArrayIndices) B.pre
  have htx := fun w h => hts w (List.mem_cons_of_mem _ h)
  have hown : s.vm.findClass "ValueBench$Pairs" = some m.cls := findClass_of_methodNamed B.named
  have hlocks := B.notSynchronized
  subst hsz
  have hD := hD0.self (sz := s.heap.size)
  generalize hAe : va_A [(a0, .inr (2, [.ref a1, .int v1, .int v2])), (a1, .inl (cT 2, 4096, .inr (.inl f0))), (a2, .inr (2, [.ref a3, .int v4, .int v5])), (a3, .inl (cT 2, 4096, .inr (.inl f3)))] s.heap.size = A at hD hZ ⊢
  have hA : ∀ q : Nat, s.heap.size ≤ q → A q := fun q h => by rw [← hAe]; exact Or.inr h
  have hS : va_S A s.heap s.heap [] := va_S.rf
  have hP : va_P D xcl [(a0, .inr (2, [.ref a1, .int v1, .int v2])), (a1, .inl (cT 2, 4096, .inr (.inl f0))), (a2, .inr (2, [.ref a3, .int v4, .int v5])), (a3, .inl (cT 2, 4096, .inr (.inl f3)))] s.heap := hP
  have hl := lv_entry ([.ref a0, .ref a0, .int x2, .ref a2]) (n := 9) (Nat.le_of_ble_eq_true rfl)
  rw [lg_entry_eq]
  generalize (lg_sl ([.ref a0, .ref a0, .int x2, .ref a2]) ++ List.replicate (9 - (lg_sl ([.ref a0, .ref a0, .int x2, .ref a2])).length) Slot.unset).toArray = ls at hl ⊢
  have hl : lv_has ls 9 [(0, .ref a0), (1, .ref a0), (2, .int x2), (3, .ref a2)] := hl
  unfold fH_putArrayIndicesa at hf
  refine xloopK (σ := Nat × Int32 × Int32 × Int32 × Int32 × Int32 × Int32 × (Nat → Int64) × Int32 × Int32) (fun n x H locs ls => (x.1 = 1 ∧ fH_putArrayIndicesa_b d f0 v1 v2 n x.1 x.2.1 x.2.2.1 x.2.2.2.1 x.2.2.2.2.1 x.2.2.2.2.2.1 x.2.2.2.2.2.2.1 x.2.2.2.2.2.2.2.1 x.2.2.2.2.2.2.2.2.1 x.2.2.2.2.2.2.2.2.2 = some out ∧ va_P D xcl [(a0, .inr (2, [.ref a1, .int v1, .int v2])), (a1, .inl (cT 2, 4096, .inr (.inl f0))), (a2, .inr (2, [.ref a3, .int x.2.2.2.2.2.2.2.2.1, .int x.2.2.2.2.2.2.2.2.2])), (a3, .inl (cT 2, 4096, .inr (.inl x.2.2.2.2.2.2.2.1)))] H ∧ va_D A [(a0, .inr (2, [.ref a1, .int v1, .int v2])), (a1, .inl (cT 2, 4096, .inr (.inl f0))), (a2, .inr (2, [.ref a3, .int x.2.2.2.2.2.2.2.2.1, .int x.2.2.2.2.2.2.2.2.2])), (a3, .inl (cT 2, 4096, .inr (.inl x.2.2.2.2.2.2.2.1)))] ∧ va_S A s.heap H locs ∧ lv_has ls 9 [(8, .int x.2.1), (7, .int x.2.2.1), (6, .int x.2.2.2.1), (5, .int x.2.2.2.2.1), (4, .int x.2.2.2.2.2.1), (0, .ref a0), (1, .ref a0), (2, .int x.2.2.2.2.2.2.1), (3, .ref a2)])) (fun x => 35) (fun x H locs ls h => by exact absurd h.2.1 (by rw [fH_putArrayIndicesa_b]; exact fun h => nomatch h)) (fun n ih x H locs ls hv => ?_) (fun key => ?_)
  · obtain ⟨lb, y8, y7, y6, y5, y4, y2, w0, w1, w2⟩ := x
    rcases hv with ⟨hj, hf, hP, hD, hS, hl⟩
    subst hj
    have hf : fH_putArrayIndicesa_b d f0 v1 v2 (n + 1) 1 y8 y7 y6 y5 y4 y2 w0 w1 w2 = some out := hf
    rw [fH_putArrayIndicesa_b] at hf
    obtain ⟨hP, hD⟩ : xPD D xcl A [(a0, .inr (2, [.ref a1, .int v1, .int v2])), (a1, .inl (cT 2, 4096, .inr (.inl f0))), (a2, .inr (2, [.ref a3, .int w1, .int w2])), (a3, .inl (cT 2, 4096, .inr (.inl w0)))] H := ⟨hP, hD⟩
    have hl : lv_has ls 9 [(8, .int y8), (7, .int y7), (6, .int y6), (5, .int y5), (4, .int y4), (0, .ref a0), (1, .ref a0), (2, .int y2), (3, .ref a2)] := hl
    refine W.eq (g2 := F0 m 35 ls []) rfl ?_
    refine lv_iload hx hb dH_putArrayIndices_35 (lv_at hl 0 rfl) ?_
    refine lv_iload hx hb dH_putArrayIndices_37 (lv_at hl 3 rfl) ?_
    refine lv_iadd hx hb dH_putArrayIndices_39 ?_
    refine lv_aload_n hx hb dH_putArrayIndices_40 rfl (lv_at hl 5 rfl) ?_
    refine lv_iconst (v := 0) hx hb dH_putArrayIndices_41 (by decide) ?_
    obtain ⟨o1, hq2, hf⟩ := xbind hf
    obtain ⟨hPc, hDc, hFc⟩ := xcut (wc := [(a0, .inr (2, [.ref a1, .int v1, .int v2])), (a1, .inl (cT 2, 4096, .inr (.inl f0)))]) hP hD hS hA [0, 1] rfl rfl (by decide)
    refine va_calli (va_runV (C := "ValueBench$Row") (As := [.int 0]) (rest := [.int (y8 + y5)]) ⟨hx, hb, hml, hown, htx⟩ (gR_length l hl9 D cT aK aV H.size n a0 a1 (0 : Int32) f0 v1 v2 o1 hq2) ⟨callB_of 1 htx (xw_goodC kw_2_191) rfl rfl rfl (htx _ kw_1_4) (htx _ kw_4_157) ⟨by decide, by decide, by decide +kernel⟩ ⟨Nat.le_of_ble_eq_true rfl, Nat.le_of_ble_eq_true rfl⟩, (htx _ kw_2_189), (htx _ kw_2_190)⟩ ⟨xPre_blind, va_recv hK hP (ci := 2) rfl (q0 := 0) rfl, (fun U hU hW => ⟨rfl, xPre_of hZ hS hFc hPc hDc hK U hU hW⟩)⟩ rfl rfl hl.1 rfl (lv_room (Nat.le_of_ble_eq_true rfl)) dH_putArrayIndices_42 ⟨Nat.le_of_ble_eq_true rfl, Nat.le_of_ble_eq_true rfl⟩) hS (fun q _ h => hFc q h) hFc (fun r3 u9 t H1 locs ht hvm hr9 hB hz1 hk1 hS => ?_)
    obtain ⟨hP1, hK1, hD1⟩ := hB
    rw [ht] at hP1
    obtain ⟨hP, hD⟩ := xjoin (W := [(a2, .inr (2, [.ref a3, .int w1, .int w2])), (a3, .inl (cT 2, 4096, .inr (.inl w0))), (a0, .inr (2, [.ref a1, .int v1, .int v2])), (a1, .inl (cT 2, 4096, .inr (.inl f0)))]) hP hD [0, 1] [2, 3] 2 rfl rfl (by decide) (by decide) hk1 hFc hP1 hD1
    generalize H1 = H at hP hS ⊢
    rw [hr9]
    refine W.eq (g2 := F0 m 45 ls [.int o1, .int (y8 + y5)]) rfl ?_
    refine lv_icmp_gt (tgt := 86) hx hb dH_putArrayIndices_45 (by decide) (fun hc => ?_) (fun hc => ?_)
    · rw [if_pos hc] at hf
      refine lv_iload hx hb dH_putArrayIndices_86 (lv_at hl 2 rfl) ?_
      obtain rfl := Option.some.inj hf
      obtain ⟨hP9, hD9⟩ := xsub (wc := [(a0, .inr (2, [.ref a1, .int v1, .int v2])), (a1, .inl (cT 2, 4096, .inr (.inl f0))), (a2, .inr (2, [.ref a3, .int w1, .int w2])), (a3, .inl (cT 2, 4096, .inr (.inl w0)))]) hP hD [2, 3, 0, 1] rfl rfl (by decide)
      exact W.iret (v := y6) hx hb hr (fun t ht hW => ⟨⟨y6, (), rfl, rfl, by rw [ht]; exact hP9, va_K.moved hW.alike hK, hD9⟩, hS.F ht⟩) hS.2.2 dH_putArrayIndices_88
    · rw [if_neg hc] at hf
      refine lv_aload_n hx hb dH_putArrayIndices_48 rfl (lv_at hl 5 rfl) ?_
      refine lv_iload hx hb dH_putArrayIndices_49 (lv_at hl 1 rfl) ?_
      refine lv_aload_n hx hb dH_putArrayIndices_51 rfl (lv_at hl 6 rfl) ?_
      refine lv_iload hx hb dH_putArrayIndices_52 (lv_at hl 4 rfl) ?_
      refine lv_iload hx hb dH_putArrayIndices_54 (lv_at hl 3 rfl) ?_
      obtain ⟨o4, hq5, hf⟩ := xbind hf
      obtain ⟨hPc, hDc, hFc⟩ := xcut (wc := [(a0, .inr (2, [.ref a1, .int v1, .int v2])), (a1, .inl (cT 2, 4096, .inr (.inl f0)))]) hP hD hS hA [2, 3] rfl rfl (by decide)
      refine va_calli (va_runS (As := [.ref a0, .int y7, .ref a0, .int y4, .int y5]) (rest := []) ⟨hx, hb, hml, hown, htx⟩ (gH_areSamea l hl9 D cT aK aV H.size d n a0 a1 y7 y4 y5 f0 v1 v2 o4 hq5) ⟨callB_of 5 htx (xw_goodC kw_4_233) rfl rfl rfl (htx _ kw_1_27) (htx _ kw_4_231) ⟨by decide, by decide, by decide +kernel⟩ ⟨(by show (16 * d + 1) + 1 ≤ 16 * d + 2; omega), (by show 8 + (8 + 11) + (400 * d + 24) ≤ 400 * d + 51; omega)⟩, htx _ kw_4_232⟩ ⟨xPre_blind, (fun U hU hW => ⟨rfl, xPre_of hZ hS hFc hPc hDc hK U hU hW⟩)⟩ rfl rfl hl.1 rfl (lv_room (Nat.le_of_ble_eq_true rfl)) dH_putArrayIndices_56 ⟨Nat.le_of_ble_eq_true rfl, Nat.le_of_ble_eq_true rfl⟩) hS (fun q _ h => hFc q h) hFc (fun r6 u9 t H1 locs ht hvm hr9 hB hz1 hk1 hS => ?_)
      obtain ⟨hP1, hK1, hD1⟩ := hB
      rw [ht] at hP1
      obtain ⟨hP, hD⟩ := xjoin (W := [(a2, .inr (2, [.ref a3, .int w1, .int w2])), (a3, .inl (cT 2, 4096, .inr (.inl w0))), (a0, .inr (2, [.ref a1, .int v1, .int v2])), (a1, .inl (cT 2, 4096, .inr (.inl f0)))]) hP hD [2, 3] [0, 1] 2 rfl rfl (by decide) (by decide) hk1 hFc hP1 hD1
      generalize H1 = H at hP hS ⊢
      rw [hr9]
      refine W.eq (g2 := F0 m 59 ls [.int o4]) rfl ?_
      refine lv_if_eq (tgt := 72) hx hb dH_putArrayIndices_59 (by decide) (fun hc => ?_) (fun hc => ?_)
      · rw [if_pos hc] at hf
        refine lv_aload_n hx hb dH_putArrayIndices_72 rfl (lv_at hl 5 rfl) ?_
        refine lv_iload hx hb dH_putArrayIndices_73 (lv_at hl 1 rfl) ?_
        obtain ⟨o7, hq8, hf⟩ := xbind hf
        obtain ⟨hPc, hDc, hFc⟩ := xcut (wc := [(a0, .inr (2, [.ref a1, .int v1, .int v2])), (a1, .inl (cT 2, 4096, .inr (.inl f0)))]) hP hD hS hA [2, 3] rfl rfl (by decide)
        refine va_calli (va_runV (C := "ValueBench$Row") (As := [.int y7]) (rest := []) ⟨hx, hb, hml, hown, htx⟩ (gR_after l hl9 D cT aK aV H.size n a0 a1 y7 f0 v1 v2 o7 hq8) ⟨callB_of 1 htx (xw_goodC kw_2_196) rfl rfl rfl (htx _ kw_1_4) (htx _ kw_4_181) ⟨by decide, by decide, by decide +kernel⟩ ⟨Nat.le_of_ble_eq_true rfl, Nat.le_of_ble_eq_true rfl⟩, (htx _ kw_2_194), (htx _ kw_2_195)⟩ ⟨xPre_blind, va_recv hK hP (ci := 2) rfl (q0 := 2) rfl, (fun U hU hW => ⟨rfl, xPre_of hZ hS hFc hPc hDc hK U hU hW⟩)⟩ rfl rfl hl.1 rfl (lv_room (Nat.le_of_ble_eq_true rfl)) dH_putArrayIndices_75 ⟨Nat.le_of_ble_eq_true rfl, Nat.le_of_ble_eq_true rfl⟩) hS (fun q _ h => hFc q h) hFc (fun r9 u9 t H1 locs ht hvm hr9 hB hz1 hk1 hS => ?_)
        obtain ⟨hP1, hK1, hD1⟩ := hB
        rw [ht] at hP1
        obtain ⟨hP, hD⟩ := xjoin (W := [(a2, .inr (2, [.ref a3, .int w1, .int w2])), (a3, .inl (cT 2, 4096, .inr (.inl w0))), (a0, .inr (2, [.ref a1, .int v1, .int v2])), (a1, .inl (cT 2, 4096, .inr (.inl f0)))]) hP hD [2, 3] [0, 1] 2 rfl rfl (by decide) (by decide) hk1 hFc hP1 hD1
        generalize H1 = H at hP hS ⊢
        rw [hr9]
        refine W.eq (g2 := F0 m 78 ls [.int o7]) rfl ?_
        refine lv_istore (lv' := [(7, .int o7), (8, .int y8), (6, .int y6), (5, .int y5), (4, .int y4), (0, .ref a0), (1, .ref a0), (2, .int y2), (3, .ref a2)]) hx hb dH_putArrayIndices_78 hl (by decide) rfl (fun ls hl => ?_)
        refine lv_iinc (v := (y8 + 1)) (lv' := [(8, .int (y8 + 1)), (7, .int o7), (6, .int y6), (5, .int y5), (4, .int y4), (0, .ref a0), (1, .ref a0), (2, .int y2), (3, .ref a2)]) hx hb dH_putArrayIndices_80 hl (k := 1) rfl rfl (by decide) rfl (fun ls hl => ?_)
        refine lv_goto (tgt := 35) hx hb dH_putArrayIndices_83 (by decide) ?_
        obtain ⟨hP9, hD9⟩ := xsub (wc := [(a0, .inr (2, [.ref a1, .int v1, .int v2])), (a1, .inl (cT 2, 4096, .inr (.inl f0))), (a2, .inr (2, [.ref a3, .int w1, .int w2])), (a3, .inl (cT 2, 4096, .inr (.inl w0)))]) hP hD [2, 3, 0, 1] rfl rfl (by decide)
        exact ih (1, (y8 + 1), o7, y6, y5, y4, y2, w0, w1, w2) _ _ ls (⟨rfl, hf, hP9, hD9, hS, lv_sub hl [0, 1, 2, 3, 4, 5, 6, 7, 8] rfl⟩)
      · rw [if_neg hc] at hf
        refine lv_aload_n hx hb dH_putArrayIndices_62 rfl (lv_at hl 8 rfl) ?_
        refine lv_iload hx hb dH_putArrayIndices_63 (lv_at hl 0 rfl) ?_
        refine lv_i2l hx hb dH_putArrayIndices_65 rfl ?_
        obtain ⟨o7, hq8, hf⟩ := xbind hf
        obtain ⟨hPc, hDc, hFc⟩ := xcut (wc := [(a2, .inr (2, [.ref a3, .int w1, .int w2])), (a3, .inl (cT 2, 4096, .inr (.inl w0)))]) hP hD hS hA [0, 1] rfl rfl (by decide)
        refine va_callv (va_runV (C := "ValueBench$Row") (As := [.long y8.toInt64]) (rest := []) ⟨hx, hb, hml, hown, htx⟩ (gR_putNumber l hl9 D cT aK aV H.size n a2 a3 y8.toInt64 w0 w1 w2 o7 hq8) ⟨callB_of 1 htx (xw_goodC kw_2_228) rfl rfl rfl (htx _ kw_1_4) (htx _ kw_4_227) ⟨by decide, by decide, by decide +kernel⟩ ⟨Nat.le_of_ble_eq_true rfl, Nat.le_of_ble_eq_true rfl⟩, (htx _ kw_2_226), (htx _ kw_2_227)⟩ ⟨xPre_blind, va_recv hK hP (ci := 2) rfl (q0 := 0) rfl, (fun U hU hW => ⟨rfl, xPre_of hZ hS hFc hPc hDc hK U hU hW⟩)⟩ rfl rfl hl.1 rfl (lv_room (Nat.le_of_ble_eq_true rfl)) dH_putArrayIndices_66 ⟨Nat.le_of_ble_eq_true rfl, Nat.le_of_ble_eq_true rfl⟩) hS (fun q _ h => hFc q h) hFc (fun u9 t H1 locs ht hvm hr9 hB hz1 hk1 hS => ?_)
        obtain ⟨hP1, hK1, hD1⟩ := hB
        rw [ht] at hP1
        obtain ⟨hP, hD⟩ := xjoin (W := [(a0, .inr (2, [.ref a1, .int v1, .int v2])), (a1, .inl (cT 2, 4096, .inr (.inl f0))), (a2, .inr (2, [.ref a3, .int o7.2.1, .int o7.2.2])), (a3, .inl (cT 2, 4096, .inr (.inl o7.1)))]) hP hD [0, 1] [2, 3] 2 rfl rfl (by decide) (by decide) hk1 hFc hP1 hD1
        generalize H1 = H at hP hS ⊢
        refine lv_iinc (v := (y6 + 1)) (lv' := [(6, .int (y6 + 1)), (8, .int y8), (7, .int y7), (5, .int y5), (4, .int y4), (0, .ref a0), (1, .ref a0), (2, .int y2), (3, .ref a2)]) hx hb dH_putArrayIndices_69 hl (k := 2) rfl rfl (by decide) rfl (fun ls hl => ?_)
        refine lv_aload_n hx hb dH_putArrayIndices_72 rfl (lv_at hl 5 rfl) ?_
        refine lv_iload hx hb dH_putArrayIndices_73 (lv_at hl 2 rfl) ?_
        obtain ⟨o9, hq10, hf⟩ := xbind hf
        obtain ⟨hPc, hDc, hFc⟩ := xcut (wc := [(a0, .inr (2, [.ref a1, .int v1, .int v2])), (a1, .inl (cT 2, 4096, .inr (.inl f0)))]) hP hD hS hA [0, 1] rfl rfl (by decide)
        refine va_calli (va_runV (C := "ValueBench$Row") (As := [.int y7]) (rest := []) ⟨hx, hb, hml, hown, htx⟩ (gR_after l hl9 D cT aK aV H.size n a0 a1 y7 f0 v1 v2 o9 hq10) ⟨callB_of 1 htx (xw_goodC kw_2_196) rfl rfl rfl (htx _ kw_1_4) (htx _ kw_4_181) ⟨by decide, by decide, by decide +kernel⟩ ⟨Nat.le_of_ble_eq_true rfl, Nat.le_of_ble_eq_true rfl⟩, (htx _ kw_2_194), (htx _ kw_2_195)⟩ ⟨xPre_blind, va_recv hK hP (ci := 2) rfl (q0 := 0) rfl, (fun U hU hW => ⟨rfl, xPre_of hZ hS hFc hPc hDc hK U hU hW⟩)⟩ rfl rfl hl.1 rfl (lv_room (Nat.le_of_ble_eq_true rfl)) dH_putArrayIndices_75 ⟨Nat.le_of_ble_eq_true rfl, Nat.le_of_ble_eq_true rfl⟩) hS (fun q _ h => hFc q h) hFc (fun r11 u9 t H1 locs ht hvm hr9 hB hz1 hk1 hS => ?_)
        obtain ⟨hP1, hK1, hD1⟩ := hB
        rw [ht] at hP1
        obtain ⟨hP, hD⟩ := xjoin (W := [(a2, .inr (2, [.ref a3, .int o7.2.1, .int o7.2.2])), (a3, .inl (cT 2, 4096, .inr (.inl o7.1))), (a0, .inr (2, [.ref a1, .int v1, .int v2])), (a1, .inl (cT 2, 4096, .inr (.inl f0)))]) hP hD [0, 1] [2, 3] 2 rfl rfl (by decide) (by decide) hk1 hFc hP1 hD1
        generalize H1 = H at hP hS ⊢
        rw [hr9]
        refine W.eq (g2 := F0 m 78 ls [.int o9]) rfl ?_
        refine lv_istore (lv' := [(7, .int o9), (6, .int (y6 + 1)), (8, .int y8), (5, .int y5), (4, .int y4), (0, .ref a0), (1, .ref a0), (2, .int y2), (3, .ref a2)]) hx hb dH_putArrayIndices_78 hl (by decide) rfl (fun ls hl => ?_)
        refine lv_iinc (v := (y8 + 1)) (lv' := [(8, .int (y8 + 1)), (7, .int o9), (6, .int (y6 + 1)), (5, .int y5), (4, .int y4), (0, .ref a0), (1, .ref a0), (2, .int y2), (3, .ref a2)]) hx hb dH_putArrayIndices_80 hl (k := 2) rfl rfl (by decide) rfl (fun ls hl => ?_)
        refine lv_goto (tgt := 35) hx hb dH_putArrayIndices_83 (by decide) ?_
        obtain ⟨hP9, hD9⟩ := xsub (wc := [(a0, .inr (2, [.ref a1, .int v1, .int v2])), (a1, .inl (cT 2, 4096, .inr (.inl f0))), (a2, .inr (2, [.ref a3, .int o7.2.1, .int o7.2.2])), (a3, .inl (cT 2, 4096, .inr (.inl o7.1)))]) hP hD [2, 3, 0, 1] rfl rfl (by decide)
        exact ih (1, (y8 + 1), o9, (y6 + 1), y5, y4, y2, o7.1, o7.2.1, o7.2.2) _ _ ls (⟨rfl, hf, hP9, hD9, hS, lv_sub hl [0, 1, 2, 3, 4, 5, 6, 7, 8] rfl⟩)
  refine lv_iload_n hx hb dH_putArrayIndices_0 rfl (lv_at hl 2 rfl) ?_
  refine lv_if_eq (tgt := 8) hx hb dH_putArrayIndices_1 (by decide) (fun hc => ?_) (fun hc => ?_)
  · rw [if_pos hc] at hf
    refine lv_iconst (v := 1) hx hb dH_putArrayIndices_8 (by decide) ?_
    refine lv_istore (lv' := [(4, .int 1), (0, .ref a0), (1, .ref a0), (2, .int x2), (3, .ref a2)]) hx hb dH_putArrayIndices_9 hl (by decide) rfl (fun ls hl => ?_)
    refine lv_iload_n hx hb dH_putArrayIndices_11 rfl (lv_at hl 3 rfl) ?_
    refine lv_if_eq (tgt := 19) hx hb dH_putArrayIndices_12 (by decide) (fun hc => ?_) (fun hc => ?_)
    · rw [if_pos hc] at hf
      refine lv_aload_n hx hb dH_putArrayIndices_19 rfl (lv_at hl 2 rfl) ?_
      refine lv_iconst (v := 0) hx hb dH_putArrayIndices_20 (by decide) ?_
      obtain ⟨o1, hq2, hf⟩ := xbind hf
      obtain ⟨hPc, hDc, hFc⟩ := xcut (wc := [(a0, .inr (2, [.ref a1, .int v1, .int v2])), (a1, .inl (cT 2, 4096, .inr (.inl f0)))]) hP hD hS hA [0, 1] rfl rfl (by decide)
      refine va_calli (va_runV (C := "ValueBench$Row") (As := [.int 0]) (rest := []) ⟨hx, hb, hml, hown, htx⟩ (gR_length l hl9 D cT aK aV s.heap.size n a0 a1 (0 : Int32) f0 v1 v2 o1 hq2) ⟨callB_of 1 htx (xw_goodC kw_2_191) rfl rfl rfl (htx _ kw_1_4) (htx _ kw_4_157) ⟨by decide, by decide, by decide +kernel⟩ ⟨Nat.le_of_ble_eq_true rfl, Nat.le_of_ble_eq_true rfl⟩, (htx _ kw_2_189), (htx _ kw_2_190)⟩ ⟨xPre_blind, va_recv hK hP (ci := 2) rfl (q0 := 0) rfl, (fun U hU hW => ⟨rfl, xPre_of hZ hS hFc hPc hDc hK U hU hW⟩)⟩ rfl rfl hl.1 rfl (lv_room (Nat.le_of_ble_eq_true rfl)) dH_putArrayIndices_21 ⟨Nat.le_of_ble_eq_true rfl, Nat.le_of_ble_eq_true rfl⟩) hS (fun q _ h => hFc q h) hFc (fun r3 u9 t H1 locs ht hvm hr9 hB hz1 hk1 hS => ?_)
      obtain ⟨hP1, hK1, hD1⟩ := hB
      rw [ht] at hP1
      obtain ⟨hP, hD⟩ := xjoin (W := [(a2, .inr (2, [.ref a3, .int v4, .int v5])), (a3, .inl (cT 2, 4096, .inr (.inl f3))), (a0, .inr (2, [.ref a1, .int v1, .int v2])), (a1, .inl (cT 2, 4096, .inr (.inl f0)))]) hP hD [0, 1] [2, 3] 2 rfl rfl (by decide) (by decide) hk1 hFc hP1 hD1
      generalize H1 = H at hP hS ⊢
      rw [hr9]
      refine W.eq (g2 := F0 m 24 ls [.int o1]) rfl ?_
      refine lv_istore (lv' := [(5, .int o1), (4, .int 1), (0, .ref a0), (1, .ref a0), (2, .int x2), (3, .ref a2)]) hx hb dH_putArrayIndices_24 hl (by decide) rfl (fun ls hl => ?_)
      refine lv_iconst (v := 0) hx hb dH_putArrayIndices_26 (by decide) ?_
      refine lv_istore (lv' := [(6, .int 0), (5, .int o1), (4, .int 1), (0, .ref a0), (1, .ref a0), (2, .int x2), (3, .ref a2)]) hx hb dH_putArrayIndices_27 hl (by decide) rfl (fun ls hl => ?_)
      refine lv_iconst (v := 1) hx hb dH_putArrayIndices_29 (by decide) ?_
      refine lv_istore (lv' := [(7, .int 1), (6, .int 0), (5, .int o1), (4, .int 1), (0, .ref a0), (1, .ref a0), (2, .int x2), (3, .ref a2)]) hx hb dH_putArrayIndices_30 hl (by decide) rfl (fun ls hl => ?_)
      refine lv_iconst (v := 0) hx hb dH_putArrayIndices_32 (by decide) ?_
      refine lv_istore (lv' := [(8, .int 0), (7, .int 1), (6, .int 0), (5, .int o1), (4, .int 1), (0, .ref a0), (1, .ref a0), (2, .int x2), (3, .ref a2)]) hx hb dH_putArrayIndices_33 hl (by decide) rfl (fun ls hl => ?_)
      obtain ⟨hP9, hD9⟩ := xsub (wc := [(a0, .inr (2, [.ref a1, .int v1, .int v2])), (a1, .inl (cT 2, 4096, .inr (.inl f0))), (a2, .inr (2, [.ref a3, .int v4, .int v5])), (a3, .inl (cT 2, 4096, .inr (.inl f3)))]) hP hD [2, 3, 0, 1] rfl rfl (by decide)
      exact key n (1, 0, 1, 0, o1, 1, x2, f3, v4, v5) _ _ ls (⟨rfl, hf, hP9, hD9, hS, lv_sub hl [0, 1, 2, 3, 4, 5, 6, 7, 8] rfl⟩)
    · rw [if_neg hc] at hf
      refine lv_iconst (v := 1) hx hb dH_putArrayIndices_15 (by decide) ?_
      refine lv_goto (tgt := 24) hx hb dH_putArrayIndices_16 (by decide) ?_
      refine lv_istore (lv' := [(5, .int 1), (4, .int 1), (0, .ref a0), (1, .ref a0), (2, .int x2), (3, .ref a2)]) hx hb dH_putArrayIndices_24 hl (by decide) rfl (fun ls hl => ?_)
      refine lv_iconst (v := 0) hx hb dH_putArrayIndices_26 (by decide) ?_
      refine lv_istore (lv' := [(6, .int 0), (5, .int 1), (4, .int 1), (0, .ref a0), (1, .ref a0), (2, .int x2), (3, .ref a2)]) hx hb dH_putArrayIndices_27 hl (by decide) rfl (fun ls hl => ?_)
      refine lv_iconst (v := 1) hx hb dH_putArrayIndices_29 (by decide) ?_
      refine lv_istore (lv' := [(7, .int 1), (6, .int 0), (5, .int 1), (4, .int 1), (0, .ref a0), (1, .ref a0), (2, .int x2), (3, .ref a2)]) hx hb dH_putArrayIndices_30 hl (by decide) rfl (fun ls hl => ?_)
      refine lv_iconst (v := 0) hx hb dH_putArrayIndices_32 (by decide) ?_
      refine lv_istore (lv' := [(8, .int 0), (7, .int 1), (6, .int 0), (5, .int 1), (4, .int 1), (0, .ref a0), (1, .ref a0), (2, .int x2), (3, .ref a2)]) hx hb dH_putArrayIndices_33 hl (by decide) rfl (fun ls hl => ?_)
      obtain ⟨hP9, hD9⟩ := xsub (wc := [(a0, .inr (2, [.ref a1, .int v1, .int v2])), (a1, .inl (cT 2, 4096, .inr (.inl f0))), (a2, .inr (2, [.ref a3, .int v4, .int v5])), (a3, .inl (cT 2, 4096, .inr (.inl f3)))]) hP hD [0, 1, 2, 3] rfl rfl (by decide)
      exact key n (1, 0, 1, 0, 1, 1, x2, f3, v4, v5) _ _ ls (⟨rfl, hf, hP9, hD9, hS, lv_sub hl [0, 1, 2, 3, 4, 5, 6, 7, 8] rfl⟩)
  · rw [if_neg hc] at hf
    refine lv_iconst (v := 0) hx hb dH_putArrayIndices_4 (by decide) ?_
    refine lv_goto (tgt := 9) hx hb dH_putArrayIndices_5 (by decide) ?_
    refine lv_istore (lv' := [(4, .int 0), (0, .ref a0), (1, .ref a0), (2, .int x2), (3, .ref a2)]) hx hb dH_putArrayIndices_9 hl (by decide) rfl (fun ls hl => ?_)
    refine lv_iload_n hx hb dH_putArrayIndices_11 rfl (lv_at hl 3 rfl) ?_
    refine lv_if_eq (tgt := 19) hx hb dH_putArrayIndices_12 (by decide) (fun hc => ?_) (fun hc => ?_)
    · rw [if_pos hc] at hf
      refine lv_aload_n hx hb dH_putArrayIndices_19 rfl (lv_at hl 2 rfl) ?_
      refine lv_iconst (v := 0) hx hb dH_putArrayIndices_20 (by decide) ?_
      obtain ⟨o1, hq2, hf⟩ := xbind hf
      obtain ⟨hPc, hDc, hFc⟩ := xcut (wc := [(a0, .inr (2, [.ref a1, .int v1, .int v2])), (a1, .inl (cT 2, 4096, .inr (.inl f0)))]) hP hD hS hA [0, 1] rfl rfl (by decide)
      refine va_calli (va_runV (C := "ValueBench$Row") (As := [.int 0]) (rest := []) ⟨hx, hb, hml, hown, htx⟩ (gR_length l hl9 D cT aK aV s.heap.size n a0 a1 (0 : Int32) f0 v1 v2 o1 hq2) ⟨callB_of 1 htx (xw_goodC kw_2_191) rfl rfl rfl (htx _ kw_1_4) (htx _ kw_4_157) ⟨by decide, by decide, by decide +kernel⟩ ⟨Nat.le_of_ble_eq_true rfl, Nat.le_of_ble_eq_true rfl⟩, (htx _ kw_2_189), (htx _ kw_2_190)⟩ ⟨xPre_blind, va_recv hK hP (ci := 2) rfl (q0 := 0) rfl, (fun U hU hW => ⟨rfl, xPre_of hZ hS hFc hPc hDc hK U hU hW⟩)⟩ rfl rfl hl.1 rfl (lv_room (Nat.le_of_ble_eq_true rfl)) dH_putArrayIndices_21 ⟨Nat.le_of_ble_eq_true rfl, Nat.le_of_ble_eq_true rfl⟩) hS (fun q _ h => hFc q h) hFc (fun r3 u9 t H1 locs ht hvm hr9 hB hz1 hk1 hS => ?_)
      obtain ⟨hP1, hK1, hD1⟩ := hB
      rw [ht] at hP1
      obtain ⟨hP, hD⟩ := xjoin (W := [(a2, .inr (2, [.ref a3, .int v4, .int v5])), (a3, .inl (cT 2, 4096, .inr (.inl f3))), (a0, .inr (2, [.ref a1, .int v1, .int v2])), (a1, .inl (cT 2, 4096, .inr (.inl f0)))]) hP hD [0, 1] [2, 3] 2 rfl rfl (by decide) (by decide) hk1 hFc hP1 hD1
      generalize H1 = H at hP hS ⊢
      rw [hr9]
      refine W.eq (g2 := F0 m 24 ls [.int o1]) rfl ?_
      refine lv_istore (lv' := [(5, .int o1), (4, .int 0), (0, .ref a0), (1, .ref a0), (2, .int x2), (3, .ref a2)]) hx hb dH_putArrayIndices_24 hl (by decide) rfl (fun ls hl => ?_)
      refine lv_iconst (v := 0) hx hb dH_putArrayIndices_26 (by decide) ?_
      refine lv_istore (lv' := [(6, .int 0), (5, .int o1), (4, .int 0), (0, .ref a0), (1, .ref a0), (2, .int x2), (3, .ref a2)]) hx hb dH_putArrayIndices_27 hl (by decide) rfl (fun ls hl => ?_)
      refine lv_iconst (v := 1) hx hb dH_putArrayIndices_29 (by decide) ?_
      refine lv_istore (lv' := [(7, .int 1), (6, .int 0), (5, .int o1), (4, .int 0), (0, .ref a0), (1, .ref a0), (2, .int x2), (3, .ref a2)]) hx hb dH_putArrayIndices_30 hl (by decide) rfl (fun ls hl => ?_)
      refine lv_iconst (v := 0) hx hb dH_putArrayIndices_32 (by decide) ?_
      refine lv_istore (lv' := [(8, .int 0), (7, .int 1), (6, .int 0), (5, .int o1), (4, .int 0), (0, .ref a0), (1, .ref a0), (2, .int x2), (3, .ref a2)]) hx hb dH_putArrayIndices_33 hl (by decide) rfl (fun ls hl => ?_)
      obtain ⟨hP9, hD9⟩ := xsub (wc := [(a0, .inr (2, [.ref a1, .int v1, .int v2])), (a1, .inl (cT 2, 4096, .inr (.inl f0))), (a2, .inr (2, [.ref a3, .int v4, .int v5])), (a3, .inl (cT 2, 4096, .inr (.inl f3)))]) hP hD [2, 3, 0, 1] rfl rfl (by decide)
      exact key n (1, 0, 1, 0, o1, 0, x2, f3, v4, v5) _ _ ls (⟨rfl, hf, hP9, hD9, hS, lv_sub hl [0, 1, 2, 3, 4, 5, 6, 7, 8] rfl⟩)
    · rw [if_neg hc] at hf
      refine lv_iconst (v := 1) hx hb dH_putArrayIndices_15 (by decide) ?_
      refine lv_goto (tgt := 24) hx hb dH_putArrayIndices_16 (by decide) ?_
      refine lv_istore (lv' := [(5, .int 1), (4, .int 0), (0, .ref a0), (1, .ref a0), (2, .int x2), (3, .ref a2)]) hx hb dH_putArrayIndices_24 hl (by decide) rfl (fun ls hl => ?_)
      refine lv_iconst (v := 0) hx hb dH_putArrayIndices_26 (by decide) ?_
      refine lv_istore (lv' := [(6, .int 0), (5, .int 1), (4, .int 0), (0, .ref a0), (1, .ref a0), (2, .int x2), (3, .ref a2)]) hx hb dH_putArrayIndices_27 hl (by decide) rfl (fun ls hl => ?_)
      refine lv_iconst (v := 1) hx hb dH_putArrayIndices_29 (by decide) ?_
      refine lv_istore (lv' := [(7, .int 1), (6, .int 0), (5, .int 1), (4, .int 0), (0, .ref a0), (1, .ref a0), (2, .int x2), (3, .ref a2)]) hx hb dH_putArrayIndices_30 hl (by decide) rfl (fun ls hl => ?_)
      refine lv_iconst (v := 0) hx hb dH_putArrayIndices_32 (by decide) ?_
      refine lv_istore (lv' := [(8, .int 0), (7, .int 1), (6, .int 0), (5, .int 1), (4, .int 0), (0, .ref a0), (1, .ref a0), (2, .int x2), (3, .ref a2)]) hx hb dH_putArrayIndices_33 hl (by decide) rfl (fun ls hl => ?_)
      obtain ⟨hP9, hD9⟩ := xsub (wc := [(a0, .inr (2, [.ref a1, .int v1, .int v2])), (a1, .inl (cT 2, 4096, .inr (.inl f0))), (a2, .inr (2, [.ref a3, .int v4, .int v5])), (a3, .inl (cT 2, 4096, .inr (.inl f3)))]) hP hD [0, 1, 2, 3] rfl rfl (by decide)
      exact key n (1, 0, 1, 0, 1, 0, x2, f3, v4, v5) _ _ ls (⟨rfl, hf, hP9, hD9, hS, lv_sub hl [0, 1, 2, 3, 4, 5, 6, 7, 8] rfl⟩)
set_option maxHeartbeats 400000000 in
set_option maxRecDepth 100000 in
theorem gH_putStringIndicesa (l : Launch) (hl9 : l.stackTraces = false) (D : va_G) (cT : Nat → ClassId) (aK aV : Nat → Nat) (sz n : Nat) (a0 : Nat) (a1 : Nat) (a2 : Nat) (a3 : Nat) (f0 : Nat → Int64) (v1 : Int32) (v2 : Int32) (f3 : Nat → Int64) (v4 : Int32) (v5 : Int32) (out : Int32 × (Nat → Int64) × Int32 × Int32) (hf : fH_putStringIndicesa n f0 v1 v2 f3 v4 v5 = some out) : xMet l yH_putStringIndices wyH_putStringIndices 2 0 0 49 D cT aK aV sz [.ref a0, .ref a0, .ref a2] [(a0, .inr (2, [.ref a1, .int v1, .int v2])), (a1, .inl (cT 2, 4096, .inr (.inl f0))), (a2, .inr (2, [.ref a3, .int v4, .int v5])), (a3, .inl (cT 2, 4096, .inr (.inl f3)))] (fun A => va_Qi (fun (r : Int32) (_ : Unit) => r = out.1) (fun _ t => xB D xcl cT A [(a0, .inr (2, [.ref a1, .int v1, .int v2])), (a1, .inl (cT 2, 4096, .inr (.inl f0))), (a2, .inr (2, [.ref a3, .int out.2.2.1, .int out.2.2.2])), (a3, .inl (cT 2, 4096, .inr (.inl out.2.1)))] t) A) := by
  refine Met.ofW (cc := prog_5_method_23_code) (maxL := 5) (ret := (some .int)) (by decide) rfl ?_
  intro p e s m args below meth c s₁ B hml hv
  obtain ⟨rfl, hsz, hZ, hP, hK, hD0⟩ := hv
  have hx := B.exec
  have hb := B.bytes
  have hr := B.returns
  have hts := atoms_spec (ws := wyH_putStringIndices) B.pre
  have htx := fun w h => hts w (List.mem_cons_of_mem _ h)
  have hown : s.vm.findClass "ValueBench$Pairs" = some m.cls := findClass_of_methodNamed B.named
  have hlocks := B.notSynchronized
  subst hsz
  have hD := hD0.self (sz := s.heap.size)
  generalize hAe : va_A [(a0, .inr (2, [.ref a1, .int v1, .int v2])), (a1, .inl (cT 2, 4096, .inr (.inl f0))), (a2, .inr (2, [.ref a3, .int v4, .int v5])), (a3, .inl (cT 2, 4096, .inr (.inl f3)))] s.heap.size = A at hD hZ ⊢
  have hA : ∀ q : Nat, s.heap.size ≤ q → A q := fun q h => by rw [← hAe]; exact Or.inr h
  have hS : va_S A s.heap s.heap [] := va_S.rf
  have hP : va_P D xcl [(a0, .inr (2, [.ref a1, .int v1, .int v2])), (a1, .inl (cT 2, 4096, .inr (.inl f0))), (a2, .inr (2, [.ref a3, .int v4, .int v5])), (a3, .inl (cT 2, 4096, .inr (.inl f3)))] s.heap := hP
  have hl := lv_entry ([.ref a0, .ref a0, .ref a2]) (n := 5) (Nat.le_of_ble_eq_true rfl)
  rw [lg_entry_eq]
  generalize (lg_sl ([.ref a0, .ref a0, .ref a2]) ++ List.replicate (5 - (lg_sl ([.ref a0, .ref a0, .ref a2])).length) Slot.unset).toArray = ls at hl ⊢
  have hl : lv_has ls 5 [(0, .ref a0), (1, .ref a0), (2, .ref a2)] := hl
  unfold fH_putStringIndicesa at hf
  refine xloopK (σ := Nat × Int32 × Int32 × (Nat → Int64) × Int32 × Int32) (fun n x H locs ls => (x.1 = 1 ∧ fH_putStringIndicesa_b f0 v1 v2 n x.1 x.2.1 x.2.2.1 x.2.2.2.1 x.2.2.2.2.1 x.2.2.2.2.2 = some out ∧ va_P D xcl [(a0, .inr (2, [.ref a1, .int v1, .int v2])), (a1, .inl (cT 2, 4096, .inr (.inl f0))), (a2, .inr (2, [.ref a3, .int x.2.2.2.2.1, .int x.2.2.2.2.2])), (a3, .inl (cT 2, 4096, .inr (.inl x.2.2.2.1)))] H ∧ va_D A [(a0, .inr (2, [.ref a1, .int v1, .int v2])), (a1, .inl (cT 2, 4096, .inr (.inl f0))), (a2, .inr (2, [.ref a3, .int x.2.2.2.2.1, .int x.2.2.2.2.2])), (a3, .inl (cT 2, 4096, .inr (.inl x.2.2.2.1)))] ∧ va_S A s.heap H locs ∧ lv_has ls 5 [(4, .int x.2.1), (3, .int x.2.2.1), (0, .ref a0), (1, .ref a0), (2, .ref a2)])) (fun x => 5) (fun x H locs ls h => by exact absurd h.2.1 (by rw [fH_putStringIndicesa_b]; exact fun h => nomatch h)) (fun n ih x H locs ls hv => ?_) (fun key => ?_)
  · obtain ⟨lb, y4, y3, w0, w1, w2⟩ := x
    rcases hv with ⟨hj, hf, hP, hD, hS, hl⟩
    subst hj
    have hf : fH_putStringIndicesa_b f0 v1 v2 (n + 1) 1 y4 y3 w0 w1 w2 = some out := hf
    rw [fH_putStringIndicesa_b] at hf
    obtain ⟨hP, hD⟩ : xPD D xcl A [(a0, .inr (2, [.ref a1, .int v1, .int v2])), (a1, .inl (cT 2, 4096, .inr (.inl f0))), (a2, .inr (2, [.ref a3, .int w1, .int w2])), (a3, .inl (cT 2, 4096, .inr (.inl w0)))] H := ⟨hP, hD⟩
    have hl : lv_has ls 5 [(4, .int y4), (3, .int y3), (0, .ref a0), (1, .ref a0), (2, .ref a2)] := hl
    refine W.eq (g2 := F0 m 5 ls []) rfl ?_
    refine lv_iload hx hb dH_putStringIndices_5 (lv_at hl 0 rfl) ?_
    refine lv_aload_n hx hb dH_putStringIndices_7 rfl (lv_at hl 2 rfl) ?_
    refine lv_iconst (v := 0) hx hb dH_putStringIndices_8 (by decide) ?_
    obtain ⟨o1, hq2, hf⟩ := xbind hf
    obtain ⟨hPc, hDc, hFc⟩ := xcut (wc := [(a0, .inr (2, [.ref a1, .int v1, .int v2])), (a1, .inl (cT 2, 4096, .inr (.inl f0)))]) hP hD hS hA [0, 1] rfl rfl (by decide)
    refine va_calli (va_runV (C := "ValueBench$Row") (As := [.int 0]) (rest := [.int y4]) ⟨hx, hb, hml, hown, htx⟩ (gR_length l hl9 D cT aK aV H.size n a0 a1 (0 : Int32) f0 v1 v2 o1 hq2) ⟨callB_of 1 htx (xw_goodC kw_2_191) rfl rfl rfl (htx _ kw_1_4) (htx _ kw_4_157) ⟨by decide, by decide, by decide +kernel⟩ ⟨Nat.le_of_ble_eq_true rfl, Nat.le_of_ble_eq_true rfl⟩, (htx _ kw_2_189), (htx _ kw_2_190)⟩ ⟨xPre_blind, va_recv hK hP (ci := 2) rfl (q0 := 0) rfl, (fun U hU hW => ⟨rfl, xPre_of hZ hS hFc hPc hDc hK U hU hW⟩)⟩ rfl rfl hl.1 rfl (lv_room (Nat.le_of_ble_eq_true rfl)) dH_putStringIndices_9 ⟨Nat.le_of_ble_eq_true rfl, Nat.le_of_ble_eq_true rfl⟩) hS (fun q _ h => hFc q h) hFc (fun r3 u9 t H1 locs ht hvm hr9 hB hz1 hk1 hS => ?_)
    obtain ⟨hP1, hK1, hD1⟩ := hB
    rw [ht] at hP1
    obtain ⟨hP, hD⟩ := xjoin (W := [(a2, .inr (2, [.ref a3, .int w1, .int w2])), (a3, .inl (cT 2, 4096, .inr (.inl w0))), (a0, .inr (2, [.ref a1, .int v1, .int v2])), (a1, .inl (cT 2, 4096, .inr (.inl f0)))]) hP hD [0, 1] [2, 3] 2 rfl rfl (by decide) (by decide) hk1 hFc hP1 hD1
    generalize H1 = H at hP hS ⊢
    rw [hr9]
    refine W.eq (g2 := F0 m 12 ls [.int o1, .int y4]) rfl ?_
    refine lv_icmp_ge (tgt := 43) hx hb dH_putStringIndices_12 (by decide) (fun hc => ?_) (fun hc => ?_)
    · rw [if_pos hc] at hf
      refine lv_iload_n hx hb dH_putStringIndices_43 rfl (lv_at hl 1 rfl) ?_
      obtain rfl := Option.some.inj hf
      obtain ⟨hP9, hD9⟩ := xsub (wc := [(a0, .inr (2, [.ref a1, .int v1, .int v2])), (a1, .inl (cT 2, 4096, .inr (.inl f0))), (a2, .inr (2, [.ref a3, .int w1, .int w2])), (a3, .inl (cT 2, 4096, .inr (.inl w0)))]) hP hD [2, 3, 0, 1] rfl rfl (by decide)
      exact W.iret (v := y3) hx hb hr (fun t ht hW => ⟨⟨y3, (), rfl, rfl, by rw [ht]; exact hP9, va_K.moved hW.alike hK, hD9⟩, hS.F ht⟩) hS.2.2 dH_putStringIndices_44
    · rw [if_neg hc] at hf
      refine lv_aload_n hx hb dH_putStringIndices_15 rfl (lv_at hl 2 rfl) ?_
      refine lv_iconst (v := 0) hx hb dH_putStringIndices_16 (by decide) ?_
      refine lv_iload hx hb dH_putStringIndices_17 (lv_at hl 0 rfl) ?_
      refine lv_aload_n hx hb dH_putStringIndices_19 rfl (lv_at hl 3 rfl) ?_
      refine lv_iconst (v := 0) hx hb dH_putStringIndices_20 (by decide) ?_
      obtain ⟨o4, hq5, hf⟩ := xbind hf
      obtain ⟨hPc, hDc, hFc⟩ := xcut (wc := [(a0, .inr (2, [.ref a1, .int v1, .int v2])), (a1, .inl (cT 2, 4096, .inr (.inl f0)))]) hP hD hS hA [2, 3] rfl rfl (by decide)
      refine va_calli (va_runV (C := "ValueBench$Row") (As := [.int 0, .int y4, .ref a0, .int 0]) (rest := []) ⟨hx, hb, hml, hown, htx⟩ (gR_hasPart l hl9 D cT aK aV H.size n a0 a1 (0 : Int32) y4 (0 : Int32) f0 v1 v2 o4 hq5) ⟨callB_of 4 htx (xw_goodC kw_3_217) rfl rfl rfl (htx _ kw_1_4) (htx _ kw_4_174) ⟨by decide, by decide, by decide +kernel⟩ ⟨Nat.le_of_ble_eq_true rfl, Nat.le_of_ble_eq_true rfl⟩, (htx _ kw_3_215), (htx _ kw_3_216)⟩ ⟨xPre_blind, va_recv hK hP (ci := 2) rfl (q0 := 2) rfl, (fun U hU hW => ⟨rfl, xPre_of hZ hS hFc hPc hDc hK U hU hW⟩)⟩ rfl rfl hl.1 rfl (lv_room (Nat.le_of_ble_eq_true rfl)) dH_putStringIndices_21 ⟨Nat.le_of_ble_eq_true rfl, Nat.le_of_ble_eq_true rfl⟩) hS (fun q _ h => hFc q h) hFc (fun r6 u9 t H1 locs ht hvm hr9 hB hz1 hk1 hS => ?_)
      obtain ⟨hP1, hK1, hD1⟩ := hB
      rw [ht] at hP1
      obtain ⟨hP, hD⟩ := xjoin (W := [(a2, .inr (2, [.ref a3, .int w1, .int w2])), (a3, .inl (cT 2, 4096, .inr (.inl w0))), (a0, .inr (2, [.ref a1, .int v1, .int v2])), (a1, .inl (cT 2, 4096, .inr (.inl f0)))]) hP hD [2, 3] [0, 1] 2 rfl rfl (by decide) (by decide) hk1 hFc hP1 hD1
      generalize H1 = H at hP hS ⊢
      rw [hr9]
      refine W.eq (g2 := F0 m 24 ls [.int o4]) rfl ?_
      refine lv_if_eq (tgt := 37) hx hb dH_putStringIndices_24 (by decide) (fun hc => ?_) (fun hc => ?_)
      · rw [if_pos hc] at hf
        refine lv_iinc (v := (y4 + 1)) (lv' := [(4, .int (y4 + 1)), (3, .int y3), (0, .ref a0), (1, .ref a0), (2, .ref a2)]) hx hb dH_putStringIndices_37 hl (k := 0) rfl rfl (by decide) rfl (fun ls hl => ?_)
        refine lv_goto (tgt := 5) hx hb dH_putStringIndices_40 (by decide) ?_
        obtain ⟨hP9, hD9⟩ := xsub (wc := [(a0, .inr (2, [.ref a1, .int v1, .int v2])), (a1, .inl (cT 2, 4096, .inr (.inl f0))), (a2, .inr (2, [.ref a3, .int w1, .int w2])), (a3, .inl (cT 2, 4096, .inr (.inl w0)))]) hP hD [2, 3, 0, 1] rfl rfl (by decide)
        exact ih (1, (y4 + 1), y3, w0, w1, w2) _ _ ls (⟨rfl, hf, hP9, hD9, hS, lv_sub hl [0, 1, 2, 3, 4] rfl⟩)
      · rw [if_neg hc] at hf
        refine lv_aload_n hx hb dH_putStringIndices_27 rfl (lv_at hl 4 rfl) ?_
        refine lv_iload hx hb dH_putStringIndices_28 (lv_at hl 0 rfl) ?_
        refine lv_i2l hx hb dH_putStringIndices_30 rfl ?_
        obtain ⟨o7, hq8, hf⟩ := xbind hf
        obtain ⟨hPc, hDc, hFc⟩ := xcut (wc := [(a2, .inr (2, [.ref a3, .int w1, .int w2])), (a3, .inl (cT 2, 4096, .inr (.inl w0)))]) hP hD hS hA [0, 1] rfl rfl (by decide)
        refine va_callv (va_runV (C := "ValueBench$Row") (As := [.long y4.toInt64]) (rest := []) ⟨hx, hb, hml, hown, htx⟩ (gR_putNumber l hl9 D cT aK aV H.size n a2 a3 y4.toInt64 w0 w1 w2 o7 hq8) ⟨callB_of 1 htx (xw_goodC kw_2_228) rfl rfl rfl (htx _ kw_1_4) (htx _ kw_4_227) ⟨by decide, by decide, by decide +kernel⟩ ⟨Nat.le_of_ble_eq_true rfl, Nat.le_of_ble_eq_true rfl⟩, (htx _ kw_2_226), (htx _ kw_2_227)⟩ ⟨xPre_blind, va_recv hK hP (ci := 2) rfl (q0 := 0) rfl, (fun U hU hW => ⟨rfl, xPre_of hZ hS hFc hPc hDc hK U hU hW⟩)⟩ rfl rfl hl.1 rfl (lv_room (Nat.le_of_ble_eq_true rfl)) dH_putStringIndices_31 ⟨Nat.le_of_ble_eq_true rfl, Nat.le_of_ble_eq_true rfl⟩) hS (fun q _ h => hFc q h) hFc (fun u9 t H1 locs ht hvm hr9 hB hz1 hk1 hS => ?_)
        obtain ⟨hP1, hK1, hD1⟩ := hB
        rw [ht] at hP1
        obtain ⟨hP, hD⟩ := xjoin (W := [(a0, .inr (2, [.ref a1, .int v1, .int v2])), (a1, .inl (cT 2, 4096, .inr (.inl f0))), (a2, .inr (2, [.ref a3, .int o7.2.1, .int o7.2.2])), (a3, .inl (cT 2, 4096, .inr (.inl o7.1)))]) hP hD [0, 1] [2, 3] 2 rfl rfl (by decide) (by decide) hk1 hFc hP1 hD1
        generalize H1 = H at hP hS ⊢
        refine lv_iinc (v := (y3 + 1)) (lv' := [(3, .int (y3 + 1)), (4, .int y4), (0, .ref a0), (1, .ref a0), (2, .ref a2)]) hx hb dH_putStringIndices_34 hl (k := 1) rfl rfl (by decide) rfl (fun ls hl => ?_)
        refine lv_iinc (v := (y4 + 1)) (lv' := [(4, .int (y4 + 1)), (3, .int (y3 + 1)), (0, .ref a0), (1, .ref a0), (2, .ref a2)]) hx hb dH_putStringIndices_37 hl (k := 1) rfl rfl (by decide) rfl (fun ls hl => ?_)
        refine lv_goto (tgt := 5) hx hb dH_putStringIndices_40 (by decide) ?_
        obtain ⟨hP9, hD9⟩ := xsub (wc := [(a0, .inr (2, [.ref a1, .int v1, .int v2])), (a1, .inl (cT 2, 4096, .inr (.inl f0))), (a2, .inr (2, [.ref a3, .int o7.2.1, .int o7.2.2])), (a3, .inl (cT 2, 4096, .inr (.inl o7.1)))]) hP hD [0, 1, 2, 3] rfl rfl (by decide)
        exact ih (1, (y4 + 1), (y3 + 1), o7.1, o7.2.1, o7.2.2) _ _ ls (⟨rfl, hf, hP9, hD9, hS, lv_sub hl [0, 1, 2, 3, 4] rfl⟩)
  refine lv_iconst (v := 0) hx hb dH_putStringIndices_0 (by decide) ?_
  refine lv_istore_n (lv' := [(3, .int 0), (0, .ref a0), (1, .ref a0), (2, .ref a2)]) hx hb dH_putStringIndices_1 rfl hl (by decide) rfl (fun ls hl => ?_)
  refine lv_iconst (v := 0) hx hb dH_putStringIndices_2 (by decide) ?_
  refine lv_istore (lv' := [(4, .int 0), (3, .int 0), (0, .ref a0), (1, .ref a0), (2, .ref a2)]) hx hb dH_putStringIndices_3 hl (by decide) rfl (fun ls hl => ?_)
  obtain ⟨hP9, hD9⟩ := xsub (wc := [(a0, .inr (2, [.ref a1, .int v1, .int v2])), (a1, .inl (cT 2, 4096, .inr (.inl f0))), (a2, .inr (2, [.ref a3, .int v4, .int v5])), (a3, .inl (cT 2, 4096, .inr (.inl f3)))]) hP hD [0, 1, 2, 3] rfl rfl (by decide)
  exact key n (1, 0, 0, f3, v4, v5) _ _ ls (⟨rfl, hf, hP9, hD9, hS, lv_sub hl [0, 1, 2, 3, 4] rfl⟩)
