set_option maxHeartbeats 400000000 in
set_option maxRecDepth 100000 in
theorem gA_apply (l : Launch) (hl9 : l.stackTraces = false) (D : va_G) (cT : Nat → ClassId) (aK aV : Nat → Nat) (sz d n : Nat) (a0 : Nat) (a1 : Nat) (a2 : Nat) (a3 : Nat) (a4 : Nat) (a5 : Nat) (x0 : Int32) (f0 : Nat → Int64) (v1 : Int32) (v2 : Int32) (f3 : Nat → Int64) (v4 : Int32) (v5 : Int32) (f6 : Nat → Int64) (v7 : Int32) (v8 : Int32) (out : Int32 × (Nat → Int64) × Int32 × Int32) (hf : fA_apply d n x0 f0 v1 v2 f3 v4 v5 f6 v7 v8 = some out) : xMet l yA_apply wyA_apply (16 * d + 5) 0 0 (400 * d + 157) D cT aK aV sz [.int x0, .ref a0, .ref a2, .ref a4] [(a0, .inr (2, [.ref a1, .int v1, .int v2])), (a1, .inl (cT 2, 4096, .inr (.inl f0))), (a2, .inr (2, [.ref a3, .int v4, .int v5])), (a3, .inl (cT 2, 4096, .inr (.inl f3))), (a4, .inr (2, [.ref a5, .int v7, .int v8])), (a5, .inl (cT 2, 4096, .inr (.inl f6)))] (fun A => va_Qi (fun (r : Int32) (_ : Unit) => r = out.1) (fun _ t => xB D xcl cT A [(a0, .inr (2, [.ref a1, .int v1, .int v2])), (a1, .inl (cT 2, 4096, .inr (.inl f0))), (a2, .inr (2, [.ref a3, .int v4, .int v5])), (a3, .inl (cT 2, 4096, .inr (.inl f3))), (a4, .inr (2, [.ref a5, .int out.2.2.1, .int out.2.2.2])), (a5, .inl (cT 2, 4096, .inr (.inl out.2.1)))] t) A) := by
  refine Met.ofW (cc := prog_3_method_2_code) (maxL := 4) (ret := (some .int)) (by decide) rfl ?_
  intro p e s m args below meth c s₁ B hml hv
  obtain ⟨rfl, hsz, hZ, hP, hK, hD0⟩ := hv
  have hx := B.exec
  have hb := B.bytes
  have hr := B.returns
  have hts := atoms_spec (ws := wyA_apply) B.pre
  have htx := fun w h => hts w (List.mem_cons_of_mem _ h)
  have hown : s.vm.findClass "ValueBench$Operators" = some m.cls := findClass_of_methodNamed B.named
  have hlocks := B.notSynchronized
  subst hsz
  have hD := hD0.self (sz := s.heap.size)
  generalize hAe : va_A [(a0, .inr (2, [.ref a1, .int v1, .int v2])), (a1, .inl (cT 2, 4096, .inr (.inl f0))), (a2, .inr (2, [.ref a3, .int v4, .int v5])), (a3, .inl (cT 2, 4096, .inr (.inl f3))), (a4, .inr (2, [.ref a5, .int v7, .int v8])), (a5, .inl (cT 2, 4096, .inr (.inl f6)))] s.heap.size = A at hD hZ ⊢
  have hA : ∀ q : Nat, s.heap.size ≤ q → A q := fun q h => by rw [← hAe]; exact Or.inr h
  have hS : va_S A s.heap s.heap [] := va_S.rf
  have hP : va_P D xcl [(a0, .inr (2, [.ref a1, .int v1, .int v2])), (a1, .inl (cT 2, 4096, .inr (.inl f0))), (a2, .inr (2, [.ref a3, .int v4, .int v5])), (a3, .inl (cT 2, 4096, .inr (.inl f3))), (a4, .inr (2, [.ref a5, .int v7, .int v8])), (a5, .inl (cT 2, 4096, .inr (.inl f6)))] s.heap := hP
  have hl := lv_entry ([.int x0, .ref a0, .ref a2, .ref a4]) (n := 4) (Nat.le_of_ble_eq_true rfl)
  rw [lg_entry_eq]
  generalize (lg_sl ([.int x0, .ref a0, .ref a2, .ref a4]) ++ List.replicate (4 - (lg_sl ([.int x0, .ref a0, .ref a2, .ref a4])).length) Slot.unset).toArray = ls at hl ⊢
  have hl : lv_has ls 4 [(0, .int x0), (1, .ref a0), (2, .ref a2), (3, .ref a4)] := hl
  unfold fA_apply at hf
  refine lv_aload_n hx hb dA_apply_0 rfl (lv_at hl 1 rfl) ?_
  refine lv_iconst (v := 0) hx hb dA_apply_1 (by decide) ?_
  refine lv_iconst (v := 3) hx hb dA_apply_2 (by decide) ?_
  obtain ⟨o1, hq2, hf⟩ := xbind hf
  obtain ⟨hPc, hDc, hFc⟩ := xcut (wc := [(a0, .inr (2, [.ref a1, .int v1, .int v2])), (a1, .inl (cT 2, 4096, .inr (.inl f0)))]) hP hD hS hA [0, 1] rfl rfl (by decide)
  refine va_calli (va_runV (C := "ValueBench$Row") (As := [.int 0, .int 3]) (rest := []) ⟨hx, hb, hml, hown, htx⟩ (gR_is l hl9 D cT aK aV s.heap.size n a0 a1 (0 : Int32) (3 : Int32) f0 v1 v2 o1 hq2) ⟨callB_of 2 htx (xw_goodC kw_3_75) rfl rfl rfl (htx _ kw_1_4) (htx _ kw_3_106) ⟨by decide, by decide, by decide +kernel⟩ ⟨Nat.le_of_ble_eq_true rfl, Nat.le_of_ble_eq_true rfl⟩, (htx _ kw_3_73), (htx _ kw_3_74)⟩ ⟨xPre_blind, va_recv hK hP (ci := 2) rfl (q0 := 0) rfl, (fun U hU hW => ⟨rfl, xPre_of hZ hS hFc hPc hDc hK U hU hW⟩)⟩ rfl rfl hl.1 rfl (lv_room (Nat.le_of_ble_eq_true rfl)) dA_apply_3 ⟨Nat.le_of_ble_eq_true rfl, Nat.le_of_ble_eq_true rfl⟩) hS (fun q _ h => hFc q h) hFc (fun r3 u9 t H1 locs ht hvm hr9 hB hz1 hk1 hS => ?_)
  obtain ⟨hP1, hK1, hD1⟩ := hB
  rw [ht] at hP1
  obtain ⟨hP, hD⟩ := xjoin (W := [(a2, .inr (2, [.ref a3, .int v4, .int v5])), (a3, .inl (cT 2, 4096, .inr (.inl f3))), (a4, .inr (2, [.ref a5, .int v7, .int v8])), (a5, .inl (cT 2, 4096, .inr (.inl f6))), (a0, .inr (2, [.ref a1, .int v1, .int v2])), (a1, .inl (cT 2, 4096, .inr (.inl f0)))]) hP hD [0, 1] [2, 3, 4, 5] 4 rfl rfl (by decide) (by decide) hk1 hFc hP1 hD1
  generalize H1 = H at hP hS ⊢
  rw [hr9]
  refine W.eq (g2 := F0 m 6 ls [.int o1]) rfl ?_
  refine lv_if_eq (tgt := 34) hx hb dA_apply_6 (by decide) (fun hc => ?_) (fun hc => ?_)
  · rw [if_pos hc] at hf
    refine lv_iload_n hx hb dA_apply_34 rfl (lv_at hl 0 rfl) ?_
    by_cases hc4 : x0 = 0
    · rw [if_pos hc4] at hf
      refine lv_tableIn (off := 29) (tgt := 64) hx hb dA_apply_35 (by rw [hc4]; decide) (by rw [hc4]; decide) (by rw [hc4]; decide) (by decide) ?_
      refine lv_aload_n hx hb dA_apply_64 rfl (lv_at hl 1 rfl) ?_
      refine lv_aload_n hx hb dA_apply_65 rfl (lv_at hl 2 rfl) ?_
      refine lv_aload_n hx hb dA_apply_66 rfl (lv_at hl 3 rfl) ?_
      obtain ⟨o5, hq6, hf⟩ := xbind hf
      obtain ⟨hPc, hDc, hFc⟩ := xcut (wc := [(a0, .inr (2, [.ref a1, .int v1, .int v2])), (a1, .inl (cT 2, 4096, .inr (.inl f0))), (a2, .inr (2, [.ref a3, .int v4, .int v5])), (a3, .inl (cT 2, 4096, .inr (.inl f3))), (a4, .inr (2, [.ref a5, .int v7, .int v8])), (a5, .inl (cT 2, 4096, .inr (.inl f6)))]) hP hD hS hA [4, 5, 0, 1, 2, 3] rfl rfl (by decide)
      refine va_calli (va_runS (As := [.ref a0, .ref a2, .ref a4]) (rest := []) ⟨hx, hb, hml, hown, htx⟩ (gA_plus l hl9 D cT aK aV H.size d n a0 a1 a2 a3 a4 a5 f0 v1 v2 f3 v4 v5 f6 v7 v8 o5 hq6) ⟨callB_of 3 htx (xw_goodC kw_3_122) rfl rfl rfl (htx _ kw_1_21) (htx _ kw_3_120) ⟨by decide, by decide, by decide +kernel⟩ ⟨(by show (16 * d + 4) + 1 ≤ 16 * d + 5; omega), (by show 8 + (3 + 11) + (400 * d + 128) ≤ 400 * d + 157; omega)⟩, htx _ kw_3_121⟩ ⟨xPre_blind, (fun U hU hW => ⟨rfl, xPre_of hZ hS hFc hPc hDc hK U hU hW⟩)⟩ rfl rfl hl.1 rfl (lv_room (Nat.le_of_ble_eq_true rfl)) dA_apply_67 ⟨Nat.le_of_ble_eq_true rfl, Nat.le_of_ble_eq_true rfl⟩) hS (fun q _ h => hFc q h) hFc (fun r7 u9 t H1 locs ht hvm hr9 hB hz1 hk1 hS => ?_)
      obtain ⟨hP1, hK1, hD1⟩ := hB
      rw [ht] at hP1
      obtain ⟨hP, hD⟩ := xjoin (W := [(a0, .inr (2, [.ref a1, .int v1, .int v2])), (a1, .inl (cT 2, 4096, .inr (.inl f0))), (a2, .inr (2, [.ref a3, .int v4, .int v5])), (a3, .inl (cT 2, 4096, .inr (.inl f3))), (a4, .inr (2, [.ref a5, .int o5.2.2.1, .int o5.2.2.2])), (a5, .inl (cT 2, 4096, .inr (.inl o5.2.1)))]) hP hD [4, 5, 0, 1, 2, 3] [] 0 rfl rfl (by decide) (by decide) hk1 hFc hP1 hD1
      generalize H1 = H at hP hS ⊢
      rw [hr9]
      refine W.eq (g2 := F0 m 70 ls [.int o5.1]) rfl ?_
      obtain rfl := Option.some.inj hf
      obtain ⟨hP9, hD9⟩ := xsub (wc := [(a0, .inr (2, [.ref a1, .int v1, .int v2])), (a1, .inl (cT 2, 4096, .inr (.inl f0))), (a2, .inr (2, [.ref a3, .int v4, .int v5])), (a3, .inl (cT 2, 4096, .inr (.inl f3))), (a4, .inr (2, [.ref a5, .int o5.2.2.1, .int o5.2.2.2])), (a5, .inl (cT 2, 4096, .inr (.inl o5.2.1)))]) hP hD [0, 1, 2, 3, 4, 5] rfl rfl (by decide)
      exact W.iret (v := o5.1) hx hb hr (fun t ht hW => ⟨⟨o5.1, (), rfl, rfl, by rw [ht]; exact hP9, va_K.moved hW.alike hK, hD9⟩, hS.F ht⟩) hS.2.2 dA_apply_70
    rw [if_neg hc4] at hf
    by_cases hc8 : x0 = 1
    · rw [if_pos hc8] at hf
      refine lv_tableIn (off := 36) (tgt := 71) hx hb dA_apply_35 (by rw [hc8]; decide) (by rw [hc8]; decide) (by rw [hc8]; decide) (by decide) ?_
      refine lv_aload_n hx hb dA_apply_71 rfl (lv_at hl 1 rfl) ?_
      refine lv_aload_n hx hb dA_apply_72 rfl (lv_at hl 2 rfl) ?_
      refine lv_aload_n hx hb dA_apply_73 rfl (lv_at hl 3 rfl) ?_
      obtain ⟨o9, hq10, hf⟩ := xbind hf
      obtain ⟨hPc, hDc, hFc⟩ := xcut (wc := [(a0, .inr (2, [.ref a1, .int v1, .int v2])), (a1, .inl (cT 2, 4096, .inr (.inl f0))), (a2, .inr (2, [.ref a3, .int v4, .int v5])), (a3, .inl (cT 2, 4096, .inr (.inl f3))), (a4, .inr (2, [.ref a5, .int v7, .int v8])), (a5, .inl (cT 2, 4096, .inr (.inl f6)))]) hP hD hS hA [4, 5, 0, 1, 2, 3] rfl rfl (by decide)
      refine va_calli (va_runS (As := [.ref a0, .ref a2, .ref a4]) (rest := []) ⟨hx, hb, hml, hown, htx⟩ (gA_minus l hl9 D cT aK aV H.size d n a0 a1 a2 a3 a4 a5 f0 v1 v2 f3 v4 v5 f6 v7 v8 o9 hq10) ⟨callB_of 3 htx (xw_goodC kw_3_155) rfl rfl rfl (htx _ kw_1_21) (htx _ kw_3_153) ⟨by decide, by decide, by decide +kernel⟩ ⟨(by show (16 * d + 3) + 1 ≤ 16 * d + 5; omega), (by show 8 + (7 + 11) + (400 * d + 105) ≤ 400 * d + 157; omega)⟩, htx _ kw_3_154⟩ ⟨xPre_blind, (fun U hU hW => ⟨rfl, xPre_of hZ hS hFc hPc hDc hK U hU hW⟩)⟩ rfl rfl hl.1 rfl (lv_room (Nat.le_of_ble_eq_true rfl)) dA_apply_74 ⟨Nat.le_of_ble_eq_true rfl, Nat.le_of_ble_eq_true rfl⟩) hS (fun q _ h => hFc q h) hFc (fun r11 u9 t H1 locs ht hvm hr9 hB hz1 hk1 hS => ?_)
      obtain ⟨hP1, hK1, hD1⟩ := hB
      rw [ht] at hP1
      obtain ⟨hP, hD⟩ := xjoin (W := [(a0, .inr (2, [.ref a1, .int v1, .int v2])), (a1, .inl (cT 2, 4096, .inr (.inl f0))), (a2, .inr (2, [.ref a3, .int v4, .int v5])), (a3, .inl (cT 2, 4096, .inr (.inl f3))), (a4, .inr (2, [.ref a5, .int o9.2.2.1, .int o9.2.2.2])), (a5, .inl (cT 2, 4096, .inr (.inl o9.2.1)))]) hP hD [4, 5, 0, 1, 2, 3] [] 0 rfl rfl (by decide) (by decide) hk1 hFc hP1 hD1
      generalize H1 = H at hP hS ⊢
      rw [hr9]
      refine W.eq (g2 := F0 m 77 ls [.int o9.1]) rfl ?_
      obtain rfl := Option.some.inj hf
      obtain ⟨hP9, hD9⟩ := xsub (wc := [(a0, .inr (2, [.ref a1, .int v1, .int v2])), (a1, .inl (cT 2, 4096, .inr (.inl f0))), (a2, .inr (2, [.ref a3, .int v4, .int v5])), (a3, .inl (cT 2, 4096, .inr (.inl f3))), (a4, .inr (2, [.ref a5, .int o9.2.2.1, .int o9.2.2.2])), (a5, .inl (cT 2, 4096, .inr (.inl o9.2.1)))]) hP hD [0, 1, 2, 3, 4, 5] rfl rfl (by decide)
      exact W.iret (v := o9.1) hx hb hr (fun t ht hW => ⟨⟨o9.1, (), rfl, rfl, by rw [ht]; exact hP9, va_K.moved hW.alike hK, hD9⟩, hS.F ht⟩) hS.2.2 dA_apply_77
    rw [if_neg hc8] at hf
    by_cases hc12 : x0 = 2
    · rw [if_pos hc12] at hf
      refine lv_tableIn (off := 43) (tgt := 78) hx hb dA_apply_35 (by rw [hc12]; decide) (by rw [hc12]; decide) (by rw [hc12]; decide) (by decide) ?_
      refine lv_aload_n hx hb dA_apply_78 rfl (lv_at hl 1 rfl) ?_
      refine lv_aload_n hx hb dA_apply_79 rfl (lv_at hl 2 rfl) ?_
      refine lv_aload_n hx hb dA_apply_80 rfl (lv_at hl 3 rfl) ?_
      obtain ⟨o13, hq14, hf⟩ := xbind hf
      obtain ⟨hPc, hDc, hFc⟩ := xcut (wc := [(a0, .inr (2, [.ref a1, .int v1, .int v2])), (a1, .inl (cT 2, 4096, .inr (.inl f0))), (a2, .inr (2, [.ref a3, .int v4, .int v5])), (a3, .inl (cT 2, 4096, .inr (.inl f3))), (a4, .inr (2, [.ref a5, .int v7, .int v8])), (a5, .inl (cT 2, 4096, .inr (.inl f6)))]) hP hD hS hA [4, 5, 0, 1, 2, 3] rfl rfl (by decide)
      refine va_calli (va_runS (As := [.ref a0, .ref a2, .ref a4]) (rest := []) ⟨hx, hb, hml, hown, htx⟩ (gA_times l hl9 D cT aK aV H.size d n a0 a1 a2 a3 a4 a5 f0 v1 v2 f3 v4 v5 f6 v7 v8 o13 hq14) ⟨callB_of 3 htx (xw_goodC kw_3_189) rfl rfl rfl (htx _ kw_1_21) (htx _ kw_3_187) ⟨by decide, by decide, by decide +kernel⟩ ⟨(by show (16 * d + 4) + 1 ≤ 16 * d + 5; omega), (by show 8 + (3 + 11) + (400 * d + 130) ≤ 400 * d + 157; omega)⟩, htx _ kw_3_188⟩ ⟨xPre_blind, (fun U hU hW => ⟨rfl, xPre_of hZ hS hFc hPc hDc hK U hU hW⟩)⟩ rfl rfl hl.1 rfl (lv_room (Nat.le_of_ble_eq_true rfl)) dA_apply_81 ⟨Nat.le_of_ble_eq_true rfl, Nat.le_of_ble_eq_true rfl⟩) hS (fun q _ h => hFc q h) hFc (fun r15 u9 t H1 locs ht hvm hr9 hB hz1 hk1 hS => ?_)
      obtain ⟨hP1, hK1, hD1⟩ := hB
      rw [ht] at hP1
      obtain ⟨hP, hD⟩ := xjoin (W := [(a0, .inr (2, [.ref a1, .int v1, .int v2])), (a1, .inl (cT 2, 4096, .inr (.inl f0))), (a2, .inr (2, [.ref a3, .int v4, .int v5])), (a3, .inl (cT 2, 4096, .inr (.inl f3))), (a4, .inr (2, [.ref a5, .int o13.2.2.1, .int o13.2.2.2])), (a5, .inl (cT 2, 4096, .inr (.inl o13.2.1)))]) hP hD [4, 5, 0, 1, 2, 3] [] 0 rfl rfl (by decide) (by decide) hk1 hFc hP1 hD1
      generalize H1 = H at hP hS ⊢
      rw [hr9]
      refine W.eq (g2 := F0 m 84 ls [.int o13.1]) rfl ?_
      obtain rfl := Option.some.inj hf
      obtain ⟨hP9, hD9⟩ := xsub (wc := [(a0, .inr (2, [.ref a1, .int v1, .int v2])), (a1, .inl (cT 2, 4096, .inr (.inl f0))), (a2, .inr (2, [.ref a3, .int v4, .int v5])), (a3, .inl (cT 2, 4096, .inr (.inl f3))), (a4, .inr (2, [.ref a5, .int o13.2.2.1, .int o13.2.2.2])), (a5, .inl (cT 2, 4096, .inr (.inl o13.2.1)))]) hP hD [0, 1, 2, 3, 4, 5] rfl rfl (by decide)
      exact W.iret (v := o13.1) hx hb hr (fun t ht hW => ⟨⟨o13.1, (), rfl, rfl, by rw [ht]; exact hP9, va_K.moved hW.alike hK, hD9⟩, hS.F ht⟩) hS.2.2 dA_apply_84
    rw [if_neg hc12] at hf
    by_cases hc16 : x0 = 3
    · rw [if_pos hc16] at hf
      refine lv_tableIn (off := 50) (tgt := 85) hx hb dA_apply_35 (by rw [hc16]; decide) (by rw [hc16]; decide) (by rw [hc16]; decide) (by decide) ?_
      refine lv_aload_n hx hb dA_apply_85 rfl (lv_at hl 1 rfl) ?_
      refine lv_aload_n hx hb dA_apply_86 rfl (lv_at hl 2 rfl) ?_
      refine lv_aload_n hx hb dA_apply_87 rfl (lv_at hl 3 rfl) ?_
      obtain ⟨o17, hq18, hf⟩ := xbind hf
      obtain ⟨hPc, hDc, hFc⟩ := xcut (wc := [(a0, .inr (2, [.ref a1, .int v1, .int v2])), (a1, .inl (cT 2, 4096, .inr (.inl f0))), (a2, .inr (2, [.ref a3, .int v4, .int v5])), (a3, .inl (cT 2, 4096, .inr (.inl f3))), (a4, .inr (2, [.ref a5, .int v7, .int v8])), (a5, .inl (cT 2, 4096, .inr (.inl f6)))]) hP hD hS hA [4, 5, 0, 1, 2, 3] rfl rfl (by decide)
      refine va_calli (va_runS (As := [.ref a0, .ref a2, .ref a4]) (rest := []) ⟨hx, hb, hml, hown, htx⟩ (gA_pieces l hl9 D cT aK aV H.size n a0 a1 a2 a3 a4 a5 f0 v1 v2 f3 v4 v5 f6 v7 v8 o17 hq18) ⟨callB_of 3 htx (xw_goodC kw_3_201) rfl rfl rfl (htx _ kw_1_21) (htx _ kw_3_199) ⟨by decide, by decide, by decide +kernel⟩ ⟨Nat.le_of_ble_eq_true rfl, Nat.le_of_ble_eq_true rfl⟩, htx _ kw_3_200⟩ ⟨xPre_blind, (fun U hU hW => ⟨rfl, xPre_of hZ hS hFc hPc hDc hK U hU hW⟩)⟩ rfl rfl hl.1 rfl (lv_room (Nat.le_of_ble_eq_true rfl)) dA_apply_88 ⟨Nat.le_of_ble_eq_true rfl, Nat.le_of_ble_eq_true rfl⟩) hS (fun q _ h => hFc q h) hFc (fun r19 u9 t H1 locs ht hvm hr9 hB hz1 hk1 hS => ?_)
      obtain ⟨hP1, hK1, hD1⟩ := hB
      rw [ht] at hP1
      obtain ⟨hP, hD⟩ := xjoin (W := [(a0, .inr (2, [.ref a1, .int v1, .int v2])), (a1, .inl (cT 2, 4096, .inr (.inl f0))), (a2, .inr (2, [.ref a3, .int v4, .int v5])), (a3, .inl (cT 2, 4096, .inr (.inl f3))), (a4, .inr (2, [.ref a5, .int o17.2.2.1, .int o17.2.2.2])), (a5, .inl (cT 2, 4096, .inr (.inl o17.2.1)))]) hP hD [4, 5, 0, 1, 2, 3] [] 0 rfl rfl (by decide) (by decide) hk1 hFc hP1 hD1
      generalize H1 = H at hP hS ⊢
      rw [hr9]
      refine W.eq (g2 := F0 m 91 ls [.int o17.1]) rfl ?_
      obtain rfl := Option.some.inj hf
      obtain ⟨hP9, hD9⟩ := xsub (wc := [(a0, .inr (2, [.ref a1, .int v1, .int v2])), (a1, .inl (cT 2, 4096, .inr (.inl f0))), (a2, .inr (2, [.ref a3, .int v4, .int v5])), (a3, .inl (cT 2, 4096, .inr (.inl f3))), (a4, .inr (2, [.ref a5, .int o17.2.2.1, .int o17.2.2.2])), (a5, .inl (cT 2, 4096, .inr (.inl o17.2.1)))]) hP hD [0, 1, 2, 3, 4, 5] rfl rfl (by decide)
      exact W.iret (v := o17.1) hx hb hr (fun t ht hW => ⟨⟨o17.1, (), rfl, rfl, by rw [ht]; exact hP9, va_K.moved hW.alike hK, hD9⟩, hS.F ht⟩) hS.2.2 dA_apply_91
    rw [if_neg hc16] at hf
    refine lv_tableOut (tgt := 92) hx hb dA_apply_35 (by have e0 : x0.toInt ≠ 0 := xsw hc4 (by decide); have e1 : x0.toInt ≠ 1 := xsw hc8 (by decide); have e2 : x0.toInt ≠ 2 := xsw hc12 (by decide); have e3 : x0.toInt ≠ 3 := xsw hc16 (by decide); omega) (by decide) ?_
    refine lv_iconst (v := 1) hx hb dA_apply_92 (by decide) ?_
    obtain rfl := Option.some.inj hf
    obtain ⟨hP9, hD9⟩ := xsub (wc := [(a0, .inr (2, [.ref a1, .int v1, .int v2])), (a1, .inl (cT 2, 4096, .inr (.inl f0))), (a2, .inr (2, [.ref a3, .int v4, .int v5])), (a3, .inl (cT 2, 4096, .inr (.inl f3))), (a4, .inr (2, [.ref a5, .int v7, .int v8])), (a5, .inl (cT 2, 4096, .inr (.inl f6)))]) hP hD [4, 5, 0, 1, 2, 3] rfl rfl (by decide)
    exact W.iret (v := (1 : Int32)) hx hb hr (fun t ht hW => ⟨⟨(1 : Int32), (), rfl, rfl, by rw [ht]; exact hP9, va_K.moved hW.alike hK, hD9⟩, hS.F ht⟩) hS.2.2 dA_apply_93
  · rw [if_neg hc] at hf
    refine lv_aload_n hx hb dA_apply_9 rfl (lv_at hl 2 rfl) ?_
    refine lv_iconst (v := 0) hx hb dA_apply_10 (by decide) ?_
    refine lv_iconst (v := 3) hx hb dA_apply_11 (by decide) ?_
    obtain ⟨o4, hq5, hf⟩ := xbind hf
    obtain ⟨hPc, hDc, hFc⟩ := xcut (wc := [(a2, .inr (2, [.ref a3, .int v4, .int v5])), (a3, .inl (cT 2, 4096, .inr (.inl f3)))]) hP hD hS hA [0, 1] rfl rfl (by decide)
    refine va_calli (va_runV (C := "ValueBench$Row") (As := [.int 0, .int 3]) (rest := []) ⟨hx, hb, hml, hown, htx⟩ (gR_is l hl9 D cT aK aV H.size n a2 a3 (0 : Int32) (3 : Int32) f3 v4 v5 o4 hq5) ⟨callB_of 2 htx (xw_goodC kw_3_75) rfl rfl rfl (htx _ kw_1_4) (htx _ kw_3_106) ⟨by decide, by decide, by decide +kernel⟩ ⟨Nat.le_of_ble_eq_true rfl, Nat.le_of_ble_eq_true rfl⟩, (htx _ kw_3_73), (htx _ kw_3_74)⟩ ⟨xPre_blind, va_recv hK hP (ci := 2) rfl (q0 := 0) rfl, (fun U hU hW => ⟨rfl, xPre_of hZ hS hFc hPc hDc hK U hU hW⟩)⟩ rfl rfl hl.1 rfl (lv_room (Nat.le_of_ble_eq_true rfl)) dA_apply_12 ⟨Nat.le_of_ble_eq_true rfl, Nat.le_of_ble_eq_true rfl⟩) hS (fun q _ h => hFc q h) hFc (fun r6 u9 t H1 locs ht hvm hr9 hB hz1 hk1 hS => ?_)
    obtain ⟨hP1, hK1, hD1⟩ := hB
    rw [ht] at hP1
    obtain ⟨hP, hD⟩ := xjoin (W := [(a4, .inr (2, [.ref a5, .int v7, .int v8])), (a5, .inl (cT 2, 4096, .inr (.inl f6))), (a0, .inr (2, [.ref a1, .int v1, .int v2])), (a1, .inl (cT 2, 4096, .inr (.inl f0))), (a2, .inr (2, [.ref a3, .int v4, .int v5])), (a3, .inl (cT 2, 4096, .inr (.inl f3)))]) hP hD [0, 1] [2, 3, 4, 5] 4 rfl rfl (by decide) (by decide) hk1 hFc hP1 hD1
    generalize H1 = H at hP hS ⊢
    rw [hr9]
    refine W.eq (g2 := F0 m 15 ls [.int o4]) rfl ?_
    refine lv_if_eq (tgt := 34) hx hb dA_apply_15 (by decide) (fun hc => ?_) (fun hc => ?_)
    · rw [if_pos hc] at hf
      refine lv_iload_n hx hb dA_apply_34 rfl (lv_at hl 0 rfl) ?_
      by_cases hc7 : x0 = 0
      · rw [if_pos hc7] at hf
        refine lv_tableIn (off := 29) (tgt := 64) hx hb dA_apply_35 (by rw [hc7]; decide) (by rw [hc7]; decide) (by rw [hc7]; decide) (by decide) ?_
        refine lv_aload_n hx hb dA_apply_64 rfl (lv_at hl 1 rfl) ?_
        refine lv_aload_n hx hb dA_apply_65 rfl (lv_at hl 2 rfl) ?_
        refine lv_aload_n hx hb dA_apply_66 rfl (lv_at hl 3 rfl) ?_
        obtain ⟨o8, hq9, hf⟩ := xbind hf
        obtain ⟨hPc, hDc, hFc⟩ := xcut (wc := [(a0, .inr (2, [.ref a1, .int v1, .int v2])), (a1, .inl (cT 2, 4096, .inr (.inl f0))), (a2, .inr (2, [.ref a3, .int v4, .int v5])), (a3, .inl (cT 2, 4096, .inr (.inl f3))), (a4, .inr (2, [.ref a5, .int v7, .int v8])), (a5, .inl (cT 2, 4096, .inr (.inl f6)))]) hP hD hS hA [2, 3, 4, 5, 0, 1] rfl rfl (by decide)
        refine va_calli (va_runS (As := [.ref a0, .ref a2, .ref a4]) (rest := []) ⟨hx, hb, hml, hown, htx⟩ (gA_plus l hl9 D cT aK aV H.size d n a0 a1 a2 a3 a4 a5 f0 v1 v2 f3 v4 v5 f6 v7 v8 o8 hq9) ⟨callB_of 3 htx (xw_goodC kw_3_122) rfl rfl rfl (htx _ kw_1_21) (htx _ kw_3_120) ⟨by decide, by decide, by decide +kernel⟩ ⟨(by show (16 * d + 4) + 1 ≤ 16 * d + 5; omega), (by show 8 + (3 + 11) + (400 * d + 128) ≤ 400 * d + 157; omega)⟩, htx _ kw_3_121⟩ ⟨xPre_blind, (fun U hU hW => ⟨rfl, xPre_of hZ hS hFc hPc hDc hK U hU hW⟩)⟩ rfl rfl hl.1 rfl (lv_room (Nat.le_of_ble_eq_true rfl)) dA_apply_67 ⟨Nat.le_of_ble_eq_true rfl, Nat.le_of_ble_eq_true rfl⟩) hS (fun q _ h => hFc q h) hFc (fun r10 u9 t H1 locs ht hvm hr9 hB hz1 hk1 hS => ?_)
        obtain ⟨hP1, hK1, hD1⟩ := hB
        rw [ht] at hP1
        obtain ⟨hP, hD⟩ := xjoin (W := [(a0, .inr (2, [.ref a1, .int v1, .int v2])), (a1, .inl (cT 2, 4096, .inr (.inl f0))), (a2, .inr (2, [.ref a3, .int v4, .int v5])), (a3, .inl (cT 2, 4096, .inr (.inl f3))), (a4, .inr (2, [.ref a5, .int o8.2.2.1, .int o8.2.2.2])), (a5, .inl (cT 2, 4096, .inr (.inl o8.2.1)))]) hP hD [2, 3, 4, 5, 0, 1] [] 0 rfl rfl (by decide) (by decide) hk1 hFc hP1 hD1
        generalize H1 = H at hP hS ⊢
        rw [hr9]
        refine W.eq (g2 := F0 m 70 ls [.int o8.1]) rfl ?_
        obtain rfl := Option.some.inj hf
        obtain ⟨hP9, hD9⟩ := xsub (wc := [(a0, .inr (2, [.ref a1, .int v1, .int v2])), (a1, .inl (cT 2, 4096, .inr (.inl f0))), (a2, .inr (2, [.ref a3, .int v4, .int v5])), (a3, .inl (cT 2, 4096, .inr (.inl f3))), (a4, .inr (2, [.ref a5, .int o8.2.2.1, .int o8.2.2.2])), (a5, .inl (cT 2, 4096, .inr (.inl o8.2.1)))]) hP hD [0, 1, 2, 3, 4, 5] rfl rfl (by decide)
        exact W.iret (v := o8.1) hx hb hr (fun t ht hW => ⟨⟨o8.1, (), rfl, rfl, by rw [ht]; exact hP9, va_K.moved hW.alike hK, hD9⟩, hS.F ht⟩) hS.2.2 dA_apply_70
      rw [if_neg hc7] at hf
      by_cases hc11 : x0 = 1
      · rw [if_pos hc11] at hf
        refine lv_tableIn (off := 36) (tgt := 71) hx hb dA_apply_35 (by rw [hc11]; decide) (by rw [hc11]; decide) (by rw [hc11]; decide) (by decide) ?_
        refine lv_aload_n hx hb dA_apply_71 rfl (lv_at hl 1 rfl) ?_
        refine lv_aload_n hx hb dA_apply_72 rfl (lv_at hl 2 rfl) ?_
        refine lv_aload_n hx hb dA_apply_73 rfl (lv_at hl 3 rfl) ?_
        obtain ⟨o12, hq13, hf⟩ := xbind hf
        obtain ⟨hPc, hDc, hFc⟩ := xcut (wc := [(a0, .inr (2, [.ref a1, .int v1, .int v2])), (a1, .inl (cT 2, 4096, .inr (.inl f0))), (a2, .inr (2, [.ref a3, .int v4, .int v5])), (a3, .inl (cT 2, 4096, .inr (.inl f3))), (a4, .inr (2, [.ref a5, .int v7, .int v8])), (a5, .inl (cT 2, 4096, .inr (.inl f6)))]) hP hD hS hA [2, 3, 4, 5, 0, 1] rfl rfl (by decide)
        refine va_calli (va_runS (As := [.ref a0, .ref a2, .ref a4]) (rest := []) ⟨hx, hb, hml, hown, htx⟩ (gA_minus l hl9 D cT aK aV H.size d n a0 a1 a2 a3 a4 a5 f0 v1 v2 f3 v4 v5 f6 v7 v8 o12 hq13) ⟨callB_of 3 htx (xw_goodC kw_3_155) rfl rfl rfl (htx _ kw_1_21) (htx _ kw_3_153) ⟨by decide, by decide, by decide +kernel⟩ ⟨(by show (16 * d + 3) + 1 ≤ 16 * d + 5; omega), (by show 8 + (7 + 11) + (400 * d + 105) ≤ 400 * d + 157; omega)⟩, htx _ kw_3_154⟩ ⟨xPre_blind, (fun U hU hW => ⟨rfl, xPre_of hZ hS hFc hPc hDc hK U hU hW⟩)⟩ rfl rfl hl.1 rfl (lv_room (Nat.le_of_ble_eq_true rfl)) dA_apply_74 ⟨Nat.le_of_ble_eq_true rfl, Nat.le_of_ble_eq_true rfl⟩) hS (fun q _ h => hFc q h) hFc (fun r14 u9 t H1 locs ht hvm hr9 hB hz1 hk1 hS => ?_)
        obtain ⟨hP1, hK1, hD1⟩ := hB
        rw [ht] at hP1
        obtain ⟨hP, hD⟩ := xjoin (W := [(a0, .inr (2, [.ref a1, .int v1, .int v2])), (a1, .inl (cT 2, 4096, .inr (.inl f0))), (a2, .inr (2, [.ref a3, .int v4, .int v5])), (a3, .inl (cT 2, 4096, .inr (.inl f3))), (a4, .inr (2, [.ref a5, .int o12.2.2.1, .int o12.2.2.2])), (a5, .inl (cT 2, 4096, .inr (.inl o12.2.1)))]) hP hD [2, 3, 4, 5, 0, 1] [] 0 rfl rfl (by decide) (by decide) hk1 hFc hP1 hD1
        generalize H1 = H at hP hS ⊢
        rw [hr9]
        refine W.eq (g2 := F0 m 77 ls [.int o12.1]) rfl ?_
        obtain rfl := Option.some.inj hf
        obtain ⟨hP9, hD9⟩ := xsub (wc := [(a0, .inr (2, [.ref a1, .int v1, .int v2])), (a1, .inl (cT 2, 4096, .inr (.inl f0))), (a2, .inr (2, [.ref a3, .int v4, .int v5])), (a3, .inl (cT 2, 4096, .inr (.inl f3))), (a4, .inr (2, [.ref a5, .int o12.2.2.1, .int o12.2.2.2])), (a5, .inl (cT 2, 4096, .inr (.inl o12.2.1)))]) hP hD [0, 1, 2, 3, 4, 5] rfl rfl (by decide)
        exact W.iret (v := o12.1) hx hb hr (fun t ht hW => ⟨⟨o12.1, (), rfl, rfl, by rw [ht]; exact hP9, va_K.moved hW.alike hK, hD9⟩, hS.F ht⟩) hS.2.2 dA_apply_77
      rw [if_neg hc11] at hf
      by_cases hc15 : x0 = 2
      · rw [if_pos hc15] at hf
        refine lv_tableIn (off := 43) (tgt := 78) hx hb dA_apply_35 (by rw [hc15]; decide) (by rw [hc15]; decide) (by rw [hc15]; decide) (by decide) ?_
        refine lv_aload_n hx hb dA_apply_78 rfl (lv_at hl 1 rfl) ?_
        refine lv_aload_n hx hb dA_apply_79 rfl (lv_at hl 2 rfl) ?_
        refine lv_aload_n hx hb dA_apply_80 rfl (lv_at hl 3 rfl) ?_
        obtain ⟨o16, hq17, hf⟩ := xbind hf
        obtain ⟨hPc, hDc, hFc⟩ := xcut (wc := [(a0, .inr (2, [.ref a1, .int v1, .int v2])), (a1, .inl (cT 2, 4096, .inr (.inl f0))), (a2, .inr (2, [.ref a3, .int v4, .int v5])), (a3, .inl (cT 2, 4096, .inr (.inl f3))), (a4, .inr (2, [.ref a5, .int v7, .int v8])), (a5, .inl (cT 2, 4096, .inr (.inl f6)))]) hP hD hS hA [2, 3, 4, 5, 0, 1] rfl rfl (by decide)
        refine va_calli (va_runS (As := [.ref a0, .ref a2, .ref a4]) (rest := []) ⟨hx, hb, hml, hown, htx⟩ (gA_times l hl9 D cT aK aV H.size d n a0 a1 a2 a3 a4 a5 f0 v1 v2 f3 v4 v5 f6 v7 v8 o16 hq17) ⟨callB_of 3 htx (xw_goodC kw_3_189) rfl rfl rfl (htx _ kw_1_21) (htx _ kw_3_187) ⟨by decide, by decide, by decide +kernel⟩ ⟨(by show (16 * d + 4) + 1 ≤ 16 * d + 5; omega), (by show 8 + (3 + 11) + (400 * d + 130) ≤ 400 * d + 157; omega)⟩, htx _ kw_3_188⟩ ⟨xPre_blind, (fun U hU hW => ⟨rfl, xPre_of hZ hS hFc hPc hDc hK U hU hW⟩)⟩ rfl rfl hl.1 rfl (lv_room (Nat.le_of_ble_eq_true rfl)) dA_apply_81 ⟨Nat.le_of_ble_eq_true rfl, Nat.le_of_ble_eq_true rfl⟩) hS (fun q _ h => hFc q h) hFc (fun r18 u9 t H1 locs ht hvm hr9 hB hz1 hk1 hS => ?_)
        obtain ⟨hP1, hK1, hD1⟩ := hB
        rw [ht] at hP1
        obtain ⟨hP, hD⟩ := xjoin (W := [(a0, .inr (2, [.ref a1, .int v1, .int v2])), (a1, .inl (cT 2, 4096, .inr (.inl f0))), (a2, .inr (2, [.ref a3, .int v4, .int v5])), (a3, .inl (cT 2, 4096, .inr (.inl f3))), (a4, .inr (2, [.ref a5, .int o16.2.2.1, .int o16.2.2.2])), (a5, .inl (cT 2, 4096, .inr (.inl o16.2.1)))]) hP hD [2, 3, 4, 5, 0, 1] [] 0 rfl rfl (by decide) (by decide) hk1 hFc hP1 hD1
        generalize H1 = H at hP hS ⊢
        rw [hr9]
        refine W.eq (g2 := F0 m 84 ls [.int o16.1]) rfl ?_
        obtain rfl := Option.some.inj hf
        obtain ⟨hP9, hD9⟩ := xsub (wc := [(a0, .inr (2, [.ref a1, .int v1, .int v2])), (a1, .inl (cT 2, 4096, .inr (.inl f0))), (a2, .inr (2, [.ref a3, .int v4, .int v5])), (a3, .inl (cT 2, 4096, .inr (.inl f3))), (a4, .inr (2, [.ref a5, .int o16.2.2.1, .int o16.2.2.2])), (a5, .inl (cT 2, 4096, .inr (.inl o16.2.1)))]) hP hD [0, 1, 2, 3, 4, 5] rfl rfl (by decide)
        exact W.iret (v := o16.1) hx hb hr (fun t ht hW => ⟨⟨o16.1, (), rfl, rfl, by rw [ht]; exact hP9, va_K.moved hW.alike hK, hD9⟩, hS.F ht⟩) hS.2.2 dA_apply_84
      rw [if_neg hc15] at hf
      by_cases hc19 : x0 = 3
      · rw [if_pos hc19] at hf
        refine lv_tableIn (off := 50) (tgt := 85) hx hb dA_apply_35 (by rw [hc19]; decide) (by rw [hc19]; decide) (by rw [hc19]; decide) (by decide) ?_
        refine lv_aload_n hx hb dA_apply_85 rfl (lv_at hl 1 rfl) ?_
        refine lv_aload_n hx hb dA_apply_86 rfl (lv_at hl 2 rfl) ?_
        refine lv_aload_n hx hb dA_apply_87 rfl (lv_at hl 3 rfl) ?_
        obtain ⟨o20, hq21, hf⟩ := xbind hf
        obtain ⟨hPc, hDc, hFc⟩ := xcut (wc := [(a0, .inr (2, [.ref a1, .int v1, .int v2])), (a1, .inl (cT 2, 4096, .inr (.inl f0))), (a2, .inr (2, [.ref a3, .int v4, .int v5])), (a3, .inl (cT 2, 4096, .inr (.inl f3))), (a4, .inr (2, [.ref a5, .int v7, .int v8])), (a5, .inl (cT 2, 4096, .inr (.inl f6)))]) hP hD hS hA [2, 3, 4, 5, 0, 1] rfl rfl (by decide)
        refine va_calli (va_runS (As := [.ref a0, .ref a2, .ref a4]) (rest := []) ⟨hx, hb, hml, hown, htx⟩ (gA_pieces l hl9 D cT aK aV H.size n a0 a1 a2 a3 a4 a5 f0 v1 v2 f3 v4 v5 f6 v7 v8 o20 hq21) ⟨callB_of 3 htx (xw_goodC kw_3_201) rfl rfl rfl (htx _ kw_1_21) (htx _ kw_3_199) ⟨by decide, by decide, by decide +kernel⟩ ⟨Nat.le_of_ble_eq_true rfl, Nat.le_of_ble_eq_true rfl⟩, htx _ kw_3_200⟩ ⟨xPre_blind, (fun U hU hW => ⟨rfl, xPre_of hZ hS hFc hPc hDc hK U hU hW⟩)⟩ rfl rfl hl.1 rfl (lv_room (Nat.le_of_ble_eq_true rfl)) dA_apply_88 ⟨Nat.le_of_ble_eq_true rfl, Nat.le_of_ble_eq_true rfl⟩) hS (fun q _ h => hFc q h) hFc (fun r22 u9 t H1 locs ht hvm hr9 hB hz1 hk1 hS => ?_)
        obtain ⟨hP1, hK1, hD1⟩ := hB
        rw [ht] at hP1
        obtain ⟨hP, hD⟩ := xjoin (W := [(a0, .inr (2, [.ref a1, .int v1, .int v2])), (a1, .inl (cT 2, 4096, .inr (.inl f0))), (a2, .inr (2, [.ref a3, .int v4, .int v5])), (a3, .inl (cT 2, 4096, .inr (.inl f3))), (a4, .inr (2, [.ref a5, .int o20.2.2.1, .int o20.2.2.2])), (a5, .inl (cT 2, 4096, .inr (.inl o20.2.1)))]) hP hD [2, 3, 4, 5, 0, 1] [] 0 rfl rfl (by decide) (by decide) hk1 hFc hP1 hD1
        generalize H1 = H at hP hS ⊢
        rw [hr9]
        refine W.eq (g2 := F0 m 91 ls [.int o20.1]) rfl ?_
        obtain rfl := Option.some.inj hf
        obtain ⟨hP9, hD9⟩ := xsub (wc := [(a0, .inr (2, [.ref a1, .int v1, .int v2])), (a1, .inl (cT 2, 4096, .inr (.inl f0))), (a2, .inr (2, [.ref a3, .int v4, .int v5])), (a3, .inl (cT 2, 4096, .inr (.inl f3))), (a4, .inr (2, [.ref a5, .int o20.2.2.1, .int o20.2.2.2])), (a5, .inl (cT 2, 4096, .inr (.inl o20.2.1)))]) hP hD [0, 1, 2, 3, 4, 5] rfl rfl (by decide)
        exact W.iret (v := o20.1) hx hb hr (fun t ht hW => ⟨⟨o20.1, (), rfl, rfl, by rw [ht]; exact hP9, va_K.moved hW.alike hK, hD9⟩, hS.F ht⟩) hS.2.2 dA_apply_91
      rw [if_neg hc19] at hf
      refine lv_tableOut (tgt := 92) hx hb dA_apply_35 (by have e0 : x0.toInt ≠ 0 := xsw hc7 (by decide); have e1 : x0.toInt ≠ 1 := xsw hc11 (by decide); have e2 : x0.toInt ≠ 2 := xsw hc15 (by decide); have e3 : x0.toInt ≠ 3 := xsw hc19 (by decide); omega) (by decide) ?_
      refine lv_iconst (v := 1) hx hb dA_apply_92 (by decide) ?_
      obtain rfl := Option.some.inj hf
      obtain ⟨hP9, hD9⟩ := xsub (wc := [(a0, .inr (2, [.ref a1, .int v1, .int v2])), (a1, .inl (cT 2, 4096, .inr (.inl f0))), (a2, .inr (2, [.ref a3, .int v4, .int v5])), (a3, .inl (cT 2, 4096, .inr (.inl f3))), (a4, .inr (2, [.ref a5, .int v7, .int v8])), (a5, .inl (cT 2, 4096, .inr (.inl f6)))]) hP hD [2, 3, 4, 5, 0, 1] rfl rfl (by decide)
      exact W.iret (v := (1 : Int32)) hx hb hr (fun t ht hW => ⟨⟨(1 : Int32), (), rfl, rfl, by rw [ht]; exact hP9, va_K.moved hW.alike hK, hD9⟩, hS.F ht⟩) hS.2.2 dA_apply_93
    · rw [if_neg hc] at hf
      refine lv_iload_n hx hb dA_apply_18 rfl (lv_at hl 0 rfl) ?_
      refine lv_aload_n hx hb dA_apply_19 rfl (lv_at hl 1 rfl) ?_
      refine lv_iconst (v := 0) hx hb dA_apply_20 (by decide) ?_
      obtain ⟨o7, hq8, hf⟩ := xbind hf
      obtain ⟨hPc, hDc, hFc⟩ := xcut (wc := [(a0, .inr (2, [.ref a1, .int v1, .int v2])), (a1, .inl (cT 2, 4096, .inr (.inl f0)))]) hP hD hS hA [2, 3] rfl rfl (by decide)
      refine va_calll (va_runV (C := "ValueBench$Row") (As := [.int 0]) (rest := [.int x0]) ⟨hx, hb, hml, hown, htx⟩ (gR_number l hl9 D cT aK aV H.size n a0 a1 (0 : Int32) f0 v1 v2 o7 hq8) ⟨callB_of 1 htx (xw_goodC kw_3_37) rfl rfl rfl (htx _ kw_1_4) (htx _ kw_3_107) ⟨by decide, by decide, by decide +kernel⟩ ⟨Nat.le_of_ble_eq_true rfl, Nat.le_of_ble_eq_true rfl⟩, (htx _ kw_3_35), (htx _ kw_3_36)⟩ ⟨xPre_blind, va_recv hK hP (ci := 2) rfl (q0 := 2) rfl, (fun U hU hW => ⟨rfl, xPre_of hZ hS hFc hPc hDc hK U hU hW⟩)⟩ rfl rfl hl.1 rfl (lv_room (Nat.le_of_ble_eq_true rfl)) dA_apply_21 ⟨Nat.le_of_ble_eq_true rfl, Nat.le_of_ble_eq_true rfl⟩) hS (fun q _ h => hFc q h) hFc (fun r9 u9 t H1 locs ht hvm hr9 hB hz1 hk1 hS => ?_)
      obtain ⟨hP1, hK1, hD1⟩ := hB
      rw [ht] at hP1
      obtain ⟨hP, hD⟩ := xjoin (W := [(a4, .inr (2, [.ref a5, .int v7, .int v8])), (a5, .inl (cT 2, 4096, .inr (.inl f6))), (a2, .inr (2, [.ref a3, .int v4, .int v5])), (a3, .inl (cT 2, 4096, .inr (.inl f3))), (a0, .inr (2, [.ref a1, .int v1, .int v2])), (a1, .inl (cT 2, 4096, .inr (.inl f0)))]) hP hD [2, 3] [0, 1, 4, 5] 4 rfl rfl (by decide) (by decide) hk1 hFc hP1 hD1
      generalize H1 = H at hP hS ⊢
      rw [hr9]
      refine W.eq (g2 := F0 m 24 ls [.long o7, .int x0]) rfl ?_
      refine lv_aload_n hx hb dA_apply_24 rfl (lv_at hl 2 rfl) ?_
      refine lv_iconst (v := 0) hx hb dA_apply_25 (by decide) ?_
      obtain ⟨o10, hq11, hf⟩ := xbind hf
      obtain ⟨hPc, hDc, hFc⟩ := xcut (wc := [(a2, .inr (2, [.ref a3, .int v4, .int v5])), (a3, .inl (cT 2, 4096, .inr (.inl f3)))]) hP hD hS hA [2, 3] rfl rfl (by decide)
      refine va_calll (va_runV (C := "ValueBench$Row") (As := [.int 0]) (rest := [.long o7, .int x0]) ⟨hx, hb, hml, hown, htx⟩ (gR_number l hl9 D cT aK aV H.size n a2 a3 (0 : Int32) f3 v4 v5 o10 hq11) ⟨callB_of 1 htx (xw_goodC kw_3_37) rfl rfl rfl (htx _ kw_1_4) (htx _ kw_3_107) ⟨by decide, by decide, by decide +kernel⟩ ⟨Nat.le_of_ble_eq_true rfl, Nat.le_of_ble_eq_true rfl⟩, (htx _ kw_3_35), (htx _ kw_3_36)⟩ ⟨xPre_blind, va_recv hK hP (ci := 2) rfl (q0 := 2) rfl, (fun U hU hW => ⟨rfl, xPre_of hZ hS hFc hPc hDc hK U hU hW⟩)⟩ rfl rfl hl.1 rfl (lv_room (Nat.le_of_ble_eq_true rfl)) dA_apply_26 ⟨Nat.le_of_ble_eq_true rfl, Nat.le_of_ble_eq_true rfl⟩) hS (fun q _ h => hFc q h) hFc (fun r12 u9 t H1 locs ht hvm hr9 hB hz1 hk1 hS => ?_)
      obtain ⟨hP1, hK1, hD1⟩ := hB
      rw [ht] at hP1
      obtain ⟨hP, hD⟩ := xjoin (W := [(a4, .inr (2, [.ref a5, .int v7, .int v8])), (a5, .inl (cT 2, 4096, .inr (.inl f6))), (a0, .inr (2, [.ref a1, .int v1, .int v2])), (a1, .inl (cT 2, 4096, .inr (.inl f0))), (a2, .inr (2, [.ref a3, .int v4, .int v5])), (a3, .inl (cT 2, 4096, .inr (.inl f3)))]) hP hD [2, 3] [0, 1, 4, 5] 4 rfl rfl (by decide) (by decide) hk1 hFc hP1 hD1
      generalize H1 = H at hP hS ⊢
      rw [hr9]
      refine W.eq (g2 := F0 m 29 ls [.long o10, .long o7, .int x0]) rfl ?_
      refine lv_aload_n hx hb dA_apply_29 rfl (lv_at hl 3 rfl) ?_
      obtain ⟨o13, hq14, hf⟩ := xbind hf
      obtain ⟨hPc, hDc, hFc⟩ := xcut (wc := [(a4, .inr (2, [.ref a5, .int v7, .int v8])), (a5, .inl (cT 2, 4096, .inr (.inl f6)))]) hP hD hS hA [0, 1] rfl rfl (by decide)
      refine va_calli (va_runS (As := [.int x0, .long o7, .long o10, .ref a4]) (rest := []) ⟨hx, hb, hml, hown, htx⟩ (gA_ofNumbers l hl9 D cT aK aV H.size n a4 a5 x0 o7 o10 f6 v7 v8 o13 hq14) ⟨callB_of 4 htx (xw_goodC kw_3_110) rfl rfl rfl (htx _ kw_1_21) (htx _ kw_3_108) ⟨by decide, by decide, by decide +kernel⟩ ⟨Nat.le_of_ble_eq_true rfl, Nat.le_of_ble_eq_true rfl⟩, htx _ kw_3_109⟩ ⟨xPre_blind, (fun U hU hW => ⟨rfl, xPre_of hZ hS hFc hPc hDc hK U hU hW⟩)⟩ rfl rfl hl.1 rfl (lv_room (Nat.le_of_ble_eq_true rfl)) dA_apply_30 ⟨Nat.le_of_ble_eq_true rfl, Nat.le_of_ble_eq_true rfl⟩) hS (fun q _ h => hFc q h) hFc (fun r15 u9 t H1 locs ht hvm hr9 hB hz1 hk1 hS => ?_)
      obtain ⟨hP1, hK1, hD1⟩ := hB
      rw [ht] at hP1
      obtain ⟨hP, hD⟩ := xjoin (W := [(a0, .inr (2, [.ref a1, .int v1, .int v2])), (a1, .inl (cT 2, 4096, .inr (.inl f0))), (a2, .inr (2, [.ref a3, .int v4, .int v5])), (a3, .inl (cT 2, 4096, .inr (.inl f3))), (a4, .inr (2, [.ref a5, .int o13.2.2.1, .int o13.2.2.2])), (a5, .inl (cT 2, 4096, .inr (.inl o13.2.1)))]) hP hD [0, 1] [2, 3, 4, 5] 4 rfl rfl (by decide) (by decide) hk1 hFc hP1 hD1
      generalize H1 = H at hP hS ⊢
      rw [hr9]
      refine W.eq (g2 := F0 m 33 ls [.int o13.1]) rfl ?_
      obtain rfl := Option.some.inj hf
      obtain ⟨hP9, hD9⟩ := xsub (wc := [(a0, .inr (2, [.ref a1, .int v1, .int v2])), (a1, .inl (cT 2, 4096, .inr (.inl f0))), (a2, .inr (2, [.ref a3, .int v4, .int v5])), (a3, .inl (cT 2, 4096, .inr (.inl f3))), (a4, .inr (2, [.ref a5, .int o13.2.2.1, .int o13.2.2.2])), (a5, .inl (cT 2, 4096, .inr (.inl o13.2.1)))]) hP hD [0, 1, 2, 3, 4, 5] rfl rfl (by decide)
      exact W.iret (v := o13.1) hx hb hr (fun t ht hW => ⟨⟨o13.1, (), rfl, rfl, by rw [ht]; exact hP9, va_K.moved hW.alike hK, hD9⟩, hS.F ht⟩) hS.2.2 dA_apply_33
set_option maxHeartbeats 400000000 in
set_option maxRecDepth 100000 in
theorem gA_putOneBehindOthera (l : Launch) (hl9 : l.stackTraces = false) (D : va_G) (cT : Nat → ClassId) (aK aV : Nat → Nat) (sz n : Nat) (a0 : Nat) (a1 : Nat) (a2 : Nat) (a3 : Nat) (f0 : Nat → Int64) (v1 : Int32) (v2 : Int32) (f3 : Nat → Int64) (v4 : Int32) (v5 : Int32) (out : (Nat → Int64) × Int32 × Int32) (hf : fA_putOneBehindOthera n f0 v1 v2 f3 v4 v5 = some out) : xMet l yA_putOneBehindOther wyA_putOneBehindOther 3 0 0 105 D cT aK aV sz [.ref a0, .ref a0, .ref a2] [(a0, .inr (2, [.ref a1, .int v1, .int v2])), (a1, .inl (cT 2, 4096, .inr (.inl f0))), (a2, .inr (2, [.ref a3, .int v4, .int v5])), (a3, .inl (cT 2, 4096, .inr (.inl f3)))] (fun A => va_Qv (fun _ : Unit => True) (fun _ t => xB D xcl cT A [(a0, .inr (2, [.ref a1, .int v1, .int v2])), (a1, .inl (cT 2, 4096, .inr (.inl f0))), (a2, .inr (2, [.ref a3, .int out.2.1, .int out.2.2])), (a3, .inl (cT 2, 4096, .inr (.inl out.1)))] t) A) := by
  refine Met.ofW (cc := prog_3_method_7_code) (maxL := 4) (ret := none) (by decide) rfl ?_
  intro p e s m args below meth c s₁ B hml hv
  obtain ⟨rfl, hsz, hZ, hP, hK, hD0⟩ := hv
  have hx := B.exec
  have hb := B.bytes
  have hr := B.returns
  have hts := atoms_spec (ws := wyA_putOneBehindOther) B.pre
  have htx := fun w h => hts w (List.mem_cons_of_mem _ h)
  have hown : s.vm.findClass "ValueBench$Operators" = some m.cls := findClass_of_methodNamed B.named
  have hlocks := B.notSynchronized
  subst hsz
  have hD := hD0.self (sz := s.heap.size)
  generalize hAe : va_A [(a0, .inr (2, [.ref a1, .int v1, .int v2])), (a1, .inl (cT 2, 4096, .inr (.inl f0))), (a2, .inr (2, [.ref a3, .int v4, .int v5])), (a3, .inl (cT 2, 4096, .inr (.inl f3)))] s.heap.size = A at hD hZ ⊢
  have hA : ∀ q : Nat, s.heap.size ≤ q → A q := fun q h => by rw [← hAe]; exact Or.inr h
  have hS : va_S A s.heap s.heap [] := va_S.rf
  have hP : va_P D xcl [(a0, .inr (2, [.ref a1, .int v1, .int v2])), (a1, .inl (cT 2, 4096, .inr (.inl f0))), (a2, .inr (2, [.ref a3, .int v4, .int v5])), (a3, .inl (cT 2, 4096, .inr (.inl f3)))] s.heap := hP
  have hl := lv_entry ([.ref a0, .ref a0, .ref a2]) (n := 4) (Nat.le_of_ble_eq_true rfl)
  rw [lg_entry_eq]
  generalize (lg_sl ([.ref a0, .ref a0, .ref a2]) ++ List.replicate (4 - (lg_sl ([.ref a0, .ref a0, .ref a2])).length) Slot.unset).toArray = ls at hl ⊢
  have hl : lv_has ls 4 [(0, .ref a0), (1, .ref a0), (2, .ref a2)] := hl
  unfold fA_putOneBehindOthera at hf
  refine lv_aload_n hx hb dA_putOneBehindOther_0 rfl (lv_at hl 2 rfl) ?_
  obtain ⟨o1, hq2, hf⟩ := xbind hf
  obtain ⟨hPc, hDc, hFc⟩ := xcut (wc := [(a2, .inr (2, [.ref a3, .int v4, .int v5])), (a3, .inl (cT 2, 4096, .inr (.inl f3)))]) hP hD hS hA [2, 3] rfl rfl (by decide)
  refine va_calli (va_runV (C := "ValueBench$Row") (As := []) (rest := []) ⟨hx, hb, hml, hown, htx⟩ (gR_open l hl9 D cT aK aV s.heap.size n a2 a3 f3 v4 v5 o1 hq2) ⟨callB_of 0 htx (xw_goodC kw_2_136) rfl rfl rfl (htx _ kw_1_4) (htx _ kw_3_138) ⟨by decide, by decide, by decide +kernel⟩ ⟨Nat.le_of_ble_eq_true rfl, Nat.le_of_ble_eq_true rfl⟩, (htx _ kw_2_134), (htx _ kw_2_135)⟩ ⟨xPre_blind, va_recv hK hP (ci := 2) rfl (q0 := 2) rfl, (fun U hU hW => ⟨rfl, xPre_of hZ hS hFc hPc hDc hK U hU hW⟩)⟩ rfl rfl hl.1 rfl (lv_room (Nat.le_of_ble_eq_true rfl)) dA_putOneBehindOther_1 ⟨Nat.le_of_ble_eq_true rfl, Nat.le_of_ble_eq_true rfl⟩) hS (fun q _ h => hFc q h) hFc (fun r3 u9 t H1 locs ht hvm hr9 hB hz1 hk1 hS => ?_)
  obtain ⟨hP1, hK1, hD1⟩ := hB
  rw [ht] at hP1
  obtain ⟨hP, hD⟩ := xjoin (W := [(a0, .inr (2, [.ref a1, .int v1, .int v2])), (a1, .inl (cT 2, 4096, .inr (.inl f0))), (a2, .inr (2, [.ref a3, .int o1.2.2.1, .int o1.2.2.2])), (a3, .inl (cT 2, 4096, .inr (.inl o1.2.1)))]) hP hD [2, 3] [0, 1] 2 rfl rfl (by decide) (by decide) hk1 hFc hP1 hD1
  generalize H1 = H at hP hS ⊢
  rw [hr9]
  refine W.eq (g2 := F0 m 4 ls [.int o1.1]) rfl ?_
  refine lv_istore_n (lv' := [(3, .int o1.1), (0, .ref a0), (1, .ref a0), (2, .ref a2)]) hx hb dA_putOneBehindOther_4 rfl hl (by decide) rfl (fun ls hl => ?_)
  refine lv_aload_n hx hb dA_putOneBehindOther_5 rfl (lv_at hl 3 rfl) ?_
  refine lv_aload_n hx hb dA_putOneBehindOther_6 rfl (lv_at hl 1 rfl) ?_
  refine lv_iconst (v := 0) hx hb dA_putOneBehindOther_7 (by decide) ?_
  obtain ⟨o4, hq5, hf⟩ := xbind hf
  obtain ⟨hPc, hDc, hFc⟩ := xcut (wc := [(a2, .inr (2, [.ref a3, .int o1.2.2.1, .int o1.2.2.2])), (a3, .inl (cT 2, 4096, .inr (.inl o1.2.1))), (a0, .inr (2, [.ref a1, .int v1, .int v2])), (a1, .inl (cT 2, 4096, .inr (.inl f0)))]) hP hD hS hA [2, 3, 0, 1] rfl rfl (by decide)
  refine va_callv (va_runV (C := "ValueBench$Row") (As := [.ref a0, .int 0]) (rest := []) ⟨hx, hb, hml, hown, htx⟩ (gR_putInside l hl9 D cT aK aV H.size n a2 a3 a0 a1 (0 : Int32) o1.2.1 o1.2.2.1 o1.2.2.2 f0 v1 v2 o4 hq5) ⟨callB_of 2 htx (xw_goodC kw_3_142) rfl rfl rfl (htx _ kw_1_4) (htx _ kw_3_139) ⟨by decide, by decide, by decide +kernel⟩ ⟨Nat.le_of_ble_eq_true rfl, Nat.le_of_ble_eq_true rfl⟩, (htx _ kw_3_140), (htx _ kw_3_141)⟩ ⟨xPre_blind, va_recv hK hP (ci := 2) rfl (q0 := 2) rfl, (fun U hU hW => ⟨rfl, xPre_of hZ hS hFc hPc hDc hK U hU hW⟩)⟩ rfl rfl hl.1 rfl (lv_room (Nat.le_of_ble_eq_true rfl)) dA_putOneBehindOther_8 ⟨Nat.le_of_ble_eq_true rfl, Nat.le_of_ble_eq_true rfl⟩) hS (fun q _ h => hFc q h) hFc (fun u9 t H1 locs ht hvm hr9 hB hz1 hk1 hS => ?_)
  obtain ⟨hP1, hK1, hD1⟩ := hB
  rw [ht] at hP1
  obtain ⟨hP, hD⟩ := xjoin (W := [(a2, .inr (2, [.ref a3, .int o4.2.1, .int o4.2.2])), (a3, .inl (cT 2, 4096, .inr (.inl o4.1))), (a0, .inr (2, [.ref a1, .int v1, .int v2])), (a1, .inl (cT 2, 4096, .inr (.inl f0)))]) hP hD [2, 3, 0, 1] [] 0 rfl rfl (by decide) (by decide) hk1 hFc hP1 hD1
  generalize H1 = H at hP hS ⊢
  refine lv_aload_n hx hb dA_putOneBehindOther_11 rfl (lv_at hl 3 rfl) ?_
  refine lv_aload_n hx hb dA_putOneBehindOther_12 rfl (lv_at hl 2 rfl) ?_
  refine lv_iconst (v := 0) hx hb dA_putOneBehindOther_13 (by decide) ?_
  obtain ⟨o6, hq7, hf⟩ := xbind hf
  obtain ⟨hPc, hDc, hFc⟩ := xcut (wc := [(a2, .inr (2, [.ref a3, .int o4.2.1, .int o4.2.2])), (a3, .inl (cT 2, 4096, .inr (.inl o4.1))), (a0, .inr (2, [.ref a1, .int v1, .int v2])), (a1, .inl (cT 2, 4096, .inr (.inl f0)))]) hP hD hS hA [0, 1, 2, 3] rfl rfl (by decide)
  refine va_callv (va_runV (C := "ValueBench$Row") (As := [.ref a0, .int 0]) (rest := []) ⟨hx, hb, hml, hown, htx⟩ (gR_putInside l hl9 D cT aK aV H.size n a2 a3 a0 a1 (0 : Int32) o4.1 o4.2.1 o4.2.2 f0 v1 v2 o6 hq7) ⟨callB_of 2 htx (xw_goodC kw_3_142) rfl rfl rfl (htx _ kw_1_4) (htx _ kw_3_139) ⟨by decide, by decide, by decide +kernel⟩ ⟨Nat.le_of_ble_eq_true rfl, Nat.le_of_ble_eq_true rfl⟩, (htx _ kw_3_140), (htx _ kw_3_141)⟩ ⟨xPre_blind, va_recv hK hP (ci := 2) rfl (q0 := 0) rfl, (fun U hU hW => ⟨rfl, xPre_of hZ hS hFc hPc hDc hK U hU hW⟩)⟩ rfl rfl hl.1 rfl (lv_room (Nat.le_of_ble_eq_true rfl)) dA_putOneBehindOther_14 ⟨Nat.le_of_ble_eq_true rfl, Nat.le_of_ble_eq_true rfl⟩) hS (fun q _ h => hFc q h) hFc (fun u9 t H1 locs ht hvm hr9 hB hz1 hk1 hS => ?_)
  obtain ⟨hP1, hK1, hD1⟩ := hB
  rw [ht] at hP1
  obtain ⟨hP, hD⟩ := xjoin (W := [(a2, .inr (2, [.ref a3, .int o6.2.1, .int o6.2.2])), (a3, .inl (cT 2, 4096, .inr (.inl o6.1))), (a0, .inr (2, [.ref a1, .int v1, .int v2])), (a1, .inl (cT 2, 4096, .inr (.inl f0)))]) hP hD [0, 1, 2, 3] [] 0 rfl rfl (by decide) (by decide) hk1 hFc hP1 hD1
  generalize H1 = H at hP hS ⊢
  refine lv_aload_n hx hb dA_putOneBehindOther_17 rfl (lv_at hl 3 rfl) ?_
  refine lv_iload_n hx hb dA_putOneBehindOther_18 rfl (lv_at hl 0 rfl) ?_
  refine lv_aload_n hx hb dA_putOneBehindOther_19 rfl (lv_at hl 1 rfl) ?_
  refine lv_iconst (v := 0) hx hb dA_putOneBehindOther_20 (by decide) ?_
  obtain ⟨o8, hq9, hf⟩ := xbind hf
  obtain ⟨hPc, hDc, hFc⟩ := xcut (wc := [(a0, .inr (2, [.ref a1, .int v1, .int v2])), (a1, .inl (cT 2, 4096, .inr (.inl f0)))]) hP hD hS hA [2, 3] rfl rfl (by decide)
  refine va_calli (va_runV (C := "ValueBench$Row") (As := [.int 0]) (rest := [.int o1.1, .ref a2]) ⟨hx, hb, hml, hown, htx⟩ (gR_kind l hl9 D cT aK aV H.size n a0 a1 (0 : Int32) f0 v1 v2 o8 hq9) ⟨callB_of 1 htx (xw_goodC kw_3_24) rfl rfl rfl (htx _ kw_1_4) (htx _ kw_3_134) ⟨by decide, by decide, by decide +kernel⟩ ⟨Nat.le_of_ble_eq_true rfl, Nat.le_of_ble_eq_true rfl⟩, (htx _ kw_3_22), (htx _ kw_3_23)⟩ ⟨xPre_blind, va_recv hK hP (ci := 2) rfl (q0 := 2) rfl, (fun U hU hW => ⟨rfl, xPre_of hZ hS hFc hPc hDc hK U hU hW⟩)⟩ rfl rfl hl.1 rfl (lv_room (Nat.le_of_ble_eq_true rfl)) dA_putOneBehindOther_21 ⟨Nat.le_of_ble_eq_true rfl, Nat.le_of_ble_eq_true rfl⟩) hS (fun q _ h => hFc q h) hFc (fun r10 u9 t H1 locs ht hvm hr9 hB hz1 hk1 hS => ?_)
  obtain ⟨hP1, hK1, hD1⟩ := hB
  rw [ht] at hP1
  obtain ⟨hP, hD⟩ := xjoin (W := [(a2, .inr (2, [.ref a3, .int o6.2.1, .int o6.2.2])), (a3, .inl (cT 2, 4096, .inr (.inl o6.1))), (a0, .inr (2, [.ref a1, .int v1, .int v2])), (a1, .inl (cT 2, 4096, .inr (.inl f0)))]) hP hD [2, 3] [0, 1] 2 rfl rfl (by decide) (by decide) hk1 hFc hP1 hD1
  generalize H1 = H at hP hS ⊢
  rw [hr9]
  refine W.eq (g2 := F0 m 24 ls [.int o8, .int o1.1, .ref a2]) rfl ?_
  refine lv_aload_n hx hb dA_putOneBehindOther_24 rfl (lv_at hl 1 rfl) ?_
  refine lv_iconst (v := 0) hx hb dA_putOneBehindOther_25 (by decide) ?_
  obtain ⟨o11, hq12, hf⟩ := xbind hf
  obtain ⟨hPc, hDc, hFc⟩ := xcut (wc := [(a0, .inr (2, [.ref a1, .int v1, .int v2])), (a1, .inl (cT 2, 4096, .inr (.inl f0)))]) hP hD hS hA [2, 3] rfl rfl (by decide)
  refine va_calli (va_runV (C := "ValueBench$Row") (As := [.int 0]) (rest := [.int o8, .int o1.1, .ref a2]) ⟨hx, hb, hml, hown, htx⟩ (gR_length l hl9 D cT aK aV H.size n a0 a1 (0 : Int32) f0 v1 v2 o11 hq12) ⟨callB_of 1 htx (xw_goodC kw_2_191) rfl rfl rfl (htx _ kw_1_4) (htx _ kw_3_143) ⟨by decide, by decide, by decide +kernel⟩ ⟨Nat.le_of_ble_eq_true rfl, Nat.le_of_ble_eq_true rfl⟩, (htx _ kw_2_189), (htx _ kw_2_190)⟩ ⟨xPre_blind, va_recv hK hP (ci := 2) rfl (q0 := 2) rfl, (fun U hU hW => ⟨rfl, xPre_of hZ hS hFc hPc hDc hK U hU hW⟩)⟩ rfl rfl hl.1 rfl (lv_room (Nat.le_of_ble_eq_true rfl)) dA_putOneBehindOther_26 ⟨Nat.le_of_ble_eq_true rfl, Nat.le_of_ble_eq_true rfl⟩) hS (fun q _ h => hFc q h) hFc (fun r13 u9 t H1 locs ht hvm hr9 hB hz1 hk1 hS => ?_)
  obtain ⟨hP1, hK1, hD1⟩ := hB
  rw [ht] at hP1
  obtain ⟨hP, hD⟩ := xjoin (W := [(a2, .inr (2, [.ref a3, .int o6.2.1, .int o6.2.2])), (a3, .inl (cT 2, 4096, .inr (.inl o6.1))), (a0, .inr (2, [.ref a1, .int v1, .int v2])), (a1, .inl (cT 2, 4096, .inr (.inl f0)))]) hP hD [2, 3] [0, 1] 2 rfl rfl (by decide) (by decide) hk1 hFc hP1 hD1
  generalize H1 = H at hP hS ⊢
  rw [hr9]
  refine W.eq (g2 := F0 m 29 ls [.int o11, .int o8, .int o1.1, .ref a2]) rfl ?_
  refine lv_aload_n hx hb dA_putOneBehindOther_29 rfl (lv_at hl 2 rfl) ?_
  refine lv_iconst (v := 0) hx hb dA_putOneBehindOther_30 (by decide) ?_
  obtain ⟨o14, hq15, hf⟩ := xbind hf
  obtain ⟨hPc, hDc, hFc⟩ := xcut (wc := [(a0, .inr (2, [.ref a1, .int v1, .int v2])), (a1, .inl (cT 2, 4096, .inr (.inl f0)))]) hP hD hS hA [2, 3] rfl rfl (by decide)
  refine va_calli (va_runV (C := "ValueBench$Row") (As := [.int 0]) (rest := [.int o11, .int o8, .int o1.1, .ref a2]) ⟨hx, hb, hml, hown, htx⟩ (gR_length l hl9 D cT aK aV H.size n a0 a1 (0 : Int32) f0 v1 v2 o14 hq15) ⟨callB_of 1 htx (xw_goodC kw_2_191) rfl rfl rfl (htx _ kw_1_4) (htx _ kw_3_143) ⟨by decide, by decide, by decide +kernel⟩ ⟨Nat.le_of_ble_eq_true rfl, Nat.le_of_ble_eq_true rfl⟩, (htx _ kw_2_189), (htx _ kw_2_190)⟩ ⟨xPre_blind, va_recv hK hP (ci := 2) rfl (q0 := 2) rfl, (fun U hU hW => ⟨rfl, xPre_of hZ hS hFc hPc hDc hK U hU hW⟩)⟩ rfl rfl hl.1 rfl (lv_room (Nat.le_of_ble_eq_true rfl)) dA_putOneBehindOther_31 ⟨Nat.le_of_ble_eq_true rfl, Nat.le_of_ble_eq_true rfl⟩) hS (fun q _ h => hFc q h) hFc (fun r16 u9 t H1 locs ht hvm hr9 hB hz1 hk1 hS => ?_)
  obtain ⟨hP1, hK1, hD1⟩ := hB
  rw [ht] at hP1
  obtain ⟨hP, hD⟩ := xjoin (W := [(a2, .inr (2, [.ref a3, .int o6.2.1, .int o6.2.2])), (a3, .inl (cT 2, 4096, .inr (.inl o6.1))), (a0, .inr (2, [.ref a1, .int v1, .int v2])), (a1, .inl (cT 2, 4096, .inr (.inl f0)))]) hP hD [2, 3] [0, 1] 2 rfl rfl (by decide) (by decide) hk1 hFc hP1 hD1
  generalize H1 = H at hP hS ⊢
  rw [hr9]
  refine W.eq (g2 := F0 m 34 ls [.int o14, .int o11, .int o8, .int o1.1, .ref a2]) rfl ?_
  refine lv_iadd hx hb dA_putOneBehindOther_34 ?_
  obtain ⟨o17, hq18, hf⟩ := xbind hf
  obtain ⟨hPc, hDc, hFc⟩ := xcut (wc := [(a2, .inr (2, [.ref a3, .int o6.2.1, .int o6.2.2])), (a3, .inl (cT 2, 4096, .inr (.inl o6.1)))]) hP hD hS hA [0, 1] rfl rfl (by decide)
  refine va_callv (va_runV (C := "ValueBench$Row") (As := [.int o1.1, .int o8, .int (o11 + o14)]) (rest := []) ⟨hx, hb, hml, hown, htx⟩ (gR_close l hl9 D cT aK aV H.size n a2 a3 o1.1 o8 (o11 + o14) o6.1 o6.2.1 o6.2.2 o17 hq18) ⟨callB_of 3 htx (xw_goodC kw_2_167) rfl rfl rfl (htx _ kw_1_4) (htx _ kw_3_144) ⟨by decide, by decide, by decide +kernel⟩ ⟨Nat.le_of_ble_eq_true rfl, Nat.le_of_ble_eq_true rfl⟩, (htx _ kw_2_165), (htx _ kw_2_166)⟩ ⟨xPre_blind, va_recv hK hP (ci := 2) rfl (q0 := 0) rfl, (fun U hU hW => ⟨rfl, xPre_of hZ hS hFc hPc hDc hK U hU hW⟩)⟩ rfl rfl hl.1 rfl (lv_room (Nat.le_of_ble_eq_true rfl)) dA_putOneBehindOther_35 ⟨Nat.le_of_ble_eq_true rfl, Nat.le_of_ble_eq_true rfl⟩) hS (fun q _ h => hFc q h) hFc (fun u9 t H1 locs ht hvm hr9 hB hz1 hk1 hS => ?_)
  obtain ⟨hP1, hK1, hD1⟩ := hB
  rw [ht] at hP1
  obtain ⟨hP, hD⟩ := xjoin (W := [(a0, .inr (2, [.ref a1, .int v1, .int v2])), (a1, .inl (cT 2, 4096, .inr (.inl f0))), (a2, .inr (2, [.ref a3, .int o6.2.1, .int o6.2.2])), (a3, .inl (cT 2, 4096, .inr (.inl o17)))]) hP hD [0, 1] [2, 3] 2 rfl rfl (by decide) (by decide) hk1 hFc hP1 hD1
  generalize H1 = H at hP hS ⊢
  obtain rfl := Option.some.inj hf
  obtain ⟨hP9, hD9⟩ := xsub (wc := [(a0, .inr (2, [.ref a1, .int v1, .int v2])), (a1, .inl (cT 2, 4096, .inr (.inl f0))), (a2, .inr (2, [.ref a3, .int o6.2.1, .int o6.2.2])), (a3, .inl (cT 2, 4096, .inr (.inl o17)))]) hP hD [0, 1, 2, 3] rfl rfl (by decide)
  exact W.vret hx hb hr (fun t ht hW => ⟨⟨(), rfl, trivial, by rw [ht]; exact hP9, va_K.moved hW.alike hK, hD9⟩, hS.F ht⟩) hS.2.2 dA_putOneBehindOther_38
set_option maxHeartbeats 400000000 in
set_option maxRecDepth 100000 in
theorem gA_putNewNamesa (l : Launch) (hl9 : l.stackTraces = false) (D : va_G) (cT : Nat → ClassId) (aK aV : Nat → Nat) (sz n : Nat) (a0 : Nat) (a1 : Nat) (a2 : Nat) (a3 : Nat) (x1 : Int32) (x3 : Int32) (f0 : Nat → Int64) (v1 : Int32) (v2 : Int32) (f3 : Nat → Int64) (v4 : Int32) (v5 : Int32) (out : Int32 × (Nat → Int64) × Int32 × Int32) (hf : fA_putNewNamesa n x1 x3 f0 v1 v2 f3 v4 v5 = some out) : xMet l yA_putNewNames wyA_putNewNames 3 0 0 105 D cT aK aV sz [.ref a0, .int x1, .ref a0, .int x3, .ref a2] [(a0, .inr (2, [.ref a1, .int v1, .int v2])), (a1, .inl (cT 2, 4096, .inr (.inl f0))), (a2, .inr (2, [.ref a3, .int v4, .int v5])), (a3, .inl (cT 2, 4096, .inr (.inl f3)))] (fun A => va_Qi (fun (r : Int32) (_ : Unit) => r = out.1) (fun _ t => xB D xcl cT A [(a0, .inr (2, [.ref a1, .int v1, .int v2])), (a1, .inl (cT 2, 4096, .inr (.inl f0))), (a2, .inr (2, [.ref a3, .int out.2.2.1, .int out.2.2.2])), (a3, .inl (cT 2, 4096, .inr (.inl out.2.1)))] t) A) := by
  refine Met.ofW (cc := prog_3_method_9_code) (maxL := 9) (ret := (some .int)) (by decide) rfl ?_
  intro p e s m args below meth c s₁ B hml hv
  obtain ⟨rfl, hsz, hZ, hP, hK, hD0⟩ := hv
  have hx := B.exec
  have hb := B.bytes
  have hr := B.returns
  have hts := atoms_spec (ws := wyA_putNewNames) B.pre
  have htx := fun w h => hts w (List.mem_cons_of_mem _ h)
  have hown : s.vm.findClass "ValueBench$Operators" = some m.cls := findClass_of_methodNamed B.named
  have hlocks := B.notSynchronized
  subst hsz
  have hD := hD0.self (sz := s.heap.size)
  generalize hAe : va_A [(a0, .inr (2, [.ref a1, .int v1, .int v2])), (a1, .inl (cT 2, 4096, .inr (.inl f0))), (a2, .inr (2, [.ref a3, .int v4, .int v5])), (a3, .inl (cT 2, 4096, .inr (.inl f3)))] s.heap.size = A at hD hZ ⊢
  have hA : ∀ q : Nat, s.heap.size ≤ q → A q := fun q h => by rw [← hAe]; exact Or.inr h
  have hS : va_S A s.heap s.heap [] := va_S.rf
  have hP : va_P D xcl [(a0, .inr (2, [.ref a1, .int v1, .int v2])), (a1, .inl (cT 2, 4096, .inr (.inl f0))), (a2, .inr (2, [.ref a3, .int v4, .int v5])), (a3, .inl (cT 2, 4096, .inr (.inl f3)))] s.heap := hP
  have hl := lv_entry ([.ref a0, .int x1, .ref a0, .int x3, .ref a2]) (n := 9) (Nat.le_of_ble_eq_true rfl)
  rw [lg_entry_eq]
  generalize (lg_sl ([.ref a0, .int x1, .ref a0, .int x3, .ref a2]) ++ List.replicate (9 - (lg_sl ([.ref a0, .int x1, .ref a0, .int x3, .ref a2])).length) Slot.unset).toArray = ls at hl ⊢
  have hl : lv_has ls 9 [(0, .ref a0), (1, .int x1), (2, .ref a0), (3, .int x3), (4, .ref a2)] := hl
  unfold fA_putNewNamesa at hf
  refine xloopK (σ := Nat × Int32 × Int32 × Int32 × Int32 × Int32 × (Nat → Int64) × Int32 × Int32) (fun n x H locs ls => (x.1 = 1 ∧ fA_putNewNamesa_b f0 v1 v2 n x.1 x.2.1 x.2.2.1 x.2.2.2.1 x.2.2.2.2.1 x.2.2.2.2.2.1 x.2.2.2.2.2.2.1 x.2.2.2.2.2.2.2.1 x.2.2.2.2.2.2.2.2 = some out ∧ va_P D xcl [(a0, .inr (2, [.ref a1, .int v1, .int v2])), (a1, .inl (cT 2, 4096, .inr (.inl f0))), (a2, .inr (2, [.ref a3, .int x.2.2.2.2.2.2.2.1, .int x.2.2.2.2.2.2.2.2])), (a3, .inl (cT 2, 4096, .inr (.inl x.2.2.2.2.2.2.1)))] H ∧ va_D A [(a0, .inr (2, [.ref a1, .int v1, .int v2])), (a1, .inl (cT 2, 4096, .inr (.inl f0))), (a2, .inr (2, [.ref a3, .int x.2.2.2.2.2.2.2.1, .int x.2.2.2.2.2.2.2.2])), (a3, .inl (cT 2, 4096, .inr (.inl x.2.2.2.2.2.2.1)))] ∧ va_S A s.heap H locs ∧ lv_has ls 9 [(7, .int x.2.1), (6, .int x.2.2.1), (5, .int x.2.2.2.1), (0, .ref a0), (1, .int x.2.2.2.2.1), (2, .ref a0), (3, .int x.2.2.2.2.2.1), (4, .ref a2)])) (fun x => 11) (fun x H locs ls h => by exact absurd h.2.1 (by rw [fA_putNewNamesa_b]; exact fun h => nomatch h)) (fun n ih x H locs ls hv => ?_) (fun key => ?_)
  · obtain ⟨lb, y7, y6, y5, y1, y3, w0, w1, w2⟩ := x
    rcases hv with ⟨hj, hf, hP, hD, hS, hl⟩
    subst hj
    have hf : fA_putNewNamesa_b f0 v1 v2 (n + 1) 1 y7 y6 y5 y1 y3 w0 w1 w2 = some out := hf
    rw [fA_putNewNamesa_b] at hf
    obtain ⟨hP, hD⟩ : xPD D xcl A [(a0, .inr (2, [.ref a1, .int v1, .int v2])), (a1, .inl (cT 2, 4096, .inr (.inl f0))), (a2, .inr (2, [.ref a3, .int w1, .int w2])), (a3, .inl (cT 2, 4096, .inr (.inl w0)))] H := ⟨hP, hD⟩
    have hl : lv_has ls 9 [(7, .int y7), (6, .int y6), (5, .int y5), (0, .ref a0), (1, .int y1), (2, .ref a0), (3, .int y3), (4, .ref a2)] := hl
    refine W.eq (g2 := F0 m 11 ls []) rfl ?_
    refine lv_iload hx hb dA_putNewNames_11 (lv_at hl 0 rfl) ?_
    refine lv_aload_n hx hb dA_putNewNames_13 rfl (lv_at hl 5 rfl) ?_
    refine lv_iload_n hx hb dA_putNewNames_14 rfl (lv_at hl 6 rfl) ?_
    obtain ⟨o1, hq2, hf⟩ := xbind hf
    obtain ⟨hPc, hDc, hFc⟩ := xcut (wc := [(a0, .inr (2, [.ref a1, .int v1, .int v2])), (a1, .inl (cT 2, 4096, .inr (.inl f0)))]) hP hD hS hA [0, 1] rfl rfl (by decide)
    refine va_calli (va_runV (C := "ValueBench$Row") (As := [.int y3]) (rest := [.int y7]) ⟨hx, hb, hml, hown, htx⟩ (gR_length l hl9 D cT aK aV H.size n a0 a1 y3 f0 v1 v2 o1 hq2) ⟨callB_of 1 htx (xw_goodC kw_2_191) rfl rfl rfl (htx _ kw_1_4) (htx _ kw_3_143) ⟨by decide, by decide, by decide +kernel⟩ ⟨Nat.le_of_ble_eq_true rfl, Nat.le_of_ble_eq_true rfl⟩, (htx _ kw_2_189), (htx _ kw_2_190)⟩ ⟨xPre_blind, va_recv hK hP (ci := 2) rfl (q0 := 0) rfl, (fun U hU hW => ⟨rfl, xPre_of hZ hS hFc hPc hDc hK U hU hW⟩)⟩ rfl rfl hl.1 rfl (lv_room (Nat.le_of_ble_eq_true rfl)) dA_putNewNames_15 ⟨Nat.le_of_ble_eq_true rfl, Nat.le_of_ble_eq_true rfl⟩) hS (fun q _ h => hFc q h) hFc (fun r3 u9 t H1 locs ht hvm hr9 hB hz1 hk1 hS => ?_)
    obtain ⟨hP1, hK1, hD1⟩ := hB
    rw [ht] at hP1
    obtain ⟨hP, hD⟩ := xjoin (W := [(a2, .inr (2, [.ref a3, .int w1, .int w2])), (a3, .inl (cT 2, 4096, .inr (.inl w0))), (a0, .inr (2, [.ref a1, .int v1, .int v2])), (a1, .inl (cT 2, 4096, .inr (.inl f0)))]) hP hD [0, 1] [2, 3] 2 rfl rfl (by decide) (by decide) hk1 hFc hP1 hD1
    generalize H1 = H at hP hS ⊢
    rw [hr9]
    refine W.eq (g2 := F0 m 18 ls [.int o1, .int y7]) rfl ?_
    refine lv_icmp_ge (tgt := 74) hx hb dA_putNewNames_18 (by decide) (fun hc => ?_) (fun hc => ?_)
    · rw [if_pos hc] at hf
      refine lv_iload hx hb dA_putNewNames_74 (lv_at hl 2 rfl) ?_
      obtain rfl := Option.some.inj hf
      obtain ⟨hP9, hD9⟩ := xsub (wc := [(a0, .inr (2, [.ref a1, .int v1, .int v2])), (a1, .inl (cT 2, 4096, .inr (.inl f0))), (a2, .inr (2, [.ref a3, .int w1, .int w2])), (a3, .inl (cT 2, 4096, .inr (.inl w0)))]) hP hD [2, 3, 0, 1] rfl rfl (by decide)
      exact W.iret (v := y5) hx hb hr (fun t ht hW => ⟨⟨y5, (), rfl, rfl, by rw [ht]; exact hP9, va_K.moved hW.alike hK, hD9⟩, hS.F ht⟩) hS.2.2 dA_putNewNames_76
    · rw [if_neg hc] at hf
      refine lv_aload_n hx hb dA_putNewNames_21 rfl (lv_at hl 5 rfl) ?_
      refine lv_iload hx hb dA_putNewNames_22 (lv_at hl 1 rfl) ?_
      obtain ⟨o4, hq5, hf⟩ := xbind hf
      obtain ⟨hPc, hDc, hFc⟩ := xcut (wc := [(a0, .inr (2, [.ref a1, .int v1, .int v2])), (a1, .inl (cT 2, 4096, .inr (.inl f0)))]) hP hD hS hA [2, 3] rfl rfl (by decide)
      refine va_calli (va_runV (C := "ValueBench$Row") (As := [.int y6]) (rest := []) ⟨hx, hb, hml, hown, htx⟩ (gR_after l hl9 D cT aK aV H.size n a0 a1 y6 f0 v1 v2 o4 hq5) ⟨callB_of 1 htx (xw_goodC kw_2_196) rfl rfl rfl (htx _ kw_1_4) (htx _ kw_3_148) ⟨by decide, by decide, by decide +kernel⟩ ⟨Nat.le_of_ble_eq_true rfl, Nat.le_of_ble_eq_true rfl⟩, (htx _ kw_2_194), (htx _ kw_2_195)⟩ ⟨xPre_blind, va_recv hK hP (ci := 2) rfl (q0 := 2) rfl, (fun U hU hW => ⟨rfl, xPre_of hZ hS hFc hPc hDc hK U hU hW⟩)⟩ rfl rfl hl.1 rfl (lv_room (Nat.le_of_ble_eq_true rfl)) dA_putNewNames_24 ⟨Nat.le_of_ble_eq_true rfl, Nat.le_of_ble_eq_true rfl⟩) hS (fun q _ h => hFc q h) hFc (fun r6 u9 t H1 locs ht hvm hr9 hB hz1 hk1 hS => ?_)
      obtain ⟨hP1, hK1, hD1⟩ := hB
      rw [ht] at hP1
      obtain ⟨hP, hD⟩ := xjoin (W := [(a2, .inr (2, [.ref a3, .int w1, .int w2])), (a3, .inl (cT 2, 4096, .inr (.inl w0))), (a0, .inr (2, [.ref a1, .int v1, .int v2])), (a1, .inl (cT 2, 4096, .inr (.inl f0)))]) hP hD [2, 3] [0, 1] 2 rfl rfl (by decide) (by decide) hk1 hFc hP1 hD1
      generalize H1 = H at hP hS ⊢
      rw [hr9]
      refine W.eq (g2 := F0 m 27 ls [.int o4]) rfl ?_
      refine lv_istore (lv' := [(8, .int o4), (7, .int y7), (6, .int y6), (5, .int y5), (0, .ref a0), (1, .int y1), (2, .ref a0), (3, .int y3), (4, .ref a2)]) hx hb dA_putNewNames_27 hl (by decide) rfl (fun ls hl => ?_)
      refine lv_aload_n hx hb dA_putNewNames_29 rfl (lv_at hl 4 rfl) ?_
      refine lv_iload_n hx hb dA_putNewNames_30 rfl (lv_at hl 5 rfl) ?_
      refine lv_aload_n hx hb dA_putNewNames_31 rfl (lv_at hl 6 rfl) ?_
      refine lv_iload hx hb dA_putNewNames_32 (lv_at hl 2 rfl) ?_
      obtain ⟨o7, hq8, hf⟩ := xbind hf
      obtain ⟨hPc, hDc, hFc⟩ := xcut (wc := [(a0, .inr (2, [.ref a1, .int v1, .int v2])), (a1, .inl (cT 2, 4096, .inr (.inl f0)))]) hP hD hS hA [2, 3] rfl rfl (by decide)
      refine va_calli (va_runV (C := "ValueBench$Row") (As := [.int y1, .ref a0, .int y6]) (rest := []) ⟨hx, hb, hml, hown, htx⟩ (gR_valueOf l hl9 D cT aK aV H.size n a0 a1 y1 y6 f0 v1 v2 o7 hq8) ⟨callB_of 3 htx (xw_goodC kw_2_187) rfl rfl rfl (htx _ kw_1_4) (htx _ kw_3_149) ⟨by decide, by decide, by decide +kernel⟩ ⟨Nat.le_of_ble_eq_true rfl, Nat.le_of_ble_eq_true rfl⟩, (htx _ kw_2_185), (htx _ kw_2_186)⟩ ⟨xPre_blind, va_recv hK hP (ci := 2) rfl (q0 := 2) rfl, (fun U hU hW => ⟨rfl, xPre_of hZ hS hFc hPc hDc hK U hU hW⟩)⟩ rfl rfl hl.1 rfl (lv_room (Nat.le_of_ble_eq_true rfl)) dA_putNewNames_34 ⟨Nat.le_of_ble_eq_true rfl, Nat.le_of_ble_eq_true rfl⟩) hS (fun q _ h => hFc q h) hFc (fun r9 u9 t H1 locs ht hvm hr9 hB hz1 hk1 hS => ?_)
      obtain ⟨hP1, hK1, hD1⟩ := hB
      rw [ht] at hP1
      obtain ⟨hP, hD⟩ := xjoin (W := [(a2, .inr (2, [.ref a3, .int w1, .int w2])), (a3, .inl (cT 2, 4096, .inr (.inl w0))), (a0, .inr (2, [.ref a1, .int v1, .int v2])), (a1, .inl (cT 2, 4096, .inr (.inl f0)))]) hP hD [2, 3] [0, 1] 2 rfl rfl (by decide) (by decide) hk1 hFc hP1 hD1
      generalize H1 = H at hP hS ⊢
      rw [hr9]
      refine W.eq (g2 := F0 m 37 ls [.int o7]) rfl ?_
      refine lv_iconst (v := (-1)) hx hb dA_putNewNames_37 (by decide) ?_
      refine lv_icmp_ne (tgt := 60) hx hb dA_putNewNames_38 (by decide) (fun hc => ?_) (fun hc => ?_)
      · rw [if_neg hc] at hf
        refine lv_aload_n hx hb dA_putNewNames_60 rfl (lv_at hl 6 rfl) ?_
        refine lv_iload hx hb dA_putNewNames_61 (lv_at hl 0 rfl) ?_
        obtain ⟨o10, hq11, hf⟩ := xbind hf
        obtain ⟨hPc, hDc, hFc⟩ := xcut (wc := [(a0, .inr (2, [.ref a1, .int v1, .int v2])), (a1, .inl (cT 2, 4096, .inr (.inl f0)))]) hP hD hS hA [2, 3] rfl rfl (by decide)
        refine va_calli (va_runV (C := "ValueBench$Row") (As := [.int o4]) (rest := []) ⟨hx, hb, hml, hown, htx⟩ (gR_after l hl9 D cT aK aV H.size n a0 a1 o4 f0 v1 v2 o10 hq11) ⟨callB_of 1 htx (xw_goodC kw_2_196) rfl rfl rfl (htx _ kw_1_4) (htx _ kw_3_148) ⟨by decide, by decide, by decide +kernel⟩ ⟨Nat.le_of_ble_eq_true rfl, Nat.le_of_ble_eq_true rfl⟩, (htx _ kw_2_194), (htx _ kw_2_195)⟩ ⟨xPre_blind, va_recv hK hP (ci := 2) rfl (q0 := 2) rfl, (fun U hU hW => ⟨rfl, xPre_of hZ hS hFc hPc hDc hK U hU hW⟩)⟩ rfl rfl hl.1 rfl (lv_room (Nat.le_of_ble_eq_true rfl)) dA_putNewNames_63 ⟨Nat.le_of_ble_eq_true rfl, Nat.le_of_ble_eq_true rfl⟩) hS (fun q _ h => hFc q h) hFc (fun r12 u9 t H1 locs ht hvm hr9 hB hz1 hk1 hS => ?_)
        obtain ⟨hP1, hK1, hD1⟩ := hB
        rw [ht] at hP1
        obtain ⟨hP, hD⟩ := xjoin (W := [(a2, .inr (2, [.ref a3, .int w1, .int w2])), (a3, .inl (cT 2, 4096, .inr (.inl w0))), (a0, .inr (2, [.ref a1, .int v1, .int v2])), (a1, .inl (cT 2, 4096, .inr (.inl f0)))]) hP hD [2, 3] [0, 1] 2 rfl rfl (by decide) (by decide) hk1 hFc hP1 hD1
        generalize H1 = H at hP hS ⊢
        rw [hr9]
        refine W.eq (g2 := F0 m 66 ls [.int o10]) rfl ?_
        refine lv_istore (lv' := [(6, .int o10), (8, .int o4), (7, .int y7), (5, .int y5), (0, .ref a0), (1, .int y1), (2, .ref a0), (3, .int y3), (4, .ref a2)]) hx hb dA_putNewNames_66 hl (by decide) rfl (fun ls hl => ?_)
        refine lv_iinc (v := (y7 + 1)) (lv' := [(7, .int (y7 + 1)), (6, .int o10), (8, .int o4), (5, .int y5), (0, .ref a0), (1, .int y1), (2, .ref a0), (3, .int y3), (4, .ref a2)]) hx hb dA_putNewNames_68 hl (k := 2) rfl rfl (by decide) rfl (fun ls hl => ?_)
        refine lv_goto (tgt := 11) hx hb dA_putNewNames_71 (by decide) ?_
        obtain ⟨hP9, hD9⟩ := xsub (wc := [(a0, .inr (2, [.ref a1, .int v1, .int v2])), (a1, .inl (cT 2, 4096, .inr (.inl f0))), (a2, .inr (2, [.ref a3, .int w1, .int w2])), (a3, .inl (cT 2, 4096, .inr (.inl w0)))]) hP hD [2, 3, 0, 1] rfl rfl (by decide)
        exact ih (1, (y7 + 1), o10, y5, y1, y3, w0, w1, w2) _ _ ls (⟨rfl, hf, hP9, hD9, hS, lv_sub hl [0, 1, 3, 4, 5, 6, 7, 8] rfl⟩)
      · rw [if_pos hc] at hf
        refine lv_aload hx hb dA_putNewNames_41 (lv_at hl 8 rfl) ?_
        refine lv_aload_n hx hb dA_putNewNames_43 rfl (lv_at hl 6 rfl) ?_
        refine lv_iload hx hb dA_putNewNames_44 (lv_at hl 2 rfl) ?_
        obtain ⟨o10, hq11, hf⟩ := xbind hf
        obtain ⟨hPc, hDc, hFc⟩ := xcut (wc := [(a2, .inr (2, [.ref a3, .int w1, .int w2])), (a3, .inl (cT 2, 4096, .inr (.inl w0))), (a0, .inr (2, [.ref a1, .int v1, .int v2])), (a1, .inl (cT 2, 4096, .inr (.inl f0)))]) hP hD hS hA [0, 1, 2, 3] rfl rfl (by decide)
        refine va_callv (va_runV (C := "ValueBench$Row") (As := [.ref a0, .int y6]) (rest := []) ⟨hx, hb, hml, hown, htx⟩ (gR_putCopy l hl9 D cT aK aV H.size n a2 a3 a0 a1 y6 w0 w1 w2 f0 v1 v2 o10 hq11) ⟨callB_of 2 htx (xw_goodC kw_3_126) rfl rfl rfl (htx _ kw_1_4) (htx _ kw_3_123) ⟨by decide, by decide, by decide +kernel⟩ ⟨Nat.le_of_ble_eq_true rfl, Nat.le_of_ble_eq_true rfl⟩, (htx _ kw_3_124), (htx _ kw_3_125)⟩ ⟨xPre_blind, va_recv hK hP (ci := 2) rfl (q0 := 0) rfl, (fun U hU hW => ⟨rfl, xPre_of hZ hS hFc hPc hDc hK U hU hW⟩)⟩ rfl rfl hl.1 rfl (lv_room (Nat.le_of_ble_eq_true rfl)) dA_putNewNames_46 ⟨Nat.le_of_ble_eq_true rfl, Nat.le_of_ble_eq_true rfl⟩) hS (fun q _ h => hFc q h) hFc (fun u9 t H1 locs ht hvm hr9 hB hz1 hk1 hS => ?_)
        obtain ⟨hP1, hK1, hD1⟩ := hB
        rw [ht] at hP1
        obtain ⟨hP, hD⟩ := xjoin (W := [(a2, .inr (2, [.ref a3, .int o10.2.1, .int o10.2.2])), (a3, .inl (cT 2, 4096, .inr (.inl o10.1))), (a0, .inr (2, [.ref a1, .int v1, .int v2])), (a1, .inl (cT 2, 4096, .inr (.inl f0)))]) hP hD [0, 1, 2, 3] [] 0 rfl rfl (by decide) (by decide) hk1 hFc hP1 hD1
        generalize H1 = H at hP hS ⊢
        refine lv_aload hx hb dA_putNewNames_49 (lv_at hl 8 rfl) ?_
        refine lv_aload_n hx hb dA_putNewNames_51 rfl (lv_at hl 6 rfl) ?_
        refine lv_iload hx hb dA_putNewNames_52 (lv_at hl 0 rfl) ?_
        obtain ⟨o12, hq13, hf⟩ := xbind hf
        obtain ⟨hPc, hDc, hFc⟩ := xcut (wc := [(a2, .inr (2, [.ref a3, .int o10.2.1, .int o10.2.2])), (a3, .inl (cT 2, 4096, .inr (.inl o10.1))), (a0, .inr (2, [.ref a1, .int v1, .int v2])), (a1, .inl (cT 2, 4096, .inr (.inl f0)))]) hP hD hS hA [0, 1, 2, 3] rfl rfl (by decide)
        refine va_callv (va_runV (C := "ValueBench$Row") (As := [.ref a0, .int o4]) (rest := []) ⟨hx, hb, hml, hown, htx⟩ (gR_putCopy l hl9 D cT aK aV H.size n a2 a3 a0 a1 o4 o10.1 o10.2.1 o10.2.2 f0 v1 v2 o12 hq13) ⟨callB_of 2 htx (xw_goodC kw_3_126) rfl rfl rfl (htx _ kw_1_4) (htx _ kw_3_123) ⟨by decide, by decide, by decide +kernel⟩ ⟨Nat.le_of_ble_eq_true rfl, Nat.le_of_ble_eq_true rfl⟩, (htx _ kw_3_124), (htx _ kw_3_125)⟩ ⟨xPre_blind, va_recv hK hP (ci := 2) rfl (q0 := 0) rfl, (fun U hU hW => ⟨rfl, xPre_of hZ hS hFc hPc hDc hK U hU hW⟩)⟩ rfl rfl hl.1 rfl (lv_room (Nat.le_of_ble_eq_true rfl)) dA_putNewNames_54 ⟨Nat.le_of_ble_eq_true rfl, Nat.le_of_ble_eq_true rfl⟩) hS (fun q _ h => hFc q h) hFc (fun u9 t H1 locs ht hvm hr9 hB hz1 hk1 hS => ?_)
        obtain ⟨hP1, hK1, hD1⟩ := hB
        rw [ht] at hP1
        obtain ⟨hP, hD⟩ := xjoin (W := [(a2, .inr (2, [.ref a3, .int o12.2.1, .int o12.2.2])), (a3, .inl (cT 2, 4096, .inr (.inl o12.1))), (a0, .inr (2, [.ref a1, .int v1, .int v2])), (a1, .inl (cT 2, 4096, .inr (.inl f0)))]) hP hD [0, 1, 2, 3] [] 0 rfl rfl (by decide) (by decide) hk1 hFc hP1 hD1
        generalize H1 = H at hP hS ⊢
        refine lv_iinc (v := (y5 + 1)) (lv' := [(5, .int (y5 + 1)), (8, .int o4), (7, .int y7), (6, .int y6), (0, .ref a0), (1, .int y1), (2, .ref a0), (3, .int y3), (4, .ref a2)]) hx hb dA_putNewNames_57 hl (k := 3) rfl rfl (by decide) rfl (fun ls hl => ?_)
        refine lv_aload_n hx hb dA_putNewNames_60 rfl (lv_at hl 6 rfl) ?_
        refine lv_iload hx hb dA_putNewNames_61 (lv_at hl 1 rfl) ?_
        obtain ⟨o14, hq15, hf⟩ := xbind hf
        obtain ⟨hPc, hDc, hFc⟩ := xcut (wc := [(a0, .inr (2, [.ref a1, .int v1, .int v2])), (a1, .inl (cT 2, 4096, .inr (.inl f0)))]) hP hD hS hA [2, 3] rfl rfl (by decide)
        refine va_calli (va_runV (C := "ValueBench$Row") (As := [.int o4]) (rest := []) ⟨hx, hb, hml, hown, htx⟩ (gR_after l hl9 D cT aK aV H.size n a0 a1 o4 f0 v1 v2 o14 hq15) ⟨callB_of 1 htx (xw_goodC kw_2_196) rfl rfl rfl (htx _ kw_1_4) (htx _ kw_3_148) ⟨by decide, by decide, by decide +kernel⟩ ⟨Nat.le_of_ble_eq_true rfl, Nat.le_of_ble_eq_true rfl⟩, (htx _ kw_2_194), (htx _ kw_2_195)⟩ ⟨xPre_blind, va_recv hK hP (ci := 2) rfl (q0 := 2) rfl, (fun U hU hW => ⟨rfl, xPre_of hZ hS hFc hPc hDc hK U hU hW⟩)⟩ rfl rfl hl.1 rfl (lv_room (Nat.le_of_ble_eq_true rfl)) dA_putNewNames_63 ⟨Nat.le_of_ble_eq_true rfl, Nat.le_of_ble_eq_true rfl⟩) hS (fun q _ h => hFc q h) hFc (fun r16 u9 t H1 locs ht hvm hr9 hB hz1 hk1 hS => ?_)
        obtain ⟨hP1, hK1, hD1⟩ := hB
        rw [ht] at hP1
        obtain ⟨hP, hD⟩ := xjoin (W := [(a2, .inr (2, [.ref a3, .int o12.2.1, .int o12.2.2])), (a3, .inl (cT 2, 4096, .inr (.inl o12.1))), (a0, .inr (2, [.ref a1, .int v1, .int v2])), (a1, .inl (cT 2, 4096, .inr (.inl f0)))]) hP hD [2, 3] [0, 1] 2 rfl rfl (by decide) (by decide) hk1 hFc hP1 hD1
        generalize H1 = H at hP hS ⊢
        rw [hr9]
        refine W.eq (g2 := F0 m 66 ls [.int o14]) rfl ?_
        refine lv_istore (lv' := [(6, .int o14), (5, .int (y5 + 1)), (8, .int o4), (7, .int y7), (0, .ref a0), (1, .int y1), (2, .ref a0), (3, .int y3), (4, .ref a2)]) hx hb dA_putNewNames_66 hl (by decide) rfl (fun ls hl => ?_)
        refine lv_iinc (v := (y7 + 1)) (lv' := [(7, .int (y7 + 1)), (6, .int o14), (5, .int (y5 + 1)), (8, .int o4), (0, .ref a0), (1, .int y1), (2, .ref a0), (3, .int y3), (4, .ref a2)]) hx hb dA_putNewNames_68 hl (k := 3) rfl rfl (by decide) rfl (fun ls hl => ?_)
        refine lv_goto (tgt := 11) hx hb dA_putNewNames_71 (by decide) ?_
        obtain ⟨hP9, hD9⟩ := xsub (wc := [(a0, .inr (2, [.ref a1, .int v1, .int v2])), (a1, .inl (cT 2, 4096, .inr (.inl f0))), (a2, .inr (2, [.ref a3, .int o12.2.1, .int o12.2.2])), (a3, .inl (cT 2, 4096, .inr (.inl o12.1)))]) hP hD [2, 3, 0, 1] rfl rfl (by decide)
        exact ih (1, (y7 + 1), o14, (y5 + 1), y1, y3, o12.1, o12.2.1, o12.2.2) _ _ ls (⟨rfl, hf, hP9, hD9, hS, lv_sub hl [0, 1, 2, 4, 5, 6, 7, 8] rfl⟩)
  refine lv_iconst (v := 0) hx hb dA_putNewNames_0 (by decide) ?_
  refine lv_istore (lv' := [(5, .int 0), (0, .ref a0), (1, .int x1), (2, .ref a0), (3, .int x3), (4, .ref a2)]) hx hb dA_putNewNames_1 hl (by decide) rfl (fun ls hl => ?_)
  refine lv_iload_n hx hb dA_putNewNames_3 rfl (lv_at hl 4 rfl) ?_
  refine lv_iconst (v := 1) hx hb dA_putNewNames_4 (by decide) ?_
  refine lv_iadd hx hb dA_putNewNames_5 ?_
  refine lv_istore (lv' := [(6, .int (x3 + (1 : Int32))), (5, .int 0), (0, .ref a0), (1, .int x1), (2, .ref a0), (3, .int x3), (4, .ref a2)]) hx hb dA_putNewNames_6 hl (by decide) rfl (fun ls hl => ?_)
  refine lv_iconst (v := 0) hx hb dA_putNewNames_8 (by decide) ?_
  refine lv_istore (lv' := [(7, .int 0), (6, .int (x3 + (1 : Int32))), (5, .int 0), (0, .ref a0), (1, .int x1), (2, .ref a0), (3, .int x3), (4, .ref a2)]) hx hb dA_putNewNames_9 hl (by decide) rfl (fun ls hl => ?_)
  obtain ⟨hP9, hD9⟩ := xsub (wc := [(a0, .inr (2, [.ref a1, .int v1, .int v2])), (a1, .inl (cT 2, 4096, .inr (.inl f0))), (a2, .inr (2, [.ref a3, .int v4, .int v5])), (a3, .inl (cT 2, 4096, .inr (.inl f3)))]) hP hD [0, 1, 2, 3] rfl rfl (by decide)
  exact key n (1, 0, (x3 + (1 : Int32)), 0, x1, x3, f3, v4, v5) _ _ ls (⟨rfl, hf, hP9, hD9, hS, lv_sub hl [0, 1, 2, 3, 4, 5, 6, 7] rfl⟩)
set_option maxHeartbeats 400000000 in
set_option maxRecDepth 100000 in
theorem gA_putBotha (l : Launch) (hl9 : l.stackTraces = false) (D : va_G) (cT : Nat → ClassId) (aK aV : Nat → Nat) : ∀ (d sz n : Nat) (a0 : Nat) (a1 : Nat) (a2 : Nat) (a3 : Nat) (x1 : Int32) (x3 : Int32) (x5 : Int32) (x6 : Int32) (f0 : Nat → Int64) (v1 : Int32) (v2 : Int32) (f3 : Nat → Int64) (v4 : Int32) (v5 : Int32) (out : (Nat → Int64) × Int32 × Int32) (hf : fA_putBotha d n x1 x3 x5 x6 f0 v1 v2 f3 v4 v5 = some out), xMet l yA_putBoth wyA_putBoth (16 * d) 0 0 (400 * d) D cT aK aV sz [.ref a0, .int x1, .ref a0, .int x3, .ref a2, .int x5, .int x6] [(a0, .inr (2, [.ref a1, .int v1, .int v2])), (a1, .inl (cT 2, 4096, .inr (.inl f0))), (a2, .inr (2, [.ref a3, .int v4, .int v5])), (a3, .inl (cT 2, 4096, .inr (.inl f3)))] (fun A => va_Qv (fun _ : Unit => True) (fun _ t => xB D xcl cT A [(a0, .inr (2, [.ref a1, .int v1, .int v2])), (a1, .inl (cT 2, 4096, .inr (.inl f0))), (a2, .inr (2, [.ref a3, .int out.2.1, .int out.2.2])), (a3, .inl (cT 2, 4096, .inr (.inl out.1)))] t) A) := by
  intro d
  induction d with
  | zero =>
    intro sz n a0 a1 a2 a3 x1 x3 x5 x6 f0 v1 v2 f3 v4 v5 out hf
    rw [fA_putBotha] at hf
    exact nomatch hf
  | succ d ih =>
    intro sz n a0 a1 a2 a3 x1 x3 x5 x6 f0 v1 v2 f3 v4 v5 out hf
    rw [fA_putBotha] at hf
    obtain ⟨rec, hrec, hf⟩ : ∃ rec : Int32 → Int32 → Int32 → Int32 → (Nat → Int64) → Int32 → Int32 → (Nat → Int64) → Int32 → Int32 → Option ((Nat → Int64) × Int32 × Int32), (∀ (sz : Nat) (a0 : Nat) (a1 : Nat) (a2 : Nat) (a3 : Nat) (x1 : Int32) (x3 : Int32) (x5 : Int32) (x6 : Int32) (f0 : Nat → Int64) (v1 : Int32) (v2 : Int32) (f3 : Nat → Int64) (v4 : Int32) (v5 : Int32) (out : (Nat → Int64) × Int32 × Int32), rec x1 x3 x5 x6 f0 v1 v2 f3 v4 v5 = some out → xMet l yA_putBoth wyA_putBoth (16 * d) 0 0 (400 * d) D cT aK aV sz [.ref a0, .int x1, .ref a0, .int x3, .ref a2, .int x5, .int x6] [(a0, .inr (2, [.ref a1, .int v1, .int v2])), (a1, .inl (cT 2, 4096, .inr (.inl f0))), (a2, .inr (2, [.ref a3, .int v4, .int v5])), (a3, .inl (cT 2, 4096, .inr (.inl f3)))] (fun A => va_Qv (fun _ : Unit => True) (fun _ t => xB D xcl cT A [(a0, .inr (2, [.ref a1, .int v1, .int v2])), (a1, .inl (cT 2, 4096, .inr (.inl f0))), (a2, .inr (2, [.ref a3, .int out.2.1, .int out.2.2])), (a3, .inl (cT 2, 4096, .inr (.inl out.1)))] t) A)) ∧ ((fR_open n f3 v4 v5).bind fun o1 => fA_putBotha_b rec f0 v1 v2 n 1 0 (x1 + (1 : Int32)) o1.1 x1 x3 x5 x6 o1.2.1 o1.2.2.1 o1.2.2.2) = some out := ⟨fA_putBotha d n, fun sz => ih sz n, hf⟩
    refine Met.ofW (cc := prog_3_method_8_code) (maxL := 12) (ret := none) (by decide) rfl ?_
    intro p e s m args below meth c s₁ B hml hv
    obtain ⟨rfl, hsz, hZ, hP, hK, hD0⟩ := hv
    have hx := B.exec
    have hb := B.bytes
    have hr := B.returns
    have hts := atoms_spec (ws := wyA_putBoth) B.pre
    have htx := fun w h => hts w (List.mem_cons_of_mem _ h)
    have hown : s.vm.findClass "ValueBench$Operators" = some m.cls := findClass_of_methodNamed B.named
    have hlocks := B.notSynchronized
    subst hsz
    have hD := hD0.self (sz := s.heap.size)
    generalize hAe : va_A [(a0, .inr (2, [.ref a1, .int v1, .int v2])), (a1, .inl (cT 2, 4096, .inr (.inl f0))), (a2, .inr (2, [.ref a3, .int v4, .int v5])), (a3, .inl (cT 2, 4096, .inr (.inl f3)))] s.heap.size = A at hD hZ ⊢
    have hA : ∀ q : Nat, s.heap.size ≤ q → A q := fun q h => by rw [← hAe]; exact Or.inr h
    have hS : va_S A s.heap s.heap [] := va_S.rf
    have hP : va_P D xcl [(a0, .inr (2, [.ref a1, .int v1, .int v2])), (a1, .inl (cT 2, 4096, .inr (.inl f0))), (a2, .inr (2, [.ref a3, .int v4, .int v5])), (a3, .inl (cT 2, 4096, .inr (.inl f3)))] s.heap := hP
    have hl := lv_entry ([.ref a0, .int x1, .ref a0, .int x3, .ref a2, .int x5, .int x6]) (n := 12) (Nat.le_of_ble_eq_true rfl)
    rw [lg_entry_eq]
    generalize (lg_sl ([.ref a0, .int x1, .ref a0, .int x3, .ref a2, .int x5, .int x6]) ++ List.replicate (12 - (lg_sl ([.ref a0, .int x1, .ref a0, .int x3, .ref a2, .int x5, .int x6])).length) Slot.unset).toArray = ls at hl ⊢
    have hl : lv_has ls 12 [(0, .ref a0), (1, .int x1), (2, .ref a0), (3, .int x3), (4, .ref a2), (5, .int x5), (6, .int x6)] := hl
    refine xloopK (σ := Nat × Int32 × Int32 × Int32 × Int32 × Int32 × Int32 × Int32 × (Nat → Int64) × Int32 × Int32) (fun n x H locs ls => (x.1 = 1 ∧ fA_putBotha_b rec f0 v1 v2 n x.1 x.2.1 x.2.2.1 x.2.2.2.1 x.2.2.2.2.1 x.2.2.2.2.2.1 x.2.2.2.2.2.2.1 x.2.2.2.2.2.2.2.1 x.2.2.2.2.2.2.2.2.1 x.2.2.2.2.2.2.2.2.2.1 x.2.2.2.2.2.2.2.2.2.2 = some out ∧ va_P D xcl [(a0, .inr (2, [.ref a1, .int v1, .int v2])), (a1, .inl (cT 2, 4096, .inr (.inl f0))), (a2, .inr (2, [.ref a3, .int x.2.2.2.2.2.2.2.2.2.1, .int x.2.2.2.2.2.2.2.2.2.2])), (a3, .inl (cT 2, 4096, .inr (.inl x.2.2.2.2.2.2.2.2.1)))] H ∧ va_D A [(a0, .inr (2, [.ref a1, .int v1, .int v2])), (a1, .inl (cT 2, 4096, .inr (.inl f0))), (a2, .inr (2, [.ref a3, .int x.2.2.2.2.2.2.2.2.2.1, .int x.2.2.2.2.2.2.2.2.2.2])), (a3, .inl (cT 2, 4096, .inr (.inl x.2.2.2.2.2.2.2.2.1)))] ∧ va_S A s.heap H locs ∧ lv_has ls 12 [(9, .int x.2.1), (8, .int x.2.2.1), (7, .int x.2.2.2.1), (0, .ref a0), (1, .int x.2.2.2.2.1), (2, .ref a0), (3, .int x.2.2.2.2.2.1), (4, .ref a2), (5, .int x.2.2.2.2.2.2.1), (6, .int x.2.2.2.2.2.2.2.1)])) (fun x => 15) (fun x H locs ls h => by exact absurd h.2.1 (by rw [fA_putBotha_b]; exact fun h => nomatch h)) (fun n ih x H locs ls hv => ?_) (fun key => ?_)
    · obtain ⟨lb, y9, y8, y7, y1, y3, y5, y6, w0, w1, w2⟩ := x
      rcases hv with ⟨hj, hf, hP, hD, hS, hl⟩
      subst hj
      have hf : fA_putBotha_b rec f0 v1 v2 (n + 1) 1 y9 y8 y7 y1 y3 y5 y6 w0 w1 w2 = some out := hf
      rw [fA_putBotha_b] at hf
      obtain ⟨hP, hD⟩ : xPD D xcl A [(a0, .inr (2, [.ref a1, .int v1, .int v2])), (a1, .inl (cT 2, 4096, .inr (.inl f0))), (a2, .inr (2, [.ref a3, .int w1, .int w2])), (a3, .inl (cT 2, 4096, .inr (.inl w0)))] H := ⟨hP, hD⟩
      have hl : lv_has ls 12 [(9, .int y9), (8, .int y8), (7, .int y7), (0, .ref a0), (1, .int y1), (2, .ref a0), (3, .int y3), (4, .ref a2), (5, .int y5), (6, .int y6)] := hl
      refine W.eq (g2 := F0 m 15 ls []) rfl ?_
      refine lv_iload hx hb dA_putBoth_15 (lv_at hl 0 rfl) ?_
      refine lv_aload_n hx hb dA_putBoth_17 rfl (lv_at hl 3 rfl) ?_
      refine lv_iload_n hx hb dA_putBoth_18 rfl (lv_at hl 4 rfl) ?_
      obtain ⟨o1, hq2, hf⟩ := xbind hf
      obtain ⟨hPc, hDc, hFc⟩ := xcut (wc := [(a0, .inr (2, [.ref a1, .int v1, .int v2])), (a1, .inl (cT 2, 4096, .inr (.inl f0)))]) hP hD hS hA [0, 1] rfl rfl (by decide)
      refine va_calli (va_runV (C := "ValueBench$Row") (As := [.int y1]) (rest := [.int y9]) ⟨hx, hb, hml, hown, htx⟩ (gR_length l hl9 D cT aK aV H.size n a0 a1 y1 f0 v1 v2 o1 hq2) ⟨callB_of 1 htx (xw_goodC kw_2_191) rfl rfl rfl (htx _ kw_1_4) (htx _ kw_3_143) ⟨by decide, by decide, by decide +kernel⟩ ⟨Nat.le_of_ble_eq_true rfl, Nat.le_of_ble_eq_true rfl⟩, (htx _ kw_2_189), (htx _ kw_2_190)⟩ ⟨xPre_blind, va_recv hK hP (ci := 2) rfl (q0 := 0) rfl, (fun U hU hW => ⟨rfl, xPre_of hZ hS hFc hPc hDc hK U hU hW⟩)⟩ rfl rfl hl.1 rfl (lv_room (Nat.le_of_ble_eq_true rfl)) dA_putBoth_19 ⟨Nat.le_of_ble_eq_true rfl, Nat.le_of_ble_eq_true rfl⟩) hS (fun q _ h => hFc q h) hFc (fun r3 u9 t H1 locs ht hvm hr9 hB hz1 hk1 hS => ?_)
      obtain ⟨hP1, hK1, hD1⟩ := hB
      rw [ht] at hP1
      obtain ⟨hP, hD⟩ := xjoin (W := [(a2, .inr (2, [.ref a3, .int w1, .int w2])), (a3, .inl (cT 2, 4096, .inr (.inl w0))), (a0, .inr (2, [.ref a1, .int v1, .int v2])), (a1, .inl (cT 2, 4096, .inr (.inl f0)))]) hP hD [0, 1] [2, 3] 2 rfl rfl (by decide) (by decide) hk1 hFc hP1 hD1
      generalize H1 = H at hP hS ⊢
      rw [hr9]
      refine W.eq (g2 := F0 m 22 ls [.int o1, .int y9]) rfl ?_
      refine lv_icmp_ge (tgt := 143) hx hb dA_putBoth_22 (by decide) (fun hc => ?_) (fun hc => ?_)
      · rw [if_pos hc] at hf
        refine lv_aload_n hx hb dA_putBoth_143 rfl (lv_at hl 3 rfl) ?_
        refine lv_iload_n hx hb dA_putBoth_144 rfl (lv_at hl 4 rfl) ?_
        refine lv_aload_n hx hb dA_putBoth_145 rfl (lv_at hl 5 rfl) ?_
        refine lv_iload_n hx hb dA_putBoth_146 rfl (lv_at hl 6 rfl) ?_
        refine lv_aload hx hb dA_putBoth_147 (lv_at hl 7 rfl) ?_
        obtain ⟨o4, hq5, hf⟩ := xbind hf
        obtain ⟨hPc, hDc, hFc⟩ := xcut (wc := [(a0, .inr (2, [.ref a1, .int v1, .int v2])), (a1, .inl (cT 2, 4096, .inr (.inl f0))), (a2, .inr (2, [.ref a3, .int w1, .int w2])), (a3, .inl (cT 2, 4096, .inr (.inl w0)))]) hP hD hS hA [2, 3, 0, 1] rfl rfl (by decide)
        refine va_calli (va_runS (As := [.ref a0, .int y1, .ref a0, .int y3, .ref a2]) (rest := []) ⟨hx, hb, hml, hown, htx⟩ (gA_putNewNamesa l hl9 D cT aK aV H.size n a0 a1 a2 a3 y1 y3 f0 v1 v2 w0 w1 w2 o4 hq5) ⟨callB_of 5 htx (xw_goodC kw_3_152) rfl rfl rfl (htx _ kw_1_21) (htx _ kw_3_150) ⟨by decide, by decide, by decide +kernel⟩ ⟨Nat.le_of_ble_eq_true rfl, Nat.le_of_ble_eq_true rfl⟩, htx _ kw_3_151⟩ ⟨xPre_blind, (fun U hU hW => ⟨rfl, xPre_of hZ hS hFc hPc hDc hK U hU hW⟩)⟩ rfl rfl hl.1 rfl (lv_room (Nat.le_of_ble_eq_true rfl)) dA_putBoth_149 ⟨Nat.le_of_ble_eq_true rfl, Nat.le_of_ble_eq_true rfl⟩) hS (fun q _ h => hFc q h) hFc (fun r6 u9 t H1 locs ht hvm hr9 hB hz1 hk1 hS => ?_)
        obtain ⟨hP1, hK1, hD1⟩ := hB
        rw [ht] at hP1
        obtain ⟨hP, hD⟩ := xjoin (W := [(a0, .inr (2, [.ref a1, .int v1, .int v2])), (a1, .inl (cT 2, 4096, .inr (.inl f0))), (a2, .inr (2, [.ref a3, .int o4.2.2.1, .int o4.2.2.2])), (a3, .inl (cT 2, 4096, .inr (.inl o4.2.1)))]) hP hD [2, 3, 0, 1] [] 0 rfl rfl (by decide) (by decide) hk1 hFc hP1 hD1
        generalize H1 = H at hP hS ⊢
        rw [hr9]
        refine W.eq (g2 := F0 m 152 ls [.int o4.1]) rfl ?_
        refine lv_istore (lv' := [(9, .int o4.1), (8, .int y8), (7, .int y7), (0, .ref a0), (1, .int y1), (2, .ref a0), (3, .int y3), (4, .ref a2), (5, .int y5), (6, .int y6)]) hx hb dA_putBoth_152 hl (by decide) rfl (fun ls hl => ?_)
        refine lv_aload hx hb dA_putBoth_154 (lv_at hl 7 rfl) ?_
        refine lv_iload hx hb dA_putBoth_156 (lv_at hl 2 rfl) ?_
        refine lv_bipush (v := 6) hx hb dA_putBoth_158 (by decide) ?_
        refine lv_aload_n hx hb dA_putBoth_160 rfl (lv_at hl 3 rfl) ?_
        refine lv_iload_n hx hb dA_putBoth_161 rfl (lv_at hl 4 rfl) ?_
        obtain ⟨o7, hq8, hf⟩ := xbind hf
        obtain ⟨hPc, hDc, hFc⟩ := xcut (wc := [(a0, .inr (2, [.ref a1, .int v1, .int v2])), (a1, .inl (cT 2, 4096, .inr (.inl f0)))]) hP hD hS hA [0, 1] rfl rfl (by decide)
        refine va_calli (va_runV (C := "ValueBench$Row") (As := [.int y1]) (rest := [.int 6, .int y7, .ref a2]) ⟨hx, hb, hml, hown, htx⟩ (gR_length l hl9 D cT aK aV H.size n a0 a1 y1 f0 v1 v2 o7 hq8) ⟨callB_of 1 htx (xw_goodC kw_2_191) rfl rfl rfl (htx _ kw_1_4) (htx _ kw_3_143) ⟨by decide, by decide, by decide +kernel⟩ ⟨Nat.le_of_ble_eq_true rfl, Nat.le_of_ble_eq_true rfl⟩, (htx _ kw_2_189), (htx _ kw_2_190)⟩ ⟨xPre_blind, va_recv hK hP (ci := 2) rfl (q0 := 0) rfl, (fun U hU hW => ⟨rfl, xPre_of hZ hS hFc hPc hDc hK U hU hW⟩)⟩ rfl rfl hl.1 rfl (lv_room (Nat.le_of_ble_eq_true rfl)) dA_putBoth_162 ⟨Nat.le_of_ble_eq_true rfl, Nat.le_of_ble_eq_true rfl⟩) hS (fun q _ h => hFc q h) hFc (fun r9 u9 t H1 locs ht hvm hr9 hB hz1 hk1 hS => ?_)
        obtain ⟨hP1, hK1, hD1⟩ := hB
        rw [ht] at hP1
        obtain ⟨hP, hD⟩ := xjoin (W := [(a2, .inr (2, [.ref a3, .int o4.2.2.1, .int o4.2.2.2])), (a3, .inl (cT 2, 4096, .inr (.inl o4.2.1))), (a0, .inr (2, [.ref a1, .int v1, .int v2])), (a1, .inl (cT 2, 4096, .inr (.inl f0)))]) hP hD [0, 1] [2, 3] 2 rfl rfl (by decide) (by decide) hk1 hFc hP1 hD1
        generalize H1 = H at hP hS ⊢
        rw [hr9]
        refine W.eq (g2 := F0 m 165 ls [.int o7, .int 6, .int y7, .ref a2]) rfl ?_
        refine lv_iload hx hb dA_putBoth_165 (lv_at hl 0 rfl) ?_
        refine lv_iadd hx hb dA_putBoth_167 ?_
        obtain ⟨o10, hq11, hf⟩ := xbind hf
        obtain ⟨hPc, hDc, hFc⟩ := xcut (wc := [(a2, .inr (2, [.ref a3, .int o4.2.2.1, .int o4.2.2.2])), (a3, .inl (cT 2, 4096, .inr (.inl o4.2.1)))]) hP hD hS hA [0, 1] rfl rfl (by decide)
        refine va_callv (va_runV (C := "ValueBench$Row") (As := [.int y7, .int 6, .int (o7 + o4.1)]) (rest := []) ⟨hx, hb, hml, hown, htx⟩ (gR_close l hl9 D cT aK aV H.size n a2 a3 y7 (6 : Int32) (o7 + o4.1) o4.2.1 o4.2.2.1 o4.2.2.2 o10 hq11) ⟨callB_of 3 htx (xw_goodC kw_2_167) rfl rfl rfl (htx _ kw_1_4) (htx _ kw_3_144) ⟨by decide, by decide, by decide +kernel⟩ ⟨Nat.le_of_ble_eq_true rfl, Nat.le_of_ble_eq_true rfl⟩, (htx _ kw_2_165), (htx _ kw_2_166)⟩ ⟨xPre_blind, va_recv hK hP (ci := 2) rfl (q0 := 0) rfl, (fun U hU hW => ⟨rfl, xPre_of hZ hS hFc hPc hDc hK U hU hW⟩)⟩ rfl rfl hl.1 rfl (lv_room (Nat.le_of_ble_eq_true rfl)) dA_putBoth_168 ⟨Nat.le_of_ble_eq_true rfl, Nat.le_of_ble_eq_true rfl⟩) hS (fun q _ h => hFc q h) hFc (fun u9 t H1 locs ht hvm hr9 hB hz1 hk1 hS => ?_)
        obtain ⟨hP1, hK1, hD1⟩ := hB
        rw [ht] at hP1
        obtain ⟨hP, hD⟩ := xjoin (W := [(a0, .inr (2, [.ref a1, .int v1, .int v2])), (a1, .inl (cT 2, 4096, .inr (.inl f0))), (a2, .inr (2, [.ref a3, .int o4.2.2.1, .int o4.2.2.2])), (a3, .inl (cT 2, 4096, .inr (.inl o10)))]) hP hD [0, 1] [2, 3] 2 rfl rfl (by decide) (by decide) hk1 hFc hP1 hD1
        generalize H1 = H at hP hS ⊢
        obtain rfl := Option.some.inj hf
        obtain ⟨hP9, hD9⟩ := xsub (wc := [(a0, .inr (2, [.ref a1, .int v1, .int v2])), (a1, .inl (cT 2, 4096, .inr (.inl f0))), (a2, .inr (2, [.ref a3, .int o4.2.2.1, .int o4.2.2.2])), (a3, .inl (cT 2, 4096, .inr (.inl o10)))]) hP hD [0, 1, 2, 3] rfl rfl (by decide)
        exact W.vret hx hb hr (fun t ht hW => ⟨⟨(), rfl, trivial, by rw [ht]; exact hP9, va_K.moved hW.alike hK, hD9⟩, hS.F ht⟩) hS.2.2 dA_putBoth_171
      · rw [if_neg hc] at hf
        refine lv_aload_n hx hb dA_putBoth_25 rfl (lv_at hl 3 rfl) ?_
        refine lv_iload hx hb dA_putBoth_26 (lv_at hl 1 rfl) ?_
        obtain ⟨o4, hq5, hf⟩ := xbind hf
        obtain ⟨hPc, hDc, hFc⟩ := xcut (wc := [(a0, .inr (2, [.ref a1, .int v1, .int v2])), (a1, .inl (cT 2, 4096, .inr (.inl f0)))]) hP hD hS hA [2, 3] rfl rfl (by decide)
        refine va_calli (va_runV (C := "ValueBench$Row") (As := [.int y8]) (rest := []) ⟨hx, hb, hml, hown, htx⟩ (gR_after l hl9 D cT aK aV H.size n a0 a1 y8 f0 v1 v2 o4 hq5) ⟨callB_of 1 htx (xw_goodC kw_2_196) rfl rfl rfl (htx _ kw_1_4) (htx _ kw_3_148) ⟨by decide, by decide, by decide +kernel⟩ ⟨Nat.le_of_ble_eq_true rfl, Nat.le_of_ble_eq_true rfl⟩, (htx _ kw_2_194), (htx _ kw_2_195)⟩ ⟨xPre_blind, va_recv hK hP (ci := 2) rfl (q0 := 2) rfl, (fun U hU hW => ⟨rfl, xPre_of hZ hS hFc hPc hDc hK U hU hW⟩)⟩ rfl rfl hl.1 rfl (lv_room (Nat.le_of_ble_eq_true rfl)) dA_putBoth_28 ⟨Nat.le_of_ble_eq_true rfl, Nat.le_of_ble_eq_true rfl⟩) hS (fun q _ h => hFc q h) hFc (fun r6 u9 t H1 locs ht hvm hr9 hB hz1 hk1 hS => ?_)
        obtain ⟨hP1, hK1, hD1⟩ := hB
        rw [ht] at hP1
        obtain ⟨hP, hD⟩ := xjoin (W := [(a2, .inr (2, [.ref a3, .int w1, .int w2])), (a3, .inl (cT 2, 4096, .inr (.inl w0))), (a0, .inr (2, [.ref a1, .int v1, .int v2])), (a1, .inl (cT 2, 4096, .inr (.inl f0)))]) hP hD [2, 3] [0, 1] 2 rfl rfl (by decide) (by decide) hk1 hFc hP1 hD1
        generalize H1 = H at hP hS ⊢
        rw [hr9]
        refine W.eq (g2 := F0 m 31 ls [.int o4]) rfl ?_
        refine lv_istore (lv' := [(10, .int o4), (9, .int y9), (8, .int y8), (7, .int y7), (0, .ref a0), (1, .int y1), (2, .ref a0), (3, .int y3), (4, .ref a2), (5, .int y5), (6, .int y6)]) hx hb dA_putBoth_31 hl (by decide) rfl (fun ls hl => ?_)
        refine lv_aload_n hx hb dA_putBoth_33 rfl (lv_at hl 6 rfl) ?_
        refine lv_iload_n hx hb dA_putBoth_34 rfl (lv_at hl 7 rfl) ?_
        refine lv_aload_n hx hb dA_putBoth_35 rfl (lv_at hl 4 rfl) ?_
        refine lv_iload hx hb dA_putBoth_36 (lv_at hl 2 rfl) ?_
        obtain ⟨o7, hq8, hf⟩ := xbind hf
        obtain ⟨hPc, hDc, hFc⟩ := xcut (wc := [(a0, .inr (2, [.ref a1, .int v1, .int v2])), (a1, .inl (cT 2, 4096, .inr (.inl f0)))]) hP hD hS hA [2, 3] rfl rfl (by decide)
        refine va_calli (va_runV (C := "ValueBench$Row") (As := [.int y3, .ref a0, .int y8]) (rest := []) ⟨hx, hb, hml, hown, htx⟩ (gR_valueOf l hl9 D cT aK aV H.size n a0 a1 y3 y8 f0 v1 v2 o7 hq8) ⟨callB_of 3 htx (xw_goodC kw_2_187) rfl rfl rfl (htx _ kw_1_4) (htx _ kw_3_149) ⟨by decide, by decide, by decide +kernel⟩ ⟨Nat.le_of_ble_eq_true rfl, Nat.le_of_ble_eq_true rfl⟩, (htx _ kw_2_185), (htx _ kw_2_186)⟩ ⟨xPre_blind, va_recv hK hP (ci := 2) rfl (q0 := 2) rfl, (fun U hU hW => ⟨rfl, xPre_of hZ hS hFc hPc hDc hK U hU hW⟩)⟩ rfl rfl hl.1 rfl (lv_room (Nat.le_of_ble_eq_true rfl)) dA_putBoth_38 ⟨Nat.le_of_ble_eq_true rfl, Nat.le_of_ble_eq_true rfl⟩) hS (fun q _ h => hFc q h) hFc (fun r9 u9 t H1 locs ht hvm hr9 hB hz1 hk1 hS => ?_)
        obtain ⟨hP1, hK1, hD1⟩ := hB
        rw [ht] at hP1
        obtain ⟨hP, hD⟩ := xjoin (W := [(a2, .inr (2, [.ref a3, .int w1, .int w2])), (a3, .inl (cT 2, 4096, .inr (.inl w0))), (a0, .inr (2, [.ref a1, .int v1, .int v2])), (a1, .inl (cT 2, 4096, .inr (.inl f0)))]) hP hD [2, 3] [0, 1] 2 rfl rfl (by decide) (by decide) hk1 hFc hP1 hD1
        generalize H1 = H at hP hS ⊢
        rw [hr9]
        refine W.eq (g2 := F0 m 41 ls [.int o7]) rfl ?_
        refine lv_istore (lv' := [(11, .int o7), (10, .int o4), (9, .int y9), (8, .int y8), (7, .int y7), (0, .ref a0), (1, .int y1), (2, .ref a0), (3, .int y3), (4, .ref a2), (5, .int y5), (6, .int y6)]) hx hb dA_putBoth_41 hl (by decide) rfl (fun ls hl => ?_)
        refine lv_aload hx hb dA_putBoth_43 (lv_at hl 9 rfl) ?_
        refine lv_aload_n hx hb dA_putBoth_45 rfl (lv_at hl 5 rfl) ?_
        refine lv_iload hx hb dA_putBoth_46 (lv_at hl 3 rfl) ?_
        obtain ⟨o10, hq11, hf⟩ := xbind hf
        obtain ⟨hPc, hDc, hFc⟩ := xcut (wc := [(a2, .inr (2, [.ref a3, .int w1, .int w2])), (a3, .inl (cT 2, 4096, .inr (.inl w0))), (a0, .inr (2, [.ref a1, .int v1, .int v2])), (a1, .inl (cT 2, 4096, .inr (.inl f0)))]) hP hD hS hA [0, 1, 2, 3] rfl rfl (by decide)
        refine va_callv (va_runV (C := "ValueBench$Row") (As := [.ref a0, .int y8]) (rest := []) ⟨hx, hb, hml, hown, htx⟩ (gR_putCopy l hl9 D cT aK aV H.size n a2 a3 a0 a1 y8 w0 w1 w2 f0 v1 v2 o10 hq11) ⟨callB_of 2 htx (xw_goodC kw_3_126) rfl rfl rfl (htx _ kw_1_4) (htx _ kw_3_123) ⟨by decide, by decide, by decide +kernel⟩ ⟨Nat.le_of_ble_eq_true rfl, Nat.le_of_ble_eq_true rfl⟩, (htx _ kw_3_124), (htx _ kw_3_125)⟩ ⟨xPre_blind, va_recv hK hP (ci := 2) rfl (q0 := 0) rfl, (fun U hU hW => ⟨rfl, xPre_of hZ hS hFc hPc hDc hK U hU hW⟩)⟩ rfl rfl hl.1 rfl (lv_room (Nat.le_of_ble_eq_true rfl)) dA_putBoth_48 ⟨Nat.le_of_ble_eq_true rfl, Nat.le_of_ble_eq_true rfl⟩) hS (fun q _ h => hFc q h) hFc (fun u9 t H1 locs ht hvm hr9 hB hz1 hk1 hS => ?_)
        obtain ⟨hP1, hK1, hD1⟩ := hB
        rw [ht] at hP1
        obtain ⟨hP, hD⟩ := xjoin (W := [(a2, .inr (2, [.ref a3, .int o10.2.1, .int o10.2.2])), (a3, .inl (cT 2, 4096, .inr (.inl o10.1))), (a0, .inr (2, [.ref a1, .int v1, .int v2])), (a1, .inl (cT 2, 4096, .inr (.inl f0)))]) hP hD [0, 1, 2, 3] [] 0 rfl rfl (by decide) (by decide) hk1 hFc hP1 hD1
        generalize H1 = H at hP hS ⊢
        refine lv_iload hx hb dA_putBoth_51 (lv_at hl 0 rfl) ?_
        refine lv_iconst (v := (-1)) hx hb dA_putBoth_53 (by decide) ?_
        refine lv_icmp_ne (tgt := 68) hx hb dA_putBoth_54 (by decide) (fun hc => ?_) (fun hc => ?_)
        · rw [if_neg hc] at hf
          refine lv_iload hx hb dA_putBoth_68 (lv_at hl 10 rfl) ?_
          refine lv_if_eq (tgt := 121) hx hb dA_putBoth_70 (by decide) (fun hc => ?_) (fun hc => ?_)
          · rw [if_pos hc] at hf
            refine lv_aload hx hb dA_putBoth_121 (lv_at hl 9 rfl) ?_
            refine lv_aload_n hx hb dA_putBoth_123 rfl (lv_at hl 7 rfl) ?_
            refine lv_iload hx hb dA_putBoth_124 (lv_at hl 0 rfl) ?_
            obtain ⟨o12, hq13, hf⟩ := xbind hf
            obtain ⟨hPc, hDc, hFc⟩ := xcut (wc := [(a2, .inr (2, [.ref a3, .int o10.2.1, .int o10.2.2])), (a3, .inl (cT 2, 4096, .inr (.inl o10.1))), (a0, .inr (2, [.ref a1, .int v1, .int v2])), (a1, .inl (cT 2, 4096, .inr (.inl f0)))]) hP hD hS hA [0, 1, 2, 3] rfl rfl (by decide)
            refine va_callv (va_runV (C := "ValueBench$Row") (As := [.ref a0, .int o7]) (rest := []) ⟨hx, hb, hml, hown, htx⟩ (gR_putCopy l hl9 D cT aK aV H.size n a2 a3 a0 a1 o7 o10.1 o10.2.1 o10.2.2 f0 v1 v2 o12 hq13) ⟨callB_of 2 htx (xw_goodC kw_3_126) rfl rfl rfl (htx _ kw_1_4) (htx _ kw_3_123) ⟨by decide, by decide, by decide +kernel⟩ ⟨Nat.le_of_ble_eq_true rfl, Nat.le_of_ble_eq_true rfl⟩, (htx _ kw_3_124), (htx _ kw_3_125)⟩ ⟨xPre_blind, va_recv hK hP (ci := 2) rfl (q0 := 0) rfl, (fun U hU hW => ⟨rfl, xPre_of hZ hS hFc hPc hDc hK U hU hW⟩)⟩ rfl rfl hl.1 rfl (lv_room (Nat.le_of_ble_eq_true rfl)) dA_putBoth_126 ⟨Nat.le_of_ble_eq_true rfl, Nat.le_of_ble_eq_true rfl⟩) hS (fun q _ h => hFc q h) hFc (fun u9 t H1 locs ht hvm hr9 hB hz1 hk1 hS => ?_)
            obtain ⟨hP1, hK1, hD1⟩ := hB
            rw [ht] at hP1
            obtain ⟨hP, hD⟩ := xjoin (W := [(a2, .inr (2, [.ref a3, .int o12.2.1, .int o12.2.2])), (a3, .inl (cT 2, 4096, .inr (.inl o12.1))), (a0, .inr (2, [.ref a1, .int v1, .int v2])), (a1, .inl (cT 2, 4096, .inr (.inl f0)))]) hP hD [0, 1, 2, 3] [] 0 rfl rfl (by decide) (by decide) hk1 hFc hP1 hD1
            generalize H1 = H at hP hS ⊢
            refine lv_aload_n hx hb dA_putBoth_129 rfl (lv_at hl 5 rfl) ?_
            refine lv_iload hx hb dA_putBoth_130 (lv_at hl 1 rfl) ?_
            obtain ⟨o14, hq15, hf⟩ := xbind hf
            obtain ⟨hPc, hDc, hFc⟩ := xcut (wc := [(a0, .inr (2, [.ref a1, .int v1, .int v2])), (a1, .inl (cT 2, 4096, .inr (.inl f0)))]) hP hD hS hA [2, 3] rfl rfl (by decide)
            refine va_calli (va_runV (C := "ValueBench$Row") (As := [.int o4]) (rest := []) ⟨hx, hb, hml, hown, htx⟩ (gR_after l hl9 D cT aK aV H.size n a0 a1 o4 f0 v1 v2 o14 hq15) ⟨callB_of 1 htx (xw_goodC kw_2_196) rfl rfl rfl (htx _ kw_1_4) (htx _ kw_3_148) ⟨by decide, by decide, by decide +kernel⟩ ⟨Nat.le_of_ble_eq_true rfl, Nat.le_of_ble_eq_true rfl⟩, (htx _ kw_2_194), (htx _ kw_2_195)⟩ ⟨xPre_blind, va_recv hK hP (ci := 2) rfl (q0 := 2) rfl, (fun U hU hW => ⟨rfl, xPre_of hZ hS hFc hPc hDc hK U hU hW⟩)⟩ rfl rfl hl.1 rfl (lv_room (Nat.le_of_ble_eq_true rfl)) dA_putBoth_132 ⟨Nat.le_of_ble_eq_true rfl, Nat.le_of_ble_eq_true rfl⟩) hS (fun q _ h => hFc q h) hFc (fun r16 u9 t H1 locs ht hvm hr9 hB hz1 hk1 hS => ?_)
            obtain ⟨hP1, hK1, hD1⟩ := hB
            rw [ht] at hP1
            obtain ⟨hP, hD⟩ := xjoin (W := [(a2, .inr (2, [.ref a3, .int o12.2.1, .int o12.2.2])), (a3, .inl (cT 2, 4096, .inr (.inl o12.1))), (a0, .inr (2, [.ref a1, .int v1, .int v2])), (a1, .inl (cT 2, 4096, .inr (.inl f0)))]) hP hD [2, 3] [0, 1] 2 rfl rfl (by decide) (by decide) hk1 hFc hP1 hD1
            generalize H1 = H at hP hS ⊢
            rw [hr9]
            refine W.eq (g2 := F0 m 135 ls [.int o14]) rfl ?_
            refine lv_istore (lv' := [(8, .int o14), (11, .int o7), (10, .int o4), (9, .int y9), (7, .int y7), (0, .ref a0), (1, .int y1), (2, .ref a0), (3, .int y3), (4, .ref a2), (5, .int y5), (6, .int y6)]) hx hb dA_putBoth_135 hl (by decide) rfl (fun ls hl => ?_)
            refine lv_iinc (v := (y9 + 1)) (lv' := [(9, .int (y9 + 1)), (8, .int o14), (11, .int o7), (10, .int o4), (7, .int y7), (0, .ref a0), (1, .int y1), (2, .ref a0), (3, .int y3), (4, .ref a2), (5, .int y5), (6, .int y6)]) hx hb dA_putBoth_137 hl (k := 3) rfl rfl (by decide) rfl (fun ls hl => ?_)
            refine lv_goto (tgt := 15) hx hb dA_putBoth_140 (by decide) ?_
            obtain ⟨hP9, hD9⟩ := xsub (wc := [(a0, .inr (2, [.ref a1, .int v1, .int v2])), (a1, .inl (cT 2, 4096, .inr (.inl f0))), (a2, .inr (2, [.ref a3, .int o12.2.1, .int o12.2.2])), (a3, .inl (cT 2, 4096, .inr (.inl o12.1)))]) hP hD [2, 3, 0, 1] rfl rfl (by decide)
            exact ih (1, (y9 + 1), o14, y7, y1, y3, y5, y6, o12.1, o12.2.1, o12.2.2) _ _ ls (⟨rfl, hf, hP9, hD9, hS, lv_sub hl [0, 1, 4, 5, 6, 7, 8, 9, 10, 11] rfl⟩)
          · rw [if_neg hc] at hf
            refine lv_iload hx hb dA_putBoth_73 (lv_at hl 11 rfl) ?_
            refine lv_bipush (v := 60) hx hb dA_putBoth_75 (by decide) ?_
            refine lv_icmp_ge (tgt := 121) hx hb dA_putBoth_77 (by decide) (fun hc => ?_) (fun hc => ?_)
            · rw [if_pos hc] at hf
              refine lv_aload hx hb dA_putBoth_121 (lv_at hl 9 rfl) ?_
              refine lv_aload_n hx hb dA_putBoth_123 rfl (lv_at hl 7 rfl) ?_
              refine lv_iload hx hb dA_putBoth_124 (lv_at hl 0 rfl) ?_
              obtain ⟨o12, hq13, hf⟩ := xbind hf
              obtain ⟨hPc, hDc, hFc⟩ := xcut (wc := [(a2, .inr (2, [.ref a3, .int o10.2.1, .int o10.2.2])), (a3, .inl (cT 2, 4096, .inr (.inl o10.1))), (a0, .inr (2, [.ref a1, .int v1, .int v2])), (a1, .inl (cT 2, 4096, .inr (.inl f0)))]) hP hD hS hA [0, 1, 2, 3] rfl rfl (by decide)
              refine va_callv (va_runV (C := "ValueBench$Row") (As := [.ref a0, .int o7]) (rest := []) ⟨hx, hb, hml, hown, htx⟩ (gR_putCopy l hl9 D cT aK aV H.size n a2 a3 a0 a1 o7 o10.1 o10.2.1 o10.2.2 f0 v1 v2 o12 hq13) ⟨callB_of 2 htx (xw_goodC kw_3_126) rfl rfl rfl (htx _ kw_1_4) (htx _ kw_3_123) ⟨by decide, by decide, by decide +kernel⟩ ⟨Nat.le_of_ble_eq_true rfl, Nat.le_of_ble_eq_true rfl⟩, (htx _ kw_3_124), (htx _ kw_3_125)⟩ ⟨xPre_blind, va_recv hK hP (ci := 2) rfl (q0 := 0) rfl, (fun U hU hW => ⟨rfl, xPre_of hZ hS hFc hPc hDc hK U hU hW⟩)⟩ rfl rfl hl.1 rfl (lv_room (Nat.le_of_ble_eq_true rfl)) dA_putBoth_126 ⟨Nat.le_of_ble_eq_true rfl, Nat.le_of_ble_eq_true rfl⟩) hS (fun q _ h => hFc q h) hFc (fun u9 t H1 locs ht hvm hr9 hB hz1 hk1 hS => ?_)
              obtain ⟨hP1, hK1, hD1⟩ := hB
              rw [ht] at hP1
              obtain ⟨hP, hD⟩ := xjoin (W := [(a2, .inr (2, [.ref a3, .int o12.2.1, .int o12.2.2])), (a3, .inl (cT 2, 4096, .inr (.inl o12.1))), (a0, .inr (2, [.ref a1, .int v1, .int v2])), (a1, .inl (cT 2, 4096, .inr (.inl f0)))]) hP hD [0, 1, 2, 3] [] 0 rfl rfl (by decide) (by decide) hk1 hFc hP1 hD1
              generalize H1 = H at hP hS ⊢
              refine lv_aload_n hx hb dA_putBoth_129 rfl (lv_at hl 5 rfl) ?_
              refine lv_iload hx hb dA_putBoth_130 (lv_at hl 1 rfl) ?_
              obtain ⟨o14, hq15, hf⟩ := xbind hf
              obtain ⟨hPc, hDc, hFc⟩ := xcut (wc := [(a0, .inr (2, [.ref a1, .int v1, .int v2])), (a1, .inl (cT 2, 4096, .inr (.inl f0)))]) hP hD hS hA [2, 3] rfl rfl (by decide)
              refine va_calli (va_runV (C := "ValueBench$Row") (As := [.int o4]) (rest := []) ⟨hx, hb, hml, hown, htx⟩ (gR_after l hl9 D cT aK aV H.size n a0 a1 o4 f0 v1 v2 o14 hq15) ⟨callB_of 1 htx (xw_goodC kw_2_196) rfl rfl rfl (htx _ kw_1_4) (htx _ kw_3_148) ⟨by decide, by decide, by decide +kernel⟩ ⟨Nat.le_of_ble_eq_true rfl, Nat.le_of_ble_eq_true rfl⟩, (htx _ kw_2_194), (htx _ kw_2_195)⟩ ⟨xPre_blind, va_recv hK hP (ci := 2) rfl (q0 := 2) rfl, (fun U hU hW => ⟨rfl, xPre_of hZ hS hFc hPc hDc hK U hU hW⟩)⟩ rfl rfl hl.1 rfl (lv_room (Nat.le_of_ble_eq_true rfl)) dA_putBoth_132 ⟨Nat.le_of_ble_eq_true rfl, Nat.le_of_ble_eq_true rfl⟩) hS (fun q _ h => hFc q h) hFc (fun r16 u9 t H1 locs ht hvm hr9 hB hz1 hk1 hS => ?_)
              obtain ⟨hP1, hK1, hD1⟩ := hB
              rw [ht] at hP1
              obtain ⟨hP, hD⟩ := xjoin (W := [(a2, .inr (2, [.ref a3, .int o12.2.1, .int o12.2.2])), (a3, .inl (cT 2, 4096, .inr (.inl o12.1))), (a0, .inr (2, [.ref a1, .int v1, .int v2])), (a1, .inl (cT 2, 4096, .inr (.inl f0)))]) hP hD [2, 3] [0, 1] 2 rfl rfl (by decide) (by decide) hk1 hFc hP1 hD1
              generalize H1 = H at hP hS ⊢
              rw [hr9]
              refine W.eq (g2 := F0 m 135 ls [.int o14]) rfl ?_
              refine lv_istore (lv' := [(8, .int o14), (11, .int o7), (10, .int o4), (9, .int y9), (7, .int y7), (0, .ref a0), (1, .int y1), (2, .ref a0), (3, .int y3), (4, .ref a2), (5, .int y5), (6, .int y6)]) hx hb dA_putBoth_135 hl (by decide) rfl (fun ls hl => ?_)
              refine lv_iinc (v := (y9 + 1)) (lv' := [(9, .int (y9 + 1)), (8, .int o14), (11, .int o7), (10, .int o4), (7, .int y7), (0, .ref a0), (1, .int y1), (2, .ref a0), (3, .int y3), (4, .ref a2), (5, .int y5), (6, .int y6)]) hx hb dA_putBoth_137 hl (k := 3) rfl rfl (by decide) rfl (fun ls hl => ?_)
              refine lv_goto (tgt := 15) hx hb dA_putBoth_140 (by decide) ?_
              obtain ⟨hP9, hD9⟩ := xsub (wc := [(a0, .inr (2, [.ref a1, .int v1, .int v2])), (a1, .inl (cT 2, 4096, .inr (.inl f0))), (a2, .inr (2, [.ref a3, .int o12.2.1, .int o12.2.2])), (a3, .inl (cT 2, 4096, .inr (.inl o12.1)))]) hP hD [2, 3, 0, 1] rfl rfl (by decide)
              exact ih (1, (y9 + 1), o14, y7, y1, y3, y5, y6, o12.1, o12.2.1, o12.2.2) _ _ ls (⟨rfl, hf, hP9, hD9, hS, lv_sub hl [0, 1, 4, 5, 6, 7, 8, 9, 10, 11] rfl⟩)
            · rw [if_neg hc] at hf
              refine lv_aload_n hx hb dA_putBoth_80 rfl (lv_at hl 5 rfl) ?_
              refine lv_iload hx hb dA_putBoth_81 (lv_at hl 1 rfl) ?_
              refine lv_bipush (v := 6) hx hb dA_putBoth_83 (by decide) ?_
              obtain ⟨o12, hq13, hf⟩ := xbind hf
              obtain ⟨hPc, hDc, hFc⟩ := xcut (wc := [(a0, .inr (2, [.ref a1, .int v1, .int v2])), (a1, .inl (cT 2, 4096, .inr (.inl f0)))]) hP hD hS hA [2, 3] rfl rfl (by decide)
              refine va_calli (va_runV (C := "ValueBench$Row") (As := [.int o4, .int 6]) (rest := []) ⟨hx, hb, hml, hown, htx⟩ (gR_is l hl9 D cT aK aV H.size n a0 a1 o4 (6 : Int32) f0 v1 v2 o12 hq13) ⟨callB_of 2 htx (xw_goodC kw_3_75) rfl rfl rfl (htx _ kw_1_4) (htx _ kw_3_106) ⟨by decide, by decide, by decide +kernel⟩ ⟨Nat.le_of_ble_eq_true rfl, Nat.le_of_ble_eq_true rfl⟩, (htx _ kw_3_73), (htx _ kw_3_74)⟩ ⟨xPre_blind, va_recv hK hP (ci := 2) rfl (q0 := 2) rfl, (fun U hU hW => ⟨rfl, xPre_of hZ hS hFc hPc hDc hK U hU hW⟩)⟩ rfl rfl hl.1 rfl (lv_room (Nat.le_of_ble_eq_true rfl)) dA_putBoth_85 ⟨Nat.le_of_ble_eq_true rfl, Nat.le_of_ble_eq_true rfl⟩) hS (fun q _ h => hFc q h) hFc (fun r14 u9 t H1 locs ht hvm hr9 hB hz1 hk1 hS => ?_)
              obtain ⟨hP1, hK1, hD1⟩ := hB
              rw [ht] at hP1
              obtain ⟨hP, hD⟩ := xjoin (W := [(a2, .inr (2, [.ref a3, .int o10.2.1, .int o10.2.2])), (a3, .inl (cT 2, 4096, .inr (.inl o10.1))), (a0, .inr (2, [.ref a1, .int v1, .int v2])), (a1, .inl (cT 2, 4096, .inr (.inl f0)))]) hP hD [2, 3] [0, 1] 2 rfl rfl (by decide) (by decide) hk1 hFc hP1 hD1
              generalize H1 = H at hP hS ⊢
              rw [hr9]
              refine W.eq (g2 := F0 m 88 ls [.int o12]) rfl ?_
              refine lv_if_eq (tgt := 121) hx hb dA_putBoth_88 (by decide) (fun hc => ?_) (fun hc => ?_)
              · rw [if_pos hc] at hf
                refine lv_aload hx hb dA_putBoth_121 (lv_at hl 9 rfl) ?_
                refine lv_aload_n hx hb dA_putBoth_123 rfl (lv_at hl 7 rfl) ?_
                refine lv_iload hx hb dA_putBoth_124 (lv_at hl 0 rfl) ?_
                obtain ⟨o15, hq16, hf⟩ := xbind hf
                obtain ⟨hPc, hDc, hFc⟩ := xcut (wc := [(a2, .inr (2, [.ref a3, .int o10.2.1, .int o10.2.2])), (a3, .inl (cT 2, 4096, .inr (.inl o10.1))), (a0, .inr (2, [.ref a1, .int v1, .int v2])), (a1, .inl (cT 2, 4096, .inr (.inl f0)))]) hP hD hS hA [0, 1, 2, 3] rfl rfl (by decide)
                refine va_callv (va_runV (C := "ValueBench$Row") (As := [.ref a0, .int o7]) (rest := []) ⟨hx, hb, hml, hown, htx⟩ (gR_putCopy l hl9 D cT aK aV H.size n a2 a3 a0 a1 o7 o10.1 o10.2.1 o10.2.2 f0 v1 v2 o15 hq16) ⟨callB_of 2 htx (xw_goodC kw_3_126) rfl rfl rfl (htx _ kw_1_4) (htx _ kw_3_123) ⟨by decide, by decide, by decide +kernel⟩ ⟨Nat.le_of_ble_eq_true rfl, Nat.le_of_ble_eq_true rfl⟩, (htx _ kw_3_124), (htx _ kw_3_125)⟩ ⟨xPre_blind, va_recv hK hP (ci := 2) rfl (q0 := 0) rfl, (fun U hU hW => ⟨rfl, xPre_of hZ hS hFc hPc hDc hK U hU hW⟩)⟩ rfl rfl hl.1 rfl (lv_room (Nat.le_of_ble_eq_true rfl)) dA_putBoth_126 ⟨Nat.le_of_ble_eq_true rfl, Nat.le_of_ble_eq_true rfl⟩) hS (fun q _ h => hFc q h) hFc (fun u9 t H1 locs ht hvm hr9 hB hz1 hk1 hS => ?_)
                obtain ⟨hP1, hK1, hD1⟩ := hB
                rw [ht] at hP1
                obtain ⟨hP, hD⟩ := xjoin (W := [(a2, .inr (2, [.ref a3, .int o15.2.1, .int o15.2.2])), (a3, .inl (cT 2, 4096, .inr (.inl o15.1))), (a0, .inr (2, [.ref a1, .int v1, .int v2])), (a1, .inl (cT 2, 4096, .inr (.inl f0)))]) hP hD [0, 1, 2, 3] [] 0 rfl rfl (by decide) (by decide) hk1 hFc hP1 hD1
                generalize H1 = H at hP hS ⊢
                refine lv_aload_n hx hb dA_putBoth_129 rfl (lv_at hl 5 rfl) ?_
                refine lv_iload hx hb dA_putBoth_130 (lv_at hl 1 rfl) ?_
                obtain ⟨o17, hq18, hf⟩ := xbind hf
                obtain ⟨hPc, hDc, hFc⟩ := xcut (wc := [(a0, .inr (2, [.ref a1, .int v1, .int v2])), (a1, .inl (cT 2, 4096, .inr (.inl f0)))]) hP hD hS hA [2, 3] rfl rfl (by decide)
                refine va_calli (va_runV (C := "ValueBench$Row") (As := [.int o4]) (rest := []) ⟨hx, hb, hml, hown, htx⟩ (gR_after l hl9 D cT aK aV H.size n a0 a1 o4 f0 v1 v2 o17 hq18) ⟨callB_of 1 htx (xw_goodC kw_2_196) rfl rfl rfl (htx _ kw_1_4) (htx _ kw_3_148) ⟨by decide, by decide, by decide +kernel⟩ ⟨Nat.le_of_ble_eq_true rfl, Nat.le_of_ble_eq_true rfl⟩, (htx _ kw_2_194), (htx _ kw_2_195)⟩ ⟨xPre_blind, va_recv hK hP (ci := 2) rfl (q0 := 2) rfl, (fun U hU hW => ⟨rfl, xPre_of hZ hS hFc hPc hDc hK U hU hW⟩)⟩ rfl rfl hl.1 rfl (lv_room (Nat.le_of_ble_eq_true rfl)) dA_putBoth_132 ⟨Nat.le_of_ble_eq_true rfl, Nat.le_of_ble_eq_true rfl⟩) hS (fun q _ h => hFc q h) hFc (fun r19 u9 t H1 locs ht hvm hr9 hB hz1 hk1 hS => ?_)
                obtain ⟨hP1, hK1, hD1⟩ := hB
                rw [ht] at hP1
                obtain ⟨hP, hD⟩ := xjoin (W := [(a2, .inr (2, [.ref a3, .int o15.2.1, .int o15.2.2])), (a3, .inl (cT 2, 4096, .inr (.inl o15.1))), (a0, .inr (2, [.ref a1, .int v1, .int v2])), (a1, .inl (cT 2, 4096, .inr (.inl f0)))]) hP hD [2, 3] [0, 1] 2 rfl rfl (by decide) (by decide) hk1 hFc hP1 hD1
                generalize H1 = H at hP hS ⊢
                rw [hr9]
                refine W.eq (g2 := F0 m 135 ls [.int o17]) rfl ?_
                refine lv_istore (lv' := [(8, .int o17), (11, .int o7), (10, .int o4), (9, .int y9), (7, .int y7), (0, .ref a0), (1, .int y1), (2, .ref a0), (3, .int y3), (4, .ref a2), (5, .int y5), (6, .int y6)]) hx hb dA_putBoth_135 hl (by decide) rfl (fun ls hl => ?_)
                refine lv_iinc (v := (y9 + 1)) (lv' := [(9, .int (y9 + 1)), (8, .int o17), (11, .int o7), (10, .int o4), (7, .int y7), (0, .ref a0), (1, .int y1), (2, .ref a0), (3, .int y3), (4, .ref a2), (5, .int y5), (6, .int y6)]) hx hb dA_putBoth_137 hl (k := 3) rfl rfl (by decide) rfl (fun ls hl => ?_)
                refine lv_goto (tgt := 15) hx hb dA_putBoth_140 (by decide) ?_
                obtain ⟨hP9, hD9⟩ := xsub (wc := [(a0, .inr (2, [.ref a1, .int v1, .int v2])), (a1, .inl (cT 2, 4096, .inr (.inl f0))), (a2, .inr (2, [.ref a3, .int o15.2.1, .int o15.2.2])), (a3, .inl (cT 2, 4096, .inr (.inl o15.1)))]) hP hD [2, 3, 0, 1] rfl rfl (by decide)
                exact ih (1, (y9 + 1), o17, y7, y1, y3, y5, y6, o15.1, o15.2.1, o15.2.2) _ _ ls (⟨rfl, hf, hP9, hD9, hS, lv_sub hl [0, 1, 4, 5, 6, 7, 8, 9, 10, 11] rfl⟩)
              · rw [if_neg hc] at hf
                refine lv_aload_n hx hb dA_putBoth_91 rfl (lv_at hl 7 rfl) ?_
                refine lv_iload hx hb dA_putBoth_92 (lv_at hl 0 rfl) ?_
                refine lv_bipush (v := 6) hx hb dA_putBoth_94 (by decide) ?_
                obtain ⟨o15, hq16, hf⟩ := xbind hf
                obtain ⟨hPc, hDc, hFc⟩ := xcut (wc := [(a0, .inr (2, [.ref a1, .int v1, .int v2])), (a1, .inl (cT 2, 4096, .inr (.inl f0)))]) hP hD hS hA [2, 3] rfl rfl (by decide)
                refine va_calli (va_runV (C := "ValueBench$Row") (As := [.int o7, .int 6]) (rest := []) ⟨hx, hb, hml, hown, htx⟩ (gR_is l hl9 D cT aK aV H.size n a0 a1 o7 (6 : Int32) f0 v1 v2 o15 hq16) ⟨callB_of 2 htx (xw_goodC kw_3_75) rfl rfl rfl (htx _ kw_1_4) (htx _ kw_3_106) ⟨by decide, by decide, by decide +kernel⟩ ⟨Nat.le_of_ble_eq_true rfl, Nat.le_of_ble_eq_true rfl⟩, (htx _ kw_3_73), (htx _ kw_3_74)⟩ ⟨xPre_blind, va_recv hK hP (ci := 2) rfl (q0 := 2) rfl, (fun U hU hW => ⟨rfl, xPre_of hZ hS hFc hPc hDc hK U hU hW⟩)⟩ rfl rfl hl.1 rfl (lv_room (Nat.le_of_ble_eq_true rfl)) dA_putBoth_96 ⟨Nat.le_of_ble_eq_true rfl, Nat.le_of_ble_eq_true rfl⟩) hS (fun q _ h => hFc q h) hFc (fun r17 u9 t H1 locs ht hvm hr9 hB hz1 hk1 hS => ?_)
                obtain ⟨hP1, hK1, hD1⟩ := hB
                rw [ht] at hP1
                obtain ⟨hP, hD⟩ := xjoin (W := [(a2, .inr (2, [.ref a3, .int o10.2.1, .int o10.2.2])), (a3, .inl (cT 2, 4096, .inr (.inl o10.1))), (a0, .inr (2, [.ref a1, .int v1, .int v2])), (a1, .inl (cT 2, 4096, .inr (.inl f0)))]) hP hD [2, 3] [0, 1] 2 rfl rfl (by decide) (by decide) hk1 hFc hP1 hD1
                generalize H1 = H at hP hS ⊢
                rw [hr9]
                refine W.eq (g2 := F0 m 99 ls [.int o15]) rfl ?_
                refine lv_if_eq (tgt := 121) hx hb dA_putBoth_99 (by decide) (fun hc => ?_) (fun hc => ?_)
                · rw [if_pos hc] at hf
                  refine lv_aload hx hb dA_putBoth_121 (lv_at hl 9 rfl) ?_
                  refine lv_aload_n hx hb dA_putBoth_123 rfl (lv_at hl 7 rfl) ?_
                  refine lv_iload hx hb dA_putBoth_124 (lv_at hl 0 rfl) ?_
                  obtain ⟨o18, hq19, hf⟩ := xbind hf
                  obtain ⟨hPc, hDc, hFc⟩ := xcut (wc := [(a2, .inr (2, [.ref a3, .int o10.2.1, .int o10.2.2])), (a3, .inl (cT 2, 4096, .inr (.inl o10.1))), (a0, .inr (2, [.ref a1, .int v1, .int v2])), (a1, .inl (cT 2, 4096, .inr (.inl f0)))]) hP hD hS hA [0, 1, 2, 3] rfl rfl (by decide)
                  refine va_callv (va_runV (C := "ValueBench$Row") (As := [.ref a0, .int o7]) (rest := []) ⟨hx, hb, hml, hown, htx⟩ (gR_putCopy l hl9 D cT aK aV H.size n a2 a3 a0 a1 o7 o10.1 o10.2.1 o10.2.2 f0 v1 v2 o18 hq19) ⟨callB_of 2 htx (xw_goodC kw_3_126) rfl rfl rfl (htx _ kw_1_4) (htx _ kw_3_123) ⟨by decide, by decide, by decide +kernel⟩ ⟨Nat.le_of_ble_eq_true rfl, Nat.le_of_ble_eq_true rfl⟩, (htx _ kw_3_124), (htx _ kw_3_125)⟩ ⟨xPre_blind, va_recv hK hP (ci := 2) rfl (q0 := 0) rfl, (fun U hU hW => ⟨rfl, xPre_of hZ hS hFc hPc hDc hK U hU hW⟩)⟩ rfl rfl hl.1 rfl (lv_room (Nat.le_of_ble_eq_true rfl)) dA_putBoth_126 ⟨Nat.le_of_ble_eq_true rfl, Nat.le_of_ble_eq_true rfl⟩) hS (fun q _ h => hFc q h) hFc (fun u9 t H1 locs ht hvm hr9 hB hz1 hk1 hS => ?_)
                  obtain ⟨hP1, hK1, hD1⟩ := hB
                  rw [ht] at hP1
                  obtain ⟨hP, hD⟩ := xjoin (W := [(a2, .inr (2, [.ref a3, .int o18.2.1, .int o18.2.2])), (a3, .inl (cT 2, 4096, .inr (.inl o18.1))), (a0, .inr (2, [.ref a1, .int v1, .int v2])), (a1, .inl (cT 2, 4096, .inr (.inl f0)))]) hP hD [0, 1, 2, 3] [] 0 rfl rfl (by decide) (by decide) hk1 hFc hP1 hD1
                  generalize H1 = H at hP hS ⊢
                  refine lv_aload_n hx hb dA_putBoth_129 rfl (lv_at hl 5 rfl) ?_
                  refine lv_iload hx hb dA_putBoth_130 (lv_at hl 1 rfl) ?_
                  obtain ⟨o20, hq21, hf⟩ := xbind hf
                  obtain ⟨hPc, hDc, hFc⟩ := xcut (wc := [(a0, .inr (2, [.ref a1, .int v1, .int v2])), (a1, .inl (cT 2, 4096, .inr (.inl f0)))]) hP hD hS hA [2, 3] rfl rfl (by decide)
                  refine va_calli (va_runV (C := "ValueBench$Row") (As := [.int o4]) (rest := []) ⟨hx, hb, hml, hown, htx⟩ (gR_after l hl9 D cT aK aV H.size n a0 a1 o4 f0 v1 v2 o20 hq21) ⟨callB_of 1 htx (xw_goodC kw_2_196) rfl rfl rfl (htx _ kw_1_4) (htx _ kw_3_148) ⟨by decide, by decide, by decide +kernel⟩ ⟨Nat.le_of_ble_eq_true rfl, Nat.le_of_ble_eq_true rfl⟩, (htx _ kw_2_194), (htx _ kw_2_195)⟩ ⟨xPre_blind, va_recv hK hP (ci := 2) rfl (q0 := 2) rfl, (fun U hU hW => ⟨rfl, xPre_of hZ hS hFc hPc hDc hK U hU hW⟩)⟩ rfl rfl hl.1 rfl (lv_room (Nat.le_of_ble_eq_true rfl)) dA_putBoth_132 ⟨Nat.le_of_ble_eq_true rfl, Nat.le_of_ble_eq_true rfl⟩) hS (fun q _ h => hFc q h) hFc (fun r22 u9 t H1 locs ht hvm hr9 hB hz1 hk1 hS => ?_)
                  obtain ⟨hP1, hK1, hD1⟩ := hB
                  rw [ht] at hP1
                  obtain ⟨hP, hD⟩ := xjoin (W := [(a2, .inr (2, [.ref a3, .int o18.2.1, .int o18.2.2])), (a3, .inl (cT 2, 4096, .inr (.inl o18.1))), (a0, .inr (2, [.ref a1, .int v1, .int v2])), (a1, .inl (cT 2, 4096, .inr (.inl f0)))]) hP hD [2, 3] [0, 1] 2 rfl rfl (by decide) (by decide) hk1 hFc hP1 hD1
                  generalize H1 = H at hP hS ⊢
                  rw [hr9]
                  refine W.eq (g2 := F0 m 135 ls [.int o20]) rfl ?_
                  refine lv_istore (lv' := [(8, .int o20), (11, .int o7), (10, .int o4), (9, .int y9), (7, .int y7), (0, .ref a0), (1, .int y1), (2, .ref a0), (3, .int y3), (4, .ref a2), (5, .int y5), (6, .int y6)]) hx hb dA_putBoth_135 hl (by decide) rfl (fun ls hl => ?_)
                  refine lv_iinc (v := (y9 + 1)) (lv' := [(9, .int (y9 + 1)), (8, .int o20), (11, .int o7), (10, .int o4), (7, .int y7), (0, .ref a0), (1, .int y1), (2, .ref a0), (3, .int y3), (4, .ref a2), (5, .int y5), (6, .int y6)]) hx hb dA_putBoth_137 hl (k := 3) rfl rfl (by decide) rfl (fun ls hl => ?_)
                  refine lv_goto (tgt := 15) hx hb dA_putBoth_140 (by decide) ?_
                  obtain ⟨hP9, hD9⟩ := xsub (wc := [(a0, .inr (2, [.ref a1, .int v1, .int v2])), (a1, .inl (cT 2, 4096, .inr (.inl f0))), (a2, .inr (2, [.ref a3, .int o18.2.1, .int o18.2.2])), (a3, .inl (cT 2, 4096, .inr (.inl o18.1)))]) hP hD [2, 3, 0, 1] rfl rfl (by decide)
                  exact ih (1, (y9 + 1), o20, y7, y1, y3, y5, y6, o18.1, o18.2.1, o18.2.2) _ _ ls (⟨rfl, hf, hP9, hD9, hS, lv_sub hl [0, 1, 4, 5, 6, 7, 8, 9, 10, 11] rfl⟩)
                · rw [if_neg hc] at hf
                  refine lv_aload_n hx hb dA_putBoth_102 rfl (lv_at hl 5 rfl) ?_
                  refine lv_iload hx hb dA_putBoth_103 (lv_at hl 1 rfl) ?_
                  refine lv_aload_n hx hb dA_putBoth_105 rfl (lv_at hl 7 rfl) ?_
                  refine lv_iload hx hb dA_putBoth_106 (lv_at hl 0 rfl) ?_
                  refine lv_aload hx hb dA_putBoth_108 (lv_at hl 9 rfl) ?_
                  refine lv_iconst (v := 1) hx hb dA_putBoth_110 (by decide) ?_
                  refine lv_iload hx hb dA_putBoth_111 (lv_at hl 11 rfl) ?_
                  refine lv_iconst (v := 1) hx hb dA_putBoth_113 (by decide) ?_
                  refine lv_iadd hx hb dA_putBoth_114 ?_
                  obtain ⟨o18, hq19, hf⟩ := xbind hf
                  obtain ⟨hPc, hDc, hFc⟩ := xcut (wc := [(a0, .inr (2, [.ref a1, .int v1, .int v2])), (a1, .inl (cT 2, 4096, .inr (.inl f0))), (a2, .inr (2, [.ref a3, .int o10.2.1, .int o10.2.2])), (a3, .inl (cT 2, 4096, .inr (.inl o10.1)))]) hP hD hS hA [2, 3, 0, 1] rfl rfl (by decide)
                  refine va_callv (va_runS (As := [.ref a0, .int o4, .ref a0, .int o7, .ref a2, .int 1, .int (y6 + (1 : Int32))]) (rest := []) ⟨hx, hb, hml, hown, htx⟩ (hrec H.size a0 a1 a2 a3 o4 o7 (1 : Int32) (y6 + (1 : Int32)) f0 v1 v2 o10.1 o10.2.1 o10.2.2 o18 hq19) ⟨callB_of 7 htx (xw_goodC kw_3_147) rfl rfl rfl (htx _ kw_1_21) (htx _ kw_3_145) ⟨by decide, by decide, by decide +kernel⟩ ⟨(by show (16 * d) + 1 ≤ 16 * (d + 1); omega), (by show 8 + (12 + 11) + (400 * d) ≤ 400 * (d + 1); omega)⟩, htx _ kw_3_146⟩ ⟨xPre_blind, (fun U hU hW => ⟨rfl, xPre_of hZ hS hFc hPc hDc hK U hU hW⟩)⟩ rfl rfl hl.1 rfl (lv_room (Nat.le_of_ble_eq_true rfl)) dA_putBoth_115 ⟨Nat.le_of_ble_eq_true rfl, Nat.le_of_ble_eq_true rfl⟩) hS (fun q _ h => hFc q h) hFc (fun u9 t H1 locs ht hvm hr9 hB hz1 hk1 hS => ?_)
                  obtain ⟨hP1, hK1, hD1⟩ := hB
                  rw [ht] at hP1
                  obtain ⟨hP, hD⟩ := xjoin (W := [(a0, .inr (2, [.ref a1, .int v1, .int v2])), (a1, .inl (cT 2, 4096, .inr (.inl f0))), (a2, .inr (2, [.ref a3, .int o18.2.1, .int o18.2.2])), (a3, .inl (cT 2, 4096, .inr (.inl o18.1)))]) hP hD [2, 3, 0, 1] [] 0 rfl rfl (by decide) (by decide) hk1 hFc hP1 hD1
                  generalize H1 = H at hP hS ⊢
                  refine lv_goto (tgt := 129) hx hb dA_putBoth_118 (by decide) ?_
                  refine lv_aload_n hx hb dA_putBoth_129 rfl (lv_at hl 5 rfl) ?_
                  refine lv_iload hx hb dA_putBoth_130 (lv_at hl 1 rfl) ?_
                  obtain ⟨o20, hq21, hf⟩ := xbind hf
                  obtain ⟨hPc, hDc, hFc⟩ := xcut (wc := [(a0, .inr (2, [.ref a1, .int v1, .int v2])), (a1, .inl (cT 2, 4096, .inr (.inl f0)))]) hP hD hS hA [0, 1] rfl rfl (by decide)
                  refine va_calli (va_runV (C := "ValueBench$Row") (As := [.int o4]) (rest := []) ⟨hx, hb, hml, hown, htx⟩ (gR_after l hl9 D cT aK aV H.size n a0 a1 o4 f0 v1 v2 o20 hq21) ⟨callB_of 1 htx (xw_goodC kw_2_196) rfl rfl rfl (htx _ kw_1_4) (htx _ kw_3_148) ⟨by decide, by decide, by decide +kernel⟩ ⟨Nat.le_of_ble_eq_true rfl, Nat.le_of_ble_eq_true rfl⟩, (htx _ kw_2_194), (htx _ kw_2_195)⟩ ⟨xPre_blind, va_recv hK hP (ci := 2) rfl (q0 := 0) rfl, (fun U hU hW => ⟨rfl, xPre_of hZ hS hFc hPc hDc hK U hU hW⟩)⟩ rfl rfl hl.1 rfl (lv_room (Nat.le_of_ble_eq_true rfl)) dA_putBoth_132 ⟨Nat.le_of_ble_eq_true rfl, Nat.le_of_ble_eq_true rfl⟩) hS (fun q _ h => hFc q h) hFc (fun r22 u9 t H1 locs ht hvm hr9 hB hz1 hk1 hS => ?_)
                  obtain ⟨hP1, hK1, hD1⟩ := hB
                  rw [ht] at hP1
                  obtain ⟨hP, hD⟩ := xjoin (W := [(a2, .inr (2, [.ref a3, .int o18.2.1, .int o18.2.2])), (a3, .inl (cT 2, 4096, .inr (.inl o18.1))), (a0, .inr (2, [.ref a1, .int v1, .int v2])), (a1, .inl (cT 2, 4096, .inr (.inl f0)))]) hP hD [0, 1] [2, 3] 2 rfl rfl (by decide) (by decide) hk1 hFc hP1 hD1
                  generalize H1 = H at hP hS ⊢
                  rw [hr9]
                  refine W.eq (g2 := F0 m 135 ls [.int o20]) rfl ?_
                  refine lv_istore (lv' := [(8, .int o20), (11, .int o7), (10, .int o4), (9, .int y9), (7, .int y7), (0, .ref a0), (1, .int y1), (2, .ref a0), (3, .int y3), (4, .ref a2), (5, .int y5), (6, .int y6)]) hx hb dA_putBoth_135 hl (by decide) rfl (fun ls hl => ?_)
                  refine lv_iinc (v := (y9 + 1)) (lv' := [(9, .int (y9 + 1)), (8, .int o20), (11, .int o7), (10, .int o4), (7, .int y7), (0, .ref a0), (1, .int y1), (2, .ref a0), (3, .int y3), (4, .ref a2), (5, .int y5), (6, .int y6)]) hx hb dA_putBoth_137 hl (k := 3) rfl rfl (by decide) rfl (fun ls hl => ?_)
                  refine lv_goto (tgt := 15) hx hb dA_putBoth_140 (by decide) ?_
                  obtain ⟨hP9, hD9⟩ := xsub (wc := [(a0, .inr (2, [.ref a1, .int v1, .int v2])), (a1, .inl (cT 2, 4096, .inr (.inl f0))), (a2, .inr (2, [.ref a3, .int o18.2.1, .int o18.2.2])), (a3, .inl (cT 2, 4096, .inr (.inl o18.1)))]) hP hD [2, 3, 0, 1] rfl rfl (by decide)
                  exact ih (1, (y9 + 1), o20, y7, y1, y3, y5, y6, o18.1, o18.2.1, o18.2.2) _ _ ls (⟨rfl, hf, hP9, hD9, hS, lv_sub hl [0, 1, 4, 5, 6, 7, 8, 9, 10, 11] rfl⟩)
        · rw [if_pos hc] at hf
          refine lv_aload hx hb dA_putBoth_57 (lv_at hl 9 rfl) ?_
          refine lv_aload_n hx hb dA_putBoth_59 rfl (lv_at hl 5 rfl) ?_
          refine lv_iload hx hb dA_putBoth_60 (lv_at hl 1 rfl) ?_
          obtain ⟨o12, hq13, hf⟩ := xbind hf
          obtain ⟨hPc, hDc, hFc⟩ := xcut (wc := [(a2, .inr (2, [.ref a3, .int o10.2.1, .int o10.2.2])), (a3, .inl (cT 2, 4096, .inr (.inl o10.1))), (a0, .inr (2, [.ref a1, .int v1, .int v2])), (a1, .inl (cT 2, 4096, .inr (.inl f0)))]) hP hD hS hA [0, 1, 2, 3] rfl rfl (by decide)
          refine va_callv (va_runV (C := "ValueBench$Row") (As := [.ref a0, .int o4]) (rest := []) ⟨hx, hb, hml, hown, htx⟩ (gR_putCopy l hl9 D cT aK aV H.size n a2 a3 a0 a1 o4 o10.1 o10.2.1 o10.2.2 f0 v1 v2 o12 hq13) ⟨callB_of 2 htx (xw_goodC kw_3_126) rfl rfl rfl (htx _ kw_1_4) (htx _ kw_3_123) ⟨by decide, by decide, by decide +kernel⟩ ⟨Nat.le_of_ble_eq_true rfl, Nat.le_of_ble_eq_true rfl⟩, (htx _ kw_3_124), (htx _ kw_3_125)⟩ ⟨xPre_blind, va_recv hK hP (ci := 2) rfl (q0 := 0) rfl, (fun U hU hW => ⟨rfl, xPre_of hZ hS hFc hPc hDc hK U hU hW⟩)⟩ rfl rfl hl.1 rfl (lv_room (Nat.le_of_ble_eq_true rfl)) dA_putBoth_62 ⟨Nat.le_of_ble_eq_true rfl, Nat.le_of_ble_eq_true rfl⟩) hS (fun q _ h => hFc q h) hFc (fun u9 t H1 locs ht hvm hr9 hB hz1 hk1 hS => ?_)
          obtain ⟨hP1, hK1, hD1⟩ := hB
          rw [ht] at hP1
          obtain ⟨hP, hD⟩ := xjoin (W := [(a2, .inr (2, [.ref a3, .int o12.2.1, .int o12.2.2])), (a3, .inl (cT 2, 4096, .inr (.inl o12.1))), (a0, .inr (2, [.ref a1, .int v1, .int v2])), (a1, .inl (cT 2, 4096, .inr (.inl f0)))]) hP hD [0, 1, 2, 3] [] 0 rfl rfl (by decide) (by decide) hk1 hFc hP1 hD1
          generalize H1 = H at hP hS ⊢
          refine lv_goto (tgt := 129) hx hb dA_putBoth_65 (by decide) ?_
          refine lv_aload_n hx hb dA_putBoth_129 rfl (lv_at hl 5 rfl) ?_
          refine lv_iload hx hb dA_putBoth_130 (lv_at hl 1 rfl) ?_
          obtain ⟨o14, hq15, hf⟩ := xbind hf
          obtain ⟨hPc, hDc, hFc⟩ := xcut (wc := [(a0, .inr (2, [.ref a1, .int v1, .int v2])), (a1, .inl (cT 2, 4096, .inr (.inl f0)))]) hP hD hS hA [2, 3] rfl rfl (by decide)
          refine va_calli (va_runV (C := "ValueBench$Row") (As := [.int o4]) (rest := []) ⟨hx, hb, hml, hown, htx⟩ (gR_after l hl9 D cT aK aV H.size n a0 a1 o4 f0 v1 v2 o14 hq15) ⟨callB_of 1 htx (xw_goodC kw_2_196) rfl rfl rfl (htx _ kw_1_4) (htx _ kw_3_148) ⟨by decide, by decide, by decide +kernel⟩ ⟨Nat.le_of_ble_eq_true rfl, Nat.le_of_ble_eq_true rfl⟩, (htx _ kw_2_194), (htx _ kw_2_195)⟩ ⟨xPre_blind, va_recv hK hP (ci := 2) rfl (q0 := 2) rfl, (fun U hU hW => ⟨rfl, xPre_of hZ hS hFc hPc hDc hK U hU hW⟩)⟩ rfl rfl hl.1 rfl (lv_room (Nat.le_of_ble_eq_true rfl)) dA_putBoth_132 ⟨Nat.le_of_ble_eq_true rfl, Nat.le_of_ble_eq_true rfl⟩) hS (fun q _ h => hFc q h) hFc (fun r16 u9 t H1 locs ht hvm hr9 hB hz1 hk1 hS => ?_)
          obtain ⟨hP1, hK1, hD1⟩ := hB
          rw [ht] at hP1
          obtain ⟨hP, hD⟩ := xjoin (W := [(a2, .inr (2, [.ref a3, .int o12.2.1, .int o12.2.2])), (a3, .inl (cT 2, 4096, .inr (.inl o12.1))), (a0, .inr (2, [.ref a1, .int v1, .int v2])), (a1, .inl (cT 2, 4096, .inr (.inl f0)))]) hP hD [2, 3] [0, 1] 2 rfl rfl (by decide) (by decide) hk1 hFc hP1 hD1
          generalize H1 = H at hP hS ⊢
          rw [hr9]
          refine W.eq (g2 := F0 m 135 ls [.int o14]) rfl ?_
          refine lv_istore (lv' := [(8, .int o14), (11, .int o7), (10, .int o4), (9, .int y9), (7, .int y7), (0, .ref a0), (1, .int y1), (2, .ref a0), (3, .int y3), (4, .ref a2), (5, .int y5), (6, .int y6)]) hx hb dA_putBoth_135 hl (by decide) rfl (fun ls hl => ?_)
          refine lv_iinc (v := (y9 + 1)) (lv' := [(9, .int (y9 + 1)), (8, .int o14), (11, .int o7), (10, .int o4), (7, .int y7), (0, .ref a0), (1, .int y1), (2, .ref a0), (3, .int y3), (4, .ref a2), (5, .int y5), (6, .int y6)]) hx hb dA_putBoth_137 hl (k := 3) rfl rfl (by decide) rfl (fun ls hl => ?_)
          refine lv_goto (tgt := 15) hx hb dA_putBoth_140 (by decide) ?_
          obtain ⟨hP9, hD9⟩ := xsub (wc := [(a0, .inr (2, [.ref a1, .int v1, .int v2])), (a1, .inl (cT 2, 4096, .inr (.inl f0))), (a2, .inr (2, [.ref a3, .int o12.2.1, .int o12.2.2])), (a3, .inl (cT 2, 4096, .inr (.inl o12.1)))]) hP hD [2, 3, 0, 1] rfl rfl (by decide)
          exact ih (1, (y9 + 1), o14, y7, y1, y3, y5, y6, o12.1, o12.2.1, o12.2.2) _ _ ls (⟨rfl, hf, hP9, hD9, hS, lv_sub hl [0, 1, 4, 5, 6, 7, 8, 9, 10, 11] rfl⟩)
    refine lv_aload hx hb dA_putBoth_0 (lv_at hl 4 rfl) ?_
    obtain ⟨o1, hq2, hf⟩ := xbind hf
    obtain ⟨hPc, hDc, hFc⟩ := xcut (wc := [(a2, .inr (2, [.ref a3, .int v4, .int v5])), (a3, .inl (cT 2, 4096, .inr (.inl f3)))]) hP hD hS hA [2, 3] rfl rfl (by decide)
    refine va_calli (va_runV (C := "ValueBench$Row") (As := []) (rest := []) ⟨hx, hb, hml, hown, htx⟩ (gR_open l hl9 D cT aK aV s.heap.size n a2 a3 f3 v4 v5 o1 hq2) ⟨callB_of 0 htx (xw_goodC kw_2_136) rfl rfl rfl (htx _ kw_1_4) (htx _ kw_3_138) ⟨by decide, by decide, by decide +kernel⟩ ⟨Nat.le_of_ble_eq_true rfl, Nat.le_of_ble_eq_true rfl⟩, (htx _ kw_2_134), (htx _ kw_2_135)⟩ ⟨xPre_blind, va_recv hK hP (ci := 2) rfl (q0 := 2) rfl, (fun U hU hW => ⟨rfl, xPre_of hZ hS hFc hPc hDc hK U hU hW⟩)⟩ rfl rfl hl.1 rfl (lv_room (Nat.le_of_ble_eq_true rfl)) dA_putBoth_2 ⟨Nat.le_of_ble_eq_true rfl, Nat.le_of_ble_eq_true rfl⟩) hS (fun q _ h => hFc q h) hFc (fun r3 u9 t H1 locs ht hvm hr9 hB hz1 hk1 hS => ?_)
    obtain ⟨hP1, hK1, hD1⟩ := hB
    rw [ht] at hP1
    obtain ⟨hP, hD⟩ := xjoin (W := [(a0, .inr (2, [.ref a1, .int v1, .int v2])), (a1, .inl (cT 2, 4096, .inr (.inl f0))), (a2, .inr (2, [.ref a3, .int o1.2.2.1, .int o1.2.2.2])), (a3, .inl (cT 2, 4096, .inr (.inl o1.2.1)))]) hP hD [2, 3] [0, 1] 2 rfl rfl (by decide) (by decide) hk1 hFc hP1 hD1
    generalize H1 = H at hP hS ⊢
    rw [hr9]
    refine W.eq (g2 := F0 m 5 ls [.int o1.1]) rfl ?_
    refine lv_istore (lv' := [(7, .int o1.1), (0, .ref a0), (1, .int x1), (2, .ref a0), (3, .int x3), (4, .ref a2), (5, .int x5), (6, .int x6)]) hx hb dA_putBoth_5 hl (by decide) rfl (fun ls hl => ?_)
    refine lv_iload_n hx hb dA_putBoth_7 rfl (lv_at hl 2 rfl) ?_
    refine lv_iconst (v := 1) hx hb dA_putBoth_8 (by decide) ?_
    refine lv_iadd hx hb dA_putBoth_9 ?_
    refine lv_istore (lv' := [(8, .int (x1 + (1 : Int32))), (7, .int o1.1), (0, .ref a0), (1, .int x1), (2, .ref a0), (3, .int x3), (4, .ref a2), (5, .int x5), (6, .int x6)]) hx hb dA_putBoth_10 hl (by decide) rfl (fun ls hl => ?_)
    refine lv_iconst (v := 0) hx hb dA_putBoth_12 (by decide) ?_
    refine lv_istore (lv' := [(9, .int 0), (8, .int (x1 + (1 : Int32))), (7, .int o1.1), (0, .ref a0), (1, .int x1), (2, .ref a0), (3, .int x3), (4, .ref a2), (5, .int x5), (6, .int x6)]) hx hb dA_putBoth_13 hl (by decide) rfl (fun ls hl => ?_)
    obtain ⟨hP9, hD9⟩ := xsub (wc := [(a0, .inr (2, [.ref a1, .int v1, .int v2])), (a1, .inl (cT 2, 4096, .inr (.inl f0))), (a2, .inr (2, [.ref a3, .int o1.2.2.1, .int o1.2.2.2])), (a3, .inl (cT 2, 4096, .inr (.inl o1.2.1)))]) hP hD [0, 1, 2, 3] rfl rfl (by decide)
    exact key n (1, 0, (x1 + (1 : Int32)), o1.1, x1, x3, x5, x6, o1.2.1, o1.2.2.1, o1.2.2.2) _ _ ls (⟨rfl, hf, hP9, hD9, hS, lv_sub hl [0, 1, 2, 3, 4, 5, 6, 7, 8, 9] rfl⟩)
set_option maxHeartbeats 400000000 in
set_option maxRecDepth 100000 in
theorem gA_plusa (l : Launch) (hl9 : l.stackTraces = false) (D : va_G) (cT : Nat → ClassId) (aK aV : Nat → Nat) (sz d n : Nat) (a0 : Nat) (a1 : Nat) (a2 : Nat) (a3 : Nat) (f0 : Nat → Int64) (v1 : Int32) (v2 : Int32) (f3 : Nat → Int64) (v4 : Int32) (v5 : Int32) (out : Int32 × (Nat → Int64) × Int32 × Int32) (hf : fA_plusa d n f0 v1 v2 f3 v4 v5 = some out) : xMet l yA_plus wyA_plus (16 * d + 4) 0 0 (400 * d + 128) D cT aK aV sz [.ref a0, .ref a0, .ref a2] [(a0, .inr (2, [.ref a1, .int v1, .int v2])), (a1, .inl (cT 2, 4096, .inr (.inl f0))), (a2, .inr (2, [.ref a3, .int v4, .int v5])), (a3, .inl (cT 2, 4096, .inr (.inl f3)))] (fun A => va_Qi (fun (r : Int32) (_ : Unit) => r = out.1) (fun _ t => xB D xcl cT A [(a0, .inr (2, [.ref a1, .int v1, .int v2])), (a1, .inl (cT 2, 4096, .inr (.inl f0))), (a2, .inr (2, [.ref a3, .int out.2.2.1, .int out.2.2.2])), (a3, .inl (cT 2, 4096, .inr (.inl out.2.1)))] t) A) := by
  refine Met.ofW (cc := prog_3_method_6_code) (maxL := 3) (ret := (some .int)) (by decide) rfl ?_
  intro p e s m args below meth c s₁ B hml hv
  obtain ⟨rfl, hsz, hZ, hP, hK, hD0⟩ := hv
  have hx := B.exec
  have hb := B.bytes
  have hr := B.returns
  have hts := atoms_spec (ws := wyA_plus) B.pre
  have htx := fun w h => hts w (List.mem_cons_of_mem _ h)
  have hown : s.vm.findClass "ValueBench$Operators" = some m.cls := findClass_of_methodNamed B.named
  have hlocks := B.notSynchronized
  subst hsz
  have hD := hD0.self (sz := s.heap.size)
  generalize hAe : va_A [(a0, .inr (2, [.ref a1, .int v1, .int v2])), (a1, .inl (cT 2, 4096, .inr (.inl f0))), (a2, .inr (2, [.ref a3, .int v4, .int v5])), (a3, .inl (cT 2, 4096, .inr (.inl f3)))] s.heap.size = A at hD hZ ⊢
  have hA : ∀ q : Nat, s.heap.size ≤ q → A q := fun q h => by rw [← hAe]; exact Or.inr h
  have hS : va_S A s.heap s.heap [] := va_S.rf
  have hP : va_P D xcl [(a0, .inr (2, [.ref a1, .int v1, .int v2])), (a1, .inl (cT 2, 4096, .inr (.inl f0))), (a2, .inr (2, [.ref a3, .int v4, .int v5])), (a3, .inl (cT 2, 4096, .inr (.inl f3)))] s.heap := hP
  have hl := lv_entry ([.ref a0, .ref a0, .ref a2]) (n := 3) (Nat.le_of_ble_eq_true rfl)
  rw [lg_entry_eq]
  generalize (lg_sl ([.ref a0, .ref a0, .ref a2]) ++ List.replicate (3 - (lg_sl ([.ref a0, .ref a0, .ref a2])).length) Slot.unset).toArray = ls at hl ⊢
  have hl : lv_has ls 3 [(0, .ref a0), (1, .ref a0), (2, .ref a2)] := hl
  unfold fA_plusa at hf
  refine lv_aload_n hx hb dA_plus_0 rfl (lv_at hl 0 rfl) ?_
  refine lv_iconst (v := 0) hx hb dA_plus_1 (by decide) ?_
  refine lv_iconst (v := 0) hx hb dA_plus_2 (by decide) ?_
  obtain ⟨o1, hq2, hf⟩ := xbind hf
  obtain ⟨hPc, hDc, hFc⟩ := xcut (wc := [(a0, .inr (2, [.ref a1, .int v1, .int v2])), (a1, .inl (cT 2, 4096, .inr (.inl f0)))]) hP hD hS hA [0, 1] rfl rfl (by decide)
  refine va_calli (va_runV (C := "ValueBench$Row") (As := [.int 0, .int 0]) (rest := []) ⟨hx, hb, hml, hown, htx⟩ (gR_is l hl9 D cT aK aV s.heap.size n a0 a1 (0 : Int32) (0 : Int32) f0 v1 v2 o1 hq2) ⟨callB_of 2 htx (xw_goodC kw_3_75) rfl rfl rfl (htx _ kw_1_4) (htx _ kw_3_106) ⟨by decide, by decide, by decide +kernel⟩ ⟨Nat.le_of_ble_eq_true rfl, Nat.le_of_ble_eq_true rfl⟩, (htx _ kw_3_73), (htx _ kw_3_74)⟩ ⟨xPre_blind, va_recv hK hP (ci := 2) rfl (q0 := 0) rfl, (fun U hU hW => ⟨rfl, xPre_of hZ hS hFc hPc hDc hK U hU hW⟩)⟩ rfl rfl hl.1 rfl (lv_room (Nat.le_of_ble_eq_true rfl)) dA_plus_3 ⟨Nat.le_of_ble_eq_true rfl, Nat.le_of_ble_eq_true rfl⟩) hS (fun q _ h => hFc q h) hFc (fun r3 u9 t H1 locs ht hvm hr9 hB hz1 hk1 hS => ?_)
  obtain ⟨hP1, hK1, hD1⟩ := hB
  rw [ht] at hP1
  obtain ⟨hP, hD⟩ := xjoin (W := [(a2, .inr (2, [.ref a3, .int v4, .int v5])), (a3, .inl (cT 2, 4096, .inr (.inl f3))), (a0, .inr (2, [.ref a1, .int v1, .int v2])), (a1, .inl (cT 2, 4096, .inr (.inl f0)))]) hP hD [0, 1] [2, 3] 2 rfl rfl (by decide) (by decide) hk1 hFc hP1 hD1
  generalize H1 = H at hP hS ⊢
  rw [hr9]
  refine W.eq (g2 := F0 m 6 ls [.int o1]) rfl ?_
  refine lv_if_ne (tgt := 18) hx hb dA_plus_6 (by decide) (fun hc => ?_) (fun hc => ?_)
  · rw [if_neg hc] at hf
    refine lv_aload_n hx hb dA_plus_18 rfl (lv_at hl 2 rfl) ?_
    refine lv_aload_n hx hb dA_plus_19 rfl (lv_at hl 0 rfl) ?_
    refine lv_iconst (v := 0) hx hb dA_plus_20 (by decide) ?_
    refine lv_iconst (v := 0) hx hb dA_plus_21 (by decide) ?_
    obtain ⟨o4, hq5, hf⟩ := xbind hf
    obtain ⟨hPc, hDc, hFc⟩ := xcut (wc := [(a0, .inr (2, [.ref a1, .int v1, .int v2])), (a1, .inl (cT 2, 4096, .inr (.inl f0)))]) hP hD hS hA [2, 3] rfl rfl (by decide)
    refine va_calli (va_runV (C := "ValueBench$Row") (As := [.int 0, .int 0]) (rest := [.ref a2]) ⟨hx, hb, hml, hown, htx⟩ (gR_is l hl9 D cT aK aV H.size n a0 a1 (0 : Int32) (0 : Int32) f0 v1 v2 o4 hq5) ⟨callB_of 2 htx (xw_goodC kw_3_75) rfl rfl rfl (htx _ kw_1_4) (htx _ kw_3_106) ⟨by decide, by decide, by decide +kernel⟩ ⟨Nat.le_of_ble_eq_true rfl, Nat.le_of_ble_eq_true rfl⟩, (htx _ kw_3_73), (htx _ kw_3_74)⟩ ⟨xPre_blind, va_recv hK hP (ci := 2) rfl (q0 := 2) rfl, (fun U hU hW => ⟨rfl, xPre_of hZ hS hFc hPc hDc hK U hU hW⟩)⟩ rfl rfl hl.1 rfl (lv_room (Nat.le_of_ble_eq_true rfl)) dA_plus_22 ⟨Nat.le_of_ble_eq_true rfl, Nat.le_of_ble_eq_true rfl⟩) hS (fun q _ h => hFc q h) hFc (fun r6 u9 t H1 locs ht hvm hr9 hB hz1 hk1 hS => ?_)
    obtain ⟨hP1, hK1, hD1⟩ := hB
    rw [ht] at hP1
    obtain ⟨hP, hD⟩ := xjoin (W := [(a2, .inr (2, [.ref a3, .int v4, .int v5])), (a3, .inl (cT 2, 4096, .inr (.inl f3))), (a0, .inr (2, [.ref a1, .int v1, .int v2])), (a1, .inl (cT 2, 4096, .inr (.inl f0)))]) hP hD [2, 3] [0, 1] 2 rfl rfl (by decide) (by decide) hk1 hFc hP1 hD1
    generalize H1 = H at hP hS ⊢
    rw [hr9]
    refine W.eq (g2 := F0 m 25 ls [.int o4, .ref a2]) rfl ?_
    refine lv_if_eq (tgt := 32) hx hb dA_plus_25 (by decide) (fun hc => ?_) (fun hc => ?_)
    · rw [if_pos hc] at hf
      refine lv_aload_n hx hb dA_plus_32 rfl (lv_at hl 0 rfl) ?_
      refine lv_iconst (v := 0) hx hb dA_plus_33 (by decide) ?_
      obtain ⟨o7, hq8, hf⟩ := xbind hf
      obtain ⟨hPc, hDc, hFc⟩ := xcut (wc := [(a2, .inr (2, [.ref a3, .int v4, .int v5])), (a3, .inl (cT 2, 4096, .inr (.inl f3))), (a0, .inr (2, [.ref a1, .int v1, .int v2])), (a1, .inl (cT 2, 4096, .inr (.inl f0)))]) hP hD hS hA [0, 1, 2, 3] rfl rfl (by decide)
      refine va_callv (va_runV (C := "ValueBench$Row") (As := [.ref a0, .int 0]) (rest := []) ⟨hx, hb, hml, hown, htx⟩ (gR_putCopy l hl9 D cT aK aV H.size n a2 a3 a0 a1 (0 : Int32) f3 v4 v5 f0 v1 v2 o7 hq8) ⟨callB_of 2 htx (xw_goodC kw_3_126) rfl rfl rfl (htx _ kw_1_4) (htx _ kw_3_123) ⟨by decide, by decide, by decide +kernel⟩ ⟨Nat.le_of_ble_eq_true rfl, Nat.le_of_ble_eq_true rfl⟩, (htx _ kw_3_124), (htx _ kw_3_125)⟩ ⟨xPre_blind, va_recv hK hP (ci := 2) rfl (q0 := 0) rfl, (fun U hU hW => ⟨rfl, xPre_of hZ hS hFc hPc hDc hK U hU hW⟩)⟩ rfl rfl hl.1 rfl (lv_room (Nat.le_of_ble_eq_true rfl)) dA_plus_34 ⟨Nat.le_of_ble_eq_true rfl, Nat.le_of_ble_eq_true rfl⟩) hS (fun q _ h => hFc q h) hFc (fun u9 t H1 locs ht hvm hr9 hB hz1 hk1 hS => ?_)
      obtain ⟨hP1, hK1, hD1⟩ := hB
      rw [ht] at hP1
      obtain ⟨hP, hD⟩ := xjoin (W := [(a2, .inr (2, [.ref a3, .int o7.2.1, .int o7.2.2])), (a3, .inl (cT 2, 4096, .inr (.inl o7.1))), (a0, .inr (2, [.ref a1, .int v1, .int v2])), (a1, .inl (cT 2, 4096, .inr (.inl f0)))]) hP hD [0, 1, 2, 3] [] 0 rfl rfl (by decide) (by decide) hk1 hFc hP1 hD1
      generalize H1 = H at hP hS ⊢
      refine lv_iconst (v := 0) hx hb dA_plus_37 (by decide) ?_
      obtain rfl := Option.some.inj hf
      obtain ⟨hP9, hD9⟩ := xsub (wc := [(a0, .inr (2, [.ref a1, .int v1, .int v2])), (a1, .inl (cT 2, 4096, .inr (.inl f0))), (a2, .inr (2, [.ref a3, .int o7.2.1, .int o7.2.2])), (a3, .inl (cT 2, 4096, .inr (.inl o7.1)))]) hP hD [2, 3, 0, 1] rfl rfl (by decide)
      exact W.iret (v := (0 : Int32)) hx hb hr (fun t ht hW => ⟨⟨(0 : Int32), (), rfl, rfl, by rw [ht]; exact hP9, va_K.moved hW.alike hK, hD9⟩, hS.F ht⟩) hS.2.2 dA_plus_38
    · rw [if_neg hc] at hf
      refine lv_aload_n hx hb dA_plus_28 rfl (lv_at hl 1 rfl) ?_
      refine lv_goto (tgt := 33) hx hb dA_plus_29 (by decide) ?_
      refine lv_iconst (v := 0) hx hb dA_plus_33 (by decide) ?_
      obtain ⟨o7, hq8, hf⟩ := xbind hf
      obtain ⟨hPc, hDc, hFc⟩ := xcut (wc := [(a2, .inr (2, [.ref a3, .int v4, .int v5])), (a3, .inl (cT 2, 4096, .inr (.inl f3))), (a0, .inr (2, [.ref a1, .int v1, .int v2])), (a1, .inl (cT 2, 4096, .inr (.inl f0)))]) hP hD hS hA [0, 1, 2, 3] rfl rfl (by decide)
      refine va_callv (va_runV (C := "ValueBench$Row") (As := [.ref a0, .int 0]) (rest := []) ⟨hx, hb, hml, hown, htx⟩ (gR_putCopy l hl9 D cT aK aV H.size n a2 a3 a0 a1 (0 : Int32) f3 v4 v5 f0 v1 v2 o7 hq8) ⟨callB_of 2 htx (xw_goodC kw_3_126) rfl rfl rfl (htx _ kw_1_4) (htx _ kw_3_123) ⟨by decide, by decide, by decide +kernel⟩ ⟨Nat.le_of_ble_eq_true rfl, Nat.le_of_ble_eq_true rfl⟩, (htx _ kw_3_124), (htx _ kw_3_125)⟩ ⟨xPre_blind, va_recv hK hP (ci := 2) rfl (q0 := 0) rfl, (fun U hU hW => ⟨rfl, xPre_of hZ hS hFc hPc hDc hK U hU hW⟩)⟩ rfl rfl hl.1 rfl (lv_room (Nat.le_of_ble_eq_true rfl)) dA_plus_34 ⟨Nat.le_of_ble_eq_true rfl, Nat.le_of_ble_eq_true rfl⟩) hS (fun q _ h => hFc q h) hFc (fun u9 t H1 locs ht hvm hr9 hB hz1 hk1 hS => ?_)
      obtain ⟨hP1, hK1, hD1⟩ := hB
      rw [ht] at hP1
      obtain ⟨hP, hD⟩ := xjoin (W := [(a2, .inr (2, [.ref a3, .int o7.2.1, .int o7.2.2])), (a3, .inl (cT 2, 4096, .inr (.inl o7.1))), (a0, .inr (2, [.ref a1, .int v1, .int v2])), (a1, .inl (cT 2, 4096, .inr (.inl f0)))]) hP hD [0, 1, 2, 3] [] 0 rfl rfl (by decide) (by decide) hk1 hFc hP1 hD1
      generalize H1 = H at hP hS ⊢
      refine lv_iconst (v := 0) hx hb dA_plus_37 (by decide) ?_
      obtain rfl := Option.some.inj hf
      obtain ⟨hP9, hD9⟩ := xsub (wc := [(a0, .inr (2, [.ref a1, .int v1, .int v2])), (a1, .inl (cT 2, 4096, .inr (.inl f0))), (a2, .inr (2, [.ref a3, .int o7.2.1, .int o7.2.2])), (a3, .inl (cT 2, 4096, .inr (.inl o7.1)))]) hP hD [2, 3, 0, 1] rfl rfl (by decide)
      exact W.iret (v := (0 : Int32)) hx hb hr (fun t ht hW => ⟨⟨(0 : Int32), (), rfl, rfl, by rw [ht]; exact hP9, va_K.moved hW.alike hK, hD9⟩, hS.F ht⟩) hS.2.2 dA_plus_38
  · rw [if_pos hc] at hf
    refine lv_aload_n hx hb dA_plus_9 rfl (lv_at hl 1 rfl) ?_
    refine lv_iconst (v := 0) hx hb dA_plus_10 (by decide) ?_
    refine lv_iconst (v := 0) hx hb dA_plus_11 (by decide) ?_
    obtain ⟨o4, hq5, hf⟩ := xbind hf
    obtain ⟨hPc, hDc, hFc⟩ := xcut (wc := [(a0, .inr (2, [.ref a1, .int v1, .int v2])), (a1, .inl (cT 2, 4096, .inr (.inl f0)))]) hP hD hS hA [2, 3] rfl rfl (by decide)
    refine va_calli (va_runV (C := "ValueBench$Row") (As := [.int 0, .int 0]) (rest := []) ⟨hx, hb, hml, hown, htx⟩ (gR_is l hl9 D cT aK aV H.size n a0 a1 (0 : Int32) (0 : Int32) f0 v1 v2 o4 hq5) ⟨callB_of 2 htx (xw_goodC kw_3_75) rfl rfl rfl (htx _ kw_1_4) (htx _ kw_3_106) ⟨by decide, by decide, by decide +kernel⟩ ⟨Nat.le_of_ble_eq_true rfl, Nat.le_of_ble_eq_true rfl⟩, (htx _ kw_3_73), (htx _ kw_3_74)⟩ ⟨xPre_blind, va_recv hK hP (ci := 2) rfl (q0 := 2) rfl, (fun U hU hW => ⟨rfl, xPre_of hZ hS hFc hPc hDc hK U hU hW⟩)⟩ rfl rfl hl.1 rfl (lv_room (Nat.le_of_ble_eq_true rfl)) dA_plus_12 ⟨Nat.le_of_ble_eq_true rfl, Nat.le_of_ble_eq_true rfl⟩) hS (fun q _ h => hFc q h) hFc (fun r6 u9 t H1 locs ht hvm hr9 hB hz1 hk1 hS => ?_)
    obtain ⟨hP1, hK1, hD1⟩ := hB
    rw [ht] at hP1
    obtain ⟨hP, hD⟩ := xjoin (W := [(a2, .inr (2, [.ref a3, .int v4, .int v5])), (a3, .inl (cT 2, 4096, .inr (.inl f3))), (a0, .inr (2, [.ref a1, .int v1, .int v2])), (a1, .inl (cT 2, 4096, .inr (.inl f0)))]) hP hD [2, 3] [0, 1] 2 rfl rfl (by decide) (by decide) hk1 hFc hP1 hD1
    generalize H1 = H at hP hS ⊢
    rw [hr9]
    refine W.eq (g2 := F0 m 15 ls [.int o4]) rfl ?_
    refine lv_if_eq (tgt := 39) hx hb dA_plus_15 (by decide) (fun hc => ?_) (fun hc => ?_)
    · rw [if_pos hc] at hf
      refine lv_aload_n hx hb dA_plus_39 rfl (lv_at hl 0 rfl) ?_
      refine lv_iconst (v := 0) hx hb dA_plus_40 (by decide) ?_
      obtain ⟨o7, hq8, hf⟩ := xbind hf
      obtain ⟨hPc, hDc, hFc⟩ := xcut (wc := [(a0, .inr (2, [.ref a1, .int v1, .int v2])), (a1, .inl (cT 2, 4096, .inr (.inl f0)))]) hP hD hS hA [2, 3] rfl rfl (by decide)
      refine va_calli (va_runV (C := "ValueBench$Row") (As := [.int 0]) (rest := []) ⟨hx, hb, hml, hown, htx⟩ (gR_kind l hl9 D cT aK aV H.size n a0 a1 (0 : Int32) f0 v1 v2 o7 hq8) ⟨callB_of 1 htx (xw_goodC kw_3_24) rfl rfl rfl (htx _ kw_1_4) (htx _ kw_3_134) ⟨by decide, by decide, by decide +kernel⟩ ⟨Nat.le_of_ble_eq_true rfl, Nat.le_of_ble_eq_true rfl⟩, (htx _ kw_3_22), (htx _ kw_3_23)⟩ ⟨xPre_blind, va_recv hK hP (ci := 2) rfl (q0 := 2) rfl, (fun U hU hW => ⟨rfl, xPre_of hZ hS hFc hPc hDc hK U hU hW⟩)⟩ rfl rfl hl.1 rfl (lv_room (Nat.le_of_ble_eq_true rfl)) dA_plus_41 ⟨Nat.le_of_ble_eq_true rfl, Nat.le_of_ble_eq_true rfl⟩) hS (fun q _ h => hFc q h) hFc (fun r9 u9 t H1 locs ht hvm hr9 hB hz1 hk1 hS => ?_)
      obtain ⟨hP1, hK1, hD1⟩ := hB
      rw [ht] at hP1
      obtain ⟨hP, hD⟩ := xjoin (W := [(a2, .inr (2, [.ref a3, .int v4, .int v5])), (a3, .inl (cT 2, 4096, .inr (.inl f3))), (a0, .inr (2, [.ref a1, .int v1, .int v2])), (a1, .inl (cT 2, 4096, .inr (.inl f0)))]) hP hD [2, 3] [0, 1] 2 rfl rfl (by decide) (by decide) hk1 hFc hP1 hD1
      generalize H1 = H at hP hS ⊢
      rw [hr9]
      refine W.eq (g2 := F0 m 44 ls [.int o7]) rfl ?_
      refine lv_aload_n hx hb dA_plus_44 rfl (lv_at hl 1 rfl) ?_
      refine lv_iconst (v := 0) hx hb dA_plus_45 (by decide) ?_
      obtain ⟨o10, hq11, hf⟩ := xbind hf
      obtain ⟨hPc, hDc, hFc⟩ := xcut (wc := [(a0, .inr (2, [.ref a1, .int v1, .int v2])), (a1, .inl (cT 2, 4096, .inr (.inl f0)))]) hP hD hS hA [2, 3] rfl rfl (by decide)
      refine va_calli (va_runV (C := "ValueBench$Row") (As := [.int 0]) (rest := [.int o7]) ⟨hx, hb, hml, hown, htx⟩ (gR_kind l hl9 D cT aK aV H.size n a0 a1 (0 : Int32) f0 v1 v2 o10 hq11) ⟨callB_of 1 htx (xw_goodC kw_3_24) rfl rfl rfl (htx _ kw_1_4) (htx _ kw_3_134) ⟨by decide, by decide, by decide +kernel⟩ ⟨Nat.le_of_ble_eq_true rfl, Nat.le_of_ble_eq_true rfl⟩, (htx _ kw_3_22), (htx _ kw_3_23)⟩ ⟨xPre_blind, va_recv hK hP (ci := 2) rfl (q0 := 2) rfl, (fun U hU hW => ⟨rfl, xPre_of hZ hS hFc hPc hDc hK U hU hW⟩)⟩ rfl rfl hl.1 rfl (lv_room (Nat.le_of_ble_eq_true rfl)) dA_plus_46 ⟨Nat.le_of_ble_eq_true rfl, Nat.le_of_ble_eq_true rfl⟩) hS (fun q _ h => hFc q h) hFc (fun r12 u9 t H1 locs ht hvm hr9 hB hz1 hk1 hS => ?_)
      obtain ⟨hP1, hK1, hD1⟩ := hB
      rw [ht] at hP1
      obtain ⟨hP, hD⟩ := xjoin (W := [(a2, .inr (2, [.ref a3, .int v4, .int v5])), (a3, .inl (cT 2, 4096, .inr (.inl f3))), (a0, .inr (2, [.ref a1, .int v1, .int v2])), (a1, .inl (cT 2, 4096, .inr (.inl f0)))]) hP hD [2, 3] [0, 1] 2 rfl rfl (by decide) (by decide) hk1 hFc hP1 hD1
      generalize H1 = H at hP hS ⊢
      rw [hr9]
      refine W.eq (g2 := F0 m 49 ls [.int o10, .int o7]) rfl ?_
      refine lv_icmp_eq (tgt := 54) hx hb dA_plus_49 (by decide) (fun hc => ?_) (fun hc => ?_)
      · rw [if_pos hc] at hf
        refine lv_aload_n hx hb dA_plus_54 rfl (lv_at hl 0 rfl) ?_
        refine lv_iconst (v := 0) hx hb dA_plus_55 (by decide) ?_
        obtain ⟨o13, hq14, hf⟩ := xbind hf
        obtain ⟨hPc, hDc, hFc⟩ := xcut (wc := [(a0, .inr (2, [.ref a1, .int v1, .int v2])), (a1, .inl (cT 2, 4096, .inr (.inl f0)))]) hP hD hS hA [2, 3] rfl rfl (by decide)
        refine va_calli (va_runV (C := "ValueBench$Row") (As := [.int 0]) (rest := []) ⟨hx, hb, hml, hown, htx⟩ (gR_kind l hl9 D cT aK aV H.size n a0 a1 (0 : Int32) f0 v1 v2 o13 hq14) ⟨callB_of 1 htx (xw_goodC kw_3_24) rfl rfl rfl (htx _ kw_1_4) (htx _ kw_3_134) ⟨by decide, by decide, by decide +kernel⟩ ⟨Nat.le_of_ble_eq_true rfl, Nat.le_of_ble_eq_true rfl⟩, (htx _ kw_3_22), (htx _ kw_3_23)⟩ ⟨xPre_blind, va_recv hK hP (ci := 2) rfl (q0 := 2) rfl, (fun U hU hW => ⟨rfl, xPre_of hZ hS hFc hPc hDc hK U hU hW⟩)⟩ rfl rfl hl.1 rfl (lv_room (Nat.le_of_ble_eq_true rfl)) dA_plus_56 ⟨Nat.le_of_ble_eq_true rfl, Nat.le_of_ble_eq_true rfl⟩) hS (fun q _ h => hFc q h) hFc (fun r15 u9 t H1 locs ht hvm hr9 hB hz1 hk1 hS => ?_)
        obtain ⟨hP1, hK1, hD1⟩ := hB
        rw [ht] at hP1
        obtain ⟨hP, hD⟩ := xjoin (W := [(a2, .inr (2, [.ref a3, .int v4, .int v5])), (a3, .inl (cT 2, 4096, .inr (.inl f3))), (a0, .inr (2, [.ref a1, .int v1, .int v2])), (a1, .inl (cT 2, 4096, .inr (.inl f0)))]) hP hD [2, 3] [0, 1] 2 rfl rfl (by decide) (by decide) hk1 hFc hP1 hD1
        generalize H1 = H at hP hS ⊢
        rw [hr9]
        refine W.eq (g2 := F0 m 59 ls [.int o13]) rfl ?_
        by_cases hc16 : o13 = 4
        · rw [if_pos hc16] at hf
          refine lv_tableIn (off := 25) (tgt := 84) hx hb dA_plus_59 (by rw [hc16]; decide) (by rw [hc16]; decide) (by rw [hc16]; decide) (by decide) ?_
          refine lv_aload_n hx hb dA_plus_84 rfl (lv_at hl 0 rfl) ?_
          refine lv_aload_n hx hb dA_plus_85 rfl (lv_at hl 1 rfl) ?_
          refine lv_aload_n hx hb dA_plus_86 rfl (lv_at hl 2 rfl) ?_
          obtain ⟨o17, hq18, hf⟩ := xbind hf
          obtain ⟨hPc, hDc, hFc⟩ := xcut (wc := [(a0, .inr (2, [.ref a1, .int v1, .int v2])), (a1, .inl (cT 2, 4096, .inr (.inl f0))), (a2, .inr (2, [.ref a3, .int v4, .int v5])), (a3, .inl (cT 2, 4096, .inr (.inl f3)))]) hP hD hS hA [2, 3, 0, 1] rfl rfl (by decide)
          refine va_callv (va_runS (As := [.ref a0, .ref a0, .ref a2]) (rest := []) ⟨hx, hb, hml, hown, htx⟩ (gA_putOneBehindOthera l hl9 D cT aK aV H.size n a0 a1 a2 a3 f0 v1 v2 f3 v4 v5 o17 hq18) ⟨callB_of 3 htx (xw_goodC kw_3_137) rfl rfl rfl (htx _ kw_1_21) (htx _ kw_3_135) ⟨by decide, by decide, by decide +kernel⟩ ⟨Nat.le_of_ble_eq_true rfl, Nat.le_of_ble_eq_true rfl⟩, htx _ kw_3_136⟩ ⟨xPre_blind, (fun U hU hW => ⟨rfl, xPre_of hZ hS hFc hPc hDc hK U hU hW⟩)⟩ rfl rfl hl.1 rfl (lv_room (Nat.le_of_ble_eq_true rfl)) dA_plus_87 ⟨Nat.le_of_ble_eq_true rfl, Nat.le_of_ble_eq_true rfl⟩) hS (fun q _ h => hFc q h) hFc (fun u9 t H1 locs ht hvm hr9 hB hz1 hk1 hS => ?_)
          obtain ⟨hP1, hK1, hD1⟩ := hB
          rw [ht] at hP1
          obtain ⟨hP, hD⟩ := xjoin (W := [(a0, .inr (2, [.ref a1, .int v1, .int v2])), (a1, .inl (cT 2, 4096, .inr (.inl f0))), (a2, .inr (2, [.ref a3, .int o17.2.1, .int o17.2.2])), (a3, .inl (cT 2, 4096, .inr (.inl o17.1)))]) hP hD [2, 3, 0, 1] [] 0 rfl rfl (by decide) (by decide) hk1 hFc hP1 hD1
          generalize H1 = H at hP hS ⊢
          refine lv_iconst (v := 0) hx hb dA_plus_90 (by decide) ?_
          obtain rfl := Option.some.inj hf
          obtain ⟨hP9, hD9⟩ := xsub (wc := [(a0, .inr (2, [.ref a1, .int v1, .int v2])), (a1, .inl (cT 2, 4096, .inr (.inl f0))), (a2, .inr (2, [.ref a3, .int o17.2.1, .int o17.2.2])), (a3, .inl (cT 2, 4096, .inr (.inl o17.1)))]) hP hD [0, 1, 2, 3] rfl rfl (by decide)
          exact W.iret (v := (0 : Int32)) hx hb hr (fun t ht hW => ⟨⟨(0 : Int32), (), rfl, rfl, by rw [ht]; exact hP9, va_K.moved hW.alike hK, hD9⟩, hS.F ht⟩) hS.2.2 dA_plus_91
        rw [if_neg hc16] at hf
        by_cases hc19 : o13 = 5
        · rw [if_pos hc19] at hf
          refine lv_tableIn (off := 25) (tgt := 84) hx hb dA_plus_59 (by rw [hc19]; decide) (by rw [hc19]; decide) (by rw [hc19]; decide) (by decide) ?_
          refine lv_aload_n hx hb dA_plus_84 rfl (lv_at hl 0 rfl) ?_
          refine lv_aload_n hx hb dA_plus_85 rfl (lv_at hl 1 rfl) ?_
          refine lv_aload_n hx hb dA_plus_86 rfl (lv_at hl 2 rfl) ?_
          obtain ⟨o20, hq21, hf⟩ := xbind hf
          obtain ⟨hPc, hDc, hFc⟩ := xcut (wc := [(a0, .inr (2, [.ref a1, .int v1, .int v2])), (a1, .inl (cT 2, 4096, .inr (.inl f0))), (a2, .inr (2, [.ref a3, .int v4, .int v5])), (a3, .inl (cT 2, 4096, .inr (.inl f3)))]) hP hD hS hA [2, 3, 0, 1] rfl rfl (by decide)
          refine va_callv (va_runS (As := [.ref a0, .ref a0, .ref a2]) (rest := []) ⟨hx, hb, hml, hown, htx⟩ (gA_putOneBehindOthera l hl9 D cT aK aV H.size n a0 a1 a2 a3 f0 v1 v2 f3 v4 v5 o20 hq21) ⟨callB_of 3 htx (xw_goodC kw_3_137) rfl rfl rfl (htx _ kw_1_21) (htx _ kw_3_135) ⟨by decide, by decide, by decide +kernel⟩ ⟨Nat.le_of_ble_eq_true rfl, Nat.le_of_ble_eq_true rfl⟩, htx _ kw_3_136⟩ ⟨xPre_blind, (fun U hU hW => ⟨rfl, xPre_of hZ hS hFc hPc hDc hK U hU hW⟩)⟩ rfl rfl hl.1 rfl (lv_room (Nat.le_of_ble_eq_true rfl)) dA_plus_87 ⟨Nat.le_of_ble_eq_true rfl, Nat.le_of_ble_eq_true rfl⟩) hS (fun q _ h => hFc q h) hFc (fun u9 t H1 locs ht hvm hr9 hB hz1 hk1 hS => ?_)
          obtain ⟨hP1, hK1, hD1⟩ := hB
          rw [ht] at hP1
          obtain ⟨hP, hD⟩ := xjoin (W := [(a0, .inr (2, [.ref a1, .int v1, .int v2])), (a1, .inl (cT 2, 4096, .inr (.inl f0))), (a2, .inr (2, [.ref a3, .int o20.2.1, .int o20.2.2])), (a3, .inl (cT 2, 4096, .inr (.inl o20.1)))]) hP hD [2, 3, 0, 1] [] 0 rfl rfl (by decide) (by decide) hk1 hFc hP1 hD1
          generalize H1 = H at hP hS ⊢
          refine lv_iconst (v := 0) hx hb dA_plus_90 (by decide) ?_
          obtain rfl := Option.some.inj hf
          obtain ⟨hP9, hD9⟩ := xsub (wc := [(a0, .inr (2, [.ref a1, .int v1, .int v2])), (a1, .inl (cT 2, 4096, .inr (.inl f0))), (a2, .inr (2, [.ref a3, .int o20.2.1, .int o20.2.2])), (a3, .inl (cT 2, 4096, .inr (.inl o20.1)))]) hP hD [0, 1, 2, 3] rfl rfl (by decide)
          exact W.iret (v := (0 : Int32)) hx hb hr (fun t ht hW => ⟨⟨(0 : Int32), (), rfl, rfl, by rw [ht]; exact hP9, va_K.moved hW.alike hK, hD9⟩, hS.F ht⟩) hS.2.2 dA_plus_91
        rw [if_neg hc19] at hf
        by_cases hc22 : o13 = 6
        · rw [if_pos hc22] at hf
          refine lv_tableIn (off := 33) (tgt := 92) hx hb dA_plus_59 (by rw [hc22]; decide) (by rw [hc22]; decide) (by rw [hc22]; decide) (by decide) ?_
          refine lv_aload_n hx hb dA_plus_92 rfl (lv_at hl 0 rfl) ?_
          refine lv_iconst (v := 0) hx hb dA_plus_93 (by decide) ?_
          refine lv_aload_n hx hb dA_plus_94 rfl (lv_at hl 1 rfl) ?_
          refine lv_iconst (v := 0) hx hb dA_plus_95 (by decide) ?_
          refine lv_aload_n hx hb dA_plus_96 rfl (lv_at hl 2 rfl) ?_
          refine lv_iconst (v := 0) hx hb dA_plus_97 (by decide) ?_
          refine lv_iconst (v := 0) hx hb dA_plus_98 (by decide) ?_
          obtain ⟨o23, hq24, hf⟩ := xbind hf
          obtain ⟨hPc, hDc, hFc⟩ := xcut (wc := [(a0, .inr (2, [.ref a1, .int v1, .int v2])), (a1, .inl (cT 2, 4096, .inr (.inl f0))), (a2, .inr (2, [.ref a3, .int v4, .int v5])), (a3, .inl (cT 2, 4096, .inr (.inl f3)))]) hP hD hS hA [2, 3, 0, 1] rfl rfl (by decide)
          refine va_callv (va_runS (As := [.ref a0, .int 0, .ref a0, .int 0, .ref a2, .int 0, .int 0]) (rest := []) ⟨hx, hb, hml, hown, htx⟩ (gA_putBotha l hl9 D cT aK aV d H.size n a0 a1 a2 a3 (0 : Int32) (0 : Int32) (0 : Int32) (0 : Int32) f0 v1 v2 f3 v4 v5 o23 hq24) ⟨callB_of 7 htx (xw_goodC kw_3_147) rfl rfl rfl (htx _ kw_1_21) (htx _ kw_3_145) ⟨by decide, by decide, by decide +kernel⟩ ⟨(by show (16 * d) + 1 ≤ 16 * d + 4; omega), (by show 8 + (12 + 11) + (400 * d) ≤ 400 * d + 128; omega)⟩, htx _ kw_3_146⟩ ⟨xPre_blind, (fun U hU hW => ⟨rfl, xPre_of hZ hS hFc hPc hDc hK U hU hW⟩)⟩ rfl rfl hl.1 rfl (lv_room (Nat.le_of_ble_eq_true rfl)) dA_plus_99 ⟨Nat.le_of_ble_eq_true rfl, Nat.le_of_ble_eq_true rfl⟩) hS (fun q _ h => hFc q h) hFc (fun u9 t H1 locs ht hvm hr9 hB hz1 hk1 hS => ?_)
          obtain ⟨hP1, hK1, hD1⟩ := hB
          rw [ht] at hP1
          obtain ⟨hP, hD⟩ := xjoin (W := [(a0, .inr (2, [.ref a1, .int v1, .int v2])), (a1, .inl (cT 2, 4096, .inr (.inl f0))), (a2, .inr (2, [.ref a3, .int o23.2.1, .int o23.2.2])), (a3, .inl (cT 2, 4096, .inr (.inl o23.1)))]) hP hD [2, 3, 0, 1] [] 0 rfl rfl (by decide) (by decide) hk1 hFc hP1 hD1
          generalize H1 = H at hP hS ⊢
          refine lv_iconst (v := 0) hx hb dA_plus_102 (by decide) ?_
          obtain rfl := Option.some.inj hf
          obtain ⟨hP9, hD9⟩ := xsub (wc := [(a0, .inr (2, [.ref a1, .int v1, .int v2])), (a1, .inl (cT 2, 4096, .inr (.inl f0))), (a2, .inr (2, [.ref a3, .int o23.2.1, .int o23.2.2])), (a3, .inl (cT 2, 4096, .inr (.inl o23.1)))]) hP hD [0, 1, 2, 3] rfl rfl (by decide)
          exact W.iret (v := (0 : Int32)) hx hb hr (fun t ht hW => ⟨⟨(0 : Int32), (), rfl, rfl, by rw [ht]; exact hP9, va_K.moved hW.alike hK, hD9⟩, hS.F ht⟩) hS.2.2 dA_plus_103
        rw [if_neg hc22] at hf
        refine lv_tableOut (tgt := 104) hx hb dA_plus_59 (by have e0 : o13.toInt ≠ 4 := xsw hc16 (by decide); have e1 : o13.toInt ≠ 5 := xsw hc19 (by decide); have e2 : o13.toInt ≠ 6 := xsw hc22 (by decide); omega) (by decide) ?_
        refine lv_iconst (v := 1) hx hb dA_plus_104 (by decide) ?_
        obtain rfl := Option.some.inj hf
        obtain ⟨hP9, hD9⟩ := xsub (wc := [(a0, .inr (2, [.ref a1, .int v1, .int v2])), (a1, .inl (cT 2, 4096, .inr (.inl f0))), (a2, .inr (2, [.ref a3, .int v4, .int v5])), (a3, .inl (cT 2, 4096, .inr (.inl f3)))]) hP hD [2, 3, 0, 1] rfl rfl (by decide)
        exact W.iret (v := (1 : Int32)) hx hb hr (fun t ht hW => ⟨⟨(1 : Int32), (), rfl, rfl, by rw [ht]; exact hP9, va_K.moved hW.alike hK, hD9⟩, hS.F ht⟩) hS.2.2 dA_plus_105
      · rw [if_neg hc] at hf
        refine lv_iconst (v := 1) hx hb dA_plus_52 (by decide) ?_
        obtain rfl := Option.some.inj hf
        obtain ⟨hP9, hD9⟩ := xsub (wc := [(a0, .inr (2, [.ref a1, .int v1, .int v2])), (a1, .inl (cT 2, 4096, .inr (.inl f0))), (a2, .inr (2, [.ref a3, .int v4, .int v5])), (a3, .inl (cT 2, 4096, .inr (.inl f3)))]) hP hD [2, 3, 0, 1] rfl rfl (by decide)
        exact W.iret (v := (1 : Int32)) hx hb hr (fun t ht hW => ⟨⟨(1 : Int32), (), rfl, rfl, by rw [ht]; exact hP9, va_K.moved hW.alike hK, hD9⟩, hS.F ht⟩) hS.2.2 dA_plus_53
    · rw [if_neg hc] at hf
      refine lv_aload_n hx hb dA_plus_18 rfl (lv_at hl 2 rfl) ?_
      refine lv_aload_n hx hb dA_plus_19 rfl (lv_at hl 0 rfl) ?_
      refine lv_iconst (v := 0) hx hb dA_plus_20 (by decide) ?_
      refine lv_iconst (v := 0) hx hb dA_plus_21 (by decide) ?_
      obtain ⟨o7, hq8, hf⟩ := xbind hf
      obtain ⟨hPc, hDc, hFc⟩ := xcut (wc := [(a0, .inr (2, [.ref a1, .int v1, .int v2])), (a1, .inl (cT 2, 4096, .inr (.inl f0)))]) hP hD hS hA [2, 3] rfl rfl (by decide)
      refine va_calli (va_runV (C := "ValueBench$Row") (As := [.int 0, .int 0]) (rest := [.ref a2]) ⟨hx, hb, hml, hown, htx⟩ (gR_is l hl9 D cT aK aV H.size n a0 a1 (0 : Int32) (0 : Int32) f0 v1 v2 o7 hq8) ⟨callB_of 2 htx (xw_goodC kw_3_75) rfl rfl rfl (htx _ kw_1_4) (htx _ kw_3_106) ⟨by decide, by decide, by decide +kernel⟩ ⟨Nat.le_of_ble_eq_true rfl, Nat.le_of_ble_eq_true rfl⟩, (htx _ kw_3_73), (htx _ kw_3_74)⟩ ⟨xPre_blind, va_recv hK hP (ci := 2) rfl (q0 := 2) rfl, (fun U hU hW => ⟨rfl, xPre_of hZ hS hFc hPc hDc hK U hU hW⟩)⟩ rfl rfl hl.1 rfl (lv_room (Nat.le_of_ble_eq_true rfl)) dA_plus_22 ⟨Nat.le_of_ble_eq_true rfl, Nat.le_of_ble_eq_true rfl⟩) hS (fun q _ h => hFc q h) hFc (fun r9 u9 t H1 locs ht hvm hr9 hB hz1 hk1 hS => ?_)
      obtain ⟨hP1, hK1, hD1⟩ := hB
      rw [ht] at hP1
      obtain ⟨hP, hD⟩ := xjoin (W := [(a2, .inr (2, [.ref a3, .int v4, .int v5])), (a3, .inl (cT 2, 4096, .inr (.inl f3))), (a0, .inr (2, [.ref a1, .int v1, .int v2])), (a1, .inl (cT 2, 4096, .inr (.inl f0)))]) hP hD [2, 3] [0, 1] 2 rfl rfl (by decide) (by decide) hk1 hFc hP1 hD1
      generalize H1 = H at hP hS ⊢
      rw [hr9]
      refine W.eq (g2 := F0 m 25 ls [.int o7, .ref a2]) rfl ?_
      refine lv_if_eq (tgt := 32) hx hb dA_plus_25 (by decide) (fun hc => ?_) (fun hc => ?_)
      · rw [if_pos hc] at hf
        refine lv_aload_n hx hb dA_plus_32 rfl (lv_at hl 0 rfl) ?_
        refine lv_iconst (v := 0) hx hb dA_plus_33 (by decide) ?_
        obtain ⟨o10, hq11, hf⟩ := xbind hf
        obtain ⟨hPc, hDc, hFc⟩ := xcut (wc := [(a2, .inr (2, [.ref a3, .int v4, .int v5])), (a3, .inl (cT 2, 4096, .inr (.inl f3))), (a0, .inr (2, [.ref a1, .int v1, .int v2])), (a1, .inl (cT 2, 4096, .inr (.inl f0)))]) hP hD hS hA [0, 1, 2, 3] rfl rfl (by decide)
        refine va_callv (va_runV (C := "ValueBench$Row") (As := [.ref a0, .int 0]) (rest := []) ⟨hx, hb, hml, hown, htx⟩ (gR_putCopy l hl9 D cT aK aV H.size n a2 a3 a0 a1 (0 : Int32) f3 v4 v5 f0 v1 v2 o10 hq11) ⟨callB_of 2 htx (xw_goodC kw_3_126) rfl rfl rfl (htx _ kw_1_4) (htx _ kw_3_123) ⟨by decide, by decide, by decide +kernel⟩ ⟨Nat.le_of_ble_eq_true rfl, Nat.le_of_ble_eq_true rfl⟩, (htx _ kw_3_124), (htx _ kw_3_125)⟩ ⟨xPre_blind, va_recv hK hP (ci := 2) rfl (q0 := 0) rfl, (fun U hU hW => ⟨rfl, xPre_of hZ hS hFc hPc hDc hK U hU hW⟩)⟩ rfl rfl hl.1 rfl (lv_room (Nat.le_of_ble_eq_true rfl)) dA_plus_34 ⟨Nat.le_of_ble_eq_true rfl, Nat.le_of_ble_eq_true rfl⟩) hS (fun q _ h => hFc q h) hFc (fun u9 t H1 locs ht hvm hr9 hB hz1 hk1 hS => ?_)
        obtain ⟨hP1, hK1, hD1⟩ := hB
        rw [ht] at hP1
        obtain ⟨hP, hD⟩ := xjoin (W := [(a2, .inr (2, [.ref a3, .int o10.2.1, .int o10.2.2])), (a3, .inl (cT 2, 4096, .inr (.inl o10.1))), (a0, .inr (2, [.ref a1, .int v1, .int v2])), (a1, .inl (cT 2, 4096, .inr (.inl f0)))]) hP hD [0, 1, 2, 3] [] 0 rfl rfl (by decide) (by decide) hk1 hFc hP1 hD1
        generalize H1 = H at hP hS ⊢
        refine lv_iconst (v := 0) hx hb dA_plus_37 (by decide) ?_
        obtain rfl := Option.some.inj hf
        obtain ⟨hP9, hD9⟩ := xsub (wc := [(a0, .inr (2, [.ref a1, .int v1, .int v2])), (a1, .inl (cT 2, 4096, .inr (.inl f0))), (a2, .inr (2, [.ref a3, .int o10.2.1, .int o10.2.2])), (a3, .inl (cT 2, 4096, .inr (.inl o10.1)))]) hP hD [2, 3, 0, 1] rfl rfl (by decide)
        exact W.iret (v := (0 : Int32)) hx hb hr (fun t ht hW => ⟨⟨(0 : Int32), (), rfl, rfl, by rw [ht]; exact hP9, va_K.moved hW.alike hK, hD9⟩, hS.F ht⟩) hS.2.2 dA_plus_38
      · rw [if_neg hc] at hf
        refine lv_aload_n hx hb dA_plus_28 rfl (lv_at hl 1 rfl) ?_
        refine lv_goto (tgt := 33) hx hb dA_plus_29 (by decide) ?_
        refine lv_iconst (v := 0) hx hb dA_plus_33 (by decide) ?_
        obtain ⟨o10, hq11, hf⟩ := xbind hf
        obtain ⟨hPc, hDc, hFc⟩ := xcut (wc := [(a2, .inr (2, [.ref a3, .int v4, .int v5])), (a3, .inl (cT 2, 4096, .inr (.inl f3))), (a0, .inr (2, [.ref a1, .int v1, .int v2])), (a1, .inl (cT 2, 4096, .inr (.inl f0)))]) hP hD hS hA [0, 1, 2, 3] rfl rfl (by decide)
        refine va_callv (va_runV (C := "ValueBench$Row") (As := [.ref a0, .int 0]) (rest := []) ⟨hx, hb, hml, hown, htx⟩ (gR_putCopy l hl9 D cT aK aV H.size n a2 a3 a0 a1 (0 : Int32) f3 v4 v5 f0 v1 v2 o10 hq11) ⟨callB_of 2 htx (xw_goodC kw_3_126) rfl rfl rfl (htx _ kw_1_4) (htx _ kw_3_123) ⟨by decide, by decide, by decide +kernel⟩ ⟨Nat.le_of_ble_eq_true rfl, Nat.le_of_ble_eq_true rfl⟩, (htx _ kw_3_124), (htx _ kw_3_125)⟩ ⟨xPre_blind, va_recv hK hP (ci := 2) rfl (q0 := 0) rfl, (fun U hU hW => ⟨rfl, xPre_of hZ hS hFc hPc hDc hK U hU hW⟩)⟩ rfl rfl hl.1 rfl (lv_room (Nat.le_of_ble_eq_true rfl)) dA_plus_34 ⟨Nat.le_of_ble_eq_true rfl, Nat.le_of_ble_eq_true rfl⟩) hS (fun q _ h => hFc q h) hFc (fun u9 t H1 locs ht hvm hr9 hB hz1 hk1 hS => ?_)
        obtain ⟨hP1, hK1, hD1⟩ := hB
        rw [ht] at hP1
        obtain ⟨hP, hD⟩ := xjoin (W := [(a2, .inr (2, [.ref a3, .int o10.2.1, .int o10.2.2])), (a3, .inl (cT 2, 4096, .inr (.inl o10.1))), (a0, .inr (2, [.ref a1, .int v1, .int v2])), (a1, .inl (cT 2, 4096, .inr (.inl f0)))]) hP hD [0, 1, 2, 3] [] 0 rfl rfl (by decide) (by decide) hk1 hFc hP1 hD1
        generalize H1 = H at hP hS ⊢
        refine lv_iconst (v := 0) hx hb dA_plus_37 (by decide) ?_
        obtain rfl := Option.some.inj hf
        obtain ⟨hP9, hD9⟩ := xsub (wc := [(a0, .inr (2, [.ref a1, .int v1, .int v2])), (a1, .inl (cT 2, 4096, .inr (.inl f0))), (a2, .inr (2, [.ref a3, .int o10.2.1, .int o10.2.2])), (a3, .inl (cT 2, 4096, .inr (.inl o10.1)))]) hP hD [2, 3, 0, 1] rfl rfl (by decide)
        exact W.iret (v := (0 : Int32)) hx hb hr (fun t ht hW => ⟨⟨(0 : Int32), (), rfl, rfl, by rw [ht]; exact hP9, va_K.moved hW.alike hK, hD9⟩, hS.F ht⟩) hS.2.2 dA_plus_38
set_option maxHeartbeats 400000000 in
set_option maxRecDepth 100000 in
theorem gA_hasElementa (l : Launch) (hl9 : l.stackTraces = false) (D : va_G) (cT : Nat → ClassId) (aK aV : Nat → Nat) (sz d n : Nat) (a0 : Nat) (a1 : Nat) (x2 : Int32) (f0 : Nat → Int64) (v1 : Int32) (v2 : Int32) (out : Int32) (hf : fA_hasElementa d n x2 f0 v1 v2 = some out) : xMet l yA_hasElement wyA_hasElement (16 * d + 2) 0 0 (400 * d + 47) D cT aK aV sz [.ref a0, .ref a0, .int x2] [(a0, .inr (2, [.ref a1, .int v1, .int v2])), (a1, .inl (cT 2, 4096, .inr (.inl f0)))] (fun A => va_Qi (fun (r : Int32) (_ : Unit) => r = out) (fun _ t => xB D xcl cT A [(a0, .inr (2, [.ref a1, .int v1, .int v2])), (a1, .inl (cT 2, 4096, .inr (.inl f0)))] t) A) := by
  refine Met.ofW (cc := prog_3_method_11_code) (maxL := 5) (ret := (some .boolean)) (by decide) rfl ?_
  intro p e s m args below meth c s₁ B hml hv
  obtain ⟨rfl, hsz, hZ, hP, hK, hD0⟩ := hv
  have hx := B.exec
  have hb := B.bytes
  have hr := B.returns
  have hts := atoms_spec (ws := wyA_hasElement) B.pre
  have htx := fun w h => hts w (List.mem_cons_of_mem _ h)
  have hown : s.vm.findClass "ValueBench$Operators" = some m.cls := findClass_of_methodNamed B.named
  have hlocks := B.notSynchronized
  subst hsz
  have hD := hD0.self (sz := s.heap.size)
  generalize hAe : va_A [(a0, .inr (2, [.ref a1, .int v1, .int v2])), (a1, .inl (cT 2, 4096, .inr (.inl f0)))] s.heap.size = A at hD hZ ⊢
  have hA : ∀ q : Nat, s.heap.size ≤ q → A q := fun q h => by rw [← hAe]; exact Or.inr h
  have hS : va_S A s.heap s.heap [] := va_S.rf
  have hP : va_P D xcl [(a0, .inr (2, [.ref a1, .int v1, .int v2])), (a1, .inl (cT 2, 4096, .inr (.inl f0)))] s.heap := hP
  have hl := lv_entry ([.ref a0, .ref a0, .int x2]) (n := 5) (Nat.le_of_ble_eq_true rfl)
  rw [lg_entry_eq]
  generalize (lg_sl ([.ref a0, .ref a0, .int x2]) ++ List.replicate (5 - (lg_sl ([.ref a0, .ref a0, .int x2])).length) Slot.unset).toArray = ls at hl ⊢
  have hl : lv_has ls 5 [(0, .ref a0), (1, .ref a0), (2, .int x2)] := hl
  unfold fA_hasElementa at hf
  refine xloopK (σ := Nat × Int32 × Int32 × Int32) (fun n x H locs ls => (x.1 = 1 ∧ fA_hasElementa_b d f0 v1 v2 n x.1 x.2.1 x.2.2.1 x.2.2.2 = some out ∧ va_P D xcl [(a0, .inr (2, [.ref a1, .int v1, .int v2])), (a1, .inl (cT 2, 4096, .inr (.inl f0)))] H ∧ va_D A [(a0, .inr (2, [.ref a1, .int v1, .int v2])), (a1, .inl (cT 2, 4096, .inr (.inl f0)))] ∧ va_S A s.heap H locs ∧ lv_has ls 5 [(4, .int x.2.1), (3, .int x.2.2.1), (0, .ref a0), (1, .ref a0), (2, .int x.2.2.2)])) (fun x => 5) (fun x H locs ls h => by exact absurd h.2.1 (by rw [fA_hasElementa_b]; exact fun h => nomatch h)) (fun n ih x H locs ls hv => ?_) (fun key => ?_)
  · obtain ⟨lb, y4, y3, y2⟩ := x
    rcases hv with ⟨hj, hf, hP, hD, hS, hl⟩
    subst hj
    have hf : fA_hasElementa_b d f0 v1 v2 (n + 1) 1 y4 y3 y2 = some out := hf
    rw [fA_hasElementa_b] at hf
    obtain ⟨hP, hD⟩ : xPD D xcl A [(a0, .inr (2, [.ref a1, .int v1, .int v2])), (a1, .inl (cT 2, 4096, .inr (.inl f0)))] H := ⟨hP, hD⟩
    have hl : lv_has ls 5 [(4, .int y4), (3, .int y3), (0, .ref a0), (1, .ref a0), (2, .int y2)] := hl
    refine W.eq (g2 := F0 m 5 ls []) rfl ?_
    refine lv_iload hx hb dA_hasElement_5 (lv_at hl 0 rfl) ?_
    refine lv_aload_n hx hb dA_hasElement_7 rfl (lv_at hl 2 rfl) ?_
    refine lv_iconst (v := 0) hx hb dA_hasElement_8 (by decide) ?_
    obtain ⟨o1, hq2, hf⟩ := xbind hf
    obtain ⟨hPc, hDc, hFc⟩ := xcut (wc := [(a0, .inr (2, [.ref a1, .int v1, .int v2])), (a1, .inl (cT 2, 4096, .inr (.inl f0)))]) hP hD hS hA [0, 1] rfl rfl (by decide)
    refine va_calli (va_runV (C := "ValueBench$Row") (As := [.int 0]) (rest := [.int y4]) ⟨hx, hb, hml, hown, htx⟩ (gR_length l hl9 D cT aK aV H.size n a0 a1 (0 : Int32) f0 v1 v2 o1 hq2) ⟨callB_of 1 htx (xw_goodC kw_2_191) rfl rfl rfl (htx _ kw_1_4) (htx _ kw_3_143) ⟨by decide, by decide, by decide +kernel⟩ ⟨Nat.le_of_ble_eq_true rfl, Nat.le_of_ble_eq_true rfl⟩, (htx _ kw_2_189), (htx _ kw_2_190)⟩ ⟨xPre_blind, va_recv hK hP (ci := 2) rfl (q0 := 0) rfl, (fun U hU hW => ⟨rfl, xPre_of hZ hS hFc hPc hDc hK U hU hW⟩)⟩ rfl rfl hl.1 rfl (lv_room (Nat.le_of_ble_eq_true rfl)) dA_hasElement_9 ⟨Nat.le_of_ble_eq_true rfl, Nat.le_of_ble_eq_true rfl⟩) hS (fun q _ h => hFc q h) hFc (fun r3 u9 t H1 locs ht hvm hr9 hB hz1 hk1 hS => ?_)
    obtain ⟨hP1, hK1, hD1⟩ := hB
    rw [ht] at hP1
    obtain ⟨hP, hD⟩ := xjoin (W := [(a0, .inr (2, [.ref a1, .int v1, .int v2])), (a1, .inl (cT 2, 4096, .inr (.inl f0)))]) hP hD [0, 1] [] 0 rfl rfl (by decide) (by decide) hk1 hFc hP1 hD1
    generalize H1 = H at hP hS ⊢
    rw [hr9]
    refine W.eq (g2 := F0 m 12 ls [.int o1, .int y4]) rfl ?_
    refine lv_icmp_ge (tgt := 39) hx hb dA_hasElement_12 (by decide) (fun hc => ?_) (fun hc => ?_)
    · rw [if_pos hc] at hf
      refine lv_iconst (v := 0) hx hb dA_hasElement_39 (by decide) ?_
      obtain rfl := Option.some.inj hf
      obtain ⟨hP9, hD9⟩ := xsub (wc := [(a0, .inr (2, [.ref a1, .int v1, .int v2])), (a1, .inl (cT 2, 4096, .inr (.inl f0)))]) hP hD [0, 1] rfl rfl (by decide)
      exact W.zret (v := (0 : Int32)) hx hb hr rfl (fun t ht hW => ⟨⟨(0 : Int32), (), rfl, rfl, by rw [ht]; exact hP9, va_K.moved hW.alike hK, hD9⟩, hS.F ht⟩) hS.2.2 dA_hasElement_40
    · rw [if_neg hc] at hf
      refine lv_aload_n hx hb dA_hasElement_15 rfl (lv_at hl 2 rfl) ?_
      refine lv_iload_n hx hb dA_hasElement_16 rfl (lv_at hl 1 rfl) ?_
      refine lv_aload_n hx hb dA_hasElement_17 rfl (lv_at hl 3 rfl) ?_
      refine lv_iload_n hx hb dA_hasElement_18 rfl (lv_at hl 4 rfl) ?_
      obtain ⟨o4, hq5, hf⟩ := xbind hf
      obtain ⟨hPc, hDc, hFc⟩ := xcut (wc := [(a0, .inr (2, [.ref a1, .int v1, .int v2])), (a1, .inl (cT 2, 4096, .inr (.inl f0)))]) hP hD hS hA [0, 1] rfl rfl (by decide)
      refine va_calli (va_runS (As := [.ref a0, .int y3, .ref a0, .int y2]) (rest := []) ⟨hx, hb, hml, hown, htx⟩ (gO_isSamea l hl9 D cT aK aV H.size d n a0 a1 y3 y2 f0 v1 v2 o4 hq5) ⟨callB_of 4 htx (xw_goodC kw_3_161) rfl rfl rfl (htx _ kw_1_23) (htx _ kw_3_159) ⟨by decide, by decide, by decide +kernel⟩ ⟨(by show (16 * d + 1) + 1 ≤ 16 * d + 2; omega), (by show 8 + (4 + 11) + (400 * d + 24) ≤ 400 * d + 47; omega)⟩, htx _ kw_3_160⟩ ⟨xPre_blind, (fun U hU hW => ⟨rfl, xPre_of hZ hS hFc hPc hDc hK U hU hW⟩)⟩ rfl rfl hl.1 rfl (lv_room (Nat.le_of_ble_eq_true rfl)) dA_hasElement_19 ⟨Nat.le_of_ble_eq_true rfl, Nat.le_of_ble_eq_true rfl⟩) hS (fun q _ h => hFc q h) hFc (fun r6 u9 t H1 locs ht hvm hr9 hB hz1 hk1 hS => ?_)
      obtain ⟨hP1, hK1, hD1⟩ := hB
      rw [ht] at hP1
      obtain ⟨hP, hD⟩ := xjoin (W := [(a0, .inr (2, [.ref a1, .int v1, .int v2])), (a1, .inl (cT 2, 4096, .inr (.inl f0)))]) hP hD [0, 1] [] 0 rfl rfl (by decide) (by decide) hk1 hFc hP1 hD1
      generalize H1 = H at hP hS ⊢
      rw [hr9]
      refine W.eq (g2 := F0 m 22 ls [.int o4]) rfl ?_
      refine lv_if_eq (tgt := 27) hx hb dA_hasElement_22 (by decide) (fun hc => ?_) (fun hc => ?_)
      · rw [if_pos hc] at hf
        refine lv_aload_n hx hb dA_hasElement_27 rfl (lv_at hl 2 rfl) ?_
        refine lv_iload_n hx hb dA_hasElement_28 rfl (lv_at hl 1 rfl) ?_
        obtain ⟨o7, hq8, hf⟩ := xbind hf
        obtain ⟨hPc, hDc, hFc⟩ := xcut (wc := [(a0, .inr (2, [.ref a1, .int v1, .int v2])), (a1, .inl (cT 2, 4096, .inr (.inl f0)))]) hP hD hS hA [0, 1] rfl rfl (by decide)
        refine va_calli (va_runV (C := "ValueBench$Row") (As := [.int y3]) (rest := []) ⟨hx, hb, hml, hown, htx⟩ (gR_after l hl9 D cT aK aV H.size n a0 a1 y3 f0 v1 v2 o7 hq8) ⟨callB_of 1 htx (xw_goodC kw_2_196) rfl rfl rfl (htx _ kw_1_4) (htx _ kw_3_148) ⟨by decide, by decide, by decide +kernel⟩ ⟨Nat.le_of_ble_eq_true rfl, Nat.le_of_ble_eq_true rfl⟩, (htx _ kw_2_194), (htx _ kw_2_195)⟩ ⟨xPre_blind, va_recv hK hP (ci := 2) rfl (q0 := 0) rfl, (fun U hU hW => ⟨rfl, xPre_of hZ hS hFc hPc hDc hK U hU hW⟩)⟩ rfl rfl hl.1 rfl (lv_room (Nat.le_of_ble_eq_true rfl)) dA_hasElement_29 ⟨Nat.le_of_ble_eq_true rfl, Nat.le_of_ble_eq_true rfl⟩) hS (fun q _ h => hFc q h) hFc (fun r9 u9 t H1 locs ht hvm hr9 hB hz1 hk1 hS => ?_)
        obtain ⟨hP1, hK1, hD1⟩ := hB
        rw [ht] at hP1
        obtain ⟨hP, hD⟩ := xjoin (W := [(a0, .inr (2, [.ref a1, .int v1, .int v2])), (a1, .inl (cT 2, 4096, .inr (.inl f0)))]) hP hD [0, 1] [] 0 rfl rfl (by decide) (by decide) hk1 hFc hP1 hD1
        generalize H1 = H at hP hS ⊢
        rw [hr9]
        refine W.eq (g2 := F0 m 32 ls [.int o7]) rfl ?_
        refine lv_istore_n (lv' := [(3, .int o7), (4, .int y4), (0, .ref a0), (1, .ref a0), (2, .int y2)]) hx hb dA_hasElement_32 rfl hl (by decide) rfl (fun ls hl => ?_)
        refine lv_iinc (v := (y4 + 1)) (lv' := [(4, .int (y4 + 1)), (3, .int o7), (0, .ref a0), (1, .ref a0), (2, .int y2)]) hx hb dA_hasElement_33 hl (k := 1) rfl rfl (by decide) rfl (fun ls hl => ?_)
        refine lv_goto (tgt := 5) hx hb dA_hasElement_36 (by decide) ?_
        obtain ⟨hP9, hD9⟩ := xsub (wc := [(a0, .inr (2, [.ref a1, .int v1, .int v2])), (a1, .inl (cT 2, 4096, .inr (.inl f0)))]) hP hD [0, 1] rfl rfl (by decide)
        exact ih (1, (y4 + 1), o7, y2) _ _ ls (⟨rfl, hf, hP9, hD9, hS, lv_sub hl [0, 1, 2, 3, 4] rfl⟩)
      · rw [if_neg hc] at hf
        refine lv_iconst (v := 1) hx hb dA_hasElement_25 (by decide) ?_
        obtain rfl := Option.some.inj hf
        obtain ⟨hP9, hD9⟩ := xsub (wc := [(a0, .inr (2, [.ref a1, .int v1, .int v2])), (a1, .inl (cT 2, 4096, .inr (.inl f0)))]) hP hD [0, 1] rfl rfl (by decide)
        exact W.zret (v := (1 : Int32)) hx hb hr rfl (fun t ht hW => ⟨⟨(1 : Int32), (), rfl, rfl, by rw [ht]; exact hP9, va_K.moved hW.alike hK, hD9⟩, hS.F ht⟩) hS.2.2 dA_hasElement_26
  refine lv_iconst (v := 1) hx hb dA_hasElement_0 (by decide) ?_
  refine lv_istore_n (lv' := [(3, .int 1), (0, .ref a0), (1, .ref a0), (2, .int x2)]) hx hb dA_hasElement_1 rfl hl (by decide) rfl (fun ls hl => ?_)
  refine lv_iconst (v := 0) hx hb dA_hasElement_2 (by decide) ?_
  refine lv_istore (lv' := [(4, .int 0), (3, .int 1), (0, .ref a0), (1, .ref a0), (2, .int x2)]) hx hb dA_hasElement_3 hl (by decide) rfl (fun ls hl => ?_)
  obtain ⟨hP9, hD9⟩ := xsub (wc := [(a0, .inr (2, [.ref a1, .int v1, .int v2])), (a1, .inl (cT 2, 4096, .inr (.inl f0)))]) hP hD [0, 1] rfl rfl (by decide)
  exact key n (1, 0, 1, x2) _ _ ls (⟨rfl, hf, hP9, hD9, hS, lv_sub hl [0, 1, 2, 3, 4] rfl⟩)
set_option maxHeartbeats 400000000 in
set_option maxRecDepth 100000 in
theorem gA_minusa (l : Launch) (hl9 : l.stackTraces = false) (D : va_G) (cT : Nat → ClassId) (aK aV : Nat → Nat) (sz d n : Nat) (a0 : Nat) (a1 : Nat) (a2 : Nat) (a3 : Nat) (f0 : Nat → Int64) (v1 : Int32) (v2 : Int32) (f3 : Nat → Int64) (v4 : Int32) (v5 : Int32) (out : Int32 × (Nat → Int64) × Int32 × Int32) (hf : fA_minusa d n f0 v1 v2 f3 v4 v5 = some out) : xMet l yA_minus wyA_minus (16 * d + 3) 0 0 (400 * d + 105) D cT aK aV sz [.ref a0, .ref a0, .ref a2] [(a0, .inr (2, [.ref a1, .int v1, .int v2])), (a1, .inl (cT 2, 4096, .inr (.inl f0))), (a2, .inr (2, [.ref a3, .int v4, .int v5])), (a3, .inl (cT 2, 4096, .inr (.inl f3)))] (fun A => va_Qi (fun (r : Int32) (_ : Unit) => r = out.1) (fun _ t => xB D xcl cT A [(a0, .inr (2, [.ref a1, .int v1, .int v2])), (a1, .inl (cT 2, 4096, .inr (.inl f0))), (a2, .inr (2, [.ref a3, .int out.2.2.1, .int out.2.2.2])), (a3, .inl (cT 2, 4096, .inr (.inl out.2.1)))] t) A) := by
  refine Met.ofW (cc := prog_3_method_10_code) (maxL := 7) (ret := (some .int)) (by decide) rfl ?_
  intro p e s m args below meth c s₁ B hml hv
  obtain ⟨rfl, hsz, hZ, hP, hK, hD0⟩ := hv
  have hx := B.exec
  have hb := B.bytes
  have hr := B.returns
  have hts := atoms_spec (ws := wyA_minus) B.pre
  have htx := fun w h => hts w (List.mem_cons_of_mem _ h)
  have hown : s.vm.findClass "ValueBench$Operators" = some m.cls := findClass_of_methodNamed B.named
  have hlocks := B.notSynchronized
  subst hsz
  have hD := hD0.self (sz := s.heap.size)
  generalize hAe : va_A [(a0, .inr (2, [.ref a1, .int v1, .int v2])), (a1, .inl (cT 2, 4096, .inr (.inl f0))), (a2, .inr (2, [.ref a3, .int v4, .int v5])), (a3, .inl (cT 2, 4096, .inr (.inl f3)))] s.heap.size = A at hD hZ ⊢
  have hA : ∀ q : Nat, s.heap.size ≤ q → A q := fun q h => by rw [← hAe]; exact Or.inr h
  have hS : va_S A s.heap s.heap [] := va_S.rf
  have hP : va_P D xcl [(a0, .inr (2, [.ref a1, .int v1, .int v2])), (a1, .inl (cT 2, 4096, .inr (.inl f0))), (a2, .inr (2, [.ref a3, .int v4, .int v5])), (a3, .inl (cT 2, 4096, .inr (.inl f3)))] s.heap := hP
  have hl := lv_entry ([.ref a0, .ref a0, .ref a2]) (n := 7) (Nat.le_of_ble_eq_true rfl)
  rw [lg_entry_eq]
  generalize (lg_sl ([.ref a0, .ref a0, .ref a2]) ++ List.replicate (7 - (lg_sl ([.ref a0, .ref a0, .ref a2])).length) Slot.unset).toArray = ls at hl ⊢
  have hl : lv_has ls 7 [(0, .ref a0), (1, .ref a0), (2, .ref a2)] := hl
  unfold fA_minusa at hf
  refine xloopK (σ := Nat × Int32 × Int32 × Int32 × Int32 × (Nat → Int64) × Int32 × Int32) (fun n x H locs ls => (x.1 = 1 ∧ fA_minusa_b d f0 v1 v2 n x.1 x.2.1 x.2.2.1 x.2.2.2.1 x.2.2.2.2.1 x.2.2.2.2.2.1 x.2.2.2.2.2.2.1 x.2.2.2.2.2.2.2 = some out ∧ va_P D xcl [(a0, .inr (2, [.ref a1, .int v1, .int v2])), (a1, .inl (cT 2, 4096, .inr (.inl f0))), (a2, .inr (2, [.ref a3, .int x.2.2.2.2.2.2.1, .int x.2.2.2.2.2.2.2])), (a3, .inl (cT 2, 4096, .inr (.inl x.2.2.2.2.2.1)))] H ∧ va_D A [(a0, .inr (2, [.ref a1, .int v1, .int v2])), (a1, .inl (cT 2, 4096, .inr (.inl f0))), (a2, .inr (2, [.ref a3, .int x.2.2.2.2.2.2.1, .int x.2.2.2.2.2.2.2])), (a3, .inl (cT 2, 4096, .inr (.inl x.2.2.2.2.2.1)))] ∧ va_S A s.heap H locs ∧ lv_has ls 7 [(6, .int x.2.1), (5, .int x.2.2.1), (4, .int x.2.2.2.1), (3, .int x.2.2.2.2.1), (0, .ref a0), (1, .ref a0), (2, .ref a2)])) (fun x => 34) (fun x H locs ls h => by exact absurd h.2.1 (by rw [fA_minusa_b]; exact fun h => nomatch h)) (fun n ih x H locs ls hv => ?_) (fun key => ?_)
  · obtain ⟨lb, y6, y5, y4, y3, w0, w1, w2⟩ := x
    rcases hv with ⟨hj, hf, hP, hD, hS, hl⟩
    subst hj
    have hf : fA_minusa_b d f0 v1 v2 (n + 1) 1 y6 y5 y4 y3 w0 w1 w2 = some out := hf
    rw [fA_minusa_b] at hf
    obtain ⟨hP, hD⟩ : xPD D xcl A [(a0, .inr (2, [.ref a1, .int v1, .int v2])), (a1, .inl (cT 2, 4096, .inr (.inl f0))), (a2, .inr (2, [.ref a3, .int w1, .int w2])), (a3, .inl (cT 2, 4096, .inr (.inl w0)))] H := ⟨hP, hD⟩
    have hl : lv_has ls 7 [(6, .int y6), (5, .int y5), (4, .int y4), (3, .int y3), (0, .ref a0), (1, .ref a0), (2, .ref a2)] := hl
    refine W.eq (g2 := F0 m 34 ls []) rfl ?_
    refine lv_iload hx hb dA_minus_34 (lv_at hl 0 rfl) ?_
    refine lv_aload_n hx hb dA_minus_36 rfl (lv_at hl 4 rfl) ?_
    refine lv_iconst (v := 0) hx hb dA_minus_37 (by decide) ?_
    obtain ⟨o1, hq2, hf⟩ := xbind hf
    obtain ⟨hPc, hDc, hFc⟩ := xcut (wc := [(a0, .inr (2, [.ref a1, .int v1, .int v2])), (a1, .inl (cT 2, 4096, .inr (.inl f0)))]) hP hD hS hA [0, 1] rfl rfl (by decide)
    refine va_calli (va_runV (C := "ValueBench$Row") (As := [.int 0]) (rest := [.int y6]) ⟨hx, hb, hml, hown, htx⟩ (gR_length l hl9 D cT aK aV H.size n a0 a1 (0 : Int32) f0 v1 v2 o1 hq2) ⟨callB_of 1 htx (xw_goodC kw_2_191) rfl rfl rfl (htx _ kw_1_4) (htx _ kw_3_143) ⟨by decide, by decide, by decide +kernel⟩ ⟨Nat.le_of_ble_eq_true rfl, Nat.le_of_ble_eq_true rfl⟩, (htx _ kw_2_189), (htx _ kw_2_190)⟩ ⟨xPre_blind, va_recv hK hP (ci := 2) rfl (q0 := 0) rfl, (fun U hU hW => ⟨rfl, xPre_of hZ hS hFc hPc hDc hK U hU hW⟩)⟩ rfl rfl hl.1 rfl (lv_room (Nat.le_of_ble_eq_true rfl)) dA_minus_38 ⟨Nat.le_of_ble_eq_true rfl, Nat.le_of_ble_eq_true rfl⟩) hS (fun q _ h => hFc q h) hFc (fun r3 u9 t H1 locs ht hvm hr9 hB hz1 hk1 hS => ?_)
    obtain ⟨hP1, hK1, hD1⟩ := hB
    rw [ht] at hP1
    obtain ⟨hP, hD⟩ := xjoin (W := [(a2, .inr (2, [.ref a3, .int w1, .int w2])), (a3, .inl (cT 2, 4096, .inr (.inl w0))), (a0, .inr (2, [.ref a1, .int v1, .int v2])), (a1, .inl (cT 2, 4096, .inr (.inl f0)))]) hP hD [0, 1] [2, 3] 2 rfl rfl (by decide) (by decide) hk1 hFc hP1 hD1
    generalize H1 = H at hP hS ⊢
    rw [hr9]
    refine W.eq (g2 := F0 m 41 ls [.int o1, .int y6]) rfl ?_
    refine lv_icmp_ge (tgt := 78) hx hb dA_minus_41 (by decide) (fun hc => ?_) (fun hc => ?_)
    · rw [if_pos hc] at hf
      refine lv_aload_n hx hb dA_minus_78 rfl (lv_at hl 6 rfl) ?_
      refine lv_iload_n hx hb dA_minus_79 rfl (lv_at hl 3 rfl) ?_
      refine lv_iconst (v := 5) hx hb dA_minus_80 (by decide) ?_
      refine lv_iload hx hb dA_minus_81 (lv_at hl 2 rfl) ?_
      obtain ⟨o4, hq5, hf⟩ := xbind hf
      obtain ⟨hPc, hDc, hFc⟩ := xcut (wc := [(a2, .inr (2, [.ref a3, .int w1, .int w2])), (a3, .inl (cT 2, 4096, .inr (.inl w0)))]) hP hD hS hA [0, 1] rfl rfl (by decide)
      refine va_callv (va_runV (C := "ValueBench$Row") (As := [.int y3, .int 5, .int y4]) (rest := []) ⟨hx, hb, hml, hown, htx⟩ (gR_close l hl9 D cT aK aV H.size n a2 a3 y3 (5 : Int32) y4 w0 w1 w2 o4 hq5) ⟨callB_of 3 htx (xw_goodC kw_2_167) rfl rfl rfl (htx _ kw_1_4) (htx _ kw_3_144) ⟨by decide, by decide, by decide +kernel⟩ ⟨Nat.le_of_ble_eq_true rfl, Nat.le_of_ble_eq_true rfl⟩, (htx _ kw_2_165), (htx _ kw_2_166)⟩ ⟨xPre_blind, va_recv hK hP (ci := 2) rfl (q0 := 0) rfl, (fun U hU hW => ⟨rfl, xPre_of hZ hS hFc hPc hDc hK U hU hW⟩)⟩ rfl rfl hl.1 rfl (lv_room (Nat.le_of_ble_eq_true rfl)) dA_minus_83 ⟨Nat.le_of_ble_eq_true rfl, Nat.le_of_ble_eq_true rfl⟩) hS (fun q _ h => hFc q h) hFc (fun u9 t H1 locs ht hvm hr9 hB hz1 hk1 hS => ?_)
      obtain ⟨hP1, hK1, hD1⟩ := hB
      rw [ht] at hP1
      obtain ⟨hP, hD⟩ := xjoin (W := [(a0, .inr (2, [.ref a1, .int v1, .int v2])), (a1, .inl (cT 2, 4096, .inr (.inl f0))), (a2, .inr (2, [.ref a3, .int w1, .int w2])), (a3, .inl (cT 2, 4096, .inr (.inl o4)))]) hP hD [0, 1] [2, 3] 2 rfl rfl (by decide) (by decide) hk1 hFc hP1 hD1
      generalize H1 = H at hP hS ⊢
      refine lv_iconst (v := 0) hx hb dA_minus_86 (by decide) ?_
      obtain rfl := Option.some.inj hf
      obtain ⟨hP9, hD9⟩ := xsub (wc := [(a0, .inr (2, [.ref a1, .int v1, .int v2])), (a1, .inl (cT 2, 4096, .inr (.inl f0))), (a2, .inr (2, [.ref a3, .int w1, .int w2])), (a3, .inl (cT 2, 4096, .inr (.inl o4)))]) hP hD [0, 1, 2, 3] rfl rfl (by decide)
      exact W.iret (v := (0 : Int32)) hx hb hr (fun t ht hW => ⟨⟨(0 : Int32), (), rfl, rfl, by rw [ht]; exact hP9, va_K.moved hW.alike hK, hD9⟩, hS.F ht⟩) hS.2.2 dA_minus_87
    · rw [if_neg hc] at hf
      refine lv_aload_n hx hb dA_minus_44 rfl (lv_at hl 5 rfl) ?_
      refine lv_aload_n hx hb dA_minus_45 rfl (lv_at hl 4 rfl) ?_
      refine lv_iload hx hb dA_minus_46 (lv_at hl 1 rfl) ?_
      obtain ⟨o4, hq5, hf⟩ := xbind hf
      obtain ⟨hPc, hDc, hFc⟩ := xcut (wc := [(a0, .inr (2, [.ref a1, .int v1, .int v2])), (a1, .inl (cT 2, 4096, .inr (.inl f0)))]) hP hD hS hA [2, 3] rfl rfl (by decide)
      refine va_calli (va_runS (As := [.ref a0, .ref a0, .int y5]) (rest := []) ⟨hx, hb, hml, hown, htx⟩ (gA_hasElementa l hl9 D cT aK aV H.size d n a0 a1 y5 f0 v1 v2 o4 hq5) ⟨callB_of 3 htx (xw_goodC kw_3_158) rfl rfl rfl (htx _ kw_1_21) (htx _ kw_3_156) ⟨by decide, by decide, by decide +kernel⟩ ⟨(by show (16 * d + 2) + 1 ≤ 16 * d + 3; omega), (by show 8 + (5 + 11) + (400 * d + 47) ≤ 400 * d + 105; omega)⟩, htx _ kw_3_157⟩ ⟨xPre_blind, (fun U hU hW => ⟨rfl, xPre_of hZ hS hFc hPc hDc hK U hU hW⟩)⟩ rfl rfl hl.1 rfl (lv_room (Nat.le_of_ble_eq_true rfl)) dA_minus_48 ⟨Nat.le_of_ble_eq_true rfl, Nat.le_of_ble_eq_true rfl⟩) hS (fun q _ h => hFc q h) hFc (fun r6 u9 t H1 locs ht hvm hr9 hB hz1 hk1 hS => ?_)
      obtain ⟨hP1, hK1, hD1⟩ := hB
      rw [ht] at hP1
      obtain ⟨hP, hD⟩ := xjoin (W := [(a2, .inr (2, [.ref a3, .int w1, .int w2])), (a3, .inl (cT 2, 4096, .inr (.inl w0))), (a0, .inr (2, [.ref a1, .int v1, .int v2])), (a1, .inl (cT 2, 4096, .inr (.inl f0)))]) hP hD [2, 3] [0, 1] 2 rfl rfl (by decide) (by decide) hk1 hFc hP1 hD1
      generalize H1 = H at hP hS ⊢
      rw [hr9]
      refine W.eq (g2 := F0 m 51 ls [.int o4]) rfl ?_
      refine lv_if_ne (tgt := 64) hx hb dA_minus_51 (by decide) (fun hc => ?_) (fun hc => ?_)
      · rw [if_neg hc] at hf
        refine lv_aload_n hx hb dA_minus_64 rfl (lv_at hl 4 rfl) ?_
        refine lv_iload hx hb dA_minus_65 (lv_at hl 1 rfl) ?_
        obtain ⟨o7, hq8, hf⟩ := xbind hf
        obtain ⟨hPc, hDc, hFc⟩ := xcut (wc := [(a0, .inr (2, [.ref a1, .int v1, .int v2])), (a1, .inl (cT 2, 4096, .inr (.inl f0)))]) hP hD hS hA [2, 3] rfl rfl (by decide)
        refine va_calli (va_runV (C := "ValueBench$Row") (As := [.int y5]) (rest := []) ⟨hx, hb, hml, hown, htx⟩ (gR_after l hl9 D cT aK aV H.size n a0 a1 y5 f0 v1 v2 o7 hq8) ⟨callB_of 1 htx (xw_goodC kw_2_196) rfl rfl rfl (htx _ kw_1_4) (htx _ kw_3_148) ⟨by decide, by decide, by decide +kernel⟩ ⟨Nat.le_of_ble_eq_true rfl, Nat.le_of_ble_eq_true rfl⟩, (htx _ kw_2_194), (htx _ kw_2_195)⟩ ⟨xPre_blind, va_recv hK hP (ci := 2) rfl (q0 := 2) rfl, (fun U hU hW => ⟨rfl, xPre_of hZ hS hFc hPc hDc hK U hU hW⟩)⟩ rfl rfl hl.1 rfl (lv_room (Nat.le_of_ble_eq_true rfl)) dA_minus_67 ⟨Nat.le_of_ble_eq_true rfl, Nat.le_of_ble_eq_true rfl⟩) hS (fun q _ h => hFc q h) hFc (fun r9 u9 t H1 locs ht hvm hr9 hB hz1 hk1 hS => ?_)
        obtain ⟨hP1, hK1, hD1⟩ := hB
        rw [ht] at hP1
        obtain ⟨hP, hD⟩ := xjoin (W := [(a2, .inr (2, [.ref a3, .int w1, .int w2])), (a3, .inl (cT 2, 4096, .inr (.inl w0))), (a0, .inr (2, [.ref a1, .int v1, .int v2])), (a1, .inl (cT 2, 4096, .inr (.inl f0)))]) hP hD [2, 3] [0, 1] 2 rfl rfl (by decide) (by decide) hk1 hFc hP1 hD1
        generalize H1 = H at hP hS ⊢
        rw [hr9]
        refine W.eq (g2 := F0 m 70 ls [.int o7]) rfl ?_
        refine lv_istore (lv' := [(5, .int o7), (6, .int y6), (4, .int y4), (3, .int y3), (0, .ref a0), (1, .ref a0), (2, .ref a2)]) hx hb dA_minus_70 hl (by decide) rfl (fun ls hl => ?_)
        refine lv_iinc (v := (y6 + 1)) (lv' := [(6, .int (y6 + 1)), (5, .int o7), (4, .int y4), (3, .int y3), (0, .ref a0), (1, .ref a0), (2, .ref a2)]) hx hb dA_minus_72 hl (k := 1) rfl rfl (by decide) rfl (fun ls hl => ?_)
        refine lv_goto (tgt := 34) hx hb dA_minus_75 (by decide) ?_
        obtain ⟨hP9, hD9⟩ := xsub (wc := [(a0, .inr (2, [.ref a1, .int v1, .int v2])), (a1, .inl (cT 2, 4096, .inr (.inl f0))), (a2, .inr (2, [.ref a3, .int w1, .int w2])), (a3, .inl (cT 2, 4096, .inr (.inl w0)))]) hP hD [2, 3, 0, 1] rfl rfl (by decide)
        exact ih (1, (y6 + 1), o7, y4, y3, w0, w1, w2) _ _ ls (⟨rfl, hf, hP9, hD9, hS, lv_sub hl [0, 1, 2, 3, 4, 5, 6] rfl⟩)
      · rw [if_pos hc] at hf
        refine lv_aload_n hx hb dA_minus_54 rfl (lv_at hl 6 rfl) ?_
        refine lv_aload_n hx hb dA_minus_55 rfl (lv_at hl 4 rfl) ?_
        refine lv_iload hx hb dA_minus_56 (lv_at hl 1 rfl) ?_
        obtain ⟨o7, hq8, hf⟩ := xbind hf
        obtain ⟨hPc, hDc, hFc⟩ := xcut (wc := [(a2, .inr (2, [.ref a3, .int w1, .int w2])), (a3, .inl (cT 2, 4096, .inr (.inl w0))), (a0, .inr (2, [.ref a1, .int v1, .int v2])), (a1, .inl (cT 2, 4096, .inr (.inl f0)))]) hP hD hS hA [0, 1, 2, 3] rfl rfl (by decide)
        refine va_callv (va_runV (C := "ValueBench$Row") (As := [.ref a0, .int y5]) (rest := []) ⟨hx, hb, hml, hown, htx⟩ (gR_putCopy l hl9 D cT aK aV H.size n a2 a3 a0 a1 y5 w0 w1 w2 f0 v1 v2 o7 hq8) ⟨callB_of 2 htx (xw_goodC kw_3_126) rfl rfl rfl (htx _ kw_1_4) (htx _ kw_3_123) ⟨by decide, by decide, by decide +kernel⟩ ⟨Nat.le_of_ble_eq_true rfl, Nat.le_of_ble_eq_true rfl⟩, (htx _ kw_3_124), (htx _ kw_3_125)⟩ ⟨xPre_blind, va_recv hK hP (ci := 2) rfl (q0 := 0) rfl, (fun U hU hW => ⟨rfl, xPre_of hZ hS hFc hPc hDc hK U hU hW⟩)⟩ rfl rfl hl.1 rfl (lv_room (Nat.le_of_ble_eq_true rfl)) dA_minus_58 ⟨Nat.le_of_ble_eq_true rfl, Nat.le_of_ble_eq_true rfl⟩) hS (fun q _ h => hFc q h) hFc (fun u9 t H1 locs ht hvm hr9 hB hz1 hk1 hS => ?_)
        obtain ⟨hP1, hK1, hD1⟩ := hB
        rw [ht] at hP1
        obtain ⟨hP, hD⟩ := xjoin (W := [(a2, .inr (2, [.ref a3, .int o7.2.1, .int o7.2.2])), (a3, .inl (cT 2, 4096, .inr (.inl o7.1))), (a0, .inr (2, [.ref a1, .int v1, .int v2])), (a1, .inl (cT 2, 4096, .inr (.inl f0)))]) hP hD [0, 1, 2, 3] [] 0 rfl rfl (by decide) (by decide) hk1 hFc hP1 hD1
        generalize H1 = H at hP hS ⊢
        refine lv_iinc (v := (y4 + 1)) (lv' := [(4, .int (y4 + 1)), (6, .int y6), (5, .int y5), (3, .int y3), (0, .ref a0), (1, .ref a0), (2, .ref a2)]) hx hb dA_minus_61 hl (k := 2) rfl rfl (by decide) rfl (fun ls hl => ?_)
        refine lv_aload_n hx hb dA_minus_64 rfl (lv_at hl 4 rfl) ?_
        refine lv_iload hx hb dA_minus_65 (lv_at hl 2 rfl) ?_
        obtain ⟨o9, hq10, hf⟩ := xbind hf
        obtain ⟨hPc, hDc, hFc⟩ := xcut (wc := [(a0, .inr (2, [.ref a1, .int v1, .int v2])), (a1, .inl (cT 2, 4096, .inr (.inl f0)))]) hP hD hS hA [2, 3] rfl rfl (by decide)
        refine va_calli (va_runV (C := "ValueBench$Row") (As := [.int y5]) (rest := []) ⟨hx, hb, hml, hown, htx⟩ (gR_after l hl9 D cT aK aV H.size n a0 a1 y5 f0 v1 v2 o9 hq10) ⟨callB_of 1 htx (xw_goodC kw_2_196) rfl rfl rfl (htx _ kw_1_4) (htx _ kw_3_148) ⟨by decide, by decide, by decide +kernel⟩ ⟨Nat.le_of_ble_eq_true rfl, Nat.le_of_ble_eq_true rfl⟩, (htx _ kw_2_194), (htx _ kw_2_195)⟩ ⟨xPre_blind, va_recv hK hP (ci := 2) rfl (q0 := 2) rfl, (fun U hU hW => ⟨rfl, xPre_of hZ hS hFc hPc hDc hK U hU hW⟩)⟩ rfl rfl hl.1 rfl (lv_room (Nat.le_of_ble_eq_true rfl)) dA_minus_67 ⟨Nat.le_of_ble_eq_true rfl, Nat.le_of_ble_eq_true rfl⟩) hS (fun q _ h => hFc q h) hFc (fun r11 u9 t H1 locs ht hvm hr9 hB hz1 hk1 hS => ?_)
        obtain ⟨hP1, hK1, hD1⟩ := hB
        rw [ht] at hP1
        obtain ⟨hP, hD⟩ := xjoin (W := [(a2, .inr (2, [.ref a3, .int o7.2.1, .int o7.2.2])), (a3, .inl (cT 2, 4096, .inr (.inl o7.1))), (a0, .inr (2, [.ref a1, .int v1, .int v2])), (a1, .inl (cT 2, 4096, .inr (.inl f0)))]) hP hD [2, 3] [0, 1] 2 rfl rfl (by decide) (by decide) hk1 hFc hP1 hD1
        generalize H1 = H at hP hS ⊢
        rw [hr9]
        refine W.eq (g2 := F0 m 70 ls [.int o9]) rfl ?_
        refine lv_istore (lv' := [(5, .int o9), (4, .int (y4 + 1)), (6, .int y6), (3, .int y3), (0, .ref a0), (1, .ref a0), (2, .ref a2)]) hx hb dA_minus_70 hl (by decide) rfl (fun ls hl => ?_)
        refine lv_iinc (v := (y6 + 1)) (lv' := [(6, .int (y6 + 1)), (5, .int o9), (4, .int (y4 + 1)), (3, .int y3), (0, .ref a0), (1, .ref a0), (2, .ref a2)]) hx hb dA_minus_72 hl (k := 2) rfl rfl (by decide) rfl (fun ls hl => ?_)
        refine lv_goto (tgt := 34) hx hb dA_minus_75 (by decide) ?_
        obtain ⟨hP9, hD9⟩ := xsub (wc := [(a0, .inr (2, [.ref a1, .int v1, .int v2])), (a1, .inl (cT 2, 4096, .inr (.inl f0))), (a2, .inr (2, [.ref a3, .int o7.2.1, .int o7.2.2])), (a3, .inl (cT 2, 4096, .inr (.inl o7.1)))]) hP hD [2, 3, 0, 1] rfl rfl (by decide)
        exact ih (1, (y6 + 1), o9, (y4 + 1), y3, o7.1, o7.2.1, o7.2.2) _ _ ls (⟨rfl, hf, hP9, hD9, hS, lv_sub hl [0, 1, 2, 3, 4, 5, 6] rfl⟩)
  refine lv_aload_n hx hb dA_minus_0 rfl (lv_at hl 0 rfl) ?_
  refine lv_iconst (v := 0) hx hb dA_minus_1 (by decide) ?_
  refine lv_iconst (v := 5) hx hb dA_minus_2 (by decide) ?_
  obtain ⟨o1, hq2, hf⟩ := xbind hf
  obtain ⟨hPc, hDc, hFc⟩ := xcut (wc := [(a0, .inr (2, [.ref a1, .int v1, .int v2])), (a1, .inl (cT 2, 4096, .inr (.inl f0)))]) hP hD hS hA [0, 1] rfl rfl (by decide)
  refine va_calli (va_runV (C := "ValueBench$Row") (As := [.int 0, .int 5]) (rest := []) ⟨hx, hb, hml, hown, htx⟩ (gR_is l hl9 D cT aK aV s.heap.size n a0 a1 (0 : Int32) (5 : Int32) f0 v1 v2 o1 hq2) ⟨callB_of 2 htx (xw_goodC kw_3_75) rfl rfl rfl (htx _ kw_1_4) (htx _ kw_3_106) ⟨by decide, by decide, by decide +kernel⟩ ⟨Nat.le_of_ble_eq_true rfl, Nat.le_of_ble_eq_true rfl⟩, (htx _ kw_3_73), (htx _ kw_3_74)⟩ ⟨xPre_blind, va_recv hK hP (ci := 2) rfl (q0 := 0) rfl, (fun U hU hW => ⟨rfl, xPre_of hZ hS hFc hPc hDc hK U hU hW⟩)⟩ rfl rfl hl.1 rfl (lv_room (Nat.le_of_ble_eq_true rfl)) dA_minus_3 ⟨Nat.le_of_ble_eq_true rfl, Nat.le_of_ble_eq_true rfl⟩) hS (fun q _ h => hFc q h) hFc (fun r3 u9 t H1 locs ht hvm hr9 hB hz1 hk1 hS => ?_)
  obtain ⟨hP1, hK1, hD1⟩ := hB
  rw [ht] at hP1
  obtain ⟨hP, hD⟩ := xjoin (W := [(a2, .inr (2, [.ref a3, .int v4, .int v5])), (a3, .inl (cT 2, 4096, .inr (.inl f3))), (a0, .inr (2, [.ref a1, .int v1, .int v2])), (a1, .inl (cT 2, 4096, .inr (.inl f0)))]) hP hD [0, 1] [2, 3] 2 rfl rfl (by decide) (by decide) hk1 hFc hP1 hD1
  generalize H1 = H at hP hS ⊢
  rw [hr9]
  refine W.eq (g2 := F0 m 6 ls [.int o1]) rfl ?_
  refine lv_if_eq (tgt := 18) hx hb dA_minus_6 (by decide) (fun hc => ?_) (fun hc => ?_)
  · rw [if_pos hc] at hf
    refine lv_iconst (v := 1) hx hb dA_minus_18 (by decide) ?_
    obtain rfl := Option.some.inj hf
    obtain ⟨hP9, hD9⟩ := xsub (wc := [(a0, .inr (2, [.ref a1, .int v1, .int v2])), (a1, .inl (cT 2, 4096, .inr (.inl f0))), (a2, .inr (2, [.ref a3, .int v4, .int v5])), (a3, .inl (cT 2, 4096, .inr (.inl f3)))]) hP hD [2, 3, 0, 1] rfl rfl (by decide)
    exact W.iret (v := (1 : Int32)) hx hb hr (fun t ht hW => ⟨⟨(1 : Int32), (), rfl, rfl, by rw [ht]; exact hP9, va_K.moved hW.alike hK, hD9⟩, hS.F ht⟩) hS.2.2 dA_minus_19
  · rw [if_neg hc] at hf
    refine lv_aload_n hx hb dA_minus_9 rfl (lv_at hl 1 rfl) ?_
    refine lv_iconst (v := 0) hx hb dA_minus_10 (by decide) ?_
    refine lv_iconst (v := 5) hx hb dA_minus_11 (by decide) ?_
    obtain ⟨o4, hq5, hf⟩ := xbind hf
    obtain ⟨hPc, hDc, hFc⟩ := xcut (wc := [(a0, .inr (2, [.ref a1, .int v1, .int v2])), (a1, .inl (cT 2, 4096, .inr (.inl f0)))]) hP hD hS hA [2, 3] rfl rfl (by decide)
    refine va_calli (va_runV (C := "ValueBench$Row") (As := [.int 0, .int 5]) (rest := []) ⟨hx, hb, hml, hown, htx⟩ (gR_is l hl9 D cT aK aV H.size n a0 a1 (0 : Int32) (5 : Int32) f0 v1 v2 o4 hq5) ⟨callB_of 2 htx (xw_goodC kw_3_75) rfl rfl rfl (htx _ kw_1_4) (htx _ kw_3_106) ⟨by decide, by decide, by decide +kernel⟩ ⟨Nat.le_of_ble_eq_true rfl, Nat.le_of_ble_eq_true rfl⟩, (htx _ kw_3_73), (htx _ kw_3_74)⟩ ⟨xPre_blind, va_recv hK hP (ci := 2) rfl (q0 := 2) rfl, (fun U hU hW => ⟨rfl, xPre_of hZ hS hFc hPc hDc hK U hU hW⟩)⟩ rfl rfl hl.1 rfl (lv_room (Nat.le_of_ble_eq_true rfl)) dA_minus_12 ⟨Nat.le_of_ble_eq_true rfl, Nat.le_of_ble_eq_true rfl⟩) hS (fun q _ h => hFc q h) hFc (fun r6 u9 t H1 locs ht hvm hr9 hB hz1 hk1 hS => ?_)
    obtain ⟨hP1, hK1, hD1⟩ := hB
    rw [ht] at hP1
    obtain ⟨hP, hD⟩ := xjoin (W := [(a2, .inr (2, [.ref a3, .int v4, .int v5])), (a3, .inl (cT 2, 4096, .inr (.inl f3))), (a0, .inr (2, [.ref a1, .int v1, .int v2])), (a1, .inl (cT 2, 4096, .inr (.inl f0)))]) hP hD [2, 3] [0, 1] 2 rfl rfl (by decide) (by decide) hk1 hFc hP1 hD1
    generalize H1 = H at hP hS ⊢
    rw [hr9]
    refine W.eq (g2 := F0 m 15 ls [.int o4]) rfl ?_
    refine lv_if_ne (tgt := 20) hx hb dA_minus_15 (by decide) (fun hc => ?_) (fun hc => ?_)
    · rw [if_neg hc] at hf
      refine lv_aload_n hx hb dA_minus_20 rfl (lv_at hl 2 rfl) ?_
      obtain ⟨o7, hq8, hf⟩ := xbind hf
      obtain ⟨hPc, hDc, hFc⟩ := xcut (wc := [(a2, .inr (2, [.ref a3, .int v4, .int v5])), (a3, .inl (cT 2, 4096, .inr (.inl f3)))]) hP hD hS hA [0, 1] rfl rfl (by decide)
      refine va_calli (va_runV (C := "ValueBench$Row") (As := []) (rest := []) ⟨hx, hb, hml, hown, htx⟩ (gR_open l hl9 D cT aK aV H.size n a2 a3 f3 v4 v5 o7 hq8) ⟨callB_of 0 htx (xw_goodC kw_2_136) rfl rfl rfl (htx _ kw_1_4) (htx _ kw_3_138) ⟨by decide, by decide, by decide +kernel⟩ ⟨Nat.le_of_ble_eq_true rfl, Nat.le_of_ble_eq_true rfl⟩, (htx _ kw_2_134), (htx _ kw_2_135)⟩ ⟨xPre_blind, va_recv hK hP (ci := 2) rfl (q0 := 0) rfl, (fun U hU hW => ⟨rfl, xPre_of hZ hS hFc hPc hDc hK U hU hW⟩)⟩ rfl rfl hl.1 rfl (lv_room (Nat.le_of_ble_eq_true rfl)) dA_minus_21 ⟨Nat.le_of_ble_eq_true rfl, Nat.le_of_ble_eq_true rfl⟩) hS (fun q _ h => hFc q h) hFc (fun r9 u9 t H1 locs ht hvm hr9 hB hz1 hk1 hS => ?_)
      obtain ⟨hP1, hK1, hD1⟩ := hB
      rw [ht] at hP1
      obtain ⟨hP, hD⟩ := xjoin (W := [(a0, .inr (2, [.ref a1, .int v1, .int v2])), (a1, .inl (cT 2, 4096, .inr (.inl f0))), (a2, .inr (2, [.ref a3, .int o7.2.2.1, .int o7.2.2.2])), (a3, .inl (cT 2, 4096, .inr (.inl o7.2.1)))]) hP hD [0, 1] [2, 3] 2 rfl rfl (by decide) (by decide) hk1 hFc hP1 hD1
      generalize H1 = H at hP hS ⊢
      rw [hr9]
      refine W.eq (g2 := F0 m 24 ls [.int o7.1]) rfl ?_
      refine lv_istore_n (lv' := [(3, .int o7.1), (0, .ref a0), (1, .ref a0), (2, .ref a2)]) hx hb dA_minus_24 rfl hl (by decide) rfl (fun ls hl => ?_)
      refine lv_iconst (v := 0) hx hb dA_minus_25 (by decide) ?_
      refine lv_istore (lv' := [(4, .int 0), (3, .int o7.1), (0, .ref a0), (1, .ref a0), (2, .ref a2)]) hx hb dA_minus_26 hl (by decide) rfl (fun ls hl => ?_)
      refine lv_iconst (v := 1) hx hb dA_minus_28 (by decide) ?_
      refine lv_istore (lv' := [(5, .int 1), (4, .int 0), (3, .int o7.1), (0, .ref a0), (1, .ref a0), (2, .ref a2)]) hx hb dA_minus_29 hl (by decide) rfl (fun ls hl => ?_)
      refine lv_iconst (v := 0) hx hb dA_minus_31 (by decide) ?_
      refine lv_istore (lv' := [(6, .int 0), (5, .int 1), (4, .int 0), (3, .int o7.1), (0, .ref a0), (1, .ref a0), (2, .ref a2)]) hx hb dA_minus_32 hl (by decide) rfl (fun ls hl => ?_)
      obtain ⟨hP9, hD9⟩ := xsub (wc := [(a0, .inr (2, [.ref a1, .int v1, .int v2])), (a1, .inl (cT 2, 4096, .inr (.inl f0))), (a2, .inr (2, [.ref a3, .int o7.2.2.1, .int o7.2.2.2])), (a3, .inl (cT 2, 4096, .inr (.inl o7.2.1)))]) hP hD [0, 1, 2, 3] rfl rfl (by decide)
      exact key n (1, 0, 1, 0, o7.1, o7.2.1, o7.2.2.1, o7.2.2.2) _ _ ls (⟨rfl, hf, hP9, hD9, hS, lv_sub hl [0, 1, 2, 3, 4, 5, 6] rfl⟩)
    · rw [if_pos hc] at hf
      refine lv_iconst (v := 1) hx hb dA_minus_18 (by decide) ?_
      obtain rfl := Option.some.inj hf
      obtain ⟨hP9, hD9⟩ := xsub (wc := [(a0, .inr (2, [.ref a1, .int v1, .int v2])), (a1, .inl (cT 2, 4096, .inr (.inl f0))), (a2, .inr (2, [.ref a3, .int v4, .int v5])), (a3, .inl (cT 2, 4096, .inr (.inl f3)))]) hP hD [2, 3, 0, 1] rfl rfl (by decide)
      exact W.iret (v := (1 : Int32)) hx hb hr (fun t ht hW => ⟨⟨(1 : Int32), (), rfl, rfl, by rw [ht]; exact hP9, va_K.moved hW.alike hK, hD9⟩, hS.F ht⟩) hS.2.2 dA_minus_19
set_option maxHeartbeats 400000000 in
set_option maxRecDepth 100000 in
theorem gA_timesa (l : Launch) (hl9 : l.stackTraces = false) (D : va_G) (cT : Nat → ClassId) (aK aV : Nat → Nat) (sz d n : Nat) (a0 : Nat) (a1 : Nat) (a2 : Nat) (a3 : Nat) (f0 : Nat → Int64) (v1 : Int32) (v2 : Int32) (f3 : Nat → Int64) (v4 : Int32) (v5 : Int32) (out : Int32 × (Nat → Int64) × Int32 × Int32) (hf : fA_timesa d n f0 v1 v2 f3 v4 v5 = some out) : xMet l yA_times wyA_times (16 * d + 4) 0 0 (400 * d + 130) D cT aK aV sz [.ref a0, .ref a0, .ref a2] [(a0, .inr (2, [.ref a1, .int v1, .int v2])), (a1, .inl (cT 2, 4096, .inr (.inl f0))), (a2, .inr (2, [.ref a3, .int v4, .int v5])), (a3, .inl (cT 2, 4096, .inr (.inl f3)))] (fun A => va_Qi (fun (r : Int32) (_ : Unit) => r = out.1) (fun _ t => xB D xcl cT A [(a0, .inr (2, [.ref a1, .int v1, .int v2])), (a1, .inl (cT 2, 4096, .inr (.inl f0))), (a2, .inr (2, [.ref a3, .int out.2.2.1, .int out.2.2.2])), (a3, .inl (cT 2, 4096, .inr (.inl out.2.1)))] t) A) := by
  refine Met.ofW (cc := prog_3_method_12_code) (maxL := 3) (ret := (some .int)) (by decide) rfl ?_
  intro p e s m args below meth c s₁ B hml hv
  obtain ⟨rfl, hsz, hZ, hP, hK, hD0⟩ := hv
  have hx := B.exec
  have hb := B.bytes
  have hr := B.returns
  have hts := atoms_spec (ws := wyA_times) B.pre
  have htx := fun w h => hts w (List.mem_cons_of_mem _ h)
  have hown : s.vm.findClass "ValueBench$Operators" = some m.cls := findClass_of_methodNamed B.named
  have hlocks := B.notSynchronized
  subst hsz
  have hD := hD0.self (sz := s.heap.size)
  generalize hAe : va_A [(a0, .inr (2, [.ref a1, .int v1, .int v2])), (a1, .inl (cT 2, 4096, .inr (.inl f0))), (a2, .inr (2, [.ref a3, .int v4, .int v5])), (a3, .inl (cT 2, 4096, .inr (.inl f3)))] s.heap.size = A at hD hZ ⊢
  have hA : ∀ q : Nat, s.heap.size ≤ q → A q := fun q h => by rw [← hAe]; exact Or.inr h
  have hS : va_S A s.heap s.heap [] := va_S.rf
  have hP : va_P D xcl [(a0, .inr (2, [.ref a1, .int v1, .int v2])), (a1, .inl (cT 2, 4096, .inr (.inl f0))), (a2, .inr (2, [.ref a3, .int v4, .int v5])), (a3, .inl (cT 2, 4096, .inr (.inl f3)))] s.heap := hP
  have hl := lv_entry ([.ref a0, .ref a0, .ref a2]) (n := 3) (Nat.le_of_ble_eq_true rfl)
  rw [lg_entry_eq]
  generalize (lg_sl ([.ref a0, .ref a0, .ref a2]) ++ List.replicate (3 - (lg_sl ([.ref a0, .ref a0, .ref a2])).length) Slot.unset).toArray = ls at hl ⊢
  have hl : lv_has ls 3 [(0, .ref a0), (1, .ref a0), (2, .ref a2)] := hl
  unfold fA_timesa at hf
  refine lv_aload_n hx hb dA_times_0 rfl (lv_at hl 0 rfl) ?_
  refine lv_iconst (v := 0) hx hb dA_times_1 (by decide) ?_
  refine lv_bipush (v := 6) hx hb dA_times_2 (by decide) ?_
  obtain ⟨o1, hq2, hf⟩ := xbind hf
  obtain ⟨hPc, hDc, hFc⟩ := xcut (wc := [(a0, .inr (2, [.ref a1, .int v1, .int v2])), (a1, .inl (cT 2, 4096, .inr (.inl f0)))]) hP hD hS hA [0, 1] rfl rfl (by decide)
  refine va_calli (va_runV (C := "ValueBench$Row") (As := [.int 0, .int 6]) (rest := []) ⟨hx, hb, hml, hown, htx⟩ (gR_is l hl9 D cT aK aV s.heap.size n a0 a1 (0 : Int32) (6 : Int32) f0 v1 v2 o1 hq2) ⟨callB_of 2 htx (xw_goodC kw_3_75) rfl rfl rfl (htx _ kw_1_4) (htx _ kw_3_106) ⟨by decide, by decide, by decide +kernel⟩ ⟨Nat.le_of_ble_eq_true rfl, Nat.le_of_ble_eq_true rfl⟩, (htx _ kw_3_73), (htx _ kw_3_74)⟩ ⟨xPre_blind, va_recv hK hP (ci := 2) rfl (q0 := 0) rfl, (fun U hU hW => ⟨rfl, xPre_of hZ hS hFc hPc hDc hK U hU hW⟩)⟩ rfl rfl hl.1 rfl (lv_room (Nat.le_of_ble_eq_true rfl)) dA_times_4 ⟨Nat.le_of_ble_eq_true rfl, Nat.le_of_ble_eq_true rfl⟩) hS (fun q _ h => hFc q h) hFc (fun r3 u9 t H1 locs ht hvm hr9 hB hz1 hk1 hS => ?_)
  obtain ⟨hP1, hK1, hD1⟩ := hB
  rw [ht] at hP1
  obtain ⟨hP, hD⟩ := xjoin (W := [(a2, .inr (2, [.ref a3, .int v4, .int v5])), (a3, .inl (cT 2, 4096, .inr (.inl f3))), (a0, .inr (2, [.ref a1, .int v1, .int v2])), (a1, .inl (cT 2, 4096, .inr (.inl f0)))]) hP hD [0, 1] [2, 3] 2 rfl rfl (by decide) (by decide) hk1 hFc hP1 hD1
  generalize H1 = H at hP hS ⊢
  rw [hr9]
  refine W.eq (g2 := F0 m 7 ls [.int o1]) rfl ?_
  refine lv_if_eq (tgt := 32) hx hb dA_times_7 (by decide) (fun hc => ?_) (fun hc => ?_)
  · rw [if_pos hc] at hf
    refine lv_aload_n hx hb dA_times_32 rfl (lv_at hl 0 rfl) ?_
    refine lv_iconst (v := 0) hx hb dA_times_33 (by decide) ?_
    refine lv_iconst (v := 4) hx hb dA_times_34 (by decide) ?_
    obtain ⟨o4, hq5, hf⟩ := xbind hf
    obtain ⟨hPc, hDc, hFc⟩ := xcut (wc := [(a0, .inr (2, [.ref a1, .int v1, .int v2])), (a1, .inl (cT 2, 4096, .inr (.inl f0)))]) hP hD hS hA [2, 3] rfl rfl (by decide)
    refine va_calli (va_runV (C := "ValueBench$Row") (As := [.int 0, .int 4]) (rest := []) ⟨hx, hb, hml, hown, htx⟩ (gR_is l hl9 D cT aK aV H.size n a0 a1 (0 : Int32) (4 : Int32) f0 v1 v2 o4 hq5) ⟨callB_of 2 htx (xw_goodC kw_3_75) rfl rfl rfl (htx _ kw_1_4) (htx _ kw_3_106) ⟨by decide, by decide, by decide +kernel⟩ ⟨Nat.le_of_ble_eq_true rfl, Nat.le_of_ble_eq_true rfl⟩, (htx _ kw_3_73), (htx _ kw_3_74)⟩ ⟨xPre_blind, va_recv hK hP (ci := 2) rfl (q0 := 2) rfl, (fun U hU hW => ⟨rfl, xPre_of hZ hS hFc hPc hDc hK U hU hW⟩)⟩ rfl rfl hl.1 rfl (lv_room (Nat.le_of_ble_eq_true rfl)) dA_times_35 ⟨Nat.le_of_ble_eq_true rfl, Nat.le_of_ble_eq_true rfl⟩) hS (fun q _ h => hFc q h) hFc (fun r6 u9 t H1 locs ht hvm hr9 hB hz1 hk1 hS => ?_)
    obtain ⟨hP1, hK1, hD1⟩ := hB
    rw [ht] at hP1
    obtain ⟨hP, hD⟩ := xjoin (W := [(a2, .inr (2, [.ref a3, .int v4, .int v5])), (a3, .inl (cT 2, 4096, .inr (.inl f3))), (a0, .inr (2, [.ref a1, .int v1, .int v2])), (a1, .inl (cT 2, 4096, .inr (.inl f0)))]) hP hD [2, 3] [0, 1] 2 rfl rfl (by decide) (by decide) hk1 hFc hP1 hD1
    generalize H1 = H at hP hS ⊢
    rw [hr9]
    refine W.eq (g2 := F0 m 38 ls [.int o4]) rfl ?_
    refine lv_if_eq (tgt := 62) hx hb dA_times_38 (by decide) (fun hc => ?_) (fun hc => ?_)
    · rw [if_pos hc] at hf
      refine lv_aload_n hx hb dA_times_62 rfl (lv_at hl 0 rfl) ?_
      refine lv_iconst (v := 0) hx hb dA_times_63 (by decide) ?_
      refine lv_iconst (v := 3) hx hb dA_times_64 (by decide) ?_
      obtain ⟨o7, hq8, hf⟩ := xbind hf
      obtain ⟨hPc, hDc, hFc⟩ := xcut (wc := [(a0, .inr (2, [.ref a1, .int v1, .int v2])), (a1, .inl (cT 2, 4096, .inr (.inl f0)))]) hP hD hS hA [2, 3] rfl rfl (by decide)
      refine va_calli (va_runV (C := "ValueBench$Row") (As := [.int 0, .int 3]) (rest := []) ⟨hx, hb, hml, hown, htx⟩ (gR_is l hl9 D cT aK aV H.size n a0 a1 (0 : Int32) (3 : Int32) f0 v1 v2 o7 hq8) ⟨callB_of 2 htx (xw_goodC kw_3_75) rfl rfl rfl (htx _ kw_1_4) (htx _ kw_3_106) ⟨by decide, by decide, by decide +kernel⟩ ⟨Nat.le_of_ble_eq_true rfl, Nat.le_of_ble_eq_true rfl⟩, (htx _ kw_3_73), (htx _ kw_3_74)⟩ ⟨xPre_blind, va_recv hK hP (ci := 2) rfl (q0 := 2) rfl, (fun U hU hW => ⟨rfl, xPre_of hZ hS hFc hPc hDc hK U hU hW⟩)⟩ rfl rfl hl.1 rfl (lv_room (Nat.le_of_ble_eq_true rfl)) dA_times_65 ⟨Nat.le_of_ble_eq_true rfl, Nat.le_of_ble_eq_true rfl⟩) hS (fun q _ h => hFc q h) hFc (fun r9 u9 t H1 locs ht hvm hr9 hB hz1 hk1 hS => ?_)
      obtain ⟨hP1, hK1, hD1⟩ := hB
      rw [ht] at hP1
      obtain ⟨hP, hD⟩ := xjoin (W := [(a2, .inr (2, [.ref a3, .int v4, .int v5])), (a3, .inl (cT 2, 4096, .inr (.inl f3))), (a0, .inr (2, [.ref a1, .int v1, .int v2])), (a1, .inl (cT 2, 4096, .inr (.inl f0)))]) hP hD [2, 3] [0, 1] 2 rfl rfl (by decide) (by decide) hk1 hFc hP1 hD1
      generalize H1 = H at hP hS ⊢
      rw [hr9]
      refine W.eq (g2 := F0 m 68 ls [.int o7]) rfl ?_
      refine lv_if_eq (tgt := 92) hx hb dA_times_68 (by decide) (fun hc => ?_) (fun hc => ?_)
      · rw [if_pos hc] at hf
        refine lv_iconst (v := 1) hx hb dA_times_92 (by decide) ?_
        obtain rfl := Option.some.inj hf
        obtain ⟨hP9, hD9⟩ := xsub (wc := [(a0, .inr (2, [.ref a1, .int v1, .int v2])), (a1, .inl (cT 2, 4096, .inr (.inl f0))), (a2, .inr (2, [.ref a3, .int v4, .int v5])), (a3, .inl (cT 2, 4096, .inr (.inl f3)))]) hP hD [2, 3, 0, 1] rfl rfl (by decide)
        exact W.iret (v := (1 : Int32)) hx hb hr (fun t ht hW => ⟨⟨(1 : Int32), (), rfl, rfl, by rw [ht]; exact hP9, va_K.moved hW.alike hK, hD9⟩, hS.F ht⟩) hS.2.2 dA_times_93
      · rw [if_neg hc] at hf
        refine lv_aload_n hx hb dA_times_71 rfl (lv_at hl 1 rfl) ?_
        refine lv_iconst (v := 0) hx hb dA_times_72 (by decide) ?_
        refine lv_iconst (v := 4) hx hb dA_times_73 (by decide) ?_
        obtain ⟨o10, hq11, hf⟩ := xbind hf
        obtain ⟨hPc, hDc, hFc⟩ := xcut (wc := [(a0, .inr (2, [.ref a1, .int v1, .int v2])), (a1, .inl (cT 2, 4096, .inr (.inl f0)))]) hP hD hS hA [2, 3] rfl rfl (by decide)
        refine va_calli (va_runV (C := "ValueBench$Row") (As := [.int 0, .int 4]) (rest := []) ⟨hx, hb, hml, hown, htx⟩ (gR_is l hl9 D cT aK aV H.size n a0 a1 (0 : Int32) (4 : Int32) f0 v1 v2 o10 hq11) ⟨callB_of 2 htx (xw_goodC kw_3_75) rfl rfl rfl (htx _ kw_1_4) (htx _ kw_3_106) ⟨by decide, by decide, by decide +kernel⟩ ⟨Nat.le_of_ble_eq_true rfl, Nat.le_of_ble_eq_true rfl⟩, (htx _ kw_3_73), (htx _ kw_3_74)⟩ ⟨xPre_blind, va_recv hK hP (ci := 2) rfl (q0 := 2) rfl, (fun U hU hW => ⟨rfl, xPre_of hZ hS hFc hPc hDc hK U hU hW⟩)⟩ rfl rfl hl.1 rfl (lv_room (Nat.le_of_ble_eq_true rfl)) dA_times_74 ⟨Nat.le_of_ble_eq_true rfl, Nat.le_of_ble_eq_true rfl⟩) hS (fun q _ h => hFc q h) hFc (fun r12 u9 t H1 locs ht hvm hr9 hB hz1 hk1 hS => ?_)
        obtain ⟨hP1, hK1, hD1⟩ := hB
        rw [ht] at hP1
        obtain ⟨hP, hD⟩ := xjoin (W := [(a2, .inr (2, [.ref a3, .int v4, .int v5])), (a3, .inl (cT 2, 4096, .inr (.inl f3))), (a0, .inr (2, [.ref a1, .int v1, .int v2])), (a1, .inl (cT 2, 4096, .inr (.inl f0)))]) hP hD [2, 3] [0, 1] 2 rfl rfl (by decide) (by decide) hk1 hFc hP1 hD1
        generalize H1 = H at hP hS ⊢
        rw [hr9]
        refine W.eq (g2 := F0 m 77 ls [.int o10]) rfl ?_
        refine lv_if_eq (tgt := 92) hx hb dA_times_77 (by decide) (fun hc => ?_) (fun hc => ?_)
        · rw [if_pos hc] at hf
          refine lv_iconst (v := 1) hx hb dA_times_92 (by decide) ?_
          obtain rfl := Option.some.inj hf
          obtain ⟨hP9, hD9⟩ := xsub (wc := [(a0, .inr (2, [.ref a1, .int v1, .int v2])), (a1, .inl (cT 2, 4096, .inr (.inl f0))), (a2, .inr (2, [.ref a3, .int v4, .int v5])), (a3, .inl (cT 2, 4096, .inr (.inl f3)))]) hP hD [2, 3, 0, 1] rfl rfl (by decide)
          exact W.iret (v := (1 : Int32)) hx hb hr (fun t ht hW => ⟨⟨(1 : Int32), (), rfl, rfl, by rw [ht]; exact hP9, va_K.moved hW.alike hK, hD9⟩, hS.F ht⟩) hS.2.2 dA_times_93
        · rw [if_neg hc] at hf
          refine lv_aload_n hx hb dA_times_80 rfl (lv_at hl 1 rfl) ?_
          refine lv_aload_n hx hb dA_times_81 rfl (lv_at hl 0 rfl) ?_
          refine lv_iconst (v := 0) hx hb dA_times_82 (by decide) ?_
          obtain ⟨o13, hq14, hf⟩ := xbind hf
          obtain ⟨hPc, hDc, hFc⟩ := xcut (wc := [(a0, .inr (2, [.ref a1, .int v1, .int v2])), (a1, .inl (cT 2, 4096, .inr (.inl f0)))]) hP hD hS hA [2, 3] rfl rfl (by decide)
          refine va_calll (va_runV (C := "ValueBench$Row") (As := [.int 0]) (rest := [.ref a0]) ⟨hx, hb, hml, hown, htx⟩ (gR_number l hl9 D cT aK aV H.size n a0 a1 (0 : Int32) f0 v1 v2 o13 hq14) ⟨callB_of 1 htx (xw_goodC kw_3_37) rfl rfl rfl (htx _ kw_1_4) (htx _ kw_3_107) ⟨by decide, by decide, by decide +kernel⟩ ⟨Nat.le_of_ble_eq_true rfl, Nat.le_of_ble_eq_true rfl⟩, (htx _ kw_3_35), (htx _ kw_3_36)⟩ ⟨xPre_blind, va_recv hK hP (ci := 2) rfl (q0 := 2) rfl, (fun U hU hW => ⟨rfl, xPre_of hZ hS hFc hPc hDc hK U hU hW⟩)⟩ rfl rfl hl.1 rfl (lv_room (Nat.le_of_ble_eq_true rfl)) dA_times_83 ⟨Nat.le_of_ble_eq_true rfl, Nat.le_of_ble_eq_true rfl⟩) hS (fun q _ h => hFc q h) hFc (fun r15 u9 t H1 locs ht hvm hr9 hB hz1 hk1 hS => ?_)
          obtain ⟨hP1, hK1, hD1⟩ := hB
          rw [ht] at hP1
          obtain ⟨hP, hD⟩ := xjoin (W := [(a2, .inr (2, [.ref a3, .int v4, .int v5])), (a3, .inl (cT 2, 4096, .inr (.inl f3))), (a0, .inr (2, [.ref a1, .int v1, .int v2])), (a1, .inl (cT 2, 4096, .inr (.inl f0)))]) hP hD [2, 3] [0, 1] 2 rfl rfl (by decide) (by decide) hk1 hFc hP1 hD1
          generalize H1 = H at hP hS ⊢
          rw [hr9]
          refine W.eq (g2 := F0 m 86 ls [.long o13, .ref a0]) rfl ?_
          refine lv_aload_n hx hb dA_times_86 rfl (lv_at hl 2 rfl) ?_
          obtain ⟨o16, hq17, hf⟩ := xbind hf
          obtain ⟨hPc, hDc, hFc⟩ := xcut (wc := [(a0, .inr (2, [.ref a1, .int v1, .int v2])), (a1, .inl (cT 2, 4096, .inr (.inl f0))), (a2, .inr (2, [.ref a3, .int v4, .int v5])), (a3, .inl (cT 2, 4096, .inr (.inl f3)))]) hP hD hS hA [2, 3, 0, 1] rfl rfl (by decide)
          refine va_callv (va_runS (As := [.ref a0, .long o13, .ref a2]) (rest := []) ⟨hx, hb, hml, hown, htx⟩ (gA_putRepeated l hl9 D cT aK aV H.size n a0 a1 a2 a3 o13 f0 v1 v2 f3 v4 v5 o16 hq17) ⟨callB_of 3 htx (xw_goodC kw_3_192) rfl rfl rfl (htx _ kw_1_21) (htx _ kw_3_190) ⟨by decide, by decide, by decide +kernel⟩ ⟨Nat.le_of_ble_eq_true rfl, Nat.le_of_ble_eq_true rfl⟩, htx _ kw_3_191⟩ ⟨xPre_blind, (fun U hU hW => ⟨rfl, xPre_of hZ hS hFc hPc hDc hK U hU hW⟩)⟩ rfl rfl hl.1 rfl (lv_room (Nat.le_of_ble_eq_true rfl)) dA_times_87 ⟨Nat.le_of_ble_eq_true rfl, Nat.le_of_ble_eq_true rfl⟩) hS (fun q _ h => hFc q h) hFc (fun u9 t H1 locs ht hvm hr9 hB hz1 hk1 hS => ?_)
          obtain ⟨hP1, hK1, hD1⟩ := hB
          rw [ht] at hP1
          obtain ⟨hP, hD⟩ := xjoin (W := [(a0, .inr (2, [.ref a1, .int v1, .int v2])), (a1, .inl (cT 2, 4096, .inr (.inl f0))), (a2, .inr (2, [.ref a3, .int o16.2.1, .int o16.2.2])), (a3, .inl (cT 2, 4096, .inr (.inl o16.1)))]) hP hD [2, 3, 0, 1] [] 0 rfl rfl (by decide) (by decide) hk1 hFc hP1 hD1
          generalize H1 = H at hP hS ⊢
          refine lv_iconst (v := 0) hx hb dA_times_90 (by decide) ?_
          obtain rfl := Option.some.inj hf
          obtain ⟨hP9, hD9⟩ := xsub (wc := [(a0, .inr (2, [.ref a1, .int v1, .int v2])), (a1, .inl (cT 2, 4096, .inr (.inl f0))), (a2, .inr (2, [.ref a3, .int o16.2.1, .int o16.2.2])), (a3, .inl (cT 2, 4096, .inr (.inl o16.1)))]) hP hD [0, 1, 2, 3] rfl rfl (by decide)
          exact W.iret (v := (0 : Int32)) hx hb hr (fun t ht hW => ⟨⟨(0 : Int32), (), rfl, rfl, by rw [ht]; exact hP9, va_K.moved hW.alike hK, hD9⟩, hS.F ht⟩) hS.2.2 dA_times_91
    · rw [if_neg hc] at hf
      refine lv_aload_n hx hb dA_times_41 rfl (lv_at hl 1 rfl) ?_
      refine lv_iconst (v := 0) hx hb dA_times_42 (by decide) ?_
      refine lv_iconst (v := 3) hx hb dA_times_43 (by decide) ?_
      obtain ⟨o7, hq8, hf⟩ := xbind hf
      obtain ⟨hPc, hDc, hFc⟩ := xcut (wc := [(a0, .inr (2, [.ref a1, .int v1, .int v2])), (a1, .inl (cT 2, 4096, .inr (.inl f0)))]) hP hD hS hA [2, 3] rfl rfl (by decide)
      refine va_calli (va_runV (C := "ValueBench$Row") (As := [.int 0, .int 3]) (rest := []) ⟨hx, hb, hml, hown, htx⟩ (gR_is l hl9 D cT aK aV H.size n a0 a1 (0 : Int32) (3 : Int32) f0 v1 v2 o7 hq8) ⟨callB_of 2 htx (xw_goodC kw_3_75) rfl rfl rfl (htx _ kw_1_4) (htx _ kw_3_106) ⟨by decide, by decide, by decide +kernel⟩ ⟨Nat.le_of_ble_eq_true rfl, Nat.le_of_ble_eq_true rfl⟩, (htx _ kw_3_73), (htx _ kw_3_74)⟩ ⟨xPre_blind, va_recv hK hP (ci := 2) rfl (q0 := 2) rfl, (fun U hU hW => ⟨rfl, xPre_of hZ hS hFc hPc hDc hK U hU hW⟩)⟩ rfl rfl hl.1 rfl (lv_room (Nat.le_of_ble_eq_true rfl)) dA_times_44 ⟨Nat.le_of_ble_eq_true rfl, Nat.le_of_ble_eq_true rfl⟩) hS (fun q _ h => hFc q h) hFc (fun r9 u9 t H1 locs ht hvm hr9 hB hz1 hk1 hS => ?_)
      obtain ⟨hP1, hK1, hD1⟩ := hB
      rw [ht] at hP1
      obtain ⟨hP, hD⟩ := xjoin (W := [(a2, .inr (2, [.ref a3, .int v4, .int v5])), (a3, .inl (cT 2, 4096, .inr (.inl f3))), (a0, .inr (2, [.ref a1, .int v1, .int v2])), (a1, .inl (cT 2, 4096, .inr (.inl f0)))]) hP hD [2, 3] [0, 1] 2 rfl rfl (by decide) (by decide) hk1 hFc hP1 hD1
      generalize H1 = H at hP hS ⊢
      rw [hr9]
      refine W.eq (g2 := F0 m 47 ls [.int o7]) rfl ?_
      refine lv_if_eq (tgt := 62) hx hb dA_times_47 (by decide) (fun hc => ?_) (fun hc => ?_)
      · rw [if_pos hc] at hf
        refine lv_aload_n hx hb dA_times_62 rfl (lv_at hl 0 rfl) ?_
        refine lv_iconst (v := 0) hx hb dA_times_63 (by decide) ?_
        refine lv_iconst (v := 3) hx hb dA_times_64 (by decide) ?_
        obtain ⟨o10, hq11, hf⟩ := xbind hf
        obtain ⟨hPc, hDc, hFc⟩ := xcut (wc := [(a0, .inr (2, [.ref a1, .int v1, .int v2])), (a1, .inl (cT 2, 4096, .inr (.inl f0)))]) hP hD hS hA [2, 3] rfl rfl (by decide)
        refine va_calli (va_runV (C := "ValueBench$Row") (As := [.int 0, .int 3]) (rest := []) ⟨hx, hb, hml, hown, htx⟩ (gR_is l hl9 D cT aK aV H.size n a0 a1 (0 : Int32) (3 : Int32) f0 v1 v2 o10 hq11) ⟨callB_of 2 htx (xw_goodC kw_3_75) rfl rfl rfl (htx _ kw_1_4) (htx _ kw_3_106) ⟨by decide, by decide, by decide +kernel⟩ ⟨Nat.le_of_ble_eq_true rfl, Nat.le_of_ble_eq_true rfl⟩, (htx _ kw_3_73), (htx _ kw_3_74)⟩ ⟨xPre_blind, va_recv hK hP (ci := 2) rfl (q0 := 2) rfl, (fun U hU hW => ⟨rfl, xPre_of hZ hS hFc hPc hDc hK U hU hW⟩)⟩ rfl rfl hl.1 rfl (lv_room (Nat.le_of_ble_eq_true rfl)) dA_times_65 ⟨Nat.le_of_ble_eq_true rfl, Nat.le_of_ble_eq_true rfl⟩) hS (fun q _ h => hFc q h) hFc (fun r12 u9 t H1 locs ht hvm hr9 hB hz1 hk1 hS => ?_)
        obtain ⟨hP1, hK1, hD1⟩ := hB
        rw [ht] at hP1
        obtain ⟨hP, hD⟩ := xjoin (W := [(a2, .inr (2, [.ref a3, .int v4, .int v5])), (a3, .inl (cT 2, 4096, .inr (.inl f3))), (a0, .inr (2, [.ref a1, .int v1, .int v2])), (a1, .inl (cT 2, 4096, .inr (.inl f0)))]) hP hD [2, 3] [0, 1] 2 rfl rfl (by decide) (by decide) hk1 hFc hP1 hD1
        generalize H1 = H at hP hS ⊢
        rw [hr9]
        refine W.eq (g2 := F0 m 68 ls [.int o10]) rfl ?_
        refine lv_if_eq (tgt := 92) hx hb dA_times_68 (by decide) (fun hc => ?_) (fun hc => ?_)
        · rw [if_pos hc] at hf
          refine lv_iconst (v := 1) hx hb dA_times_92 (by decide) ?_
          obtain rfl := Option.some.inj hf
          obtain ⟨hP9, hD9⟩ := xsub (wc := [(a0, .inr (2, [.ref a1, .int v1, .int v2])), (a1, .inl (cT 2, 4096, .inr (.inl f0))), (a2, .inr (2, [.ref a3, .int v4, .int v5])), (a3, .inl (cT 2, 4096, .inr (.inl f3)))]) hP hD [2, 3, 0, 1] rfl rfl (by decide)
          exact W.iret (v := (1 : Int32)) hx hb hr (fun t ht hW => ⟨⟨(1 : Int32), (), rfl, rfl, by rw [ht]; exact hP9, va_K.moved hW.alike hK, hD9⟩, hS.F ht⟩) hS.2.2 dA_times_93
        · rw [if_neg hc] at hf
          refine lv_aload_n hx hb dA_times_71 rfl (lv_at hl 1 rfl) ?_
          refine lv_iconst (v := 0) hx hb dA_times_72 (by decide) ?_
          refine lv_iconst (v := 4) hx hb dA_times_73 (by decide) ?_
          obtain ⟨o13, hq14, hf⟩ := xbind hf
          obtain ⟨hPc, hDc, hFc⟩ := xcut (wc := [(a0, .inr (2, [.ref a1, .int v1, .int v2])), (a1, .inl (cT 2, 4096, .inr (.inl f0)))]) hP hD hS hA [2, 3] rfl rfl (by decide)
          refine va_calli (va_runV (C := "ValueBench$Row") (As := [.int 0, .int 4]) (rest := []) ⟨hx, hb, hml, hown, htx⟩ (gR_is l hl9 D cT aK aV H.size n a0 a1 (0 : Int32) (4 : Int32) f0 v1 v2 o13 hq14) ⟨callB_of 2 htx (xw_goodC kw_3_75) rfl rfl rfl (htx _ kw_1_4) (htx _ kw_3_106) ⟨by decide, by decide, by decide +kernel⟩ ⟨Nat.le_of_ble_eq_true rfl, Nat.le_of_ble_eq_true rfl⟩, (htx _ kw_3_73), (htx _ kw_3_74)⟩ ⟨xPre_blind, va_recv hK hP (ci := 2) rfl (q0 := 2) rfl, (fun U hU hW => ⟨rfl, xPre_of hZ hS hFc hPc hDc hK U hU hW⟩)⟩ rfl rfl hl.1 rfl (lv_room (Nat.le_of_ble_eq_true rfl)) dA_times_74 ⟨Nat.le_of_ble_eq_true rfl, Nat.le_of_ble_eq_true rfl⟩) hS (fun q _ h => hFc q h) hFc (fun r15 u9 t H1 locs ht hvm hr9 hB hz1 hk1 hS => ?_)
          obtain ⟨hP1, hK1, hD1⟩ := hB
          rw [ht] at hP1
          obtain ⟨hP, hD⟩ := xjoin (W := [(a2, .inr (2, [.ref a3, .int v4, .int v5])), (a3, .inl (cT 2, 4096, .inr (.inl f3))), (a0, .inr (2, [.ref a1, .int v1, .int v2])), (a1, .inl (cT 2, 4096, .inr (.inl f0)))]) hP hD [2, 3] [0, 1] 2 rfl rfl (by decide) (by decide) hk1 hFc hP1 hD1
          generalize H1 = H at hP hS ⊢
          rw [hr9]
          refine W.eq (g2 := F0 m 77 ls [.int o13]) rfl ?_
          refine lv_if_eq (tgt := 92) hx hb dA_times_77 (by decide) (fun hc => ?_) (fun hc => ?_)
          · rw [if_pos hc] at hf
            refine lv_iconst (v := 1) hx hb dA_times_92 (by decide) ?_
            obtain rfl := Option.some.inj hf
            obtain ⟨hP9, hD9⟩ := xsub (wc := [(a0, .inr (2, [.ref a1, .int v1, .int v2])), (a1, .inl (cT 2, 4096, .inr (.inl f0))), (a2, .inr (2, [.ref a3, .int v4, .int v5])), (a3, .inl (cT 2, 4096, .inr (.inl f3)))]) hP hD [2, 3, 0, 1] rfl rfl (by decide)
            exact W.iret (v := (1 : Int32)) hx hb hr (fun t ht hW => ⟨⟨(1 : Int32), (), rfl, rfl, by rw [ht]; exact hP9, va_K.moved hW.alike hK, hD9⟩, hS.F ht⟩) hS.2.2 dA_times_93
          · rw [if_neg hc] at hf
            refine lv_aload_n hx hb dA_times_80 rfl (lv_at hl 1 rfl) ?_
            refine lv_aload_n hx hb dA_times_81 rfl (lv_at hl 0 rfl) ?_
            refine lv_iconst (v := 0) hx hb dA_times_82 (by decide) ?_
            obtain ⟨o16, hq17, hf⟩ := xbind hf
            obtain ⟨hPc, hDc, hFc⟩ := xcut (wc := [(a0, .inr (2, [.ref a1, .int v1, .int v2])), (a1, .inl (cT 2, 4096, .inr (.inl f0)))]) hP hD hS hA [2, 3] rfl rfl (by decide)
            refine va_calll (va_runV (C := "ValueBench$Row") (As := [.int 0]) (rest := [.ref a0]) ⟨hx, hb, hml, hown, htx⟩ (gR_number l hl9 D cT aK aV H.size n a0 a1 (0 : Int32) f0 v1 v2 o16 hq17) ⟨callB_of 1 htx (xw_goodC kw_3_37) rfl rfl rfl (htx _ kw_1_4) (htx _ kw_3_107) ⟨by decide, by decide, by decide +kernel⟩ ⟨Nat.le_of_ble_eq_true rfl, Nat.le_of_ble_eq_true rfl⟩, (htx _ kw_3_35), (htx _ kw_3_36)⟩ ⟨xPre_blind, va_recv hK hP (ci := 2) rfl (q0 := 2) rfl, (fun U hU hW => ⟨rfl, xPre_of hZ hS hFc hPc hDc hK U hU hW⟩)⟩ rfl rfl hl.1 rfl (lv_room (Nat.le_of_ble_eq_true rfl)) dA_times_83 ⟨Nat.le_of_ble_eq_true rfl, Nat.le_of_ble_eq_true rfl⟩) hS (fun q _ h => hFc q h) hFc (fun r18 u9 t H1 locs ht hvm hr9 hB hz1 hk1 hS => ?_)
            obtain ⟨hP1, hK1, hD1⟩ := hB
            rw [ht] at hP1
            obtain ⟨hP, hD⟩ := xjoin (W := [(a2, .inr (2, [.ref a3, .int v4, .int v5])), (a3, .inl (cT 2, 4096, .inr (.inl f3))), (a0, .inr (2, [.ref a1, .int v1, .int v2])), (a1, .inl (cT 2, 4096, .inr (.inl f0)))]) hP hD [2, 3] [0, 1] 2 rfl rfl (by decide) (by decide) hk1 hFc hP1 hD1
            generalize H1 = H at hP hS ⊢
            rw [hr9]
            refine W.eq (g2 := F0 m 86 ls [.long o16, .ref a0]) rfl ?_
            refine lv_aload_n hx hb dA_times_86 rfl (lv_at hl 2 rfl) ?_
            obtain ⟨o19, hq20, hf⟩ := xbind hf
            obtain ⟨hPc, hDc, hFc⟩ := xcut (wc := [(a0, .inr (2, [.ref a1, .int v1, .int v2])), (a1, .inl (cT 2, 4096, .inr (.inl f0))), (a2, .inr (2, [.ref a3, .int v4, .int v5])), (a3, .inl (cT 2, 4096, .inr (.inl f3)))]) hP hD hS hA [2, 3, 0, 1] rfl rfl (by decide)
            refine va_callv (va_runS (As := [.ref a0, .long o16, .ref a2]) (rest := []) ⟨hx, hb, hml, hown, htx⟩ (gA_putRepeated l hl9 D cT aK aV H.size n a0 a1 a2 a3 o16 f0 v1 v2 f3 v4 v5 o19 hq20) ⟨callB_of 3 htx (xw_goodC kw_3_192) rfl rfl rfl (htx _ kw_1_21) (htx _ kw_3_190) ⟨by decide, by decide, by decide +kernel⟩ ⟨Nat.le_of_ble_eq_true rfl, Nat.le_of_ble_eq_true rfl⟩, htx _ kw_3_191⟩ ⟨xPre_blind, (fun U hU hW => ⟨rfl, xPre_of hZ hS hFc hPc hDc hK U hU hW⟩)⟩ rfl rfl hl.1 rfl (lv_room (Nat.le_of_ble_eq_true rfl)) dA_times_87 ⟨Nat.le_of_ble_eq_true rfl, Nat.le_of_ble_eq_true rfl⟩) hS (fun q _ h => hFc q h) hFc (fun u9 t H1 locs ht hvm hr9 hB hz1 hk1 hS => ?_)
            obtain ⟨hP1, hK1, hD1⟩ := hB
            rw [ht] at hP1
            obtain ⟨hP, hD⟩ := xjoin (W := [(a0, .inr (2, [.ref a1, .int v1, .int v2])), (a1, .inl (cT 2, 4096, .inr (.inl f0))), (a2, .inr (2, [.ref a3, .int o19.2.1, .int o19.2.2])), (a3, .inl (cT 2, 4096, .inr (.inl o19.1)))]) hP hD [2, 3, 0, 1] [] 0 rfl rfl (by decide) (by decide) hk1 hFc hP1 hD1
            generalize H1 = H at hP hS ⊢
            refine lv_iconst (v := 0) hx hb dA_times_90 (by decide) ?_
            obtain rfl := Option.some.inj hf
            obtain ⟨hP9, hD9⟩ := xsub (wc := [(a0, .inr (2, [.ref a1, .int v1, .int v2])), (a1, .inl (cT 2, 4096, .inr (.inl f0))), (a2, .inr (2, [.ref a3, .int o19.2.1, .int o19.2.2])), (a3, .inl (cT 2, 4096, .inr (.inl o19.1)))]) hP hD [0, 1, 2, 3] rfl rfl (by decide)
            exact W.iret (v := (0 : Int32)) hx hb hr (fun t ht hW => ⟨⟨(0 : Int32), (), rfl, rfl, by rw [ht]; exact hP9, va_K.moved hW.alike hK, hD9⟩, hS.F ht⟩) hS.2.2 dA_times_91
      · rw [if_neg hc] at hf
        refine lv_aload_n hx hb dA_times_50 rfl (lv_at hl 0 rfl) ?_
        refine lv_aload_n hx hb dA_times_51 rfl (lv_at hl 1 rfl) ?_
        refine lv_iconst (v := 0) hx hb dA_times_52 (by decide) ?_
        obtain ⟨o10, hq11, hf⟩ := xbind hf
        obtain ⟨hPc, hDc, hFc⟩ := xcut (wc := [(a0, .inr (2, [.ref a1, .int v1, .int v2])), (a1, .inl (cT 2, 4096, .inr (.inl f0)))]) hP hD hS hA [2, 3] rfl rfl (by decide)
        refine va_calll (va_runV (C := "ValueBench$Row") (As := [.int 0]) (rest := [.ref a0]) ⟨hx, hb, hml, hown, htx⟩ (gR_number l hl9 D cT aK aV H.size n a0 a1 (0 : Int32) f0 v1 v2 o10 hq11) ⟨callB_of 1 htx (xw_goodC kw_3_37) rfl rfl rfl (htx _ kw_1_4) (htx _ kw_3_107) ⟨by decide, by decide, by decide +kernel⟩ ⟨Nat.le_of_ble_eq_true rfl, Nat.le_of_ble_eq_true rfl⟩, (htx _ kw_3_35), (htx _ kw_3_36)⟩ ⟨xPre_blind, va_recv hK hP (ci := 2) rfl (q0 := 2) rfl, (fun U hU hW => ⟨rfl, xPre_of hZ hS hFc hPc hDc hK U hU hW⟩)⟩ rfl rfl hl.1 rfl (lv_room (Nat.le_of_ble_eq_true rfl)) dA_times_53 ⟨Nat.le_of_ble_eq_true rfl, Nat.le_of_ble_eq_true rfl⟩) hS (fun q _ h => hFc q h) hFc (fun r12 u9 t H1 locs ht hvm hr9 hB hz1 hk1 hS => ?_)
        obtain ⟨hP1, hK1, hD1⟩ := hB
        rw [ht] at hP1
        obtain ⟨hP, hD⟩ := xjoin (W := [(a2, .inr (2, [.ref a3, .int v4, .int v5])), (a3, .inl (cT 2, 4096, .inr (.inl f3))), (a0, .inr (2, [.ref a1, .int v1, .int v2])), (a1, .inl (cT 2, 4096, .inr (.inl f0)))]) hP hD [2, 3] [0, 1] 2 rfl rfl (by decide) (by decide) hk1 hFc hP1 hD1
        generalize H1 = H at hP hS ⊢
        rw [hr9]
        refine W.eq (g2 := F0 m 56 ls [.long o10, .ref a0]) rfl ?_
        refine lv_aload_n hx hb dA_times_56 rfl (lv_at hl 2 rfl) ?_
        obtain ⟨o13, hq14, hf⟩ := xbind hf
        obtain ⟨hPc, hDc, hFc⟩ := xcut (wc := [(a0, .inr (2, [.ref a1, .int v1, .int v2])), (a1, .inl (cT 2, 4096, .inr (.inl f0))), (a2, .inr (2, [.ref a3, .int v4, .int v5])), (a3, .inl (cT 2, 4096, .inr (.inl f3)))]) hP hD hS hA [2, 3, 0, 1] rfl rfl (by decide)
        refine va_callv (va_runS (As := [.ref a0, .long o10, .ref a2]) (rest := []) ⟨hx, hb, hml, hown, htx⟩ (gA_putRepeated l hl9 D cT aK aV H.size n a0 a1 a2 a3 o10 f0 v1 v2 f3 v4 v5 o13 hq14) ⟨callB_of 3 htx (xw_goodC kw_3_192) rfl rfl rfl (htx _ kw_1_21) (htx _ kw_3_190) ⟨by decide, by decide, by decide +kernel⟩ ⟨Nat.le_of_ble_eq_true rfl, Nat.le_of_ble_eq_true rfl⟩, htx _ kw_3_191⟩ ⟨xPre_blind, (fun U hU hW => ⟨rfl, xPre_of hZ hS hFc hPc hDc hK U hU hW⟩)⟩ rfl rfl hl.1 rfl (lv_room (Nat.le_of_ble_eq_true rfl)) dA_times_57 ⟨Nat.le_of_ble_eq_true rfl, Nat.le_of_ble_eq_true rfl⟩) hS (fun q _ h => hFc q h) hFc (fun u9 t H1 locs ht hvm hr9 hB hz1 hk1 hS => ?_)
        obtain ⟨hP1, hK1, hD1⟩ := hB
        rw [ht] at hP1
        obtain ⟨hP, hD⟩ := xjoin (W := [(a0, .inr (2, [.ref a1, .int v1, .int v2])), (a1, .inl (cT 2, 4096, .inr (.inl f0))), (a2, .inr (2, [.ref a3, .int o13.2.1, .int o13.2.2])), (a3, .inl (cT 2, 4096, .inr (.inl o13.1)))]) hP hD [2, 3, 0, 1] [] 0 rfl rfl (by decide) (by decide) hk1 hFc hP1 hD1
        generalize H1 = H at hP hS ⊢
        refine lv_iconst (v := 0) hx hb dA_times_60 (by decide) ?_
        obtain rfl := Option.some.inj hf
        obtain ⟨hP9, hD9⟩ := xsub (wc := [(a0, .inr (2, [.ref a1, .int v1, .int v2])), (a1, .inl (cT 2, 4096, .inr (.inl f0))), (a2, .inr (2, [.ref a3, .int o13.2.1, .int o13.2.2])), (a3, .inl (cT 2, 4096, .inr (.inl o13.1)))]) hP hD [0, 1, 2, 3] rfl rfl (by decide)
        exact W.iret (v := (0 : Int32)) hx hb hr (fun t ht hW => ⟨⟨(0 : Int32), (), rfl, rfl, by rw [ht]; exact hP9, va_K.moved hW.alike hK, hD9⟩, hS.F ht⟩) hS.2.2 dA_times_61
  · rw [if_neg hc] at hf
    refine lv_aload_n hx hb dA_times_10 rfl (lv_at hl 1 rfl) ?_
    refine lv_iconst (v := 0) hx hb dA_times_11 (by decide) ?_
    refine lv_bipush (v := 6) hx hb dA_times_12 (by decide) ?_
    obtain ⟨o4, hq5, hf⟩ := xbind hf
    obtain ⟨hPc, hDc, hFc⟩ := xcut (wc := [(a0, .inr (2, [.ref a1, .int v1, .int v2])), (a1, .inl (cT 2, 4096, .inr (.inl f0)))]) hP hD hS hA [2, 3] rfl rfl (by decide)
    refine va_calli (va_runV (C := "ValueBench$Row") (As := [.int 0, .int 6]) (rest := []) ⟨hx, hb, hml, hown, htx⟩ (gR_is l hl9 D cT aK aV H.size n a0 a1 (0 : Int32) (6 : Int32) f0 v1 v2 o4 hq5) ⟨callB_of 2 htx (xw_goodC kw_3_75) rfl rfl rfl (htx _ kw_1_4) (htx _ kw_3_106) ⟨by decide, by decide, by decide +kernel⟩ ⟨Nat.le_of_ble_eq_true rfl, Nat.le_of_ble_eq_true rfl⟩, (htx _ kw_3_73), (htx _ kw_3_74)⟩ ⟨xPre_blind, va_recv hK hP (ci := 2) rfl (q0 := 2) rfl, (fun U hU hW => ⟨rfl, xPre_of hZ hS hFc hPc hDc hK U hU hW⟩)⟩ rfl rfl hl.1 rfl (lv_room (Nat.le_of_ble_eq_true rfl)) dA_times_14 ⟨Nat.le_of_ble_eq_true rfl, Nat.le_of_ble_eq_true rfl⟩) hS (fun q _ h => hFc q h) hFc (fun r6 u9 t H1 locs ht hvm hr9 hB hz1 hk1 hS => ?_)
    obtain ⟨hP1, hK1, hD1⟩ := hB
    rw [ht] at hP1
    obtain ⟨hP, hD⟩ := xjoin (W := [(a2, .inr (2, [.ref a3, .int v4, .int v5])), (a3, .inl (cT 2, 4096, .inr (.inl f3))), (a0, .inr (2, [.ref a1, .int v1, .int v2])), (a1, .inl (cT 2, 4096, .inr (.inl f0)))]) hP hD [2, 3] [0, 1] 2 rfl rfl (by decide) (by decide) hk1 hFc hP1 hD1
    generalize H1 = H at hP hS ⊢
    rw [hr9]
    refine W.eq (g2 := F0 m 17 ls [.int o4]) rfl ?_
    refine lv_if_eq (tgt := 32) hx hb dA_times_17 (by decide) (fun hc => ?_) (fun hc => ?_)
    · rw [if_pos hc] at hf
      refine lv_aload_n hx hb dA_times_32 rfl (lv_at hl 0 rfl) ?_
      refine lv_iconst (v := 0) hx hb dA_times_33 (by decide) ?_
      refine lv_iconst (v := 4) hx hb dA_times_34 (by decide) ?_
      obtain ⟨o7, hq8, hf⟩ := xbind hf
      obtain ⟨hPc, hDc, hFc⟩ := xcut (wc := [(a0, .inr (2, [.ref a1, .int v1, .int v2])), (a1, .inl (cT 2, 4096, .inr (.inl f0)))]) hP hD hS hA [2, 3] rfl rfl (by decide)
      refine va_calli (va_runV (C := "ValueBench$Row") (As := [.int 0, .int 4]) (rest := []) ⟨hx, hb, hml, hown, htx⟩ (gR_is l hl9 D cT aK aV H.size n a0 a1 (0 : Int32) (4 : Int32) f0 v1 v2 o7 hq8) ⟨callB_of 2 htx (xw_goodC kw_3_75) rfl rfl rfl (htx _ kw_1_4) (htx _ kw_3_106) ⟨by decide, by decide, by decide +kernel⟩ ⟨Nat.le_of_ble_eq_true rfl, Nat.le_of_ble_eq_true rfl⟩, (htx _ kw_3_73), (htx _ kw_3_74)⟩ ⟨xPre_blind, va_recv hK hP (ci := 2) rfl (q0 := 2) rfl, (fun U hU hW => ⟨rfl, xPre_of hZ hS hFc hPc hDc hK U hU hW⟩)⟩ rfl rfl hl.1 rfl (lv_room (Nat.le_of_ble_eq_true rfl)) dA_times_35 ⟨Nat.le_of_ble_eq_true rfl, Nat.le_of_ble_eq_true rfl⟩) hS (fun q _ h => hFc q h) hFc (fun r9 u9 t H1 locs ht hvm hr9 hB hz1 hk1 hS => ?_)
      obtain ⟨hP1, hK1, hD1⟩ := hB
      rw [ht] at hP1
      obtain ⟨hP, hD⟩ := xjoin (W := [(a2, .inr (2, [.ref a3, .int v4, .int v5])), (a3, .inl (cT 2, 4096, .inr (.inl f3))), (a0, .inr (2, [.ref a1, .int v1, .int v2])), (a1, .inl (cT 2, 4096, .inr (.inl f0)))]) hP hD [2, 3] [0, 1] 2 rfl rfl (by decide) (by decide) hk1 hFc hP1 hD1
      generalize H1 = H at hP hS ⊢
      rw [hr9]
      refine W.eq (g2 := F0 m 38 ls [.int o7]) rfl ?_
      refine lv_if_eq (tgt := 62) hx hb dA_times_38 (by decide) (fun hc => ?_) (fun hc => ?_)
      · rw [if_pos hc] at hf
        refine lv_aload_n hx hb dA_times_62 rfl (lv_at hl 0 rfl) ?_
        refine lv_iconst (v := 0) hx hb dA_times_63 (by decide) ?_
        refine lv_iconst (v := 3) hx hb dA_times_64 (by decide) ?_
        obtain ⟨o10, hq11, hf⟩ := xbind hf
        obtain ⟨hPc, hDc, hFc⟩ := xcut (wc := [(a0, .inr (2, [.ref a1, .int v1, .int v2])), (a1, .inl (cT 2, 4096, .inr (.inl f0)))]) hP hD hS hA [2, 3] rfl rfl (by decide)
        refine va_calli (va_runV (C := "ValueBench$Row") (As := [.int 0, .int 3]) (rest := []) ⟨hx, hb, hml, hown, htx⟩ (gR_is l hl9 D cT aK aV H.size n a0 a1 (0 : Int32) (3 : Int32) f0 v1 v2 o10 hq11) ⟨callB_of 2 htx (xw_goodC kw_3_75) rfl rfl rfl (htx _ kw_1_4) (htx _ kw_3_106) ⟨by decide, by decide, by decide +kernel⟩ ⟨Nat.le_of_ble_eq_true rfl, Nat.le_of_ble_eq_true rfl⟩, (htx _ kw_3_73), (htx _ kw_3_74)⟩ ⟨xPre_blind, va_recv hK hP (ci := 2) rfl (q0 := 2) rfl, (fun U hU hW => ⟨rfl, xPre_of hZ hS hFc hPc hDc hK U hU hW⟩)⟩ rfl rfl hl.1 rfl (lv_room (Nat.le_of_ble_eq_true rfl)) dA_times_65 ⟨Nat.le_of_ble_eq_true rfl, Nat.le_of_ble_eq_true rfl⟩) hS (fun q _ h => hFc q h) hFc (fun r12 u9 t H1 locs ht hvm hr9 hB hz1 hk1 hS => ?_)
        obtain ⟨hP1, hK1, hD1⟩ := hB
        rw [ht] at hP1
        obtain ⟨hP, hD⟩ := xjoin (W := [(a2, .inr (2, [.ref a3, .int v4, .int v5])), (a3, .inl (cT 2, 4096, .inr (.inl f3))), (a0, .inr (2, [.ref a1, .int v1, .int v2])), (a1, .inl (cT 2, 4096, .inr (.inl f0)))]) hP hD [2, 3] [0, 1] 2 rfl rfl (by decide) (by decide) hk1 hFc hP1 hD1
        generalize H1 = H at hP hS ⊢
        rw [hr9]
        refine W.eq (g2 := F0 m 68 ls [.int o10]) rfl ?_
        refine lv_if_eq (tgt := 92) hx hb dA_times_68 (by decide) (fun hc => ?_) (fun hc => ?_)
        · rw [if_pos hc] at hf
          refine lv_iconst (v := 1) hx hb dA_times_92 (by decide) ?_
          obtain rfl := Option.some.inj hf
          obtain ⟨hP9, hD9⟩ := xsub (wc := [(a0, .inr (2, [.ref a1, .int v1, .int v2])), (a1, .inl (cT 2, 4096, .inr (.inl f0))), (a2, .inr (2, [.ref a3, .int v4, .int v5])), (a3, .inl (cT 2, 4096, .inr (.inl f3)))]) hP hD [2, 3, 0, 1] rfl rfl (by decide)
          exact W.iret (v := (1 : Int32)) hx hb hr (fun t ht hW => ⟨⟨(1 : Int32), (), rfl, rfl, by rw [ht]; exact hP9, va_K.moved hW.alike hK, hD9⟩, hS.F ht⟩) hS.2.2 dA_times_93
        · rw [if_neg hc] at hf
          refine lv_aload_n hx hb dA_times_71 rfl (lv_at hl 1 rfl) ?_
          refine lv_iconst (v := 0) hx hb dA_times_72 (by decide) ?_
          refine lv_iconst (v := 4) hx hb dA_times_73 (by decide) ?_
          obtain ⟨o13, hq14, hf⟩ := xbind hf
          obtain ⟨hPc, hDc, hFc⟩ := xcut (wc := [(a0, .inr (2, [.ref a1, .int v1, .int v2])), (a1, .inl (cT 2, 4096, .inr (.inl f0)))]) hP hD hS hA [2, 3] rfl rfl (by decide)
          refine va_calli (va_runV (C := "ValueBench$Row") (As := [.int 0, .int 4]) (rest := []) ⟨hx, hb, hml, hown, htx⟩ (gR_is l hl9 D cT aK aV H.size n a0 a1 (0 : Int32) (4 : Int32) f0 v1 v2 o13 hq14) ⟨callB_of 2 htx (xw_goodC kw_3_75) rfl rfl rfl (htx _ kw_1_4) (htx _ kw_3_106) ⟨by decide, by decide, by decide +kernel⟩ ⟨Nat.le_of_ble_eq_true rfl, Nat.le_of_ble_eq_true rfl⟩, (htx _ kw_3_73), (htx _ kw_3_74)⟩ ⟨xPre_blind, va_recv hK hP (ci := 2) rfl (q0 := 2) rfl, (fun U hU hW => ⟨rfl, xPre_of hZ hS hFc hPc hDc hK U hU hW⟩)⟩ rfl rfl hl.1 rfl (lv_room (Nat.le_of_ble_eq_true rfl)) dA_times_74 ⟨Nat.le_of_ble_eq_true rfl, Nat.le_of_ble_eq_true rfl⟩) hS (fun q _ h => hFc q h) hFc (fun r15 u9 t H1 locs ht hvm hr9 hB hz1 hk1 hS => ?_)
          obtain ⟨hP1, hK1, hD1⟩ := hB
          rw [ht] at hP1
          obtain ⟨hP, hD⟩ := xjoin (W := [(a2, .inr (2, [.ref a3, .int v4, .int v5])), (a3, .inl (cT 2, 4096, .inr (.inl f3))), (a0, .inr (2, [.ref a1, .int v1, .int v2])), (a1, .inl (cT 2, 4096, .inr (.inl f0)))]) hP hD [2, 3] [0, 1] 2 rfl rfl (by decide) (by decide) hk1 hFc hP1 hD1
          generalize H1 = H at hP hS ⊢
          rw [hr9]
          refine W.eq (g2 := F0 m 77 ls [.int o13]) rfl ?_
          refine lv_if_eq (tgt := 92) hx hb dA_times_77 (by decide) (fun hc => ?_) (fun hc => ?_)
          · rw [if_pos hc] at hf
            refine lv_iconst (v := 1) hx hb dA_times_92 (by decide) ?_
            obtain rfl := Option.some.inj hf
            obtain ⟨hP9, hD9⟩ := xsub (wc := [(a0, .inr (2, [.ref a1, .int v1, .int v2])), (a1, .inl (cT 2, 4096, .inr (.inl f0))), (a2, .inr (2, [.ref a3, .int v4, .int v5])), (a3, .inl (cT 2, 4096, .inr (.inl f3)))]) hP hD [2, 3, 0, 1] rfl rfl (by decide)
            exact W.iret (v := (1 : Int32)) hx hb hr (fun t ht hW => ⟨⟨(1 : Int32), (), rfl, rfl, by rw [ht]; exact hP9, va_K.moved hW.alike hK, hD9⟩, hS.F ht⟩) hS.2.2 dA_times_93
          · rw [if_neg hc] at hf
            refine lv_aload_n hx hb dA_times_80 rfl (lv_at hl 1 rfl) ?_
            refine lv_aload_n hx hb dA_times_81 rfl (lv_at hl 0 rfl) ?_
            refine lv_iconst (v := 0) hx hb dA_times_82 (by decide) ?_
            obtain ⟨o16, hq17, hf⟩ := xbind hf
            obtain ⟨hPc, hDc, hFc⟩ := xcut (wc := [(a0, .inr (2, [.ref a1, .int v1, .int v2])), (a1, .inl (cT 2, 4096, .inr (.inl f0)))]) hP hD hS hA [2, 3] rfl rfl (by decide)
            refine va_calll (va_runV (C := "ValueBench$Row") (As := [.int 0]) (rest := [.ref a0]) ⟨hx, hb, hml, hown, htx⟩ (gR_number l hl9 D cT aK aV H.size n a0 a1 (0 : Int32) f0 v1 v2 o16 hq17) ⟨callB_of 1 htx (xw_goodC kw_3_37) rfl rfl rfl (htx _ kw_1_4) (htx _ kw_3_107) ⟨by decide, by decide, by decide +kernel⟩ ⟨Nat.le_of_ble_eq_true rfl, Nat.le_of_ble_eq_true rfl⟩, (htx _ kw_3_35), (htx _ kw_3_36)⟩ ⟨xPre_blind, va_recv hK hP (ci := 2) rfl (q0 := 2) rfl, (fun U hU hW => ⟨rfl, xPre_of hZ hS hFc hPc hDc hK U hU hW⟩)⟩ rfl rfl hl.1 rfl (lv_room (Nat.le_of_ble_eq_true rfl)) dA_times_83 ⟨Nat.le_of_ble_eq_true rfl, Nat.le_of_ble_eq_true rfl⟩) hS (fun q _ h => hFc q h) hFc (fun r18 u9 t H1 locs ht hvm hr9 hB hz1 hk1 hS => ?_)
            obtain ⟨hP1, hK1, hD1⟩ := hB
            rw [ht] at hP1
            obtain ⟨hP, hD⟩ := xjoin (W := [(a2, .inr (2, [.ref a3, .int v4, .int v5])), (a3, .inl (cT 2, 4096, .inr (.inl f3))), (a0, .inr (2, [.ref a1, .int v1, .int v2])), (a1, .inl (cT 2, 4096, .inr (.inl f0)))]) hP hD [2, 3] [0, 1] 2 rfl rfl (by decide) (by decide) hk1 hFc hP1 hD1
            generalize H1 = H at hP hS ⊢
            rw [hr9]
            refine W.eq (g2 := F0 m 86 ls [.long o16, .ref a0]) rfl ?_
            refine lv_aload_n hx hb dA_times_86 rfl (lv_at hl 2 rfl) ?_
            obtain ⟨o19, hq20, hf⟩ := xbind hf
            obtain ⟨hPc, hDc, hFc⟩ := xcut (wc := [(a0, .inr (2, [.ref a1, .int v1, .int v2])), (a1, .inl (cT 2, 4096, .inr (.inl f0))), (a2, .inr (2, [.ref a3, .int v4, .int v5])), (a3, .inl (cT 2, 4096, .inr (.inl f3)))]) hP hD hS hA [2, 3, 0, 1] rfl rfl (by decide)
            refine va_callv (va_runS (As := [.ref a0, .long o16, .ref a2]) (rest := []) ⟨hx, hb, hml, hown, htx⟩ (gA_putRepeated l hl9 D cT aK aV H.size n a0 a1 a2 a3 o16 f0 v1 v2 f3 v4 v5 o19 hq20) ⟨callB_of 3 htx (xw_goodC kw_3_192) rfl rfl rfl (htx _ kw_1_21) (htx _ kw_3_190) ⟨by decide, by decide, by decide +kernel⟩ ⟨Nat.le_of_ble_eq_true rfl, Nat.le_of_ble_eq_true rfl⟩, htx _ kw_3_191⟩ ⟨xPre_blind, (fun U hU hW => ⟨rfl, xPre_of hZ hS hFc hPc hDc hK U hU hW⟩)⟩ rfl rfl hl.1 rfl (lv_room (Nat.le_of_ble_eq_true rfl)) dA_times_87 ⟨Nat.le_of_ble_eq_true rfl, Nat.le_of_ble_eq_true rfl⟩) hS (fun q _ h => hFc q h) hFc (fun u9 t H1 locs ht hvm hr9 hB hz1 hk1 hS => ?_)
            obtain ⟨hP1, hK1, hD1⟩ := hB
            rw [ht] at hP1
            obtain ⟨hP, hD⟩ := xjoin (W := [(a0, .inr (2, [.ref a1, .int v1, .int v2])), (a1, .inl (cT 2, 4096, .inr (.inl f0))), (a2, .inr (2, [.ref a3, .int o19.2.1, .int o19.2.2])), (a3, .inl (cT 2, 4096, .inr (.inl o19.1)))]) hP hD [2, 3, 0, 1] [] 0 rfl rfl (by decide) (by decide) hk1 hFc hP1 hD1
            generalize H1 = H at hP hS ⊢
            refine lv_iconst (v := 0) hx hb dA_times_90 (by decide) ?_
            obtain rfl := Option.some.inj hf
            obtain ⟨hP9, hD9⟩ := xsub (wc := [(a0, .inr (2, [.ref a1, .int v1, .int v2])), (a1, .inl (cT 2, 4096, .inr (.inl f0))), (a2, .inr (2, [.ref a3, .int o19.2.1, .int o19.2.2])), (a3, .inl (cT 2, 4096, .inr (.inl o19.1)))]) hP hD [0, 1, 2, 3] rfl rfl (by decide)
            exact W.iret (v := (0 : Int32)) hx hb hr (fun t ht hW => ⟨⟨(0 : Int32), (), rfl, rfl, by rw [ht]; exact hP9, va_K.moved hW.alike hK, hD9⟩, hS.F ht⟩) hS.2.2 dA_times_91
      · rw [if_neg hc] at hf
        refine lv_aload_n hx hb dA_times_41 rfl (lv_at hl 1 rfl) ?_
        refine lv_iconst (v := 0) hx hb dA_times_42 (by decide) ?_
        refine lv_iconst (v := 3) hx hb dA_times_43 (by decide) ?_
        obtain ⟨o10, hq11, hf⟩ := xbind hf
        obtain ⟨hPc, hDc, hFc⟩ := xcut (wc := [(a0, .inr (2, [.ref a1, .int v1, .int v2])), (a1, .inl (cT 2, 4096, .inr (.inl f0)))]) hP hD hS hA [2, 3] rfl rfl (by decide)
        refine va_calli (va_runV (C := "ValueBench$Row") (As := [.int 0, .int 3]) (rest := []) ⟨hx, hb, hml, hown, htx⟩ (gR_is l hl9 D cT aK aV H.size n a0 a1 (0 : Int32) (3 : Int32) f0 v1 v2 o10 hq11) ⟨callB_of 2 htx (xw_goodC kw_3_75) rfl rfl rfl (htx _ kw_1_4) (htx _ kw_3_106) ⟨by decide, by decide, by decide +kernel⟩ ⟨Nat.le_of_ble_eq_true rfl, Nat.le_of_ble_eq_true rfl⟩, (htx _ kw_3_73), (htx _ kw_3_74)⟩ ⟨xPre_blind, va_recv hK hP (ci := 2) rfl (q0 := 2) rfl, (fun U hU hW => ⟨rfl, xPre_of hZ hS hFc hPc hDc hK U hU hW⟩)⟩ rfl rfl hl.1 rfl (lv_room (Nat.le_of_ble_eq_true rfl)) dA_times_44 ⟨Nat.le_of_ble_eq_true rfl, Nat.le_of_ble_eq_true rfl⟩) hS (fun q _ h => hFc q h) hFc (fun r12 u9 t H1 locs ht hvm hr9 hB hz1 hk1 hS => ?_)
        obtain ⟨hP1, hK1, hD1⟩ := hB
        rw [ht] at hP1
        obtain ⟨hP, hD⟩ := xjoin (W := [(a2, .inr (2, [.ref a3, .int v4, .int v5])), (a3, .inl (cT 2, 4096, .inr (.inl f3))), (a0, .inr (2, [.ref a1, .int v1, .int v2])), (a1, .inl (cT 2, 4096, .inr (.inl f0)))]) hP hD [2, 3] [0, 1] 2 rfl rfl (by decide) (by decide) hk1 hFc hP1 hD1
        generalize H1 = H at hP hS ⊢
        rw [hr9]
        refine W.eq (g2 := F0 m 47 ls [.int o10]) rfl ?_
        refine lv_if_eq (tgt := 62) hx hb dA_times_47 (by decide) (fun hc => ?_) (fun hc => ?_)
        · rw [if_pos hc] at hf
          refine lv_aload_n hx hb dA_times_62 rfl (lv_at hl 0 rfl) ?_
          refine lv_iconst (v := 0) hx hb dA_times_63 (by decide) ?_
          refine lv_iconst (v := 3) hx hb dA_times_64 (by decide) ?_
          obtain ⟨o13, hq14, hf⟩ := xbind hf
          obtain ⟨hPc, hDc, hFc⟩ := xcut (wc := [(a0, .inr (2, [.ref a1, .int v1, .int v2])), (a1, .inl (cT 2, 4096, .inr (.inl f0)))]) hP hD hS hA [2, 3] rfl rfl (by decide)
          refine va_calli (va_runV (C := "ValueBench$Row") (As := [.int 0, .int 3]) (rest := []) ⟨hx, hb, hml, hown, htx⟩ (gR_is l hl9 D cT aK aV H.size n a0 a1 (0 : Int32) (3 : Int32) f0 v1 v2 o13 hq14) ⟨callB_of 2 htx (xw_goodC kw_3_75) rfl rfl rfl (htx _ kw_1_4) (htx _ kw_3_106) ⟨by decide, by decide, by decide +kernel⟩ ⟨Nat.le_of_ble_eq_true rfl, Nat.le_of_ble_eq_true rfl⟩, (htx _ kw_3_73), (htx _ kw_3_74)⟩ ⟨xPre_blind, va_recv hK hP (ci := 2) rfl (q0 := 2) rfl, (fun U hU hW => ⟨rfl, xPre_of hZ hS hFc hPc hDc hK U hU hW⟩)⟩ rfl rfl hl.1 rfl (lv_room (Nat.le_of_ble_eq_true rfl)) dA_times_65 ⟨Nat.le_of_ble_eq_true rfl, Nat.le_of_ble_eq_true rfl⟩) hS (fun q _ h => hFc q h) hFc (fun r15 u9 t H1 locs ht hvm hr9 hB hz1 hk1 hS => ?_)
          obtain ⟨hP1, hK1, hD1⟩ := hB
          rw [ht] at hP1
          obtain ⟨hP, hD⟩ := xjoin (W := [(a2, .inr (2, [.ref a3, .int v4, .int v5])), (a3, .inl (cT 2, 4096, .inr (.inl f3))), (a0, .inr (2, [.ref a1, .int v1, .int v2])), (a1, .inl (cT 2, 4096, .inr (.inl f0)))]) hP hD [2, 3] [0, 1] 2 rfl rfl (by decide) (by decide) hk1 hFc hP1 hD1
          generalize H1 = H at hP hS ⊢
          rw [hr9]
          refine W.eq (g2 := F0 m 68 ls [.int o13]) rfl ?_
          refine lv_if_eq (tgt := 92) hx hb dA_times_68 (by decide) (fun hc => ?_) (fun hc => ?_)
          · rw [if_pos hc] at hf
            refine lv_iconst (v := 1) hx hb dA_times_92 (by decide) ?_
            obtain rfl := Option.some.inj hf
            obtain ⟨hP9, hD9⟩ := xsub (wc := [(a0, .inr (2, [.ref a1, .int v1, .int v2])), (a1, .inl (cT 2, 4096, .inr (.inl f0))), (a2, .inr (2, [.ref a3, .int v4, .int v5])), (a3, .inl (cT 2, 4096, .inr (.inl f3)))]) hP hD [2, 3, 0, 1] rfl rfl (by decide)
            exact W.iret (v := (1 : Int32)) hx hb hr (fun t ht hW => ⟨⟨(1 : Int32), (), rfl, rfl, by rw [ht]; exact hP9, va_K.moved hW.alike hK, hD9⟩, hS.F ht⟩) hS.2.2 dA_times_93
          · rw [if_neg hc] at hf
            refine lv_aload_n hx hb dA_times_71 rfl (lv_at hl 1 rfl) ?_
            refine lv_iconst (v := 0) hx hb dA_times_72 (by decide) ?_
            refine lv_iconst (v := 4) hx hb dA_times_73 (by decide) ?_
            obtain ⟨o16, hq17, hf⟩ := xbind hf
            obtain ⟨hPc, hDc, hFc⟩ := xcut (wc := [(a0, .inr (2, [.ref a1, .int v1, .int v2])), (a1, .inl (cT 2, 4096, .inr (.inl f0)))]) hP hD hS hA [2, 3] rfl rfl (by decide)
            refine va_calli (va_runV (C := "ValueBench$Row") (As := [.int 0, .int 4]) (rest := []) ⟨hx, hb, hml, hown, htx⟩ (gR_is l hl9 D cT aK aV H.size n a0 a1 (0 : Int32) (4 : Int32) f0 v1 v2 o16 hq17) ⟨callB_of 2 htx (xw_goodC kw_3_75) rfl rfl rfl (htx _ kw_1_4) (htx _ kw_3_106) ⟨by decide, by decide, by decide +kernel⟩ ⟨Nat.le_of_ble_eq_true rfl, Nat.le_of_ble_eq_true rfl⟩, (htx _ kw_3_73), (htx _ kw_3_74)⟩ ⟨xPre_blind, va_recv hK hP (ci := 2) rfl (q0 := 2) rfl, (fun U hU hW => ⟨rfl, xPre_of hZ hS hFc hPc hDc hK U hU hW⟩)⟩ rfl rfl hl.1 rfl (lv_room (Nat.le_of_ble_eq_true rfl)) dA_times_74 ⟨Nat.le_of_ble_eq_true rfl, Nat.le_of_ble_eq_true rfl⟩) hS (fun q _ h => hFc q h) hFc (fun r18 u9 t H1 locs ht hvm hr9 hB hz1 hk1 hS => ?_)
            obtain ⟨hP1, hK1, hD1⟩ := hB
            rw [ht] at hP1
            obtain ⟨hP, hD⟩ := xjoin (W := [(a2, .inr (2, [.ref a3, .int v4, .int v5])), (a3, .inl (cT 2, 4096, .inr (.inl f3))), (a0, .inr (2, [.ref a1, .int v1, .int v2])), (a1, .inl (cT 2, 4096, .inr (.inl f0)))]) hP hD [2, 3] [0, 1] 2 rfl rfl (by decide) (by decide) hk1 hFc hP1 hD1
            generalize H1 = H at hP hS ⊢
            rw [hr9]
            refine W.eq (g2 := F0 m 77 ls [.int o16]) rfl ?_
            refine lv_if_eq (tgt := 92) hx hb dA_times_77 (by decide) (fun hc => ?_) (fun hc => ?_)
            · rw [if_pos hc] at hf
              refine lv_iconst (v := 1) hx hb dA_times_92 (by decide) ?_
              obtain rfl := Option.some.inj hf
              obtain ⟨hP9, hD9⟩ := xsub (wc := [(a0, .inr (2, [.ref a1, .int v1, .int v2])), (a1, .inl (cT 2, 4096, .inr (.inl f0))), (a2, .inr (2, [.ref a3, .int v4, .int v5])), (a3, .inl (cT 2, 4096, .inr (.inl f3)))]) hP hD [2, 3, 0, 1] rfl rfl (by decide)
              exact W.iret (v := (1 : Int32)) hx hb hr (fun t ht hW => ⟨⟨(1 : Int32), (), rfl, rfl, by rw [ht]; exact hP9, va_K.moved hW.alike hK, hD9⟩, hS.F ht⟩) hS.2.2 dA_times_93
            · rw [if_neg hc] at hf
              refine lv_aload_n hx hb dA_times_80 rfl (lv_at hl 1 rfl) ?_
              refine lv_aload_n hx hb dA_times_81 rfl (lv_at hl 0 rfl) ?_
              refine lv_iconst (v := 0) hx hb dA_times_82 (by decide) ?_
              obtain ⟨o19, hq20, hf⟩ := xbind hf
              obtain ⟨hPc, hDc, hFc⟩ := xcut (wc := [(a0, .inr (2, [.ref a1, .int v1, .int v2])), (a1, .inl (cT 2, 4096, .inr (.inl f0)))]) hP hD hS hA [2, 3] rfl rfl (by decide)
              refine va_calll (va_runV (C := "ValueBench$Row") (As := [.int 0]) (rest := [.ref a0]) ⟨hx, hb, hml, hown, htx⟩ (gR_number l hl9 D cT aK aV H.size n a0 a1 (0 : Int32) f0 v1 v2 o19 hq20) ⟨callB_of 1 htx (xw_goodC kw_3_37) rfl rfl rfl (htx _ kw_1_4) (htx _ kw_3_107) ⟨by decide, by decide, by decide +kernel⟩ ⟨Nat.le_of_ble_eq_true rfl, Nat.le_of_ble_eq_true rfl⟩, (htx _ kw_3_35), (htx _ kw_3_36)⟩ ⟨xPre_blind, va_recv hK hP (ci := 2) rfl (q0 := 2) rfl, (fun U hU hW => ⟨rfl, xPre_of hZ hS hFc hPc hDc hK U hU hW⟩)⟩ rfl rfl hl.1 rfl (lv_room (Nat.le_of_ble_eq_true rfl)) dA_times_83 ⟨Nat.le_of_ble_eq_true rfl, Nat.le_of_ble_eq_true rfl⟩) hS (fun q _ h => hFc q h) hFc (fun r21 u9 t H1 locs ht hvm hr9 hB hz1 hk1 hS => ?_)
              obtain ⟨hP1, hK1, hD1⟩ := hB
              rw [ht] at hP1
              obtain ⟨hP, hD⟩ := xjoin (W := [(a2, .inr (2, [.ref a3, .int v4, .int v5])), (a3, .inl (cT 2, 4096, .inr (.inl f3))), (a0, .inr (2, [.ref a1, .int v1, .int v2])), (a1, .inl (cT 2, 4096, .inr (.inl f0)))]) hP hD [2, 3] [0, 1] 2 rfl rfl (by decide) (by decide) hk1 hFc hP1 hD1
              generalize H1 = H at hP hS ⊢
              rw [hr9]
              refine W.eq (g2 := F0 m 86 ls [.long o19, .ref a0]) rfl ?_
              refine lv_aload_n hx hb dA_times_86 rfl (lv_at hl 2 rfl) ?_
              obtain ⟨o22, hq23, hf⟩ := xbind hf
              obtain ⟨hPc, hDc, hFc⟩ := xcut (wc := [(a0, .inr (2, [.ref a1, .int v1, .int v2])), (a1, .inl (cT 2, 4096, .inr (.inl f0))), (a2, .inr (2, [.ref a3, .int v4, .int v5])), (a3, .inl (cT 2, 4096, .inr (.inl f3)))]) hP hD hS hA [2, 3, 0, 1] rfl rfl (by decide)
              refine va_callv (va_runS (As := [.ref a0, .long o19, .ref a2]) (rest := []) ⟨hx, hb, hml, hown, htx⟩ (gA_putRepeated l hl9 D cT aK aV H.size n a0 a1 a2 a3 o19 f0 v1 v2 f3 v4 v5 o22 hq23) ⟨callB_of 3 htx (xw_goodC kw_3_192) rfl rfl rfl (htx _ kw_1_21) (htx _ kw_3_190) ⟨by decide, by decide, by decide +kernel⟩ ⟨Nat.le_of_ble_eq_true rfl, Nat.le_of_ble_eq_true rfl⟩, htx _ kw_3_191⟩ ⟨xPre_blind, (fun U hU hW => ⟨rfl, xPre_of hZ hS hFc hPc hDc hK U hU hW⟩)⟩ rfl rfl hl.1 rfl (lv_room (Nat.le_of_ble_eq_true rfl)) dA_times_87 ⟨Nat.le_of_ble_eq_true rfl, Nat.le_of_ble_eq_true rfl⟩) hS (fun q _ h => hFc q h) hFc (fun u9 t H1 locs ht hvm hr9 hB hz1 hk1 hS => ?_)
              obtain ⟨hP1, hK1, hD1⟩ := hB
              rw [ht] at hP1
              obtain ⟨hP, hD⟩ := xjoin (W := [(a0, .inr (2, [.ref a1, .int v1, .int v2])), (a1, .inl (cT 2, 4096, .inr (.inl f0))), (a2, .inr (2, [.ref a3, .int o22.2.1, .int o22.2.2])), (a3, .inl (cT 2, 4096, .inr (.inl o22.1)))]) hP hD [2, 3, 0, 1] [] 0 rfl rfl (by decide) (by decide) hk1 hFc hP1 hD1
              generalize H1 = H at hP hS ⊢
              refine lv_iconst (v := 0) hx hb dA_times_90 (by decide) ?_
              obtain rfl := Option.some.inj hf
              obtain ⟨hP9, hD9⟩ := xsub (wc := [(a0, .inr (2, [.ref a1, .int v1, .int v2])), (a1, .inl (cT 2, 4096, .inr (.inl f0))), (a2, .inr (2, [.ref a3, .int o22.2.1, .int o22.2.2])), (a3, .inl (cT 2, 4096, .inr (.inl o22.1)))]) hP hD [0, 1, 2, 3] rfl rfl (by decide)
              exact W.iret (v := (0 : Int32)) hx hb hr (fun t ht hW => ⟨⟨(0 : Int32), (), rfl, rfl, by rw [ht]; exact hP9, va_K.moved hW.alike hK, hD9⟩, hS.F ht⟩) hS.2.2 dA_times_91
        · rw [if_neg hc] at hf
          refine lv_aload_n hx hb dA_times_50 rfl (lv_at hl 0 rfl) ?_
          refine lv_aload_n hx hb dA_times_51 rfl (lv_at hl 1 rfl) ?_
          refine lv_iconst (v := 0) hx hb dA_times_52 (by decide) ?_
          obtain ⟨o13, hq14, hf⟩ := xbind hf
          obtain ⟨hPc, hDc, hFc⟩ := xcut (wc := [(a0, .inr (2, [.ref a1, .int v1, .int v2])), (a1, .inl (cT 2, 4096, .inr (.inl f0)))]) hP hD hS hA [2, 3] rfl rfl (by decide)
          refine va_calll (va_runV (C := "ValueBench$Row") (As := [.int 0]) (rest := [.ref a0]) ⟨hx, hb, hml, hown, htx⟩ (gR_number l hl9 D cT aK aV H.size n a0 a1 (0 : Int32) f0 v1 v2 o13 hq14) ⟨callB_of 1 htx (xw_goodC kw_3_37) rfl rfl rfl (htx _ kw_1_4) (htx _ kw_3_107) ⟨by decide, by decide, by decide +kernel⟩ ⟨Nat.le_of_ble_eq_true rfl, Nat.le_of_ble_eq_true rfl⟩, (htx _ kw_3_35), (htx _ kw_3_36)⟩ ⟨xPre_blind, va_recv hK hP (ci := 2) rfl (q0 := 2) rfl, (fun U hU hW => ⟨rfl, xPre_of hZ hS hFc hPc hDc hK U hU hW⟩)⟩ rfl rfl hl.1 rfl (lv_room (Nat.le_of_ble_eq_true rfl)) dA_times_53 ⟨Nat.le_of_ble_eq_true rfl, Nat.le_of_ble_eq_true rfl⟩) hS (fun q _ h => hFc q h) hFc (fun r15 u9 t H1 locs ht hvm hr9 hB hz1 hk1 hS => ?_)
          obtain ⟨hP1, hK1, hD1⟩ := hB
          rw [ht] at hP1
          obtain ⟨hP, hD⟩ := xjoin (W := [(a2, .inr (2, [.ref a3, .int v4, .int v5])), (a3, .inl (cT 2, 4096, .inr (.inl f3))), (a0, .inr (2, [.ref a1, .int v1, .int v2])), (a1, .inl (cT 2, 4096, .inr (.inl f0)))]) hP hD [2, 3] [0, 1] 2 rfl rfl (by decide) (by decide) hk1 hFc hP1 hD1
          generalize H1 = H at hP hS ⊢
          rw [hr9]
          refine W.eq (g2 := F0 m 56 ls [.long o13, .ref a0]) rfl ?_
          refine lv_aload_n hx hb dA_times_56 rfl (lv_at hl 2 rfl) ?_
          obtain ⟨o16, hq17, hf⟩ := xbind hf
          obtain ⟨hPc, hDc, hFc⟩ := xcut (wc := [(a0, .inr (2, [.ref a1, .int v1, .int v2])), (a1, .inl (cT 2, 4096, .inr (.inl f0))), (a2, .inr (2, [.ref a3, .int v4, .int v5])), (a3, .inl (cT 2, 4096, .inr (.inl f3)))]) hP hD hS hA [2, 3, 0, 1] rfl rfl (by decide)
          refine va_callv (va_runS (As := [.ref a0, .long o13, .ref a2]) (rest := []) ⟨hx, hb, hml, hown, htx⟩ (gA_putRepeated l hl9 D cT aK aV H.size n a0 a1 a2 a3 o13 f0 v1 v2 f3 v4 v5 o16 hq17) ⟨callB_of 3 htx (xw_goodC kw_3_192) rfl rfl rfl (htx _ kw_1_21) (htx _ kw_3_190) ⟨by decide, by decide, by decide +kernel⟩ ⟨Nat.le_of_ble_eq_true rfl, Nat.le_of_ble_eq_true rfl⟩, htx _ kw_3_191⟩ ⟨xPre_blind, (fun U hU hW => ⟨rfl, xPre_of hZ hS hFc hPc hDc hK U hU hW⟩)⟩ rfl rfl hl.1 rfl (lv_room (Nat.le_of_ble_eq_true rfl)) dA_times_57 ⟨Nat.le_of_ble_eq_true rfl, Nat.le_of_ble_eq_true rfl⟩) hS (fun q _ h => hFc q h) hFc (fun u9 t H1 locs ht hvm hr9 hB hz1 hk1 hS => ?_)
          obtain ⟨hP1, hK1, hD1⟩ := hB
          rw [ht] at hP1
          obtain ⟨hP, hD⟩ := xjoin (W := [(a0, .inr (2, [.ref a1, .int v1, .int v2])), (a1, .inl (cT 2, 4096, .inr (.inl f0))), (a2, .inr (2, [.ref a3, .int o16.2.1, .int o16.2.2])), (a3, .inl (cT 2, 4096, .inr (.inl o16.1)))]) hP hD [2, 3, 0, 1] [] 0 rfl rfl (by decide) (by decide) hk1 hFc hP1 hD1
          generalize H1 = H at hP hS ⊢
          refine lv_iconst (v := 0) hx hb dA_times_60 (by decide) ?_
          obtain rfl := Option.some.inj hf
          obtain ⟨hP9, hD9⟩ := xsub (wc := [(a0, .inr (2, [.ref a1, .int v1, .int v2])), (a1, .inl (cT 2, 4096, .inr (.inl f0))), (a2, .inr (2, [.ref a3, .int o16.2.1, .int o16.2.2])), (a3, .inl (cT 2, 4096, .inr (.inl o16.1)))]) hP hD [0, 1, 2, 3] rfl rfl (by decide)
          exact W.iret (v := (0 : Int32)) hx hb hr (fun t ht hW => ⟨⟨(0 : Int32), (), rfl, rfl, by rw [ht]; exact hP9, va_K.moved hW.alike hK, hD9⟩, hS.F ht⟩) hS.2.2 dA_times_61
    · rw [if_neg hc] at hf
      refine lv_aload_n hx hb dA_times_20 rfl (lv_at hl 0 rfl) ?_
      refine lv_iconst (v := 0) hx hb dA_times_21 (by decide) ?_
      refine lv_aload_n hx hb dA_times_22 rfl (lv_at hl 1 rfl) ?_
      refine lv_iconst (v := 0) hx hb dA_times_23 (by decide) ?_
      refine lv_aload_n hx hb dA_times_24 rfl (lv_at hl 2 rfl) ?_
      refine lv_iconst (v := 1) hx hb dA_times_25 (by decide) ?_
      refine lv_iconst (v := 0) hx hb dA_times_26 (by decide) ?_
      obtain ⟨o7, hq8, hf⟩ := xbind hf
      obtain ⟨hPc, hDc, hFc⟩ := xcut (wc := [(a0, .inr (2, [.ref a1, .int v1, .int v2])), (a1, .inl (cT 2, 4096, .inr (.inl f0))), (a2, .inr (2, [.ref a3, .int v4, .int v5])), (a3, .inl (cT 2, 4096, .inr (.inl f3)))]) hP hD hS hA [2, 3, 0, 1] rfl rfl (by decide)
      refine va_callv (va_runS (As := [.ref a0, .int 0, .ref a0, .int 0, .ref a2, .int 1, .int 0]) (rest := []) ⟨hx, hb, hml, hown, htx⟩ (gA_putBotha l hl9 D cT aK aV d H.size n a0 a1 a2 a3 (0 : Int32) (0 : Int32) (1 : Int32) (0 : Int32) f0 v1 v2 f3 v4 v5 o7 hq8) ⟨callB_of 7 htx (xw_goodC kw_3_147) rfl rfl rfl (htx _ kw_1_21) (htx _ kw_3_145) ⟨by decide, by decide, by decide +kernel⟩ ⟨(by show (16 * d) + 1 ≤ 16 * d + 4; omega), (by show 8 + (12 + 11) + (400 * d) ≤ 400 * d + 130; omega)⟩, htx _ kw_3_146⟩ ⟨xPre_blind, (fun U hU hW => ⟨rfl, xPre_of hZ hS hFc hPc hDc hK U hU hW⟩)⟩ rfl rfl hl.1 rfl (lv_room (Nat.le_of_ble_eq_true rfl)) dA_times_27 ⟨Nat.le_of_ble_eq_true rfl, Nat.le_of_ble_eq_true rfl⟩) hS (fun q _ h => hFc q h) hFc (fun u9 t H1 locs ht hvm hr9 hB hz1 hk1 hS => ?_)
      obtain ⟨hP1, hK1, hD1⟩ := hB
      rw [ht] at hP1
      obtain ⟨hP, hD⟩ := xjoin (W := [(a0, .inr (2, [.ref a1, .int v1, .int v2])), (a1, .inl (cT 2, 4096, .inr (.inl f0))), (a2, .inr (2, [.ref a3, .int o7.2.1, .int o7.2.2])), (a3, .inl (cT 2, 4096, .inr (.inl o7.1)))]) hP hD [2, 3, 0, 1] [] 0 rfl rfl (by decide) (by decide) hk1 hFc hP1 hD1
      generalize H1 = H at hP hS ⊢
      refine lv_iconst (v := 0) hx hb dA_times_30 (by decide) ?_
      obtain rfl := Option.some.inj hf
      obtain ⟨hP9, hD9⟩ := xsub (wc := [(a0, .inr (2, [.ref a1, .int v1, .int v2])), (a1, .inl (cT 2, 4096, .inr (.inl f0))), (a2, .inr (2, [.ref a3, .int o7.2.1, .int o7.2.2])), (a3, .inl (cT 2, 4096, .inr (.inl o7.1)))]) hP hD [0, 1, 2, 3] rfl rfl (by decide)
      exact W.iret (v := (0 : Int32)) hx hb hr (fun t ht hW => ⟨⟨(0 : Int32), (), rfl, rfl, by rw [ht]; exact hP9, va_K.moved hW.alike hK, hD9⟩, hS.F ht⟩) hS.2.2 dA_times_31
set_option maxHeartbeats 400000000 in
set_option maxRecDepth 100000 in
theorem gA_putPiecesa (l : Launch) (hl9 : l.stackTraces = false) (D : va_G) (cT : Nat → ClassId) (aK aV : Nat → Nat) (sz n : Nat) (a0 : Nat) (a1 : Nat) (a2 : Nat) (a3 : Nat) (f0 : Nat → Int64) (v1 : Int32) (v2 : Int32) (f3 : Nat → Int64) (v4 : Int32) (v5 : Int32) (out : Int32 × (Nat → Int64) × Int32 × Int32) (hf : fA_putPiecesa n f0 v1 v2 f3 v4 v5 = some out) : xMet l yA_putPieces wyA_putPieces 3 0 0 108 D cT aK aV sz [.ref a0, .ref a0, .ref a2] [(a0, .inr (2, [.ref a1, .int v1, .int v2])), (a1, .inl (cT 2, 4096, .inr (.inl f0))), (a2, .inr (2, [.ref a3, .int v4, .int v5])), (a3, .inl (cT 2, 4096, .inr (.inl f3)))] (fun A => va_Qi (fun (r : Int32) (_ : Unit) => r = out.1) (fun _ t => xB D xcl cT A [(a0, .inr (2, [.ref a1, .int v1, .int v2])), (a1, .inl (cT 2, 4096, .inr (.inl f0))), (a2, .inr (2, [.ref a3, .int out.2.2.1, .int out.2.2.2])), (a3, .inl (cT 2, 4096, .inr (.inl out.2.1)))] t) A) := by
  refine Met.ofW (cc := prog_3_method_16_code) (maxL := 6) (ret := (some .int)) (by decide) rfl ?_
  intro p e s m args below meth c s₁ B hml hv
  obtain ⟨rfl, hsz, hZ, hP, hK, hD0⟩ := hv
  have hx := B.exec
  have hb := B.bytes
  have hr := B.returns
  have hts := atoms_spec (ws := wyA_putPieces) B.pre
  have htx := fun w h => hts w (List.mem_cons_of_mem _ h)
  have hown : s.vm.findClass "ValueBench$Operators" = some m.cls := findClass_of_methodNamed B.named
  have hlocks := B.notSynchronized
  subst hsz
  have hD := hD0.self (sz := s.heap.size)
  generalize hAe : va_A [(a0, .inr (2, [.ref a1, .int v1, .int v2])), (a1, .inl (cT 2, 4096, .inr (.inl f0))), (a2, .inr (2, [.ref a3, .int v4, .int v5])), (a3, .inl (cT 2, 4096, .inr (.inl f3)))] s.heap.size = A at hD hZ ⊢
  have hA : ∀ q : Nat, s.heap.size ≤ q → A q := fun q h => by rw [← hAe]; exact Or.inr h
  have hS : va_S A s.heap s.heap [] := va_S.rf
  have hP : va_P D xcl [(a0, .inr (2, [.ref a1, .int v1, .int v2])), (a1, .inl (cT 2, 4096, .inr (.inl f0))), (a2, .inr (2, [.ref a3, .int v4, .int v5])), (a3, .inl (cT 2, 4096, .inr (.inl f3)))] s.heap := hP
  have hl := lv_entry ([.ref a0, .ref a0, .ref a2]) (n := 6) (Nat.le_of_ble_eq_true rfl)
  rw [lg_entry_eq]
  generalize (lg_sl ([.ref a0, .ref a0, .ref a2]) ++ List.replicate (6 - (lg_sl ([.ref a0, .ref a0, .ref a2])).length) Slot.unset).toArray = ls at hl ⊢
  have hl : lv_has ls 6 [(0, .ref a0), (1, .ref a0), (2, .ref a2)] := hl
  unfold fA_putPiecesa at hf
  refine xloopK (σ := Nat × Int32 × Int32 × Int32 × (Nat → Int64) × Int32 × Int32) (fun n x H locs ls => (x.1 = 1 ∧ fA_putPiecesa_b f0 v1 v2 n x.1 x.2.1 x.2.2.1 x.2.2.2.1 x.2.2.2.2.1 x.2.2.2.2.2.1 x.2.2.2.2.2.2 = some out ∧ va_P D xcl [(a0, .inr (2, [.ref a1, .int v1, .int v2])), (a1, .inl (cT 2, 4096, .inr (.inl f0))), (a2, .inr (2, [.ref a3, .int x.2.2.2.2.2.1, .int x.2.2.2.2.2.2])), (a3, .inl (cT 2, 4096, .inr (.inl x.2.2.2.2.1)))] H ∧ va_D A [(a0, .inr (2, [.ref a1, .int v1, .int v2])), (a1, .inl (cT 2, 4096, .inr (.inl f0))), (a2, .inr (2, [.ref a3, .int x.2.2.2.2.2.1, .int x.2.2.2.2.2.2])), (a3, .inl (cT 2, 4096, .inr (.inl x.2.2.2.2.1)))] ∧ va_S A s.heap H locs ∧ lv_has ls 6 [(5, .int x.2.1), (4, .int x.2.2.1), (3, .int x.2.2.2.1), (0, .ref a0), (1, .ref a0), (2, .ref a2)])) (fun x => 18) (fun x H locs ls h => by exact absurd h.2.1 (by rw [fA_putPiecesa_b]; exact fun h => nomatch h)) (fun n ih x H locs ls hv => ?_) (fun key => ?_)
  · obtain ⟨lb, y5, y4, y3, w0, w1, w2⟩ := x
    rcases hv with ⟨hj, hf, hP, hD, hS, hl⟩
    subst hj
    have hf : fA_putPiecesa_b f0 v1 v2 (n + 1) 1 y5 y4 y3 w0 w1 w2 = some out := hf
    rw [fA_putPiecesa_b] at hf
    obtain ⟨hP, hD⟩ : xPD D xcl A [(a0, .inr (2, [.ref a1, .int v1, .int v2])), (a1, .inl (cT 2, 4096, .inr (.inl f0))), (a2, .inr (2, [.ref a3, .int w1, .int w2])), (a3, .inl (cT 2, 4096, .inr (.inl w0)))] H := ⟨hP, hD⟩
    have hl : lv_has ls 6 [(5, .int y5), (4, .int y4), (3, .int y3), (0, .ref a0), (1, .ref a0), (2, .ref a2)] := hl
    refine W.eq (g2 := F0 m 18 ls []) rfl ?_
    refine lv_iload hx hb dA_putPieces_18 (lv_at hl 0 rfl) ?_
    refine lv_aload_n hx hb dA_putPieces_20 rfl (lv_at hl 3 rfl) ?_
    refine lv_iconst (v := 0) hx hb dA_putPieces_21 (by decide) ?_
    obtain ⟨o1, hq2, hf⟩ := xbind hf
    obtain ⟨hPc, hDc, hFc⟩ := xcut (wc := [(a0, .inr (2, [.ref a1, .int v1, .int v2])), (a1, .inl (cT 2, 4096, .inr (.inl f0)))]) hP hD hS hA [0, 1] rfl rfl (by decide)
    refine va_calli (va_runV (C := "ValueBench$Row") (As := [.int 0]) (rest := [.int y5]) ⟨hx, hb, hml, hown, htx⟩ (gR_length l hl9 D cT aK aV H.size n a0 a1 (0 : Int32) f0 v1 v2 o1 hq2) ⟨callB_of 1 htx (xw_goodC kw_2_191) rfl rfl rfl (htx _ kw_1_4) (htx _ kw_3_143) ⟨by decide, by decide, by decide +kernel⟩ ⟨Nat.le_of_ble_eq_true rfl, Nat.le_of_ble_eq_true rfl⟩, (htx _ kw_2_189), (htx _ kw_2_190)⟩ ⟨xPre_blind, va_recv hK hP (ci := 2) rfl (q0 := 0) rfl, (fun U hU hW => ⟨rfl, xPre_of hZ hS hFc hPc hDc hK U hU hW⟩)⟩ rfl rfl hl.1 rfl (lv_room (Nat.le_of_ble_eq_true rfl)) dA_putPieces_22 ⟨Nat.le_of_ble_eq_true rfl, Nat.le_of_ble_eq_true rfl⟩) hS (fun q _ h => hFc q h) hFc (fun r3 u9 t H1 locs ht hvm hr9 hB hz1 hk1 hS => ?_)
    obtain ⟨hP1, hK1, hD1⟩ := hB
    rw [ht] at hP1
    obtain ⟨hP, hD⟩ := xjoin (W := [(a2, .inr (2, [.ref a3, .int w1, .int w2])), (a3, .inl (cT 2, 4096, .inr (.inl w0))), (a0, .inr (2, [.ref a1, .int v1, .int v2])), (a1, .inl (cT 2, 4096, .inr (.inl f0)))]) hP hD [0, 1] [2, 3] 2 rfl rfl (by decide) (by decide) hk1 hFc hP1 hD1
    generalize H1 = H at hP hS ⊢
    rw [hr9]
    refine W.eq (g2 := F0 m 25 ls [.int o1, .int y5]) rfl ?_
    refine lv_icmp_ge (tgt := 76) hx hb dA_putPieces_25 (by decide) (fun hc => ?_) (fun hc => ?_)
    · rw [if_pos hc] at hf
      refine lv_aload_n hx hb dA_putPieces_76 rfl (lv_at hl 5 rfl) ?_
      refine lv_aload_n hx hb dA_putPieces_77 rfl (lv_at hl 3 rfl) ?_
      refine lv_iconst (v := 0) hx hb dA_putPieces_78 (by decide) ?_
      refine lv_iload hx hb dA_putPieces_79 (lv_at hl 1 rfl) ?_
      refine lv_aload_n hx hb dA_putPieces_81 rfl (lv_at hl 3 rfl) ?_
      refine lv_iconst (v := 0) hx hb dA_putPieces_82 (by decide) ?_
      obtain ⟨o4, hq5, hf⟩ := xbind hf
      obtain ⟨hPc, hDc, hFc⟩ := xcut (wc := [(a0, .inr (2, [.ref a1, .int v1, .int v2])), (a1, .inl (cT 2, 4096, .inr (.inl f0)))]) hP hD hS hA [2, 3] rfl rfl (by decide)
      refine va_calli (va_runV (C := "ValueBench$Row") (As := [.int 0]) (rest := [.int y4, .int 0, .ref a0, .ref a2]) ⟨hx, hb, hml, hown, htx⟩ (gR_length l hl9 D cT aK aV H.size n a0 a1 (0 : Int32) f0 v1 v2 o4 hq5) ⟨callB_of 1 htx (xw_goodC kw_2_191) rfl rfl rfl (htx _ kw_1_4) (htx _ kw_3_143) ⟨by decide, by decide, by decide +kernel⟩ ⟨Nat.le_of_ble_eq_true rfl, Nat.le_of_ble_eq_true rfl⟩, (htx _ kw_2_189), (htx _ kw_2_190)⟩ ⟨xPre_blind, va_recv hK hP (ci := 2) rfl (q0 := 2) rfl, (fun U hU hW => ⟨rfl, xPre_of hZ hS hFc hPc hDc hK U hU hW⟩)⟩ rfl rfl hl.1 rfl (lv_room (Nat.le_of_ble_eq_true rfl)) dA_putPieces_83 ⟨Nat.le_of_ble_eq_true rfl, Nat.le_of_ble_eq_true rfl⟩) hS (fun q _ h => hFc q h) hFc (fun r6 u9 t H1 locs ht hvm hr9 hB hz1 hk1 hS => ?_)
      obtain ⟨hP1, hK1, hD1⟩ := hB
      rw [ht] at hP1
      obtain ⟨hP, hD⟩ := xjoin (W := [(a2, .inr (2, [.ref a3, .int w1, .int w2])), (a3, .inl (cT 2, 4096, .inr (.inl w0))), (a0, .inr (2, [.ref a1, .int v1, .int v2])), (a1, .inl (cT 2, 4096, .inr (.inl f0)))]) hP hD [2, 3] [0, 1] 2 rfl rfl (by decide) (by decide) hk1 hFc hP1 hD1
      generalize H1 = H at hP hS ⊢
      rw [hr9]
      refine W.eq (g2 := F0 m 86 ls [.int o4, .int y4, .int 0, .ref a0, .ref a2]) rfl ?_
      obtain ⟨o7, hq8, hf⟩ := xbind hf
      obtain ⟨hPc, hDc, hFc⟩ := xcut (wc := [(a2, .inr (2, [.ref a3, .int w1, .int w2])), (a3, .inl (cT 2, 4096, .inr (.inl w0))), (a0, .inr (2, [.ref a1, .int v1, .int v2])), (a1, .inl (cT 2, 4096, .inr (.inl f0)))]) hP hD hS hA [0, 1, 2, 3] rfl rfl (by decide)
      refine va_callv (va_runV (C := "ValueBench$Row") (As := [.ref a0, .int 0, .int y4, .int o4]) (rest := []) ⟨hx, hb, hml, hown, htx⟩ (gR_putPart l hl9 D cT aK aV H.size n a2 a3 a0 a1 (0 : Int32) y4 o4 w0 w1 w2 f0 v1 v2 o7 hq8) ⟨callB_of 4 htx (xw_goodC kw_3_208) rfl rfl rfl (htx _ kw_1_4) (htx _ kw_3_205) ⟨by decide, by decide, by decide +kernel⟩ ⟨Nat.le_of_ble_eq_true rfl, Nat.le_of_ble_eq_true rfl⟩, (htx _ kw_3_206), (htx _ kw_3_207)⟩ ⟨xPre_blind, va_recv hK hP (ci := 2) rfl (q0 := 0) rfl, (fun U hU hW => ⟨rfl, xPre_of hZ hS hFc hPc hDc hK U hU hW⟩)⟩ rfl rfl hl.1 rfl (lv_room (Nat.le_of_ble_eq_true rfl)) dA_putPieces_86 ⟨Nat.le_of_ble_eq_true rfl, Nat.le_of_ble_eq_true rfl⟩) hS (fun q _ h => hFc q h) hFc (fun u9 t H1 locs ht hvm hr9 hB hz1 hk1 hS => ?_)
      obtain ⟨hP1, hK1, hD1⟩ := hB
      rw [ht] at hP1
      obtain ⟨hP, hD⟩ := xjoin (W := [(a2, .inr (2, [.ref a3, .int o7.2.1, .int o7.2.2])), (a3, .inl (cT 2, 4096, .inr (.inl o7.1))), (a0, .inr (2, [.ref a1, .int v1, .int v2])), (a1, .inl (cT 2, 4096, .inr (.inl f0)))]) hP hD [0, 1, 2, 3] [] 0 rfl rfl (by decide) (by decide) hk1 hFc hP1 hD1
      generalize H1 = H at hP hS ⊢
      refine lv_iload_n hx hb dA_putPieces_89 rfl (lv_at hl 2 rfl) ?_
      obtain rfl := Option.some.inj hf
      obtain ⟨hP9, hD9⟩ := xsub (wc := [(a0, .inr (2, [.ref a1, .int v1, .int v2])), (a1, .inl (cT 2, 4096, .inr (.inl f0))), (a2, .inr (2, [.ref a3, .int o7.2.1, .int o7.2.2])), (a3, .inl (cT 2, 4096, .inr (.inl o7.1)))]) hP hD [2, 3, 0, 1] rfl rfl (by decide)
      exact W.iret (v := y3) hx hb hr (fun t ht hW => ⟨⟨y3, (), rfl, rfl, by rw [ht]; exact hP9, va_K.moved hW.alike hK, hD9⟩, hS.F ht⟩) hS.2.2 dA_putPieces_90
    · rw [if_neg hc] at hf
      refine lv_iload hx hb dA_putPieces_28 (lv_at hl 0 rfl) ?_
      refine lv_iload hx hb dA_putPieces_30 (lv_at hl 1 rfl) ?_
      refine lv_icmp_lt (tgt := 70) hx hb dA_putPieces_32 (by decide) (fun hc => ?_) (fun hc => ?_)
      · rw [if_pos hc] at hf
        refine lv_iinc (v := (y5 + 1)) (lv' := [(5, .int (y5 + 1)), (4, .int y4), (3, .int y3), (0, .ref a0), (1, .ref a0), (2, .ref a2)]) hx hb dA_putPieces_70 hl (k := 0) rfl rfl (by decide) rfl (fun ls hl => ?_)
        refine lv_goto (tgt := 18) hx hb dA_putPieces_73 (by decide) ?_
        obtain ⟨hP9, hD9⟩ := xsub (wc := [(a0, .inr (2, [.ref a1, .int v1, .int v2])), (a1, .inl (cT 2, 4096, .inr (.inl f0))), (a2, .inr (2, [.ref a3, .int w1, .int w2])), (a3, .inl (cT 2, 4096, .inr (.inl w0)))]) hP hD [2, 3, 0, 1] rfl rfl (by decide)
        exact ih (1, (y5 + 1), y4, y3, w0, w1, w2) _ _ ls (⟨rfl, hf, hP9, hD9, hS, lv_sub hl [0, 1, 2, 3, 4, 5] rfl⟩)
      · rw [if_neg hc] at hf
        refine lv_aload_n hx hb dA_putPieces_35 rfl (lv_at hl 3 rfl) ?_
        refine lv_iconst (v := 0) hx hb dA_putPieces_36 (by decide) ?_
        refine lv_iload hx hb dA_putPieces_37 (lv_at hl 0 rfl) ?_
        refine lv_aload_n hx hb dA_putPieces_39 rfl (lv_at hl 4 rfl) ?_
        refine lv_iconst (v := 0) hx hb dA_putPieces_40 (by decide) ?_
        obtain ⟨o4, hq5, hf⟩ := xbind hf
        obtain ⟨hPc, hDc, hFc⟩ := xcut (wc := [(a0, .inr (2, [.ref a1, .int v1, .int v2])), (a1, .inl (cT 2, 4096, .inr (.inl f0)))]) hP hD hS hA [2, 3] rfl rfl (by decide)
        refine va_calli (va_runV (C := "ValueBench$Row") (As := [.int 0, .int y5, .ref a0, .int 0]) (rest := []) ⟨hx, hb, hml, hown, htx⟩ (gR_hasPart l hl9 D cT aK aV H.size n a0 a1 (0 : Int32) y5 (0 : Int32) f0 v1 v2 o4 hq5) ⟨callB_of 4 htx (xw_goodC kw_3_217) rfl rfl rfl (htx _ kw_1_4) (htx _ kw_3_214) ⟨by decide, by decide, by decide +kernel⟩ ⟨Nat.le_of_ble_eq_true rfl, Nat.le_of_ble_eq_true rfl⟩, (htx _ kw_3_215), (htx _ kw_3_216)⟩ ⟨xPre_blind, va_recv hK hP (ci := 2) rfl (q0 := 2) rfl, (fun U hU hW => ⟨rfl, xPre_of hZ hS hFc hPc hDc hK U hU hW⟩)⟩ rfl rfl hl.1 rfl (lv_room (Nat.le_of_ble_eq_true rfl)) dA_putPieces_41 ⟨Nat.le_of_ble_eq_true rfl, Nat.le_of_ble_eq_true rfl⟩) hS (fun q _ h => hFc q h) hFc (fun r6 u9 t H1 locs ht hvm hr9 hB hz1 hk1 hS => ?_)
        obtain ⟨hP1, hK1, hD1⟩ := hB
        rw [ht] at hP1
        obtain ⟨hP, hD⟩ := xjoin (W := [(a2, .inr (2, [.ref a3, .int w1, .int w2])), (a3, .inl (cT 2, 4096, .inr (.inl w0))), (a0, .inr (2, [.ref a1, .int v1, .int v2])), (a1, .inl (cT 2, 4096, .inr (.inl f0)))]) hP hD [2, 3] [0, 1] 2 rfl rfl (by decide) (by decide) hk1 hFc hP1 hD1
        generalize H1 = H at hP hS ⊢
        rw [hr9]
        refine W.eq (g2 := F0 m 44 ls [.int o4]) rfl ?_
        refine lv_if_eq (tgt := 70) hx hb dA_putPieces_44 (by decide) (fun hc => ?_) (fun hc => ?_)
        · rw [if_pos hc] at hf
          refine lv_iinc (v := (y5 + 1)) (lv' := [(5, .int (y5 + 1)), (4, .int y4), (3, .int y3), (0, .ref a0), (1, .ref a0), (2, .ref a2)]) hx hb dA_putPieces_70 hl (k := 0) rfl rfl (by decide) rfl (fun ls hl => ?_)
          refine lv_goto (tgt := 18) hx hb dA_putPieces_73 (by decide) ?_
          obtain ⟨hP9, hD9⟩ := xsub (wc := [(a0, .inr (2, [.ref a1, .int v1, .int v2])), (a1, .inl (cT 2, 4096, .inr (.inl f0))), (a2, .inr (2, [.ref a3, .int w1, .int w2])), (a3, .inl (cT 2, 4096, .inr (.inl w0)))]) hP hD [2, 3, 0, 1] rfl rfl (by decide)
          exact ih (1, (y5 + 1), y4, y3, w0, w1, w2) _ _ ls (⟨rfl, hf, hP9, hD9, hS, lv_sub hl [0, 1, 2, 3, 4, 5] rfl⟩)
        · rw [if_neg hc] at hf
          refine lv_aload_n hx hb dA_putPieces_47 rfl (lv_at hl 5 rfl) ?_
          refine lv_aload_n hx hb dA_putPieces_48 rfl (lv_at hl 3 rfl) ?_
          refine lv_iconst (v := 0) hx hb dA_putPieces_49 (by decide) ?_
          refine lv_iload hx hb dA_putPieces_50 (lv_at hl 1 rfl) ?_
          refine lv_iload hx hb dA_putPieces_52 (lv_at hl 0 rfl) ?_
          obtain ⟨o7, hq8, hf⟩ := xbind hf
          obtain ⟨hPc, hDc, hFc⟩ := xcut (wc := [(a2, .inr (2, [.ref a3, .int w1, .int w2])), (a3, .inl (cT 2, 4096, .inr (.inl w0))), (a0, .inr (2, [.ref a1, .int v1, .int v2])), (a1, .inl (cT 2, 4096, .inr (.inl f0)))]) hP hD hS hA [0, 1, 2, 3] rfl rfl (by decide)
          refine va_callv (va_runV (C := "ValueBench$Row") (As := [.ref a0, .int 0, .int y4, .int y5]) (rest := []) ⟨hx, hb, hml, hown, htx⟩ (gR_putPart l hl9 D cT aK aV H.size n a2 a3 a0 a1 (0 : Int32) y4 y5 w0 w1 w2 f0 v1 v2 o7 hq8) ⟨callB_of 4 htx (xw_goodC kw_3_208) rfl rfl rfl (htx _ kw_1_4) (htx _ kw_3_205) ⟨by decide, by decide, by decide +kernel⟩ ⟨Nat.le_of_ble_eq_true rfl, Nat.le_of_ble_eq_true rfl⟩, (htx _ kw_3_206), (htx _ kw_3_207)⟩ ⟨xPre_blind, va_recv hK hP (ci := 2) rfl (q0 := 0) rfl, (fun U hU hW => ⟨rfl, xPre_of hZ hS hFc hPc hDc hK U hU hW⟩)⟩ rfl rfl hl.1 rfl (lv_room (Nat.le_of_ble_eq_true rfl)) dA_putPieces_54 ⟨Nat.le_of_ble_eq_true rfl, Nat.le_of_ble_eq_true rfl⟩) hS (fun q _ h => hFc q h) hFc (fun u9 t H1 locs ht hvm hr9 hB hz1 hk1 hS => ?_)
          obtain ⟨hP1, hK1, hD1⟩ := hB
          rw [ht] at hP1
          obtain ⟨hP, hD⟩ := xjoin (W := [(a2, .inr (2, [.ref a3, .int o7.2.1, .int o7.2.2])), (a3, .inl (cT 2, 4096, .inr (.inl o7.1))), (a0, .inr (2, [.ref a1, .int v1, .int v2])), (a1, .inl (cT 2, 4096, .inr (.inl f0)))]) hP hD [0, 1, 2, 3] [] 0 rfl rfl (by decide) (by decide) hk1 hFc hP1 hD1
          generalize H1 = H at hP hS ⊢
          refine lv_iload hx hb dA_putPieces_57 (lv_at hl 0 rfl) ?_
          refine lv_aload_n hx hb dA_putPieces_59 rfl (lv_at hl 4 rfl) ?_
          refine lv_iconst (v := 0) hx hb dA_putPieces_60 (by decide) ?_
          obtain ⟨o9, hq10, hf⟩ := xbind hf
          obtain ⟨hPc, hDc, hFc⟩ := xcut (wc := [(a0, .inr (2, [.ref a1, .int v1, .int v2])), (a1, .inl (cT 2, 4096, .inr (.inl f0)))]) hP hD hS hA [2, 3] rfl rfl (by decide)
          refine va_calli (va_runV (C := "ValueBench$Row") (As := [.int 0]) (rest := [.int y5]) ⟨hx, hb, hml, hown, htx⟩ (gR_length l hl9 D cT aK aV H.size n a0 a1 (0 : Int32) f0 v1 v2 o9 hq10) ⟨callB_of 1 htx (xw_goodC kw_2_191) rfl rfl rfl (htx _ kw_1_4) (htx _ kw_3_143) ⟨by decide, by decide, by decide +kernel⟩ ⟨Nat.le_of_ble_eq_true rfl, Nat.le_of_ble_eq_true rfl⟩, (htx _ kw_2_189), (htx _ kw_2_190)⟩ ⟨xPre_blind, va_recv hK hP (ci := 2) rfl (q0 := 2) rfl, (fun U hU hW => ⟨rfl, xPre_of hZ hS hFc hPc hDc hK U hU hW⟩)⟩ rfl rfl hl.1 rfl (lv_room (Nat.le_of_ble_eq_true rfl)) dA_putPieces_61 ⟨Nat.le_of_ble_eq_true rfl, Nat.le_of_ble_eq_true rfl⟩) hS (fun q _ h => hFc q h) hFc (fun r11 u9 t H1 locs ht hvm hr9 hB hz1 hk1 hS => ?_)
          obtain ⟨hP1, hK1, hD1⟩ := hB
          rw [ht] at hP1
          obtain ⟨hP, hD⟩ := xjoin (W := [(a2, .inr (2, [.ref a3, .int o7.2.1, .int o7.2.2])), (a3, .inl (cT 2, 4096, .inr (.inl o7.1))), (a0, .inr (2, [.ref a1, .int v1, .int v2])), (a1, .inl (cT 2, 4096, .inr (.inl f0)))]) hP hD [2, 3] [0, 1] 2 rfl rfl (by decide) (by decide) hk1 hFc hP1 hD1
          generalize H1 = H at hP hS ⊢
          rw [hr9]
          refine W.eq (g2 := F0 m 64 ls [.int o9, .int y5]) rfl ?_
          refine lv_iadd hx hb dA_putPieces_64 ?_
          refine lv_istore (lv' := [(4, .int (y5 + o9)), (5, .int y5), (3, .int y3), (0, .ref a0), (1, .ref a0), (2, .ref a2)]) hx hb dA_putPieces_65 hl (by decide) rfl (fun ls hl => ?_)
          refine lv_iinc (v := (y3 + 1)) (lv' := [(3, .int (y3 + 1)), (4, .int (y5 + o9)), (5, .int y5), (0, .ref a0), (1, .ref a0), (2, .ref a2)]) hx hb dA_putPieces_67 hl (k := 2) rfl rfl (by decide) rfl (fun ls hl => ?_)
          refine lv_iinc (v := (y5 + 1)) (lv' := [(5, .int (y5 + 1)), (3, .int (y3 + 1)), (4, .int (y5 + o9)), (0, .ref a0), (1, .ref a0), (2, .ref a2)]) hx hb dA_putPieces_70 hl (k := 2) rfl rfl (by decide) rfl (fun ls hl => ?_)
          refine lv_goto (tgt := 18) hx hb dA_putPieces_73 (by decide) ?_
          obtain ⟨hP9, hD9⟩ := xsub (wc := [(a0, .inr (2, [.ref a1, .int v1, .int v2])), (a1, .inl (cT 2, 4096, .inr (.inl f0))), (a2, .inr (2, [.ref a3, .int o7.2.1, .int o7.2.2])), (a3, .inl (cT 2, 4096, .inr (.inl o7.1)))]) hP hD [2, 3, 0, 1] rfl rfl (by decide)
          exact ih (1, (y5 + 1), (y5 + o9), (y3 + 1), o7.1, o7.2.1, o7.2.2) _ _ ls (⟨rfl, hf, hP9, hD9, hS, lv_sub hl [0, 2, 1, 3, 4, 5] rfl⟩)
  refine lv_aload_n hx hb dA_putPieces_0 rfl (lv_at hl 0 rfl) ?_
  refine lv_iconst (v := 0) hx hb dA_putPieces_1 (by decide) ?_
  obtain ⟨o1, hq2, hf⟩ := xbind hf
  obtain ⟨hPc, hDc, hFc⟩ := xcut (wc := [(a0, .inr (2, [.ref a1, .int v1, .int v2])), (a1, .inl (cT 2, 4096, .inr (.inl f0)))]) hP hD hS hA [0, 1] rfl rfl (by decide)
  refine va_calli (va_runV (C := "ValueBench$Row") (As := [.int 0]) (rest := []) ⟨hx, hb, hml, hown, htx⟩ (gR_length l hl9 D cT aK aV s.heap.size n a0 a1 (0 : Int32) f0 v1 v2 o1 hq2) ⟨callB_of 1 htx (xw_goodC kw_2_191) rfl rfl rfl (htx _ kw_1_4) (htx _ kw_3_143) ⟨by decide, by decide, by decide +kernel⟩ ⟨Nat.le_of_ble_eq_true rfl, Nat.le_of_ble_eq_true rfl⟩, (htx _ kw_2_189), (htx _ kw_2_190)⟩ ⟨xPre_blind, va_recv hK hP (ci := 2) rfl (q0 := 0) rfl, (fun U hU hW => ⟨rfl, xPre_of hZ hS hFc hPc hDc hK U hU hW⟩)⟩ rfl rfl hl.1 rfl (lv_room (Nat.le_of_ble_eq_true rfl)) dA_putPieces_2 ⟨Nat.le_of_ble_eq_true rfl, Nat.le_of_ble_eq_true rfl⟩) hS (fun q _ h => hFc q h) hFc (fun r3 u9 t H1 locs ht hvm hr9 hB hz1 hk1 hS => ?_)
  obtain ⟨hP1, hK1, hD1⟩ := hB
  rw [ht] at hP1
  obtain ⟨hP, hD⟩ := xjoin (W := [(a2, .inr (2, [.ref a3, .int v4, .int v5])), (a3, .inl (cT 2, 4096, .inr (.inl f3))), (a0, .inr (2, [.ref a1, .int v1, .int v2])), (a1, .inl (cT 2, 4096, .inr (.inl f0)))]) hP hD [0, 1] [2, 3] 2 rfl rfl (by decide) (by decide) hk1 hFc hP1 hD1
  generalize H1 = H at hP hS ⊢
  rw [hr9]
  refine W.eq (g2 := F0 m 5 ls [.int o1]) rfl ?_
  refine lv_if_ne (tgt := 10) hx hb dA_putPieces_5 (by decide) (fun hc => ?_) (fun hc => ?_)
  · rw [if_neg hc] at hf
    refine lv_iconst (v := 1) hx hb dA_putPieces_10 (by decide) ?_
    refine lv_istore_n (lv' := [(3, .int 1), (0, .ref a0), (1, .ref a0), (2, .ref a2)]) hx hb dA_putPieces_11 rfl hl (by decide) rfl (fun ls hl => ?_)
    refine lv_iconst (v := 0) hx hb dA_putPieces_12 (by decide) ?_
    refine lv_istore (lv' := [(4, .int 0), (3, .int 1), (0, .ref a0), (1, .ref a0), (2, .ref a2)]) hx hb dA_putPieces_13 hl (by decide) rfl (fun ls hl => ?_)
    refine lv_iconst (v := 0) hx hb dA_putPieces_15 (by decide) ?_
    refine lv_istore (lv' := [(5, .int 0), (4, .int 0), (3, .int 1), (0, .ref a0), (1, .ref a0), (2, .ref a2)]) hx hb dA_putPieces_16 hl (by decide) rfl (fun ls hl => ?_)
    obtain ⟨hP9, hD9⟩ := xsub (wc := [(a0, .inr (2, [.ref a1, .int v1, .int v2])), (a1, .inl (cT 2, 4096, .inr (.inl f0))), (a2, .inr (2, [.ref a3, .int v4, .int v5])), (a3, .inl (cT 2, 4096, .inr (.inl f3)))]) hP hD [2, 3, 0, 1] rfl rfl (by decide)
    exact key n (1, 0, 0, 1, f3, v4, v5) _ _ ls (⟨rfl, hf, hP9, hD9, hS, lv_sub hl [0, 1, 2, 3, 4, 5] rfl⟩)
  · rw [if_pos hc] at hf
    refine lv_iconst (v := 0) hx hb dA_putPieces_8 (by decide) ?_
    obtain rfl := Option.some.inj hf
    obtain ⟨hP9, hD9⟩ := xsub (wc := [(a0, .inr (2, [.ref a1, .int v1, .int v2])), (a1, .inl (cT 2, 4096, .inr (.inl f0))), (a2, .inr (2, [.ref a3, .int v4, .int v5])), (a3, .inl (cT 2, 4096, .inr (.inl f3)))]) hP hD [2, 3, 0, 1] rfl rfl (by decide)
    exact W.iret (v := (0 : Int32)) hx hb hr (fun t ht hW => ⟨⟨(0 : Int32), (), rfl, rfl, by rw [ht]; exact hP9, va_K.moved hW.alike hK, hD9⟩, hS.F ht⟩) hS.2.2 dA_putPieces_9
set_option maxHeartbeats 400000000 in
set_option maxRecDepth 100000 in
theorem gA_piecesa (l : Launch) (hl9 : l.stackTraces = false) (D : va_G) (cT : Nat → ClassId) (aK aV : Nat → Nat) (sz n : Nat) (a0 : Nat) (a1 : Nat) (a2 : Nat) (a3 : Nat) (f0 : Nat → Int64) (v1 : Int32) (v2 : Int32) (f3 : Nat → Int64) (v4 : Int32) (v5 : Int32) (out : Int32 × (Nat → Int64) × Int32 × Int32) (hf : fA_piecesa n f0 v1 v2 f3 v4 v5 = some out) : xMet l yA_pieces wyA_pieces 4 0 0 133 D cT aK aV sz [.ref a0, .ref a0, .ref a2] [(a0, .inr (2, [.ref a1, .int v1, .int v2])), (a1, .inl (cT 2, 4096, .inr (.inl f0))), (a2, .inr (2, [.ref a3, .int v4, .int v5])), (a3, .inl (cT 2, 4096, .inr (.inl f3)))] (fun A => va_Qi (fun (r : Int32) (_ : Unit) => r = out.1) (fun _ t => xB D xcl cT A [(a0, .inr (2, [.ref a1, .int v1, .int v2])), (a1, .inl (cT 2, 4096, .inr (.inl f0))), (a2, .inr (2, [.ref a3, .int out.2.2.1, .int out.2.2.2])), (a3, .inl (cT 2, 4096, .inr (.inl out.2.1)))] t) A) := by
  refine Met.ofW (cc := prog_3_method_14_code) (maxL := 5) (ret := (some .int)) (by decide) rfl ?_
  intro p e s m args below meth c s₁ B hml hv
  obtain ⟨rfl, hsz, hZ, hP, hK, hD0⟩ := hv
  have hx := B.exec
  have hb := B.bytes
  have hr := B.returns
  have hts := atoms_spec (ws := wyA_pieces) B.pre
  have htx := fun w h => hts w (List.mem_cons_of_mem _ h)
  have hown : s.vm.findClass "ValueBench$Operators" = some m.cls := findClass_of_methodNamed B.named
  have hlocks := B.notSynchronized
  subst hsz
  have hD := hD0.self (sz := s.heap.size)
  generalize hAe : va_A [(a0, .inr (2, [.ref a1, .int v1, .int v2])), (a1, .inl (cT 2, 4096, .inr (.inl f0))), (a2, .inr (2, [.ref a3, .int v4, .int v5])), (a3, .inl (cT 2, 4096, .inr (.inl f3)))] s.heap.size = A at hD hZ ⊢
  have hA : ∀ q : Nat, s.heap.size ≤ q → A q := fun q h => by rw [← hAe]; exact Or.inr h
  have hS : va_S A s.heap s.heap [] := va_S.rf
  have hP : va_P D xcl [(a0, .inr (2, [.ref a1, .int v1, .int v2])), (a1, .inl (cT 2, 4096, .inr (.inl f0))), (a2, .inr (2, [.ref a3, .int v4, .int v5])), (a3, .inl (cT 2, 4096, .inr (.inl f3)))] s.heap := hP
  have hl := lv_entry ([.ref a0, .ref a0, .ref a2]) (n := 5) (Nat.le_of_ble_eq_true rfl)
  rw [lg_entry_eq]
  generalize (lg_sl ([.ref a0, .ref a0, .ref a2]) ++ List.replicate (5 - (lg_sl ([.ref a0, .ref a0, .ref a2])).length) Slot.unset).toArray = ls at hl ⊢
  have hl : lv_has ls 5 [(0, .ref a0), (1, .ref a0), (2, .ref a2)] := hl
  unfold fA_piecesa at hf
  refine lv_aload_n hx hb dA_pieces_0 rfl (lv_at hl 0 rfl) ?_
  refine lv_iconst (v := 0) hx hb dA_pieces_1 (by decide) ?_
  refine lv_iconst (v := 4) hx hb dA_pieces_2 (by decide) ?_
  obtain ⟨o1, hq2, hf⟩ := xbind hf
  obtain ⟨hPc, hDc, hFc⟩ := xcut (wc := [(a0, .inr (2, [.ref a1, .int v1, .int v2])), (a1, .inl (cT 2, 4096, .inr (.inl f0)))]) hP hD hS hA [0, 1] rfl rfl (by decide)
  refine va_calli (va_runV (C := "ValueBench$Row") (As := [.int 0, .int 4]) (rest := []) ⟨hx, hb, hml, hown, htx⟩ (gR_is l hl9 D cT aK aV s.heap.size n a0 a1 (0 : Int32) (4 : Int32) f0 v1 v2 o1 hq2) ⟨callB_of 2 htx (xw_goodC kw_3_75) rfl rfl rfl (htx _ kw_1_4) (htx _ kw_3_106) ⟨by decide, by decide, by decide +kernel⟩ ⟨Nat.le_of_ble_eq_true rfl, Nat.le_of_ble_eq_true rfl⟩, (htx _ kw_3_73), (htx _ kw_3_74)⟩ ⟨xPre_blind, va_recv hK hP (ci := 2) rfl (q0 := 0) rfl, (fun U hU hW => ⟨rfl, xPre_of hZ hS hFc hPc hDc hK U hU hW⟩)⟩ rfl rfl hl.1 rfl (lv_room (Nat.le_of_ble_eq_true rfl)) dA_pieces_3 ⟨Nat.le_of_ble_eq_true rfl, Nat.le_of_ble_eq_true rfl⟩) hS (fun q _ h => hFc q h) hFc (fun r3 u9 t H1 locs ht hvm hr9 hB hz1 hk1 hS => ?_)
  obtain ⟨hP1, hK1, hD1⟩ := hB
  rw [ht] at hP1
  obtain ⟨hP, hD⟩ := xjoin (W := [(a2, .inr (2, [.ref a3, .int v4, .int v5])), (a3, .inl (cT 2, 4096, .inr (.inl f3))), (a0, .inr (2, [.ref a1, .int v1, .int v2])), (a1, .inl (cT 2, 4096, .inr (.inl f0)))]) hP hD [0, 1] [2, 3] 2 rfl rfl (by decide) (by decide) hk1 hFc hP1 hD1
  generalize H1 = H at hP hS ⊢
  rw [hr9]
  refine W.eq (g2 := F0 m 6 ls [.int o1]) rfl ?_
  refine lv_if_eq (tgt := 18) hx hb dA_pieces_6 (by decide) (fun hc => ?_) (fun hc => ?_)
  · rw [if_pos hc] at hf
    refine lv_iconst (v := 1) hx hb dA_pieces_18 (by decide) ?_
    obtain rfl := Option.some.inj hf
    obtain ⟨hP9, hD9⟩ := xsub (wc := [(a0, .inr (2, [.ref a1, .int v1, .int v2])), (a1, .inl (cT 2, 4096, .inr (.inl f0))), (a2, .inr (2, [.ref a3, .int v4, .int v5])), (a3, .inl (cT 2, 4096, .inr (.inl f3)))]) hP hD [2, 3, 0, 1] rfl rfl (by decide)
    exact W.iret (v := (1 : Int32)) hx hb hr (fun t ht hW => ⟨⟨(1 : Int32), (), rfl, rfl, by rw [ht]; exact hP9, va_K.moved hW.alike hK, hD9⟩, hS.F ht⟩) hS.2.2 dA_pieces_19
  · rw [if_neg hc] at hf
    refine lv_aload_n hx hb dA_pieces_9 rfl (lv_at hl 1 rfl) ?_
    refine lv_iconst (v := 0) hx hb dA_pieces_10 (by decide) ?_
    refine lv_iconst (v := 4) hx hb dA_pieces_11 (by decide) ?_
    obtain ⟨o4, hq5, hf⟩ := xbind hf
    obtain ⟨hPc, hDc, hFc⟩ := xcut (wc := [(a0, .inr (2, [.ref a1, .int v1, .int v2])), (a1, .inl (cT 2, 4096, .inr (.inl f0)))]) hP hD hS hA [2, 3] rfl rfl (by decide)
    refine va_calli (va_runV (C := "ValueBench$Row") (As := [.int 0, .int 4]) (rest := []) ⟨hx, hb, hml, hown, htx⟩ (gR_is l hl9 D cT aK aV H.size n a0 a1 (0 : Int32) (4 : Int32) f0 v1 v2 o4 hq5) ⟨callB_of 2 htx (xw_goodC kw_3_75) rfl rfl rfl (htx _ kw_1_4) (htx _ kw_3_106) ⟨by decide, by decide, by decide +kernel⟩ ⟨Nat.le_of_ble_eq_true rfl, Nat.le_of_ble_eq_true rfl⟩, (htx _ kw_3_73), (htx _ kw_3_74)⟩ ⟨xPre_blind, va_recv hK hP (ci := 2) rfl (q0 := 2) rfl, (fun U hU hW => ⟨rfl, xPre_of hZ hS hFc hPc hDc hK U hU hW⟩)⟩ rfl rfl hl.1 rfl (lv_room (Nat.le_of_ble_eq_true rfl)) dA_pieces_12 ⟨Nat.le_of_ble_eq_true rfl, Nat.le_of_ble_eq_true rfl⟩) hS (fun q _ h => hFc q h) hFc (fun r6 u9 t H1 locs ht hvm hr9 hB hz1 hk1 hS => ?_)
    obtain ⟨hP1, hK1, hD1⟩ := hB
    rw [ht] at hP1
    obtain ⟨hP, hD⟩ := xjoin (W := [(a2, .inr (2, [.ref a3, .int v4, .int v5])), (a3, .inl (cT 2, 4096, .inr (.inl f3))), (a0, .inr (2, [.ref a1, .int v1, .int v2])), (a1, .inl (cT 2, 4096, .inr (.inl f0)))]) hP hD [2, 3] [0, 1] 2 rfl rfl (by decide) (by decide) hk1 hFc hP1 hD1
    generalize H1 = H at hP hS ⊢
    rw [hr9]
    refine W.eq (g2 := F0 m 15 ls [.int o4]) rfl ?_
    refine lv_if_ne (tgt := 20) hx hb dA_pieces_15 (by decide) (fun hc => ?_) (fun hc => ?_)
    · rw [if_neg hc] at hf
      refine lv_aload_n hx hb dA_pieces_20 rfl (lv_at hl 2 rfl) ?_
      obtain ⟨o7, hq8, hf⟩ := xbind hf
      obtain ⟨hPc, hDc, hFc⟩ := xcut (wc := [(a2, .inr (2, [.ref a3, .int v4, .int v5])), (a3, .inl (cT 2, 4096, .inr (.inl f3)))]) hP hD hS hA [0, 1] rfl rfl (by decide)
      refine va_calli (va_runV (C := "ValueBench$Row") (As := []) (rest := []) ⟨hx, hb, hml, hown, htx⟩ (gR_open l hl9 D cT aK aV H.size n a2 a3 f3 v4 v5 o7 hq8) ⟨callB_of 0 htx (xw_goodC kw_2_136) rfl rfl rfl (htx _ kw_1_4) (htx _ kw_3_138) ⟨by decide, by decide, by decide +kernel⟩ ⟨Nat.le_of_ble_eq_true rfl, Nat.le_of_ble_eq_true rfl⟩, (htx _ kw_2_134), (htx _ kw_2_135)⟩ ⟨xPre_blind, va_recv hK hP (ci := 2) rfl (q0 := 0) rfl, (fun U hU hW => ⟨rfl, xPre_of hZ hS hFc hPc hDc hK U hU hW⟩)⟩ rfl rfl hl.1 rfl (lv_room (Nat.le_of_ble_eq_true rfl)) dA_pieces_21 ⟨Nat.le_of_ble_eq_true rfl, Nat.le_of_ble_eq_true rfl⟩) hS (fun q _ h => hFc q h) hFc (fun r9 u9 t H1 locs ht hvm hr9 hB hz1 hk1 hS => ?_)
      obtain ⟨hP1, hK1, hD1⟩ := hB
      rw [ht] at hP1
      obtain ⟨hP, hD⟩ := xjoin (W := [(a0, .inr (2, [.ref a1, .int v1, .int v2])), (a1, .inl (cT 2, 4096, .inr (.inl f0))), (a2, .inr (2, [.ref a3, .int o7.2.2.1, .int o7.2.2.2])), (a3, .inl (cT 2, 4096, .inr (.inl o7.2.1)))]) hP hD [0, 1] [2, 3] 2 rfl rfl (by decide) (by decide) hk1 hFc hP1 hD1
      generalize H1 = H at hP hS ⊢
      rw [hr9]
      refine W.eq (g2 := F0 m 24 ls [.int o7.1]) rfl ?_
      refine lv_istore_n (lv' := [(3, .int o7.1), (0, .ref a0), (1, .ref a0), (2, .ref a2)]) hx hb dA_pieces_24 rfl hl (by decide) rfl (fun ls hl => ?_)
      refine lv_aload_n hx hb dA_pieces_25 rfl (lv_at hl 2 rfl) ?_
      refine lv_iconst (v := 0) hx hb dA_pieces_26 (by decide) ?_
      obtain ⟨o10, hq11, hf⟩ := xbind hf
      obtain ⟨hPc, hDc, hFc⟩ := xcut (wc := [(a0, .inr (2, [.ref a1, .int v1, .int v2])), (a1, .inl (cT 2, 4096, .inr (.inl f0)))]) hP hD hS hA [0, 1] rfl rfl (by decide)
      refine va_calli (va_runV (C := "ValueBench$Row") (As := [.int 0]) (rest := []) ⟨hx, hb, hml, hown, htx⟩ (gR_length l hl9 D cT aK aV H.size n a0 a1 (0 : Int32) f0 v1 v2 o10 hq11) ⟨callB_of 1 htx (xw_goodC kw_2_191) rfl rfl rfl (htx _ kw_1_4) (htx _ kw_3_143) ⟨by decide, by decide, by decide +kernel⟩ ⟨Nat.le_of_ble_eq_true rfl, Nat.le_of_ble_eq_true rfl⟩, (htx _ kw_2_189), (htx _ kw_2_190)⟩ ⟨xPre_blind, va_recv hK hP (ci := 2) rfl (q0 := 0) rfl, (fun U hU hW => ⟨rfl, xPre_of hZ hS hFc hPc hDc hK U hU hW⟩)⟩ rfl rfl hl.1 rfl (lv_room (Nat.le_of_ble_eq_true rfl)) dA_pieces_27 ⟨Nat.le_of_ble_eq_true rfl, Nat.le_of_ble_eq_true rfl⟩) hS (fun q _ h => hFc q h) hFc (fun r12 u9 t H1 locs ht hvm hr9 hB hz1 hk1 hS => ?_)
      obtain ⟨hP1, hK1, hD1⟩ := hB
      rw [ht] at hP1
      obtain ⟨hP, hD⟩ := xjoin (W := [(a2, .inr (2, [.ref a3, .int o7.2.2.1, .int o7.2.2.2])), (a3, .inl (cT 2, 4096, .inr (.inl o7.2.1))), (a0, .inr (2, [.ref a1, .int v1, .int v2])), (a1, .inl (cT 2, 4096, .inr (.inl f0)))]) hP hD [0, 1] [2, 3] 2 rfl rfl (by decide) (by decide) hk1 hFc hP1 hD1
      generalize H1 = H at hP hS ⊢
      rw [hr9]
      refine W.eq (g2 := F0 m 30 ls [.int o10]) rfl ?_
      refine lv_if_ne (tgt := 41) hx hb dA_pieces_30 (by decide) (fun hc => ?_) (fun hc => ?_)
      · rw [if_neg hc] at hf
        refine lv_aload_n hx hb dA_pieces_41 rfl (lv_at hl 1 rfl) ?_
        refine lv_aload_n hx hb dA_pieces_42 rfl (lv_at hl 2 rfl) ?_
        refine lv_aload_n hx hb dA_pieces_43 rfl (lv_at hl 3 rfl) ?_
        obtain ⟨o13, hq14, hf⟩ := xbind hf
        obtain ⟨hPc, hDc, hFc⟩ := xcut (wc := [(a0, .inr (2, [.ref a1, .int v1, .int v2])), (a1, .inl (cT 2, 4096, .inr (.inl f0))), (a2, .inr (2, [.ref a3, .int o7.2.2.1, .int o7.2.2.2])), (a3, .inl (cT 2, 4096, .inr (.inl o7.2.1)))]) hP hD hS hA [2, 3, 0, 1] rfl rfl (by decide)
        refine va_calli (va_runS (As := [.ref a0, .ref a0, .ref a2]) (rest := []) ⟨hx, hb, hml, hown, htx⟩ (gA_putPiecesa l hl9 D cT aK aV H.size n a0 a1 a2 a3 f0 v1 v2 o7.2.1 o7.2.2.1 o7.2.2.2 o13 hq14) ⟨callB_of 3 htx (xw_goodC kw_3_213) rfl rfl rfl (htx _ kw_1_21) (htx _ kw_3_211) ⟨by decide, by decide, by decide +kernel⟩ ⟨Nat.le_of_ble_eq_true rfl, Nat.le_of_ble_eq_true rfl⟩, htx _ kw_3_212⟩ ⟨xPre_blind, (fun U hU hW => ⟨rfl, xPre_of hZ hS hFc hPc hDc hK U hU hW⟩)⟩ rfl rfl hl.1 rfl (lv_room (Nat.le_of_ble_eq_true rfl)) dA_pieces_44 ⟨Nat.le_of_ble_eq_true rfl, Nat.le_of_ble_eq_true rfl⟩) hS (fun q _ h => hFc q h) hFc (fun r15 u9 t H1 locs ht hvm hr9 hB hz1 hk1 hS => ?_)
        obtain ⟨hP1, hK1, hD1⟩ := hB
        rw [ht] at hP1
        obtain ⟨hP, hD⟩ := xjoin (W := [(a0, .inr (2, [.ref a1, .int v1, .int v2])), (a1, .inl (cT 2, 4096, .inr (.inl f0))), (a2, .inr (2, [.ref a3, .int o13.2.2.1, .int o13.2.2.2])), (a3, .inl (cT 2, 4096, .inr (.inl o13.2.1)))]) hP hD [2, 3, 0, 1] [] 0 rfl rfl (by decide) (by decide) hk1 hFc hP1 hD1
        generalize H1 = H at hP hS ⊢
        rw [hr9]
        refine W.eq (g2 := F0 m 47 ls [.int o13.1]) rfl ?_
        refine lv_istore (lv' := [(4, .int o13.1), (3, .int o7.1), (0, .ref a0), (1, .ref a0), (2, .ref a2)]) hx hb dA_pieces_47 hl (by decide) rfl (fun ls hl => ?_)
        refine lv_aload_n hx hb dA_pieces_49 rfl (lv_at hl 4 rfl) ?_
        refine lv_iload_n hx hb dA_pieces_50 rfl (lv_at hl 1 rfl) ?_
        refine lv_iconst (v := 5) hx hb dA_pieces_51 (by decide) ?_
        refine lv_iload hx hb dA_pieces_52 (lv_at hl 0 rfl) ?_
        obtain ⟨o16, hq17, hf⟩ := xbind hf
        obtain ⟨hPc, hDc, hFc⟩ := xcut (wc := [(a2, .inr (2, [.ref a3, .int o13.2.2.1, .int o13.2.2.2])), (a3, .inl (cT 2, 4096, .inr (.inl o13.2.1)))]) hP hD hS hA [2, 3] rfl rfl (by decide)
        refine va_callv (va_runV (C := "ValueBench$Row") (As := [.int o7.1, .int 5, .int o13.1]) (rest := []) ⟨hx, hb, hml, hown, htx⟩ (gR_close l hl9 D cT aK aV H.size n a2 a3 o7.1 (5 : Int32) o13.1 o13.2.1 o13.2.2.1 o13.2.2.2 o16 hq17) ⟨callB_of 3 htx (xw_goodC kw_2_167) rfl rfl rfl (htx _ kw_1_4) (htx _ kw_3_144) ⟨by decide, by decide, by decide +kernel⟩ ⟨Nat.le_of_ble_eq_true rfl, Nat.le_of_ble_eq_true rfl⟩, (htx _ kw_2_165), (htx _ kw_2_166)⟩ ⟨xPre_blind, va_recv hK hP (ci := 2) rfl (q0 := 2) rfl, (fun U hU hW => ⟨rfl, xPre_of hZ hS hFc hPc hDc hK U hU hW⟩)⟩ rfl rfl hl.1 rfl (lv_room (Nat.le_of_ble_eq_true rfl)) dA_pieces_54 ⟨Nat.le_of_ble_eq_true rfl, Nat.le_of_ble_eq_true rfl⟩) hS (fun q _ h => hFc q h) hFc (fun u9 t H1 locs ht hvm hr9 hB hz1 hk1 hS => ?_)
        obtain ⟨hP1, hK1, hD1⟩ := hB
        rw [ht] at hP1
        obtain ⟨hP, hD⟩ := xjoin (W := [(a0, .inr (2, [.ref a1, .int v1, .int v2])), (a1, .inl (cT 2, 4096, .inr (.inl f0))), (a2, .inr (2, [.ref a3, .int o13.2.2.1, .int o13.2.2.2])), (a3, .inl (cT 2, 4096, .inr (.inl o16)))]) hP hD [2, 3] [0, 1] 2 rfl rfl (by decide) (by decide) hk1 hFc hP1 hD1
        generalize H1 = H at hP hS ⊢
        refine lv_iconst (v := 0) hx hb dA_pieces_57 (by decide) ?_
        obtain rfl := Option.some.inj hf
        obtain ⟨hP9, hD9⟩ := xsub (wc := [(a0, .inr (2, [.ref a1, .int v1, .int v2])), (a1, .inl (cT 2, 4096, .inr (.inl f0))), (a2, .inr (2, [.ref a3, .int o13.2.2.1, .int o13.2.2.2])), (a3, .inl (cT 2, 4096, .inr (.inl o16)))]) hP hD [0, 1, 2, 3] rfl rfl (by decide)
        exact W.iret (v := (0 : Int32)) hx hb hr (fun t ht hW => ⟨⟨(0 : Int32), (), rfl, rfl, by rw [ht]; exact hP9, va_K.moved hW.alike hK, hD9⟩, hS.F ht⟩) hS.2.2 dA_pieces_58
      · rw [if_pos hc] at hf
        refine lv_aload_n hx hb dA_pieces_33 rfl (lv_at hl 1 rfl) ?_
        refine lv_aload_n hx hb dA_pieces_34 rfl (lv_at hl 3 rfl) ?_
        obtain ⟨o13, hq14, hf⟩ := xbind hf
        obtain ⟨hPc, hDc, hFc⟩ := xcut (wc := [(a0, .inr (2, [.ref a1, .int v1, .int v2])), (a1, .inl (cT 2, 4096, .inr (.inl f0))), (a2, .inr (2, [.ref a3, .int o7.2.2.1, .int o7.2.2.2])), (a3, .inl (cT 2, 4096, .inr (.inl o7.2.1)))]) hP hD hS hA [2, 3, 0, 1] rfl rfl (by decide)
        refine va_calli (va_runS (As := [.ref a0, .ref a2]) (rest := []) ⟨hx, hb, hml, hown, htx⟩ (gA_putCharacters l hl9 D cT aK aV H.size n a0 a1 a2 a3 f0 v1 v2 o7.2.1 o7.2.2.1 o7.2.2.2 o13 hq14) ⟨callB_of 2 htx (xw_goodC kw_3_204) rfl rfl rfl (htx _ kw_1_21) (htx _ kw_3_202) ⟨by decide, by decide, by decide +kernel⟩ ⟨Nat.le_of_ble_eq_true rfl, Nat.le_of_ble_eq_true rfl⟩, htx _ kw_3_203⟩ ⟨xPre_blind, (fun U hU hW => ⟨rfl, xPre_of hZ hS hFc hPc hDc hK U hU hW⟩)⟩ rfl rfl hl.1 rfl (lv_room (Nat.le_of_ble_eq_true rfl)) dA_pieces_35 ⟨Nat.le_of_ble_eq_true rfl, Nat.le_of_ble_eq_true rfl⟩) hS (fun q _ h => hFc q h) hFc (fun r15 u9 t H1 locs ht hvm hr9 hB hz1 hk1 hS => ?_)
        obtain ⟨hP1, hK1, hD1⟩ := hB
        rw [ht] at hP1
        obtain ⟨hP, hD⟩ := xjoin (W := [(a0, .inr (2, [.ref a1, .int v1, .int v2])), (a1, .inl (cT 2, 4096, .inr (.inl f0))), (a2, .inr (2, [.ref a3, .int o13.2.2.1, .int o13.2.2.2])), (a3, .inl (cT 2, 4096, .inr (.inl o13.2.1)))]) hP hD [2, 3, 0, 1] [] 0 rfl rfl (by decide) (by decide) hk1 hFc hP1 hD1
        generalize H1 = H at hP hS ⊢
        rw [hr9]
        refine W.eq (g2 := F0 m 38 ls [.int o13.1]) rfl ?_
        refine lv_goto (tgt := 47) hx hb dA_pieces_38 (by decide) ?_
        refine lv_istore (lv' := [(4, .int o13.1), (3, .int o7.1), (0, .ref a0), (1, .ref a0), (2, .ref a2)]) hx hb dA_pieces_47 hl (by decide) rfl (fun ls hl => ?_)
        refine lv_aload_n hx hb dA_pieces_49 rfl (lv_at hl 4 rfl) ?_
        refine lv_iload_n hx hb dA_pieces_50 rfl (lv_at hl 1 rfl) ?_
        refine lv_iconst (v := 5) hx hb dA_pieces_51 (by decide) ?_
        refine lv_iload hx hb dA_pieces_52 (lv_at hl 0 rfl) ?_
        obtain ⟨o16, hq17, hf⟩ := xbind hf
        obtain ⟨hPc, hDc, hFc⟩ := xcut (wc := [(a2, .inr (2, [.ref a3, .int o13.2.2.1, .int o13.2.2.2])), (a3, .inl (cT 2, 4096, .inr (.inl o13.2.1)))]) hP hD hS hA [2, 3] rfl rfl (by decide)
        refine va_callv (va_runV (C := "ValueBench$Row") (As := [.int o7.1, .int 5, .int o13.1]) (rest := []) ⟨hx, hb, hml, hown, htx⟩ (gR_close l hl9 D cT aK aV H.size n a2 a3 o7.1 (5 : Int32) o13.1 o13.2.1 o13.2.2.1 o13.2.2.2 o16 hq17) ⟨callB_of 3 htx (xw_goodC kw_2_167) rfl rfl rfl (htx _ kw_1_4) (htx _ kw_3_144) ⟨by decide, by decide, by decide +kernel⟩ ⟨Nat.le_of_ble_eq_true rfl, Nat.le_of_ble_eq_true rfl⟩, (htx _ kw_2_165), (htx _ kw_2_166)⟩ ⟨xPre_blind, va_recv hK hP (ci := 2) rfl (q0 := 2) rfl, (fun U hU hW => ⟨rfl, xPre_of hZ hS hFc hPc hDc hK U hU hW⟩)⟩ rfl rfl hl.1 rfl (lv_room (Nat.le_of_ble_eq_true rfl)) dA_pieces_54 ⟨Nat.le_of_ble_eq_true rfl, Nat.le_of_ble_eq_true rfl⟩) hS (fun q _ h => hFc q h) hFc (fun u9 t H1 locs ht hvm hr9 hB hz1 hk1 hS => ?_)
        obtain ⟨hP1, hK1, hD1⟩ := hB
        rw [ht] at hP1
        obtain ⟨hP, hD⟩ := xjoin (W := [(a0, .inr (2, [.ref a1, .int v1, .int v2])), (a1, .inl (cT 2, 4096, .inr (.inl f0))), (a2, .inr (2, [.ref a3, .int o13.2.2.1, .int o13.2.2.2])), (a3, .inl (cT 2, 4096, .inr (.inl o16)))]) hP hD [2, 3] [0, 1] 2 rfl rfl (by decide) (by decide) hk1 hFc hP1 hD1
        generalize H1 = H at hP hS ⊢
        refine lv_iconst (v := 0) hx hb dA_pieces_57 (by decide) ?_
        obtain rfl := Option.some.inj hf
        obtain ⟨hP9, hD9⟩ := xsub (wc := [(a0, .inr (2, [.ref a1, .int v1, .int v2])), (a1, .inl (cT 2, 4096, .inr (.inl f0))), (a2, .inr (2, [.ref a3, .int o13.2.2.1, .int o13.2.2.2])), (a3, .inl (cT 2, 4096, .inr (.inl o16)))]) hP hD [0, 1, 2, 3] rfl rfl (by decide)
        exact W.iret (v := (0 : Int32)) hx hb hr (fun t ht hW => ⟨⟨(0 : Int32), (), rfl, rfl, by rw [ht]; exact hP9, va_K.moved hW.alike hK, hD9⟩, hS.F ht⟩) hS.2.2 dA_pieces_58
    · rw [if_pos hc] at hf
      refine lv_iconst (v := 1) hx hb dA_pieces_18 (by decide) ?_
      obtain rfl := Option.some.inj hf
      obtain ⟨hP9, hD9⟩ := xsub (wc := [(a0, .inr (2, [.ref a1, .int v1, .int v2])), (a1, .inl (cT 2, 4096, .inr (.inl f0))), (a2, .inr (2, [.ref a3, .int v4, .int v5])), (a3, .inl (cT 2, 4096, .inr (.inl f3)))]) hP hD [2, 3, 0, 1] rfl rfl (by decide)
      exact W.iret (v := (1 : Int32)) hx hb hr (fun t ht hW => ⟨⟨(1 : Int32), (), rfl, rfl, by rw [ht]; exact hP9, va_K.moved hW.alike hK, hD9⟩, hS.F ht⟩) hS.2.2 dA_pieces_19
set_option maxHeartbeats 400000000 in
set_option maxRecDepth 100000 in
theorem gA_applya (l : Launch) (hl9 : l.stackTraces = false) (D : va_G) (cT : Nat → ClassId) (aK aV : Nat → Nat) (sz d n : Nat) (a0 : Nat) (a1 : Nat) (a2 : Nat) (a3 : Nat) (x0 : Int32) (f0 : Nat → Int64) (v1 : Int32) (v2 : Int32) (f3 : Nat → Int64) (v4 : Int32) (v5 : Int32) (out : Int32 × (Nat → Int64) × Int32 × Int32) (hf : fA_applya d n x0 f0 v1 v2 f3 v4 v5 = some out) : xMet l yA_apply wyA_apply (16 * d + 5) 0 0 (400 * d + 157) D cT aK aV sz [.int x0, .ref a0, .ref a0, .ref a2] [(a0, .inr (2, [.ref a1, .int v1, .int v2])), (a1, .inl (cT 2, 4096, .inr (.inl f0))), (a2, .inr (2, [.ref a3, .int v4, .int v5])), (a3, .inl (cT 2, 4096, .inr (.inl f3)))] (fun A => va_Qi (fun (r : Int32) (_ : Unit) => r = out.1) (fun _ t => xB D xcl cT A [(a0, .inr (2, [.ref a1, .int v1, .int v2])), (a1, .inl (cT 2, 4096, .inr (.inl f0))), (a2, .inr (2, [.ref a3, .int out.2.2.1, .int out.2.2.2])), (a3, .inl (cT 2, 4096, .inr (.inl out.2.1)))] t) A) := by
  refine Met.ofW (cc := prog_3_method_2_code) (maxL := 4) (ret := (some .int)) (by decide) rfl ?_
  intro p e s m args below meth c s₁ B hml hv
  obtain ⟨rfl, hsz, hZ, hP, hK, hD0⟩ := hv
  have hx := B.exec
  have hb := B.bytes
  have hr := B.returns
  have hts := atoms_spec (ws := wyA_apply) B.pre
  have htx := fun w h => hts w (List.mem_cons_of_mem _ h)
  have hown : s.vm.findClass "ValueBench$Operators" = some m.cls := findClass_of_methodNamed B.named
  have hlocks := B.notSynchronized
  subst hsz
  have hD := hD0.self (sz := s.heap.size)
  generalize hAe : va_A [(a0, .inr (2, [.ref a1, .int v1, .int v2])), (a1, .inl (cT 2, 4096, .inr (.inl f0))), (a2, .inr (2, [.ref a3, .int v4, .int v5])), (a3, .inl (cT 2, 4096, .inr (.inl f3)))] s.heap.size = A at hD hZ ⊢
  have hA : ∀ q : Nat, s.heap.size ≤ q → A q := fun q h => by rw [← hAe]; exact Or.inr h
  have hS : va_S A s.heap s.heap [] := va_S.rf
  have hP : va_P D xcl [(a0, .inr (2, [.ref a1, .int v1, .int v2])), (a1, .inl (cT 2, 4096, .inr (.inl f0))), (a2, .inr (2, [.ref a3, .int v4, .int v5])), (a3, .inl (cT 2, 4096, .inr (.inl f3)))] s.heap := hP
  have hl := lv_entry ([.int x0, .ref a0, .ref a0, .ref a2]) (n := 4) (Nat.le_of_ble_eq_true rfl)
  rw [lg_entry_eq]
  generalize (lg_sl ([.int x0, .ref a0, .ref a0, .ref a2]) ++ List.replicate (4 - (lg_sl ([.int x0, .ref a0, .ref a0, .ref a2])).length) Slot.unset).toArray = ls at hl ⊢
  have hl : lv_has ls 4 [(0, .int x0), (1, .ref a0), (2, .ref a0), (3, .ref a2)] := hl
  unfold fA_applya at hf
  refine lv_aload_n hx hb dA_apply_0 rfl (lv_at hl 1 rfl) ?_
  refine lv_iconst (v := 0) hx hb dA_apply_1 (by decide) ?_
  refine lv_iconst (v := 3) hx hb dA_apply_2 (by decide) ?_
  obtain ⟨o1, hq2, hf⟩ := xbind hf
  obtain ⟨hPc, hDc, hFc⟩ := xcut (wc := [(a0, .inr (2, [.ref a1, .int v1, .int v2])), (a1, .inl (cT 2, 4096, .inr (.inl f0)))]) hP hD hS hA [0, 1] rfl rfl (by decide)
  refine va_calli (va_runV (C := "ValueBench$Row") (As := [.int 0, .int 3]) (rest := []) ⟨hx, hb, hml, hown, htx⟩ (gR_is l hl9 D cT aK aV s.heap.size n a0 a1 (0 : Int32) (3 : Int32) f0 v1 v2 o1 hq2) ⟨callB_of 2 htx (xw_goodC kw_3_75) rfl rfl rfl (htx _ kw_1_4) (htx _ kw_3_106) ⟨by decide, by decide, by decide +kernel⟩ ⟨Nat.le_of_ble_eq_true rfl, Nat.le_of_ble_eq_true rfl⟩, (htx _ kw_3_73), (htx _ kw_3_74)⟩ ⟨xPre_blind, va_recv hK hP (ci := 2) rfl (q0 := 0) rfl, (fun U hU hW => ⟨rfl, xPre_of hZ hS hFc hPc hDc hK U hU hW⟩)⟩ rfl rfl hl.1 rfl (lv_room (Nat.le_of_ble_eq_true rfl)) dA_apply_3 ⟨Nat.le_of_ble_eq_true rfl, Nat.le_of_ble_eq_true rfl⟩) hS (fun q _ h => hFc q h) hFc (fun r3 u9 t H1 locs ht hvm hr9 hB hz1 hk1 hS => ?_)
  obtain ⟨hP1, hK1, hD1⟩ := hB
  rw [ht] at hP1
  obtain ⟨hP, hD⟩ := xjoin (W := [(a2, .inr (2, [.ref a3, .int v4, .int v5])), (a3, .inl (cT 2, 4096, .inr (.inl f3))), (a0, .inr (2, [.ref a1, .int v1, .int v2])), (a1, .inl (cT 2, 4096, .inr (.inl f0)))]) hP hD [0, 1] [2, 3] 2 rfl rfl (by decide) (by decide) hk1 hFc hP1 hD1
  generalize H1 = H at hP hS ⊢
  rw [hr9]
  refine W.eq (g2 := F0 m 6 ls [.int o1]) rfl ?_
  refine lv_if_eq (tgt := 34) hx hb dA_apply_6 (by decide) (fun hc => ?_) (fun hc => ?_)
  · rw [if_pos hc] at hf
    refine lv_iload_n hx hb dA_apply_34 rfl (lv_at hl 0 rfl) ?_
    by_cases hc4 : x0 = 0
    · rw [if_pos hc4] at hf
      refine lv_tableIn (off := 29) (tgt := 64) hx hb dA_apply_35 (by rw [hc4]; decide) (by rw [hc4]; decide) (by rw [hc4]; decide) (by decide) ?_
      refine lv_aload_n hx hb dA_apply_64 rfl (lv_at hl 1 rfl) ?_
      refine lv_aload_n hx hb dA_apply_65 rfl (lv_at hl 2 rfl) ?_
      refine lv_aload_n hx hb dA_apply_66 rfl (lv_at hl 3 rfl) ?_
      obtain ⟨o5, hq6, hf⟩ := xbind hf
      obtain ⟨hPc, hDc, hFc⟩ := xcut (wc := [(a0, .inr (2, [.ref a1, .int v1, .int v2])), (a1, .inl (cT 2, 4096, .inr (.inl f0))), (a2, .inr (2, [.ref a3, .int v4, .int v5])), (a3, .inl (cT 2, 4096, .inr (.inl f3)))]) hP hD hS hA [2, 3, 0, 1] rfl rfl (by decide)
      refine va_calli (va_runS (As := [.ref a0, .ref a0, .ref a2]) (rest := []) ⟨hx, hb, hml, hown, htx⟩ (gA_plusa l hl9 D cT aK aV H.size d n a0 a1 a2 a3 f0 v1 v2 f3 v4 v5 o5 hq6) ⟨callB_of 3 htx (xw_goodC kw_3_122) rfl rfl rfl (htx _ kw_1_21) (htx _ kw_3_120) ⟨by decide, by decide, by decide +kernel⟩ ⟨(by show (16 * d + 4) + 1 ≤ 16 * d + 5; omega), (by show 8 + (3 + 11) + (400 * d + 128) ≤ 400 * d + 157; omega)⟩, htx _ kw_3_121⟩ ⟨xPre_blind, (fun U hU hW => ⟨rfl, xPre_of hZ hS hFc hPc hDc hK U hU hW⟩)⟩ rfl rfl hl.1 rfl (lv_room (Nat.le_of_ble_eq_true rfl)) dA_apply_67 ⟨Nat.le_of_ble_eq_true rfl, Nat.le_of_ble_eq_true rfl⟩) hS (fun q _ h => hFc q h) hFc (fun r7 u9 t H1 locs ht hvm hr9 hB hz1 hk1 hS => ?_)
      obtain ⟨hP1, hK1, hD1⟩ := hB
      rw [ht] at hP1
      obtain ⟨hP, hD⟩ := xjoin (W := [(a0, .inr (2, [.ref a1, .int v1, .int v2])), (a1, .inl (cT 2, 4096, .inr (.inl f0))), (a2, .inr (2, [.ref a3, .int o5.2.2.1, .int o5.2.2.2])), (a3, .inl (cT 2, 4096, .inr (.inl o5.2.1)))]) hP hD [2, 3, 0, 1] [] 0 rfl rfl (by decide) (by decide) hk1 hFc hP1 hD1
      generalize H1 = H at hP hS ⊢
      rw [hr9]
      refine W.eq (g2 := F0 m 70 ls [.int o5.1]) rfl ?_
      obtain rfl := Option.some.inj hf
      obtain ⟨hP9, hD9⟩ := xsub (wc := [(a0, .inr (2, [.ref a1, .int v1, .int v2])), (a1, .inl (cT 2, 4096, .inr (.inl f0))), (a2, .inr (2, [.ref a3, .int o5.2.2.1, .int o5.2.2.2])), (a3, .inl (cT 2, 4096, .inr (.inl o5.2.1)))]) hP hD [0, 1, 2, 3] rfl rfl (by decide)
      exact W.iret (v := o5.1) hx hb hr (fun t ht hW => ⟨⟨o5.1, (), rfl, rfl, by rw [ht]; exact hP9, va_K.moved hW.alike hK, hD9⟩, hS.F ht⟩) hS.2.2 dA_apply_70
    rw [if_neg hc4] at hf
    by_cases hc8 : x0 = 1
    · rw [if_pos hc8] at hf
      refine lv_tableIn (off := 36) (tgt := 71) hx hb dA_apply_35 (by rw [hc8]; decide) (by rw [hc8]; decide) (by rw [hc8]; decide) (by decide) ?_
      refine lv_aload_n hx hb dA_apply_71 rfl (lv_at hl 1 rfl) ?_
      refine lv_aload_n hx hb dA_apply_72 rfl (lv_at hl 2 rfl) ?_
      refine lv_aload_n hx hb dA_apply_73 rfl (lv_at hl 3 rfl) ?_
      obtain ⟨o9, hq10, hf⟩ := xbind hf
      obtain ⟨hPc, hDc, hFc⟩ := xcut (wc := [(a0, .inr (2, [.ref a1, .int v1, .int v2])), (a1, .inl (cT 2, 4096, .inr (.inl f0))), (a2, .inr (2, [.ref a3, .int v4, .int v5])), (a3, .inl (cT 2, 4096, .inr (.inl f3)))]) hP hD hS hA [2, 3, 0, 1] rfl rfl (by decide)
      refine va_calli (va_runS (As := [.ref a0, .ref a0, .ref a2]) (rest := []) ⟨hx, hb, hml, hown, htx⟩ (gA_minusa l hl9 D cT aK aV H.size d n a0 a1 a2 a3 f0 v1 v2 f3 v4 v5 o9 hq10) ⟨callB_of 3 htx (xw_goodC kw_3_155) rfl rfl rfl (htx _ kw_1_21) (htx _ kw_3_153) ⟨by decide, by decide, by decide +kernel⟩ ⟨(by show (16 * d + 3) + 1 ≤ 16 * d + 5; omega), (by show 8 + (7 + 11) + (400 * d + 105) ≤ 400 * d + 157; omega)⟩, htx _ kw_3_154⟩ ⟨xPre_blind, (fun U hU hW => ⟨rfl, xPre_of hZ hS hFc hPc hDc hK U hU hW⟩)⟩ rfl rfl hl.1 rfl (lv_room (Nat.le_of_ble_eq_true rfl)) dA_apply_74 ⟨Nat.le_of_ble_eq_true rfl, Nat.le_of_ble_eq_true rfl⟩) hS (fun q _ h => hFc q h) hFc (fun r11 u9 t H1 locs ht hvm hr9 hB hz1 hk1 hS => ?_)
      obtain ⟨hP1, hK1, hD1⟩ := hB
      rw [ht] at hP1
      obtain ⟨hP, hD⟩ := xjoin (W := [(a0, .inr (2, [.ref a1, .int v1, .int v2])), (a1, .inl (cT 2, 4096, .inr (.inl f0))), (a2, .inr (2, [.ref a3, .int o9.2.2.1, .int o9.2.2.2])), (a3, .inl (cT 2, 4096, .inr (.inl o9.2.1)))]) hP hD [2, 3, 0, 1] [] 0 rfl rfl (by decide) (by decide) hk1 hFc hP1 hD1
      generalize H1 = H at hP hS ⊢
      rw [hr9]
      refine W.eq (g2 := F0 m 77 ls [.int o9.1]) rfl ?_
      obtain rfl := Option.some.inj hf
      obtain ⟨hP9, hD9⟩ := xsub (wc := [(a0, .inr (2, [.ref a1, .int v1, .int v2])), (a1, .inl (cT 2, 4096, .inr (.inl f0))), (a2, .inr (2, [.ref a3, .int o9.2.2.1, .int o9.2.2.2])), (a3, .inl (cT 2, 4096, .inr (.inl o9.2.1)))]) hP hD [0, 1, 2, 3] rfl rfl (by decide)
      exact W.iret (v := o9.1) hx hb hr (fun t ht hW => ⟨⟨o9.1, (), rfl, rfl, by rw [ht]; exact hP9, va_K.moved hW.alike hK, hD9⟩, hS.F ht⟩) hS.2.2 dA_apply_77
    rw [if_neg hc8] at hf
    by_cases hc12 : x0 = 2
    · rw [if_pos hc12] at hf
      refine lv_tableIn (off := 43) (tgt := 78) hx hb dA_apply_35 (by rw [hc12]; decide) (by rw [hc12]; decide) (by rw [hc12]; decide) (by decide) ?_
      refine lv_aload_n hx hb dA_apply_78 rfl (lv_at hl 1 rfl) ?_
      refine lv_aload_n hx hb dA_apply_79 rfl (lv_at hl 2 rfl) ?_
      refine lv_aload_n hx hb dA_apply_80 rfl (lv_at hl 3 rfl) ?_
      obtain ⟨o13, hq14, hf⟩ := xbind hf
      obtain ⟨hPc, hDc, hFc⟩ := xcut (wc := [(a0, .inr (2, [.ref a1, .int v1, .int v2])), (a1, .inl (cT 2, 4096, .inr (.inl f0))), (a2, .inr (2, [.ref a3, .int v4, .int v5])), (a3, .inl (cT 2, 4096, .inr (.inl f3)))]) hP hD hS hA [2, 3, 0, 1] rfl rfl (by decide)
      refine va_calli (va_runS (As := [.ref a0, .ref a0, .ref a2]) (rest := []) ⟨hx, hb, hml, hown, htx⟩ (gA_timesa l hl9 D cT aK aV H.size d n a0 a1 a2 a3 f0 v1 v2 f3 v4 v5 o13 hq14) ⟨callB_of 3 htx (xw_goodC kw_3_189) rfl rfl rfl (htx _ kw_1_21) (htx _ kw_3_187) ⟨by decide, by decide, by decide +kernel⟩ ⟨(by show (16 * d + 4) + 1 ≤ 16 * d + 5; omega), (by show 8 + (3 + 11) + (400 * d + 130) ≤ 400 * d + 157; omega)⟩, htx _ kw_3_188⟩ ⟨xPre_blind, (fun U hU hW => ⟨rfl, xPre_of hZ hS hFc hPc hDc hK U hU hW⟩)⟩ rfl rfl hl.1 rfl (lv_room (Nat.le_of_ble_eq_true rfl)) dA_apply_81 ⟨Nat.le_of_ble_eq_true rfl, Nat.le_of_ble_eq_true rfl⟩) hS (fun q _ h => hFc q h) hFc (fun r15 u9 t H1 locs ht hvm hr9 hB hz1 hk1 hS => ?_)
      obtain ⟨hP1, hK1, hD1⟩ := hB
      rw [ht] at hP1
      obtain ⟨hP, hD⟩ := xjoin (W := [(a0, .inr (2, [.ref a1, .int v1, .int v2])), (a1, .inl (cT 2, 4096, .inr (.inl f0))), (a2, .inr (2, [.ref a3, .int o13.2.2.1, .int o13.2.2.2])), (a3, .inl (cT 2, 4096, .inr (.inl o13.2.1)))]) hP hD [2, 3, 0, 1] [] 0 rfl rfl (by decide) (by decide) hk1 hFc hP1 hD1
      generalize H1 = H at hP hS ⊢
      rw [hr9]
      refine W.eq (g2 := F0 m 84 ls [.int o13.1]) rfl ?_
      obtain rfl := Option.some.inj hf
      obtain ⟨hP9, hD9⟩ := xsub (wc := [(a0, .inr (2, [.ref a1, .int v1, .int v2])), (a1, .inl (cT 2, 4096, .inr (.inl f0))), (a2, .inr (2, [.ref a3, .int o13.2.2.1, .int o13.2.2.2])), (a3, .inl (cT 2, 4096, .inr (.inl o13.2.1)))]) hP hD [0, 1, 2, 3] rfl rfl (by decide)
      exact W.iret (v := o13.1) hx hb hr (fun t ht hW => ⟨⟨o13.1, (), rfl, rfl, by rw [ht]; exact hP9, va_K.moved hW.alike hK, hD9⟩, hS.F ht⟩) hS.2.2 dA_apply_84
    rw [if_neg hc12] at hf
    by_cases hc16 : x0 = 3
    · rw [if_pos hc16] at hf
      refine lv_tableIn (off := 50) (tgt := 85) hx hb dA_apply_35 (by rw [hc16]; decide) (by rw [hc16]; decide) (by rw [hc16]; decide) (by decide) ?_
      refine lv_aload_n hx hb dA_apply_85 rfl (lv_at hl 1 rfl) ?_
      refine lv_aload_n hx hb dA_apply_86 rfl (lv_at hl 2 rfl) ?_
      refine lv_aload_n hx hb dA_apply_87 rfl (lv_at hl 3 rfl) ?_
      obtain ⟨o17, hq18, hf⟩ := xbind hf
      obtain ⟨hPc, hDc, hFc⟩ := xcut (wc := [(a0, .inr (2, [.ref a1, .int v1, .int v2])), (a1, .inl (cT 2, 4096, .inr (.inl f0))), (a2, .inr (2, [.ref a3, .int v4, .int v5])), (a3, .inl (cT 2, 4096, .inr (.inl f3)))]) hP hD hS hA [2, 3, 0, 1] rfl rfl (by decide)
      refine va_calli (va_runS (As := [.ref a0, .ref a0, .ref a2]) (rest := []) ⟨hx, hb, hml, hown, htx⟩ (gA_piecesa l hl9 D cT aK aV H.size n a0 a1 a2 a3 f0 v1 v2 f3 v4 v5 o17 hq18) ⟨callB_of 3 htx (xw_goodC kw_3_201) rfl rfl rfl (htx _ kw_1_21) (htx _ kw_3_199) ⟨by decide, by decide, by decide +kernel⟩ ⟨Nat.le_of_ble_eq_true rfl, Nat.le_of_ble_eq_true rfl⟩, htx _ kw_3_200⟩ ⟨xPre_blind, (fun U hU hW => ⟨rfl, xPre_of hZ hS hFc hPc hDc hK U hU hW⟩)⟩ rfl rfl hl.1 rfl (lv_room (Nat.le_of_ble_eq_true rfl)) dA_apply_88 ⟨Nat.le_of_ble_eq_true rfl, Nat.le_of_ble_eq_true rfl⟩) hS (fun q _ h => hFc q h) hFc (fun r19 u9 t H1 locs ht hvm hr9 hB hz1 hk1 hS => ?_)
      obtain ⟨hP1, hK1, hD1⟩ := hB
      rw [ht] at hP1
      obtain ⟨hP, hD⟩ := xjoin (W := [(a0, .inr (2, [.ref a1, .int v1, .int v2])), (a1, .inl (cT 2, 4096, .inr (.inl f0))), (a2, .inr (2, [.ref a3, .int o17.2.2.1, .int o17.2.2.2])), (a3, .inl (cT 2, 4096, .inr (.inl o17.2.1)))]) hP hD [2, 3, 0, 1] [] 0 rfl rfl (by decide) (by decide) hk1 hFc hP1 hD1
      generalize H1 = H at hP hS ⊢
      rw [hr9]
      refine W.eq (g2 := F0 m 91 ls [.int o17.1]) rfl ?_
      obtain rfl := Option.some.inj hf
      obtain ⟨hP9, hD9⟩ := xsub (wc := [(a0, .inr (2, [.ref a1, .int v1, .int v2])), (a1, .inl (cT 2, 4096, .inr (.inl f0))), (a2, .inr (2, [.ref a3, .int o17.2.2.1, .int o17.2.2.2])), (a3, .inl (cT 2, 4096, .inr (.inl o17.2.1)))]) hP hD [0, 1, 2, 3] rfl rfl (by decide)
      exact W.iret (v := o17.1) hx hb hr (fun t ht hW => ⟨⟨o17.1, (), rfl, rfl, by rw [ht]; exact hP9, va_K.moved hW.alike hK, hD9⟩, hS.F ht⟩) hS.2.2 dA_apply_91
    rw [if_neg hc16] at hf
    refine lv_tableOut (tgt := 92) hx hb dA_apply_35 (by have e0 : x0.toInt ≠ 0 := xsw hc4 (by decide); have e1 : x0.toInt ≠ 1 := xsw hc8 (by decide); have e2 : x0.toInt ≠ 2 := xsw hc12 (by decide); have e3 : x0.toInt ≠ 3 := xsw hc16 (by decide); omega) (by decide) ?_
    refine lv_iconst (v := 1) hx hb dA_apply_92 (by decide) ?_
    obtain rfl := Option.some.inj hf
    obtain ⟨hP9, hD9⟩ := xsub (wc := [(a0, .inr (2, [.ref a1, .int v1, .int v2])), (a1, .inl (cT 2, 4096, .inr (.inl f0))), (a2, .inr (2, [.ref a3, .int v4, .int v5])), (a3, .inl (cT 2, 4096, .inr (.inl f3)))]) hP hD [2, 3, 0, 1] rfl rfl (by decide)
    exact W.iret (v := (1 : Int32)) hx hb hr (fun t ht hW => ⟨⟨(1 : Int32), (), rfl, rfl, by rw [ht]; exact hP9, va_K.moved hW.alike hK, hD9⟩, hS.F ht⟩) hS.2.2 dA_apply_93
  · rw [if_neg hc] at hf
    refine lv_aload_n hx hb dA_apply_9 rfl (lv_at hl 2 rfl) ?_
    refine lv_iconst (v := 0) hx hb dA_apply_10 (by decide) ?_
    refine lv_iconst (v := 3) hx hb dA_apply_11 (by decide) ?_
    obtain ⟨o4, hq5, hf⟩ := xbind hf
    obtain ⟨hPc, hDc, hFc⟩ := xcut (wc := [(a0, .inr (2, [.ref a1, .int v1, .int v2])), (a1, .inl (cT 2, 4096, .inr (.inl f0)))]) hP hD hS hA [2, 3] rfl rfl (by decide)
    refine va_calli (va_runV (C := "ValueBench$Row") (As := [.int 0, .int 3]) (rest := []) ⟨hx, hb, hml, hown, htx⟩ (gR_is l hl9 D cT aK aV H.size n a0 a1 (0 : Int32) (3 : Int32) f0 v1 v2 o4 hq5) ⟨callB_of 2 htx (xw_goodC kw_3_75) rfl rfl rfl (htx _ kw_1_4) (htx _ kw_3_106) ⟨by decide, by decide, by decide +kernel⟩ ⟨Nat.le_of_ble_eq_true rfl, Nat.le_of_ble_eq_true rfl⟩, (htx _ kw_3_73), (htx _ kw_3_74)⟩ ⟨xPre_blind, va_recv hK hP (ci := 2) rfl (q0 := 2) rfl, (fun U hU hW => ⟨rfl, xPre_of hZ hS hFc hPc hDc hK U hU hW⟩)⟩ rfl rfl hl.1 rfl (lv_room (Nat.le_of_ble_eq_true rfl)) dA_apply_12 ⟨Nat.le_of_ble_eq_true rfl, Nat.le_of_ble_eq_true rfl⟩) hS (fun q _ h => hFc q h) hFc (fun r6 u9 t H1 locs ht hvm hr9 hB hz1 hk1 hS => ?_)
    obtain ⟨hP1, hK1, hD1⟩ := hB
    rw [ht] at hP1
    obtain ⟨hP, hD⟩ := xjoin (W := [(a2, .inr (2, [.ref a3, .int v4, .int v5])), (a3, .inl (cT 2, 4096, .inr (.inl f3))), (a0, .inr (2, [.ref a1, .int v1, .int v2])), (a1, .inl (cT 2, 4096, .inr (.inl f0)))]) hP hD [2, 3] [0, 1] 2 rfl rfl (by decide) (by decide) hk1 hFc hP1 hD1
    generalize H1 = H at hP hS ⊢
    rw [hr9]
    refine W.eq (g2 := F0 m 15 ls [.int o4]) rfl ?_
    refine lv_if_eq (tgt := 34) hx hb dA_apply_15 (by decide) (fun hc => ?_) (fun hc => ?_)
    · rw [if_pos hc] at hf
      refine lv_iload_n hx hb dA_apply_34 rfl (lv_at hl 0 rfl) ?_
      by_cases hc7 : x0 = 0
      · rw [if_pos hc7] at hf
        refine lv_tableIn (off := 29) (tgt := 64) hx hb dA_apply_35 (by rw [hc7]; decide) (by rw [hc7]; decide) (by rw [hc7]; decide) (by decide) ?_
        refine lv_aload_n hx hb dA_apply_64 rfl (lv_at hl 1 rfl) ?_
        refine lv_aload_n hx hb dA_apply_65 rfl (lv_at hl 2 rfl) ?_
        refine lv_aload_n hx hb dA_apply_66 rfl (lv_at hl 3 rfl) ?_
        obtain ⟨o8, hq9, hf⟩ := xbind hf
        obtain ⟨hPc, hDc, hFc⟩ := xcut (wc := [(a0, .inr (2, [.ref a1, .int v1, .int v2])), (a1, .inl (cT 2, 4096, .inr (.inl f0))), (a2, .inr (2, [.ref a3, .int v4, .int v5])), (a3, .inl (cT 2, 4096, .inr (.inl f3)))]) hP hD hS hA [2, 3, 0, 1] rfl rfl (by decide)
        refine va_calli (va_runS (As := [.ref a0, .ref a0, .ref a2]) (rest := []) ⟨hx, hb, hml, hown, htx⟩ (gA_plusa l hl9 D cT aK aV H.size d n a0 a1 a2 a3 f0 v1 v2 f3 v4 v5 o8 hq9) ⟨callB_of 3 htx (xw_goodC kw_3_122) rfl rfl rfl (htx _ kw_1_21) (htx _ kw_3_120) ⟨by decide, by decide, by decide +kernel⟩ ⟨(by show (16 * d + 4) + 1 ≤ 16 * d + 5; omega), (by show 8 + (3 + 11) + (400 * d + 128) ≤ 400 * d + 157; omega)⟩, htx _ kw_3_121⟩ ⟨xPre_blind, (fun U hU hW => ⟨rfl, xPre_of hZ hS hFc hPc hDc hK U hU hW⟩)⟩ rfl rfl hl.1 rfl (lv_room (Nat.le_of_ble_eq_true rfl)) dA_apply_67 ⟨Nat.le_of_ble_eq_true rfl, Nat.le_of_ble_eq_true rfl⟩) hS (fun q _ h => hFc q h) hFc (fun r10 u9 t H1 locs ht hvm hr9 hB hz1 hk1 hS => ?_)
        obtain ⟨hP1, hK1, hD1⟩ := hB
        rw [ht] at hP1
        obtain ⟨hP, hD⟩ := xjoin (W := [(a0, .inr (2, [.ref a1, .int v1, .int v2])), (a1, .inl (cT 2, 4096, .inr (.inl f0))), (a2, .inr (2, [.ref a3, .int o8.2.2.1, .int o8.2.2.2])), (a3, .inl (cT 2, 4096, .inr (.inl o8.2.1)))]) hP hD [2, 3, 0, 1] [] 0 rfl rfl (by decide) (by decide) hk1 hFc hP1 hD1
        generalize H1 = H at hP hS ⊢
        rw [hr9]
        refine W.eq (g2 := F0 m 70 ls [.int o8.1]) rfl ?_
        obtain rfl := Option.some.inj hf
        obtain ⟨hP9, hD9⟩ := xsub (wc := [(a0, .inr (2, [.ref a1, .int v1, .int v2])), (a1, .inl (cT 2, 4096, .inr (.inl f0))), (a2, .inr (2, [.ref a3, .int o8.2.2.1, .int o8.2.2.2])), (a3, .inl (cT 2, 4096, .inr (.inl o8.2.1)))]) hP hD [0, 1, 2, 3] rfl rfl (by decide)
        exact W.iret (v := o8.1) hx hb hr (fun t ht hW => ⟨⟨o8.1, (), rfl, rfl, by rw [ht]; exact hP9, va_K.moved hW.alike hK, hD9⟩, hS.F ht⟩) hS.2.2 dA_apply_70
      rw [if_neg hc7] at hf
      by_cases hc11 : x0 = 1
      · rw [if_pos hc11] at hf
        refine lv_tableIn (off := 36) (tgt := 71) hx hb dA_apply_35 (by rw [hc11]; decide) (by rw [hc11]; decide) (by rw [hc11]; decide) (by decide) ?_
        refine lv_aload_n hx hb dA_apply_71 rfl (lv_at hl 1 rfl) ?_
        refine lv_aload_n hx hb dA_apply_72 rfl (lv_at hl 2 rfl) ?_
        refine lv_aload_n hx hb dA_apply_73 rfl (lv_at hl 3 rfl) ?_
        obtain ⟨o12, hq13, hf⟩ := xbind hf
        obtain ⟨hPc, hDc, hFc⟩ := xcut (wc := [(a0, .inr (2, [.ref a1, .int v1, .int v2])), (a1, .inl (cT 2, 4096, .inr (.inl f0))), (a2, .inr (2, [.ref a3, .int v4, .int v5])), (a3, .inl (cT 2, 4096, .inr (.inl f3)))]) hP hD hS hA [2, 3, 0, 1] rfl rfl (by decide)
        refine va_calli (va_runS (As := [.ref a0, .ref a0, .ref a2]) (rest := []) ⟨hx, hb, hml, hown, htx⟩ (gA_minusa l hl9 D cT aK aV H.size d n a0 a1 a2 a3 f0 v1 v2 f3 v4 v5 o12 hq13) ⟨callB_of 3 htx (xw_goodC kw_3_155) rfl rfl rfl (htx _ kw_1_21) (htx _ kw_3_153) ⟨by decide, by decide, by decide +kernel⟩ ⟨(by show (16 * d + 3) + 1 ≤ 16 * d + 5; omega), (by show 8 + (7 + 11) + (400 * d + 105) ≤ 400 * d + 157; omega)⟩, htx _ kw_3_154⟩ ⟨xPre_blind, (fun U hU hW => ⟨rfl, xPre_of hZ hS hFc hPc hDc hK U hU hW⟩)⟩ rfl rfl hl.1 rfl (lv_room (Nat.le_of_ble_eq_true rfl)) dA_apply_74 ⟨Nat.le_of_ble_eq_true rfl, Nat.le_of_ble_eq_true rfl⟩) hS (fun q _ h => hFc q h) hFc (fun r14 u9 t H1 locs ht hvm hr9 hB hz1 hk1 hS => ?_)
        obtain ⟨hP1, hK1, hD1⟩ := hB
        rw [ht] at hP1
        obtain ⟨hP, hD⟩ := xjoin (W := [(a0, .inr (2, [.ref a1, .int v1, .int v2])), (a1, .inl (cT 2, 4096, .inr (.inl f0))), (a2, .inr (2, [.ref a3, .int o12.2.2.1, .int o12.2.2.2])), (a3, .inl (cT 2, 4096, .inr (.inl o12.2.1)))]) hP hD [2, 3, 0, 1] [] 0 rfl rfl (by decide) (by decide) hk1 hFc hP1 hD1
        generalize H1 = H at hP hS ⊢
        rw [hr9]
        refine W.eq (g2 := F0 m 77 ls [.int o12.1]) rfl ?_
        obtain rfl := Option.some.inj hf
        obtain ⟨hP9, hD9⟩ := xsub (wc := [(a0, .inr (2, [.ref a1, .int v1, .int v2])), (a1, .inl (cT 2, 4096, .inr (.inl f0))), (a2, .inr (2, [.ref a3, .int o12.2.2.1, .int o12.2.2.2])), (a3, .inl (cT 2, 4096, .inr (.inl o12.2.1)))]) hP hD [0, 1, 2, 3] rfl rfl (by decide)
        exact W.iret (v := o12.1) hx hb hr (fun t ht hW => ⟨⟨o12.1, (), rfl, rfl, by rw [ht]; exact hP9, va_K.moved hW.alike hK, hD9⟩, hS.F ht⟩) hS.2.2 dA_apply_77
      rw [if_neg hc11] at hf
      by_cases hc15 : x0 = 2
      · rw [if_pos hc15] at hf
        refine lv_tableIn (off := 43) (tgt := 78) hx hb dA_apply_35 (by rw [hc15]; decide) (by rw [hc15]; decide) (by rw [hc15]; decide) (by decide) ?_
        refine lv_aload_n hx hb dA_apply_78 rfl (lv_at hl 1 rfl) ?_
        refine lv_aload_n hx hb dA_apply_79 rfl (lv_at hl 2 rfl) ?_
        refine lv_aload_n hx hb dA_apply_80 rfl (lv_at hl 3 rfl) ?_
        obtain ⟨o16, hq17, hf⟩ := xbind hf
        obtain ⟨hPc, hDc, hFc⟩ := xcut (wc := [(a0, .inr (2, [.ref a1, .int v1, .int v2])), (a1, .inl (cT 2, 4096, .inr (.inl f0))), (a2, .inr (2, [.ref a3, .int v4, .int v5])), (a3, .inl (cT 2, 4096, .inr (.inl f3)))]) hP hD hS hA [2, 3, 0, 1] rfl rfl (by decide)
        refine va_calli (va_runS (As := [.ref a0, .ref a0, .ref a2]) (rest := []) ⟨hx, hb, hml, hown, htx⟩ (gA_timesa l hl9 D cT aK aV H.size d n a0 a1 a2 a3 f0 v1 v2 f3 v4 v5 o16 hq17) ⟨callB_of 3 htx (xw_goodC kw_3_189) rfl rfl rfl (htx _ kw_1_21) (htx _ kw_3_187) ⟨by decide, by decide, by decide +kernel⟩ ⟨(by show (16 * d + 4) + 1 ≤ 16 * d + 5; omega), (by show 8 + (3 + 11) + (400 * d + 130) ≤ 400 * d + 157; omega)⟩, htx _ kw_3_188⟩ ⟨xPre_blind, (fun U hU hW => ⟨rfl, xPre_of hZ hS hFc hPc hDc hK U hU hW⟩)⟩ rfl rfl hl.1 rfl (lv_room (Nat.le_of_ble_eq_true rfl)) dA_apply_81 ⟨Nat.le_of_ble_eq_true rfl, Nat.le_of_ble_eq_true rfl⟩) hS (fun q _ h => hFc q h) hFc (fun r18 u9 t H1 locs ht hvm hr9 hB hz1 hk1 hS => ?_)
        obtain ⟨hP1, hK1, hD1⟩ := hB
        rw [ht] at hP1
        obtain ⟨hP, hD⟩ := xjoin (W := [(a0, .inr (2, [.ref a1, .int v1, .int v2])), (a1, .inl (cT 2, 4096, .inr (.inl f0))), (a2, .inr (2, [.ref a3, .int o16.2.2.1, .int o16.2.2.2])), (a3, .inl (cT 2, 4096, .inr (.inl o16.2.1)))]) hP hD [2, 3, 0, 1] [] 0 rfl rfl (by decide) (by decide) hk1 hFc hP1 hD1
        generalize H1 = H at hP hS ⊢
        rw [hr9]
        refine W.eq (g2 := F0 m 84 ls [.int o16.1]) rfl ?_
        obtain rfl := Option.some.inj hf
        obtain ⟨hP9, hD9⟩ := xsub (wc := [(a0, .inr (2, [.ref a1, .int v1, .int v2])), (a1, .inl (cT 2, 4096, .inr (.inl f0))), (a2, .inr (2, [.ref a3, .int o16.2.2.1, .int o16.2.2.2])), (a3, .inl (cT 2, 4096, .inr (.inl o16.2.1)))]) hP hD [0, 1, 2, 3] rfl rfl (by decide)
        exact W.iret (v := o16.1) hx hb hr (fun t ht hW => ⟨⟨o16.1, (), rfl, rfl, by rw [ht]; exact hP9, va_K.moved hW.alike hK, hD9⟩, hS.F ht⟩) hS.2.2 dA_apply_84
      rw [if_neg hc15] at hf
      by_cases hc19 : x0 = 3
      · rw [if_pos hc19] at hf
        refine lv_tableIn (off := 50) (tgt := 85) hx hb dA_apply_35 (by rw [hc19]; decide) (by rw [hc19]; decide) (by rw [hc19]; decide) (by decide) ?_
        refine lv_aload_n hx hb dA_apply_85 rfl (lv_at hl 1 rfl) ?_
        refine lv_aload_n hx hb dA_apply_86 rfl (lv_at hl 2 rfl) ?_
        refine lv_aload_n hx hb dA_apply_87 rfl (lv_at hl 3 rfl) ?_
        obtain ⟨o20, hq21, hf⟩ := xbind hf
        obtain ⟨hPc, hDc, hFc⟩ := xcut (wc := [(a0, .inr (2, [.ref a1, .int v1, .int v2])), (a1, .inl (cT 2, 4096, .inr (.inl f0))), (a2, .inr (2, [.ref a3, .int v4, .int v5])), (a3, .inl (cT 2, 4096, .inr (.inl f3)))]) hP hD hS hA [2, 3, 0, 1] rfl rfl (by decide)
        refine va_calli (va_runS (As := [.ref a0, .ref a0, .ref a2]) (rest := []) ⟨hx, hb, hml, hown, htx⟩ (gA_piecesa l hl9 D cT aK aV H.size n a0 a1 a2 a3 f0 v1 v2 f3 v4 v5 o20 hq21) ⟨callB_of 3 htx (xw_goodC kw_3_201) rfl rfl rfl (htx _ kw_1_21) (htx _ kw_3_199) ⟨by decide, by decide, by decide +kernel⟩ ⟨Nat.le_of_ble_eq_true rfl, Nat.le_of_ble_eq_true rfl⟩, htx _ kw_3_200⟩ ⟨xPre_blind, (fun U hU hW => ⟨rfl, xPre_of hZ hS hFc hPc hDc hK U hU hW⟩)⟩ rfl rfl hl.1 rfl (lv_room (Nat.le_of_ble_eq_true rfl)) dA_apply_88 ⟨Nat.le_of_ble_eq_true rfl, Nat.le_of_ble_eq_true rfl⟩) hS (fun q _ h => hFc q h) hFc (fun r22 u9 t H1 locs ht hvm hr9 hB hz1 hk1 hS => ?_)
        obtain ⟨hP1, hK1, hD1⟩ := hB
        rw [ht] at hP1
        obtain ⟨hP, hD⟩ := xjoin (W := [(a0, .inr (2, [.ref a1, .int v1, .int v2])), (a1, .inl (cT 2, 4096, .inr (.inl f0))), (a2, .inr (2, [.ref a3, .int o20.2.2.1, .int o20.2.2.2])), (a3, .inl (cT 2, 4096, .inr (.inl o20.2.1)))]) hP hD [2, 3, 0, 1] [] 0 rfl rfl (by decide) (by decide) hk1 hFc hP1 hD1
        generalize H1 = H at hP hS ⊢
        rw [hr9]
        refine W.eq (g2 := F0 m 91 ls [.int o20.1]) rfl ?_
        obtain rfl := Option.some.inj hf
        obtain ⟨hP9, hD9⟩ := xsub (wc := [(a0, .inr (2, [.ref a1, .int v1, .int v2])), (a1, .inl (cT 2, 4096, .inr (.inl f0))), (a2, .inr (2, [.ref a3, .int o20.2.2.1, .int o20.2.2.2])), (a3, .inl (cT 2, 4096, .inr (.inl o20.2.1)))]) hP hD [0, 1, 2, 3] rfl rfl (by decide)
        exact W.iret (v := o20.1) hx hb hr (fun t ht hW => ⟨⟨o20.1, (), rfl, rfl, by rw [ht]; exact hP9, va_K.moved hW.alike hK, hD9⟩, hS.F ht⟩) hS.2.2 dA_apply_91
      rw [if_neg hc19] at hf
      refine lv_tableOut (tgt := 92) hx hb dA_apply_35 (by have e0 : x0.toInt ≠ 0 := xsw hc7 (by decide); have e1 : x0.toInt ≠ 1 := xsw hc11 (by decide); have e2 : x0.toInt ≠ 2 := xsw hc15 (by decide); have e3 : x0.toInt ≠ 3 := xsw hc19 (by decide); omega) (by decide) ?_
      refine lv_iconst (v := 1) hx hb dA_apply_92 (by decide) ?_
      obtain rfl := Option.some.inj hf
      obtain ⟨hP9, hD9⟩ := xsub (wc := [(a0, .inr (2, [.ref a1, .int v1, .int v2])), (a1, .inl (cT 2, 4096, .inr (.inl f0))), (a2, .inr (2, [.ref a3, .int v4, .int v5])), (a3, .inl (cT 2, 4096, .inr (.inl f3)))]) hP hD [2, 3, 0, 1] rfl rfl (by decide)
      exact W.iret (v := (1 : Int32)) hx hb hr (fun t ht hW => ⟨⟨(1 : Int32), (), rfl, rfl, by rw [ht]; exact hP9, va_K.moved hW.alike hK, hD9⟩, hS.F ht⟩) hS.2.2 dA_apply_93
    · rw [if_neg hc] at hf
      refine lv_iload_n hx hb dA_apply_18 rfl (lv_at hl 0 rfl) ?_
      refine lv_aload_n hx hb dA_apply_19 rfl (lv_at hl 1 rfl) ?_
      refine lv_iconst (v := 0) hx hb dA_apply_20 (by decide) ?_
      obtain ⟨o7, hq8, hf⟩ := xbind hf
      obtain ⟨hPc, hDc, hFc⟩ := xcut (wc := [(a0, .inr (2, [.ref a1, .int v1, .int v2])), (a1, .inl (cT 2, 4096, .inr (.inl f0)))]) hP hD hS hA [2, 3] rfl rfl (by decide)
      refine va_calll (va_runV (C := "ValueBench$Row") (As := [.int 0]) (rest := [.int x0]) ⟨hx, hb, hml, hown, htx⟩ (gR_number l hl9 D cT aK aV H.size n a0 a1 (0 : Int32) f0 v1 v2 o7 hq8) ⟨callB_of 1 htx (xw_goodC kw_3_37) rfl rfl rfl (htx _ kw_1_4) (htx _ kw_3_107) ⟨by decide, by decide, by decide +kernel⟩ ⟨Nat.le_of_ble_eq_true rfl, Nat.le_of_ble_eq_true rfl⟩, (htx _ kw_3_35), (htx _ kw_3_36)⟩ ⟨xPre_blind, va_recv hK hP (ci := 2) rfl (q0 := 2) rfl, (fun U hU hW => ⟨rfl, xPre_of hZ hS hFc hPc hDc hK U hU hW⟩)⟩ rfl rfl hl.1 rfl (lv_room (Nat.le_of_ble_eq_true rfl)) dA_apply_21 ⟨Nat.le_of_ble_eq_true rfl, Nat.le_of_ble_eq_true rfl⟩) hS (fun q _ h => hFc q h) hFc (fun r9 u9 t H1 locs ht hvm hr9 hB hz1 hk1 hS => ?_)
      obtain ⟨hP1, hK1, hD1⟩ := hB
      rw [ht] at hP1
      obtain ⟨hP, hD⟩ := xjoin (W := [(a2, .inr (2, [.ref a3, .int v4, .int v5])), (a3, .inl (cT 2, 4096, .inr (.inl f3))), (a0, .inr (2, [.ref a1, .int v1, .int v2])), (a1, .inl (cT 2, 4096, .inr (.inl f0)))]) hP hD [2, 3] [0, 1] 2 rfl rfl (by decide) (by decide) hk1 hFc hP1 hD1
      generalize H1 = H at hP hS ⊢
      rw [hr9]
      refine W.eq (g2 := F0 m 24 ls [.long o7, .int x0]) rfl ?_
      refine lv_aload_n hx hb dA_apply_24 rfl (lv_at hl 2 rfl) ?_
      refine lv_iconst (v := 0) hx hb dA_apply_25 (by decide) ?_
      obtain ⟨o10, hq11, hf⟩ := xbind hf
      obtain ⟨hPc, hDc, hFc⟩ := xcut (wc := [(a0, .inr (2, [.ref a1, .int v1, .int v2])), (a1, .inl (cT 2, 4096, .inr (.inl f0)))]) hP hD hS hA [2, 3] rfl rfl (by decide)
      refine va_calll (va_runV (C := "ValueBench$Row") (As := [.int 0]) (rest := [.long o7, .int x0]) ⟨hx, hb, hml, hown, htx⟩ (gR_number l hl9 D cT aK aV H.size n a0 a1 (0 : Int32) f0 v1 v2 o10 hq11) ⟨callB_of 1 htx (xw_goodC kw_3_37) rfl rfl rfl (htx _ kw_1_4) (htx _ kw_3_107) ⟨by decide, by decide, by decide +kernel⟩ ⟨Nat.le_of_ble_eq_true rfl, Nat.le_of_ble_eq_true rfl⟩, (htx _ kw_3_35), (htx _ kw_3_36)⟩ ⟨xPre_blind, va_recv hK hP (ci := 2) rfl (q0 := 2) rfl, (fun U hU hW => ⟨rfl, xPre_of hZ hS hFc hPc hDc hK U hU hW⟩)⟩ rfl rfl hl.1 rfl (lv_room (Nat.le_of_ble_eq_true rfl)) dA_apply_26 ⟨Nat.le_of_ble_eq_true rfl, Nat.le_of_ble_eq_true rfl⟩) hS (fun q _ h => hFc q h) hFc (fun r12 u9 t H1 locs ht hvm hr9 hB hz1 hk1 hS => ?_)
      obtain ⟨hP1, hK1, hD1⟩ := hB
      rw [ht] at hP1
      obtain ⟨hP, hD⟩ := xjoin (W := [(a2, .inr (2, [.ref a3, .int v4, .int v5])), (a3, .inl (cT 2, 4096, .inr (.inl f3))), (a0, .inr (2, [.ref a1, .int v1, .int v2])), (a1, .inl (cT 2, 4096, .inr (.inl f0)))]) hP hD [2, 3] [0, 1] 2 rfl rfl (by decide) (by decide) hk1 hFc hP1 hD1
      generalize H1 = H at hP hS ⊢
      rw [hr9]
      refine W.eq (g2 := F0 m 29 ls [.long o10, .long o7, .int x0]) rfl ?_
      refine lv_aload_n hx hb dA_apply_29 rfl (lv_at hl 3 rfl) ?_
      obtain ⟨o13, hq14, hf⟩ := xbind hf
      obtain ⟨hPc, hDc, hFc⟩ := xcut (wc := [(a2, .inr (2, [.ref a3, .int v4, .int v5])), (a3, .inl (cT 2, 4096, .inr (.inl f3)))]) hP hD hS hA [0, 1] rfl rfl (by decide)
      refine va_calli (va_runS (As := [.int x0, .long o7, .long o10, .ref a2]) (rest := []) ⟨hx, hb, hml, hown, htx⟩ (gA_ofNumbers l hl9 D cT aK aV H.size n a2 a3 x0 o7 o10 f3 v4 v5 o13 hq14) ⟨callB_of 4 htx (xw_goodC kw_3_110) rfl rfl rfl (htx _ kw_1_21) (htx _ kw_3_108) ⟨by decide, by decide, by decide +kernel⟩ ⟨Nat.le_of_ble_eq_true rfl, Nat.le_of_ble_eq_true rfl⟩, htx _ kw_3_109⟩ ⟨xPre_blind, (fun U hU hW => ⟨rfl, xPre_of hZ hS hFc hPc hDc hK U hU hW⟩)⟩ rfl rfl hl.1 rfl (lv_room (Nat.le_of_ble_eq_true rfl)) dA_apply_30 ⟨Nat.le_of_ble_eq_true rfl, Nat.le_of_ble_eq_true rfl⟩) hS (fun q _ h => hFc q h) hFc (fun r15 u9 t H1 locs ht hvm hr9 hB hz1 hk1 hS => ?_)
      obtain ⟨hP1, hK1, hD1⟩ := hB
      rw [ht] at hP1
      obtain ⟨hP, hD⟩ := xjoin (W := [(a0, .inr (2, [.ref a1, .int v1, .int v2])), (a1, .inl (cT 2, 4096, .inr (.inl f0))), (a2, .inr (2, [.ref a3, .int o13.2.2.1, .int o13.2.2.2])), (a3, .inl (cT 2, 4096, .inr (.inl o13.2.1)))]) hP hD [0, 1] [2, 3] 2 rfl rfl (by decide) (by decide) hk1 hFc hP1 hD1
      generalize H1 = H at hP hS ⊢
      rw [hr9]
      refine W.eq (g2 := F0 m 33 ls [.int o13.1]) rfl ?_
      obtain rfl := Option.some.inj hf
      obtain ⟨hP9, hD9⟩ := xsub (wc := [(a0, .inr (2, [.ref a1, .int v1, .int v2])), (a1, .inl (cT 2, 4096, .inr (.inl f0))), (a2, .inr (2, [.ref a3, .int o13.2.2.1, .int o13.2.2.2])), (a3, .inl (cT 2, 4096, .inr (.inl o13.2.1)))]) hP hD [0, 1, 2, 3] rfl rfl (by decide)
      exact W.iret (v := o13.1) hx hb hr (fun t ht hW => ⟨⟨o13.1, (), rfl, rfl, by rw [ht]; exact hP9, va_K.moved hW.alike hK, hD9⟩, hS.F ht⟩) hS.2.2 dA_apply_33
set_option maxHeartbeats 400000000 in
set_option maxRecDepth 100000 in
theorem gD_isBlank (l : Launch) (hl9 : l.stackTraces = false) (D : va_G) (cT : Nat → ClassId) (aK aV : Nat → Nat) (sz n : Nat) (x0 : Int32) (out : Int32) (hf : fD_isBlank n x0 = some out) : xMet l yD_isBlank wyD_isBlank 0 0 0 0 D cT aK aV sz [.int x0] [] (fun A => va_Qi (fun (r : Int32) (_ : Unit) => r = out) (fun _ t => xB D xcl cT A [] t) A) := by
  refine Met.ofW (cc := prog_7_method_9_code) (maxL := 1) (ret := (some .boolean)) (by decide) rfl ?_
  intro p e s m args below meth c s₁ B hml hv
  obtain ⟨rfl, hsz, hZ, hP, hK, hD0⟩ := hv
  have hx := B.exec
  have hb := B.bytes
  have hr := B.returns
  have hts := atoms_spec (ws := wyD_isBlank) B.pre
  have htx := fun w h => hts w (List.mem_cons_of_mem _ h)
  have hown : s.vm.findClass "ValueBench$Reader" = some m.cls := findClass_of_methodNamed B.named
  have hlocks := B.notSynchronized
  subst hsz
  have hD := hD0.self (sz := s.heap.size)
  generalize hAe : va_A [] s.heap.size = A at hD hZ ⊢
  have hA : ∀ q : Nat, s.heap.size ≤ q → A q := fun q h => by rw [← hAe]; exact Or.inr h
  have hS : va_S A s.heap s.heap [] := va_S.rf
  have hP : va_P D xcl [] s.heap := hP
  have hl := lv_entry ([.int x0]) (n := 1) (Nat.le_of_ble_eq_true rfl)
  rw [lg_entry_eq]
  generalize (lg_sl ([.int x0]) ++ List.replicate (1 - (lg_sl ([.int x0])).length) Slot.unset).toArray = ls at hl ⊢
  have hl : lv_has ls 1 [(0, .int x0)] := hl
  unfold fD_isBlank at hf
  refine lv_iload_n hx hb dD_isBlank_0 rfl (lv_at hl 0 rfl) ?_
  refine lv_bipush (v := 32) hx hb dD_isBlank_1 (by decide) ?_
  refine lv_icmp_eq (tgt := 24) hx hb dD_isBlank_3 (by decide) (fun hc => ?_) (fun hc => ?_)
  · rw [if_pos hc] at hf
    refine lv_iconst (v := 1) hx hb dD_isBlank_24 (by decide) ?_
    refine lv_goto (tgt := 29) hx hb dD_isBlank_25 (by decide) ?_
    obtain rfl := Option.some.inj hf
    obtain ⟨hP9, hD9⟩ := xsub (wc := []) hP hD [] rfl rfl (by decide)
    exact W.zret (v := (1 : Int32)) hx hb hr rfl (fun t ht hW => ⟨⟨(1 : Int32), (), rfl, rfl, by rw [ht]; exact hP9, va_K.moved hW.alike hK, hD9⟩, hS.F ht⟩) hS.2.2 dD_isBlank_29
  · rw [if_neg hc] at hf
    refine lv_iload_n hx hb dD_isBlank_6 rfl (lv_at hl 0 rfl) ?_
    refine lv_bipush (v := 9) hx hb dD_isBlank_7 (by decide) ?_
    refine lv_icmp_eq (tgt := 24) hx hb dD_isBlank_9 (by decide) (fun hc => ?_) (fun hc => ?_)
    · rw [if_pos hc] at hf
      refine lv_iconst (v := 1) hx hb dD_isBlank_24 (by decide) ?_
      refine lv_goto (tgt := 29) hx hb dD_isBlank_25 (by decide) ?_
      obtain rfl := Option.some.inj hf
      obtain ⟨hP9, hD9⟩ := xsub (wc := []) hP hD [] rfl rfl (by decide)
      exact W.zret (v := (1 : Int32)) hx hb hr rfl (fun t ht hW => ⟨⟨(1 : Int32), (), rfl, rfl, by rw [ht]; exact hP9, va_K.moved hW.alike hK, hD9⟩, hS.F ht⟩) hS.2.2 dD_isBlank_29
    · rw [if_neg hc] at hf
      refine lv_iload_n hx hb dD_isBlank_12 rfl (lv_at hl 0 rfl) ?_
      refine lv_bipush (v := 10) hx hb dD_isBlank_13 (by decide) ?_
      refine lv_icmp_eq (tgt := 24) hx hb dD_isBlank_15 (by decide) (fun hc => ?_) (fun hc => ?_)
      · rw [if_pos hc] at hf
        refine lv_iconst (v := 1) hx hb dD_isBlank_24 (by decide) ?_
        refine lv_goto (tgt := 29) hx hb dD_isBlank_25 (by decide) ?_
        obtain rfl := Option.some.inj hf
        obtain ⟨hP9, hD9⟩ := xsub (wc := []) hP hD [] rfl rfl (by decide)
        exact W.zret (v := (1 : Int32)) hx hb hr rfl (fun t ht hW => ⟨⟨(1 : Int32), (), rfl, rfl, by rw [ht]; exact hP9, va_K.moved hW.alike hK, hD9⟩, hS.F ht⟩) hS.2.2 dD_isBlank_29
      · rw [if_neg hc] at hf
        refine lv_iload_n hx hb dD_isBlank_18 rfl (lv_at hl 0 rfl) ?_
        refine lv_bipush (v := 13) hx hb dD_isBlank_19 (by decide) ?_
        refine lv_icmp_ne (tgt := 28) hx hb dD_isBlank_21 (by decide) (fun hc => ?_) (fun hc => ?_)
        · rw [if_neg hc] at hf
          refine lv_iconst (v := 0) hx hb dD_isBlank_28 (by decide) ?_
          obtain rfl := Option.some.inj hf
          obtain ⟨hP9, hD9⟩ := xsub (wc := []) hP hD [] rfl rfl (by decide)
          exact W.zret (v := (0 : Int32)) hx hb hr rfl (fun t ht hW => ⟨⟨(0 : Int32), (), rfl, rfl, by rw [ht]; exact hP9, va_K.moved hW.alike hK, hD9⟩, hS.F ht⟩) hS.2.2 dD_isBlank_29
        · rw [if_pos hc] at hf
          refine lv_iconst (v := 1) hx hb dD_isBlank_24 (by decide) ?_
          refine lv_goto (tgt := 29) hx hb dD_isBlank_25 (by decide) ?_
          obtain rfl := Option.some.inj hf
          obtain ⟨hP9, hD9⟩ := xsub (wc := []) hP hD [] rfl rfl (by decide)
          exact W.zret (v := (1 : Int32)) hx hb hr rfl (fun t ht hW => ⟨⟨(1 : Int32), (), rfl, rfl, by rw [ht]; exact hP9, va_K.moved hW.alike hK, hD9⟩, hS.F ht⟩) hS.2.2 dD_isBlank_29
set_option maxHeartbeats 400000000 in
set_option maxRecDepth 100000 in
theorem gD_skipBlanks (l : Launch) (hl9 : l.stackTraces = false) (D : va_G) (cT : Nat → ClassId) (aK aV : Nat → Nat) (sz n : Nat) (a0 : Nat) (a1 : Nat) (a2 : Nat) (a3 : Nat) (a4 : Nat) (f0 : Nat → Int32) (v1 : Int32) (v2 : Int32) (f3 : Nat → Int64) (v4 : Int32) (v5 : Int32) (v6 : Int32) (v7 : Int32) (out : Int32) (hf : fD_skipBlanks n f0 v1 v2 f3 v4 v5 v6 v7 = some out) : xMet l yD_skipBlanks wyD_skipBlanks 1 0 0 21 D cT aK aV sz [.ref a0] [(a0, .inr (4, [.ref a1, .ref a3, .int v6, .int v7])), (a1, .inr (1, [.ref a2, .int v1, .int v2])), (a2, .inl (cT 0, 4096, .inl f0)), (a3, .inr (2, [.ref a4, .int v4, .int v5])), (a4, .inl (cT 2, 4096, .inr (.inl f3)))] (fun A => va_Qv (fun _ : Unit => True) (fun _ t => xB D xcl cT A [(a0, .inr (4, [.ref a1, .ref a3, .int out, .int v7])), (a1, .inr (1, [.ref a2, .int v1, .int v2])), (a2, .inl (cT 0, 4096, .inl f0)), (a3, .inr (2, [.ref a4, .int v4, .int v5])), (a4, .inl (cT 2, 4096, .inr (.inl f3)))] t) A) := by
  refine Met.ofW (cc := prog_7_method_8_code) (maxL := 1) (ret := none) (by decide) rfl ?_
  intro p e s m args below meth c s₁ B hml hv
  obtain ⟨rfl, hsz, hZ, hP, hK, hD0⟩ := hv
  have hx := B.exec
  have hb := B.bytes
  have hr := B.returns
  have hts := atoms_spec (ws := wyD_skipBlanks) B.pre
  have htx := fun w h => hts w (List.mem_cons_of_mem _ h)
  have hown : s.vm.findClass "ValueBench$Reader" = some m.cls := findClass_of_methodNamed B.named
  have hlocks := B.notSynchronized
  subst hsz
  have hD := hD0.self (sz := s.heap.size)
  generalize hAe : va_A [(a0, .inr (4, [.ref a1, .ref a3, .int v6, .int v7])), (a1, .inr (1, [.ref a2, .int v1, .int v2])), (a2, .inl (cT 0, 4096, .inl f0)), (a3, .inr (2, [.ref a4, .int v4, .int v5])), (a4, .inl (cT 2, 4096, .inr (.inl f3)))] s.heap.size = A at hD hZ ⊢
  have hA : ∀ q : Nat, s.heap.size ≤ q → A q := fun q h => by rw [← hAe]; exact Or.inr h
  have hS : va_S A s.heap s.heap [] := va_S.rf
  have hP : va_P D xcl [(a0, .inr (4, [.ref a1, .ref a3, .int v6, .int v7])), (a1, .inr (1, [.ref a2, .int v1, .int v2])), (a2, .inl (cT 0, 4096, .inl f0)), (a3, .inr (2, [.ref a4, .int v4, .int v5])), (a4, .inl (cT 2, 4096, .inr (.inl f3)))] s.heap := hP
  have hl := lv_entry ([.ref a0]) (n := 1) (Nat.le_of_ble_eq_true rfl)
  rw [lg_entry_eq]
  generalize (lg_sl ([.ref a0]) ++ List.replicate (1 - (lg_sl ([.ref a0])).length) Slot.unset).toArray = ls at hl ⊢
  have hl : lv_has ls 1 [(0, .ref a0)] := hl
  unfold fD_skipBlanks at hf
  refine xloopK (σ := Nat × Int32) (fun n x H locs ls => (x.1 = 1 ∧ fD_skipBlanks_b f0 v1 v2 f3 v4 v5 v7 n x.1 x.2 = some out ∧ va_P D xcl [(a0, .inr (4, [.ref a1, .ref a3, .int x.2, .int v7])), (a1, .inr (1, [.ref a2, .int v1, .int v2])), (a2, .inl (cT 0, 4096, .inl f0)), (a3, .inr (2, [.ref a4, .int v4, .int v5])), (a4, .inl (cT 2, 4096, .inr (.inl f3)))] H ∧ va_D A [(a0, .inr (4, [.ref a1, .ref a3, .int x.2, .int v7])), (a1, .inr (1, [.ref a2, .int v1, .int v2])), (a2, .inl (cT 0, 4096, .inl f0)), (a3, .inr (2, [.ref a4, .int v4, .int v5])), (a4, .inl (cT 2, 4096, .inr (.inl f3)))] ∧ va_S A s.heap H locs ∧ lv_has ls 1 [(0, .ref a0)])) (fun x => 0) (fun x H locs ls h => by exact absurd h.2.1 (by rw [fD_skipBlanks_b]; exact fun h => nomatch h)) (fun n ih x H locs ls hv => ?_) (fun key => ?_)
  · obtain ⟨lb, w0⟩ := x
    rcases hv with ⟨hj, hf, hP, hD, hS, hl⟩
    subst hj
    have hf : fD_skipBlanks_b f0 v1 v2 f3 v4 v5 v7 (n + 1) 1 w0 = some out := hf
    rw [fD_skipBlanks_b] at hf
    obtain ⟨hP, hD⟩ : xPD D xcl A [(a0, .inr (4, [.ref a1, .ref a3, .int w0, .int v7])), (a1, .inr (1, [.ref a2, .int v1, .int v2])), (a2, .inl (cT 0, 4096, .inl f0)), (a3, .inr (2, [.ref a4, .int v4, .int v5])), (a4, .inl (cT 2, 4096, .inr (.inl f3)))] H := ⟨hP, hD⟩
    have hl : lv_has ls 1 [(0, .ref a0)] := hl
    refine W.eq (g2 := F0 m 0 ls []) rfl ?_
    refine lv_aload_n hx hb dD_skipBlanks_0 rfl (lv_at hl 0 rfl) ?_
    refine va_get (D := D) (ci := 4) (v := .int w0) (C := "ValueBench$Reader") (T := TD) (N := 4) hx hb htx inD hown hK hP 0 rfl rfl 2 (by decide) (htx _ kw_2_31) (fun _ h9 => h9) rfl dD_skipBlanks_1 ?_
    refine lv_aload_n hx hb dD_skipBlanks_4 rfl (lv_at hl 0 rfl) ?_
    refine va_get (D := D) (ci := 4) (v := .ref a1) (C := "ValueBench$Reader") (T := TD) (N := 4) hx hb htx inD hown hK hP 0 rfl rfl 0 (by decide) (htx _ kw_2_29) (fun _ h9 => h9) rfl dD_skipBlanks_5 ?_
    obtain ⟨o1, hq2, hf⟩ := xbind hf
    obtain ⟨hPc, hDc, hFc⟩ := xcut (wc := [(a1, .inr (1, [.ref a2, .int v1, .int v2])), (a2, .inl (cT 0, 4096, .inl f0))]) hP hD hS hA [1, 2] rfl rfl (by decide)
    refine va_calli (va_runV (C := "ValueBench$Text") (As := []) (rest := [.int w0]) ⟨hx, hb, hml, hown, htx⟩ (gT_size l hl9 D cT aK aV H.size n a1 a2 f0 v1 v2 o1 hq2) ⟨callB_of 0 htx (xw_goodC kw_1_131) rfl rfl rfl (htx _ kw_1_2) (htx _ kw_2_54) ⟨by decide, by decide, by decide +kernel⟩ ⟨Nat.le_of_ble_eq_true rfl, Nat.le_of_ble_eq_true rfl⟩, (htx _ kw_1_129), (htx _ kw_1_130)⟩ ⟨xPre_blind, va_recv hK hP (ci := 1) rfl (q0 := 1) rfl, (fun U hU hW => ⟨rfl, xPre_of hZ hS hFc hPc hDc hK U hU hW⟩)⟩ rfl rfl hl.1 rfl (lv_room (Nat.le_of_ble_eq_true rfl)) dD_skipBlanks_8 ⟨Nat.le_of_ble_eq_true rfl, Nat.le_of_ble_eq_true rfl⟩) hS (fun q _ h => hFc q h) hFc (fun r3 u9 t H1 locs ht hvm hr9 hB hz1 hk1 hS => ?_)
    obtain ⟨hP1, hK1, hD1⟩ := hB
    rw [ht] at hP1
    obtain ⟨hP, hD⟩ := xjoin (W := [(a0, .inr (4, [.ref a1, .ref a3, .int w0, .int v7])), (a3, .inr (2, [.ref a4, .int v4, .int v5])), (a4, .inl (cT 2, 4096, .inr (.inl f3))), (a1, .inr (1, [.ref a2, .int v1, .int v2])), (a2, .inl (cT 0, 4096, .inl f0))]) hP hD [1, 2] [0, 3, 4] 3 rfl rfl (by decide) (by decide) hk1 hFc hP1 hD1
    generalize H1 = H at hP hS ⊢
    rw [hr9]
    refine W.eq (g2 := F0 m 11 ls [.int o1, .int w0]) rfl ?_
    refine lv_icmp_ge (tgt := 44) hx hb dD_skipBlanks_11 (by decide) (fun hc => ?_) (fun hc => ?_)
    · rw [if_pos hc] at hf
      obtain rfl := Option.some.inj hf
      obtain ⟨hP9, hD9⟩ := xsub (wc := [(a0, .inr (4, [.ref a1, .ref a3, .int w0, .int v7])), (a1, .inr (1, [.ref a2, .int v1, .int v2])), (a2, .inl (cT 0, 4096, .inl f0)), (a3, .inr (2, [.ref a4, .int v4, .int v5])), (a4, .inl (cT 2, 4096, .inr (.inl f3)))]) hP hD [0, 3, 4, 1, 2] rfl rfl (by decide)
      exact W.vret hx hb hr (fun t ht hW => ⟨⟨(), rfl, trivial, by rw [ht]; exact hP9, va_K.moved hW.alike hK, hD9⟩, hS.F ht⟩) hS.2.2 dD_skipBlanks_44
    · rw [if_neg hc] at hf
      refine lv_aload_n hx hb dD_skipBlanks_14 rfl (lv_at hl 0 rfl) ?_
      refine va_get (D := D) (ci := 4) (v := .ref a1) (C := "ValueBench$Reader") (T := TD) (N := 4) hx hb htx inD hown hK hP 0 rfl rfl 0 (by decide) (htx _ kw_2_29) (fun _ h9 => h9) rfl dD_skipBlanks_15 ?_
      refine lv_aload_n hx hb dD_skipBlanks_18 rfl (lv_at hl 0 rfl) ?_
      refine va_get (D := D) (ci := 4) (v := .int w0) (C := "ValueBench$Reader") (T := TD) (N := 4) hx hb htx inD hown hK hP 0 rfl rfl 2 (by decide) (htx _ kw_2_31) (fun _ h9 => h9) rfl dD_skipBlanks_19 ?_
      obtain ⟨o4, hq5, hf⟩ := xbind hf
      obtain ⟨hPc, hDc, hFc⟩ := xcut (wc := [(a1, .inr (1, [.ref a2, .int v1, .int v2])), (a2, .inl (cT 0, 4096, .inl f0))]) hP hD hS hA [3, 4] rfl rfl (by decide)
      refine va_calli (va_runV (C := "ValueBench$Text") (As := [.int w0]) (rest := []) ⟨hx, hb, hml, hown, htx⟩ (gT_at l hl9 D cT aK aV H.size n a1 a2 w0 f0 v1 v2 o4 hq5) ⟨callB_of 1 htx (xw_goodC kw_2_58) rfl rfl rfl (htx _ kw_1_2) (htx _ kw_2_55) ⟨by decide, by decide, by decide +kernel⟩ ⟨Nat.le_of_ble_eq_true rfl, Nat.le_of_ble_eq_true rfl⟩, (htx _ kw_2_56), (htx _ kw_2_57)⟩ ⟨xPre_blind, va_recv hK hP (ci := 1) rfl (q0 := 3) rfl, (fun U hU hW => ⟨rfl, xPre_of hZ hS hFc hPc hDc hK U hU hW⟩)⟩ rfl rfl hl.1 rfl (lv_room (Nat.le_of_ble_eq_true rfl)) dD_skipBlanks_22 ⟨Nat.le_of_ble_eq_true rfl, Nat.le_of_ble_eq_true rfl⟩) hS (fun q _ h => hFc q h) hFc (fun r6 u9 t H1 locs ht hvm hr9 hB hz1 hk1 hS => ?_)
      obtain ⟨hP1, hK1, hD1⟩ := hB
      rw [ht] at hP1
      obtain ⟨hP, hD⟩ := xjoin (W := [(a0, .inr (4, [.ref a1, .ref a3, .int w0, .int v7])), (a3, .inr (2, [.ref a4, .int v4, .int v5])), (a4, .inl (cT 2, 4096, .inr (.inl f3))), (a1, .inr (1, [.ref a2, .int v1, .int v2])), (a2, .inl (cT 0, 4096, .inl f0))]) hP hD [3, 4] [0, 1, 2] 3 rfl rfl (by decide) (by decide) hk1 hFc hP1 hD1
      generalize H1 = H at hP hS ⊢
      rw [hr9]
      refine W.eq (g2 := F0 m 25 ls [.int o4]) rfl ?_
      obtain ⟨o7, hq8, hf⟩ := xbind hf
      obtain ⟨hPc, hDc, hFc⟩ := xcut (wc := []) hP hD hS hA [] rfl rfl (by decide)
      refine va_calli (va_runS (As := [.int o4]) (rest := []) ⟨hx, hb, hml, hown, htx⟩ (gD_isBlank l hl9 D cT aK aV H.size n o4 o7 hq8) ⟨callB_of 1 htx (xw_goodC kw_2_61) rfl rfl rfl (htx _ kw_1_16) (htx _ kw_2_59) ⟨by decide, by decide, by decide +kernel⟩ ⟨Nat.le_of_ble_eq_true rfl, Nat.le_of_ble_eq_true rfl⟩, htx _ kw_2_60⟩ ⟨xPre_blind, (fun U hU hW => ⟨rfl, xPre_of hZ hS hFc hPc hDc hK U hU hW⟩)⟩ rfl rfl hl.1 rfl (lv_room (Nat.le_of_ble_eq_true rfl)) dD_skipBlanks_25 ⟨Nat.le_of_ble_eq_true rfl, Nat.le_of_ble_eq_true rfl⟩) hS (fun q _ h => hFc q h) hFc (fun r9 u9 t H1 locs ht hvm hr9 hB hz1 hk1 hS => ?_)
      obtain ⟨hP1, hK1, hD1⟩ := hB
      rw [ht] at hP1
      obtain ⟨hP, hD⟩ := xjoin (W := [(a0, .inr (4, [.ref a1, .ref a3, .int w0, .int v7])), (a3, .inr (2, [.ref a4, .int v4, .int v5])), (a4, .inl (cT 2, 4096, .inr (.inl f3))), (a1, .inr (1, [.ref a2, .int v1, .int v2])), (a2, .inl (cT 0, 4096, .inl f0))]) hP hD [] [0, 1, 2, 3, 4] 5 rfl rfl (by decide) (by decide) hk1 hFc hP1 hD1
      generalize H1 = H at hP hS ⊢
      rw [hr9]
      refine W.eq (g2 := F0 m 28 ls [.int o7]) rfl ?_
      refine lv_if_eq (tgt := 44) hx hb dD_skipBlanks_28 (by decide) (fun hc => ?_) (fun hc => ?_)
      · rw [if_pos hc] at hf
        obtain rfl := Option.some.inj hf
        obtain ⟨hP9, hD9⟩ := xsub (wc := [(a0, .inr (4, [.ref a1, .ref a3, .int w0, .int v7])), (a1, .inr (1, [.ref a2, .int v1, .int v2])), (a2, .inl (cT 0, 4096, .inl f0)), (a3, .inr (2, [.ref a4, .int v4, .int v5])), (a4, .inl (cT 2, 4096, .inr (.inl f3)))]) hP hD [0, 3, 4, 1, 2] rfl rfl (by decide)
        exact W.vret hx hb hr (fun t ht hW => ⟨⟨(), rfl, trivial, by rw [ht]; exact hP9, va_K.moved hW.alike hK, hD9⟩, hS.F ht⟩) hS.2.2 dD_skipBlanks_44
      · rw [if_neg hc] at hf
        refine lv_aload_n hx hb dD_skipBlanks_31 rfl (lv_at hl 0 rfl) ?_
        refine lv_dup hx hb dD_skipBlanks_32 rfl ?_
        refine va_get (D := D) (ci := 4) (v := .int w0) (C := "ValueBench$Reader") (T := TD) (N := 4) hx hb htx inD hown hK hP 0 rfl rfl 2 (by decide) (htx _ kw_2_31) (fun _ h9 => h9) rfl dD_skipBlanks_33 ?_
        refine lv_iconst (v := 1) hx hb dD_skipBlanks_36 (by decide) ?_
        refine lv_iadd hx hb dD_skipBlanks_37 ?_
        refine va_put (D := D) (ci := 4) (v := .int (w0 + (1 : Int32))) (ty := .int) (C := "ValueBench$Reader") (T := TD) (N := 4) hx hb htx inD tyD tyD_ok nmD hown hK hP hD hS 0 rfl rfl 2 (by decide) (htx _ kw_2_31) (fun _ h9 => h9) rfl (by decide +kernel) rfl rfl (Nat.le_of_ble_eq_true rfl) dD_skipBlanks_38 (fun H locs hP hD hS => ?_)
        obtain ⟨hP, hD⟩ : xPD D xcl A [(a0, .inr (4, [.ref a1, .ref a3, .int (w0 + (1 : Int32)), .int v7])), (a3, .inr (2, [.ref a4, .int v4, .int v5])), (a4, .inl (cT 2, 4096, .inr (.inl f3))), (a1, .inr (1, [.ref a2, .int v1, .int v2])), (a2, .inl (cT 0, 4096, .inl f0))] H := ⟨hP, hD⟩
        refine lv_goto (tgt := 0) hx hb dD_skipBlanks_41 (by decide) ?_
        obtain ⟨hP9, hD9⟩ := xsub (wc := [(a0, .inr (4, [.ref a1, .ref a3, .int (w0 + (1 : Int32)), .int v7])), (a1, .inr (1, [.ref a2, .int v1, .int v2])), (a2, .inl (cT 0, 4096, .inl f0)), (a3, .inr (2, [.ref a4, .int v4, .int v5])), (a4, .inl (cT 2, 4096, .inr (.inl f3)))]) hP hD [0, 3, 4, 1, 2] rfl rfl (by decide)
        exact ih (1, (w0 + (1 : Int32))) _ _ ls (⟨rfl, hf, hP9, hD9, hS, lv_sub hl [0] rfl⟩)
  obtain ⟨hP9, hD9⟩ := xsub (wc := [(a0, .inr (4, [.ref a1, .ref a3, .int v6, .int v7])), (a1, .inr (1, [.ref a2, .int v1, .int v2])), (a2, .inl (cT 0, 4096, .inl f0)), (a3, .inr (2, [.ref a4, .int v4, .int v5])), (a4, .inl (cT 2, 4096, .inr (.inl f3)))]) hP hD [0, 1, 2, 3, 4] rfl rfl (by decide)
  exact key n (1, v6) _ _ ls (⟨rfl, hf, hP9, hD9, hS, lv_sub hl [0] rfl⟩)
