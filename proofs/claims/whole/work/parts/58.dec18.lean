set_option maxHeartbeats 400000000 in
set_option maxRecDepth 100000 in
theorem gH_indicesa (l : Launch) (hl9 : l.stackTraces = false) (D : va_G) (cT : Nat → ClassId) (aK aV : Nat → Nat) (sz d n : Nat) (a0 : Nat) (a1 : Nat) (a2 : Nat) (a3 : Nat) (f0 : Nat → Int64) (v1 : Int32) (v2 : Int32) (f3 : Nat → Int64) (v4 : Int32) (v5 : Int32) (out : Int32 × (Nat → Int64) × Int32 × Int32) (hf : fH_indicesa d n f0 v1 v2 f3 v4 v5 = some out) : xMet l yH_indices wyH_indices (16 * d + 3) 0 0 (400 * d + 79) D cT aK aV sz [.ref a0, .ref a0, .ref a2] [(a0, .inr (2, [.ref a1, .int v1, .int v2])), (a1, .inl (cT 2, 4096, .inr (.inl f0))), (a2, .inr (2, [.ref a3, .int v4, .int v5])), (a3, .inl (cT 2, 4096, .inr (.inl f3)))] (fun A => va_Qi (fun (r : Int32) (_ : Unit) => r = out.1) (fun _ t => xB D xcl cT A [(a0, .inr (2, [.ref a1, .int v1, .int v2])), (a1, .inl (cT 2, 4096, .inr (.inl f0))), (a2, .inr (2, [.ref a3, .int out.2.2.1, .int out.2.2.2])), (a3, .inl (cT 2, 4096, .inr (.inl out.2.1)))] t) A) := by
  refine Met.ofW (cc := prog_5_method_22_code) (maxL := 6) (ret := (some .int)) (by decide) rfl ?_
  intro p e s m args below meth c s₁ B hml hv
  obtain ⟨rfl, hsz, hZ, hP, hK, hD0⟩ := hv
  have hx := B.exec
  have hb := B.bytes
  have hr := B.returns
  have hts := atoms_spec (ws := wyH_indices) B.pre
  have htx := fun w h => hts w (List.mem_cons_of_mem _ h)
  have hown : s.vm.findClass "ValueBench$Pairs" = some m.cls := findClass_of_methodNamed B.named
  have hlocks := B.notSynchronized
  subst hsz
  have hD := hD0.self (sz := s.heap.size)
  generalize hAe : va_A [(a0, .inr (2, [.ref a1, .int v1, .int v2])), (a1, .inl (cT 2, 4096, .inr (.inl f0))), (a2, .inr (2, [.ref a3, .int v4, .int v5])), (a3, .inl (cT 2, 4096, .inr (.inl f3)))] s.heap.size = A at hD hZ ⊢
  have hA : ∀ q : Nat, s.heap.size ≤ q → A q := fun q h => by rw [← hAe]; exact Or.inr h
  have hS : va_S A s.heap s.heap [] := va_S.rf
  have hP : va_P D xcl [(a0, .inr (2, [.ref a1, .int v1, .int v2])), (a1, .inl (cT 2, 4096, .inr (.inl f0))), (a2, .inr (2, [.ref a3, .int v4, .int v5])), (a3, .inl (cT 2, 4096, .inr (.inl f3)))] s.heap := hP
  have hl := lv_entry ([.ref a0, .ref a0, .ref a2]) (n := 6) (Nat.le_of_ble_eq_true rfl)
  rw [lg_entry_eq]
  generalize (lg_sl ([.ref a0, .ref a0, .ref a2]) ++ List.replicate (6 - (lg_sl ([.ref a0, .ref a0, .ref a2])).length) Slot.unset).toArray = ls at hl ⊢
  have hl : lv_has ls 6 [(0, .ref a0), (1, .ref a0), (2, .ref a2)] := hl
  unfold fH_indicesa at hf
  refine lv_aload_n hx hb dH_indices_0 rfl (lv_at hl 0 rfl) ?_
  refine lv_iconst (v := 0) hx hb dH_indices_1 (by decide) ?_
  refine lv_iconst (v := 0) hx hb dH_indices_2 (by decide) ?_
  obtain ⟨o1, hq2, hf⟩ := xbind hf
  obtain ⟨hPc, hDc, hFc⟩ := xcut (wc := [(a0, .inr (2, [.ref a1, .int v1, .int v2])), (a1, .inl (cT 2, 4096, .inr (.inl f0)))]) hP hD hS hA [0, 1] rfl rfl (by decide)
  refine va_calli (va_runV (C := "ValueBench$Row") (As := [.int 0, .int 0]) (rest := []) ⟨hx, hb, hml, hown, htx⟩ (gR_is l hl9 D cT aK aV s.heap.size n a0 a1 (0 : Int32) (0 : Int32) f0 v1 v2 o1 hq2) ⟨callB_of 2 htx (xw_goodC kw_3_75) rfl rfl rfl (htx _ kw_1_4) (htx _ kw_4_150) ⟨by decide, by decide, by decide +kernel⟩ ⟨Nat.le_of_ble_eq_true rfl, Nat.le_of_ble_eq_true rfl⟩, (htx _ kw_3_73), (htx _ kw_3_74)⟩ ⟨xPre_blind, va_recv hK hP (ci := 2) rfl (q0 := 0) rfl, (fun U hU hW => ⟨rfl, xPre_of hZ hS hFc hPc hDc hK U hU hW⟩)⟩ rfl rfl hl.1 rfl (lv_room (Nat.le_of_ble_eq_true rfl)) dH_indices_3 ⟨Nat.le_of_ble_eq_true rfl, Nat.le_of_ble_eq_true rfl⟩) hS (fun q _ h => hFc q h) hFc (fun r3 u9 t H1 locs ht hvm hr9 hB hz1 hk1 hS => ?_)
  obtain ⟨hP1, hK1, hD1⟩ := hB
  rw [ht] at hP1
  obtain ⟨hP, hD⟩ := xjoin (W := [(a2, .inr (2, [.ref a3, .int v4, .int v5])), (a3, .inl (cT 2, 4096, .inr (.inl f3))), (a0, .inr (2, [.ref a1, .int v1, .int v2])), (a1, .inl (cT 2, 4096, .inr (.inl f0)))]) hP hD [0, 1] [2, 3] 2 rfl rfl (by decide) (by decide) hk1 hFc hP1 hD1
  generalize H1 = H at hP hS ⊢
  rw [hr9]
  refine W.eq (g2 := F0 m 6 ls [.int o1]) rfl ?_
  refine lv_if_eq (tgt := 14) hx hb dH_indices_6 (by decide) (fun hc => ?_) (fun hc => ?_)
  · rw [if_pos hc] at hf
    refine lv_aload_n hx hb dH_indices_14 rfl (lv_at hl 0 rfl) ?_
    refine lv_iconst (v := 0) hx hb dH_indices_15 (by decide) ?_
    refine lv_iconst (v := 5) hx hb dH_indices_16 (by decide) ?_
    obtain ⟨o4, hq5, hf⟩ := xbind hf
    obtain ⟨hPc, hDc, hFc⟩ := xcut (wc := [(a0, .inr (2, [.ref a1, .int v1, .int v2])), (a1, .inl (cT 2, 4096, .inr (.inl f0)))]) hP hD hS hA [2, 3] rfl rfl (by decide)
    refine va_calli (va_runV (C := "ValueBench$Row") (As := [.int 0, .int 5]) (rest := []) ⟨hx, hb, hml, hown, htx⟩ (gR_is l hl9 D cT aK aV H.size n a0 a1 (0 : Int32) (5 : Int32) f0 v1 v2 o4 hq5) ⟨callB_of 2 htx (xw_goodC kw_3_75) rfl rfl rfl (htx _ kw_1_4) (htx _ kw_4_150) ⟨by decide, by decide, by decide +kernel⟩ ⟨Nat.le_of_ble_eq_true rfl, Nat.le_of_ble_eq_true rfl⟩, (htx _ kw_3_73), (htx _ kw_3_74)⟩ ⟨xPre_blind, va_recv hK hP (ci := 2) rfl (q0 := 2) rfl, (fun U hU hW => ⟨rfl, xPre_of hZ hS hFc hPc hDc hK U hU hW⟩)⟩ rfl rfl hl.1 rfl (lv_room (Nat.le_of_ble_eq_true rfl)) dH_indices_17 ⟨Nat.le_of_ble_eq_true rfl, Nat.le_of_ble_eq_true rfl⟩) hS (fun q _ h => hFc q h) hFc (fun r6 u9 t H1 locs ht hvm hr9 hB hz1 hk1 hS => ?_)
    obtain ⟨hP1, hK1, hD1⟩ := hB
    rw [ht] at hP1
    obtain ⟨hP, hD⟩ := xjoin (W := [(a2, .inr (2, [.ref a3, .int v4, .int v5])), (a3, .inl (cT 2, 4096, .inr (.inl f3))), (a0, .inr (2, [.ref a1, .int v1, .int v2])), (a1, .inl (cT 2, 4096, .inr (.inl f0)))]) hP hD [2, 3] [0, 1] 2 rfl rfl (by decide) (by decide) hk1 hFc hP1 hD1
    generalize H1 = H at hP hS ⊢
    rw [hr9]
    refine W.eq (g2 := F0 m 20 ls [.int o4]) rfl ?_
    refine lv_if_ne (tgt := 33) hx hb dH_indices_20 (by decide) (fun hc => ?_) (fun hc => ?_)
    · rw [if_neg hc] at hf
      refine lv_aload_n hx hb dH_indices_33 rfl (lv_at hl 0 rfl) ?_
      refine lv_iconst (v := 0) hx hb dH_indices_34 (by decide) ?_
      refine lv_iconst (v := 5) hx hb dH_indices_35 (by decide) ?_
      obtain ⟨o7, hq8, hf⟩ := xbind hf
      obtain ⟨hPc, hDc, hFc⟩ := xcut (wc := [(a0, .inr (2, [.ref a1, .int v1, .int v2])), (a1, .inl (cT 2, 4096, .inr (.inl f0)))]) hP hD hS hA [2, 3] rfl rfl (by decide)
      refine va_calli (va_runV (C := "ValueBench$Row") (As := [.int 0, .int 5]) (rest := []) ⟨hx, hb, hml, hown, htx⟩ (gR_is l hl9 D cT aK aV H.size n a0 a1 (0 : Int32) (5 : Int32) f0 v1 v2 o7 hq8) ⟨callB_of 2 htx (xw_goodC kw_3_75) rfl rfl rfl (htx _ kw_1_4) (htx _ kw_4_150) ⟨by decide, by decide, by decide +kernel⟩ ⟨Nat.le_of_ble_eq_true rfl, Nat.le_of_ble_eq_true rfl⟩, (htx _ kw_3_73), (htx _ kw_3_74)⟩ ⟨xPre_blind, va_recv hK hP (ci := 2) rfl (q0 := 2) rfl, (fun U hU hW => ⟨rfl, xPre_of hZ hS hFc hPc hDc hK U hU hW⟩)⟩ rfl rfl hl.1 rfl (lv_room (Nat.le_of_ble_eq_true rfl)) dH_indices_36 ⟨Nat.le_of_ble_eq_true rfl, Nat.le_of_ble_eq_true rfl⟩) hS (fun q _ h => hFc q h) hFc (fun r9 u9 t H1 locs ht hvm hr9 hB hz1 hk1 hS => ?_)
      obtain ⟨hP1, hK1, hD1⟩ := hB
      rw [ht] at hP1
      obtain ⟨hP, hD⟩ := xjoin (W := [(a2, .inr (2, [.ref a3, .int v4, .int v5])), (a3, .inl (cT 2, 4096, .inr (.inl f3))), (a0, .inr (2, [.ref a1, .int v1, .int v2])), (a1, .inl (cT 2, 4096, .inr (.inl f0)))]) hP hD [2, 3] [0, 1] 2 rfl rfl (by decide) (by decide) hk1 hFc hP1 hD1
      generalize H1 = H at hP hS ⊢
      rw [hr9]
      refine W.eq (g2 := F0 m 39 ls [.int o7]) rfl ?_
      refine lv_if_eq (tgt := 55) hx hb dH_indices_39 (by decide) (fun hc => ?_) (fun hc => ?_)
      · rw [if_pos hc] at hf
        refine lv_iconst (v := 0) hx hb dH_indices_55 (by decide) ?_
        refine lv_istore_n (lv' := [(3, .int 0), (0, .ref a0), (1, .ref a0), (2, .ref a2)]) hx hb dH_indices_56 rfl hl (by decide) rfl (fun ls hl => ?_)
        refine lv_iload_n hx hb dH_indices_57 rfl (lv_at hl 0 rfl) ?_
        refine lv_if_ne (tgt := 74) hx hb dH_indices_58 (by decide) (fun h => ((by revert h; decide : False)).elim) (fun _ => ?_)
        refine lv_aload_n hx hb dH_indices_61 rfl (lv_at hl 2 rfl) ?_
        refine lv_iconst (v := 0) hx hb dH_indices_62 (by decide) ?_
        obtain ⟨o10, hq11, hf⟩ := xbind hf
        obtain ⟨hPc, hDc, hFc⟩ := xcut (wc := [(a0, .inr (2, [.ref a1, .int v1, .int v2])), (a1, .inl (cT 2, 4096, .inr (.inl f0)))]) hP hD hS hA [2, 3] rfl rfl (by decide)
        refine va_calli (va_runV (C := "ValueBench$Row") (As := [.int 0]) (rest := []) ⟨hx, hb, hml, hown, htx⟩ (gR_length l hl9 D cT aK aV H.size n a0 a1 (0 : Int32) f0 v1 v2 o10 hq11) ⟨callB_of 1 htx (xw_goodC kw_2_191) rfl rfl rfl (htx _ kw_1_4) (htx _ kw_4_157) ⟨by decide, by decide, by decide +kernel⟩ ⟨Nat.le_of_ble_eq_true rfl, Nat.le_of_ble_eq_true rfl⟩, (htx _ kw_2_189), (htx _ kw_2_190)⟩ ⟨xPre_blind, va_recv hK hP (ci := 2) rfl (q0 := 2) rfl, (fun U hU hW => ⟨rfl, xPre_of hZ hS hFc hPc hDc hK U hU hW⟩)⟩ rfl rfl hl.1 rfl (lv_room (Nat.le_of_ble_eq_true rfl)) dH_indices_63 ⟨Nat.le_of_ble_eq_true rfl, Nat.le_of_ble_eq_true rfl⟩) hS (fun q _ h => hFc q h) hFc (fun r12 u9 t H1 locs ht hvm hr9 hB hz1 hk1 hS => ?_)
        obtain ⟨hP1, hK1, hD1⟩ := hB
        rw [ht] at hP1
        obtain ⟨hP, hD⟩ := xjoin (W := [(a2, .inr (2, [.ref a3, .int v4, .int v5])), (a3, .inl (cT 2, 4096, .inr (.inl f3))), (a0, .inr (2, [.ref a1, .int v1, .int v2])), (a1, .inl (cT 2, 4096, .inr (.inl f0)))]) hP hD [2, 3] [0, 1] 2 rfl rfl (by decide) (by decide) hk1 hFc hP1 hD1
        generalize H1 = H at hP hS ⊢
        rw [hr9]
        refine W.eq (g2 := F0 m 66 ls [.int o10]) rfl ?_
        refine lv_if_ne (tgt := 74) hx hb dH_indices_66 (by decide) (fun hc => ?_) (fun hc => ?_)
        · rw [if_neg hc] at hf
          refine lv_aload_n hx hb dH_indices_74 rfl (lv_at hl 3 rfl) ?_
          obtain ⟨o13, hq14, hf⟩ := xbind hf
          obtain ⟨hPc, hDc, hFc⟩ := xcut (wc := [(a2, .inr (2, [.ref a3, .int v4, .int v5])), (a3, .inl (cT 2, 4096, .inr (.inl f3)))]) hP hD hS hA [0, 1] rfl rfl (by decide)
          refine va_calli (va_runV (C := "ValueBench$Row") (As := []) (rest := []) ⟨hx, hb, hml, hown, htx⟩ (gR_open l hl9 D cT aK aV H.size n a2 a3 f3 v4 v5 o13 hq14) ⟨callB_of 0 htx (xw_goodC kw_2_136) rfl rfl rfl (htx _ kw_1_4) (htx _ kw_4_223) ⟨by decide, by decide, by decide +kernel⟩ ⟨Nat.le_of_ble_eq_true rfl, Nat.le_of_ble_eq_true rfl⟩, (htx _ kw_2_134), (htx _ kw_2_135)⟩ ⟨xPre_blind, va_recv hK hP (ci := 2) rfl (q0 := 0) rfl, (fun U hU hW => ⟨rfl, xPre_of hZ hS hFc hPc hDc hK U hU hW⟩)⟩ rfl rfl hl.1 rfl (lv_room (Nat.le_of_ble_eq_true rfl)) dH_indices_75 ⟨Nat.le_of_ble_eq_true rfl, Nat.le_of_ble_eq_true rfl⟩) hS (fun q _ h => hFc q h) hFc (fun r15 u9 t H1 locs ht hvm hr9 hB hz1 hk1 hS => ?_)
          obtain ⟨hP1, hK1, hD1⟩ := hB
          rw [ht] at hP1
          obtain ⟨hP, hD⟩ := xjoin (W := [(a0, .inr (2, [.ref a1, .int v1, .int v2])), (a1, .inl (cT 2, 4096, .inr (.inl f0))), (a2, .inr (2, [.ref a3, .int o13.2.2.1, .int o13.2.2.2])), (a3, .inl (cT 2, 4096, .inr (.inl o13.2.1)))]) hP hD [0, 1] [2, 3] 2 rfl rfl (by decide) (by decide) hk1 hFc hP1 hD1
          generalize H1 = H at hP hS ⊢
          rw [hr9]
          refine W.eq (g2 := F0 m 78 ls [.int o13.1]) rfl ?_
          refine lv_istore (lv' := [(4, .int o13.1), (3, .int 0), (0, .ref a0), (1, .ref a0), (2, .ref a2)]) hx hb dH_indices_78 hl (by decide) rfl (fun ls hl => ?_)
          refine lv_aload_n hx hb dH_indices_80 rfl (lv_at hl 2 rfl) ?_
          refine lv_iconst (v := 0) hx hb dH_indices_81 (by decide) ?_
          refine lv_iconst (v := 4) hx hb dH_indices_82 (by decide) ?_
          obtain ⟨o16, hq17, hf⟩ := xbind hf
          obtain ⟨hPc, hDc, hFc⟩ := xcut (wc := [(a0, .inr (2, [.ref a1, .int v1, .int v2])), (a1, .inl (cT 2, 4096, .inr (.inl f0)))]) hP hD hS hA [0, 1] rfl rfl (by decide)
          refine va_calli (va_runV (C := "ValueBench$Row") (As := [.int 0, .int 4]) (rest := []) ⟨hx, hb, hml, hown, htx⟩ (gR_is l hl9 D cT aK aV H.size n a0 a1 (0 : Int32) (4 : Int32) f0 v1 v2 o16 hq17) ⟨callB_of 2 htx (xw_goodC kw_3_75) rfl rfl rfl (htx _ kw_1_4) (htx _ kw_4_150) ⟨by decide, by decide, by decide +kernel⟩ ⟨Nat.le_of_ble_eq_true rfl, Nat.le_of_ble_eq_true rfl⟩, (htx _ kw_3_73), (htx _ kw_3_74)⟩ ⟨xPre_blind, va_recv hK hP (ci := 2) rfl (q0 := 0) rfl, (fun U hU hW => ⟨rfl, xPre_of hZ hS hFc hPc hDc hK U hU hW⟩)⟩ rfl rfl hl.1 rfl (lv_room (Nat.le_of_ble_eq_true rfl)) dH_indices_83 ⟨Nat.le_of_ble_eq_true rfl, Nat.le_of_ble_eq_true rfl⟩) hS (fun q _ h => hFc q h) hFc (fun r18 u9 t H1 locs ht hvm hr9 hB hz1 hk1 hS => ?_)
          obtain ⟨hP1, hK1, hD1⟩ := hB
          rw [ht] at hP1
          obtain ⟨hP, hD⟩ := xjoin (W := [(a2, .inr (2, [.ref a3, .int o13.2.2.1, .int o13.2.2.2])), (a3, .inl (cT 2, 4096, .inr (.inl o13.2.1))), (a0, .inr (2, [.ref a1, .int v1, .int v2])), (a1, .inl (cT 2, 4096, .inr (.inl f0)))]) hP hD [0, 1] [2, 3] 2 rfl rfl (by decide) (by decide) hk1 hFc hP1 hD1
          generalize H1 = H at hP hS ⊢
          rw [hr9]
          refine W.eq (g2 := F0 m 86 ls [.int o16]) rfl ?_
          refine lv_if_eq (tgt := 98) hx hb dH_indices_86 (by decide) (fun hc => ?_) (fun hc => ?_)
          · rw [if_pos hc] at hf
            refine lv_aload_n hx hb dH_indices_98 rfl (lv_at hl 2 rfl) ?_
            refine lv_aload_n hx hb dH_indices_99 rfl (lv_at hl 3 rfl) ?_
            refine lv_iload_n hx hb dH_indices_100 rfl (lv_at hl 1 rfl) ?_
            refine lv_aload_n hx hb dH_indices_101 rfl (lv_at hl 4 rfl) ?_
            obtain ⟨o19, hq20, hf⟩ := xbind hf
            obtain ⟨hPc, hDc, hFc⟩ := xcut (wc := [(a0, .inr (2, [.ref a1, .int v1, .int v2])), (a1, .inl (cT 2, 4096, .inr (.inl f0))), (a2, .inr (2, [.ref a3, .int o13.2.2.1, .int o13.2.2.2])), (a3, .inl (cT 2, 4096, .inr (.inl o13.2.1)))]) hP hD hS hA [2, 3, 0, 1] rfl rfl (by decide)
            refine va_calli (va_runS (As := [.ref a0, .ref a0, .int 0, .ref a2]) (rest := []) ⟨hx, hb, hml, hown, htx⟩ (gH_putArrayIndicesa l hl9 D cT aK aV H.size d n a0 a1 a2 a3 (0 : Int32) f0 v1 v2 o13.2.1 o13.2.2.1 o13.2.2.2 o19 hq20) ⟨callB_of 4 htx (xw_goodC kw_4_230) rfl rfl rfl (htx _ kw_1_27) (htx _ kw_4_228) ⟨by decide, by decide, by decide +kernel⟩ ⟨(by show (16 * d + 2) + 1 ≤ 16 * d + 3; omega), (by show 8 + (9 + 11) + (400 * d + 51) ≤ 400 * d + 79; omega)⟩, htx _ kw_4_229⟩ ⟨xPre_blind, (fun U hU hW => ⟨rfl, xPre_of hZ hS hFc hPc hDc hK U hU hW⟩)⟩ rfl rfl hl.1 rfl (lv_room (Nat.le_of_ble_eq_true rfl)) dH_indices_102 ⟨Nat.le_of_ble_eq_true rfl, Nat.le_of_ble_eq_true rfl⟩) hS (fun q _ h => hFc q h) hFc (fun r21 u9 t H1 locs ht hvm hr9 hB hz1 hk1 hS => ?_)
            obtain ⟨hP1, hK1, hD1⟩ := hB
            rw [ht] at hP1
            obtain ⟨hP, hD⟩ := xjoin (W := [(a0, .inr (2, [.ref a1, .int v1, .int v2])), (a1, .inl (cT 2, 4096, .inr (.inl f0))), (a2, .inr (2, [.ref a3, .int o19.2.2.1, .int o19.2.2.2])), (a3, .inl (cT 2, 4096, .inr (.inl o19.2.1)))]) hP hD [2, 3, 0, 1] [] 0 rfl rfl (by decide) (by decide) hk1 hFc hP1 hD1
            generalize H1 = H at hP hS ⊢
            rw [hr9]
            refine W.eq (g2 := F0 m 105 ls [.int o19.1]) rfl ?_
            refine lv_istore (lv' := [(5, .int o19.1), (4, .int o13.1), (3, .int 0), (0, .ref a0), (1, .ref a0), (2, .ref a2)]) hx hb dH_indices_105 hl (by decide) rfl (fun ls hl => ?_)
            refine lv_aload_n hx hb dH_indices_107 rfl (lv_at hl 5 rfl) ?_
            refine lv_iload hx hb dH_indices_108 (lv_at hl 1 rfl) ?_
            refine lv_iconst (v := 5) hx hb dH_indices_110 (by decide) ?_
            refine lv_iload hx hb dH_indices_111 (lv_at hl 0 rfl) ?_
            obtain ⟨o22, hq23, hf⟩ := xbind hf
            obtain ⟨hPc, hDc, hFc⟩ := xcut (wc := [(a2, .inr (2, [.ref a3, .int o19.2.2.1, .int o19.2.2.2])), (a3, .inl (cT 2, 4096, .inr (.inl o19.2.1)))]) hP hD hS hA [2, 3] rfl rfl (by decide)
            refine va_callv (va_runV (C := "ValueBench$Row") (As := [.int o13.1, .int 5, .int o19.1]) (rest := []) ⟨hx, hb, hml, hown, htx⟩ (gR_close l hl9 D cT aK aV H.size n a2 a3 o13.1 (5 : Int32) o19.1 o19.2.1 o19.2.2.1 o19.2.2.2 o22 hq23) ⟨callB_of 3 htx (xw_goodC kw_2_167) rfl rfl rfl (htx _ kw_1_4) (htx _ kw_4_235) ⟨by decide, by decide, by decide +kernel⟩ ⟨Nat.le_of_ble_eq_true rfl, Nat.le_of_ble_eq_true rfl⟩, (htx _ kw_2_165), (htx _ kw_2_166)⟩ ⟨xPre_blind, va_recv hK hP (ci := 2) rfl (q0 := 2) rfl, (fun U hU hW => ⟨rfl, xPre_of hZ hS hFc hPc hDc hK U hU hW⟩)⟩ rfl rfl hl.1 rfl (lv_room (Nat.le_of_ble_eq_true rfl)) dH_indices_113 ⟨Nat.le_of_ble_eq_true rfl, Nat.le_of_ble_eq_true rfl⟩) hS (fun q _ h => hFc q h) hFc (fun u9 t H1 locs ht hvm hr9 hB hz1 hk1 hS => ?_)
            obtain ⟨hP1, hK1, hD1⟩ := hB
            rw [ht] at hP1
            obtain ⟨hP, hD⟩ := xjoin (W := [(a0, .inr (2, [.ref a1, .int v1, .int v2])), (a1, .inl (cT 2, 4096, .inr (.inl f0))), (a2, .inr (2, [.ref a3, .int o19.2.2.1, .int o19.2.2.2])), (a3, .inl (cT 2, 4096, .inr (.inl o22)))]) hP hD [2, 3] [0, 1] 2 rfl rfl (by decide) (by decide) hk1 hFc hP1 hD1
            generalize H1 = H at hP hS ⊢
            refine lv_iconst (v := 0) hx hb dH_indices_116 (by decide) ?_
            obtain rfl := Option.some.inj hf
            obtain ⟨hP9, hD9⟩ := xsub (wc := [(a0, .inr (2, [.ref a1, .int v1, .int v2])), (a1, .inl (cT 2, 4096, .inr (.inl f0))), (a2, .inr (2, [.ref a3, .int o19.2.2.1, .int o19.2.2.2])), (a3, .inl (cT 2, 4096, .inr (.inl o22)))]) hP hD [0, 1, 2, 3] rfl rfl (by decide)
            exact W.iret (v := (0 : Int32)) hx hb hr (fun t ht hW => ⟨⟨(0 : Int32), (), rfl, rfl, by rw [ht]; exact hP9, va_K.moved hW.alike hK, hD9⟩, hS.F ht⟩) hS.2.2 dH_indices_117
          · rw [if_neg hc] at hf
            refine lv_aload_n hx hb dH_indices_89 rfl (lv_at hl 2 rfl) ?_
            refine lv_aload_n hx hb dH_indices_90 rfl (lv_at hl 3 rfl) ?_
            refine lv_aload_n hx hb dH_indices_91 rfl (lv_at hl 4 rfl) ?_
            obtain ⟨o19, hq20, hf⟩ := xbind hf
            obtain ⟨hPc, hDc, hFc⟩ := xcut (wc := [(a0, .inr (2, [.ref a1, .int v1, .int v2])), (a1, .inl (cT 2, 4096, .inr (.inl f0))), (a2, .inr (2, [.ref a3, .int o13.2.2.1, .int o13.2.2.2])), (a3, .inl (cT 2, 4096, .inr (.inl o13.2.1)))]) hP hD hS hA [2, 3, 0, 1] rfl rfl (by decide)
            refine va_calli (va_runS (As := [.ref a0, .ref a0, .ref a2]) (rest := []) ⟨hx, hb, hml, hown, htx⟩ (gH_putStringIndicesa l hl9 D cT aK aV H.size n a0 a1 a2 a3 f0 v1 v2 o13.2.1 o13.2.2.1 o13.2.2.2 o19 hq20) ⟨callB_of 3 htx (xw_goodC kw_4_226) rfl rfl rfl (htx _ kw_1_27) (htx _ kw_4_224) ⟨by decide, by decide, by decide +kernel⟩ ⟨Nat.le_of_ble_eq_true rfl, Nat.le_of_ble_eq_true rfl⟩, htx _ kw_4_225⟩ ⟨xPre_blind, (fun U hU hW => ⟨rfl, xPre_of hZ hS hFc hPc hDc hK U hU hW⟩)⟩ rfl rfl hl.1 rfl (lv_room (Nat.le_of_ble_eq_true rfl)) dH_indices_92 ⟨Nat.le_of_ble_eq_true rfl, Nat.le_of_ble_eq_true rfl⟩) hS (fun q _ h => hFc q h) hFc (fun r21 u9 t H1 locs ht hvm hr9 hB hz1 hk1 hS => ?_)
            obtain ⟨hP1, hK1, hD1⟩ := hB
            rw [ht] at hP1
            obtain ⟨hP, hD⟩ := xjoin (W := [(a0, .inr (2, [.ref a1, .int v1, .int v2])), (a1, .inl (cT 2, 4096, .inr (.inl f0))), (a2, .inr (2, [.ref a3, .int o19.2.2.1, .int o19.2.2.2])), (a3, .inl (cT 2, 4096, .inr (.inl o19.2.1)))]) hP hD [2, 3, 0, 1] [] 0 rfl rfl (by decide) (by decide) hk1 hFc hP1 hD1
            generalize H1 = H at hP hS ⊢
            rw [hr9]
            refine W.eq (g2 := F0 m 95 ls [.int o19.1]) rfl ?_
            refine lv_goto (tgt := 105) hx hb dH_indices_95 (by decide) ?_
            refine lv_istore (lv' := [(5, .int o19.1), (4, .int o13.1), (3, .int 0), (0, .ref a0), (1, .ref a0), (2, .ref a2)]) hx hb dH_indices_105 hl (by decide) rfl (fun ls hl => ?_)
            refine lv_aload_n hx hb dH_indices_107 rfl (lv_at hl 5 rfl) ?_
            refine lv_iload hx hb dH_indices_108 (lv_at hl 1 rfl) ?_
            refine lv_iconst (v := 5) hx hb dH_indices_110 (by decide) ?_
            refine lv_iload hx hb dH_indices_111 (lv_at hl 0 rfl) ?_
            obtain ⟨o22, hq23, hf⟩ := xbind hf
            obtain ⟨hPc, hDc, hFc⟩ := xcut (wc := [(a2, .inr (2, [.ref a3, .int o19.2.2.1, .int o19.2.2.2])), (a3, .inl (cT 2, 4096, .inr (.inl o19.2.1)))]) hP hD hS hA [2, 3] rfl rfl (by decide)
            refine va_callv (va_runV (C := "ValueBench$Row") (As := [.int o13.1, .int 5, .int o19.1]) (rest := []) ⟨hx, hb, hml, hown, htx⟩ (gR_close l hl9 D cT aK aV H.size n a2 a3 o13.1 (5 : Int32) o19.1 o19.2.1 o19.2.2.1 o19.2.2.2 o22 hq23) ⟨callB_of 3 htx (xw_goodC kw_2_167) rfl rfl rfl (htx _ kw_1_4) (htx _ kw_4_235) ⟨by decide, by decide, by decide +kernel⟩ ⟨Nat.le_of_ble_eq_true rfl, Nat.le_of_ble_eq_true rfl⟩, (htx _ kw_2_165), (htx _ kw_2_166)⟩ ⟨xPre_blind, va_recv hK hP (ci := 2) rfl (q0 := 2) rfl, (fun U hU hW => ⟨rfl, xPre_of hZ hS hFc hPc hDc hK U hU hW⟩)⟩ rfl rfl hl.1 rfl (lv_room (Nat.le_of_ble_eq_true rfl)) dH_indices_113 ⟨Nat.le_of_ble_eq_true rfl, Nat.le_of_ble_eq_true rfl⟩) hS (fun q _ h => hFc q h) hFc (fun u9 t H1 locs ht hvm hr9 hB hz1 hk1 hS => ?_)
            obtain ⟨hP1, hK1, hD1⟩ := hB
            rw [ht] at hP1
            obtain ⟨hP, hD⟩ := xjoin (W := [(a0, .inr (2, [.ref a1, .int v1, .int v2])), (a1, .inl (cT 2, 4096, .inr (.inl f0))), (a2, .inr (2, [.ref a3, .int o19.2.2.1, .int o19.2.2.2])), (a3, .inl (cT 2, 4096, .inr (.inl o22)))]) hP hD [2, 3] [0, 1] 2 rfl rfl (by decide) (by decide) hk1 hFc hP1 hD1
            generalize H1 = H at hP hS ⊢
            refine lv_iconst (v := 0) hx hb dH_indices_116 (by decide) ?_
            obtain rfl := Option.some.inj hf
            obtain ⟨hP9, hD9⟩ := xsub (wc := [(a0, .inr (2, [.ref a1, .int v1, .int v2])), (a1, .inl (cT 2, 4096, .inr (.inl f0))), (a2, .inr (2, [.ref a3, .int o19.2.2.1, .int o19.2.2.2])), (a3, .inl (cT 2, 4096, .inr (.inl o22)))]) hP hD [0, 1, 2, 3] rfl rfl (by decide)
            exact W.iret (v := (0 : Int32)) hx hb hr (fun t ht hW => ⟨⟨(0 : Int32), (), rfl, rfl, by rw [ht]; exact hP9, va_K.moved hW.alike hK, hD9⟩, hS.F ht⟩) hS.2.2 dH_indices_117
        · rw [if_pos hc] at hf
          refine lv_aload_n hx hb dH_indices_69 rfl (lv_at hl 3 rfl) ?_
          obtain ⟨o13, hq14, hf⟩ := xbind hf
          obtain ⟨hPc, hDc, hFc⟩ := xcut (wc := [(a2, .inr (2, [.ref a3, .int v4, .int v5])), (a3, .inl (cT 2, 4096, .inr (.inl f3)))]) hP hD hS hA [0, 1] rfl rfl (by decide)
          refine va_calli (va_runS (As := [.ref a2]) (rest := []) ⟨hx, hb, hml, hown, htx⟩ (gH_nothing l hl9 D cT aK aV H.size n a2 a3 f3 v4 v5 o13 hq14) ⟨callB_of 1 htx (xw_goodC kw_4_221) rfl rfl rfl (htx _ kw_1_27) (htx _ kw_4_219) ⟨by decide, by decide, by decide +kernel⟩ ⟨Nat.le_of_ble_eq_true rfl, Nat.le_of_ble_eq_true rfl⟩, htx _ kw_4_220⟩ ⟨xPre_blind, (fun U hU hW => ⟨rfl, xPre_of hZ hS hFc hPc hDc hK U hU hW⟩)⟩ rfl rfl hl.1 rfl (lv_room (Nat.le_of_ble_eq_true rfl)) dH_indices_70 ⟨Nat.le_of_ble_eq_true rfl, Nat.le_of_ble_eq_true rfl⟩) hS (fun q _ h => hFc q h) hFc (fun r15 u9 t H1 locs ht hvm hr9 hB hz1 hk1 hS => ?_)
          obtain ⟨hP1, hK1, hD1⟩ := hB
          rw [ht] at hP1
          obtain ⟨hP, hD⟩ := xjoin (W := [(a0, .inr (2, [.ref a1, .int v1, .int v2])), (a1, .inl (cT 2, 4096, .inr (.inl f0))), (a2, .inr (2, [.ref a3, .int o13.2.2.1, .int o13.2.2.2])), (a3, .inl (cT 2, 4096, .inr (.inl o13.2.1)))]) hP hD [0, 1] [2, 3] 2 rfl rfl (by decide) (by decide) hk1 hFc hP1 hD1
          generalize H1 = H at hP hS ⊢
          rw [hr9]
          refine W.eq (g2 := F0 m 73 ls [.int o13.1]) rfl ?_
          obtain rfl := Option.some.inj hf
          obtain ⟨hP9, hD9⟩ := xsub (wc := [(a0, .inr (2, [.ref a1, .int v1, .int v2])), (a1, .inl (cT 2, 4096, .inr (.inl f0))), (a2, .inr (2, [.ref a3, .int o13.2.2.1, .int o13.2.2.2])), (a3, .inl (cT 2, 4096, .inr (.inl o13.2.1)))]) hP hD [0, 1, 2, 3] rfl rfl (by decide)
          exact W.iret (v := o13.1) hx hb hr (fun t ht hW => ⟨⟨o13.1, (), rfl, rfl, by rw [ht]; exact hP9, va_K.moved hW.alike hK, hD9⟩, hS.F ht⟩) hS.2.2 dH_indices_73
      · rw [if_neg hc] at hf
        refine lv_aload_n hx hb dH_indices_42 rfl (lv_at hl 1 rfl) ?_
        refine lv_iconst (v := 0) hx hb dH_indices_43 (by decide) ?_
        refine lv_iconst (v := 5) hx hb dH_indices_44 (by decide) ?_
        obtain ⟨o10, hq11, hf⟩ := xbind hf
        obtain ⟨hPc, hDc, hFc⟩ := xcut (wc := [(a0, .inr (2, [.ref a1, .int v1, .int v2])), (a1, .inl (cT 2, 4096, .inr (.inl f0)))]) hP hD hS hA [2, 3] rfl rfl (by decide)
        refine va_calli (va_runV (C := "ValueBench$Row") (As := [.int 0, .int 5]) (rest := []) ⟨hx, hb, hml, hown, htx⟩ (gR_is l hl9 D cT aK aV H.size n a0 a1 (0 : Int32) (5 : Int32) f0 v1 v2 o10 hq11) ⟨callB_of 2 htx (xw_goodC kw_3_75) rfl rfl rfl (htx _ kw_1_4) (htx _ kw_4_150) ⟨by decide, by decide, by decide +kernel⟩ ⟨Nat.le_of_ble_eq_true rfl, Nat.le_of_ble_eq_true rfl⟩, (htx _ kw_3_73), (htx _ kw_3_74)⟩ ⟨xPre_blind, va_recv hK hP (ci := 2) rfl (q0 := 2) rfl, (fun U hU hW => ⟨rfl, xPre_of hZ hS hFc hPc hDc hK U hU hW⟩)⟩ rfl rfl hl.1 rfl (lv_room (Nat.le_of_ble_eq_true rfl)) dH_indices_45 ⟨Nat.le_of_ble_eq_true rfl, Nat.le_of_ble_eq_true rfl⟩) hS (fun q _ h => hFc q h) hFc (fun r12 u9 t H1 locs ht hvm hr9 hB hz1 hk1 hS => ?_)
        obtain ⟨hP1, hK1, hD1⟩ := hB
        rw [ht] at hP1
        obtain ⟨hP, hD⟩ := xjoin (W := [(a2, .inr (2, [.ref a3, .int v4, .int v5])), (a3, .inl (cT 2, 4096, .inr (.inl f3))), (a0, .inr (2, [.ref a1, .int v1, .int v2])), (a1, .inl (cT 2, 4096, .inr (.inl f0)))]) hP hD [2, 3] [0, 1] 2 rfl rfl (by decide) (by decide) hk1 hFc hP1 hD1
        generalize H1 = H at hP hS ⊢
        rw [hr9]
        refine W.eq (g2 := F0 m 48 ls [.int o10]) rfl ?_
        refine lv_if_ne (tgt := 55) hx hb dH_indices_48 (by decide) (fun hc => ?_) (fun hc => ?_)
        · rw [if_neg hc] at hf
          refine lv_iconst (v := 0) hx hb dH_indices_55 (by decide) ?_
          refine lv_istore_n (lv' := [(3, .int 0), (0, .ref a0), (1, .ref a0), (2, .ref a2)]) hx hb dH_indices_56 rfl hl (by decide) rfl (fun ls hl => ?_)
          refine lv_iload_n hx hb dH_indices_57 rfl (lv_at hl 0 rfl) ?_
          refine lv_if_ne (tgt := 74) hx hb dH_indices_58 (by decide) (fun h => ((by revert h; decide : False)).elim) (fun _ => ?_)
          refine lv_aload_n hx hb dH_indices_61 rfl (lv_at hl 2 rfl) ?_
          refine lv_iconst (v := 0) hx hb dH_indices_62 (by decide) ?_
          obtain ⟨o13, hq14, hf⟩ := xbind hf
          obtain ⟨hPc, hDc, hFc⟩ := xcut (wc := [(a0, .inr (2, [.ref a1, .int v1, .int v2])), (a1, .inl (cT 2, 4096, .inr (.inl f0)))]) hP hD hS hA [2, 3] rfl rfl (by decide)
          refine va_calli (va_runV (C := "ValueBench$Row") (As := [.int 0]) (rest := []) ⟨hx, hb, hml, hown, htx⟩ (gR_length l hl9 D cT aK aV H.size n a0 a1 (0 : Int32) f0 v1 v2 o13 hq14) ⟨callB_of 1 htx (xw_goodC kw_2_191) rfl rfl rfl (htx _ kw_1_4) (htx _ kw_4_157) ⟨by decide, by decide, by decide +kernel⟩ ⟨Nat.le_of_ble_eq_true rfl, Nat.le_of_ble_eq_true rfl⟩, (htx _ kw_2_189), (htx _ kw_2_190)⟩ ⟨xPre_blind, va_recv hK hP (ci := 2) rfl (q0 := 2) rfl, (fun U hU hW => ⟨rfl, xPre_of hZ hS hFc hPc hDc hK U hU hW⟩)⟩ rfl rfl hl.1 rfl (lv_room (Nat.le_of_ble_eq_true rfl)) dH_indices_63 ⟨Nat.le_of_ble_eq_true rfl, Nat.le_of_ble_eq_true rfl⟩) hS (fun q _ h => hFc q h) hFc (fun r15 u9 t H1 locs ht hvm hr9 hB hz1 hk1 hS => ?_)
          obtain ⟨hP1, hK1, hD1⟩ := hB
          rw [ht] at hP1
          obtain ⟨hP, hD⟩ := xjoin (W := [(a2, .inr (2, [.ref a3, .int v4, .int v5])), (a3, .inl (cT 2, 4096, .inr (.inl f3))), (a0, .inr (2, [.ref a1, .int v1, .int v2])), (a1, .inl (cT 2, 4096, .inr (.inl f0)))]) hP hD [2, 3] [0, 1] 2 rfl rfl (by decide) (by decide) hk1 hFc hP1 hD1
          generalize H1 = H at hP hS ⊢
          rw [hr9]
          refine W.eq (g2 := F0 m 66 ls [.int o13]) rfl ?_
          refine lv_if_ne (tgt := 74) hx hb dH_indices_66 (by decide) (fun hc => ?_) (fun hc => ?_)
          · rw [if_neg hc] at hf
            refine lv_aload_n hx hb dH_indices_74 rfl (lv_at hl 3 rfl) ?_
            obtain ⟨o16, hq17, hf⟩ := xbind hf
            obtain ⟨hPc, hDc, hFc⟩ := xcut (wc := [(a2, .inr (2, [.ref a3, .int v4, .int v5])), (a3, .inl (cT 2, 4096, .inr (.inl f3)))]) hP hD hS hA [0, 1] rfl rfl (by decide)
            refine va_calli (va_runV (C := "ValueBench$Row") (As := []) (rest := []) ⟨hx, hb, hml, hown, htx⟩ (gR_open l hl9 D cT aK aV H.size n a2 a3 f3 v4 v5 o16 hq17) ⟨callB_of 0 htx (xw_goodC kw_2_136) rfl rfl rfl (htx _ kw_1_4) (htx _ kw_4_223) ⟨by decide, by decide, by decide +kernel⟩ ⟨Nat.le_of_ble_eq_true rfl, Nat.le_of_ble_eq_true rfl⟩, (htx _ kw_2_134), (htx _ kw_2_135)⟩ ⟨xPre_blind, va_recv hK hP (ci := 2) rfl (q0 := 0) rfl, (fun U hU hW => ⟨rfl, xPre_of hZ hS hFc hPc hDc hK U hU hW⟩)⟩ rfl rfl hl.1 rfl (lv_room (Nat.le_of_ble_eq_true rfl)) dH_indices_75 ⟨Nat.le_of_ble_eq_true rfl, Nat.le_of_ble_eq_true rfl⟩) hS (fun q _ h => hFc q h) hFc (fun r18 u9 t H1 locs ht hvm hr9 hB hz1 hk1 hS => ?_)
            obtain ⟨hP1, hK1, hD1⟩ := hB
            rw [ht] at hP1
            obtain ⟨hP, hD⟩ := xjoin (W := [(a0, .inr (2, [.ref a1, .int v1, .int v2])), (a1, .inl (cT 2, 4096, .inr (.inl f0))), (a2, .inr (2, [.ref a3, .int o16.2.2.1, .int o16.2.2.2])), (a3, .inl (cT 2, 4096, .inr (.inl o16.2.1)))]) hP hD [0, 1] [2, 3] 2 rfl rfl (by decide) (by decide) hk1 hFc hP1 hD1
            generalize H1 = H at hP hS ⊢
            rw [hr9]
            refine W.eq (g2 := F0 m 78 ls [.int o16.1]) rfl ?_
            refine lv_istore (lv' := [(4, .int o16.1), (3, .int 0), (0, .ref a0), (1, .ref a0), (2, .ref a2)]) hx hb dH_indices_78 hl (by decide) rfl (fun ls hl => ?_)
            refine lv_aload_n hx hb dH_indices_80 rfl (lv_at hl 2 rfl) ?_
            refine lv_iconst (v := 0) hx hb dH_indices_81 (by decide) ?_
            refine lv_iconst (v := 4) hx hb dH_indices_82 (by decide) ?_
            obtain ⟨o19, hq20, hf⟩ := xbind hf
            obtain ⟨hPc, hDc, hFc⟩ := xcut (wc := [(a0, .inr (2, [.ref a1, .int v1, .int v2])), (a1, .inl (cT 2, 4096, .inr (.inl f0)))]) hP hD hS hA [0, 1] rfl rfl (by decide)
            refine va_calli (va_runV (C := "ValueBench$Row") (As := [.int 0, .int 4]) (rest := []) ⟨hx, hb, hml, hown, htx⟩ (gR_is l hl9 D cT aK aV H.size n a0 a1 (0 : Int32) (4 : Int32) f0 v1 v2 o19 hq20) ⟨callB_of 2 htx (xw_goodC kw_3_75) rfl rfl rfl (htx _ kw_1_4) (htx _ kw_4_150) ⟨by decide, by decide, by decide +kernel⟩ ⟨Nat.le_of_ble_eq_true rfl, Nat.le_of_ble_eq_true rfl⟩, (htx _ kw_3_73), (htx _ kw_3_74)⟩ ⟨xPre_blind, va_recv hK hP (ci := 2) rfl (q0 := 0) rfl, (fun U hU hW => ⟨rfl, xPre_of hZ hS hFc hPc hDc hK U hU hW⟩)⟩ rfl rfl hl.1 rfl (lv_room (Nat.le_of_ble_eq_true rfl)) dH_indices_83 ⟨Nat.le_of_ble_eq_true rfl, Nat.le_of_ble_eq_true rfl⟩) hS (fun q _ h => hFc q h) hFc (fun r21 u9 t H1 locs ht hvm hr9 hB hz1 hk1 hS => ?_)
            obtain ⟨hP1, hK1, hD1⟩ := hB
            rw [ht] at hP1
            obtain ⟨hP, hD⟩ := xjoin (W := [(a2, .inr (2, [.ref a3, .int o16.2.2.1, .int o16.2.2.2])), (a3, .inl (cT 2, 4096, .inr (.inl o16.2.1))), (a0, .inr (2, [.ref a1, .int v1, .int v2])), (a1, .inl (cT 2, 4096, .inr (.inl f0)))]) hP hD [0, 1] [2, 3] 2 rfl rfl (by decide) (by decide) hk1 hFc hP1 hD1
            generalize H1 = H at hP hS ⊢
            rw [hr9]
            refine W.eq (g2 := F0 m 86 ls [.int o19]) rfl ?_
            refine lv_if_eq (tgt := 98) hx hb dH_indices_86 (by decide) (fun hc => ?_) (fun hc => ?_)
            · rw [if_pos hc] at hf
              refine lv_aload_n hx hb dH_indices_98 rfl (lv_at hl 2 rfl) ?_
              refine lv_aload_n hx hb dH_indices_99 rfl (lv_at hl 3 rfl) ?_
              refine lv_iload_n hx hb dH_indices_100 rfl (lv_at hl 1 rfl) ?_
              refine lv_aload_n hx hb dH_indices_101 rfl (lv_at hl 4 rfl) ?_
              obtain ⟨o22, hq23, hf⟩ := xbind hf
              obtain ⟨hPc, hDc, hFc⟩ := xcut (wc := [(a0, .inr (2, [.ref a1, .int v1, .int v2])), (a1, .inl (cT 2, 4096, .inr (.inl f0))), (a2, .inr (2, [.ref a3, .int o16.2.2.1, .int o16.2.2.2])), (a3, .inl (cT 2, 4096, .inr (.inl o16.2.1)))]) hP hD hS hA [2, 3, 0, 1] rfl rfl (by decide)
              refine va_calli (va_runS (As := [.ref a0, .ref a0, .int 0, .ref a2]) (rest := []) ⟨hx, hb, hml, hown, htx⟩ (gH_putArrayIndicesa l hl9 D cT aK aV H.size d n a0 a1 a2 a3 (0 : Int32) f0 v1 v2 o16.2.1 o16.2.2.1 o16.2.2.2 o22 hq23) ⟨callB_of 4 htx (xw_goodC kw_4_230) rfl rfl rfl (htx _ kw_1_27) (htx _ kw_4_228) ⟨by decide, by decide, by decide +kernel⟩ ⟨(by show (16 * d + 2) + 1 ≤ 16 * d + 3; omega), (by show 8 + (9 + 11) + (400 * d + 51) ≤ 400 * d + 79; omega)⟩, htx _ kw_4_229⟩ ⟨xPre_blind, (fun U hU hW => ⟨rfl, xPre_of hZ hS hFc hPc hDc hK U hU hW⟩)⟩ rfl rfl hl.1 rfl (lv_room (Nat.le_of_ble_eq_true rfl)) dH_indices_102 ⟨Nat.le_of_ble_eq_true rfl, Nat.le_of_ble_eq_true rfl⟩) hS (fun q _ h => hFc q h) hFc (fun r24 u9 t H1 locs ht hvm hr9 hB hz1 hk1 hS => ?_)
              obtain ⟨hP1, hK1, hD1⟩ := hB
              rw [ht] at hP1
              obtain ⟨hP, hD⟩ := xjoin (W := [(a0, .inr (2, [.ref a1, .int v1, .int v2])), (a1, .inl (cT 2, 4096, .inr (.inl f0))), (a2, .inr (2, [.ref a3, .int o22.2.2.1, .int o22.2.2.2])), (a3, .inl (cT 2, 4096, .inr (.inl o22.2.1)))]) hP hD [2, 3, 0, 1] [] 0 rfl rfl (by decide) (by decide) hk1 hFc hP1 hD1
              generalize H1 = H at hP hS ⊢
              rw [hr9]
              refine W.eq (g2 := F0 m 105 ls [.int o22.1]) rfl ?_
              refine lv_istore (lv' := [(5, .int o22.1), (4, .int o16.1), (3, .int 0), (0, .ref a0), (1, .ref a0), (2, .ref a2)]) hx hb dH_indices_105 hl (by decide) rfl (fun ls hl => ?_)
              refine lv_aload_n hx hb dH_indices_107 rfl (lv_at hl 5 rfl) ?_
              refine lv_iload hx hb dH_indices_108 (lv_at hl 1 rfl) ?_
              refine lv_iconst (v := 5) hx hb dH_indices_110 (by decide) ?_
              refine lv_iload hx hb dH_indices_111 (lv_at hl 0 rfl) ?_
              obtain ⟨o25, hq26, hf⟩ := xbind hf
              obtain ⟨hPc, hDc, hFc⟩ := xcut (wc := [(a2, .inr (2, [.ref a3, .int o22.2.2.1, .int o22.2.2.2])), (a3, .inl (cT 2, 4096, .inr (.inl o22.2.1)))]) hP hD hS hA [2, 3] rfl rfl (by decide)
              refine va_callv (va_runV (C := "ValueBench$Row") (As := [.int o16.1, .int 5, .int o22.1]) (rest := []) ⟨hx, hb, hml, hown, htx⟩ (gR_close l hl9 D cT aK aV H.size n a2 a3 o16.1 (5 : Int32) o22.1 o22.2.1 o22.2.2.1 o22.2.2.2 o25 hq26) ⟨callB_of 3 htx (xw_goodC kw_2_167) rfl rfl rfl (htx _ kw_1_4) (htx _ kw_4_235) ⟨by decide, by decide, by decide +kernel⟩ ⟨Nat.le_of_ble_eq_true rfl, Nat.le_of_ble_eq_true rfl⟩, (htx _ kw_2_165), (htx _ kw_2_166)⟩ ⟨xPre_blind, va_recv hK hP (ci := 2) rfl (q0 := 2) rfl, (fun U hU hW => ⟨rfl, xPre_of hZ hS hFc hPc hDc hK U hU hW⟩)⟩ rfl rfl hl.1 rfl (lv_room (Nat.le_of_ble_eq_true rfl)) dH_indices_113 ⟨Nat.le_of_ble_eq_true rfl, Nat.le_of_ble_eq_true rfl⟩) hS (fun q _ h => hFc q h) hFc (fun u9 t H1 locs ht hvm hr9 hB hz1 hk1 hS => ?_)
              obtain ⟨hP1, hK1, hD1⟩ := hB
              rw [ht] at hP1
              obtain ⟨hP, hD⟩ := xjoin (W := [(a0, .inr (2, [.ref a1, .int v1, .int v2])), (a1, .inl (cT 2, 4096, .inr (.inl f0))), (a2, .inr (2, [.ref a3, .int o22.2.2.1, .int o22.2.2.2])), (a3, .inl (cT 2, 4096, .inr (.inl o25)))]) hP hD [2, 3] [0, 1] 2 rfl rfl (by decide) (by decide) hk1 hFc hP1 hD1
              generalize H1 = H at hP hS ⊢
              refine lv_iconst (v := 0) hx hb dH_indices_116 (by decide) ?_
              obtain rfl := Option.some.inj hf
              obtain ⟨hP9, hD9⟩ := xsub (wc := [(a0, .inr (2, [.ref a1, .int v1, .int v2])), (a1, .inl (cT 2, 4096, .inr (.inl f0))), (a2, .inr (2, [.ref a3, .int o22.2.2.1, .int o22.2.2.2])), (a3, .inl (cT 2, 4096, .inr (.inl o25)))]) hP hD [0, 1, 2, 3] rfl rfl (by decide)
              exact W.iret (v := (0 : Int32)) hx hb hr (fun t ht hW => ⟨⟨(0 : Int32), (), rfl, rfl, by rw [ht]; exact hP9, va_K.moved hW.alike hK, hD9⟩, hS.F ht⟩) hS.2.2 dH_indices_117
            · rw [if_neg hc] at hf
              refine lv_aload_n hx hb dH_indices_89 rfl (lv_at hl 2 rfl) ?_
              refine lv_aload_n hx hb dH_indices_90 rfl (lv_at hl 3 rfl) ?_
              refine lv_aload_n hx hb dH_indices_91 rfl (lv_at hl 4 rfl) ?_
              obtain ⟨o22, hq23, hf⟩ := xbind hf
              obtain ⟨hPc, hDc, hFc⟩ := xcut (wc := [(a0, .inr (2, [.ref a1, .int v1, .int v2])), (a1, .inl (cT 2, 4096, .inr (.inl f0))), (a2, .inr (2, [.ref a3, .int o16.2.2.1, .int o16.2.2.2])), (a3, .inl (cT 2, 4096, .inr (.inl o16.2.1)))]) hP hD hS hA [2, 3, 0, 1] rfl rfl (by decide)
              refine va_calli (va_runS (As := [.ref a0, .ref a0, .ref a2]) (rest := []) ⟨hx, hb, hml, hown, htx⟩ (gH_putStringIndicesa l hl9 D cT aK aV H.size n a0 a1 a2 a3 f0 v1 v2 o16.2.1 o16.2.2.1 o16.2.2.2 o22 hq23) ⟨callB_of 3 htx (xw_goodC kw_4_226) rfl rfl rfl (htx _ kw_1_27) (htx _ kw_4_224) ⟨by decide, by decide, by decide +kernel⟩ ⟨Nat.le_of_ble_eq_true rfl, Nat.le_of_ble_eq_true rfl⟩, htx _ kw_4_225⟩ ⟨xPre_blind, (fun U hU hW => ⟨rfl, xPre_of hZ hS hFc hPc hDc hK U hU hW⟩)⟩ rfl rfl hl.1 rfl (lv_room (Nat.le_of_ble_eq_true rfl)) dH_indices_92 ⟨Nat.le_of_ble_eq_true rfl, Nat.le_of_ble_eq_true rfl⟩) hS (fun q _ h => hFc q h) hFc (fun r24 u9 t H1 locs ht hvm hr9 hB hz1 hk1 hS => ?_)
              obtain ⟨hP1, hK1, hD1⟩ := hB
              rw [ht] at hP1
              obtain ⟨hP, hD⟩ := xjoin (W := [(a0, .inr (2, [.ref a1, .int v1, .int v2])), (a1, .inl (cT 2, 4096, .inr (.inl f0))), (a2, .inr (2, [.ref a3, .int o22.2.2.1, .int o22.2.2.2])), (a3, .inl (cT 2, 4096, .inr (.inl o22.2.1)))]) hP hD [2, 3, 0, 1] [] 0 rfl rfl (by decide) (by decide) hk1 hFc hP1 hD1
              generalize H1 = H at hP hS ⊢
              rw [hr9]
              refine W.eq (g2 := F0 m 95 ls [.int o22.1]) rfl ?_
              refine lv_goto (tgt := 105) hx hb dH_indices_95 (by decide) ?_
              refine lv_istore (lv' := [(5, .int o22.1), (4, .int o16.1), (3, .int 0), (0, .ref a0), (1, .ref a0), (2, .ref a2)]) hx hb dH_indices_105 hl (by decide) rfl (fun ls hl => ?_)
              refine lv_aload_n hx hb dH_indices_107 rfl (lv_at hl 5 rfl) ?_
              refine lv_iload hx hb dH_indices_108 (lv_at hl 1 rfl) ?_
              refine lv_iconst (v := 5) hx hb dH_indices_110 (by decide) ?_
              refine lv_iload hx hb dH_indices_111 (lv_at hl 0 rfl) ?_
              obtain ⟨o25, hq26, hf⟩ := xbind hf
              obtain ⟨hPc, hDc, hFc⟩ := xcut (wc := [(a2, .inr (2, [.ref a3, .int o22.2.2.1, .int o22.2.2.2])), (a3, .inl (cT 2, 4096, .inr (.inl o22.2.1)))]) hP hD hS hA [2, 3] rfl rfl (by decide)
              refine va_callv (va_runV (C := "ValueBench$Row") (As := [.int o16.1, .int 5, .int o22.1]) (rest := []) ⟨hx, hb, hml, hown, htx⟩ (gR_close l hl9 D cT aK aV H.size n a2 a3 o16.1 (5 : Int32) o22.1 o22.2.1 o22.2.2.1 o22.2.2.2 o25 hq26) ⟨callB_of 3 htx (xw_goodC kw_2_167) rfl rfl rfl (htx _ kw_1_4) (htx _ kw_4_235) ⟨by decide, by decide, by decide +kernel⟩ ⟨Nat.le_of_ble_eq_true rfl, Nat.le_of_ble_eq_true rfl⟩, (htx _ kw_2_165), (htx _ kw_2_166)⟩ ⟨xPre_blind, va_recv hK hP (ci := 2) rfl (q0 := 2) rfl, (fun U hU hW => ⟨rfl, xPre_of hZ hS hFc hPc hDc hK U hU hW⟩)⟩ rfl rfl hl.1 rfl (lv_room (Nat.le_of_ble_eq_true rfl)) dH_indices_113 ⟨Nat.le_of_ble_eq_true rfl, Nat.le_of_ble_eq_true rfl⟩) hS (fun q _ h => hFc q h) hFc (fun u9 t H1 locs ht hvm hr9 hB hz1 hk1 hS => ?_)
              obtain ⟨hP1, hK1, hD1⟩ := hB
              rw [ht] at hP1
              obtain ⟨hP, hD⟩ := xjoin (W := [(a0, .inr (2, [.ref a1, .int v1, .int v2])), (a1, .inl (cT 2, 4096, .inr (.inl f0))), (a2, .inr (2, [.ref a3, .int o22.2.2.1, .int o22.2.2.2])), (a3, .inl (cT 2, 4096, .inr (.inl o25)))]) hP hD [2, 3] [0, 1] 2 rfl rfl (by decide) (by decide) hk1 hFc hP1 hD1
              generalize H1 = H at hP hS ⊢
              refine lv_iconst (v := 0) hx hb dH_indices_116 (by decide) ?_
              obtain rfl := Option.some.inj hf
              obtain ⟨hP9, hD9⟩ := xsub (wc := [(a0, .inr (2, [.ref a1, .int v1, .int v2])), (a1, .inl (cT 2, 4096, .inr (.inl f0))), (a2, .inr (2, [.ref a3, .int o22.2.2.1, .int o22.2.2.2])), (a3, .inl (cT 2, 4096, .inr (.inl o25)))]) hP hD [0, 1, 2, 3] rfl rfl (by decide)
              exact W.iret (v := (0 : Int32)) hx hb hr (fun t ht hW => ⟨⟨(0 : Int32), (), rfl, rfl, by rw [ht]; exact hP9, va_K.moved hW.alike hK, hD9⟩, hS.F ht⟩) hS.2.2 dH_indices_117
          · rw [if_pos hc] at hf
            refine lv_aload_n hx hb dH_indices_69 rfl (lv_at hl 3 rfl) ?_
            obtain ⟨o16, hq17, hf⟩ := xbind hf
            obtain ⟨hPc, hDc, hFc⟩ := xcut (wc := [(a2, .inr (2, [.ref a3, .int v4, .int v5])), (a3, .inl (cT 2, 4096, .inr (.inl f3)))]) hP hD hS hA [0, 1] rfl rfl (by decide)
            refine va_calli (va_runS (As := [.ref a2]) (rest := []) ⟨hx, hb, hml, hown, htx⟩ (gH_nothing l hl9 D cT aK aV H.size n a2 a3 f3 v4 v5 o16 hq17) ⟨callB_of 1 htx (xw_goodC kw_4_221) rfl rfl rfl (htx _ kw_1_27) (htx _ kw_4_219) ⟨by decide, by decide, by decide +kernel⟩ ⟨Nat.le_of_ble_eq_true rfl, Nat.le_of_ble_eq_true rfl⟩, htx _ kw_4_220⟩ ⟨xPre_blind, (fun U hU hW => ⟨rfl, xPre_of hZ hS hFc hPc hDc hK U hU hW⟩)⟩ rfl rfl hl.1 rfl (lv_room (Nat.le_of_ble_eq_true rfl)) dH_indices_70 ⟨Nat.le_of_ble_eq_true rfl, Nat.le_of_ble_eq_true rfl⟩) hS (fun q _ h => hFc q h) hFc (fun r18 u9 t H1 locs ht hvm hr9 hB hz1 hk1 hS => ?_)
            obtain ⟨hP1, hK1, hD1⟩ := hB
            rw [ht] at hP1
            obtain ⟨hP, hD⟩ := xjoin (W := [(a0, .inr (2, [.ref a1, .int v1, .int v2])), (a1, .inl (cT 2, 4096, .inr (.inl f0))), (a2, .inr (2, [.ref a3, .int o16.2.2.1, .int o16.2.2.2])), (a3, .inl (cT 2, 4096, .inr (.inl o16.2.1)))]) hP hD [0, 1] [2, 3] 2 rfl rfl (by decide) (by decide) hk1 hFc hP1 hD1
            generalize H1 = H at hP hS ⊢
            rw [hr9]
            refine W.eq (g2 := F0 m 73 ls [.int o16.1]) rfl ?_
            obtain rfl := Option.some.inj hf
            obtain ⟨hP9, hD9⟩ := xsub (wc := [(a0, .inr (2, [.ref a1, .int v1, .int v2])), (a1, .inl (cT 2, 4096, .inr (.inl f0))), (a2, .inr (2, [.ref a3, .int o16.2.2.1, .int o16.2.2.2])), (a3, .inl (cT 2, 4096, .inr (.inl o16.2.1)))]) hP hD [0, 1, 2, 3] rfl rfl (by decide)
            exact W.iret (v := o16.1) hx hb hr (fun t ht hW => ⟨⟨o16.1, (), rfl, rfl, by rw [ht]; exact hP9, va_K.moved hW.alike hK, hD9⟩, hS.F ht⟩) hS.2.2 dH_indices_73
        · rw [if_pos hc] at hf
          refine lv_iconst (v := 1) hx hb dH_indices_51 (by decide) ?_
          refine lv_goto (tgt := 56) hx hb dH_indices_52 (by decide) ?_
          refine lv_istore_n (lv' := [(3, .int 1), (0, .ref a0), (1, .ref a0), (2, .ref a2)]) hx hb dH_indices_56 rfl hl (by decide) rfl (fun ls hl => ?_)
          refine lv_iload_n hx hb dH_indices_57 rfl (lv_at hl 0 rfl) ?_
          refine lv_if_ne (tgt := 74) hx hb dH_indices_58 (by decide) (fun _ => ?_) (fun h => ((by revert h; decide : False)).elim)
          refine lv_aload_n hx hb dH_indices_74 rfl (lv_at hl 3 rfl) ?_
          obtain ⟨o13, hq14, hf⟩ := xbind hf
          obtain ⟨hPc, hDc, hFc⟩ := xcut (wc := [(a2, .inr (2, [.ref a3, .int v4, .int v5])), (a3, .inl (cT 2, 4096, .inr (.inl f3)))]) hP hD hS hA [0, 1] rfl rfl (by decide)
          refine va_calli (va_runV (C := "ValueBench$Row") (As := []) (rest := []) ⟨hx, hb, hml, hown, htx⟩ (gR_open l hl9 D cT aK aV H.size n a2 a3 f3 v4 v5 o13 hq14) ⟨callB_of 0 htx (xw_goodC kw_2_136) rfl rfl rfl (htx _ kw_1_4) (htx _ kw_4_223) ⟨by decide, by decide, by decide +kernel⟩ ⟨Nat.le_of_ble_eq_true rfl, Nat.le_of_ble_eq_true rfl⟩, (htx _ kw_2_134), (htx _ kw_2_135)⟩ ⟨xPre_blind, va_recv hK hP (ci := 2) rfl (q0 := 0) rfl, (fun U hU hW => ⟨rfl, xPre_of hZ hS hFc hPc hDc hK U hU hW⟩)⟩ rfl rfl hl.1 rfl (lv_room (Nat.le_of_ble_eq_true rfl)) dH_indices_75 ⟨Nat.le_of_ble_eq_true rfl, Nat.le_of_ble_eq_true rfl⟩) hS (fun q _ h => hFc q h) hFc (fun r15 u9 t H1 locs ht hvm hr9 hB hz1 hk1 hS => ?_)
          obtain ⟨hP1, hK1, hD1⟩ := hB
          rw [ht] at hP1
          obtain ⟨hP, hD⟩ := xjoin (W := [(a0, .inr (2, [.ref a1, .int v1, .int v2])), (a1, .inl (cT 2, 4096, .inr (.inl f0))), (a2, .inr (2, [.ref a3, .int o13.2.2.1, .int o13.2.2.2])), (a3, .inl (cT 2, 4096, .inr (.inl o13.2.1)))]) hP hD [0, 1] [2, 3] 2 rfl rfl (by decide) (by decide) hk1 hFc hP1 hD1
          generalize H1 = H at hP hS ⊢
          rw [hr9]
          refine W.eq (g2 := F0 m 78 ls [.int o13.1]) rfl ?_
          refine lv_istore (lv' := [(4, .int o13.1), (3, .int 1), (0, .ref a0), (1, .ref a0), (2, .ref a2)]) hx hb dH_indices_78 hl (by decide) rfl (fun ls hl => ?_)
          refine lv_aload_n hx hb dH_indices_80 rfl (lv_at hl 2 rfl) ?_
          refine lv_iconst (v := 0) hx hb dH_indices_81 (by decide) ?_
          refine lv_iconst (v := 4) hx hb dH_indices_82 (by decide) ?_
          obtain ⟨o16, hq17, hf⟩ := xbind hf
          obtain ⟨hPc, hDc, hFc⟩ := xcut (wc := [(a0, .inr (2, [.ref a1, .int v1, .int v2])), (a1, .inl (cT 2, 4096, .inr (.inl f0)))]) hP hD hS hA [0, 1] rfl rfl (by decide)
          refine va_calli (va_runV (C := "ValueBench$Row") (As := [.int 0, .int 4]) (rest := []) ⟨hx, hb, hml, hown, htx⟩ (gR_is l hl9 D cT aK aV H.size n a0 a1 (0 : Int32) (4 : Int32) f0 v1 v2 o16 hq17) ⟨callB_of 2 htx (xw_goodC kw_3_75) rfl rfl rfl (htx _ kw_1_4) (htx _ kw_4_150) ⟨by decide, by decide, by decide +kernel⟩ ⟨Nat.le_of_ble_eq_true rfl, Nat.le_of_ble_eq_true rfl⟩, (htx _ kw_3_73), (htx _ kw_3_74)⟩ ⟨xPre_blind, va_recv hK hP (ci := 2) rfl (q0 := 0) rfl, (fun U hU hW => ⟨rfl, xPre_of hZ hS hFc hPc hDc hK U hU hW⟩)⟩ rfl rfl hl.1 rfl (lv_room (Nat.le_of_ble_eq_true rfl)) dH_indices_83 ⟨Nat.le_of_ble_eq_true rfl, Nat.le_of_ble_eq_true rfl⟩) hS (fun q _ h => hFc q h) hFc (fun r18 u9 t H1 locs ht hvm hr9 hB hz1 hk1 hS => ?_)
          obtain ⟨hP1, hK1, hD1⟩ := hB
          rw [ht] at hP1
          obtain ⟨hP, hD⟩ := xjoin (W := [(a2, .inr (2, [.ref a3, .int o13.2.2.1, .int o13.2.2.2])), (a3, .inl (cT 2, 4096, .inr (.inl o13.2.1))), (a0, .inr (2, [.ref a1, .int v1, .int v2])), (a1, .inl (cT 2, 4096, .inr (.inl f0)))]) hP hD [0, 1] [2, 3] 2 rfl rfl (by decide) (by decide) hk1 hFc hP1 hD1
          generalize H1 = H at hP hS ⊢
          rw [hr9]
          refine W.eq (g2 := F0 m 86 ls [.int o16]) rfl ?_
          refine lv_if_eq (tgt := 98) hx hb dH_indices_86 (by decide) (fun hc => ?_) (fun hc => ?_)
          · rw [if_pos hc] at hf
            refine lv_aload_n hx hb dH_indices_98 rfl (lv_at hl 2 rfl) ?_
            refine lv_aload_n hx hb dH_indices_99 rfl (lv_at hl 3 rfl) ?_
            refine lv_iload_n hx hb dH_indices_100 rfl (lv_at hl 1 rfl) ?_
            refine lv_aload_n hx hb dH_indices_101 rfl (lv_at hl 4 rfl) ?_
            obtain ⟨o19, hq20, hf⟩ := xbind hf
            obtain ⟨hPc, hDc, hFc⟩ := xcut (wc := [(a0, .inr (2, [.ref a1, .int v1, .int v2])), (a1, .inl (cT 2, 4096, .inr (.inl f0))), (a2, .inr (2, [.ref a3, .int o13.2.2.1, .int o13.2.2.2])), (a3, .inl (cT 2, 4096, .inr (.inl o13.2.1)))]) hP hD hS hA [2, 3, 0, 1] rfl rfl (by decide)
            refine va_calli (va_runS (As := [.ref a0, .ref a0, .int 1, .ref a2]) (rest := []) ⟨hx, hb, hml, hown, htx⟩ (gH_putArrayIndicesa l hl9 D cT aK aV H.size d n a0 a1 a2 a3 (1 : Int32) f0 v1 v2 o13.2.1 o13.2.2.1 o13.2.2.2 o19 hq20) ⟨callB_of 4 htx (xw_goodC kw_4_230) rfl rfl rfl (htx _ kw_1_27) (htx _ kw_4_228) ⟨by decide, by decide, by decide +kernel⟩ ⟨(by show (16 * d + 2) + 1 ≤ 16 * d + 3; omega), (by show 8 + (9 + 11) + (400 * d + 51) ≤ 400 * d + 79; omega)⟩, htx _ kw_4_229⟩ ⟨xPre_blind, (fun U hU hW => ⟨rfl, xPre_of hZ hS hFc hPc hDc hK U hU hW⟩)⟩ rfl rfl hl.1 rfl (lv_room (Nat.le_of_ble_eq_true rfl)) dH_indices_102 ⟨Nat.le_of_ble_eq_true rfl, Nat.le_of_ble_eq_true rfl⟩) hS (fun q _ h => hFc q h) hFc (fun r21 u9 t H1 locs ht hvm hr9 hB hz1 hk1 hS => ?_)
            obtain ⟨hP1, hK1, hD1⟩ := hB
            rw [ht] at hP1
            obtain ⟨hP, hD⟩ := xjoin (W := [(a0, .inr (2, [.ref a1, .int v1, .int v2])), (a1, .inl (cT 2, 4096, .inr (.inl f0))), (a2, .inr (2, [.ref a3, .int o19.2.2.1, .int o19.2.2.2])), (a3, .inl (cT 2, 4096, .inr (.inl o19.2.1)))]) hP hD [2, 3, 0, 1] [] 0 rfl rfl (by decide) (by decide) hk1 hFc hP1 hD1
            generalize H1 = H at hP hS ⊢
            rw [hr9]
            refine W.eq (g2 := F0 m 105 ls [.int o19.1]) rfl ?_
            refine lv_istore (lv' := [(5, .int o19.1), (4, .int o13.1), (3, .int 1), (0, .ref a0), (1, .ref a0), (2, .ref a2)]) hx hb dH_indices_105 hl (by decide) rfl (fun ls hl => ?_)
            refine lv_aload_n hx hb dH_indices_107 rfl (lv_at hl 5 rfl) ?_
            refine lv_iload hx hb dH_indices_108 (lv_at hl 1 rfl) ?_
            refine lv_iconst (v := 5) hx hb dH_indices_110 (by decide) ?_
            refine lv_iload hx hb dH_indices_111 (lv_at hl 0 rfl) ?_
            obtain ⟨o22, hq23, hf⟩ := xbind hf
            obtain ⟨hPc, hDc, hFc⟩ := xcut (wc := [(a2, .inr (2, [.ref a3, .int o19.2.2.1, .int o19.2.2.2])), (a3, .inl (cT 2, 4096, .inr (.inl o19.2.1)))]) hP hD hS hA [2, 3] rfl rfl (by decide)
            refine va_callv (va_runV (C := "ValueBench$Row") (As := [.int o13.1, .int 5, .int o19.1]) (rest := []) ⟨hx, hb, hml, hown, htx⟩ (gR_close l hl9 D cT aK aV H.size n a2 a3 o13.1 (5 : Int32) o19.1 o19.2.1 o19.2.2.1 o19.2.2.2 o22 hq23) ⟨callB_of 3 htx (xw_goodC kw_2_167) rfl rfl rfl (htx _ kw_1_4) (htx _ kw_4_235) ⟨by decide, by decide, by decide +kernel⟩ ⟨Nat.le_of_ble_eq_true rfl, Nat.le_of_ble_eq_true rfl⟩, (htx _ kw_2_165), (htx _ kw_2_166)⟩ ⟨xPre_blind, va_recv hK hP (ci := 2) rfl (q0 := 2) rfl, (fun U hU hW => ⟨rfl, xPre_of hZ hS hFc hPc hDc hK U hU hW⟩)⟩ rfl rfl hl.1 rfl (lv_room (Nat.le_of_ble_eq_true rfl)) dH_indices_113 ⟨Nat.le_of_ble_eq_true rfl, Nat.le_of_ble_eq_true rfl⟩) hS (fun q _ h => hFc q h) hFc (fun u9 t H1 locs ht hvm hr9 hB hz1 hk1 hS => ?_)
            obtain ⟨hP1, hK1, hD1⟩ := hB
            rw [ht] at hP1
            obtain ⟨hP, hD⟩ := xjoin (W := [(a0, .inr (2, [.ref a1, .int v1, .int v2])), (a1, .inl (cT 2, 4096, .inr (.inl f0))), (a2, .inr (2, [.ref a3, .int o19.2.2.1, .int o19.2.2.2])), (a3, .inl (cT 2, 4096, .inr (.inl o22)))]) hP hD [2, 3] [0, 1] 2 rfl rfl (by decide) (by decide) hk1 hFc hP1 hD1
            generalize H1 = H at hP hS ⊢
            refine lv_iconst (v := 0) hx hb dH_indices_116 (by decide) ?_
            obtain rfl := Option.some.inj hf
            obtain ⟨hP9, hD9⟩ := xsub (wc := [(a0, .inr (2, [.ref a1, .int v1, .int v2])), (a1, .inl (cT 2, 4096, .inr (.inl f0))), (a2, .inr (2, [.ref a3, .int o19.2.2.1, .int o19.2.2.2])), (a3, .inl (cT 2, 4096, .inr (.inl o22)))]) hP hD [0, 1, 2, 3] rfl rfl (by decide)
            exact W.iret (v := (0 : Int32)) hx hb hr (fun t ht hW => ⟨⟨(0 : Int32), (), rfl, rfl, by rw [ht]; exact hP9, va_K.moved hW.alike hK, hD9⟩, hS.F ht⟩) hS.2.2 dH_indices_117
          · rw [if_neg hc] at hf
            refine lv_aload_n hx hb dH_indices_89 rfl (lv_at hl 2 rfl) ?_
            refine lv_aload_n hx hb dH_indices_90 rfl (lv_at hl 3 rfl) ?_
            refine lv_aload_n hx hb dH_indices_91 rfl (lv_at hl 4 rfl) ?_
            obtain ⟨o19, hq20, hf⟩ := xbind hf
            obtain ⟨hPc, hDc, hFc⟩ := xcut (wc := [(a0, .inr (2, [.ref a1, .int v1, .int v2])), (a1, .inl (cT 2, 4096, .inr (.inl f0))), (a2, .inr (2, [.ref a3, .int o13.2.2.1, .int o13.2.2.2])), (a3, .inl (cT 2, 4096, .inr (.inl o13.2.1)))]) hP hD hS hA [2, 3, 0, 1] rfl rfl (by decide)
            refine va_calli (va_runS (As := [.ref a0, .ref a0, .ref a2]) (rest := []) ⟨hx, hb, hml, hown, htx⟩ (gH_putStringIndicesa l hl9 D cT aK aV H.size n a0 a1 a2 a3 f0 v1 v2 o13.2.1 o13.2.2.1 o13.2.2.2 o19 hq20) ⟨callB_of 3 htx (xw_goodC kw_4_226) rfl rfl rfl (htx _ kw_1_27) (htx _ kw_4_224) ⟨by decide, by decide, by decide +kernel⟩ ⟨Nat.le_of_ble_eq_true rfl, Nat.le_of_ble_eq_true rfl⟩, htx _ kw_4_225⟩ ⟨xPre_blind, (fun U hU hW => ⟨rfl, xPre_of hZ hS hFc hPc hDc hK U hU hW⟩)⟩ rfl rfl hl.1 rfl (lv_room (Nat.le_of_ble_eq_true rfl)) dH_indices_92 ⟨Nat.le_of_ble_eq_true rfl, Nat.le_of_ble_eq_true rfl⟩) hS (fun q _ h => hFc q h) hFc (fun r21 u9 t H1 locs ht hvm hr9 hB hz1 hk1 hS => ?_)
            obtain ⟨hP1, hK1, hD1⟩ := hB
            rw [ht] at hP1
            obtain ⟨hP, hD⟩ := xjoin (W := [(a0, .inr (2, [.ref a1, .int v1, .int v2])), (a1, .inl (cT 2, 4096, .inr (.inl f0))), (a2, .inr (2, [.ref a3, .int o19.2.2.1, .int o19.2.2.2])), (a3, .inl (cT 2, 4096, .inr (.inl o19.2.1)))]) hP hD [2, 3, 0, 1] [] 0 rfl rfl (by decide) (by decide) hk1 hFc hP1 hD1
            generalize H1 = H at hP hS ⊢
            rw [hr9]
            refine W.eq (g2 := F0 m 95 ls [.int o19.1]) rfl ?_
            refine lv_goto (tgt := 105) hx hb dH_indices_95 (by decide) ?_
            refine lv_istore (lv' := [(5, .int o19.1), (4, .int o13.1), (3, .int 1), (0, .ref a0), (1, .ref a0), (2, .ref a2)]) hx hb dH_indices_105 hl (by decide) rfl (fun ls hl => ?_)
            refine lv_aload_n hx hb dH_indices_107 rfl (lv_at hl 5 rfl) ?_
            refine lv_iload hx hb dH_indices_108 (lv_at hl 1 rfl) ?_
            refine lv_iconst (v := 5) hx hb dH_indices_110 (by decide) ?_
            refine lv_iload hx hb dH_indices_111 (lv_at hl 0 rfl) ?_
            obtain ⟨o22, hq23, hf⟩ := xbind hf
            obtain ⟨hPc, hDc, hFc⟩ := xcut (wc := [(a2, .inr (2, [.ref a3, .int o19.2.2.1, .int o19.2.2.2])), (a3, .inl (cT 2, 4096, .inr (.inl o19.2.1)))]) hP hD hS hA [2, 3] rfl rfl (by decide)
            refine va_callv (va_runV (C := "ValueBench$Row") (As := [.int o13.1, .int 5, .int o19.1]) (rest := []) ⟨hx, hb, hml, hown, htx⟩ (gR_close l hl9 D cT aK aV H.size n a2 a3 o13.1 (5 : Int32) o19.1 o19.2.1 o19.2.2.1 o19.2.2.2 o22 hq23) ⟨callB_of 3 htx (xw_goodC kw_2_167) rfl rfl rfl (htx _ kw_1_4) (htx _ kw_4_235) ⟨by decide, by decide, by decide +kernel⟩ ⟨Nat.le_of_ble_eq_true rfl, Nat.le_of_ble_eq_true rfl⟩, (htx _ kw_2_165), (htx _ kw_2_166)⟩ ⟨xPre_blind, va_recv hK hP (ci := 2) rfl (q0 := 2) rfl, (fun U hU hW => ⟨rfl, xPre_of hZ hS hFc hPc hDc hK U hU hW⟩)⟩ rfl rfl hl.1 rfl (lv_room (Nat.le_of_ble_eq_true rfl)) dH_indices_113 ⟨Nat.le_of_ble_eq_true rfl, Nat.le_of_ble_eq_true rfl⟩) hS (fun q _ h => hFc q h) hFc (fun u9 t H1 locs ht hvm hr9 hB hz1 hk1 hS => ?_)
            obtain ⟨hP1, hK1, hD1⟩ := hB
            rw [ht] at hP1
            obtain ⟨hP, hD⟩ := xjoin (W := [(a0, .inr (2, [.ref a1, .int v1, .int v2])), (a1, .inl (cT 2, 4096, .inr (.inl f0))), (a2, .inr (2, [.ref a3, .int o19.2.2.1, .int o19.2.2.2])), (a3, .inl (cT 2, 4096, .inr (.inl o22)))]) hP hD [2, 3] [0, 1] 2 rfl rfl (by decide) (by decide) hk1 hFc hP1 hD1
            generalize H1 = H at hP hS ⊢
            refine lv_iconst (v := 0) hx hb dH_indices_116 (by decide) ?_
            obtain rfl := Option.some.inj hf
            obtain ⟨hP9, hD9⟩ := xsub (wc := [(a0, .inr (2, [.ref a1, .int v1, .int v2])), (a1, .inl (cT 2, 4096, .inr (.inl f0))), (a2, .inr (2, [.ref a3, .int o19.2.2.1, .int o19.2.2.2])), (a3, .inl (cT 2, 4096, .inr (.inl o22)))]) hP hD [0, 1, 2, 3] rfl rfl (by decide)
            exact W.iret (v := (0 : Int32)) hx hb hr (fun t ht hW => ⟨⟨(0 : Int32), (), rfl, rfl, by rw [ht]; exact hP9, va_K.moved hW.alike hK, hD9⟩, hS.F ht⟩) hS.2.2 dH_indices_117
    · rw [if_pos hc] at hf
      refine lv_aload_n hx hb dH_indices_23 rfl (lv_at hl 0 rfl) ?_
      refine lv_aload_n hx hb dH_indices_24 rfl (lv_at hl 1 rfl) ?_
      obtain ⟨o7, hq8, hf⟩ := xbind hf
      obtain ⟨hPc, hDc, hFc⟩ := xcut (wc := [(a0, .inr (2, [.ref a1, .int v1, .int v2])), (a1, .inl (cT 2, 4096, .inr (.inl f0)))]) hP hD hS hA [2, 3] rfl rfl (by decide)
      refine va_calli (va_runS (As := [.ref a0, .ref a0]) (rest := []) ⟨hx, hb, hml, hown, htx⟩ (gH_areStringsa l hl9 D cT aK aV H.size n a0 a1 f0 v1 v2 o7 hq8) ⟨callB_of 2 htx (xw_goodC kw_4_201) rfl rfl rfl (htx _ kw_1_27) (htx _ kw_4_199) ⟨by decide, by decide, by decide +kernel⟩ ⟨Nat.le_of_ble_eq_true rfl, Nat.le_of_ble_eq_true rfl⟩, htx _ kw_4_200⟩ ⟨xPre_blind, (fun U hU hW => ⟨rfl, xPre_of hZ hS hFc hPc hDc hK U hU hW⟩)⟩ rfl rfl hl.1 rfl (lv_room (Nat.le_of_ble_eq_true rfl)) dH_indices_25 ⟨Nat.le_of_ble_eq_true rfl, Nat.le_of_ble_eq_true rfl⟩) hS (fun q _ h => hFc q h) hFc (fun r9 u9 t H1 locs ht hvm hr9 hB hz1 hk1 hS => ?_)
      obtain ⟨hP1, hK1, hD1⟩ := hB
      rw [ht] at hP1
      obtain ⟨hP, hD⟩ := xjoin (W := [(a2, .inr (2, [.ref a3, .int v4, .int v5])), (a3, .inl (cT 2, 4096, .inr (.inl f3))), (a0, .inr (2, [.ref a1, .int v1, .int v2])), (a1, .inl (cT 2, 4096, .inr (.inl f0)))]) hP hD [2, 3] [0, 1] 2 rfl rfl (by decide) (by decide) hk1 hFc hP1 hD1
      generalize H1 = H at hP hS ⊢
      rw [hr9]
      refine W.eq (g2 := F0 m 28 ls [.int o7]) rfl ?_
      refine lv_if_ne (tgt := 33) hx hb dH_indices_28 (by decide) (fun hc => ?_) (fun hc => ?_)
      · rw [if_neg hc] at hf
        refine lv_aload_n hx hb dH_indices_33 rfl (lv_at hl 0 rfl) ?_
        refine lv_iconst (v := 0) hx hb dH_indices_34 (by decide) ?_
        refine lv_iconst (v := 5) hx hb dH_indices_35 (by decide) ?_
        obtain ⟨o10, hq11, hf⟩ := xbind hf
        obtain ⟨hPc, hDc, hFc⟩ := xcut (wc := [(a0, .inr (2, [.ref a1, .int v1, .int v2])), (a1, .inl (cT 2, 4096, .inr (.inl f0)))]) hP hD hS hA [2, 3] rfl rfl (by decide)
        refine va_calli (va_runV (C := "ValueBench$Row") (As := [.int 0, .int 5]) (rest := []) ⟨hx, hb, hml, hown, htx⟩ (gR_is l hl9 D cT aK aV H.size n a0 a1 (0 : Int32) (5 : Int32) f0 v1 v2 o10 hq11) ⟨callB_of 2 htx (xw_goodC kw_3_75) rfl rfl rfl (htx _ kw_1_4) (htx _ kw_4_150) ⟨by decide, by decide, by decide +kernel⟩ ⟨Nat.le_of_ble_eq_true rfl, Nat.le_of_ble_eq_true rfl⟩, (htx _ kw_3_73), (htx _ kw_3_74)⟩ ⟨xPre_blind, va_recv hK hP (ci := 2) rfl (q0 := 2) rfl, (fun U hU hW => ⟨rfl, xPre_of hZ hS hFc hPc hDc hK U hU hW⟩)⟩ rfl rfl hl.1 rfl (lv_room (Nat.le_of_ble_eq_true rfl)) dH_indices_36 ⟨Nat.le_of_ble_eq_true rfl, Nat.le_of_ble_eq_true rfl⟩) hS (fun q _ h => hFc q h) hFc (fun r12 u9 t H1 locs ht hvm hr9 hB hz1 hk1 hS => ?_)
        obtain ⟨hP1, hK1, hD1⟩ := hB
        rw [ht] at hP1
        obtain ⟨hP, hD⟩ := xjoin (W := [(a2, .inr (2, [.ref a3, .int v4, .int v5])), (a3, .inl (cT 2, 4096, .inr (.inl f3))), (a0, .inr (2, [.ref a1, .int v1, .int v2])), (a1, .inl (cT 2, 4096, .inr (.inl f0)))]) hP hD [2, 3] [0, 1] 2 rfl rfl (by decide) (by decide) hk1 hFc hP1 hD1
        generalize H1 = H at hP hS ⊢
        rw [hr9]
        refine W.eq (g2 := F0 m 39 ls [.int o10]) rfl ?_
        refine lv_if_eq (tgt := 55) hx hb dH_indices_39 (by decide) (fun hc => ?_) (fun hc => ?_)
        · rw [if_pos hc] at hf
          refine lv_iconst (v := 0) hx hb dH_indices_55 (by decide) ?_
          refine lv_istore_n (lv' := [(3, .int 0), (0, .ref a0), (1, .ref a0), (2, .ref a2)]) hx hb dH_indices_56 rfl hl (by decide) rfl (fun ls hl => ?_)
          refine lv_iload_n hx hb dH_indices_57 rfl (lv_at hl 0 rfl) ?_
          refine lv_if_ne (tgt := 74) hx hb dH_indices_58 (by decide) (fun h => ((by revert h; decide : False)).elim) (fun _ => ?_)
          refine lv_aload_n hx hb dH_indices_61 rfl (lv_at hl 2 rfl) ?_
          refine lv_iconst (v := 0) hx hb dH_indices_62 (by decide) ?_
          obtain ⟨o13, hq14, hf⟩ := xbind hf
          obtain ⟨hPc, hDc, hFc⟩ := xcut (wc := [(a0, .inr (2, [.ref a1, .int v1, .int v2])), (a1, .inl (cT 2, 4096, .inr (.inl f0)))]) hP hD hS hA [2, 3] rfl rfl (by decide)
          refine va_calli (va_runV (C := "ValueBench$Row") (As := [.int 0]) (rest := []) ⟨hx, hb, hml, hown, htx⟩ (gR_length l hl9 D cT aK aV H.size n a0 a1 (0 : Int32) f0 v1 v2 o13 hq14) ⟨callB_of 1 htx (xw_goodC kw_2_191) rfl rfl rfl (htx _ kw_1_4) (htx _ kw_4_157) ⟨by decide, by decide, by decide +kernel⟩ ⟨Nat.le_of_ble_eq_true rfl, Nat.le_of_ble_eq_true rfl⟩, (htx _ kw_2_189), (htx _ kw_2_190)⟩ ⟨xPre_blind, va_recv hK hP (ci := 2) rfl (q0 := 2) rfl, (fun U hU hW => ⟨rfl, xPre_of hZ hS hFc hPc hDc hK U hU hW⟩)⟩ rfl rfl hl.1 rfl (lv_room (Nat.le_of_ble_eq_true rfl)) dH_indices_63 ⟨Nat.le_of_ble_eq_true rfl, Nat.le_of_ble_eq_true rfl⟩) hS (fun q _ h => hFc q h) hFc (fun r15 u9 t H1 locs ht hvm hr9 hB hz1 hk1 hS => ?_)
          obtain ⟨hP1, hK1, hD1⟩ := hB
          rw [ht] at hP1
          obtain ⟨hP, hD⟩ := xjoin (W := [(a2, .inr (2, [.ref a3, .int v4, .int v5])), (a3, .inl (cT 2, 4096, .inr (.inl f3))), (a0, .inr (2, [.ref a1, .int v1, .int v2])), (a1, .inl (cT 2, 4096, .inr (.inl f0)))]) hP hD [2, 3] [0, 1] 2 rfl rfl (by decide) (by decide) hk1 hFc hP1 hD1
          generalize H1 = H at hP hS ⊢
          rw [hr9]
          refine W.eq (g2 := F0 m 66 ls [.int o13]) rfl ?_
          refine lv_if_ne (tgt := 74) hx hb dH_indices_66 (by decide) (fun hc => ?_) (fun hc => ?_)
          · rw [if_neg hc] at hf
            refine lv_aload_n hx hb dH_indices_74 rfl (lv_at hl 3 rfl) ?_
            obtain ⟨o16, hq17, hf⟩ := xbind hf
            obtain ⟨hPc, hDc, hFc⟩ := xcut (wc := [(a2, .inr (2, [.ref a3, .int v4, .int v5])), (a3, .inl (cT 2, 4096, .inr (.inl f3)))]) hP hD hS hA [0, 1] rfl rfl (by decide)
            refine va_calli (va_runV (C := "ValueBench$Row") (As := []) (rest := []) ⟨hx, hb, hml, hown, htx⟩ (gR_open l hl9 D cT aK aV H.size n a2 a3 f3 v4 v5 o16 hq17) ⟨callB_of 0 htx (xw_goodC kw_2_136) rfl rfl rfl (htx _ kw_1_4) (htx _ kw_4_223) ⟨by decide, by decide, by decide +kernel⟩ ⟨Nat.le_of_ble_eq_true rfl, Nat.le_of_ble_eq_true rfl⟩, (htx _ kw_2_134), (htx _ kw_2_135)⟩ ⟨xPre_blind, va_recv hK hP (ci := 2) rfl (q0 := 0) rfl, (fun U hU hW => ⟨rfl, xPre_of hZ hS hFc hPc hDc hK U hU hW⟩)⟩ rfl rfl hl.1 rfl (lv_room (Nat.le_of_ble_eq_true rfl)) dH_indices_75 ⟨Nat.le_of_ble_eq_true rfl, Nat.le_of_ble_eq_true rfl⟩) hS (fun q _ h => hFc q h) hFc (fun r18 u9 t H1 locs ht hvm hr9 hB hz1 hk1 hS => ?_)
            obtain ⟨hP1, hK1, hD1⟩ := hB
            rw [ht] at hP1
            obtain ⟨hP, hD⟩ := xjoin (W := [(a0, .inr (2, [.ref a1, .int v1, .int v2])), (a1, .inl (cT 2, 4096, .inr (.inl f0))), (a2, .inr (2, [.ref a3, .int o16.2.2.1, .int o16.2.2.2])), (a3, .inl (cT 2, 4096, .inr (.inl o16.2.1)))]) hP hD [0, 1] [2, 3] 2 rfl rfl (by decide) (by decide) hk1 hFc hP1 hD1
            generalize H1 = H at hP hS ⊢
            rw [hr9]
            refine W.eq (g2 := F0 m 78 ls [.int o16.1]) rfl ?_
            refine lv_istore (lv' := [(4, .int o16.1), (3, .int 0), (0, .ref a0), (1, .ref a0), (2, .ref a2)]) hx hb dH_indices_78 hl (by decide) rfl (fun ls hl => ?_)
            refine lv_aload_n hx hb dH_indices_80 rfl (lv_at hl 2 rfl) ?_
            refine lv_iconst (v := 0) hx hb dH_indices_81 (by decide) ?_
            refine lv_iconst (v := 4) hx hb dH_indices_82 (by decide) ?_
            obtain ⟨o19, hq20, hf⟩ := xbind hf
            obtain ⟨hPc, hDc, hFc⟩ := xcut (wc := [(a0, .inr (2, [.ref a1, .int v1, .int v2])), (a1, .inl (cT 2, 4096, .inr (.inl f0)))]) hP hD hS hA [0, 1] rfl rfl (by decide)
            refine va_calli (va_runV (C := "ValueBench$Row") (As := [.int 0, .int 4]) (rest := []) ⟨hx, hb, hml, hown, htx⟩ (gR_is l hl9 D cT aK aV H.size n a0 a1 (0 : Int32) (4 : Int32) f0 v1 v2 o19 hq20) ⟨callB_of 2 htx (xw_goodC kw_3_75) rfl rfl rfl (htx _ kw_1_4) (htx _ kw_4_150) ⟨by decide, by decide, by decide +kernel⟩ ⟨Nat.le_of_ble_eq_true rfl, Nat.le_of_ble_eq_true rfl⟩, (htx _ kw_3_73), (htx _ kw_3_74)⟩ ⟨xPre_blind, va_recv hK hP (ci := 2) rfl (q0 := 0) rfl, (fun U hU hW => ⟨rfl, xPre_of hZ hS hFc hPc hDc hK U hU hW⟩)⟩ rfl rfl hl.1 rfl (lv_room (Nat.le_of_ble_eq_true rfl)) dH_indices_83 ⟨Nat.le_of_ble_eq_true rfl, Nat.le_of_ble_eq_true rfl⟩) hS (fun q _ h => hFc q h) hFc (fun r21 u9 t H1 locs ht hvm hr9 hB hz1 hk1 hS => ?_)
            obtain ⟨hP1, hK1, hD1⟩ := hB
            rw [ht] at hP1
            obtain ⟨hP, hD⟩ := xjoin (W := [(a2, .inr (2, [.ref a3, .int o16.2.2.1, .int o16.2.2.2])), (a3, .inl (cT 2, 4096, .inr (.inl o16.2.1))), (a0, .inr (2, [.ref a1, .int v1, .int v2])), (a1, .inl (cT 2, 4096, .inr (.inl f0)))]) hP hD [0, 1] [2, 3] 2 rfl rfl (by decide) (by decide) hk1 hFc hP1 hD1
            generalize H1 = H at hP hS ⊢
            rw [hr9]
            refine W.eq (g2 := F0 m 86 ls [.int o19]) rfl ?_
            refine lv_if_eq (tgt := 98) hx hb dH_indices_86 (by decide) (fun hc => ?_) (fun hc => ?_)
            · rw [if_pos hc] at hf
              refine lv_aload_n hx hb dH_indices_98 rfl (lv_at hl 2 rfl) ?_
              refine lv_aload_n hx hb dH_indices_99 rfl (lv_at hl 3 rfl) ?_
              refine lv_iload_n hx hb dH_indices_100 rfl (lv_at hl 1 rfl) ?_
              refine lv_aload_n hx hb dH_indices_101 rfl (lv_at hl 4 rfl) ?_
              obtain ⟨o22, hq23, hf⟩ := xbind hf
              obtain ⟨hPc, hDc, hFc⟩ := xcut (wc := [(a0, .inr (2, [.ref a1, .int v1, .int v2])), (a1, .inl (cT 2, 4096, .inr (.inl f0))), (a2, .inr (2, [.ref a3, .int o16.2.2.1, .int o16.2.2.2])), (a3, .inl (cT 2, 4096, .inr (.inl o16.2.1)))]) hP hD hS hA [2, 3, 0, 1] rfl rfl (by decide)
              refine va_calli (va_runS (As := [.ref a0, .ref a0, .int 0, .ref a2]) (rest := []) ⟨hx, hb, hml, hown, htx⟩ (gH_putArrayIndicesa l hl9 D cT aK aV H.size d n a0 a1 a2 a3 (0 : Int32) f0 v1 v2 o16.2.1 o16.2.2.1 o16.2.2.2 o22 hq23) ⟨callB_of 4 htx (xw_goodC kw_4_230) rfl rfl rfl (htx _ kw_1_27) (htx _ kw_4_228) ⟨by decide, by decide, by decide +kernel⟩ ⟨(by show (16 * d + 2) + 1 ≤ 16 * d + 3; omega), (by show 8 + (9 + 11) + (400 * d + 51) ≤ 400 * d + 79; omega)⟩, htx _ kw_4_229⟩ ⟨xPre_blind, (fun U hU hW => ⟨rfl, xPre_of hZ hS hFc hPc hDc hK U hU hW⟩)⟩ rfl rfl hl.1 rfl (lv_room (Nat.le_of_ble_eq_true rfl)) dH_indices_102 ⟨Nat.le_of_ble_eq_true rfl, Nat.le_of_ble_eq_true rfl⟩) hS (fun q _ h => hFc q h) hFc (fun r24 u9 t H1 locs ht hvm hr9 hB hz1 hk1 hS => ?_)
              obtain ⟨hP1, hK1, hD1⟩ := hB
              rw [ht] at hP1
              obtain ⟨hP, hD⟩ := xjoin (W := [(a0, .inr (2, [.ref a1, .int v1, .int v2])), (a1, .inl (cT 2, 4096, .inr (.inl f0))), (a2, .inr (2, [.ref a3, .int o22.2.2.1, .int o22.2.2.2])), (a3, .inl (cT 2, 4096, .inr (.inl o22.2.1)))]) hP hD [2, 3, 0, 1] [] 0 rfl rfl (by decide) (by decide) hk1 hFc hP1 hD1
              generalize H1 = H at hP hS ⊢
              rw [hr9]
              refine W.eq (g2 := F0 m 105 ls [.int o22.1]) rfl ?_
              refine lv_istore (lv' := [(5, .int o22.1), (4, .int o16.1), (3, .int 0), (0, .ref a0), (1, .ref a0), (2, .ref a2)]) hx hb dH_indices_105 hl (by decide) rfl (fun ls hl => ?_)
              refine lv_aload_n hx hb dH_indices_107 rfl (lv_at hl 5 rfl) ?_
              refine lv_iload hx hb dH_indices_108 (lv_at hl 1 rfl) ?_
              refine lv_iconst (v := 5) hx hb dH_indices_110 (by decide) ?_
              refine lv_iload hx hb dH_indices_111 (lv_at hl 0 rfl) ?_
              obtain ⟨o25, hq26, hf⟩ := xbind hf
              obtain ⟨hPc, hDc, hFc⟩ := xcut (wc := [(a2, .inr (2, [.ref a3, .int o22.2.2.1, .int o22.2.2.2])), (a3, .inl (cT 2, 4096, .inr (.inl o22.2.1)))]) hP hD hS hA [2, 3] rfl rfl (by decide)
              refine va_callv (va_runV (C := "ValueBench$Row") (As := [.int o16.1, .int 5, .int o22.1]) (rest := []) ⟨hx, hb, hml, hown, htx⟩ (gR_close l hl9 D cT aK aV H.size n a2 a3 o16.1 (5 : Int32) o22.1 o22.2.1 o22.2.2.1 o22.2.2.2 o25 hq26) ⟨callB_of 3 htx (xw_goodC kw_2_167) rfl rfl rfl (htx _ kw_1_4) (htx _ kw_4_235) ⟨by decide, by decide, by decide +kernel⟩ ⟨Nat.le_of_ble_eq_true rfl, Nat.le_of_ble_eq_true rfl⟩, (htx _ kw_2_165), (htx _ kw_2_166)⟩ ⟨xPre_blind, va_recv hK hP (ci := 2) rfl (q0 := 2) rfl, (fun U hU hW => ⟨rfl, xPre_of hZ hS hFc hPc hDc hK U hU hW⟩)⟩ rfl rfl hl.1 rfl (lv_room (Nat.le_of_ble_eq_true rfl)) dH_indices_113 ⟨Nat.le_of_ble_eq_true rfl, Nat.le_of_ble_eq_true rfl⟩) hS (fun q _ h => hFc q h) hFc (fun u9 t H1 locs ht hvm hr9 hB hz1 hk1 hS => ?_)
              obtain ⟨hP1, hK1, hD1⟩ := hB
              rw [ht] at hP1
              obtain ⟨hP, hD⟩ := xjoin (W := [(a0, .inr (2, [.ref a1, .int v1, .int v2])), (a1, .inl (cT 2, 4096, .inr (.inl f0))), (a2, .inr (2, [.ref a3, .int o22.2.2.1, .int o22.2.2.2])), (a3, .inl (cT 2, 4096, .inr (.inl o25)))]) hP hD [2, 3] [0, 1] 2 rfl rfl (by decide) (by decide) hk1 hFc hP1 hD1
              generalize H1 = H at hP hS ⊢
              refine lv_iconst (v := 0) hx hb dH_indices_116 (by decide) ?_
              obtain rfl := Option.some.inj hf
              obtain ⟨hP9, hD9⟩ := xsub (wc := [(a0, .inr (2, [.ref a1, .int v1, .int v2])), (a1, .inl (cT 2, 4096, .inr (.inl f0))), (a2, .inr (2, [.ref a3, .int o22.2.2.1, .int o22.2.2.2])), (a3, .inl (cT 2, 4096, .inr (.inl o25)))]) hP hD [0, 1, 2, 3] rfl rfl (by decide)
              exact W.iret (v := (0 : Int32)) hx hb hr (fun t ht hW => ⟨⟨(0 : Int32), (), rfl, rfl, by rw [ht]; exact hP9, va_K.moved hW.alike hK, hD9⟩, hS.F ht⟩) hS.2.2 dH_indices_117
            · rw [if_neg hc] at hf
              refine lv_aload_n hx hb dH_indices_89 rfl (lv_at hl 2 rfl) ?_
              refine lv_aload_n hx hb dH_indices_90 rfl (lv_at hl 3 rfl) ?_
              refine lv_aload_n hx hb dH_indices_91 rfl (lv_at hl 4 rfl) ?_
              obtain ⟨o22, hq23, hf⟩ := xbind hf
              obtain ⟨hPc, hDc, hFc⟩ := xcut (wc := [(a0, .inr (2, [.ref a1, .int v1, .int v2])), (a1, .inl (cT 2, 4096, .inr (.inl f0))), (a2, .inr (2, [.ref a3, .int o16.2.2.1, .int o16.2.2.2])), (a3, .inl (cT 2, 4096, .inr (.inl o16.2.1)))]) hP hD hS hA [2, 3, 0, 1] rfl rfl (by decide)
              refine va_calli (va_runS (As := [.ref a0, .ref a0, .ref a2]) (rest := []) ⟨hx, hb, hml, hown, htx⟩ (gH_putStringIndicesa l hl9 D cT aK aV H.size n a0 a1 a2 a3 f0 v1 v2 o16.2.1 o16.2.2.1 o16.2.2.2 o22 hq23) ⟨callB_of 3 htx (xw_goodC kw_4_226) rfl rfl rfl (htx _ kw_1_27) (htx _ kw_4_224) ⟨by decide, by decide, by decide +kernel⟩ ⟨Nat.le_of_ble_eq_true rfl, Nat.le_of_ble_eq_true rfl⟩, htx _ kw_4_225⟩ ⟨xPre_blind, (fun U hU hW => ⟨rfl, xPre_of hZ hS hFc hPc hDc hK U hU hW⟩)⟩ rfl rfl hl.1 rfl (lv_room (Nat.le_of_ble_eq_true rfl)) dH_indices_92 ⟨Nat.le_of_ble_eq_true rfl, Nat.le_of_ble_eq_true rfl⟩) hS (fun q _ h => hFc q h) hFc (fun r24 u9 t H1 locs ht hvm hr9 hB hz1 hk1 hS => ?_)
              obtain ⟨hP1, hK1, hD1⟩ := hB
              rw [ht] at hP1
              obtain ⟨hP, hD⟩ := xjoin (W := [(a0, .inr (2, [.ref a1, .int v1, .int v2])), (a1, .inl (cT 2, 4096, .inr (.inl f0))), (a2, .inr (2, [.ref a3, .int o22.2.2.1, .int o22.2.2.2])), (a3, .inl (cT 2, 4096, .inr (.inl o22.2.1)))]) hP hD [2, 3, 0, 1] [] 0 rfl rfl (by decide) (by decide) hk1 hFc hP1 hD1
              generalize H1 = H at hP hS ⊢
              rw [hr9]
              refine W.eq (g2 := F0 m 95 ls [.int o22.1]) rfl ?_
              refine lv_goto (tgt := 105) hx hb dH_indices_95 (by decide) ?_
              refine lv_istore (lv' := [(5, .int o22.1), (4, .int o16.1), (3, .int 0), (0, .ref a0), (1, .ref a0), (2, .ref a2)]) hx hb dH_indices_105 hl (by decide) rfl (fun ls hl => ?_)
              refine lv_aload_n hx hb dH_indices_107 rfl (lv_at hl 5 rfl) ?_
              refine lv_iload hx hb dH_indices_108 (lv_at hl 1 rfl) ?_
              refine lv_iconst (v := 5) hx hb dH_indices_110 (by decide) ?_
              refine lv_iload hx hb dH_indices_111 (lv_at hl 0 rfl) ?_
              obtain ⟨o25, hq26, hf⟩ := xbind hf
              obtain ⟨hPc, hDc, hFc⟩ := xcut (wc := [(a2, .inr (2, [.ref a3, .int o22.2.2.1, .int o22.2.2.2])), (a3, .inl (cT 2, 4096, .inr (.inl o22.2.1)))]) hP hD hS hA [2, 3] rfl rfl (by decide)
              refine va_callv (va_runV (C := "ValueBench$Row") (As := [.int o16.1, .int 5, .int o22.1]) (rest := []) ⟨hx, hb, hml, hown, htx⟩ (gR_close l hl9 D cT aK aV H.size n a2 a3 o16.1 (5 : Int32) o22.1 o22.2.1 o22.2.2.1 o22.2.2.2 o25 hq26) ⟨callB_of 3 htx (xw_goodC kw_2_167) rfl rfl rfl (htx _ kw_1_4) (htx _ kw_4_235) ⟨by decide, by decide, by decide +kernel⟩ ⟨Nat.le_of_ble_eq_true rfl, Nat.le_of_ble_eq_true rfl⟩, (htx _ kw_2_165), (htx _ kw_2_166)⟩ ⟨xPre_blind, va_recv hK hP (ci := 2) rfl (q0 := 2) rfl, (fun U hU hW => ⟨rfl, xPre_of hZ hS hFc hPc hDc hK U hU hW⟩)⟩ rfl rfl hl.1 rfl (lv_room (Nat.le_of_ble_eq_true rfl)) dH_indices_113 ⟨Nat.le_of_ble_eq_true rfl, Nat.le_of_ble_eq_true rfl⟩) hS (fun q _ h => hFc q h) hFc (fun u9 t H1 locs ht hvm hr9 hB hz1 hk1 hS => ?_)
              obtain ⟨hP1, hK1, hD1⟩ := hB
              rw [ht] at hP1
              obtain ⟨hP, hD⟩ := xjoin (W := [(a0, .inr (2, [.ref a1, .int v1, .int v2])), (a1, .inl (cT 2, 4096, .inr (.inl f0))), (a2, .inr (2, [.ref a3, .int o22.2.2.1, .int o22.2.2.2])), (a3, .inl (cT 2, 4096, .inr (.inl o25)))]) hP hD [2, 3] [0, 1] 2 rfl rfl (by decide) (by decide) hk1 hFc hP1 hD1
              generalize H1 = H at hP hS ⊢
              refine lv_iconst (v := 0) hx hb dH_indices_116 (by decide) ?_
              obtain rfl := Option.some.inj hf
              obtain ⟨hP9, hD9⟩ := xsub (wc := [(a0, .inr (2, [.ref a1, .int v1, .int v2])), (a1, .inl (cT 2, 4096, .inr (.inl f0))), (a2, .inr (2, [.ref a3, .int o22.2.2.1, .int o22.2.2.2])), (a3, .inl (cT 2, 4096, .inr (.inl o25)))]) hP hD [0, 1, 2, 3] rfl rfl (by decide)
              exact W.iret (v := (0 : Int32)) hx hb hr (fun t ht hW => ⟨⟨(0 : Int32), (), rfl, rfl, by rw [ht]; exact hP9, va_K.moved hW.alike hK, hD9⟩, hS.F ht⟩) hS.2.2 dH_indices_117
          · rw [if_pos hc] at hf
            refine lv_aload_n hx hb dH_indices_69 rfl (lv_at hl 3 rfl) ?_
            obtain ⟨o16, hq17, hf⟩ := xbind hf
            obtain ⟨hPc, hDc, hFc⟩ := xcut (wc := [(a2, .inr (2, [.ref a3, .int v4, .int v5])), (a3, .inl (cT 2, 4096, .inr (.inl f3)))]) hP hD hS hA [0, 1] rfl rfl (by decide)
            refine va_calli (va_runS (As := [.ref a2]) (rest := []) ⟨hx, hb, hml, hown, htx⟩ (gH_nothing l hl9 D cT aK aV H.size n a2 a3 f3 v4 v5 o16 hq17) ⟨callB_of 1 htx (xw_goodC kw_4_221) rfl rfl rfl (htx _ kw_1_27) (htx _ kw_4_219) ⟨by decide, by decide, by decide +kernel⟩ ⟨Nat.le_of_ble_eq_true rfl, Nat.le_of_ble_eq_true rfl⟩, htx _ kw_4_220⟩ ⟨xPre_blind, (fun U hU hW => ⟨rfl, xPre_of hZ hS hFc hPc hDc hK U hU hW⟩)⟩ rfl rfl hl.1 rfl (lv_room (Nat.le_of_ble_eq_true rfl)) dH_indices_70 ⟨Nat.le_of_ble_eq_true rfl, Nat.le_of_ble_eq_true rfl⟩) hS (fun q _ h => hFc q h) hFc (fun r18 u9 t H1 locs ht hvm hr9 hB hz1 hk1 hS => ?_)
            obtain ⟨hP1, hK1, hD1⟩ := hB
            rw [ht] at hP1
            obtain ⟨hP, hD⟩ := xjoin (W := [(a0, .inr (2, [.ref a1, .int v1, .int v2])), (a1, .inl (cT 2, 4096, .inr (.inl f0))), (a2, .inr (2, [.ref a3, .int o16.2.2.1, .int o16.2.2.2])), (a3, .inl (cT 2, 4096, .inr (.inl o16.2.1)))]) hP hD [0, 1] [2, 3] 2 rfl rfl (by decide) (by decide) hk1 hFc hP1 hD1
            generalize H1 = H at hP hS ⊢
            rw [hr9]
            refine W.eq (g2 := F0 m 73 ls [.int o16.1]) rfl ?_
            obtain rfl := Option.some.inj hf
            obtain ⟨hP9, hD9⟩ := xsub (wc := [(a0, .inr (2, [.ref a1, .int v1, .int v2])), (a1, .inl (cT 2, 4096, .inr (.inl f0))), (a2, .inr (2, [.ref a3, .int o16.2.2.1, .int o16.2.2.2])), (a3, .inl (cT 2, 4096, .inr (.inl o16.2.1)))]) hP hD [0, 1, 2, 3] rfl rfl (by decide)
            exact W.iret (v := o16.1) hx hb hr (fun t ht hW => ⟨⟨o16.1, (), rfl, rfl, by rw [ht]; exact hP9, va_K.moved hW.alike hK, hD9⟩, hS.F ht⟩) hS.2.2 dH_indices_73
        · rw [if_neg hc] at hf
          refine lv_aload_n hx hb dH_indices_42 rfl (lv_at hl 1 rfl) ?_
          refine lv_iconst (v := 0) hx hb dH_indices_43 (by decide) ?_
          refine lv_iconst (v := 5) hx hb dH_indices_44 (by decide) ?_
          obtain ⟨o13, hq14, hf⟩ := xbind hf
          obtain ⟨hPc, hDc, hFc⟩ := xcut (wc := [(a0, .inr (2, [.ref a1, .int v1, .int v2])), (a1, .inl (cT 2, 4096, .inr (.inl f0)))]) hP hD hS hA [2, 3] rfl rfl (by decide)
          refine va_calli (va_runV (C := "ValueBench$Row") (As := [.int 0, .int 5]) (rest := []) ⟨hx, hb, hml, hown, htx⟩ (gR_is l hl9 D cT aK aV H.size n a0 a1 (0 : Int32) (5 : Int32) f0 v1 v2 o13 hq14) ⟨callB_of 2 htx (xw_goodC kw_3_75) rfl rfl rfl (htx _ kw_1_4) (htx _ kw_4_150) ⟨by decide, by decide, by decide +kernel⟩ ⟨Nat.le_of_ble_eq_true rfl, Nat.le_of_ble_eq_true rfl⟩, (htx _ kw_3_73), (htx _ kw_3_74)⟩ ⟨xPre_blind, va_recv hK hP (ci := 2) rfl (q0 := 2) rfl, (fun U hU hW => ⟨rfl, xPre_of hZ hS hFc hPc hDc hK U hU hW⟩)⟩ rfl rfl hl.1 rfl (lv_room (Nat.le_of_ble_eq_true rfl)) dH_indices_45 ⟨Nat.le_of_ble_eq_true rfl, Nat.le_of_ble_eq_true rfl⟩) hS (fun q _ h => hFc q h) hFc (fun r15 u9 t H1 locs ht hvm hr9 hB hz1 hk1 hS => ?_)
          obtain ⟨hP1, hK1, hD1⟩ := hB
          rw [ht] at hP1
          obtain ⟨hP, hD⟩ := xjoin (W := [(a2, .inr (2, [.ref a3, .int v4, .int v5])), (a3, .inl (cT 2, 4096, .inr (.inl f3))), (a0, .inr (2, [.ref a1, .int v1, .int v2])), (a1, .inl (cT 2, 4096, .inr (.inl f0)))]) hP hD [2, 3] [0, 1] 2 rfl rfl (by decide) (by decide) hk1 hFc hP1 hD1
          generalize H1 = H at hP hS ⊢
          rw [hr9]
          refine W.eq (g2 := F0 m 48 ls [.int o13]) rfl ?_
          refine lv_if_ne (tgt := 55) hx hb dH_indices_48 (by decide) (fun hc => ?_) (fun hc => ?_)
          · rw [if_neg hc] at hf
            refine lv_iconst (v := 0) hx hb dH_indices_55 (by decide) ?_
            refine lv_istore_n (lv' := [(3, .int 0), (0, .ref a0), (1, .ref a0), (2, .ref a2)]) hx hb dH_indices_56 rfl hl (by decide) rfl (fun ls hl => ?_)
            refine lv_iload_n hx hb dH_indices_57 rfl (lv_at hl 0 rfl) ?_
            refine lv_if_ne (tgt := 74) hx hb dH_indices_58 (by decide) (fun h => ((by revert h; decide : False)).elim) (fun _ => ?_)
            refine lv_aload_n hx hb dH_indices_61 rfl (lv_at hl 2 rfl) ?_
            refine lv_iconst (v := 0) hx hb dH_indices_62 (by decide) ?_
            obtain ⟨o16, hq17, hf⟩ := xbind hf
            obtain ⟨hPc, hDc, hFc⟩ := xcut (wc := [(a0, .inr (2, [.ref a1, .int v1, .int v2])), (a1, .inl (cT 2, 4096, .inr (.inl f0)))]) hP hD hS hA [2, 3] rfl rfl (by decide)
            refine va_calli (va_runV (C := "ValueBench$Row") (As := [.int 0]) (rest := []) ⟨hx, hb, hml, hown, htx⟩ (gR_length l hl9 D cT aK aV H.size n a0 a1 (0 : Int32) f0 v1 v2 o16 hq17) ⟨callB_of 1 htx (xw_goodC kw_2_191) rfl rfl rfl (htx _ kw_1_4) (htx _ kw_4_157) ⟨by decide, by decide, by decide +kernel⟩ ⟨Nat.le_of_ble_eq_true rfl, Nat.le_of_ble_eq_true rfl⟩, (htx _ kw_2_189), (htx _ kw_2_190)⟩ ⟨xPre_blind, va_recv hK hP (ci := 2) rfl (q0 := 2) rfl, (fun U hU hW => ⟨rfl, xPre_of hZ hS hFc hPc hDc hK U hU hW⟩)⟩ rfl rfl hl.1 rfl (lv_room (Nat.le_of_ble_eq_true rfl)) dH_indices_63 ⟨Nat.le_of_ble_eq_true rfl, Nat.le_of_ble_eq_true rfl⟩) hS (fun q _ h => hFc q h) hFc (fun r18 u9 t H1 locs ht hvm hr9 hB hz1 hk1 hS => ?_)
            obtain ⟨hP1, hK1, hD1⟩ := hB
            rw [ht] at hP1
            obtain ⟨hP, hD⟩ := xjoin (W := [(a2, .inr (2, [.ref a3, .int v4, .int v5])), (a3, .inl (cT 2, 4096, .inr (.inl f3))), (a0, .inr (2, [.ref a1, .int v1, .int v2])), (a1, .inl (cT 2, 4096, .inr (.inl f0)))]) hP hD [2, 3] [0, 1] 2 rfl rfl (by decide) (by decide) hk1 hFc hP1 hD1
            generalize H1 = H at hP hS ⊢
            rw [hr9]
            refine W.eq (g2 := F0 m 66 ls [.int o16]) rfl ?_
            refine lv_if_ne (tgt := 74) hx hb dH_indices_66 (by decide) (fun hc => ?_) (fun hc => ?_)
            · rw [if_neg hc] at hf
              refine lv_aload_n hx hb dH_indices_74 rfl (lv_at hl 3 rfl) ?_
              obtain ⟨o19, hq20, hf⟩ := xbind hf
              obtain ⟨hPc, hDc, hFc⟩ := xcut (wc := [(a2, .inr (2, [.ref a3, .int v4, .int v5])), (a3, .inl (cT 2, 4096, .inr (.inl f3)))]) hP hD hS hA [0, 1] rfl rfl (by decide)
              refine va_calli (va_runV (C := "ValueBench$Row") (As := []) (rest := []) ⟨hx, hb, hml, hown, htx⟩ (gR_open l hl9 D cT aK aV H.size n a2 a3 f3 v4 v5 o19 hq20) ⟨callB_of 0 htx (xw_goodC kw_2_136) rfl rfl rfl (htx _ kw_1_4) (htx _ kw_4_223) ⟨by decide, by decide, by decide +kernel⟩ ⟨Nat.le_of_ble_eq_true rfl, Nat.le_of_ble_eq_true rfl⟩, (htx _ kw_2_134), (htx _ kw_2_135)⟩ ⟨xPre_blind, va_recv hK hP (ci := 2) rfl (q0 := 0) rfl, (fun U hU hW => ⟨rfl, xPre_of hZ hS hFc hPc hDc hK U hU hW⟩)⟩ rfl rfl hl.1 rfl (lv_room (Nat.le_of_ble_eq_true rfl)) dH_indices_75 ⟨Nat.le_of_ble_eq_true rfl, Nat.le_of_ble_eq_true rfl⟩) hS (fun q _ h => hFc q h) hFc (fun r21 u9 t H1 locs ht hvm hr9 hB hz1 hk1 hS => ?_)
              obtain ⟨hP1, hK1, hD1⟩ := hB
              rw [ht] at hP1
              obtain ⟨hP, hD⟩ := xjoin (W := [(a0, .inr (2, [.ref a1, .int v1, .int v2])), (a1, .inl (cT 2, 4096, .inr (.inl f0))), (a2, .inr (2, [.ref a3, .int o19.2.2.1, .int o19.2.2.2])), (a3, .inl (cT 2, 4096, .inr (.inl o19.2.1)))]) hP hD [0, 1] [2, 3] 2 rfl rfl (by decide) (by decide) hk1 hFc hP1 hD1
              generalize H1 = H at hP hS ⊢
              rw [hr9]
              refine W.eq (g2 := F0 m 78 ls [.int o19.1]) rfl ?_
              refine lv_istore (lv' := [(4, .int o19.1), (3, .int 0), (0, .ref a0), (1, .ref a0), (2, .ref a2)]) hx hb dH_indices_78 hl (by decide) rfl (fun ls hl => ?_)
              refine lv_aload_n hx hb dH_indices_80 rfl (lv_at hl 2 rfl) ?_
              refine lv_iconst (v := 0) hx hb dH_indices_81 (by decide) ?_
              refine lv_iconst (v := 4) hx hb dH_indices_82 (by decide) ?_
              obtain ⟨o22, hq23, hf⟩ := xbind hf
              obtain ⟨hPc, hDc, hFc⟩ := xcut (wc := [(a0, .inr (2, [.ref a1, .int v1, .int v2])), (a1, .inl (cT 2, 4096, .inr (.inl f0)))]) hP hD hS hA [0, 1] rfl rfl (by decide)
              refine va_calli (va_runV (C := "ValueBench$Row") (As := [.int 0, .int 4]) (rest := []) ⟨hx, hb, hml, hown, htx⟩ (gR_is l hl9 D cT aK aV H.size n a0 a1 (0 : Int32) (4 : Int32) f0 v1 v2 o22 hq23) ⟨callB_of 2 htx (xw_goodC kw_3_75) rfl rfl rfl (htx _ kw_1_4) (htx _ kw_4_150) ⟨by decide, by decide, by decide +kernel⟩ ⟨Nat.le_of_ble_eq_true rfl, Nat.le_of_ble_eq_true rfl⟩, (htx _ kw_3_73), (htx _ kw_3_74)⟩ ⟨xPre_blind, va_recv hK hP (ci := 2) rfl (q0 := 0) rfl, (fun U hU hW => ⟨rfl, xPre_of hZ hS hFc hPc hDc hK U hU hW⟩)⟩ rfl rfl hl.1 rfl (lv_room (Nat.le_of_ble_eq_true rfl)) dH_indices_83 ⟨Nat.le_of_ble_eq_true rfl, Nat.le_of_ble_eq_true rfl⟩) hS (fun q _ h => hFc q h) hFc (fun r24 u9 t H1 locs ht hvm hr9 hB hz1 hk1 hS => ?_)
              obtain ⟨hP1, hK1, hD1⟩ := hB
              rw [ht] at hP1
              obtain ⟨hP, hD⟩ := xjoin (W := [(a2, .inr (2, [.ref a3, .int o19.2.2.1, .int o19.2.2.2])), (a3, .inl (cT 2, 4096, .inr (.inl o19.2.1))), (a0, .inr (2, [.ref a1, .int v1, .int v2])), (a1, .inl (cT 2, 4096, .inr (.inl f0)))]) hP hD [0, 1] [2, 3] 2 rfl rfl (by decide) (by decide) hk1 hFc hP1 hD1
              generalize H1 = H at hP hS ⊢
              rw [hr9]
              refine W.eq (g2 := F0 m 86 ls [.int o22]) rfl ?_
              refine lv_if_eq (tgt := 98) hx hb dH_indices_86 (by decide) (fun hc => ?_) (fun hc => ?_)
              · rw [if_pos hc] at hf
                refine lv_aload_n hx hb dH_indices_98 rfl (lv_at hl 2 rfl) ?_
                refine lv_aload_n hx hb dH_indices_99 rfl (lv_at hl 3 rfl) ?_
                refine lv_iload_n hx hb dH_indices_100 rfl (lv_at hl 1 rfl) ?_
                refine lv_aload_n hx hb dH_indices_101 rfl (lv_at hl 4 rfl) ?_
                obtain ⟨o25, hq26, hf⟩ := xbind hf
                obtain ⟨hPc, hDc, hFc⟩ := xcut (wc := [(a0, .inr (2, [.ref a1, .int v1, .int v2])), (a1, .inl (cT 2, 4096, .inr (.inl f0))), (a2, .inr (2, [.ref a3, .int o19.2.2.1, .int o19.2.2.2])), (a3, .inl (cT 2, 4096, .inr (.inl o19.2.1)))]) hP hD hS hA [2, 3, 0, 1] rfl rfl (by decide)
                refine va_calli (va_runS (As := [.ref a0, .ref a0, .int 0, .ref a2]) (rest := []) ⟨hx, hb, hml, hown, htx⟩ (gH_putArrayIndicesa l hl9 D cT aK aV H.size d n a0 a1 a2 a3 (0 : Int32) f0 v1 v2 o19.2.1 o19.2.2.1 o19.2.2.2 o25 hq26) ⟨callB_of 4 htx (xw_goodC kw_4_230) rfl rfl rfl (htx _ kw_1_27) (htx _ kw_4_228) ⟨by decide, by decide, by decide +kernel⟩ ⟨(by show (16 * d + 2) + 1 ≤ 16 * d + 3; omega), (by show 8 + (9 + 11) + (400 * d + 51) ≤ 400 * d + 79; omega)⟩, htx _ kw_4_229⟩ ⟨xPre_blind, (fun U hU hW => ⟨rfl, xPre_of hZ hS hFc hPc hDc hK U hU hW⟩)⟩ rfl rfl hl.1 rfl (lv_room (Nat.le_of_ble_eq_true rfl)) dH_indices_102 ⟨Nat.le_of_ble_eq_true rfl, Nat.le_of_ble_eq_true rfl⟩) hS (fun q _ h => hFc q h) hFc (fun r27 u9 t H1 locs ht hvm hr9 hB hz1 hk1 hS => ?_)
                obtain ⟨hP1, hK1, hD1⟩ := hB
                rw [ht] at hP1
                obtain ⟨hP, hD⟩ := xjoin (W := [(a0, .inr (2, [.ref a1, .int v1, .int v2])), (a1, .inl (cT 2, 4096, .inr (.inl f0))), (a2, .inr (2, [.ref a3, .int o25.2.2.1, .int o25.2.2.2])), (a3, .inl (cT 2, 4096, .inr (.inl o25.2.1)))]) hP hD [2, 3, 0, 1] [] 0 rfl rfl (by decide) (by decide) hk1 hFc hP1 hD1
                generalize H1 = H at hP hS ⊢
                rw [hr9]
                refine W.eq (g2 := F0 m 105 ls [.int o25.1]) rfl ?_
                refine lv_istore (lv' := [(5, .int o25.1), (4, .int o19.1), (3, .int 0), (0, .ref a0), (1, .ref a0), (2, .ref a2)]) hx hb dH_indices_105 hl (by decide) rfl (fun ls hl => ?_)
                refine lv_aload_n hx hb dH_indices_107 rfl (lv_at hl 5 rfl) ?_
                refine lv_iload hx hb dH_indices_108 (lv_at hl 1 rfl) ?_
                refine lv_iconst (v := 5) hx hb dH_indices_110 (by decide) ?_
                refine lv_iload hx hb dH_indices_111 (lv_at hl 0 rfl) ?_
                obtain ⟨o28, hq29, hf⟩ := xbind hf
                obtain ⟨hPc, hDc, hFc⟩ := xcut (wc := [(a2, .inr (2, [.ref a3, .int o25.2.2.1, .int o25.2.2.2])), (a3, .inl (cT 2, 4096, .inr (.inl o25.2.1)))]) hP hD hS hA [2, 3] rfl rfl (by decide)
                refine va_callv (va_runV (C := "ValueBench$Row") (As := [.int o19.1, .int 5, .int o25.1]) (rest := []) ⟨hx, hb, hml, hown, htx⟩ (gR_close l hl9 D cT aK aV H.size n a2 a3 o19.1 (5 : Int32) o25.1 o25.2.1 o25.2.2.1 o25.2.2.2 o28 hq29) ⟨callB_of 3 htx (xw_goodC kw_2_167) rfl rfl rfl (htx _ kw_1_4) (htx _ kw_4_235) ⟨by decide, by decide, by decide +kernel⟩ ⟨Nat.le_of_ble_eq_true rfl, Nat.le_of_ble_eq_true rfl⟩, (htx _ kw_2_165), (htx _ kw_2_166)⟩ ⟨xPre_blind, va_recv hK hP (ci := 2) rfl (q0 := 2) rfl, (fun U hU hW => ⟨rfl, xPre_of hZ hS hFc hPc hDc hK U hU hW⟩)⟩ rfl rfl hl.1 rfl (lv_room (Nat.le_of_ble_eq_true rfl)) dH_indices_113 ⟨Nat.le_of_ble_eq_true rfl, Nat.le_of_ble_eq_true rfl⟩) hS (fun q _ h => hFc q h) hFc (fun u9 t H1 locs ht hvm hr9 hB hz1 hk1 hS => ?_)
                obtain ⟨hP1, hK1, hD1⟩ := hB
                rw [ht] at hP1
                obtain ⟨hP, hD⟩ := xjoin (W := [(a0, .inr (2, [.ref a1, .int v1, .int v2])), (a1, .inl (cT 2, 4096, .inr (.inl f0))), (a2, .inr (2, [.ref a3, .int o25.2.2.1, .int o25.2.2.2])), (a3, .inl (cT 2, 4096, .inr (.inl o28)))]) hP hD [2, 3] [0, 1] 2 rfl rfl (by decide) (by decide) hk1 hFc hP1 hD1
                generalize H1 = H at hP hS ⊢
                refine lv_iconst (v := 0) hx hb dH_indices_116 (by decide) ?_
                obtain rfl := Option.some.inj hf
                obtain ⟨hP9, hD9⟩ := xsub (wc := [(a0, .inr (2, [.ref a1, .int v1, .int v2])), (a1, .inl (cT 2, 4096, .inr (.inl f0))), (a2, .inr (2, [.ref a3, .int o25.2.2.1, .int o25.2.2.2])), (a3, .inl (cT 2, 4096, .inr (.inl o28)))]) hP hD [0, 1, 2, 3] rfl rfl (by decide)
                exact W.iret (v := (0 : Int32)) hx hb hr (fun t ht hW => ⟨⟨(0 : Int32), (), rfl, rfl, by rw [ht]; exact hP9, va_K.moved hW.alike hK, hD9⟩, hS.F ht⟩) hS.2.2 dH_indices_117
              · rw [if_neg hc] at hf
                refine lv_aload_n hx hb dH_indices_89 rfl (lv_at hl 2 rfl) ?_
                refine lv_aload_n hx hb dH_indices_90 rfl (lv_at hl 3 rfl) ?_
                refine lv_aload_n hx hb dH_indices_91 rfl (lv_at hl 4 rfl) ?_
                obtain ⟨o25, hq26, hf⟩ := xbind hf
                obtain ⟨hPc, hDc, hFc⟩ := xcut (wc := [(a0, .inr (2, [.ref a1, .int v1, .int v2])), (a1, .inl (cT 2, 4096, .inr (.inl f0))), (a2, .inr (2, [.ref a3, .int o19.2.2.1, .int o19.2.2.2])), (a3, .inl (cT 2, 4096, .inr (.inl o19.2.1)))]) hP hD hS hA [2, 3, 0, 1] rfl rfl (by decide)
                refine va_calli (va_runS (As := [.ref a0, .ref a0, .ref a2]) (rest := []) ⟨hx, hb, hml, hown, htx⟩ (gH_putStringIndicesa l hl9 D cT aK aV H.size n a0 a1 a2 a3 f0 v1 v2 o19.2.1 o19.2.2.1 o19.2.2.2 o25 hq26) ⟨callB_of 3 htx (xw_goodC kw_4_226) rfl rfl rfl (htx _ kw_1_27) (htx _ kw_4_224) ⟨by decide, by decide, by decide +kernel⟩ ⟨Nat.le_of_ble_eq_true rfl, Nat.le_of_ble_eq_true rfl⟩, htx _ kw_4_225⟩ ⟨xPre_blind, (fun U hU hW => ⟨rfl, xPre_of hZ hS hFc hPc hDc hK U hU hW⟩)⟩ rfl rfl hl.1 rfl (lv_room (Nat.le_of_ble_eq_true rfl)) dH_indices_92 ⟨Nat.le_of_ble_eq_true rfl, Nat.le_of_ble_eq_true rfl⟩) hS (fun q _ h => hFc q h) hFc (fun r27 u9 t H1 locs ht hvm hr9 hB hz1 hk1 hS => ?_)
                obtain ⟨hP1, hK1, hD1⟩ := hB
                rw [ht] at hP1
                obtain ⟨hP, hD⟩ := xjoin (W := [(a0, .inr (2, [.ref a1, .int v1, .int v2])), (a1, .inl (cT 2, 4096, .inr (.inl f0))), (a2, .inr (2, [.ref a3, .int o25.2.2.1, .int o25.2.2.2])), (a3, .inl (cT 2, 4096, .inr (.inl o25.2.1)))]) hP hD [2, 3, 0, 1] [] 0 rfl rfl (by decide) (by decide) hk1 hFc hP1 hD1
                generalize H1 = H at hP hS ⊢
                rw [hr9]
                refine W.eq (g2 := F0 m 95 ls [.int o25.1]) rfl ?_
                refine lv_goto (tgt := 105) hx hb dH_indices_95 (by decide) ?_
                refine lv_istore (lv' := [(5, .int o25.1), (4, .int o19.1), (3, .int 0), (0, .ref a0), (1, .ref a0), (2, .ref a2)]) hx hb dH_indices_105 hl (by decide) rfl (fun ls hl => ?_)
                refine lv_aload_n hx hb dH_indices_107 rfl (lv_at hl 5 rfl) ?_
                refine lv_iload hx hb dH_indices_108 (lv_at hl 1 rfl) ?_
                refine lv_iconst (v := 5) hx hb dH_indices_110 (by decide) ?_
                refine lv_iload hx hb dH_indices_111 (lv_at hl 0 rfl) ?_
                obtain ⟨o28, hq29, hf⟩ := xbind hf
                obtain ⟨hPc, hDc, hFc⟩ := xcut (wc := [(a2, .inr (2, [.ref a3, .int o25.2.2.1, .int o25.2.2.2])), (a3, .inl (cT 2, 4096, .inr (.inl o25.2.1)))]) hP hD hS hA [2, 3] rfl rfl (by decide)
                refine va_callv (va_runV (C := "ValueBench$Row") (As := [.int o19.1, .int 5, .int o25.1]) (rest := []) ⟨hx, hb, hml, hown, htx⟩ (gR_close l hl9 D cT aK aV H.size n a2 a3 o19.1 (5 : Int32) o25.1 o25.2.1 o25.2.2.1 o25.2.2.2 o28 hq29) ⟨callB_of 3 htx (xw_goodC kw_2_167) rfl rfl rfl (htx _ kw_1_4) (htx _ kw_4_235) ⟨by decide, by decide, by decide +kernel⟩ ⟨Nat.le_of_ble_eq_true rfl, Nat.le_of_ble_eq_true rfl⟩, (htx _ kw_2_165), (htx _ kw_2_166)⟩ ⟨xPre_blind, va_recv hK hP (ci := 2) rfl (q0 := 2) rfl, (fun U hU hW => ⟨rfl, xPre_of hZ hS hFc hPc hDc hK U hU hW⟩)⟩ rfl rfl hl.1 rfl (lv_room (Nat.le_of_ble_eq_true rfl)) dH_indices_113 ⟨Nat.le_of_ble_eq_true rfl, Nat.le_of_ble_eq_true rfl⟩) hS (fun q _ h => hFc q h) hFc (fun u9 t H1 locs ht hvm hr9 hB hz1 hk1 hS => ?_)
                obtain ⟨hP1, hK1, hD1⟩ := hB
                rw [ht] at hP1
                obtain ⟨hP, hD⟩ := xjoin (W := [(a0, .inr (2, [.ref a1, .int v1, .int v2])), (a1, .inl (cT 2, 4096, .inr (.inl f0))), (a2, .inr (2, [.ref a3, .int o25.2.2.1, .int o25.2.2.2])), (a3, .inl (cT 2, 4096, .inr (.inl o28)))]) hP hD [2, 3] [0, 1] 2 rfl rfl (by decide) (by decide) hk1 hFc hP1 hD1
                generalize H1 = H at hP hS ⊢
                refine lv_iconst (v := 0) hx hb dH_indices_116 (by decide) ?_
                obtain rfl := Option.some.inj hf
                obtain ⟨hP9, hD9⟩ := xsub (wc := [(a0, .inr (2, [.ref a1, .int v1, .int v2])), (a1, .inl (cT 2, 4096, .inr (.inl f0))), (a2, .inr (2, [.ref a3, .int o25.2.2.1, .int o25.2.2.2])), (a3, .inl (cT 2, 4096, .inr (.inl o28)))]) hP hD [0, 1, 2, 3] rfl rfl (by decide)
                exact W.iret (v := (0 : Int32)) hx hb hr (fun t ht hW => ⟨⟨(0 : Int32), (), rfl, rfl, by rw [ht]; exact hP9, va_K.moved hW.alike hK, hD9⟩, hS.F ht⟩) hS.2.2 dH_indices_117
            · rw [if_pos hc] at hf
              refine lv_aload_n hx hb dH_indices_69 rfl (lv_at hl 3 rfl) ?_
              obtain ⟨o19, hq20, hf⟩ := xbind hf
              obtain ⟨hPc, hDc, hFc⟩ := xcut (wc := [(a2, .inr (2, [.ref a3, .int v4, .int v5])), (a3, .inl (cT 2, 4096, .inr (.inl f3)))]) hP hD hS hA [0, 1] rfl rfl (by decide)
              refine va_calli (va_runS (As := [.ref a2]) (rest := []) ⟨hx, hb, hml, hown, htx⟩ (gH_nothing l hl9 D cT aK aV H.size n a2 a3 f3 v4 v5 o19 hq20) ⟨callB_of 1 htx (xw_goodC kw_4_221) rfl rfl rfl (htx _ kw_1_27) (htx _ kw_4_219) ⟨by decide, by decide, by decide +kernel⟩ ⟨Nat.le_of_ble_eq_true rfl, Nat.le_of_ble_eq_true rfl⟩, htx _ kw_4_220⟩ ⟨xPre_blind, (fun U hU hW => ⟨rfl, xPre_of hZ hS hFc hPc hDc hK U hU hW⟩)⟩ rfl rfl hl.1 rfl (lv_room (Nat.le_of_ble_eq_true rfl)) dH_indices_70 ⟨Nat.le_of_ble_eq_true rfl, Nat.le_of_ble_eq_true rfl⟩) hS (fun q _ h => hFc q h) hFc (fun r21 u9 t H1 locs ht hvm hr9 hB hz1 hk1 hS => ?_)
              obtain ⟨hP1, hK1, hD1⟩ := hB
              rw [ht] at hP1
              obtain ⟨hP, hD⟩ := xjoin (W := [(a0, .inr (2, [.ref a1, .int v1, .int v2])), (a1, .inl (cT 2, 4096, .inr (.inl f0))), (a2, .inr (2, [.ref a3, .int o19.2.2.1, .int o19.2.2.2])), (a3, .inl (cT 2, 4096, .inr (.inl o19.2.1)))]) hP hD [0, 1] [2, 3] 2 rfl rfl (by decide) (by decide) hk1 hFc hP1 hD1
              generalize H1 = H at hP hS ⊢
              rw [hr9]
              refine W.eq (g2 := F0 m 73 ls [.int o19.1]) rfl ?_
              obtain rfl := Option.some.inj hf
              obtain ⟨hP9, hD9⟩ := xsub (wc := [(a0, .inr (2, [.ref a1, .int v1, .int v2])), (a1, .inl (cT 2, 4096, .inr (.inl f0))), (a2, .inr (2, [.ref a3, .int o19.2.2.1, .int o19.2.2.2])), (a3, .inl (cT 2, 4096, .inr (.inl o19.2.1)))]) hP hD [0, 1, 2, 3] rfl rfl (by decide)
              exact W.iret (v := o19.1) hx hb hr (fun t ht hW => ⟨⟨o19.1, (), rfl, rfl, by rw [ht]; exact hP9, va_K.moved hW.alike hK, hD9⟩, hS.F ht⟩) hS.2.2 dH_indices_73
          · rw [if_pos hc] at hf
            refine lv_iconst (v := 1) hx hb dH_indices_51 (by decide) ?_
            refine lv_goto (tgt := 56) hx hb dH_indices_52 (by decide) ?_
            refine lv_istore_n (lv' := [(3, .int 1), (0, .ref a0), (1, .ref a0), (2, .ref a2)]) hx hb dH_indices_56 rfl hl (by decide) rfl (fun ls hl => ?_)
            refine lv_iload_n hx hb dH_indices_57 rfl (lv_at hl 0 rfl) ?_
            refine lv_if_ne (tgt := 74) hx hb dH_indices_58 (by decide) (fun _ => ?_) (fun h => ((by revert h; decide : False)).elim)
            refine lv_aload_n hx hb dH_indices_74 rfl (lv_at hl 3 rfl) ?_
            obtain ⟨o16, hq17, hf⟩ := xbind hf
            obtain ⟨hPc, hDc, hFc⟩ := xcut (wc := [(a2, .inr (2, [.ref a3, .int v4, .int v5])), (a3, .inl (cT 2, 4096, .inr (.inl f3)))]) hP hD hS hA [0, 1] rfl rfl (by decide)
            refine va_calli (va_runV (C := "ValueBench$Row") (As := []) (rest := []) ⟨hx, hb, hml, hown, htx⟩ (gR_open l hl9 D cT aK aV H.size n a2 a3 f3 v4 v5 o16 hq17) ⟨callB_of 0 htx (xw_goodC kw_2_136) rfl rfl rfl (htx _ kw_1_4) (htx _ kw_4_223) ⟨by decide, by decide, by decide +kernel⟩ ⟨Nat.le_of_ble_eq_true rfl, Nat.le_of_ble_eq_true rfl⟩, (htx _ kw_2_134), (htx _ kw_2_135)⟩ ⟨xPre_blind, va_recv hK hP (ci := 2) rfl (q0 := 0) rfl, (fun U hU hW => ⟨rfl, xPre_of hZ hS hFc hPc hDc hK U hU hW⟩)⟩ rfl rfl hl.1 rfl (lv_room (Nat.le_of_ble_eq_true rfl)) dH_indices_75 ⟨Nat.le_of_ble_eq_true rfl, Nat.le_of_ble_eq_true rfl⟩) hS (fun q _ h => hFc q h) hFc (fun r18 u9 t H1 locs ht hvm hr9 hB hz1 hk1 hS => ?_)
            obtain ⟨hP1, hK1, hD1⟩ := hB
            rw [ht] at hP1
            obtain ⟨hP, hD⟩ := xjoin (W := [(a0, .inr (2, [.ref a1, .int v1, .int v2])), (a1, .inl (cT 2, 4096, .inr (.inl f0))), (a2, .inr (2, [.ref a3, .int o16.2.2.1, .int o16.2.2.2])), (a3, .inl (cT 2, 4096, .inr (.inl o16.2.1)))]) hP hD [0, 1] [2, 3] 2 rfl rfl (by decide) (by decide) hk1 hFc hP1 hD1
            generalize H1 = H at hP hS ⊢
            rw [hr9]
            refine W.eq (g2 := F0 m 78 ls [.int o16.1]) rfl ?_
            refine lv_istore (lv' := [(4, .int o16.1), (3, .int 1), (0, .ref a0), (1, .ref a0), (2, .ref a2)]) hx hb dH_indices_78 hl (by decide) rfl (fun ls hl => ?_)
            refine lv_aload_n hx hb dH_indices_80 rfl (lv_at hl 2 rfl) ?_
            refine lv_iconst (v := 0) hx hb dH_indices_81 (by decide) ?_
            refine lv_iconst (v := 4) hx hb dH_indices_82 (by decide) ?_
            obtain ⟨o19, hq20, hf⟩ := xbind hf
            obtain ⟨hPc, hDc, hFc⟩ := xcut (wc := [(a0, .inr (2, [.ref a1, .int v1, .int v2])), (a1, .inl (cT 2, 4096, .inr (.inl f0)))]) hP hD hS hA [0, 1] rfl rfl (by decide)
            refine va_calli (va_runV (C := "ValueBench$Row") (As := [.int 0, .int 4]) (rest := []) ⟨hx, hb, hml, hown, htx⟩ (gR_is l hl9 D cT aK aV H.size n a0 a1 (0 : Int32) (4 : Int32) f0 v1 v2 o19 hq20) ⟨callB_of 2 htx (xw_goodC kw_3_75) rfl rfl rfl (htx _ kw_1_4) (htx _ kw_4_150) ⟨by decide, by decide, by decide +kernel⟩ ⟨Nat.le_of_ble_eq_true rfl, Nat.le_of_ble_eq_true rfl⟩, (htx _ kw_3_73), (htx _ kw_3_74)⟩ ⟨xPre_blind, va_recv hK hP (ci := 2) rfl (q0 := 0) rfl, (fun U hU hW => ⟨rfl, xPre_of hZ hS hFc hPc hDc hK U hU hW⟩)⟩ rfl rfl hl.1 rfl (lv_room (Nat.le_of_ble_eq_true rfl)) dH_indices_83 ⟨Nat.le_of_ble_eq_true rfl, Nat.le_of_ble_eq_true rfl⟩) hS (fun q _ h => hFc q h) hFc (fun r21 u9 t H1 locs ht hvm hr9 hB hz1 hk1 hS => ?_)
            obtain ⟨hP1, hK1, hD1⟩ := hB
            rw [ht] at hP1
            obtain ⟨hP, hD⟩ := xjoin (W := [(a2, .inr (2, [.ref a3, .int o16.2.2.1, .int o16.2.2.2])), (a3, .inl (cT 2, 4096, .inr (.inl o16.2.1))), (a0, .inr (2, [.ref a1, .int v1, .int v2])), (a1, .inl (cT 2, 4096, .inr (.inl f0)))]) hP hD [0, 1] [2, 3] 2 rfl rfl (by decide) (by decide) hk1 hFc hP1 hD1
            generalize H1 = H at hP hS ⊢
            rw [hr9]
            refine W.eq (g2 := F0 m 86 ls [.int o19]) rfl ?_
            refine lv_if_eq (tgt := 98) hx hb dH_indices_86 (by decide) (fun hc => ?_) (fun hc => ?_)
            · rw [if_pos hc] at hf
              refine lv_aload_n hx hb dH_indices_98 rfl (lv_at hl 2 rfl) ?_
              refine lv_aload_n hx hb dH_indices_99 rfl (lv_at hl 3 rfl) ?_
              refine lv_iload_n hx hb dH_indices_100 rfl (lv_at hl 1 rfl) ?_
              refine lv_aload_n hx hb dH_indices_101 rfl (lv_at hl 4 rfl) ?_
              obtain ⟨o22, hq23, hf⟩ := xbind hf
              obtain ⟨hPc, hDc, hFc⟩ := xcut (wc := [(a0, .inr (2, [.ref a1, .int v1, .int v2])), (a1, .inl (cT 2, 4096, .inr (.inl f0))), (a2, .inr (2, [.ref a3, .int o16.2.2.1, .int o16.2.2.2])), (a3, .inl (cT 2, 4096, .inr (.inl o16.2.1)))]) hP hD hS hA [2, 3, 0, 1] rfl rfl (by decide)
              refine va_calli (va_runS (As := [.ref a0, .ref a0, .int 1, .ref a2]) (rest := []) ⟨hx, hb, hml, hown, htx⟩ (gH_putArrayIndicesa l hl9 D cT aK aV H.size d n a0 a1 a2 a3 (1 : Int32) f0 v1 v2 o16.2.1 o16.2.2.1 o16.2.2.2 o22 hq23) ⟨callB_of 4 htx (xw_goodC kw_4_230) rfl rfl rfl (htx _ kw_1_27) (htx _ kw_4_228) ⟨by decide, by decide, by decide +kernel⟩ ⟨(by show (16 * d + 2) + 1 ≤ 16 * d + 3; omega), (by show 8 + (9 + 11) + (400 * d + 51) ≤ 400 * d + 79; omega)⟩, htx _ kw_4_229⟩ ⟨xPre_blind, (fun U hU hW => ⟨rfl, xPre_of hZ hS hFc hPc hDc hK U hU hW⟩)⟩ rfl rfl hl.1 rfl (lv_room (Nat.le_of_ble_eq_true rfl)) dH_indices_102 ⟨Nat.le_of_ble_eq_true rfl, Nat.le_of_ble_eq_true rfl⟩) hS (fun q _ h => hFc q h) hFc (fun r24 u9 t H1 locs ht hvm hr9 hB hz1 hk1 hS => ?_)
              obtain ⟨hP1, hK1, hD1⟩ := hB
              rw [ht] at hP1
              obtain ⟨hP, hD⟩ := xjoin (W := [(a0, .inr (2, [.ref a1, .int v1, .int v2])), (a1, .inl (cT 2, 4096, .inr (.inl f0))), (a2, .inr (2, [.ref a3, .int o22.2.2.1, .int o22.2.2.2])), (a3, .inl (cT 2, 4096, .inr (.inl o22.2.1)))]) hP hD [2, 3, 0, 1] [] 0 rfl rfl (by decide) (by decide) hk1 hFc hP1 hD1
              generalize H1 = H at hP hS ⊢
              rw [hr9]
              refine W.eq (g2 := F0 m 105 ls [.int o22.1]) rfl ?_
              refine lv_istore (lv' := [(5, .int o22.1), (4, .int o16.1), (3, .int 1), (0, .ref a0), (1, .ref a0), (2, .ref a2)]) hx hb dH_indices_105 hl (by decide) rfl (fun ls hl => ?_)
              refine lv_aload_n hx hb dH_indices_107 rfl (lv_at hl 5 rfl) ?_
              refine lv_iload hx hb dH_indices_108 (lv_at hl 1 rfl) ?_
              refine lv_iconst (v := 5) hx hb dH_indices_110 (by decide) ?_
              refine lv_iload hx hb dH_indices_111 (lv_at hl 0 rfl) ?_
              obtain ⟨o25, hq26, hf⟩ := xbind hf
              obtain ⟨hPc, hDc, hFc⟩ := xcut (wc := [(a2, .inr (2, [.ref a3, .int o22.2.2.1, .int o22.2.2.2])), (a3, .inl (cT 2, 4096, .inr (.inl o22.2.1)))]) hP hD hS hA [2, 3] rfl rfl (by decide)
              refine va_callv (va_runV (C := "ValueBench$Row") (As := [.int o16.1, .int 5, .int o22.1]) (rest := []) ⟨hx, hb, hml, hown, htx⟩ (gR_close l hl9 D cT aK aV H.size n a2 a3 o16.1 (5 : Int32) o22.1 o22.2.1 o22.2.2.1 o22.2.2.2 o25 hq26) ⟨callB_of 3 htx (xw_goodC kw_2_167) rfl rfl rfl (htx _ kw_1_4) (htx _ kw_4_235) ⟨by decide, by decide, by decide +kernel⟩ ⟨Nat.le_of_ble_eq_true rfl, Nat.le_of_ble_eq_true rfl⟩, (htx _ kw_2_165), (htx _ kw_2_166)⟩ ⟨xPre_blind, va_recv hK hP (ci := 2) rfl (q0 := 2) rfl, (fun U hU hW => ⟨rfl, xPre_of hZ hS hFc hPc hDc hK U hU hW⟩)⟩ rfl rfl hl.1 rfl (lv_room (Nat.le_of_ble_eq_true rfl)) dH_indices_113 ⟨Nat.le_of_ble_eq_true rfl, Nat.le_of_ble_eq_true rfl⟩) hS (fun q _ h => hFc q h) hFc (fun u9 t H1 locs ht hvm hr9 hB hz1 hk1 hS => ?_)
              obtain ⟨hP1, hK1, hD1⟩ := hB
              rw [ht] at hP1
              obtain ⟨hP, hD⟩ := xjoin (W := [(a0, .inr (2, [.ref a1, .int v1, .int v2])), (a1, .inl (cT 2, 4096, .inr (.inl f0))), (a2, .inr (2, [.ref a3, .int o22.2.2.1, .int o22.2.2.2])), (a3, .inl (cT 2, 4096, .inr (.inl o25)))]) hP hD [2, 3] [0, 1] 2 rfl rfl (by decide) (by decide) hk1 hFc hP1 hD1
              generalize H1 = H at hP hS ⊢
              refine lv_iconst (v := 0) hx hb dH_indices_116 (by decide) ?_
              obtain rfl := Option.some.inj hf
              obtain ⟨hP9, hD9⟩ := xsub (wc := [(a0, .inr (2, [.ref a1, .int v1, .int v2])), (a1, .inl (cT 2, 4096, .inr (.inl f0))), (a2, .inr (2, [.ref a3, .int o22.2.2.1, .int o22.2.2.2])), (a3, .inl (cT 2, 4096, .inr (.inl o25)))]) hP hD [0, 1, 2, 3] rfl rfl (by decide)
              exact W.iret (v := (0 : Int32)) hx hb hr (fun t ht hW => ⟨⟨(0 : Int32), (), rfl, rfl, by rw [ht]; exact hP9, va_K.moved hW.alike hK, hD9⟩, hS.F ht⟩) hS.2.2 dH_indices_117
            · rw [if_neg hc] at hf
              refine lv_aload_n hx hb dH_indices_89 rfl (lv_at hl 2 rfl) ?_
              refine lv_aload_n hx hb dH_indices_90 rfl (lv_at hl 3 rfl) ?_
              refine lv_aload_n hx hb dH_indices_91 rfl (lv_at hl 4 rfl) ?_
              obtain ⟨o22, hq23, hf⟩ := xbind hf
              obtain ⟨hPc, hDc, hFc⟩ := xcut (wc := [(a0, .inr (2, [.ref a1, .int v1, .int v2])), (a1, .inl (cT 2, 4096, .inr (.inl f0))), (a2, .inr (2, [.ref a3, .int o16.2.2.1, .int o16.2.2.2])), (a3, .inl (cT 2, 4096, .inr (.inl o16.2.1)))]) hP hD hS hA [2, 3, 0, 1] rfl rfl (by decide)
              refine va_calli (va_runS (As := [.ref a0, .ref a0, .ref a2]) (rest := []) ⟨hx, hb, hml, hown, htx⟩ (gH_putStringIndicesa l hl9 D cT aK aV H.size n a0 a1 a2 a3 f0 v1 v2 o16.2.1 o16.2.2.1 o16.2.2.2 o22 hq23) ⟨callB_of 3 htx (xw_goodC kw_4_226) rfl rfl rfl (htx _ kw_1_27) (htx _ kw_4_224) ⟨by decide, by decide, by decide +kernel⟩ ⟨Nat.le_of_ble_eq_true rfl, Nat.le_of_ble_eq_true rfl⟩, htx _ kw_4_225⟩ ⟨xPre_blind, (fun U hU hW => ⟨rfl, xPre_of hZ hS hFc hPc hDc hK U hU hW⟩)⟩ rfl rfl hl.1 rfl (lv_room (Nat.le_of_ble_eq_true rfl)) dH_indices_92 ⟨Nat.le_of_ble_eq_true rfl, Nat.le_of_ble_eq_true rfl⟩) hS (fun q _ h => hFc q h) hFc (fun r24 u9 t H1 locs ht hvm hr9 hB hz1 hk1 hS => ?_)
              obtain ⟨hP1, hK1, hD1⟩ := hB
              rw [ht] at hP1
              obtain ⟨hP, hD⟩ := xjoin (W := [(a0, .inr (2, [.ref a1, .int v1, .int v2])), (a1, .inl (cT 2, 4096, .inr (.inl f0))), (a2, .inr (2, [.ref a3, .int o22.2.2.1, .int o22.2.2.2])), (a3, .inl (cT 2, 4096, .inr (.inl o22.2.1)))]) hP hD [2, 3, 0, 1] [] 0 rfl rfl (by decide) (by decide) hk1 hFc hP1 hD1
              generalize H1 = H at hP hS ⊢
              rw [hr9]
              refine W.eq (g2 := F0 m 95 ls [.int o22.1]) rfl ?_
              refine lv_goto (tgt := 105) hx hb dH_indices_95 (by decide) ?_
              refine lv_istore (lv' := [(5, .int o22.1), (4, .int o16.1), (3, .int 1), (0, .ref a0), (1, .ref a0), (2, .ref a2)]) hx hb dH_indices_105 hl (by decide) rfl (fun ls hl => ?_)
              refine lv_aload_n hx hb dH_indices_107 rfl (lv_at hl 5 rfl) ?_
              refine lv_iload hx hb dH_indices_108 (lv_at hl 1 rfl) ?_
              refine lv_iconst (v := 5) hx hb dH_indices_110 (by decide) ?_
              refine lv_iload hx hb dH_indices_111 (lv_at hl 0 rfl) ?_
              obtain ⟨o25, hq26, hf⟩ := xbind hf
              obtain ⟨hPc, hDc, hFc⟩ := xcut (wc := [(a2, .inr (2, [.ref a3, .int o22.2.2.1, .int o22.2.2.2])), (a3, .inl (cT 2, 4096, .inr (.inl o22.2.1)))]) hP hD hS hA [2, 3] rfl rfl (by decide)
              refine va_callv (va_runV (C := "ValueBench$Row") (As := [.int o16.1, .int 5, .int o22.1]) (rest := []) ⟨hx, hb, hml, hown, htx⟩ (gR_close l hl9 D cT aK aV H.size n a2 a3 o16.1 (5 : Int32) o22.1 o22.2.1 o22.2.2.1 o22.2.2.2 o25 hq26) ⟨callB_of 3 htx (xw_goodC kw_2_167) rfl rfl rfl (htx _ kw_1_4) (htx _ kw_4_235) ⟨by decide, by decide, by decide +kernel⟩ ⟨Nat.le_of_ble_eq_true rfl, Nat.le_of_ble_eq_true rfl⟩, (htx _ kw_2_165), (htx _ kw_2_166)⟩ ⟨xPre_blind, va_recv hK hP (ci := 2) rfl (q0 := 2) rfl, (fun U hU hW => ⟨rfl, xPre_of hZ hS hFc hPc hDc hK U hU hW⟩)⟩ rfl rfl hl.1 rfl (lv_room (Nat.le_of_ble_eq_true rfl)) dH_indices_113 ⟨Nat.le_of_ble_eq_true rfl, Nat.le_of_ble_eq_true rfl⟩) hS (fun q _ h => hFc q h) hFc (fun u9 t H1 locs ht hvm hr9 hB hz1 hk1 hS => ?_)
              obtain ⟨hP1, hK1, hD1⟩ := hB
              rw [ht] at hP1
              obtain ⟨hP, hD⟩ := xjoin (W := [(a0, .inr (2, [.ref a1, .int v1, .int v2])), (a1, .inl (cT 2, 4096, .inr (.inl f0))), (a2, .inr (2, [.ref a3, .int o22.2.2.1, .int o22.2.2.2])), (a3, .inl (cT 2, 4096, .inr (.inl o25)))]) hP hD [2, 3] [0, 1] 2 rfl rfl (by decide) (by decide) hk1 hFc hP1 hD1
              generalize H1 = H at hP hS ⊢
              refine lv_iconst (v := 0) hx hb dH_indices_116 (by decide) ?_
              obtain rfl := Option.some.inj hf
              obtain ⟨hP9, hD9⟩ := xsub (wc := [(a0, .inr (2, [.ref a1, .int v1, .int v2])), (a1, .inl (cT 2, 4096, .inr (.inl f0))), (a2, .inr (2, [.ref a3, .int o22.2.2.1, .int o22.2.2.2])), (a3, .inl (cT 2, 4096, .inr (.inl o25)))]) hP hD [0, 1, 2, 3] rfl rfl (by decide)
              exact W.iret (v := (0 : Int32)) hx hb hr (fun t ht hW => ⟨⟨(0 : Int32), (), rfl, rfl, by rw [ht]; exact hP9, va_K.moved hW.alike hK, hD9⟩, hS.F ht⟩) hS.2.2 dH_indices_117
      · rw [if_pos hc] at hf
        refine lv_iconst (v := 1) hx hb dH_indices_31 (by decide) ?_
        obtain rfl := Option.some.inj hf
        obtain ⟨hP9, hD9⟩ := xsub (wc := [(a0, .inr (2, [.ref a1, .int v1, .int v2])), (a1, .inl (cT 2, 4096, .inr (.inl f0))), (a2, .inr (2, [.ref a3, .int v4, .int v5])), (a3, .inl (cT 2, 4096, .inr (.inl f3)))]) hP hD [2, 3, 0, 1] rfl rfl (by decide)
        exact W.iret (v := (1 : Int32)) hx hb hr (fun t ht hW => ⟨⟨(1 : Int32), (), rfl, rfl, by rw [ht]; exact hP9, va_K.moved hW.alike hK, hD9⟩, hS.F ht⟩) hS.2.2 dH_indices_32
  · rw [if_neg hc] at hf
    refine lv_aload_n hx hb dH_indices_9 rfl (lv_at hl 2 rfl) ?_
    obtain ⟨o4, hq5, hf⟩ := xbind hf
    obtain ⟨hPc, hDc, hFc⟩ := xcut (wc := [(a2, .inr (2, [.ref a3, .int v4, .int v5])), (a3, .inl (cT 2, 4096, .inr (.inl f3)))]) hP hD hS hA [0, 1] rfl rfl (by decide)
    refine va_calli (va_runS (As := [.ref a2]) (rest := []) ⟨hx, hb, hml, hown, htx⟩ (gH_nothing l hl9 D cT aK aV H.size n a2 a3 f3 v4 v5 o4 hq5) ⟨callB_of 1 htx (xw_goodC kw_4_221) rfl rfl rfl (htx _ kw_1_27) (htx _ kw_4_219) ⟨by decide, by decide, by decide +kernel⟩ ⟨Nat.le_of_ble_eq_true rfl, Nat.le_of_ble_eq_true rfl⟩, htx _ kw_4_220⟩ ⟨xPre_blind, (fun U hU hW => ⟨rfl, xPre_of hZ hS hFc hPc hDc hK U hU hW⟩)⟩ rfl rfl hl.1 rfl (lv_room (Nat.le_of_ble_eq_true rfl)) dH_indices_10 ⟨Nat.le_of_ble_eq_true rfl, Nat.le_of_ble_eq_true rfl⟩) hS (fun q _ h => hFc q h) hFc (fun r6 u9 t H1 locs ht hvm hr9 hB hz1 hk1 hS => ?_)
    obtain ⟨hP1, hK1, hD1⟩ := hB
    rw [ht] at hP1
    obtain ⟨hP, hD⟩ := xjoin (W := [(a0, .inr (2, [.ref a1, .int v1, .int v2])), (a1, .inl (cT 2, 4096, .inr (.inl f0))), (a2, .inr (2, [.ref a3, .int o4.2.2.1, .int o4.2.2.2])), (a3, .inl (cT 2, 4096, .inr (.inl o4.2.1)))]) hP hD [0, 1] [2, 3] 2 rfl rfl (by decide) (by decide) hk1 hFc hP1 hD1
    generalize H1 = H at hP hS ⊢
    rw [hr9]
    refine W.eq (g2 := F0 m 13 ls [.int o4.1]) rfl ?_
    obtain rfl := Option.some.inj hf
    obtain ⟨hP9, hD9⟩ := xsub (wc := [(a0, .inr (2, [.ref a1, .int v1, .int v2])), (a1, .inl (cT 2, 4096, .inr (.inl f0))), (a2, .inr (2, [.ref a3, .int o4.2.2.1, .int o4.2.2.2])), (a3, .inl (cT 2, 4096, .inr (.inl o4.2.1)))]) hP hD [0, 1, 2, 3] rfl rfl (by decide)
    exact W.iret (v := o4.1) hx hb hr (fun t ht hW => ⟨⟨o4.1, (), rfl, rfl, by rw [ht]; exact hP9, va_K.moved hW.alike hK, hD9⟩, hS.F ht⟩) hS.2.2 dH_indices_13
set_option maxHeartbeats 400000000 in
set_option maxRecDepth 100000 in
theorem gH_flata (l : Launch) (hl9 : l.stackTraces = false) (D : va_G) (cT : Nat → ClassId) (aK aV : Nat → Nat) (sz d n : Nat) (a0 : Nat) (a1 : Nat) (a2 : Nat) (a3 : Nat) (f0 : Nat → Int64) (v1 : Int32) (v2 : Int32) (f3 : Nat → Int64) (v4 : Int32) (v5 : Int32) (out : Int32 × (Nat → Int64) × Int32 × Int32) (hf : fH_flata d n f0 v1 v2 f3 v4 v5 = some out) : xMet l yH_flat wyH_flat (16 * d + 2) 0 0 (400 * d + 43) D cT aK aV sz [.ref a0, .ref a0, .ref a2] [(a0, .inr (2, [.ref a1, .int v1, .int v2])), (a1, .inl (cT 2, 4096, .inr (.inl f0))), (a2, .inr (2, [.ref a3, .int v4, .int v5])), (a3, .inl (cT 2, 4096, .inr (.inl f3)))] (fun A => va_Qi (fun (r : Int32) (_ : Unit) => r = out.1) (fun _ t => xB D xcl cT A [(a0, .inr (2, [.ref a1, .int v1, .int v2])), (a1, .inl (cT 2, 4096, .inr (.inl f0))), (a2, .inr (2, [.ref a3, .int out.2.2.1, .int out.2.2.2])), (a3, .inl (cT 2, 4096, .inr (.inl out.2.1)))] t) A) := by
  refine Met.ofW (cc := prog_5_method_26_code) (maxL := 5) (ret := (some .int)) (by decide) rfl ?_
  intro p e s m args below meth c s₁ B hml hv
  obtain ⟨rfl, hsz, hZ, hP, hK, hD0⟩ := hv
  have hx := B.exec
  have hb := B.bytes
  have hr := B.returns
  have hts := atoms_spec (ws := wyH_flat) B.pre
  have htx := fun w h => hts w (List.mem_cons_of_mem _ h)
  have hown : s.vm.findClass "ValueBench$Pairs" = some m.cls := findClass_of_methodNamed B.named
  have hlocks := B.notSynchronized
  subst hsz
  have hD := hD0.self (sz := s.heap.size)
  generalize hAe : va_A [(a0, .inr (2, [.ref a1, .int v1, .int v2])), (a1, .inl (cT 2, 4096, .inr (.inl f0))), (a2, .inr (2, [.ref a3, .int v4, .int v5])), (a3, .inl (cT 2, 4096, .inr (.inl f3)))] s.heap.size = A at hD hZ ⊢
  have hA : ∀ q : Nat, s.heap.size ≤ q → A q := fun q h => by rw [← hAe]; exact Or.inr h
  have hS : va_S A s.heap s.heap [] := va_S.rf
  have hP : va_P D xcl [(a0, .inr (2, [.ref a1, .int v1, .int v2])), (a1, .inl (cT 2, 4096, .inr (.inl f0))), (a2, .inr (2, [.ref a3, .int v4, .int v5])), (a3, .inl (cT 2, 4096, .inr (.inl f3)))] s.heap := hP
  have hl := lv_entry ([.ref a0, .ref a0, .ref a2]) (n := 5) (Nat.le_of_ble_eq_true rfl)
  rw [lg_entry_eq]
  generalize (lg_sl ([.ref a0, .ref a0, .ref a2]) ++ List.replicate (5 - (lg_sl ([.ref a0, .ref a0, .ref a2])).length) Slot.unset).toArray = ls at hl ⊢
  have hl : lv_has ls 5 [(0, .ref a0), (1, .ref a0), (2, .ref a2)] := hl
  unfold fH_flata at hf
  refine lv_aload_n hx hb dH_flat_0 rfl (lv_at hl 0 rfl) ?_
  refine lv_iconst (v := 0) hx hb dH_flat_1 (by decide) ?_
  refine lv_iconst (v := 5) hx hb dH_flat_2 (by decide) ?_
  obtain ⟨o1, hq2, hf⟩ := xbind hf
  obtain ⟨hPc, hDc, hFc⟩ := xcut (wc := [(a0, .inr (2, [.ref a1, .int v1, .int v2])), (a1, .inl (cT 2, 4096, .inr (.inl f0)))]) hP hD hS hA [0, 1] rfl rfl (by decide)
  refine va_calli (va_runV (C := "ValueBench$Row") (As := [.int 0, .int 5]) (rest := []) ⟨hx, hb, hml, hown, htx⟩ (gR_is l hl9 D cT aK aV s.heap.size n a0 a1 (0 : Int32) (5 : Int32) f0 v1 v2 o1 hq2) ⟨callB_of 2 htx (xw_goodC kw_3_75) rfl rfl rfl (htx _ kw_1_4) (htx _ kw_4_150) ⟨by decide, by decide, by decide +kernel⟩ ⟨Nat.le_of_ble_eq_true rfl, Nat.le_of_ble_eq_true rfl⟩, (htx _ kw_3_73), (htx _ kw_3_74)⟩ ⟨xPre_blind, va_recv hK hP (ci := 2) rfl (q0 := 0) rfl, (fun U hU hW => ⟨rfl, xPre_of hZ hS hFc hPc hDc hK U hU hW⟩)⟩ rfl rfl hl.1 rfl (lv_room (Nat.le_of_ble_eq_true rfl)) dH_flat_3 ⟨Nat.le_of_ble_eq_true rfl, Nat.le_of_ble_eq_true rfl⟩) hS (fun q _ h => hFc q h) hFc (fun r3 u9 t H1 locs ht hvm hr9 hB hz1 hk1 hS => ?_)
  obtain ⟨hP1, hK1, hD1⟩ := hB
  rw [ht] at hP1
  obtain ⟨hP, hD⟩ := xjoin (W := [(a2, .inr (2, [.ref a3, .int v4, .int v5])), (a3, .inl (cT 2, 4096, .inr (.inl f3))), (a0, .inr (2, [.ref a1, .int v1, .int v2])), (a1, .inl (cT 2, 4096, .inr (.inl f0)))]) hP hD [0, 1] [2, 3] 2 rfl rfl (by decide) (by decide) hk1 hFc hP1 hD1
  generalize H1 = H at hP hS ⊢
  rw [hr9]
  refine W.eq (g2 := F0 m 6 ls [.int o1]) rfl ?_
  refine lv_if_eq (tgt := 18) hx hb dH_flat_6 (by decide) (fun hc => ?_) (fun hc => ?_)
  · rw [if_pos hc] at hf
    refine lv_iconst (v := 1) hx hb dH_flat_18 (by decide) ?_
    obtain rfl := Option.some.inj hf
    obtain ⟨hP9, hD9⟩ := xsub (wc := [(a0, .inr (2, [.ref a1, .int v1, .int v2])), (a1, .inl (cT 2, 4096, .inr (.inl f0))), (a2, .inr (2, [.ref a3, .int v4, .int v5])), (a3, .inl (cT 2, 4096, .inr (.inl f3)))]) hP hD [2, 3, 0, 1] rfl rfl (by decide)
    exact W.iret (v := (1 : Int32)) hx hb hr (fun t ht hW => ⟨⟨(1 : Int32), (), rfl, rfl, by rw [ht]; exact hP9, va_K.moved hW.alike hK, hD9⟩, hS.F ht⟩) hS.2.2 dH_flat_19
  · rw [if_neg hc] at hf
    refine lv_aload_n hx hb dH_flat_9 rfl (lv_at hl 1 rfl) ?_
    refine lv_iconst (v := 0) hx hb dH_flat_10 (by decide) ?_
    refine lv_iconst (v := 3) hx hb dH_flat_11 (by decide) ?_
    obtain ⟨o4, hq5, hf⟩ := xbind hf
    obtain ⟨hPc, hDc, hFc⟩ := xcut (wc := [(a0, .inr (2, [.ref a1, .int v1, .int v2])), (a1, .inl (cT 2, 4096, .inr (.inl f0)))]) hP hD hS hA [2, 3] rfl rfl (by decide)
    refine va_calli (va_runV (C := "ValueBench$Row") (As := [.int 0, .int 3]) (rest := []) ⟨hx, hb, hml, hown, htx⟩ (gR_is l hl9 D cT aK aV H.size n a0 a1 (0 : Int32) (3 : Int32) f0 v1 v2 o4 hq5) ⟨callB_of 2 htx (xw_goodC kw_3_75) rfl rfl rfl (htx _ kw_1_4) (htx _ kw_4_150) ⟨by decide, by decide, by decide +kernel⟩ ⟨Nat.le_of_ble_eq_true rfl, Nat.le_of_ble_eq_true rfl⟩, (htx _ kw_3_73), (htx _ kw_3_74)⟩ ⟨xPre_blind, va_recv hK hP (ci := 2) rfl (q0 := 2) rfl, (fun U hU hW => ⟨rfl, xPre_of hZ hS hFc hPc hDc hK U hU hW⟩)⟩ rfl rfl hl.1 rfl (lv_room (Nat.le_of_ble_eq_true rfl)) dH_flat_12 ⟨Nat.le_of_ble_eq_true rfl, Nat.le_of_ble_eq_true rfl⟩) hS (fun q _ h => hFc q h) hFc (fun r6 u9 t H1 locs ht hvm hr9 hB hz1 hk1 hS => ?_)
    obtain ⟨hP1, hK1, hD1⟩ := hB
    rw [ht] at hP1
    obtain ⟨hP, hD⟩ := xjoin (W := [(a2, .inr (2, [.ref a3, .int v4, .int v5])), (a3, .inl (cT 2, 4096, .inr (.inl f3))), (a0, .inr (2, [.ref a1, .int v1, .int v2])), (a1, .inl (cT 2, 4096, .inr (.inl f0)))]) hP hD [2, 3] [0, 1] 2 rfl rfl (by decide) (by decide) hk1 hFc hP1 hD1
    generalize H1 = H at hP hS ⊢
    rw [hr9]
    refine W.eq (g2 := F0 m 15 ls [.int o4]) rfl ?_
    refine lv_if_ne (tgt := 20) hx hb dH_flat_15 (by decide) (fun hc => ?_) (fun hc => ?_)
    · rw [if_neg hc] at hf
      refine lv_aload_n hx hb dH_flat_20 rfl (lv_at hl 1 rfl) ?_
      refine lv_iconst (v := 0) hx hb dH_flat_21 (by decide) ?_
      obtain ⟨o7, hq8, hf⟩ := xbind hf
      obtain ⟨hPc, hDc, hFc⟩ := xcut (wc := [(a0, .inr (2, [.ref a1, .int v1, .int v2])), (a1, .inl (cT 2, 4096, .inr (.inl f0)))]) hP hD hS hA [2, 3] rfl rfl (by decide)
      refine va_calll (va_runV (C := "ValueBench$Row") (As := [.int 0]) (rest := []) ⟨hx, hb, hml, hown, htx⟩ (gR_number l hl9 D cT aK aV H.size n a0 a1 (0 : Int32) f0 v1 v2 o7 hq8) ⟨callB_of 1 htx (xw_goodC kw_3_37) rfl rfl rfl (htx _ kw_1_4) (htx _ kw_4_156) ⟨by decide, by decide, by decide +kernel⟩ ⟨Nat.le_of_ble_eq_true rfl, Nat.le_of_ble_eq_true rfl⟩, (htx _ kw_3_35), (htx _ kw_3_36)⟩ ⟨xPre_blind, va_recv hK hP (ci := 2) rfl (q0 := 2) rfl, (fun U hU hW => ⟨rfl, xPre_of hZ hS hFc hPc hDc hK U hU hW⟩)⟩ rfl rfl hl.1 rfl (lv_room (Nat.le_of_ble_eq_true rfl)) dH_flat_22 ⟨Nat.le_of_ble_eq_true rfl, Nat.le_of_ble_eq_true rfl⟩) hS (fun q _ h => hFc q h) hFc (fun r9 u9 t H1 locs ht hvm hr9 hB hz1 hk1 hS => ?_)
      obtain ⟨hP1, hK1, hD1⟩ := hB
      rw [ht] at hP1
      obtain ⟨hP, hD⟩ := xjoin (W := [(a2, .inr (2, [.ref a3, .int v4, .int v5])), (a3, .inl (cT 2, 4096, .inr (.inl f3))), (a0, .inr (2, [.ref a1, .int v1, .int v2])), (a1, .inl (cT 2, 4096, .inr (.inl f0)))]) hP hD [2, 3] [0, 1] 2 rfl rfl (by decide) (by decide) hk1 hFc hP1 hD1
      generalize H1 = H at hP hS ⊢
      rw [hr9]
      refine W.eq (g2 := F0 m 25 ls [.long o7]) rfl ?_
      refine lv_lconst (v := 0) hx hb dH_flat_25 (by decide) ?_
      refine W.lcmp hx hb dH_flat_26 ?_
      refine lv_if_ge (tgt := 32) hx hb dH_flat_27 (by decide) (fun hc => ?_) (fun hc => ?_)
      · rw [if_pos hc] at hf
        refine lv_aload_n hx hb dH_flat_32 rfl (lv_at hl 2 rfl) ?_
        obtain ⟨o10, hq11, hf⟩ := xbind hf
        obtain ⟨hPc, hDc, hFc⟩ := xcut (wc := [(a2, .inr (2, [.ref a3, .int v4, .int v5])), (a3, .inl (cT 2, 4096, .inr (.inl f3)))]) hP hD hS hA [0, 1] rfl rfl (by decide)
        refine va_calli (va_runV (C := "ValueBench$Row") (As := []) (rest := []) ⟨hx, hb, hml, hown, htx⟩ (gR_open l hl9 D cT aK aV H.size n a2 a3 f3 v4 v5 o10 hq11) ⟨callB_of 0 htx (xw_goodC kw_2_136) rfl rfl rfl (htx _ kw_1_4) (htx _ kw_4_223) ⟨by decide, by decide, by decide +kernel⟩ ⟨Nat.le_of_ble_eq_true rfl, Nat.le_of_ble_eq_true rfl⟩, (htx _ kw_2_134), (htx _ kw_2_135)⟩ ⟨xPre_blind, va_recv hK hP (ci := 2) rfl (q0 := 0) rfl, (fun U hU hW => ⟨rfl, xPre_of hZ hS hFc hPc hDc hK U hU hW⟩)⟩ rfl rfl hl.1 rfl (lv_room (Nat.le_of_ble_eq_true rfl)) dH_flat_33 ⟨Nat.le_of_ble_eq_true rfl, Nat.le_of_ble_eq_true rfl⟩) hS (fun q _ h => hFc q h) hFc (fun r12 u9 t H1 locs ht hvm hr9 hB hz1 hk1 hS => ?_)
        obtain ⟨hP1, hK1, hD1⟩ := hB
        rw [ht] at hP1
        obtain ⟨hP, hD⟩ := xjoin (W := [(a0, .inr (2, [.ref a1, .int v1, .int v2])), (a1, .inl (cT 2, 4096, .inr (.inl f0))), (a2, .inr (2, [.ref a3, .int o10.2.2.1, .int o10.2.2.2])), (a3, .inl (cT 2, 4096, .inr (.inl o10.2.1)))]) hP hD [0, 1] [2, 3] 2 rfl rfl (by decide) (by decide) hk1 hFc hP1 hD1
        generalize H1 = H at hP hS ⊢
        rw [hr9]
        refine W.eq (g2 := F0 m 36 ls [.int o10.1]) rfl ?_
        refine lv_istore_n (lv' := [(3, .int o10.1), (0, .ref a0), (1, .ref a0), (2, .ref a2)]) hx hb dH_flat_36 rfl hl (by decide) rfl (fun ls hl => ?_)
        refine lv_aload_n hx hb dH_flat_37 rfl (lv_at hl 1 rfl) ?_
        refine lv_iconst (v := 0) hx hb dH_flat_38 (by decide) ?_
        refine lv_aload_n hx hb dH_flat_39 rfl (lv_at hl 2 rfl) ?_
        refine lv_iconst (v := 0) hx hb dH_flat_40 (by decide) ?_
        obtain ⟨o13, hq14, hf⟩ := xbind hf
        obtain ⟨hPc, hDc, hFc⟩ := xcut (wc := [(a0, .inr (2, [.ref a1, .int v1, .int v2])), (a1, .inl (cT 2, 4096, .inr (.inl f0)))]) hP hD hS hA [0, 1] rfl rfl (by decide)
        refine va_calll (va_runV (C := "ValueBench$Row") (As := [.int 0]) (rest := [.int 0, .ref a0]) ⟨hx, hb, hml, hown, htx⟩ (gR_number l hl9 D cT aK aV H.size n a0 a1 (0 : Int32) f0 v1 v2 o13 hq14) ⟨callB_of 1 htx (xw_goodC kw_3_37) rfl rfl rfl (htx _ kw_1_4) (htx _ kw_4_156) ⟨by decide, by decide, by decide +kernel⟩ ⟨Nat.le_of_ble_eq_true rfl, Nat.le_of_ble_eq_true rfl⟩, (htx _ kw_3_35), (htx _ kw_3_36)⟩ ⟨xPre_blind, va_recv hK hP (ci := 2) rfl (q0 := 0) rfl, (fun U hU hW => ⟨rfl, xPre_of hZ hS hFc hPc hDc hK U hU hW⟩)⟩ rfl rfl hl.1 rfl (lv_room (Nat.le_of_ble_eq_true rfl)) dH_flat_41 ⟨Nat.le_of_ble_eq_true rfl, Nat.le_of_ble_eq_true rfl⟩) hS (fun q _ h => hFc q h) hFc (fun r15 u9 t H1 locs ht hvm hr9 hB hz1 hk1 hS => ?_)
        obtain ⟨hP1, hK1, hD1⟩ := hB
        rw [ht] at hP1
        obtain ⟨hP, hD⟩ := xjoin (W := [(a2, .inr (2, [.ref a3, .int o10.2.2.1, .int o10.2.2.2])), (a3, .inl (cT 2, 4096, .inr (.inl o10.2.1))), (a0, .inr (2, [.ref a1, .int v1, .int v2])), (a1, .inl (cT 2, 4096, .inr (.inl f0)))]) hP hD [0, 1] [2, 3] 2 rfl rfl (by decide) (by decide) hk1 hFc hP1 hD1
        generalize H1 = H at hP hS ⊢
        rw [hr9]
        refine W.eq (g2 := F0 m 44 ls [.long o13, .int 0, .ref a0]) rfl ?_
        refine lv_aload_n hx hb dH_flat_44 rfl (lv_at hl 3 rfl) ?_
        refine lv_iconst (v := 0) hx hb dH_flat_45 (by decide) ?_
        obtain ⟨o16, hq17, hf⟩ := xbind hf
        obtain ⟨hPc, hDc, hFc⟩ := xcut (wc := [(a0, .inr (2, [.ref a1, .int v1, .int v2])), (a1, .inl (cT 2, 4096, .inr (.inl f0))), (a2, .inr (2, [.ref a3, .int o10.2.2.1, .int o10.2.2.2])), (a3, .inl (cT 2, 4096, .inr (.inl o10.2.1)))]) hP hD hS hA [2, 3, 0, 1] rfl rfl (by decide)
        refine va_calli (va_runS (As := [.ref a0, .int 0, .long o13, .ref a2, .int 0]) (rest := []) ⟨hx, hb, hml, hown, htx⟩ (gH_putFlat l hl9 D cT aK aV d H.size n a0 a1 a2 a3 (0 : Int32) o13 (0 : Int32) f0 v1 v2 o10.2.1 o10.2.2.1 o10.2.2.2 o16 hq17) ⟨callB_of 5 htx (xw_goodC kw_5_1) rfl rfl rfl (htx _ kw_1_27) (htx _ kw_4_239) ⟨by decide, by decide, by decide +kernel⟩ ⟨(by show (16 * d) + 1 ≤ 16 * d + 2; omega), (by show 8 + (9 + 11) + (400 * d) ≤ 400 * d + 43; omega)⟩, htx _ kw_5_0⟩ ⟨xPre_blind, (fun U hU hW => ⟨rfl, xPre_of hZ hS hFc hPc hDc hK U hU hW⟩)⟩ rfl rfl hl.1 rfl (lv_room (Nat.le_of_ble_eq_true rfl)) dH_flat_46 ⟨Nat.le_of_ble_eq_true rfl, Nat.le_of_ble_eq_true rfl⟩) hS (fun q _ h => hFc q h) hFc (fun r18 u9 t H1 locs ht hvm hr9 hB hz1 hk1 hS => ?_)
        obtain ⟨hP1, hK1, hD1⟩ := hB
        rw [ht] at hP1
        obtain ⟨hP, hD⟩ := xjoin (W := [(a0, .inr (2, [.ref a1, .int v1, .int v2])), (a1, .inl (cT 2, 4096, .inr (.inl f0))), (a2, .inr (2, [.ref a3, .int o16.2.2.1, .int o16.2.2.2])), (a3, .inl (cT 2, 4096, .inr (.inl o16.2.1)))]) hP hD [2, 3, 0, 1] [] 0 rfl rfl (by decide) (by decide) hk1 hFc hP1 hD1
        generalize H1 = H at hP hS ⊢
        rw [hr9]
        refine W.eq (g2 := F0 m 49 ls [.int o16.1]) rfl ?_
        refine lv_istore (lv' := [(4, .int o16.1), (3, .int o10.1), (0, .ref a0), (1, .ref a0), (2, .ref a2)]) hx hb dH_flat_49 hl (by decide) rfl (fun ls hl => ?_)
        refine lv_aload_n hx hb dH_flat_51 rfl (lv_at hl 4 rfl) ?_
        refine lv_iload_n hx hb dH_flat_52 rfl (lv_at hl 1 rfl) ?_
        refine lv_iconst (v := 5) hx hb dH_flat_53 (by decide) ?_
        refine lv_iload hx hb dH_flat_54 (lv_at hl 0 rfl) ?_
        obtain ⟨o19, hq20, hf⟩ := xbind hf
        obtain ⟨hPc, hDc, hFc⟩ := xcut (wc := [(a2, .inr (2, [.ref a3, .int o16.2.2.1, .int o16.2.2.2])), (a3, .inl (cT 2, 4096, .inr (.inl o16.2.1)))]) hP hD hS hA [2, 3] rfl rfl (by decide)
        refine va_callv (va_runV (C := "ValueBench$Row") (As := [.int o10.1, .int 5, .int o16.1]) (rest := []) ⟨hx, hb, hml, hown, htx⟩ (gR_close l hl9 D cT aK aV H.size n a2 a3 o10.1 (5 : Int32) o16.1 o16.2.1 o16.2.2.1 o16.2.2.2 o19 hq20) ⟨callB_of 3 htx (xw_goodC kw_2_167) rfl rfl rfl (htx _ kw_1_4) (htx _ kw_4_235) ⟨by decide, by decide, by decide +kernel⟩ ⟨Nat.le_of_ble_eq_true rfl, Nat.le_of_ble_eq_true rfl⟩, (htx _ kw_2_165), (htx _ kw_2_166)⟩ ⟨xPre_blind, va_recv hK hP (ci := 2) rfl (q0 := 2) rfl, (fun U hU hW => ⟨rfl, xPre_of hZ hS hFc hPc hDc hK U hU hW⟩)⟩ rfl rfl hl.1 rfl (lv_room (Nat.le_of_ble_eq_true rfl)) dH_flat_56 ⟨Nat.le_of_ble_eq_true rfl, Nat.le_of_ble_eq_true rfl⟩) hS (fun q _ h => hFc q h) hFc (fun u9 t H1 locs ht hvm hr9 hB hz1 hk1 hS => ?_)
        obtain ⟨hP1, hK1, hD1⟩ := hB
        rw [ht] at hP1
        obtain ⟨hP, hD⟩ := xjoin (W := [(a0, .inr (2, [.ref a1, .int v1, .int v2])), (a1, .inl (cT 2, 4096, .inr (.inl f0))), (a2, .inr (2, [.ref a3, .int o16.2.2.1, .int o16.2.2.2])), (a3, .inl (cT 2, 4096, .inr (.inl o19)))]) hP hD [2, 3] [0, 1] 2 rfl rfl (by decide) (by decide) hk1 hFc hP1 hD1
        generalize H1 = H at hP hS ⊢
        refine lv_iconst (v := 0) hx hb dH_flat_59 (by decide) ?_
        obtain rfl := Option.some.inj hf
        obtain ⟨hP9, hD9⟩ := xsub (wc := [(a0, .inr (2, [.ref a1, .int v1, .int v2])), (a1, .inl (cT 2, 4096, .inr (.inl f0))), (a2, .inr (2, [.ref a3, .int o16.2.2.1, .int o16.2.2.2])), (a3, .inl (cT 2, 4096, .inr (.inl o19)))]) hP hD [0, 1, 2, 3] rfl rfl (by decide)
        exact W.iret (v := (0 : Int32)) hx hb hr (fun t ht hW => ⟨⟨(0 : Int32), (), rfl, rfl, by rw [ht]; exact hP9, va_K.moved hW.alike hK, hD9⟩, hS.F ht⟩) hS.2.2 dH_flat_60
      · rw [if_neg hc] at hf
        refine lv_iconst (v := 2) hx hb dH_flat_30 (by decide) ?_
        obtain rfl := Option.some.inj hf
        obtain ⟨hP9, hD9⟩ := xsub (wc := [(a0, .inr (2, [.ref a1, .int v1, .int v2])), (a1, .inl (cT 2, 4096, .inr (.inl f0))), (a2, .inr (2, [.ref a3, .int v4, .int v5])), (a3, .inl (cT 2, 4096, .inr (.inl f3)))]) hP hD [2, 3, 0, 1] rfl rfl (by decide)
        exact W.iret (v := (2 : Int32)) hx hb hr (fun t ht hW => ⟨⟨(2 : Int32), (), rfl, rfl, by rw [ht]; exact hP9, va_K.moved hW.alike hK, hD9⟩, hS.F ht⟩) hS.2.2 dH_flat_31
    · rw [if_pos hc] at hf
      refine lv_iconst (v := 1) hx hb dH_flat_18 (by decide) ?_
      obtain rfl := Option.some.inj hf
      obtain ⟨hP9, hD9⟩ := xsub (wc := [(a0, .inr (2, [.ref a1, .int v1, .int v2])), (a1, .inl (cT 2, 4096, .inr (.inl f0))), (a2, .inr (2, [.ref a3, .int v4, .int v5])), (a3, .inl (cT 2, 4096, .inr (.inl f3)))]) hP hD [2, 3, 0, 1] rfl rfl (by decide)
      exact W.iret (v := (1 : Int32)) hx hb hr (fun t ht hW => ⟨⟨(1 : Int32), (), rfl, rfl, by rw [ht]; exact hP9, va_K.moved hW.alike hK, hD9⟩, hS.F ht⟩) hS.2.2 dH_flat_19
set_option maxHeartbeats 400000000 in
set_option maxRecDepth 100000 in
theorem gH_ata (l : Launch) (hl9 : l.stackTraces = false) (D : va_G) (cT : Nat → ClassId) (aK aV : Nat → Nat) (sz n : Nat) (a0 : Nat) (a1 : Nat) (a2 : Nat) (a3 : Nat) (f0 : Nat → Int64) (v1 : Int32) (v2 : Int32) (f3 : Nat → Int64) (v4 : Int32) (v5 : Int32) (out : Int32 × (Nat → Int64) × Int32 × Int32) (hf : fH_ata n f0 v1 v2 f3 v4 v5 = some out) : xMet l yH_at wyH_at 5 0 0 153 D cT aK aV sz [.ref a0, .ref a0, .ref a2] [(a0, .inr (2, [.ref a1, .int v1, .int v2])), (a1, .inl (cT 2, 4096, .inr (.inl f0))), (a2, .inr (2, [.ref a3, .int v4, .int v5])), (a3, .inl (cT 2, 4096, .inr (.inl f3)))] (fun A => va_Qi (fun (r : Int32) (_ : Unit) => r = out.1) (fun _ t => xB D xcl cT A [(a0, .inr (2, [.ref a1, .int v1, .int v2])), (a1, .inl (cT 2, 4096, .inr (.inl f0))), (a2, .inr (2, [.ref a3, .int out.2.2.1, .int out.2.2.2])), (a3, .inl (cT 2, 4096, .inr (.inl out.2.1)))] t) A) := by
  refine Met.ofW (cc := prog_5_method_28_code) (maxL := 4) (ret := (some .int)) (by decide) rfl ?_
  intro p e s m args below meth c s₁ B hml hv
  obtain ⟨rfl, hsz, hZ, hP, hK, hD0⟩ := hv
  have hx := B.exec
  have hb := B.bytes
  have hr := B.returns
  have hts := atoms_spec (ws := wyH_at) B.pre
  have htx := fun w h => hts w (List.mem_cons_of_mem _ h)
  have hown : s.vm.findClass "ValueBench$Pairs" = some m.cls := findClass_of_methodNamed B.named
  have hlocks := B.notSynchronized
  subst hsz
  have hD := hD0.self (sz := s.heap.size)
  generalize hAe : va_A [(a0, .inr (2, [.ref a1, .int v1, .int v2])), (a1, .inl (cT 2, 4096, .inr (.inl f0))), (a2, .inr (2, [.ref a3, .int v4, .int v5])), (a3, .inl (cT 2, 4096, .inr (.inl f3)))] s.heap.size = A at hD hZ ⊢
  have hA : ∀ q : Nat, s.heap.size ≤ q → A q := fun q h => by rw [← hAe]; exact Or.inr h
  have hS : va_S A s.heap s.heap [] := va_S.rf
  have hP : va_P D xcl [(a0, .inr (2, [.ref a1, .int v1, .int v2])), (a1, .inl (cT 2, 4096, .inr (.inl f0))), (a2, .inr (2, [.ref a3, .int v4, .int v5])), (a3, .inl (cT 2, 4096, .inr (.inl f3)))] s.heap := hP
  have hl := lv_entry ([.ref a0, .ref a0, .ref a2]) (n := 4) (Nat.le_of_ble_eq_true rfl)
  rw [lg_entry_eq]
  generalize (lg_sl ([.ref a0, .ref a0, .ref a2]) ++ List.replicate (4 - (lg_sl ([.ref a0, .ref a0, .ref a2])).length) Slot.unset).toArray = ls at hl ⊢
  have hl : lv_has ls 4 [(0, .ref a0), (1, .ref a0), (2, .ref a2)] := hl
  unfold fH_ata at hf
  refine lv_aload_n hx hb dH_at_0 rfl (lv_at hl 0 rfl) ?_
  refine lv_iconst (v := 0) hx hb dH_at_1 (by decide) ?_
  refine lv_bipush (v := 6) hx hb dH_at_2 (by decide) ?_
  obtain ⟨o1, hq2, hf⟩ := xbind hf
  obtain ⟨hPc, hDc, hFc⟩ := xcut (wc := [(a0, .inr (2, [.ref a1, .int v1, .int v2])), (a1, .inl (cT 2, 4096, .inr (.inl f0)))]) hP hD hS hA [0, 1] rfl rfl (by decide)
  refine va_calli (va_runV (C := "ValueBench$Row") (As := [.int 0, .int 6]) (rest := []) ⟨hx, hb, hml, hown, htx⟩ (gR_is l hl9 D cT aK aV s.heap.size n a0 a1 (0 : Int32) (6 : Int32) f0 v1 v2 o1 hq2) ⟨callB_of 2 htx (xw_goodC kw_3_75) rfl rfl rfl (htx _ kw_1_4) (htx _ kw_4_150) ⟨by decide, by decide, by decide +kernel⟩ ⟨Nat.le_of_ble_eq_true rfl, Nat.le_of_ble_eq_true rfl⟩, (htx _ kw_3_73), (htx _ kw_3_74)⟩ ⟨xPre_blind, va_recv hK hP (ci := 2) rfl (q0 := 0) rfl, (fun U hU hW => ⟨rfl, xPre_of hZ hS hFc hPc hDc hK U hU hW⟩)⟩ rfl rfl hl.1 rfl (lv_room (Nat.le_of_ble_eq_true rfl)) dH_at_4 ⟨Nat.le_of_ble_eq_true rfl, Nat.le_of_ble_eq_true rfl⟩) hS (fun q _ h => hFc q h) hFc (fun r3 u9 t H1 locs ht hvm hr9 hB hz1 hk1 hS => ?_)
  obtain ⟨hP1, hK1, hD1⟩ := hB
  rw [ht] at hP1
  obtain ⟨hP, hD⟩ := xjoin (W := [(a2, .inr (2, [.ref a3, .int v4, .int v5])), (a3, .inl (cT 2, 4096, .inr (.inl f3))), (a0, .inr (2, [.ref a1, .int v1, .int v2])), (a1, .inl (cT 2, 4096, .inr (.inl f0)))]) hP hD [0, 1] [2, 3] 2 rfl rfl (by decide) (by decide) hk1 hFc hP1 hD1
  generalize H1 = H at hP hS ⊢
  rw [hr9]
  refine W.eq (g2 := F0 m 7 ls [.int o1]) rfl ?_
  refine lv_if_eq (tgt := 46) hx hb dH_at_7 (by decide) (fun hc => ?_) (fun hc => ?_)
  · rw [if_pos hc] at hf
    refine lv_aload_n hx hb dH_at_46 rfl (lv_at hl 0 rfl) ?_
    refine lv_iconst (v := 0) hx hb dH_at_47 (by decide) ?_
    refine lv_iconst (v := 5) hx hb dH_at_48 (by decide) ?_
    obtain ⟨o4, hq5, hf⟩ := xbind hf
    obtain ⟨hPc, hDc, hFc⟩ := xcut (wc := [(a0, .inr (2, [.ref a1, .int v1, .int v2])), (a1, .inl (cT 2, 4096, .inr (.inl f0)))]) hP hD hS hA [2, 3] rfl rfl (by decide)
    refine va_calli (va_runV (C := "ValueBench$Row") (As := [.int 0, .int 5]) (rest := []) ⟨hx, hb, hml, hown, htx⟩ (gR_is l hl9 D cT aK aV H.size n a0 a1 (0 : Int32) (5 : Int32) f0 v1 v2 o4 hq5) ⟨callB_of 2 htx (xw_goodC kw_3_75) rfl rfl rfl (htx _ kw_1_4) (htx _ kw_4_150) ⟨by decide, by decide, by decide +kernel⟩ ⟨Nat.le_of_ble_eq_true rfl, Nat.le_of_ble_eq_true rfl⟩, (htx _ kw_3_73), (htx _ kw_3_74)⟩ ⟨xPre_blind, va_recv hK hP (ci := 2) rfl (q0 := 2) rfl, (fun U hU hW => ⟨rfl, xPre_of hZ hS hFc hPc hDc hK U hU hW⟩)⟩ rfl rfl hl.1 rfl (lv_room (Nat.le_of_ble_eq_true rfl)) dH_at_49 ⟨Nat.le_of_ble_eq_true rfl, Nat.le_of_ble_eq_true rfl⟩) hS (fun q _ h => hFc q h) hFc (fun r6 u9 t H1 locs ht hvm hr9 hB hz1 hk1 hS => ?_)
    obtain ⟨hP1, hK1, hD1⟩ := hB
    rw [ht] at hP1
    obtain ⟨hP, hD⟩ := xjoin (W := [(a2, .inr (2, [.ref a3, .int v4, .int v5])), (a3, .inl (cT 2, 4096, .inr (.inl f3))), (a0, .inr (2, [.ref a1, .int v1, .int v2])), (a1, .inl (cT 2, 4096, .inr (.inl f0)))]) hP hD [2, 3] [0, 1] 2 rfl rfl (by decide) (by decide) hk1 hFc hP1 hD1
    generalize H1 = H at hP hS ⊢
    rw [hr9]
    refine W.eq (g2 := F0 m 52 ls [.int o4]) rfl ?_
    refine lv_if_eq (tgt := 75) hx hb dH_at_52 (by decide) (fun hc => ?_) (fun hc => ?_)
    · rw [if_pos hc] at hf
      refine lv_aload_n hx hb dH_at_75 rfl (lv_at hl 0 rfl) ?_
      refine lv_iconst (v := 0) hx hb dH_at_76 (by decide) ?_
      refine lv_iconst (v := 0) hx hb dH_at_77 (by decide) ?_
      obtain ⟨o7, hq8, hf⟩ := xbind hf
      obtain ⟨hPc, hDc, hFc⟩ := xcut (wc := [(a0, .inr (2, [.ref a1, .int v1, .int v2])), (a1, .inl (cT 2, 4096, .inr (.inl f0)))]) hP hD hS hA [2, 3] rfl rfl (by decide)
      refine va_calli (va_runV (C := "ValueBench$Row") (As := [.int 0, .int 0]) (rest := []) ⟨hx, hb, hml, hown, htx⟩ (gR_is l hl9 D cT aK aV H.size n a0 a1 (0 : Int32) (0 : Int32) f0 v1 v2 o7 hq8) ⟨callB_of 2 htx (xw_goodC kw_3_75) rfl rfl rfl (htx _ kw_1_4) (htx _ kw_4_150) ⟨by decide, by decide, by decide +kernel⟩ ⟨Nat.le_of_ble_eq_true rfl, Nat.le_of_ble_eq_true rfl⟩, (htx _ kw_3_73), (htx _ kw_3_74)⟩ ⟨xPre_blind, va_recv hK hP (ci := 2) rfl (q0 := 2) rfl, (fun U hU hW => ⟨rfl, xPre_of hZ hS hFc hPc hDc hK U hU hW⟩)⟩ rfl rfl hl.1 rfl (lv_room (Nat.le_of_ble_eq_true rfl)) dH_at_78 ⟨Nat.le_of_ble_eq_true rfl, Nat.le_of_ble_eq_true rfl⟩) hS (fun q _ h => hFc q h) hFc (fun r9 u9 t H1 locs ht hvm hr9 hB hz1 hk1 hS => ?_)
      obtain ⟨hP1, hK1, hD1⟩ := hB
      rw [ht] at hP1
      obtain ⟨hP, hD⟩ := xjoin (W := [(a2, .inr (2, [.ref a3, .int v4, .int v5])), (a3, .inl (cT 2, 4096, .inr (.inl f3))), (a0, .inr (2, [.ref a1, .int v1, .int v2])), (a1, .inl (cT 2, 4096, .inr (.inl f0)))]) hP hD [2, 3] [0, 1] 2 rfl rfl (by decide) (by decide) hk1 hFc hP1 hD1
      generalize H1 = H at hP hS ⊢
      rw [hr9]
      refine W.eq (g2 := F0 m 81 ls [.int o7]) rfl ?_
      refine lv_if_eq (tgt := 115) hx hb dH_at_81 (by decide) (fun hc => ?_) (fun hc => ?_)
      · rw [if_pos hc] at hf
        refine lv_iconst (v := 0) hx hb dH_at_115 (by decide) ?_
        refine lv_istore_n (lv' := [(3, .int 0), (0, .ref a0), (1, .ref a0), (2, .ref a2)]) hx hb dH_at_116 rfl hl (by decide) rfl (fun ls hl => ?_)
        refine lv_iload_n hx hb dH_at_117 rfl (lv_at hl 0 rfl) ?_
        refine lv_if_eq (tgt := 128) hx hb dH_at_118 (by decide) (fun _ => ?_) (fun h => ((by revert h; decide : False)).elim)
        refine lv_iconst (v := 1) hx hb dH_at_128 (by decide) ?_
        obtain rfl := Option.some.inj hf
        obtain ⟨hP9, hD9⟩ := xsub (wc := [(a0, .inr (2, [.ref a1, .int v1, .int v2])), (a1, .inl (cT 2, 4096, .inr (.inl f0))), (a2, .inr (2, [.ref a3, .int v4, .int v5])), (a3, .inl (cT 2, 4096, .inr (.inl f3)))]) hP hD [2, 3, 0, 1] rfl rfl (by decide)
        exact W.iret (v := (1 : Int32)) hx hb hr (fun t ht hW => ⟨⟨(1 : Int32), (), rfl, rfl, by rw [ht]; exact hP9, va_K.moved hW.alike hK, hD9⟩, hS.F ht⟩) hS.2.2 dH_at_129
      · rw [if_neg hc] at hf
        refine lv_aload_n hx hb dH_at_84 rfl (lv_at hl 1 rfl) ?_
        refine lv_iconst (v := 0) hx hb dH_at_85 (by decide) ?_
        refine lv_iconst (v := 0) hx hb dH_at_86 (by decide) ?_
        obtain ⟨o10, hq11, hf⟩ := xbind hf
        obtain ⟨hPc, hDc, hFc⟩ := xcut (wc := [(a0, .inr (2, [.ref a1, .int v1, .int v2])), (a1, .inl (cT 2, 4096, .inr (.inl f0)))]) hP hD hS hA [2, 3] rfl rfl (by decide)
        refine va_calli (va_runV (C := "ValueBench$Row") (As := [.int 0, .int 0]) (rest := []) ⟨hx, hb, hml, hown, htx⟩ (gR_is l hl9 D cT aK aV H.size n a0 a1 (0 : Int32) (0 : Int32) f0 v1 v2 o10 hq11) ⟨callB_of 2 htx (xw_goodC kw_3_75) rfl rfl rfl (htx _ kw_1_4) (htx _ kw_4_150) ⟨by decide, by decide, by decide +kernel⟩ ⟨Nat.le_of_ble_eq_true rfl, Nat.le_of_ble_eq_true rfl⟩, (htx _ kw_3_73), (htx _ kw_3_74)⟩ ⟨xPre_blind, va_recv hK hP (ci := 2) rfl (q0 := 2) rfl, (fun U hU hW => ⟨rfl, xPre_of hZ hS hFc hPc hDc hK U hU hW⟩)⟩ rfl rfl hl.1 rfl (lv_room (Nat.le_of_ble_eq_true rfl)) dH_at_87 ⟨Nat.le_of_ble_eq_true rfl, Nat.le_of_ble_eq_true rfl⟩) hS (fun q _ h => hFc q h) hFc (fun r12 u9 t H1 locs ht hvm hr9 hB hz1 hk1 hS => ?_)
        obtain ⟨hP1, hK1, hD1⟩ := hB
        rw [ht] at hP1
        obtain ⟨hP, hD⟩ := xjoin (W := [(a2, .inr (2, [.ref a3, .int v4, .int v5])), (a3, .inl (cT 2, 4096, .inr (.inl f3))), (a0, .inr (2, [.ref a1, .int v1, .int v2])), (a1, .inl (cT 2, 4096, .inr (.inl f0)))]) hP hD [2, 3] [0, 1] 2 rfl rfl (by decide) (by decide) hk1 hFc hP1 hD1
        generalize H1 = H at hP hS ⊢
        rw [hr9]
        refine W.eq (g2 := F0 m 90 ls [.int o10]) rfl ?_
        refine lv_if_ne (tgt := 111) hx hb dH_at_90 (by decide) (fun hc => ?_) (fun hc => ?_)
        · rw [if_neg hc] at hf
          refine lv_iconst (v := 1) hx hb dH_at_111 (by decide) ?_
          refine lv_goto (tgt := 116) hx hb dH_at_112 (by decide) ?_
          refine lv_istore_n (lv' := [(3, .int 1), (0, .ref a0), (1, .ref a0), (2, .ref a2)]) hx hb dH_at_116 rfl hl (by decide) rfl (fun ls hl => ?_)
          refine lv_iload_n hx hb dH_at_117 rfl (lv_at hl 0 rfl) ?_
          refine lv_if_eq (tgt := 128) hx hb dH_at_118 (by decide) (fun h => ((by revert h; decide : False)).elim) (fun _ => ?_)
          refine lv_aload_n hx hb dH_at_121 rfl (lv_at hl 3 rfl) ?_
          obtain ⟨o13, hq14, hf⟩ := xbind hf
          obtain ⟨hPc, hDc, hFc⟩ := xcut (wc := [(a2, .inr (2, [.ref a3, .int v4, .int v5])), (a3, .inl (cT 2, 4096, .inr (.inl f3)))]) hP hD hS hA [0, 1] rfl rfl (by decide)
          refine va_calli (va_runS (As := [.ref a2]) (rest := []) ⟨hx, hb, hml, hown, htx⟩ (gH_nothing l hl9 D cT aK aV H.size n a2 a3 f3 v4 v5 o13 hq14) ⟨callB_of 1 htx (xw_goodC kw_4_221) rfl rfl rfl (htx _ kw_1_27) (htx _ kw_4_219) ⟨by decide, by decide, by decide +kernel⟩ ⟨Nat.le_of_ble_eq_true rfl, Nat.le_of_ble_eq_true rfl⟩, htx _ kw_4_220⟩ ⟨xPre_blind, (fun U hU hW => ⟨rfl, xPre_of hZ hS hFc hPc hDc hK U hU hW⟩)⟩ rfl rfl hl.1 rfl (lv_room (Nat.le_of_ble_eq_true rfl)) dH_at_122 ⟨Nat.le_of_ble_eq_true rfl, Nat.le_of_ble_eq_true rfl⟩) hS (fun q _ h => hFc q h) hFc (fun r15 u9 t H1 locs ht hvm hr9 hB hz1 hk1 hS => ?_)
          obtain ⟨hP1, hK1, hD1⟩ := hB
          rw [ht] at hP1
          obtain ⟨hP, hD⟩ := xjoin (W := [(a0, .inr (2, [.ref a1, .int v1, .int v2])), (a1, .inl (cT 2, 4096, .inr (.inl f0))), (a2, .inr (2, [.ref a3, .int o13.2.2.1, .int o13.2.2.2])), (a3, .inl (cT 2, 4096, .inr (.inl o13.2.1)))]) hP hD [0, 1] [2, 3] 2 rfl rfl (by decide) (by decide) hk1 hFc hP1 hD1
          generalize H1 = H at hP hS ⊢
          rw [hr9]
          refine W.eq (g2 := F0 m 125 ls [.int o13.1]) rfl ?_
          refine lv_goto (tgt := 129) hx hb dH_at_125 (by decide) ?_
          obtain rfl := Option.some.inj hf
          obtain ⟨hP9, hD9⟩ := xsub (wc := [(a0, .inr (2, [.ref a1, .int v1, .int v2])), (a1, .inl (cT 2, 4096, .inr (.inl f0))), (a2, .inr (2, [.ref a3, .int o13.2.2.1, .int o13.2.2.2])), (a3, .inl (cT 2, 4096, .inr (.inl o13.2.1)))]) hP hD [0, 1, 2, 3] rfl rfl (by decide)
          exact W.iret (v := o13.1) hx hb hr (fun t ht hW => ⟨⟨o13.1, (), rfl, rfl, by rw [ht]; exact hP9, va_K.moved hW.alike hK, hD9⟩, hS.F ht⟩) hS.2.2 dH_at_129
        · rw [if_pos hc] at hf
          refine lv_aload_n hx hb dH_at_93 rfl (lv_at hl 1 rfl) ?_
          refine lv_iconst (v := 0) hx hb dH_at_94 (by decide) ?_
          refine lv_iconst (v := 3) hx hb dH_at_95 (by decide) ?_
          obtain ⟨o13, hq14, hf⟩ := xbind hf
          obtain ⟨hPc, hDc, hFc⟩ := xcut (wc := [(a0, .inr (2, [.ref a1, .int v1, .int v2])), (a1, .inl (cT 2, 4096, .inr (.inl f0)))]) hP hD hS hA [2, 3] rfl rfl (by decide)
          refine va_calli (va_runV (C := "ValueBench$Row") (As := [.int 0, .int 3]) (rest := []) ⟨hx, hb, hml, hown, htx⟩ (gR_is l hl9 D cT aK aV H.size n a0 a1 (0 : Int32) (3 : Int32) f0 v1 v2 o13 hq14) ⟨callB_of 2 htx (xw_goodC kw_3_75) rfl rfl rfl (htx _ kw_1_4) (htx _ kw_4_150) ⟨by decide, by decide, by decide +kernel⟩ ⟨Nat.le_of_ble_eq_true rfl, Nat.le_of_ble_eq_true rfl⟩, (htx _ kw_3_73), (htx _ kw_3_74)⟩ ⟨xPre_blind, va_recv hK hP (ci := 2) rfl (q0 := 2) rfl, (fun U hU hW => ⟨rfl, xPre_of hZ hS hFc hPc hDc hK U hU hW⟩)⟩ rfl rfl hl.1 rfl (lv_room (Nat.le_of_ble_eq_true rfl)) dH_at_96 ⟨Nat.le_of_ble_eq_true rfl, Nat.le_of_ble_eq_true rfl⟩) hS (fun q _ h => hFc q h) hFc (fun r15 u9 t H1 locs ht hvm hr9 hB hz1 hk1 hS => ?_)
          obtain ⟨hP1, hK1, hD1⟩ := hB
          rw [ht] at hP1
          obtain ⟨hP, hD⟩ := xjoin (W := [(a2, .inr (2, [.ref a3, .int v4, .int v5])), (a3, .inl (cT 2, 4096, .inr (.inl f3))), (a0, .inr (2, [.ref a1, .int v1, .int v2])), (a1, .inl (cT 2, 4096, .inr (.inl f0)))]) hP hD [2, 3] [0, 1] 2 rfl rfl (by decide) (by decide) hk1 hFc hP1 hD1
          generalize H1 = H at hP hS ⊢
          rw [hr9]
          refine W.eq (g2 := F0 m 99 ls [.int o13]) rfl ?_
          refine lv_if_ne (tgt := 111) hx hb dH_at_99 (by decide) (fun hc => ?_) (fun hc => ?_)
          · rw [if_neg hc] at hf
            refine lv_iconst (v := 1) hx hb dH_at_111 (by decide) ?_
            refine lv_goto (tgt := 116) hx hb dH_at_112 (by decide) ?_
            refine lv_istore_n (lv' := [(3, .int 1), (0, .ref a0), (1, .ref a0), (2, .ref a2)]) hx hb dH_at_116 rfl hl (by decide) rfl (fun ls hl => ?_)
            refine lv_iload_n hx hb dH_at_117 rfl (lv_at hl 0 rfl) ?_
            refine lv_if_eq (tgt := 128) hx hb dH_at_118 (by decide) (fun h => ((by revert h; decide : False)).elim) (fun _ => ?_)
            refine lv_aload_n hx hb dH_at_121 rfl (lv_at hl 3 rfl) ?_
            obtain ⟨o16, hq17, hf⟩ := xbind hf
            obtain ⟨hPc, hDc, hFc⟩ := xcut (wc := [(a2, .inr (2, [.ref a3, .int v4, .int v5])), (a3, .inl (cT 2, 4096, .inr (.inl f3)))]) hP hD hS hA [0, 1] rfl rfl (by decide)
            refine va_calli (va_runS (As := [.ref a2]) (rest := []) ⟨hx, hb, hml, hown, htx⟩ (gH_nothing l hl9 D cT aK aV H.size n a2 a3 f3 v4 v5 o16 hq17) ⟨callB_of 1 htx (xw_goodC kw_4_221) rfl rfl rfl (htx _ kw_1_27) (htx _ kw_4_219) ⟨by decide, by decide, by decide +kernel⟩ ⟨Nat.le_of_ble_eq_true rfl, Nat.le_of_ble_eq_true rfl⟩, htx _ kw_4_220⟩ ⟨xPre_blind, (fun U hU hW => ⟨rfl, xPre_of hZ hS hFc hPc hDc hK U hU hW⟩)⟩ rfl rfl hl.1 rfl (lv_room (Nat.le_of_ble_eq_true rfl)) dH_at_122 ⟨Nat.le_of_ble_eq_true rfl, Nat.le_of_ble_eq_true rfl⟩) hS (fun q _ h => hFc q h) hFc (fun r18 u9 t H1 locs ht hvm hr9 hB hz1 hk1 hS => ?_)
            obtain ⟨hP1, hK1, hD1⟩ := hB
            rw [ht] at hP1
            obtain ⟨hP, hD⟩ := xjoin (W := [(a0, .inr (2, [.ref a1, .int v1, .int v2])), (a1, .inl (cT 2, 4096, .inr (.inl f0))), (a2, .inr (2, [.ref a3, .int o16.2.2.1, .int o16.2.2.2])), (a3, .inl (cT 2, 4096, .inr (.inl o16.2.1)))]) hP hD [0, 1] [2, 3] 2 rfl rfl (by decide) (by decide) hk1 hFc hP1 hD1
            generalize H1 = H at hP hS ⊢
            rw [hr9]
            refine W.eq (g2 := F0 m 125 ls [.int o16.1]) rfl ?_
            refine lv_goto (tgt := 129) hx hb dH_at_125 (by decide) ?_
            obtain rfl := Option.some.inj hf
            obtain ⟨hP9, hD9⟩ := xsub (wc := [(a0, .inr (2, [.ref a1, .int v1, .int v2])), (a1, .inl (cT 2, 4096, .inr (.inl f0))), (a2, .inr (2, [.ref a3, .int o16.2.2.1, .int o16.2.2.2])), (a3, .inl (cT 2, 4096, .inr (.inl o16.2.1)))]) hP hD [0, 1, 2, 3] rfl rfl (by decide)
            exact W.iret (v := o16.1) hx hb hr (fun t ht hW => ⟨⟨o16.1, (), rfl, rfl, by rw [ht]; exact hP9, va_K.moved hW.alike hK, hD9⟩, hS.F ht⟩) hS.2.2 dH_at_129
          · rw [if_pos hc] at hf
            refine lv_aload_n hx hb dH_at_102 rfl (lv_at hl 1 rfl) ?_
            refine lv_iconst (v := 0) hx hb dH_at_103 (by decide) ?_
            refine lv_iconst (v := 4) hx hb dH_at_104 (by decide) ?_
            obtain ⟨o16, hq17, hf⟩ := xbind hf
            obtain ⟨hPc, hDc, hFc⟩ := xcut (wc := [(a0, .inr (2, [.ref a1, .int v1, .int v2])), (a1, .inl (cT 2, 4096, .inr (.inl f0)))]) hP hD hS hA [2, 3] rfl rfl (by decide)
            refine va_calli (va_runV (C := "ValueBench$Row") (As := [.int 0, .int 4]) (rest := []) ⟨hx, hb, hml, hown, htx⟩ (gR_is l hl9 D cT aK aV H.size n a0 a1 (0 : Int32) (4 : Int32) f0 v1 v2 o16 hq17) ⟨callB_of 2 htx (xw_goodC kw_3_75) rfl rfl rfl (htx _ kw_1_4) (htx _ kw_4_150) ⟨by decide, by decide, by decide +kernel⟩ ⟨Nat.le_of_ble_eq_true rfl, Nat.le_of_ble_eq_true rfl⟩, (htx _ kw_3_73), (htx _ kw_3_74)⟩ ⟨xPre_blind, va_recv hK hP (ci := 2) rfl (q0 := 2) rfl, (fun U hU hW => ⟨rfl, xPre_of hZ hS hFc hPc hDc hK U hU hW⟩)⟩ rfl rfl hl.1 rfl (lv_room (Nat.le_of_ble_eq_true rfl)) dH_at_105 ⟨Nat.le_of_ble_eq_true rfl, Nat.le_of_ble_eq_true rfl⟩) hS (fun q _ h => hFc q h) hFc (fun r18 u9 t H1 locs ht hvm hr9 hB hz1 hk1 hS => ?_)
            obtain ⟨hP1, hK1, hD1⟩ := hB
            rw [ht] at hP1
            obtain ⟨hP, hD⟩ := xjoin (W := [(a2, .inr (2, [.ref a3, .int v4, .int v5])), (a3, .inl (cT 2, 4096, .inr (.inl f3))), (a0, .inr (2, [.ref a1, .int v1, .int v2])), (a1, .inl (cT 2, 4096, .inr (.inl f0)))]) hP hD [2, 3] [0, 1] 2 rfl rfl (by decide) (by decide) hk1 hFc hP1 hD1
            generalize H1 = H at hP hS ⊢
            rw [hr9]
            refine W.eq (g2 := F0 m 108 ls [.int o16]) rfl ?_
            refine lv_if_eq (tgt := 115) hx hb dH_at_108 (by decide) (fun hc => ?_) (fun hc => ?_)
            · rw [if_pos hc] at hf
              refine lv_iconst (v := 0) hx hb dH_at_115 (by decide) ?_
              refine lv_istore_n (lv' := [(3, .int 0), (0, .ref a0), (1, .ref a0), (2, .ref a2)]) hx hb dH_at_116 rfl hl (by decide) rfl (fun ls hl => ?_)
              refine lv_iload_n hx hb dH_at_117 rfl (lv_at hl 0 rfl) ?_
              refine lv_if_eq (tgt := 128) hx hb dH_at_118 (by decide) (fun _ => ?_) (fun h => ((by revert h; decide : False)).elim)
              refine lv_iconst (v := 1) hx hb dH_at_128 (by decide) ?_
              obtain rfl := Option.some.inj hf
              obtain ⟨hP9, hD9⟩ := xsub (wc := [(a0, .inr (2, [.ref a1, .int v1, .int v2])), (a1, .inl (cT 2, 4096, .inr (.inl f0))), (a2, .inr (2, [.ref a3, .int v4, .int v5])), (a3, .inl (cT 2, 4096, .inr (.inl f3)))]) hP hD [2, 3, 0, 1] rfl rfl (by decide)
              exact W.iret (v := (1 : Int32)) hx hb hr (fun t ht hW => ⟨⟨(1 : Int32), (), rfl, rfl, by rw [ht]; exact hP9, va_K.moved hW.alike hK, hD9⟩, hS.F ht⟩) hS.2.2 dH_at_129
            · rw [if_neg hc] at hf
              refine lv_iconst (v := 1) hx hb dH_at_111 (by decide) ?_
              refine lv_goto (tgt := 116) hx hb dH_at_112 (by decide) ?_
              refine lv_istore_n (lv' := [(3, .int 1), (0, .ref a0), (1, .ref a0), (2, .ref a2)]) hx hb dH_at_116 rfl hl (by decide) rfl (fun ls hl => ?_)
              refine lv_iload_n hx hb dH_at_117 rfl (lv_at hl 0 rfl) ?_
              refine lv_if_eq (tgt := 128) hx hb dH_at_118 (by decide) (fun h => ((by revert h; decide : False)).elim) (fun _ => ?_)
              refine lv_aload_n hx hb dH_at_121 rfl (lv_at hl 3 rfl) ?_
              obtain ⟨o19, hq20, hf⟩ := xbind hf
              obtain ⟨hPc, hDc, hFc⟩ := xcut (wc := [(a2, .inr (2, [.ref a3, .int v4, .int v5])), (a3, .inl (cT 2, 4096, .inr (.inl f3)))]) hP hD hS hA [0, 1] rfl rfl (by decide)
              refine va_calli (va_runS (As := [.ref a2]) (rest := []) ⟨hx, hb, hml, hown, htx⟩ (gH_nothing l hl9 D cT aK aV H.size n a2 a3 f3 v4 v5 o19 hq20) ⟨callB_of 1 htx (xw_goodC kw_4_221) rfl rfl rfl (htx _ kw_1_27) (htx _ kw_4_219) ⟨by decide, by decide, by decide +kernel⟩ ⟨Nat.le_of_ble_eq_true rfl, Nat.le_of_ble_eq_true rfl⟩, htx _ kw_4_220⟩ ⟨xPre_blind, (fun U hU hW => ⟨rfl, xPre_of hZ hS hFc hPc hDc hK U hU hW⟩)⟩ rfl rfl hl.1 rfl (lv_room (Nat.le_of_ble_eq_true rfl)) dH_at_122 ⟨Nat.le_of_ble_eq_true rfl, Nat.le_of_ble_eq_true rfl⟩) hS (fun q _ h => hFc q h) hFc (fun r21 u9 t H1 locs ht hvm hr9 hB hz1 hk1 hS => ?_)
              obtain ⟨hP1, hK1, hD1⟩ := hB
              rw [ht] at hP1
              obtain ⟨hP, hD⟩ := xjoin (W := [(a0, .inr (2, [.ref a1, .int v1, .int v2])), (a1, .inl (cT 2, 4096, .inr (.inl f0))), (a2, .inr (2, [.ref a3, .int o19.2.2.1, .int o19.2.2.2])), (a3, .inl (cT 2, 4096, .inr (.inl o19.2.1)))]) hP hD [0, 1] [2, 3] 2 rfl rfl (by decide) (by decide) hk1 hFc hP1 hD1
              generalize H1 = H at hP hS ⊢
              rw [hr9]
              refine W.eq (g2 := F0 m 125 ls [.int o19.1]) rfl ?_
              refine lv_goto (tgt := 129) hx hb dH_at_125 (by decide) ?_
              obtain rfl := Option.some.inj hf
              obtain ⟨hP9, hD9⟩ := xsub (wc := [(a0, .inr (2, [.ref a1, .int v1, .int v2])), (a1, .inl (cT 2, 4096, .inr (.inl f0))), (a2, .inr (2, [.ref a3, .int o19.2.2.1, .int o19.2.2.2])), (a3, .inl (cT 2, 4096, .inr (.inl o19.2.1)))]) hP hD [0, 1, 2, 3] rfl rfl (by decide)
              exact W.iret (v := o19.1) hx hb hr (fun t ht hW => ⟨⟨o19.1, (), rfl, rfl, by rw [ht]; exact hP9, va_K.moved hW.alike hK, hD9⟩, hS.F ht⟩) hS.2.2 dH_at_129
    · rw [if_neg hc] at hf
      refine lv_aload_n hx hb dH_at_55 rfl (lv_at hl 1 rfl) ?_
      refine lv_iconst (v := 0) hx hb dH_at_56 (by decide) ?_
      refine lv_iconst (v := 3) hx hb dH_at_57 (by decide) ?_
      obtain ⟨o7, hq8, hf⟩ := xbind hf
      obtain ⟨hPc, hDc, hFc⟩ := xcut (wc := [(a0, .inr (2, [.ref a1, .int v1, .int v2])), (a1, .inl (cT 2, 4096, .inr (.inl f0)))]) hP hD hS hA [2, 3] rfl rfl (by decide)
      refine va_calli (va_runV (C := "ValueBench$Row") (As := [.int 0, .int 3]) (rest := []) ⟨hx, hb, hml, hown, htx⟩ (gR_is l hl9 D cT aK aV H.size n a0 a1 (0 : Int32) (3 : Int32) f0 v1 v2 o7 hq8) ⟨callB_of 2 htx (xw_goodC kw_3_75) rfl rfl rfl (htx _ kw_1_4) (htx _ kw_4_150) ⟨by decide, by decide, by decide +kernel⟩ ⟨Nat.le_of_ble_eq_true rfl, Nat.le_of_ble_eq_true rfl⟩, (htx _ kw_3_73), (htx _ kw_3_74)⟩ ⟨xPre_blind, va_recv hK hP (ci := 2) rfl (q0 := 2) rfl, (fun U hU hW => ⟨rfl, xPre_of hZ hS hFc hPc hDc hK U hU hW⟩)⟩ rfl rfl hl.1 rfl (lv_room (Nat.le_of_ble_eq_true rfl)) dH_at_58 ⟨Nat.le_of_ble_eq_true rfl, Nat.le_of_ble_eq_true rfl⟩) hS (fun q _ h => hFc q h) hFc (fun r9 u9 t H1 locs ht hvm hr9 hB hz1 hk1 hS => ?_)
      obtain ⟨hP1, hK1, hD1⟩ := hB
      rw [ht] at hP1
      obtain ⟨hP, hD⟩ := xjoin (W := [(a2, .inr (2, [.ref a3, .int v4, .int v5])), (a3, .inl (cT 2, 4096, .inr (.inl f3))), (a0, .inr (2, [.ref a1, .int v1, .int v2])), (a1, .inl (cT 2, 4096, .inr (.inl f0)))]) hP hD [2, 3] [0, 1] 2 rfl rfl (by decide) (by decide) hk1 hFc hP1 hD1
      generalize H1 = H at hP hS ⊢
      rw [hr9]
      refine W.eq (g2 := F0 m 61 ls [.int o7]) rfl ?_
      refine lv_if_eq (tgt := 75) hx hb dH_at_61 (by decide) (fun hc => ?_) (fun hc => ?_)
      · rw [if_pos hc] at hf
        refine lv_aload_n hx hb dH_at_75 rfl (lv_at hl 0 rfl) ?_
        refine lv_iconst (v := 0) hx hb dH_at_76 (by decide) ?_
        refine lv_iconst (v := 0) hx hb dH_at_77 (by decide) ?_
        obtain ⟨o10, hq11, hf⟩ := xbind hf
        obtain ⟨hPc, hDc, hFc⟩ := xcut (wc := [(a0, .inr (2, [.ref a1, .int v1, .int v2])), (a1, .inl (cT 2, 4096, .inr (.inl f0)))]) hP hD hS hA [2, 3] rfl rfl (by decide)
        refine va_calli (va_runV (C := "ValueBench$Row") (As := [.int 0, .int 0]) (rest := []) ⟨hx, hb, hml, hown, htx⟩ (gR_is l hl9 D cT aK aV H.size n a0 a1 (0 : Int32) (0 : Int32) f0 v1 v2 o10 hq11) ⟨callB_of 2 htx (xw_goodC kw_3_75) rfl rfl rfl (htx _ kw_1_4) (htx _ kw_4_150) ⟨by decide, by decide, by decide +kernel⟩ ⟨Nat.le_of_ble_eq_true rfl, Nat.le_of_ble_eq_true rfl⟩, (htx _ kw_3_73), (htx _ kw_3_74)⟩ ⟨xPre_blind, va_recv hK hP (ci := 2) rfl (q0 := 2) rfl, (fun U hU hW => ⟨rfl, xPre_of hZ hS hFc hPc hDc hK U hU hW⟩)⟩ rfl rfl hl.1 rfl (lv_room (Nat.le_of_ble_eq_true rfl)) dH_at_78 ⟨Nat.le_of_ble_eq_true rfl, Nat.le_of_ble_eq_true rfl⟩) hS (fun q _ h => hFc q h) hFc (fun r12 u9 t H1 locs ht hvm hr9 hB hz1 hk1 hS => ?_)
        obtain ⟨hP1, hK1, hD1⟩ := hB
        rw [ht] at hP1
        obtain ⟨hP, hD⟩ := xjoin (W := [(a2, .inr (2, [.ref a3, .int v4, .int v5])), (a3, .inl (cT 2, 4096, .inr (.inl f3))), (a0, .inr (2, [.ref a1, .int v1, .int v2])), (a1, .inl (cT 2, 4096, .inr (.inl f0)))]) hP hD [2, 3] [0, 1] 2 rfl rfl (by decide) (by decide) hk1 hFc hP1 hD1
        generalize H1 = H at hP hS ⊢
        rw [hr9]
        refine W.eq (g2 := F0 m 81 ls [.int o10]) rfl ?_
        refine lv_if_eq (tgt := 115) hx hb dH_at_81 (by decide) (fun hc => ?_) (fun hc => ?_)
        · rw [if_pos hc] at hf
          refine lv_iconst (v := 0) hx hb dH_at_115 (by decide) ?_
          refine lv_istore_n (lv' := [(3, .int 0), (0, .ref a0), (1, .ref a0), (2, .ref a2)]) hx hb dH_at_116 rfl hl (by decide) rfl (fun ls hl => ?_)
          refine lv_iload_n hx hb dH_at_117 rfl (lv_at hl 0 rfl) ?_
          refine lv_if_eq (tgt := 128) hx hb dH_at_118 (by decide) (fun _ => ?_) (fun h => ((by revert h; decide : False)).elim)
          refine lv_iconst (v := 1) hx hb dH_at_128 (by decide) ?_
          obtain rfl := Option.some.inj hf
          obtain ⟨hP9, hD9⟩ := xsub (wc := [(a0, .inr (2, [.ref a1, .int v1, .int v2])), (a1, .inl (cT 2, 4096, .inr (.inl f0))), (a2, .inr (2, [.ref a3, .int v4, .int v5])), (a3, .inl (cT 2, 4096, .inr (.inl f3)))]) hP hD [2, 3, 0, 1] rfl rfl (by decide)
          exact W.iret (v := (1 : Int32)) hx hb hr (fun t ht hW => ⟨⟨(1 : Int32), (), rfl, rfl, by rw [ht]; exact hP9, va_K.moved hW.alike hK, hD9⟩, hS.F ht⟩) hS.2.2 dH_at_129
        · rw [if_neg hc] at hf
          refine lv_aload_n hx hb dH_at_84 rfl (lv_at hl 1 rfl) ?_
          refine lv_iconst (v := 0) hx hb dH_at_85 (by decide) ?_
          refine lv_iconst (v := 0) hx hb dH_at_86 (by decide) ?_
          obtain ⟨o13, hq14, hf⟩ := xbind hf
          obtain ⟨hPc, hDc, hFc⟩ := xcut (wc := [(a0, .inr (2, [.ref a1, .int v1, .int v2])), (a1, .inl (cT 2, 4096, .inr (.inl f0)))]) hP hD hS hA [2, 3] rfl rfl (by decide)
          refine va_calli (va_runV (C := "ValueBench$Row") (As := [.int 0, .int 0]) (rest := []) ⟨hx, hb, hml, hown, htx⟩ (gR_is l hl9 D cT aK aV H.size n a0 a1 (0 : Int32) (0 : Int32) f0 v1 v2 o13 hq14) ⟨callB_of 2 htx (xw_goodC kw_3_75) rfl rfl rfl (htx _ kw_1_4) (htx _ kw_4_150) ⟨by decide, by decide, by decide +kernel⟩ ⟨Nat.le_of_ble_eq_true rfl, Nat.le_of_ble_eq_true rfl⟩, (htx _ kw_3_73), (htx _ kw_3_74)⟩ ⟨xPre_blind, va_recv hK hP (ci := 2) rfl (q0 := 2) rfl, (fun U hU hW => ⟨rfl, xPre_of hZ hS hFc hPc hDc hK U hU hW⟩)⟩ rfl rfl hl.1 rfl (lv_room (Nat.le_of_ble_eq_true rfl)) dH_at_87 ⟨Nat.le_of_ble_eq_true rfl, Nat.le_of_ble_eq_true rfl⟩) hS (fun q _ h => hFc q h) hFc (fun r15 u9 t H1 locs ht hvm hr9 hB hz1 hk1 hS => ?_)
          obtain ⟨hP1, hK1, hD1⟩ := hB
          rw [ht] at hP1
          obtain ⟨hP, hD⟩ := xjoin (W := [(a2, .inr (2, [.ref a3, .int v4, .int v5])), (a3, .inl (cT 2, 4096, .inr (.inl f3))), (a0, .inr (2, [.ref a1, .int v1, .int v2])), (a1, .inl (cT 2, 4096, .inr (.inl f0)))]) hP hD [2, 3] [0, 1] 2 rfl rfl (by decide) (by decide) hk1 hFc hP1 hD1
          generalize H1 = H at hP hS ⊢
          rw [hr9]
          refine W.eq (g2 := F0 m 90 ls [.int o13]) rfl ?_
          refine lv_if_ne (tgt := 111) hx hb dH_at_90 (by decide) (fun hc => ?_) (fun hc => ?_)
          · rw [if_neg hc] at hf
            refine lv_iconst (v := 1) hx hb dH_at_111 (by decide) ?_
            refine lv_goto (tgt := 116) hx hb dH_at_112 (by decide) ?_
            refine lv_istore_n (lv' := [(3, .int 1), (0, .ref a0), (1, .ref a0), (2, .ref a2)]) hx hb dH_at_116 rfl hl (by decide) rfl (fun ls hl => ?_)
            refine lv_iload_n hx hb dH_at_117 rfl (lv_at hl 0 rfl) ?_
            refine lv_if_eq (tgt := 128) hx hb dH_at_118 (by decide) (fun h => ((by revert h; decide : False)).elim) (fun _ => ?_)
            refine lv_aload_n hx hb dH_at_121 rfl (lv_at hl 3 rfl) ?_
            obtain ⟨o16, hq17, hf⟩ := xbind hf
            obtain ⟨hPc, hDc, hFc⟩ := xcut (wc := [(a2, .inr (2, [.ref a3, .int v4, .int v5])), (a3, .inl (cT 2, 4096, .inr (.inl f3)))]) hP hD hS hA [0, 1] rfl rfl (by decide)
            refine va_calli (va_runS (As := [.ref a2]) (rest := []) ⟨hx, hb, hml, hown, htx⟩ (gH_nothing l hl9 D cT aK aV H.size n a2 a3 f3 v4 v5 o16 hq17) ⟨callB_of 1 htx (xw_goodC kw_4_221) rfl rfl rfl (htx _ kw_1_27) (htx _ kw_4_219) ⟨by decide, by decide, by decide +kernel⟩ ⟨Nat.le_of_ble_eq_true rfl, Nat.le_of_ble_eq_true rfl⟩, htx _ kw_4_220⟩ ⟨xPre_blind, (fun U hU hW => ⟨rfl, xPre_of hZ hS hFc hPc hDc hK U hU hW⟩)⟩ rfl rfl hl.1 rfl (lv_room (Nat.le_of_ble_eq_true rfl)) dH_at_122 ⟨Nat.le_of_ble_eq_true rfl, Nat.le_of_ble_eq_true rfl⟩) hS (fun q _ h => hFc q h) hFc (fun r18 u9 t H1 locs ht hvm hr9 hB hz1 hk1 hS => ?_)
            obtain ⟨hP1, hK1, hD1⟩ := hB
            rw [ht] at hP1
            obtain ⟨hP, hD⟩ := xjoin (W := [(a0, .inr (2, [.ref a1, .int v1, .int v2])), (a1, .inl (cT 2, 4096, .inr (.inl f0))), (a2, .inr (2, [.ref a3, .int o16.2.2.1, .int o16.2.2.2])), (a3, .inl (cT 2, 4096, .inr (.inl o16.2.1)))]) hP hD [0, 1] [2, 3] 2 rfl rfl (by decide) (by decide) hk1 hFc hP1 hD1
            generalize H1 = H at hP hS ⊢
            rw [hr9]
            refine W.eq (g2 := F0 m 125 ls [.int o16.1]) rfl ?_
            refine lv_goto (tgt := 129) hx hb dH_at_125 (by decide) ?_
            obtain rfl := Option.some.inj hf
            obtain ⟨hP9, hD9⟩ := xsub (wc := [(a0, .inr (2, [.ref a1, .int v1, .int v2])), (a1, .inl (cT 2, 4096, .inr (.inl f0))), (a2, .inr (2, [.ref a3, .int o16.2.2.1, .int o16.2.2.2])), (a3, .inl (cT 2, 4096, .inr (.inl o16.2.1)))]) hP hD [0, 1, 2, 3] rfl rfl (by decide)
            exact W.iret (v := o16.1) hx hb hr (fun t ht hW => ⟨⟨o16.1, (), rfl, rfl, by rw [ht]; exact hP9, va_K.moved hW.alike hK, hD9⟩, hS.F ht⟩) hS.2.2 dH_at_129
          · rw [if_pos hc] at hf
            refine lv_aload_n hx hb dH_at_93 rfl (lv_at hl 1 rfl) ?_
            refine lv_iconst (v := 0) hx hb dH_at_94 (by decide) ?_
            refine lv_iconst (v := 3) hx hb dH_at_95 (by decide) ?_
            obtain ⟨o16, hq17, hf⟩ := xbind hf
            obtain ⟨hPc, hDc, hFc⟩ := xcut (wc := [(a0, .inr (2, [.ref a1, .int v1, .int v2])), (a1, .inl (cT 2, 4096, .inr (.inl f0)))]) hP hD hS hA [2, 3] rfl rfl (by decide)
            refine va_calli (va_runV (C := "ValueBench$Row") (As := [.int 0, .int 3]) (rest := []) ⟨hx, hb, hml, hown, htx⟩ (gR_is l hl9 D cT aK aV H.size n a0 a1 (0 : Int32) (3 : Int32) f0 v1 v2 o16 hq17) ⟨callB_of 2 htx (xw_goodC kw_3_75) rfl rfl rfl (htx _ kw_1_4) (htx _ kw_4_150) ⟨by decide, by decide, by decide +kernel⟩ ⟨Nat.le_of_ble_eq_true rfl, Nat.le_of_ble_eq_true rfl⟩, (htx _ kw_3_73), (htx _ kw_3_74)⟩ ⟨xPre_blind, va_recv hK hP (ci := 2) rfl (q0 := 2) rfl, (fun U hU hW => ⟨rfl, xPre_of hZ hS hFc hPc hDc hK U hU hW⟩)⟩ rfl rfl hl.1 rfl (lv_room (Nat.le_of_ble_eq_true rfl)) dH_at_96 ⟨Nat.le_of_ble_eq_true rfl, Nat.le_of_ble_eq_true rfl⟩) hS (fun q _ h => hFc q h) hFc (fun r18 u9 t H1 locs ht hvm hr9 hB hz1 hk1 hS => ?_)
            obtain ⟨hP1, hK1, hD1⟩ := hB
            rw [ht] at hP1
            obtain ⟨hP, hD⟩ := xjoin (W := [(a2, .inr (2, [.ref a3, .int v4, .int v5])), (a3, .inl (cT 2, 4096, .inr (.inl f3))), (a0, .inr (2, [.ref a1, .int v1, .int v2])), (a1, .inl (cT 2, 4096, .inr (.inl f0)))]) hP hD [2, 3] [0, 1] 2 rfl rfl (by decide) (by decide) hk1 hFc hP1 hD1
            generalize H1 = H at hP hS ⊢
            rw [hr9]
            refine W.eq (g2 := F0 m 99 ls [.int o16]) rfl ?_
            refine lv_if_ne (tgt := 111) hx hb dH_at_99 (by decide) (fun hc => ?_) (fun hc => ?_)
            · rw [if_neg hc] at hf
              refine lv_iconst (v := 1) hx hb dH_at_111 (by decide) ?_
              refine lv_goto (tgt := 116) hx hb dH_at_112 (by decide) ?_
              refine lv_istore_n (lv' := [(3, .int 1), (0, .ref a0), (1, .ref a0), (2, .ref a2)]) hx hb dH_at_116 rfl hl (by decide) rfl (fun ls hl => ?_)
              refine lv_iload_n hx hb dH_at_117 rfl (lv_at hl 0 rfl) ?_
              refine lv_if_eq (tgt := 128) hx hb dH_at_118 (by decide) (fun h => ((by revert h; decide : False)).elim) (fun _ => ?_)
              refine lv_aload_n hx hb dH_at_121 rfl (lv_at hl 3 rfl) ?_
              obtain ⟨o19, hq20, hf⟩ := xbind hf
              obtain ⟨hPc, hDc, hFc⟩ := xcut (wc := [(a2, .inr (2, [.ref a3, .int v4, .int v5])), (a3, .inl (cT 2, 4096, .inr (.inl f3)))]) hP hD hS hA [0, 1] rfl rfl (by decide)
              refine va_calli (va_runS (As := [.ref a2]) (rest := []) ⟨hx, hb, hml, hown, htx⟩ (gH_nothing l hl9 D cT aK aV H.size n a2 a3 f3 v4 v5 o19 hq20) ⟨callB_of 1 htx (xw_goodC kw_4_221) rfl rfl rfl (htx _ kw_1_27) (htx _ kw_4_219) ⟨by decide, by decide, by decide +kernel⟩ ⟨Nat.le_of_ble_eq_true rfl, Nat.le_of_ble_eq_true rfl⟩, htx _ kw_4_220⟩ ⟨xPre_blind, (fun U hU hW => ⟨rfl, xPre_of hZ hS hFc hPc hDc hK U hU hW⟩)⟩ rfl rfl hl.1 rfl (lv_room (Nat.le_of_ble_eq_true rfl)) dH_at_122 ⟨Nat.le_of_ble_eq_true rfl, Nat.le_of_ble_eq_true rfl⟩) hS (fun q _ h => hFc q h) hFc (fun r21 u9 t H1 locs ht hvm hr9 hB hz1 hk1 hS => ?_)
              obtain ⟨hP1, hK1, hD1⟩ := hB
              rw [ht] at hP1
              obtain ⟨hP, hD⟩ := xjoin (W := [(a0, .inr (2, [.ref a1, .int v1, .int v2])), (a1, .inl (cT 2, 4096, .inr (.inl f0))), (a2, .inr (2, [.ref a3, .int o19.2.2.1, .int o19.2.2.2])), (a3, .inl (cT 2, 4096, .inr (.inl o19.2.1)))]) hP hD [0, 1] [2, 3] 2 rfl rfl (by decide) (by decide) hk1 hFc hP1 hD1
              generalize H1 = H at hP hS ⊢
              rw [hr9]
              refine W.eq (g2 := F0 m 125 ls [.int o19.1]) rfl ?_
              refine lv_goto (tgt := 129) hx hb dH_at_125 (by decide) ?_
              obtain rfl := Option.some.inj hf
              obtain ⟨hP9, hD9⟩ := xsub (wc := [(a0, .inr (2, [.ref a1, .int v1, .int v2])), (a1, .inl (cT 2, 4096, .inr (.inl f0))), (a2, .inr (2, [.ref a3, .int o19.2.2.1, .int o19.2.2.2])), (a3, .inl (cT 2, 4096, .inr (.inl o19.2.1)))]) hP hD [0, 1, 2, 3] rfl rfl (by decide)
              exact W.iret (v := o19.1) hx hb hr (fun t ht hW => ⟨⟨o19.1, (), rfl, rfl, by rw [ht]; exact hP9, va_K.moved hW.alike hK, hD9⟩, hS.F ht⟩) hS.2.2 dH_at_129
            · rw [if_pos hc] at hf
              refine lv_aload_n hx hb dH_at_102 rfl (lv_at hl 1 rfl) ?_
              refine lv_iconst (v := 0) hx hb dH_at_103 (by decide) ?_
              refine lv_iconst (v := 4) hx hb dH_at_104 (by decide) ?_
              obtain ⟨o19, hq20, hf⟩ := xbind hf
              obtain ⟨hPc, hDc, hFc⟩ := xcut (wc := [(a0, .inr (2, [.ref a1, .int v1, .int v2])), (a1, .inl (cT 2, 4096, .inr (.inl f0)))]) hP hD hS hA [2, 3] rfl rfl (by decide)
              refine va_calli (va_runV (C := "ValueBench$Row") (As := [.int 0, .int 4]) (rest := []) ⟨hx, hb, hml, hown, htx⟩ (gR_is l hl9 D cT aK aV H.size n a0 a1 (0 : Int32) (4 : Int32) f0 v1 v2 o19 hq20) ⟨callB_of 2 htx (xw_goodC kw_3_75) rfl rfl rfl (htx _ kw_1_4) (htx _ kw_4_150) ⟨by decide, by decide, by decide +kernel⟩ ⟨Nat.le_of_ble_eq_true rfl, Nat.le_of_ble_eq_true rfl⟩, (htx _ kw_3_73), (htx _ kw_3_74)⟩ ⟨xPre_blind, va_recv hK hP (ci := 2) rfl (q0 := 2) rfl, (fun U hU hW => ⟨rfl, xPre_of hZ hS hFc hPc hDc hK U hU hW⟩)⟩ rfl rfl hl.1 rfl (lv_room (Nat.le_of_ble_eq_true rfl)) dH_at_105 ⟨Nat.le_of_ble_eq_true rfl, Nat.le_of_ble_eq_true rfl⟩) hS (fun q _ h => hFc q h) hFc (fun r21 u9 t H1 locs ht hvm hr9 hB hz1 hk1 hS => ?_)
              obtain ⟨hP1, hK1, hD1⟩ := hB
              rw [ht] at hP1
              obtain ⟨hP, hD⟩ := xjoin (W := [(a2, .inr (2, [.ref a3, .int v4, .int v5])), (a3, .inl (cT 2, 4096, .inr (.inl f3))), (a0, .inr (2, [.ref a1, .int v1, .int v2])), (a1, .inl (cT 2, 4096, .inr (.inl f0)))]) hP hD [2, 3] [0, 1] 2 rfl rfl (by decide) (by decide) hk1 hFc hP1 hD1
              generalize H1 = H at hP hS ⊢
              rw [hr9]
              refine W.eq (g2 := F0 m 108 ls [.int o19]) rfl ?_
              refine lv_if_eq (tgt := 115) hx hb dH_at_108 (by decide) (fun hc => ?_) (fun hc => ?_)
              · rw [if_pos hc] at hf
                refine lv_iconst (v := 0) hx hb dH_at_115 (by decide) ?_
                refine lv_istore_n (lv' := [(3, .int 0), (0, .ref a0), (1, .ref a0), (2, .ref a2)]) hx hb dH_at_116 rfl hl (by decide) rfl (fun ls hl => ?_)
                refine lv_iload_n hx hb dH_at_117 rfl (lv_at hl 0 rfl) ?_
                refine lv_if_eq (tgt := 128) hx hb dH_at_118 (by decide) (fun _ => ?_) (fun h => ((by revert h; decide : False)).elim)
                refine lv_iconst (v := 1) hx hb dH_at_128 (by decide) ?_
                obtain rfl := Option.some.inj hf
                obtain ⟨hP9, hD9⟩ := xsub (wc := [(a0, .inr (2, [.ref a1, .int v1, .int v2])), (a1, .inl (cT 2, 4096, .inr (.inl f0))), (a2, .inr (2, [.ref a3, .int v4, .int v5])), (a3, .inl (cT 2, 4096, .inr (.inl f3)))]) hP hD [2, 3, 0, 1] rfl rfl (by decide)
                exact W.iret (v := (1 : Int32)) hx hb hr (fun t ht hW => ⟨⟨(1 : Int32), (), rfl, rfl, by rw [ht]; exact hP9, va_K.moved hW.alike hK, hD9⟩, hS.F ht⟩) hS.2.2 dH_at_129
              · rw [if_neg hc] at hf
                refine lv_iconst (v := 1) hx hb dH_at_111 (by decide) ?_
                refine lv_goto (tgt := 116) hx hb dH_at_112 (by decide) ?_
                refine lv_istore_n (lv' := [(3, .int 1), (0, .ref a0), (1, .ref a0), (2, .ref a2)]) hx hb dH_at_116 rfl hl (by decide) rfl (fun ls hl => ?_)
                refine lv_iload_n hx hb dH_at_117 rfl (lv_at hl 0 rfl) ?_
                refine lv_if_eq (tgt := 128) hx hb dH_at_118 (by decide) (fun h => ((by revert h; decide : False)).elim) (fun _ => ?_)
                refine lv_aload_n hx hb dH_at_121 rfl (lv_at hl 3 rfl) ?_
                obtain ⟨o22, hq23, hf⟩ := xbind hf
                obtain ⟨hPc, hDc, hFc⟩ := xcut (wc := [(a2, .inr (2, [.ref a3, .int v4, .int v5])), (a3, .inl (cT 2, 4096, .inr (.inl f3)))]) hP hD hS hA [0, 1] rfl rfl (by decide)
                refine va_calli (va_runS (As := [.ref a2]) (rest := []) ⟨hx, hb, hml, hown, htx⟩ (gH_nothing l hl9 D cT aK aV H.size n a2 a3 f3 v4 v5 o22 hq23) ⟨callB_of 1 htx (xw_goodC kw_4_221) rfl rfl rfl (htx _ kw_1_27) (htx _ kw_4_219) ⟨by decide, by decide, by decide +kernel⟩ ⟨Nat.le_of_ble_eq_true rfl, Nat.le_of_ble_eq_true rfl⟩, htx _ kw_4_220⟩ ⟨xPre_blind, (fun U hU hW => ⟨rfl, xPre_of hZ hS hFc hPc hDc hK U hU hW⟩)⟩ rfl rfl hl.1 rfl (lv_room (Nat.le_of_ble_eq_true rfl)) dH_at_122 ⟨Nat.le_of_ble_eq_true rfl, Nat.le_of_ble_eq_true rfl⟩) hS (fun q _ h => hFc q h) hFc (fun r24 u9 t H1 locs ht hvm hr9 hB hz1 hk1 hS => ?_)
                obtain ⟨hP1, hK1, hD1⟩ := hB
                rw [ht] at hP1
                obtain ⟨hP, hD⟩ := xjoin (W := [(a0, .inr (2, [.ref a1, .int v1, .int v2])), (a1, .inl (cT 2, 4096, .inr (.inl f0))), (a2, .inr (2, [.ref a3, .int o22.2.2.1, .int o22.2.2.2])), (a3, .inl (cT 2, 4096, .inr (.inl o22.2.1)))]) hP hD [0, 1] [2, 3] 2 rfl rfl (by decide) (by decide) hk1 hFc hP1 hD1
                generalize H1 = H at hP hS ⊢
                rw [hr9]
                refine W.eq (g2 := F0 m 125 ls [.int o22.1]) rfl ?_
                refine lv_goto (tgt := 129) hx hb dH_at_125 (by decide) ?_
                obtain rfl := Option.some.inj hf
                obtain ⟨hP9, hD9⟩ := xsub (wc := [(a0, .inr (2, [.ref a1, .int v1, .int v2])), (a1, .inl (cT 2, 4096, .inr (.inl f0))), (a2, .inr (2, [.ref a3, .int o22.2.2.1, .int o22.2.2.2])), (a3, .inl (cT 2, 4096, .inr (.inl o22.2.1)))]) hP hD [0, 1, 2, 3] rfl rfl (by decide)
                exact W.iret (v := o22.1) hx hb hr (fun t ht hW => ⟨⟨o22.1, (), rfl, rfl, by rw [ht]; exact hP9, va_K.moved hW.alike hK, hD9⟩, hS.F ht⟩) hS.2.2 dH_at_129
      · rw [if_neg hc] at hf
        refine lv_aload_n hx hb dH_at_64 rfl (lv_at hl 0 rfl) ?_
        refine lv_aload_n hx hb dH_at_65 rfl (lv_at hl 1 rfl) ?_
        refine lv_iconst (v := 0) hx hb dH_at_66 (by decide) ?_
        obtain ⟨o10, hq11, hf⟩ := xbind hf
        obtain ⟨hPc, hDc, hFc⟩ := xcut (wc := [(a0, .inr (2, [.ref a1, .int v1, .int v2])), (a1, .inl (cT 2, 4096, .inr (.inl f0)))]) hP hD hS hA [2, 3] rfl rfl (by decide)
        refine va_calll (va_runV (C := "ValueBench$Row") (As := [.int 0]) (rest := [.ref a0]) ⟨hx, hb, hml, hown, htx⟩ (gR_number l hl9 D cT aK aV H.size n a0 a1 (0 : Int32) f0 v1 v2 o10 hq11) ⟨callB_of 1 htx (xw_goodC kw_3_37) rfl rfl rfl (htx _ kw_1_4) (htx _ kw_4_156) ⟨by decide, by decide, by decide +kernel⟩ ⟨Nat.le_of_ble_eq_true rfl, Nat.le_of_ble_eq_true rfl⟩, (htx _ kw_3_35), (htx _ kw_3_36)⟩ ⟨xPre_blind, va_recv hK hP (ci := 2) rfl (q0 := 2) rfl, (fun U hU hW => ⟨rfl, xPre_of hZ hS hFc hPc hDc hK U hU hW⟩)⟩ rfl rfl hl.1 rfl (lv_room (Nat.le_of_ble_eq_true rfl)) dH_at_67 ⟨Nat.le_of_ble_eq_true rfl, Nat.le_of_ble_eq_true rfl⟩) hS (fun q _ h => hFc q h) hFc (fun r12 u9 t H1 locs ht hvm hr9 hB hz1 hk1 hS => ?_)
        obtain ⟨hP1, hK1, hD1⟩ := hB
        rw [ht] at hP1
        obtain ⟨hP, hD⟩ := xjoin (W := [(a2, .inr (2, [.ref a3, .int v4, .int v5])), (a3, .inl (cT 2, 4096, .inr (.inl f3))), (a0, .inr (2, [.ref a1, .int v1, .int v2])), (a1, .inl (cT 2, 4096, .inr (.inl f0)))]) hP hD [2, 3] [0, 1] 2 rfl rfl (by decide) (by decide) hk1 hFc hP1 hD1
        generalize H1 = H at hP hS ⊢
        rw [hr9]
        refine W.eq (g2 := F0 m 70 ls [.long o10, .ref a0]) rfl ?_
        refine lv_aload_n hx hb dH_at_70 rfl (lv_at hl 2 rfl) ?_
        obtain ⟨o13, hq14, hf⟩ := xbind hf
        obtain ⟨hPc, hDc, hFc⟩ := xcut (wc := [(a0, .inr (2, [.ref a1, .int v1, .int v2])), (a1, .inl (cT 2, 4096, .inr (.inl f0))), (a2, .inr (2, [.ref a3, .int v4, .int v5])), (a3, .inl (cT 2, 4096, .inr (.inl f3)))]) hP hD hS hA [2, 3, 0, 1] rfl rfl (by decide)
        refine va_calli (va_runS (As := [.ref a0, .long o10, .ref a2]) (rest := []) ⟨hx, hb, hml, hown, htx⟩ (gH_elementAt l hl9 D cT aK aV H.size n a0 a1 a2 a3 o10 f0 v1 v2 f3 v4 v5 o13 hq14) ⟨callB_of 3 htx (xw_goodC kw_5_7) rfl rfl rfl (htx _ kw_1_27) (htx _ kw_5_5) ⟨by decide, by decide, by decide +kernel⟩ ⟨Nat.le_of_ble_eq_true rfl, Nat.le_of_ble_eq_true rfl⟩, htx _ kw_5_6⟩ ⟨xPre_blind, (fun U hU hW => ⟨rfl, xPre_of hZ hS hFc hPc hDc hK U hU hW⟩)⟩ rfl rfl hl.1 rfl (lv_room (Nat.le_of_ble_eq_true rfl)) dH_at_71 ⟨Nat.le_of_ble_eq_true rfl, Nat.le_of_ble_eq_true rfl⟩) hS (fun q _ h => hFc q h) hFc (fun r15 u9 t H1 locs ht hvm hr9 hB hz1 hk1 hS => ?_)
        obtain ⟨hP1, hK1, hD1⟩ := hB
        rw [ht] at hP1
        obtain ⟨hP, hD⟩ := xjoin (W := [(a0, .inr (2, [.ref a1, .int v1, .int v2])), (a1, .inl (cT 2, 4096, .inr (.inl f0))), (a2, .inr (2, [.ref a3, .int o13.2.2.1, .int o13.2.2.2])), (a3, .inl (cT 2, 4096, .inr (.inl o13.2.1)))]) hP hD [2, 3, 0, 1] [] 0 rfl rfl (by decide) (by decide) hk1 hFc hP1 hD1
        generalize H1 = H at hP hS ⊢
        rw [hr9]
        refine W.eq (g2 := F0 m 74 ls [.int o13.1]) rfl ?_
        obtain rfl := Option.some.inj hf
        obtain ⟨hP9, hD9⟩ := xsub (wc := [(a0, .inr (2, [.ref a1, .int v1, .int v2])), (a1, .inl (cT 2, 4096, .inr (.inl f0))), (a2, .inr (2, [.ref a3, .int o13.2.2.1, .int o13.2.2.2])), (a3, .inl (cT 2, 4096, .inr (.inl o13.2.1)))]) hP hD [0, 1, 2, 3] rfl rfl (by decide)
        exact W.iret (v := o13.1) hx hb hr (fun t ht hW => ⟨⟨o13.1, (), rfl, rfl, by rw [ht]; exact hP9, va_K.moved hW.alike hK, hD9⟩, hS.F ht⟩) hS.2.2 dH_at_74
  · rw [if_neg hc] at hf
    refine lv_aload_n hx hb dH_at_10 rfl (lv_at hl 1 rfl) ?_
    refine lv_iconst (v := 0) hx hb dH_at_11 (by decide) ?_
    refine lv_iconst (v := 4) hx hb dH_at_12 (by decide) ?_
    obtain ⟨o4, hq5, hf⟩ := xbind hf
    obtain ⟨hPc, hDc, hFc⟩ := xcut (wc := [(a0, .inr (2, [.ref a1, .int v1, .int v2])), (a1, .inl (cT 2, 4096, .inr (.inl f0)))]) hP hD hS hA [2, 3] rfl rfl (by decide)
    refine va_calli (va_runV (C := "ValueBench$Row") (As := [.int 0, .int 4]) (rest := []) ⟨hx, hb, hml, hown, htx⟩ (gR_is l hl9 D cT aK aV H.size n a0 a1 (0 : Int32) (4 : Int32) f0 v1 v2 o4 hq5) ⟨callB_of 2 htx (xw_goodC kw_3_75) rfl rfl rfl (htx _ kw_1_4) (htx _ kw_4_150) ⟨by decide, by decide, by decide +kernel⟩ ⟨Nat.le_of_ble_eq_true rfl, Nat.le_of_ble_eq_true rfl⟩, (htx _ kw_3_73), (htx _ kw_3_74)⟩ ⟨xPre_blind, va_recv hK hP (ci := 2) rfl (q0 := 2) rfl, (fun U hU hW => ⟨rfl, xPre_of hZ hS hFc hPc hDc hK U hU hW⟩)⟩ rfl rfl hl.1 rfl (lv_room (Nat.le_of_ble_eq_true rfl)) dH_at_13 ⟨Nat.le_of_ble_eq_true rfl, Nat.le_of_ble_eq_true rfl⟩) hS (fun q _ h => hFc q h) hFc (fun r6 u9 t H1 locs ht hvm hr9 hB hz1 hk1 hS => ?_)
    obtain ⟨hP1, hK1, hD1⟩ := hB
    rw [ht] at hP1
    obtain ⟨hP, hD⟩ := xjoin (W := [(a2, .inr (2, [.ref a3, .int v4, .int v5])), (a3, .inl (cT 2, 4096, .inr (.inl f3))), (a0, .inr (2, [.ref a1, .int v1, .int v2])), (a1, .inl (cT 2, 4096, .inr (.inl f0)))]) hP hD [2, 3] [0, 1] 2 rfl rfl (by decide) (by decide) hk1 hFc hP1 hD1
    generalize H1 = H at hP hS ⊢
    rw [hr9]
    refine W.eq (g2 := F0 m 16 ls [.int o4]) rfl ?_
    refine lv_if_eq (tgt := 46) hx hb dH_at_16 (by decide) (fun hc => ?_) (fun hc => ?_)
    · rw [if_pos hc] at hf
      refine lv_aload_n hx hb dH_at_46 rfl (lv_at hl 0 rfl) ?_
      refine lv_iconst (v := 0) hx hb dH_at_47 (by decide) ?_
      refine lv_iconst (v := 5) hx hb dH_at_48 (by decide) ?_
      obtain ⟨o7, hq8, hf⟩ := xbind hf
      obtain ⟨hPc, hDc, hFc⟩ := xcut (wc := [(a0, .inr (2, [.ref a1, .int v1, .int v2])), (a1, .inl (cT 2, 4096, .inr (.inl f0)))]) hP hD hS hA [2, 3] rfl rfl (by decide)
      refine va_calli (va_runV (C := "ValueBench$Row") (As := [.int 0, .int 5]) (rest := []) ⟨hx, hb, hml, hown, htx⟩ (gR_is l hl9 D cT aK aV H.size n a0 a1 (0 : Int32) (5 : Int32) f0 v1 v2 o7 hq8) ⟨callB_of 2 htx (xw_goodC kw_3_75) rfl rfl rfl (htx _ kw_1_4) (htx _ kw_4_150) ⟨by decide, by decide, by decide +kernel⟩ ⟨Nat.le_of_ble_eq_true rfl, Nat.le_of_ble_eq_true rfl⟩, (htx _ kw_3_73), (htx _ kw_3_74)⟩ ⟨xPre_blind, va_recv hK hP (ci := 2) rfl (q0 := 2) rfl, (fun U hU hW => ⟨rfl, xPre_of hZ hS hFc hPc hDc hK U hU hW⟩)⟩ rfl rfl hl.1 rfl (lv_room (Nat.le_of_ble_eq_true rfl)) dH_at_49 ⟨Nat.le_of_ble_eq_true rfl, Nat.le_of_ble_eq_true rfl⟩) hS (fun q _ h => hFc q h) hFc (fun r9 u9 t H1 locs ht hvm hr9 hB hz1 hk1 hS => ?_)
      obtain ⟨hP1, hK1, hD1⟩ := hB
      rw [ht] at hP1
      obtain ⟨hP, hD⟩ := xjoin (W := [(a2, .inr (2, [.ref a3, .int v4, .int v5])), (a3, .inl (cT 2, 4096, .inr (.inl f3))), (a0, .inr (2, [.ref a1, .int v1, .int v2])), (a1, .inl (cT 2, 4096, .inr (.inl f0)))]) hP hD [2, 3] [0, 1] 2 rfl rfl (by decide) (by decide) hk1 hFc hP1 hD1
      generalize H1 = H at hP hS ⊢
      rw [hr9]
      refine W.eq (g2 := F0 m 52 ls [.int o7]) rfl ?_
      refine lv_if_eq (tgt := 75) hx hb dH_at_52 (by decide) (fun hc => ?_) (fun hc => ?_)
      · rw [if_pos hc] at hf
        refine lv_aload_n hx hb dH_at_75 rfl (lv_at hl 0 rfl) ?_
        refine lv_iconst (v := 0) hx hb dH_at_76 (by decide) ?_
        refine lv_iconst (v := 0) hx hb dH_at_77 (by decide) ?_
        obtain ⟨o10, hq11, hf⟩ := xbind hf
        obtain ⟨hPc, hDc, hFc⟩ := xcut (wc := [(a0, .inr (2, [.ref a1, .int v1, .int v2])), (a1, .inl (cT 2, 4096, .inr (.inl f0)))]) hP hD hS hA [2, 3] rfl rfl (by decide)
        refine va_calli (va_runV (C := "ValueBench$Row") (As := [.int 0, .int 0]) (rest := []) ⟨hx, hb, hml, hown, htx⟩ (gR_is l hl9 D cT aK aV H.size n a0 a1 (0 : Int32) (0 : Int32) f0 v1 v2 o10 hq11) ⟨callB_of 2 htx (xw_goodC kw_3_75) rfl rfl rfl (htx _ kw_1_4) (htx _ kw_4_150) ⟨by decide, by decide, by decide +kernel⟩ ⟨Nat.le_of_ble_eq_true rfl, Nat.le_of_ble_eq_true rfl⟩, (htx _ kw_3_73), (htx _ kw_3_74)⟩ ⟨xPre_blind, va_recv hK hP (ci := 2) rfl (q0 := 2) rfl, (fun U hU hW => ⟨rfl, xPre_of hZ hS hFc hPc hDc hK U hU hW⟩)⟩ rfl rfl hl.1 rfl (lv_room (Nat.le_of_ble_eq_true rfl)) dH_at_78 ⟨Nat.le_of_ble_eq_true rfl, Nat.le_of_ble_eq_true rfl⟩) hS (fun q _ h => hFc q h) hFc (fun r12 u9 t H1 locs ht hvm hr9 hB hz1 hk1 hS => ?_)
        obtain ⟨hP1, hK1, hD1⟩ := hB
        rw [ht] at hP1
        obtain ⟨hP, hD⟩ := xjoin (W := [(a2, .inr (2, [.ref a3, .int v4, .int v5])), (a3, .inl (cT 2, 4096, .inr (.inl f3))), (a0, .inr (2, [.ref a1, .int v1, .int v2])), (a1, .inl (cT 2, 4096, .inr (.inl f0)))]) hP hD [2, 3] [0, 1] 2 rfl rfl (by decide) (by decide) hk1 hFc hP1 hD1
        generalize H1 = H at hP hS ⊢
        rw [hr9]
        refine W.eq (g2 := F0 m 81 ls [.int o10]) rfl ?_
        refine lv_if_eq (tgt := 115) hx hb dH_at_81 (by decide) (fun hc => ?_) (fun hc => ?_)
        · rw [if_pos hc] at hf
          refine lv_iconst (v := 0) hx hb dH_at_115 (by decide) ?_
          refine lv_istore_n (lv' := [(3, .int 0), (0, .ref a0), (1, .ref a0), (2, .ref a2)]) hx hb dH_at_116 rfl hl (by decide) rfl (fun ls hl => ?_)
          refine lv_iload_n hx hb dH_at_117 rfl (lv_at hl 0 rfl) ?_
          refine lv_if_eq (tgt := 128) hx hb dH_at_118 (by decide) (fun _ => ?_) (fun h => ((by revert h; decide : False)).elim)
          refine lv_iconst (v := 1) hx hb dH_at_128 (by decide) ?_
          obtain rfl := Option.some.inj hf
          obtain ⟨hP9, hD9⟩ := xsub (wc := [(a0, .inr (2, [.ref a1, .int v1, .int v2])), (a1, .inl (cT 2, 4096, .inr (.inl f0))), (a2, .inr (2, [.ref a3, .int v4, .int v5])), (a3, .inl (cT 2, 4096, .inr (.inl f3)))]) hP hD [2, 3, 0, 1] rfl rfl (by decide)
          exact W.iret (v := (1 : Int32)) hx hb hr (fun t ht hW => ⟨⟨(1 : Int32), (), rfl, rfl, by rw [ht]; exact hP9, va_K.moved hW.alike hK, hD9⟩, hS.F ht⟩) hS.2.2 dH_at_129
        · rw [if_neg hc] at hf
          refine lv_aload_n hx hb dH_at_84 rfl (lv_at hl 1 rfl) ?_
          refine lv_iconst (v := 0) hx hb dH_at_85 (by decide) ?_
          refine lv_iconst (v := 0) hx hb dH_at_86 (by decide) ?_
          obtain ⟨o13, hq14, hf⟩ := xbind hf
          obtain ⟨hPc, hDc, hFc⟩ := xcut (wc := [(a0, .inr (2, [.ref a1, .int v1, .int v2])), (a1, .inl (cT 2, 4096, .inr (.inl f0)))]) hP hD hS hA [2, 3] rfl rfl (by decide)
          refine va_calli (va_runV (C := "ValueBench$Row") (As := [.int 0, .int 0]) (rest := []) ⟨hx, hb, hml, hown, htx⟩ (gR_is l hl9 D cT aK aV H.size n a0 a1 (0 : Int32) (0 : Int32) f0 v1 v2 o13 hq14) ⟨callB_of 2 htx (xw_goodC kw_3_75) rfl rfl rfl (htx _ kw_1_4) (htx _ kw_4_150) ⟨by decide, by decide, by decide +kernel⟩ ⟨Nat.le_of_ble_eq_true rfl, Nat.le_of_ble_eq_true rfl⟩, (htx _ kw_3_73), (htx _ kw_3_74)⟩ ⟨xPre_blind, va_recv hK hP (ci := 2) rfl (q0 := 2) rfl, (fun U hU hW => ⟨rfl, xPre_of hZ hS hFc hPc hDc hK U hU hW⟩)⟩ rfl rfl hl.1 rfl (lv_room (Nat.le_of_ble_eq_true rfl)) dH_at_87 ⟨Nat.le_of_ble_eq_true rfl, Nat.le_of_ble_eq_true rfl⟩) hS (fun q _ h => hFc q h) hFc (fun r15 u9 t H1 locs ht hvm hr9 hB hz1 hk1 hS => ?_)
          obtain ⟨hP1, hK1, hD1⟩ := hB
          rw [ht] at hP1
          obtain ⟨hP, hD⟩ := xjoin (W := [(a2, .inr (2, [.ref a3, .int v4, .int v5])), (a3, .inl (cT 2, 4096, .inr (.inl f3))), (a0, .inr (2, [.ref a1, .int v1, .int v2])), (a1, .inl (cT 2, 4096, .inr (.inl f0)))]) hP hD [2, 3] [0, 1] 2 rfl rfl (by decide) (by decide) hk1 hFc hP1 hD1
          generalize H1 = H at hP hS ⊢
          rw [hr9]
          refine W.eq (g2 := F0 m 90 ls [.int o13]) rfl ?_
          refine lv_if_ne (tgt := 111) hx hb dH_at_90 (by decide) (fun hc => ?_) (fun hc => ?_)
          · rw [if_neg hc] at hf
            refine lv_iconst (v := 1) hx hb dH_at_111 (by decide) ?_
            refine lv_goto (tgt := 116) hx hb dH_at_112 (by decide) ?_
            refine lv_istore_n (lv' := [(3, .int 1), (0, .ref a0), (1, .ref a0), (2, .ref a2)]) hx hb dH_at_116 rfl hl (by decide) rfl (fun ls hl => ?_)
            refine lv_iload_n hx hb dH_at_117 rfl (lv_at hl 0 rfl) ?_
            refine lv_if_eq (tgt := 128) hx hb dH_at_118 (by decide) (fun h => ((by revert h; decide : False)).elim) (fun _ => ?_)
            refine lv_aload_n hx hb dH_at_121 rfl (lv_at hl 3 rfl) ?_
            obtain ⟨o16, hq17, hf⟩ := xbind hf
            obtain ⟨hPc, hDc, hFc⟩ := xcut (wc := [(a2, .inr (2, [.ref a3, .int v4, .int v5])), (a3, .inl (cT 2, 4096, .inr (.inl f3)))]) hP hD hS hA [0, 1] rfl rfl (by decide)
            refine va_calli (va_runS (As := [.ref a2]) (rest := []) ⟨hx, hb, hml, hown, htx⟩ (gH_nothing l hl9 D cT aK aV H.size n a2 a3 f3 v4 v5 o16 hq17) ⟨callB_of 1 htx (xw_goodC kw_4_221) rfl rfl rfl (htx _ kw_1_27) (htx _ kw_4_219) ⟨by decide, by decide, by decide +kernel⟩ ⟨Nat.le_of_ble_eq_true rfl, Nat.le_of_ble_eq_true rfl⟩, htx _ kw_4_220⟩ ⟨xPre_blind, (fun U hU hW => ⟨rfl, xPre_of hZ hS hFc hPc hDc hK U hU hW⟩)⟩ rfl rfl hl.1 rfl (lv_room (Nat.le_of_ble_eq_true rfl)) dH_at_122 ⟨Nat.le_of_ble_eq_true rfl, Nat.le_of_ble_eq_true rfl⟩) hS (fun q _ h => hFc q h) hFc (fun r18 u9 t H1 locs ht hvm hr9 hB hz1 hk1 hS => ?_)
            obtain ⟨hP1, hK1, hD1⟩ := hB
            rw [ht] at hP1
            obtain ⟨hP, hD⟩ := xjoin (W := [(a0, .inr (2, [.ref a1, .int v1, .int v2])), (a1, .inl (cT 2, 4096, .inr (.inl f0))), (a2, .inr (2, [.ref a3, .int o16.2.2.1, .int o16.2.2.2])), (a3, .inl (cT 2, 4096, .inr (.inl o16.2.1)))]) hP hD [0, 1] [2, 3] 2 rfl rfl (by decide) (by decide) hk1 hFc hP1 hD1
            generalize H1 = H at hP hS ⊢
            rw [hr9]
            refine W.eq (g2 := F0 m 125 ls [.int o16.1]) rfl ?_
            refine lv_goto (tgt := 129) hx hb dH_at_125 (by decide) ?_
            obtain rfl := Option.some.inj hf
            obtain ⟨hP9, hD9⟩ := xsub (wc := [(a0, .inr (2, [.ref a1, .int v1, .int v2])), (a1, .inl (cT 2, 4096, .inr (.inl f0))), (a2, .inr (2, [.ref a3, .int o16.2.2.1, .int o16.2.2.2])), (a3, .inl (cT 2, 4096, .inr (.inl o16.2.1)))]) hP hD [0, 1, 2, 3] rfl rfl (by decide)
            exact W.iret (v := o16.1) hx hb hr (fun t ht hW => ⟨⟨o16.1, (), rfl, rfl, by rw [ht]; exact hP9, va_K.moved hW.alike hK, hD9⟩, hS.F ht⟩) hS.2.2 dH_at_129
          · rw [if_pos hc] at hf
            refine lv_aload_n hx hb dH_at_93 rfl (lv_at hl 1 rfl) ?_
            refine lv_iconst (v := 0) hx hb dH_at_94 (by decide) ?_
            refine lv_iconst (v := 3) hx hb dH_at_95 (by decide) ?_
            obtain ⟨o16, hq17, hf⟩ := xbind hf
            obtain ⟨hPc, hDc, hFc⟩ := xcut (wc := [(a0, .inr (2, [.ref a1, .int v1, .int v2])), (a1, .inl (cT 2, 4096, .inr (.inl f0)))]) hP hD hS hA [2, 3] rfl rfl (by decide)
            refine va_calli (va_runV (C := "ValueBench$Row") (As := [.int 0, .int 3]) (rest := []) ⟨hx, hb, hml, hown, htx⟩ (gR_is l hl9 D cT aK aV H.size n a0 a1 (0 : Int32) (3 : Int32) f0 v1 v2 o16 hq17) ⟨callB_of 2 htx (xw_goodC kw_3_75) rfl rfl rfl (htx _ kw_1_4) (htx _ kw_4_150) ⟨by decide, by decide, by decide +kernel⟩ ⟨Nat.le_of_ble_eq_true rfl, Nat.le_of_ble_eq_true rfl⟩, (htx _ kw_3_73), (htx _ kw_3_74)⟩ ⟨xPre_blind, va_recv hK hP (ci := 2) rfl (q0 := 2) rfl, (fun U hU hW => ⟨rfl, xPre_of hZ hS hFc hPc hDc hK U hU hW⟩)⟩ rfl rfl hl.1 rfl (lv_room (Nat.le_of_ble_eq_true rfl)) dH_at_96 ⟨Nat.le_of_ble_eq_true rfl, Nat.le_of_ble_eq_true rfl⟩) hS (fun q _ h => hFc q h) hFc (fun r18 u9 t H1 locs ht hvm hr9 hB hz1 hk1 hS => ?_)
            obtain ⟨hP1, hK1, hD1⟩ := hB
            rw [ht] at hP1
            obtain ⟨hP, hD⟩ := xjoin (W := [(a2, .inr (2, [.ref a3, .int v4, .int v5])), (a3, .inl (cT 2, 4096, .inr (.inl f3))), (a0, .inr (2, [.ref a1, .int v1, .int v2])), (a1, .inl (cT 2, 4096, .inr (.inl f0)))]) hP hD [2, 3] [0, 1] 2 rfl rfl (by decide) (by decide) hk1 hFc hP1 hD1
            generalize H1 = H at hP hS ⊢
            rw [hr9]
            refine W.eq (g2 := F0 m 99 ls [.int o16]) rfl ?_
            refine lv_if_ne (tgt := 111) hx hb dH_at_99 (by decide) (fun hc => ?_) (fun hc => ?_)
            · rw [if_neg hc] at hf
              refine lv_iconst (v := 1) hx hb dH_at_111 (by decide) ?_
              refine lv_goto (tgt := 116) hx hb dH_at_112 (by decide) ?_
              refine lv_istore_n (lv' := [(3, .int 1), (0, .ref a0), (1, .ref a0), (2, .ref a2)]) hx hb dH_at_116 rfl hl (by decide) rfl (fun ls hl => ?_)
              refine lv_iload_n hx hb dH_at_117 rfl (lv_at hl 0 rfl) ?_
              refine lv_if_eq (tgt := 128) hx hb dH_at_118 (by decide) (fun h => ((by revert h; decide : False)).elim) (fun _ => ?_)
              refine lv_aload_n hx hb dH_at_121 rfl (lv_at hl 3 rfl) ?_
              obtain ⟨o19, hq20, hf⟩ := xbind hf
              obtain ⟨hPc, hDc, hFc⟩ := xcut (wc := [(a2, .inr (2, [.ref a3, .int v4, .int v5])), (a3, .inl (cT 2, 4096, .inr (.inl f3)))]) hP hD hS hA [0, 1] rfl rfl (by decide)
              refine va_calli (va_runS (As := [.ref a2]) (rest := []) ⟨hx, hb, hml, hown, htx⟩ (gH_nothing l hl9 D cT aK aV H.size n a2 a3 f3 v4 v5 o19 hq20) ⟨callB_of 1 htx (xw_goodC kw_4_221) rfl rfl rfl (htx _ kw_1_27) (htx _ kw_4_219) ⟨by decide, by decide, by decide +kernel⟩ ⟨Nat.le_of_ble_eq_true rfl, Nat.le_of_ble_eq_true rfl⟩, htx _ kw_4_220⟩ ⟨xPre_blind, (fun U hU hW => ⟨rfl, xPre_of hZ hS hFc hPc hDc hK U hU hW⟩)⟩ rfl rfl hl.1 rfl (lv_room (Nat.le_of_ble_eq_true rfl)) dH_at_122 ⟨Nat.le_of_ble_eq_true rfl, Nat.le_of_ble_eq_true rfl⟩) hS (fun q _ h => hFc q h) hFc (fun r21 u9 t H1 locs ht hvm hr9 hB hz1 hk1 hS => ?_)
              obtain ⟨hP1, hK1, hD1⟩ := hB
              rw [ht] at hP1
              obtain ⟨hP, hD⟩ := xjoin (W := [(a0, .inr (2, [.ref a1, .int v1, .int v2])), (a1, .inl (cT 2, 4096, .inr (.inl f0))), (a2, .inr (2, [.ref a3, .int o19.2.2.1, .int o19.2.2.2])), (a3, .inl (cT 2, 4096, .inr (.inl o19.2.1)))]) hP hD [0, 1] [2, 3] 2 rfl rfl (by decide) (by decide) hk1 hFc hP1 hD1
              generalize H1 = H at hP hS ⊢
              rw [hr9]
              refine W.eq (g2 := F0 m 125 ls [.int o19.1]) rfl ?_
              refine lv_goto (tgt := 129) hx hb dH_at_125 (by decide) ?_
              obtain rfl := Option.some.inj hf
              obtain ⟨hP9, hD9⟩ := xsub (wc := [(a0, .inr (2, [.ref a1, .int v1, .int v2])), (a1, .inl (cT 2, 4096, .inr (.inl f0))), (a2, .inr (2, [.ref a3, .int o19.2.2.1, .int o19.2.2.2])), (a3, .inl (cT 2, 4096, .inr (.inl o19.2.1)))]) hP hD [0, 1, 2, 3] rfl rfl (by decide)
              exact W.iret (v := o19.1) hx hb hr (fun t ht hW => ⟨⟨o19.1, (), rfl, rfl, by rw [ht]; exact hP9, va_K.moved hW.alike hK, hD9⟩, hS.F ht⟩) hS.2.2 dH_at_129
            · rw [if_pos hc] at hf
              refine lv_aload_n hx hb dH_at_102 rfl (lv_at hl 1 rfl) ?_
              refine lv_iconst (v := 0) hx hb dH_at_103 (by decide) ?_
              refine lv_iconst (v := 4) hx hb dH_at_104 (by decide) ?_
              obtain ⟨o19, hq20, hf⟩ := xbind hf
              obtain ⟨hPc, hDc, hFc⟩ := xcut (wc := [(a0, .inr (2, [.ref a1, .int v1, .int v2])), (a1, .inl (cT 2, 4096, .inr (.inl f0)))]) hP hD hS hA [2, 3] rfl rfl (by decide)
              refine va_calli (va_runV (C := "ValueBench$Row") (As := [.int 0, .int 4]) (rest := []) ⟨hx, hb, hml, hown, htx⟩ (gR_is l hl9 D cT aK aV H.size n a0 a1 (0 : Int32) (4 : Int32) f0 v1 v2 o19 hq20) ⟨callB_of 2 htx (xw_goodC kw_3_75) rfl rfl rfl (htx _ kw_1_4) (htx _ kw_4_150) ⟨by decide, by decide, by decide +kernel⟩ ⟨Nat.le_of_ble_eq_true rfl, Nat.le_of_ble_eq_true rfl⟩, (htx _ kw_3_73), (htx _ kw_3_74)⟩ ⟨xPre_blind, va_recv hK hP (ci := 2) rfl (q0 := 2) rfl, (fun U hU hW => ⟨rfl, xPre_of hZ hS hFc hPc hDc hK U hU hW⟩)⟩ rfl rfl hl.1 rfl (lv_room (Nat.le_of_ble_eq_true rfl)) dH_at_105 ⟨Nat.le_of_ble_eq_true rfl, Nat.le_of_ble_eq_true rfl⟩) hS (fun q _ h => hFc q h) hFc (fun r21 u9 t H1 locs ht hvm hr9 hB hz1 hk1 hS => ?_)
              obtain ⟨hP1, hK1, hD1⟩ := hB
              rw [ht] at hP1
              obtain ⟨hP, hD⟩ := xjoin (W := [(a2, .inr (2, [.ref a3, .int v4, .int v5])), (a3, .inl (cT 2, 4096, .inr (.inl f3))), (a0, .inr (2, [.ref a1, .int v1, .int v2])), (a1, .inl (cT 2, 4096, .inr (.inl f0)))]) hP hD [2, 3] [0, 1] 2 rfl rfl (by decide) (by decide) hk1 hFc hP1 hD1
              generalize H1 = H at hP hS ⊢
              rw [hr9]
              refine W.eq (g2 := F0 m 108 ls [.int o19]) rfl ?_
              refine lv_if_eq (tgt := 115) hx hb dH_at_108 (by decide) (fun hc => ?_) (fun hc => ?_)
              · rw [if_pos hc] at hf
                refine lv_iconst (v := 0) hx hb dH_at_115 (by decide) ?_
                refine lv_istore_n (lv' := [(3, .int 0), (0, .ref a0), (1, .ref a0), (2, .ref a2)]) hx hb dH_at_116 rfl hl (by decide) rfl (fun ls hl => ?_)
                refine lv_iload_n hx hb dH_at_117 rfl (lv_at hl 0 rfl) ?_
                refine lv_if_eq (tgt := 128) hx hb dH_at_118 (by decide) (fun _ => ?_) (fun h => ((by revert h; decide : False)).elim)
                refine lv_iconst (v := 1) hx hb dH_at_128 (by decide) ?_
                obtain rfl := Option.some.inj hf
                obtain ⟨hP9, hD9⟩ := xsub (wc := [(a0, .inr (2, [.ref a1, .int v1, .int v2])), (a1, .inl (cT 2, 4096, .inr (.inl f0))), (a2, .inr (2, [.ref a3, .int v4, .int v5])), (a3, .inl (cT 2, 4096, .inr (.inl f3)))]) hP hD [2, 3, 0, 1] rfl rfl (by decide)
                exact W.iret (v := (1 : Int32)) hx hb hr (fun t ht hW => ⟨⟨(1 : Int32), (), rfl, rfl, by rw [ht]; exact hP9, va_K.moved hW.alike hK, hD9⟩, hS.F ht⟩) hS.2.2 dH_at_129
              · rw [if_neg hc] at hf
                refine lv_iconst (v := 1) hx hb dH_at_111 (by decide) ?_
                refine lv_goto (tgt := 116) hx hb dH_at_112 (by decide) ?_
                refine lv_istore_n (lv' := [(3, .int 1), (0, .ref a0), (1, .ref a0), (2, .ref a2)]) hx hb dH_at_116 rfl hl (by decide) rfl (fun ls hl => ?_)
                refine lv_iload_n hx hb dH_at_117 rfl (lv_at hl 0 rfl) ?_
                refine lv_if_eq (tgt := 128) hx hb dH_at_118 (by decide) (fun h => ((by revert h; decide : False)).elim) (fun _ => ?_)
                refine lv_aload_n hx hb dH_at_121 rfl (lv_at hl 3 rfl) ?_
                obtain ⟨o22, hq23, hf⟩ := xbind hf
                obtain ⟨hPc, hDc, hFc⟩ := xcut (wc := [(a2, .inr (2, [.ref a3, .int v4, .int v5])), (a3, .inl (cT 2, 4096, .inr (.inl f3)))]) hP hD hS hA [0, 1] rfl rfl (by decide)
                refine va_calli (va_runS (As := [.ref a2]) (rest := []) ⟨hx, hb, hml, hown, htx⟩ (gH_nothing l hl9 D cT aK aV H.size n a2 a3 f3 v4 v5 o22 hq23) ⟨callB_of 1 htx (xw_goodC kw_4_221) rfl rfl rfl (htx _ kw_1_27) (htx _ kw_4_219) ⟨by decide, by decide, by decide +kernel⟩ ⟨Nat.le_of_ble_eq_true rfl, Nat.le_of_ble_eq_true rfl⟩, htx _ kw_4_220⟩ ⟨xPre_blind, (fun U hU hW => ⟨rfl, xPre_of hZ hS hFc hPc hDc hK U hU hW⟩)⟩ rfl rfl hl.1 rfl (lv_room (Nat.le_of_ble_eq_true rfl)) dH_at_122 ⟨Nat.le_of_ble_eq_true rfl, Nat.le_of_ble_eq_true rfl⟩) hS (fun q _ h => hFc q h) hFc (fun r24 u9 t H1 locs ht hvm hr9 hB hz1 hk1 hS => ?_)
                obtain ⟨hP1, hK1, hD1⟩ := hB
                rw [ht] at hP1
                obtain ⟨hP, hD⟩ := xjoin (W := [(a0, .inr (2, [.ref a1, .int v1, .int v2])), (a1, .inl (cT 2, 4096, .inr (.inl f0))), (a2, .inr (2, [.ref a3, .int o22.2.2.1, .int o22.2.2.2])), (a3, .inl (cT 2, 4096, .inr (.inl o22.2.1)))]) hP hD [0, 1] [2, 3] 2 rfl rfl (by decide) (by decide) hk1 hFc hP1 hD1
                generalize H1 = H at hP hS ⊢
                rw [hr9]
                refine W.eq (g2 := F0 m 125 ls [.int o22.1]) rfl ?_
                refine lv_goto (tgt := 129) hx hb dH_at_125 (by decide) ?_
                obtain rfl := Option.some.inj hf
                obtain ⟨hP9, hD9⟩ := xsub (wc := [(a0, .inr (2, [.ref a1, .int v1, .int v2])), (a1, .inl (cT 2, 4096, .inr (.inl f0))), (a2, .inr (2, [.ref a3, .int o22.2.2.1, .int o22.2.2.2])), (a3, .inl (cT 2, 4096, .inr (.inl o22.2.1)))]) hP hD [0, 1, 2, 3] rfl rfl (by decide)
                exact W.iret (v := o22.1) hx hb hr (fun t ht hW => ⟨⟨o22.1, (), rfl, rfl, by rw [ht]; exact hP9, va_K.moved hW.alike hK, hD9⟩, hS.F ht⟩) hS.2.2 dH_at_129
      · rw [if_neg hc] at hf
        refine lv_aload_n hx hb dH_at_55 rfl (lv_at hl 1 rfl) ?_
        refine lv_iconst (v := 0) hx hb dH_at_56 (by decide) ?_
        refine lv_iconst (v := 3) hx hb dH_at_57 (by decide) ?_
        obtain ⟨o10, hq11, hf⟩ := xbind hf
        obtain ⟨hPc, hDc, hFc⟩ := xcut (wc := [(a0, .inr (2, [.ref a1, .int v1, .int v2])), (a1, .inl (cT 2, 4096, .inr (.inl f0)))]) hP hD hS hA [2, 3] rfl rfl (by decide)
        refine va_calli (va_runV (C := "ValueBench$Row") (As := [.int 0, .int 3]) (rest := []) ⟨hx, hb, hml, hown, htx⟩ (gR_is l hl9 D cT aK aV H.size n a0 a1 (0 : Int32) (3 : Int32) f0 v1 v2 o10 hq11) ⟨callB_of 2 htx (xw_goodC kw_3_75) rfl rfl rfl (htx _ kw_1_4) (htx _ kw_4_150) ⟨by decide, by decide, by decide +kernel⟩ ⟨Nat.le_of_ble_eq_true rfl, Nat.le_of_ble_eq_true rfl⟩, (htx _ kw_3_73), (htx _ kw_3_74)⟩ ⟨xPre_blind, va_recv hK hP (ci := 2) rfl (q0 := 2) rfl, (fun U hU hW => ⟨rfl, xPre_of hZ hS hFc hPc hDc hK U hU hW⟩)⟩ rfl rfl hl.1 rfl (lv_room (Nat.le_of_ble_eq_true rfl)) dH_at_58 ⟨Nat.le_of_ble_eq_true rfl, Nat.le_of_ble_eq_true rfl⟩) hS (fun q _ h => hFc q h) hFc (fun r12 u9 t H1 locs ht hvm hr9 hB hz1 hk1 hS => ?_)
        obtain ⟨hP1, hK1, hD1⟩ := hB
        rw [ht] at hP1
        obtain ⟨hP, hD⟩ := xjoin (W := [(a2, .inr (2, [.ref a3, .int v4, .int v5])), (a3, .inl (cT 2, 4096, .inr (.inl f3))), (a0, .inr (2, [.ref a1, .int v1, .int v2])), (a1, .inl (cT 2, 4096, .inr (.inl f0)))]) hP hD [2, 3] [0, 1] 2 rfl rfl (by decide) (by decide) hk1 hFc hP1 hD1
        generalize H1 = H at hP hS ⊢
        rw [hr9]
        refine W.eq (g2 := F0 m 61 ls [.int o10]) rfl ?_
        refine lv_if_eq (tgt := 75) hx hb dH_at_61 (by decide) (fun hc => ?_) (fun hc => ?_)
        · rw [if_pos hc] at hf
          refine lv_aload_n hx hb dH_at_75 rfl (lv_at hl 0 rfl) ?_
          refine lv_iconst (v := 0) hx hb dH_at_76 (by decide) ?_
          refine lv_iconst (v := 0) hx hb dH_at_77 (by decide) ?_
          obtain ⟨o13, hq14, hf⟩ := xbind hf
          obtain ⟨hPc, hDc, hFc⟩ := xcut (wc := [(a0, .inr (2, [.ref a1, .int v1, .int v2])), (a1, .inl (cT 2, 4096, .inr (.inl f0)))]) hP hD hS hA [2, 3] rfl rfl (by decide)
          refine va_calli (va_runV (C := "ValueBench$Row") (As := [.int 0, .int 0]) (rest := []) ⟨hx, hb, hml, hown, htx⟩ (gR_is l hl9 D cT aK aV H.size n a0 a1 (0 : Int32) (0 : Int32) f0 v1 v2 o13 hq14) ⟨callB_of 2 htx (xw_goodC kw_3_75) rfl rfl rfl (htx _ kw_1_4) (htx _ kw_4_150) ⟨by decide, by decide, by decide +kernel⟩ ⟨Nat.le_of_ble_eq_true rfl, Nat.le_of_ble_eq_true rfl⟩, (htx _ kw_3_73), (htx _ kw_3_74)⟩ ⟨xPre_blind, va_recv hK hP (ci := 2) rfl (q0 := 2) rfl, (fun U hU hW => ⟨rfl, xPre_of hZ hS hFc hPc hDc hK U hU hW⟩)⟩ rfl rfl hl.1 rfl (lv_room (Nat.le_of_ble_eq_true rfl)) dH_at_78 ⟨Nat.le_of_ble_eq_true rfl, Nat.le_of_ble_eq_true rfl⟩) hS (fun q _ h => hFc q h) hFc (fun r15 u9 t H1 locs ht hvm hr9 hB hz1 hk1 hS => ?_)
          obtain ⟨hP1, hK1, hD1⟩ := hB
          rw [ht] at hP1
          obtain ⟨hP, hD⟩ := xjoin (W := [(a2, .inr (2, [.ref a3, .int v4, .int v5])), (a3, .inl (cT 2, 4096, .inr (.inl f3))), (a0, .inr (2, [.ref a1, .int v1, .int v2])), (a1, .inl (cT 2, 4096, .inr (.inl f0)))]) hP hD [2, 3] [0, 1] 2 rfl rfl (by decide) (by decide) hk1 hFc hP1 hD1
          generalize H1 = H at hP hS ⊢
          rw [hr9]
          refine W.eq (g2 := F0 m 81 ls [.int o13]) rfl ?_
          refine lv_if_eq (tgt := 115) hx hb dH_at_81 (by decide) (fun hc => ?_) (fun hc => ?_)
          · rw [if_pos hc] at hf
            refine lv_iconst (v := 0) hx hb dH_at_115 (by decide) ?_
            refine lv_istore_n (lv' := [(3, .int 0), (0, .ref a0), (1, .ref a0), (2, .ref a2)]) hx hb dH_at_116 rfl hl (by decide) rfl (fun ls hl => ?_)
            refine lv_iload_n hx hb dH_at_117 rfl (lv_at hl 0 rfl) ?_
            refine lv_if_eq (tgt := 128) hx hb dH_at_118 (by decide) (fun _ => ?_) (fun h => ((by revert h; decide : False)).elim)
            refine lv_iconst (v := 1) hx hb dH_at_128 (by decide) ?_
            obtain rfl := Option.some.inj hf
            obtain ⟨hP9, hD9⟩ := xsub (wc := [(a0, .inr (2, [.ref a1, .int v1, .int v2])), (a1, .inl (cT 2, 4096, .inr (.inl f0))), (a2, .inr (2, [.ref a3, .int v4, .int v5])), (a3, .inl (cT 2, 4096, .inr (.inl f3)))]) hP hD [2, 3, 0, 1] rfl rfl (by decide)
            exact W.iret (v := (1 : Int32)) hx hb hr (fun t ht hW => ⟨⟨(1 : Int32), (), rfl, rfl, by rw [ht]; exact hP9, va_K.moved hW.alike hK, hD9⟩, hS.F ht⟩) hS.2.2 dH_at_129
          · rw [if_neg hc] at hf
            refine lv_aload_n hx hb dH_at_84 rfl (lv_at hl 1 rfl) ?_
            refine lv_iconst (v := 0) hx hb dH_at_85 (by decide) ?_
            refine lv_iconst (v := 0) hx hb dH_at_86 (by decide) ?_
            obtain ⟨o16, hq17, hf⟩ := xbind hf
            obtain ⟨hPc, hDc, hFc⟩ := xcut (wc := [(a0, .inr (2, [.ref a1, .int v1, .int v2])), (a1, .inl (cT 2, 4096, .inr (.inl f0)))]) hP hD hS hA [2, 3] rfl rfl (by decide)
            refine va_calli (va_runV (C := "ValueBench$Row") (As := [.int 0, .int 0]) (rest := []) ⟨hx, hb, hml, hown, htx⟩ (gR_is l hl9 D cT aK aV H.size n a0 a1 (0 : Int32) (0 : Int32) f0 v1 v2 o16 hq17) ⟨callB_of 2 htx (xw_goodC kw_3_75) rfl rfl rfl (htx _ kw_1_4) (htx _ kw_4_150) ⟨by decide, by decide, by decide +kernel⟩ ⟨Nat.le_of_ble_eq_true rfl, Nat.le_of_ble_eq_true rfl⟩, (htx _ kw_3_73), (htx _ kw_3_74)⟩ ⟨xPre_blind, va_recv hK hP (ci := 2) rfl (q0 := 2) rfl, (fun U hU hW => ⟨rfl, xPre_of hZ hS hFc hPc hDc hK U hU hW⟩)⟩ rfl rfl hl.1 rfl (lv_room (Nat.le_of_ble_eq_true rfl)) dH_at_87 ⟨Nat.le_of_ble_eq_true rfl, Nat.le_of_ble_eq_true rfl⟩) hS (fun q _ h => hFc q h) hFc (fun r18 u9 t H1 locs ht hvm hr9 hB hz1 hk1 hS => ?_)
            obtain ⟨hP1, hK1, hD1⟩ := hB
            rw [ht] at hP1
            obtain ⟨hP, hD⟩ := xjoin (W := [(a2, .inr (2, [.ref a3, .int v4, .int v5])), (a3, .inl (cT 2, 4096, .inr (.inl f3))), (a0, .inr (2, [.ref a1, .int v1, .int v2])), (a1, .inl (cT 2, 4096, .inr (.inl f0)))]) hP hD [2, 3] [0, 1] 2 rfl rfl (by decide) (by decide) hk1 hFc hP1 hD1
            generalize H1 = H at hP hS ⊢
            rw [hr9]
            refine W.eq (g2 := F0 m 90 ls [.int o16]) rfl ?_
            refine lv_if_ne (tgt := 111) hx hb dH_at_90 (by decide) (fun hc => ?_) (fun hc => ?_)
            · rw [if_neg hc] at hf
              refine lv_iconst (v := 1) hx hb dH_at_111 (by decide) ?_
              refine lv_goto (tgt := 116) hx hb dH_at_112 (by decide) ?_
              refine lv_istore_n (lv' := [(3, .int 1), (0, .ref a0), (1, .ref a0), (2, .ref a2)]) hx hb dH_at_116 rfl hl (by decide) rfl (fun ls hl => ?_)
              refine lv_iload_n hx hb dH_at_117 rfl (lv_at hl 0 rfl) ?_
              refine lv_if_eq (tgt := 128) hx hb dH_at_118 (by decide) (fun h => ((by revert h; decide : False)).elim) (fun _ => ?_)
              refine lv_aload_n hx hb dH_at_121 rfl (lv_at hl 3 rfl) ?_
              obtain ⟨o19, hq20, hf⟩ := xbind hf
              obtain ⟨hPc, hDc, hFc⟩ := xcut (wc := [(a2, .inr (2, [.ref a3, .int v4, .int v5])), (a3, .inl (cT 2, 4096, .inr (.inl f3)))]) hP hD hS hA [0, 1] rfl rfl (by decide)
              refine va_calli (va_runS (As := [.ref a2]) (rest := []) ⟨hx, hb, hml, hown, htx⟩ (gH_nothing l hl9 D cT aK aV H.size n a2 a3 f3 v4 v5 o19 hq20) ⟨callB_of 1 htx (xw_goodC kw_4_221) rfl rfl rfl (htx _ kw_1_27) (htx _ kw_4_219) ⟨by decide, by decide, by decide +kernel⟩ ⟨Nat.le_of_ble_eq_true rfl, Nat.le_of_ble_eq_true rfl⟩, htx _ kw_4_220⟩ ⟨xPre_blind, (fun U hU hW => ⟨rfl, xPre_of hZ hS hFc hPc hDc hK U hU hW⟩)⟩ rfl rfl hl.1 rfl (lv_room (Nat.le_of_ble_eq_true rfl)) dH_at_122 ⟨Nat.le_of_ble_eq_true rfl, Nat.le_of_ble_eq_true rfl⟩) hS (fun q _ h => hFc q h) hFc (fun r21 u9 t H1 locs ht hvm hr9 hB hz1 hk1 hS => ?_)
              obtain ⟨hP1, hK1, hD1⟩ := hB
              rw [ht] at hP1
              obtain ⟨hP, hD⟩ := xjoin (W := [(a0, .inr (2, [.ref a1, .int v1, .int v2])), (a1, .inl (cT 2, 4096, .inr (.inl f0))), (a2, .inr (2, [.ref a3, .int o19.2.2.1, .int o19.2.2.2])), (a3, .inl (cT 2, 4096, .inr (.inl o19.2.1)))]) hP hD [0, 1] [2, 3] 2 rfl rfl (by decide) (by decide) hk1 hFc hP1 hD1
              generalize H1 = H at hP hS ⊢
              rw [hr9]
              refine W.eq (g2 := F0 m 125 ls [.int o19.1]) rfl ?_
              refine lv_goto (tgt := 129) hx hb dH_at_125 (by decide) ?_
              obtain rfl := Option.some.inj hf
              obtain ⟨hP9, hD9⟩ := xsub (wc := [(a0, .inr (2, [.ref a1, .int v1, .int v2])), (a1, .inl (cT 2, 4096, .inr (.inl f0))), (a2, .inr (2, [.ref a3, .int o19.2.2.1, .int o19.2.2.2])), (a3, .inl (cT 2, 4096, .inr (.inl o19.2.1)))]) hP hD [0, 1, 2, 3] rfl rfl (by decide)
              exact W.iret (v := o19.1) hx hb hr (fun t ht hW => ⟨⟨o19.1, (), rfl, rfl, by rw [ht]; exact hP9, va_K.moved hW.alike hK, hD9⟩, hS.F ht⟩) hS.2.2 dH_at_129
            · rw [if_pos hc] at hf
              refine lv_aload_n hx hb dH_at_93 rfl (lv_at hl 1 rfl) ?_
              refine lv_iconst (v := 0) hx hb dH_at_94 (by decide) ?_
              refine lv_iconst (v := 3) hx hb dH_at_95 (by decide) ?_
              obtain ⟨o19, hq20, hf⟩ := xbind hf
              obtain ⟨hPc, hDc, hFc⟩ := xcut (wc := [(a0, .inr (2, [.ref a1, .int v1, .int v2])), (a1, .inl (cT 2, 4096, .inr (.inl f0)))]) hP hD hS hA [2, 3] rfl rfl (by decide)
              refine va_calli (va_runV (C := "ValueBench$Row") (As := [.int 0, .int 3]) (rest := []) ⟨hx, hb, hml, hown, htx⟩ (gR_is l hl9 D cT aK aV H.size n a0 a1 (0 : Int32) (3 : Int32) f0 v1 v2 o19 hq20) ⟨callB_of 2 htx (xw_goodC kw_3_75) rfl rfl rfl (htx _ kw_1_4) (htx _ kw_4_150) ⟨by decide, by decide, by decide +kernel⟩ ⟨Nat.le_of_ble_eq_true rfl, Nat.le_of_ble_eq_true rfl⟩, (htx _ kw_3_73), (htx _ kw_3_74)⟩ ⟨xPre_blind, va_recv hK hP (ci := 2) rfl (q0 := 2) rfl, (fun U hU hW => ⟨rfl, xPre_of hZ hS hFc hPc hDc hK U hU hW⟩)⟩ rfl rfl hl.1 rfl (lv_room (Nat.le_of_ble_eq_true rfl)) dH_at_96 ⟨Nat.le_of_ble_eq_true rfl, Nat.le_of_ble_eq_true rfl⟩) hS (fun q _ h => hFc q h) hFc (fun r21 u9 t H1 locs ht hvm hr9 hB hz1 hk1 hS => ?_)
              obtain ⟨hP1, hK1, hD1⟩ := hB
              rw [ht] at hP1
              obtain ⟨hP, hD⟩ := xjoin (W := [(a2, .inr (2, [.ref a3, .int v4, .int v5])), (a3, .inl (cT 2, 4096, .inr (.inl f3))), (a0, .inr (2, [.ref a1, .int v1, .int v2])), (a1, .inl (cT 2, 4096, .inr (.inl f0)))]) hP hD [2, 3] [0, 1] 2 rfl rfl (by decide) (by decide) hk1 hFc hP1 hD1
              generalize H1 = H at hP hS ⊢
              rw [hr9]
              refine W.eq (g2 := F0 m 99 ls [.int o19]) rfl ?_
              refine lv_if_ne (tgt := 111) hx hb dH_at_99 (by decide) (fun hc => ?_) (fun hc => ?_)
              · rw [if_neg hc] at hf
                refine lv_iconst (v := 1) hx hb dH_at_111 (by decide) ?_
                refine lv_goto (tgt := 116) hx hb dH_at_112 (by decide) ?_
                refine lv_istore_n (lv' := [(3, .int 1), (0, .ref a0), (1, .ref a0), (2, .ref a2)]) hx hb dH_at_116 rfl hl (by decide) rfl (fun ls hl => ?_)
                refine lv_iload_n hx hb dH_at_117 rfl (lv_at hl 0 rfl) ?_
                refine lv_if_eq (tgt := 128) hx hb dH_at_118 (by decide) (fun h => ((by revert h; decide : False)).elim) (fun _ => ?_)
                refine lv_aload_n hx hb dH_at_121 rfl (lv_at hl 3 rfl) ?_
                obtain ⟨o22, hq23, hf⟩ := xbind hf
                obtain ⟨hPc, hDc, hFc⟩ := xcut (wc := [(a2, .inr (2, [.ref a3, .int v4, .int v5])), (a3, .inl (cT 2, 4096, .inr (.inl f3)))]) hP hD hS hA [0, 1] rfl rfl (by decide)
                refine va_calli (va_runS (As := [.ref a2]) (rest := []) ⟨hx, hb, hml, hown, htx⟩ (gH_nothing l hl9 D cT aK aV H.size n a2 a3 f3 v4 v5 o22 hq23) ⟨callB_of 1 htx (xw_goodC kw_4_221) rfl rfl rfl (htx _ kw_1_27) (htx _ kw_4_219) ⟨by decide, by decide, by decide +kernel⟩ ⟨Nat.le_of_ble_eq_true rfl, Nat.le_of_ble_eq_true rfl⟩, htx _ kw_4_220⟩ ⟨xPre_blind, (fun U hU hW => ⟨rfl, xPre_of hZ hS hFc hPc hDc hK U hU hW⟩)⟩ rfl rfl hl.1 rfl (lv_room (Nat.le_of_ble_eq_true rfl)) dH_at_122 ⟨Nat.le_of_ble_eq_true rfl, Nat.le_of_ble_eq_true rfl⟩) hS (fun q _ h => hFc q h) hFc (fun r24 u9 t H1 locs ht hvm hr9 hB hz1 hk1 hS => ?_)
                obtain ⟨hP1, hK1, hD1⟩ := hB
                rw [ht] at hP1
                obtain ⟨hP, hD⟩ := xjoin (W := [(a0, .inr (2, [.ref a1, .int v1, .int v2])), (a1, .inl (cT 2, 4096, .inr (.inl f0))), (a2, .inr (2, [.ref a3, .int o22.2.2.1, .int o22.2.2.2])), (a3, .inl (cT 2, 4096, .inr (.inl o22.2.1)))]) hP hD [0, 1] [2, 3] 2 rfl rfl (by decide) (by decide) hk1 hFc hP1 hD1
                generalize H1 = H at hP hS ⊢
                rw [hr9]
                refine W.eq (g2 := F0 m 125 ls [.int o22.1]) rfl ?_
                refine lv_goto (tgt := 129) hx hb dH_at_125 (by decide) ?_
                obtain rfl := Option.some.inj hf
                obtain ⟨hP9, hD9⟩ := xsub (wc := [(a0, .inr (2, [.ref a1, .int v1, .int v2])), (a1, .inl (cT 2, 4096, .inr (.inl f0))), (a2, .inr (2, [.ref a3, .int o22.2.2.1, .int o22.2.2.2])), (a3, .inl (cT 2, 4096, .inr (.inl o22.2.1)))]) hP hD [0, 1, 2, 3] rfl rfl (by decide)
                exact W.iret (v := o22.1) hx hb hr (fun t ht hW => ⟨⟨o22.1, (), rfl, rfl, by rw [ht]; exact hP9, va_K.moved hW.alike hK, hD9⟩, hS.F ht⟩) hS.2.2 dH_at_129
              · rw [if_pos hc] at hf
                refine lv_aload_n hx hb dH_at_102 rfl (lv_at hl 1 rfl) ?_
                refine lv_iconst (v := 0) hx hb dH_at_103 (by decide) ?_
                refine lv_iconst (v := 4) hx hb dH_at_104 (by decide) ?_
                obtain ⟨o22, hq23, hf⟩ := xbind hf
                obtain ⟨hPc, hDc, hFc⟩ := xcut (wc := [(a0, .inr (2, [.ref a1, .int v1, .int v2])), (a1, .inl (cT 2, 4096, .inr (.inl f0)))]) hP hD hS hA [2, 3] rfl rfl (by decide)
                refine va_calli (va_runV (C := "ValueBench$Row") (As := [.int 0, .int 4]) (rest := []) ⟨hx, hb, hml, hown, htx⟩ (gR_is l hl9 D cT aK aV H.size n a0 a1 (0 : Int32) (4 : Int32) f0 v1 v2 o22 hq23) ⟨callB_of 2 htx (xw_goodC kw_3_75) rfl rfl rfl (htx _ kw_1_4) (htx _ kw_4_150) ⟨by decide, by decide, by decide +kernel⟩ ⟨Nat.le_of_ble_eq_true rfl, Nat.le_of_ble_eq_true rfl⟩, (htx _ kw_3_73), (htx _ kw_3_74)⟩ ⟨xPre_blind, va_recv hK hP (ci := 2) rfl (q0 := 2) rfl, (fun U hU hW => ⟨rfl, xPre_of hZ hS hFc hPc hDc hK U hU hW⟩)⟩ rfl rfl hl.1 rfl (lv_room (Nat.le_of_ble_eq_true rfl)) dH_at_105 ⟨Nat.le_of_ble_eq_true rfl, Nat.le_of_ble_eq_true rfl⟩) hS (fun q _ h => hFc q h) hFc (fun r24 u9 t H1 locs ht hvm hr9 hB hz1 hk1 hS => ?_)
                obtain ⟨hP1, hK1, hD1⟩ := hB
                rw [ht] at hP1
                obtain ⟨hP, hD⟩ := xjoin (W := [(a2, .inr (2, [.ref a3, .int v4, .int v5])), (a3, .inl (cT 2, 4096, .inr (.inl f3))), (a0, .inr (2, [.ref a1, .int v1, .int v2])), (a1, .inl (cT 2, 4096, .inr (.inl f0)))]) hP hD [2, 3] [0, 1] 2 rfl rfl (by decide) (by decide) hk1 hFc hP1 hD1
                generalize H1 = H at hP hS ⊢
                rw [hr9]
                refine W.eq (g2 := F0 m 108 ls [.int o22]) rfl ?_
                refine lv_if_eq (tgt := 115) hx hb dH_at_108 (by decide) (fun hc => ?_) (fun hc => ?_)
                · rw [if_pos hc] at hf
                  refine lv_iconst (v := 0) hx hb dH_at_115 (by decide) ?_
                  refine lv_istore_n (lv' := [(3, .int 0), (0, .ref a0), (1, .ref a0), (2, .ref a2)]) hx hb dH_at_116 rfl hl (by decide) rfl (fun ls hl => ?_)
                  refine lv_iload_n hx hb dH_at_117 rfl (lv_at hl 0 rfl) ?_
                  refine lv_if_eq (tgt := 128) hx hb dH_at_118 (by decide) (fun _ => ?_) (fun h => ((by revert h; decide : False)).elim)
                  refine lv_iconst (v := 1) hx hb dH_at_128 (by decide) ?_
                  obtain rfl := Option.some.inj hf
                  obtain ⟨hP9, hD9⟩ := xsub (wc := [(a0, .inr (2, [.ref a1, .int v1, .int v2])), (a1, .inl (cT 2, 4096, .inr (.inl f0))), (a2, .inr (2, [.ref a3, .int v4, .int v5])), (a3, .inl (cT 2, 4096, .inr (.inl f3)))]) hP hD [2, 3, 0, 1] rfl rfl (by decide)
                  exact W.iret (v := (1 : Int32)) hx hb hr (fun t ht hW => ⟨⟨(1 : Int32), (), rfl, rfl, by rw [ht]; exact hP9, va_K.moved hW.alike hK, hD9⟩, hS.F ht⟩) hS.2.2 dH_at_129
                · rw [if_neg hc] at hf
                  refine lv_iconst (v := 1) hx hb dH_at_111 (by decide) ?_
                  refine lv_goto (tgt := 116) hx hb dH_at_112 (by decide) ?_
                  refine lv_istore_n (lv' := [(3, .int 1), (0, .ref a0), (1, .ref a0), (2, .ref a2)]) hx hb dH_at_116 rfl hl (by decide) rfl (fun ls hl => ?_)
                  refine lv_iload_n hx hb dH_at_117 rfl (lv_at hl 0 rfl) ?_
                  refine lv_if_eq (tgt := 128) hx hb dH_at_118 (by decide) (fun h => ((by revert h; decide : False)).elim) (fun _ => ?_)
                  refine lv_aload_n hx hb dH_at_121 rfl (lv_at hl 3 rfl) ?_
                  obtain ⟨o25, hq26, hf⟩ := xbind hf
                  obtain ⟨hPc, hDc, hFc⟩ := xcut (wc := [(a2, .inr (2, [.ref a3, .int v4, .int v5])), (a3, .inl (cT 2, 4096, .inr (.inl f3)))]) hP hD hS hA [0, 1] rfl rfl (by decide)
                  refine va_calli (va_runS (As := [.ref a2]) (rest := []) ⟨hx, hb, hml, hown, htx⟩ (gH_nothing l hl9 D cT aK aV H.size n a2 a3 f3 v4 v5 o25 hq26) ⟨callB_of 1 htx (xw_goodC kw_4_221) rfl rfl rfl (htx _ kw_1_27) (htx _ kw_4_219) ⟨by decide, by decide, by decide +kernel⟩ ⟨Nat.le_of_ble_eq_true rfl, Nat.le_of_ble_eq_true rfl⟩, htx _ kw_4_220⟩ ⟨xPre_blind, (fun U hU hW => ⟨rfl, xPre_of hZ hS hFc hPc hDc hK U hU hW⟩)⟩ rfl rfl hl.1 rfl (lv_room (Nat.le_of_ble_eq_true rfl)) dH_at_122 ⟨Nat.le_of_ble_eq_true rfl, Nat.le_of_ble_eq_true rfl⟩) hS (fun q _ h => hFc q h) hFc (fun r27 u9 t H1 locs ht hvm hr9 hB hz1 hk1 hS => ?_)
                  obtain ⟨hP1, hK1, hD1⟩ := hB
                  rw [ht] at hP1
                  obtain ⟨hP, hD⟩ := xjoin (W := [(a0, .inr (2, [.ref a1, .int v1, .int v2])), (a1, .inl (cT 2, 4096, .inr (.inl f0))), (a2, .inr (2, [.ref a3, .int o25.2.2.1, .int o25.2.2.2])), (a3, .inl (cT 2, 4096, .inr (.inl o25.2.1)))]) hP hD [0, 1] [2, 3] 2 rfl rfl (by decide) (by decide) hk1 hFc hP1 hD1
                  generalize H1 = H at hP hS ⊢
                  rw [hr9]
                  refine W.eq (g2 := F0 m 125 ls [.int o25.1]) rfl ?_
                  refine lv_goto (tgt := 129) hx hb dH_at_125 (by decide) ?_
                  obtain rfl := Option.some.inj hf
                  obtain ⟨hP9, hD9⟩ := xsub (wc := [(a0, .inr (2, [.ref a1, .int v1, .int v2])), (a1, .inl (cT 2, 4096, .inr (.inl f0))), (a2, .inr (2, [.ref a3, .int o25.2.2.1, .int o25.2.2.2])), (a3, .inl (cT 2, 4096, .inr (.inl o25.2.1)))]) hP hD [0, 1, 2, 3] rfl rfl (by decide)
                  exact W.iret (v := o25.1) hx hb hr (fun t ht hW => ⟨⟨o25.1, (), rfl, rfl, by rw [ht]; exact hP9, va_K.moved hW.alike hK, hD9⟩, hS.F ht⟩) hS.2.2 dH_at_129
        · rw [if_neg hc] at hf
          refine lv_aload_n hx hb dH_at_64 rfl (lv_at hl 0 rfl) ?_
          refine lv_aload_n hx hb dH_at_65 rfl (lv_at hl 1 rfl) ?_
          refine lv_iconst (v := 0) hx hb dH_at_66 (by decide) ?_
          obtain ⟨o13, hq14, hf⟩ := xbind hf
          obtain ⟨hPc, hDc, hFc⟩ := xcut (wc := [(a0, .inr (2, [.ref a1, .int v1, .int v2])), (a1, .inl (cT 2, 4096, .inr (.inl f0)))]) hP hD hS hA [2, 3] rfl rfl (by decide)
          refine va_calll (va_runV (C := "ValueBench$Row") (As := [.int 0]) (rest := [.ref a0]) ⟨hx, hb, hml, hown, htx⟩ (gR_number l hl9 D cT aK aV H.size n a0 a1 (0 : Int32) f0 v1 v2 o13 hq14) ⟨callB_of 1 htx (xw_goodC kw_3_37) rfl rfl rfl (htx _ kw_1_4) (htx _ kw_4_156) ⟨by decide, by decide, by decide +kernel⟩ ⟨Nat.le_of_ble_eq_true rfl, Nat.le_of_ble_eq_true rfl⟩, (htx _ kw_3_35), (htx _ kw_3_36)⟩ ⟨xPre_blind, va_recv hK hP (ci := 2) rfl (q0 := 2) rfl, (fun U hU hW => ⟨rfl, xPre_of hZ hS hFc hPc hDc hK U hU hW⟩)⟩ rfl rfl hl.1 rfl (lv_room (Nat.le_of_ble_eq_true rfl)) dH_at_67 ⟨Nat.le_of_ble_eq_true rfl, Nat.le_of_ble_eq_true rfl⟩) hS (fun q _ h => hFc q h) hFc (fun r15 u9 t H1 locs ht hvm hr9 hB hz1 hk1 hS => ?_)
          obtain ⟨hP1, hK1, hD1⟩ := hB
          rw [ht] at hP1
          obtain ⟨hP, hD⟩ := xjoin (W := [(a2, .inr (2, [.ref a3, .int v4, .int v5])), (a3, .inl (cT 2, 4096, .inr (.inl f3))), (a0, .inr (2, [.ref a1, .int v1, .int v2])), (a1, .inl (cT 2, 4096, .inr (.inl f0)))]) hP hD [2, 3] [0, 1] 2 rfl rfl (by decide) (by decide) hk1 hFc hP1 hD1
          generalize H1 = H at hP hS ⊢
          rw [hr9]
          refine W.eq (g2 := F0 m 70 ls [.long o13, .ref a0]) rfl ?_
          refine lv_aload_n hx hb dH_at_70 rfl (lv_at hl 2 rfl) ?_
          obtain ⟨o16, hq17, hf⟩ := xbind hf
          obtain ⟨hPc, hDc, hFc⟩ := xcut (wc := [(a0, .inr (2, [.ref a1, .int v1, .int v2])), (a1, .inl (cT 2, 4096, .inr (.inl f0))), (a2, .inr (2, [.ref a3, .int v4, .int v5])), (a3, .inl (cT 2, 4096, .inr (.inl f3)))]) hP hD hS hA [2, 3, 0, 1] rfl rfl (by decide)
          refine va_calli (va_runS (As := [.ref a0, .long o13, .ref a2]) (rest := []) ⟨hx, hb, hml, hown, htx⟩ (gH_elementAt l hl9 D cT aK aV H.size n a0 a1 a2 a3 o13 f0 v1 v2 f3 v4 v5 o16 hq17) ⟨callB_of 3 htx (xw_goodC kw_5_7) rfl rfl rfl (htx _ kw_1_27) (htx _ kw_5_5) ⟨by decide, by decide, by decide +kernel⟩ ⟨Nat.le_of_ble_eq_true rfl, Nat.le_of_ble_eq_true rfl⟩, htx _ kw_5_6⟩ ⟨xPre_blind, (fun U hU hW => ⟨rfl, xPre_of hZ hS hFc hPc hDc hK U hU hW⟩)⟩ rfl rfl hl.1 rfl (lv_room (Nat.le_of_ble_eq_true rfl)) dH_at_71 ⟨Nat.le_of_ble_eq_true rfl, Nat.le_of_ble_eq_true rfl⟩) hS (fun q _ h => hFc q h) hFc (fun r18 u9 t H1 locs ht hvm hr9 hB hz1 hk1 hS => ?_)
          obtain ⟨hP1, hK1, hD1⟩ := hB
          rw [ht] at hP1
          obtain ⟨hP, hD⟩ := xjoin (W := [(a0, .inr (2, [.ref a1, .int v1, .int v2])), (a1, .inl (cT 2, 4096, .inr (.inl f0))), (a2, .inr (2, [.ref a3, .int o16.2.2.1, .int o16.2.2.2])), (a3, .inl (cT 2, 4096, .inr (.inl o16.2.1)))]) hP hD [2, 3, 0, 1] [] 0 rfl rfl (by decide) (by decide) hk1 hFc hP1 hD1
          generalize H1 = H at hP hS ⊢
          rw [hr9]
          refine W.eq (g2 := F0 m 74 ls [.int o16.1]) rfl ?_
          obtain rfl := Option.some.inj hf
          obtain ⟨hP9, hD9⟩ := xsub (wc := [(a0, .inr (2, [.ref a1, .int v1, .int v2])), (a1, .inl (cT 2, 4096, .inr (.inl f0))), (a2, .inr (2, [.ref a3, .int o16.2.2.1, .int o16.2.2.2])), (a3, .inl (cT 2, 4096, .inr (.inl o16.2.1)))]) hP hD [0, 1, 2, 3] rfl rfl (by decide)
          exact W.iret (v := o16.1) hx hb hr (fun t ht hW => ⟨⟨o16.1, (), rfl, rfl, by rw [ht]; exact hP9, va_K.moved hW.alike hK, hD9⟩, hS.F ht⟩) hS.2.2 dH_at_74
    · rw [if_neg hc] at hf
      refine lv_aload_n hx hb dH_at_19 rfl (lv_at hl 0 rfl) ?_
      refine lv_iconst (v := 0) hx hb dH_at_20 (by decide) ?_
      refine lv_aload_n hx hb dH_at_21 rfl (lv_at hl 1 rfl) ?_
      refine lv_iconst (v := 0) hx hb dH_at_22 (by decide) ?_
      obtain ⟨o7, hq8, hf⟩ := xbind hf
      obtain ⟨hPc, hDc, hFc⟩ := xcut (wc := [(a0, .inr (2, [.ref a1, .int v1, .int v2])), (a1, .inl (cT 2, 4096, .inr (.inl f0)))]) hP hD hS hA [2, 3] rfl rfl (by decide)
      refine va_calli (va_runV (C := "ValueBench$Row") (As := [.int 0, .ref a0, .int 0]) (rest := []) ⟨hx, hb, hml, hown, htx⟩ (gR_valueOf l hl9 D cT aK aV H.size n a0 a1 (0 : Int32) (0 : Int32) f0 v1 v2 o7 hq8) ⟨callB_of 3 htx (xw_goodC kw_2_187) rfl rfl rfl (htx _ kw_1_4) (htx _ kw_4_151) ⟨by decide, by decide, by decide +kernel⟩ ⟨Nat.le_of_ble_eq_true rfl, Nat.le_of_ble_eq_true rfl⟩, (htx _ kw_2_185), (htx _ kw_2_186)⟩ ⟨xPre_blind, va_recv hK hP (ci := 2) rfl (q0 := 2) rfl, (fun U hU hW => ⟨rfl, xPre_of hZ hS hFc hPc hDc hK U hU hW⟩)⟩ rfl rfl hl.1 rfl (lv_room (Nat.le_of_ble_eq_true rfl)) dH_at_23 ⟨Nat.le_of_ble_eq_true rfl, Nat.le_of_ble_eq_true rfl⟩) hS (fun q _ h => hFc q h) hFc (fun r9 u9 t H1 locs ht hvm hr9 hB hz1 hk1 hS => ?_)
      obtain ⟨hP1, hK1, hD1⟩ := hB
      rw [ht] at hP1
      obtain ⟨hP, hD⟩ := xjoin (W := [(a2, .inr (2, [.ref a3, .int v4, .int v5])), (a3, .inl (cT 2, 4096, .inr (.inl f3))), (a0, .inr (2, [.ref a1, .int v1, .int v2])), (a1, .inl (cT 2, 4096, .inr (.inl f0)))]) hP hD [2, 3] [0, 1] 2 rfl rfl (by decide) (by decide) hk1 hFc hP1 hD1
      generalize H1 = H at hP hS ⊢
      rw [hr9]
      refine W.eq (g2 := F0 m 26 ls [.int o7]) rfl ?_
      refine lv_istore_n (lv' := [(3, .int o7), (0, .ref a0), (1, .ref a0), (2, .ref a2)]) hx hb dH_at_26 rfl hl (by decide) rfl (fun ls hl => ?_)
      refine lv_iload_n hx hb dH_at_27 rfl (lv_at hl 0 rfl) ?_
      refine lv_iconst (v := (-1)) hx hb dH_at_28 (by decide) ?_
      refine lv_icmp_ne (tgt := 39) hx hb dH_at_29 (by decide) (fun hc => ?_) (fun hc => ?_)
      · rw [if_neg hc] at hf
        refine lv_aload_n hx hb dH_at_39 rfl (lv_at hl 1 rfl) ?_
        refine lv_iload_n hx hb dH_at_40 rfl (lv_at hl 0 rfl) ?_
        refine lv_aload_n hx hb dH_at_41 rfl (lv_at hl 3 rfl) ?_
        obtain ⟨o10, hq11, hf⟩ := xbind hf
        obtain ⟨hPc, hDc, hFc⟩ := xcut (wc := [(a0, .inr (2, [.ref a1, .int v1, .int v2])), (a1, .inl (cT 2, 4096, .inr (.inl f0))), (a2, .inr (2, [.ref a3, .int v4, .int v5])), (a3, .inl (cT 2, 4096, .inr (.inl f3)))]) hP hD hS hA [2, 3, 0, 1] rfl rfl (by decide)
        refine va_calli (va_runS (As := [.ref a0, .int o7, .ref a2]) (rest := []) ⟨hx, hb, hml, hown, htx⟩ (gH_copy l hl9 D cT aK aV H.size n a0 a1 a2 a3 o7 f0 v1 v2 f3 v4 v5 o10 hq11) ⟨callB_of 3 htx (xw_goodC kw_4_207) rfl rfl rfl (htx _ kw_1_27) (htx _ kw_4_205) ⟨by decide, by decide, by decide +kernel⟩ ⟨Nat.le_of_ble_eq_true rfl, Nat.le_of_ble_eq_true rfl⟩, htx _ kw_4_206⟩ ⟨xPre_blind, (fun U hU hW => ⟨rfl, xPre_of hZ hS hFc hPc hDc hK U hU hW⟩)⟩ rfl rfl hl.1 rfl (lv_room (Nat.le_of_ble_eq_true rfl)) dH_at_42 ⟨Nat.le_of_ble_eq_true rfl, Nat.le_of_ble_eq_true rfl⟩) hS (fun q _ h => hFc q h) hFc (fun r12 u9 t H1 locs ht hvm hr9 hB hz1 hk1 hS => ?_)
        obtain ⟨hP1, hK1, hD1⟩ := hB
        rw [ht] at hP1
        obtain ⟨hP, hD⟩ := xjoin (W := [(a0, .inr (2, [.ref a1, .int v1, .int v2])), (a1, .inl (cT 2, 4096, .inr (.inl f0))), (a2, .inr (2, [.ref a3, .int o10.2.2.1, .int o10.2.2.2])), (a3, .inl (cT 2, 4096, .inr (.inl o10.2.1)))]) hP hD [2, 3, 0, 1] [] 0 rfl rfl (by decide) (by decide) hk1 hFc hP1 hD1
        generalize H1 = H at hP hS ⊢
        rw [hr9]
        refine W.eq (g2 := F0 m 45 ls [.int o10.1]) rfl ?_
        obtain rfl := Option.some.inj hf
        obtain ⟨hP9, hD9⟩ := xsub (wc := [(a0, .inr (2, [.ref a1, .int v1, .int v2])), (a1, .inl (cT 2, 4096, .inr (.inl f0))), (a2, .inr (2, [.ref a3, .int o10.2.2.1, .int o10.2.2.2])), (a3, .inl (cT 2, 4096, .inr (.inl o10.2.1)))]) hP hD [0, 1, 2, 3] rfl rfl (by decide)
        exact W.iret (v := o10.1) hx hb hr (fun t ht hW => ⟨⟨o10.1, (), rfl, rfl, by rw [ht]; exact hP9, va_K.moved hW.alike hK, hD9⟩, hS.F ht⟩) hS.2.2 dH_at_45
      · rw [if_pos hc] at hf
        refine lv_aload_n hx hb dH_at_32 rfl (lv_at hl 3 rfl) ?_
        obtain ⟨o10, hq11, hf⟩ := xbind hf
        obtain ⟨hPc, hDc, hFc⟩ := xcut (wc := [(a2, .inr (2, [.ref a3, .int v4, .int v5])), (a3, .inl (cT 2, 4096, .inr (.inl f3)))]) hP hD hS hA [0, 1] rfl rfl (by decide)
        refine va_calli (va_runS (As := [.ref a2]) (rest := []) ⟨hx, hb, hml, hown, htx⟩ (gH_nothing l hl9 D cT aK aV H.size n a2 a3 f3 v4 v5 o10 hq11) ⟨callB_of 1 htx (xw_goodC kw_4_221) rfl rfl rfl (htx _ kw_1_27) (htx _ kw_4_219) ⟨by decide, by decide, by decide +kernel⟩ ⟨Nat.le_of_ble_eq_true rfl, Nat.le_of_ble_eq_true rfl⟩, htx _ kw_4_220⟩ ⟨xPre_blind, (fun U hU hW => ⟨rfl, xPre_of hZ hS hFc hPc hDc hK U hU hW⟩)⟩ rfl rfl hl.1 rfl (lv_room (Nat.le_of_ble_eq_true rfl)) dH_at_33 ⟨Nat.le_of_ble_eq_true rfl, Nat.le_of_ble_eq_true rfl⟩) hS (fun q _ h => hFc q h) hFc (fun r12 u9 t H1 locs ht hvm hr9 hB hz1 hk1 hS => ?_)
        obtain ⟨hP1, hK1, hD1⟩ := hB
        rw [ht] at hP1
        obtain ⟨hP, hD⟩ := xjoin (W := [(a0, .inr (2, [.ref a1, .int v1, .int v2])), (a1, .inl (cT 2, 4096, .inr (.inl f0))), (a2, .inr (2, [.ref a3, .int o10.2.2.1, .int o10.2.2.2])), (a3, .inl (cT 2, 4096, .inr (.inl o10.2.1)))]) hP hD [0, 1] [2, 3] 2 rfl rfl (by decide) (by decide) hk1 hFc hP1 hD1
        generalize H1 = H at hP hS ⊢
        rw [hr9]
        refine W.eq (g2 := F0 m 36 ls [.int o10.1]) rfl ?_
        refine lv_goto (tgt := 45) hx hb dH_at_36 (by decide) ?_
        obtain rfl := Option.some.inj hf
        obtain ⟨hP9, hD9⟩ := xsub (wc := [(a0, .inr (2, [.ref a1, .int v1, .int v2])), (a1, .inl (cT 2, 4096, .inr (.inl f0))), (a2, .inr (2, [.ref a3, .int o10.2.2.1, .int o10.2.2.2])), (a3, .inl (cT 2, 4096, .inr (.inl o10.2.1)))]) hP hD [0, 1, 2, 3] rfl rfl (by decide)
        exact W.iret (v := o10.1) hx hb hr (fun t ht hW => ⟨⟨o10.1, (), rfl, rfl, by rw [ht]; exact hP9, va_K.moved hW.alike hK, hD9⟩, hS.F ht⟩) hS.2.2 dH_at_45
set_option maxHeartbeats 400000000 in
set_option maxRecDepth 100000 in
theorem gH_applya (l : Launch) (hl9 : l.stackTraces = false) (D : va_G) (cT : Nat → ClassId) (aK aV : Nat → Nat) (sz d n : Nat) (a0 : Nat) (a1 : Nat) (a2 : Nat) (a3 : Nat) (a4 : Nat) (a5 : Nat) (x0 : Int32) (f0 : Nat → Int64) (v1 : Int32) (v2 : Int32) (f3 : Nat → Int32) (v4 : Int32) (v5 : Int32) (f6 : Nat → Int64) (v7 : Int32) (v8 : Int32) (out : Int32 × (Nat → Int32) × Int32 × Int32 × (Nat → Int64) × Int32 × Int32) (hf : fH_applya d n x0 f0 v1 v2 f3 v4 v5 f6 v7 v8 = some out) : xMet l yH_apply wyH_apply (16 * d + 6) 0 0 (400 * d + 176) D cT aK aV sz [.int x0, .ref a0, .ref a0, .ref a2, .ref a4] [(a0, .inr (2, [.ref a1, .int v1, .int v2])), (a1, .inl (cT 2, 4096, .inr (.inl f0))), (a2, .inr (1, [.ref a3, .int v4, .int v5])), (a3, .inl (cT 0, 4096, .inl f3)), (a4, .inr (2, [.ref a5, .int v7, .int v8])), (a5, .inl (cT 2, 4096, .inr (.inl f6)))] (fun A => va_Qi (fun (r : Int32) (_ : Unit) => r = out.1) (fun _ t => xB D xcl cT A [(a0, .inr (2, [.ref a1, .int v1, .int v2])), (a1, .inl (cT 2, 4096, .inr (.inl f0))), (a2, .inr (1, [.ref a3, .int out.2.2.1, .int out.2.2.2.1])), (a3, .inl (cT 0, 4096, .inl out.2.1)), (a4, .inr (2, [.ref a5, .int out.2.2.2.2.2.1, .int out.2.2.2.2.2.2])), (a5, .inl (cT 2, 4096, .inr (.inl out.2.2.2.2.1)))] t) A) := by
  refine Met.ofW (cc := prog_5_method_2_code) (maxL := 5) (ret := (some .int)) (by decide) rfl ?_
  intro p e s m args below meth c s₁ B hml hv
  obtain ⟨rfl, hsz, hZ, hP, hK, hD0⟩ := hv
  have hx := B.exec
  have hb := B.bytes
  have hr := B.returns
  have hts := atoms_spec (ws := wyH_apply) B.pre
  have htx := fun w h => hts w (List.mem_cons_of_mem _ h)
  have hown : s.vm.findClass "ValueBench$Pairs" = some m.cls := findClass_of_methodNamed B.named
  have hlocks := B.notSynchronized
  subst hsz
  have hD := hD0.self (sz := s.heap.size)
  generalize hAe : va_A [(a0, .inr (2, [.ref a1, .int v1, .int v2])), (a1, .inl (cT 2, 4096, .inr (.inl f0))), (a2, .inr (1, [.ref a3, .int v4, .int v5])), (a3, .inl (cT 0, 4096, .inl f3)), (a4, .inr (2, [.ref a5, .int v7, .int v8])), (a5, .inl (cT 2, 4096, .inr (.inl f6)))] s.heap.size = A at hD hZ ⊢
  have hA : ∀ q : Nat, s.heap.size ≤ q → A q := fun q h => by rw [← hAe]; exact Or.inr h
  have hS : va_S A s.heap s.heap [] := va_S.rf
  have hP : va_P D xcl [(a0, .inr (2, [.ref a1, .int v1, .int v2])), (a1, .inl (cT 2, 4096, .inr (.inl f0))), (a2, .inr (1, [.ref a3, .int v4, .int v5])), (a3, .inl (cT 0, 4096, .inl f3)), (a4, .inr (2, [.ref a5, .int v7, .int v8])), (a5, .inl (cT 2, 4096, .inr (.inl f6)))] s.heap := hP
  have hl := lv_entry ([.int x0, .ref a0, .ref a0, .ref a2, .ref a4]) (n := 5) (Nat.le_of_ble_eq_true rfl)
  rw [lg_entry_eq]
  generalize (lg_sl ([.int x0, .ref a0, .ref a0, .ref a2, .ref a4]) ++ List.replicate (5 - (lg_sl ([.int x0, .ref a0, .ref a0, .ref a2, .ref a4])).length) Slot.unset).toArray = ls at hl ⊢
  have hl : lv_has ls 5 [(0, .int x0), (1, .ref a0), (2, .ref a0), (3, .ref a2), (4, .ref a4)] := hl
  unfold fH_applya at hf
  refine lv_iload_n hx hb dH_apply_0 rfl (lv_at hl 0 rfl) ?_
  by_cases hc1 : x0 = 0
  · rw [if_pos hc1] at hf
    refine lv_tableIn (off := 51) (tgt := 52) hx hb dH_apply_1 (by rw [hc1]; decide) (by rw [hc1]; decide) (by rw [hc1]; decide) (by decide) ?_
    refine lv_aload_n hx hb dH_apply_52 rfl (lv_at hl 1 rfl) ?_
    refine lv_aload_n hx hb dH_apply_53 rfl (lv_at hl 2 rfl) ?_
    refine lv_aload hx hb dH_apply_54 (lv_at hl 4 rfl) ?_
    obtain ⟨o2, hq3, hf⟩ := xbind hf
    obtain ⟨hPc, hDc, hFc⟩ := xcut (wc := [(a0, .inr (2, [.ref a1, .int v1, .int v2])), (a1, .inl (cT 2, 4096, .inr (.inl f0))), (a4, .inr (2, [.ref a5, .int v7, .int v8])), (a5, .inl (cT 2, 4096, .inr (.inl f6)))]) hP hD hS hA [0, 1, 4, 5] rfl rfl (by decide)
    refine va_calli (va_runS (As := [.ref a0, .ref a0, .ref a4]) (rest := []) ⟨hx, hb, hml, hown, htx⟩ (gH_hasa l hl9 D cT aK aV s.heap.size n a0 a1 a4 a5 f0 v1 v2 f6 v7 v8 o2 hq3) ⟨callB_of 3 htx (xw_goodC kw_4_149) rfl rfl rfl (htx _ kw_1_27) (htx _ kw_4_147) ⟨by decide, by decide, by decide +kernel⟩ ⟨Nat.le_of_ble_eq_true rfl, Nat.le_of_ble_eq_true rfl⟩, htx _ kw_4_148⟩ ⟨xPre_blind, (fun U hU hW => ⟨rfl, xPre_of hZ hS hFc hPc hDc hK U hU hW⟩)⟩ rfl rfl hl.1 rfl (lv_room (Nat.le_of_ble_eq_true rfl)) dH_apply_56 ⟨Nat.le_of_ble_eq_true rfl, Nat.le_of_ble_eq_true rfl⟩) hS (fun q _ h => hFc q h) hFc (fun r4 u9 t H1 locs ht hvm hr9 hB hz1 hk1 hS => ?_)
    obtain ⟨hP1, hK1, hD1⟩ := hB
    rw [ht] at hP1
    obtain ⟨hP, hD⟩ := xjoin (W := [(a2, .inr (1, [.ref a3, .int v4, .int v5])), (a3, .inl (cT 0, 4096, .inl f3)), (a0, .inr (2, [.ref a1, .int v1, .int v2])), (a1, .inl (cT 2, 4096, .inr (.inl f0))), (a4, .inr (2, [.ref a5, .int o2.2.2.1, .int o2.2.2.2])), (a5, .inl (cT 2, 4096, .inr (.inl o2.2.1)))]) hP hD [0, 1, 4, 5] [2, 3] 2 rfl rfl (by decide) (by decide) hk1 hFc hP1 hD1
    generalize H1 = H at hP hS ⊢
    rw [hr9]
    refine W.eq (g2 := F0 m 59 ls [.int o2.1]) rfl ?_
    obtain rfl := Option.some.inj hf
    obtain ⟨hP9, hD9⟩ := xsub (wc := [(a0, .inr (2, [.ref a1, .int v1, .int v2])), (a1, .inl (cT 2, 4096, .inr (.inl f0))), (a2, .inr (1, [.ref a3, .int v4, .int v5])), (a3, .inl (cT 0, 4096, .inl f3)), (a4, .inr (2, [.ref a5, .int o2.2.2.1, .int o2.2.2.2])), (a5, .inl (cT 2, 4096, .inr (.inl o2.2.1)))]) hP hD [2, 3, 0, 1, 4, 5] rfl rfl (by decide)
    exact W.iret (v := o2.1) hx hb hr (fun t ht hW => ⟨⟨o2.1, (), rfl, rfl, by rw [ht]; exact hP9, va_K.moved hW.alike hK, hD9⟩, hS.F ht⟩) hS.2.2 dH_apply_59
  rw [if_neg hc1] at hf
  by_cases hc5 : x0 = 1
  · rw [if_pos hc5] at hf
    refine lv_tableIn (off := 59) (tgt := 60) hx hb dH_apply_1 (by rw [hc5]; decide) (by rw [hc5]; decide) (by rw [hc5]; decide) (by decide) ?_
    refine lv_aload_n hx hb dH_apply_60 rfl (lv_at hl 1 rfl) ?_
    refine lv_aload_n hx hb dH_apply_61 rfl (lv_at hl 2 rfl) ?_
    refine lv_aload hx hb dH_apply_62 (lv_at hl 4 rfl) ?_
    obtain ⟨o6, hq7, hf⟩ := xbind hf
    obtain ⟨hPc, hDc, hFc⟩ := xcut (wc := [(a0, .inr (2, [.ref a1, .int v1, .int v2])), (a1, .inl (cT 2, 4096, .inr (.inl f0))), (a4, .inr (2, [.ref a5, .int v7, .int v8])), (a5, .inl (cT 2, 4096, .inr (.inl f6)))]) hP hD hS hA [0, 1, 4, 5] rfl rfl (by decide)
    refine va_calli (va_runS (As := [.ref a0, .ref a0, .ref a4]) (rest := []) ⟨hx, hb, hml, hown, htx⟩ (gH_containsa l hl9 D cT aK aV s.heap.size d n a0 a1 a4 a5 f0 v1 v2 f6 v7 v8 o6 hq7) ⟨callB_of 3 htx (xw_goodC kw_4_160) rfl rfl rfl (htx _ kw_1_27) (htx _ kw_4_158) ⟨by decide, by decide, by decide +kernel⟩ ⟨(by show (16 * d + 3) + 1 ≤ 16 * d + 6; omega), (by show 8 + (3 + 11) + (400 * d + 64) ≤ 400 * d + 176; omega)⟩, htx _ kw_4_159⟩ ⟨xPre_blind, (fun U hU hW => ⟨rfl, xPre_of hZ hS hFc hPc hDc hK U hU hW⟩)⟩ rfl rfl hl.1 rfl (lv_room (Nat.le_of_ble_eq_true rfl)) dH_apply_64 ⟨Nat.le_of_ble_eq_true rfl, Nat.le_of_ble_eq_true rfl⟩) hS (fun q _ h => hFc q h) hFc (fun r8 u9 t H1 locs ht hvm hr9 hB hz1 hk1 hS => ?_)
    obtain ⟨hP1, hK1, hD1⟩ := hB
    rw [ht] at hP1
    obtain ⟨hP, hD⟩ := xjoin (W := [(a2, .inr (1, [.ref a3, .int v4, .int v5])), (a3, .inl (cT 0, 4096, .inl f3)), (a0, .inr (2, [.ref a1, .int v1, .int v2])), (a1, .inl (cT 2, 4096, .inr (.inl f0))), (a4, .inr (2, [.ref a5, .int o6.2.2.1, .int o6.2.2.2])), (a5, .inl (cT 2, 4096, .inr (.inl o6.2.1)))]) hP hD [0, 1, 4, 5] [2, 3] 2 rfl rfl (by decide) (by decide) hk1 hFc hP1 hD1
    generalize H1 = H at hP hS ⊢
    rw [hr9]
    refine W.eq (g2 := F0 m 67 ls [.int o6.1]) rfl ?_
    obtain rfl := Option.some.inj hf
    obtain ⟨hP9, hD9⟩ := xsub (wc := [(a0, .inr (2, [.ref a1, .int v1, .int v2])), (a1, .inl (cT 2, 4096, .inr (.inl f0))), (a2, .inr (1, [.ref a3, .int v4, .int v5])), (a3, .inl (cT 0, 4096, .inl f3)), (a4, .inr (2, [.ref a5, .int o6.2.2.1, .int o6.2.2.2])), (a5, .inl (cT 2, 4096, .inr (.inl o6.2.1)))]) hP hD [2, 3, 0, 1, 4, 5] rfl rfl (by decide)
    exact W.iret (v := o6.1) hx hb hr (fun t ht hW => ⟨⟨o6.1, (), rfl, rfl, by rw [ht]; exact hP9, va_K.moved hW.alike hK, hD9⟩, hS.F ht⟩) hS.2.2 dH_apply_67
  rw [if_neg hc5] at hf
  by_cases hc9 : x0 = 2
  · rw [if_pos hc9] at hf
    refine lv_tableIn (off := 67) (tgt := 68) hx hb dH_apply_1 (by rw [hc9]; decide) (by rw [hc9]; decide) (by rw [hc9]; decide) (by decide) ?_
    refine lv_aload_n hx hb dH_apply_68 rfl (lv_at hl 1 rfl) ?_
    refine lv_aload_n hx hb dH_apply_69 rfl (lv_at hl 2 rfl) ?_
    refine lv_aload_n hx hb dH_apply_70 rfl (lv_at hl 3 rfl) ?_
    refine lv_aload hx hb dH_apply_71 (lv_at hl 4 rfl) ?_
    obtain ⟨o10, hq11, hf⟩ := xbind hf
    obtain ⟨hPc, hDc, hFc⟩ := xcut (wc := [(a0, .inr (2, [.ref a1, .int v1, .int v2])), (a1, .inl (cT 2, 4096, .inr (.inl f0))), (a2, .inr (1, [.ref a3, .int v4, .int v5])), (a3, .inl (cT 0, 4096, .inl f3)), (a4, .inr (2, [.ref a5, .int v7, .int v8])), (a5, .inl (cT 2, 4096, .inr (.inl f6)))]) hP hD hS hA [0, 1, 2, 3, 4, 5] rfl rfl (by decide)
    refine va_calli (va_runS (As := [.ref a0, .ref a0, .ref a2, .ref a4]) (rest := []) ⟨hx, hb, hml, hown, htx⟩ (gH_joineda l hl9 D cT aK aV s.heap.size d n a0 a1 a2 a3 a4 a5 f0 v1 v2 f3 v4 v5 f6 v7 v8 o10 hq11) ⟨callB_of 4 htx (xw_goodC kw_4_188) rfl rfl rfl (htx _ kw_1_27) (htx _ kw_4_186) ⟨by decide, by decide, by decide +kernel⟩ ⟨(by show (16 * d + 3) + 1 ≤ 16 * d + 6; omega), (by show 8 + (6 + 11) + (400 * d + 68) ≤ 400 * d + 176; omega)⟩, htx _ kw_4_187⟩ ⟨xPre_blind, (fun U hU hW => ⟨rfl, xPre_of hZ hS hFc hPc hDc hK U hU hW⟩)⟩ rfl rfl hl.1 rfl (lv_room (Nat.le_of_ble_eq_true rfl)) dH_apply_73 ⟨Nat.le_of_ble_eq_true rfl, Nat.le_of_ble_eq_true rfl⟩) hS (fun q _ h => hFc q h) hFc (fun r12 u9 t H1 locs ht hvm hr9 hB hz1 hk1 hS => ?_)
    obtain ⟨hP1, hK1, hD1⟩ := hB
    rw [ht] at hP1
    obtain ⟨hP, hD⟩ := xjoin (W := [(a0, .inr (2, [.ref a1, .int v1, .int v2])), (a1, .inl (cT 2, 4096, .inr (.inl f0))), (a2, .inr (1, [.ref a3, .int o10.2.2.1, .int o10.2.2.2.1])), (a3, .inl (cT 0, 4096, .inl o10.2.1)), (a4, .inr (2, [.ref a5, .int o10.2.2.2.2.2.1, .int o10.2.2.2.2.2.2])), (a5, .inl (cT 2, 4096, .inr (.inl o10.2.2.2.2.1)))]) hP hD [0, 1, 2, 3, 4, 5] [] 0 rfl rfl (by decide) (by decide) hk1 hFc hP1 hD1
    generalize H1 = H at hP hS ⊢
    rw [hr9]
    refine W.eq (g2 := F0 m 76 ls [.int o10.1]) rfl ?_
    obtain rfl := Option.some.inj hf
    obtain ⟨hP9, hD9⟩ := xsub (wc := [(a0, .inr (2, [.ref a1, .int v1, .int v2])), (a1, .inl (cT 2, 4096, .inr (.inl f0))), (a2, .inr (1, [.ref a3, .int o10.2.2.1, .int o10.2.2.2.1])), (a3, .inl (cT 0, 4096, .inl o10.2.1)), (a4, .inr (2, [.ref a5, .int o10.2.2.2.2.2.1, .int o10.2.2.2.2.2.2])), (a5, .inl (cT 2, 4096, .inr (.inl o10.2.2.2.2.1)))]) hP hD [0, 1, 2, 3, 4, 5] rfl rfl (by decide)
    exact W.iret (v := o10.1) hx hb hr (fun t ht hW => ⟨⟨o10.1, (), rfl, rfl, by rw [ht]; exact hP9, va_K.moved hW.alike hK, hD9⟩, hS.F ht⟩) hS.2.2 dH_apply_76
  rw [if_neg hc9] at hf
  by_cases hc13 : x0 = 3
  · rw [if_pos hc13] at hf
    refine lv_tableIn (off := 76) (tgt := 77) hx hb dH_apply_1 (by rw [hc13]; decide) (by rw [hc13]; decide) (by rw [hc13]; decide) (by decide) ?_
    refine lv_aload_n hx hb dH_apply_77 rfl (lv_at hl 1 rfl) ?_
    refine lv_aload_n hx hb dH_apply_78 rfl (lv_at hl 2 rfl) ?_
    refine lv_aload hx hb dH_apply_79 (lv_at hl 4 rfl) ?_
    obtain ⟨o14, hq15, hf⟩ := xbind hf
    obtain ⟨hPc, hDc, hFc⟩ := xcut (wc := [(a0, .inr (2, [.ref a1, .int v1, .int v2])), (a1, .inl (cT 2, 4096, .inr (.inl f0))), (a4, .inr (2, [.ref a5, .int v7, .int v8])), (a5, .inl (cT 2, 4096, .inr (.inl f6)))]) hP hD hS hA [0, 1, 4, 5] rfl rfl (by decide)
    refine va_calli (va_runS (As := [.ref a0, .ref a0, .ref a4]) (rest := []) ⟨hx, hb, hml, hown, htx⟩ (gH_withoutBeginninga l hl9 D cT aK aV s.heap.size n a0 a1 a4 a5 f0 v1 v2 f6 v7 v8 o14 hq15) ⟨callB_of 3 htx (xw_goodC kw_4_198) rfl rfl rfl (htx _ kw_1_27) (htx _ kw_4_196) ⟨by decide, by decide, by decide +kernel⟩ ⟨Nat.le_of_ble_eq_true rfl, Nat.le_of_ble_eq_true rfl⟩, htx _ kw_4_197⟩ ⟨xPre_blind, (fun U hU hW => ⟨rfl, xPre_of hZ hS hFc hPc hDc hK U hU hW⟩)⟩ rfl rfl hl.1 rfl (lv_room (Nat.le_of_ble_eq_true rfl)) dH_apply_81 ⟨Nat.le_of_ble_eq_true rfl, Nat.le_of_ble_eq_true rfl⟩) hS (fun q _ h => hFc q h) hFc (fun r16 u9 t H1 locs ht hvm hr9 hB hz1 hk1 hS => ?_)
    obtain ⟨hP1, hK1, hD1⟩ := hB
    rw [ht] at hP1
    obtain ⟨hP, hD⟩ := xjoin (W := [(a2, .inr (1, [.ref a3, .int v4, .int v5])), (a3, .inl (cT 0, 4096, .inl f3)), (a0, .inr (2, [.ref a1, .int v1, .int v2])), (a1, .inl (cT 2, 4096, .inr (.inl f0))), (a4, .inr (2, [.ref a5, .int o14.2.2.1, .int o14.2.2.2])), (a5, .inl (cT 2, 4096, .inr (.inl o14.2.1)))]) hP hD [0, 1, 4, 5] [2, 3] 2 rfl rfl (by decide) (by decide) hk1 hFc hP1 hD1
    generalize H1 = H at hP hS ⊢
    rw [hr9]
    refine W.eq (g2 := F0 m 84 ls [.int o14.1]) rfl ?_
    obtain rfl := Option.some.inj hf
    obtain ⟨hP9, hD9⟩ := xsub (wc := [(a0, .inr (2, [.ref a1, .int v1, .int v2])), (a1, .inl (cT 2, 4096, .inr (.inl f0))), (a2, .inr (1, [.ref a3, .int v4, .int v5])), (a3, .inl (cT 0, 4096, .inl f3)), (a4, .inr (2, [.ref a5, .int o14.2.2.1, .int o14.2.2.2])), (a5, .inl (cT 2, 4096, .inr (.inl o14.2.1)))]) hP hD [2, 3, 0, 1, 4, 5] rfl rfl (by decide)
    exact W.iret (v := o14.1) hx hb hr (fun t ht hW => ⟨⟨o14.1, (), rfl, rfl, by rw [ht]; exact hP9, va_K.moved hW.alike hK, hD9⟩, hS.F ht⟩) hS.2.2 dH_apply_84
  rw [if_neg hc13] at hf
  by_cases hc17 : x0 = 4
  · rw [if_pos hc17] at hf
    refine lv_tableIn (off := 84) (tgt := 85) hx hb dH_apply_1 (by rw [hc17]; decide) (by rw [hc17]; decide) (by rw [hc17]; decide) (by decide) ?_
    refine lv_aload_n hx hb dH_apply_85 rfl (lv_at hl 1 rfl) ?_
    refine lv_aload_n hx hb dH_apply_86 rfl (lv_at hl 2 rfl) ?_
    refine lv_aload hx hb dH_apply_87 (lv_at hl 4 rfl) ?_
    obtain ⟨o18, hq19, hf⟩ := xbind hf
    obtain ⟨hPc, hDc, hFc⟩ := xcut (wc := [(a0, .inr (2, [.ref a1, .int v1, .int v2])), (a1, .inl (cT 2, 4096, .inr (.inl f0))), (a4, .inr (2, [.ref a5, .int v7, .int v8])), (a5, .inl (cT 2, 4096, .inr (.inl f6)))]) hP hD hS hA [0, 1, 4, 5] rfl rfl (by decide)
    refine va_calli (va_runS (As := [.ref a0, .ref a0, .ref a4]) (rest := []) ⟨hx, hb, hml, hown, htx⟩ (gH_withoutEnda l hl9 D cT aK aV s.heap.size n a0 a1 a4 a5 f0 v1 v2 f6 v7 v8 o18 hq19) ⟨callB_of 3 htx (xw_goodC kw_4_212) rfl rfl rfl (htx _ kw_1_27) (htx _ kw_4_210) ⟨by decide, by decide, by decide +kernel⟩ ⟨Nat.le_of_ble_eq_true rfl, Nat.le_of_ble_eq_true rfl⟩, htx _ kw_4_211⟩ ⟨xPre_blind, (fun U hU hW => ⟨rfl, xPre_of hZ hS hFc hPc hDc hK U hU hW⟩)⟩ rfl rfl hl.1 rfl (lv_room (Nat.le_of_ble_eq_true rfl)) dH_apply_89 ⟨Nat.le_of_ble_eq_true rfl, Nat.le_of_ble_eq_true rfl⟩) hS (fun q _ h => hFc q h) hFc (fun r20 u9 t H1 locs ht hvm hr9 hB hz1 hk1 hS => ?_)
    obtain ⟨hP1, hK1, hD1⟩ := hB
    rw [ht] at hP1
    obtain ⟨hP, hD⟩ := xjoin (W := [(a2, .inr (1, [.ref a3, .int v4, .int v5])), (a3, .inl (cT 0, 4096, .inl f3)), (a0, .inr (2, [.ref a1, .int v1, .int v2])), (a1, .inl (cT 2, 4096, .inr (.inl f0))), (a4, .inr (2, [.ref a5, .int o18.2.2.1, .int o18.2.2.2])), (a5, .inl (cT 2, 4096, .inr (.inl o18.2.1)))]) hP hD [0, 1, 4, 5] [2, 3] 2 rfl rfl (by decide) (by decide) hk1 hFc hP1 hD1
    generalize H1 = H at hP hS ⊢
    rw [hr9]
    refine W.eq (g2 := F0 m 92 ls [.int o18.1]) rfl ?_
    obtain rfl := Option.some.inj hf
    obtain ⟨hP9, hD9⟩ := xsub (wc := [(a0, .inr (2, [.ref a1, .int v1, .int v2])), (a1, .inl (cT 2, 4096, .inr (.inl f0))), (a2, .inr (1, [.ref a3, .int v4, .int v5])), (a3, .inl (cT 0, 4096, .inl f3)), (a4, .inr (2, [.ref a5, .int o18.2.2.1, .int o18.2.2.2])), (a5, .inl (cT 2, 4096, .inr (.inl o18.2.1)))]) hP hD [2, 3, 0, 1, 4, 5] rfl rfl (by decide)
    exact W.iret (v := o18.1) hx hb hr (fun t ht hW => ⟨⟨o18.1, (), rfl, rfl, by rw [ht]; exact hP9, va_K.moved hW.alike hK, hD9⟩, hS.F ht⟩) hS.2.2 dH_apply_92
  rw [if_neg hc17] at hf
  by_cases hc21 : x0 = 5
  · rw [if_pos hc21] at hf
    refine lv_tableIn (off := 92) (tgt := 93) hx hb dH_apply_1 (by rw [hc21]; decide) (by rw [hc21]; decide) (by rw [hc21]; decide) (by decide) ?_
    refine lv_aload_n hx hb dH_apply_93 rfl (lv_at hl 1 rfl) ?_
    refine lv_aload_n hx hb dH_apply_94 rfl (lv_at hl 2 rfl) ?_
    obtain ⟨o22, hq23, hf⟩ := xbind hf
    obtain ⟨hPc, hDc, hFc⟩ := xcut (wc := [(a0, .inr (2, [.ref a1, .int v1, .int v2])), (a1, .inl (cT 2, 4096, .inr (.inl f0)))]) hP hD hS hA [0, 1] rfl rfl (by decide)
    refine va_calli (va_runS (As := [.ref a0, .ref a0]) (rest := []) ⟨hx, hb, hml, hown, htx⟩ (gH_areStringsa l hl9 D cT aK aV s.heap.size n a0 a1 f0 v1 v2 o22 hq23) ⟨callB_of 2 htx (xw_goodC kw_4_201) rfl rfl rfl (htx _ kw_1_27) (htx _ kw_4_199) ⟨by decide, by decide, by decide +kernel⟩ ⟨Nat.le_of_ble_eq_true rfl, Nat.le_of_ble_eq_true rfl⟩, htx _ kw_4_200⟩ ⟨xPre_blind, (fun U hU hW => ⟨rfl, xPre_of hZ hS hFc hPc hDc hK U hU hW⟩)⟩ rfl rfl hl.1 rfl (lv_room (Nat.le_of_ble_eq_true rfl)) dH_apply_95 ⟨Nat.le_of_ble_eq_true rfl, Nat.le_of_ble_eq_true rfl⟩) hS (fun q _ h => hFc q h) hFc (fun r24 u9 t H1 locs ht hvm hr9 hB hz1 hk1 hS => ?_)
    obtain ⟨hP1, hK1, hD1⟩ := hB
    rw [ht] at hP1
    obtain ⟨hP, hD⟩ := xjoin (W := [(a2, .inr (1, [.ref a3, .int v4, .int v5])), (a3, .inl (cT 0, 4096, .inl f3)), (a4, .inr (2, [.ref a5, .int v7, .int v8])), (a5, .inl (cT 2, 4096, .inr (.inl f6))), (a0, .inr (2, [.ref a1, .int v1, .int v2])), (a1, .inl (cT 2, 4096, .inr (.inl f0)))]) hP hD [0, 1] [2, 3, 4, 5] 4 rfl rfl (by decide) (by decide) hk1 hFc hP1 hD1
    generalize H1 = H at hP hS ⊢
    rw [hr9]
    refine W.eq (g2 := F0 m 98 ls [.int o22]) rfl ?_
    refine lv_if_eq (tgt := 114) hx hb dH_apply_98 (by decide) (fun hc => ?_) (fun hc => ?_)
    · rw [if_pos hc] at hf
      refine lv_iconst (v := 1) hx hb dH_apply_114 (by decide) ?_
      obtain rfl := Option.some.inj hf
      obtain ⟨hP9, hD9⟩ := xsub (wc := [(a0, .inr (2, [.ref a1, .int v1, .int v2])), (a1, .inl (cT 2, 4096, .inr (.inl f0))), (a2, .inr (1, [.ref a3, .int v4, .int v5])), (a3, .inl (cT 0, 4096, .inl f3)), (a4, .inr (2, [.ref a5, .int v7, .int v8])), (a5, .inl (cT 2, 4096, .inr (.inl f6)))]) hP hD [4, 5, 0, 1, 2, 3] rfl rfl (by decide)
      exact W.iret (v := (1 : Int32)) hx hb hr (fun t ht hW => ⟨⟨(1 : Int32), (), rfl, rfl, by rw [ht]; exact hP9, va_K.moved hW.alike hK, hD9⟩, hS.F ht⟩) hS.2.2 dH_apply_115
    · rw [if_neg hc] at hf
      refine lv_aload_n hx hb dH_apply_101 rfl (lv_at hl 1 rfl) ?_
      refine lv_aload_n hx hb dH_apply_102 rfl (lv_at hl 2 rfl) ?_
      obtain ⟨o25, hq26, hf⟩ := xbind hf
      obtain ⟨hPc, hDc, hFc⟩ := xcut (wc := [(a0, .inr (2, [.ref a1, .int v1, .int v2])), (a1, .inl (cT 2, 4096, .inr (.inl f0)))]) hP hD hS hA [4, 5] rfl rfl (by decide)
      refine va_calli (va_runS (As := [.ref a0, .ref a0]) (rest := []) ⟨hx, hb, hml, hown, htx⟩ (gH_beginsa l hl9 D cT aK aV H.size n a0 a1 f0 v1 v2 o25 hq26) ⟨callB_of 2 htx (xw_goodC kw_4_204) rfl rfl rfl (htx _ kw_1_27) (htx _ kw_4_202) ⟨by decide, by decide, by decide +kernel⟩ ⟨Nat.le_of_ble_eq_true rfl, Nat.le_of_ble_eq_true rfl⟩, htx _ kw_4_203⟩ ⟨xPre_blind, (fun U hU hW => ⟨rfl, xPre_of hZ hS hFc hPc hDc hK U hU hW⟩)⟩ rfl rfl hl.1 rfl (lv_room (Nat.le_of_ble_eq_true rfl)) dH_apply_103 ⟨Nat.le_of_ble_eq_true rfl, Nat.le_of_ble_eq_true rfl⟩) hS (fun q _ h => hFc q h) hFc (fun r27 u9 t H1 locs ht hvm hr9 hB hz1 hk1 hS => ?_)
      obtain ⟨hP1, hK1, hD1⟩ := hB
      rw [ht] at hP1
      obtain ⟨hP, hD⟩ := xjoin (W := [(a2, .inr (1, [.ref a3, .int v4, .int v5])), (a3, .inl (cT 0, 4096, .inl f3)), (a4, .inr (2, [.ref a5, .int v7, .int v8])), (a5, .inl (cT 2, 4096, .inr (.inl f6))), (a0, .inr (2, [.ref a1, .int v1, .int v2])), (a1, .inl (cT 2, 4096, .inr (.inl f0)))]) hP hD [4, 5] [0, 1, 2, 3] 4 rfl rfl (by decide) (by decide) hk1 hFc hP1 hD1
      generalize H1 = H at hP hS ⊢
      rw [hr9]
      refine W.eq (g2 := F0 m 106 ls [.int o25]) rfl ?_
      refine lv_aload hx hb dH_apply_106 (lv_at hl 4 rfl) ?_
      obtain ⟨o28, hq29, hf⟩ := xbind hf
      obtain ⟨hPc, hDc, hFc⟩ := xcut (wc := [(a4, .inr (2, [.ref a5, .int v7, .int v8])), (a5, .inl (cT 2, 4096, .inr (.inl f6)))]) hP hD hS hA [2, 3] rfl rfl (by decide)
      refine va_calli (va_runS (As := [.int o25, .ref a4]) (rest := []) ⟨hx, hb, hml, hown, htx⟩ (gH_truth l hl9 D cT aK aV H.size n a4 a5 o25 f6 v7 v8 o28 hq29) ⟨callB_of 2 htx (xw_goodC kw_4_154) rfl rfl rfl (htx _ kw_1_27) (htx _ kw_4_152) ⟨by decide, by decide, by decide +kernel⟩ ⟨Nat.le_of_ble_eq_true rfl, Nat.le_of_ble_eq_true rfl⟩, htx _ kw_4_153⟩ ⟨xPre_blind, (fun U hU hW => ⟨rfl, xPre_of hZ hS hFc hPc hDc hK U hU hW⟩)⟩ rfl rfl hl.1 rfl (lv_room (Nat.le_of_ble_eq_true rfl)) dH_apply_108 ⟨Nat.le_of_ble_eq_true rfl, Nat.le_of_ble_eq_true rfl⟩) hS (fun q _ h => hFc q h) hFc (fun r30 u9 t H1 locs ht hvm hr9 hB hz1 hk1 hS => ?_)
      obtain ⟨hP1, hK1, hD1⟩ := hB
      rw [ht] at hP1
      obtain ⟨hP, hD⟩ := xjoin (W := [(a2, .inr (1, [.ref a3, .int v4, .int v5])), (a3, .inl (cT 0, 4096, .inl f3)), (a0, .inr (2, [.ref a1, .int v1, .int v2])), (a1, .inl (cT 2, 4096, .inr (.inl f0))), (a4, .inr (2, [.ref a5, .int o28.2.2.1, .int o28.2.2.2])), (a5, .inl (cT 2, 4096, .inr (.inl o28.2.1)))]) hP hD [2, 3] [0, 1, 4, 5] 4 rfl rfl (by decide) (by decide) hk1 hFc hP1 hD1
      generalize H1 = H at hP hS ⊢
      rw [hr9]
      refine W.eq (g2 := F0 m 111 ls [.int o28.1]) rfl ?_
      refine lv_goto (tgt := 115) hx hb dH_apply_111 (by decide) ?_
      obtain rfl := Option.some.inj hf
      obtain ⟨hP9, hD9⟩ := xsub (wc := [(a0, .inr (2, [.ref a1, .int v1, .int v2])), (a1, .inl (cT 2, 4096, .inr (.inl f0))), (a2, .inr (1, [.ref a3, .int v4, .int v5])), (a3, .inl (cT 0, 4096, .inl f3)), (a4, .inr (2, [.ref a5, .int o28.2.2.1, .int o28.2.2.2])), (a5, .inl (cT 2, 4096, .inr (.inl o28.2.1)))]) hP hD [2, 3, 0, 1, 4, 5] rfl rfl (by decide)
      exact W.iret (v := o28.1) hx hb hr (fun t ht hW => ⟨⟨o28.1, (), rfl, rfl, by rw [ht]; exact hP9, va_K.moved hW.alike hK, hD9⟩, hS.F ht⟩) hS.2.2 dH_apply_115
  rw [if_neg hc21] at hf
  by_cases hc25 : x0 = 6
  · rw [if_pos hc25] at hf
    refine lv_tableIn (off := 115) (tgt := 116) hx hb dH_apply_1 (by rw [hc25]; decide) (by rw [hc25]; decide) (by rw [hc25]; decide) (by decide) ?_
    refine lv_aload_n hx hb dH_apply_116 rfl (lv_at hl 1 rfl) ?_
    refine lv_aload_n hx hb dH_apply_117 rfl (lv_at hl 2 rfl) ?_
    obtain ⟨o26, hq27, hf⟩ := xbind hf
    obtain ⟨hPc, hDc, hFc⟩ := xcut (wc := [(a0, .inr (2, [.ref a1, .int v1, .int v2])), (a1, .inl (cT 2, 4096, .inr (.inl f0)))]) hP hD hS hA [0, 1] rfl rfl (by decide)
    refine va_calli (va_runS (As := [.ref a0, .ref a0]) (rest := []) ⟨hx, hb, hml, hown, htx⟩ (gH_areStringsa l hl9 D cT aK aV s.heap.size n a0 a1 f0 v1 v2 o26 hq27) ⟨callB_of 2 htx (xw_goodC kw_4_201) rfl rfl rfl (htx _ kw_1_27) (htx _ kw_4_199) ⟨by decide, by decide, by decide +kernel⟩ ⟨Nat.le_of_ble_eq_true rfl, Nat.le_of_ble_eq_true rfl⟩, htx _ kw_4_200⟩ ⟨xPre_blind, (fun U hU hW => ⟨rfl, xPre_of hZ hS hFc hPc hDc hK U hU hW⟩)⟩ rfl rfl hl.1 rfl (lv_room (Nat.le_of_ble_eq_true rfl)) dH_apply_118 ⟨Nat.le_of_ble_eq_true rfl, Nat.le_of_ble_eq_true rfl⟩) hS (fun q _ h => hFc q h) hFc (fun r28 u9 t H1 locs ht hvm hr9 hB hz1 hk1 hS => ?_)
    obtain ⟨hP1, hK1, hD1⟩ := hB
    rw [ht] at hP1
    obtain ⟨hP, hD⟩ := xjoin (W := [(a2, .inr (1, [.ref a3, .int v4, .int v5])), (a3, .inl (cT 0, 4096, .inl f3)), (a4, .inr (2, [.ref a5, .int v7, .int v8])), (a5, .inl (cT 2, 4096, .inr (.inl f6))), (a0, .inr (2, [.ref a1, .int v1, .int v2])), (a1, .inl (cT 2, 4096, .inr (.inl f0)))]) hP hD [0, 1] [2, 3, 4, 5] 4 rfl rfl (by decide) (by decide) hk1 hFc hP1 hD1
    generalize H1 = H at hP hS ⊢
    rw [hr9]
    refine W.eq (g2 := F0 m 121 ls [.int o26]) rfl ?_
    refine lv_if_eq (tgt := 137) hx hb dH_apply_121 (by decide) (fun hc => ?_) (fun hc => ?_)
    · rw [if_pos hc] at hf
      refine lv_iconst (v := 1) hx hb dH_apply_137 (by decide) ?_
      obtain rfl := Option.some.inj hf
      obtain ⟨hP9, hD9⟩ := xsub (wc := [(a0, .inr (2, [.ref a1, .int v1, .int v2])), (a1, .inl (cT 2, 4096, .inr (.inl f0))), (a2, .inr (1, [.ref a3, .int v4, .int v5])), (a3, .inl (cT 0, 4096, .inl f3)), (a4, .inr (2, [.ref a5, .int v7, .int v8])), (a5, .inl (cT 2, 4096, .inr (.inl f6)))]) hP hD [4, 5, 0, 1, 2, 3] rfl rfl (by decide)
      exact W.iret (v := (1 : Int32)) hx hb hr (fun t ht hW => ⟨⟨(1 : Int32), (), rfl, rfl, by rw [ht]; exact hP9, va_K.moved hW.alike hK, hD9⟩, hS.F ht⟩) hS.2.2 dH_apply_138
    · rw [if_neg hc] at hf
      refine lv_aload_n hx hb dH_apply_124 rfl (lv_at hl 1 rfl) ?_
      refine lv_aload_n hx hb dH_apply_125 rfl (lv_at hl 2 rfl) ?_
      obtain ⟨o29, hq30, hf⟩ := xbind hf
      obtain ⟨hPc, hDc, hFc⟩ := xcut (wc := [(a0, .inr (2, [.ref a1, .int v1, .int v2])), (a1, .inl (cT 2, 4096, .inr (.inl f0)))]) hP hD hS hA [4, 5] rfl rfl (by decide)
      refine va_calli (va_runS (As := [.ref a0, .ref a0]) (rest := []) ⟨hx, hb, hml, hown, htx⟩ (gH_endsa l hl9 D cT aK aV H.size n a0 a1 f0 v1 v2 o29 hq30) ⟨callB_of 2 htx (xw_goodC kw_4_215) rfl rfl rfl (htx _ kw_1_27) (htx _ kw_4_213) ⟨by decide, by decide, by decide +kernel⟩ ⟨Nat.le_of_ble_eq_true rfl, Nat.le_of_ble_eq_true rfl⟩, htx _ kw_4_214⟩ ⟨xPre_blind, (fun U hU hW => ⟨rfl, xPre_of hZ hS hFc hPc hDc hK U hU hW⟩)⟩ rfl rfl hl.1 rfl (lv_room (Nat.le_of_ble_eq_true rfl)) dH_apply_126 ⟨Nat.le_of_ble_eq_true rfl, Nat.le_of_ble_eq_true rfl⟩) hS (fun q _ h => hFc q h) hFc (fun r31 u9 t H1 locs ht hvm hr9 hB hz1 hk1 hS => ?_)
      obtain ⟨hP1, hK1, hD1⟩ := hB
      rw [ht] at hP1
      obtain ⟨hP, hD⟩ := xjoin (W := [(a2, .inr (1, [.ref a3, .int v4, .int v5])), (a3, .inl (cT 0, 4096, .inl f3)), (a4, .inr (2, [.ref a5, .int v7, .int v8])), (a5, .inl (cT 2, 4096, .inr (.inl f6))), (a0, .inr (2, [.ref a1, .int v1, .int v2])), (a1, .inl (cT 2, 4096, .inr (.inl f0)))]) hP hD [4, 5] [0, 1, 2, 3] 4 rfl rfl (by decide) (by decide) hk1 hFc hP1 hD1
      generalize H1 = H at hP hS ⊢
      rw [hr9]
      refine W.eq (g2 := F0 m 129 ls [.int o29]) rfl ?_
      refine lv_aload hx hb dH_apply_129 (lv_at hl 4 rfl) ?_
      obtain ⟨o32, hq33, hf⟩ := xbind hf
      obtain ⟨hPc, hDc, hFc⟩ := xcut (wc := [(a4, .inr (2, [.ref a5, .int v7, .int v8])), (a5, .inl (cT 2, 4096, .inr (.inl f6)))]) hP hD hS hA [2, 3] rfl rfl (by decide)
      refine va_calli (va_runS (As := [.int o29, .ref a4]) (rest := []) ⟨hx, hb, hml, hown, htx⟩ (gH_truth l hl9 D cT aK aV H.size n a4 a5 o29 f6 v7 v8 o32 hq33) ⟨callB_of 2 htx (xw_goodC kw_4_154) rfl rfl rfl (htx _ kw_1_27) (htx _ kw_4_152) ⟨by decide, by decide, by decide +kernel⟩ ⟨Nat.le_of_ble_eq_true rfl, Nat.le_of_ble_eq_true rfl⟩, htx _ kw_4_153⟩ ⟨xPre_blind, (fun U hU hW => ⟨rfl, xPre_of hZ hS hFc hPc hDc hK U hU hW⟩)⟩ rfl rfl hl.1 rfl (lv_room (Nat.le_of_ble_eq_true rfl)) dH_apply_131 ⟨Nat.le_of_ble_eq_true rfl, Nat.le_of_ble_eq_true rfl⟩) hS (fun q _ h => hFc q h) hFc (fun r34 u9 t H1 locs ht hvm hr9 hB hz1 hk1 hS => ?_)
      obtain ⟨hP1, hK1, hD1⟩ := hB
      rw [ht] at hP1
      obtain ⟨hP, hD⟩ := xjoin (W := [(a2, .inr (1, [.ref a3, .int v4, .int v5])), (a3, .inl (cT 0, 4096, .inl f3)), (a0, .inr (2, [.ref a1, .int v1, .int v2])), (a1, .inl (cT 2, 4096, .inr (.inl f0))), (a4, .inr (2, [.ref a5, .int o32.2.2.1, .int o32.2.2.2])), (a5, .inl (cT 2, 4096, .inr (.inl o32.2.1)))]) hP hD [2, 3] [0, 1, 4, 5] 4 rfl rfl (by decide) (by decide) hk1 hFc hP1 hD1
      generalize H1 = H at hP hS ⊢
      rw [hr9]
      refine W.eq (g2 := F0 m 134 ls [.int o32.1]) rfl ?_
      refine lv_goto (tgt := 138) hx hb dH_apply_134 (by decide) ?_
      obtain rfl := Option.some.inj hf
      obtain ⟨hP9, hD9⟩ := xsub (wc := [(a0, .inr (2, [.ref a1, .int v1, .int v2])), (a1, .inl (cT 2, 4096, .inr (.inl f0))), (a2, .inr (1, [.ref a3, .int v4, .int v5])), (a3, .inl (cT 0, 4096, .inl f3)), (a4, .inr (2, [.ref a5, .int o32.2.2.1, .int o32.2.2.2])), (a5, .inl (cT 2, 4096, .inr (.inl o32.2.1)))]) hP hD [2, 3, 0, 1, 4, 5] rfl rfl (by decide)
      exact W.iret (v := o32.1) hx hb hr (fun t ht hW => ⟨⟨o32.1, (), rfl, rfl, by rw [ht]; exact hP9, va_K.moved hW.alike hK, hD9⟩, hS.F ht⟩) hS.2.2 dH_apply_138
  rw [if_neg hc25] at hf
  by_cases hc29 : x0 = 7
  · rw [if_pos hc29] at hf
    refine lv_tableIn (off := 138) (tgt := 139) hx hb dH_apply_1 (by rw [hc29]; decide) (by rw [hc29]; decide) (by rw [hc29]; decide) (by decide) ?_
    refine lv_aload_n hx hb dH_apply_139 rfl (lv_at hl 1 rfl) ?_
    refine lv_aload_n hx hb dH_apply_140 rfl (lv_at hl 2 rfl) ?_
    refine lv_aload hx hb dH_apply_141 (lv_at hl 4 rfl) ?_
    obtain ⟨o30, hq31, hf⟩ := xbind hf
    obtain ⟨hPc, hDc, hFc⟩ := xcut (wc := [(a0, .inr (2, [.ref a1, .int v1, .int v2])), (a1, .inl (cT 2, 4096, .inr (.inl f0))), (a4, .inr (2, [.ref a5, .int v7, .int v8])), (a5, .inl (cT 2, 4096, .inr (.inl f6)))]) hP hD hS hA [0, 1, 4, 5] rfl rfl (by decide)
    refine va_calli (va_runS (As := [.ref a0, .ref a0, .ref a4]) (rest := []) ⟨hx, hb, hml, hown, htx⟩ (gH_indicesa l hl9 D cT aK aV s.heap.size d n a0 a1 a4 a5 f0 v1 v2 f6 v7 v8 o30 hq31) ⟨callB_of 3 htx (xw_goodC kw_4_218) rfl rfl rfl (htx _ kw_1_27) (htx _ kw_4_216) ⟨by decide, by decide, by decide +kernel⟩ ⟨(by show (16 * d + 3) + 1 ≤ 16 * d + 6; omega), (by show 8 + (6 + 11) + (400 * d + 79) ≤ 400 * d + 176; omega)⟩, htx _ kw_4_217⟩ ⟨xPre_blind, (fun U hU hW => ⟨rfl, xPre_of hZ hS hFc hPc hDc hK U hU hW⟩)⟩ rfl rfl hl.1 rfl (lv_room (Nat.le_of_ble_eq_true rfl)) dH_apply_143 ⟨Nat.le_of_ble_eq_true rfl, Nat.le_of_ble_eq_true rfl⟩) hS (fun q _ h => hFc q h) hFc (fun r32 u9 t H1 locs ht hvm hr9 hB hz1 hk1 hS => ?_)
    obtain ⟨hP1, hK1, hD1⟩ := hB
    rw [ht] at hP1
    obtain ⟨hP, hD⟩ := xjoin (W := [(a2, .inr (1, [.ref a3, .int v4, .int v5])), (a3, .inl (cT 0, 4096, .inl f3)), (a0, .inr (2, [.ref a1, .int v1, .int v2])), (a1, .inl (cT 2, 4096, .inr (.inl f0))), (a4, .inr (2, [.ref a5, .int o30.2.2.1, .int o30.2.2.2])), (a5, .inl (cT 2, 4096, .inr (.inl o30.2.1)))]) hP hD [0, 1, 4, 5] [2, 3] 2 rfl rfl (by decide) (by decide) hk1 hFc hP1 hD1
    generalize H1 = H at hP hS ⊢
    rw [hr9]
    refine W.eq (g2 := F0 m 146 ls [.int o30.1]) rfl ?_
    obtain rfl := Option.some.inj hf
    obtain ⟨hP9, hD9⟩ := xsub (wc := [(a0, .inr (2, [.ref a1, .int v1, .int v2])), (a1, .inl (cT 2, 4096, .inr (.inl f0))), (a2, .inr (1, [.ref a3, .int v4, .int v5])), (a3, .inl (cT 0, 4096, .inl f3)), (a4, .inr (2, [.ref a5, .int o30.2.2.1, .int o30.2.2.2])), (a5, .inl (cT 2, 4096, .inr (.inl o30.2.1)))]) hP hD [2, 3, 0, 1, 4, 5] rfl rfl (by decide)
    exact W.iret (v := o30.1) hx hb hr (fun t ht hW => ⟨⟨o30.1, (), rfl, rfl, by rw [ht]; exact hP9, va_K.moved hW.alike hK, hD9⟩, hS.F ht⟩) hS.2.2 dH_apply_146
  rw [if_neg hc29] at hf
  by_cases hc33 : x0 = 8
  · rw [if_pos hc33] at hf
    refine lv_tableIn (off := 146) (tgt := 147) hx hb dH_apply_1 (by rw [hc33]; decide) (by rw [hc33]; decide) (by rw [hc33]; decide) (by decide) ?_
    refine lv_aload_n hx hb dH_apply_147 rfl (lv_at hl 1 rfl) ?_
    refine lv_aload_n hx hb dH_apply_148 rfl (lv_at hl 2 rfl) ?_
    refine lv_aload hx hb dH_apply_149 (lv_at hl 4 rfl) ?_
    obtain ⟨o34, hq35, hf⟩ := xbind hf
    obtain ⟨hPc, hDc, hFc⟩ := xcut (wc := [(a0, .inr (2, [.ref a1, .int v1, .int v2])), (a1, .inl (cT 2, 4096, .inr (.inl f0))), (a4, .inr (2, [.ref a5, .int v7, .int v8])), (a5, .inl (cT 2, 4096, .inr (.inl f6)))]) hP hD hS hA [0, 1, 4, 5] rfl rfl (by decide)
    refine va_calli (va_runS (As := [.ref a0, .ref a0, .ref a4]) (rest := []) ⟨hx, hb, hml, hown, htx⟩ (gH_flata l hl9 D cT aK aV s.heap.size d n a0 a1 a4 a5 f0 v1 v2 f6 v7 v8 o34 hq35) ⟨callB_of 3 htx (xw_goodC kw_4_238) rfl rfl rfl (htx _ kw_1_27) (htx _ kw_4_236) ⟨by decide, by decide, by decide +kernel⟩ ⟨(by show (16 * d + 2) + 1 ≤ 16 * d + 6; omega), (by show 8 + (5 + 11) + (400 * d + 43) ≤ 400 * d + 176; omega)⟩, htx _ kw_4_237⟩ ⟨xPre_blind, (fun U hU hW => ⟨rfl, xPre_of hZ hS hFc hPc hDc hK U hU hW⟩)⟩ rfl rfl hl.1 rfl (lv_room (Nat.le_of_ble_eq_true rfl)) dH_apply_151 ⟨Nat.le_of_ble_eq_true rfl, Nat.le_of_ble_eq_true rfl⟩) hS (fun q _ h => hFc q h) hFc (fun r36 u9 t H1 locs ht hvm hr9 hB hz1 hk1 hS => ?_)
    obtain ⟨hP1, hK1, hD1⟩ := hB
    rw [ht] at hP1
    obtain ⟨hP, hD⟩ := xjoin (W := [(a2, .inr (1, [.ref a3, .int v4, .int v5])), (a3, .inl (cT 0, 4096, .inl f3)), (a0, .inr (2, [.ref a1, .int v1, .int v2])), (a1, .inl (cT 2, 4096, .inr (.inl f0))), (a4, .inr (2, [.ref a5, .int o34.2.2.1, .int o34.2.2.2])), (a5, .inl (cT 2, 4096, .inr (.inl o34.2.1)))]) hP hD [0, 1, 4, 5] [2, 3] 2 rfl rfl (by decide) (by decide) hk1 hFc hP1 hD1
    generalize H1 = H at hP hS ⊢
    rw [hr9]
    refine W.eq (g2 := F0 m 154 ls [.int o34.1]) rfl ?_
    obtain rfl := Option.some.inj hf
    obtain ⟨hP9, hD9⟩ := xsub (wc := [(a0, .inr (2, [.ref a1, .int v1, .int v2])), (a1, .inl (cT 2, 4096, .inr (.inl f0))), (a2, .inr (1, [.ref a3, .int v4, .int v5])), (a3, .inl (cT 0, 4096, .inl f3)), (a4, .inr (2, [.ref a5, .int o34.2.2.1, .int o34.2.2.2])), (a5, .inl (cT 2, 4096, .inr (.inl o34.2.1)))]) hP hD [2, 3, 0, 1, 4, 5] rfl rfl (by decide)
    exact W.iret (v := o34.1) hx hb hr (fun t ht hW => ⟨⟨o34.1, (), rfl, rfl, by rw [ht]; exact hP9, va_K.moved hW.alike hK, hD9⟩, hS.F ht⟩) hS.2.2 dH_apply_154
  rw [if_neg hc33] at hf
  refine lv_tableOut (tgt := 155) hx hb dH_apply_1 (by have e0 : x0.toInt ≠ 0 := xsw hc1 (by decide); have e1 : x0.toInt ≠ 1 := xsw hc5 (by decide); have e2 : x0.toInt ≠ 2 := xsw hc9 (by decide); have e3 : x0.toInt ≠ 3 := xsw hc13 (by decide); have e4 : x0.toInt ≠ 4 := xsw hc17 (by decide); have e5 : x0.toInt ≠ 5 := xsw hc21 (by decide); have e6 : x0.toInt ≠ 6 := xsw hc25 (by decide); have e7 : x0.toInt ≠ 7 := xsw hc29 (by decide); have e8 : x0.toInt ≠ 8 := xsw hc33 (by decide); omega) (by decide) ?_
  refine lv_aload_n hx hb dH_apply_155 rfl (lv_at hl 1 rfl) ?_
  refine lv_iconst (v := 0) hx hb dH_apply_156 (by decide) ?_
  refine lv_iconst (v := 5) hx hb dH_apply_157 (by decide) ?_
  obtain ⟨o37, hq38, hf⟩ := xbind hf
  obtain ⟨hPc, hDc, hFc⟩ := xcut (wc := [(a0, .inr (2, [.ref a1, .int v1, .int v2])), (a1, .inl (cT 2, 4096, .inr (.inl f0)))]) hP hD hS hA [0, 1] rfl rfl (by decide)
  refine va_calli (va_runV (C := "ValueBench$Row") (As := [.int 0, .int 5]) (rest := []) ⟨hx, hb, hml, hown, htx⟩ (gR_is l hl9 D cT aK aV s.heap.size n a0 a1 (0 : Int32) (5 : Int32) f0 v1 v2 o37 hq38) ⟨callB_of 2 htx (xw_goodC kw_3_75) rfl rfl rfl (htx _ kw_1_4) (htx _ kw_4_150) ⟨by decide, by decide, by decide +kernel⟩ ⟨Nat.le_of_ble_eq_true rfl, Nat.le_of_ble_eq_true rfl⟩, (htx _ kw_3_73), (htx _ kw_3_74)⟩ ⟨xPre_blind, va_recv hK hP (ci := 2) rfl (q0 := 0) rfl, (fun U hU hW => ⟨rfl, xPre_of hZ hS hFc hPc hDc hK U hU hW⟩)⟩ rfl rfl hl.1 rfl (lv_room (Nat.le_of_ble_eq_true rfl)) dH_apply_158 ⟨Nat.le_of_ble_eq_true rfl, Nat.le_of_ble_eq_true rfl⟩) hS (fun q _ h => hFc q h) hFc (fun r39 u9 t H1 locs ht hvm hr9 hB hz1 hk1 hS => ?_)
  obtain ⟨hP1, hK1, hD1⟩ := hB
  rw [ht] at hP1
  obtain ⟨hP, hD⟩ := xjoin (W := [(a2, .inr (1, [.ref a3, .int v4, .int v5])), (a3, .inl (cT 0, 4096, .inl f3)), (a4, .inr (2, [.ref a5, .int v7, .int v8])), (a5, .inl (cT 2, 4096, .inr (.inl f6))), (a0, .inr (2, [.ref a1, .int v1, .int v2])), (a1, .inl (cT 2, 4096, .inr (.inl f0)))]) hP hD [0, 1] [2, 3, 4, 5] 4 rfl rfl (by decide) (by decide) hk1 hFc hP1 hD1
  generalize H1 = H at hP hS ⊢
  rw [hr9]
  refine W.eq (g2 := F0 m 161 ls [.int o37]) rfl ?_
  refine lv_if_eq (tgt := 183) hx hb dH_apply_161 (by decide) (fun hc => ?_) (fun hc => ?_)
  · rw [if_pos hc] at hf
    refine lv_aload_n hx hb dH_apply_183 rfl (lv_at hl 1 rfl) ?_
    refine lv_aload_n hx hb dH_apply_184 rfl (lv_at hl 2 rfl) ?_
    refine lv_aload hx hb dH_apply_185 (lv_at hl 4 rfl) ?_
    obtain ⟨o40, hq41, hf⟩ := xbind hf
    obtain ⟨hPc, hDc, hFc⟩ := xcut (wc := [(a0, .inr (2, [.ref a1, .int v1, .int v2])), (a1, .inl (cT 2, 4096, .inr (.inl f0))), (a4, .inr (2, [.ref a5, .int v7, .int v8])), (a5, .inl (cT 2, 4096, .inr (.inl f6)))]) hP hD hS hA [4, 5, 2, 3] rfl rfl (by decide)
    refine va_calli (va_runS (As := [.ref a0, .ref a0, .ref a4]) (rest := []) ⟨hx, hb, hml, hown, htx⟩ (gH_ata l hl9 D cT aK aV H.size n a0 a1 a4 a5 f0 v1 v2 f6 v7 v8 o40 hq41) ⟨callB_of 3 htx (xw_goodC kw_5_4) rfl rfl rfl (htx _ kw_1_27) (htx _ kw_5_2) ⟨by decide, by decide, by decide +kernel⟩ ⟨Nat.le_of_ble_eq_true rfl, Nat.le_of_ble_eq_true rfl⟩, htx _ kw_5_3⟩ ⟨xPre_blind, (fun U hU hW => ⟨rfl, xPre_of hZ hS hFc hPc hDc hK U hU hW⟩)⟩ rfl rfl hl.1 rfl (lv_room (Nat.le_of_ble_eq_true rfl)) dH_apply_187 ⟨Nat.le_of_ble_eq_true rfl, Nat.le_of_ble_eq_true rfl⟩) hS (fun q _ h => hFc q h) hFc (fun r42 u9 t H1 locs ht hvm hr9 hB hz1 hk1 hS => ?_)
    obtain ⟨hP1, hK1, hD1⟩ := hB
    rw [ht] at hP1
    obtain ⟨hP, hD⟩ := xjoin (W := [(a2, .inr (1, [.ref a3, .int v4, .int v5])), (a3, .inl (cT 0, 4096, .inl f3)), (a0, .inr (2, [.ref a1, .int v1, .int v2])), (a1, .inl (cT 2, 4096, .inr (.inl f0))), (a4, .inr (2, [.ref a5, .int o40.2.2.1, .int o40.2.2.2])), (a5, .inl (cT 2, 4096, .inr (.inl o40.2.1)))]) hP hD [4, 5, 2, 3] [0, 1] 2 rfl rfl (by decide) (by decide) hk1 hFc hP1 hD1
    generalize H1 = H at hP hS ⊢
    rw [hr9]
    refine W.eq (g2 := F0 m 190 ls [.int o40.1]) rfl ?_
    obtain rfl := Option.some.inj hf
    obtain ⟨hP9, hD9⟩ := xsub (wc := [(a0, .inr (2, [.ref a1, .int v1, .int v2])), (a1, .inl (cT 2, 4096, .inr (.inl f0))), (a2, .inr (1, [.ref a3, .int v4, .int v5])), (a3, .inl (cT 0, 4096, .inl f3)), (a4, .inr (2, [.ref a5, .int o40.2.2.1, .int o40.2.2.2])), (a5, .inl (cT 2, 4096, .inr (.inl o40.2.1)))]) hP hD [2, 3, 0, 1, 4, 5] rfl rfl (by decide)
    exact W.iret (v := o40.1) hx hb hr (fun t ht hW => ⟨⟨o40.1, (), rfl, rfl, by rw [ht]; exact hP9, va_K.moved hW.alike hK, hD9⟩, hS.F ht⟩) hS.2.2 dH_apply_190
  · rw [if_neg hc] at hf
    refine lv_aload_n hx hb dH_apply_164 rfl (lv_at hl 2 rfl) ?_
    refine lv_iconst (v := 0) hx hb dH_apply_165 (by decide) ?_
    refine lv_iconst (v := 5) hx hb dH_apply_166 (by decide) ?_
    obtain ⟨o40, hq41, hf⟩ := xbind hf
    obtain ⟨hPc, hDc, hFc⟩ := xcut (wc := [(a0, .inr (2, [.ref a1, .int v1, .int v2])), (a1, .inl (cT 2, 4096, .inr (.inl f0)))]) hP hD hS hA [4, 5] rfl rfl (by decide)
    refine va_calli (va_runV (C := "ValueBench$Row") (As := [.int 0, .int 5]) (rest := []) ⟨hx, hb, hml, hown, htx⟩ (gR_is l hl9 D cT aK aV H.size n a0 a1 (0 : Int32) (5 : Int32) f0 v1 v2 o40 hq41) ⟨callB_of 2 htx (xw_goodC kw_3_75) rfl rfl rfl (htx _ kw_1_4) (htx _ kw_4_150) ⟨by decide, by decide, by decide +kernel⟩ ⟨Nat.le_of_ble_eq_true rfl, Nat.le_of_ble_eq_true rfl⟩, (htx _ kw_3_73), (htx _ kw_3_74)⟩ ⟨xPre_blind, va_recv hK hP (ci := 2) rfl (q0 := 4) rfl, (fun U hU hW => ⟨rfl, xPre_of hZ hS hFc hPc hDc hK U hU hW⟩)⟩ rfl rfl hl.1 rfl (lv_room (Nat.le_of_ble_eq_true rfl)) dH_apply_167 ⟨Nat.le_of_ble_eq_true rfl, Nat.le_of_ble_eq_true rfl⟩) hS (fun q _ h => hFc q h) hFc (fun r42 u9 t H1 locs ht hvm hr9 hB hz1 hk1 hS => ?_)
    obtain ⟨hP1, hK1, hD1⟩ := hB
    rw [ht] at hP1
    obtain ⟨hP, hD⟩ := xjoin (W := [(a2, .inr (1, [.ref a3, .int v4, .int v5])), (a3, .inl (cT 0, 4096, .inl f3)), (a4, .inr (2, [.ref a5, .int v7, .int v8])), (a5, .inl (cT 2, 4096, .inr (.inl f6))), (a0, .inr (2, [.ref a1, .int v1, .int v2])), (a1, .inl (cT 2, 4096, .inr (.inl f0)))]) hP hD [4, 5] [0, 1, 2, 3] 4 rfl rfl (by decide) (by decide) hk1 hFc hP1 hD1
    generalize H1 = H at hP hS ⊢
    rw [hr9]
    refine W.eq (g2 := F0 m 170 ls [.int o40]) rfl ?_
    refine lv_if_eq (tgt := 183) hx hb dH_apply_170 (by decide) (fun hc => ?_) (fun hc => ?_)
    · rw [if_pos hc] at hf
      refine lv_aload_n hx hb dH_apply_183 rfl (lv_at hl 1 rfl) ?_
      refine lv_aload_n hx hb dH_apply_184 rfl (lv_at hl 2 rfl) ?_
      refine lv_aload hx hb dH_apply_185 (lv_at hl 4 rfl) ?_
      obtain ⟨o43, hq44, hf⟩ := xbind hf
      obtain ⟨hPc, hDc, hFc⟩ := xcut (wc := [(a0, .inr (2, [.ref a1, .int v1, .int v2])), (a1, .inl (cT 2, 4096, .inr (.inl f0))), (a4, .inr (2, [.ref a5, .int v7, .int v8])), (a5, .inl (cT 2, 4096, .inr (.inl f6)))]) hP hD hS hA [4, 5, 2, 3] rfl rfl (by decide)
      refine va_calli (va_runS (As := [.ref a0, .ref a0, .ref a4]) (rest := []) ⟨hx, hb, hml, hown, htx⟩ (gH_ata l hl9 D cT aK aV H.size n a0 a1 a4 a5 f0 v1 v2 f6 v7 v8 o43 hq44) ⟨callB_of 3 htx (xw_goodC kw_5_4) rfl rfl rfl (htx _ kw_1_27) (htx _ kw_5_2) ⟨by decide, by decide, by decide +kernel⟩ ⟨Nat.le_of_ble_eq_true rfl, Nat.le_of_ble_eq_true rfl⟩, htx _ kw_5_3⟩ ⟨xPre_blind, (fun U hU hW => ⟨rfl, xPre_of hZ hS hFc hPc hDc hK U hU hW⟩)⟩ rfl rfl hl.1 rfl (lv_room (Nat.le_of_ble_eq_true rfl)) dH_apply_187 ⟨Nat.le_of_ble_eq_true rfl, Nat.le_of_ble_eq_true rfl⟩) hS (fun q _ h => hFc q h) hFc (fun r45 u9 t H1 locs ht hvm hr9 hB hz1 hk1 hS => ?_)
      obtain ⟨hP1, hK1, hD1⟩ := hB
      rw [ht] at hP1
      obtain ⟨hP, hD⟩ := xjoin (W := [(a2, .inr (1, [.ref a3, .int v4, .int v5])), (a3, .inl (cT 0, 4096, .inl f3)), (a0, .inr (2, [.ref a1, .int v1, .int v2])), (a1, .inl (cT 2, 4096, .inr (.inl f0))), (a4, .inr (2, [.ref a5, .int o43.2.2.1, .int o43.2.2.2])), (a5, .inl (cT 2, 4096, .inr (.inl o43.2.1)))]) hP hD [4, 5, 2, 3] [0, 1] 2 rfl rfl (by decide) (by decide) hk1 hFc hP1 hD1
      generalize H1 = H at hP hS ⊢
      rw [hr9]
      refine W.eq (g2 := F0 m 190 ls [.int o43.1]) rfl ?_
      obtain rfl := Option.some.inj hf
      obtain ⟨hP9, hD9⟩ := xsub (wc := [(a0, .inr (2, [.ref a1, .int v1, .int v2])), (a1, .inl (cT 2, 4096, .inr (.inl f0))), (a2, .inr (1, [.ref a3, .int v4, .int v5])), (a3, .inl (cT 0, 4096, .inl f3)), (a4, .inr (2, [.ref a5, .int o43.2.2.1, .int o43.2.2.2])), (a5, .inl (cT 2, 4096, .inr (.inl o43.2.1)))]) hP hD [2, 3, 0, 1, 4, 5] rfl rfl (by decide)
      exact W.iret (v := o43.1) hx hb hr (fun t ht hW => ⟨⟨o43.1, (), rfl, rfl, by rw [ht]; exact hP9, va_K.moved hW.alike hK, hD9⟩, hS.F ht⟩) hS.2.2 dH_apply_190
    · rw [if_neg hc] at hf
      refine lv_aload_n hx hb dH_apply_173 rfl (lv_at hl 1 rfl) ?_
      refine lv_aload_n hx hb dH_apply_174 rfl (lv_at hl 2 rfl) ?_
      refine lv_aload hx hb dH_apply_175 (lv_at hl 4 rfl) ?_
      obtain ⟨o43, hq44, hf⟩ := xbind hf
      obtain ⟨hPc, hDc, hFc⟩ := xcut (wc := [(a0, .inr (2, [.ref a1, .int v1, .int v2])), (a1, .inl (cT 2, 4096, .inr (.inl f0))), (a4, .inr (2, [.ref a5, .int v7, .int v8])), (a5, .inl (cT 2, 4096, .inr (.inl f6)))]) hP hD hS hA [4, 5, 2, 3] rfl rfl (by decide)
      refine va_calli (va_runS (As := [.ref a0, .ref a0, .ref a4]) (rest := []) ⟨hx, hb, hml, hown, htx⟩ (gH_indicesa l hl9 D cT aK aV H.size d n a0 a1 a4 a5 f0 v1 v2 f6 v7 v8 o43 hq44) ⟨callB_of 3 htx (xw_goodC kw_4_218) rfl rfl rfl (htx _ kw_1_27) (htx _ kw_4_216) ⟨by decide, by decide, by decide +kernel⟩ ⟨(by show (16 * d + 3) + 1 ≤ 16 * d + 6; omega), (by show 8 + (6 + 11) + (400 * d + 79) ≤ 400 * d + 176; omega)⟩, htx _ kw_4_217⟩ ⟨xPre_blind, (fun U hU hW => ⟨rfl, xPre_of hZ hS hFc hPc hDc hK U hU hW⟩)⟩ rfl rfl hl.1 rfl (lv_room (Nat.le_of_ble_eq_true rfl)) dH_apply_177 ⟨Nat.le_of_ble_eq_true rfl, Nat.le_of_ble_eq_true rfl⟩) hS (fun q _ h => hFc q h) hFc (fun r45 u9 t H1 locs ht hvm hr9 hB hz1 hk1 hS => ?_)
      obtain ⟨hP1, hK1, hD1⟩ := hB
      rw [ht] at hP1
      obtain ⟨hP, hD⟩ := xjoin (W := [(a2, .inr (1, [.ref a3, .int v4, .int v5])), (a3, .inl (cT 0, 4096, .inl f3)), (a0, .inr (2, [.ref a1, .int v1, .int v2])), (a1, .inl (cT 2, 4096, .inr (.inl f0))), (a4, .inr (2, [.ref a5, .int o43.2.2.1, .int o43.2.2.2])), (a5, .inl (cT 2, 4096, .inr (.inl o43.2.1)))]) hP hD [4, 5, 2, 3] [0, 1] 2 rfl rfl (by decide) (by decide) hk1 hFc hP1 hD1
      generalize H1 = H at hP hS ⊢
      rw [hr9]
      refine W.eq (g2 := F0 m 180 ls [.int o43.1]) rfl ?_
      refine lv_goto (tgt := 190) hx hb dH_apply_180 (by decide) ?_
      obtain rfl := Option.some.inj hf
      obtain ⟨hP9, hD9⟩ := xsub (wc := [(a0, .inr (2, [.ref a1, .int v1, .int v2])), (a1, .inl (cT 2, 4096, .inr (.inl f0))), (a2, .inr (1, [.ref a3, .int v4, .int v5])), (a3, .inl (cT 0, 4096, .inl f3)), (a4, .inr (2, [.ref a5, .int o43.2.2.1, .int o43.2.2.2])), (a5, .inl (cT 2, 4096, .inr (.inl o43.2.1)))]) hP hD [2, 3, 0, 1, 4, 5] rfl rfl (by decide)
      exact W.iret (v := o43.1) hx hb hr (fun t ht hW => ⟨⟨o43.1, (), rfl, rfl, by rw [ht]; exact hP9, va_K.moved hW.alike hK, hD9⟩, hS.F ht⟩) hS.2.2 dH_apply_190
set_option maxHeartbeats 400000000 in
set_option maxRecDepth 100000 in
theorem gS_attach (l : Launch) (hl9 : l.stackTraces = false) (D : va_G) (cT : Nat → ClassId) (aK aV : Nat → Nat) (sz n : Nat) (a0 : Nat) (a1 : Nat) (a2 : Nat) (a5 : Nat) (a6 : Nat) (x2 : Int32) (f0 : Nat → Int32) (f1 : Nat → Int32) (p2 : Nat) (f3 : Nat → Int32) (p4 : Nat) (f5 : Nat → Int32) (v6 : Int32) (f7 : Nat → Int64) (v8 : Int32) (v9 : Int32) (out : (Nat → Int32)) (hf : fS_attach n x2 f0 f1 p2 f3 p4 f5 v6 f7 v8 v9 = some out) : xMet l yS_attach wyS_attach 1 0 0 21 D cT aK aV sz [.ref a0, .ref a5, .int x2] [(a0, .inr (3, [.ref a1, .ref a2, .ref p2, .ref p4, .int v6])), (a1, .inl (cT 1, 2048, .inl f0)), (a2, .inl (cT 1, 2048, .inl f1)), (p2, .inl (cT 1, 2048, .inl f3)), (p4, .inl (cT 1, 2048, .inl f5)), (a5, .inr (2, [.ref a6, .int v8, .int v9])), (a6, .inl (cT 2, 4096, .inr (.inl f7)))] (fun A => va_Qv (fun _ : Unit => True) (fun _ t => xB D xcl cT A [(a0, .inr (3, [.ref a1, .ref a2, .ref p2, .ref p4, .int v6])), (a1, .inl (cT 1, 2048, .inl f0)), (a2, .inl (cT 1, 2048, .inl out)), (p2, .inl (cT 1, 2048, .inl f3)), (p4, .inl (cT 1, 2048, .inl f5)), (a5, .inr (2, [.ref a6, .int v8, .int v9])), (a6, .inl (cT 2, 4096, .inr (.inl f7)))] t) A) := by
  refine Met.ofW (cc := prog_10_method_3_code) (maxL := 5) (ret := none) (by decide) rfl ?_
  intro p e s m args below meth c s₁ B hml hv
  obtain ⟨rfl, hsz, hZ, hP, hK, hD0⟩ := hv
  have hx := B.exec
  have hb := B.bytes
  have hr := B.returns
  have hts := atoms_spec (ws := wyS_attach) B.pre
  have htx := fun w h => hts w (List.mem_cons_of_mem _ h)
  have hown : s.vm.findClass "ValueBench$Sorter" = some m.cls := findClass_of_methodNamed B.named
  have hlocks := B.notSynchronized
  subst hsz
  have hD := hD0.self (sz := s.heap.size)
  generalize hAe : va_A [(a0, .inr (3, [.ref a1, .ref a2, .ref p2, .ref p4, .int v6])), (a1, .inl (cT 1, 2048, .inl f0)), (a2, .inl (cT 1, 2048, .inl f1)), (p2, .inl (cT 1, 2048, .inl f3)), (p4, .inl (cT 1, 2048, .inl f5)), (a5, .inr (2, [.ref a6, .int v8, .int v9])), (a6, .inl (cT 2, 4096, .inr (.inl f7)))] s.heap.size = A at hD hZ ⊢
  have hA : ∀ q : Nat, s.heap.size ≤ q → A q := fun q h => by rw [← hAe]; exact Or.inr h
  have hS : va_S A s.heap s.heap [] := va_S.rf
  have hP : va_P D xcl [(a0, .inr (3, [.ref a1, .ref a2, .ref p2, .ref p4, .int v6])), (a1, .inl (cT 1, 2048, .inl f0)), (a2, .inl (cT 1, 2048, .inl f1)), (p2, .inl (cT 1, 2048, .inl f3)), (p4, .inl (cT 1, 2048, .inl f5)), (a5, .inr (2, [.ref a6, .int v8, .int v9])), (a6, .inl (cT 2, 4096, .inr (.inl f7)))] s.heap := hP
  have hl := lv_entry ([.ref a0, .ref a5, .int x2]) (n := 5) (Nat.le_of_ble_eq_true rfl)
  rw [lg_entry_eq]
  generalize (lg_sl ([.ref a0, .ref a5, .int x2]) ++ List.replicate (5 - (lg_sl ([.ref a0, .ref a5, .int x2])).length) Slot.unset).toArray = ls at hl ⊢
  have hl : lv_has ls 5 [(0, .ref a0), (1, .ref a5), (2, .int x2)] := hl
  unfold fS_attach at hf
  refine xloopK (σ := Nat × Int32 × Int32 × Int32 × (Nat → Int32)) (fun n x H locs ls => (x.1 = 1 ∧ fS_attach_b f0 p2 f3 p4 f5 v6 f7 v8 v9 n x.1 x.2.1 x.2.2.1 x.2.2.2.1 x.2.2.2.2 = some out ∧ va_P D xcl [(a0, .inr (3, [.ref a1, .ref a2, .ref p2, .ref p4, .int v6])), (a1, .inl (cT 1, 2048, .inl f0)), (a2, .inl (cT 1, 2048, .inl x.2.2.2.2)), (p2, .inl (cT 1, 2048, .inl f3)), (p4, .inl (cT 1, 2048, .inl f5)), (a5, .inr (2, [.ref a6, .int v8, .int v9])), (a6, .inl (cT 2, 4096, .inr (.inl f7)))] H ∧ va_D A [(a0, .inr (3, [.ref a1, .ref a2, .ref p2, .ref p4, .int v6])), (a1, .inl (cT 1, 2048, .inl f0)), (a2, .inl (cT 1, 2048, .inl x.2.2.2.2)), (p2, .inl (cT 1, 2048, .inl f3)), (p4, .inl (cT 1, 2048, .inl f5)), (a5, .inr (2, [.ref a6, .int v8, .int v9])), (a6, .inl (cT 2, 4096, .inr (.inl f7)))] ∧ va_S A s.heap H locs ∧ lv_has ls 5 [(4, .int x.2.1), (3, .int x.2.2.1), (0, .ref a0), (1, .ref a5), (2, .int x.2.2.2.1)])) (fun x => 7) (fun x H locs ls h => by exact absurd h.2.1 (by rw [fS_attach_b]; exact fun h => nomatch h)) (fun n ih x H locs ls hv => ?_) (fun key => ?_)
  · obtain ⟨lb, y4, y3, y2, w0⟩ := x
    rcases hv with ⟨hj, hf, hP, hD, hS, hl⟩
    subst hj
    have hf : fS_attach_b f0 p2 f3 p4 f5 v6 f7 v8 v9 (n + 1) 1 y4 y3 y2 w0 = some out := hf
    rw [fS_attach_b] at hf
    obtain ⟨hP, hD⟩ : xPD D xcl A [(a0, .inr (3, [.ref a1, .ref a2, .ref p2, .ref p4, .int v6])), (a1, .inl (cT 1, 2048, .inl f0)), (a2, .inl (cT 1, 2048, .inl w0)), (p2, .inl (cT 1, 2048, .inl f3)), (p4, .inl (cT 1, 2048, .inl f5)), (a5, .inr (2, [.ref a6, .int v8, .int v9])), (a6, .inl (cT 2, 4096, .inr (.inl f7)))] H := ⟨hP, hD⟩
    have hl : lv_has ls 5 [(4, .int y4), (3, .int y3), (0, .ref a0), (1, .ref a5), (2, .int y2)] := hl
    refine W.eq (g2 := F0 m 7 ls []) rfl ?_
    refine lv_iload hx hb dS_attach_7 (lv_at hl 0 rfl) ?_
    refine lv_aload_n hx hb dS_attach_9 rfl (lv_at hl 2 rfl) ?_
    refine va_get (D := D) (ci := 3) (v := .int v6) (C := "ValueBench$Sorter") (T := TSo) (N := 5) hx hb htx inS hown hK hP 0 rfl rfl 4 (by decide) (htx _ kw_1_66) (fun _ h9 => h9) rfl dS_attach_10 ?_
    refine lv_icmp_ge (tgt := 36) hx hb dS_attach_13 (by decide) (fun hc => ?_) (fun hc => ?_)
    · rw [if_pos hc] at hf
      obtain rfl := Option.some.inj hf
      obtain ⟨hP9, hD9⟩ := xsub (wc := [(a0, .inr (3, [.ref a1, .ref a2, .ref p2, .ref p4, .int v6])), (a1, .inl (cT 1, 2048, .inl f0)), (a2, .inl (cT 1, 2048, .inl w0)), (p2, .inl (cT 1, 2048, .inl f3)), (p4, .inl (cT 1, 2048, .inl f5)), (a5, .inr (2, [.ref a6, .int v8, .int v9])), (a6, .inl (cT 2, 4096, .inr (.inl f7)))]) hP hD [0, 1, 2, 3, 4, 5, 6] rfl rfl (by decide)
      exact W.vret hx hb hr (fun t ht hW => ⟨⟨(), rfl, trivial, by rw [ht]; exact hP9, va_K.moved hW.alike hK, hD9⟩, hS.F ht⟩) hS.2.2 dS_attach_36
    · rw [if_neg hc] at hf
      refine lv_aload_n hx hb dS_attach_16 rfl (lv_at hl 2 rfl) ?_
      refine va_get (D := D) (ci := 3) (v := .ref a2) (C := "ValueBench$Sorter") (T := TSo) (N := 5) hx hb htx inS hown hK hP 0 rfl rfl 1 (by decide) (htx _ kw_1_63) (fun _ h9 => h9) rfl dS_attach_17 ?_
      refine lv_iload hx hb dS_attach_20 (lv_at hl 0 rfl) ?_
      refine lv_iload_n hx hb dS_attach_22 rfl (lv_at hl 1 rfl) ?_
      obtain ⟨hg1, hf⟩ := xifn hf
      refine va_iast hx hb hK hP hD hS 2 1 rfl rfl hg1 dS_attach_23 (fun H locs hP hD hS => ?_)
      obtain ⟨hP, hD⟩ : xPD D xcl A [(a0, .inr (3, [.ref a1, .ref a2, .ref p2, .ref p4, .int v6])), (a1, .inl (cT 1, 2048, .inl f0)), (a2, .inl (cT 1, 2048, .inl (upd w0 y4.toNatClampNeg y3))), (p2, .inl (cT 1, 2048, .inl f3)), (p4, .inl (cT 1, 2048, .inl f5)), (a5, .inr (2, [.ref a6, .int v8, .int v9])), (a6, .inl (cT 2, 4096, .inr (.inl f7)))] H := ⟨hP, hD⟩
      refine lv_aload_n hx hb dS_attach_24 rfl (lv_at hl 3 rfl) ?_
      refine lv_iload_n hx hb dS_attach_25 rfl (lv_at hl 1 rfl) ?_
      obtain ⟨o2, hq3, hf⟩ := xbind hf
      obtain ⟨hPc, hDc, hFc⟩ := xcut (wc := [(a5, .inr (2, [.ref a6, .int v8, .int v9])), (a6, .inl (cT 2, 4096, .inr (.inl f7)))]) hP hD hS hA [5, 6] rfl rfl (by decide)
      refine va_calli (va_runV (C := "ValueBench$Row") (As := [.int y3]) (rest := []) ⟨hx, hb, hml, hown, htx⟩ (gR_after l hl9 D cT aK aV H.size n a5 a6 y3 f7 v8 v9 o2 hq3) ⟨callB_of 1 htx (xw_goodC kw_2_196) rfl rfl rfl (htx _ kw_1_4) (htx _ kw_4_58) ⟨by decide, by decide, by decide +kernel⟩ ⟨Nat.le_of_ble_eq_true rfl, Nat.le_of_ble_eq_true rfl⟩, (htx _ kw_2_194), (htx _ kw_2_195)⟩ ⟨xPre_blind, va_recv hK hP (ci := 2) rfl (q0 := 5) rfl, (fun U hU hW => ⟨rfl, xPre_of hZ hS hFc hPc hDc hK U hU hW⟩)⟩ rfl rfl hl.1 rfl (lv_room (Nat.le_of_ble_eq_true rfl)) dS_attach_26 ⟨Nat.le_of_ble_eq_true rfl, Nat.le_of_ble_eq_true rfl⟩) hS (fun q _ h => hFc q h) hFc (fun r4 u9 t H1 locs ht hvm hr9 hB hz1 hk1 hS => ?_)
      obtain ⟨hP1, hK1, hD1⟩ := hB
      rw [ht] at hP1
      obtain ⟨hP, hD⟩ := xjoin (W := [(a0, .inr (3, [.ref a1, .ref a2, .ref p2, .ref p4, .int v6])), (a1, .inl (cT 1, 2048, .inl f0)), (a2, .inl (cT 1, 2048, .inl (upd w0 y4.toNatClampNeg y3))), (p2, .inl (cT 1, 2048, .inl f3)), (p4, .inl (cT 1, 2048, .inl f5)), (a5, .inr (2, [.ref a6, .int v8, .int v9])), (a6, .inl (cT 2, 4096, .inr (.inl f7)))]) hP hD [5, 6] [0, 1, 2, 3, 4] 5 rfl rfl (by decide) (by decide) hk1 hFc hP1 hD1
      generalize H1 = H at hP hS ⊢
      rw [hr9]
      refine W.eq (g2 := F0 m 29 ls [.int o2]) rfl ?_
      refine lv_istore_n (lv' := [(3, .int o2), (4, .int y4), (0, .ref a0), (1, .ref a5), (2, .int y2)]) hx hb dS_attach_29 rfl hl (by decide) rfl (fun ls hl => ?_)
      refine lv_iinc (v := (y4 + 1)) (lv' := [(4, .int (y4 + 1)), (3, .int o2), (0, .ref a0), (1, .ref a5), (2, .int y2)]) hx hb dS_attach_30 hl (k := 1) rfl rfl (by decide) rfl (fun ls hl => ?_)
      refine lv_goto (tgt := 7) hx hb dS_attach_33 (by decide) ?_
      obtain ⟨hP9, hD9⟩ := xsub (wc := [(a0, .inr (3, [.ref a1, .ref a2, .ref p2, .ref p4, .int v6])), (a1, .inl (cT 1, 2048, .inl f0)), (a2, .inl (cT 1, 2048, .inl (upd w0 y4.toNatClampNeg y3))), (p2, .inl (cT 1, 2048, .inl f3)), (p4, .inl (cT 1, 2048, .inl f5)), (a5, .inr (2, [.ref a6, .int v8, .int v9])), (a6, .inl (cT 2, 4096, .inr (.inl f7)))]) hP hD [0, 1, 2, 3, 4, 5, 6] rfl rfl (by decide)
      exact ih (1, (y4 + 1), o2, y2, (upd w0 y4.toNatClampNeg y3)) _ _ ls (⟨rfl, hf, hP9, hD9, hS, lv_sub hl [0, 1, 2, 3, 4] rfl⟩)
  refine lv_iload_n hx hb dS_attach_0 rfl (lv_at hl 2 rfl) ?_
  refine lv_iconst (v := 1) hx hb dS_attach_1 (by decide) ?_
  refine lv_iadd hx hb dS_attach_2 ?_
  refine lv_istore_n (lv' := [(3, .int (x2 + (1 : Int32))), (0, .ref a0), (1, .ref a5), (2, .int x2)]) hx hb dS_attach_3 rfl hl (by decide) rfl (fun ls hl => ?_)
  refine lv_iconst (v := 0) hx hb dS_attach_4 (by decide) ?_
  refine lv_istore (lv' := [(4, .int 0), (3, .int (x2 + (1 : Int32))), (0, .ref a0), (1, .ref a5), (2, .int x2)]) hx hb dS_attach_5 hl (by decide) rfl (fun ls hl => ?_)
  obtain ⟨hP9, hD9⟩ := xsub (wc := [(a0, .inr (3, [.ref a1, .ref a2, .ref p2, .ref p4, .int v6])), (a1, .inl (cT 1, 2048, .inl f0)), (a2, .inl (cT 1, 2048, .inl f1)), (p2, .inl (cT 1, 2048, .inl f3)), (p4, .inl (cT 1, 2048, .inl f5)), (a5, .inr (2, [.ref a6, .int v8, .int v9])), (a6, .inl (cT 2, 4096, .inr (.inl f7)))]) hP hD [0, 1, 2, 3, 4, 5, 6] rfl rfl (by decide)
  exact key n (1, 0, (x2 + (1 : Int32)), x2, f1) _ _ ls (⟨rfl, hf, hP9, hD9, hS, lv_sub hl [0, 1, 2, 3, 4] rfl⟩)
set_option maxHeartbeats 400000000 in
set_option maxRecDepth 100000 in
theorem gS_elementAtTurn (l : Launch) (hl9 : l.stackTraces = false) (D : va_G) (cT : Nat → ClassId) (aK aV : Nat → Nat) (sz n : Nat) (a0 : Nat) (a1 : Nat) (a2 : Nat) (x1 : Int32) (f0 : Nat → Int32) (f1 : Nat → Int32) (p2 : Nat) (f3 : Nat → Int32) (p4 : Nat) (f5 : Nat → Int32) (v6 : Int32) (out : Int32) (hf : fS_elementAtTurn n x1 f0 f1 p2 f3 p4 f5 v6 = some out) : xMet l yS_elementAtTurn wyS_elementAtTurn 0 0 0 0 D cT aK aV sz [.ref a0, .int x1] [(a0, .inr (3, [.ref a1, .ref a2, .ref p2, .ref p4, .int v6])), (a1, .inl (cT 1, 2048, .inl f0)), (a2, .inl (cT 1, 2048, .inl f1)), (p2, .inl (cT 1, 2048, .inl f3)), (p4, .inl (cT 1, 2048, .inl f5))] (fun A => va_Qi (fun (r : Int32) (_ : Unit) => r = out) (fun _ t => xB D xcl cT A [(a0, .inr (3, [.ref a1, .ref a2, .ref p2, .ref p4, .int v6])), (a1, .inl (cT 1, 2048, .inl f0)), (a2, .inl (cT 1, 2048, .inl f1)), (p2, .inl (cT 1, 2048, .inl f3)), (p4, .inl (cT 1, 2048, .inl f5))] t) A) := by
  refine Met.ofW (cc := prog_10_method_5_code) (maxL := 2) (ret := (some .int)) (by decide) rfl ?_
  intro p e s m args below meth c s₁ B hml hv
  obtain ⟨rfl, hsz, hZ, hP, hK, hD0⟩ := hv
  have hx := B.exec
  have hb := B.bytes
  have hr := B.returns
  have hts := atoms_spec (ws := wyS_elementAtTurn) B.pre
  have htx := fun w h => hts w (List.mem_cons_of_mem _ h)
  have hown : s.vm.findClass "ValueBench$Sorter" = some m.cls := findClass_of_methodNamed B.named
  have hlocks := B.notSynchronized
  subst hsz
  have hD := hD0.self (sz := s.heap.size)
  generalize hAe : va_A [(a0, .inr (3, [.ref a1, .ref a2, .ref p2, .ref p4, .int v6])), (a1, .inl (cT 1, 2048, .inl f0)), (a2, .inl (cT 1, 2048, .inl f1)), (p2, .inl (cT 1, 2048, .inl f3)), (p4, .inl (cT 1, 2048, .inl f5))] s.heap.size = A at hD hZ ⊢
  have hA : ∀ q : Nat, s.heap.size ≤ q → A q := fun q h => by rw [← hAe]; exact Or.inr h
  have hS : va_S A s.heap s.heap [] := va_S.rf
  have hP : va_P D xcl [(a0, .inr (3, [.ref a1, .ref a2, .ref p2, .ref p4, .int v6])), (a1, .inl (cT 1, 2048, .inl f0)), (a2, .inl (cT 1, 2048, .inl f1)), (p2, .inl (cT 1, 2048, .inl f3)), (p4, .inl (cT 1, 2048, .inl f5))] s.heap := hP
  have hl := lv_entry ([.ref a0, .int x1]) (n := 2) (Nat.le_of_ble_eq_true rfl)
  rw [lg_entry_eq]
  generalize (lg_sl ([.ref a0, .int x1]) ++ List.replicate (2 - (lg_sl ([.ref a0, .int x1])).length) Slot.unset).toArray = ls at hl ⊢
  have hl : lv_has ls 2 [(0, .ref a0), (1, .int x1)] := hl
  unfold fS_elementAtTurn at hf
  refine lv_iload_n hx hb dS_elementAtTurn_0 rfl (lv_at hl 1 rfl) ?_
  refine lv_if_lt (tgt := 26) hx hb dS_elementAtTurn_1 (by decide) (fun hc => ?_) (fun hc => ?_)
  · rw [if_pos hc] at hf
    refine lv_iconst (v := 0) hx hb dS_elementAtTurn_26 (by decide) ?_
    obtain rfl := Option.some.inj hf
    obtain ⟨hP9, hD9⟩ := xsub (wc := [(a0, .inr (3, [.ref a1, .ref a2, .ref p2, .ref p4, .int v6])), (a1, .inl (cT 1, 2048, .inl f0)), (a2, .inl (cT 1, 2048, .inl f1)), (p2, .inl (cT 1, 2048, .inl f3)), (p4, .inl (cT 1, 2048, .inl f5))]) hP hD [0, 1, 2, 3, 4] rfl rfl (by decide)
    exact W.iret (v := (0 : Int32)) hx hb hr (fun t ht hW => ⟨⟨(0 : Int32), (), rfl, rfl, by rw [ht]; exact hP9, va_K.moved hW.alike hK, hD9⟩, hS.F ht⟩) hS.2.2 dS_elementAtTurn_27
  · rw [if_neg hc] at hf
    refine lv_iload_n hx hb dS_elementAtTurn_4 rfl (lv_at hl 1 rfl) ?_
    refine lv_aload_n hx hb dS_elementAtTurn_5 rfl (lv_at hl 0 rfl) ?_
    refine va_get (D := D) (ci := 3) (v := .int v6) (C := "ValueBench$Sorter") (T := TSo) (N := 5) hx hb htx inS hown hK hP 0 rfl rfl 4 (by decide) (htx _ kw_1_66) (fun _ h9 => h9) rfl dS_elementAtTurn_6 ?_
    refine lv_icmp_ge (tgt := 26) hx hb dS_elementAtTurn_9 (by decide) (fun hc => ?_) (fun hc => ?_)
    · rw [if_pos hc] at hf
      refine lv_iconst (v := 0) hx hb dS_elementAtTurn_26 (by decide) ?_
      obtain rfl := Option.some.inj hf
      obtain ⟨hP9, hD9⟩ := xsub (wc := [(a0, .inr (3, [.ref a1, .ref a2, .ref p2, .ref p4, .int v6])), (a1, .inl (cT 1, 2048, .inl f0)), (a2, .inl (cT 1, 2048, .inl f1)), (p2, .inl (cT 1, 2048, .inl f3)), (p4, .inl (cT 1, 2048, .inl f5))]) hP hD [0, 1, 2, 3, 4] rfl rfl (by decide)
      exact W.iret (v := (0 : Int32)) hx hb hr (fun t ht hW => ⟨⟨(0 : Int32), (), rfl, rfl, by rw [ht]; exact hP9, va_K.moved hW.alike hK, hD9⟩, hS.F ht⟩) hS.2.2 dS_elementAtTurn_27
    · rw [if_neg hc] at hf
      refine lv_aload_n hx hb dS_elementAtTurn_12 rfl (lv_at hl 0 rfl) ?_
      refine va_get (D := D) (ci := 3) (v := .ref a2) (C := "ValueBench$Sorter") (T := TSo) (N := 5) hx hb htx inS hown hK hP 0 rfl rfl 1 (by decide) (htx _ kw_1_63) (fun _ h9 => h9) rfl dS_elementAtTurn_13 ?_
      refine lv_aload_n hx hb dS_elementAtTurn_16 rfl (lv_at hl 0 rfl) ?_
      refine va_get (D := D) (ci := 3) (v := .ref p2) (C := "ValueBench$Sorter") (T := TSo) (N := 5) hx hb htx inS hown hK hP 0 rfl rfl 2 (by decide) (htx _ kw_1_64) (fun _ h9 => h9) rfl dS_elementAtTurn_17 ?_
      refine lv_iload_n hx hb dS_elementAtTurn_20 rfl (lv_at hl 1 rfl) ?_
      obtain ⟨hg1, hf⟩ := xifn hf
      refine va_iald hx hb hK hP 3 1 rfl rfl hg1 dS_elementAtTurn_21 ?_
      refine W.eq (g2 := F0 m 22 ls [.int (f3 x1.toNatClampNeg), .ref a2]) rfl ?_
      obtain ⟨hg2, hf⟩ := xifn hf
      refine va_iald hx hb hK hP 2 1 rfl rfl hg2 dS_elementAtTurn_22 ?_
      refine W.eq (g2 := F0 m 23 ls [.int (f1 (f3 x1.toNatClampNeg).toNatClampNeg)]) rfl ?_
      refine lv_goto (tgt := 27) hx hb dS_elementAtTurn_23 (by decide) ?_
      obtain rfl := Option.some.inj hf
      obtain ⟨hP9, hD9⟩ := xsub (wc := [(a0, .inr (3, [.ref a1, .ref a2, .ref p2, .ref p4, .int v6])), (a1, .inl (cT 1, 2048, .inl f0)), (a2, .inl (cT 1, 2048, .inl f1)), (p2, .inl (cT 1, 2048, .inl f3)), (p4, .inl (cT 1, 2048, .inl f5))]) hP hD [0, 1, 2, 3, 4] rfl rfl (by decide)
      exact W.iret (v := (f1 (f3 x1.toNatClampNeg).toNatClampNeg)) hx hb hr (fun t ht hW => ⟨⟨(f1 (f3 x1.toNatClampNeg).toNatClampNeg), (), rfl, rfl, by rw [ht]; exact hP9, va_K.moved hW.alike hK, hD9⟩, hS.F ht⟩) hS.2.2 dS_elementAtTurn_27
set_option maxHeartbeats 400000000 in
set_option maxRecDepth 100000 in
theorem gK_putSorted (l : Launch) (hl9 : l.stackTraces = false) (D : va_G) (cT : Nat → ClassId) (aK aV : Nat → Nat) (sz n : Nat) (a0 : Nat) (a1 : Nat) (a2 : Nat) (a3 : Nat) (a4 : Nat) (a7 : Nat) (a8 : Nat) (f0 : Nat → Int64) (v1 : Int32) (v2 : Int32) (f3 : Nat → Int32) (f4 : Nat → Int32) (p5 : Nat) (f6 : Nat → Int32) (p7 : Nat) (f8 : Nat → Int32) (v9 : Int32) (f10 : Nat → Int64) (v11 : Int32) (v12 : Int32) (out : (Nat → Int64) × Int32 × Int32) (hf : fK_putSorted n f0 v1 v2 f3 f4 p5 f6 p7 f8 v9 f10 v11 v12 = some out) : xMet l yK_putSorted wyK_putSorted 3 0 0 105 D cT aK aV sz [.ref a0, .ref a2, .ref a7] [(a0, .inr (2, [.ref a1, .int v1, .int v2])), (a1, .inl (cT 2, 4096, .inr (.inl f0))), (a2, .inr (3, [.ref a3, .ref a4, .ref p5, .ref p7, .int v9])), (a3, .inl (cT 1, 2048, .inl f3)), (a4, .inl (cT 1, 2048, .inl f4)), (p5, .inl (cT 1, 2048, .inl f6)), (p7, .inl (cT 1, 2048, .inl f8)), (a7, .inr (2, [.ref a8, .int v11, .int v12])), (a8, .inl (cT 2, 4096, .inr (.inl f10)))] (fun A => va_Qv (fun _ : Unit => True) (fun _ t => xB D xcl cT A [(a0, .inr (2, [.ref a1, .int v1, .int v2])), (a1, .inl (cT 2, 4096, .inr (.inl f0))), (a2, .inr (3, [.ref a3, .ref a4, .ref p5, .ref p7, .int v9])), (a3, .inl (cT 1, 2048, .inl f3)), (a4, .inl (cT 1, 2048, .inl f4)), (p5, .inl (cT 1, 2048, .inl f6)), (p7, .inl (cT 1, 2048, .inl f8)), (a7, .inr (2, [.ref a8, .int out.2.1, .int out.2.2])), (a8, .inl (cT 2, 4096, .inr (.inl out.1)))] t) A) := by
  refine Met.ofW (cc := prog_2_method_3_code) (maxL := 5) (ret := none) (by decide) rfl ?_
  intro p e s m args below meth c s₁ B hml hv
  obtain ⟨rfl, hsz, hZ, hP, hK, hD0⟩ := hv
  have hx := B.exec
  have hb := B.bytes
  have hr := B.returns
  have hts := atoms_spec (ws := wyK_putSorted) B.pre
  have htx := fun w h => hts w (List.mem_cons_of_mem _ h)
  have hown : s.vm.findClass "ValueBench$Keyed" = some m.cls := findClass_of_methodNamed B.named
  have hlocks := B.notSynchronized
  subst hsz
  have hD := hD0.self (sz := s.heap.size)
  generalize hAe : va_A [(a0, .inr (2, [.ref a1, .int v1, .int v2])), (a1, .inl (cT 2, 4096, .inr (.inl f0))), (a2, .inr (3, [.ref a3, .ref a4, .ref p5, .ref p7, .int v9])), (a3, .inl (cT 1, 2048, .inl f3)), (a4, .inl (cT 1, 2048, .inl f4)), (p5, .inl (cT 1, 2048, .inl f6)), (p7, .inl (cT 1, 2048, .inl f8)), (a7, .inr (2, [.ref a8, .int v11, .int v12])), (a8, .inl (cT 2, 4096, .inr (.inl f10)))] s.heap.size = A at hD hZ ⊢
  have hA : ∀ q : Nat, s.heap.size ≤ q → A q := fun q h => by rw [← hAe]; exact Or.inr h
  have hS : va_S A s.heap s.heap [] := va_S.rf
  have hP : va_P D xcl [(a0, .inr (2, [.ref a1, .int v1, .int v2])), (a1, .inl (cT 2, 4096, .inr (.inl f0))), (a2, .inr (3, [.ref a3, .ref a4, .ref p5, .ref p7, .int v9])), (a3, .inl (cT 1, 2048, .inl f3)), (a4, .inl (cT 1, 2048, .inl f4)), (p5, .inl (cT 1, 2048, .inl f6)), (p7, .inl (cT 1, 2048, .inl f8)), (a7, .inr (2, [.ref a8, .int v11, .int v12])), (a8, .inl (cT 2, 4096, .inr (.inl f10)))] s.heap := hP
  have hl := lv_entry ([.ref a0, .ref a2, .ref a7]) (n := 5) (Nat.le_of_ble_eq_true rfl)
  rw [lg_entry_eq]
  generalize (lg_sl ([.ref a0, .ref a2, .ref a7]) ++ List.replicate (5 - (lg_sl ([.ref a0, .ref a2, .ref a7])).length) Slot.unset).toArray = ls at hl ⊢
  have hl : lv_has ls 5 [(0, .ref a0), (1, .ref a2), (2, .ref a7)] := hl
  unfold fK_putSorted at hf
  refine xloopK (σ := Nat × Int32 × Int32 × (Nat → Int64) × Int32 × Int32) (fun n x H locs ls => (x.1 = 1 ∧ fK_putSorted_b f0 v1 v2 f3 f4 p5 f6 p7 f8 v9 n x.1 x.2.1 x.2.2.1 x.2.2.2.1 x.2.2.2.2.1 x.2.2.2.2.2 = some out ∧ va_P D xcl [(a0, .inr (2, [.ref a1, .int v1, .int v2])), (a1, .inl (cT 2, 4096, .inr (.inl f0))), (a2, .inr (3, [.ref a3, .ref a4, .ref p5, .ref p7, .int v9])), (a3, .inl (cT 1, 2048, .inl f3)), (a4, .inl (cT 1, 2048, .inl f4)), (p5, .inl (cT 1, 2048, .inl f6)), (p7, .inl (cT 1, 2048, .inl f8)), (a7, .inr (2, [.ref a8, .int x.2.2.2.2.1, .int x.2.2.2.2.2])), (a8, .inl (cT 2, 4096, .inr (.inl x.2.2.2.1)))] H ∧ va_D A [(a0, .inr (2, [.ref a1, .int v1, .int v2])), (a1, .inl (cT 2, 4096, .inr (.inl f0))), (a2, .inr (3, [.ref a3, .ref a4, .ref p5, .ref p7, .int v9])), (a3, .inl (cT 1, 2048, .inl f3)), (a4, .inl (cT 1, 2048, .inl f4)), (p5, .inl (cT 1, 2048, .inl f6)), (p7, .inl (cT 1, 2048, .inl f8)), (a7, .inr (2, [.ref a8, .int x.2.2.2.2.1, .int x.2.2.2.2.2])), (a8, .inl (cT 2, 4096, .inr (.inl x.2.2.2.1)))] ∧ va_S A s.heap H locs ∧ lv_has ls 5 [(4, .int x.2.1), (3, .int x.2.2.1), (0, .ref a0), (1, .ref a2), (2, .ref a7)])) (fun x => 8) (fun x H locs ls h => by exact absurd h.2.1 (by rw [fK_putSorted_b]; exact fun h => nomatch h)) (fun n ih x H locs ls hv => ?_) (fun key => ?_)
  · obtain ⟨lb, y4, y3, w0, w1, w2⟩ := x
    rcases hv with ⟨hj, hf, hP, hD, hS, hl⟩
    subst hj
    have hf : fK_putSorted_b f0 v1 v2 f3 f4 p5 f6 p7 f8 v9 (n + 1) 1 y4 y3 w0 w1 w2 = some out := hf
    rw [fK_putSorted_b] at hf
    obtain ⟨hP, hD⟩ : xPD D xcl A [(a0, .inr (2, [.ref a1, .int v1, .int v2])), (a1, .inl (cT 2, 4096, .inr (.inl f0))), (a2, .inr (3, [.ref a3, .ref a4, .ref p5, .ref p7, .int v9])), (a3, .inl (cT 1, 2048, .inl f3)), (a4, .inl (cT 1, 2048, .inl f4)), (p5, .inl (cT 1, 2048, .inl f6)), (p7, .inl (cT 1, 2048, .inl f8)), (a7, .inr (2, [.ref a8, .int w1, .int w2])), (a8, .inl (cT 2, 4096, .inr (.inl w0)))] H := ⟨hP, hD⟩
    have hl : lv_has ls 5 [(4, .int y4), (3, .int y3), (0, .ref a0), (1, .ref a2), (2, .ref a7)] := hl
    refine W.eq (g2 := F0 m 8 ls []) rfl ?_
    refine lv_iload hx hb dK_putSorted_8 (lv_at hl 0 rfl) ?_
    refine lv_aload_n hx hb dK_putSorted_10 rfl (lv_at hl 2 rfl) ?_
    refine lv_iconst (v := 0) hx hb dK_putSorted_11 (by decide) ?_
    obtain ⟨o1, hq2, hf⟩ := xbind hf
    obtain ⟨hPc, hDc, hFc⟩ := xcut (wc := [(a0, .inr (2, [.ref a1, .int v1, .int v2])), (a1, .inl (cT 2, 4096, .inr (.inl f0)))]) hP hD hS hA [0, 1] rfl rfl (by decide)
    refine va_calli (va_runV (C := "ValueBench$Row") (As := [.int 0]) (rest := [.int y4]) ⟨hx, hb, hml, hown, htx⟩ (gR_length l hl9 D cT aK aV H.size n a0 a1 (0 : Int32) f0 v1 v2 o1 hq2) ⟨callB_of 1 htx (xw_goodC kw_2_191) rfl rfl rfl (htx _ kw_1_4) (htx _ kw_5_23) ⟨by decide, by decide, by decide +kernel⟩ ⟨Nat.le_of_ble_eq_true rfl, Nat.le_of_ble_eq_true rfl⟩, (htx _ kw_2_189), (htx _ kw_2_190)⟩ ⟨xPre_blind, va_recv hK hP (ci := 2) rfl (q0 := 0) rfl, (fun U hU hW => ⟨rfl, xPre_of hZ hS hFc hPc hDc hK U hU hW⟩)⟩ rfl rfl hl.1 rfl (lv_room (Nat.le_of_ble_eq_true rfl)) dK_putSorted_12 ⟨Nat.le_of_ble_eq_true rfl, Nat.le_of_ble_eq_true rfl⟩) hS (fun q _ h => hFc q h) hFc (fun r3 u9 t H1 locs ht hvm hr9 hB hz1 hk1 hS => ?_)
    obtain ⟨hP1, hK1, hD1⟩ := hB
    rw [ht] at hP1
    obtain ⟨hP, hD⟩ := xjoin (W := [(a2, .inr (3, [.ref a3, .ref a4, .ref p5, .ref p7, .int v9])), (a3, .inl (cT 1, 2048, .inl f3)), (a4, .inl (cT 1, 2048, .inl f4)), (p5, .inl (cT 1, 2048, .inl f6)), (p7, .inl (cT 1, 2048, .inl f8)), (a7, .inr (2, [.ref a8, .int w1, .int w2])), (a8, .inl (cT 2, 4096, .inr (.inl w0))), (a0, .inr (2, [.ref a1, .int v1, .int v2])), (a1, .inl (cT 2, 4096, .inr (.inl f0)))]) hP hD [0, 1] [2, 3, 4, 5, 6, 7, 8] 7 rfl rfl (by decide) (by decide) hk1 hFc hP1 hD1
    generalize H1 = H at hP hS ⊢
    rw [hr9]
    refine W.eq (g2 := F0 m 15 ls [.int o1, .int y4]) rfl ?_
    refine lv_icmp_ge (tgt := 35) hx hb dK_putSorted_15 (by decide) (fun hc => ?_) (fun hc => ?_)
    · rw [if_pos hc] at hf
      refine lv_aload_n hx hb dK_putSorted_35 rfl (lv_at hl 4 rfl) ?_
      refine lv_iload_n hx hb dK_putSorted_36 rfl (lv_at hl 1 rfl) ?_
      refine lv_iconst (v := 5) hx hb dK_putSorted_37 (by decide) ?_
      refine lv_aload_n hx hb dK_putSorted_38 rfl (lv_at hl 2 rfl) ?_
      refine lv_iconst (v := 0) hx hb dK_putSorted_39 (by decide) ?_
      obtain ⟨o4, hq5, hf⟩ := xbind hf
      obtain ⟨hPc, hDc, hFc⟩ := xcut (wc := [(a0, .inr (2, [.ref a1, .int v1, .int v2])), (a1, .inl (cT 2, 4096, .inr (.inl f0)))]) hP hD hS hA [7, 8] rfl rfl (by decide)
      refine va_calli (va_runV (C := "ValueBench$Row") (As := [.int 0]) (rest := [.int 5, .int y3, .ref a7]) ⟨hx, hb, hml, hown, htx⟩ (gR_length l hl9 D cT aK aV H.size n a0 a1 (0 : Int32) f0 v1 v2 o4 hq5) ⟨callB_of 1 htx (xw_goodC kw_2_191) rfl rfl rfl (htx _ kw_1_4) (htx _ kw_5_23) ⟨by decide, by decide, by decide +kernel⟩ ⟨Nat.le_of_ble_eq_true rfl, Nat.le_of_ble_eq_true rfl⟩, (htx _ kw_2_189), (htx _ kw_2_190)⟩ ⟨xPre_blind, va_recv hK hP (ci := 2) rfl (q0 := 7) rfl, (fun U hU hW => ⟨rfl, xPre_of hZ hS hFc hPc hDc hK U hU hW⟩)⟩ rfl rfl hl.1 rfl (lv_room (Nat.le_of_ble_eq_true rfl)) dK_putSorted_40 ⟨Nat.le_of_ble_eq_true rfl, Nat.le_of_ble_eq_true rfl⟩) hS (fun q _ h => hFc q h) hFc (fun r6 u9 t H1 locs ht hvm hr9 hB hz1 hk1 hS => ?_)
      obtain ⟨hP1, hK1, hD1⟩ := hB
      rw [ht] at hP1
      obtain ⟨hP, hD⟩ := xjoin (W := [(a2, .inr (3, [.ref a3, .ref a4, .ref p5, .ref p7, .int v9])), (a3, .inl (cT 1, 2048, .inl f3)), (a4, .inl (cT 1, 2048, .inl f4)), (p5, .inl (cT 1, 2048, .inl f6)), (p7, .inl (cT 1, 2048, .inl f8)), (a7, .inr (2, [.ref a8, .int w1, .int w2])), (a8, .inl (cT 2, 4096, .inr (.inl w0))), (a0, .inr (2, [.ref a1, .int v1, .int v2])), (a1, .inl (cT 2, 4096, .inr (.inl f0)))]) hP hD [7, 8] [0, 1, 2, 3, 4, 5, 6] 7 rfl rfl (by decide) (by decide) hk1 hFc hP1 hD1
      generalize H1 = H at hP hS ⊢
      rw [hr9]
      refine W.eq (g2 := F0 m 43 ls [.int o4, .int 5, .int y3, .ref a7]) rfl ?_
      obtain ⟨o7, hq8, hf⟩ := xbind hf
      obtain ⟨hPc, hDc, hFc⟩ := xcut (wc := [(a7, .inr (2, [.ref a8, .int w1, .int w2])), (a8, .inl (cT 2, 4096, .inr (.inl w0)))]) hP hD hS hA [5, 6] rfl rfl (by decide)
      refine va_callv (va_runV (C := "ValueBench$Row") (As := [.int y3, .int 5, .int o4]) (rest := []) ⟨hx, hb, hml, hown, htx⟩ (gR_close l hl9 D cT aK aV H.size n a7 a8 y3 (5 : Int32) o4 w0 w1 w2 o7 hq8) ⟨callB_of 3 htx (xw_goodC kw_2_167) rfl rfl rfl (htx _ kw_1_4) (htx _ kw_5_38) ⟨by decide, by decide, by decide +kernel⟩ ⟨Nat.le_of_ble_eq_true rfl, Nat.le_of_ble_eq_true rfl⟩, (htx _ kw_2_165), (htx _ kw_2_166)⟩ ⟨xPre_blind, va_recv hK hP (ci := 2) rfl (q0 := 5) rfl, (fun U hU hW => ⟨rfl, xPre_of hZ hS hFc hPc hDc hK U hU hW⟩)⟩ rfl rfl hl.1 rfl (lv_room (Nat.le_of_ble_eq_true rfl)) dK_putSorted_43 ⟨Nat.le_of_ble_eq_true rfl, Nat.le_of_ble_eq_true rfl⟩) hS (fun q _ h => hFc q h) hFc (fun u9 t H1 locs ht hvm hr9 hB hz1 hk1 hS => ?_)
      obtain ⟨hP1, hK1, hD1⟩ := hB
      rw [ht] at hP1
      obtain ⟨hP, hD⟩ := xjoin (W := [(a2, .inr (3, [.ref a3, .ref a4, .ref p5, .ref p7, .int v9])), (a3, .inl (cT 1, 2048, .inl f3)), (a4, .inl (cT 1, 2048, .inl f4)), (p5, .inl (cT 1, 2048, .inl f6)), (p7, .inl (cT 1, 2048, .inl f8)), (a0, .inr (2, [.ref a1, .int v1, .int v2])), (a1, .inl (cT 2, 4096, .inr (.inl f0))), (a7, .inr (2, [.ref a8, .int w1, .int w2])), (a8, .inl (cT 2, 4096, .inr (.inl o7)))]) hP hD [5, 6] [0, 1, 2, 3, 4, 7, 8] 7 rfl rfl (by decide) (by decide) hk1 hFc hP1 hD1
      generalize H1 = H at hP hS ⊢
      obtain rfl := Option.some.inj hf
      obtain ⟨hP9, hD9⟩ := xsub (wc := [(a0, .inr (2, [.ref a1, .int v1, .int v2])), (a1, .inl (cT 2, 4096, .inr (.inl f0))), (a2, .inr (3, [.ref a3, .ref a4, .ref p5, .ref p7, .int v9])), (a3, .inl (cT 1, 2048, .inl f3)), (a4, .inl (cT 1, 2048, .inl f4)), (p5, .inl (cT 1, 2048, .inl f6)), (p7, .inl (cT 1, 2048, .inl f8)), (a7, .inr (2, [.ref a8, .int w1, .int w2])), (a8, .inl (cT 2, 4096, .inr (.inl o7)))]) hP hD [5, 6, 0, 1, 2, 3, 4, 7, 8] rfl rfl (by decide)
      exact W.vret hx hb hr (fun t ht hW => ⟨⟨(), rfl, trivial, by rw [ht]; exact hP9, va_K.moved hW.alike hK, hD9⟩, hS.F ht⟩) hS.2.2 dK_putSorted_46
    · rw [if_neg hc] at hf
      refine lv_aload_n hx hb dK_putSorted_18 rfl (lv_at hl 4 rfl) ?_
      refine lv_aload_n hx hb dK_putSorted_19 rfl (lv_at hl 2 rfl) ?_
      refine lv_aload_n hx hb dK_putSorted_20 rfl (lv_at hl 3 rfl) ?_
      refine lv_iload hx hb dK_putSorted_21 (lv_at hl 0 rfl) ?_
      obtain ⟨o4, hq5, hf⟩ := xbind hf
      obtain ⟨hPc, hDc, hFc⟩ := xcut (wc := [(a2, .inr (3, [.ref a3, .ref a4, .ref p5, .ref p7, .int v9])), (a3, .inl (cT 1, 2048, .inl f3)), (a4, .inl (cT 1, 2048, .inl f4)), (p5, .inl (cT 1, 2048, .inl f6)), (p7, .inl (cT 1, 2048, .inl f8))]) hP hD hS hA [0, 1, 2, 3, 4] rfl rfl (by decide)
      refine va_calli (va_runV (C := "ValueBench$Sorter") (As := [.int y4]) (rest := [.ref a0, .ref a7]) ⟨hx, hb, hml, hown, htx⟩ (gS_elementAtTurn l hl9 D cT aK aV H.size n a2 a3 a4 y4 f3 f4 p5 f6 p7 f8 v9 o4 hq5) ⟨callB_of 1 htx (xw_goodC kw_5_36) rfl rfl rfl (htx _ kw_1_3) (htx _ kw_5_33) ⟨by decide, by decide, by decide +kernel⟩ ⟨Nat.le_of_ble_eq_true rfl, Nat.le_of_ble_eq_true rfl⟩, (htx _ kw_5_34), (htx _ kw_5_35)⟩ ⟨xPre_blind, va_recv hK hP (ci := 3) rfl (q0 := 0) rfl, (fun U hU hW => ⟨rfl, xPre_of hZ hS hFc hPc hDc hK U hU hW⟩)⟩ rfl rfl hl.1 rfl (lv_room (Nat.le_of_ble_eq_true rfl)) dK_putSorted_23 ⟨Nat.le_of_ble_eq_true rfl, Nat.le_of_ble_eq_true rfl⟩) hS (fun q _ h => hFc q h) hFc (fun r6 u9 t H1 locs ht hvm hr9 hB hz1 hk1 hS => ?_)
      obtain ⟨hP1, hK1, hD1⟩ := hB
      rw [ht] at hP1
      obtain ⟨hP, hD⟩ := xjoin (W := [(a7, .inr (2, [.ref a8, .int w1, .int w2])), (a8, .inl (cT 2, 4096, .inr (.inl w0))), (a0, .inr (2, [.ref a1, .int v1, .int v2])), (a1, .inl (cT 2, 4096, .inr (.inl f0))), (a2, .inr (3, [.ref a3, .ref a4, .ref p5, .ref p7, .int v9])), (a3, .inl (cT 1, 2048, .inl f3)), (a4, .inl (cT 1, 2048, .inl f4)), (p5, .inl (cT 1, 2048, .inl f6)), (p7, .inl (cT 1, 2048, .inl f8))]) hP hD [0, 1, 2, 3, 4] [5, 6, 7, 8] 4 rfl rfl (by decide) (by decide) hk1 hFc hP1 hD1
      generalize H1 = H at hP hS ⊢
      rw [hr9]
      refine W.eq (g2 := F0 m 26 ls [.int o4, .ref a0, .ref a7]) rfl ?_
      obtain ⟨o7, hq8, hf⟩ := xbind hf
      obtain ⟨hPc, hDc, hFc⟩ := xcut (wc := [(a7, .inr (2, [.ref a8, .int w1, .int w2])), (a8, .inl (cT 2, 4096, .inr (.inl w0))), (a0, .inr (2, [.ref a1, .int v1, .int v2])), (a1, .inl (cT 2, 4096, .inr (.inl f0)))]) hP hD hS hA [0, 1, 2, 3] rfl rfl (by decide)
      refine va_callv (va_runV (C := "ValueBench$Row") (As := [.ref a0, .int o4]) (rest := []) ⟨hx, hb, hml, hown, htx⟩ (gR_putCopy l hl9 D cT aK aV H.size n a7 a8 a0 a1 o4 w0 w1 w2 f0 v1 v2 o7 hq8) ⟨callB_of 2 htx (xw_goodC kw_3_126) rfl rfl rfl (htx _ kw_1_4) (htx _ kw_5_37) ⟨by decide, by decide, by decide +kernel⟩ ⟨Nat.le_of_ble_eq_true rfl, Nat.le_of_ble_eq_true rfl⟩, (htx _ kw_3_124), (htx _ kw_3_125)⟩ ⟨xPre_blind, va_recv hK hP (ci := 2) rfl (q0 := 0) rfl, (fun U hU hW => ⟨rfl, xPre_of hZ hS hFc hPc hDc hK U hU hW⟩)⟩ rfl rfl hl.1 rfl (lv_room (Nat.le_of_ble_eq_true rfl)) dK_putSorted_26 ⟨Nat.le_of_ble_eq_true rfl, Nat.le_of_ble_eq_true rfl⟩) hS (fun q _ h => hFc q h) hFc (fun u9 t H1 locs ht hvm hr9 hB hz1 hk1 hS => ?_)
      obtain ⟨hP1, hK1, hD1⟩ := hB
      rw [ht] at hP1
      obtain ⟨hP, hD⟩ := xjoin (W := [(a2, .inr (3, [.ref a3, .ref a4, .ref p5, .ref p7, .int v9])), (a3, .inl (cT 1, 2048, .inl f3)), (a4, .inl (cT 1, 2048, .inl f4)), (p5, .inl (cT 1, 2048, .inl f6)), (p7, .inl (cT 1, 2048, .inl f8)), (a7, .inr (2, [.ref a8, .int o7.2.1, .int o7.2.2])), (a8, .inl (cT 2, 4096, .inr (.inl o7.1))), (a0, .inr (2, [.ref a1, .int v1, .int v2])), (a1, .inl (cT 2, 4096, .inr (.inl f0)))]) hP hD [0, 1, 2, 3] [4, 5, 6, 7, 8] 5 rfl rfl (by decide) (by decide) hk1 hFc hP1 hD1
      generalize H1 = H at hP hS ⊢
      refine lv_iinc (v := (y4 + 1)) (lv' := [(4, .int (y4 + 1)), (3, .int y3), (0, .ref a0), (1, .ref a2), (2, .ref a7)]) hx hb dK_putSorted_29 hl (k := 0) rfl rfl (by decide) rfl (fun ls hl => ?_)
      refine lv_goto (tgt := 8) hx hb dK_putSorted_32 (by decide) ?_
      obtain ⟨hP9, hD9⟩ := xsub (wc := [(a0, .inr (2, [.ref a1, .int v1, .int v2])), (a1, .inl (cT 2, 4096, .inr (.inl f0))), (a2, .inr (3, [.ref a3, .ref a4, .ref p5, .ref p7, .int v9])), (a3, .inl (cT 1, 2048, .inl f3)), (a4, .inl (cT 1, 2048, .inl f4)), (p5, .inl (cT 1, 2048, .inl f6)), (p7, .inl (cT 1, 2048, .inl f8)), (a7, .inr (2, [.ref a8, .int o7.2.1, .int o7.2.2])), (a8, .inl (cT 2, 4096, .inr (.inl o7.1)))]) hP hD [7, 8, 0, 1, 2, 3, 4, 5, 6] rfl rfl (by decide)
      exact ih (1, (y4 + 1), y3, o7.1, o7.2.1, o7.2.2) _ _ ls (⟨rfl, hf, hP9, hD9, hS, lv_sub hl [0, 1, 2, 3, 4] rfl⟩)
  refine lv_aload_n hx hb dK_putSorted_0 rfl (lv_at hl 2 rfl) ?_
  obtain ⟨o1, hq2, hf⟩ := xbind hf
  obtain ⟨hPc, hDc, hFc⟩ := xcut (wc := [(a7, .inr (2, [.ref a8, .int v11, .int v12])), (a8, .inl (cT 2, 4096, .inr (.inl f10)))]) hP hD hS hA [7, 8] rfl rfl (by decide)
  refine va_calli (va_runV (C := "ValueBench$Row") (As := []) (rest := []) ⟨hx, hb, hml, hown, htx⟩ (gR_open l hl9 D cT aK aV s.heap.size n a7 a8 f10 v11 v12 o1 hq2) ⟨callB_of 0 htx (xw_goodC kw_2_136) rfl rfl rfl (htx _ kw_1_4) (htx _ kw_5_32) ⟨by decide, by decide, by decide +kernel⟩ ⟨Nat.le_of_ble_eq_true rfl, Nat.le_of_ble_eq_true rfl⟩, (htx _ kw_2_134), (htx _ kw_2_135)⟩ ⟨xPre_blind, va_recv hK hP (ci := 2) rfl (q0 := 7) rfl, (fun U hU hW => ⟨rfl, xPre_of hZ hS hFc hPc hDc hK U hU hW⟩)⟩ rfl rfl hl.1 rfl (lv_room (Nat.le_of_ble_eq_true rfl)) dK_putSorted_1 ⟨Nat.le_of_ble_eq_true rfl, Nat.le_of_ble_eq_true rfl⟩) hS (fun q _ h => hFc q h) hFc (fun r3 u9 t H1 locs ht hvm hr9 hB hz1 hk1 hS => ?_)
  obtain ⟨hP1, hK1, hD1⟩ := hB
  rw [ht] at hP1
  obtain ⟨hP, hD⟩ := xjoin (W := [(a0, .inr (2, [.ref a1, .int v1, .int v2])), (a1, .inl (cT 2, 4096, .inr (.inl f0))), (a2, .inr (3, [.ref a3, .ref a4, .ref p5, .ref p7, .int v9])), (a3, .inl (cT 1, 2048, .inl f3)), (a4, .inl (cT 1, 2048, .inl f4)), (p5, .inl (cT 1, 2048, .inl f6)), (p7, .inl (cT 1, 2048, .inl f8)), (a7, .inr (2, [.ref a8, .int o1.2.2.1, .int o1.2.2.2])), (a8, .inl (cT 2, 4096, .inr (.inl o1.2.1)))]) hP hD [7, 8] [0, 1, 2, 3, 4, 5, 6] 7 rfl rfl (by decide) (by decide) hk1 hFc hP1 hD1
  generalize H1 = H at hP hS ⊢
  rw [hr9]
  refine W.eq (g2 := F0 m 4 ls [.int o1.1]) rfl ?_
  refine lv_istore_n (lv' := [(3, .int o1.1), (0, .ref a0), (1, .ref a2), (2, .ref a7)]) hx hb dK_putSorted_4 rfl hl (by decide) rfl (fun ls hl => ?_)
  refine lv_iconst (v := 0) hx hb dK_putSorted_5 (by decide) ?_
  refine lv_istore (lv' := [(4, .int 0), (3, .int o1.1), (0, .ref a0), (1, .ref a2), (2, .ref a7)]) hx hb dK_putSorted_6 hl (by decide) rfl (fun ls hl => ?_)
  obtain ⟨hP9, hD9⟩ := xsub (wc := [(a0, .inr (2, [.ref a1, .int v1, .int v2])), (a1, .inl (cT 2, 4096, .inr (.inl f0))), (a2, .inr (3, [.ref a3, .ref a4, .ref p5, .ref p7, .int v9])), (a3, .inl (cT 1, 2048, .inl f3)), (a4, .inl (cT 1, 2048, .inl f4)), (p5, .inl (cT 1, 2048, .inl f6)), (p7, .inl (cT 1, 2048, .inl f8)), (a7, .inr (2, [.ref a8, .int o1.2.2.1, .int o1.2.2.2])), (a8, .inl (cT 2, 4096, .inr (.inl o1.2.1)))]) hP hD [0, 1, 2, 3, 4, 5, 6, 7, 8] rfl rfl (by decide)
  exact key n (1, 0, o1.1, o1.2.1, o1.2.2.1, o1.2.2.2) _ _ ls (⟨rfl, hf, hP9, hD9, hS, lv_sub hl [0, 1, 2, 3, 4] rfl⟩)
set_option maxHeartbeats 400000000 in
set_option maxRecDepth 100000 in
theorem gK_beginsGroup (l : Launch) (hl9 : l.stackTraces = false) (D : va_G) (cT : Nat → ClassId) (aK aV : Nat → Nat) (sz d n : Nat) (a0 : Nat) (a1 : Nat) (a2 : Nat) (a3 : Nat) (a4 : Nat) (x1 : Int32) (f0 : Nat → Int64) (v1 : Int32) (v2 : Int32) (f3 : Nat → Int32) (f4 : Nat → Int32) (p5 : Nat) (f6 : Nat → Int32) (p7 : Nat) (f8 : Nat → Int32) (v9 : Int32) (out : Int32) (hf : fK_beginsGroup d n x1 f0 v1 v2 f3 f4 p5 f6 p7 f8 v9 = some out) : xMet l yK_beginsGroup wyK_beginsGroup (16 * d + 1) 0 0 (400 * d + 24) D cT aK aV sz [.ref a0, .int x1, .ref a2] [(a0, .inr (2, [.ref a1, .int v1, .int v2])), (a1, .inl (cT 2, 4096, .inr (.inl f0))), (a2, .inr (3, [.ref a3, .ref a4, .ref p5, .ref p7, .int v9])), (a3, .inl (cT 1, 2048, .inl f3)), (a4, .inl (cT 1, 2048, .inl f4)), (p5, .inl (cT 1, 2048, .inl f6)), (p7, .inl (cT 1, 2048, .inl f8))] (fun A => va_Qi (fun (r : Int32) (_ : Unit) => r = out) (fun _ t => xB D xcl cT A [(a0, .inr (2, [.ref a1, .int v1, .int v2])), (a1, .inl (cT 2, 4096, .inr (.inl f0))), (a2, .inr (3, [.ref a3, .ref a4, .ref p5, .ref p7, .int v9])), (a3, .inl (cT 1, 2048, .inl f3)), (a4, .inl (cT 1, 2048, .inl f4)), (p5, .inl (cT 1, 2048, .inl f6)), (p7, .inl (cT 1, 2048, .inl f8))] t) A) := by
  refine Met.ofW (cc := prog_2_method_5_code) (maxL := 3) (ret := (some .boolean)) (by decide) rfl ?_
  intro p e s m args below meth c s₁ B hml hv
  obtain ⟨rfl, hsz, hZ, hP, hK, hD0⟩ := hv
  have hx := B.exec
  have hb := B.bytes
  have hr := B.returns
  have hts := atoms_spec (ws := wyK_beginsGroup) B.pre
  have htx := fun w h => hts w (List.mem_cons_of_mem _ h)
  have hown : s.vm.findClass "ValueBench$Keyed" = some m.cls := findClass_of_methodNamed B.named
  have hlocks := B.notSynchronized
  subst hsz
  have hD := hD0.self (sz := s.heap.size)
  generalize hAe : va_A [(a0, .inr (2, [.ref a1, .int v1, .int v2])), (a1, .inl (cT 2, 4096, .inr (.inl f0))), (a2, .inr (3, [.ref a3, .ref a4, .ref p5, .ref p7, .int v9])), (a3, .inl (cT 1, 2048, .inl f3)), (a4, .inl (cT 1, 2048, .inl f4)), (p5, .inl (cT 1, 2048, .inl f6)), (p7, .inl (cT 1, 2048, .inl f8))] s.heap.size = A at hD hZ ⊢
  have hA : ∀ q : Nat, s.heap.size ≤ q → A q := fun q h => by rw [← hAe]; exact Or.inr h
  have hS : va_S A s.heap s.heap [] := va_S.rf
  have hP : va_P D xcl [(a0, .inr (2, [.ref a1, .int v1, .int v2])), (a1, .inl (cT 2, 4096, .inr (.inl f0))), (a2, .inr (3, [.ref a3, .ref a4, .ref p5, .ref p7, .int v9])), (a3, .inl (cT 1, 2048, .inl f3)), (a4, .inl (cT 1, 2048, .inl f4)), (p5, .inl (cT 1, 2048, .inl f6)), (p7, .inl (cT 1, 2048, .inl f8))] s.heap := hP
  have hl := lv_entry ([.ref a0, .int x1, .ref a2]) (n := 3) (Nat.le_of_ble_eq_true rfl)
  rw [lg_entry_eq]
  generalize (lg_sl ([.ref a0, .int x1, .ref a2]) ++ List.replicate (3 - (lg_sl ([.ref a0, .int x1, .ref a2])).length) Slot.unset).toArray = ls at hl ⊢
  have hl : lv_has ls 3 [(0, .ref a0), (1, .int x1), (2, .ref a2)] := hl
  unfold fK_beginsGroup at hf
  refine lv_iload_n hx hb dK_beginsGroup_0 rfl (lv_at hl 1 rfl) ?_
  refine lv_if_eq (tgt := 25) hx hb dK_beginsGroup_1 (by decide) (fun hc => ?_) (fun hc => ?_)
  · rw [if_pos hc] at hf
    refine lv_iconst (v := 1) hx hb dK_beginsGroup_25 (by decide) ?_
    refine lv_goto (tgt := 30) hx hb dK_beginsGroup_26 (by decide) ?_
    obtain rfl := Option.some.inj hf
    obtain ⟨hP9, hD9⟩ := xsub (wc := [(a0, .inr (2, [.ref a1, .int v1, .int v2])), (a1, .inl (cT 2, 4096, .inr (.inl f0))), (a2, .inr (3, [.ref a3, .ref a4, .ref p5, .ref p7, .int v9])), (a3, .inl (cT 1, 2048, .inl f3)), (a4, .inl (cT 1, 2048, .inl f4)), (p5, .inl (cT 1, 2048, .inl f6)), (p7, .inl (cT 1, 2048, .inl f8))]) hP hD [0, 1, 2, 3, 4, 5, 6] rfl rfl (by decide)
    exact W.zret (v := (1 : Int32)) hx hb hr rfl (fun t ht hW => ⟨⟨(1 : Int32), (), rfl, rfl, by rw [ht]; exact hP9, va_K.moved hW.alike hK, hD9⟩, hS.F ht⟩) hS.2.2 dK_beginsGroup_30
  · rw [if_neg hc] at hf
    refine lv_aload_n hx hb dK_beginsGroup_4 rfl (lv_at hl 0 rfl) ?_
    refine lv_aload_n hx hb dK_beginsGroup_5 rfl (lv_at hl 2 rfl) ?_
    refine lv_iload_n hx hb dK_beginsGroup_6 rfl (lv_at hl 1 rfl) ?_
    refine lv_iconst (v := 1) hx hb dK_beginsGroup_7 (by decide) ?_
    refine lv_isub hx hb dK_beginsGroup_8 ?_
    obtain ⟨o1, hq2, hf⟩ := xbind hf
    obtain ⟨hPc, hDc, hFc⟩ := xcut (wc := [(a2, .inr (3, [.ref a3, .ref a4, .ref p5, .ref p7, .int v9])), (a3, .inl (cT 1, 2048, .inl f3)), (a4, .inl (cT 1, 2048, .inl f4)), (p5, .inl (cT 1, 2048, .inl f6)), (p7, .inl (cT 1, 2048, .inl f8))]) hP hD hS hA [2, 3, 4, 5, 6] rfl rfl (by decide)
    refine va_calli (va_runV (C := "ValueBench$Sorter") (As := [.int (x1 - (1 : Int32))]) (rest := [.ref a0]) ⟨hx, hb, hml, hown, htx⟩ (gS_keyAtTurn l hl9 D cT aK aV s.heap.size n a2 a3 a4 (x1 - (1 : Int32)) f3 f4 p5 f6 p7 f8 v9 o1 hq2) ⟨callB_of 1 htx (xw_goodC kw_4_66) rfl rfl rfl (htx _ kw_1_3) (htx _ kw_5_45) ⟨by decide, by decide, by decide +kernel⟩ ⟨Nat.le_of_ble_eq_true rfl, Nat.le_of_ble_eq_true rfl⟩, (htx _ kw_4_64), (htx _ kw_4_65)⟩ ⟨xPre_blind, va_recv hK hP (ci := 3) rfl (q0 := 2) rfl, (fun U hU hW => ⟨rfl, xPre_of hZ hS hFc hPc hDc hK U hU hW⟩)⟩ rfl rfl hl.1 rfl (lv_room (Nat.le_of_ble_eq_true rfl)) dK_beginsGroup_9 ⟨Nat.le_of_ble_eq_true rfl, Nat.le_of_ble_eq_true rfl⟩) hS (fun q _ h => hFc q h) hFc (fun r3 u9 t H1 locs ht hvm hr9 hB hz1 hk1 hS => ?_)
    obtain ⟨hP1, hK1, hD1⟩ := hB
    rw [ht] at hP1
    obtain ⟨hP, hD⟩ := xjoin (W := [(a0, .inr (2, [.ref a1, .int v1, .int v2])), (a1, .inl (cT 2, 4096, .inr (.inl f0))), (a2, .inr (3, [.ref a3, .ref a4, .ref p5, .ref p7, .int v9])), (a3, .inl (cT 1, 2048, .inl f3)), (a4, .inl (cT 1, 2048, .inl f4)), (p5, .inl (cT 1, 2048, .inl f6)), (p7, .inl (cT 1, 2048, .inl f8))]) hP hD [2, 3, 4, 5, 6] [0, 1] 2 rfl rfl (by decide) (by decide) hk1 hFc hP1 hD1
    generalize H1 = H at hP hS ⊢
    rw [hr9]
    refine W.eq (g2 := F0 m 12 ls [.int o1, .ref a0]) rfl ?_
    refine lv_aload_n hx hb dK_beginsGroup_12 rfl (lv_at hl 0 rfl) ?_
    refine lv_aload_n hx hb dK_beginsGroup_13 rfl (lv_at hl 2 rfl) ?_
    refine lv_iload_n hx hb dK_beginsGroup_14 rfl (lv_at hl 1 rfl) ?_
    obtain ⟨o4, hq5, hf⟩ := xbind hf
    obtain ⟨hPc, hDc, hFc⟩ := xcut (wc := [(a2, .inr (3, [.ref a3, .ref a4, .ref p5, .ref p7, .int v9])), (a3, .inl (cT 1, 2048, .inl f3)), (a4, .inl (cT 1, 2048, .inl f4)), (p5, .inl (cT 1, 2048, .inl f6)), (p7, .inl (cT 1, 2048, .inl f8))]) hP hD hS hA [2, 3, 4, 5, 6] rfl rfl (by decide)
    refine va_calli (va_runV (C := "ValueBench$Sorter") (As := [.int x1]) (rest := [.ref a0, .int o1, .ref a0]) ⟨hx, hb, hml, hown, htx⟩ (gS_keyAtTurn l hl9 D cT aK aV H.size n a2 a3 a4 x1 f3 f4 p5 f6 p7 f8 v9 o4 hq5) ⟨callB_of 1 htx (xw_goodC kw_4_66) rfl rfl rfl (htx _ kw_1_3) (htx _ kw_5_45) ⟨by decide, by decide, by decide +kernel⟩ ⟨Nat.le_of_ble_eq_true rfl, Nat.le_of_ble_eq_true rfl⟩, (htx _ kw_4_64), (htx _ kw_4_65)⟩ ⟨xPre_blind, va_recv hK hP (ci := 3) rfl (q0 := 2) rfl, (fun U hU hW => ⟨rfl, xPre_of hZ hS hFc hPc hDc hK U hU hW⟩)⟩ rfl rfl hl.1 rfl (lv_room (Nat.le_of_ble_eq_true rfl)) dK_beginsGroup_15 ⟨Nat.le_of_ble_eq_true rfl, Nat.le_of_ble_eq_true rfl⟩) hS (fun q _ h => hFc q h) hFc (fun r6 u9 t H1 locs ht hvm hr9 hB hz1 hk1 hS => ?_)
    obtain ⟨hP1, hK1, hD1⟩ := hB
    rw [ht] at hP1
    obtain ⟨hP, hD⟩ := xjoin (W := [(a0, .inr (2, [.ref a1, .int v1, .int v2])), (a1, .inl (cT 2, 4096, .inr (.inl f0))), (a2, .inr (3, [.ref a3, .ref a4, .ref p5, .ref p7, .int v9])), (a3, .inl (cT 1, 2048, .inl f3)), (a4, .inl (cT 1, 2048, .inl f4)), (p5, .inl (cT 1, 2048, .inl f6)), (p7, .inl (cT 1, 2048, .inl f8))]) hP hD [2, 3, 4, 5, 6] [0, 1] 2 rfl rfl (by decide) (by decide) hk1 hFc hP1 hD1
    generalize H1 = H at hP hS ⊢
    rw [hr9]
    refine W.eq (g2 := F0 m 18 ls [.int o4, .ref a0, .int o1, .ref a0]) rfl ?_
    refine lv_iconst (v := 0) hx hb dK_beginsGroup_18 (by decide) ?_
    obtain ⟨o7, hq8, hf⟩ := xbind hf
    obtain ⟨hPc, hDc, hFc⟩ := xcut (wc := [(a0, .inr (2, [.ref a1, .int v1, .int v2])), (a1, .inl (cT 2, 4096, .inr (.inl f0)))]) hP hD hS hA [0, 1] rfl rfl (by decide)
    refine va_calli (va_runS (As := [.ref a0, .int o1, .ref a0, .int o4, .int 0]) (rest := []) ⟨hx, hb, hml, hown, htx⟩ (gO_ofa l hl9 D cT aK aV d H.size n a0 a1 o1 o4 (0 : Int32) f0 v1 v2 o7 hq8) ⟨callB_of 5 htx (xw_goodC kw_3_165) rfl rfl rfl (htx _ kw_1_23) (htx _ kw_5_46) ⟨by decide, by decide, by decide +kernel⟩ ⟨(by show (16 * d) + 1 ≤ 16 * d + 1; omega), (by show 8 + (5 + 11) + (400 * d) ≤ 400 * d + 24; omega)⟩, htx _ kw_3_164⟩ ⟨xPre_blind, (fun U hU hW => ⟨rfl, xPre_of hZ hS hFc hPc hDc hK U hU hW⟩)⟩ rfl rfl hl.1 rfl (lv_room (Nat.le_of_ble_eq_true rfl)) dK_beginsGroup_19 ⟨Nat.le_of_ble_eq_true rfl, Nat.le_of_ble_eq_true rfl⟩) hS (fun q _ h => hFc q h) hFc (fun r9 u9 t H1 locs ht hvm hr9 hB hz1 hk1 hS => ?_)
    obtain ⟨hP1, hK1, hD1⟩ := hB
    rw [ht] at hP1
    obtain ⟨hP, hD⟩ := xjoin (W := [(a2, .inr (3, [.ref a3, .ref a4, .ref p5, .ref p7, .int v9])), (a3, .inl (cT 1, 2048, .inl f3)), (a4, .inl (cT 1, 2048, .inl f4)), (p5, .inl (cT 1, 2048, .inl f6)), (p7, .inl (cT 1, 2048, .inl f8)), (a0, .inr (2, [.ref a1, .int v1, .int v2])), (a1, .inl (cT 2, 4096, .inr (.inl f0)))]) hP hD [0, 1] [2, 3, 4, 5, 6] 5 rfl rfl (by decide) (by decide) hk1 hFc hP1 hD1
    generalize H1 = H at hP hS ⊢
    rw [hr9]
    refine W.eq (g2 := F0 m 22 ls [.int o7]) rfl ?_
    refine lv_if_eq (tgt := 29) hx hb dK_beginsGroup_22 (by decide) (fun hc => ?_) (fun hc => ?_)
    · rw [if_pos hc] at hf
      refine lv_iconst (v := 0) hx hb dK_beginsGroup_29 (by decide) ?_
      obtain rfl := Option.some.inj hf
      obtain ⟨hP9, hD9⟩ := xsub (wc := [(a0, .inr (2, [.ref a1, .int v1, .int v2])), (a1, .inl (cT 2, 4096, .inr (.inl f0))), (a2, .inr (3, [.ref a3, .ref a4, .ref p5, .ref p7, .int v9])), (a3, .inl (cT 1, 2048, .inl f3)), (a4, .inl (cT 1, 2048, .inl f4)), (p5, .inl (cT 1, 2048, .inl f6)), (p7, .inl (cT 1, 2048, .inl f8))]) hP hD [5, 6, 0, 1, 2, 3, 4] rfl rfl (by decide)
      exact W.zret (v := (0 : Int32)) hx hb hr rfl (fun t ht hW => ⟨⟨(0 : Int32), (), rfl, rfl, by rw [ht]; exact hP9, va_K.moved hW.alike hK, hD9⟩, hS.F ht⟩) hS.2.2 dK_beginsGroup_30
    · rw [if_neg hc] at hf
      refine lv_iconst (v := 1) hx hb dK_beginsGroup_25 (by decide) ?_
      refine lv_goto (tgt := 30) hx hb dK_beginsGroup_26 (by decide) ?_
      obtain rfl := Option.some.inj hf
      obtain ⟨hP9, hD9⟩ := xsub (wc := [(a0, .inr (2, [.ref a1, .int v1, .int v2])), (a1, .inl (cT 2, 4096, .inr (.inl f0))), (a2, .inr (3, [.ref a3, .ref a4, .ref p5, .ref p7, .int v9])), (a3, .inl (cT 1, 2048, .inl f3)), (a4, .inl (cT 1, 2048, .inl f4)), (p5, .inl (cT 1, 2048, .inl f6)), (p7, .inl (cT 1, 2048, .inl f8))]) hP hD [5, 6, 0, 1, 2, 3, 4] rfl rfl (by decide)
      exact W.zret (v := (1 : Int32)) hx hb hr rfl (fun t ht hW => ⟨⟨(1 : Int32), (), rfl, rfl, by rw [ht]; exact hP9, va_K.moved hW.alike hK, hD9⟩, hS.F ht⟩) hS.2.2 dK_beginsGroup_30
set_option maxHeartbeats 400000000 in
set_option maxRecDepth 100000 in
theorem gK_putGroup (l : Launch) (hl9 : l.stackTraces = false) (D : va_G) (cT : Nat → ClassId) (aK aV : Nat → Nat) (sz d n : Nat) (a0 : Nat) (a1 : Nat) (a2 : Nat) (a3 : Nat) (a4 : Nat) (a5 : Nat) (a6 : Nat) (a9 : Nat) (a10 : Nat) (x2 : Int32) (f0 : Nat → Int64) (v1 : Int32) (v2 : Int32) (f3 : Nat → Int64) (v4 : Int32) (v5 : Int32) (f6 : Nat → Int32) (f7 : Nat → Int32) (p8 : Nat) (f9 : Nat → Int32) (p10 : Nat) (f11 : Nat → Int32) (v12 : Int32) (f13 : Nat → Int64) (v14 : Int32) (v15 : Int32) (out : (Nat → Int64) × Int32 × Int32) (hf : fK_putGroup d n x2 f0 v1 v2 f3 v4 v5 f6 f7 p8 f9 p10 f11 v12 f13 v14 v15 = some out) : xMet l yK_putGroup wyK_putGroup (16 * d + 3) 0 0 (400 * d + 105) D cT aK aV sz [.ref a0, .ref a2, .int x2, .ref a4, .ref a9] [(a0, .inr (2, [.ref a1, .int v1, .int v2])), (a1, .inl (cT 2, 4096, .inr (.inl f0))), (a2, .inr (2, [.ref a3, .int v4, .int v5])), (a3, .inl (cT 2, 4096, .inr (.inl f3))), (a4, .inr (3, [.ref a5, .ref a6, .ref p8, .ref p10, .int v12])), (a5, .inl (cT 1, 2048, .inl f6)), (a6, .inl (cT 1, 2048, .inl f7)), (p8, .inl (cT 1, 2048, .inl f9)), (p10, .inl (cT 1, 2048, .inl f11)), (a9, .inr (2, [.ref a10, .int v14, .int v15])), (a10, .inl (cT 2, 4096, .inr (.inl f13)))] (fun A => va_Qv (fun _ : Unit => True) (fun _ t => xB D xcl cT A [(a0, .inr (2, [.ref a1, .int v1, .int v2])), (a1, .inl (cT 2, 4096, .inr (.inl f0))), (a2, .inr (2, [.ref a3, .int v4, .int v5])), (a3, .inl (cT 2, 4096, .inr (.inl f3))), (a4, .inr (3, [.ref a5, .ref a6, .ref p8, .ref p10, .int v12])), (a5, .inl (cT 1, 2048, .inl f6)), (a6, .inl (cT 1, 2048, .inl f7)), (p8, .inl (cT 1, 2048, .inl f9)), (p10, .inl (cT 1, 2048, .inl f11)), (a9, .inr (2, [.ref a10, .int out.2.1, .int out.2.2])), (a10, .inl (cT 2, 4096, .inr (.inl out.1)))] t) A) := by
  refine Met.ofW (cc := prog_2_method_7_code) (maxL := 7) (ret := none) (by decide) rfl ?_
  intro p e s m args below meth c s₁ B hml hv
  obtain ⟨rfl, hsz, hZ, hP, hK, hD0⟩ := hv
  have hx := B.exec
  have hb := B.bytes
  have hr := B.returns
  have hts := atoms_spec (ws := wyK_putGroup) B.pre
  have htx := fun w h => hts w (List.mem_cons_of_mem _ h)
  have hown : s.vm.findClass "ValueBench$Keyed" = some m.cls := findClass_of_methodNamed B.named
  have hlocks := B.notSynchronized
  subst hsz
  have hD := hD0.self (sz := s.heap.size)
  generalize hAe : va_A [(a0, .inr (2, [.ref a1, .int v1, .int v2])), (a1, .inl (cT 2, 4096, .inr (.inl f0))), (a2, .inr (2, [.ref a3, .int v4, .int v5])), (a3, .inl (cT 2, 4096, .inr (.inl f3))), (a4, .inr (3, [.ref a5, .ref a6, .ref p8, .ref p10, .int v12])), (a5, .inl (cT 1, 2048, .inl f6)), (a6, .inl (cT 1, 2048, .inl f7)), (p8, .inl (cT 1, 2048, .inl f9)), (p10, .inl (cT 1, 2048, .inl f11)), (a9, .inr (2, [.ref a10, .int v14, .int v15])), (a10, .inl (cT 2, 4096, .inr (.inl f13)))] s.heap.size = A at hD hZ ⊢
  have hA : ∀ q : Nat, s.heap.size ≤ q → A q := fun q h => by rw [← hAe]; exact Or.inr h
  have hS : va_S A s.heap s.heap [] := va_S.rf
  have hP : va_P D xcl [(a0, .inr (2, [.ref a1, .int v1, .int v2])), (a1, .inl (cT 2, 4096, .inr (.inl f0))), (a2, .inr (2, [.ref a3, .int v4, .int v5])), (a3, .inl (cT 2, 4096, .inr (.inl f3))), (a4, .inr (3, [.ref a5, .ref a6, .ref p8, .ref p10, .int v12])), (a5, .inl (cT 1, 2048, .inl f6)), (a6, .inl (cT 1, 2048, .inl f7)), (p8, .inl (cT 1, 2048, .inl f9)), (p10, .inl (cT 1, 2048, .inl f11)), (a9, .inr (2, [.ref a10, .int v14, .int v15])), (a10, .inl (cT 2, 4096, .inr (.inl f13)))] s.heap := hP
  have hl := lv_entry ([.ref a0, .ref a2, .int x2, .ref a4, .ref a9]) (n := 7) (Nat.le_of_ble_eq_true rfl)
  rw [lg_entry_eq]
  generalize (lg_sl ([.ref a0, .ref a2, .int x2, .ref a4, .ref a9]) ++ List.replicate (7 - (lg_sl ([.ref a0, .ref a2, .int x2, .ref a4, .ref a9])).length) Slot.unset).toArray = ls at hl ⊢
  have hl : lv_has ls 7 [(0, .ref a0), (1, .ref a2), (2, .int x2), (3, .ref a4), (4, .ref a9)] := hl
  unfold fK_putGroup at hf
  refine xloopK (σ := Nat × Int32 × Int32 × Int32 × (Nat → Int64) × Int32 × Int32) (fun n x H locs ls => (x.1 = 1 ∧ fK_putGroup_b d f0 v1 v2 f3 v4 v5 f6 f7 p8 f9 p10 f11 v12 n x.1 x.2.1 x.2.2.1 x.2.2.2.1 x.2.2.2.2.1 x.2.2.2.2.2.1 x.2.2.2.2.2.2 = some out ∧ va_P D xcl [(a0, .inr (2, [.ref a1, .int v1, .int v2])), (a1, .inl (cT 2, 4096, .inr (.inl f0))), (a2, .inr (2, [.ref a3, .int v4, .int v5])), (a3, .inl (cT 2, 4096, .inr (.inl f3))), (a4, .inr (3, [.ref a5, .ref a6, .ref p8, .ref p10, .int v12])), (a5, .inl (cT 1, 2048, .inl f6)), (a6, .inl (cT 1, 2048, .inl f7)), (p8, .inl (cT 1, 2048, .inl f9)), (p10, .inl (cT 1, 2048, .inl f11)), (a9, .inr (2, [.ref a10, .int x.2.2.2.2.2.1, .int x.2.2.2.2.2.2])), (a10, .inl (cT 2, 4096, .inr (.inl x.2.2.2.2.1)))] H ∧ va_D A [(a0, .inr (2, [.ref a1, .int v1, .int v2])), (a1, .inl (cT 2, 4096, .inr (.inl f0))), (a2, .inr (2, [.ref a3, .int v4, .int v5])), (a3, .inl (cT 2, 4096, .inr (.inl f3))), (a4, .inr (3, [.ref a5, .ref a6, .ref p8, .ref p10, .int v12])), (a5, .inl (cT 1, 2048, .inl f6)), (a6, .inl (cT 1, 2048, .inl f7)), (p8, .inl (cT 1, 2048, .inl f9)), (p10, .inl (cT 1, 2048, .inl f11)), (a9, .inr (2, [.ref a10, .int x.2.2.2.2.2.1, .int x.2.2.2.2.2.2])), (a10, .inl (cT 2, 4096, .inr (.inl x.2.2.2.2.1)))] ∧ va_S A s.heap H locs ∧ lv_has ls 7 [(6, .int x.2.1), (5, .int x.2.2.1), (0, .ref a0), (1, .ref a2), (2, .int x.2.2.2.1), (3, .ref a4), (4, .ref a9)])) (fun x => 23) (fun x H locs ls h => by exact absurd h.2.1 (by rw [fK_putGroup_b]; exact fun h => nomatch h)) (fun n ih x H locs ls hv => ?_) (fun key => ?_)
  · obtain ⟨lb, y6, y5, y2, w0, w1, w2⟩ := x
    rcases hv with ⟨hj, hf, hP, hD, hS, hl⟩
    subst hj
    have hf : fK_putGroup_b d f0 v1 v2 f3 v4 v5 f6 f7 p8 f9 p10 f11 v12 (n + 1) 1 y6 y5 y2 w0 w1 w2 = some out := hf
    rw [fK_putGroup_b] at hf
    obtain ⟨hP, hD⟩ : xPD D xcl A [(a0, .inr (2, [.ref a1, .int v1, .int v2])), (a1, .inl (cT 2, 4096, .inr (.inl f0))), (a2, .inr (2, [.ref a3, .int v4, .int v5])), (a3, .inl (cT 2, 4096, .inr (.inl f3))), (a4, .inr (3, [.ref a5, .ref a6, .ref p8, .ref p10, .int v12])), (a5, .inl (cT 1, 2048, .inl f6)), (a6, .inl (cT 1, 2048, .inl f7)), (p8, .inl (cT 1, 2048, .inl f9)), (p10, .inl (cT 1, 2048, .inl f11)), (a9, .inr (2, [.ref a10, .int w1, .int w2])), (a10, .inl (cT 2, 4096, .inr (.inl w0)))] H := ⟨hP, hD⟩
    have hl : lv_has ls 7 [(6, .int y6), (5, .int y5), (0, .ref a0), (1, .ref a2), (2, .int y2), (3, .ref a4), (4, .ref a9)] := hl
    refine W.eq (g2 := F0 m 23 ls []) rfl ?_
    refine lv_iload hx hb dK_putGroup_23 (lv_at hl 0 rfl) ?_
    refine lv_aload_n hx hb dK_putGroup_25 rfl (lv_at hl 2 rfl) ?_
    refine lv_iconst (v := 0) hx hb dK_putGroup_26 (by decide) ?_
    obtain ⟨o1, hq2, hf⟩ := xbind hf
    obtain ⟨hPc, hDc, hFc⟩ := xcut (wc := [(a0, .inr (2, [.ref a1, .int v1, .int v2])), (a1, .inl (cT 2, 4096, .inr (.inl f0)))]) hP hD hS hA [0, 1] rfl rfl (by decide)
    refine va_calli (va_runV (C := "ValueBench$Row") (As := [.int 0]) (rest := [.int y6]) ⟨hx, hb, hml, hown, htx⟩ (gR_length l hl9 D cT aK aV H.size n a0 a1 (0 : Int32) f0 v1 v2 o1 hq2) ⟨callB_of 1 htx (xw_goodC kw_2_191) rfl rfl rfl (htx _ kw_1_4) (htx _ kw_5_23) ⟨by decide, by decide, by decide +kernel⟩ ⟨Nat.le_of_ble_eq_true rfl, Nat.le_of_ble_eq_true rfl⟩, (htx _ kw_2_189), (htx _ kw_2_190)⟩ ⟨xPre_blind, va_recv hK hP (ci := 2) rfl (q0 := 0) rfl, (fun U hU hW => ⟨rfl, xPre_of hZ hS hFc hPc hDc hK U hU hW⟩)⟩ rfl rfl hl.1 rfl (lv_room (Nat.le_of_ble_eq_true rfl)) dK_putGroup_27 ⟨Nat.le_of_ble_eq_true rfl, Nat.le_of_ble_eq_true rfl⟩) hS (fun q _ h => hFc q h) hFc (fun r3 u9 t H1 locs ht hvm hr9 hB hz1 hk1 hS => ?_)
    obtain ⟨hP1, hK1, hD1⟩ := hB
    rw [ht] at hP1
    obtain ⟨hP, hD⟩ := xjoin (W := [(a2, .inr (2, [.ref a3, .int v4, .int v5])), (a3, .inl (cT 2, 4096, .inr (.inl f3))), (a4, .inr (3, [.ref a5, .ref a6, .ref p8, .ref p10, .int v12])), (a5, .inl (cT 1, 2048, .inl f6)), (a6, .inl (cT 1, 2048, .inl f7)), (p8, .inl (cT 1, 2048, .inl f9)), (p10, .inl (cT 1, 2048, .inl f11)), (a9, .inr (2, [.ref a10, .int w1, .int w2])), (a10, .inl (cT 2, 4096, .inr (.inl w0))), (a0, .inr (2, [.ref a1, .int v1, .int v2])), (a1, .inl (cT 2, 4096, .inr (.inl f0)))]) hP hD [0, 1] [2, 3, 4, 5, 6, 7, 8, 9, 10] 9 rfl rfl (by decide) (by decide) hk1 hFc hP1 hD1
    generalize H1 = H at hP hS ⊢
    rw [hr9]
    refine W.eq (g2 := F0 m 30 ls [.int o1, .int y6]) rfl ?_
    refine lv_icmp_ge (tgt := 61) hx hb dK_putGroup_30 (by decide) (fun hc => ?_) (fun hc => ?_)
    · rw [if_pos hc] at hf
      refine lv_aload hx hb dK_putGroup_61 (lv_at hl 6 rfl) ?_
      refine lv_iload hx hb dK_putGroup_63 (lv_at hl 1 rfl) ?_
      refine lv_iconst (v := 5) hx hb dK_putGroup_65 (by decide) ?_
      refine lv_iload hx hb dK_putGroup_66 (lv_at hl 0 rfl) ?_
      refine lv_iload_n hx hb dK_putGroup_68 rfl (lv_at hl 4 rfl) ?_
      refine lv_isub hx hb dK_putGroup_69 ?_
      obtain ⟨o4, hq5, hf⟩ := xbind hf
      obtain ⟨hPc, hDc, hFc⟩ := xcut (wc := [(a9, .inr (2, [.ref a10, .int w1, .int w2])), (a10, .inl (cT 2, 4096, .inr (.inl w0)))]) hP hD hS hA [7, 8] rfl rfl (by decide)
      refine va_callv (va_runV (C := "ValueBench$Row") (As := [.int y5, .int 5, .int (y6 - y2)]) (rest := []) ⟨hx, hb, hml, hown, htx⟩ (gR_close l hl9 D cT aK aV H.size n a9 a10 y5 (5 : Int32) (y6 - y2) w0 w1 w2 o4 hq5) ⟨callB_of 3 htx (xw_goodC kw_2_167) rfl rfl rfl (htx _ kw_1_4) (htx _ kw_5_38) ⟨by decide, by decide, by decide +kernel⟩ ⟨Nat.le_of_ble_eq_true rfl, Nat.le_of_ble_eq_true rfl⟩, (htx _ kw_2_165), (htx _ kw_2_166)⟩ ⟨xPre_blind, va_recv hK hP (ci := 2) rfl (q0 := 7) rfl, (fun U hU hW => ⟨rfl, xPre_of hZ hS hFc hPc hDc hK U hU hW⟩)⟩ rfl rfl hl.1 rfl (lv_room (Nat.le_of_ble_eq_true rfl)) dK_putGroup_70 ⟨Nat.le_of_ble_eq_true rfl, Nat.le_of_ble_eq_true rfl⟩) hS (fun q _ h => hFc q h) hFc (fun u9 t H1 locs ht hvm hr9 hB hz1 hk1 hS => ?_)
      obtain ⟨hP1, hK1, hD1⟩ := hB
      rw [ht] at hP1
      obtain ⟨hP, hD⟩ := xjoin (W := [(a2, .inr (2, [.ref a3, .int v4, .int v5])), (a3, .inl (cT 2, 4096, .inr (.inl f3))), (a4, .inr (3, [.ref a5, .ref a6, .ref p8, .ref p10, .int v12])), (a5, .inl (cT 1, 2048, .inl f6)), (a6, .inl (cT 1, 2048, .inl f7)), (p8, .inl (cT 1, 2048, .inl f9)), (p10, .inl (cT 1, 2048, .inl f11)), (a0, .inr (2, [.ref a1, .int v1, .int v2])), (a1, .inl (cT 2, 4096, .inr (.inl f0))), (a9, .inr (2, [.ref a10, .int w1, .int w2])), (a10, .inl (cT 2, 4096, .inr (.inl o4)))]) hP hD [7, 8] [0, 1, 2, 3, 4, 5, 6, 9, 10] 9 rfl rfl (by decide) (by decide) hk1 hFc hP1 hD1
      generalize H1 = H at hP hS ⊢
      obtain rfl := Option.some.inj hf
      obtain ⟨hP9, hD9⟩ := xsub (wc := [(a0, .inr (2, [.ref a1, .int v1, .int v2])), (a1, .inl (cT 2, 4096, .inr (.inl f0))), (a2, .inr (2, [.ref a3, .int v4, .int v5])), (a3, .inl (cT 2, 4096, .inr (.inl f3))), (a4, .inr (3, [.ref a5, .ref a6, .ref p8, .ref p10, .int v12])), (a5, .inl (cT 1, 2048, .inl f6)), (a6, .inl (cT 1, 2048, .inl f7)), (p8, .inl (cT 1, 2048, .inl f9)), (p10, .inl (cT 1, 2048, .inl f11)), (a9, .inr (2, [.ref a10, .int w1, .int w2])), (a10, .inl (cT 2, 4096, .inr (.inl o4)))]) hP hD [7, 8, 0, 1, 2, 3, 4, 5, 6, 9, 10] rfl rfl (by decide)
      exact W.vret hx hb hr (fun t ht hW => ⟨⟨(), rfl, trivial, by rw [ht]; exact hP9, va_K.moved hW.alike hK, hD9⟩, hS.F ht⟩) hS.2.2 dK_putGroup_73
    · rw [if_neg hc] at hf
      refine lv_aload_n hx hb dK_putGroup_33 rfl (lv_at hl 3 rfl) ?_
      refine lv_iload hx hb dK_putGroup_34 (lv_at hl 0 rfl) ?_
      refine lv_aload_n hx hb dK_putGroup_36 rfl (lv_at hl 5 rfl) ?_
      obtain ⟨o4, hq5, hf⟩ := xbind hf
      obtain ⟨hPc, hDc, hFc⟩ := xcut (wc := [(a2, .inr (2, [.ref a3, .int v4, .int v5])), (a3, .inl (cT 2, 4096, .inr (.inl f3))), (a4, .inr (3, [.ref a5, .ref a6, .ref p8, .ref p10, .int v12])), (a5, .inl (cT 1, 2048, .inl f6)), (a6, .inl (cT 1, 2048, .inl f7)), (p8, .inl (cT 1, 2048, .inl f9)), (p10, .inl (cT 1, 2048, .inl f11))]) hP hD hS hA [0, 1, 2, 3, 4, 5, 6] rfl rfl (by decide)
      refine va_calli (va_runS (As := [.ref a2, .int y6, .ref a4]) (rest := []) ⟨hx, hb, hml, hown, htx⟩ (gK_beginsGroup l hl9 D cT aK aV H.size d n a2 a3 a4 a5 a6 y6 f3 v4 v5 f6 f7 p8 f9 p10 f11 v12 o4 hq5) ⟨callB_of 3 htx (xw_goodC kw_5_44) rfl rfl rfl (htx _ kw_1_28) (htx _ kw_5_42) ⟨by decide, by decide, by decide +kernel⟩ ⟨(by show (16 * d + 1) + 1 ≤ 16 * d + 3; omega), (by show 8 + (3 + 11) + (400 * d + 24) ≤ 400 * d + 105; omega)⟩, htx _ kw_5_43⟩ ⟨xPre_blind, (fun U hU hW => ⟨rfl, xPre_of hZ hS hFc hPc hDc hK U hU hW⟩)⟩ rfl rfl hl.1 rfl (lv_room (Nat.le_of_ble_eq_true rfl)) dK_putGroup_37 ⟨Nat.le_of_ble_eq_true rfl, Nat.le_of_ble_eq_true rfl⟩) hS (fun q _ h => hFc q h) hFc (fun r6 u9 t H1 locs ht hvm hr9 hB hz1 hk1 hS => ?_)
      obtain ⟨hP1, hK1, hD1⟩ := hB
      rw [ht] at hP1
      obtain ⟨hP, hD⟩ := xjoin (W := [(a9, .inr (2, [.ref a10, .int w1, .int w2])), (a10, .inl (cT 2, 4096, .inr (.inl w0))), (a0, .inr (2, [.ref a1, .int v1, .int v2])), (a1, .inl (cT 2, 4096, .inr (.inl f0))), (a2, .inr (2, [.ref a3, .int v4, .int v5])), (a3, .inl (cT 2, 4096, .inr (.inl f3))), (a4, .inr (3, [.ref a5, .ref a6, .ref p8, .ref p10, .int v12])), (a5, .inl (cT 1, 2048, .inl f6)), (a6, .inl (cT 1, 2048, .inl f7)), (p8, .inl (cT 1, 2048, .inl f9)), (p10, .inl (cT 1, 2048, .inl f11))]) hP hD [0, 1, 2, 3, 4, 5, 6] [7, 8, 9, 10] 4 rfl rfl (by decide) (by decide) hk1 hFc hP1 hD1
      generalize H1 = H at hP hS ⊢
      rw [hr9]
      refine W.eq (g2 := F0 m 40 ls [.int o4]) rfl ?_
      refine lv_if_ne (tgt := 61) hx hb dK_putGroup_40 (by decide) (fun hc => ?_) (fun hc => ?_)
      · rw [if_neg hc] at hf
        refine lv_aload hx hb dK_putGroup_61 (lv_at hl 6 rfl) ?_
        refine lv_iload hx hb dK_putGroup_63 (lv_at hl 1 rfl) ?_
        refine lv_iconst (v := 5) hx hb dK_putGroup_65 (by decide) ?_
        refine lv_iload hx hb dK_putGroup_66 (lv_at hl 0 rfl) ?_
        refine lv_iload_n hx hb dK_putGroup_68 rfl (lv_at hl 4 rfl) ?_
        refine lv_isub hx hb dK_putGroup_69 ?_
        obtain ⟨o7, hq8, hf⟩ := xbind hf
        obtain ⟨hPc, hDc, hFc⟩ := xcut (wc := [(a9, .inr (2, [.ref a10, .int w1, .int w2])), (a10, .inl (cT 2, 4096, .inr (.inl w0)))]) hP hD hS hA [0, 1] rfl rfl (by decide)
        refine va_callv (va_runV (C := "ValueBench$Row") (As := [.int y5, .int 5, .int (y6 - y2)]) (rest := []) ⟨hx, hb, hml, hown, htx⟩ (gR_close l hl9 D cT aK aV H.size n a9 a10 y5 (5 : Int32) (y6 - y2) w0 w1 w2 o7 hq8) ⟨callB_of 3 htx (xw_goodC kw_2_167) rfl rfl rfl (htx _ kw_1_4) (htx _ kw_5_38) ⟨by decide, by decide, by decide +kernel⟩ ⟨Nat.le_of_ble_eq_true rfl, Nat.le_of_ble_eq_true rfl⟩, (htx _ kw_2_165), (htx _ kw_2_166)⟩ ⟨xPre_blind, va_recv hK hP (ci := 2) rfl (q0 := 0) rfl, (fun U hU hW => ⟨rfl, xPre_of hZ hS hFc hPc hDc hK U hU hW⟩)⟩ rfl rfl hl.1 rfl (lv_room (Nat.le_of_ble_eq_true rfl)) dK_putGroup_70 ⟨Nat.le_of_ble_eq_true rfl, Nat.le_of_ble_eq_true rfl⟩) hS (fun q _ h => hFc q h) hFc (fun u9 t H1 locs ht hvm hr9 hB hz1 hk1 hS => ?_)
        obtain ⟨hP1, hK1, hD1⟩ := hB
        rw [ht] at hP1
        obtain ⟨hP, hD⟩ := xjoin (W := [(a0, .inr (2, [.ref a1, .int v1, .int v2])), (a1, .inl (cT 2, 4096, .inr (.inl f0))), (a2, .inr (2, [.ref a3, .int v4, .int v5])), (a3, .inl (cT 2, 4096, .inr (.inl f3))), (a4, .inr (3, [.ref a5, .ref a6, .ref p8, .ref p10, .int v12])), (a5, .inl (cT 1, 2048, .inl f6)), (a6, .inl (cT 1, 2048, .inl f7)), (p8, .inl (cT 1, 2048, .inl f9)), (p10, .inl (cT 1, 2048, .inl f11)), (a9, .inr (2, [.ref a10, .int w1, .int w2])), (a10, .inl (cT 2, 4096, .inr (.inl o7)))]) hP hD [0, 1] [2, 3, 4, 5, 6, 7, 8, 9, 10] 9 rfl rfl (by decide) (by decide) hk1 hFc hP1 hD1
        generalize H1 = H at hP hS ⊢
        obtain rfl := Option.some.inj hf
        obtain ⟨hP9, hD9⟩ := xsub (wc := [(a0, .inr (2, [.ref a1, .int v1, .int v2])), (a1, .inl (cT 2, 4096, .inr (.inl f0))), (a2, .inr (2, [.ref a3, .int v4, .int v5])), (a3, .inl (cT 2, 4096, .inr (.inl f3))), (a4, .inr (3, [.ref a5, .ref a6, .ref p8, .ref p10, .int v12])), (a5, .inl (cT 1, 2048, .inl f6)), (a6, .inl (cT 1, 2048, .inl f7)), (p8, .inl (cT 1, 2048, .inl f9)), (p10, .inl (cT 1, 2048, .inl f11)), (a9, .inr (2, [.ref a10, .int w1, .int w2])), (a10, .inl (cT 2, 4096, .inr (.inl o7)))]) hP hD [0, 1, 2, 3, 4, 5, 6, 7, 8, 9, 10] rfl rfl (by decide)
        exact W.vret hx hb hr (fun t ht hW => ⟨⟨(), rfl, trivial, by rw [ht]; exact hP9, va_K.moved hW.alike hK, hD9⟩, hS.F ht⟩) hS.2.2 dK_putGroup_73
      · rw [if_pos hc] at hf
        refine lv_aload hx hb dK_putGroup_43 (lv_at hl 6 rfl) ?_
        refine lv_aload_n hx hb dK_putGroup_45 rfl (lv_at hl 2 rfl) ?_
        refine lv_aload_n hx hb dK_putGroup_46 rfl (lv_at hl 5 rfl) ?_
        refine lv_iload hx hb dK_putGroup_47 (lv_at hl 0 rfl) ?_
        obtain ⟨o7, hq8, hf⟩ := xbind hf
        obtain ⟨hPc, hDc, hFc⟩ := xcut (wc := [(a4, .inr (3, [.ref a5, .ref a6, .ref p8, .ref p10, .int v12])), (a5, .inl (cT 1, 2048, .inl f6)), (a6, .inl (cT 1, 2048, .inl f7)), (p8, .inl (cT 1, 2048, .inl f9)), (p10, .inl (cT 1, 2048, .inl f11))]) hP hD hS hA [6, 7, 8, 9, 10] rfl rfl (by decide)
        refine va_calli (va_runV (C := "ValueBench$Sorter") (As := [.int y6]) (rest := [.ref a0, .ref a9]) ⟨hx, hb, hml, hown, htx⟩ (gS_elementAtTurn l hl9 D cT aK aV H.size n a4 a5 a6 y6 f6 f7 p8 f9 p10 f11 v12 o7 hq8) ⟨callB_of 1 htx (xw_goodC kw_5_36) rfl rfl rfl (htx _ kw_1_3) (htx _ kw_5_33) ⟨by decide, by decide, by decide +kernel⟩ ⟨Nat.le_of_ble_eq_true rfl, Nat.le_of_ble_eq_true rfl⟩, (htx _ kw_5_34), (htx _ kw_5_35)⟩ ⟨xPre_blind, va_recv hK hP (ci := 3) rfl (q0 := 6) rfl, (fun U hU hW => ⟨rfl, xPre_of hZ hS hFc hPc hDc hK U hU hW⟩)⟩ rfl rfl hl.1 rfl (lv_room (Nat.le_of_ble_eq_true rfl)) dK_putGroup_49 ⟨Nat.le_of_ble_eq_true rfl, Nat.le_of_ble_eq_true rfl⟩) hS (fun q _ h => hFc q h) hFc (fun r9 u9 t H1 locs ht hvm hr9 hB hz1 hk1 hS => ?_)
        obtain ⟨hP1, hK1, hD1⟩ := hB
        rw [ht] at hP1
        obtain ⟨hP, hD⟩ := xjoin (W := [(a9, .inr (2, [.ref a10, .int w1, .int w2])), (a10, .inl (cT 2, 4096, .inr (.inl w0))), (a0, .inr (2, [.ref a1, .int v1, .int v2])), (a1, .inl (cT 2, 4096, .inr (.inl f0))), (a2, .inr (2, [.ref a3, .int v4, .int v5])), (a3, .inl (cT 2, 4096, .inr (.inl f3))), (a4, .inr (3, [.ref a5, .ref a6, .ref p8, .ref p10, .int v12])), (a5, .inl (cT 1, 2048, .inl f6)), (a6, .inl (cT 1, 2048, .inl f7)), (p8, .inl (cT 1, 2048, .inl f9)), (p10, .inl (cT 1, 2048, .inl f11))]) hP hD [6, 7, 8, 9, 10] [0, 1, 2, 3, 4, 5] 6 rfl rfl (by decide) (by decide) hk1 hFc hP1 hD1
        generalize H1 = H at hP hS ⊢
        rw [hr9]
        refine W.eq (g2 := F0 m 52 ls [.int o7, .ref a0, .ref a9]) rfl ?_
        obtain ⟨o10, hq11, hf⟩ := xbind hf
        obtain ⟨hPc, hDc, hFc⟩ := xcut (wc := [(a9, .inr (2, [.ref a10, .int w1, .int w2])), (a10, .inl (cT 2, 4096, .inr (.inl w0))), (a0, .inr (2, [.ref a1, .int v1, .int v2])), (a1, .inl (cT 2, 4096, .inr (.inl f0)))]) hP hD hS hA [0, 1, 2, 3] rfl rfl (by decide)
        refine va_callv (va_runV (C := "ValueBench$Row") (As := [.ref a0, .int o7]) (rest := []) ⟨hx, hb, hml, hown, htx⟩ (gR_putCopy l hl9 D cT aK aV H.size n a9 a10 a0 a1 o7 w0 w1 w2 f0 v1 v2 o10 hq11) ⟨callB_of 2 htx (xw_goodC kw_3_126) rfl rfl rfl (htx _ kw_1_4) (htx _ kw_5_37) ⟨by decide, by decide, by decide +kernel⟩ ⟨Nat.le_of_ble_eq_true rfl, Nat.le_of_ble_eq_true rfl⟩, (htx _ kw_3_124), (htx _ kw_3_125)⟩ ⟨xPre_blind, va_recv hK hP (ci := 2) rfl (q0 := 0) rfl, (fun U hU hW => ⟨rfl, xPre_of hZ hS hFc hPc hDc hK U hU hW⟩)⟩ rfl rfl hl.1 rfl (lv_room (Nat.le_of_ble_eq_true rfl)) dK_putGroup_52 ⟨Nat.le_of_ble_eq_true rfl, Nat.le_of_ble_eq_true rfl⟩) hS (fun q _ h => hFc q h) hFc (fun u9 t H1 locs ht hvm hr9 hB hz1 hk1 hS => ?_)
        obtain ⟨hP1, hK1, hD1⟩ := hB
        rw [ht] at hP1
        obtain ⟨hP, hD⟩ := xjoin (W := [(a2, .inr (2, [.ref a3, .int v4, .int v5])), (a3, .inl (cT 2, 4096, .inr (.inl f3))), (a4, .inr (3, [.ref a5, .ref a6, .ref p8, .ref p10, .int v12])), (a5, .inl (cT 1, 2048, .inl f6)), (a6, .inl (cT 1, 2048, .inl f7)), (p8, .inl (cT 1, 2048, .inl f9)), (p10, .inl (cT 1, 2048, .inl f11)), (a9, .inr (2, [.ref a10, .int o10.2.1, .int o10.2.2])), (a10, .inl (cT 2, 4096, .inr (.inl o10.1))), (a0, .inr (2, [.ref a1, .int v1, .int v2])), (a1, .inl (cT 2, 4096, .inr (.inl f0)))]) hP hD [0, 1, 2, 3] [4, 5, 6, 7, 8, 9, 10] 7 rfl rfl (by decide) (by decide) hk1 hFc hP1 hD1
        generalize H1 = H at hP hS ⊢
        refine lv_iinc (v := (y6 + 1)) (lv' := [(6, .int (y6 + 1)), (5, .int y5), (0, .ref a0), (1, .ref a2), (2, .int y2), (3, .ref a4), (4, .ref a9)]) hx hb dK_putGroup_55 hl (k := 0) rfl rfl (by decide) rfl (fun ls hl => ?_)
        refine lv_goto (tgt := 23) hx hb dK_putGroup_58 (by decide) ?_
        obtain ⟨hP9, hD9⟩ := xsub (wc := [(a0, .inr (2, [.ref a1, .int v1, .int v2])), (a1, .inl (cT 2, 4096, .inr (.inl f0))), (a2, .inr (2, [.ref a3, .int v4, .int v5])), (a3, .inl (cT 2, 4096, .inr (.inl f3))), (a4, .inr (3, [.ref a5, .ref a6, .ref p8, .ref p10, .int v12])), (a5, .inl (cT 1, 2048, .inl f6)), (a6, .inl (cT 1, 2048, .inl f7)), (p8, .inl (cT 1, 2048, .inl f9)), (p10, .inl (cT 1, 2048, .inl f11)), (a9, .inr (2, [.ref a10, .int o10.2.1, .int o10.2.2])), (a10, .inl (cT 2, 4096, .inr (.inl o10.1)))]) hP hD [9, 10, 0, 1, 2, 3, 4, 5, 6, 7, 8] rfl rfl (by decide)
        exact ih (1, (y6 + 1), y5, y2, o10.1, o10.2.1, o10.2.2) _ _ ls (⟨rfl, hf, hP9, hD9, hS, lv_sub hl [0, 1, 2, 3, 4, 5, 6] rfl⟩)
  refine lv_aload hx hb dK_putGroup_0 (lv_at hl 4 rfl) ?_
  obtain ⟨o1, hq2, hf⟩ := xbind hf
  obtain ⟨hPc, hDc, hFc⟩ := xcut (wc := [(a9, .inr (2, [.ref a10, .int v14, .int v15])), (a10, .inl (cT 2, 4096, .inr (.inl f13)))]) hP hD hS hA [9, 10] rfl rfl (by decide)
  refine va_calli (va_runV (C := "ValueBench$Row") (As := []) (rest := []) ⟨hx, hb, hml, hown, htx⟩ (gR_open l hl9 D cT aK aV s.heap.size n a9 a10 f13 v14 v15 o1 hq2) ⟨callB_of 0 htx (xw_goodC kw_2_136) rfl rfl rfl (htx _ kw_1_4) (htx _ kw_5_32) ⟨by decide, by decide, by decide +kernel⟩ ⟨Nat.le_of_ble_eq_true rfl, Nat.le_of_ble_eq_true rfl⟩, (htx _ kw_2_134), (htx _ kw_2_135)⟩ ⟨xPre_blind, va_recv hK hP (ci := 2) rfl (q0 := 9) rfl, (fun U hU hW => ⟨rfl, xPre_of hZ hS hFc hPc hDc hK U hU hW⟩)⟩ rfl rfl hl.1 rfl (lv_room (Nat.le_of_ble_eq_true rfl)) dK_putGroup_2 ⟨Nat.le_of_ble_eq_true rfl, Nat.le_of_ble_eq_true rfl⟩) hS (fun q _ h => hFc q h) hFc (fun r3 u9 t H1 locs ht hvm hr9 hB hz1 hk1 hS => ?_)
  obtain ⟨hP1, hK1, hD1⟩ := hB
  rw [ht] at hP1
  obtain ⟨hP, hD⟩ := xjoin (W := [(a0, .inr (2, [.ref a1, .int v1, .int v2])), (a1, .inl (cT 2, 4096, .inr (.inl f0))), (a2, .inr (2, [.ref a3, .int v4, .int v5])), (a3, .inl (cT 2, 4096, .inr (.inl f3))), (a4, .inr (3, [.ref a5, .ref a6, .ref p8, .ref p10, .int v12])), (a5, .inl (cT 1, 2048, .inl f6)), (a6, .inl (cT 1, 2048, .inl f7)), (p8, .inl (cT 1, 2048, .inl f9)), (p10, .inl (cT 1, 2048, .inl f11)), (a9, .inr (2, [.ref a10, .int o1.2.2.1, .int o1.2.2.2])), (a10, .inl (cT 2, 4096, .inr (.inl o1.2.1)))]) hP hD [9, 10] [0, 1, 2, 3, 4, 5, 6, 7, 8] 9 rfl rfl (by decide) (by decide) hk1 hFc hP1 hD1
  generalize H1 = H at hP hS ⊢
  rw [hr9]
  refine W.eq (g2 := F0 m 5 ls [.int o1.1]) rfl ?_
  refine lv_istore (lv' := [(5, .int o1.1), (0, .ref a0), (1, .ref a2), (2, .int x2), (3, .ref a4), (4, .ref a9)]) hx hb dK_putGroup_5 hl (by decide) rfl (fun ls hl => ?_)
  refine lv_aload hx hb dK_putGroup_7 (lv_at hl 5 rfl) ?_
  refine lv_aload_n hx hb dK_putGroup_9 rfl (lv_at hl 1 rfl) ?_
  refine lv_aload_n hx hb dK_putGroup_10 rfl (lv_at hl 4 rfl) ?_
  refine lv_iload_n hx hb dK_putGroup_11 rfl (lv_at hl 3 rfl) ?_
  obtain ⟨o4, hq5, hf⟩ := xbind hf
  obtain ⟨hPc, hDc, hFc⟩ := xcut (wc := [(a4, .inr (3, [.ref a5, .ref a6, .ref p8, .ref p10, .int v12])), (a5, .inl (cT 1, 2048, .inl f6)), (a6, .inl (cT 1, 2048, .inl f7)), (p8, .inl (cT 1, 2048, .inl f9)), (p10, .inl (cT 1, 2048, .inl f11))]) hP hD hS hA [4, 5, 6, 7, 8] rfl rfl (by decide)
  refine va_calli (va_runV (C := "ValueBench$Sorter") (As := [.int x2]) (rest := [.ref a0, .ref a9]) ⟨hx, hb, hml, hown, htx⟩ (gS_elementAtTurn l hl9 D cT aK aV H.size n a4 a5 a6 x2 f6 f7 p8 f9 p10 f11 v12 o4 hq5) ⟨callB_of 1 htx (xw_goodC kw_5_36) rfl rfl rfl (htx _ kw_1_3) (htx _ kw_5_33) ⟨by decide, by decide, by decide +kernel⟩ ⟨Nat.le_of_ble_eq_true rfl, Nat.le_of_ble_eq_true rfl⟩, (htx _ kw_5_34), (htx _ kw_5_35)⟩ ⟨xPre_blind, va_recv hK hP (ci := 3) rfl (q0 := 4) rfl, (fun U hU hW => ⟨rfl, xPre_of hZ hS hFc hPc hDc hK U hU hW⟩)⟩ rfl rfl hl.1 rfl (lv_room (Nat.le_of_ble_eq_true rfl)) dK_putGroup_12 ⟨Nat.le_of_ble_eq_true rfl, Nat.le_of_ble_eq_true rfl⟩) hS (fun q _ h => hFc q h) hFc (fun r6 u9 t H1 locs ht hvm hr9 hB hz1 hk1 hS => ?_)
  obtain ⟨hP1, hK1, hD1⟩ := hB
  rw [ht] at hP1
  obtain ⟨hP, hD⟩ := xjoin (W := [(a0, .inr (2, [.ref a1, .int v1, .int v2])), (a1, .inl (cT 2, 4096, .inr (.inl f0))), (a2, .inr (2, [.ref a3, .int v4, .int v5])), (a3, .inl (cT 2, 4096, .inr (.inl f3))), (a9, .inr (2, [.ref a10, .int o1.2.2.1, .int o1.2.2.2])), (a10, .inl (cT 2, 4096, .inr (.inl o1.2.1))), (a4, .inr (3, [.ref a5, .ref a6, .ref p8, .ref p10, .int v12])), (a5, .inl (cT 1, 2048, .inl f6)), (a6, .inl (cT 1, 2048, .inl f7)), (p8, .inl (cT 1, 2048, .inl f9)), (p10, .inl (cT 1, 2048, .inl f11))]) hP hD [4, 5, 6, 7, 8] [0, 1, 2, 3, 9, 10] 6 rfl rfl (by decide) (by decide) hk1 hFc hP1 hD1
  generalize H1 = H at hP hS ⊢
  rw [hr9]
  refine W.eq (g2 := F0 m 15 ls [.int o4, .ref a0, .ref a9]) rfl ?_
  obtain ⟨o7, hq8, hf⟩ := xbind hf
  obtain ⟨hPc, hDc, hFc⟩ := xcut (wc := [(a9, .inr (2, [.ref a10, .int o1.2.2.1, .int o1.2.2.2])), (a10, .inl (cT 2, 4096, .inr (.inl o1.2.1))), (a0, .inr (2, [.ref a1, .int v1, .int v2])), (a1, .inl (cT 2, 4096, .inr (.inl f0)))]) hP hD hS hA [4, 5, 0, 1] rfl rfl (by decide)
  refine va_callv (va_runV (C := "ValueBench$Row") (As := [.ref a0, .int o4]) (rest := []) ⟨hx, hb, hml, hown, htx⟩ (gR_putCopy l hl9 D cT aK aV H.size n a9 a10 a0 a1 o4 o1.2.1 o1.2.2.1 o1.2.2.2 f0 v1 v2 o7 hq8) ⟨callB_of 2 htx (xw_goodC kw_3_126) rfl rfl rfl (htx _ kw_1_4) (htx _ kw_5_37) ⟨by decide, by decide, by decide +kernel⟩ ⟨Nat.le_of_ble_eq_true rfl, Nat.le_of_ble_eq_true rfl⟩, (htx _ kw_3_124), (htx _ kw_3_125)⟩ ⟨xPre_blind, va_recv hK hP (ci := 2) rfl (q0 := 4) rfl, (fun U hU hW => ⟨rfl, xPre_of hZ hS hFc hPc hDc hK U hU hW⟩)⟩ rfl rfl hl.1 rfl (lv_room (Nat.le_of_ble_eq_true rfl)) dK_putGroup_15 ⟨Nat.le_of_ble_eq_true rfl, Nat.le_of_ble_eq_true rfl⟩) hS (fun q _ h => hFc q h) hFc (fun u9 t H1 locs ht hvm hr9 hB hz1 hk1 hS => ?_)
  obtain ⟨hP1, hK1, hD1⟩ := hB
  rw [ht] at hP1
  obtain ⟨hP, hD⟩ := xjoin (W := [(a2, .inr (2, [.ref a3, .int v4, .int v5])), (a3, .inl (cT 2, 4096, .inr (.inl f3))), (a4, .inr (3, [.ref a5, .ref a6, .ref p8, .ref p10, .int v12])), (a5, .inl (cT 1, 2048, .inl f6)), (a6, .inl (cT 1, 2048, .inl f7)), (p8, .inl (cT 1, 2048, .inl f9)), (p10, .inl (cT 1, 2048, .inl f11)), (a9, .inr (2, [.ref a10, .int o7.2.1, .int o7.2.2])), (a10, .inl (cT 2, 4096, .inr (.inl o7.1))), (a0, .inr (2, [.ref a1, .int v1, .int v2])), (a1, .inl (cT 2, 4096, .inr (.inl f0)))]) hP hD [4, 5, 0, 1] [2, 3, 6, 7, 8, 9, 10] 7 rfl rfl (by decide) (by decide) hk1 hFc hP1 hD1
  generalize H1 = H at hP hS ⊢
  refine lv_iload_n hx hb dK_putGroup_18 rfl (lv_at hl 3 rfl) ?_
  refine lv_iconst (v := 1) hx hb dK_putGroup_19 (by decide) ?_
  refine lv_iadd hx hb dK_putGroup_20 ?_
  refine lv_istore (lv' := [(6, .int (x2 + (1 : Int32))), (5, .int o1.1), (0, .ref a0), (1, .ref a2), (2, .int x2), (3, .ref a4), (4, .ref a9)]) hx hb dK_putGroup_21 hl (by decide) rfl (fun ls hl => ?_)
  obtain ⟨hP9, hD9⟩ := xsub (wc := [(a0, .inr (2, [.ref a1, .int v1, .int v2])), (a1, .inl (cT 2, 4096, .inr (.inl f0))), (a2, .inr (2, [.ref a3, .int v4, .int v5])), (a3, .inl (cT 2, 4096, .inr (.inl f3))), (a4, .inr (3, [.ref a5, .ref a6, .ref p8, .ref p10, .int v12])), (a5, .inl (cT 1, 2048, .inl f6)), (a6, .inl (cT 1, 2048, .inl f7)), (p8, .inl (cT 1, 2048, .inl f9)), (p10, .inl (cT 1, 2048, .inl f11)), (a9, .inr (2, [.ref a10, .int o7.2.1, .int o7.2.2])), (a10, .inl (cT 2, 4096, .inr (.inl o7.1)))]) hP hD [9, 10, 0, 1, 2, 3, 4, 5, 6, 7, 8] rfl rfl (by decide)
  exact key n (1, (x2 + (1 : Int32)), o1.1, x2, o7.1, o7.2.1, o7.2.2) _ _ ls (⟨rfl, hf, hP9, hD9, hS, lv_sub hl [0, 1, 2, 3, 4, 5, 6] rfl⟩)
set_option maxHeartbeats 400000000 in
set_option maxRecDepth 100000 in
theorem gK_putGroups (l : Launch) (hl9 : l.stackTraces = false) (D : va_G) (cT : Nat → ClassId) (aK aV : Nat → Nat) (sz d n : Nat) (a0 : Nat) (a1 : Nat) (a2 : Nat) (a3 : Nat) (a4 : Nat) (a5 : Nat) (a6 : Nat) (a9 : Nat) (a10 : Nat) (f0 : Nat → Int64) (v1 : Int32) (v2 : Int32) (f3 : Nat → Int64) (v4 : Int32) (v5 : Int32) (f6 : Nat → Int32) (f7 : Nat → Int32) (p8 : Nat) (f9 : Nat → Int32) (p10 : Nat) (f11 : Nat → Int32) (v12 : Int32) (f13 : Nat → Int64) (v14 : Int32) (v15 : Int32) (out : (Nat → Int64) × Int32 × Int32) (hf : fK_putGroups d n f0 v1 v2 f3 v4 v5 f6 f7 p8 f9 p10 f11 v12 f13 v14 v15 = some out) : xMet l yK_putGroups wyK_putGroups (16 * d + 4) 0 0 (400 * d + 131) D cT aK aV sz [.ref a0, .ref a2, .ref a4, .ref a9] [(a0, .inr (2, [.ref a1, .int v1, .int v2])), (a1, .inl (cT 2, 4096, .inr (.inl f0))), (a2, .inr (2, [.ref a3, .int v4, .int v5])), (a3, .inl (cT 2, 4096, .inr (.inl f3))), (a4, .inr (3, [.ref a5, .ref a6, .ref p8, .ref p10, .int v12])), (a5, .inl (cT 1, 2048, .inl f6)), (a6, .inl (cT 1, 2048, .inl f7)), (p8, .inl (cT 1, 2048, .inl f9)), (p10, .inl (cT 1, 2048, .inl f11)), (a9, .inr (2, [.ref a10, .int v14, .int v15])), (a10, .inl (cT 2, 4096, .inr (.inl f13)))] (fun A => va_Qv (fun _ : Unit => True) (fun _ t => xB D xcl cT A [(a0, .inr (2, [.ref a1, .int v1, .int v2])), (a1, .inl (cT 2, 4096, .inr (.inl f0))), (a2, .inr (2, [.ref a3, .int v4, .int v5])), (a3, .inl (cT 2, 4096, .inr (.inl f3))), (a4, .inr (3, [.ref a5, .ref a6, .ref p8, .ref p10, .int v12])), (a5, .inl (cT 1, 2048, .inl f6)), (a6, .inl (cT 1, 2048, .inl f7)), (p8, .inl (cT 1, 2048, .inl f9)), (p10, .inl (cT 1, 2048, .inl f11)), (a9, .inr (2, [.ref a10, .int out.2.1, .int out.2.2])), (a10, .inl (cT 2, 4096, .inr (.inl out.1)))] t) A) := by
  refine Met.ofW (cc := prog_2_method_6_code) (maxL := 7) (ret := none) (by decide) rfl ?_
  intro p e s m args below meth c s₁ B hml hv
  obtain ⟨rfl, hsz, hZ, hP, hK, hD0⟩ := hv
  have hx := B.exec
  have hb := B.bytes
  have hr := B.returns
  have hts := atoms_spec (ws := wyK_putGroups) B.pre
  have htx := fun w h => hts w (List.mem_cons_of_mem _ h)
  have hown : s.vm.findClass "ValueBench$Keyed" = some m.cls := findClass_of_methodNamed B.named
  have hlocks := B.notSynchronized
  subst hsz
  have hD := hD0.self (sz := s.heap.size)
  generalize hAe : va_A [(a0, .inr (2, [.ref a1, .int v1, .int v2])), (a1, .inl (cT 2, 4096, .inr (.inl f0))), (a2, .inr (2, [.ref a3, .int v4, .int v5])), (a3, .inl (cT 2, 4096, .inr (.inl f3))), (a4, .inr (3, [.ref a5, .ref a6, .ref p8, .ref p10, .int v12])), (a5, .inl (cT 1, 2048, .inl f6)), (a6, .inl (cT 1, 2048, .inl f7)), (p8, .inl (cT 1, 2048, .inl f9)), (p10, .inl (cT 1, 2048, .inl f11)), (a9, .inr (2, [.ref a10, .int v14, .int v15])), (a10, .inl (cT 2, 4096, .inr (.inl f13)))] s.heap.size = A at hD hZ ⊢
  have hA : ∀ q : Nat, s.heap.size ≤ q → A q := fun q h => by rw [← hAe]; exact Or.inr h
  have hS : va_S A s.heap s.heap [] := va_S.rf
  have hP : va_P D xcl [(a0, .inr (2, [.ref a1, .int v1, .int v2])), (a1, .inl (cT 2, 4096, .inr (.inl f0))), (a2, .inr (2, [.ref a3, .int v4, .int v5])), (a3, .inl (cT 2, 4096, .inr (.inl f3))), (a4, .inr (3, [.ref a5, .ref a6, .ref p8, .ref p10, .int v12])), (a5, .inl (cT 1, 2048, .inl f6)), (a6, .inl (cT 1, 2048, .inl f7)), (p8, .inl (cT 1, 2048, .inl f9)), (p10, .inl (cT 1, 2048, .inl f11)), (a9, .inr (2, [.ref a10, .int v14, .int v15])), (a10, .inl (cT 2, 4096, .inr (.inl f13)))] s.heap := hP
  have hl := lv_entry ([.ref a0, .ref a2, .ref a4, .ref a9]) (n := 7) (Nat.le_of_ble_eq_true rfl)
  rw [lg_entry_eq]
  generalize (lg_sl ([.ref a0, .ref a2, .ref a4, .ref a9]) ++ List.replicate (7 - (lg_sl ([.ref a0, .ref a2, .ref a4, .ref a9])).length) Slot.unset).toArray = ls at hl ⊢
  have hl : lv_has ls 7 [(0, .ref a0), (1, .ref a2), (2, .ref a4), (3, .ref a9)] := hl
  unfold fK_putGroups at hf
  refine xloopK (σ := Nat × Int32 × Int32 × Int32 × (Nat → Int64) × Int32 × Int32) (fun n x H locs ls => (x.1 = 1 ∧ fK_putGroups_b d f0 v1 v2 f3 v4 v5 f6 f7 p8 f9 p10 f11 v12 n x.1 x.2.1 x.2.2.1 x.2.2.2.1 x.2.2.2.2.1 x.2.2.2.2.2.1 x.2.2.2.2.2.2 = some out ∧ va_P D xcl [(a0, .inr (2, [.ref a1, .int v1, .int v2])), (a1, .inl (cT 2, 4096, .inr (.inl f0))), (a2, .inr (2, [.ref a3, .int v4, .int v5])), (a3, .inl (cT 2, 4096, .inr (.inl f3))), (a4, .inr (3, [.ref a5, .ref a6, .ref p8, .ref p10, .int v12])), (a5, .inl (cT 1, 2048, .inl f6)), (a6, .inl (cT 1, 2048, .inl f7)), (p8, .inl (cT 1, 2048, .inl f9)), (p10, .inl (cT 1, 2048, .inl f11)), (a9, .inr (2, [.ref a10, .int x.2.2.2.2.2.1, .int x.2.2.2.2.2.2])), (a10, .inl (cT 2, 4096, .inr (.inl x.2.2.2.2.1)))] H ∧ va_D A [(a0, .inr (2, [.ref a1, .int v1, .int v2])), (a1, .inl (cT 2, 4096, .inr (.inl f0))), (a2, .inr (2, [.ref a3, .int v4, .int v5])), (a3, .inl (cT 2, 4096, .inr (.inl f3))), (a4, .inr (3, [.ref a5, .ref a6, .ref p8, .ref p10, .int v12])), (a5, .inl (cT 1, 2048, .inl f6)), (a6, .inl (cT 1, 2048, .inl f7)), (p8, .inl (cT 1, 2048, .inl f9)), (p10, .inl (cT 1, 2048, .inl f11)), (a9, .inr (2, [.ref a10, .int x.2.2.2.2.2.1, .int x.2.2.2.2.2.2])), (a10, .inl (cT 2, 4096, .inr (.inl x.2.2.2.2.1)))] ∧ va_S A s.heap H locs ∧ lv_has ls 7 [(6, .int x.2.1), (5, .int x.2.2.1), (4, .int x.2.2.2.1), (0, .ref a0), (1, .ref a2), (2, .ref a4), (3, .ref a9)])) (fun x => 12) (fun x H locs ls h => by exact absurd h.2.1 (by rw [fK_putGroups_b]; exact fun h => nomatch h)) (fun n ih x H locs ls hv => ?_) (fun key => ?_)
  · obtain ⟨lb, y6, y5, y4, w0, w1, w2⟩ := x
    rcases hv with ⟨hj, hf, hP, hD, hS, hl⟩
    subst hj
    have hf : fK_putGroups_b d f0 v1 v2 f3 v4 v5 f6 f7 p8 f9 p10 f11 v12 (n + 1) 1 y6 y5 y4 w0 w1 w2 = some out := hf
    rw [fK_putGroups_b] at hf
    obtain ⟨hP, hD⟩ : xPD D xcl A [(a0, .inr (2, [.ref a1, .int v1, .int v2])), (a1, .inl (cT 2, 4096, .inr (.inl f0))), (a2, .inr (2, [.ref a3, .int v4, .int v5])), (a3, .inl (cT 2, 4096, .inr (.inl f3))), (a4, .inr (3, [.ref a5, .ref a6, .ref p8, .ref p10, .int v12])), (a5, .inl (cT 1, 2048, .inl f6)), (a6, .inl (cT 1, 2048, .inl f7)), (p8, .inl (cT 1, 2048, .inl f9)), (p10, .inl (cT 1, 2048, .inl f11)), (a9, .inr (2, [.ref a10, .int w1, .int w2])), (a10, .inl (cT 2, 4096, .inr (.inl w0)))] H := ⟨hP, hD⟩
    have hl : lv_has ls 7 [(6, .int y6), (5, .int y5), (4, .int y4), (0, .ref a0), (1, .ref a2), (2, .ref a4), (3, .ref a9)] := hl
    refine W.eq (g2 := F0 m 12 ls []) rfl ?_
    refine lv_iload hx hb dK_putGroups_12 (lv_at hl 0 rfl) ?_
    refine lv_aload_n hx hb dK_putGroups_14 rfl (lv_at hl 3 rfl) ?_
    refine lv_iconst (v := 0) hx hb dK_putGroups_15 (by decide) ?_
    obtain ⟨o1, hq2, hf⟩ := xbind hf
    obtain ⟨hPc, hDc, hFc⟩ := xcut (wc := [(a0, .inr (2, [.ref a1, .int v1, .int v2])), (a1, .inl (cT 2, 4096, .inr (.inl f0)))]) hP hD hS hA [0, 1] rfl rfl (by decide)
    refine va_calli (va_runV (C := "ValueBench$Row") (As := [.int 0]) (rest := [.int y6]) ⟨hx, hb, hml, hown, htx⟩ (gR_length l hl9 D cT aK aV H.size n a0 a1 (0 : Int32) f0 v1 v2 o1 hq2) ⟨callB_of 1 htx (xw_goodC kw_2_191) rfl rfl rfl (htx _ kw_1_4) (htx _ kw_5_23) ⟨by decide, by decide, by decide +kernel⟩ ⟨Nat.le_of_ble_eq_true rfl, Nat.le_of_ble_eq_true rfl⟩, (htx _ kw_2_189), (htx _ kw_2_190)⟩ ⟨xPre_blind, va_recv hK hP (ci := 2) rfl (q0 := 0) rfl, (fun U hU hW => ⟨rfl, xPre_of hZ hS hFc hPc hDc hK U hU hW⟩)⟩ rfl rfl hl.1 rfl (lv_room (Nat.le_of_ble_eq_true rfl)) dK_putGroups_16 ⟨Nat.le_of_ble_eq_true rfl, Nat.le_of_ble_eq_true rfl⟩) hS (fun q _ h => hFc q h) hFc (fun r3 u9 t H1 locs ht hvm hr9 hB hz1 hk1 hS => ?_)
    obtain ⟨hP1, hK1, hD1⟩ := hB
    rw [ht] at hP1
    obtain ⟨hP, hD⟩ := xjoin (W := [(a2, .inr (2, [.ref a3, .int v4, .int v5])), (a3, .inl (cT 2, 4096, .inr (.inl f3))), (a4, .inr (3, [.ref a5, .ref a6, .ref p8, .ref p10, .int v12])), (a5, .inl (cT 1, 2048, .inl f6)), (a6, .inl (cT 1, 2048, .inl f7)), (p8, .inl (cT 1, 2048, .inl f9)), (p10, .inl (cT 1, 2048, .inl f11)), (a9, .inr (2, [.ref a10, .int w1, .int w2])), (a10, .inl (cT 2, 4096, .inr (.inl w0))), (a0, .inr (2, [.ref a1, .int v1, .int v2])), (a1, .inl (cT 2, 4096, .inr (.inl f0)))]) hP hD [0, 1] [2, 3, 4, 5, 6, 7, 8, 9, 10] 9 rfl rfl (by decide) (by decide) hk1 hFc hP1 hD1
    generalize H1 = H at hP hS ⊢
    rw [hr9]
    refine W.eq (g2 := F0 m 19 ls [.int o1, .int y6]) rfl ?_
    refine lv_icmp_ge (tgt := 50) hx hb dK_putGroups_19 (by decide) (fun hc => ?_) (fun hc => ?_)
    · rw [if_pos hc] at hf
      refine lv_aload_n hx hb dK_putGroups_50 rfl (lv_at hl 6 rfl) ?_
      refine lv_iload hx hb dK_putGroups_51 (lv_at hl 2 rfl) ?_
      refine lv_iconst (v := 5) hx hb dK_putGroups_53 (by decide) ?_
      refine lv_iload hx hb dK_putGroups_54 (lv_at hl 1 rfl) ?_
      obtain ⟨o4, hq5, hf⟩ := xbind hf
      obtain ⟨hPc, hDc, hFc⟩ := xcut (wc := [(a9, .inr (2, [.ref a10, .int w1, .int w2])), (a10, .inl (cT 2, 4096, .inr (.inl w0)))]) hP hD hS hA [7, 8] rfl rfl (by decide)
      refine va_callv (va_runV (C := "ValueBench$Row") (As := [.int y4, .int 5, .int y5]) (rest := []) ⟨hx, hb, hml, hown, htx⟩ (gR_close l hl9 D cT aK aV H.size n a9 a10 y4 (5 : Int32) y5 w0 w1 w2 o4 hq5) ⟨callB_of 3 htx (xw_goodC kw_2_167) rfl rfl rfl (htx _ kw_1_4) (htx _ kw_5_38) ⟨by decide, by decide, by decide +kernel⟩ ⟨Nat.le_of_ble_eq_true rfl, Nat.le_of_ble_eq_true rfl⟩, (htx _ kw_2_165), (htx _ kw_2_166)⟩ ⟨xPre_blind, va_recv hK hP (ci := 2) rfl (q0 := 7) rfl, (fun U hU hW => ⟨rfl, xPre_of hZ hS hFc hPc hDc hK U hU hW⟩)⟩ rfl rfl hl.1 rfl (lv_room (Nat.le_of_ble_eq_true rfl)) dK_putGroups_56 ⟨Nat.le_of_ble_eq_true rfl, Nat.le_of_ble_eq_true rfl⟩) hS (fun q _ h => hFc q h) hFc (fun u9 t H1 locs ht hvm hr9 hB hz1 hk1 hS => ?_)
      obtain ⟨hP1, hK1, hD1⟩ := hB
      rw [ht] at hP1
      obtain ⟨hP, hD⟩ := xjoin (W := [(a2, .inr (2, [.ref a3, .int v4, .int v5])), (a3, .inl (cT 2, 4096, .inr (.inl f3))), (a4, .inr (3, [.ref a5, .ref a6, .ref p8, .ref p10, .int v12])), (a5, .inl (cT 1, 2048, .inl f6)), (a6, .inl (cT 1, 2048, .inl f7)), (p8, .inl (cT 1, 2048, .inl f9)), (p10, .inl (cT 1, 2048, .inl f11)), (a0, .inr (2, [.ref a1, .int v1, .int v2])), (a1, .inl (cT 2, 4096, .inr (.inl f0))), (a9, .inr (2, [.ref a10, .int w1, .int w2])), (a10, .inl (cT 2, 4096, .inr (.inl o4)))]) hP hD [7, 8] [0, 1, 2, 3, 4, 5, 6, 9, 10] 9 rfl rfl (by decide) (by decide) hk1 hFc hP1 hD1
      generalize H1 = H at hP hS ⊢
      obtain rfl := Option.some.inj hf
      obtain ⟨hP9, hD9⟩ := xsub (wc := [(a0, .inr (2, [.ref a1, .int v1, .int v2])), (a1, .inl (cT 2, 4096, .inr (.inl f0))), (a2, .inr (2, [.ref a3, .int v4, .int v5])), (a3, .inl (cT 2, 4096, .inr (.inl f3))), (a4, .inr (3, [.ref a5, .ref a6, .ref p8, .ref p10, .int v12])), (a5, .inl (cT 1, 2048, .inl f6)), (a6, .inl (cT 1, 2048, .inl f7)), (p8, .inl (cT 1, 2048, .inl f9)), (p10, .inl (cT 1, 2048, .inl f11)), (a9, .inr (2, [.ref a10, .int w1, .int w2])), (a10, .inl (cT 2, 4096, .inr (.inl o4)))]) hP hD [7, 8, 0, 1, 2, 3, 4, 5, 6, 9, 10] rfl rfl (by decide)
      exact W.vret hx hb hr (fun t ht hW => ⟨⟨(), rfl, trivial, by rw [ht]; exact hP9, va_K.moved hW.alike hK, hD9⟩, hS.F ht⟩) hS.2.2 dK_putGroups_59
    · rw [if_neg hc] at hf
      refine lv_aload_n hx hb dK_putGroups_22 rfl (lv_at hl 4 rfl) ?_
      refine lv_iload hx hb dK_putGroups_23 (lv_at hl 0 rfl) ?_
      refine lv_aload_n hx hb dK_putGroups_25 rfl (lv_at hl 5 rfl) ?_
      obtain ⟨o4, hq5, hf⟩ := xbind hf
      obtain ⟨hPc, hDc, hFc⟩ := xcut (wc := [(a2, .inr (2, [.ref a3, .int v4, .int v5])), (a3, .inl (cT 2, 4096, .inr (.inl f3))), (a4, .inr (3, [.ref a5, .ref a6, .ref p8, .ref p10, .int v12])), (a5, .inl (cT 1, 2048, .inl f6)), (a6, .inl (cT 1, 2048, .inl f7)), (p8, .inl (cT 1, 2048, .inl f9)), (p10, .inl (cT 1, 2048, .inl f11))]) hP hD hS hA [0, 1, 2, 3, 4, 5, 6] rfl rfl (by decide)
      refine va_calli (va_runS (As := [.ref a2, .int y6, .ref a4]) (rest := []) ⟨hx, hb, hml, hown, htx⟩ (gK_beginsGroup l hl9 D cT aK aV H.size d n a2 a3 a4 a5 a6 y6 f3 v4 v5 f6 f7 p8 f9 p10 f11 v12 o4 hq5) ⟨callB_of 3 htx (xw_goodC kw_5_44) rfl rfl rfl (htx _ kw_1_28) (htx _ kw_5_42) ⟨by decide, by decide, by decide +kernel⟩ ⟨(by show (16 * d + 1) + 1 ≤ 16 * d + 4; omega), (by show 8 + (3 + 11) + (400 * d + 24) ≤ 400 * d + 131; omega)⟩, htx _ kw_5_43⟩ ⟨xPre_blind, (fun U hU hW => ⟨rfl, xPre_of hZ hS hFc hPc hDc hK U hU hW⟩)⟩ rfl rfl hl.1 rfl (lv_room (Nat.le_of_ble_eq_true rfl)) dK_putGroups_26 ⟨Nat.le_of_ble_eq_true rfl, Nat.le_of_ble_eq_true rfl⟩) hS (fun q _ h => hFc q h) hFc (fun r6 u9 t H1 locs ht hvm hr9 hB hz1 hk1 hS => ?_)
      obtain ⟨hP1, hK1, hD1⟩ := hB
      rw [ht] at hP1
      obtain ⟨hP, hD⟩ := xjoin (W := [(a9, .inr (2, [.ref a10, .int w1, .int w2])), (a10, .inl (cT 2, 4096, .inr (.inl w0))), (a0, .inr (2, [.ref a1, .int v1, .int v2])), (a1, .inl (cT 2, 4096, .inr (.inl f0))), (a2, .inr (2, [.ref a3, .int v4, .int v5])), (a3, .inl (cT 2, 4096, .inr (.inl f3))), (a4, .inr (3, [.ref a5, .ref a6, .ref p8, .ref p10, .int v12])), (a5, .inl (cT 1, 2048, .inl f6)), (a6, .inl (cT 1, 2048, .inl f7)), (p8, .inl (cT 1, 2048, .inl f9)), (p10, .inl (cT 1, 2048, .inl f11))]) hP hD [0, 1, 2, 3, 4, 5, 6] [7, 8, 9, 10] 4 rfl rfl (by decide) (by decide) hk1 hFc hP1 hD1
      generalize H1 = H at hP hS ⊢
      rw [hr9]
      refine W.eq (g2 := F0 m 29 ls [.int o4]) rfl ?_
      refine lv_if_eq (tgt := 44) hx hb dK_putGroups_29 (by decide) (fun hc => ?_) (fun hc => ?_)
      · rw [if_pos hc] at hf
        refine lv_iinc (v := (y6 + 1)) (lv' := [(6, .int (y6 + 1)), (5, .int y5), (4, .int y4), (0, .ref a0), (1, .ref a2), (2, .ref a4), (3, .ref a9)]) hx hb dK_putGroups_44 hl (k := 0) rfl rfl (by decide) rfl (fun ls hl => ?_)
        refine lv_goto (tgt := 12) hx hb dK_putGroups_47 (by decide) ?_
        obtain ⟨hP9, hD9⟩ := xsub (wc := [(a0, .inr (2, [.ref a1, .int v1, .int v2])), (a1, .inl (cT 2, 4096, .inr (.inl f0))), (a2, .inr (2, [.ref a3, .int v4, .int v5])), (a3, .inl (cT 2, 4096, .inr (.inl f3))), (a4, .inr (3, [.ref a5, .ref a6, .ref p8, .ref p10, .int v12])), (a5, .inl (cT 1, 2048, .inl f6)), (a6, .inl (cT 1, 2048, .inl f7)), (p8, .inl (cT 1, 2048, .inl f9)), (p10, .inl (cT 1, 2048, .inl f11)), (a9, .inr (2, [.ref a10, .int w1, .int w2])), (a10, .inl (cT 2, 4096, .inr (.inl w0)))]) hP hD [2, 3, 4, 5, 6, 7, 8, 9, 10, 0, 1] rfl rfl (by decide)
        exact ih (1, (y6 + 1), y5, y4, w0, w1, w2) _ _ ls (⟨rfl, hf, hP9, hD9, hS, lv_sub hl [0, 1, 2, 3, 4, 5, 6] rfl⟩)
      · rw [if_neg hc] at hf
        refine lv_aload_n hx hb dK_putGroups_32 rfl (lv_at hl 3 rfl) ?_
        refine lv_aload_n hx hb dK_putGroups_33 rfl (lv_at hl 4 rfl) ?_
        refine lv_iload hx hb dK_putGroups_34 (lv_at hl 0 rfl) ?_
        refine lv_aload_n hx hb dK_putGroups_36 rfl (lv_at hl 5 rfl) ?_
        refine lv_aload_n hx hb dK_putGroups_37 rfl (lv_at hl 6 rfl) ?_
        obtain ⟨o7, hq8, hf⟩ := xbind hf
        obtain ⟨hPc, hDc, hFc⟩ := xcut (wc := [(a0, .inr (2, [.ref a1, .int v1, .int v2])), (a1, .inl (cT 2, 4096, .inr (.inl f0))), (a2, .inr (2, [.ref a3, .int v4, .int v5])), (a3, .inl (cT 2, 4096, .inr (.inl f3))), (a4, .inr (3, [.ref a5, .ref a6, .ref p8, .ref p10, .int v12])), (a5, .inl (cT 1, 2048, .inl f6)), (a6, .inl (cT 1, 2048, .inl f7)), (p8, .inl (cT 1, 2048, .inl f9)), (p10, .inl (cT 1, 2048, .inl f11)), (a9, .inr (2, [.ref a10, .int w1, .int w2])), (a10, .inl (cT 2, 4096, .inr (.inl w0)))]) hP hD hS hA [2, 3, 4, 5, 6, 7, 8, 9, 10, 0, 1] rfl rfl (by decide)
        refine va_callv (va_runS (As := [.ref a0, .ref a2, .int y6, .ref a4, .ref a9]) (rest := []) ⟨hx, hb, hml, hown, htx⟩ (gK_putGroup l hl9 D cT aK aV H.size d n a0 a1 a2 a3 a4 a5 a6 a9 a10 y6 f0 v1 v2 f3 v4 v5 f6 f7 p8 f9 p10 f11 v12 w0 w1 w2 o7 hq8) ⟨callB_of 5 htx (xw_goodC kw_5_49) rfl rfl rfl (htx _ kw_1_28) (htx _ kw_5_47) ⟨by decide, by decide, by decide +kernel⟩ ⟨(by show (16 * d + 3) + 1 ≤ 16 * d + 4; omega), (by show 8 + (7 + 11) + (400 * d + 105) ≤ 400 * d + 131; omega)⟩, htx _ kw_5_48⟩ ⟨xPre_blind, (fun U hU hW => ⟨rfl, xPre_of hZ hS hFc hPc hDc hK U hU hW⟩)⟩ rfl rfl hl.1 rfl (lv_room (Nat.le_of_ble_eq_true rfl)) dK_putGroups_38 ⟨Nat.le_of_ble_eq_true rfl, Nat.le_of_ble_eq_true rfl⟩) hS (fun q _ h => hFc q h) hFc (fun u9 t H1 locs ht hvm hr9 hB hz1 hk1 hS => ?_)
        obtain ⟨hP1, hK1, hD1⟩ := hB
        rw [ht] at hP1
        obtain ⟨hP, hD⟩ := xjoin (W := [(a0, .inr (2, [.ref a1, .int v1, .int v2])), (a1, .inl (cT 2, 4096, .inr (.inl f0))), (a2, .inr (2, [.ref a3, .int v4, .int v5])), (a3, .inl (cT 2, 4096, .inr (.inl f3))), (a4, .inr (3, [.ref a5, .ref a6, .ref p8, .ref p10, .int v12])), (a5, .inl (cT 1, 2048, .inl f6)), (a6, .inl (cT 1, 2048, .inl f7)), (p8, .inl (cT 1, 2048, .inl f9)), (p10, .inl (cT 1, 2048, .inl f11)), (a9, .inr (2, [.ref a10, .int o7.2.1, .int o7.2.2])), (a10, .inl (cT 2, 4096, .inr (.inl o7.1)))]) hP hD [2, 3, 4, 5, 6, 7, 8, 9, 10, 0, 1] [] 0 rfl rfl (by decide) (by decide) hk1 hFc hP1 hD1
        generalize H1 = H at hP hS ⊢
        refine lv_iinc (v := (y5 + 1)) (lv' := [(5, .int (y5 + 1)), (6, .int y6), (4, .int y4), (0, .ref a0), (1, .ref a2), (2, .ref a4), (3, .ref a9)]) hx hb dK_putGroups_41 hl (k := 1) rfl rfl (by decide) rfl (fun ls hl => ?_)
        refine lv_iinc (v := (y6 + 1)) (lv' := [(6, .int (y6 + 1)), (5, .int (y5 + 1)), (4, .int y4), (0, .ref a0), (1, .ref a2), (2, .ref a4), (3, .ref a9)]) hx hb dK_putGroups_44 hl (k := 1) rfl rfl (by decide) rfl (fun ls hl => ?_)
        refine lv_goto (tgt := 12) hx hb dK_putGroups_47 (by decide) ?_
        obtain ⟨hP9, hD9⟩ := xsub (wc := [(a0, .inr (2, [.ref a1, .int v1, .int v2])), (a1, .inl (cT 2, 4096, .inr (.inl f0))), (a2, .inr (2, [.ref a3, .int v4, .int v5])), (a3, .inl (cT 2, 4096, .inr (.inl f3))), (a4, .inr (3, [.ref a5, .ref a6, .ref p8, .ref p10, .int v12])), (a5, .inl (cT 1, 2048, .inl f6)), (a6, .inl (cT 1, 2048, .inl f7)), (p8, .inl (cT 1, 2048, .inl f9)), (p10, .inl (cT 1, 2048, .inl f11)), (a9, .inr (2, [.ref a10, .int o7.2.1, .int o7.2.2])), (a10, .inl (cT 2, 4096, .inr (.inl o7.1)))]) hP hD [0, 1, 2, 3, 4, 5, 6, 7, 8, 9, 10] rfl rfl (by decide)
        exact ih (1, (y6 + 1), (y5 + 1), y4, o7.1, o7.2.1, o7.2.2) _ _ ls (⟨rfl, hf, hP9, hD9, hS, lv_sub hl [0, 1, 2, 3, 4, 5, 6] rfl⟩)
  refine lv_aload_n hx hb dK_putGroups_0 rfl (lv_at hl 3 rfl) ?_
  obtain ⟨o1, hq2, hf⟩ := xbind hf
  obtain ⟨hPc, hDc, hFc⟩ := xcut (wc := [(a9, .inr (2, [.ref a10, .int v14, .int v15])), (a10, .inl (cT 2, 4096, .inr (.inl f13)))]) hP hD hS hA [9, 10] rfl rfl (by decide)
  refine va_calli (va_runV (C := "ValueBench$Row") (As := []) (rest := []) ⟨hx, hb, hml, hown, htx⟩ (gR_open l hl9 D cT aK aV s.heap.size n a9 a10 f13 v14 v15 o1 hq2) ⟨callB_of 0 htx (xw_goodC kw_2_136) rfl rfl rfl (htx _ kw_1_4) (htx _ kw_5_32) ⟨by decide, by decide, by decide +kernel⟩ ⟨Nat.le_of_ble_eq_true rfl, Nat.le_of_ble_eq_true rfl⟩, (htx _ kw_2_134), (htx _ kw_2_135)⟩ ⟨xPre_blind, va_recv hK hP (ci := 2) rfl (q0 := 9) rfl, (fun U hU hW => ⟨rfl, xPre_of hZ hS hFc hPc hDc hK U hU hW⟩)⟩ rfl rfl hl.1 rfl (lv_room (Nat.le_of_ble_eq_true rfl)) dK_putGroups_1 ⟨Nat.le_of_ble_eq_true rfl, Nat.le_of_ble_eq_true rfl⟩) hS (fun q _ h => hFc q h) hFc (fun r3 u9 t H1 locs ht hvm hr9 hB hz1 hk1 hS => ?_)
  obtain ⟨hP1, hK1, hD1⟩ := hB
  rw [ht] at hP1
  obtain ⟨hP, hD⟩ := xjoin (W := [(a0, .inr (2, [.ref a1, .int v1, .int v2])), (a1, .inl (cT 2, 4096, .inr (.inl f0))), (a2, .inr (2, [.ref a3, .int v4, .int v5])), (a3, .inl (cT 2, 4096, .inr (.inl f3))), (a4, .inr (3, [.ref a5, .ref a6, .ref p8, .ref p10, .int v12])), (a5, .inl (cT 1, 2048, .inl f6)), (a6, .inl (cT 1, 2048, .inl f7)), (p8, .inl (cT 1, 2048, .inl f9)), (p10, .inl (cT 1, 2048, .inl f11)), (a9, .inr (2, [.ref a10, .int o1.2.2.1, .int o1.2.2.2])), (a10, .inl (cT 2, 4096, .inr (.inl o1.2.1)))]) hP hD [9, 10] [0, 1, 2, 3, 4, 5, 6, 7, 8] 9 rfl rfl (by decide) (by decide) hk1 hFc hP1 hD1
  generalize H1 = H at hP hS ⊢
  rw [hr9]
  refine W.eq (g2 := F0 m 4 ls [.int o1.1]) rfl ?_
  refine lv_istore (lv' := [(4, .int o1.1), (0, .ref a0), (1, .ref a2), (2, .ref a4), (3, .ref a9)]) hx hb dK_putGroups_4 hl (by decide) rfl (fun ls hl => ?_)
  refine lv_iconst (v := 0) hx hb dK_putGroups_6 (by decide) ?_
  refine lv_istore (lv' := [(5, .int 0), (4, .int o1.1), (0, .ref a0), (1, .ref a2), (2, .ref a4), (3, .ref a9)]) hx hb dK_putGroups_7 hl (by decide) rfl (fun ls hl => ?_)
  refine lv_iconst (v := 0) hx hb dK_putGroups_9 (by decide) ?_
  refine lv_istore (lv' := [(6, .int 0), (5, .int 0), (4, .int o1.1), (0, .ref a0), (1, .ref a2), (2, .ref a4), (3, .ref a9)]) hx hb dK_putGroups_10 hl (by decide) rfl (fun ls hl => ?_)
  obtain ⟨hP9, hD9⟩ := xsub (wc := [(a0, .inr (2, [.ref a1, .int v1, .int v2])), (a1, .inl (cT 2, 4096, .inr (.inl f0))), (a2, .inr (2, [.ref a3, .int v4, .int v5])), (a3, .inl (cT 2, 4096, .inr (.inl f3))), (a4, .inr (3, [.ref a5, .ref a6, .ref p8, .ref p10, .int v12])), (a5, .inl (cT 1, 2048, .inl f6)), (a6, .inl (cT 1, 2048, .inl f7)), (p8, .inl (cT 1, 2048, .inl f9)), (p10, .inl (cT 1, 2048, .inl f11)), (a9, .inr (2, [.ref a10, .int o1.2.2.1, .int o1.2.2.2])), (a10, .inl (cT 2, 4096, .inr (.inl o1.2.1)))]) hP hD [0, 1, 2, 3, 4, 5, 6, 7, 8, 9, 10] rfl rfl (by decide)
  exact key n (1, 0, 0, o1.1, o1.2.1, o1.2.2.1, o1.2.2.2) _ _ ls (⟨rfl, hf, hP9, hD9, hS, lv_sub hl [0, 1, 2, 3, 4, 5, 6] rfl⟩)
