set_option maxHeartbeats 400000000 in
set_option maxRecDepth 100000 in
theorem gG_ofCodes (l : Launch) (hl9 : l.stackTraces = false) (D : va_G) (cT : Nat → ClassId) (aK aV : Nat → Nat) (sz n : Nat) (a0 : Nat) (a1 : Nat) (a2 : Nat) (a3 : Nat) (f0 : Nat → Int64) (v1 : Int32) (v2 : Int32) (f3 : Nat → Int64) (v4 : Int32) (v5 : Int32) (out : Int32 × (Nat → Int64) × Int32 × Int32) (hf : fG_ofCodes n f0 v1 v2 f3 v4 v5 = some out) : xMet l yG_ofCodes wyG_ofCodes 3 0 0 65 D cT aK aV sz [.ref a0, .ref a2] [(a0, .inr (2, [.ref a1, .int v1, .int v2])), (a1, .inl (cT 2, 4096, .inr (.inl f0))), (a2, .inr (2, [.ref a3, .int v4, .int v5])), (a3, .inl (cT 2, 4096, .inr (.inl f3)))] (fun A => va_Qi (fun (r : Int32) (_ : Unit) => r = out.1) (fun _ t => xB D xcl cT A [(a0, .inr (2, [.ref a1, .int v1, .int v2])), (a1, .inl (cT 2, 4096, .inr (.inl f0))), (a2, .inr (2, [.ref a3, .int out.2.2.1, .int out.2.2.2])), (a3, .inl (cT 2, 4096, .inr (.inl out.2.1)))] t) A) := by
  refine Met.ofW (cc := prog_9_method_15_code) (maxL := 6) (ret := (some .int)) (by decide) rfl ?_
  intro p e s m args below meth c s₁ B hml hv
  obtain ⟨rfl, hsz, hZ, hP, hK, hD0⟩ := hv
  have hx := B.exec
  have hb := B.bytes
  have hr := B.returns
  have hts := atoms_spec (ws := wyG_ofCodes) B.pre
  have htx := fun w h => hts w (List.mem_cons_of_mem _ h)
  have hown : s.vm.findClass "ValueBench$Singles" = some m.cls := findClass_of_methodNamed B.named
  have hlocks := B.notSynchronized
  subst hsz
  have hD := hD0.self (sz := s.heap.size)
  generalize hAe : va_A [(a0, .inr (2, [.ref a1, .int v1, .int v2])), (a1, .inl (cT 2, 4096, .inr (.inl f0))), (a2, .inr (2, [.ref a3, .int v4, .int v5])), (a3, .inl (cT 2, 4096, .inr (.inl f3)))] s.heap.size = A at hD hZ ⊢
  have hA : ∀ q : Nat, s.heap.size ≤ q → A q := fun q h => by rw [← hAe]; exact Or.inr h
  have hS : va_S A s.heap s.heap [] := va_S.rf
  have hP : va_P D xcl [(a0, .inr (2, [.ref a1, .int v1, .int v2])), (a1, .inl (cT 2, 4096, .inr (.inl f0))), (a2, .inr (2, [.ref a3, .int v4, .int v5])), (a3, .inl (cT 2, 4096, .inr (.inl f3)))] s.heap := hP
  have hl := lv_entry ([.ref a0, .ref a2]) (n := 6) (Nat.le_of_ble_eq_true rfl)
  rw [lg_entry_eq]
  generalize (lg_sl ([.ref a0, .ref a2]) ++ List.replicate (6 - (lg_sl ([.ref a0, .ref a2])).length) Slot.unset).toArray = ls at hl ⊢
  have hl : lv_has ls 6 [(0, .ref a0), (1, .ref a2)] := hl
  unfold fG_ofCodes at hf
  refine xloopK (σ := Nat × Int32 × Int32 × (Nat → Int64) × Int32 × Int32) (fun n x H locs ls => (x.1 = 1 ∧ fG_ofCodes_b f0 v1 v2 n x.1 x.2.1 x.2.2.1 x.2.2.2.1 x.2.2.2.2.1 x.2.2.2.2.2 = some out ∧ va_P D xcl [(a0, .inr (2, [.ref a1, .int v1, .int v2])), (a1, .inl (cT 2, 4096, .inr (.inl f0))), (a2, .inr (2, [.ref a3, .int x.2.2.2.2.1, .int x.2.2.2.2.2])), (a3, .inl (cT 2, 4096, .inr (.inl x.2.2.2.1)))] H ∧ va_D A [(a0, .inr (2, [.ref a1, .int v1, .int v2])), (a1, .inl (cT 2, 4096, .inr (.inl f0))), (a2, .inr (2, [.ref a3, .int x.2.2.2.2.1, .int x.2.2.2.2.2])), (a3, .inl (cT 2, 4096, .inr (.inl x.2.2.2.1)))] ∧ va_S A s.heap H locs ∧ lv_has ls 6 [(3, .int x.2.1), (2, .int x.2.2.1), (0, .ref a0), (1, .ref a2)])) (fun x => 16) (fun x H locs ls h => by exact absurd h.2.1 (by rw [fG_ofCodes_b]; exact fun h => nomatch h)) (fun n ih x H locs ls hv => ?_) (fun key => ?_)
  · obtain ⟨lb, y3, y2, w0, w1, w2⟩ := x
    rcases hv with ⟨hj, hf, hP, hD, hS, hl⟩
    subst hj
    have hf : fG_ofCodes_b f0 v1 v2 (n + 1) 1 y3 y2 w0 w1 w2 = some out := hf
    rw [fG_ofCodes_b] at hf
    obtain ⟨hP, hD⟩ : xPD D xcl A [(a0, .inr (2, [.ref a1, .int v1, .int v2])), (a1, .inl (cT 2, 4096, .inr (.inl f0))), (a2, .inr (2, [.ref a3, .int w1, .int w2])), (a3, .inl (cT 2, 4096, .inr (.inl w0)))] H := ⟨hP, hD⟩
    have hl : lv_has ls 6 [(3, .int y3), (2, .int y2), (0, .ref a0), (1, .ref a2)] := hl
    refine W.eq (g2 := F0 m 16 ls []) rfl ?_
    refine lv_iload_n hx hb dG_ofCodes_16 rfl (lv_at hl 0 rfl) ?_
    refine lv_aload_n hx hb dG_ofCodes_17 rfl (lv_at hl 2 rfl) ?_
    refine lv_iconst (v := 0) hx hb dG_ofCodes_18 (by decide) ?_
    obtain ⟨o1, hq2, hf⟩ := xbind hf
    obtain ⟨hPc, hDc, hFc⟩ := xcut (wc := [(a0, .inr (2, [.ref a1, .int v1, .int v2])), (a1, .inl (cT 2, 4096, .inr (.inl f0)))]) hP hD hS hA [0, 1] rfl rfl (by decide)
    refine va_calli (va_runV (C := "ValueBench$Row") (As := [.int 0]) (rest := [.int y3]) ⟨hx, hb, hml, hown, htx⟩ (gR_length l hl9 D cT aK aV H.size n a0 a1 (0 : Int32) f0 v1 v2 o1 hq2) ⟨callB_of 1 htx (xw_goodC kw_2_191) rfl rfl rfl (htx _ kw_1_4) (htx _ kw_4_42) ⟨by decide, by decide, by decide +kernel⟩ ⟨Nat.le_of_ble_eq_true rfl, Nat.le_of_ble_eq_true rfl⟩, (htx _ kw_2_189), (htx _ kw_2_190)⟩ ⟨xPre_blind, va_recv hK hP (ci := 2) rfl (q0 := 0) rfl, (fun U hU hW => ⟨rfl, xPre_of hZ hS hFc hPc hDc hK U hU hW⟩)⟩ rfl rfl hl.1 rfl (lv_room (Nat.le_of_ble_eq_true rfl)) dG_ofCodes_19 ⟨Nat.le_of_ble_eq_true rfl, Nat.le_of_ble_eq_true rfl⟩) hS (fun q _ h => hFc q h) hFc (fun r3 u9 t H1 locs ht hvm hr9 hB hz1 hk1 hS => ?_)
    obtain ⟨hP1, hK1, hD1⟩ := hB
    rw [ht] at hP1
    obtain ⟨hP, hD⟩ := xjoin (W := [(a2, .inr (2, [.ref a3, .int w1, .int w2])), (a3, .inl (cT 2, 4096, .inr (.inl w0))), (a0, .inr (2, [.ref a1, .int v1, .int v2])), (a1, .inl (cT 2, 4096, .inr (.inl f0)))]) hP hD [0, 1] [2, 3] 2 rfl rfl (by decide) (by decide) hk1 hFc hP1 hD1
    generalize H1 = H at hP hS ⊢
    rw [hr9]
    refine W.eq (g2 := F0 m 22 ls [.int o1, .int y3]) rfl ?_
    refine lv_icmp_gt (tgt := 62) hx hb dG_ofCodes_22 (by decide) (fun hc => ?_) (fun hc => ?_)
    · rw [if_pos hc] at hf
      refine lv_aload_n hx hb dG_ofCodes_62 rfl (lv_at hl 3 rfl) ?_
      refine lv_iload_n hx hb dG_ofCodes_63 rfl (lv_at hl 1 rfl) ?_
      refine lv_iconst (v := 4) hx hb dG_ofCodes_64 (by decide) ?_
      refine lv_aload_n hx hb dG_ofCodes_65 rfl (lv_at hl 2 rfl) ?_
      refine lv_iconst (v := 0) hx hb dG_ofCodes_66 (by decide) ?_
      obtain ⟨o4, hq5, hf⟩ := xbind hf
      obtain ⟨hPc, hDc, hFc⟩ := xcut (wc := [(a0, .inr (2, [.ref a1, .int v1, .int v2])), (a1, .inl (cT 2, 4096, .inr (.inl f0)))]) hP hD hS hA [2, 3] rfl rfl (by decide)
      refine va_calli (va_runV (C := "ValueBench$Row") (As := [.int 0]) (rest := [.int 4, .int y2, .ref a2]) ⟨hx, hb, hml, hown, htx⟩ (gR_length l hl9 D cT aK aV H.size n a0 a1 (0 : Int32) f0 v1 v2 o4 hq5) ⟨callB_of 1 htx (xw_goodC kw_2_191) rfl rfl rfl (htx _ kw_1_4) (htx _ kw_4_42) ⟨by decide, by decide, by decide +kernel⟩ ⟨Nat.le_of_ble_eq_true rfl, Nat.le_of_ble_eq_true rfl⟩, (htx _ kw_2_189), (htx _ kw_2_190)⟩ ⟨xPre_blind, va_recv hK hP (ci := 2) rfl (q0 := 2) rfl, (fun U hU hW => ⟨rfl, xPre_of hZ hS hFc hPc hDc hK U hU hW⟩)⟩ rfl rfl hl.1 rfl (lv_room (Nat.le_of_ble_eq_true rfl)) dG_ofCodes_67 ⟨Nat.le_of_ble_eq_true rfl, Nat.le_of_ble_eq_true rfl⟩) hS (fun q _ h => hFc q h) hFc (fun r6 u9 t H1 locs ht hvm hr9 hB hz1 hk1 hS => ?_)
      obtain ⟨hP1, hK1, hD1⟩ := hB
      rw [ht] at hP1
      obtain ⟨hP, hD⟩ := xjoin (W := [(a2, .inr (2, [.ref a3, .int w1, .int w2])), (a3, .inl (cT 2, 4096, .inr (.inl w0))), (a0, .inr (2, [.ref a1, .int v1, .int v2])), (a1, .inl (cT 2, 4096, .inr (.inl f0)))]) hP hD [2, 3] [0, 1] 2 rfl rfl (by decide) (by decide) hk1 hFc hP1 hD1
      generalize H1 = H at hP hS ⊢
      rw [hr9]
      refine W.eq (g2 := F0 m 70 ls [.int o4, .int 4, .int y2, .ref a2]) rfl ?_
      obtain ⟨o7, hq8, hf⟩ := xbind hf
      obtain ⟨hPc, hDc, hFc⟩ := xcut (wc := [(a2, .inr (2, [.ref a3, .int w1, .int w2])), (a3, .inl (cT 2, 4096, .inr (.inl w0)))]) hP hD hS hA [0, 1] rfl rfl (by decide)
      refine va_callv (va_runV (C := "ValueBench$Row") (As := [.int y2, .int 4, .int o4]) (rest := []) ⟨hx, hb, hml, hown, htx⟩ (gR_close l hl9 D cT aK aV H.size n a2 a3 y2 (4 : Int32) o4 w0 w1 w2 o7 hq8) ⟨callB_of 3 htx (xw_goodC kw_2_167) rfl rfl rfl (htx _ kw_1_4) (htx _ kw_4_70) ⟨by decide, by decide, by decide +kernel⟩ ⟨Nat.le_of_ble_eq_true rfl, Nat.le_of_ble_eq_true rfl⟩, (htx _ kw_2_165), (htx _ kw_2_166)⟩ ⟨xPre_blind, va_recv hK hP (ci := 2) rfl (q0 := 0) rfl, (fun U hU hW => ⟨rfl, xPre_of hZ hS hFc hPc hDc hK U hU hW⟩)⟩ rfl rfl hl.1 rfl (lv_room (Nat.le_of_ble_eq_true rfl)) dG_ofCodes_70 ⟨Nat.le_of_ble_eq_true rfl, Nat.le_of_ble_eq_true rfl⟩) hS (fun q _ h => hFc q h) hFc (fun u9 t H1 locs ht hvm hr9 hB hz1 hk1 hS => ?_)
      obtain ⟨hP1, hK1, hD1⟩ := hB
      rw [ht] at hP1
      obtain ⟨hP, hD⟩ := xjoin (W := [(a0, .inr (2, [.ref a1, .int v1, .int v2])), (a1, .inl (cT 2, 4096, .inr (.inl f0))), (a2, .inr (2, [.ref a3, .int w1, .int w2])), (a3, .inl (cT 2, 4096, .inr (.inl o7)))]) hP hD [0, 1] [2, 3] 2 rfl rfl (by decide) (by decide) hk1 hFc hP1 hD1
      generalize H1 = H at hP hS ⊢
      refine lv_iconst (v := 0) hx hb dG_ofCodes_73 (by decide) ?_
      obtain rfl := Option.some.inj hf
      obtain ⟨hP9, hD9⟩ := xsub (wc := [(a0, .inr (2, [.ref a1, .int v1, .int v2])), (a1, .inl (cT 2, 4096, .inr (.inl f0))), (a2, .inr (2, [.ref a3, .int w1, .int w2])), (a3, .inl (cT 2, 4096, .inr (.inl o7)))]) hP hD [0, 1, 2, 3] rfl rfl (by decide)
      exact W.iret (v := (0 : Int32)) hx hb hr (fun t ht hW => ⟨⟨(0 : Int32), (), rfl, rfl, by rw [ht]; exact hP9, va_K.moved hW.alike hK, hD9⟩, hS.F ht⟩) hS.2.2 dG_ofCodes_74
    · rw [if_neg hc] at hf
      refine lv_aload_n hx hb dG_ofCodes_25 rfl (lv_at hl 2 rfl) ?_
      refine lv_iload_n hx hb dG_ofCodes_26 rfl (lv_at hl 0 rfl) ?_
      obtain ⟨o4, hq5, hf⟩ := xbind hf
      obtain ⟨hPc, hDc, hFc⟩ := xcut (wc := [(a0, .inr (2, [.ref a1, .int v1, .int v2])), (a1, .inl (cT 2, 4096, .inr (.inl f0)))]) hP hD hS hA [2, 3] rfl rfl (by decide)
      refine va_calll (va_runV (C := "ValueBench$Row") (As := [.int y3]) (rest := []) ⟨hx, hb, hml, hown, htx⟩ (gR_number l hl9 D cT aK aV H.size n a0 a1 y3 f0 v1 v2 o4 hq5) ⟨callB_of 1 htx (xw_goodC kw_3_37) rfl rfl rfl (htx _ kw_1_4) (htx _ kw_4_40) ⟨by decide, by decide, by decide +kernel⟩ ⟨Nat.le_of_ble_eq_true rfl, Nat.le_of_ble_eq_true rfl⟩, (htx _ kw_3_35), (htx _ kw_3_36)⟩ ⟨xPre_blind, va_recv hK hP (ci := 2) rfl (q0 := 2) rfl, (fun U hU hW => ⟨rfl, xPre_of hZ hS hFc hPc hDc hK U hU hW⟩)⟩ rfl rfl hl.1 rfl (lv_room (Nat.le_of_ble_eq_true rfl)) dG_ofCodes_27 ⟨Nat.le_of_ble_eq_true rfl, Nat.le_of_ble_eq_true rfl⟩) hS (fun q _ h => hFc q h) hFc (fun r6 u9 t H1 locs ht hvm hr9 hB hz1 hk1 hS => ?_)
      obtain ⟨hP1, hK1, hD1⟩ := hB
      rw [ht] at hP1
      obtain ⟨hP, hD⟩ := xjoin (W := [(a2, .inr (2, [.ref a3, .int w1, .int w2])), (a3, .inl (cT 2, 4096, .inr (.inl w0))), (a0, .inr (2, [.ref a1, .int v1, .int v2])), (a1, .inl (cT 2, 4096, .inr (.inl f0)))]) hP hD [2, 3] [0, 1] 2 rfl rfl (by decide) (by decide) hk1 hFc hP1 hD1
      generalize H1 = H at hP hS ⊢
      rw [hr9]
      refine W.eq (g2 := F0 m 30 ls [.long o4]) rfl ?_
      refine lv_lstore (lv' := [(4, .long o4), (3, .int y3), (2, .int y2), (0, .ref a0), (1, .ref a2)]) hx hb dG_ofCodes_30 hl (by decide) rfl (fun ls hl => ?_)
      refine lv_lload hx hb dG_ofCodes_32 (lv_at hl 0 rfl) ?_
      refine lv_lconst (v := 0) hx hb dG_ofCodes_34 (by decide) ?_
      refine W.lcmp hx hb dG_ofCodes_35 ?_
      refine lv_if_lt (tgt := 48) hx hb dG_ofCodes_36 (by decide) (fun hc => ?_) (fun hc => ?_)
      · rw [if_pos hc] at hf
        refine lv_iconst (v := 2) hx hb dG_ofCodes_48 (by decide) ?_
        obtain rfl := Option.some.inj hf
        obtain ⟨hP9, hD9⟩ := xsub (wc := [(a0, .inr (2, [.ref a1, .int v1, .int v2])), (a1, .inl (cT 2, 4096, .inr (.inl f0))), (a2, .inr (2, [.ref a3, .int w1, .int w2])), (a3, .inl (cT 2, 4096, .inr (.inl w0)))]) hP hD [2, 3, 0, 1] rfl rfl (by decide)
        exact W.iret (v := (2 : Int32)) hx hb hr (fun t ht hW => ⟨⟨(2 : Int32), (), rfl, rfl, by rw [ht]; exact hP9, va_K.moved hW.alike hK, hD9⟩, hS.F ht⟩) hS.2.2 dG_ofCodes_49
      · rw [if_neg hc] at hf
        refine lv_lload hx hb dG_ofCodes_39 (lv_at hl 0 rfl) ?_
        refine lv_ldc2 hx hb hown (htx _ kw_4_133) dG_ofCodes_41 ?_
        refine W.lcmp hx hb dG_ofCodes_44 ?_
        refine lv_if_le (tgt := 50) hx hb dG_ofCodes_45 (by decide) (fun hc => ?_) (fun hc => ?_)
        · rw [if_pos hc] at hf
          refine lv_aload_n hx hb dG_ofCodes_50 rfl (lv_at hl 4 rfl) ?_
          refine lv_lload hx hb dG_ofCodes_51 (lv_at hl 0 rfl) ?_
          obtain ⟨o7, hq8, hf⟩ := xbind hf
          obtain ⟨hPc, hDc, hFc⟩ := xcut (wc := [(a2, .inr (2, [.ref a3, .int w1, .int w2])), (a3, .inl (cT 2, 4096, .inr (.inl w0)))]) hP hD hS hA [0, 1] rfl rfl (by decide)
          refine va_callv (va_runV (C := "ValueBench$Row") (As := [.long o4]) (rest := []) ⟨hx, hb, hml, hown, htx⟩ (gR_put l hl9 D cT aK aV H.size n a2 a3 o4 w0 w1 w2 o7 hq8) ⟨callB_of 1 htx (xw_goodC kw_2_126) rfl rfl rfl (htx _ kw_1_4) (htx _ kw_4_119) ⟨by decide, by decide, by decide +kernel⟩ ⟨Nat.le_of_ble_eq_true rfl, Nat.le_of_ble_eq_true rfl⟩, (htx _ kw_2_124), (htx _ kw_2_125)⟩ ⟨xPre_blind, va_recv hK hP (ci := 2) rfl (q0 := 0) rfl, (fun U hU hW => ⟨rfl, xPre_of hZ hS hFc hPc hDc hK U hU hW⟩)⟩ rfl rfl hl.1 rfl (lv_room (Nat.le_of_ble_eq_true rfl)) dG_ofCodes_53 ⟨Nat.le_of_ble_eq_true rfl, Nat.le_of_ble_eq_true rfl⟩) hS (fun q _ h => hFc q h) hFc (fun u9 t H1 locs ht hvm hr9 hB hz1 hk1 hS => ?_)
          obtain ⟨hP1, hK1, hD1⟩ := hB
          rw [ht] at hP1
          obtain ⟨hP, hD⟩ := xjoin (W := [(a0, .inr (2, [.ref a1, .int v1, .int v2])), (a1, .inl (cT 2, 4096, .inr (.inl f0))), (a2, .inr (2, [.ref a3, .int o7.2.1, .int o7.2.2])), (a3, .inl (cT 2, 4096, .inr (.inl o7.1)))]) hP hD [0, 1] [2, 3] 2 rfl rfl (by decide) (by decide) hk1 hFc hP1 hD1
          generalize H1 = H at hP hS ⊢
          refine lv_iinc (v := (y3 + 1)) (lv' := [(3, .int (y3 + 1)), (4, .long o4), (2, .int y2), (0, .ref a0), (1, .ref a2)]) hx hb dG_ofCodes_56 hl (k := 1) rfl rfl (by decide) rfl (fun ls hl => ?_)
          refine lv_goto (tgt := 16) hx hb dG_ofCodes_59 (by decide) ?_
          obtain ⟨hP9, hD9⟩ := xsub (wc := [(a0, .inr (2, [.ref a1, .int v1, .int v2])), (a1, .inl (cT 2, 4096, .inr (.inl f0))), (a2, .inr (2, [.ref a3, .int o7.2.1, .int o7.2.2])), (a3, .inl (cT 2, 4096, .inr (.inl o7.1)))]) hP hD [0, 1, 2, 3] rfl rfl (by decide)
          exact ih (1, (y3 + 1), y2, o7.1, o7.2.1, o7.2.2) _ _ ls (⟨rfl, hf, hP9, hD9, hS, lv_sub hl [0, 2, 3, 4] rfl⟩)
        · rw [if_neg hc] at hf
          refine lv_iconst (v := 2) hx hb dG_ofCodes_48 (by decide) ?_
          obtain rfl := Option.some.inj hf
          obtain ⟨hP9, hD9⟩ := xsub (wc := [(a0, .inr (2, [.ref a1, .int v1, .int v2])), (a1, .inl (cT 2, 4096, .inr (.inl f0))), (a2, .inr (2, [.ref a3, .int w1, .int w2])), (a3, .inl (cT 2, 4096, .inr (.inl w0)))]) hP hD [2, 3, 0, 1] rfl rfl (by decide)
          exact W.iret (v := (2 : Int32)) hx hb hr (fun t ht hW => ⟨⟨(2 : Int32), (), rfl, rfl, by rw [ht]; exact hP9, va_K.moved hW.alike hK, hD9⟩, hS.F ht⟩) hS.2.2 dG_ofCodes_49
  refine lv_aload_n hx hb dG_ofCodes_0 rfl (lv_at hl 0 rfl) ?_
  obtain ⟨o1, hq2, hf⟩ := xbind hf
  obtain ⟨hPc, hDc, hFc⟩ := xcut (wc := [(a0, .inr (2, [.ref a1, .int v1, .int v2])), (a1, .inl (cT 2, 4096, .inr (.inl f0)))]) hP hD hS hA [0, 1] rfl rfl (by decide)
  refine va_calli (va_runS (As := [.ref a0]) (rest := []) ⟨hx, hb, hml, hown, htx⟩ (gG_isOfNumbers l hl9 D cT aK aV s.heap.size n a0 a1 f0 v1 v2 o1 hq2) ⟨callB_of 1 htx (xw_goodC kw_4_132) rfl rfl rfl (htx _ kw_1_26) (htx _ kw_4_130) ⟨by decide, by decide, by decide +kernel⟩ ⟨Nat.le_of_ble_eq_true rfl, Nat.le_of_ble_eq_true rfl⟩, htx _ kw_4_131⟩ ⟨xPre_blind, (fun U hU hW => ⟨rfl, xPre_of hZ hS hFc hPc hDc hK U hU hW⟩)⟩ rfl rfl hl.1 rfl (lv_room (Nat.le_of_ble_eq_true rfl)) dG_ofCodes_1 ⟨Nat.le_of_ble_eq_true rfl, Nat.le_of_ble_eq_true rfl⟩) hS (fun q _ h => hFc q h) hFc (fun r3 u9 t H1 locs ht hvm hr9 hB hz1 hk1 hS => ?_)
  obtain ⟨hP1, hK1, hD1⟩ := hB
  rw [ht] at hP1
  obtain ⟨hP, hD⟩ := xjoin (W := [(a2, .inr (2, [.ref a3, .int v4, .int v5])), (a3, .inl (cT 2, 4096, .inr (.inl f3))), (a0, .inr (2, [.ref a1, .int v1, .int v2])), (a1, .inl (cT 2, 4096, .inr (.inl f0)))]) hP hD [0, 1] [2, 3] 2 rfl rfl (by decide) (by decide) hk1 hFc hP1 hD1
  generalize H1 = H at hP hS ⊢
  rw [hr9]
  refine W.eq (g2 := F0 m 4 ls [.int o1]) rfl ?_
  refine lv_if_ne (tgt := 9) hx hb dG_ofCodes_4 (by decide) (fun hc => ?_) (fun hc => ?_)
  · rw [if_neg hc] at hf
    refine lv_aload_n hx hb dG_ofCodes_9 rfl (lv_at hl 1 rfl) ?_
    obtain ⟨o4, hq5, hf⟩ := xbind hf
    obtain ⟨hPc, hDc, hFc⟩ := xcut (wc := [(a2, .inr (2, [.ref a3, .int v4, .int v5])), (a3, .inl (cT 2, 4096, .inr (.inl f3)))]) hP hD hS hA [0, 1] rfl rfl (by decide)
    refine va_calli (va_runV (C := "ValueBench$Row") (As := []) (rest := []) ⟨hx, hb, hml, hown, htx⟩ (gR_open l hl9 D cT aK aV H.size n a2 a3 f3 v4 v5 o4 hq5) ⟨callB_of 0 htx (xw_goodC kw_2_136) rfl rfl rfl (htx _ kw_1_4) (htx _ kw_4_46) ⟨by decide, by decide, by decide +kernel⟩ ⟨Nat.le_of_ble_eq_true rfl, Nat.le_of_ble_eq_true rfl⟩, (htx _ kw_2_134), (htx _ kw_2_135)⟩ ⟨xPre_blind, va_recv hK hP (ci := 2) rfl (q0 := 0) rfl, (fun U hU hW => ⟨rfl, xPre_of hZ hS hFc hPc hDc hK U hU hW⟩)⟩ rfl rfl hl.1 rfl (lv_room (Nat.le_of_ble_eq_true rfl)) dG_ofCodes_10 ⟨Nat.le_of_ble_eq_true rfl, Nat.le_of_ble_eq_true rfl⟩) hS (fun q _ h => hFc q h) hFc (fun r6 u9 t H1 locs ht hvm hr9 hB hz1 hk1 hS => ?_)
    obtain ⟨hP1, hK1, hD1⟩ := hB
    rw [ht] at hP1
    obtain ⟨hP, hD⟩ := xjoin (W := [(a0, .inr (2, [.ref a1, .int v1, .int v2])), (a1, .inl (cT 2, 4096, .inr (.inl f0))), (a2, .inr (2, [.ref a3, .int o4.2.2.1, .int o4.2.2.2])), (a3, .inl (cT 2, 4096, .inr (.inl o4.2.1)))]) hP hD [0, 1] [2, 3] 2 rfl rfl (by decide) (by decide) hk1 hFc hP1 hD1
    generalize H1 = H at hP hS ⊢
    rw [hr9]
    refine W.eq (g2 := F0 m 13 ls [.int o4.1]) rfl ?_
    refine lv_istore_n (lv' := [(2, .int o4.1), (0, .ref a0), (1, .ref a2)]) hx hb dG_ofCodes_13 rfl hl (by decide) rfl (fun ls hl => ?_)
    refine lv_iconst (v := 1) hx hb dG_ofCodes_14 (by decide) ?_
    refine lv_istore_n (lv' := [(3, .int 1), (2, .int o4.1), (0, .ref a0), (1, .ref a2)]) hx hb dG_ofCodes_15 rfl hl (by decide) rfl (fun ls hl => ?_)
    obtain ⟨hP9, hD9⟩ := xsub (wc := [(a0, .inr (2, [.ref a1, .int v1, .int v2])), (a1, .inl (cT 2, 4096, .inr (.inl f0))), (a2, .inr (2, [.ref a3, .int o4.2.2.1, .int o4.2.2.2])), (a3, .inl (cT 2, 4096, .inr (.inl o4.2.1)))]) hP hD [0, 1, 2, 3] rfl rfl (by decide)
    exact key n (1, 1, o4.1, o4.2.1, o4.2.2.1, o4.2.2.2) _ _ ls (⟨rfl, hf, hP9, hD9, hS, lv_sub hl [0, 1, 2, 3] rfl⟩)
  · rw [if_pos hc] at hf
    refine lv_iconst (v := 1) hx hb dG_ofCodes_7 (by decide) ?_
    obtain rfl := Option.some.inj hf
    obtain ⟨hP9, hD9⟩ := xsub (wc := [(a0, .inr (2, [.ref a1, .int v1, .int v2])), (a1, .inl (cT 2, 4096, .inr (.inl f0))), (a2, .inr (2, [.ref a3, .int v4, .int v5])), (a3, .inl (cT 2, 4096, .inr (.inl f3)))]) hP hD [2, 3, 0, 1] rfl rfl (by decide)
    exact W.iret (v := (1 : Int32)) hx hb hr (fun t ht hW => ⟨⟨(1 : Int32), (), rfl, rfl, by rw [ht]; exact hP9, va_K.moved hW.alike hK, hD9⟩, hS.F ht⟩) hS.2.2 dG_ofCodes_8
set_option maxHeartbeats 400000000 in
set_option maxRecDepth 100000 in
theorem gG_inCase (l : Launch) (hl9 : l.stackTraces = false) (D : va_G) (cT : Nat → ClassId) (aK aV : Nat → Nat) (sz n : Nat) (a0 : Nat) (a1 : Nat) (a2 : Nat) (a3 : Nat) (x1 : Int32) (x2 : Int32) (f0 : Nat → Int64) (v1 : Int32) (v2 : Int32) (f3 : Nat → Int64) (v4 : Int32) (v5 : Int32) (out : Int32 × (Nat → Int64) × Int32 × Int32) (hf : fG_inCase n x1 x2 f0 v1 v2 f3 v4 v5 = some out) : xMet l yG_inCase wyG_inCase 2 0 0 43 D cT aK aV sz [.ref a0, .int x1, .int x2, .ref a2] [(a0, .inr (2, [.ref a1, .int v1, .int v2])), (a1, .inl (cT 2, 4096, .inr (.inl f0))), (a2, .inr (2, [.ref a3, .int v4, .int v5])), (a3, .inl (cT 2, 4096, .inr (.inl f3)))] (fun A => va_Qi (fun (r : Int32) (_ : Unit) => r = out.1) (fun _ t => xB D xcl cT A [(a0, .inr (2, [.ref a1, .int v1, .int v2])), (a1, .inl (cT 2, 4096, .inr (.inl f0))), (a2, .inr (2, [.ref a3, .int out.2.2.1, .int out.2.2.2])), (a3, .inl (cT 2, 4096, .inr (.inl out.2.1)))] t) A) := by
  refine Met.ofW (cc := prog_9_method_17_code) (maxL := 8) (ret := (some .int)) (by decide) rfl ?_
  intro p e s m args below meth c s₁ B hml hv
  obtain ⟨rfl, hsz, hZ, hP, hK, hD0⟩ := hv
  have hx := B.exec
  have hb := B.bytes
  have hr := B.returns
  have hts := atoms_spec (ws := wyG_inCase) B.pre
  have htx := fun w h => hts w (List.mem_cons_of_mem _ h)
  have hown : s.vm.findClass "ValueBench$Singles" = some m.cls := findClass_of_methodNamed B.named
  have hlocks := B.notSynchronized
  subst hsz
  have hD := hD0.self (sz := s.heap.size)
  generalize hAe : va_A [(a0, .inr (2, [.ref a1, .int v1, .int v2])), (a1, .inl (cT 2, 4096, .inr (.inl f0))), (a2, .inr (2, [.ref a3, .int v4, .int v5])), (a3, .inl (cT 2, 4096, .inr (.inl f3)))] s.heap.size = A at hD hZ ⊢
  have hA : ∀ q : Nat, s.heap.size ≤ q → A q := fun q h => by rw [← hAe]; exact Or.inr h
  have hS : va_S A s.heap s.heap [] := va_S.rf
  have hP : va_P D xcl [(a0, .inr (2, [.ref a1, .int v1, .int v2])), (a1, .inl (cT 2, 4096, .inr (.inl f0))), (a2, .inr (2, [.ref a3, .int v4, .int v5])), (a3, .inl (cT 2, 4096, .inr (.inl f3)))] s.heap := hP
  have hl := lv_entry ([.ref a0, .int x1, .int x2, .ref a2]) (n := 8) (Nat.le_of_ble_eq_true rfl)
  rw [lg_entry_eq]
  generalize (lg_sl ([.ref a0, .int x1, .int x2, .ref a2]) ++ List.replicate (8 - (lg_sl ([.ref a0, .int x1, .int x2, .ref a2])).length) Slot.unset).toArray = ls at hl ⊢
  have hl : lv_has ls 8 [(0, .ref a0), (1, .int x1), (2, .int x2), (3, .ref a2)] := hl
  unfold fG_inCase at hf
  refine xloopK (σ := Nat × Int32 × Int32 × Int32 × Int32 × (Nat → Int64) × Int32 × Int32) (fun n x H locs ls => (x.1 = 1 ∧ fG_inCase_b f0 v1 v2 n x.1 x.2.1 x.2.2.1 x.2.2.2.1 x.2.2.2.2.1 x.2.2.2.2.2.1 x.2.2.2.2.2.2.1 x.2.2.2.2.2.2.2 = some out ∧ va_P D xcl [(a0, .inr (2, [.ref a1, .int v1, .int v2])), (a1, .inl (cT 2, 4096, .inr (.inl f0))), (a2, .inr (2, [.ref a3, .int x.2.2.2.2.2.2.1, .int x.2.2.2.2.2.2.2])), (a3, .inl (cT 2, 4096, .inr (.inl x.2.2.2.2.2.1)))] H ∧ va_D A [(a0, .inr (2, [.ref a1, .int v1, .int v2])), (a1, .inl (cT 2, 4096, .inr (.inl f0))), (a2, .inr (2, [.ref a3, .int x.2.2.2.2.2.2.1, .int x.2.2.2.2.2.2.2])), (a3, .inl (cT 2, 4096, .inr (.inl x.2.2.2.2.2.1)))] ∧ va_S A s.heap H locs ∧ lv_has ls 8 [(5, .int x.2.1), (4, .int x.2.2.1), (0, .ref a0), (1, .int x.2.2.2.1), (2, .int x.2.2.2.2.1), (3, .ref a2)])) (fun x => 20) (fun x H locs ls h => by exact absurd h.2.1 (by rw [fG_inCase_b]; exact fun h => nomatch h)) (fun n ih x H locs ls hv => ?_) (fun key => ?_)
  · obtain ⟨lb, y5, y4, y1, y2, w0, w1, w2⟩ := x
    rcases hv with ⟨hj, hf, hP, hD, hS, hl⟩
    subst hj
    have hf : fG_inCase_b f0 v1 v2 (n + 1) 1 y5 y4 y1 y2 w0 w1 w2 = some out := hf
    rw [fG_inCase_b] at hf
    obtain ⟨hP, hD⟩ : xPD D xcl A [(a0, .inr (2, [.ref a1, .int v1, .int v2])), (a1, .inl (cT 2, 4096, .inr (.inl f0))), (a2, .inr (2, [.ref a3, .int w1, .int w2])), (a3, .inl (cT 2, 4096, .inr (.inl w0)))] H := ⟨hP, hD⟩
    have hl : lv_has ls 8 [(5, .int y5), (4, .int y4), (0, .ref a0), (1, .int y1), (2, .int y2), (3, .ref a2)] := hl
    refine W.eq (g2 := F0 m 20 ls []) rfl ?_
    refine lv_iload hx hb dG_inCase_20 (lv_at hl 0 rfl) ?_
    refine lv_aload_n hx hb dG_inCase_22 rfl (lv_at hl 2 rfl) ?_
    refine lv_iconst (v := 0) hx hb dG_inCase_23 (by decide) ?_
    obtain ⟨o1, hq2, hf⟩ := xbind hf
    obtain ⟨hPc, hDc, hFc⟩ := xcut (wc := [(a0, .inr (2, [.ref a1, .int v1, .int v2])), (a1, .inl (cT 2, 4096, .inr (.inl f0)))]) hP hD hS hA [0, 1] rfl rfl (by decide)
    refine va_calli (va_runV (C := "ValueBench$Row") (As := [.int 0]) (rest := [.int y5]) ⟨hx, hb, hml, hown, htx⟩ (gR_length l hl9 D cT aK aV H.size n a0 a1 (0 : Int32) f0 v1 v2 o1 hq2) ⟨callB_of 1 htx (xw_goodC kw_2_191) rfl rfl rfl (htx _ kw_1_4) (htx _ kw_4_42) ⟨by decide, by decide, by decide +kernel⟩ ⟨Nat.le_of_ble_eq_true rfl, Nat.le_of_ble_eq_true rfl⟩, (htx _ kw_2_189), (htx _ kw_2_190)⟩ ⟨xPre_blind, va_recv hK hP (ci := 2) rfl (q0 := 0) rfl, (fun U hU hW => ⟨rfl, xPre_of hZ hS hFc hPc hDc hK U hU hW⟩)⟩ rfl rfl hl.1 rfl (lv_room (Nat.le_of_ble_eq_true rfl)) dG_inCase_24 ⟨Nat.le_of_ble_eq_true rfl, Nat.le_of_ble_eq_true rfl⟩) hS (fun q _ h => hFc q h) hFc (fun r3 u9 t H1 locs ht hvm hr9 hB hz1 hk1 hS => ?_)
    obtain ⟨hP1, hK1, hD1⟩ := hB
    rw [ht] at hP1
    obtain ⟨hP, hD⟩ := xjoin (W := [(a2, .inr (2, [.ref a3, .int w1, .int w2])), (a3, .inl (cT 2, 4096, .inr (.inl w0))), (a0, .inr (2, [.ref a1, .int v1, .int v2])), (a1, .inl (cT 2, 4096, .inr (.inl f0)))]) hP hD [0, 1] [2, 3] 2 rfl rfl (by decide) (by decide) hk1 hFc hP1 hD1
    generalize H1 = H at hP hS ⊢
    rw [hr9]
    refine W.eq (g2 := F0 m 27 ls [.int o1, .int y5]) rfl ?_
    refine lv_icmp_ge (tgt := 87) hx hb dG_inCase_27 (by decide) (fun hc => ?_) (fun hc => ?_)
    · rw [if_pos hc] at hf
      refine lv_aload_n hx hb dG_inCase_87 rfl (lv_at hl 5 rfl) ?_
      refine lv_iload hx hb dG_inCase_88 (lv_at hl 1 rfl) ?_
      refine lv_iconst (v := 4) hx hb dG_inCase_90 (by decide) ?_
      refine lv_aload_n hx hb dG_inCase_91 rfl (lv_at hl 2 rfl) ?_
      refine lv_iconst (v := 0) hx hb dG_inCase_92 (by decide) ?_
      obtain ⟨o4, hq5, hf⟩ := xbind hf
      obtain ⟨hPc, hDc, hFc⟩ := xcut (wc := [(a0, .inr (2, [.ref a1, .int v1, .int v2])), (a1, .inl (cT 2, 4096, .inr (.inl f0)))]) hP hD hS hA [2, 3] rfl rfl (by decide)
      refine va_calli (va_runV (C := "ValueBench$Row") (As := [.int 0]) (rest := [.int 4, .int y4, .ref a2]) ⟨hx, hb, hml, hown, htx⟩ (gR_length l hl9 D cT aK aV H.size n a0 a1 (0 : Int32) f0 v1 v2 o4 hq5) ⟨callB_of 1 htx (xw_goodC kw_2_191) rfl rfl rfl (htx _ kw_1_4) (htx _ kw_4_42) ⟨by decide, by decide, by decide +kernel⟩ ⟨Nat.le_of_ble_eq_true rfl, Nat.le_of_ble_eq_true rfl⟩, (htx _ kw_2_189), (htx _ kw_2_190)⟩ ⟨xPre_blind, va_recv hK hP (ci := 2) rfl (q0 := 2) rfl, (fun U hU hW => ⟨rfl, xPre_of hZ hS hFc hPc hDc hK U hU hW⟩)⟩ rfl rfl hl.1 rfl (lv_room (Nat.le_of_ble_eq_true rfl)) dG_inCase_93 ⟨Nat.le_of_ble_eq_true rfl, Nat.le_of_ble_eq_true rfl⟩) hS (fun q _ h => hFc q h) hFc (fun r6 u9 t H1 locs ht hvm hr9 hB hz1 hk1 hS => ?_)
      obtain ⟨hP1, hK1, hD1⟩ := hB
      rw [ht] at hP1
      obtain ⟨hP, hD⟩ := xjoin (W := [(a2, .inr (2, [.ref a3, .int w1, .int w2])), (a3, .inl (cT 2, 4096, .inr (.inl w0))), (a0, .inr (2, [.ref a1, .int v1, .int v2])), (a1, .inl (cT 2, 4096, .inr (.inl f0)))]) hP hD [2, 3] [0, 1] 2 rfl rfl (by decide) (by decide) hk1 hFc hP1 hD1
      generalize H1 = H at hP hS ⊢
      rw [hr9]
      refine W.eq (g2 := F0 m 96 ls [.int o4, .int 4, .int y4, .ref a2]) rfl ?_
      obtain ⟨o7, hq8, hf⟩ := xbind hf
      obtain ⟨hPc, hDc, hFc⟩ := xcut (wc := [(a2, .inr (2, [.ref a3, .int w1, .int w2])), (a3, .inl (cT 2, 4096, .inr (.inl w0)))]) hP hD hS hA [0, 1] rfl rfl (by decide)
      refine va_callv (va_runV (C := "ValueBench$Row") (As := [.int y4, .int 4, .int o4]) (rest := []) ⟨hx, hb, hml, hown, htx⟩ (gR_close l hl9 D cT aK aV H.size n a2 a3 y4 (4 : Int32) o4 w0 w1 w2 o7 hq8) ⟨callB_of 3 htx (xw_goodC kw_2_167) rfl rfl rfl (htx _ kw_1_4) (htx _ kw_4_70) ⟨by decide, by decide, by decide +kernel⟩ ⟨Nat.le_of_ble_eq_true rfl, Nat.le_of_ble_eq_true rfl⟩, (htx _ kw_2_165), (htx _ kw_2_166)⟩ ⟨xPre_blind, va_recv hK hP (ci := 2) rfl (q0 := 0) rfl, (fun U hU hW => ⟨rfl, xPre_of hZ hS hFc hPc hDc hK U hU hW⟩)⟩ rfl rfl hl.1 rfl (lv_room (Nat.le_of_ble_eq_true rfl)) dG_inCase_96 ⟨Nat.le_of_ble_eq_true rfl, Nat.le_of_ble_eq_true rfl⟩) hS (fun q _ h => hFc q h) hFc (fun u9 t H1 locs ht hvm hr9 hB hz1 hk1 hS => ?_)
      obtain ⟨hP1, hK1, hD1⟩ := hB
      rw [ht] at hP1
      obtain ⟨hP, hD⟩ := xjoin (W := [(a0, .inr (2, [.ref a1, .int v1, .int v2])), (a1, .inl (cT 2, 4096, .inr (.inl f0))), (a2, .inr (2, [.ref a3, .int w1, .int w2])), (a3, .inl (cT 2, 4096, .inr (.inl o7)))]) hP hD [0, 1] [2, 3] 2 rfl rfl (by decide) (by decide) hk1 hFc hP1 hD1
      generalize H1 = H at hP hS ⊢
      refine lv_iconst (v := 0) hx hb dG_inCase_99 (by decide) ?_
      obtain rfl := Option.some.inj hf
      obtain ⟨hP9, hD9⟩ := xsub (wc := [(a0, .inr (2, [.ref a1, .int v1, .int v2])), (a1, .inl (cT 2, 4096, .inr (.inl f0))), (a2, .inr (2, [.ref a3, .int w1, .int w2])), (a3, .inl (cT 2, 4096, .inr (.inl o7)))]) hP hD [0, 1, 2, 3] rfl rfl (by decide)
      exact W.iret (v := (0 : Int32)) hx hb hr (fun t ht hW => ⟨⟨(0 : Int32), (), rfl, rfl, by rw [ht]; exact hP9, va_K.moved hW.alike hK, hD9⟩, hS.F ht⟩) hS.2.2 dG_inCase_100
    · rw [if_neg hc] at hf
      refine lv_aload_n hx hb dG_inCase_30 rfl (lv_at hl 2 rfl) ?_
      refine lv_iconst (v := 0) hx hb dG_inCase_31 (by decide) ?_
      refine lv_iload hx hb dG_inCase_32 (lv_at hl 0 rfl) ?_
      obtain ⟨o4, hq5, hf⟩ := xbind hf
      obtain ⟨hPc, hDc, hFc⟩ := xcut (wc := [(a0, .inr (2, [.ref a1, .int v1, .int v2])), (a1, .inl (cT 2, 4096, .inr (.inl f0)))]) hP hD hS hA [2, 3] rfl rfl (by decide)
      refine va_calli (va_runV (C := "ValueBench$Row") (As := [.int 0, .int y5]) (rest := []) ⟨hx, hb, hml, hown, htx⟩ (gR_code l hl9 D cT aK aV H.size n a0 a1 (0 : Int32) y5 f0 v1 v2 o4 hq5) ⟨callB_of 2 htx (xw_goodC kw_3_56) rfl rfl rfl (htx _ kw_1_4) (htx _ kw_4_118) ⟨by decide, by decide, by decide +kernel⟩ ⟨Nat.le_of_ble_eq_true rfl, Nat.le_of_ble_eq_true rfl⟩, (htx _ kw_3_54), (htx _ kw_3_55)⟩ ⟨xPre_blind, va_recv hK hP (ci := 2) rfl (q0 := 2) rfl, (fun U hU hW => ⟨rfl, xPre_of hZ hS hFc hPc hDc hK U hU hW⟩)⟩ rfl rfl hl.1 rfl (lv_room (Nat.le_of_ble_eq_true rfl)) dG_inCase_34 ⟨Nat.le_of_ble_eq_true rfl, Nat.le_of_ble_eq_true rfl⟩) hS (fun q _ h => hFc q h) hFc (fun r6 u9 t H1 locs ht hvm hr9 hB hz1 hk1 hS => ?_)
      obtain ⟨hP1, hK1, hD1⟩ := hB
      rw [ht] at hP1
      obtain ⟨hP, hD⟩ := xjoin (W := [(a2, .inr (2, [.ref a3, .int w1, .int w2])), (a3, .inl (cT 2, 4096, .inr (.inl w0))), (a0, .inr (2, [.ref a1, .int v1, .int v2])), (a1, .inl (cT 2, 4096, .inr (.inl f0)))]) hP hD [2, 3] [0, 1] 2 rfl rfl (by decide) (by decide) hk1 hFc hP1 hD1
      generalize H1 = H at hP hS ⊢
      rw [hr9]
      refine W.eq (g2 := F0 m 37 ls [.int o4]) rfl ?_
      refine lv_istore (lv' := [(6, .int o4), (5, .int y5), (4, .int y4), (0, .ref a0), (1, .int y1), (2, .int y2), (3, .ref a2)]) hx hb dG_inCase_37 hl (by decide) rfl (fun ls hl => ?_)
      refine lv_iload hx hb dG_inCase_39 (lv_at hl 0 rfl) ?_
      refine lv_iload_n hx hb dG_inCase_41 rfl (lv_at hl 4 rfl) ?_
      refine lv_icmp_lt (tgt := 58) hx hb dG_inCase_42 (by decide) (fun hc => ?_) (fun hc => ?_)
      · rw [if_pos hc] at hf
        refine lv_iconst (v := 0) hx hb dG_inCase_58 (by decide) ?_
        refine lv_istore (lv' := [(7, .int 0), (6, .int o4), (5, .int y5), (4, .int y4), (0, .ref a0), (1, .int y1), (2, .int y2), (3, .ref a2)]) hx hb dG_inCase_59 hl (by decide) rfl (fun ls hl => ?_)
        refine lv_aload_n hx hb dG_inCase_61 rfl (lv_at hl 7 rfl) ?_
        refine lv_iload hx hb dG_inCase_62 (lv_at hl 0 rfl) ?_
        refine lv_if_eq (tgt := 75) hx hb dG_inCase_64 (by decide) (fun _ => ?_) (fun h => ((by revert h; decide : False)).elim)
        refine lv_iload hx hb dG_inCase_75 (lv_at hl 1 rfl) ?_
        refine lv_i2l hx hb dG_inCase_77 rfl ?_
        obtain ⟨o7, hq8, hf⟩ := xbind hf
        obtain ⟨hPc, hDc, hFc⟩ := xcut (wc := [(a2, .inr (2, [.ref a3, .int w1, .int w2])), (a3, .inl (cT 2, 4096, .inr (.inl w0)))]) hP hD hS hA [0, 1] rfl rfl (by decide)
        refine va_callv (va_runV (C := "ValueBench$Row") (As := [.long o4.toInt64]) (rest := []) ⟨hx, hb, hml, hown, htx⟩ (gR_put l hl9 D cT aK aV H.size n a2 a3 o4.toInt64 w0 w1 w2 o7 hq8) ⟨callB_of 1 htx (xw_goodC kw_2_126) rfl rfl rfl (htx _ kw_1_4) (htx _ kw_4_119) ⟨by decide, by decide, by decide +kernel⟩ ⟨Nat.le_of_ble_eq_true rfl, Nat.le_of_ble_eq_true rfl⟩, (htx _ kw_2_124), (htx _ kw_2_125)⟩ ⟨xPre_blind, va_recv hK hP (ci := 2) rfl (q0 := 0) rfl, (fun U hU hW => ⟨rfl, xPre_of hZ hS hFc hPc hDc hK U hU hW⟩)⟩ rfl rfl hl.1 rfl (lv_room (Nat.le_of_ble_eq_true rfl)) dG_inCase_78 ⟨Nat.le_of_ble_eq_true rfl, Nat.le_of_ble_eq_true rfl⟩) hS (fun q _ h => hFc q h) hFc (fun u9 t H1 locs ht hvm hr9 hB hz1 hk1 hS => ?_)
        obtain ⟨hP1, hK1, hD1⟩ := hB
        rw [ht] at hP1
        obtain ⟨hP, hD⟩ := xjoin (W := [(a0, .inr (2, [.ref a1, .int v1, .int v2])), (a1, .inl (cT 2, 4096, .inr (.inl f0))), (a2, .inr (2, [.ref a3, .int o7.2.1, .int o7.2.2])), (a3, .inl (cT 2, 4096, .inr (.inl o7.1)))]) hP hD [0, 1] [2, 3] 2 rfl rfl (by decide) (by decide) hk1 hFc hP1 hD1
        generalize H1 = H at hP hS ⊢
        refine lv_iinc (v := (y5 + 1)) (lv' := [(5, .int (y5 + 1)), (7, .int 0), (6, .int o4), (4, .int y4), (0, .ref a0), (1, .int y1), (2, .int y2), (3, .ref a2)]) hx hb dG_inCase_81 hl (k := 2) rfl rfl (by decide) rfl (fun ls hl => ?_)
        refine lv_goto (tgt := 20) hx hb dG_inCase_84 (by decide) ?_
        obtain ⟨hP9, hD9⟩ := xsub (wc := [(a0, .inr (2, [.ref a1, .int v1, .int v2])), (a1, .inl (cT 2, 4096, .inr (.inl f0))), (a2, .inr (2, [.ref a3, .int o7.2.1, .int o7.2.2])), (a3, .inl (cT 2, 4096, .inr (.inl o7.1)))]) hP hD [0, 1, 2, 3] rfl rfl (by decide)
        exact ih (1, (y5 + 1), y4, y1, y2, o7.1, o7.2.1, o7.2.2) _ _ ls (⟨rfl, hf, hP9, hD9, hS, lv_sub hl [0, 3, 4, 5, 6, 7] rfl⟩)
      · rw [if_neg hc] at hf
        refine lv_iload hx hb dG_inCase_45 (lv_at hl 0 rfl) ?_
        refine lv_iload_n hx hb dG_inCase_47 rfl (lv_at hl 4 rfl) ?_
        refine lv_bipush (v := 26) hx hb dG_inCase_48 (by decide) ?_
        refine lv_iadd hx hb dG_inCase_50 ?_
        refine lv_icmp_ge (tgt := 58) hx hb dG_inCase_51 (by decide) (fun hc => ?_) (fun hc => ?_)
        · rw [if_pos hc] at hf
          refine lv_iconst (v := 0) hx hb dG_inCase_58 (by decide) ?_
          refine lv_istore (lv' := [(7, .int 0), (6, .int o4), (5, .int y5), (4, .int y4), (0, .ref a0), (1, .int y1), (2, .int y2), (3, .ref a2)]) hx hb dG_inCase_59 hl (by decide) rfl (fun ls hl => ?_)
          refine lv_aload_n hx hb dG_inCase_61 rfl (lv_at hl 7 rfl) ?_
          refine lv_iload hx hb dG_inCase_62 (lv_at hl 0 rfl) ?_
          refine lv_if_eq (tgt := 75) hx hb dG_inCase_64 (by decide) (fun _ => ?_) (fun h => ((by revert h; decide : False)).elim)
          refine lv_iload hx hb dG_inCase_75 (lv_at hl 1 rfl) ?_
          refine lv_i2l hx hb dG_inCase_77 rfl ?_
          obtain ⟨o7, hq8, hf⟩ := xbind hf
          obtain ⟨hPc, hDc, hFc⟩ := xcut (wc := [(a2, .inr (2, [.ref a3, .int w1, .int w2])), (a3, .inl (cT 2, 4096, .inr (.inl w0)))]) hP hD hS hA [0, 1] rfl rfl (by decide)
          refine va_callv (va_runV (C := "ValueBench$Row") (As := [.long o4.toInt64]) (rest := []) ⟨hx, hb, hml, hown, htx⟩ (gR_put l hl9 D cT aK aV H.size n a2 a3 o4.toInt64 w0 w1 w2 o7 hq8) ⟨callB_of 1 htx (xw_goodC kw_2_126) rfl rfl rfl (htx _ kw_1_4) (htx _ kw_4_119) ⟨by decide, by decide, by decide +kernel⟩ ⟨Nat.le_of_ble_eq_true rfl, Nat.le_of_ble_eq_true rfl⟩, (htx _ kw_2_124), (htx _ kw_2_125)⟩ ⟨xPre_blind, va_recv hK hP (ci := 2) rfl (q0 := 0) rfl, (fun U hU hW => ⟨rfl, xPre_of hZ hS hFc hPc hDc hK U hU hW⟩)⟩ rfl rfl hl.1 rfl (lv_room (Nat.le_of_ble_eq_true rfl)) dG_inCase_78 ⟨Nat.le_of_ble_eq_true rfl, Nat.le_of_ble_eq_true rfl⟩) hS (fun q _ h => hFc q h) hFc (fun u9 t H1 locs ht hvm hr9 hB hz1 hk1 hS => ?_)
          obtain ⟨hP1, hK1, hD1⟩ := hB
          rw [ht] at hP1
          obtain ⟨hP, hD⟩ := xjoin (W := [(a0, .inr (2, [.ref a1, .int v1, .int v2])), (a1, .inl (cT 2, 4096, .inr (.inl f0))), (a2, .inr (2, [.ref a3, .int o7.2.1, .int o7.2.2])), (a3, .inl (cT 2, 4096, .inr (.inl o7.1)))]) hP hD [0, 1] [2, 3] 2 rfl rfl (by decide) (by decide) hk1 hFc hP1 hD1
          generalize H1 = H at hP hS ⊢
          refine lv_iinc (v := (y5 + 1)) (lv' := [(5, .int (y5 + 1)), (7, .int 0), (6, .int o4), (4, .int y4), (0, .ref a0), (1, .int y1), (2, .int y2), (3, .ref a2)]) hx hb dG_inCase_81 hl (k := 2) rfl rfl (by decide) rfl (fun ls hl => ?_)
          refine lv_goto (tgt := 20) hx hb dG_inCase_84 (by decide) ?_
          obtain ⟨hP9, hD9⟩ := xsub (wc := [(a0, .inr (2, [.ref a1, .int v1, .int v2])), (a1, .inl (cT 2, 4096, .inr (.inl f0))), (a2, .inr (2, [.ref a3, .int o7.2.1, .int o7.2.2])), (a3, .inl (cT 2, 4096, .inr (.inl o7.1)))]) hP hD [0, 1, 2, 3] rfl rfl (by decide)
          exact ih (1, (y5 + 1), y4, y1, y2, o7.1, o7.2.1, o7.2.2) _ _ ls (⟨rfl, hf, hP9, hD9, hS, lv_sub hl [0, 3, 4, 5, 6, 7] rfl⟩)
        · rw [if_neg hc] at hf
          refine lv_iconst (v := 1) hx hb dG_inCase_54 (by decide) ?_
          refine lv_goto (tgt := 59) hx hb dG_inCase_55 (by decide) ?_
          refine lv_istore (lv' := [(7, .int 1), (6, .int o4), (5, .int y5), (4, .int y4), (0, .ref a0), (1, .int y1), (2, .int y2), (3, .ref a2)]) hx hb dG_inCase_59 hl (by decide) rfl (fun ls hl => ?_)
          refine lv_aload_n hx hb dG_inCase_61 rfl (lv_at hl 7 rfl) ?_
          refine lv_iload hx hb dG_inCase_62 (lv_at hl 0 rfl) ?_
          refine lv_if_eq (tgt := 75) hx hb dG_inCase_64 (by decide) (fun h => ((by revert h; decide : False)).elim) (fun _ => ?_)
          refine lv_iload hx hb dG_inCase_67 (lv_at hl 1 rfl) ?_
          refine lv_iload_n hx hb dG_inCase_69 rfl (lv_at hl 6 rfl) ?_
          refine lv_iadd hx hb dG_inCase_70 ?_
          refine lv_i2l hx hb dG_inCase_71 rfl ?_
          refine lv_goto (tgt := 78) hx hb dG_inCase_72 (by decide) ?_
          obtain ⟨o7, hq8, hf⟩ := xbind hf
          obtain ⟨hPc, hDc, hFc⟩ := xcut (wc := [(a2, .inr (2, [.ref a3, .int w1, .int w2])), (a3, .inl (cT 2, 4096, .inr (.inl w0)))]) hP hD hS hA [0, 1] rfl rfl (by decide)
          refine va_callv (va_runV (C := "ValueBench$Row") (As := [.long (o4 + y2).toInt64]) (rest := []) ⟨hx, hb, hml, hown, htx⟩ (gR_put l hl9 D cT aK aV H.size n a2 a3 ((o4 + y2).toInt64) w0 w1 w2 o7 hq8) ⟨callB_of 1 htx (xw_goodC kw_2_126) rfl rfl rfl (htx _ kw_1_4) (htx _ kw_4_119) ⟨by decide, by decide, by decide +kernel⟩ ⟨Nat.le_of_ble_eq_true rfl, Nat.le_of_ble_eq_true rfl⟩, (htx _ kw_2_124), (htx _ kw_2_125)⟩ ⟨xPre_blind, va_recv hK hP (ci := 2) rfl (q0 := 0) rfl, (fun U hU hW => ⟨rfl, xPre_of hZ hS hFc hPc hDc hK U hU hW⟩)⟩ rfl rfl hl.1 rfl (lv_room (Nat.le_of_ble_eq_true rfl)) dG_inCase_78 ⟨Nat.le_of_ble_eq_true rfl, Nat.le_of_ble_eq_true rfl⟩) hS (fun q _ h => hFc q h) hFc (fun u9 t H1 locs ht hvm hr9 hB hz1 hk1 hS => ?_)
          obtain ⟨hP1, hK1, hD1⟩ := hB
          rw [ht] at hP1
          obtain ⟨hP, hD⟩ := xjoin (W := [(a0, .inr (2, [.ref a1, .int v1, .int v2])), (a1, .inl (cT 2, 4096, .inr (.inl f0))), (a2, .inr (2, [.ref a3, .int o7.2.1, .int o7.2.2])), (a3, .inl (cT 2, 4096, .inr (.inl o7.1)))]) hP hD [0, 1] [2, 3] 2 rfl rfl (by decide) (by decide) hk1 hFc hP1 hD1
          generalize H1 = H at hP hS ⊢
          refine lv_iinc (v := (y5 + 1)) (lv' := [(5, .int (y5 + 1)), (7, .int 1), (6, .int o4), (4, .int y4), (0, .ref a0), (1, .int y1), (2, .int y2), (3, .ref a2)]) hx hb dG_inCase_81 hl (k := 2) rfl rfl (by decide) rfl (fun ls hl => ?_)
          refine lv_goto (tgt := 20) hx hb dG_inCase_84 (by decide) ?_
          obtain ⟨hP9, hD9⟩ := xsub (wc := [(a0, .inr (2, [.ref a1, .int v1, .int v2])), (a1, .inl (cT 2, 4096, .inr (.inl f0))), (a2, .inr (2, [.ref a3, .int o7.2.1, .int o7.2.2])), (a3, .inl (cT 2, 4096, .inr (.inl o7.1)))]) hP hD [0, 1, 2, 3] rfl rfl (by decide)
          exact ih (1, (y5 + 1), y4, y1, y2, o7.1, o7.2.1, o7.2.2) _ _ ls (⟨rfl, hf, hP9, hD9, hS, lv_sub hl [0, 3, 4, 5, 6, 7] rfl⟩)
  refine lv_aload_n hx hb dG_inCase_0 rfl (lv_at hl 0 rfl) ?_
  refine lv_iconst (v := 0) hx hb dG_inCase_1 (by decide) ?_
  refine lv_iconst (v := 4) hx hb dG_inCase_2 (by decide) ?_
  obtain ⟨o1, hq2, hf⟩ := xbind hf
  obtain ⟨hPc, hDc, hFc⟩ := xcut (wc := [(a0, .inr (2, [.ref a1, .int v1, .int v2])), (a1, .inl (cT 2, 4096, .inr (.inl f0)))]) hP hD hS hA [0, 1] rfl rfl (by decide)
  refine va_calli (va_runV (C := "ValueBench$Row") (As := [.int 0, .int 4]) (rest := []) ⟨hx, hb, hml, hown, htx⟩ (gR_is l hl9 D cT aK aV s.heap.size n a0 a1 (0 : Int32) (4 : Int32) f0 v1 v2 o1 hq2) ⟨callB_of 2 htx (xw_goodC kw_3_75) rfl rfl rfl (htx _ kw_1_4) (htx _ kw_4_29) ⟨by decide, by decide, by decide +kernel⟩ ⟨Nat.le_of_ble_eq_true rfl, Nat.le_of_ble_eq_true rfl⟩, (htx _ kw_3_73), (htx _ kw_3_74)⟩ ⟨xPre_blind, va_recv hK hP (ci := 2) rfl (q0 := 0) rfl, (fun U hU hW => ⟨rfl, xPre_of hZ hS hFc hPc hDc hK U hU hW⟩)⟩ rfl rfl hl.1 rfl (lv_room (Nat.le_of_ble_eq_true rfl)) dG_inCase_3 ⟨Nat.le_of_ble_eq_true rfl, Nat.le_of_ble_eq_true rfl⟩) hS (fun q _ h => hFc q h) hFc (fun r3 u9 t H1 locs ht hvm hr9 hB hz1 hk1 hS => ?_)
  obtain ⟨hP1, hK1, hD1⟩ := hB
  rw [ht] at hP1
  obtain ⟨hP, hD⟩ := xjoin (W := [(a2, .inr (2, [.ref a3, .int v4, .int v5])), (a3, .inl (cT 2, 4096, .inr (.inl f3))), (a0, .inr (2, [.ref a1, .int v1, .int v2])), (a1, .inl (cT 2, 4096, .inr (.inl f0)))]) hP hD [0, 1] [2, 3] 2 rfl rfl (by decide) (by decide) hk1 hFc hP1 hD1
  generalize H1 = H at hP hS ⊢
  rw [hr9]
  refine W.eq (g2 := F0 m 6 ls [.int o1]) rfl ?_
  refine lv_if_ne (tgt := 11) hx hb dG_inCase_6 (by decide) (fun hc => ?_) (fun hc => ?_)
  · rw [if_neg hc] at hf
    refine lv_aload_n hx hb dG_inCase_11 rfl (lv_at hl 3 rfl) ?_
    obtain ⟨o4, hq5, hf⟩ := xbind hf
    obtain ⟨hPc, hDc, hFc⟩ := xcut (wc := [(a2, .inr (2, [.ref a3, .int v4, .int v5])), (a3, .inl (cT 2, 4096, .inr (.inl f3)))]) hP hD hS hA [0, 1] rfl rfl (by decide)
    refine va_calli (va_runV (C := "ValueBench$Row") (As := []) (rest := []) ⟨hx, hb, hml, hown, htx⟩ (gR_open l hl9 D cT aK aV H.size n a2 a3 f3 v4 v5 o4 hq5) ⟨callB_of 0 htx (xw_goodC kw_2_136) rfl rfl rfl (htx _ kw_1_4) (htx _ kw_4_46) ⟨by decide, by decide, by decide +kernel⟩ ⟨Nat.le_of_ble_eq_true rfl, Nat.le_of_ble_eq_true rfl⟩, (htx _ kw_2_134), (htx _ kw_2_135)⟩ ⟨xPre_blind, va_recv hK hP (ci := 2) rfl (q0 := 0) rfl, (fun U hU hW => ⟨rfl, xPre_of hZ hS hFc hPc hDc hK U hU hW⟩)⟩ rfl rfl hl.1 rfl (lv_room (Nat.le_of_ble_eq_true rfl)) dG_inCase_12 ⟨Nat.le_of_ble_eq_true rfl, Nat.le_of_ble_eq_true rfl⟩) hS (fun q _ h => hFc q h) hFc (fun r6 u9 t H1 locs ht hvm hr9 hB hz1 hk1 hS => ?_)
    obtain ⟨hP1, hK1, hD1⟩ := hB
    rw [ht] at hP1
    obtain ⟨hP, hD⟩ := xjoin (W := [(a0, .inr (2, [.ref a1, .int v1, .int v2])), (a1, .inl (cT 2, 4096, .inr (.inl f0))), (a2, .inr (2, [.ref a3, .int o4.2.2.1, .int o4.2.2.2])), (a3, .inl (cT 2, 4096, .inr (.inl o4.2.1)))]) hP hD [0, 1] [2, 3] 2 rfl rfl (by decide) (by decide) hk1 hFc hP1 hD1
    generalize H1 = H at hP hS ⊢
    rw [hr9]
    refine W.eq (g2 := F0 m 15 ls [.int o4.1]) rfl ?_
    refine lv_istore (lv' := [(4, .int o4.1), (0, .ref a0), (1, .int x1), (2, .int x2), (3, .ref a2)]) hx hb dG_inCase_15 hl (by decide) rfl (fun ls hl => ?_)
    refine lv_iconst (v := 0) hx hb dG_inCase_17 (by decide) ?_
    refine lv_istore (lv' := [(5, .int 0), (4, .int o4.1), (0, .ref a0), (1, .int x1), (2, .int x2), (3, .ref a2)]) hx hb dG_inCase_18 hl (by decide) rfl (fun ls hl => ?_)
    obtain ⟨hP9, hD9⟩ := xsub (wc := [(a0, .inr (2, [.ref a1, .int v1, .int v2])), (a1, .inl (cT 2, 4096, .inr (.inl f0))), (a2, .inr (2, [.ref a3, .int o4.2.2.1, .int o4.2.2.2])), (a3, .inl (cT 2, 4096, .inr (.inl o4.2.1)))]) hP hD [0, 1, 2, 3] rfl rfl (by decide)
    exact key n (1, 0, o4.1, x1, x2, o4.2.1, o4.2.2.1, o4.2.2.2) _ _ ls (⟨rfl, hf, hP9, hD9, hS, lv_sub hl [0, 1, 2, 3, 4, 5] rfl⟩)
  · rw [if_pos hc] at hf
    refine lv_iconst (v := 1) hx hb dG_inCase_9 (by decide) ?_
    obtain rfl := Option.some.inj hf
    obtain ⟨hP9, hD9⟩ := xsub (wc := [(a0, .inr (2, [.ref a1, .int v1, .int v2])), (a1, .inl (cT 2, 4096, .inr (.inl f0))), (a2, .inr (2, [.ref a3, .int v4, .int v5])), (a3, .inl (cT 2, 4096, .inr (.inl f3)))]) hP hD [2, 3, 0, 1] rfl rfl (by decide)
    exact W.iret (v := (1 : Int32)) hx hb hr (fun t ht hW => ⟨⟨(1 : Int32), (), rfl, rfl, by rw [ht]; exact hP9, va_K.moved hW.alike hK, hD9⟩, hS.F ht⟩) hS.2.2 dG_inCase_10
set_option maxHeartbeats 400000000 in
set_option maxRecDepth 100000 in
theorem gG_apply (l : Launch) (hl9 : l.stackTraces = false) (D : va_G) (cT : Nat → ClassId) (aK aV : Nat → Nat) (sz d n : Nat) (a0 : Nat) (a1 : Nat) (a2 : Nat) (a3 : Nat) (a4 : Nat) (a5 : Nat) (a6 : Nat) (a9 : Nat) (a10 : Nat) (x0 : Int32) (f0 : Nat → Int64) (v1 : Int32) (v2 : Int32) (f3 : Nat → Int32) (v4 : Int32) (v5 : Int32) (f6 : Nat → Int32) (f7 : Nat → Int32) (p8 : Nat) (f9 : Nat → Int32) (p10 : Nat) (f11 : Nat → Int32) (v12 : Int32) (f13 : Nat → Int64) (v14 : Int32) (v15 : Int32) (out : Int32 × (Nat → Int32) × Int32 × Int32 × (Nat → Int32) × (Nat → Int32) × Nat × (Nat → Int32) × Nat × Int32 × (Nat → Int64) × Int32 × Int32) (hf : fG_apply d n x0 f0 v1 v2 f3 v4 v5 f6 f7 p8 f9 p10 f11 v12 f13 v14 v15 = some out) : xMet l yG_apply wyG_apply (16 * d + 5) 1 4 (400 * d + 151) D cT aK aV sz [.int x0, .ref a0, .ref a2, .ref a4, .ref a9] [(a0, .inr (2, [.ref a1, .int v1, .int v2])), (a1, .inl (cT 2, 4096, .inr (.inl f0))), (a2, .inr (1, [.ref a3, .int v4, .int v5])), (a3, .inl (cT 0, 4096, .inl f3)), (a4, .inr (3, [.ref a5, .ref a6, .ref p8, .ref p10, .int v12])), (a5, .inl (cT 1, 2048, .inl f6)), (a6, .inl (cT 1, 2048, .inl f7)), (p8, .inl (cT 1, 2048, .inl f9)), (p10, .inl (cT 1, 2048, .inl f11)), (a9, .inr (2, [.ref a10, .int v14, .int v15])), (a10, .inl (cT 2, 4096, .inr (.inl f13)))] (fun A => va_Qi (fun (r : Int32) (_ : Unit) => r = out.1) (fun _ t => xB D xcl cT A [(a0, .inr (2, [.ref a1, .int v1, .int v2])), (a1, .inl (cT 2, 4096, .inr (.inl f0))), (a2, .inr (1, [.ref a3, .int out.2.2.1, .int out.2.2.2.1])), (a3, .inl (cT 0, 4096, .inl out.2.1)), (a4, .inr (3, [.ref a5, .ref a6, .ref out.2.2.2.2.2.2.1, .ref out.2.2.2.2.2.2.2.2.1, .int out.2.2.2.2.2.2.2.2.2.1])), (a5, .inl (cT 1, 2048, .inl out.2.2.2.2.1)), (a6, .inl (cT 1, 2048, .inl f7)), (out.2.2.2.2.2.2.1, .inl (cT 1, 2048, .inl out.2.2.2.2.2.1)), (out.2.2.2.2.2.2.2.2.1, .inl (cT 1, 2048, .inl out.2.2.2.2.2.2.2.1)), (a9, .inr (2, [.ref a10, .int out.2.2.2.2.2.2.2.2.2.2.2.1, .int out.2.2.2.2.2.2.2.2.2.2.2.2])), (a10, .inl (cT 2, 4096, .inr (.inl out.2.2.2.2.2.2.2.2.2.2.1)))] t) A) := by
  refine Met.ofW (cc := prog_9_method_2_code) (maxL := 5) (ret := (some .int)) (by decide) rfl ?_
  intro p e s m args below meth c s₁ B hml hv
  obtain ⟨rfl, hsz, hZ, hP, hK, hD0⟩ := hv
  have hx := B.exec
  have hb := B.bytes
  have hr := B.returns
  have hts := atoms_spec (ws := wyG_apply) B.pre
  have htx := fun w h => hts w (List.mem_cons_of_mem _ h)
  have hown : s.vm.findClass "ValueBench$Singles" = some m.cls := findClass_of_methodNamed B.named
  have hlocks := B.notSynchronized
  subst hsz
  have hD := hD0.self (sz := s.heap.size)
  generalize hAe : va_A [(a0, .inr (2, [.ref a1, .int v1, .int v2])), (a1, .inl (cT 2, 4096, .inr (.inl f0))), (a2, .inr (1, [.ref a3, .int v4, .int v5])), (a3, .inl (cT 0, 4096, .inl f3)), (a4, .inr (3, [.ref a5, .ref a6, .ref p8, .ref p10, .int v12])), (a5, .inl (cT 1, 2048, .inl f6)), (a6, .inl (cT 1, 2048, .inl f7)), (p8, .inl (cT 1, 2048, .inl f9)), (p10, .inl (cT 1, 2048, .inl f11)), (a9, .inr (2, [.ref a10, .int v14, .int v15])), (a10, .inl (cT 2, 4096, .inr (.inl f13)))] s.heap.size = A at hD hZ ⊢
  have hA : ∀ q : Nat, s.heap.size ≤ q → A q := fun q h => by rw [← hAe]; exact Or.inr h
  have hS : va_S A s.heap s.heap [] := va_S.rf
  have hP : va_P D xcl [(a0, .inr (2, [.ref a1, .int v1, .int v2])), (a1, .inl (cT 2, 4096, .inr (.inl f0))), (a2, .inr (1, [.ref a3, .int v4, .int v5])), (a3, .inl (cT 0, 4096, .inl f3)), (a4, .inr (3, [.ref a5, .ref a6, .ref p8, .ref p10, .int v12])), (a5, .inl (cT 1, 2048, .inl f6)), (a6, .inl (cT 1, 2048, .inl f7)), (p8, .inl (cT 1, 2048, .inl f9)), (p10, .inl (cT 1, 2048, .inl f11)), (a9, .inr (2, [.ref a10, .int v14, .int v15])), (a10, .inl (cT 2, 4096, .inr (.inl f13)))] s.heap := hP
  have hl := lv_entry ([.int x0, .ref a0, .ref a2, .ref a4, .ref a9]) (n := 5) (Nat.le_of_ble_eq_true rfl)
  rw [lg_entry_eq]
  generalize (lg_sl ([.int x0, .ref a0, .ref a2, .ref a4, .ref a9]) ++ List.replicate (5 - (lg_sl ([.int x0, .ref a0, .ref a2, .ref a4, .ref a9])).length) Slot.unset).toArray = ls at hl ⊢
  have hl : lv_has ls 5 [(0, .int x0), (1, .ref a0), (2, .ref a2), (3, .ref a4), (4, .ref a9)] := hl
  unfold fG_apply at hf
  refine lv_iload_n hx hb dG_apply_0 rfl (lv_at hl 0 rfl) ?_
  by_cases hc1 : x0 = 0
  · rw [if_pos hc1] at hf
    refine lv_tableIn (off := 67) (tgt := 68) hx hb dG_apply_1 (by rw [hc1]; decide) (by rw [hc1]; decide) (by rw [hc1]; decide) (by decide) ?_
    refine lv_aload hx hb dG_apply_68 (lv_at hl 4 rfl) ?_
    refine lv_aload_n hx hb dG_apply_70 rfl (lv_at hl 1 rfl) ?_
    refine lv_iconst (v := 0) hx hb dG_apply_71 (by decide) ?_
    refine lv_iconst (v := 0) hx hb dG_apply_72 (by decide) ?_
    obtain ⟨o2, hq3, hf⟩ := xbind hf
    obtain ⟨hPc, hDc, hFc⟩ := xcut (wc := [(a0, .inr (2, [.ref a1, .int v1, .int v2])), (a1, .inl (cT 2, 4096, .inr (.inl f0)))]) hP hD hS hA [0, 1] rfl rfl (by decide)
    refine va_calli (va_runV (C := "ValueBench$Row") (As := [.int 0, .int 0]) (rest := [.ref a9]) ⟨hx, hb, hml, hown, htx⟩ (gR_is l hl9 D cT aK aV s.heap.size n a0 a1 (0 : Int32) (0 : Int32) f0 v1 v2 o2 hq3) ⟨callB_of 2 htx (xw_goodC kw_3_75) rfl rfl rfl (htx _ kw_1_4) (htx _ kw_4_29) ⟨by decide, by decide, by decide +kernel⟩ ⟨Nat.le_of_ble_eq_true rfl, Nat.le_of_ble_eq_true rfl⟩, (htx _ kw_3_73), (htx _ kw_3_74)⟩ ⟨xPre_blind, va_recv hK hP (ci := 2) rfl (q0 := 0) rfl, (fun U hU hW => ⟨rfl, xPre_of hZ hS hFc hPc hDc hK U hU hW⟩)⟩ rfl rfl hl.1 rfl (lv_room (Nat.le_of_ble_eq_true rfl)) dG_apply_73 ⟨Nat.le_of_ble_eq_true rfl, Nat.le_of_ble_eq_true rfl⟩) hS (fun q _ h => hFc q h) hFc (fun r4 u9 t H1 locs ht hvm hr9 hB hz1 hk1 hS => ?_)
    obtain ⟨hP1, hK1, hD1⟩ := hB
    rw [ht] at hP1
    obtain ⟨hP, hD⟩ := xjoin (W := [(a2, .inr (1, [.ref a3, .int v4, .int v5])), (a3, .inl (cT 0, 4096, .inl f3)), (a4, .inr (3, [.ref a5, .ref a6, .ref p8, .ref p10, .int v12])), (a5, .inl (cT 1, 2048, .inl f6)), (a6, .inl (cT 1, 2048, .inl f7)), (p8, .inl (cT 1, 2048, .inl f9)), (p10, .inl (cT 1, 2048, .inl f11)), (a9, .inr (2, [.ref a10, .int v14, .int v15])), (a10, .inl (cT 2, 4096, .inr (.inl f13))), (a0, .inr (2, [.ref a1, .int v1, .int v2])), (a1, .inl (cT 2, 4096, .inr (.inl f0)))]) hP hD [0, 1] [2, 3, 4, 5, 6, 7, 8, 9, 10] 9 rfl rfl (by decide) (by decide) hk1 hFc hP1 hD1
    generalize H1 = H at hP hS ⊢
    rw [hr9]
    refine W.eq (g2 := F0 m 76 ls [.int o2, .ref a9]) rfl ?_
    refine lv_if_ne (tgt := 88) hx hb dG_apply_76 (by decide) (fun hc => ?_) (fun hc => ?_)
    · rw [if_neg hc] at hf
      refine lv_iconst (v := 1) hx hb dG_apply_88 (by decide) ?_
      refine lv_goto (tgt := 93) hx hb dG_apply_89 (by decide) ?_
      obtain ⟨o5, hq6, hf⟩ := xbind hf
      obtain ⟨hPc, hDc, hFc⟩ := xcut (wc := [(a9, .inr (2, [.ref a10, .int v14, .int v15])), (a10, .inl (cT 2, 4096, .inr (.inl f13)))]) hP hD hS hA [7, 8] rfl rfl (by decide)
      refine va_callv (va_runV (C := "ValueBench$Row") (As := [.int 1]) (rest := []) ⟨hx, hb, hml, hown, htx⟩ (gR_putTruth l hl9 D cT aK aV H.size n a9 a10 (1 : Int32) f13 v14 v15 o5 hq6) ⟨callB_of 1 htx (xw_goodC kw_4_33) rfl rfl rfl (htx _ kw_1_4) (htx _ kw_4_30) ⟨by decide, by decide, by decide +kernel⟩ ⟨Nat.le_of_ble_eq_true rfl, Nat.le_of_ble_eq_true rfl⟩, (htx _ kw_4_31), (htx _ kw_4_32)⟩ ⟨xPre_blind, va_recv hK hP (ci := 2) rfl (q0 := 7) rfl, (fun U hU hW => ⟨rfl, xPre_of hZ hS hFc hPc hDc hK U hU hW⟩)⟩ rfl rfl hl.1 rfl (lv_room (Nat.le_of_ble_eq_true rfl)) dG_apply_93 ⟨Nat.le_of_ble_eq_true rfl, Nat.le_of_ble_eq_true rfl⟩) hS (fun q _ h => hFc q h) hFc (fun u9 t H1 locs ht hvm hr9 hB hz1 hk1 hS => ?_)
      obtain ⟨hP1, hK1, hD1⟩ := hB
      rw [ht] at hP1
      obtain ⟨hP, hD⟩ := xjoin (W := [(a2, .inr (1, [.ref a3, .int v4, .int v5])), (a3, .inl (cT 0, 4096, .inl f3)), (a4, .inr (3, [.ref a5, .ref a6, .ref p8, .ref p10, .int v12])), (a5, .inl (cT 1, 2048, .inl f6)), (a6, .inl (cT 1, 2048, .inl f7)), (p8, .inl (cT 1, 2048, .inl f9)), (p10, .inl (cT 1, 2048, .inl f11)), (a0, .inr (2, [.ref a1, .int v1, .int v2])), (a1, .inl (cT 2, 4096, .inr (.inl f0))), (a9, .inr (2, [.ref a10, .int o5.2.1, .int o5.2.2])), (a10, .inl (cT 2, 4096, .inr (.inl o5.1)))]) hP hD [7, 8] [0, 1, 2, 3, 4, 5, 6, 9, 10] 9 rfl rfl (by decide) (by decide) hk1 hFc hP1 hD1
      generalize H1 = H at hP hS ⊢
      refine lv_iconst (v := 0) hx hb dG_apply_96 (by decide) ?_
      obtain rfl := Option.some.inj hf
      obtain ⟨hP9, hD9⟩ := xsub (wc := [(a0, .inr (2, [.ref a1, .int v1, .int v2])), (a1, .inl (cT 2, 4096, .inr (.inl f0))), (a2, .inr (1, [.ref a3, .int v4, .int v5])), (a3, .inl (cT 0, 4096, .inl f3)), (a4, .inr (3, [.ref a5, .ref a6, .ref p8, .ref p10, .int v12])), (a5, .inl (cT 1, 2048, .inl f6)), (a6, .inl (cT 1, 2048, .inl f7)), (p8, .inl (cT 1, 2048, .inl f9)), (p10, .inl (cT 1, 2048, .inl f11)), (a9, .inr (2, [.ref a10, .int o5.2.1, .int o5.2.2])), (a10, .inl (cT 2, 4096, .inr (.inl o5.1)))]) hP hD [7, 8, 0, 1, 2, 3, 4, 5, 6, 9, 10] rfl rfl (by decide)
      refine W.widen (k := 1) (n := 4) (Nat.le_of_ble_eq_true rfl) (Nat.le_of_ble_eq_true rfl) ?_
      exact W.iret (v := (0 : Int32)) hx hb hr (fun t ht hW => ⟨⟨(0 : Int32), (), rfl, rfl, by rw [ht]; exact hP9, va_K.moved hW.alike hK, hD9⟩, hS.F ht⟩) hS.2.2 dG_apply_97
    · rw [if_pos hc] at hf
      refine lv_aload_n hx hb dG_apply_79 rfl (lv_at hl 1 rfl) ?_
      refine lv_iconst (v := 0) hx hb dG_apply_80 (by decide) ?_
      refine lv_iconst (v := 1) hx hb dG_apply_81 (by decide) ?_
      obtain ⟨o5, hq6, hf⟩ := xbind hf
      obtain ⟨hPc, hDc, hFc⟩ := xcut (wc := [(a0, .inr (2, [.ref a1, .int v1, .int v2])), (a1, .inl (cT 2, 4096, .inr (.inl f0)))]) hP hD hS hA [9, 10] rfl rfl (by decide)
      refine va_calli (va_runV (C := "ValueBench$Row") (As := [.int 0, .int 1]) (rest := [.ref a9]) ⟨hx, hb, hml, hown, htx⟩ (gR_is l hl9 D cT aK aV H.size n a0 a1 (0 : Int32) (1 : Int32) f0 v1 v2 o5 hq6) ⟨callB_of 2 htx (xw_goodC kw_3_75) rfl rfl rfl (htx _ kw_1_4) (htx _ kw_4_29) ⟨by decide, by decide, by decide +kernel⟩ ⟨Nat.le_of_ble_eq_true rfl, Nat.le_of_ble_eq_true rfl⟩, (htx _ kw_3_73), (htx _ kw_3_74)⟩ ⟨xPre_blind, va_recv hK hP (ci := 2) rfl (q0 := 9) rfl, (fun U hU hW => ⟨rfl, xPre_of hZ hS hFc hPc hDc hK U hU hW⟩)⟩ rfl rfl hl.1 rfl (lv_room (Nat.le_of_ble_eq_true rfl)) dG_apply_82 ⟨Nat.le_of_ble_eq_true rfl, Nat.le_of_ble_eq_true rfl⟩) hS (fun q _ h => hFc q h) hFc (fun r7 u9 t H1 locs ht hvm hr9 hB hz1 hk1 hS => ?_)
      obtain ⟨hP1, hK1, hD1⟩ := hB
      rw [ht] at hP1
      obtain ⟨hP, hD⟩ := xjoin (W := [(a2, .inr (1, [.ref a3, .int v4, .int v5])), (a3, .inl (cT 0, 4096, .inl f3)), (a4, .inr (3, [.ref a5, .ref a6, .ref p8, .ref p10, .int v12])), (a5, .inl (cT 1, 2048, .inl f6)), (a6, .inl (cT 1, 2048, .inl f7)), (p8, .inl (cT 1, 2048, .inl f9)), (p10, .inl (cT 1, 2048, .inl f11)), (a9, .inr (2, [.ref a10, .int v14, .int v15])), (a10, .inl (cT 2, 4096, .inr (.inl f13))), (a0, .inr (2, [.ref a1, .int v1, .int v2])), (a1, .inl (cT 2, 4096, .inr (.inl f0)))]) hP hD [9, 10] [0, 1, 2, 3, 4, 5, 6, 7, 8] 9 rfl rfl (by decide) (by decide) hk1 hFc hP1 hD1
      generalize H1 = H at hP hS ⊢
      rw [hr9]
      refine W.eq (g2 := F0 m 85 ls [.int o5, .ref a9]) rfl ?_
      refine lv_if_eq (tgt := 92) hx hb dG_apply_85 (by decide) (fun hc => ?_) (fun hc => ?_)
      · rw [if_pos hc] at hf
        refine lv_iconst (v := 0) hx hb dG_apply_92 (by decide) ?_
        obtain ⟨o8, hq9, hf⟩ := xbind hf
        obtain ⟨hPc, hDc, hFc⟩ := xcut (wc := [(a9, .inr (2, [.ref a10, .int v14, .int v15])), (a10, .inl (cT 2, 4096, .inr (.inl f13)))]) hP hD hS hA [7, 8] rfl rfl (by decide)
        refine va_callv (va_runV (C := "ValueBench$Row") (As := [.int 0]) (rest := []) ⟨hx, hb, hml, hown, htx⟩ (gR_putTruth l hl9 D cT aK aV H.size n a9 a10 (0 : Int32) f13 v14 v15 o8 hq9) ⟨callB_of 1 htx (xw_goodC kw_4_33) rfl rfl rfl (htx _ kw_1_4) (htx _ kw_4_30) ⟨by decide, by decide, by decide +kernel⟩ ⟨Nat.le_of_ble_eq_true rfl, Nat.le_of_ble_eq_true rfl⟩, (htx _ kw_4_31), (htx _ kw_4_32)⟩ ⟨xPre_blind, va_recv hK hP (ci := 2) rfl (q0 := 7) rfl, (fun U hU hW => ⟨rfl, xPre_of hZ hS hFc hPc hDc hK U hU hW⟩)⟩ rfl rfl hl.1 rfl (lv_room (Nat.le_of_ble_eq_true rfl)) dG_apply_93 ⟨Nat.le_of_ble_eq_true rfl, Nat.le_of_ble_eq_true rfl⟩) hS (fun q _ h => hFc q h) hFc (fun u9 t H1 locs ht hvm hr9 hB hz1 hk1 hS => ?_)
        obtain ⟨hP1, hK1, hD1⟩ := hB
        rw [ht] at hP1
        obtain ⟨hP, hD⟩ := xjoin (W := [(a2, .inr (1, [.ref a3, .int v4, .int v5])), (a3, .inl (cT 0, 4096, .inl f3)), (a4, .inr (3, [.ref a5, .ref a6, .ref p8, .ref p10, .int v12])), (a5, .inl (cT 1, 2048, .inl f6)), (a6, .inl (cT 1, 2048, .inl f7)), (p8, .inl (cT 1, 2048, .inl f9)), (p10, .inl (cT 1, 2048, .inl f11)), (a0, .inr (2, [.ref a1, .int v1, .int v2])), (a1, .inl (cT 2, 4096, .inr (.inl f0))), (a9, .inr (2, [.ref a10, .int o8.2.1, .int o8.2.2])), (a10, .inl (cT 2, 4096, .inr (.inl o8.1)))]) hP hD [7, 8] [0, 1, 2, 3, 4, 5, 6, 9, 10] 9 rfl rfl (by decide) (by decide) hk1 hFc hP1 hD1
        generalize H1 = H at hP hS ⊢
        refine lv_iconst (v := 0) hx hb dG_apply_96 (by decide) ?_
        obtain rfl := Option.some.inj hf
        obtain ⟨hP9, hD9⟩ := xsub (wc := [(a0, .inr (2, [.ref a1, .int v1, .int v2])), (a1, .inl (cT 2, 4096, .inr (.inl f0))), (a2, .inr (1, [.ref a3, .int v4, .int v5])), (a3, .inl (cT 0, 4096, .inl f3)), (a4, .inr (3, [.ref a5, .ref a6, .ref p8, .ref p10, .int v12])), (a5, .inl (cT 1, 2048, .inl f6)), (a6, .inl (cT 1, 2048, .inl f7)), (p8, .inl (cT 1, 2048, .inl f9)), (p10, .inl (cT 1, 2048, .inl f11)), (a9, .inr (2, [.ref a10, .int o8.2.1, .int o8.2.2])), (a10, .inl (cT 2, 4096, .inr (.inl o8.1)))]) hP hD [7, 8, 0, 1, 2, 3, 4, 5, 6, 9, 10] rfl rfl (by decide)
        refine W.widen (k := 1) (n := 4) (Nat.le_of_ble_eq_true rfl) (Nat.le_of_ble_eq_true rfl) ?_
        exact W.iret (v := (0 : Int32)) hx hb hr (fun t ht hW => ⟨⟨(0 : Int32), (), rfl, rfl, by rw [ht]; exact hP9, va_K.moved hW.alike hK, hD9⟩, hS.F ht⟩) hS.2.2 dG_apply_97
      · rw [if_neg hc] at hf
        refine lv_iconst (v := 1) hx hb dG_apply_88 (by decide) ?_
        refine lv_goto (tgt := 93) hx hb dG_apply_89 (by decide) ?_
        obtain ⟨o8, hq9, hf⟩ := xbind hf
        obtain ⟨hPc, hDc, hFc⟩ := xcut (wc := [(a9, .inr (2, [.ref a10, .int v14, .int v15])), (a10, .inl (cT 2, 4096, .inr (.inl f13)))]) hP hD hS hA [7, 8] rfl rfl (by decide)
        refine va_callv (va_runV (C := "ValueBench$Row") (As := [.int 1]) (rest := []) ⟨hx, hb, hml, hown, htx⟩ (gR_putTruth l hl9 D cT aK aV H.size n a9 a10 (1 : Int32) f13 v14 v15 o8 hq9) ⟨callB_of 1 htx (xw_goodC kw_4_33) rfl rfl rfl (htx _ kw_1_4) (htx _ kw_4_30) ⟨by decide, by decide, by decide +kernel⟩ ⟨Nat.le_of_ble_eq_true rfl, Nat.le_of_ble_eq_true rfl⟩, (htx _ kw_4_31), (htx _ kw_4_32)⟩ ⟨xPre_blind, va_recv hK hP (ci := 2) rfl (q0 := 7) rfl, (fun U hU hW => ⟨rfl, xPre_of hZ hS hFc hPc hDc hK U hU hW⟩)⟩ rfl rfl hl.1 rfl (lv_room (Nat.le_of_ble_eq_true rfl)) dG_apply_93 ⟨Nat.le_of_ble_eq_true rfl, Nat.le_of_ble_eq_true rfl⟩) hS (fun q _ h => hFc q h) hFc (fun u9 t H1 locs ht hvm hr9 hB hz1 hk1 hS => ?_)
        obtain ⟨hP1, hK1, hD1⟩ := hB
        rw [ht] at hP1
        obtain ⟨hP, hD⟩ := xjoin (W := [(a2, .inr (1, [.ref a3, .int v4, .int v5])), (a3, .inl (cT 0, 4096, .inl f3)), (a4, .inr (3, [.ref a5, .ref a6, .ref p8, .ref p10, .int v12])), (a5, .inl (cT 1, 2048, .inl f6)), (a6, .inl (cT 1, 2048, .inl f7)), (p8, .inl (cT 1, 2048, .inl f9)), (p10, .inl (cT 1, 2048, .inl f11)), (a0, .inr (2, [.ref a1, .int v1, .int v2])), (a1, .inl (cT 2, 4096, .inr (.inl f0))), (a9, .inr (2, [.ref a10, .int o8.2.1, .int o8.2.2])), (a10, .inl (cT 2, 4096, .inr (.inl o8.1)))]) hP hD [7, 8] [0, 1, 2, 3, 4, 5, 6, 9, 10] 9 rfl rfl (by decide) (by decide) hk1 hFc hP1 hD1
        generalize H1 = H at hP hS ⊢
        refine lv_iconst (v := 0) hx hb dG_apply_96 (by decide) ?_
        obtain rfl := Option.some.inj hf
        obtain ⟨hP9, hD9⟩ := xsub (wc := [(a0, .inr (2, [.ref a1, .int v1, .int v2])), (a1, .inl (cT 2, 4096, .inr (.inl f0))), (a2, .inr (1, [.ref a3, .int v4, .int v5])), (a3, .inl (cT 0, 4096, .inl f3)), (a4, .inr (3, [.ref a5, .ref a6, .ref p8, .ref p10, .int v12])), (a5, .inl (cT 1, 2048, .inl f6)), (a6, .inl (cT 1, 2048, .inl f7)), (p8, .inl (cT 1, 2048, .inl f9)), (p10, .inl (cT 1, 2048, .inl f11)), (a9, .inr (2, [.ref a10, .int o8.2.1, .int o8.2.2])), (a10, .inl (cT 2, 4096, .inr (.inl o8.1)))]) hP hD [7, 8, 0, 1, 2, 3, 4, 5, 6, 9, 10] rfl rfl (by decide)
        refine W.widen (k := 1) (n := 4) (Nat.le_of_ble_eq_true rfl) (Nat.le_of_ble_eq_true rfl) ?_
        exact W.iret (v := (0 : Int32)) hx hb hr (fun t ht hW => ⟨⟨(0 : Int32), (), rfl, rfl, by rw [ht]; exact hP9, va_K.moved hW.alike hK, hD9⟩, hS.F ht⟩) hS.2.2 dG_apply_97
  rw [if_neg hc1] at hf
  by_cases hc5 : x0 = 1
  · rw [if_pos hc5] at hf
    refine lv_tableIn (off := 97) (tgt := 98) hx hb dG_apply_1 (by rw [hc5]; decide) (by rw [hc5]; decide) (by rw [hc5]; decide) (by decide) ?_
    refine lv_aload_n hx hb dG_apply_98 rfl (lv_at hl 1 rfl) ?_
    refine lv_aload hx hb dG_apply_99 (lv_at hl 4 rfl) ?_
    obtain ⟨o6, hq7, hf⟩ := xbind hf
    obtain ⟨hPc, hDc, hFc⟩ := xcut (wc := [(a0, .inr (2, [.ref a1, .int v1, .int v2])), (a1, .inl (cT 2, 4096, .inr (.inl f0))), (a9, .inr (2, [.ref a10, .int v14, .int v15])), (a10, .inl (cT 2, 4096, .inr (.inl f13)))]) hP hD hS hA [0, 1, 9, 10] rfl rfl (by decide)
    refine va_calli (va_runS (As := [.ref a0, .ref a9]) (rest := []) ⟨hx, hb, hml, hown, htx⟩ (gG_length l hl9 D cT aK aV s.heap.size n a0 a1 a9 a10 f0 v1 v2 f13 v14 v15 o6 hq7) ⟨callB_of 2 htx (xw_goodC kw_4_37) rfl rfl rfl (htx _ kw_1_26) (htx _ kw_4_35) ⟨by decide, by decide, by decide +kernel⟩ ⟨Nat.le_of_ble_eq_true rfl, Nat.le_of_ble_eq_true rfl⟩, htx _ kw_4_36⟩ ⟨xPre_blind, (fun U hU hW => ⟨rfl, xPre_of hZ hS hFc hPc hDc hK U hU hW⟩)⟩ rfl rfl hl.1 rfl (lv_room (Nat.le_of_ble_eq_true rfl)) dG_apply_101 ⟨Nat.le_of_ble_eq_true rfl, Nat.le_of_ble_eq_true rfl⟩) hS (fun q _ h => hFc q h) hFc (fun r8 u9 t H1 locs ht hvm hr9 hB hz1 hk1 hS => ?_)
    obtain ⟨hP1, hK1, hD1⟩ := hB
    rw [ht] at hP1
    obtain ⟨hP, hD⟩ := xjoin (W := [(a2, .inr (1, [.ref a3, .int v4, .int v5])), (a3, .inl (cT 0, 4096, .inl f3)), (a4, .inr (3, [.ref a5, .ref a6, .ref p8, .ref p10, .int v12])), (a5, .inl (cT 1, 2048, .inl f6)), (a6, .inl (cT 1, 2048, .inl f7)), (p8, .inl (cT 1, 2048, .inl f9)), (p10, .inl (cT 1, 2048, .inl f11)), (a0, .inr (2, [.ref a1, .int v1, .int v2])), (a1, .inl (cT 2, 4096, .inr (.inl f0))), (a9, .inr (2, [.ref a10, .int o6.2.2.1, .int o6.2.2.2])), (a10, .inl (cT 2, 4096, .inr (.inl o6.2.1)))]) hP hD [0, 1, 9, 10] [2, 3, 4, 5, 6, 7, 8] 7 rfl rfl (by decide) (by decide) hk1 hFc hP1 hD1
    generalize H1 = H at hP hS ⊢
    rw [hr9]
    refine W.eq (g2 := F0 m 104 ls [.int o6.1]) rfl ?_
    obtain rfl := Option.some.inj hf
    obtain ⟨hP9, hD9⟩ := xsub (wc := [(a0, .inr (2, [.ref a1, .int v1, .int v2])), (a1, .inl (cT 2, 4096, .inr (.inl f0))), (a2, .inr (1, [.ref a3, .int v4, .int v5])), (a3, .inl (cT 0, 4096, .inl f3)), (a4, .inr (3, [.ref a5, .ref a6, .ref p8, .ref p10, .int v12])), (a5, .inl (cT 1, 2048, .inl f6)), (a6, .inl (cT 1, 2048, .inl f7)), (p8, .inl (cT 1, 2048, .inl f9)), (p10, .inl (cT 1, 2048, .inl f11)), (a9, .inr (2, [.ref a10, .int o6.2.2.1, .int o6.2.2.2])), (a10, .inl (cT 2, 4096, .inr (.inl o6.2.1)))]) hP hD [7, 8, 0, 1, 2, 3, 4, 5, 6, 9, 10] rfl rfl (by decide)
    refine W.widen (k := 1) (n := 4) (Nat.le_of_ble_eq_true rfl) (Nat.le_of_ble_eq_true rfl) ?_
    exact W.iret (v := o6.1) hx hb hr (fun t ht hW => ⟨⟨o6.1, (), rfl, rfl, by rw [ht]; exact hP9, va_K.moved hW.alike hK, hD9⟩, hS.F ht⟩) hS.2.2 dG_apply_104
  rw [if_neg hc5] at hf
  by_cases hc9 : x0 = 2
  · rw [if_pos hc9] at hf
    refine lv_tableIn (off := 104) (tgt := 105) hx hb dG_apply_1 (by rw [hc9]; decide) (by rw [hc9]; decide) (by rw [hc9]; decide) (by decide) ?_
    refine lv_aload_n hx hb dG_apply_105 rfl (lv_at hl 1 rfl) ?_
    refine lv_iconst (v := 0) hx hb dG_apply_106 (by decide) ?_
    refine lv_bipush (v := 6) hx hb dG_apply_107 (by decide) ?_
    obtain ⟨o10, hq11, hf⟩ := xbind hf
    obtain ⟨hPc, hDc, hFc⟩ := xcut (wc := [(a0, .inr (2, [.ref a1, .int v1, .int v2])), (a1, .inl (cT 2, 4096, .inr (.inl f0)))]) hP hD hS hA [0, 1] rfl rfl (by decide)
    refine va_calli (va_runV (C := "ValueBench$Row") (As := [.int 0, .int 6]) (rest := []) ⟨hx, hb, hml, hown, htx⟩ (gR_is l hl9 D cT aK aV s.heap.size n a0 a1 (0 : Int32) (6 : Int32) f0 v1 v2 o10 hq11) ⟨callB_of 2 htx (xw_goodC kw_3_75) rfl rfl rfl (htx _ kw_1_4) (htx _ kw_4_29) ⟨by decide, by decide, by decide +kernel⟩ ⟨Nat.le_of_ble_eq_true rfl, Nat.le_of_ble_eq_true rfl⟩, (htx _ kw_3_73), (htx _ kw_3_74)⟩ ⟨xPre_blind, va_recv hK hP (ci := 2) rfl (q0 := 0) rfl, (fun U hU hW => ⟨rfl, xPre_of hZ hS hFc hPc hDc hK U hU hW⟩)⟩ rfl rfl hl.1 rfl (lv_room (Nat.le_of_ble_eq_true rfl)) dG_apply_109 ⟨Nat.le_of_ble_eq_true rfl, Nat.le_of_ble_eq_true rfl⟩) hS (fun q _ h => hFc q h) hFc (fun r12 u9 t H1 locs ht hvm hr9 hB hz1 hk1 hS => ?_)
    obtain ⟨hP1, hK1, hD1⟩ := hB
    rw [ht] at hP1
    obtain ⟨hP, hD⟩ := xjoin (W := [(a2, .inr (1, [.ref a3, .int v4, .int v5])), (a3, .inl (cT 0, 4096, .inl f3)), (a4, .inr (3, [.ref a5, .ref a6, .ref p8, .ref p10, .int v12])), (a5, .inl (cT 1, 2048, .inl f6)), (a6, .inl (cT 1, 2048, .inl f7)), (p8, .inl (cT 1, 2048, .inl f9)), (p10, .inl (cT 1, 2048, .inl f11)), (a9, .inr (2, [.ref a10, .int v14, .int v15])), (a10, .inl (cT 2, 4096, .inr (.inl f13))), (a0, .inr (2, [.ref a1, .int v1, .int v2])), (a1, .inl (cT 2, 4096, .inr (.inl f0)))]) hP hD [0, 1] [2, 3, 4, 5, 6, 7, 8, 9, 10] 9 rfl rfl (by decide) (by decide) hk1 hFc hP1 hD1
    generalize H1 = H at hP hS ⊢
    rw [hr9]
    refine W.eq (g2 := F0 m 112 ls [.int o10]) rfl ?_
    refine lv_if_eq (tgt := 125) hx hb dG_apply_112 (by decide) (fun hc => ?_) (fun hc => ?_)
    · rw [if_pos hc] at hf
      refine lv_aload_n hx hb dG_apply_125 rfl (lv_at hl 1 rfl) ?_
      refine lv_aload hx hb dG_apply_126 (lv_at hl 4 rfl) ?_
      obtain ⟨o13, hq14, hf⟩ := xbind hf
      obtain ⟨hPc, hDc, hFc⟩ := xcut (wc := [(a0, .inr (2, [.ref a1, .int v1, .int v2])), (a1, .inl (cT 2, 4096, .inr (.inl f0))), (a9, .inr (2, [.ref a10, .int v14, .int v15])), (a10, .inl (cT 2, 4096, .inr (.inl f13)))]) hP hD hS hA [9, 10, 7, 8] rfl rfl (by decide)
      refine va_calli (va_runS (As := [.ref a0, .ref a9]) (rest := []) ⟨hx, hb, hml, hown, htx⟩ (gG_keys l hl9 D cT aK aV H.size n a0 a1 a9 a10 f0 v1 v2 f13 v14 v15 o13 hq14) ⟨callB_of 2 htx (xw_goodC kw_4_73) rfl rfl rfl (htx _ kw_1_26) (htx _ kw_4_71) ⟨by decide, by decide, by decide +kernel⟩ ⟨Nat.le_of_ble_eq_true rfl, Nat.le_of_ble_eq_true rfl⟩, htx _ kw_4_72⟩ ⟨xPre_blind, (fun U hU hW => ⟨rfl, xPre_of hZ hS hFc hPc hDc hK U hU hW⟩)⟩ rfl rfl hl.1 rfl (lv_room (Nat.le_of_ble_eq_true rfl)) dG_apply_128 ⟨Nat.le_of_ble_eq_true rfl, Nat.le_of_ble_eq_true rfl⟩) hS (fun q _ h => hFc q h) hFc (fun r15 u9 t H1 locs ht hvm hr9 hB hz1 hk1 hS => ?_)
      obtain ⟨hP1, hK1, hD1⟩ := hB
      rw [ht] at hP1
      obtain ⟨hP, hD⟩ := xjoin (W := [(a2, .inr (1, [.ref a3, .int v4, .int v5])), (a3, .inl (cT 0, 4096, .inl f3)), (a4, .inr (3, [.ref a5, .ref a6, .ref p8, .ref p10, .int v12])), (a5, .inl (cT 1, 2048, .inl f6)), (a6, .inl (cT 1, 2048, .inl f7)), (p8, .inl (cT 1, 2048, .inl f9)), (p10, .inl (cT 1, 2048, .inl f11)), (a0, .inr (2, [.ref a1, .int v1, .int v2])), (a1, .inl (cT 2, 4096, .inr (.inl f0))), (a9, .inr (2, [.ref a10, .int o13.2.2.1, .int o13.2.2.2])), (a10, .inl (cT 2, 4096, .inr (.inl o13.2.1)))]) hP hD [9, 10, 7, 8] [0, 1, 2, 3, 4, 5, 6] 7 rfl rfl (by decide) (by decide) hk1 hFc hP1 hD1
      generalize H1 = H at hP hS ⊢
      rw [hr9]
      refine W.eq (g2 := F0 m 131 ls [.int o13.1]) rfl ?_
      obtain rfl := Option.some.inj hf
      obtain ⟨hP9, hD9⟩ := xsub (wc := [(a0, .inr (2, [.ref a1, .int v1, .int v2])), (a1, .inl (cT 2, 4096, .inr (.inl f0))), (a2, .inr (1, [.ref a3, .int v4, .int v5])), (a3, .inl (cT 0, 4096, .inl f3)), (a4, .inr (3, [.ref a5, .ref a6, .ref p8, .ref p10, .int v12])), (a5, .inl (cT 1, 2048, .inl f6)), (a6, .inl (cT 1, 2048, .inl f7)), (p8, .inl (cT 1, 2048, .inl f9)), (p10, .inl (cT 1, 2048, .inl f11)), (a9, .inr (2, [.ref a10, .int o13.2.2.1, .int o13.2.2.2])), (a10, .inl (cT 2, 4096, .inr (.inl o13.2.1)))]) hP hD [7, 8, 0, 1, 2, 3, 4, 5, 6, 9, 10] rfl rfl (by decide)
      refine W.widen (k := 1) (n := 4) (Nat.le_of_ble_eq_true rfl) (Nat.le_of_ble_eq_true rfl) ?_
      exact W.iret (v := o13.1) hx hb hr (fun t ht hW => ⟨⟨o13.1, (), rfl, rfl, by rw [ht]; exact hP9, va_K.moved hW.alike hK, hD9⟩, hS.F ht⟩) hS.2.2 dG_apply_131
    · rw [if_neg hc] at hf
      refine lv_aload_n hx hb dG_apply_115 rfl (lv_at hl 1 rfl) ?_
      refine lv_aload_n hx hb dG_apply_116 rfl (lv_at hl 3 rfl) ?_
      refine lv_aload hx hb dG_apply_117 (lv_at hl 4 rfl) ?_
      obtain ⟨o13, hq14, hf⟩ := xbind hf
      obtain ⟨hPc, hDc, hFc⟩ := xcut (wc := [(a0, .inr (2, [.ref a1, .int v1, .int v2])), (a1, .inl (cT 2, 4096, .inr (.inl f0))), (a4, .inr (3, [.ref a5, .ref a6, .ref p8, .ref p10, .int v12])), (a5, .inl (cT 1, 2048, .inl f6)), (a6, .inl (cT 1, 2048, .inl f7)), (p8, .inl (cT 1, 2048, .inl f9)), (p10, .inl (cT 1, 2048, .inl f11)), (a9, .inr (2, [.ref a10, .int v14, .int v15])), (a10, .inl (cT 2, 4096, .inr (.inl f13)))]) hP hD hS hA [9, 10, 2, 3, 4, 5, 6, 7, 8] rfl rfl (by decide)
      refine va_calli (va_runS (As := [.ref a0, .ref a4, .ref a9]) (rest := []) ⟨hx, hb, hml, hown, htx⟩ (gG_sorted l hl9 D cT aK aV H.size d n a0 a1 a4 a5 a6 a9 a10 f0 v1 v2 f6 f7 p8 f9 p10 f11 v12 f13 v14 v15 o13 hq14) ⟨callB_of 3 htx (xw_goodC kw_4_45) rfl rfl rfl (htx _ kw_1_26) (htx _ kw_4_43) ⟨by decide, by decide, by decide +kernel⟩ ⟨(by show (16 * d + 4) + 1 ≤ 16 * d + 5; omega), (by show 8 + (5 + 11) + (400 * d + 105) ≤ 400 * d + 151; omega)⟩, htx _ kw_4_44⟩ ⟨xPre_blind, (fun U hU hW => ⟨rfl, xPre_of hZ hS hFc hPc hDc hK U hU hW⟩)⟩ rfl rfl hl.1 rfl (lv_room (Nat.le_of_ble_eq_true rfl)) dG_apply_119 ⟨Nat.le_of_ble_eq_true rfl, Nat.le_of_ble_eq_true rfl⟩) hS (fun q _ h => hFc q h) hFc (fun r15 u9 t H1 locs ht hvm hr9 hB hz1 hk1 hS => ?_)
      obtain ⟨hP1, hK1, hD1⟩ := hB
      rw [ht] at hP1
      obtain ⟨hP, hD⟩ := xjoin (W := [(a2, .inr (1, [.ref a3, .int v4, .int v5])), (a3, .inl (cT 0, 4096, .inl f3)), (a0, .inr (2, [.ref a1, .int v1, .int v2])), (a1, .inl (cT 2, 4096, .inr (.inl f0))), (a4, .inr (3, [.ref a5, .ref a6, .ref o13.2.2.2.1, .ref o13.2.2.2.2.2.1, .int o13.2.2.2.2.2.2.1])), (a5, .inl (cT 1, 2048, .inl o13.2.1)), (a6, .inl (cT 1, 2048, .inl f7)), (o13.2.2.2.1, .inl (cT 1, 2048, .inl o13.2.2.1)), (o13.2.2.2.2.2.1, .inl (cT 1, 2048, .inl o13.2.2.2.2.1)), (a9, .inr (2, [.ref a10, .int o13.2.2.2.2.2.2.2.2.1, .int o13.2.2.2.2.2.2.2.2.2])), (a10, .inl (cT 2, 4096, .inr (.inl o13.2.2.2.2.2.2.2.1)))]) hP hD [9, 10, 2, 3, 4, 5, 6, 7, 8] [0, 1] 2 rfl rfl (by decide) (by decide) hk1 hFc hP1 hD1
      generalize H1 = H at hP hS ⊢
      rw [hr9]
      refine W.eq (g2 := F0 m 122 ls [.int o13.1]) rfl ?_
      refine lv_goto (tgt := 131) hx hb dG_apply_122 (by decide) ?_
      obtain rfl := Option.some.inj hf
      obtain ⟨hP9, hD9⟩ := xsub (wc := [(a0, .inr (2, [.ref a1, .int v1, .int v2])), (a1, .inl (cT 2, 4096, .inr (.inl f0))), (a2, .inr (1, [.ref a3, .int v4, .int v5])), (a3, .inl (cT 0, 4096, .inl f3)), (a4, .inr (3, [.ref a5, .ref a6, .ref o13.2.2.2.1, .ref o13.2.2.2.2.2.1, .int o13.2.2.2.2.2.2.1])), (a5, .inl (cT 1, 2048, .inl o13.2.1)), (a6, .inl (cT 1, 2048, .inl f7)), (o13.2.2.2.1, .inl (cT 1, 2048, .inl o13.2.2.1)), (o13.2.2.2.2.2.1, .inl (cT 1, 2048, .inl o13.2.2.2.2.1)), (a9, .inr (2, [.ref a10, .int o13.2.2.2.2.2.2.2.2.1, .int o13.2.2.2.2.2.2.2.2.2])), (a10, .inl (cT 2, 4096, .inr (.inl o13.2.2.2.2.2.2.2.1)))]) hP hD [2, 3, 0, 1, 4, 5, 6, 7, 8, 9, 10] rfl rfl (by decide)
      refine W.widen (k := 1) (n := 4) (Nat.le_of_ble_eq_true rfl) (Nat.le_of_ble_eq_true rfl) ?_
      exact W.iret (v := o13.1) hx hb hr (fun t ht hW => ⟨⟨o13.1, (), rfl, rfl, by rw [ht]; exact hP9, va_K.moved hW.alike hK, hD9⟩, hS.F ht⟩) hS.2.2 dG_apply_131
  rw [if_neg hc9] at hf
  by_cases hc13 : x0 = 3
  · rw [if_pos hc13] at hf
    refine lv_tableIn (off := 131) (tgt := 132) hx hb dG_apply_1 (by rw [hc13]; decide) (by rw [hc13]; decide) (by rw [hc13]; decide) (by decide) ?_
    refine lv_aload_n hx hb dG_apply_132 rfl (lv_at hl 1 rfl) ?_
    refine lv_aload hx hb dG_apply_133 (lv_at hl 4 rfl) ?_
    obtain ⟨o14, hq15, hf⟩ := xbind hf
    obtain ⟨hPc, hDc, hFc⟩ := xcut (wc := [(a0, .inr (2, [.ref a1, .int v1, .int v2])), (a1, .inl (cT 2, 4096, .inr (.inl f0))), (a9, .inr (2, [.ref a10, .int v14, .int v15])), (a10, .inl (cT 2, 4096, .inr (.inl f13)))]) hP hD hS hA [0, 1, 9, 10] rfl rfl (by decide)
    refine va_calli (va_runS (As := [.ref a0, .ref a9]) (rest := []) ⟨hx, hb, hml, hown, htx⟩ (gG_keys l hl9 D cT aK aV s.heap.size n a0 a1 a9 a10 f0 v1 v2 f13 v14 v15 o14 hq15) ⟨callB_of 2 htx (xw_goodC kw_4_73) rfl rfl rfl (htx _ kw_1_26) (htx _ kw_4_71) ⟨by decide, by decide, by decide +kernel⟩ ⟨Nat.le_of_ble_eq_true rfl, Nat.le_of_ble_eq_true rfl⟩, htx _ kw_4_72⟩ ⟨xPre_blind, (fun U hU hW => ⟨rfl, xPre_of hZ hS hFc hPc hDc hK U hU hW⟩)⟩ rfl rfl hl.1 rfl (lv_room (Nat.le_of_ble_eq_true rfl)) dG_apply_135 ⟨Nat.le_of_ble_eq_true rfl, Nat.le_of_ble_eq_true rfl⟩) hS (fun q _ h => hFc q h) hFc (fun r16 u9 t H1 locs ht hvm hr9 hB hz1 hk1 hS => ?_)
    obtain ⟨hP1, hK1, hD1⟩ := hB
    rw [ht] at hP1
    obtain ⟨hP, hD⟩ := xjoin (W := [(a2, .inr (1, [.ref a3, .int v4, .int v5])), (a3, .inl (cT 0, 4096, .inl f3)), (a4, .inr (3, [.ref a5, .ref a6, .ref p8, .ref p10, .int v12])), (a5, .inl (cT 1, 2048, .inl f6)), (a6, .inl (cT 1, 2048, .inl f7)), (p8, .inl (cT 1, 2048, .inl f9)), (p10, .inl (cT 1, 2048, .inl f11)), (a0, .inr (2, [.ref a1, .int v1, .int v2])), (a1, .inl (cT 2, 4096, .inr (.inl f0))), (a9, .inr (2, [.ref a10, .int o14.2.2.1, .int o14.2.2.2])), (a10, .inl (cT 2, 4096, .inr (.inl o14.2.1)))]) hP hD [0, 1, 9, 10] [2, 3, 4, 5, 6, 7, 8] 7 rfl rfl (by decide) (by decide) hk1 hFc hP1 hD1
    generalize H1 = H at hP hS ⊢
    rw [hr9]
    refine W.eq (g2 := F0 m 138 ls [.int o14.1]) rfl ?_
    obtain rfl := Option.some.inj hf
    obtain ⟨hP9, hD9⟩ := xsub (wc := [(a0, .inr (2, [.ref a1, .int v1, .int v2])), (a1, .inl (cT 2, 4096, .inr (.inl f0))), (a2, .inr (1, [.ref a3, .int v4, .int v5])), (a3, .inl (cT 0, 4096, .inl f3)), (a4, .inr (3, [.ref a5, .ref a6, .ref p8, .ref p10, .int v12])), (a5, .inl (cT 1, 2048, .inl f6)), (a6, .inl (cT 1, 2048, .inl f7)), (p8, .inl (cT 1, 2048, .inl f9)), (p10, .inl (cT 1, 2048, .inl f11)), (a9, .inr (2, [.ref a10, .int o14.2.2.1, .int o14.2.2.2])), (a10, .inl (cT 2, 4096, .inr (.inl o14.2.1)))]) hP hD [7, 8, 0, 1, 2, 3, 4, 5, 6, 9, 10] rfl rfl (by decide)
    refine W.widen (k := 1) (n := 4) (Nat.le_of_ble_eq_true rfl) (Nat.le_of_ble_eq_true rfl) ?_
    exact W.iret (v := o14.1) hx hb hr (fun t ht hW => ⟨⟨o14.1, (), rfl, rfl, by rw [ht]; exact hP9, va_K.moved hW.alike hK, hD9⟩, hS.F ht⟩) hS.2.2 dG_apply_138
  rw [if_neg hc13] at hf
  by_cases hc17 : x0 = 4
  · rw [if_pos hc17] at hf
    refine lv_tableIn (off := 138) (tgt := 139) hx hb dG_apply_1 (by rw [hc17]; decide) (by rw [hc17]; decide) (by rw [hc17]; decide) (by decide) ?_
    refine lv_aload_n hx hb dG_apply_139 rfl (lv_at hl 1 rfl) ?_
    refine lv_iconst (v := 0) hx hb dG_apply_140 (by decide) ?_
    refine lv_iconst (v := 4) hx hb dG_apply_141 (by decide) ?_
    obtain ⟨o18, hq19, hf⟩ := xbind hf
    obtain ⟨hPc, hDc, hFc⟩ := xcut (wc := [(a0, .inr (2, [.ref a1, .int v1, .int v2])), (a1, .inl (cT 2, 4096, .inr (.inl f0)))]) hP hD hS hA [0, 1] rfl rfl (by decide)
    refine va_calli (va_runV (C := "ValueBench$Row") (As := [.int 0, .int 4]) (rest := []) ⟨hx, hb, hml, hown, htx⟩ (gR_is l hl9 D cT aK aV s.heap.size n a0 a1 (0 : Int32) (4 : Int32) f0 v1 v2 o18 hq19) ⟨callB_of 2 htx (xw_goodC kw_3_75) rfl rfl rfl (htx _ kw_1_4) (htx _ kw_4_29) ⟨by decide, by decide, by decide +kernel⟩ ⟨Nat.le_of_ble_eq_true rfl, Nat.le_of_ble_eq_true rfl⟩, (htx _ kw_3_73), (htx _ kw_3_74)⟩ ⟨xPre_blind, va_recv hK hP (ci := 2) rfl (q0 := 0) rfl, (fun U hU hW => ⟨rfl, xPre_of hZ hS hFc hPc hDc hK U hU hW⟩)⟩ rfl rfl hl.1 rfl (lv_room (Nat.le_of_ble_eq_true rfl)) dG_apply_142 ⟨Nat.le_of_ble_eq_true rfl, Nat.le_of_ble_eq_true rfl⟩) hS (fun q _ h => hFc q h) hFc (fun r20 u9 t H1 locs ht hvm hr9 hB hz1 hk1 hS => ?_)
    obtain ⟨hP1, hK1, hD1⟩ := hB
    rw [ht] at hP1
    obtain ⟨hP, hD⟩ := xjoin (W := [(a2, .inr (1, [.ref a3, .int v4, .int v5])), (a3, .inl (cT 0, 4096, .inl f3)), (a4, .inr (3, [.ref a5, .ref a6, .ref p8, .ref p10, .int v12])), (a5, .inl (cT 1, 2048, .inl f6)), (a6, .inl (cT 1, 2048, .inl f7)), (p8, .inl (cT 1, 2048, .inl f9)), (p10, .inl (cT 1, 2048, .inl f11)), (a9, .inr (2, [.ref a10, .int v14, .int v15])), (a10, .inl (cT 2, 4096, .inr (.inl f13))), (a0, .inr (2, [.ref a1, .int v1, .int v2])), (a1, .inl (cT 2, 4096, .inr (.inl f0)))]) hP hD [0, 1] [2, 3, 4, 5, 6, 7, 8, 9, 10] 9 rfl rfl (by decide) (by decide) hk1 hFc hP1 hD1
    generalize H1 = H at hP hS ⊢
    rw [hr9]
    refine W.eq (g2 := F0 m 145 ls [.int o18]) rfl ?_
    refine lv_if_eq (tgt := 157) hx hb dG_apply_145 (by decide) (fun hc => ?_) (fun hc => ?_)
    · rw [if_pos hc] at hf
      refine lv_aload_n hx hb dG_apply_157 rfl (lv_at hl 1 rfl) ?_
      refine lv_aload_n hx hb dG_apply_158 rfl (lv_at hl 2 rfl) ?_
      refine lv_aload hx hb dG_apply_159 (lv_at hl 4 rfl) ?_
      obtain ⟨o21, hq22, hf⟩ := xbind hf
      obtain ⟨hPc, hDc, hFc⟩ := xcut (wc := [(a0, .inr (2, [.ref a1, .int v1, .int v2])), (a1, .inl (cT 2, 4096, .inr (.inl f0))), (a2, .inr (1, [.ref a3, .int v4, .int v5])), (a3, .inl (cT 0, 4096, .inl f3)), (a9, .inr (2, [.ref a10, .int v14, .int v15])), (a10, .inl (cT 2, 4096, .inr (.inl f13)))]) hP hD hS hA [9, 10, 0, 1, 7, 8] rfl rfl (by decide)
      refine va_calli (va_runS (As := [.ref a0, .ref a2, .ref a9]) (rest := []) ⟨hx, hb, hml, hown, htx⟩ (gG_printed l hl9 D cT aK aV H.size d n a0 a1 a2 a3 a9 a10 f0 v1 v2 f3 v4 v5 f13 v14 v15 o21 hq22) ⟨callB_of 3 htx (xw_goodC kw_4_80) rfl rfl rfl (htx _ kw_1_26) (htx _ kw_4_78) ⟨by decide, by decide, by decide +kernel⟩ ⟨(by show (16 * d + 3) + 1 ≤ 16 * d + 5; omega), (by show 8 + (3 + 11) + (400 * d + 65) ≤ 400 * d + 151; omega)⟩, htx _ kw_4_79⟩ ⟨xPre_blind, (fun U hU hW => ⟨rfl, xPre_of hZ hS hFc hPc hDc hK U hU hW⟩)⟩ rfl rfl hl.1 rfl (lv_room (Nat.le_of_ble_eq_true rfl)) dG_apply_161 ⟨Nat.le_of_ble_eq_true rfl, Nat.le_of_ble_eq_true rfl⟩) hS (fun q _ h => hFc q h) hFc (fun r23 u9 t H1 locs ht hvm hr9 hB hz1 hk1 hS => ?_)
      obtain ⟨hP1, hK1, hD1⟩ := hB
      rw [ht] at hP1
      obtain ⟨hP, hD⟩ := xjoin (W := [(a4, .inr (3, [.ref a5, .ref a6, .ref p8, .ref p10, .int v12])), (a5, .inl (cT 1, 2048, .inl f6)), (a6, .inl (cT 1, 2048, .inl f7)), (p8, .inl (cT 1, 2048, .inl f9)), (p10, .inl (cT 1, 2048, .inl f11)), (a0, .inr (2, [.ref a1, .int v1, .int v2])), (a1, .inl (cT 2, 4096, .inr (.inl f0))), (a2, .inr (1, [.ref a3, .int o21.2.2.1, .int o21.2.2.2.1])), (a3, .inl (cT 0, 4096, .inl o21.2.1)), (a9, .inr (2, [.ref a10, .int o21.2.2.2.2.2.1, .int o21.2.2.2.2.2.2])), (a10, .inl (cT 2, 4096, .inr (.inl o21.2.2.2.2.1)))]) hP hD [9, 10, 0, 1, 7, 8] [2, 3, 4, 5, 6] 5 rfl rfl (by decide) (by decide) hk1 hFc hP1 hD1
      generalize H1 = H at hP hS ⊢
      rw [hr9]
      refine W.eq (g2 := F0 m 164 ls [.int o21.1]) rfl ?_
      obtain rfl := Option.some.inj hf
      obtain ⟨hP9, hD9⟩ := xsub (wc := [(a0, .inr (2, [.ref a1, .int v1, .int v2])), (a1, .inl (cT 2, 4096, .inr (.inl f0))), (a2, .inr (1, [.ref a3, .int o21.2.2.1, .int o21.2.2.2.1])), (a3, .inl (cT 0, 4096, .inl o21.2.1)), (a4, .inr (3, [.ref a5, .ref a6, .ref p8, .ref p10, .int v12])), (a5, .inl (cT 1, 2048, .inl f6)), (a6, .inl (cT 1, 2048, .inl f7)), (p8, .inl (cT 1, 2048, .inl f9)), (p10, .inl (cT 1, 2048, .inl f11)), (a9, .inr (2, [.ref a10, .int o21.2.2.2.2.2.1, .int o21.2.2.2.2.2.2])), (a10, .inl (cT 2, 4096, .inr (.inl o21.2.2.2.2.1)))]) hP hD [5, 6, 7, 8, 0, 1, 2, 3, 4, 9, 10] rfl rfl (by decide)
      refine W.widen (k := 1) (n := 4) (Nat.le_of_ble_eq_true rfl) (Nat.le_of_ble_eq_true rfl) ?_
      exact W.iret (v := o21.1) hx hb hr (fun t ht hW => ⟨⟨o21.1, (), rfl, rfl, by rw [ht]; exact hP9, va_K.moved hW.alike hK, hD9⟩, hS.F ht⟩) hS.2.2 dG_apply_164
    · rw [if_neg hc] at hf
      refine lv_aload_n hx hb dG_apply_148 rfl (lv_at hl 1 rfl) ?_
      refine lv_aload hx hb dG_apply_149 (lv_at hl 4 rfl) ?_
      obtain ⟨o21, hq22, hf⟩ := xbind hf
      obtain ⟨hPc, hDc, hFc⟩ := xcut (wc := [(a0, .inr (2, [.ref a1, .int v1, .int v2])), (a1, .inl (cT 2, 4096, .inr (.inl f0))), (a9, .inr (2, [.ref a10, .int v14, .int v15])), (a10, .inl (cT 2, 4096, .inr (.inl f13)))]) hP hD hS hA [9, 10, 7, 8] rfl rfl (by decide)
      refine va_calli (va_runS (As := [.ref a0, .ref a9]) (rest := []) ⟨hx, hb, hml, hown, htx⟩ (gG_itself l hl9 D cT aK aV H.size n a0 a1 a9 a10 f0 v1 v2 f13 v14 v15 o21 hq22) ⟨callB_of 2 htx (xw_goodC kw_4_77) rfl rfl rfl (htx _ kw_1_26) (htx _ kw_4_75) ⟨by decide, by decide, by decide +kernel⟩ ⟨Nat.le_of_ble_eq_true rfl, Nat.le_of_ble_eq_true rfl⟩, htx _ kw_4_76⟩ ⟨xPre_blind, (fun U hU hW => ⟨rfl, xPre_of hZ hS hFc hPc hDc hK U hU hW⟩)⟩ rfl rfl hl.1 rfl (lv_room (Nat.le_of_ble_eq_true rfl)) dG_apply_151 ⟨Nat.le_of_ble_eq_true rfl, Nat.le_of_ble_eq_true rfl⟩) hS (fun q _ h => hFc q h) hFc (fun r23 u9 t H1 locs ht hvm hr9 hB hz1 hk1 hS => ?_)
      obtain ⟨hP1, hK1, hD1⟩ := hB
      rw [ht] at hP1
      obtain ⟨hP, hD⟩ := xjoin (W := [(a2, .inr (1, [.ref a3, .int v4, .int v5])), (a3, .inl (cT 0, 4096, .inl f3)), (a4, .inr (3, [.ref a5, .ref a6, .ref p8, .ref p10, .int v12])), (a5, .inl (cT 1, 2048, .inl f6)), (a6, .inl (cT 1, 2048, .inl f7)), (p8, .inl (cT 1, 2048, .inl f9)), (p10, .inl (cT 1, 2048, .inl f11)), (a0, .inr (2, [.ref a1, .int v1, .int v2])), (a1, .inl (cT 2, 4096, .inr (.inl f0))), (a9, .inr (2, [.ref a10, .int o21.2.2.1, .int o21.2.2.2])), (a10, .inl (cT 2, 4096, .inr (.inl o21.2.1)))]) hP hD [9, 10, 7, 8] [0, 1, 2, 3, 4, 5, 6] 7 rfl rfl (by decide) (by decide) hk1 hFc hP1 hD1
      generalize H1 = H at hP hS ⊢
      rw [hr9]
      refine W.eq (g2 := F0 m 154 ls [.int o21.1]) rfl ?_
      refine lv_goto (tgt := 164) hx hb dG_apply_154 (by decide) ?_
      obtain rfl := Option.some.inj hf
      obtain ⟨hP9, hD9⟩ := xsub (wc := [(a0, .inr (2, [.ref a1, .int v1, .int v2])), (a1, .inl (cT 2, 4096, .inr (.inl f0))), (a2, .inr (1, [.ref a3, .int v4, .int v5])), (a3, .inl (cT 0, 4096, .inl f3)), (a4, .inr (3, [.ref a5, .ref a6, .ref p8, .ref p10, .int v12])), (a5, .inl (cT 1, 2048, .inl f6)), (a6, .inl (cT 1, 2048, .inl f7)), (p8, .inl (cT 1, 2048, .inl f9)), (p10, .inl (cT 1, 2048, .inl f11)), (a9, .inr (2, [.ref a10, .int o21.2.2.1, .int o21.2.2.2])), (a10, .inl (cT 2, 4096, .inr (.inl o21.2.1)))]) hP hD [7, 8, 0, 1, 2, 3, 4, 5, 6, 9, 10] rfl rfl (by decide)
      refine W.widen (k := 1) (n := 4) (Nat.le_of_ble_eq_true rfl) (Nat.le_of_ble_eq_true rfl) ?_
      exact W.iret (v := o21.1) hx hb hr (fun t ht hW => ⟨⟨o21.1, (), rfl, rfl, by rw [ht]; exact hP9, va_K.moved hW.alike hK, hD9⟩, hS.F ht⟩) hS.2.2 dG_apply_164
  rw [if_neg hc17] at hf
  by_cases hc21 : x0 = 5
  · rw [if_pos hc21] at hf
    refine lv_tableIn (off := 164) (tgt := 165) hx hb dG_apply_1 (by rw [hc21]; decide) (by rw [hc21]; decide) (by rw [hc21]; decide) (by decide) ?_
    refine lv_aload_n hx hb dG_apply_165 rfl (lv_at hl 1 rfl) ?_
    refine lv_aload_n hx hb dG_apply_166 rfl (lv_at hl 2 rfl) ?_
    refine lv_aload hx hb dG_apply_167 (lv_at hl 4 rfl) ?_
    obtain ⟨o22, hq23, hf⟩ := xbind hf
    obtain ⟨hPc, hDc, hFc⟩ := xcut (wc := [(a0, .inr (2, [.ref a1, .int v1, .int v2])), (a1, .inl (cT 2, 4096, .inr (.inl f0))), (a2, .inr (1, [.ref a3, .int v4, .int v5])), (a3, .inl (cT 0, 4096, .inl f3)), (a9, .inr (2, [.ref a10, .int v14, .int v15])), (a10, .inl (cT 2, 4096, .inr (.inl f13)))]) hP hD hS hA [0, 1, 2, 3, 9, 10] rfl rfl (by decide)
    refine va_calli (va_runS (As := [.ref a0, .ref a2, .ref a9]) (rest := []) ⟨hx, hb, hml, hown, htx⟩ (gG_toNumber l hl9 D cT aK aV s.heap.size n a0 a1 a2 a3 a9 a10 f0 v1 v2 f3 v4 v5 f13 v14 v15 o22 hq23) ⟨callB_of 3 htx (xw_goodC kw_4_92) rfl rfl rfl (htx _ kw_1_26) (htx _ kw_4_90) ⟨by decide, by decide, by decide +kernel⟩ ⟨Nat.le_of_ble_eq_true rfl, Nat.le_of_ble_eq_true rfl⟩, htx _ kw_4_91⟩ ⟨xPre_blind, (fun U hU hW => ⟨rfl, xPre_of hZ hS hFc hPc hDc hK U hU hW⟩)⟩ rfl rfl hl.1 rfl (lv_room (Nat.le_of_ble_eq_true rfl)) dG_apply_169 ⟨Nat.le_of_ble_eq_true rfl, Nat.le_of_ble_eq_true rfl⟩) hS (fun q _ h => hFc q h) hFc (fun r24 u9 t H1 locs ht hvm hr9 hB hz1 hk1 hS => ?_)
    obtain ⟨hP1, hK1, hD1⟩ := hB
    rw [ht] at hP1
    obtain ⟨hP, hD⟩ := xjoin (W := [(a4, .inr (3, [.ref a5, .ref a6, .ref p8, .ref p10, .int v12])), (a5, .inl (cT 1, 2048, .inl f6)), (a6, .inl (cT 1, 2048, .inl f7)), (p8, .inl (cT 1, 2048, .inl f9)), (p10, .inl (cT 1, 2048, .inl f11)), (a0, .inr (2, [.ref a1, .int v1, .int v2])), (a1, .inl (cT 2, 4096, .inr (.inl f0))), (a2, .inr (1, [.ref a3, .int o22.2.2.1, .int o22.2.2.2.1])), (a3, .inl (cT 0, 4096, .inl o22.2.1)), (a9, .inr (2, [.ref a10, .int o22.2.2.2.2.2.1, .int o22.2.2.2.2.2.2])), (a10, .inl (cT 2, 4096, .inr (.inl o22.2.2.2.2.1)))]) hP hD [0, 1, 2, 3, 9, 10] [4, 5, 6, 7, 8] 5 rfl rfl (by decide) (by decide) hk1 hFc hP1 hD1
    generalize H1 = H at hP hS ⊢
    rw [hr9]
    refine W.eq (g2 := F0 m 172 ls [.int o22.1]) rfl ?_
    obtain rfl := Option.some.inj hf
    obtain ⟨hP9, hD9⟩ := xsub (wc := [(a0, .inr (2, [.ref a1, .int v1, .int v2])), (a1, .inl (cT 2, 4096, .inr (.inl f0))), (a2, .inr (1, [.ref a3, .int o22.2.2.1, .int o22.2.2.2.1])), (a3, .inl (cT 0, 4096, .inl o22.2.1)), (a4, .inr (3, [.ref a5, .ref a6, .ref p8, .ref p10, .int v12])), (a5, .inl (cT 1, 2048, .inl f6)), (a6, .inl (cT 1, 2048, .inl f7)), (p8, .inl (cT 1, 2048, .inl f9)), (p10, .inl (cT 1, 2048, .inl f11)), (a9, .inr (2, [.ref a10, .int o22.2.2.2.2.2.1, .int o22.2.2.2.2.2.2])), (a10, .inl (cT 2, 4096, .inr (.inl o22.2.2.2.2.1)))]) hP hD [5, 6, 7, 8, 0, 1, 2, 3, 4, 9, 10] rfl rfl (by decide)
    refine W.widen (k := 1) (n := 4) (Nat.le_of_ble_eq_true rfl) (Nat.le_of_ble_eq_true rfl) ?_
    exact W.iret (v := o22.1) hx hb hr (fun t ht hW => ⟨⟨o22.1, (), rfl, rfl, by rw [ht]; exact hP9, va_K.moved hW.alike hK, hD9⟩, hS.F ht⟩) hS.2.2 dG_apply_172
  rw [if_neg hc21] at hf
  by_cases hc25 : x0 = 6
  · rw [if_pos hc25] at hf
    refine lv_tableIn (off := 172) (tgt := 173) hx hb dG_apply_1 (by rw [hc25]; decide) (by rw [hc25]; decide) (by rw [hc25]; decide) (by decide) ?_
    refine lv_aload_n hx hb dG_apply_173 rfl (lv_at hl 1 rfl) ?_
    refine lv_aload_n hx hb dG_apply_174 rfl (lv_at hl 2 rfl) ?_
    refine lv_aload hx hb dG_apply_175 (lv_at hl 4 rfl) ?_
    obtain ⟨o26, hq27, hf⟩ := xbind hf
    obtain ⟨hPc, hDc, hFc⟩ := xcut (wc := [(a0, .inr (2, [.ref a1, .int v1, .int v2])), (a1, .inl (cT 2, 4096, .inr (.inl f0))), (a2, .inr (1, [.ref a3, .int v4, .int v5])), (a3, .inl (cT 0, 4096, .inl f3)), (a9, .inr (2, [.ref a10, .int v14, .int v15])), (a10, .inl (cT 2, 4096, .inr (.inl f13)))]) hP hD hS hA [0, 1, 2, 3, 9, 10] rfl rfl (by decide)
    refine va_calli (va_runS (As := [.ref a0, .ref a2, .ref a9]) (rest := []) ⟨hx, hb, hml, hown, htx⟩ (gG_printed l hl9 D cT aK aV s.heap.size d n a0 a1 a2 a3 a9 a10 f0 v1 v2 f3 v4 v5 f13 v14 v15 o26 hq27) ⟨callB_of 3 htx (xw_goodC kw_4_80) rfl rfl rfl (htx _ kw_1_26) (htx _ kw_4_78) ⟨by decide, by decide, by decide +kernel⟩ ⟨(by show (16 * d + 3) + 1 ≤ 16 * d + 5; omega), (by show 8 + (3 + 11) + (400 * d + 65) ≤ 400 * d + 151; omega)⟩, htx _ kw_4_79⟩ ⟨xPre_blind, (fun U hU hW => ⟨rfl, xPre_of hZ hS hFc hPc hDc hK U hU hW⟩)⟩ rfl rfl hl.1 rfl (lv_room (Nat.le_of_ble_eq_true rfl)) dG_apply_177 ⟨Nat.le_of_ble_eq_true rfl, Nat.le_of_ble_eq_true rfl⟩) hS (fun q _ h => hFc q h) hFc (fun r28 u9 t H1 locs ht hvm hr9 hB hz1 hk1 hS => ?_)
    obtain ⟨hP1, hK1, hD1⟩ := hB
    rw [ht] at hP1
    obtain ⟨hP, hD⟩ := xjoin (W := [(a4, .inr (3, [.ref a5, .ref a6, .ref p8, .ref p10, .int v12])), (a5, .inl (cT 1, 2048, .inl f6)), (a6, .inl (cT 1, 2048, .inl f7)), (p8, .inl (cT 1, 2048, .inl f9)), (p10, .inl (cT 1, 2048, .inl f11)), (a0, .inr (2, [.ref a1, .int v1, .int v2])), (a1, .inl (cT 2, 4096, .inr (.inl f0))), (a2, .inr (1, [.ref a3, .int o26.2.2.1, .int o26.2.2.2.1])), (a3, .inl (cT 0, 4096, .inl o26.2.1)), (a9, .inr (2, [.ref a10, .int o26.2.2.2.2.2.1, .int o26.2.2.2.2.2.2])), (a10, .inl (cT 2, 4096, .inr (.inl o26.2.2.2.2.1)))]) hP hD [0, 1, 2, 3, 9, 10] [4, 5, 6, 7, 8] 5 rfl rfl (by decide) (by decide) hk1 hFc hP1 hD1
    generalize H1 = H at hP hS ⊢
    rw [hr9]
    refine W.eq (g2 := F0 m 180 ls [.int o26.1]) rfl ?_
    obtain rfl := Option.some.inj hf
    obtain ⟨hP9, hD9⟩ := xsub (wc := [(a0, .inr (2, [.ref a1, .int v1, .int v2])), (a1, .inl (cT 2, 4096, .inr (.inl f0))), (a2, .inr (1, [.ref a3, .int o26.2.2.1, .int o26.2.2.2.1])), (a3, .inl (cT 0, 4096, .inl o26.2.1)), (a4, .inr (3, [.ref a5, .ref a6, .ref p8, .ref p10, .int v12])), (a5, .inl (cT 1, 2048, .inl f6)), (a6, .inl (cT 1, 2048, .inl f7)), (p8, .inl (cT 1, 2048, .inl f9)), (p10, .inl (cT 1, 2048, .inl f11)), (a9, .inr (2, [.ref a10, .int o26.2.2.2.2.2.1, .int o26.2.2.2.2.2.2])), (a10, .inl (cT 2, 4096, .inr (.inl o26.2.2.2.2.1)))]) hP hD [5, 6, 7, 8, 0, 1, 2, 3, 4, 9, 10] rfl rfl (by decide)
    refine W.widen (k := 1) (n := 4) (Nat.le_of_ble_eq_true rfl) (Nat.le_of_ble_eq_true rfl) ?_
    exact W.iret (v := o26.1) hx hb hr (fun t ht hW => ⟨⟨o26.1, (), rfl, rfl, by rw [ht]; exact hP9, va_K.moved hW.alike hK, hD9⟩, hS.F ht⟩) hS.2.2 dG_apply_180
  rw [if_neg hc25] at hf
  by_cases hc29 : x0 = 7
  · rw [if_pos hc29] at hf
    refine lv_tableIn (off := 180) (tgt := 181) hx hb dG_apply_1 (by rw [hc29]; decide) (by rw [hc29]; decide) (by rw [hc29]; decide) (by decide) ?_
    refine lv_aload_n hx hb dG_apply_181 rfl (lv_at hl 1 rfl) ?_
    refine lv_aload_n hx hb dG_apply_182 rfl (lv_at hl 2 rfl) ?_
    refine lv_aload hx hb dG_apply_183 (lv_at hl 4 rfl) ?_
    obtain ⟨o30, hq31, hf⟩ := xbind hf
    obtain ⟨hPc, hDc, hFc⟩ := xcut (wc := [(a0, .inr (2, [.ref a1, .int v1, .int v2])), (a1, .inl (cT 2, 4096, .inr (.inl f0))), (a2, .inr (1, [.ref a3, .int v4, .int v5])), (a3, .inl (cT 0, 4096, .inl f3)), (a9, .inr (2, [.ref a10, .int v14, .int v15])), (a10, .inl (cT 2, 4096, .inr (.inl f13)))]) hP hD hS hA [0, 1, 2, 3, 9, 10] rfl rfl (by decide)
    refine va_calli (va_runS (As := [.ref a0, .ref a2, .ref a9]) (rest := []) ⟨hx, hb, hml, hown, htx⟩ (gG_fromJson l hl9 D cT aK aV s.heap.size d n a0 a1 a2 a3 a9 a10 f0 v1 v2 f3 v4 v5 f13 v14 v15 o30 hq31) ⟨callB_of 3 htx (xw_goodC kw_4_110) rfl rfl rfl (htx _ kw_1_26) (htx _ kw_4_108) ⟨by decide, by decide, by decide +kernel⟩ ⟨(by show (16 * d + 3) + 1 ≤ 16 * d + 5; omega), (by show 8 + (3 + 11) + (400 * d + 68) ≤ 400 * d + 151; omega)⟩, htx _ kw_4_109⟩ ⟨xPre_blind, (fun U hU hW => ⟨rfl, xPre_of hZ hS hFc hPc hDc hK U hU hW⟩)⟩ rfl rfl hl.1 rfl (lv_room (Nat.le_of_ble_eq_true rfl)) dG_apply_185 ⟨Nat.le_of_ble_eq_true rfl, Nat.le_of_ble_eq_true rfl⟩) hS (fun q _ h => hFc q h) hFc (fun r32 u9 t H1 locs ht hvm hr9 hB hz1 hk1 hS => ?_)
    obtain ⟨hP1, hK1, hD1⟩ := hB
    rw [ht] at hP1
    obtain ⟨hP, hD⟩ := xjoin (W := [(a4, .inr (3, [.ref a5, .ref a6, .ref p8, .ref p10, .int v12])), (a5, .inl (cT 1, 2048, .inl f6)), (a6, .inl (cT 1, 2048, .inl f7)), (p8, .inl (cT 1, 2048, .inl f9)), (p10, .inl (cT 1, 2048, .inl f11)), (a0, .inr (2, [.ref a1, .int v1, .int v2])), (a1, .inl (cT 2, 4096, .inr (.inl f0))), (a2, .inr (1, [.ref a3, .int o30.2.2.1, .int o30.2.2.2.1])), (a3, .inl (cT 0, 4096, .inl o30.2.1)), (a9, .inr (2, [.ref a10, .int o30.2.2.2.2.2.1, .int o30.2.2.2.2.2.2])), (a10, .inl (cT 2, 4096, .inr (.inl o30.2.2.2.2.1)))]) hP hD [0, 1, 2, 3, 9, 10] [4, 5, 6, 7, 8] 5 rfl rfl (by decide) (by decide) hk1 hFc hP1 hD1
    generalize H1 = H at hP hS ⊢
    rw [hr9]
    refine W.eq (g2 := F0 m 188 ls [.int o30.1]) rfl ?_
    obtain rfl := Option.some.inj hf
    obtain ⟨hP9, hD9⟩ := xsub (wc := [(a0, .inr (2, [.ref a1, .int v1, .int v2])), (a1, .inl (cT 2, 4096, .inr (.inl f0))), (a2, .inr (1, [.ref a3, .int o30.2.2.1, .int o30.2.2.2.1])), (a3, .inl (cT 0, 4096, .inl o30.2.1)), (a4, .inr (3, [.ref a5, .ref a6, .ref p8, .ref p10, .int v12])), (a5, .inl (cT 1, 2048, .inl f6)), (a6, .inl (cT 1, 2048, .inl f7)), (p8, .inl (cT 1, 2048, .inl f9)), (p10, .inl (cT 1, 2048, .inl f11)), (a9, .inr (2, [.ref a10, .int o30.2.2.2.2.2.1, .int o30.2.2.2.2.2.2])), (a10, .inl (cT 2, 4096, .inr (.inl o30.2.2.2.2.1)))]) hP hD [5, 6, 7, 8, 0, 1, 2, 3, 4, 9, 10] rfl rfl (by decide)
    refine W.widen (k := 1) (n := 4) (Nat.le_of_ble_eq_true rfl) (Nat.le_of_ble_eq_true rfl) ?_
    exact W.iret (v := o30.1) hx hb hr (fun t ht hW => ⟨⟨o30.1, (), rfl, rfl, by rw [ht]; exact hP9, va_K.moved hW.alike hK, hD9⟩, hS.F ht⟩) hS.2.2 dG_apply_188
  rw [if_neg hc29] at hf
  by_cases hc33 : x0 = 8
  · rw [if_pos hc33] at hf
    refine lv_tableIn (off := 188) (tgt := 189) hx hb dG_apply_1 (by rw [hc33]; decide) (by rw [hc33]; decide) (by rw [hc33]; decide) (by decide) ?_
    refine lv_aload_n hx hb dG_apply_189 rfl (lv_at hl 1 rfl) ?_
    refine lv_iconst (v := 0) hx hb dG_apply_190 (by decide) ?_
    refine lv_iconst (v := 5) hx hb dG_apply_191 (by decide) ?_
    obtain ⟨o34, hq35, hf⟩ := xbind hf
    obtain ⟨hPc, hDc, hFc⟩ := xcut (wc := [(a0, .inr (2, [.ref a1, .int v1, .int v2])), (a1, .inl (cT 2, 4096, .inr (.inl f0)))]) hP hD hS hA [0, 1] rfl rfl (by decide)
    refine va_calli (va_runV (C := "ValueBench$Row") (As := [.int 0, .int 5]) (rest := []) ⟨hx, hb, hml, hown, htx⟩ (gR_is l hl9 D cT aK aV s.heap.size n a0 a1 (0 : Int32) (5 : Int32) f0 v1 v2 o34 hq35) ⟨callB_of 2 htx (xw_goodC kw_3_75) rfl rfl rfl (htx _ kw_1_4) (htx _ kw_4_29) ⟨by decide, by decide, by decide +kernel⟩ ⟨Nat.le_of_ble_eq_true rfl, Nat.le_of_ble_eq_true rfl⟩, (htx _ kw_3_73), (htx _ kw_3_74)⟩ ⟨xPre_blind, va_recv hK hP (ci := 2) rfl (q0 := 0) rfl, (fun U hU hW => ⟨rfl, xPre_of hZ hS hFc hPc hDc hK U hU hW⟩)⟩ rfl rfl hl.1 rfl (lv_room (Nat.le_of_ble_eq_true rfl)) dG_apply_192 ⟨Nat.le_of_ble_eq_true rfl, Nat.le_of_ble_eq_true rfl⟩) hS (fun q _ h => hFc q h) hFc (fun r36 u9 t H1 locs ht hvm hr9 hB hz1 hk1 hS => ?_)
    obtain ⟨hP1, hK1, hD1⟩ := hB
    rw [ht] at hP1
    obtain ⟨hP, hD⟩ := xjoin (W := [(a2, .inr (1, [.ref a3, .int v4, .int v5])), (a3, .inl (cT 0, 4096, .inl f3)), (a4, .inr (3, [.ref a5, .ref a6, .ref p8, .ref p10, .int v12])), (a5, .inl (cT 1, 2048, .inl f6)), (a6, .inl (cT 1, 2048, .inl f7)), (p8, .inl (cT 1, 2048, .inl f9)), (p10, .inl (cT 1, 2048, .inl f11)), (a9, .inr (2, [.ref a10, .int v14, .int v15])), (a10, .inl (cT 2, 4096, .inr (.inl f13))), (a0, .inr (2, [.ref a1, .int v1, .int v2])), (a1, .inl (cT 2, 4096, .inr (.inl f0)))]) hP hD [0, 1] [2, 3, 4, 5, 6, 7, 8, 9, 10] 9 rfl rfl (by decide) (by decide) hk1 hFc hP1 hD1
    generalize H1 = H at hP hS ⊢
    rw [hr9]
    refine W.eq (g2 := F0 m 195 ls [.int o34]) rfl ?_
    refine lv_if_eq (tgt := 208) hx hb dG_apply_195 (by decide) (fun hc => ?_) (fun hc => ?_)
    · rw [if_pos hc] at hf
      refine lv_iconst (v := 1) hx hb dG_apply_208 (by decide) ?_
      obtain rfl := Option.some.inj hf
      obtain ⟨hP9, hD9⟩ := xsub (wc := [(a0, .inr (2, [.ref a1, .int v1, .int v2])), (a1, .inl (cT 2, 4096, .inr (.inl f0))), (a2, .inr (1, [.ref a3, .int v4, .int v5])), (a3, .inl (cT 0, 4096, .inl f3)), (a4, .inr (3, [.ref a5, .ref a6, .ref p8, .ref p10, .int v12])), (a5, .inl (cT 1, 2048, .inl f6)), (a6, .inl (cT 1, 2048, .inl f7)), (p8, .inl (cT 1, 2048, .inl f9)), (p10, .inl (cT 1, 2048, .inl f11)), (a9, .inr (2, [.ref a10, .int v14, .int v15])), (a10, .inl (cT 2, 4096, .inr (.inl f13)))]) hP hD [9, 10, 0, 1, 2, 3, 4, 5, 6, 7, 8] rfl rfl (by decide)
      refine W.widen (k := 1) (n := 4) (Nat.le_of_ble_eq_true rfl) (Nat.le_of_ble_eq_true rfl) ?_
      exact W.iret (v := (1 : Int32)) hx hb hr (fun t ht hW => ⟨⟨(1 : Int32), (), rfl, rfl, by rw [ht]; exact hP9, va_K.moved hW.alike hK, hD9⟩, hS.F ht⟩) hS.2.2 dG_apply_209
    · rw [if_neg hc] at hf
      refine lv_aload_n hx hb dG_apply_198 rfl (lv_at hl 1 rfl) ?_
      refine lv_aload_n hx hb dG_apply_199 rfl (lv_at hl 3 rfl) ?_
      refine lv_aload hx hb dG_apply_200 (lv_at hl 4 rfl) ?_
      obtain ⟨o37, hq38, hf⟩ := xbind hf
      obtain ⟨hPc, hDc, hFc⟩ := xcut (wc := [(a0, .inr (2, [.ref a1, .int v1, .int v2])), (a1, .inl (cT 2, 4096, .inr (.inl f0))), (a4, .inr (3, [.ref a5, .ref a6, .ref p8, .ref p10, .int v12])), (a5, .inl (cT 1, 2048, .inl f6)), (a6, .inl (cT 1, 2048, .inl f7)), (p8, .inl (cT 1, 2048, .inl f9)), (p10, .inl (cT 1, 2048, .inl f11)), (a9, .inr (2, [.ref a10, .int v14, .int v15])), (a10, .inl (cT 2, 4096, .inr (.inl f13)))]) hP hD hS hA [9, 10, 2, 3, 4, 5, 6, 7, 8] rfl rfl (by decide)
      refine va_calli (va_runS (As := [.ref a0, .ref a4, .ref a9]) (rest := []) ⟨hx, hb, hml, hown, htx⟩ (gG_sorted l hl9 D cT aK aV H.size d n a0 a1 a4 a5 a6 a9 a10 f0 v1 v2 f6 f7 p8 f9 p10 f11 v12 f13 v14 v15 o37 hq38) ⟨callB_of 3 htx (xw_goodC kw_4_45) rfl rfl rfl (htx _ kw_1_26) (htx _ kw_4_43) ⟨by decide, by decide, by decide +kernel⟩ ⟨(by show (16 * d + 4) + 1 ≤ 16 * d + 5; omega), (by show 8 + (5 + 11) + (400 * d + 105) ≤ 400 * d + 151; omega)⟩, htx _ kw_4_44⟩ ⟨xPre_blind, (fun U hU hW => ⟨rfl, xPre_of hZ hS hFc hPc hDc hK U hU hW⟩)⟩ rfl rfl hl.1 rfl (lv_room (Nat.le_of_ble_eq_true rfl)) dG_apply_202 ⟨Nat.le_of_ble_eq_true rfl, Nat.le_of_ble_eq_true rfl⟩) hS (fun q _ h => hFc q h) hFc (fun r39 u9 t H1 locs ht hvm hr9 hB hz1 hk1 hS => ?_)
      obtain ⟨hP1, hK1, hD1⟩ := hB
      rw [ht] at hP1
      obtain ⟨hP, hD⟩ := xjoin (W := [(a2, .inr (1, [.ref a3, .int v4, .int v5])), (a3, .inl (cT 0, 4096, .inl f3)), (a0, .inr (2, [.ref a1, .int v1, .int v2])), (a1, .inl (cT 2, 4096, .inr (.inl f0))), (a4, .inr (3, [.ref a5, .ref a6, .ref o37.2.2.2.1, .ref o37.2.2.2.2.2.1, .int o37.2.2.2.2.2.2.1])), (a5, .inl (cT 1, 2048, .inl o37.2.1)), (a6, .inl (cT 1, 2048, .inl f7)), (o37.2.2.2.1, .inl (cT 1, 2048, .inl o37.2.2.1)), (o37.2.2.2.2.2.1, .inl (cT 1, 2048, .inl o37.2.2.2.2.1)), (a9, .inr (2, [.ref a10, .int o37.2.2.2.2.2.2.2.2.1, .int o37.2.2.2.2.2.2.2.2.2])), (a10, .inl (cT 2, 4096, .inr (.inl o37.2.2.2.2.2.2.2.1)))]) hP hD [9, 10, 2, 3, 4, 5, 6, 7, 8] [0, 1] 2 rfl rfl (by decide) (by decide) hk1 hFc hP1 hD1
      generalize H1 = H at hP hS ⊢
      rw [hr9]
      refine W.eq (g2 := F0 m 205 ls [.int o37.1]) rfl ?_
      refine lv_goto (tgt := 209) hx hb dG_apply_205 (by decide) ?_
      obtain rfl := Option.some.inj hf
      obtain ⟨hP9, hD9⟩ := xsub (wc := [(a0, .inr (2, [.ref a1, .int v1, .int v2])), (a1, .inl (cT 2, 4096, .inr (.inl f0))), (a2, .inr (1, [.ref a3, .int v4, .int v5])), (a3, .inl (cT 0, 4096, .inl f3)), (a4, .inr (3, [.ref a5, .ref a6, .ref o37.2.2.2.1, .ref o37.2.2.2.2.2.1, .int o37.2.2.2.2.2.2.1])), (a5, .inl (cT 1, 2048, .inl o37.2.1)), (a6, .inl (cT 1, 2048, .inl f7)), (o37.2.2.2.1, .inl (cT 1, 2048, .inl o37.2.2.1)), (o37.2.2.2.2.2.1, .inl (cT 1, 2048, .inl o37.2.2.2.2.1)), (a9, .inr (2, [.ref a10, .int o37.2.2.2.2.2.2.2.2.1, .int o37.2.2.2.2.2.2.2.2.2])), (a10, .inl (cT 2, 4096, .inr (.inl o37.2.2.2.2.2.2.2.1)))]) hP hD [2, 3, 0, 1, 4, 5, 6, 7, 8, 9, 10] rfl rfl (by decide)
      refine W.widen (k := 1) (n := 4) (Nat.le_of_ble_eq_true rfl) (Nat.le_of_ble_eq_true rfl) ?_
      exact W.iret (v := o37.1) hx hb hr (fun t ht hW => ⟨⟨o37.1, (), rfl, rfl, by rw [ht]; exact hP9, va_K.moved hW.alike hK, hD9⟩, hS.F ht⟩) hS.2.2 dG_apply_209
  rw [if_neg hc33] at hf
  by_cases hc37 : x0 = 9
  · rw [if_pos hc37] at hf
    refine lv_tableIn (off := 209) (tgt := 210) hx hb dG_apply_1 (by rw [hc37]; decide) (by rw [hc37]; decide) (by rw [hc37]; decide) (by decide) ?_
    refine lv_aload_n hx hb dG_apply_210 rfl (lv_at hl 1 rfl) ?_
    refine lv_aload_n hx hb dG_apply_211 rfl (lv_at hl 3 rfl) ?_
    refine lv_aload hx hb dG_apply_212 (lv_at hl 4 rfl) ?_
    obtain ⟨o38, hq39, hf⟩ := xbind hf
    obtain ⟨hPc, hDc, hFc⟩ := xcut (wc := [(a0, .inr (2, [.ref a1, .int v1, .int v2])), (a1, .inl (cT 2, 4096, .inr (.inl f0))), (a4, .inr (3, [.ref a5, .ref a6, .ref p8, .ref p10, .int v12])), (a5, .inl (cT 1, 2048, .inl f6)), (a6, .inl (cT 1, 2048, .inl f7)), (p8, .inl (cT 1, 2048, .inl f9)), (p10, .inl (cT 1, 2048, .inl f11)), (a9, .inr (2, [.ref a10, .int v14, .int v15])), (a10, .inl (cT 2, 4096, .inr (.inl f13)))]) hP hD hS hA [0, 1, 4, 5, 6, 7, 8, 9, 10] rfl rfl (by decide)
    refine va_calli (va_runS (As := [.ref a0, .ref a4, .ref a9]) (rest := []) ⟨hx, hb, hml, hown, htx⟩ (gG_reversed l hl9 D cT aK aV s.heap.size n a0 a1 a4 a5 a6 a9 a10 f0 v1 v2 f6 f7 p8 f9 p10 f11 v12 f13 v14 v15 o38 hq39) ⟨callB_of 3 htx (xw_goodC kw_4_114) rfl rfl rfl (htx _ kw_1_26) (htx _ kw_4_112) ⟨by decide, by decide, by decide +kernel⟩ ⟨Nat.le_of_ble_eq_true rfl, Nat.le_of_ble_eq_true rfl⟩, htx _ kw_4_113⟩ ⟨xPre_blind, (fun U hU hW => ⟨rfl, xPre_of hZ hS hFc hPc hDc hK U hU hW⟩)⟩ rfl rfl hl.1 rfl (lv_room (Nat.le_of_ble_eq_true rfl)) dG_apply_214 ⟨Nat.le_of_ble_eq_true rfl, Nat.le_of_ble_eq_true rfl⟩) hS (fun q _ h => hFc q h) hFc (fun r40 u9 t H1 locs ht hvm hr9 hB hz1 hk1 hS => ?_)
    obtain ⟨hP1, hK1, hD1⟩ := hB
    rw [ht] at hP1
    obtain ⟨hP, hD⟩ := xjoin (W := [(a2, .inr (1, [.ref a3, .int v4, .int v5])), (a3, .inl (cT 0, 4096, .inl f3)), (a0, .inr (2, [.ref a1, .int v1, .int v2])), (a1, .inl (cT 2, 4096, .inr (.inl f0))), (a4, .inr (3, [.ref a5, .ref a6, .ref p8, .ref p10, .int o38.2.2.2.1])), (a5, .inl (cT 1, 2048, .inl o38.2.1)), (a6, .inl (cT 1, 2048, .inl f7)), (p8, .inl (cT 1, 2048, .inl o38.2.2.1)), (p10, .inl (cT 1, 2048, .inl f11)), (a9, .inr (2, [.ref a10, .int o38.2.2.2.2.2.1, .int o38.2.2.2.2.2.2])), (a10, .inl (cT 2, 4096, .inr (.inl o38.2.2.2.2.1)))]) hP hD [0, 1, 4, 5, 6, 7, 8, 9, 10] [2, 3] 2 rfl rfl (by decide) (by decide) hk1 hFc hP1 hD1
    generalize H1 = H at hP hS ⊢
    rw [hr9]
    refine W.eq (g2 := F0 m 217 ls [.int o38.1]) rfl ?_
    obtain rfl := Option.some.inj hf
    obtain ⟨hP9, hD9⟩ := xsub (wc := [(a0, .inr (2, [.ref a1, .int v1, .int v2])), (a1, .inl (cT 2, 4096, .inr (.inl f0))), (a2, .inr (1, [.ref a3, .int v4, .int v5])), (a3, .inl (cT 0, 4096, .inl f3)), (a4, .inr (3, [.ref a5, .ref a6, .ref p8, .ref p10, .int o38.2.2.2.1])), (a5, .inl (cT 1, 2048, .inl o38.2.1)), (a6, .inl (cT 1, 2048, .inl f7)), (p8, .inl (cT 1, 2048, .inl o38.2.2.1)), (p10, .inl (cT 1, 2048, .inl f11)), (a9, .inr (2, [.ref a10, .int o38.2.2.2.2.2.1, .int o38.2.2.2.2.2.2])), (a10, .inl (cT 2, 4096, .inr (.inl o38.2.2.2.2.1)))]) hP hD [2, 3, 0, 1, 4, 5, 6, 7, 8, 9, 10] rfl rfl (by decide)
    refine W.widen (k := 1) (n := 4) (Nat.le_of_ble_eq_true rfl) (Nat.le_of_ble_eq_true rfl) ?_
    exact W.iret (v := o38.1) hx hb hr (fun t ht hW => ⟨⟨o38.1, (), rfl, rfl, by rw [ht]; exact hP9, va_K.moved hW.alike hK, hD9⟩, hS.F ht⟩) hS.2.2 dG_apply_217
  rw [if_neg hc37] at hf
  by_cases hc41 : x0 = 10
  · rw [if_pos hc41] at hf
    refine lv_tableIn (off := 217) (tgt := 218) hx hb dG_apply_1 (by rw [hc41]; decide) (by rw [hc41]; decide) (by rw [hc41]; decide) (by decide) ?_
    refine lv_aload_n hx hb dG_apply_218 rfl (lv_at hl 1 rfl) ?_
    refine lv_aload hx hb dG_apply_219 (lv_at hl 4 rfl) ?_
    obtain ⟨o42, hq43, hf⟩ := xbind hf
    obtain ⟨hPc, hDc, hFc⟩ := xcut (wc := [(a0, .inr (2, [.ref a1, .int v1, .int v2])), (a1, .inl (cT 2, 4096, .inr (.inl f0))), (a9, .inr (2, [.ref a10, .int v14, .int v15])), (a10, .inl (cT 2, 4096, .inr (.inl f13)))]) hP hD hS hA [0, 1, 9, 10] rfl rfl (by decide)
    refine va_calli (va_runS (As := [.ref a0, .ref a9]) (rest := []) ⟨hx, hb, hml, hown, htx⟩ (gG_codes l hl9 D cT aK aV s.heap.size n a0 a1 a9 a10 f0 v1 v2 f13 v14 v15 o42 hq43) ⟨callB_of 2 htx (xw_goodC kw_4_126) rfl rfl rfl (htx _ kw_1_26) (htx _ kw_4_124) ⟨by decide, by decide, by decide +kernel⟩ ⟨Nat.le_of_ble_eq_true rfl, Nat.le_of_ble_eq_true rfl⟩, htx _ kw_4_125⟩ ⟨xPre_blind, (fun U hU hW => ⟨rfl, xPre_of hZ hS hFc hPc hDc hK U hU hW⟩)⟩ rfl rfl hl.1 rfl (lv_room (Nat.le_of_ble_eq_true rfl)) dG_apply_221 ⟨Nat.le_of_ble_eq_true rfl, Nat.le_of_ble_eq_true rfl⟩) hS (fun q _ h => hFc q h) hFc (fun r44 u9 t H1 locs ht hvm hr9 hB hz1 hk1 hS => ?_)
    obtain ⟨hP1, hK1, hD1⟩ := hB
    rw [ht] at hP1
    obtain ⟨hP, hD⟩ := xjoin (W := [(a2, .inr (1, [.ref a3, .int v4, .int v5])), (a3, .inl (cT 0, 4096, .inl f3)), (a4, .inr (3, [.ref a5, .ref a6, .ref p8, .ref p10, .int v12])), (a5, .inl (cT 1, 2048, .inl f6)), (a6, .inl (cT 1, 2048, .inl f7)), (p8, .inl (cT 1, 2048, .inl f9)), (p10, .inl (cT 1, 2048, .inl f11)), (a0, .inr (2, [.ref a1, .int v1, .int v2])), (a1, .inl (cT 2, 4096, .inr (.inl f0))), (a9, .inr (2, [.ref a10, .int o42.2.2.1, .int o42.2.2.2])), (a10, .inl (cT 2, 4096, .inr (.inl o42.2.1)))]) hP hD [0, 1, 9, 10] [2, 3, 4, 5, 6, 7, 8] 7 rfl rfl (by decide) (by decide) hk1 hFc hP1 hD1
    generalize H1 = H at hP hS ⊢
    rw [hr9]
    refine W.eq (g2 := F0 m 224 ls [.int o42.1]) rfl ?_
    obtain rfl := Option.some.inj hf
    obtain ⟨hP9, hD9⟩ := xsub (wc := [(a0, .inr (2, [.ref a1, .int v1, .int v2])), (a1, .inl (cT 2, 4096, .inr (.inl f0))), (a2, .inr (1, [.ref a3, .int v4, .int v5])), (a3, .inl (cT 0, 4096, .inl f3)), (a4, .inr (3, [.ref a5, .ref a6, .ref p8, .ref p10, .int v12])), (a5, .inl (cT 1, 2048, .inl f6)), (a6, .inl (cT 1, 2048, .inl f7)), (p8, .inl (cT 1, 2048, .inl f9)), (p10, .inl (cT 1, 2048, .inl f11)), (a9, .inr (2, [.ref a10, .int o42.2.2.1, .int o42.2.2.2])), (a10, .inl (cT 2, 4096, .inr (.inl o42.2.1)))]) hP hD [7, 8, 0, 1, 2, 3, 4, 5, 6, 9, 10] rfl rfl (by decide)
    refine W.widen (k := 1) (n := 4) (Nat.le_of_ble_eq_true rfl) (Nat.le_of_ble_eq_true rfl) ?_
    exact W.iret (v := o42.1) hx hb hr (fun t ht hW => ⟨⟨o42.1, (), rfl, rfl, by rw [ht]; exact hP9, va_K.moved hW.alike hK, hD9⟩, hS.F ht⟩) hS.2.2 dG_apply_224
  rw [if_neg hc41] at hf
  by_cases hc45 : x0 = 11
  · rw [if_pos hc45] at hf
    refine lv_tableIn (off := 224) (tgt := 225) hx hb dG_apply_1 (by rw [hc45]; decide) (by rw [hc45]; decide) (by rw [hc45]; decide) (by decide) ?_
    refine lv_aload_n hx hb dG_apply_225 rfl (lv_at hl 1 rfl) ?_
    refine lv_aload hx hb dG_apply_226 (lv_at hl 4 rfl) ?_
    obtain ⟨o46, hq47, hf⟩ := xbind hf
    obtain ⟨hPc, hDc, hFc⟩ := xcut (wc := [(a0, .inr (2, [.ref a1, .int v1, .int v2])), (a1, .inl (cT 2, 4096, .inr (.inl f0))), (a9, .inr (2, [.ref a10, .int v14, .int v15])), (a10, .inl (cT 2, 4096, .inr (.inl f13)))]) hP hD hS hA [0, 1, 9, 10] rfl rfl (by decide)
    refine va_calli (va_runS (As := [.ref a0, .ref a9]) (rest := []) ⟨hx, hb, hml, hown, htx⟩ (gG_ofCodes l hl9 D cT aK aV s.heap.size n a0 a1 a9 a10 f0 v1 v2 f13 v14 v15 o46 hq47) ⟨callB_of 2 htx (xw_goodC kw_4_129) rfl rfl rfl (htx _ kw_1_26) (htx _ kw_4_127) ⟨by decide, by decide, by decide +kernel⟩ ⟨Nat.le_of_ble_eq_true rfl, Nat.le_of_ble_eq_true rfl⟩, htx _ kw_4_128⟩ ⟨xPre_blind, (fun U hU hW => ⟨rfl, xPre_of hZ hS hFc hPc hDc hK U hU hW⟩)⟩ rfl rfl hl.1 rfl (lv_room (Nat.le_of_ble_eq_true rfl)) dG_apply_228 ⟨Nat.le_of_ble_eq_true rfl, Nat.le_of_ble_eq_true rfl⟩) hS (fun q _ h => hFc q h) hFc (fun r48 u9 t H1 locs ht hvm hr9 hB hz1 hk1 hS => ?_)
    obtain ⟨hP1, hK1, hD1⟩ := hB
    rw [ht] at hP1
    obtain ⟨hP, hD⟩ := xjoin (W := [(a2, .inr (1, [.ref a3, .int v4, .int v5])), (a3, .inl (cT 0, 4096, .inl f3)), (a4, .inr (3, [.ref a5, .ref a6, .ref p8, .ref p10, .int v12])), (a5, .inl (cT 1, 2048, .inl f6)), (a6, .inl (cT 1, 2048, .inl f7)), (p8, .inl (cT 1, 2048, .inl f9)), (p10, .inl (cT 1, 2048, .inl f11)), (a0, .inr (2, [.ref a1, .int v1, .int v2])), (a1, .inl (cT 2, 4096, .inr (.inl f0))), (a9, .inr (2, [.ref a10, .int o46.2.2.1, .int o46.2.2.2])), (a10, .inl (cT 2, 4096, .inr (.inl o46.2.1)))]) hP hD [0, 1, 9, 10] [2, 3, 4, 5, 6, 7, 8] 7 rfl rfl (by decide) (by decide) hk1 hFc hP1 hD1
    generalize H1 = H at hP hS ⊢
    rw [hr9]
    refine W.eq (g2 := F0 m 231 ls [.int o46.1]) rfl ?_
    obtain rfl := Option.some.inj hf
    obtain ⟨hP9, hD9⟩ := xsub (wc := [(a0, .inr (2, [.ref a1, .int v1, .int v2])), (a1, .inl (cT 2, 4096, .inr (.inl f0))), (a2, .inr (1, [.ref a3, .int v4, .int v5])), (a3, .inl (cT 0, 4096, .inl f3)), (a4, .inr (3, [.ref a5, .ref a6, .ref p8, .ref p10, .int v12])), (a5, .inl (cT 1, 2048, .inl f6)), (a6, .inl (cT 1, 2048, .inl f7)), (p8, .inl (cT 1, 2048, .inl f9)), (p10, .inl (cT 1, 2048, .inl f11)), (a9, .inr (2, [.ref a10, .int o46.2.2.1, .int o46.2.2.2])), (a10, .inl (cT 2, 4096, .inr (.inl o46.2.1)))]) hP hD [7, 8, 0, 1, 2, 3, 4, 5, 6, 9, 10] rfl rfl (by decide)
    refine W.widen (k := 1) (n := 4) (Nat.le_of_ble_eq_true rfl) (Nat.le_of_ble_eq_true rfl) ?_
    exact W.iret (v := o46.1) hx hb hr (fun t ht hW => ⟨⟨o46.1, (), rfl, rfl, by rw [ht]; exact hP9, va_K.moved hW.alike hK, hD9⟩, hS.F ht⟩) hS.2.2 dG_apply_231
  rw [if_neg hc45] at hf
  by_cases hc49 : x0 = 12
  · rw [if_pos hc49] at hf
    refine lv_tableIn (off := 231) (tgt := 232) hx hb dG_apply_1 (by rw [hc49]; decide) (by rw [hc49]; decide) (by rw [hc49]; decide) (by decide) ?_
    refine lv_aload_n hx hb dG_apply_232 rfl (lv_at hl 1 rfl) ?_
    refine lv_bipush (v := 65) hx hb dG_apply_233 (by decide) ?_
    refine lv_bipush (v := 32) hx hb dG_apply_235 (by decide) ?_
    refine lv_aload hx hb dG_apply_237 (lv_at hl 4 rfl) ?_
    obtain ⟨o50, hq51, hf⟩ := xbind hf
    obtain ⟨hPc, hDc, hFc⟩ := xcut (wc := [(a0, .inr (2, [.ref a1, .int v1, .int v2])), (a1, .inl (cT 2, 4096, .inr (.inl f0))), (a9, .inr (2, [.ref a10, .int v14, .int v15])), (a10, .inl (cT 2, 4096, .inr (.inl f13)))]) hP hD hS hA [0, 1, 9, 10] rfl rfl (by decide)
    refine va_calli (va_runS (As := [.ref a0, .int 65, .int 32, .ref a9]) (rest := []) ⟨hx, hb, hml, hown, htx⟩ (gG_inCase l hl9 D cT aK aV s.heap.size n a0 a1 a9 a10 (65 : Int32) (32 : Int32) f0 v1 v2 f13 v14 v15 o50 hq51) ⟨callB_of 4 htx (xw_goodC kw_4_136) rfl rfl rfl (htx _ kw_1_26) (htx _ kw_4_134) ⟨by decide, by decide, by decide +kernel⟩ ⟨Nat.le_of_ble_eq_true rfl, Nat.le_of_ble_eq_true rfl⟩, htx _ kw_4_135⟩ ⟨xPre_blind, (fun U hU hW => ⟨rfl, xPre_of hZ hS hFc hPc hDc hK U hU hW⟩)⟩ rfl rfl hl.1 rfl (lv_room (Nat.le_of_ble_eq_true rfl)) dG_apply_239 ⟨Nat.le_of_ble_eq_true rfl, Nat.le_of_ble_eq_true rfl⟩) hS (fun q _ h => hFc q h) hFc (fun r52 u9 t H1 locs ht hvm hr9 hB hz1 hk1 hS => ?_)
    obtain ⟨hP1, hK1, hD1⟩ := hB
    rw [ht] at hP1
    obtain ⟨hP, hD⟩ := xjoin (W := [(a2, .inr (1, [.ref a3, .int v4, .int v5])), (a3, .inl (cT 0, 4096, .inl f3)), (a4, .inr (3, [.ref a5, .ref a6, .ref p8, .ref p10, .int v12])), (a5, .inl (cT 1, 2048, .inl f6)), (a6, .inl (cT 1, 2048, .inl f7)), (p8, .inl (cT 1, 2048, .inl f9)), (p10, .inl (cT 1, 2048, .inl f11)), (a0, .inr (2, [.ref a1, .int v1, .int v2])), (a1, .inl (cT 2, 4096, .inr (.inl f0))), (a9, .inr (2, [.ref a10, .int o50.2.2.1, .int o50.2.2.2])), (a10, .inl (cT 2, 4096, .inr (.inl o50.2.1)))]) hP hD [0, 1, 9, 10] [2, 3, 4, 5, 6, 7, 8] 7 rfl rfl (by decide) (by decide) hk1 hFc hP1 hD1
    generalize H1 = H at hP hS ⊢
    rw [hr9]
    refine W.eq (g2 := F0 m 242 ls [.int o50.1]) rfl ?_
    obtain rfl := Option.some.inj hf
    obtain ⟨hP9, hD9⟩ := xsub (wc := [(a0, .inr (2, [.ref a1, .int v1, .int v2])), (a1, .inl (cT 2, 4096, .inr (.inl f0))), (a2, .inr (1, [.ref a3, .int v4, .int v5])), (a3, .inl (cT 0, 4096, .inl f3)), (a4, .inr (3, [.ref a5, .ref a6, .ref p8, .ref p10, .int v12])), (a5, .inl (cT 1, 2048, .inl f6)), (a6, .inl (cT 1, 2048, .inl f7)), (p8, .inl (cT 1, 2048, .inl f9)), (p10, .inl (cT 1, 2048, .inl f11)), (a9, .inr (2, [.ref a10, .int o50.2.2.1, .int o50.2.2.2])), (a10, .inl (cT 2, 4096, .inr (.inl o50.2.1)))]) hP hD [7, 8, 0, 1, 2, 3, 4, 5, 6, 9, 10] rfl rfl (by decide)
    refine W.widen (k := 1) (n := 4) (Nat.le_of_ble_eq_true rfl) (Nat.le_of_ble_eq_true rfl) ?_
    exact W.iret (v := o50.1) hx hb hr (fun t ht hW => ⟨⟨o50.1, (), rfl, rfl, by rw [ht]; exact hP9, va_K.moved hW.alike hK, hD9⟩, hS.F ht⟩) hS.2.2 dG_apply_242
  rw [if_neg hc49] at hf
  refine lv_tableOut (tgt := 243) hx hb dG_apply_1 (by have e0 : x0.toInt ≠ 0 := xsw hc1 (by decide); have e1 : x0.toInt ≠ 1 := xsw hc5 (by decide); have e2 : x0.toInt ≠ 2 := xsw hc9 (by decide); have e3 : x0.toInt ≠ 3 := xsw hc13 (by decide); have e4 : x0.toInt ≠ 4 := xsw hc17 (by decide); have e5 : x0.toInt ≠ 5 := xsw hc21 (by decide); have e6 : x0.toInt ≠ 6 := xsw hc25 (by decide); have e7 : x0.toInt ≠ 7 := xsw hc29 (by decide); have e8 : x0.toInt ≠ 8 := xsw hc33 (by decide); have e9 : x0.toInt ≠ 9 := xsw hc37 (by decide); have e10 : x0.toInt ≠ 10 := xsw hc41 (by decide); have e11 : x0.toInt ≠ 11 := xsw hc45 (by decide); have e12 : x0.toInt ≠ 12 := xsw hc49 (by decide); omega) (by decide) ?_
  refine lv_aload_n hx hb dG_apply_243 rfl (lv_at hl 1 rfl) ?_
  refine lv_bipush (v := 97) hx hb dG_apply_244 (by decide) ?_
  refine lv_bipush (v := (-32)) hx hb dG_apply_246 (by decide) ?_
  refine lv_aload hx hb dG_apply_248 (lv_at hl 4 rfl) ?_
  obtain ⟨o53, hq54, hf⟩ := xbind hf
  obtain ⟨hPc, hDc, hFc⟩ := xcut (wc := [(a0, .inr (2, [.ref a1, .int v1, .int v2])), (a1, .inl (cT 2, 4096, .inr (.inl f0))), (a9, .inr (2, [.ref a10, .int v14, .int v15])), (a10, .inl (cT 2, 4096, .inr (.inl f13)))]) hP hD hS hA [0, 1, 9, 10] rfl rfl (by decide)
  refine va_calli (va_runS (As := [.ref a0, .int 97, .int (-32), .ref a9]) (rest := []) ⟨hx, hb, hml, hown, htx⟩ (gG_inCase l hl9 D cT aK aV s.heap.size n a0 a1 a9 a10 (97 : Int32) ((-32) : Int32) f0 v1 v2 f13 v14 v15 o53 hq54) ⟨callB_of 4 htx (xw_goodC kw_4_136) rfl rfl rfl (htx _ kw_1_26) (htx _ kw_4_134) ⟨by decide, by decide, by decide +kernel⟩ ⟨Nat.le_of_ble_eq_true rfl, Nat.le_of_ble_eq_true rfl⟩, htx _ kw_4_135⟩ ⟨xPre_blind, (fun U hU hW => ⟨rfl, xPre_of hZ hS hFc hPc hDc hK U hU hW⟩)⟩ rfl rfl hl.1 rfl (lv_room (Nat.le_of_ble_eq_true rfl)) dG_apply_250 ⟨Nat.le_of_ble_eq_true rfl, Nat.le_of_ble_eq_true rfl⟩) hS (fun q _ h => hFc q h) hFc (fun r55 u9 t H1 locs ht hvm hr9 hB hz1 hk1 hS => ?_)
  obtain ⟨hP1, hK1, hD1⟩ := hB
  rw [ht] at hP1
  obtain ⟨hP, hD⟩ := xjoin (W := [(a2, .inr (1, [.ref a3, .int v4, .int v5])), (a3, .inl (cT 0, 4096, .inl f3)), (a4, .inr (3, [.ref a5, .ref a6, .ref p8, .ref p10, .int v12])), (a5, .inl (cT 1, 2048, .inl f6)), (a6, .inl (cT 1, 2048, .inl f7)), (p8, .inl (cT 1, 2048, .inl f9)), (p10, .inl (cT 1, 2048, .inl f11)), (a0, .inr (2, [.ref a1, .int v1, .int v2])), (a1, .inl (cT 2, 4096, .inr (.inl f0))), (a9, .inr (2, [.ref a10, .int o53.2.2.1, .int o53.2.2.2])), (a10, .inl (cT 2, 4096, .inr (.inl o53.2.1)))]) hP hD [0, 1, 9, 10] [2, 3, 4, 5, 6, 7, 8] 7 rfl rfl (by decide) (by decide) hk1 hFc hP1 hD1
  generalize H1 = H at hP hS ⊢
  rw [hr9]
  refine W.eq (g2 := F0 m 253 ls [.int o53.1]) rfl ?_
  obtain rfl := Option.some.inj hf
  obtain ⟨hP9, hD9⟩ := xsub (wc := [(a0, .inr (2, [.ref a1, .int v1, .int v2])), (a1, .inl (cT 2, 4096, .inr (.inl f0))), (a2, .inr (1, [.ref a3, .int v4, .int v5])), (a3, .inl (cT 0, 4096, .inl f3)), (a4, .inr (3, [.ref a5, .ref a6, .ref p8, .ref p10, .int v12])), (a5, .inl (cT 1, 2048, .inl f6)), (a6, .inl (cT 1, 2048, .inl f7)), (p8, .inl (cT 1, 2048, .inl f9)), (p10, .inl (cT 1, 2048, .inl f11)), (a9, .inr (2, [.ref a10, .int o53.2.2.1, .int o53.2.2.2])), (a10, .inl (cT 2, 4096, .inr (.inl o53.2.1)))]) hP hD [7, 8, 0, 1, 2, 3, 4, 5, 6, 9, 10] rfl rfl (by decide)
  refine W.widen (k := 1) (n := 4) (Nat.le_of_ble_eq_true rfl) (Nat.le_of_ble_eq_true rfl) ?_
  exact W.iret (v := o53.1) hx hb hr (fun t ht hW => ⟨⟨o53.1, (), rfl, rfl, by rw [ht]; exact hP9, va_K.moved hW.alike hK, hD9⟩, hS.F ht⟩) hS.2.2 dG_apply_253
set_option maxHeartbeats 400000000 in
set_option maxRecDepth 100000 in
theorem gH_truth (l : Launch) (hl9 : l.stackTraces = false) (D : va_G) (cT : Nat → ClassId) (aK aV : Nat → Nat) (sz n : Nat) (a0 : Nat) (a1 : Nat) (x0 : Int32) (f0 : Nat → Int64) (v1 : Int32) (v2 : Int32) (out : Int32 × (Nat → Int64) × Int32 × Int32) (hf : fH_truth n x0 f0 v1 v2 = some out) : xMet l yH_truth wyH_truth 2 0 0 43 D cT aK aV sz [.int x0, .ref a0] [(a0, .inr (2, [.ref a1, .int v1, .int v2])), (a1, .inl (cT 2, 4096, .inr (.inl f0)))] (fun A => va_Qi (fun (r : Int32) (_ : Unit) => r = out.1) (fun _ t => xB D xcl cT A [(a0, .inr (2, [.ref a1, .int out.2.2.1, .int out.2.2.2])), (a1, .inl (cT 2, 4096, .inr (.inl out.2.1)))] t) A) := by
  refine Met.ofW (cc := prog_5_method_3_code) (maxL := 2) (ret := (some .int)) (by decide) rfl ?_
  intro p e s m args below meth c s₁ B hml hv
  obtain ⟨rfl, hsz, hZ, hP, hK, hD0⟩ := hv
  have hx := B.exec
  have hb := B.bytes
  have hr := B.returns
  have hts := atoms_spec (ws := wyH_truth) B.pre
  have htx := fun w h => hts w (List.mem_cons_of_mem _ h)
  have hown : s.vm.findClass "ValueBench$Pairs" = some m.cls := findClass_of_methodNamed B.named
  have hlocks := B.notSynchronized
  subst hsz
  have hD := hD0.self (sz := s.heap.size)
  generalize hAe : va_A [(a0, .inr (2, [.ref a1, .int v1, .int v2])), (a1, .inl (cT 2, 4096, .inr (.inl f0)))] s.heap.size = A at hD hZ ⊢
  have hA : ∀ q : Nat, s.heap.size ≤ q → A q := fun q h => by rw [← hAe]; exact Or.inr h
  have hS : va_S A s.heap s.heap [] := va_S.rf
  have hP : va_P D xcl [(a0, .inr (2, [.ref a1, .int v1, .int v2])), (a1, .inl (cT 2, 4096, .inr (.inl f0)))] s.heap := hP
  have hl := lv_entry ([.int x0, .ref a0]) (n := 2) (Nat.le_of_ble_eq_true rfl)
  rw [lg_entry_eq]
  generalize (lg_sl ([.int x0, .ref a0]) ++ List.replicate (2 - (lg_sl ([.int x0, .ref a0])).length) Slot.unset).toArray = ls at hl ⊢
  have hl : lv_has ls 2 [(0, .int x0), (1, .ref a0)] := hl
  unfold fH_truth at hf
  refine lv_aload_n hx hb dH_truth_0 rfl (lv_at hl 1 rfl) ?_
  refine lv_iload_n hx hb dH_truth_1 rfl (lv_at hl 0 rfl) ?_
  obtain ⟨o1, hq2, hf⟩ := xbind hf
  obtain ⟨hPc, hDc, hFc⟩ := xcut (wc := [(a0, .inr (2, [.ref a1, .int v1, .int v2])), (a1, .inl (cT 2, 4096, .inr (.inl f0)))]) hP hD hS hA [0, 1] rfl rfl (by decide)
  refine va_callv (va_runV (C := "ValueBench$Row") (As := [.int x0]) (rest := []) ⟨hx, hb, hml, hown, htx⟩ (gR_putTruth l hl9 D cT aK aV s.heap.size n a0 a1 x0 f0 v1 v2 o1 hq2) ⟨callB_of 1 htx (xw_goodC kw_4_33) rfl rfl rfl (htx _ kw_1_4) (htx _ kw_4_155) ⟨by decide, by decide, by decide +kernel⟩ ⟨Nat.le_of_ble_eq_true rfl, Nat.le_of_ble_eq_true rfl⟩, (htx _ kw_4_31), (htx _ kw_4_32)⟩ ⟨xPre_blind, va_recv hK hP (ci := 2) rfl (q0 := 0) rfl, (fun U hU hW => ⟨rfl, xPre_of hZ hS hFc hPc hDc hK U hU hW⟩)⟩ rfl rfl hl.1 rfl (lv_room (Nat.le_of_ble_eq_true rfl)) dH_truth_2 ⟨Nat.le_of_ble_eq_true rfl, Nat.le_of_ble_eq_true rfl⟩) hS (fun q _ h => hFc q h) hFc (fun u9 t H1 locs ht hvm hr9 hB hz1 hk1 hS => ?_)
  obtain ⟨hP1, hK1, hD1⟩ := hB
  rw [ht] at hP1
  obtain ⟨hP, hD⟩ := xjoin (W := [(a0, .inr (2, [.ref a1, .int o1.2.1, .int o1.2.2])), (a1, .inl (cT 2, 4096, .inr (.inl o1.1)))]) hP hD [0, 1] [] 0 rfl rfl (by decide) (by decide) hk1 hFc hP1 hD1
  generalize H1 = H at hP hS ⊢
  refine lv_iconst (v := 0) hx hb dH_truth_5 (by decide) ?_
  obtain rfl := Option.some.inj hf
  obtain ⟨hP9, hD9⟩ := xsub (wc := [(a0, .inr (2, [.ref a1, .int o1.2.1, .int o1.2.2])), (a1, .inl (cT 2, 4096, .inr (.inl o1.1)))]) hP hD [0, 1] rfl rfl (by decide)
  exact W.iret (v := (0 : Int32)) hx hb hr (fun t ht hW => ⟨⟨(0 : Int32), (), rfl, rfl, by rw [ht]; exact hP9, va_K.moved hW.alike hK, hD9⟩, hS.F ht⟩) hS.2.2 dH_truth_6
set_option maxHeartbeats 400000000 in
set_option maxRecDepth 100000 in
theorem gH_has (l : Launch) (hl9 : l.stackTraces = false) (D : va_G) (cT : Nat → ClassId) (aK aV : Nat → Nat) (sz n : Nat) (a0 : Nat) (a1 : Nat) (a2 : Nat) (a3 : Nat) (a4 : Nat) (a5 : Nat) (f0 : Nat → Int64) (v1 : Int32) (v2 : Int32) (f3 : Nat → Int64) (v4 : Int32) (v5 : Int32) (f6 : Nat → Int64) (v7 : Int32) (v8 : Int32) (out : Int32 × (Nat → Int64) × Int32 × Int32) (hf : fH_has n f0 v1 v2 f3 v4 v5 f6 v7 v8 = some out) : xMet l yH_has wyH_has 3 0 0 64 D cT aK aV sz [.ref a0, .ref a2, .ref a4] [(a0, .inr (2, [.ref a1, .int v1, .int v2])), (a1, .inl (cT 2, 4096, .inr (.inl f0))), (a2, .inr (2, [.ref a3, .int v4, .int v5])), (a3, .inl (cT 2, 4096, .inr (.inl f3))), (a4, .inr (2, [.ref a5, .int v7, .int v8])), (a5, .inl (cT 2, 4096, .inr (.inl f6)))] (fun A => va_Qi (fun (r : Int32) (_ : Unit) => r = out.1) (fun _ t => xB D xcl cT A [(a0, .inr (2, [.ref a1, .int v1, .int v2])), (a1, .inl (cT 2, 4096, .inr (.inl f0))), (a2, .inr (2, [.ref a3, .int v4, .int v5])), (a3, .inl (cT 2, 4096, .inr (.inl f3))), (a4, .inr (2, [.ref a5, .int out.2.2.1, .int out.2.2.2])), (a5, .inl (cT 2, 4096, .inr (.inl out.2.1)))] t) A) := by
  refine Met.ofW (cc := prog_5_method_7_code) (maxL := 3) (ret := (some .int)) (by decide) rfl ?_
  intro p e s m args below meth c s₁ B hml hv
  obtain ⟨rfl, hsz, hZ, hP, hK, hD0⟩ := hv
  have hx := B.exec
  have hb := B.bytes
  have hr := B.returns
  have hts := atoms_spec (ws := wyH_has) B.pre
  have htx := fun w h => hts w (List.mem_cons_of_mem _ h)
  have hown : s.vm.findClass "ValueBench$Pairs" = some m.cls := findClass_of_methodNamed B.named
  have hlocks := B.notSynchronized
  subst hsz
  have hD := hD0.self (sz := s.heap.size)
  generalize hAe : va_A [(a0, .inr (2, [.ref a1, .int v1, .int v2])), (a1, .inl (cT 2, 4096, .inr (.inl f0))), (a2, .inr (2, [.ref a3, .int v4, .int v5])), (a3, .inl (cT 2, 4096, .inr (.inl f3))), (a4, .inr (2, [.ref a5, .int v7, .int v8])), (a5, .inl (cT 2, 4096, .inr (.inl f6)))] s.heap.size = A at hD hZ ⊢
  have hA : ∀ q : Nat, s.heap.size ≤ q → A q := fun q h => by rw [← hAe]; exact Or.inr h
  have hS : va_S A s.heap s.heap [] := va_S.rf
  have hP : va_P D xcl [(a0, .inr (2, [.ref a1, .int v1, .int v2])), (a1, .inl (cT 2, 4096, .inr (.inl f0))), (a2, .inr (2, [.ref a3, .int v4, .int v5])), (a3, .inl (cT 2, 4096, .inr (.inl f3))), (a4, .inr (2, [.ref a5, .int v7, .int v8])), (a5, .inl (cT 2, 4096, .inr (.inl f6)))] s.heap := hP
  have hl := lv_entry ([.ref a0, .ref a2, .ref a4]) (n := 3) (Nat.le_of_ble_eq_true rfl)
  rw [lg_entry_eq]
  generalize (lg_sl ([.ref a0, .ref a2, .ref a4]) ++ List.replicate (3 - (lg_sl ([.ref a0, .ref a2, .ref a4])).length) Slot.unset).toArray = ls at hl ⊢
  have hl : lv_has ls 3 [(0, .ref a0), (1, .ref a2), (2, .ref a4)] := hl
  unfold fH_has at hf
  refine lv_aload_n hx hb dH_has_0 rfl (lv_at hl 0 rfl) ?_
  refine lv_iconst (v := 0) hx hb dH_has_1 (by decide) ?_
  refine lv_bipush (v := 6) hx hb dH_has_2 (by decide) ?_
  obtain ⟨o1, hq2, hf⟩ := xbind hf
  obtain ⟨hPc, hDc, hFc⟩ := xcut (wc := [(a0, .inr (2, [.ref a1, .int v1, .int v2])), (a1, .inl (cT 2, 4096, .inr (.inl f0)))]) hP hD hS hA [0, 1] rfl rfl (by decide)
  refine va_calli (va_runV (C := "ValueBench$Row") (As := [.int 0, .int 6]) (rest := []) ⟨hx, hb, hml, hown, htx⟩ (gR_is l hl9 D cT aK aV s.heap.size n a0 a1 (0 : Int32) (6 : Int32) f0 v1 v2 o1 hq2) ⟨callB_of 2 htx (xw_goodC kw_3_75) rfl rfl rfl (htx _ kw_1_4) (htx _ kw_4_150) ⟨by decide, by decide, by decide +kernel⟩ ⟨Nat.le_of_ble_eq_true rfl, Nat.le_of_ble_eq_true rfl⟩, (htx _ kw_3_73), (htx _ kw_3_74)⟩ ⟨xPre_blind, va_recv hK hP (ci := 2) rfl (q0 := 0) rfl, (fun U hU hW => ⟨rfl, xPre_of hZ hS hFc hPc hDc hK U hU hW⟩)⟩ rfl rfl hl.1 rfl (lv_room (Nat.le_of_ble_eq_true rfl)) dH_has_4 ⟨Nat.le_of_ble_eq_true rfl, Nat.le_of_ble_eq_true rfl⟩) hS (fun q _ h => hFc q h) hFc (fun r3 u9 t H1 locs ht hvm hr9 hB hz1 hk1 hS => ?_)
  obtain ⟨hP1, hK1, hD1⟩ := hB
  rw [ht] at hP1
  obtain ⟨hP, hD⟩ := xjoin (W := [(a2, .inr (2, [.ref a3, .int v4, .int v5])), (a3, .inl (cT 2, 4096, .inr (.inl f3))), (a4, .inr (2, [.ref a5, .int v7, .int v8])), (a5, .inl (cT 2, 4096, .inr (.inl f6))), (a0, .inr (2, [.ref a1, .int v1, .int v2])), (a1, .inl (cT 2, 4096, .inr (.inl f0)))]) hP hD [0, 1] [2, 3, 4, 5] 4 rfl rfl (by decide) (by decide) hk1 hFc hP1 hD1
  generalize H1 = H at hP hS ⊢
  rw [hr9]
  refine W.eq (g2 := F0 m 7 ls [.int o1]) rfl ?_
  refine lv_if_eq (tgt := 40) hx hb dH_has_7 (by decide) (fun hc => ?_) (fun hc => ?_)
  · rw [if_pos hc] at hf
    refine lv_aload_n hx hb dH_has_40 rfl (lv_at hl 0 rfl) ?_
    refine lv_iconst (v := 0) hx hb dH_has_41 (by decide) ?_
    refine lv_iconst (v := 5) hx hb dH_has_42 (by decide) ?_
    obtain ⟨o4, hq5, hf⟩ := xbind hf
    obtain ⟨hPc, hDc, hFc⟩ := xcut (wc := [(a0, .inr (2, [.ref a1, .int v1, .int v2])), (a1, .inl (cT 2, 4096, .inr (.inl f0)))]) hP hD hS hA [4, 5] rfl rfl (by decide)
    refine va_calli (va_runV (C := "ValueBench$Row") (As := [.int 0, .int 5]) (rest := []) ⟨hx, hb, hml, hown, htx⟩ (gR_is l hl9 D cT aK aV H.size n a0 a1 (0 : Int32) (5 : Int32) f0 v1 v2 o4 hq5) ⟨callB_of 2 htx (xw_goodC kw_3_75) rfl rfl rfl (htx _ kw_1_4) (htx _ kw_4_150) ⟨by decide, by decide, by decide +kernel⟩ ⟨Nat.le_of_ble_eq_true rfl, Nat.le_of_ble_eq_true rfl⟩, (htx _ kw_3_73), (htx _ kw_3_74)⟩ ⟨xPre_blind, va_recv hK hP (ci := 2) rfl (q0 := 4) rfl, (fun U hU hW => ⟨rfl, xPre_of hZ hS hFc hPc hDc hK U hU hW⟩)⟩ rfl rfl hl.1 rfl (lv_room (Nat.le_of_ble_eq_true rfl)) dH_has_43 ⟨Nat.le_of_ble_eq_true rfl, Nat.le_of_ble_eq_true rfl⟩) hS (fun q _ h => hFc q h) hFc (fun r6 u9 t H1 locs ht hvm hr9 hB hz1 hk1 hS => ?_)
    obtain ⟨hP1, hK1, hD1⟩ := hB
    rw [ht] at hP1
    obtain ⟨hP, hD⟩ := xjoin (W := [(a2, .inr (2, [.ref a3, .int v4, .int v5])), (a3, .inl (cT 2, 4096, .inr (.inl f3))), (a4, .inr (2, [.ref a5, .int v7, .int v8])), (a5, .inl (cT 2, 4096, .inr (.inl f6))), (a0, .inr (2, [.ref a1, .int v1, .int v2])), (a1, .inl (cT 2, 4096, .inr (.inl f0)))]) hP hD [4, 5] [0, 1, 2, 3] 4 rfl rfl (by decide) (by decide) hk1 hFc hP1 hD1
    generalize H1 = H at hP hS ⊢
    rw [hr9]
    refine W.eq (g2 := F0 m 46 ls [.int o4]) rfl ?_
    refine lv_if_eq (tgt := 93) hx hb dH_has_46 (by decide) (fun hc => ?_) (fun hc => ?_)
    · rw [if_pos hc] at hf
      refine lv_iconst (v := 1) hx hb dH_has_93 (by decide) ?_
      obtain rfl := Option.some.inj hf
      obtain ⟨hP9, hD9⟩ := xsub (wc := [(a0, .inr (2, [.ref a1, .int v1, .int v2])), (a1, .inl (cT 2, 4096, .inr (.inl f0))), (a2, .inr (2, [.ref a3, .int v4, .int v5])), (a3, .inl (cT 2, 4096, .inr (.inl f3))), (a4, .inr (2, [.ref a5, .int v7, .int v8])), (a5, .inl (cT 2, 4096, .inr (.inl f6)))]) hP hD [4, 5, 0, 1, 2, 3] rfl rfl (by decide)
      exact W.iret (v := (1 : Int32)) hx hb hr (fun t ht hW => ⟨⟨(1 : Int32), (), rfl, rfl, by rw [ht]; exact hP9, va_K.moved hW.alike hK, hD9⟩, hS.F ht⟩) hS.2.2 dH_has_94
    · rw [if_neg hc] at hf
      refine lv_aload_n hx hb dH_has_49 rfl (lv_at hl 1 rfl) ?_
      refine lv_iconst (v := 0) hx hb dH_has_50 (by decide) ?_
      refine lv_iconst (v := 3) hx hb dH_has_51 (by decide) ?_
      obtain ⟨o7, hq8, hf⟩ := xbind hf
      obtain ⟨hPc, hDc, hFc⟩ := xcut (wc := [(a2, .inr (2, [.ref a3, .int v4, .int v5])), (a3, .inl (cT 2, 4096, .inr (.inl f3)))]) hP hD hS hA [0, 1] rfl rfl (by decide)
      refine va_calli (va_runV (C := "ValueBench$Row") (As := [.int 0, .int 3]) (rest := []) ⟨hx, hb, hml, hown, htx⟩ (gR_is l hl9 D cT aK aV H.size n a2 a3 (0 : Int32) (3 : Int32) f3 v4 v5 o7 hq8) ⟨callB_of 2 htx (xw_goodC kw_3_75) rfl rfl rfl (htx _ kw_1_4) (htx _ kw_4_150) ⟨by decide, by decide, by decide +kernel⟩ ⟨Nat.le_of_ble_eq_true rfl, Nat.le_of_ble_eq_true rfl⟩, (htx _ kw_3_73), (htx _ kw_3_74)⟩ ⟨xPre_blind, va_recv hK hP (ci := 2) rfl (q0 := 0) rfl, (fun U hU hW => ⟨rfl, xPre_of hZ hS hFc hPc hDc hK U hU hW⟩)⟩ rfl rfl hl.1 rfl (lv_room (Nat.le_of_ble_eq_true rfl)) dH_has_52 ⟨Nat.le_of_ble_eq_true rfl, Nat.le_of_ble_eq_true rfl⟩) hS (fun q _ h => hFc q h) hFc (fun r9 u9 t H1 locs ht hvm hr9 hB hz1 hk1 hS => ?_)
      obtain ⟨hP1, hK1, hD1⟩ := hB
      rw [ht] at hP1
      obtain ⟨hP, hD⟩ := xjoin (W := [(a4, .inr (2, [.ref a5, .int v7, .int v8])), (a5, .inl (cT 2, 4096, .inr (.inl f6))), (a0, .inr (2, [.ref a1, .int v1, .int v2])), (a1, .inl (cT 2, 4096, .inr (.inl f0))), (a2, .inr (2, [.ref a3, .int v4, .int v5])), (a3, .inl (cT 2, 4096, .inr (.inl f3)))]) hP hD [0, 1] [2, 3, 4, 5] 4 rfl rfl (by decide) (by decide) hk1 hFc hP1 hD1
      generalize H1 = H at hP hS ⊢
      rw [hr9]
      refine W.eq (g2 := F0 m 55 ls [.int o7]) rfl ?_
      refine lv_if_eq (tgt := 93) hx hb dH_has_55 (by decide) (fun hc => ?_) (fun hc => ?_)
      · rw [if_pos hc] at hf
        refine lv_iconst (v := 1) hx hb dH_has_93 (by decide) ?_
        obtain rfl := Option.some.inj hf
        obtain ⟨hP9, hD9⟩ := xsub (wc := [(a0, .inr (2, [.ref a1, .int v1, .int v2])), (a1, .inl (cT 2, 4096, .inr (.inl f0))), (a2, .inr (2, [.ref a3, .int v4, .int v5])), (a3, .inl (cT 2, 4096, .inr (.inl f3))), (a4, .inr (2, [.ref a5, .int v7, .int v8])), (a5, .inl (cT 2, 4096, .inr (.inl f6)))]) hP hD [2, 3, 4, 5, 0, 1] rfl rfl (by decide)
        exact W.iret (v := (1 : Int32)) hx hb hr (fun t ht hW => ⟨⟨(1 : Int32), (), rfl, rfl, by rw [ht]; exact hP9, va_K.moved hW.alike hK, hD9⟩, hS.F ht⟩) hS.2.2 dH_has_94
      · rw [if_neg hc] at hf
        refine lv_aload_n hx hb dH_has_58 rfl (lv_at hl 1 rfl) ?_
        refine lv_iconst (v := 0) hx hb dH_has_59 (by decide) ?_
        obtain ⟨o10, hq11, hf⟩ := xbind hf
        obtain ⟨hPc, hDc, hFc⟩ := xcut (wc := [(a2, .inr (2, [.ref a3, .int v4, .int v5])), (a3, .inl (cT 2, 4096, .inr (.inl f3)))]) hP hD hS hA [4, 5] rfl rfl (by decide)
        refine va_calll (va_runV (C := "ValueBench$Row") (As := [.int 0]) (rest := []) ⟨hx, hb, hml, hown, htx⟩ (gR_number l hl9 D cT aK aV H.size n a2 a3 (0 : Int32) f3 v4 v5 o10 hq11) ⟨callB_of 1 htx (xw_goodC kw_3_37) rfl rfl rfl (htx _ kw_1_4) (htx _ kw_4_156) ⟨by decide, by decide, by decide +kernel⟩ ⟨Nat.le_of_ble_eq_true rfl, Nat.le_of_ble_eq_true rfl⟩, (htx _ kw_3_35), (htx _ kw_3_36)⟩ ⟨xPre_blind, va_recv hK hP (ci := 2) rfl (q0 := 4) rfl, (fun U hU hW => ⟨rfl, xPre_of hZ hS hFc hPc hDc hK U hU hW⟩)⟩ rfl rfl hl.1 rfl (lv_room (Nat.le_of_ble_eq_true rfl)) dH_has_60 ⟨Nat.le_of_ble_eq_true rfl, Nat.le_of_ble_eq_true rfl⟩) hS (fun q _ h => hFc q h) hFc (fun r12 u9 t H1 locs ht hvm hr9 hB hz1 hk1 hS => ?_)
        obtain ⟨hP1, hK1, hD1⟩ := hB
        rw [ht] at hP1
        obtain ⟨hP, hD⟩ := xjoin (W := [(a4, .inr (2, [.ref a5, .int v7, .int v8])), (a5, .inl (cT 2, 4096, .inr (.inl f6))), (a0, .inr (2, [.ref a1, .int v1, .int v2])), (a1, .inl (cT 2, 4096, .inr (.inl f0))), (a2, .inr (2, [.ref a3, .int v4, .int v5])), (a3, .inl (cT 2, 4096, .inr (.inl f3)))]) hP hD [4, 5] [0, 1, 2, 3] 4 rfl rfl (by decide) (by decide) hk1 hFc hP1 hD1
        generalize H1 = H at hP hS ⊢
        rw [hr9]
        refine W.eq (g2 := F0 m 63 ls [.long o10]) rfl ?_
        refine lv_lconst (v := 0) hx hb dH_has_63 (by decide) ?_
        refine W.lcmp hx hb dH_has_64 ?_
        refine lv_if_lt (tgt := 87) hx hb dH_has_65 (by decide) (fun hc => ?_) (fun hc => ?_)
        · rw [if_pos hc] at hf
          refine lv_iconst (v := 0) hx hb dH_has_87 (by decide) ?_
          refine lv_aload_n hx hb dH_has_88 rfl (lv_at hl 2 rfl) ?_
          obtain ⟨o13, hq14, hf⟩ := xbind hf
          obtain ⟨hPc, hDc, hFc⟩ := xcut (wc := [(a4, .inr (2, [.ref a5, .int v7, .int v8])), (a5, .inl (cT 2, 4096, .inr (.inl f6)))]) hP hD hS hA [0, 1] rfl rfl (by decide)
          refine va_calli (va_runS (As := [.int 0, .ref a4]) (rest := []) ⟨hx, hb, hml, hown, htx⟩ (gH_truth l hl9 D cT aK aV H.size n a4 a5 (0 : Int32) f6 v7 v8 o13 hq14) ⟨callB_of 2 htx (xw_goodC kw_4_154) rfl rfl rfl (htx _ kw_1_27) (htx _ kw_4_152) ⟨by decide, by decide, by decide +kernel⟩ ⟨Nat.le_of_ble_eq_true rfl, Nat.le_of_ble_eq_true rfl⟩, htx _ kw_4_153⟩ ⟨xPre_blind, (fun U hU hW => ⟨rfl, xPre_of hZ hS hFc hPc hDc hK U hU hW⟩)⟩ rfl rfl hl.1 rfl (lv_room (Nat.le_of_ble_eq_true rfl)) dH_has_89 ⟨Nat.le_of_ble_eq_true rfl, Nat.le_of_ble_eq_true rfl⟩) hS (fun q _ h => hFc q h) hFc (fun r15 u9 t H1 locs ht hvm hr9 hB hz1 hk1 hS => ?_)
          obtain ⟨hP1, hK1, hD1⟩ := hB
          rw [ht] at hP1
          obtain ⟨hP, hD⟩ := xjoin (W := [(a0, .inr (2, [.ref a1, .int v1, .int v2])), (a1, .inl (cT 2, 4096, .inr (.inl f0))), (a2, .inr (2, [.ref a3, .int v4, .int v5])), (a3, .inl (cT 2, 4096, .inr (.inl f3))), (a4, .inr (2, [.ref a5, .int o13.2.2.1, .int o13.2.2.2])), (a5, .inl (cT 2, 4096, .inr (.inl o13.2.1)))]) hP hD [0, 1] [2, 3, 4, 5] 4 rfl rfl (by decide) (by decide) hk1 hFc hP1 hD1
          generalize H1 = H at hP hS ⊢
          rw [hr9]
          refine W.eq (g2 := F0 m 92 ls [.int o13.1]) rfl ?_
          obtain rfl := Option.some.inj hf
          obtain ⟨hP9, hD9⟩ := xsub (wc := [(a0, .inr (2, [.ref a1, .int v1, .int v2])), (a1, .inl (cT 2, 4096, .inr (.inl f0))), (a2, .inr (2, [.ref a3, .int v4, .int v5])), (a3, .inl (cT 2, 4096, .inr (.inl f3))), (a4, .inr (2, [.ref a5, .int o13.2.2.1, .int o13.2.2.2])), (a5, .inl (cT 2, 4096, .inr (.inl o13.2.1)))]) hP hD [0, 1, 2, 3, 4, 5] rfl rfl (by decide)
          exact W.iret (v := o13.1) hx hb hr (fun t ht hW => ⟨⟨o13.1, (), rfl, rfl, by rw [ht]; exact hP9, va_K.moved hW.alike hK, hD9⟩, hS.F ht⟩) hS.2.2 dH_has_92
        · rw [if_neg hc] at hf
          refine lv_aload_n hx hb dH_has_68 rfl (lv_at hl 1 rfl) ?_
          refine lv_iconst (v := 0) hx hb dH_has_69 (by decide) ?_
          obtain ⟨o13, hq14, hf⟩ := xbind hf
          obtain ⟨hPc, hDc, hFc⟩ := xcut (wc := [(a2, .inr (2, [.ref a3, .int v4, .int v5])), (a3, .inl (cT 2, 4096, .inr (.inl f3)))]) hP hD hS hA [4, 5] rfl rfl (by decide)
          refine va_calll (va_runV (C := "ValueBench$Row") (As := [.int 0]) (rest := []) ⟨hx, hb, hml, hown, htx⟩ (gR_number l hl9 D cT aK aV H.size n a2 a3 (0 : Int32) f3 v4 v5 o13 hq14) ⟨callB_of 1 htx (xw_goodC kw_3_37) rfl rfl rfl (htx _ kw_1_4) (htx _ kw_4_156) ⟨by decide, by decide, by decide +kernel⟩ ⟨Nat.le_of_ble_eq_true rfl, Nat.le_of_ble_eq_true rfl⟩, (htx _ kw_3_35), (htx _ kw_3_36)⟩ ⟨xPre_blind, va_recv hK hP (ci := 2) rfl (q0 := 4) rfl, (fun U hU hW => ⟨rfl, xPre_of hZ hS hFc hPc hDc hK U hU hW⟩)⟩ rfl rfl hl.1 rfl (lv_room (Nat.le_of_ble_eq_true rfl)) dH_has_70 ⟨Nat.le_of_ble_eq_true rfl, Nat.le_of_ble_eq_true rfl⟩) hS (fun q _ h => hFc q h) hFc (fun r15 u9 t H1 locs ht hvm hr9 hB hz1 hk1 hS => ?_)
          obtain ⟨hP1, hK1, hD1⟩ := hB
          rw [ht] at hP1
          obtain ⟨hP, hD⟩ := xjoin (W := [(a4, .inr (2, [.ref a5, .int v7, .int v8])), (a5, .inl (cT 2, 4096, .inr (.inl f6))), (a0, .inr (2, [.ref a1, .int v1, .int v2])), (a1, .inl (cT 2, 4096, .inr (.inl f0))), (a2, .inr (2, [.ref a3, .int v4, .int v5])), (a3, .inl (cT 2, 4096, .inr (.inl f3)))]) hP hD [4, 5] [0, 1, 2, 3] 4 rfl rfl (by decide) (by decide) hk1 hFc hP1 hD1
          generalize H1 = H at hP hS ⊢
          rw [hr9]
          refine W.eq (g2 := F0 m 73 ls [.long o13]) rfl ?_
          refine lv_aload_n hx hb dH_has_73 rfl (lv_at hl 0 rfl) ?_
          refine lv_iconst (v := 0) hx hb dH_has_74 (by decide) ?_
          obtain ⟨o16, hq17, hf⟩ := xbind hf
          obtain ⟨hPc, hDc, hFc⟩ := xcut (wc := [(a0, .inr (2, [.ref a1, .int v1, .int v2])), (a1, .inl (cT 2, 4096, .inr (.inl f0)))]) hP hD hS hA [2, 3] rfl rfl (by decide)
          refine va_calli (va_runV (C := "ValueBench$Row") (As := [.int 0]) (rest := [.long o13]) ⟨hx, hb, hml, hown, htx⟩ (gR_length l hl9 D cT aK aV H.size n a0 a1 (0 : Int32) f0 v1 v2 o16 hq17) ⟨callB_of 1 htx (xw_goodC kw_2_191) rfl rfl rfl (htx _ kw_1_4) (htx _ kw_4_157) ⟨by decide, by decide, by decide +kernel⟩ ⟨Nat.le_of_ble_eq_true rfl, Nat.le_of_ble_eq_true rfl⟩, (htx _ kw_2_189), (htx _ kw_2_190)⟩ ⟨xPre_blind, va_recv hK hP (ci := 2) rfl (q0 := 2) rfl, (fun U hU hW => ⟨rfl, xPre_of hZ hS hFc hPc hDc hK U hU hW⟩)⟩ rfl rfl hl.1 rfl (lv_room (Nat.le_of_ble_eq_true rfl)) dH_has_75 ⟨Nat.le_of_ble_eq_true rfl, Nat.le_of_ble_eq_true rfl⟩) hS (fun q _ h => hFc q h) hFc (fun r18 u9 t H1 locs ht hvm hr9 hB hz1 hk1 hS => ?_)
          obtain ⟨hP1, hK1, hD1⟩ := hB
          rw [ht] at hP1
          obtain ⟨hP, hD⟩ := xjoin (W := [(a4, .inr (2, [.ref a5, .int v7, .int v8])), (a5, .inl (cT 2, 4096, .inr (.inl f6))), (a2, .inr (2, [.ref a3, .int v4, .int v5])), (a3, .inl (cT 2, 4096, .inr (.inl f3))), (a0, .inr (2, [.ref a1, .int v1, .int v2])), (a1, .inl (cT 2, 4096, .inr (.inl f0)))]) hP hD [2, 3] [0, 1, 4, 5] 4 rfl rfl (by decide) (by decide) hk1 hFc hP1 hD1
          generalize H1 = H at hP hS ⊢
          rw [hr9]
          refine W.eq (g2 := F0 m 78 ls [.int o16, .long o13]) rfl ?_
          refine lv_i2l hx hb dH_has_78 rfl ?_
          refine W.lcmp hx hb dH_has_79 ?_
          refine lv_if_ge (tgt := 87) hx hb dH_has_80 (by decide) (fun hc => ?_) (fun hc => ?_)
          · rw [if_pos hc] at hf
            refine lv_iconst (v := 0) hx hb dH_has_87 (by decide) ?_
            refine lv_aload_n hx hb dH_has_88 rfl (lv_at hl 2 rfl) ?_
            obtain ⟨o19, hq20, hf⟩ := xbind hf
            obtain ⟨hPc, hDc, hFc⟩ := xcut (wc := [(a4, .inr (2, [.ref a5, .int v7, .int v8])), (a5, .inl (cT 2, 4096, .inr (.inl f6)))]) hP hD hS hA [0, 1] rfl rfl (by decide)
            refine va_calli (va_runS (As := [.int 0, .ref a4]) (rest := []) ⟨hx, hb, hml, hown, htx⟩ (gH_truth l hl9 D cT aK aV H.size n a4 a5 (0 : Int32) f6 v7 v8 o19 hq20) ⟨callB_of 2 htx (xw_goodC kw_4_154) rfl rfl rfl (htx _ kw_1_27) (htx _ kw_4_152) ⟨by decide, by decide, by decide +kernel⟩ ⟨Nat.le_of_ble_eq_true rfl, Nat.le_of_ble_eq_true rfl⟩, htx _ kw_4_153⟩ ⟨xPre_blind, (fun U hU hW => ⟨rfl, xPre_of hZ hS hFc hPc hDc hK U hU hW⟩)⟩ rfl rfl hl.1 rfl (lv_room (Nat.le_of_ble_eq_true rfl)) dH_has_89 ⟨Nat.le_of_ble_eq_true rfl, Nat.le_of_ble_eq_true rfl⟩) hS (fun q _ h => hFc q h) hFc (fun r21 u9 t H1 locs ht hvm hr9 hB hz1 hk1 hS => ?_)
            obtain ⟨hP1, hK1, hD1⟩ := hB
            rw [ht] at hP1
            obtain ⟨hP, hD⟩ := xjoin (W := [(a2, .inr (2, [.ref a3, .int v4, .int v5])), (a3, .inl (cT 2, 4096, .inr (.inl f3))), (a0, .inr (2, [.ref a1, .int v1, .int v2])), (a1, .inl (cT 2, 4096, .inr (.inl f0))), (a4, .inr (2, [.ref a5, .int o19.2.2.1, .int o19.2.2.2])), (a5, .inl (cT 2, 4096, .inr (.inl o19.2.1)))]) hP hD [0, 1] [2, 3, 4, 5] 4 rfl rfl (by decide) (by decide) hk1 hFc hP1 hD1
            generalize H1 = H at hP hS ⊢
            rw [hr9]
            refine W.eq (g2 := F0 m 92 ls [.int o19.1]) rfl ?_
            obtain rfl := Option.some.inj hf
            obtain ⟨hP9, hD9⟩ := xsub (wc := [(a0, .inr (2, [.ref a1, .int v1, .int v2])), (a1, .inl (cT 2, 4096, .inr (.inl f0))), (a2, .inr (2, [.ref a3, .int v4, .int v5])), (a3, .inl (cT 2, 4096, .inr (.inl f3))), (a4, .inr (2, [.ref a5, .int o19.2.2.1, .int o19.2.2.2])), (a5, .inl (cT 2, 4096, .inr (.inl o19.2.1)))]) hP hD [2, 3, 0, 1, 4, 5] rfl rfl (by decide)
            exact W.iret (v := o19.1) hx hb hr (fun t ht hW => ⟨⟨o19.1, (), rfl, rfl, by rw [ht]; exact hP9, va_K.moved hW.alike hK, hD9⟩, hS.F ht⟩) hS.2.2 dH_has_92
          · rw [if_neg hc] at hf
            refine lv_iconst (v := 1) hx hb dH_has_83 (by decide) ?_
            refine lv_goto (tgt := 88) hx hb dH_has_84 (by decide) ?_
            refine lv_aload_n hx hb dH_has_88 rfl (lv_at hl 2 rfl) ?_
            obtain ⟨o19, hq20, hf⟩ := xbind hf
            obtain ⟨hPc, hDc, hFc⟩ := xcut (wc := [(a4, .inr (2, [.ref a5, .int v7, .int v8])), (a5, .inl (cT 2, 4096, .inr (.inl f6)))]) hP hD hS hA [0, 1] rfl rfl (by decide)
            refine va_calli (va_runS (As := [.int 1, .ref a4]) (rest := []) ⟨hx, hb, hml, hown, htx⟩ (gH_truth l hl9 D cT aK aV H.size n a4 a5 (1 : Int32) f6 v7 v8 o19 hq20) ⟨callB_of 2 htx (xw_goodC kw_4_154) rfl rfl rfl (htx _ kw_1_27) (htx _ kw_4_152) ⟨by decide, by decide, by decide +kernel⟩ ⟨Nat.le_of_ble_eq_true rfl, Nat.le_of_ble_eq_true rfl⟩, htx _ kw_4_153⟩ ⟨xPre_blind, (fun U hU hW => ⟨rfl, xPre_of hZ hS hFc hPc hDc hK U hU hW⟩)⟩ rfl rfl hl.1 rfl (lv_room (Nat.le_of_ble_eq_true rfl)) dH_has_89 ⟨Nat.le_of_ble_eq_true rfl, Nat.le_of_ble_eq_true rfl⟩) hS (fun q _ h => hFc q h) hFc (fun r21 u9 t H1 locs ht hvm hr9 hB hz1 hk1 hS => ?_)
            obtain ⟨hP1, hK1, hD1⟩ := hB
            rw [ht] at hP1
            obtain ⟨hP, hD⟩ := xjoin (W := [(a2, .inr (2, [.ref a3, .int v4, .int v5])), (a3, .inl (cT 2, 4096, .inr (.inl f3))), (a0, .inr (2, [.ref a1, .int v1, .int v2])), (a1, .inl (cT 2, 4096, .inr (.inl f0))), (a4, .inr (2, [.ref a5, .int o19.2.2.1, .int o19.2.2.2])), (a5, .inl (cT 2, 4096, .inr (.inl o19.2.1)))]) hP hD [0, 1] [2, 3, 4, 5] 4 rfl rfl (by decide) (by decide) hk1 hFc hP1 hD1
            generalize H1 = H at hP hS ⊢
            rw [hr9]
            refine W.eq (g2 := F0 m 92 ls [.int o19.1]) rfl ?_
            obtain rfl := Option.some.inj hf
            obtain ⟨hP9, hD9⟩ := xsub (wc := [(a0, .inr (2, [.ref a1, .int v1, .int v2])), (a1, .inl (cT 2, 4096, .inr (.inl f0))), (a2, .inr (2, [.ref a3, .int v4, .int v5])), (a3, .inl (cT 2, 4096, .inr (.inl f3))), (a4, .inr (2, [.ref a5, .int o19.2.2.1, .int o19.2.2.2])), (a5, .inl (cT 2, 4096, .inr (.inl o19.2.1)))]) hP hD [2, 3, 0, 1, 4, 5] rfl rfl (by decide)
            exact W.iret (v := o19.1) hx hb hr (fun t ht hW => ⟨⟨o19.1, (), rfl, rfl, by rw [ht]; exact hP9, va_K.moved hW.alike hK, hD9⟩, hS.F ht⟩) hS.2.2 dH_has_92
  · rw [if_neg hc] at hf
    refine lv_aload_n hx hb dH_has_10 rfl (lv_at hl 1 rfl) ?_
    refine lv_iconst (v := 0) hx hb dH_has_11 (by decide) ?_
    refine lv_iconst (v := 4) hx hb dH_has_12 (by decide) ?_
    obtain ⟨o4, hq5, hf⟩ := xbind hf
    obtain ⟨hPc, hDc, hFc⟩ := xcut (wc := [(a2, .inr (2, [.ref a3, .int v4, .int v5])), (a3, .inl (cT 2, 4096, .inr (.inl f3)))]) hP hD hS hA [0, 1] rfl rfl (by decide)
    refine va_calli (va_runV (C := "ValueBench$Row") (As := [.int 0, .int 4]) (rest := []) ⟨hx, hb, hml, hown, htx⟩ (gR_is l hl9 D cT aK aV H.size n a2 a3 (0 : Int32) (4 : Int32) f3 v4 v5 o4 hq5) ⟨callB_of 2 htx (xw_goodC kw_3_75) rfl rfl rfl (htx _ kw_1_4) (htx _ kw_4_150) ⟨by decide, by decide, by decide +kernel⟩ ⟨Nat.le_of_ble_eq_true rfl, Nat.le_of_ble_eq_true rfl⟩, (htx _ kw_3_73), (htx _ kw_3_74)⟩ ⟨xPre_blind, va_recv hK hP (ci := 2) rfl (q0 := 0) rfl, (fun U hU hW => ⟨rfl, xPre_of hZ hS hFc hPc hDc hK U hU hW⟩)⟩ rfl rfl hl.1 rfl (lv_room (Nat.le_of_ble_eq_true rfl)) dH_has_13 ⟨Nat.le_of_ble_eq_true rfl, Nat.le_of_ble_eq_true rfl⟩) hS (fun q _ h => hFc q h) hFc (fun r6 u9 t H1 locs ht hvm hr9 hB hz1 hk1 hS => ?_)
    obtain ⟨hP1, hK1, hD1⟩ := hB
    rw [ht] at hP1
    obtain ⟨hP, hD⟩ := xjoin (W := [(a4, .inr (2, [.ref a5, .int v7, .int v8])), (a5, .inl (cT 2, 4096, .inr (.inl f6))), (a0, .inr (2, [.ref a1, .int v1, .int v2])), (a1, .inl (cT 2, 4096, .inr (.inl f0))), (a2, .inr (2, [.ref a3, .int v4, .int v5])), (a3, .inl (cT 2, 4096, .inr (.inl f3)))]) hP hD [0, 1] [2, 3, 4, 5] 4 rfl rfl (by decide) (by decide) hk1 hFc hP1 hD1
    generalize H1 = H at hP hS ⊢
    rw [hr9]
    refine W.eq (g2 := F0 m 16 ls [.int o4]) rfl ?_
    refine lv_if_eq (tgt := 40) hx hb dH_has_16 (by decide) (fun hc => ?_) (fun hc => ?_)
    · rw [if_pos hc] at hf
      refine lv_aload_n hx hb dH_has_40 rfl (lv_at hl 0 rfl) ?_
      refine lv_iconst (v := 0) hx hb dH_has_41 (by decide) ?_
      refine lv_iconst (v := 5) hx hb dH_has_42 (by decide) ?_
      obtain ⟨o7, hq8, hf⟩ := xbind hf
      obtain ⟨hPc, hDc, hFc⟩ := xcut (wc := [(a0, .inr (2, [.ref a1, .int v1, .int v2])), (a1, .inl (cT 2, 4096, .inr (.inl f0)))]) hP hD hS hA [2, 3] rfl rfl (by decide)
      refine va_calli (va_runV (C := "ValueBench$Row") (As := [.int 0, .int 5]) (rest := []) ⟨hx, hb, hml, hown, htx⟩ (gR_is l hl9 D cT aK aV H.size n a0 a1 (0 : Int32) (5 : Int32) f0 v1 v2 o7 hq8) ⟨callB_of 2 htx (xw_goodC kw_3_75) rfl rfl rfl (htx _ kw_1_4) (htx _ kw_4_150) ⟨by decide, by decide, by decide +kernel⟩ ⟨Nat.le_of_ble_eq_true rfl, Nat.le_of_ble_eq_true rfl⟩, (htx _ kw_3_73), (htx _ kw_3_74)⟩ ⟨xPre_blind, va_recv hK hP (ci := 2) rfl (q0 := 2) rfl, (fun U hU hW => ⟨rfl, xPre_of hZ hS hFc hPc hDc hK U hU hW⟩)⟩ rfl rfl hl.1 rfl (lv_room (Nat.le_of_ble_eq_true rfl)) dH_has_43 ⟨Nat.le_of_ble_eq_true rfl, Nat.le_of_ble_eq_true rfl⟩) hS (fun q _ h => hFc q h) hFc (fun r9 u9 t H1 locs ht hvm hr9 hB hz1 hk1 hS => ?_)
      obtain ⟨hP1, hK1, hD1⟩ := hB
      rw [ht] at hP1
      obtain ⟨hP, hD⟩ := xjoin (W := [(a4, .inr (2, [.ref a5, .int v7, .int v8])), (a5, .inl (cT 2, 4096, .inr (.inl f6))), (a2, .inr (2, [.ref a3, .int v4, .int v5])), (a3, .inl (cT 2, 4096, .inr (.inl f3))), (a0, .inr (2, [.ref a1, .int v1, .int v2])), (a1, .inl (cT 2, 4096, .inr (.inl f0)))]) hP hD [2, 3] [0, 1, 4, 5] 4 rfl rfl (by decide) (by decide) hk1 hFc hP1 hD1
      generalize H1 = H at hP hS ⊢
      rw [hr9]
      refine W.eq (g2 := F0 m 46 ls [.int o7]) rfl ?_
      refine lv_if_eq (tgt := 93) hx hb dH_has_46 (by decide) (fun hc => ?_) (fun hc => ?_)
      · rw [if_pos hc] at hf
        refine lv_iconst (v := 1) hx hb dH_has_93 (by decide) ?_
        obtain rfl := Option.some.inj hf
        obtain ⟨hP9, hD9⟩ := xsub (wc := [(a0, .inr (2, [.ref a1, .int v1, .int v2])), (a1, .inl (cT 2, 4096, .inr (.inl f0))), (a2, .inr (2, [.ref a3, .int v4, .int v5])), (a3, .inl (cT 2, 4096, .inr (.inl f3))), (a4, .inr (2, [.ref a5, .int v7, .int v8])), (a5, .inl (cT 2, 4096, .inr (.inl f6)))]) hP hD [4, 5, 2, 3, 0, 1] rfl rfl (by decide)
        exact W.iret (v := (1 : Int32)) hx hb hr (fun t ht hW => ⟨⟨(1 : Int32), (), rfl, rfl, by rw [ht]; exact hP9, va_K.moved hW.alike hK, hD9⟩, hS.F ht⟩) hS.2.2 dH_has_94
      · rw [if_neg hc] at hf
        refine lv_aload_n hx hb dH_has_49 rfl (lv_at hl 1 rfl) ?_
        refine lv_iconst (v := 0) hx hb dH_has_50 (by decide) ?_
        refine lv_iconst (v := 3) hx hb dH_has_51 (by decide) ?_
        obtain ⟨o10, hq11, hf⟩ := xbind hf
        obtain ⟨hPc, hDc, hFc⟩ := xcut (wc := [(a2, .inr (2, [.ref a3, .int v4, .int v5])), (a3, .inl (cT 2, 4096, .inr (.inl f3)))]) hP hD hS hA [2, 3] rfl rfl (by decide)
        refine va_calli (va_runV (C := "ValueBench$Row") (As := [.int 0, .int 3]) (rest := []) ⟨hx, hb, hml, hown, htx⟩ (gR_is l hl9 D cT aK aV H.size n a2 a3 (0 : Int32) (3 : Int32) f3 v4 v5 o10 hq11) ⟨callB_of 2 htx (xw_goodC kw_3_75) rfl rfl rfl (htx _ kw_1_4) (htx _ kw_4_150) ⟨by decide, by decide, by decide +kernel⟩ ⟨Nat.le_of_ble_eq_true rfl, Nat.le_of_ble_eq_true rfl⟩, (htx _ kw_3_73), (htx _ kw_3_74)⟩ ⟨xPre_blind, va_recv hK hP (ci := 2) rfl (q0 := 2) rfl, (fun U hU hW => ⟨rfl, xPre_of hZ hS hFc hPc hDc hK U hU hW⟩)⟩ rfl rfl hl.1 rfl (lv_room (Nat.le_of_ble_eq_true rfl)) dH_has_52 ⟨Nat.le_of_ble_eq_true rfl, Nat.le_of_ble_eq_true rfl⟩) hS (fun q _ h => hFc q h) hFc (fun r12 u9 t H1 locs ht hvm hr9 hB hz1 hk1 hS => ?_)
        obtain ⟨hP1, hK1, hD1⟩ := hB
        rw [ht] at hP1
        obtain ⟨hP, hD⟩ := xjoin (W := [(a4, .inr (2, [.ref a5, .int v7, .int v8])), (a5, .inl (cT 2, 4096, .inr (.inl f6))), (a0, .inr (2, [.ref a1, .int v1, .int v2])), (a1, .inl (cT 2, 4096, .inr (.inl f0))), (a2, .inr (2, [.ref a3, .int v4, .int v5])), (a3, .inl (cT 2, 4096, .inr (.inl f3)))]) hP hD [2, 3] [0, 1, 4, 5] 4 rfl rfl (by decide) (by decide) hk1 hFc hP1 hD1
        generalize H1 = H at hP hS ⊢
        rw [hr9]
        refine W.eq (g2 := F0 m 55 ls [.int o10]) rfl ?_
        refine lv_if_eq (tgt := 93) hx hb dH_has_55 (by decide) (fun hc => ?_) (fun hc => ?_)
        · rw [if_pos hc] at hf
          refine lv_iconst (v := 1) hx hb dH_has_93 (by decide) ?_
          obtain rfl := Option.some.inj hf
          obtain ⟨hP9, hD9⟩ := xsub (wc := [(a0, .inr (2, [.ref a1, .int v1, .int v2])), (a1, .inl (cT 2, 4096, .inr (.inl f0))), (a2, .inr (2, [.ref a3, .int v4, .int v5])), (a3, .inl (cT 2, 4096, .inr (.inl f3))), (a4, .inr (2, [.ref a5, .int v7, .int v8])), (a5, .inl (cT 2, 4096, .inr (.inl f6)))]) hP hD [2, 3, 4, 5, 0, 1] rfl rfl (by decide)
          exact W.iret (v := (1 : Int32)) hx hb hr (fun t ht hW => ⟨⟨(1 : Int32), (), rfl, rfl, by rw [ht]; exact hP9, va_K.moved hW.alike hK, hD9⟩, hS.F ht⟩) hS.2.2 dH_has_94
        · rw [if_neg hc] at hf
          refine lv_aload_n hx hb dH_has_58 rfl (lv_at hl 1 rfl) ?_
          refine lv_iconst (v := 0) hx hb dH_has_59 (by decide) ?_
          obtain ⟨o13, hq14, hf⟩ := xbind hf
          obtain ⟨hPc, hDc, hFc⟩ := xcut (wc := [(a2, .inr (2, [.ref a3, .int v4, .int v5])), (a3, .inl (cT 2, 4096, .inr (.inl f3)))]) hP hD hS hA [4, 5] rfl rfl (by decide)
          refine va_calll (va_runV (C := "ValueBench$Row") (As := [.int 0]) (rest := []) ⟨hx, hb, hml, hown, htx⟩ (gR_number l hl9 D cT aK aV H.size n a2 a3 (0 : Int32) f3 v4 v5 o13 hq14) ⟨callB_of 1 htx (xw_goodC kw_3_37) rfl rfl rfl (htx _ kw_1_4) (htx _ kw_4_156) ⟨by decide, by decide, by decide +kernel⟩ ⟨Nat.le_of_ble_eq_true rfl, Nat.le_of_ble_eq_true rfl⟩, (htx _ kw_3_35), (htx _ kw_3_36)⟩ ⟨xPre_blind, va_recv hK hP (ci := 2) rfl (q0 := 4) rfl, (fun U hU hW => ⟨rfl, xPre_of hZ hS hFc hPc hDc hK U hU hW⟩)⟩ rfl rfl hl.1 rfl (lv_room (Nat.le_of_ble_eq_true rfl)) dH_has_60 ⟨Nat.le_of_ble_eq_true rfl, Nat.le_of_ble_eq_true rfl⟩) hS (fun q _ h => hFc q h) hFc (fun r15 u9 t H1 locs ht hvm hr9 hB hz1 hk1 hS => ?_)
          obtain ⟨hP1, hK1, hD1⟩ := hB
          rw [ht] at hP1
          obtain ⟨hP, hD⟩ := xjoin (W := [(a4, .inr (2, [.ref a5, .int v7, .int v8])), (a5, .inl (cT 2, 4096, .inr (.inl f6))), (a0, .inr (2, [.ref a1, .int v1, .int v2])), (a1, .inl (cT 2, 4096, .inr (.inl f0))), (a2, .inr (2, [.ref a3, .int v4, .int v5])), (a3, .inl (cT 2, 4096, .inr (.inl f3)))]) hP hD [4, 5] [0, 1, 2, 3] 4 rfl rfl (by decide) (by decide) hk1 hFc hP1 hD1
          generalize H1 = H at hP hS ⊢
          rw [hr9]
          refine W.eq (g2 := F0 m 63 ls [.long o13]) rfl ?_
          refine lv_lconst (v := 0) hx hb dH_has_63 (by decide) ?_
          refine W.lcmp hx hb dH_has_64 ?_
          refine lv_if_lt (tgt := 87) hx hb dH_has_65 (by decide) (fun hc => ?_) (fun hc => ?_)
          · rw [if_pos hc] at hf
            refine lv_iconst (v := 0) hx hb dH_has_87 (by decide) ?_
            refine lv_aload_n hx hb dH_has_88 rfl (lv_at hl 2 rfl) ?_
            obtain ⟨o16, hq17, hf⟩ := xbind hf
            obtain ⟨hPc, hDc, hFc⟩ := xcut (wc := [(a4, .inr (2, [.ref a5, .int v7, .int v8])), (a5, .inl (cT 2, 4096, .inr (.inl f6)))]) hP hD hS hA [0, 1] rfl rfl (by decide)
            refine va_calli (va_runS (As := [.int 0, .ref a4]) (rest := []) ⟨hx, hb, hml, hown, htx⟩ (gH_truth l hl9 D cT aK aV H.size n a4 a5 (0 : Int32) f6 v7 v8 o16 hq17) ⟨callB_of 2 htx (xw_goodC kw_4_154) rfl rfl rfl (htx _ kw_1_27) (htx _ kw_4_152) ⟨by decide, by decide, by decide +kernel⟩ ⟨Nat.le_of_ble_eq_true rfl, Nat.le_of_ble_eq_true rfl⟩, htx _ kw_4_153⟩ ⟨xPre_blind, (fun U hU hW => ⟨rfl, xPre_of hZ hS hFc hPc hDc hK U hU hW⟩)⟩ rfl rfl hl.1 rfl (lv_room (Nat.le_of_ble_eq_true rfl)) dH_has_89 ⟨Nat.le_of_ble_eq_true rfl, Nat.le_of_ble_eq_true rfl⟩) hS (fun q _ h => hFc q h) hFc (fun r18 u9 t H1 locs ht hvm hr9 hB hz1 hk1 hS => ?_)
            obtain ⟨hP1, hK1, hD1⟩ := hB
            rw [ht] at hP1
            obtain ⟨hP, hD⟩ := xjoin (W := [(a0, .inr (2, [.ref a1, .int v1, .int v2])), (a1, .inl (cT 2, 4096, .inr (.inl f0))), (a2, .inr (2, [.ref a3, .int v4, .int v5])), (a3, .inl (cT 2, 4096, .inr (.inl f3))), (a4, .inr (2, [.ref a5, .int o16.2.2.1, .int o16.2.2.2])), (a5, .inl (cT 2, 4096, .inr (.inl o16.2.1)))]) hP hD [0, 1] [2, 3, 4, 5] 4 rfl rfl (by decide) (by decide) hk1 hFc hP1 hD1
            generalize H1 = H at hP hS ⊢
            rw [hr9]
            refine W.eq (g2 := F0 m 92 ls [.int o16.1]) rfl ?_
            obtain rfl := Option.some.inj hf
            obtain ⟨hP9, hD9⟩ := xsub (wc := [(a0, .inr (2, [.ref a1, .int v1, .int v2])), (a1, .inl (cT 2, 4096, .inr (.inl f0))), (a2, .inr (2, [.ref a3, .int v4, .int v5])), (a3, .inl (cT 2, 4096, .inr (.inl f3))), (a4, .inr (2, [.ref a5, .int o16.2.2.1, .int o16.2.2.2])), (a5, .inl (cT 2, 4096, .inr (.inl o16.2.1)))]) hP hD [0, 1, 2, 3, 4, 5] rfl rfl (by decide)
            exact W.iret (v := o16.1) hx hb hr (fun t ht hW => ⟨⟨o16.1, (), rfl, rfl, by rw [ht]; exact hP9, va_K.moved hW.alike hK, hD9⟩, hS.F ht⟩) hS.2.2 dH_has_92
          · rw [if_neg hc] at hf
            refine lv_aload_n hx hb dH_has_68 rfl (lv_at hl 1 rfl) ?_
            refine lv_iconst (v := 0) hx hb dH_has_69 (by decide) ?_
            obtain ⟨o16, hq17, hf⟩ := xbind hf
            obtain ⟨hPc, hDc, hFc⟩ := xcut (wc := [(a2, .inr (2, [.ref a3, .int v4, .int v5])), (a3, .inl (cT 2, 4096, .inr (.inl f3)))]) hP hD hS hA [4, 5] rfl rfl (by decide)
            refine va_calll (va_runV (C := "ValueBench$Row") (As := [.int 0]) (rest := []) ⟨hx, hb, hml, hown, htx⟩ (gR_number l hl9 D cT aK aV H.size n a2 a3 (0 : Int32) f3 v4 v5 o16 hq17) ⟨callB_of 1 htx (xw_goodC kw_3_37) rfl rfl rfl (htx _ kw_1_4) (htx _ kw_4_156) ⟨by decide, by decide, by decide +kernel⟩ ⟨Nat.le_of_ble_eq_true rfl, Nat.le_of_ble_eq_true rfl⟩, (htx _ kw_3_35), (htx _ kw_3_36)⟩ ⟨xPre_blind, va_recv hK hP (ci := 2) rfl (q0 := 4) rfl, (fun U hU hW => ⟨rfl, xPre_of hZ hS hFc hPc hDc hK U hU hW⟩)⟩ rfl rfl hl.1 rfl (lv_room (Nat.le_of_ble_eq_true rfl)) dH_has_70 ⟨Nat.le_of_ble_eq_true rfl, Nat.le_of_ble_eq_true rfl⟩) hS (fun q _ h => hFc q h) hFc (fun r18 u9 t H1 locs ht hvm hr9 hB hz1 hk1 hS => ?_)
            obtain ⟨hP1, hK1, hD1⟩ := hB
            rw [ht] at hP1
            obtain ⟨hP, hD⟩ := xjoin (W := [(a4, .inr (2, [.ref a5, .int v7, .int v8])), (a5, .inl (cT 2, 4096, .inr (.inl f6))), (a0, .inr (2, [.ref a1, .int v1, .int v2])), (a1, .inl (cT 2, 4096, .inr (.inl f0))), (a2, .inr (2, [.ref a3, .int v4, .int v5])), (a3, .inl (cT 2, 4096, .inr (.inl f3)))]) hP hD [4, 5] [0, 1, 2, 3] 4 rfl rfl (by decide) (by decide) hk1 hFc hP1 hD1
            generalize H1 = H at hP hS ⊢
            rw [hr9]
            refine W.eq (g2 := F0 m 73 ls [.long o16]) rfl ?_
            refine lv_aload_n hx hb dH_has_73 rfl (lv_at hl 0 rfl) ?_
            refine lv_iconst (v := 0) hx hb dH_has_74 (by decide) ?_
            obtain ⟨o19, hq20, hf⟩ := xbind hf
            obtain ⟨hPc, hDc, hFc⟩ := xcut (wc := [(a0, .inr (2, [.ref a1, .int v1, .int v2])), (a1, .inl (cT 2, 4096, .inr (.inl f0)))]) hP hD hS hA [2, 3] rfl rfl (by decide)
            refine va_calli (va_runV (C := "ValueBench$Row") (As := [.int 0]) (rest := [.long o16]) ⟨hx, hb, hml, hown, htx⟩ (gR_length l hl9 D cT aK aV H.size n a0 a1 (0 : Int32) f0 v1 v2 o19 hq20) ⟨callB_of 1 htx (xw_goodC kw_2_191) rfl rfl rfl (htx _ kw_1_4) (htx _ kw_4_157) ⟨by decide, by decide, by decide +kernel⟩ ⟨Nat.le_of_ble_eq_true rfl, Nat.le_of_ble_eq_true rfl⟩, (htx _ kw_2_189), (htx _ kw_2_190)⟩ ⟨xPre_blind, va_recv hK hP (ci := 2) rfl (q0 := 2) rfl, (fun U hU hW => ⟨rfl, xPre_of hZ hS hFc hPc hDc hK U hU hW⟩)⟩ rfl rfl hl.1 rfl (lv_room (Nat.le_of_ble_eq_true rfl)) dH_has_75 ⟨Nat.le_of_ble_eq_true rfl, Nat.le_of_ble_eq_true rfl⟩) hS (fun q _ h => hFc q h) hFc (fun r21 u9 t H1 locs ht hvm hr9 hB hz1 hk1 hS => ?_)
            obtain ⟨hP1, hK1, hD1⟩ := hB
            rw [ht] at hP1
            obtain ⟨hP, hD⟩ := xjoin (W := [(a4, .inr (2, [.ref a5, .int v7, .int v8])), (a5, .inl (cT 2, 4096, .inr (.inl f6))), (a2, .inr (2, [.ref a3, .int v4, .int v5])), (a3, .inl (cT 2, 4096, .inr (.inl f3))), (a0, .inr (2, [.ref a1, .int v1, .int v2])), (a1, .inl (cT 2, 4096, .inr (.inl f0)))]) hP hD [2, 3] [0, 1, 4, 5] 4 rfl rfl (by decide) (by decide) hk1 hFc hP1 hD1
            generalize H1 = H at hP hS ⊢
            rw [hr9]
            refine W.eq (g2 := F0 m 78 ls [.int o19, .long o16]) rfl ?_
            refine lv_i2l hx hb dH_has_78 rfl ?_
            refine W.lcmp hx hb dH_has_79 ?_
            refine lv_if_ge (tgt := 87) hx hb dH_has_80 (by decide) (fun hc => ?_) (fun hc => ?_)
            · rw [if_pos hc] at hf
              refine lv_iconst (v := 0) hx hb dH_has_87 (by decide) ?_
              refine lv_aload_n hx hb dH_has_88 rfl (lv_at hl 2 rfl) ?_
              obtain ⟨o22, hq23, hf⟩ := xbind hf
              obtain ⟨hPc, hDc, hFc⟩ := xcut (wc := [(a4, .inr (2, [.ref a5, .int v7, .int v8])), (a5, .inl (cT 2, 4096, .inr (.inl f6)))]) hP hD hS hA [0, 1] rfl rfl (by decide)
              refine va_calli (va_runS (As := [.int 0, .ref a4]) (rest := []) ⟨hx, hb, hml, hown, htx⟩ (gH_truth l hl9 D cT aK aV H.size n a4 a5 (0 : Int32) f6 v7 v8 o22 hq23) ⟨callB_of 2 htx (xw_goodC kw_4_154) rfl rfl rfl (htx _ kw_1_27) (htx _ kw_4_152) ⟨by decide, by decide, by decide +kernel⟩ ⟨Nat.le_of_ble_eq_true rfl, Nat.le_of_ble_eq_true rfl⟩, htx _ kw_4_153⟩ ⟨xPre_blind, (fun U hU hW => ⟨rfl, xPre_of hZ hS hFc hPc hDc hK U hU hW⟩)⟩ rfl rfl hl.1 rfl (lv_room (Nat.le_of_ble_eq_true rfl)) dH_has_89 ⟨Nat.le_of_ble_eq_true rfl, Nat.le_of_ble_eq_true rfl⟩) hS (fun q _ h => hFc q h) hFc (fun r24 u9 t H1 locs ht hvm hr9 hB hz1 hk1 hS => ?_)
              obtain ⟨hP1, hK1, hD1⟩ := hB
              rw [ht] at hP1
              obtain ⟨hP, hD⟩ := xjoin (W := [(a2, .inr (2, [.ref a3, .int v4, .int v5])), (a3, .inl (cT 2, 4096, .inr (.inl f3))), (a0, .inr (2, [.ref a1, .int v1, .int v2])), (a1, .inl (cT 2, 4096, .inr (.inl f0))), (a4, .inr (2, [.ref a5, .int o22.2.2.1, .int o22.2.2.2])), (a5, .inl (cT 2, 4096, .inr (.inl o22.2.1)))]) hP hD [0, 1] [2, 3, 4, 5] 4 rfl rfl (by decide) (by decide) hk1 hFc hP1 hD1
              generalize H1 = H at hP hS ⊢
              rw [hr9]
              refine W.eq (g2 := F0 m 92 ls [.int o22.1]) rfl ?_
              obtain rfl := Option.some.inj hf
              obtain ⟨hP9, hD9⟩ := xsub (wc := [(a0, .inr (2, [.ref a1, .int v1, .int v2])), (a1, .inl (cT 2, 4096, .inr (.inl f0))), (a2, .inr (2, [.ref a3, .int v4, .int v5])), (a3, .inl (cT 2, 4096, .inr (.inl f3))), (a4, .inr (2, [.ref a5, .int o22.2.2.1, .int o22.2.2.2])), (a5, .inl (cT 2, 4096, .inr (.inl o22.2.1)))]) hP hD [2, 3, 0, 1, 4, 5] rfl rfl (by decide)
              exact W.iret (v := o22.1) hx hb hr (fun t ht hW => ⟨⟨o22.1, (), rfl, rfl, by rw [ht]; exact hP9, va_K.moved hW.alike hK, hD9⟩, hS.F ht⟩) hS.2.2 dH_has_92
            · rw [if_neg hc] at hf
              refine lv_iconst (v := 1) hx hb dH_has_83 (by decide) ?_
              refine lv_goto (tgt := 88) hx hb dH_has_84 (by decide) ?_
              refine lv_aload_n hx hb dH_has_88 rfl (lv_at hl 2 rfl) ?_
              obtain ⟨o22, hq23, hf⟩ := xbind hf
              obtain ⟨hPc, hDc, hFc⟩ := xcut (wc := [(a4, .inr (2, [.ref a5, .int v7, .int v8])), (a5, .inl (cT 2, 4096, .inr (.inl f6)))]) hP hD hS hA [0, 1] rfl rfl (by decide)
              refine va_calli (va_runS (As := [.int 1, .ref a4]) (rest := []) ⟨hx, hb, hml, hown, htx⟩ (gH_truth l hl9 D cT aK aV H.size n a4 a5 (1 : Int32) f6 v7 v8 o22 hq23) ⟨callB_of 2 htx (xw_goodC kw_4_154) rfl rfl rfl (htx _ kw_1_27) (htx _ kw_4_152) ⟨by decide, by decide, by decide +kernel⟩ ⟨Nat.le_of_ble_eq_true rfl, Nat.le_of_ble_eq_true rfl⟩, htx _ kw_4_153⟩ ⟨xPre_blind, (fun U hU hW => ⟨rfl, xPre_of hZ hS hFc hPc hDc hK U hU hW⟩)⟩ rfl rfl hl.1 rfl (lv_room (Nat.le_of_ble_eq_true rfl)) dH_has_89 ⟨Nat.le_of_ble_eq_true rfl, Nat.le_of_ble_eq_true rfl⟩) hS (fun q _ h => hFc q h) hFc (fun r24 u9 t H1 locs ht hvm hr9 hB hz1 hk1 hS => ?_)
              obtain ⟨hP1, hK1, hD1⟩ := hB
              rw [ht] at hP1
              obtain ⟨hP, hD⟩ := xjoin (W := [(a2, .inr (2, [.ref a3, .int v4, .int v5])), (a3, .inl (cT 2, 4096, .inr (.inl f3))), (a0, .inr (2, [.ref a1, .int v1, .int v2])), (a1, .inl (cT 2, 4096, .inr (.inl f0))), (a4, .inr (2, [.ref a5, .int o22.2.2.1, .int o22.2.2.2])), (a5, .inl (cT 2, 4096, .inr (.inl o22.2.1)))]) hP hD [0, 1] [2, 3, 4, 5] 4 rfl rfl (by decide) (by decide) hk1 hFc hP1 hD1
              generalize H1 = H at hP hS ⊢
              rw [hr9]
              refine W.eq (g2 := F0 m 92 ls [.int o22.1]) rfl ?_
              obtain rfl := Option.some.inj hf
              obtain ⟨hP9, hD9⟩ := xsub (wc := [(a0, .inr (2, [.ref a1, .int v1, .int v2])), (a1, .inl (cT 2, 4096, .inr (.inl f0))), (a2, .inr (2, [.ref a3, .int v4, .int v5])), (a3, .inl (cT 2, 4096, .inr (.inl f3))), (a4, .inr (2, [.ref a5, .int o22.2.2.1, .int o22.2.2.2])), (a5, .inl (cT 2, 4096, .inr (.inl o22.2.1)))]) hP hD [2, 3, 0, 1, 4, 5] rfl rfl (by decide)
              exact W.iret (v := o22.1) hx hb hr (fun t ht hW => ⟨⟨o22.1, (), rfl, rfl, by rw [ht]; exact hP9, va_K.moved hW.alike hK, hD9⟩, hS.F ht⟩) hS.2.2 dH_has_92
    · rw [if_neg hc] at hf
      refine lv_aload_n hx hb dH_has_19 rfl (lv_at hl 0 rfl) ?_
      refine lv_iconst (v := 0) hx hb dH_has_20 (by decide) ?_
      refine lv_aload_n hx hb dH_has_21 rfl (lv_at hl 1 rfl) ?_
      refine lv_iconst (v := 0) hx hb dH_has_22 (by decide) ?_
      obtain ⟨o7, hq8, hf⟩ := xbind hf
      obtain ⟨hPc, hDc, hFc⟩ := xcut (wc := [(a0, .inr (2, [.ref a1, .int v1, .int v2])), (a1, .inl (cT 2, 4096, .inr (.inl f0))), (a2, .inr (2, [.ref a3, .int v4, .int v5])), (a3, .inl (cT 2, 4096, .inr (.inl f3)))]) hP hD hS hA [2, 3, 4, 5] rfl rfl (by decide)
      refine va_calli (va_runV (C := "ValueBench$Row") (As := [.int 0, .ref a2, .int 0]) (rest := []) ⟨hx, hb, hml, hown, htx⟩ (gR_valueOfa l hl9 D cT aK aV H.size n a0 a1 a2 a3 (0 : Int32) (0 : Int32) f0 v1 v2 f3 v4 v5 o7 hq8) ⟨callB_of 3 htx (xw_goodC kw_2_187) rfl rfl rfl (htx _ kw_1_4) (htx _ kw_4_151) ⟨by decide, by decide, by decide +kernel⟩ ⟨Nat.le_of_ble_eq_true rfl, Nat.le_of_ble_eq_true rfl⟩, (htx _ kw_2_185), (htx _ kw_2_186)⟩ ⟨xPre_blind, va_recv hK hP (ci := 2) rfl (q0 := 2) rfl, (fun U hU hW => ⟨rfl, xPre_of hZ hS hFc hPc hDc hK U hU hW⟩)⟩ rfl rfl hl.1 rfl (lv_room (Nat.le_of_ble_eq_true rfl)) dH_has_23 ⟨Nat.le_of_ble_eq_true rfl, Nat.le_of_ble_eq_true rfl⟩) hS (fun q _ h => hFc q h) hFc (fun r9 u9 t H1 locs ht hvm hr9 hB hz1 hk1 hS => ?_)
      obtain ⟨hP1, hK1, hD1⟩ := hB
      rw [ht] at hP1
      obtain ⟨hP, hD⟩ := xjoin (W := [(a4, .inr (2, [.ref a5, .int v7, .int v8])), (a5, .inl (cT 2, 4096, .inr (.inl f6))), (a0, .inr (2, [.ref a1, .int v1, .int v2])), (a1, .inl (cT 2, 4096, .inr (.inl f0))), (a2, .inr (2, [.ref a3, .int v4, .int v5])), (a3, .inl (cT 2, 4096, .inr (.inl f3)))]) hP hD [2, 3, 4, 5] [0, 1] 2 rfl rfl (by decide) (by decide) hk1 hFc hP1 hD1
      generalize H1 = H at hP hS ⊢
      rw [hr9]
      refine W.eq (g2 := F0 m 26 ls [.int o7]) rfl ?_
      refine lv_iconst (v := (-1)) hx hb dH_has_26 (by decide) ?_
      refine lv_icmp_eq (tgt := 34) hx hb dH_has_27 (by decide) (fun hc => ?_) (fun hc => ?_)
      · rw [if_pos hc] at hf
        refine lv_iconst (v := 0) hx hb dH_has_34 (by decide) ?_
        refine lv_aload_n hx hb dH_has_35 rfl (lv_at hl 2 rfl) ?_
        obtain ⟨o10, hq11, hf⟩ := xbind hf
        obtain ⟨hPc, hDc, hFc⟩ := xcut (wc := [(a4, .inr (2, [.ref a5, .int v7, .int v8])), (a5, .inl (cT 2, 4096, .inr (.inl f6)))]) hP hD hS hA [0, 1] rfl rfl (by decide)
        refine va_calli (va_runS (As := [.int 0, .ref a4]) (rest := []) ⟨hx, hb, hml, hown, htx⟩ (gH_truth l hl9 D cT aK aV H.size n a4 a5 (0 : Int32) f6 v7 v8 o10 hq11) ⟨callB_of 2 htx (xw_goodC kw_4_154) rfl rfl rfl (htx _ kw_1_27) (htx _ kw_4_152) ⟨by decide, by decide, by decide +kernel⟩ ⟨Nat.le_of_ble_eq_true rfl, Nat.le_of_ble_eq_true rfl⟩, htx _ kw_4_153⟩ ⟨xPre_blind, (fun U hU hW => ⟨rfl, xPre_of hZ hS hFc hPc hDc hK U hU hW⟩)⟩ rfl rfl hl.1 rfl (lv_room (Nat.le_of_ble_eq_true rfl)) dH_has_36 ⟨Nat.le_of_ble_eq_true rfl, Nat.le_of_ble_eq_true rfl⟩) hS (fun q _ h => hFc q h) hFc (fun r12 u9 t H1 locs ht hvm hr9 hB hz1 hk1 hS => ?_)
        obtain ⟨hP1, hK1, hD1⟩ := hB
        rw [ht] at hP1
        obtain ⟨hP, hD⟩ := xjoin (W := [(a0, .inr (2, [.ref a1, .int v1, .int v2])), (a1, .inl (cT 2, 4096, .inr (.inl f0))), (a2, .inr (2, [.ref a3, .int v4, .int v5])), (a3, .inl (cT 2, 4096, .inr (.inl f3))), (a4, .inr (2, [.ref a5, .int o10.2.2.1, .int o10.2.2.2])), (a5, .inl (cT 2, 4096, .inr (.inl o10.2.1)))]) hP hD [0, 1] [2, 3, 4, 5] 4 rfl rfl (by decide) (by decide) hk1 hFc hP1 hD1
        generalize H1 = H at hP hS ⊢
        rw [hr9]
        refine W.eq (g2 := F0 m 39 ls [.int o10.1]) rfl ?_
        obtain rfl := Option.some.inj hf
        obtain ⟨hP9, hD9⟩ := xsub (wc := [(a0, .inr (2, [.ref a1, .int v1, .int v2])), (a1, .inl (cT 2, 4096, .inr (.inl f0))), (a2, .inr (2, [.ref a3, .int v4, .int v5])), (a3, .inl (cT 2, 4096, .inr (.inl f3))), (a4, .inr (2, [.ref a5, .int o10.2.2.1, .int o10.2.2.2])), (a5, .inl (cT 2, 4096, .inr (.inl o10.2.1)))]) hP hD [0, 1, 2, 3, 4, 5] rfl rfl (by decide)
        exact W.iret (v := o10.1) hx hb hr (fun t ht hW => ⟨⟨o10.1, (), rfl, rfl, by rw [ht]; exact hP9, va_K.moved hW.alike hK, hD9⟩, hS.F ht⟩) hS.2.2 dH_has_39
      · rw [if_neg hc] at hf
        refine lv_iconst (v := 1) hx hb dH_has_30 (by decide) ?_
        refine lv_goto (tgt := 35) hx hb dH_has_31 (by decide) ?_
        refine lv_aload_n hx hb dH_has_35 rfl (lv_at hl 2 rfl) ?_
        obtain ⟨o10, hq11, hf⟩ := xbind hf
        obtain ⟨hPc, hDc, hFc⟩ := xcut (wc := [(a4, .inr (2, [.ref a5, .int v7, .int v8])), (a5, .inl (cT 2, 4096, .inr (.inl f6)))]) hP hD hS hA [0, 1] rfl rfl (by decide)
        refine va_calli (va_runS (As := [.int 1, .ref a4]) (rest := []) ⟨hx, hb, hml, hown, htx⟩ (gH_truth l hl9 D cT aK aV H.size n a4 a5 (1 : Int32) f6 v7 v8 o10 hq11) ⟨callB_of 2 htx (xw_goodC kw_4_154) rfl rfl rfl (htx _ kw_1_27) (htx _ kw_4_152) ⟨by decide, by decide, by decide +kernel⟩ ⟨Nat.le_of_ble_eq_true rfl, Nat.le_of_ble_eq_true rfl⟩, htx _ kw_4_153⟩ ⟨xPre_blind, (fun U hU hW => ⟨rfl, xPre_of hZ hS hFc hPc hDc hK U hU hW⟩)⟩ rfl rfl hl.1 rfl (lv_room (Nat.le_of_ble_eq_true rfl)) dH_has_36 ⟨Nat.le_of_ble_eq_true rfl, Nat.le_of_ble_eq_true rfl⟩) hS (fun q _ h => hFc q h) hFc (fun r12 u9 t H1 locs ht hvm hr9 hB hz1 hk1 hS => ?_)
        obtain ⟨hP1, hK1, hD1⟩ := hB
        rw [ht] at hP1
        obtain ⟨hP, hD⟩ := xjoin (W := [(a0, .inr (2, [.ref a1, .int v1, .int v2])), (a1, .inl (cT 2, 4096, .inr (.inl f0))), (a2, .inr (2, [.ref a3, .int v4, .int v5])), (a3, .inl (cT 2, 4096, .inr (.inl f3))), (a4, .inr (2, [.ref a5, .int o10.2.2.1, .int o10.2.2.2])), (a5, .inl (cT 2, 4096, .inr (.inl o10.2.1)))]) hP hD [0, 1] [2, 3, 4, 5] 4 rfl rfl (by decide) (by decide) hk1 hFc hP1 hD1
        generalize H1 = H at hP hS ⊢
        rw [hr9]
        refine W.eq (g2 := F0 m 39 ls [.int o10.1]) rfl ?_
        obtain rfl := Option.some.inj hf
        obtain ⟨hP9, hD9⟩ := xsub (wc := [(a0, .inr (2, [.ref a1, .int v1, .int v2])), (a1, .inl (cT 2, 4096, .inr (.inl f0))), (a2, .inr (2, [.ref a3, .int v4, .int v5])), (a3, .inl (cT 2, 4096, .inr (.inl f3))), (a4, .inr (2, [.ref a5, .int o10.2.2.1, .int o10.2.2.2])), (a5, .inl (cT 2, 4096, .inr (.inl o10.2.1)))]) hP hD [0, 1, 2, 3, 4, 5] rfl rfl (by decide)
        exact W.iret (v := o10.1) hx hb hr (fun t ht hW => ⟨⟨o10.1, (), rfl, rfl, by rw [ht]; exact hP9, va_K.moved hW.alike hK, hD9⟩, hS.F ht⟩) hS.2.2 dH_has_39
set_option maxHeartbeats 400000000 in
set_option maxRecDepth 100000 in
theorem gH_isTruth (l : Launch) (hl9 : l.stackTraces = false) (D : va_G) (cT : Nat → ClassId) (aK aV : Nat → Nat) (sz n : Nat) (x0 : Int32) (out : Int32) (hf : fH_isTruth n x0 = some out) : xMet l yH_isTruth wyH_isTruth 0 0 0 0 D cT aK aV sz [.int x0] [] (fun A => va_Qi (fun (r : Int32) (_ : Unit) => r = out) (fun _ t => xB D xcl cT A [] t) A) := by
  refine Met.ofW (cc := prog_5_method_10_code) (maxL := 1) (ret := (some .boolean)) (by decide) rfl ?_
  intro p e s m args below meth c s₁ B hml hv
  obtain ⟨rfl, hsz, hZ, hP, hK, hD0⟩ := hv
  have hx := B.exec
  have hb := B.bytes
  have hr := B.returns
  have hts := atoms_spec (ws := wyH_isTruth) B.pre
  have htx := fun w h => hts w (List.mem_cons_of_mem _ h)
  have hown : s.vm.findClass "ValueBench$Pairs" = some m.cls := findClass_of_methodNamed B.named
  have hlocks := B.notSynchronized
  subst hsz
  have hD := hD0.self (sz := s.heap.size)
  generalize hAe : va_A [] s.heap.size = A at hD hZ ⊢
  have hA : ∀ q : Nat, s.heap.size ≤ q → A q := fun q h => by rw [← hAe]; exact Or.inr h
  have hS : va_S A s.heap s.heap [] := va_S.rf
  have hP : va_P D xcl [] s.heap := hP
  have hl := lv_entry ([.int x0]) (n := 1) (Nat.le_of_ble_eq_true rfl)
  rw [lg_entry_eq]
  generalize (lg_sl ([.int x0]) ++ List.replicate (1 - (lg_sl ([.int x0])).length) Slot.unset).toArray = ls at hl ⊢
  have hl : lv_has ls 1 [(0, .int x0)] := hl
  unfold fH_isTruth at hf
  refine lv_iload_n hx hb dH_isTruth_0 rfl (lv_at hl 0 rfl) ?_
  refine lv_iconst (v := 1) hx hb dH_isTruth_1 (by decide) ?_
  refine lv_icmp_eq (tgt := 10) hx hb dH_isTruth_2 (by decide) (fun hc => ?_) (fun hc => ?_)
  · rw [if_pos hc] at hf
    refine lv_iconst (v := 1) hx hb dH_isTruth_10 (by decide) ?_
    refine lv_goto (tgt := 15) hx hb dH_isTruth_11 (by decide) ?_
    obtain rfl := Option.some.inj hf
    obtain ⟨hP9, hD9⟩ := xsub (wc := []) hP hD [] rfl rfl (by decide)
    exact W.zret (v := (1 : Int32)) hx hb hr rfl (fun t ht hW => ⟨⟨(1 : Int32), (), rfl, rfl, by rw [ht]; exact hP9, va_K.moved hW.alike hK, hD9⟩, hS.F ht⟩) hS.2.2 dH_isTruth_15
  · rw [if_neg hc] at hf
    refine lv_iload_n hx hb dH_isTruth_5 rfl (lv_at hl 0 rfl) ?_
    refine lv_iconst (v := 2) hx hb dH_isTruth_6 (by decide) ?_
    refine lv_icmp_ne (tgt := 14) hx hb dH_isTruth_7 (by decide) (fun hc => ?_) (fun hc => ?_)
    · rw [if_neg hc] at hf
      refine lv_iconst (v := 0) hx hb dH_isTruth_14 (by decide) ?_
      obtain rfl := Option.some.inj hf
      obtain ⟨hP9, hD9⟩ := xsub (wc := []) hP hD [] rfl rfl (by decide)
      exact W.zret (v := (0 : Int32)) hx hb hr rfl (fun t ht hW => ⟨⟨(0 : Int32), (), rfl, rfl, by rw [ht]; exact hP9, va_K.moved hW.alike hK, hD9⟩, hS.F ht⟩) hS.2.2 dH_isTruth_15
    · rw [if_pos hc] at hf
      refine lv_iconst (v := 1) hx hb dH_isTruth_10 (by decide) ?_
      refine lv_goto (tgt := 15) hx hb dH_isTruth_11 (by decide) ?_
      obtain rfl := Option.some.inj hf
      obtain ⟨hP9, hD9⟩ := xsub (wc := []) hP hD [] rfl rfl (by decide)
      exact W.zret (v := (1 : Int32)) hx hb hr rfl (fun t ht hW => ⟨⟨(1 : Int32), (), rfl, rfl, by rw [ht]; exact hP9, va_K.moved hW.alike hK, hD9⟩, hS.F ht⟩) hS.2.2 dH_isTruth_15
set_option maxHeartbeats 400000000 in
set_option maxRecDepth 100000 in
theorem gH_areOfOneKind (l : Launch) (hl9 : l.stackTraces = false) (D : va_G) (cT : Nat → ClassId) (aK aV : Nat → Nat) (sz n : Nat) (a0 : Nat) (a1 : Nat) (a2 : Nat) (a3 : Nat) (x1 : Int32) (x3 : Int32) (f0 : Nat → Int64) (v1 : Int32) (v2 : Int32) (f3 : Nat → Int64) (v4 : Int32) (v5 : Int32) (out : Int32) (hf : fH_areOfOneKind n x1 x3 f0 v1 v2 f3 v4 v5 = some out) : xMet l yH_areOfOneKind wyH_areOfOneKind 1 0 0 21 D cT aK aV sz [.ref a0, .int x1, .ref a2, .int x3] [(a0, .inr (2, [.ref a1, .int v1, .int v2])), (a1, .inl (cT 2, 4096, .inr (.inl f0))), (a2, .inr (2, [.ref a3, .int v4, .int v5])), (a3, .inl (cT 2, 4096, .inr (.inl f3)))] (fun A => va_Qi (fun (r : Int32) (_ : Unit) => r = out) (fun _ t => xB D xcl cT A [(a0, .inr (2, [.ref a1, .int v1, .int v2])), (a1, .inl (cT 2, 4096, .inr (.inl f0))), (a2, .inr (2, [.ref a3, .int v4, .int v5])), (a3, .inl (cT 2, 4096, .inr (.inl f3)))] t) A) := by
  refine Met.ofW (cc := prog_5_method_9_code) (maxL := 4) (ret := (some .boolean)) (by decide) rfl ?_
  intro p e s m args below meth c s₁ B hml hv
  obtain ⟨rfl, hsz, hZ, hP, hK, hD0⟩ := hv
  have hx := B.exec
  have hb := B.bytes
  have hr := B.returns
  have hts := atoms_spec (ws := wyH_areOfOneKind) B.pre
  have htx := fun w h => hts w (List.mem_cons_of_mem _ h)
  have hown : s.vm.findClass "ValueBench$Pairs" = some m.cls := findClass_of_methodNamed B.named
  have hlocks := B.notSynchronized
  subst hsz
  have hD := hD0.self (sz := s.heap.size)
  generalize hAe : va_A [(a0, .inr (2, [.ref a1, .int v1, .int v2])), (a1, .inl (cT 2, 4096, .inr (.inl f0))), (a2, .inr (2, [.ref a3, .int v4, .int v5])), (a3, .inl (cT 2, 4096, .inr (.inl f3)))] s.heap.size = A at hD hZ ⊢
  have hA : ∀ q : Nat, s.heap.size ≤ q → A q := fun q h => by rw [← hAe]; exact Or.inr h
  have hS : va_S A s.heap s.heap [] := va_S.rf
  have hP : va_P D xcl [(a0, .inr (2, [.ref a1, .int v1, .int v2])), (a1, .inl (cT 2, 4096, .inr (.inl f0))), (a2, .inr (2, [.ref a3, .int v4, .int v5])), (a3, .inl (cT 2, 4096, .inr (.inl f3)))] s.heap := hP
  have hl := lv_entry ([.ref a0, .int x1, .ref a2, .int x3]) (n := 4) (Nat.le_of_ble_eq_true rfl)
  rw [lg_entry_eq]
  generalize (lg_sl ([.ref a0, .int x1, .ref a2, .int x3]) ++ List.replicate (4 - (lg_sl ([.ref a0, .int x1, .ref a2, .int x3])).length) Slot.unset).toArray = ls at hl ⊢
  have hl : lv_has ls 4 [(0, .ref a0), (1, .int x1), (2, .ref a2), (3, .int x3)] := hl
  unfold fH_areOfOneKind at hf
  refine lv_aload_n hx hb dH_areOfOneKind_0 rfl (lv_at hl 0 rfl) ?_
  refine lv_iload_n hx hb dH_areOfOneKind_1 rfl (lv_at hl 1 rfl) ?_
  obtain ⟨o1, hq2, hf⟩ := xbind hf
  obtain ⟨hPc, hDc, hFc⟩ := xcut (wc := [(a0, .inr (2, [.ref a1, .int v1, .int v2])), (a1, .inl (cT 2, 4096, .inr (.inl f0)))]) hP hD hS hA [0, 1] rfl rfl (by decide)
  refine va_calli (va_runV (C := "ValueBench$Row") (As := [.int x1]) (rest := []) ⟨hx, hb, hml, hown, htx⟩ (gR_kind l hl9 D cT aK aV s.heap.size n a0 a1 x1 f0 v1 v2 o1 hq2) ⟨callB_of 1 htx (xw_goodC kw_3_24) rfl rfl rfl (htx _ kw_1_4) (htx _ kw_4_164) ⟨by decide, by decide, by decide +kernel⟩ ⟨Nat.le_of_ble_eq_true rfl, Nat.le_of_ble_eq_true rfl⟩, (htx _ kw_3_22), (htx _ kw_3_23)⟩ ⟨xPre_blind, va_recv hK hP (ci := 2) rfl (q0 := 0) rfl, (fun U hU hW => ⟨rfl, xPre_of hZ hS hFc hPc hDc hK U hU hW⟩)⟩ rfl rfl hl.1 rfl (lv_room (Nat.le_of_ble_eq_true rfl)) dH_areOfOneKind_2 ⟨Nat.le_of_ble_eq_true rfl, Nat.le_of_ble_eq_true rfl⟩) hS (fun q _ h => hFc q h) hFc (fun r3 u9 t H1 locs ht hvm hr9 hB hz1 hk1 hS => ?_)
  obtain ⟨hP1, hK1, hD1⟩ := hB
  rw [ht] at hP1
  obtain ⟨hP, hD⟩ := xjoin (W := [(a2, .inr (2, [.ref a3, .int v4, .int v5])), (a3, .inl (cT 2, 4096, .inr (.inl f3))), (a0, .inr (2, [.ref a1, .int v1, .int v2])), (a1, .inl (cT 2, 4096, .inr (.inl f0)))]) hP hD [0, 1] [2, 3] 2 rfl rfl (by decide) (by decide) hk1 hFc hP1 hD1
  generalize H1 = H at hP hS ⊢
  rw [hr9]
  refine W.eq (g2 := F0 m 5 ls [.int o1]) rfl ?_
  refine lv_aload_n hx hb dH_areOfOneKind_5 rfl (lv_at hl 2 rfl) ?_
  refine lv_iload_n hx hb dH_areOfOneKind_6 rfl (lv_at hl 3 rfl) ?_
  obtain ⟨o4, hq5, hf⟩ := xbind hf
  obtain ⟨hPc, hDc, hFc⟩ := xcut (wc := [(a2, .inr (2, [.ref a3, .int v4, .int v5])), (a3, .inl (cT 2, 4096, .inr (.inl f3)))]) hP hD hS hA [0, 1] rfl rfl (by decide)
  refine va_calli (va_runV (C := "ValueBench$Row") (As := [.int x3]) (rest := [.int o1]) ⟨hx, hb, hml, hown, htx⟩ (gR_kind l hl9 D cT aK aV H.size n a2 a3 x3 f3 v4 v5 o4 hq5) ⟨callB_of 1 htx (xw_goodC kw_3_24) rfl rfl rfl (htx _ kw_1_4) (htx _ kw_4_164) ⟨by decide, by decide, by decide +kernel⟩ ⟨Nat.le_of_ble_eq_true rfl, Nat.le_of_ble_eq_true rfl⟩, (htx _ kw_3_22), (htx _ kw_3_23)⟩ ⟨xPre_blind, va_recv hK hP (ci := 2) rfl (q0 := 0) rfl, (fun U hU hW => ⟨rfl, xPre_of hZ hS hFc hPc hDc hK U hU hW⟩)⟩ rfl rfl hl.1 rfl (lv_room (Nat.le_of_ble_eq_true rfl)) dH_areOfOneKind_7 ⟨Nat.le_of_ble_eq_true rfl, Nat.le_of_ble_eq_true rfl⟩) hS (fun q _ h => hFc q h) hFc (fun r6 u9 t H1 locs ht hvm hr9 hB hz1 hk1 hS => ?_)
  obtain ⟨hP1, hK1, hD1⟩ := hB
  rw [ht] at hP1
  obtain ⟨hP, hD⟩ := xjoin (W := [(a0, .inr (2, [.ref a1, .int v1, .int v2])), (a1, .inl (cT 2, 4096, .inr (.inl f0))), (a2, .inr (2, [.ref a3, .int v4, .int v5])), (a3, .inl (cT 2, 4096, .inr (.inl f3)))]) hP hD [0, 1] [2, 3] 2 rfl rfl (by decide) (by decide) hk1 hFc hP1 hD1
  generalize H1 = H at hP hS ⊢
  rw [hr9]
  refine W.eq (g2 := F0 m 10 ls [.int o4, .int o1]) rfl ?_
  refine lv_icmp_eq (tgt := 35) hx hb dH_areOfOneKind_10 (by decide) (fun hc => ?_) (fun hc => ?_)
  · rw [if_pos hc] at hf
    refine lv_iconst (v := 1) hx hb dH_areOfOneKind_35 (by decide) ?_
    refine lv_goto (tgt := 40) hx hb dH_areOfOneKind_36 (by decide) ?_
    obtain rfl := Option.some.inj hf
    obtain ⟨hP9, hD9⟩ := xsub (wc := [(a0, .inr (2, [.ref a1, .int v1, .int v2])), (a1, .inl (cT 2, 4096, .inr (.inl f0))), (a2, .inr (2, [.ref a3, .int v4, .int v5])), (a3, .inl (cT 2, 4096, .inr (.inl f3)))]) hP hD [0, 1, 2, 3] rfl rfl (by decide)
    exact W.zret (v := (1 : Int32)) hx hb hr rfl (fun t ht hW => ⟨⟨(1 : Int32), (), rfl, rfl, by rw [ht]; exact hP9, va_K.moved hW.alike hK, hD9⟩, hS.F ht⟩) hS.2.2 dH_areOfOneKind_40
  · rw [if_neg hc] at hf
    refine lv_aload_n hx hb dH_areOfOneKind_13 rfl (lv_at hl 0 rfl) ?_
    refine lv_iload_n hx hb dH_areOfOneKind_14 rfl (lv_at hl 1 rfl) ?_
    obtain ⟨o7, hq8, hf⟩ := xbind hf
    obtain ⟨hPc, hDc, hFc⟩ := xcut (wc := [(a0, .inr (2, [.ref a1, .int v1, .int v2])), (a1, .inl (cT 2, 4096, .inr (.inl f0)))]) hP hD hS hA [0, 1] rfl rfl (by decide)
    refine va_calli (va_runV (C := "ValueBench$Row") (As := [.int x1]) (rest := []) ⟨hx, hb, hml, hown, htx⟩ (gR_kind l hl9 D cT aK aV H.size n a0 a1 x1 f0 v1 v2 o7 hq8) ⟨callB_of 1 htx (xw_goodC kw_3_24) rfl rfl rfl (htx _ kw_1_4) (htx _ kw_4_164) ⟨by decide, by decide, by decide +kernel⟩ ⟨Nat.le_of_ble_eq_true rfl, Nat.le_of_ble_eq_true rfl⟩, (htx _ kw_3_22), (htx _ kw_3_23)⟩ ⟨xPre_blind, va_recv hK hP (ci := 2) rfl (q0 := 0) rfl, (fun U hU hW => ⟨rfl, xPre_of hZ hS hFc hPc hDc hK U hU hW⟩)⟩ rfl rfl hl.1 rfl (lv_room (Nat.le_of_ble_eq_true rfl)) dH_areOfOneKind_15 ⟨Nat.le_of_ble_eq_true rfl, Nat.le_of_ble_eq_true rfl⟩) hS (fun q _ h => hFc q h) hFc (fun r9 u9 t H1 locs ht hvm hr9 hB hz1 hk1 hS => ?_)
    obtain ⟨hP1, hK1, hD1⟩ := hB
    rw [ht] at hP1
    obtain ⟨hP, hD⟩ := xjoin (W := [(a2, .inr (2, [.ref a3, .int v4, .int v5])), (a3, .inl (cT 2, 4096, .inr (.inl f3))), (a0, .inr (2, [.ref a1, .int v1, .int v2])), (a1, .inl (cT 2, 4096, .inr (.inl f0)))]) hP hD [0, 1] [2, 3] 2 rfl rfl (by decide) (by decide) hk1 hFc hP1 hD1
    generalize H1 = H at hP hS ⊢
    rw [hr9]
    refine W.eq (g2 := F0 m 18 ls [.int o7]) rfl ?_
    obtain ⟨o10, hq11, hf⟩ := xbind hf
    obtain ⟨hPc, hDc, hFc⟩ := xcut (wc := []) hP hD hS hA [] rfl rfl (by decide)
    refine va_calli (va_runS (As := [.int o7]) (rest := []) ⟨hx, hb, hml, hown, htx⟩ (gH_isTruth l hl9 D cT aK aV H.size n o7 o10 hq11) ⟨callB_of 1 htx (xw_goodC kw_4_167) rfl rfl rfl (htx _ kw_1_27) (htx _ kw_4_165) ⟨by decide, by decide, by decide +kernel⟩ ⟨Nat.le_of_ble_eq_true rfl, Nat.le_of_ble_eq_true rfl⟩, htx _ kw_4_166⟩ ⟨xPre_blind, (fun U hU hW => ⟨rfl, xPre_of hZ hS hFc hPc hDc hK U hU hW⟩)⟩ rfl rfl hl.1 rfl (lv_room (Nat.le_of_ble_eq_true rfl)) dH_areOfOneKind_18 ⟨Nat.le_of_ble_eq_true rfl, Nat.le_of_ble_eq_true rfl⟩) hS (fun q _ h => hFc q h) hFc (fun r12 u9 t H1 locs ht hvm hr9 hB hz1 hk1 hS => ?_)
    obtain ⟨hP1, hK1, hD1⟩ := hB
    rw [ht] at hP1
    obtain ⟨hP, hD⟩ := xjoin (W := [(a2, .inr (2, [.ref a3, .int v4, .int v5])), (a3, .inl (cT 2, 4096, .inr (.inl f3))), (a0, .inr (2, [.ref a1, .int v1, .int v2])), (a1, .inl (cT 2, 4096, .inr (.inl f0)))]) hP hD [] [0, 1, 2, 3] 4 rfl rfl (by decide) (by decide) hk1 hFc hP1 hD1
    generalize H1 = H at hP hS ⊢
    rw [hr9]
    refine W.eq (g2 := F0 m 21 ls [.int o10]) rfl ?_
    refine lv_if_eq (tgt := 39) hx hb dH_areOfOneKind_21 (by decide) (fun hc => ?_) (fun hc => ?_)
    · rw [if_pos hc] at hf
      refine lv_iconst (v := 0) hx hb dH_areOfOneKind_39 (by decide) ?_
      obtain rfl := Option.some.inj hf
      obtain ⟨hP9, hD9⟩ := xsub (wc := [(a0, .inr (2, [.ref a1, .int v1, .int v2])), (a1, .inl (cT 2, 4096, .inr (.inl f0))), (a2, .inr (2, [.ref a3, .int v4, .int v5])), (a3, .inl (cT 2, 4096, .inr (.inl f3)))]) hP hD [2, 3, 0, 1] rfl rfl (by decide)
      exact W.zret (v := (0 : Int32)) hx hb hr rfl (fun t ht hW => ⟨⟨(0 : Int32), (), rfl, rfl, by rw [ht]; exact hP9, va_K.moved hW.alike hK, hD9⟩, hS.F ht⟩) hS.2.2 dH_areOfOneKind_40
    · rw [if_neg hc] at hf
      refine lv_aload_n hx hb dH_areOfOneKind_24 rfl (lv_at hl 2 rfl) ?_
      refine lv_iload_n hx hb dH_areOfOneKind_25 rfl (lv_at hl 3 rfl) ?_
      obtain ⟨o13, hq14, hf⟩ := xbind hf
      obtain ⟨hPc, hDc, hFc⟩ := xcut (wc := [(a2, .inr (2, [.ref a3, .int v4, .int v5])), (a3, .inl (cT 2, 4096, .inr (.inl f3)))]) hP hD hS hA [0, 1] rfl rfl (by decide)
      refine va_calli (va_runV (C := "ValueBench$Row") (As := [.int x3]) (rest := []) ⟨hx, hb, hml, hown, htx⟩ (gR_kind l hl9 D cT aK aV H.size n a2 a3 x3 f3 v4 v5 o13 hq14) ⟨callB_of 1 htx (xw_goodC kw_3_24) rfl rfl rfl (htx _ kw_1_4) (htx _ kw_4_164) ⟨by decide, by decide, by decide +kernel⟩ ⟨Nat.le_of_ble_eq_true rfl, Nat.le_of_ble_eq_true rfl⟩, (htx _ kw_3_22), (htx _ kw_3_23)⟩ ⟨xPre_blind, va_recv hK hP (ci := 2) rfl (q0 := 0) rfl, (fun U hU hW => ⟨rfl, xPre_of hZ hS hFc hPc hDc hK U hU hW⟩)⟩ rfl rfl hl.1 rfl (lv_room (Nat.le_of_ble_eq_true rfl)) dH_areOfOneKind_26 ⟨Nat.le_of_ble_eq_true rfl, Nat.le_of_ble_eq_true rfl⟩) hS (fun q _ h => hFc q h) hFc (fun r15 u9 t H1 locs ht hvm hr9 hB hz1 hk1 hS => ?_)
      obtain ⟨hP1, hK1, hD1⟩ := hB
      rw [ht] at hP1
      obtain ⟨hP, hD⟩ := xjoin (W := [(a0, .inr (2, [.ref a1, .int v1, .int v2])), (a1, .inl (cT 2, 4096, .inr (.inl f0))), (a2, .inr (2, [.ref a3, .int v4, .int v5])), (a3, .inl (cT 2, 4096, .inr (.inl f3)))]) hP hD [0, 1] [2, 3] 2 rfl rfl (by decide) (by decide) hk1 hFc hP1 hD1
      generalize H1 = H at hP hS ⊢
      rw [hr9]
      refine W.eq (g2 := F0 m 29 ls [.int o13]) rfl ?_
      obtain ⟨o16, hq17, hf⟩ := xbind hf
      obtain ⟨hPc, hDc, hFc⟩ := xcut (wc := []) hP hD hS hA [] rfl rfl (by decide)
      refine va_calli (va_runS (As := [.int o13]) (rest := []) ⟨hx, hb, hml, hown, htx⟩ (gH_isTruth l hl9 D cT aK aV H.size n o13 o16 hq17) ⟨callB_of 1 htx (xw_goodC kw_4_167) rfl rfl rfl (htx _ kw_1_27) (htx _ kw_4_165) ⟨by decide, by decide, by decide +kernel⟩ ⟨Nat.le_of_ble_eq_true rfl, Nat.le_of_ble_eq_true rfl⟩, htx _ kw_4_166⟩ ⟨xPre_blind, (fun U hU hW => ⟨rfl, xPre_of hZ hS hFc hPc hDc hK U hU hW⟩)⟩ rfl rfl hl.1 rfl (lv_room (Nat.le_of_ble_eq_true rfl)) dH_areOfOneKind_29 ⟨Nat.le_of_ble_eq_true rfl, Nat.le_of_ble_eq_true rfl⟩) hS (fun q _ h => hFc q h) hFc (fun r18 u9 t H1 locs ht hvm hr9 hB hz1 hk1 hS => ?_)
      obtain ⟨hP1, hK1, hD1⟩ := hB
      rw [ht] at hP1
      obtain ⟨hP, hD⟩ := xjoin (W := [(a0, .inr (2, [.ref a1, .int v1, .int v2])), (a1, .inl (cT 2, 4096, .inr (.inl f0))), (a2, .inr (2, [.ref a3, .int v4, .int v5])), (a3, .inl (cT 2, 4096, .inr (.inl f3)))]) hP hD [] [0, 1, 2, 3] 4 rfl rfl (by decide) (by decide) hk1 hFc hP1 hD1
      generalize H1 = H at hP hS ⊢
      rw [hr9]
      refine W.eq (g2 := F0 m 32 ls [.int o16]) rfl ?_
      refine lv_if_eq (tgt := 39) hx hb dH_areOfOneKind_32 (by decide) (fun hc => ?_) (fun hc => ?_)
      · rw [if_pos hc] at hf
        refine lv_iconst (v := 0) hx hb dH_areOfOneKind_39 (by decide) ?_
        obtain rfl := Option.some.inj hf
        obtain ⟨hP9, hD9⟩ := xsub (wc := [(a0, .inr (2, [.ref a1, .int v1, .int v2])), (a1, .inl (cT 2, 4096, .inr (.inl f0))), (a2, .inr (2, [.ref a3, .int v4, .int v5])), (a3, .inl (cT 2, 4096, .inr (.inl f3)))]) hP hD [0, 1, 2, 3] rfl rfl (by decide)
        exact W.zret (v := (0 : Int32)) hx hb hr rfl (fun t ht hW => ⟨⟨(0 : Int32), (), rfl, rfl, by rw [ht]; exact hP9, va_K.moved hW.alike hK, hD9⟩, hS.F ht⟩) hS.2.2 dH_areOfOneKind_40
      · rw [if_neg hc] at hf
        refine lv_iconst (v := 1) hx hb dH_areOfOneKind_35 (by decide) ?_
        refine lv_goto (tgt := 40) hx hb dH_areOfOneKind_36 (by decide) ?_
        obtain rfl := Option.some.inj hf
        obtain ⟨hP9, hD9⟩ := xsub (wc := [(a0, .inr (2, [.ref a1, .int v1, .int v2])), (a1, .inl (cT 2, 4096, .inr (.inl f0))), (a2, .inr (2, [.ref a3, .int v4, .int v5])), (a3, .inl (cT 2, 4096, .inr (.inl f3)))]) hP hD [0, 1, 2, 3] rfl rfl (by decide)
        exact W.zret (v := (1 : Int32)) hx hb hr rfl (fun t ht hW => ⟨⟨(1 : Int32), (), rfl, rfl, by rw [ht]; exact hP9, va_K.moved hW.alike hK, hD9⟩, hS.F ht⟩) hS.2.2 dH_areOfOneKind_40
set_option maxHeartbeats 400000000 in
set_option maxRecDepth 100000 in
theorem gH_isPart (l : Launch) (hl9 : l.stackTraces = false) (D : va_G) (cT : Nat → ClassId) (aK aV : Nat → Nat) (sz n : Nat) (a0 : Nat) (a1 : Nat) (a2 : Nat) (a3 : Nat) (x1 : Int32) (x3 : Int32) (f0 : Nat → Int64) (v1 : Int32) (v2 : Int32) (f3 : Nat → Int64) (v4 : Int32) (v5 : Int32) (out : Int32) (hf : fH_isPart n x1 x3 f0 v1 v2 f3 v4 v5 = some out) : xMet l yH_isPart wyH_isPart 2 0 0 49 D cT aK aV sz [.ref a0, .int x1, .ref a2, .int x3] [(a0, .inr (2, [.ref a1, .int v1, .int v2])), (a1, .inl (cT 2, 4096, .inr (.inl f0))), (a2, .inr (2, [.ref a3, .int v4, .int v5])), (a3, .inl (cT 2, 4096, .inr (.inl f3)))] (fun A => va_Qi (fun (r : Int32) (_ : Unit) => r = out) (fun _ t => xB D xcl cT A [(a0, .inr (2, [.ref a1, .int v1, .int v2])), (a1, .inl (cT 2, 4096, .inr (.inl f0))), (a2, .inr (2, [.ref a3, .int v4, .int v5])), (a3, .inl (cT 2, 4096, .inr (.inl f3)))] t) A) := by
  refine Met.ofW (cc := prog_5_method_12_code) (maxL := 5) (ret := (some .boolean)) (by decide) rfl ?_
  intro p e s m args below meth c s₁ B hml hv
  obtain ⟨rfl, hsz, hZ, hP, hK, hD0⟩ := hv
  have hx := B.exec
  have hb := B.bytes
  have hr := B.returns
  have hts := atoms_spec (ws := wyH_isPart) B.pre
  have htx := fun w h => hts w (List.mem_cons_of_mem _ h)
  have hown : s.vm.findClass "ValueBench$Pairs" = some m.cls := findClass_of_methodNamed B.named
  have hlocks := B.notSynchronized
  subst hsz
  have hD := hD0.self (sz := s.heap.size)
  generalize hAe : va_A [(a0, .inr (2, [.ref a1, .int v1, .int v2])), (a1, .inl (cT 2, 4096, .inr (.inl f0))), (a2, .inr (2, [.ref a3, .int v4, .int v5])), (a3, .inl (cT 2, 4096, .inr (.inl f3)))] s.heap.size = A at hD hZ ⊢
  have hA : ∀ q : Nat, s.heap.size ≤ q → A q := fun q h => by rw [← hAe]; exact Or.inr h
  have hS : va_S A s.heap s.heap [] := va_S.rf
  have hP : va_P D xcl [(a0, .inr (2, [.ref a1, .int v1, .int v2])), (a1, .inl (cT 2, 4096, .inr (.inl f0))), (a2, .inr (2, [.ref a3, .int v4, .int v5])), (a3, .inl (cT 2, 4096, .inr (.inl f3)))] s.heap := hP
  have hl := lv_entry ([.ref a0, .int x1, .ref a2, .int x3]) (n := 5) (Nat.le_of_ble_eq_true rfl)
  rw [lg_entry_eq]
  generalize (lg_sl ([.ref a0, .int x1, .ref a2, .int x3]) ++ List.replicate (5 - (lg_sl ([.ref a0, .int x1, .ref a2, .int x3])).length) Slot.unset).toArray = ls at hl ⊢
  have hl : lv_has ls 5 [(0, .ref a0), (1, .int x1), (2, .ref a2), (3, .int x3)] := hl
  unfold fH_isPart at hf
  refine xloopK (σ := Nat × Int32 × Int32 × Int32) (fun n x H locs ls => (x.1 = 1 ∧ fH_isPart_b f0 v1 v2 f3 v4 v5 n x.1 x.2.1 x.2.2.1 x.2.2.2 = some out ∧ va_P D xcl [(a0, .inr (2, [.ref a1, .int v1, .int v2])), (a1, .inl (cT 2, 4096, .inr (.inl f0))), (a2, .inr (2, [.ref a3, .int v4, .int v5])), (a3, .inl (cT 2, 4096, .inr (.inl f3)))] H ∧ va_D A [(a0, .inr (2, [.ref a1, .int v1, .int v2])), (a1, .inl (cT 2, 4096, .inr (.inl f0))), (a2, .inr (2, [.ref a3, .int v4, .int v5])), (a3, .inl (cT 2, 4096, .inr (.inl f3)))] ∧ va_S A s.heap H locs ∧ lv_has ls 5 [(4, .int x.2.1), (0, .ref a0), (1, .int x.2.2.1), (2, .ref a2), (3, .int x.2.2.2)])) (fun x => 3) (fun x H locs ls h => by exact absurd h.2.1 (by rw [fH_isPart_b]; exact fun h => nomatch h)) (fun n ih x H locs ls hv => ?_) (fun key => ?_)
  · obtain ⟨lb, y4, y1, y3⟩ := x
    rcases hv with ⟨hj, hf, hP, hD, hS, hl⟩
    subst hj
    have hf : fH_isPart_b f0 v1 v2 f3 v4 v5 (n + 1) 1 y4 y1 y3 = some out := hf
    rw [fH_isPart_b] at hf
    obtain ⟨hP, hD⟩ : xPD D xcl A [(a0, .inr (2, [.ref a1, .int v1, .int v2])), (a1, .inl (cT 2, 4096, .inr (.inl f0))), (a2, .inr (2, [.ref a3, .int v4, .int v5])), (a3, .inl (cT 2, 4096, .inr (.inl f3)))] H := ⟨hP, hD⟩
    have hl : lv_has ls 5 [(4, .int y4), (0, .ref a0), (1, .int y1), (2, .ref a2), (3, .int y3)] := hl
    refine W.eq (g2 := F0 m 3 ls []) rfl ?_
    refine lv_iload hx hb dH_isPart_3 (lv_at hl 0 rfl) ?_
    refine lv_aload_n hx hb dH_isPart_5 rfl (lv_at hl 1 rfl) ?_
    refine lv_iload_n hx hb dH_isPart_6 rfl (lv_at hl 2 rfl) ?_
    obtain ⟨o1, hq2, hf⟩ := xbind hf
    obtain ⟨hPc, hDc, hFc⟩ := xcut (wc := [(a0, .inr (2, [.ref a1, .int v1, .int v2])), (a1, .inl (cT 2, 4096, .inr (.inl f0)))]) hP hD hS hA [0, 1] rfl rfl (by decide)
    refine va_calli (va_runV (C := "ValueBench$Row") (As := [.int y1]) (rest := [.int y4]) ⟨hx, hb, hml, hown, htx⟩ (gR_length l hl9 D cT aK aV H.size n a0 a1 y1 f0 v1 v2 o1 hq2) ⟨callB_of 1 htx (xw_goodC kw_2_191) rfl rfl rfl (htx _ kw_1_4) (htx _ kw_4_157) ⟨by decide, by decide, by decide +kernel⟩ ⟨Nat.le_of_ble_eq_true rfl, Nat.le_of_ble_eq_true rfl⟩, (htx _ kw_2_189), (htx _ kw_2_190)⟩ ⟨xPre_blind, va_recv hK hP (ci := 2) rfl (q0 := 0) rfl, (fun U hU hW => ⟨rfl, xPre_of hZ hS hFc hPc hDc hK U hU hW⟩)⟩ rfl rfl hl.1 rfl (lv_room (Nat.le_of_ble_eq_true rfl)) dH_isPart_7 ⟨Nat.le_of_ble_eq_true rfl, Nat.le_of_ble_eq_true rfl⟩) hS (fun q _ h => hFc q h) hFc (fun r3 u9 t H1 locs ht hvm hr9 hB hz1 hk1 hS => ?_)
    obtain ⟨hP1, hK1, hD1⟩ := hB
    rw [ht] at hP1
    obtain ⟨hP, hD⟩ := xjoin (W := [(a2, .inr (2, [.ref a3, .int v4, .int v5])), (a3, .inl (cT 2, 4096, .inr (.inl f3))), (a0, .inr (2, [.ref a1, .int v1, .int v2])), (a1, .inl (cT 2, 4096, .inr (.inl f0)))]) hP hD [0, 1] [2, 3] 2 rfl rfl (by decide) (by decide) hk1 hFc hP1 hD1
    generalize H1 = H at hP hS ⊢
    rw [hr9]
    refine W.eq (g2 := F0 m 10 ls [.int o1, .int y4]) rfl ?_
    refine lv_icmp_gt (tgt := 33) hx hb dH_isPart_10 (by decide) (fun hc => ?_) (fun hc => ?_)
    · rw [if_pos hc] at hf
      refine lv_iconst (v := 0) hx hb dH_isPart_33 (by decide) ?_
      obtain rfl := Option.some.inj hf
      obtain ⟨hP9, hD9⟩ := xsub (wc := [(a0, .inr (2, [.ref a1, .int v1, .int v2])), (a1, .inl (cT 2, 4096, .inr (.inl f0))), (a2, .inr (2, [.ref a3, .int v4, .int v5])), (a3, .inl (cT 2, 4096, .inr (.inl f3)))]) hP hD [2, 3, 0, 1] rfl rfl (by decide)
      exact W.zret (v := (0 : Int32)) hx hb hr rfl (fun t ht hW => ⟨⟨(0 : Int32), (), rfl, rfl, by rw [ht]; exact hP9, va_K.moved hW.alike hK, hD9⟩, hS.F ht⟩) hS.2.2 dH_isPart_34
    · rw [if_neg hc] at hf
      refine lv_aload_n hx hb dH_isPart_13 rfl (lv_at hl 1 rfl) ?_
      refine lv_iload_n hx hb dH_isPart_14 rfl (lv_at hl 2 rfl) ?_
      refine lv_iload hx hb dH_isPart_15 (lv_at hl 0 rfl) ?_
      refine lv_aload_n hx hb dH_isPart_17 rfl (lv_at hl 3 rfl) ?_
      refine lv_iload_n hx hb dH_isPart_18 rfl (lv_at hl 4 rfl) ?_
      obtain ⟨o4, hq5, hf⟩ := xbind hf
      obtain ⟨hPc, hDc, hFc⟩ := xcut (wc := [(a0, .inr (2, [.ref a1, .int v1, .int v2])), (a1, .inl (cT 2, 4096, .inr (.inl f0))), (a2, .inr (2, [.ref a3, .int v4, .int v5])), (a3, .inl (cT 2, 4096, .inr (.inl f3)))]) hP hD hS hA [2, 3, 0, 1] rfl rfl (by decide)
      refine va_calli (va_runV (C := "ValueBench$Row") (As := [.int y1, .int y4, .ref a2, .int y3]) (rest := []) ⟨hx, hb, hml, hown, htx⟩ (gR_hasParta l hl9 D cT aK aV H.size n a0 a1 a2 a3 y1 y4 y3 f0 v1 v2 f3 v4 v5 o4 hq5) ⟨callB_of 4 htx (xw_goodC kw_3_217) rfl rfl rfl (htx _ kw_1_4) (htx _ kw_4_174) ⟨by decide, by decide, by decide +kernel⟩ ⟨Nat.le_of_ble_eq_true rfl, Nat.le_of_ble_eq_true rfl⟩, (htx _ kw_3_215), (htx _ kw_3_216)⟩ ⟨xPre_blind, va_recv hK hP (ci := 2) rfl (q0 := 2) rfl, (fun U hU hW => ⟨rfl, xPre_of hZ hS hFc hPc hDc hK U hU hW⟩)⟩ rfl rfl hl.1 rfl (lv_room (Nat.le_of_ble_eq_true rfl)) dH_isPart_19 ⟨Nat.le_of_ble_eq_true rfl, Nat.le_of_ble_eq_true rfl⟩) hS (fun q _ h => hFc q h) hFc (fun r6 u9 t H1 locs ht hvm hr9 hB hz1 hk1 hS => ?_)
      obtain ⟨hP1, hK1, hD1⟩ := hB
      rw [ht] at hP1
      obtain ⟨hP, hD⟩ := xjoin (W := [(a0, .inr (2, [.ref a1, .int v1, .int v2])), (a1, .inl (cT 2, 4096, .inr (.inl f0))), (a2, .inr (2, [.ref a3, .int v4, .int v5])), (a3, .inl (cT 2, 4096, .inr (.inl f3)))]) hP hD [2, 3, 0, 1] [] 0 rfl rfl (by decide) (by decide) hk1 hFc hP1 hD1
      generalize H1 = H at hP hS ⊢
      rw [hr9]
      refine W.eq (g2 := F0 m 22 ls [.int o4]) rfl ?_
      refine lv_if_eq (tgt := 27) hx hb dH_isPart_22 (by decide) (fun hc => ?_) (fun hc => ?_)
      · rw [if_pos hc] at hf
        refine lv_iinc (v := (y4 + 1)) (lv' := [(4, .int (y4 + 1)), (0, .ref a0), (1, .int y1), (2, .ref a2), (3, .int y3)]) hx hb dH_isPart_27 hl (k := 0) rfl rfl (by decide) rfl (fun ls hl => ?_)
        refine lv_goto (tgt := 3) hx hb dH_isPart_30 (by decide) ?_
        obtain ⟨hP9, hD9⟩ := xsub (wc := [(a0, .inr (2, [.ref a1, .int v1, .int v2])), (a1, .inl (cT 2, 4096, .inr (.inl f0))), (a2, .inr (2, [.ref a3, .int v4, .int v5])), (a3, .inl (cT 2, 4096, .inr (.inl f3)))]) hP hD [0, 1, 2, 3] rfl rfl (by decide)
        exact ih (1, (y4 + 1), y1, y3) _ _ ls (⟨rfl, hf, hP9, hD9, hS, lv_sub hl [0, 1, 2, 3, 4] rfl⟩)
      · rw [if_neg hc] at hf
        refine lv_iconst (v := 1) hx hb dH_isPart_25 (by decide) ?_
        obtain rfl := Option.some.inj hf
        obtain ⟨hP9, hD9⟩ := xsub (wc := [(a0, .inr (2, [.ref a1, .int v1, .int v2])), (a1, .inl (cT 2, 4096, .inr (.inl f0))), (a2, .inr (2, [.ref a3, .int v4, .int v5])), (a3, .inl (cT 2, 4096, .inr (.inl f3)))]) hP hD [0, 1, 2, 3] rfl rfl (by decide)
        exact W.zret (v := (1 : Int32)) hx hb hr rfl (fun t ht hW => ⟨⟨(1 : Int32), (), rfl, rfl, by rw [ht]; exact hP9, va_K.moved hW.alike hK, hD9⟩, hS.F ht⟩) hS.2.2 dH_isPart_26
  refine lv_iconst (v := 0) hx hb dH_isPart_0 (by decide) ?_
  refine lv_istore (lv' := [(4, .int 0), (0, .ref a0), (1, .int x1), (2, .ref a2), (3, .int x3)]) hx hb dH_isPart_1 hl (by decide) rfl (fun ls hl => ?_)
  obtain ⟨hP9, hD9⟩ := xsub (wc := [(a0, .inr (2, [.ref a1, .int v1, .int v2])), (a1, .inl (cT 2, 4096, .inr (.inl f0))), (a2, .inr (2, [.ref a3, .int v4, .int v5])), (a3, .inl (cT 2, 4096, .inr (.inl f3)))]) hP hD [0, 1, 2, 3] rfl rfl (by decide)
  exact key n (1, 0, x1, x3) _ _ ls (⟨rfl, hf, hP9, hD9, hS, lv_sub hl [0, 1, 2, 3, 4] rfl⟩)
set_option maxHeartbeats 400000000 in
set_option maxRecDepth 100000 in
theorem gH_isInSome (l : Launch) (hl9 : l.stackTraces = false) (D : va_G) (cT : Nat → ClassId) (aK aV : Nat → Nat) (fr lo : Nat) (rec : Int32 → Int32 → Int32 → (Nat → Int64) → Int32 → Int32 → (Nat → Int64) → Int32 → Int32 → Option (Int32)) (hrec : ∀ (sz : Nat) (a0 : Nat) (a1 : Nat) (a2 : Nat) (a3 : Nat) (x1 : Int32) (x3 : Int32) (x4 : Int32) (f0 : Nat → Int64) (v1 : Int32) (v2 : Int32) (f3 : Nat → Int64) (v4 : Int32) (v5 : Int32) (out : Int32), rec x1 x3 x4 f0 v1 v2 f3 v4 v5 = some out → xMet l yH_isIn wyH_isIn fr 0 0 lo D cT aK aV sz [.ref a0, .int x1, .ref a2, .int x3, .int x4] [(a0, .inr (2, [.ref a1, .int v1, .int v2])), (a1, .inl (cT 2, 4096, .inr (.inl f0))), (a2, .inr (2, [.ref a3, .int v4, .int v5])), (a3, .inl (cT 2, 4096, .inr (.inl f3)))] (fun A => va_Qi (fun (r : Int32) (_ : Unit) => r = out) (fun _ t => xB D xcl cT A [(a0, .inr (2, [.ref a1, .int v1, .int v2])), (a1, .inl (cT 2, 4096, .inr (.inl f0))), (a2, .inr (2, [.ref a3, .int v4, .int v5])), (a3, .inl (cT 2, 4096, .inr (.inl f3)))] t) A)) (sz n : Nat) (a0 : Nat) (a1 : Nat) (a2 : Nat) (a3 : Nat) (x1 : Int32) (x3 : Int32) (x4 : Int32) (f0 : Nat → Int64) (v1 : Int32) (v2 : Int32) (f3 : Nat → Int64) (v4 : Int32) (v5 : Int32) (out : Int32) (hf : fH_isInSome rec n x1 x3 x4 f0 v1 v2 f3 v4 v5 = some out) : xMet l yH_isInSome wyH_isInSome (fr + 1) 0 0 (lo + 24) D cT aK aV sz [.ref a0, .int x1, .ref a2, .int x3, .int x4] [(a0, .inr (2, [.ref a1, .int v1, .int v2])), (a1, .inl (cT 2, 4096, .inr (.inl f0))), (a2, .inr (2, [.ref a3, .int v4, .int v5])), (a3, .inl (cT 2, 4096, .inr (.inl f3)))] (fun A => va_Qi (fun (r : Int32) (_ : Unit) => r = out) (fun _ t => xB D xcl cT A [(a0, .inr (2, [.ref a1, .int v1, .int v2])), (a1, .inl (cT 2, 4096, .inr (.inl f0))), (a2, .inr (2, [.ref a3, .int v4, .int v5])), (a3, .inl (cT 2, 4096, .inr (.inl f3)))] t) A) := by
  refine Met.ofW (cc := prog_5_method_14_code) (maxL := 7) (ret := (some .boolean)) (by decide) rfl ?_
  intro p e s m args below meth c s₁ B hml hv
  obtain ⟨rfl, hsz, hZ, hP, hK, hD0⟩ := hv
  have hx := B.exec
  have hb := B.bytes
  have hr := B.returns
  have hts := atoms_spec (ws := wyH_isInSome) B.pre
  have htx := fun w h => hts w (List.mem_cons_of_mem _ h)
  have hown : s.vm.findClass "ValueBench$Pairs" = some m.cls := findClass_of_methodNamed B.named
  have hlocks := B.notSynchronized
  subst hsz
  have hD := hD0.self (sz := s.heap.size)
  generalize hAe : va_A [(a0, .inr (2, [.ref a1, .int v1, .int v2])), (a1, .inl (cT 2, 4096, .inr (.inl f0))), (a2, .inr (2, [.ref a3, .int v4, .int v5])), (a3, .inl (cT 2, 4096, .inr (.inl f3)))] s.heap.size = A at hD hZ ⊢
  have hA : ∀ q : Nat, s.heap.size ≤ q → A q := fun q h => by rw [← hAe]; exact Or.inr h
  have hS : va_S A s.heap s.heap [] := va_S.rf
  have hP : va_P D xcl [(a0, .inr (2, [.ref a1, .int v1, .int v2])), (a1, .inl (cT 2, 4096, .inr (.inl f0))), (a2, .inr (2, [.ref a3, .int v4, .int v5])), (a3, .inl (cT 2, 4096, .inr (.inl f3)))] s.heap := hP
  have hl := lv_entry ([.ref a0, .int x1, .ref a2, .int x3, .int x4]) (n := 7) (Nat.le_of_ble_eq_true rfl)
  rw [lg_entry_eq]
  generalize (lg_sl ([.ref a0, .int x1, .ref a2, .int x3, .int x4]) ++ List.replicate (7 - (lg_sl ([.ref a0, .int x1, .ref a2, .int x3, .int x4])).length) Slot.unset).toArray = ls at hl ⊢
  have hl : lv_has ls 7 [(0, .ref a0), (1, .int x1), (2, .ref a2), (3, .int x3), (4, .int x4)] := hl
  unfold fH_isInSome at hf
  refine xloopK (σ := Nat × Int32 × Int32 × Int32 × Int32 × Int32) (fun n x H locs ls => (x.1 = 1 ∧ fH_isInSome_b rec f0 v1 v2 f3 v4 v5 n x.1 x.2.1 x.2.2.1 x.2.2.2.1 x.2.2.2.2.1 x.2.2.2.2.2 = some out ∧ va_P D xcl [(a0, .inr (2, [.ref a1, .int v1, .int v2])), (a1, .inl (cT 2, 4096, .inr (.inl f0))), (a2, .inr (2, [.ref a3, .int v4, .int v5])), (a3, .inl (cT 2, 4096, .inr (.inl f3)))] H ∧ va_D A [(a0, .inr (2, [.ref a1, .int v1, .int v2])), (a1, .inl (cT 2, 4096, .inr (.inl f0))), (a2, .inr (2, [.ref a3, .int v4, .int v5])), (a3, .inl (cT 2, 4096, .inr (.inl f3)))] ∧ va_S A s.heap H locs ∧ lv_has ls 7 [(6, .int x.2.1), (5, .int x.2.2.1), (0, .ref a0), (1, .int x.2.2.2.1), (2, .ref a2), (3, .int x.2.2.2.2.1), (4, .int x.2.2.2.2.2)])) (fun x => 8) (fun x H locs ls h => by exact absurd h.2.1 (by rw [fH_isInSome_b]; exact fun h => nomatch h)) (fun n ih x H locs ls hv => ?_) (fun key => ?_)
  · obtain ⟨lb, y6, y5, y1, y3, y4⟩ := x
    rcases hv with ⟨hj, hf, hP, hD, hS, hl⟩
    subst hj
    have hf : fH_isInSome_b rec f0 v1 v2 f3 v4 v5 (n + 1) 1 y6 y5 y1 y3 y4 = some out := hf
    rw [fH_isInSome_b] at hf
    obtain ⟨hP, hD⟩ : xPD D xcl A [(a0, .inr (2, [.ref a1, .int v1, .int v2])), (a1, .inl (cT 2, 4096, .inr (.inl f0))), (a2, .inr (2, [.ref a3, .int v4, .int v5])), (a3, .inl (cT 2, 4096, .inr (.inl f3)))] H := ⟨hP, hD⟩
    have hl : lv_has ls 7 [(6, .int y6), (5, .int y5), (0, .ref a0), (1, .int y1), (2, .ref a2), (3, .int y3), (4, .int y4)] := hl
    refine W.eq (g2 := F0 m 8 ls []) rfl ?_
    refine lv_iload hx hb dH_isInSome_8 (lv_at hl 0 rfl) ?_
    refine lv_aload_n hx hb dH_isInSome_10 rfl (lv_at hl 2 rfl) ?_
    refine lv_iload_n hx hb dH_isInSome_11 rfl (lv_at hl 3 rfl) ?_
    obtain ⟨o1, hq2, hf⟩ := xbind hf
    obtain ⟨hPc, hDc, hFc⟩ := xcut (wc := [(a0, .inr (2, [.ref a1, .int v1, .int v2])), (a1, .inl (cT 2, 4096, .inr (.inl f0)))]) hP hD hS hA [0, 1] rfl rfl (by decide)
    refine va_calli (va_runV (C := "ValueBench$Row") (As := [.int y1]) (rest := [.int y6]) ⟨hx, hb, hml, hown, htx⟩ (gR_length l hl9 D cT aK aV H.size n a0 a1 y1 f0 v1 v2 o1 hq2) ⟨callB_of 1 htx (xw_goodC kw_2_191) rfl rfl rfl (htx _ kw_1_4) (htx _ kw_4_157) ⟨by decide, by decide, by decide +kernel⟩ ⟨Nat.le_of_ble_eq_true rfl, Nat.le_of_ble_eq_true rfl⟩, (htx _ kw_2_189), (htx _ kw_2_190)⟩ ⟨xPre_blind, va_recv hK hP (ci := 2) rfl (q0 := 0) rfl, (fun U hU hW => ⟨rfl, xPre_of hZ hS hFc hPc hDc hK U hU hW⟩)⟩ rfl rfl hl.1 rfl (lv_room (Nat.le_of_ble_eq_true rfl)) dH_isInSome_12 ⟨Nat.le_of_ble_eq_true rfl, Nat.le_of_ble_eq_true rfl⟩) hS (fun q _ h => hFc q h) hFc (fun r3 u9 t H1 locs ht hvm hr9 hB hz1 hk1 hS => ?_)
    obtain ⟨hP1, hK1, hD1⟩ := hB
    rw [ht] at hP1
    obtain ⟨hP, hD⟩ := xjoin (W := [(a2, .inr (2, [.ref a3, .int v4, .int v5])), (a3, .inl (cT 2, 4096, .inr (.inl f3))), (a0, .inr (2, [.ref a1, .int v1, .int v2])), (a1, .inl (cT 2, 4096, .inr (.inl f0)))]) hP hD [0, 1] [2, 3] 2 rfl rfl (by decide) (by decide) hk1 hFc hP1 hD1
    generalize H1 = H at hP hS ⊢
    rw [hr9]
    refine W.eq (g2 := F0 m 15 ls [.int o1, .int y6]) rfl ?_
    refine lv_icmp_ge (tgt := 49) hx hb dH_isInSome_15 (by decide) (fun hc => ?_) (fun hc => ?_)
    · rw [if_pos hc] at hf
      refine lv_iconst (v := 0) hx hb dH_isInSome_49 (by decide) ?_
      obtain rfl := Option.some.inj hf
      obtain ⟨hP9, hD9⟩ := xsub (wc := [(a0, .inr (2, [.ref a1, .int v1, .int v2])), (a1, .inl (cT 2, 4096, .inr (.inl f0))), (a2, .inr (2, [.ref a3, .int v4, .int v5])), (a3, .inl (cT 2, 4096, .inr (.inl f3)))]) hP hD [2, 3, 0, 1] rfl rfl (by decide)
      exact W.zret (v := (0 : Int32)) hx hb hr rfl (fun t ht hW => ⟨⟨(0 : Int32), (), rfl, rfl, by rw [ht]; exact hP9, va_K.moved hW.alike hK, hD9⟩, hS.F ht⟩) hS.2.2 dH_isInSome_50
    · rw [if_neg hc] at hf
      refine lv_aload_n hx hb dH_isInSome_18 rfl (lv_at hl 2 rfl) ?_
      refine lv_iload hx hb dH_isInSome_19 (lv_at hl 1 rfl) ?_
      refine lv_aload_n hx hb dH_isInSome_21 rfl (lv_at hl 4 rfl) ?_
      refine lv_iload_n hx hb dH_isInSome_22 rfl (lv_at hl 5 rfl) ?_
      refine lv_iload hx hb dH_isInSome_23 (lv_at hl 6 rfl) ?_
      refine lv_iconst (v := 1) hx hb dH_isInSome_25 (by decide) ?_
      refine lv_iadd hx hb dH_isInSome_26 ?_
      obtain ⟨o4, hq5, hf⟩ := xbind hf
      obtain ⟨hPc, hDc, hFc⟩ := xcut (wc := [(a0, .inr (2, [.ref a1, .int v1, .int v2])), (a1, .inl (cT 2, 4096, .inr (.inl f0))), (a2, .inr (2, [.ref a3, .int v4, .int v5])), (a3, .inl (cT 2, 4096, .inr (.inl f3)))]) hP hD hS hA [2, 3, 0, 1] rfl rfl (by decide)
      refine va_calli (va_runS (As := [.ref a0, .int y5, .ref a2, .int y3, .int (y4 + (1 : Int32))]) (rest := []) ⟨hx, hb, hml, hown, htx⟩ (hrec H.size a0 a1 a2 a3 y5 y3 (y4 + (1 : Int32)) f0 v1 v2 f3 v4 v5 o4 hq5) ⟨callB_of 5 htx (xw_goodC kw_4_170) rfl rfl rfl (htx _ kw_1_27) (htx _ kw_4_168) ⟨by decide, by decide, by decide +kernel⟩ ⟨(by show (fr) + 1 ≤ fr + 1; omega), (by show 8 + (5 + 11) + (lo) ≤ lo + 24; omega)⟩, htx _ kw_4_169⟩ ⟨xPre_blind, (fun U hU hW => ⟨rfl, xPre_of hZ hS hFc hPc hDc hK U hU hW⟩)⟩ rfl rfl hl.1 rfl (lv_room (Nat.le_of_ble_eq_true rfl)) dH_isInSome_27 ⟨Nat.le_of_ble_eq_true rfl, Nat.le_of_ble_eq_true rfl⟩) hS (fun q _ h => hFc q h) hFc (fun r6 u9 t H1 locs ht hvm hr9 hB hz1 hk1 hS => ?_)
      obtain ⟨hP1, hK1, hD1⟩ := hB
      rw [ht] at hP1
      obtain ⟨hP, hD⟩ := xjoin (W := [(a0, .inr (2, [.ref a1, .int v1, .int v2])), (a1, .inl (cT 2, 4096, .inr (.inl f0))), (a2, .inr (2, [.ref a3, .int v4, .int v5])), (a3, .inl (cT 2, 4096, .inr (.inl f3)))]) hP hD [2, 3, 0, 1] [] 0 rfl rfl (by decide) (by decide) hk1 hFc hP1 hD1
      generalize H1 = H at hP hS ⊢
      rw [hr9]
      refine W.eq (g2 := F0 m 30 ls [.int o4]) rfl ?_
      refine lv_if_eq (tgt := 35) hx hb dH_isInSome_30 (by decide) (fun hc => ?_) (fun hc => ?_)
      · rw [if_pos hc] at hf
        refine lv_aload_n hx hb dH_isInSome_35 rfl (lv_at hl 2 rfl) ?_
        refine lv_iload hx hb dH_isInSome_36 (lv_at hl 1 rfl) ?_
        obtain ⟨o7, hq8, hf⟩ := xbind hf
        obtain ⟨hPc, hDc, hFc⟩ := xcut (wc := [(a0, .inr (2, [.ref a1, .int v1, .int v2])), (a1, .inl (cT 2, 4096, .inr (.inl f0)))]) hP hD hS hA [0, 1] rfl rfl (by decide)
        refine va_calli (va_runV (C := "ValueBench$Row") (As := [.int y5]) (rest := []) ⟨hx, hb, hml, hown, htx⟩ (gR_after l hl9 D cT aK aV H.size n a0 a1 y5 f0 v1 v2 o7 hq8) ⟨callB_of 1 htx (xw_goodC kw_2_196) rfl rfl rfl (htx _ kw_1_4) (htx _ kw_4_181) ⟨by decide, by decide, by decide +kernel⟩ ⟨Nat.le_of_ble_eq_true rfl, Nat.le_of_ble_eq_true rfl⟩, (htx _ kw_2_194), (htx _ kw_2_195)⟩ ⟨xPre_blind, va_recv hK hP (ci := 2) rfl (q0 := 0) rfl, (fun U hU hW => ⟨rfl, xPre_of hZ hS hFc hPc hDc hK U hU hW⟩)⟩ rfl rfl hl.1 rfl (lv_room (Nat.le_of_ble_eq_true rfl)) dH_isInSome_38 ⟨Nat.le_of_ble_eq_true rfl, Nat.le_of_ble_eq_true rfl⟩) hS (fun q _ h => hFc q h) hFc (fun r9 u9 t H1 locs ht hvm hr9 hB hz1 hk1 hS => ?_)
        obtain ⟨hP1, hK1, hD1⟩ := hB
        rw [ht] at hP1
        obtain ⟨hP, hD⟩ := xjoin (W := [(a2, .inr (2, [.ref a3, .int v4, .int v5])), (a3, .inl (cT 2, 4096, .inr (.inl f3))), (a0, .inr (2, [.ref a1, .int v1, .int v2])), (a1, .inl (cT 2, 4096, .inr (.inl f0)))]) hP hD [0, 1] [2, 3] 2 rfl rfl (by decide) (by decide) hk1 hFc hP1 hD1
        generalize H1 = H at hP hS ⊢
        rw [hr9]
        refine W.eq (g2 := F0 m 41 ls [.int o7]) rfl ?_
        refine lv_istore (lv' := [(5, .int o7), (6, .int y6), (0, .ref a0), (1, .int y1), (2, .ref a2), (3, .int y3), (4, .int y4)]) hx hb dH_isInSome_41 hl (by decide) rfl (fun ls hl => ?_)
        refine lv_iinc (v := (y6 + 1)) (lv' := [(6, .int (y6 + 1)), (5, .int o7), (0, .ref a0), (1, .int y1), (2, .ref a2), (3, .int y3), (4, .int y4)]) hx hb dH_isInSome_43 hl (k := 1) rfl rfl (by decide) rfl (fun ls hl => ?_)
        refine lv_goto (tgt := 8) hx hb dH_isInSome_46 (by decide) ?_
        obtain ⟨hP9, hD9⟩ := xsub (wc := [(a0, .inr (2, [.ref a1, .int v1, .int v2])), (a1, .inl (cT 2, 4096, .inr (.inl f0))), (a2, .inr (2, [.ref a3, .int v4, .int v5])), (a3, .inl (cT 2, 4096, .inr (.inl f3)))]) hP hD [2, 3, 0, 1] rfl rfl (by decide)
        exact ih (1, (y6 + 1), o7, y1, y3, y4) _ _ ls (⟨rfl, hf, hP9, hD9, hS, lv_sub hl [0, 1, 2, 3, 4, 5, 6] rfl⟩)
      · rw [if_neg hc] at hf
        refine lv_iconst (v := 1) hx hb dH_isInSome_33 (by decide) ?_
        obtain rfl := Option.some.inj hf
        obtain ⟨hP9, hD9⟩ := xsub (wc := [(a0, .inr (2, [.ref a1, .int v1, .int v2])), (a1, .inl (cT 2, 4096, .inr (.inl f0))), (a2, .inr (2, [.ref a3, .int v4, .int v5])), (a3, .inl (cT 2, 4096, .inr (.inl f3)))]) hP hD [0, 1, 2, 3] rfl rfl (by decide)
        exact W.zret (v := (1 : Int32)) hx hb hr rfl (fun t ht hW => ⟨⟨(1 : Int32), (), rfl, rfl, by rw [ht]; exact hP9, va_K.moved hW.alike hK, hD9⟩, hS.F ht⟩) hS.2.2 dH_isInSome_34
  refine lv_iload_n hx hb dH_isInSome_0 rfl (lv_at hl 1 rfl) ?_
  refine lv_iconst (v := 1) hx hb dH_isInSome_1 (by decide) ?_
  refine lv_iadd hx hb dH_isInSome_2 ?_
  refine lv_istore (lv' := [(5, .int (x1 + (1 : Int32))), (0, .ref a0), (1, .int x1), (2, .ref a2), (3, .int x3), (4, .int x4)]) hx hb dH_isInSome_3 hl (by decide) rfl (fun ls hl => ?_)
  refine lv_iconst (v := 0) hx hb dH_isInSome_5 (by decide) ?_
  refine lv_istore (lv' := [(6, .int 0), (5, .int (x1 + (1 : Int32))), (0, .ref a0), (1, .int x1), (2, .ref a2), (3, .int x3), (4, .int x4)]) hx hb dH_isInSome_6 hl (by decide) rfl (fun ls hl => ?_)
  obtain ⟨hP9, hD9⟩ := xsub (wc := [(a0, .inr (2, [.ref a1, .int v1, .int v2])), (a1, .inl (cT 2, 4096, .inr (.inl f0))), (a2, .inr (2, [.ref a3, .int v4, .int v5])), (a3, .inl (cT 2, 4096, .inr (.inl f3)))]) hP hD [0, 1, 2, 3] rfl rfl (by decide)
  exact key n (1, 0, (x1 + (1 : Int32)), x1, x3, x4) _ _ ls (⟨rfl, hf, hP9, hD9, hS, lv_sub hl [0, 1, 2, 3, 4, 5, 6] rfl⟩)
set_option maxHeartbeats 400000000 in
set_option maxRecDepth 100000 in
theorem gH_areElementsIn (l : Launch) (hl9 : l.stackTraces = false) (D : va_G) (cT : Nat → ClassId) (aK aV : Nat → Nat) (fr lo : Nat) (rec : Int32 → Int32 → Int32 → (Nat → Int64) → Int32 → Int32 → (Nat → Int64) → Int32 → Int32 → Option (Int32)) (hrec : ∀ (sz : Nat) (a0 : Nat) (a1 : Nat) (a2 : Nat) (a3 : Nat) (x1 : Int32) (x3 : Int32) (x4 : Int32) (f0 : Nat → Int64) (v1 : Int32) (v2 : Int32) (f3 : Nat → Int64) (v4 : Int32) (v5 : Int32) (out : Int32), rec x1 x3 x4 f0 v1 v2 f3 v4 v5 = some out → xMet l yH_isIn wyH_isIn fr 0 0 lo D cT aK aV sz [.ref a0, .int x1, .ref a2, .int x3, .int x4] [(a0, .inr (2, [.ref a1, .int v1, .int v2])), (a1, .inl (cT 2, 4096, .inr (.inl f0))), (a2, .inr (2, [.ref a3, .int v4, .int v5])), (a3, .inl (cT 2, 4096, .inr (.inl f3)))] (fun A => va_Qi (fun (r : Int32) (_ : Unit) => r = out) (fun _ t => xB D xcl cT A [(a0, .inr (2, [.ref a1, .int v1, .int v2])), (a1, .inl (cT 2, 4096, .inr (.inl f0))), (a2, .inr (2, [.ref a3, .int v4, .int v5])), (a3, .inl (cT 2, 4096, .inr (.inl f3)))] t) A)) (sz n : Nat) (a0 : Nat) (a1 : Nat) (a2 : Nat) (a3 : Nat) (x1 : Int32) (x3 : Int32) (x4 : Int32) (f0 : Nat → Int64) (v1 : Int32) (v2 : Int32) (f3 : Nat → Int64) (v4 : Int32) (v5 : Int32) (out : Int32) (hf : fH_areElementsIn rec n x1 x3 x4 f0 v1 v2 f3 v4 v5 = some out) : xMet l yH_areElementsIn wyH_areElementsIn (fr + 2) 0 0 (lo + 50) D cT aK aV sz [.ref a0, .int x1, .ref a2, .int x3, .int x4] [(a0, .inr (2, [.ref a1, .int v1, .int v2])), (a1, .inl (cT 2, 4096, .inr (.inl f0))), (a2, .inr (2, [.ref a3, .int v4, .int v5])), (a3, .inl (cT 2, 4096, .inr (.inl f3)))] (fun A => va_Qi (fun (r : Int32) (_ : Unit) => r = out) (fun _ t => xB D xcl cT A [(a0, .inr (2, [.ref a1, .int v1, .int v2])), (a1, .inl (cT 2, 4096, .inr (.inl f0))), (a2, .inr (2, [.ref a3, .int v4, .int v5])), (a3, .inl (cT 2, 4096, .inr (.inl f3)))] t) A) := by
  refine Met.ofW (cc := prog_5_method_13_code) (maxL := 7) (ret := (some .boolean)) (by decide) rfl ?_
  intro p e s m args below meth c s₁ B hml hv
  obtain ⟨rfl, hsz, hZ, hP, hK, hD0⟩ := hv
  have hx := B.exec
  have hb := B.bytes
  have hr := B.returns
  have hts := atoms_spec (ws := wyH_areElementsIn) B.pre
  have htx := fun w h => hts w (List.mem_cons_of_mem _ h)
  have hown : s.vm.findClass "ValueBench$Pairs" = some m.cls := findClass_of_methodNamed B.named
  have hlocks := B.notSynchronized
  subst hsz
  have hD := hD0.self (sz := s.heap.size)
  generalize hAe : va_A [(a0, .inr (2, [.ref a1, .int v1, .int v2])), (a1, .inl (cT 2, 4096, .inr (.inl f0))), (a2, .inr (2, [.ref a3, .int v4, .int v5])), (a3, .inl (cT 2, 4096, .inr (.inl f3)))] s.heap.size = A at hD hZ ⊢
  have hA : ∀ q : Nat, s.heap.size ≤ q → A q := fun q h => by rw [← hAe]; exact Or.inr h
  have hS : va_S A s.heap s.heap [] := va_S.rf
  have hP : va_P D xcl [(a0, .inr (2, [.ref a1, .int v1, .int v2])), (a1, .inl (cT 2, 4096, .inr (.inl f0))), (a2, .inr (2, [.ref a3, .int v4, .int v5])), (a3, .inl (cT 2, 4096, .inr (.inl f3)))] s.heap := hP
  have hl := lv_entry ([.ref a0, .int x1, .ref a2, .int x3, .int x4]) (n := 7) (Nat.le_of_ble_eq_true rfl)
  rw [lg_entry_eq]
  generalize (lg_sl ([.ref a0, .int x1, .ref a2, .int x3, .int x4]) ++ List.replicate (7 - (lg_sl ([.ref a0, .int x1, .ref a2, .int x3, .int x4])).length) Slot.unset).toArray = ls at hl ⊢
  have hl : lv_has ls 7 [(0, .ref a0), (1, .int x1), (2, .ref a2), (3, .int x3), (4, .int x4)] := hl
  unfold fH_areElementsIn at hf
  refine xloopK (σ := Nat × Int32 × Int32 × Int32 × Int32 × Int32) (fun n x H locs ls => (x.1 = 1 ∧ fH_areElementsIn_b rec f0 v1 v2 f3 v4 v5 n x.1 x.2.1 x.2.2.1 x.2.2.2.1 x.2.2.2.2.1 x.2.2.2.2.2 = some out ∧ va_P D xcl [(a0, .inr (2, [.ref a1, .int v1, .int v2])), (a1, .inl (cT 2, 4096, .inr (.inl f0))), (a2, .inr (2, [.ref a3, .int v4, .int v5])), (a3, .inl (cT 2, 4096, .inr (.inl f3)))] H ∧ va_D A [(a0, .inr (2, [.ref a1, .int v1, .int v2])), (a1, .inl (cT 2, 4096, .inr (.inl f0))), (a2, .inr (2, [.ref a3, .int v4, .int v5])), (a3, .inl (cT 2, 4096, .inr (.inl f3)))] ∧ va_S A s.heap H locs ∧ lv_has ls 7 [(6, .int x.2.1), (5, .int x.2.2.1), (0, .ref a0), (1, .int x.2.2.2.1), (2, .ref a2), (3, .int x.2.2.2.2.1), (4, .int x.2.2.2.2.2)])) (fun x => 8) (fun x H locs ls h => by exact absurd h.2.1 (by rw [fH_areElementsIn_b]; exact fun h => nomatch h)) (fun n ih x H locs ls hv => ?_) (fun key => ?_)
  · obtain ⟨lb, y6, y5, y1, y3, y4⟩ := x
    rcases hv with ⟨hj, hf, hP, hD, hS, hl⟩
    subst hj
    have hf : fH_areElementsIn_b rec f0 v1 v2 f3 v4 v5 (n + 1) 1 y6 y5 y1 y3 y4 = some out := hf
    rw [fH_areElementsIn_b] at hf
    obtain ⟨hP, hD⟩ : xPD D xcl A [(a0, .inr (2, [.ref a1, .int v1, .int v2])), (a1, .inl (cT 2, 4096, .inr (.inl f0))), (a2, .inr (2, [.ref a3, .int v4, .int v5])), (a3, .inl (cT 2, 4096, .inr (.inl f3)))] H := ⟨hP, hD⟩
    have hl : lv_has ls 7 [(6, .int y6), (5, .int y5), (0, .ref a0), (1, .int y1), (2, .ref a2), (3, .int y3), (4, .int y4)] := hl
    refine W.eq (g2 := F0 m 8 ls []) rfl ?_
    refine lv_iload hx hb dH_areElementsIn_8 (lv_at hl 0 rfl) ?_
    refine lv_aload_n hx hb dH_areElementsIn_10 rfl (lv_at hl 4 rfl) ?_
    refine lv_iload_n hx hb dH_areElementsIn_11 rfl (lv_at hl 5 rfl) ?_
    obtain ⟨o1, hq2, hf⟩ := xbind hf
    obtain ⟨hPc, hDc, hFc⟩ := xcut (wc := [(a2, .inr (2, [.ref a3, .int v4, .int v5])), (a3, .inl (cT 2, 4096, .inr (.inl f3)))]) hP hD hS hA [2, 3] rfl rfl (by decide)
    refine va_calli (va_runV (C := "ValueBench$Row") (As := [.int y3]) (rest := [.int y6]) ⟨hx, hb, hml, hown, htx⟩ (gR_length l hl9 D cT aK aV H.size n a2 a3 y3 f3 v4 v5 o1 hq2) ⟨callB_of 1 htx (xw_goodC kw_2_191) rfl rfl rfl (htx _ kw_1_4) (htx _ kw_4_157) ⟨by decide, by decide, by decide +kernel⟩ ⟨Nat.le_of_ble_eq_true rfl, Nat.le_of_ble_eq_true rfl⟩, (htx _ kw_2_189), (htx _ kw_2_190)⟩ ⟨xPre_blind, va_recv hK hP (ci := 2) rfl (q0 := 2) rfl, (fun U hU hW => ⟨rfl, xPre_of hZ hS hFc hPc hDc hK U hU hW⟩)⟩ rfl rfl hl.1 rfl (lv_room (Nat.le_of_ble_eq_true rfl)) dH_areElementsIn_12 ⟨Nat.le_of_ble_eq_true rfl, Nat.le_of_ble_eq_true rfl⟩) hS (fun q _ h => hFc q h) hFc (fun r3 u9 t H1 locs ht hvm hr9 hB hz1 hk1 hS => ?_)
    obtain ⟨hP1, hK1, hD1⟩ := hB
    rw [ht] at hP1
    obtain ⟨hP, hD⟩ := xjoin (W := [(a0, .inr (2, [.ref a1, .int v1, .int v2])), (a1, .inl (cT 2, 4096, .inr (.inl f0))), (a2, .inr (2, [.ref a3, .int v4, .int v5])), (a3, .inl (cT 2, 4096, .inr (.inl f3)))]) hP hD [2, 3] [0, 1] 2 rfl rfl (by decide) (by decide) hk1 hFc hP1 hD1
    generalize H1 = H at hP hS ⊢
    rw [hr9]
    refine W.eq (g2 := F0 m 15 ls [.int o1, .int y6]) rfl ?_
    refine lv_icmp_ge (tgt := 47) hx hb dH_areElementsIn_15 (by decide) (fun hc => ?_) (fun hc => ?_)
    · rw [if_pos hc] at hf
      refine lv_iconst (v := 1) hx hb dH_areElementsIn_47 (by decide) ?_
      obtain rfl := Option.some.inj hf
      obtain ⟨hP9, hD9⟩ := xsub (wc := [(a0, .inr (2, [.ref a1, .int v1, .int v2])), (a1, .inl (cT 2, 4096, .inr (.inl f0))), (a2, .inr (2, [.ref a3, .int v4, .int v5])), (a3, .inl (cT 2, 4096, .inr (.inl f3)))]) hP hD [0, 1, 2, 3] rfl rfl (by decide)
      exact W.zret (v := (1 : Int32)) hx hb hr rfl (fun t ht hW => ⟨⟨(1 : Int32), (), rfl, rfl, by rw [ht]; exact hP9, va_K.moved hW.alike hK, hD9⟩, hS.F ht⟩) hS.2.2 dH_areElementsIn_48
    · rw [if_neg hc] at hf
      refine lv_aload_n hx hb dH_areElementsIn_18 rfl (lv_at hl 2 rfl) ?_
      refine lv_iload_n hx hb dH_areElementsIn_19 rfl (lv_at hl 3 rfl) ?_
      refine lv_aload_n hx hb dH_areElementsIn_20 rfl (lv_at hl 4 rfl) ?_
      refine lv_iload hx hb dH_areElementsIn_21 (lv_at hl 1 rfl) ?_
      refine lv_iload hx hb dH_areElementsIn_23 (lv_at hl 6 rfl) ?_
      obtain ⟨o4, hq5, hf⟩ := xbind hf
      obtain ⟨hPc, hDc, hFc⟩ := xcut (wc := [(a0, .inr (2, [.ref a1, .int v1, .int v2])), (a1, .inl (cT 2, 4096, .inr (.inl f0))), (a2, .inr (2, [.ref a3, .int v4, .int v5])), (a3, .inl (cT 2, 4096, .inr (.inl f3)))]) hP hD hS hA [0, 1, 2, 3] rfl rfl (by decide)
      refine va_calli (va_runS (As := [.ref a0, .int y1, .ref a2, .int y5, .int y4]) (rest := []) ⟨hx, hb, hml, hown, htx⟩ (gH_isInSome l hl9 D cT aK aV fr lo rec hrec H.size n a0 a1 a2 a3 y1 y5 y4 f0 v1 v2 f3 v4 v5 o4 hq5) ⟨callB_of 5 htx (xw_goodC kw_4_180) rfl rfl rfl (htx _ kw_1_27) (htx _ kw_4_178) ⟨by decide, by decide, by decide +kernel⟩ ⟨(by show (fr + 1) + 1 ≤ fr + 2; omega), (by show 8 + (7 + 11) + (lo + 24) ≤ lo + 50; omega)⟩, htx _ kw_4_179⟩ ⟨xPre_blind, (fun U hU hW => ⟨rfl, xPre_of hZ hS hFc hPc hDc hK U hU hW⟩)⟩ rfl rfl hl.1 rfl (lv_room (Nat.le_of_ble_eq_true rfl)) dH_areElementsIn_25 ⟨Nat.le_of_ble_eq_true rfl, Nat.le_of_ble_eq_true rfl⟩) hS (fun q _ h => hFc q h) hFc (fun r6 u9 t H1 locs ht hvm hr9 hB hz1 hk1 hS => ?_)
      obtain ⟨hP1, hK1, hD1⟩ := hB
      rw [ht] at hP1
      obtain ⟨hP, hD⟩ := xjoin (W := [(a0, .inr (2, [.ref a1, .int v1, .int v2])), (a1, .inl (cT 2, 4096, .inr (.inl f0))), (a2, .inr (2, [.ref a3, .int v4, .int v5])), (a3, .inl (cT 2, 4096, .inr (.inl f3)))]) hP hD [0, 1, 2, 3] [] 0 rfl rfl (by decide) (by decide) hk1 hFc hP1 hD1
      generalize H1 = H at hP hS ⊢
      rw [hr9]
      refine W.eq (g2 := F0 m 28 ls [.int o4]) rfl ?_
      refine lv_if_ne (tgt := 33) hx hb dH_areElementsIn_28 (by decide) (fun hc => ?_) (fun hc => ?_)
      · rw [if_neg hc] at hf
        refine lv_aload_n hx hb dH_areElementsIn_33 rfl (lv_at hl 4 rfl) ?_
        refine lv_iload hx hb dH_areElementsIn_34 (lv_at hl 1 rfl) ?_
        obtain ⟨o7, hq8, hf⟩ := xbind hf
        obtain ⟨hPc, hDc, hFc⟩ := xcut (wc := [(a2, .inr (2, [.ref a3, .int v4, .int v5])), (a3, .inl (cT 2, 4096, .inr (.inl f3)))]) hP hD hS hA [2, 3] rfl rfl (by decide)
        refine va_calli (va_runV (C := "ValueBench$Row") (As := [.int y5]) (rest := []) ⟨hx, hb, hml, hown, htx⟩ (gR_after l hl9 D cT aK aV H.size n a2 a3 y5 f3 v4 v5 o7 hq8) ⟨callB_of 1 htx (xw_goodC kw_2_196) rfl rfl rfl (htx _ kw_1_4) (htx _ kw_4_181) ⟨by decide, by decide, by decide +kernel⟩ ⟨Nat.le_of_ble_eq_true rfl, Nat.le_of_ble_eq_true rfl⟩, (htx _ kw_2_194), (htx _ kw_2_195)⟩ ⟨xPre_blind, va_recv hK hP (ci := 2) rfl (q0 := 2) rfl, (fun U hU hW => ⟨rfl, xPre_of hZ hS hFc hPc hDc hK U hU hW⟩)⟩ rfl rfl hl.1 rfl (lv_room (Nat.le_of_ble_eq_true rfl)) dH_areElementsIn_36 ⟨Nat.le_of_ble_eq_true rfl, Nat.le_of_ble_eq_true rfl⟩) hS (fun q _ h => hFc q h) hFc (fun r9 u9 t H1 locs ht hvm hr9 hB hz1 hk1 hS => ?_)
        obtain ⟨hP1, hK1, hD1⟩ := hB
        rw [ht] at hP1
        obtain ⟨hP, hD⟩ := xjoin (W := [(a0, .inr (2, [.ref a1, .int v1, .int v2])), (a1, .inl (cT 2, 4096, .inr (.inl f0))), (a2, .inr (2, [.ref a3, .int v4, .int v5])), (a3, .inl (cT 2, 4096, .inr (.inl f3)))]) hP hD [2, 3] [0, 1] 2 rfl rfl (by decide) (by decide) hk1 hFc hP1 hD1
        generalize H1 = H at hP hS ⊢
        rw [hr9]
        refine W.eq (g2 := F0 m 39 ls [.int o7]) rfl ?_
        refine lv_istore (lv' := [(5, .int o7), (6, .int y6), (0, .ref a0), (1, .int y1), (2, .ref a2), (3, .int y3), (4, .int y4)]) hx hb dH_areElementsIn_39 hl (by decide) rfl (fun ls hl => ?_)
        refine lv_iinc (v := (y6 + 1)) (lv' := [(6, .int (y6 + 1)), (5, .int o7), (0, .ref a0), (1, .int y1), (2, .ref a2), (3, .int y3), (4, .int y4)]) hx hb dH_areElementsIn_41 hl (k := 1) rfl rfl (by decide) rfl (fun ls hl => ?_)
        refine lv_goto (tgt := 8) hx hb dH_areElementsIn_44 (by decide) ?_
        obtain ⟨hP9, hD9⟩ := xsub (wc := [(a0, .inr (2, [.ref a1, .int v1, .int v2])), (a1, .inl (cT 2, 4096, .inr (.inl f0))), (a2, .inr (2, [.ref a3, .int v4, .int v5])), (a3, .inl (cT 2, 4096, .inr (.inl f3)))]) hP hD [0, 1, 2, 3] rfl rfl (by decide)
        exact ih (1, (y6 + 1), o7, y1, y3, y4) _ _ ls (⟨rfl, hf, hP9, hD9, hS, lv_sub hl [0, 1, 2, 3, 4, 5, 6] rfl⟩)
      · rw [if_pos hc] at hf
        refine lv_iconst (v := 0) hx hb dH_areElementsIn_31 (by decide) ?_
        obtain rfl := Option.some.inj hf
        obtain ⟨hP9, hD9⟩ := xsub (wc := [(a0, .inr (2, [.ref a1, .int v1, .int v2])), (a1, .inl (cT 2, 4096, .inr (.inl f0))), (a2, .inr (2, [.ref a3, .int v4, .int v5])), (a3, .inl (cT 2, 4096, .inr (.inl f3)))]) hP hD [0, 1, 2, 3] rfl rfl (by decide)
        exact W.zret (v := (0 : Int32)) hx hb hr rfl (fun t ht hW => ⟨⟨(0 : Int32), (), rfl, rfl, by rw [ht]; exact hP9, va_K.moved hW.alike hK, hD9⟩, hS.F ht⟩) hS.2.2 dH_areElementsIn_32
  refine lv_iload_n hx hb dH_areElementsIn_0 rfl (lv_at hl 3 rfl) ?_
  refine lv_iconst (v := 1) hx hb dH_areElementsIn_1 (by decide) ?_
  refine lv_iadd hx hb dH_areElementsIn_2 ?_
  refine lv_istore (lv' := [(5, .int (x3 + (1 : Int32))), (0, .ref a0), (1, .int x1), (2, .ref a2), (3, .int x3), (4, .int x4)]) hx hb dH_areElementsIn_3 hl (by decide) rfl (fun ls hl => ?_)
  refine lv_iconst (v := 0) hx hb dH_areElementsIn_5 (by decide) ?_
  refine lv_istore (lv' := [(6, .int 0), (5, .int (x3 + (1 : Int32))), (0, .ref a0), (1, .int x1), (2, .ref a2), (3, .int x3), (4, .int x4)]) hx hb dH_areElementsIn_6 hl (by decide) rfl (fun ls hl => ?_)
  obtain ⟨hP9, hD9⟩ := xsub (wc := [(a0, .inr (2, [.ref a1, .int v1, .int v2])), (a1, .inl (cT 2, 4096, .inr (.inl f0))), (a2, .inr (2, [.ref a3, .int v4, .int v5])), (a3, .inl (cT 2, 4096, .inr (.inl f3)))]) hP hD [0, 1, 2, 3] rfl rfl (by decide)
  exact key n (1, 0, (x3 + (1 : Int32)), x1, x3, x4) _ _ ls (⟨rfl, hf, hP9, hD9, hS, lv_sub hl [0, 1, 2, 3, 4, 5, 6] rfl⟩)
set_option maxHeartbeats 400000000 in
set_option maxRecDepth 100000 in
theorem gH_areNamesIn (l : Launch) (hl9 : l.stackTraces = false) (D : va_G) (cT : Nat → ClassId) (aK aV : Nat → Nat) (fr lo : Nat) (rec : Int32 → Int32 → Int32 → (Nat → Int64) → Int32 → Int32 → (Nat → Int64) → Int32 → Int32 → Option (Int32)) (hrec : ∀ (sz : Nat) (a0 : Nat) (a1 : Nat) (a2 : Nat) (a3 : Nat) (x1 : Int32) (x3 : Int32) (x4 : Int32) (f0 : Nat → Int64) (v1 : Int32) (v2 : Int32) (f3 : Nat → Int64) (v4 : Int32) (v5 : Int32) (out : Int32), rec x1 x3 x4 f0 v1 v2 f3 v4 v5 = some out → xMet l yH_isIn wyH_isIn fr 0 0 lo D cT aK aV sz [.ref a0, .int x1, .ref a2, .int x3, .int x4] [(a0, .inr (2, [.ref a1, .int v1, .int v2])), (a1, .inl (cT 2, 4096, .inr (.inl f0))), (a2, .inr (2, [.ref a3, .int v4, .int v5])), (a3, .inl (cT 2, 4096, .inr (.inl f3)))] (fun A => va_Qi (fun (r : Int32) (_ : Unit) => r = out) (fun _ t => xB D xcl cT A [(a0, .inr (2, [.ref a1, .int v1, .int v2])), (a1, .inl (cT 2, 4096, .inr (.inl f0))), (a2, .inr (2, [.ref a3, .int v4, .int v5])), (a3, .inl (cT 2, 4096, .inr (.inl f3)))] t) A)) (sz n : Nat) (a0 : Nat) (a1 : Nat) (a2 : Nat) (a3 : Nat) (x1 : Int32) (x3 : Int32) (x4 : Int32) (f0 : Nat → Int64) (v1 : Int32) (v2 : Int32) (f3 : Nat → Int64) (v4 : Int32) (v5 : Int32) (out : Int32) (hf : fH_areNamesIn rec n x1 x3 x4 f0 v1 v2 f3 v4 v5 = some out) : xMet l yH_areNamesIn wyH_areNamesIn (fr + 2) 0 0 (lo + 55) D cT aK aV sz [.ref a0, .int x1, .ref a2, .int x3, .int x4] [(a0, .inr (2, [.ref a1, .int v1, .int v2])), (a1, .inl (cT 2, 4096, .inr (.inl f0))), (a2, .inr (2, [.ref a3, .int v4, .int v5])), (a3, .inl (cT 2, 4096, .inr (.inl f3)))] (fun A => va_Qi (fun (r : Int32) (_ : Unit) => r = out) (fun _ t => xB D xcl cT A [(a0, .inr (2, [.ref a1, .int v1, .int v2])), (a1, .inl (cT 2, 4096, .inr (.inl f0))), (a2, .inr (2, [.ref a3, .int v4, .int v5])), (a3, .inl (cT 2, 4096, .inr (.inl f3)))] t) A) := by
  refine Met.ofW (cc := prog_5_method_15_code) (maxL := 9) (ret := (some .boolean)) (by decide) rfl ?_
  intro p e s m args below meth c s₁ B hml hv
  obtain ⟨rfl, hsz, hZ, hP, hK, hD0⟩ := hv
  have hx := B.exec
  have hb := B.bytes
  have hr := B.returns
  have hts := atoms_spec (ws := wyH_areNamesIn) B.pre
  have htx := fun w h => hts w (List.mem_cons_of_mem _ h)
  have hown : s.vm.findClass "ValueBench$Pairs" = some m.cls := findClass_of_methodNamed B.named
  have hlocks := B.notSynchronized
  subst hsz
  have hD := hD0.self (sz := s.heap.size)
  generalize hAe : va_A [(a0, .inr (2, [.ref a1, .int v1, .int v2])), (a1, .inl (cT 2, 4096, .inr (.inl f0))), (a2, .inr (2, [.ref a3, .int v4, .int v5])), (a3, .inl (cT 2, 4096, .inr (.inl f3)))] s.heap.size = A at hD hZ ⊢
  have hA : ∀ q : Nat, s.heap.size ≤ q → A q := fun q h => by rw [← hAe]; exact Or.inr h
  have hS : va_S A s.heap s.heap [] := va_S.rf
  have hP : va_P D xcl [(a0, .inr (2, [.ref a1, .int v1, .int v2])), (a1, .inl (cT 2, 4096, .inr (.inl f0))), (a2, .inr (2, [.ref a3, .int v4, .int v5])), (a3, .inl (cT 2, 4096, .inr (.inl f3)))] s.heap := hP
  have hl := lv_entry ([.ref a0, .int x1, .ref a2, .int x3, .int x4]) (n := 9) (Nat.le_of_ble_eq_true rfl)
  rw [lg_entry_eq]
  generalize (lg_sl ([.ref a0, .int x1, .ref a2, .int x3, .int x4]) ++ List.replicate (9 - (lg_sl ([.ref a0, .int x1, .ref a2, .int x3, .int x4])).length) Slot.unset).toArray = ls at hl ⊢
  have hl : lv_has ls 9 [(0, .ref a0), (1, .int x1), (2, .ref a2), (3, .int x3), (4, .int x4)] := hl
  unfold fH_areNamesIn at hf
  refine xloopK (σ := Nat × Int32 × Int32 × Int32 × Int32 × Int32) (fun n x H locs ls => (x.1 = 1 ∧ fH_areNamesIn_b rec f0 v1 v2 f3 v4 v5 n x.1 x.2.1 x.2.2.1 x.2.2.2.1 x.2.2.2.2.1 x.2.2.2.2.2 = some out ∧ va_P D xcl [(a0, .inr (2, [.ref a1, .int v1, .int v2])), (a1, .inl (cT 2, 4096, .inr (.inl f0))), (a2, .inr (2, [.ref a3, .int v4, .int v5])), (a3, .inl (cT 2, 4096, .inr (.inl f3)))] H ∧ va_D A [(a0, .inr (2, [.ref a1, .int v1, .int v2])), (a1, .inl (cT 2, 4096, .inr (.inl f0))), (a2, .inr (2, [.ref a3, .int v4, .int v5])), (a3, .inl (cT 2, 4096, .inr (.inl f3)))] ∧ va_S A s.heap H locs ∧ lv_has ls 9 [(6, .int x.2.1), (5, .int x.2.2.1), (0, .ref a0), (1, .int x.2.2.2.1), (2, .ref a2), (3, .int x.2.2.2.2.1), (4, .int x.2.2.2.2.2)])) (fun x => 8) (fun x H locs ls h => by exact absurd h.2.1 (by rw [fH_areNamesIn_b]; exact fun h => nomatch h)) (fun n ih x H locs ls hv => ?_) (fun key => ?_)
  · obtain ⟨lb, y6, y5, y1, y3, y4⟩ := x
    rcases hv with ⟨hj, hf, hP, hD, hS, hl⟩
    subst hj
    have hf : fH_areNamesIn_b rec f0 v1 v2 f3 v4 v5 (n + 1) 1 y6 y5 y1 y3 y4 = some out := hf
    rw [fH_areNamesIn_b] at hf
    obtain ⟨hP, hD⟩ : xPD D xcl A [(a0, .inr (2, [.ref a1, .int v1, .int v2])), (a1, .inl (cT 2, 4096, .inr (.inl f0))), (a2, .inr (2, [.ref a3, .int v4, .int v5])), (a3, .inl (cT 2, 4096, .inr (.inl f3)))] H := ⟨hP, hD⟩
    have hl : lv_has ls 9 [(6, .int y6), (5, .int y5), (0, .ref a0), (1, .int y1), (2, .ref a2), (3, .int y3), (4, .int y4)] := hl
    refine W.eq (g2 := F0 m 8 ls []) rfl ?_
    refine lv_iload hx hb dH_areNamesIn_8 (lv_at hl 0 rfl) ?_
    refine lv_aload_n hx hb dH_areNamesIn_10 rfl (lv_at hl 4 rfl) ?_
    refine lv_iload_n hx hb dH_areNamesIn_11 rfl (lv_at hl 5 rfl) ?_
    obtain ⟨o1, hq2, hf⟩ := xbind hf
    obtain ⟨hPc, hDc, hFc⟩ := xcut (wc := [(a2, .inr (2, [.ref a3, .int v4, .int v5])), (a3, .inl (cT 2, 4096, .inr (.inl f3)))]) hP hD hS hA [2, 3] rfl rfl (by decide)
    refine va_calli (va_runV (C := "ValueBench$Row") (As := [.int y3]) (rest := [.int y6]) ⟨hx, hb, hml, hown, htx⟩ (gR_length l hl9 D cT aK aV H.size n a2 a3 y3 f3 v4 v5 o1 hq2) ⟨callB_of 1 htx (xw_goodC kw_2_191) rfl rfl rfl (htx _ kw_1_4) (htx _ kw_4_157) ⟨by decide, by decide, by decide +kernel⟩ ⟨Nat.le_of_ble_eq_true rfl, Nat.le_of_ble_eq_true rfl⟩, (htx _ kw_2_189), (htx _ kw_2_190)⟩ ⟨xPre_blind, va_recv hK hP (ci := 2) rfl (q0 := 2) rfl, (fun U hU hW => ⟨rfl, xPre_of hZ hS hFc hPc hDc hK U hU hW⟩)⟩ rfl rfl hl.1 rfl (lv_room (Nat.le_of_ble_eq_true rfl)) dH_areNamesIn_12 ⟨Nat.le_of_ble_eq_true rfl, Nat.le_of_ble_eq_true rfl⟩) hS (fun q _ h => hFc q h) hFc (fun r3 u9 t H1 locs ht hvm hr9 hB hz1 hk1 hS => ?_)
    obtain ⟨hP1, hK1, hD1⟩ := hB
    rw [ht] at hP1
    obtain ⟨hP, hD⟩ := xjoin (W := [(a0, .inr (2, [.ref a1, .int v1, .int v2])), (a1, .inl (cT 2, 4096, .inr (.inl f0))), (a2, .inr (2, [.ref a3, .int v4, .int v5])), (a3, .inl (cT 2, 4096, .inr (.inl f3)))]) hP hD [2, 3] [0, 1] 2 rfl rfl (by decide) (by decide) hk1 hFc hP1 hD1
    generalize H1 = H at hP hS ⊢
    rw [hr9]
    refine W.eq (g2 := F0 m 15 ls [.int o1, .int y6]) rfl ?_
    refine lv_icmp_ge (tgt := 74) hx hb dH_areNamesIn_15 (by decide) (fun hc => ?_) (fun hc => ?_)
    · rw [if_pos hc] at hf
      refine lv_iconst (v := 1) hx hb dH_areNamesIn_74 (by decide) ?_
      obtain rfl := Option.some.inj hf
      obtain ⟨hP9, hD9⟩ := xsub (wc := [(a0, .inr (2, [.ref a1, .int v1, .int v2])), (a1, .inl (cT 2, 4096, .inr (.inl f0))), (a2, .inr (2, [.ref a3, .int v4, .int v5])), (a3, .inl (cT 2, 4096, .inr (.inl f3)))]) hP hD [0, 1, 2, 3] rfl rfl (by decide)
      exact W.zret (v := (1 : Int32)) hx hb hr rfl (fun t ht hW => ⟨⟨(1 : Int32), (), rfl, rfl, by rw [ht]; exact hP9, va_K.moved hW.alike hK, hD9⟩, hS.F ht⟩) hS.2.2 dH_areNamesIn_75
    · rw [if_neg hc] at hf
      refine lv_aload_n hx hb dH_areNamesIn_18 rfl (lv_at hl 4 rfl) ?_
      refine lv_iload hx hb dH_areNamesIn_19 (lv_at hl 1 rfl) ?_
      obtain ⟨o4, hq5, hf⟩ := xbind hf
      obtain ⟨hPc, hDc, hFc⟩ := xcut (wc := [(a2, .inr (2, [.ref a3, .int v4, .int v5])), (a3, .inl (cT 2, 4096, .inr (.inl f3)))]) hP hD hS hA [2, 3] rfl rfl (by decide)
      refine va_calli (va_runV (C := "ValueBench$Row") (As := [.int y5]) (rest := []) ⟨hx, hb, hml, hown, htx⟩ (gR_after l hl9 D cT aK aV H.size n a2 a3 y5 f3 v4 v5 o4 hq5) ⟨callB_of 1 htx (xw_goodC kw_2_196) rfl rfl rfl (htx _ kw_1_4) (htx _ kw_4_181) ⟨by decide, by decide, by decide +kernel⟩ ⟨Nat.le_of_ble_eq_true rfl, Nat.le_of_ble_eq_true rfl⟩, (htx _ kw_2_194), (htx _ kw_2_195)⟩ ⟨xPre_blind, va_recv hK hP (ci := 2) rfl (q0 := 2) rfl, (fun U hU hW => ⟨rfl, xPre_of hZ hS hFc hPc hDc hK U hU hW⟩)⟩ rfl rfl hl.1 rfl (lv_room (Nat.le_of_ble_eq_true rfl)) dH_areNamesIn_21 ⟨Nat.le_of_ble_eq_true rfl, Nat.le_of_ble_eq_true rfl⟩) hS (fun q _ h => hFc q h) hFc (fun r6 u9 t H1 locs ht hvm hr9 hB hz1 hk1 hS => ?_)
      obtain ⟨hP1, hK1, hD1⟩ := hB
      rw [ht] at hP1
      obtain ⟨hP, hD⟩ := xjoin (W := [(a0, .inr (2, [.ref a1, .int v1, .int v2])), (a1, .inl (cT 2, 4096, .inr (.inl f0))), (a2, .inr (2, [.ref a3, .int v4, .int v5])), (a3, .inl (cT 2, 4096, .inr (.inl f3)))]) hP hD [2, 3] [0, 1] 2 rfl rfl (by decide) (by decide) hk1 hFc hP1 hD1
      generalize H1 = H at hP hS ⊢
      rw [hr9]
      refine W.eq (g2 := F0 m 24 ls [.int o4]) rfl ?_
      refine lv_istore (lv' := [(7, .int o4), (6, .int y6), (5, .int y5), (0, .ref a0), (1, .int y1), (2, .ref a2), (3, .int y3), (4, .int y4)]) hx hb dH_areNamesIn_24 hl (by decide) rfl (fun ls hl => ?_)
      refine lv_aload_n hx hb dH_areNamesIn_26 rfl (lv_at hl 3 rfl) ?_
      refine lv_iload_n hx hb dH_areNamesIn_27 rfl (lv_at hl 4 rfl) ?_
      refine lv_aload_n hx hb dH_areNamesIn_28 rfl (lv_at hl 5 rfl) ?_
      refine lv_iload hx hb dH_areNamesIn_29 (lv_at hl 2 rfl) ?_
      obtain ⟨o7, hq8, hf⟩ := xbind hf
      obtain ⟨hPc, hDc, hFc⟩ := xcut (wc := [(a0, .inr (2, [.ref a1, .int v1, .int v2])), (a1, .inl (cT 2, 4096, .inr (.inl f0))), (a2, .inr (2, [.ref a3, .int v4, .int v5])), (a3, .inl (cT 2, 4096, .inr (.inl f3)))]) hP hD hS hA [0, 1, 2, 3] rfl rfl (by decide)
      refine va_calli (va_runV (C := "ValueBench$Row") (As := [.int y1, .ref a2, .int y5]) (rest := []) ⟨hx, hb, hml, hown, htx⟩ (gR_valueOfa l hl9 D cT aK aV H.size n a0 a1 a2 a3 y1 y5 f0 v1 v2 f3 v4 v5 o7 hq8) ⟨callB_of 3 htx (xw_goodC kw_2_187) rfl rfl rfl (htx _ kw_1_4) (htx _ kw_4_151) ⟨by decide, by decide, by decide +kernel⟩ ⟨Nat.le_of_ble_eq_true rfl, Nat.le_of_ble_eq_true rfl⟩, (htx _ kw_2_185), (htx _ kw_2_186)⟩ ⟨xPre_blind, va_recv hK hP (ci := 2) rfl (q0 := 0) rfl, (fun U hU hW => ⟨rfl, xPre_of hZ hS hFc hPc hDc hK U hU hW⟩)⟩ rfl rfl hl.1 rfl (lv_room (Nat.le_of_ble_eq_true rfl)) dH_areNamesIn_31 ⟨Nat.le_of_ble_eq_true rfl, Nat.le_of_ble_eq_true rfl⟩) hS (fun q _ h => hFc q h) hFc (fun r9 u9 t H1 locs ht hvm hr9 hB hz1 hk1 hS => ?_)
      obtain ⟨hP1, hK1, hD1⟩ := hB
      rw [ht] at hP1
      obtain ⟨hP, hD⟩ := xjoin (W := [(a0, .inr (2, [.ref a1, .int v1, .int v2])), (a1, .inl (cT 2, 4096, .inr (.inl f0))), (a2, .inr (2, [.ref a3, .int v4, .int v5])), (a3, .inl (cT 2, 4096, .inr (.inl f3)))]) hP hD [0, 1, 2, 3] [] 0 rfl rfl (by decide) (by decide) hk1 hFc hP1 hD1
      generalize H1 = H at hP hS ⊢
      rw [hr9]
      refine W.eq (g2 := F0 m 34 ls [.int o7]) rfl ?_
      refine lv_istore (lv' := [(8, .int o7), (7, .int o4), (6, .int y6), (5, .int y5), (0, .ref a0), (1, .int y1), (2, .ref a2), (3, .int y3), (4, .int y4)]) hx hb dH_areNamesIn_34 hl (by decide) rfl (fun ls hl => ?_)
      refine lv_iload hx hb dH_areNamesIn_36 (lv_at hl 0 rfl) ?_
      refine lv_iconst (v := (-1)) hx hb dH_areNamesIn_38 (by decide) ?_
      refine lv_icmp_eq (tgt := 58) hx hb dH_areNamesIn_39 (by decide) (fun hc => ?_) (fun hc => ?_)
      · rw [if_pos hc] at hf
        refine lv_iconst (v := 0) hx hb dH_areNamesIn_58 (by decide) ?_
        obtain rfl := Option.some.inj hf
        obtain ⟨hP9, hD9⟩ := xsub (wc := [(a0, .inr (2, [.ref a1, .int v1, .int v2])), (a1, .inl (cT 2, 4096, .inr (.inl f0))), (a2, .inr (2, [.ref a3, .int v4, .int v5])), (a3, .inl (cT 2, 4096, .inr (.inl f3)))]) hP hD [0, 1, 2, 3] rfl rfl (by decide)
        exact W.zret (v := (0 : Int32)) hx hb hr rfl (fun t ht hW => ⟨⟨(0 : Int32), (), rfl, rfl, by rw [ht]; exact hP9, va_K.moved hW.alike hK, hD9⟩, hS.F ht⟩) hS.2.2 dH_areNamesIn_59
      · rw [if_neg hc] at hf
        refine lv_aload_n hx hb dH_areNamesIn_42 rfl (lv_at hl 4 rfl) ?_
        refine lv_iload hx hb dH_areNamesIn_43 (lv_at hl 0 rfl) ?_
        refine lv_aload_n hx hb dH_areNamesIn_45 rfl (lv_at hl 6 rfl) ?_
        refine lv_iload hx hb dH_areNamesIn_46 (lv_at hl 1 rfl) ?_
        refine lv_iload hx hb dH_areNamesIn_48 (lv_at hl 8 rfl) ?_
        refine lv_iconst (v := 1) hx hb dH_areNamesIn_50 (by decide) ?_
        refine lv_iadd hx hb dH_areNamesIn_51 ?_
        obtain ⟨o10, hq11, hf⟩ := xbind hf
        obtain ⟨hPc, hDc, hFc⟩ := xcut (wc := [(a0, .inr (2, [.ref a1, .int v1, .int v2])), (a1, .inl (cT 2, 4096, .inr (.inl f0))), (a2, .inr (2, [.ref a3, .int v4, .int v5])), (a3, .inl (cT 2, 4096, .inr (.inl f3)))]) hP hD hS hA [0, 1, 2, 3] rfl rfl (by decide)
        refine va_calli (va_runS (As := [.ref a0, .int o7, .ref a2, .int o4, .int (y4 + (1 : Int32))]) (rest := []) ⟨hx, hb, hml, hown, htx⟩ (hrec H.size a0 a1 a2 a3 o7 o4 (y4 + (1 : Int32)) f0 v1 v2 f3 v4 v5 o10 hq11) ⟨callB_of 5 htx (xw_goodC kw_4_170) rfl rfl rfl (htx _ kw_1_27) (htx _ kw_4_168) ⟨by decide, by decide, by decide +kernel⟩ ⟨(by show (fr) + 1 ≤ fr + 2; omega), (by show 8 + (5 + 11) + (lo) ≤ lo + 55; omega)⟩, htx _ kw_4_169⟩ ⟨xPre_blind, (fun U hU hW => ⟨rfl, xPre_of hZ hS hFc hPc hDc hK U hU hW⟩)⟩ rfl rfl hl.1 rfl (lv_room (Nat.le_of_ble_eq_true rfl)) dH_areNamesIn_52 ⟨Nat.le_of_ble_eq_true rfl, Nat.le_of_ble_eq_true rfl⟩) hS (fun q _ h => hFc q h) hFc (fun r12 u9 t H1 locs ht hvm hr9 hB hz1 hk1 hS => ?_)
        obtain ⟨hP1, hK1, hD1⟩ := hB
        rw [ht] at hP1
        obtain ⟨hP, hD⟩ := xjoin (W := [(a0, .inr (2, [.ref a1, .int v1, .int v2])), (a1, .inl (cT 2, 4096, .inr (.inl f0))), (a2, .inr (2, [.ref a3, .int v4, .int v5])), (a3, .inl (cT 2, 4096, .inr (.inl f3)))]) hP hD [0, 1, 2, 3] [] 0 rfl rfl (by decide) (by decide) hk1 hFc hP1 hD1
        generalize H1 = H at hP hS ⊢
        rw [hr9]
        refine W.eq (g2 := F0 m 55 ls [.int o10]) rfl ?_
        refine lv_if_ne (tgt := 60) hx hb dH_areNamesIn_55 (by decide) (fun hc => ?_) (fun hc => ?_)
        · rw [if_neg hc] at hf
          refine lv_aload_n hx hb dH_areNamesIn_60 rfl (lv_at hl 6 rfl) ?_
          refine lv_iload hx hb dH_areNamesIn_61 (lv_at hl 1 rfl) ?_
          obtain ⟨o13, hq14, hf⟩ := xbind hf
          obtain ⟨hPc, hDc, hFc⟩ := xcut (wc := [(a2, .inr (2, [.ref a3, .int v4, .int v5])), (a3, .inl (cT 2, 4096, .inr (.inl f3)))]) hP hD hS hA [2, 3] rfl rfl (by decide)
          refine va_calli (va_runV (C := "ValueBench$Row") (As := [.int o4]) (rest := []) ⟨hx, hb, hml, hown, htx⟩ (gR_after l hl9 D cT aK aV H.size n a2 a3 o4 f3 v4 v5 o13 hq14) ⟨callB_of 1 htx (xw_goodC kw_2_196) rfl rfl rfl (htx _ kw_1_4) (htx _ kw_4_181) ⟨by decide, by decide, by decide +kernel⟩ ⟨Nat.le_of_ble_eq_true rfl, Nat.le_of_ble_eq_true rfl⟩, (htx _ kw_2_194), (htx _ kw_2_195)⟩ ⟨xPre_blind, va_recv hK hP (ci := 2) rfl (q0 := 2) rfl, (fun U hU hW => ⟨rfl, xPre_of hZ hS hFc hPc hDc hK U hU hW⟩)⟩ rfl rfl hl.1 rfl (lv_room (Nat.le_of_ble_eq_true rfl)) dH_areNamesIn_63 ⟨Nat.le_of_ble_eq_true rfl, Nat.le_of_ble_eq_true rfl⟩) hS (fun q _ h => hFc q h) hFc (fun r15 u9 t H1 locs ht hvm hr9 hB hz1 hk1 hS => ?_)
          obtain ⟨hP1, hK1, hD1⟩ := hB
          rw [ht] at hP1
          obtain ⟨hP, hD⟩ := xjoin (W := [(a0, .inr (2, [.ref a1, .int v1, .int v2])), (a1, .inl (cT 2, 4096, .inr (.inl f0))), (a2, .inr (2, [.ref a3, .int v4, .int v5])), (a3, .inl (cT 2, 4096, .inr (.inl f3)))]) hP hD [2, 3] [0, 1] 2 rfl rfl (by decide) (by decide) hk1 hFc hP1 hD1
          generalize H1 = H at hP hS ⊢
          rw [hr9]
          refine W.eq (g2 := F0 m 66 ls [.int o13]) rfl ?_
          refine lv_istore (lv' := [(5, .int o13), (8, .int o7), (7, .int o4), (6, .int y6), (0, .ref a0), (1, .int y1), (2, .ref a2), (3, .int y3), (4, .int y4)]) hx hb dH_areNamesIn_66 hl (by decide) rfl (fun ls hl => ?_)
          refine lv_iinc (v := (y6 + 1)) (lv' := [(6, .int (y6 + 1)), (5, .int o13), (8, .int o7), (7, .int o4), (0, .ref a0), (1, .int y1), (2, .ref a2), (3, .int y3), (4, .int y4)]) hx hb dH_areNamesIn_68 hl (k := 3) rfl rfl (by decide) rfl (fun ls hl => ?_)
          refine lv_goto (tgt := 8) hx hb dH_areNamesIn_71 (by decide) ?_
          obtain ⟨hP9, hD9⟩ := xsub (wc := [(a0, .inr (2, [.ref a1, .int v1, .int v2])), (a1, .inl (cT 2, 4096, .inr (.inl f0))), (a2, .inr (2, [.ref a3, .int v4, .int v5])), (a3, .inl (cT 2, 4096, .inr (.inl f3)))]) hP hD [0, 1, 2, 3] rfl rfl (by decide)
          exact ih (1, (y6 + 1), o13, y1, y3, y4) _ _ ls (⟨rfl, hf, hP9, hD9, hS, lv_sub hl [0, 1, 4, 5, 6, 7, 8] rfl⟩)
        · rw [if_pos hc] at hf
          refine lv_iconst (v := 0) hx hb dH_areNamesIn_58 (by decide) ?_
          obtain rfl := Option.some.inj hf
          obtain ⟨hP9, hD9⟩ := xsub (wc := [(a0, .inr (2, [.ref a1, .int v1, .int v2])), (a1, .inl (cT 2, 4096, .inr (.inl f0))), (a2, .inr (2, [.ref a3, .int v4, .int v5])), (a3, .inl (cT 2, 4096, .inr (.inl f3)))]) hP hD [0, 1, 2, 3] rfl rfl (by decide)
          exact W.zret (v := (0 : Int32)) hx hb hr rfl (fun t ht hW => ⟨⟨(0 : Int32), (), rfl, rfl, by rw [ht]; exact hP9, va_K.moved hW.alike hK, hD9⟩, hS.F ht⟩) hS.2.2 dH_areNamesIn_59
  refine lv_iload_n hx hb dH_areNamesIn_0 rfl (lv_at hl 3 rfl) ?_
  refine lv_iconst (v := 1) hx hb dH_areNamesIn_1 (by decide) ?_
  refine lv_iadd hx hb dH_areNamesIn_2 ?_
  refine lv_istore (lv' := [(5, .int (x3 + (1 : Int32))), (0, .ref a0), (1, .int x1), (2, .ref a2), (3, .int x3), (4, .int x4)]) hx hb dH_areNamesIn_3 hl (by decide) rfl (fun ls hl => ?_)
  refine lv_iconst (v := 0) hx hb dH_areNamesIn_5 (by decide) ?_
  refine lv_istore (lv' := [(6, .int 0), (5, .int (x3 + (1 : Int32))), (0, .ref a0), (1, .int x1), (2, .ref a2), (3, .int x3), (4, .int x4)]) hx hb dH_areNamesIn_6 hl (by decide) rfl (fun ls hl => ?_)
  obtain ⟨hP9, hD9⟩ := xsub (wc := [(a0, .inr (2, [.ref a1, .int v1, .int v2])), (a1, .inl (cT 2, 4096, .inr (.inl f0))), (a2, .inr (2, [.ref a3, .int v4, .int v5])), (a3, .inl (cT 2, 4096, .inr (.inl f3)))]) hP hD [0, 1, 2, 3] rfl rfl (by decide)
  exact key n (1, 0, (x3 + (1 : Int32)), x1, x3, x4) _ _ ls (⟨rfl, hf, hP9, hD9, hS, lv_sub hl [0, 1, 2, 3, 4, 5, 6] rfl⟩)
set_option maxHeartbeats 400000000 in
set_option maxRecDepth 100000 in
theorem gH_isIn (l : Launch) (hl9 : l.stackTraces = false) (D : va_G) (cT : Nat → ClassId) (aK aV : Nat → Nat) : ∀ (d sz n : Nat) (a0 : Nat) (a1 : Nat) (a2 : Nat) (a3 : Nat) (x1 : Int32) (x3 : Int32) (x4 : Int32) (f0 : Nat → Int64) (v1 : Int32) (v2 : Int32) (f3 : Nat → Int64) (v4 : Int32) (v5 : Int32) (out : Int32) (hf : fH_isIn d n x1 x3 x4 f0 v1 v2 f3 v4 v5 = some out), xMet l yH_isIn wyH_isIn (16 * d) 0 0 (400 * d) D cT aK aV sz [.ref a0, .int x1, .ref a2, .int x3, .int x4] [(a0, .inr (2, [.ref a1, .int v1, .int v2])), (a1, .inl (cT 2, 4096, .inr (.inl f0))), (a2, .inr (2, [.ref a3, .int v4, .int v5])), (a3, .inl (cT 2, 4096, .inr (.inl f3)))] (fun A => va_Qi (fun (r : Int32) (_ : Unit) => r = out) (fun _ t => xB D xcl cT A [(a0, .inr (2, [.ref a1, .int v1, .int v2])), (a1, .inl (cT 2, 4096, .inr (.inl f0))), (a2, .inr (2, [.ref a3, .int v4, .int v5])), (a3, .inl (cT 2, 4096, .inr (.inl f3)))] t) A) := by
  intro d
  induction d with
  | zero =>
    intro sz n a0 a1 a2 a3 x1 x3 x4 f0 v1 v2 f3 v4 v5 out hf
    rw [fH_isIn] at hf
    exact nomatch hf
  | succ d ih =>
    intro sz n a0 a1 a2 a3 x1 x3 x4 f0 v1 v2 f3 v4 v5 out hf
    rw [fH_isIn] at hf
    refine Met.ofW (cc := prog_5_method_11_code) (maxL := 5) (ret := (some .boolean)) (by decide) rfl ?_
    intro p e s m args below meth c s₁ B hml hv
    obtain ⟨rfl, hsz, hZ, hP, hK, hD0⟩ := hv
    have hx := B.exec
    have hb := B.bytes
    have hr := B.returns
    have hts := atoms_spec (ws := wyH_isIn) B.pre
    have htx := fun w h => hts w (List.mem_cons_of_mem _ h)
    have hown : s.vm.findClass "ValueBench$Pairs" = some m.cls := findClass_of_methodNamed B.named
    have hlocks := B.notSynchronized
    subst hsz
    have hD := hD0.self (sz := s.heap.size)
    generalize hAe : va_A [(a0, .inr (2, [.ref a1, .int v1, .int v2])), (a1, .inl (cT 2, 4096, .inr (.inl f0))), (a2, .inr (2, [.ref a3, .int v4, .int v5])), (a3, .inl (cT 2, 4096, .inr (.inl f3)))] s.heap.size = A at hD hZ ⊢
    have hA : ∀ q : Nat, s.heap.size ≤ q → A q := fun q h => by rw [← hAe]; exact Or.inr h
    have hS : va_S A s.heap s.heap [] := va_S.rf
    have hP : va_P D xcl [(a0, .inr (2, [.ref a1, .int v1, .int v2])), (a1, .inl (cT 2, 4096, .inr (.inl f0))), (a2, .inr (2, [.ref a3, .int v4, .int v5])), (a3, .inl (cT 2, 4096, .inr (.inl f3)))] s.heap := hP
    have hl := lv_entry ([.ref a0, .int x1, .ref a2, .int x3, .int x4]) (n := 5) (Nat.le_of_ble_eq_true rfl)
    rw [lg_entry_eq]
    generalize (lg_sl ([.ref a0, .int x1, .ref a2, .int x3, .int x4]) ++ List.replicate (5 - (lg_sl ([.ref a0, .int x1, .ref a2, .int x3, .int x4])).length) Slot.unset).toArray = ls at hl ⊢
    have hl : lv_has ls 5 [(0, .ref a0), (1, .int x1), (2, .ref a2), (3, .int x3), (4, .int x4)] := hl
    refine lv_aload_n hx hb dH_isIn_0 rfl (lv_at hl 0 rfl) ?_
    refine lv_iload_n hx hb dH_isIn_1 rfl (lv_at hl 1 rfl) ?_
    obtain ⟨o1, hq2, hf⟩ := xbind hf
    obtain ⟨hPc, hDc, hFc⟩ := xcut (wc := [(a0, .inr (2, [.ref a1, .int v1, .int v2])), (a1, .inl (cT 2, 4096, .inr (.inl f0)))]) hP hD hS hA [0, 1] rfl rfl (by decide)
    refine va_calli (va_runV (C := "ValueBench$Row") (As := [.int x1]) (rest := []) ⟨hx, hb, hml, hown, htx⟩ (gR_kind l hl9 D cT aK aV s.heap.size n a0 a1 x1 f0 v1 v2 o1 hq2) ⟨callB_of 1 htx (xw_goodC kw_3_24) rfl rfl rfl (htx _ kw_1_4) (htx _ kw_4_164) ⟨by decide, by decide, by decide +kernel⟩ ⟨Nat.le_of_ble_eq_true rfl, Nat.le_of_ble_eq_true rfl⟩, (htx _ kw_3_22), (htx _ kw_3_23)⟩ ⟨xPre_blind, va_recv hK hP (ci := 2) rfl (q0 := 0) rfl, (fun U hU hW => ⟨rfl, xPre_of hZ hS hFc hPc hDc hK U hU hW⟩)⟩ rfl rfl hl.1 rfl (lv_room (Nat.le_of_ble_eq_true rfl)) dH_isIn_2 ⟨Nat.le_of_ble_eq_true rfl, Nat.le_of_ble_eq_true rfl⟩) hS (fun q _ h => hFc q h) hFc (fun r3 u9 t H1 locs ht hvm hr9 hB hz1 hk1 hS => ?_)
    obtain ⟨hP1, hK1, hD1⟩ := hB
    rw [ht] at hP1
    obtain ⟨hP, hD⟩ := xjoin (W := [(a2, .inr (2, [.ref a3, .int v4, .int v5])), (a3, .inl (cT 2, 4096, .inr (.inl f3))), (a0, .inr (2, [.ref a1, .int v1, .int v2])), (a1, .inl (cT 2, 4096, .inr (.inl f0)))]) hP hD [0, 1] [2, 3] 2 rfl rfl (by decide) (by decide) hk1 hFc hP1 hD1
    generalize H1 = H at hP hS ⊢
    rw [hr9]
    refine W.eq (g2 := F0 m 5 ls [.int o1]) rfl ?_
    refine lv_aload_n hx hb dH_isIn_5 rfl (lv_at hl 2 rfl) ?_
    refine lv_iload_n hx hb dH_isIn_6 rfl (lv_at hl 3 rfl) ?_
    obtain ⟨o4, hq5, hf⟩ := xbind hf
    obtain ⟨hPc, hDc, hFc⟩ := xcut (wc := [(a2, .inr (2, [.ref a3, .int v4, .int v5])), (a3, .inl (cT 2, 4096, .inr (.inl f3)))]) hP hD hS hA [0, 1] rfl rfl (by decide)
    refine va_calli (va_runV (C := "ValueBench$Row") (As := [.int x3]) (rest := [.int o1]) ⟨hx, hb, hml, hown, htx⟩ (gR_kind l hl9 D cT aK aV H.size n a2 a3 x3 f3 v4 v5 o4 hq5) ⟨callB_of 1 htx (xw_goodC kw_3_24) rfl rfl rfl (htx _ kw_1_4) (htx _ kw_4_164) ⟨by decide, by decide, by decide +kernel⟩ ⟨Nat.le_of_ble_eq_true rfl, Nat.le_of_ble_eq_true rfl⟩, (htx _ kw_3_22), (htx _ kw_3_23)⟩ ⟨xPre_blind, va_recv hK hP (ci := 2) rfl (q0 := 0) rfl, (fun U hU hW => ⟨rfl, xPre_of hZ hS hFc hPc hDc hK U hU hW⟩)⟩ rfl rfl hl.1 rfl (lv_room (Nat.le_of_ble_eq_true rfl)) dH_isIn_7 ⟨Nat.le_of_ble_eq_true rfl, Nat.le_of_ble_eq_true rfl⟩) hS (fun q _ h => hFc q h) hFc (fun r6 u9 t H1 locs ht hvm hr9 hB hz1 hk1 hS => ?_)
    obtain ⟨hP1, hK1, hD1⟩ := hB
    rw [ht] at hP1
    obtain ⟨hP, hD⟩ := xjoin (W := [(a0, .inr (2, [.ref a1, .int v1, .int v2])), (a1, .inl (cT 2, 4096, .inr (.inl f0))), (a2, .inr (2, [.ref a3, .int v4, .int v5])), (a3, .inl (cT 2, 4096, .inr (.inl f3)))]) hP hD [0, 1] [2, 3] 2 rfl rfl (by decide) (by decide) hk1 hFc hP1 hD1
    generalize H1 = H at hP hS ⊢
    rw [hr9]
    refine W.eq (g2 := F0 m 10 ls [.int o4, .int o1]) rfl ?_
    refine lv_icmp_ne (tgt := 20) hx hb dH_isIn_10 (by decide) (fun hc => ?_) (fun hc => ?_)
    · rw [if_neg hc] at hf
      refine lv_iconst (v := 0) hx hb dH_isIn_20 (by decide) ?_
      obtain rfl := Option.some.inj hf
      obtain ⟨hP9, hD9⟩ := xsub (wc := [(a0, .inr (2, [.ref a1, .int v1, .int v2])), (a1, .inl (cT 2, 4096, .inr (.inl f0))), (a2, .inr (2, [.ref a3, .int v4, .int v5])), (a3, .inl (cT 2, 4096, .inr (.inl f3)))]) hP hD [0, 1, 2, 3] rfl rfl (by decide)
      exact W.zret (v := (0 : Int32)) hx hb hr rfl (fun t ht hW => ⟨⟨(0 : Int32), (), rfl, rfl, by rw [ht]; exact hP9, va_K.moved hW.alike hK, hD9⟩, hS.F ht⟩) hS.2.2 dH_isIn_21
    · rw [if_pos hc] at hf
      refine lv_iload hx hb dH_isIn_13 (lv_at hl 4 rfl) ?_
      refine lv_bipush (v := 60) hx hb dH_isIn_15 (by decide) ?_
      refine lv_icmp_le (tgt := 22) hx hb dH_isIn_17 (by decide) (fun hc => ?_) (fun hc => ?_)
      · rw [if_pos hc] at hf
        refine lv_aload_n hx hb dH_isIn_22 rfl (lv_at hl 0 rfl) ?_
        refine lv_iload_n hx hb dH_isIn_23 rfl (lv_at hl 1 rfl) ?_
        obtain ⟨o7, hq8, hf⟩ := xbind hf
        obtain ⟨hPc, hDc, hFc⟩ := xcut (wc := [(a0, .inr (2, [.ref a1, .int v1, .int v2])), (a1, .inl (cT 2, 4096, .inr (.inl f0)))]) hP hD hS hA [0, 1] rfl rfl (by decide)
        refine va_calli (va_runV (C := "ValueBench$Row") (As := [.int x1]) (rest := []) ⟨hx, hb, hml, hown, htx⟩ (gR_kind l hl9 D cT aK aV H.size n a0 a1 x1 f0 v1 v2 o7 hq8) ⟨callB_of 1 htx (xw_goodC kw_3_24) rfl rfl rfl (htx _ kw_1_4) (htx _ kw_4_164) ⟨by decide, by decide, by decide +kernel⟩ ⟨Nat.le_of_ble_eq_true rfl, Nat.le_of_ble_eq_true rfl⟩, (htx _ kw_3_22), (htx _ kw_3_23)⟩ ⟨xPre_blind, va_recv hK hP (ci := 2) rfl (q0 := 0) rfl, (fun U hU hW => ⟨rfl, xPre_of hZ hS hFc hPc hDc hK U hU hW⟩)⟩ rfl rfl hl.1 rfl (lv_room (Nat.le_of_ble_eq_true rfl)) dH_isIn_24 ⟨Nat.le_of_ble_eq_true rfl, Nat.le_of_ble_eq_true rfl⟩) hS (fun q _ h => hFc q h) hFc (fun r9 u9 t H1 locs ht hvm hr9 hB hz1 hk1 hS => ?_)
        obtain ⟨hP1, hK1, hD1⟩ := hB
        rw [ht] at hP1
        obtain ⟨hP, hD⟩ := xjoin (W := [(a2, .inr (2, [.ref a3, .int v4, .int v5])), (a3, .inl (cT 2, 4096, .inr (.inl f3))), (a0, .inr (2, [.ref a1, .int v1, .int v2])), (a1, .inl (cT 2, 4096, .inr (.inl f0)))]) hP hD [0, 1] [2, 3] 2 rfl rfl (by decide) (by decide) hk1 hFc hP1 hD1
        generalize H1 = H at hP hS ⊢
        rw [hr9]
        refine W.eq (g2 := F0 m 27 ls [.int o7]) rfl ?_
        by_cases hc10 : o7 = 4
        · rw [if_pos hc10] at hf
          refine lv_tableIn (off := 25) (tgt := 52) hx hb dH_isIn_27 (by rw [hc10]; decide) (by rw [hc10]; decide) (by rw [hc10]; decide) (by decide) ?_
          refine lv_aload_n hx hb dH_isIn_52 rfl (lv_at hl 0 rfl) ?_
          refine lv_iload_n hx hb dH_isIn_53 rfl (lv_at hl 1 rfl) ?_
          refine lv_aload_n hx hb dH_isIn_54 rfl (lv_at hl 2 rfl) ?_
          refine lv_iload_n hx hb dH_isIn_55 rfl (lv_at hl 3 rfl) ?_
          obtain ⟨o11, hq12, hf⟩ := xbind hf
          obtain ⟨hPc, hDc, hFc⟩ := xcut (wc := [(a0, .inr (2, [.ref a1, .int v1, .int v2])), (a1, .inl (cT 2, 4096, .inr (.inl f0))), (a2, .inr (2, [.ref a3, .int v4, .int v5])), (a3, .inl (cT 2, 4096, .inr (.inl f3)))]) hP hD hS hA [2, 3, 0, 1] rfl rfl (by decide)
          refine va_calli (va_runS (As := [.ref a0, .int x1, .ref a2, .int x3]) (rest := []) ⟨hx, hb, hml, hown, htx⟩ (gH_isPart l hl9 D cT aK aV H.size n a0 a1 a2 a3 x1 x3 f0 v1 v2 f3 v4 v5 o11 hq12) ⟨callB_of 4 htx (xw_goodC kw_4_173) rfl rfl rfl (htx _ kw_1_27) (htx _ kw_4_171) ⟨by decide, by decide, by decide +kernel⟩ ⟨Nat.le_of_ble_eq_true rfl, Nat.le_of_ble_eq_true rfl⟩, htx _ kw_4_172⟩ ⟨xPre_blind, (fun U hU hW => ⟨rfl, xPre_of hZ hS hFc hPc hDc hK U hU hW⟩)⟩ rfl rfl hl.1 rfl (lv_room (Nat.le_of_ble_eq_true rfl)) dH_isIn_56 ⟨Nat.le_of_ble_eq_true rfl, Nat.le_of_ble_eq_true rfl⟩) hS (fun q _ h => hFc q h) hFc (fun r13 u9 t H1 locs ht hvm hr9 hB hz1 hk1 hS => ?_)
          obtain ⟨hP1, hK1, hD1⟩ := hB
          rw [ht] at hP1
          obtain ⟨hP, hD⟩ := xjoin (W := [(a0, .inr (2, [.ref a1, .int v1, .int v2])), (a1, .inl (cT 2, 4096, .inr (.inl f0))), (a2, .inr (2, [.ref a3, .int v4, .int v5])), (a3, .inl (cT 2, 4096, .inr (.inl f3)))]) hP hD [2, 3, 0, 1] [] 0 rfl rfl (by decide) (by decide) hk1 hFc hP1 hD1
          generalize H1 = H at hP hS ⊢
          rw [hr9]
          refine W.eq (g2 := F0 m 59 ls [.int o11]) rfl ?_
          obtain ⟨hg14, hf⟩ := xifn hf
          obtain rfl := Option.some.inj hf
          obtain ⟨hP9, hD9⟩ := xsub (wc := [(a0, .inr (2, [.ref a1, .int v1, .int v2])), (a1, .inl (cT 2, 4096, .inr (.inl f0))), (a2, .inr (2, [.ref a3, .int v4, .int v5])), (a3, .inl (cT 2, 4096, .inr (.inl f3)))]) hP hD [0, 1, 2, 3] rfl rfl (by decide)
          exact W.zret (v := o11) hx hb hr (xzb hg14) (fun t ht hW => ⟨⟨o11, (), rfl, rfl, by rw [ht]; exact hP9, va_K.moved hW.alike hK, hD9⟩, hS.F ht⟩) hS.2.2 dH_isIn_59
        rw [if_neg hc10] at hf
        by_cases hc15 : o7 = 5
        · rw [if_pos hc15] at hf
          refine lv_tableIn (off := 33) (tgt := 60) hx hb dH_isIn_27 (by rw [hc15]; decide) (by rw [hc15]; decide) (by rw [hc15]; decide) (by decide) ?_
          refine lv_aload_n hx hb dH_isIn_60 rfl (lv_at hl 0 rfl) ?_
          refine lv_iload_n hx hb dH_isIn_61 rfl (lv_at hl 1 rfl) ?_
          refine lv_aload_n hx hb dH_isIn_62 rfl (lv_at hl 2 rfl) ?_
          refine lv_iload_n hx hb dH_isIn_63 rfl (lv_at hl 3 rfl) ?_
          refine lv_iload hx hb dH_isIn_64 (lv_at hl 4 rfl) ?_
          obtain ⟨o16, hq17, hf⟩ := xbind hf
          obtain ⟨hPc, hDc, hFc⟩ := xcut (wc := [(a0, .inr (2, [.ref a1, .int v1, .int v2])), (a1, .inl (cT 2, 4096, .inr (.inl f0))), (a2, .inr (2, [.ref a3, .int v4, .int v5])), (a3, .inl (cT 2, 4096, .inr (.inl f3)))]) hP hD hS hA [2, 3, 0, 1] rfl rfl (by decide)
          refine va_calli (va_runS (As := [.ref a0, .int x1, .ref a2, .int x3, .int x4]) (rest := []) ⟨hx, hb, hml, hown, htx⟩ (gH_areElementsIn l hl9 D cT aK aV (16 * d) (400 * d) (fH_isIn d n) (fun sz => ih sz n) H.size n a0 a1 a2 a3 x1 x3 x4 f0 v1 v2 f3 v4 v5 o16 hq17) ⟨callB_of 5 htx (xw_goodC kw_4_177) rfl rfl rfl (htx _ kw_1_27) (htx _ kw_4_175) ⟨by decide, by decide, by decide +kernel⟩ ⟨(by show (16 * d + 2) + 1 ≤ 16 * (d + 1); omega), (by show 8 + (7 + 11) + (400 * d + 50) ≤ 400 * (d + 1); omega)⟩, htx _ kw_4_176⟩ ⟨xPre_blind, (fun U hU hW => ⟨rfl, xPre_of hZ hS hFc hPc hDc hK U hU hW⟩)⟩ rfl rfl hl.1 rfl (lv_room (Nat.le_of_ble_eq_true rfl)) dH_isIn_66 ⟨Nat.le_of_ble_eq_true rfl, Nat.le_of_ble_eq_true rfl⟩) hS (fun q _ h => hFc q h) hFc (fun r18 u9 t H1 locs ht hvm hr9 hB hz1 hk1 hS => ?_)
          obtain ⟨hP1, hK1, hD1⟩ := hB
          rw [ht] at hP1
          obtain ⟨hP, hD⟩ := xjoin (W := [(a0, .inr (2, [.ref a1, .int v1, .int v2])), (a1, .inl (cT 2, 4096, .inr (.inl f0))), (a2, .inr (2, [.ref a3, .int v4, .int v5])), (a3, .inl (cT 2, 4096, .inr (.inl f3)))]) hP hD [2, 3, 0, 1] [] 0 rfl rfl (by decide) (by decide) hk1 hFc hP1 hD1
          generalize H1 = H at hP hS ⊢
          rw [hr9]
          refine W.eq (g2 := F0 m 69 ls [.int o16]) rfl ?_
          obtain ⟨hg19, hf⟩ := xifn hf
          obtain rfl := Option.some.inj hf
          obtain ⟨hP9, hD9⟩ := xsub (wc := [(a0, .inr (2, [.ref a1, .int v1, .int v2])), (a1, .inl (cT 2, 4096, .inr (.inl f0))), (a2, .inr (2, [.ref a3, .int v4, .int v5])), (a3, .inl (cT 2, 4096, .inr (.inl f3)))]) hP hD [0, 1, 2, 3] rfl rfl (by decide)
          exact W.zret (v := o16) hx hb hr (xzb hg19) (fun t ht hW => ⟨⟨o16, (), rfl, rfl, by rw [ht]; exact hP9, va_K.moved hW.alike hK, hD9⟩, hS.F ht⟩) hS.2.2 dH_isIn_69
        rw [if_neg hc15] at hf
        by_cases hc20 : o7 = 6
        · rw [if_pos hc20] at hf
          refine lv_tableIn (off := 43) (tgt := 70) hx hb dH_isIn_27 (by rw [hc20]; decide) (by rw [hc20]; decide) (by rw [hc20]; decide) (by decide) ?_
          refine lv_aload_n hx hb dH_isIn_70 rfl (lv_at hl 0 rfl) ?_
          refine lv_iload_n hx hb dH_isIn_71 rfl (lv_at hl 1 rfl) ?_
          refine lv_aload_n hx hb dH_isIn_72 rfl (lv_at hl 2 rfl) ?_
          refine lv_iload_n hx hb dH_isIn_73 rfl (lv_at hl 3 rfl) ?_
          refine lv_iload hx hb dH_isIn_74 (lv_at hl 4 rfl) ?_
          obtain ⟨o21, hq22, hf⟩ := xbind hf
          obtain ⟨hPc, hDc, hFc⟩ := xcut (wc := [(a0, .inr (2, [.ref a1, .int v1, .int v2])), (a1, .inl (cT 2, 4096, .inr (.inl f0))), (a2, .inr (2, [.ref a3, .int v4, .int v5])), (a3, .inl (cT 2, 4096, .inr (.inl f3)))]) hP hD hS hA [2, 3, 0, 1] rfl rfl (by decide)
          refine va_calli (va_runS (As := [.ref a0, .int x1, .ref a2, .int x3, .int x4]) (rest := []) ⟨hx, hb, hml, hown, htx⟩ (gH_areNamesIn l hl9 D cT aK aV (16 * d) (400 * d) (fH_isIn d n) (fun sz => ih sz n) H.size n a0 a1 a2 a3 x1 x3 x4 f0 v1 v2 f3 v4 v5 o21 hq22) ⟨callB_of 5 htx (xw_goodC kw_4_184) rfl rfl rfl (htx _ kw_1_27) (htx _ kw_4_182) ⟨by decide, by decide, by decide +kernel⟩ ⟨(by show (16 * d + 2) + 1 ≤ 16 * (d + 1); omega), (by show 8 + (9 + 11) + (400 * d + 55) ≤ 400 * (d + 1); omega)⟩, htx _ kw_4_183⟩ ⟨xPre_blind, (fun U hU hW => ⟨rfl, xPre_of hZ hS hFc hPc hDc hK U hU hW⟩)⟩ rfl rfl hl.1 rfl (lv_room (Nat.le_of_ble_eq_true rfl)) dH_isIn_76 ⟨Nat.le_of_ble_eq_true rfl, Nat.le_of_ble_eq_true rfl⟩) hS (fun q _ h => hFc q h) hFc (fun r23 u9 t H1 locs ht hvm hr9 hB hz1 hk1 hS => ?_)
          obtain ⟨hP1, hK1, hD1⟩ := hB
          rw [ht] at hP1
          obtain ⟨hP, hD⟩ := xjoin (W := [(a0, .inr (2, [.ref a1, .int v1, .int v2])), (a1, .inl (cT 2, 4096, .inr (.inl f0))), (a2, .inr (2, [.ref a3, .int v4, .int v5])), (a3, .inl (cT 2, 4096, .inr (.inl f3)))]) hP hD [2, 3, 0, 1] [] 0 rfl rfl (by decide) (by decide) hk1 hFc hP1 hD1
          generalize H1 = H at hP hS ⊢
          rw [hr9]
          refine W.eq (g2 := F0 m 79 ls [.int o21]) rfl ?_
          obtain ⟨hg24, hf⟩ := xifn hf
          obtain rfl := Option.some.inj hf
          obtain ⟨hP9, hD9⟩ := xsub (wc := [(a0, .inr (2, [.ref a1, .int v1, .int v2])), (a1, .inl (cT 2, 4096, .inr (.inl f0))), (a2, .inr (2, [.ref a3, .int v4, .int v5])), (a3, .inl (cT 2, 4096, .inr (.inl f3)))]) hP hD [0, 1, 2, 3] rfl rfl (by decide)
          exact W.zret (v := o21) hx hb hr (xzb hg24) (fun t ht hW => ⟨⟨o21, (), rfl, rfl, by rw [ht]; exact hP9, va_K.moved hW.alike hK, hD9⟩, hS.F ht⟩) hS.2.2 dH_isIn_79
        rw [if_neg hc20] at hf
        refine lv_tableOut (tgt := 80) hx hb dH_isIn_27 (by have e0 : o7.toInt ≠ 4 := xsw hc10 (by decide); have e1 : o7.toInt ≠ 5 := xsw hc15 (by decide); have e2 : o7.toInt ≠ 6 := xsw hc20 (by decide); omega) (by decide) ?_
        refine lv_aload_n hx hb dH_isIn_80 rfl (lv_at hl 0 rfl) ?_
        refine lv_iload_n hx hb dH_isIn_81 rfl (lv_at hl 1 rfl) ?_
        obtain ⟨o25, hq26, hf⟩ := xbind hf
        obtain ⟨hPc, hDc, hFc⟩ := xcut (wc := [(a0, .inr (2, [.ref a1, .int v1, .int v2])), (a1, .inl (cT 2, 4096, .inr (.inl f0)))]) hP hD hS hA [2, 3] rfl rfl (by decide)
        refine va_calll (va_runV (C := "ValueBench$Row") (As := [.int x1]) (rest := []) ⟨hx, hb, hml, hown, htx⟩ (gR_cell l hl9 D cT aK aV H.size n a0 a1 x1 f0 v1 v2 o25 hq26) ⟨callB_of 1 htx (xw_goodC kw_2_202) rfl rfl rfl (htx _ kw_1_4) (htx _ kw_4_185) ⟨by decide, by decide, by decide +kernel⟩ ⟨Nat.le_of_ble_eq_true rfl, Nat.le_of_ble_eq_true rfl⟩, (htx _ kw_2_200), (htx _ kw_2_201)⟩ ⟨xPre_blind, va_recv hK hP (ci := 2) rfl (q0 := 2) rfl, (fun U hU hW => ⟨rfl, xPre_of hZ hS hFc hPc hDc hK U hU hW⟩)⟩ rfl rfl hl.1 rfl (lv_room (Nat.le_of_ble_eq_true rfl)) dH_isIn_82 ⟨Nat.le_of_ble_eq_true rfl, Nat.le_of_ble_eq_true rfl⟩) hS (fun q _ h => hFc q h) hFc (fun r27 u9 t H1 locs ht hvm hr9 hB hz1 hk1 hS => ?_)
        obtain ⟨hP1, hK1, hD1⟩ := hB
        rw [ht] at hP1
        obtain ⟨hP, hD⟩ := xjoin (W := [(a2, .inr (2, [.ref a3, .int v4, .int v5])), (a3, .inl (cT 2, 4096, .inr (.inl f3))), (a0, .inr (2, [.ref a1, .int v1, .int v2])), (a1, .inl (cT 2, 4096, .inr (.inl f0)))]) hP hD [2, 3] [0, 1] 2 rfl rfl (by decide) (by decide) hk1 hFc hP1 hD1
        generalize H1 = H at hP hS ⊢
        rw [hr9]
        refine W.eq (g2 := F0 m 85 ls [.long o25]) rfl ?_
        refine lv_aload_n hx hb dH_isIn_85 rfl (lv_at hl 2 rfl) ?_
        refine lv_iload_n hx hb dH_isIn_86 rfl (lv_at hl 3 rfl) ?_
        obtain ⟨o28, hq29, hf⟩ := xbind hf
        obtain ⟨hPc, hDc, hFc⟩ := xcut (wc := [(a2, .inr (2, [.ref a3, .int v4, .int v5])), (a3, .inl (cT 2, 4096, .inr (.inl f3)))]) hP hD hS hA [0, 1] rfl rfl (by decide)
        refine va_calll (va_runV (C := "ValueBench$Row") (As := [.int x3]) (rest := [.long o25]) ⟨hx, hb, hml, hown, htx⟩ (gR_cell l hl9 D cT aK aV H.size n a2 a3 x3 f3 v4 v5 o28 hq29) ⟨callB_of 1 htx (xw_goodC kw_2_202) rfl rfl rfl (htx _ kw_1_4) (htx _ kw_4_185) ⟨by decide, by decide, by decide +kernel⟩ ⟨Nat.le_of_ble_eq_true rfl, Nat.le_of_ble_eq_true rfl⟩, (htx _ kw_2_200), (htx _ kw_2_201)⟩ ⟨xPre_blind, va_recv hK hP (ci := 2) rfl (q0 := 0) rfl, (fun U hU hW => ⟨rfl, xPre_of hZ hS hFc hPc hDc hK U hU hW⟩)⟩ rfl rfl hl.1 rfl (lv_room (Nat.le_of_ble_eq_true rfl)) dH_isIn_87 ⟨Nat.le_of_ble_eq_true rfl, Nat.le_of_ble_eq_true rfl⟩) hS (fun q _ h => hFc q h) hFc (fun r30 u9 t H1 locs ht hvm hr9 hB hz1 hk1 hS => ?_)
        obtain ⟨hP1, hK1, hD1⟩ := hB
        rw [ht] at hP1
        obtain ⟨hP, hD⟩ := xjoin (W := [(a0, .inr (2, [.ref a1, .int v1, .int v2])), (a1, .inl (cT 2, 4096, .inr (.inl f0))), (a2, .inr (2, [.ref a3, .int v4, .int v5])), (a3, .inl (cT 2, 4096, .inr (.inl f3)))]) hP hD [0, 1] [2, 3] 2 rfl rfl (by decide) (by decide) hk1 hFc hP1 hD1
        generalize H1 = H at hP hS ⊢
        rw [hr9]
        refine W.eq (g2 := F0 m 90 ls [.long o28, .long o25]) rfl ?_
        refine W.lcmp hx hb dH_isIn_90 ?_
        refine lv_if_ne (tgt := 98) hx hb dH_isIn_91 (by decide) (fun hc => ?_) (fun hc => ?_)
        · rw [if_neg hc] at hf
          refine lv_iconst (v := 0) hx hb dH_isIn_98 (by decide) ?_
          obtain rfl := Option.some.inj hf
          obtain ⟨hP9, hD9⟩ := xsub (wc := [(a0, .inr (2, [.ref a1, .int v1, .int v2])), (a1, .inl (cT 2, 4096, .inr (.inl f0))), (a2, .inr (2, [.ref a3, .int v4, .int v5])), (a3, .inl (cT 2, 4096, .inr (.inl f3)))]) hP hD [0, 1, 2, 3] rfl rfl (by decide)
          exact W.zret (v := (0 : Int32)) hx hb hr rfl (fun t ht hW => ⟨⟨(0 : Int32), (), rfl, rfl, by rw [ht]; exact hP9, va_K.moved hW.alike hK, hD9⟩, hS.F ht⟩) hS.2.2 dH_isIn_99
        · rw [if_pos hc] at hf
          refine lv_iconst (v := 1) hx hb dH_isIn_94 (by decide) ?_
          refine lv_goto (tgt := 99) hx hb dH_isIn_95 (by decide) ?_
          obtain rfl := Option.some.inj hf
          obtain ⟨hP9, hD9⟩ := xsub (wc := [(a0, .inr (2, [.ref a1, .int v1, .int v2])), (a1, .inl (cT 2, 4096, .inr (.inl f0))), (a2, .inr (2, [.ref a3, .int v4, .int v5])), (a3, .inl (cT 2, 4096, .inr (.inl f3)))]) hP hD [0, 1, 2, 3] rfl rfl (by decide)
          exact W.zret (v := (1 : Int32)) hx hb hr rfl (fun t ht hW => ⟨⟨(1 : Int32), (), rfl, rfl, by rw [ht]; exact hP9, va_K.moved hW.alike hK, hD9⟩, hS.F ht⟩) hS.2.2 dH_isIn_99
      · rw [if_neg hc] at hf
        refine lv_iconst (v := 0) hx hb dH_isIn_20 (by decide) ?_
        obtain rfl := Option.some.inj hf
        obtain ⟨hP9, hD9⟩ := xsub (wc := [(a0, .inr (2, [.ref a1, .int v1, .int v2])), (a1, .inl (cT 2, 4096, .inr (.inl f0))), (a2, .inr (2, [.ref a3, .int v4, .int v5])), (a3, .inl (cT 2, 4096, .inr (.inl f3)))]) hP hD [0, 1, 2, 3] rfl rfl (by decide)
        exact W.zret (v := (0 : Int32)) hx hb hr rfl (fun t ht hW => ⟨⟨(0 : Int32), (), rfl, rfl, by rw [ht]; exact hP9, va_K.moved hW.alike hK, hD9⟩, hS.F ht⟩) hS.2.2 dH_isIn_21
set_option maxHeartbeats 400000000 in
set_option maxRecDepth 100000 in
theorem gH_contains (l : Launch) (hl9 : l.stackTraces = false) (D : va_G) (cT : Nat → ClassId) (aK aV : Nat → Nat) (sz d n : Nat) (a0 : Nat) (a1 : Nat) (a2 : Nat) (a3 : Nat) (a4 : Nat) (a5 : Nat) (f0 : Nat → Int64) (v1 : Int32) (v2 : Int32) (f3 : Nat → Int64) (v4 : Int32) (v5 : Int32) (f6 : Nat → Int64) (v7 : Int32) (v8 : Int32) (out : Int32 × (Nat → Int64) × Int32 × Int32) (hf : fH_contains d n f0 v1 v2 f3 v4 v5 f6 v7 v8 = some out) : xMet l yH_contains wyH_contains (16 * d + 3) 0 0 (400 * d + 64) D cT aK aV sz [.ref a0, .ref a2, .ref a4] [(a0, .inr (2, [.ref a1, .int v1, .int v2])), (a1, .inl (cT 2, 4096, .inr (.inl f0))), (a2, .inr (2, [.ref a3, .int v4, .int v5])), (a3, .inl (cT 2, 4096, .inr (.inl f3))), (a4, .inr (2, [.ref a5, .int v7, .int v8])), (a5, .inl (cT 2, 4096, .inr (.inl f6)))] (fun A => va_Qi (fun (r : Int32) (_ : Unit) => r = out.1) (fun _ t => xB D xcl cT A [(a0, .inr (2, [.ref a1, .int v1, .int v2])), (a1, .inl (cT 2, 4096, .inr (.inl f0))), (a2, .inr (2, [.ref a3, .int v4, .int v5])), (a3, .inl (cT 2, 4096, .inr (.inl f3))), (a4, .inr (2, [.ref a5, .int out.2.2.1, .int out.2.2.2])), (a5, .inl (cT 2, 4096, .inr (.inl out.2.1)))] t) A) := by
  refine Met.ofW (cc := prog_5_method_8_code) (maxL := 3) (ret := (some .int)) (by decide) rfl ?_
  intro p e s m args below meth c s₁ B hml hv
  obtain ⟨rfl, hsz, hZ, hP, hK, hD0⟩ := hv
  have hx := B.exec
  have hb := B.bytes
  have hr := B.returns
  have hts := atoms_spec (ws := wyH_contains) B.pre
  have htx := fun w h => hts w (List.mem_cons_of_mem _ h)
  have hown : s.vm.findClass "ValueBench$Pairs" = some m.cls := findClass_of_methodNamed B.named
  have hlocks := B.notSynchronized
  subst hsz
  have hD := hD0.self (sz := s.heap.size)
  generalize hAe : va_A [(a0, .inr (2, [.ref a1, .int v1, .int v2])), (a1, .inl (cT 2, 4096, .inr (.inl f0))), (a2, .inr (2, [.ref a3, .int v4, .int v5])), (a3, .inl (cT 2, 4096, .inr (.inl f3))), (a4, .inr (2, [.ref a5, .int v7, .int v8])), (a5, .inl (cT 2, 4096, .inr (.inl f6)))] s.heap.size = A at hD hZ ⊢
  have hA : ∀ q : Nat, s.heap.size ≤ q → A q := fun q h => by rw [← hAe]; exact Or.inr h
  have hS : va_S A s.heap s.heap [] := va_S.rf
  have hP : va_P D xcl [(a0, .inr (2, [.ref a1, .int v1, .int v2])), (a1, .inl (cT 2, 4096, .inr (.inl f0))), (a2, .inr (2, [.ref a3, .int v4, .int v5])), (a3, .inl (cT 2, 4096, .inr (.inl f3))), (a4, .inr (2, [.ref a5, .int v7, .int v8])), (a5, .inl (cT 2, 4096, .inr (.inl f6)))] s.heap := hP
  have hl := lv_entry ([.ref a0, .ref a2, .ref a4]) (n := 3) (Nat.le_of_ble_eq_true rfl)
  rw [lg_entry_eq]
  generalize (lg_sl ([.ref a0, .ref a2, .ref a4]) ++ List.replicate (3 - (lg_sl ([.ref a0, .ref a2, .ref a4])).length) Slot.unset).toArray = ls at hl ⊢
  have hl : lv_has ls 3 [(0, .ref a0), (1, .ref a2), (2, .ref a4)] := hl
  unfold fH_contains at hf
  refine lv_aload_n hx hb dH_contains_0 rfl (lv_at hl 0 rfl) ?_
  refine lv_iconst (v := 0) hx hb dH_contains_1 (by decide) ?_
  refine lv_aload_n hx hb dH_contains_2 rfl (lv_at hl 1 rfl) ?_
  refine lv_iconst (v := 0) hx hb dH_contains_3 (by decide) ?_
  obtain ⟨o1, hq2, hf⟩ := xbind hf
  obtain ⟨hPc, hDc, hFc⟩ := xcut (wc := [(a0, .inr (2, [.ref a1, .int v1, .int v2])), (a1, .inl (cT 2, 4096, .inr (.inl f0))), (a2, .inr (2, [.ref a3, .int v4, .int v5])), (a3, .inl (cT 2, 4096, .inr (.inl f3)))]) hP hD hS hA [0, 1, 2, 3] rfl rfl (by decide)
  refine va_calli (va_runS (As := [.ref a0, .int 0, .ref a2, .int 0]) (rest := []) ⟨hx, hb, hml, hown, htx⟩ (gH_areOfOneKind l hl9 D cT aK aV s.heap.size n a0 a1 a2 a3 (0 : Int32) (0 : Int32) f0 v1 v2 f3 v4 v5 o1 hq2) ⟨callB_of 4 htx (xw_goodC kw_4_163) rfl rfl rfl (htx _ kw_1_27) (htx _ kw_4_161) ⟨by decide, by decide, by decide +kernel⟩ ⟨Nat.le_of_ble_eq_true rfl, Nat.le_of_ble_eq_true rfl⟩, htx _ kw_4_162⟩ ⟨xPre_blind, (fun U hU hW => ⟨rfl, xPre_of hZ hS hFc hPc hDc hK U hU hW⟩)⟩ rfl rfl hl.1 rfl (lv_room (Nat.le_of_ble_eq_true rfl)) dH_contains_4 ⟨Nat.le_of_ble_eq_true rfl, Nat.le_of_ble_eq_true rfl⟩) hS (fun q _ h => hFc q h) hFc (fun r3 u9 t H1 locs ht hvm hr9 hB hz1 hk1 hS => ?_)
  obtain ⟨hP1, hK1, hD1⟩ := hB
  rw [ht] at hP1
  obtain ⟨hP, hD⟩ := xjoin (W := [(a4, .inr (2, [.ref a5, .int v7, .int v8])), (a5, .inl (cT 2, 4096, .inr (.inl f6))), (a0, .inr (2, [.ref a1, .int v1, .int v2])), (a1, .inl (cT 2, 4096, .inr (.inl f0))), (a2, .inr (2, [.ref a3, .int v4, .int v5])), (a3, .inl (cT 2, 4096, .inr (.inl f3)))]) hP hD [0, 1, 2, 3] [4, 5] 2 rfl rfl (by decide) (by decide) hk1 hFc hP1 hD1
  generalize H1 = H at hP hS ⊢
  rw [hr9]
  refine W.eq (g2 := F0 m 7 ls [.int o1]) rfl ?_
  refine lv_if_eq (tgt := 25) hx hb dH_contains_7 (by decide) (fun hc => ?_) (fun hc => ?_)
  · rw [if_pos hc] at hf
    refine lv_iconst (v := 1) hx hb dH_contains_25 (by decide) ?_
    obtain rfl := Option.some.inj hf
    obtain ⟨hP9, hD9⟩ := xsub (wc := [(a0, .inr (2, [.ref a1, .int v1, .int v2])), (a1, .inl (cT 2, 4096, .inr (.inl f0))), (a2, .inr (2, [.ref a3, .int v4, .int v5])), (a3, .inl (cT 2, 4096, .inr (.inl f3))), (a4, .inr (2, [.ref a5, .int v7, .int v8])), (a5, .inl (cT 2, 4096, .inr (.inl f6)))]) hP hD [2, 3, 4, 5, 0, 1] rfl rfl (by decide)
    exact W.iret (v := (1 : Int32)) hx hb hr (fun t ht hW => ⟨⟨(1 : Int32), (), rfl, rfl, by rw [ht]; exact hP9, va_K.moved hW.alike hK, hD9⟩, hS.F ht⟩) hS.2.2 dH_contains_26
  · rw [if_neg hc] at hf
    refine lv_aload_n hx hb dH_contains_10 rfl (lv_at hl 0 rfl) ?_
    refine lv_iconst (v := 0) hx hb dH_contains_11 (by decide) ?_
    refine lv_aload_n hx hb dH_contains_12 rfl (lv_at hl 1 rfl) ?_
    refine lv_iconst (v := 0) hx hb dH_contains_13 (by decide) ?_
    refine lv_iconst (v := 0) hx hb dH_contains_14 (by decide) ?_
    obtain ⟨o4, hq5, hf⟩ := xbind hf
    obtain ⟨hPc, hDc, hFc⟩ := xcut (wc := [(a0, .inr (2, [.ref a1, .int v1, .int v2])), (a1, .inl (cT 2, 4096, .inr (.inl f0))), (a2, .inr (2, [.ref a3, .int v4, .int v5])), (a3, .inl (cT 2, 4096, .inr (.inl f3)))]) hP hD hS hA [2, 3, 4, 5] rfl rfl (by decide)
    refine va_calli (va_runS (As := [.ref a0, .int 0, .ref a2, .int 0, .int 0]) (rest := []) ⟨hx, hb, hml, hown, htx⟩ (gH_isIn l hl9 D cT aK aV d H.size n a0 a1 a2 a3 (0 : Int32) (0 : Int32) (0 : Int32) f0 v1 v2 f3 v4 v5 o4 hq5) ⟨callB_of 5 htx (xw_goodC kw_4_170) rfl rfl rfl (htx _ kw_1_27) (htx _ kw_4_168) ⟨by decide, by decide, by decide +kernel⟩ ⟨(by show (16 * d) + 1 ≤ 16 * d + 3; omega), (by show 8 + (5 + 11) + (400 * d) ≤ 400 * d + 64; omega)⟩, htx _ kw_4_169⟩ ⟨xPre_blind, (fun U hU hW => ⟨rfl, xPre_of hZ hS hFc hPc hDc hK U hU hW⟩)⟩ rfl rfl hl.1 rfl (lv_room (Nat.le_of_ble_eq_true rfl)) dH_contains_15 ⟨Nat.le_of_ble_eq_true rfl, Nat.le_of_ble_eq_true rfl⟩) hS (fun q _ h => hFc q h) hFc (fun r6 u9 t H1 locs ht hvm hr9 hB hz1 hk1 hS => ?_)
    obtain ⟨hP1, hK1, hD1⟩ := hB
    rw [ht] at hP1
    obtain ⟨hP, hD⟩ := xjoin (W := [(a4, .inr (2, [.ref a5, .int v7, .int v8])), (a5, .inl (cT 2, 4096, .inr (.inl f6))), (a0, .inr (2, [.ref a1, .int v1, .int v2])), (a1, .inl (cT 2, 4096, .inr (.inl f0))), (a2, .inr (2, [.ref a3, .int v4, .int v5])), (a3, .inl (cT 2, 4096, .inr (.inl f3)))]) hP hD [2, 3, 4, 5] [0, 1] 2 rfl rfl (by decide) (by decide) hk1 hFc hP1 hD1
    generalize H1 = H at hP hS ⊢
    rw [hr9]
    refine W.eq (g2 := F0 m 18 ls [.int o4]) rfl ?_
    refine lv_aload_n hx hb dH_contains_18 rfl (lv_at hl 2 rfl) ?_
    obtain ⟨o7, hq8, hf⟩ := xbind hf
    obtain ⟨hPc, hDc, hFc⟩ := xcut (wc := [(a4, .inr (2, [.ref a5, .int v7, .int v8])), (a5, .inl (cT 2, 4096, .inr (.inl f6)))]) hP hD hS hA [0, 1] rfl rfl (by decide)
    refine va_calli (va_runS (As := [.int o4, .ref a4]) (rest := []) ⟨hx, hb, hml, hown, htx⟩ (gH_truth l hl9 D cT aK aV H.size n a4 a5 o4 f6 v7 v8 o7 hq8) ⟨callB_of 2 htx (xw_goodC kw_4_154) rfl rfl rfl (htx _ kw_1_27) (htx _ kw_4_152) ⟨by decide, by decide, by decide +kernel⟩ ⟨Nat.le_of_ble_eq_true rfl, Nat.le_of_ble_eq_true rfl⟩, htx _ kw_4_153⟩ ⟨xPre_blind, (fun U hU hW => ⟨rfl, xPre_of hZ hS hFc hPc hDc hK U hU hW⟩)⟩ rfl rfl hl.1 rfl (lv_room (Nat.le_of_ble_eq_true rfl)) dH_contains_19 ⟨Nat.le_of_ble_eq_true rfl, Nat.le_of_ble_eq_true rfl⟩) hS (fun q _ h => hFc q h) hFc (fun r9 u9 t H1 locs ht hvm hr9 hB hz1 hk1 hS => ?_)
    obtain ⟨hP1, hK1, hD1⟩ := hB
    rw [ht] at hP1
    obtain ⟨hP, hD⟩ := xjoin (W := [(a0, .inr (2, [.ref a1, .int v1, .int v2])), (a1, .inl (cT 2, 4096, .inr (.inl f0))), (a2, .inr (2, [.ref a3, .int v4, .int v5])), (a3, .inl (cT 2, 4096, .inr (.inl f3))), (a4, .inr (2, [.ref a5, .int o7.2.2.1, .int o7.2.2.2])), (a5, .inl (cT 2, 4096, .inr (.inl o7.2.1)))]) hP hD [0, 1] [2, 3, 4, 5] 4 rfl rfl (by decide) (by decide) hk1 hFc hP1 hD1
    generalize H1 = H at hP hS ⊢
    rw [hr9]
    refine W.eq (g2 := F0 m 22 ls [.int o7.1]) rfl ?_
    refine lv_goto (tgt := 26) hx hb dH_contains_22 (by decide) ?_
    obtain rfl := Option.some.inj hf
    obtain ⟨hP9, hD9⟩ := xsub (wc := [(a0, .inr (2, [.ref a1, .int v1, .int v2])), (a1, .inl (cT 2, 4096, .inr (.inl f0))), (a2, .inr (2, [.ref a3, .int v4, .int v5])), (a3, .inl (cT 2, 4096, .inr (.inl f3))), (a4, .inr (2, [.ref a5, .int o7.2.2.1, .int o7.2.2.2])), (a5, .inl (cT 2, 4096, .inr (.inl o7.2.1)))]) hP hD [0, 1, 2, 3, 4, 5] rfl rfl (by decide)
    exact W.iret (v := o7.1) hx hb hr (fun t ht hW => ⟨⟨o7.1, (), rfl, rfl, by rw [ht]; exact hP9, va_K.moved hW.alike hK, hD9⟩, hS.F ht⟩) hS.2.2 dH_contains_26
set_option maxHeartbeats 400000000 in
set_option maxRecDepth 100000 in
theorem gH_addShown (l : Launch) (hl9 : l.stackTraces = false) (D : va_G) (cT : Nat → ClassId) (aK aV : Nat → Nat) (sz d n : Nat) (a0 : Nat) (a1 : Nat) (a2 : Nat) (a3 : Nat) (x1 : Int32) (f0 : Nat → Int64) (v1 : Int32) (v2 : Int32) (f3 : Nat → Int32) (v4 : Int32) (v5 : Int32) (out : (Nat → Int32) × Int32 × Int32) (hf : fH_addShown d n x1 f0 v1 v2 f3 v4 v5 = some out) : xMet l yH_addShown wyH_addShown (16 * d + 2) 0 0 (400 * d + 46) D cT aK aV sz [.ref a0, .int x1, .ref a2] [(a0, .inr (2, [.ref a1, .int v1, .int v2])), (a1, .inl (cT 2, 4096, .inr (.inl f0))), (a2, .inr (1, [.ref a3, .int v4, .int v5])), (a3, .inl (cT 0, 4096, .inl f3))] (fun A => va_Qv (fun _ : Unit => True) (fun _ t => xB D xcl cT A [(a0, .inr (2, [.ref a1, .int v1, .int v2])), (a1, .inl (cT 2, 4096, .inr (.inl f0))), (a2, .inr (1, [.ref a3, .int out.2.1, .int out.2.2])), (a3, .inl (cT 0, 4096, .inl out.1))] t) A) := by
  refine Met.ofW (cc := prog_5_method_17_code) (maxL := 3) (ret := none) (by decide) rfl ?_
  intro p e s m args below meth c s₁ B hml hv
  obtain ⟨rfl, hsz, hZ, hP, hK, hD0⟩ := hv
  have hx := B.exec
  have hb := B.bytes
  have hr := B.returns
  have hts := atoms_spec (ws := wyH_addShown) B.pre
  have htx := fun w h => hts w (List.mem_cons_of_mem _ h)
  have hown : s.vm.findClass "ValueBench$Pairs" = some m.cls := findClass_of_methodNamed B.named
  have hlocks := B.notSynchronized
  subst hsz
  have hD := hD0.self (sz := s.heap.size)
  generalize hAe : va_A [(a0, .inr (2, [.ref a1, .int v1, .int v2])), (a1, .inl (cT 2, 4096, .inr (.inl f0))), (a2, .inr (1, [.ref a3, .int v4, .int v5])), (a3, .inl (cT 0, 4096, .inl f3))] s.heap.size = A at hD hZ ⊢
  have hA : ∀ q : Nat, s.heap.size ≤ q → A q := fun q h => by rw [← hAe]; exact Or.inr h
  have hS : va_S A s.heap s.heap [] := va_S.rf
  have hP : va_P D xcl [(a0, .inr (2, [.ref a1, .int v1, .int v2])), (a1, .inl (cT 2, 4096, .inr (.inl f0))), (a2, .inr (1, [.ref a3, .int v4, .int v5])), (a3, .inl (cT 0, 4096, .inl f3))] s.heap := hP
  have hl := lv_entry ([.ref a0, .int x1, .ref a2]) (n := 3) (Nat.le_of_ble_eq_true rfl)
  rw [lg_entry_eq]
  generalize (lg_sl ([.ref a0, .int x1, .ref a2]) ++ List.replicate (3 - (lg_sl ([.ref a0, .int x1, .ref a2])).length) Slot.unset).toArray = ls at hl ⊢
  have hl : lv_has ls 3 [(0, .ref a0), (1, .int x1), (2, .ref a2)] := hl
  unfold fH_addShown at hf
  refine lv_aload_n hx hb dH_addShown_0 rfl (lv_at hl 0 rfl) ?_
  refine lv_iload_n hx hb dH_addShown_1 rfl (lv_at hl 1 rfl) ?_
  refine lv_iconst (v := 4) hx hb dH_addShown_2 (by decide) ?_
  obtain ⟨o1, hq2, hf⟩ := xbind hf
  obtain ⟨hPc, hDc, hFc⟩ := xcut (wc := [(a0, .inr (2, [.ref a1, .int v1, .int v2])), (a1, .inl (cT 2, 4096, .inr (.inl f0)))]) hP hD hS hA [0, 1] rfl rfl (by decide)
  refine va_calli (va_runV (C := "ValueBench$Row") (As := [.int x1, .int 4]) (rest := []) ⟨hx, hb, hml, hown, htx⟩ (gR_is l hl9 D cT aK aV s.heap.size n a0 a1 x1 (4 : Int32) f0 v1 v2 o1 hq2) ⟨callB_of 2 htx (xw_goodC kw_3_75) rfl rfl rfl (htx _ kw_1_4) (htx _ kw_4_150) ⟨by decide, by decide, by decide +kernel⟩ ⟨Nat.le_of_ble_eq_true rfl, Nat.le_of_ble_eq_true rfl⟩, (htx _ kw_3_73), (htx _ kw_3_74)⟩ ⟨xPre_blind, va_recv hK hP (ci := 2) rfl (q0 := 0) rfl, (fun U hU hW => ⟨rfl, xPre_of hZ hS hFc hPc hDc hK U hU hW⟩)⟩ rfl rfl hl.1 rfl (lv_room (Nat.le_of_ble_eq_true rfl)) dH_addShown_3 ⟨Nat.le_of_ble_eq_true rfl, Nat.le_of_ble_eq_true rfl⟩) hS (fun q _ h => hFc q h) hFc (fun r3 u9 t H1 locs ht hvm hr9 hB hz1 hk1 hS => ?_)
  obtain ⟨hP1, hK1, hD1⟩ := hB
  rw [ht] at hP1
  obtain ⟨hP, hD⟩ := xjoin (W := [(a2, .inr (1, [.ref a3, .int v4, .int v5])), (a3, .inl (cT 0, 4096, .inl f3)), (a0, .inr (2, [.ref a1, .int v1, .int v2])), (a1, .inl (cT 2, 4096, .inr (.inl f0)))]) hP hD [0, 1] [2, 3] 2 rfl rfl (by decide) (by decide) hk1 hFc hP1 hD1
  generalize H1 = H at hP hS ⊢
  rw [hr9]
  refine W.eq (g2 := F0 m 6 ls [.int o1]) rfl ?_
  refine lv_if_eq (tgt := 18) hx hb dH_addShown_6 (by decide) (fun hc => ?_) (fun hc => ?_)
  · rw [if_pos hc] at hf
    refine lv_aload_n hx hb dH_addShown_18 rfl (lv_at hl 0 rfl) ?_
    refine lv_iload_n hx hb dH_addShown_19 rfl (lv_at hl 1 rfl) ?_
    refine lv_iconst (v := 0) hx hb dH_addShown_20 (by decide) ?_
    obtain ⟨o4, hq5, hf⟩ := xbind hf
    obtain ⟨hPc, hDc, hFc⟩ := xcut (wc := [(a0, .inr (2, [.ref a1, .int v1, .int v2])), (a1, .inl (cT 2, 4096, .inr (.inl f0)))]) hP hD hS hA [2, 3] rfl rfl (by decide)
    refine va_calli (va_runV (C := "ValueBench$Row") (As := [.int x1, .int 0]) (rest := []) ⟨hx, hb, hml, hown, htx⟩ (gR_is l hl9 D cT aK aV H.size n a0 a1 x1 (0 : Int32) f0 v1 v2 o4 hq5) ⟨callB_of 2 htx (xw_goodC kw_3_75) rfl rfl rfl (htx _ kw_1_4) (htx _ kw_4_150) ⟨by decide, by decide, by decide +kernel⟩ ⟨Nat.le_of_ble_eq_true rfl, Nat.le_of_ble_eq_true rfl⟩, (htx _ kw_3_73), (htx _ kw_3_74)⟩ ⟨xPre_blind, va_recv hK hP (ci := 2) rfl (q0 := 2) rfl, (fun U hU hW => ⟨rfl, xPre_of hZ hS hFc hPc hDc hK U hU hW⟩)⟩ rfl rfl hl.1 rfl (lv_room (Nat.le_of_ble_eq_true rfl)) dH_addShown_21 ⟨Nat.le_of_ble_eq_true rfl, Nat.le_of_ble_eq_true rfl⟩) hS (fun q _ h => hFc q h) hFc (fun r6 u9 t H1 locs ht hvm hr9 hB hz1 hk1 hS => ?_)
    obtain ⟨hP1, hK1, hD1⟩ := hB
    rw [ht] at hP1
    obtain ⟨hP, hD⟩ := xjoin (W := [(a2, .inr (1, [.ref a3, .int v4, .int v5])), (a3, .inl (cT 0, 4096, .inl f3)), (a0, .inr (2, [.ref a1, .int v1, .int v2])), (a1, .inl (cT 2, 4096, .inr (.inl f0)))]) hP hD [2, 3] [0, 1] 2 rfl rfl (by decide) (by decide) hk1 hFc hP1 hD1
    generalize H1 = H at hP hS ⊢
    rw [hr9]
    refine W.eq (g2 := F0 m 24 ls [.int o4]) rfl ?_
    refine lv_if_ne (tgt := 34) hx hb dH_addShown_24 (by decide) (fun hc => ?_) (fun hc => ?_)
    · rw [if_neg hc] at hf
      obtain rfl := Option.some.inj hf
      obtain ⟨hP9, hD9⟩ := xsub (wc := [(a0, .inr (2, [.ref a1, .int v1, .int v2])), (a1, .inl (cT 2, 4096, .inr (.inl f0))), (a2, .inr (1, [.ref a3, .int v4, .int v5])), (a3, .inl (cT 0, 4096, .inl f3))]) hP hD [2, 3, 0, 1] rfl rfl (by decide)
      exact W.vret hx hb hr (fun t ht hW => ⟨⟨(), rfl, trivial, by rw [ht]; exact hP9, va_K.moved hW.alike hK, hD9⟩, hS.F ht⟩) hS.2.2 dH_addShown_34
    · rw [if_pos hc] at hf
      refine lv_aload_n hx hb dH_addShown_27 rfl (lv_at hl 0 rfl) ?_
      refine lv_iload_n hx hb dH_addShown_28 rfl (lv_at hl 1 rfl) ?_
      refine lv_aload_n hx hb dH_addShown_29 rfl (lv_at hl 2 rfl) ?_
      refine lv_iconst (v := 0) hx hb dH_addShown_30 (by decide) ?_
      obtain ⟨o7, hq8, hf⟩ := xbind hf
      obtain ⟨hPc, hDc, hFc⟩ := xcut (wc := [(a0, .inr (2, [.ref a1, .int v1, .int v2])), (a1, .inl (cT 2, 4096, .inr (.inl f0))), (a2, .inr (1, [.ref a3, .int v4, .int v5])), (a3, .inl (cT 0, 4096, .inl f3))]) hP hD hS hA [2, 3, 0, 1] rfl rfl (by decide)
      refine va_callv (va_runS (As := [.ref a0, .int x1, .ref a2, .int 0]) (rest := []) ⟨hx, hb, hml, hown, htx⟩ (gP_write l hl9 D cT aK aV d H.size n a0 a1 a2 a3 x1 (0 : Int32) f0 v1 v2 f3 v4 v5 o7 hq8) ⟨callB_of 4 htx (xw_goodC kw_3_20) rfl rfl rfl (htx _ kw_1_18) (htx _ kw_4_194) ⟨by decide, by decide, by decide +kernel⟩ ⟨(by show (16 * d) + 1 ≤ 16 * d + 2; omega), (by show 8 + (4 + 11) + (400 * d) ≤ 400 * d + 46; omega)⟩, htx _ kw_3_19⟩ ⟨xPre_blind, (fun U hU hW => ⟨rfl, xPre_of hZ hS hFc hPc hDc hK U hU hW⟩)⟩ rfl rfl hl.1 rfl (lv_room (Nat.le_of_ble_eq_true rfl)) dH_addShown_31 ⟨Nat.le_of_ble_eq_true rfl, Nat.le_of_ble_eq_true rfl⟩) hS (fun q _ h => hFc q h) hFc (fun u9 t H1 locs ht hvm hr9 hB hz1 hk1 hS => ?_)
      obtain ⟨hP1, hK1, hD1⟩ := hB
      rw [ht] at hP1
      obtain ⟨hP, hD⟩ := xjoin (W := [(a0, .inr (2, [.ref a1, .int v1, .int v2])), (a1, .inl (cT 2, 4096, .inr (.inl f0))), (a2, .inr (1, [.ref a3, .int o7.2.1, .int o7.2.2])), (a3, .inl (cT 0, 4096, .inl o7.1))]) hP hD [2, 3, 0, 1] [] 0 rfl rfl (by decide) (by decide) hk1 hFc hP1 hD1
      generalize H1 = H at hP hS ⊢
      obtain rfl := Option.some.inj hf
      obtain ⟨hP9, hD9⟩ := xsub (wc := [(a0, .inr (2, [.ref a1, .int v1, .int v2])), (a1, .inl (cT 2, 4096, .inr (.inl f0))), (a2, .inr (1, [.ref a3, .int o7.2.1, .int o7.2.2])), (a3, .inl (cT 0, 4096, .inl o7.1))]) hP hD [0, 1, 2, 3] rfl rfl (by decide)
      exact W.vret hx hb hr (fun t ht hW => ⟨⟨(), rfl, trivial, by rw [ht]; exact hP9, va_K.moved hW.alike hK, hD9⟩, hS.F ht⟩) hS.2.2 dH_addShown_34
  · rw [if_neg hc] at hf
    refine lv_aload_n hx hb dH_addShown_9 rfl (lv_at hl 2 rfl) ?_
    refine lv_aload_n hx hb dH_addShown_10 rfl (lv_at hl 0 rfl) ?_
    refine lv_iload_n hx hb dH_addShown_11 rfl (lv_at hl 1 rfl) ?_
    obtain ⟨o4, hq5, hf⟩ := xbind hf
    obtain ⟨hPc, hDc, hFc⟩ := xcut (wc := [(a2, .inr (1, [.ref a3, .int v4, .int v5])), (a3, .inl (cT 0, 4096, .inl f3)), (a0, .inr (2, [.ref a1, .int v1, .int v2])), (a1, .inl (cT 2, 4096, .inr (.inl f0)))]) hP hD hS hA [0, 1, 2, 3] rfl rfl (by decide)
    refine va_callv (va_runV (C := "ValueBench$Text") (As := [.ref a0, .int x1]) (rest := []) ⟨hx, hb, hml, hown, htx⟩ (gT_addString l hl9 D cT aK aV H.size n a2 a3 a0 a1 x1 f3 v4 v5 f0 v1 v2 o4 hq5) ⟨callB_of 2 htx (xw_goodC kw_4_99) rfl rfl rfl (htx _ kw_1_2) (htx _ kw_4_190) ⟨by decide, by decide, by decide +kernel⟩ ⟨Nat.le_of_ble_eq_true rfl, Nat.le_of_ble_eq_true rfl⟩, (htx _ kw_4_97), (htx _ kw_4_98)⟩ ⟨xPre_blind, va_recv hK hP (ci := 1) rfl (q0 := 0) rfl, (fun U hU hW => ⟨rfl, xPre_of hZ hS hFc hPc hDc hK U hU hW⟩)⟩ rfl rfl hl.1 rfl (lv_room (Nat.le_of_ble_eq_true rfl)) dH_addShown_12 ⟨Nat.le_of_ble_eq_true rfl, Nat.le_of_ble_eq_true rfl⟩) hS (fun q _ h => hFc q h) hFc (fun u9 t H1 locs ht hvm hr9 hB hz1 hk1 hS => ?_)
    obtain ⟨hP1, hK1, hD1⟩ := hB
    rw [ht] at hP1
    obtain ⟨hP, hD⟩ := xjoin (W := [(a2, .inr (1, [.ref a3, .int o4.2.1, .int o4.2.2])), (a3, .inl (cT 0, 4096, .inl o4.1)), (a0, .inr (2, [.ref a1, .int v1, .int v2])), (a1, .inl (cT 2, 4096, .inr (.inl f0)))]) hP hD [0, 1, 2, 3] [] 0 rfl rfl (by decide) (by decide) hk1 hFc hP1 hD1
    generalize H1 = H at hP hS ⊢
    refine lv_goto (tgt := 34) hx hb dH_addShown_15 (by decide) ?_
    obtain rfl := Option.some.inj hf
    obtain ⟨hP9, hD9⟩ := xsub (wc := [(a0, .inr (2, [.ref a1, .int v1, .int v2])), (a1, .inl (cT 2, 4096, .inr (.inl f0))), (a2, .inr (1, [.ref a3, .int o4.2.1, .int o4.2.2])), (a3, .inl (cT 0, 4096, .inl o4.1))]) hP hD [2, 3, 0, 1] rfl rfl (by decide)
    exact W.vret hx hb hr (fun t ht hW => ⟨⟨(), rfl, trivial, by rw [ht]; exact hP9, va_K.moved hW.alike hK, hD9⟩, hS.F ht⟩) hS.2.2 dH_addShown_34
set_option maxHeartbeats 400000000 in
set_option maxRecDepth 100000 in
theorem gH_joined (l : Launch) (hl9 : l.stackTraces = false) (D : va_G) (cT : Nat → ClassId) (aK aV : Nat → Nat) (sz d n : Nat) (a0 : Nat) (a1 : Nat) (a2 : Nat) (a3 : Nat) (a4 : Nat) (a5 : Nat) (a6 : Nat) (a7 : Nat) (f0 : Nat → Int64) (v1 : Int32) (v2 : Int32) (f3 : Nat → Int64) (v4 : Int32) (v5 : Int32) (f6 : Nat → Int32) (v7 : Int32) (v8 : Int32) (f9 : Nat → Int64) (v10 : Int32) (v11 : Int32) (out : Int32 × (Nat → Int32) × Int32 × Int32 × (Nat → Int64) × Int32 × Int32) (hf : fH_joined d n f0 v1 v2 f3 v4 v5 f6 v7 v8 f9 v10 v11 = some out) : xMet l yH_joined wyH_joined (16 * d + 3) 0 0 (400 * d + 68) D cT aK aV sz [.ref a0, .ref a2, .ref a4, .ref a6] [(a0, .inr (2, [.ref a1, .int v1, .int v2])), (a1, .inl (cT 2, 4096, .inr (.inl f0))), (a2, .inr (2, [.ref a3, .int v4, .int v5])), (a3, .inl (cT 2, 4096, .inr (.inl f3))), (a4, .inr (1, [.ref a5, .int v7, .int v8])), (a5, .inl (cT 0, 4096, .inl f6)), (a6, .inr (2, [.ref a7, .int v10, .int v11])), (a7, .inl (cT 2, 4096, .inr (.inl f9)))] (fun A => va_Qi (fun (r : Int32) (_ : Unit) => r = out.1) (fun _ t => xB D xcl cT A [(a0, .inr (2, [.ref a1, .int v1, .int v2])), (a1, .inl (cT 2, 4096, .inr (.inl f0))), (a2, .inr (2, [.ref a3, .int v4, .int v5])), (a3, .inl (cT 2, 4096, .inr (.inl f3))), (a4, .inr (1, [.ref a5, .int out.2.2.1, .int out.2.2.2.1])), (a5, .inl (cT 0, 4096, .inl out.2.1)), (a6, .inr (2, [.ref a7, .int out.2.2.2.2.2.1, .int out.2.2.2.2.2.2])), (a7, .inl (cT 2, 4096, .inr (.inl out.2.2.2.2.1)))] t) A) := by
  refine Met.ofW (cc := prog_5_method_16_code) (maxL := 6) (ret := (some .int)) (by decide) rfl ?_
  intro p e s m args below meth c s₁ B hml hv
  obtain ⟨rfl, hsz, hZ, hP, hK, hD0⟩ := hv
  have hx := B.exec
  have hb := B.bytes
  have hr := B.returns
  have hts := atoms_spec (ws := wyH_joined) B.pre
  have htx := fun w h => hts w (List.mem_cons_of_mem _ h)
  have hown : s.vm.findClass "ValueBench$Pairs" = some m.cls := findClass_of_methodNamed B.named
  have hlocks := B.notSynchronized
  subst hsz
  have hD := hD0.self (sz := s.heap.size)
  generalize hAe : va_A [(a0, .inr (2, [.ref a1, .int v1, .int v2])), (a1, .inl (cT 2, 4096, .inr (.inl f0))), (a2, .inr (2, [.ref a3, .int v4, .int v5])), (a3, .inl (cT 2, 4096, .inr (.inl f3))), (a4, .inr (1, [.ref a5, .int v7, .int v8])), (a5, .inl (cT 0, 4096, .inl f6)), (a6, .inr (2, [.ref a7, .int v10, .int v11])), (a7, .inl (cT 2, 4096, .inr (.inl f9)))] s.heap.size = A at hD hZ ⊢
  have hA : ∀ q : Nat, s.heap.size ≤ q → A q := fun q h => by rw [← hAe]; exact Or.inr h
  have hS : va_S A s.heap s.heap [] := va_S.rf
  have hP : va_P D xcl [(a0, .inr (2, [.ref a1, .int v1, .int v2])), (a1, .inl (cT 2, 4096, .inr (.inl f0))), (a2, .inr (2, [.ref a3, .int v4, .int v5])), (a3, .inl (cT 2, 4096, .inr (.inl f3))), (a4, .inr (1, [.ref a5, .int v7, .int v8])), (a5, .inl (cT 0, 4096, .inl f6)), (a6, .inr (2, [.ref a7, .int v10, .int v11])), (a7, .inl (cT 2, 4096, .inr (.inl f9)))] s.heap := hP
  have hl := lv_entry ([.ref a0, .ref a2, .ref a4, .ref a6]) (n := 6) (Nat.le_of_ble_eq_true rfl)
  rw [lg_entry_eq]
  generalize (lg_sl ([.ref a0, .ref a2, .ref a4, .ref a6]) ++ List.replicate (6 - (lg_sl ([.ref a0, .ref a2, .ref a4, .ref a6])).length) Slot.unset).toArray = ls at hl ⊢
  have hl : lv_has ls 6 [(0, .ref a0), (1, .ref a2), (2, .ref a4), (3, .ref a6)] := hl
  unfold fH_joined at hf
  refine xloopK (σ := Nat × Int32 × Int32 × (Nat → Int32) × Int32 × Int32 × (Nat → Int64) × Int32 × Int32) (fun n x H locs ls => (x.1 = 1 ∧ fH_joined_b d f0 v1 v2 f3 v4 v5 n x.1 x.2.1 x.2.2.1 x.2.2.2.1 x.2.2.2.2.1 x.2.2.2.2.2.1 x.2.2.2.2.2.2.1 x.2.2.2.2.2.2.2.1 x.2.2.2.2.2.2.2.2 = some out ∧ va_P D xcl [(a0, .inr (2, [.ref a1, .int v1, .int v2])), (a1, .inl (cT 2, 4096, .inr (.inl f0))), (a2, .inr (2, [.ref a3, .int v4, .int v5])), (a3, .inl (cT 2, 4096, .inr (.inl f3))), (a4, .inr (1, [.ref a5, .int x.2.2.2.2.1, .int x.2.2.2.2.2.1])), (a5, .inl (cT 0, 4096, .inl x.2.2.2.1)), (a6, .inr (2, [.ref a7, .int x.2.2.2.2.2.2.2.1, .int x.2.2.2.2.2.2.2.2])), (a7, .inl (cT 2, 4096, .inr (.inl x.2.2.2.2.2.2.1)))] H ∧ va_D A [(a0, .inr (2, [.ref a1, .int v1, .int v2])), (a1, .inl (cT 2, 4096, .inr (.inl f0))), (a2, .inr (2, [.ref a3, .int v4, .int v5])), (a3, .inl (cT 2, 4096, .inr (.inl f3))), (a4, .inr (1, [.ref a5, .int x.2.2.2.2.1, .int x.2.2.2.2.2.1])), (a5, .inl (cT 0, 4096, .inl x.2.2.2.1)), (a6, .inr (2, [.ref a7, .int x.2.2.2.2.2.2.2.1, .int x.2.2.2.2.2.2.2.2])), (a7, .inl (cT 2, 4096, .inr (.inl x.2.2.2.2.2.2.1)))] ∧ va_S A s.heap H locs ∧ lv_has ls 6 [(5, .int x.2.1), (4, .int x.2.2.1), (0, .ref a0), (1, .ref a2), (2, .ref a4), (3, .ref a6)])) (fun x => 30) (fun x H locs ls h => by exact absurd h.2.1 (by rw [fH_joined_b]; exact fun h => nomatch h)) (fun n ih x H locs ls hv => ?_) (fun key => ?_)
  · obtain ⟨lb, y5, y4, w0, w1, w2, w3, w4, w5⟩ := x
    rcases hv with ⟨hj, hf, hP, hD, hS, hl⟩
    subst hj
    have hf : fH_joined_b d f0 v1 v2 f3 v4 v5 (n + 1) 1 y5 y4 w0 w1 w2 w3 w4 w5 = some out := hf
    rw [fH_joined_b] at hf
    obtain ⟨hP, hD⟩ : xPD D xcl A [(a0, .inr (2, [.ref a1, .int v1, .int v2])), (a1, .inl (cT 2, 4096, .inr (.inl f0))), (a2, .inr (2, [.ref a3, .int v4, .int v5])), (a3, .inl (cT 2, 4096, .inr (.inl f3))), (a4, .inr (1, [.ref a5, .int w1, .int w2])), (a5, .inl (cT 0, 4096, .inl w0)), (a6, .inr (2, [.ref a7, .int w4, .int w5])), (a7, .inl (cT 2, 4096, .inr (.inl w3)))] H := ⟨hP, hD⟩
    have hl : lv_has ls 6 [(5, .int y5), (4, .int y4), (0, .ref a0), (1, .ref a2), (2, .ref a4), (3, .ref a6)] := hl
    refine W.eq (g2 := F0 m 30 ls []) rfl ?_
    refine lv_iload hx hb dH_joined_30 (lv_at hl 0 rfl) ?_
    refine lv_aload_n hx hb dH_joined_32 rfl (lv_at hl 2 rfl) ?_
    refine lv_iconst (v := 0) hx hb dH_joined_33 (by decide) ?_
    obtain ⟨o1, hq2, hf⟩ := xbind hf
    obtain ⟨hPc, hDc, hFc⟩ := xcut (wc := [(a0, .inr (2, [.ref a1, .int v1, .int v2])), (a1, .inl (cT 2, 4096, .inr (.inl f0)))]) hP hD hS hA [0, 1] rfl rfl (by decide)
    refine va_calli (va_runV (C := "ValueBench$Row") (As := [.int 0]) (rest := [.int y5]) ⟨hx, hb, hml, hown, htx⟩ (gR_length l hl9 D cT aK aV H.size n a0 a1 (0 : Int32) f0 v1 v2 o1 hq2) ⟨callB_of 1 htx (xw_goodC kw_2_191) rfl rfl rfl (htx _ kw_1_4) (htx _ kw_4_157) ⟨by decide, by decide, by decide +kernel⟩ ⟨Nat.le_of_ble_eq_true rfl, Nat.le_of_ble_eq_true rfl⟩, (htx _ kw_2_189), (htx _ kw_2_190)⟩ ⟨xPre_blind, va_recv hK hP (ci := 2) rfl (q0 := 0) rfl, (fun U hU hW => ⟨rfl, xPre_of hZ hS hFc hPc hDc hK U hU hW⟩)⟩ rfl rfl hl.1 rfl (lv_room (Nat.le_of_ble_eq_true rfl)) dH_joined_34 ⟨Nat.le_of_ble_eq_true rfl, Nat.le_of_ble_eq_true rfl⟩) hS (fun q _ h => hFc q h) hFc (fun r3 u9 t H1 locs ht hvm hr9 hB hz1 hk1 hS => ?_)
    obtain ⟨hP1, hK1, hD1⟩ := hB
    rw [ht] at hP1
    obtain ⟨hP, hD⟩ := xjoin (W := [(a2, .inr (2, [.ref a3, .int v4, .int v5])), (a3, .inl (cT 2, 4096, .inr (.inl f3))), (a4, .inr (1, [.ref a5, .int w1, .int w2])), (a5, .inl (cT 0, 4096, .inl w0)), (a6, .inr (2, [.ref a7, .int w4, .int w5])), (a7, .inl (cT 2, 4096, .inr (.inl w3))), (a0, .inr (2, [.ref a1, .int v1, .int v2])), (a1, .inl (cT 2, 4096, .inr (.inl f0)))]) hP hD [0, 1] [2, 3, 4, 5, 6, 7] 6 rfl rfl (by decide) (by decide) hk1 hFc hP1 hD1
    generalize H1 = H at hP hS ⊢
    rw [hr9]
    refine W.eq (g2 := F0 m 37 ls [.int o1, .int y5]) rfl ?_
    refine lv_icmp_ge (tgt := 95) hx hb dH_joined_37 (by decide) (fun hc => ?_) (fun hc => ?_)
    · rw [if_pos hc] at hf
      refine lv_aload_n hx hb dH_joined_95 rfl (lv_at hl 5 rfl) ?_
      refine lv_aload_n hx hb dH_joined_96 rfl (lv_at hl 4 rfl) ?_
      obtain ⟨o4, hq5, hf⟩ := xbind hf
      obtain ⟨hPc, hDc, hFc⟩ := xcut (wc := [(a6, .inr (2, [.ref a7, .int w4, .int w5])), (a7, .inl (cT 2, 4096, .inr (.inl w3))), (a4, .inr (1, [.ref a5, .int w1, .int w2])), (a5, .inl (cT 0, 4096, .inl w0))]) hP hD hS hA [4, 5, 2, 3] rfl rfl (by decide)
      refine va_callv (va_runV (C := "ValueBench$Row") (As := [.ref a4]) (rest := []) ⟨hx, hb, hml, hown, htx⟩ (gR_putText l hl9 D cT aK aV H.size n a6 a7 a4 a5 w3 w4 w5 w0 w1 w2 o4 hq5) ⟨callB_of 1 htx (xw_goodC kw_4_86) rfl rfl rfl (htx _ kw_1_4) (htx _ kw_4_195) ⟨by decide, by decide, by decide +kernel⟩ ⟨Nat.le_of_ble_eq_true rfl, Nat.le_of_ble_eq_true rfl⟩, (htx _ kw_4_84), (htx _ kw_4_85)⟩ ⟨xPre_blind, va_recv hK hP (ci := 2) rfl (q0 := 4) rfl, (fun U hU hW => ⟨rfl, xPre_of hZ hS hFc hPc hDc hK U hU hW⟩)⟩ rfl rfl hl.1 rfl (lv_room (Nat.le_of_ble_eq_true rfl)) dH_joined_97 ⟨Nat.le_of_ble_eq_true rfl, Nat.le_of_ble_eq_true rfl⟩) hS (fun q _ h => hFc q h) hFc (fun u9 t H1 locs ht hvm hr9 hB hz1 hk1 hS => ?_)
      obtain ⟨hP1, hK1, hD1⟩ := hB
      rw [ht] at hP1
      obtain ⟨hP, hD⟩ := xjoin (W := [(a2, .inr (2, [.ref a3, .int v4, .int v5])), (a3, .inl (cT 2, 4096, .inr (.inl f3))), (a0, .inr (2, [.ref a1, .int v1, .int v2])), (a1, .inl (cT 2, 4096, .inr (.inl f0))), (a6, .inr (2, [.ref a7, .int o4.2.1, .int o4.2.2])), (a7, .inl (cT 2, 4096, .inr (.inl o4.1))), (a4, .inr (1, [.ref a5, .int w1, .int w2])), (a5, .inl (cT 0, 4096, .inl w0))]) hP hD [4, 5, 2, 3] [0, 1, 6, 7] 4 rfl rfl (by decide) (by decide) hk1 hFc hP1 hD1
      generalize H1 = H at hP hS ⊢
      refine lv_iconst (v := 0) hx hb dH_joined_100 (by decide) ?_
      obtain rfl := Option.some.inj hf
      obtain ⟨hP9, hD9⟩ := xsub (wc := [(a0, .inr (2, [.ref a1, .int v1, .int v2])), (a1, .inl (cT 2, 4096, .inr (.inl f0))), (a2, .inr (2, [.ref a3, .int v4, .int v5])), (a3, .inl (cT 2, 4096, .inr (.inl f3))), (a4, .inr (1, [.ref a5, .int w1, .int w2])), (a5, .inl (cT 0, 4096, .inl w0)), (a6, .inr (2, [.ref a7, .int o4.2.1, .int o4.2.2])), (a7, .inl (cT 2, 4096, .inr (.inl o4.1)))]) hP hD [2, 3, 0, 1, 6, 7, 4, 5] rfl rfl (by decide)
      exact W.iret (v := (0 : Int32)) hx hb hr (fun t ht hW => ⟨⟨(0 : Int32), (), rfl, rfl, by rw [ht]; exact hP9, va_K.moved hW.alike hK, hD9⟩, hS.F ht⟩) hS.2.2 dH_joined_101
    · rw [if_neg hc] at hf
      refine lv_aload_n hx hb dH_joined_40 rfl (lv_at hl 2 rfl) ?_
      refine lv_iload hx hb dH_joined_41 (lv_at hl 1 rfl) ?_
      refine lv_iconst (v := 5) hx hb dH_joined_43 (by decide) ?_
      obtain ⟨o4, hq5, hf⟩ := xbind hf
      obtain ⟨hPc, hDc, hFc⟩ := xcut (wc := [(a0, .inr (2, [.ref a1, .int v1, .int v2])), (a1, .inl (cT 2, 4096, .inr (.inl f0)))]) hP hD hS hA [6, 7] rfl rfl (by decide)
      refine va_calli (va_runV (C := "ValueBench$Row") (As := [.int y4, .int 5]) (rest := []) ⟨hx, hb, hml, hown, htx⟩ (gR_is l hl9 D cT aK aV H.size n a0 a1 y4 (5 : Int32) f0 v1 v2 o4 hq5) ⟨callB_of 2 htx (xw_goodC kw_3_75) rfl rfl rfl (htx _ kw_1_4) (htx _ kw_4_150) ⟨by decide, by decide, by decide +kernel⟩ ⟨Nat.le_of_ble_eq_true rfl, Nat.le_of_ble_eq_true rfl⟩, (htx _ kw_3_73), (htx _ kw_3_74)⟩ ⟨xPre_blind, va_recv hK hP (ci := 2) rfl (q0 := 6) rfl, (fun U hU hW => ⟨rfl, xPre_of hZ hS hFc hPc hDc hK U hU hW⟩)⟩ rfl rfl hl.1 rfl (lv_room (Nat.le_of_ble_eq_true rfl)) dH_joined_44 ⟨Nat.le_of_ble_eq_true rfl, Nat.le_of_ble_eq_true rfl⟩) hS (fun q _ h => hFc q h) hFc (fun r6 u9 t H1 locs ht hvm hr9 hB hz1 hk1 hS => ?_)
      obtain ⟨hP1, hK1, hD1⟩ := hB
      rw [ht] at hP1
      obtain ⟨hP, hD⟩ := xjoin (W := [(a2, .inr (2, [.ref a3, .int v4, .int v5])), (a3, .inl (cT 2, 4096, .inr (.inl f3))), (a4, .inr (1, [.ref a5, .int w1, .int w2])), (a5, .inl (cT 0, 4096, .inl w0)), (a6, .inr (2, [.ref a7, .int w4, .int w5])), (a7, .inl (cT 2, 4096, .inr (.inl w3))), (a0, .inr (2, [.ref a1, .int v1, .int v2])), (a1, .inl (cT 2, 4096, .inr (.inl f0)))]) hP hD [6, 7] [0, 1, 2, 3, 4, 5] 6 rfl rfl (by decide) (by decide) hk1 hFc hP1 hD1
      generalize H1 = H at hP hS ⊢
      rw [hr9]
      refine W.eq (g2 := F0 m 47 ls [.int o4]) rfl ?_
      refine lv_if_ne (tgt := 61) hx hb dH_joined_47 (by decide) (fun hc => ?_) (fun hc => ?_)
      · rw [if_neg hc] at hf
        refine lv_iconst (v := 1) hx hb dH_joined_61 (by decide) ?_
        obtain rfl := Option.some.inj hf
        obtain ⟨hP9, hD9⟩ := xsub (wc := [(a0, .inr (2, [.ref a1, .int v1, .int v2])), (a1, .inl (cT 2, 4096, .inr (.inl f0))), (a2, .inr (2, [.ref a3, .int v4, .int v5])), (a3, .inl (cT 2, 4096, .inr (.inl f3))), (a4, .inr (1, [.ref a5, .int w1, .int w2])), (a5, .inl (cT 0, 4096, .inl w0)), (a6, .inr (2, [.ref a7, .int w4, .int w5])), (a7, .inl (cT 2, 4096, .inr (.inl w3)))]) hP hD [6, 7, 0, 1, 2, 3, 4, 5] rfl rfl (by decide)
        exact W.iret (v := (1 : Int32)) hx hb hr (fun t ht hW => ⟨⟨(1 : Int32), (), rfl, rfl, by rw [ht]; exact hP9, va_K.moved hW.alike hK, hD9⟩, hS.F ht⟩) hS.2.2 dH_joined_62
      · rw [if_pos hc] at hf
        refine lv_aload_n hx hb dH_joined_50 rfl (lv_at hl 2 rfl) ?_
        refine lv_iload hx hb dH_joined_51 (lv_at hl 1 rfl) ?_
        refine lv_bipush (v := 6) hx hb dH_joined_53 (by decide) ?_
        obtain ⟨o7, hq8, hf⟩ := xbind hf
        obtain ⟨hPc, hDc, hFc⟩ := xcut (wc := [(a0, .inr (2, [.ref a1, .int v1, .int v2])), (a1, .inl (cT 2, 4096, .inr (.inl f0)))]) hP hD hS hA [6, 7] rfl rfl (by decide)
        refine va_calli (va_runV (C := "ValueBench$Row") (As := [.int y4, .int 6]) (rest := []) ⟨hx, hb, hml, hown, htx⟩ (gR_is l hl9 D cT aK aV H.size n a0 a1 y4 (6 : Int32) f0 v1 v2 o7 hq8) ⟨callB_of 2 htx (xw_goodC kw_3_75) rfl rfl rfl (htx _ kw_1_4) (htx _ kw_4_150) ⟨by decide, by decide, by decide +kernel⟩ ⟨Nat.le_of_ble_eq_true rfl, Nat.le_of_ble_eq_true rfl⟩, (htx _ kw_3_73), (htx _ kw_3_74)⟩ ⟨xPre_blind, va_recv hK hP (ci := 2) rfl (q0 := 6) rfl, (fun U hU hW => ⟨rfl, xPre_of hZ hS hFc hPc hDc hK U hU hW⟩)⟩ rfl rfl hl.1 rfl (lv_room (Nat.le_of_ble_eq_true rfl)) dH_joined_55 ⟨Nat.le_of_ble_eq_true rfl, Nat.le_of_ble_eq_true rfl⟩) hS (fun q _ h => hFc q h) hFc (fun r9 u9 t H1 locs ht hvm hr9 hB hz1 hk1 hS => ?_)
        obtain ⟨hP1, hK1, hD1⟩ := hB
        rw [ht] at hP1
        obtain ⟨hP, hD⟩ := xjoin (W := [(a2, .inr (2, [.ref a3, .int v4, .int v5])), (a3, .inl (cT 2, 4096, .inr (.inl f3))), (a4, .inr (1, [.ref a5, .int w1, .int w2])), (a5, .inl (cT 0, 4096, .inl w0)), (a6, .inr (2, [.ref a7, .int w4, .int w5])), (a7, .inl (cT 2, 4096, .inr (.inl w3))), (a0, .inr (2, [.ref a1, .int v1, .int v2])), (a1, .inl (cT 2, 4096, .inr (.inl f0)))]) hP hD [6, 7] [0, 1, 2, 3, 4, 5] 6 rfl rfl (by decide) (by decide) hk1 hFc hP1 hD1
        generalize H1 = H at hP hS ⊢
        rw [hr9]
        refine W.eq (g2 := F0 m 58 ls [.int o7]) rfl ?_
        refine lv_if_eq (tgt := 63) hx hb dH_joined_58 (by decide) (fun hc => ?_) (fun hc => ?_)
        · rw [if_pos hc] at hf
          refine lv_iload hx hb dH_joined_63 (lv_at hl 0 rfl) ?_
          refine lv_if_le (tgt := 74) hx hb dH_joined_65 (by decide) (fun hc => ?_) (fun hc => ?_)
          · rw [if_pos hc] at hf
            refine lv_aload_n hx hb dH_joined_74 rfl (lv_at hl 2 rfl) ?_
            refine lv_iload hx hb dH_joined_75 (lv_at hl 1 rfl) ?_
            refine lv_aload_n hx hb dH_joined_77 rfl (lv_at hl 4 rfl) ?_
            obtain ⟨o10, hq11, hf⟩ := xbind hf
            obtain ⟨hPc, hDc, hFc⟩ := xcut (wc := [(a0, .inr (2, [.ref a1, .int v1, .int v2])), (a1, .inl (cT 2, 4096, .inr (.inl f0))), (a4, .inr (1, [.ref a5, .int w1, .int w2])), (a5, .inl (cT 0, 4096, .inl w0))]) hP hD hS hA [6, 7, 2, 3] rfl rfl (by decide)
            refine va_callv (va_runS (As := [.ref a0, .int y4, .ref a4]) (rest := []) ⟨hx, hb, hml, hown, htx⟩ (gH_addShown l hl9 D cT aK aV H.size d n a0 a1 a4 a5 y4 f0 v1 v2 w0 w1 w2 o10 hq11) ⟨callB_of 3 htx (xw_goodC kw_4_193) rfl rfl rfl (htx _ kw_1_27) (htx _ kw_4_191) ⟨by decide, by decide, by decide +kernel⟩ ⟨(by show (16 * d + 2) + 1 ≤ 16 * d + 3; omega), (by show 8 + (3 + 11) + (400 * d + 46) ≤ 400 * d + 68; omega)⟩, htx _ kw_4_192⟩ ⟨xPre_blind, (fun U hU hW => ⟨rfl, xPre_of hZ hS hFc hPc hDc hK U hU hW⟩)⟩ rfl rfl hl.1 rfl (lv_room (Nat.le_of_ble_eq_true rfl)) dH_joined_78 ⟨Nat.le_of_ble_eq_true rfl, Nat.le_of_ble_eq_true rfl⟩) hS (fun q _ h => hFc q h) hFc (fun u9 t H1 locs ht hvm hr9 hB hz1 hk1 hS => ?_)
            obtain ⟨hP1, hK1, hD1⟩ := hB
            rw [ht] at hP1
            obtain ⟨hP, hD⟩ := xjoin (W := [(a2, .inr (2, [.ref a3, .int v4, .int v5])), (a3, .inl (cT 2, 4096, .inr (.inl f3))), (a6, .inr (2, [.ref a7, .int w4, .int w5])), (a7, .inl (cT 2, 4096, .inr (.inl w3))), (a0, .inr (2, [.ref a1, .int v1, .int v2])), (a1, .inl (cT 2, 4096, .inr (.inl f0))), (a4, .inr (1, [.ref a5, .int o10.2.1, .int o10.2.2])), (a5, .inl (cT 0, 4096, .inl o10.1))]) hP hD [6, 7, 2, 3] [0, 1, 4, 5] 4 rfl rfl (by decide) (by decide) hk1 hFc hP1 hD1
            generalize H1 = H at hP hS ⊢
            refine lv_aload_n hx hb dH_joined_81 rfl (lv_at hl 2 rfl) ?_
            refine lv_iload hx hb dH_joined_82 (lv_at hl 1 rfl) ?_
            obtain ⟨o12, hq13, hf⟩ := xbind hf
            obtain ⟨hPc, hDc, hFc⟩ := xcut (wc := [(a0, .inr (2, [.ref a1, .int v1, .int v2])), (a1, .inl (cT 2, 4096, .inr (.inl f0)))]) hP hD hS hA [4, 5] rfl rfl (by decide)
            refine va_calli (va_runV (C := "ValueBench$Row") (As := [.int y4]) (rest := []) ⟨hx, hb, hml, hown, htx⟩ (gR_after l hl9 D cT aK aV H.size n a0 a1 y4 f0 v1 v2 o12 hq13) ⟨callB_of 1 htx (xw_goodC kw_2_196) rfl rfl rfl (htx _ kw_1_4) (htx _ kw_4_181) ⟨by decide, by decide, by decide +kernel⟩ ⟨Nat.le_of_ble_eq_true rfl, Nat.le_of_ble_eq_true rfl⟩, (htx _ kw_2_194), (htx _ kw_2_195)⟩ ⟨xPre_blind, va_recv hK hP (ci := 2) rfl (q0 := 4) rfl, (fun U hU hW => ⟨rfl, xPre_of hZ hS hFc hPc hDc hK U hU hW⟩)⟩ rfl rfl hl.1 rfl (lv_room (Nat.le_of_ble_eq_true rfl)) dH_joined_84 ⟨Nat.le_of_ble_eq_true rfl, Nat.le_of_ble_eq_true rfl⟩) hS (fun q _ h => hFc q h) hFc (fun r14 u9 t H1 locs ht hvm hr9 hB hz1 hk1 hS => ?_)
            obtain ⟨hP1, hK1, hD1⟩ := hB
            rw [ht] at hP1
            obtain ⟨hP, hD⟩ := xjoin (W := [(a2, .inr (2, [.ref a3, .int v4, .int v5])), (a3, .inl (cT 2, 4096, .inr (.inl f3))), (a6, .inr (2, [.ref a7, .int w4, .int w5])), (a7, .inl (cT 2, 4096, .inr (.inl w3))), (a4, .inr (1, [.ref a5, .int o10.2.1, .int o10.2.2])), (a5, .inl (cT 0, 4096, .inl o10.1)), (a0, .inr (2, [.ref a1, .int v1, .int v2])), (a1, .inl (cT 2, 4096, .inr (.inl f0)))]) hP hD [4, 5] [0, 1, 2, 3, 6, 7] 6 rfl rfl (by decide) (by decide) hk1 hFc hP1 hD1
            generalize H1 = H at hP hS ⊢
            rw [hr9]
            refine W.eq (g2 := F0 m 87 ls [.int o12]) rfl ?_
            refine lv_istore (lv' := [(4, .int o12), (5, .int y5), (0, .ref a0), (1, .ref a2), (2, .ref a4), (3, .ref a6)]) hx hb dH_joined_87 hl (by decide) rfl (fun ls hl => ?_)
            refine lv_iinc (v := (y5 + 1)) (lv' := [(5, .int (y5 + 1)), (4, .int o12), (0, .ref a0), (1, .ref a2), (2, .ref a4), (3, .ref a6)]) hx hb dH_joined_89 hl (k := 1) rfl rfl (by decide) rfl (fun ls hl => ?_)
            refine lv_goto (tgt := 30) hx hb dH_joined_92 (by decide) ?_
            obtain ⟨hP9, hD9⟩ := xsub (wc := [(a0, .inr (2, [.ref a1, .int v1, .int v2])), (a1, .inl (cT 2, 4096, .inr (.inl f0))), (a2, .inr (2, [.ref a3, .int v4, .int v5])), (a3, .inl (cT 2, 4096, .inr (.inl f3))), (a4, .inr (1, [.ref a5, .int o10.2.1, .int o10.2.2])), (a5, .inl (cT 0, 4096, .inl o10.1)), (a6, .inr (2, [.ref a7, .int w4, .int w5])), (a7, .inl (cT 2, 4096, .inr (.inl w3)))]) hP hD [6, 7, 0, 1, 4, 5, 2, 3] rfl rfl (by decide)
            exact ih (1, (y5 + 1), o12, o10.1, o10.2.1, o10.2.2, w3, w4, w5) _ _ ls (⟨rfl, hf, hP9, hD9, hS, lv_sub hl [0, 1, 2, 3, 4, 5] rfl⟩)
          · rw [if_neg hc] at hf
            refine lv_aload_n hx hb dH_joined_68 rfl (lv_at hl 4 rfl) ?_
            refine lv_aload_n hx hb dH_joined_69 rfl (lv_at hl 3 rfl) ?_
            refine lv_iconst (v := 0) hx hb dH_joined_70 (by decide) ?_
            obtain ⟨o10, hq11, hf⟩ := xbind hf
            obtain ⟨hPc, hDc, hFc⟩ := xcut (wc := [(a4, .inr (1, [.ref a5, .int w1, .int w2])), (a5, .inl (cT 0, 4096, .inl w0)), (a2, .inr (2, [.ref a3, .int v4, .int v5])), (a3, .inl (cT 2, 4096, .inr (.inl f3)))]) hP hD hS hA [2, 3, 0, 1] rfl rfl (by decide)
            refine va_callv (va_runV (C := "ValueBench$Text") (As := [.ref a2, .int 0]) (rest := []) ⟨hx, hb, hml, hown, htx⟩ (gT_addString l hl9 D cT aK aV H.size n a4 a5 a2 a3 (0 : Int32) w0 w1 w2 f3 v4 v5 o10 hq11) ⟨callB_of 2 htx (xw_goodC kw_4_99) rfl rfl rfl (htx _ kw_1_2) (htx _ kw_4_190) ⟨by decide, by decide, by decide +kernel⟩ ⟨Nat.le_of_ble_eq_true rfl, Nat.le_of_ble_eq_true rfl⟩, (htx _ kw_4_97), (htx _ kw_4_98)⟩ ⟨xPre_blind, va_recv hK hP (ci := 1) rfl (q0 := 2) rfl, (fun U hU hW => ⟨rfl, xPre_of hZ hS hFc hPc hDc hK U hU hW⟩)⟩ rfl rfl hl.1 rfl (lv_room (Nat.le_of_ble_eq_true rfl)) dH_joined_71 ⟨Nat.le_of_ble_eq_true rfl, Nat.le_of_ble_eq_true rfl⟩) hS (fun q _ h => hFc q h) hFc (fun u9 t H1 locs ht hvm hr9 hB hz1 hk1 hS => ?_)
            obtain ⟨hP1, hK1, hD1⟩ := hB
            rw [ht] at hP1
            obtain ⟨hP, hD⟩ := xjoin (W := [(a6, .inr (2, [.ref a7, .int w4, .int w5])), (a7, .inl (cT 2, 4096, .inr (.inl w3))), (a0, .inr (2, [.ref a1, .int v1, .int v2])), (a1, .inl (cT 2, 4096, .inr (.inl f0))), (a4, .inr (1, [.ref a5, .int o10.2.1, .int o10.2.2])), (a5, .inl (cT 0, 4096, .inl o10.1)), (a2, .inr (2, [.ref a3, .int v4, .int v5])), (a3, .inl (cT 2, 4096, .inr (.inl f3)))]) hP hD [2, 3, 0, 1] [4, 5, 6, 7] 4 rfl rfl (by decide) (by decide) hk1 hFc hP1 hD1
            generalize H1 = H at hP hS ⊢
            refine lv_aload_n hx hb dH_joined_74 rfl (lv_at hl 2 rfl) ?_
            refine lv_iload hx hb dH_joined_75 (lv_at hl 1 rfl) ?_
            refine lv_aload_n hx hb dH_joined_77 rfl (lv_at hl 4 rfl) ?_
            obtain ⟨o12, hq13, hf⟩ := xbind hf
            obtain ⟨hPc, hDc, hFc⟩ := xcut (wc := [(a0, .inr (2, [.ref a1, .int v1, .int v2])), (a1, .inl (cT 2, 4096, .inr (.inl f0))), (a4, .inr (1, [.ref a5, .int o10.2.1, .int o10.2.2])), (a5, .inl (cT 0, 4096, .inl o10.1))]) hP hD hS hA [2, 3, 4, 5] rfl rfl (by decide)
            refine va_callv (va_runS (As := [.ref a0, .int y4, .ref a4]) (rest := []) ⟨hx, hb, hml, hown, htx⟩ (gH_addShown l hl9 D cT aK aV H.size d n a0 a1 a4 a5 y4 f0 v1 v2 o10.1 o10.2.1 o10.2.2 o12 hq13) ⟨callB_of 3 htx (xw_goodC kw_4_193) rfl rfl rfl (htx _ kw_1_27) (htx _ kw_4_191) ⟨by decide, by decide, by decide +kernel⟩ ⟨(by show (16 * d + 2) + 1 ≤ 16 * d + 3; omega), (by show 8 + (3 + 11) + (400 * d + 46) ≤ 400 * d + 68; omega)⟩, htx _ kw_4_192⟩ ⟨xPre_blind, (fun U hU hW => ⟨rfl, xPre_of hZ hS hFc hPc hDc hK U hU hW⟩)⟩ rfl rfl hl.1 rfl (lv_room (Nat.le_of_ble_eq_true rfl)) dH_joined_78 ⟨Nat.le_of_ble_eq_true rfl, Nat.le_of_ble_eq_true rfl⟩) hS (fun q _ h => hFc q h) hFc (fun u9 t H1 locs ht hvm hr9 hB hz1 hk1 hS => ?_)
            obtain ⟨hP1, hK1, hD1⟩ := hB
            rw [ht] at hP1
            obtain ⟨hP, hD⟩ := xjoin (W := [(a6, .inr (2, [.ref a7, .int w4, .int w5])), (a7, .inl (cT 2, 4096, .inr (.inl w3))), (a2, .inr (2, [.ref a3, .int v4, .int v5])), (a3, .inl (cT 2, 4096, .inr (.inl f3))), (a0, .inr (2, [.ref a1, .int v1, .int v2])), (a1, .inl (cT 2, 4096, .inr (.inl f0))), (a4, .inr (1, [.ref a5, .int o12.2.1, .int o12.2.2])), (a5, .inl (cT 0, 4096, .inl o12.1))]) hP hD [2, 3, 4, 5] [0, 1, 6, 7] 4 rfl rfl (by decide) (by decide) hk1 hFc hP1 hD1
            generalize H1 = H at hP hS ⊢
            refine lv_aload_n hx hb dH_joined_81 rfl (lv_at hl 2 rfl) ?_
            refine lv_iload hx hb dH_joined_82 (lv_at hl 1 rfl) ?_
            obtain ⟨o14, hq15, hf⟩ := xbind hf
            obtain ⟨hPc, hDc, hFc⟩ := xcut (wc := [(a0, .inr (2, [.ref a1, .int v1, .int v2])), (a1, .inl (cT 2, 4096, .inr (.inl f0)))]) hP hD hS hA [4, 5] rfl rfl (by decide)
            refine va_calli (va_runV (C := "ValueBench$Row") (As := [.int y4]) (rest := []) ⟨hx, hb, hml, hown, htx⟩ (gR_after l hl9 D cT aK aV H.size n a0 a1 y4 f0 v1 v2 o14 hq15) ⟨callB_of 1 htx (xw_goodC kw_2_196) rfl rfl rfl (htx _ kw_1_4) (htx _ kw_4_181) ⟨by decide, by decide, by decide +kernel⟩ ⟨Nat.le_of_ble_eq_true rfl, Nat.le_of_ble_eq_true rfl⟩, (htx _ kw_2_194), (htx _ kw_2_195)⟩ ⟨xPre_blind, va_recv hK hP (ci := 2) rfl (q0 := 4) rfl, (fun U hU hW => ⟨rfl, xPre_of hZ hS hFc hPc hDc hK U hU hW⟩)⟩ rfl rfl hl.1 rfl (lv_room (Nat.le_of_ble_eq_true rfl)) dH_joined_84 ⟨Nat.le_of_ble_eq_true rfl, Nat.le_of_ble_eq_true rfl⟩) hS (fun q _ h => hFc q h) hFc (fun r16 u9 t H1 locs ht hvm hr9 hB hz1 hk1 hS => ?_)
            obtain ⟨hP1, hK1, hD1⟩ := hB
            rw [ht] at hP1
            obtain ⟨hP, hD⟩ := xjoin (W := [(a6, .inr (2, [.ref a7, .int w4, .int w5])), (a7, .inl (cT 2, 4096, .inr (.inl w3))), (a2, .inr (2, [.ref a3, .int v4, .int v5])), (a3, .inl (cT 2, 4096, .inr (.inl f3))), (a4, .inr (1, [.ref a5, .int o12.2.1, .int o12.2.2])), (a5, .inl (cT 0, 4096, .inl o12.1)), (a0, .inr (2, [.ref a1, .int v1, .int v2])), (a1, .inl (cT 2, 4096, .inr (.inl f0)))]) hP hD [4, 5] [0, 1, 2, 3, 6, 7] 6 rfl rfl (by decide) (by decide) hk1 hFc hP1 hD1
            generalize H1 = H at hP hS ⊢
            rw [hr9]
            refine W.eq (g2 := F0 m 87 ls [.int o14]) rfl ?_
            refine lv_istore (lv' := [(4, .int o14), (5, .int y5), (0, .ref a0), (1, .ref a2), (2, .ref a4), (3, .ref a6)]) hx hb dH_joined_87 hl (by decide) rfl (fun ls hl => ?_)
            refine lv_iinc (v := (y5 + 1)) (lv' := [(5, .int (y5 + 1)), (4, .int o14), (0, .ref a0), (1, .ref a2), (2, .ref a4), (3, .ref a6)]) hx hb dH_joined_89 hl (k := 1) rfl rfl (by decide) rfl (fun ls hl => ?_)
            refine lv_goto (tgt := 30) hx hb dH_joined_92 (by decide) ?_
            obtain ⟨hP9, hD9⟩ := xsub (wc := [(a0, .inr (2, [.ref a1, .int v1, .int v2])), (a1, .inl (cT 2, 4096, .inr (.inl f0))), (a2, .inr (2, [.ref a3, .int v4, .int v5])), (a3, .inl (cT 2, 4096, .inr (.inl f3))), (a4, .inr (1, [.ref a5, .int o12.2.1, .int o12.2.2])), (a5, .inl (cT 0, 4096, .inl o12.1)), (a6, .inr (2, [.ref a7, .int w4, .int w5])), (a7, .inl (cT 2, 4096, .inr (.inl w3)))]) hP hD [6, 7, 2, 3, 4, 5, 0, 1] rfl rfl (by decide)
            exact ih (1, (y5 + 1), o14, o12.1, o12.2.1, o12.2.2, w3, w4, w5) _ _ ls (⟨rfl, hf, hP9, hD9, hS, lv_sub hl [0, 1, 2, 3, 4, 5] rfl⟩)
        · rw [if_neg hc] at hf
          refine lv_iconst (v := 1) hx hb dH_joined_61 (by decide) ?_
          obtain rfl := Option.some.inj hf
          obtain ⟨hP9, hD9⟩ := xsub (wc := [(a0, .inr (2, [.ref a1, .int v1, .int v2])), (a1, .inl (cT 2, 4096, .inr (.inl f0))), (a2, .inr (2, [.ref a3, .int v4, .int v5])), (a3, .inl (cT 2, 4096, .inr (.inl f3))), (a4, .inr (1, [.ref a5, .int w1, .int w2])), (a5, .inl (cT 0, 4096, .inl w0)), (a6, .inr (2, [.ref a7, .int w4, .int w5])), (a7, .inl (cT 2, 4096, .inr (.inl w3)))]) hP hD [6, 7, 0, 1, 2, 3, 4, 5] rfl rfl (by decide)
          exact W.iret (v := (1 : Int32)) hx hb hr (fun t ht hW => ⟨⟨(1 : Int32), (), rfl, rfl, by rw [ht]; exact hP9, va_K.moved hW.alike hK, hD9⟩, hS.F ht⟩) hS.2.2 dH_joined_62
  refine lv_aload_n hx hb dH_joined_0 rfl (lv_at hl 0 rfl) ?_
  refine lv_iconst (v := 0) hx hb dH_joined_1 (by decide) ?_
  refine lv_iconst (v := 5) hx hb dH_joined_2 (by decide) ?_
  obtain ⟨o1, hq2, hf⟩ := xbind hf
  obtain ⟨hPc, hDc, hFc⟩ := xcut (wc := [(a0, .inr (2, [.ref a1, .int v1, .int v2])), (a1, .inl (cT 2, 4096, .inr (.inl f0)))]) hP hD hS hA [0, 1] rfl rfl (by decide)
  refine va_calli (va_runV (C := "ValueBench$Row") (As := [.int 0, .int 5]) (rest := []) ⟨hx, hb, hml, hown, htx⟩ (gR_is l hl9 D cT aK aV s.heap.size n a0 a1 (0 : Int32) (5 : Int32) f0 v1 v2 o1 hq2) ⟨callB_of 2 htx (xw_goodC kw_3_75) rfl rfl rfl (htx _ kw_1_4) (htx _ kw_4_150) ⟨by decide, by decide, by decide +kernel⟩ ⟨Nat.le_of_ble_eq_true rfl, Nat.le_of_ble_eq_true rfl⟩, (htx _ kw_3_73), (htx _ kw_3_74)⟩ ⟨xPre_blind, va_recv hK hP (ci := 2) rfl (q0 := 0) rfl, (fun U hU hW => ⟨rfl, xPre_of hZ hS hFc hPc hDc hK U hU hW⟩)⟩ rfl rfl hl.1 rfl (lv_room (Nat.le_of_ble_eq_true rfl)) dH_joined_3 ⟨Nat.le_of_ble_eq_true rfl, Nat.le_of_ble_eq_true rfl⟩) hS (fun q _ h => hFc q h) hFc (fun r3 u9 t H1 locs ht hvm hr9 hB hz1 hk1 hS => ?_)
  obtain ⟨hP1, hK1, hD1⟩ := hB
  rw [ht] at hP1
  obtain ⟨hP, hD⟩ := xjoin (W := [(a2, .inr (2, [.ref a3, .int v4, .int v5])), (a3, .inl (cT 2, 4096, .inr (.inl f3))), (a4, .inr (1, [.ref a5, .int v7, .int v8])), (a5, .inl (cT 0, 4096, .inl f6)), (a6, .inr (2, [.ref a7, .int v10, .int v11])), (a7, .inl (cT 2, 4096, .inr (.inl f9))), (a0, .inr (2, [.ref a1, .int v1, .int v2])), (a1, .inl (cT 2, 4096, .inr (.inl f0)))]) hP hD [0, 1] [2, 3, 4, 5, 6, 7] 6 rfl rfl (by decide) (by decide) hk1 hFc hP1 hD1
  generalize H1 = H at hP hS ⊢
  rw [hr9]
  refine W.eq (g2 := F0 m 6 ls [.int o1]) rfl ?_
  refine lv_if_eq (tgt := 18) hx hb dH_joined_6 (by decide) (fun hc => ?_) (fun hc => ?_)
  · rw [if_pos hc] at hf
    refine lv_iconst (v := 1) hx hb dH_joined_18 (by decide) ?_
    obtain rfl := Option.some.inj hf
    obtain ⟨hP9, hD9⟩ := xsub (wc := [(a0, .inr (2, [.ref a1, .int v1, .int v2])), (a1, .inl (cT 2, 4096, .inr (.inl f0))), (a2, .inr (2, [.ref a3, .int v4, .int v5])), (a3, .inl (cT 2, 4096, .inr (.inl f3))), (a4, .inr (1, [.ref a5, .int v7, .int v8])), (a5, .inl (cT 0, 4096, .inl f6)), (a6, .inr (2, [.ref a7, .int v10, .int v11])), (a7, .inl (cT 2, 4096, .inr (.inl f9)))]) hP hD [6, 7, 0, 1, 2, 3, 4, 5] rfl rfl (by decide)
    exact W.iret (v := (1 : Int32)) hx hb hr (fun t ht hW => ⟨⟨(1 : Int32), (), rfl, rfl, by rw [ht]; exact hP9, va_K.moved hW.alike hK, hD9⟩, hS.F ht⟩) hS.2.2 dH_joined_19
  · rw [if_neg hc] at hf
    refine lv_aload_n hx hb dH_joined_9 rfl (lv_at hl 1 rfl) ?_
    refine lv_iconst (v := 0) hx hb dH_joined_10 (by decide) ?_
    refine lv_iconst (v := 4) hx hb dH_joined_11 (by decide) ?_
    obtain ⟨o4, hq5, hf⟩ := xbind hf
    obtain ⟨hPc, hDc, hFc⟩ := xcut (wc := [(a2, .inr (2, [.ref a3, .int v4, .int v5])), (a3, .inl (cT 2, 4096, .inr (.inl f3)))]) hP hD hS hA [0, 1] rfl rfl (by decide)
    refine va_calli (va_runV (C := "ValueBench$Row") (As := [.int 0, .int 4]) (rest := []) ⟨hx, hb, hml, hown, htx⟩ (gR_is l hl9 D cT aK aV H.size n a2 a3 (0 : Int32) (4 : Int32) f3 v4 v5 o4 hq5) ⟨callB_of 2 htx (xw_goodC kw_3_75) rfl rfl rfl (htx _ kw_1_4) (htx _ kw_4_150) ⟨by decide, by decide, by decide +kernel⟩ ⟨Nat.le_of_ble_eq_true rfl, Nat.le_of_ble_eq_true rfl⟩, (htx _ kw_3_73), (htx _ kw_3_74)⟩ ⟨xPre_blind, va_recv hK hP (ci := 2) rfl (q0 := 0) rfl, (fun U hU hW => ⟨rfl, xPre_of hZ hS hFc hPc hDc hK U hU hW⟩)⟩ rfl rfl hl.1 rfl (lv_room (Nat.le_of_ble_eq_true rfl)) dH_joined_12 ⟨Nat.le_of_ble_eq_true rfl, Nat.le_of_ble_eq_true rfl⟩) hS (fun q _ h => hFc q h) hFc (fun r6 u9 t H1 locs ht hvm hr9 hB hz1 hk1 hS => ?_)
    obtain ⟨hP1, hK1, hD1⟩ := hB
    rw [ht] at hP1
    obtain ⟨hP, hD⟩ := xjoin (W := [(a4, .inr (1, [.ref a5, .int v7, .int v8])), (a5, .inl (cT 0, 4096, .inl f6)), (a6, .inr (2, [.ref a7, .int v10, .int v11])), (a7, .inl (cT 2, 4096, .inr (.inl f9))), (a0, .inr (2, [.ref a1, .int v1, .int v2])), (a1, .inl (cT 2, 4096, .inr (.inl f0))), (a2, .inr (2, [.ref a3, .int v4, .int v5])), (a3, .inl (cT 2, 4096, .inr (.inl f3)))]) hP hD [0, 1] [2, 3, 4, 5, 6, 7] 6 rfl rfl (by decide) (by decide) hk1 hFc hP1 hD1
    generalize H1 = H at hP hS ⊢
    rw [hr9]
    refine W.eq (g2 := F0 m 15 ls [.int o4]) rfl ?_
    refine lv_if_ne (tgt := 20) hx hb dH_joined_15 (by decide) (fun hc => ?_) (fun hc => ?_)
    · rw [if_neg hc] at hf
      refine lv_aload_n hx hb dH_joined_20 rfl (lv_at hl 2 rfl) ?_
      obtain ⟨o7, hq8, hf⟩ := xbind hf
      obtain ⟨hPc, hDc, hFc⟩ := xcut (wc := [(a4, .inr (1, [.ref a5, .int v7, .int v8])), (a5, .inl (cT 0, 4096, .inl f6))]) hP hD hS hA [0, 1] rfl rfl (by decide)
      refine va_callv (va_runV (C := "ValueBench$Text") (As := []) (rest := []) ⟨hx, hb, hml, hown, htx⟩ (gT_clear l hl9 D cT aK aV H.size n a4 a5 f6 v7 v8 o7 hq8) ⟨callB_of 0 htx (xw_goodC kw_2_237) rfl rfl rfl (htx _ kw_1_2) (htx _ kw_4_189) ⟨by decide, by decide, by decide +kernel⟩ ⟨Nat.le_of_ble_eq_true rfl, Nat.le_of_ble_eq_true rfl⟩, (htx _ kw_2_235), (htx _ kw_2_236)⟩ ⟨xPre_blind, va_recv hK hP (ci := 1) rfl (q0 := 0) rfl, (fun U hU hW => ⟨rfl, xPre_of hZ hS hFc hPc hDc hK U hU hW⟩)⟩ rfl rfl hl.1 rfl (lv_room (Nat.le_of_ble_eq_true rfl)) dH_joined_21 ⟨Nat.le_of_ble_eq_true rfl, Nat.le_of_ble_eq_true rfl⟩) hS (fun q _ h => hFc q h) hFc (fun u9 t H1 locs ht hvm hr9 hB hz1 hk1 hS => ?_)
      obtain ⟨hP1, hK1, hD1⟩ := hB
      rw [ht] at hP1
      obtain ⟨hP, hD⟩ := xjoin (W := [(a6, .inr (2, [.ref a7, .int v10, .int v11])), (a7, .inl (cT 2, 4096, .inr (.inl f9))), (a0, .inr (2, [.ref a1, .int v1, .int v2])), (a1, .inl (cT 2, 4096, .inr (.inl f0))), (a2, .inr (2, [.ref a3, .int v4, .int v5])), (a3, .inl (cT 2, 4096, .inr (.inl f3))), (a4, .inr (1, [.ref a5, .int o7.1, .int o7.2])), (a5, .inl (cT 0, 4096, .inl f6))]) hP hD [0, 1] [2, 3, 4, 5, 6, 7] 6 rfl rfl (by decide) (by decide) hk1 hFc hP1 hD1
      generalize H1 = H at hP hS ⊢
      refine lv_iconst (v := 1) hx hb dH_joined_24 (by decide) ?_
      refine lv_istore (lv' := [(4, .int 1), (0, .ref a0), (1, .ref a2), (2, .ref a4), (3, .ref a6)]) hx hb dH_joined_25 hl (by decide) rfl (fun ls hl => ?_)
      refine lv_iconst (v := 0) hx hb dH_joined_27 (by decide) ?_
      refine lv_istore (lv' := [(5, .int 0), (4, .int 1), (0, .ref a0), (1, .ref a2), (2, .ref a4), (3, .ref a6)]) hx hb dH_joined_28 hl (by decide) rfl (fun ls hl => ?_)
      obtain ⟨hP9, hD9⟩ := xsub (wc := [(a0, .inr (2, [.ref a1, .int v1, .int v2])), (a1, .inl (cT 2, 4096, .inr (.inl f0))), (a2, .inr (2, [.ref a3, .int v4, .int v5])), (a3, .inl (cT 2, 4096, .inr (.inl f3))), (a4, .inr (1, [.ref a5, .int o7.1, .int o7.2])), (a5, .inl (cT 0, 4096, .inl f6)), (a6, .inr (2, [.ref a7, .int v10, .int v11])), (a7, .inl (cT 2, 4096, .inr (.inl f9)))]) hP hD [2, 3, 4, 5, 6, 7, 0, 1] rfl rfl (by decide)
      exact key n (1, 0, 1, f6, o7.1, o7.2, f9, v10, v11) _ _ ls (⟨rfl, hf, hP9, hD9, hS, lv_sub hl [0, 1, 2, 3, 4, 5] rfl⟩)
    · rw [if_pos hc] at hf
      refine lv_iconst (v := 1) hx hb dH_joined_18 (by decide) ?_
      obtain rfl := Option.some.inj hf
      obtain ⟨hP9, hD9⟩ := xsub (wc := [(a0, .inr (2, [.ref a1, .int v1, .int v2])), (a1, .inl (cT 2, 4096, .inr (.inl f0))), (a2, .inr (2, [.ref a3, .int v4, .int v5])), (a3, .inl (cT 2, 4096, .inr (.inl f3))), (a4, .inr (1, [.ref a5, .int v7, .int v8])), (a5, .inl (cT 0, 4096, .inl f6)), (a6, .inr (2, [.ref a7, .int v10, .int v11])), (a7, .inl (cT 2, 4096, .inr (.inl f9)))]) hP hD [4, 5, 6, 7, 0, 1, 2, 3] rfl rfl (by decide)
      exact W.iret (v := (1 : Int32)) hx hb hr (fun t ht hW => ⟨⟨(1 : Int32), (), rfl, rfl, by rw [ht]; exact hP9, va_K.moved hW.alike hK, hD9⟩, hS.F ht⟩) hS.2.2 dH_joined_19
set_option maxHeartbeats 400000000 in
set_option maxRecDepth 100000 in
theorem gH_areStrings (l : Launch) (hl9 : l.stackTraces = false) (D : va_G) (cT : Nat → ClassId) (aK aV : Nat → Nat) (sz n : Nat) (a0 : Nat) (a1 : Nat) (a2 : Nat) (a3 : Nat) (f0 : Nat → Int64) (v1 : Int32) (v2 : Int32) (f3 : Nat → Int64) (v4 : Int32) (v5 : Int32) (out : Int32) (hf : fH_areStrings n f0 v1 v2 f3 v4 v5 = some out) : xMet l yH_areStrings wyH_areStrings 2 0 0 43 D cT aK aV sz [.ref a0, .ref a2] [(a0, .inr (2, [.ref a1, .int v1, .int v2])), (a1, .inl (cT 2, 4096, .inr (.inl f0))), (a2, .inr (2, [.ref a3, .int v4, .int v5])), (a3, .inl (cT 2, 4096, .inr (.inl f3)))] (fun A => va_Qi (fun (r : Int32) (_ : Unit) => r = out) (fun _ t => xB D xcl cT A [(a0, .inr (2, [.ref a1, .int v1, .int v2])), (a1, .inl (cT 2, 4096, .inr (.inl f0))), (a2, .inr (2, [.ref a3, .int v4, .int v5])), (a3, .inl (cT 2, 4096, .inr (.inl f3)))] t) A) := by
  refine Met.ofW (cc := prog_5_method_6_code) (maxL := 2) (ret := (some .boolean)) (by decide) rfl ?_
  intro p e s m args below meth c s₁ B hml hv
  obtain ⟨rfl, hsz, hZ, hP, hK, hD0⟩ := hv
  have hx := B.exec
  have hb := B.bytes
  have hr := B.returns
  have hts := atoms_spec (ws := wyH_areStrings) B.pre
  have htx := fun w h => hts w (List.mem_cons_of_mem _ h)
  have hown : s.vm.findClass "ValueBench$Pairs" = some m.cls := findClass_of_methodNamed B.named
  have hlocks := B.notSynchronized
  subst hsz
  have hD := hD0.self (sz := s.heap.size)
  generalize hAe : va_A [(a0, .inr (2, [.ref a1, .int v1, .int v2])), (a1, .inl (cT 2, 4096, .inr (.inl f0))), (a2, .inr (2, [.ref a3, .int v4, .int v5])), (a3, .inl (cT 2, 4096, .inr (.inl f3)))] s.heap.size = A at hD hZ ⊢
  have hA : ∀ q : Nat, s.heap.size ≤ q → A q := fun q h => by rw [← hAe]; exact Or.inr h
  have hS : va_S A s.heap s.heap [] := va_S.rf
  have hP : va_P D xcl [(a0, .inr (2, [.ref a1, .int v1, .int v2])), (a1, .inl (cT 2, 4096, .inr (.inl f0))), (a2, .inr (2, [.ref a3, .int v4, .int v5])), (a3, .inl (cT 2, 4096, .inr (.inl f3)))] s.heap := hP
  have hl := lv_entry ([.ref a0, .ref a2]) (n := 2) (Nat.le_of_ble_eq_true rfl)
  rw [lg_entry_eq]
  generalize (lg_sl ([.ref a0, .ref a2]) ++ List.replicate (2 - (lg_sl ([.ref a0, .ref a2])).length) Slot.unset).toArray = ls at hl ⊢
  have hl : lv_has ls 2 [(0, .ref a0), (1, .ref a2)] := hl
  unfold fH_areStrings at hf
  refine lv_aload_n hx hb dH_areStrings_0 rfl (lv_at hl 0 rfl) ?_
  refine lv_iconst (v := 0) hx hb dH_areStrings_1 (by decide) ?_
  refine lv_iconst (v := 4) hx hb dH_areStrings_2 (by decide) ?_
  obtain ⟨o1, hq2, hf⟩ := xbind hf
  obtain ⟨hPc, hDc, hFc⟩ := xcut (wc := [(a0, .inr (2, [.ref a1, .int v1, .int v2])), (a1, .inl (cT 2, 4096, .inr (.inl f0)))]) hP hD hS hA [0, 1] rfl rfl (by decide)
  refine va_calli (va_runV (C := "ValueBench$Row") (As := [.int 0, .int 4]) (rest := []) ⟨hx, hb, hml, hown, htx⟩ (gR_is l hl9 D cT aK aV s.heap.size n a0 a1 (0 : Int32) (4 : Int32) f0 v1 v2 o1 hq2) ⟨callB_of 2 htx (xw_goodC kw_3_75) rfl rfl rfl (htx _ kw_1_4) (htx _ kw_4_150) ⟨by decide, by decide, by decide +kernel⟩ ⟨Nat.le_of_ble_eq_true rfl, Nat.le_of_ble_eq_true rfl⟩, (htx _ kw_3_73), (htx _ kw_3_74)⟩ ⟨xPre_blind, va_recv hK hP (ci := 2) rfl (q0 := 0) rfl, (fun U hU hW => ⟨rfl, xPre_of hZ hS hFc hPc hDc hK U hU hW⟩)⟩ rfl rfl hl.1 rfl (lv_room (Nat.le_of_ble_eq_true rfl)) dH_areStrings_3 ⟨Nat.le_of_ble_eq_true rfl, Nat.le_of_ble_eq_true rfl⟩) hS (fun q _ h => hFc q h) hFc (fun r3 u9 t H1 locs ht hvm hr9 hB hz1 hk1 hS => ?_)
  obtain ⟨hP1, hK1, hD1⟩ := hB
  rw [ht] at hP1
  obtain ⟨hP, hD⟩ := xjoin (W := [(a2, .inr (2, [.ref a3, .int v4, .int v5])), (a3, .inl (cT 2, 4096, .inr (.inl f3))), (a0, .inr (2, [.ref a1, .int v1, .int v2])), (a1, .inl (cT 2, 4096, .inr (.inl f0)))]) hP hD [0, 1] [2, 3] 2 rfl rfl (by decide) (by decide) hk1 hFc hP1 hD1
  generalize H1 = H at hP hS ⊢
  rw [hr9]
  refine W.eq (g2 := F0 m 6 ls [.int o1]) rfl ?_
  refine lv_if_eq (tgt := 22) hx hb dH_areStrings_6 (by decide) (fun hc => ?_) (fun hc => ?_)
  · rw [if_pos hc] at hf
    refine lv_iconst (v := 0) hx hb dH_areStrings_22 (by decide) ?_
    obtain rfl := Option.some.inj hf
    obtain ⟨hP9, hD9⟩ := xsub (wc := [(a0, .inr (2, [.ref a1, .int v1, .int v2])), (a1, .inl (cT 2, 4096, .inr (.inl f0))), (a2, .inr (2, [.ref a3, .int v4, .int v5])), (a3, .inl (cT 2, 4096, .inr (.inl f3)))]) hP hD [2, 3, 0, 1] rfl rfl (by decide)
    exact W.zret (v := (0 : Int32)) hx hb hr rfl (fun t ht hW => ⟨⟨(0 : Int32), (), rfl, rfl, by rw [ht]; exact hP9, va_K.moved hW.alike hK, hD9⟩, hS.F ht⟩) hS.2.2 dH_areStrings_23
  · rw [if_neg hc] at hf
    refine lv_aload_n hx hb dH_areStrings_9 rfl (lv_at hl 1 rfl) ?_
    refine lv_iconst (v := 0) hx hb dH_areStrings_10 (by decide) ?_
    refine lv_iconst (v := 4) hx hb dH_areStrings_11 (by decide) ?_
    obtain ⟨o4, hq5, hf⟩ := xbind hf
    obtain ⟨hPc, hDc, hFc⟩ := xcut (wc := [(a2, .inr (2, [.ref a3, .int v4, .int v5])), (a3, .inl (cT 2, 4096, .inr (.inl f3)))]) hP hD hS hA [0, 1] rfl rfl (by decide)
    refine va_calli (va_runV (C := "ValueBench$Row") (As := [.int 0, .int 4]) (rest := []) ⟨hx, hb, hml, hown, htx⟩ (gR_is l hl9 D cT aK aV H.size n a2 a3 (0 : Int32) (4 : Int32) f3 v4 v5 o4 hq5) ⟨callB_of 2 htx (xw_goodC kw_3_75) rfl rfl rfl (htx _ kw_1_4) (htx _ kw_4_150) ⟨by decide, by decide, by decide +kernel⟩ ⟨Nat.le_of_ble_eq_true rfl, Nat.le_of_ble_eq_true rfl⟩, (htx _ kw_3_73), (htx _ kw_3_74)⟩ ⟨xPre_blind, va_recv hK hP (ci := 2) rfl (q0 := 0) rfl, (fun U hU hW => ⟨rfl, xPre_of hZ hS hFc hPc hDc hK U hU hW⟩)⟩ rfl rfl hl.1 rfl (lv_room (Nat.le_of_ble_eq_true rfl)) dH_areStrings_12 ⟨Nat.le_of_ble_eq_true rfl, Nat.le_of_ble_eq_true rfl⟩) hS (fun q _ h => hFc q h) hFc (fun r6 u9 t H1 locs ht hvm hr9 hB hz1 hk1 hS => ?_)
    obtain ⟨hP1, hK1, hD1⟩ := hB
    rw [ht] at hP1
    obtain ⟨hP, hD⟩ := xjoin (W := [(a0, .inr (2, [.ref a1, .int v1, .int v2])), (a1, .inl (cT 2, 4096, .inr (.inl f0))), (a2, .inr (2, [.ref a3, .int v4, .int v5])), (a3, .inl (cT 2, 4096, .inr (.inl f3)))]) hP hD [0, 1] [2, 3] 2 rfl rfl (by decide) (by decide) hk1 hFc hP1 hD1
    generalize H1 = H at hP hS ⊢
    rw [hr9]
    refine W.eq (g2 := F0 m 15 ls [.int o4]) rfl ?_
    refine lv_if_eq (tgt := 22) hx hb dH_areStrings_15 (by decide) (fun hc => ?_) (fun hc => ?_)
    · rw [if_pos hc] at hf
      refine lv_iconst (v := 0) hx hb dH_areStrings_22 (by decide) ?_
      obtain rfl := Option.some.inj hf
      obtain ⟨hP9, hD9⟩ := xsub (wc := [(a0, .inr (2, [.ref a1, .int v1, .int v2])), (a1, .inl (cT 2, 4096, .inr (.inl f0))), (a2, .inr (2, [.ref a3, .int v4, .int v5])), (a3, .inl (cT 2, 4096, .inr (.inl f3)))]) hP hD [0, 1, 2, 3] rfl rfl (by decide)
      exact W.zret (v := (0 : Int32)) hx hb hr rfl (fun t ht hW => ⟨⟨(0 : Int32), (), rfl, rfl, by rw [ht]; exact hP9, va_K.moved hW.alike hK, hD9⟩, hS.F ht⟩) hS.2.2 dH_areStrings_23
    · rw [if_neg hc] at hf
      refine lv_iconst (v := 1) hx hb dH_areStrings_18 (by decide) ?_
      refine lv_goto (tgt := 23) hx hb dH_areStrings_19 (by decide) ?_
      obtain rfl := Option.some.inj hf
      obtain ⟨hP9, hD9⟩ := xsub (wc := [(a0, .inr (2, [.ref a1, .int v1, .int v2])), (a1, .inl (cT 2, 4096, .inr (.inl f0))), (a2, .inr (2, [.ref a3, .int v4, .int v5])), (a3, .inl (cT 2, 4096, .inr (.inl f3)))]) hP hD [0, 1, 2, 3] rfl rfl (by decide)
      exact W.zret (v := (1 : Int32)) hx hb hr rfl (fun t ht hW => ⟨⟨(1 : Int32), (), rfl, rfl, by rw [ht]; exact hP9, va_K.moved hW.alike hK, hD9⟩, hS.F ht⟩) hS.2.2 dH_areStrings_23
set_option maxHeartbeats 400000000 in
set_option maxRecDepth 100000 in
theorem gH_copy (l : Launch) (hl9 : l.stackTraces = false) (D : va_G) (cT : Nat → ClassId) (aK aV : Nat → Nat) (sz n : Nat) (a0 : Nat) (a1 : Nat) (a2 : Nat) (a3 : Nat) (x1 : Int32) (f0 : Nat → Int64) (v1 : Int32) (v2 : Int32) (f3 : Nat → Int64) (v4 : Int32) (v5 : Int32) (out : Int32 × (Nat → Int64) × Int32 × Int32) (hf : fH_copy n x1 f0 v1 v2 f3 v4 v5 = some out) : xMet l yH_copy wyH_copy 3 0 0 105 D cT aK aV sz [.ref a0, .int x1, .ref a2] [(a0, .inr (2, [.ref a1, .int v1, .int v2])), (a1, .inl (cT 2, 4096, .inr (.inl f0))), (a2, .inr (2, [.ref a3, .int v4, .int v5])), (a3, .inl (cT 2, 4096, .inr (.inl f3)))] (fun A => va_Qi (fun (r : Int32) (_ : Unit) => r = out.1) (fun _ t => xB D xcl cT A [(a0, .inr (2, [.ref a1, .int v1, .int v2])), (a1, .inl (cT 2, 4096, .inr (.inl f0))), (a2, .inr (2, [.ref a3, .int out.2.2.1, .int out.2.2.2])), (a3, .inl (cT 2, 4096, .inr (.inl out.2.1)))] t) A) := by
  refine Met.ofW (cc := prog_5_method_5_code) (maxL := 3) (ret := (some .int)) (by decide) rfl ?_
  intro p e s m args below meth c s₁ B hml hv
  obtain ⟨rfl, hsz, hZ, hP, hK, hD0⟩ := hv
  have hx := B.exec
  have hb := B.bytes
  have hr := B.returns
  have hts := atoms_spec (ws := wyH_copy) B.pre
  have htx := fun w h => hts w (List.mem_cons_of_mem _ h)
  have hown : s.vm.findClass "ValueBench$Pairs" = some m.cls := findClass_of_methodNamed B.named
  have hlocks := B.notSynchronized
  subst hsz
  have hD := hD0.self (sz := s.heap.size)
  generalize hAe : va_A [(a0, .inr (2, [.ref a1, .int v1, .int v2])), (a1, .inl (cT 2, 4096, .inr (.inl f0))), (a2, .inr (2, [.ref a3, .int v4, .int v5])), (a3, .inl (cT 2, 4096, .inr (.inl f3)))] s.heap.size = A at hD hZ ⊢
  have hA : ∀ q : Nat, s.heap.size ≤ q → A q := fun q h => by rw [← hAe]; exact Or.inr h
  have hS : va_S A s.heap s.heap [] := va_S.rf
  have hP : va_P D xcl [(a0, .inr (2, [.ref a1, .int v1, .int v2])), (a1, .inl (cT 2, 4096, .inr (.inl f0))), (a2, .inr (2, [.ref a3, .int v4, .int v5])), (a3, .inl (cT 2, 4096, .inr (.inl f3)))] s.heap := hP
  have hl := lv_entry ([.ref a0, .int x1, .ref a2]) (n := 3) (Nat.le_of_ble_eq_true rfl)
  rw [lg_entry_eq]
  generalize (lg_sl ([.ref a0, .int x1, .ref a2]) ++ List.replicate (3 - (lg_sl ([.ref a0, .int x1, .ref a2])).length) Slot.unset).toArray = ls at hl ⊢
  have hl : lv_has ls 3 [(0, .ref a0), (1, .int x1), (2, .ref a2)] := hl
  unfold fH_copy at hf
  refine lv_aload_n hx hb dH_copy_0 rfl (lv_at hl 2 rfl) ?_
  refine lv_aload_n hx hb dH_copy_1 rfl (lv_at hl 0 rfl) ?_
  refine lv_iload_n hx hb dH_copy_2 rfl (lv_at hl 1 rfl) ?_
  obtain ⟨o1, hq2, hf⟩ := xbind hf
  obtain ⟨hPc, hDc, hFc⟩ := xcut (wc := [(a2, .inr (2, [.ref a3, .int v4, .int v5])), (a3, .inl (cT 2, 4096, .inr (.inl f3))), (a0, .inr (2, [.ref a1, .int v1, .int v2])), (a1, .inl (cT 2, 4096, .inr (.inl f0)))]) hP hD hS hA [2, 3, 0, 1] rfl rfl (by decide)
  refine va_callv (va_runV (C := "ValueBench$Row") (As := [.ref a0, .int x1]) (rest := []) ⟨hx, hb, hml, hown, htx⟩ (gR_putCopy l hl9 D cT aK aV s.heap.size n a2 a3 a0 a1 x1 f3 v4 v5 f0 v1 v2 o1 hq2) ⟨callB_of 2 htx (xw_goodC kw_3_126) rfl rfl rfl (htx _ kw_1_4) (htx _ kw_4_208) ⟨by decide, by decide, by decide +kernel⟩ ⟨Nat.le_of_ble_eq_true rfl, Nat.le_of_ble_eq_true rfl⟩, (htx _ kw_3_124), (htx _ kw_3_125)⟩ ⟨xPre_blind, va_recv hK hP (ci := 2) rfl (q0 := 2) rfl, (fun U hU hW => ⟨rfl, xPre_of hZ hS hFc hPc hDc hK U hU hW⟩)⟩ rfl rfl hl.1 rfl (lv_room (Nat.le_of_ble_eq_true rfl)) dH_copy_3 ⟨Nat.le_of_ble_eq_true rfl, Nat.le_of_ble_eq_true rfl⟩) hS (fun q _ h => hFc q h) hFc (fun u9 t H1 locs ht hvm hr9 hB hz1 hk1 hS => ?_)
  obtain ⟨hP1, hK1, hD1⟩ := hB
  rw [ht] at hP1
  obtain ⟨hP, hD⟩ := xjoin (W := [(a2, .inr (2, [.ref a3, .int o1.2.1, .int o1.2.2])), (a3, .inl (cT 2, 4096, .inr (.inl o1.1))), (a0, .inr (2, [.ref a1, .int v1, .int v2])), (a1, .inl (cT 2, 4096, .inr (.inl f0)))]) hP hD [2, 3, 0, 1] [] 0 rfl rfl (by decide) (by decide) hk1 hFc hP1 hD1
  generalize H1 = H at hP hS ⊢
  refine lv_iconst (v := 0) hx hb dH_copy_6 (by decide) ?_
  obtain rfl := Option.some.inj hf
  obtain ⟨hP9, hD9⟩ := xsub (wc := [(a0, .inr (2, [.ref a1, .int v1, .int v2])), (a1, .inl (cT 2, 4096, .inr (.inl f0))), (a2, .inr (2, [.ref a3, .int o1.2.1, .int o1.2.2])), (a3, .inl (cT 2, 4096, .inr (.inl o1.1)))]) hP hD [2, 3, 0, 1] rfl rfl (by decide)
  exact W.iret (v := (0 : Int32)) hx hb hr (fun t ht hW => ⟨⟨(0 : Int32), (), rfl, rfl, by rw [ht]; exact hP9, va_K.moved hW.alike hK, hD9⟩, hS.F ht⟩) hS.2.2 dH_copy_7
set_option maxHeartbeats 400000000 in
set_option maxRecDepth 100000 in
theorem gH_begins (l : Launch) (hl9 : l.stackTraces = false) (D : va_G) (cT : Nat → ClassId) (aK aV : Nat → Nat) (sz n : Nat) (a0 : Nat) (a1 : Nat) (a2 : Nat) (a3 : Nat) (f0 : Nat → Int64) (v1 : Int32) (v2 : Int32) (f3 : Nat → Int64) (v4 : Int32) (v5 : Int32) (out : Int32) (hf : fH_begins n f0 v1 v2 f3 v4 v5 = some out) : xMet l yH_begins wyH_begins 2 0 0 49 D cT aK aV sz [.ref a0, .ref a2] [(a0, .inr (2, [.ref a1, .int v1, .int v2])), (a1, .inl (cT 2, 4096, .inr (.inl f0))), (a2, .inr (2, [.ref a3, .int v4, .int v5])), (a3, .inl (cT 2, 4096, .inr (.inl f3)))] (fun A => va_Qi (fun (r : Int32) (_ : Unit) => r = out) (fun _ t => xB D xcl cT A [(a0, .inr (2, [.ref a1, .int v1, .int v2])), (a1, .inl (cT 2, 4096, .inr (.inl f0))), (a2, .inr (2, [.ref a3, .int v4, .int v5])), (a3, .inl (cT 2, 4096, .inr (.inl f3)))] t) A) := by
  refine Met.ofW (cc := prog_5_method_18_code) (maxL := 2) (ret := (some .boolean)) (by decide) rfl ?_
  intro p e s m args below meth c s₁ B hml hv
  obtain ⟨rfl, hsz, hZ, hP, hK, hD0⟩ := hv
  have hx := B.exec
  have hb := B.bytes
  have hr := B.returns
  have hts := atoms_spec (ws := wyH_begins) B.pre
  have htx := fun w h => hts w (List.mem_cons_of_mem _ h)
  have hown : s.vm.findClass "ValueBench$Pairs" = some m.cls := findClass_of_methodNamed B.named
  have hlocks := B.notSynchronized
  subst hsz
  have hD := hD0.self (sz := s.heap.size)
  generalize hAe : va_A [(a0, .inr (2, [.ref a1, .int v1, .int v2])), (a1, .inl (cT 2, 4096, .inr (.inl f0))), (a2, .inr (2, [.ref a3, .int v4, .int v5])), (a3, .inl (cT 2, 4096, .inr (.inl f3)))] s.heap.size = A at hD hZ ⊢
  have hA : ∀ q : Nat, s.heap.size ≤ q → A q := fun q h => by rw [← hAe]; exact Or.inr h
  have hS : va_S A s.heap s.heap [] := va_S.rf
  have hP : va_P D xcl [(a0, .inr (2, [.ref a1, .int v1, .int v2])), (a1, .inl (cT 2, 4096, .inr (.inl f0))), (a2, .inr (2, [.ref a3, .int v4, .int v5])), (a3, .inl (cT 2, 4096, .inr (.inl f3)))] s.heap := hP
  have hl := lv_entry ([.ref a0, .ref a2]) (n := 2) (Nat.le_of_ble_eq_true rfl)
  rw [lg_entry_eq]
  generalize (lg_sl ([.ref a0, .ref a2]) ++ List.replicate (2 - (lg_sl ([.ref a0, .ref a2])).length) Slot.unset).toArray = ls at hl ⊢
  have hl : lv_has ls 2 [(0, .ref a0), (1, .ref a2)] := hl
  unfold fH_begins at hf
  refine lv_aload_n hx hb dH_begins_0 rfl (lv_at hl 0 rfl) ?_
  refine lv_iconst (v := 0) hx hb dH_begins_1 (by decide) ?_
  refine lv_iconst (v := 0) hx hb dH_begins_2 (by decide) ?_
  refine lv_aload_n hx hb dH_begins_3 rfl (lv_at hl 1 rfl) ?_
  refine lv_iconst (v := 0) hx hb dH_begins_4 (by decide) ?_
  obtain ⟨o1, hq2, hf⟩ := xbind hf
  obtain ⟨hPc, hDc, hFc⟩ := xcut (wc := [(a0, .inr (2, [.ref a1, .int v1, .int v2])), (a1, .inl (cT 2, 4096, .inr (.inl f0))), (a2, .inr (2, [.ref a3, .int v4, .int v5])), (a3, .inl (cT 2, 4096, .inr (.inl f3)))]) hP hD hS hA [0, 1, 2, 3] rfl rfl (by decide)
  refine va_calli (va_runV (C := "ValueBench$Row") (As := [.int 0, .int 0, .ref a2, .int 0]) (rest := []) ⟨hx, hb, hml, hown, htx⟩ (gR_hasParta l hl9 D cT aK aV s.heap.size n a0 a1 a2 a3 (0 : Int32) (0 : Int32) (0 : Int32) f0 v1 v2 f3 v4 v5 o1 hq2) ⟨callB_of 4 htx (xw_goodC kw_3_217) rfl rfl rfl (htx _ kw_1_4) (htx _ kw_4_174) ⟨by decide, by decide, by decide +kernel⟩ ⟨Nat.le_of_ble_eq_true rfl, Nat.le_of_ble_eq_true rfl⟩, (htx _ kw_3_215), (htx _ kw_3_216)⟩ ⟨xPre_blind, va_recv hK hP (ci := 2) rfl (q0 := 0) rfl, (fun U hU hW => ⟨rfl, xPre_of hZ hS hFc hPc hDc hK U hU hW⟩)⟩ rfl rfl hl.1 rfl (lv_room (Nat.le_of_ble_eq_true rfl)) dH_begins_5 ⟨Nat.le_of_ble_eq_true rfl, Nat.le_of_ble_eq_true rfl⟩) hS (fun q _ h => hFc q h) hFc (fun r3 u9 t H1 locs ht hvm hr9 hB hz1 hk1 hS => ?_)
  obtain ⟨hP1, hK1, hD1⟩ := hB
  rw [ht] at hP1
  obtain ⟨hP, hD⟩ := xjoin (W := [(a0, .inr (2, [.ref a1, .int v1, .int v2])), (a1, .inl (cT 2, 4096, .inr (.inl f0))), (a2, .inr (2, [.ref a3, .int v4, .int v5])), (a3, .inl (cT 2, 4096, .inr (.inl f3)))]) hP hD [0, 1, 2, 3] [] 0 rfl rfl (by decide) (by decide) hk1 hFc hP1 hD1
  generalize H1 = H at hP hS ⊢
  rw [hr9]
  refine W.eq (g2 := F0 m 8 ls [.int o1]) rfl ?_
  obtain ⟨hg4, hf⟩ := xifn hf
  obtain rfl := Option.some.inj hf
  obtain ⟨hP9, hD9⟩ := xsub (wc := [(a0, .inr (2, [.ref a1, .int v1, .int v2])), (a1, .inl (cT 2, 4096, .inr (.inl f0))), (a2, .inr (2, [.ref a3, .int v4, .int v5])), (a3, .inl (cT 2, 4096, .inr (.inl f3)))]) hP hD [0, 1, 2, 3] rfl rfl (by decide)
  exact W.zret (v := o1) hx hb hr (xzb hg4) (fun t ht hW => ⟨⟨o1, (), rfl, rfl, by rw [ht]; exact hP9, va_K.moved hW.alike hK, hD9⟩, hS.F ht⟩) hS.2.2 dH_begins_8
set_option maxHeartbeats 400000000 in
set_option maxRecDepth 100000 in
theorem gH_withoutBeginning (l : Launch) (hl9 : l.stackTraces = false) (D : va_G) (cT : Nat → ClassId) (aK aV : Nat → Nat) (sz n : Nat) (a0 : Nat) (a1 : Nat) (a2 : Nat) (a3 : Nat) (a4 : Nat) (a5 : Nat) (f0 : Nat → Int64) (v1 : Int32) (v2 : Int32) (f3 : Nat → Int64) (v4 : Int32) (v5 : Int32) (f6 : Nat → Int64) (v7 : Int32) (v8 : Int32) (out : Int32 × (Nat → Int64) × Int32 × Int32) (hf : fH_withoutBeginning n f0 v1 v2 f3 v4 v5 f6 v7 v8 = some out) : xMet l yH_withoutBeginning wyH_withoutBeginning 4 0 0 127 D cT aK aV sz [.ref a0, .ref a2, .ref a4] [(a0, .inr (2, [.ref a1, .int v1, .int v2])), (a1, .inl (cT 2, 4096, .inr (.inl f0))), (a2, .inr (2, [.ref a3, .int v4, .int v5])), (a3, .inl (cT 2, 4096, .inr (.inl f3))), (a4, .inr (2, [.ref a5, .int v7, .int v8])), (a5, .inl (cT 2, 4096, .inr (.inl f6)))] (fun A => va_Qi (fun (r : Int32) (_ : Unit) => r = out.1) (fun _ t => xB D xcl cT A [(a0, .inr (2, [.ref a1, .int v1, .int v2])), (a1, .inl (cT 2, 4096, .inr (.inl f0))), (a2, .inr (2, [.ref a3, .int v4, .int v5])), (a3, .inl (cT 2, 4096, .inr (.inl f3))), (a4, .inr (2, [.ref a5, .int out.2.2.1, .int out.2.2.2])), (a5, .inl (cT 2, 4096, .inr (.inl out.2.1)))] t) A) := by
  refine Met.ofW (cc := prog_5_method_20_code) (maxL := 3) (ret := (some .int)) (by decide) rfl ?_
  intro p e s m args below meth c s₁ B hml hv
  obtain ⟨rfl, hsz, hZ, hP, hK, hD0⟩ := hv
  have hx := B.exec
  have hb := B.bytes
  have hr := B.returns
  have hts := atoms_spec (ws := wyH_withoutBeginning) B.pre
  have htx := fun w h => hts w (List.mem_cons_of_mem _ h)
  have hown : s.vm.findClass "ValueBench$Pairs" = some m.cls := findClass_of_methodNamed B.named
  have hlocks := B.notSynchronized
  subst hsz
  have hD := hD0.self (sz := s.heap.size)
  generalize hAe : va_A [(a0, .inr (2, [.ref a1, .int v1, .int v2])), (a1, .inl (cT 2, 4096, .inr (.inl f0))), (a2, .inr (2, [.ref a3, .int v4, .int v5])), (a3, .inl (cT 2, 4096, .inr (.inl f3))), (a4, .inr (2, [.ref a5, .int v7, .int v8])), (a5, .inl (cT 2, 4096, .inr (.inl f6)))] s.heap.size = A at hD hZ ⊢
  have hA : ∀ q : Nat, s.heap.size ≤ q → A q := fun q h => by rw [← hAe]; exact Or.inr h
  have hS : va_S A s.heap s.heap [] := va_S.rf
  have hP : va_P D xcl [(a0, .inr (2, [.ref a1, .int v1, .int v2])), (a1, .inl (cT 2, 4096, .inr (.inl f0))), (a2, .inr (2, [.ref a3, .int v4, .int v5])), (a3, .inl (cT 2, 4096, .inr (.inl f3))), (a4, .inr (2, [.ref a5, .int v7, .int v8])), (a5, .inl (cT 2, 4096, .inr (.inl f6)))] s.heap := hP
  have hl := lv_entry ([.ref a0, .ref a2, .ref a4]) (n := 3) (Nat.le_of_ble_eq_true rfl)
  rw [lg_entry_eq]
  generalize (lg_sl ([.ref a0, .ref a2, .ref a4]) ++ List.replicate (3 - (lg_sl ([.ref a0, .ref a2, .ref a4])).length) Slot.unset).toArray = ls at hl ⊢
  have hl : lv_has ls 3 [(0, .ref a0), (1, .ref a2), (2, .ref a4)] := hl
  unfold fH_withoutBeginning at hf
  refine lv_aload_n hx hb dH_withoutBeginning_0 rfl (lv_at hl 0 rfl) ?_
  refine lv_aload_n hx hb dH_withoutBeginning_1 rfl (lv_at hl 1 rfl) ?_
  obtain ⟨o1, hq2, hf⟩ := xbind hf
  obtain ⟨hPc, hDc, hFc⟩ := xcut (wc := [(a0, .inr (2, [.ref a1, .int v1, .int v2])), (a1, .inl (cT 2, 4096, .inr (.inl f0))), (a2, .inr (2, [.ref a3, .int v4, .int v5])), (a3, .inl (cT 2, 4096, .inr (.inl f3)))]) hP hD hS hA [0, 1, 2, 3] rfl rfl (by decide)
  refine va_calli (va_runS (As := [.ref a0, .ref a2]) (rest := []) ⟨hx, hb, hml, hown, htx⟩ (gH_areStrings l hl9 D cT aK aV s.heap.size n a0 a1 a2 a3 f0 v1 v2 f3 v4 v5 o1 hq2) ⟨callB_of 2 htx (xw_goodC kw_4_201) rfl rfl rfl (htx _ kw_1_27) (htx _ kw_4_199) ⟨by decide, by decide, by decide +kernel⟩ ⟨Nat.le_of_ble_eq_true rfl, Nat.le_of_ble_eq_true rfl⟩, htx _ kw_4_200⟩ ⟨xPre_blind, (fun U hU hW => ⟨rfl, xPre_of hZ hS hFc hPc hDc hK U hU hW⟩)⟩ rfl rfl hl.1 rfl (lv_room (Nat.le_of_ble_eq_true rfl)) dH_withoutBeginning_2 ⟨Nat.le_of_ble_eq_true rfl, Nat.le_of_ble_eq_true rfl⟩) hS (fun q _ h => hFc q h) hFc (fun r3 u9 t H1 locs ht hvm hr9 hB hz1 hk1 hS => ?_)
  obtain ⟨hP1, hK1, hD1⟩ := hB
  rw [ht] at hP1
  obtain ⟨hP, hD⟩ := xjoin (W := [(a4, .inr (2, [.ref a5, .int v7, .int v8])), (a5, .inl (cT 2, 4096, .inr (.inl f6))), (a0, .inr (2, [.ref a1, .int v1, .int v2])), (a1, .inl (cT 2, 4096, .inr (.inl f0))), (a2, .inr (2, [.ref a3, .int v4, .int v5])), (a3, .inl (cT 2, 4096, .inr (.inl f3)))]) hP hD [0, 1, 2, 3] [4, 5] 2 rfl rfl (by decide) (by decide) hk1 hFc hP1 hD1
  generalize H1 = H at hP hS ⊢
  rw [hr9]
  refine W.eq (g2 := F0 m 5 ls [.int o1]) rfl ?_
  refine lv_if_eq (tgt := 16) hx hb dH_withoutBeginning_5 (by decide) (fun hc => ?_) (fun hc => ?_)
  · rw [if_pos hc] at hf
    refine lv_aload_n hx hb dH_withoutBeginning_16 rfl (lv_at hl 0 rfl) ?_
    refine lv_iconst (v := 0) hx hb dH_withoutBeginning_17 (by decide) ?_
    refine lv_aload_n hx hb dH_withoutBeginning_18 rfl (lv_at hl 2 rfl) ?_
    obtain ⟨o4, hq5, hf⟩ := xbind hf
    obtain ⟨hPc, hDc, hFc⟩ := xcut (wc := [(a0, .inr (2, [.ref a1, .int v1, .int v2])), (a1, .inl (cT 2, 4096, .inr (.inl f0))), (a4, .inr (2, [.ref a5, .int v7, .int v8])), (a5, .inl (cT 2, 4096, .inr (.inl f6)))]) hP hD hS hA [2, 3, 0, 1] rfl rfl (by decide)
    refine va_calli (va_runS (As := [.ref a0, .int 0, .ref a4]) (rest := []) ⟨hx, hb, hml, hown, htx⟩ (gH_copy l hl9 D cT aK aV H.size n a0 a1 a4 a5 (0 : Int32) f0 v1 v2 f6 v7 v8 o4 hq5) ⟨callB_of 3 htx (xw_goodC kw_4_207) rfl rfl rfl (htx _ kw_1_27) (htx _ kw_4_205) ⟨by decide, by decide, by decide +kernel⟩ ⟨Nat.le_of_ble_eq_true rfl, Nat.le_of_ble_eq_true rfl⟩, htx _ kw_4_206⟩ ⟨xPre_blind, (fun U hU hW => ⟨rfl, xPre_of hZ hS hFc hPc hDc hK U hU hW⟩)⟩ rfl rfl hl.1 rfl (lv_room (Nat.le_of_ble_eq_true rfl)) dH_withoutBeginning_19 ⟨Nat.le_of_ble_eq_true rfl, Nat.le_of_ble_eq_true rfl⟩) hS (fun q _ h => hFc q h) hFc (fun r6 u9 t H1 locs ht hvm hr9 hB hz1 hk1 hS => ?_)
    obtain ⟨hP1, hK1, hD1⟩ := hB
    rw [ht] at hP1
    obtain ⟨hP, hD⟩ := xjoin (W := [(a2, .inr (2, [.ref a3, .int v4, .int v5])), (a3, .inl (cT 2, 4096, .inr (.inl f3))), (a0, .inr (2, [.ref a1, .int v1, .int v2])), (a1, .inl (cT 2, 4096, .inr (.inl f0))), (a4, .inr (2, [.ref a5, .int o4.2.2.1, .int o4.2.2.2])), (a5, .inl (cT 2, 4096, .inr (.inl o4.2.1)))]) hP hD [2, 3, 0, 1] [4, 5] 2 rfl rfl (by decide) (by decide) hk1 hFc hP1 hD1
    generalize H1 = H at hP hS ⊢
    rw [hr9]
    refine W.eq (g2 := F0 m 22 ls [.int o4.1]) rfl ?_
    obtain rfl := Option.some.inj hf
    obtain ⟨hP9, hD9⟩ := xsub (wc := [(a0, .inr (2, [.ref a1, .int v1, .int v2])), (a1, .inl (cT 2, 4096, .inr (.inl f0))), (a2, .inr (2, [.ref a3, .int v4, .int v5])), (a3, .inl (cT 2, 4096, .inr (.inl f3))), (a4, .inr (2, [.ref a5, .int o4.2.2.1, .int o4.2.2.2])), (a5, .inl (cT 2, 4096, .inr (.inl o4.2.1)))]) hP hD [2, 3, 0, 1, 4, 5] rfl rfl (by decide)
    exact W.iret (v := o4.1) hx hb hr (fun t ht hW => ⟨⟨o4.1, (), rfl, rfl, by rw [ht]; exact hP9, va_K.moved hW.alike hK, hD9⟩, hS.F ht⟩) hS.2.2 dH_withoutBeginning_22
  · rw [if_neg hc] at hf
    refine lv_aload_n hx hb dH_withoutBeginning_8 rfl (lv_at hl 0 rfl) ?_
    refine lv_aload_n hx hb dH_withoutBeginning_9 rfl (lv_at hl 1 rfl) ?_
    obtain ⟨o4, hq5, hf⟩ := xbind hf
    obtain ⟨hPc, hDc, hFc⟩ := xcut (wc := [(a0, .inr (2, [.ref a1, .int v1, .int v2])), (a1, .inl (cT 2, 4096, .inr (.inl f0))), (a2, .inr (2, [.ref a3, .int v4, .int v5])), (a3, .inl (cT 2, 4096, .inr (.inl f3)))]) hP hD hS hA [2, 3, 4, 5] rfl rfl (by decide)
    refine va_calli (va_runS (As := [.ref a0, .ref a2]) (rest := []) ⟨hx, hb, hml, hown, htx⟩ (gH_begins l hl9 D cT aK aV H.size n a0 a1 a2 a3 f0 v1 v2 f3 v4 v5 o4 hq5) ⟨callB_of 2 htx (xw_goodC kw_4_204) rfl rfl rfl (htx _ kw_1_27) (htx _ kw_4_202) ⟨by decide, by decide, by decide +kernel⟩ ⟨Nat.le_of_ble_eq_true rfl, Nat.le_of_ble_eq_true rfl⟩, htx _ kw_4_203⟩ ⟨xPre_blind, (fun U hU hW => ⟨rfl, xPre_of hZ hS hFc hPc hDc hK U hU hW⟩)⟩ rfl rfl hl.1 rfl (lv_room (Nat.le_of_ble_eq_true rfl)) dH_withoutBeginning_10 ⟨Nat.le_of_ble_eq_true rfl, Nat.le_of_ble_eq_true rfl⟩) hS (fun q _ h => hFc q h) hFc (fun r6 u9 t H1 locs ht hvm hr9 hB hz1 hk1 hS => ?_)
    obtain ⟨hP1, hK1, hD1⟩ := hB
    rw [ht] at hP1
    obtain ⟨hP, hD⟩ := xjoin (W := [(a4, .inr (2, [.ref a5, .int v7, .int v8])), (a5, .inl (cT 2, 4096, .inr (.inl f6))), (a0, .inr (2, [.ref a1, .int v1, .int v2])), (a1, .inl (cT 2, 4096, .inr (.inl f0))), (a2, .inr (2, [.ref a3, .int v4, .int v5])), (a3, .inl (cT 2, 4096, .inr (.inl f3)))]) hP hD [2, 3, 4, 5] [0, 1] 2 rfl rfl (by decide) (by decide) hk1 hFc hP1 hD1
    generalize H1 = H at hP hS ⊢
    rw [hr9]
    refine W.eq (g2 := F0 m 13 ls [.int o4]) rfl ?_
    refine lv_if_ne (tgt := 23) hx hb dH_withoutBeginning_13 (by decide) (fun hc => ?_) (fun hc => ?_)
    · rw [if_neg hc] at hf
      refine lv_aload_n hx hb dH_withoutBeginning_23 rfl (lv_at hl 2 rfl) ?_
      refine lv_aload_n hx hb dH_withoutBeginning_24 rfl (lv_at hl 0 rfl) ?_
      refine lv_iconst (v := 0) hx hb dH_withoutBeginning_25 (by decide) ?_
      refine lv_aload_n hx hb dH_withoutBeginning_26 rfl (lv_at hl 1 rfl) ?_
      refine lv_iconst (v := 0) hx hb dH_withoutBeginning_27 (by decide) ?_
      obtain ⟨o7, hq8, hf⟩ := xbind hf
      obtain ⟨hPc, hDc, hFc⟩ := xcut (wc := [(a2, .inr (2, [.ref a3, .int v4, .int v5])), (a3, .inl (cT 2, 4096, .inr (.inl f3)))]) hP hD hS hA [4, 5] rfl rfl (by decide)
      refine va_calli (va_runV (C := "ValueBench$Row") (As := [.int 0]) (rest := [.int 0, .ref a0, .ref a4]) ⟨hx, hb, hml, hown, htx⟩ (gR_length l hl9 D cT aK aV H.size n a2 a3 (0 : Int32) f3 v4 v5 o7 hq8) ⟨callB_of 1 htx (xw_goodC kw_2_191) rfl rfl rfl (htx _ kw_1_4) (htx _ kw_4_157) ⟨by decide, by decide, by decide +kernel⟩ ⟨Nat.le_of_ble_eq_true rfl, Nat.le_of_ble_eq_true rfl⟩, (htx _ kw_2_189), (htx _ kw_2_190)⟩ ⟨xPre_blind, va_recv hK hP (ci := 2) rfl (q0 := 4) rfl, (fun U hU hW => ⟨rfl, xPre_of hZ hS hFc hPc hDc hK U hU hW⟩)⟩ rfl rfl hl.1 rfl (lv_room (Nat.le_of_ble_eq_true rfl)) dH_withoutBeginning_28 ⟨Nat.le_of_ble_eq_true rfl, Nat.le_of_ble_eq_true rfl⟩) hS (fun q _ h => hFc q h) hFc (fun r9 u9 t H1 locs ht hvm hr9 hB hz1 hk1 hS => ?_)
      obtain ⟨hP1, hK1, hD1⟩ := hB
      rw [ht] at hP1
      obtain ⟨hP, hD⟩ := xjoin (W := [(a4, .inr (2, [.ref a5, .int v7, .int v8])), (a5, .inl (cT 2, 4096, .inr (.inl f6))), (a0, .inr (2, [.ref a1, .int v1, .int v2])), (a1, .inl (cT 2, 4096, .inr (.inl f0))), (a2, .inr (2, [.ref a3, .int v4, .int v5])), (a3, .inl (cT 2, 4096, .inr (.inl f3)))]) hP hD [4, 5] [0, 1, 2, 3] 4 rfl rfl (by decide) (by decide) hk1 hFc hP1 hD1
      generalize H1 = H at hP hS ⊢
      rw [hr9]
      refine W.eq (g2 := F0 m 31 ls [.int o7, .int 0, .ref a0, .ref a4]) rfl ?_
      refine lv_aload_n hx hb dH_withoutBeginning_31 rfl (lv_at hl 0 rfl) ?_
      refine lv_iconst (v := 0) hx hb dH_withoutBeginning_32 (by decide) ?_
      obtain ⟨o10, hq11, hf⟩ := xbind hf
      obtain ⟨hPc, hDc, hFc⟩ := xcut (wc := [(a0, .inr (2, [.ref a1, .int v1, .int v2])), (a1, .inl (cT 2, 4096, .inr (.inl f0)))]) hP hD hS hA [2, 3] rfl rfl (by decide)
      refine va_calli (va_runV (C := "ValueBench$Row") (As := [.int 0]) (rest := [.int o7, .int 0, .ref a0, .ref a4]) ⟨hx, hb, hml, hown, htx⟩ (gR_length l hl9 D cT aK aV H.size n a0 a1 (0 : Int32) f0 v1 v2 o10 hq11) ⟨callB_of 1 htx (xw_goodC kw_2_191) rfl rfl rfl (htx _ kw_1_4) (htx _ kw_4_157) ⟨by decide, by decide, by decide +kernel⟩ ⟨Nat.le_of_ble_eq_true rfl, Nat.le_of_ble_eq_true rfl⟩, (htx _ kw_2_189), (htx _ kw_2_190)⟩ ⟨xPre_blind, va_recv hK hP (ci := 2) rfl (q0 := 2) rfl, (fun U hU hW => ⟨rfl, xPre_of hZ hS hFc hPc hDc hK U hU hW⟩)⟩ rfl rfl hl.1 rfl (lv_room (Nat.le_of_ble_eq_true rfl)) dH_withoutBeginning_33 ⟨Nat.le_of_ble_eq_true rfl, Nat.le_of_ble_eq_true rfl⟩) hS (fun q _ h => hFc q h) hFc (fun r12 u9 t H1 locs ht hvm hr9 hB hz1 hk1 hS => ?_)
      obtain ⟨hP1, hK1, hD1⟩ := hB
      rw [ht] at hP1
      obtain ⟨hP, hD⟩ := xjoin (W := [(a4, .inr (2, [.ref a5, .int v7, .int v8])), (a5, .inl (cT 2, 4096, .inr (.inl f6))), (a2, .inr (2, [.ref a3, .int v4, .int v5])), (a3, .inl (cT 2, 4096, .inr (.inl f3))), (a0, .inr (2, [.ref a1, .int v1, .int v2])), (a1, .inl (cT 2, 4096, .inr (.inl f0)))]) hP hD [2, 3] [0, 1, 4, 5] 4 rfl rfl (by decide) (by decide) hk1 hFc hP1 hD1
      generalize H1 = H at hP hS ⊢
      rw [hr9]
      refine W.eq (g2 := F0 m 36 ls [.int o10, .int o7, .int 0, .ref a0, .ref a4]) rfl ?_
      obtain ⟨o13, hq14, hf⟩ := xbind hf
      obtain ⟨hPc, hDc, hFc⟩ := xcut (wc := [(a4, .inr (2, [.ref a5, .int v7, .int v8])), (a5, .inl (cT 2, 4096, .inr (.inl f6))), (a0, .inr (2, [.ref a1, .int v1, .int v2])), (a1, .inl (cT 2, 4096, .inr (.inl f0)))]) hP hD hS hA [0, 1, 4, 5] rfl rfl (by decide)
      refine va_callv (va_runV (C := "ValueBench$Row") (As := [.ref a0, .int 0, .int o7, .int o10]) (rest := []) ⟨hx, hb, hml, hown, htx⟩ (gR_putPart l hl9 D cT aK aV H.size n a4 a5 a0 a1 (0 : Int32) o7 o10 f6 v7 v8 f0 v1 v2 o13 hq14) ⟨callB_of 4 htx (xw_goodC kw_3_208) rfl rfl rfl (htx _ kw_1_4) (htx _ kw_4_209) ⟨by decide, by decide, by decide +kernel⟩ ⟨Nat.le_of_ble_eq_true rfl, Nat.le_of_ble_eq_true rfl⟩, (htx _ kw_3_206), (htx _ kw_3_207)⟩ ⟨xPre_blind, va_recv hK hP (ci := 2) rfl (q0 := 0) rfl, (fun U hU hW => ⟨rfl, xPre_of hZ hS hFc hPc hDc hK U hU hW⟩)⟩ rfl rfl hl.1 rfl (lv_room (Nat.le_of_ble_eq_true rfl)) dH_withoutBeginning_36 ⟨Nat.le_of_ble_eq_true rfl, Nat.le_of_ble_eq_true rfl⟩) hS (fun q _ h => hFc q h) hFc (fun u9 t H1 locs ht hvm hr9 hB hz1 hk1 hS => ?_)
      obtain ⟨hP1, hK1, hD1⟩ := hB
      rw [ht] at hP1
      obtain ⟨hP, hD⟩ := xjoin (W := [(a2, .inr (2, [.ref a3, .int v4, .int v5])), (a3, .inl (cT 2, 4096, .inr (.inl f3))), (a4, .inr (2, [.ref a5, .int o13.2.1, .int o13.2.2])), (a5, .inl (cT 2, 4096, .inr (.inl o13.1))), (a0, .inr (2, [.ref a1, .int v1, .int v2])), (a1, .inl (cT 2, 4096, .inr (.inl f0)))]) hP hD [0, 1, 4, 5] [2, 3] 2 rfl rfl (by decide) (by decide) hk1 hFc hP1 hD1
      generalize H1 = H at hP hS ⊢
      refine lv_iconst (v := 0) hx hb dH_withoutBeginning_39 (by decide) ?_
      obtain rfl := Option.some.inj hf
      obtain ⟨hP9, hD9⟩ := xsub (wc := [(a0, .inr (2, [.ref a1, .int v1, .int v2])), (a1, .inl (cT 2, 4096, .inr (.inl f0))), (a2, .inr (2, [.ref a3, .int v4, .int v5])), (a3, .inl (cT 2, 4096, .inr (.inl f3))), (a4, .inr (2, [.ref a5, .int o13.2.1, .int o13.2.2])), (a5, .inl (cT 2, 4096, .inr (.inl o13.1)))]) hP hD [4, 5, 0, 1, 2, 3] rfl rfl (by decide)
      exact W.iret (v := (0 : Int32)) hx hb hr (fun t ht hW => ⟨⟨(0 : Int32), (), rfl, rfl, by rw [ht]; exact hP9, va_K.moved hW.alike hK, hD9⟩, hS.F ht⟩) hS.2.2 dH_withoutBeginning_40
    · rw [if_pos hc] at hf
      refine lv_aload_n hx hb dH_withoutBeginning_16 rfl (lv_at hl 0 rfl) ?_
      refine lv_iconst (v := 0) hx hb dH_withoutBeginning_17 (by decide) ?_
      refine lv_aload_n hx hb dH_withoutBeginning_18 rfl (lv_at hl 2 rfl) ?_
      obtain ⟨o7, hq8, hf⟩ := xbind hf
      obtain ⟨hPc, hDc, hFc⟩ := xcut (wc := [(a0, .inr (2, [.ref a1, .int v1, .int v2])), (a1, .inl (cT 2, 4096, .inr (.inl f0))), (a4, .inr (2, [.ref a5, .int v7, .int v8])), (a5, .inl (cT 2, 4096, .inr (.inl f6)))]) hP hD hS hA [2, 3, 0, 1] rfl rfl (by decide)
      refine va_calli (va_runS (As := [.ref a0, .int 0, .ref a4]) (rest := []) ⟨hx, hb, hml, hown, htx⟩ (gH_copy l hl9 D cT aK aV H.size n a0 a1 a4 a5 (0 : Int32) f0 v1 v2 f6 v7 v8 o7 hq8) ⟨callB_of 3 htx (xw_goodC kw_4_207) rfl rfl rfl (htx _ kw_1_27) (htx _ kw_4_205) ⟨by decide, by decide, by decide +kernel⟩ ⟨Nat.le_of_ble_eq_true rfl, Nat.le_of_ble_eq_true rfl⟩, htx _ kw_4_206⟩ ⟨xPre_blind, (fun U hU hW => ⟨rfl, xPre_of hZ hS hFc hPc hDc hK U hU hW⟩)⟩ rfl rfl hl.1 rfl (lv_room (Nat.le_of_ble_eq_true rfl)) dH_withoutBeginning_19 ⟨Nat.le_of_ble_eq_true rfl, Nat.le_of_ble_eq_true rfl⟩) hS (fun q _ h => hFc q h) hFc (fun r9 u9 t H1 locs ht hvm hr9 hB hz1 hk1 hS => ?_)
      obtain ⟨hP1, hK1, hD1⟩ := hB
      rw [ht] at hP1
      obtain ⟨hP, hD⟩ := xjoin (W := [(a2, .inr (2, [.ref a3, .int v4, .int v5])), (a3, .inl (cT 2, 4096, .inr (.inl f3))), (a0, .inr (2, [.ref a1, .int v1, .int v2])), (a1, .inl (cT 2, 4096, .inr (.inl f0))), (a4, .inr (2, [.ref a5, .int o7.2.2.1, .int o7.2.2.2])), (a5, .inl (cT 2, 4096, .inr (.inl o7.2.1)))]) hP hD [2, 3, 0, 1] [4, 5] 2 rfl rfl (by decide) (by decide) hk1 hFc hP1 hD1
      generalize H1 = H at hP hS ⊢
      rw [hr9]
      refine W.eq (g2 := F0 m 22 ls [.int o7.1]) rfl ?_
      obtain rfl := Option.some.inj hf
      obtain ⟨hP9, hD9⟩ := xsub (wc := [(a0, .inr (2, [.ref a1, .int v1, .int v2])), (a1, .inl (cT 2, 4096, .inr (.inl f0))), (a2, .inr (2, [.ref a3, .int v4, .int v5])), (a3, .inl (cT 2, 4096, .inr (.inl f3))), (a4, .inr (2, [.ref a5, .int o7.2.2.1, .int o7.2.2.2])), (a5, .inl (cT 2, 4096, .inr (.inl o7.2.1)))]) hP hD [2, 3, 0, 1, 4, 5] rfl rfl (by decide)
      exact W.iret (v := o7.1) hx hb hr (fun t ht hW => ⟨⟨o7.1, (), rfl, rfl, by rw [ht]; exact hP9, va_K.moved hW.alike hK, hD9⟩, hS.F ht⟩) hS.2.2 dH_withoutBeginning_22
