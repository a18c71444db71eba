set_option maxHeartbeats 400000000 in
set_option maxRecDepth 100000 in
theorem gJI_compare (l : Launch) (hl9 : l.stackTraces = false) (D : va_G) (cT : Nat → ClassId) (aK aV : Nat → Nat) (sz n : Nat) (x0 : Int32) (x1 : Int32) (out : Int32) (hf : fJI_compare n x0 x1 = some out) : xMet l yJI_compare wyJI_compare 0 0 0 0 D cT aK aV sz [.int x0, .int x1] [] (fun A => va_Qi (fun (r : Int32) (_ : Unit) => r = out) (fun _ t => xB D xcl cT A [] t) A) := by
  refine Met.ofW (cc := prog_19_method_40_code) (maxL := 2) (ret := (some .int)) (by decide) rfl ?_
  intro p e s m args below meth c s₁ B hml hv
  obtain ⟨rfl, hsz, hZ, hP, hK, hD0⟩ := hv
  have hx := B.exec
  have hb := B.bytes
  have hr := B.returns
  have hts := atoms_spec (ws := wyJI_compare) B.pre
  have htx := fun w h => hts w (List.mem_cons_of_mem _ h)
  have hown : s.vm.findClass "java/lang/Integer" = some m.cls := findClass_of_methodNamed B.named
  have hlocks := B.notSynchronized
  subst hsz
  have hD := hD0.self (sz := s.heap.size)
  generalize hAe : va_A [] s.heap.size = A at hD hZ ⊢
  have hA : ∀ q : Nat, s.heap.size ≤ q → A q := fun q h => by rw [← hAe]; exact Or.inr h
  have hS : va_S A s.heap s.heap [] := va_S.rf
  have hP : va_P D xcl [] s.heap := hP
  have hl := lv_entry ([.int x0, .int x1]) (n := 2) (Nat.le_of_ble_eq_true rfl)
  rw [lg_entry_eq]
  generalize (lg_sl ([.int x0, .int x1]) ++ List.replicate (2 - (lg_sl ([.int x0, .int x1])).length) Slot.unset).toArray = ls at hl ⊢
  have hl : lv_has ls 2 [(0, .int x0), (1, .int x1)] := hl
  unfold fJI_compare at hf
  refine lv_iload_n hx hb dJI_compare_0 rfl (lv_at hl 0 rfl) ?_
  refine lv_iload_n hx hb dJI_compare_1 rfl (lv_at hl 1 rfl) ?_
  refine lv_icmp_ge (tgt := 9) hx hb dJI_compare_2 (by decide) (fun hc => ?_) (fun hc => ?_)
  · rw [if_pos hc] at hf
    refine lv_iload_n hx hb dJI_compare_9 rfl (lv_at hl 0 rfl) ?_
    refine lv_iload_n hx hb dJI_compare_10 rfl (lv_at hl 1 rfl) ?_
    refine lv_icmp_ne (tgt := 18) hx hb dJI_compare_11 (by decide) (fun hc => ?_) (fun hc => ?_)
    · rw [if_neg hc] at hf
      refine lv_iconst (v := 1) hx hb dJI_compare_18 (by decide) ?_
      obtain rfl := Option.some.inj hf
      obtain ⟨hP9, hD9⟩ := xsub (wc := []) hP hD [] rfl rfl (by decide)
      exact W.iret (v := (1 : Int32)) hx hb hr (fun t ht hW => ⟨⟨(1 : Int32), (), rfl, rfl, by rw [ht]; exact hP9, va_K.moved hW.alike hK, hD9⟩, hS.F ht⟩) hS.2.2 dJI_compare_19
    · rw [if_pos hc] at hf
      refine lv_iconst (v := 0) hx hb dJI_compare_14 (by decide) ?_
      refine lv_goto (tgt := 19) hx hb dJI_compare_15 (by decide) ?_
      obtain rfl := Option.some.inj hf
      obtain ⟨hP9, hD9⟩ := xsub (wc := []) hP hD [] rfl rfl (by decide)
      exact W.iret (v := (0 : Int32)) hx hb hr (fun t ht hW => ⟨⟨(0 : Int32), (), rfl, rfl, by rw [ht]; exact hP9, va_K.moved hW.alike hK, hD9⟩, hS.F ht⟩) hS.2.2 dJI_compare_19
  · rw [if_neg hc] at hf
    refine lv_iconst (v := (-1)) hx hb dJI_compare_5 (by decide) ?_
    refine lv_goto (tgt := 19) hx hb dJI_compare_6 (by decide) ?_
    obtain rfl := Option.some.inj hf
    obtain ⟨hP9, hD9⟩ := xsub (wc := []) hP hD [] rfl rfl (by decide)
    exact W.iret (v := ((-1) : Int32)) hx hb hr (fun t ht hW => ⟨⟨((-1) : Int32), (), rfl, rfl, by rw [ht]; exact hP9, va_K.moved hW.alike hK, hD9⟩, hS.F ht⟩) hS.2.2 dJI_compare_19
set_option maxHeartbeats 400000000 in
set_option maxRecDepth 100000 in
theorem gJL_compare (l : Launch) (hl9 : l.stackTraces = false) (D : va_G) (cT : Nat → ClassId) (aK aV : Nat → Nat) (sz n : Nat) (x0 : Int64) (x1 : Int64) (out : Int32) (hf : fJL_compare n x0 x1 = some out) : xMet l yJL_compare wyJL_compare 0 0 0 0 D cT aK aV sz [.long x0, .long x1] [] (fun A => va_Qi (fun (r : Int32) (_ : Unit) => r = out) (fun _ t => xB D xcl cT A [] t) A) := by
  refine Met.ofW (cc := prog_20_method_42_code) (maxL := 4) (ret := (some .int)) (by decide) rfl ?_
  intro p e s m args below meth c s₁ B hml hv
  obtain ⟨rfl, hsz, hZ, hP, hK, hD0⟩ := hv
  have hx := B.exec
  have hb := B.bytes
  have hr := B.returns
  have hts := atoms_spec (ws := wyJL_compare) B.pre
  have htx := fun w h => hts w (List.mem_cons_of_mem _ h)
  have hown : s.vm.findClass "java/lang/Long" = some m.cls := findClass_of_methodNamed B.named
  have hlocks := B.notSynchronized
  subst hsz
  have hD := hD0.self (sz := s.heap.size)
  generalize hAe : va_A [] s.heap.size = A at hD hZ ⊢
  have hA : ∀ q : Nat, s.heap.size ≤ q → A q := fun q h => by rw [← hAe]; exact Or.inr h
  have hS : va_S A s.heap s.heap [] := va_S.rf
  have hP : va_P D xcl [] s.heap := hP
  have hl := lv_entry ([.long x0, .long x1]) (n := 4) (Nat.le_of_ble_eq_true rfl)
  rw [lg_entry_eq]
  generalize (lg_sl ([.long x0, .long x1]) ++ List.replicate (4 - (lg_sl ([.long x0, .long x1])).length) Slot.unset).toArray = ls at hl ⊢
  have hl : lv_has ls 4 [(0, .long x0), (2, .long x1)] := hl
  unfold fJL_compare at hf
  refine lv_lload_n hx hb dJL_compare_0 rfl (lv_at hl 0 rfl) ?_
  refine lv_lload_n hx hb dJL_compare_1 rfl (lv_at hl 1 rfl) ?_
  refine W.lcmp hx hb dJL_compare_2 ?_
  refine lv_if_ge (tgt := 10) hx hb dJL_compare_3 (by decide) (fun hc => ?_) (fun hc => ?_)
  · rw [if_pos hc] at hf
    refine lv_lload_n hx hb dJL_compare_10 rfl (lv_at hl 0 rfl) ?_
    refine lv_lload_n hx hb dJL_compare_11 rfl (lv_at hl 1 rfl) ?_
    refine W.lcmp hx hb dJL_compare_12 ?_
    refine lv_if_ne (tgt := 20) hx hb dJL_compare_13 (by decide) (fun hc => ?_) (fun hc => ?_)
    · rw [if_neg hc] at hf
      refine lv_iconst (v := 1) hx hb dJL_compare_20 (by decide) ?_
      obtain rfl := Option.some.inj hf
      obtain ⟨hP9, hD9⟩ := xsub (wc := []) hP hD [] rfl rfl (by decide)
      exact W.iret (v := (1 : Int32)) hx hb hr (fun t ht hW => ⟨⟨(1 : Int32), (), rfl, rfl, by rw [ht]; exact hP9, va_K.moved hW.alike hK, hD9⟩, hS.F ht⟩) hS.2.2 dJL_compare_21
    · rw [if_pos hc] at hf
      refine lv_iconst (v := 0) hx hb dJL_compare_16 (by decide) ?_
      refine lv_goto (tgt := 21) hx hb dJL_compare_17 (by decide) ?_
      obtain rfl := Option.some.inj hf
      obtain ⟨hP9, hD9⟩ := xsub (wc := []) hP hD [] rfl rfl (by decide)
      exact W.iret (v := (0 : Int32)) hx hb hr (fun t ht hW => ⟨⟨(0 : Int32), (), rfl, rfl, by rw [ht]; exact hP9, va_K.moved hW.alike hK, hD9⟩, hS.F ht⟩) hS.2.2 dJL_compare_21
  · rw [if_neg hc] at hf
    refine lv_iconst (v := (-1)) hx hb dJL_compare_6 (by decide) ?_
    refine lv_goto (tgt := 21) hx hb dJL_compare_7 (by decide) ?_
    obtain rfl := Option.some.inj hf
    obtain ⟨hP9, hD9⟩ := xsub (wc := []) hP hD [] rfl rfl (by decide)
    exact W.iret (v := ((-1) : Int32)) hx hb hr (fun t ht hW => ⟨⟨((-1) : Int32), (), rfl, rfl, by rw [ht]; exact hP9, va_K.moved hW.alike hK, hD9⟩, hS.F ht⟩) hS.2.2 dJL_compare_21
set_option maxHeartbeats 400000000 in
set_option maxRecDepth 100000 in
theorem gO_ofArrays (l : Launch) (hl9 : l.stackTraces = false) (D : va_G) (cT : Nat → ClassId) (aK aV : Nat → Nat) (fr lo : Nat) (rec : Int32 → Int32 → Int32 → (Nat → Int64) → Int32 → Int32 → (Nat → Int64) → Int32 → Int32 → Option (Int32)) (hrec : ∀ (sz : Nat) (a0 : Nat) (a1 : Nat) (a2 : Nat) (a3 : Nat) (x1 : Int32) (x3 : Int32) (x4 : Int32) (f0 : Nat → Int64) (v1 : Int32) (v2 : Int32) (f3 : Nat → Int64) (v4 : Int32) (v5 : Int32) (out : Int32), rec x1 x3 x4 f0 v1 v2 f3 v4 v5 = some out → xMet l yO_of wyO_of fr 0 0 lo D cT aK aV sz [.ref a0, .int x1, .ref a2, .int x3, .int x4] [(a0, .inr (2, [.ref a1, .int v1, .int v2])), (a1, .inl (cT 2, 4096, .inr (.inl f0))), (a2, .inr (2, [.ref a3, .int v4, .int v5])), (a3, .inl (cT 2, 4096, .inr (.inl f3)))] (fun A => va_Qi (fun (r : Int32) (_ : Unit) => r = out) (fun _ t => xB D xcl cT A [(a0, .inr (2, [.ref a1, .int v1, .int v2])), (a1, .inl (cT 2, 4096, .inr (.inl f0))), (a2, .inr (2, [.ref a3, .int v4, .int v5])), (a3, .inl (cT 2, 4096, .inr (.inl f3)))] t) A)) (sz n : Nat) (a0 : Nat) (a1 : Nat) (a2 : Nat) (a3 : Nat) (x1 : Int32) (x3 : Int32) (x4 : Int32) (f0 : Nat → Int64) (v1 : Int32) (v2 : Int32) (f3 : Nat → Int64) (v4 : Int32) (v5 : Int32) (out : Int32) (hf : fO_ofArrays rec n x1 x3 x4 f0 v1 v2 f3 v4 v5 = some out) : xMet l yO_ofArrays wyO_ofArrays (fr + 1) 0 0 (lo + 40) D cT aK aV sz [.ref a0, .int x1, .ref a2, .int x3, .int x4] [(a0, .inr (2, [.ref a1, .int v1, .int v2])), (a1, .inl (cT 2, 4096, .inr (.inl f0))), (a2, .inr (2, [.ref a3, .int v4, .int v5])), (a3, .inl (cT 2, 4096, .inr (.inl f3)))] (fun A => va_Qi (fun (r : Int32) (_ : Unit) => r = out) (fun _ t => xB D xcl cT A [(a0, .inr (2, [.ref a1, .int v1, .int v2])), (a1, .inl (cT 2, 4096, .inr (.inl f0))), (a2, .inr (2, [.ref a3, .int v4, .int v5])), (a3, .inl (cT 2, 4096, .inr (.inl f3)))] t) A) := by
  refine Met.ofW (cc := prog_4_method_4_code) (maxL := 10) (ret := (some .int)) (by decide) rfl ?_
  intro p e s m args below meth c s₁ B hml hv
  obtain ⟨rfl, hsz, hZ, hP, hK, hD0⟩ := hv
  have hx := B.exec
  have hb := B.bytes
  have hr := B.returns
  have hts := atoms_spec (ws := wyO_ofArrays) B.pre
  have htx := fun w h => hts w (List.mem_cons_of_mem _ h)
  have hown : s.vm.findClass "ValueBench$Order" = some m.cls := findClass_of_methodNamed B.named
  have hlocks := B.notSynchronized
  subst hsz
  have hD := hD0.self (sz := s.heap.size)
  generalize hAe : va_A [(a0, .inr (2, [.ref a1, .int v1, .int v2])), (a1, .inl (cT 2, 4096, .inr (.inl f0))), (a2, .inr (2, [.ref a3, .int v4, .int v5])), (a3, .inl (cT 2, 4096, .inr (.inl f3)))] s.heap.size = A at hD hZ ⊢
  have hA : ∀ q : Nat, s.heap.size ≤ q → A q := fun q h => by rw [← hAe]; exact Or.inr h
  have hS : va_S A s.heap s.heap [] := va_S.rf
  have hP : va_P D xcl [(a0, .inr (2, [.ref a1, .int v1, .int v2])), (a1, .inl (cT 2, 4096, .inr (.inl f0))), (a2, .inr (2, [.ref a3, .int v4, .int v5])), (a3, .inl (cT 2, 4096, .inr (.inl f3)))] s.heap := hP
  have hl := lv_entry ([.ref a0, .int x1, .ref a2, .int x3, .int x4]) (n := 10) (Nat.le_of_ble_eq_true rfl)
  rw [lg_entry_eq]
  generalize (lg_sl ([.ref a0, .int x1, .ref a2, .int x3, .int x4]) ++ List.replicate (10 - (lg_sl ([.ref a0, .int x1, .ref a2, .int x3, .int x4])).length) Slot.unset).toArray = ls at hl ⊢
  have hl : lv_has ls 10 [(0, .ref a0), (1, .int x1), (2, .ref a2), (3, .int x3), (4, .int x4)] := hl
  unfold fO_ofArrays at hf
  refine xloopK (σ := Nat × Int32 × Int32 × Int32 × Int32 × Int32 × Int32 × Int32) (fun n x H locs ls => (x.1 = 1 ∧ fO_ofArrays_b rec f0 v1 v2 f3 v4 v5 n x.1 x.2.1 x.2.2.1 x.2.2.2.1 x.2.2.2.2.1 x.2.2.2.2.2.1 x.2.2.2.2.2.2.1 x.2.2.2.2.2.2.2 = some out ∧ va_P D xcl [(a0, .inr (2, [.ref a1, .int v1, .int v2])), (a1, .inl (cT 2, 4096, .inr (.inl f0))), (a2, .inr (2, [.ref a3, .int v4, .int v5])), (a3, .inl (cT 2, 4096, .inr (.inl f3)))] H ∧ va_D A [(a0, .inr (2, [.ref a1, .int v1, .int v2])), (a1, .inl (cT 2, 4096, .inr (.inl f0))), (a2, .inr (2, [.ref a3, .int v4, .int v5])), (a3, .inl (cT 2, 4096, .inr (.inl f3)))] ∧ va_S A s.heap H locs ∧ lv_has ls 10 [(8, .int x.2.1), (7, .int x.2.2.1), (6, .int x.2.2.2.1), (5, .int x.2.2.2.2.1), (0, .ref a0), (1, .int x.2.2.2.2.2.1), (2, .ref a2), (3, .int x.2.2.2.2.2.2.1), (4, .int x.2.2.2.2.2.2.2)])) (fun x => 28) (fun x H locs ls h => by exact absurd h.2.1 (by rw [fO_ofArrays_b]; exact fun h => nomatch h)) (fun n ih x H locs ls hv => ?_) (fun key => ?_)
  · obtain ⟨lb, y8, y7, y6, y5, y1, y3, y4⟩ := x
    rcases hv with ⟨hj, hf, hP, hD, hS, hl⟩
    subst hj
    have hf : fO_ofArrays_b rec f0 v1 v2 f3 v4 v5 (n + 1) 1 y8 y7 y6 y5 y1 y3 y4 = some out := hf
    rw [fO_ofArrays_b] at hf
    obtain ⟨hP, hD⟩ : xPD D xcl A [(a0, .inr (2, [.ref a1, .int v1, .int v2])), (a1, .inl (cT 2, 4096, .inr (.inl f0))), (a2, .inr (2, [.ref a3, .int v4, .int v5])), (a3, .inl (cT 2, 4096, .inr (.inl f3)))] H := ⟨hP, hD⟩
    have hl : lv_has ls 10 [(8, .int y8), (7, .int y7), (6, .int y6), (5, .int y5), (0, .ref a0), (1, .int y1), (2, .ref a2), (3, .int y3), (4, .int y4)] := hl
    refine W.eq (g2 := F0 m 28 ls []) rfl ?_
    refine lv_iload hx hb dO_ofArrays_28 (lv_at hl 0 rfl) ?_
    refine lv_iload hx hb dO_ofArrays_30 (lv_at hl 3 rfl) ?_
    refine lv_icmp_ge (tgt := 80) hx hb dO_ofArrays_32 (by decide) (fun hc => ?_) (fun hc => ?_)
    · rw [if_pos hc] at hf
      refine lv_aload_n hx hb dO_ofArrays_80 rfl (lv_at hl 4 rfl) ?_
      refine lv_iload_n hx hb dO_ofArrays_81 rfl (lv_at hl 5 rfl) ?_
      obtain ⟨o1, hq2, hf⟩ := xbind hf
      obtain ⟨hPc, hDc, hFc⟩ := xcut (wc := [(a0, .inr (2, [.ref a1, .int v1, .int v2])), (a1, .inl (cT 2, 4096, .inr (.inl f0)))]) hP hD hS hA [0, 1] rfl rfl (by decide)
      refine va_calli (va_runV (C := "ValueBench$Row") (As := [.int y1]) (rest := []) ⟨hx, hb, hml, hown, htx⟩ (gR_length l hl9 D cT aK aV H.size n a0 a1 y1 f0 v1 v2 o1 hq2) ⟨callB_of 1 htx (xw_goodC kw_2_191) rfl rfl rfl (htx _ kw_1_4) (htx _ kw_3_178) ⟨by decide, by decide, by decide +kernel⟩ ⟨Nat.le_of_ble_eq_true rfl, Nat.le_of_ble_eq_true rfl⟩, (htx _ kw_2_189), (htx _ kw_2_190)⟩ ⟨xPre_blind, va_recv hK hP (ci := 2) rfl (q0 := 0) rfl, (fun U hU hW => ⟨rfl, xPre_of hZ hS hFc hPc hDc hK U hU hW⟩)⟩ rfl rfl hl.1 rfl (lv_room (Nat.le_of_ble_eq_true rfl)) dO_ofArrays_82 ⟨Nat.le_of_ble_eq_true rfl, Nat.le_of_ble_eq_true rfl⟩) hS (fun q _ h => hFc q h) hFc (fun r3 u9 t H1 locs ht hvm hr9 hB hz1 hk1 hS => ?_)
      obtain ⟨hP1, hK1, hD1⟩ := hB
      rw [ht] at hP1
      obtain ⟨hP, hD⟩ := xjoin (W := [(a2, .inr (2, [.ref a3, .int v4, .int v5])), (a3, .inl (cT 2, 4096, .inr (.inl f3))), (a0, .inr (2, [.ref a1, .int v1, .int v2])), (a1, .inl (cT 2, 4096, .inr (.inl f0)))]) hP hD [0, 1] [2, 3] 2 rfl rfl (by decide) (by decide) hk1 hFc hP1 hD1
      generalize H1 = H at hP hS ⊢
      rw [hr9]
      refine W.eq (g2 := F0 m 85 ls [.int o1]) rfl ?_
      refine lv_aload_n hx hb dO_ofArrays_85 rfl (lv_at hl 6 rfl) ?_
      refine lv_iload_n hx hb dO_ofArrays_86 rfl (lv_at hl 7 rfl) ?_
      obtain ⟨o4, hq5, hf⟩ := xbind hf
      obtain ⟨hPc, hDc, hFc⟩ := xcut (wc := [(a2, .inr (2, [.ref a3, .int v4, .int v5])), (a3, .inl (cT 2, 4096, .inr (.inl f3)))]) hP hD hS hA [0, 1] rfl rfl (by decide)
      refine va_calli (va_runV (C := "ValueBench$Row") (As := [.int y3]) (rest := [.int o1]) ⟨hx, hb, hml, hown, htx⟩ (gR_length l hl9 D cT aK aV H.size n a2 a3 y3 f3 v4 v5 o4 hq5) ⟨callB_of 1 htx (xw_goodC kw_2_191) rfl rfl rfl (htx _ kw_1_4) (htx _ kw_3_178) ⟨by decide, by decide, by decide +kernel⟩ ⟨Nat.le_of_ble_eq_true rfl, Nat.le_of_ble_eq_true rfl⟩, (htx _ kw_2_189), (htx _ kw_2_190)⟩ ⟨xPre_blind, va_recv hK hP (ci := 2) rfl (q0 := 0) rfl, (fun U hU hW => ⟨rfl, xPre_of hZ hS hFc hPc hDc hK U hU hW⟩)⟩ rfl rfl hl.1 rfl (lv_room (Nat.le_of_ble_eq_true rfl)) dO_ofArrays_87 ⟨Nat.le_of_ble_eq_true rfl, Nat.le_of_ble_eq_true rfl⟩) hS (fun q _ h => hFc q h) hFc (fun r6 u9 t H1 locs ht hvm hr9 hB hz1 hk1 hS => ?_)
      obtain ⟨hP1, hK1, hD1⟩ := hB
      rw [ht] at hP1
      obtain ⟨hP, hD⟩ := xjoin (W := [(a0, .inr (2, [.ref a1, .int v1, .int v2])), (a1, .inl (cT 2, 4096, .inr (.inl f0))), (a2, .inr (2, [.ref a3, .int v4, .int v5])), (a3, .inl (cT 2, 4096, .inr (.inl f3)))]) hP hD [0, 1] [2, 3] 2 rfl rfl (by decide) (by decide) hk1 hFc hP1 hD1
      generalize H1 = H at hP hS ⊢
      rw [hr9]
      refine W.eq (g2 := F0 m 90 ls [.int o4, .int o1]) rfl ?_
      obtain ⟨o7, hq8, hf⟩ := xbind hf
      obtain ⟨hPc, hDc, hFc⟩ := xcut (wc := []) hP hD hS hA [] rfl rfl (by decide)
      refine va_calli (va_runS (As := [.int o1, .int o4]) (rest := []) ⟨hx, hb, hml, hown, htx⟩ (gJI_compare l hl9 D cT aK aV H.size n o1 o4 o7 hq8) ⟨callB_of 2 htx (xw_goodC kw_3_169) rfl rfl rfl (htx _ kw_1_24) (htx _ kw_3_167) ⟨by decide, by decide, by decide +kernel⟩ ⟨Nat.le_of_ble_eq_true rfl, Nat.le_of_ble_eq_true rfl⟩, htx _ kw_3_168⟩ ⟨xPre_blind, (fun U hU hW => ⟨rfl, xPre_of hZ hS hFc hPc hDc hK U hU hW⟩)⟩ rfl rfl hl.1 rfl (lv_room (Nat.le_of_ble_eq_true rfl)) dO_ofArrays_90 ⟨Nat.le_of_ble_eq_true rfl, Nat.le_of_ble_eq_true rfl⟩) hS (fun q _ h => hFc q h) hFc (fun r9 u9 t H1 locs ht hvm hr9 hB hz1 hk1 hS => ?_)
      obtain ⟨hP1, hK1, hD1⟩ := hB
      rw [ht] at hP1
      obtain ⟨hP, hD⟩ := xjoin (W := [(a0, .inr (2, [.ref a1, .int v1, .int v2])), (a1, .inl (cT 2, 4096, .inr (.inl f0))), (a2, .inr (2, [.ref a3, .int v4, .int v5])), (a3, .inl (cT 2, 4096, .inr (.inl f3)))]) hP hD [] [0, 1, 2, 3] 4 rfl rfl (by decide) (by decide) hk1 hFc hP1 hD1
      generalize H1 = H at hP hS ⊢
      rw [hr9]
      refine W.eq (g2 := F0 m 93 ls [.int o7]) rfl ?_
      obtain rfl := Option.some.inj hf
      obtain ⟨hP9, hD9⟩ := xsub (wc := [(a0, .inr (2, [.ref a1, .int v1, .int v2])), (a1, .inl (cT 2, 4096, .inr (.inl f0))), (a2, .inr (2, [.ref a3, .int v4, .int v5])), (a3, .inl (cT 2, 4096, .inr (.inl f3)))]) hP hD [0, 1, 2, 3] rfl rfl (by decide)
      exact W.iret (v := o7) hx hb hr (fun t ht hW => ⟨⟨o7, (), rfl, rfl, by rw [ht]; exact hP9, va_K.moved hW.alike hK, hD9⟩, hS.F ht⟩) hS.2.2 dO_ofArrays_93
    · rw [if_neg hc] at hf
      refine lv_aload_n hx hb dO_ofArrays_35 rfl (lv_at hl 4 rfl) ?_
      refine lv_iload hx hb dO_ofArrays_36 (lv_at hl 2 rfl) ?_
      refine lv_aload_n hx hb dO_ofArrays_38 rfl (lv_at hl 6 rfl) ?_
      refine lv_iload hx hb dO_ofArrays_39 (lv_at hl 1 rfl) ?_
      refine lv_iload hx hb dO_ofArrays_41 (lv_at hl 8 rfl) ?_
      refine lv_iconst (v := 1) hx hb dO_ofArrays_43 (by decide) ?_
      refine lv_iadd hx hb dO_ofArrays_44 ?_
      obtain ⟨o1, hq2, hf⟩ := xbind hf
      obtain ⟨hPc, hDc, hFc⟩ := xcut (wc := [(a0, .inr (2, [.ref a1, .int v1, .int v2])), (a1, .inl (cT 2, 4096, .inr (.inl f0))), (a2, .inr (2, [.ref a3, .int v4, .int v5])), (a3, .inl (cT 2, 4096, .inr (.inl f3)))]) hP hD hS hA [0, 1, 2, 3] rfl rfl (by decide)
      refine va_calli (va_runS (As := [.ref a0, .int y6, .ref a2, .int y7, .int (y4 + (1 : Int32))]) (rest := []) ⟨hx, hb, hml, hown, htx⟩ (hrec H.size a0 a1 a2 a3 y6 y7 (y4 + (1 : Int32)) f0 v1 v2 f3 v4 v5 o1 hq2) ⟨callB_of 5 htx (xw_goodC kw_3_165) rfl rfl rfl (htx _ kw_1_23) (htx _ kw_3_163) ⟨by decide, by decide, by decide +kernel⟩ ⟨(by show (fr) + 1 ≤ fr + 1; omega), (by show 8 + (5 + 11) + (lo) ≤ lo + 40; omega)⟩, htx _ kw_3_164⟩ ⟨xPre_blind, (fun U hU hW => ⟨rfl, xPre_of hZ hS hFc hPc hDc hK U hU hW⟩)⟩ rfl rfl hl.1 rfl (lv_room (Nat.le_of_ble_eq_true rfl)) dO_ofArrays_45 ⟨Nat.le_of_ble_eq_true rfl, Nat.le_of_ble_eq_true rfl⟩) hS (fun q _ h => hFc q h) hFc (fun r3 u9 t H1 locs ht hvm hr9 hB hz1 hk1 hS => ?_)
      obtain ⟨hP1, hK1, hD1⟩ := hB
      rw [ht] at hP1
      obtain ⟨hP, hD⟩ := xjoin (W := [(a0, .inr (2, [.ref a1, .int v1, .int v2])), (a1, .inl (cT 2, 4096, .inr (.inl f0))), (a2, .inr (2, [.ref a3, .int v4, .int v5])), (a3, .inl (cT 2, 4096, .inr (.inl f3)))]) hP hD [0, 1, 2, 3] [] 0 rfl rfl (by decide) (by decide) hk1 hFc hP1 hD1
      generalize H1 = H at hP hS ⊢
      rw [hr9]
      refine W.eq (g2 := F0 m 48 ls [.int o1]) rfl ?_
      refine lv_istore (lv' := [(9, .int o1), (8, .int y8), (7, .int y7), (6, .int y6), (5, .int y5), (0, .ref a0), (1, .int y1), (2, .ref a2), (3, .int y3), (4, .int y4)]) hx hb dO_ofArrays_48 hl (by decide) rfl (fun ls hl => ?_)
      refine lv_iload hx hb dO_ofArrays_50 (lv_at hl 0 rfl) ?_
      refine lv_if_eq (tgt := 58) hx hb dO_ofArrays_52 (by decide) (fun hc => ?_) (fun hc => ?_)
      · rw [if_pos hc] at hf
        refine lv_aload_n hx hb dO_ofArrays_58 rfl (lv_at hl 5 rfl) ?_
        refine lv_iload hx hb dO_ofArrays_59 (lv_at hl 3 rfl) ?_
        obtain ⟨o4, hq5, hf⟩ := xbind hf
        obtain ⟨hPc, hDc, hFc⟩ := xcut (wc := [(a0, .inr (2, [.ref a1, .int v1, .int v2])), (a1, .inl (cT 2, 4096, .inr (.inl f0)))]) hP hD hS hA [0, 1] rfl rfl (by decide)
        refine va_calli (va_runV (C := "ValueBench$Row") (As := [.int y6]) (rest := []) ⟨hx, hb, hml, hown, htx⟩ (gR_after l hl9 D cT aK aV H.size n a0 a1 y6 f0 v1 v2 o4 hq5) ⟨callB_of 1 htx (xw_goodC kw_2_196) rfl rfl rfl (htx _ kw_1_4) (htx _ kw_3_180) ⟨by decide, by decide, by decide +kernel⟩ ⟨Nat.le_of_ble_eq_true rfl, Nat.le_of_ble_eq_true rfl⟩, (htx _ kw_2_194), (htx _ kw_2_195)⟩ ⟨xPre_blind, va_recv hK hP (ci := 2) rfl (q0 := 0) rfl, (fun U hU hW => ⟨rfl, xPre_of hZ hS hFc hPc hDc hK U hU hW⟩)⟩ rfl rfl hl.1 rfl (lv_room (Nat.le_of_ble_eq_true rfl)) dO_ofArrays_61 ⟨Nat.le_of_ble_eq_true rfl, Nat.le_of_ble_eq_true rfl⟩) hS (fun q _ h => hFc q h) hFc (fun r6 u9 t H1 locs ht hvm hr9 hB hz1 hk1 hS => ?_)
        obtain ⟨hP1, hK1, hD1⟩ := hB
        rw [ht] at hP1
        obtain ⟨hP, hD⟩ := xjoin (W := [(a2, .inr (2, [.ref a3, .int v4, .int v5])), (a3, .inl (cT 2, 4096, .inr (.inl f3))), (a0, .inr (2, [.ref a1, .int v1, .int v2])), (a1, .inl (cT 2, 4096, .inr (.inl f0)))]) hP hD [0, 1] [2, 3] 2 rfl rfl (by decide) (by decide) hk1 hFc hP1 hD1
        generalize H1 = H at hP hS ⊢
        rw [hr9]
        refine W.eq (g2 := F0 m 64 ls [.int o4]) rfl ?_
        refine lv_istore (lv' := [(6, .int o4), (9, .int o1), (8, .int y8), (7, .int y7), (5, .int y5), (0, .ref a0), (1, .int y1), (2, .ref a2), (3, .int y3), (4, .int y4)]) hx hb dO_ofArrays_64 hl (by decide) rfl (fun ls hl => ?_)
        refine lv_aload_n hx hb dO_ofArrays_66 rfl (lv_at hl 7 rfl) ?_
        refine lv_iload hx hb dO_ofArrays_67 (lv_at hl 3 rfl) ?_
        obtain ⟨o7, hq8, hf⟩ := xbind hf
        obtain ⟨hPc, hDc, hFc⟩ := xcut (wc := [(a2, .inr (2, [.ref a3, .int v4, .int v5])), (a3, .inl (cT 2, 4096, .inr (.inl f3)))]) hP hD hS hA [0, 1] rfl rfl (by decide)
        refine va_calli (va_runV (C := "ValueBench$Row") (As := [.int y7]) (rest := []) ⟨hx, hb, hml, hown, htx⟩ (gR_after l hl9 D cT aK aV H.size n a2 a3 y7 f3 v4 v5 o7 hq8) ⟨callB_of 1 htx (xw_goodC kw_2_196) rfl rfl rfl (htx _ kw_1_4) (htx _ kw_3_180) ⟨by decide, by decide, by decide +kernel⟩ ⟨Nat.le_of_ble_eq_true rfl, Nat.le_of_ble_eq_true rfl⟩, (htx _ kw_2_194), (htx _ kw_2_195)⟩ ⟨xPre_blind, va_recv hK hP (ci := 2) rfl (q0 := 0) rfl, (fun U hU hW => ⟨rfl, xPre_of hZ hS hFc hPc hDc hK U hU hW⟩)⟩ rfl rfl hl.1 rfl (lv_room (Nat.le_of_ble_eq_true rfl)) dO_ofArrays_69 ⟨Nat.le_of_ble_eq_true rfl, Nat.le_of_ble_eq_true rfl⟩) hS (fun q _ h => hFc q h) hFc (fun r9 u9 t H1 locs ht hvm hr9 hB hz1 hk1 hS => ?_)
        obtain ⟨hP1, hK1, hD1⟩ := hB
        rw [ht] at hP1
        obtain ⟨hP, hD⟩ := xjoin (W := [(a0, .inr (2, [.ref a1, .int v1, .int v2])), (a1, .inl (cT 2, 4096, .inr (.inl f0))), (a2, .inr (2, [.ref a3, .int v4, .int v5])), (a3, .inl (cT 2, 4096, .inr (.inl f3)))]) hP hD [0, 1] [2, 3] 2 rfl rfl (by decide) (by decide) hk1 hFc hP1 hD1
        generalize H1 = H at hP hS ⊢
        rw [hr9]
        refine W.eq (g2 := F0 m 72 ls [.int o7]) rfl ?_
        refine lv_istore (lv' := [(7, .int o7), (6, .int o4), (9, .int o1), (8, .int y8), (5, .int y5), (0, .ref a0), (1, .int y1), (2, .ref a2), (3, .int y3), (4, .int y4)]) hx hb dO_ofArrays_72 hl (by decide) rfl (fun ls hl => ?_)
        refine lv_iinc (v := (y8 + 1)) (lv' := [(8, .int (y8 + 1)), (7, .int o7), (6, .int o4), (9, .int o1), (5, .int y5), (0, .ref a0), (1, .int y1), (2, .ref a2), (3, .int y3), (4, .int y4)]) hx hb dO_ofArrays_74 hl (k := 3) rfl rfl (by decide) rfl (fun ls hl => ?_)
        refine lv_goto (tgt := 28) hx hb dO_ofArrays_77 (by decide) ?_
        obtain ⟨hP9, hD9⟩ := xsub (wc := [(a0, .inr (2, [.ref a1, .int v1, .int v2])), (a1, .inl (cT 2, 4096, .inr (.inl f0))), (a2, .inr (2, [.ref a3, .int v4, .int v5])), (a3, .inl (cT 2, 4096, .inr (.inl f3)))]) hP hD [0, 1, 2, 3] rfl rfl (by decide)
        exact ih (1, (y8 + 1), o7, o4, y5, y1, y3, y4) _ _ ls (⟨rfl, hf, hP9, hD9, hS, lv_sub hl [0, 1, 2, 4, 5, 6, 7, 8, 9] rfl⟩)
      · rw [if_neg hc] at hf
        refine lv_iload hx hb dO_ofArrays_55 (lv_at hl 0 rfl) ?_
        obtain rfl := Option.some.inj hf
        obtain ⟨hP9, hD9⟩ := xsub (wc := [(a0, .inr (2, [.ref a1, .int v1, .int v2])), (a1, .inl (cT 2, 4096, .inr (.inl f0))), (a2, .inr (2, [.ref a3, .int v4, .int v5])), (a3, .inl (cT 2, 4096, .inr (.inl f3)))]) hP hD [0, 1, 2, 3] rfl rfl (by decide)
        exact W.iret (v := o1) hx hb hr (fun t ht hW => ⟨⟨o1, (), rfl, rfl, by rw [ht]; exact hP9, va_K.moved hW.alike hK, hD9⟩, hS.F ht⟩) hS.2.2 dO_ofArrays_57
  refine lv_aload_n hx hb dO_ofArrays_0 rfl (lv_at hl 0 rfl) ?_
  refine lv_iload_n hx hb dO_ofArrays_1 rfl (lv_at hl 1 rfl) ?_
  obtain ⟨o1, hq2, hf⟩ := xbind hf
  obtain ⟨hPc, hDc, hFc⟩ := xcut (wc := [(a0, .inr (2, [.ref a1, .int v1, .int v2])), (a1, .inl (cT 2, 4096, .inr (.inl f0)))]) hP hD hS hA [0, 1] rfl rfl (by decide)
  refine va_calli (va_runV (C := "ValueBench$Row") (As := [.int x1]) (rest := []) ⟨hx, hb, hml, hown, htx⟩ (gR_length l hl9 D cT aK aV s.heap.size n a0 a1 x1 f0 v1 v2 o1 hq2) ⟨callB_of 1 htx (xw_goodC kw_2_191) rfl rfl rfl (htx _ kw_1_4) (htx _ kw_3_178) ⟨by decide, by decide, by decide +kernel⟩ ⟨Nat.le_of_ble_eq_true rfl, Nat.le_of_ble_eq_true rfl⟩, (htx _ kw_2_189), (htx _ kw_2_190)⟩ ⟨xPre_blind, va_recv hK hP (ci := 2) rfl (q0 := 0) rfl, (fun U hU hW => ⟨rfl, xPre_of hZ hS hFc hPc hDc hK U hU hW⟩)⟩ rfl rfl hl.1 rfl (lv_room (Nat.le_of_ble_eq_true rfl)) dO_ofArrays_2 ⟨Nat.le_of_ble_eq_true rfl, Nat.le_of_ble_eq_true rfl⟩) hS (fun q _ h => hFc q h) hFc (fun r3 u9 t H1 locs ht hvm hr9 hB hz1 hk1 hS => ?_)
  obtain ⟨hP1, hK1, hD1⟩ := hB
  rw [ht] at hP1
  obtain ⟨hP, hD⟩ := xjoin (W := [(a2, .inr (2, [.ref a3, .int v4, .int v5])), (a3, .inl (cT 2, 4096, .inr (.inl f3))), (a0, .inr (2, [.ref a1, .int v1, .int v2])), (a1, .inl (cT 2, 4096, .inr (.inl f0)))]) hP hD [0, 1] [2, 3] 2 rfl rfl (by decide) (by decide) hk1 hFc hP1 hD1
  generalize H1 = H at hP hS ⊢
  rw [hr9]
  refine W.eq (g2 := F0 m 5 ls [.int o1]) rfl ?_
  refine lv_aload_n hx hb dO_ofArrays_5 rfl (lv_at hl 2 rfl) ?_
  refine lv_iload_n hx hb dO_ofArrays_6 rfl (lv_at hl 3 rfl) ?_
  obtain ⟨o4, hq5, hf⟩ := xbind hf
  obtain ⟨hPc, hDc, hFc⟩ := xcut (wc := [(a2, .inr (2, [.ref a3, .int v4, .int v5])), (a3, .inl (cT 2, 4096, .inr (.inl f3)))]) hP hD hS hA [0, 1] rfl rfl (by decide)
  refine va_calli (va_runV (C := "ValueBench$Row") (As := [.int x3]) (rest := [.int o1]) ⟨hx, hb, hml, hown, htx⟩ (gR_length l hl9 D cT aK aV H.size n a2 a3 x3 f3 v4 v5 o4 hq5) ⟨callB_of 1 htx (xw_goodC kw_2_191) rfl rfl rfl (htx _ kw_1_4) (htx _ kw_3_178) ⟨by decide, by decide, by decide +kernel⟩ ⟨Nat.le_of_ble_eq_true rfl, Nat.le_of_ble_eq_true rfl⟩, (htx _ kw_2_189), (htx _ kw_2_190)⟩ ⟨xPre_blind, va_recv hK hP (ci := 2) rfl (q0 := 0) rfl, (fun U hU hW => ⟨rfl, xPre_of hZ hS hFc hPc hDc hK U hU hW⟩)⟩ rfl rfl hl.1 rfl (lv_room (Nat.le_of_ble_eq_true rfl)) dO_ofArrays_7 ⟨Nat.le_of_ble_eq_true rfl, Nat.le_of_ble_eq_true rfl⟩) hS (fun q _ h => hFc q h) hFc (fun r6 u9 t H1 locs ht hvm hr9 hB hz1 hk1 hS => ?_)
  obtain ⟨hP1, hK1, hD1⟩ := hB
  rw [ht] at hP1
  obtain ⟨hP, hD⟩ := xjoin (W := [(a0, .inr (2, [.ref a1, .int v1, .int v2])), (a1, .inl (cT 2, 4096, .inr (.inl f0))), (a2, .inr (2, [.ref a3, .int v4, .int v5])), (a3, .inl (cT 2, 4096, .inr (.inl f3)))]) hP hD [0, 1] [2, 3] 2 rfl rfl (by decide) (by decide) hk1 hFc hP1 hD1
  generalize H1 = H at hP hS ⊢
  rw [hr9]
  refine W.eq (g2 := F0 m 10 ls [.int o4, .int o1]) rfl ?_
  refine va_mmin hx hb (hml.trans hl.1.symm) hown (htx _ kw_3_179) (htx _ kw_2_3) (htx _ kw_1_15) (htx _ kw_2_4) (Nat.le_of_ble_eq_true rfl) (Nat.le_of_ble_eq_true rfl) (Nat.le_of_ble_eq_true rfl) (Nat.le_of_ble_eq_true rfl) dO_ofArrays_10 ?_
  refine W.eq (g2 := F0 m 13 ls [.int (if o4 < o1 then o4 else o1)]) rfl ?_
  refine lv_istore (lv' := [(5, .int (if o4 < o1 then o4 else o1)), (0, .ref a0), (1, .int x1), (2, .ref a2), (3, .int x3), (4, .int x4)]) hx hb dO_ofArrays_13 hl (by decide) rfl (fun ls hl => ?_)
  refine lv_iload_n hx hb dO_ofArrays_15 rfl (lv_at hl 2 rfl) ?_
  refine lv_iconst (v := 1) hx hb dO_ofArrays_16 (by decide) ?_
  refine lv_iadd hx hb dO_ofArrays_17 ?_
  refine lv_istore (lv' := [(6, .int (x1 + (1 : Int32))), (5, .int (if o4 < o1 then o4 else o1)), (0, .ref a0), (1, .int x1), (2, .ref a2), (3, .int x3), (4, .int x4)]) hx hb dO_ofArrays_18 hl (by decide) rfl (fun ls hl => ?_)
  refine lv_iload_n hx hb dO_ofArrays_20 rfl (lv_at hl 5 rfl) ?_
  refine lv_iconst (v := 1) hx hb dO_ofArrays_21 (by decide) ?_
  refine lv_iadd hx hb dO_ofArrays_22 ?_
  refine lv_istore (lv' := [(7, .int (x3 + (1 : Int32))), (6, .int (x1 + (1 : Int32))), (5, .int (if o4 < o1 then o4 else o1)), (0, .ref a0), (1, .int x1), (2, .ref a2), (3, .int x3), (4, .int x4)]) hx hb dO_ofArrays_23 hl (by decide) rfl (fun ls hl => ?_)
  refine lv_iconst (v := 0) hx hb dO_ofArrays_25 (by decide) ?_
  refine lv_istore (lv' := [(8, .int 0), (7, .int (x3 + (1 : Int32))), (6, .int (x1 + (1 : Int32))), (5, .int (if o4 < o1 then o4 else o1)), (0, .ref a0), (1, .int x1), (2, .ref a2), (3, .int x3), (4, .int x4)]) hx hb dO_ofArrays_26 hl (by decide) rfl (fun ls hl => ?_)
  obtain ⟨hP9, hD9⟩ := xsub (wc := [(a0, .inr (2, [.ref a1, .int v1, .int v2])), (a1, .inl (cT 2, 4096, .inr (.inl f0))), (a2, .inr (2, [.ref a3, .int v4, .int v5])), (a3, .inl (cT 2, 4096, .inr (.inl f3)))]) hP hD [0, 1, 2, 3] rfl rfl (by decide)
  exact key n (1, 0, (x3 + (1 : Int32)), (x1 + (1 : Int32)), (if o4 < o1 then o4 else o1), x1, x3, x4) _ _ ls (⟨rfl, hf, hP9, hD9, hS, lv_sub hl [0, 1, 2, 3, 4, 5, 6, 7, 8] rfl⟩)
set_option maxHeartbeats 400000000 in
set_option maxRecDepth 100000 in
theorem gO_nextName (l : Launch) (hl9 : l.stackTraces = false) (D : va_G) (cT : Nat → ClassId) (aK aV : Nat → Nat) (sz n : Nat) (a0 : Nat) (a1 : Nat) (x1 : Int32) (x2 : Int32) (f0 : Nat → Int64) (v1 : Int32) (v2 : Int32) (out : Int32) (hf : fO_nextName n x1 x2 f0 v1 v2 = some out) : xMet l yO_nextName wyO_nextName 1 0 0 29 D cT aK aV sz [.ref a0, .int x1, .int x2] [(a0, .inr (2, [.ref a1, .int v1, .int v2])), (a1, .inl (cT 2, 4096, .inr (.inl f0)))] (fun A => va_Qi (fun (r : Int32) (_ : Unit) => r = out) (fun _ t => xB D xcl cT A [(a0, .inr (2, [.ref a1, .int v1, .int v2])), (a1, .inl (cT 2, 4096, .inr (.inl f0)))] t) A) := by
  refine Met.ofW (cc := prog_4_method_6_code) (maxL := 7) (ret := (some .int)) (by decide) rfl ?_
  intro p e s m args below meth c s₁ B hml hv
  obtain ⟨rfl, hsz, hZ, hP, hK, hD0⟩ := hv
  have hx := B.exec
  have hb := B.bytes
  have hr := B.returns
  have hts := atoms_spec (ws := wyO_nextName) B.pre
  have htx := fun w h => hts w (List.mem_cons_of_mem _ h)
  have hown : s.vm.findClass "ValueBench$Order" = some m.cls := findClass_of_methodNamed B.named
  have hlocks := B.notSynchronized
  subst hsz
  have hD := hD0.self (sz := s.heap.size)
  generalize hAe : va_A [(a0, .inr (2, [.ref a1, .int v1, .int v2])), (a1, .inl (cT 2, 4096, .inr (.inl f0)))] s.heap.size = A at hD hZ ⊢
  have hA : ∀ q : Nat, s.heap.size ≤ q → A q := fun q h => by rw [← hAe]; exact Or.inr h
  have hS : va_S A s.heap s.heap [] := va_S.rf
  have hP : va_P D xcl [(a0, .inr (2, [.ref a1, .int v1, .int v2])), (a1, .inl (cT 2, 4096, .inr (.inl f0)))] s.heap := hP
  have hl := lv_entry ([.ref a0, .int x1, .int x2]) (n := 7) (Nat.le_of_ble_eq_true rfl)
  rw [lg_entry_eq]
  generalize (lg_sl ([.ref a0, .int x1, .int x2]) ++ List.replicate (7 - (lg_sl ([.ref a0, .int x1, .int x2])).length) Slot.unset).toArray = ls at hl ⊢
  have hl : lv_has ls 7 [(0, .ref a0), (1, .int x1), (2, .int x2)] := hl
  unfold fO_nextName at hf
  refine xloopK (σ := Nat × Int32 × Int32 × Int32 × Int32 × Int32) (fun n x H locs ls => (x.1 = 1 ∧ fO_nextName_b f0 v1 v2 n x.1 x.2.1 x.2.2.1 x.2.2.2.1 x.2.2.2.2.1 x.2.2.2.2.2 = some out ∧ va_P D xcl [(a0, .inr (2, [.ref a1, .int v1, .int v2])), (a1, .inl (cT 2, 4096, .inr (.inl f0)))] H ∧ va_D A [(a0, .inr (2, [.ref a1, .int v1, .int v2])), (a1, .inl (cT 2, 4096, .inr (.inl f0)))] ∧ va_S A s.heap H locs ∧ lv_has ls 7 [(5, .int x.2.1), (4, .int x.2.2.1), (3, .int x.2.2.2.1), (0, .ref a0), (1, .int x.2.2.2.2.1), (2, .int x.2.2.2.2.2)])) (fun x => 10) (fun x H locs ls h => by exact absurd h.2.1 (by rw [fO_nextName_b]; exact fun h => nomatch h)) (fun n ih x H locs ls hv => ?_) (fun key => ?_)
  · obtain ⟨lb, y5, y4, y3, y1, y2⟩ := x
    rcases hv with ⟨hj, hf, hP, hD, hS, hl⟩
    subst hj
    have hf : fO_nextName_b f0 v1 v2 (n + 1) 1 y5 y4 y3 y1 y2 = some out := hf
    rw [fO_nextName_b] at hf
    obtain ⟨hP, hD⟩ : xPD D xcl A [(a0, .inr (2, [.ref a1, .int v1, .int v2])), (a1, .inl (cT 2, 4096, .inr (.inl f0)))] H := ⟨hP, hD⟩
    have hl : lv_has ls 7 [(5, .int y5), (4, .int y4), (3, .int y3), (0, .ref a0), (1, .int y1), (2, .int y2)] := hl
    refine W.eq (g2 := F0 m 10 ls []) rfl ?_
    refine lv_iload hx hb dO_nextName_10 (lv_at hl 0 rfl) ?_
    refine lv_aload_n hx hb dO_nextName_12 rfl (lv_at hl 3 rfl) ?_
    refine lv_iload_n hx hb dO_nextName_13 rfl (lv_at hl 4 rfl) ?_
    obtain ⟨o1, hq2, hf⟩ := xbind hf
    obtain ⟨hPc, hDc, hFc⟩ := xcut (wc := [(a0, .inr (2, [.ref a1, .int v1, .int v2])), (a1, .inl (cT 2, 4096, .inr (.inl f0)))]) hP hD hS hA [0, 1] rfl rfl (by decide)
    refine va_calli (va_runV (C := "ValueBench$Row") (As := [.int y1]) (rest := [.int y5]) ⟨hx, hb, hml, hown, htx⟩ (gR_length l hl9 D cT aK aV H.size n a0 a1 y1 f0 v1 v2 o1 hq2) ⟨callB_of 1 htx (xw_goodC kw_2_191) rfl rfl rfl (htx _ kw_1_4) (htx _ kw_3_178) ⟨by decide, by decide, by decide +kernel⟩ ⟨Nat.le_of_ble_eq_true rfl, Nat.le_of_ble_eq_true rfl⟩, (htx _ kw_2_189), (htx _ kw_2_190)⟩ ⟨xPre_blind, va_recv hK hP (ci := 2) rfl (q0 := 0) rfl, (fun U hU hW => ⟨rfl, xPre_of hZ hS hFc hPc hDc hK U hU hW⟩)⟩ rfl rfl hl.1 rfl (lv_room (Nat.le_of_ble_eq_true rfl)) dO_nextName_14 ⟨Nat.le_of_ble_eq_true rfl, Nat.le_of_ble_eq_true rfl⟩) hS (fun q _ h => hFc q h) hFc (fun r3 u9 t H1 locs ht hvm hr9 hB hz1 hk1 hS => ?_)
    obtain ⟨hP1, hK1, hD1⟩ := hB
    rw [ht] at hP1
    obtain ⟨hP, hD⟩ := xjoin (W := [(a0, .inr (2, [.ref a1, .int v1, .int v2])), (a1, .inl (cT 2, 4096, .inr (.inl f0)))]) hP hD [0, 1] [] 0 rfl rfl (by decide) (by decide) hk1 hFc hP1 hD1
    generalize H1 = H at hP hS ⊢
    rw [hr9]
    refine W.eq (g2 := F0 m 17 ls [.int o1, .int y5]) rfl ?_
    refine lv_icmp_ge (tgt := 85) hx hb dO_nextName_17 (by decide) (fun hc => ?_) (fun hc => ?_)
    · rw [if_pos hc] at hf
      refine lv_iload_n hx hb dO_nextName_85 rfl (lv_at hl 2 rfl) ?_
      obtain rfl := Option.some.inj hf
      obtain ⟨hP9, hD9⟩ := xsub (wc := [(a0, .inr (2, [.ref a1, .int v1, .int v2])), (a1, .inl (cT 2, 4096, .inr (.inl f0)))]) hP hD [0, 1] rfl rfl (by decide)
      exact W.iret (v := y3) hx hb hr (fun t ht hW => ⟨⟨y3, (), rfl, rfl, by rw [ht]; exact hP9, va_K.moved hW.alike hK, hD9⟩, hS.F ht⟩) hS.2.2 dO_nextName_86
    · rw [if_neg hc] at hf
      refine lv_iload_n hx hb dO_nextName_20 rfl (lv_at hl 5 rfl) ?_
      refine lv_iconst (v := (-1)) hx hb dO_nextName_21 (by decide) ?_
      refine lv_icmp_eq (tgt := 36) hx hb dO_nextName_22 (by decide) (fun hc => ?_) (fun hc => ?_)
      · rw [if_pos hc] at hf
        refine lv_iconst (v := 1) hx hb dO_nextName_36 (by decide) ?_
        refine lv_goto (tgt := 41) hx hb dO_nextName_37 (by decide) ?_
        refine lv_istore (lv' := [(6, .int 1), (5, .int y5), (4, .int y4), (3, .int y3), (0, .ref a0), (1, .int y1), (2, .int y2)]) hx hb dO_nextName_41 hl (by decide) rfl (fun ls hl => ?_)
        refine lv_iload hx hb dO_nextName_43 (lv_at hl 0 rfl) ?_
        refine lv_if_eq (tgt := 67) hx hb dO_nextName_45 (by decide) (fun h => ((by revert h; decide : False)).elim) (fun _ => ?_)
        refine lv_iload_n hx hb dO_nextName_48 rfl (lv_at hl 3 rfl) ?_
        refine lv_iconst (v := (-1)) hx hb dO_nextName_49 (by decide) ?_
        refine lv_icmp_eq (tgt := 64) hx hb dO_nextName_50 (by decide) (fun hc => ?_) (fun hc => ?_)
        · rw [if_pos hc] at hf
          refine lv_iload hx hb dO_nextName_64 (lv_at hl 2 rfl) ?_
          refine lv_istore_n (lv' := [(3, .int y4), (6, .int 1), (5, .int y5), (4, .int y4), (0, .ref a0), (1, .int y1), (2, .int y2)]) hx hb dO_nextName_66 rfl hl (by decide) rfl (fun ls hl => ?_)
          refine lv_aload_n hx hb dO_nextName_67 rfl (lv_at hl 4 rfl) ?_
          refine lv_aload_n hx hb dO_nextName_68 rfl (lv_at hl 4 rfl) ?_
          refine lv_iload hx hb dO_nextName_69 (lv_at hl 3 rfl) ?_
          obtain ⟨o4, hq5, hf⟩ := xbind hf
          obtain ⟨hPc, hDc, hFc⟩ := xcut (wc := [(a0, .inr (2, [.ref a1, .int v1, .int v2])), (a1, .inl (cT 2, 4096, .inr (.inl f0)))]) hP hD hS hA [0, 1] rfl rfl (by decide)
          refine va_calli (va_runV (C := "ValueBench$Row") (As := [.int y4]) (rest := [.ref a0]) ⟨hx, hb, hml, hown, htx⟩ (gR_after l hl9 D cT aK aV H.size n a0 a1 y4 f0 v1 v2 o4 hq5) ⟨callB_of 1 htx (xw_goodC kw_2_196) rfl rfl rfl (htx _ kw_1_4) (htx _ kw_3_180) ⟨by decide, by decide, by decide +kernel⟩ ⟨Nat.le_of_ble_eq_true rfl, Nat.le_of_ble_eq_true rfl⟩, (htx _ kw_2_194), (htx _ kw_2_195)⟩ ⟨xPre_blind, va_recv hK hP (ci := 2) rfl (q0 := 0) rfl, (fun U hU hW => ⟨rfl, xPre_of hZ hS hFc hPc hDc hK U hU hW⟩)⟩ rfl rfl hl.1 rfl (lv_room (Nat.le_of_ble_eq_true rfl)) dO_nextName_71 ⟨Nat.le_of_ble_eq_true rfl, Nat.le_of_ble_eq_true rfl⟩) hS (fun q _ h => hFc q h) hFc (fun r6 u9 t H1 locs ht hvm hr9 hB hz1 hk1 hS => ?_)
          obtain ⟨hP1, hK1, hD1⟩ := hB
          rw [ht] at hP1
          obtain ⟨hP, hD⟩ := xjoin (W := [(a0, .inr (2, [.ref a1, .int v1, .int v2])), (a1, .inl (cT 2, 4096, .inr (.inl f0)))]) hP hD [0, 1] [] 0 rfl rfl (by decide) (by decide) hk1 hFc hP1 hD1
          generalize H1 = H at hP hS ⊢
          rw [hr9]
          refine W.eq (g2 := F0 m 74 ls [.int o4, .ref a0]) rfl ?_
          obtain ⟨o7, hq8, hf⟩ := xbind hf
          obtain ⟨hPc, hDc, hFc⟩ := xcut (wc := [(a0, .inr (2, [.ref a1, .int v1, .int v2])), (a1, .inl (cT 2, 4096, .inr (.inl f0)))]) hP hD hS hA [0, 1] rfl rfl (by decide)
          refine va_calli (va_runV (C := "ValueBench$Row") (As := [.int o4]) (rest := []) ⟨hx, hb, hml, hown, htx⟩ (gR_after l hl9 D cT aK aV H.size n a0 a1 o4 f0 v1 v2 o7 hq8) ⟨callB_of 1 htx (xw_goodC kw_2_196) rfl rfl rfl (htx _ kw_1_4) (htx _ kw_3_180) ⟨by decide, by decide, by decide +kernel⟩ ⟨Nat.le_of_ble_eq_true rfl, Nat.le_of_ble_eq_true rfl⟩, (htx _ kw_2_194), (htx _ kw_2_195)⟩ ⟨xPre_blind, va_recv hK hP (ci := 2) rfl (q0 := 0) rfl, (fun U hU hW => ⟨rfl, xPre_of hZ hS hFc hPc hDc hK U hU hW⟩)⟩ rfl rfl hl.1 rfl (lv_room (Nat.le_of_ble_eq_true rfl)) dO_nextName_74 ⟨Nat.le_of_ble_eq_true rfl, Nat.le_of_ble_eq_true rfl⟩) hS (fun q _ h => hFc q h) hFc (fun r9 u9 t H1 locs ht hvm hr9 hB hz1 hk1 hS => ?_)
          obtain ⟨hP1, hK1, hD1⟩ := hB
          rw [ht] at hP1
          obtain ⟨hP, hD⟩ := xjoin (W := [(a0, .inr (2, [.ref a1, .int v1, .int v2])), (a1, .inl (cT 2, 4096, .inr (.inl f0)))]) hP hD [0, 1] [] 0 rfl rfl (by decide) (by decide) hk1 hFc hP1 hD1
          generalize H1 = H at hP hS ⊢
          rw [hr9]
          refine W.eq (g2 := F0 m 77 ls [.int o7]) rfl ?_
          refine lv_istore (lv' := [(4, .int o7), (3, .int y4), (6, .int 1), (5, .int y5), (0, .ref a0), (1, .int y1), (2, .int y2)]) hx hb dO_nextName_77 hl (by decide) rfl (fun ls hl => ?_)
          refine lv_iinc (v := (y5 + 1)) (lv' := [(5, .int (y5 + 1)), (4, .int o7), (3, .int y4), (6, .int 1), (0, .ref a0), (1, .int y1), (2, .int y2)]) hx hb dO_nextName_79 hl (k := 3) rfl rfl (by decide) rfl (fun ls hl => ?_)
          refine lv_goto (tgt := 10) hx hb dO_nextName_82 (by decide) ?_
          obtain ⟨hP9, hD9⟩ := xsub (wc := [(a0, .inr (2, [.ref a1, .int v1, .int v2])), (a1, .inl (cT 2, 4096, .inr (.inl f0)))]) hP hD [0, 1] rfl rfl (by decide)
          exact ih (1, (y5 + 1), o7, y4, y1, y2) _ _ ls (⟨rfl, hf, hP9, hD9, hS, lv_sub hl [0, 1, 2, 4, 5, 6] rfl⟩)
        · rw [if_neg hc] at hf
          refine lv_aload_n hx hb dO_nextName_53 rfl (lv_at hl 4 rfl) ?_
          refine lv_iload hx hb dO_nextName_54 (lv_at hl 2 rfl) ?_
          refine lv_aload_n hx hb dO_nextName_56 rfl (lv_at hl 4 rfl) ?_
          refine lv_iload_n hx hb dO_nextName_57 rfl (lv_at hl 3 rfl) ?_
          obtain ⟨o4, hq5, hf⟩ := xbind hf
          obtain ⟨hPc, hDc, hFc⟩ := xcut (wc := [(a0, .inr (2, [.ref a1, .int v1, .int v2])), (a1, .inl (cT 2, 4096, .inr (.inl f0)))]) hP hD hS hA [0, 1] rfl rfl (by decide)
          refine va_calli (va_runV (C := "ValueBench$Row") (As := [.int y4, .ref a0, .int y3]) (rest := []) ⟨hx, hb, hml, hown, htx⟩ (gR_orderOfStrings l hl9 D cT aK aV H.size n a0 a1 y4 y3 f0 v1 v2 o4 hq5) ⟨callB_of 3 htx (xw_goodC kw_2_206) rfl rfl rfl (htx _ kw_1_4) (htx _ kw_3_174) ⟨by decide, by decide, by decide +kernel⟩ ⟨Nat.le_of_ble_eq_true rfl, Nat.le_of_ble_eq_true rfl⟩, (htx _ kw_2_204), (htx _ kw_2_205)⟩ ⟨xPre_blind, va_recv hK hP (ci := 2) rfl (q0 := 0) rfl, (fun U hU hW => ⟨rfl, xPre_of hZ hS hFc hPc hDc hK U hU hW⟩)⟩ rfl rfl hl.1 rfl (lv_room (Nat.le_of_ble_eq_true rfl)) dO_nextName_58 ⟨Nat.le_of_ble_eq_true rfl, Nat.le_of_ble_eq_true rfl⟩) hS (fun q _ h => hFc q h) hFc (fun r6 u9 t H1 locs ht hvm hr9 hB hz1 hk1 hS => ?_)
          obtain ⟨hP1, hK1, hD1⟩ := hB
          rw [ht] at hP1
          obtain ⟨hP, hD⟩ := xjoin (W := [(a0, .inr (2, [.ref a1, .int v1, .int v2])), (a1, .inl (cT 2, 4096, .inr (.inl f0)))]) hP hD [0, 1] [] 0 rfl rfl (by decide) (by decide) hk1 hFc hP1 hD1
          generalize H1 = H at hP hS ⊢
          rw [hr9]
          refine W.eq (g2 := F0 m 61 ls [.int o4]) rfl ?_
          refine lv_if_ge (tgt := 67) hx hb dO_nextName_61 (by decide) (fun hc => ?_) (fun hc => ?_)
          · rw [if_pos hc] at hf
            refine lv_aload_n hx hb dO_nextName_67 rfl (lv_at hl 4 rfl) ?_
            refine lv_aload_n hx hb dO_nextName_68 rfl (lv_at hl 4 rfl) ?_
            refine lv_iload hx hb dO_nextName_69 (lv_at hl 2 rfl) ?_
            obtain ⟨o7, hq8, hf⟩ := xbind hf
            obtain ⟨hPc, hDc, hFc⟩ := xcut (wc := [(a0, .inr (2, [.ref a1, .int v1, .int v2])), (a1, .inl (cT 2, 4096, .inr (.inl f0)))]) hP hD hS hA [0, 1] rfl rfl (by decide)
            refine va_calli (va_runV (C := "ValueBench$Row") (As := [.int y4]) (rest := [.ref a0]) ⟨hx, hb, hml, hown, htx⟩ (gR_after l hl9 D cT aK aV H.size n a0 a1 y4 f0 v1 v2 o7 hq8) ⟨callB_of 1 htx (xw_goodC kw_2_196) rfl rfl rfl (htx _ kw_1_4) (htx _ kw_3_180) ⟨by decide, by decide, by decide +kernel⟩ ⟨Nat.le_of_ble_eq_true rfl, Nat.le_of_ble_eq_true rfl⟩, (htx _ kw_2_194), (htx _ kw_2_195)⟩ ⟨xPre_blind, va_recv hK hP (ci := 2) rfl (q0 := 0) rfl, (fun U hU hW => ⟨rfl, xPre_of hZ hS hFc hPc hDc hK U hU hW⟩)⟩ rfl rfl hl.1 rfl (lv_room (Nat.le_of_ble_eq_true rfl)) dO_nextName_71 ⟨Nat.le_of_ble_eq_true rfl, Nat.le_of_ble_eq_true rfl⟩) hS (fun q _ h => hFc q h) hFc (fun r9 u9 t H1 locs ht hvm hr9 hB hz1 hk1 hS => ?_)
            obtain ⟨hP1, hK1, hD1⟩ := hB
            rw [ht] at hP1
            obtain ⟨hP, hD⟩ := xjoin (W := [(a0, .inr (2, [.ref a1, .int v1, .int v2])), (a1, .inl (cT 2, 4096, .inr (.inl f0)))]) hP hD [0, 1] [] 0 rfl rfl (by decide) (by decide) hk1 hFc hP1 hD1
            generalize H1 = H at hP hS ⊢
            rw [hr9]
            refine W.eq (g2 := F0 m 74 ls [.int o7, .ref a0]) rfl ?_
            obtain ⟨o10, hq11, hf⟩ := xbind hf
            obtain ⟨hPc, hDc, hFc⟩ := xcut (wc := [(a0, .inr (2, [.ref a1, .int v1, .int v2])), (a1, .inl (cT 2, 4096, .inr (.inl f0)))]) hP hD hS hA [0, 1] rfl rfl (by decide)
            refine va_calli (va_runV (C := "ValueBench$Row") (As := [.int o7]) (rest := []) ⟨hx, hb, hml, hown, htx⟩ (gR_after l hl9 D cT aK aV H.size n a0 a1 o7 f0 v1 v2 o10 hq11) ⟨callB_of 1 htx (xw_goodC kw_2_196) rfl rfl rfl (htx _ kw_1_4) (htx _ kw_3_180) ⟨by decide, by decide, by decide +kernel⟩ ⟨Nat.le_of_ble_eq_true rfl, Nat.le_of_ble_eq_true rfl⟩, (htx _ kw_2_194), (htx _ kw_2_195)⟩ ⟨xPre_blind, va_recv hK hP (ci := 2) rfl (q0 := 0) rfl, (fun U hU hW => ⟨rfl, xPre_of hZ hS hFc hPc hDc hK U hU hW⟩)⟩ rfl rfl hl.1 rfl (lv_room (Nat.le_of_ble_eq_true rfl)) dO_nextName_74 ⟨Nat.le_of_ble_eq_true rfl, Nat.le_of_ble_eq_true rfl⟩) hS (fun q _ h => hFc q h) hFc (fun r12 u9 t H1 locs ht hvm hr9 hB hz1 hk1 hS => ?_)
            obtain ⟨hP1, hK1, hD1⟩ := hB
            rw [ht] at hP1
            obtain ⟨hP, hD⟩ := xjoin (W := [(a0, .inr (2, [.ref a1, .int v1, .int v2])), (a1, .inl (cT 2, 4096, .inr (.inl f0)))]) hP hD [0, 1] [] 0 rfl rfl (by decide) (by decide) hk1 hFc hP1 hD1
            generalize H1 = H at hP hS ⊢
            rw [hr9]
            refine W.eq (g2 := F0 m 77 ls [.int o10]) rfl ?_
            refine lv_istore (lv' := [(4, .int o10), (6, .int 1), (5, .int y5), (3, .int y3), (0, .ref a0), (1, .int y1), (2, .int y2)]) hx hb dO_nextName_77 hl (by decide) rfl (fun ls hl => ?_)
            refine lv_iinc (v := (y5 + 1)) (lv' := [(5, .int (y5 + 1)), (4, .int o10), (6, .int 1), (3, .int y3), (0, .ref a0), (1, .int y1), (2, .int y2)]) hx hb dO_nextName_79 hl (k := 2) rfl rfl (by decide) rfl (fun ls hl => ?_)
            refine lv_goto (tgt := 10) hx hb dO_nextName_82 (by decide) ?_
            obtain ⟨hP9, hD9⟩ := xsub (wc := [(a0, .inr (2, [.ref a1, .int v1, .int v2])), (a1, .inl (cT 2, 4096, .inr (.inl f0)))]) hP hD [0, 1] rfl rfl (by decide)
            exact ih (1, (y5 + 1), o10, y3, y1, y2) _ _ ls (⟨rfl, hf, hP9, hD9, hS, lv_sub hl [0, 1, 3, 4, 5, 6] rfl⟩)
          · rw [if_neg hc] at hf
            refine lv_iload hx hb dO_nextName_64 (lv_at hl 2 rfl) ?_
            refine lv_istore_n (lv' := [(3, .int y4), (6, .int 1), (5, .int y5), (4, .int y4), (0, .ref a0), (1, .int y1), (2, .int y2)]) hx hb dO_nextName_66 rfl hl (by decide) rfl (fun ls hl => ?_)
            refine lv_aload_n hx hb dO_nextName_67 rfl (lv_at hl 4 rfl) ?_
            refine lv_aload_n hx hb dO_nextName_68 rfl (lv_at hl 4 rfl) ?_
            refine lv_iload hx hb dO_nextName_69 (lv_at hl 3 rfl) ?_
            obtain ⟨o7, hq8, hf⟩ := xbind hf
            obtain ⟨hPc, hDc, hFc⟩ := xcut (wc := [(a0, .inr (2, [.ref a1, .int v1, .int v2])), (a1, .inl (cT 2, 4096, .inr (.inl f0)))]) hP hD hS hA [0, 1] rfl rfl (by decide)
            refine va_calli (va_runV (C := "ValueBench$Row") (As := [.int y4]) (rest := [.ref a0]) ⟨hx, hb, hml, hown, htx⟩ (gR_after l hl9 D cT aK aV H.size n a0 a1 y4 f0 v1 v2 o7 hq8) ⟨callB_of 1 htx (xw_goodC kw_2_196) rfl rfl rfl (htx _ kw_1_4) (htx _ kw_3_180) ⟨by decide, by decide, by decide +kernel⟩ ⟨Nat.le_of_ble_eq_true rfl, Nat.le_of_ble_eq_true rfl⟩, (htx _ kw_2_194), (htx _ kw_2_195)⟩ ⟨xPre_blind, va_recv hK hP (ci := 2) rfl (q0 := 0) rfl, (fun U hU hW => ⟨rfl, xPre_of hZ hS hFc hPc hDc hK U hU hW⟩)⟩ rfl rfl hl.1 rfl (lv_room (Nat.le_of_ble_eq_true rfl)) dO_nextName_71 ⟨Nat.le_of_ble_eq_true rfl, Nat.le_of_ble_eq_true rfl⟩) hS (fun q _ h => hFc q h) hFc (fun r9 u9 t H1 locs ht hvm hr9 hB hz1 hk1 hS => ?_)
            obtain ⟨hP1, hK1, hD1⟩ := hB
            rw [ht] at hP1
            obtain ⟨hP, hD⟩ := xjoin (W := [(a0, .inr (2, [.ref a1, .int v1, .int v2])), (a1, .inl (cT 2, 4096, .inr (.inl f0)))]) hP hD [0, 1] [] 0 rfl rfl (by decide) (by decide) hk1 hFc hP1 hD1
            generalize H1 = H at hP hS ⊢
            rw [hr9]
            refine W.eq (g2 := F0 m 74 ls [.int o7, .ref a0]) rfl ?_
            obtain ⟨o10, hq11, hf⟩ := xbind hf
            obtain ⟨hPc, hDc, hFc⟩ := xcut (wc := [(a0, .inr (2, [.ref a1, .int v1, .int v2])), (a1, .inl (cT 2, 4096, .inr (.inl f0)))]) hP hD hS hA [0, 1] rfl rfl (by decide)
            refine va_calli (va_runV (C := "ValueBench$Row") (As := [.int o7]) (rest := []) ⟨hx, hb, hml, hown, htx⟩ (gR_after l hl9 D cT aK aV H.size n a0 a1 o7 f0 v1 v2 o10 hq11) ⟨callB_of 1 htx (xw_goodC kw_2_196) rfl rfl rfl (htx _ kw_1_4) (htx _ kw_3_180) ⟨by decide, by decide, by decide +kernel⟩ ⟨Nat.le_of_ble_eq_true rfl, Nat.le_of_ble_eq_true rfl⟩, (htx _ kw_2_194), (htx _ kw_2_195)⟩ ⟨xPre_blind, va_recv hK hP (ci := 2) rfl (q0 := 0) rfl, (fun U hU hW => ⟨rfl, xPre_of hZ hS hFc hPc hDc hK U hU hW⟩)⟩ rfl rfl hl.1 rfl (lv_room (Nat.le_of_ble_eq_true rfl)) dO_nextName_74 ⟨Nat.le_of_ble_eq_true rfl, Nat.le_of_ble_eq_true rfl⟩) hS (fun q _ h => hFc q h) hFc (fun r12 u9 t H1 locs ht hvm hr9 hB hz1 hk1 hS => ?_)
            obtain ⟨hP1, hK1, hD1⟩ := hB
            rw [ht] at hP1
            obtain ⟨hP, hD⟩ := xjoin (W := [(a0, .inr (2, [.ref a1, .int v1, .int v2])), (a1, .inl (cT 2, 4096, .inr (.inl f0)))]) hP hD [0, 1] [] 0 rfl rfl (by decide) (by decide) hk1 hFc hP1 hD1
            generalize H1 = H at hP hS ⊢
            rw [hr9]
            refine W.eq (g2 := F0 m 77 ls [.int o10]) rfl ?_
            refine lv_istore (lv' := [(4, .int o10), (3, .int y4), (6, .int 1), (5, .int y5), (0, .ref a0), (1, .int y1), (2, .int y2)]) hx hb dO_nextName_77 hl (by decide) rfl (fun ls hl => ?_)
            refine lv_iinc (v := (y5 + 1)) (lv' := [(5, .int (y5 + 1)), (4, .int o10), (3, .int y4), (6, .int 1), (0, .ref a0), (1, .int y1), (2, .int y2)]) hx hb dO_nextName_79 hl (k := 3) rfl rfl (by decide) rfl (fun ls hl => ?_)
            refine lv_goto (tgt := 10) hx hb dO_nextName_82 (by decide) ?_
            obtain ⟨hP9, hD9⟩ := xsub (wc := [(a0, .inr (2, [.ref a1, .int v1, .int v2])), (a1, .inl (cT 2, 4096, .inr (.inl f0)))]) hP hD [0, 1] rfl rfl (by decide)
            exact ih (1, (y5 + 1), o10, y4, y1, y2) _ _ ls (⟨rfl, hf, hP9, hD9, hS, lv_sub hl [0, 1, 2, 4, 5, 6] rfl⟩)
      · rw [if_neg hc] at hf
        refine lv_aload_n hx hb dO_nextName_25 rfl (lv_at hl 3 rfl) ?_
        refine lv_iload hx hb dO_nextName_26 (lv_at hl 1 rfl) ?_
        refine lv_aload_n hx hb dO_nextName_28 rfl (lv_at hl 3 rfl) ?_
        refine lv_iload_n hx hb dO_nextName_29 rfl (lv_at hl 5 rfl) ?_
        obtain ⟨o4, hq5, hf⟩ := xbind hf
        obtain ⟨hPc, hDc, hFc⟩ := xcut (wc := [(a0, .inr (2, [.ref a1, .int v1, .int v2])), (a1, .inl (cT 2, 4096, .inr (.inl f0)))]) hP hD hS hA [0, 1] rfl rfl (by decide)
        refine va_calli (va_runV (C := "ValueBench$Row") (As := [.int y4, .ref a0, .int y2]) (rest := []) ⟨hx, hb, hml, hown, htx⟩ (gR_orderOfStrings l hl9 D cT aK aV H.size n a0 a1 y4 y2 f0 v1 v2 o4 hq5) ⟨callB_of 3 htx (xw_goodC kw_2_206) rfl rfl rfl (htx _ kw_1_4) (htx _ kw_3_174) ⟨by decide, by decide, by decide +kernel⟩ ⟨Nat.le_of_ble_eq_true rfl, Nat.le_of_ble_eq_true rfl⟩, (htx _ kw_2_204), (htx _ kw_2_205)⟩ ⟨xPre_blind, va_recv hK hP (ci := 2) rfl (q0 := 0) rfl, (fun U hU hW => ⟨rfl, xPre_of hZ hS hFc hPc hDc hK U hU hW⟩)⟩ rfl rfl hl.1 rfl (lv_room (Nat.le_of_ble_eq_true rfl)) dO_nextName_30 ⟨Nat.le_of_ble_eq_true rfl, Nat.le_of_ble_eq_true rfl⟩) hS (fun q _ h => hFc q h) hFc (fun r6 u9 t H1 locs ht hvm hr9 hB hz1 hk1 hS => ?_)
        obtain ⟨hP1, hK1, hD1⟩ := hB
        rw [ht] at hP1
        obtain ⟨hP, hD⟩ := xjoin (W := [(a0, .inr (2, [.ref a1, .int v1, .int v2])), (a1, .inl (cT 2, 4096, .inr (.inl f0)))]) hP hD [0, 1] [] 0 rfl rfl (by decide) (by decide) hk1 hFc hP1 hD1
        generalize H1 = H at hP hS ⊢
        rw [hr9]
        refine W.eq (g2 := F0 m 33 ls [.int o4]) rfl ?_
        refine lv_if_le (tgt := 40) hx hb dO_nextName_33 (by decide) (fun hc => ?_) (fun hc => ?_)
        · rw [if_pos hc] at hf
          refine lv_iconst (v := 0) hx hb dO_nextName_40 (by decide) ?_
          refine lv_istore (lv' := [(6, .int 0), (5, .int y5), (4, .int y4), (3, .int y3), (0, .ref a0), (1, .int y1), (2, .int y2)]) hx hb dO_nextName_41 hl (by decide) rfl (fun ls hl => ?_)
          refine lv_iload hx hb dO_nextName_43 (lv_at hl 0 rfl) ?_
          refine lv_if_eq (tgt := 67) hx hb dO_nextName_45 (by decide) (fun _ => ?_) (fun h => ((by revert h; decide : False)).elim)
          refine lv_aload_n hx hb dO_nextName_67 rfl (lv_at hl 4 rfl) ?_
          refine lv_aload_n hx hb dO_nextName_68 rfl (lv_at hl 4 rfl) ?_
          refine lv_iload hx hb dO_nextName_69 (lv_at hl 2 rfl) ?_
          obtain ⟨o7, hq8, hf⟩ := xbind hf
          obtain ⟨hPc, hDc, hFc⟩ := xcut (wc := [(a0, .inr (2, [.ref a1, .int v1, .int v2])), (a1, .inl (cT 2, 4096, .inr (.inl f0)))]) hP hD hS hA [0, 1] rfl rfl (by decide)
          refine va_calli (va_runV (C := "ValueBench$Row") (As := [.int y4]) (rest := [.ref a0]) ⟨hx, hb, hml, hown, htx⟩ (gR_after l hl9 D cT aK aV H.size n a0 a1 y4 f0 v1 v2 o7 hq8) ⟨callB_of 1 htx (xw_goodC kw_2_196) rfl rfl rfl (htx _ kw_1_4) (htx _ kw_3_180) ⟨by decide, by decide, by decide +kernel⟩ ⟨Nat.le_of_ble_eq_true rfl, Nat.le_of_ble_eq_true rfl⟩, (htx _ kw_2_194), (htx _ kw_2_195)⟩ ⟨xPre_blind, va_recv hK hP (ci := 2) rfl (q0 := 0) rfl, (fun U hU hW => ⟨rfl, xPre_of hZ hS hFc hPc hDc hK U hU hW⟩)⟩ rfl rfl hl.1 rfl (lv_room (Nat.le_of_ble_eq_true rfl)) dO_nextName_71 ⟨Nat.le_of_ble_eq_true rfl, Nat.le_of_ble_eq_true rfl⟩) hS (fun q _ h => hFc q h) hFc (fun r9 u9 t H1 locs ht hvm hr9 hB hz1 hk1 hS => ?_)
          obtain ⟨hP1, hK1, hD1⟩ := hB
          rw [ht] at hP1
          obtain ⟨hP, hD⟩ := xjoin (W := [(a0, .inr (2, [.ref a1, .int v1, .int v2])), (a1, .inl (cT 2, 4096, .inr (.inl f0)))]) hP hD [0, 1] [] 0 rfl rfl (by decide) (by decide) hk1 hFc hP1 hD1
          generalize H1 = H at hP hS ⊢
          rw [hr9]
          refine W.eq (g2 := F0 m 74 ls [.int o7, .ref a0]) rfl ?_
          obtain ⟨o10, hq11, hf⟩ := xbind hf
          obtain ⟨hPc, hDc, hFc⟩ := xcut (wc := [(a0, .inr (2, [.ref a1, .int v1, .int v2])), (a1, .inl (cT 2, 4096, .inr (.inl f0)))]) hP hD hS hA [0, 1] rfl rfl (by decide)
          refine va_calli (va_runV (C := "ValueBench$Row") (As := [.int o7]) (rest := []) ⟨hx, hb, hml, hown, htx⟩ (gR_after l hl9 D cT aK aV H.size n a0 a1 o7 f0 v1 v2 o10 hq11) ⟨callB_of 1 htx (xw_goodC kw_2_196) rfl rfl rfl (htx _ kw_1_4) (htx _ kw_3_180) ⟨by decide, by decide, by decide +kernel⟩ ⟨Nat.le_of_ble_eq_true rfl, Nat.le_of_ble_eq_true rfl⟩, (htx _ kw_2_194), (htx _ kw_2_195)⟩ ⟨xPre_blind, va_recv hK hP (ci := 2) rfl (q0 := 0) rfl, (fun U hU hW => ⟨rfl, xPre_of hZ hS hFc hPc hDc hK U hU hW⟩)⟩ rfl rfl hl.1 rfl (lv_room (Nat.le_of_ble_eq_true rfl)) dO_nextName_74 ⟨Nat.le_of_ble_eq_true rfl, Nat.le_of_ble_eq_true rfl⟩) hS (fun q _ h => hFc q h) hFc (fun r12 u9 t H1 locs ht hvm hr9 hB hz1 hk1 hS => ?_)
          obtain ⟨hP1, hK1, hD1⟩ := hB
          rw [ht] at hP1
          obtain ⟨hP, hD⟩ := xjoin (W := [(a0, .inr (2, [.ref a1, .int v1, .int v2])), (a1, .inl (cT 2, 4096, .inr (.inl f0)))]) hP hD [0, 1] [] 0 rfl rfl (by decide) (by decide) hk1 hFc hP1 hD1
          generalize H1 = H at hP hS ⊢
          rw [hr9]
          refine W.eq (g2 := F0 m 77 ls [.int o10]) rfl ?_
          refine lv_istore (lv' := [(4, .int o10), (6, .int 0), (5, .int y5), (3, .int y3), (0, .ref a0), (1, .int y1), (2, .int y2)]) hx hb dO_nextName_77 hl (by decide) rfl (fun ls hl => ?_)
          refine lv_iinc (v := (y5 + 1)) (lv' := [(5, .int (y5 + 1)), (4, .int o10), (6, .int 0), (3, .int y3), (0, .ref a0), (1, .int y1), (2, .int y2)]) hx hb dO_nextName_79 hl (k := 2) rfl rfl (by decide) rfl (fun ls hl => ?_)
          refine lv_goto (tgt := 10) hx hb dO_nextName_82 (by decide) ?_
          obtain ⟨hP9, hD9⟩ := xsub (wc := [(a0, .inr (2, [.ref a1, .int v1, .int v2])), (a1, .inl (cT 2, 4096, .inr (.inl f0)))]) hP hD [0, 1] rfl rfl (by decide)
          exact ih (1, (y5 + 1), o10, y3, y1, y2) _ _ ls (⟨rfl, hf, hP9, hD9, hS, lv_sub hl [0, 1, 3, 4, 5, 6] rfl⟩)
        · rw [if_neg hc] at hf
          refine lv_iconst (v := 1) hx hb dO_nextName_36 (by decide) ?_
          refine lv_goto (tgt := 41) hx hb dO_nextName_37 (by decide) ?_
          refine lv_istore (lv' := [(6, .int 1), (5, .int y5), (4, .int y4), (3, .int y3), (0, .ref a0), (1, .int y1), (2, .int y2)]) hx hb dO_nextName_41 hl (by decide) rfl (fun ls hl => ?_)
          refine lv_iload hx hb dO_nextName_43 (lv_at hl 0 rfl) ?_
          refine lv_if_eq (tgt := 67) hx hb dO_nextName_45 (by decide) (fun h => ((by revert h; decide : False)).elim) (fun _ => ?_)
          refine lv_iload_n hx hb dO_nextName_48 rfl (lv_at hl 3 rfl) ?_
          refine lv_iconst (v := (-1)) hx hb dO_nextName_49 (by decide) ?_
          refine lv_icmp_eq (tgt := 64) hx hb dO_nextName_50 (by decide) (fun hc => ?_) (fun hc => ?_)
          · rw [if_pos hc] at hf
            refine lv_iload hx hb dO_nextName_64 (lv_at hl 2 rfl) ?_
            refine lv_istore_n (lv' := [(3, .int y4), (6, .int 1), (5, .int y5), (4, .int y4), (0, .ref a0), (1, .int y1), (2, .int y2)]) hx hb dO_nextName_66 rfl hl (by decide) rfl (fun ls hl => ?_)
            refine lv_aload_n hx hb dO_nextName_67 rfl (lv_at hl 4 rfl) ?_
            refine lv_aload_n hx hb dO_nextName_68 rfl (lv_at hl 4 rfl) ?_
            refine lv_iload hx hb dO_nextName_69 (lv_at hl 3 rfl) ?_
            obtain ⟨o7, hq8, hf⟩ := xbind hf
            obtain ⟨hPc, hDc, hFc⟩ := xcut (wc := [(a0, .inr (2, [.ref a1, .int v1, .int v2])), (a1, .inl (cT 2, 4096, .inr (.inl f0)))]) hP hD hS hA [0, 1] rfl rfl (by decide)
            refine va_calli (va_runV (C := "ValueBench$Row") (As := [.int y4]) (rest := [.ref a0]) ⟨hx, hb, hml, hown, htx⟩ (gR_after l hl9 D cT aK aV H.size n a0 a1 y4 f0 v1 v2 o7 hq8) ⟨callB_of 1 htx (xw_goodC kw_2_196) rfl rfl rfl (htx _ kw_1_4) (htx _ kw_3_180) ⟨by decide, by decide, by decide +kernel⟩ ⟨Nat.le_of_ble_eq_true rfl, Nat.le_of_ble_eq_true rfl⟩, (htx _ kw_2_194), (htx _ kw_2_195)⟩ ⟨xPre_blind, va_recv hK hP (ci := 2) rfl (q0 := 0) rfl, (fun U hU hW => ⟨rfl, xPre_of hZ hS hFc hPc hDc hK U hU hW⟩)⟩ rfl rfl hl.1 rfl (lv_room (Nat.le_of_ble_eq_true rfl)) dO_nextName_71 ⟨Nat.le_of_ble_eq_true rfl, Nat.le_of_ble_eq_true rfl⟩) hS (fun q _ h => hFc q h) hFc (fun r9 u9 t H1 locs ht hvm hr9 hB hz1 hk1 hS => ?_)
            obtain ⟨hP1, hK1, hD1⟩ := hB
            rw [ht] at hP1
            obtain ⟨hP, hD⟩ := xjoin (W := [(a0, .inr (2, [.ref a1, .int v1, .int v2])), (a1, .inl (cT 2, 4096, .inr (.inl f0)))]) hP hD [0, 1] [] 0 rfl rfl (by decide) (by decide) hk1 hFc hP1 hD1
            generalize H1 = H at hP hS ⊢
            rw [hr9]
            refine W.eq (g2 := F0 m 74 ls [.int o7, .ref a0]) rfl ?_
            obtain ⟨o10, hq11, hf⟩ := xbind hf
            obtain ⟨hPc, hDc, hFc⟩ := xcut (wc := [(a0, .inr (2, [.ref a1, .int v1, .int v2])), (a1, .inl (cT 2, 4096, .inr (.inl f0)))]) hP hD hS hA [0, 1] rfl rfl (by decide)
            refine va_calli (va_runV (C := "ValueBench$Row") (As := [.int o7]) (rest := []) ⟨hx, hb, hml, hown, htx⟩ (gR_after l hl9 D cT aK aV H.size n a0 a1 o7 f0 v1 v2 o10 hq11) ⟨callB_of 1 htx (xw_goodC kw_2_196) rfl rfl rfl (htx _ kw_1_4) (htx _ kw_3_180) ⟨by decide, by decide, by decide +kernel⟩ ⟨Nat.le_of_ble_eq_true rfl, Nat.le_of_ble_eq_true rfl⟩, (htx _ kw_2_194), (htx _ kw_2_195)⟩ ⟨xPre_blind, va_recv hK hP (ci := 2) rfl (q0 := 0) rfl, (fun U hU hW => ⟨rfl, xPre_of hZ hS hFc hPc hDc hK U hU hW⟩)⟩ rfl rfl hl.1 rfl (lv_room (Nat.le_of_ble_eq_true rfl)) dO_nextName_74 ⟨Nat.le_of_ble_eq_true rfl, Nat.le_of_ble_eq_true rfl⟩) hS (fun q _ h => hFc q h) hFc (fun r12 u9 t H1 locs ht hvm hr9 hB hz1 hk1 hS => ?_)
            obtain ⟨hP1, hK1, hD1⟩ := hB
            rw [ht] at hP1
            obtain ⟨hP, hD⟩ := xjoin (W := [(a0, .inr (2, [.ref a1, .int v1, .int v2])), (a1, .inl (cT 2, 4096, .inr (.inl f0)))]) hP hD [0, 1] [] 0 rfl rfl (by decide) (by decide) hk1 hFc hP1 hD1
            generalize H1 = H at hP hS ⊢
            rw [hr9]
            refine W.eq (g2 := F0 m 77 ls [.int o10]) rfl ?_
            refine lv_istore (lv' := [(4, .int o10), (3, .int y4), (6, .int 1), (5, .int y5), (0, .ref a0), (1, .int y1), (2, .int y2)]) hx hb dO_nextName_77 hl (by decide) rfl (fun ls hl => ?_)
            refine lv_iinc (v := (y5 + 1)) (lv' := [(5, .int (y5 + 1)), (4, .int o10), (3, .int y4), (6, .int 1), (0, .ref a0), (1, .int y1), (2, .int y2)]) hx hb dO_nextName_79 hl (k := 3) rfl rfl (by decide) rfl (fun ls hl => ?_)
            refine lv_goto (tgt := 10) hx hb dO_nextName_82 (by decide) ?_
            obtain ⟨hP9, hD9⟩ := xsub (wc := [(a0, .inr (2, [.ref a1, .int v1, .int v2])), (a1, .inl (cT 2, 4096, .inr (.inl f0)))]) hP hD [0, 1] rfl rfl (by decide)
            exact ih (1, (y5 + 1), o10, y4, y1, y2) _ _ ls (⟨rfl, hf, hP9, hD9, hS, lv_sub hl [0, 1, 2, 4, 5, 6] rfl⟩)
          · rw [if_neg hc] at hf
            refine lv_aload_n hx hb dO_nextName_53 rfl (lv_at hl 4 rfl) ?_
            refine lv_iload hx hb dO_nextName_54 (lv_at hl 2 rfl) ?_
            refine lv_aload_n hx hb dO_nextName_56 rfl (lv_at hl 4 rfl) ?_
            refine lv_iload_n hx hb dO_nextName_57 rfl (lv_at hl 3 rfl) ?_
            obtain ⟨o7, hq8, hf⟩ := xbind hf
            obtain ⟨hPc, hDc, hFc⟩ := xcut (wc := [(a0, .inr (2, [.ref a1, .int v1, .int v2])), (a1, .inl (cT 2, 4096, .inr (.inl f0)))]) hP hD hS hA [0, 1] rfl rfl (by decide)
            refine va_calli (va_runV (C := "ValueBench$Row") (As := [.int y4, .ref a0, .int y3]) (rest := []) ⟨hx, hb, hml, hown, htx⟩ (gR_orderOfStrings l hl9 D cT aK aV H.size n a0 a1 y4 y3 f0 v1 v2 o7 hq8) ⟨callB_of 3 htx (xw_goodC kw_2_206) rfl rfl rfl (htx _ kw_1_4) (htx _ kw_3_174) ⟨by decide, by decide, by decide +kernel⟩ ⟨Nat.le_of_ble_eq_true rfl, Nat.le_of_ble_eq_true rfl⟩, (htx _ kw_2_204), (htx _ kw_2_205)⟩ ⟨xPre_blind, va_recv hK hP (ci := 2) rfl (q0 := 0) rfl, (fun U hU hW => ⟨rfl, xPre_of hZ hS hFc hPc hDc hK U hU hW⟩)⟩ rfl rfl hl.1 rfl (lv_room (Nat.le_of_ble_eq_true rfl)) dO_nextName_58 ⟨Nat.le_of_ble_eq_true rfl, Nat.le_of_ble_eq_true rfl⟩) hS (fun q _ h => hFc q h) hFc (fun r9 u9 t H1 locs ht hvm hr9 hB hz1 hk1 hS => ?_)
            obtain ⟨hP1, hK1, hD1⟩ := hB
            rw [ht] at hP1
            obtain ⟨hP, hD⟩ := xjoin (W := [(a0, .inr (2, [.ref a1, .int v1, .int v2])), (a1, .inl (cT 2, 4096, .inr (.inl f0)))]) hP hD [0, 1] [] 0 rfl rfl (by decide) (by decide) hk1 hFc hP1 hD1
            generalize H1 = H at hP hS ⊢
            rw [hr9]
            refine W.eq (g2 := F0 m 61 ls [.int o7]) rfl ?_
            refine lv_if_ge (tgt := 67) hx hb dO_nextName_61 (by decide) (fun hc => ?_) (fun hc => ?_)
            · rw [if_pos hc] at hf
              refine lv_aload_n hx hb dO_nextName_67 rfl (lv_at hl 4 rfl) ?_
              refine lv_aload_n hx hb dO_nextName_68 rfl (lv_at hl 4 rfl) ?_
              refine lv_iload hx hb dO_nextName_69 (lv_at hl 2 rfl) ?_
              obtain ⟨o10, hq11, hf⟩ := xbind hf
              obtain ⟨hPc, hDc, hFc⟩ := xcut (wc := [(a0, .inr (2, [.ref a1, .int v1, .int v2])), (a1, .inl (cT 2, 4096, .inr (.inl f0)))]) hP hD hS hA [0, 1] rfl rfl (by decide)
              refine va_calli (va_runV (C := "ValueBench$Row") (As := [.int y4]) (rest := [.ref a0]) ⟨hx, hb, hml, hown, htx⟩ (gR_after l hl9 D cT aK aV H.size n a0 a1 y4 f0 v1 v2 o10 hq11) ⟨callB_of 1 htx (xw_goodC kw_2_196) rfl rfl rfl (htx _ kw_1_4) (htx _ kw_3_180) ⟨by decide, by decide, by decide +kernel⟩ ⟨Nat.le_of_ble_eq_true rfl, Nat.le_of_ble_eq_true rfl⟩, (htx _ kw_2_194), (htx _ kw_2_195)⟩ ⟨xPre_blind, va_recv hK hP (ci := 2) rfl (q0 := 0) rfl, (fun U hU hW => ⟨rfl, xPre_of hZ hS hFc hPc hDc hK U hU hW⟩)⟩ rfl rfl hl.1 rfl (lv_room (Nat.le_of_ble_eq_true rfl)) dO_nextName_71 ⟨Nat.le_of_ble_eq_true rfl, Nat.le_of_ble_eq_true rfl⟩) hS (fun q _ h => hFc q h) hFc (fun r12 u9 t H1 locs ht hvm hr9 hB hz1 hk1 hS => ?_)
              obtain ⟨hP1, hK1, hD1⟩ := hB
              rw [ht] at hP1
              obtain ⟨hP, hD⟩ := xjoin (W := [(a0, .inr (2, [.ref a1, .int v1, .int v2])), (a1, .inl (cT 2, 4096, .inr (.inl f0)))]) hP hD [0, 1] [] 0 rfl rfl (by decide) (by decide) hk1 hFc hP1 hD1
              generalize H1 = H at hP hS ⊢
              rw [hr9]
              refine W.eq (g2 := F0 m 74 ls [.int o10, .ref a0]) rfl ?_
              obtain ⟨o13, hq14, hf⟩ := xbind hf
              obtain ⟨hPc, hDc, hFc⟩ := xcut (wc := [(a0, .inr (2, [.ref a1, .int v1, .int v2])), (a1, .inl (cT 2, 4096, .inr (.inl f0)))]) hP hD hS hA [0, 1] rfl rfl (by decide)
              refine va_calli (va_runV (C := "ValueBench$Row") (As := [.int o10]) (rest := []) ⟨hx, hb, hml, hown, htx⟩ (gR_after l hl9 D cT aK aV H.size n a0 a1 o10 f0 v1 v2 o13 hq14) ⟨callB_of 1 htx (xw_goodC kw_2_196) rfl rfl rfl (htx _ kw_1_4) (htx _ kw_3_180) ⟨by decide, by decide, by decide +kernel⟩ ⟨Nat.le_of_ble_eq_true rfl, Nat.le_of_ble_eq_true rfl⟩, (htx _ kw_2_194), (htx _ kw_2_195)⟩ ⟨xPre_blind, va_recv hK hP (ci := 2) rfl (q0 := 0) rfl, (fun U hU hW => ⟨rfl, xPre_of hZ hS hFc hPc hDc hK U hU hW⟩)⟩ rfl rfl hl.1 rfl (lv_room (Nat.le_of_ble_eq_true rfl)) dO_nextName_74 ⟨Nat.le_of_ble_eq_true rfl, Nat.le_of_ble_eq_true rfl⟩) hS (fun q _ h => hFc q h) hFc (fun r15 u9 t H1 locs ht hvm hr9 hB hz1 hk1 hS => ?_)
              obtain ⟨hP1, hK1, hD1⟩ := hB
              rw [ht] at hP1
              obtain ⟨hP, hD⟩ := xjoin (W := [(a0, .inr (2, [.ref a1, .int v1, .int v2])), (a1, .inl (cT 2, 4096, .inr (.inl f0)))]) hP hD [0, 1] [] 0 rfl rfl (by decide) (by decide) hk1 hFc hP1 hD1
              generalize H1 = H at hP hS ⊢
              rw [hr9]
              refine W.eq (g2 := F0 m 77 ls [.int o13]) rfl ?_
              refine lv_istore (lv' := [(4, .int o13), (6, .int 1), (5, .int y5), (3, .int y3), (0, .ref a0), (1, .int y1), (2, .int y2)]) hx hb dO_nextName_77 hl (by decide) rfl (fun ls hl => ?_)
              refine lv_iinc (v := (y5 + 1)) (lv' := [(5, .int (y5 + 1)), (4, .int o13), (6, .int 1), (3, .int y3), (0, .ref a0), (1, .int y1), (2, .int y2)]) hx hb dO_nextName_79 hl (k := 2) rfl rfl (by decide) rfl (fun ls hl => ?_)
              refine lv_goto (tgt := 10) hx hb dO_nextName_82 (by decide) ?_
              obtain ⟨hP9, hD9⟩ := xsub (wc := [(a0, .inr (2, [.ref a1, .int v1, .int v2])), (a1, .inl (cT 2, 4096, .inr (.inl f0)))]) hP hD [0, 1] rfl rfl (by decide)
              exact ih (1, (y5 + 1), o13, y3, y1, y2) _ _ ls (⟨rfl, hf, hP9, hD9, hS, lv_sub hl [0, 1, 3, 4, 5, 6] rfl⟩)
            · rw [if_neg hc] at hf
              refine lv_iload hx hb dO_nextName_64 (lv_at hl 2 rfl) ?_
              refine lv_istore_n (lv' := [(3, .int y4), (6, .int 1), (5, .int y5), (4, .int y4), (0, .ref a0), (1, .int y1), (2, .int y2)]) hx hb dO_nextName_66 rfl hl (by decide) rfl (fun ls hl => ?_)
              refine lv_aload_n hx hb dO_nextName_67 rfl (lv_at hl 4 rfl) ?_
              refine lv_aload_n hx hb dO_nextName_68 rfl (lv_at hl 4 rfl) ?_
              refine lv_iload hx hb dO_nextName_69 (lv_at hl 3 rfl) ?_
              obtain ⟨o10, hq11, hf⟩ := xbind hf
              obtain ⟨hPc, hDc, hFc⟩ := xcut (wc := [(a0, .inr (2, [.ref a1, .int v1, .int v2])), (a1, .inl (cT 2, 4096, .inr (.inl f0)))]) hP hD hS hA [0, 1] rfl rfl (by decide)
              refine va_calli (va_runV (C := "ValueBench$Row") (As := [.int y4]) (rest := [.ref a0]) ⟨hx, hb, hml, hown, htx⟩ (gR_after l hl9 D cT aK aV H.size n a0 a1 y4 f0 v1 v2 o10 hq11) ⟨callB_of 1 htx (xw_goodC kw_2_196) rfl rfl rfl (htx _ kw_1_4) (htx _ kw_3_180) ⟨by decide, by decide, by decide +kernel⟩ ⟨Nat.le_of_ble_eq_true rfl, Nat.le_of_ble_eq_true rfl⟩, (htx _ kw_2_194), (htx _ kw_2_195)⟩ ⟨xPre_blind, va_recv hK hP (ci := 2) rfl (q0 := 0) rfl, (fun U hU hW => ⟨rfl, xPre_of hZ hS hFc hPc hDc hK U hU hW⟩)⟩ rfl rfl hl.1 rfl (lv_room (Nat.le_of_ble_eq_true rfl)) dO_nextName_71 ⟨Nat.le_of_ble_eq_true rfl, Nat.le_of_ble_eq_true rfl⟩) hS (fun q _ h => hFc q h) hFc (fun r12 u9 t H1 locs ht hvm hr9 hB hz1 hk1 hS => ?_)
              obtain ⟨hP1, hK1, hD1⟩ := hB
              rw [ht] at hP1
              obtain ⟨hP, hD⟩ := xjoin (W := [(a0, .inr (2, [.ref a1, .int v1, .int v2])), (a1, .inl (cT 2, 4096, .inr (.inl f0)))]) hP hD [0, 1] [] 0 rfl rfl (by decide) (by decide) hk1 hFc hP1 hD1
              generalize H1 = H at hP hS ⊢
              rw [hr9]
              refine W.eq (g2 := F0 m 74 ls [.int o10, .ref a0]) rfl ?_
              obtain ⟨o13, hq14, hf⟩ := xbind hf
              obtain ⟨hPc, hDc, hFc⟩ := xcut (wc := [(a0, .inr (2, [.ref a1, .int v1, .int v2])), (a1, .inl (cT 2, 4096, .inr (.inl f0)))]) hP hD hS hA [0, 1] rfl rfl (by decide)
              refine va_calli (va_runV (C := "ValueBench$Row") (As := [.int o10]) (rest := []) ⟨hx, hb, hml, hown, htx⟩ (gR_after l hl9 D cT aK aV H.size n a0 a1 o10 f0 v1 v2 o13 hq14) ⟨callB_of 1 htx (xw_goodC kw_2_196) rfl rfl rfl (htx _ kw_1_4) (htx _ kw_3_180) ⟨by decide, by decide, by decide +kernel⟩ ⟨Nat.le_of_ble_eq_true rfl, Nat.le_of_ble_eq_true rfl⟩, (htx _ kw_2_194), (htx _ kw_2_195)⟩ ⟨xPre_blind, va_recv hK hP (ci := 2) rfl (q0 := 0) rfl, (fun U hU hW => ⟨rfl, xPre_of hZ hS hFc hPc hDc hK U hU hW⟩)⟩ rfl rfl hl.1 rfl (lv_room (Nat.le_of_ble_eq_true rfl)) dO_nextName_74 ⟨Nat.le_of_ble_eq_true rfl, Nat.le_of_ble_eq_true rfl⟩) hS (fun q _ h => hFc q h) hFc (fun r15 u9 t H1 locs ht hvm hr9 hB hz1 hk1 hS => ?_)
              obtain ⟨hP1, hK1, hD1⟩ := hB
              rw [ht] at hP1
              obtain ⟨hP, hD⟩ := xjoin (W := [(a0, .inr (2, [.ref a1, .int v1, .int v2])), (a1, .inl (cT 2, 4096, .inr (.inl f0)))]) hP hD [0, 1] [] 0 rfl rfl (by decide) (by decide) hk1 hFc hP1 hD1
              generalize H1 = H at hP hS ⊢
              rw [hr9]
              refine W.eq (g2 := F0 m 77 ls [.int o13]) rfl ?_
              refine lv_istore (lv' := [(4, .int o13), (3, .int y4), (6, .int 1), (5, .int y5), (0, .ref a0), (1, .int y1), (2, .int y2)]) hx hb dO_nextName_77 hl (by decide) rfl (fun ls hl => ?_)
              refine lv_iinc (v := (y5 + 1)) (lv' := [(5, .int (y5 + 1)), (4, .int o13), (3, .int y4), (6, .int 1), (0, .ref a0), (1, .int y1), (2, .int y2)]) hx hb dO_nextName_79 hl (k := 3) rfl rfl (by decide) rfl (fun ls hl => ?_)
              refine lv_goto (tgt := 10) hx hb dO_nextName_82 (by decide) ?_
              obtain ⟨hP9, hD9⟩ := xsub (wc := [(a0, .inr (2, [.ref a1, .int v1, .int v2])), (a1, .inl (cT 2, 4096, .inr (.inl f0)))]) hP hD [0, 1] rfl rfl (by decide)
              exact ih (1, (y5 + 1), o13, y4, y1, y2) _ _ ls (⟨rfl, hf, hP9, hD9, hS, lv_sub hl [0, 1, 2, 4, 5, 6] rfl⟩)
  refine lv_iconst (v := (-1)) hx hb dO_nextName_0 (by decide) ?_
  refine lv_istore_n (lv' := [(3, .int (-1)), (0, .ref a0), (1, .int x1), (2, .int x2)]) hx hb dO_nextName_1 rfl hl (by decide) rfl (fun ls hl => ?_)
  refine lv_iload_n hx hb dO_nextName_2 rfl (lv_at hl 2 rfl) ?_
  refine lv_iconst (v := 1) hx hb dO_nextName_3 (by decide) ?_
  refine lv_iadd hx hb dO_nextName_4 ?_
  refine lv_istore (lv' := [(4, .int (x1 + (1 : Int32))), (3, .int (-1)), (0, .ref a0), (1, .int x1), (2, .int x2)]) hx hb dO_nextName_5 hl (by decide) rfl (fun ls hl => ?_)
  refine lv_iconst (v := 0) hx hb dO_nextName_7 (by decide) ?_
  refine lv_istore (lv' := [(5, .int 0), (4, .int (x1 + (1 : Int32))), (3, .int (-1)), (0, .ref a0), (1, .int x1), (2, .int x2)]) hx hb dO_nextName_8 hl (by decide) rfl (fun ls hl => ?_)
  obtain ⟨hP9, hD9⟩ := xsub (wc := [(a0, .inr (2, [.ref a1, .int v1, .int v2])), (a1, .inl (cT 2, 4096, .inr (.inl f0)))]) hP hD [0, 1] rfl rfl (by decide)
  exact key n (1, 0, (x1 + (1 : Int32)), (-1), x1, x2) _ _ ls (⟨rfl, hf, hP9, hD9, hS, lv_sub hl [0, 1, 2, 3, 4, 5] rfl⟩)
set_option maxHeartbeats 400000000 in
set_option maxRecDepth 100000 in
theorem gO_ofObjects (l : Launch) (hl9 : l.stackTraces = false) (D : va_G) (cT : Nat → ClassId) (aK aV : Nat → Nat) (fr lo : Nat) (rec : Int32 → Int32 → Int32 → (Nat → Int64) → Int32 → Int32 → (Nat → Int64) → Int32 → Int32 → Option (Int32)) (hrec : ∀ (sz : Nat) (a0 : Nat) (a1 : Nat) (a2 : Nat) (a3 : Nat) (x1 : Int32) (x3 : Int32) (x4 : Int32) (f0 : Nat → Int64) (v1 : Int32) (v2 : Int32) (f3 : Nat → Int64) (v4 : Int32) (v5 : Int32) (out : Int32), rec x1 x3 x4 f0 v1 v2 f3 v4 v5 = some out → xMet l yO_of wyO_of fr 0 0 lo D cT aK aV sz [.ref a0, .int x1, .ref a2, .int x3, .int x4] [(a0, .inr (2, [.ref a1, .int v1, .int v2])), (a1, .inl (cT 2, 4096, .inr (.inl f0))), (a2, .inr (2, [.ref a3, .int v4, .int v5])), (a3, .inl (cT 2, 4096, .inr (.inl f3)))] (fun A => va_Qi (fun (r : Int32) (_ : Unit) => r = out) (fun _ t => xB D xcl cT A [(a0, .inr (2, [.ref a1, .int v1, .int v2])), (a1, .inl (cT 2, 4096, .inr (.inl f0))), (a2, .inr (2, [.ref a3, .int v4, .int v5])), (a3, .inl (cT 2, 4096, .inr (.inl f3)))] t) A)) (sz n : Nat) (a0 : Nat) (a1 : Nat) (a2 : Nat) (a3 : Nat) (x1 : Int32) (x3 : Int32) (x4 : Int32) (f0 : Nat → Int64) (v1 : Int32) (v2 : Int32) (f3 : Nat → Int64) (v4 : Int32) (v5 : Int32) (out : Int32) (hf : fO_ofObjects rec n x1 x3 x4 f0 v1 v2 f3 v4 v5 = some out) : xMet l yO_ofObjects wyO_ofObjects (fr + 2) 0 0 (lo + 55) D cT aK aV sz [.ref a0, .int x1, .ref a2, .int x3, .int x4] [(a0, .inr (2, [.ref a1, .int v1, .int v2])), (a1, .inl (cT 2, 4096, .inr (.inl f0))), (a2, .inr (2, [.ref a3, .int v4, .int v5])), (a3, .inl (cT 2, 4096, .inr (.inl f3)))] (fun A => va_Qi (fun (r : Int32) (_ : Unit) => r = out) (fun _ t => xB D xcl cT A [(a0, .inr (2, [.ref a1, .int v1, .int v2])), (a1, .inl (cT 2, 4096, .inr (.inl f0))), (a2, .inr (2, [.ref a3, .int v4, .int v5])), (a3, .inl (cT 2, 4096, .inr (.inl f3)))] t) A) := by
  refine Met.ofW (cc := prog_4_method_5_code) (maxL := 11) (ret := (some .int)) (by decide) rfl ?_
  intro p e s m args below meth c s₁ B hml hv
  obtain ⟨rfl, hsz, hZ, hP, hK, hD0⟩ := hv
  have hx := B.exec
  have hb := B.bytes
  have hr := B.returns
  have hts := atoms_spec (ws := wyO_ofObjects) B.pre
  have htx := fun w h => hts w (List.mem_cons_of_mem _ h)
  have hown : s.vm.findClass "ValueBench$Order" = some m.cls := findClass_of_methodNamed B.named
  have hlocks := B.notSynchronized
  subst hsz
  have hD := hD0.self (sz := s.heap.size)
  generalize hAe : va_A [(a0, .inr (2, [.ref a1, .int v1, .int v2])), (a1, .inl (cT 2, 4096, .inr (.inl f0))), (a2, .inr (2, [.ref a3, .int v4, .int v5])), (a3, .inl (cT 2, 4096, .inr (.inl f3)))] s.heap.size = A at hD hZ ⊢
  have hA : ∀ q : Nat, s.heap.size ≤ q → A q := fun q h => by rw [← hAe]; exact Or.inr h
  have hS : va_S A s.heap s.heap [] := va_S.rf
  have hP : va_P D xcl [(a0, .inr (2, [.ref a1, .int v1, .int v2])), (a1, .inl (cT 2, 4096, .inr (.inl f0))), (a2, .inr (2, [.ref a3, .int v4, .int v5])), (a3, .inl (cT 2, 4096, .inr (.inl f3)))] s.heap := hP
  have hl := lv_entry ([.ref a0, .int x1, .ref a2, .int x3, .int x4]) (n := 11) (Nat.le_of_ble_eq_true rfl)
  rw [lg_entry_eq]
  generalize (lg_sl ([.ref a0, .int x1, .ref a2, .int x3, .int x4]) ++ List.replicate (11 - (lg_sl ([.ref a0, .int x1, .ref a2, .int x3, .int x4])).length) Slot.unset).toArray = ls at hl ⊢
  have hl : lv_has ls 11 [(0, .ref a0), (1, .int x1), (2, .ref a2), (3, .int x3), (4, .int x4)] := hl
  unfold fO_ofObjects at hf
  refine xloopK (σ := Nat × Int32 × Int32 × Int32 × Int32 × Int32 × Int32 × Int32 × Int32) (fun n x H locs ls => (x.1 = 1 ∧ fO_ofObjects_b rec f0 v1 v2 f3 v4 v5 n x.1 x.2.1 x.2.2.1 x.2.2.2.1 x.2.2.2.2.1 x.2.2.2.2.2.1 x.2.2.2.2.2.2.1 x.2.2.2.2.2.2.2.1 x.2.2.2.2.2.2.2.2 = some out ∧ va_P D xcl [(a0, .inr (2, [.ref a1, .int v1, .int v2])), (a1, .inl (cT 2, 4096, .inr (.inl f0))), (a2, .inr (2, [.ref a3, .int v4, .int v5])), (a3, .inl (cT 2, 4096, .inr (.inl f3)))] H ∧ va_D A [(a0, .inr (2, [.ref a1, .int v1, .int v2])), (a1, .inl (cT 2, 4096, .inr (.inl f0))), (a2, .inr (2, [.ref a3, .int v4, .int v5])), (a3, .inl (cT 2, 4096, .inr (.inl f3)))] ∧ va_S A s.heap H locs ∧ lv_has ls 11 [(9, .int x.2.1), (8, .int x.2.2.1), (7, .int x.2.2.2.1), (6, .int x.2.2.2.2.1), (5, .int x.2.2.2.2.2.1), (0, .ref a0), (1, .int x.2.2.2.2.2.2.1), (2, .ref a2), (3, .int x.2.2.2.2.2.2.2.1), (4, .int x.2.2.2.2.2.2.2.2)])) (fun x => 27) (fun x H locs ls h => by exact absurd h.2.1 (by rw [fO_ofObjects_b]; exact fun h => nomatch h)) (fun n ih x H locs ls hv => ?_) (fun key => ?_)
  · obtain ⟨lb, y9, y8, y7, y6, y5, y1, y3, y4⟩ := x
    rcases hv with ⟨hj, hf, hP, hD, hS, hl⟩
    subst hj
    have hf : fO_ofObjects_b rec f0 v1 v2 f3 v4 v5 (n + 1) 1 y9 y8 y7 y6 y5 y1 y3 y4 = some out := hf
    rw [fO_ofObjects_b] at hf
    obtain ⟨hP, hD⟩ : xPD D xcl A [(a0, .inr (2, [.ref a1, .int v1, .int v2])), (a1, .inl (cT 2, 4096, .inr (.inl f0))), (a2, .inr (2, [.ref a3, .int v4, .int v5])), (a3, .inl (cT 2, 4096, .inr (.inl f3)))] H := ⟨hP, hD⟩
    have hl : lv_has ls 11 [(9, .int y9), (8, .int y8), (7, .int y7), (6, .int y6), (5, .int y5), (0, .ref a0), (1, .int y1), (2, .ref a2), (3, .int y3), (4, .int y4)] := hl
    refine W.eq (g2 := F0 m 27 ls []) rfl ?_
    refine lv_iload hx hb dO_ofObjects_27 (lv_at hl 0 rfl) ?_
    refine lv_iload hx hb dO_ofObjects_29 (lv_at hl 4 rfl) ?_
    refine lv_icmp_ge (tgt := 105) hx hb dO_ofObjects_31 (by decide) (fun hc => ?_) (fun hc => ?_)
    · rw [if_pos hc] at hf
      refine lv_aload_n hx hb dO_ofObjects_105 rfl (lv_at hl 5 rfl) ?_
      refine lv_iload_n hx hb dO_ofObjects_106 rfl (lv_at hl 6 rfl) ?_
      obtain ⟨o1, hq2, hf⟩ := xbind hf
      obtain ⟨hPc, hDc, hFc⟩ := xcut (wc := [(a0, .inr (2, [.ref a1, .int v1, .int v2])), (a1, .inl (cT 2, 4096, .inr (.inl f0)))]) hP hD hS hA [0, 1] rfl rfl (by decide)
      refine va_calli (va_runV (C := "ValueBench$Row") (As := [.int y1]) (rest := []) ⟨hx, hb, hml, hown, htx⟩ (gR_length l hl9 D cT aK aV H.size n a0 a1 y1 f0 v1 v2 o1 hq2) ⟨callB_of 1 htx (xw_goodC kw_2_191) rfl rfl rfl (htx _ kw_1_4) (htx _ kw_3_178) ⟨by decide, by decide, by decide +kernel⟩ ⟨Nat.le_of_ble_eq_true rfl, Nat.le_of_ble_eq_true rfl⟩, (htx _ kw_2_189), (htx _ kw_2_190)⟩ ⟨xPre_blind, va_recv hK hP (ci := 2) rfl (q0 := 0) rfl, (fun U hU hW => ⟨rfl, xPre_of hZ hS hFc hPc hDc hK U hU hW⟩)⟩ rfl rfl hl.1 rfl (lv_room (Nat.le_of_ble_eq_true rfl)) dO_ofObjects_107 ⟨Nat.le_of_ble_eq_true rfl, Nat.le_of_ble_eq_true rfl⟩) hS (fun q _ h => hFc q h) hFc (fun r3 u9 t H1 locs ht hvm hr9 hB hz1 hk1 hS => ?_)
      obtain ⟨hP1, hK1, hD1⟩ := hB
      rw [ht] at hP1
      obtain ⟨hP, hD⟩ := xjoin (W := [(a2, .inr (2, [.ref a3, .int v4, .int v5])), (a3, .inl (cT 2, 4096, .inr (.inl f3))), (a0, .inr (2, [.ref a1, .int v1, .int v2])), (a1, .inl (cT 2, 4096, .inr (.inl f0)))]) hP hD [0, 1] [2, 3] 2 rfl rfl (by decide) (by decide) hk1 hFc hP1 hD1
      generalize H1 = H at hP hS ⊢
      rw [hr9]
      refine W.eq (g2 := F0 m 110 ls [.int o1]) rfl ?_
      refine lv_aload_n hx hb dO_ofObjects_110 rfl (lv_at hl 7 rfl) ?_
      refine lv_iload_n hx hb dO_ofObjects_111 rfl (lv_at hl 8 rfl) ?_
      obtain ⟨o4, hq5, hf⟩ := xbind hf
      obtain ⟨hPc, hDc, hFc⟩ := xcut (wc := [(a2, .inr (2, [.ref a3, .int v4, .int v5])), (a3, .inl (cT 2, 4096, .inr (.inl f3)))]) hP hD hS hA [0, 1] rfl rfl (by decide)
      refine va_calli (va_runV (C := "ValueBench$Row") (As := [.int y3]) (rest := [.int o1]) ⟨hx, hb, hml, hown, htx⟩ (gR_length l hl9 D cT aK aV H.size n a2 a3 y3 f3 v4 v5 o4 hq5) ⟨callB_of 1 htx (xw_goodC kw_2_191) rfl rfl rfl (htx _ kw_1_4) (htx _ kw_3_178) ⟨by decide, by decide, by decide +kernel⟩ ⟨Nat.le_of_ble_eq_true rfl, Nat.le_of_ble_eq_true rfl⟩, (htx _ kw_2_189), (htx _ kw_2_190)⟩ ⟨xPre_blind, va_recv hK hP (ci := 2) rfl (q0 := 0) rfl, (fun U hU hW => ⟨rfl, xPre_of hZ hS hFc hPc hDc hK U hU hW⟩)⟩ rfl rfl hl.1 rfl (lv_room (Nat.le_of_ble_eq_true rfl)) dO_ofObjects_112 ⟨Nat.le_of_ble_eq_true rfl, Nat.le_of_ble_eq_true rfl⟩) hS (fun q _ h => hFc q h) hFc (fun r6 u9 t H1 locs ht hvm hr9 hB hz1 hk1 hS => ?_)
      obtain ⟨hP1, hK1, hD1⟩ := hB
      rw [ht] at hP1
      obtain ⟨hP, hD⟩ := xjoin (W := [(a0, .inr (2, [.ref a1, .int v1, .int v2])), (a1, .inl (cT 2, 4096, .inr (.inl f0))), (a2, .inr (2, [.ref a3, .int v4, .int v5])), (a3, .inl (cT 2, 4096, .inr (.inl f3)))]) hP hD [0, 1] [2, 3] 2 rfl rfl (by decide) (by decide) hk1 hFc hP1 hD1
      generalize H1 = H at hP hS ⊢
      rw [hr9]
      refine W.eq (g2 := F0 m 115 ls [.int o4, .int o1]) rfl ?_
      obtain ⟨o7, hq8, hf⟩ := xbind hf
      obtain ⟨hPc, hDc, hFc⟩ := xcut (wc := []) hP hD hS hA [] rfl rfl (by decide)
      refine va_calli (va_runS (As := [.int o1, .int o4]) (rest := []) ⟨hx, hb, hml, hown, htx⟩ (gJI_compare l hl9 D cT aK aV H.size n o1 o4 o7 hq8) ⟨callB_of 2 htx (xw_goodC kw_3_169) rfl rfl rfl (htx _ kw_1_24) (htx _ kw_3_167) ⟨by decide, by decide, by decide +kernel⟩ ⟨Nat.le_of_ble_eq_true rfl, Nat.le_of_ble_eq_true rfl⟩, htx _ kw_3_168⟩ ⟨xPre_blind, (fun U hU hW => ⟨rfl, xPre_of hZ hS hFc hPc hDc hK U hU hW⟩)⟩ rfl rfl hl.1 rfl (lv_room (Nat.le_of_ble_eq_true rfl)) dO_ofObjects_115 ⟨Nat.le_of_ble_eq_true rfl, Nat.le_of_ble_eq_true rfl⟩) hS (fun q _ h => hFc q h) hFc (fun r9 u9 t H1 locs ht hvm hr9 hB hz1 hk1 hS => ?_)
      obtain ⟨hP1, hK1, hD1⟩ := hB
      rw [ht] at hP1
      obtain ⟨hP, hD⟩ := xjoin (W := [(a0, .inr (2, [.ref a1, .int v1, .int v2])), (a1, .inl (cT 2, 4096, .inr (.inl f0))), (a2, .inr (2, [.ref a3, .int v4, .int v5])), (a3, .inl (cT 2, 4096, .inr (.inl f3)))]) hP hD [] [0, 1, 2, 3] 4 rfl rfl (by decide) (by decide) hk1 hFc hP1 hD1
      generalize H1 = H at hP hS ⊢
      rw [hr9]
      refine W.eq (g2 := F0 m 118 ls [.int o7]) rfl ?_
      refine lv_istore (lv' := [(9, .int o7), (8, .int y8), (7, .int y7), (6, .int y6), (5, .int y5), (0, .ref a0), (1, .int y1), (2, .ref a2), (3, .int y3), (4, .int y4)]) hx hb dO_ofObjects_118 hl (by decide) rfl (fun ls hl => ?_)
      refine lv_iload hx hb dO_ofObjects_120 (lv_at hl 0 rfl) ?_
      refine lv_if_eq (tgt := 130) hx hb dO_ofObjects_122 (by decide) (fun hc => ?_) (fun hc => ?_)
      · rw [if_pos hc] at hf
        refine lv_iload hx hb dO_ofObjects_130 (lv_at hl 1 rfl) ?_
        obtain rfl := Option.some.inj hf
        obtain ⟨hP9, hD9⟩ := xsub (wc := [(a0, .inr (2, [.ref a1, .int v1, .int v2])), (a1, .inl (cT 2, 4096, .inr (.inl f0))), (a2, .inr (2, [.ref a3, .int v4, .int v5])), (a3, .inl (cT 2, 4096, .inr (.inl f3)))]) hP hD [0, 1, 2, 3] rfl rfl (by decide)
        exact W.iret (v := y8) hx hb hr (fun t ht hW => ⟨⟨y8, (), rfl, rfl, by rw [ht]; exact hP9, va_K.moved hW.alike hK, hD9⟩, hS.F ht⟩) hS.2.2 dO_ofObjects_132
      · rw [if_neg hc] at hf
        refine lv_iload hx hb dO_ofObjects_125 (lv_at hl 0 rfl) ?_
        refine lv_goto (tgt := 132) hx hb dO_ofObjects_127 (by decide) ?_
        obtain rfl := Option.some.inj hf
        obtain ⟨hP9, hD9⟩ := xsub (wc := [(a0, .inr (2, [.ref a1, .int v1, .int v2])), (a1, .inl (cT 2, 4096, .inr (.inl f0))), (a2, .inr (2, [.ref a3, .int v4, .int v5])), (a3, .inl (cT 2, 4096, .inr (.inl f3)))]) hP hD [0, 1, 2, 3] rfl rfl (by decide)
        exact W.iret (v := o7) hx hb hr (fun t ht hW => ⟨⟨o7, (), rfl, rfl, by rw [ht]; exact hP9, va_K.moved hW.alike hK, hD9⟩, hS.F ht⟩) hS.2.2 dO_ofObjects_132
    · rw [if_neg hc] at hf
      refine lv_aload_n hx hb dO_ofObjects_34 rfl (lv_at hl 5 rfl) ?_
      refine lv_iload_n hx hb dO_ofObjects_35 rfl (lv_at hl 6 rfl) ?_
      refine lv_iload hx hb dO_ofObjects_36 (lv_at hl 3 rfl) ?_
      obtain ⟨o1, hq2, hf⟩ := xbind hf
      obtain ⟨hPc, hDc, hFc⟩ := xcut (wc := [(a0, .inr (2, [.ref a1, .int v1, .int v2])), (a1, .inl (cT 2, 4096, .inr (.inl f0)))]) hP hD hS hA [0, 1] rfl rfl (by decide)
      refine va_calli (va_runS (As := [.ref a0, .int y1, .int y6]) (rest := []) ⟨hx, hb, hml, hown, htx⟩ (gO_nextName l hl9 D cT aK aV H.size n a0 a1 y1 y6 f0 v1 v2 o1 hq2) ⟨callB_of 3 htx (xw_goodC kw_3_186) rfl rfl rfl (htx _ kw_1_23) (htx _ kw_3_184) ⟨by decide, by decide, by decide +kernel⟩ ⟨Nat.le_of_ble_eq_true rfl, Nat.le_of_ble_eq_true rfl⟩, htx _ kw_3_185⟩ ⟨xPre_blind, (fun U hU hW => ⟨rfl, xPre_of hZ hS hFc hPc hDc hK U hU hW⟩)⟩ rfl rfl hl.1 rfl (lv_room (Nat.le_of_ble_eq_true rfl)) dO_ofObjects_38 ⟨Nat.le_of_ble_eq_true rfl, Nat.le_of_ble_eq_true rfl⟩) hS (fun q _ h => hFc q h) hFc (fun r3 u9 t H1 locs ht hvm hr9 hB hz1 hk1 hS => ?_)
      obtain ⟨hP1, hK1, hD1⟩ := hB
      rw [ht] at hP1
      obtain ⟨hP, hD⟩ := xjoin (W := [(a2, .inr (2, [.ref a3, .int v4, .int v5])), (a3, .inl (cT 2, 4096, .inr (.inl f3))), (a0, .inr (2, [.ref a1, .int v1, .int v2])), (a1, .inl (cT 2, 4096, .inr (.inl f0)))]) hP hD [0, 1] [2, 3] 2 rfl rfl (by decide) (by decide) hk1 hFc hP1 hD1
      generalize H1 = H at hP hS ⊢
      rw [hr9]
      refine W.eq (g2 := F0 m 41 ls [.int o1]) rfl ?_
      refine lv_istore (lv' := [(6, .int o1), (9, .int y9), (8, .int y8), (7, .int y7), (5, .int y5), (0, .ref a0), (1, .int y1), (2, .ref a2), (3, .int y3), (4, .int y4)]) hx hb dO_ofObjects_41 hl (by decide) rfl (fun ls hl => ?_)
      refine lv_aload_n hx hb dO_ofObjects_43 rfl (lv_at hl 7 rfl) ?_
      refine lv_iload_n hx hb dO_ofObjects_44 rfl (lv_at hl 8 rfl) ?_
      refine lv_iload hx hb dO_ofObjects_45 (lv_at hl 3 rfl) ?_
      obtain ⟨o4, hq5, hf⟩ := xbind hf
      obtain ⟨hPc, hDc, hFc⟩ := xcut (wc := [(a2, .inr (2, [.ref a3, .int v4, .int v5])), (a3, .inl (cT 2, 4096, .inr (.inl f3)))]) hP hD hS hA [0, 1] rfl rfl (by decide)
      refine va_calli (va_runS (As := [.ref a2, .int y3, .int y7]) (rest := []) ⟨hx, hb, hml, hown, htx⟩ (gO_nextName l hl9 D cT aK aV H.size n a2 a3 y3 y7 f3 v4 v5 o4 hq5) ⟨callB_of 3 htx (xw_goodC kw_3_186) rfl rfl rfl (htx _ kw_1_23) (htx _ kw_3_184) ⟨by decide, by decide, by decide +kernel⟩ ⟨Nat.le_of_ble_eq_true rfl, Nat.le_of_ble_eq_true rfl⟩, htx _ kw_3_185⟩ ⟨xPre_blind, (fun U hU hW => ⟨rfl, xPre_of hZ hS hFc hPc hDc hK U hU hW⟩)⟩ rfl rfl hl.1 rfl (lv_room (Nat.le_of_ble_eq_true rfl)) dO_ofObjects_47 ⟨Nat.le_of_ble_eq_true rfl, Nat.le_of_ble_eq_true rfl⟩) hS (fun q _ h => hFc q h) hFc (fun r6 u9 t H1 locs ht hvm hr9 hB hz1 hk1 hS => ?_)
      obtain ⟨hP1, hK1, hD1⟩ := hB
      rw [ht] at hP1
      obtain ⟨hP, hD⟩ := xjoin (W := [(a0, .inr (2, [.ref a1, .int v1, .int v2])), (a1, .inl (cT 2, 4096, .inr (.inl f0))), (a2, .inr (2, [.ref a3, .int v4, .int v5])), (a3, .inl (cT 2, 4096, .inr (.inl f3)))]) hP hD [0, 1] [2, 3] 2 rfl rfl (by decide) (by decide) hk1 hFc hP1 hD1
      generalize H1 = H at hP hS ⊢
      rw [hr9]
      refine W.eq (g2 := F0 m 50 ls [.int o4]) rfl ?_
      refine lv_istore (lv' := [(7, .int o4), (6, .int o1), (9, .int y9), (8, .int y8), (5, .int y5), (0, .ref a0), (1, .int y1), (2, .ref a2), (3, .int y3), (4, .int y4)]) hx hb dO_ofObjects_50 hl (by decide) rfl (fun ls hl => ?_)
      refine lv_aload_n hx hb dO_ofObjects_52 rfl (lv_at hl 5 rfl) ?_
      refine lv_iload hx hb dO_ofObjects_53 (lv_at hl 1 rfl) ?_
      refine lv_aload_n hx hb dO_ofObjects_55 rfl (lv_at hl 7 rfl) ?_
      refine lv_iload hx hb dO_ofObjects_56 (lv_at hl 0 rfl) ?_
      obtain ⟨o7, hq8, hf⟩ := xbind hf
      obtain ⟨hPc, hDc, hFc⟩ := xcut (wc := [(a0, .inr (2, [.ref a1, .int v1, .int v2])), (a1, .inl (cT 2, 4096, .inr (.inl f0))), (a2, .inr (2, [.ref a3, .int v4, .int v5])), (a3, .inl (cT 2, 4096, .inr (.inl f3)))]) hP hD hS hA [0, 1, 2, 3] rfl rfl (by decide)
      refine va_calli (va_runV (C := "ValueBench$Row") (As := [.int o1, .ref a2, .int o4]) (rest := []) ⟨hx, hb, hml, hown, htx⟩ (gR_orderOfStringsa l hl9 D cT aK aV H.size n a0 a1 a2 a3 o1 o4 f0 v1 v2 f3 v4 v5 o7 hq8) ⟨callB_of 3 htx (xw_goodC kw_2_206) rfl rfl rfl (htx _ kw_1_4) (htx _ kw_3_174) ⟨by decide, by decide, by decide +kernel⟩ ⟨Nat.le_of_ble_eq_true rfl, Nat.le_of_ble_eq_true rfl⟩, (htx _ kw_2_204), (htx _ kw_2_205)⟩ ⟨xPre_blind, va_recv hK hP (ci := 2) rfl (q0 := 0) rfl, (fun U hU hW => ⟨rfl, xPre_of hZ hS hFc hPc hDc hK U hU hW⟩)⟩ rfl rfl hl.1 rfl (lv_room (Nat.le_of_ble_eq_true rfl)) dO_ofObjects_58 ⟨Nat.le_of_ble_eq_true rfl, Nat.le_of_ble_eq_true rfl⟩) hS (fun q _ h => hFc q h) hFc (fun r9 u9 t H1 locs ht hvm hr9 hB hz1 hk1 hS => ?_)
      obtain ⟨hP1, hK1, hD1⟩ := hB
      rw [ht] at hP1
      obtain ⟨hP, hD⟩ := xjoin (W := [(a0, .inr (2, [.ref a1, .int v1, .int v2])), (a1, .inl (cT 2, 4096, .inr (.inl f0))), (a2, .inr (2, [.ref a3, .int v4, .int v5])), (a3, .inl (cT 2, 4096, .inr (.inl f3)))]) hP hD [0, 1, 2, 3] [] 0 rfl rfl (by decide) (by decide) hk1 hFc hP1 hD1
      generalize H1 = H at hP hS ⊢
      rw [hr9]
      refine W.eq (g2 := F0 m 61 ls [.int o7]) rfl ?_
      refine lv_istore (lv' := [(10, .int o7), (7, .int o4), (6, .int o1), (9, .int y9), (8, .int y8), (5, .int y5), (0, .ref a0), (1, .int y1), (2, .ref a2), (3, .int y3), (4, .int y4)]) hx hb dO_ofObjects_61 hl (by decide) rfl (fun ls hl => ?_)
      refine lv_iload hx hb dO_ofObjects_63 (lv_at hl 0 rfl) ?_
      refine lv_if_eq (tgt := 71) hx hb dO_ofObjects_65 (by decide) (fun hc => ?_) (fun hc => ?_)
      · rw [if_pos hc] at hf
        refine lv_iload hx hb dO_ofObjects_71 (lv_at hl 4 rfl) ?_
        refine lv_if_ne (tgt := 99) hx hb dO_ofObjects_73 (by decide) (fun hc => ?_) (fun hc => ?_)
        · rw [if_neg hc] at hf
          refine lv_iinc (v := (y9 + 1)) (lv' := [(9, .int (y9 + 1)), (10, .int o7), (7, .int o4), (6, .int o1), (8, .int y8), (5, .int y5), (0, .ref a0), (1, .int y1), (2, .ref a2), (3, .int y3), (4, .int y4)]) hx hb dO_ofObjects_99 hl (k := 3) rfl rfl (by decide) rfl (fun ls hl => ?_)
          refine lv_goto (tgt := 27) hx hb dO_ofObjects_102 (by decide) ?_
          obtain ⟨hP9, hD9⟩ := xsub (wc := [(a0, .inr (2, [.ref a1, .int v1, .int v2])), (a1, .inl (cT 2, 4096, .inr (.inl f0))), (a2, .inr (2, [.ref a3, .int v4, .int v5])), (a3, .inl (cT 2, 4096, .inr (.inl f3)))]) hP hD [0, 1, 2, 3] rfl rfl (by decide)
          exact ih (1, (y9 + 1), y8, o4, o1, y5, y1, y3, y4) _ _ ls (⟨rfl, hf, hP9, hD9, hS, lv_sub hl [0, 4, 2, 3, 5, 6, 7, 8, 9, 10] rfl⟩)
        · rw [if_pos hc] at hf
          refine lv_aload_n hx hb dO_ofObjects_76 rfl (lv_at hl 6 rfl) ?_
          refine lv_aload_n hx hb dO_ofObjects_77 rfl (lv_at hl 6 rfl) ?_
          refine lv_iload hx hb dO_ofObjects_78 (lv_at hl 2 rfl) ?_
          obtain ⟨o10, hq11, hf⟩ := xbind hf
          obtain ⟨hPc, hDc, hFc⟩ := xcut (wc := [(a0, .inr (2, [.ref a1, .int v1, .int v2])), (a1, .inl (cT 2, 4096, .inr (.inl f0)))]) hP hD hS hA [0, 1] rfl rfl (by decide)
          refine va_calli (va_runV (C := "ValueBench$Row") (As := [.int o1]) (rest := [.ref a0]) ⟨hx, hb, hml, hown, htx⟩ (gR_after l hl9 D cT aK aV H.size n a0 a1 o1 f0 v1 v2 o10 hq11) ⟨callB_of 1 htx (xw_goodC kw_2_196) rfl rfl rfl (htx _ kw_1_4) (htx _ kw_3_180) ⟨by decide, by decide, by decide +kernel⟩ ⟨Nat.le_of_ble_eq_true rfl, Nat.le_of_ble_eq_true rfl⟩, (htx _ kw_2_194), (htx _ kw_2_195)⟩ ⟨xPre_blind, va_recv hK hP (ci := 2) rfl (q0 := 0) rfl, (fun U hU hW => ⟨rfl, xPre_of hZ hS hFc hPc hDc hK U hU hW⟩)⟩ rfl rfl hl.1 rfl (lv_room (Nat.le_of_ble_eq_true rfl)) dO_ofObjects_80 ⟨Nat.le_of_ble_eq_true rfl, Nat.le_of_ble_eq_true rfl⟩) hS (fun q _ h => hFc q h) hFc (fun r12 u9 t H1 locs ht hvm hr9 hB hz1 hk1 hS => ?_)
          obtain ⟨hP1, hK1, hD1⟩ := hB
          rw [ht] at hP1
          obtain ⟨hP, hD⟩ := xjoin (W := [(a2, .inr (2, [.ref a3, .int v4, .int v5])), (a3, .inl (cT 2, 4096, .inr (.inl f3))), (a0, .inr (2, [.ref a1, .int v1, .int v2])), (a1, .inl (cT 2, 4096, .inr (.inl f0)))]) hP hD [0, 1] [2, 3] 2 rfl rfl (by decide) (by decide) hk1 hFc hP1 hD1
          generalize H1 = H at hP hS ⊢
          rw [hr9]
          refine W.eq (g2 := F0 m 83 ls [.int o10, .ref a0]) rfl ?_
          refine lv_aload_n hx hb dO_ofObjects_83 rfl (lv_at hl 8 rfl) ?_
          refine lv_aload_n hx hb dO_ofObjects_84 rfl (lv_at hl 8 rfl) ?_
          refine lv_iload hx hb dO_ofObjects_85 (lv_at hl 1 rfl) ?_
          obtain ⟨o13, hq14, hf⟩ := xbind hf
          obtain ⟨hPc, hDc, hFc⟩ := xcut (wc := [(a2, .inr (2, [.ref a3, .int v4, .int v5])), (a3, .inl (cT 2, 4096, .inr (.inl f3)))]) hP hD hS hA [0, 1] rfl rfl (by decide)
          refine va_calli (va_runV (C := "ValueBench$Row") (As := [.int o4]) (rest := [.ref a2, .int o10, .ref a0]) ⟨hx, hb, hml, hown, htx⟩ (gR_after l hl9 D cT aK aV H.size n a2 a3 o4 f3 v4 v5 o13 hq14) ⟨callB_of 1 htx (xw_goodC kw_2_196) rfl rfl rfl (htx _ kw_1_4) (htx _ kw_3_180) ⟨by decide, by decide, by decide +kernel⟩ ⟨Nat.le_of_ble_eq_true rfl, Nat.le_of_ble_eq_true rfl⟩, (htx _ kw_2_194), (htx _ kw_2_195)⟩ ⟨xPre_blind, va_recv hK hP (ci := 2) rfl (q0 := 0) rfl, (fun U hU hW => ⟨rfl, xPre_of hZ hS hFc hPc hDc hK U hU hW⟩)⟩ rfl rfl hl.1 rfl (lv_room (Nat.le_of_ble_eq_true rfl)) dO_ofObjects_87 ⟨Nat.le_of_ble_eq_true rfl, Nat.le_of_ble_eq_true rfl⟩) hS (fun q _ h => hFc q h) hFc (fun r15 u9 t H1 locs ht hvm hr9 hB hz1 hk1 hS => ?_)
          obtain ⟨hP1, hK1, hD1⟩ := hB
          rw [ht] at hP1
          obtain ⟨hP, hD⟩ := xjoin (W := [(a0, .inr (2, [.ref a1, .int v1, .int v2])), (a1, .inl (cT 2, 4096, .inr (.inl f0))), (a2, .inr (2, [.ref a3, .int v4, .int v5])), (a3, .inl (cT 2, 4096, .inr (.inl f3)))]) hP hD [0, 1] [2, 3] 2 rfl rfl (by decide) (by decide) hk1 hFc hP1 hD1
          generalize H1 = H at hP hS ⊢
          rw [hr9]
          refine W.eq (g2 := F0 m 90 ls [.int o13, .ref a2, .int o10, .ref a0]) rfl ?_
          refine lv_iload hx hb dO_ofObjects_90 (lv_at hl 10 rfl) ?_
          refine lv_iconst (v := 1) hx hb dO_ofObjects_92 (by decide) ?_
          refine lv_iadd hx hb dO_ofObjects_93 ?_
          obtain ⟨o16, hq17, hf⟩ := xbind hf
          obtain ⟨hPc, hDc, hFc⟩ := xcut (wc := [(a0, .inr (2, [.ref a1, .int v1, .int v2])), (a1, .inl (cT 2, 4096, .inr (.inl f0))), (a2, .inr (2, [.ref a3, .int v4, .int v5])), (a3, .inl (cT 2, 4096, .inr (.inl f3)))]) hP hD hS hA [0, 1, 2, 3] rfl rfl (by decide)
          refine va_calli (va_runS (As := [.ref a0, .int o10, .ref a2, .int o13, .int (y4 + (1 : Int32))]) (rest := []) ⟨hx, hb, hml, hown, htx⟩ (hrec H.size a0 a1 a2 a3 o10 o13 (y4 + (1 : Int32)) f0 v1 v2 f3 v4 v5 o16 hq17) ⟨callB_of 5 htx (xw_goodC kw_3_165) rfl rfl rfl (htx _ kw_1_23) (htx _ kw_3_163) ⟨by decide, by decide, by decide +kernel⟩ ⟨(by show (fr) + 1 ≤ fr + 2; omega), (by show 8 + (5 + 11) + (lo) ≤ lo + 55; omega)⟩, htx _ kw_3_164⟩ ⟨xPre_blind, (fun U hU hW => ⟨rfl, xPre_of hZ hS hFc hPc hDc hK U hU hW⟩)⟩ rfl rfl hl.1 rfl (lv_room (Nat.le_of_ble_eq_true rfl)) dO_ofObjects_94 ⟨Nat.le_of_ble_eq_true rfl, Nat.le_of_ble_eq_true rfl⟩) hS (fun q _ h => hFc q h) hFc (fun r18 u9 t H1 locs ht hvm hr9 hB hz1 hk1 hS => ?_)
          obtain ⟨hP1, hK1, hD1⟩ := hB
          rw [ht] at hP1
          obtain ⟨hP, hD⟩ := xjoin (W := [(a0, .inr (2, [.ref a1, .int v1, .int v2])), (a1, .inl (cT 2, 4096, .inr (.inl f0))), (a2, .inr (2, [.ref a3, .int v4, .int v5])), (a3, .inl (cT 2, 4096, .inr (.inl f3)))]) hP hD [0, 1, 2, 3] [] 0 rfl rfl (by decide) (by decide) hk1 hFc hP1 hD1
          generalize H1 = H at hP hS ⊢
          rw [hr9]
          refine W.eq (g2 := F0 m 97 ls [.int o16]) rfl ?_
          refine lv_istore (lv' := [(8, .int o16), (10, .int o7), (7, .int o4), (6, .int o1), (9, .int y9), (5, .int y5), (0, .ref a0), (1, .int y1), (2, .ref a2), (3, .int y3), (4, .int y4)]) hx hb dO_ofObjects_97 hl (by decide) rfl (fun ls hl => ?_)
          refine lv_iinc (v := (y9 + 1)) (lv' := [(9, .int (y9 + 1)), (8, .int o16), (10, .int o7), (7, .int o4), (6, .int o1), (5, .int y5), (0, .ref a0), (1, .int y1), (2, .ref a2), (3, .int y3), (4, .int y4)]) hx hb dO_ofObjects_99 hl (k := 4) rfl rfl (by decide) rfl (fun ls hl => ?_)
          refine lv_goto (tgt := 27) hx hb dO_ofObjects_102 (by decide) ?_
          obtain ⟨hP9, hD9⟩ := xsub (wc := [(a0, .inr (2, [.ref a1, .int v1, .int v2])), (a1, .inl (cT 2, 4096, .inr (.inl f0))), (a2, .inr (2, [.ref a3, .int v4, .int v5])), (a3, .inl (cT 2, 4096, .inr (.inl f3)))]) hP hD [0, 1, 2, 3] rfl rfl (by decide)
          exact ih (1, (y9 + 1), o16, o4, o1, y5, y1, y3, y4) _ _ ls (⟨rfl, hf, hP9, hD9, hS, lv_sub hl [0, 1, 3, 4, 5, 6, 7, 8, 9, 10] rfl⟩)
      · rw [if_neg hc] at hf
        refine lv_iload hx hb dO_ofObjects_68 (lv_at hl 0 rfl) ?_
        obtain rfl := Option.some.inj hf
        obtain ⟨hP9, hD9⟩ := xsub (wc := [(a0, .inr (2, [.ref a1, .int v1, .int v2])), (a1, .inl (cT 2, 4096, .inr (.inl f0))), (a2, .inr (2, [.ref a3, .int v4, .int v5])), (a3, .inl (cT 2, 4096, .inr (.inl f3)))]) hP hD [0, 1, 2, 3] rfl rfl (by decide)
        exact W.iret (v := o7) hx hb hr (fun t ht hW => ⟨⟨o7, (), rfl, rfl, by rw [ht]; exact hP9, va_K.moved hW.alike hK, hD9⟩, hS.F ht⟩) hS.2.2 dO_ofObjects_70
  refine lv_aload_n hx hb dO_ofObjects_0 rfl (lv_at hl 0 rfl) ?_
  refine lv_iload_n hx hb dO_ofObjects_1 rfl (lv_at hl 1 rfl) ?_
  obtain ⟨o1, hq2, hf⟩ := xbind hf
  obtain ⟨hPc, hDc, hFc⟩ := xcut (wc := [(a0, .inr (2, [.ref a1, .int v1, .int v2])), (a1, .inl (cT 2, 4096, .inr (.inl f0)))]) hP hD hS hA [0, 1] rfl rfl (by decide)
  refine va_calli (va_runV (C := "ValueBench$Row") (As := [.int x1]) (rest := []) ⟨hx, hb, hml, hown, htx⟩ (gR_length l hl9 D cT aK aV s.heap.size n a0 a1 x1 f0 v1 v2 o1 hq2) ⟨callB_of 1 htx (xw_goodC kw_2_191) rfl rfl rfl (htx _ kw_1_4) (htx _ kw_3_178) ⟨by decide, by decide, by decide +kernel⟩ ⟨Nat.le_of_ble_eq_true rfl, Nat.le_of_ble_eq_true rfl⟩, (htx _ kw_2_189), (htx _ kw_2_190)⟩ ⟨xPre_blind, va_recv hK hP (ci := 2) rfl (q0 := 0) rfl, (fun U hU hW => ⟨rfl, xPre_of hZ hS hFc hPc hDc hK U hU hW⟩)⟩ rfl rfl hl.1 rfl (lv_room (Nat.le_of_ble_eq_true rfl)) dO_ofObjects_2 ⟨Nat.le_of_ble_eq_true rfl, Nat.le_of_ble_eq_true rfl⟩) hS (fun q _ h => hFc q h) hFc (fun r3 u9 t H1 locs ht hvm hr9 hB hz1 hk1 hS => ?_)
  obtain ⟨hP1, hK1, hD1⟩ := hB
  rw [ht] at hP1
  obtain ⟨hP, hD⟩ := xjoin (W := [(a2, .inr (2, [.ref a3, .int v4, .int v5])), (a3, .inl (cT 2, 4096, .inr (.inl f3))), (a0, .inr (2, [.ref a1, .int v1, .int v2])), (a1, .inl (cT 2, 4096, .inr (.inl f0)))]) hP hD [0, 1] [2, 3] 2 rfl rfl (by decide) (by decide) hk1 hFc hP1 hD1
  generalize H1 = H at hP hS ⊢
  rw [hr9]
  refine W.eq (g2 := F0 m 5 ls [.int o1]) rfl ?_
  refine lv_aload_n hx hb dO_ofObjects_5 rfl (lv_at hl 2 rfl) ?_
  refine lv_iload_n hx hb dO_ofObjects_6 rfl (lv_at hl 3 rfl) ?_
  obtain ⟨o4, hq5, hf⟩ := xbind hf
  obtain ⟨hPc, hDc, hFc⟩ := xcut (wc := [(a2, .inr (2, [.ref a3, .int v4, .int v5])), (a3, .inl (cT 2, 4096, .inr (.inl f3)))]) hP hD hS hA [0, 1] rfl rfl (by decide)
  refine va_calli (va_runV (C := "ValueBench$Row") (As := [.int x3]) (rest := [.int o1]) ⟨hx, hb, hml, hown, htx⟩ (gR_length l hl9 D cT aK aV H.size n a2 a3 x3 f3 v4 v5 o4 hq5) ⟨callB_of 1 htx (xw_goodC kw_2_191) rfl rfl rfl (htx _ kw_1_4) (htx _ kw_3_178) ⟨by decide, by decide, by decide +kernel⟩ ⟨Nat.le_of_ble_eq_true rfl, Nat.le_of_ble_eq_true rfl⟩, (htx _ kw_2_189), (htx _ kw_2_190)⟩ ⟨xPre_blind, va_recv hK hP (ci := 2) rfl (q0 := 0) rfl, (fun U hU hW => ⟨rfl, xPre_of hZ hS hFc hPc hDc hK U hU hW⟩)⟩ rfl rfl hl.1 rfl (lv_room (Nat.le_of_ble_eq_true rfl)) dO_ofObjects_7 ⟨Nat.le_of_ble_eq_true rfl, Nat.le_of_ble_eq_true rfl⟩) hS (fun q _ h => hFc q h) hFc (fun r6 u9 t H1 locs ht hvm hr9 hB hz1 hk1 hS => ?_)
  obtain ⟨hP1, hK1, hD1⟩ := hB
  rw [ht] at hP1
  obtain ⟨hP, hD⟩ := xjoin (W := [(a0, .inr (2, [.ref a1, .int v1, .int v2])), (a1, .inl (cT 2, 4096, .inr (.inl f0))), (a2, .inr (2, [.ref a3, .int v4, .int v5])), (a3, .inl (cT 2, 4096, .inr (.inl f3)))]) hP hD [0, 1] [2, 3] 2 rfl rfl (by decide) (by decide) hk1 hFc hP1 hD1
  generalize H1 = H at hP hS ⊢
  rw [hr9]
  refine W.eq (g2 := F0 m 10 ls [.int o4, .int o1]) rfl ?_
  refine va_mmin hx hb (hml.trans hl.1.symm) hown (htx _ kw_3_179) (htx _ kw_2_3) (htx _ kw_1_15) (htx _ kw_2_4) (Nat.le_of_ble_eq_true rfl) (Nat.le_of_ble_eq_true rfl) (Nat.le_of_ble_eq_true rfl) (Nat.le_of_ble_eq_true rfl) dO_ofObjects_10 ?_
  refine W.eq (g2 := F0 m 13 ls [.int (if o4 < o1 then o4 else o1)]) rfl ?_
  refine lv_istore (lv' := [(5, .int (if o4 < o1 then o4 else o1)), (0, .ref a0), (1, .int x1), (2, .ref a2), (3, .int x3), (4, .int x4)]) hx hb dO_ofObjects_13 hl (by decide) rfl (fun ls hl => ?_)
  refine lv_iconst (v := (-1)) hx hb dO_ofObjects_15 (by decide) ?_
  refine lv_istore (lv' := [(6, .int (-1)), (5, .int (if o4 < o1 then o4 else o1)), (0, .ref a0), (1, .int x1), (2, .ref a2), (3, .int x3), (4, .int x4)]) hx hb dO_ofObjects_16 hl (by decide) rfl (fun ls hl => ?_)
  refine lv_iconst (v := (-1)) hx hb dO_ofObjects_18 (by decide) ?_
  refine lv_istore (lv' := [(7, .int (-1)), (6, .int (-1)), (5, .int (if o4 < o1 then o4 else o1)), (0, .ref a0), (1, .int x1), (2, .ref a2), (3, .int x3), (4, .int x4)]) hx hb dO_ofObjects_19 hl (by decide) rfl (fun ls hl => ?_)
  refine lv_iconst (v := 0) hx hb dO_ofObjects_21 (by decide) ?_
  refine lv_istore (lv' := [(8, .int 0), (7, .int (-1)), (6, .int (-1)), (5, .int (if o4 < o1 then o4 else o1)), (0, .ref a0), (1, .int x1), (2, .ref a2), (3, .int x3), (4, .int x4)]) hx hb dO_ofObjects_22 hl (by decide) rfl (fun ls hl => ?_)
  refine lv_iconst (v := 0) hx hb dO_ofObjects_24 (by decide) ?_
  refine lv_istore (lv' := [(9, .int 0), (8, .int 0), (7, .int (-1)), (6, .int (-1)), (5, .int (if o4 < o1 then o4 else o1)), (0, .ref a0), (1, .int x1), (2, .ref a2), (3, .int x3), (4, .int x4)]) hx hb dO_ofObjects_25 hl (by decide) rfl (fun ls hl => ?_)
  obtain ⟨hP9, hD9⟩ := xsub (wc := [(a0, .inr (2, [.ref a1, .int v1, .int v2])), (a1, .inl (cT 2, 4096, .inr (.inl f0))), (a2, .inr (2, [.ref a3, .int v4, .int v5])), (a3, .inl (cT 2, 4096, .inr (.inl f3)))]) hP hD [0, 1, 2, 3] rfl rfl (by decide)
  exact key n (1, 0, 0, (-1), (-1), (if o4 < o1 then o4 else o1), x1, x3, x4) _ _ ls (⟨rfl, hf, hP9, hD9, hS, lv_sub hl [0, 1, 2, 3, 4, 5, 6, 7, 8, 9] rfl⟩)
set_option maxHeartbeats 400000000 in
set_option maxRecDepth 100000 in
theorem gO_of (l : Launch) (hl9 : l.stackTraces = false) (D : va_G) (cT : Nat → ClassId) (aK aV : Nat → Nat) : ∀ (d sz n : Nat) (a0 : Nat) (a1 : Nat) (a2 : Nat) (a3 : Nat) (x1 : Int32) (x3 : Int32) (x4 : Int32) (f0 : Nat → Int64) (v1 : Int32) (v2 : Int32) (f3 : Nat → Int64) (v4 : Int32) (v5 : Int32) (out : Int32) (hf : fO_of d n x1 x3 x4 f0 v1 v2 f3 v4 v5 = some out), xMet l yO_of wyO_of (16 * d) 0 0 (400 * d) D cT aK aV sz [.ref a0, .int x1, .ref a2, .int x3, .int x4] [(a0, .inr (2, [.ref a1, .int v1, .int v2])), (a1, .inl (cT 2, 4096, .inr (.inl f0))), (a2, .inr (2, [.ref a3, .int v4, .int v5])), (a3, .inl (cT 2, 4096, .inr (.inl f3)))] (fun A => va_Qi (fun (r : Int32) (_ : Unit) => r = out) (fun _ t => xB D xcl cT A [(a0, .inr (2, [.ref a1, .int v1, .int v2])), (a1, .inl (cT 2, 4096, .inr (.inl f0))), (a2, .inr (2, [.ref a3, .int v4, .int v5])), (a3, .inl (cT 2, 4096, .inr (.inl f3)))] t) A) := by
  intro d
  induction d with
  | zero =>
    intro sz n a0 a1 a2 a3 x1 x3 x4 f0 v1 v2 f3 v4 v5 out hf
    rw [fO_of] at hf
    exact nomatch hf
  | succ d ih =>
    intro sz n a0 a1 a2 a3 x1 x3 x4 f0 v1 v2 f3 v4 v5 out hf
    rw [fO_of] at hf
    refine Met.ofW (cc := prog_4_method_2_code) (maxL := 5) (ret := (some .int)) (by decide) rfl ?_
    intro p e s m args below meth c s₁ B hml hv
    obtain ⟨rfl, hsz, hZ, hP, hK, hD0⟩ := hv
    have hx := B.exec
    have hb := B.bytes
    have hr := B.returns
    have hts := atoms_spec (ws := wyO_of) B.pre
    have htx := fun w h => hts w (List.mem_cons_of_mem _ h)
    have hown : s.vm.findClass "ValueBench$Order" = some m.cls := findClass_of_methodNamed B.named
    have hlocks := B.notSynchronized
    subst hsz
    have hD := hD0.self (sz := s.heap.size)
    generalize hAe : va_A [(a0, .inr (2, [.ref a1, .int v1, .int v2])), (a1, .inl (cT 2, 4096, .inr (.inl f0))), (a2, .inr (2, [.ref a3, .int v4, .int v5])), (a3, .inl (cT 2, 4096, .inr (.inl f3)))] s.heap.size = A at hD hZ ⊢
    have hA : ∀ q : Nat, s.heap.size ≤ q → A q := fun q h => by rw [← hAe]; exact Or.inr h
    have hS : va_S A s.heap s.heap [] := va_S.rf
    have hP : va_P D xcl [(a0, .inr (2, [.ref a1, .int v1, .int v2])), (a1, .inl (cT 2, 4096, .inr (.inl f0))), (a2, .inr (2, [.ref a3, .int v4, .int v5])), (a3, .inl (cT 2, 4096, .inr (.inl f3)))] s.heap := hP
    have hl := lv_entry ([.ref a0, .int x1, .ref a2, .int x3, .int x4]) (n := 5) (Nat.le_of_ble_eq_true rfl)
    rw [lg_entry_eq]
    generalize (lg_sl ([.ref a0, .int x1, .ref a2, .int x3, .int x4]) ++ List.replicate (5 - (lg_sl ([.ref a0, .int x1, .ref a2, .int x3, .int x4])).length) Slot.unset).toArray = ls at hl ⊢
    have hl : lv_has ls 5 [(0, .ref a0), (1, .int x1), (2, .ref a2), (3, .int x3), (4, .int x4)] := hl
    refine lv_aload_n hx hb dO_of_0 rfl (lv_at hl 0 rfl) ?_
    refine lv_iload_n hx hb dO_of_1 rfl (lv_at hl 1 rfl) ?_
    obtain ⟨o1, hq2, hf⟩ := xbind hf
    obtain ⟨hPc, hDc, hFc⟩ := xcut (wc := [(a0, .inr (2, [.ref a1, .int v1, .int v2])), (a1, .inl (cT 2, 4096, .inr (.inl f0)))]) hP hD hS hA [0, 1] rfl rfl (by decide)
    refine va_calli (va_runV (C := "ValueBench$Row") (As := [.int x1]) (rest := []) ⟨hx, hb, hml, hown, htx⟩ (gR_kind l hl9 D cT aK aV s.heap.size n a0 a1 x1 f0 v1 v2 o1 hq2) ⟨callB_of 1 htx (xw_goodC kw_3_24) rfl rfl rfl (htx _ kw_1_4) (htx _ kw_3_166) ⟨by decide, by decide, by decide +kernel⟩ ⟨Nat.le_of_ble_eq_true rfl, Nat.le_of_ble_eq_true rfl⟩, (htx _ kw_3_22), (htx _ kw_3_23)⟩ ⟨xPre_blind, va_recv hK hP (ci := 2) rfl (q0 := 0) rfl, (fun U hU hW => ⟨rfl, xPre_of hZ hS hFc hPc hDc hK U hU hW⟩)⟩ rfl rfl hl.1 rfl (lv_room (Nat.le_of_ble_eq_true rfl)) dO_of_2 ⟨Nat.le_of_ble_eq_true rfl, Nat.le_of_ble_eq_true rfl⟩) hS (fun q _ h => hFc q h) hFc (fun r3 u9 t H1 locs ht hvm hr9 hB hz1 hk1 hS => ?_)
    obtain ⟨hP1, hK1, hD1⟩ := hB
    rw [ht] at hP1
    obtain ⟨hP, hD⟩ := xjoin (W := [(a2, .inr (2, [.ref a3, .int v4, .int v5])), (a3, .inl (cT 2, 4096, .inr (.inl f3))), (a0, .inr (2, [.ref a1, .int v1, .int v2])), (a1, .inl (cT 2, 4096, .inr (.inl f0)))]) hP hD [0, 1] [2, 3] 2 rfl rfl (by decide) (by decide) hk1 hFc hP1 hD1
    generalize H1 = H at hP hS ⊢
    rw [hr9]
    refine W.eq (g2 := F0 m 5 ls [.int o1]) rfl ?_
    refine lv_aload_n hx hb dO_of_5 rfl (lv_at hl 2 rfl) ?_
    refine lv_iload_n hx hb dO_of_6 rfl (lv_at hl 3 rfl) ?_
    obtain ⟨o4, hq5, hf⟩ := xbind hf
    obtain ⟨hPc, hDc, hFc⟩ := xcut (wc := [(a2, .inr (2, [.ref a3, .int v4, .int v5])), (a3, .inl (cT 2, 4096, .inr (.inl f3)))]) hP hD hS hA [0, 1] rfl rfl (by decide)
    refine va_calli (va_runV (C := "ValueBench$Row") (As := [.int x3]) (rest := [.int o1]) ⟨hx, hb, hml, hown, htx⟩ (gR_kind l hl9 D cT aK aV H.size n a2 a3 x3 f3 v4 v5 o4 hq5) ⟨callB_of 1 htx (xw_goodC kw_3_24) rfl rfl rfl (htx _ kw_1_4) (htx _ kw_3_166) ⟨by decide, by decide, by decide +kernel⟩ ⟨Nat.le_of_ble_eq_true rfl, Nat.le_of_ble_eq_true rfl⟩, (htx _ kw_3_22), (htx _ kw_3_23)⟩ ⟨xPre_blind, va_recv hK hP (ci := 2) rfl (q0 := 0) rfl, (fun U hU hW => ⟨rfl, xPre_of hZ hS hFc hPc hDc hK U hU hW⟩)⟩ rfl rfl hl.1 rfl (lv_room (Nat.le_of_ble_eq_true rfl)) dO_of_7 ⟨Nat.le_of_ble_eq_true rfl, Nat.le_of_ble_eq_true rfl⟩) hS (fun q _ h => hFc q h) hFc (fun r6 u9 t H1 locs ht hvm hr9 hB hz1 hk1 hS => ?_)
    obtain ⟨hP1, hK1, hD1⟩ := hB
    rw [ht] at hP1
    obtain ⟨hP, hD⟩ := xjoin (W := [(a0, .inr (2, [.ref a1, .int v1, .int v2])), (a1, .inl (cT 2, 4096, .inr (.inl f0))), (a2, .inr (2, [.ref a3, .int v4, .int v5])), (a3, .inl (cT 2, 4096, .inr (.inl f3)))]) hP hD [0, 1] [2, 3] 2 rfl rfl (by decide) (by decide) hk1 hFc hP1 hD1
    generalize H1 = H at hP hS ⊢
    rw [hr9]
    refine W.eq (g2 := F0 m 10 ls [.int o4, .int o1]) rfl ?_
    refine lv_icmp_ne (tgt := 20) hx hb dO_of_10 (by decide) (fun hc => ?_) (fun hc => ?_)
    · rw [if_neg hc] at hf
      refine lv_aload_n hx hb dO_of_20 rfl (lv_at hl 0 rfl) ?_
      refine lv_iload_n hx hb dO_of_21 rfl (lv_at hl 1 rfl) ?_
      obtain ⟨o7, hq8, hf⟩ := xbind hf
      obtain ⟨hPc, hDc, hFc⟩ := xcut (wc := [(a0, .inr (2, [.ref a1, .int v1, .int v2])), (a1, .inl (cT 2, 4096, .inr (.inl f0)))]) hP hD hS hA [0, 1] rfl rfl (by decide)
      refine va_calli (va_runV (C := "ValueBench$Row") (As := [.int x1]) (rest := []) ⟨hx, hb, hml, hown, htx⟩ (gR_kind l hl9 D cT aK aV H.size n a0 a1 x1 f0 v1 v2 o7 hq8) ⟨callB_of 1 htx (xw_goodC kw_3_24) rfl rfl rfl (htx _ kw_1_4) (htx _ kw_3_166) ⟨by decide, by decide, by decide +kernel⟩ ⟨Nat.le_of_ble_eq_true rfl, Nat.le_of_ble_eq_true rfl⟩, (htx _ kw_3_22), (htx _ kw_3_23)⟩ ⟨xPre_blind, va_recv hK hP (ci := 2) rfl (q0 := 0) rfl, (fun U hU hW => ⟨rfl, xPre_of hZ hS hFc hPc hDc hK U hU hW⟩)⟩ rfl rfl hl.1 rfl (lv_room (Nat.le_of_ble_eq_true rfl)) dO_of_22 ⟨Nat.le_of_ble_eq_true rfl, Nat.le_of_ble_eq_true rfl⟩) hS (fun q _ h => hFc q h) hFc (fun r9 u9 t H1 locs ht hvm hr9 hB hz1 hk1 hS => ?_)
      obtain ⟨hP1, hK1, hD1⟩ := hB
      rw [ht] at hP1
      obtain ⟨hP, hD⟩ := xjoin (W := [(a2, .inr (2, [.ref a3, .int v4, .int v5])), (a3, .inl (cT 2, 4096, .inr (.inl f3))), (a0, .inr (2, [.ref a1, .int v1, .int v2])), (a1, .inl (cT 2, 4096, .inr (.inl f0)))]) hP hD [0, 1] [2, 3] 2 rfl rfl (by decide) (by decide) hk1 hFc hP1 hD1
      generalize H1 = H at hP hS ⊢
      rw [hr9]
      refine W.eq (g2 := F0 m 25 ls [.int o7]) rfl ?_
      refine lv_aload_n hx hb dO_of_25 rfl (lv_at hl 2 rfl) ?_
      refine lv_iload_n hx hb dO_of_26 rfl (lv_at hl 3 rfl) ?_
      obtain ⟨o10, hq11, hf⟩ := xbind hf
      obtain ⟨hPc, hDc, hFc⟩ := xcut (wc := [(a2, .inr (2, [.ref a3, .int v4, .int v5])), (a3, .inl (cT 2, 4096, .inr (.inl f3)))]) hP hD hS hA [0, 1] rfl rfl (by decide)
      refine va_calli (va_runV (C := "ValueBench$Row") (As := [.int x3]) (rest := [.int o7]) ⟨hx, hb, hml, hown, htx⟩ (gR_kind l hl9 D cT aK aV H.size n a2 a3 x3 f3 v4 v5 o10 hq11) ⟨callB_of 1 htx (xw_goodC kw_3_24) rfl rfl rfl (htx _ kw_1_4) (htx _ kw_3_166) ⟨by decide, by decide, by decide +kernel⟩ ⟨Nat.le_of_ble_eq_true rfl, Nat.le_of_ble_eq_true rfl⟩, (htx _ kw_3_22), (htx _ kw_3_23)⟩ ⟨xPre_blind, va_recv hK hP (ci := 2) rfl (q0 := 0) rfl, (fun U hU hW => ⟨rfl, xPre_of hZ hS hFc hPc hDc hK U hU hW⟩)⟩ rfl rfl hl.1 rfl (lv_room (Nat.le_of_ble_eq_true rfl)) dO_of_27 ⟨Nat.le_of_ble_eq_true rfl, Nat.le_of_ble_eq_true rfl⟩) hS (fun q _ h => hFc q h) hFc (fun r12 u9 t H1 locs ht hvm hr9 hB hz1 hk1 hS => ?_)
      obtain ⟨hP1, hK1, hD1⟩ := hB
      rw [ht] at hP1
      obtain ⟨hP, hD⟩ := xjoin (W := [(a0, .inr (2, [.ref a1, .int v1, .int v2])), (a1, .inl (cT 2, 4096, .inr (.inl f0))), (a2, .inr (2, [.ref a3, .int v4, .int v5])), (a3, .inl (cT 2, 4096, .inr (.inl f3)))]) hP hD [0, 1] [2, 3] 2 rfl rfl (by decide) (by decide) hk1 hFc hP1 hD1
      generalize H1 = H at hP hS ⊢
      rw [hr9]
      refine W.eq (g2 := F0 m 30 ls [.int o10, .int o7]) rfl ?_
      obtain ⟨o13, hq14, hf⟩ := xbind hf
      obtain ⟨hPc, hDc, hFc⟩ := xcut (wc := []) hP hD hS hA [] rfl rfl (by decide)
      refine va_calli (va_runS (As := [.int o7, .int o10]) (rest := []) ⟨hx, hb, hml, hown, htx⟩ (gJI_compare l hl9 D cT aK aV H.size n o7 o10 o13 hq14) ⟨callB_of 2 htx (xw_goodC kw_3_169) rfl rfl rfl (htx _ kw_1_24) (htx _ kw_3_167) ⟨by decide, by decide, by decide +kernel⟩ ⟨Nat.le_of_ble_eq_true rfl, Nat.le_of_ble_eq_true rfl⟩, htx _ kw_3_168⟩ ⟨xPre_blind, (fun U hU hW => ⟨rfl, xPre_of hZ hS hFc hPc hDc hK U hU hW⟩)⟩ rfl rfl hl.1 rfl (lv_room (Nat.le_of_ble_eq_true rfl)) dO_of_30 ⟨Nat.le_of_ble_eq_true rfl, Nat.le_of_ble_eq_true rfl⟩) hS (fun q _ h => hFc q h) hFc (fun r15 u9 t H1 locs ht hvm hr9 hB hz1 hk1 hS => ?_)
      obtain ⟨hP1, hK1, hD1⟩ := hB
      rw [ht] at hP1
      obtain ⟨hP, hD⟩ := xjoin (W := [(a0, .inr (2, [.ref a1, .int v1, .int v2])), (a1, .inl (cT 2, 4096, .inr (.inl f0))), (a2, .inr (2, [.ref a3, .int v4, .int v5])), (a3, .inl (cT 2, 4096, .inr (.inl f3)))]) hP hD [] [0, 1, 2, 3] 4 rfl rfl (by decide) (by decide) hk1 hFc hP1 hD1
      generalize H1 = H at hP hS ⊢
      rw [hr9]
      refine W.eq (g2 := F0 m 33 ls [.int o13]) rfl ?_
      obtain rfl := Option.some.inj hf
      obtain ⟨hP9, hD9⟩ := xsub (wc := [(a0, .inr (2, [.ref a1, .int v1, .int v2])), (a1, .inl (cT 2, 4096, .inr (.inl f0))), (a2, .inr (2, [.ref a3, .int v4, .int v5])), (a3, .inl (cT 2, 4096, .inr (.inl f3)))]) hP hD [0, 1, 2, 3] rfl rfl (by decide)
      exact W.iret (v := o13) hx hb hr (fun t ht hW => ⟨⟨o13, (), rfl, rfl, by rw [ht]; exact hP9, va_K.moved hW.alike hK, hD9⟩, hS.F ht⟩) hS.2.2 dO_of_33
    · rw [if_pos hc] at hf
      refine lv_iload hx hb dO_of_13 (lv_at hl 4 rfl) ?_
      refine lv_bipush (v := 60) hx hb dO_of_15 (by decide) ?_
      refine lv_icmp_le (tgt := 34) hx hb dO_of_17 (by decide) (fun hc => ?_) (fun hc => ?_)
      · rw [if_pos hc] at hf
        refine lv_aload_n hx hb dO_of_34 rfl (lv_at hl 0 rfl) ?_
        refine lv_iload_n hx hb dO_of_35 rfl (lv_at hl 1 rfl) ?_
        obtain ⟨o7, hq8, hf⟩ := xbind hf
        obtain ⟨hPc, hDc, hFc⟩ := xcut (wc := [(a0, .inr (2, [.ref a1, .int v1, .int v2])), (a1, .inl (cT 2, 4096, .inr (.inl f0)))]) hP hD hS hA [0, 1] rfl rfl (by decide)
        refine va_calli (va_runV (C := "ValueBench$Row") (As := [.int x1]) (rest := []) ⟨hx, hb, hml, hown, htx⟩ (gR_kind l hl9 D cT aK aV H.size n a0 a1 x1 f0 v1 v2 o7 hq8) ⟨callB_of 1 htx (xw_goodC kw_3_24) rfl rfl rfl (htx _ kw_1_4) (htx _ kw_3_166) ⟨by decide, by decide, by decide +kernel⟩ ⟨Nat.le_of_ble_eq_true rfl, Nat.le_of_ble_eq_true rfl⟩, (htx _ kw_3_22), (htx _ kw_3_23)⟩ ⟨xPre_blind, va_recv hK hP (ci := 2) rfl (q0 := 0) rfl, (fun U hU hW => ⟨rfl, xPre_of hZ hS hFc hPc hDc hK U hU hW⟩)⟩ rfl rfl hl.1 rfl (lv_room (Nat.le_of_ble_eq_true rfl)) dO_of_36 ⟨Nat.le_of_ble_eq_true rfl, Nat.le_of_ble_eq_true rfl⟩) hS (fun q _ h => hFc q h) hFc (fun r9 u9 t H1 locs ht hvm hr9 hB hz1 hk1 hS => ?_)
        obtain ⟨hP1, hK1, hD1⟩ := hB
        rw [ht] at hP1
        obtain ⟨hP, hD⟩ := xjoin (W := [(a2, .inr (2, [.ref a3, .int v4, .int v5])), (a3, .inl (cT 2, 4096, .inr (.inl f3))), (a0, .inr (2, [.ref a1, .int v1, .int v2])), (a1, .inl (cT 2, 4096, .inr (.inl f0)))]) hP hD [0, 1] [2, 3] 2 rfl rfl (by decide) (by decide) hk1 hFc hP1 hD1
        generalize H1 = H at hP hS ⊢
        rw [hr9]
        refine W.eq (g2 := F0 m 39 ls [.int o7]) rfl ?_
        by_cases hc10 : o7 = 3
        · rw [if_pos hc10] at hf
          refine lv_tableIn (off := 29) (tgt := 68) hx hb dO_of_39 (by rw [hc10]; decide) (by rw [hc10]; decide) (by rw [hc10]; decide) (by decide) ?_
          refine lv_aload_n hx hb dO_of_68 rfl (lv_at hl 0 rfl) ?_
          refine lv_iload_n hx hb dO_of_69 rfl (lv_at hl 1 rfl) ?_
          obtain ⟨o11, hq12, hf⟩ := xbind hf
          obtain ⟨hPc, hDc, hFc⟩ := xcut (wc := [(a0, .inr (2, [.ref a1, .int v1, .int v2])), (a1, .inl (cT 2, 4096, .inr (.inl f0)))]) hP hD hS hA [2, 3] rfl rfl (by decide)
          refine va_calll (va_runV (C := "ValueBench$Row") (As := [.int x1]) (rest := []) ⟨hx, hb, hml, hown, htx⟩ (gR_number l hl9 D cT aK aV H.size n a0 a1 x1 f0 v1 v2 o11 hq12) ⟨callB_of 1 htx (xw_goodC kw_3_37) rfl rfl rfl (htx _ kw_1_4) (htx _ kw_3_170) ⟨by decide, by decide, by decide +kernel⟩ ⟨Nat.le_of_ble_eq_true rfl, Nat.le_of_ble_eq_true rfl⟩, (htx _ kw_3_35), (htx _ kw_3_36)⟩ ⟨xPre_blind, va_recv hK hP (ci := 2) rfl (q0 := 2) rfl, (fun U hU hW => ⟨rfl, xPre_of hZ hS hFc hPc hDc hK U hU hW⟩)⟩ rfl rfl hl.1 rfl (lv_room (Nat.le_of_ble_eq_true rfl)) dO_of_70 ⟨Nat.le_of_ble_eq_true rfl, Nat.le_of_ble_eq_true rfl⟩) hS (fun q _ h => hFc q h) hFc (fun r13 u9 t H1 locs ht hvm hr9 hB hz1 hk1 hS => ?_)
          obtain ⟨hP1, hK1, hD1⟩ := hB
          rw [ht] at hP1
          obtain ⟨hP, hD⟩ := xjoin (W := [(a2, .inr (2, [.ref a3, .int v4, .int v5])), (a3, .inl (cT 2, 4096, .inr (.inl f3))), (a0, .inr (2, [.ref a1, .int v1, .int v2])), (a1, .inl (cT 2, 4096, .inr (.inl f0)))]) hP hD [2, 3] [0, 1] 2 rfl rfl (by decide) (by decide) hk1 hFc hP1 hD1
          generalize H1 = H at hP hS ⊢
          rw [hr9]
          refine W.eq (g2 := F0 m 73 ls [.long o11]) rfl ?_
          refine lv_aload_n hx hb dO_of_73 rfl (lv_at hl 2 rfl) ?_
          refine lv_iload_n hx hb dO_of_74 rfl (lv_at hl 3 rfl) ?_
          obtain ⟨o14, hq15, hf⟩ := xbind hf
          obtain ⟨hPc, hDc, hFc⟩ := xcut (wc := [(a2, .inr (2, [.ref a3, .int v4, .int v5])), (a3, .inl (cT 2, 4096, .inr (.inl f3)))]) hP hD hS hA [0, 1] rfl rfl (by decide)
          refine va_calll (va_runV (C := "ValueBench$Row") (As := [.int x3]) (rest := [.long o11]) ⟨hx, hb, hml, hown, htx⟩ (gR_number l hl9 D cT aK aV H.size n a2 a3 x3 f3 v4 v5 o14 hq15) ⟨callB_of 1 htx (xw_goodC kw_3_37) rfl rfl rfl (htx _ kw_1_4) (htx _ kw_3_170) ⟨by decide, by decide, by decide +kernel⟩ ⟨Nat.le_of_ble_eq_true rfl, Nat.le_of_ble_eq_true rfl⟩, (htx _ kw_3_35), (htx _ kw_3_36)⟩ ⟨xPre_blind, va_recv hK hP (ci := 2) rfl (q0 := 0) rfl, (fun U hU hW => ⟨rfl, xPre_of hZ hS hFc hPc hDc hK U hU hW⟩)⟩ rfl rfl hl.1 rfl (lv_room (Nat.le_of_ble_eq_true rfl)) dO_of_75 ⟨Nat.le_of_ble_eq_true rfl, Nat.le_of_ble_eq_true rfl⟩) hS (fun q _ h => hFc q h) hFc (fun r16 u9 t H1 locs ht hvm hr9 hB hz1 hk1 hS => ?_)
          obtain ⟨hP1, hK1, hD1⟩ := hB
          rw [ht] at hP1
          obtain ⟨hP, hD⟩ := xjoin (W := [(a0, .inr (2, [.ref a1, .int v1, .int v2])), (a1, .inl (cT 2, 4096, .inr (.inl f0))), (a2, .inr (2, [.ref a3, .int v4, .int v5])), (a3, .inl (cT 2, 4096, .inr (.inl f3)))]) hP hD [0, 1] [2, 3] 2 rfl rfl (by decide) (by decide) hk1 hFc hP1 hD1
          generalize H1 = H at hP hS ⊢
          rw [hr9]
          refine W.eq (g2 := F0 m 78 ls [.long o14, .long o11]) rfl ?_
          obtain ⟨o17, hq18, hf⟩ := xbind hf
          obtain ⟨hPc, hDc, hFc⟩ := xcut (wc := []) hP hD hS hA [] rfl rfl (by decide)
          refine va_calli (va_runS (As := [.long o11, .long o14]) (rest := []) ⟨hx, hb, hml, hown, htx⟩ (gJL_compare l hl9 D cT aK aV H.size n o11 o14 o17 hq18) ⟨callB_of 2 htx (xw_goodC kw_3_173) rfl rfl rfl (htx _ kw_1_25) (htx _ kw_3_171) ⟨by decide, by decide, by decide +kernel⟩ ⟨Nat.le_of_ble_eq_true rfl, Nat.le_of_ble_eq_true rfl⟩, htx _ kw_3_172⟩ ⟨xPre_blind, (fun U hU hW => ⟨rfl, xPre_of hZ hS hFc hPc hDc hK U hU hW⟩)⟩ rfl rfl hl.1 rfl (lv_room (Nat.le_of_ble_eq_true rfl)) dO_of_78 ⟨Nat.le_of_ble_eq_true rfl, Nat.le_of_ble_eq_true rfl⟩) hS (fun q _ h => hFc q h) hFc (fun r19 u9 t H1 locs ht hvm hr9 hB hz1 hk1 hS => ?_)
          obtain ⟨hP1, hK1, hD1⟩ := hB
          rw [ht] at hP1
          obtain ⟨hP, hD⟩ := xjoin (W := [(a0, .inr (2, [.ref a1, .int v1, .int v2])), (a1, .inl (cT 2, 4096, .inr (.inl f0))), (a2, .inr (2, [.ref a3, .int v4, .int v5])), (a3, .inl (cT 2, 4096, .inr (.inl f3)))]) hP hD [] [0, 1, 2, 3] 4 rfl rfl (by decide) (by decide) hk1 hFc hP1 hD1
          generalize H1 = H at hP hS ⊢
          rw [hr9]
          refine W.eq (g2 := F0 m 81 ls [.int o17]) rfl ?_
          obtain rfl := Option.some.inj hf
          obtain ⟨hP9, hD9⟩ := xsub (wc := [(a0, .inr (2, [.ref a1, .int v1, .int v2])), (a1, .inl (cT 2, 4096, .inr (.inl f0))), (a2, .inr (2, [.ref a3, .int v4, .int v5])), (a3, .inl (cT 2, 4096, .inr (.inl f3)))]) hP hD [0, 1, 2, 3] rfl rfl (by decide)
          exact W.iret (v := o17) hx hb hr (fun t ht hW => ⟨⟨o17, (), rfl, rfl, by rw [ht]; exact hP9, va_K.moved hW.alike hK, hD9⟩, hS.F ht⟩) hS.2.2 dO_of_81
        rw [if_neg hc10] at hf
        by_cases hc20 : o7 = 4
        · rw [if_pos hc20] at hf
          refine lv_tableIn (off := 43) (tgt := 82) hx hb dO_of_39 (by rw [hc20]; decide) (by rw [hc20]; decide) (by rw [hc20]; decide) (by decide) ?_
          refine lv_aload_n hx hb dO_of_82 rfl (lv_at hl 0 rfl) ?_
          refine lv_iload_n hx hb dO_of_83 rfl (lv_at hl 1 rfl) ?_
          refine lv_aload_n hx hb dO_of_84 rfl (lv_at hl 2 rfl) ?_
          refine lv_iload_n hx hb dO_of_85 rfl (lv_at hl 3 rfl) ?_
          obtain ⟨o21, hq22, hf⟩ := xbind hf
          obtain ⟨hPc, hDc, hFc⟩ := xcut (wc := [(a0, .inr (2, [.ref a1, .int v1, .int v2])), (a1, .inl (cT 2, 4096, .inr (.inl f0))), (a2, .inr (2, [.ref a3, .int v4, .int v5])), (a3, .inl (cT 2, 4096, .inr (.inl f3)))]) hP hD hS hA [2, 3, 0, 1] rfl rfl (by decide)
          refine va_calli (va_runV (C := "ValueBench$Row") (As := [.int x1, .ref a2, .int x3]) (rest := []) ⟨hx, hb, hml, hown, htx⟩ (gR_orderOfStringsa l hl9 D cT aK aV H.size n a0 a1 a2 a3 x1 x3 f0 v1 v2 f3 v4 v5 o21 hq22) ⟨callB_of 3 htx (xw_goodC kw_2_206) rfl rfl rfl (htx _ kw_1_4) (htx _ kw_3_174) ⟨by decide, by decide, by decide +kernel⟩ ⟨Nat.le_of_ble_eq_true rfl, Nat.le_of_ble_eq_true rfl⟩, (htx _ kw_2_204), (htx _ kw_2_205)⟩ ⟨xPre_blind, va_recv hK hP (ci := 2) rfl (q0 := 2) rfl, (fun U hU hW => ⟨rfl, xPre_of hZ hS hFc hPc hDc hK U hU hW⟩)⟩ rfl rfl hl.1 rfl (lv_room (Nat.le_of_ble_eq_true rfl)) dO_of_86 ⟨Nat.le_of_ble_eq_true rfl, Nat.le_of_ble_eq_true rfl⟩) hS (fun q _ h => hFc q h) hFc (fun r23 u9 t H1 locs ht hvm hr9 hB hz1 hk1 hS => ?_)
          obtain ⟨hP1, hK1, hD1⟩ := hB
          rw [ht] at hP1
          obtain ⟨hP, hD⟩ := xjoin (W := [(a0, .inr (2, [.ref a1, .int v1, .int v2])), (a1, .inl (cT 2, 4096, .inr (.inl f0))), (a2, .inr (2, [.ref a3, .int v4, .int v5])), (a3, .inl (cT 2, 4096, .inr (.inl f3)))]) hP hD [2, 3, 0, 1] [] 0 rfl rfl (by decide) (by decide) hk1 hFc hP1 hD1
          generalize H1 = H at hP hS ⊢
          rw [hr9]
          refine W.eq (g2 := F0 m 89 ls [.int o21]) rfl ?_
          obtain rfl := Option.some.inj hf
          obtain ⟨hP9, hD9⟩ := xsub (wc := [(a0, .inr (2, [.ref a1, .int v1, .int v2])), (a1, .inl (cT 2, 4096, .inr (.inl f0))), (a2, .inr (2, [.ref a3, .int v4, .int v5])), (a3, .inl (cT 2, 4096, .inr (.inl f3)))]) hP hD [0, 1, 2, 3] rfl rfl (by decide)
          exact W.iret (v := o21) hx hb hr (fun t ht hW => ⟨⟨o21, (), rfl, rfl, by rw [ht]; exact hP9, va_K.moved hW.alike hK, hD9⟩, hS.F ht⟩) hS.2.2 dO_of_89
        rw [if_neg hc20] at hf
        by_cases hc24 : o7 = 5
        · rw [if_pos hc24] at hf
          refine lv_tableIn (off := 51) (tgt := 90) hx hb dO_of_39 (by rw [hc24]; decide) (by rw [hc24]; decide) (by rw [hc24]; decide) (by decide) ?_
          refine lv_aload_n hx hb dO_of_90 rfl (lv_at hl 0 rfl) ?_
          refine lv_iload_n hx hb dO_of_91 rfl (lv_at hl 1 rfl) ?_
          refine lv_aload_n hx hb dO_of_92 rfl (lv_at hl 2 rfl) ?_
          refine lv_iload_n hx hb dO_of_93 rfl (lv_at hl 3 rfl) ?_
          refine lv_iload hx hb dO_of_94 (lv_at hl 4 rfl) ?_
          obtain ⟨o25, hq26, hf⟩ := xbind hf
          obtain ⟨hPc, hDc, hFc⟩ := xcut (wc := [(a0, .inr (2, [.ref a1, .int v1, .int v2])), (a1, .inl (cT 2, 4096, .inr (.inl f0))), (a2, .inr (2, [.ref a3, .int v4, .int v5])), (a3, .inl (cT 2, 4096, .inr (.inl f3)))]) hP hD hS hA [2, 3, 0, 1] rfl rfl (by decide)
          refine va_calli (va_runS (As := [.ref a0, .int x1, .ref a2, .int x3, .int x4]) (rest := []) ⟨hx, hb, hml, hown, htx⟩ (gO_ofArrays l hl9 D cT aK aV (16 * d) (400 * d) (fO_of d n) (fun sz => ih sz n) H.size n a0 a1 a2 a3 x1 x3 x4 f0 v1 v2 f3 v4 v5 o25 hq26) ⟨callB_of 5 htx (xw_goodC kw_3_177) rfl rfl rfl (htx _ kw_1_23) (htx _ kw_3_175) ⟨by decide, by decide, by decide +kernel⟩ ⟨(by show (16 * d + 1) + 1 ≤ 16 * (d + 1); omega), (by show 8 + (10 + 11) + (400 * d + 40) ≤ 400 * (d + 1); omega)⟩, htx _ kw_3_176⟩ ⟨xPre_blind, (fun U hU hW => ⟨rfl, xPre_of hZ hS hFc hPc hDc hK U hU hW⟩)⟩ rfl rfl hl.1 rfl (lv_room (Nat.le_of_ble_eq_true rfl)) dO_of_96 ⟨Nat.le_of_ble_eq_true rfl, Nat.le_of_ble_eq_true rfl⟩) hS (fun q _ h => hFc q h) hFc (fun r27 u9 t H1 locs ht hvm hr9 hB hz1 hk1 hS => ?_)
          obtain ⟨hP1, hK1, hD1⟩ := hB
          rw [ht] at hP1
          obtain ⟨hP, hD⟩ := xjoin (W := [(a0, .inr (2, [.ref a1, .int v1, .int v2])), (a1, .inl (cT 2, 4096, .inr (.inl f0))), (a2, .inr (2, [.ref a3, .int v4, .int v5])), (a3, .inl (cT 2, 4096, .inr (.inl f3)))]) hP hD [2, 3, 0, 1] [] 0 rfl rfl (by decide) (by decide) hk1 hFc hP1 hD1
          generalize H1 = H at hP hS ⊢
          rw [hr9]
          refine W.eq (g2 := F0 m 99 ls [.int o25]) rfl ?_
          obtain rfl := Option.some.inj hf
          obtain ⟨hP9, hD9⟩ := xsub (wc := [(a0, .inr (2, [.ref a1, .int v1, .int v2])), (a1, .inl (cT 2, 4096, .inr (.inl f0))), (a2, .inr (2, [.ref a3, .int v4, .int v5])), (a3, .inl (cT 2, 4096, .inr (.inl f3)))]) hP hD [0, 1, 2, 3] rfl rfl (by decide)
          exact W.iret (v := o25) hx hb hr (fun t ht hW => ⟨⟨o25, (), rfl, rfl, by rw [ht]; exact hP9, va_K.moved hW.alike hK, hD9⟩, hS.F ht⟩) hS.2.2 dO_of_99
        rw [if_neg hc24] at hf
        by_cases hc28 : o7 = 6
        · rw [if_pos hc28] at hf
          refine lv_tableIn (off := 61) (tgt := 100) hx hb dO_of_39 (by rw [hc28]; decide) (by rw [hc28]; decide) (by rw [hc28]; decide) (by decide) ?_
          refine lv_aload_n hx hb dO_of_100 rfl (lv_at hl 0 rfl) ?_
          refine lv_iload_n hx hb dO_of_101 rfl (lv_at hl 1 rfl) ?_
          refine lv_aload_n hx hb dO_of_102 rfl (lv_at hl 2 rfl) ?_
          refine lv_iload_n hx hb dO_of_103 rfl (lv_at hl 3 rfl) ?_
          refine lv_iload hx hb dO_of_104 (lv_at hl 4 rfl) ?_
          obtain ⟨o29, hq30, hf⟩ := xbind hf
          obtain ⟨hPc, hDc, hFc⟩ := xcut (wc := [(a0, .inr (2, [.ref a1, .int v1, .int v2])), (a1, .inl (cT 2, 4096, .inr (.inl f0))), (a2, .inr (2, [.ref a3, .int v4, .int v5])), (a3, .inl (cT 2, 4096, .inr (.inl f3)))]) hP hD hS hA [2, 3, 0, 1] rfl rfl (by decide)
          refine va_calli (va_runS (As := [.ref a0, .int x1, .ref a2, .int x3, .int x4]) (rest := []) ⟨hx, hb, hml, hown, htx⟩ (gO_ofObjects l hl9 D cT aK aV (16 * d) (400 * d) (fO_of d n) (fun sz => ih sz n) H.size n a0 a1 a2 a3 x1 x3 x4 f0 v1 v2 f3 v4 v5 o29 hq30) ⟨callB_of 5 htx (xw_goodC kw_3_183) rfl rfl rfl (htx _ kw_1_23) (htx _ kw_3_181) ⟨by decide, by decide, by decide +kernel⟩ ⟨(by show (16 * d + 2) + 1 ≤ 16 * (d + 1); omega), (by show 8 + (11 + 11) + (400 * d + 55) ≤ 400 * (d + 1); omega)⟩, htx _ kw_3_182⟩ ⟨xPre_blind, (fun U hU hW => ⟨rfl, xPre_of hZ hS hFc hPc hDc hK U hU hW⟩)⟩ rfl rfl hl.1 rfl (lv_room (Nat.le_of_ble_eq_true rfl)) dO_of_106 ⟨Nat.le_of_ble_eq_true rfl, Nat.le_of_ble_eq_true rfl⟩) hS (fun q _ h => hFc q h) hFc (fun r31 u9 t H1 locs ht hvm hr9 hB hz1 hk1 hS => ?_)
          obtain ⟨hP1, hK1, hD1⟩ := hB
          rw [ht] at hP1
          obtain ⟨hP, hD⟩ := xjoin (W := [(a0, .inr (2, [.ref a1, .int v1, .int v2])), (a1, .inl (cT 2, 4096, .inr (.inl f0))), (a2, .inr (2, [.ref a3, .int v4, .int v5])), (a3, .inl (cT 2, 4096, .inr (.inl f3)))]) hP hD [2, 3, 0, 1] [] 0 rfl rfl (by decide) (by decide) hk1 hFc hP1 hD1
          generalize H1 = H at hP hS ⊢
          rw [hr9]
          refine W.eq (g2 := F0 m 109 ls [.int o29]) rfl ?_
          obtain rfl := Option.some.inj hf
          obtain ⟨hP9, hD9⟩ := xsub (wc := [(a0, .inr (2, [.ref a1, .int v1, .int v2])), (a1, .inl (cT 2, 4096, .inr (.inl f0))), (a2, .inr (2, [.ref a3, .int v4, .int v5])), (a3, .inl (cT 2, 4096, .inr (.inl f3)))]) hP hD [0, 1, 2, 3] rfl rfl (by decide)
          exact W.iret (v := o29) hx hb hr (fun t ht hW => ⟨⟨o29, (), rfl, rfl, by rw [ht]; exact hP9, va_K.moved hW.alike hK, hD9⟩, hS.F ht⟩) hS.2.2 dO_of_109
        rw [if_neg hc28] at hf
        refine lv_tableOut (tgt := 110) hx hb dO_of_39 (by have e0 : o7.toInt ≠ 3 := xsw hc10 (by decide); have e1 : o7.toInt ≠ 4 := xsw hc20 (by decide); have e2 : o7.toInt ≠ 5 := xsw hc24 (by decide); have e3 : o7.toInt ≠ 6 := xsw hc28 (by decide); omega) (by decide) ?_
        refine lv_iconst (v := 0) hx hb dO_of_110 (by decide) ?_
        obtain rfl := Option.some.inj hf
        obtain ⟨hP9, hD9⟩ := xsub (wc := [(a0, .inr (2, [.ref a1, .int v1, .int v2])), (a1, .inl (cT 2, 4096, .inr (.inl f0))), (a2, .inr (2, [.ref a3, .int v4, .int v5])), (a3, .inl (cT 2, 4096, .inr (.inl f3)))]) hP hD [2, 3, 0, 1] rfl rfl (by decide)
        exact W.iret (v := (0 : Int32)) hx hb hr (fun t ht hW => ⟨⟨(0 : Int32), (), rfl, rfl, by rw [ht]; exact hP9, va_K.moved hW.alike hK, hD9⟩, hS.F ht⟩) hS.2.2 dO_of_111
      · rw [if_neg hc] at hf
        refine lv_aload_n hx hb dO_of_20 rfl (lv_at hl 0 rfl) ?_
        refine lv_iload_n hx hb dO_of_21 rfl (lv_at hl 1 rfl) ?_
        obtain ⟨o7, hq8, hf⟩ := xbind hf
        obtain ⟨hPc, hDc, hFc⟩ := xcut (wc := [(a0, .inr (2, [.ref a1, .int v1, .int v2])), (a1, .inl (cT 2, 4096, .inr (.inl f0)))]) hP hD hS hA [0, 1] rfl rfl (by decide)
        refine va_calli (va_runV (C := "ValueBench$Row") (As := [.int x1]) (rest := []) ⟨hx, hb, hml, hown, htx⟩ (gR_kind l hl9 D cT aK aV H.size n a0 a1 x1 f0 v1 v2 o7 hq8) ⟨callB_of 1 htx (xw_goodC kw_3_24) rfl rfl rfl (htx _ kw_1_4) (htx _ kw_3_166) ⟨by decide, by decide, by decide +kernel⟩ ⟨Nat.le_of_ble_eq_true rfl, Nat.le_of_ble_eq_true rfl⟩, (htx _ kw_3_22), (htx _ kw_3_23)⟩ ⟨xPre_blind, va_recv hK hP (ci := 2) rfl (q0 := 0) rfl, (fun U hU hW => ⟨rfl, xPre_of hZ hS hFc hPc hDc hK U hU hW⟩)⟩ rfl rfl hl.1 rfl (lv_room (Nat.le_of_ble_eq_true rfl)) dO_of_22 ⟨Nat.le_of_ble_eq_true rfl, Nat.le_of_ble_eq_true rfl⟩) hS (fun q _ h => hFc q h) hFc (fun r9 u9 t H1 locs ht hvm hr9 hB hz1 hk1 hS => ?_)
        obtain ⟨hP1, hK1, hD1⟩ := hB
        rw [ht] at hP1
        obtain ⟨hP, hD⟩ := xjoin (W := [(a2, .inr (2, [.ref a3, .int v4, .int v5])), (a3, .inl (cT 2, 4096, .inr (.inl f3))), (a0, .inr (2, [.ref a1, .int v1, .int v2])), (a1, .inl (cT 2, 4096, .inr (.inl f0)))]) hP hD [0, 1] [2, 3] 2 rfl rfl (by decide) (by decide) hk1 hFc hP1 hD1
        generalize H1 = H at hP hS ⊢
        rw [hr9]
        refine W.eq (g2 := F0 m 25 ls [.int o7]) rfl ?_
        refine lv_aload_n hx hb dO_of_25 rfl (lv_at hl 2 rfl) ?_
        refine lv_iload_n hx hb dO_of_26 rfl (lv_at hl 3 rfl) ?_
        obtain ⟨o10, hq11, hf⟩ := xbind hf
        obtain ⟨hPc, hDc, hFc⟩ := xcut (wc := [(a2, .inr (2, [.ref a3, .int v4, .int v5])), (a3, .inl (cT 2, 4096, .inr (.inl f3)))]) hP hD hS hA [0, 1] rfl rfl (by decide)
        refine va_calli (va_runV (C := "ValueBench$Row") (As := [.int x3]) (rest := [.int o7]) ⟨hx, hb, hml, hown, htx⟩ (gR_kind l hl9 D cT aK aV H.size n a2 a3 x3 f3 v4 v5 o10 hq11) ⟨callB_of 1 htx (xw_goodC kw_3_24) rfl rfl rfl (htx _ kw_1_4) (htx _ kw_3_166) ⟨by decide, by decide, by decide +kernel⟩ ⟨Nat.le_of_ble_eq_true rfl, Nat.le_of_ble_eq_true rfl⟩, (htx _ kw_3_22), (htx _ kw_3_23)⟩ ⟨xPre_blind, va_recv hK hP (ci := 2) rfl (q0 := 0) rfl, (fun U hU hW => ⟨rfl, xPre_of hZ hS hFc hPc hDc hK U hU hW⟩)⟩ rfl rfl hl.1 rfl (lv_room (Nat.le_of_ble_eq_true rfl)) dO_of_27 ⟨Nat.le_of_ble_eq_true rfl, Nat.le_of_ble_eq_true rfl⟩) hS (fun q _ h => hFc q h) hFc (fun r12 u9 t H1 locs ht hvm hr9 hB hz1 hk1 hS => ?_)
        obtain ⟨hP1, hK1, hD1⟩ := hB
        rw [ht] at hP1
        obtain ⟨hP, hD⟩ := xjoin (W := [(a0, .inr (2, [.ref a1, .int v1, .int v2])), (a1, .inl (cT 2, 4096, .inr (.inl f0))), (a2, .inr (2, [.ref a3, .int v4, .int v5])), (a3, .inl (cT 2, 4096, .inr (.inl f3)))]) hP hD [0, 1] [2, 3] 2 rfl rfl (by decide) (by decide) hk1 hFc hP1 hD1
        generalize H1 = H at hP hS ⊢
        rw [hr9]
        refine W.eq (g2 := F0 m 30 ls [.int o10, .int o7]) rfl ?_
        obtain ⟨o13, hq14, hf⟩ := xbind hf
        obtain ⟨hPc, hDc, hFc⟩ := xcut (wc := []) hP hD hS hA [] rfl rfl (by decide)
        refine va_calli (va_runS (As := [.int o7, .int o10]) (rest := []) ⟨hx, hb, hml, hown, htx⟩ (gJI_compare l hl9 D cT aK aV H.size n o7 o10 o13 hq14) ⟨callB_of 2 htx (xw_goodC kw_3_169) rfl rfl rfl (htx _ kw_1_24) (htx _ kw_3_167) ⟨by decide, by decide, by decide +kernel⟩ ⟨Nat.le_of_ble_eq_true rfl, Nat.le_of_ble_eq_true rfl⟩, htx _ kw_3_168⟩ ⟨xPre_blind, (fun U hU hW => ⟨rfl, xPre_of hZ hS hFc hPc hDc hK U hU hW⟩)⟩ rfl rfl hl.1 rfl (lv_room (Nat.le_of_ble_eq_true rfl)) dO_of_30 ⟨Nat.le_of_ble_eq_true rfl, Nat.le_of_ble_eq_true rfl⟩) hS (fun q _ h => hFc q h) hFc (fun r15 u9 t H1 locs ht hvm hr9 hB hz1 hk1 hS => ?_)
        obtain ⟨hP1, hK1, hD1⟩ := hB
        rw [ht] at hP1
        obtain ⟨hP, hD⟩ := xjoin (W := [(a0, .inr (2, [.ref a1, .int v1, .int v2])), (a1, .inl (cT 2, 4096, .inr (.inl f0))), (a2, .inr (2, [.ref a3, .int v4, .int v5])), (a3, .inl (cT 2, 4096, .inr (.inl f3)))]) hP hD [] [0, 1, 2, 3] 4 rfl rfl (by decide) (by decide) hk1 hFc hP1 hD1
        generalize H1 = H at hP hS ⊢
        rw [hr9]
        refine W.eq (g2 := F0 m 33 ls [.int o13]) rfl ?_
        obtain rfl := Option.some.inj hf
        obtain ⟨hP9, hD9⟩ := xsub (wc := [(a0, .inr (2, [.ref a1, .int v1, .int v2])), (a1, .inl (cT 2, 4096, .inr (.inl f0))), (a2, .inr (2, [.ref a3, .int v4, .int v5])), (a3, .inl (cT 2, 4096, .inr (.inl f3)))]) hP hD [0, 1, 2, 3] rfl rfl (by decide)
        exact W.iret (v := o13) hx hb hr (fun t ht hW => ⟨⟨o13, (), rfl, rfl, by rw [ht]; exact hP9, va_K.moved hW.alike hK, hD9⟩, hS.F ht⟩) hS.2.2 dO_of_33
set_option maxHeartbeats 400000000 in
set_option maxRecDepth 100000 in
theorem gO_ofArraysa (l : Launch) (hl9 : l.stackTraces = false) (D : va_G) (cT : Nat → ClassId) (aK aV : Nat → Nat) (fr lo : Nat) (rec : Int32 → Int32 → Int32 → (Nat → Int64) → Int32 → Int32 → Option (Int32)) (hrec : ∀ (sz : Nat) (a0 : Nat) (a1 : Nat) (x1 : Int32) (x3 : Int32) (x4 : Int32) (f0 : Nat → Int64) (v1 : Int32) (v2 : Int32) (out : Int32), rec x1 x3 x4 f0 v1 v2 = some out → xMet l yO_of wyO_of fr 0 0 lo D cT aK aV sz [.ref a0, .int x1, .ref a0, .int x3, .int x4] [(a0, .inr (2, [.ref a1, .int v1, .int v2])), (a1, .inl (cT 2, 4096, .inr (.inl f0)))] (fun A => va_Qi (fun (r : Int32) (_ : Unit) => r = out) (fun _ t => xB D xcl cT A [(a0, .inr (2, [.ref a1, .int v1, .int v2])), (a1, .inl (cT 2, 4096, .inr (.inl f0)))] t) A)) (sz n : Nat) (a0 : Nat) (a1 : Nat) (x1 : Int32) (x3 : Int32) (x4 : Int32) (f0 : Nat → Int64) (v1 : Int32) (v2 : Int32) (out : Int32) (hf : fO_ofArraysa rec n x1 x3 x4 f0 v1 v2 = some out) : xMet l yO_ofArrays wyO_ofArrays (fr + 1) 0 0 (lo + 40) D cT aK aV sz [.ref a0, .int x1, .ref a0, .int x3, .int x4] [(a0, .inr (2, [.ref a1, .int v1, .int v2])), (a1, .inl (cT 2, 4096, .inr (.inl f0)))] (fun A => va_Qi (fun (r : Int32) (_ : Unit) => r = out) (fun _ t => xB D xcl cT A [(a0, .inr (2, [.ref a1, .int v1, .int v2])), (a1, .inl (cT 2, 4096, .inr (.inl f0)))] t) A) := by
  refine Met.ofW (cc := prog_4_method_4_code) (maxL := 10) (ret := (some .int)) (by decide) rfl ?_
  intro p e s m args below meth c s₁ B hml hv
  obtain ⟨rfl, hsz, hZ, hP, hK, hD0⟩ := hv
  have hx := B.exec
  have hb := B.bytes
  have hr := B.returns
  have hts := atoms_spec (ws := wyO_ofArrays) B.pre
  have htx := fun w h => hts w (List.mem_cons_of_mem _ h)
  have hown : s.vm.findClass "ValueBench$Order" = some m.cls := findClass_of_methodNamed B.named
  have hlocks := B.notSynchronized
  subst hsz
  have hD := hD0.self (sz := s.heap.size)
  generalize hAe : va_A [(a0, .inr (2, [.ref a1, .int v1, .int v2])), (a1, .inl (cT 2, 4096, .inr (.inl f0)))] s.heap.size = A at hD hZ ⊢
  have hA : ∀ q : Nat, s.heap.size ≤ q → A q := fun q h => by rw [← hAe]; exact Or.inr h
  have hS : va_S A s.heap s.heap [] := va_S.rf
  have hP : va_P D xcl [(a0, .inr (2, [.ref a1, .int v1, .int v2])), (a1, .inl (cT 2, 4096, .inr (.inl f0)))] s.heap := hP
  have hl := lv_entry ([.ref a0, .int x1, .ref a0, .int x3, .int x4]) (n := 10) (Nat.le_of_ble_eq_true rfl)
  rw [lg_entry_eq]
  generalize (lg_sl ([.ref a0, .int x1, .ref a0, .int x3, .int x4]) ++ List.replicate (10 - (lg_sl ([.ref a0, .int x1, .ref a0, .int x3, .int x4])).length) Slot.unset).toArray = ls at hl ⊢
  have hl : lv_has ls 10 [(0, .ref a0), (1, .int x1), (2, .ref a0), (3, .int x3), (4, .int x4)] := hl
  unfold fO_ofArraysa at hf
  refine xloopK (σ := Nat × Int32 × Int32 × Int32 × Int32 × Int32 × Int32 × Int32) (fun n x H locs ls => (x.1 = 1 ∧ fO_ofArraysa_b rec f0 v1 v2 n x.1 x.2.1 x.2.2.1 x.2.2.2.1 x.2.2.2.2.1 x.2.2.2.2.2.1 x.2.2.2.2.2.2.1 x.2.2.2.2.2.2.2 = some out ∧ va_P D xcl [(a0, .inr (2, [.ref a1, .int v1, .int v2])), (a1, .inl (cT 2, 4096, .inr (.inl f0)))] H ∧ va_D A [(a0, .inr (2, [.ref a1, .int v1, .int v2])), (a1, .inl (cT 2, 4096, .inr (.inl f0)))] ∧ va_S A s.heap H locs ∧ lv_has ls 10 [(8, .int x.2.1), (7, .int x.2.2.1), (6, .int x.2.2.2.1), (5, .int x.2.2.2.2.1), (0, .ref a0), (1, .int x.2.2.2.2.2.1), (2, .ref a0), (3, .int x.2.2.2.2.2.2.1), (4, .int x.2.2.2.2.2.2.2)])) (fun x => 28) (fun x H locs ls h => by exact absurd h.2.1 (by rw [fO_ofArraysa_b]; exact fun h => nomatch h)) (fun n ih x H locs ls hv => ?_) (fun key => ?_)
  · obtain ⟨lb, y8, y7, y6, y5, y1, y3, y4⟩ := x
    rcases hv with ⟨hj, hf, hP, hD, hS, hl⟩
    subst hj
    have hf : fO_ofArraysa_b rec f0 v1 v2 (n + 1) 1 y8 y7 y6 y5 y1 y3 y4 = some out := hf
    rw [fO_ofArraysa_b] at hf
    obtain ⟨hP, hD⟩ : xPD D xcl A [(a0, .inr (2, [.ref a1, .int v1, .int v2])), (a1, .inl (cT 2, 4096, .inr (.inl f0)))] H := ⟨hP, hD⟩
    have hl : lv_has ls 10 [(8, .int y8), (7, .int y7), (6, .int y6), (5, .int y5), (0, .ref a0), (1, .int y1), (2, .ref a0), (3, .int y3), (4, .int y4)] := hl
    refine W.eq (g2 := F0 m 28 ls []) rfl ?_
    refine lv_iload hx hb dO_ofArrays_28 (lv_at hl 0 rfl) ?_
    refine lv_iload hx hb dO_ofArrays_30 (lv_at hl 3 rfl) ?_
    refine lv_icmp_ge (tgt := 80) hx hb dO_ofArrays_32 (by decide) (fun hc => ?_) (fun hc => ?_)
    · rw [if_pos hc] at hf
      refine lv_aload_n hx hb dO_ofArrays_80 rfl (lv_at hl 4 rfl) ?_
      refine lv_iload_n hx hb dO_ofArrays_81 rfl (lv_at hl 5 rfl) ?_
      obtain ⟨o1, hq2, hf⟩ := xbind hf
      obtain ⟨hPc, hDc, hFc⟩ := xcut (wc := [(a0, .inr (2, [.ref a1, .int v1, .int v2])), (a1, .inl (cT 2, 4096, .inr (.inl f0)))]) hP hD hS hA [0, 1] rfl rfl (by decide)
      refine va_calli (va_runV (C := "ValueBench$Row") (As := [.int y1]) (rest := []) ⟨hx, hb, hml, hown, htx⟩ (gR_length l hl9 D cT aK aV H.size n a0 a1 y1 f0 v1 v2 o1 hq2) ⟨callB_of 1 htx (xw_goodC kw_2_191) rfl rfl rfl (htx _ kw_1_4) (htx _ kw_3_178) ⟨by decide, by decide, by decide +kernel⟩ ⟨Nat.le_of_ble_eq_true rfl, Nat.le_of_ble_eq_true rfl⟩, (htx _ kw_2_189), (htx _ kw_2_190)⟩ ⟨xPre_blind, va_recv hK hP (ci := 2) rfl (q0 := 0) rfl, (fun U hU hW => ⟨rfl, xPre_of hZ hS hFc hPc hDc hK U hU hW⟩)⟩ rfl rfl hl.1 rfl (lv_room (Nat.le_of_ble_eq_true rfl)) dO_ofArrays_82 ⟨Nat.le_of_ble_eq_true rfl, Nat.le_of_ble_eq_true rfl⟩) hS (fun q _ h => hFc q h) hFc (fun r3 u9 t H1 locs ht hvm hr9 hB hz1 hk1 hS => ?_)
      obtain ⟨hP1, hK1, hD1⟩ := hB
      rw [ht] at hP1
      obtain ⟨hP, hD⟩ := xjoin (W := [(a0, .inr (2, [.ref a1, .int v1, .int v2])), (a1, .inl (cT 2, 4096, .inr (.inl f0)))]) hP hD [0, 1] [] 0 rfl rfl (by decide) (by decide) hk1 hFc hP1 hD1
      generalize H1 = H at hP hS ⊢
      rw [hr9]
      refine W.eq (g2 := F0 m 85 ls [.int o1]) rfl ?_
      refine lv_aload_n hx hb dO_ofArrays_85 rfl (lv_at hl 6 rfl) ?_
      refine lv_iload_n hx hb dO_ofArrays_86 rfl (lv_at hl 7 rfl) ?_
      obtain ⟨o4, hq5, hf⟩ := xbind hf
      obtain ⟨hPc, hDc, hFc⟩ := xcut (wc := [(a0, .inr (2, [.ref a1, .int v1, .int v2])), (a1, .inl (cT 2, 4096, .inr (.inl f0)))]) hP hD hS hA [0, 1] rfl rfl (by decide)
      refine va_calli (va_runV (C := "ValueBench$Row") (As := [.int y3]) (rest := [.int o1]) ⟨hx, hb, hml, hown, htx⟩ (gR_length l hl9 D cT aK aV H.size n a0 a1 y3 f0 v1 v2 o4 hq5) ⟨callB_of 1 htx (xw_goodC kw_2_191) rfl rfl rfl (htx _ kw_1_4) (htx _ kw_3_178) ⟨by decide, by decide, by decide +kernel⟩ ⟨Nat.le_of_ble_eq_true rfl, Nat.le_of_ble_eq_true rfl⟩, (htx _ kw_2_189), (htx _ kw_2_190)⟩ ⟨xPre_blind, va_recv hK hP (ci := 2) rfl (q0 := 0) rfl, (fun U hU hW => ⟨rfl, xPre_of hZ hS hFc hPc hDc hK U hU hW⟩)⟩ rfl rfl hl.1 rfl (lv_room (Nat.le_of_ble_eq_true rfl)) dO_ofArrays_87 ⟨Nat.le_of_ble_eq_true rfl, Nat.le_of_ble_eq_true rfl⟩) hS (fun q _ h => hFc q h) hFc (fun r6 u9 t H1 locs ht hvm hr9 hB hz1 hk1 hS => ?_)
      obtain ⟨hP1, hK1, hD1⟩ := hB
      rw [ht] at hP1
      obtain ⟨hP, hD⟩ := xjoin (W := [(a0, .inr (2, [.ref a1, .int v1, .int v2])), (a1, .inl (cT 2, 4096, .inr (.inl f0)))]) hP hD [0, 1] [] 0 rfl rfl (by decide) (by decide) hk1 hFc hP1 hD1
      generalize H1 = H at hP hS ⊢
      rw [hr9]
      refine W.eq (g2 := F0 m 90 ls [.int o4, .int o1]) rfl ?_
      obtain ⟨o7, hq8, hf⟩ := xbind hf
      obtain ⟨hPc, hDc, hFc⟩ := xcut (wc := []) hP hD hS hA [] rfl rfl (by decide)
      refine va_calli (va_runS (As := [.int o1, .int o4]) (rest := []) ⟨hx, hb, hml, hown, htx⟩ (gJI_compare l hl9 D cT aK aV H.size n o1 o4 o7 hq8) ⟨callB_of 2 htx (xw_goodC kw_3_169) rfl rfl rfl (htx _ kw_1_24) (htx _ kw_3_167) ⟨by decide, by decide, by decide +kernel⟩ ⟨Nat.le_of_ble_eq_true rfl, Nat.le_of_ble_eq_true rfl⟩, htx _ kw_3_168⟩ ⟨xPre_blind, (fun U hU hW => ⟨rfl, xPre_of hZ hS hFc hPc hDc hK U hU hW⟩)⟩ rfl rfl hl.1 rfl (lv_room (Nat.le_of_ble_eq_true rfl)) dO_ofArrays_90 ⟨Nat.le_of_ble_eq_true rfl, Nat.le_of_ble_eq_true rfl⟩) hS (fun q _ h => hFc q h) hFc (fun r9 u9 t H1 locs ht hvm hr9 hB hz1 hk1 hS => ?_)
      obtain ⟨hP1, hK1, hD1⟩ := hB
      rw [ht] at hP1
      obtain ⟨hP, hD⟩ := xjoin (W := [(a0, .inr (2, [.ref a1, .int v1, .int v2])), (a1, .inl (cT 2, 4096, .inr (.inl f0)))]) hP hD [] [0, 1] 2 rfl rfl (by decide) (by decide) hk1 hFc hP1 hD1
      generalize H1 = H at hP hS ⊢
      rw [hr9]
      refine W.eq (g2 := F0 m 93 ls [.int o7]) rfl ?_
      obtain rfl := Option.some.inj hf
      obtain ⟨hP9, hD9⟩ := xsub (wc := [(a0, .inr (2, [.ref a1, .int v1, .int v2])), (a1, .inl (cT 2, 4096, .inr (.inl f0)))]) hP hD [0, 1] rfl rfl (by decide)
      exact W.iret (v := o7) hx hb hr (fun t ht hW => ⟨⟨o7, (), rfl, rfl, by rw [ht]; exact hP9, va_K.moved hW.alike hK, hD9⟩, hS.F ht⟩) hS.2.2 dO_ofArrays_93
    · rw [if_neg hc] at hf
      refine lv_aload_n hx hb dO_ofArrays_35 rfl (lv_at hl 4 rfl) ?_
      refine lv_iload hx hb dO_ofArrays_36 (lv_at hl 2 rfl) ?_
      refine lv_aload_n hx hb dO_ofArrays_38 rfl (lv_at hl 6 rfl) ?_
      refine lv_iload hx hb dO_ofArrays_39 (lv_at hl 1 rfl) ?_
      refine lv_iload hx hb dO_ofArrays_41 (lv_at hl 8 rfl) ?_
      refine lv_iconst (v := 1) hx hb dO_ofArrays_43 (by decide) ?_
      refine lv_iadd hx hb dO_ofArrays_44 ?_
      obtain ⟨o1, hq2, hf⟩ := xbind hf
      obtain ⟨hPc, hDc, hFc⟩ := xcut (wc := [(a0, .inr (2, [.ref a1, .int v1, .int v2])), (a1, .inl (cT 2, 4096, .inr (.inl f0)))]) hP hD hS hA [0, 1] rfl rfl (by decide)
      refine va_calli (va_runS (As := [.ref a0, .int y6, .ref a0, .int y7, .int (y4 + (1 : Int32))]) (rest := []) ⟨hx, hb, hml, hown, htx⟩ (hrec H.size a0 a1 y6 y7 (y4 + (1 : Int32)) f0 v1 v2 o1 hq2) ⟨callB_of 5 htx (xw_goodC kw_3_165) rfl rfl rfl (htx _ kw_1_23) (htx _ kw_3_163) ⟨by decide, by decide, by decide +kernel⟩ ⟨(by show (fr) + 1 ≤ fr + 1; omega), (by show 8 + (5 + 11) + (lo) ≤ lo + 40; omega)⟩, htx _ kw_3_164⟩ ⟨xPre_blind, (fun U hU hW => ⟨rfl, xPre_of hZ hS hFc hPc hDc hK U hU hW⟩)⟩ rfl rfl hl.1 rfl (lv_room (Nat.le_of_ble_eq_true rfl)) dO_ofArrays_45 ⟨Nat.le_of_ble_eq_true rfl, Nat.le_of_ble_eq_true rfl⟩) hS (fun q _ h => hFc q h) hFc (fun r3 u9 t H1 locs ht hvm hr9 hB hz1 hk1 hS => ?_)
      obtain ⟨hP1, hK1, hD1⟩ := hB
      rw [ht] at hP1
      obtain ⟨hP, hD⟩ := xjoin (W := [(a0, .inr (2, [.ref a1, .int v1, .int v2])), (a1, .inl (cT 2, 4096, .inr (.inl f0)))]) hP hD [0, 1] [] 0 rfl rfl (by decide) (by decide) hk1 hFc hP1 hD1
      generalize H1 = H at hP hS ⊢
      rw [hr9]
      refine W.eq (g2 := F0 m 48 ls [.int o1]) rfl ?_
      refine lv_istore (lv' := [(9, .int o1), (8, .int y8), (7, .int y7), (6, .int y6), (5, .int y5), (0, .ref a0), (1, .int y1), (2, .ref a0), (3, .int y3), (4, .int y4)]) hx hb dO_ofArrays_48 hl (by decide) rfl (fun ls hl => ?_)
      refine lv_iload hx hb dO_ofArrays_50 (lv_at hl 0 rfl) ?_
      refine lv_if_eq (tgt := 58) hx hb dO_ofArrays_52 (by decide) (fun hc => ?_) (fun hc => ?_)
      · rw [if_pos hc] at hf
        refine lv_aload_n hx hb dO_ofArrays_58 rfl (lv_at hl 5 rfl) ?_
        refine lv_iload hx hb dO_ofArrays_59 (lv_at hl 3 rfl) ?_
        obtain ⟨o4, hq5, hf⟩ := xbind hf
        obtain ⟨hPc, hDc, hFc⟩ := xcut (wc := [(a0, .inr (2, [.ref a1, .int v1, .int v2])), (a1, .inl (cT 2, 4096, .inr (.inl f0)))]) hP hD hS hA [0, 1] rfl rfl (by decide)
        refine va_calli (va_runV (C := "ValueBench$Row") (As := [.int y6]) (rest := []) ⟨hx, hb, hml, hown, htx⟩ (gR_after l hl9 D cT aK aV H.size n a0 a1 y6 f0 v1 v2 o4 hq5) ⟨callB_of 1 htx (xw_goodC kw_2_196) rfl rfl rfl (htx _ kw_1_4) (htx _ kw_3_180) ⟨by decide, by decide, by decide +kernel⟩ ⟨Nat.le_of_ble_eq_true rfl, Nat.le_of_ble_eq_true rfl⟩, (htx _ kw_2_194), (htx _ kw_2_195)⟩ ⟨xPre_blind, va_recv hK hP (ci := 2) rfl (q0 := 0) rfl, (fun U hU hW => ⟨rfl, xPre_of hZ hS hFc hPc hDc hK U hU hW⟩)⟩ rfl rfl hl.1 rfl (lv_room (Nat.le_of_ble_eq_true rfl)) dO_ofArrays_61 ⟨Nat.le_of_ble_eq_true rfl, Nat.le_of_ble_eq_true rfl⟩) hS (fun q _ h => hFc q h) hFc (fun r6 u9 t H1 locs ht hvm hr9 hB hz1 hk1 hS => ?_)
        obtain ⟨hP1, hK1, hD1⟩ := hB
        rw [ht] at hP1
        obtain ⟨hP, hD⟩ := xjoin (W := [(a0, .inr (2, [.ref a1, .int v1, .int v2])), (a1, .inl (cT 2, 4096, .inr (.inl f0)))]) hP hD [0, 1] [] 0 rfl rfl (by decide) (by decide) hk1 hFc hP1 hD1
        generalize H1 = H at hP hS ⊢
        rw [hr9]
        refine W.eq (g2 := F0 m 64 ls [.int o4]) rfl ?_
        refine lv_istore (lv' := [(6, .int o4), (9, .int o1), (8, .int y8), (7, .int y7), (5, .int y5), (0, .ref a0), (1, .int y1), (2, .ref a0), (3, .int y3), (4, .int y4)]) hx hb dO_ofArrays_64 hl (by decide) rfl (fun ls hl => ?_)
        refine lv_aload_n hx hb dO_ofArrays_66 rfl (lv_at hl 7 rfl) ?_
        refine lv_iload hx hb dO_ofArrays_67 (lv_at hl 3 rfl) ?_
        obtain ⟨o7, hq8, hf⟩ := xbind hf
        obtain ⟨hPc, hDc, hFc⟩ := xcut (wc := [(a0, .inr (2, [.ref a1, .int v1, .int v2])), (a1, .inl (cT 2, 4096, .inr (.inl f0)))]) hP hD hS hA [0, 1] rfl rfl (by decide)
        refine va_calli (va_runV (C := "ValueBench$Row") (As := [.int y7]) (rest := []) ⟨hx, hb, hml, hown, htx⟩ (gR_after l hl9 D cT aK aV H.size n a0 a1 y7 f0 v1 v2 o7 hq8) ⟨callB_of 1 htx (xw_goodC kw_2_196) rfl rfl rfl (htx _ kw_1_4) (htx _ kw_3_180) ⟨by decide, by decide, by decide +kernel⟩ ⟨Nat.le_of_ble_eq_true rfl, Nat.le_of_ble_eq_true rfl⟩, (htx _ kw_2_194), (htx _ kw_2_195)⟩ ⟨xPre_blind, va_recv hK hP (ci := 2) rfl (q0 := 0) rfl, (fun U hU hW => ⟨rfl, xPre_of hZ hS hFc hPc hDc hK U hU hW⟩)⟩ rfl rfl hl.1 rfl (lv_room (Nat.le_of_ble_eq_true rfl)) dO_ofArrays_69 ⟨Nat.le_of_ble_eq_true rfl, Nat.le_of_ble_eq_true rfl⟩) hS (fun q _ h => hFc q h) hFc (fun r9 u9 t H1 locs ht hvm hr9 hB hz1 hk1 hS => ?_)
        obtain ⟨hP1, hK1, hD1⟩ := hB
        rw [ht] at hP1
        obtain ⟨hP, hD⟩ := xjoin (W := [(a0, .inr (2, [.ref a1, .int v1, .int v2])), (a1, .inl (cT 2, 4096, .inr (.inl f0)))]) hP hD [0, 1] [] 0 rfl rfl (by decide) (by decide) hk1 hFc hP1 hD1
        generalize H1 = H at hP hS ⊢
        rw [hr9]
        refine W.eq (g2 := F0 m 72 ls [.int o7]) rfl ?_
        refine lv_istore (lv' := [(7, .int o7), (6, .int o4), (9, .int o1), (8, .int y8), (5, .int y5), (0, .ref a0), (1, .int y1), (2, .ref a0), (3, .int y3), (4, .int y4)]) hx hb dO_ofArrays_72 hl (by decide) rfl (fun ls hl => ?_)
        refine lv_iinc (v := (y8 + 1)) (lv' := [(8, .int (y8 + 1)), (7, .int o7), (6, .int o4), (9, .int o1), (5, .int y5), (0, .ref a0), (1, .int y1), (2, .ref a0), (3, .int y3), (4, .int y4)]) hx hb dO_ofArrays_74 hl (k := 3) rfl rfl (by decide) rfl (fun ls hl => ?_)
        refine lv_goto (tgt := 28) hx hb dO_ofArrays_77 (by decide) ?_
        obtain ⟨hP9, hD9⟩ := xsub (wc := [(a0, .inr (2, [.ref a1, .int v1, .int v2])), (a1, .inl (cT 2, 4096, .inr (.inl f0)))]) hP hD [0, 1] rfl rfl (by decide)
        exact ih (1, (y8 + 1), o7, o4, y5, y1, y3, y4) _ _ ls (⟨rfl, hf, hP9, hD9, hS, lv_sub hl [0, 1, 2, 4, 5, 6, 7, 8, 9] rfl⟩)
      · rw [if_neg hc] at hf
        refine lv_iload hx hb dO_ofArrays_55 (lv_at hl 0 rfl) ?_
        obtain rfl := Option.some.inj hf
        obtain ⟨hP9, hD9⟩ := xsub (wc := [(a0, .inr (2, [.ref a1, .int v1, .int v2])), (a1, .inl (cT 2, 4096, .inr (.inl f0)))]) hP hD [0, 1] rfl rfl (by decide)
        exact W.iret (v := o1) hx hb hr (fun t ht hW => ⟨⟨o1, (), rfl, rfl, by rw [ht]; exact hP9, va_K.moved hW.alike hK, hD9⟩, hS.F ht⟩) hS.2.2 dO_ofArrays_57
  refine lv_aload_n hx hb dO_ofArrays_0 rfl (lv_at hl 0 rfl) ?_
  refine lv_iload_n hx hb dO_ofArrays_1 rfl (lv_at hl 1 rfl) ?_
  obtain ⟨o1, hq2, hf⟩ := xbind hf
  obtain ⟨hPc, hDc, hFc⟩ := xcut (wc := [(a0, .inr (2, [.ref a1, .int v1, .int v2])), (a1, .inl (cT 2, 4096, .inr (.inl f0)))]) hP hD hS hA [0, 1] rfl rfl (by decide)
  refine va_calli (va_runV (C := "ValueBench$Row") (As := [.int x1]) (rest := []) ⟨hx, hb, hml, hown, htx⟩ (gR_length l hl9 D cT aK aV s.heap.size n a0 a1 x1 f0 v1 v2 o1 hq2) ⟨callB_of 1 htx (xw_goodC kw_2_191) rfl rfl rfl (htx _ kw_1_4) (htx _ kw_3_178) ⟨by decide, by decide, by decide +kernel⟩ ⟨Nat.le_of_ble_eq_true rfl, Nat.le_of_ble_eq_true rfl⟩, (htx _ kw_2_189), (htx _ kw_2_190)⟩ ⟨xPre_blind, va_recv hK hP (ci := 2) rfl (q0 := 0) rfl, (fun U hU hW => ⟨rfl, xPre_of hZ hS hFc hPc hDc hK U hU hW⟩)⟩ rfl rfl hl.1 rfl (lv_room (Nat.le_of_ble_eq_true rfl)) dO_ofArrays_2 ⟨Nat.le_of_ble_eq_true rfl, Nat.le_of_ble_eq_true rfl⟩) hS (fun q _ h => hFc q h) hFc (fun r3 u9 t H1 locs ht hvm hr9 hB hz1 hk1 hS => ?_)
  obtain ⟨hP1, hK1, hD1⟩ := hB
  rw [ht] at hP1
  obtain ⟨hP, hD⟩ := xjoin (W := [(a0, .inr (2, [.ref a1, .int v1, .int v2])), (a1, .inl (cT 2, 4096, .inr (.inl f0)))]) hP hD [0, 1] [] 0 rfl rfl (by decide) (by decide) hk1 hFc hP1 hD1
  generalize H1 = H at hP hS ⊢
  rw [hr9]
  refine W.eq (g2 := F0 m 5 ls [.int o1]) rfl ?_
  refine lv_aload_n hx hb dO_ofArrays_5 rfl (lv_at hl 2 rfl) ?_
  refine lv_iload_n hx hb dO_ofArrays_6 rfl (lv_at hl 3 rfl) ?_
  obtain ⟨o4, hq5, hf⟩ := xbind hf
  obtain ⟨hPc, hDc, hFc⟩ := xcut (wc := [(a0, .inr (2, [.ref a1, .int v1, .int v2])), (a1, .inl (cT 2, 4096, .inr (.inl f0)))]) hP hD hS hA [0, 1] rfl rfl (by decide)
  refine va_calli (va_runV (C := "ValueBench$Row") (As := [.int x3]) (rest := [.int o1]) ⟨hx, hb, hml, hown, htx⟩ (gR_length l hl9 D cT aK aV H.size n a0 a1 x3 f0 v1 v2 o4 hq5) ⟨callB_of 1 htx (xw_goodC kw_2_191) rfl rfl rfl (htx _ kw_1_4) (htx _ kw_3_178) ⟨by decide, by decide, by decide +kernel⟩ ⟨Nat.le_of_ble_eq_true rfl, Nat.le_of_ble_eq_true rfl⟩, (htx _ kw_2_189), (htx _ kw_2_190)⟩ ⟨xPre_blind, va_recv hK hP (ci := 2) rfl (q0 := 0) rfl, (fun U hU hW => ⟨rfl, xPre_of hZ hS hFc hPc hDc hK U hU hW⟩)⟩ rfl rfl hl.1 rfl (lv_room (Nat.le_of_ble_eq_true rfl)) dO_ofArrays_7 ⟨Nat.le_of_ble_eq_true rfl, Nat.le_of_ble_eq_true rfl⟩) hS (fun q _ h => hFc q h) hFc (fun r6 u9 t H1 locs ht hvm hr9 hB hz1 hk1 hS => ?_)
  obtain ⟨hP1, hK1, hD1⟩ := hB
  rw [ht] at hP1
  obtain ⟨hP, hD⟩ := xjoin (W := [(a0, .inr (2, [.ref a1, .int v1, .int v2])), (a1, .inl (cT 2, 4096, .inr (.inl f0)))]) hP hD [0, 1] [] 0 rfl rfl (by decide) (by decide) hk1 hFc hP1 hD1
  generalize H1 = H at hP hS ⊢
  rw [hr9]
  refine W.eq (g2 := F0 m 10 ls [.int o4, .int o1]) rfl ?_
  refine va_mmin hx hb (hml.trans hl.1.symm) hown (htx _ kw_3_179) (htx _ kw_2_3) (htx _ kw_1_15) (htx _ kw_2_4) (Nat.le_of_ble_eq_true rfl) (Nat.le_of_ble_eq_true rfl) (Nat.le_of_ble_eq_true rfl) (Nat.le_of_ble_eq_true rfl) dO_ofArrays_10 ?_
  refine W.eq (g2 := F0 m 13 ls [.int (if o4 < o1 then o4 else o1)]) rfl ?_
  refine lv_istore (lv' := [(5, .int (if o4 < o1 then o4 else o1)), (0, .ref a0), (1, .int x1), (2, .ref a0), (3, .int x3), (4, .int x4)]) hx hb dO_ofArrays_13 hl (by decide) rfl (fun ls hl => ?_)
  refine lv_iload_n hx hb dO_ofArrays_15 rfl (lv_at hl 2 rfl) ?_
  refine lv_iconst (v := 1) hx hb dO_ofArrays_16 (by decide) ?_
  refine lv_iadd hx hb dO_ofArrays_17 ?_
  refine lv_istore (lv' := [(6, .int (x1 + (1 : Int32))), (5, .int (if o4 < o1 then o4 else o1)), (0, .ref a0), (1, .int x1), (2, .ref a0), (3, .int x3), (4, .int x4)]) hx hb dO_ofArrays_18 hl (by decide) rfl (fun ls hl => ?_)
  refine lv_iload_n hx hb dO_ofArrays_20 rfl (lv_at hl 5 rfl) ?_
  refine lv_iconst (v := 1) hx hb dO_ofArrays_21 (by decide) ?_
  refine lv_iadd hx hb dO_ofArrays_22 ?_
  refine lv_istore (lv' := [(7, .int (x3 + (1 : Int32))), (6, .int (x1 + (1 : Int32))), (5, .int (if o4 < o1 then o4 else o1)), (0, .ref a0), (1, .int x1), (2, .ref a0), (3, .int x3), (4, .int x4)]) hx hb dO_ofArrays_23 hl (by decide) rfl (fun ls hl => ?_)
  refine lv_iconst (v := 0) hx hb dO_ofArrays_25 (by decide) ?_
  refine lv_istore (lv' := [(8, .int 0), (7, .int (x3 + (1 : Int32))), (6, .int (x1 + (1 : Int32))), (5, .int (if o4 < o1 then o4 else o1)), (0, .ref a0), (1, .int x1), (2, .ref a0), (3, .int x3), (4, .int x4)]) hx hb dO_ofArrays_26 hl (by decide) rfl (fun ls hl => ?_)
  obtain ⟨hP9, hD9⟩ := xsub (wc := [(a0, .inr (2, [.ref a1, .int v1, .int v2])), (a1, .inl (cT 2, 4096, .inr (.inl f0)))]) hP hD [0, 1] rfl rfl (by decide)
  exact key n (1, 0, (x3 + (1 : Int32)), (x1 + (1 : Int32)), (if o4 < o1 then o4 else o1), x1, x3, x4) _ _ ls (⟨rfl, hf, hP9, hD9, hS, lv_sub hl [0, 1, 2, 3, 4, 5, 6, 7, 8] rfl⟩)
set_option maxHeartbeats 400000000 in
set_option maxRecDepth 100000 in
theorem gO_ofObjectsa (l : Launch) (hl9 : l.stackTraces = false) (D : va_G) (cT : Nat → ClassId) (aK aV : Nat → Nat) (fr lo : Nat) (rec : Int32 → Int32 → Int32 → (Nat → Int64) → Int32 → Int32 → Option (Int32)) (hrec : ∀ (sz : Nat) (a0 : Nat) (a1 : Nat) (x1 : Int32) (x3 : Int32) (x4 : Int32) (f0 : Nat → Int64) (v1 : Int32) (v2 : Int32) (out : Int32), rec x1 x3 x4 f0 v1 v2 = some out → xMet l yO_of wyO_of fr 0 0 lo D cT aK aV sz [.ref a0, .int x1, .ref a0, .int x3, .int x4] [(a0, .inr (2, [.ref a1, .int v1, .int v2])), (a1, .inl (cT 2, 4096, .inr (.inl f0)))] (fun A => va_Qi (fun (r : Int32) (_ : Unit) => r = out) (fun _ t => xB D xcl cT A [(a0, .inr (2, [.ref a1, .int v1, .int v2])), (a1, .inl (cT 2, 4096, .inr (.inl f0)))] t) A)) (sz n : Nat) (a0 : Nat) (a1 : Nat) (x1 : Int32) (x3 : Int32) (x4 : Int32) (f0 : Nat → Int64) (v1 : Int32) (v2 : Int32) (out : Int32) (hf : fO_ofObjectsa rec n x1 x3 x4 f0 v1 v2 = some out) : xMet l yO_ofObjects wyO_ofObjects (fr + 2) 0 0 (lo + 55) D cT aK aV sz [.ref a0, .int x1, .ref a0, .int x3, .int x4] [(a0, .inr (2, [.ref a1, .int v1, .int v2])), (a1, .inl (cT 2, 4096, .inr (.inl f0)))] (fun A => va_Qi (fun (r : Int32) (_ : Unit) => r = out) (fun _ t => xB D xcl cT A [(a0, .inr (2, [.ref a1, .int v1, .int v2])), (a1, .inl (cT 2, 4096, .inr (.inl f0)))] t) A) := by
  refine Met.ofW (cc := prog_4_method_5_code) (maxL := 11) (ret := (some .int)) (by decide) rfl ?_
  intro p e s m args below meth c s₁ B hml hv
  obtain ⟨rfl, hsz, hZ, hP, hK, hD0⟩ := hv
  have hx := B.exec
  have hb := B.bytes
  have hr := B.returns
  have hts := atoms_spec (ws := wyO_ofObjects) B.pre
  have htx := fun w h => hts w (List.mem_cons_of_mem _ h)
  have hown : s.vm.findClass "ValueBench$Order" = some m.cls := findClass_of_methodNamed B.named
  have hlocks := B.notSynchronized
  subst hsz
  have hD := hD0.self (sz := s.heap.size)
  generalize hAe : va_A [(a0, .inr (2, [.ref a1, .int v1, .int v2])), (a1, .inl (cT 2, 4096, .inr (.inl f0)))] s.heap.size = A at hD hZ ⊢
  have hA : ∀ q : Nat, s.heap.size ≤ q → A q := fun q h => by rw [← hAe]; exact Or.inr h
  have hS : va_S A s.heap s.heap [] := va_S.rf
  have hP : va_P D xcl [(a0, .inr (2, [.ref a1, .int v1, .int v2])), (a1, .inl (cT 2, 4096, .inr (.inl f0)))] s.heap := hP
  have hl := lv_entry ([.ref a0, .int x1, .ref a0, .int x3, .int x4]) (n := 11) (Nat.le_of_ble_eq_true rfl)
  rw [lg_entry_eq]
  generalize (lg_sl ([.ref a0, .int x1, .ref a0, .int x3, .int x4]) ++ List.replicate (11 - (lg_sl ([.ref a0, .int x1, .ref a0, .int x3, .int x4])).length) Slot.unset).toArray = ls at hl ⊢
  have hl : lv_has ls 11 [(0, .ref a0), (1, .int x1), (2, .ref a0), (3, .int x3), (4, .int x4)] := hl
  unfold fO_ofObjectsa at hf
  refine xloopK (σ := Nat × Int32 × Int32 × Int32 × Int32 × Int32 × Int32 × Int32 × Int32) (fun n x H locs ls => (x.1 = 1 ∧ fO_ofObjectsa_b rec f0 v1 v2 n x.1 x.2.1 x.2.2.1 x.2.2.2.1 x.2.2.2.2.1 x.2.2.2.2.2.1 x.2.2.2.2.2.2.1 x.2.2.2.2.2.2.2.1 x.2.2.2.2.2.2.2.2 = some out ∧ va_P D xcl [(a0, .inr (2, [.ref a1, .int v1, .int v2])), (a1, .inl (cT 2, 4096, .inr (.inl f0)))] H ∧ va_D A [(a0, .inr (2, [.ref a1, .int v1, .int v2])), (a1, .inl (cT 2, 4096, .inr (.inl f0)))] ∧ va_S A s.heap H locs ∧ lv_has ls 11 [(9, .int x.2.1), (8, .int x.2.2.1), (7, .int x.2.2.2.1), (6, .int x.2.2.2.2.1), (5, .int x.2.2.2.2.2.1), (0, .ref a0), (1, .int x.2.2.2.2.2.2.1), (2, .ref a0), (3, .int x.2.2.2.2.2.2.2.1), (4, .int x.2.2.2.2.2.2.2.2)])) (fun x => 27) (fun x H locs ls h => by exact absurd h.2.1 (by rw [fO_ofObjectsa_b]; exact fun h => nomatch h)) (fun n ih x H locs ls hv => ?_) (fun key => ?_)
  · obtain ⟨lb, y9, y8, y7, y6, y5, y1, y3, y4⟩ := x
    rcases hv with ⟨hj, hf, hP, hD, hS, hl⟩
    subst hj
    have hf : fO_ofObjectsa_b rec f0 v1 v2 (n + 1) 1 y9 y8 y7 y6 y5 y1 y3 y4 = some out := hf
    rw [fO_ofObjectsa_b] at hf
    obtain ⟨hP, hD⟩ : xPD D xcl A [(a0, .inr (2, [.ref a1, .int v1, .int v2])), (a1, .inl (cT 2, 4096, .inr (.inl f0)))] H := ⟨hP, hD⟩
    have hl : lv_has ls 11 [(9, .int y9), (8, .int y8), (7, .int y7), (6, .int y6), (5, .int y5), (0, .ref a0), (1, .int y1), (2, .ref a0), (3, .int y3), (4, .int y4)] := hl
    refine W.eq (g2 := F0 m 27 ls []) rfl ?_
    refine lv_iload hx hb dO_ofObjects_27 (lv_at hl 0 rfl) ?_
    refine lv_iload hx hb dO_ofObjects_29 (lv_at hl 4 rfl) ?_
    refine lv_icmp_ge (tgt := 105) hx hb dO_ofObjects_31 (by decide) (fun hc => ?_) (fun hc => ?_)
    · rw [if_pos hc] at hf
      refine lv_aload_n hx hb dO_ofObjects_105 rfl (lv_at hl 5 rfl) ?_
      refine lv_iload_n hx hb dO_ofObjects_106 rfl (lv_at hl 6 rfl) ?_
      obtain ⟨o1, hq2, hf⟩ := xbind hf
      obtain ⟨hPc, hDc, hFc⟩ := xcut (wc := [(a0, .inr (2, [.ref a1, .int v1, .int v2])), (a1, .inl (cT 2, 4096, .inr (.inl f0)))]) hP hD hS hA [0, 1] rfl rfl (by decide)
      refine va_calli (va_runV (C := "ValueBench$Row") (As := [.int y1]) (rest := []) ⟨hx, hb, hml, hown, htx⟩ (gR_length l hl9 D cT aK aV H.size n a0 a1 y1 f0 v1 v2 o1 hq2) ⟨callB_of 1 htx (xw_goodC kw_2_191) rfl rfl rfl (htx _ kw_1_4) (htx _ kw_3_178) ⟨by decide, by decide, by decide +kernel⟩ ⟨Nat.le_of_ble_eq_true rfl, Nat.le_of_ble_eq_true rfl⟩, (htx _ kw_2_189), (htx _ kw_2_190)⟩ ⟨xPre_blind, va_recv hK hP (ci := 2) rfl (q0 := 0) rfl, (fun U hU hW => ⟨rfl, xPre_of hZ hS hFc hPc hDc hK U hU hW⟩)⟩ rfl rfl hl.1 rfl (lv_room (Nat.le_of_ble_eq_true rfl)) dO_ofObjects_107 ⟨Nat.le_of_ble_eq_true rfl, Nat.le_of_ble_eq_true rfl⟩) hS (fun q _ h => hFc q h) hFc (fun r3 u9 t H1 locs ht hvm hr9 hB hz1 hk1 hS => ?_)
      obtain ⟨hP1, hK1, hD1⟩ := hB
      rw [ht] at hP1
      obtain ⟨hP, hD⟩ := xjoin (W := [(a0, .inr (2, [.ref a1, .int v1, .int v2])), (a1, .inl (cT 2, 4096, .inr (.inl f0)))]) hP hD [0, 1] [] 0 rfl rfl (by decide) (by decide) hk1 hFc hP1 hD1
      generalize H1 = H at hP hS ⊢
      rw [hr9]
      refine W.eq (g2 := F0 m 110 ls [.int o1]) rfl ?_
      refine lv_aload_n hx hb dO_ofObjects_110 rfl (lv_at hl 7 rfl) ?_
      refine lv_iload_n hx hb dO_ofObjects_111 rfl (lv_at hl 8 rfl) ?_
      obtain ⟨o4, hq5, hf⟩ := xbind hf
      obtain ⟨hPc, hDc, hFc⟩ := xcut (wc := [(a0, .inr (2, [.ref a1, .int v1, .int v2])), (a1, .inl (cT 2, 4096, .inr (.inl f0)))]) hP hD hS hA [0, 1] rfl rfl (by decide)
      refine va_calli (va_runV (C := "ValueBench$Row") (As := [.int y3]) (rest := [.int o1]) ⟨hx, hb, hml, hown, htx⟩ (gR_length l hl9 D cT aK aV H.size n a0 a1 y3 f0 v1 v2 o4 hq5) ⟨callB_of 1 htx (xw_goodC kw_2_191) rfl rfl rfl (htx _ kw_1_4) (htx _ kw_3_178) ⟨by decide, by decide, by decide +kernel⟩ ⟨Nat.le_of_ble_eq_true rfl, Nat.le_of_ble_eq_true rfl⟩, (htx _ kw_2_189), (htx _ kw_2_190)⟩ ⟨xPre_blind, va_recv hK hP (ci := 2) rfl (q0 := 0) rfl, (fun U hU hW => ⟨rfl, xPre_of hZ hS hFc hPc hDc hK U hU hW⟩)⟩ rfl rfl hl.1 rfl (lv_room (Nat.le_of_ble_eq_true rfl)) dO_ofObjects_112 ⟨Nat.le_of_ble_eq_true rfl, Nat.le_of_ble_eq_true rfl⟩) hS (fun q _ h => hFc q h) hFc (fun r6 u9 t H1 locs ht hvm hr9 hB hz1 hk1 hS => ?_)
      obtain ⟨hP1, hK1, hD1⟩ := hB
      rw [ht] at hP1
      obtain ⟨hP, hD⟩ := xjoin (W := [(a0, .inr (2, [.ref a1, .int v1, .int v2])), (a1, .inl (cT 2, 4096, .inr (.inl f0)))]) hP hD [0, 1] [] 0 rfl rfl (by decide) (by decide) hk1 hFc hP1 hD1
      generalize H1 = H at hP hS ⊢
      rw [hr9]
      refine W.eq (g2 := F0 m 115 ls [.int o4, .int o1]) rfl ?_
      obtain ⟨o7, hq8, hf⟩ := xbind hf
      obtain ⟨hPc, hDc, hFc⟩ := xcut (wc := []) hP hD hS hA [] rfl rfl (by decide)
      refine va_calli (va_runS (As := [.int o1, .int o4]) (rest := []) ⟨hx, hb, hml, hown, htx⟩ (gJI_compare l hl9 D cT aK aV H.size n o1 o4 o7 hq8) ⟨callB_of 2 htx (xw_goodC kw_3_169) rfl rfl rfl (htx _ kw_1_24) (htx _ kw_3_167) ⟨by decide, by decide, by decide +kernel⟩ ⟨Nat.le_of_ble_eq_true rfl, Nat.le_of_ble_eq_true rfl⟩, htx _ kw_3_168⟩ ⟨xPre_blind, (fun U hU hW => ⟨rfl, xPre_of hZ hS hFc hPc hDc hK U hU hW⟩)⟩ rfl rfl hl.1 rfl (lv_room (Nat.le_of_ble_eq_true rfl)) dO_ofObjects_115 ⟨Nat.le_of_ble_eq_true rfl, Nat.le_of_ble_eq_true rfl⟩) hS (fun q _ h => hFc q h) hFc (fun r9 u9 t H1 locs ht hvm hr9 hB hz1 hk1 hS => ?_)
      obtain ⟨hP1, hK1, hD1⟩ := hB
      rw [ht] at hP1
      obtain ⟨hP, hD⟩ := xjoin (W := [(a0, .inr (2, [.ref a1, .int v1, .int v2])), (a1, .inl (cT 2, 4096, .inr (.inl f0)))]) hP hD [] [0, 1] 2 rfl rfl (by decide) (by decide) hk1 hFc hP1 hD1
      generalize H1 = H at hP hS ⊢
      rw [hr9]
      refine W.eq (g2 := F0 m 118 ls [.int o7]) rfl ?_
      refine lv_istore (lv' := [(9, .int o7), (8, .int y8), (7, .int y7), (6, .int y6), (5, .int y5), (0, .ref a0), (1, .int y1), (2, .ref a0), (3, .int y3), (4, .int y4)]) hx hb dO_ofObjects_118 hl (by decide) rfl (fun ls hl => ?_)
      refine lv_iload hx hb dO_ofObjects_120 (lv_at hl 0 rfl) ?_
      refine lv_if_eq (tgt := 130) hx hb dO_ofObjects_122 (by decide) (fun hc => ?_) (fun hc => ?_)
      · rw [if_pos hc] at hf
        refine lv_iload hx hb dO_ofObjects_130 (lv_at hl 1 rfl) ?_
        obtain rfl := Option.some.inj hf
        obtain ⟨hP9, hD9⟩ := xsub (wc := [(a0, .inr (2, [.ref a1, .int v1, .int v2])), (a1, .inl (cT 2, 4096, .inr (.inl f0)))]) hP hD [0, 1] rfl rfl (by decide)
        exact W.iret (v := y8) hx hb hr (fun t ht hW => ⟨⟨y8, (), rfl, rfl, by rw [ht]; exact hP9, va_K.moved hW.alike hK, hD9⟩, hS.F ht⟩) hS.2.2 dO_ofObjects_132
      · rw [if_neg hc] at hf
        refine lv_iload hx hb dO_ofObjects_125 (lv_at hl 0 rfl) ?_
        refine lv_goto (tgt := 132) hx hb dO_ofObjects_127 (by decide) ?_
        obtain rfl := Option.some.inj hf
        obtain ⟨hP9, hD9⟩ := xsub (wc := [(a0, .inr (2, [.ref a1, .int v1, .int v2])), (a1, .inl (cT 2, 4096, .inr (.inl f0)))]) hP hD [0, 1] rfl rfl (by decide)
        exact W.iret (v := o7) hx hb hr (fun t ht hW => ⟨⟨o7, (), rfl, rfl, by rw [ht]; exact hP9, va_K.moved hW.alike hK, hD9⟩, hS.F ht⟩) hS.2.2 dO_ofObjects_132
    · rw [if_neg hc] at hf
      refine lv_aload_n hx hb dO_ofObjects_34 rfl (lv_at hl 5 rfl) ?_
      refine lv_iload_n hx hb dO_ofObjects_35 rfl (lv_at hl 6 rfl) ?_
      refine lv_iload hx hb dO_ofObjects_36 (lv_at hl 3 rfl) ?_
      obtain ⟨o1, hq2, hf⟩ := xbind hf
      obtain ⟨hPc, hDc, hFc⟩ := xcut (wc := [(a0, .inr (2, [.ref a1, .int v1, .int v2])), (a1, .inl (cT 2, 4096, .inr (.inl f0)))]) hP hD hS hA [0, 1] rfl rfl (by decide)
      refine va_calli (va_runS (As := [.ref a0, .int y1, .int y6]) (rest := []) ⟨hx, hb, hml, hown, htx⟩ (gO_nextName l hl9 D cT aK aV H.size n a0 a1 y1 y6 f0 v1 v2 o1 hq2) ⟨callB_of 3 htx (xw_goodC kw_3_186) rfl rfl rfl (htx _ kw_1_23) (htx _ kw_3_184) ⟨by decide, by decide, by decide +kernel⟩ ⟨Nat.le_of_ble_eq_true rfl, Nat.le_of_ble_eq_true rfl⟩, htx _ kw_3_185⟩ ⟨xPre_blind, (fun U hU hW => ⟨rfl, xPre_of hZ hS hFc hPc hDc hK U hU hW⟩)⟩ rfl rfl hl.1 rfl (lv_room (Nat.le_of_ble_eq_true rfl)) dO_ofObjects_38 ⟨Nat.le_of_ble_eq_true rfl, Nat.le_of_ble_eq_true rfl⟩) hS (fun q _ h => hFc q h) hFc (fun r3 u9 t H1 locs ht hvm hr9 hB hz1 hk1 hS => ?_)
      obtain ⟨hP1, hK1, hD1⟩ := hB
      rw [ht] at hP1
      obtain ⟨hP, hD⟩ := xjoin (W := [(a0, .inr (2, [.ref a1, .int v1, .int v2])), (a1, .inl (cT 2, 4096, .inr (.inl f0)))]) hP hD [0, 1] [] 0 rfl rfl (by decide) (by decide) hk1 hFc hP1 hD1
      generalize H1 = H at hP hS ⊢
      rw [hr9]
      refine W.eq (g2 := F0 m 41 ls [.int o1]) rfl ?_
      refine lv_istore (lv' := [(6, .int o1), (9, .int y9), (8, .int y8), (7, .int y7), (5, .int y5), (0, .ref a0), (1, .int y1), (2, .ref a0), (3, .int y3), (4, .int y4)]) hx hb dO_ofObjects_41 hl (by decide) rfl (fun ls hl => ?_)
      refine lv_aload_n hx hb dO_ofObjects_43 rfl (lv_at hl 7 rfl) ?_
      refine lv_iload_n hx hb dO_ofObjects_44 rfl (lv_at hl 8 rfl) ?_
      refine lv_iload hx hb dO_ofObjects_45 (lv_at hl 3 rfl) ?_
      obtain ⟨o4, hq5, hf⟩ := xbind hf
      obtain ⟨hPc, hDc, hFc⟩ := xcut (wc := [(a0, .inr (2, [.ref a1, .int v1, .int v2])), (a1, .inl (cT 2, 4096, .inr (.inl f0)))]) hP hD hS hA [0, 1] rfl rfl (by decide)
      refine va_calli (va_runS (As := [.ref a0, .int y3, .int y7]) (rest := []) ⟨hx, hb, hml, hown, htx⟩ (gO_nextName l hl9 D cT aK aV H.size n a0 a1 y3 y7 f0 v1 v2 o4 hq5) ⟨callB_of 3 htx (xw_goodC kw_3_186) rfl rfl rfl (htx _ kw_1_23) (htx _ kw_3_184) ⟨by decide, by decide, by decide +kernel⟩ ⟨Nat.le_of_ble_eq_true rfl, Nat.le_of_ble_eq_true rfl⟩, htx _ kw_3_185⟩ ⟨xPre_blind, (fun U hU hW => ⟨rfl, xPre_of hZ hS hFc hPc hDc hK U hU hW⟩)⟩ rfl rfl hl.1 rfl (lv_room (Nat.le_of_ble_eq_true rfl)) dO_ofObjects_47 ⟨Nat.le_of_ble_eq_true rfl, Nat.le_of_ble_eq_true rfl⟩) hS (fun q _ h => hFc q h) hFc (fun r6 u9 t H1 locs ht hvm hr9 hB hz1 hk1 hS => ?_)
      obtain ⟨hP1, hK1, hD1⟩ := hB
      rw [ht] at hP1
      obtain ⟨hP, hD⟩ := xjoin (W := [(a0, .inr (2, [.ref a1, .int v1, .int v2])), (a1, .inl (cT 2, 4096, .inr (.inl f0)))]) hP hD [0, 1] [] 0 rfl rfl (by decide) (by decide) hk1 hFc hP1 hD1
      generalize H1 = H at hP hS ⊢
      rw [hr9]
      refine W.eq (g2 := F0 m 50 ls [.int o4]) rfl ?_
      refine lv_istore (lv' := [(7, .int o4), (6, .int o1), (9, .int y9), (8, .int y8), (5, .int y5), (0, .ref a0), (1, .int y1), (2, .ref a0), (3, .int y3), (4, .int y4)]) hx hb dO_ofObjects_50 hl (by decide) rfl (fun ls hl => ?_)
      refine lv_aload_n hx hb dO_ofObjects_52 rfl (lv_at hl 5 rfl) ?_
      refine lv_iload hx hb dO_ofObjects_53 (lv_at hl 1 rfl) ?_
      refine lv_aload_n hx hb dO_ofObjects_55 rfl (lv_at hl 7 rfl) ?_
      refine lv_iload hx hb dO_ofObjects_56 (lv_at hl 0 rfl) ?_
      obtain ⟨o7, hq8, hf⟩ := xbind hf
      obtain ⟨hPc, hDc, hFc⟩ := xcut (wc := [(a0, .inr (2, [.ref a1, .int v1, .int v2])), (a1, .inl (cT 2, 4096, .inr (.inl f0)))]) hP hD hS hA [0, 1] rfl rfl (by decide)
      refine va_calli (va_runV (C := "ValueBench$Row") (As := [.int o1, .ref a0, .int o4]) (rest := []) ⟨hx, hb, hml, hown, htx⟩ (gR_orderOfStrings l hl9 D cT aK aV H.size n a0 a1 o1 o4 f0 v1 v2 o7 hq8) ⟨callB_of 3 htx (xw_goodC kw_2_206) rfl rfl rfl (htx _ kw_1_4) (htx _ kw_3_174) ⟨by decide, by decide, by decide +kernel⟩ ⟨Nat.le_of_ble_eq_true rfl, Nat.le_of_ble_eq_true rfl⟩, (htx _ kw_2_204), (htx _ kw_2_205)⟩ ⟨xPre_blind, va_recv hK hP (ci := 2) rfl (q0 := 0) rfl, (fun U hU hW => ⟨rfl, xPre_of hZ hS hFc hPc hDc hK U hU hW⟩)⟩ rfl rfl hl.1 rfl (lv_room (Nat.le_of_ble_eq_true rfl)) dO_ofObjects_58 ⟨Nat.le_of_ble_eq_true rfl, Nat.le_of_ble_eq_true rfl⟩) hS (fun q _ h => hFc q h) hFc (fun r9 u9 t H1 locs ht hvm hr9 hB hz1 hk1 hS => ?_)
      obtain ⟨hP1, hK1, hD1⟩ := hB
      rw [ht] at hP1
      obtain ⟨hP, hD⟩ := xjoin (W := [(a0, .inr (2, [.ref a1, .int v1, .int v2])), (a1, .inl (cT 2, 4096, .inr (.inl f0)))]) hP hD [0, 1] [] 0 rfl rfl (by decide) (by decide) hk1 hFc hP1 hD1
      generalize H1 = H at hP hS ⊢
      rw [hr9]
      refine W.eq (g2 := F0 m 61 ls [.int o7]) rfl ?_
      refine lv_istore (lv' := [(10, .int o7), (7, .int o4), (6, .int o1), (9, .int y9), (8, .int y8), (5, .int y5), (0, .ref a0), (1, .int y1), (2, .ref a0), (3, .int y3), (4, .int y4)]) hx hb dO_ofObjects_61 hl (by decide) rfl (fun ls hl => ?_)
      refine lv_iload hx hb dO_ofObjects_63 (lv_at hl 0 rfl) ?_
      refine lv_if_eq (tgt := 71) hx hb dO_ofObjects_65 (by decide) (fun hc => ?_) (fun hc => ?_)
      · rw [if_pos hc] at hf
        refine lv_iload hx hb dO_ofObjects_71 (lv_at hl 4 rfl) ?_
        refine lv_if_ne (tgt := 99) hx hb dO_ofObjects_73 (by decide) (fun hc => ?_) (fun hc => ?_)
        · rw [if_neg hc] at hf
          refine lv_iinc (v := (y9 + 1)) (lv' := [(9, .int (y9 + 1)), (10, .int o7), (7, .int o4), (6, .int o1), (8, .int y8), (5, .int y5), (0, .ref a0), (1, .int y1), (2, .ref a0), (3, .int y3), (4, .int y4)]) hx hb dO_ofObjects_99 hl (k := 3) rfl rfl (by decide) rfl (fun ls hl => ?_)
          refine lv_goto (tgt := 27) hx hb dO_ofObjects_102 (by decide) ?_
          obtain ⟨hP9, hD9⟩ := xsub (wc := [(a0, .inr (2, [.ref a1, .int v1, .int v2])), (a1, .inl (cT 2, 4096, .inr (.inl f0)))]) hP hD [0, 1] rfl rfl (by decide)
          exact ih (1, (y9 + 1), y8, o4, o1, y5, y1, y3, y4) _ _ ls (⟨rfl, hf, hP9, hD9, hS, lv_sub hl [0, 4, 2, 3, 5, 6, 7, 8, 9, 10] rfl⟩)
        · rw [if_pos hc] at hf
          refine lv_aload_n hx hb dO_ofObjects_76 rfl (lv_at hl 6 rfl) ?_
          refine lv_aload_n hx hb dO_ofObjects_77 rfl (lv_at hl 6 rfl) ?_
          refine lv_iload hx hb dO_ofObjects_78 (lv_at hl 2 rfl) ?_
          obtain ⟨o10, hq11, hf⟩ := xbind hf
          obtain ⟨hPc, hDc, hFc⟩ := xcut (wc := [(a0, .inr (2, [.ref a1, .int v1, .int v2])), (a1, .inl (cT 2, 4096, .inr (.inl f0)))]) hP hD hS hA [0, 1] rfl rfl (by decide)
          refine va_calli (va_runV (C := "ValueBench$Row") (As := [.int o1]) (rest := [.ref a0]) ⟨hx, hb, hml, hown, htx⟩ (gR_after l hl9 D cT aK aV H.size n a0 a1 o1 f0 v1 v2 o10 hq11) ⟨callB_of 1 htx (xw_goodC kw_2_196) rfl rfl rfl (htx _ kw_1_4) (htx _ kw_3_180) ⟨by decide, by decide, by decide +kernel⟩ ⟨Nat.le_of_ble_eq_true rfl, Nat.le_of_ble_eq_true rfl⟩, (htx _ kw_2_194), (htx _ kw_2_195)⟩ ⟨xPre_blind, va_recv hK hP (ci := 2) rfl (q0 := 0) rfl, (fun U hU hW => ⟨rfl, xPre_of hZ hS hFc hPc hDc hK U hU hW⟩)⟩ rfl rfl hl.1 rfl (lv_room (Nat.le_of_ble_eq_true rfl)) dO_ofObjects_80 ⟨Nat.le_of_ble_eq_true rfl, Nat.le_of_ble_eq_true rfl⟩) hS (fun q _ h => hFc q h) hFc (fun r12 u9 t H1 locs ht hvm hr9 hB hz1 hk1 hS => ?_)
          obtain ⟨hP1, hK1, hD1⟩ := hB
          rw [ht] at hP1
          obtain ⟨hP, hD⟩ := xjoin (W := [(a0, .inr (2, [.ref a1, .int v1, .int v2])), (a1, .inl (cT 2, 4096, .inr (.inl f0)))]) hP hD [0, 1] [] 0 rfl rfl (by decide) (by decide) hk1 hFc hP1 hD1
          generalize H1 = H at hP hS ⊢
          rw [hr9]
          refine W.eq (g2 := F0 m 83 ls [.int o10, .ref a0]) rfl ?_
          refine lv_aload_n hx hb dO_ofObjects_83 rfl (lv_at hl 8 rfl) ?_
          refine lv_aload_n hx hb dO_ofObjects_84 rfl (lv_at hl 8 rfl) ?_
          refine lv_iload hx hb dO_ofObjects_85 (lv_at hl 1 rfl) ?_
          obtain ⟨o13, hq14, hf⟩ := xbind hf
          obtain ⟨hPc, hDc, hFc⟩ := xcut (wc := [(a0, .inr (2, [.ref a1, .int v1, .int v2])), (a1, .inl (cT 2, 4096, .inr (.inl f0)))]) hP hD hS hA [0, 1] rfl rfl (by decide)
          refine va_calli (va_runV (C := "ValueBench$Row") (As := [.int o4]) (rest := [.ref a0, .int o10, .ref a0]) ⟨hx, hb, hml, hown, htx⟩ (gR_after l hl9 D cT aK aV H.size n a0 a1 o4 f0 v1 v2 o13 hq14) ⟨callB_of 1 htx (xw_goodC kw_2_196) rfl rfl rfl (htx _ kw_1_4) (htx _ kw_3_180) ⟨by decide, by decide, by decide +kernel⟩ ⟨Nat.le_of_ble_eq_true rfl, Nat.le_of_ble_eq_true rfl⟩, (htx _ kw_2_194), (htx _ kw_2_195)⟩ ⟨xPre_blind, va_recv hK hP (ci := 2) rfl (q0 := 0) rfl, (fun U hU hW => ⟨rfl, xPre_of hZ hS hFc hPc hDc hK U hU hW⟩)⟩ rfl rfl hl.1 rfl (lv_room (Nat.le_of_ble_eq_true rfl)) dO_ofObjects_87 ⟨Nat.le_of_ble_eq_true rfl, Nat.le_of_ble_eq_true rfl⟩) hS (fun q _ h => hFc q h) hFc (fun r15 u9 t H1 locs ht hvm hr9 hB hz1 hk1 hS => ?_)
          obtain ⟨hP1, hK1, hD1⟩ := hB
          rw [ht] at hP1
          obtain ⟨hP, hD⟩ := xjoin (W := [(a0, .inr (2, [.ref a1, .int v1, .int v2])), (a1, .inl (cT 2, 4096, .inr (.inl f0)))]) hP hD [0, 1] [] 0 rfl rfl (by decide) (by decide) hk1 hFc hP1 hD1
          generalize H1 = H at hP hS ⊢
          rw [hr9]
          refine W.eq (g2 := F0 m 90 ls [.int o13, .ref a0, .int o10, .ref a0]) rfl ?_
          refine lv_iload hx hb dO_ofObjects_90 (lv_at hl 10 rfl) ?_
          refine lv_iconst (v := 1) hx hb dO_ofObjects_92 (by decide) ?_
          refine lv_iadd hx hb dO_ofObjects_93 ?_
          obtain ⟨o16, hq17, hf⟩ := xbind hf
          obtain ⟨hPc, hDc, hFc⟩ := xcut (wc := [(a0, .inr (2, [.ref a1, .int v1, .int v2])), (a1, .inl (cT 2, 4096, .inr (.inl f0)))]) hP hD hS hA [0, 1] rfl rfl (by decide)
          refine va_calli (va_runS (As := [.ref a0, .int o10, .ref a0, .int o13, .int (y4 + (1 : Int32))]) (rest := []) ⟨hx, hb, hml, hown, htx⟩ (hrec H.size a0 a1 o10 o13 (y4 + (1 : Int32)) f0 v1 v2 o16 hq17) ⟨callB_of 5 htx (xw_goodC kw_3_165) rfl rfl rfl (htx _ kw_1_23) (htx _ kw_3_163) ⟨by decide, by decide, by decide +kernel⟩ ⟨(by show (fr) + 1 ≤ fr + 2; omega), (by show 8 + (5 + 11) + (lo) ≤ lo + 55; omega)⟩, htx _ kw_3_164⟩ ⟨xPre_blind, (fun U hU hW => ⟨rfl, xPre_of hZ hS hFc hPc hDc hK U hU hW⟩)⟩ rfl rfl hl.1 rfl (lv_room (Nat.le_of_ble_eq_true rfl)) dO_ofObjects_94 ⟨Nat.le_of_ble_eq_true rfl, Nat.le_of_ble_eq_true rfl⟩) hS (fun q _ h => hFc q h) hFc (fun r18 u9 t H1 locs ht hvm hr9 hB hz1 hk1 hS => ?_)
          obtain ⟨hP1, hK1, hD1⟩ := hB
          rw [ht] at hP1
          obtain ⟨hP, hD⟩ := xjoin (W := [(a0, .inr (2, [.ref a1, .int v1, .int v2])), (a1, .inl (cT 2, 4096, .inr (.inl f0)))]) hP hD [0, 1] [] 0 rfl rfl (by decide) (by decide) hk1 hFc hP1 hD1
          generalize H1 = H at hP hS ⊢
          rw [hr9]
          refine W.eq (g2 := F0 m 97 ls [.int o16]) rfl ?_
          refine lv_istore (lv' := [(8, .int o16), (10, .int o7), (7, .int o4), (6, .int o1), (9, .int y9), (5, .int y5), (0, .ref a0), (1, .int y1), (2, .ref a0), (3, .int y3), (4, .int y4)]) hx hb dO_ofObjects_97 hl (by decide) rfl (fun ls hl => ?_)
          refine lv_iinc (v := (y9 + 1)) (lv' := [(9, .int (y9 + 1)), (8, .int o16), (10, .int o7), (7, .int o4), (6, .int o1), (5, .int y5), (0, .ref a0), (1, .int y1), (2, .ref a0), (3, .int y3), (4, .int y4)]) hx hb dO_ofObjects_99 hl (k := 4) rfl rfl (by decide) rfl (fun ls hl => ?_)
          refine lv_goto (tgt := 27) hx hb dO_ofObjects_102 (by decide) ?_
          obtain ⟨hP9, hD9⟩ := xsub (wc := [(a0, .inr (2, [.ref a1, .int v1, .int v2])), (a1, .inl (cT 2, 4096, .inr (.inl f0)))]) hP hD [0, 1] rfl rfl (by decide)
          exact ih (1, (y9 + 1), o16, o4, o1, y5, y1, y3, y4) _ _ ls (⟨rfl, hf, hP9, hD9, hS, lv_sub hl [0, 1, 3, 4, 5, 6, 7, 8, 9, 10] rfl⟩)
      · rw [if_neg hc] at hf
        refine lv_iload hx hb dO_ofObjects_68 (lv_at hl 0 rfl) ?_
        obtain rfl := Option.some.inj hf
        obtain ⟨hP9, hD9⟩ := xsub (wc := [(a0, .inr (2, [.ref a1, .int v1, .int v2])), (a1, .inl (cT 2, 4096, .inr (.inl f0)))]) hP hD [0, 1] rfl rfl (by decide)
        exact W.iret (v := o7) hx hb hr (fun t ht hW => ⟨⟨o7, (), rfl, rfl, by rw [ht]; exact hP9, va_K.moved hW.alike hK, hD9⟩, hS.F ht⟩) hS.2.2 dO_ofObjects_70
  refine lv_aload_n hx hb dO_ofObjects_0 rfl (lv_at hl 0 rfl) ?_
  refine lv_iload_n hx hb dO_ofObjects_1 rfl (lv_at hl 1 rfl) ?_
  obtain ⟨o1, hq2, hf⟩ := xbind hf
  obtain ⟨hPc, hDc, hFc⟩ := xcut (wc := [(a0, .inr (2, [.ref a1, .int v1, .int v2])), (a1, .inl (cT 2, 4096, .inr (.inl f0)))]) hP hD hS hA [0, 1] rfl rfl (by decide)
  refine va_calli (va_runV (C := "ValueBench$Row") (As := [.int x1]) (rest := []) ⟨hx, hb, hml, hown, htx⟩ (gR_length l hl9 D cT aK aV s.heap.size n a0 a1 x1 f0 v1 v2 o1 hq2) ⟨callB_of 1 htx (xw_goodC kw_2_191) rfl rfl rfl (htx _ kw_1_4) (htx _ kw_3_178) ⟨by decide, by decide, by decide +kernel⟩ ⟨Nat.le_of_ble_eq_true rfl, Nat.le_of_ble_eq_true rfl⟩, (htx _ kw_2_189), (htx _ kw_2_190)⟩ ⟨xPre_blind, va_recv hK hP (ci := 2) rfl (q0 := 0) rfl, (fun U hU hW => ⟨rfl, xPre_of hZ hS hFc hPc hDc hK U hU hW⟩)⟩ rfl rfl hl.1 rfl (lv_room (Nat.le_of_ble_eq_true rfl)) dO_ofObjects_2 ⟨Nat.le_of_ble_eq_true rfl, Nat.le_of_ble_eq_true rfl⟩) hS (fun q _ h => hFc q h) hFc (fun r3 u9 t H1 locs ht hvm hr9 hB hz1 hk1 hS => ?_)
  obtain ⟨hP1, hK1, hD1⟩ := hB
  rw [ht] at hP1
  obtain ⟨hP, hD⟩ := xjoin (W := [(a0, .inr (2, [.ref a1, .int v1, .int v2])), (a1, .inl (cT 2, 4096, .inr (.inl f0)))]) hP hD [0, 1] [] 0 rfl rfl (by decide) (by decide) hk1 hFc hP1 hD1
  generalize H1 = H at hP hS ⊢
  rw [hr9]
  refine W.eq (g2 := F0 m 5 ls [.int o1]) rfl ?_
  refine lv_aload_n hx hb dO_ofObjects_5 rfl (lv_at hl 2 rfl) ?_
  refine lv_iload_n hx hb dO_ofObjects_6 rfl (lv_at hl 3 rfl) ?_
  obtain ⟨o4, hq5, hf⟩ := xbind hf
  obtain ⟨hPc, hDc, hFc⟩ := xcut (wc := [(a0, .inr (2, [.ref a1, .int v1, .int v2])), (a1, .inl (cT 2, 4096, .inr (.inl f0)))]) hP hD hS hA [0, 1] rfl rfl (by decide)
  refine va_calli (va_runV (C := "ValueBench$Row") (As := [.int x3]) (rest := [.int o1]) ⟨hx, hb, hml, hown, htx⟩ (gR_length l hl9 D cT aK aV H.size n a0 a1 x3 f0 v1 v2 o4 hq5) ⟨callB_of 1 htx (xw_goodC kw_2_191) rfl rfl rfl (htx _ kw_1_4) (htx _ kw_3_178) ⟨by decide, by decide, by decide +kernel⟩ ⟨Nat.le_of_ble_eq_true rfl, Nat.le_of_ble_eq_true rfl⟩, (htx _ kw_2_189), (htx _ kw_2_190)⟩ ⟨xPre_blind, va_recv hK hP (ci := 2) rfl (q0 := 0) rfl, (fun U hU hW => ⟨rfl, xPre_of hZ hS hFc hPc hDc hK U hU hW⟩)⟩ rfl rfl hl.1 rfl (lv_room (Nat.le_of_ble_eq_true rfl)) dO_ofObjects_7 ⟨Nat.le_of_ble_eq_true rfl, Nat.le_of_ble_eq_true rfl⟩) hS (fun q _ h => hFc q h) hFc (fun r6 u9 t H1 locs ht hvm hr9 hB hz1 hk1 hS => ?_)
  obtain ⟨hP1, hK1, hD1⟩ := hB
  rw [ht] at hP1
  obtain ⟨hP, hD⟩ := xjoin (W := [(a0, .inr (2, [.ref a1, .int v1, .int v2])), (a1, .inl (cT 2, 4096, .inr (.inl f0)))]) hP hD [0, 1] [] 0 rfl rfl (by decide) (by decide) hk1 hFc hP1 hD1
  generalize H1 = H at hP hS ⊢
  rw [hr9]
  refine W.eq (g2 := F0 m 10 ls [.int o4, .int o1]) rfl ?_
  refine va_mmin hx hb (hml.trans hl.1.symm) hown (htx _ kw_3_179) (htx _ kw_2_3) (htx _ kw_1_15) (htx _ kw_2_4) (Nat.le_of_ble_eq_true rfl) (Nat.le_of_ble_eq_true rfl) (Nat.le_of_ble_eq_true rfl) (Nat.le_of_ble_eq_true rfl) dO_ofObjects_10 ?_
  refine W.eq (g2 := F0 m 13 ls [.int (if o4 < o1 then o4 else o1)]) rfl ?_
  refine lv_istore (lv' := [(5, .int (if o4 < o1 then o4 else o1)), (0, .ref a0), (1, .int x1), (2, .ref a0), (3, .int x3), (4, .int x4)]) hx hb dO_ofObjects_13 hl (by decide) rfl (fun ls hl => ?_)
  refine lv_iconst (v := (-1)) hx hb dO_ofObjects_15 (by decide) ?_
  refine lv_istore (lv' := [(6, .int (-1)), (5, .int (if o4 < o1 then o4 else o1)), (0, .ref a0), (1, .int x1), (2, .ref a0), (3, .int x3), (4, .int x4)]) hx hb dO_ofObjects_16 hl (by decide) rfl (fun ls hl => ?_)
  refine lv_iconst (v := (-1)) hx hb dO_ofObjects_18 (by decide) ?_
  refine lv_istore (lv' := [(7, .int (-1)), (6, .int (-1)), (5, .int (if o4 < o1 then o4 else o1)), (0, .ref a0), (1, .int x1), (2, .ref a0), (3, .int x3), (4, .int x4)]) hx hb dO_ofObjects_19 hl (by decide) rfl (fun ls hl => ?_)
  refine lv_iconst (v := 0) hx hb dO_ofObjects_21 (by decide) ?_
  refine lv_istore (lv' := [(8, .int 0), (7, .int (-1)), (6, .int (-1)), (5, .int (if o4 < o1 then o4 else o1)), (0, .ref a0), (1, .int x1), (2, .ref a0), (3, .int x3), (4, .int x4)]) hx hb dO_ofObjects_22 hl (by decide) rfl (fun ls hl => ?_)
  refine lv_iconst (v := 0) hx hb dO_ofObjects_24 (by decide) ?_
  refine lv_istore (lv' := [(9, .int 0), (8, .int 0), (7, .int (-1)), (6, .int (-1)), (5, .int (if o4 < o1 then o4 else o1)), (0, .ref a0), (1, .int x1), (2, .ref a0), (3, .int x3), (4, .int x4)]) hx hb dO_ofObjects_25 hl (by decide) rfl (fun ls hl => ?_)
  obtain ⟨hP9, hD9⟩ := xsub (wc := [(a0, .inr (2, [.ref a1, .int v1, .int v2])), (a1, .inl (cT 2, 4096, .inr (.inl f0)))]) hP hD [0, 1] rfl rfl (by decide)
  exact key n (1, 0, 0, (-1), (-1), (if o4 < o1 then o4 else o1), x1, x3, x4) _ _ ls (⟨rfl, hf, hP9, hD9, hS, lv_sub hl [0, 1, 2, 3, 4, 5, 6, 7, 8, 9] rfl⟩)
set_option maxHeartbeats 400000000 in
set_option maxRecDepth 100000 in
theorem gO_ofa (l : Launch) (hl9 : l.stackTraces = false) (D : va_G) (cT : Nat → ClassId) (aK aV : Nat → Nat) : ∀ (d sz n : Nat) (a0 : Nat) (a1 : Nat) (x1 : Int32) (x3 : Int32) (x4 : Int32) (f0 : Nat → Int64) (v1 : Int32) (v2 : Int32) (out : Int32) (hf : fO_ofa d n x1 x3 x4 f0 v1 v2 = some out), xMet l yO_of wyO_of (16 * d) 0 0 (400 * d) D cT aK aV sz [.ref a0, .int x1, .ref a0, .int x3, .int x4] [(a0, .inr (2, [.ref a1, .int v1, .int v2])), (a1, .inl (cT 2, 4096, .inr (.inl f0)))] (fun A => va_Qi (fun (r : Int32) (_ : Unit) => r = out) (fun _ t => xB D xcl cT A [(a0, .inr (2, [.ref a1, .int v1, .int v2])), (a1, .inl (cT 2, 4096, .inr (.inl f0)))] t) A) := by
  intro d
  induction d with
  | zero =>
    intro sz n a0 a1 x1 x3 x4 f0 v1 v2 out hf
    rw [fO_ofa] at hf
    exact nomatch hf
  | succ d ih =>
    intro sz n a0 a1 x1 x3 x4 f0 v1 v2 out hf
    rw [fO_ofa] at hf
    refine Met.ofW (cc := prog_4_method_2_code) (maxL := 5) (ret := (some .int)) (by decide) rfl ?_
    intro p e s m args below meth c s₁ B hml hv
    obtain ⟨rfl, hsz, hZ, hP, hK, hD0⟩ := hv
    have hx := B.exec
    have hb := B.bytes
    have hr := B.returns
    have hts := atoms_spec (ws := wyO_of) B.pre
    have htx := fun w h => hts w (List.mem_cons_of_mem _ h)
    have hown : s.vm.findClass "ValueBench$Order" = some m.cls := findClass_of_methodNamed B.named
    have hlocks := B.notSynchronized
    subst hsz
    have hD := hD0.self (sz := s.heap.size)
    generalize hAe : va_A [(a0, .inr (2, [.ref a1, .int v1, .int v2])), (a1, .inl (cT 2, 4096, .inr (.inl f0)))] s.heap.size = A at hD hZ ⊢
    have hA : ∀ q : Nat, s.heap.size ≤ q → A q := fun q h => by rw [← hAe]; exact Or.inr h
    have hS : va_S A s.heap s.heap [] := va_S.rf
    have hP : va_P D xcl [(a0, .inr (2, [.ref a1, .int v1, .int v2])), (a1, .inl (cT 2, 4096, .inr (.inl f0)))] s.heap := hP
    have hl := lv_entry ([.ref a0, .int x1, .ref a0, .int x3, .int x4]) (n := 5) (Nat.le_of_ble_eq_true rfl)
    rw [lg_entry_eq]
    generalize (lg_sl ([.ref a0, .int x1, .ref a0, .int x3, .int x4]) ++ List.replicate (5 - (lg_sl ([.ref a0, .int x1, .ref a0, .int x3, .int x4])).length) Slot.unset).toArray = ls at hl ⊢
    have hl : lv_has ls 5 [(0, .ref a0), (1, .int x1), (2, .ref a0), (3, .int x3), (4, .int x4)] := hl
    refine lv_aload_n hx hb dO_of_0 rfl (lv_at hl 0 rfl) ?_
    refine lv_iload_n hx hb dO_of_1 rfl (lv_at hl 1 rfl) ?_
    obtain ⟨o1, hq2, hf⟩ := xbind hf
    obtain ⟨hPc, hDc, hFc⟩ := xcut (wc := [(a0, .inr (2, [.ref a1, .int v1, .int v2])), (a1, .inl (cT 2, 4096, .inr (.inl f0)))]) hP hD hS hA [0, 1] rfl rfl (by decide)
    refine va_calli (va_runV (C := "ValueBench$Row") (As := [.int x1]) (rest := []) ⟨hx, hb, hml, hown, htx⟩ (gR_kind l hl9 D cT aK aV s.heap.size n a0 a1 x1 f0 v1 v2 o1 hq2) ⟨callB_of 1 htx (xw_goodC kw_3_24) rfl rfl rfl (htx _ kw_1_4) (htx _ kw_3_166) ⟨by decide, by decide, by decide +kernel⟩ ⟨Nat.le_of_ble_eq_true rfl, Nat.le_of_ble_eq_true rfl⟩, (htx _ kw_3_22), (htx _ kw_3_23)⟩ ⟨xPre_blind, va_recv hK hP (ci := 2) rfl (q0 := 0) rfl, (fun U hU hW => ⟨rfl, xPre_of hZ hS hFc hPc hDc hK U hU hW⟩)⟩ rfl rfl hl.1 rfl (lv_room (Nat.le_of_ble_eq_true rfl)) dO_of_2 ⟨Nat.le_of_ble_eq_true rfl, Nat.le_of_ble_eq_true rfl⟩) hS (fun q _ h => hFc q h) hFc (fun r3 u9 t H1 locs ht hvm hr9 hB hz1 hk1 hS => ?_)
    obtain ⟨hP1, hK1, hD1⟩ := hB
    rw [ht] at hP1
    obtain ⟨hP, hD⟩ := xjoin (W := [(a0, .inr (2, [.ref a1, .int v1, .int v2])), (a1, .inl (cT 2, 4096, .inr (.inl f0)))]) hP hD [0, 1] [] 0 rfl rfl (by decide) (by decide) hk1 hFc hP1 hD1
    generalize H1 = H at hP hS ⊢
    rw [hr9]
    refine W.eq (g2 := F0 m 5 ls [.int o1]) rfl ?_
    refine lv_aload_n hx hb dO_of_5 rfl (lv_at hl 2 rfl) ?_
    refine lv_iload_n hx hb dO_of_6 rfl (lv_at hl 3 rfl) ?_
    obtain ⟨o4, hq5, hf⟩ := xbind hf
    obtain ⟨hPc, hDc, hFc⟩ := xcut (wc := [(a0, .inr (2, [.ref a1, .int v1, .int v2])), (a1, .inl (cT 2, 4096, .inr (.inl f0)))]) hP hD hS hA [0, 1] rfl rfl (by decide)
    refine va_calli (va_runV (C := "ValueBench$Row") (As := [.int x3]) (rest := [.int o1]) ⟨hx, hb, hml, hown, htx⟩ (gR_kind l hl9 D cT aK aV H.size n a0 a1 x3 f0 v1 v2 o4 hq5) ⟨callB_of 1 htx (xw_goodC kw_3_24) rfl rfl rfl (htx _ kw_1_4) (htx _ kw_3_166) ⟨by decide, by decide, by decide +kernel⟩ ⟨Nat.le_of_ble_eq_true rfl, Nat.le_of_ble_eq_true rfl⟩, (htx _ kw_3_22), (htx _ kw_3_23)⟩ ⟨xPre_blind, va_recv hK hP (ci := 2) rfl (q0 := 0) rfl, (fun U hU hW => ⟨rfl, xPre_of hZ hS hFc hPc hDc hK U hU hW⟩)⟩ rfl rfl hl.1 rfl (lv_room (Nat.le_of_ble_eq_true rfl)) dO_of_7 ⟨Nat.le_of_ble_eq_true rfl, Nat.le_of_ble_eq_true rfl⟩) hS (fun q _ h => hFc q h) hFc (fun r6 u9 t H1 locs ht hvm hr9 hB hz1 hk1 hS => ?_)
    obtain ⟨hP1, hK1, hD1⟩ := hB
    rw [ht] at hP1
    obtain ⟨hP, hD⟩ := xjoin (W := [(a0, .inr (2, [.ref a1, .int v1, .int v2])), (a1, .inl (cT 2, 4096, .inr (.inl f0)))]) hP hD [0, 1] [] 0 rfl rfl (by decide) (by decide) hk1 hFc hP1 hD1
    generalize H1 = H at hP hS ⊢
    rw [hr9]
    refine W.eq (g2 := F0 m 10 ls [.int o4, .int o1]) rfl ?_
    refine lv_icmp_ne (tgt := 20) hx hb dO_of_10 (by decide) (fun hc => ?_) (fun hc => ?_)
    · rw [if_neg hc] at hf
      refine lv_aload_n hx hb dO_of_20 rfl (lv_at hl 0 rfl) ?_
      refine lv_iload_n hx hb dO_of_21 rfl (lv_at hl 1 rfl) ?_
      obtain ⟨o7, hq8, hf⟩ := xbind hf
      obtain ⟨hPc, hDc, hFc⟩ := xcut (wc := [(a0, .inr (2, [.ref a1, .int v1, .int v2])), (a1, .inl (cT 2, 4096, .inr (.inl f0)))]) hP hD hS hA [0, 1] rfl rfl (by decide)
      refine va_calli (va_runV (C := "ValueBench$Row") (As := [.int x1]) (rest := []) ⟨hx, hb, hml, hown, htx⟩ (gR_kind l hl9 D cT aK aV H.size n a0 a1 x1 f0 v1 v2 o7 hq8) ⟨callB_of 1 htx (xw_goodC kw_3_24) rfl rfl rfl (htx _ kw_1_4) (htx _ kw_3_166) ⟨by decide, by decide, by decide +kernel⟩ ⟨Nat.le_of_ble_eq_true rfl, Nat.le_of_ble_eq_true rfl⟩, (htx _ kw_3_22), (htx _ kw_3_23)⟩ ⟨xPre_blind, va_recv hK hP (ci := 2) rfl (q0 := 0) rfl, (fun U hU hW => ⟨rfl, xPre_of hZ hS hFc hPc hDc hK U hU hW⟩)⟩ rfl rfl hl.1 rfl (lv_room (Nat.le_of_ble_eq_true rfl)) dO_of_22 ⟨Nat.le_of_ble_eq_true rfl, Nat.le_of_ble_eq_true rfl⟩) hS (fun q _ h => hFc q h) hFc (fun r9 u9 t H1 locs ht hvm hr9 hB hz1 hk1 hS => ?_)
      obtain ⟨hP1, hK1, hD1⟩ := hB
      rw [ht] at hP1
      obtain ⟨hP, hD⟩ := xjoin (W := [(a0, .inr (2, [.ref a1, .int v1, .int v2])), (a1, .inl (cT 2, 4096, .inr (.inl f0)))]) hP hD [0, 1] [] 0 rfl rfl (by decide) (by decide) hk1 hFc hP1 hD1
      generalize H1 = H at hP hS ⊢
      rw [hr9]
      refine W.eq (g2 := F0 m 25 ls [.int o7]) rfl ?_
      refine lv_aload_n hx hb dO_of_25 rfl (lv_at hl 2 rfl) ?_
      refine lv_iload_n hx hb dO_of_26 rfl (lv_at hl 3 rfl) ?_
      obtain ⟨o10, hq11, hf⟩ := xbind hf
      obtain ⟨hPc, hDc, hFc⟩ := xcut (wc := [(a0, .inr (2, [.ref a1, .int v1, .int v2])), (a1, .inl (cT 2, 4096, .inr (.inl f0)))]) hP hD hS hA [0, 1] rfl rfl (by decide)
      refine va_calli (va_runV (C := "ValueBench$Row") (As := [.int x3]) (rest := [.int o7]) ⟨hx, hb, hml, hown, htx⟩ (gR_kind l hl9 D cT aK aV H.size n a0 a1 x3 f0 v1 v2 o10 hq11) ⟨callB_of 1 htx (xw_goodC kw_3_24) rfl rfl rfl (htx _ kw_1_4) (htx _ kw_3_166) ⟨by decide, by decide, by decide +kernel⟩ ⟨Nat.le_of_ble_eq_true rfl, Nat.le_of_ble_eq_true rfl⟩, (htx _ kw_3_22), (htx _ kw_3_23)⟩ ⟨xPre_blind, va_recv hK hP (ci := 2) rfl (q0 := 0) rfl, (fun U hU hW => ⟨rfl, xPre_of hZ hS hFc hPc hDc hK U hU hW⟩)⟩ rfl rfl hl.1 rfl (lv_room (Nat.le_of_ble_eq_true rfl)) dO_of_27 ⟨Nat.le_of_ble_eq_true rfl, Nat.le_of_ble_eq_true rfl⟩) hS (fun q _ h => hFc q h) hFc (fun r12 u9 t H1 locs ht hvm hr9 hB hz1 hk1 hS => ?_)
      obtain ⟨hP1, hK1, hD1⟩ := hB
      rw [ht] at hP1
      obtain ⟨hP, hD⟩ := xjoin (W := [(a0, .inr (2, [.ref a1, .int v1, .int v2])), (a1, .inl (cT 2, 4096, .inr (.inl f0)))]) hP hD [0, 1] [] 0 rfl rfl (by decide) (by decide) hk1 hFc hP1 hD1
      generalize H1 = H at hP hS ⊢
      rw [hr9]
      refine W.eq (g2 := F0 m 30 ls [.int o10, .int o7]) rfl ?_
      obtain ⟨o13, hq14, hf⟩ := xbind hf
      obtain ⟨hPc, hDc, hFc⟩ := xcut (wc := []) hP hD hS hA [] rfl rfl (by decide)
      refine va_calli (va_runS (As := [.int o7, .int o10]) (rest := []) ⟨hx, hb, hml, hown, htx⟩ (gJI_compare l hl9 D cT aK aV H.size n o7 o10 o13 hq14) ⟨callB_of 2 htx (xw_goodC kw_3_169) rfl rfl rfl (htx _ kw_1_24) (htx _ kw_3_167) ⟨by decide, by decide, by decide +kernel⟩ ⟨Nat.le_of_ble_eq_true rfl, Nat.le_of_ble_eq_true rfl⟩, htx _ kw_3_168⟩ ⟨xPre_blind, (fun U hU hW => ⟨rfl, xPre_of hZ hS hFc hPc hDc hK U hU hW⟩)⟩ rfl rfl hl.1 rfl (lv_room (Nat.le_of_ble_eq_true rfl)) dO_of_30 ⟨Nat.le_of_ble_eq_true rfl, Nat.le_of_ble_eq_true rfl⟩) hS (fun q _ h => hFc q h) hFc (fun r15 u9 t H1 locs ht hvm hr9 hB hz1 hk1 hS => ?_)
      obtain ⟨hP1, hK1, hD1⟩ := hB
      rw [ht] at hP1
      obtain ⟨hP, hD⟩ := xjoin (W := [(a0, .inr (2, [.ref a1, .int v1, .int v2])), (a1, .inl (cT 2, 4096, .inr (.inl f0)))]) hP hD [] [0, 1] 2 rfl rfl (by decide) (by decide) hk1 hFc hP1 hD1
      generalize H1 = H at hP hS ⊢
      rw [hr9]
      refine W.eq (g2 := F0 m 33 ls [.int o13]) rfl ?_
      obtain rfl := Option.some.inj hf
      obtain ⟨hP9, hD9⟩ := xsub (wc := [(a0, .inr (2, [.ref a1, .int v1, .int v2])), (a1, .inl (cT 2, 4096, .inr (.inl f0)))]) hP hD [0, 1] rfl rfl (by decide)
      exact W.iret (v := o13) hx hb hr (fun t ht hW => ⟨⟨o13, (), rfl, rfl, by rw [ht]; exact hP9, va_K.moved hW.alike hK, hD9⟩, hS.F ht⟩) hS.2.2 dO_of_33
    · rw [if_pos hc] at hf
      refine lv_iload hx hb dO_of_13 (lv_at hl 4 rfl) ?_
      refine lv_bipush (v := 60) hx hb dO_of_15 (by decide) ?_
      refine lv_icmp_le (tgt := 34) hx hb dO_of_17 (by decide) (fun hc => ?_) (fun hc => ?_)
      · rw [if_pos hc] at hf
        refine lv_aload_n hx hb dO_of_34 rfl (lv_at hl 0 rfl) ?_
        refine lv_iload_n hx hb dO_of_35 rfl (lv_at hl 1 rfl) ?_
        obtain ⟨o7, hq8, hf⟩ := xbind hf
        obtain ⟨hPc, hDc, hFc⟩ := xcut (wc := [(a0, .inr (2, [.ref a1, .int v1, .int v2])), (a1, .inl (cT 2, 4096, .inr (.inl f0)))]) hP hD hS hA [0, 1] rfl rfl (by decide)
        refine va_calli (va_runV (C := "ValueBench$Row") (As := [.int x1]) (rest := []) ⟨hx, hb, hml, hown, htx⟩ (gR_kind l hl9 D cT aK aV H.size n a0 a1 x1 f0 v1 v2 o7 hq8) ⟨callB_of 1 htx (xw_goodC kw_3_24) rfl rfl rfl (htx _ kw_1_4) (htx _ kw_3_166) ⟨by decide, by decide, by decide +kernel⟩ ⟨Nat.le_of_ble_eq_true rfl, Nat.le_of_ble_eq_true rfl⟩, (htx _ kw_3_22), (htx _ kw_3_23)⟩ ⟨xPre_blind, va_recv hK hP (ci := 2) rfl (q0 := 0) rfl, (fun U hU hW => ⟨rfl, xPre_of hZ hS hFc hPc hDc hK U hU hW⟩)⟩ rfl rfl hl.1 rfl (lv_room (Nat.le_of_ble_eq_true rfl)) dO_of_36 ⟨Nat.le_of_ble_eq_true rfl, Nat.le_of_ble_eq_true rfl⟩) hS (fun q _ h => hFc q h) hFc (fun r9 u9 t H1 locs ht hvm hr9 hB hz1 hk1 hS => ?_)
        obtain ⟨hP1, hK1, hD1⟩ := hB
        rw [ht] at hP1
        obtain ⟨hP, hD⟩ := xjoin (W := [(a0, .inr (2, [.ref a1, .int v1, .int v2])), (a1, .inl (cT 2, 4096, .inr (.inl f0)))]) hP hD [0, 1] [] 0 rfl rfl (by decide) (by decide) hk1 hFc hP1 hD1
        generalize H1 = H at hP hS ⊢
        rw [hr9]
        refine W.eq (g2 := F0 m 39 ls [.int o7]) rfl ?_
        by_cases hc10 : o7 = 3
        · rw [if_pos hc10] at hf
          refine lv_tableIn (off := 29) (tgt := 68) hx hb dO_of_39 (by rw [hc10]; decide) (by rw [hc10]; decide) (by rw [hc10]; decide) (by decide) ?_
          refine lv_aload_n hx hb dO_of_68 rfl (lv_at hl 0 rfl) ?_
          refine lv_iload_n hx hb dO_of_69 rfl (lv_at hl 1 rfl) ?_
          obtain ⟨o11, hq12, hf⟩ := xbind hf
          obtain ⟨hPc, hDc, hFc⟩ := xcut (wc := [(a0, .inr (2, [.ref a1, .int v1, .int v2])), (a1, .inl (cT 2, 4096, .inr (.inl f0)))]) hP hD hS hA [0, 1] rfl rfl (by decide)
          refine va_calll (va_runV (C := "ValueBench$Row") (As := [.int x1]) (rest := []) ⟨hx, hb, hml, hown, htx⟩ (gR_number l hl9 D cT aK aV H.size n a0 a1 x1 f0 v1 v2 o11 hq12) ⟨callB_of 1 htx (xw_goodC kw_3_37) rfl rfl rfl (htx _ kw_1_4) (htx _ kw_3_170) ⟨by decide, by decide, by decide +kernel⟩ ⟨Nat.le_of_ble_eq_true rfl, Nat.le_of_ble_eq_true rfl⟩, (htx _ kw_3_35), (htx _ kw_3_36)⟩ ⟨xPre_blind, va_recv hK hP (ci := 2) rfl (q0 := 0) rfl, (fun U hU hW => ⟨rfl, xPre_of hZ hS hFc hPc hDc hK U hU hW⟩)⟩ rfl rfl hl.1 rfl (lv_room (Nat.le_of_ble_eq_true rfl)) dO_of_70 ⟨Nat.le_of_ble_eq_true rfl, Nat.le_of_ble_eq_true rfl⟩) hS (fun q _ h => hFc q h) hFc (fun r13 u9 t H1 locs ht hvm hr9 hB hz1 hk1 hS => ?_)
          obtain ⟨hP1, hK1, hD1⟩ := hB
          rw [ht] at hP1
          obtain ⟨hP, hD⟩ := xjoin (W := [(a0, .inr (2, [.ref a1, .int v1, .int v2])), (a1, .inl (cT 2, 4096, .inr (.inl f0)))]) hP hD [0, 1] [] 0 rfl rfl (by decide) (by decide) hk1 hFc hP1 hD1
          generalize H1 = H at hP hS ⊢
          rw [hr9]
          refine W.eq (g2 := F0 m 73 ls [.long o11]) rfl ?_
          refine lv_aload_n hx hb dO_of_73 rfl (lv_at hl 2 rfl) ?_
          refine lv_iload_n hx hb dO_of_74 rfl (lv_at hl 3 rfl) ?_
          obtain ⟨o14, hq15, hf⟩ := xbind hf
          obtain ⟨hPc, hDc, hFc⟩ := xcut (wc := [(a0, .inr (2, [.ref a1, .int v1, .int v2])), (a1, .inl (cT 2, 4096, .inr (.inl f0)))]) hP hD hS hA [0, 1] rfl rfl (by decide)
          refine va_calll (va_runV (C := "ValueBench$Row") (As := [.int x3]) (rest := [.long o11]) ⟨hx, hb, hml, hown, htx⟩ (gR_number l hl9 D cT aK aV H.size n a0 a1 x3 f0 v1 v2 o14 hq15) ⟨callB_of 1 htx (xw_goodC kw_3_37) rfl rfl rfl (htx _ kw_1_4) (htx _ kw_3_170) ⟨by decide, by decide, by decide +kernel⟩ ⟨Nat.le_of_ble_eq_true rfl, Nat.le_of_ble_eq_true rfl⟩, (htx _ kw_3_35), (htx _ kw_3_36)⟩ ⟨xPre_blind, va_recv hK hP (ci := 2) rfl (q0 := 0) rfl, (fun U hU hW => ⟨rfl, xPre_of hZ hS hFc hPc hDc hK U hU hW⟩)⟩ rfl rfl hl.1 rfl (lv_room (Nat.le_of_ble_eq_true rfl)) dO_of_75 ⟨Nat.le_of_ble_eq_true rfl, Nat.le_of_ble_eq_true rfl⟩) hS (fun q _ h => hFc q h) hFc (fun r16 u9 t H1 locs ht hvm hr9 hB hz1 hk1 hS => ?_)
          obtain ⟨hP1, hK1, hD1⟩ := hB
          rw [ht] at hP1
          obtain ⟨hP, hD⟩ := xjoin (W := [(a0, .inr (2, [.ref a1, .int v1, .int v2])), (a1, .inl (cT 2, 4096, .inr (.inl f0)))]) hP hD [0, 1] [] 0 rfl rfl (by decide) (by decide) hk1 hFc hP1 hD1
          generalize H1 = H at hP hS ⊢
          rw [hr9]
          refine W.eq (g2 := F0 m 78 ls [.long o14, .long o11]) rfl ?_
          obtain ⟨o17, hq18, hf⟩ := xbind hf
          obtain ⟨hPc, hDc, hFc⟩ := xcut (wc := []) hP hD hS hA [] rfl rfl (by decide)
          refine va_calli (va_runS (As := [.long o11, .long o14]) (rest := []) ⟨hx, hb, hml, hown, htx⟩ (gJL_compare l hl9 D cT aK aV H.size n o11 o14 o17 hq18) ⟨callB_of 2 htx (xw_goodC kw_3_173) rfl rfl rfl (htx _ kw_1_25) (htx _ kw_3_171) ⟨by decide, by decide, by decide +kernel⟩ ⟨Nat.le_of_ble_eq_true rfl, Nat.le_of_ble_eq_true rfl⟩, htx _ kw_3_172⟩ ⟨xPre_blind, (fun U hU hW => ⟨rfl, xPre_of hZ hS hFc hPc hDc hK U hU hW⟩)⟩ rfl rfl hl.1 rfl (lv_room (Nat.le_of_ble_eq_true rfl)) dO_of_78 ⟨Nat.le_of_ble_eq_true rfl, Nat.le_of_ble_eq_true rfl⟩) hS (fun q _ h => hFc q h) hFc (fun r19 u9 t H1 locs ht hvm hr9 hB hz1 hk1 hS => ?_)
          obtain ⟨hP1, hK1, hD1⟩ := hB
          rw [ht] at hP1
          obtain ⟨hP, hD⟩ := xjoin (W := [(a0, .inr (2, [.ref a1, .int v1, .int v2])), (a1, .inl (cT 2, 4096, .inr (.inl f0)))]) hP hD [] [0, 1] 2 rfl rfl (by decide) (by decide) hk1 hFc hP1 hD1
          generalize H1 = H at hP hS ⊢
          rw [hr9]
          refine W.eq (g2 := F0 m 81 ls [.int o17]) rfl ?_
          obtain rfl := Option.some.inj hf
          obtain ⟨hP9, hD9⟩ := xsub (wc := [(a0, .inr (2, [.ref a1, .int v1, .int v2])), (a1, .inl (cT 2, 4096, .inr (.inl f0)))]) hP hD [0, 1] rfl rfl (by decide)
          exact W.iret (v := o17) hx hb hr (fun t ht hW => ⟨⟨o17, (), rfl, rfl, by rw [ht]; exact hP9, va_K.moved hW.alike hK, hD9⟩, hS.F ht⟩) hS.2.2 dO_of_81
        rw [if_neg hc10] at hf
        by_cases hc20 : o7 = 4
        · rw [if_pos hc20] at hf
          refine lv_tableIn (off := 43) (tgt := 82) hx hb dO_of_39 (by rw [hc20]; decide) (by rw [hc20]; decide) (by rw [hc20]; decide) (by decide) ?_
          refine lv_aload_n hx hb dO_of_82 rfl (lv_at hl 0 rfl) ?_
          refine lv_iload_n hx hb dO_of_83 rfl (lv_at hl 1 rfl) ?_
          refine lv_aload_n hx hb dO_of_84 rfl (lv_at hl 2 rfl) ?_
          refine lv_iload_n hx hb dO_of_85 rfl (lv_at hl 3 rfl) ?_
          obtain ⟨o21, hq22, hf⟩ := xbind hf
          obtain ⟨hPc, hDc, hFc⟩ := xcut (wc := [(a0, .inr (2, [.ref a1, .int v1, .int v2])), (a1, .inl (cT 2, 4096, .inr (.inl f0)))]) hP hD hS hA [0, 1] rfl rfl (by decide)
          refine va_calli (va_runV (C := "ValueBench$Row") (As := [.int x1, .ref a0, .int x3]) (rest := []) ⟨hx, hb, hml, hown, htx⟩ (gR_orderOfStrings l hl9 D cT aK aV H.size n a0 a1 x1 x3 f0 v1 v2 o21 hq22) ⟨callB_of 3 htx (xw_goodC kw_2_206) rfl rfl rfl (htx _ kw_1_4) (htx _ kw_3_174) ⟨by decide, by decide, by decide +kernel⟩ ⟨Nat.le_of_ble_eq_true rfl, Nat.le_of_ble_eq_true rfl⟩, (htx _ kw_2_204), (htx _ kw_2_205)⟩ ⟨xPre_blind, va_recv hK hP (ci := 2) rfl (q0 := 0) rfl, (fun U hU hW => ⟨rfl, xPre_of hZ hS hFc hPc hDc hK U hU hW⟩)⟩ rfl rfl hl.1 rfl (lv_room (Nat.le_of_ble_eq_true rfl)) dO_of_86 ⟨Nat.le_of_ble_eq_true rfl, Nat.le_of_ble_eq_true rfl⟩) hS (fun q _ h => hFc q h) hFc (fun r23 u9 t H1 locs ht hvm hr9 hB hz1 hk1 hS => ?_)
          obtain ⟨hP1, hK1, hD1⟩ := hB
          rw [ht] at hP1
          obtain ⟨hP, hD⟩ := xjoin (W := [(a0, .inr (2, [.ref a1, .int v1, .int v2])), (a1, .inl (cT 2, 4096, .inr (.inl f0)))]) hP hD [0, 1] [] 0 rfl rfl (by decide) (by decide) hk1 hFc hP1 hD1
          generalize H1 = H at hP hS ⊢
          rw [hr9]
          refine W.eq (g2 := F0 m 89 ls [.int o21]) rfl ?_
          obtain rfl := Option.some.inj hf
          obtain ⟨hP9, hD9⟩ := xsub (wc := [(a0, .inr (2, [.ref a1, .int v1, .int v2])), (a1, .inl (cT 2, 4096, .inr (.inl f0)))]) hP hD [0, 1] rfl rfl (by decide)
          exact W.iret (v := o21) hx hb hr (fun t ht hW => ⟨⟨o21, (), rfl, rfl, by rw [ht]; exact hP9, va_K.moved hW.alike hK, hD9⟩, hS.F ht⟩) hS.2.2 dO_of_89
        rw [if_neg hc20] at hf
        by_cases hc24 : o7 = 5
        · rw [if_pos hc24] at hf
          refine lv_tableIn (off := 51) (tgt := 90) hx hb dO_of_39 (by rw [hc24]; decide) (by rw [hc24]; decide) (by rw [hc24]; decide) (by decide) ?_
          refine lv_aload_n hx hb dO_of_90 rfl (lv_at hl 0 rfl) ?_
          refine lv_iload_n hx hb dO_of_91 rfl (lv_at hl 1 rfl) ?_
          refine lv_aload_n hx hb dO_of_92 rfl (lv_at hl 2 rfl) ?_
          refine lv_iload_n hx hb dO_of_93 rfl (lv_at hl 3 rfl) ?_
          refine lv_iload hx hb dO_of_94 (lv_at hl 4 rfl) ?_
          obtain ⟨o25, hq26, hf⟩ := xbind hf
          obtain ⟨hPc, hDc, hFc⟩ := xcut (wc := [(a0, .inr (2, [.ref a1, .int v1, .int v2])), (a1, .inl (cT 2, 4096, .inr (.inl f0)))]) hP hD hS hA [0, 1] rfl rfl (by decide)
          refine va_calli (va_runS (As := [.ref a0, .int x1, .ref a0, .int x3, .int x4]) (rest := []) ⟨hx, hb, hml, hown, htx⟩ (gO_ofArraysa l hl9 D cT aK aV (16 * d) (400 * d) (fO_ofa d n) (fun sz => ih sz n) H.size n a0 a1 x1 x3 x4 f0 v1 v2 o25 hq26) ⟨callB_of 5 htx (xw_goodC kw_3_177) rfl rfl rfl (htx _ kw_1_23) (htx _ kw_3_175) ⟨by decide, by decide, by decide +kernel⟩ ⟨(by show (16 * d + 1) + 1 ≤ 16 * (d + 1); omega), (by show 8 + (10 + 11) + (400 * d + 40) ≤ 400 * (d + 1); omega)⟩, htx _ kw_3_176⟩ ⟨xPre_blind, (fun U hU hW => ⟨rfl, xPre_of hZ hS hFc hPc hDc hK U hU hW⟩)⟩ rfl rfl hl.1 rfl (lv_room (Nat.le_of_ble_eq_true rfl)) dO_of_96 ⟨Nat.le_of_ble_eq_true rfl, Nat.le_of_ble_eq_true rfl⟩) hS (fun q _ h => hFc q h) hFc (fun r27 u9 t H1 locs ht hvm hr9 hB hz1 hk1 hS => ?_)
          obtain ⟨hP1, hK1, hD1⟩ := hB
          rw [ht] at hP1
          obtain ⟨hP, hD⟩ := xjoin (W := [(a0, .inr (2, [.ref a1, .int v1, .int v2])), (a1, .inl (cT 2, 4096, .inr (.inl f0)))]) hP hD [0, 1] [] 0 rfl rfl (by decide) (by decide) hk1 hFc hP1 hD1
          generalize H1 = H at hP hS ⊢
          rw [hr9]
          refine W.eq (g2 := F0 m 99 ls [.int o25]) rfl ?_
          obtain rfl := Option.some.inj hf
          obtain ⟨hP9, hD9⟩ := xsub (wc := [(a0, .inr (2, [.ref a1, .int v1, .int v2])), (a1, .inl (cT 2, 4096, .inr (.inl f0)))]) hP hD [0, 1] rfl rfl (by decide)
          exact W.iret (v := o25) hx hb hr (fun t ht hW => ⟨⟨o25, (), rfl, rfl, by rw [ht]; exact hP9, va_K.moved hW.alike hK, hD9⟩, hS.F ht⟩) hS.2.2 dO_of_99
        rw [if_neg hc24] at hf
        by_cases hc28 : o7 = 6
        · rw [if_pos hc28] at hf
          refine lv_tableIn (off := 61) (tgt := 100) hx hb dO_of_39 (by rw [hc28]; decide) (by rw [hc28]; decide) (by rw [hc28]; decide) (by decide) ?_
          refine lv_aload_n hx hb dO_of_100 rfl (lv_at hl 0 rfl) ?_
          refine lv_iload_n hx hb dO_of_101 rfl (lv_at hl 1 rfl) ?_
          refine lv_aload_n hx hb dO_of_102 rfl (lv_at hl 2 rfl) ?_
          refine lv_iload_n hx hb dO_of_103 rfl (lv_at hl 3 rfl) ?_
          refine lv_iload hx hb dO_of_104 (lv_at hl 4 rfl) ?_
          obtain ⟨o29, hq30, hf⟩ := xbind hf
          obtain ⟨hPc, hDc, hFc⟩ := xcut (wc := [(a0, .inr (2, [.ref a1, .int v1, .int v2])), (a1, .inl (cT 2, 4096, .inr (.inl f0)))]) hP hD hS hA [0, 1] rfl rfl (by decide)
          refine va_calli (va_runS (As := [.ref a0, .int x1, .ref a0, .int x3, .int x4]) (rest := []) ⟨hx, hb, hml, hown, htx⟩ (gO_ofObjectsa l hl9 D cT aK aV (16 * d) (400 * d) (fO_ofa d n) (fun sz => ih sz n) H.size n a0 a1 x1 x3 x4 f0 v1 v2 o29 hq30) ⟨callB_of 5 htx (xw_goodC kw_3_183) rfl rfl rfl (htx _ kw_1_23) (htx _ kw_3_181) ⟨by decide, by decide, by decide +kernel⟩ ⟨(by show (16 * d + 2) + 1 ≤ 16 * (d + 1); omega), (by show 8 + (11 + 11) + (400 * d + 55) ≤ 400 * (d + 1); omega)⟩, htx _ kw_3_182⟩ ⟨xPre_blind, (fun U hU hW => ⟨rfl, xPre_of hZ hS hFc hPc hDc hK U hU hW⟩)⟩ rfl rfl hl.1 rfl (lv_room (Nat.le_of_ble_eq_true rfl)) dO_of_106 ⟨Nat.le_of_ble_eq_true rfl, Nat.le_of_ble_eq_true rfl⟩) hS (fun q _ h => hFc q h) hFc (fun r31 u9 t H1 locs ht hvm hr9 hB hz1 hk1 hS => ?_)
          obtain ⟨hP1, hK1, hD1⟩ := hB
          rw [ht] at hP1
          obtain ⟨hP, hD⟩ := xjoin (W := [(a0, .inr (2, [.ref a1, .int v1, .int v2])), (a1, .inl (cT 2, 4096, .inr (.inl f0)))]) hP hD [0, 1] [] 0 rfl rfl (by decide) (by decide) hk1 hFc hP1 hD1
          generalize H1 = H at hP hS ⊢
          rw [hr9]
          refine W.eq (g2 := F0 m 109 ls [.int o29]) rfl ?_
          obtain rfl := Option.some.inj hf
          obtain ⟨hP9, hD9⟩ := xsub (wc := [(a0, .inr (2, [.ref a1, .int v1, .int v2])), (a1, .inl (cT 2, 4096, .inr (.inl f0)))]) hP hD [0, 1] rfl rfl (by decide)
          exact W.iret (v := o29) hx hb hr (fun t ht hW => ⟨⟨o29, (), rfl, rfl, by rw [ht]; exact hP9, va_K.moved hW.alike hK, hD9⟩, hS.F ht⟩) hS.2.2 dO_of_109
        rw [if_neg hc28] at hf
        refine lv_tableOut (tgt := 110) hx hb dO_of_39 (by have e0 : o7.toInt ≠ 3 := xsw hc10 (by decide); have e1 : o7.toInt ≠ 4 := xsw hc20 (by decide); have e2 : o7.toInt ≠ 5 := xsw hc24 (by decide); have e3 : o7.toInt ≠ 6 := xsw hc28 (by decide); omega) (by decide) ?_
        refine lv_iconst (v := 0) hx hb dO_of_110 (by decide) ?_
        obtain rfl := Option.some.inj hf
        obtain ⟨hP9, hD9⟩ := xsub (wc := [(a0, .inr (2, [.ref a1, .int v1, .int v2])), (a1, .inl (cT 2, 4096, .inr (.inl f0)))]) hP hD [0, 1] rfl rfl (by decide)
        exact W.iret (v := (0 : Int32)) hx hb hr (fun t ht hW => ⟨⟨(0 : Int32), (), rfl, rfl, by rw [ht]; exact hP9, va_K.moved hW.alike hK, hD9⟩, hS.F ht⟩) hS.2.2 dO_of_111
      · rw [if_neg hc] at hf
        refine lv_aload_n hx hb dO_of_20 rfl (lv_at hl 0 rfl) ?_
        refine lv_iload_n hx hb dO_of_21 rfl (lv_at hl 1 rfl) ?_
        obtain ⟨o7, hq8, hf⟩ := xbind hf
        obtain ⟨hPc, hDc, hFc⟩ := xcut (wc := [(a0, .inr (2, [.ref a1, .int v1, .int v2])), (a1, .inl (cT 2, 4096, .inr (.inl f0)))]) hP hD hS hA [0, 1] rfl rfl (by decide)
        refine va_calli (va_runV (C := "ValueBench$Row") (As := [.int x1]) (rest := []) ⟨hx, hb, hml, hown, htx⟩ (gR_kind l hl9 D cT aK aV H.size n a0 a1 x1 f0 v1 v2 o7 hq8) ⟨callB_of 1 htx (xw_goodC kw_3_24) rfl rfl rfl (htx _ kw_1_4) (htx _ kw_3_166) ⟨by decide, by decide, by decide +kernel⟩ ⟨Nat.le_of_ble_eq_true rfl, Nat.le_of_ble_eq_true rfl⟩, (htx _ kw_3_22), (htx _ kw_3_23)⟩ ⟨xPre_blind, va_recv hK hP (ci := 2) rfl (q0 := 0) rfl, (fun U hU hW => ⟨rfl, xPre_of hZ hS hFc hPc hDc hK U hU hW⟩)⟩ rfl rfl hl.1 rfl (lv_room (Nat.le_of_ble_eq_true rfl)) dO_of_22 ⟨Nat.le_of_ble_eq_true rfl, Nat.le_of_ble_eq_true rfl⟩) hS (fun q _ h => hFc q h) hFc (fun r9 u9 t H1 locs ht hvm hr9 hB hz1 hk1 hS => ?_)
        obtain ⟨hP1, hK1, hD1⟩ := hB
        rw [ht] at hP1
        obtain ⟨hP, hD⟩ := xjoin (W := [(a0, .inr (2, [.ref a1, .int v1, .int v2])), (a1, .inl (cT 2, 4096, .inr (.inl f0)))]) hP hD [0, 1] [] 0 rfl rfl (by decide) (by decide) hk1 hFc hP1 hD1
        generalize H1 = H at hP hS ⊢
        rw [hr9]
        refine W.eq (g2 := F0 m 25 ls [.int o7]) rfl ?_
        refine lv_aload_n hx hb dO_of_25 rfl (lv_at hl 2 rfl) ?_
        refine lv_iload_n hx hb dO_of_26 rfl (lv_at hl 3 rfl) ?_
        obtain ⟨o10, hq11, hf⟩ := xbind hf
        obtain ⟨hPc, hDc, hFc⟩ := xcut (wc := [(a0, .inr (2, [.ref a1, .int v1, .int v2])), (a1, .inl (cT 2, 4096, .inr (.inl f0)))]) hP hD hS hA [0, 1] rfl rfl (by decide)
        refine va_calli (va_runV (C := "ValueBench$Row") (As := [.int x3]) (rest := [.int o7]) ⟨hx, hb, hml, hown, htx⟩ (gR_kind l hl9 D cT aK aV H.size n a0 a1 x3 f0 v1 v2 o10 hq11) ⟨callB_of 1 htx (xw_goodC kw_3_24) rfl rfl rfl (htx _ kw_1_4) (htx _ kw_3_166) ⟨by decide, by decide, by decide +kernel⟩ ⟨Nat.le_of_ble_eq_true rfl, Nat.le_of_ble_eq_true rfl⟩, (htx _ kw_3_22), (htx _ kw_3_23)⟩ ⟨xPre_blind, va_recv hK hP (ci := 2) rfl (q0 := 0) rfl, (fun U hU hW => ⟨rfl, xPre_of hZ hS hFc hPc hDc hK U hU hW⟩)⟩ rfl rfl hl.1 rfl (lv_room (Nat.le_of_ble_eq_true rfl)) dO_of_27 ⟨Nat.le_of_ble_eq_true rfl, Nat.le_of_ble_eq_true rfl⟩) hS (fun q _ h => hFc q h) hFc (fun r12 u9 t H1 locs ht hvm hr9 hB hz1 hk1 hS => ?_)
        obtain ⟨hP1, hK1, hD1⟩ := hB
        rw [ht] at hP1
        obtain ⟨hP, hD⟩ := xjoin (W := [(a0, .inr (2, [.ref a1, .int v1, .int v2])), (a1, .inl (cT 2, 4096, .inr (.inl f0)))]) hP hD [0, 1] [] 0 rfl rfl (by decide) (by decide) hk1 hFc hP1 hD1
        generalize H1 = H at hP hS ⊢
        rw [hr9]
        refine W.eq (g2 := F0 m 30 ls [.int o10, .int o7]) rfl ?_
        obtain ⟨o13, hq14, hf⟩ := xbind hf
        obtain ⟨hPc, hDc, hFc⟩ := xcut (wc := []) hP hD hS hA [] rfl rfl (by decide)
        refine va_calli (va_runS (As := [.int o7, .int o10]) (rest := []) ⟨hx, hb, hml, hown, htx⟩ (gJI_compare l hl9 D cT aK aV H.size n o7 o10 o13 hq14) ⟨callB_of 2 htx (xw_goodC kw_3_169) rfl rfl rfl (htx _ kw_1_24) (htx _ kw_3_167) ⟨by decide, by decide, by decide +kernel⟩ ⟨Nat.le_of_ble_eq_true rfl, Nat.le_of_ble_eq_true rfl⟩, htx _ kw_3_168⟩ ⟨xPre_blind, (fun U hU hW => ⟨rfl, xPre_of hZ hS hFc hPc hDc hK U hU hW⟩)⟩ rfl rfl hl.1 rfl (lv_room (Nat.le_of_ble_eq_true rfl)) dO_of_30 ⟨Nat.le_of_ble_eq_true rfl, Nat.le_of_ble_eq_true rfl⟩) hS (fun q _ h => hFc q h) hFc (fun r15 u9 t H1 locs ht hvm hr9 hB hz1 hk1 hS => ?_)
        obtain ⟨hP1, hK1, hD1⟩ := hB
        rw [ht] at hP1
        obtain ⟨hP, hD⟩ := xjoin (W := [(a0, .inr (2, [.ref a1, .int v1, .int v2])), (a1, .inl (cT 2, 4096, .inr (.inl f0)))]) hP hD [] [0, 1] 2 rfl rfl (by decide) (by decide) hk1 hFc hP1 hD1
        generalize H1 = H at hP hS ⊢
        rw [hr9]
        refine W.eq (g2 := F0 m 33 ls [.int o13]) rfl ?_
        obtain rfl := Option.some.inj hf
        obtain ⟨hP9, hD9⟩ := xsub (wc := [(a0, .inr (2, [.ref a1, .int v1, .int v2])), (a1, .inl (cT 2, 4096, .inr (.inl f0)))]) hP hD [0, 1] rfl rfl (by decide)
        exact W.iret (v := o13) hx hb hr (fun t ht hW => ⟨⟨o13, (), rfl, rfl, by rw [ht]; exact hP9, va_K.moved hW.alike hK, hD9⟩, hS.F ht⟩) hS.2.2 dO_of_33
set_option maxHeartbeats 400000000 in
set_option maxRecDepth 100000 in
theorem gO_isSame (l : Launch) (hl9 : l.stackTraces = false) (D : va_G) (cT : Nat → ClassId) (aK aV : Nat → Nat) (sz d n : Nat) (a0 : Nat) (a1 : Nat) (a2 : Nat) (a3 : Nat) (x1 : Int32) (x3 : Int32) (f0 : Nat → Int64) (v1 : Int32) (v2 : Int32) (f3 : Nat → Int64) (v4 : Int32) (v5 : Int32) (out : Int32) (hf : fO_isSame d n x1 x3 f0 v1 v2 f3 v4 v5 = some out) : xMet l yO_isSame wyO_isSame (16 * d + 1) 0 0 (400 * d + 24) D cT aK aV sz [.ref a0, .int x1, .ref a2, .int x3] [(a0, .inr (2, [.ref a1, .int v1, .int v2])), (a1, .inl (cT 2, 4096, .inr (.inl f0))), (a2, .inr (2, [.ref a3, .int v4, .int v5])), (a3, .inl (cT 2, 4096, .inr (.inl f3)))] (fun A => va_Qi (fun (r : Int32) (_ : Unit) => r = out) (fun _ t => xB D xcl cT A [(a0, .inr (2, [.ref a1, .int v1, .int v2])), (a1, .inl (cT 2, 4096, .inr (.inl f0))), (a2, .inr (2, [.ref a3, .int v4, .int v5])), (a3, .inl (cT 2, 4096, .inr (.inl f3)))] t) A) := by
  refine Met.ofW (cc := prog_4_method_3_code) (maxL := 4) (ret := (some .boolean)) (by decide) rfl ?_
  intro p e s m args below meth c s₁ B hml hv
  obtain ⟨rfl, hsz, hZ, hP, hK, hD0⟩ := hv
  have hx := B.exec
  have hb := B.bytes
  have hr := B.returns
  have hts := atoms_spec (ws := wyO_isSame) B.pre
  have htx := fun w h => hts w (List.mem_cons_of_mem _ h)
  have hown : s.vm.findClass "ValueBench$Order" = some m.cls := findClass_of_methodNamed B.named
  have hlocks := B.notSynchronized
  subst hsz
  have hD := hD0.self (sz := s.heap.size)
  generalize hAe : va_A [(a0, .inr (2, [.ref a1, .int v1, .int v2])), (a1, .inl (cT 2, 4096, .inr (.inl f0))), (a2, .inr (2, [.ref a3, .int v4, .int v5])), (a3, .inl (cT 2, 4096, .inr (.inl f3)))] s.heap.size = A at hD hZ ⊢
  have hA : ∀ q : Nat, s.heap.size ≤ q → A q := fun q h => by rw [← hAe]; exact Or.inr h
  have hS : va_S A s.heap s.heap [] := va_S.rf
  have hP : va_P D xcl [(a0, .inr (2, [.ref a1, .int v1, .int v2])), (a1, .inl (cT 2, 4096, .inr (.inl f0))), (a2, .inr (2, [.ref a3, .int v4, .int v5])), (a3, .inl (cT 2, 4096, .inr (.inl f3)))] s.heap := hP
  have hl := lv_entry ([.ref a0, .int x1, .ref a2, .int x3]) (n := 4) (Nat.le_of_ble_eq_true rfl)
  rw [lg_entry_eq]
  generalize (lg_sl ([.ref a0, .int x1, .ref a2, .int x3]) ++ List.replicate (4 - (lg_sl ([.ref a0, .int x1, .ref a2, .int x3])).length) Slot.unset).toArray = ls at hl ⊢
  have hl : lv_has ls 4 [(0, .ref a0), (1, .int x1), (2, .ref a2), (3, .int x3)] := hl
  unfold fO_isSame at hf
  refine lv_aload_n hx hb dO_isSame_0 rfl (lv_at hl 0 rfl) ?_
  refine lv_iload_n hx hb dO_isSame_1 rfl (lv_at hl 1 rfl) ?_
  obtain ⟨o1, hq2, hf⟩ := xbind hf
  obtain ⟨hPc, hDc, hFc⟩ := xcut (wc := [(a0, .inr (2, [.ref a1, .int v1, .int v2])), (a1, .inl (cT 2, 4096, .inr (.inl f0)))]) hP hD hS hA [0, 1] rfl rfl (by decide)
  refine va_calll (va_runV (C := "ValueBench$Row") (As := [.int x1]) (rest := []) ⟨hx, hb, hml, hown, htx⟩ (gR_cell l hl9 D cT aK aV s.heap.size n a0 a1 x1 f0 v1 v2 o1 hq2) ⟨callB_of 1 htx (xw_goodC kw_2_202) rfl rfl rfl (htx _ kw_1_4) (htx _ kw_3_162) ⟨by decide, by decide, by decide +kernel⟩ ⟨Nat.le_of_ble_eq_true rfl, Nat.le_of_ble_eq_true rfl⟩, (htx _ kw_2_200), (htx _ kw_2_201)⟩ ⟨xPre_blind, va_recv hK hP (ci := 2) rfl (q0 := 0) rfl, (fun U hU hW => ⟨rfl, xPre_of hZ hS hFc hPc hDc hK U hU hW⟩)⟩ rfl rfl hl.1 rfl (lv_room (Nat.le_of_ble_eq_true rfl)) dO_isSame_2 ⟨Nat.le_of_ble_eq_true rfl, Nat.le_of_ble_eq_true rfl⟩) hS (fun q _ h => hFc q h) hFc (fun r3 u9 t H1 locs ht hvm hr9 hB hz1 hk1 hS => ?_)
  obtain ⟨hP1, hK1, hD1⟩ := hB
  rw [ht] at hP1
  obtain ⟨hP, hD⟩ := xjoin (W := [(a2, .inr (2, [.ref a3, .int v4, .int v5])), (a3, .inl (cT 2, 4096, .inr (.inl f3))), (a0, .inr (2, [.ref a1, .int v1, .int v2])), (a1, .inl (cT 2, 4096, .inr (.inl f0)))]) hP hD [0, 1] [2, 3] 2 rfl rfl (by decide) (by decide) hk1 hFc hP1 hD1
  generalize H1 = H at hP hS ⊢
  rw [hr9]
  refine W.eq (g2 := F0 m 5 ls [.long o1]) rfl ?_
  refine lv_aload_n hx hb dO_isSame_5 rfl (lv_at hl 2 rfl) ?_
  refine lv_iload_n hx hb dO_isSame_6 rfl (lv_at hl 3 rfl) ?_
  obtain ⟨o4, hq5, hf⟩ := xbind hf
  obtain ⟨hPc, hDc, hFc⟩ := xcut (wc := [(a2, .inr (2, [.ref a3, .int v4, .int v5])), (a3, .inl (cT 2, 4096, .inr (.inl f3)))]) hP hD hS hA [0, 1] rfl rfl (by decide)
  refine va_calll (va_runV (C := "ValueBench$Row") (As := [.int x3]) (rest := [.long o1]) ⟨hx, hb, hml, hown, htx⟩ (gR_cell l hl9 D cT aK aV H.size n a2 a3 x3 f3 v4 v5 o4 hq5) ⟨callB_of 1 htx (xw_goodC kw_2_202) rfl rfl rfl (htx _ kw_1_4) (htx _ kw_3_162) ⟨by decide, by decide, by decide +kernel⟩ ⟨Nat.le_of_ble_eq_true rfl, Nat.le_of_ble_eq_true rfl⟩, (htx _ kw_2_200), (htx _ kw_2_201)⟩ ⟨xPre_blind, va_recv hK hP (ci := 2) rfl (q0 := 0) rfl, (fun U hU hW => ⟨rfl, xPre_of hZ hS hFc hPc hDc hK U hU hW⟩)⟩ rfl rfl hl.1 rfl (lv_room (Nat.le_of_ble_eq_true rfl)) dO_isSame_7 ⟨Nat.le_of_ble_eq_true rfl, Nat.le_of_ble_eq_true rfl⟩) hS (fun q _ h => hFc q h) hFc (fun r6 u9 t H1 locs ht hvm hr9 hB hz1 hk1 hS => ?_)
  obtain ⟨hP1, hK1, hD1⟩ := hB
  rw [ht] at hP1
  obtain ⟨hP, hD⟩ := xjoin (W := [(a0, .inr (2, [.ref a1, .int v1, .int v2])), (a1, .inl (cT 2, 4096, .inr (.inl f0))), (a2, .inr (2, [.ref a3, .int v4, .int v5])), (a3, .inl (cT 2, 4096, .inr (.inl f3)))]) hP hD [0, 1] [2, 3] 2 rfl rfl (by decide) (by decide) hk1 hFc hP1 hD1
  generalize H1 = H at hP hS ⊢
  rw [hr9]
  refine W.eq (g2 := F0 m 10 ls [.long o4, .long o1]) rfl ?_
  refine W.lcmp hx hb dO_isSame_10 ?_
  refine lv_if_ne (tgt := 29) hx hb dO_isSame_11 (by decide) (fun hc => ?_) (fun hc => ?_)
  · rw [if_neg hc] at hf
    refine lv_iconst (v := 0) hx hb dO_isSame_29 (by decide) ?_
    obtain rfl := Option.some.inj hf
    obtain ⟨hP9, hD9⟩ := xsub (wc := [(a0, .inr (2, [.ref a1, .int v1, .int v2])), (a1, .inl (cT 2, 4096, .inr (.inl f0))), (a2, .inr (2, [.ref a3, .int v4, .int v5])), (a3, .inl (cT 2, 4096, .inr (.inl f3)))]) hP hD [0, 1, 2, 3] rfl rfl (by decide)
    exact W.zret (v := (0 : Int32)) hx hb hr rfl (fun t ht hW => ⟨⟨(0 : Int32), (), rfl, rfl, by rw [ht]; exact hP9, va_K.moved hW.alike hK, hD9⟩, hS.F ht⟩) hS.2.2 dO_isSame_30
  · rw [if_pos hc] at hf
    refine lv_aload_n hx hb dO_isSame_14 rfl (lv_at hl 0 rfl) ?_
    refine lv_iload_n hx hb dO_isSame_15 rfl (lv_at hl 1 rfl) ?_
    refine lv_aload_n hx hb dO_isSame_16 rfl (lv_at hl 2 rfl) ?_
    refine lv_iload_n hx hb dO_isSame_17 rfl (lv_at hl 3 rfl) ?_
    refine lv_iconst (v := 0) hx hb dO_isSame_18 (by decide) ?_
    obtain ⟨o7, hq8, hf⟩ := xbind hf
    obtain ⟨hPc, hDc, hFc⟩ := xcut (wc := [(a0, .inr (2, [.ref a1, .int v1, .int v2])), (a1, .inl (cT 2, 4096, .inr (.inl f0))), (a2, .inr (2, [.ref a3, .int v4, .int v5])), (a3, .inl (cT 2, 4096, .inr (.inl f3)))]) hP hD hS hA [0, 1, 2, 3] rfl rfl (by decide)
    refine va_calli (va_runS (As := [.ref a0, .int x1, .ref a2, .int x3, .int 0]) (rest := []) ⟨hx, hb, hml, hown, htx⟩ (gO_of l hl9 D cT aK aV d H.size n a0 a1 a2 a3 x1 x3 (0 : Int32) f0 v1 v2 f3 v4 v5 o7 hq8) ⟨callB_of 5 htx (xw_goodC kw_3_165) rfl rfl rfl (htx _ kw_1_23) (htx _ kw_3_163) ⟨by decide, by decide, by decide +kernel⟩ ⟨(by show (16 * d) + 1 ≤ 16 * d + 1; omega), (by show 8 + (5 + 11) + (400 * d) ≤ 400 * d + 24; omega)⟩, htx _ kw_3_164⟩ ⟨xPre_blind, (fun U hU hW => ⟨rfl, xPre_of hZ hS hFc hPc hDc hK U hU hW⟩)⟩ rfl rfl hl.1 rfl (lv_room (Nat.le_of_ble_eq_true rfl)) dO_isSame_19 ⟨Nat.le_of_ble_eq_true rfl, Nat.le_of_ble_eq_true rfl⟩) hS (fun q _ h => hFc q h) hFc (fun r9 u9 t H1 locs ht hvm hr9 hB hz1 hk1 hS => ?_)
    obtain ⟨hP1, hK1, hD1⟩ := hB
    rw [ht] at hP1
    obtain ⟨hP, hD⟩ := xjoin (W := [(a0, .inr (2, [.ref a1, .int v1, .int v2])), (a1, .inl (cT 2, 4096, .inr (.inl f0))), (a2, .inr (2, [.ref a3, .int v4, .int v5])), (a3, .inl (cT 2, 4096, .inr (.inl f3)))]) hP hD [0, 1, 2, 3] [] 0 rfl rfl (by decide) (by decide) hk1 hFc hP1 hD1
    generalize H1 = H at hP hS ⊢
    rw [hr9]
    refine W.eq (g2 := F0 m 22 ls [.int o7]) rfl ?_
    refine lv_if_ne (tgt := 29) hx hb dO_isSame_22 (by decide) (fun hc => ?_) (fun hc => ?_)
    · rw [if_neg hc] at hf
      refine lv_iconst (v := 0) hx hb dO_isSame_29 (by decide) ?_
      obtain rfl := Option.some.inj hf
      obtain ⟨hP9, hD9⟩ := xsub (wc := [(a0, .inr (2, [.ref a1, .int v1, .int v2])), (a1, .inl (cT 2, 4096, .inr (.inl f0))), (a2, .inr (2, [.ref a3, .int v4, .int v5])), (a3, .inl (cT 2, 4096, .inr (.inl f3)))]) hP hD [0, 1, 2, 3] rfl rfl (by decide)
      exact W.zret (v := (0 : Int32)) hx hb hr rfl (fun t ht hW => ⟨⟨(0 : Int32), (), rfl, rfl, by rw [ht]; exact hP9, va_K.moved hW.alike hK, hD9⟩, hS.F ht⟩) hS.2.2 dO_isSame_30
    · rw [if_pos hc] at hf
      refine lv_iconst (v := 1) hx hb dO_isSame_25 (by decide) ?_
      refine lv_goto (tgt := 30) hx hb dO_isSame_26 (by decide) ?_
      obtain rfl := Option.some.inj hf
      obtain ⟨hP9, hD9⟩ := xsub (wc := [(a0, .inr (2, [.ref a1, .int v1, .int v2])), (a1, .inl (cT 2, 4096, .inr (.inl f0))), (a2, .inr (2, [.ref a3, .int v4, .int v5])), (a3, .inl (cT 2, 4096, .inr (.inl f3)))]) hP hD [0, 1, 2, 3] rfl rfl (by decide)
      exact W.zret (v := (1 : Int32)) hx hb hr rfl (fun t ht hW => ⟨⟨(1 : Int32), (), rfl, rfl, by rw [ht]; exact hP9, va_K.moved hW.alike hK, hD9⟩, hS.F ht⟩) hS.2.2 dO_isSame_30
set_option maxHeartbeats 400000000 in
set_option maxRecDepth 100000 in
theorem gO_isSamea (l : Launch) (hl9 : l.stackTraces = false) (D : va_G) (cT : Nat → ClassId) (aK aV : Nat → Nat) (sz d n : Nat) (a0 : Nat) (a1 : Nat) (x1 : Int32) (x3 : Int32) (f0 : Nat → Int64) (v1 : Int32) (v2 : Int32) (out : Int32) (hf : fO_isSamea d n x1 x3 f0 v1 v2 = some out) : xMet l yO_isSame wyO_isSame (16 * d + 1) 0 0 (400 * d + 24) D cT aK aV sz [.ref a0, .int x1, .ref a0, .int x3] [(a0, .inr (2, [.ref a1, .int v1, .int v2])), (a1, .inl (cT 2, 4096, .inr (.inl f0)))] (fun A => va_Qi (fun (r : Int32) (_ : Unit) => r = out) (fun _ t => xB D xcl cT A [(a0, .inr (2, [.ref a1, .int v1, .int v2])), (a1, .inl (cT 2, 4096, .inr (.inl f0)))] t) A) := by
  refine Met.ofW (cc := prog_4_method_3_code) (maxL := 4) (ret := (some .boolean)) (by decide) rfl ?_
  intro p e s m args below meth c s₁ B hml hv
  obtain ⟨rfl, hsz, hZ, hP, hK, hD0⟩ := hv
  have hx := B.exec
  have hb := B.bytes
  have hr := B.returns
  have hts := atoms_spec (ws := wyO_isSame) B.pre
  have htx := fun w h => hts w (List.mem_cons_of_mem _ h)
  have hown : s.vm.findClass "ValueBench$Order" = some m.cls := findClass_of_methodNamed B.named
  have hlocks := B.notSynchronized
  subst hsz
  have hD := hD0.self (sz := s.heap.size)
  generalize hAe : va_A [(a0, .inr (2, [.ref a1, .int v1, .int v2])), (a1, .inl (cT 2, 4096, .inr (.inl f0)))] s.heap.size = A at hD hZ ⊢
  have hA : ∀ q : Nat, s.heap.size ≤ q → A q := fun q h => by rw [← hAe]; exact Or.inr h
  have hS : va_S A s.heap s.heap [] := va_S.rf
  have hP : va_P D xcl [(a0, .inr (2, [.ref a1, .int v1, .int v2])), (a1, .inl (cT 2, 4096, .inr (.inl f0)))] s.heap := hP
  have hl := lv_entry ([.ref a0, .int x1, .ref a0, .int x3]) (n := 4) (Nat.le_of_ble_eq_true rfl)
  rw [lg_entry_eq]
  generalize (lg_sl ([.ref a0, .int x1, .ref a0, .int x3]) ++ List.replicate (4 - (lg_sl ([.ref a0, .int x1, .ref a0, .int x3])).length) Slot.unset).toArray = ls at hl ⊢
  have hl : lv_has ls 4 [(0, .ref a0), (1, .int x1), (2, .ref a0), (3, .int x3)] := hl
  unfold fO_isSamea at hf
  refine lv_aload_n hx hb dO_isSame_0 rfl (lv_at hl 0 rfl) ?_
  refine lv_iload_n hx hb dO_isSame_1 rfl (lv_at hl 1 rfl) ?_
  obtain ⟨o1, hq2, hf⟩ := xbind hf
  obtain ⟨hPc, hDc, hFc⟩ := xcut (wc := [(a0, .inr (2, [.ref a1, .int v1, .int v2])), (a1, .inl (cT 2, 4096, .inr (.inl f0)))]) hP hD hS hA [0, 1] rfl rfl (by decide)
  refine va_calll (va_runV (C := "ValueBench$Row") (As := [.int x1]) (rest := []) ⟨hx, hb, hml, hown, htx⟩ (gR_cell l hl9 D cT aK aV s.heap.size n a0 a1 x1 f0 v1 v2 o1 hq2) ⟨callB_of 1 htx (xw_goodC kw_2_202) rfl rfl rfl (htx _ kw_1_4) (htx _ kw_3_162) ⟨by decide, by decide, by decide +kernel⟩ ⟨Nat.le_of_ble_eq_true rfl, Nat.le_of_ble_eq_true rfl⟩, (htx _ kw_2_200), (htx _ kw_2_201)⟩ ⟨xPre_blind, va_recv hK hP (ci := 2) rfl (q0 := 0) rfl, (fun U hU hW => ⟨rfl, xPre_of hZ hS hFc hPc hDc hK U hU hW⟩)⟩ rfl rfl hl.1 rfl (lv_room (Nat.le_of_ble_eq_true rfl)) dO_isSame_2 ⟨Nat.le_of_ble_eq_true rfl, Nat.le_of_ble_eq_true rfl⟩) hS (fun q _ h => hFc q h) hFc (fun r3 u9 t H1 locs ht hvm hr9 hB hz1 hk1 hS => ?_)
  obtain ⟨hP1, hK1, hD1⟩ := hB
  rw [ht] at hP1
  obtain ⟨hP, hD⟩ := xjoin (W := [(a0, .inr (2, [.ref a1, .int v1, .int v2])), (a1, .inl (cT 2, 4096, .inr (.inl f0)))]) hP hD [0, 1] [] 0 rfl rfl (by decide) (by decide) hk1 hFc hP1 hD1
  generalize H1 = H at hP hS ⊢
  rw [hr9]
  refine W.eq (g2 := F0 m 5 ls [.long o1]) rfl ?_
  refine lv_aload_n hx hb dO_isSame_5 rfl (lv_at hl 2 rfl) ?_
  refine lv_iload_n hx hb dO_isSame_6 rfl (lv_at hl 3 rfl) ?_
  obtain ⟨o4, hq5, hf⟩ := xbind hf
  obtain ⟨hPc, hDc, hFc⟩ := xcut (wc := [(a0, .inr (2, [.ref a1, .int v1, .int v2])), (a1, .inl (cT 2, 4096, .inr (.inl f0)))]) hP hD hS hA [0, 1] rfl rfl (by decide)
  refine va_calll (va_runV (C := "ValueBench$Row") (As := [.int x3]) (rest := [.long o1]) ⟨hx, hb, hml, hown, htx⟩ (gR_cell l hl9 D cT aK aV H.size n a0 a1 x3 f0 v1 v2 o4 hq5) ⟨callB_of 1 htx (xw_goodC kw_2_202) rfl rfl rfl (htx _ kw_1_4) (htx _ kw_3_162) ⟨by decide, by decide, by decide +kernel⟩ ⟨Nat.le_of_ble_eq_true rfl, Nat.le_of_ble_eq_true rfl⟩, (htx _ kw_2_200), (htx _ kw_2_201)⟩ ⟨xPre_blind, va_recv hK hP (ci := 2) rfl (q0 := 0) rfl, (fun U hU hW => ⟨rfl, xPre_of hZ hS hFc hPc hDc hK U hU hW⟩)⟩ rfl rfl hl.1 rfl (lv_room (Nat.le_of_ble_eq_true rfl)) dO_isSame_7 ⟨Nat.le_of_ble_eq_true rfl, Nat.le_of_ble_eq_true rfl⟩) hS (fun q _ h => hFc q h) hFc (fun r6 u9 t H1 locs ht hvm hr9 hB hz1 hk1 hS => ?_)
  obtain ⟨hP1, hK1, hD1⟩ := hB
  rw [ht] at hP1
  obtain ⟨hP, hD⟩ := xjoin (W := [(a0, .inr (2, [.ref a1, .int v1, .int v2])), (a1, .inl (cT 2, 4096, .inr (.inl f0)))]) hP hD [0, 1] [] 0 rfl rfl (by decide) (by decide) hk1 hFc hP1 hD1
  generalize H1 = H at hP hS ⊢
  rw [hr9]
  refine W.eq (g2 := F0 m 10 ls [.long o4, .long o1]) rfl ?_
  refine W.lcmp hx hb dO_isSame_10 ?_
  refine lv_if_ne (tgt := 29) hx hb dO_isSame_11 (by decide) (fun hc => ?_) (fun hc => ?_)
  · rw [if_neg hc] at hf
    refine lv_iconst (v := 0) hx hb dO_isSame_29 (by decide) ?_
    obtain rfl := Option.some.inj hf
    obtain ⟨hP9, hD9⟩ := xsub (wc := [(a0, .inr (2, [.ref a1, .int v1, .int v2])), (a1, .inl (cT 2, 4096, .inr (.inl f0)))]) hP hD [0, 1] rfl rfl (by decide)
    exact W.zret (v := (0 : Int32)) hx hb hr rfl (fun t ht hW => ⟨⟨(0 : Int32), (), rfl, rfl, by rw [ht]; exact hP9, va_K.moved hW.alike hK, hD9⟩, hS.F ht⟩) hS.2.2 dO_isSame_30
  · rw [if_pos hc] at hf
    refine lv_aload_n hx hb dO_isSame_14 rfl (lv_at hl 0 rfl) ?_
    refine lv_iload_n hx hb dO_isSame_15 rfl (lv_at hl 1 rfl) ?_
    refine lv_aload_n hx hb dO_isSame_16 rfl (lv_at hl 2 rfl) ?_
    refine lv_iload_n hx hb dO_isSame_17 rfl (lv_at hl 3 rfl) ?_
    refine lv_iconst (v := 0) hx hb dO_isSame_18 (by decide) ?_
    obtain ⟨o7, hq8, hf⟩ := xbind hf
    obtain ⟨hPc, hDc, hFc⟩ := xcut (wc := [(a0, .inr (2, [.ref a1, .int v1, .int v2])), (a1, .inl (cT 2, 4096, .inr (.inl f0)))]) hP hD hS hA [0, 1] rfl rfl (by decide)
    refine va_calli (va_runS (As := [.ref a0, .int x1, .ref a0, .int x3, .int 0]) (rest := []) ⟨hx, hb, hml, hown, htx⟩ (gO_ofa l hl9 D cT aK aV d H.size n a0 a1 x1 x3 (0 : Int32) f0 v1 v2 o7 hq8) ⟨callB_of 5 htx (xw_goodC kw_3_165) rfl rfl rfl (htx _ kw_1_23) (htx _ kw_3_163) ⟨by decide, by decide, by decide +kernel⟩ ⟨(by show (16 * d) + 1 ≤ 16 * d + 1; omega), (by show 8 + (5 + 11) + (400 * d) ≤ 400 * d + 24; omega)⟩, htx _ kw_3_164⟩ ⟨xPre_blind, (fun U hU hW => ⟨rfl, xPre_of hZ hS hFc hPc hDc hK U hU hW⟩)⟩ rfl rfl hl.1 rfl (lv_room (Nat.le_of_ble_eq_true rfl)) dO_isSame_19 ⟨Nat.le_of_ble_eq_true rfl, Nat.le_of_ble_eq_true rfl⟩) hS (fun q _ h => hFc q h) hFc (fun r9 u9 t H1 locs ht hvm hr9 hB hz1 hk1 hS => ?_)
    obtain ⟨hP1, hK1, hD1⟩ := hB
    rw [ht] at hP1
    obtain ⟨hP, hD⟩ := xjoin (W := [(a0, .inr (2, [.ref a1, .int v1, .int v2])), (a1, .inl (cT 2, 4096, .inr (.inl f0)))]) hP hD [0, 1] [] 0 rfl rfl (by decide) (by decide) hk1 hFc hP1 hD1
    generalize H1 = H at hP hS ⊢
    rw [hr9]
    refine W.eq (g2 := F0 m 22 ls [.int o7]) rfl ?_
    refine lv_if_ne (tgt := 29) hx hb dO_isSame_22 (by decide) (fun hc => ?_) (fun hc => ?_)
    · rw [if_neg hc] at hf
      refine lv_iconst (v := 0) hx hb dO_isSame_29 (by decide) ?_
      obtain rfl := Option.some.inj hf
      obtain ⟨hP9, hD9⟩ := xsub (wc := [(a0, .inr (2, [.ref a1, .int v1, .int v2])), (a1, .inl (cT 2, 4096, .inr (.inl f0)))]) hP hD [0, 1] rfl rfl (by decide)
      exact W.zret (v := (0 : Int32)) hx hb hr rfl (fun t ht hW => ⟨⟨(0 : Int32), (), rfl, rfl, by rw [ht]; exact hP9, va_K.moved hW.alike hK, hD9⟩, hS.F ht⟩) hS.2.2 dO_isSame_30
    · rw [if_pos hc] at hf
      refine lv_iconst (v := 1) hx hb dO_isSame_25 (by decide) ?_
      refine lv_goto (tgt := 30) hx hb dO_isSame_26 (by decide) ?_
      obtain rfl := Option.some.inj hf
      obtain ⟨hP9, hD9⟩ := xsub (wc := [(a0, .inr (2, [.ref a1, .int v1, .int v2])), (a1, .inl (cT 2, 4096, .inr (.inl f0)))]) hP hD [0, 1] rfl rfl (by decide)
      exact W.zret (v := (1 : Int32)) hx hb hr rfl (fun t ht hW => ⟨⟨(1 : Int32), (), rfl, rfl, by rw [ht]; exact hP9, va_K.moved hW.alike hK, hD9⟩, hS.F ht⟩) hS.2.2 dO_isSame_30
set_option maxHeartbeats 400000000 in
set_option maxRecDepth 100000 in
theorem gP_letterOf (l : Launch) (hl9 : l.stackTraces = false) (D : va_G) (cT : Nat → ClassId) (aK aV : Nat → Nat) (sz n : Nat) (x0 : Int32) (out : Int32) (hf : fP_letterOf n x0 = some out) : xMet l yP_letterOf wyP_letterOf 0 0 0 0 D cT aK aV sz [.int x0] [] (fun A => va_Qi (fun (r : Int32) (_ : Unit) => r = out) (fun _ t => xB D xcl cT A [] t) A) := by
  refine Met.ofW (cc := prog_6_method_6_code) (maxL := 1) (ret := (some .int)) (by decide) rfl ?_
  intro p e s m args below meth c s₁ B hml hv
  obtain ⟨rfl, hsz, hZ, hP, hK, hD0⟩ := hv
  have hx := B.exec
  have hb := B.bytes
  have hr := B.returns
  have hts := atoms_spec (ws := wyP_letterOf) B.pre
  have htx := fun w h => hts w (List.mem_cons_of_mem _ h)
  have hown : s.vm.findClass "ValueBench$Printer" = some m.cls := findClass_of_methodNamed B.named
  have hlocks := B.notSynchronized
  subst hsz
  have hD := hD0.self (sz := s.heap.size)
  generalize hAe : va_A [] s.heap.size = A at hD hZ ⊢
  have hA : ∀ q : Nat, s.heap.size ≤ q → A q := fun q h => by rw [← hAe]; exact Or.inr h
  have hS : va_S A s.heap s.heap [] := va_S.rf
  have hP : va_P D xcl [] s.heap := hP
  have hl := lv_entry ([.int x0]) (n := 1) (Nat.le_of_ble_eq_true rfl)
  rw [lg_entry_eq]
  generalize (lg_sl ([.int x0]) ++ List.replicate (1 - (lg_sl ([.int x0])).length) Slot.unset).toArray = ls at hl ⊢
  have hl : lv_has ls 1 [(0, .int x0)] := hl
  unfold fP_letterOf at hf
  refine lv_iload_n hx hb dP_letterOf_0 rfl (lv_at hl 0 rfl) ?_
  by_cases hc1 : x0 = 8
  · rw [if_pos hc1] at hf
    refine lv_lookup (off := 69) (tgt := 70) hx hb dP_letterOf_1 (by decide) (by rw [hc1]; decide) (by decide) ?_
    refine lv_bipush (v := 98) hx hb dP_letterOf_70 (by decide) ?_
    obtain rfl := Option.some.inj hf
    obtain ⟨hP9, hD9⟩ := xsub (wc := []) hP hD [] rfl rfl (by decide)
    exact W.iret (v := (98 : Int32)) hx hb hr (fun t ht hW => ⟨⟨(98 : Int32), (), rfl, rfl, by rw [ht]; exact hP9, va_K.moved hW.alike hK, hD9⟩, hS.F ht⟩) hS.2.2 dP_letterOf_72
  rw [if_neg hc1] at hf
  by_cases hc2 : x0 = 9
  · rw [if_pos hc2] at hf
    refine lv_lookup (off := 72) (tgt := 73) hx hb dP_letterOf_1 (by decide) (by rw [hc2]; decide) (by decide) ?_
    refine lv_bipush (v := 116) hx hb dP_letterOf_73 (by decide) ?_
    obtain rfl := Option.some.inj hf
    obtain ⟨hP9, hD9⟩ := xsub (wc := []) hP hD [] rfl rfl (by decide)
    exact W.iret (v := (116 : Int32)) hx hb hr (fun t ht hW => ⟨⟨(116 : Int32), (), rfl, rfl, by rw [ht]; exact hP9, va_K.moved hW.alike hK, hD9⟩, hS.F ht⟩) hS.2.2 dP_letterOf_75
  rw [if_neg hc2] at hf
  by_cases hc3 : x0 = 10
  · rw [if_pos hc3] at hf
    refine lv_lookup (off := 75) (tgt := 76) hx hb dP_letterOf_1 (by decide) (by rw [hc3]; decide) (by decide) ?_
    refine lv_bipush (v := 110) hx hb dP_letterOf_76 (by decide) ?_
    obtain rfl := Option.some.inj hf
    obtain ⟨hP9, hD9⟩ := xsub (wc := []) hP hD [] rfl rfl (by decide)
    exact W.iret (v := (110 : Int32)) hx hb hr (fun t ht hW => ⟨⟨(110 : Int32), (), rfl, rfl, by rw [ht]; exact hP9, va_K.moved hW.alike hK, hD9⟩, hS.F ht⟩) hS.2.2 dP_letterOf_78
  rw [if_neg hc3] at hf
  by_cases hc4 : x0 = 12
  · rw [if_pos hc4] at hf
    refine lv_lookup (off := 78) (tgt := 79) hx hb dP_letterOf_1 (by decide) (by rw [hc4]; decide) (by decide) ?_
    refine lv_bipush (v := 102) hx hb dP_letterOf_79 (by decide) ?_
    obtain rfl := Option.some.inj hf
    obtain ⟨hP9, hD9⟩ := xsub (wc := []) hP hD [] rfl rfl (by decide)
    exact W.iret (v := (102 : Int32)) hx hb hr (fun t ht hW => ⟨⟨(102 : Int32), (), rfl, rfl, by rw [ht]; exact hP9, va_K.moved hW.alike hK, hD9⟩, hS.F ht⟩) hS.2.2 dP_letterOf_81
  rw [if_neg hc4] at hf
  by_cases hc5 : x0 = 13
  · rw [if_pos hc5] at hf
    refine lv_lookup (off := 81) (tgt := 82) hx hb dP_letterOf_1 (by decide) (by rw [hc5]; decide) (by decide) ?_
    refine lv_bipush (v := 114) hx hb dP_letterOf_82 (by decide) ?_
    obtain rfl := Option.some.inj hf
    obtain ⟨hP9, hD9⟩ := xsub (wc := []) hP hD [] rfl rfl (by decide)
    exact W.iret (v := (114 : Int32)) hx hb hr (fun t ht hW => ⟨⟨(114 : Int32), (), rfl, rfl, by rw [ht]; exact hP9, va_K.moved hW.alike hK, hD9⟩, hS.F ht⟩) hS.2.2 dP_letterOf_84
  rw [if_neg hc5] at hf
  by_cases hc6 : x0 = 34
  · rw [if_pos hc6] at hf
    refine lv_lookup (off := 67) (tgt := 68) hx hb dP_letterOf_1 (by decide) (by rw [hc6]; decide) (by decide) ?_
    refine lv_iload_n hx hb dP_letterOf_68 rfl (lv_at hl 0 rfl) ?_
    obtain rfl := Option.some.inj hf
    obtain ⟨hP9, hD9⟩ := xsub (wc := []) hP hD [] rfl rfl (by decide)
    exact W.iret (v := x0) hx hb hr (fun t ht hW => ⟨⟨x0, (), rfl, rfl, by rw [ht]; exact hP9, va_K.moved hW.alike hK, hD9⟩, hS.F ht⟩) hS.2.2 dP_letterOf_69
  rw [if_neg hc6] at hf
  by_cases hc7 : x0 = 92
  · rw [if_pos hc7] at hf
    refine lv_lookup (off := 67) (tgt := 68) hx hb dP_letterOf_1 (by decide) (by rw [hc7]; decide) (by decide) ?_
    refine lv_iload_n hx hb dP_letterOf_68 rfl (lv_at hl 0 rfl) ?_
    obtain rfl := Option.some.inj hf
    obtain ⟨hP9, hD9⟩ := xsub (wc := []) hP hD [] rfl rfl (by decide)
    exact W.iret (v := x0) hx hb hr (fun t ht hW => ⟨⟨x0, (), rfl, rfl, by rw [ht]; exact hP9, va_K.moved hW.alike hK, hD9⟩, hS.F ht⟩) hS.2.2 dP_letterOf_69
  rw [if_neg hc7] at hf
  refine lv_lookup (off := 84) (tgt := 85) hx hb dP_letterOf_1 (by decide) (by have e0 : x0.toInt ≠ 8 := xsw hc1 (by decide); have e1 : x0.toInt ≠ 9 := xsw hc2 (by decide); have e2 : x0.toInt ≠ 10 := xsw hc3 (by decide); have e3 : x0.toInt ≠ 12 := xsw hc4 (by decide); have e4 : x0.toInt ≠ 13 := xsw hc5 (by decide); have e5 : x0.toInt ≠ 34 := xsw hc6 (by decide); have e6 : x0.toInt ≠ 92 := xsw hc7 (by decide); simp [Op.lookupswitch.offset, e0, Ne.symm e0, e1, Ne.symm e1, e2, Ne.symm e2, e3, Ne.symm e3, e4, Ne.symm e4, e5, Ne.symm e5, e6, Ne.symm e6]) (by decide) ?_
  refine lv_iconst (v := (-1)) hx hb dP_letterOf_85 (by decide) ?_
  obtain rfl := Option.some.inj hf
  obtain ⟨hP9, hD9⟩ := xsub (wc := []) hP hD [] rfl rfl (by decide)
  exact W.iret (v := ((-1) : Int32)) hx hb hr (fun t ht hW => ⟨⟨((-1) : Int32), (), rfl, rfl, by rw [ht]; exact hP9, va_K.moved hW.alike hK, hD9⟩, hS.F ht⟩) hS.2.2 dP_letterOf_86
theorem gJS_charAt13 (l : Launch) (hl9 : l.stackTraces = false) (D : va_G) (cT : Nat → ClassId) (aK aV : Nat → Nat) (sz n : Nat) (x1 : Int32) (out : Int32) (hf : fJS_charAt13 n x1 = some out) : xMet l yJS_charAt wyJS_charAt 3 0 0 64 D cT aK aV sz [.ref (aK 13), .int x1] [] (fun A => va_Qi (fun (r : Int32) (_ : Unit) => r = out) (fun _ t => xB D xcl cT A [] t) A) := by
  unfold fJS_charAt13 at hf
  obtain ⟨hg, hf⟩ := xifn hf
  have h1 : ¬ x1 < 0 := fun h => hg (Or.inl h)
  have h2 : x1.toInt.toNat < 16 := Nat.lt_of_not_le fun h => hg (Or.inr h)
  have h0 : ¬ x1.toInt < 0 := fun h => h1 (Int32.lt_iff_toInt_lt.mpr h)
  have e9 := (Int32.ofInt_toInt x1).symm
  have h4 : x1.toInt = 0 ∨ x1.toInt = 1 ∨ x1.toInt = 2 ∨ x1.toInt = 3 ∨ x1.toInt = 4 ∨ x1.toInt = 5 ∨ x1.toInt = 6 ∨ x1.toInt = 7 ∨ x1.toInt = 8 ∨ x1.toInt = 9 ∨ x1.toInt = 10 ∨ x1.toInt = 11 ∨ x1.toInt = 12 ∨ x1.toInt = 13 ∨ x1.toInt = 14 ∨ x1.toInt = 15 := by omega
  rcases h4 with h | h | h | h | h | h | h | h | h | h | h | h | h | h | h | h
  · obtain rfl : x1 = 0 := by rw [e9, h]; rfl
    obtain rfl := Option.some.inj hf
    exact cJS_charAt_13 l hl9 D cT aK aV sz
  · obtain rfl : x1 = 1 := by rw [e9, h]; rfl
    obtain rfl := Option.some.inj hf
    exact cJS_charAt_14 l hl9 D cT aK aV sz
  · obtain rfl : x1 = 2 := by rw [e9, h]; rfl
    obtain rfl := Option.some.inj hf
    exact cJS_charAt_15 l hl9 D cT aK aV sz
  · obtain rfl : x1 = 3 := by rw [e9, h]; rfl
    obtain rfl := Option.some.inj hf
    exact cJS_charAt_16 l hl9 D cT aK aV sz
  · obtain rfl : x1 = 4 := by rw [e9, h]; rfl
    obtain rfl := Option.some.inj hf
    exact cJS_charAt_17 l hl9 D cT aK aV sz
  · obtain rfl : x1 = 5 := by rw [e9, h]; rfl
    obtain rfl := Option.some.inj hf
    exact cJS_charAt_18 l hl9 D cT aK aV sz
  · obtain rfl : x1 = 6 := by rw [e9, h]; rfl
    obtain rfl := Option.some.inj hf
    exact cJS_charAt_19 l hl9 D cT aK aV sz
  · obtain rfl : x1 = 7 := by rw [e9, h]; rfl
    obtain rfl := Option.some.inj hf
    exact cJS_charAt_20 l hl9 D cT aK aV sz
  · obtain rfl : x1 = 8 := by rw [e9, h]; rfl
    obtain rfl := Option.some.inj hf
    exact cJS_charAt_21 l hl9 D cT aK aV sz
  · obtain rfl : x1 = 9 := by rw [e9, h]; rfl
    obtain rfl := Option.some.inj hf
    exact cJS_charAt_22 l hl9 D cT aK aV sz
  · obtain rfl : x1 = 10 := by rw [e9, h]; rfl
    obtain rfl := Option.some.inj hf
    exact cJS_charAt_23 l hl9 D cT aK aV sz
  · obtain rfl : x1 = 11 := by rw [e9, h]; rfl
    obtain rfl := Option.some.inj hf
    exact cJS_charAt_24 l hl9 D cT aK aV sz
  · obtain rfl : x1 = 12 := by rw [e9, h]; rfl
    obtain rfl := Option.some.inj hf
    exact cJS_charAt_25 l hl9 D cT aK aV sz
  · obtain rfl : x1 = 13 := by rw [e9, h]; rfl
    obtain rfl := Option.some.inj hf
    exact cJS_charAt_26 l hl9 D cT aK aV sz
  · obtain rfl : x1 = 14 := by rw [e9, h]; rfl
    obtain rfl := Option.some.inj hf
    exact cJS_charAt_27 l hl9 D cT aK aV sz
  · obtain rfl : x1 = 15 := by rw [e9, h]; rfl
    obtain rfl := Option.some.inj hf
    exact cJS_charAt_28 l hl9 D cT aK aV sz
set_option maxHeartbeats 400000000 in
set_option maxRecDepth 100000 in
theorem gP_writeCode (l : Launch) (hl9 : l.stackTraces = false) (D : va_G) (cT : Nat → ClassId) (aK aV : Nat → Nat) (sz n : Nat) (a0 : Nat) (a1 : Nat) (x0 : Int32) (f0 : Nat → Int32) (v1 : Int32) (v2 : Int32) (out : (Nat → Int32) × Int32 × Int32) (hf : fP_writeCode n x0 f0 v1 v2 = some out) : xMet l yP_writeCode wyP_writeCode 4 0 0 85 D cT aK aV sz [.int x0, .ref a0] [(a0, .inr (1, [.ref a1, .int v1, .int v2])), (a1, .inl (cT 0, 4096, .inl f0))] (fun A => va_Qv (fun _ : Unit => True) (fun _ t => xB D xcl cT A [(a0, .inr (1, [.ref a1, .int out.2.1, .int out.2.2])), (a1, .inl (cT 0, 4096, .inl out.1))] t) A) := by
  refine Met.ofW (cc := prog_6_method_5_code) (maxL := 3) (ret := none) (by decide) rfl ?_
  intro p e s m args below meth c s₁ B hml hv
  obtain ⟨rfl, hsz, hZ, hP, hK, hD0⟩ := hv
  have hx := B.exec
  have hb := B.bytes
  have hr := B.returns
  have hts := atoms_spec (ws := wyP_writeCode) B.pre
  have htx := fun w h => hts w (List.mem_cons_of_mem _ h)
  have hown : s.vm.findClass "ValueBench$Printer" = some m.cls := findClass_of_methodNamed B.named
  have hlocks := B.notSynchronized
  subst hsz
  have hD := hD0.self (sz := s.heap.size)
  generalize hAe : va_A [(a0, .inr (1, [.ref a1, .int v1, .int v2])), (a1, .inl (cT 0, 4096, .inl f0))] s.heap.size = A at hD hZ ⊢
  have hA : ∀ q : Nat, s.heap.size ≤ q → A q := fun q h => by rw [← hAe]; exact Or.inr h
  have hS : va_S A s.heap s.heap [] := va_S.rf
  have hP : va_P D xcl [(a0, .inr (1, [.ref a1, .int v1, .int v2])), (a1, .inl (cT 0, 4096, .inl f0))] s.heap := hP
  have hl := lv_entry ([.int x0, .ref a0]) (n := 3) (Nat.le_of_ble_eq_true rfl)
  rw [lg_entry_eq]
  generalize (lg_sl ([.int x0, .ref a0]) ++ List.replicate (3 - (lg_sl ([.int x0, .ref a0])).length) Slot.unset).toArray = ls at hl ⊢
  have hl : lv_has ls 3 [(0, .int x0), (1, .ref a0)] := hl
  unfold fP_writeCode at hf
  refine lv_iload_n hx hb dP_writeCode_0 rfl (lv_at hl 0 rfl) ?_
  obtain ⟨o1, hq2, hf⟩ := xbind hf
  obtain ⟨hPc, hDc, hFc⟩ := xcut (wc := []) hP hD hS hA [] rfl rfl (by decide)
  refine va_calli (va_runS (As := [.int x0]) (rest := []) ⟨hx, hb, hml, hown, htx⟩ (gP_letterOf l hl9 D cT aK aV s.heap.size n x0 o1 hq2) ⟨callB_of 1 htx (xw_goodC kw_3_62) rfl rfl rfl (htx _ kw_1_18) (htx _ kw_3_60) ⟨by decide, by decide, by decide +kernel⟩ ⟨Nat.le_of_ble_eq_true rfl, Nat.le_of_ble_eq_true rfl⟩, htx _ kw_3_61⟩ ⟨xPre_blind, (fun U hU hW => ⟨rfl, xPre_of hZ hS hFc hPc hDc hK U hU hW⟩)⟩ rfl rfl hl.1 rfl (lv_room (Nat.le_of_ble_eq_true rfl)) dP_writeCode_1 ⟨Nat.le_of_ble_eq_true rfl, Nat.le_of_ble_eq_true rfl⟩) hS (fun q _ h => hFc q h) hFc (fun r3 u9 t H1 locs ht hvm hr9 hB hz1 hk1 hS => ?_)
  obtain ⟨hP1, hK1, hD1⟩ := hB
  rw [ht] at hP1
  obtain ⟨hP, hD⟩ := xjoin (W := [(a0, .inr (1, [.ref a1, .int v1, .int v2])), (a1, .inl (cT 0, 4096, .inl f0))]) hP hD [] [0, 1] 2 rfl rfl (by decide) (by decide) hk1 hFc hP1 hD1
  generalize H1 = H at hP hS ⊢
  rw [hr9]
  refine W.eq (g2 := F0 m 4 ls [.int o1]) rfl ?_
  refine lv_istore_n (lv' := [(2, .int o1), (0, .int x0), (1, .ref a0)]) hx hb dP_writeCode_4 rfl hl (by decide) rfl (fun ls hl => ?_)
  refine lv_iload_n hx hb dP_writeCode_5 rfl (lv_at hl 0 rfl) ?_
  refine lv_iconst (v := (-1)) hx hb dP_writeCode_6 (by decide) ?_
  refine lv_icmp_eq (tgt := 24) hx hb dP_writeCode_7 (by decide) (fun hc => ?_) (fun hc => ?_)
  · rw [if_pos hc] at hf
    refine lv_iload_n hx hb dP_writeCode_24 rfl (lv_at hl 1 rfl) ?_
    refine lv_bipush (v := 32) hx hb dP_writeCode_25 (by decide) ?_
    refine lv_icmp_lt (tgt := 36) hx hb dP_writeCode_27 (by decide) (fun hc => ?_) (fun hc => ?_)
    · rw [if_pos hc] at hf
      refine lv_aload_n hx hb dP_writeCode_36 rfl (lv_at hl 2 rfl) ?_
      refine lv_bipush (v := 92) hx hb dP_writeCode_37 (by decide) ?_
      obtain ⟨o4, hq5, hf⟩ := xbind hf
      obtain ⟨hPc, hDc, hFc⟩ := xcut (wc := [(a0, .inr (1, [.ref a1, .int v1, .int v2])), (a1, .inl (cT 0, 4096, .inl f0))]) hP hD hS hA [0, 1] rfl rfl (by decide)
      refine va_callv (va_runV (C := "ValueBench$Text") (As := [.int 92]) (rest := []) ⟨hx, hb, hml, hown, htx⟩ (gT_add l hl9 D cT aK aV H.size n a0 a1 (92 : Int32) f0 v1 v2 o4 hq5) ⟨callB_of 1 htx (xw_goodC kw_1_207) rfl rfl rfl (htx _ kw_1_2) (htx _ kw_3_51) ⟨by decide, by decide, by decide +kernel⟩ ⟨Nat.le_of_ble_eq_true rfl, Nat.le_of_ble_eq_true rfl⟩, (htx _ kw_1_205), (htx _ kw_1_206)⟩ ⟨xPre_blind, va_recv hK hP (ci := 1) rfl (q0 := 0) rfl, (fun U hU hW => ⟨rfl, xPre_of hZ hS hFc hPc hDc hK U hU hW⟩)⟩ rfl rfl hl.1 rfl (lv_room (Nat.le_of_ble_eq_true rfl)) dP_writeCode_39 ⟨Nat.le_of_ble_eq_true rfl, Nat.le_of_ble_eq_true rfl⟩) hS (fun q _ h => hFc q h) hFc (fun u9 t H1 locs ht hvm hr9 hB hz1 hk1 hS => ?_)
      obtain ⟨hP1, hK1, hD1⟩ := hB
      rw [ht] at hP1
      obtain ⟨hP, hD⟩ := xjoin (W := [(a0, .inr (1, [.ref a1, .int o4.2.1, .int o4.2.2])), (a1, .inl (cT 0, 4096, .inl o4.1))]) hP hD [0, 1] [] 0 rfl rfl (by decide) (by decide) hk1 hFc hP1 hD1
      generalize H1 = H at hP hS ⊢
      refine lv_aload_n hx hb dP_writeCode_42 rfl (lv_at hl 2 rfl) ?_
      refine lv_bipush (v := 117) hx hb dP_writeCode_43 (by decide) ?_
      obtain ⟨o6, hq7, hf⟩ := xbind hf
      obtain ⟨hPc, hDc, hFc⟩ := xcut (wc := [(a0, .inr (1, [.ref a1, .int o4.2.1, .int o4.2.2])), (a1, .inl (cT 0, 4096, .inl o4.1))]) hP hD hS hA [0, 1] rfl rfl (by decide)
      refine va_callv (va_runV (C := "ValueBench$Text") (As := [.int 117]) (rest := []) ⟨hx, hb, hml, hown, htx⟩ (gT_add l hl9 D cT aK aV H.size n a0 a1 (117 : Int32) o4.1 o4.2.1 o4.2.2 o6 hq7) ⟨callB_of 1 htx (xw_goodC kw_1_207) rfl rfl rfl (htx _ kw_1_2) (htx _ kw_3_51) ⟨by decide, by decide, by decide +kernel⟩ ⟨Nat.le_of_ble_eq_true rfl, Nat.le_of_ble_eq_true rfl⟩, (htx _ kw_1_205), (htx _ kw_1_206)⟩ ⟨xPre_blind, va_recv hK hP (ci := 1) rfl (q0 := 0) rfl, (fun U hU hW => ⟨rfl, xPre_of hZ hS hFc hPc hDc hK U hU hW⟩)⟩ rfl rfl hl.1 rfl (lv_room (Nat.le_of_ble_eq_true rfl)) dP_writeCode_45 ⟨Nat.le_of_ble_eq_true rfl, Nat.le_of_ble_eq_true rfl⟩) hS (fun q _ h => hFc q h) hFc (fun u9 t H1 locs ht hvm hr9 hB hz1 hk1 hS => ?_)
      obtain ⟨hP1, hK1, hD1⟩ := hB
      rw [ht] at hP1
      obtain ⟨hP, hD⟩ := xjoin (W := [(a0, .inr (1, [.ref a1, .int o6.2.1, .int o6.2.2])), (a1, .inl (cT 0, 4096, .inl o6.1))]) hP hD [0, 1] [] 0 rfl rfl (by decide) (by decide) hk1 hFc hP1 hD1
      generalize H1 = H at hP hS ⊢
      refine lv_aload_n hx hb dP_writeCode_48 rfl (lv_at hl 2 rfl) ?_
      refine lv_bipush (v := 48) hx hb dP_writeCode_49 (by decide) ?_
      obtain ⟨o8, hq9, hf⟩ := xbind hf
      obtain ⟨hPc, hDc, hFc⟩ := xcut (wc := [(a0, .inr (1, [.ref a1, .int o6.2.1, .int o6.2.2])), (a1, .inl (cT 0, 4096, .inl o6.1))]) hP hD hS hA [0, 1] rfl rfl (by decide)
      refine va_callv (va_runV (C := "ValueBench$Text") (As := [.int 48]) (rest := []) ⟨hx, hb, hml, hown, htx⟩ (gT_add l hl9 D cT aK aV H.size n a0 a1 (48 : Int32) o6.1 o6.2.1 o6.2.2 o8 hq9) ⟨callB_of 1 htx (xw_goodC kw_1_207) rfl rfl rfl (htx _ kw_1_2) (htx _ kw_3_51) ⟨by decide, by decide, by decide +kernel⟩ ⟨Nat.le_of_ble_eq_true rfl, Nat.le_of_ble_eq_true rfl⟩, (htx _ kw_1_205), (htx _ kw_1_206)⟩ ⟨xPre_blind, va_recv hK hP (ci := 1) rfl (q0 := 0) rfl, (fun U hU hW => ⟨rfl, xPre_of hZ hS hFc hPc hDc hK U hU hW⟩)⟩ rfl rfl hl.1 rfl (lv_room (Nat.le_of_ble_eq_true rfl)) dP_writeCode_51 ⟨Nat.le_of_ble_eq_true rfl, Nat.le_of_ble_eq_true rfl⟩) hS (fun q _ h => hFc q h) hFc (fun u9 t H1 locs ht hvm hr9 hB hz1 hk1 hS => ?_)
      obtain ⟨hP1, hK1, hD1⟩ := hB
      rw [ht] at hP1
      obtain ⟨hP, hD⟩ := xjoin (W := [(a0, .inr (1, [.ref a1, .int o8.2.1, .int o8.2.2])), (a1, .inl (cT 0, 4096, .inl o8.1))]) hP hD [0, 1] [] 0 rfl rfl (by decide) (by decide) hk1 hFc hP1 hD1
      generalize H1 = H at hP hS ⊢
      refine lv_aload_n hx hb dP_writeCode_54 rfl (lv_at hl 2 rfl) ?_
      refine lv_bipush (v := 48) hx hb dP_writeCode_55 (by decide) ?_
      obtain ⟨o10, hq11, hf⟩ := xbind hf
      obtain ⟨hPc, hDc, hFc⟩ := xcut (wc := [(a0, .inr (1, [.ref a1, .int o8.2.1, .int o8.2.2])), (a1, .inl (cT 0, 4096, .inl o8.1))]) hP hD hS hA [0, 1] rfl rfl (by decide)
      refine va_callv (va_runV (C := "ValueBench$Text") (As := [.int 48]) (rest := []) ⟨hx, hb, hml, hown, htx⟩ (gT_add l hl9 D cT aK aV H.size n a0 a1 (48 : Int32) o8.1 o8.2.1 o8.2.2 o10 hq11) ⟨callB_of 1 htx (xw_goodC kw_1_207) rfl rfl rfl (htx _ kw_1_2) (htx _ kw_3_51) ⟨by decide, by decide, by decide +kernel⟩ ⟨Nat.le_of_ble_eq_true rfl, Nat.le_of_ble_eq_true rfl⟩, (htx _ kw_1_205), (htx _ kw_1_206)⟩ ⟨xPre_blind, va_recv hK hP (ci := 1) rfl (q0 := 0) rfl, (fun U hU hW => ⟨rfl, xPre_of hZ hS hFc hPc hDc hK U hU hW⟩)⟩ rfl rfl hl.1 rfl (lv_room (Nat.le_of_ble_eq_true rfl)) dP_writeCode_57 ⟨Nat.le_of_ble_eq_true rfl, Nat.le_of_ble_eq_true rfl⟩) hS (fun q _ h => hFc q h) hFc (fun u9 t H1 locs ht hvm hr9 hB hz1 hk1 hS => ?_)
      obtain ⟨hP1, hK1, hD1⟩ := hB
      rw [ht] at hP1
      obtain ⟨hP, hD⟩ := xjoin (W := [(a0, .inr (1, [.ref a1, .int o10.2.1, .int o10.2.2])), (a1, .inl (cT 0, 4096, .inl o10.1))]) hP hD [0, 1] [] 0 rfl rfl (by decide) (by decide) hk1 hFc hP1 hD1
      generalize H1 = H at hP hS ⊢
      refine lv_aload_n hx hb dP_writeCode_60 rfl (lv_at hl 2 rfl) ?_
      refine va_ldcS (q := aK 13) hx hb hown (hZ.2.2.2.2.2.2.2.2.1 ("ValueBench$Printer", 76, "0123456789abcdef", 13) (List.mem_of_getElem? (i := 13) rfl)) dP_writeCode_61 ?_
      refine lv_iload_n hx hb dP_writeCode_63 rfl (lv_at hl 1 rfl) ?_
      refine lv_iconst (v := 4) hx hb dP_writeCode_64 (by decide) ?_
      refine lv_ishr hx hb dP_writeCode_65 ?_
      refine lv_bipush (v := 15) hx hb dP_writeCode_66 (by decide) ?_
      refine lv_iand hx hb dP_writeCode_68 ?_
      obtain ⟨o12, hq13, hf⟩ := xbind hf
      obtain ⟨hPc, hDc, hFc⟩ := xcut (wc := []) hP hD hS hA [] rfl rfl (by decide)
      refine va_calli (va_runV (C := "java/lang/String") (As := [.int ((x0 >>> ((4 : Int32) &&& 31)) &&& (15 : Int32))]) (rest := [.ref a0]) ⟨hx, hb, hml, hown, htx⟩ (gJS_charAt13 l hl9 D cT aK aV H.size n ((x0 >>> ((4 : Int32) &&& 31)) &&& (15 : Int32)) o12 hq13) ⟨callB_of 1 htx (xw_goodC kw_2_80) rfl rfl rfl (htx _ kw_1_6) (htx _ kw_3_64) ⟨by decide, by decide, by decide +kernel⟩ ⟨Nat.le_of_ble_eq_true rfl, Nat.le_of_ble_eq_true rfl⟩, (htx _ kw_2_78), (htx _ kw_2_79)⟩ ⟨xPre_blind, vk_recv hZ.2.2.2.2.2.2.2.2.2.1 (i := 13) (by decide) hS, (fun U hU hW => ⟨rfl, xPre_of hZ hS hFc hPc hDc hK U hU hW⟩)⟩ rfl rfl hl.1 rfl (lv_room (Nat.le_of_ble_eq_true rfl)) dP_writeCode_69 ⟨Nat.le_of_ble_eq_true rfl, Nat.le_of_ble_eq_true rfl⟩) hS (fun q _ h => hFc q h) hFc (fun r14 u9 t H1 locs ht hvm hr9 hB hz1 hk1 hS => ?_)
      obtain ⟨hP1, hK1, hD1⟩ := hB
      rw [ht] at hP1
      obtain ⟨hP, hD⟩ := xjoin (W := [(a0, .inr (1, [.ref a1, .int o10.2.1, .int o10.2.2])), (a1, .inl (cT 0, 4096, .inl o10.1))]) hP hD [] [0, 1] 2 rfl rfl (by decide) (by decide) hk1 hFc hP1 hD1
      generalize H1 = H at hP hS ⊢
      rw [hr9]
      refine W.eq (g2 := F0 m 72 ls [.int o12, .ref a0]) rfl ?_
      obtain ⟨o15, hq16, hf⟩ := xbind hf
      obtain ⟨hPc, hDc, hFc⟩ := xcut (wc := [(a0, .inr (1, [.ref a1, .int o10.2.1, .int o10.2.2])), (a1, .inl (cT 0, 4096, .inl o10.1))]) hP hD hS hA [0, 1] rfl rfl (by decide)
      refine va_callv (va_runV (C := "ValueBench$Text") (As := [.int o12]) (rest := []) ⟨hx, hb, hml, hown, htx⟩ (gT_add l hl9 D cT aK aV H.size n a0 a1 o12 o10.1 o10.2.1 o10.2.2 o15 hq16) ⟨callB_of 1 htx (xw_goodC kw_1_207) rfl rfl rfl (htx _ kw_1_2) (htx _ kw_3_51) ⟨by decide, by decide, by decide +kernel⟩ ⟨Nat.le_of_ble_eq_true rfl, Nat.le_of_ble_eq_true rfl⟩, (htx _ kw_1_205), (htx _ kw_1_206)⟩ ⟨xPre_blind, va_recv hK hP (ci := 1) rfl (q0 := 0) rfl, (fun U hU hW => ⟨rfl, xPre_of hZ hS hFc hPc hDc hK U hU hW⟩)⟩ rfl rfl hl.1 rfl (lv_room (Nat.le_of_ble_eq_true rfl)) dP_writeCode_72 ⟨Nat.le_of_ble_eq_true rfl, Nat.le_of_ble_eq_true rfl⟩) hS (fun q _ h => hFc q h) hFc (fun u9 t H1 locs ht hvm hr9 hB hz1 hk1 hS => ?_)
      obtain ⟨hP1, hK1, hD1⟩ := hB
      rw [ht] at hP1
      obtain ⟨hP, hD⟩ := xjoin (W := [(a0, .inr (1, [.ref a1, .int o15.2.1, .int o15.2.2])), (a1, .inl (cT 0, 4096, .inl o15.1))]) hP hD [0, 1] [] 0 rfl rfl (by decide) (by decide) hk1 hFc hP1 hD1
      generalize H1 = H at hP hS ⊢
      refine lv_aload_n hx hb dP_writeCode_75 rfl (lv_at hl 2 rfl) ?_
      refine va_ldcS (q := aK 13) hx hb hown (hZ.2.2.2.2.2.2.2.2.1 ("ValueBench$Printer", 76, "0123456789abcdef", 13) (List.mem_of_getElem? (i := 13) rfl)) dP_writeCode_76 ?_
      refine lv_iload_n hx hb dP_writeCode_78 rfl (lv_at hl 1 rfl) ?_
      refine lv_bipush (v := 15) hx hb dP_writeCode_79 (by decide) ?_
      refine lv_iand hx hb dP_writeCode_81 ?_
      obtain ⟨o17, hq18, hf⟩ := xbind hf
      obtain ⟨hPc, hDc, hFc⟩ := xcut (wc := []) hP hD hS hA [] rfl rfl (by decide)
      refine va_calli (va_runV (C := "java/lang/String") (As := [.int (x0 &&& (15 : Int32))]) (rest := [.ref a0]) ⟨hx, hb, hml, hown, htx⟩ (gJS_charAt13 l hl9 D cT aK aV H.size n (x0 &&& (15 : Int32)) o17 hq18) ⟨callB_of 1 htx (xw_goodC kw_2_80) rfl rfl rfl (htx _ kw_1_6) (htx _ kw_3_64) ⟨by decide, by decide, by decide +kernel⟩ ⟨Nat.le_of_ble_eq_true rfl, Nat.le_of_ble_eq_true rfl⟩, (htx _ kw_2_78), (htx _ kw_2_79)⟩ ⟨xPre_blind, vk_recv hZ.2.2.2.2.2.2.2.2.2.1 (i := 13) (by decide) hS, (fun U hU hW => ⟨rfl, xPre_of hZ hS hFc hPc hDc hK U hU hW⟩)⟩ rfl rfl hl.1 rfl (lv_room (Nat.le_of_ble_eq_true rfl)) dP_writeCode_82 ⟨Nat.le_of_ble_eq_true rfl, Nat.le_of_ble_eq_true rfl⟩) hS (fun q _ h => hFc q h) hFc (fun r19 u9 t H1 locs ht hvm hr9 hB hz1 hk1 hS => ?_)
      obtain ⟨hP1, hK1, hD1⟩ := hB
      rw [ht] at hP1
      obtain ⟨hP, hD⟩ := xjoin (W := [(a0, .inr (1, [.ref a1, .int o15.2.1, .int o15.2.2])), (a1, .inl (cT 0, 4096, .inl o15.1))]) hP hD [] [0, 1] 2 rfl rfl (by decide) (by decide) hk1 hFc hP1 hD1
      generalize H1 = H at hP hS ⊢
      rw [hr9]
      refine W.eq (g2 := F0 m 85 ls [.int o17, .ref a0]) rfl ?_
      obtain ⟨o20, hq21, hf⟩ := xbind hf
      obtain ⟨hPc, hDc, hFc⟩ := xcut (wc := [(a0, .inr (1, [.ref a1, .int o15.2.1, .int o15.2.2])), (a1, .inl (cT 0, 4096, .inl o15.1))]) hP hD hS hA [0, 1] rfl rfl (by decide)
      refine va_callv (va_runV (C := "ValueBench$Text") (As := [.int o17]) (rest := []) ⟨hx, hb, hml, hown, htx⟩ (gT_add l hl9 D cT aK aV H.size n a0 a1 o17 o15.1 o15.2.1 o15.2.2 o20 hq21) ⟨callB_of 1 htx (xw_goodC kw_1_207) rfl rfl rfl (htx _ kw_1_2) (htx _ kw_3_51) ⟨by decide, by decide, by decide +kernel⟩ ⟨Nat.le_of_ble_eq_true rfl, Nat.le_of_ble_eq_true rfl⟩, (htx _ kw_1_205), (htx _ kw_1_206)⟩ ⟨xPre_blind, va_recv hK hP (ci := 1) rfl (q0 := 0) rfl, (fun U hU hW => ⟨rfl, xPre_of hZ hS hFc hPc hDc hK U hU hW⟩)⟩ rfl rfl hl.1 rfl (lv_room (Nat.le_of_ble_eq_true rfl)) dP_writeCode_85 ⟨Nat.le_of_ble_eq_true rfl, Nat.le_of_ble_eq_true rfl⟩) hS (fun q _ h => hFc q h) hFc (fun u9 t H1 locs ht hvm hr9 hB hz1 hk1 hS => ?_)
      obtain ⟨hP1, hK1, hD1⟩ := hB
      rw [ht] at hP1
      obtain ⟨hP, hD⟩ := xjoin (W := [(a0, .inr (1, [.ref a1, .int o20.2.1, .int o20.2.2])), (a1, .inl (cT 0, 4096, .inl o20.1))]) hP hD [0, 1] [] 0 rfl rfl (by decide) (by decide) hk1 hFc hP1 hD1
      generalize H1 = H at hP hS ⊢
      refine lv_goto (tgt := 96) hx hb dP_writeCode_88 (by decide) ?_
      obtain rfl := Option.some.inj hf
      obtain ⟨hP9, hD9⟩ := xsub (wc := [(a0, .inr (1, [.ref a1, .int o20.2.1, .int o20.2.2])), (a1, .inl (cT 0, 4096, .inl o20.1))]) hP hD [0, 1] rfl rfl (by decide)
      exact W.vret hx hb hr (fun t ht hW => ⟨⟨(), rfl, trivial, by rw [ht]; exact hP9, va_K.moved hW.alike hK, hD9⟩, hS.F ht⟩) hS.2.2 dP_writeCode_96
    · rw [if_neg hc] at hf
      refine lv_iload_n hx hb dP_writeCode_30 rfl (lv_at hl 1 rfl) ?_
      refine lv_bipush (v := 127) hx hb dP_writeCode_31 (by decide) ?_
      refine lv_icmp_ne (tgt := 91) hx hb dP_writeCode_33 (by decide) (fun hc => ?_) (fun hc => ?_)
      · rw [if_neg hc] at hf
        refine lv_aload_n hx hb dP_writeCode_91 rfl (lv_at hl 2 rfl) ?_
        refine lv_iload_n hx hb dP_writeCode_92 rfl (lv_at hl 1 rfl) ?_
        obtain ⟨o4, hq5, hf⟩ := xbind hf
        obtain ⟨hPc, hDc, hFc⟩ := xcut (wc := [(a0, .inr (1, [.ref a1, .int v1, .int v2])), (a1, .inl (cT 0, 4096, .inl f0))]) hP hD hS hA [0, 1] rfl rfl (by decide)
        refine va_callv (va_runV (C := "ValueBench$Text") (As := [.int x0]) (rest := []) ⟨hx, hb, hml, hown, htx⟩ (gT_add l hl9 D cT aK aV H.size n a0 a1 x0 f0 v1 v2 o4 hq5) ⟨callB_of 1 htx (xw_goodC kw_1_207) rfl rfl rfl (htx _ kw_1_2) (htx _ kw_3_51) ⟨by decide, by decide, by decide +kernel⟩ ⟨Nat.le_of_ble_eq_true rfl, Nat.le_of_ble_eq_true rfl⟩, (htx _ kw_1_205), (htx _ kw_1_206)⟩ ⟨xPre_blind, va_recv hK hP (ci := 1) rfl (q0 := 0) rfl, (fun U hU hW => ⟨rfl, xPre_of hZ hS hFc hPc hDc hK U hU hW⟩)⟩ rfl rfl hl.1 rfl (lv_room (Nat.le_of_ble_eq_true rfl)) dP_writeCode_93 ⟨Nat.le_of_ble_eq_true rfl, Nat.le_of_ble_eq_true rfl⟩) hS (fun q _ h => hFc q h) hFc (fun u9 t H1 locs ht hvm hr9 hB hz1 hk1 hS => ?_)
        obtain ⟨hP1, hK1, hD1⟩ := hB
        rw [ht] at hP1
        obtain ⟨hP, hD⟩ := xjoin (W := [(a0, .inr (1, [.ref a1, .int o4.2.1, .int o4.2.2])), (a1, .inl (cT 0, 4096, .inl o4.1))]) hP hD [0, 1] [] 0 rfl rfl (by decide) (by decide) hk1 hFc hP1 hD1
        generalize H1 = H at hP hS ⊢
        obtain rfl := Option.some.inj hf
        obtain ⟨hP9, hD9⟩ := xsub (wc := [(a0, .inr (1, [.ref a1, .int o4.2.1, .int o4.2.2])), (a1, .inl (cT 0, 4096, .inl o4.1))]) hP hD [0, 1] rfl rfl (by decide)
        exact W.vret hx hb hr (fun t ht hW => ⟨⟨(), rfl, trivial, by rw [ht]; exact hP9, va_K.moved hW.alike hK, hD9⟩, hS.F ht⟩) hS.2.2 dP_writeCode_96
      · rw [if_pos hc] at hf
        refine lv_aload_n hx hb dP_writeCode_36 rfl (lv_at hl 2 rfl) ?_
        refine lv_bipush (v := 92) hx hb dP_writeCode_37 (by decide) ?_
        obtain ⟨o4, hq5, hf⟩ := xbind hf
        obtain ⟨hPc, hDc, hFc⟩ := xcut (wc := [(a0, .inr (1, [.ref a1, .int v1, .int v2])), (a1, .inl (cT 0, 4096, .inl f0))]) hP hD hS hA [0, 1] rfl rfl (by decide)
        refine va_callv (va_runV (C := "ValueBench$Text") (As := [.int 92]) (rest := []) ⟨hx, hb, hml, hown, htx⟩ (gT_add l hl9 D cT aK aV H.size n a0 a1 (92 : Int32) f0 v1 v2 o4 hq5) ⟨callB_of 1 htx (xw_goodC kw_1_207) rfl rfl rfl (htx _ kw_1_2) (htx _ kw_3_51) ⟨by decide, by decide, by decide +kernel⟩ ⟨Nat.le_of_ble_eq_true rfl, Nat.le_of_ble_eq_true rfl⟩, (htx _ kw_1_205), (htx _ kw_1_206)⟩ ⟨xPre_blind, va_recv hK hP (ci := 1) rfl (q0 := 0) rfl, (fun U hU hW => ⟨rfl, xPre_of hZ hS hFc hPc hDc hK U hU hW⟩)⟩ rfl rfl hl.1 rfl (lv_room (Nat.le_of_ble_eq_true rfl)) dP_writeCode_39 ⟨Nat.le_of_ble_eq_true rfl, Nat.le_of_ble_eq_true rfl⟩) hS (fun q _ h => hFc q h) hFc (fun u9 t H1 locs ht hvm hr9 hB hz1 hk1 hS => ?_)
        obtain ⟨hP1, hK1, hD1⟩ := hB
        rw [ht] at hP1
        obtain ⟨hP, hD⟩ := xjoin (W := [(a0, .inr (1, [.ref a1, .int o4.2.1, .int o4.2.2])), (a1, .inl (cT 0, 4096, .inl o4.1))]) hP hD [0, 1] [] 0 rfl rfl (by decide) (by decide) hk1 hFc hP1 hD1
        generalize H1 = H at hP hS ⊢
        refine lv_aload_n hx hb dP_writeCode_42 rfl (lv_at hl 2 rfl) ?_
        refine lv_bipush (v := 117) hx hb dP_writeCode_43 (by decide) ?_
        obtain ⟨o6, hq7, hf⟩ := xbind hf
        obtain ⟨hPc, hDc, hFc⟩ := xcut (wc := [(a0, .inr (1, [.ref a1, .int o4.2.1, .int o4.2.2])), (a1, .inl (cT 0, 4096, .inl o4.1))]) hP hD hS hA [0, 1] rfl rfl (by decide)
        refine va_callv (va_runV (C := "ValueBench$Text") (As := [.int 117]) (rest := []) ⟨hx, hb, hml, hown, htx⟩ (gT_add l hl9 D cT aK aV H.size n a0 a1 (117 : Int32) o4.1 o4.2.1 o4.2.2 o6 hq7) ⟨callB_of 1 htx (xw_goodC kw_1_207) rfl rfl rfl (htx _ kw_1_2) (htx _ kw_3_51) ⟨by decide, by decide, by decide +kernel⟩ ⟨Nat.le_of_ble_eq_true rfl, Nat.le_of_ble_eq_true rfl⟩, (htx _ kw_1_205), (htx _ kw_1_206)⟩ ⟨xPre_blind, va_recv hK hP (ci := 1) rfl (q0 := 0) rfl, (fun U hU hW => ⟨rfl, xPre_of hZ hS hFc hPc hDc hK U hU hW⟩)⟩ rfl rfl hl.1 rfl (lv_room (Nat.le_of_ble_eq_true rfl)) dP_writeCode_45 ⟨Nat.le_of_ble_eq_true rfl, Nat.le_of_ble_eq_true rfl⟩) hS (fun q _ h => hFc q h) hFc (fun u9 t H1 locs ht hvm hr9 hB hz1 hk1 hS => ?_)
        obtain ⟨hP1, hK1, hD1⟩ := hB
        rw [ht] at hP1
        obtain ⟨hP, hD⟩ := xjoin (W := [(a0, .inr (1, [.ref a1, .int o6.2.1, .int o6.2.2])), (a1, .inl (cT 0, 4096, .inl o6.1))]) hP hD [0, 1] [] 0 rfl rfl (by decide) (by decide) hk1 hFc hP1 hD1
        generalize H1 = H at hP hS ⊢
        refine lv_aload_n hx hb dP_writeCode_48 rfl (lv_at hl 2 rfl) ?_
        refine lv_bipush (v := 48) hx hb dP_writeCode_49 (by decide) ?_
        obtain ⟨o8, hq9, hf⟩ := xbind hf
        obtain ⟨hPc, hDc, hFc⟩ := xcut (wc := [(a0, .inr (1, [.ref a1, .int o6.2.1, .int o6.2.2])), (a1, .inl (cT 0, 4096, .inl o6.1))]) hP hD hS hA [0, 1] rfl rfl (by decide)
        refine va_callv (va_runV (C := "ValueBench$Text") (As := [.int 48]) (rest := []) ⟨hx, hb, hml, hown, htx⟩ (gT_add l hl9 D cT aK aV H.size n a0 a1 (48 : Int32) o6.1 o6.2.1 o6.2.2 o8 hq9) ⟨callB_of 1 htx (xw_goodC kw_1_207) rfl rfl rfl (htx _ kw_1_2) (htx _ kw_3_51) ⟨by decide, by decide, by decide +kernel⟩ ⟨Nat.le_of_ble_eq_true rfl, Nat.le_of_ble_eq_true rfl⟩, (htx _ kw_1_205), (htx _ kw_1_206)⟩ ⟨xPre_blind, va_recv hK hP (ci := 1) rfl (q0 := 0) rfl, (fun U hU hW => ⟨rfl, xPre_of hZ hS hFc hPc hDc hK U hU hW⟩)⟩ rfl rfl hl.1 rfl (lv_room (Nat.le_of_ble_eq_true rfl)) dP_writeCode_51 ⟨Nat.le_of_ble_eq_true rfl, Nat.le_of_ble_eq_true rfl⟩) hS (fun q _ h => hFc q h) hFc (fun u9 t H1 locs ht hvm hr9 hB hz1 hk1 hS => ?_)
        obtain ⟨hP1, hK1, hD1⟩ := hB
        rw [ht] at hP1
        obtain ⟨hP, hD⟩ := xjoin (W := [(a0, .inr (1, [.ref a1, .int o8.2.1, .int o8.2.2])), (a1, .inl (cT 0, 4096, .inl o8.1))]) hP hD [0, 1] [] 0 rfl rfl (by decide) (by decide) hk1 hFc hP1 hD1
        generalize H1 = H at hP hS ⊢
        refine lv_aload_n hx hb dP_writeCode_54 rfl (lv_at hl 2 rfl) ?_
        refine lv_bipush (v := 48) hx hb dP_writeCode_55 (by decide) ?_
        obtain ⟨o10, hq11, hf⟩ := xbind hf
        obtain ⟨hPc, hDc, hFc⟩ := xcut (wc := [(a0, .inr (1, [.ref a1, .int o8.2.1, .int o8.2.2])), (a1, .inl (cT 0, 4096, .inl o8.1))]) hP hD hS hA [0, 1] rfl rfl (by decide)
        refine va_callv (va_runV (C := "ValueBench$Text") (As := [.int 48]) (rest := []) ⟨hx, hb, hml, hown, htx⟩ (gT_add l hl9 D cT aK aV H.size n a0 a1 (48 : Int32) o8.1 o8.2.1 o8.2.2 o10 hq11) ⟨callB_of 1 htx (xw_goodC kw_1_207) rfl rfl rfl (htx _ kw_1_2) (htx _ kw_3_51) ⟨by decide, by decide, by decide +kernel⟩ ⟨Nat.le_of_ble_eq_true rfl, Nat.le_of_ble_eq_true rfl⟩, (htx _ kw_1_205), (htx _ kw_1_206)⟩ ⟨xPre_blind, va_recv hK hP (ci := 1) rfl (q0 := 0) rfl, (fun U hU hW => ⟨rfl, xPre_of hZ hS hFc hPc hDc hK U hU hW⟩)⟩ rfl rfl hl.1 rfl (lv_room (Nat.le_of_ble_eq_true rfl)) dP_writeCode_57 ⟨Nat.le_of_ble_eq_true rfl, Nat.le_of_ble_eq_true rfl⟩) hS (fun q _ h => hFc q h) hFc (fun u9 t H1 locs ht hvm hr9 hB hz1 hk1 hS => ?_)
        obtain ⟨hP1, hK1, hD1⟩ := hB
        rw [ht] at hP1
        obtain ⟨hP, hD⟩ := xjoin (W := [(a0, .inr (1, [.ref a1, .int o10.2.1, .int o10.2.2])), (a1, .inl (cT 0, 4096, .inl o10.1))]) hP hD [0, 1] [] 0 rfl rfl (by decide) (by decide) hk1 hFc hP1 hD1
        generalize H1 = H at hP hS ⊢
        refine lv_aload_n hx hb dP_writeCode_60 rfl (lv_at hl 2 rfl) ?_
        refine va_ldcS (q := aK 13) hx hb hown (hZ.2.2.2.2.2.2.2.2.1 ("ValueBench$Printer", 76, "0123456789abcdef", 13) (List.mem_of_getElem? (i := 13) rfl)) dP_writeCode_61 ?_
        refine lv_iload_n hx hb dP_writeCode_63 rfl (lv_at hl 1 rfl) ?_
        refine lv_iconst (v := 4) hx hb dP_writeCode_64 (by decide) ?_
        refine lv_ishr hx hb dP_writeCode_65 ?_
        refine lv_bipush (v := 15) hx hb dP_writeCode_66 (by decide) ?_
        refine lv_iand hx hb dP_writeCode_68 ?_
        obtain ⟨o12, hq13, hf⟩ := xbind hf
        obtain ⟨hPc, hDc, hFc⟩ := xcut (wc := []) hP hD hS hA [] rfl rfl (by decide)
        refine va_calli (va_runV (C := "java/lang/String") (As := [.int ((x0 >>> ((4 : Int32) &&& 31)) &&& (15 : Int32))]) (rest := [.ref a0]) ⟨hx, hb, hml, hown, htx⟩ (gJS_charAt13 l hl9 D cT aK aV H.size n ((x0 >>> ((4 : Int32) &&& 31)) &&& (15 : Int32)) o12 hq13) ⟨callB_of 1 htx (xw_goodC kw_2_80) rfl rfl rfl (htx _ kw_1_6) (htx _ kw_3_64) ⟨by decide, by decide, by decide +kernel⟩ ⟨Nat.le_of_ble_eq_true rfl, Nat.le_of_ble_eq_true rfl⟩, (htx _ kw_2_78), (htx _ kw_2_79)⟩ ⟨xPre_blind, vk_recv hZ.2.2.2.2.2.2.2.2.2.1 (i := 13) (by decide) hS, (fun U hU hW => ⟨rfl, xPre_of hZ hS hFc hPc hDc hK U hU hW⟩)⟩ rfl rfl hl.1 rfl (lv_room (Nat.le_of_ble_eq_true rfl)) dP_writeCode_69 ⟨Nat.le_of_ble_eq_true rfl, Nat.le_of_ble_eq_true rfl⟩) hS (fun q _ h => hFc q h) hFc (fun r14 u9 t H1 locs ht hvm hr9 hB hz1 hk1 hS => ?_)
        obtain ⟨hP1, hK1, hD1⟩ := hB
        rw [ht] at hP1
        obtain ⟨hP, hD⟩ := xjoin (W := [(a0, .inr (1, [.ref a1, .int o10.2.1, .int o10.2.2])), (a1, .inl (cT 0, 4096, .inl o10.1))]) hP hD [] [0, 1] 2 rfl rfl (by decide) (by decide) hk1 hFc hP1 hD1
        generalize H1 = H at hP hS ⊢
        rw [hr9]
        refine W.eq (g2 := F0 m 72 ls [.int o12, .ref a0]) rfl ?_
        obtain ⟨o15, hq16, hf⟩ := xbind hf
        obtain ⟨hPc, hDc, hFc⟩ := xcut (wc := [(a0, .inr (1, [.ref a1, .int o10.2.1, .int o10.2.2])), (a1, .inl (cT 0, 4096, .inl o10.1))]) hP hD hS hA [0, 1] rfl rfl (by decide)
        refine va_callv (va_runV (C := "ValueBench$Text") (As := [.int o12]) (rest := []) ⟨hx, hb, hml, hown, htx⟩ (gT_add l hl9 D cT aK aV H.size n a0 a1 o12 o10.1 o10.2.1 o10.2.2 o15 hq16) ⟨callB_of 1 htx (xw_goodC kw_1_207) rfl rfl rfl (htx _ kw_1_2) (htx _ kw_3_51) ⟨by decide, by decide, by decide +kernel⟩ ⟨Nat.le_of_ble_eq_true rfl, Nat.le_of_ble_eq_true rfl⟩, (htx _ kw_1_205), (htx _ kw_1_206)⟩ ⟨xPre_blind, va_recv hK hP (ci := 1) rfl (q0 := 0) rfl, (fun U hU hW => ⟨rfl, xPre_of hZ hS hFc hPc hDc hK U hU hW⟩)⟩ rfl rfl hl.1 rfl (lv_room (Nat.le_of_ble_eq_true rfl)) dP_writeCode_72 ⟨Nat.le_of_ble_eq_true rfl, Nat.le_of_ble_eq_true rfl⟩) hS (fun q _ h => hFc q h) hFc (fun u9 t H1 locs ht hvm hr9 hB hz1 hk1 hS => ?_)
        obtain ⟨hP1, hK1, hD1⟩ := hB
        rw [ht] at hP1
        obtain ⟨hP, hD⟩ := xjoin (W := [(a0, .inr (1, [.ref a1, .int o15.2.1, .int o15.2.2])), (a1, .inl (cT 0, 4096, .inl o15.1))]) hP hD [0, 1] [] 0 rfl rfl (by decide) (by decide) hk1 hFc hP1 hD1
        generalize H1 = H at hP hS ⊢
        refine lv_aload_n hx hb dP_writeCode_75 rfl (lv_at hl 2 rfl) ?_
        refine va_ldcS (q := aK 13) hx hb hown (hZ.2.2.2.2.2.2.2.2.1 ("ValueBench$Printer", 76, "0123456789abcdef", 13) (List.mem_of_getElem? (i := 13) rfl)) dP_writeCode_76 ?_
        refine lv_iload_n hx hb dP_writeCode_78 rfl (lv_at hl 1 rfl) ?_
        refine lv_bipush (v := 15) hx hb dP_writeCode_79 (by decide) ?_
        refine lv_iand hx hb dP_writeCode_81 ?_
        obtain ⟨o17, hq18, hf⟩ := xbind hf
        obtain ⟨hPc, hDc, hFc⟩ := xcut (wc := []) hP hD hS hA [] rfl rfl (by decide)
        refine va_calli (va_runV (C := "java/lang/String") (As := [.int (x0 &&& (15 : Int32))]) (rest := [.ref a0]) ⟨hx, hb, hml, hown, htx⟩ (gJS_charAt13 l hl9 D cT aK aV H.size n (x0 &&& (15 : Int32)) o17 hq18) ⟨callB_of 1 htx (xw_goodC kw_2_80) rfl rfl rfl (htx _ kw_1_6) (htx _ kw_3_64) ⟨by decide, by decide, by decide +kernel⟩ ⟨Nat.le_of_ble_eq_true rfl, Nat.le_of_ble_eq_true rfl⟩, (htx _ kw_2_78), (htx _ kw_2_79)⟩ ⟨xPre_blind, vk_recv hZ.2.2.2.2.2.2.2.2.2.1 (i := 13) (by decide) hS, (fun U hU hW => ⟨rfl, xPre_of hZ hS hFc hPc hDc hK U hU hW⟩)⟩ rfl rfl hl.1 rfl (lv_room (Nat.le_of_ble_eq_true rfl)) dP_writeCode_82 ⟨Nat.le_of_ble_eq_true rfl, Nat.le_of_ble_eq_true rfl⟩) hS (fun q _ h => hFc q h) hFc (fun r19 u9 t H1 locs ht hvm hr9 hB hz1 hk1 hS => ?_)
        obtain ⟨hP1, hK1, hD1⟩ := hB
        rw [ht] at hP1
        obtain ⟨hP, hD⟩ := xjoin (W := [(a0, .inr (1, [.ref a1, .int o15.2.1, .int o15.2.2])), (a1, .inl (cT 0, 4096, .inl o15.1))]) hP hD [] [0, 1] 2 rfl rfl (by decide) (by decide) hk1 hFc hP1 hD1
        generalize H1 = H at hP hS ⊢
        rw [hr9]
        refine W.eq (g2 := F0 m 85 ls [.int o17, .ref a0]) rfl ?_
        obtain ⟨o20, hq21, hf⟩ := xbind hf
        obtain ⟨hPc, hDc, hFc⟩ := xcut (wc := [(a0, .inr (1, [.ref a1, .int o15.2.1, .int o15.2.2])), (a1, .inl (cT 0, 4096, .inl o15.1))]) hP hD hS hA [0, 1] rfl rfl (by decide)
        refine va_callv (va_runV (C := "ValueBench$Text") (As := [.int o17]) (rest := []) ⟨hx, hb, hml, hown, htx⟩ (gT_add l hl9 D cT aK aV H.size n a0 a1 o17 o15.1 o15.2.1 o15.2.2 o20 hq21) ⟨callB_of 1 htx (xw_goodC kw_1_207) rfl rfl rfl (htx _ kw_1_2) (htx _ kw_3_51) ⟨by decide, by decide, by decide +kernel⟩ ⟨Nat.le_of_ble_eq_true rfl, Nat.le_of_ble_eq_true rfl⟩, (htx _ kw_1_205), (htx _ kw_1_206)⟩ ⟨xPre_blind, va_recv hK hP (ci := 1) rfl (q0 := 0) rfl, (fun U hU hW => ⟨rfl, xPre_of hZ hS hFc hPc hDc hK U hU hW⟩)⟩ rfl rfl hl.1 rfl (lv_room (Nat.le_of_ble_eq_true rfl)) dP_writeCode_85 ⟨Nat.le_of_ble_eq_true rfl, Nat.le_of_ble_eq_true rfl⟩) hS (fun q _ h => hFc q h) hFc (fun u9 t H1 locs ht hvm hr9 hB hz1 hk1 hS => ?_)
        obtain ⟨hP1, hK1, hD1⟩ := hB
        rw [ht] at hP1
        obtain ⟨hP, hD⟩ := xjoin (W := [(a0, .inr (1, [.ref a1, .int o20.2.1, .int o20.2.2])), (a1, .inl (cT 0, 4096, .inl o20.1))]) hP hD [0, 1] [] 0 rfl rfl (by decide) (by decide) hk1 hFc hP1 hD1
        generalize H1 = H at hP hS ⊢
        refine lv_goto (tgt := 96) hx hb dP_writeCode_88 (by decide) ?_
        obtain rfl := Option.some.inj hf
        obtain ⟨hP9, hD9⟩ := xsub (wc := [(a0, .inr (1, [.ref a1, .int o20.2.1, .int o20.2.2])), (a1, .inl (cT 0, 4096, .inl o20.1))]) hP hD [0, 1] rfl rfl (by decide)
        exact W.vret hx hb hr (fun t ht hW => ⟨⟨(), rfl, trivial, by rw [ht]; exact hP9, va_K.moved hW.alike hK, hD9⟩, hS.F ht⟩) hS.2.2 dP_writeCode_96
  · rw [if_neg hc] at hf
    refine lv_aload_n hx hb dP_writeCode_10 rfl (lv_at hl 2 rfl) ?_
    refine lv_bipush (v := 92) hx hb dP_writeCode_11 (by decide) ?_
    obtain ⟨o4, hq5, hf⟩ := xbind hf
    obtain ⟨hPc, hDc, hFc⟩ := xcut (wc := [(a0, .inr (1, [.ref a1, .int v1, .int v2])), (a1, .inl (cT 0, 4096, .inl f0))]) hP hD hS hA [0, 1] rfl rfl (by decide)
    refine va_callv (va_runV (C := "ValueBench$Text") (As := [.int 92]) (rest := []) ⟨hx, hb, hml, hown, htx⟩ (gT_add l hl9 D cT aK aV H.size n a0 a1 (92 : Int32) f0 v1 v2 o4 hq5) ⟨callB_of 1 htx (xw_goodC kw_1_207) rfl rfl rfl (htx _ kw_1_2) (htx _ kw_3_51) ⟨by decide, by decide, by decide +kernel⟩ ⟨Nat.le_of_ble_eq_true rfl, Nat.le_of_ble_eq_true rfl⟩, (htx _ kw_1_205), (htx _ kw_1_206)⟩ ⟨xPre_blind, va_recv hK hP (ci := 1) rfl (q0 := 0) rfl, (fun U hU hW => ⟨rfl, xPre_of hZ hS hFc hPc hDc hK U hU hW⟩)⟩ rfl rfl hl.1 rfl (lv_room (Nat.le_of_ble_eq_true rfl)) dP_writeCode_13 ⟨Nat.le_of_ble_eq_true rfl, Nat.le_of_ble_eq_true rfl⟩) hS (fun q _ h => hFc q h) hFc (fun u9 t H1 locs ht hvm hr9 hB hz1 hk1 hS => ?_)
    obtain ⟨hP1, hK1, hD1⟩ := hB
    rw [ht] at hP1
    obtain ⟨hP, hD⟩ := xjoin (W := [(a0, .inr (1, [.ref a1, .int o4.2.1, .int o4.2.2])), (a1, .inl (cT 0, 4096, .inl o4.1))]) hP hD [0, 1] [] 0 rfl rfl (by decide) (by decide) hk1 hFc hP1 hD1
    generalize H1 = H at hP hS ⊢
    refine lv_aload_n hx hb dP_writeCode_16 rfl (lv_at hl 2 rfl) ?_
    refine lv_iload_n hx hb dP_writeCode_17 rfl (lv_at hl 0 rfl) ?_
    obtain ⟨o6, hq7, hf⟩ := xbind hf
    obtain ⟨hPc, hDc, hFc⟩ := xcut (wc := [(a0, .inr (1, [.ref a1, .int o4.2.1, .int o4.2.2])), (a1, .inl (cT 0, 4096, .inl o4.1))]) hP hD hS hA [0, 1] rfl rfl (by decide)
    refine va_callv (va_runV (C := "ValueBench$Text") (As := [.int o1]) (rest := []) ⟨hx, hb, hml, hown, htx⟩ (gT_add l hl9 D cT aK aV H.size n a0 a1 o1 o4.1 o4.2.1 o4.2.2 o6 hq7) ⟨callB_of 1 htx (xw_goodC kw_1_207) rfl rfl rfl (htx _ kw_1_2) (htx _ kw_3_51) ⟨by decide, by decide, by decide +kernel⟩ ⟨Nat.le_of_ble_eq_true rfl, Nat.le_of_ble_eq_true rfl⟩, (htx _ kw_1_205), (htx _ kw_1_206)⟩ ⟨xPre_blind, va_recv hK hP (ci := 1) rfl (q0 := 0) rfl, (fun U hU hW => ⟨rfl, xPre_of hZ hS hFc hPc hDc hK U hU hW⟩)⟩ rfl rfl hl.1 rfl (lv_room (Nat.le_of_ble_eq_true rfl)) dP_writeCode_18 ⟨Nat.le_of_ble_eq_true rfl, Nat.le_of_ble_eq_true rfl⟩) hS (fun q _ h => hFc q h) hFc (fun u9 t H1 locs ht hvm hr9 hB hz1 hk1 hS => ?_)
    obtain ⟨hP1, hK1, hD1⟩ := hB
    rw [ht] at hP1
    obtain ⟨hP, hD⟩ := xjoin (W := [(a0, .inr (1, [.ref a1, .int o6.2.1, .int o6.2.2])), (a1, .inl (cT 0, 4096, .inl o6.1))]) hP hD [0, 1] [] 0 rfl rfl (by decide) (by decide) hk1 hFc hP1 hD1
    generalize H1 = H at hP hS ⊢
    refine lv_goto (tgt := 96) hx hb dP_writeCode_21 (by decide) ?_
    obtain rfl := Option.some.inj hf
    obtain ⟨hP9, hD9⟩ := xsub (wc := [(a0, .inr (1, [.ref a1, .int o6.2.1, .int o6.2.2])), (a1, .inl (cT 0, 4096, .inl o6.1))]) hP hD [0, 1] rfl rfl (by decide)
    exact W.vret hx hb hr (fun t ht hW => ⟨⟨(), rfl, trivial, by rw [ht]; exact hP9, va_K.moved hW.alike hK, hD9⟩, hS.F ht⟩) hS.2.2 dP_writeCode_96
set_option maxHeartbeats 400000000 in
set_option maxRecDepth 100000 in
theorem gP_writeString (l : Launch) (hl9 : l.stackTraces = false) (D : va_G) (cT : Nat → ClassId) (aK aV : Nat → Nat) (sz n : Nat) (a0 : Nat) (a1 : Nat) (a2 : Nat) (a3 : Nat) (x1 : Int32) (f0 : Nat → Int64) (v1 : Int32) (v2 : Int32) (f3 : Nat → Int32) (v4 : Int32) (v5 : Int32) (out : (Nat → Int32) × Int32 × Int32) (hf : fP_writeString n x1 f0 v1 v2 f3 v4 v5 = some out) : xMet l yP_writeString wyP_writeString 5 0 0 107 D cT aK aV sz [.ref a0, .int x1, .ref a2] [(a0, .inr (2, [.ref a1, .int v1, .int v2])), (a1, .inl (cT 2, 4096, .inr (.inl f0))), (a2, .inr (1, [.ref a3, .int v4, .int v5])), (a3, .inl (cT 0, 4096, .inl f3))] (fun A => va_Qv (fun _ : Unit => True) (fun _ t => xB D xcl cT A [(a0, .inr (2, [.ref a1, .int v1, .int v2])), (a1, .inl (cT 2, 4096, .inr (.inl f0))), (a2, .inr (1, [.ref a3, .int out.2.1, .int out.2.2])), (a3, .inl (cT 0, 4096, .inl out.1))] t) A) := by
  refine Met.ofW (cc := prog_6_method_4_code) (maxL := 4) (ret := none) (by decide) rfl ?_
  intro p e s m args below meth c s₁ B hml hv
  obtain ⟨rfl, hsz, hZ, hP, hK, hD0⟩ := hv
  have hx := B.exec
  have hb := B.bytes
  have hr := B.returns
  have hts := atoms_spec (ws := wyP_writeString) B.pre
  have htx := fun w h => hts w (List.mem_cons_of_mem _ h)
  have hown : s.vm.findClass "ValueBench$Printer" = some m.cls := findClass_of_methodNamed B.named
  have hlocks := B.notSynchronized
  subst hsz
  have hD := hD0.self (sz := s.heap.size)
  generalize hAe : va_A [(a0, .inr (2, [.ref a1, .int v1, .int v2])), (a1, .inl (cT 2, 4096, .inr (.inl f0))), (a2, .inr (1, [.ref a3, .int v4, .int v5])), (a3, .inl (cT 0, 4096, .inl f3))] s.heap.size = A at hD hZ ⊢
  have hA : ∀ q : Nat, s.heap.size ≤ q → A q := fun q h => by rw [← hAe]; exact Or.inr h
  have hS : va_S A s.heap s.heap [] := va_S.rf
  have hP : va_P D xcl [(a0, .inr (2, [.ref a1, .int v1, .int v2])), (a1, .inl (cT 2, 4096, .inr (.inl f0))), (a2, .inr (1, [.ref a3, .int v4, .int v5])), (a3, .inl (cT 0, 4096, .inl f3))] s.heap := hP
  have hl := lv_entry ([.ref a0, .int x1, .ref a2]) (n := 4) (Nat.le_of_ble_eq_true rfl)
  rw [lg_entry_eq]
  generalize (lg_sl ([.ref a0, .int x1, .ref a2]) ++ List.replicate (4 - (lg_sl ([.ref a0, .int x1, .ref a2])).length) Slot.unset).toArray = ls at hl ⊢
  have hl : lv_has ls 4 [(0, .ref a0), (1, .int x1), (2, .ref a2)] := hl
  unfold fP_writeString at hf
  refine xloopK (σ := Nat × Int32 × Int32 × (Nat → Int32) × Int32 × Int32) (fun n x H locs ls => (x.1 = 1 ∧ fP_writeString_b f0 v1 v2 n x.1 x.2.1 x.2.2.1 x.2.2.2.1 x.2.2.2.2.1 x.2.2.2.2.2 = some out ∧ va_P D xcl [(a0, .inr (2, [.ref a1, .int v1, .int v2])), (a1, .inl (cT 2, 4096, .inr (.inl f0))), (a2, .inr (1, [.ref a3, .int x.2.2.2.2.1, .int x.2.2.2.2.2])), (a3, .inl (cT 0, 4096, .inl x.2.2.2.1))] H ∧ va_D A [(a0, .inr (2, [.ref a1, .int v1, .int v2])), (a1, .inl (cT 2, 4096, .inr (.inl f0))), (a2, .inr (1, [.ref a3, .int x.2.2.2.2.1, .int x.2.2.2.2.2])), (a3, .inl (cT 0, 4096, .inl x.2.2.2.1))] ∧ va_S A s.heap H locs ∧ lv_has ls 4 [(3, .int x.2.1), (0, .ref a0), (1, .int x.2.2.1), (2, .ref a2)])) (fun x => 8) (fun x H locs ls h => by exact absurd h.2.1 (by rw [fP_writeString_b]; exact fun h => nomatch h)) (fun n ih x H locs ls hv => ?_) (fun key => ?_)
  · obtain ⟨lb, y3, y1, w0, w1, w2⟩ := x
    rcases hv with ⟨hj, hf, hP, hD, hS, hl⟩
    subst hj
    have hf : fP_writeString_b f0 v1 v2 (n + 1) 1 y3 y1 w0 w1 w2 = some out := hf
    rw [fP_writeString_b] at hf
    obtain ⟨hP, hD⟩ : xPD D xcl A [(a0, .inr (2, [.ref a1, .int v1, .int v2])), (a1, .inl (cT 2, 4096, .inr (.inl f0))), (a2, .inr (1, [.ref a3, .int w1, .int w2])), (a3, .inl (cT 0, 4096, .inl w0))] H := ⟨hP, hD⟩
    have hl : lv_has ls 4 [(3, .int y3), (0, .ref a0), (1, .int y1), (2, .ref a2)] := hl
    refine W.eq (g2 := F0 m 8 ls []) rfl ?_
    refine lv_iload_n hx hb dP_writeString_8 rfl (lv_at hl 0 rfl) ?_
    refine lv_aload_n hx hb dP_writeString_9 rfl (lv_at hl 1 rfl) ?_
    refine lv_iload_n hx hb dP_writeString_10 rfl (lv_at hl 2 rfl) ?_
    obtain ⟨o1, hq2, hf⟩ := xbind hf
    obtain ⟨hPc, hDc, hFc⟩ := xcut (wc := [(a0, .inr (2, [.ref a1, .int v1, .int v2])), (a1, .inl (cT 2, 4096, .inr (.inl f0)))]) hP hD hS hA [0, 1] rfl rfl (by decide)
    refine va_calli (va_runV (C := "ValueBench$Row") (As := [.int y1]) (rest := [.int y3]) ⟨hx, hb, hml, hown, htx⟩ (gR_length l hl9 D cT aK aV H.size n a0 a1 y1 f0 v1 v2 o1 hq2) ⟨callB_of 1 htx (xw_goodC kw_2_191) rfl rfl rfl (htx _ kw_1_4) (htx _ kw_3_52) ⟨by decide, by decide, by decide +kernel⟩ ⟨Nat.le_of_ble_eq_true rfl, Nat.le_of_ble_eq_true rfl⟩, (htx _ kw_2_189), (htx _ kw_2_190)⟩ ⟨xPre_blind, va_recv hK hP (ci := 2) rfl (q0 := 0) rfl, (fun U hU hW => ⟨rfl, xPre_of hZ hS hFc hPc hDc hK U hU hW⟩)⟩ rfl rfl hl.1 rfl (lv_room (Nat.le_of_ble_eq_true rfl)) dP_writeString_11 ⟨Nat.le_of_ble_eq_true rfl, Nat.le_of_ble_eq_true rfl⟩) hS (fun q _ h => hFc q h) hFc (fun r3 u9 t H1 locs ht hvm hr9 hB hz1 hk1 hS => ?_)
    obtain ⟨hP1, hK1, hD1⟩ := hB
    rw [ht] at hP1
    obtain ⟨hP, hD⟩ := xjoin (W := [(a2, .inr (1, [.ref a3, .int w1, .int w2])), (a3, .inl (cT 0, 4096, .inl w0)), (a0, .inr (2, [.ref a1, .int v1, .int v2])), (a1, .inl (cT 2, 4096, .inr (.inl f0)))]) hP hD [0, 1] [2, 3] 2 rfl rfl (by decide) (by decide) hk1 hFc hP1 hD1
    generalize H1 = H at hP hS ⊢
    rw [hr9]
    refine W.eq (g2 := F0 m 14 ls [.int o1, .int y3]) rfl ?_
    refine lv_icmp_ge (tgt := 33) hx hb dP_writeString_14 (by decide) (fun hc => ?_) (fun hc => ?_)
    · rw [if_pos hc] at hf
      refine lv_aload_n hx hb dP_writeString_33 rfl (lv_at hl 3 rfl) ?_
      refine lv_bipush (v := 34) hx hb dP_writeString_34 (by decide) ?_
      obtain ⟨o4, hq5, hf⟩ := xbind hf
      obtain ⟨hPc, hDc, hFc⟩ := xcut (wc := [(a2, .inr (1, [.ref a3, .int w1, .int w2])), (a3, .inl (cT 0, 4096, .inl w0))]) hP hD hS hA [0, 1] rfl rfl (by decide)
      refine va_callv (va_runV (C := "ValueBench$Text") (As := [.int 34]) (rest := []) ⟨hx, hb, hml, hown, htx⟩ (gT_add l hl9 D cT aK aV H.size n a2 a3 (34 : Int32) w0 w1 w2 o4 hq5) ⟨callB_of 1 htx (xw_goodC kw_1_207) rfl rfl rfl (htx _ kw_1_2) (htx _ kw_3_51) ⟨by decide, by decide, by decide +kernel⟩ ⟨Nat.le_of_ble_eq_true rfl, Nat.le_of_ble_eq_true rfl⟩, (htx _ kw_1_205), (htx _ kw_1_206)⟩ ⟨xPre_blind, va_recv hK hP (ci := 1) rfl (q0 := 0) rfl, (fun U hU hW => ⟨rfl, xPre_of hZ hS hFc hPc hDc hK U hU hW⟩)⟩ rfl rfl hl.1 rfl (lv_room (Nat.le_of_ble_eq_true rfl)) dP_writeString_36 ⟨Nat.le_of_ble_eq_true rfl, Nat.le_of_ble_eq_true rfl⟩) hS (fun q _ h => hFc q h) hFc (fun u9 t H1 locs ht hvm hr9 hB hz1 hk1 hS => ?_)
      obtain ⟨hP1, hK1, hD1⟩ := hB
      rw [ht] at hP1
      obtain ⟨hP, hD⟩ := xjoin (W := [(a0, .inr (2, [.ref a1, .int v1, .int v2])), (a1, .inl (cT 2, 4096, .inr (.inl f0))), (a2, .inr (1, [.ref a3, .int o4.2.1, .int o4.2.2])), (a3, .inl (cT 0, 4096, .inl o4.1))]) hP hD [0, 1] [2, 3] 2 rfl rfl (by decide) (by decide) hk1 hFc hP1 hD1
      generalize H1 = H at hP hS ⊢
      obtain rfl := Option.some.inj hf
      obtain ⟨hP9, hD9⟩ := xsub (wc := [(a0, .inr (2, [.ref a1, .int v1, .int v2])), (a1, .inl (cT 2, 4096, .inr (.inl f0))), (a2, .inr (1, [.ref a3, .int o4.2.1, .int o4.2.2])), (a3, .inl (cT 0, 4096, .inl o4.1))]) hP hD [0, 1, 2, 3] rfl rfl (by decide)
      exact W.vret hx hb hr (fun t ht hW => ⟨⟨(), rfl, trivial, by rw [ht]; exact hP9, va_K.moved hW.alike hK, hD9⟩, hS.F ht⟩) hS.2.2 dP_writeString_39
    · rw [if_neg hc] at hf
      refine lv_aload_n hx hb dP_writeString_17 rfl (lv_at hl 1 rfl) ?_
      refine lv_iload_n hx hb dP_writeString_18 rfl (lv_at hl 2 rfl) ?_
      refine lv_iload_n hx hb dP_writeString_19 rfl (lv_at hl 0 rfl) ?_
      obtain ⟨o4, hq5, hf⟩ := xbind hf
      obtain ⟨hPc, hDc, hFc⟩ := xcut (wc := [(a0, .inr (2, [.ref a1, .int v1, .int v2])), (a1, .inl (cT 2, 4096, .inr (.inl f0)))]) hP hD hS hA [2, 3] rfl rfl (by decide)
      refine va_calli (va_runV (C := "ValueBench$Row") (As := [.int y1, .int y3]) (rest := []) ⟨hx, hb, hml, hown, htx⟩ (gR_code l hl9 D cT aK aV H.size n a0 a1 y1 y3 f0 v1 v2 o4 hq5) ⟨callB_of 2 htx (xw_goodC kw_3_56) rfl rfl rfl (htx _ kw_1_4) (htx _ kw_3_53) ⟨by decide, by decide, by decide +kernel⟩ ⟨Nat.le_of_ble_eq_true rfl, Nat.le_of_ble_eq_true rfl⟩, (htx _ kw_3_54), (htx _ kw_3_55)⟩ ⟨xPre_blind, va_recv hK hP (ci := 2) rfl (q0 := 2) rfl, (fun U hU hW => ⟨rfl, xPre_of hZ hS hFc hPc hDc hK U hU hW⟩)⟩ rfl rfl hl.1 rfl (lv_room (Nat.le_of_ble_eq_true rfl)) dP_writeString_20 ⟨Nat.le_of_ble_eq_true rfl, Nat.le_of_ble_eq_true rfl⟩) hS (fun q _ h => hFc q h) hFc (fun r6 u9 t H1 locs ht hvm hr9 hB hz1 hk1 hS => ?_)
      obtain ⟨hP1, hK1, hD1⟩ := hB
      rw [ht] at hP1
      obtain ⟨hP, hD⟩ := xjoin (W := [(a2, .inr (1, [.ref a3, .int w1, .int w2])), (a3, .inl (cT 0, 4096, .inl w0)), (a0, .inr (2, [.ref a1, .int v1, .int v2])), (a1, .inl (cT 2, 4096, .inr (.inl f0)))]) hP hD [2, 3] [0, 1] 2 rfl rfl (by decide) (by decide) hk1 hFc hP1 hD1
      generalize H1 = H at hP hS ⊢
      rw [hr9]
      refine W.eq (g2 := F0 m 23 ls [.int o4]) rfl ?_
      refine lv_aload_n hx hb dP_writeString_23 rfl (lv_at hl 3 rfl) ?_
      obtain ⟨o7, hq8, hf⟩ := xbind hf
      obtain ⟨hPc, hDc, hFc⟩ := xcut (wc := [(a2, .inr (1, [.ref a3, .int w1, .int w2])), (a3, .inl (cT 0, 4096, .inl w0))]) hP hD hS hA [0, 1] rfl rfl (by decide)
      refine va_callv (va_runS (As := [.int o4, .ref a2]) (rest := []) ⟨hx, hb, hml, hown, htx⟩ (gP_writeCode l hl9 D cT aK aV H.size n a2 a3 o4 w0 w1 w2 o7 hq8) ⟨callB_of 2 htx (xw_goodC kw_3_59) rfl rfl rfl (htx _ kw_1_18) (htx _ kw_3_57) ⟨by decide, by decide, by decide +kernel⟩ ⟨Nat.le_of_ble_eq_true rfl, Nat.le_of_ble_eq_true rfl⟩, htx _ kw_3_58⟩ ⟨xPre_blind, (fun U hU hW => ⟨rfl, xPre_of hZ hS hFc hPc hDc hK U hU hW⟩)⟩ rfl rfl hl.1 rfl (lv_room (Nat.le_of_ble_eq_true rfl)) dP_writeString_24 ⟨Nat.le_of_ble_eq_true rfl, Nat.le_of_ble_eq_true rfl⟩) hS (fun q _ h => hFc q h) hFc (fun u9 t H1 locs ht hvm hr9 hB hz1 hk1 hS => ?_)
      obtain ⟨hP1, hK1, hD1⟩ := hB
      rw [ht] at hP1
      obtain ⟨hP, hD⟩ := xjoin (W := [(a0, .inr (2, [.ref a1, .int v1, .int v2])), (a1, .inl (cT 2, 4096, .inr (.inl f0))), (a2, .inr (1, [.ref a3, .int o7.2.1, .int o7.2.2])), (a3, .inl (cT 0, 4096, .inl o7.1))]) hP hD [0, 1] [2, 3] 2 rfl rfl (by decide) (by decide) hk1 hFc hP1 hD1
      generalize H1 = H at hP hS ⊢
      refine lv_iinc (v := (y3 + 1)) (lv' := [(3, .int (y3 + 1)), (0, .ref a0), (1, .int y1), (2, .ref a2)]) hx hb dP_writeString_27 hl (k := 0) rfl rfl (by decide) rfl (fun ls hl => ?_)
      refine lv_goto (tgt := 8) hx hb dP_writeString_30 (by decide) ?_
      obtain ⟨hP9, hD9⟩ := xsub (wc := [(a0, .inr (2, [.ref a1, .int v1, .int v2])), (a1, .inl (cT 2, 4096, .inr (.inl f0))), (a2, .inr (1, [.ref a3, .int o7.2.1, .int o7.2.2])), (a3, .inl (cT 0, 4096, .inl o7.1))]) hP hD [0, 1, 2, 3] rfl rfl (by decide)
      exact ih (1, (y3 + 1), y1, o7.1, o7.2.1, o7.2.2) _ _ ls (⟨rfl, hf, hP9, hD9, hS, lv_sub hl [0, 1, 2, 3] rfl⟩)
  refine lv_aload_n hx hb dP_writeString_0 rfl (lv_at hl 2 rfl) ?_
  refine lv_bipush (v := 34) hx hb dP_writeString_1 (by decide) ?_
  obtain ⟨o1, hq2, hf⟩ := xbind hf
  obtain ⟨hPc, hDc, hFc⟩ := xcut (wc := [(a2, .inr (1, [.ref a3, .int v4, .int v5])), (a3, .inl (cT 0, 4096, .inl f3))]) hP hD hS hA [2, 3] rfl rfl (by decide)
  refine va_callv (va_runV (C := "ValueBench$Text") (As := [.int 34]) (rest := []) ⟨hx, hb, hml, hown, htx⟩ (gT_add l hl9 D cT aK aV s.heap.size n a2 a3 (34 : Int32) f3 v4 v5 o1 hq2) ⟨callB_of 1 htx (xw_goodC kw_1_207) rfl rfl rfl (htx _ kw_1_2) (htx _ kw_3_51) ⟨by decide, by decide, by decide +kernel⟩ ⟨Nat.le_of_ble_eq_true rfl, Nat.le_of_ble_eq_true rfl⟩, (htx _ kw_1_205), (htx _ kw_1_206)⟩ ⟨xPre_blind, va_recv hK hP (ci := 1) rfl (q0 := 2) rfl, (fun U hU hW => ⟨rfl, xPre_of hZ hS hFc hPc hDc hK U hU hW⟩)⟩ rfl rfl hl.1 rfl (lv_room (Nat.le_of_ble_eq_true rfl)) dP_writeString_3 ⟨Nat.le_of_ble_eq_true rfl, Nat.le_of_ble_eq_true rfl⟩) hS (fun q _ h => hFc q h) hFc (fun u9 t H1 locs ht hvm hr9 hB hz1 hk1 hS => ?_)
  obtain ⟨hP1, hK1, hD1⟩ := hB
  rw [ht] at hP1
  obtain ⟨hP, hD⟩ := xjoin (W := [(a0, .inr (2, [.ref a1, .int v1, .int v2])), (a1, .inl (cT 2, 4096, .inr (.inl f0))), (a2, .inr (1, [.ref a3, .int o1.2.1, .int o1.2.2])), (a3, .inl (cT 0, 4096, .inl o1.1))]) hP hD [2, 3] [0, 1] 2 rfl rfl (by decide) (by decide) hk1 hFc hP1 hD1
  generalize H1 = H at hP hS ⊢
  refine lv_iconst (v := 0) hx hb dP_writeString_6 (by decide) ?_
  refine lv_istore_n (lv' := [(3, .int 0), (0, .ref a0), (1, .int x1), (2, .ref a2)]) hx hb dP_writeString_7 rfl hl (by decide) rfl (fun ls hl => ?_)
  obtain ⟨hP9, hD9⟩ := xsub (wc := [(a0, .inr (2, [.ref a1, .int v1, .int v2])), (a1, .inl (cT 2, 4096, .inr (.inl f0))), (a2, .inr (1, [.ref a3, .int o1.2.1, .int o1.2.2])), (a3, .inl (cT 0, 4096, .inl o1.1))]) hP hD [0, 1, 2, 3] rfl rfl (by decide)
  exact key n (1, 0, x1, o1.1, o1.2.1, o1.2.2) _ _ ls (⟨rfl, hf, hP9, hD9, hS, lv_sub hl [0, 1, 2, 3] rfl⟩)
set_option maxHeartbeats 400000000 in
set_option maxRecDepth 100000 in
theorem gP_writeList (l : Launch) (hl9 : l.stackTraces = false) (D : va_G) (cT : Nat → ClassId) (aK aV : Nat → Nat) (fr lo : Nat) (rec : Int32 → Int32 → (Nat → Int64) → Int32 → Int32 → (Nat → Int32) → Int32 → Int32 → Option ((Nat → Int32) × Int32 × Int32)) (hrec : ∀ (sz : Nat) (a0 : Nat) (a1 : Nat) (a2 : Nat) (a3 : Nat) (x1 : Int32) (x3 : Int32) (f0 : Nat → Int64) (v1 : Int32) (v2 : Int32) (f3 : Nat → Int32) (v4 : Int32) (v5 : Int32) (out : (Nat → Int32) × Int32 × Int32), rec x1 x3 f0 v1 v2 f3 v4 v5 = some out → xMet l yP_write wyP_write fr 0 0 lo D cT aK aV sz [.ref a0, .int x1, .ref a2, .int x3] [(a0, .inr (2, [.ref a1, .int v1, .int v2])), (a1, .inl (cT 2, 4096, .inr (.inl f0))), (a2, .inr (1, [.ref a3, .int v4, .int v5])), (a3, .inl (cT 0, 4096, .inl f3))] (fun A => va_Qv (fun _ : Unit => True) (fun _ t => xB D xcl cT A [(a0, .inr (2, [.ref a1, .int v1, .int v2])), (a1, .inl (cT 2, 4096, .inr (.inl f0))), (a2, .inr (1, [.ref a3, .int out.2.1, .int out.2.2])), (a3, .inl (cT 0, 4096, .inl out.1))] t) A)) (sz n : Nat) (a0 : Nat) (a1 : Nat) (a2 : Nat) (a3 : Nat) (x1 : Int32) (x3 : Int32) (f0 : Nat → Int64) (v1 : Int32) (v2 : Int32) (f3 : Nat → Int32) (v4 : Int32) (v5 : Int32) (out : (Nat → Int32) × Int32 × Int32) (hf : fP_writeList rec n x1 x3 f0 v1 v2 f3 v4 v5 = some out) : xMet l yP_writeList wyP_writeList (fr + 6) 0 0 (lo + 130) D cT aK aV sz [.ref a0, .int x1, .ref a2, .int x3] [(a0, .inr (2, [.ref a1, .int v1, .int v2])), (a1, .inl (cT 2, 4096, .inr (.inl f0))), (a2, .inr (1, [.ref a3, .int v4, .int v5])), (a3, .inl (cT 0, 4096, .inl f3))] (fun A => va_Qv (fun _ : Unit => True) (fun _ t => xB D xcl cT A [(a0, .inr (2, [.ref a1, .int v1, .int v2])), (a1, .inl (cT 2, 4096, .inr (.inl f0))), (a2, .inr (1, [.ref a3, .int out.2.1, .int out.2.2])), (a3, .inl (cT 0, 4096, .inl out.1))] t) A) := by
  refine Met.ofW (cc := prog_6_method_3_code) (maxL := 7) (ret := none) (by decide) rfl ?_
  intro p e s m args below meth c s₁ B hml hv
  obtain ⟨rfl, hsz, hZ, hP, hK, hD0⟩ := hv
  have hx := B.exec
  have hb := B.bytes
  have hr := B.returns
  have hts := atoms_spec (ws := wyP_writeList) B.pre
  have htx := fun w h => hts w (List.mem_cons_of_mem _ h)
  have hown : s.vm.findClass "ValueBench$Printer" = some m.cls := findClass_of_methodNamed B.named
  have hlocks := B.notSynchronized
  subst hsz
  have hD := hD0.self (sz := s.heap.size)
  generalize hAe : va_A [(a0, .inr (2, [.ref a1, .int v1, .int v2])), (a1, .inl (cT 2, 4096, .inr (.inl f0))), (a2, .inr (1, [.ref a3, .int v4, .int v5])), (a3, .inl (cT 0, 4096, .inl f3))] s.heap.size = A at hD hZ ⊢
  have hA : ∀ q : Nat, s.heap.size ≤ q → A q := fun q h => by rw [← hAe]; exact Or.inr h
  have hS : va_S A s.heap s.heap [] := va_S.rf
  have hP : va_P D xcl [(a0, .inr (2, [.ref a1, .int v1, .int v2])), (a1, .inl (cT 2, 4096, .inr (.inl f0))), (a2, .inr (1, [.ref a3, .int v4, .int v5])), (a3, .inl (cT 0, 4096, .inl f3))] s.heap := hP
  have hl := lv_entry ([.ref a0, .int x1, .ref a2, .int x3]) (n := 7) (Nat.le_of_ble_eq_true rfl)
  rw [lg_entry_eq]
  generalize (lg_sl ([.ref a0, .int x1, .ref a2, .int x3]) ++ List.replicate (7 - (lg_sl ([.ref a0, .int x1, .ref a2, .int x3])).length) Slot.unset).toArray = ls at hl ⊢
  have hl : lv_has ls 7 [(0, .ref a0), (1, .int x1), (2, .ref a2), (3, .int x3)] := hl
  unfold fP_writeList at hf
  refine xloopK (σ := Nat × Int32 × Int32 × Int32 × Int32 × Int32 × (Nat → Int32) × Int32 × Int32) (fun n x H locs ls => (x.1 = 1 ∧ fP_writeList_b rec f0 v1 v2 n x.1 x.2.1 x.2.2.1 x.2.2.2.1 x.2.2.2.2.1 x.2.2.2.2.2.1 x.2.2.2.2.2.2.1 x.2.2.2.2.2.2.2.1 x.2.2.2.2.2.2.2.2 = some out ∧ va_P D xcl [(a0, .inr (2, [.ref a1, .int v1, .int v2])), (a1, .inl (cT 2, 4096, .inr (.inl f0))), (a2, .inr (1, [.ref a3, .int x.2.2.2.2.2.2.2.1, .int x.2.2.2.2.2.2.2.2])), (a3, .inl (cT 0, 4096, .inl x.2.2.2.2.2.2.1))] H ∧ va_D A [(a0, .inr (2, [.ref a1, .int v1, .int v2])), (a1, .inl (cT 2, 4096, .inr (.inl f0))), (a2, .inr (1, [.ref a3, .int x.2.2.2.2.2.2.2.1, .int x.2.2.2.2.2.2.2.2])), (a3, .inl (cT 0, 4096, .inl x.2.2.2.2.2.2.1))] ∧ va_S A s.heap H locs ∧ lv_has ls 7 [(6, .int x.2.1), (5, .int x.2.2.1), (4, .int x.2.2.2.1), (0, .ref a0), (1, .int x.2.2.2.2.1), (2, .ref a2), (3, .int x.2.2.2.2.2.1)])) (fun x => 44) (fun x H locs ls h => by exact absurd h.2.1 (by rw [fP_writeList_b]; exact fun h => nomatch h)) (fun n ih x H locs ls hv => ?_) (fun key => ?_)
  · obtain ⟨lb, y6, y5, y4, y1, y3, w0, w1, w2⟩ := x
    rcases hv with ⟨hj, hf, hP, hD, hS, hl⟩
    subst hj
    have hf : fP_writeList_b rec f0 v1 v2 (n + 1) 1 y6 y5 y4 y1 y3 w0 w1 w2 = some out := hf
    rw [fP_writeList_b] at hf
    obtain ⟨hP, hD⟩ : xPD D xcl A [(a0, .inr (2, [.ref a1, .int v1, .int v2])), (a1, .inl (cT 2, 4096, .inr (.inl f0))), (a2, .inr (1, [.ref a3, .int w1, .int w2])), (a3, .inl (cT 0, 4096, .inl w0))] H := ⟨hP, hD⟩
    have hl : lv_has ls 7 [(6, .int y6), (5, .int y5), (4, .int y4), (0, .ref a0), (1, .int y1), (2, .ref a2), (3, .int y3)] := hl
    refine W.eq (g2 := F0 m 44 ls []) rfl ?_
    refine lv_iload hx hb dP_writeList_44 (lv_at hl 0 rfl) ?_
    refine lv_aload_n hx hb dP_writeList_46 rfl (lv_at hl 3 rfl) ?_
    refine lv_iload_n hx hb dP_writeList_47 rfl (lv_at hl 4 rfl) ?_
    obtain ⟨o1, hq2, hf⟩ := xbind hf
    obtain ⟨hPc, hDc, hFc⟩ := xcut (wc := [(a0, .inr (2, [.ref a1, .int v1, .int v2])), (a1, .inl (cT 2, 4096, .inr (.inl f0)))]) hP hD hS hA [0, 1] rfl rfl (by decide)
    refine va_calli (va_runV (C := "ValueBench$Row") (As := [.int y1]) (rest := [.int y6]) ⟨hx, hb, hml, hown, htx⟩ (gR_length l hl9 D cT aK aV H.size n a0 a1 y1 f0 v1 v2 o1 hq2) ⟨callB_of 1 htx (xw_goodC kw_2_191) rfl rfl rfl (htx _ kw_1_4) (htx _ kw_3_52) ⟨by decide, by decide, by decide +kernel⟩ ⟨Nat.le_of_ble_eq_true rfl, Nat.le_of_ble_eq_true rfl⟩, (htx _ kw_2_189), (htx _ kw_2_190)⟩ ⟨xPre_blind, va_recv hK hP (ci := 2) rfl (q0 := 0) rfl, (fun U hU hW => ⟨rfl, xPre_of hZ hS hFc hPc hDc hK U hU hW⟩)⟩ rfl rfl hl.1 rfl (lv_room (Nat.le_of_ble_eq_true rfl)) dP_writeList_48 ⟨Nat.le_of_ble_eq_true rfl, Nat.le_of_ble_eq_true rfl⟩) hS (fun q _ h => hFc q h) hFc (fun r3 u9 t H1 locs ht hvm hr9 hB hz1 hk1 hS => ?_)
    obtain ⟨hP1, hK1, hD1⟩ := hB
    rw [ht] at hP1
    obtain ⟨hP, hD⟩ := xjoin (W := [(a2, .inr (1, [.ref a3, .int w1, .int w2])), (a3, .inl (cT 0, 4096, .inl w0)), (a0, .inr (2, [.ref a1, .int v1, .int v2])), (a1, .inl (cT 2, 4096, .inr (.inl f0)))]) hP hD [0, 1] [2, 3] 2 rfl rfl (by decide) (by decide) hk1 hFc hP1 hD1
    generalize H1 = H at hP hS ⊢
    rw [hr9]
    refine W.eq (g2 := F0 m 51 ls [.int o1, .int y6]) rfl ?_
    refine lv_icmp_ge (tgt := 115) hx hb dP_writeList_51 (by decide) (fun hc => ?_) (fun hc => ?_)
    · rw [if_pos hc] at hf
      refine lv_aload_n hx hb dP_writeList_115 rfl (lv_at hl 5 rfl) ?_
      refine lv_iload hx hb dP_writeList_116 (lv_at hl 2 rfl) ?_
      refine lv_if_eq (tgt := 126) hx hb dP_writeList_118 (by decide) (fun hc => ?_) (fun hc => ?_)
      · rw [if_pos hc] at hf
        refine lv_bipush (v := 93) hx hb dP_writeList_126 (by decide) ?_
        obtain ⟨o4, hq5, hf⟩ := xbind hf
        obtain ⟨hPc, hDc, hFc⟩ := xcut (wc := [(a2, .inr (1, [.ref a3, .int w1, .int w2])), (a3, .inl (cT 0, 4096, .inl w0))]) hP hD hS hA [0, 1] rfl rfl (by decide)
        refine va_callv (va_runV (C := "ValueBench$Text") (As := [.int 93]) (rest := []) ⟨hx, hb, hml, hown, htx⟩ (gT_add l hl9 D cT aK aV H.size n a2 a3 (93 : Int32) w0 w1 w2 o4 hq5) ⟨callB_of 1 htx (xw_goodC kw_1_207) rfl rfl rfl (htx _ kw_1_2) (htx _ kw_3_51) ⟨by decide, by decide, by decide +kernel⟩ ⟨Nat.le_of_ble_eq_true rfl, Nat.le_of_ble_eq_true rfl⟩, (htx _ kw_1_205), (htx _ kw_1_206)⟩ ⟨xPre_blind, va_recv hK hP (ci := 1) rfl (q0 := 0) rfl, (fun U hU hW => ⟨rfl, xPre_of hZ hS hFc hPc hDc hK U hU hW⟩)⟩ rfl rfl hl.1 rfl (lv_room (Nat.le_of_ble_eq_true rfl)) dP_writeList_128 ⟨Nat.le_of_ble_eq_true rfl, Nat.le_of_ble_eq_true rfl⟩) hS (fun q _ h => hFc q h) hFc (fun u9 t H1 locs ht hvm hr9 hB hz1 hk1 hS => ?_)
        obtain ⟨hP1, hK1, hD1⟩ := hB
        rw [ht] at hP1
        obtain ⟨hP, hD⟩ := xjoin (W := [(a0, .inr (2, [.ref a1, .int v1, .int v2])), (a1, .inl (cT 2, 4096, .inr (.inl f0))), (a2, .inr (1, [.ref a3, .int o4.2.1, .int o4.2.2])), (a3, .inl (cT 0, 4096, .inl o4.1))]) hP hD [0, 1] [2, 3] 2 rfl rfl (by decide) (by decide) hk1 hFc hP1 hD1
        generalize H1 = H at hP hS ⊢
        obtain rfl := Option.some.inj hf
        obtain ⟨hP9, hD9⟩ := xsub (wc := [(a0, .inr (2, [.ref a1, .int v1, .int v2])), (a1, .inl (cT 2, 4096, .inr (.inl f0))), (a2, .inr (1, [.ref a3, .int o4.2.1, .int o4.2.2])), (a3, .inl (cT 0, 4096, .inl o4.1))]) hP hD [0, 1, 2, 3] rfl rfl (by decide)
        exact W.vret hx hb hr (fun t ht hW => ⟨⟨(), rfl, trivial, by rw [ht]; exact hP9, va_K.moved hW.alike hK, hD9⟩, hS.F ht⟩) hS.2.2 dP_writeList_131
      · rw [if_neg hc] at hf
        refine lv_bipush (v := 125) hx hb dP_writeList_121 (by decide) ?_
        refine lv_goto (tgt := 128) hx hb dP_writeList_123 (by decide) ?_
        obtain ⟨o4, hq5, hf⟩ := xbind hf
        obtain ⟨hPc, hDc, hFc⟩ := xcut (wc := [(a2, .inr (1, [.ref a3, .int w1, .int w2])), (a3, .inl (cT 0, 4096, .inl w0))]) hP hD hS hA [0, 1] rfl rfl (by decide)
        refine va_callv (va_runV (C := "ValueBench$Text") (As := [.int 125]) (rest := []) ⟨hx, hb, hml, hown, htx⟩ (gT_add l hl9 D cT aK aV H.size n a2 a3 (125 : Int32) w0 w1 w2 o4 hq5) ⟨callB_of 1 htx (xw_goodC kw_1_207) rfl rfl rfl (htx _ kw_1_2) (htx _ kw_3_51) ⟨by decide, by decide, by decide +kernel⟩ ⟨Nat.le_of_ble_eq_true rfl, Nat.le_of_ble_eq_true rfl⟩, (htx _ kw_1_205), (htx _ kw_1_206)⟩ ⟨xPre_blind, va_recv hK hP (ci := 1) rfl (q0 := 0) rfl, (fun U hU hW => ⟨rfl, xPre_of hZ hS hFc hPc hDc hK U hU hW⟩)⟩ rfl rfl hl.1 rfl (lv_room (Nat.le_of_ble_eq_true rfl)) dP_writeList_128 ⟨Nat.le_of_ble_eq_true rfl, Nat.le_of_ble_eq_true rfl⟩) hS (fun q _ h => hFc q h) hFc (fun u9 t H1 locs ht hvm hr9 hB hz1 hk1 hS => ?_)
        obtain ⟨hP1, hK1, hD1⟩ := hB
        rw [ht] at hP1
        obtain ⟨hP, hD⟩ := xjoin (W := [(a0, .inr (2, [.ref a1, .int v1, .int v2])), (a1, .inl (cT 2, 4096, .inr (.inl f0))), (a2, .inr (1, [.ref a3, .int o4.2.1, .int o4.2.2])), (a3, .inl (cT 0, 4096, .inl o4.1))]) hP hD [0, 1] [2, 3] 2 rfl rfl (by decide) (by decide) hk1 hFc hP1 hD1
        generalize H1 = H at hP hS ⊢
        obtain rfl := Option.some.inj hf
        obtain ⟨hP9, hD9⟩ := xsub (wc := [(a0, .inr (2, [.ref a1, .int v1, .int v2])), (a1, .inl (cT 2, 4096, .inr (.inl f0))), (a2, .inr (1, [.ref a3, .int o4.2.1, .int o4.2.2])), (a3, .inl (cT 0, 4096, .inl o4.1))]) hP hD [0, 1, 2, 3] rfl rfl (by decide)
        exact W.vret hx hb hr (fun t ht hW => ⟨⟨(), rfl, trivial, by rw [ht]; exact hP9, va_K.moved hW.alike hK, hD9⟩, hS.F ht⟩) hS.2.2 dP_writeList_131
    · rw [if_neg hc] at hf
      refine lv_iload hx hb dP_writeList_54 (lv_at hl 0 rfl) ?_
      refine lv_if_le (tgt := 65) hx hb dP_writeList_56 (by decide) (fun hc => ?_) (fun hc => ?_)
      · rw [if_pos hc] at hf
        refine lv_iload hx hb dP_writeList_65 (lv_at hl 2 rfl) ?_
        refine lv_if_eq (tgt := 91) hx hb dP_writeList_67 (by decide) (fun hc => ?_) (fun hc => ?_)
        · rw [if_pos hc] at hf
          refine lv_aload_n hx hb dP_writeList_91 rfl (lv_at hl 3 rfl) ?_
          refine lv_iload hx hb dP_writeList_92 (lv_at hl 1 rfl) ?_
          refine lv_aload_n hx hb dP_writeList_94 rfl (lv_at hl 5 rfl) ?_
          refine lv_iload_n hx hb dP_writeList_95 rfl (lv_at hl 6 rfl) ?_
          refine lv_iconst (v := 1) hx hb dP_writeList_96 (by decide) ?_
          refine lv_iadd hx hb dP_writeList_97 ?_
          obtain ⟨o4, hq5, hf⟩ := xbind hf
          obtain ⟨hPc, hDc, hFc⟩ := xcut (wc := [(a0, .inr (2, [.ref a1, .int v1, .int v2])), (a1, .inl (cT 2, 4096, .inr (.inl f0))), (a2, .inr (1, [.ref a3, .int w1, .int w2])), (a3, .inl (cT 0, 4096, .inl w0))]) hP hD hS hA [2, 3, 0, 1] rfl rfl (by decide)
          refine va_callv (va_runS (As := [.ref a0, .int y5, .ref a2, .int (y3 + (1 : Int32))]) (rest := []) ⟨hx, hb, hml, hown, htx⟩ (hrec H.size a0 a1 a2 a3 y5 (y3 + (1 : Int32)) f0 v1 v2 w0 w1 w2 o4 hq5) ⟨callB_of 4 htx (xw_goodC kw_3_20) rfl rfl rfl (htx _ kw_1_18) (htx _ kw_3_78) ⟨by decide, by decide, by decide +kernel⟩ ⟨(by show (fr) + 1 ≤ fr + 6; omega), (by show 8 + (4 + 11) + (lo) ≤ lo + 130; omega)⟩, htx _ kw_3_19⟩ ⟨xPre_blind, (fun U hU hW => ⟨rfl, xPre_of hZ hS hFc hPc hDc hK U hU hW⟩)⟩ rfl rfl hl.1 rfl (lv_room (Nat.le_of_ble_eq_true rfl)) dP_writeList_98 ⟨Nat.le_of_ble_eq_true rfl, Nat.le_of_ble_eq_true rfl⟩) hS (fun q _ h => hFc q h) hFc (fun u9 t H1 locs ht hvm hr9 hB hz1 hk1 hS => ?_)
          obtain ⟨hP1, hK1, hD1⟩ := hB
          rw [ht] at hP1
          obtain ⟨hP, hD⟩ := xjoin (W := [(a0, .inr (2, [.ref a1, .int v1, .int v2])), (a1, .inl (cT 2, 4096, .inr (.inl f0))), (a2, .inr (1, [.ref a3, .int o4.2.1, .int o4.2.2])), (a3, .inl (cT 0, 4096, .inl o4.1))]) hP hD [2, 3, 0, 1] [] 0 rfl rfl (by decide) (by decide) hk1 hFc hP1 hD1
          generalize H1 = H at hP hS ⊢
          refine lv_aload_n hx hb dP_writeList_101 rfl (lv_at hl 3 rfl) ?_
          refine lv_iload hx hb dP_writeList_102 (lv_at hl 1 rfl) ?_
          obtain ⟨o6, hq7, hf⟩ := xbind hf
          obtain ⟨hPc, hDc, hFc⟩ := xcut (wc := [(a0, .inr (2, [.ref a1, .int v1, .int v2])), (a1, .inl (cT 2, 4096, .inr (.inl f0)))]) hP hD hS hA [0, 1] rfl rfl (by decide)
          refine va_calli (va_runV (C := "ValueBench$Row") (As := [.int y5]) (rest := []) ⟨hx, hb, hml, hown, htx⟩ (gR_after l hl9 D cT aK aV H.size n a0 a1 y5 f0 v1 v2 o6 hq7) ⟨callB_of 1 htx (xw_goodC kw_2_196) rfl rfl rfl (htx _ kw_1_4) (htx _ kw_3_77) ⟨by decide, by decide, by decide +kernel⟩ ⟨Nat.le_of_ble_eq_true rfl, Nat.le_of_ble_eq_true rfl⟩, (htx _ kw_2_194), (htx _ kw_2_195)⟩ ⟨xPre_blind, va_recv hK hP (ci := 2) rfl (q0 := 0) rfl, (fun U hU hW => ⟨rfl, xPre_of hZ hS hFc hPc hDc hK U hU hW⟩)⟩ rfl rfl hl.1 rfl (lv_room (Nat.le_of_ble_eq_true rfl)) dP_writeList_104 ⟨Nat.le_of_ble_eq_true rfl, Nat.le_of_ble_eq_true rfl⟩) hS (fun q _ h => hFc q h) hFc (fun r8 u9 t H1 locs ht hvm hr9 hB hz1 hk1 hS => ?_)
          obtain ⟨hP1, hK1, hD1⟩ := hB
          rw [ht] at hP1
          obtain ⟨hP, hD⟩ := xjoin (W := [(a2, .inr (1, [.ref a3, .int o4.2.1, .int o4.2.2])), (a3, .inl (cT 0, 4096, .inl o4.1)), (a0, .inr (2, [.ref a1, .int v1, .int v2])), (a1, .inl (cT 2, 4096, .inr (.inl f0)))]) hP hD [0, 1] [2, 3] 2 rfl rfl (by decide) (by decide) hk1 hFc hP1 hD1
          generalize H1 = H at hP hS ⊢
          rw [hr9]
          refine W.eq (g2 := F0 m 107 ls [.int o6]) rfl ?_
          refine lv_istore (lv' := [(5, .int o6), (6, .int y6), (4, .int y4), (0, .ref a0), (1, .int y1), (2, .ref a2), (3, .int y3)]) hx hb dP_writeList_107 hl (by decide) rfl (fun ls hl => ?_)
          refine lv_iinc (v := (y6 + 1)) (lv' := [(6, .int (y6 + 1)), (5, .int o6), (4, .int y4), (0, .ref a0), (1, .int y1), (2, .ref a2), (3, .int y3)]) hx hb dP_writeList_109 hl (k := 1) rfl rfl (by decide) rfl (fun ls hl => ?_)
          refine lv_goto (tgt := 44) hx hb dP_writeList_112 (by decide) ?_
          obtain ⟨hP9, hD9⟩ := xsub (wc := [(a0, .inr (2, [.ref a1, .int v1, .int v2])), (a1, .inl (cT 2, 4096, .inr (.inl f0))), (a2, .inr (1, [.ref a3, .int o4.2.1, .int o4.2.2])), (a3, .inl (cT 0, 4096, .inl o4.1))]) hP hD [2, 3, 0, 1] rfl rfl (by decide)
          exact ih (1, (y6 + 1), o6, y4, y1, y3, o4.1, o4.2.1, o4.2.2) _ _ ls (⟨rfl, hf, hP9, hD9, hS, lv_sub hl [0, 1, 2, 3, 4, 5, 6] rfl⟩)
        · rw [if_neg hc] at hf
          refine lv_aload_n hx hb dP_writeList_70 rfl (lv_at hl 3 rfl) ?_
          refine lv_iload hx hb dP_writeList_71 (lv_at hl 1 rfl) ?_
          refine lv_aload_n hx hb dP_writeList_73 rfl (lv_at hl 5 rfl) ?_
          obtain ⟨o4, hq5, hf⟩ := xbind hf
          obtain ⟨hPc, hDc, hFc⟩ := xcut (wc := [(a0, .inr (2, [.ref a1, .int v1, .int v2])), (a1, .inl (cT 2, 4096, .inr (.inl f0))), (a2, .inr (1, [.ref a3, .int w1, .int w2])), (a3, .inl (cT 0, 4096, .inl w0))]) hP hD hS hA [2, 3, 0, 1] rfl rfl (by decide)
          refine va_callv (va_runS (As := [.ref a0, .int y5, .ref a2]) (rest := []) ⟨hx, hb, hml, hown, htx⟩ (gP_writeString l hl9 D cT aK aV H.size n a0 a1 a2 a3 y5 f0 v1 v2 w0 w1 w2 o4 hq5) ⟨callB_of 3 htx (xw_goodC kw_3_50) rfl rfl rfl (htx _ kw_1_18) (htx _ kw_3_48) ⟨by decide, by decide, by decide +kernel⟩ ⟨Nat.le_of_ble_eq_true rfl, Nat.le_of_ble_eq_true rfl⟩, htx _ kw_3_49⟩ ⟨xPre_blind, (fun U hU hW => ⟨rfl, xPre_of hZ hS hFc hPc hDc hK U hU hW⟩)⟩ rfl rfl hl.1 rfl (lv_room (Nat.le_of_ble_eq_true rfl)) dP_writeList_74 ⟨Nat.le_of_ble_eq_true rfl, Nat.le_of_ble_eq_true rfl⟩) hS (fun q _ h => hFc q h) hFc (fun u9 t H1 locs ht hvm hr9 hB hz1 hk1 hS => ?_)
          obtain ⟨hP1, hK1, hD1⟩ := hB
          rw [ht] at hP1
          obtain ⟨hP, hD⟩ := xjoin (W := [(a0, .inr (2, [.ref a1, .int v1, .int v2])), (a1, .inl (cT 2, 4096, .inr (.inl f0))), (a2, .inr (1, [.ref a3, .int o4.2.1, .int o4.2.2])), (a3, .inl (cT 0, 4096, .inl o4.1))]) hP hD [2, 3, 0, 1] [] 0 rfl rfl (by decide) (by decide) hk1 hFc hP1 hD1
          generalize H1 = H at hP hS ⊢
          refine lv_aload_n hx hb dP_writeList_77 rfl (lv_at hl 5 rfl) ?_
          refine lv_bipush (v := 58) hx hb dP_writeList_78 (by decide) ?_
          obtain ⟨o6, hq7, hf⟩ := xbind hf
          obtain ⟨hPc, hDc, hFc⟩ := xcut (wc := [(a2, .inr (1, [.ref a3, .int o4.2.1, .int o4.2.2])), (a3, .inl (cT 0, 4096, .inl o4.1))]) hP hD hS hA [2, 3] rfl rfl (by decide)
          refine va_callv (va_runV (C := "ValueBench$Text") (As := [.int 58]) (rest := []) ⟨hx, hb, hml, hown, htx⟩ (gT_add l hl9 D cT aK aV H.size n a2 a3 (58 : Int32) o4.1 o4.2.1 o4.2.2 o6 hq7) ⟨callB_of 1 htx (xw_goodC kw_1_207) rfl rfl rfl (htx _ kw_1_2) (htx _ kw_3_51) ⟨by decide, by decide, by decide +kernel⟩ ⟨Nat.le_of_ble_eq_true rfl, Nat.le_of_ble_eq_true rfl⟩, (htx _ kw_1_205), (htx _ kw_1_206)⟩ ⟨xPre_blind, va_recv hK hP (ci := 1) rfl (q0 := 2) rfl, (fun U hU hW => ⟨rfl, xPre_of hZ hS hFc hPc hDc hK U hU hW⟩)⟩ rfl rfl hl.1 rfl (lv_room (Nat.le_of_ble_eq_true rfl)) dP_writeList_80 ⟨Nat.le_of_ble_eq_true rfl, Nat.le_of_ble_eq_true rfl⟩) hS (fun q _ h => hFc q h) hFc (fun u9 t H1 locs ht hvm hr9 hB hz1 hk1 hS => ?_)
          obtain ⟨hP1, hK1, hD1⟩ := hB
          rw [ht] at hP1
          obtain ⟨hP, hD⟩ := xjoin (W := [(a0, .inr (2, [.ref a1, .int v1, .int v2])), (a1, .inl (cT 2, 4096, .inr (.inl f0))), (a2, .inr (1, [.ref a3, .int o6.2.1, .int o6.2.2])), (a3, .inl (cT 0, 4096, .inl o6.1))]) hP hD [2, 3] [0, 1] 2 rfl rfl (by decide) (by decide) hk1 hFc hP1 hD1
          generalize H1 = H at hP hS ⊢
          refine lv_aload_n hx hb dP_writeList_83 rfl (lv_at hl 3 rfl) ?_
          refine lv_iload hx hb dP_writeList_84 (lv_at hl 1 rfl) ?_
          obtain ⟨o8, hq9, hf⟩ := xbind hf
          obtain ⟨hPc, hDc, hFc⟩ := xcut (wc := [(a0, .inr (2, [.ref a1, .int v1, .int v2])), (a1, .inl (cT 2, 4096, .inr (.inl f0)))]) hP hD hS hA [0, 1] rfl rfl (by decide)
          refine va_calli (va_runV (C := "ValueBench$Row") (As := [.int y5]) (rest := []) ⟨hx, hb, hml, hown, htx⟩ (gR_after l hl9 D cT aK aV H.size n a0 a1 y5 f0 v1 v2 o8 hq9) ⟨callB_of 1 htx (xw_goodC kw_2_196) rfl rfl rfl (htx _ kw_1_4) (htx _ kw_3_77) ⟨by decide, by decide, by decide +kernel⟩ ⟨Nat.le_of_ble_eq_true rfl, Nat.le_of_ble_eq_true rfl⟩, (htx _ kw_2_194), (htx _ kw_2_195)⟩ ⟨xPre_blind, va_recv hK hP (ci := 2) rfl (q0 := 0) rfl, (fun U hU hW => ⟨rfl, xPre_of hZ hS hFc hPc hDc hK U hU hW⟩)⟩ rfl rfl hl.1 rfl (lv_room (Nat.le_of_ble_eq_true rfl)) dP_writeList_86 ⟨Nat.le_of_ble_eq_true rfl, Nat.le_of_ble_eq_true rfl⟩) hS (fun q _ h => hFc q h) hFc (fun r10 u9 t H1 locs ht hvm hr9 hB hz1 hk1 hS => ?_)
          obtain ⟨hP1, hK1, hD1⟩ := hB
          rw [ht] at hP1
          obtain ⟨hP, hD⟩ := xjoin (W := [(a2, .inr (1, [.ref a3, .int o6.2.1, .int o6.2.2])), (a3, .inl (cT 0, 4096, .inl o6.1)), (a0, .inr (2, [.ref a1, .int v1, .int v2])), (a1, .inl (cT 2, 4096, .inr (.inl f0)))]) hP hD [0, 1] [2, 3] 2 rfl rfl (by decide) (by decide) hk1 hFc hP1 hD1
          generalize H1 = H at hP hS ⊢
          rw [hr9]
          refine W.eq (g2 := F0 m 89 ls [.int o8]) rfl ?_
          refine lv_istore (lv' := [(5, .int o8), (6, .int y6), (4, .int y4), (0, .ref a0), (1, .int y1), (2, .ref a2), (3, .int y3)]) hx hb dP_writeList_89 hl (by decide) rfl (fun ls hl => ?_)
          refine lv_aload_n hx hb dP_writeList_91 rfl (lv_at hl 3 rfl) ?_
          refine lv_iload hx hb dP_writeList_92 (lv_at hl 0 rfl) ?_
          refine lv_aload_n hx hb dP_writeList_94 rfl (lv_at hl 5 rfl) ?_
          refine lv_iload_n hx hb dP_writeList_95 rfl (lv_at hl 6 rfl) ?_
          refine lv_iconst (v := 1) hx hb dP_writeList_96 (by decide) ?_
          refine lv_iadd hx hb dP_writeList_97 ?_
          obtain ⟨o11, hq12, hf⟩ := xbind hf
          obtain ⟨hPc, hDc, hFc⟩ := xcut (wc := [(a0, .inr (2, [.ref a1, .int v1, .int v2])), (a1, .inl (cT 2, 4096, .inr (.inl f0))), (a2, .inr (1, [.ref a3, .int o6.2.1, .int o6.2.2])), (a3, .inl (cT 0, 4096, .inl o6.1))]) hP hD hS hA [2, 3, 0, 1] rfl rfl (by decide)
          refine va_callv (va_runS (As := [.ref a0, .int o8, .ref a2, .int (y3 + (1 : Int32))]) (rest := []) ⟨hx, hb, hml, hown, htx⟩ (hrec H.size a0 a1 a2 a3 o8 (y3 + (1 : Int32)) f0 v1 v2 o6.1 o6.2.1 o6.2.2 o11 hq12) ⟨callB_of 4 htx (xw_goodC kw_3_20) rfl rfl rfl (htx _ kw_1_18) (htx _ kw_3_78) ⟨by decide, by decide, by decide +kernel⟩ ⟨(by show (fr) + 1 ≤ fr + 6; omega), (by show 8 + (4 + 11) + (lo) ≤ lo + 130; omega)⟩, htx _ kw_3_19⟩ ⟨xPre_blind, (fun U hU hW => ⟨rfl, xPre_of hZ hS hFc hPc hDc hK U hU hW⟩)⟩ rfl rfl hl.1 rfl (lv_room (Nat.le_of_ble_eq_true rfl)) dP_writeList_98 ⟨Nat.le_of_ble_eq_true rfl, Nat.le_of_ble_eq_true rfl⟩) hS (fun q _ h => hFc q h) hFc (fun u9 t H1 locs ht hvm hr9 hB hz1 hk1 hS => ?_)
          obtain ⟨hP1, hK1, hD1⟩ := hB
          rw [ht] at hP1
          obtain ⟨hP, hD⟩ := xjoin (W := [(a0, .inr (2, [.ref a1, .int v1, .int v2])), (a1, .inl (cT 2, 4096, .inr (.inl f0))), (a2, .inr (1, [.ref a3, .int o11.2.1, .int o11.2.2])), (a3, .inl (cT 0, 4096, .inl o11.1))]) hP hD [2, 3, 0, 1] [] 0 rfl rfl (by decide) (by decide) hk1 hFc hP1 hD1
          generalize H1 = H at hP hS ⊢
          refine lv_aload_n hx hb dP_writeList_101 rfl (lv_at hl 3 rfl) ?_
          refine lv_iload hx hb dP_writeList_102 (lv_at hl 0 rfl) ?_
          obtain ⟨o13, hq14, hf⟩ := xbind hf
          obtain ⟨hPc, hDc, hFc⟩ := xcut (wc := [(a0, .inr (2, [.ref a1, .int v1, .int v2])), (a1, .inl (cT 2, 4096, .inr (.inl f0)))]) hP hD hS hA [0, 1] rfl rfl (by decide)
          refine va_calli (va_runV (C := "ValueBench$Row") (As := [.int o8]) (rest := []) ⟨hx, hb, hml, hown, htx⟩ (gR_after l hl9 D cT aK aV H.size n a0 a1 o8 f0 v1 v2 o13 hq14) ⟨callB_of 1 htx (xw_goodC kw_2_196) rfl rfl rfl (htx _ kw_1_4) (htx _ kw_3_77) ⟨by decide, by decide, by decide +kernel⟩ ⟨Nat.le_of_ble_eq_true rfl, Nat.le_of_ble_eq_true rfl⟩, (htx _ kw_2_194), (htx _ kw_2_195)⟩ ⟨xPre_blind, va_recv hK hP (ci := 2) rfl (q0 := 0) rfl, (fun U hU hW => ⟨rfl, xPre_of hZ hS hFc hPc hDc hK U hU hW⟩)⟩ rfl rfl hl.1 rfl (lv_room (Nat.le_of_ble_eq_true rfl)) dP_writeList_104 ⟨Nat.le_of_ble_eq_true rfl, Nat.le_of_ble_eq_true rfl⟩) hS (fun q _ h => hFc q h) hFc (fun r15 u9 t H1 locs ht hvm hr9 hB hz1 hk1 hS => ?_)
          obtain ⟨hP1, hK1, hD1⟩ := hB
          rw [ht] at hP1
          obtain ⟨hP, hD⟩ := xjoin (W := [(a2, .inr (1, [.ref a3, .int o11.2.1, .int o11.2.2])), (a3, .inl (cT 0, 4096, .inl o11.1)), (a0, .inr (2, [.ref a1, .int v1, .int v2])), (a1, .inl (cT 2, 4096, .inr (.inl f0)))]) hP hD [0, 1] [2, 3] 2 rfl rfl (by decide) (by decide) hk1 hFc hP1 hD1
          generalize H1 = H at hP hS ⊢
          rw [hr9]
          refine W.eq (g2 := F0 m 107 ls [.int o13]) rfl ?_
          refine lv_istore (lv' := [(5, .int o13), (6, .int y6), (4, .int y4), (0, .ref a0), (1, .int y1), (2, .ref a2), (3, .int y3)]) hx hb dP_writeList_107 hl (by decide) rfl (fun ls hl => ?_)
          refine lv_iinc (v := (y6 + 1)) (lv' := [(6, .int (y6 + 1)), (5, .int o13), (4, .int y4), (0, .ref a0), (1, .int y1), (2, .ref a2), (3, .int y3)]) hx hb dP_writeList_109 hl (k := 1) rfl rfl (by decide) rfl (fun ls hl => ?_)
          refine lv_goto (tgt := 44) hx hb dP_writeList_112 (by decide) ?_
          obtain ⟨hP9, hD9⟩ := xsub (wc := [(a0, .inr (2, [.ref a1, .int v1, .int v2])), (a1, .inl (cT 2, 4096, .inr (.inl f0))), (a2, .inr (1, [.ref a3, .int o11.2.1, .int o11.2.2])), (a3, .inl (cT 0, 4096, .inl o11.1))]) hP hD [2, 3, 0, 1] rfl rfl (by decide)
          exact ih (1, (y6 + 1), o13, y4, y1, y3, o11.1, o11.2.1, o11.2.2) _ _ ls (⟨rfl, hf, hP9, hD9, hS, lv_sub hl [0, 1, 2, 3, 4, 5, 6] rfl⟩)
      · rw [if_neg hc] at hf
        refine lv_aload_n hx hb dP_writeList_59 rfl (lv_at hl 5 rfl) ?_
        refine lv_bipush (v := 44) hx hb dP_writeList_60 (by decide) ?_
        obtain ⟨o4, hq5, hf⟩ := xbind hf
        obtain ⟨hPc, hDc, hFc⟩ := xcut (wc := [(a2, .inr (1, [.ref a3, .int w1, .int w2])), (a3, .inl (cT 0, 4096, .inl w0))]) hP hD hS hA [0, 1] rfl rfl (by decide)
        refine va_callv (va_runV (C := "ValueBench$Text") (As := [.int 44]) (rest := []) ⟨hx, hb, hml, hown, htx⟩ (gT_add l hl9 D cT aK aV H.size n a2 a3 (44 : Int32) w0 w1 w2 o4 hq5) ⟨callB_of 1 htx (xw_goodC kw_1_207) rfl rfl rfl (htx _ kw_1_2) (htx _ kw_3_51) ⟨by decide, by decide, by decide +kernel⟩ ⟨Nat.le_of_ble_eq_true rfl, Nat.le_of_ble_eq_true rfl⟩, (htx _ kw_1_205), (htx _ kw_1_206)⟩ ⟨xPre_blind, va_recv hK hP (ci := 1) rfl (q0 := 0) rfl, (fun U hU hW => ⟨rfl, xPre_of hZ hS hFc hPc hDc hK U hU hW⟩)⟩ rfl rfl hl.1 rfl (lv_room (Nat.le_of_ble_eq_true rfl)) dP_writeList_62 ⟨Nat.le_of_ble_eq_true rfl, Nat.le_of_ble_eq_true rfl⟩) hS (fun q _ h => hFc q h) hFc (fun u9 t H1 locs ht hvm hr9 hB hz1 hk1 hS => ?_)
        obtain ⟨hP1, hK1, hD1⟩ := hB
        rw [ht] at hP1
        obtain ⟨hP, hD⟩ := xjoin (W := [(a0, .inr (2, [.ref a1, .int v1, .int v2])), (a1, .inl (cT 2, 4096, .inr (.inl f0))), (a2, .inr (1, [.ref a3, .int o4.2.1, .int o4.2.2])), (a3, .inl (cT 0, 4096, .inl o4.1))]) hP hD [0, 1] [2, 3] 2 rfl rfl (by decide) (by decide) hk1 hFc hP1 hD1
        generalize H1 = H at hP hS ⊢
        refine lv_iload hx hb dP_writeList_65 (lv_at hl 2 rfl) ?_
        refine lv_if_eq (tgt := 91) hx hb dP_writeList_67 (by decide) (fun hc => ?_) (fun hc => ?_)
        · rw [if_pos hc] at hf
          refine lv_aload_n hx hb dP_writeList_91 rfl (lv_at hl 3 rfl) ?_
          refine lv_iload hx hb dP_writeList_92 (lv_at hl 1 rfl) ?_
          refine lv_aload_n hx hb dP_writeList_94 rfl (lv_at hl 5 rfl) ?_
          refine lv_iload_n hx hb dP_writeList_95 rfl (lv_at hl 6 rfl) ?_
          refine lv_iconst (v := 1) hx hb dP_writeList_96 (by decide) ?_
          refine lv_iadd hx hb dP_writeList_97 ?_
          obtain ⟨o6, hq7, hf⟩ := xbind hf
          obtain ⟨hPc, hDc, hFc⟩ := xcut (wc := [(a0, .inr (2, [.ref a1, .int v1, .int v2])), (a1, .inl (cT 2, 4096, .inr (.inl f0))), (a2, .inr (1, [.ref a3, .int o4.2.1, .int o4.2.2])), (a3, .inl (cT 0, 4096, .inl o4.1))]) hP hD hS hA [0, 1, 2, 3] rfl rfl (by decide)
          refine va_callv (va_runS (As := [.ref a0, .int y5, .ref a2, .int (y3 + (1 : Int32))]) (rest := []) ⟨hx, hb, hml, hown, htx⟩ (hrec H.size a0 a1 a2 a3 y5 (y3 + (1 : Int32)) f0 v1 v2 o4.1 o4.2.1 o4.2.2 o6 hq7) ⟨callB_of 4 htx (xw_goodC kw_3_20) rfl rfl rfl (htx _ kw_1_18) (htx _ kw_3_78) ⟨by decide, by decide, by decide +kernel⟩ ⟨(by show (fr) + 1 ≤ fr + 6; omega), (by show 8 + (4 + 11) + (lo) ≤ lo + 130; omega)⟩, htx _ kw_3_19⟩ ⟨xPre_blind, (fun U hU hW => ⟨rfl, xPre_of hZ hS hFc hPc hDc hK U hU hW⟩)⟩ rfl rfl hl.1 rfl (lv_room (Nat.le_of_ble_eq_true rfl)) dP_writeList_98 ⟨Nat.le_of_ble_eq_true rfl, Nat.le_of_ble_eq_true rfl⟩) hS (fun q _ h => hFc q h) hFc (fun u9 t H1 locs ht hvm hr9 hB hz1 hk1 hS => ?_)
          obtain ⟨hP1, hK1, hD1⟩ := hB
          rw [ht] at hP1
          obtain ⟨hP, hD⟩ := xjoin (W := [(a0, .inr (2, [.ref a1, .int v1, .int v2])), (a1, .inl (cT 2, 4096, .inr (.inl f0))), (a2, .inr (1, [.ref a3, .int o6.2.1, .int o6.2.2])), (a3, .inl (cT 0, 4096, .inl o6.1))]) hP hD [0, 1, 2, 3] [] 0 rfl rfl (by decide) (by decide) hk1 hFc hP1 hD1
          generalize H1 = H at hP hS ⊢
          refine lv_aload_n hx hb dP_writeList_101 rfl (lv_at hl 3 rfl) ?_
          refine lv_iload hx hb dP_writeList_102 (lv_at hl 1 rfl) ?_
          obtain ⟨o8, hq9, hf⟩ := xbind hf
          obtain ⟨hPc, hDc, hFc⟩ := xcut (wc := [(a0, .inr (2, [.ref a1, .int v1, .int v2])), (a1, .inl (cT 2, 4096, .inr (.inl f0)))]) hP hD hS hA [0, 1] rfl rfl (by decide)
          refine va_calli (va_runV (C := "ValueBench$Row") (As := [.int y5]) (rest := []) ⟨hx, hb, hml, hown, htx⟩ (gR_after l hl9 D cT aK aV H.size n a0 a1 y5 f0 v1 v2 o8 hq9) ⟨callB_of 1 htx (xw_goodC kw_2_196) rfl rfl rfl (htx _ kw_1_4) (htx _ kw_3_77) ⟨by decide, by decide, by decide +kernel⟩ ⟨Nat.le_of_ble_eq_true rfl, Nat.le_of_ble_eq_true rfl⟩, (htx _ kw_2_194), (htx _ kw_2_195)⟩ ⟨xPre_blind, va_recv hK hP (ci := 2) rfl (q0 := 0) rfl, (fun U hU hW => ⟨rfl, xPre_of hZ hS hFc hPc hDc hK U hU hW⟩)⟩ rfl rfl hl.1 rfl (lv_room (Nat.le_of_ble_eq_true rfl)) dP_writeList_104 ⟨Nat.le_of_ble_eq_true rfl, Nat.le_of_ble_eq_true rfl⟩) hS (fun q _ h => hFc q h) hFc (fun r10 u9 t H1 locs ht hvm hr9 hB hz1 hk1 hS => ?_)
          obtain ⟨hP1, hK1, hD1⟩ := hB
          rw [ht] at hP1
          obtain ⟨hP, hD⟩ := xjoin (W := [(a2, .inr (1, [.ref a3, .int o6.2.1, .int o6.2.2])), (a3, .inl (cT 0, 4096, .inl o6.1)), (a0, .inr (2, [.ref a1, .int v1, .int v2])), (a1, .inl (cT 2, 4096, .inr (.inl f0)))]) hP hD [0, 1] [2, 3] 2 rfl rfl (by decide) (by decide) hk1 hFc hP1 hD1
          generalize H1 = H at hP hS ⊢
          rw [hr9]
          refine W.eq (g2 := F0 m 107 ls [.int o8]) rfl ?_
          refine lv_istore (lv' := [(5, .int o8), (6, .int y6), (4, .int y4), (0, .ref a0), (1, .int y1), (2, .ref a2), (3, .int y3)]) hx hb dP_writeList_107 hl (by decide) rfl (fun ls hl => ?_)
          refine lv_iinc (v := (y6 + 1)) (lv' := [(6, .int (y6 + 1)), (5, .int o8), (4, .int y4), (0, .ref a0), (1, .int y1), (2, .ref a2), (3, .int y3)]) hx hb dP_writeList_109 hl (k := 1) rfl rfl (by decide) rfl (fun ls hl => ?_)
          refine lv_goto (tgt := 44) hx hb dP_writeList_112 (by decide) ?_
          obtain ⟨hP9, hD9⟩ := xsub (wc := [(a0, .inr (2, [.ref a1, .int v1, .int v2])), (a1, .inl (cT 2, 4096, .inr (.inl f0))), (a2, .inr (1, [.ref a3, .int o6.2.1, .int o6.2.2])), (a3, .inl (cT 0, 4096, .inl o6.1))]) hP hD [2, 3, 0, 1] rfl rfl (by decide)
          exact ih (1, (y6 + 1), o8, y4, y1, y3, o6.1, o6.2.1, o6.2.2) _ _ ls (⟨rfl, hf, hP9, hD9, hS, lv_sub hl [0, 1, 2, 3, 4, 5, 6] rfl⟩)
        · rw [if_neg hc] at hf
          refine lv_aload_n hx hb dP_writeList_70 rfl (lv_at hl 3 rfl) ?_
          refine lv_iload hx hb dP_writeList_71 (lv_at hl 1 rfl) ?_
          refine lv_aload_n hx hb dP_writeList_73 rfl (lv_at hl 5 rfl) ?_
          obtain ⟨o6, hq7, hf⟩ := xbind hf
          obtain ⟨hPc, hDc, hFc⟩ := xcut (wc := [(a0, .inr (2, [.ref a1, .int v1, .int v2])), (a1, .inl (cT 2, 4096, .inr (.inl f0))), (a2, .inr (1, [.ref a3, .int o4.2.1, .int o4.2.2])), (a3, .inl (cT 0, 4096, .inl o4.1))]) hP hD hS hA [0, 1, 2, 3] rfl rfl (by decide)
          refine va_callv (va_runS (As := [.ref a0, .int y5, .ref a2]) (rest := []) ⟨hx, hb, hml, hown, htx⟩ (gP_writeString l hl9 D cT aK aV H.size n a0 a1 a2 a3 y5 f0 v1 v2 o4.1 o4.2.1 o4.2.2 o6 hq7) ⟨callB_of 3 htx (xw_goodC kw_3_50) rfl rfl rfl (htx _ kw_1_18) (htx _ kw_3_48) ⟨by decide, by decide, by decide +kernel⟩ ⟨Nat.le_of_ble_eq_true rfl, Nat.le_of_ble_eq_true rfl⟩, htx _ kw_3_49⟩ ⟨xPre_blind, (fun U hU hW => ⟨rfl, xPre_of hZ hS hFc hPc hDc hK U hU hW⟩)⟩ rfl rfl hl.1 rfl (lv_room (Nat.le_of_ble_eq_true rfl)) dP_writeList_74 ⟨Nat.le_of_ble_eq_true rfl, Nat.le_of_ble_eq_true rfl⟩) hS (fun q _ h => hFc q h) hFc (fun u9 t H1 locs ht hvm hr9 hB hz1 hk1 hS => ?_)
          obtain ⟨hP1, hK1, hD1⟩ := hB
          rw [ht] at hP1
          obtain ⟨hP, hD⟩ := xjoin (W := [(a0, .inr (2, [.ref a1, .int v1, .int v2])), (a1, .inl (cT 2, 4096, .inr (.inl f0))), (a2, .inr (1, [.ref a3, .int o6.2.1, .int o6.2.2])), (a3, .inl (cT 0, 4096, .inl o6.1))]) hP hD [0, 1, 2, 3] [] 0 rfl rfl (by decide) (by decide) hk1 hFc hP1 hD1
          generalize H1 = H at hP hS ⊢
          refine lv_aload_n hx hb dP_writeList_77 rfl (lv_at hl 5 rfl) ?_
          refine lv_bipush (v := 58) hx hb dP_writeList_78 (by decide) ?_
          obtain ⟨o8, hq9, hf⟩ := xbind hf
          obtain ⟨hPc, hDc, hFc⟩ := xcut (wc := [(a2, .inr (1, [.ref a3, .int o6.2.1, .int o6.2.2])), (a3, .inl (cT 0, 4096, .inl o6.1))]) hP hD hS hA [2, 3] rfl rfl (by decide)
          refine va_callv (va_runV (C := "ValueBench$Text") (As := [.int 58]) (rest := []) ⟨hx, hb, hml, hown, htx⟩ (gT_add l hl9 D cT aK aV H.size n a2 a3 (58 : Int32) o6.1 o6.2.1 o6.2.2 o8 hq9) ⟨callB_of 1 htx (xw_goodC kw_1_207) rfl rfl rfl (htx _ kw_1_2) (htx _ kw_3_51) ⟨by decide, by decide, by decide +kernel⟩ ⟨Nat.le_of_ble_eq_true rfl, Nat.le_of_ble_eq_true rfl⟩, (htx _ kw_1_205), (htx _ kw_1_206)⟩ ⟨xPre_blind, va_recv hK hP (ci := 1) rfl (q0 := 2) rfl, (fun U hU hW => ⟨rfl, xPre_of hZ hS hFc hPc hDc hK U hU hW⟩)⟩ rfl rfl hl.1 rfl (lv_room (Nat.le_of_ble_eq_true rfl)) dP_writeList_80 ⟨Nat.le_of_ble_eq_true rfl, Nat.le_of_ble_eq_true rfl⟩) hS (fun q _ h => hFc q h) hFc (fun u9 t H1 locs ht hvm hr9 hB hz1 hk1 hS => ?_)
          obtain ⟨hP1, hK1, hD1⟩ := hB
          rw [ht] at hP1
          obtain ⟨hP, hD⟩ := xjoin (W := [(a0, .inr (2, [.ref a1, .int v1, .int v2])), (a1, .inl (cT 2, 4096, .inr (.inl f0))), (a2, .inr (1, [.ref a3, .int o8.2.1, .int o8.2.2])), (a3, .inl (cT 0, 4096, .inl o8.1))]) hP hD [2, 3] [0, 1] 2 rfl rfl (by decide) (by decide) hk1 hFc hP1 hD1
          generalize H1 = H at hP hS ⊢
          refine lv_aload_n hx hb dP_writeList_83 rfl (lv_at hl 3 rfl) ?_
          refine lv_iload hx hb dP_writeList_84 (lv_at hl 1 rfl) ?_
          obtain ⟨o10, hq11, hf⟩ := xbind hf
          obtain ⟨hPc, hDc, hFc⟩ := xcut (wc := [(a0, .inr (2, [.ref a1, .int v1, .int v2])), (a1, .inl (cT 2, 4096, .inr (.inl f0)))]) hP hD hS hA [0, 1] rfl rfl (by decide)
          refine va_calli (va_runV (C := "ValueBench$Row") (As := [.int y5]) (rest := []) ⟨hx, hb, hml, hown, htx⟩ (gR_after l hl9 D cT aK aV H.size n a0 a1 y5 f0 v1 v2 o10 hq11) ⟨callB_of 1 htx (xw_goodC kw_2_196) rfl rfl rfl (htx _ kw_1_4) (htx _ kw_3_77) ⟨by decide, by decide, by decide +kernel⟩ ⟨Nat.le_of_ble_eq_true rfl, Nat.le_of_ble_eq_true rfl⟩, (htx _ kw_2_194), (htx _ kw_2_195)⟩ ⟨xPre_blind, va_recv hK hP (ci := 2) rfl (q0 := 0) rfl, (fun U hU hW => ⟨rfl, xPre_of hZ hS hFc hPc hDc hK U hU hW⟩)⟩ rfl rfl hl.1 rfl (lv_room (Nat.le_of_ble_eq_true rfl)) dP_writeList_86 ⟨Nat.le_of_ble_eq_true rfl, Nat.le_of_ble_eq_true rfl⟩) hS (fun q _ h => hFc q h) hFc (fun r12 u9 t H1 locs ht hvm hr9 hB hz1 hk1 hS => ?_)
          obtain ⟨hP1, hK1, hD1⟩ := hB
          rw [ht] at hP1
          obtain ⟨hP, hD⟩ := xjoin (W := [(a2, .inr (1, [.ref a3, .int o8.2.1, .int o8.2.2])), (a3, .inl (cT 0, 4096, .inl o8.1)), (a0, .inr (2, [.ref a1, .int v1, .int v2])), (a1, .inl (cT 2, 4096, .inr (.inl f0)))]) hP hD [0, 1] [2, 3] 2 rfl rfl (by decide) (by decide) hk1 hFc hP1 hD1
          generalize H1 = H at hP hS ⊢
          rw [hr9]
          refine W.eq (g2 := F0 m 89 ls [.int o10]) rfl ?_
          refine lv_istore (lv' := [(5, .int o10), (6, .int y6), (4, .int y4), (0, .ref a0), (1, .int y1), (2, .ref a2), (3, .int y3)]) hx hb dP_writeList_89 hl (by decide) rfl (fun ls hl => ?_)
          refine lv_aload_n hx hb dP_writeList_91 rfl (lv_at hl 3 rfl) ?_
          refine lv_iload hx hb dP_writeList_92 (lv_at hl 0 rfl) ?_
          refine lv_aload_n hx hb dP_writeList_94 rfl (lv_at hl 5 rfl) ?_
          refine lv_iload_n hx hb dP_writeList_95 rfl (lv_at hl 6 rfl) ?_
          refine lv_iconst (v := 1) hx hb dP_writeList_96 (by decide) ?_
          refine lv_iadd hx hb dP_writeList_97 ?_
          obtain ⟨o13, hq14, hf⟩ := xbind hf
          obtain ⟨hPc, hDc, hFc⟩ := xcut (wc := [(a0, .inr (2, [.ref a1, .int v1, .int v2])), (a1, .inl (cT 2, 4096, .inr (.inl f0))), (a2, .inr (1, [.ref a3, .int o8.2.1, .int o8.2.2])), (a3, .inl (cT 0, 4096, .inl o8.1))]) hP hD hS hA [2, 3, 0, 1] rfl rfl (by decide)
          refine va_callv (va_runS (As := [.ref a0, .int o10, .ref a2, .int (y3 + (1 : Int32))]) (rest := []) ⟨hx, hb, hml, hown, htx⟩ (hrec H.size a0 a1 a2 a3 o10 (y3 + (1 : Int32)) f0 v1 v2 o8.1 o8.2.1 o8.2.2 o13 hq14) ⟨callB_of 4 htx (xw_goodC kw_3_20) rfl rfl rfl (htx _ kw_1_18) (htx _ kw_3_78) ⟨by decide, by decide, by decide +kernel⟩ ⟨(by show (fr) + 1 ≤ fr + 6; omega), (by show 8 + (4 + 11) + (lo) ≤ lo + 130; omega)⟩, htx _ kw_3_19⟩ ⟨xPre_blind, (fun U hU hW => ⟨rfl, xPre_of hZ hS hFc hPc hDc hK U hU hW⟩)⟩ rfl rfl hl.1 rfl (lv_room (Nat.le_of_ble_eq_true rfl)) dP_writeList_98 ⟨Nat.le_of_ble_eq_true rfl, Nat.le_of_ble_eq_true rfl⟩) hS (fun q _ h => hFc q h) hFc (fun u9 t H1 locs ht hvm hr9 hB hz1 hk1 hS => ?_)
          obtain ⟨hP1, hK1, hD1⟩ := hB
          rw [ht] at hP1
          obtain ⟨hP, hD⟩ := xjoin (W := [(a0, .inr (2, [.ref a1, .int v1, .int v2])), (a1, .inl (cT 2, 4096, .inr (.inl f0))), (a2, .inr (1, [.ref a3, .int o13.2.1, .int o13.2.2])), (a3, .inl (cT 0, 4096, .inl o13.1))]) hP hD [2, 3, 0, 1] [] 0 rfl rfl (by decide) (by decide) hk1 hFc hP1 hD1
          generalize H1 = H at hP hS ⊢
          refine lv_aload_n hx hb dP_writeList_101 rfl (lv_at hl 3 rfl) ?_
          refine lv_iload hx hb dP_writeList_102 (lv_at hl 0 rfl) ?_
          obtain ⟨o15, hq16, hf⟩ := xbind hf
          obtain ⟨hPc, hDc, hFc⟩ := xcut (wc := [(a0, .inr (2, [.ref a1, .int v1, .int v2])), (a1, .inl (cT 2, 4096, .inr (.inl f0)))]) hP hD hS hA [0, 1] rfl rfl (by decide)
          refine va_calli (va_runV (C := "ValueBench$Row") (As := [.int o10]) (rest := []) ⟨hx, hb, hml, hown, htx⟩ (gR_after l hl9 D cT aK aV H.size n a0 a1 o10 f0 v1 v2 o15 hq16) ⟨callB_of 1 htx (xw_goodC kw_2_196) rfl rfl rfl (htx _ kw_1_4) (htx _ kw_3_77) ⟨by decide, by decide, by decide +kernel⟩ ⟨Nat.le_of_ble_eq_true rfl, Nat.le_of_ble_eq_true rfl⟩, (htx _ kw_2_194), (htx _ kw_2_195)⟩ ⟨xPre_blind, va_recv hK hP (ci := 2) rfl (q0 := 0) rfl, (fun U hU hW => ⟨rfl, xPre_of hZ hS hFc hPc hDc hK U hU hW⟩)⟩ rfl rfl hl.1 rfl (lv_room (Nat.le_of_ble_eq_true rfl)) dP_writeList_104 ⟨Nat.le_of_ble_eq_true rfl, Nat.le_of_ble_eq_true rfl⟩) hS (fun q _ h => hFc q h) hFc (fun r17 u9 t H1 locs ht hvm hr9 hB hz1 hk1 hS => ?_)
          obtain ⟨hP1, hK1, hD1⟩ := hB
          rw [ht] at hP1
          obtain ⟨hP, hD⟩ := xjoin (W := [(a2, .inr (1, [.ref a3, .int o13.2.1, .int o13.2.2])), (a3, .inl (cT 0, 4096, .inl o13.1)), (a0, .inr (2, [.ref a1, .int v1, .int v2])), (a1, .inl (cT 2, 4096, .inr (.inl f0)))]) hP hD [0, 1] [2, 3] 2 rfl rfl (by decide) (by decide) hk1 hFc hP1 hD1
          generalize H1 = H at hP hS ⊢
          rw [hr9]
          refine W.eq (g2 := F0 m 107 ls [.int o15]) rfl ?_
          refine lv_istore (lv' := [(5, .int o15), (6, .int y6), (4, .int y4), (0, .ref a0), (1, .int y1), (2, .ref a2), (3, .int y3)]) hx hb dP_writeList_107 hl (by decide) rfl (fun ls hl => ?_)
          refine lv_iinc (v := (y6 + 1)) (lv' := [(6, .int (y6 + 1)), (5, .int o15), (4, .int y4), (0, .ref a0), (1, .int y1), (2, .ref a2), (3, .int y3)]) hx hb dP_writeList_109 hl (k := 1) rfl rfl (by decide) rfl (fun ls hl => ?_)
          refine lv_goto (tgt := 44) hx hb dP_writeList_112 (by decide) ?_
          obtain ⟨hP9, hD9⟩ := xsub (wc := [(a0, .inr (2, [.ref a1, .int v1, .int v2])), (a1, .inl (cT 2, 4096, .inr (.inl f0))), (a2, .inr (1, [.ref a3, .int o13.2.1, .int o13.2.2])), (a3, .inl (cT 0, 4096, .inl o13.1))]) hP hD [2, 3, 0, 1] rfl rfl (by decide)
          exact ih (1, (y6 + 1), o15, y4, y1, y3, o13.1, o13.2.1, o13.2.2) _ _ ls (⟨rfl, hf, hP9, hD9, hS, lv_sub hl [0, 1, 2, 3, 4, 5, 6] rfl⟩)
  refine lv_iload_n hx hb dP_writeList_0 rfl (lv_at hl 3 rfl) ?_
  refine lv_bipush (v := 60) hx hb dP_writeList_1 (by decide) ?_
  refine lv_icmp_lt (tgt := 11) hx hb dP_writeList_3 (by decide) (fun hc => ?_) (fun hc => ?_)
  · rw [if_pos hc] at hf
    refine lv_aload_n hx hb dP_writeList_11 rfl (lv_at hl 0 rfl) ?_
    refine lv_iload_n hx hb dP_writeList_12 rfl (lv_at hl 1 rfl) ?_
    refine lv_bipush (v := 6) hx hb dP_writeList_13 (by decide) ?_
    obtain ⟨o1, hq2, hf⟩ := xbind hf
    obtain ⟨hPc, hDc, hFc⟩ := xcut (wc := [(a0, .inr (2, [.ref a1, .int v1, .int v2])), (a1, .inl (cT 2, 4096, .inr (.inl f0)))]) hP hD hS hA [0, 1] rfl rfl (by decide)
    refine va_calli (va_runV (C := "ValueBench$Row") (As := [.int x1, .int 6]) (rest := []) ⟨hx, hb, hml, hown, htx⟩ (gR_is l hl9 D cT aK aV s.heap.size n a0 a1 x1 (6 : Int32) f0 v1 v2 o1 hq2) ⟨callB_of 2 htx (xw_goodC kw_3_75) rfl rfl rfl (htx _ kw_1_4) (htx _ kw_3_72) ⟨by decide, by decide, by decide +kernel⟩ ⟨Nat.le_of_ble_eq_true rfl, Nat.le_of_ble_eq_true rfl⟩, (htx _ kw_3_73), (htx _ kw_3_74)⟩ ⟨xPre_blind, va_recv hK hP (ci := 2) rfl (q0 := 0) rfl, (fun U hU hW => ⟨rfl, xPre_of hZ hS hFc hPc hDc hK U hU hW⟩)⟩ rfl rfl hl.1 rfl (lv_room (Nat.le_of_ble_eq_true rfl)) dP_writeList_15 ⟨Nat.le_of_ble_eq_true rfl, Nat.le_of_ble_eq_true rfl⟩) hS (fun q _ h => hFc q h) hFc (fun r3 u9 t H1 locs ht hvm hr9 hB hz1 hk1 hS => ?_)
    obtain ⟨hP1, hK1, hD1⟩ := hB
    rw [ht] at hP1
    obtain ⟨hP, hD⟩ := xjoin (W := [(a2, .inr (1, [.ref a3, .int v4, .int v5])), (a3, .inl (cT 0, 4096, .inl f3)), (a0, .inr (2, [.ref a1, .int v1, .int v2])), (a1, .inl (cT 2, 4096, .inr (.inl f0)))]) hP hD [0, 1] [2, 3] 2 rfl rfl (by decide) (by decide) hk1 hFc hP1 hD1
    generalize H1 = H at hP hS ⊢
    rw [hr9]
    refine W.eq (g2 := F0 m 18 ls [.int o1]) rfl ?_
    refine lv_istore (lv' := [(4, .int o1), (0, .ref a0), (1, .int x1), (2, .ref a2), (3, .int x3)]) hx hb dP_writeList_18 hl (by decide) rfl (fun ls hl => ?_)
    refine lv_aload_n hx hb dP_writeList_20 rfl (lv_at hl 3 rfl) ?_
    refine lv_iload hx hb dP_writeList_21 (lv_at hl 0 rfl) ?_
    refine lv_if_eq (tgt := 31) hx hb dP_writeList_23 (by decide) (fun hc => ?_) (fun hc => ?_)
    · rw [if_pos hc] at hf
      refine lv_bipush (v := 91) hx hb dP_writeList_31 (by decide) ?_
      obtain ⟨o4, hq5, hf⟩ := xbind hf
      obtain ⟨hPc, hDc, hFc⟩ := xcut (wc := [(a2, .inr (1, [.ref a3, .int v4, .int v5])), (a3, .inl (cT 0, 4096, .inl f3))]) hP hD hS hA [0, 1] rfl rfl (by decide)
      refine va_callv (va_runV (C := "ValueBench$Text") (As := [.int 91]) (rest := []) ⟨hx, hb, hml, hown, htx⟩ (gT_add l hl9 D cT aK aV H.size n a2 a3 (91 : Int32) f3 v4 v5 o4 hq5) ⟨callB_of 1 htx (xw_goodC kw_1_207) rfl rfl rfl (htx _ kw_1_2) (htx _ kw_3_51) ⟨by decide, by decide, by decide +kernel⟩ ⟨Nat.le_of_ble_eq_true rfl, Nat.le_of_ble_eq_true rfl⟩, (htx _ kw_1_205), (htx _ kw_1_206)⟩ ⟨xPre_blind, va_recv hK hP (ci := 1) rfl (q0 := 0) rfl, (fun U hU hW => ⟨rfl, xPre_of hZ hS hFc hPc hDc hK U hU hW⟩)⟩ rfl rfl hl.1 rfl (lv_room (Nat.le_of_ble_eq_true rfl)) dP_writeList_33 ⟨Nat.le_of_ble_eq_true rfl, Nat.le_of_ble_eq_true rfl⟩) hS (fun q _ h => hFc q h) hFc (fun u9 t H1 locs ht hvm hr9 hB hz1 hk1 hS => ?_)
      obtain ⟨hP1, hK1, hD1⟩ := hB
      rw [ht] at hP1
      obtain ⟨hP, hD⟩ := xjoin (W := [(a0, .inr (2, [.ref a1, .int v1, .int v2])), (a1, .inl (cT 2, 4096, .inr (.inl f0))), (a2, .inr (1, [.ref a3, .int o4.2.1, .int o4.2.2])), (a3, .inl (cT 0, 4096, .inl o4.1))]) hP hD [0, 1] [2, 3] 2 rfl rfl (by decide) (by decide) hk1 hFc hP1 hD1
      generalize H1 = H at hP hS ⊢
      refine lv_iload_n hx hb dP_writeList_36 rfl (lv_at hl 2 rfl) ?_
      refine lv_iconst (v := 1) hx hb dP_writeList_37 (by decide) ?_
      refine lv_iadd hx hb dP_writeList_38 ?_
      refine lv_istore (lv' := [(5, .int (x1 + (1 : Int32))), (4, .int o1), (0, .ref a0), (1, .int x1), (2, .ref a2), (3, .int x3)]) hx hb dP_writeList_39 hl (by decide) rfl (fun ls hl => ?_)
      refine lv_iconst (v := 0) hx hb dP_writeList_41 (by decide) ?_
      refine lv_istore (lv' := [(6, .int 0), (5, .int (x1 + (1 : Int32))), (4, .int o1), (0, .ref a0), (1, .int x1), (2, .ref a2), (3, .int x3)]) hx hb dP_writeList_42 hl (by decide) rfl (fun ls hl => ?_)
      obtain ⟨hP9, hD9⟩ := xsub (wc := [(a0, .inr (2, [.ref a1, .int v1, .int v2])), (a1, .inl (cT 2, 4096, .inr (.inl f0))), (a2, .inr (1, [.ref a3, .int o4.2.1, .int o4.2.2])), (a3, .inl (cT 0, 4096, .inl o4.1))]) hP hD [0, 1, 2, 3] rfl rfl (by decide)
      exact key n (1, 0, (x1 + (1 : Int32)), o1, x1, x3, o4.1, o4.2.1, o4.2.2) _ _ ls (⟨rfl, hf, hP9, hD9, hS, lv_sub hl [0, 1, 2, 3, 4, 5, 6] rfl⟩)
    · rw [if_neg hc] at hf
      refine lv_bipush (v := 123) hx hb dP_writeList_26 (by decide) ?_
      refine lv_goto (tgt := 33) hx hb dP_writeList_28 (by decide) ?_
      obtain ⟨o4, hq5, hf⟩ := xbind hf
      obtain ⟨hPc, hDc, hFc⟩ := xcut (wc := [(a2, .inr (1, [.ref a3, .int v4, .int v5])), (a3, .inl (cT 0, 4096, .inl f3))]) hP hD hS hA [0, 1] rfl rfl (by decide)
      refine va_callv (va_runV (C := "ValueBench$Text") (As := [.int 123]) (rest := []) ⟨hx, hb, hml, hown, htx⟩ (gT_add l hl9 D cT aK aV H.size n a2 a3 (123 : Int32) f3 v4 v5 o4 hq5) ⟨callB_of 1 htx (xw_goodC kw_1_207) rfl rfl rfl (htx _ kw_1_2) (htx _ kw_3_51) ⟨by decide, by decide, by decide +kernel⟩ ⟨Nat.le_of_ble_eq_true rfl, Nat.le_of_ble_eq_true rfl⟩, (htx _ kw_1_205), (htx _ kw_1_206)⟩ ⟨xPre_blind, va_recv hK hP (ci := 1) rfl (q0 := 0) rfl, (fun U hU hW => ⟨rfl, xPre_of hZ hS hFc hPc hDc hK U hU hW⟩)⟩ rfl rfl hl.1 rfl (lv_room (Nat.le_of_ble_eq_true rfl)) dP_writeList_33 ⟨Nat.le_of_ble_eq_true rfl, Nat.le_of_ble_eq_true rfl⟩) hS (fun q _ h => hFc q h) hFc (fun u9 t H1 locs ht hvm hr9 hB hz1 hk1 hS => ?_)
      obtain ⟨hP1, hK1, hD1⟩ := hB
      rw [ht] at hP1
      obtain ⟨hP, hD⟩ := xjoin (W := [(a0, .inr (2, [.ref a1, .int v1, .int v2])), (a1, .inl (cT 2, 4096, .inr (.inl f0))), (a2, .inr (1, [.ref a3, .int o4.2.1, .int o4.2.2])), (a3, .inl (cT 0, 4096, .inl o4.1))]) hP hD [0, 1] [2, 3] 2 rfl rfl (by decide) (by decide) hk1 hFc hP1 hD1
      generalize H1 = H at hP hS ⊢
      refine lv_iload_n hx hb dP_writeList_36 rfl (lv_at hl 2 rfl) ?_
      refine lv_iconst (v := 1) hx hb dP_writeList_37 (by decide) ?_
      refine lv_iadd hx hb dP_writeList_38 ?_
      refine lv_istore (lv' := [(5, .int (x1 + (1 : Int32))), (4, .int o1), (0, .ref a0), (1, .int x1), (2, .ref a2), (3, .int x3)]) hx hb dP_writeList_39 hl (by decide) rfl (fun ls hl => ?_)
      refine lv_iconst (v := 0) hx hb dP_writeList_41 (by decide) ?_
      refine lv_istore (lv' := [(6, .int 0), (5, .int (x1 + (1 : Int32))), (4, .int o1), (0, .ref a0), (1, .int x1), (2, .ref a2), (3, .int x3)]) hx hb dP_writeList_42 hl (by decide) rfl (fun ls hl => ?_)
      obtain ⟨hP9, hD9⟩ := xsub (wc := [(a0, .inr (2, [.ref a1, .int v1, .int v2])), (a1, .inl (cT 2, 4096, .inr (.inl f0))), (a2, .inr (1, [.ref a3, .int o4.2.1, .int o4.2.2])), (a3, .inl (cT 0, 4096, .inl o4.1))]) hP hD [0, 1, 2, 3] rfl rfl (by decide)
      exact key n (1, 0, (x1 + (1 : Int32)), o1, x1, x3, o4.1, o4.2.1, o4.2.2) _ _ ls (⟨rfl, hf, hP9, hD9, hS, lv_sub hl [0, 1, 2, 3, 4, 5, 6] rfl⟩)
  · rw [if_neg hc] at hf
    refine lv_aload_n hx hb dP_writeList_6 rfl (lv_at hl 2 rfl) ?_
    obtain ⟨o1, hq2, hf⟩ := xbind hf
    obtain ⟨hPc, hDc, hFc⟩ := xcut (wc := [(a2, .inr (1, [.ref a3, .int v4, .int v5])), (a3, .inl (cT 0, 4096, .inl f3))]) hP hD hS hA [2, 3] rfl rfl (by decide)
    refine va_callv (va_runV (C := "ValueBench$Text") (As := []) (rest := []) ⟨hx, hb, hml, hown, htx⟩ (gT_setOver l hl9 D cT aK aV s.heap.size n a2 a3 f3 v4 v5 o1 hq2) ⟨callB_of 0 htx (xw_goodC kw_3_71) rfl rfl rfl (htx _ kw_1_2) (htx _ kw_3_68) ⟨by decide, by decide, by decide +kernel⟩ ⟨Nat.le_of_ble_eq_true rfl, Nat.le_of_ble_eq_true rfl⟩, (htx _ kw_3_69), (htx _ kw_3_70)⟩ ⟨xPre_blind, va_recv hK hP (ci := 1) rfl (q0 := 2) rfl, (fun U hU hW => ⟨rfl, xPre_of hZ hS hFc hPc hDc hK U hU hW⟩)⟩ rfl rfl hl.1 rfl (lv_room (Nat.le_of_ble_eq_true rfl)) dP_writeList_7 ⟨Nat.le_of_ble_eq_true rfl, Nat.le_of_ble_eq_true rfl⟩) hS (fun q _ h => hFc q h) hFc (fun u9 t H1 locs ht hvm hr9 hB hz1 hk1 hS => ?_)
    obtain ⟨hP1, hK1, hD1⟩ := hB
    rw [ht] at hP1
    obtain ⟨hP, hD⟩ := xjoin (W := [(a0, .inr (2, [.ref a1, .int v1, .int v2])), (a1, .inl (cT 2, 4096, .inr (.inl f0))), (a2, .inr (1, [.ref a3, .int v4, .int o1])), (a3, .inl (cT 0, 4096, .inl f3))]) hP hD [2, 3] [0, 1] 2 rfl rfl (by decide) (by decide) hk1 hFc hP1 hD1
    generalize H1 = H at hP hS ⊢
    obtain rfl := Option.some.inj hf
    obtain ⟨hP9, hD9⟩ := xsub (wc := [(a0, .inr (2, [.ref a1, .int v1, .int v2])), (a1, .inl (cT 2, 4096, .inr (.inl f0))), (a2, .inr (1, [.ref a3, .int v4, .int o1])), (a3, .inl (cT 0, 4096, .inl f3))]) hP hD [0, 1, 2, 3] rfl rfl (by decide)
    exact W.vret hx hb hr (fun t ht hW => ⟨⟨(), rfl, trivial, by rw [ht]; exact hP9, va_K.moved hW.alike hK, hD9⟩, hS.F ht⟩) hS.2.2 dP_writeList_10
