set_option maxHeartbeats 400000000 in
set_option maxRecDepth 100000 in
theorem gK_putFirsts (l : Launch) (hl9 : l.stackTraces = false) (D : va_G) (cT : Nat → ClassId) (aK aV : Nat → Nat) (sz d n : Nat) (a0 : Nat) (a1 : Nat) (a2 : Nat) (a3 : Nat) (a4 : Nat) (a5 : Nat) (a6 : Nat) (a9 : Nat) (a10 : Nat) (f0 : Nat → Int64) (v1 : Int32) (v2 : Int32) (f3 : Nat → Int64) (v4 : Int32) (v5 : Int32) (f6 : Nat → Int32) (f7 : Nat → Int32) (p8 : Nat) (f9 : Nat → Int32) (p10 : Nat) (f11 : Nat → Int32) (v12 : Int32) (f13 : Nat → Int64) (v14 : Int32) (v15 : Int32) (out : (Nat → Int64) × Int32 × Int32) (hf : fK_putFirsts d n f0 v1 v2 f3 v4 v5 f6 f7 p8 f9 p10 f11 v12 f13 v14 v15 = some out) : xMet l yK_putFirsts wyK_putFirsts (16 * d + 3) 0 0 (400 * d + 105) D cT aK aV sz [.ref a0, .ref a2, .ref a4, .ref a9] [(a0, .inr (2, [.ref a1, .int v1, .int v2])), (a1, .inl (cT 2, 4096, .inr (.inl f0))), (a2, .inr (2, [.ref a3, .int v4, .int v5])), (a3, .inl (cT 2, 4096, .inr (.inl f3))), (a4, .inr (3, [.ref a5, .ref a6, .ref p8, .ref p10, .int v12])), (a5, .inl (cT 1, 2048, .inl f6)), (a6, .inl (cT 1, 2048, .inl f7)), (p8, .inl (cT 1, 2048, .inl f9)), (p10, .inl (cT 1, 2048, .inl f11)), (a9, .inr (2, [.ref a10, .int v14, .int v15])), (a10, .inl (cT 2, 4096, .inr (.inl f13)))] (fun A => va_Qv (fun _ : Unit => True) (fun _ t => xB D xcl cT A [(a0, .inr (2, [.ref a1, .int v1, .int v2])), (a1, .inl (cT 2, 4096, .inr (.inl f0))), (a2, .inr (2, [.ref a3, .int v4, .int v5])), (a3, .inl (cT 2, 4096, .inr (.inl f3))), (a4, .inr (3, [.ref a5, .ref a6, .ref p8, .ref p10, .int v12])), (a5, .inl (cT 1, 2048, .inl f6)), (a6, .inl (cT 1, 2048, .inl f7)), (p8, .inl (cT 1, 2048, .inl f9)), (p10, .inl (cT 1, 2048, .inl f11)), (a9, .inr (2, [.ref a10, .int out.2.1, .int out.2.2])), (a10, .inl (cT 2, 4096, .inr (.inl out.1)))] t) A) := by
  refine Met.ofW (cc := prog_2_method_8_code) (maxL := 7) (ret := none) (by decide) rfl ?_
  intro p e s m args below meth c s₁ B hml hv
  obtain ⟨rfl, hsz, hZ, hP, hK, hD0⟩ := hv
  have hx := B.exec
  have hb := B.bytes
  have hr := B.returns
  have hts := atoms_spec (ws := wyK_putFirsts) B.pre
  have htx := fun w h => hts w (List.mem_cons_of_mem _ h)
  have hown : s.vm.findClass "ValueBench$Keyed" = some m.cls := findClass_of_methodNamed B.named
  have hlocks := B.notSynchronized
  subst hsz
  have hD := hD0.self (sz := s.heap.size)
  generalize hAe : va_A [(a0, .inr (2, [.ref a1, .int v1, .int v2])), (a1, .inl (cT 2, 4096, .inr (.inl f0))), (a2, .inr (2, [.ref a3, .int v4, .int v5])), (a3, .inl (cT 2, 4096, .inr (.inl f3))), (a4, .inr (3, [.ref a5, .ref a6, .ref p8, .ref p10, .int v12])), (a5, .inl (cT 1, 2048, .inl f6)), (a6, .inl (cT 1, 2048, .inl f7)), (p8, .inl (cT 1, 2048, .inl f9)), (p10, .inl (cT 1, 2048, .inl f11)), (a9, .inr (2, [.ref a10, .int v14, .int v15])), (a10, .inl (cT 2, 4096, .inr (.inl f13)))] s.heap.size = A at hD hZ ⊢
  have hA : ∀ q : Nat, s.heap.size ≤ q → A q := fun q h => by rw [← hAe]; exact Or.inr h
  have hS : va_S A s.heap s.heap [] := va_S.rf
  have hP : va_P D xcl [(a0, .inr (2, [.ref a1, .int v1, .int v2])), (a1, .inl (cT 2, 4096, .inr (.inl f0))), (a2, .inr (2, [.ref a3, .int v4, .int v5])), (a3, .inl (cT 2, 4096, .inr (.inl f3))), (a4, .inr (3, [.ref a5, .ref a6, .ref p8, .ref p10, .int v12])), (a5, .inl (cT 1, 2048, .inl f6)), (a6, .inl (cT 1, 2048, .inl f7)), (p8, .inl (cT 1, 2048, .inl f9)), (p10, .inl (cT 1, 2048, .inl f11)), (a9, .inr (2, [.ref a10, .int v14, .int v15])), (a10, .inl (cT 2, 4096, .inr (.inl f13)))] s.heap := hP
  have hl := lv_entry ([.ref a0, .ref a2, .ref a4, .ref a9]) (n := 7) (Nat.le_of_ble_eq_true rfl)
  rw [lg_entry_eq]
  generalize (lg_sl ([.ref a0, .ref a2, .ref a4, .ref a9]) ++ List.replicate (7 - (lg_sl ([.ref a0, .ref a2, .ref a4, .ref a9])).length) Slot.unset).toArray = ls at hl ⊢
  have hl : lv_has ls 7 [(0, .ref a0), (1, .ref a2), (2, .ref a4), (3, .ref a9)] := hl
  unfold fK_putFirsts at hf
  refine xloopK (σ := Nat × Int32 × Int32 × Int32 × (Nat → Int64) × Int32 × Int32) (fun n x H locs ls => (x.1 = 1 ∧ fK_putFirsts_b d f0 v1 v2 f3 v4 v5 f6 f7 p8 f9 p10 f11 v12 n x.1 x.2.1 x.2.2.1 x.2.2.2.1 x.2.2.2.2.1 x.2.2.2.2.2.1 x.2.2.2.2.2.2 = some out ∧ va_P D xcl [(a0, .inr (2, [.ref a1, .int v1, .int v2])), (a1, .inl (cT 2, 4096, .inr (.inl f0))), (a2, .inr (2, [.ref a3, .int v4, .int v5])), (a3, .inl (cT 2, 4096, .inr (.inl f3))), (a4, .inr (3, [.ref a5, .ref a6, .ref p8, .ref p10, .int v12])), (a5, .inl (cT 1, 2048, .inl f6)), (a6, .inl (cT 1, 2048, .inl f7)), (p8, .inl (cT 1, 2048, .inl f9)), (p10, .inl (cT 1, 2048, .inl f11)), (a9, .inr (2, [.ref a10, .int x.2.2.2.2.2.1, .int x.2.2.2.2.2.2])), (a10, .inl (cT 2, 4096, .inr (.inl x.2.2.2.2.1)))] H ∧ va_D A [(a0, .inr (2, [.ref a1, .int v1, .int v2])), (a1, .inl (cT 2, 4096, .inr (.inl f0))), (a2, .inr (2, [.ref a3, .int v4, .int v5])), (a3, .inl (cT 2, 4096, .inr (.inl f3))), (a4, .inr (3, [.ref a5, .ref a6, .ref p8, .ref p10, .int v12])), (a5, .inl (cT 1, 2048, .inl f6)), (a6, .inl (cT 1, 2048, .inl f7)), (p8, .inl (cT 1, 2048, .inl f9)), (p10, .inl (cT 1, 2048, .inl f11)), (a9, .inr (2, [.ref a10, .int x.2.2.2.2.2.1, .int x.2.2.2.2.2.2])), (a10, .inl (cT 2, 4096, .inr (.inl x.2.2.2.2.1)))] ∧ va_S A s.heap H locs ∧ lv_has ls 7 [(6, .int x.2.1), (5, .int x.2.2.1), (4, .int x.2.2.2.1), (0, .ref a0), (1, .ref a2), (2, .ref a4), (3, .ref a9)])) (fun x => 12) (fun x H locs ls h => by exact absurd h.2.1 (by rw [fK_putFirsts_b]; exact fun h => nomatch h)) (fun n ih x H locs ls hv => ?_) (fun key => ?_)
  · obtain ⟨lb, y6, y5, y4, w0, w1, w2⟩ := x
    rcases hv with ⟨hj, hf, hP, hD, hS, hl⟩
    subst hj
    have hf : fK_putFirsts_b d f0 v1 v2 f3 v4 v5 f6 f7 p8 f9 p10 f11 v12 (n + 1) 1 y6 y5 y4 w0 w1 w2 = some out := hf
    rw [fK_putFirsts_b] at hf
    obtain ⟨hP, hD⟩ : xPD D xcl A [(a0, .inr (2, [.ref a1, .int v1, .int v2])), (a1, .inl (cT 2, 4096, .inr (.inl f0))), (a2, .inr (2, [.ref a3, .int v4, .int v5])), (a3, .inl (cT 2, 4096, .inr (.inl f3))), (a4, .inr (3, [.ref a5, .ref a6, .ref p8, .ref p10, .int v12])), (a5, .inl (cT 1, 2048, .inl f6)), (a6, .inl (cT 1, 2048, .inl f7)), (p8, .inl (cT 1, 2048, .inl f9)), (p10, .inl (cT 1, 2048, .inl f11)), (a9, .inr (2, [.ref a10, .int w1, .int w2])), (a10, .inl (cT 2, 4096, .inr (.inl w0)))] H := ⟨hP, hD⟩
    have hl : lv_has ls 7 [(6, .int y6), (5, .int y5), (4, .int y4), (0, .ref a0), (1, .ref a2), (2, .ref a4), (3, .ref a9)] := hl
    refine W.eq (g2 := F0 m 12 ls []) rfl ?_
    refine lv_iload hx hb dK_putFirsts_12 (lv_at hl 0 rfl) ?_
    refine lv_aload_n hx hb dK_putFirsts_14 rfl (lv_at hl 3 rfl) ?_
    refine lv_iconst (v := 0) hx hb dK_putFirsts_15 (by decide) ?_
    obtain ⟨o1, hq2, hf⟩ := xbind hf
    obtain ⟨hPc, hDc, hFc⟩ := xcut (wc := [(a0, .inr (2, [.ref a1, .int v1, .int v2])), (a1, .inl (cT 2, 4096, .inr (.inl f0)))]) hP hD hS hA [0, 1] rfl rfl (by decide)
    refine va_calli (va_runV (C := "ValueBench$Row") (As := [.int 0]) (rest := [.int y6]) ⟨hx, hb, hml, hown, htx⟩ (gR_length l hl9 D cT aK aV H.size n a0 a1 (0 : Int32) f0 v1 v2 o1 hq2) ⟨callB_of 1 htx (xw_goodC kw_2_191) rfl rfl rfl (htx _ kw_1_4) (htx _ kw_5_23) ⟨by decide, by decide, by decide +kernel⟩ ⟨Nat.le_of_ble_eq_true rfl, Nat.le_of_ble_eq_true rfl⟩, (htx _ kw_2_189), (htx _ kw_2_190)⟩ ⟨xPre_blind, va_recv hK hP (ci := 2) rfl (q0 := 0) rfl, (fun U hU hW => ⟨rfl, xPre_of hZ hS hFc hPc hDc hK U hU hW⟩)⟩ rfl rfl hl.1 rfl (lv_room (Nat.le_of_ble_eq_true rfl)) dK_putFirsts_16 ⟨Nat.le_of_ble_eq_true rfl, Nat.le_of_ble_eq_true rfl⟩) hS (fun q _ h => hFc q h) hFc (fun r3 u9 t H1 locs ht hvm hr9 hB hz1 hk1 hS => ?_)
    obtain ⟨hP1, hK1, hD1⟩ := hB
    rw [ht] at hP1
    obtain ⟨hP, hD⟩ := xjoin (W := [(a2, .inr (2, [.ref a3, .int v4, .int v5])), (a3, .inl (cT 2, 4096, .inr (.inl f3))), (a4, .inr (3, [.ref a5, .ref a6, .ref p8, .ref p10, .int v12])), (a5, .inl (cT 1, 2048, .inl f6)), (a6, .inl (cT 1, 2048, .inl f7)), (p8, .inl (cT 1, 2048, .inl f9)), (p10, .inl (cT 1, 2048, .inl f11)), (a9, .inr (2, [.ref a10, .int w1, .int w2])), (a10, .inl (cT 2, 4096, .inr (.inl w0))), (a0, .inr (2, [.ref a1, .int v1, .int v2])), (a1, .inl (cT 2, 4096, .inr (.inl f0)))]) hP hD [0, 1] [2, 3, 4, 5, 6, 7, 8, 9, 10] 9 rfl rfl (by decide) (by decide) hk1 hFc hP1 hD1
    generalize H1 = H at hP hS ⊢
    rw [hr9]
    refine W.eq (g2 := F0 m 19 ls [.int o1, .int y6]) rfl ?_
    refine lv_icmp_ge (tgt := 52) hx hb dK_putFirsts_19 (by decide) (fun hc => ?_) (fun hc => ?_)
    · rw [if_pos hc] at hf
      refine lv_aload_n hx hb dK_putFirsts_52 rfl (lv_at hl 6 rfl) ?_
      refine lv_iload hx hb dK_putFirsts_53 (lv_at hl 2 rfl) ?_
      refine lv_iconst (v := 5) hx hb dK_putFirsts_55 (by decide) ?_
      refine lv_iload hx hb dK_putFirsts_56 (lv_at hl 1 rfl) ?_
      obtain ⟨o4, hq5, hf⟩ := xbind hf
      obtain ⟨hPc, hDc, hFc⟩ := xcut (wc := [(a9, .inr (2, [.ref a10, .int w1, .int w2])), (a10, .inl (cT 2, 4096, .inr (.inl w0)))]) hP hD hS hA [7, 8] rfl rfl (by decide)
      refine va_callv (va_runV (C := "ValueBench$Row") (As := [.int y4, .int 5, .int y5]) (rest := []) ⟨hx, hb, hml, hown, htx⟩ (gR_close l hl9 D cT aK aV H.size n a9 a10 y4 (5 : Int32) y5 w0 w1 w2 o4 hq5) ⟨callB_of 3 htx (xw_goodC kw_2_167) rfl rfl rfl (htx _ kw_1_4) (htx _ kw_5_38) ⟨by decide, by decide, by decide +kernel⟩ ⟨Nat.le_of_ble_eq_true rfl, Nat.le_of_ble_eq_true rfl⟩, (htx _ kw_2_165), (htx _ kw_2_166)⟩ ⟨xPre_blind, va_recv hK hP (ci := 2) rfl (q0 := 7) rfl, (fun U hU hW => ⟨rfl, xPre_of hZ hS hFc hPc hDc hK U hU hW⟩)⟩ rfl rfl hl.1 rfl (lv_room (Nat.le_of_ble_eq_true rfl)) dK_putFirsts_58 ⟨Nat.le_of_ble_eq_true rfl, Nat.le_of_ble_eq_true rfl⟩) hS (fun q _ h => hFc q h) hFc (fun u9 t H1 locs ht hvm hr9 hB hz1 hk1 hS => ?_)
      obtain ⟨hP1, hK1, hD1⟩ := hB
      rw [ht] at hP1
      obtain ⟨hP, hD⟩ := xjoin (W := [(a2, .inr (2, [.ref a3, .int v4, .int v5])), (a3, .inl (cT 2, 4096, .inr (.inl f3))), (a4, .inr (3, [.ref a5, .ref a6, .ref p8, .ref p10, .int v12])), (a5, .inl (cT 1, 2048, .inl f6)), (a6, .inl (cT 1, 2048, .inl f7)), (p8, .inl (cT 1, 2048, .inl f9)), (p10, .inl (cT 1, 2048, .inl f11)), (a0, .inr (2, [.ref a1, .int v1, .int v2])), (a1, .inl (cT 2, 4096, .inr (.inl f0))), (a9, .inr (2, [.ref a10, .int w1, .int w2])), (a10, .inl (cT 2, 4096, .inr (.inl o4)))]) hP hD [7, 8] [0, 1, 2, 3, 4, 5, 6, 9, 10] 9 rfl rfl (by decide) (by decide) hk1 hFc hP1 hD1
      generalize H1 = H at hP hS ⊢
      obtain rfl := Option.some.inj hf
      obtain ⟨hP9, hD9⟩ := xsub (wc := [(a0, .inr (2, [.ref a1, .int v1, .int v2])), (a1, .inl (cT 2, 4096, .inr (.inl f0))), (a2, .inr (2, [.ref a3, .int v4, .int v5])), (a3, .inl (cT 2, 4096, .inr (.inl f3))), (a4, .inr (3, [.ref a5, .ref a6, .ref p8, .ref p10, .int v12])), (a5, .inl (cT 1, 2048, .inl f6)), (a6, .inl (cT 1, 2048, .inl f7)), (p8, .inl (cT 1, 2048, .inl f9)), (p10, .inl (cT 1, 2048, .inl f11)), (a9, .inr (2, [.ref a10, .int w1, .int w2])), (a10, .inl (cT 2, 4096, .inr (.inl o4)))]) hP hD [7, 8, 0, 1, 2, 3, 4, 5, 6, 9, 10] rfl rfl (by decide)
      exact W.vret hx hb hr (fun t ht hW => ⟨⟨(), rfl, trivial, by rw [ht]; exact hP9, va_K.moved hW.alike hK, hD9⟩, hS.F ht⟩) hS.2.2 dK_putFirsts_61
    · rw [if_neg hc] at hf
      refine lv_aload_n hx hb dK_putFirsts_22 rfl (lv_at hl 4 rfl) ?_
      refine lv_iload hx hb dK_putFirsts_23 (lv_at hl 0 rfl) ?_
      refine lv_aload_n hx hb dK_putFirsts_25 rfl (lv_at hl 5 rfl) ?_
      obtain ⟨o4, hq5, hf⟩ := xbind hf
      obtain ⟨hPc, hDc, hFc⟩ := xcut (wc := [(a2, .inr (2, [.ref a3, .int v4, .int v5])), (a3, .inl (cT 2, 4096, .inr (.inl f3))), (a4, .inr (3, [.ref a5, .ref a6, .ref p8, .ref p10, .int v12])), (a5, .inl (cT 1, 2048, .inl f6)), (a6, .inl (cT 1, 2048, .inl f7)), (p8, .inl (cT 1, 2048, .inl f9)), (p10, .inl (cT 1, 2048, .inl f11))]) hP hD hS hA [0, 1, 2, 3, 4, 5, 6] rfl rfl (by decide)
      refine va_calli (va_runS (As := [.ref a2, .int y6, .ref a4]) (rest := []) ⟨hx, hb, hml, hown, htx⟩ (gK_beginsGroup l hl9 D cT aK aV H.size d n a2 a3 a4 a5 a6 y6 f3 v4 v5 f6 f7 p8 f9 p10 f11 v12 o4 hq5) ⟨callB_of 3 htx (xw_goodC kw_5_44) rfl rfl rfl (htx _ kw_1_28) (htx _ kw_5_42) ⟨by decide, by decide, by decide +kernel⟩ ⟨(by show (16 * d + 1) + 1 ≤ 16 * d + 3; omega), (by show 8 + (3 + 11) + (400 * d + 24) ≤ 400 * d + 105; omega)⟩, htx _ kw_5_43⟩ ⟨xPre_blind, (fun U hU hW => ⟨rfl, xPre_of hZ hS hFc hPc hDc hK U hU hW⟩)⟩ rfl rfl hl.1 rfl (lv_room (Nat.le_of_ble_eq_true rfl)) dK_putFirsts_26 ⟨Nat.le_of_ble_eq_true rfl, Nat.le_of_ble_eq_true rfl⟩) hS (fun q _ h => hFc q h) hFc (fun r6 u9 t H1 locs ht hvm hr9 hB hz1 hk1 hS => ?_)
      obtain ⟨hP1, hK1, hD1⟩ := hB
      rw [ht] at hP1
      obtain ⟨hP, hD⟩ := xjoin (W := [(a9, .inr (2, [.ref a10, .int w1, .int w2])), (a10, .inl (cT 2, 4096, .inr (.inl w0))), (a0, .inr (2, [.ref a1, .int v1, .int v2])), (a1, .inl (cT 2, 4096, .inr (.inl f0))), (a2, .inr (2, [.ref a3, .int v4, .int v5])), (a3, .inl (cT 2, 4096, .inr (.inl f3))), (a4, .inr (3, [.ref a5, .ref a6, .ref p8, .ref p10, .int v12])), (a5, .inl (cT 1, 2048, .inl f6)), (a6, .inl (cT 1, 2048, .inl f7)), (p8, .inl (cT 1, 2048, .inl f9)), (p10, .inl (cT 1, 2048, .inl f11))]) hP hD [0, 1, 2, 3, 4, 5, 6] [7, 8, 9, 10] 4 rfl rfl (by decide) (by decide) hk1 hFc hP1 hD1
      generalize H1 = H at hP hS ⊢
      rw [hr9]
      refine W.eq (g2 := F0 m 29 ls [.int o4]) rfl ?_
      refine lv_if_eq (tgt := 46) hx hb dK_putFirsts_29 (by decide) (fun hc => ?_) (fun hc => ?_)
      · rw [if_pos hc] at hf
        refine lv_iinc (v := (y6 + 1)) (lv' := [(6, .int (y6 + 1)), (5, .int y5), (4, .int y4), (0, .ref a0), (1, .ref a2), (2, .ref a4), (3, .ref a9)]) hx hb dK_putFirsts_46 hl (k := 0) rfl rfl (by decide) rfl (fun ls hl => ?_)
        refine lv_goto (tgt := 12) hx hb dK_putFirsts_49 (by decide) ?_
        obtain ⟨hP9, hD9⟩ := xsub (wc := [(a0, .inr (2, [.ref a1, .int v1, .int v2])), (a1, .inl (cT 2, 4096, .inr (.inl f0))), (a2, .inr (2, [.ref a3, .int v4, .int v5])), (a3, .inl (cT 2, 4096, .inr (.inl f3))), (a4, .inr (3, [.ref a5, .ref a6, .ref p8, .ref p10, .int v12])), (a5, .inl (cT 1, 2048, .inl f6)), (a6, .inl (cT 1, 2048, .inl f7)), (p8, .inl (cT 1, 2048, .inl f9)), (p10, .inl (cT 1, 2048, .inl f11)), (a9, .inr (2, [.ref a10, .int w1, .int w2])), (a10, .inl (cT 2, 4096, .inr (.inl w0)))]) hP hD [2, 3, 4, 5, 6, 7, 8, 9, 10, 0, 1] rfl rfl (by decide)
        exact ih (1, (y6 + 1), y5, y4, w0, w1, w2) _ _ ls (⟨rfl, hf, hP9, hD9, hS, lv_sub hl [0, 1, 2, 3, 4, 5, 6] rfl⟩)
      · rw [if_neg hc] at hf
        refine lv_aload_n hx hb dK_putFirsts_32 rfl (lv_at hl 6 rfl) ?_
        refine lv_aload_n hx hb dK_putFirsts_33 rfl (lv_at hl 3 rfl) ?_
        refine lv_aload_n hx hb dK_putFirsts_34 rfl (lv_at hl 5 rfl) ?_
        refine lv_iload hx hb dK_putFirsts_35 (lv_at hl 0 rfl) ?_
        obtain ⟨o7, hq8, hf⟩ := xbind hf
        obtain ⟨hPc, hDc, hFc⟩ := xcut (wc := [(a4, .inr (3, [.ref a5, .ref a6, .ref p8, .ref p10, .int v12])), (a5, .inl (cT 1, 2048, .inl f6)), (a6, .inl (cT 1, 2048, .inl f7)), (p8, .inl (cT 1, 2048, .inl f9)), (p10, .inl (cT 1, 2048, .inl f11))]) hP hD hS hA [6, 7, 8, 9, 10] rfl rfl (by decide)
        refine va_calli (va_runV (C := "ValueBench$Sorter") (As := [.int y6]) (rest := [.ref a0, .ref a9]) ⟨hx, hb, hml, hown, htx⟩ (gS_elementAtTurn l hl9 D cT aK aV H.size n a4 a5 a6 y6 f6 f7 p8 f9 p10 f11 v12 o7 hq8) ⟨callB_of 1 htx (xw_goodC kw_5_36) rfl rfl rfl (htx _ kw_1_3) (htx _ kw_5_33) ⟨by decide, by decide, by decide +kernel⟩ ⟨Nat.le_of_ble_eq_true rfl, Nat.le_of_ble_eq_true rfl⟩, (htx _ kw_5_34), (htx _ kw_5_35)⟩ ⟨xPre_blind, va_recv hK hP (ci := 3) rfl (q0 := 6) rfl, (fun U hU hW => ⟨rfl, xPre_of hZ hS hFc hPc hDc hK U hU hW⟩)⟩ rfl rfl hl.1 rfl (lv_room (Nat.le_of_ble_eq_true rfl)) dK_putFirsts_37 ⟨Nat.le_of_ble_eq_true rfl, Nat.le_of_ble_eq_true rfl⟩) hS (fun q _ h => hFc q h) hFc (fun r9 u9 t H1 locs ht hvm hr9 hB hz1 hk1 hS => ?_)
        obtain ⟨hP1, hK1, hD1⟩ := hB
        rw [ht] at hP1
        obtain ⟨hP, hD⟩ := xjoin (W := [(a9, .inr (2, [.ref a10, .int w1, .int w2])), (a10, .inl (cT 2, 4096, .inr (.inl w0))), (a0, .inr (2, [.ref a1, .int v1, .int v2])), (a1, .inl (cT 2, 4096, .inr (.inl f0))), (a2, .inr (2, [.ref a3, .int v4, .int v5])), (a3, .inl (cT 2, 4096, .inr (.inl f3))), (a4, .inr (3, [.ref a5, .ref a6, .ref p8, .ref p10, .int v12])), (a5, .inl (cT 1, 2048, .inl f6)), (a6, .inl (cT 1, 2048, .inl f7)), (p8, .inl (cT 1, 2048, .inl f9)), (p10, .inl (cT 1, 2048, .inl f11))]) hP hD [6, 7, 8, 9, 10] [0, 1, 2, 3, 4, 5] 6 rfl rfl (by decide) (by decide) hk1 hFc hP1 hD1
        generalize H1 = H at hP hS ⊢
        rw [hr9]
        refine W.eq (g2 := F0 m 40 ls [.int o7, .ref a0, .ref a9]) rfl ?_
        obtain ⟨o10, hq11, hf⟩ := xbind hf
        obtain ⟨hPc, hDc, hFc⟩ := xcut (wc := [(a9, .inr (2, [.ref a10, .int w1, .int w2])), (a10, .inl (cT 2, 4096, .inr (.inl w0))), (a0, .inr (2, [.ref a1, .int v1, .int v2])), (a1, .inl (cT 2, 4096, .inr (.inl f0)))]) hP hD hS hA [0, 1, 2, 3] rfl rfl (by decide)
        refine va_callv (va_runV (C := "ValueBench$Row") (As := [.ref a0, .int o7]) (rest := []) ⟨hx, hb, hml, hown, htx⟩ (gR_putCopy l hl9 D cT aK aV H.size n a9 a10 a0 a1 o7 w0 w1 w2 f0 v1 v2 o10 hq11) ⟨callB_of 2 htx (xw_goodC kw_3_126) rfl rfl rfl (htx _ kw_1_4) (htx _ kw_5_37) ⟨by decide, by decide, by decide +kernel⟩ ⟨Nat.le_of_ble_eq_true rfl, Nat.le_of_ble_eq_true rfl⟩, (htx _ kw_3_124), (htx _ kw_3_125)⟩ ⟨xPre_blind, va_recv hK hP (ci := 2) rfl (q0 := 0) rfl, (fun U hU hW => ⟨rfl, xPre_of hZ hS hFc hPc hDc hK U hU hW⟩)⟩ rfl rfl hl.1 rfl (lv_room (Nat.le_of_ble_eq_true rfl)) dK_putFirsts_40 ⟨Nat.le_of_ble_eq_true rfl, Nat.le_of_ble_eq_true rfl⟩) hS (fun q _ h => hFc q h) hFc (fun u9 t H1 locs ht hvm hr9 hB hz1 hk1 hS => ?_)
        obtain ⟨hP1, hK1, hD1⟩ := hB
        rw [ht] at hP1
        obtain ⟨hP, hD⟩ := xjoin (W := [(a2, .inr (2, [.ref a3, .int v4, .int v5])), (a3, .inl (cT 2, 4096, .inr (.inl f3))), (a4, .inr (3, [.ref a5, .ref a6, .ref p8, .ref p10, .int v12])), (a5, .inl (cT 1, 2048, .inl f6)), (a6, .inl (cT 1, 2048, .inl f7)), (p8, .inl (cT 1, 2048, .inl f9)), (p10, .inl (cT 1, 2048, .inl f11)), (a9, .inr (2, [.ref a10, .int o10.2.1, .int o10.2.2])), (a10, .inl (cT 2, 4096, .inr (.inl o10.1))), (a0, .inr (2, [.ref a1, .int v1, .int v2])), (a1, .inl (cT 2, 4096, .inr (.inl f0)))]) hP hD [0, 1, 2, 3] [4, 5, 6, 7, 8, 9, 10] 7 rfl rfl (by decide) (by decide) hk1 hFc hP1 hD1
        generalize H1 = H at hP hS ⊢
        refine lv_iinc (v := (y5 + 1)) (lv' := [(5, .int (y5 + 1)), (6, .int y6), (4, .int y4), (0, .ref a0), (1, .ref a2), (2, .ref a4), (3, .ref a9)]) hx hb dK_putFirsts_43 hl (k := 1) rfl rfl (by decide) rfl (fun ls hl => ?_)
        refine lv_iinc (v := (y6 + 1)) (lv' := [(6, .int (y6 + 1)), (5, .int (y5 + 1)), (4, .int y4), (0, .ref a0), (1, .ref a2), (2, .ref a4), (3, .ref a9)]) hx hb dK_putFirsts_46 hl (k := 1) rfl rfl (by decide) rfl (fun ls hl => ?_)
        refine lv_goto (tgt := 12) hx hb dK_putFirsts_49 (by decide) ?_
        obtain ⟨hP9, hD9⟩ := xsub (wc := [(a0, .inr (2, [.ref a1, .int v1, .int v2])), (a1, .inl (cT 2, 4096, .inr (.inl f0))), (a2, .inr (2, [.ref a3, .int v4, .int v5])), (a3, .inl (cT 2, 4096, .inr (.inl f3))), (a4, .inr (3, [.ref a5, .ref a6, .ref p8, .ref p10, .int v12])), (a5, .inl (cT 1, 2048, .inl f6)), (a6, .inl (cT 1, 2048, .inl f7)), (p8, .inl (cT 1, 2048, .inl f9)), (p10, .inl (cT 1, 2048, .inl f11)), (a9, .inr (2, [.ref a10, .int o10.2.1, .int o10.2.2])), (a10, .inl (cT 2, 4096, .inr (.inl o10.1)))]) hP hD [9, 10, 0, 1, 2, 3, 4, 5, 6, 7, 8] rfl rfl (by decide)
        exact ih (1, (y6 + 1), (y5 + 1), y4, o10.1, o10.2.1, o10.2.2) _ _ ls (⟨rfl, hf, hP9, hD9, hS, lv_sub hl [0, 1, 2, 3, 4, 5, 6] rfl⟩)
  refine lv_aload_n hx hb dK_putFirsts_0 rfl (lv_at hl 3 rfl) ?_
  obtain ⟨o1, hq2, hf⟩ := xbind hf
  obtain ⟨hPc, hDc, hFc⟩ := xcut (wc := [(a9, .inr (2, [.ref a10, .int v14, .int v15])), (a10, .inl (cT 2, 4096, .inr (.inl f13)))]) hP hD hS hA [9, 10] rfl rfl (by decide)
  refine va_calli (va_runV (C := "ValueBench$Row") (As := []) (rest := []) ⟨hx, hb, hml, hown, htx⟩ (gR_open l hl9 D cT aK aV s.heap.size n a9 a10 f13 v14 v15 o1 hq2) ⟨callB_of 0 htx (xw_goodC kw_2_136) rfl rfl rfl (htx _ kw_1_4) (htx _ kw_5_32) ⟨by decide, by decide, by decide +kernel⟩ ⟨Nat.le_of_ble_eq_true rfl, Nat.le_of_ble_eq_true rfl⟩, (htx _ kw_2_134), (htx _ kw_2_135)⟩ ⟨xPre_blind, va_recv hK hP (ci := 2) rfl (q0 := 9) rfl, (fun U hU hW => ⟨rfl, xPre_of hZ hS hFc hPc hDc hK U hU hW⟩)⟩ rfl rfl hl.1 rfl (lv_room (Nat.le_of_ble_eq_true rfl)) dK_putFirsts_1 ⟨Nat.le_of_ble_eq_true rfl, Nat.le_of_ble_eq_true rfl⟩) hS (fun q _ h => hFc q h) hFc (fun r3 u9 t H1 locs ht hvm hr9 hB hz1 hk1 hS => ?_)
  obtain ⟨hP1, hK1, hD1⟩ := hB
  rw [ht] at hP1
  obtain ⟨hP, hD⟩ := xjoin (W := [(a0, .inr (2, [.ref a1, .int v1, .int v2])), (a1, .inl (cT 2, 4096, .inr (.inl f0))), (a2, .inr (2, [.ref a3, .int v4, .int v5])), (a3, .inl (cT 2, 4096, .inr (.inl f3))), (a4, .inr (3, [.ref a5, .ref a6, .ref p8, .ref p10, .int v12])), (a5, .inl (cT 1, 2048, .inl f6)), (a6, .inl (cT 1, 2048, .inl f7)), (p8, .inl (cT 1, 2048, .inl f9)), (p10, .inl (cT 1, 2048, .inl f11)), (a9, .inr (2, [.ref a10, .int o1.2.2.1, .int o1.2.2.2])), (a10, .inl (cT 2, 4096, .inr (.inl o1.2.1)))]) hP hD [9, 10] [0, 1, 2, 3, 4, 5, 6, 7, 8] 9 rfl rfl (by decide) (by decide) hk1 hFc hP1 hD1
  generalize H1 = H at hP hS ⊢
  rw [hr9]
  refine W.eq (g2 := F0 m 4 ls [.int o1.1]) rfl ?_
  refine lv_istore (lv' := [(4, .int o1.1), (0, .ref a0), (1, .ref a2), (2, .ref a4), (3, .ref a9)]) hx hb dK_putFirsts_4 hl (by decide) rfl (fun ls hl => ?_)
  refine lv_iconst (v := 0) hx hb dK_putFirsts_6 (by decide) ?_
  refine lv_istore (lv' := [(5, .int 0), (4, .int o1.1), (0, .ref a0), (1, .ref a2), (2, .ref a4), (3, .ref a9)]) hx hb dK_putFirsts_7 hl (by decide) rfl (fun ls hl => ?_)
  refine lv_iconst (v := 0) hx hb dK_putFirsts_9 (by decide) ?_
  refine lv_istore (lv' := [(6, .int 0), (5, .int 0), (4, .int o1.1), (0, .ref a0), (1, .ref a2), (2, .ref a4), (3, .ref a9)]) hx hb dK_putFirsts_10 hl (by decide) rfl (fun ls hl => ?_)
  obtain ⟨hP9, hD9⟩ := xsub (wc := [(a0, .inr (2, [.ref a1, .int v1, .int v2])), (a1, .inl (cT 2, 4096, .inr (.inl f0))), (a2, .inr (2, [.ref a3, .int v4, .int v5])), (a3, .inl (cT 2, 4096, .inr (.inl f3))), (a4, .inr (3, [.ref a5, .ref a6, .ref p8, .ref p10, .int v12])), (a5, .inl (cT 1, 2048, .inl f6)), (a6, .inl (cT 1, 2048, .inl f7)), (p8, .inl (cT 1, 2048, .inl f9)), (p10, .inl (cT 1, 2048, .inl f11)), (a9, .inr (2, [.ref a10, .int o1.2.2.1, .int o1.2.2.2])), (a10, .inl (cT 2, 4096, .inr (.inl o1.2.1)))]) hP hD [0, 1, 2, 3, 4, 5, 6, 7, 8, 9, 10] rfl rfl (by decide)
  exact key n (1, 0, 0, o1.1, o1.2.1, o1.2.2.1, o1.2.2.2) _ _ ls (⟨rfl, hf, hP9, hD9, hS, lv_sub hl [0, 1, 2, 3, 4, 5, 6] rfl⟩)
set_option maxHeartbeats 400000000 in
set_option maxRecDepth 100000 in
theorem gK_putTurnOrNull (l : Launch) (hl9 : l.stackTraces = false) (D : va_G) (cT : Nat → ClassId) (aK aV : Nat → Nat) (sz n : Nat) (a0 : Nat) (a1 : Nat) (a2 : Nat) (a3 : Nat) (a4 : Nat) (a7 : Nat) (a8 : Nat) (x1 : Int32) (f0 : Nat → Int64) (v1 : Int32) (v2 : Int32) (f3 : Nat → Int32) (f4 : Nat → Int32) (p5 : Nat) (f6 : Nat → Int32) (p7 : Nat) (f8 : Nat → Int32) (v9 : Int32) (f10 : Nat → Int64) (v11 : Int32) (v12 : Int32) (out : (Nat → Int64) × Int32 × Int32) (hf : fK_putTurnOrNull n x1 f0 v1 v2 f3 f4 p5 f6 p7 f8 v9 f10 v11 v12 = some out) : xMet l yK_putTurnOrNull wyK_putTurnOrNull 3 0 0 105 D cT aK aV sz [.ref a0, .int x1, .ref a2, .ref a7] [(a0, .inr (2, [.ref a1, .int v1, .int v2])), (a1, .inl (cT 2, 4096, .inr (.inl f0))), (a2, .inr (3, [.ref a3, .ref a4, .ref p5, .ref p7, .int v9])), (a3, .inl (cT 1, 2048, .inl f3)), (a4, .inl (cT 1, 2048, .inl f4)), (p5, .inl (cT 1, 2048, .inl f6)), (p7, .inl (cT 1, 2048, .inl f8)), (a7, .inr (2, [.ref a8, .int v11, .int v12])), (a8, .inl (cT 2, 4096, .inr (.inl f10)))] (fun A => va_Qv (fun _ : Unit => True) (fun _ t => xB D xcl cT A [(a0, .inr (2, [.ref a1, .int v1, .int v2])), (a1, .inl (cT 2, 4096, .inr (.inl f0))), (a2, .inr (3, [.ref a3, .ref a4, .ref p5, .ref p7, .int v9])), (a3, .inl (cT 1, 2048, .inl f3)), (a4, .inl (cT 1, 2048, .inl f4)), (p5, .inl (cT 1, 2048, .inl f6)), (p7, .inl (cT 1, 2048, .inl f8)), (a7, .inr (2, [.ref a8, .int out.2.1, .int out.2.2])), (a8, .inl (cT 2, 4096, .inr (.inl out.1)))] t) A) := by
  refine Met.ofW (cc := prog_2_method_4_code) (maxL := 4) (ret := none) (by decide) rfl ?_
  intro p e s m args below meth c s₁ B hml hv
  obtain ⟨rfl, hsz, hZ, hP, hK, hD0⟩ := hv
  have hx := B.exec
  have hb := B.bytes
  have hr := B.returns
  have hts := atoms_spec (ws := wyK_putTurnOrNull) B.pre
  have htx := fun w h => hts w (List.mem_cons_of_mem _ h)
  have hown : s.vm.findClass "ValueBench$Keyed" = some m.cls := findClass_of_methodNamed B.named
  have hlocks := B.notSynchronized
  subst hsz
  have hD := hD0.self (sz := s.heap.size)
  generalize hAe : va_A [(a0, .inr (2, [.ref a1, .int v1, .int v2])), (a1, .inl (cT 2, 4096, .inr (.inl f0))), (a2, .inr (3, [.ref a3, .ref a4, .ref p5, .ref p7, .int v9])), (a3, .inl (cT 1, 2048, .inl f3)), (a4, .inl (cT 1, 2048, .inl f4)), (p5, .inl (cT 1, 2048, .inl f6)), (p7, .inl (cT 1, 2048, .inl f8)), (a7, .inr (2, [.ref a8, .int v11, .int v12])), (a8, .inl (cT 2, 4096, .inr (.inl f10)))] s.heap.size = A at hD hZ ⊢
  have hA : ∀ q : Nat, s.heap.size ≤ q → A q := fun q h => by rw [← hAe]; exact Or.inr h
  have hS : va_S A s.heap s.heap [] := va_S.rf
  have hP : va_P D xcl [(a0, .inr (2, [.ref a1, .int v1, .int v2])), (a1, .inl (cT 2, 4096, .inr (.inl f0))), (a2, .inr (3, [.ref a3, .ref a4, .ref p5, .ref p7, .int v9])), (a3, .inl (cT 1, 2048, .inl f3)), (a4, .inl (cT 1, 2048, .inl f4)), (p5, .inl (cT 1, 2048, .inl f6)), (p7, .inl (cT 1, 2048, .inl f8)), (a7, .inr (2, [.ref a8, .int v11, .int v12])), (a8, .inl (cT 2, 4096, .inr (.inl f10)))] s.heap := hP
  have hl := lv_entry ([.ref a0, .int x1, .ref a2, .ref a7]) (n := 4) (Nat.le_of_ble_eq_true rfl)
  rw [lg_entry_eq]
  generalize (lg_sl ([.ref a0, .int x1, .ref a2, .ref a7]) ++ List.replicate (4 - (lg_sl ([.ref a0, .int x1, .ref a2, .ref a7])).length) Slot.unset).toArray = ls at hl ⊢
  have hl : lv_has ls 4 [(0, .ref a0), (1, .int x1), (2, .ref a2), (3, .ref a7)] := hl
  unfold fK_putTurnOrNull at hf
  refine lv_aload_n hx hb dK_putTurnOrNull_0 rfl (lv_at hl 0 rfl) ?_
  refine lv_iconst (v := 0) hx hb dK_putTurnOrNull_1 (by decide) ?_
  obtain ⟨o1, hq2, hf⟩ := xbind hf
  obtain ⟨hPc, hDc, hFc⟩ := xcut (wc := [(a0, .inr (2, [.ref a1, .int v1, .int v2])), (a1, .inl (cT 2, 4096, .inr (.inl f0)))]) hP hD hS hA [0, 1] rfl rfl (by decide)
  refine va_calli (va_runV (C := "ValueBench$Row") (As := [.int 0]) (rest := []) ⟨hx, hb, hml, hown, htx⟩ (gR_length l hl9 D cT aK aV s.heap.size n a0 a1 (0 : Int32) f0 v1 v2 o1 hq2) ⟨callB_of 1 htx (xw_goodC kw_2_191) rfl rfl rfl (htx _ kw_1_4) (htx _ kw_5_23) ⟨by decide, by decide, by decide +kernel⟩ ⟨Nat.le_of_ble_eq_true rfl, Nat.le_of_ble_eq_true rfl⟩, (htx _ kw_2_189), (htx _ kw_2_190)⟩ ⟨xPre_blind, va_recv hK hP (ci := 2) rfl (q0 := 0) rfl, (fun U hU hW => ⟨rfl, xPre_of hZ hS hFc hPc hDc hK U hU hW⟩)⟩ rfl rfl hl.1 rfl (lv_room (Nat.le_of_ble_eq_true rfl)) dK_putTurnOrNull_2 ⟨Nat.le_of_ble_eq_true rfl, Nat.le_of_ble_eq_true rfl⟩) hS (fun q _ h => hFc q h) hFc (fun r3 u9 t H1 locs ht hvm hr9 hB hz1 hk1 hS => ?_)
  obtain ⟨hP1, hK1, hD1⟩ := hB
  rw [ht] at hP1
  obtain ⟨hP, hD⟩ := xjoin (W := [(a2, .inr (3, [.ref a3, .ref a4, .ref p5, .ref p7, .int v9])), (a3, .inl (cT 1, 2048, .inl f3)), (a4, .inl (cT 1, 2048, .inl f4)), (p5, .inl (cT 1, 2048, .inl f6)), (p7, .inl (cT 1, 2048, .inl f8)), (a7, .inr (2, [.ref a8, .int v11, .int v12])), (a8, .inl (cT 2, 4096, .inr (.inl f10))), (a0, .inr (2, [.ref a1, .int v1, .int v2])), (a1, .inl (cT 2, 4096, .inr (.inl f0)))]) hP hD [0, 1] [2, 3, 4, 5, 6, 7, 8] 7 rfl rfl (by decide) (by decide) hk1 hFc hP1 hD1
  generalize H1 = H at hP hS ⊢
  rw [hr9]
  refine W.eq (g2 := F0 m 5 ls [.int o1]) rfl ?_
  refine lv_if_ne (tgt := 15) hx hb dK_putTurnOrNull_5 (by decide) (fun hc => ?_) (fun hc => ?_)
  · rw [if_neg hc] at hf
    refine lv_aload_n hx hb dK_putTurnOrNull_15 rfl (lv_at hl 3 rfl) ?_
    refine lv_aload_n hx hb dK_putTurnOrNull_16 rfl (lv_at hl 0 rfl) ?_
    refine lv_aload_n hx hb dK_putTurnOrNull_17 rfl (lv_at hl 2 rfl) ?_
    refine lv_iload_n hx hb dK_putTurnOrNull_18 rfl (lv_at hl 1 rfl) ?_
    obtain ⟨o4, hq5, hf⟩ := xbind hf
    obtain ⟨hPc, hDc, hFc⟩ := xcut (wc := [(a2, .inr (3, [.ref a3, .ref a4, .ref p5, .ref p7, .int v9])), (a3, .inl (cT 1, 2048, .inl f3)), (a4, .inl (cT 1, 2048, .inl f4)), (p5, .inl (cT 1, 2048, .inl f6)), (p7, .inl (cT 1, 2048, .inl f8))]) hP hD hS hA [0, 1, 2, 3, 4] rfl rfl (by decide)
    refine va_calli (va_runV (C := "ValueBench$Sorter") (As := [.int x1]) (rest := [.ref a0, .ref a7]) ⟨hx, hb, hml, hown, htx⟩ (gS_elementAtTurn l hl9 D cT aK aV H.size n a2 a3 a4 x1 f3 f4 p5 f6 p7 f8 v9 o4 hq5) ⟨callB_of 1 htx (xw_goodC kw_5_36) rfl rfl rfl (htx _ kw_1_3) (htx _ kw_5_33) ⟨by decide, by decide, by decide +kernel⟩ ⟨Nat.le_of_ble_eq_true rfl, Nat.le_of_ble_eq_true rfl⟩, (htx _ kw_5_34), (htx _ kw_5_35)⟩ ⟨xPre_blind, va_recv hK hP (ci := 3) rfl (q0 := 0) rfl, (fun U hU hW => ⟨rfl, xPre_of hZ hS hFc hPc hDc hK U hU hW⟩)⟩ rfl rfl hl.1 rfl (lv_room (Nat.le_of_ble_eq_true rfl)) dK_putTurnOrNull_19 ⟨Nat.le_of_ble_eq_true rfl, Nat.le_of_ble_eq_true rfl⟩) hS (fun q _ h => hFc q h) hFc (fun r6 u9 t H1 locs ht hvm hr9 hB hz1 hk1 hS => ?_)
    obtain ⟨hP1, hK1, hD1⟩ := hB
    rw [ht] at hP1
    obtain ⟨hP, hD⟩ := xjoin (W := [(a7, .inr (2, [.ref a8, .int v11, .int v12])), (a8, .inl (cT 2, 4096, .inr (.inl f10))), (a0, .inr (2, [.ref a1, .int v1, .int v2])), (a1, .inl (cT 2, 4096, .inr (.inl f0))), (a2, .inr (3, [.ref a3, .ref a4, .ref p5, .ref p7, .int v9])), (a3, .inl (cT 1, 2048, .inl f3)), (a4, .inl (cT 1, 2048, .inl f4)), (p5, .inl (cT 1, 2048, .inl f6)), (p7, .inl (cT 1, 2048, .inl f8))]) hP hD [0, 1, 2, 3, 4] [5, 6, 7, 8] 4 rfl rfl (by decide) (by decide) hk1 hFc hP1 hD1
    generalize H1 = H at hP hS ⊢
    rw [hr9]
    refine W.eq (g2 := F0 m 22 ls [.int o4, .ref a0, .ref a7]) rfl ?_
    obtain ⟨o7, hq8, hf⟩ := xbind hf
    obtain ⟨hPc, hDc, hFc⟩ := xcut (wc := [(a7, .inr (2, [.ref a8, .int v11, .int v12])), (a8, .inl (cT 2, 4096, .inr (.inl f10))), (a0, .inr (2, [.ref a1, .int v1, .int v2])), (a1, .inl (cT 2, 4096, .inr (.inl f0)))]) hP hD hS hA [0, 1, 2, 3] rfl rfl (by decide)
    refine va_callv (va_runV (C := "ValueBench$Row") (As := [.ref a0, .int o4]) (rest := []) ⟨hx, hb, hml, hown, htx⟩ (gR_putCopy l hl9 D cT aK aV H.size n a7 a8 a0 a1 o4 f10 v11 v12 f0 v1 v2 o7 hq8) ⟨callB_of 2 htx (xw_goodC kw_3_126) rfl rfl rfl (htx _ kw_1_4) (htx _ kw_5_37) ⟨by decide, by decide, by decide +kernel⟩ ⟨Nat.le_of_ble_eq_true rfl, Nat.le_of_ble_eq_true rfl⟩, (htx _ kw_3_124), (htx _ kw_3_125)⟩ ⟨xPre_blind, va_recv hK hP (ci := 2) rfl (q0 := 0) rfl, (fun U hU hW => ⟨rfl, xPre_of hZ hS hFc hPc hDc hK U hU hW⟩)⟩ rfl rfl hl.1 rfl (lv_room (Nat.le_of_ble_eq_true rfl)) dK_putTurnOrNull_22 ⟨Nat.le_of_ble_eq_true rfl, Nat.le_of_ble_eq_true rfl⟩) hS (fun q _ h => hFc q h) hFc (fun u9 t H1 locs ht hvm hr9 hB hz1 hk1 hS => ?_)
    obtain ⟨hP1, hK1, hD1⟩ := hB
    rw [ht] at hP1
    obtain ⟨hP, hD⟩ := xjoin (W := [(a2, .inr (3, [.ref a3, .ref a4, .ref p5, .ref p7, .int v9])), (a3, .inl (cT 1, 2048, .inl f3)), (a4, .inl (cT 1, 2048, .inl f4)), (p5, .inl (cT 1, 2048, .inl f6)), (p7, .inl (cT 1, 2048, .inl f8)), (a7, .inr (2, [.ref a8, .int o7.2.1, .int o7.2.2])), (a8, .inl (cT 2, 4096, .inr (.inl o7.1))), (a0, .inr (2, [.ref a1, .int v1, .int v2])), (a1, .inl (cT 2, 4096, .inr (.inl f0)))]) hP hD [0, 1, 2, 3] [4, 5, 6, 7, 8] 5 rfl rfl (by decide) (by decide) hk1 hFc hP1 hD1
    generalize H1 = H at hP hS ⊢
    obtain rfl := Option.some.inj hf
    obtain ⟨hP9, hD9⟩ := xsub (wc := [(a0, .inr (2, [.ref a1, .int v1, .int v2])), (a1, .inl (cT 2, 4096, .inr (.inl f0))), (a2, .inr (3, [.ref a3, .ref a4, .ref p5, .ref p7, .int v9])), (a3, .inl (cT 1, 2048, .inl f3)), (a4, .inl (cT 1, 2048, .inl f4)), (p5, .inl (cT 1, 2048, .inl f6)), (p7, .inl (cT 1, 2048, .inl f8)), (a7, .inr (2, [.ref a8, .int o7.2.1, .int o7.2.2])), (a8, .inl (cT 2, 4096, .inr (.inl o7.1)))]) hP hD [7, 8, 0, 1, 2, 3, 4, 5, 6] rfl rfl (by decide)
    exact W.vret hx hb hr (fun t ht hW => ⟨⟨(), rfl, trivial, by rw [ht]; exact hP9, va_K.moved hW.alike hK, hD9⟩, hS.F ht⟩) hS.2.2 dK_putTurnOrNull_25
  · rw [if_pos hc] at hf
    refine lv_aload_n hx hb dK_putTurnOrNull_8 rfl (lv_at hl 3 rfl) ?_
    obtain ⟨o4, hq5, hf⟩ := xbind hf
    obtain ⟨hPc, hDc, hFc⟩ := xcut (wc := [(a7, .inr (2, [.ref a8, .int v11, .int v12])), (a8, .inl (cT 2, 4096, .inr (.inl f10)))]) hP hD hS hA [5, 6] rfl rfl (by decide)
    refine va_callv (va_runV (C := "ValueBench$Row") (As := []) (rest := []) ⟨hx, hb, hml, hown, htx⟩ (gR_putNull l hl9 D cT aK aV H.size n a7 a8 f10 v11 v12 o4 hq5) ⟨callB_of 0 htx (xw_goodC kw_3_196) rfl rfl rfl (htx _ kw_1_4) (htx _ kw_5_56) ⟨by decide, by decide, by decide +kernel⟩ ⟨Nat.le_of_ble_eq_true rfl, Nat.le_of_ble_eq_true rfl⟩, (htx _ kw_3_194), (htx _ kw_3_195)⟩ ⟨xPre_blind, va_recv hK hP (ci := 2) rfl (q0 := 5) rfl, (fun U hU hW => ⟨rfl, xPre_of hZ hS hFc hPc hDc hK U hU hW⟩)⟩ rfl rfl hl.1 rfl (lv_room (Nat.le_of_ble_eq_true rfl)) dK_putTurnOrNull_9 ⟨Nat.le_of_ble_eq_true rfl, Nat.le_of_ble_eq_true rfl⟩) hS (fun q _ h => hFc q h) hFc (fun u9 t H1 locs ht hvm hr9 hB hz1 hk1 hS => ?_)
    obtain ⟨hP1, hK1, hD1⟩ := hB
    rw [ht] at hP1
    obtain ⟨hP, hD⟩ := xjoin (W := [(a2, .inr (3, [.ref a3, .ref a4, .ref p5, .ref p7, .int v9])), (a3, .inl (cT 1, 2048, .inl f3)), (a4, .inl (cT 1, 2048, .inl f4)), (p5, .inl (cT 1, 2048, .inl f6)), (p7, .inl (cT 1, 2048, .inl f8)), (a0, .inr (2, [.ref a1, .int v1, .int v2])), (a1, .inl (cT 2, 4096, .inr (.inl f0))), (a7, .inr (2, [.ref a8, .int o4.2.1, .int o4.2.2])), (a8, .inl (cT 2, 4096, .inr (.inl o4.1)))]) hP hD [5, 6] [0, 1, 2, 3, 4, 7, 8] 7 rfl rfl (by decide) (by decide) hk1 hFc hP1 hD1
    generalize H1 = H at hP hS ⊢
    refine lv_goto (tgt := 25) hx hb dK_putTurnOrNull_12 (by decide) ?_
    obtain rfl := Option.some.inj hf
    obtain ⟨hP9, hD9⟩ := xsub (wc := [(a0, .inr (2, [.ref a1, .int v1, .int v2])), (a1, .inl (cT 2, 4096, .inr (.inl f0))), (a2, .inr (3, [.ref a3, .ref a4, .ref p5, .ref p7, .int v9])), (a3, .inl (cT 1, 2048, .inl f3)), (a4, .inl (cT 1, 2048, .inl f4)), (p5, .inl (cT 1, 2048, .inl f6)), (p7, .inl (cT 1, 2048, .inl f8)), (a7, .inr (2, [.ref a8, .int o4.2.1, .int o4.2.2])), (a8, .inl (cT 2, 4096, .inr (.inl o4.1)))]) hP hD [5, 6, 0, 1, 2, 3, 4, 7, 8] rfl rfl (by decide)
    exact W.vret hx hb hr (fun t ht hW => ⟨⟨(), rfl, trivial, by rw [ht]; exact hP9, va_K.moved hW.alike hK, hD9⟩, hS.F ht⟩) hS.2.2 dK_putTurnOrNull_25
set_option maxHeartbeats 400000000 in
set_option maxRecDepth 100000 in
theorem gK_apply (l : Launch) (hl9 : l.stackTraces = false) (D : va_G) (cT : Nat → ClassId) (aK aV : Nat → Nat) (sz d n : Nat) (a0 : Nat) (a1 : Nat) (a2 : Nat) (a3 : Nat) (a4 : Nat) (a5 : Nat) (a6 : Nat) (a9 : Nat) (a10 : Nat) (x0 : Int32) (f0 : Nat → Int64) (v1 : Int32) (v2 : Int32) (f3 : Nat → Int64) (v4 : Int32) (v5 : Int32) (f6 : Nat → Int32) (f7 : Nat → Int32) (p8 : Nat) (f9 : Nat → Int32) (p10 : Nat) (f11 : Nat → Int32) (v12 : Int32) (f13 : Nat → Int64) (v14 : Int32) (v15 : Int32) (out : Int32 × (Nat → Int32) × (Nat → Int32) × (Nat → Int32) × Nat × (Nat → Int32) × Nat × Int32 × (Nat → Int64) × Int32 × Int32) (hf : fK_apply d n x0 f0 v1 v2 f3 v4 v5 f6 f7 p8 f9 p10 f11 v12 f13 v14 v15 = some out) : xMet l yK_apply wyK_apply (16 * d + 5) 0 0 (400 * d + 157) D cT aK aV sz [.int x0, .ref a0, .ref a2, .ref a4, .ref a9] [(a0, .inr (2, [.ref a1, .int v1, .int v2])), (a1, .inl (cT 2, 4096, .inr (.inl f0))), (a2, .inr (2, [.ref a3, .int v4, .int v5])), (a3, .inl (cT 2, 4096, .inr (.inl f3))), (a4, .inr (3, [.ref a5, .ref a6, .ref p8, .ref p10, .int v12])), (a5, .inl (cT 1, 2048, .inl f6)), (a6, .inl (cT 1, 2048, .inl f7)), (p8, .inl (cT 1, 2048, .inl f9)), (p10, .inl (cT 1, 2048, .inl f11)), (a9, .inr (2, [.ref a10, .int v14, .int v15])), (a10, .inl (cT 2, 4096, .inr (.inl f13)))] (fun A => va_Qi (fun (r : Int32) (_ : Unit) => r = out.1) (fun _ t => xB D xcl cT A [(a0, .inr (2, [.ref a1, .int v1, .int v2])), (a1, .inl (cT 2, 4096, .inr (.inl f0))), (a2, .inr (2, [.ref a3, .int v4, .int v5])), (a3, .inl (cT 2, 4096, .inr (.inl f3))), (a4, .inr (3, [.ref a5, .ref a6, .ref out.2.2.2.2.1, .ref out.2.2.2.2.2.2.1, .int out.2.2.2.2.2.2.2.1])), (a5, .inl (cT 1, 2048, .inl out.2.1)), (a6, .inl (cT 1, 2048, .inl out.2.2.1)), (out.2.2.2.2.1, .inl (cT 1, 2048, .inl out.2.2.2.1)), (out.2.2.2.2.2.2.1, .inl (cT 1, 2048, .inl out.2.2.2.2.2.1)), (a9, .inr (2, [.ref a10, .int out.2.2.2.2.2.2.2.2.2.1, .int out.2.2.2.2.2.2.2.2.2.2])), (a10, .inl (cT 2, 4096, .inr (.inl out.2.2.2.2.2.2.2.2.1)))] t) A) := by
  refine Met.ofW (cc := prog_2_method_2_code) (maxL := 5) (ret := (some .int)) (by decide) rfl ?_
  intro p e s m args below meth c s₁ B hml hv
  obtain ⟨rfl, hsz, hZ, hP, hK, hD0⟩ := hv
  have hx := B.exec
  have hb := B.bytes
  have hr := B.returns
  have hts := atoms_spec (ws := wyK_apply) B.pre
  have htx := fun w h => hts w (List.mem_cons_of_mem _ h)
  have hown : s.vm.findClass "ValueBench$Keyed" = some m.cls := findClass_of_methodNamed B.named
  have hlocks := B.notSynchronized
  subst hsz
  have hD := hD0.self (sz := s.heap.size)
  generalize hAe : va_A [(a0, .inr (2, [.ref a1, .int v1, .int v2])), (a1, .inl (cT 2, 4096, .inr (.inl f0))), (a2, .inr (2, [.ref a3, .int v4, .int v5])), (a3, .inl (cT 2, 4096, .inr (.inl f3))), (a4, .inr (3, [.ref a5, .ref a6, .ref p8, .ref p10, .int v12])), (a5, .inl (cT 1, 2048, .inl f6)), (a6, .inl (cT 1, 2048, .inl f7)), (p8, .inl (cT 1, 2048, .inl f9)), (p10, .inl (cT 1, 2048, .inl f11)), (a9, .inr (2, [.ref a10, .int v14, .int v15])), (a10, .inl (cT 2, 4096, .inr (.inl f13)))] s.heap.size = A at hD hZ ⊢
  have hA : ∀ q : Nat, s.heap.size ≤ q → A q := fun q h => by rw [← hAe]; exact Or.inr h
  have hS : va_S A s.heap s.heap [] := va_S.rf
  have hP : va_P D xcl [(a0, .inr (2, [.ref a1, .int v1, .int v2])), (a1, .inl (cT 2, 4096, .inr (.inl f0))), (a2, .inr (2, [.ref a3, .int v4, .int v5])), (a3, .inl (cT 2, 4096, .inr (.inl f3))), (a4, .inr (3, [.ref a5, .ref a6, .ref p8, .ref p10, .int v12])), (a5, .inl (cT 1, 2048, .inl f6)), (a6, .inl (cT 1, 2048, .inl f7)), (p8, .inl (cT 1, 2048, .inl f9)), (p10, .inl (cT 1, 2048, .inl f11)), (a9, .inr (2, [.ref a10, .int v14, .int v15])), (a10, .inl (cT 2, 4096, .inr (.inl f13)))] s.heap := hP
  have hl := lv_entry ([.int x0, .ref a0, .ref a2, .ref a4, .ref a9]) (n := 5) (Nat.le_of_ble_eq_true rfl)
  rw [lg_entry_eq]
  generalize (lg_sl ([.int x0, .ref a0, .ref a2, .ref a4, .ref a9]) ++ List.replicate (5 - (lg_sl ([.int x0, .ref a0, .ref a2, .ref a4, .ref a9])).length) Slot.unset).toArray = ls at hl ⊢
  have hl : lv_has ls 5 [(0, .int x0), (1, .ref a0), (2, .ref a2), (3, .ref a4), (4, .ref a9)] := hl
  unfold fK_apply at hf
  refine lv_aload_n hx hb dK_apply_0 rfl (lv_at hl 1 rfl) ?_
  refine lv_iconst (v := 0) hx hb dK_apply_1 (by decide) ?_
  refine lv_iconst (v := 5) hx hb dK_apply_2 (by decide) ?_
  obtain ⟨o1, hq2, hf⟩ := xbind hf
  obtain ⟨hPc, hDc, hFc⟩ := xcut (wc := [(a0, .inr (2, [.ref a1, .int v1, .int v2])), (a1, .inl (cT 2, 4096, .inr (.inl f0)))]) hP hD hS hA [0, 1] rfl rfl (by decide)
  refine va_calli (va_runV (C := "ValueBench$Row") (As := [.int 0, .int 5]) (rest := []) ⟨hx, hb, hml, hown, htx⟩ (gR_is l hl9 D cT aK aV s.heap.size n a0 a1 (0 : Int32) (5 : Int32) f0 v1 v2 o1 hq2) ⟨callB_of 2 htx (xw_goodC kw_3_75) rfl rfl rfl (htx _ kw_1_4) (htx _ kw_5_22) ⟨by decide, by decide, by decide +kernel⟩ ⟨Nat.le_of_ble_eq_true rfl, Nat.le_of_ble_eq_true rfl⟩, (htx _ kw_3_73), (htx _ kw_3_74)⟩ ⟨xPre_blind, va_recv hK hP (ci := 2) rfl (q0 := 0) rfl, (fun U hU hW => ⟨rfl, xPre_of hZ hS hFc hPc hDc hK U hU hW⟩)⟩ rfl rfl hl.1 rfl (lv_room (Nat.le_of_ble_eq_true rfl)) dK_apply_3 ⟨Nat.le_of_ble_eq_true rfl, Nat.le_of_ble_eq_true rfl⟩) hS (fun q _ h => hFc q h) hFc (fun r3 u9 t H1 locs ht hvm hr9 hB hz1 hk1 hS => ?_)
  obtain ⟨hP1, hK1, hD1⟩ := hB
  rw [ht] at hP1
  obtain ⟨hP, hD⟩ := xjoin (W := [(a2, .inr (2, [.ref a3, .int v4, .int v5])), (a3, .inl (cT 2, 4096, .inr (.inl f3))), (a4, .inr (3, [.ref a5, .ref a6, .ref p8, .ref p10, .int v12])), (a5, .inl (cT 1, 2048, .inl f6)), (a6, .inl (cT 1, 2048, .inl f7)), (p8, .inl (cT 1, 2048, .inl f9)), (p10, .inl (cT 1, 2048, .inl f11)), (a9, .inr (2, [.ref a10, .int v14, .int v15])), (a10, .inl (cT 2, 4096, .inr (.inl f13))), (a0, .inr (2, [.ref a1, .int v1, .int v2])), (a1, .inl (cT 2, 4096, .inr (.inl f0)))]) hP hD [0, 1] [2, 3, 4, 5, 6, 7, 8, 9, 10] 9 rfl rfl (by decide) (by decide) hk1 hFc hP1 hD1
  generalize H1 = H at hP hS ⊢
  rw [hr9]
  refine W.eq (g2 := F0 m 6 ls [.int o1]) rfl ?_
  refine lv_if_eq (tgt := 31) hx hb dK_apply_6 (by decide) (fun hc => ?_) (fun hc => ?_)
  · rw [if_pos hc] at hf
    refine lv_iconst (v := 1) hx hb dK_apply_31 (by decide) ?_
    obtain rfl := Option.some.inj hf
    obtain ⟨hP9, hD9⟩ := xsub (wc := [(a0, .inr (2, [.ref a1, .int v1, .int v2])), (a1, .inl (cT 2, 4096, .inr (.inl f0))), (a2, .inr (2, [.ref a3, .int v4, .int v5])), (a3, .inl (cT 2, 4096, .inr (.inl f3))), (a4, .inr (3, [.ref a5, .ref a6, .ref p8, .ref p10, .int v12])), (a5, .inl (cT 1, 2048, .inl f6)), (a6, .inl (cT 1, 2048, .inl f7)), (p8, .inl (cT 1, 2048, .inl f9)), (p10, .inl (cT 1, 2048, .inl f11)), (a9, .inr (2, [.ref a10, .int v14, .int v15])), (a10, .inl (cT 2, 4096, .inr (.inl f13)))]) hP hD [9, 10, 0, 1, 2, 3, 4, 5, 6, 7, 8] rfl rfl (by decide)
    exact W.iret (v := (1 : Int32)) hx hb hr (fun t ht hW => ⟨⟨(1 : Int32), (), rfl, rfl, by rw [ht]; exact hP9, va_K.moved hW.alike hK, hD9⟩, hS.F ht⟩) hS.2.2 dK_apply_32
  · rw [if_neg hc] at hf
    refine lv_aload_n hx hb dK_apply_9 rfl (lv_at hl 2 rfl) ?_
    refine lv_iconst (v := 0) hx hb dK_apply_10 (by decide) ?_
    refine lv_iconst (v := 5) hx hb dK_apply_11 (by decide) ?_
    obtain ⟨o4, hq5, hf⟩ := xbind hf
    obtain ⟨hPc, hDc, hFc⟩ := xcut (wc := [(a2, .inr (2, [.ref a3, .int v4, .int v5])), (a3, .inl (cT 2, 4096, .inr (.inl f3)))]) hP hD hS hA [0, 1] rfl rfl (by decide)
    refine va_calli (va_runV (C := "ValueBench$Row") (As := [.int 0, .int 5]) (rest := []) ⟨hx, hb, hml, hown, htx⟩ (gR_is l hl9 D cT aK aV H.size n a2 a3 (0 : Int32) (5 : Int32) f3 v4 v5 o4 hq5) ⟨callB_of 2 htx (xw_goodC kw_3_75) rfl rfl rfl (htx _ kw_1_4) (htx _ kw_5_22) ⟨by decide, by decide, by decide +kernel⟩ ⟨Nat.le_of_ble_eq_true rfl, Nat.le_of_ble_eq_true rfl⟩, (htx _ kw_3_73), (htx _ kw_3_74)⟩ ⟨xPre_blind, va_recv hK hP (ci := 2) rfl (q0 := 0) rfl, (fun U hU hW => ⟨rfl, xPre_of hZ hS hFc hPc hDc hK U hU hW⟩)⟩ rfl rfl hl.1 rfl (lv_room (Nat.le_of_ble_eq_true rfl)) dK_apply_12 ⟨Nat.le_of_ble_eq_true rfl, Nat.le_of_ble_eq_true rfl⟩) hS (fun q _ h => hFc q h) hFc (fun r6 u9 t H1 locs ht hvm hr9 hB hz1 hk1 hS => ?_)
    obtain ⟨hP1, hK1, hD1⟩ := hB
    rw [ht] at hP1
    obtain ⟨hP, hD⟩ := xjoin (W := [(a4, .inr (3, [.ref a5, .ref a6, .ref p8, .ref p10, .int v12])), (a5, .inl (cT 1, 2048, .inl f6)), (a6, .inl (cT 1, 2048, .inl f7)), (p8, .inl (cT 1, 2048, .inl f9)), (p10, .inl (cT 1, 2048, .inl f11)), (a9, .inr (2, [.ref a10, .int v14, .int v15])), (a10, .inl (cT 2, 4096, .inr (.inl f13))), (a0, .inr (2, [.ref a1, .int v1, .int v2])), (a1, .inl (cT 2, 4096, .inr (.inl f0))), (a2, .inr (2, [.ref a3, .int v4, .int v5])), (a3, .inl (cT 2, 4096, .inr (.inl f3)))]) hP hD [0, 1] [2, 3, 4, 5, 6, 7, 8, 9, 10] 9 rfl rfl (by decide) (by decide) hk1 hFc hP1 hD1
    generalize H1 = H at hP hS ⊢
    rw [hr9]
    refine W.eq (g2 := F0 m 15 ls [.int o4]) rfl ?_
    refine lv_if_eq (tgt := 31) hx hb dK_apply_15 (by decide) (fun hc => ?_) (fun hc => ?_)
    · rw [if_pos hc] at hf
      refine lv_iconst (v := 1) hx hb dK_apply_31 (by decide) ?_
      obtain rfl := Option.some.inj hf
      obtain ⟨hP9, hD9⟩ := xsub (wc := [(a0, .inr (2, [.ref a1, .int v1, .int v2])), (a1, .inl (cT 2, 4096, .inr (.inl f0))), (a2, .inr (2, [.ref a3, .int v4, .int v5])), (a3, .inl (cT 2, 4096, .inr (.inl f3))), (a4, .inr (3, [.ref a5, .ref a6, .ref p8, .ref p10, .int v12])), (a5, .inl (cT 1, 2048, .inl f6)), (a6, .inl (cT 1, 2048, .inl f7)), (p8, .inl (cT 1, 2048, .inl f9)), (p10, .inl (cT 1, 2048, .inl f11)), (a9, .inr (2, [.ref a10, .int v14, .int v15])), (a10, .inl (cT 2, 4096, .inr (.inl f13)))]) hP hD [7, 8, 9, 10, 0, 1, 2, 3, 4, 5, 6] rfl rfl (by decide)
      exact W.iret (v := (1 : Int32)) hx hb hr (fun t ht hW => ⟨⟨(1 : Int32), (), rfl, rfl, by rw [ht]; exact hP9, va_K.moved hW.alike hK, hD9⟩, hS.F ht⟩) hS.2.2 dK_apply_32
    · rw [if_neg hc] at hf
      refine lv_aload_n hx hb dK_apply_18 rfl (lv_at hl 1 rfl) ?_
      refine lv_iconst (v := 0) hx hb dK_apply_19 (by decide) ?_
      obtain ⟨o7, hq8, hf⟩ := xbind hf
      obtain ⟨hPc, hDc, hFc⟩ := xcut (wc := [(a0, .inr (2, [.ref a1, .int v1, .int v2])), (a1, .inl (cT 2, 4096, .inr (.inl f0)))]) hP hD hS hA [7, 8] rfl rfl (by decide)
      refine va_calli (va_runV (C := "ValueBench$Row") (As := [.int 0]) (rest := []) ⟨hx, hb, hml, hown, htx⟩ (gR_length l hl9 D cT aK aV H.size n a0 a1 (0 : Int32) f0 v1 v2 o7 hq8) ⟨callB_of 1 htx (xw_goodC kw_2_191) rfl rfl rfl (htx _ kw_1_4) (htx _ kw_5_23) ⟨by decide, by decide, by decide +kernel⟩ ⟨Nat.le_of_ble_eq_true rfl, Nat.le_of_ble_eq_true rfl⟩, (htx _ kw_2_189), (htx _ kw_2_190)⟩ ⟨xPre_blind, va_recv hK hP (ci := 2) rfl (q0 := 7) rfl, (fun U hU hW => ⟨rfl, xPre_of hZ hS hFc hPc hDc hK U hU hW⟩)⟩ rfl rfl hl.1 rfl (lv_room (Nat.le_of_ble_eq_true rfl)) dK_apply_20 ⟨Nat.le_of_ble_eq_true rfl, Nat.le_of_ble_eq_true rfl⟩) hS (fun q _ h => hFc q h) hFc (fun r9 u9 t H1 locs ht hvm hr9 hB hz1 hk1 hS => ?_)
      obtain ⟨hP1, hK1, hD1⟩ := hB
      rw [ht] at hP1
      obtain ⟨hP, hD⟩ := xjoin (W := [(a4, .inr (3, [.ref a5, .ref a6, .ref p8, .ref p10, .int v12])), (a5, .inl (cT 1, 2048, .inl f6)), (a6, .inl (cT 1, 2048, .inl f7)), (p8, .inl (cT 1, 2048, .inl f9)), (p10, .inl (cT 1, 2048, .inl f11)), (a9, .inr (2, [.ref a10, .int v14, .int v15])), (a10, .inl (cT 2, 4096, .inr (.inl f13))), (a2, .inr (2, [.ref a3, .int v4, .int v5])), (a3, .inl (cT 2, 4096, .inr (.inl f3))), (a0, .inr (2, [.ref a1, .int v1, .int v2])), (a1, .inl (cT 2, 4096, .inr (.inl f0)))]) hP hD [7, 8] [0, 1, 2, 3, 4, 5, 6, 9, 10] 9 rfl rfl (by decide) (by decide) hk1 hFc hP1 hD1
      generalize H1 = H at hP hS ⊢
      rw [hr9]
      refine W.eq (g2 := F0 m 23 ls [.int o7]) rfl ?_
      refine lv_aload_n hx hb dK_apply_23 rfl (lv_at hl 2 rfl) ?_
      refine lv_iconst (v := 0) hx hb dK_apply_24 (by decide) ?_
      obtain ⟨o10, hq11, hf⟩ := xbind hf
      obtain ⟨hPc, hDc, hFc⟩ := xcut (wc := [(a2, .inr (2, [.ref a3, .int v4, .int v5])), (a3, .inl (cT 2, 4096, .inr (.inl f3)))]) hP hD hS hA [7, 8] rfl rfl (by decide)
      refine va_calli (va_runV (C := "ValueBench$Row") (As := [.int 0]) (rest := [.int o7]) ⟨hx, hb, hml, hown, htx⟩ (gR_length l hl9 D cT aK aV H.size n a2 a3 (0 : Int32) f3 v4 v5 o10 hq11) ⟨callB_of 1 htx (xw_goodC kw_2_191) rfl rfl rfl (htx _ kw_1_4) (htx _ kw_5_23) ⟨by decide, by decide, by decide +kernel⟩ ⟨Nat.le_of_ble_eq_true rfl, Nat.le_of_ble_eq_true rfl⟩, (htx _ kw_2_189), (htx _ kw_2_190)⟩ ⟨xPre_blind, va_recv hK hP (ci := 2) rfl (q0 := 7) rfl, (fun U hU hW => ⟨rfl, xPre_of hZ hS hFc hPc hDc hK U hU hW⟩)⟩ rfl rfl hl.1 rfl (lv_room (Nat.le_of_ble_eq_true rfl)) dK_apply_25 ⟨Nat.le_of_ble_eq_true rfl, Nat.le_of_ble_eq_true rfl⟩) hS (fun q _ h => hFc q h) hFc (fun r12 u9 t H1 locs ht hvm hr9 hB hz1 hk1 hS => ?_)
      obtain ⟨hP1, hK1, hD1⟩ := hB
      rw [ht] at hP1
      obtain ⟨hP, hD⟩ := xjoin (W := [(a4, .inr (3, [.ref a5, .ref a6, .ref p8, .ref p10, .int v12])), (a5, .inl (cT 1, 2048, .inl f6)), (a6, .inl (cT 1, 2048, .inl f7)), (p8, .inl (cT 1, 2048, .inl f9)), (p10, .inl (cT 1, 2048, .inl f11)), (a9, .inr (2, [.ref a10, .int v14, .int v15])), (a10, .inl (cT 2, 4096, .inr (.inl f13))), (a0, .inr (2, [.ref a1, .int v1, .int v2])), (a1, .inl (cT 2, 4096, .inr (.inl f0))), (a2, .inr (2, [.ref a3, .int v4, .int v5])), (a3, .inl (cT 2, 4096, .inr (.inl f3)))]) hP hD [7, 8] [0, 1, 2, 3, 4, 5, 6, 9, 10] 9 rfl rfl (by decide) (by decide) hk1 hFc hP1 hD1
      generalize H1 = H at hP hS ⊢
      rw [hr9]
      refine W.eq (g2 := F0 m 28 ls [.int o10, .int o7]) rfl ?_
      refine lv_icmp_eq (tgt := 33) hx hb dK_apply_28 (by decide) (fun hc => ?_) (fun hc => ?_)
      · rw [if_pos hc] at hf
        refine lv_aload_n hx hb dK_apply_33 rfl (lv_at hl 3 rfl) ?_
        refine lv_aload_n hx hb dK_apply_34 rfl (lv_at hl 2 rfl) ?_
        refine lv_iconst (v := 0) hx hb dK_apply_35 (by decide) ?_
        obtain ⟨o13, hq14, hf⟩ := xbind hf
        obtain ⟨hPc, hDc, hFc⟩ := xcut (wc := [(a4, .inr (3, [.ref a5, .ref a6, .ref p8, .ref p10, .int v12])), (a5, .inl (cT 1, 2048, .inl f6)), (a6, .inl (cT 1, 2048, .inl f7)), (p8, .inl (cT 1, 2048, .inl f9)), (p10, .inl (cT 1, 2048, .inl f11)), (a2, .inr (2, [.ref a3, .int v4, .int v5])), (a3, .inl (cT 2, 4096, .inr (.inl f3)))]) hP hD hS hA [0, 1, 2, 3, 4, 9, 10] rfl rfl (by decide)
        refine va_callv (va_runV (C := "ValueBench$Sorter") (As := [.ref a2, .int 0]) (rest := []) ⟨hx, hb, hml, hown, htx⟩ (gS_arrange l hl9 D cT aK aV H.size d n a4 a5 a6 a2 a3 (0 : Int32) f6 f7 p8 f9 p10 f11 v12 f3 v4 v5 o13 hq14) ⟨callB_of 2 htx (xw_goodC kw_4_50) rfl rfl rfl (htx _ kw_1_3) (htx _ kw_5_24) ⟨by decide, by decide, by decide +kernel⟩ ⟨(by show (16 * d + 3) + 1 ≤ 16 * d + 5; omega), (by show 8 + (5 + 11) + (400 * d + 68) ≤ 400 * d + 157; omega)⟩, (htx _ kw_4_48), (htx _ kw_4_49)⟩ ⟨xPre_blind, va_recv hK hP (ci := 3) rfl (q0 := 0) rfl, (fun U hU hW => ⟨rfl, xPre_of hZ hS hFc hPc hDc hK U hU hW⟩)⟩ rfl rfl hl.1 rfl (lv_room (Nat.le_of_ble_eq_true rfl)) dK_apply_36 ⟨Nat.le_of_ble_eq_true rfl, Nat.le_of_ble_eq_true rfl⟩) hS (fun q _ h => hFc q h) hFc (fun u9 t H1 locs ht hvm hr9 hB hz1 hk1 hS => ?_)
        obtain ⟨hP1, hK1, hD1⟩ := hB
        rw [ht] at hP1
        obtain ⟨hP, hD⟩ := xjoin (W := [(a9, .inr (2, [.ref a10, .int v14, .int v15])), (a10, .inl (cT 2, 4096, .inr (.inl f13))), (a0, .inr (2, [.ref a1, .int v1, .int v2])), (a1, .inl (cT 2, 4096, .inr (.inl f0))), (a4, .inr (3, [.ref a5, .ref a6, .ref o13.2.2.1, .ref o13.2.2.2.2.1, .int o13.2.2.2.2.2])), (a5, .inl (cT 1, 2048, .inl o13.1)), (a6, .inl (cT 1, 2048, .inl f7)), (o13.2.2.1, .inl (cT 1, 2048, .inl o13.2.1)), (o13.2.2.2.2.1, .inl (cT 1, 2048, .inl o13.2.2.2.1)), (a2, .inr (2, [.ref a3, .int v4, .int v5])), (a3, .inl (cT 2, 4096, .inr (.inl f3)))]) hP hD [0, 1, 2, 3, 4, 9, 10] [5, 6, 7, 8] 4 rfl rfl (by decide) (by decide) hk1 hFc hP1 hD1
        generalize H1 = H at hP hS ⊢
        refine lv_aload_n hx hb dK_apply_39 rfl (lv_at hl 3 rfl) ?_
        refine lv_aload_n hx hb dK_apply_40 rfl (lv_at hl 1 rfl) ?_
        refine lv_iconst (v := 0) hx hb dK_apply_41 (by decide) ?_
        obtain ⟨o15, hq16, hf⟩ := xbind hf
        obtain ⟨hPc, hDc, hFc⟩ := xcut (wc := [(a4, .inr (3, [.ref a5, .ref a6, .ref o13.2.2.1, .ref o13.2.2.2.2.1, .int o13.2.2.2.2.2])), (a5, .inl (cT 1, 2048, .inl o13.1)), (a6, .inl (cT 1, 2048, .inl f7)), (o13.2.2.1, .inl (cT 1, 2048, .inl o13.2.1)), (o13.2.2.2.2.1, .inl (cT 1, 2048, .inl o13.2.2.2.1)), (a0, .inr (2, [.ref a1, .int v1, .int v2])), (a1, .inl (cT 2, 4096, .inr (.inl f0)))]) hP hD hS hA [4, 5, 6, 7, 8, 2, 3] rfl rfl (by decide)
        refine va_callv (va_runV (C := "ValueBench$Sorter") (As := [.ref a0, .int 0]) (rest := []) ⟨hx, hb, hml, hown, htx⟩ (gS_attach l hl9 D cT aK aV H.size n a4 a5 a6 a0 a1 (0 : Int32) o13.1 f7 o13.2.2.1 o13.2.1 o13.2.2.2.2.1 o13.2.2.2.1 o13.2.2.2.2.2 f0 v1 v2 o15 hq16) ⟨callB_of 2 htx (xw_goodC kw_5_28) rfl rfl rfl (htx _ kw_1_3) (htx _ kw_5_25) ⟨by decide, by decide, by decide +kernel⟩ ⟨Nat.le_of_ble_eq_true rfl, Nat.le_of_ble_eq_true rfl⟩, (htx _ kw_5_26), (htx _ kw_5_27)⟩ ⟨xPre_blind, va_recv hK hP (ci := 3) rfl (q0 := 4) rfl, (fun U hU hW => ⟨rfl, xPre_of hZ hS hFc hPc hDc hK U hU hW⟩)⟩ rfl rfl hl.1 rfl (lv_room (Nat.le_of_ble_eq_true rfl)) dK_apply_42 ⟨Nat.le_of_ble_eq_true rfl, Nat.le_of_ble_eq_true rfl⟩) hS (fun q _ h => hFc q h) hFc (fun u9 t H1 locs ht hvm hr9 hB hz1 hk1 hS => ?_)
        obtain ⟨hP1, hK1, hD1⟩ := hB
        rw [ht] at hP1
        obtain ⟨hP, hD⟩ := xjoin (W := [(a9, .inr (2, [.ref a10, .int v14, .int v15])), (a10, .inl (cT 2, 4096, .inr (.inl f13))), (a2, .inr (2, [.ref a3, .int v4, .int v5])), (a3, .inl (cT 2, 4096, .inr (.inl f3))), (a4, .inr (3, [.ref a5, .ref a6, .ref o13.2.2.1, .ref o13.2.2.2.2.1, .int o13.2.2.2.2.2])), (a5, .inl (cT 1, 2048, .inl o13.1)), (a6, .inl (cT 1, 2048, .inl o15)), (o13.2.2.1, .inl (cT 1, 2048, .inl o13.2.1)), (o13.2.2.2.2.1, .inl (cT 1, 2048, .inl o13.2.2.2.1)), (a0, .inr (2, [.ref a1, .int v1, .int v2])), (a1, .inl (cT 2, 4096, .inr (.inl f0)))]) hP hD [4, 5, 6, 7, 8, 2, 3] [0, 1, 9, 10] 4 rfl rfl (by decide) (by decide) hk1 hFc hP1 hD1
        generalize H1 = H at hP hS ⊢
        refine lv_iload_n hx hb dK_apply_45 rfl (lv_at hl 0 rfl) ?_
        by_cases hc17 : x0 = 0
        · rw [if_pos hc17] at hf
          refine lv_tableIn (off := 30) (tgt := 76) hx hb dK_apply_46 (by rw [hc17]; decide) (by rw [hc17]; decide) (by rw [hc17]; decide) (by decide) ?_
          refine lv_aload_n hx hb dK_apply_76 rfl (lv_at hl 1 rfl) ?_
          refine lv_aload_n hx hb dK_apply_77 rfl (lv_at hl 3 rfl) ?_
          refine lv_aload hx hb dK_apply_78 (lv_at hl 4 rfl) ?_
          obtain ⟨o18, hq19, hf⟩ := xbind hf
          obtain ⟨hPc, hDc, hFc⟩ := xcut (wc := [(a0, .inr (2, [.ref a1, .int v1, .int v2])), (a1, .inl (cT 2, 4096, .inr (.inl f0))), (a4, .inr (3, [.ref a5, .ref a6, .ref o13.2.2.1, .ref o13.2.2.2.2.1, .int o13.2.2.2.2.2])), (a5, .inl (cT 1, 2048, .inl o13.1)), (a6, .inl (cT 1, 2048, .inl o15)), (o13.2.2.1, .inl (cT 1, 2048, .inl o13.2.1)), (o13.2.2.2.2.1, .inl (cT 1, 2048, .inl o13.2.2.2.1)), (a9, .inr (2, [.ref a10, .int v14, .int v15])), (a10, .inl (cT 2, 4096, .inr (.inl f13)))]) hP hD hS hA [9, 10, 4, 5, 6, 7, 8, 0, 1] rfl rfl (by decide)
          refine va_callv (va_runS (As := [.ref a0, .ref a4, .ref a9]) (rest := []) ⟨hx, hb, hml, hown, htx⟩ (gK_putSorted l hl9 D cT aK aV H.size n a0 a1 a4 a5 a6 a9 a10 f0 v1 v2 o13.1 o15 o13.2.2.1 o13.2.1 o13.2.2.2.2.1 o13.2.2.2.1 o13.2.2.2.2.2 f13 v14 v15 o18 hq19) ⟨callB_of 3 htx (xw_goodC kw_5_31) rfl rfl rfl (htx _ kw_1_28) (htx _ kw_5_29) ⟨by decide, by decide, by decide +kernel⟩ ⟨Nat.le_of_ble_eq_true rfl, Nat.le_of_ble_eq_true rfl⟩, htx _ kw_5_30⟩ ⟨xPre_blind, (fun U hU hW => ⟨rfl, xPre_of hZ hS hFc hPc hDc hK U hU hW⟩)⟩ rfl rfl hl.1 rfl (lv_room (Nat.le_of_ble_eq_true rfl)) dK_apply_80 ⟨Nat.le_of_ble_eq_true rfl, Nat.le_of_ble_eq_true rfl⟩) hS (fun q _ h => hFc q h) hFc (fun u9 t H1 locs ht hvm hr9 hB hz1 hk1 hS => ?_)
          obtain ⟨hP1, hK1, hD1⟩ := hB
          rw [ht] at hP1
          obtain ⟨hP, hD⟩ := xjoin (W := [(a2, .inr (2, [.ref a3, .int v4, .int v5])), (a3, .inl (cT 2, 4096, .inr (.inl f3))), (a0, .inr (2, [.ref a1, .int v1, .int v2])), (a1, .inl (cT 2, 4096, .inr (.inl f0))), (a4, .inr (3, [.ref a5, .ref a6, .ref o13.2.2.1, .ref o13.2.2.2.2.1, .int o13.2.2.2.2.2])), (a5, .inl (cT 1, 2048, .inl o13.1)), (a6, .inl (cT 1, 2048, .inl o15)), (o13.2.2.1, .inl (cT 1, 2048, .inl o13.2.1)), (o13.2.2.2.2.1, .inl (cT 1, 2048, .inl o13.2.2.2.1)), (a9, .inr (2, [.ref a10, .int o18.2.1, .int o18.2.2])), (a10, .inl (cT 2, 4096, .inr (.inl o18.1)))]) hP hD [9, 10, 4, 5, 6, 7, 8, 0, 1] [2, 3] 2 rfl rfl (by decide) (by decide) hk1 hFc hP1 hD1
          generalize H1 = H at hP hS ⊢
          refine lv_iconst (v := 0) hx hb dK_apply_83 (by decide) ?_
          obtain rfl := Option.some.inj hf
          obtain ⟨hP9, hD9⟩ := xsub (wc := [(a0, .inr (2, [.ref a1, .int v1, .int v2])), (a1, .inl (cT 2, 4096, .inr (.inl f0))), (a2, .inr (2, [.ref a3, .int v4, .int v5])), (a3, .inl (cT 2, 4096, .inr (.inl f3))), (a4, .inr (3, [.ref a5, .ref a6, .ref o13.2.2.1, .ref o13.2.2.2.2.1, .int o13.2.2.2.2.2])), (a5, .inl (cT 1, 2048, .inl o13.1)), (a6, .inl (cT 1, 2048, .inl o15)), (o13.2.2.1, .inl (cT 1, 2048, .inl o13.2.1)), (o13.2.2.2.2.1, .inl (cT 1, 2048, .inl o13.2.2.2.1)), (a9, .inr (2, [.ref a10, .int o18.2.1, .int o18.2.2])), (a10, .inl (cT 2, 4096, .inr (.inl o18.1)))]) hP hD [2, 3, 0, 1, 4, 5, 6, 7, 8, 9, 10] rfl rfl (by decide)
          exact W.iret (v := (0 : Int32)) hx hb hr (fun t ht hW => ⟨⟨(0 : Int32), (), rfl, rfl, by rw [ht]; exact hP9, va_K.moved hW.alike hK, hD9⟩, hS.F ht⟩) hS.2.2 dK_apply_84
        rw [if_neg hc17] at hf
        by_cases hc20 : x0 = 1
        · rw [if_pos hc20] at hf
          refine lv_tableIn (off := 39) (tgt := 85) hx hb dK_apply_46 (by rw [hc20]; decide) (by rw [hc20]; decide) (by rw [hc20]; decide) (by decide) ?_
          refine lv_aload_n hx hb dK_apply_85 rfl (lv_at hl 1 rfl) ?_
          refine lv_aload_n hx hb dK_apply_86 rfl (lv_at hl 2 rfl) ?_
          refine lv_aload_n hx hb dK_apply_87 rfl (lv_at hl 3 rfl) ?_
          refine lv_aload hx hb dK_apply_88 (lv_at hl 4 rfl) ?_
          obtain ⟨o21, hq22, hf⟩ := xbind hf
          obtain ⟨hPc, hDc, hFc⟩ := xcut (wc := [(a0, .inr (2, [.ref a1, .int v1, .int v2])), (a1, .inl (cT 2, 4096, .inr (.inl f0))), (a2, .inr (2, [.ref a3, .int v4, .int v5])), (a3, .inl (cT 2, 4096, .inr (.inl f3))), (a4, .inr (3, [.ref a5, .ref a6, .ref o13.2.2.1, .ref o13.2.2.2.2.1, .int o13.2.2.2.2.2])), (a5, .inl (cT 1, 2048, .inl o13.1)), (a6, .inl (cT 1, 2048, .inl o15)), (o13.2.2.1, .inl (cT 1, 2048, .inl o13.2.1)), (o13.2.2.2.2.1, .inl (cT 1, 2048, .inl o13.2.2.2.1)), (a9, .inr (2, [.ref a10, .int v14, .int v15])), (a10, .inl (cT 2, 4096, .inr (.inl f13)))]) hP hD hS hA [9, 10, 2, 3, 4, 5, 6, 7, 8, 0, 1] rfl rfl (by decide)
          refine va_callv (va_runS (As := [.ref a0, .ref a2, .ref a4, .ref a9]) (rest := []) ⟨hx, hb, hml, hown, htx⟩ (gK_putGroups l hl9 D cT aK aV H.size d n a0 a1 a2 a3 a4 a5 a6 a9 a10 f0 v1 v2 f3 v4 v5 o13.1 o15 o13.2.2.1 o13.2.1 o13.2.2.2.2.1 o13.2.2.2.1 o13.2.2.2.2.2 f13 v14 v15 o21 hq22) ⟨callB_of 4 htx (xw_goodC kw_5_41) rfl rfl rfl (htx _ kw_1_28) (htx _ kw_5_39) ⟨by decide, by decide, by decide +kernel⟩ ⟨(by show (16 * d + 4) + 1 ≤ 16 * d + 5; omega), (by show 8 + (7 + 11) + (400 * d + 131) ≤ 400 * d + 157; omega)⟩, htx _ kw_5_40⟩ ⟨xPre_blind, (fun U hU hW => ⟨rfl, xPre_of hZ hS hFc hPc hDc hK U hU hW⟩)⟩ rfl rfl hl.1 rfl (lv_room (Nat.le_of_ble_eq_true rfl)) dK_apply_90 ⟨Nat.le_of_ble_eq_true rfl, Nat.le_of_ble_eq_true rfl⟩) hS (fun q _ h => hFc q h) hFc (fun u9 t H1 locs ht hvm hr9 hB hz1 hk1 hS => ?_)
          obtain ⟨hP1, hK1, hD1⟩ := hB
          rw [ht] at hP1
          obtain ⟨hP, hD⟩ := xjoin (W := [(a0, .inr (2, [.ref a1, .int v1, .int v2])), (a1, .inl (cT 2, 4096, .inr (.inl f0))), (a2, .inr (2, [.ref a3, .int v4, .int v5])), (a3, .inl (cT 2, 4096, .inr (.inl f3))), (a4, .inr (3, [.ref a5, .ref a6, .ref o13.2.2.1, .ref o13.2.2.2.2.1, .int o13.2.2.2.2.2])), (a5, .inl (cT 1, 2048, .inl o13.1)), (a6, .inl (cT 1, 2048, .inl o15)), (o13.2.2.1, .inl (cT 1, 2048, .inl o13.2.1)), (o13.2.2.2.2.1, .inl (cT 1, 2048, .inl o13.2.2.2.1)), (a9, .inr (2, [.ref a10, .int o21.2.1, .int o21.2.2])), (a10, .inl (cT 2, 4096, .inr (.inl o21.1)))]) hP hD [9, 10, 2, 3, 4, 5, 6, 7, 8, 0, 1] [] 0 rfl rfl (by decide) (by decide) hk1 hFc hP1 hD1
          generalize H1 = H at hP hS ⊢
          refine lv_iconst (v := 0) hx hb dK_apply_93 (by decide) ?_
          obtain rfl := Option.some.inj hf
          obtain ⟨hP9, hD9⟩ := xsub (wc := [(a0, .inr (2, [.ref a1, .int v1, .int v2])), (a1, .inl (cT 2, 4096, .inr (.inl f0))), (a2, .inr (2, [.ref a3, .int v4, .int v5])), (a3, .inl (cT 2, 4096, .inr (.inl f3))), (a4, .inr (3, [.ref a5, .ref a6, .ref o13.2.2.1, .ref o13.2.2.2.2.1, .int o13.2.2.2.2.2])), (a5, .inl (cT 1, 2048, .inl o13.1)), (a6, .inl (cT 1, 2048, .inl o15)), (o13.2.2.1, .inl (cT 1, 2048, .inl o13.2.1)), (o13.2.2.2.2.1, .inl (cT 1, 2048, .inl o13.2.2.2.1)), (a9, .inr (2, [.ref a10, .int o21.2.1, .int o21.2.2])), (a10, .inl (cT 2, 4096, .inr (.inl o21.1)))]) hP hD [0, 1, 2, 3, 4, 5, 6, 7, 8, 9, 10] rfl rfl (by decide)
          exact W.iret (v := (0 : Int32)) hx hb hr (fun t ht hW => ⟨⟨(0 : Int32), (), rfl, rfl, by rw [ht]; exact hP9, va_K.moved hW.alike hK, hD9⟩, hS.F ht⟩) hS.2.2 dK_apply_94
        rw [if_neg hc20] at hf
        by_cases hc23 : x0 = 2
        · rw [if_pos hc23] at hf
          refine lv_tableIn (off := 49) (tgt := 95) hx hb dK_apply_46 (by rw [hc23]; decide) (by rw [hc23]; decide) (by rw [hc23]; decide) (by decide) ?_
          refine lv_aload_n hx hb dK_apply_95 rfl (lv_at hl 1 rfl) ?_
          refine lv_aload_n hx hb dK_apply_96 rfl (lv_at hl 2 rfl) ?_
          refine lv_aload_n hx hb dK_apply_97 rfl (lv_at hl 3 rfl) ?_
          refine lv_aload hx hb dK_apply_98 (lv_at hl 4 rfl) ?_
          obtain ⟨o24, hq25, hf⟩ := xbind hf
          obtain ⟨hPc, hDc, hFc⟩ := xcut (wc := [(a0, .inr (2, [.ref a1, .int v1, .int v2])), (a1, .inl (cT 2, 4096, .inr (.inl f0))), (a2, .inr (2, [.ref a3, .int v4, .int v5])), (a3, .inl (cT 2, 4096, .inr (.inl f3))), (a4, .inr (3, [.ref a5, .ref a6, .ref o13.2.2.1, .ref o13.2.2.2.2.1, .int o13.2.2.2.2.2])), (a5, .inl (cT 1, 2048, .inl o13.1)), (a6, .inl (cT 1, 2048, .inl o15)), (o13.2.2.1, .inl (cT 1, 2048, .inl o13.2.1)), (o13.2.2.2.2.1, .inl (cT 1, 2048, .inl o13.2.2.2.1)), (a9, .inr (2, [.ref a10, .int v14, .int v15])), (a10, .inl (cT 2, 4096, .inr (.inl f13)))]) hP hD hS hA [9, 10, 2, 3, 4, 5, 6, 7, 8, 0, 1] rfl rfl (by decide)
          refine va_callv (va_runS (As := [.ref a0, .ref a2, .ref a4, .ref a9]) (rest := []) ⟨hx, hb, hml, hown, htx⟩ (gK_putFirsts l hl9 D cT aK aV H.size d n a0 a1 a2 a3 a4 a5 a6 a9 a10 f0 v1 v2 f3 v4 v5 o13.1 o15 o13.2.2.1 o13.2.1 o13.2.2.2.2.1 o13.2.2.2.1 o13.2.2.2.2.2 f13 v14 v15 o24 hq25) ⟨callB_of 4 htx (xw_goodC kw_5_52) rfl rfl rfl (htx _ kw_1_28) (htx _ kw_5_50) ⟨by decide, by decide, by decide +kernel⟩ ⟨(by show (16 * d + 3) + 1 ≤ 16 * d + 5; omega), (by show 8 + (7 + 11) + (400 * d + 105) ≤ 400 * d + 157; omega)⟩, htx _ kw_5_51⟩ ⟨xPre_blind, (fun U hU hW => ⟨rfl, xPre_of hZ hS hFc hPc hDc hK U hU hW⟩)⟩ rfl rfl hl.1 rfl (lv_room (Nat.le_of_ble_eq_true rfl)) dK_apply_100 ⟨Nat.le_of_ble_eq_true rfl, Nat.le_of_ble_eq_true rfl⟩) hS (fun q _ h => hFc q h) hFc (fun u9 t H1 locs ht hvm hr9 hB hz1 hk1 hS => ?_)
          obtain ⟨hP1, hK1, hD1⟩ := hB
          rw [ht] at hP1
          obtain ⟨hP, hD⟩ := xjoin (W := [(a0, .inr (2, [.ref a1, .int v1, .int v2])), (a1, .inl (cT 2, 4096, .inr (.inl f0))), (a2, .inr (2, [.ref a3, .int v4, .int v5])), (a3, .inl (cT 2, 4096, .inr (.inl f3))), (a4, .inr (3, [.ref a5, .ref a6, .ref o13.2.2.1, .ref o13.2.2.2.2.1, .int o13.2.2.2.2.2])), (a5, .inl (cT 1, 2048, .inl o13.1)), (a6, .inl (cT 1, 2048, .inl o15)), (o13.2.2.1, .inl (cT 1, 2048, .inl o13.2.1)), (o13.2.2.2.2.1, .inl (cT 1, 2048, .inl o13.2.2.2.1)), (a9, .inr (2, [.ref a10, .int o24.2.1, .int o24.2.2])), (a10, .inl (cT 2, 4096, .inr (.inl o24.1)))]) hP hD [9, 10, 2, 3, 4, 5, 6, 7, 8, 0, 1] [] 0 rfl rfl (by decide) (by decide) hk1 hFc hP1 hD1
          generalize H1 = H at hP hS ⊢
          refine lv_iconst (v := 0) hx hb dK_apply_103 (by decide) ?_
          obtain rfl := Option.some.inj hf
          obtain ⟨hP9, hD9⟩ := xsub (wc := [(a0, .inr (2, [.ref a1, .int v1, .int v2])), (a1, .inl (cT 2, 4096, .inr (.inl f0))), (a2, .inr (2, [.ref a3, .int v4, .int v5])), (a3, .inl (cT 2, 4096, .inr (.inl f3))), (a4, .inr (3, [.ref a5, .ref a6, .ref o13.2.2.1, .ref o13.2.2.2.2.1, .int o13.2.2.2.2.2])), (a5, .inl (cT 1, 2048, .inl o13.1)), (a6, .inl (cT 1, 2048, .inl o15)), (o13.2.2.1, .inl (cT 1, 2048, .inl o13.2.1)), (o13.2.2.2.2.1, .inl (cT 1, 2048, .inl o13.2.2.2.1)), (a9, .inr (2, [.ref a10, .int o24.2.1, .int o24.2.2])), (a10, .inl (cT 2, 4096, .inr (.inl o24.1)))]) hP hD [0, 1, 2, 3, 4, 5, 6, 7, 8, 9, 10] rfl rfl (by decide)
          exact W.iret (v := (0 : Int32)) hx hb hr (fun t ht hW => ⟨⟨(0 : Int32), (), rfl, rfl, by rw [ht]; exact hP9, va_K.moved hW.alike hK, hD9⟩, hS.F ht⟩) hS.2.2 dK_apply_104
        rw [if_neg hc23] at hf
        by_cases hc26 : x0 = 3
        · rw [if_pos hc26] at hf
          refine lv_tableIn (off := 59) (tgt := 105) hx hb dK_apply_46 (by rw [hc26]; decide) (by rw [hc26]; decide) (by rw [hc26]; decide) (by decide) ?_
          refine lv_aload_n hx hb dK_apply_105 rfl (lv_at hl 1 rfl) ?_
          refine lv_iconst (v := 0) hx hb dK_apply_106 (by decide) ?_
          refine lv_aload_n hx hb dK_apply_107 rfl (lv_at hl 3 rfl) ?_
          refine lv_aload hx hb dK_apply_108 (lv_at hl 4 rfl) ?_
          obtain ⟨o27, hq28, hf⟩ := xbind hf
          obtain ⟨hPc, hDc, hFc⟩ := xcut (wc := [(a0, .inr (2, [.ref a1, .int v1, .int v2])), (a1, .inl (cT 2, 4096, .inr (.inl f0))), (a4, .inr (3, [.ref a5, .ref a6, .ref o13.2.2.1, .ref o13.2.2.2.2.1, .int o13.2.2.2.2.2])), (a5, .inl (cT 1, 2048, .inl o13.1)), (a6, .inl (cT 1, 2048, .inl o15)), (o13.2.2.1, .inl (cT 1, 2048, .inl o13.2.1)), (o13.2.2.2.2.1, .inl (cT 1, 2048, .inl o13.2.2.2.1)), (a9, .inr (2, [.ref a10, .int v14, .int v15])), (a10, .inl (cT 2, 4096, .inr (.inl f13)))]) hP hD hS hA [9, 10, 4, 5, 6, 7, 8, 0, 1] rfl rfl (by decide)
          refine va_callv (va_runS (As := [.ref a0, .int 0, .ref a4, .ref a9]) (rest := []) ⟨hx, hb, hml, hown, htx⟩ (gK_putTurnOrNull l hl9 D cT aK aV H.size n a0 a1 a4 a5 a6 a9 a10 (0 : Int32) f0 v1 v2 o13.1 o15 o13.2.2.1 o13.2.1 o13.2.2.2.2.1 o13.2.2.2.1 o13.2.2.2.2.2 f13 v14 v15 o27 hq28) ⟨callB_of 4 htx (xw_goodC kw_5_55) rfl rfl rfl (htx _ kw_1_28) (htx _ kw_5_53) ⟨by decide, by decide, by decide +kernel⟩ ⟨Nat.le_of_ble_eq_true rfl, Nat.le_of_ble_eq_true rfl⟩, htx _ kw_5_54⟩ ⟨xPre_blind, (fun U hU hW => ⟨rfl, xPre_of hZ hS hFc hPc hDc hK U hU hW⟩)⟩ rfl rfl hl.1 rfl (lv_room (Nat.le_of_ble_eq_true rfl)) dK_apply_110 ⟨Nat.le_of_ble_eq_true rfl, Nat.le_of_ble_eq_true rfl⟩) hS (fun q _ h => hFc q h) hFc (fun u9 t H1 locs ht hvm hr9 hB hz1 hk1 hS => ?_)
          obtain ⟨hP1, hK1, hD1⟩ := hB
          rw [ht] at hP1
          obtain ⟨hP, hD⟩ := xjoin (W := [(a2, .inr (2, [.ref a3, .int v4, .int v5])), (a3, .inl (cT 2, 4096, .inr (.inl f3))), (a0, .inr (2, [.ref a1, .int v1, .int v2])), (a1, .inl (cT 2, 4096, .inr (.inl f0))), (a4, .inr (3, [.ref a5, .ref a6, .ref o13.2.2.1, .ref o13.2.2.2.2.1, .int o13.2.2.2.2.2])), (a5, .inl (cT 1, 2048, .inl o13.1)), (a6, .inl (cT 1, 2048, .inl o15)), (o13.2.2.1, .inl (cT 1, 2048, .inl o13.2.1)), (o13.2.2.2.2.1, .inl (cT 1, 2048, .inl o13.2.2.2.1)), (a9, .inr (2, [.ref a10, .int o27.2.1, .int o27.2.2])), (a10, .inl (cT 2, 4096, .inr (.inl o27.1)))]) hP hD [9, 10, 4, 5, 6, 7, 8, 0, 1] [2, 3] 2 rfl rfl (by decide) (by decide) hk1 hFc hP1 hD1
          generalize H1 = H at hP hS ⊢
          refine lv_iconst (v := 0) hx hb dK_apply_113 (by decide) ?_
          obtain rfl := Option.some.inj hf
          obtain ⟨hP9, hD9⟩ := xsub (wc := [(a0, .inr (2, [.ref a1, .int v1, .int v2])), (a1, .inl (cT 2, 4096, .inr (.inl f0))), (a2, .inr (2, [.ref a3, .int v4, .int v5])), (a3, .inl (cT 2, 4096, .inr (.inl f3))), (a4, .inr (3, [.ref a5, .ref a6, .ref o13.2.2.1, .ref o13.2.2.2.2.1, .int o13.2.2.2.2.2])), (a5, .inl (cT 1, 2048, .inl o13.1)), (a6, .inl (cT 1, 2048, .inl o15)), (o13.2.2.1, .inl (cT 1, 2048, .inl o13.2.1)), (o13.2.2.2.2.1, .inl (cT 1, 2048, .inl o13.2.2.2.1)), (a9, .inr (2, [.ref a10, .int o27.2.1, .int o27.2.2])), (a10, .inl (cT 2, 4096, .inr (.inl o27.1)))]) hP hD [2, 3, 0, 1, 4, 5, 6, 7, 8, 9, 10] rfl rfl (by decide)
          exact W.iret (v := (0 : Int32)) hx hb hr (fun t ht hW => ⟨⟨(0 : Int32), (), rfl, rfl, by rw [ht]; exact hP9, va_K.moved hW.alike hK, hD9⟩, hS.F ht⟩) hS.2.2 dK_apply_114
        rw [if_neg hc26] at hf
        refine lv_tableOut (tgt := 115) hx hb dK_apply_46 (by have e0 : x0.toInt ≠ 0 := xsw hc17 (by decide); have e1 : x0.toInt ≠ 1 := xsw hc20 (by decide); have e2 : x0.toInt ≠ 2 := xsw hc23 (by decide); have e3 : x0.toInt ≠ 3 := xsw hc26 (by decide); omega) (by decide) ?_
        refine lv_aload_n hx hb dK_apply_115 rfl (lv_at hl 1 rfl) ?_
        refine lv_aload_n hx hb dK_apply_116 rfl (lv_at hl 1 rfl) ?_
        refine lv_iconst (v := 0) hx hb dK_apply_117 (by decide) ?_
        obtain ⟨o29, hq30, hf⟩ := xbind hf
        obtain ⟨hPc, hDc, hFc⟩ := xcut (wc := [(a0, .inr (2, [.ref a1, .int v1, .int v2])), (a1, .inl (cT 2, 4096, .inr (.inl f0)))]) hP hD hS hA [9, 10] rfl rfl (by decide)
        refine va_calli (va_runV (C := "ValueBench$Row") (As := [.int 0]) (rest := [.ref a0]) ⟨hx, hb, hml, hown, htx⟩ (gR_length l hl9 D cT aK aV H.size n a0 a1 (0 : Int32) f0 v1 v2 o29 hq30) ⟨callB_of 1 htx (xw_goodC kw_2_191) rfl rfl rfl (htx _ kw_1_4) (htx _ kw_5_23) ⟨by decide, by decide, by decide +kernel⟩ ⟨Nat.le_of_ble_eq_true rfl, Nat.le_of_ble_eq_true rfl⟩, (htx _ kw_2_189), (htx _ kw_2_190)⟩ ⟨xPre_blind, va_recv hK hP (ci := 2) rfl (q0 := 9) rfl, (fun U hU hW => ⟨rfl, xPre_of hZ hS hFc hPc hDc hK U hU hW⟩)⟩ rfl rfl hl.1 rfl (lv_room (Nat.le_of_ble_eq_true rfl)) dK_apply_118 ⟨Nat.le_of_ble_eq_true rfl, Nat.le_of_ble_eq_true rfl⟩) hS (fun q _ h => hFc q h) hFc (fun r31 u9 t H1 locs ht hvm hr9 hB hz1 hk1 hS => ?_)
        obtain ⟨hP1, hK1, hD1⟩ := hB
        rw [ht] at hP1
        obtain ⟨hP, hD⟩ := xjoin (W := [(a9, .inr (2, [.ref a10, .int v14, .int v15])), (a10, .inl (cT 2, 4096, .inr (.inl f13))), (a2, .inr (2, [.ref a3, .int v4, .int v5])), (a3, .inl (cT 2, 4096, .inr (.inl f3))), (a4, .inr (3, [.ref a5, .ref a6, .ref o13.2.2.1, .ref o13.2.2.2.2.1, .int o13.2.2.2.2.2])), (a5, .inl (cT 1, 2048, .inl o13.1)), (a6, .inl (cT 1, 2048, .inl o15)), (o13.2.2.1, .inl (cT 1, 2048, .inl o13.2.1)), (o13.2.2.2.2.1, .inl (cT 1, 2048, .inl o13.2.2.2.1)), (a0, .inr (2, [.ref a1, .int v1, .int v2])), (a1, .inl (cT 2, 4096, .inr (.inl f0)))]) hP hD [9, 10] [0, 1, 2, 3, 4, 5, 6, 7, 8] 9 rfl rfl (by decide) (by decide) hk1 hFc hP1 hD1
        generalize H1 = H at hP hS ⊢
        rw [hr9]
        refine W.eq (g2 := F0 m 121 ls [.int o29, .ref a0]) rfl ?_
        refine lv_iconst (v := 1) hx hb dK_apply_121 (by decide) ?_
        refine lv_isub hx hb dK_apply_122 ?_
        refine lv_aload_n hx hb dK_apply_123 rfl (lv_at hl 3 rfl) ?_
        refine lv_aload hx hb dK_apply_124 (lv_at hl 4 rfl) ?_
        obtain ⟨o32, hq33, hf⟩ := xbind hf
        obtain ⟨hPc, hDc, hFc⟩ := xcut (wc := [(a0, .inr (2, [.ref a1, .int v1, .int v2])), (a1, .inl (cT 2, 4096, .inr (.inl f0))), (a4, .inr (3, [.ref a5, .ref a6, .ref o13.2.2.1, .ref o13.2.2.2.2.1, .int o13.2.2.2.2.2])), (a5, .inl (cT 1, 2048, .inl o13.1)), (a6, .inl (cT 1, 2048, .inl o15)), (o13.2.2.1, .inl (cT 1, 2048, .inl o13.2.1)), (o13.2.2.2.2.1, .inl (cT 1, 2048, .inl o13.2.2.2.1)), (a9, .inr (2, [.ref a10, .int v14, .int v15])), (a10, .inl (cT 2, 4096, .inr (.inl f13)))]) hP hD hS hA [9, 10, 4, 5, 6, 7, 8, 0, 1] rfl rfl (by decide)
        refine va_callv (va_runS (As := [.ref a0, .int (o29 - (1 : Int32)), .ref a4, .ref a9]) (rest := []) ⟨hx, hb, hml, hown, htx⟩ (gK_putTurnOrNull l hl9 D cT aK aV H.size n a0 a1 a4 a5 a6 a9 a10 (o29 - (1 : Int32)) f0 v1 v2 o13.1 o15 o13.2.2.1 o13.2.1 o13.2.2.2.2.1 o13.2.2.2.1 o13.2.2.2.2.2 f13 v14 v15 o32 hq33) ⟨callB_of 4 htx (xw_goodC kw_5_55) rfl rfl rfl (htx _ kw_1_28) (htx _ kw_5_53) ⟨by decide, by decide, by decide +kernel⟩ ⟨Nat.le_of_ble_eq_true rfl, Nat.le_of_ble_eq_true rfl⟩, htx _ kw_5_54⟩ ⟨xPre_blind, (fun U hU hW => ⟨rfl, xPre_of hZ hS hFc hPc hDc hK U hU hW⟩)⟩ rfl rfl hl.1 rfl (lv_room (Nat.le_of_ble_eq_true rfl)) dK_apply_126 ⟨Nat.le_of_ble_eq_true rfl, Nat.le_of_ble_eq_true rfl⟩) hS (fun q _ h => hFc q h) hFc (fun u9 t H1 locs ht hvm hr9 hB hz1 hk1 hS => ?_)
        obtain ⟨hP1, hK1, hD1⟩ := hB
        rw [ht] at hP1
        obtain ⟨hP, hD⟩ := xjoin (W := [(a2, .inr (2, [.ref a3, .int v4, .int v5])), (a3, .inl (cT 2, 4096, .inr (.inl f3))), (a0, .inr (2, [.ref a1, .int v1, .int v2])), (a1, .inl (cT 2, 4096, .inr (.inl f0))), (a4, .inr (3, [.ref a5, .ref a6, .ref o13.2.2.1, .ref o13.2.2.2.2.1, .int o13.2.2.2.2.2])), (a5, .inl (cT 1, 2048, .inl o13.1)), (a6, .inl (cT 1, 2048, .inl o15)), (o13.2.2.1, .inl (cT 1, 2048, .inl o13.2.1)), (o13.2.2.2.2.1, .inl (cT 1, 2048, .inl o13.2.2.2.1)), (a9, .inr (2, [.ref a10, .int o32.2.1, .int o32.2.2])), (a10, .inl (cT 2, 4096, .inr (.inl o32.1)))]) hP hD [9, 10, 4, 5, 6, 7, 8, 0, 1] [2, 3] 2 rfl rfl (by decide) (by decide) hk1 hFc hP1 hD1
        generalize H1 = H at hP hS ⊢
        refine lv_iconst (v := 0) hx hb dK_apply_129 (by decide) ?_
        obtain rfl := Option.some.inj hf
        obtain ⟨hP9, hD9⟩ := xsub (wc := [(a0, .inr (2, [.ref a1, .int v1, .int v2])), (a1, .inl (cT 2, 4096, .inr (.inl f0))), (a2, .inr (2, [.ref a3, .int v4, .int v5])), (a3, .inl (cT 2, 4096, .inr (.inl f3))), (a4, .inr (3, [.ref a5, .ref a6, .ref o13.2.2.1, .ref o13.2.2.2.2.1, .int o13.2.2.2.2.2])), (a5, .inl (cT 1, 2048, .inl o13.1)), (a6, .inl (cT 1, 2048, .inl o15)), (o13.2.2.1, .inl (cT 1, 2048, .inl o13.2.1)), (o13.2.2.2.2.1, .inl (cT 1, 2048, .inl o13.2.2.2.1)), (a9, .inr (2, [.ref a10, .int o32.2.1, .int o32.2.2])), (a10, .inl (cT 2, 4096, .inr (.inl o32.1)))]) hP hD [2, 3, 0, 1, 4, 5, 6, 7, 8, 9, 10] rfl rfl (by decide)
        exact W.iret (v := (0 : Int32)) hx hb hr (fun t ht hW => ⟨⟨(0 : Int32), (), rfl, rfl, by rw [ht]; exact hP9, va_K.moved hW.alike hK, hD9⟩, hS.F ht⟩) hS.2.2 dK_apply_130
      · rw [if_neg hc] at hf
        refine lv_iconst (v := 1) hx hb dK_apply_31 (by decide) ?_
        obtain rfl := Option.some.inj hf
        obtain ⟨hP9, hD9⟩ := xsub (wc := [(a0, .inr (2, [.ref a1, .int v1, .int v2])), (a1, .inl (cT 2, 4096, .inr (.inl f0))), (a2, .inr (2, [.ref a3, .int v4, .int v5])), (a3, .inl (cT 2, 4096, .inr (.inl f3))), (a4, .inr (3, [.ref a5, .ref a6, .ref p8, .ref p10, .int v12])), (a5, .inl (cT 1, 2048, .inl f6)), (a6, .inl (cT 1, 2048, .inl f7)), (p8, .inl (cT 1, 2048, .inl f9)), (p10, .inl (cT 1, 2048, .inl f11)), (a9, .inr (2, [.ref a10, .int v14, .int v15])), (a10, .inl (cT 2, 4096, .inr (.inl f13)))]) hP hD [7, 8, 9, 10, 0, 1, 2, 3, 4, 5, 6] rfl rfl (by decide)
        exact W.iret (v := (1 : Int32)) hx hb hr (fun t ht hW => ⟨⟨(1 : Int32), (), rfl, rfl, by rw [ht]; exact hP9, va_K.moved hW.alike hK, hD9⟩, hS.F ht⟩) hS.2.2 dK_apply_32
set_option maxHeartbeats 400000000 in
set_option maxRecDepth 100000 in
theorem gK_putGroupa (l : Launch) (hl9 : l.stackTraces = false) (D : va_G) (cT : Nat → ClassId) (aK aV : Nat → Nat) (sz d n : Nat) (a0 : Nat) (a1 : Nat) (a2 : Nat) (a3 : Nat) (a4 : Nat) (a7 : Nat) (a8 : Nat) (x2 : Int32) (f0 : Nat → Int64) (v1 : Int32) (v2 : Int32) (f3 : Nat → Int32) (f4 : Nat → Int32) (p5 : Nat) (f6 : Nat → Int32) (p7 : Nat) (f8 : Nat → Int32) (v9 : Int32) (f10 : Nat → Int64) (v11 : Int32) (v12 : Int32) (out : (Nat → Int64) × Int32 × Int32) (hf : fK_putGroupa d n x2 f0 v1 v2 f3 f4 p5 f6 p7 f8 v9 f10 v11 v12 = some out) : xMet l yK_putGroup wyK_putGroup (16 * d + 3) 0 0 (400 * d + 105) D cT aK aV sz [.ref a0, .ref a0, .int x2, .ref a2, .ref a7] [(a0, .inr (2, [.ref a1, .int v1, .int v2])), (a1, .inl (cT 2, 4096, .inr (.inl f0))), (a2, .inr (3, [.ref a3, .ref a4, .ref p5, .ref p7, .int v9])), (a3, .inl (cT 1, 2048, .inl f3)), (a4, .inl (cT 1, 2048, .inl f4)), (p5, .inl (cT 1, 2048, .inl f6)), (p7, .inl (cT 1, 2048, .inl f8)), (a7, .inr (2, [.ref a8, .int v11, .int v12])), (a8, .inl (cT 2, 4096, .inr (.inl f10)))] (fun A => va_Qv (fun _ : Unit => True) (fun _ t => xB D xcl cT A [(a0, .inr (2, [.ref a1, .int v1, .int v2])), (a1, .inl (cT 2, 4096, .inr (.inl f0))), (a2, .inr (3, [.ref a3, .ref a4, .ref p5, .ref p7, .int v9])), (a3, .inl (cT 1, 2048, .inl f3)), (a4, .inl (cT 1, 2048, .inl f4)), (p5, .inl (cT 1, 2048, .inl f6)), (p7, .inl (cT 1, 2048, .inl f8)), (a7, .inr (2, [.ref a8, .int out.2.1, .int out.2.2])), (a8, .inl (cT 2, 4096, .inr (.inl out.1)))] t) A) := by
  refine Met.ofW (cc := prog_2_method_7_code) (maxL := 7) (ret := none) (by decide) rfl ?_
  intro p e s m args below meth c s₁ B hml hv
  obtain ⟨rfl, hsz, hZ, hP, hK, hD0⟩ := hv
  have hx := B.exec
  have hb := B.bytes
  have hr := B.returns
  have hts := atoms_spec (ws := wyK_putGroup) B.pre
  have htx := fun w h => hts w (List.mem_cons_of_mem _ h)
  have hown : s.vm.findClass "ValueBench$Keyed" = some m.cls := findClass_of_methodNamed B.named
  have hlocks := B.notSynchronized
  subst hsz
  have hD := hD0.self (sz := s.heap.size)
  generalize hAe : va_A [(a0, .inr (2, [.ref a1, .int v1, .int v2])), (a1, .inl (cT 2, 4096, .inr (.inl f0))), (a2, .inr (3, [.ref a3, .ref a4, .ref p5, .ref p7, .int v9])), (a3, .inl (cT 1, 2048, .inl f3)), (a4, .inl (cT 1, 2048, .inl f4)), (p5, .inl (cT 1, 2048, .inl f6)), (p7, .inl (cT 1, 2048, .inl f8)), (a7, .inr (2, [.ref a8, .int v11, .int v12])), (a8, .inl (cT 2, 4096, .inr (.inl f10)))] s.heap.size = A at hD hZ ⊢
  have hA : ∀ q : Nat, s.heap.size ≤ q → A q := fun q h => by rw [← hAe]; exact Or.inr h
  have hS : va_S A s.heap s.heap [] := va_S.rf
  have hP : va_P D xcl [(a0, .inr (2, [.ref a1, .int v1, .int v2])), (a1, .inl (cT 2, 4096, .inr (.inl f0))), (a2, .inr (3, [.ref a3, .ref a4, .ref p5, .ref p7, .int v9])), (a3, .inl (cT 1, 2048, .inl f3)), (a4, .inl (cT 1, 2048, .inl f4)), (p5, .inl (cT 1, 2048, .inl f6)), (p7, .inl (cT 1, 2048, .inl f8)), (a7, .inr (2, [.ref a8, .int v11, .int v12])), (a8, .inl (cT 2, 4096, .inr (.inl f10)))] s.heap := hP
  have hl := lv_entry ([.ref a0, .ref a0, .int x2, .ref a2, .ref a7]) (n := 7) (Nat.le_of_ble_eq_true rfl)
  rw [lg_entry_eq]
  generalize (lg_sl ([.ref a0, .ref a0, .int x2, .ref a2, .ref a7]) ++ List.replicate (7 - (lg_sl ([.ref a0, .ref a0, .int x2, .ref a2, .ref a7])).length) Slot.unset).toArray = ls at hl ⊢
  have hl : lv_has ls 7 [(0, .ref a0), (1, .ref a0), (2, .int x2), (3, .ref a2), (4, .ref a7)] := hl
  unfold fK_putGroupa at hf
  refine xloopK (σ := Nat × Int32 × Int32 × Int32 × (Nat → Int64) × Int32 × Int32) (fun n x H locs ls => (x.1 = 1 ∧ fK_putGroupa_b d f0 v1 v2 f3 f4 p5 f6 p7 f8 v9 n x.1 x.2.1 x.2.2.1 x.2.2.2.1 x.2.2.2.2.1 x.2.2.2.2.2.1 x.2.2.2.2.2.2 = some out ∧ va_P D xcl [(a0, .inr (2, [.ref a1, .int v1, .int v2])), (a1, .inl (cT 2, 4096, .inr (.inl f0))), (a2, .inr (3, [.ref a3, .ref a4, .ref p5, .ref p7, .int v9])), (a3, .inl (cT 1, 2048, .inl f3)), (a4, .inl (cT 1, 2048, .inl f4)), (p5, .inl (cT 1, 2048, .inl f6)), (p7, .inl (cT 1, 2048, .inl f8)), (a7, .inr (2, [.ref a8, .int x.2.2.2.2.2.1, .int x.2.2.2.2.2.2])), (a8, .inl (cT 2, 4096, .inr (.inl x.2.2.2.2.1)))] H ∧ va_D A [(a0, .inr (2, [.ref a1, .int v1, .int v2])), (a1, .inl (cT 2, 4096, .inr (.inl f0))), (a2, .inr (3, [.ref a3, .ref a4, .ref p5, .ref p7, .int v9])), (a3, .inl (cT 1, 2048, .inl f3)), (a4, .inl (cT 1, 2048, .inl f4)), (p5, .inl (cT 1, 2048, .inl f6)), (p7, .inl (cT 1, 2048, .inl f8)), (a7, .inr (2, [.ref a8, .int x.2.2.2.2.2.1, .int x.2.2.2.2.2.2])), (a8, .inl (cT 2, 4096, .inr (.inl x.2.2.2.2.1)))] ∧ va_S A s.heap H locs ∧ lv_has ls 7 [(6, .int x.2.1), (5, .int x.2.2.1), (0, .ref a0), (1, .ref a0), (2, .int x.2.2.2.1), (3, .ref a2), (4, .ref a7)])) (fun x => 23) (fun x H locs ls h => by exact absurd h.2.1 (by rw [fK_putGroupa_b]; exact fun h => nomatch h)) (fun n ih x H locs ls hv => ?_) (fun key => ?_)
  · obtain ⟨lb, y6, y5, y2, w0, w1, w2⟩ := x
    rcases hv with ⟨hj, hf, hP, hD, hS, hl⟩
    subst hj
    have hf : fK_putGroupa_b d f0 v1 v2 f3 f4 p5 f6 p7 f8 v9 (n + 1) 1 y6 y5 y2 w0 w1 w2 = some out := hf
    rw [fK_putGroupa_b] at hf
    obtain ⟨hP, hD⟩ : xPD D xcl A [(a0, .inr (2, [.ref a1, .int v1, .int v2])), (a1, .inl (cT 2, 4096, .inr (.inl f0))), (a2, .inr (3, [.ref a3, .ref a4, .ref p5, .ref p7, .int v9])), (a3, .inl (cT 1, 2048, .inl f3)), (a4, .inl (cT 1, 2048, .inl f4)), (p5, .inl (cT 1, 2048, .inl f6)), (p7, .inl (cT 1, 2048, .inl f8)), (a7, .inr (2, [.ref a8, .int w1, .int w2])), (a8, .inl (cT 2, 4096, .inr (.inl w0)))] H := ⟨hP, hD⟩
    have hl : lv_has ls 7 [(6, .int y6), (5, .int y5), (0, .ref a0), (1, .ref a0), (2, .int y2), (3, .ref a2), (4, .ref a7)] := hl
    refine W.eq (g2 := F0 m 23 ls []) rfl ?_
    refine lv_iload hx hb dK_putGroup_23 (lv_at hl 0 rfl) ?_
    refine lv_aload_n hx hb dK_putGroup_25 rfl (lv_at hl 2 rfl) ?_
    refine lv_iconst (v := 0) hx hb dK_putGroup_26 (by decide) ?_
    obtain ⟨o1, hq2, hf⟩ := xbind hf
    obtain ⟨hPc, hDc, hFc⟩ := xcut (wc := [(a0, .inr (2, [.ref a1, .int v1, .int v2])), (a1, .inl (cT 2, 4096, .inr (.inl f0)))]) hP hD hS hA [0, 1] rfl rfl (by decide)
    refine va_calli (va_runV (C := "ValueBench$Row") (As := [.int 0]) (rest := [.int y6]) ⟨hx, hb, hml, hown, htx⟩ (gR_length l hl9 D cT aK aV H.size n a0 a1 (0 : Int32) f0 v1 v2 o1 hq2) ⟨callB_of 1 htx (xw_goodC kw_2_191) rfl rfl rfl (htx _ kw_1_4) (htx _ kw_5_23) ⟨by decide, by decide, by decide +kernel⟩ ⟨Nat.le_of_ble_eq_true rfl, Nat.le_of_ble_eq_true rfl⟩, (htx _ kw_2_189), (htx _ kw_2_190)⟩ ⟨xPre_blind, va_recv hK hP (ci := 2) rfl (q0 := 0) rfl, (fun U hU hW => ⟨rfl, xPre_of hZ hS hFc hPc hDc hK U hU hW⟩)⟩ rfl rfl hl.1 rfl (lv_room (Nat.le_of_ble_eq_true rfl)) dK_putGroup_27 ⟨Nat.le_of_ble_eq_true rfl, Nat.le_of_ble_eq_true rfl⟩) hS (fun q _ h => hFc q h) hFc (fun r3 u9 t H1 locs ht hvm hr9 hB hz1 hk1 hS => ?_)
    obtain ⟨hP1, hK1, hD1⟩ := hB
    rw [ht] at hP1
    obtain ⟨hP, hD⟩ := xjoin (W := [(a2, .inr (3, [.ref a3, .ref a4, .ref p5, .ref p7, .int v9])), (a3, .inl (cT 1, 2048, .inl f3)), (a4, .inl (cT 1, 2048, .inl f4)), (p5, .inl (cT 1, 2048, .inl f6)), (p7, .inl (cT 1, 2048, .inl f8)), (a7, .inr (2, [.ref a8, .int w1, .int w2])), (a8, .inl (cT 2, 4096, .inr (.inl w0))), (a0, .inr (2, [.ref a1, .int v1, .int v2])), (a1, .inl (cT 2, 4096, .inr (.inl f0)))]) hP hD [0, 1] [2, 3, 4, 5, 6, 7, 8] 7 rfl rfl (by decide) (by decide) hk1 hFc hP1 hD1
    generalize H1 = H at hP hS ⊢
    rw [hr9]
    refine W.eq (g2 := F0 m 30 ls [.int o1, .int y6]) rfl ?_
    refine lv_icmp_ge (tgt := 61) hx hb dK_putGroup_30 (by decide) (fun hc => ?_) (fun hc => ?_)
    · rw [if_pos hc] at hf
      refine lv_aload hx hb dK_putGroup_61 (lv_at hl 6 rfl) ?_
      refine lv_iload hx hb dK_putGroup_63 (lv_at hl 1 rfl) ?_
      refine lv_iconst (v := 5) hx hb dK_putGroup_65 (by decide) ?_
      refine lv_iload hx hb dK_putGroup_66 (lv_at hl 0 rfl) ?_
      refine lv_iload_n hx hb dK_putGroup_68 rfl (lv_at hl 4 rfl) ?_
      refine lv_isub hx hb dK_putGroup_69 ?_
      obtain ⟨o4, hq5, hf⟩ := xbind hf
      obtain ⟨hPc, hDc, hFc⟩ := xcut (wc := [(a7, .inr (2, [.ref a8, .int w1, .int w2])), (a8, .inl (cT 2, 4096, .inr (.inl w0)))]) hP hD hS hA [5, 6] rfl rfl (by decide)
      refine va_callv (va_runV (C := "ValueBench$Row") (As := [.int y5, .int 5, .int (y6 - y2)]) (rest := []) ⟨hx, hb, hml, hown, htx⟩ (gR_close l hl9 D cT aK aV H.size n a7 a8 y5 (5 : Int32) (y6 - y2) w0 w1 w2 o4 hq5) ⟨callB_of 3 htx (xw_goodC kw_2_167) rfl rfl rfl (htx _ kw_1_4) (htx _ kw_5_38) ⟨by decide, by decide, by decide +kernel⟩ ⟨Nat.le_of_ble_eq_true rfl, Nat.le_of_ble_eq_true rfl⟩, (htx _ kw_2_165), (htx _ kw_2_166)⟩ ⟨xPre_blind, va_recv hK hP (ci := 2) rfl (q0 := 5) rfl, (fun U hU hW => ⟨rfl, xPre_of hZ hS hFc hPc hDc hK U hU hW⟩)⟩ rfl rfl hl.1 rfl (lv_room (Nat.le_of_ble_eq_true rfl)) dK_putGroup_70 ⟨Nat.le_of_ble_eq_true rfl, Nat.le_of_ble_eq_true rfl⟩) hS (fun q _ h => hFc q h) hFc (fun u9 t H1 locs ht hvm hr9 hB hz1 hk1 hS => ?_)
      obtain ⟨hP1, hK1, hD1⟩ := hB
      rw [ht] at hP1
      obtain ⟨hP, hD⟩ := xjoin (W := [(a2, .inr (3, [.ref a3, .ref a4, .ref p5, .ref p7, .int v9])), (a3, .inl (cT 1, 2048, .inl f3)), (a4, .inl (cT 1, 2048, .inl f4)), (p5, .inl (cT 1, 2048, .inl f6)), (p7, .inl (cT 1, 2048, .inl f8)), (a0, .inr (2, [.ref a1, .int v1, .int v2])), (a1, .inl (cT 2, 4096, .inr (.inl f0))), (a7, .inr (2, [.ref a8, .int w1, .int w2])), (a8, .inl (cT 2, 4096, .inr (.inl o4)))]) hP hD [5, 6] [0, 1, 2, 3, 4, 7, 8] 7 rfl rfl (by decide) (by decide) hk1 hFc hP1 hD1
      generalize H1 = H at hP hS ⊢
      obtain rfl := Option.some.inj hf
      obtain ⟨hP9, hD9⟩ := xsub (wc := [(a0, .inr (2, [.ref a1, .int v1, .int v2])), (a1, .inl (cT 2, 4096, .inr (.inl f0))), (a2, .inr (3, [.ref a3, .ref a4, .ref p5, .ref p7, .int v9])), (a3, .inl (cT 1, 2048, .inl f3)), (a4, .inl (cT 1, 2048, .inl f4)), (p5, .inl (cT 1, 2048, .inl f6)), (p7, .inl (cT 1, 2048, .inl f8)), (a7, .inr (2, [.ref a8, .int w1, .int w2])), (a8, .inl (cT 2, 4096, .inr (.inl o4)))]) hP hD [5, 6, 0, 1, 2, 3, 4, 7, 8] rfl rfl (by decide)
      exact W.vret hx hb hr (fun t ht hW => ⟨⟨(), rfl, trivial, by rw [ht]; exact hP9, va_K.moved hW.alike hK, hD9⟩, hS.F ht⟩) hS.2.2 dK_putGroup_73
    · rw [if_neg hc] at hf
      refine lv_aload_n hx hb dK_putGroup_33 rfl (lv_at hl 3 rfl) ?_
      refine lv_iload hx hb dK_putGroup_34 (lv_at hl 0 rfl) ?_
      refine lv_aload_n hx hb dK_putGroup_36 rfl (lv_at hl 5 rfl) ?_
      obtain ⟨o4, hq5, hf⟩ := xbind hf
      obtain ⟨hPc, hDc, hFc⟩ := xcut (wc := [(a0, .inr (2, [.ref a1, .int v1, .int v2])), (a1, .inl (cT 2, 4096, .inr (.inl f0))), (a2, .inr (3, [.ref a3, .ref a4, .ref p5, .ref p7, .int v9])), (a3, .inl (cT 1, 2048, .inl f3)), (a4, .inl (cT 1, 2048, .inl f4)), (p5, .inl (cT 1, 2048, .inl f6)), (p7, .inl (cT 1, 2048, .inl f8))]) hP hD hS hA [7, 8, 0, 1, 2, 3, 4] rfl rfl (by decide)
      refine va_calli (va_runS (As := [.ref a0, .int y6, .ref a2]) (rest := []) ⟨hx, hb, hml, hown, htx⟩ (gK_beginsGroup l hl9 D cT aK aV H.size d n a0 a1 a2 a3 a4 y6 f0 v1 v2 f3 f4 p5 f6 p7 f8 v9 o4 hq5) ⟨callB_of 3 htx (xw_goodC kw_5_44) rfl rfl rfl (htx _ kw_1_28) (htx _ kw_5_42) ⟨by decide, by decide, by decide +kernel⟩ ⟨(by show (16 * d + 1) + 1 ≤ 16 * d + 3; omega), (by show 8 + (3 + 11) + (400 * d + 24) ≤ 400 * d + 105; omega)⟩, htx _ kw_5_43⟩ ⟨xPre_blind, (fun U hU hW => ⟨rfl, xPre_of hZ hS hFc hPc hDc hK U hU hW⟩)⟩ rfl rfl hl.1 rfl (lv_room (Nat.le_of_ble_eq_true rfl)) dK_putGroup_37 ⟨Nat.le_of_ble_eq_true rfl, Nat.le_of_ble_eq_true rfl⟩) hS (fun q _ h => hFc q h) hFc (fun r6 u9 t H1 locs ht hvm hr9 hB hz1 hk1 hS => ?_)
      obtain ⟨hP1, hK1, hD1⟩ := hB
      rw [ht] at hP1
      obtain ⟨hP, hD⟩ := xjoin (W := [(a7, .inr (2, [.ref a8, .int w1, .int w2])), (a8, .inl (cT 2, 4096, .inr (.inl w0))), (a0, .inr (2, [.ref a1, .int v1, .int v2])), (a1, .inl (cT 2, 4096, .inr (.inl f0))), (a2, .inr (3, [.ref a3, .ref a4, .ref p5, .ref p7, .int v9])), (a3, .inl (cT 1, 2048, .inl f3)), (a4, .inl (cT 1, 2048, .inl f4)), (p5, .inl (cT 1, 2048, .inl f6)), (p7, .inl (cT 1, 2048, .inl f8))]) hP hD [7, 8, 0, 1, 2, 3, 4] [5, 6] 2 rfl rfl (by decide) (by decide) hk1 hFc hP1 hD1
      generalize H1 = H at hP hS ⊢
      rw [hr9]
      refine W.eq (g2 := F0 m 40 ls [.int o4]) rfl ?_
      refine lv_if_ne (tgt := 61) hx hb dK_putGroup_40 (by decide) (fun hc => ?_) (fun hc => ?_)
      · rw [if_neg hc] at hf
        refine lv_aload hx hb dK_putGroup_61 (lv_at hl 6 rfl) ?_
        refine lv_iload hx hb dK_putGroup_63 (lv_at hl 1 rfl) ?_
        refine lv_iconst (v := 5) hx hb dK_putGroup_65 (by decide) ?_
        refine lv_iload hx hb dK_putGroup_66 (lv_at hl 0 rfl) ?_
        refine lv_iload_n hx hb dK_putGroup_68 rfl (lv_at hl 4 rfl) ?_
        refine lv_isub hx hb dK_putGroup_69 ?_
        obtain ⟨o7, hq8, hf⟩ := xbind hf
        obtain ⟨hPc, hDc, hFc⟩ := xcut (wc := [(a7, .inr (2, [.ref a8, .int w1, .int w2])), (a8, .inl (cT 2, 4096, .inr (.inl w0)))]) hP hD hS hA [0, 1] rfl rfl (by decide)
        refine va_callv (va_runV (C := "ValueBench$Row") (As := [.int y5, .int 5, .int (y6 - y2)]) (rest := []) ⟨hx, hb, hml, hown, htx⟩ (gR_close l hl9 D cT aK aV H.size n a7 a8 y5 (5 : Int32) (y6 - y2) w0 w1 w2 o7 hq8) ⟨callB_of 3 htx (xw_goodC kw_2_167) rfl rfl rfl (htx _ kw_1_4) (htx _ kw_5_38) ⟨by decide, by decide, by decide +kernel⟩ ⟨Nat.le_of_ble_eq_true rfl, Nat.le_of_ble_eq_true rfl⟩, (htx _ kw_2_165), (htx _ kw_2_166)⟩ ⟨xPre_blind, va_recv hK hP (ci := 2) rfl (q0 := 0) rfl, (fun U hU hW => ⟨rfl, xPre_of hZ hS hFc hPc hDc hK U hU hW⟩)⟩ rfl rfl hl.1 rfl (lv_room (Nat.le_of_ble_eq_true rfl)) dK_putGroup_70 ⟨Nat.le_of_ble_eq_true rfl, Nat.le_of_ble_eq_true rfl⟩) hS (fun q _ h => hFc q h) hFc (fun u9 t H1 locs ht hvm hr9 hB hz1 hk1 hS => ?_)
        obtain ⟨hP1, hK1, hD1⟩ := hB
        rw [ht] at hP1
        obtain ⟨hP, hD⟩ := xjoin (W := [(a0, .inr (2, [.ref a1, .int v1, .int v2])), (a1, .inl (cT 2, 4096, .inr (.inl f0))), (a2, .inr (3, [.ref a3, .ref a4, .ref p5, .ref p7, .int v9])), (a3, .inl (cT 1, 2048, .inl f3)), (a4, .inl (cT 1, 2048, .inl f4)), (p5, .inl (cT 1, 2048, .inl f6)), (p7, .inl (cT 1, 2048, .inl f8)), (a7, .inr (2, [.ref a8, .int w1, .int w2])), (a8, .inl (cT 2, 4096, .inr (.inl o7)))]) hP hD [0, 1] [2, 3, 4, 5, 6, 7, 8] 7 rfl rfl (by decide) (by decide) hk1 hFc hP1 hD1
        generalize H1 = H at hP hS ⊢
        obtain rfl := Option.some.inj hf
        obtain ⟨hP9, hD9⟩ := xsub (wc := [(a0, .inr (2, [.ref a1, .int v1, .int v2])), (a1, .inl (cT 2, 4096, .inr (.inl f0))), (a2, .inr (3, [.ref a3, .ref a4, .ref p5, .ref p7, .int v9])), (a3, .inl (cT 1, 2048, .inl f3)), (a4, .inl (cT 1, 2048, .inl f4)), (p5, .inl (cT 1, 2048, .inl f6)), (p7, .inl (cT 1, 2048, .inl f8)), (a7, .inr (2, [.ref a8, .int w1, .int w2])), (a8, .inl (cT 2, 4096, .inr (.inl o7)))]) hP hD [0, 1, 2, 3, 4, 5, 6, 7, 8] rfl rfl (by decide)
        exact W.vret hx hb hr (fun t ht hW => ⟨⟨(), rfl, trivial, by rw [ht]; exact hP9, va_K.moved hW.alike hK, hD9⟩, hS.F ht⟩) hS.2.2 dK_putGroup_73
      · rw [if_pos hc] at hf
        refine lv_aload hx hb dK_putGroup_43 (lv_at hl 6 rfl) ?_
        refine lv_aload_n hx hb dK_putGroup_45 rfl (lv_at hl 2 rfl) ?_
        refine lv_aload_n hx hb dK_putGroup_46 rfl (lv_at hl 5 rfl) ?_
        refine lv_iload hx hb dK_putGroup_47 (lv_at hl 0 rfl) ?_
        obtain ⟨o7, hq8, hf⟩ := xbind hf
        obtain ⟨hPc, hDc, hFc⟩ := xcut (wc := [(a2, .inr (3, [.ref a3, .ref a4, .ref p5, .ref p7, .int v9])), (a3, .inl (cT 1, 2048, .inl f3)), (a4, .inl (cT 1, 2048, .inl f4)), (p5, .inl (cT 1, 2048, .inl f6)), (p7, .inl (cT 1, 2048, .inl f8))]) hP hD hS hA [4, 5, 6, 7, 8] rfl rfl (by decide)
        refine va_calli (va_runV (C := "ValueBench$Sorter") (As := [.int y6]) (rest := [.ref a0, .ref a7]) ⟨hx, hb, hml, hown, htx⟩ (gS_elementAtTurn l hl9 D cT aK aV H.size n a2 a3 a4 y6 f3 f4 p5 f6 p7 f8 v9 o7 hq8) ⟨callB_of 1 htx (xw_goodC kw_5_36) rfl rfl rfl (htx _ kw_1_3) (htx _ kw_5_33) ⟨by decide, by decide, by decide +kernel⟩ ⟨Nat.le_of_ble_eq_true rfl, Nat.le_of_ble_eq_true rfl⟩, (htx _ kw_5_34), (htx _ kw_5_35)⟩ ⟨xPre_blind, va_recv hK hP (ci := 3) rfl (q0 := 4) rfl, (fun U hU hW => ⟨rfl, xPre_of hZ hS hFc hPc hDc hK U hU hW⟩)⟩ rfl rfl hl.1 rfl (lv_room (Nat.le_of_ble_eq_true rfl)) dK_putGroup_49 ⟨Nat.le_of_ble_eq_true rfl, Nat.le_of_ble_eq_true rfl⟩) hS (fun q _ h => hFc q h) hFc (fun r9 u9 t H1 locs ht hvm hr9 hB hz1 hk1 hS => ?_)
        obtain ⟨hP1, hK1, hD1⟩ := hB
        rw [ht] at hP1
        obtain ⟨hP, hD⟩ := xjoin (W := [(a7, .inr (2, [.ref a8, .int w1, .int w2])), (a8, .inl (cT 2, 4096, .inr (.inl w0))), (a0, .inr (2, [.ref a1, .int v1, .int v2])), (a1, .inl (cT 2, 4096, .inr (.inl f0))), (a2, .inr (3, [.ref a3, .ref a4, .ref p5, .ref p7, .int v9])), (a3, .inl (cT 1, 2048, .inl f3)), (a4, .inl (cT 1, 2048, .inl f4)), (p5, .inl (cT 1, 2048, .inl f6)), (p7, .inl (cT 1, 2048, .inl f8))]) hP hD [4, 5, 6, 7, 8] [0, 1, 2, 3] 4 rfl rfl (by decide) (by decide) hk1 hFc hP1 hD1
        generalize H1 = H at hP hS ⊢
        rw [hr9]
        refine W.eq (g2 := F0 m 52 ls [.int o7, .ref a0, .ref a7]) rfl ?_
        obtain ⟨o10, hq11, hf⟩ := xbind hf
        obtain ⟨hPc, hDc, hFc⟩ := xcut (wc := [(a7, .inr (2, [.ref a8, .int w1, .int w2])), (a8, .inl (cT 2, 4096, .inr (.inl w0))), (a0, .inr (2, [.ref a1, .int v1, .int v2])), (a1, .inl (cT 2, 4096, .inr (.inl f0)))]) hP hD hS hA [0, 1, 2, 3] rfl rfl (by decide)
        refine va_callv (va_runV (C := "ValueBench$Row") (As := [.ref a0, .int o7]) (rest := []) ⟨hx, hb, hml, hown, htx⟩ (gR_putCopy l hl9 D cT aK aV H.size n a7 a8 a0 a1 o7 w0 w1 w2 f0 v1 v2 o10 hq11) ⟨callB_of 2 htx (xw_goodC kw_3_126) rfl rfl rfl (htx _ kw_1_4) (htx _ kw_5_37) ⟨by decide, by decide, by decide +kernel⟩ ⟨Nat.le_of_ble_eq_true rfl, Nat.le_of_ble_eq_true rfl⟩, (htx _ kw_3_124), (htx _ kw_3_125)⟩ ⟨xPre_blind, va_recv hK hP (ci := 2) rfl (q0 := 0) rfl, (fun U hU hW => ⟨rfl, xPre_of hZ hS hFc hPc hDc hK U hU hW⟩)⟩ rfl rfl hl.1 rfl (lv_room (Nat.le_of_ble_eq_true rfl)) dK_putGroup_52 ⟨Nat.le_of_ble_eq_true rfl, Nat.le_of_ble_eq_true rfl⟩) hS (fun q _ h => hFc q h) hFc (fun u9 t H1 locs ht hvm hr9 hB hz1 hk1 hS => ?_)
        obtain ⟨hP1, hK1, hD1⟩ := hB
        rw [ht] at hP1
        obtain ⟨hP, hD⟩ := xjoin (W := [(a2, .inr (3, [.ref a3, .ref a4, .ref p5, .ref p7, .int v9])), (a3, .inl (cT 1, 2048, .inl f3)), (a4, .inl (cT 1, 2048, .inl f4)), (p5, .inl (cT 1, 2048, .inl f6)), (p7, .inl (cT 1, 2048, .inl f8)), (a7, .inr (2, [.ref a8, .int o10.2.1, .int o10.2.2])), (a8, .inl (cT 2, 4096, .inr (.inl o10.1))), (a0, .inr (2, [.ref a1, .int v1, .int v2])), (a1, .inl (cT 2, 4096, .inr (.inl f0)))]) hP hD [0, 1, 2, 3] [4, 5, 6, 7, 8] 5 rfl rfl (by decide) (by decide) hk1 hFc hP1 hD1
        generalize H1 = H at hP hS ⊢
        refine lv_iinc (v := (y6 + 1)) (lv' := [(6, .int (y6 + 1)), (5, .int y5), (0, .ref a0), (1, .ref a0), (2, .int y2), (3, .ref a2), (4, .ref a7)]) hx hb dK_putGroup_55 hl (k := 0) rfl rfl (by decide) rfl (fun ls hl => ?_)
        refine lv_goto (tgt := 23) hx hb dK_putGroup_58 (by decide) ?_
        obtain ⟨hP9, hD9⟩ := xsub (wc := [(a0, .inr (2, [.ref a1, .int v1, .int v2])), (a1, .inl (cT 2, 4096, .inr (.inl f0))), (a2, .inr (3, [.ref a3, .ref a4, .ref p5, .ref p7, .int v9])), (a3, .inl (cT 1, 2048, .inl f3)), (a4, .inl (cT 1, 2048, .inl f4)), (p5, .inl (cT 1, 2048, .inl f6)), (p7, .inl (cT 1, 2048, .inl f8)), (a7, .inr (2, [.ref a8, .int o10.2.1, .int o10.2.2])), (a8, .inl (cT 2, 4096, .inr (.inl o10.1)))]) hP hD [7, 8, 0, 1, 2, 3, 4, 5, 6] rfl rfl (by decide)
        exact ih (1, (y6 + 1), y5, y2, o10.1, o10.2.1, o10.2.2) _ _ ls (⟨rfl, hf, hP9, hD9, hS, lv_sub hl [0, 1, 2, 3, 4, 5, 6] rfl⟩)
  refine lv_aload hx hb dK_putGroup_0 (lv_at hl 4 rfl) ?_
  obtain ⟨o1, hq2, hf⟩ := xbind hf
  obtain ⟨hPc, hDc, hFc⟩ := xcut (wc := [(a7, .inr (2, [.ref a8, .int v11, .int v12])), (a8, .inl (cT 2, 4096, .inr (.inl f10)))]) hP hD hS hA [7, 8] rfl rfl (by decide)
  refine va_calli (va_runV (C := "ValueBench$Row") (As := []) (rest := []) ⟨hx, hb, hml, hown, htx⟩ (gR_open l hl9 D cT aK aV s.heap.size n a7 a8 f10 v11 v12 o1 hq2) ⟨callB_of 0 htx (xw_goodC kw_2_136) rfl rfl rfl (htx _ kw_1_4) (htx _ kw_5_32) ⟨by decide, by decide, by decide +kernel⟩ ⟨Nat.le_of_ble_eq_true rfl, Nat.le_of_ble_eq_true rfl⟩, (htx _ kw_2_134), (htx _ kw_2_135)⟩ ⟨xPre_blind, va_recv hK hP (ci := 2) rfl (q0 := 7) rfl, (fun U hU hW => ⟨rfl, xPre_of hZ hS hFc hPc hDc hK U hU hW⟩)⟩ rfl rfl hl.1 rfl (lv_room (Nat.le_of_ble_eq_true rfl)) dK_putGroup_2 ⟨Nat.le_of_ble_eq_true rfl, Nat.le_of_ble_eq_true rfl⟩) hS (fun q _ h => hFc q h) hFc (fun r3 u9 t H1 locs ht hvm hr9 hB hz1 hk1 hS => ?_)
  obtain ⟨hP1, hK1, hD1⟩ := hB
  rw [ht] at hP1
  obtain ⟨hP, hD⟩ := xjoin (W := [(a0, .inr (2, [.ref a1, .int v1, .int v2])), (a1, .inl (cT 2, 4096, .inr (.inl f0))), (a2, .inr (3, [.ref a3, .ref a4, .ref p5, .ref p7, .int v9])), (a3, .inl (cT 1, 2048, .inl f3)), (a4, .inl (cT 1, 2048, .inl f4)), (p5, .inl (cT 1, 2048, .inl f6)), (p7, .inl (cT 1, 2048, .inl f8)), (a7, .inr (2, [.ref a8, .int o1.2.2.1, .int o1.2.2.2])), (a8, .inl (cT 2, 4096, .inr (.inl o1.2.1)))]) hP hD [7, 8] [0, 1, 2, 3, 4, 5, 6] 7 rfl rfl (by decide) (by decide) hk1 hFc hP1 hD1
  generalize H1 = H at hP hS ⊢
  rw [hr9]
  refine W.eq (g2 := F0 m 5 ls [.int o1.1]) rfl ?_
  refine lv_istore (lv' := [(5, .int o1.1), (0, .ref a0), (1, .ref a0), (2, .int x2), (3, .ref a2), (4, .ref a7)]) hx hb dK_putGroup_5 hl (by decide) rfl (fun ls hl => ?_)
  refine lv_aload hx hb dK_putGroup_7 (lv_at hl 5 rfl) ?_
  refine lv_aload_n hx hb dK_putGroup_9 rfl (lv_at hl 1 rfl) ?_
  refine lv_aload_n hx hb dK_putGroup_10 rfl (lv_at hl 4 rfl) ?_
  refine lv_iload_n hx hb dK_putGroup_11 rfl (lv_at hl 3 rfl) ?_
  obtain ⟨o4, hq5, hf⟩ := xbind hf
  obtain ⟨hPc, hDc, hFc⟩ := xcut (wc := [(a2, .inr (3, [.ref a3, .ref a4, .ref p5, .ref p7, .int v9])), (a3, .inl (cT 1, 2048, .inl f3)), (a4, .inl (cT 1, 2048, .inl f4)), (p5, .inl (cT 1, 2048, .inl f6)), (p7, .inl (cT 1, 2048, .inl f8))]) hP hD hS hA [2, 3, 4, 5, 6] rfl rfl (by decide)
  refine va_calli (va_runV (C := "ValueBench$Sorter") (As := [.int x2]) (rest := [.ref a0, .ref a7]) ⟨hx, hb, hml, hown, htx⟩ (gS_elementAtTurn l hl9 D cT aK aV H.size n a2 a3 a4 x2 f3 f4 p5 f6 p7 f8 v9 o4 hq5) ⟨callB_of 1 htx (xw_goodC kw_5_36) rfl rfl rfl (htx _ kw_1_3) (htx _ kw_5_33) ⟨by decide, by decide, by decide +kernel⟩ ⟨Nat.le_of_ble_eq_true rfl, Nat.le_of_ble_eq_true rfl⟩, (htx _ kw_5_34), (htx _ kw_5_35)⟩ ⟨xPre_blind, va_recv hK hP (ci := 3) rfl (q0 := 2) rfl, (fun U hU hW => ⟨rfl, xPre_of hZ hS hFc hPc hDc hK U hU hW⟩)⟩ rfl rfl hl.1 rfl (lv_room (Nat.le_of_ble_eq_true rfl)) dK_putGroup_12 ⟨Nat.le_of_ble_eq_true rfl, Nat.le_of_ble_eq_true rfl⟩) hS (fun q _ h => hFc q h) hFc (fun r6 u9 t H1 locs ht hvm hr9 hB hz1 hk1 hS => ?_)
  obtain ⟨hP1, hK1, hD1⟩ := hB
  rw [ht] at hP1
  obtain ⟨hP, hD⟩ := xjoin (W := [(a0, .inr (2, [.ref a1, .int v1, .int v2])), (a1, .inl (cT 2, 4096, .inr (.inl f0))), (a7, .inr (2, [.ref a8, .int o1.2.2.1, .int o1.2.2.2])), (a8, .inl (cT 2, 4096, .inr (.inl o1.2.1))), (a2, .inr (3, [.ref a3, .ref a4, .ref p5, .ref p7, .int v9])), (a3, .inl (cT 1, 2048, .inl f3)), (a4, .inl (cT 1, 2048, .inl f4)), (p5, .inl (cT 1, 2048, .inl f6)), (p7, .inl (cT 1, 2048, .inl f8))]) hP hD [2, 3, 4, 5, 6] [0, 1, 7, 8] 4 rfl rfl (by decide) (by decide) hk1 hFc hP1 hD1
  generalize H1 = H at hP hS ⊢
  rw [hr9]
  refine W.eq (g2 := F0 m 15 ls [.int o4, .ref a0, .ref a7]) rfl ?_
  obtain ⟨o7, hq8, hf⟩ := xbind hf
  obtain ⟨hPc, hDc, hFc⟩ := xcut (wc := [(a7, .inr (2, [.ref a8, .int o1.2.2.1, .int o1.2.2.2])), (a8, .inl (cT 2, 4096, .inr (.inl o1.2.1))), (a0, .inr (2, [.ref a1, .int v1, .int v2])), (a1, .inl (cT 2, 4096, .inr (.inl f0)))]) hP hD hS hA [2, 3, 0, 1] rfl rfl (by decide)
  refine va_callv (va_runV (C := "ValueBench$Row") (As := [.ref a0, .int o4]) (rest := []) ⟨hx, hb, hml, hown, htx⟩ (gR_putCopy l hl9 D cT aK aV H.size n a7 a8 a0 a1 o4 o1.2.1 o1.2.2.1 o1.2.2.2 f0 v1 v2 o7 hq8) ⟨callB_of 2 htx (xw_goodC kw_3_126) rfl rfl rfl (htx _ kw_1_4) (htx _ kw_5_37) ⟨by decide, by decide, by decide +kernel⟩ ⟨Nat.le_of_ble_eq_true rfl, Nat.le_of_ble_eq_true rfl⟩, (htx _ kw_3_124), (htx _ kw_3_125)⟩ ⟨xPre_blind, va_recv hK hP (ci := 2) rfl (q0 := 2) rfl, (fun U hU hW => ⟨rfl, xPre_of hZ hS hFc hPc hDc hK U hU hW⟩)⟩ rfl rfl hl.1 rfl (lv_room (Nat.le_of_ble_eq_true rfl)) dK_putGroup_15 ⟨Nat.le_of_ble_eq_true rfl, Nat.le_of_ble_eq_true rfl⟩) hS (fun q _ h => hFc q h) hFc (fun u9 t H1 locs ht hvm hr9 hB hz1 hk1 hS => ?_)
  obtain ⟨hP1, hK1, hD1⟩ := hB
  rw [ht] at hP1
  obtain ⟨hP, hD⟩ := xjoin (W := [(a2, .inr (3, [.ref a3, .ref a4, .ref p5, .ref p7, .int v9])), (a3, .inl (cT 1, 2048, .inl f3)), (a4, .inl (cT 1, 2048, .inl f4)), (p5, .inl (cT 1, 2048, .inl f6)), (p7, .inl (cT 1, 2048, .inl f8)), (a7, .inr (2, [.ref a8, .int o7.2.1, .int o7.2.2])), (a8, .inl (cT 2, 4096, .inr (.inl o7.1))), (a0, .inr (2, [.ref a1, .int v1, .int v2])), (a1, .inl (cT 2, 4096, .inr (.inl f0)))]) hP hD [2, 3, 0, 1] [4, 5, 6, 7, 8] 5 rfl rfl (by decide) (by decide) hk1 hFc hP1 hD1
  generalize H1 = H at hP hS ⊢
  refine lv_iload_n hx hb dK_putGroup_18 rfl (lv_at hl 3 rfl) ?_
  refine lv_iconst (v := 1) hx hb dK_putGroup_19 (by decide) ?_
  refine lv_iadd hx hb dK_putGroup_20 ?_
  refine lv_istore (lv' := [(6, .int (x2 + (1 : Int32))), (5, .int o1.1), (0, .ref a0), (1, .ref a0), (2, .int x2), (3, .ref a2), (4, .ref a7)]) hx hb dK_putGroup_21 hl (by decide) rfl (fun ls hl => ?_)
  obtain ⟨hP9, hD9⟩ := xsub (wc := [(a0, .inr (2, [.ref a1, .int v1, .int v2])), (a1, .inl (cT 2, 4096, .inr (.inl f0))), (a2, .inr (3, [.ref a3, .ref a4, .ref p5, .ref p7, .int v9])), (a3, .inl (cT 1, 2048, .inl f3)), (a4, .inl (cT 1, 2048, .inl f4)), (p5, .inl (cT 1, 2048, .inl f6)), (p7, .inl (cT 1, 2048, .inl f8)), (a7, .inr (2, [.ref a8, .int o7.2.1, .int o7.2.2])), (a8, .inl (cT 2, 4096, .inr (.inl o7.1)))]) hP hD [7, 8, 0, 1, 2, 3, 4, 5, 6] rfl rfl (by decide)
  exact key n (1, (x2 + (1 : Int32)), o1.1, x2, o7.1, o7.2.1, o7.2.2) _ _ ls (⟨rfl, hf, hP9, hD9, hS, lv_sub hl [0, 1, 2, 3, 4, 5, 6] rfl⟩)
set_option maxHeartbeats 400000000 in
set_option maxRecDepth 100000 in
theorem gK_putGroupsa (l : Launch) (hl9 : l.stackTraces = false) (D : va_G) (cT : Nat → ClassId) (aK aV : Nat → Nat) (sz d n : Nat) (a0 : Nat) (a1 : Nat) (a2 : Nat) (a3 : Nat) (a4 : Nat) (a7 : Nat) (a8 : Nat) (f0 : Nat → Int64) (v1 : Int32) (v2 : Int32) (f3 : Nat → Int32) (f4 : Nat → Int32) (p5 : Nat) (f6 : Nat → Int32) (p7 : Nat) (f8 : Nat → Int32) (v9 : Int32) (f10 : Nat → Int64) (v11 : Int32) (v12 : Int32) (out : (Nat → Int64) × Int32 × Int32) (hf : fK_putGroupsa d n f0 v1 v2 f3 f4 p5 f6 p7 f8 v9 f10 v11 v12 = some out) : xMet l yK_putGroups wyK_putGroups (16 * d + 4) 0 0 (400 * d + 131) D cT aK aV sz [.ref a0, .ref a0, .ref a2, .ref a7] [(a0, .inr (2, [.ref a1, .int v1, .int v2])), (a1, .inl (cT 2, 4096, .inr (.inl f0))), (a2, .inr (3, [.ref a3, .ref a4, .ref p5, .ref p7, .int v9])), (a3, .inl (cT 1, 2048, .inl f3)), (a4, .inl (cT 1, 2048, .inl f4)), (p5, .inl (cT 1, 2048, .inl f6)), (p7, .inl (cT 1, 2048, .inl f8)), (a7, .inr (2, [.ref a8, .int v11, .int v12])), (a8, .inl (cT 2, 4096, .inr (.inl f10)))] (fun A => va_Qv (fun _ : Unit => True) (fun _ t => xB D xcl cT A [(a0, .inr (2, [.ref a1, .int v1, .int v2])), (a1, .inl (cT 2, 4096, .inr (.inl f0))), (a2, .inr (3, [.ref a3, .ref a4, .ref p5, .ref p7, .int v9])), (a3, .inl (cT 1, 2048, .inl f3)), (a4, .inl (cT 1, 2048, .inl f4)), (p5, .inl (cT 1, 2048, .inl f6)), (p7, .inl (cT 1, 2048, .inl f8)), (a7, .inr (2, [.ref a8, .int out.2.1, .int out.2.2])), (a8, .inl (cT 2, 4096, .inr (.inl out.1)))] t) A) := by
  refine Met.ofW (cc := prog_2_method_6_code) (maxL := 7) (ret := none) (by decide) rfl ?_
  intro p e s m args below meth c s₁ B hml hv
  obtain ⟨rfl, hsz, hZ, hP, hK, hD0⟩ := hv
  have hx := B.exec
  have hb := B.bytes
  have hr := B.returns
  have hts := atoms_spec (ws := wyK_putGroups) B.pre
  have htx := fun w h => hts w (List.mem_cons_of_mem _ h)
  have hown : s.vm.findClass "ValueBench$Keyed" = some m.cls := findClass_of_methodNamed B.named
  have hlocks := B.notSynchronized
  subst hsz
  have hD := hD0.self (sz := s.heap.size)
  generalize hAe : va_A [(a0, .inr (2, [.ref a1, .int v1, .int v2])), (a1, .inl (cT 2, 4096, .inr (.inl f0))), (a2, .inr (3, [.ref a3, .ref a4, .ref p5, .ref p7, .int v9])), (a3, .inl (cT 1, 2048, .inl f3)), (a4, .inl (cT 1, 2048, .inl f4)), (p5, .inl (cT 1, 2048, .inl f6)), (p7, .inl (cT 1, 2048, .inl f8)), (a7, .inr (2, [.ref a8, .int v11, .int v12])), (a8, .inl (cT 2, 4096, .inr (.inl f10)))] s.heap.size = A at hD hZ ⊢
  have hA : ∀ q : Nat, s.heap.size ≤ q → A q := fun q h => by rw [← hAe]; exact Or.inr h
  have hS : va_S A s.heap s.heap [] := va_S.rf
  have hP : va_P D xcl [(a0, .inr (2, [.ref a1, .int v1, .int v2])), (a1, .inl (cT 2, 4096, .inr (.inl f0))), (a2, .inr (3, [.ref a3, .ref a4, .ref p5, .ref p7, .int v9])), (a3, .inl (cT 1, 2048, .inl f3)), (a4, .inl (cT 1, 2048, .inl f4)), (p5, .inl (cT 1, 2048, .inl f6)), (p7, .inl (cT 1, 2048, .inl f8)), (a7, .inr (2, [.ref a8, .int v11, .int v12])), (a8, .inl (cT 2, 4096, .inr (.inl f10)))] s.heap := hP
  have hl := lv_entry ([.ref a0, .ref a0, .ref a2, .ref a7]) (n := 7) (Nat.le_of_ble_eq_true rfl)
  rw [lg_entry_eq]
  generalize (lg_sl ([.ref a0, .ref a0, .ref a2, .ref a7]) ++ List.replicate (7 - (lg_sl ([.ref a0, .ref a0, .ref a2, .ref a7])).length) Slot.unset).toArray = ls at hl ⊢
  have hl : lv_has ls 7 [(0, .ref a0), (1, .ref a0), (2, .ref a2), (3, .ref a7)] := hl
  unfold fK_putGroupsa at hf
  refine xloopK (σ := Nat × Int32 × Int32 × Int32 × (Nat → Int64) × Int32 × Int32) (fun n x H locs ls => (x.1 = 1 ∧ fK_putGroupsa_b d f0 v1 v2 f3 f4 p5 f6 p7 f8 v9 n x.1 x.2.1 x.2.2.1 x.2.2.2.1 x.2.2.2.2.1 x.2.2.2.2.2.1 x.2.2.2.2.2.2 = some out ∧ va_P D xcl [(a0, .inr (2, [.ref a1, .int v1, .int v2])), (a1, .inl (cT 2, 4096, .inr (.inl f0))), (a2, .inr (3, [.ref a3, .ref a4, .ref p5, .ref p7, .int v9])), (a3, .inl (cT 1, 2048, .inl f3)), (a4, .inl (cT 1, 2048, .inl f4)), (p5, .inl (cT 1, 2048, .inl f6)), (p7, .inl (cT 1, 2048, .inl f8)), (a7, .inr (2, [.ref a8, .int x.2.2.2.2.2.1, .int x.2.2.2.2.2.2])), (a8, .inl (cT 2, 4096, .inr (.inl x.2.2.2.2.1)))] H ∧ va_D A [(a0, .inr (2, [.ref a1, .int v1, .int v2])), (a1, .inl (cT 2, 4096, .inr (.inl f0))), (a2, .inr (3, [.ref a3, .ref a4, .ref p5, .ref p7, .int v9])), (a3, .inl (cT 1, 2048, .inl f3)), (a4, .inl (cT 1, 2048, .inl f4)), (p5, .inl (cT 1, 2048, .inl f6)), (p7, .inl (cT 1, 2048, .inl f8)), (a7, .inr (2, [.ref a8, .int x.2.2.2.2.2.1, .int x.2.2.2.2.2.2])), (a8, .inl (cT 2, 4096, .inr (.inl x.2.2.2.2.1)))] ∧ va_S A s.heap H locs ∧ lv_has ls 7 [(6, .int x.2.1), (5, .int x.2.2.1), (4, .int x.2.2.2.1), (0, .ref a0), (1, .ref a0), (2, .ref a2), (3, .ref a7)])) (fun x => 12) (fun x H locs ls h => by exact absurd h.2.1 (by rw [fK_putGroupsa_b]; exact fun h => nomatch h)) (fun n ih x H locs ls hv => ?_) (fun key => ?_)
  · obtain ⟨lb, y6, y5, y4, w0, w1, w2⟩ := x
    rcases hv with ⟨hj, hf, hP, hD, hS, hl⟩
    subst hj
    have hf : fK_putGroupsa_b d f0 v1 v2 f3 f4 p5 f6 p7 f8 v9 (n + 1) 1 y6 y5 y4 w0 w1 w2 = some out := hf
    rw [fK_putGroupsa_b] at hf
    obtain ⟨hP, hD⟩ : xPD D xcl A [(a0, .inr (2, [.ref a1, .int v1, .int v2])), (a1, .inl (cT 2, 4096, .inr (.inl f0))), (a2, .inr (3, [.ref a3, .ref a4, .ref p5, .ref p7, .int v9])), (a3, .inl (cT 1, 2048, .inl f3)), (a4, .inl (cT 1, 2048, .inl f4)), (p5, .inl (cT 1, 2048, .inl f6)), (p7, .inl (cT 1, 2048, .inl f8)), (a7, .inr (2, [.ref a8, .int w1, .int w2])), (a8, .inl (cT 2, 4096, .inr (.inl w0)))] H := ⟨hP, hD⟩
    have hl : lv_has ls 7 [(6, .int y6), (5, .int y5), (4, .int y4), (0, .ref a0), (1, .ref a0), (2, .ref a2), (3, .ref a7)] := hl
    refine W.eq (g2 := F0 m 12 ls []) rfl ?_
    refine lv_iload hx hb dK_putGroups_12 (lv_at hl 0 rfl) ?_
    refine lv_aload_n hx hb dK_putGroups_14 rfl (lv_at hl 3 rfl) ?_
    refine lv_iconst (v := 0) hx hb dK_putGroups_15 (by decide) ?_
    obtain ⟨o1, hq2, hf⟩ := xbind hf
    obtain ⟨hPc, hDc, hFc⟩ := xcut (wc := [(a0, .inr (2, [.ref a1, .int v1, .int v2])), (a1, .inl (cT 2, 4096, .inr (.inl f0)))]) hP hD hS hA [0, 1] rfl rfl (by decide)
    refine va_calli (va_runV (C := "ValueBench$Row") (As := [.int 0]) (rest := [.int y6]) ⟨hx, hb, hml, hown, htx⟩ (gR_length l hl9 D cT aK aV H.size n a0 a1 (0 : Int32) f0 v1 v2 o1 hq2) ⟨callB_of 1 htx (xw_goodC kw_2_191) rfl rfl rfl (htx _ kw_1_4) (htx _ kw_5_23) ⟨by decide, by decide, by decide +kernel⟩ ⟨Nat.le_of_ble_eq_true rfl, Nat.le_of_ble_eq_true rfl⟩, (htx _ kw_2_189), (htx _ kw_2_190)⟩ ⟨xPre_blind, va_recv hK hP (ci := 2) rfl (q0 := 0) rfl, (fun U hU hW => ⟨rfl, xPre_of hZ hS hFc hPc hDc hK U hU hW⟩)⟩ rfl rfl hl.1 rfl (lv_room (Nat.le_of_ble_eq_true rfl)) dK_putGroups_16 ⟨Nat.le_of_ble_eq_true rfl, Nat.le_of_ble_eq_true rfl⟩) hS (fun q _ h => hFc q h) hFc (fun r3 u9 t H1 locs ht hvm hr9 hB hz1 hk1 hS => ?_)
    obtain ⟨hP1, hK1, hD1⟩ := hB
    rw [ht] at hP1
    obtain ⟨hP, hD⟩ := xjoin (W := [(a2, .inr (3, [.ref a3, .ref a4, .ref p5, .ref p7, .int v9])), (a3, .inl (cT 1, 2048, .inl f3)), (a4, .inl (cT 1, 2048, .inl f4)), (p5, .inl (cT 1, 2048, .inl f6)), (p7, .inl (cT 1, 2048, .inl f8)), (a7, .inr (2, [.ref a8, .int w1, .int w2])), (a8, .inl (cT 2, 4096, .inr (.inl w0))), (a0, .inr (2, [.ref a1, .int v1, .int v2])), (a1, .inl (cT 2, 4096, .inr (.inl f0)))]) hP hD [0, 1] [2, 3, 4, 5, 6, 7, 8] 7 rfl rfl (by decide) (by decide) hk1 hFc hP1 hD1
    generalize H1 = H at hP hS ⊢
    rw [hr9]
    refine W.eq (g2 := F0 m 19 ls [.int o1, .int y6]) rfl ?_
    refine lv_icmp_ge (tgt := 50) hx hb dK_putGroups_19 (by decide) (fun hc => ?_) (fun hc => ?_)
    · rw [if_pos hc] at hf
      refine lv_aload_n hx hb dK_putGroups_50 rfl (lv_at hl 6 rfl) ?_
      refine lv_iload hx hb dK_putGroups_51 (lv_at hl 2 rfl) ?_
      refine lv_iconst (v := 5) hx hb dK_putGroups_53 (by decide) ?_
      refine lv_iload hx hb dK_putGroups_54 (lv_at hl 1 rfl) ?_
      obtain ⟨o4, hq5, hf⟩ := xbind hf
      obtain ⟨hPc, hDc, hFc⟩ := xcut (wc := [(a7, .inr (2, [.ref a8, .int w1, .int w2])), (a8, .inl (cT 2, 4096, .inr (.inl w0)))]) hP hD hS hA [5, 6] rfl rfl (by decide)
      refine va_callv (va_runV (C := "ValueBench$Row") (As := [.int y4, .int 5, .int y5]) (rest := []) ⟨hx, hb, hml, hown, htx⟩ (gR_close l hl9 D cT aK aV H.size n a7 a8 y4 (5 : Int32) y5 w0 w1 w2 o4 hq5) ⟨callB_of 3 htx (xw_goodC kw_2_167) rfl rfl rfl (htx _ kw_1_4) (htx _ kw_5_38) ⟨by decide, by decide, by decide +kernel⟩ ⟨Nat.le_of_ble_eq_true rfl, Nat.le_of_ble_eq_true rfl⟩, (htx _ kw_2_165), (htx _ kw_2_166)⟩ ⟨xPre_blind, va_recv hK hP (ci := 2) rfl (q0 := 5) rfl, (fun U hU hW => ⟨rfl, xPre_of hZ hS hFc hPc hDc hK U hU hW⟩)⟩ rfl rfl hl.1 rfl (lv_room (Nat.le_of_ble_eq_true rfl)) dK_putGroups_56 ⟨Nat.le_of_ble_eq_true rfl, Nat.le_of_ble_eq_true rfl⟩) hS (fun q _ h => hFc q h) hFc (fun u9 t H1 locs ht hvm hr9 hB hz1 hk1 hS => ?_)
      obtain ⟨hP1, hK1, hD1⟩ := hB
      rw [ht] at hP1
      obtain ⟨hP, hD⟩ := xjoin (W := [(a2, .inr (3, [.ref a3, .ref a4, .ref p5, .ref p7, .int v9])), (a3, .inl (cT 1, 2048, .inl f3)), (a4, .inl (cT 1, 2048, .inl f4)), (p5, .inl (cT 1, 2048, .inl f6)), (p7, .inl (cT 1, 2048, .inl f8)), (a0, .inr (2, [.ref a1, .int v1, .int v2])), (a1, .inl (cT 2, 4096, .inr (.inl f0))), (a7, .inr (2, [.ref a8, .int w1, .int w2])), (a8, .inl (cT 2, 4096, .inr (.inl o4)))]) hP hD [5, 6] [0, 1, 2, 3, 4, 7, 8] 7 rfl rfl (by decide) (by decide) hk1 hFc hP1 hD1
      generalize H1 = H at hP hS ⊢
      obtain rfl := Option.some.inj hf
      obtain ⟨hP9, hD9⟩ := xsub (wc := [(a0, .inr (2, [.ref a1, .int v1, .int v2])), (a1, .inl (cT 2, 4096, .inr (.inl f0))), (a2, .inr (3, [.ref a3, .ref a4, .ref p5, .ref p7, .int v9])), (a3, .inl (cT 1, 2048, .inl f3)), (a4, .inl (cT 1, 2048, .inl f4)), (p5, .inl (cT 1, 2048, .inl f6)), (p7, .inl (cT 1, 2048, .inl f8)), (a7, .inr (2, [.ref a8, .int w1, .int w2])), (a8, .inl (cT 2, 4096, .inr (.inl o4)))]) hP hD [5, 6, 0, 1, 2, 3, 4, 7, 8] rfl rfl (by decide)
      exact W.vret hx hb hr (fun t ht hW => ⟨⟨(), rfl, trivial, by rw [ht]; exact hP9, va_K.moved hW.alike hK, hD9⟩, hS.F ht⟩) hS.2.2 dK_putGroups_59
    · rw [if_neg hc] at hf
      refine lv_aload_n hx hb dK_putGroups_22 rfl (lv_at hl 4 rfl) ?_
      refine lv_iload hx hb dK_putGroups_23 (lv_at hl 0 rfl) ?_
      refine lv_aload_n hx hb dK_putGroups_25 rfl (lv_at hl 5 rfl) ?_
      obtain ⟨o4, hq5, hf⟩ := xbind hf
      obtain ⟨hPc, hDc, hFc⟩ := xcut (wc := [(a0, .inr (2, [.ref a1, .int v1, .int v2])), (a1, .inl (cT 2, 4096, .inr (.inl f0))), (a2, .inr (3, [.ref a3, .ref a4, .ref p5, .ref p7, .int v9])), (a3, .inl (cT 1, 2048, .inl f3)), (a4, .inl (cT 1, 2048, .inl f4)), (p5, .inl (cT 1, 2048, .inl f6)), (p7, .inl (cT 1, 2048, .inl f8))]) hP hD hS hA [7, 8, 0, 1, 2, 3, 4] rfl rfl (by decide)
      refine va_calli (va_runS (As := [.ref a0, .int y6, .ref a2]) (rest := []) ⟨hx, hb, hml, hown, htx⟩ (gK_beginsGroup l hl9 D cT aK aV H.size d n a0 a1 a2 a3 a4 y6 f0 v1 v2 f3 f4 p5 f6 p7 f8 v9 o4 hq5) ⟨callB_of 3 htx (xw_goodC kw_5_44) rfl rfl rfl (htx _ kw_1_28) (htx _ kw_5_42) ⟨by decide, by decide, by decide +kernel⟩ ⟨(by show (16 * d + 1) + 1 ≤ 16 * d + 4; omega), (by show 8 + (3 + 11) + (400 * d + 24) ≤ 400 * d + 131; omega)⟩, htx _ kw_5_43⟩ ⟨xPre_blind, (fun U hU hW => ⟨rfl, xPre_of hZ hS hFc hPc hDc hK U hU hW⟩)⟩ rfl rfl hl.1 rfl (lv_room (Nat.le_of_ble_eq_true rfl)) dK_putGroups_26 ⟨Nat.le_of_ble_eq_true rfl, Nat.le_of_ble_eq_true rfl⟩) hS (fun q _ h => hFc q h) hFc (fun r6 u9 t H1 locs ht hvm hr9 hB hz1 hk1 hS => ?_)
      obtain ⟨hP1, hK1, hD1⟩ := hB
      rw [ht] at hP1
      obtain ⟨hP, hD⟩ := xjoin (W := [(a7, .inr (2, [.ref a8, .int w1, .int w2])), (a8, .inl (cT 2, 4096, .inr (.inl w0))), (a0, .inr (2, [.ref a1, .int v1, .int v2])), (a1, .inl (cT 2, 4096, .inr (.inl f0))), (a2, .inr (3, [.ref a3, .ref a4, .ref p5, .ref p7, .int v9])), (a3, .inl (cT 1, 2048, .inl f3)), (a4, .inl (cT 1, 2048, .inl f4)), (p5, .inl (cT 1, 2048, .inl f6)), (p7, .inl (cT 1, 2048, .inl f8))]) hP hD [7, 8, 0, 1, 2, 3, 4] [5, 6] 2 rfl rfl (by decide) (by decide) hk1 hFc hP1 hD1
      generalize H1 = H at hP hS ⊢
      rw [hr9]
      refine W.eq (g2 := F0 m 29 ls [.int o4]) rfl ?_
      refine lv_if_eq (tgt := 44) hx hb dK_putGroups_29 (by decide) (fun hc => ?_) (fun hc => ?_)
      · rw [if_pos hc] at hf
        refine lv_iinc (v := (y6 + 1)) (lv' := [(6, .int (y6 + 1)), (5, .int y5), (4, .int y4), (0, .ref a0), (1, .ref a0), (2, .ref a2), (3, .ref a7)]) hx hb dK_putGroups_44 hl (k := 0) rfl rfl (by decide) rfl (fun ls hl => ?_)
        refine lv_goto (tgt := 12) hx hb dK_putGroups_47 (by decide) ?_
        obtain ⟨hP9, hD9⟩ := xsub (wc := [(a0, .inr (2, [.ref a1, .int v1, .int v2])), (a1, .inl (cT 2, 4096, .inr (.inl f0))), (a2, .inr (3, [.ref a3, .ref a4, .ref p5, .ref p7, .int v9])), (a3, .inl (cT 1, 2048, .inl f3)), (a4, .inl (cT 1, 2048, .inl f4)), (p5, .inl (cT 1, 2048, .inl f6)), (p7, .inl (cT 1, 2048, .inl f8)), (a7, .inr (2, [.ref a8, .int w1, .int w2])), (a8, .inl (cT 2, 4096, .inr (.inl w0)))]) hP hD [2, 3, 4, 5, 6, 7, 8, 0, 1] rfl rfl (by decide)
        exact ih (1, (y6 + 1), y5, y4, w0, w1, w2) _ _ ls (⟨rfl, hf, hP9, hD9, hS, lv_sub hl [0, 1, 2, 3, 4, 5, 6] rfl⟩)
      · rw [if_neg hc] at hf
        refine lv_aload_n hx hb dK_putGroups_32 rfl (lv_at hl 3 rfl) ?_
        refine lv_aload_n hx hb dK_putGroups_33 rfl (lv_at hl 4 rfl) ?_
        refine lv_iload hx hb dK_putGroups_34 (lv_at hl 0 rfl) ?_
        refine lv_aload_n hx hb dK_putGroups_36 rfl (lv_at hl 5 rfl) ?_
        refine lv_aload_n hx hb dK_putGroups_37 rfl (lv_at hl 6 rfl) ?_
        obtain ⟨o7, hq8, hf⟩ := xbind hf
        obtain ⟨hPc, hDc, hFc⟩ := xcut (wc := [(a0, .inr (2, [.ref a1, .int v1, .int v2])), (a1, .inl (cT 2, 4096, .inr (.inl f0))), (a2, .inr (3, [.ref a3, .ref a4, .ref p5, .ref p7, .int v9])), (a3, .inl (cT 1, 2048, .inl f3)), (a4, .inl (cT 1, 2048, .inl f4)), (p5, .inl (cT 1, 2048, .inl f6)), (p7, .inl (cT 1, 2048, .inl f8)), (a7, .inr (2, [.ref a8, .int w1, .int w2])), (a8, .inl (cT 2, 4096, .inr (.inl w0)))]) hP hD hS hA [2, 3, 4, 5, 6, 7, 8, 0, 1] rfl rfl (by decide)
        refine va_callv (va_runS (As := [.ref a0, .ref a0, .int y6, .ref a2, .ref a7]) (rest := []) ⟨hx, hb, hml, hown, htx⟩ (gK_putGroupa l hl9 D cT aK aV H.size d n a0 a1 a2 a3 a4 a7 a8 y6 f0 v1 v2 f3 f4 p5 f6 p7 f8 v9 w0 w1 w2 o7 hq8) ⟨callB_of 5 htx (xw_goodC kw_5_49) rfl rfl rfl (htx _ kw_1_28) (htx _ kw_5_47) ⟨by decide, by decide, by decide +kernel⟩ ⟨(by show (16 * d + 3) + 1 ≤ 16 * d + 4; omega), (by show 8 + (7 + 11) + (400 * d + 105) ≤ 400 * d + 131; omega)⟩, htx _ kw_5_48⟩ ⟨xPre_blind, (fun U hU hW => ⟨rfl, xPre_of hZ hS hFc hPc hDc hK U hU hW⟩)⟩ rfl rfl hl.1 rfl (lv_room (Nat.le_of_ble_eq_true rfl)) dK_putGroups_38 ⟨Nat.le_of_ble_eq_true rfl, Nat.le_of_ble_eq_true rfl⟩) hS (fun q _ h => hFc q h) hFc (fun u9 t H1 locs ht hvm hr9 hB hz1 hk1 hS => ?_)
        obtain ⟨hP1, hK1, hD1⟩ := hB
        rw [ht] at hP1
        obtain ⟨hP, hD⟩ := xjoin (W := [(a0, .inr (2, [.ref a1, .int v1, .int v2])), (a1, .inl (cT 2, 4096, .inr (.inl f0))), (a2, .inr (3, [.ref a3, .ref a4, .ref p5, .ref p7, .int v9])), (a3, .inl (cT 1, 2048, .inl f3)), (a4, .inl (cT 1, 2048, .inl f4)), (p5, .inl (cT 1, 2048, .inl f6)), (p7, .inl (cT 1, 2048, .inl f8)), (a7, .inr (2, [.ref a8, .int o7.2.1, .int o7.2.2])), (a8, .inl (cT 2, 4096, .inr (.inl o7.1)))]) hP hD [2, 3, 4, 5, 6, 7, 8, 0, 1] [] 0 rfl rfl (by decide) (by decide) hk1 hFc hP1 hD1
        generalize H1 = H at hP hS ⊢
        refine lv_iinc (v := (y5 + 1)) (lv' := [(5, .int (y5 + 1)), (6, .int y6), (4, .int y4), (0, .ref a0), (1, .ref a0), (2, .ref a2), (3, .ref a7)]) hx hb dK_putGroups_41 hl (k := 1) rfl rfl (by decide) rfl (fun ls hl => ?_)
        refine lv_iinc (v := (y6 + 1)) (lv' := [(6, .int (y6 + 1)), (5, .int (y5 + 1)), (4, .int y4), (0, .ref a0), (1, .ref a0), (2, .ref a2), (3, .ref a7)]) hx hb dK_putGroups_44 hl (k := 1) rfl rfl (by decide) rfl (fun ls hl => ?_)
        refine lv_goto (tgt := 12) hx hb dK_putGroups_47 (by decide) ?_
        obtain ⟨hP9, hD9⟩ := xsub (wc := [(a0, .inr (2, [.ref a1, .int v1, .int v2])), (a1, .inl (cT 2, 4096, .inr (.inl f0))), (a2, .inr (3, [.ref a3, .ref a4, .ref p5, .ref p7, .int v9])), (a3, .inl (cT 1, 2048, .inl f3)), (a4, .inl (cT 1, 2048, .inl f4)), (p5, .inl (cT 1, 2048, .inl f6)), (p7, .inl (cT 1, 2048, .inl f8)), (a7, .inr (2, [.ref a8, .int o7.2.1, .int o7.2.2])), (a8, .inl (cT 2, 4096, .inr (.inl o7.1)))]) hP hD [0, 1, 2, 3, 4, 5, 6, 7, 8] rfl rfl (by decide)
        exact ih (1, (y6 + 1), (y5 + 1), y4, o7.1, o7.2.1, o7.2.2) _ _ ls (⟨rfl, hf, hP9, hD9, hS, lv_sub hl [0, 1, 2, 3, 4, 5, 6] rfl⟩)
  refine lv_aload_n hx hb dK_putGroups_0 rfl (lv_at hl 3 rfl) ?_
  obtain ⟨o1, hq2, hf⟩ := xbind hf
  obtain ⟨hPc, hDc, hFc⟩ := xcut (wc := [(a7, .inr (2, [.ref a8, .int v11, .int v12])), (a8, .inl (cT 2, 4096, .inr (.inl f10)))]) hP hD hS hA [7, 8] rfl rfl (by decide)
  refine va_calli (va_runV (C := "ValueBench$Row") (As := []) (rest := []) ⟨hx, hb, hml, hown, htx⟩ (gR_open l hl9 D cT aK aV s.heap.size n a7 a8 f10 v11 v12 o1 hq2) ⟨callB_of 0 htx (xw_goodC kw_2_136) rfl rfl rfl (htx _ kw_1_4) (htx _ kw_5_32) ⟨by decide, by decide, by decide +kernel⟩ ⟨Nat.le_of_ble_eq_true rfl, Nat.le_of_ble_eq_true rfl⟩, (htx _ kw_2_134), (htx _ kw_2_135)⟩ ⟨xPre_blind, va_recv hK hP (ci := 2) rfl (q0 := 7) rfl, (fun U hU hW => ⟨rfl, xPre_of hZ hS hFc hPc hDc hK U hU hW⟩)⟩ rfl rfl hl.1 rfl (lv_room (Nat.le_of_ble_eq_true rfl)) dK_putGroups_1 ⟨Nat.le_of_ble_eq_true rfl, Nat.le_of_ble_eq_true rfl⟩) hS (fun q _ h => hFc q h) hFc (fun r3 u9 t H1 locs ht hvm hr9 hB hz1 hk1 hS => ?_)
  obtain ⟨hP1, hK1, hD1⟩ := hB
  rw [ht] at hP1
  obtain ⟨hP, hD⟩ := xjoin (W := [(a0, .inr (2, [.ref a1, .int v1, .int v2])), (a1, .inl (cT 2, 4096, .inr (.inl f0))), (a2, .inr (3, [.ref a3, .ref a4, .ref p5, .ref p7, .int v9])), (a3, .inl (cT 1, 2048, .inl f3)), (a4, .inl (cT 1, 2048, .inl f4)), (p5, .inl (cT 1, 2048, .inl f6)), (p7, .inl (cT 1, 2048, .inl f8)), (a7, .inr (2, [.ref a8, .int o1.2.2.1, .int o1.2.2.2])), (a8, .inl (cT 2, 4096, .inr (.inl o1.2.1)))]) hP hD [7, 8] [0, 1, 2, 3, 4, 5, 6] 7 rfl rfl (by decide) (by decide) hk1 hFc hP1 hD1
  generalize H1 = H at hP hS ⊢
  rw [hr9]
  refine W.eq (g2 := F0 m 4 ls [.int o1.1]) rfl ?_
  refine lv_istore (lv' := [(4, .int o1.1), (0, .ref a0), (1, .ref a0), (2, .ref a2), (3, .ref a7)]) hx hb dK_putGroups_4 hl (by decide) rfl (fun ls hl => ?_)
  refine lv_iconst (v := 0) hx hb dK_putGroups_6 (by decide) ?_
  refine lv_istore (lv' := [(5, .int 0), (4, .int o1.1), (0, .ref a0), (1, .ref a0), (2, .ref a2), (3, .ref a7)]) hx hb dK_putGroups_7 hl (by decide) rfl (fun ls hl => ?_)
  refine lv_iconst (v := 0) hx hb dK_putGroups_9 (by decide) ?_
  refine lv_istore (lv' := [(6, .int 0), (5, .int 0), (4, .int o1.1), (0, .ref a0), (1, .ref a0), (2, .ref a2), (3, .ref a7)]) hx hb dK_putGroups_10 hl (by decide) rfl (fun ls hl => ?_)
  obtain ⟨hP9, hD9⟩ := xsub (wc := [(a0, .inr (2, [.ref a1, .int v1, .int v2])), (a1, .inl (cT 2, 4096, .inr (.inl f0))), (a2, .inr (3, [.ref a3, .ref a4, .ref p5, .ref p7, .int v9])), (a3, .inl (cT 1, 2048, .inl f3)), (a4, .inl (cT 1, 2048, .inl f4)), (p5, .inl (cT 1, 2048, .inl f6)), (p7, .inl (cT 1, 2048, .inl f8)), (a7, .inr (2, [.ref a8, .int o1.2.2.1, .int o1.2.2.2])), (a8, .inl (cT 2, 4096, .inr (.inl o1.2.1)))]) hP hD [0, 1, 2, 3, 4, 5, 6, 7, 8] rfl rfl (by decide)
  exact key n (1, 0, 0, o1.1, o1.2.1, o1.2.2.1, o1.2.2.2) _ _ ls (⟨rfl, hf, hP9, hD9, hS, lv_sub hl [0, 1, 2, 3, 4, 5, 6] rfl⟩)
set_option maxHeartbeats 400000000 in
set_option maxRecDepth 100000 in
theorem gK_putFirstsa (l : Launch) (hl9 : l.stackTraces = false) (D : va_G) (cT : Nat → ClassId) (aK aV : Nat → Nat) (sz d n : Nat) (a0 : Nat) (a1 : Nat) (a2 : Nat) (a3 : Nat) (a4 : Nat) (a7 : Nat) (a8 : Nat) (f0 : Nat → Int64) (v1 : Int32) (v2 : Int32) (f3 : Nat → Int32) (f4 : Nat → Int32) (p5 : Nat) (f6 : Nat → Int32) (p7 : Nat) (f8 : Nat → Int32) (v9 : Int32) (f10 : Nat → Int64) (v11 : Int32) (v12 : Int32) (out : (Nat → Int64) × Int32 × Int32) (hf : fK_putFirstsa d n f0 v1 v2 f3 f4 p5 f6 p7 f8 v9 f10 v11 v12 = some out) : xMet l yK_putFirsts wyK_putFirsts (16 * d + 3) 0 0 (400 * d + 105) D cT aK aV sz [.ref a0, .ref a0, .ref a2, .ref a7] [(a0, .inr (2, [.ref a1, .int v1, .int v2])), (a1, .inl (cT 2, 4096, .inr (.inl f0))), (a2, .inr (3, [.ref a3, .ref a4, .ref p5, .ref p7, .int v9])), (a3, .inl (cT 1, 2048, .inl f3)), (a4, .inl (cT 1, 2048, .inl f4)), (p5, .inl (cT 1, 2048, .inl f6)), (p7, .inl (cT 1, 2048, .inl f8)), (a7, .inr (2, [.ref a8, .int v11, .int v12])), (a8, .inl (cT 2, 4096, .inr (.inl f10)))] (fun A => va_Qv (fun _ : Unit => True) (fun _ t => xB D xcl cT A [(a0, .inr (2, [.ref a1, .int v1, .int v2])), (a1, .inl (cT 2, 4096, .inr (.inl f0))), (a2, .inr (3, [.ref a3, .ref a4, .ref p5, .ref p7, .int v9])), (a3, .inl (cT 1, 2048, .inl f3)), (a4, .inl (cT 1, 2048, .inl f4)), (p5, .inl (cT 1, 2048, .inl f6)), (p7, .inl (cT 1, 2048, .inl f8)), (a7, .inr (2, [.ref a8, .int out.2.1, .int out.2.2])), (a8, .inl (cT 2, 4096, .inr (.inl out.1)))] t) A) := by
  refine Met.ofW (cc := prog_2_method_8_code) (maxL := 7) (ret := none) (by decide) rfl ?_
  intro p e s m args below meth c s₁ B hml hv
  obtain ⟨rfl, hsz, hZ, hP, hK, hD0⟩ := hv
  have hx := B.exec
  have hb := B.bytes
  have hr := B.returns
  have hts := atoms_spec (ws := wyK_putFirsts) B.pre
  have htx := fun w h => hts w (List.mem_cons_of_mem _ h)
  have hown : s.vm.findClass "ValueBench$Keyed" = some m.cls := findClass_of_methodNamed B.named
  have hlocks := B.notSynchronized
  subst hsz
  have hD := hD0.self (sz := s.heap.size)
  generalize hAe : va_A [(a0, .inr (2, [.ref a1, .int v1, .int v2])), (a1, .inl (cT 2, 4096, .inr (.inl f0))), (a2, .inr (3, [.ref a3, .ref a4, .ref p5, .ref p7, .int v9])), (a3, .inl (cT 1, 2048, .inl f3)), (a4, .inl (cT 1, 2048, .inl f4)), (p5, .inl (cT 1, 2048, .inl f6)), (p7, .inl (cT 1, 2048, .inl f8)), (a7, .inr (2, [.ref a8, .int v11, .int v12])), (a8, .inl (cT 2, 4096, .inr (.inl f10)))] s.heap.size = A at hD hZ ⊢
  have hA : ∀ q : Nat, s.heap.size ≤ q → A q := fun q h => by rw [← hAe]; exact Or.inr h
  have hS : va_S A s.heap s.heap [] := va_S.rf
  have hP : va_P D xcl [(a0, .inr (2, [.ref a1, .int v1, .int v2])), (a1, .inl (cT 2, 4096, .inr (.inl f0))), (a2, .inr (3, [.ref a3, .ref a4, .ref p5, .ref p7, .int v9])), (a3, .inl (cT 1, 2048, .inl f3)), (a4, .inl (cT 1, 2048, .inl f4)), (p5, .inl (cT 1, 2048, .inl f6)), (p7, .inl (cT 1, 2048, .inl f8)), (a7, .inr (2, [.ref a8, .int v11, .int v12])), (a8, .inl (cT 2, 4096, .inr (.inl f10)))] s.heap := hP
  have hl := lv_entry ([.ref a0, .ref a0, .ref a2, .ref a7]) (n := 7) (Nat.le_of_ble_eq_true rfl)
  rw [lg_entry_eq]
  generalize (lg_sl ([.ref a0, .ref a0, .ref a2, .ref a7]) ++ List.replicate (7 - (lg_sl ([.ref a0, .ref a0, .ref a2, .ref a7])).length) Slot.unset).toArray = ls at hl ⊢
  have hl : lv_has ls 7 [(0, .ref a0), (1, .ref a0), (2, .ref a2), (3, .ref a7)] := hl
  unfold fK_putFirstsa at hf
  refine xloopK (σ := Nat × Int32 × Int32 × Int32 × (Nat → Int64) × Int32 × Int32) (fun n x H locs ls => (x.1 = 1 ∧ fK_putFirstsa_b d f0 v1 v2 f3 f4 p5 f6 p7 f8 v9 n x.1 x.2.1 x.2.2.1 x.2.2.2.1 x.2.2.2.2.1 x.2.2.2.2.2.1 x.2.2.2.2.2.2 = some out ∧ va_P D xcl [(a0, .inr (2, [.ref a1, .int v1, .int v2])), (a1, .inl (cT 2, 4096, .inr (.inl f0))), (a2, .inr (3, [.ref a3, .ref a4, .ref p5, .ref p7, .int v9])), (a3, .inl (cT 1, 2048, .inl f3)), (a4, .inl (cT 1, 2048, .inl f4)), (p5, .inl (cT 1, 2048, .inl f6)), (p7, .inl (cT 1, 2048, .inl f8)), (a7, .inr (2, [.ref a8, .int x.2.2.2.2.2.1, .int x.2.2.2.2.2.2])), (a8, .inl (cT 2, 4096, .inr (.inl x.2.2.2.2.1)))] H ∧ va_D A [(a0, .inr (2, [.ref a1, .int v1, .int v2])), (a1, .inl (cT 2, 4096, .inr (.inl f0))), (a2, .inr (3, [.ref a3, .ref a4, .ref p5, .ref p7, .int v9])), (a3, .inl (cT 1, 2048, .inl f3)), (a4, .inl (cT 1, 2048, .inl f4)), (p5, .inl (cT 1, 2048, .inl f6)), (p7, .inl (cT 1, 2048, .inl f8)), (a7, .inr (2, [.ref a8, .int x.2.2.2.2.2.1, .int x.2.2.2.2.2.2])), (a8, .inl (cT 2, 4096, .inr (.inl x.2.2.2.2.1)))] ∧ va_S A s.heap H locs ∧ lv_has ls 7 [(6, .int x.2.1), (5, .int x.2.2.1), (4, .int x.2.2.2.1), (0, .ref a0), (1, .ref a0), (2, .ref a2), (3, .ref a7)])) (fun x => 12) (fun x H locs ls h => by exact absurd h.2.1 (by rw [fK_putFirstsa_b]; exact fun h => nomatch h)) (fun n ih x H locs ls hv => ?_) (fun key => ?_)
  · obtain ⟨lb, y6, y5, y4, w0, w1, w2⟩ := x
    rcases hv with ⟨hj, hf, hP, hD, hS, hl⟩
    subst hj
    have hf : fK_putFirstsa_b d f0 v1 v2 f3 f4 p5 f6 p7 f8 v9 (n + 1) 1 y6 y5 y4 w0 w1 w2 = some out := hf
    rw [fK_putFirstsa_b] at hf
    obtain ⟨hP, hD⟩ : xPD D xcl A [(a0, .inr (2, [.ref a1, .int v1, .int v2])), (a1, .inl (cT 2, 4096, .inr (.inl f0))), (a2, .inr (3, [.ref a3, .ref a4, .ref p5, .ref p7, .int v9])), (a3, .inl (cT 1, 2048, .inl f3)), (a4, .inl (cT 1, 2048, .inl f4)), (p5, .inl (cT 1, 2048, .inl f6)), (p7, .inl (cT 1, 2048, .inl f8)), (a7, .inr (2, [.ref a8, .int w1, .int w2])), (a8, .inl (cT 2, 4096, .inr (.inl w0)))] H := ⟨hP, hD⟩
    have hl : lv_has ls 7 [(6, .int y6), (5, .int y5), (4, .int y4), (0, .ref a0), (1, .ref a0), (2, .ref a2), (3, .ref a7)] := hl
    refine W.eq (g2 := F0 m 12 ls []) rfl ?_
    refine lv_iload hx hb dK_putFirsts_12 (lv_at hl 0 rfl) ?_
    refine lv_aload_n hx hb dK_putFirsts_14 rfl (lv_at hl 3 rfl) ?_
    refine lv_iconst (v := 0) hx hb dK_putFirsts_15 (by decide) ?_
    obtain ⟨o1, hq2, hf⟩ := xbind hf
    obtain ⟨hPc, hDc, hFc⟩ := xcut (wc := [(a0, .inr (2, [.ref a1, .int v1, .int v2])), (a1, .inl (cT 2, 4096, .inr (.inl f0)))]) hP hD hS hA [0, 1] rfl rfl (by decide)
    refine va_calli (va_runV (C := "ValueBench$Row") (As := [.int 0]) (rest := [.int y6]) ⟨hx, hb, hml, hown, htx⟩ (gR_length l hl9 D cT aK aV H.size n a0 a1 (0 : Int32) f0 v1 v2 o1 hq2) ⟨callB_of 1 htx (xw_goodC kw_2_191) rfl rfl rfl (htx _ kw_1_4) (htx _ kw_5_23) ⟨by decide, by decide, by decide +kernel⟩ ⟨Nat.le_of_ble_eq_true rfl, Nat.le_of_ble_eq_true rfl⟩, (htx _ kw_2_189), (htx _ kw_2_190)⟩ ⟨xPre_blind, va_recv hK hP (ci := 2) rfl (q0 := 0) rfl, (fun U hU hW => ⟨rfl, xPre_of hZ hS hFc hPc hDc hK U hU hW⟩)⟩ rfl rfl hl.1 rfl (lv_room (Nat.le_of_ble_eq_true rfl)) dK_putFirsts_16 ⟨Nat.le_of_ble_eq_true rfl, Nat.le_of_ble_eq_true rfl⟩) hS (fun q _ h => hFc q h) hFc (fun r3 u9 t H1 locs ht hvm hr9 hB hz1 hk1 hS => ?_)
    obtain ⟨hP1, hK1, hD1⟩ := hB
    rw [ht] at hP1
    obtain ⟨hP, hD⟩ := xjoin (W := [(a2, .inr (3, [.ref a3, .ref a4, .ref p5, .ref p7, .int v9])), (a3, .inl (cT 1, 2048, .inl f3)), (a4, .inl (cT 1, 2048, .inl f4)), (p5, .inl (cT 1, 2048, .inl f6)), (p7, .inl (cT 1, 2048, .inl f8)), (a7, .inr (2, [.ref a8, .int w1, .int w2])), (a8, .inl (cT 2, 4096, .inr (.inl w0))), (a0, .inr (2, [.ref a1, .int v1, .int v2])), (a1, .inl (cT 2, 4096, .inr (.inl f0)))]) hP hD [0, 1] [2, 3, 4, 5, 6, 7, 8] 7 rfl rfl (by decide) (by decide) hk1 hFc hP1 hD1
    generalize H1 = H at hP hS ⊢
    rw [hr9]
    refine W.eq (g2 := F0 m 19 ls [.int o1, .int y6]) rfl ?_
    refine lv_icmp_ge (tgt := 52) hx hb dK_putFirsts_19 (by decide) (fun hc => ?_) (fun hc => ?_)
    · rw [if_pos hc] at hf
      refine lv_aload_n hx hb dK_putFirsts_52 rfl (lv_at hl 6 rfl) ?_
      refine lv_iload hx hb dK_putFirsts_53 (lv_at hl 2 rfl) ?_
      refine lv_iconst (v := 5) hx hb dK_putFirsts_55 (by decide) ?_
      refine lv_iload hx hb dK_putFirsts_56 (lv_at hl 1 rfl) ?_
      obtain ⟨o4, hq5, hf⟩ := xbind hf
      obtain ⟨hPc, hDc, hFc⟩ := xcut (wc := [(a7, .inr (2, [.ref a8, .int w1, .int w2])), (a8, .inl (cT 2, 4096, .inr (.inl w0)))]) hP hD hS hA [5, 6] rfl rfl (by decide)
      refine va_callv (va_runV (C := "ValueBench$Row") (As := [.int y4, .int 5, .int y5]) (rest := []) ⟨hx, hb, hml, hown, htx⟩ (gR_close l hl9 D cT aK aV H.size n a7 a8 y4 (5 : Int32) y5 w0 w1 w2 o4 hq5) ⟨callB_of 3 htx (xw_goodC kw_2_167) rfl rfl rfl (htx _ kw_1_4) (htx _ kw_5_38) ⟨by decide, by decide, by decide +kernel⟩ ⟨Nat.le_of_ble_eq_true rfl, Nat.le_of_ble_eq_true rfl⟩, (htx _ kw_2_165), (htx _ kw_2_166)⟩ ⟨xPre_blind, va_recv hK hP (ci := 2) rfl (q0 := 5) rfl, (fun U hU hW => ⟨rfl, xPre_of hZ hS hFc hPc hDc hK U hU hW⟩)⟩ rfl rfl hl.1 rfl (lv_room (Nat.le_of_ble_eq_true rfl)) dK_putFirsts_58 ⟨Nat.le_of_ble_eq_true rfl, Nat.le_of_ble_eq_true rfl⟩) hS (fun q _ h => hFc q h) hFc (fun u9 t H1 locs ht hvm hr9 hB hz1 hk1 hS => ?_)
      obtain ⟨hP1, hK1, hD1⟩ := hB
      rw [ht] at hP1
      obtain ⟨hP, hD⟩ := xjoin (W := [(a2, .inr (3, [.ref a3, .ref a4, .ref p5, .ref p7, .int v9])), (a3, .inl (cT 1, 2048, .inl f3)), (a4, .inl (cT 1, 2048, .inl f4)), (p5, .inl (cT 1, 2048, .inl f6)), (p7, .inl (cT 1, 2048, .inl f8)), (a0, .inr (2, [.ref a1, .int v1, .int v2])), (a1, .inl (cT 2, 4096, .inr (.inl f0))), (a7, .inr (2, [.ref a8, .int w1, .int w2])), (a8, .inl (cT 2, 4096, .inr (.inl o4)))]) hP hD [5, 6] [0, 1, 2, 3, 4, 7, 8] 7 rfl rfl (by decide) (by decide) hk1 hFc hP1 hD1
      generalize H1 = H at hP hS ⊢
      obtain rfl := Option.some.inj hf
      obtain ⟨hP9, hD9⟩ := xsub (wc := [(a0, .inr (2, [.ref a1, .int v1, .int v2])), (a1, .inl (cT 2, 4096, .inr (.inl f0))), (a2, .inr (3, [.ref a3, .ref a4, .ref p5, .ref p7, .int v9])), (a3, .inl (cT 1, 2048, .inl f3)), (a4, .inl (cT 1, 2048, .inl f4)), (p5, .inl (cT 1, 2048, .inl f6)), (p7, .inl (cT 1, 2048, .inl f8)), (a7, .inr (2, [.ref a8, .int w1, .int w2])), (a8, .inl (cT 2, 4096, .inr (.inl o4)))]) hP hD [5, 6, 0, 1, 2, 3, 4, 7, 8] rfl rfl (by decide)
      exact W.vret hx hb hr (fun t ht hW => ⟨⟨(), rfl, trivial, by rw [ht]; exact hP9, va_K.moved hW.alike hK, hD9⟩, hS.F ht⟩) hS.2.2 dK_putFirsts_61
    · rw [if_neg hc] at hf
      refine lv_aload_n hx hb dK_putFirsts_22 rfl (lv_at hl 4 rfl) ?_
      refine lv_iload hx hb dK_putFirsts_23 (lv_at hl 0 rfl) ?_
      refine lv_aload_n hx hb dK_putFirsts_25 rfl (lv_at hl 5 rfl) ?_
      obtain ⟨o4, hq5, hf⟩ := xbind hf
      obtain ⟨hPc, hDc, hFc⟩ := xcut (wc := [(a0, .inr (2, [.ref a1, .int v1, .int v2])), (a1, .inl (cT 2, 4096, .inr (.inl f0))), (a2, .inr (3, [.ref a3, .ref a4, .ref p5, .ref p7, .int v9])), (a3, .inl (cT 1, 2048, .inl f3)), (a4, .inl (cT 1, 2048, .inl f4)), (p5, .inl (cT 1, 2048, .inl f6)), (p7, .inl (cT 1, 2048, .inl f8))]) hP hD hS hA [7, 8, 0, 1, 2, 3, 4] rfl rfl (by decide)
      refine va_calli (va_runS (As := [.ref a0, .int y6, .ref a2]) (rest := []) ⟨hx, hb, hml, hown, htx⟩ (gK_beginsGroup l hl9 D cT aK aV H.size d n a0 a1 a2 a3 a4 y6 f0 v1 v2 f3 f4 p5 f6 p7 f8 v9 o4 hq5) ⟨callB_of 3 htx (xw_goodC kw_5_44) rfl rfl rfl (htx _ kw_1_28) (htx _ kw_5_42) ⟨by decide, by decide, by decide +kernel⟩ ⟨(by show (16 * d + 1) + 1 ≤ 16 * d + 3; omega), (by show 8 + (3 + 11) + (400 * d + 24) ≤ 400 * d + 105; omega)⟩, htx _ kw_5_43⟩ ⟨xPre_blind, (fun U hU hW => ⟨rfl, xPre_of hZ hS hFc hPc hDc hK U hU hW⟩)⟩ rfl rfl hl.1 rfl (lv_room (Nat.le_of_ble_eq_true rfl)) dK_putFirsts_26 ⟨Nat.le_of_ble_eq_true rfl, Nat.le_of_ble_eq_true rfl⟩) hS (fun q _ h => hFc q h) hFc (fun r6 u9 t H1 locs ht hvm hr9 hB hz1 hk1 hS => ?_)
      obtain ⟨hP1, hK1, hD1⟩ := hB
      rw [ht] at hP1
      obtain ⟨hP, hD⟩ := xjoin (W := [(a7, .inr (2, [.ref a8, .int w1, .int w2])), (a8, .inl (cT 2, 4096, .inr (.inl w0))), (a0, .inr (2, [.ref a1, .int v1, .int v2])), (a1, .inl (cT 2, 4096, .inr (.inl f0))), (a2, .inr (3, [.ref a3, .ref a4, .ref p5, .ref p7, .int v9])), (a3, .inl (cT 1, 2048, .inl f3)), (a4, .inl (cT 1, 2048, .inl f4)), (p5, .inl (cT 1, 2048, .inl f6)), (p7, .inl (cT 1, 2048, .inl f8))]) hP hD [7, 8, 0, 1, 2, 3, 4] [5, 6] 2 rfl rfl (by decide) (by decide) hk1 hFc hP1 hD1
      generalize H1 = H at hP hS ⊢
      rw [hr9]
      refine W.eq (g2 := F0 m 29 ls [.int o4]) rfl ?_
      refine lv_if_eq (tgt := 46) hx hb dK_putFirsts_29 (by decide) (fun hc => ?_) (fun hc => ?_)
      · rw [if_pos hc] at hf
        refine lv_iinc (v := (y6 + 1)) (lv' := [(6, .int (y6 + 1)), (5, .int y5), (4, .int y4), (0, .ref a0), (1, .ref a0), (2, .ref a2), (3, .ref a7)]) hx hb dK_putFirsts_46 hl (k := 0) rfl rfl (by decide) rfl (fun ls hl => ?_)
        refine lv_goto (tgt := 12) hx hb dK_putFirsts_49 (by decide) ?_
        obtain ⟨hP9, hD9⟩ := xsub (wc := [(a0, .inr (2, [.ref a1, .int v1, .int v2])), (a1, .inl (cT 2, 4096, .inr (.inl f0))), (a2, .inr (3, [.ref a3, .ref a4, .ref p5, .ref p7, .int v9])), (a3, .inl (cT 1, 2048, .inl f3)), (a4, .inl (cT 1, 2048, .inl f4)), (p5, .inl (cT 1, 2048, .inl f6)), (p7, .inl (cT 1, 2048, .inl f8)), (a7, .inr (2, [.ref a8, .int w1, .int w2])), (a8, .inl (cT 2, 4096, .inr (.inl w0)))]) hP hD [2, 3, 4, 5, 6, 7, 8, 0, 1] rfl rfl (by decide)
        exact ih (1, (y6 + 1), y5, y4, w0, w1, w2) _ _ ls (⟨rfl, hf, hP9, hD9, hS, lv_sub hl [0, 1, 2, 3, 4, 5, 6] rfl⟩)
      · rw [if_neg hc] at hf
        refine lv_aload_n hx hb dK_putFirsts_32 rfl (lv_at hl 6 rfl) ?_
        refine lv_aload_n hx hb dK_putFirsts_33 rfl (lv_at hl 3 rfl) ?_
        refine lv_aload_n hx hb dK_putFirsts_34 rfl (lv_at hl 5 rfl) ?_
        refine lv_iload hx hb dK_putFirsts_35 (lv_at hl 0 rfl) ?_
        obtain ⟨o7, hq8, hf⟩ := xbind hf
        obtain ⟨hPc, hDc, hFc⟩ := xcut (wc := [(a2, .inr (3, [.ref a3, .ref a4, .ref p5, .ref p7, .int v9])), (a3, .inl (cT 1, 2048, .inl f3)), (a4, .inl (cT 1, 2048, .inl f4)), (p5, .inl (cT 1, 2048, .inl f6)), (p7, .inl (cT 1, 2048, .inl f8))]) hP hD hS hA [4, 5, 6, 7, 8] rfl rfl (by decide)
        refine va_calli (va_runV (C := "ValueBench$Sorter") (As := [.int y6]) (rest := [.ref a0, .ref a7]) ⟨hx, hb, hml, hown, htx⟩ (gS_elementAtTurn l hl9 D cT aK aV H.size n a2 a3 a4 y6 f3 f4 p5 f6 p7 f8 v9 o7 hq8) ⟨callB_of 1 htx (xw_goodC kw_5_36) rfl rfl rfl (htx _ kw_1_3) (htx _ kw_5_33) ⟨by decide, by decide, by decide +kernel⟩ ⟨Nat.le_of_ble_eq_true rfl, Nat.le_of_ble_eq_true rfl⟩, (htx _ kw_5_34), (htx _ kw_5_35)⟩ ⟨xPre_blind, va_recv hK hP (ci := 3) rfl (q0 := 4) rfl, (fun U hU hW => ⟨rfl, xPre_of hZ hS hFc hPc hDc hK U hU hW⟩)⟩ rfl rfl hl.1 rfl (lv_room (Nat.le_of_ble_eq_true rfl)) dK_putFirsts_37 ⟨Nat.le_of_ble_eq_true rfl, Nat.le_of_ble_eq_true rfl⟩) hS (fun q _ h => hFc q h) hFc (fun r9 u9 t H1 locs ht hvm hr9 hB hz1 hk1 hS => ?_)
        obtain ⟨hP1, hK1, hD1⟩ := hB
        rw [ht] at hP1
        obtain ⟨hP, hD⟩ := xjoin (W := [(a7, .inr (2, [.ref a8, .int w1, .int w2])), (a8, .inl (cT 2, 4096, .inr (.inl w0))), (a0, .inr (2, [.ref a1, .int v1, .int v2])), (a1, .inl (cT 2, 4096, .inr (.inl f0))), (a2, .inr (3, [.ref a3, .ref a4, .ref p5, .ref p7, .int v9])), (a3, .inl (cT 1, 2048, .inl f3)), (a4, .inl (cT 1, 2048, .inl f4)), (p5, .inl (cT 1, 2048, .inl f6)), (p7, .inl (cT 1, 2048, .inl f8))]) hP hD [4, 5, 6, 7, 8] [0, 1, 2, 3] 4 rfl rfl (by decide) (by decide) hk1 hFc hP1 hD1
        generalize H1 = H at hP hS ⊢
        rw [hr9]
        refine W.eq (g2 := F0 m 40 ls [.int o7, .ref a0, .ref a7]) rfl ?_
        obtain ⟨o10, hq11, hf⟩ := xbind hf
        obtain ⟨hPc, hDc, hFc⟩ := xcut (wc := [(a7, .inr (2, [.ref a8, .int w1, .int w2])), (a8, .inl (cT 2, 4096, .inr (.inl w0))), (a0, .inr (2, [.ref a1, .int v1, .int v2])), (a1, .inl (cT 2, 4096, .inr (.inl f0)))]) hP hD hS hA [0, 1, 2, 3] rfl rfl (by decide)
        refine va_callv (va_runV (C := "ValueBench$Row") (As := [.ref a0, .int o7]) (rest := []) ⟨hx, hb, hml, hown, htx⟩ (gR_putCopy l hl9 D cT aK aV H.size n a7 a8 a0 a1 o7 w0 w1 w2 f0 v1 v2 o10 hq11) ⟨callB_of 2 htx (xw_goodC kw_3_126) rfl rfl rfl (htx _ kw_1_4) (htx _ kw_5_37) ⟨by decide, by decide, by decide +kernel⟩ ⟨Nat.le_of_ble_eq_true rfl, Nat.le_of_ble_eq_true rfl⟩, (htx _ kw_3_124), (htx _ kw_3_125)⟩ ⟨xPre_blind, va_recv hK hP (ci := 2) rfl (q0 := 0) rfl, (fun U hU hW => ⟨rfl, xPre_of hZ hS hFc hPc hDc hK U hU hW⟩)⟩ rfl rfl hl.1 rfl (lv_room (Nat.le_of_ble_eq_true rfl)) dK_putFirsts_40 ⟨Nat.le_of_ble_eq_true rfl, Nat.le_of_ble_eq_true rfl⟩) hS (fun q _ h => hFc q h) hFc (fun u9 t H1 locs ht hvm hr9 hB hz1 hk1 hS => ?_)
        obtain ⟨hP1, hK1, hD1⟩ := hB
        rw [ht] at hP1
        obtain ⟨hP, hD⟩ := xjoin (W := [(a2, .inr (3, [.ref a3, .ref a4, .ref p5, .ref p7, .int v9])), (a3, .inl (cT 1, 2048, .inl f3)), (a4, .inl (cT 1, 2048, .inl f4)), (p5, .inl (cT 1, 2048, .inl f6)), (p7, .inl (cT 1, 2048, .inl f8)), (a7, .inr (2, [.ref a8, .int o10.2.1, .int o10.2.2])), (a8, .inl (cT 2, 4096, .inr (.inl o10.1))), (a0, .inr (2, [.ref a1, .int v1, .int v2])), (a1, .inl (cT 2, 4096, .inr (.inl f0)))]) hP hD [0, 1, 2, 3] [4, 5, 6, 7, 8] 5 rfl rfl (by decide) (by decide) hk1 hFc hP1 hD1
        generalize H1 = H at hP hS ⊢
        refine lv_iinc (v := (y5 + 1)) (lv' := [(5, .int (y5 + 1)), (6, .int y6), (4, .int y4), (0, .ref a0), (1, .ref a0), (2, .ref a2), (3, .ref a7)]) hx hb dK_putFirsts_43 hl (k := 1) rfl rfl (by decide) rfl (fun ls hl => ?_)
        refine lv_iinc (v := (y6 + 1)) (lv' := [(6, .int (y6 + 1)), (5, .int (y5 + 1)), (4, .int y4), (0, .ref a0), (1, .ref a0), (2, .ref a2), (3, .ref a7)]) hx hb dK_putFirsts_46 hl (k := 1) rfl rfl (by decide) rfl (fun ls hl => ?_)
        refine lv_goto (tgt := 12) hx hb dK_putFirsts_49 (by decide) ?_
        obtain ⟨hP9, hD9⟩ := xsub (wc := [(a0, .inr (2, [.ref a1, .int v1, .int v2])), (a1, .inl (cT 2, 4096, .inr (.inl f0))), (a2, .inr (3, [.ref a3, .ref a4, .ref p5, .ref p7, .int v9])), (a3, .inl (cT 1, 2048, .inl f3)), (a4, .inl (cT 1, 2048, .inl f4)), (p5, .inl (cT 1, 2048, .inl f6)), (p7, .inl (cT 1, 2048, .inl f8)), (a7, .inr (2, [.ref a8, .int o10.2.1, .int o10.2.2])), (a8, .inl (cT 2, 4096, .inr (.inl o10.1)))]) hP hD [7, 8, 0, 1, 2, 3, 4, 5, 6] rfl rfl (by decide)
        exact ih (1, (y6 + 1), (y5 + 1), y4, o10.1, o10.2.1, o10.2.2) _ _ ls (⟨rfl, hf, hP9, hD9, hS, lv_sub hl [0, 1, 2, 3, 4, 5, 6] rfl⟩)
  refine lv_aload_n hx hb dK_putFirsts_0 rfl (lv_at hl 3 rfl) ?_
  obtain ⟨o1, hq2, hf⟩ := xbind hf
  obtain ⟨hPc, hDc, hFc⟩ := xcut (wc := [(a7, .inr (2, [.ref a8, .int v11, .int v12])), (a8, .inl (cT 2, 4096, .inr (.inl f10)))]) hP hD hS hA [7, 8] rfl rfl (by decide)
  refine va_calli (va_runV (C := "ValueBench$Row") (As := []) (rest := []) ⟨hx, hb, hml, hown, htx⟩ (gR_open l hl9 D cT aK aV s.heap.size n a7 a8 f10 v11 v12 o1 hq2) ⟨callB_of 0 htx (xw_goodC kw_2_136) rfl rfl rfl (htx _ kw_1_4) (htx _ kw_5_32) ⟨by decide, by decide, by decide +kernel⟩ ⟨Nat.le_of_ble_eq_true rfl, Nat.le_of_ble_eq_true rfl⟩, (htx _ kw_2_134), (htx _ kw_2_135)⟩ ⟨xPre_blind, va_recv hK hP (ci := 2) rfl (q0 := 7) rfl, (fun U hU hW => ⟨rfl, xPre_of hZ hS hFc hPc hDc hK U hU hW⟩)⟩ rfl rfl hl.1 rfl (lv_room (Nat.le_of_ble_eq_true rfl)) dK_putFirsts_1 ⟨Nat.le_of_ble_eq_true rfl, Nat.le_of_ble_eq_true rfl⟩) hS (fun q _ h => hFc q h) hFc (fun r3 u9 t H1 locs ht hvm hr9 hB hz1 hk1 hS => ?_)
  obtain ⟨hP1, hK1, hD1⟩ := hB
  rw [ht] at hP1
  obtain ⟨hP, hD⟩ := xjoin (W := [(a0, .inr (2, [.ref a1, .int v1, .int v2])), (a1, .inl (cT 2, 4096, .inr (.inl f0))), (a2, .inr (3, [.ref a3, .ref a4, .ref p5, .ref p7, .int v9])), (a3, .inl (cT 1, 2048, .inl f3)), (a4, .inl (cT 1, 2048, .inl f4)), (p5, .inl (cT 1, 2048, .inl f6)), (p7, .inl (cT 1, 2048, .inl f8)), (a7, .inr (2, [.ref a8, .int o1.2.2.1, .int o1.2.2.2])), (a8, .inl (cT 2, 4096, .inr (.inl o1.2.1)))]) hP hD [7, 8] [0, 1, 2, 3, 4, 5, 6] 7 rfl rfl (by decide) (by decide) hk1 hFc hP1 hD1
  generalize H1 = H at hP hS ⊢
  rw [hr9]
  refine W.eq (g2 := F0 m 4 ls [.int o1.1]) rfl ?_
  refine lv_istore (lv' := [(4, .int o1.1), (0, .ref a0), (1, .ref a0), (2, .ref a2), (3, .ref a7)]) hx hb dK_putFirsts_4 hl (by decide) rfl (fun ls hl => ?_)
  refine lv_iconst (v := 0) hx hb dK_putFirsts_6 (by decide) ?_
  refine lv_istore (lv' := [(5, .int 0), (4, .int o1.1), (0, .ref a0), (1, .ref a0), (2, .ref a2), (3, .ref a7)]) hx hb dK_putFirsts_7 hl (by decide) rfl (fun ls hl => ?_)
  refine lv_iconst (v := 0) hx hb dK_putFirsts_9 (by decide) ?_
  refine lv_istore (lv' := [(6, .int 0), (5, .int 0), (4, .int o1.1), (0, .ref a0), (1, .ref a0), (2, .ref a2), (3, .ref a7)]) hx hb dK_putFirsts_10 hl (by decide) rfl (fun ls hl => ?_)
  obtain ⟨hP9, hD9⟩ := xsub (wc := [(a0, .inr (2, [.ref a1, .int v1, .int v2])), (a1, .inl (cT 2, 4096, .inr (.inl f0))), (a2, .inr (3, [.ref a3, .ref a4, .ref p5, .ref p7, .int v9])), (a3, .inl (cT 1, 2048, .inl f3)), (a4, .inl (cT 1, 2048, .inl f4)), (p5, .inl (cT 1, 2048, .inl f6)), (p7, .inl (cT 1, 2048, .inl f8)), (a7, .inr (2, [.ref a8, .int o1.2.2.1, .int o1.2.2.2])), (a8, .inl (cT 2, 4096, .inr (.inl o1.2.1)))]) hP hD [0, 1, 2, 3, 4, 5, 6, 7, 8] rfl rfl (by decide)
  exact key n (1, 0, 0, o1.1, o1.2.1, o1.2.2.1, o1.2.2.2) _ _ ls (⟨rfl, hf, hP9, hD9, hS, lv_sub hl [0, 1, 2, 3, 4, 5, 6] rfl⟩)
set_option maxHeartbeats 400000000 in
set_option maxRecDepth 100000 in
theorem gK_applya (l : Launch) (hl9 : l.stackTraces = false) (D : va_G) (cT : Nat → ClassId) (aK aV : Nat → Nat) (sz d n : Nat) (a0 : Nat) (a1 : Nat) (a2 : Nat) (a3 : Nat) (a4 : Nat) (a7 : Nat) (a8 : Nat) (x0 : Int32) (f0 : Nat → Int64) (v1 : Int32) (v2 : Int32) (f3 : Nat → Int32) (f4 : Nat → Int32) (p5 : Nat) (f6 : Nat → Int32) (p7 : Nat) (f8 : Nat → Int32) (v9 : Int32) (f10 : Nat → Int64) (v11 : Int32) (v12 : Int32) (out : Int32 × (Nat → Int32) × (Nat → Int32) × (Nat → Int32) × Nat × (Nat → Int32) × Nat × Int32 × (Nat → Int64) × Int32 × Int32) (hf : fK_applya d n x0 f0 v1 v2 f3 f4 p5 f6 p7 f8 v9 f10 v11 v12 = some out) : xMet l yK_apply wyK_apply (16 * d + 5) 0 0 (400 * d + 157) D cT aK aV sz [.int x0, .ref a0, .ref a0, .ref a2, .ref a7] [(a0, .inr (2, [.ref a1, .int v1, .int v2])), (a1, .inl (cT 2, 4096, .inr (.inl f0))), (a2, .inr (3, [.ref a3, .ref a4, .ref p5, .ref p7, .int v9])), (a3, .inl (cT 1, 2048, .inl f3)), (a4, .inl (cT 1, 2048, .inl f4)), (p5, .inl (cT 1, 2048, .inl f6)), (p7, .inl (cT 1, 2048, .inl f8)), (a7, .inr (2, [.ref a8, .int v11, .int v12])), (a8, .inl (cT 2, 4096, .inr (.inl f10)))] (fun A => va_Qi (fun (r : Int32) (_ : Unit) => r = out.1) (fun _ t => xB D xcl cT A [(a0, .inr (2, [.ref a1, .int v1, .int v2])), (a1, .inl (cT 2, 4096, .inr (.inl f0))), (a2, .inr (3, [.ref a3, .ref a4, .ref out.2.2.2.2.1, .ref out.2.2.2.2.2.2.1, .int out.2.2.2.2.2.2.2.1])), (a3, .inl (cT 1, 2048, .inl out.2.1)), (a4, .inl (cT 1, 2048, .inl out.2.2.1)), (out.2.2.2.2.1, .inl (cT 1, 2048, .inl out.2.2.2.1)), (out.2.2.2.2.2.2.1, .inl (cT 1, 2048, .inl out.2.2.2.2.2.1)), (a7, .inr (2, [.ref a8, .int out.2.2.2.2.2.2.2.2.2.1, .int out.2.2.2.2.2.2.2.2.2.2])), (a8, .inl (cT 2, 4096, .inr (.inl out.2.2.2.2.2.2.2.2.1)))] t) A) := by
  refine Met.ofW (cc := prog_2_method_2_code) (maxL := 5) (ret := (some .int)) (by decide) rfl ?_
  intro p e s m args below meth c s₁ B hml hv
  obtain ⟨rfl, hsz, hZ, hP, hK, hD0⟩ := hv
  have hx := B.exec
  have hb := B.bytes
  have hr := B.returns
  have hts := atoms_spec (ws := wyK_apply) B.pre
  have htx := fun w h => hts w (List.mem_cons_of_mem _ h)
  have hown : s.vm.findClass "ValueBench$Keyed" = some m.cls := findClass_of_methodNamed B.named
  have hlocks := B.notSynchronized
  subst hsz
  have hD := hD0.self (sz := s.heap.size)
  generalize hAe : va_A [(a0, .inr (2, [.ref a1, .int v1, .int v2])), (a1, .inl (cT 2, 4096, .inr (.inl f0))), (a2, .inr (3, [.ref a3, .ref a4, .ref p5, .ref p7, .int v9])), (a3, .inl (cT 1, 2048, .inl f3)), (a4, .inl (cT 1, 2048, .inl f4)), (p5, .inl (cT 1, 2048, .inl f6)), (p7, .inl (cT 1, 2048, .inl f8)), (a7, .inr (2, [.ref a8, .int v11, .int v12])), (a8, .inl (cT 2, 4096, .inr (.inl f10)))] s.heap.size = A at hD hZ ⊢
  have hA : ∀ q : Nat, s.heap.size ≤ q → A q := fun q h => by rw [← hAe]; exact Or.inr h
  have hS : va_S A s.heap s.heap [] := va_S.rf
  have hP : va_P D xcl [(a0, .inr (2, [.ref a1, .int v1, .int v2])), (a1, .inl (cT 2, 4096, .inr (.inl f0))), (a2, .inr (3, [.ref a3, .ref a4, .ref p5, .ref p7, .int v9])), (a3, .inl (cT 1, 2048, .inl f3)), (a4, .inl (cT 1, 2048, .inl f4)), (p5, .inl (cT 1, 2048, .inl f6)), (p7, .inl (cT 1, 2048, .inl f8)), (a7, .inr (2, [.ref a8, .int v11, .int v12])), (a8, .inl (cT 2, 4096, .inr (.inl f10)))] s.heap := hP
  have hl := lv_entry ([.int x0, .ref a0, .ref a0, .ref a2, .ref a7]) (n := 5) (Nat.le_of_ble_eq_true rfl)
  rw [lg_entry_eq]
  generalize (lg_sl ([.int x0, .ref a0, .ref a0, .ref a2, .ref a7]) ++ List.replicate (5 - (lg_sl ([.int x0, .ref a0, .ref a0, .ref a2, .ref a7])).length) Slot.unset).toArray = ls at hl ⊢
  have hl : lv_has ls 5 [(0, .int x0), (1, .ref a0), (2, .ref a0), (3, .ref a2), (4, .ref a7)] := hl
  unfold fK_applya at hf
  refine lv_aload_n hx hb dK_apply_0 rfl (lv_at hl 1 rfl) ?_
  refine lv_iconst (v := 0) hx hb dK_apply_1 (by decide) ?_
  refine lv_iconst (v := 5) hx hb dK_apply_2 (by decide) ?_
  obtain ⟨o1, hq2, hf⟩ := xbind hf
  obtain ⟨hPc, hDc, hFc⟩ := xcut (wc := [(a0, .inr (2, [.ref a1, .int v1, .int v2])), (a1, .inl (cT 2, 4096, .inr (.inl f0)))]) hP hD hS hA [0, 1] rfl rfl (by decide)
  refine va_calli (va_runV (C := "ValueBench$Row") (As := [.int 0, .int 5]) (rest := []) ⟨hx, hb, hml, hown, htx⟩ (gR_is l hl9 D cT aK aV s.heap.size n a0 a1 (0 : Int32) (5 : Int32) f0 v1 v2 o1 hq2) ⟨callB_of 2 htx (xw_goodC kw_3_75) rfl rfl rfl (htx _ kw_1_4) (htx _ kw_5_22) ⟨by decide, by decide, by decide +kernel⟩ ⟨Nat.le_of_ble_eq_true rfl, Nat.le_of_ble_eq_true rfl⟩, (htx _ kw_3_73), (htx _ kw_3_74)⟩ ⟨xPre_blind, va_recv hK hP (ci := 2) rfl (q0 := 0) rfl, (fun U hU hW => ⟨rfl, xPre_of hZ hS hFc hPc hDc hK U hU hW⟩)⟩ rfl rfl hl.1 rfl (lv_room (Nat.le_of_ble_eq_true rfl)) dK_apply_3 ⟨Nat.le_of_ble_eq_true rfl, Nat.le_of_ble_eq_true rfl⟩) hS (fun q _ h => hFc q h) hFc (fun r3 u9 t H1 locs ht hvm hr9 hB hz1 hk1 hS => ?_)
  obtain ⟨hP1, hK1, hD1⟩ := hB
  rw [ht] at hP1
  obtain ⟨hP, hD⟩ := xjoin (W := [(a2, .inr (3, [.ref a3, .ref a4, .ref p5, .ref p7, .int v9])), (a3, .inl (cT 1, 2048, .inl f3)), (a4, .inl (cT 1, 2048, .inl f4)), (p5, .inl (cT 1, 2048, .inl f6)), (p7, .inl (cT 1, 2048, .inl f8)), (a7, .inr (2, [.ref a8, .int v11, .int v12])), (a8, .inl (cT 2, 4096, .inr (.inl f10))), (a0, .inr (2, [.ref a1, .int v1, .int v2])), (a1, .inl (cT 2, 4096, .inr (.inl f0)))]) hP hD [0, 1] [2, 3, 4, 5, 6, 7, 8] 7 rfl rfl (by decide) (by decide) hk1 hFc hP1 hD1
  generalize H1 = H at hP hS ⊢
  rw [hr9]
  refine W.eq (g2 := F0 m 6 ls [.int o1]) rfl ?_
  refine lv_if_eq (tgt := 31) hx hb dK_apply_6 (by decide) (fun hc => ?_) (fun hc => ?_)
  · rw [if_pos hc] at hf
    refine lv_iconst (v := 1) hx hb dK_apply_31 (by decide) ?_
    obtain rfl := Option.some.inj hf
    obtain ⟨hP9, hD9⟩ := xsub (wc := [(a0, .inr (2, [.ref a1, .int v1, .int v2])), (a1, .inl (cT 2, 4096, .inr (.inl f0))), (a2, .inr (3, [.ref a3, .ref a4, .ref p5, .ref p7, .int v9])), (a3, .inl (cT 1, 2048, .inl f3)), (a4, .inl (cT 1, 2048, .inl f4)), (p5, .inl (cT 1, 2048, .inl f6)), (p7, .inl (cT 1, 2048, .inl f8)), (a7, .inr (2, [.ref a8, .int v11, .int v12])), (a8, .inl (cT 2, 4096, .inr (.inl f10)))]) hP hD [7, 8, 0, 1, 2, 3, 4, 5, 6] rfl rfl (by decide)
    exact W.iret (v := (1 : Int32)) hx hb hr (fun t ht hW => ⟨⟨(1 : Int32), (), rfl, rfl, by rw [ht]; exact hP9, va_K.moved hW.alike hK, hD9⟩, hS.F ht⟩) hS.2.2 dK_apply_32
  · rw [if_neg hc] at hf
    refine lv_aload_n hx hb dK_apply_9 rfl (lv_at hl 2 rfl) ?_
    refine lv_iconst (v := 0) hx hb dK_apply_10 (by decide) ?_
    refine lv_iconst (v := 5) hx hb dK_apply_11 (by decide) ?_
    obtain ⟨o4, hq5, hf⟩ := xbind hf
    obtain ⟨hPc, hDc, hFc⟩ := xcut (wc := [(a0, .inr (2, [.ref a1, .int v1, .int v2])), (a1, .inl (cT 2, 4096, .inr (.inl f0)))]) hP hD hS hA [7, 8] rfl rfl (by decide)
    refine va_calli (va_runV (C := "ValueBench$Row") (As := [.int 0, .int 5]) (rest := []) ⟨hx, hb, hml, hown, htx⟩ (gR_is l hl9 D cT aK aV H.size n a0 a1 (0 : Int32) (5 : Int32) f0 v1 v2 o4 hq5) ⟨callB_of 2 htx (xw_goodC kw_3_75) rfl rfl rfl (htx _ kw_1_4) (htx _ kw_5_22) ⟨by decide, by decide, by decide +kernel⟩ ⟨Nat.le_of_ble_eq_true rfl, Nat.le_of_ble_eq_true rfl⟩, (htx _ kw_3_73), (htx _ kw_3_74)⟩ ⟨xPre_blind, va_recv hK hP (ci := 2) rfl (q0 := 7) rfl, (fun U hU hW => ⟨rfl, xPre_of hZ hS hFc hPc hDc hK U hU hW⟩)⟩ rfl rfl hl.1 rfl (lv_room (Nat.le_of_ble_eq_true rfl)) dK_apply_12 ⟨Nat.le_of_ble_eq_true rfl, Nat.le_of_ble_eq_true rfl⟩) hS (fun q _ h => hFc q h) hFc (fun r6 u9 t H1 locs ht hvm hr9 hB hz1 hk1 hS => ?_)
    obtain ⟨hP1, hK1, hD1⟩ := hB
    rw [ht] at hP1
    obtain ⟨hP, hD⟩ := xjoin (W := [(a2, .inr (3, [.ref a3, .ref a4, .ref p5, .ref p7, .int v9])), (a3, .inl (cT 1, 2048, .inl f3)), (a4, .inl (cT 1, 2048, .inl f4)), (p5, .inl (cT 1, 2048, .inl f6)), (p7, .inl (cT 1, 2048, .inl f8)), (a7, .inr (2, [.ref a8, .int v11, .int v12])), (a8, .inl (cT 2, 4096, .inr (.inl f10))), (a0, .inr (2, [.ref a1, .int v1, .int v2])), (a1, .inl (cT 2, 4096, .inr (.inl f0)))]) hP hD [7, 8] [0, 1, 2, 3, 4, 5, 6] 7 rfl rfl (by decide) (by decide) hk1 hFc hP1 hD1
    generalize H1 = H at hP hS ⊢
    rw [hr9]
    refine W.eq (g2 := F0 m 15 ls [.int o4]) rfl ?_
    refine lv_if_eq (tgt := 31) hx hb dK_apply_15 (by decide) (fun hc => ?_) (fun hc => ?_)
    · rw [if_pos hc] at hf
      refine lv_iconst (v := 1) hx hb dK_apply_31 (by decide) ?_
      obtain rfl := Option.some.inj hf
      obtain ⟨hP9, hD9⟩ := xsub (wc := [(a0, .inr (2, [.ref a1, .int v1, .int v2])), (a1, .inl (cT 2, 4096, .inr (.inl f0))), (a2, .inr (3, [.ref a3, .ref a4, .ref p5, .ref p7, .int v9])), (a3, .inl (cT 1, 2048, .inl f3)), (a4, .inl (cT 1, 2048, .inl f4)), (p5, .inl (cT 1, 2048, .inl f6)), (p7, .inl (cT 1, 2048, .inl f8)), (a7, .inr (2, [.ref a8, .int v11, .int v12])), (a8, .inl (cT 2, 4096, .inr (.inl f10)))]) hP hD [7, 8, 0, 1, 2, 3, 4, 5, 6] rfl rfl (by decide)
      exact W.iret (v := (1 : Int32)) hx hb hr (fun t ht hW => ⟨⟨(1 : Int32), (), rfl, rfl, by rw [ht]; exact hP9, va_K.moved hW.alike hK, hD9⟩, hS.F ht⟩) hS.2.2 dK_apply_32
    · rw [if_neg hc] at hf
      refine lv_aload_n hx hb dK_apply_18 rfl (lv_at hl 1 rfl) ?_
      refine lv_iconst (v := 0) hx hb dK_apply_19 (by decide) ?_
      obtain ⟨o7, hq8, hf⟩ := xbind hf
      obtain ⟨hPc, hDc, hFc⟩ := xcut (wc := [(a0, .inr (2, [.ref a1, .int v1, .int v2])), (a1, .inl (cT 2, 4096, .inr (.inl f0)))]) hP hD hS hA [7, 8] rfl rfl (by decide)
      refine va_calli (va_runV (C := "ValueBench$Row") (As := [.int 0]) (rest := []) ⟨hx, hb, hml, hown, htx⟩ (gR_length l hl9 D cT aK aV H.size n a0 a1 (0 : Int32) f0 v1 v2 o7 hq8) ⟨callB_of 1 htx (xw_goodC kw_2_191) rfl rfl rfl (htx _ kw_1_4) (htx _ kw_5_23) ⟨by decide, by decide, by decide +kernel⟩ ⟨Nat.le_of_ble_eq_true rfl, Nat.le_of_ble_eq_true rfl⟩, (htx _ kw_2_189), (htx _ kw_2_190)⟩ ⟨xPre_blind, va_recv hK hP (ci := 2) rfl (q0 := 7) rfl, (fun U hU hW => ⟨rfl, xPre_of hZ hS hFc hPc hDc hK U hU hW⟩)⟩ rfl rfl hl.1 rfl (lv_room (Nat.le_of_ble_eq_true rfl)) dK_apply_20 ⟨Nat.le_of_ble_eq_true rfl, Nat.le_of_ble_eq_true rfl⟩) hS (fun q _ h => hFc q h) hFc (fun r9 u9 t H1 locs ht hvm hr9 hB hz1 hk1 hS => ?_)
      obtain ⟨hP1, hK1, hD1⟩ := hB
      rw [ht] at hP1
      obtain ⟨hP, hD⟩ := xjoin (W := [(a2, .inr (3, [.ref a3, .ref a4, .ref p5, .ref p7, .int v9])), (a3, .inl (cT 1, 2048, .inl f3)), (a4, .inl (cT 1, 2048, .inl f4)), (p5, .inl (cT 1, 2048, .inl f6)), (p7, .inl (cT 1, 2048, .inl f8)), (a7, .inr (2, [.ref a8, .int v11, .int v12])), (a8, .inl (cT 2, 4096, .inr (.inl f10))), (a0, .inr (2, [.ref a1, .int v1, .int v2])), (a1, .inl (cT 2, 4096, .inr (.inl f0)))]) hP hD [7, 8] [0, 1, 2, 3, 4, 5, 6] 7 rfl rfl (by decide) (by decide) hk1 hFc hP1 hD1
      generalize H1 = H at hP hS ⊢
      rw [hr9]
      refine W.eq (g2 := F0 m 23 ls [.int o7]) rfl ?_
      refine lv_aload_n hx hb dK_apply_23 rfl (lv_at hl 2 rfl) ?_
      refine lv_iconst (v := 0) hx hb dK_apply_24 (by decide) ?_
      obtain ⟨o10, hq11, hf⟩ := xbind hf
      obtain ⟨hPc, hDc, hFc⟩ := xcut (wc := [(a0, .inr (2, [.ref a1, .int v1, .int v2])), (a1, .inl (cT 2, 4096, .inr (.inl f0)))]) hP hD hS hA [7, 8] rfl rfl (by decide)
      refine va_calli (va_runV (C := "ValueBench$Row") (As := [.int 0]) (rest := [.int o7]) ⟨hx, hb, hml, hown, htx⟩ (gR_length l hl9 D cT aK aV H.size n a0 a1 (0 : Int32) f0 v1 v2 o10 hq11) ⟨callB_of 1 htx (xw_goodC kw_2_191) rfl rfl rfl (htx _ kw_1_4) (htx _ kw_5_23) ⟨by decide, by decide, by decide +kernel⟩ ⟨Nat.le_of_ble_eq_true rfl, Nat.le_of_ble_eq_true rfl⟩, (htx _ kw_2_189), (htx _ kw_2_190)⟩ ⟨xPre_blind, va_recv hK hP (ci := 2) rfl (q0 := 7) rfl, (fun U hU hW => ⟨rfl, xPre_of hZ hS hFc hPc hDc hK U hU hW⟩)⟩ rfl rfl hl.1 rfl (lv_room (Nat.le_of_ble_eq_true rfl)) dK_apply_25 ⟨Nat.le_of_ble_eq_true rfl, Nat.le_of_ble_eq_true rfl⟩) hS (fun q _ h => hFc q h) hFc (fun r12 u9 t H1 locs ht hvm hr9 hB hz1 hk1 hS => ?_)
      obtain ⟨hP1, hK1, hD1⟩ := hB
      rw [ht] at hP1
      obtain ⟨hP, hD⟩ := xjoin (W := [(a2, .inr (3, [.ref a3, .ref a4, .ref p5, .ref p7, .int v9])), (a3, .inl (cT 1, 2048, .inl f3)), (a4, .inl (cT 1, 2048, .inl f4)), (p5, .inl (cT 1, 2048, .inl f6)), (p7, .inl (cT 1, 2048, .inl f8)), (a7, .inr (2, [.ref a8, .int v11, .int v12])), (a8, .inl (cT 2, 4096, .inr (.inl f10))), (a0, .inr (2, [.ref a1, .int v1, .int v2])), (a1, .inl (cT 2, 4096, .inr (.inl f0)))]) hP hD [7, 8] [0, 1, 2, 3, 4, 5, 6] 7 rfl rfl (by decide) (by decide) hk1 hFc hP1 hD1
      generalize H1 = H at hP hS ⊢
      rw [hr9]
      refine W.eq (g2 := F0 m 28 ls [.int o10, .int o7]) rfl ?_
      refine lv_icmp_eq (tgt := 33) hx hb dK_apply_28 (by decide) (fun hc => ?_) (fun hc => ?_)
      · rw [if_pos hc] at hf
        refine lv_aload_n hx hb dK_apply_33 rfl (lv_at hl 3 rfl) ?_
        refine lv_aload_n hx hb dK_apply_34 rfl (lv_at hl 2 rfl) ?_
        refine lv_iconst (v := 0) hx hb dK_apply_35 (by decide) ?_
        obtain ⟨o13, hq14, hf⟩ := xbind hf
        obtain ⟨hPc, hDc, hFc⟩ := xcut (wc := [(a2, .inr (3, [.ref a3, .ref a4, .ref p5, .ref p7, .int v9])), (a3, .inl (cT 1, 2048, .inl f3)), (a4, .inl (cT 1, 2048, .inl f4)), (p5, .inl (cT 1, 2048, .inl f6)), (p7, .inl (cT 1, 2048, .inl f8)), (a0, .inr (2, [.ref a1, .int v1, .int v2])), (a1, .inl (cT 2, 4096, .inr (.inl f0)))]) hP hD hS hA [0, 1, 2, 3, 4, 7, 8] rfl rfl (by decide)
        refine va_callv (va_runV (C := "ValueBench$Sorter") (As := [.ref a0, .int 0]) (rest := []) ⟨hx, hb, hml, hown, htx⟩ (gS_arrange l hl9 D cT aK aV H.size d n a2 a3 a4 a0 a1 (0 : Int32) f3 f4 p5 f6 p7 f8 v9 f0 v1 v2 o13 hq14) ⟨callB_of 2 htx (xw_goodC kw_4_50) rfl rfl rfl (htx _ kw_1_3) (htx _ kw_5_24) ⟨by decide, by decide, by decide +kernel⟩ ⟨(by show (16 * d + 3) + 1 ≤ 16 * d + 5; omega), (by show 8 + (5 + 11) + (400 * d + 68) ≤ 400 * d + 157; omega)⟩, (htx _ kw_4_48), (htx _ kw_4_49)⟩ ⟨xPre_blind, va_recv hK hP (ci := 3) rfl (q0 := 0) rfl, (fun U hU hW => ⟨rfl, xPre_of hZ hS hFc hPc hDc hK U hU hW⟩)⟩ rfl rfl hl.1 rfl (lv_room (Nat.le_of_ble_eq_true rfl)) dK_apply_36 ⟨Nat.le_of_ble_eq_true rfl, Nat.le_of_ble_eq_true rfl⟩) hS (fun q _ h => hFc q h) hFc (fun u9 t H1 locs ht hvm hr9 hB hz1 hk1 hS => ?_)
        obtain ⟨hP1, hK1, hD1⟩ := hB
        rw [ht] at hP1
        obtain ⟨hP, hD⟩ := xjoin (W := [(a7, .inr (2, [.ref a8, .int v11, .int v12])), (a8, .inl (cT 2, 4096, .inr (.inl f10))), (a2, .inr (3, [.ref a3, .ref a4, .ref o13.2.2.1, .ref o13.2.2.2.2.1, .int o13.2.2.2.2.2])), (a3, .inl (cT 1, 2048, .inl o13.1)), (a4, .inl (cT 1, 2048, .inl f4)), (o13.2.2.1, .inl (cT 1, 2048, .inl o13.2.1)), (o13.2.2.2.2.1, .inl (cT 1, 2048, .inl o13.2.2.2.1)), (a0, .inr (2, [.ref a1, .int v1, .int v2])), (a1, .inl (cT 2, 4096, .inr (.inl f0)))]) hP hD [0, 1, 2, 3, 4, 7, 8] [5, 6] 2 rfl rfl (by decide) (by decide) hk1 hFc hP1 hD1
        generalize H1 = H at hP hS ⊢
        refine lv_aload_n hx hb dK_apply_39 rfl (lv_at hl 3 rfl) ?_
        refine lv_aload_n hx hb dK_apply_40 rfl (lv_at hl 1 rfl) ?_
        refine lv_iconst (v := 0) hx hb dK_apply_41 (by decide) ?_
        obtain ⟨o15, hq16, hf⟩ := xbind hf
        obtain ⟨hPc, hDc, hFc⟩ := xcut (wc := [(a2, .inr (3, [.ref a3, .ref a4, .ref o13.2.2.1, .ref o13.2.2.2.2.1, .int o13.2.2.2.2.2])), (a3, .inl (cT 1, 2048, .inl o13.1)), (a4, .inl (cT 1, 2048, .inl f4)), (o13.2.2.1, .inl (cT 1, 2048, .inl o13.2.1)), (o13.2.2.2.2.1, .inl (cT 1, 2048, .inl o13.2.2.2.1)), (a0, .inr (2, [.ref a1, .int v1, .int v2])), (a1, .inl (cT 2, 4096, .inr (.inl f0)))]) hP hD hS hA [2, 3, 4, 5, 6, 7, 8] rfl rfl (by decide)
        refine va_callv (va_runV (C := "ValueBench$Sorter") (As := [.ref a0, .int 0]) (rest := []) ⟨hx, hb, hml, hown, htx⟩ (gS_attach l hl9 D cT aK aV H.size n a2 a3 a4 a0 a1 (0 : Int32) o13.1 f4 o13.2.2.1 o13.2.1 o13.2.2.2.2.1 o13.2.2.2.1 o13.2.2.2.2.2 f0 v1 v2 o15 hq16) ⟨callB_of 2 htx (xw_goodC kw_5_28) rfl rfl rfl (htx _ kw_1_3) (htx _ kw_5_25) ⟨by decide, by decide, by decide +kernel⟩ ⟨Nat.le_of_ble_eq_true rfl, Nat.le_of_ble_eq_true rfl⟩, (htx _ kw_5_26), (htx _ kw_5_27)⟩ ⟨xPre_blind, va_recv hK hP (ci := 3) rfl (q0 := 2) rfl, (fun U hU hW => ⟨rfl, xPre_of hZ hS hFc hPc hDc hK U hU hW⟩)⟩ rfl rfl hl.1 rfl (lv_room (Nat.le_of_ble_eq_true rfl)) dK_apply_42 ⟨Nat.le_of_ble_eq_true rfl, Nat.le_of_ble_eq_true rfl⟩) hS (fun q _ h => hFc q h) hFc (fun u9 t H1 locs ht hvm hr9 hB hz1 hk1 hS => ?_)
        obtain ⟨hP1, hK1, hD1⟩ := hB
        rw [ht] at hP1
        obtain ⟨hP, hD⟩ := xjoin (W := [(a7, .inr (2, [.ref a8, .int v11, .int v12])), (a8, .inl (cT 2, 4096, .inr (.inl f10))), (a2, .inr (3, [.ref a3, .ref a4, .ref o13.2.2.1, .ref o13.2.2.2.2.1, .int o13.2.2.2.2.2])), (a3, .inl (cT 1, 2048, .inl o13.1)), (a4, .inl (cT 1, 2048, .inl o15)), (o13.2.2.1, .inl (cT 1, 2048, .inl o13.2.1)), (o13.2.2.2.2.1, .inl (cT 1, 2048, .inl o13.2.2.2.1)), (a0, .inr (2, [.ref a1, .int v1, .int v2])), (a1, .inl (cT 2, 4096, .inr (.inl f0)))]) hP hD [2, 3, 4, 5, 6, 7, 8] [0, 1] 2 rfl rfl (by decide) (by decide) hk1 hFc hP1 hD1
        generalize H1 = H at hP hS ⊢
        refine lv_iload_n hx hb dK_apply_45 rfl (lv_at hl 0 rfl) ?_
        by_cases hc17 : x0 = 0
        · rw [if_pos hc17] at hf
          refine lv_tableIn (off := 30) (tgt := 76) hx hb dK_apply_46 (by rw [hc17]; decide) (by rw [hc17]; decide) (by rw [hc17]; decide) (by decide) ?_
          refine lv_aload_n hx hb dK_apply_76 rfl (lv_at hl 1 rfl) ?_
          refine lv_aload_n hx hb dK_apply_77 rfl (lv_at hl 3 rfl) ?_
          refine lv_aload hx hb dK_apply_78 (lv_at hl 4 rfl) ?_
          obtain ⟨o18, hq19, hf⟩ := xbind hf
          obtain ⟨hPc, hDc, hFc⟩ := xcut (wc := [(a0, .inr (2, [.ref a1, .int v1, .int v2])), (a1, .inl (cT 2, 4096, .inr (.inl f0))), (a2, .inr (3, [.ref a3, .ref a4, .ref o13.2.2.1, .ref o13.2.2.2.2.1, .int o13.2.2.2.2.2])), (a3, .inl (cT 1, 2048, .inl o13.1)), (a4, .inl (cT 1, 2048, .inl o15)), (o13.2.2.1, .inl (cT 1, 2048, .inl o13.2.1)), (o13.2.2.2.2.1, .inl (cT 1, 2048, .inl o13.2.2.2.1)), (a7, .inr (2, [.ref a8, .int v11, .int v12])), (a8, .inl (cT 2, 4096, .inr (.inl f10)))]) hP hD hS hA [7, 8, 2, 3, 4, 5, 6, 0, 1] rfl rfl (by decide)
          refine va_callv (va_runS (As := [.ref a0, .ref a2, .ref a7]) (rest := []) ⟨hx, hb, hml, hown, htx⟩ (gK_putSorted l hl9 D cT aK aV H.size n a0 a1 a2 a3 a4 a7 a8 f0 v1 v2 o13.1 o15 o13.2.2.1 o13.2.1 o13.2.2.2.2.1 o13.2.2.2.1 o13.2.2.2.2.2 f10 v11 v12 o18 hq19) ⟨callB_of 3 htx (xw_goodC kw_5_31) rfl rfl rfl (htx _ kw_1_28) (htx _ kw_5_29) ⟨by decide, by decide, by decide +kernel⟩ ⟨Nat.le_of_ble_eq_true rfl, Nat.le_of_ble_eq_true rfl⟩, htx _ kw_5_30⟩ ⟨xPre_blind, (fun U hU hW => ⟨rfl, xPre_of hZ hS hFc hPc hDc hK U hU hW⟩)⟩ rfl rfl hl.1 rfl (lv_room (Nat.le_of_ble_eq_true rfl)) dK_apply_80 ⟨Nat.le_of_ble_eq_true rfl, Nat.le_of_ble_eq_true rfl⟩) hS (fun q _ h => hFc q h) hFc (fun u9 t H1 locs ht hvm hr9 hB hz1 hk1 hS => ?_)
          obtain ⟨hP1, hK1, hD1⟩ := hB
          rw [ht] at hP1
          obtain ⟨hP, hD⟩ := xjoin (W := [(a0, .inr (2, [.ref a1, .int v1, .int v2])), (a1, .inl (cT 2, 4096, .inr (.inl f0))), (a2, .inr (3, [.ref a3, .ref a4, .ref o13.2.2.1, .ref o13.2.2.2.2.1, .int o13.2.2.2.2.2])), (a3, .inl (cT 1, 2048, .inl o13.1)), (a4, .inl (cT 1, 2048, .inl o15)), (o13.2.2.1, .inl (cT 1, 2048, .inl o13.2.1)), (o13.2.2.2.2.1, .inl (cT 1, 2048, .inl o13.2.2.2.1)), (a7, .inr (2, [.ref a8, .int o18.2.1, .int o18.2.2])), (a8, .inl (cT 2, 4096, .inr (.inl o18.1)))]) hP hD [7, 8, 2, 3, 4, 5, 6, 0, 1] [] 0 rfl rfl (by decide) (by decide) hk1 hFc hP1 hD1
          generalize H1 = H at hP hS ⊢
          refine lv_iconst (v := 0) hx hb dK_apply_83 (by decide) ?_
          obtain rfl := Option.some.inj hf
          obtain ⟨hP9, hD9⟩ := xsub (wc := [(a0, .inr (2, [.ref a1, .int v1, .int v2])), (a1, .inl (cT 2, 4096, .inr (.inl f0))), (a2, .inr (3, [.ref a3, .ref a4, .ref o13.2.2.1, .ref o13.2.2.2.2.1, .int o13.2.2.2.2.2])), (a3, .inl (cT 1, 2048, .inl o13.1)), (a4, .inl (cT 1, 2048, .inl o15)), (o13.2.2.1, .inl (cT 1, 2048, .inl o13.2.1)), (o13.2.2.2.2.1, .inl (cT 1, 2048, .inl o13.2.2.2.1)), (a7, .inr (2, [.ref a8, .int o18.2.1, .int o18.2.2])), (a8, .inl (cT 2, 4096, .inr (.inl o18.1)))]) hP hD [0, 1, 2, 3, 4, 5, 6, 7, 8] rfl rfl (by decide)
          exact W.iret (v := (0 : Int32)) hx hb hr (fun t ht hW => ⟨⟨(0 : Int32), (), rfl, rfl, by rw [ht]; exact hP9, va_K.moved hW.alike hK, hD9⟩, hS.F ht⟩) hS.2.2 dK_apply_84
        rw [if_neg hc17] at hf
        by_cases hc20 : x0 = 1
        · rw [if_pos hc20] at hf
          refine lv_tableIn (off := 39) (tgt := 85) hx hb dK_apply_46 (by rw [hc20]; decide) (by rw [hc20]; decide) (by rw [hc20]; decide) (by decide) ?_
          refine lv_aload_n hx hb dK_apply_85 rfl (lv_at hl 1 rfl) ?_
          refine lv_aload_n hx hb dK_apply_86 rfl (lv_at hl 2 rfl) ?_
          refine lv_aload_n hx hb dK_apply_87 rfl (lv_at hl 3 rfl) ?_
          refine lv_aload hx hb dK_apply_88 (lv_at hl 4 rfl) ?_
          obtain ⟨o21, hq22, hf⟩ := xbind hf
          obtain ⟨hPc, hDc, hFc⟩ := xcut (wc := [(a0, .inr (2, [.ref a1, .int v1, .int v2])), (a1, .inl (cT 2, 4096, .inr (.inl f0))), (a2, .inr (3, [.ref a3, .ref a4, .ref o13.2.2.1, .ref o13.2.2.2.2.1, .int o13.2.2.2.2.2])), (a3, .inl (cT 1, 2048, .inl o13.1)), (a4, .inl (cT 1, 2048, .inl o15)), (o13.2.2.1, .inl (cT 1, 2048, .inl o13.2.1)), (o13.2.2.2.2.1, .inl (cT 1, 2048, .inl o13.2.2.2.1)), (a7, .inr (2, [.ref a8, .int v11, .int v12])), (a8, .inl (cT 2, 4096, .inr (.inl f10)))]) hP hD hS hA [7, 8, 2, 3, 4, 5, 6, 0, 1] rfl rfl (by decide)
          refine va_callv (va_runS (As := [.ref a0, .ref a0, .ref a2, .ref a7]) (rest := []) ⟨hx, hb, hml, hown, htx⟩ (gK_putGroupsa l hl9 D cT aK aV H.size d n a0 a1 a2 a3 a4 a7 a8 f0 v1 v2 o13.1 o15 o13.2.2.1 o13.2.1 o13.2.2.2.2.1 o13.2.2.2.1 o13.2.2.2.2.2 f10 v11 v12 o21 hq22) ⟨callB_of 4 htx (xw_goodC kw_5_41) rfl rfl rfl (htx _ kw_1_28) (htx _ kw_5_39) ⟨by decide, by decide, by decide +kernel⟩ ⟨(by show (16 * d + 4) + 1 ≤ 16 * d + 5; omega), (by show 8 + (7 + 11) + (400 * d + 131) ≤ 400 * d + 157; omega)⟩, htx _ kw_5_40⟩ ⟨xPre_blind, (fun U hU hW => ⟨rfl, xPre_of hZ hS hFc hPc hDc hK U hU hW⟩)⟩ rfl rfl hl.1 rfl (lv_room (Nat.le_of_ble_eq_true rfl)) dK_apply_90 ⟨Nat.le_of_ble_eq_true rfl, Nat.le_of_ble_eq_true rfl⟩) hS (fun q _ h => hFc q h) hFc (fun u9 t H1 locs ht hvm hr9 hB hz1 hk1 hS => ?_)
          obtain ⟨hP1, hK1, hD1⟩ := hB
          rw [ht] at hP1
          obtain ⟨hP, hD⟩ := xjoin (W := [(a0, .inr (2, [.ref a1, .int v1, .int v2])), (a1, .inl (cT 2, 4096, .inr (.inl f0))), (a2, .inr (3, [.ref a3, .ref a4, .ref o13.2.2.1, .ref o13.2.2.2.2.1, .int o13.2.2.2.2.2])), (a3, .inl (cT 1, 2048, .inl o13.1)), (a4, .inl (cT 1, 2048, .inl o15)), (o13.2.2.1, .inl (cT 1, 2048, .inl o13.2.1)), (o13.2.2.2.2.1, .inl (cT 1, 2048, .inl o13.2.2.2.1)), (a7, .inr (2, [.ref a8, .int o21.2.1, .int o21.2.2])), (a8, .inl (cT 2, 4096, .inr (.inl o21.1)))]) hP hD [7, 8, 2, 3, 4, 5, 6, 0, 1] [] 0 rfl rfl (by decide) (by decide) hk1 hFc hP1 hD1
          generalize H1 = H at hP hS ⊢
          refine lv_iconst (v := 0) hx hb dK_apply_93 (by decide) ?_
          obtain rfl := Option.some.inj hf
          obtain ⟨hP9, hD9⟩ := xsub (wc := [(a0, .inr (2, [.ref a1, .int v1, .int v2])), (a1, .inl (cT 2, 4096, .inr (.inl f0))), (a2, .inr (3, [.ref a3, .ref a4, .ref o13.2.2.1, .ref o13.2.2.2.2.1, .int o13.2.2.2.2.2])), (a3, .inl (cT 1, 2048, .inl o13.1)), (a4, .inl (cT 1, 2048, .inl o15)), (o13.2.2.1, .inl (cT 1, 2048, .inl o13.2.1)), (o13.2.2.2.2.1, .inl (cT 1, 2048, .inl o13.2.2.2.1)), (a7, .inr (2, [.ref a8, .int o21.2.1, .int o21.2.2])), (a8, .inl (cT 2, 4096, .inr (.inl o21.1)))]) hP hD [0, 1, 2, 3, 4, 5, 6, 7, 8] rfl rfl (by decide)
          exact W.iret (v := (0 : Int32)) hx hb hr (fun t ht hW => ⟨⟨(0 : Int32), (), rfl, rfl, by rw [ht]; exact hP9, va_K.moved hW.alike hK, hD9⟩, hS.F ht⟩) hS.2.2 dK_apply_94
        rw [if_neg hc20] at hf
        by_cases hc23 : x0 = 2
        · rw [if_pos hc23] at hf
          refine lv_tableIn (off := 49) (tgt := 95) hx hb dK_apply_46 (by rw [hc23]; decide) (by rw [hc23]; decide) (by rw [hc23]; decide) (by decide) ?_
          refine lv_aload_n hx hb dK_apply_95 rfl (lv_at hl 1 rfl) ?_
          refine lv_aload_n hx hb dK_apply_96 rfl (lv_at hl 2 rfl) ?_
          refine lv_aload_n hx hb dK_apply_97 rfl (lv_at hl 3 rfl) ?_
          refine lv_aload hx hb dK_apply_98 (lv_at hl 4 rfl) ?_
          obtain ⟨o24, hq25, hf⟩ := xbind hf
          obtain ⟨hPc, hDc, hFc⟩ := xcut (wc := [(a0, .inr (2, [.ref a1, .int v1, .int v2])), (a1, .inl (cT 2, 4096, .inr (.inl f0))), (a2, .inr (3, [.ref a3, .ref a4, .ref o13.2.2.1, .ref o13.2.2.2.2.1, .int o13.2.2.2.2.2])), (a3, .inl (cT 1, 2048, .inl o13.1)), (a4, .inl (cT 1, 2048, .inl o15)), (o13.2.2.1, .inl (cT 1, 2048, .inl o13.2.1)), (o13.2.2.2.2.1, .inl (cT 1, 2048, .inl o13.2.2.2.1)), (a7, .inr (2, [.ref a8, .int v11, .int v12])), (a8, .inl (cT 2, 4096, .inr (.inl f10)))]) hP hD hS hA [7, 8, 2, 3, 4, 5, 6, 0, 1] rfl rfl (by decide)
          refine va_callv (va_runS (As := [.ref a0, .ref a0, .ref a2, .ref a7]) (rest := []) ⟨hx, hb, hml, hown, htx⟩ (gK_putFirstsa l hl9 D cT aK aV H.size d n a0 a1 a2 a3 a4 a7 a8 f0 v1 v2 o13.1 o15 o13.2.2.1 o13.2.1 o13.2.2.2.2.1 o13.2.2.2.1 o13.2.2.2.2.2 f10 v11 v12 o24 hq25) ⟨callB_of 4 htx (xw_goodC kw_5_52) rfl rfl rfl (htx _ kw_1_28) (htx _ kw_5_50) ⟨by decide, by decide, by decide +kernel⟩ ⟨(by show (16 * d + 3) + 1 ≤ 16 * d + 5; omega), (by show 8 + (7 + 11) + (400 * d + 105) ≤ 400 * d + 157; omega)⟩, htx _ kw_5_51⟩ ⟨xPre_blind, (fun U hU hW => ⟨rfl, xPre_of hZ hS hFc hPc hDc hK U hU hW⟩)⟩ rfl rfl hl.1 rfl (lv_room (Nat.le_of_ble_eq_true rfl)) dK_apply_100 ⟨Nat.le_of_ble_eq_true rfl, Nat.le_of_ble_eq_true rfl⟩) hS (fun q _ h => hFc q h) hFc (fun u9 t H1 locs ht hvm hr9 hB hz1 hk1 hS => ?_)
          obtain ⟨hP1, hK1, hD1⟩ := hB
          rw [ht] at hP1
          obtain ⟨hP, hD⟩ := xjoin (W := [(a0, .inr (2, [.ref a1, .int v1, .int v2])), (a1, .inl (cT 2, 4096, .inr (.inl f0))), (a2, .inr (3, [.ref a3, .ref a4, .ref o13.2.2.1, .ref o13.2.2.2.2.1, .int o13.2.2.2.2.2])), (a3, .inl (cT 1, 2048, .inl o13.1)), (a4, .inl (cT 1, 2048, .inl o15)), (o13.2.2.1, .inl (cT 1, 2048, .inl o13.2.1)), (o13.2.2.2.2.1, .inl (cT 1, 2048, .inl o13.2.2.2.1)), (a7, .inr (2, [.ref a8, .int o24.2.1, .int o24.2.2])), (a8, .inl (cT 2, 4096, .inr (.inl o24.1)))]) hP hD [7, 8, 2, 3, 4, 5, 6, 0, 1] [] 0 rfl rfl (by decide) (by decide) hk1 hFc hP1 hD1
          generalize H1 = H at hP hS ⊢
          refine lv_iconst (v := 0) hx hb dK_apply_103 (by decide) ?_
          obtain rfl := Option.some.inj hf
          obtain ⟨hP9, hD9⟩ := xsub (wc := [(a0, .inr (2, [.ref a1, .int v1, .int v2])), (a1, .inl (cT 2, 4096, .inr (.inl f0))), (a2, .inr (3, [.ref a3, .ref a4, .ref o13.2.2.1, .ref o13.2.2.2.2.1, .int o13.2.2.2.2.2])), (a3, .inl (cT 1, 2048, .inl o13.1)), (a4, .inl (cT 1, 2048, .inl o15)), (o13.2.2.1, .inl (cT 1, 2048, .inl o13.2.1)), (o13.2.2.2.2.1, .inl (cT 1, 2048, .inl o13.2.2.2.1)), (a7, .inr (2, [.ref a8, .int o24.2.1, .int o24.2.2])), (a8, .inl (cT 2, 4096, .inr (.inl o24.1)))]) hP hD [0, 1, 2, 3, 4, 5, 6, 7, 8] rfl rfl (by decide)
          exact W.iret (v := (0 : Int32)) hx hb hr (fun t ht hW => ⟨⟨(0 : Int32), (), rfl, rfl, by rw [ht]; exact hP9, va_K.moved hW.alike hK, hD9⟩, hS.F ht⟩) hS.2.2 dK_apply_104
        rw [if_neg hc23] at hf
        by_cases hc26 : x0 = 3
        · rw [if_pos hc26] at hf
          refine lv_tableIn (off := 59) (tgt := 105) hx hb dK_apply_46 (by rw [hc26]; decide) (by rw [hc26]; decide) (by rw [hc26]; decide) (by decide) ?_
          refine lv_aload_n hx hb dK_apply_105 rfl (lv_at hl 1 rfl) ?_
          refine lv_iconst (v := 0) hx hb dK_apply_106 (by decide) ?_
          refine lv_aload_n hx hb dK_apply_107 rfl (lv_at hl 3 rfl) ?_
          refine lv_aload hx hb dK_apply_108 (lv_at hl 4 rfl) ?_
          obtain ⟨o27, hq28, hf⟩ := xbind hf
          obtain ⟨hPc, hDc, hFc⟩ := xcut (wc := [(a0, .inr (2, [.ref a1, .int v1, .int v2])), (a1, .inl (cT 2, 4096, .inr (.inl f0))), (a2, .inr (3, [.ref a3, .ref a4, .ref o13.2.2.1, .ref o13.2.2.2.2.1, .int o13.2.2.2.2.2])), (a3, .inl (cT 1, 2048, .inl o13.1)), (a4, .inl (cT 1, 2048, .inl o15)), (o13.2.2.1, .inl (cT 1, 2048, .inl o13.2.1)), (o13.2.2.2.2.1, .inl (cT 1, 2048, .inl o13.2.2.2.1)), (a7, .inr (2, [.ref a8, .int v11, .int v12])), (a8, .inl (cT 2, 4096, .inr (.inl f10)))]) hP hD hS hA [7, 8, 2, 3, 4, 5, 6, 0, 1] rfl rfl (by decide)
          refine va_callv (va_runS (As := [.ref a0, .int 0, .ref a2, .ref a7]) (rest := []) ⟨hx, hb, hml, hown, htx⟩ (gK_putTurnOrNull l hl9 D cT aK aV H.size n a0 a1 a2 a3 a4 a7 a8 (0 : Int32) f0 v1 v2 o13.1 o15 o13.2.2.1 o13.2.1 o13.2.2.2.2.1 o13.2.2.2.1 o13.2.2.2.2.2 f10 v11 v12 o27 hq28) ⟨callB_of 4 htx (xw_goodC kw_5_55) rfl rfl rfl (htx _ kw_1_28) (htx _ kw_5_53) ⟨by decide, by decide, by decide +kernel⟩ ⟨Nat.le_of_ble_eq_true rfl, Nat.le_of_ble_eq_true rfl⟩, htx _ kw_5_54⟩ ⟨xPre_blind, (fun U hU hW => ⟨rfl, xPre_of hZ hS hFc hPc hDc hK U hU hW⟩)⟩ rfl rfl hl.1 rfl (lv_room (Nat.le_of_ble_eq_true rfl)) dK_apply_110 ⟨Nat.le_of_ble_eq_true rfl, Nat.le_of_ble_eq_true rfl⟩) hS (fun q _ h => hFc q h) hFc (fun u9 t H1 locs ht hvm hr9 hB hz1 hk1 hS => ?_)
          obtain ⟨hP1, hK1, hD1⟩ := hB
          rw [ht] at hP1
          obtain ⟨hP, hD⟩ := xjoin (W := [(a0, .inr (2, [.ref a1, .int v1, .int v2])), (a1, .inl (cT 2, 4096, .inr (.inl f0))), (a2, .inr (3, [.ref a3, .ref a4, .ref o13.2.2.1, .ref o13.2.2.2.2.1, .int o13.2.2.2.2.2])), (a3, .inl (cT 1, 2048, .inl o13.1)), (a4, .inl (cT 1, 2048, .inl o15)), (o13.2.2.1, .inl (cT 1, 2048, .inl o13.2.1)), (o13.2.2.2.2.1, .inl (cT 1, 2048, .inl o13.2.2.2.1)), (a7, .inr (2, [.ref a8, .int o27.2.1, .int o27.2.2])), (a8, .inl (cT 2, 4096, .inr (.inl o27.1)))]) hP hD [7, 8, 2, 3, 4, 5, 6, 0, 1] [] 0 rfl rfl (by decide) (by decide) hk1 hFc hP1 hD1
          generalize H1 = H at hP hS ⊢
          refine lv_iconst (v := 0) hx hb dK_apply_113 (by decide) ?_
          obtain rfl := Option.some.inj hf
          obtain ⟨hP9, hD9⟩ := xsub (wc := [(a0, .inr (2, [.ref a1, .int v1, .int v2])), (a1, .inl (cT 2, 4096, .inr (.inl f0))), (a2, .inr (3, [.ref a3, .ref a4, .ref o13.2.2.1, .ref o13.2.2.2.2.1, .int o13.2.2.2.2.2])), (a3, .inl (cT 1, 2048, .inl o13.1)), (a4, .inl (cT 1, 2048, .inl o15)), (o13.2.2.1, .inl (cT 1, 2048, .inl o13.2.1)), (o13.2.2.2.2.1, .inl (cT 1, 2048, .inl o13.2.2.2.1)), (a7, .inr (2, [.ref a8, .int o27.2.1, .int o27.2.2])), (a8, .inl (cT 2, 4096, .inr (.inl o27.1)))]) hP hD [0, 1, 2, 3, 4, 5, 6, 7, 8] rfl rfl (by decide)
          exact W.iret (v := (0 : Int32)) hx hb hr (fun t ht hW => ⟨⟨(0 : Int32), (), rfl, rfl, by rw [ht]; exact hP9, va_K.moved hW.alike hK, hD9⟩, hS.F ht⟩) hS.2.2 dK_apply_114
        rw [if_neg hc26] at hf
        refine lv_tableOut (tgt := 115) hx hb dK_apply_46 (by have e0 : x0.toInt ≠ 0 := xsw hc17 (by decide); have e1 : x0.toInt ≠ 1 := xsw hc20 (by decide); have e2 : x0.toInt ≠ 2 := xsw hc23 (by decide); have e3 : x0.toInt ≠ 3 := xsw hc26 (by decide); omega) (by decide) ?_
        refine lv_aload_n hx hb dK_apply_115 rfl (lv_at hl 1 rfl) ?_
        refine lv_aload_n hx hb dK_apply_116 rfl (lv_at hl 1 rfl) ?_
        refine lv_iconst (v := 0) hx hb dK_apply_117 (by decide) ?_
        obtain ⟨o29, hq30, hf⟩ := xbind hf
        obtain ⟨hPc, hDc, hFc⟩ := xcut (wc := [(a0, .inr (2, [.ref a1, .int v1, .int v2])), (a1, .inl (cT 2, 4096, .inr (.inl f0)))]) hP hD hS hA [7, 8] rfl rfl (by decide)
        refine va_calli (va_runV (C := "ValueBench$Row") (As := [.int 0]) (rest := [.ref a0]) ⟨hx, hb, hml, hown, htx⟩ (gR_length l hl9 D cT aK aV H.size n a0 a1 (0 : Int32) f0 v1 v2 o29 hq30) ⟨callB_of 1 htx (xw_goodC kw_2_191) rfl rfl rfl (htx _ kw_1_4) (htx _ kw_5_23) ⟨by decide, by decide, by decide +kernel⟩ ⟨Nat.le_of_ble_eq_true rfl, Nat.le_of_ble_eq_true rfl⟩, (htx _ kw_2_189), (htx _ kw_2_190)⟩ ⟨xPre_blind, va_recv hK hP (ci := 2) rfl (q0 := 7) rfl, (fun U hU hW => ⟨rfl, xPre_of hZ hS hFc hPc hDc hK U hU hW⟩)⟩ rfl rfl hl.1 rfl (lv_room (Nat.le_of_ble_eq_true rfl)) dK_apply_118 ⟨Nat.le_of_ble_eq_true rfl, Nat.le_of_ble_eq_true rfl⟩) hS (fun q _ h => hFc q h) hFc (fun r31 u9 t H1 locs ht hvm hr9 hB hz1 hk1 hS => ?_)
        obtain ⟨hP1, hK1, hD1⟩ := hB
        rw [ht] at hP1
        obtain ⟨hP, hD⟩ := xjoin (W := [(a7, .inr (2, [.ref a8, .int v11, .int v12])), (a8, .inl (cT 2, 4096, .inr (.inl f10))), (a2, .inr (3, [.ref a3, .ref a4, .ref o13.2.2.1, .ref o13.2.2.2.2.1, .int o13.2.2.2.2.2])), (a3, .inl (cT 1, 2048, .inl o13.1)), (a4, .inl (cT 1, 2048, .inl o15)), (o13.2.2.1, .inl (cT 1, 2048, .inl o13.2.1)), (o13.2.2.2.2.1, .inl (cT 1, 2048, .inl o13.2.2.2.1)), (a0, .inr (2, [.ref a1, .int v1, .int v2])), (a1, .inl (cT 2, 4096, .inr (.inl f0)))]) hP hD [7, 8] [0, 1, 2, 3, 4, 5, 6] 7 rfl rfl (by decide) (by decide) hk1 hFc hP1 hD1
        generalize H1 = H at hP hS ⊢
        rw [hr9]
        refine W.eq (g2 := F0 m 121 ls [.int o29, .ref a0]) rfl ?_
        refine lv_iconst (v := 1) hx hb dK_apply_121 (by decide) ?_
        refine lv_isub hx hb dK_apply_122 ?_
        refine lv_aload_n hx hb dK_apply_123 rfl (lv_at hl 3 rfl) ?_
        refine lv_aload hx hb dK_apply_124 (lv_at hl 4 rfl) ?_
        obtain ⟨o32, hq33, hf⟩ := xbind hf
        obtain ⟨hPc, hDc, hFc⟩ := xcut (wc := [(a0, .inr (2, [.ref a1, .int v1, .int v2])), (a1, .inl (cT 2, 4096, .inr (.inl f0))), (a2, .inr (3, [.ref a3, .ref a4, .ref o13.2.2.1, .ref o13.2.2.2.2.1, .int o13.2.2.2.2.2])), (a3, .inl (cT 1, 2048, .inl o13.1)), (a4, .inl (cT 1, 2048, .inl o15)), (o13.2.2.1, .inl (cT 1, 2048, .inl o13.2.1)), (o13.2.2.2.2.1, .inl (cT 1, 2048, .inl o13.2.2.2.1)), (a7, .inr (2, [.ref a8, .int v11, .int v12])), (a8, .inl (cT 2, 4096, .inr (.inl f10)))]) hP hD hS hA [7, 8, 2, 3, 4, 5, 6, 0, 1] rfl rfl (by decide)
        refine va_callv (va_runS (As := [.ref a0, .int (o29 - (1 : Int32)), .ref a2, .ref a7]) (rest := []) ⟨hx, hb, hml, hown, htx⟩ (gK_putTurnOrNull l hl9 D cT aK aV H.size n a0 a1 a2 a3 a4 a7 a8 (o29 - (1 : Int32)) f0 v1 v2 o13.1 o15 o13.2.2.1 o13.2.1 o13.2.2.2.2.1 o13.2.2.2.1 o13.2.2.2.2.2 f10 v11 v12 o32 hq33) ⟨callB_of 4 htx (xw_goodC kw_5_55) rfl rfl rfl (htx _ kw_1_28) (htx _ kw_5_53) ⟨by decide, by decide, by decide +kernel⟩ ⟨Nat.le_of_ble_eq_true rfl, Nat.le_of_ble_eq_true rfl⟩, htx _ kw_5_54⟩ ⟨xPre_blind, (fun U hU hW => ⟨rfl, xPre_of hZ hS hFc hPc hDc hK U hU hW⟩)⟩ rfl rfl hl.1 rfl (lv_room (Nat.le_of_ble_eq_true rfl)) dK_apply_126 ⟨Nat.le_of_ble_eq_true rfl, Nat.le_of_ble_eq_true rfl⟩) hS (fun q _ h => hFc q h) hFc (fun u9 t H1 locs ht hvm hr9 hB hz1 hk1 hS => ?_)
        obtain ⟨hP1, hK1, hD1⟩ := hB
        rw [ht] at hP1
        obtain ⟨hP, hD⟩ := xjoin (W := [(a0, .inr (2, [.ref a1, .int v1, .int v2])), (a1, .inl (cT 2, 4096, .inr (.inl f0))), (a2, .inr (3, [.ref a3, .ref a4, .ref o13.2.2.1, .ref o13.2.2.2.2.1, .int o13.2.2.2.2.2])), (a3, .inl (cT 1, 2048, .inl o13.1)), (a4, .inl (cT 1, 2048, .inl o15)), (o13.2.2.1, .inl (cT 1, 2048, .inl o13.2.1)), (o13.2.2.2.2.1, .inl (cT 1, 2048, .inl o13.2.2.2.1)), (a7, .inr (2, [.ref a8, .int o32.2.1, .int o32.2.2])), (a8, .inl (cT 2, 4096, .inr (.inl o32.1)))]) hP hD [7, 8, 2, 3, 4, 5, 6, 0, 1] [] 0 rfl rfl (by decide) (by decide) hk1 hFc hP1 hD1
        generalize H1 = H at hP hS ⊢
        refine lv_iconst (v := 0) hx hb dK_apply_129 (by decide) ?_
        obtain rfl := Option.some.inj hf
        obtain ⟨hP9, hD9⟩ := xsub (wc := [(a0, .inr (2, [.ref a1, .int v1, .int v2])), (a1, .inl (cT 2, 4096, .inr (.inl f0))), (a2, .inr (3, [.ref a3, .ref a4, .ref o13.2.2.1, .ref o13.2.2.2.2.1, .int o13.2.2.2.2.2])), (a3, .inl (cT 1, 2048, .inl o13.1)), (a4, .inl (cT 1, 2048, .inl o15)), (o13.2.2.1, .inl (cT 1, 2048, .inl o13.2.1)), (o13.2.2.2.2.1, .inl (cT 1, 2048, .inl o13.2.2.2.1)), (a7, .inr (2, [.ref a8, .int o32.2.1, .int o32.2.2])), (a8, .inl (cT 2, 4096, .inr (.inl o32.1)))]) hP hD [0, 1, 2, 3, 4, 5, 6, 7, 8] rfl rfl (by decide)
        exact W.iret (v := (0 : Int32)) hx hb hr (fun t ht hW => ⟨⟨(0 : Int32), (), rfl, rfl, by rw [ht]; exact hP9, va_K.moved hW.alike hK, hD9⟩, hS.F ht⟩) hS.2.2 dK_apply_130
      · rw [if_neg hc] at hf
        refine lv_iconst (v := 1) hx hb dK_apply_31 (by decide) ?_
        obtain rfl := Option.some.inj hf
        obtain ⟨hP9, hD9⟩ := xsub (wc := [(a0, .inr (2, [.ref a1, .int v1, .int v2])), (a1, .inl (cT 2, 4096, .inr (.inl f0))), (a2, .inr (3, [.ref a3, .ref a4, .ref p5, .ref p7, .int v9])), (a3, .inl (cT 1, 2048, .inl f3)), (a4, .inl (cT 1, 2048, .inl f4)), (p5, .inl (cT 1, 2048, .inl f6)), (p7, .inl (cT 1, 2048, .inl f8)), (a7, .inr (2, [.ref a8, .int v11, .int v12])), (a8, .inl (cT 2, 4096, .inr (.inl f10)))]) hP hD [7, 8, 0, 1, 2, 3, 4, 5, 6] rfl rfl (by decide)
        exact W.iret (v := (1 : Int32)) hx hb hr (fun t ht hW => ⟨⟨(1 : Int32), (), rfl, rfl, by rw [ht]; exact hP9, va_K.moved hW.alike hK, hD9⟩, hS.F ht⟩) hS.2.2 dK_apply_32
