set_option maxHeartbeats 400000000 in
set_option maxRecDepth 100000 in
theorem gM_end (l : Launch) (hl9 : l.stackTraces = false) (D : va_G) (cT : Nat → ClassId) (aK aV : Nat → Nat) (sz n : Nat) (aM : Nat) (ad rd gd vad : Nat → Nat) (st : xS) (x0 : Int32) (out : Int32 × xS) (hf : fM_end n st x0 = some out) : xMet l yM_end wyM_end 1 0 0 21 D cT aK aV sz [.ref aM, .int x0] (xMw cT aM ad rd gd vad st []) (fun A => va_Qi (fun (r : Int32) (_ : Unit) => r = out.1 ∧ xct st ≤ xct out.2) (fun _ t => xB D xcl cT A (xMw cT aM ad rd gd vad out.2 []) t) A) := by
  refine Met.ofW (cc := prog_13_method_83_code) (maxL := 2) (ret := (some .int)) (by decide) rfl ?_
  intro p e s m args below meth c s₁ B hml hv
  obtain ⟨rfl, hsz, hZ, hP, hK, hD0⟩ := hv
  have hx := B.exec
  have hb := B.bytes
  have hr := B.returns
  have hts := atoms_spec (ws := wyM_end) B.pre
  have htx := fun w h => hts w (List.mem_cons_of_mem _ h)
  have hown : s.vm.findClass "ValueBenchModel" = some m.cls := findClass_of_methodNamed B.named
  have hlocks := B.notSynchronized
  subst hsz
  have hD := hD0.self (sz := s.heap.size)
  generalize hAe : va_A (xMw cT aM ad rd gd vad st []) s.heap.size = A at hD hZ ⊢
  have hA : ∀ q : Nat, s.heap.size ≤ q → A q := fun q h => by rw [← hAe]; exact Or.inr h
  have hS : va_S A s.heap s.heap [] := va_S.rf
  have hl := lv_entry ([.ref aM, .int x0]) (n := 2) (by simp [lg_sl, xvcat, xrscat, xcI, xcL, xcR, xcN])
  rw [show lv_args 0 [.ref aM, .int x0] = [(0, .ref aM), (1, .int x0)] from by simp [lv_args, xvcat, xrscat, xcI, xcL, xcR, xcN]] at hl
  rw [lg_entry_eq]
  generalize (lg_sl ([.ref aM, .int x0]) ++ List.replicate (2 - (lg_sl ([.ref aM, .int x0])).length) Slot.unset).toArray = ls at hl ⊢
  have hl : lv_has ls 2 [(0, .ref aM), (1, .int x0)] := hl
  have hN : xct st ≤ xct st := Nat.le_refl _
  unfold fM_end at hf
  refine lv_aload_n hx hb dM_end_0 rfl (lv_at hl 0 rfl) ?_
  refine lv_iconst (v := 0) hx hb dM_end_1 (by decide) ?_
  refine xm_put (v := .int 0) (W' := (xMw cT aM ad rd gd vad (xsI st 0 0) [])) (ty := .int) hx hb htx hown hK hP hD hS 0 (by decide) rfl (htx _ kw_5_87) rfl rfl (by decide +kernel) rfl rfl dM_end_2 (fun H locs hP hD hS => ?_)
  refine lv_iload_n hx hb dM_end_5 rfl (lv_at hl 1 rfl) ?_
  refine lv_if_lt (tgt := 17) hx hb dM_end_6 (by decide) (fun hc => ?_) (fun hc => ?_)
  · rw [if_pos hc] at hf
    refine lv_aload_n hx hb dM_end_17 rfl (lv_at hl 0 rfl) ?_
    refine lv_iconst (v := 1) hx hb dM_end_18 (by decide) ?_
    obtain ⟨o1, hq2, hf⟩ := xbind hf
    have hFc := xm_free hD hS hA
    refine va_calli (va_runV (C := "ValueBenchModel") (As := [.int 1]) (rest := []) ⟨hx, hb, hml, hown, htx⟩ (gM_fail l hl9 D cT aK aV H.size n aM ad rd gd vad (xsI st 0 0) (1 : Int32) o1 hq2) ⟨callB_of 1 htx (xw_goodC kw_5_195) rfl rfl rfl (htx _ kw_1_5) (htx _ kw_5_192) ⟨by decide, by decide, by decide +kernel⟩ ⟨Nat.le_of_ble_eq_true rfl, Nat.le_of_ble_eq_true rfl⟩, (htx _ kw_5_194), (htx _ kp_M_fail)⟩ ⟨xPre_blind, va_recv hK hP (ci := 5) rfl (q0 := 0) rfl, (fun U hU hW => ⟨rfl, xPre_of hZ hS hFc hP hD hK U hU hW⟩)⟩ rfl rfl hl.1 rfl (xm_room (Nat.le_of_ble_eq_true rfl)) dM_end_19 ⟨Nat.le_of_ble_eq_true rfl, Nat.le_of_ble_eq_true rfl⟩) hS (fun q _ h => hFc q h) hFc (fun r3 u9 t H1 locs ht hvm hr9 hB hz1 hk1 hS => ?_)
    obtain ⟨hP1, hK1, hD1⟩ := hB
    rw [ht] at hP1
    obtain ⟨hr9, hn4⟩ := hr9
    have hN : xct st ≤ xct o1.2 := Nat.le_trans hN hn4
    have hP : va_P D xcl (xMw cT aM ad rd gd vad o1.2 []) H1 := hP1
    have hD : va_D A (xMw cT aM ad rd gd vad o1.2 []) := hD1.weaken (fun k q _ h => hFc q.1 h)
    generalize H1 = H at hP hS ⊢
    rw [hr9]
    refine W.eq (g2 := F0 m 22 ls [.int o1.1]) (by first | rfl | (skip; rfl)) ?_
    obtain rfl := Option.some.inj hf
    exact W.iret (v := o1.1) hx hb hr (fun t ht hW => ⟨⟨o1.1, (), rfl, ⟨rfl, hN⟩, by rw [ht]; exact hP, va_K.moved hW.alike hK, hD⟩, hS.F ht⟩) hS.2.2 dM_end_22
  · rw [if_neg hc] at hf
    refine lv_iload_n hx hb dM_end_9 rfl (lv_at hl 1 rfl) ?_
    refine lv_aload_n hx hb dM_end_10 rfl (lv_at hl 0 rfl) ?_
    refine xm_get (v := .int (xsi st 27)) hx hb htx hown hK hP 27 (by decide) rfl (htx _ kw_5_114) rfl dM_end_11 ?_
    refine lv_icmp_le (tgt := 23) hx hb dM_end_14 (by decide) (fun hc => ?_) (fun hc => ?_)
    · rw [if_pos hc] at hf
      refine lv_aload_n hx hb dM_end_23 rfl (lv_at hl 0 rfl) ?_
      refine lv_iload_n hx hb dM_end_24 rfl (lv_at hl 1 rfl) ?_
      refine xm_put (v := .int x0) (W' := (xMw cT aM ad rd gd vad (xsI (xsI st 0 0) 27 x0) [])) (ty := .int) hx hb htx hown hK hP hD hS 27 (by decide) rfl (htx _ kw_5_114) rfl rfl (by decide +kernel) rfl rfl dM_end_25 (fun H locs hP hD hS => ?_)
      refine lv_iload_n hx hb dM_end_28 rfl (lv_at hl 1 rfl) ?_
      obtain rfl := Option.some.inj hf
      exact W.iret (v := x0) hx hb hr (fun t ht hW => ⟨⟨x0, (), rfl, ⟨rfl, hN⟩, by rw [ht]; exact hP, va_K.moved hW.alike hK, hD⟩, hS.F ht⟩) hS.2.2 dM_end_29
    · rw [if_neg hc] at hf
      refine lv_aload_n hx hb dM_end_17 rfl (lv_at hl 0 rfl) ?_
      refine lv_iconst (v := 1) hx hb dM_end_18 (by decide) ?_
      obtain ⟨o1, hq2, hf⟩ := xbind hf
      have hFc := xm_free hD hS hA
      refine va_calli (va_runV (C := "ValueBenchModel") (As := [.int 1]) (rest := []) ⟨hx, hb, hml, hown, htx⟩ (gM_fail l hl9 D cT aK aV H.size n aM ad rd gd vad (xsI st 0 0) (1 : Int32) o1 hq2) ⟨callB_of 1 htx (xw_goodC kw_5_195) rfl rfl rfl (htx _ kw_1_5) (htx _ kw_5_192) ⟨by decide, by decide, by decide +kernel⟩ ⟨Nat.le_of_ble_eq_true rfl, Nat.le_of_ble_eq_true rfl⟩, (htx _ kw_5_194), (htx _ kp_M_fail)⟩ ⟨xPre_blind, va_recv hK hP (ci := 5) rfl (q0 := 0) rfl, (fun U hU hW => ⟨rfl, xPre_of hZ hS hFc hP hD hK U hU hW⟩)⟩ rfl rfl hl.1 rfl (xm_room (Nat.le_of_ble_eq_true rfl)) dM_end_19 ⟨Nat.le_of_ble_eq_true rfl, Nat.le_of_ble_eq_true rfl⟩) hS (fun q _ h => hFc q h) hFc (fun r3 u9 t H1 locs ht hvm hr9 hB hz1 hk1 hS => ?_)
      obtain ⟨hP1, hK1, hD1⟩ := hB
      rw [ht] at hP1
      obtain ⟨hr9, hn4⟩ := hr9
      have hN : xct st ≤ xct o1.2 := Nat.le_trans hN hn4
      have hP : va_P D xcl (xMw cT aM ad rd gd vad o1.2 []) H1 := hP1
      have hD : va_D A (xMw cT aM ad rd gd vad o1.2 []) := hD1.weaken (fun k q _ h => hFc q.1 h)
      generalize H1 = H at hP hS ⊢
      rw [hr9]
      refine W.eq (g2 := F0 m 22 ls [.int o1.1]) (by first | rfl | (skip; rfl)) ?_
      obtain rfl := Option.some.inj hf
      exact W.iret (v := o1.1) hx hb hr (fun t ht hW => ⟨⟨o1.1, (), rfl, ⟨rfl, hN⟩, by rw [ht]; exact hP, va_K.moved hW.alike hK, hD⟩, hS.F ht⟩) hS.2.2 dM_end_22
set_option maxHeartbeats 400000000 in
set_option maxRecDepth 100000 in
theorem gM_feed (l : Launch) (hl9 : l.stackTraces = false) (D : va_G) (cT : Nat → ClassId) (aK aV : Nat → Nat) (sz n : Nat) (aM : Nat) (ad rd gd vad : Nat → Nat) (st : xS) (x0 : Int32) (x1 : Int32) (x2 : Int32) (x3 : Int32) (x4 : Int32) (out : Int32 × xS) (hf : fM_feed n st x0 x1 x2 x3 x4 = some out) : xMet l yM_feed wyM_feed 1 0 0 21 D cT aK aV sz [.ref aM, .int x0, .int x1, .int x2, .int x3, .int x4] (xMw cT aM ad rd gd vad st []) (fun A => va_Qi (fun (r : Int32) (_ : Unit) => r = out.1 ∧ xct st ≤ xct out.2) (fun _ t => xB D xcl cT A (xMw cT aM ad rd gd vad out.2 []) t) A) := by
  refine Met.ofW (cc := prog_13_method_82_code) (maxL := 8) (ret := (some .int)) (by decide) rfl ?_
  intro p e s m args below meth c s₁ B hml hv
  obtain ⟨rfl, hsz, hZ, hP, hK, hD0⟩ := hv
  have hx := B.exec
  have hb := B.bytes
  have hr := B.returns
  have hts := atoms_spec (ws := wyM_feed) B.pre
  have htx := fun w h => hts w (List.mem_cons_of_mem _ h)
  have hown : s.vm.findClass "ValueBenchModel" = some m.cls := findClass_of_methodNamed B.named
  have hlocks := B.notSynchronized
  subst hsz
  have hD := hD0.self (sz := s.heap.size)
  generalize hAe : va_A (xMw cT aM ad rd gd vad st []) s.heap.size = A at hD hZ ⊢
  have hA : ∀ q : Nat, s.heap.size ≤ q → A q := fun q h => by rw [← hAe]; exact Or.inr h
  have hS : va_S A s.heap s.heap [] := va_S.rf
  have hl := lv_entry ([.ref aM, .int x0, .int x1, .int x2, .int x3, .int x4]) (n := 8) (by simp [lg_sl, xvcat, xrscat, xcI, xcL, xcR, xcN])
  rw [show lv_args 0 [.ref aM, .int x0, .int x1, .int x2, .int x3, .int x4] = [(0, .ref aM), (1, .int x0), (2, .int x1), (3, .int x2), (4, .int x3), (5, .int x4)] from by simp [lv_args, xvcat, xrscat, xcI, xcL, xcR, xcN]] at hl
  rw [lg_entry_eq]
  generalize (lg_sl ([.ref aM, .int x0, .int x1, .int x2, .int x3, .int x4]) ++ List.replicate (8 - (lg_sl ([.ref aM, .int x0, .int x1, .int x2, .int x3, .int x4])).length) Slot.unset).toArray = ls at hl ⊢
  have hl : lv_has ls 8 [(0, .ref aM), (1, .int x0), (2, .int x1), (3, .int x2), (4, .int x3), (5, .int x4)] := hl
  have hN : xct st ≤ xct st := Nat.le_refl _
  unfold fM_feed at hf
  refine xloopM (σ := Nat × Int32 × Int32 × Int32 × Int32 × Int32 × Int32 × xS) (fun n x H locs ls => (x.1 = 1 ∧ fM_feed_b n x.1 x.2.1 x.2.2.1 x.2.2.2.1 x.2.2.2.2.1 x.2.2.2.2.2.1 x.2.2.2.2.2.2.1 x.2.2.2.2.2.2.2 = some out ∧ va_P D xcl (xMw cT aM ad rd gd vad x.2.2.2.2.2.2.2 []) H ∧ va_D A (xMw cT aM ad rd gd vad x.2.2.2.2.2.2.2 []) ∧ va_S A s.heap H locs ∧ lv_has ls 8 [(6, .int x.2.1), (0, .ref aM), (1, .int x.2.2.1), (2, .int x.2.2.2.1), (3, .int x.2.2.2.2.1), (4, .int x.2.2.2.2.2.1), (5, .int x.2.2.2.2.2.2.1)] ∧ xct st ≤ xct x.2.2.2.2.2.2.2)) (fun x => 27) (fun x => 0) (fun x => 0) (fun x H locs ls h => by (exact absurd h.2.1 (by rw [fM_feed_b]; exact fun h => nomatch h))) (fun n ih x H locs ls hv => ?_) (fun key => ?_)
  · obtain ⟨lb, y6, y1, y2, y3, y4, y5, ws9⟩ := x
    rcases hv with ⟨hj, hf, hP, hD, hS, hl, hN⟩
    subst hj
    have hf : fM_feed_b (n + 1) 1 y6 y1 y2 y3 y4 y5 ws9 = some out := hf
    rw [fM_feed_b] at hf
    obtain ⟨hP, hD⟩ : xPD D xcl A (xMw cT aM ad rd gd vad ws9 []) H := ⟨hP, hD⟩
    have hl : lv_has ls 8 [(6, .int y6), (0, .ref aM), (1, .int y1), (2, .int y2), (3, .int y3), (4, .int y4), (5, .int y5)] := hl
    refine W.eq (g2 := F0 m 27 ls []) rfl ?_
    refine lv_iload hx hb dM_feed_27 (lv_at hl 0 rfl) ?_
    refine lv_bipush (v := 20) hx hb dM_feed_29 (by decide) ?_
    refine lv_icmp_ge (tgt := 121) hx hb dM_feed_31 (by decide) (fun hc => ?_) (fun hc => ?_)
    · rw [if_pos hc] at hf
      refine lv_aload_n hx hb dM_feed_121 rfl (lv_at hl 1 rfl) ?_
      refine xm_get (v := .int (xsi ws9 27)) hx hb htx hown hK hP 27 (by decide) rfl (htx _ kw_5_114) rfl dM_feed_122 ?_
      obtain rfl := Option.some.inj hf
      exact W.iret (v := (xsi ws9 27)) hx hb hr (fun t ht hW => ⟨⟨(xsi ws9 27), (), rfl, ⟨rfl, hN⟩, by rw [ht]; exact hP, va_K.moved hW.alike hK, hD⟩, hS.F ht⟩) hS.2.2 dM_feed_125
    · rw [if_neg hc] at hf
      refine lv_iload hx hb dM_feed_34 (lv_at hl 0 rfl) ?_
      refine lv_iconst (v := 4) hx hb dM_feed_36 (by decide) ?_
      refine lv_icmp_ge (tgt := 44) hx hb dM_feed_37 (by decide) (fun hc => ?_) (fun hc => ?_)
      · rw [if_pos hc] at hf
        refine lv_iload hx hb dM_feed_44 (lv_at hl 0 rfl) ?_
        refine lv_bipush (v := 8) hx hb dM_feed_46 (by decide) ?_
        refine lv_icmp_ge (tgt := 55) hx hb dM_feed_48 (by decide) (fun hc => ?_) (fun hc => ?_)
        · rw [if_pos hc] at hf
          refine lv_iload hx hb dM_feed_55 (lv_at hl 0 rfl) ?_
          refine lv_bipush (v := 12) hx hb dM_feed_57 (by decide) ?_
          refine lv_icmp_ge (tgt := 66) hx hb dM_feed_59 (by decide) (fun hc => ?_) (fun hc => ?_)
          · rw [if_pos hc] at hf
            refine lv_iload hx hb dM_feed_66 (lv_at hl 0 rfl) ?_
            refine lv_bipush (v := 16) hx hb dM_feed_68 (by decide) ?_
            refine lv_icmp_ge (tgt := 78) hx hb dM_feed_70 (by decide) (fun hc => ?_) (fun hc => ?_)
            · rw [if_pos hc] at hf
              refine lv_iload hx hb dM_feed_78 (lv_at hl 6 rfl) ?_
              refine lv_istore (lv' := [(7, .int y5), (6, .int y6), (0, .ref aM), (1, .int y1), (2, .int y2), (3, .int y3), (4, .int y4), (5, .int y5)]) hx hb dM_feed_80 hl (by decide) rfl (fun ls hl => ?_)
              refine lv_aload_n hx hb dM_feed_82 rfl (lv_at hl 2 rfl) ?_
              refine xm_get (v := .ref (rd 8)) hx hb htx hown hK hP 26 (by decide) rfl (htx _ kw_5_113) rfl dM_feed_83 ?_
              refine lv_aload_n hx hb dM_feed_86 rfl (lv_at hl 2 rfl) ?_
              refine xm_get (v := .int (xsi ws9 27)) hx hb htx hown hK hP 27 (by decide) rfl (htx _ kw_5_114) rfl dM_feed_87 ?_
              refine lv_iload hx hb dM_feed_90 (lv_at hl 0 rfl) ?_
              refine lv_bipush (v := 24) hx hb dM_feed_92 (by decide) ?_
              refine lv_bipush (v := 8) hx hb dM_feed_94 (by decide) ?_
              refine lv_iload hx hb dM_feed_96 (lv_at hl 1 rfl) ?_
              refine lv_iconst (v := 4) hx hb dM_feed_98 (by decide) ?_
              refine lv_irem hx hb dM_feed_99 (by decide) ?_
              refine lv_imul hx hb dM_feed_100 ?_
              refine lv_isub hx hb dM_feed_101 ?_
              refine lv_ishr hx hb dM_feed_102 ?_
              refine lv_i2b hx hb dM_feed_103 rfl ?_
              obtain ⟨hg1, hf⟩ := xifn hf
              refine va_bast hx hb hK hP hD hS 21 0 rfl rfl hg1 dM_feed_104 (fun H locs hP hD hS => ?_)
              obtain ⟨hP, hD⟩ : xPD D xcl A (xMw cT aM ad rd gd vad (xsB ws9 40 ((xsi ws9 27).toNatClampNeg) (vp_nar .byte (y5 >>> (((24 : Int32) - ((8 : Int32) * (y6 - y6 / (4 : Int32) * (4 : Int32)))) &&& 31)).toInt8.toInt32)) []) H := ⟨hP, hD⟩
              refine lv_aload_n hx hb dM_feed_105 rfl (lv_at hl 2 rfl) ?_
              refine lv_dup hx hb dM_feed_106 rfl ?_
              refine xm_get (v := .int (xsi ws9 27)) hx hb htx hown hK hP 27 (by decide) rfl (htx _ kw_5_114) rfl dM_feed_107 ?_
              refine lv_iconst (v := 1) hx hb dM_feed_110 (by decide) ?_
              refine lv_iadd hx hb dM_feed_111 ?_
              refine xm_put (v := .int ((xsi ws9 27) + (1 : Int32))) (W' := (xMw cT aM ad rd gd vad (xsI (xsB ws9 40 ((xsi ws9 27).toNatClampNeg) (vp_nar .byte (y5 >>> (((24 : Int32) - ((8 : Int32) * (y6 - y6 / (4 : Int32) * (4 : Int32)))) &&& 31)).toInt8.toInt32)) 27 ((xsi ws9 27) + (1 : Int32))) [])) (ty := .int) hx hb htx hown hK hP hD hS 27 (by decide) rfl (htx _ kw_5_114) rfl rfl (by decide +kernel) rfl rfl dM_feed_112 (fun H locs hP hD hS => ?_)
              refine lv_iinc (v := (y6 + 1)) (lv' := [(6, .int (y6 + 1)), (7, .int y5), (0, .ref aM), (1, .int y1), (2, .int y2), (3, .int y3), (4, .int y4), (5, .int y5)]) hx hb dM_feed_115 hl (k := 1) rfl rfl (by decide) rfl (fun ls hl => ?_)
              refine lv_goto (tgt := 27) hx hb dM_feed_118 (by decide) ?_
              exact ih (1, (y6 + 1), y1, y2, y3, y4, y5, (xsI (xsB ws9 40 ((xsi ws9 27).toNatClampNeg) (vp_nar .byte (y5 >>> (((24 : Int32) - ((8 : Int32) * (y6 - y6 / (4 : Int32) * (4 : Int32)))) &&& 31)).toInt8.toInt32)) 27 ((xsi ws9 27) + (1 : Int32)))) _ _ ls (⟨rfl, hf, hP, hD, hS, lv_sub hl [0, 2, 3, 4, 5, 6, 7] rfl, hN⟩)
            · rw [if_neg hc] at hf
              refine lv_iload hx hb dM_feed_73 (lv_at hl 5 rfl) ?_
              refine lv_goto (tgt := 80) hx hb dM_feed_75 (by decide) ?_
              refine lv_istore (lv' := [(7, .int y4), (6, .int y6), (0, .ref aM), (1, .int y1), (2, .int y2), (3, .int y3), (4, .int y4), (5, .int y5)]) hx hb dM_feed_80 hl (by decide) rfl (fun ls hl => ?_)
              refine lv_aload_n hx hb dM_feed_82 rfl (lv_at hl 2 rfl) ?_
              refine xm_get (v := .ref (rd 8)) hx hb htx hown hK hP 26 (by decide) rfl (htx _ kw_5_113) rfl dM_feed_83 ?_
              refine lv_aload_n hx hb dM_feed_86 rfl (lv_at hl 2 rfl) ?_
              refine xm_get (v := .int (xsi ws9 27)) hx hb htx hown hK hP 27 (by decide) rfl (htx _ kw_5_114) rfl dM_feed_87 ?_
              refine lv_iload hx hb dM_feed_90 (lv_at hl 0 rfl) ?_
              refine lv_bipush (v := 24) hx hb dM_feed_92 (by decide) ?_
              refine lv_bipush (v := 8) hx hb dM_feed_94 (by decide) ?_
              refine lv_iload hx hb dM_feed_96 (lv_at hl 1 rfl) ?_
              refine lv_iconst (v := 4) hx hb dM_feed_98 (by decide) ?_
              refine lv_irem hx hb dM_feed_99 (by decide) ?_
              refine lv_imul hx hb dM_feed_100 ?_
              refine lv_isub hx hb dM_feed_101 ?_
              refine lv_ishr hx hb dM_feed_102 ?_
              refine lv_i2b hx hb dM_feed_103 rfl ?_
              obtain ⟨hg1, hf⟩ := xifn hf
              refine va_bast hx hb hK hP hD hS 21 0 rfl rfl hg1 dM_feed_104 (fun H locs hP hD hS => ?_)
              obtain ⟨hP, hD⟩ : xPD D xcl A (xMw cT aM ad rd gd vad (xsB ws9 40 ((xsi ws9 27).toNatClampNeg) (vp_nar .byte (y4 >>> (((24 : Int32) - ((8 : Int32) * (y6 - y6 / (4 : Int32) * (4 : Int32)))) &&& 31)).toInt8.toInt32)) []) H := ⟨hP, hD⟩
              refine lv_aload_n hx hb dM_feed_105 rfl (lv_at hl 2 rfl) ?_
              refine lv_dup hx hb dM_feed_106 rfl ?_
              refine xm_get (v := .int (xsi ws9 27)) hx hb htx hown hK hP 27 (by decide) rfl (htx _ kw_5_114) rfl dM_feed_107 ?_
              refine lv_iconst (v := 1) hx hb dM_feed_110 (by decide) ?_
              refine lv_iadd hx hb dM_feed_111 ?_
              refine xm_put (v := .int ((xsi ws9 27) + (1 : Int32))) (W' := (xMw cT aM ad rd gd vad (xsI (xsB ws9 40 ((xsi ws9 27).toNatClampNeg) (vp_nar .byte (y4 >>> (((24 : Int32) - ((8 : Int32) * (y6 - y6 / (4 : Int32) * (4 : Int32)))) &&& 31)).toInt8.toInt32)) 27 ((xsi ws9 27) + (1 : Int32))) [])) (ty := .int) hx hb htx hown hK hP hD hS 27 (by decide) rfl (htx _ kw_5_114) rfl rfl (by decide +kernel) rfl rfl dM_feed_112 (fun H locs hP hD hS => ?_)
              refine lv_iinc (v := (y6 + 1)) (lv' := [(6, .int (y6 + 1)), (7, .int y4), (0, .ref aM), (1, .int y1), (2, .int y2), (3, .int y3), (4, .int y4), (5, .int y5)]) hx hb dM_feed_115 hl (k := 1) rfl rfl (by decide) rfl (fun ls hl => ?_)
              refine lv_goto (tgt := 27) hx hb dM_feed_118 (by decide) ?_
              exact ih (1, (y6 + 1), y1, y2, y3, y4, y5, (xsI (xsB ws9 40 ((xsi ws9 27).toNatClampNeg) (vp_nar .byte (y4 >>> (((24 : Int32) - ((8 : Int32) * (y6 - y6 / (4 : Int32) * (4 : Int32)))) &&& 31)).toInt8.toInt32)) 27 ((xsi ws9 27) + (1 : Int32)))) _ _ ls (⟨rfl, hf, hP, hD, hS, lv_sub hl [0, 2, 3, 4, 5, 6, 7] rfl, hN⟩)
          · rw [if_neg hc] at hf
            refine lv_iload_n hx hb dM_feed_62 rfl (lv_at hl 4 rfl) ?_
            refine lv_goto (tgt := 80) hx hb dM_feed_63 (by decide) ?_
            refine lv_istore (lv' := [(7, .int y3), (6, .int y6), (0, .ref aM), (1, .int y1), (2, .int y2), (3, .int y3), (4, .int y4), (5, .int y5)]) hx hb dM_feed_80 hl (by decide) rfl (fun ls hl => ?_)
            refine lv_aload_n hx hb dM_feed_82 rfl (lv_at hl 2 rfl) ?_
            refine xm_get (v := .ref (rd 8)) hx hb htx hown hK hP 26 (by decide) rfl (htx _ kw_5_113) rfl dM_feed_83 ?_
            refine lv_aload_n hx hb dM_feed_86 rfl (lv_at hl 2 rfl) ?_
            refine xm_get (v := .int (xsi ws9 27)) hx hb htx hown hK hP 27 (by decide) rfl (htx _ kw_5_114) rfl dM_feed_87 ?_
            refine lv_iload hx hb dM_feed_90 (lv_at hl 0 rfl) ?_
            refine lv_bipush (v := 24) hx hb dM_feed_92 (by decide) ?_
            refine lv_bipush (v := 8) hx hb dM_feed_94 (by decide) ?_
            refine lv_iload hx hb dM_feed_96 (lv_at hl 1 rfl) ?_
            refine lv_iconst (v := 4) hx hb dM_feed_98 (by decide) ?_
            refine lv_irem hx hb dM_feed_99 (by decide) ?_
            refine lv_imul hx hb dM_feed_100 ?_
            refine lv_isub hx hb dM_feed_101 ?_
            refine lv_ishr hx hb dM_feed_102 ?_
            refine lv_i2b hx hb dM_feed_103 rfl ?_
            obtain ⟨hg1, hf⟩ := xifn hf
            refine va_bast hx hb hK hP hD hS 21 0 rfl rfl hg1 dM_feed_104 (fun H locs hP hD hS => ?_)
            obtain ⟨hP, hD⟩ : xPD D xcl A (xMw cT aM ad rd gd vad (xsB ws9 40 ((xsi ws9 27).toNatClampNeg) (vp_nar .byte (y3 >>> (((24 : Int32) - ((8 : Int32) * (y6 - y6 / (4 : Int32) * (4 : Int32)))) &&& 31)).toInt8.toInt32)) []) H := ⟨hP, hD⟩
            refine lv_aload_n hx hb dM_feed_105 rfl (lv_at hl 2 rfl) ?_
            refine lv_dup hx hb dM_feed_106 rfl ?_
            refine xm_get (v := .int (xsi ws9 27)) hx hb htx hown hK hP 27 (by decide) rfl (htx _ kw_5_114) rfl dM_feed_107 ?_
            refine lv_iconst (v := 1) hx hb dM_feed_110 (by decide) ?_
            refine lv_iadd hx hb dM_feed_111 ?_
            refine xm_put (v := .int ((xsi ws9 27) + (1 : Int32))) (W' := (xMw cT aM ad rd gd vad (xsI (xsB ws9 40 ((xsi ws9 27).toNatClampNeg) (vp_nar .byte (y3 >>> (((24 : Int32) - ((8 : Int32) * (y6 - y6 / (4 : Int32) * (4 : Int32)))) &&& 31)).toInt8.toInt32)) 27 ((xsi ws9 27) + (1 : Int32))) [])) (ty := .int) hx hb htx hown hK hP hD hS 27 (by decide) rfl (htx _ kw_5_114) rfl rfl (by decide +kernel) rfl rfl dM_feed_112 (fun H locs hP hD hS => ?_)
            refine lv_iinc (v := (y6 + 1)) (lv' := [(6, .int (y6 + 1)), (7, .int y3), (0, .ref aM), (1, .int y1), (2, .int y2), (3, .int y3), (4, .int y4), (5, .int y5)]) hx hb dM_feed_115 hl (k := 1) rfl rfl (by decide) rfl (fun ls hl => ?_)
            refine lv_goto (tgt := 27) hx hb dM_feed_118 (by decide) ?_
            exact ih (1, (y6 + 1), y1, y2, y3, y4, y5, (xsI (xsB ws9 40 ((xsi ws9 27).toNatClampNeg) (vp_nar .byte (y3 >>> (((24 : Int32) - ((8 : Int32) * (y6 - y6 / (4 : Int32) * (4 : Int32)))) &&& 31)).toInt8.toInt32)) 27 ((xsi ws9 27) + (1 : Int32)))) _ _ ls (⟨rfl, hf, hP, hD, hS, lv_sub hl [0, 2, 3, 4, 5, 6, 7] rfl, hN⟩)
        · rw [if_neg hc] at hf
          refine lv_iload_n hx hb dM_feed_51 rfl (lv_at hl 3 rfl) ?_
          refine lv_goto (tgt := 80) hx hb dM_feed_52 (by decide) ?_
          refine lv_istore (lv' := [(7, .int y2), (6, .int y6), (0, .ref aM), (1, .int y1), (2, .int y2), (3, .int y3), (4, .int y4), (5, .int y5)]) hx hb dM_feed_80 hl (by decide) rfl (fun ls hl => ?_)
          refine lv_aload_n hx hb dM_feed_82 rfl (lv_at hl 2 rfl) ?_
          refine xm_get (v := .ref (rd 8)) hx hb htx hown hK hP 26 (by decide) rfl (htx _ kw_5_113) rfl dM_feed_83 ?_
          refine lv_aload_n hx hb dM_feed_86 rfl (lv_at hl 2 rfl) ?_
          refine xm_get (v := .int (xsi ws9 27)) hx hb htx hown hK hP 27 (by decide) rfl (htx _ kw_5_114) rfl dM_feed_87 ?_
          refine lv_iload hx hb dM_feed_90 (lv_at hl 0 rfl) ?_
          refine lv_bipush (v := 24) hx hb dM_feed_92 (by decide) ?_
          refine lv_bipush (v := 8) hx hb dM_feed_94 (by decide) ?_
          refine lv_iload hx hb dM_feed_96 (lv_at hl 1 rfl) ?_
          refine lv_iconst (v := 4) hx hb dM_feed_98 (by decide) ?_
          refine lv_irem hx hb dM_feed_99 (by decide) ?_
          refine lv_imul hx hb dM_feed_100 ?_
          refine lv_isub hx hb dM_feed_101 ?_
          refine lv_ishr hx hb dM_feed_102 ?_
          refine lv_i2b hx hb dM_feed_103 rfl ?_
          obtain ⟨hg1, hf⟩ := xifn hf
          refine va_bast hx hb hK hP hD hS 21 0 rfl rfl hg1 dM_feed_104 (fun H locs hP hD hS => ?_)
          obtain ⟨hP, hD⟩ : xPD D xcl A (xMw cT aM ad rd gd vad (xsB ws9 40 ((xsi ws9 27).toNatClampNeg) (vp_nar .byte (y2 >>> (((24 : Int32) - ((8 : Int32) * (y6 - y6 / (4 : Int32) * (4 : Int32)))) &&& 31)).toInt8.toInt32)) []) H := ⟨hP, hD⟩
          refine lv_aload_n hx hb dM_feed_105 rfl (lv_at hl 2 rfl) ?_
          refine lv_dup hx hb dM_feed_106 rfl ?_
          refine xm_get (v := .int (xsi ws9 27)) hx hb htx hown hK hP 27 (by decide) rfl (htx _ kw_5_114) rfl dM_feed_107 ?_
          refine lv_iconst (v := 1) hx hb dM_feed_110 (by decide) ?_
          refine lv_iadd hx hb dM_feed_111 ?_
          refine xm_put (v := .int ((xsi ws9 27) + (1 : Int32))) (W' := (xMw cT aM ad rd gd vad (xsI (xsB ws9 40 ((xsi ws9 27).toNatClampNeg) (vp_nar .byte (y2 >>> (((24 : Int32) - ((8 : Int32) * (y6 - y6 / (4 : Int32) * (4 : Int32)))) &&& 31)).toInt8.toInt32)) 27 ((xsi ws9 27) + (1 : Int32))) [])) (ty := .int) hx hb htx hown hK hP hD hS 27 (by decide) rfl (htx _ kw_5_114) rfl rfl (by decide +kernel) rfl rfl dM_feed_112 (fun H locs hP hD hS => ?_)
          refine lv_iinc (v := (y6 + 1)) (lv' := [(6, .int (y6 + 1)), (7, .int y2), (0, .ref aM), (1, .int y1), (2, .int y2), (3, .int y3), (4, .int y4), (5, .int y5)]) hx hb dM_feed_115 hl (k := 1) rfl rfl (by decide) rfl (fun ls hl => ?_)
          refine lv_goto (tgt := 27) hx hb dM_feed_118 (by decide) ?_
          exact ih (1, (y6 + 1), y1, y2, y3, y4, y5, (xsI (xsB ws9 40 ((xsi ws9 27).toNatClampNeg) (vp_nar .byte (y2 >>> (((24 : Int32) - ((8 : Int32) * (y6 - y6 / (4 : Int32) * (4 : Int32)))) &&& 31)).toInt8.toInt32)) 27 ((xsi ws9 27) + (1 : Int32)))) _ _ ls (⟨rfl, hf, hP, hD, hS, lv_sub hl [0, 2, 3, 4, 5, 6, 7] rfl, hN⟩)
      · rw [if_neg hc] at hf
        refine lv_iload_n hx hb dM_feed_40 rfl (lv_at hl 2 rfl) ?_
        refine lv_goto (tgt := 80) hx hb dM_feed_41 (by decide) ?_
        refine lv_istore (lv' := [(7, .int y1), (6, .int y6), (0, .ref aM), (1, .int y1), (2, .int y2), (3, .int y3), (4, .int y4), (5, .int y5)]) hx hb dM_feed_80 hl (by decide) rfl (fun ls hl => ?_)
        refine lv_aload_n hx hb dM_feed_82 rfl (lv_at hl 2 rfl) ?_
        refine xm_get (v := .ref (rd 8)) hx hb htx hown hK hP 26 (by decide) rfl (htx _ kw_5_113) rfl dM_feed_83 ?_
        refine lv_aload_n hx hb dM_feed_86 rfl (lv_at hl 2 rfl) ?_
        refine xm_get (v := .int (xsi ws9 27)) hx hb htx hown hK hP 27 (by decide) rfl (htx _ kw_5_114) rfl dM_feed_87 ?_
        refine lv_iload hx hb dM_feed_90 (lv_at hl 0 rfl) ?_
        refine lv_bipush (v := 24) hx hb dM_feed_92 (by decide) ?_
        refine lv_bipush (v := 8) hx hb dM_feed_94 (by decide) ?_
        refine lv_iload hx hb dM_feed_96 (lv_at hl 1 rfl) ?_
        refine lv_iconst (v := 4) hx hb dM_feed_98 (by decide) ?_
        refine lv_irem hx hb dM_feed_99 (by decide) ?_
        refine lv_imul hx hb dM_feed_100 ?_
        refine lv_isub hx hb dM_feed_101 ?_
        refine lv_ishr hx hb dM_feed_102 ?_
        refine lv_i2b hx hb dM_feed_103 rfl ?_
        obtain ⟨hg1, hf⟩ := xifn hf
        refine va_bast hx hb hK hP hD hS 21 0 rfl rfl hg1 dM_feed_104 (fun H locs hP hD hS => ?_)
        obtain ⟨hP, hD⟩ : xPD D xcl A (xMw cT aM ad rd gd vad (xsB ws9 40 ((xsi ws9 27).toNatClampNeg) (vp_nar .byte (y1 >>> (((24 : Int32) - ((8 : Int32) * (y6 - y6 / (4 : Int32) * (4 : Int32)))) &&& 31)).toInt8.toInt32)) []) H := ⟨hP, hD⟩
        refine lv_aload_n hx hb dM_feed_105 rfl (lv_at hl 2 rfl) ?_
        refine lv_dup hx hb dM_feed_106 rfl ?_
        refine xm_get (v := .int (xsi ws9 27)) hx hb htx hown hK hP 27 (by decide) rfl (htx _ kw_5_114) rfl dM_feed_107 ?_
        refine lv_iconst (v := 1) hx hb dM_feed_110 (by decide) ?_
        refine lv_iadd hx hb dM_feed_111 ?_
        refine xm_put (v := .int ((xsi ws9 27) + (1 : Int32))) (W' := (xMw cT aM ad rd gd vad (xsI (xsB ws9 40 ((xsi ws9 27).toNatClampNeg) (vp_nar .byte (y1 >>> (((24 : Int32) - ((8 : Int32) * (y6 - y6 / (4 : Int32) * (4 : Int32)))) &&& 31)).toInt8.toInt32)) 27 ((xsi ws9 27) + (1 : Int32))) [])) (ty := .int) hx hb htx hown hK hP hD hS 27 (by decide) rfl (htx _ kw_5_114) rfl rfl (by decide +kernel) rfl rfl dM_feed_112 (fun H locs hP hD hS => ?_)
        refine lv_iinc (v := (y6 + 1)) (lv' := [(6, .int (y6 + 1)), (7, .int y1), (0, .ref aM), (1, .int y1), (2, .int y2), (3, .int y3), (4, .int y4), (5, .int y5)]) hx hb dM_feed_115 hl (k := 1) rfl rfl (by decide) rfl (fun ls hl => ?_)
        refine lv_goto (tgt := 27) hx hb dM_feed_118 (by decide) ?_
        exact ih (1, (y6 + 1), y1, y2, y3, y4, y5, (xsI (xsB ws9 40 ((xsi ws9 27).toNatClampNeg) (vp_nar .byte (y1 >>> (((24 : Int32) - ((8 : Int32) * (y6 - y6 / (4 : Int32) * (4 : Int32)))) &&& 31)).toInt8.toInt32)) 27 ((xsi ws9 27) + (1 : Int32)))) _ _ ls (⟨rfl, hf, hP, hD, hS, lv_sub hl [0, 2, 3, 4, 5, 6, 7] rfl, hN⟩)
  refine lv_aload_n hx hb dM_feed_0 rfl (lv_at hl 0 rfl) ?_
  refine lv_iconst (v := 0) hx hb dM_feed_1 (by decide) ?_
  refine xm_put (v := .int 0) (W' := (xMw cT aM ad rd gd vad (xsI st 0 0) [])) (ty := .int) hx hb htx hown hK hP hD hS 0 (by decide) rfl (htx _ kw_5_87) rfl rfl (by decide +kernel) rfl rfl dM_feed_2 (fun H locs hP hD hS => ?_)
  refine lv_aload_n hx hb dM_feed_5 rfl (lv_at hl 0 rfl) ?_
  refine xm_get (v := .int (xsi st 27)) hx hb htx hown hK hP 27 (by decide) rfl (htx _ kw_5_114) rfl dM_feed_6 ?_
  refine lv_bipush (v := 20) hx hb dM_feed_9 (by decide) ?_
  refine lv_iadd hx hb dM_feed_11 ?_
  refine lv_sipush (v := 4096) hx hb dM_feed_12 (by decide) ?_
  refine lv_icmp_le (tgt := 24) hx hb dM_feed_15 (by decide) (fun hc => ?_) (fun hc => ?_)
  · rw [if_pos hc] at hf
    refine lv_iconst (v := 0) hx hb dM_feed_24 (by decide) ?_
    refine lv_istore (lv' := [(6, .int 0), (0, .ref aM), (1, .int x0), (2, .int x1), (3, .int x2), (4, .int x3), (5, .int x4)]) hx hb dM_feed_25 hl (by decide) rfl (fun ls hl => ?_)
    exact key n (1, (0 : Int32), x0, x1, x2, x3, x4, (xsI st 0 0)) _ _ ls (⟨rfl, hf, hP, hD, hS, lv_sub hl [0, 1, 2, 3, 4, 5, 6] rfl, hN⟩)
  · rw [if_neg hc] at hf
    refine lv_aload_n hx hb dM_feed_18 rfl (lv_at hl 0 rfl) ?_
    refine lv_iconst (v := 1) hx hb dM_feed_19 (by decide) ?_
    obtain ⟨o1, hq2, hf⟩ := xbind hf
    have hFc := xm_free hD hS hA
    refine va_calli (va_runV (C := "ValueBenchModel") (As := [.int 1]) (rest := []) ⟨hx, hb, hml, hown, htx⟩ (gM_fail l hl9 D cT aK aV H.size n aM ad rd gd vad (xsI st 0 0) (1 : Int32) o1 hq2) ⟨callB_of 1 htx (xw_goodC kw_5_195) rfl rfl rfl (htx _ kw_1_5) (htx _ kw_5_192) ⟨by decide, by decide, by decide +kernel⟩ ⟨Nat.le_of_ble_eq_true rfl, Nat.le_of_ble_eq_true rfl⟩, (htx _ kw_5_194), (htx _ kp_M_fail)⟩ ⟨xPre_blind, va_recv hK hP (ci := 5) rfl (q0 := 0) rfl, (fun U hU hW => ⟨rfl, xPre_of hZ hS hFc hP hD hK U hU hW⟩)⟩ rfl rfl hl.1 rfl (xm_room (Nat.le_of_ble_eq_true rfl)) dM_feed_20 ⟨Nat.le_of_ble_eq_true rfl, Nat.le_of_ble_eq_true rfl⟩) hS (fun q _ h => hFc q h) hFc (fun r3 u9 t H1 locs ht hvm hr9 hB hz1 hk1 hS => ?_)
    obtain ⟨hP1, hK1, hD1⟩ := hB
    rw [ht] at hP1
    obtain ⟨hr9, hn4⟩ := hr9
    have hN : xct st ≤ xct o1.2 := Nat.le_trans hN hn4
    have hP : va_P D xcl (xMw cT aM ad rd gd vad o1.2 []) H1 := hP1
    have hD : va_D A (xMw cT aM ad rd gd vad o1.2 []) := hD1.weaken (fun k q _ h => hFc q.1 h)
    generalize H1 = H at hP hS ⊢
    rw [hr9]
    refine W.eq (g2 := F0 m 23 ls [.int o1.1]) (by first | rfl | (skip; rfl)) ?_
    obtain rfl := Option.some.inj hf
    exact W.iret (v := o1.1) hx hb hr (fun t ht hW => ⟨⟨o1.1, (), rfl, ⟨rfl, hN⟩, by rw [ht]; exact hP, va_K.moved hW.alike hK, hD⟩, hS.F ht⟩) hS.2.2 dM_feed_23
set_option maxHeartbeats 400000000 in
set_option maxRecDepth 100000 in
theorem gM_one0 (l : Launch) (hl9 : l.stackTraces = false) (D : va_G) (cT : Nat → ClassId) (aK aV : Nat → Nat) (sz d n : Nat) (aM : Nat) (ad rd gd vad : Nat → Nat) (st : xS) (x0 : Int32) (x1 : Int32) (x2 : Int32) (out : Nat × Nat × xS) (hf : fM_one0 d n st x0 x1 x2 = some out) : xMet l yM_one0 wyM_one0 (16 * d + 13) out.1 out.2.1 (400 * d + 275) D cT aK aV sz [.ref aM, .int x0, .int x1, .int x2] (xMw cT aM ad rd gd vad st []) (fun A => va_Qv (fun u : xU => xE vad st out.2.2 u) (fun u t => xB D xcl cT A (xMw cT aM u.1 rd u.2.1 u.2.2 out.2.2 []) t) A) := by
  refine Met.ofW (cc := prog_13_method_92_code) (maxL := 4) (ret := none) (by decide) rfl ?_
  intro p e s m args below meth c s₁ B hml hv
  obtain ⟨rfl, hsz, hZ, hP, hK, hD0⟩ := hv
  have hx := B.exec
  have hb := B.bytes
  have hr := B.returns
  have hts := atoms_spec (ws := wyM_one0) B.pre
  have htx := fun w h => hts w (List.mem_cons_of_mem _ h)
  have hown : s.vm.findClass "ValueBenchModel" = some m.cls := findClass_of_methodNamed B.named
  have hlocks := B.notSynchronized
  subst hsz
  have hD := hD0.self (sz := s.heap.size)
  generalize hAe : va_A (xMw cT aM ad rd gd vad st []) s.heap.size = A at hD hZ ⊢
  have hA : ∀ q : Nat, s.heap.size ≤ q → A q := fun q h => by rw [← hAe]; exact Or.inr h
  have hS : va_S A s.heap s.heap [] := va_S.rf
  have hl := lv_entry ([.ref aM, .int x0, .int x1, .int x2]) (n := 4) (by simp [lg_sl, xvcat, xrscat, xcI, xcL, xcR, xcN])
  rw [show lv_args 0 [.ref aM, .int x0, .int x1, .int x2] = [(0, .ref aM), (1, .int x0), (2, .int x1), (3, .int x2)] from by simp [lv_args, xvcat, xrscat, xcI, xcL, xcR, xcN]] at hl
  rw [lg_entry_eq]
  generalize (lg_sl ([.ref aM, .int x0, .int x1, .int x2]) ++ List.replicate (4 - (lg_sl ([.ref aM, .int x0, .int x1, .int x2])).length) Slot.unset).toArray = ls at hl ⊢
  have hl : lv_has ls 4 [(0, .ref aM), (1, .int x0), (2, .int x1), (3, .int x2)] := hl
  have hE : ∀ p, p < xct st → vad p = vad p := fun _ _ => rfl
  have hN : xct st ≤ xct st := Nat.le_refl _
  unfold fM_one0 at hf
  refine lv_aload_n hx hb dM_one0_0 rfl (lv_at hl 0 rfl) ?_
  obtain ⟨o1, hq2, hf⟩ := xbind hf
  have hFc := xm_free hD hS hA
  refine va_callv (va_runV (C := "ValueBenchModel") (As := []) (rest := []) ⟨hx, hb, hml, hown, htx⟩ (gM_begin l hl9 D cT aK aV s.heap.size n aM ad rd gd vad st o1 hq2) ⟨callB_of 0 htx (xw_goodC kw_5_209) rfl rfl rfl (htx _ kw_1_5) (htx _ kw_5_206) ⟨by decide, by decide, by decide +kernel⟩ ⟨Nat.le_of_ble_eq_true rfl, Nat.le_of_ble_eq_true rfl⟩, (htx _ kw_5_208), (htx _ kp_M_begin)⟩ ⟨xPre_blind, va_recv hK hP (ci := 5) rfl (q0 := 0) rfl, (fun U hU hW => ⟨rfl, xPre_of hZ hS hFc hP hD hK U hU hW⟩)⟩ rfl rfl hl.1 rfl (xm_room (Nat.le_of_ble_eq_true rfl)) dM_one0_1 ⟨Nat.zero_le _, Nat.zero_le _⟩) hS (fun q _ h => hFc q h) hFc (fun u9 t H1 locs ht hvm hr9 hB hz1 hk1 hS => ?_)
  obtain ⟨hP1, hK1, hD1⟩ := hB
  rw [ht] at hP1
  have hn4 := hr9
  have hN : xct st ≤ xct o1 := Nat.le_trans hN hn4
  have hP : va_P D xcl (xMw cT aM ad rd gd vad o1 []) H1 := hP1
  have hD : va_D A (xMw cT aM ad rd gd vad o1 []) := hD1.weaken (fun k q _ h => hFc q.1 h)
  generalize H1 = H at hP hS ⊢
  refine W.eq (g2 := F0 m 4 ls []) (by first | rfl | (skip; rfl)) ?_
  refine lv_aload_n hx hb dM_one0_4 rfl (lv_at hl 0 rfl) ?_
  refine lv_iload_n hx hb dM_one0_5 rfl (lv_at hl 1 rfl) ?_
  obtain ⟨o5, hq6, hf⟩ := xbind hf
  have hFc := xm_free hD hS hA
  refine va_calli (va_runV (C := "ValueBenchModel") (As := [.int x0]) (rest := []) ⟨hx, hb, hml, hown, htx⟩ (gM_out l hl9 D cT aK aV H.size n aM ad rd gd vad o1 x0 o5 hq6) ⟨callB_of 1 htx (xw_goodC kw_5_217) rfl rfl rfl (htx _ kw_1_5) (htx _ kw_5_214) ⟨by decide, by decide, by decide +kernel⟩ ⟨Nat.le_of_ble_eq_true rfl, Nat.le_of_ble_eq_true rfl⟩, (htx _ kw_5_216), (htx _ kp_M_out)⟩ ⟨xPre_blind, va_recv hK hP (ci := 5) rfl (q0 := 0) rfl, (fun U hU hW => ⟨rfl, xPre_of hZ hS hFc hP hD hK U hU hW⟩)⟩ rfl rfl hl.1 rfl (xm_room (Nat.le_of_ble_eq_true rfl)) dM_one0_6 ⟨Nat.zero_le _, Nat.zero_le _⟩) hS (fun q _ h => hFc q h) hFc (fun r7 u9 t H1 locs ht hvm hr9 hB hz1 hk1 hS => ?_)
  obtain ⟨hP1, hK1, hD1⟩ := hB
  rw [ht] at hP1
  have hP : va_P D xcl (xMw cT aM ad rd gd vad o1 []) H1 := hP1
  have hD : va_D A (xMw cT aM ad rd gd vad o1 []) := hD1.weaken (fun k q _ h => hFc q.1 h)
  generalize H1 = H at hP hS ⊢
  rw [hr9]
  refine W.eq (g2 := F0 m 9 ls [.int o5]) (by first | rfl | (skip; rfl)) ?_
  refine lv_if_ne (tgt := 30) hx hb dM_one0_9 (by decide) (fun hc => ?_) (fun hc => ?_)
  · rw [if_neg hc] at hf
    refine lv_aload_n hx hb dM_one0_30 rfl (lv_at hl 0 rfl) ?_
    refine lv_iconst (v := 1) hx hb dM_one0_31 (by decide) ?_
    refine xm_put (v := .int 1) (W' := (xMw cT aM ad rd gd vad (xsI o1 0 1) [])) (ty := .int) hx hb htx hown hK hP hD hS 0 (by decide) rfl (htx _ kw_5_87) rfl rfl (by decide +kernel) rfl rfl dM_one0_32 (fun H locs hP hD hS => ?_)
    refine lv_goto (tgt := 47) hx hb dM_one0_35 (by decide) ?_
    obtain rfl := Option.some.inj hf
    exact W.vret hx hb hr (fun t ht hW => ⟨⟨(ad, gd, vad), rfl, ⟨hE, hN⟩, by rw [ht]; exact hP, va_K.moved hW.alike hK, hD⟩, hS.F ht⟩) hS.2.2 dM_one0_47
  · rw [if_pos hc] at hf
    refine lv_iload_n hx hb dM_one0_12 rfl (lv_at hl 2 rfl) ?_
    refine lv_if_lt (tgt := 30) hx hb dM_one0_13 (by decide) (fun hc => ?_) (fun hc => ?_)
    · rw [if_pos hc] at hf
      refine lv_aload_n hx hb dM_one0_30 rfl (lv_at hl 0 rfl) ?_
      refine lv_iconst (v := 1) hx hb dM_one0_31 (by decide) ?_
      refine xm_put (v := .int 1) (W' := (xMw cT aM ad rd gd vad (xsI o1 0 1) [])) (ty := .int) hx hb htx hown hK hP hD hS 0 (by decide) rfl (htx _ kw_5_87) rfl rfl (by decide +kernel) rfl rfl dM_one0_32 (fun H locs hP hD hS => ?_)
      refine lv_goto (tgt := 47) hx hb dM_one0_35 (by decide) ?_
      obtain rfl := Option.some.inj hf
      exact W.vret hx hb hr (fun t ht hW => ⟨⟨(ad, gd, vad), rfl, ⟨hE, hN⟩, by rw [ht]; exact hP, va_K.moved hW.alike hK, hD⟩, hS.F ht⟩) hS.2.2 dM_one0_47
    · rw [if_neg hc] at hf
      refine lv_iload_n hx hb dM_one0_16 rfl (lv_at hl 2 rfl) ?_
      refine lv_bipush (v := 13) hx hb dM_one0_17 (by decide) ?_
      refine lv_icmp_gt (tgt := 30) hx hb dM_one0_19 (by decide) (fun hc => ?_) (fun hc => ?_)
      · rw [if_pos hc] at hf
        refine lv_aload_n hx hb dM_one0_30 rfl (lv_at hl 0 rfl) ?_
        refine lv_iconst (v := 1) hx hb dM_one0_31 (by decide) ?_
        refine xm_put (v := .int 1) (W' := (xMw cT aM ad rd gd vad (xsI o1 0 1) [])) (ty := .int) hx hb htx hown hK hP hD hS 0 (by decide) rfl (htx _ kw_5_87) rfl rfl (by decide +kernel) rfl rfl dM_one0_32 (fun H locs hP hD hS => ?_)
        refine lv_goto (tgt := 47) hx hb dM_one0_35 (by decide) ?_
        obtain rfl := Option.some.inj hf
        exact W.vret hx hb hr (fun t ht hW => ⟨⟨(ad, gd, vad), rfl, ⟨hE, hN⟩, by rw [ht]; exact hP, va_K.moved hW.alike hK, hD⟩, hS.F ht⟩) hS.2.2 dM_one0_47
      · rw [if_neg hc] at hf
        refine lv_aload_n hx hb dM_one0_22 rfl (lv_at hl 0 rfl) ?_
        refine lv_iload_n hx hb dM_one0_23 rfl (lv_at hl 3 rfl) ?_
        obtain ⟨o8, hq9, hf⟩ := xbind hf
        have hFc := xm_free hD hS hA
        refine va_calli (va_runV (C := "ValueBenchModel") (As := [.int x2]) (rest := []) ⟨hx, hb, hml, hown, htx⟩ (gM_out l hl9 D cT aK aV H.size n aM ad rd gd vad o1 x2 o8 hq9) ⟨callB_of 1 htx (xw_goodC kw_5_217) rfl rfl rfl (htx _ kw_1_5) (htx _ kw_5_214) ⟨by decide, by decide, by decide +kernel⟩ ⟨Nat.le_of_ble_eq_true rfl, Nat.le_of_ble_eq_true rfl⟩, (htx _ kw_5_216), (htx _ kp_M_out)⟩ ⟨xPre_blind, va_recv hK hP (ci := 5) rfl (q0 := 0) rfl, (fun U hU hW => ⟨rfl, xPre_of hZ hS hFc hP hD hK U hU hW⟩)⟩ rfl rfl hl.1 rfl (xm_room (Nat.le_of_ble_eq_true rfl)) dM_one0_24 ⟨Nat.zero_le _, Nat.zero_le _⟩) hS (fun q _ h => hFc q h) hFc (fun r10 u9 t H1 locs ht hvm hr9 hB hz1 hk1 hS => ?_)
        obtain ⟨hP1, hK1, hD1⟩ := hB
        rw [ht] at hP1
        have hP : va_P D xcl (xMw cT aM ad rd gd vad o1 []) H1 := hP1
        have hD : va_D A (xMw cT aM ad rd gd vad o1 []) := hD1.weaken (fun k q _ h => hFc q.1 h)
        generalize H1 = H at hP hS ⊢
        rw [hr9]
        refine W.eq (g2 := F0 m 27 ls [.int o8]) (by first | rfl | (skip; rfl)) ?_
        refine lv_if_eq (tgt := 38) hx hb dM_one0_27 (by decide) (fun hc => ?_) (fun hc => ?_)
        · rw [if_pos hc] at hf
          refine lv_aload_n hx hb dM_one0_38 rfl (lv_at hl 0 rfl) ?_
          refine lv_iload_n hx hb dM_one0_39 rfl (lv_at hl 1 rfl) ?_
          refine lv_iconst (v := 1) hx hb dM_one0_40 (by decide) ?_
          refine lv_iload_n hx hb dM_one0_41 rfl (lv_at hl 2 rfl) ?_
          refine lv_iload_n hx hb dM_one0_42 rfl (lv_at hl 3 rfl) ?_
          refine lv_iload_n hx hb dM_one0_43 rfl (lv_at hl 3 rfl) ?_
          obtain ⟨o11, hq12, hf⟩ := xbind hf
          obtain ⟨hm13, hf⟩ := xmoE hf
          have hFc := xm_free hD hS hA
          refine va_callv (vx_runVW (C := "ValueBenchModel") (As := [.int x0, .int 1, .int x1, .int x2, .int x2]) (rest := []) ⟨hx, hb, hml, hown, htx⟩ (gM_finish l hl9 D cT aK aV H.size d n aM ad rd gd vad o1 x0 (1 : Int32) x1 x2 x2 o11 hq12) (xcVW 5 htx (xw_goodC kw_6_195) rfl rfl rfl (htx _ kw_1_5) (htx _ kw_6_192) ⟨by decide, by decide, by decide +kernel⟩ ⟨(by show (16 * d + 12) + 1 ≤ 16 * d + 13; omega), (by show 8 + (10 + 11) + (400 * d + 246) ≤ 400 * d + 275; omega)⟩ (htx _ kw_6_194) (htx _ kp_M_finish)) ⟨xPre_blind, va_recv hK hP (ci := 5) rfl (q0 := 0) rfl, (fun U hU hW => ⟨rfl, xPre_of hZ hS hFc hP hD hK U hU hW⟩)⟩ rfl rfl hl.1 rfl (xm_room (Nat.le_of_ble_eq_true rfl)) dM_one0_44 ⟨hm13.1, hm13.2⟩) hS (fun q _ h => hFc q h) hFc (fun u9 t H1 locs ht hvm hr9 hB hz1 hk1 hS => ?_)
          obtain ⟨hP1, hK1, hD1⟩ := hB
          rw [ht] at hP1
          obtain ⟨ad15, gd16, vad17⟩ := u9
          obtain ⟨hv18, hn19⟩ := hr9
          have hP : va_P D xcl (xMw cT aM ad15 rd gd16 vad17 o11.2.2 []) H1 := hP1
          have hD : va_D A (xMw cT aM ad15 rd gd16 vad17 o11.2.2 []) := hD1.weaken (fun k q _ h => hFc q.1 h)
          generalize H1 = H at hP hS ⊢
          have hE9 : ∀ p, p < xct st → vad17 p = vad p := fun p h => (hv18 p (Nat.lt_of_lt_of_le h hN)).trans (hE p h)
          have hE := hE9
          have hN : xct st ≤ xct o11.2.2 := Nat.le_trans hN hn19
          refine W.eq (g2 := F0 m 47 ls []) (by first | rfl | (skip; rfl)) ?_
          obtain rfl := Option.some.inj hf
          exact W.vret hx hb hr (fun t ht hW => ⟨⟨(ad15, gd16, vad17), rfl, ⟨hE, hN⟩, by rw [ht]; exact hP, va_K.moved hW.alike hK, hD⟩, hS.F ht⟩) hS.2.2 dM_one0_47
        · rw [if_neg hc] at hf
          refine lv_aload_n hx hb dM_one0_30 rfl (lv_at hl 0 rfl) ?_
          refine lv_iconst (v := 1) hx hb dM_one0_31 (by decide) ?_
          refine xm_put (v := .int 1) (W' := (xMw cT aM ad rd gd vad (xsI o1 0 1) [])) (ty := .int) hx hb htx hown hK hP hD hS 0 (by decide) rfl (htx _ kw_5_87) rfl rfl (by decide +kernel) rfl rfl dM_one0_32 (fun H locs hP hD hS => ?_)
          refine lv_goto (tgt := 47) hx hb dM_one0_35 (by decide) ?_
          obtain rfl := Option.some.inj hf
          exact W.vret hx hb hr (fun t ht hW => ⟨⟨(ad, gd, vad), rfl, ⟨hE, hN⟩, by rw [ht]; exact hP, va_K.moved hW.alike hK, hD⟩, hS.F ht⟩) hS.2.2 dM_one0_47
set_option maxHeartbeats 400000000 in
set_option maxRecDepth 100000 in
theorem gM_print0 (l : Launch) (hl9 : l.stackTraces = false) (D : va_G) (cT : Nat → ClassId) (aK aV : Nat → Nat) (sz n : Nat) (aM : Nat) (ad rd gd vad : Nat → Nat) (st : xS) (x0 : Int32) (out : Int32 × xS) (hf : fM_print0 n st x0 = some out) : xMet l yM_print0 wyM_print0 2 0 0 40 D cT aK aV sz [.ref aM, .int x0] (xMw cT aM ad rd gd vad st []) (fun A => va_Qi (fun (r : Int32) (_ : Unit) => r = out.1 ∧ xct st ≤ xct out.2) (fun _ t => xB D xcl cT A (xMw cT aM ad rd gd vad out.2 []) t) A) := by
  refine Met.ofW (cc := prog_13_method_85_code) (maxL := 3) (ret := (some .int)) (by decide) rfl ?_
  intro p e s m args below meth c s₁ B hml hv
  obtain ⟨rfl, hsz, hZ, hP, hK, hD0⟩ := hv
  have hx := B.exec
  have hb := B.bytes
  have hr := B.returns
  have hts := atoms_spec (ws := wyM_print0) B.pre
  have htx := fun w h => hts w (List.mem_cons_of_mem _ h)
  have hown : s.vm.findClass "ValueBenchModel" = some m.cls := findClass_of_methodNamed B.named
  have hlocks := B.notSynchronized
  subst hsz
  have hD := hD0.self (sz := s.heap.size)
  generalize hAe : va_A (xMw cT aM ad rd gd vad st []) s.heap.size = A at hD hZ ⊢
  have hA : ∀ q : Nat, s.heap.size ≤ q → A q := fun q h => by rw [← hAe]; exact Or.inr h
  have hS : va_S A s.heap s.heap [] := va_S.rf
  have hl := lv_entry ([.ref aM, .int x0]) (n := 3) (by simp [lg_sl, xvcat, xrscat, xcI, xcL, xcR, xcN])
  rw [show lv_args 0 [.ref aM, .int x0] = [(0, .ref aM), (1, .int x0)] from by simp [lv_args, xvcat, xrscat, xcI, xcL, xcR, xcN]] at hl
  rw [lg_entry_eq]
  generalize (lg_sl ([.ref aM, .int x0]) ++ List.replicate (3 - (lg_sl ([.ref aM, .int x0])).length) Slot.unset).toArray = ls at hl ⊢
  have hl : lv_has ls 3 [(0, .ref aM), (1, .int x0)] := hl
  have hN : xct st ≤ xct st := Nat.le_refl _
  unfold fM_print0 at hf
  refine xloopM (σ := Nat × Int32 × Int32 × xS) (fun n x H locs ls => (x.1 = 1 ∧ fM_print0_b n x.1 x.2.1 x.2.2.1 x.2.2.2 = some out ∧ va_P D xcl (xMw cT aM ad rd gd vad x.2.2.2 []) H ∧ va_D A (xMw cT aM ad rd gd vad x.2.2.2 []) ∧ va_S A s.heap H locs ∧ lv_has ls 3 [(2, .int x.2.1), (0, .ref aM), (1, .int x.2.2.1)] ∧ xct st ≤ xct x.2.2.2)) (fun x => 30) (fun x => 0) (fun x => 0) (fun x H locs ls h => by (exact absurd h.2.1 (by rw [fM_print0_b]; exact fun h => nomatch h))) (fun n ih x H locs ls hv => ?_) (fun key => ?_)
  · obtain ⟨lb, y2, y1, ws9⟩ := x
    rcases hv with ⟨hj, hf, hP, hD, hS, hl, hN⟩
    subst hj
    have hf : fM_print0_b (n + 1) 1 y2 y1 ws9 = some out := hf
    rw [fM_print0_b] at hf
    obtain ⟨hP, hD⟩ : xPD D xcl A (xMw cT aM ad rd gd vad ws9 []) H := ⟨hP, hD⟩
    have hl : lv_has ls 3 [(2, .int y2), (0, .ref aM), (1, .int y1)] := hl
    refine W.eq (g2 := F0 m 30 ls []) rfl ?_
    refine lv_iload_n hx hb dM_print0_30 rfl (lv_at hl 0 rfl) ?_
    refine lv_aload_n hx hb dM_print0_31 rfl (lv_at hl 1 rfl) ?_
    refine xm_get (v := .int (xsi ws9 29)) hx hb htx hown hK hP 29 (by decide) rfl (htx _ kw_5_116) rfl dM_print0_32 ?_
    refine lv_icmp_ge (tgt := 58) hx hb dM_print0_35 (by decide) (fun hc => ?_) (fun hc => ?_)
    · rw [if_pos hc] at hf
      refine lv_aload_n hx hb dM_print0_58 rfl (lv_at hl 1 rfl) ?_
      refine xm_get (v := .int (xsi ws9 29)) hx hb htx hown hK hP 29 (by decide) rfl (htx _ kw_5_116) rfl dM_print0_59 ?_
      obtain rfl := Option.some.inj hf
      exact W.iret (v := (xsi ws9 29)) hx hb hr (fun t ht hW => ⟨⟨(xsi ws9 29), (), rfl, ⟨rfl, hN⟩, by rw [ht]; exact hP, va_K.moved hW.alike hK, hD⟩, hS.F ht⟩) hS.2.2 dM_print0_62
    · rw [if_neg hc] at hf
      refine lv_aload_n hx hb dM_print0_38 rfl (lv_at hl 1 rfl) ?_
      refine xm_get (v := .ref (ad 28)) hx hb htx hown hK hP 28 (by decide) rfl (htx _ kw_5_115) rfl dM_print0_39 ?_
      refine lv_iload_n hx hb dM_print0_42 rfl (lv_at hl 0 rfl) ?_
      refine lv_aload_n hx hb dM_print0_43 rfl (lv_at hl 1 rfl) ?_
      refine xm_get (v := .ref (ad 24)) hx hb htx hown hK hP 24 (by decide) rfl (htx _ kw_5_111) rfl dM_print0_44 ?_
      refine lv_iload_n hx hb dM_print0_47 rfl (lv_at hl 2 rfl) ?_
      obtain ⟨hg1, hf⟩ := xifn hf
      obtain ⟨hg2, hf⟩ := xifn hf
      refine xx_aldA hx hb hK hP 10 5 rfl rfl hg1 dM_print0_48 ?_
      refine W.eq (g2 := F0 m 49 ls [xrs ad rd gd (32 + y1.toNatClampNeg), .int y2, .ref (ad 28)]) (by show F0 m _ ls (va_rf (xrg rd y1.toNatClampNeg) :: _) = _; rw [xrgE (Nat.lt_of_not_le hg2)]) ?_
      refine lv_iload_n hx hb dM_print0_49 rfl (lv_at hl 0 rfl) ?_
      obtain ⟨hg3, hf⟩ := xifn hf
      obtain ⟨hg4, hf⟩ := xifn hf
      refine xm_sld (x := (32 + y1.toNatClampNeg)) (i := y2) hx hb hK hP (Decidable.not_not.mp hg3) hg4 dM_print0_50 ?_
      refine W.eq (g2 := F0 m 51 ls [.int (xrb ws9 (32 + y1.toNatClampNeg) y2.toNatClampNeg), .int y2, .ref (ad 28)]) rfl ?_
      obtain ⟨hg5, hf⟩ := xifn hf
      refine va_bast hx hb hK hP hD hS 12 0 rfl rfl hg5 dM_print0_51 (fun H locs hP hD hS => ?_)
      obtain ⟨hP, hD⟩ : xPD D xcl A (xMw cT aM ad rd gd vad (xsB ws9 28 y2.toNatClampNeg (vp_nar .byte (xrb ws9 (32 + y1.toNatClampNeg) y2.toNatClampNeg))) []) H := ⟨hP, hD⟩
      refine lv_iinc (v := (y2 + 1)) (lv' := [(2, .int (y2 + 1)), (0, .ref aM), (1, .int y1)]) hx hb dM_print0_52 hl (k := 0) rfl rfl (by decide) rfl (fun ls hl => ?_)
      refine lv_goto (tgt := 30) hx hb dM_print0_55 (by decide) ?_
      exact ih (1, (y2 + 1), y1, (xsB ws9 28 y2.toNatClampNeg (vp_nar .byte (xrb ws9 (32 + y1.toNatClampNeg) y2.toNatClampNeg)))) _ _ ls (⟨rfl, hf, hP, hD, hS, lv_sub hl [0, 1, 2] rfl, hN⟩)
  refine lv_aload_n hx hb dM_print0_0 rfl (lv_at hl 0 rfl) ?_
  obtain ⟨o1, hq2, hf⟩ := xbind hf
  have hFc := xm_free hD hS hA
  refine va_callv (va_runV (C := "ValueBenchModel") (As := []) (rest := []) ⟨hx, hb, hml, hown, htx⟩ (gM_begin l hl9 D cT aK aV s.heap.size n aM ad rd gd vad st o1 hq2) ⟨callB_of 0 htx (xw_goodC kw_5_209) rfl rfl rfl (htx _ kw_1_5) (htx _ kw_5_206) ⟨by decide, by decide, by decide +kernel⟩ ⟨Nat.le_of_ble_eq_true rfl, Nat.le_of_ble_eq_true rfl⟩, (htx _ kw_5_208), (htx _ kp_M_begin)⟩ ⟨xPre_blind, va_recv hK hP (ci := 5) rfl (q0 := 0) rfl, (fun U hU hW => ⟨rfl, xPre_of hZ hS hFc hP hD hK U hU hW⟩)⟩ rfl rfl hl.1 rfl (xm_room (Nat.le_of_ble_eq_true rfl)) dM_print0_1 ⟨Nat.le_of_ble_eq_true rfl, Nat.le_of_ble_eq_true rfl⟩) hS (fun q _ h => hFc q h) hFc (fun u9 t H1 locs ht hvm hr9 hB hz1 hk1 hS => ?_)
  obtain ⟨hP1, hK1, hD1⟩ := hB
  rw [ht] at hP1
  have hn4 := hr9
  have hN : xct st ≤ xct o1 := Nat.le_trans hN hn4
  have hP : va_P D xcl (xMw cT aM ad rd gd vad o1 []) H1 := hP1
  have hD : va_D A (xMw cT aM ad rd gd vad o1 []) := hD1.weaken (fun k q _ h => hFc q.1 h)
  generalize H1 = H at hP hS ⊢
  refine W.eq (g2 := F0 m 4 ls []) (by first | rfl | (skip; rfl)) ?_
  refine lv_aload_n hx hb dM_print0_4 rfl (lv_at hl 0 rfl) ?_
  refine lv_iload_n hx hb dM_print0_5 rfl (lv_at hl 1 rfl) ?_
  obtain ⟨o5, hq6, hf⟩ := xbind hf
  have hFc := xm_free hD hS hA
  refine va_calli (va_runV (C := "ValueBenchModel") (As := [.int x0]) (rest := []) ⟨hx, hb, hml, hown, htx⟩ (gM_out l hl9 D cT aK aV H.size n aM ad rd gd vad o1 x0 o5 hq6) ⟨callB_of 1 htx (xw_goodC kw_5_217) rfl rfl rfl (htx _ kw_1_5) (htx _ kw_5_214) ⟨by decide, by decide, by decide +kernel⟩ ⟨Nat.le_of_ble_eq_true rfl, Nat.le_of_ble_eq_true rfl⟩, (htx _ kw_5_216), (htx _ kp_M_out)⟩ ⟨xPre_blind, va_recv hK hP (ci := 5) rfl (q0 := 0) rfl, (fun U hU hW => ⟨rfl, xPre_of hZ hS hFc hP hD hK U hU hW⟩)⟩ rfl rfl hl.1 rfl (xm_room (Nat.le_of_ble_eq_true rfl)) dM_print0_6 ⟨Nat.le_of_ble_eq_true rfl, Nat.le_of_ble_eq_true rfl⟩) hS (fun q _ h => hFc q h) hFc (fun r7 u9 t H1 locs ht hvm hr9 hB hz1 hk1 hS => ?_)
  obtain ⟨hP1, hK1, hD1⟩ := hB
  rw [ht] at hP1
  have hP : va_P D xcl (xMw cT aM ad rd gd vad o1 []) H1 := hP1
  have hD : va_D A (xMw cT aM ad rd gd vad o1 []) := hD1.weaken (fun k q _ h => hFc q.1 h)
  generalize H1 = H at hP hS ⊢
  rw [hr9]
  refine W.eq (g2 := F0 m 9 ls [.int o5]) (by first | rfl | (skip; rfl)) ?_
  refine lv_if_eq (tgt := 18) hx hb dM_print0_9 (by decide) (fun hc => ?_) (fun hc => ?_)
  · rw [if_pos hc] at hf
    refine lv_aload_n hx hb dM_print0_18 rfl (lv_at hl 0 rfl) ?_
    refine lv_aload_n hx hb dM_print0_19 rfl (lv_at hl 0 rfl) ?_
    refine xm_get (v := .ref (ad 25)) hx hb htx hown hK hP 25 (by decide) rfl (htx _ kw_5_112) rfl dM_print0_20 ?_
    refine lv_iload_n hx hb dM_print0_23 rfl (lv_at hl 1 rfl) ?_
    obtain ⟨hg8, hf⟩ := xifn hf
    refine va_iald hx hb hK hP 11 1 rfl rfl hg8 dM_print0_24 ?_
    refine W.eq (g2 := F0 m 25 ls [.int ((xba o1 25) x0.toNatClampNeg), .ref aM]) rfl ?_
    refine xm_put (v := .int ((xba o1 25) x0.toNatClampNeg)) (W' := (xMw cT aM ad rd gd vad (xsI o1 29 ((xba o1 25) x0.toNatClampNeg)) [])) (ty := .int) hx hb htx hown hK hP hD hS 29 (by decide) rfl (htx _ kw_5_116) rfl rfl (by decide +kernel) rfl rfl dM_print0_25 (fun H locs hP hD hS => ?_)
    refine lv_iconst (v := 0) hx hb dM_print0_28 (by decide) ?_
    refine lv_istore_n (lv' := [(2, .int 0), (0, .ref aM), (1, .int x0)]) hx hb dM_print0_29 rfl hl (by decide) rfl (fun ls hl => ?_)
    exact key n (1, (0 : Int32), x0, (xsI o1 29 ((xba o1 25) x0.toNatClampNeg))) _ _ ls (⟨rfl, hf, hP, hD, hS, lv_sub hl [0, 1, 2] rfl, hN⟩)
  · rw [if_neg hc] at hf
    refine lv_aload_n hx hb dM_print0_12 rfl (lv_at hl 0 rfl) ?_
    refine lv_iconst (v := 1) hx hb dM_print0_13 (by decide) ?_
    obtain ⟨o8, hq9, hf⟩ := xbind hf
    have hFc := xm_free hD hS hA
    refine va_calli (va_runV (C := "ValueBenchModel") (As := [.int 1]) (rest := []) ⟨hx, hb, hml, hown, htx⟩ (gM_fail l hl9 D cT aK aV H.size n aM ad rd gd vad o1 (1 : Int32) o8 hq9) ⟨callB_of 1 htx (xw_goodC kw_5_195) rfl rfl rfl (htx _ kw_1_5) (htx _ kw_5_192) ⟨by decide, by decide, by decide +kernel⟩ ⟨Nat.le_of_ble_eq_true rfl, Nat.le_of_ble_eq_true rfl⟩, (htx _ kw_5_194), (htx _ kp_M_fail)⟩ ⟨xPre_blind, va_recv hK hP (ci := 5) rfl (q0 := 0) rfl, (fun U hU hW => ⟨rfl, xPre_of hZ hS hFc hP hD hK U hU hW⟩)⟩ rfl rfl hl.1 rfl (xm_room (Nat.le_of_ble_eq_true rfl)) dM_print0_14 ⟨Nat.le_of_ble_eq_true rfl, Nat.le_of_ble_eq_true rfl⟩) hS (fun q _ h => hFc q h) hFc (fun r10 u9 t H1 locs ht hvm hr9 hB hz1 hk1 hS => ?_)
    obtain ⟨hP1, hK1, hD1⟩ := hB
    rw [ht] at hP1
    obtain ⟨hr9, hn11⟩ := hr9
    have hN : xct st ≤ xct o8.2 := Nat.le_trans hN hn11
    have hP : va_P D xcl (xMw cT aM ad rd gd vad o8.2 []) H1 := hP1
    have hD : va_D A (xMw cT aM ad rd gd vad o8.2 []) := hD1.weaken (fun k q _ h => hFc q.1 h)
    generalize H1 = H at hP hS ⊢
    rw [hr9]
    refine W.eq (g2 := F0 m 17 ls [.int o8.1]) (by first | rfl | (skip; rfl)) ?_
    obtain rfl := Option.some.inj hf
    exact W.iret (v := o8.1) hx hb hr (fun t ht hW => ⟨⟨o8.1, (), rfl, ⟨rfl, hN⟩, by rw [ht]; exact hP, va_K.moved hW.alike hK, hD⟩, hS.F ht⟩) hS.2.2 dM_print0_17
set_option maxHeartbeats 400000000 in
set_option maxRecDepth 100000 in
theorem gM_read (l : Launch) (hl9 : l.stackTraces = false) (D : va_G) (cT : Nat → ClassId) (aK aV : Nat → Nat) (sz d n : Nat) (aM : Nat) (ad rd gd vad : Nat → Nat) (st : xS) (x0 : Int32) (out : Nat × Nat × Int32 × xS) (hf : fM_read d n st x0 = some out) : xMet l yM_read wyM_read (16 * d + 8) out.1 out.2.1 (400 * d + 145) D cT aK aV sz [.ref aM, .int x0] (xMw cT aM ad rd gd vad st []) (fun A => va_Qi (fun (r : Int32) (u : xU) => r = out.2.2.1 ∧ xE vad st out.2.2.2 u) (fun u t => xB D xcl cT A (xMw cT aM u.1 rd u.2.1 u.2.2 out.2.2.2 []) t) A) := by
  refine va_MetW (cc := prog_13_method_84_code) (maxL := 4) (ret := (some .int)) (hh := [(39, 54, 55, 205), (39, 54, 70, 86)]) (by decide) rfl ?_
  intro p e s m args below meth c s₁ B hml hv
  obtain ⟨rfl, hsz, hZ, hP, hK, hD0⟩ := hv
  have hx := B.exec
  have hb := B.bytes
  have hr := B.returns
  have hts := atoms_spec (ws := wyM_read) B.pre
  have htx := fun w h => hts w (List.mem_cons_of_mem _ h)
  have hown : s.vm.findClass "ValueBenchModel" = some m.cls := findClass_of_methodNamed B.named
  have hlocks := B.notSynchronized
  subst hsz
  have hD := hD0.self (sz := s.heap.size)
  generalize hAe : va_A (xMw cT aM ad rd gd vad st []) s.heap.size = A at hD hZ ⊢
  have hA : ∀ q : Nat, s.heap.size ≤ q → A q := fun q h => by rw [← hAe]; exact Or.inr h
  have hS : va_S A s.heap s.heap [] := va_S.rf
  have hl := lv_entry ([.ref aM, .int x0]) (n := 4) (by simp [lg_sl, xvcat, xrscat, xcI, xcL, xcR, xcN])
  rw [show lv_args 0 [.ref aM, .int x0] = [(0, .ref aM), (1, .int x0)] from by simp [lv_args, xvcat, xrscat, xcI, xcL, xcR, xcN]] at hl
  rw [lg_entry_eq]
  generalize (lg_sl ([.ref aM, .int x0]) ++ List.replicate (4 - (lg_sl ([.ref aM, .int x0])).length) Slot.unset).toArray = ls at hl ⊢
  have hl : lv_has ls 4 [(0, .ref aM), (1, .int x0)] := hl
  have htab := vx_table (x := yM_read) B (hts _ List.mem_cons_self)
  have hE : ∀ p, p < xct st → vad p = vad p := fun _ _ => rfl
  have hN : xct st ≤ xct st := Nat.le_refl _
  unfold fM_read at hf
  refine lv_aload_n hx hb dM_read_0 rfl (lv_at hl 0 rfl) ?_
  obtain ⟨o1, hq2, hf⟩ := xbind hf
  have hFc := xm_free hD hS hA
  refine va_callv (va_runV (C := "ValueBenchModel") (As := []) (rest := []) ⟨hx, hb, hml, hown, htx⟩ (gM_begin l hl9 D cT aK aV s.heap.size n aM ad rd gd vad st o1 hq2) ⟨callB_of 0 htx (xw_goodC kw_5_209) rfl rfl rfl (htx _ kw_1_5) (htx _ kw_5_206) ⟨by decide, by decide, by decide +kernel⟩ ⟨Nat.le_of_ble_eq_true rfl, Nat.le_of_ble_eq_true rfl⟩, (htx _ kw_5_208), (htx _ kp_M_begin)⟩ ⟨xPre_blind, va_recv hK hP (ci := 5) rfl (q0 := 0) rfl, (fun U hU hW => ⟨rfl, xPre_of hZ hS hFc hP hD hK U hU hW⟩)⟩ rfl rfl hl.1 rfl (xm_room (Nat.le_of_ble_eq_true rfl)) dM_read_1 ⟨Nat.zero_le _, Nat.zero_le _⟩) hS (fun q _ h => hFc q h) hFc (fun u9 t H1 locs ht hvm hr9 hB hz1 hk1 hS => ?_)
  obtain ⟨hP1, hK1, hD1⟩ := hB
  rw [ht] at hP1
  have hn4 := hr9
  have hN : xct st ≤ xct o1 := Nat.le_trans hN hn4
  have hP : va_P D xcl (xMw cT aM ad rd gd vad o1 []) H1 := hP1
  have hD : va_D A (xMw cT aM ad rd gd vad o1 []) := hD1.weaken (fun k q _ h => hFc q.1 h)
  generalize H1 = H at hP hS ⊢
  refine W.eq (g2 := F0 m 4 ls []) (by first | rfl | (skip; rfl)) ?_
  refine lv_aload_n hx hb dM_read_4 rfl (lv_at hl 0 rfl) ?_
  refine lv_iload_n hx hb dM_read_5 rfl (lv_at hl 1 rfl) ?_
  obtain ⟨o5, hq6, hf⟩ := xbind hf
  have hFc := xm_free hD hS hA
  refine va_calli (va_runV (C := "ValueBenchModel") (As := [.int x0]) (rest := []) ⟨hx, hb, hml, hown, htx⟩ (gM_out l hl9 D cT aK aV H.size n aM ad rd gd vad o1 x0 o5 hq6) ⟨callB_of 1 htx (xw_goodC kw_5_217) rfl rfl rfl (htx _ kw_1_5) (htx _ kw_5_214) ⟨by decide, by decide, by decide +kernel⟩ ⟨Nat.le_of_ble_eq_true rfl, Nat.le_of_ble_eq_true rfl⟩, (htx _ kw_5_216), (htx _ kp_M_out)⟩ ⟨xPre_blind, va_recv hK hP (ci := 5) rfl (q0 := 0) rfl, (fun U hU hW => ⟨rfl, xPre_of hZ hS hFc hP hD hK U hU hW⟩)⟩ rfl rfl hl.1 rfl (xm_room (Nat.le_of_ble_eq_true rfl)) dM_read_6 ⟨Nat.zero_le _, Nat.zero_le _⟩) hS (fun q _ h => hFc q h) hFc (fun r7 u9 t H1 locs ht hvm hr9 hB hz1 hk1 hS => ?_)
  obtain ⟨hP1, hK1, hD1⟩ := hB
  rw [ht] at hP1
  have hP : va_P D xcl (xMw cT aM ad rd gd vad o1 []) H1 := hP1
  have hD : va_D A (xMw cT aM ad rd gd vad o1 []) := hD1.weaken (fun k q _ h => hFc q.1 h)
  generalize H1 = H at hP hS ⊢
  rw [hr9]
  refine W.eq (g2 := F0 m 9 ls [.int o5]) (by first | rfl | (skip; rfl)) ?_
  refine lv_if_eq (tgt := 18) hx hb dM_read_9 (by decide) (fun hc => ?_) (fun hc => ?_)
  · rw [if_pos hc] at hf
    refine lv_aload_n hx hb dM_read_18 rfl (lv_at hl 0 rfl) ?_
    refine xm_get (v := .int (xsi o1 27)) hx hb htx hown hK hP 27 (by decide) rfl (htx _ kw_5_114) rfl dM_read_19 ?_
    refine lv_istore_n (lv' := [(2, .int (xsi o1 27)), (0, .ref aM), (1, .int x0)]) hx hb dM_read_22 rfl hl (by decide) rfl (fun ls hl => ?_)
    refine lv_aload_n hx hb dM_read_23 rfl (lv_at hl 1 rfl) ?_
    refine lv_iconst (v := 0) hx hb dM_read_24 (by decide) ?_
    refine xm_put (v := .int 0) (W' := (xMw cT aM ad rd gd vad (xsI o1 27 0) [])) (ty := .int) hx hb htx hown hK hP hD hS 27 (by decide) rfl (htx _ kw_5_114) rfl rfl (by decide +kernel) rfl rfl dM_read_25 (fun H locs hP hD hS => ?_)
    refine lv_aload_n hx hb dM_read_28 rfl (lv_at hl 1 rfl) ?_
    refine lv_iconst (v := (-1)) hx hb dM_read_29 (by decide) ?_
    refine xm_put (v := .int (-1)) (W' := (xMw cT aM ad rd gd vad (xsI (xsI o1 27 0) 31 (-1)) [])) (ty := .int) hx hb htx hown hK hP hD hS 31 (by decide) rfl (htx _ kw_5_118) rfl rfl (by decide +kernel) rfl rfl dM_read_30 (fun H locs hP hD hS => ?_)
    refine lv_aload_n hx hb dM_read_33 rfl (lv_at hl 1 rfl) ?_
    refine lv_bipush (v := 40) hx hb dM_read_34 (by decide) ?_
    refine xm_put (v := .int 40) (W' := (xMw cT aM ad rd gd vad (xsI (xsI (xsI o1 27 0) 31 (-1)) 19 40) [])) (ty := .int) hx hb htx hown hK hP hD hS 19 (by decide) rfl (htx _ kw_5_106) rfl rfl (by decide +kernel) rfl rfl dM_read_36 (fun H locs hP hD hS => ?_)
    refine lv_aload_n hx hb dM_read_39 rfl (lv_at hl 1 rfl) ?_
    refine lv_iload_n hx hb dM_read_40 rfl (lv_at hl 2 rfl) ?_
    refine lv_aload_n hx hb dM_read_41 rfl (lv_at hl 1 rfl) ?_
    refine lv_aload_n hx hb dM_read_42 rfl (lv_at hl 1 rfl) ?_
    refine xm_get (v := .ref (rd 8)) hx hb htx hown hK hP 26 (by decide) rfl (htx _ kw_5_113) rfl dM_read_43 ?_
    refine lv_iconst (v := 0) hx hb dM_read_46 (by decide) ?_
    refine lv_iload_n hx hb dM_read_47 rfl (lv_at hl 0 rfl) ?_
    obtain ⟨o8, hq9, hf⟩ := xbind hf
    by_cases hk10 : o8.1 = 0
    · rw [if_pos hk10] at hf
      obtain ⟨hm11, hf⟩ := xmoE hf
      have hFc := xm_free hD hS hA
      refine va_callq (va_runV (C := "ValueBenchModel") (As := [.ref (rd 8), .int 0, .int (xsi o1 27)]) (rest := [.int x0, .ref aM]) ⟨hx, hb, hml, hown, htx⟩ (gM_json l hl9 D cT aK aV H.size d n aM ad rd gd vad (xsI (xsI (xsI o1 27 0) 31 (-1)) 19 40) 40 (0 : Int32) (xsi o1 27) o8 hq9 hk10) ⟨callB_of 3 htx (xw_goodC kw_5_221) rfl rfl rfl (htx _ kw_1_5) (htx _ kw_5_218) ⟨by decide, by decide, by decide +kernel⟩ ⟨(by show (16 * d + 7) + 1 ≤ 16 * d + 8; omega), (by show 8 + (5 + 11) + (400 * d + 121) ≤ 400 * d + 145; omega)⟩, (htx _ kw_5_220), (htx _ kp_M_json)⟩ ⟨xPre_blind, va_recv hK hP (ci := 5) rfl (q0 := 0) rfl, (fun U hU hW => ⟨rfl, xPre_of hZ hS hFc hP hD hK U hU hW⟩)⟩ rfl rfl hl.1 rfl (xm_room (Nat.le_of_ble_eq_true rfl)) dM_read_48 ⟨hm11.1, hm11.2⟩) hS (fun q _ h => hFc q h) hFc (fun r12 u9 t H1 locs ht hvm hr9 hB hz1 hk1 hS => ?_)
      obtain ⟨hP1, hK1, hD1⟩ := hB
      rw [ht] at hP1
      obtain ⟨ad13, gd14, vad15⟩ := u9
      obtain ⟨hr9, hv16, hn17⟩ := hr9
      have hP : va_P D xcl (xMw cT aM ad13 rd gd14 vad15 o8.2.2.2.2 []) H1 := hP1
      have hD : va_D A (xMw cT aM ad13 rd gd14 vad15 o8.2.2.2.2 []) := hD1.weaken (fun k q _ h => hFc q.1 h)
      generalize H1 = H at hP hS ⊢
      have hE9 : ∀ p, p < xct st → vad15 p = vad p := fun p h => (hv16 p (Nat.lt_of_lt_of_le h hN)).trans (hE p h)
      have hE := hE9
      have hN : xct st ≤ xct o8.2.2.2.2 := Nat.le_trans hN hn17
      rw [hr9]
      refine W.eq (g2 := F0 m 51 ls [xv vad15 o8.2.2.2.1, .int x0, .ref aM]) (by first | rfl | (skip; rfl)) ?_
      obtain ⟨o18, hq19, hf⟩ := xbind hf
      by_cases hk20 : o18.1 = 0
      · rw [if_pos hk20] at hf
        obtain ⟨hm21, hf⟩ := xmoE hf
        have hFc := xm_free hD hS hA
        refine va_calli (va_runV (C := "ValueBenchModel") (As := [.int x0, xv vad15 o8.2.2.2.1]) (rest := []) ⟨hx, hb, hml, hown, htx⟩ (gM_store l hl9 D cT aK aV H.size d n aM ad13 rd gd14 vad15 o8.2.2.2.2 x0 o8.2.2.2.1 o18 hq19 hk20) ⟨callB_of 2 htx (xw_goodC kw_6_124) rfl rfl rfl (htx _ kw_1_5) (htx _ kw_6_121) ⟨by decide, by decide, by decide +kernel⟩ ⟨(by show (16 * d + 1) + 1 ≤ 16 * d + 8; omega), (by show 8 + (4 + 11) + (400 * d + 22) ≤ 400 * d + 145; omega)⟩, (htx _ kw_6_123), (htx _ kp_M_store)⟩ ⟨xPre_blind, va_recv hK hP (ci := 5) rfl (q0 := 0) rfl, (fun U hU hW => ⟨rfl, xPre_of hZ hS hFc hP hD hK U hU hW⟩)⟩ rfl rfl hl.1 rfl (xm_room (Nat.le_of_ble_eq_true rfl)) dM_read_51 ⟨hm21.1, hm21.2⟩) hS (fun q _ h => hFc q h) hFc (fun r22 u9 t H1 locs ht hvm hr9 hB hz1 hk1 hS => ?_)
        obtain ⟨hP1, hK1, hD1⟩ := hB
        rw [ht] at hP1
        obtain ⟨ad23, gd24, vad25⟩ := u9
        obtain ⟨hr9, hv26, hn27⟩ := hr9
        have hP : va_P D xcl (xMw cT aM ad23 rd gd24 vad25 o18.2.2.2.2 []) H1 := hP1
        have hD : va_D A (xMw cT aM ad23 rd gd24 vad25 o18.2.2.2.2 []) := hD1.weaken (fun k q _ h => hFc q.1 h)
        generalize H1 = H at hP hS ⊢
        have hE9 : ∀ p, p < xct st → vad25 p = vad p := fun p h => (hv26 p (Nat.lt_of_lt_of_le h hN)).trans (hE p h)
        have hE := hE9
        have hN : xct st ≤ xct o18.2.2.2.2 := Nat.le_trans hN hn27
        rw [hr9]
        refine W.eq (g2 := F0 m 54 ls [.int o18.2.2.2.1]) (by first | rfl | (skip; rfl)) ?_
        obtain rfl := Option.some.inj hf
        exact W.iret (v := o18.2.2.2.1) hx hb hr (fun t ht hW => ⟨⟨o18.2.2.2.1, (ad23, gd24, vad25), rfl, ⟨rfl, hE, hN⟩, by rw [ht]; exact hP, va_K.moved hW.alike hK, hD⟩, hS.F ht⟩) hS.2.2 dM_read_54
      rw [if_neg hk20] at hf
      by_cases hk28 : o18.1 = 1
      · rw [if_pos hk28] at hf
        obtain ⟨hm29, hf⟩ := xmoE hf
        have hFc := xm_free hD hS hA
        refine xx_thr (vx_runV (C := "ValueBenchModel") (As := [.int x0, xv vad15 o8.2.2.2.1]) (rest := []) ⟨hx, hb, hml, hown, htx⟩ (gM_store_1 l hl9 D cT aK aV H.size d n aM ad13 rd gd14 vad15 o8.2.2.2.2 x0 o8.2.2.2.1 o18 hq19 hk28) ⟨callB_of 2 htx (xw_goodC kw_6_124) rfl rfl rfl (htx _ kw_1_5) (htx _ kw_6_121) ⟨by decide, by decide, by decide +kernel⟩ ⟨(by show (16 * d + 1) + 1 ≤ 16 * d + 8; omega), (by show 8 + (4 + 11) + (400 * d + 22) ≤ 400 * d + 145; omega)⟩, (htx _ kw_6_123), (htx _ kp_M_store)⟩ ⟨xPre_blind, va_recv hK hP (ci := 5) rfl (q0 := 0) rfl, (fun U hU hW => ⟨rfl, xPre_of hZ hS hFc hP hD hK U hU hW⟩)⟩ rfl rfl hl.1 rfl (xm_room (Nat.le_of_ble_eq_true rfl)) dM_read_51 ⟨hm29.1, hm29.2⟩) hS hFc (fun q _ h => hFc q h) (fun E ce q9 u9 t H1 locs ht hvm hr9 hB hz1 hk1 hS hce hcv hcl => ?_)
        obtain ⟨rfl, hP1, hK1, hD1⟩ := hB
        rw [ht] at hP1
        obtain ⟨ad31, gd32, vad33⟩ := u9
        obtain ⟨hv34, hn35⟩ := hr9
        have hP : va_P D xcl (xMw cT aM ad31 rd gd32 vad33 o18.2.2.2.2 []) H1 := hP1
        have hD : va_D A (xMw cT aM ad31 rd gd32 vad33 o18.2.2.2.2 []) := hD1.weaken (fun k q _ h => hFc q.1 h)
        generalize H1 = H at hP hS hce ⊢
        have hE9 : ∀ p, p < xct st → vad33 p = vad p := fun p h => (hv34 p (Nat.lt_of_lt_of_le h hN)).trans (hE p h)
        have hE := hE9
        have hN : xct st ≤ xct o18.2.2.2.2 := Nat.le_trans hN hn35
        refine vx_catch (own := "ValueBenchModel") (name := "java/lang/IndexOutOfBoundsException") (E := "java/lang/IndexOutOfBoundsException") hown [⟨39, 54, 55, 205⟩] ⟨39, 54, 70, 86⟩ [] (by rw [htab]; rfl) (by intro z hz; rcases List.mem_cons.mp hz with rfl | hz; (exact Or.inr ⟨by decide, "java/lang/UnsupportedOperationException", htx _ kw_5_204, hZ.2.2.2.2.2.2.2.1 ("java/lang/IndexOutOfBoundsException", "java/lang/UnsupportedOperationException") (List.mem_of_getElem? (i := 1) rfl)⟩); cases hz) (by decide) (by decide) (htx _ kw_5_205) ((hZ.2.2.2.2.2.1 "java/lang/IndexOutOfBoundsException" (List.mem_of_getElem? (i := 0) rfl)).use rfl) hce hcv hcl ?_
        refine lv_astore_n (lv' := [(3, .ref q9), (2, .int (xsi o1 27)), (0, .ref aM), (1, .int x0)]) hx hb dM_read_70 rfl hl (by decide) rfl (fun ls hl => ?_)
        refine lv_aload_n hx hb dM_read_71 rfl (lv_at hl 2 rfl) ?_
        refine lv_iconst (v := 3) hx hb dM_read_72 (by decide) ?_
        obtain ⟨o36, hq37, hf⟩ := xbind hf
        have hFc := xm_free hD hS hA
        refine va_calli (va_runV (C := "ValueBenchModel") (As := [.int 3]) (rest := []) ⟨hx, hb, hml, hown, htx⟩ (gM_fail l hl9 D cT aK aV H.size n aM ad31 rd gd32 vad33 o18.2.2.2.2 (3 : Int32) o36 hq37) ⟨callB_of 1 htx (xw_goodC kw_5_195) rfl rfl rfl (htx _ kw_1_5) (htx _ kw_5_192) ⟨by decide, by decide, by decide +kernel⟩ ⟨Nat.le_of_ble_eq_true rfl, Nat.le_of_ble_eq_true rfl⟩, (htx _ kw_5_194), (htx _ kp_M_fail)⟩ ⟨xPre_blind, va_recv hK hP (ci := 5) rfl (q0 := 0) rfl, (fun U hU hW => ⟨rfl, xPre_of hZ hS hFc hP hD hK U hU hW⟩)⟩ rfl rfl hl.1 rfl (xm_room (Nat.le_of_ble_eq_true rfl)) dM_read_73 ⟨hm29.1, hm29.2⟩) hS (fun q _ h => hFc q h) hFc (fun r38 u9 t H1 locs ht hvm hr9 hB hz1 hk1 hS => ?_)
        obtain ⟨hP1, hK1, hD1⟩ := hB
        rw [ht] at hP1
        obtain ⟨hr9, hn39⟩ := hr9
        have hN : xct st ≤ xct o36.2 := Nat.le_trans hN hn39
        have hP : va_P D xcl (xMw cT aM ad31 rd gd32 vad33 o36.2 []) H1 := hP1
        have hD : va_D A (xMw cT aM ad31 rd gd32 vad33 o36.2 []) := hD1.weaken (fun k q _ h => hFc q.1 h)
        generalize H1 = H at hP hS ⊢
        rw [hr9]
        refine W.eq (g2 := F0 m 76 ls [.int o36.1]) (by first | rfl | (skip; rfl)) ?_
        obtain rfl := Option.some.inj hf
        exact W.iret (v := o36.1) hx hb hr (fun t ht hW => ⟨⟨o36.1, (ad31, gd32, vad33), rfl, ⟨rfl, hE, hN⟩, by rw [ht]; exact hP, va_K.moved hW.alike hK, hD⟩, hS.F ht⟩) hS.2.2 dM_read_76
      rw [if_neg hk28] at hf
      exact nomatch hf
    rw [if_neg hk10] at hf
    by_cases hk40 : o8.1 = 1
    · rw [if_pos hk40] at hf
      obtain ⟨hm41, hf⟩ := xmoE hf
      have hFc := xm_free hD hS hA
      refine xx_thr (vx_runV (C := "ValueBenchModel") (As := [.ref (rd 8), .int 0, .int (xsi o1 27)]) (rest := [.int x0, .ref aM]) ⟨hx, hb, hml, hown, htx⟩ (gM_json_1 l hl9 D cT aK aV H.size d n aM ad rd gd vad (xsI (xsI (xsI o1 27 0) 31 (-1)) 19 40) 40 (0 : Int32) (xsi o1 27) o8 hq9 hk40) ⟨callB_of 3 htx (xw_goodC kw_5_221) rfl rfl rfl (htx _ kw_1_5) (htx _ kw_5_218) ⟨by decide, by decide, by decide +kernel⟩ ⟨(by show (16 * d + 7) + 1 ≤ 16 * d + 8; omega), (by show 8 + (5 + 11) + (400 * d + 121) ≤ 400 * d + 145; omega)⟩, (htx _ kw_5_220), (htx _ kp_M_json)⟩ ⟨xPre_blind, va_recv hK hP (ci := 5) rfl (q0 := 0) rfl, (fun U hU hW => ⟨rfl, xPre_of hZ hS hFc hP hD hK U hU hW⟩)⟩ rfl rfl hl.1 rfl (xm_room (Nat.le_of_ble_eq_true rfl)) dM_read_48 ⟨hm41.1, hm41.2⟩) hS hFc (fun q _ h => hFc q h) (fun E ce q9 u9 t H1 locs ht hvm hr9 hB hz1 hk1 hS hce hcv hcl => ?_)
      obtain ⟨rfl, hP1, hK1, hD1⟩ := hB
      rw [ht] at hP1
      obtain ⟨ad43, gd44, vad45⟩ := u9
      obtain ⟨hv46, hn47⟩ := hr9
      have hP : va_P D xcl (xMw cT aM ad43 rd gd44 vad45 o8.2.2.2.2 []) H1 := hP1
      have hD : va_D A (xMw cT aM ad43 rd gd44 vad45 o8.2.2.2.2 []) := hD1.weaken (fun k q _ h => hFc q.1 h)
      generalize H1 = H at hP hS hce ⊢
      have hE9 : ∀ p, p < xct st → vad45 p = vad p := fun p h => (hv46 p (Nat.lt_of_lt_of_le h hN)).trans (hE p h)
      have hE := hE9
      have hN : xct st ≤ xct o8.2.2.2.2 := Nat.le_trans hN hn47
      refine vx_catch (own := "ValueBenchModel") (name := "java/lang/UnsupportedOperationException") (E := "java/lang/UnsupportedOperationException") hown [] ⟨39, 54, 55, 205⟩ [⟨39, 54, 70, 86⟩] (by rw [htab]; rfl) (fun z hz => nomatch hz) (by decide) (by decide) (htx _ kw_5_204) ((hZ.2.2.2.2.2.1 "java/lang/UnsupportedOperationException" (List.mem_of_getElem? (i := 2) rfl)).use rfl) hce hcv hcl ?_
      refine lv_astore_n (lv' := [(3, .ref q9), (2, .int (xsi o1 27)), (0, .ref aM), (1, .int x0)]) hx hb dM_read_55 rfl hl (by decide) rfl (fun ls hl => ?_)
      refine lv_aload_n hx hb dM_read_56 rfl (lv_at hl 2 rfl) ?_
      refine lv_aload_n hx hb dM_read_57 rfl (lv_at hl 2 rfl) ?_
      refine xm_get (v := .int (xsi o8.2.2.2.2 20)) hx hb htx hown hK hP 20 (by decide) rfl (htx _ kw_5_107) rfl dM_read_58 ?_
      refine xm_put (v := .int (xsi o8.2.2.2.2 20)) (W' := (xMw cT aM ad43 rd gd44 vad45 (xsI o8.2.2.2.2 31 (xsi o8.2.2.2.2 20)) [])) (ty := .int) hx hb htx hown hK hP hD hS 31 (by decide) rfl (htx _ kw_5_118) rfl rfl (by decide +kernel) rfl rfl dM_read_61 (fun H locs hP hD hS => ?_)
      refine lv_aload_n hx hb dM_read_64 rfl (lv_at hl 2 rfl) ?_
      refine lv_iconst (v := 2) hx hb dM_read_65 (by decide) ?_
      obtain ⟨o48, hq49, hf⟩ := xbind hf
      have hFc := xm_free hD hS hA
      refine va_calli (va_runV (C := "ValueBenchModel") (As := [.int 2]) (rest := []) ⟨hx, hb, hml, hown, htx⟩ (gM_fail l hl9 D cT aK aV H.size n aM ad43 rd gd44 vad45 (xsI o8.2.2.2.2 31 (xsi o8.2.2.2.2 20)) (2 : Int32) o48 hq49) ⟨callB_of 1 htx (xw_goodC kw_5_195) rfl rfl rfl (htx _ kw_1_5) (htx _ kw_5_192) ⟨by decide, by decide, by decide +kernel⟩ ⟨Nat.le_of_ble_eq_true rfl, Nat.le_of_ble_eq_true rfl⟩, (htx _ kw_5_194), (htx _ kp_M_fail)⟩ ⟨xPre_blind, va_recv hK hP (ci := 5) rfl (q0 := 0) rfl, (fun U hU hW => ⟨rfl, xPre_of hZ hS hFc hP hD hK U hU hW⟩)⟩ rfl rfl hl.1 rfl (xm_room (Nat.le_of_ble_eq_true rfl)) dM_read_66 ⟨hm41.1, hm41.2⟩) hS (fun q _ h => hFc q h) hFc (fun r50 u9 t H1 locs ht hvm hr9 hB hz1 hk1 hS => ?_)
      obtain ⟨hP1, hK1, hD1⟩ := hB
      rw [ht] at hP1
      obtain ⟨hr9, hn51⟩ := hr9
      have hN : xct st ≤ xct o48.2 := Nat.le_trans hN hn51
      have hP : va_P D xcl (xMw cT aM ad43 rd gd44 vad45 o48.2 []) H1 := hP1
      have hD : va_D A (xMw cT aM ad43 rd gd44 vad45 o48.2 []) := hD1.weaken (fun k q _ h => hFc q.1 h)
      generalize H1 = H at hP hS ⊢
      rw [hr9]
      refine W.eq (g2 := F0 m 69 ls [.int o48.1]) (by first | rfl | (skip; rfl)) ?_
      obtain rfl := Option.some.inj hf
      exact W.iret (v := o48.1) hx hb hr (fun t ht hW => ⟨⟨o48.1, (ad43, gd44, vad45), rfl, ⟨rfl, hE, hN⟩, by rw [ht]; exact hP, va_K.moved hW.alike hK, hD⟩, hS.F ht⟩) hS.2.2 dM_read_69
    rw [if_neg hk40] at hf
    by_cases hk52 : o8.1 = 2
    · rw [if_pos hk52] at hf
      obtain ⟨hm53, hf⟩ := xmoE hf
      have hFc := xm_free hD hS hA
      refine xx_thr (vx_runV (C := "ValueBenchModel") (As := [.ref (rd 8), .int 0, .int (xsi o1 27)]) (rest := [.int x0, .ref aM]) ⟨hx, hb, hml, hown, htx⟩ (gM_json_2 l hl9 D cT aK aV H.size d n aM ad rd gd vad (xsI (xsI (xsI o1 27 0) 31 (-1)) 19 40) 40 (0 : Int32) (xsi o1 27) o8 hq9 hk52) ⟨callB_of 3 htx (xw_goodC kw_5_221) rfl rfl rfl (htx _ kw_1_5) (htx _ kw_5_218) ⟨by decide, by decide, by decide +kernel⟩ ⟨(by show (16 * d + 7) + 1 ≤ 16 * d + 8; omega), (by show 8 + (5 + 11) + (400 * d + 121) ≤ 400 * d + 145; omega)⟩, (htx _ kw_5_220), (htx _ kp_M_json)⟩ ⟨xPre_blind, va_recv hK hP (ci := 5) rfl (q0 := 0) rfl, (fun U hU hW => ⟨rfl, xPre_of hZ hS hFc hP hD hK U hU hW⟩)⟩ rfl rfl hl.1 rfl (xm_room (Nat.le_of_ble_eq_true rfl)) dM_read_48 ⟨hm53.1, hm53.2⟩) hS hFc (fun q _ h => hFc q h) (fun E ce q9 u9 t H1 locs ht hvm hr9 hB hz1 hk1 hS hce hcv hcl => ?_)
      obtain ⟨rfl, hP1, hK1, hD1⟩ := hB
      rw [ht] at hP1
      obtain ⟨ad55, gd56, vad57⟩ := u9
      obtain ⟨hv58, hn59⟩ := hr9
      have hP : va_P D xcl (xMw cT aM ad55 rd gd56 vad57 o8.2.2.2.2 []) H1 := hP1
      have hD : va_D A (xMw cT aM ad55 rd gd56 vad57 o8.2.2.2.2 []) := hD1.weaken (fun k q _ h => hFc q.1 h)
      generalize H1 = H at hP hS hce ⊢
      have hE9 : ∀ p, p < xct st → vad57 p = vad p := fun p h => (hv58 p (Nat.lt_of_lt_of_le h hN)).trans (hE p h)
      have hE := hE9
      have hN : xct st ≤ xct o8.2.2.2.2 := Nat.le_trans hN hn59
      refine vx_catch (own := "ValueBenchModel") (name := "java/lang/IndexOutOfBoundsException") (E := "java/lang/IndexOutOfBoundsException") hown [⟨39, 54, 55, 205⟩] ⟨39, 54, 70, 86⟩ [] (by rw [htab]; rfl) (by intro z hz; rcases List.mem_cons.mp hz with rfl | hz; (exact Or.inr ⟨by decide, "java/lang/UnsupportedOperationException", htx _ kw_5_204, hZ.2.2.2.2.2.2.2.1 ("java/lang/IndexOutOfBoundsException", "java/lang/UnsupportedOperationException") (List.mem_of_getElem? (i := 1) rfl)⟩); cases hz) (by decide) (by decide) (htx _ kw_5_205) ((hZ.2.2.2.2.2.1 "java/lang/IndexOutOfBoundsException" (List.mem_of_getElem? (i := 0) rfl)).use rfl) hce hcv hcl ?_
      refine lv_astore_n (lv' := [(3, .ref q9), (2, .int (xsi o1 27)), (0, .ref aM), (1, .int x0)]) hx hb dM_read_70 rfl hl (by decide) rfl (fun ls hl => ?_)
      refine lv_aload_n hx hb dM_read_71 rfl (lv_at hl 2 rfl) ?_
      refine lv_iconst (v := 3) hx hb dM_read_72 (by decide) ?_
      obtain ⟨o60, hq61, hf⟩ := xbind hf
      have hFc := xm_free hD hS hA
      refine va_calli (va_runV (C := "ValueBenchModel") (As := [.int 3]) (rest := []) ⟨hx, hb, hml, hown, htx⟩ (gM_fail l hl9 D cT aK aV H.size n aM ad55 rd gd56 vad57 o8.2.2.2.2 (3 : Int32) o60 hq61) ⟨callB_of 1 htx (xw_goodC kw_5_195) rfl rfl rfl (htx _ kw_1_5) (htx _ kw_5_192) ⟨by decide, by decide, by decide +kernel⟩ ⟨Nat.le_of_ble_eq_true rfl, Nat.le_of_ble_eq_true rfl⟩, (htx _ kw_5_194), (htx _ kp_M_fail)⟩ ⟨xPre_blind, va_recv hK hP (ci := 5) rfl (q0 := 0) rfl, (fun U hU hW => ⟨rfl, xPre_of hZ hS hFc hP hD hK U hU hW⟩)⟩ rfl rfl hl.1 rfl (xm_room (Nat.le_of_ble_eq_true rfl)) dM_read_73 ⟨hm53.1, hm53.2⟩) hS (fun q _ h => hFc q h) hFc (fun r62 u9 t H1 locs ht hvm hr9 hB hz1 hk1 hS => ?_)
      obtain ⟨hP1, hK1, hD1⟩ := hB
      rw [ht] at hP1
      obtain ⟨hr9, hn63⟩ := hr9
      have hN : xct st ≤ xct o60.2 := Nat.le_trans hN hn63
      have hP : va_P D xcl (xMw cT aM ad55 rd gd56 vad57 o60.2 []) H1 := hP1
      have hD : va_D A (xMw cT aM ad55 rd gd56 vad57 o60.2 []) := hD1.weaken (fun k q _ h => hFc q.1 h)
      generalize H1 = H at hP hS ⊢
      rw [hr9]
      refine W.eq (g2 := F0 m 76 ls [.int o60.1]) (by first | rfl | (skip; rfl)) ?_
      obtain rfl := Option.some.inj hf
      exact W.iret (v := o60.1) hx hb hr (fun t ht hW => ⟨⟨o60.1, (ad55, gd56, vad57), rfl, ⟨rfl, hE, hN⟩, by rw [ht]; exact hP, va_K.moved hW.alike hK, hD⟩, hS.F ht⟩) hS.2.2 dM_read_76
    rw [if_neg hk52] at hf
    by_cases hk64 : o8.1 = 3
    · rw [if_pos hk64] at hf
      exact nomatch hf
    rw [if_neg hk64] at hf
    exact nomatch hf
  · rw [if_neg hc] at hf
    refine lv_aload_n hx hb dM_read_12 rfl (lv_at hl 0 rfl) ?_
    refine lv_iconst (v := 1) hx hb dM_read_13 (by decide) ?_
    obtain ⟨o8, hq9, hf⟩ := xbind hf
    have hFc := xm_free hD hS hA
    refine va_calli (va_runV (C := "ValueBenchModel") (As := [.int 1]) (rest := []) ⟨hx, hb, hml, hown, htx⟩ (gM_fail l hl9 D cT aK aV H.size n aM ad rd gd vad o1 (1 : Int32) o8 hq9) ⟨callB_of 1 htx (xw_goodC kw_5_195) rfl rfl rfl (htx _ kw_1_5) (htx _ kw_5_192) ⟨by decide, by decide, by decide +kernel⟩ ⟨Nat.le_of_ble_eq_true rfl, Nat.le_of_ble_eq_true rfl⟩, (htx _ kw_5_194), (htx _ kp_M_fail)⟩ ⟨xPre_blind, va_recv hK hP (ci := 5) rfl (q0 := 0) rfl, (fun U hU hW => ⟨rfl, xPre_of hZ hS hFc hP hD hK U hU hW⟩)⟩ rfl rfl hl.1 rfl (xm_room (Nat.le_of_ble_eq_true rfl)) dM_read_14 ⟨Nat.zero_le _, Nat.zero_le _⟩) hS (fun q _ h => hFc q h) hFc (fun r10 u9 t H1 locs ht hvm hr9 hB hz1 hk1 hS => ?_)
    obtain ⟨hP1, hK1, hD1⟩ := hB
    rw [ht] at hP1
    obtain ⟨hr9, hn11⟩ := hr9
    have hN : xct st ≤ xct o8.2 := Nat.le_trans hN hn11
    have hP : va_P D xcl (xMw cT aM ad rd gd vad o8.2 []) H1 := hP1
    have hD : va_D A (xMw cT aM ad rd gd vad o8.2 []) := hD1.weaken (fun k q _ h => hFc q.1 h)
    generalize H1 = H at hP hS ⊢
    rw [hr9]
    refine W.eq (g2 := F0 m 17 ls [.int o8.1]) (by first | rfl | (skip; rfl)) ?_
    obtain rfl := Option.some.inj hf
    exact W.iret (v := o8.1) hx hb hr (fun t ht hW => ⟨⟨o8.1, (ad, gd, vad), rfl, ⟨rfl, hE, hN⟩, by rw [ht]; exact hP, va_K.moved hW.alike hK, hD⟩, hS.F ht⟩) hS.2.2 dM_read_17
set_option maxHeartbeats 400000000 in
set_option maxRecDepth 100000 in
theorem gM_same0 (l : Launch) (hl9 : l.stackTraces = false) (D : va_G) (cT : Nat → ClassId) (aK aV : Nat → Nat) (sz d n : Nat) (aM : Nat) (ad rd gd vad : Nat → Nat) (st : xS) (x0 : Int32) (x1 : Int32) (out : Nat × Nat × Nat × Int32 × xS) (hf : fM_same0 d n st x0 x1 = some out) (hkd : out.1 = 0) : xMet l yM_same0 wyM_same0 (16 * d + 9) out.2.1 out.2.2.1 (400 * d + 166) D cT aK aV sz [.ref aM, .int x0, .int x1] (xMw cT aM ad rd gd vad st []) (fun A => va_Qi (fun (r : Int32) (u : xU) => r = out.2.2.2.1 ∧ xE vad st out.2.2.2.2 u) (fun u t => xB D xcl cT A (xMw cT aM u.1 rd u.2.1 u.2.2 out.2.2.2.2 []) t) A) := by
  refine Met.ofW (cc := prog_13_method_86_code) (maxL := 3) (ret := (some .boolean)) (by decide) rfl ?_
  intro p e s m args below meth c s₁ B hml hv
  obtain ⟨rfl, hsz, hZ, hP, hK, hD0⟩ := hv
  have hx := B.exec
  have hb := B.bytes
  have hr := B.returns
  have hts := atoms_spec (ws := wyM_same0) B.pre
  have htx := fun w h => hts w (List.mem_cons_of_mem _ h)
  have hown : s.vm.findClass "ValueBenchModel" = some m.cls := findClass_of_methodNamed B.named
  have hlocks := B.notSynchronized
  subst hsz
  have hD := hD0.self (sz := s.heap.size)
  generalize hAe : va_A (xMw cT aM ad rd gd vad st []) s.heap.size = A at hD hZ ⊢
  have hA : ∀ q : Nat, s.heap.size ≤ q → A q := fun q h => by rw [← hAe]; exact Or.inr h
  have hS : va_S A s.heap s.heap [] := va_S.rf
  have hl := lv_entry ([.ref aM, .int x0, .int x1]) (n := 3) (by simp [lg_sl, xvcat, xrscat, xcI, xcL, xcR, xcN])
  rw [show lv_args 0 [.ref aM, .int x0, .int x1] = [(0, .ref aM), (1, .int x0), (2, .int x1)] from by simp [lv_args, xvcat, xrscat, xcI, xcL, xcR, xcN]] at hl
  rw [lg_entry_eq]
  generalize (lg_sl ([.ref aM, .int x0, .int x1]) ++ List.replicate (3 - (lg_sl ([.ref aM, .int x0, .int x1])).length) Slot.unset).toArray = ls at hl ⊢
  have hl : lv_has ls 3 [(0, .ref aM), (1, .int x0), (2, .int x1)] := hl
  have hE : ∀ p, p < xct st → vad p = vad p := fun _ _ => rfl
  have hN : xct st ≤ xct st := Nat.le_refl _
  unfold fM_same0 at hf
  refine lv_aload_n hx hb dM_same0_0 rfl (lv_at hl 0 rfl) ?_
  obtain ⟨o1, hq2, hf⟩ := xbind hf
  have hFc := xm_free hD hS hA
  refine va_callv (va_runV (C := "ValueBenchModel") (As := []) (rest := []) ⟨hx, hb, hml, hown, htx⟩ (gM_begin l hl9 D cT aK aV s.heap.size n aM ad rd gd vad st o1 hq2) ⟨callB_of 0 htx (xw_goodC kw_5_209) rfl rfl rfl (htx _ kw_1_5) (htx _ kw_5_206) ⟨by decide, by decide, by decide +kernel⟩ ⟨Nat.le_of_ble_eq_true rfl, Nat.le_of_ble_eq_true rfl⟩, (htx _ kw_5_208), (htx _ kp_M_begin)⟩ ⟨xPre_blind, va_recv hK hP (ci := 5) rfl (q0 := 0) rfl, (fun U hU hW => ⟨rfl, xPre_of hZ hS hFc hP hD hK U hU hW⟩)⟩ rfl rfl hl.1 rfl (xm_room (Nat.le_of_ble_eq_true rfl)) dM_same0_1 ⟨Nat.zero_le _, Nat.zero_le _⟩) hS (fun q _ h => hFc q h) hFc (fun u9 t H1 locs ht hvm hr9 hB hz1 hk1 hS => ?_)
  obtain ⟨hP1, hK1, hD1⟩ := hB
  rw [ht] at hP1
  have hn4 := hr9
  have hN : xct st ≤ xct o1 := Nat.le_trans hN hn4
  have hP : va_P D xcl (xMw cT aM ad rd gd vad o1 []) H1 := hP1
  have hD : va_D A (xMw cT aM ad rd gd vad o1 []) := hD1.weaken (fun k q _ h => hFc q.1 h)
  generalize H1 = H at hP hS ⊢
  refine W.eq (g2 := F0 m 4 ls []) (by first | rfl | (skip; rfl)) ?_
  refine lv_aload_n hx hb dM_same0_4 rfl (lv_at hl 0 rfl) ?_
  refine lv_iload_n hx hb dM_same0_5 rfl (lv_at hl 1 rfl) ?_
  obtain ⟨o5, hq6, hf⟩ := xbind hf
  have hFc := xm_free hD hS hA
  refine va_calli (va_runV (C := "ValueBenchModel") (As := [.int x0]) (rest := []) ⟨hx, hb, hml, hown, htx⟩ (gM_out l hl9 D cT aK aV H.size n aM ad rd gd vad o1 x0 o5 hq6) ⟨callB_of 1 htx (xw_goodC kw_5_217) rfl rfl rfl (htx _ kw_1_5) (htx _ kw_5_214) ⟨by decide, by decide, by decide +kernel⟩ ⟨Nat.le_of_ble_eq_true rfl, Nat.le_of_ble_eq_true rfl⟩, (htx _ kw_5_216), (htx _ kp_M_out)⟩ ⟨xPre_blind, va_recv hK hP (ci := 5) rfl (q0 := 0) rfl, (fun U hU hW => ⟨rfl, xPre_of hZ hS hFc hP hD hK U hU hW⟩)⟩ rfl rfl hl.1 rfl (xm_room (Nat.le_of_ble_eq_true rfl)) dM_same0_6 ⟨Nat.zero_le _, Nat.zero_le _⟩) hS (fun q _ h => hFc q h) hFc (fun r7 u9 t H1 locs ht hvm hr9 hB hz1 hk1 hS => ?_)
  obtain ⟨hP1, hK1, hD1⟩ := hB
  rw [ht] at hP1
  have hP : va_P D xcl (xMw cT aM ad rd gd vad o1 []) H1 := hP1
  have hD : va_D A (xMw cT aM ad rd gd vad o1 []) := hD1.weaken (fun k q _ h => hFc q.1 h)
  generalize H1 = H at hP hS ⊢
  rw [hr9]
  refine W.eq (g2 := F0 m 9 ls [.int o5]) (by first | rfl | (skip; rfl)) ?_
  refine lv_if_ne (tgt := 20) hx hb dM_same0_9 (by decide) (fun hc => ?_) (fun hc => ?_)
  · rw [if_neg hc] at hf
    refine lv_aload_n hx hb dM_same0_20 rfl (lv_at hl 0 rfl) ?_
    refine lv_iconst (v := 1) hx hb dM_same0_21 (by decide) ?_
    obtain ⟨o8, hq9, hf⟩ := xbind hf
    have hFc := xm_free hD hS hA
    refine va_calli (va_runV (C := "ValueBenchModel") (As := [.int 1]) (rest := []) ⟨hx, hb, hml, hown, htx⟩ (gM_fail l hl9 D cT aK aV H.size n aM ad rd gd vad o1 (1 : Int32) o8 hq9) ⟨callB_of 1 htx (xw_goodC kw_5_195) rfl rfl rfl (htx _ kw_1_5) (htx _ kw_5_192) ⟨by decide, by decide, by decide +kernel⟩ ⟨Nat.le_of_ble_eq_true rfl, Nat.le_of_ble_eq_true rfl⟩, (htx _ kw_5_194), (htx _ kp_M_fail)⟩ ⟨xPre_blind, va_recv hK hP (ci := 5) rfl (q0 := 0) rfl, (fun U hU hW => ⟨rfl, xPre_of hZ hS hFc hP hD hK U hU hW⟩)⟩ rfl rfl hl.1 rfl (xm_room (Nat.le_of_ble_eq_true rfl)) dM_same0_22 ⟨Nat.zero_le _, Nat.zero_le _⟩) hS (fun q _ h => hFc q h) hFc (fun r10 u9 t H1 locs ht hvm hr9 hB hz1 hk1 hS => ?_)
    obtain ⟨hP1, hK1, hD1⟩ := hB
    rw [ht] at hP1
    obtain ⟨hr9, hn11⟩ := hr9
    have hN : xct st ≤ xct o8.2 := Nat.le_trans hN hn11
    have hP : va_P D xcl (xMw cT aM ad rd gd vad o8.2 []) H1 := hP1
    have hD : va_D A (xMw cT aM ad rd gd vad o8.2 []) := hD1.weaken (fun k q _ h => hFc q.1 h)
    generalize H1 = H at hP hS ⊢
    rw [hr9]
    refine W.eq (g2 := F0 m 25 ls [.int o8.1]) (by first | rfl | (skip; rfl)) ?_
    refine lv_if_le (tgt := 32) hx hb dM_same0_25 (by decide) (fun hc => ?_) (fun hc => ?_)
    · rw [if_pos hc] at hf
      refine lv_iconst (v := 0) hx hb dM_same0_32 (by decide) ?_
      obtain rfl := Option.some.inj hf
      exact W.zret (v := (0 : Int32)) hx hb hr rfl (fun t ht hW => ⟨⟨(0 : Int32), (ad, gd, vad), rfl, ⟨rfl, hE, hN⟩, by rw [ht]; exact hP, va_K.moved hW.alike hK, hD⟩, hS.F ht⟩) hS.2.2 dM_same0_33
    · rw [if_neg hc] at hf
      refine lv_iconst (v := 1) hx hb dM_same0_28 (by decide) ?_
      refine lv_goto (tgt := 33) hx hb dM_same0_29 (by decide) ?_
      obtain rfl := Option.some.inj hf
      exact W.zret (v := (1 : Int32)) hx hb hr rfl (fun t ht hW => ⟨⟨(1 : Int32), (ad, gd, vad), rfl, ⟨rfl, hE, hN⟩, by rw [ht]; exact hP, va_K.moved hW.alike hK, hD⟩, hS.F ht⟩) hS.2.2 dM_same0_33
  · rw [if_pos hc] at hf
    refine lv_aload_n hx hb dM_same0_12 rfl (lv_at hl 0 rfl) ?_
    refine lv_iload_n hx hb dM_same0_13 rfl (lv_at hl 2 rfl) ?_
    obtain ⟨o8, hq9, hf⟩ := xbind hf
    have hFc := xm_free hD hS hA
    refine va_calli (va_runV (C := "ValueBenchModel") (As := [.int x1]) (rest := []) ⟨hx, hb, hml, hown, htx⟩ (gM_out l hl9 D cT aK aV H.size n aM ad rd gd vad o1 x1 o8 hq9) ⟨callB_of 1 htx (xw_goodC kw_5_217) rfl rfl rfl (htx _ kw_1_5) (htx _ kw_5_214) ⟨by decide, by decide, by decide +kernel⟩ ⟨Nat.le_of_ble_eq_true rfl, Nat.le_of_ble_eq_true rfl⟩, (htx _ kw_5_216), (htx _ kp_M_out)⟩ ⟨xPre_blind, va_recv hK hP (ci := 5) rfl (q0 := 0) rfl, (fun U hU hW => ⟨rfl, xPre_of hZ hS hFc hP hD hK U hU hW⟩)⟩ rfl rfl hl.1 rfl (xm_room (Nat.le_of_ble_eq_true rfl)) dM_same0_14 ⟨Nat.zero_le _, Nat.zero_le _⟩) hS (fun q _ h => hFc q h) hFc (fun r10 u9 t H1 locs ht hvm hr9 hB hz1 hk1 hS => ?_)
    obtain ⟨hP1, hK1, hD1⟩ := hB
    rw [ht] at hP1
    have hP : va_P D xcl (xMw cT aM ad rd gd vad o1 []) H1 := hP1
    have hD : va_D A (xMw cT aM ad rd gd vad o1 []) := hD1.weaken (fun k q _ h => hFc q.1 h)
    generalize H1 = H at hP hS ⊢
    rw [hr9]
    refine W.eq (g2 := F0 m 17 ls [.int o8]) (by first | rfl | (skip; rfl)) ?_
    refine lv_if_eq (tgt := 34) hx hb dM_same0_17 (by decide) (fun hc => ?_) (fun hc => ?_)
    · rw [if_pos hc] at hf
      refine lv_aload_n hx hb dM_same0_34 rfl (lv_at hl 0 rfl) ?_
      refine lv_aload_n hx hb dM_same0_35 rfl (lv_at hl 0 rfl) ?_
      refine lv_iload_n hx hb dM_same0_36 rfl (lv_at hl 1 rfl) ?_
      obtain ⟨o11, hq12, hf⟩ := xbind hf
      by_cases hk13 : o11.1 = 0
      · rw [if_pos hk13] at hf
        obtain ⟨hm14, hf⟩ := xmoE hf
        have hFc := xm_free hD hS hA
        refine va_callq (va_runV (C := "ValueBenchModel") (As := [.int x0]) (rest := [.ref aM]) ⟨hx, hb, hml, hown, htx⟩ (gM_register l hl9 D cT aK aV H.size d n aM ad rd gd vad o1 x0 o11 hq12 hk13) ⟨callB_of 1 htx (xw_goodC kw_6_170) rfl rfl rfl (htx _ kw_1_5) (htx _ kw_6_167) ⟨by decide, by decide, by decide +kernel⟩ ⟨(by show (16 * d + 8) + 1 ≤ 16 * d + 9; omega), (by show 8 + (2 + 11) + (400 * d + 145) ≤ 400 * d + 166; omega)⟩, (htx _ kw_6_169), (htx _ kp_M_register)⟩ ⟨xPre_blind, va_recv hK hP (ci := 5) rfl (q0 := 0) rfl, (fun U hU hW => ⟨rfl, xPre_of hZ hS hFc hP hD hK U hU hW⟩)⟩ rfl rfl hl.1 rfl (xm_room (Nat.le_of_ble_eq_true rfl)) dM_same0_37 ⟨hm14.1, hm14.2⟩) hS (fun q _ h => hFc q h) hFc (fun r15 u9 t H1 locs ht hvm hr9 hB hz1 hk1 hS => ?_)
        obtain ⟨hP1, hK1, hD1⟩ := hB
        rw [ht] at hP1
        obtain ⟨ad16, gd17, vad18⟩ := u9
        obtain ⟨hr9, hv19, hn20⟩ := hr9
        have hP : va_P D xcl (xMw cT aM ad16 rd gd17 vad18 o11.2.2.2.2 []) H1 := hP1
        have hD : va_D A (xMw cT aM ad16 rd gd17 vad18 o11.2.2.2.2 []) := hD1.weaken (fun k q _ h => hFc q.1 h)
        generalize H1 = H at hP hS ⊢
        have hE9 : ∀ p, p < xct st → vad18 p = vad p := fun p h => (hv19 p (Nat.lt_of_lt_of_le h hN)).trans (hE p h)
        have hE := hE9
        have hN : xct st ≤ xct o11.2.2.2.2 := Nat.le_trans hN hn20
        rw [hr9]
        refine W.eq (g2 := F0 m 40 ls [xv vad18 o11.2.2.2.1, .ref aM]) (by first | rfl | (skip; rfl)) ?_
        refine lv_aload_n hx hb dM_same0_40 rfl (lv_at hl 0 rfl) ?_
        refine lv_iload_n hx hb dM_same0_41 rfl (lv_at hl 2 rfl) ?_
        obtain ⟨o21, hq22, hf⟩ := xbind hf
        by_cases hk23 : o21.1 = 0
        · rw [if_pos hk23] at hf
          obtain ⟨hg24, hf⟩ := xifn hf
          obtain ⟨hm25, hf⟩ := xmoE hf
          have hFc := xm_free hD hS hA
          refine va_callq (va_runV (C := "ValueBenchModel") (As := [.int x1]) (rest := [xv vad18 o11.2.2.2.1, .ref aM]) ⟨hx, hb, hml, hown, htx⟩ (gM_register l hl9 D cT aK aV H.size d n aM ad16 rd gd17 vad18 o11.2.2.2.2 x1 o21 hq22 hk23) ⟨callB_of 1 htx (xw_goodC kw_6_170) rfl rfl rfl (htx _ kw_1_5) (htx _ kw_6_167) ⟨by decide, by decide, by decide +kernel⟩ ⟨(by show (16 * d + 8) + 1 ≤ 16 * d + 9; omega), (by show 8 + (2 + 11) + (400 * d + 145) ≤ 400 * d + 166; omega)⟩, (htx _ kw_6_169), (htx _ kp_M_register)⟩ ⟨xPre_blind, va_recv hK hP (ci := 5) rfl (q0 := 0) rfl, (fun U hU hW => ⟨rfl, xPre_of hZ hS hFc hP hD hK U hU hW⟩)⟩ rfl rfl hl.1 rfl (xm_room (by simp [xvcat, xrscat, xcI, xcL, xcR, xcN])) dM_same0_42 ⟨hm25.1, hm25.2⟩) hS (fun q _ h => hFc q h) hFc (fun r26 u9 t H1 locs ht hvm hr9 hB hz1 hk1 hS => ?_)
          obtain ⟨hP1, hK1, hD1⟩ := hB
          rw [ht] at hP1
          obtain ⟨ad27, gd28, vad29⟩ := u9
          obtain ⟨hr9, hv30, hn31⟩ := hr9
          have hP : va_P D xcl (xMw cT aM ad27 rd gd28 vad29 o21.2.2.2.2 []) H1 := hP1
          have hD : va_D A (xMw cT aM ad27 rd gd28 vad29 o21.2.2.2.2 []) := hD1.weaken (fun k q _ h => hFc q.1 h)
          generalize H1 = H at hP hS ⊢
          have hE9 : ∀ p, p < xct st → vad29 p = vad p := fun p h => (hv30 p (Nat.lt_of_lt_of_le h hN)).trans (hE p h)
          have hE := hE9
          have hN : xct st ≤ xct o21.2.2.2.2 := Nat.le_trans hN hn31
          have ev32 : xv vad18 o11.2.2.2.1 = xv vad29 o11.2.2.2.1 := xvE hv30 hg24
          rw [hr9]
          refine W.eq (g2 := F0 m 45 ls [xv vad29 o21.2.2.2.1, xv vad29 o11.2.2.2.1, .ref aM]) (by first | rfl | ((try (rw [ev32])); rfl)) ?_
          obtain ⟨o33, hq34, hf⟩ := xbind hf
          have hFc := xm_free hD hS hA
          refine va_calli (va_runV (C := "ValueBenchModel") (As := [xv vad29 o11.2.2.2.1, xv vad29 o21.2.2.2.1]) (rest := []) ⟨hx, hb, hml, hown, htx⟩ (gM_same1 l hl9 D cT aK aV d H.size n aM ad27 rd gd28 vad29 o21.2.2.2.2 o11.2.2.2.1 o21.2.2.2.1 o33 hq34) ⟨callB_of 2 htx (xw_goodC kw_6_174) rfl rfl rfl (htx _ kw_1_5) (htx _ kw_6_171) ⟨by decide, by decide, by decide +kernel⟩ ⟨(by show (16 * d) + 1 ≤ 16 * d + 9; omega), (by show 8 + (5 + 11) + (400 * d) ≤ 400 * d + 166; omega)⟩, (htx _ kw_6_173), (htx _ kp_M_same1)⟩ ⟨xPre_blind, va_recv hK hP (ci := 5) rfl (q0 := 0) rfl, (fun U hU hW => ⟨rfl, xPre_of hZ hS hFc hP hD hK U hU hW⟩)⟩ rfl rfl hl.1 rfl (xm_room (Nat.le_of_ble_eq_true rfl)) dM_same0_45 ⟨hm25.1, hm25.2⟩) hS (fun q _ h => hFc q h) hFc (fun r35 u9 t H1 locs ht hvm hr9 hB hz1 hk1 hS => ?_)
          obtain ⟨hP1, hK1, hD1⟩ := hB
          rw [ht] at hP1
          have hP : va_P D xcl (xMw cT aM ad27 rd gd28 vad29 o21.2.2.2.2 []) H1 := hP1
          have hD : va_D A (xMw cT aM ad27 rd gd28 vad29 o21.2.2.2.2 []) := hD1.weaken (fun k q _ h => hFc q.1 h)
          generalize H1 = H at hP hS ⊢
          rw [hr9]
          refine W.eq (g2 := F0 m 48 ls [.int o33]) (by first | rfl | (skip; rfl)) ?_
          obtain ⟨hg36, hf⟩ := xifn hf
          obtain rfl := Option.some.inj hf
          exact W.zret (v := o33) hx hb hr (xzb hg36) (fun t ht hW => ⟨⟨o33, (ad27, gd28, vad29), rfl, ⟨rfl, hE, hN⟩, by rw [ht]; exact hP, va_K.moved hW.alike hK, hD⟩, hS.F ht⟩) hS.2.2 dM_same0_48
        rw [if_neg hk23] at hf
        by_cases hk37 : o21.1 = 1
        · rw [if_pos hk37] at hf
          obtain ⟨hm38, hf⟩ := xmoE hf
          obtain rfl := Option.some.inj hf
          exact absurd (show (1 : Nat) = 0 from hkd) (by decide)
        rw [if_neg hk37] at hf
        by_cases hk45 : o21.1 = 2
        · rw [if_pos hk45] at hf
          obtain ⟨hm46, hf⟩ := xmoE hf
          obtain rfl := Option.some.inj hf
          exact absurd (show (2 : Nat) = 0 from hkd) (by decide)
        rw [if_neg hk45] at hf
        by_cases hk53 : o21.1 = 3
        · rw [if_pos hk53] at hf
          obtain ⟨hm54, hf⟩ := xmoE hf
          obtain rfl := Option.some.inj hf
          exact absurd (show (3 : Nat) = 0 from hkd) (by decide)
        rw [if_neg hk53] at hf
        exact nomatch hf
      rw [if_neg hk13] at hf
      by_cases hk61 : o11.1 = 1
      · rw [if_pos hk61] at hf
        obtain ⟨hm62, hf⟩ := xmoE hf
        obtain rfl := Option.some.inj hf
        exact absurd (show (1 : Nat) = 0 from hkd) (by decide)
      rw [if_neg hk61] at hf
      by_cases hk69 : o11.1 = 2
      · rw [if_pos hk69] at hf
        obtain ⟨hm70, hf⟩ := xmoE hf
        obtain rfl := Option.some.inj hf
        exact absurd (show (2 : Nat) = 0 from hkd) (by decide)
      rw [if_neg hk69] at hf
      by_cases hk77 : o11.1 = 3
      · rw [if_pos hk77] at hf
        obtain ⟨hm78, hf⟩ := xmoE hf
        obtain rfl := Option.some.inj hf
        exact absurd (show (3 : Nat) = 0 from hkd) (by decide)
      rw [if_neg hk77] at hf
      exact nomatch hf
    · rw [if_neg hc] at hf
      refine lv_aload_n hx hb dM_same0_20 rfl (lv_at hl 0 rfl) ?_
      refine lv_iconst (v := 1) hx hb dM_same0_21 (by decide) ?_
      obtain ⟨o11, hq12, hf⟩ := xbind hf
      have hFc := xm_free hD hS hA
      refine va_calli (va_runV (C := "ValueBenchModel") (As := [.int 1]) (rest := []) ⟨hx, hb, hml, hown, htx⟩ (gM_fail l hl9 D cT aK aV H.size n aM ad rd gd vad o1 (1 : Int32) o11 hq12) ⟨callB_of 1 htx (xw_goodC kw_5_195) rfl rfl rfl (htx _ kw_1_5) (htx _ kw_5_192) ⟨by decide, by decide, by decide +kernel⟩ ⟨Nat.le_of_ble_eq_true rfl, Nat.le_of_ble_eq_true rfl⟩, (htx _ kw_5_194), (htx _ kp_M_fail)⟩ ⟨xPre_blind, va_recv hK hP (ci := 5) rfl (q0 := 0) rfl, (fun U hU hW => ⟨rfl, xPre_of hZ hS hFc hP hD hK U hU hW⟩)⟩ rfl rfl hl.1 rfl (xm_room (Nat.le_of_ble_eq_true rfl)) dM_same0_22 ⟨Nat.zero_le _, Nat.zero_le _⟩) hS (fun q _ h => hFc q h) hFc (fun r13 u9 t H1 locs ht hvm hr9 hB hz1 hk1 hS => ?_)
      obtain ⟨hP1, hK1, hD1⟩ := hB
      rw [ht] at hP1
      obtain ⟨hr9, hn14⟩ := hr9
      have hN : xct st ≤ xct o11.2 := Nat.le_trans hN hn14
      have hP : va_P D xcl (xMw cT aM ad rd gd vad o11.2 []) H1 := hP1
      have hD : va_D A (xMw cT aM ad rd gd vad o11.2 []) := hD1.weaken (fun k q _ h => hFc q.1 h)
      generalize H1 = H at hP hS ⊢
      rw [hr9]
      refine W.eq (g2 := F0 m 25 ls [.int o11.1]) (by first | rfl | (skip; rfl)) ?_
      refine lv_if_le (tgt := 32) hx hb dM_same0_25 (by decide) (fun hc => ?_) (fun hc => ?_)
      · rw [if_pos hc] at hf
        refine lv_iconst (v := 0) hx hb dM_same0_32 (by decide) ?_
        obtain rfl := Option.some.inj hf
        exact W.zret (v := (0 : Int32)) hx hb hr rfl (fun t ht hW => ⟨⟨(0 : Int32), (ad, gd, vad), rfl, ⟨rfl, hE, hN⟩, by rw [ht]; exact hP, va_K.moved hW.alike hK, hD⟩, hS.F ht⟩) hS.2.2 dM_same0_33
      · rw [if_neg hc] at hf
        refine lv_iconst (v := 1) hx hb dM_same0_28 (by decide) ?_
        refine lv_goto (tgt := 33) hx hb dM_same0_29 (by decide) ?_
        obtain rfl := Option.some.inj hf
        exact W.zret (v := (1 : Int32)) hx hb hr rfl (fun t ht hW => ⟨⟨(1 : Int32), (ad, gd, vad), rfl, ⟨rfl, hE, hN⟩, by rw [ht]; exact hP, va_K.moved hW.alike hK, hD⟩, hS.F ht⟩) hS.2.2 dM_same0_33
set_option maxHeartbeats 400000000 in
set_option maxRecDepth 100000 in
theorem gM_same0_1 (l : Launch) (hl9 : l.stackTraces = false) (D : va_G) (cT : Nat → ClassId) (aK aV : Nat → Nat) (sz d n : Nat) (aM : Nat) (ad rd gd vad : Nat → Nat) (st : xS) (x0 : Int32) (x1 : Int32) (out : Nat × Nat × Nat × Int32 × xS) (hf : fM_same0 d n st x0 x1 = some out) (hkd : out.1 = 1) : xMetY l yM_same0 wyM_same0 (16 * d + 9) out.2.1 out.2.2.1 (400 * d + 166) D cT aK aV sz [.ref aM, .int x0, .int x1] (xMw cT aM ad rd gd vad st []) "java/lang/UnsupportedOperationException" (fun u => xE vad st out.2.2.2.2 u) (fun A u t => xB D xcl cT A (xMw cT aM u.1 rd u.2.1 u.2.2 out.2.2.2.2 []) t) := by
  refine vx_ofW (cc := prog_13_method_86_code) (maxL := 3) (ret := (some .boolean)) (by decide) rfl ?_
  intro p e s m args below meth c s₁ B hml hne hv
  obtain ⟨rfl, hsz, hZ, hP, hK, hD0⟩ := hv
  have hx := B.exec
  have hb := B.bytes
  have hr := B.returns
  have hts := atoms_spec (ws := wyM_same0) B.pre
  have htx := fun w h => hts w (List.mem_cons_of_mem _ h)
  have hown : s.vm.findClass "ValueBenchModel" = some m.cls := findClass_of_methodNamed B.named
  have hlocks := B.notSynchronized
  subst hsz
  have hD := hD0.self (sz := s.heap.size)
  generalize hAe : va_A (xMw cT aM ad rd gd vad st []) s.heap.size = A at hD hZ ⊢
  have hA : ∀ q : Nat, s.heap.size ≤ q → A q := fun q h => by rw [← hAe]; exact Or.inr h
  have hS : va_S A s.heap s.heap [] := va_S.rf
  have hl := lv_entry ([.ref aM, .int x0, .int x1]) (n := 3) (by simp [lg_sl, xvcat, xrscat, xcI, xcL, xcR, xcN])
  rw [show lv_args 0 [.ref aM, .int x0, .int x1] = [(0, .ref aM), (1, .int x0), (2, .int x1)] from by simp [lv_args, xvcat, xrscat, xcI, xcL, xcR, xcN]] at hl
  rw [lg_entry_eq]
  generalize (lg_sl ([.ref aM, .int x0, .int x1]) ++ List.replicate (3 - (lg_sl ([.ref aM, .int x0, .int x1])).length) Slot.unset).toArray = ls at hl ⊢
  have hl : lv_has ls 3 [(0, .ref aM), (1, .int x0), (2, .int x1)] := hl
  have hE : ∀ p, p < xct st → vad p = vad p := fun _ _ => rfl
  have hN : xct st ≤ xct st := Nat.le_refl _
  unfold fM_same0 at hf
  refine lv_aload_n hx hb dM_same0_0 rfl (lv_at hl 0 rfl) ?_
  obtain ⟨o1, hq2, hf⟩ := xbind hf
  have hFc := xm_free hD hS hA
  refine va_callv (va_runV (C := "ValueBenchModel") (As := []) (rest := []) ⟨hx, hb, hml, hown, htx⟩ (gM_begin l hl9 D cT aK aV s.heap.size n aM ad rd gd vad st o1 hq2) ⟨callB_of 0 htx (xw_goodC kw_5_209) rfl rfl rfl (htx _ kw_1_5) (htx _ kw_5_206) ⟨by decide, by decide, by decide +kernel⟩ ⟨Nat.le_of_ble_eq_true rfl, Nat.le_of_ble_eq_true rfl⟩, (htx _ kw_5_208), (htx _ kp_M_begin)⟩ ⟨xPre_blind, va_recv hK hP (ci := 5) rfl (q0 := 0) rfl, (fun U hU hW => ⟨rfl, xPre_of hZ hS hFc hP hD hK U hU hW⟩)⟩ rfl rfl hl.1 rfl (xm_room (Nat.le_of_ble_eq_true rfl)) dM_same0_1 ⟨Nat.zero_le _, Nat.zero_le _⟩) hS (fun q _ h => hFc q h) hFc (fun u9 t H1 locs ht hvm hr9 hB hz1 hk1 hS => ?_)
  obtain ⟨hP1, hK1, hD1⟩ := hB
  rw [ht] at hP1
  have hn4 := hr9
  have hN : xct st ≤ xct o1 := Nat.le_trans hN hn4
  have hP : va_P D xcl (xMw cT aM ad rd gd vad o1 []) H1 := hP1
  have hD : va_D A (xMw cT aM ad rd gd vad o1 []) := hD1.weaken (fun k q _ h => hFc q.1 h)
  generalize H1 = H at hP hS ⊢
  refine W.eq (g2 := F0 m 4 ls []) (by first | rfl | (skip; rfl)) ?_
  refine lv_aload_n hx hb dM_same0_4 rfl (lv_at hl 0 rfl) ?_
  refine lv_iload_n hx hb dM_same0_5 rfl (lv_at hl 1 rfl) ?_
  obtain ⟨o5, hq6, hf⟩ := xbind hf
  have hFc := xm_free hD hS hA
  refine va_calli (va_runV (C := "ValueBenchModel") (As := [.int x0]) (rest := []) ⟨hx, hb, hml, hown, htx⟩ (gM_out l hl9 D cT aK aV H.size n aM ad rd gd vad o1 x0 o5 hq6) ⟨callB_of 1 htx (xw_goodC kw_5_217) rfl rfl rfl (htx _ kw_1_5) (htx _ kw_5_214) ⟨by decide, by decide, by decide +kernel⟩ ⟨Nat.le_of_ble_eq_true rfl, Nat.le_of_ble_eq_true rfl⟩, (htx _ kw_5_216), (htx _ kp_M_out)⟩ ⟨xPre_blind, va_recv hK hP (ci := 5) rfl (q0 := 0) rfl, (fun U hU hW => ⟨rfl, xPre_of hZ hS hFc hP hD hK U hU hW⟩)⟩ rfl rfl hl.1 rfl (xm_room (Nat.le_of_ble_eq_true rfl)) dM_same0_6 ⟨Nat.zero_le _, Nat.zero_le _⟩) hS (fun q _ h => hFc q h) hFc (fun r7 u9 t H1 locs ht hvm hr9 hB hz1 hk1 hS => ?_)
  obtain ⟨hP1, hK1, hD1⟩ := hB
  rw [ht] at hP1
  have hP : va_P D xcl (xMw cT aM ad rd gd vad o1 []) H1 := hP1
  have hD : va_D A (xMw cT aM ad rd gd vad o1 []) := hD1.weaken (fun k q _ h => hFc q.1 h)
  generalize H1 = H at hP hS ⊢
  rw [hr9]
  refine W.eq (g2 := F0 m 9 ls [.int o5]) (by first | rfl | (skip; rfl)) ?_
  refine lv_if_ne (tgt := 20) hx hb dM_same0_9 (by decide) (fun hc => ?_) (fun hc => ?_)
  · rw [if_neg hc] at hf
    refine lv_aload_n hx hb dM_same0_20 rfl (lv_at hl 0 rfl) ?_
    refine lv_iconst (v := 1) hx hb dM_same0_21 (by decide) ?_
    obtain ⟨o8, hq9, hf⟩ := xbind hf
    have hFc := xm_free hD hS hA
    refine va_calli (va_runV (C := "ValueBenchModel") (As := [.int 1]) (rest := []) ⟨hx, hb, hml, hown, htx⟩ (gM_fail l hl9 D cT aK aV H.size n aM ad rd gd vad o1 (1 : Int32) o8 hq9) ⟨callB_of 1 htx (xw_goodC kw_5_195) rfl rfl rfl (htx _ kw_1_5) (htx _ kw_5_192) ⟨by decide, by decide, by decide +kernel⟩ ⟨Nat.le_of_ble_eq_true rfl, Nat.le_of_ble_eq_true rfl⟩, (htx _ kw_5_194), (htx _ kp_M_fail)⟩ ⟨xPre_blind, va_recv hK hP (ci := 5) rfl (q0 := 0) rfl, (fun U hU hW => ⟨rfl, xPre_of hZ hS hFc hP hD hK U hU hW⟩)⟩ rfl rfl hl.1 rfl (xm_room (Nat.le_of_ble_eq_true rfl)) dM_same0_22 ⟨Nat.zero_le _, Nat.zero_le _⟩) hS (fun q _ h => hFc q h) hFc (fun r10 u9 t H1 locs ht hvm hr9 hB hz1 hk1 hS => ?_)
    obtain ⟨hP1, hK1, hD1⟩ := hB
    rw [ht] at hP1
    obtain ⟨hr9, hn11⟩ := hr9
    have hN : xct st ≤ xct o8.2 := Nat.le_trans hN hn11
    have hP : va_P D xcl (xMw cT aM ad rd gd vad o8.2 []) H1 := hP1
    have hD : va_D A (xMw cT aM ad rd gd vad o8.2 []) := hD1.weaken (fun k q _ h => hFc q.1 h)
    generalize H1 = H at hP hS ⊢
    rw [hr9]
    refine W.eq (g2 := F0 m 25 ls [.int o8.1]) (by first | rfl | (skip; rfl)) ?_
    refine lv_if_le (tgt := 32) hx hb dM_same0_25 (by decide) (fun hc => ?_) (fun hc => ?_)
    · rw [if_pos hc] at hf
      refine lv_iconst (v := 0) hx hb dM_same0_32 (by decide) ?_
      obtain rfl := Option.some.inj hf
      exact absurd (show (0 : Nat) = 1 from hkd) (by decide)
    · rw [if_neg hc] at hf
      refine lv_iconst (v := 1) hx hb dM_same0_28 (by decide) ?_
      refine lv_goto (tgt := 33) hx hb dM_same0_29 (by decide) ?_
      obtain rfl := Option.some.inj hf
      exact absurd (show (0 : Nat) = 1 from hkd) (by decide)
  · rw [if_pos hc] at hf
    refine lv_aload_n hx hb dM_same0_12 rfl (lv_at hl 0 rfl) ?_
    refine lv_iload_n hx hb dM_same0_13 rfl (lv_at hl 2 rfl) ?_
    obtain ⟨o8, hq9, hf⟩ := xbind hf
    have hFc := xm_free hD hS hA
    refine va_calli (va_runV (C := "ValueBenchModel") (As := [.int x1]) (rest := []) ⟨hx, hb, hml, hown, htx⟩ (gM_out l hl9 D cT aK aV H.size n aM ad rd gd vad o1 x1 o8 hq9) ⟨callB_of 1 htx (xw_goodC kw_5_217) rfl rfl rfl (htx _ kw_1_5) (htx _ kw_5_214) ⟨by decide, by decide, by decide +kernel⟩ ⟨Nat.le_of_ble_eq_true rfl, Nat.le_of_ble_eq_true rfl⟩, (htx _ kw_5_216), (htx _ kp_M_out)⟩ ⟨xPre_blind, va_recv hK hP (ci := 5) rfl (q0 := 0) rfl, (fun U hU hW => ⟨rfl, xPre_of hZ hS hFc hP hD hK U hU hW⟩)⟩ rfl rfl hl.1 rfl (xm_room (Nat.le_of_ble_eq_true rfl)) dM_same0_14 ⟨Nat.zero_le _, Nat.zero_le _⟩) hS (fun q _ h => hFc q h) hFc (fun r10 u9 t H1 locs ht hvm hr9 hB hz1 hk1 hS => ?_)
    obtain ⟨hP1, hK1, hD1⟩ := hB
    rw [ht] at hP1
    have hP : va_P D xcl (xMw cT aM ad rd gd vad o1 []) H1 := hP1
    have hD : va_D A (xMw cT aM ad rd gd vad o1 []) := hD1.weaken (fun k q _ h => hFc q.1 h)
    generalize H1 = H at hP hS ⊢
    rw [hr9]
    refine W.eq (g2 := F0 m 17 ls [.int o8]) (by first | rfl | (skip; rfl)) ?_
    refine lv_if_eq (tgt := 34) hx hb dM_same0_17 (by decide) (fun hc => ?_) (fun hc => ?_)
    · rw [if_pos hc] at hf
      refine lv_aload_n hx hb dM_same0_34 rfl (lv_at hl 0 rfl) ?_
      refine lv_aload_n hx hb dM_same0_35 rfl (lv_at hl 0 rfl) ?_
      refine lv_iload_n hx hb dM_same0_36 rfl (lv_at hl 1 rfl) ?_
      obtain ⟨o11, hq12, hf⟩ := xbind hf
      by_cases hk13 : o11.1 = 0
      · rw [if_pos hk13] at hf
        obtain ⟨hm14, hf⟩ := xmoE hf
        have hFc := xm_free hD hS hA
        refine va_callq (va_runV (C := "ValueBenchModel") (As := [.int x0]) (rest := [.ref aM]) ⟨hx, hb, hml, hown, htx⟩ (gM_register l hl9 D cT aK aV H.size d n aM ad rd gd vad o1 x0 o11 hq12 hk13) ⟨callB_of 1 htx (xw_goodC kw_6_170) rfl rfl rfl (htx _ kw_1_5) (htx _ kw_6_167) ⟨by decide, by decide, by decide +kernel⟩ ⟨(by show (16 * d + 8) + 1 ≤ 16 * d + 9; omega), (by show 8 + (2 + 11) + (400 * d + 145) ≤ 400 * d + 166; omega)⟩, (htx _ kw_6_169), (htx _ kp_M_register)⟩ ⟨xPre_blind, va_recv hK hP (ci := 5) rfl (q0 := 0) rfl, (fun U hU hW => ⟨rfl, xPre_of hZ hS hFc hP hD hK U hU hW⟩)⟩ rfl rfl hl.1 rfl (xm_room (Nat.le_of_ble_eq_true rfl)) dM_same0_37 ⟨hm14.1, hm14.2⟩) hS (fun q _ h => hFc q h) hFc (fun r15 u9 t H1 locs ht hvm hr9 hB hz1 hk1 hS => ?_)
        obtain ⟨hP1, hK1, hD1⟩ := hB
        rw [ht] at hP1
        obtain ⟨ad16, gd17, vad18⟩ := u9
        obtain ⟨hr9, hv19, hn20⟩ := hr9
        have hP : va_P D xcl (xMw cT aM ad16 rd gd17 vad18 o11.2.2.2.2 []) H1 := hP1
        have hD : va_D A (xMw cT aM ad16 rd gd17 vad18 o11.2.2.2.2 []) := hD1.weaken (fun k q _ h => hFc q.1 h)
        generalize H1 = H at hP hS ⊢
        have hE9 : ∀ p, p < xct st → vad18 p = vad p := fun p h => (hv19 p (Nat.lt_of_lt_of_le h hN)).trans (hE p h)
        have hE := hE9
        have hN : xct st ≤ xct o11.2.2.2.2 := Nat.le_trans hN hn20
        rw [hr9]
        refine W.eq (g2 := F0 m 40 ls [xv vad18 o11.2.2.2.1, .ref aM]) (by first | rfl | (skip; rfl)) ?_
        refine lv_aload_n hx hb dM_same0_40 rfl (lv_at hl 0 rfl) ?_
        refine lv_iload_n hx hb dM_same0_41 rfl (lv_at hl 2 rfl) ?_
        obtain ⟨o21, hq22, hf⟩ := xbind hf
        by_cases hk23 : o21.1 = 0
        · rw [if_pos hk23] at hf
          obtain ⟨hg24, hf⟩ := xifn hf
          obtain ⟨hm25, hf⟩ := xmoE hf
          have hFc := xm_free hD hS hA
          refine va_callq (va_runV (C := "ValueBenchModel") (As := [.int x1]) (rest := [xv vad18 o11.2.2.2.1, .ref aM]) ⟨hx, hb, hml, hown, htx⟩ (gM_register l hl9 D cT aK aV H.size d n aM ad16 rd gd17 vad18 o11.2.2.2.2 x1 o21 hq22 hk23) ⟨callB_of 1 htx (xw_goodC kw_6_170) rfl rfl rfl (htx _ kw_1_5) (htx _ kw_6_167) ⟨by decide, by decide, by decide +kernel⟩ ⟨(by show (16 * d + 8) + 1 ≤ 16 * d + 9; omega), (by show 8 + (2 + 11) + (400 * d + 145) ≤ 400 * d + 166; omega)⟩, (htx _ kw_6_169), (htx _ kp_M_register)⟩ ⟨xPre_blind, va_recv hK hP (ci := 5) rfl (q0 := 0) rfl, (fun U hU hW => ⟨rfl, xPre_of hZ hS hFc hP hD hK U hU hW⟩)⟩ rfl rfl hl.1 rfl (xm_room (by simp [xvcat, xrscat, xcI, xcL, xcR, xcN])) dM_same0_42 ⟨hm25.1, hm25.2⟩) hS (fun q _ h => hFc q h) hFc (fun r26 u9 t H1 locs ht hvm hr9 hB hz1 hk1 hS => ?_)
          obtain ⟨hP1, hK1, hD1⟩ := hB
          rw [ht] at hP1
          obtain ⟨ad27, gd28, vad29⟩ := u9
          obtain ⟨hr9, hv30, hn31⟩ := hr9
          have hP : va_P D xcl (xMw cT aM ad27 rd gd28 vad29 o21.2.2.2.2 []) H1 := hP1
          have hD : va_D A (xMw cT aM ad27 rd gd28 vad29 o21.2.2.2.2 []) := hD1.weaken (fun k q _ h => hFc q.1 h)
          generalize H1 = H at hP hS ⊢
          have hE9 : ∀ p, p < xct st → vad29 p = vad p := fun p h => (hv30 p (Nat.lt_of_lt_of_le h hN)).trans (hE p h)
          have hE := hE9
          have hN : xct st ≤ xct o21.2.2.2.2 := Nat.le_trans hN hn31
          have ev32 : xv vad18 o11.2.2.2.1 = xv vad29 o11.2.2.2.1 := xvE hv30 hg24
          rw [hr9]
          refine W.eq (g2 := F0 m 45 ls [xv vad29 o21.2.2.2.1, xv vad29 o11.2.2.2.1, .ref aM]) (by first | rfl | ((try (rw [ev32])); rfl)) ?_
          obtain ⟨o33, hq34, hf⟩ := xbind hf
          have hFc := xm_free hD hS hA
          refine va_calli (va_runV (C := "ValueBenchModel") (As := [xv vad29 o11.2.2.2.1, xv vad29 o21.2.2.2.1]) (rest := []) ⟨hx, hb, hml, hown, htx⟩ (gM_same1 l hl9 D cT aK aV d H.size n aM ad27 rd gd28 vad29 o21.2.2.2.2 o11.2.2.2.1 o21.2.2.2.1 o33 hq34) ⟨callB_of 2 htx (xw_goodC kw_6_174) rfl rfl rfl (htx _ kw_1_5) (htx _ kw_6_171) ⟨by decide, by decide, by decide +kernel⟩ ⟨(by show (16 * d) + 1 ≤ 16 * d + 9; omega), (by show 8 + (5 + 11) + (400 * d) ≤ 400 * d + 166; omega)⟩, (htx _ kw_6_173), (htx _ kp_M_same1)⟩ ⟨xPre_blind, va_recv hK hP (ci := 5) rfl (q0 := 0) rfl, (fun U hU hW => ⟨rfl, xPre_of hZ hS hFc hP hD hK U hU hW⟩)⟩ rfl rfl hl.1 rfl (xm_room (Nat.le_of_ble_eq_true rfl)) dM_same0_45 ⟨hm25.1, hm25.2⟩) hS (fun q _ h => hFc q h) hFc (fun r35 u9 t H1 locs ht hvm hr9 hB hz1 hk1 hS => ?_)
          obtain ⟨hP1, hK1, hD1⟩ := hB
          rw [ht] at hP1
          have hP : va_P D xcl (xMw cT aM ad27 rd gd28 vad29 o21.2.2.2.2 []) H1 := hP1
          have hD : va_D A (xMw cT aM ad27 rd gd28 vad29 o21.2.2.2.2 []) := hD1.weaken (fun k q _ h => hFc q.1 h)
          generalize H1 = H at hP hS ⊢
          rw [hr9]
          refine W.eq (g2 := F0 m 48 ls [.int o33]) (by first | rfl | (skip; rfl)) ?_
          obtain ⟨hg36, hf⟩ := xifn hf
          obtain rfl := Option.some.inj hf
          exact absurd (show (0 : Nat) = 1 from hkd) (by decide)
        rw [if_neg hk23] at hf
        by_cases hk37 : o21.1 = 1
        · rw [if_pos hk37] at hf
          obtain ⟨hm38, hf⟩ := xmoE hf
          have hFc := xm_free hD hS hA
          refine xx_thr (vx_runV (C := "ValueBenchModel") (As := [.int x1]) (rest := [xv vad18 o11.2.2.2.1, .ref aM]) ⟨hx, hb, hml, hown, htx⟩ (gM_register_1 l hl9 D cT aK aV H.size d n aM ad16 rd gd17 vad18 o11.2.2.2.2 x1 o21 hq22 hk37) ⟨callB_of 1 htx (xw_goodC kw_6_170) rfl rfl rfl (htx _ kw_1_5) (htx _ kw_6_167) ⟨by decide, by decide, by decide +kernel⟩ ⟨(by show (16 * d + 8) + 1 ≤ 16 * d + 9; omega), (by show 8 + (2 + 11) + (400 * d + 145) ≤ 400 * d + 166; omega)⟩, (htx _ kw_6_169), (htx _ kp_M_register)⟩ ⟨xPre_blind, va_recv hK hP (ci := 5) rfl (q0 := 0) rfl, (fun U hU hW => ⟨rfl, xPre_of hZ hS hFc hP hD hK U hU hW⟩)⟩ rfl rfl hl.1 rfl (xm_room (by simp [xvcat, xrscat, xcI, xcL, xcR, xcN])) dM_same0_42 ⟨hm38.1, hm38.2⟩) hS hFc (fun q _ h => hFc q h) (fun E ce q9 u9 t H1 locs ht hvm hr9 hB hz1 hk1 hS hce hcv hcl => ?_)
          obtain ⟨rfl, hP1, hK1, hD1⟩ := hB
          rw [ht] at hP1
          obtain ⟨ad40, gd41, vad42⟩ := u9
          obtain ⟨hv43, hn44⟩ := hr9
          have hP : va_P D xcl (xMw cT aM ad40 rd gd41 vad42 o21.2.2.2.2 []) H1 := hP1
          have hD : va_D A (xMw cT aM ad40 rd gd41 vad42 o21.2.2.2.2 []) := hD1.weaken (fun k q _ h => hFc q.1 h)
          generalize H1 = H at hP hS hce ⊢
          have hE9 : ∀ p, p < xct st → vad42 p = vad p := fun p h => (hv43 p (Nat.lt_of_lt_of_le h hN)).trans (hE p h)
          have hE := hE9
          have hN : xct st ≤ xct o21.2.2.2.2 := Nat.le_trans hN hn44
          obtain rfl := Option.some.inj hf
          exact vx_out (E := "java/lang/UnsupportedOperationException") (fun x h => (hne x h).elim) hlocks hce hcv hcl (fun t ht ha => ⟨(ad40, gd41, vad42), ⟨hE, hN⟩, ⟨rfl, by rw [ht]; exact hP, va_K.moved ha hK, hD⟩, hS.F ht⟩) hS.2.2 (Nat.le_refl _) (Nat.le_refl _)
        rw [if_neg hk37] at hf
        by_cases hk45 : o21.1 = 2
        · rw [if_pos hk45] at hf
          obtain ⟨hm46, hf⟩ := xmoE hf
          obtain rfl := Option.some.inj hf
          exact absurd (show (2 : Nat) = 1 from hkd) (by decide)
        rw [if_neg hk45] at hf
        by_cases hk53 : o21.1 = 3
        · rw [if_pos hk53] at hf
          obtain ⟨hm54, hf⟩ := xmoE hf
          obtain rfl := Option.some.inj hf
          exact absurd (show (3 : Nat) = 1 from hkd) (by decide)
        rw [if_neg hk53] at hf
        exact nomatch hf
      rw [if_neg hk13] at hf
      by_cases hk61 : o11.1 = 1
      · rw [if_pos hk61] at hf
        obtain ⟨hm62, hf⟩ := xmoE hf
        have hFc := xm_free hD hS hA
        refine xx_thr (vx_runV (C := "ValueBenchModel") (As := [.int x0]) (rest := [.ref aM]) ⟨hx, hb, hml, hown, htx⟩ (gM_register_1 l hl9 D cT aK aV H.size d n aM ad rd gd vad o1 x0 o11 hq12 hk61) ⟨callB_of 1 htx (xw_goodC kw_6_170) rfl rfl rfl (htx _ kw_1_5) (htx _ kw_6_167) ⟨by decide, by decide, by decide +kernel⟩ ⟨(by show (16 * d + 8) + 1 ≤ 16 * d + 9; omega), (by show 8 + (2 + 11) + (400 * d + 145) ≤ 400 * d + 166; omega)⟩, (htx _ kw_6_169), (htx _ kp_M_register)⟩ ⟨xPre_blind, va_recv hK hP (ci := 5) rfl (q0 := 0) rfl, (fun U hU hW => ⟨rfl, xPre_of hZ hS hFc hP hD hK U hU hW⟩)⟩ rfl rfl hl.1 rfl (xm_room (Nat.le_of_ble_eq_true rfl)) dM_same0_37 ⟨hm62.1, hm62.2⟩) hS hFc (fun q _ h => hFc q h) (fun E ce q9 u9 t H1 locs ht hvm hr9 hB hz1 hk1 hS hce hcv hcl => ?_)
        obtain ⟨rfl, hP1, hK1, hD1⟩ := hB
        rw [ht] at hP1
        obtain ⟨ad64, gd65, vad66⟩ := u9
        obtain ⟨hv67, hn68⟩ := hr9
        have hP : va_P D xcl (xMw cT aM ad64 rd gd65 vad66 o11.2.2.2.2 []) H1 := hP1
        have hD : va_D A (xMw cT aM ad64 rd gd65 vad66 o11.2.2.2.2 []) := hD1.weaken (fun k q _ h => hFc q.1 h)
        generalize H1 = H at hP hS hce ⊢
        have hE9 : ∀ p, p < xct st → vad66 p = vad p := fun p h => (hv67 p (Nat.lt_of_lt_of_le h hN)).trans (hE p h)
        have hE := hE9
        have hN : xct st ≤ xct o11.2.2.2.2 := Nat.le_trans hN hn68
        obtain rfl := Option.some.inj hf
        exact vx_out (E := "java/lang/UnsupportedOperationException") (fun x h => (hne x h).elim) hlocks hce hcv hcl (fun t ht ha => ⟨(ad64, gd65, vad66), ⟨hE, hN⟩, ⟨rfl, by rw [ht]; exact hP, va_K.moved ha hK, hD⟩, hS.F ht⟩) hS.2.2 (Nat.le_refl _) (Nat.le_refl _)
      rw [if_neg hk61] at hf
      by_cases hk69 : o11.1 = 2
      · rw [if_pos hk69] at hf
        obtain ⟨hm70, hf⟩ := xmoE hf
        obtain rfl := Option.some.inj hf
        exact absurd (show (2 : Nat) = 1 from hkd) (by decide)
      rw [if_neg hk69] at hf
      by_cases hk77 : o11.1 = 3
      · rw [if_pos hk77] at hf
        obtain ⟨hm78, hf⟩ := xmoE hf
        obtain rfl := Option.some.inj hf
        exact absurd (show (3 : Nat) = 1 from hkd) (by decide)
      rw [if_neg hk77] at hf
      exact nomatch hf
    · rw [if_neg hc] at hf
      refine lv_aload_n hx hb dM_same0_20 rfl (lv_at hl 0 rfl) ?_
      refine lv_iconst (v := 1) hx hb dM_same0_21 (by decide) ?_
      obtain ⟨o11, hq12, hf⟩ := xbind hf
      have hFc := xm_free hD hS hA
      refine va_calli (va_runV (C := "ValueBenchModel") (As := [.int 1]) (rest := []) ⟨hx, hb, hml, hown, htx⟩ (gM_fail l hl9 D cT aK aV H.size n aM ad rd gd vad o1 (1 : Int32) o11 hq12) ⟨callB_of 1 htx (xw_goodC kw_5_195) rfl rfl rfl (htx _ kw_1_5) (htx _ kw_5_192) ⟨by decide, by decide, by decide +kernel⟩ ⟨Nat.le_of_ble_eq_true rfl, Nat.le_of_ble_eq_true rfl⟩, (htx _ kw_5_194), (htx _ kp_M_fail)⟩ ⟨xPre_blind, va_recv hK hP (ci := 5) rfl (q0 := 0) rfl, (fun U hU hW => ⟨rfl, xPre_of hZ hS hFc hP hD hK U hU hW⟩)⟩ rfl rfl hl.1 rfl (xm_room (Nat.le_of_ble_eq_true rfl)) dM_same0_22 ⟨Nat.zero_le _, Nat.zero_le _⟩) hS (fun q _ h => hFc q h) hFc (fun r13 u9 t H1 locs ht hvm hr9 hB hz1 hk1 hS => ?_)
      obtain ⟨hP1, hK1, hD1⟩ := hB
      rw [ht] at hP1
      obtain ⟨hr9, hn14⟩ := hr9
      have hN : xct st ≤ xct o11.2 := Nat.le_trans hN hn14
      have hP : va_P D xcl (xMw cT aM ad rd gd vad o11.2 []) H1 := hP1
      have hD : va_D A (xMw cT aM ad rd gd vad o11.2 []) := hD1.weaken (fun k q _ h => hFc q.1 h)
      generalize H1 = H at hP hS ⊢
      rw [hr9]
      refine W.eq (g2 := F0 m 25 ls [.int o11.1]) (by first | rfl | (skip; rfl)) ?_
      refine lv_if_le (tgt := 32) hx hb dM_same0_25 (by decide) (fun hc => ?_) (fun hc => ?_)
      · rw [if_pos hc] at hf
        refine lv_iconst (v := 0) hx hb dM_same0_32 (by decide) ?_
        obtain rfl := Option.some.inj hf
        exact absurd (show (0 : Nat) = 1 from hkd) (by decide)
      · rw [if_neg hc] at hf
        refine lv_iconst (v := 1) hx hb dM_same0_28 (by decide) ?_
        refine lv_goto (tgt := 33) hx hb dM_same0_29 (by decide) ?_
        obtain rfl := Option.some.inj hf
        exact absurd (show (0 : Nat) = 1 from hkd) (by decide)
set_option maxHeartbeats 400000000 in
set_option maxRecDepth 100000 in
theorem gM_same0_2 (l : Launch) (hl9 : l.stackTraces = false) (D : va_G) (cT : Nat → ClassId) (aK aV : Nat → Nat) (sz d n : Nat) (aM : Nat) (ad rd gd vad : Nat → Nat) (st : xS) (x0 : Int32) (x1 : Int32) (out : Nat × Nat × Nat × Int32 × xS) (hf : fM_same0 d n st x0 x1 = some out) (hkd : out.1 = 2) : xMetY l yM_same0 wyM_same0 (16 * d + 9) out.2.1 out.2.2.1 (400 * d + 166) D cT aK aV sz [.ref aM, .int x0, .int x1] (xMw cT aM ad rd gd vad st []) "java/lang/IndexOutOfBoundsException" (fun u => xE vad st out.2.2.2.2 u) (fun A u t => xB D xcl cT A (xMw cT aM u.1 rd u.2.1 u.2.2 out.2.2.2.2 []) t) := by
  refine vx_ofW (cc := prog_13_method_86_code) (maxL := 3) (ret := (some .boolean)) (by decide) rfl ?_
  intro p e s m args below meth c s₁ B hml hne hv
  obtain ⟨rfl, hsz, hZ, hP, hK, hD0⟩ := hv
  have hx := B.exec
  have hb := B.bytes
  have hr := B.returns
  have hts := atoms_spec (ws := wyM_same0) B.pre
  have htx := fun w h => hts w (List.mem_cons_of_mem _ h)
  have hown : s.vm.findClass "ValueBenchModel" = some m.cls := findClass_of_methodNamed B.named
  have hlocks := B.notSynchronized
  subst hsz
  have hD := hD0.self (sz := s.heap.size)
  generalize hAe : va_A (xMw cT aM ad rd gd vad st []) s.heap.size = A at hD hZ ⊢
  have hA : ∀ q : Nat, s.heap.size ≤ q → A q := fun q h => by rw [← hAe]; exact Or.inr h
  have hS : va_S A s.heap s.heap [] := va_S.rf
  have hl := lv_entry ([.ref aM, .int x0, .int x1]) (n := 3) (by simp [lg_sl, xvcat, xrscat, xcI, xcL, xcR, xcN])
  rw [show lv_args 0 [.ref aM, .int x0, .int x1] = [(0, .ref aM), (1, .int x0), (2, .int x1)] from by simp [lv_args, xvcat, xrscat, xcI, xcL, xcR, xcN]] at hl
  rw [lg_entry_eq]
  generalize (lg_sl ([.ref aM, .int x0, .int x1]) ++ List.replicate (3 - (lg_sl ([.ref aM, .int x0, .int x1])).length) Slot.unset).toArray = ls at hl ⊢
  have hl : lv_has ls 3 [(0, .ref aM), (1, .int x0), (2, .int x1)] := hl
  have hE : ∀ p, p < xct st → vad p = vad p := fun _ _ => rfl
  have hN : xct st ≤ xct st := Nat.le_refl _
  unfold fM_same0 at hf
  refine lv_aload_n hx hb dM_same0_0 rfl (lv_at hl 0 rfl) ?_
  obtain ⟨o1, hq2, hf⟩ := xbind hf
  have hFc := xm_free hD hS hA
  refine va_callv (va_runV (C := "ValueBenchModel") (As := []) (rest := []) ⟨hx, hb, hml, hown, htx⟩ (gM_begin l hl9 D cT aK aV s.heap.size n aM ad rd gd vad st o1 hq2) ⟨callB_of 0 htx (xw_goodC kw_5_209) rfl rfl rfl (htx _ kw_1_5) (htx _ kw_5_206) ⟨by decide, by decide, by decide +kernel⟩ ⟨Nat.le_of_ble_eq_true rfl, Nat.le_of_ble_eq_true rfl⟩, (htx _ kw_5_208), (htx _ kp_M_begin)⟩ ⟨xPre_blind, va_recv hK hP (ci := 5) rfl (q0 := 0) rfl, (fun U hU hW => ⟨rfl, xPre_of hZ hS hFc hP hD hK U hU hW⟩)⟩ rfl rfl hl.1 rfl (xm_room (Nat.le_of_ble_eq_true rfl)) dM_same0_1 ⟨Nat.zero_le _, Nat.zero_le _⟩) hS (fun q _ h => hFc q h) hFc (fun u9 t H1 locs ht hvm hr9 hB hz1 hk1 hS => ?_)
  obtain ⟨hP1, hK1, hD1⟩ := hB
  rw [ht] at hP1
  have hn4 := hr9
  have hN : xct st ≤ xct o1 := Nat.le_trans hN hn4
  have hP : va_P D xcl (xMw cT aM ad rd gd vad o1 []) H1 := hP1
  have hD : va_D A (xMw cT aM ad rd gd vad o1 []) := hD1.weaken (fun k q _ h => hFc q.1 h)
  generalize H1 = H at hP hS ⊢
  refine W.eq (g2 := F0 m 4 ls []) (by first | rfl | (skip; rfl)) ?_
  refine lv_aload_n hx hb dM_same0_4 rfl (lv_at hl 0 rfl) ?_
  refine lv_iload_n hx hb dM_same0_5 rfl (lv_at hl 1 rfl) ?_
  obtain ⟨o5, hq6, hf⟩ := xbind hf
  have hFc := xm_free hD hS hA
  refine va_calli (va_runV (C := "ValueBenchModel") (As := [.int x0]) (rest := []) ⟨hx, hb, hml, hown, htx⟩ (gM_out l hl9 D cT aK aV H.size n aM ad rd gd vad o1 x0 o5 hq6) ⟨callB_of 1 htx (xw_goodC kw_5_217) rfl rfl rfl (htx _ kw_1_5) (htx _ kw_5_214) ⟨by decide, by decide, by decide +kernel⟩ ⟨Nat.le_of_ble_eq_true rfl, Nat.le_of_ble_eq_true rfl⟩, (htx _ kw_5_216), (htx _ kp_M_out)⟩ ⟨xPre_blind, va_recv hK hP (ci := 5) rfl (q0 := 0) rfl, (fun U hU hW => ⟨rfl, xPre_of hZ hS hFc hP hD hK U hU hW⟩)⟩ rfl rfl hl.1 rfl (xm_room (Nat.le_of_ble_eq_true rfl)) dM_same0_6 ⟨Nat.zero_le _, Nat.zero_le _⟩) hS (fun q _ h => hFc q h) hFc (fun r7 u9 t H1 locs ht hvm hr9 hB hz1 hk1 hS => ?_)
  obtain ⟨hP1, hK1, hD1⟩ := hB
  rw [ht] at hP1
  have hP : va_P D xcl (xMw cT aM ad rd gd vad o1 []) H1 := hP1
  have hD : va_D A (xMw cT aM ad rd gd vad o1 []) := hD1.weaken (fun k q _ h => hFc q.1 h)
  generalize H1 = H at hP hS ⊢
  rw [hr9]
  refine W.eq (g2 := F0 m 9 ls [.int o5]) (by first | rfl | (skip; rfl)) ?_
  refine lv_if_ne (tgt := 20) hx hb dM_same0_9 (by decide) (fun hc => ?_) (fun hc => ?_)
  · rw [if_neg hc] at hf
    refine lv_aload_n hx hb dM_same0_20 rfl (lv_at hl 0 rfl) ?_
    refine lv_iconst (v := 1) hx hb dM_same0_21 (by decide) ?_
    obtain ⟨o8, hq9, hf⟩ := xbind hf
    have hFc := xm_free hD hS hA
    refine va_calli (va_runV (C := "ValueBenchModel") (As := [.int 1]) (rest := []) ⟨hx, hb, hml, hown, htx⟩ (gM_fail l hl9 D cT aK aV H.size n aM ad rd gd vad o1 (1 : Int32) o8 hq9) ⟨callB_of 1 htx (xw_goodC kw_5_195) rfl rfl rfl (htx _ kw_1_5) (htx _ kw_5_192) ⟨by decide, by decide, by decide +kernel⟩ ⟨Nat.le_of_ble_eq_true rfl, Nat.le_of_ble_eq_true rfl⟩, (htx _ kw_5_194), (htx _ kp_M_fail)⟩ ⟨xPre_blind, va_recv hK hP (ci := 5) rfl (q0 := 0) rfl, (fun U hU hW => ⟨rfl, xPre_of hZ hS hFc hP hD hK U hU hW⟩)⟩ rfl rfl hl.1 rfl (xm_room (Nat.le_of_ble_eq_true rfl)) dM_same0_22 ⟨Nat.zero_le _, Nat.zero_le _⟩) hS (fun q _ h => hFc q h) hFc (fun r10 u9 t H1 locs ht hvm hr9 hB hz1 hk1 hS => ?_)
    obtain ⟨hP1, hK1, hD1⟩ := hB
    rw [ht] at hP1
    obtain ⟨hr9, hn11⟩ := hr9
    have hN : xct st ≤ xct o8.2 := Nat.le_trans hN hn11
    have hP : va_P D xcl (xMw cT aM ad rd gd vad o8.2 []) H1 := hP1
    have hD : va_D A (xMw cT aM ad rd gd vad o8.2 []) := hD1.weaken (fun k q _ h => hFc q.1 h)
    generalize H1 = H at hP hS ⊢
    rw [hr9]
    refine W.eq (g2 := F0 m 25 ls [.int o8.1]) (by first | rfl | (skip; rfl)) ?_
    refine lv_if_le (tgt := 32) hx hb dM_same0_25 (by decide) (fun hc => ?_) (fun hc => ?_)
    · rw [if_pos hc] at hf
      refine lv_iconst (v := 0) hx hb dM_same0_32 (by decide) ?_
      obtain rfl := Option.some.inj hf
      exact absurd (show (0 : Nat) = 2 from hkd) (by decide)
    · rw [if_neg hc] at hf
      refine lv_iconst (v := 1) hx hb dM_same0_28 (by decide) ?_
      refine lv_goto (tgt := 33) hx hb dM_same0_29 (by decide) ?_
      obtain rfl := Option.some.inj hf
      exact absurd (show (0 : Nat) = 2 from hkd) (by decide)
  · rw [if_pos hc] at hf
    refine lv_aload_n hx hb dM_same0_12 rfl (lv_at hl 0 rfl) ?_
    refine lv_iload_n hx hb dM_same0_13 rfl (lv_at hl 2 rfl) ?_
    obtain ⟨o8, hq9, hf⟩ := xbind hf
    have hFc := xm_free hD hS hA
    refine va_calli (va_runV (C := "ValueBenchModel") (As := [.int x1]) (rest := []) ⟨hx, hb, hml, hown, htx⟩ (gM_out l hl9 D cT aK aV H.size n aM ad rd gd vad o1 x1 o8 hq9) ⟨callB_of 1 htx (xw_goodC kw_5_217) rfl rfl rfl (htx _ kw_1_5) (htx _ kw_5_214) ⟨by decide, by decide, by decide +kernel⟩ ⟨Nat.le_of_ble_eq_true rfl, Nat.le_of_ble_eq_true rfl⟩, (htx _ kw_5_216), (htx _ kp_M_out)⟩ ⟨xPre_blind, va_recv hK hP (ci := 5) rfl (q0 := 0) rfl, (fun U hU hW => ⟨rfl, xPre_of hZ hS hFc hP hD hK U hU hW⟩)⟩ rfl rfl hl.1 rfl (xm_room (Nat.le_of_ble_eq_true rfl)) dM_same0_14 ⟨Nat.zero_le _, Nat.zero_le _⟩) hS (fun q _ h => hFc q h) hFc (fun r10 u9 t H1 locs ht hvm hr9 hB hz1 hk1 hS => ?_)
    obtain ⟨hP1, hK1, hD1⟩ := hB
    rw [ht] at hP1
    have hP : va_P D xcl (xMw cT aM ad rd gd vad o1 []) H1 := hP1
    have hD : va_D A (xMw cT aM ad rd gd vad o1 []) := hD1.weaken (fun k q _ h => hFc q.1 h)
    generalize H1 = H at hP hS ⊢
    rw [hr9]
    refine W.eq (g2 := F0 m 17 ls [.int o8]) (by first | rfl | (skip; rfl)) ?_
    refine lv_if_eq (tgt := 34) hx hb dM_same0_17 (by decide) (fun hc => ?_) (fun hc => ?_)
    · rw [if_pos hc] at hf
      refine lv_aload_n hx hb dM_same0_34 rfl (lv_at hl 0 rfl) ?_
      refine lv_aload_n hx hb dM_same0_35 rfl (lv_at hl 0 rfl) ?_
      refine lv_iload_n hx hb dM_same0_36 rfl (lv_at hl 1 rfl) ?_
      obtain ⟨o11, hq12, hf⟩ := xbind hf
      by_cases hk13 : o11.1 = 0
      · rw [if_pos hk13] at hf
        obtain ⟨hm14, hf⟩ := xmoE hf
        have hFc := xm_free hD hS hA
        refine va_callq (va_runV (C := "ValueBenchModel") (As := [.int x0]) (rest := [.ref aM]) ⟨hx, hb, hml, hown, htx⟩ (gM_register l hl9 D cT aK aV H.size d n aM ad rd gd vad o1 x0 o11 hq12 hk13) ⟨callB_of 1 htx (xw_goodC kw_6_170) rfl rfl rfl (htx _ kw_1_5) (htx _ kw_6_167) ⟨by decide, by decide, by decide +kernel⟩ ⟨(by show (16 * d + 8) + 1 ≤ 16 * d + 9; omega), (by show 8 + (2 + 11) + (400 * d + 145) ≤ 400 * d + 166; omega)⟩, (htx _ kw_6_169), (htx _ kp_M_register)⟩ ⟨xPre_blind, va_recv hK hP (ci := 5) rfl (q0 := 0) rfl, (fun U hU hW => ⟨rfl, xPre_of hZ hS hFc hP hD hK U hU hW⟩)⟩ rfl rfl hl.1 rfl (xm_room (Nat.le_of_ble_eq_true rfl)) dM_same0_37 ⟨hm14.1, hm14.2⟩) hS (fun q _ h => hFc q h) hFc (fun r15 u9 t H1 locs ht hvm hr9 hB hz1 hk1 hS => ?_)
        obtain ⟨hP1, hK1, hD1⟩ := hB
        rw [ht] at hP1
        obtain ⟨ad16, gd17, vad18⟩ := u9
        obtain ⟨hr9, hv19, hn20⟩ := hr9
        have hP : va_P D xcl (xMw cT aM ad16 rd gd17 vad18 o11.2.2.2.2 []) H1 := hP1
        have hD : va_D A (xMw cT aM ad16 rd gd17 vad18 o11.2.2.2.2 []) := hD1.weaken (fun k q _ h => hFc q.1 h)
        generalize H1 = H at hP hS ⊢
        have hE9 : ∀ p, p < xct st → vad18 p = vad p := fun p h => (hv19 p (Nat.lt_of_lt_of_le h hN)).trans (hE p h)
        have hE := hE9
        have hN : xct st ≤ xct o11.2.2.2.2 := Nat.le_trans hN hn20
        rw [hr9]
        refine W.eq (g2 := F0 m 40 ls [xv vad18 o11.2.2.2.1, .ref aM]) (by first | rfl | (skip; rfl)) ?_
        refine lv_aload_n hx hb dM_same0_40 rfl (lv_at hl 0 rfl) ?_
        refine lv_iload_n hx hb dM_same0_41 rfl (lv_at hl 2 rfl) ?_
        obtain ⟨o21, hq22, hf⟩ := xbind hf
        by_cases hk23 : o21.1 = 0
        · rw [if_pos hk23] at hf
          obtain ⟨hg24, hf⟩ := xifn hf
          obtain ⟨hm25, hf⟩ := xmoE hf
          have hFc := xm_free hD hS hA
          refine va_callq (va_runV (C := "ValueBenchModel") (As := [.int x1]) (rest := [xv vad18 o11.2.2.2.1, .ref aM]) ⟨hx, hb, hml, hown, htx⟩ (gM_register l hl9 D cT aK aV H.size d n aM ad16 rd gd17 vad18 o11.2.2.2.2 x1 o21 hq22 hk23) ⟨callB_of 1 htx (xw_goodC kw_6_170) rfl rfl rfl (htx _ kw_1_5) (htx _ kw_6_167) ⟨by decide, by decide, by decide +kernel⟩ ⟨(by show (16 * d + 8) + 1 ≤ 16 * d + 9; omega), (by show 8 + (2 + 11) + (400 * d + 145) ≤ 400 * d + 166; omega)⟩, (htx _ kw_6_169), (htx _ kp_M_register)⟩ ⟨xPre_blind, va_recv hK hP (ci := 5) rfl (q0 := 0) rfl, (fun U hU hW => ⟨rfl, xPre_of hZ hS hFc hP hD hK U hU hW⟩)⟩ rfl rfl hl.1 rfl (xm_room (by simp [xvcat, xrscat, xcI, xcL, xcR, xcN])) dM_same0_42 ⟨hm25.1, hm25.2⟩) hS (fun q _ h => hFc q h) hFc (fun r26 u9 t H1 locs ht hvm hr9 hB hz1 hk1 hS => ?_)
          obtain ⟨hP1, hK1, hD1⟩ := hB
          rw [ht] at hP1
          obtain ⟨ad27, gd28, vad29⟩ := u9
          obtain ⟨hr9, hv30, hn31⟩ := hr9
          have hP : va_P D xcl (xMw cT aM ad27 rd gd28 vad29 o21.2.2.2.2 []) H1 := hP1
          have hD : va_D A (xMw cT aM ad27 rd gd28 vad29 o21.2.2.2.2 []) := hD1.weaken (fun k q _ h => hFc q.1 h)
          generalize H1 = H at hP hS ⊢
          have hE9 : ∀ p, p < xct st → vad29 p = vad p := fun p h => (hv30 p (Nat.lt_of_lt_of_le h hN)).trans (hE p h)
          have hE := hE9
          have hN : xct st ≤ xct o21.2.2.2.2 := Nat.le_trans hN hn31
          have ev32 : xv vad18 o11.2.2.2.1 = xv vad29 o11.2.2.2.1 := xvE hv30 hg24
          rw [hr9]
          refine W.eq (g2 := F0 m 45 ls [xv vad29 o21.2.2.2.1, xv vad29 o11.2.2.2.1, .ref aM]) (by first | rfl | ((try (rw [ev32])); rfl)) ?_
          obtain ⟨o33, hq34, hf⟩ := xbind hf
          have hFc := xm_free hD hS hA
          refine va_calli (va_runV (C := "ValueBenchModel") (As := [xv vad29 o11.2.2.2.1, xv vad29 o21.2.2.2.1]) (rest := []) ⟨hx, hb, hml, hown, htx⟩ (gM_same1 l hl9 D cT aK aV d H.size n aM ad27 rd gd28 vad29 o21.2.2.2.2 o11.2.2.2.1 o21.2.2.2.1 o33 hq34) ⟨callB_of 2 htx (xw_goodC kw_6_174) rfl rfl rfl (htx _ kw_1_5) (htx _ kw_6_171) ⟨by decide, by decide, by decide +kernel⟩ ⟨(by show (16 * d) + 1 ≤ 16 * d + 9; omega), (by show 8 + (5 + 11) + (400 * d) ≤ 400 * d + 166; omega)⟩, (htx _ kw_6_173), (htx _ kp_M_same1)⟩ ⟨xPre_blind, va_recv hK hP (ci := 5) rfl (q0 := 0) rfl, (fun U hU hW => ⟨rfl, xPre_of hZ hS hFc hP hD hK U hU hW⟩)⟩ rfl rfl hl.1 rfl (xm_room (Nat.le_of_ble_eq_true rfl)) dM_same0_45 ⟨hm25.1, hm25.2⟩) hS (fun q _ h => hFc q h) hFc (fun r35 u9 t H1 locs ht hvm hr9 hB hz1 hk1 hS => ?_)
          obtain ⟨hP1, hK1, hD1⟩ := hB
          rw [ht] at hP1
          have hP : va_P D xcl (xMw cT aM ad27 rd gd28 vad29 o21.2.2.2.2 []) H1 := hP1
          have hD : va_D A (xMw cT aM ad27 rd gd28 vad29 o21.2.2.2.2 []) := hD1.weaken (fun k q _ h => hFc q.1 h)
          generalize H1 = H at hP hS ⊢
          rw [hr9]
          refine W.eq (g2 := F0 m 48 ls [.int o33]) (by first | rfl | (skip; rfl)) ?_
          obtain ⟨hg36, hf⟩ := xifn hf
          obtain rfl := Option.some.inj hf
          exact absurd (show (0 : Nat) = 2 from hkd) (by decide)
        rw [if_neg hk23] at hf
        by_cases hk37 : o21.1 = 1
        · rw [if_pos hk37] at hf
          obtain ⟨hm38, hf⟩ := xmoE hf
          obtain rfl := Option.some.inj hf
          exact absurd (show (1 : Nat) = 2 from hkd) (by decide)
        rw [if_neg hk37] at hf
        by_cases hk45 : o21.1 = 2
        · rw [if_pos hk45] at hf
          obtain ⟨hm46, hf⟩ := xmoE hf
          have hFc := xm_free hD hS hA
          refine xx_thr (vx_runV (C := "ValueBenchModel") (As := [.int x1]) (rest := [xv vad18 o11.2.2.2.1, .ref aM]) ⟨hx, hb, hml, hown, htx⟩ (gM_register_2 l hl9 D cT aK aV H.size d n aM ad16 rd gd17 vad18 o11.2.2.2.2 x1 o21 hq22 hk45) ⟨callB_of 1 htx (xw_goodC kw_6_170) rfl rfl rfl (htx _ kw_1_5) (htx _ kw_6_167) ⟨by decide, by decide, by decide +kernel⟩ ⟨(by show (16 * d + 8) + 1 ≤ 16 * d + 9; omega), (by show 8 + (2 + 11) + (400 * d + 145) ≤ 400 * d + 166; omega)⟩, (htx _ kw_6_169), (htx _ kp_M_register)⟩ ⟨xPre_blind, va_recv hK hP (ci := 5) rfl (q0 := 0) rfl, (fun U hU hW => ⟨rfl, xPre_of hZ hS hFc hP hD hK U hU hW⟩)⟩ rfl rfl hl.1 rfl (xm_room (by simp [xvcat, xrscat, xcI, xcL, xcR, xcN])) dM_same0_42 ⟨hm46.1, hm46.2⟩) hS hFc (fun q _ h => hFc q h) (fun E ce q9 u9 t H1 locs ht hvm hr9 hB hz1 hk1 hS hce hcv hcl => ?_)
          obtain ⟨rfl, hP1, hK1, hD1⟩ := hB
          rw [ht] at hP1
          obtain ⟨ad48, gd49, vad50⟩ := u9
          obtain ⟨hv51, hn52⟩ := hr9
          have hP : va_P D xcl (xMw cT aM ad48 rd gd49 vad50 o21.2.2.2.2 []) H1 := hP1
          have hD : va_D A (xMw cT aM ad48 rd gd49 vad50 o21.2.2.2.2 []) := hD1.weaken (fun k q _ h => hFc q.1 h)
          generalize H1 = H at hP hS hce ⊢
          have hE9 : ∀ p, p < xct st → vad50 p = vad p := fun p h => (hv51 p (Nat.lt_of_lt_of_le h hN)).trans (hE p h)
          have hE := hE9
          have hN : xct st ≤ xct o21.2.2.2.2 := Nat.le_trans hN hn52
          obtain rfl := Option.some.inj hf
          exact vx_out (E := "java/lang/IndexOutOfBoundsException") (fun x h => (hne x h).elim) hlocks hce hcv hcl (fun t ht ha => ⟨(ad48, gd49, vad50), ⟨hE, hN⟩, ⟨rfl, by rw [ht]; exact hP, va_K.moved ha hK, hD⟩, hS.F ht⟩) hS.2.2 (Nat.le_refl _) (Nat.le_refl _)
        rw [if_neg hk45] at hf
        by_cases hk53 : o21.1 = 3
        · rw [if_pos hk53] at hf
          obtain ⟨hm54, hf⟩ := xmoE hf
          obtain rfl := Option.some.inj hf
          exact absurd (show (3 : Nat) = 2 from hkd) (by decide)
        rw [if_neg hk53] at hf
        exact nomatch hf
      rw [if_neg hk13] at hf
      by_cases hk61 : o11.1 = 1
      · rw [if_pos hk61] at hf
        obtain ⟨hm62, hf⟩ := xmoE hf
        obtain rfl := Option.some.inj hf
        exact absurd (show (1 : Nat) = 2 from hkd) (by decide)
      rw [if_neg hk61] at hf
      by_cases hk69 : o11.1 = 2
      · rw [if_pos hk69] at hf
        obtain ⟨hm70, hf⟩ := xmoE hf
        have hFc := xm_free hD hS hA
        refine xx_thr (vx_runV (C := "ValueBenchModel") (As := [.int x0]) (rest := [.ref aM]) ⟨hx, hb, hml, hown, htx⟩ (gM_register_2 l hl9 D cT aK aV H.size d n aM ad rd gd vad o1 x0 o11 hq12 hk69) ⟨callB_of 1 htx (xw_goodC kw_6_170) rfl rfl rfl (htx _ kw_1_5) (htx _ kw_6_167) ⟨by decide, by decide, by decide +kernel⟩ ⟨(by show (16 * d + 8) + 1 ≤ 16 * d + 9; omega), (by show 8 + (2 + 11) + (400 * d + 145) ≤ 400 * d + 166; omega)⟩, (htx _ kw_6_169), (htx _ kp_M_register)⟩ ⟨xPre_blind, va_recv hK hP (ci := 5) rfl (q0 := 0) rfl, (fun U hU hW => ⟨rfl, xPre_of hZ hS hFc hP hD hK U hU hW⟩)⟩ rfl rfl hl.1 rfl (xm_room (Nat.le_of_ble_eq_true rfl)) dM_same0_37 ⟨hm70.1, hm70.2⟩) hS hFc (fun q _ h => hFc q h) (fun E ce q9 u9 t H1 locs ht hvm hr9 hB hz1 hk1 hS hce hcv hcl => ?_)
        obtain ⟨rfl, hP1, hK1, hD1⟩ := hB
        rw [ht] at hP1
        obtain ⟨ad72, gd73, vad74⟩ := u9
        obtain ⟨hv75, hn76⟩ := hr9
        have hP : va_P D xcl (xMw cT aM ad72 rd gd73 vad74 o11.2.2.2.2 []) H1 := hP1
        have hD : va_D A (xMw cT aM ad72 rd gd73 vad74 o11.2.2.2.2 []) := hD1.weaken (fun k q _ h => hFc q.1 h)
        generalize H1 = H at hP hS hce ⊢
        have hE9 : ∀ p, p < xct st → vad74 p = vad p := fun p h => (hv75 p (Nat.lt_of_lt_of_le h hN)).trans (hE p h)
        have hE := hE9
        have hN : xct st ≤ xct o11.2.2.2.2 := Nat.le_trans hN hn76
        obtain rfl := Option.some.inj hf
        exact vx_out (E := "java/lang/IndexOutOfBoundsException") (fun x h => (hne x h).elim) hlocks hce hcv hcl (fun t ht ha => ⟨(ad72, gd73, vad74), ⟨hE, hN⟩, ⟨rfl, by rw [ht]; exact hP, va_K.moved ha hK, hD⟩, hS.F ht⟩) hS.2.2 (Nat.le_refl _) (Nat.le_refl _)
      rw [if_neg hk69] at hf
      by_cases hk77 : o11.1 = 3
      · rw [if_pos hk77] at hf
        obtain ⟨hm78, hf⟩ := xmoE hf
        obtain rfl := Option.some.inj hf
        exact absurd (show (3 : Nat) = 2 from hkd) (by decide)
      rw [if_neg hk77] at hf
      exact nomatch hf
    · rw [if_neg hc] at hf
      refine lv_aload_n hx hb dM_same0_20 rfl (lv_at hl 0 rfl) ?_
      refine lv_iconst (v := 1) hx hb dM_same0_21 (by decide) ?_
      obtain ⟨o11, hq12, hf⟩ := xbind hf
      have hFc := xm_free hD hS hA
      refine va_calli (va_runV (C := "ValueBenchModel") (As := [.int 1]) (rest := []) ⟨hx, hb, hml, hown, htx⟩ (gM_fail l hl9 D cT aK aV H.size n aM ad rd gd vad o1 (1 : Int32) o11 hq12) ⟨callB_of 1 htx (xw_goodC kw_5_195) rfl rfl rfl (htx _ kw_1_5) (htx _ kw_5_192) ⟨by decide, by decide, by decide +kernel⟩ ⟨Nat.le_of_ble_eq_true rfl, Nat.le_of_ble_eq_true rfl⟩, (htx _ kw_5_194), (htx _ kp_M_fail)⟩ ⟨xPre_blind, va_recv hK hP (ci := 5) rfl (q0 := 0) rfl, (fun U hU hW => ⟨rfl, xPre_of hZ hS hFc hP hD hK U hU hW⟩)⟩ rfl rfl hl.1 rfl (xm_room (Nat.le_of_ble_eq_true rfl)) dM_same0_22 ⟨Nat.zero_le _, Nat.zero_le _⟩) hS (fun q _ h => hFc q h) hFc (fun r13 u9 t H1 locs ht hvm hr9 hB hz1 hk1 hS => ?_)
      obtain ⟨hP1, hK1, hD1⟩ := hB
      rw [ht] at hP1
      obtain ⟨hr9, hn14⟩ := hr9
      have hN : xct st ≤ xct o11.2 := Nat.le_trans hN hn14
      have hP : va_P D xcl (xMw cT aM ad rd gd vad o11.2 []) H1 := hP1
      have hD : va_D A (xMw cT aM ad rd gd vad o11.2 []) := hD1.weaken (fun k q _ h => hFc q.1 h)
      generalize H1 = H at hP hS ⊢
      rw [hr9]
      refine W.eq (g2 := F0 m 25 ls [.int o11.1]) (by first | rfl | (skip; rfl)) ?_
      refine lv_if_le (tgt := 32) hx hb dM_same0_25 (by decide) (fun hc => ?_) (fun hc => ?_)
      · rw [if_pos hc] at hf
        refine lv_iconst (v := 0) hx hb dM_same0_32 (by decide) ?_
        obtain rfl := Option.some.inj hf
        exact absurd (show (0 : Nat) = 2 from hkd) (by decide)
      · rw [if_neg hc] at hf
        refine lv_iconst (v := 1) hx hb dM_same0_28 (by decide) ?_
        refine lv_goto (tgt := 33) hx hb dM_same0_29 (by decide) ?_
        obtain rfl := Option.some.inj hf
        exact absurd (show (0 : Nat) = 2 from hkd) (by decide)
set_option maxHeartbeats 400000000 in
set_option maxRecDepth 100000 in
theorem gM_same0_3 (l : Launch) (hl9 : l.stackTraces = false) (D : va_G) (cT : Nat → ClassId) (aK aV : Nat → Nat) (sz d n : Nat) (aM : Nat) (ad rd gd vad : Nat → Nat) (st : xS) (x0 : Int32) (x1 : Int32) (out : Nat × Nat × Nat × Int32 × xS) (hf : fM_same0 d n st x0 x1 = some out) (hkd : out.1 = 3) : xMetY l yM_same0 wyM_same0 (16 * d + 9) out.2.1 out.2.2.1 (400 * d + 166) D cT aK aV sz [.ref aM, .int x0, .int x1] (xMw cT aM ad rd gd vad st []) "java/lang/ArithmeticException" (fun u => xE vad st out.2.2.2.2 u) (fun A u t => xB D xcl cT A (xMw cT aM u.1 rd u.2.1 u.2.2 out.2.2.2.2 []) t) := by
  refine vx_ofW (cc := prog_13_method_86_code) (maxL := 3) (ret := (some .boolean)) (by decide) rfl ?_
  intro p e s m args below meth c s₁ B hml hne hv
  obtain ⟨rfl, hsz, hZ, hP, hK, hD0⟩ := hv
  have hx := B.exec
  have hb := B.bytes
  have hr := B.returns
  have hts := atoms_spec (ws := wyM_same0) B.pre
  have htx := fun w h => hts w (List.mem_cons_of_mem _ h)
  have hown : s.vm.findClass "ValueBenchModel" = some m.cls := findClass_of_methodNamed B.named
  have hlocks := B.notSynchronized
  subst hsz
  have hD := hD0.self (sz := s.heap.size)
  generalize hAe : va_A (xMw cT aM ad rd gd vad st []) s.heap.size = A at hD hZ ⊢
  have hA : ∀ q : Nat, s.heap.size ≤ q → A q := fun q h => by rw [← hAe]; exact Or.inr h
  have hS : va_S A s.heap s.heap [] := va_S.rf
  have hl := lv_entry ([.ref aM, .int x0, .int x1]) (n := 3) (by simp [lg_sl, xvcat, xrscat, xcI, xcL, xcR, xcN])
  rw [show lv_args 0 [.ref aM, .int x0, .int x1] = [(0, .ref aM), (1, .int x0), (2, .int x1)] from by simp [lv_args, xvcat, xrscat, xcI, xcL, xcR, xcN]] at hl
  rw [lg_entry_eq]
  generalize (lg_sl ([.ref aM, .int x0, .int x1]) ++ List.replicate (3 - (lg_sl ([.ref aM, .int x0, .int x1])).length) Slot.unset).toArray = ls at hl ⊢
  have hl : lv_has ls 3 [(0, .ref aM), (1, .int x0), (2, .int x1)] := hl
  have hE : ∀ p, p < xct st → vad p = vad p := fun _ _ => rfl
  have hN : xct st ≤ xct st := Nat.le_refl _
  unfold fM_same0 at hf
  refine lv_aload_n hx hb dM_same0_0 rfl (lv_at hl 0 rfl) ?_
  obtain ⟨o1, hq2, hf⟩ := xbind hf
  have hFc := xm_free hD hS hA
  refine va_callv (va_runV (C := "ValueBenchModel") (As := []) (rest := []) ⟨hx, hb, hml, hown, htx⟩ (gM_begin l hl9 D cT aK aV s.heap.size n aM ad rd gd vad st o1 hq2) ⟨callB_of 0 htx (xw_goodC kw_5_209) rfl rfl rfl (htx _ kw_1_5) (htx _ kw_5_206) ⟨by decide, by decide, by decide +kernel⟩ ⟨Nat.le_of_ble_eq_true rfl, Nat.le_of_ble_eq_true rfl⟩, (htx _ kw_5_208), (htx _ kp_M_begin)⟩ ⟨xPre_blind, va_recv hK hP (ci := 5) rfl (q0 := 0) rfl, (fun U hU hW => ⟨rfl, xPre_of hZ hS hFc hP hD hK U hU hW⟩)⟩ rfl rfl hl.1 rfl (xm_room (Nat.le_of_ble_eq_true rfl)) dM_same0_1 ⟨Nat.zero_le _, Nat.zero_le _⟩) hS (fun q _ h => hFc q h) hFc (fun u9 t H1 locs ht hvm hr9 hB hz1 hk1 hS => ?_)
  obtain ⟨hP1, hK1, hD1⟩ := hB
  rw [ht] at hP1
  have hn4 := hr9
  have hN : xct st ≤ xct o1 := Nat.le_trans hN hn4
  have hP : va_P D xcl (xMw cT aM ad rd gd vad o1 []) H1 := hP1
  have hD : va_D A (xMw cT aM ad rd gd vad o1 []) := hD1.weaken (fun k q _ h => hFc q.1 h)
  generalize H1 = H at hP hS ⊢
  refine W.eq (g2 := F0 m 4 ls []) (by first | rfl | (skip; rfl)) ?_
  refine lv_aload_n hx hb dM_same0_4 rfl (lv_at hl 0 rfl) ?_
  refine lv_iload_n hx hb dM_same0_5 rfl (lv_at hl 1 rfl) ?_
  obtain ⟨o5, hq6, hf⟩ := xbind hf
  have hFc := xm_free hD hS hA
  refine va_calli (va_runV (C := "ValueBenchModel") (As := [.int x0]) (rest := []) ⟨hx, hb, hml, hown, htx⟩ (gM_out l hl9 D cT aK aV H.size n aM ad rd gd vad o1 x0 o5 hq6) ⟨callB_of 1 htx (xw_goodC kw_5_217) rfl rfl rfl (htx _ kw_1_5) (htx _ kw_5_214) ⟨by decide, by decide, by decide +kernel⟩ ⟨Nat.le_of_ble_eq_true rfl, Nat.le_of_ble_eq_true rfl⟩, (htx _ kw_5_216), (htx _ kp_M_out)⟩ ⟨xPre_blind, va_recv hK hP (ci := 5) rfl (q0 := 0) rfl, (fun U hU hW => ⟨rfl, xPre_of hZ hS hFc hP hD hK U hU hW⟩)⟩ rfl rfl hl.1 rfl (xm_room (Nat.le_of_ble_eq_true rfl)) dM_same0_6 ⟨Nat.zero_le _, Nat.zero_le _⟩) hS (fun q _ h => hFc q h) hFc (fun r7 u9 t H1 locs ht hvm hr9 hB hz1 hk1 hS => ?_)
  obtain ⟨hP1, hK1, hD1⟩ := hB
  rw [ht] at hP1
  have hP : va_P D xcl (xMw cT aM ad rd gd vad o1 []) H1 := hP1
  have hD : va_D A (xMw cT aM ad rd gd vad o1 []) := hD1.weaken (fun k q _ h => hFc q.1 h)
  generalize H1 = H at hP hS ⊢
  rw [hr9]
  refine W.eq (g2 := F0 m 9 ls [.int o5]) (by first | rfl | (skip; rfl)) ?_
  refine lv_if_ne (tgt := 20) hx hb dM_same0_9 (by decide) (fun hc => ?_) (fun hc => ?_)
  · rw [if_neg hc] at hf
    refine lv_aload_n hx hb dM_same0_20 rfl (lv_at hl 0 rfl) ?_
    refine lv_iconst (v := 1) hx hb dM_same0_21 (by decide) ?_
    obtain ⟨o8, hq9, hf⟩ := xbind hf
    have hFc := xm_free hD hS hA
    refine va_calli (va_runV (C := "ValueBenchModel") (As := [.int 1]) (rest := []) ⟨hx, hb, hml, hown, htx⟩ (gM_fail l hl9 D cT aK aV H.size n aM ad rd gd vad o1 (1 : Int32) o8 hq9) ⟨callB_of 1 htx (xw_goodC kw_5_195) rfl rfl rfl (htx _ kw_1_5) (htx _ kw_5_192) ⟨by decide, by decide, by decide +kernel⟩ ⟨Nat.le_of_ble_eq_true rfl, Nat.le_of_ble_eq_true rfl⟩, (htx _ kw_5_194), (htx _ kp_M_fail)⟩ ⟨xPre_blind, va_recv hK hP (ci := 5) rfl (q0 := 0) rfl, (fun U hU hW => ⟨rfl, xPre_of hZ hS hFc hP hD hK U hU hW⟩)⟩ rfl rfl hl.1 rfl (xm_room (Nat.le_of_ble_eq_true rfl)) dM_same0_22 ⟨Nat.zero_le _, Nat.zero_le _⟩) hS (fun q _ h => hFc q h) hFc (fun r10 u9 t H1 locs ht hvm hr9 hB hz1 hk1 hS => ?_)
    obtain ⟨hP1, hK1, hD1⟩ := hB
    rw [ht] at hP1
    obtain ⟨hr9, hn11⟩ := hr9
    have hN : xct st ≤ xct o8.2 := Nat.le_trans hN hn11
    have hP : va_P D xcl (xMw cT aM ad rd gd vad o8.2 []) H1 := hP1
    have hD : va_D A (xMw cT aM ad rd gd vad o8.2 []) := hD1.weaken (fun k q _ h => hFc q.1 h)
    generalize H1 = H at hP hS ⊢
    rw [hr9]
    refine W.eq (g2 := F0 m 25 ls [.int o8.1]) (by first | rfl | (skip; rfl)) ?_
    refine lv_if_le (tgt := 32) hx hb dM_same0_25 (by decide) (fun hc => ?_) (fun hc => ?_)
    · rw [if_pos hc] at hf
      refine lv_iconst (v := 0) hx hb dM_same0_32 (by decide) ?_
      obtain rfl := Option.some.inj hf
      exact absurd (show (0 : Nat) = 3 from hkd) (by decide)
    · rw [if_neg hc] at hf
      refine lv_iconst (v := 1) hx hb dM_same0_28 (by decide) ?_
      refine lv_goto (tgt := 33) hx hb dM_same0_29 (by decide) ?_
      obtain rfl := Option.some.inj hf
      exact absurd (show (0 : Nat) = 3 from hkd) (by decide)
  · rw [if_pos hc] at hf
    refine lv_aload_n hx hb dM_same0_12 rfl (lv_at hl 0 rfl) ?_
    refine lv_iload_n hx hb dM_same0_13 rfl (lv_at hl 2 rfl) ?_
    obtain ⟨o8, hq9, hf⟩ := xbind hf
    have hFc := xm_free hD hS hA
    refine va_calli (va_runV (C := "ValueBenchModel") (As := [.int x1]) (rest := []) ⟨hx, hb, hml, hown, htx⟩ (gM_out l hl9 D cT aK aV H.size n aM ad rd gd vad o1 x1 o8 hq9) ⟨callB_of 1 htx (xw_goodC kw_5_217) rfl rfl rfl (htx _ kw_1_5) (htx _ kw_5_214) ⟨by decide, by decide, by decide +kernel⟩ ⟨Nat.le_of_ble_eq_true rfl, Nat.le_of_ble_eq_true rfl⟩, (htx _ kw_5_216), (htx _ kp_M_out)⟩ ⟨xPre_blind, va_recv hK hP (ci := 5) rfl (q0 := 0) rfl, (fun U hU hW => ⟨rfl, xPre_of hZ hS hFc hP hD hK U hU hW⟩)⟩ rfl rfl hl.1 rfl (xm_room (Nat.le_of_ble_eq_true rfl)) dM_same0_14 ⟨Nat.zero_le _, Nat.zero_le _⟩) hS (fun q _ h => hFc q h) hFc (fun r10 u9 t H1 locs ht hvm hr9 hB hz1 hk1 hS => ?_)
    obtain ⟨hP1, hK1, hD1⟩ := hB
    rw [ht] at hP1
    have hP : va_P D xcl (xMw cT aM ad rd gd vad o1 []) H1 := hP1
    have hD : va_D A (xMw cT aM ad rd gd vad o1 []) := hD1.weaken (fun k q _ h => hFc q.1 h)
    generalize H1 = H at hP hS ⊢
    rw [hr9]
    refine W.eq (g2 := F0 m 17 ls [.int o8]) (by first | rfl | (skip; rfl)) ?_
    refine lv_if_eq (tgt := 34) hx hb dM_same0_17 (by decide) (fun hc => ?_) (fun hc => ?_)
    · rw [if_pos hc] at hf
      refine lv_aload_n hx hb dM_same0_34 rfl (lv_at hl 0 rfl) ?_
      refine lv_aload_n hx hb dM_same0_35 rfl (lv_at hl 0 rfl) ?_
      refine lv_iload_n hx hb dM_same0_36 rfl (lv_at hl 1 rfl) ?_
      obtain ⟨o11, hq12, hf⟩ := xbind hf
      by_cases hk13 : o11.1 = 0
      · rw [if_pos hk13] at hf
        obtain ⟨hm14, hf⟩ := xmoE hf
        have hFc := xm_free hD hS hA
        refine va_callq (va_runV (C := "ValueBenchModel") (As := [.int x0]) (rest := [.ref aM]) ⟨hx, hb, hml, hown, htx⟩ (gM_register l hl9 D cT aK aV H.size d n aM ad rd gd vad o1 x0 o11 hq12 hk13) ⟨callB_of 1 htx (xw_goodC kw_6_170) rfl rfl rfl (htx _ kw_1_5) (htx _ kw_6_167) ⟨by decide, by decide, by decide +kernel⟩ ⟨(by show (16 * d + 8) + 1 ≤ 16 * d + 9; omega), (by show 8 + (2 + 11) + (400 * d + 145) ≤ 400 * d + 166; omega)⟩, (htx _ kw_6_169), (htx _ kp_M_register)⟩ ⟨xPre_blind, va_recv hK hP (ci := 5) rfl (q0 := 0) rfl, (fun U hU hW => ⟨rfl, xPre_of hZ hS hFc hP hD hK U hU hW⟩)⟩ rfl rfl hl.1 rfl (xm_room (Nat.le_of_ble_eq_true rfl)) dM_same0_37 ⟨hm14.1, hm14.2⟩) hS (fun q _ h => hFc q h) hFc (fun r15 u9 t H1 locs ht hvm hr9 hB hz1 hk1 hS => ?_)
        obtain ⟨hP1, hK1, hD1⟩ := hB
        rw [ht] at hP1
        obtain ⟨ad16, gd17, vad18⟩ := u9
        obtain ⟨hr9, hv19, hn20⟩ := hr9
        have hP : va_P D xcl (xMw cT aM ad16 rd gd17 vad18 o11.2.2.2.2 []) H1 := hP1
        have hD : va_D A (xMw cT aM ad16 rd gd17 vad18 o11.2.2.2.2 []) := hD1.weaken (fun k q _ h => hFc q.1 h)
        generalize H1 = H at hP hS ⊢
        have hE9 : ∀ p, p < xct st → vad18 p = vad p := fun p h => (hv19 p (Nat.lt_of_lt_of_le h hN)).trans (hE p h)
        have hE := hE9
        have hN : xct st ≤ xct o11.2.2.2.2 := Nat.le_trans hN hn20
        rw [hr9]
        refine W.eq (g2 := F0 m 40 ls [xv vad18 o11.2.2.2.1, .ref aM]) (by first | rfl | (skip; rfl)) ?_
        refine lv_aload_n hx hb dM_same0_40 rfl (lv_at hl 0 rfl) ?_
        refine lv_iload_n hx hb dM_same0_41 rfl (lv_at hl 2 rfl) ?_
        obtain ⟨o21, hq22, hf⟩ := xbind hf
        by_cases hk23 : o21.1 = 0
        · rw [if_pos hk23] at hf
          obtain ⟨hg24, hf⟩ := xifn hf
          obtain ⟨hm25, hf⟩ := xmoE hf
          have hFc := xm_free hD hS hA
          refine va_callq (va_runV (C := "ValueBenchModel") (As := [.int x1]) (rest := [xv vad18 o11.2.2.2.1, .ref aM]) ⟨hx, hb, hml, hown, htx⟩ (gM_register l hl9 D cT aK aV H.size d n aM ad16 rd gd17 vad18 o11.2.2.2.2 x1 o21 hq22 hk23) ⟨callB_of 1 htx (xw_goodC kw_6_170) rfl rfl rfl (htx _ kw_1_5) (htx _ kw_6_167) ⟨by decide, by decide, by decide +kernel⟩ ⟨(by show (16 * d + 8) + 1 ≤ 16 * d + 9; omega), (by show 8 + (2 + 11) + (400 * d + 145) ≤ 400 * d + 166; omega)⟩, (htx _ kw_6_169), (htx _ kp_M_register)⟩ ⟨xPre_blind, va_recv hK hP (ci := 5) rfl (q0 := 0) rfl, (fun U hU hW => ⟨rfl, xPre_of hZ hS hFc hP hD hK U hU hW⟩)⟩ rfl rfl hl.1 rfl (xm_room (by simp [xvcat, xrscat, xcI, xcL, xcR, xcN])) dM_same0_42 ⟨hm25.1, hm25.2⟩) hS (fun q _ h => hFc q h) hFc (fun r26 u9 t H1 locs ht hvm hr9 hB hz1 hk1 hS => ?_)
          obtain ⟨hP1, hK1, hD1⟩ := hB
          rw [ht] at hP1
          obtain ⟨ad27, gd28, vad29⟩ := u9
          obtain ⟨hr9, hv30, hn31⟩ := hr9
          have hP : va_P D xcl (xMw cT aM ad27 rd gd28 vad29 o21.2.2.2.2 []) H1 := hP1
          have hD : va_D A (xMw cT aM ad27 rd gd28 vad29 o21.2.2.2.2 []) := hD1.weaken (fun k q _ h => hFc q.1 h)
          generalize H1 = H at hP hS ⊢
          have hE9 : ∀ p, p < xct st → vad29 p = vad p := fun p h => (hv30 p (Nat.lt_of_lt_of_le h hN)).trans (hE p h)
          have hE := hE9
          have hN : xct st ≤ xct o21.2.2.2.2 := Nat.le_trans hN hn31
          have ev32 : xv vad18 o11.2.2.2.1 = xv vad29 o11.2.2.2.1 := xvE hv30 hg24
          rw [hr9]
          refine W.eq (g2 := F0 m 45 ls [xv vad29 o21.2.2.2.1, xv vad29 o11.2.2.2.1, .ref aM]) (by first | rfl | ((try (rw [ev32])); rfl)) ?_
          obtain ⟨o33, hq34, hf⟩ := xbind hf
          have hFc := xm_free hD hS hA
          refine va_calli (va_runV (C := "ValueBenchModel") (As := [xv vad29 o11.2.2.2.1, xv vad29 o21.2.2.2.1]) (rest := []) ⟨hx, hb, hml, hown, htx⟩ (gM_same1 l hl9 D cT aK aV d H.size n aM ad27 rd gd28 vad29 o21.2.2.2.2 o11.2.2.2.1 o21.2.2.2.1 o33 hq34) ⟨callB_of 2 htx (xw_goodC kw_6_174) rfl rfl rfl (htx _ kw_1_5) (htx _ kw_6_171) ⟨by decide, by decide, by decide +kernel⟩ ⟨(by show (16 * d) + 1 ≤ 16 * d + 9; omega), (by show 8 + (5 + 11) + (400 * d) ≤ 400 * d + 166; omega)⟩, (htx _ kw_6_173), (htx _ kp_M_same1)⟩ ⟨xPre_blind, va_recv hK hP (ci := 5) rfl (q0 := 0) rfl, (fun U hU hW => ⟨rfl, xPre_of hZ hS hFc hP hD hK U hU hW⟩)⟩ rfl rfl hl.1 rfl (xm_room (Nat.le_of_ble_eq_true rfl)) dM_same0_45 ⟨hm25.1, hm25.2⟩) hS (fun q _ h => hFc q h) hFc (fun r35 u9 t H1 locs ht hvm hr9 hB hz1 hk1 hS => ?_)
          obtain ⟨hP1, hK1, hD1⟩ := hB
          rw [ht] at hP1
          have hP : va_P D xcl (xMw cT aM ad27 rd gd28 vad29 o21.2.2.2.2 []) H1 := hP1
          have hD : va_D A (xMw cT aM ad27 rd gd28 vad29 o21.2.2.2.2 []) := hD1.weaken (fun k q _ h => hFc q.1 h)
          generalize H1 = H at hP hS ⊢
          rw [hr9]
          refine W.eq (g2 := F0 m 48 ls [.int o33]) (by first | rfl | (skip; rfl)) ?_
          obtain ⟨hg36, hf⟩ := xifn hf
          obtain rfl := Option.some.inj hf
          exact absurd (show (0 : Nat) = 3 from hkd) (by decide)
        rw [if_neg hk23] at hf
        by_cases hk37 : o21.1 = 1
        · rw [if_pos hk37] at hf
          obtain ⟨hm38, hf⟩ := xmoE hf
          obtain rfl := Option.some.inj hf
          exact absurd (show (1 : Nat) = 3 from hkd) (by decide)
        rw [if_neg hk37] at hf
        by_cases hk45 : o21.1 = 2
        · rw [if_pos hk45] at hf
          obtain ⟨hm46, hf⟩ := xmoE hf
          obtain rfl := Option.some.inj hf
          exact absurd (show (2 : Nat) = 3 from hkd) (by decide)
        rw [if_neg hk45] at hf
        by_cases hk53 : o21.1 = 3
        · rw [if_pos hk53] at hf
          obtain ⟨hm54, hf⟩ := xmoE hf
          have hFc := xm_free hD hS hA
          refine xx_thr (vx_runV (C := "ValueBenchModel") (As := [.int x1]) (rest := [xv vad18 o11.2.2.2.1, .ref aM]) ⟨hx, hb, hml, hown, htx⟩ (gM_register_3 l hl9 D cT aK aV H.size d n aM ad16 rd gd17 vad18 o11.2.2.2.2 x1 o21 hq22 hk53) ⟨callB_of 1 htx (xw_goodC kw_6_170) rfl rfl rfl (htx _ kw_1_5) (htx _ kw_6_167) ⟨by decide, by decide, by decide +kernel⟩ ⟨(by show (16 * d + 8) + 1 ≤ 16 * d + 9; omega), (by show 8 + (2 + 11) + (400 * d + 145) ≤ 400 * d + 166; omega)⟩, (htx _ kw_6_169), (htx _ kp_M_register)⟩ ⟨xPre_blind, va_recv hK hP (ci := 5) rfl (q0 := 0) rfl, (fun U hU hW => ⟨rfl, xPre_of hZ hS hFc hP hD hK U hU hW⟩)⟩ rfl rfl hl.1 rfl (xm_room (by simp [xvcat, xrscat, xcI, xcL, xcR, xcN])) dM_same0_42 ⟨hm54.1, hm54.2⟩) hS hFc (fun q _ h => hFc q h) (fun E ce q9 u9 t H1 locs ht hvm hr9 hB hz1 hk1 hS hce hcv hcl => ?_)
          obtain ⟨rfl, hP1, hK1, hD1⟩ := hB
          rw [ht] at hP1
          obtain ⟨ad56, gd57, vad58⟩ := u9
          obtain ⟨hv59, hn60⟩ := hr9
          have hP : va_P D xcl (xMw cT aM ad56 rd gd57 vad58 o21.2.2.2.2 []) H1 := hP1
          have hD : va_D A (xMw cT aM ad56 rd gd57 vad58 o21.2.2.2.2 []) := hD1.weaken (fun k q _ h => hFc q.1 h)
          generalize H1 = H at hP hS hce ⊢
          have hE9 : ∀ p, p < xct st → vad58 p = vad p := fun p h => (hv59 p (Nat.lt_of_lt_of_le h hN)).trans (hE p h)
          have hE := hE9
          have hN : xct st ≤ xct o21.2.2.2.2 := Nat.le_trans hN hn60
          obtain rfl := Option.some.inj hf
          exact vx_out (E := "java/lang/ArithmeticException") (fun x h => (hne x h).elim) hlocks hce hcv hcl (fun t ht ha => ⟨(ad56, gd57, vad58), ⟨hE, hN⟩, ⟨rfl, by rw [ht]; exact hP, va_K.moved ha hK, hD⟩, hS.F ht⟩) hS.2.2 (Nat.le_refl _) (Nat.le_refl _)
        rw [if_neg hk53] at hf
        exact nomatch hf
      rw [if_neg hk13] at hf
      by_cases hk61 : o11.1 = 1
      · rw [if_pos hk61] at hf
        obtain ⟨hm62, hf⟩ := xmoE hf
        obtain rfl := Option.some.inj hf
        exact absurd (show (1 : Nat) = 3 from hkd) (by decide)
      rw [if_neg hk61] at hf
      by_cases hk69 : o11.1 = 2
      · rw [if_pos hk69] at hf
        obtain ⟨hm70, hf⟩ := xmoE hf
        obtain rfl := Option.some.inj hf
        exact absurd (show (2 : Nat) = 3 from hkd) (by decide)
      rw [if_neg hk69] at hf
      by_cases hk77 : o11.1 = 3
      · rw [if_pos hk77] at hf
        obtain ⟨hm78, hf⟩ := xmoE hf
        have hFc := xm_free hD hS hA
        refine xx_thr (vx_runV (C := "ValueBenchModel") (As := [.int x0]) (rest := [.ref aM]) ⟨hx, hb, hml, hown, htx⟩ (gM_register_3 l hl9 D cT aK aV H.size d n aM ad rd gd vad o1 x0 o11 hq12 hk77) ⟨callB_of 1 htx (xw_goodC kw_6_170) rfl rfl rfl (htx _ kw_1_5) (htx _ kw_6_167) ⟨by decide, by decide, by decide +kernel⟩ ⟨(by show (16 * d + 8) + 1 ≤ 16 * d + 9; omega), (by show 8 + (2 + 11) + (400 * d + 145) ≤ 400 * d + 166; omega)⟩, (htx _ kw_6_169), (htx _ kp_M_register)⟩ ⟨xPre_blind, va_recv hK hP (ci := 5) rfl (q0 := 0) rfl, (fun U hU hW => ⟨rfl, xPre_of hZ hS hFc hP hD hK U hU hW⟩)⟩ rfl rfl hl.1 rfl (xm_room (Nat.le_of_ble_eq_true rfl)) dM_same0_37 ⟨hm78.1, hm78.2⟩) hS hFc (fun q _ h => hFc q h) (fun E ce q9 u9 t H1 locs ht hvm hr9 hB hz1 hk1 hS hce hcv hcl => ?_)
        obtain ⟨rfl, hP1, hK1, hD1⟩ := hB
        rw [ht] at hP1
        obtain ⟨ad80, gd81, vad82⟩ := u9
        obtain ⟨hv83, hn84⟩ := hr9
        have hP : va_P D xcl (xMw cT aM ad80 rd gd81 vad82 o11.2.2.2.2 []) H1 := hP1
        have hD : va_D A (xMw cT aM ad80 rd gd81 vad82 o11.2.2.2.2 []) := hD1.weaken (fun k q _ h => hFc q.1 h)
        generalize H1 = H at hP hS hce ⊢
        have hE9 : ∀ p, p < xct st → vad82 p = vad p := fun p h => (hv83 p (Nat.lt_of_lt_of_le h hN)).trans (hE p h)
        have hE := hE9
        have hN : xct st ≤ xct o11.2.2.2.2 := Nat.le_trans hN hn84
        obtain rfl := Option.some.inj hf
        exact vx_out (E := "java/lang/ArithmeticException") (fun x h => (hne x h).elim) hlocks hce hcv hcl (fun t ht ha => ⟨(ad80, gd81, vad82), ⟨hE, hN⟩, ⟨rfl, by rw [ht]; exact hP, va_K.moved ha hK, hD⟩, hS.F ht⟩) hS.2.2 (Nat.le_refl _) (Nat.le_refl _)
      rw [if_neg hk77] at hf
      exact nomatch hf
    · rw [if_neg hc] at hf
      refine lv_aload_n hx hb dM_same0_20 rfl (lv_at hl 0 rfl) ?_
      refine lv_iconst (v := 1) hx hb dM_same0_21 (by decide) ?_
      obtain ⟨o11, hq12, hf⟩ := xbind hf
      have hFc := xm_free hD hS hA
      refine va_calli (va_runV (C := "ValueBenchModel") (As := [.int 1]) (rest := []) ⟨hx, hb, hml, hown, htx⟩ (gM_fail l hl9 D cT aK aV H.size n aM ad rd gd vad o1 (1 : Int32) o11 hq12) ⟨callB_of 1 htx (xw_goodC kw_5_195) rfl rfl rfl (htx _ kw_1_5) (htx _ kw_5_192) ⟨by decide, by decide, by decide +kernel⟩ ⟨Nat.le_of_ble_eq_true rfl, Nat.le_of_ble_eq_true rfl⟩, (htx _ kw_5_194), (htx _ kp_M_fail)⟩ ⟨xPre_blind, va_recv hK hP (ci := 5) rfl (q0 := 0) rfl, (fun U hU hW => ⟨rfl, xPre_of hZ hS hFc hP hD hK U hU hW⟩)⟩ rfl rfl hl.1 rfl (xm_room (Nat.le_of_ble_eq_true rfl)) dM_same0_22 ⟨Nat.zero_le _, Nat.zero_le _⟩) hS (fun q _ h => hFc q h) hFc (fun r13 u9 t H1 locs ht hvm hr9 hB hz1 hk1 hS => ?_)
      obtain ⟨hP1, hK1, hD1⟩ := hB
      rw [ht] at hP1
      obtain ⟨hr9, hn14⟩ := hr9
      have hN : xct st ≤ xct o11.2 := Nat.le_trans hN hn14
      have hP : va_P D xcl (xMw cT aM ad rd gd vad o11.2 []) H1 := hP1
      have hD : va_D A (xMw cT aM ad rd gd vad o11.2 []) := hD1.weaken (fun k q _ h => hFc q.1 h)
      generalize H1 = H at hP hS ⊢
      rw [hr9]
      refine W.eq (g2 := F0 m 25 ls [.int o11.1]) (by first | rfl | (skip; rfl)) ?_
      refine lv_if_le (tgt := 32) hx hb dM_same0_25 (by decide) (fun hc => ?_) (fun hc => ?_)
      · rw [if_pos hc] at hf
        refine lv_iconst (v := 0) hx hb dM_same0_32 (by decide) ?_
        obtain rfl := Option.some.inj hf
        exact absurd (show (0 : Nat) = 3 from hkd) (by decide)
      · rw [if_neg hc] at hf
        refine lv_iconst (v := 1) hx hb dM_same0_28 (by decide) ?_
        refine lv_goto (tgt := 33) hx hb dM_same0_29 (by decide) ?_
        obtain rfl := Option.some.inj hf
        exact absurd (show (0 : Nat) = 3 from hkd) (by decide)
set_option maxHeartbeats 400000000 in
set_option maxRecDepth 100000 in
theorem gM_sort0 (l : Launch) (hl9 : l.stackTraces = false) (D : va_G) (cT : Nat → ClassId) (aK aV : Nat → Nat) (sz d n : Nat) (aM : Nat) (ad rd gd vad : Nat → Nat) (st : xS) (x0 : Int32) (x1 : Int32) (x2 : Int32) (x3 : Int32) (out : Nat × Nat × xS) (hf : fM_sort0 d n st x0 x1 x2 x3 = some out) : xMet l yM_sort0 wyM_sort0 (16 * d + 13) out.1 out.2.1 (400 * d + 275) D cT aK aV sz [.ref aM, .int x0, .int x1, .int x2, .int x3] (xMw cT aM ad rd gd vad st []) (fun A => va_Qv (fun u : xU => xE vad st out.2.2 u) (fun u t => xB D xcl cT A (xMw cT aM u.1 rd u.2.1 u.2.2 out.2.2 []) t) A) := by
  refine Met.ofW (cc := prog_13_method_94_code) (maxL := 5) (ret := none) (by decide) rfl ?_
  intro p e s m args below meth c s₁ B hml hv
  obtain ⟨rfl, hsz, hZ, hP, hK, hD0⟩ := hv
  have hx := B.exec
  have hb := B.bytes
  have hr := B.returns
  have hts := atoms_spec (ws := wyM_sort0) B.pre
  have htx := fun w h => hts w (List.mem_cons_of_mem _ h)
  have hown : s.vm.findClass "ValueBenchModel" = some m.cls := findClass_of_methodNamed B.named
  have hlocks := B.notSynchronized
  subst hsz
  have hD := hD0.self (sz := s.heap.size)
  generalize hAe : va_A (xMw cT aM ad rd gd vad st []) s.heap.size = A at hD hZ ⊢
  have hA : ∀ q : Nat, s.heap.size ≤ q → A q := fun q h => by rw [← hAe]; exact Or.inr h
  have hS : va_S A s.heap s.heap [] := va_S.rf
  have hl := lv_entry ([.ref aM, .int x0, .int x1, .int x2, .int x3]) (n := 5) (by simp [lg_sl, xvcat, xrscat, xcI, xcL, xcR, xcN])
  rw [show lv_args 0 [.ref aM, .int x0, .int x1, .int x2, .int x3] = [(0, .ref aM), (1, .int x0), (2, .int x1), (3, .int x2), (4, .int x3)] from by simp [lv_args, xvcat, xrscat, xcI, xcL, xcR, xcN]] at hl
  rw [lg_entry_eq]
  generalize (lg_sl ([.ref aM, .int x0, .int x1, .int x2, .int x3]) ++ List.replicate (5 - (lg_sl ([.ref aM, .int x0, .int x1, .int x2, .int x3])).length) Slot.unset).toArray = ls at hl ⊢
  have hl : lv_has ls 5 [(0, .ref aM), (1, .int x0), (2, .int x1), (3, .int x2), (4, .int x3)] := hl
  have hE : ∀ p, p < xct st → vad p = vad p := fun _ _ => rfl
  have hN : xct st ≤ xct st := Nat.le_refl _
  unfold fM_sort0 at hf
  refine lv_aload_n hx hb dM_sort0_0 rfl (lv_at hl 0 rfl) ?_
  obtain ⟨o1, hq2, hf⟩ := xbind hf
  have hFc := xm_free hD hS hA
  refine va_callv (va_runV (C := "ValueBenchModel") (As := []) (rest := []) ⟨hx, hb, hml, hown, htx⟩ (gM_begin l hl9 D cT aK aV s.heap.size n aM ad rd gd vad st o1 hq2) ⟨callB_of 0 htx (xw_goodC kw_5_209) rfl rfl rfl (htx _ kw_1_5) (htx _ kw_5_206) ⟨by decide, by decide, by decide +kernel⟩ ⟨Nat.le_of_ble_eq_true rfl, Nat.le_of_ble_eq_true rfl⟩, (htx _ kw_5_208), (htx _ kp_M_begin)⟩ ⟨xPre_blind, va_recv hK hP (ci := 5) rfl (q0 := 0) rfl, (fun U hU hW => ⟨rfl, xPre_of hZ hS hFc hP hD hK U hU hW⟩)⟩ rfl rfl hl.1 rfl (xm_room (Nat.le_of_ble_eq_true rfl)) dM_sort0_1 ⟨Nat.zero_le _, Nat.zero_le _⟩) hS (fun q _ h => hFc q h) hFc (fun u9 t H1 locs ht hvm hr9 hB hz1 hk1 hS => ?_)
  obtain ⟨hP1, hK1, hD1⟩ := hB
  rw [ht] at hP1
  have hn4 := hr9
  have hN : xct st ≤ xct o1 := Nat.le_trans hN hn4
  have hP : va_P D xcl (xMw cT aM ad rd gd vad o1 []) H1 := hP1
  have hD : va_D A (xMw cT aM ad rd gd vad o1 []) := hD1.weaken (fun k q _ h => hFc q.1 h)
  generalize H1 = H at hP hS ⊢
  refine W.eq (g2 := F0 m 4 ls []) (by first | rfl | (skip; rfl)) ?_
  refine lv_aload_n hx hb dM_sort0_4 rfl (lv_at hl 0 rfl) ?_
  refine lv_iload_n hx hb dM_sort0_5 rfl (lv_at hl 1 rfl) ?_
  obtain ⟨o5, hq6, hf⟩ := xbind hf
  have hFc := xm_free hD hS hA
  refine va_calli (va_runV (C := "ValueBenchModel") (As := [.int x0]) (rest := []) ⟨hx, hb, hml, hown, htx⟩ (gM_out l hl9 D cT aK aV H.size n aM ad rd gd vad o1 x0 o5 hq6) ⟨callB_of 1 htx (xw_goodC kw_5_217) rfl rfl rfl (htx _ kw_1_5) (htx _ kw_5_214) ⟨by decide, by decide, by decide +kernel⟩ ⟨Nat.le_of_ble_eq_true rfl, Nat.le_of_ble_eq_true rfl⟩, (htx _ kw_5_216), (htx _ kp_M_out)⟩ ⟨xPre_blind, va_recv hK hP (ci := 5) rfl (q0 := 0) rfl, (fun U hU hW => ⟨rfl, xPre_of hZ hS hFc hP hD hK U hU hW⟩)⟩ rfl rfl hl.1 rfl (xm_room (Nat.le_of_ble_eq_true rfl)) dM_sort0_6 ⟨Nat.zero_le _, Nat.zero_le _⟩) hS (fun q _ h => hFc q h) hFc (fun r7 u9 t H1 locs ht hvm hr9 hB hz1 hk1 hS => ?_)
  obtain ⟨hP1, hK1, hD1⟩ := hB
  rw [ht] at hP1
  have hP : va_P D xcl (xMw cT aM ad rd gd vad o1 []) H1 := hP1
  have hD : va_D A (xMw cT aM ad rd gd vad o1 []) := hD1.weaken (fun k q _ h => hFc q.1 h)
  generalize H1 = H at hP hS ⊢
  rw [hr9]
  refine W.eq (g2 := F0 m 9 ls [.int o5]) (by first | rfl | (skip; rfl)) ?_
  refine lv_if_ne (tgt := 38) hx hb dM_sort0_9 (by decide) (fun hc => ?_) (fun hc => ?_)
  · rw [if_neg hc] at hf
    refine lv_aload_n hx hb dM_sort0_38 rfl (lv_at hl 0 rfl) ?_
    refine lv_iconst (v := 1) hx hb dM_sort0_39 (by decide) ?_
    refine xm_put (v := .int 1) (W' := (xMw cT aM ad rd gd vad (xsI o1 0 1) [])) (ty := .int) hx hb htx hown hK hP hD hS 0 (by decide) rfl (htx _ kw_5_87) rfl rfl (by decide +kernel) rfl rfl dM_sort0_40 (fun H locs hP hD hS => ?_)
    refine lv_goto (tgt := 56) hx hb dM_sort0_43 (by decide) ?_
    obtain rfl := Option.some.inj hf
    exact W.vret hx hb hr (fun t ht hW => ⟨⟨(ad, gd, vad), rfl, ⟨hE, hN⟩, by rw [ht]; exact hP, va_K.moved hW.alike hK, hD⟩, hS.F ht⟩) hS.2.2 dM_sort0_56
  · rw [if_pos hc] at hf
    refine lv_iload_n hx hb dM_sort0_12 rfl (lv_at hl 2 rfl) ?_
    refine lv_if_lt (tgt := 38) hx hb dM_sort0_13 (by decide) (fun hc => ?_) (fun hc => ?_)
    · rw [if_pos hc] at hf
      refine lv_aload_n hx hb dM_sort0_38 rfl (lv_at hl 0 rfl) ?_
      refine lv_iconst (v := 1) hx hb dM_sort0_39 (by decide) ?_
      refine xm_put (v := .int 1) (W' := (xMw cT aM ad rd gd vad (xsI o1 0 1) [])) (ty := .int) hx hb htx hown hK hP hD hS 0 (by decide) rfl (htx _ kw_5_87) rfl rfl (by decide +kernel) rfl rfl dM_sort0_40 (fun H locs hP hD hS => ?_)
      refine lv_goto (tgt := 56) hx hb dM_sort0_43 (by decide) ?_
      obtain rfl := Option.some.inj hf
      exact W.vret hx hb hr (fun t ht hW => ⟨⟨(ad, gd, vad), rfl, ⟨hE, hN⟩, by rw [ht]; exact hP, va_K.moved hW.alike hK, hD⟩, hS.F ht⟩) hS.2.2 dM_sort0_56
    · rw [if_neg hc] at hf
      refine lv_iload_n hx hb dM_sort0_16 rfl (lv_at hl 2 rfl) ?_
      refine lv_iconst (v := 4) hx hb dM_sort0_17 (by decide) ?_
      refine lv_icmp_gt (tgt := 38) hx hb dM_sort0_18 (by decide) (fun hc => ?_) (fun hc => ?_)
      · rw [if_pos hc] at hf
        refine lv_aload_n hx hb dM_sort0_38 rfl (lv_at hl 0 rfl) ?_
        refine lv_iconst (v := 1) hx hb dM_sort0_39 (by decide) ?_
        refine xm_put (v := .int 1) (W' := (xMw cT aM ad rd gd vad (xsI o1 0 1) [])) (ty := .int) hx hb htx hown hK hP hD hS 0 (by decide) rfl (htx _ kw_5_87) rfl rfl (by decide +kernel) rfl rfl dM_sort0_40 (fun H locs hP hD hS => ?_)
        refine lv_goto (tgt := 56) hx hb dM_sort0_43 (by decide) ?_
        obtain rfl := Option.some.inj hf
        exact W.vret hx hb hr (fun t ht hW => ⟨⟨(ad, gd, vad), rfl, ⟨hE, hN⟩, by rw [ht]; exact hP, va_K.moved hW.alike hK, hD⟩, hS.F ht⟩) hS.2.2 dM_sort0_56
      · rw [if_neg hc] at hf
        refine lv_aload_n hx hb dM_sort0_21 rfl (lv_at hl 0 rfl) ?_
        refine lv_iload_n hx hb dM_sort0_22 rfl (lv_at hl 3 rfl) ?_
        obtain ⟨o8, hq9, hf⟩ := xbind hf
        have hFc := xm_free hD hS hA
        refine va_calli (va_runV (C := "ValueBenchModel") (As := [.int x2]) (rest := []) ⟨hx, hb, hml, hown, htx⟩ (gM_out l hl9 D cT aK aV H.size n aM ad rd gd vad o1 x2 o8 hq9) ⟨callB_of 1 htx (xw_goodC kw_5_217) rfl rfl rfl (htx _ kw_1_5) (htx _ kw_5_214) ⟨by decide, by decide, by decide +kernel⟩ ⟨Nat.le_of_ble_eq_true rfl, Nat.le_of_ble_eq_true rfl⟩, (htx _ kw_5_216), (htx _ kp_M_out)⟩ ⟨xPre_blind, va_recv hK hP (ci := 5) rfl (q0 := 0) rfl, (fun U hU hW => ⟨rfl, xPre_of hZ hS hFc hP hD hK U hU hW⟩)⟩ rfl rfl hl.1 rfl (xm_room (Nat.le_of_ble_eq_true rfl)) dM_sort0_23 ⟨Nat.zero_le _, Nat.zero_le _⟩) hS (fun q _ h => hFc q h) hFc (fun r10 u9 t H1 locs ht hvm hr9 hB hz1 hk1 hS => ?_)
        obtain ⟨hP1, hK1, hD1⟩ := hB
        rw [ht] at hP1
        have hP : va_P D xcl (xMw cT aM ad rd gd vad o1 []) H1 := hP1
        have hD : va_D A (xMw cT aM ad rd gd vad o1 []) := hD1.weaken (fun k q _ h => hFc q.1 h)
        generalize H1 = H at hP hS ⊢
        rw [hr9]
        refine W.eq (g2 := F0 m 26 ls [.int o8]) (by first | rfl | (skip; rfl)) ?_
        refine lv_if_ne (tgt := 38) hx hb dM_sort0_26 (by decide) (fun hc => ?_) (fun hc => ?_)
        · rw [if_neg hc] at hf
          refine lv_aload_n hx hb dM_sort0_38 rfl (lv_at hl 0 rfl) ?_
          refine lv_iconst (v := 1) hx hb dM_sort0_39 (by decide) ?_
          refine xm_put (v := .int 1) (W' := (xMw cT aM ad rd gd vad (xsI o1 0 1) [])) (ty := .int) hx hb htx hown hK hP hD hS 0 (by decide) rfl (htx _ kw_5_87) rfl rfl (by decide +kernel) rfl rfl dM_sort0_40 (fun H locs hP hD hS => ?_)
          refine lv_goto (tgt := 56) hx hb dM_sort0_43 (by decide) ?_
          obtain rfl := Option.some.inj hf
          exact W.vret hx hb hr (fun t ht hW => ⟨⟨(ad, gd, vad), rfl, ⟨hE, hN⟩, by rw [ht]; exact hP, va_K.moved hW.alike hK, hD⟩, hS.F ht⟩) hS.2.2 dM_sort0_56
        · rw [if_pos hc] at hf
          refine lv_aload_n hx hb dM_sort0_29 rfl (lv_at hl 0 rfl) ?_
          refine lv_iload hx hb dM_sort0_30 (lv_at hl 4 rfl) ?_
          obtain ⟨o11, hq12, hf⟩ := xbind hf
          have hFc := xm_free hD hS hA
          refine va_calli (va_runV (C := "ValueBenchModel") (As := [.int x3]) (rest := []) ⟨hx, hb, hml, hown, htx⟩ (gM_out l hl9 D cT aK aV H.size n aM ad rd gd vad o1 x3 o11 hq12) ⟨callB_of 1 htx (xw_goodC kw_5_217) rfl rfl rfl (htx _ kw_1_5) (htx _ kw_5_214) ⟨by decide, by decide, by decide +kernel⟩ ⟨Nat.le_of_ble_eq_true rfl, Nat.le_of_ble_eq_true rfl⟩, (htx _ kw_5_216), (htx _ kp_M_out)⟩ ⟨xPre_blind, va_recv hK hP (ci := 5) rfl (q0 := 0) rfl, (fun U hU hW => ⟨rfl, xPre_of hZ hS hFc hP hD hK U hU hW⟩)⟩ rfl rfl hl.1 rfl (xm_room (Nat.le_of_ble_eq_true rfl)) dM_sort0_32 ⟨Nat.zero_le _, Nat.zero_le _⟩) hS (fun q _ h => hFc q h) hFc (fun r13 u9 t H1 locs ht hvm hr9 hB hz1 hk1 hS => ?_)
          obtain ⟨hP1, hK1, hD1⟩ := hB
          rw [ht] at hP1
          have hP : va_P D xcl (xMw cT aM ad rd gd vad o1 []) H1 := hP1
          have hD : va_D A (xMw cT aM ad rd gd vad o1 []) := hD1.weaken (fun k q _ h => hFc q.1 h)
          generalize H1 = H at hP hS ⊢
          rw [hr9]
          refine W.eq (g2 := F0 m 35 ls [.int o11]) (by first | rfl | (skip; rfl)) ?_
          refine lv_if_eq (tgt := 46) hx hb dM_sort0_35 (by decide) (fun hc => ?_) (fun hc => ?_)
          · rw [if_pos hc] at hf
            refine lv_aload_n hx hb dM_sort0_46 rfl (lv_at hl 0 rfl) ?_
            refine lv_iload_n hx hb dM_sort0_47 rfl (lv_at hl 1 rfl) ?_
            refine lv_iconst (v := 3) hx hb dM_sort0_48 (by decide) ?_
            refine lv_iload_n hx hb dM_sort0_49 rfl (lv_at hl 2 rfl) ?_
            refine lv_iload_n hx hb dM_sort0_50 rfl (lv_at hl 3 rfl) ?_
            refine lv_iload hx hb dM_sort0_51 (lv_at hl 4 rfl) ?_
            obtain ⟨o14, hq15, hf⟩ := xbind hf
            obtain ⟨hm16, hf⟩ := xmoE hf
            have hFc := xm_free hD hS hA
            refine va_callv (vx_runVW (C := "ValueBenchModel") (As := [.int x0, .int 3, .int x1, .int x2, .int x3]) (rest := []) ⟨hx, hb, hml, hown, htx⟩ (gM_finish l hl9 D cT aK aV H.size d n aM ad rd gd vad o1 x0 (3 : Int32) x1 x2 x3 o14 hq15) (xcVW 5 htx (xw_goodC kw_6_195) rfl rfl rfl (htx _ kw_1_5) (htx _ kw_6_192) ⟨by decide, by decide, by decide +kernel⟩ ⟨(by show (16 * d + 12) + 1 ≤ 16 * d + 13; omega), (by show 8 + (10 + 11) + (400 * d + 246) ≤ 400 * d + 275; omega)⟩ (htx _ kw_6_194) (htx _ kp_M_finish)) ⟨xPre_blind, va_recv hK hP (ci := 5) rfl (q0 := 0) rfl, (fun U hU hW => ⟨rfl, xPre_of hZ hS hFc hP hD hK U hU hW⟩)⟩ rfl rfl hl.1 rfl (xm_room (Nat.le_of_ble_eq_true rfl)) dM_sort0_53 ⟨hm16.1, hm16.2⟩) hS (fun q _ h => hFc q h) hFc (fun u9 t H1 locs ht hvm hr9 hB hz1 hk1 hS => ?_)
            obtain ⟨hP1, hK1, hD1⟩ := hB
            rw [ht] at hP1
            obtain ⟨ad18, gd19, vad20⟩ := u9
            obtain ⟨hv21, hn22⟩ := hr9
            have hP : va_P D xcl (xMw cT aM ad18 rd gd19 vad20 o14.2.2 []) H1 := hP1
            have hD : va_D A (xMw cT aM ad18 rd gd19 vad20 o14.2.2 []) := hD1.weaken (fun k q _ h => hFc q.1 h)
            generalize H1 = H at hP hS ⊢
            have hE9 : ∀ p, p < xct st → vad20 p = vad p := fun p h => (hv21 p (Nat.lt_of_lt_of_le h hN)).trans (hE p h)
            have hE := hE9
            have hN : xct st ≤ xct o14.2.2 := Nat.le_trans hN hn22
            refine W.eq (g2 := F0 m 56 ls []) (by first | rfl | (skip; rfl)) ?_
            obtain rfl := Option.some.inj hf
            exact W.vret hx hb hr (fun t ht hW => ⟨⟨(ad18, gd19, vad20), rfl, ⟨hE, hN⟩, by rw [ht]; exact hP, va_K.moved hW.alike hK, hD⟩, hS.F ht⟩) hS.2.2 dM_sort0_56
          · rw [if_neg hc] at hf
            refine lv_aload_n hx hb dM_sort0_38 rfl (lv_at hl 0 rfl) ?_
            refine lv_iconst (v := 1) hx hb dM_sort0_39 (by decide) ?_
            refine xm_put (v := .int 1) (W' := (xMw cT aM ad rd gd vad (xsI o1 0 1) [])) (ty := .int) hx hb htx hown hK hP hD hS 0 (by decide) rfl (htx _ kw_5_87) rfl rfl (by decide +kernel) rfl rfl dM_sort0_40 (fun H locs hP hD hS => ?_)
            refine lv_goto (tgt := 56) hx hb dM_sort0_43 (by decide) ?_
            obtain rfl := Option.some.inj hf
            exact W.vret hx hb hr (fun t ht hW => ⟨⟨(ad, gd, vad), rfl, ⟨hE, hN⟩, by rw [ht]; exact hP, va_K.moved hW.alike hK, hD⟩, hS.F ht⟩) hS.2.2 dM_sort0_56
set_option maxHeartbeats 400000000 in
set_option maxRecDepth 100000 in
theorem gM_thrown (l : Launch) (hl9 : l.stackTraces = false) (D : va_G) (cT : Nat → ClassId) (aK aV : Nat → Nat) (sz n : Nat) (aM : Nat) (ad rd gd vad : Nat → Nat) (st : xS) (out : Int32) (hf : fM_thrown n st = some out) : xMet l yM_thrown wyM_thrown 0 0 0 0 D cT aK aV sz [.ref aM] (xMw cT aM ad rd gd vad st []) (fun A => va_Qi (fun (r : Int32) (_ : Unit) => r = out) (fun _ t => xB D xcl cT A (xMw cT aM ad rd gd vad st []) t) A) := by
  refine Met.ofW (cc := prog_13_method_2_code) (maxL := 1) (ret := (some .int)) (by decide) rfl ?_
  intro p e s m args below meth c s₁ B hml hv
  obtain ⟨rfl, hsz, hZ, hP, hK, hD0⟩ := hv
  have hx := B.exec
  have hb := B.bytes
  have hr := B.returns
  have hts := atoms_spec (ws := wyM_thrown) B.pre
  have htx := fun w h => hts w (List.mem_cons_of_mem _ h)
  have hown : s.vm.findClass "ValueBenchModel" = some m.cls := findClass_of_methodNamed B.named
  have hlocks := B.notSynchronized
  subst hsz
  have hD := hD0.self (sz := s.heap.size)
  generalize hAe : va_A (xMw cT aM ad rd gd vad st []) s.heap.size = A at hD hZ ⊢
  have hA : ∀ q : Nat, s.heap.size ≤ q → A q := fun q h => by rw [← hAe]; exact Or.inr h
  have hS : va_S A s.heap s.heap [] := va_S.rf
  have hl := lv_entry ([.ref aM]) (n := 1) (by simp [lg_sl, xvcat, xrscat, xcI, xcL, xcR, xcN])
  rw [show lv_args 0 [.ref aM] = [(0, .ref aM)] from by simp [lv_args, xvcat, xrscat, xcI, xcL, xcR, xcN]] at hl
  rw [lg_entry_eq]
  generalize (lg_sl ([.ref aM]) ++ List.replicate (1 - (lg_sl ([.ref aM])).length) Slot.unset).toArray = ls at hl ⊢
  have hl : lv_has ls 1 [(0, .ref aM)] := hl
  unfold fM_thrown at hf
  refine lv_aload_n hx hb dM_thrown_0 rfl (lv_at hl 0 rfl) ?_
  refine xm_get (v := .int (xsi st 0)) hx hb htx hown hK hP 0 (by decide) rfl (htx _ kw_5_87) rfl dM_thrown_1 ?_
  obtain rfl := Option.some.inj hf
  exact W.iret (v := (xsi st 0)) hx hb hr (fun t ht hW => ⟨⟨(xsi st 0), (), rfl, rfl, by rw [ht]; exact hP, va_K.moved hW.alike hK, hD⟩, hS.F ht⟩) hS.2.2 dM_thrown_4
set_option maxHeartbeats 400000000 in
set_option maxRecDepth 100000 in
theorem gM_two0 (l : Launch) (hl9 : l.stackTraces = false) (D : va_G) (cT : Nat → ClassId) (aK aV : Nat → Nat) (sz d n : Nat) (aM : Nat) (ad rd gd vad : Nat → Nat) (st : xS) (x0 : Int32) (x1 : Int32) (x2 : Int32) (x3 : Int32) (out : Nat × Nat × xS) (hf : fM_two0 d n st x0 x1 x2 x3 = some out) : xMet l yM_two0 wyM_two0 (16 * d + 13) out.1 out.2.1 (400 * d + 275) D cT aK aV sz [.ref aM, .int x0, .int x1, .int x2, .int x3] (xMw cT aM ad rd gd vad st []) (fun A => va_Qv (fun u : xU => xE vad st out.2.2 u) (fun u t => xB D xcl cT A (xMw cT aM u.1 rd u.2.1 u.2.2 out.2.2 []) t) A) := by
  refine Met.ofW (cc := prog_13_method_93_code) (maxL := 5) (ret := none) (by decide) rfl ?_
  intro p e s m args below meth c s₁ B hml hv
  obtain ⟨rfl, hsz, hZ, hP, hK, hD0⟩ := hv
  have hx := B.exec
  have hb := B.bytes
  have hr := B.returns
  have hts := atoms_spec (ws := wyM_two0) B.pre
  have htx := fun w h => hts w (List.mem_cons_of_mem _ h)
  have hown : s.vm.findClass "ValueBenchModel" = some m.cls := findClass_of_methodNamed B.named
  have hlocks := B.notSynchronized
  subst hsz
  have hD := hD0.self (sz := s.heap.size)
  generalize hAe : va_A (xMw cT aM ad rd gd vad st []) s.heap.size = A at hD hZ ⊢
  have hA : ∀ q : Nat, s.heap.size ≤ q → A q := fun q h => by rw [← hAe]; exact Or.inr h
  have hS : va_S A s.heap s.heap [] := va_S.rf
  have hl := lv_entry ([.ref aM, .int x0, .int x1, .int x2, .int x3]) (n := 5) (by simp [lg_sl, xvcat, xrscat, xcI, xcL, xcR, xcN])
  rw [show lv_args 0 [.ref aM, .int x0, .int x1, .int x2, .int x3] = [(0, .ref aM), (1, .int x0), (2, .int x1), (3, .int x2), (4, .int x3)] from by simp [lv_args, xvcat, xrscat, xcI, xcL, xcR, xcN]] at hl
  rw [lg_entry_eq]
  generalize (lg_sl ([.ref aM, .int x0, .int x1, .int x2, .int x3]) ++ List.replicate (5 - (lg_sl ([.ref aM, .int x0, .int x1, .int x2, .int x3])).length) Slot.unset).toArray = ls at hl ⊢
  have hl : lv_has ls 5 [(0, .ref aM), (1, .int x0), (2, .int x1), (3, .int x2), (4, .int x3)] := hl
  have hE : ∀ p, p < xct st → vad p = vad p := fun _ _ => rfl
  have hN : xct st ≤ xct st := Nat.le_refl _
  unfold fM_two0 at hf
  refine lv_aload_n hx hb dM_two0_0 rfl (lv_at hl 0 rfl) ?_
  obtain ⟨o1, hq2, hf⟩ := xbind hf
  have hFc := xm_free hD hS hA
  refine va_callv (va_runV (C := "ValueBenchModel") (As := []) (rest := []) ⟨hx, hb, hml, hown, htx⟩ (gM_begin l hl9 D cT aK aV s.heap.size n aM ad rd gd vad st o1 hq2) ⟨callB_of 0 htx (xw_goodC kw_5_209) rfl rfl rfl (htx _ kw_1_5) (htx _ kw_5_206) ⟨by decide, by decide, by decide +kernel⟩ ⟨Nat.le_of_ble_eq_true rfl, Nat.le_of_ble_eq_true rfl⟩, (htx _ kw_5_208), (htx _ kp_M_begin)⟩ ⟨xPre_blind, va_recv hK hP (ci := 5) rfl (q0 := 0) rfl, (fun U hU hW => ⟨rfl, xPre_of hZ hS hFc hP hD hK U hU hW⟩)⟩ rfl rfl hl.1 rfl (xm_room (Nat.le_of_ble_eq_true rfl)) dM_two0_1 ⟨Nat.zero_le _, Nat.zero_le _⟩) hS (fun q _ h => hFc q h) hFc (fun u9 t H1 locs ht hvm hr9 hB hz1 hk1 hS => ?_)
  obtain ⟨hP1, hK1, hD1⟩ := hB
  rw [ht] at hP1
  have hn4 := hr9
  have hN : xct st ≤ xct o1 := Nat.le_trans hN hn4
  have hP : va_P D xcl (xMw cT aM ad rd gd vad o1 []) H1 := hP1
  have hD : va_D A (xMw cT aM ad rd gd vad o1 []) := hD1.weaken (fun k q _ h => hFc q.1 h)
  generalize H1 = H at hP hS ⊢
  refine W.eq (g2 := F0 m 4 ls []) (by first | rfl | (skip; rfl)) ?_
  refine lv_aload_n hx hb dM_two0_4 rfl (lv_at hl 0 rfl) ?_
  refine lv_iload_n hx hb dM_two0_5 rfl (lv_at hl 1 rfl) ?_
  obtain ⟨o5, hq6, hf⟩ := xbind hf
  have hFc := xm_free hD hS hA
  refine va_calli (va_runV (C := "ValueBenchModel") (As := [.int x0]) (rest := []) ⟨hx, hb, hml, hown, htx⟩ (gM_out l hl9 D cT aK aV H.size n aM ad rd gd vad o1 x0 o5 hq6) ⟨callB_of 1 htx (xw_goodC kw_5_217) rfl rfl rfl (htx _ kw_1_5) (htx _ kw_5_214) ⟨by decide, by decide, by decide +kernel⟩ ⟨Nat.le_of_ble_eq_true rfl, Nat.le_of_ble_eq_true rfl⟩, (htx _ kw_5_216), (htx _ kp_M_out)⟩ ⟨xPre_blind, va_recv hK hP (ci := 5) rfl (q0 := 0) rfl, (fun U hU hW => ⟨rfl, xPre_of hZ hS hFc hP hD hK U hU hW⟩)⟩ rfl rfl hl.1 rfl (xm_room (Nat.le_of_ble_eq_true rfl)) dM_two0_6 ⟨Nat.zero_le _, Nat.zero_le _⟩) hS (fun q _ h => hFc q h) hFc (fun r7 u9 t H1 locs ht hvm hr9 hB hz1 hk1 hS => ?_)
  obtain ⟨hP1, hK1, hD1⟩ := hB
  rw [ht] at hP1
  have hP : va_P D xcl (xMw cT aM ad rd gd vad o1 []) H1 := hP1
  have hD : va_D A (xMw cT aM ad rd gd vad o1 []) := hD1.weaken (fun k q _ h => hFc q.1 h)
  generalize H1 = H at hP hS ⊢
  rw [hr9]
  refine W.eq (g2 := F0 m 9 ls [.int o5]) (by first | rfl | (skip; rfl)) ?_
  refine lv_if_ne (tgt := 39) hx hb dM_two0_9 (by decide) (fun hc => ?_) (fun hc => ?_)
  · rw [if_neg hc] at hf
    refine lv_aload_n hx hb dM_two0_39 rfl (lv_at hl 0 rfl) ?_
    refine lv_iconst (v := 1) hx hb dM_two0_40 (by decide) ?_
    refine xm_put (v := .int 1) (W' := (xMw cT aM ad rd gd vad (xsI o1 0 1) [])) (ty := .int) hx hb htx hown hK hP hD hS 0 (by decide) rfl (htx _ kw_5_87) rfl rfl (by decide +kernel) rfl rfl dM_two0_41 (fun H locs hP hD hS => ?_)
    refine lv_goto (tgt := 57) hx hb dM_two0_44 (by decide) ?_
    obtain rfl := Option.some.inj hf
    exact W.vret hx hb hr (fun t ht hW => ⟨⟨(ad, gd, vad), rfl, ⟨hE, hN⟩, by rw [ht]; exact hP, va_K.moved hW.alike hK, hD⟩, hS.F ht⟩) hS.2.2 dM_two0_57
  · rw [if_pos hc] at hf
    refine lv_iload_n hx hb dM_two0_12 rfl (lv_at hl 2 rfl) ?_
    refine lv_if_lt (tgt := 39) hx hb dM_two0_13 (by decide) (fun hc => ?_) (fun hc => ?_)
    · rw [if_pos hc] at hf
      refine lv_aload_n hx hb dM_two0_39 rfl (lv_at hl 0 rfl) ?_
      refine lv_iconst (v := 1) hx hb dM_two0_40 (by decide) ?_
      refine xm_put (v := .int 1) (W' := (xMw cT aM ad rd gd vad (xsI o1 0 1) [])) (ty := .int) hx hb htx hown hK hP hD hS 0 (by decide) rfl (htx _ kw_5_87) rfl rfl (by decide +kernel) rfl rfl dM_two0_41 (fun H locs hP hD hS => ?_)
      refine lv_goto (tgt := 57) hx hb dM_two0_44 (by decide) ?_
      obtain rfl := Option.some.inj hf
      exact W.vret hx hb hr (fun t ht hW => ⟨⟨(ad, gd, vad), rfl, ⟨hE, hN⟩, by rw [ht]; exact hP, va_K.moved hW.alike hK, hD⟩, hS.F ht⟩) hS.2.2 dM_two0_57
    · rw [if_neg hc] at hf
      refine lv_iload_n hx hb dM_two0_16 rfl (lv_at hl 2 rfl) ?_
      refine lv_bipush (v := 9) hx hb dM_two0_17 (by decide) ?_
      refine lv_icmp_gt (tgt := 39) hx hb dM_two0_19 (by decide) (fun hc => ?_) (fun hc => ?_)
      · rw [if_pos hc] at hf
        refine lv_aload_n hx hb dM_two0_39 rfl (lv_at hl 0 rfl) ?_
        refine lv_iconst (v := 1) hx hb dM_two0_40 (by decide) ?_
        refine xm_put (v := .int 1) (W' := (xMw cT aM ad rd gd vad (xsI o1 0 1) [])) (ty := .int) hx hb htx hown hK hP hD hS 0 (by decide) rfl (htx _ kw_5_87) rfl rfl (by decide +kernel) rfl rfl dM_two0_41 (fun H locs hP hD hS => ?_)
        refine lv_goto (tgt := 57) hx hb dM_two0_44 (by decide) ?_
        obtain rfl := Option.some.inj hf
        exact W.vret hx hb hr (fun t ht hW => ⟨⟨(ad, gd, vad), rfl, ⟨hE, hN⟩, by rw [ht]; exact hP, va_K.moved hW.alike hK, hD⟩, hS.F ht⟩) hS.2.2 dM_two0_57
      · rw [if_neg hc] at hf
        refine lv_aload_n hx hb dM_two0_22 rfl (lv_at hl 0 rfl) ?_
        refine lv_iload_n hx hb dM_two0_23 rfl (lv_at hl 3 rfl) ?_
        obtain ⟨o8, hq9, hf⟩ := xbind hf
        have hFc := xm_free hD hS hA
        refine va_calli (va_runV (C := "ValueBenchModel") (As := [.int x2]) (rest := []) ⟨hx, hb, hml, hown, htx⟩ (gM_out l hl9 D cT aK aV H.size n aM ad rd gd vad o1 x2 o8 hq9) ⟨callB_of 1 htx (xw_goodC kw_5_217) rfl rfl rfl (htx _ kw_1_5) (htx _ kw_5_214) ⟨by decide, by decide, by decide +kernel⟩ ⟨Nat.le_of_ble_eq_true rfl, Nat.le_of_ble_eq_true rfl⟩, (htx _ kw_5_216), (htx _ kp_M_out)⟩ ⟨xPre_blind, va_recv hK hP (ci := 5) rfl (q0 := 0) rfl, (fun U hU hW => ⟨rfl, xPre_of hZ hS hFc hP hD hK U hU hW⟩)⟩ rfl rfl hl.1 rfl (xm_room (Nat.le_of_ble_eq_true rfl)) dM_two0_24 ⟨Nat.zero_le _, Nat.zero_le _⟩) hS (fun q _ h => hFc q h) hFc (fun r10 u9 t H1 locs ht hvm hr9 hB hz1 hk1 hS => ?_)
        obtain ⟨hP1, hK1, hD1⟩ := hB
        rw [ht] at hP1
        have hP : va_P D xcl (xMw cT aM ad rd gd vad o1 []) H1 := hP1
        have hD : va_D A (xMw cT aM ad rd gd vad o1 []) := hD1.weaken (fun k q _ h => hFc q.1 h)
        generalize H1 = H at hP hS ⊢
        rw [hr9]
        refine W.eq (g2 := F0 m 27 ls [.int o8]) (by first | rfl | (skip; rfl)) ?_
        refine lv_if_ne (tgt := 39) hx hb dM_two0_27 (by decide) (fun hc => ?_) (fun hc => ?_)
        · rw [if_neg hc] at hf
          refine lv_aload_n hx hb dM_two0_39 rfl (lv_at hl 0 rfl) ?_
          refine lv_iconst (v := 1) hx hb dM_two0_40 (by decide) ?_
          refine xm_put (v := .int 1) (W' := (xMw cT aM ad rd gd vad (xsI o1 0 1) [])) (ty := .int) hx hb htx hown hK hP hD hS 0 (by decide) rfl (htx _ kw_5_87) rfl rfl (by decide +kernel) rfl rfl dM_two0_41 (fun H locs hP hD hS => ?_)
          refine lv_goto (tgt := 57) hx hb dM_two0_44 (by decide) ?_
          obtain rfl := Option.some.inj hf
          exact W.vret hx hb hr (fun t ht hW => ⟨⟨(ad, gd, vad), rfl, ⟨hE, hN⟩, by rw [ht]; exact hP, va_K.moved hW.alike hK, hD⟩, hS.F ht⟩) hS.2.2 dM_two0_57
        · rw [if_pos hc] at hf
          refine lv_aload_n hx hb dM_two0_30 rfl (lv_at hl 0 rfl) ?_
          refine lv_iload hx hb dM_two0_31 (lv_at hl 4 rfl) ?_
          obtain ⟨o11, hq12, hf⟩ := xbind hf
          have hFc := xm_free hD hS hA
          refine va_calli (va_runV (C := "ValueBenchModel") (As := [.int x3]) (rest := []) ⟨hx, hb, hml, hown, htx⟩ (gM_out l hl9 D cT aK aV H.size n aM ad rd gd vad o1 x3 o11 hq12) ⟨callB_of 1 htx (xw_goodC kw_5_217) rfl rfl rfl (htx _ kw_1_5) (htx _ kw_5_214) ⟨by decide, by decide, by decide +kernel⟩ ⟨Nat.le_of_ble_eq_true rfl, Nat.le_of_ble_eq_true rfl⟩, (htx _ kw_5_216), (htx _ kp_M_out)⟩ ⟨xPre_blind, va_recv hK hP (ci := 5) rfl (q0 := 0) rfl, (fun U hU hW => ⟨rfl, xPre_of hZ hS hFc hP hD hK U hU hW⟩)⟩ rfl rfl hl.1 rfl (xm_room (Nat.le_of_ble_eq_true rfl)) dM_two0_33 ⟨Nat.zero_le _, Nat.zero_le _⟩) hS (fun q _ h => hFc q h) hFc (fun r13 u9 t H1 locs ht hvm hr9 hB hz1 hk1 hS => ?_)
          obtain ⟨hP1, hK1, hD1⟩ := hB
          rw [ht] at hP1
          have hP : va_P D xcl (xMw cT aM ad rd gd vad o1 []) H1 := hP1
          have hD : va_D A (xMw cT aM ad rd gd vad o1 []) := hD1.weaken (fun k q _ h => hFc q.1 h)
          generalize H1 = H at hP hS ⊢
          rw [hr9]
          refine W.eq (g2 := F0 m 36 ls [.int o11]) (by first | rfl | (skip; rfl)) ?_
          refine lv_if_eq (tgt := 47) hx hb dM_two0_36 (by decide) (fun hc => ?_) (fun hc => ?_)
          · rw [if_pos hc] at hf
            refine lv_aload_n hx hb dM_two0_47 rfl (lv_at hl 0 rfl) ?_
            refine lv_iload_n hx hb dM_two0_48 rfl (lv_at hl 1 rfl) ?_
            refine lv_iconst (v := 2) hx hb dM_two0_49 (by decide) ?_
            refine lv_iload_n hx hb dM_two0_50 rfl (lv_at hl 2 rfl) ?_
            refine lv_iload_n hx hb dM_two0_51 rfl (lv_at hl 3 rfl) ?_
            refine lv_iload hx hb dM_two0_52 (lv_at hl 4 rfl) ?_
            obtain ⟨o14, hq15, hf⟩ := xbind hf
            obtain ⟨hm16, hf⟩ := xmoE hf
            have hFc := xm_free hD hS hA
            refine va_callv (vx_runVW (C := "ValueBenchModel") (As := [.int x0, .int 2, .int x1, .int x2, .int x3]) (rest := []) ⟨hx, hb, hml, hown, htx⟩ (gM_finish l hl9 D cT aK aV H.size d n aM ad rd gd vad o1 x0 (2 : Int32) x1 x2 x3 o14 hq15) (xcVW 5 htx (xw_goodC kw_6_195) rfl rfl rfl (htx _ kw_1_5) (htx _ kw_6_192) ⟨by decide, by decide, by decide +kernel⟩ ⟨(by show (16 * d + 12) + 1 ≤ 16 * d + 13; omega), (by show 8 + (10 + 11) + (400 * d + 246) ≤ 400 * d + 275; omega)⟩ (htx _ kw_6_194) (htx _ kp_M_finish)) ⟨xPre_blind, va_recv hK hP (ci := 5) rfl (q0 := 0) rfl, (fun U hU hW => ⟨rfl, xPre_of hZ hS hFc hP hD hK U hU hW⟩)⟩ rfl rfl hl.1 rfl (xm_room (Nat.le_of_ble_eq_true rfl)) dM_two0_54 ⟨hm16.1, hm16.2⟩) hS (fun q _ h => hFc q h) hFc (fun u9 t H1 locs ht hvm hr9 hB hz1 hk1 hS => ?_)
            obtain ⟨hP1, hK1, hD1⟩ := hB
            rw [ht] at hP1
            obtain ⟨ad18, gd19, vad20⟩ := u9
            obtain ⟨hv21, hn22⟩ := hr9
            have hP : va_P D xcl (xMw cT aM ad18 rd gd19 vad20 o14.2.2 []) H1 := hP1
            have hD : va_D A (xMw cT aM ad18 rd gd19 vad20 o14.2.2 []) := hD1.weaken (fun k q _ h => hFc q.1 h)
            generalize H1 = H at hP hS ⊢
            have hE9 : ∀ p, p < xct st → vad20 p = vad p := fun p h => (hv21 p (Nat.lt_of_lt_of_le h hN)).trans (hE p h)
            have hE := hE9
            have hN : xct st ≤ xct o14.2.2 := Nat.le_trans hN hn22
            refine W.eq (g2 := F0 m 57 ls []) (by first | rfl | (skip; rfl)) ?_
            obtain rfl := Option.some.inj hf
            exact W.vret hx hb hr (fun t ht hW => ⟨⟨(ad18, gd19, vad20), rfl, ⟨hE, hN⟩, by rw [ht]; exact hP, va_K.moved hW.alike hK, hD⟩, hS.F ht⟩) hS.2.2 dM_two0_57
          · rw [if_neg hc] at hf
            refine lv_aload_n hx hb dM_two0_39 rfl (lv_at hl 0 rfl) ?_
            refine lv_iconst (v := 1) hx hb dM_two0_40 (by decide) ?_
            refine xm_put (v := .int 1) (W' := (xMw cT aM ad rd gd vad (xsI o1 0 1) [])) (ty := .int) hx hb htx hown hK hP hD hS 0 (by decide) rfl (htx _ kw_5_87) rfl rfl (by decide +kernel) rfl rfl dM_two0_41 (fun H locs hP hD hS => ?_)
            refine lv_goto (tgt := 57) hx hb dM_two0_44 (by decide) ?_
            obtain rfl := Option.some.inj hf
            exact W.vret hx hb hr (fun t ht hW => ⟨⟨(ad, gd, vad), rfl, ⟨hE, hN⟩, by rw [ht]; exact hP, va_K.moved hW.alike hK, hD⟩, hS.F ht⟩) hS.2.2 dM_two0_57
set_option maxHeartbeats 400000000 in
set_option maxRecDepth 100000 in
theorem gM_word (l : Launch) (hl9 : l.stackTraces = false) (D : va_G) (cT : Nat → ClassId) (aK aV : Nat → Nat) (sz n : Nat) (aM : Nat) (ad rd gd vad : Nat → Nat) (st : xS) (x0 : Int32) (out : Int64 × xS) (hf : fM_word n st x0 = some out) : xMet l yM_word wyM_word 1 0 0 21 D cT aK aV sz [.ref aM, .int x0] (xMw cT aM ad rd gd vad st []) (fun A => va_Ql (fun (r : Int64) (_ : Unit) => r = out.1 ∧ xct st ≤ xct out.2) (fun _ t => xB D xcl cT A (xMw cT aM ad rd gd vad out.2 []) t) A) := by
  refine Met.ofW (cc := prog_13_method_87_code) (maxL := 5) (ret := (some .long)) (by decide) rfl ?_
  intro p e s m args below meth c s₁ B hml hv
  obtain ⟨rfl, hsz, hZ, hP, hK, hD0⟩ := hv
  have hx := B.exec
  have hb := B.bytes
  have hr := B.returns
  have hts := atoms_spec (ws := wyM_word) B.pre
  have htx := fun w h => hts w (List.mem_cons_of_mem _ h)
  have hown : s.vm.findClass "ValueBenchModel" = some m.cls := findClass_of_methodNamed B.named
  have hlocks := B.notSynchronized
  subst hsz
  have hD := hD0.self (sz := s.heap.size)
  generalize hAe : va_A (xMw cT aM ad rd gd vad st []) s.heap.size = A at hD hZ ⊢
  have hA : ∀ q : Nat, s.heap.size ≤ q → A q := fun q h => by rw [← hAe]; exact Or.inr h
  have hS : va_S A s.heap s.heap [] := va_S.rf
  have hl := lv_entry ([.ref aM, .int x0]) (n := 5) (by simp [lg_sl, xvcat, xrscat, xcI, xcL, xcR, xcN])
  rw [show lv_args 0 [.ref aM, .int x0] = [(0, .ref aM), (1, .int x0)] from by simp [lv_args, xvcat, xrscat, xcI, xcL, xcR, xcN]] at hl
  rw [lg_entry_eq]
  generalize (lg_sl ([.ref aM, .int x0]) ++ List.replicate (5 - (lg_sl ([.ref aM, .int x0])).length) Slot.unset).toArray = ls at hl ⊢
  have hl : lv_has ls 5 [(0, .ref aM), (1, .int x0)] := hl
  have hN : xct st ≤ xct st := Nat.le_refl _
  unfold fM_word at hf
  refine xloopM (σ := Nat × Int32 × Int64 × Int32 × xS) (fun n x H locs ls => (x.1 = 1 ∧ fM_word_b n x.1 x.2.1 x.2.2.1 x.2.2.2.1 x.2.2.2.2 = some out ∧ va_P D xcl (xMw cT aM ad rd gd vad x.2.2.2.2 []) H ∧ va_D A (xMw cT aM ad rd gd vad x.2.2.2.2 []) ∧ va_S A s.heap H locs ∧ lv_has ls 5 [(4, .int x.2.1), (2, .long x.2.2.1), (0, .ref aM), (1, .int x.2.2.2.1)] ∧ xct st ≤ xct x.2.2.2.2)) (fun x => 29) (fun x => 0) (fun x => 0) (fun x H locs ls h => by (exact absurd h.2.1 (by rw [fM_word_b]; exact fun h => nomatch h))) (fun n ih x H locs ls hv => ?_) (fun key => ?_)
  · obtain ⟨lb, y4, y2, y1, ws9⟩ := x
    rcases hv with ⟨hj, hf, hP, hD, hS, hl, hN⟩
    subst hj
    have hf : fM_word_b (n + 1) 1 y4 y2 y1 ws9 = some out := hf
    rw [fM_word_b] at hf
    obtain ⟨hP, hD⟩ : xPD D xcl A (xMw cT aM ad rd gd vad ws9 []) H := ⟨hP, hD⟩
    have hl : lv_has ls 5 [(4, .int y4), (2, .long y2), (0, .ref aM), (1, .int y1)] := hl
    refine W.eq (g2 := F0 m 29 ls []) rfl ?_
    refine lv_iload hx hb dM_word_29 (lv_at hl 0 rfl) ?_
    refine lv_iload_n hx hb dM_word_31 rfl (lv_at hl 3 rfl) ?_
    refine lv_bipush (v := 8) hx hb dM_word_32 (by decide) ?_
    refine lv_iadd hx hb dM_word_34 ?_
    refine lv_icmp_ge (tgt := 76) hx hb dM_word_35 (by decide) (fun hc => ?_) (fun hc => ?_)
    · rw [if_pos hc] at hf
      refine lv_lload_n hx hb dM_word_76 rfl (lv_at hl 1 rfl) ?_
      obtain rfl := Option.some.inj hf
      exact W.lret (v := y2) hx hb hr (fun t ht hW => ⟨⟨y2, (), rfl, ⟨rfl, hN⟩, by rw [ht]; exact hP, va_K.moved hW.alike hK, hD⟩, hS.F ht⟩) hS.2.2 dM_word_77
    · rw [if_neg hc] at hf
      refine lv_lload_n hx hb dM_word_38 rfl (lv_at hl 1 rfl) ?_
      refine lv_ldc2 hx hb hown (htx _ kw_6_183) dM_word_39 ?_
      refine lv_lmul hx hb dM_word_42 ?_
      refine lv_iload hx hb dM_word_43 (lv_at hl 0 rfl) ?_
      refine lv_aload_n hx hb dM_word_45 rfl (lv_at hl 2 rfl) ?_
      refine xm_get (v := .int (xsi ws9 29)) hx hb htx hown hK hP 29 (by decide) rfl (htx _ kw_5_116) rfl dM_word_46 ?_
      refine lv_icmp_ge (tgt := 66) hx hb dM_word_49 (by decide) (fun hc => ?_) (fun hc => ?_)
      · rw [if_pos hc] at hf
        refine lv_iconst (v := 0) hx hb dM_word_66 (by decide) ?_
        refine lv_i2l hx hb dM_word_67 rfl ?_
        refine W.eq (g2 := F0 m 68 ls [.long 0, .long (y2 * (256 : Int64))]) rfl ?_
        refine lv_ladd hx hb dM_word_68 ?_
        refine lv_lstore_n (lv' := [(2, .long ((y2 * (256 : Int64)) + (0 : Int64))), (4, .int y4), (0, .ref aM), (1, .int y1)]) hx hb dM_word_69 rfl hl (by decide) rfl (fun ls hl => ?_)
        refine lv_iinc (v := (y4 + 1)) (lv' := [(4, .int (y4 + 1)), (2, .long ((y2 * (256 : Int64)) + (0 : Int64))), (0, .ref aM), (1, .int y1)]) hx hb dM_word_70 hl (k := 1) rfl rfl (by decide) rfl (fun ls hl => ?_)
        refine lv_goto (tgt := 29) hx hb dM_word_73 (by decide) ?_
        exact ih (1, (y4 + 1), ((y2 * (256 : Int64)) + (0 : Int64)), y1, ws9) _ _ ls (⟨rfl, hf, hP, hD, hS, lv_sub hl [0, 1, 2, 3] rfl, hN⟩)
      · rw [if_neg hc] at hf
        refine lv_aload_n hx hb dM_word_52 rfl (lv_at hl 2 rfl) ?_
        refine xm_get (v := .ref (ad 28)) hx hb htx hown hK hP 28 (by decide) rfl (htx _ kw_5_115) rfl dM_word_53 ?_
        refine lv_iload hx hb dM_word_56 (lv_at hl 0 rfl) ?_
        obtain ⟨hg1, hf⟩ := xifn hf
        refine va_bald hx hb hK hP 12 0 rfl rfl hg1 dM_word_58 ?_
        refine W.eq (g2 := F0 m 59 ls [.int ((xba ws9 28) y4.toNatClampNeg), .long (y2 * (256 : Int64))]) rfl ?_
        refine lv_sipush (v := 255) hx hb dM_word_59 (by decide) ?_
        refine lv_iand hx hb dM_word_62 ?_
        refine lv_goto (tgt := 67) hx hb dM_word_63 (by decide) ?_
        refine lv_i2l hx hb dM_word_67 rfl ?_
        refine lv_ladd hx hb dM_word_68 ?_
        refine lv_lstore_n (lv' := [(2, .long ((y2 * (256 : Int64)) + (((xba ws9 28) y4.toNatClampNeg) &&& (255 : Int32)).toInt64)), (4, .int y4), (0, .ref aM), (1, .int y1)]) hx hb dM_word_69 rfl hl (by decide) rfl (fun ls hl => ?_)
        refine lv_iinc (v := (y4 + 1)) (lv' := [(4, .int (y4 + 1)), (2, .long ((y2 * (256 : Int64)) + (((xba ws9 28) y4.toNatClampNeg) &&& (255 : Int32)).toInt64)), (0, .ref aM), (1, .int y1)]) hx hb dM_word_70 hl (k := 1) rfl rfl (by decide) rfl (fun ls hl => ?_)
        refine lv_goto (tgt := 29) hx hb dM_word_73 (by decide) ?_
        exact ih (1, (y4 + 1), ((y2 * (256 : Int64)) + (((xba ws9 28) y4.toNatClampNeg) &&& (255 : Int32)).toInt64), y1, ws9) _ _ ls (⟨rfl, hf, hP, hD, hS, lv_sub hl [0, 1, 2, 3] rfl, hN⟩)
  refine lv_aload_n hx hb dM_word_0 rfl (lv_at hl 0 rfl) ?_
  refine lv_iconst (v := 0) hx hb dM_word_1 (by decide) ?_
  refine xm_put (v := .int 0) (W' := (xMw cT aM ad rd gd vad (xsI st 0 0) [])) (ty := .int) hx hb htx hown hK hP hD hS 0 (by decide) rfl (htx _ kw_5_87) rfl rfl (by decide +kernel) rfl rfl dM_word_2 (fun H locs hP hD hS => ?_)
  refine lv_iload_n hx hb dM_word_5 rfl (lv_at hl 1 rfl) ?_
  refine lv_if_lt (tgt := 17) hx hb dM_word_6 (by decide) (fun hc => ?_) (fun hc => ?_)
  · rw [if_pos hc] at hf
    refine lv_aload_n hx hb dM_word_17 rfl (lv_at hl 0 rfl) ?_
    refine lv_iconst (v := 1) hx hb dM_word_18 (by decide) ?_
    obtain ⟨o1, hq2, hf⟩ := xbind hf
    have hFc := xm_free hD hS hA
    refine va_calli (va_runV (C := "ValueBenchModel") (As := [.int 1]) (rest := []) ⟨hx, hb, hml, hown, htx⟩ (gM_fail l hl9 D cT aK aV H.size n aM ad rd gd vad (xsI st 0 0) (1 : Int32) o1 hq2) ⟨callB_of 1 htx (xw_goodC kw_5_195) rfl rfl rfl (htx _ kw_1_5) (htx _ kw_5_192) ⟨by decide, by decide, by decide +kernel⟩ ⟨Nat.le_of_ble_eq_true rfl, Nat.le_of_ble_eq_true rfl⟩, (htx _ kw_5_194), (htx _ kp_M_fail)⟩ ⟨xPre_blind, va_recv hK hP (ci := 5) rfl (q0 := 0) rfl, (fun U hU hW => ⟨rfl, xPre_of hZ hS hFc hP hD hK U hU hW⟩)⟩ rfl rfl hl.1 rfl (xm_room (Nat.le_of_ble_eq_true rfl)) dM_word_19 ⟨Nat.le_of_ble_eq_true rfl, Nat.le_of_ble_eq_true rfl⟩) hS (fun q _ h => hFc q h) hFc (fun r3 u9 t H1 locs ht hvm hr9 hB hz1 hk1 hS => ?_)
    obtain ⟨hP1, hK1, hD1⟩ := hB
    rw [ht] at hP1
    obtain ⟨hr9, hn4⟩ := hr9
    have hN : xct st ≤ xct o1.2 := Nat.le_trans hN hn4
    have hP : va_P D xcl (xMw cT aM ad rd gd vad o1.2 []) H1 := hP1
    have hD : va_D A (xMw cT aM ad rd gd vad o1.2 []) := hD1.weaken (fun k q _ h => hFc q.1 h)
    generalize H1 = H at hP hS ⊢
    rw [hr9]
    refine W.eq (g2 := F0 m 22 ls [.int o1.1]) (by first | rfl | (skip; rfl)) ?_
    refine lv_i2l hx hb dM_word_22 rfl ?_
    obtain rfl := Option.some.inj hf
    exact W.lret (v := o1.1.toInt64) hx hb hr (fun t ht hW => ⟨⟨o1.1.toInt64, (), rfl, ⟨rfl, hN⟩, by rw [ht]; exact hP, va_K.moved hW.alike hK, hD⟩, hS.F ht⟩) hS.2.2 dM_word_23
  · rw [if_neg hc] at hf
    refine lv_iload_n hx hb dM_word_9 rfl (lv_at hl 1 rfl) ?_
    refine lv_aload_n hx hb dM_word_10 rfl (lv_at hl 0 rfl) ?_
    refine xm_get (v := .int (xsi st 29)) hx hb htx hown hK hP 29 (by decide) rfl (htx _ kw_5_116) rfl dM_word_11 ?_
    refine lv_icmp_lt (tgt := 24) hx hb dM_word_14 (by decide) (fun hc => ?_) (fun hc => ?_)
    · rw [if_pos hc] at hf
      refine lv_lconst (v := 0) hx hb dM_word_24 (by decide) ?_
      refine lv_lstore_n (lv' := [(2, .long 0), (0, .ref aM), (1, .int x0)]) hx hb dM_word_25 rfl hl (by decide) rfl (fun ls hl => ?_)
      refine lv_iload_n hx hb dM_word_26 rfl (lv_at hl 2 rfl) ?_
      refine lv_istore (lv' := [(4, .int x0), (2, .long 0), (0, .ref aM), (1, .int x0)]) hx hb dM_word_27 hl (by decide) rfl (fun ls hl => ?_)
      exact key n (1, x0, (0 : Int64), x0, (xsI st 0 0)) _ _ ls (⟨rfl, hf, hP, hD, hS, lv_sub hl [0, 1, 2, 3] rfl, hN⟩)
    · rw [if_neg hc] at hf
      refine lv_aload_n hx hb dM_word_17 rfl (lv_at hl 0 rfl) ?_
      refine lv_iconst (v := 1) hx hb dM_word_18 (by decide) ?_
      obtain ⟨o1, hq2, hf⟩ := xbind hf
      have hFc := xm_free hD hS hA
      refine va_calli (va_runV (C := "ValueBenchModel") (As := [.int 1]) (rest := []) ⟨hx, hb, hml, hown, htx⟩ (gM_fail l hl9 D cT aK aV H.size n aM ad rd gd vad (xsI st 0 0) (1 : Int32) o1 hq2) ⟨callB_of 1 htx (xw_goodC kw_5_195) rfl rfl rfl (htx _ kw_1_5) (htx _ kw_5_192) ⟨by decide, by decide, by decide +kernel⟩ ⟨Nat.le_of_ble_eq_true rfl, Nat.le_of_ble_eq_true rfl⟩, (htx _ kw_5_194), (htx _ kp_M_fail)⟩ ⟨xPre_blind, va_recv hK hP (ci := 5) rfl (q0 := 0) rfl, (fun U hU hW => ⟨rfl, xPre_of hZ hS hFc hP hD hK U hU hW⟩)⟩ rfl rfl hl.1 rfl (xm_room (Nat.le_of_ble_eq_true rfl)) dM_word_19 ⟨Nat.le_of_ble_eq_true rfl, Nat.le_of_ble_eq_true rfl⟩) hS (fun q _ h => hFc q h) hFc (fun r3 u9 t H1 locs ht hvm hr9 hB hz1 hk1 hS => ?_)
      obtain ⟨hP1, hK1, hD1⟩ := hB
      rw [ht] at hP1
      obtain ⟨hr9, hn4⟩ := hr9
      have hN : xct st ≤ xct o1.2 := Nat.le_trans hN hn4
      have hP : va_P D xcl (xMw cT aM ad rd gd vad o1.2 []) H1 := hP1
      have hD : va_D A (xMw cT aM ad rd gd vad o1.2 []) := hD1.weaken (fun k q _ h => hFc q.1 h)
      generalize H1 = H at hP hS ⊢
      rw [hr9]
      refine W.eq (g2 := F0 m 22 ls [.int o1.1]) (by first | rfl | (skip; rfl)) ?_
      refine lv_i2l hx hb dM_word_22 rfl ?_
      obtain rfl := Option.some.inj hf
      exact W.lret (v := o1.1.toInt64) hx hb hr (fun t ht hW => ⟨⟨o1.1.toInt64, (), rfl, ⟨rfl, hN⟩, by rw [ht]; exact hP, va_K.moved hW.alike hK, hD⟩, hS.F ht⟩) hS.2.2 dM_word_23
