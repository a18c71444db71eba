set_option maxHeartbeats 400000000 in
set_option maxRecDepth 100000 in
theorem gM_put0 (l : Launch) (hl9 : l.stackTraces = false) (D : va_G) (cT : Nat → ClassId) (aK aV : Nat → Nat) (sz n : Nat) (aM : Nat) (ad rd gd vad : Nat → Nat) (st : xS) (x0 : Int32) (out : Nat × Nat × Nat × xS) (hf : fM_put0 n st x0 = some out) (hkd : out.1 = 0) : xMet l yM_put0 wyM_put0 6 out.2.1 out.2.2.1 100 D cT aK aV sz [.ref aM, .int x0] (xMw cT aM ad rd gd vad st []) (fun A => va_Qv (fun u : xU => xE vad st out.2.2.2 u) (fun u t => xB D xcl cT A (xMw cT aM u.1 rd u.2.1 u.2.2 out.2.2.2 []) t) A) := by
  refine Met.ofW (cc := prog_13_method_41_code) (maxL := 4) (ret := none) (by decide) rfl ?_
  intro p e s m args below meth c s₁ B hml hv
  obtain ⟨rfl, hsz, hZ, hP, hK, hD0⟩ := hv
  have hx := B.exec
  have hb := B.bytes
  have hr := B.returns
  have hts := atoms_spec (ws := wyM_put0) B.pre
  have htx := fun w h => hts w (List.mem_cons_of_mem _ h)
  have hown : s.vm.findClass "ValueBenchModel" = some m.cls := findClass_of_methodNamed B.named
  have hlocks := B.notSynchronized
  subst hsz
  have hD := hD0.self (sz := s.heap.size)
  generalize hAe : va_A (xMw cT aM ad rd gd vad st []) s.heap.size = A at hD hZ ⊢
  have hA : ∀ q : Nat, s.heap.size ≤ q → A q := fun q h => by rw [← hAe]; exact Or.inr h
  have hS : va_S A s.heap s.heap [] := va_S.rf
  have hl := lv_entry ([.ref aM, .int x0]) (n := 4) (by simp [lg_sl, xvcat, xrscat, xcI, xcL, xcR, xcN])
  rw [show lv_args 0 [.ref aM, .int x0] = [(0, .ref aM), (1, .int x0)] from by simp [lv_args, xvcat, xrscat, xcI, xcL, xcR, xcN]] at hl
  rw [lg_entry_eq]
  generalize (lg_sl ([.ref aM, .int x0]) ++ List.replicate (4 - (lg_sl ([.ref aM, .int x0])).length) Slot.unset).toArray = ls at hl ⊢
  have hl : lv_has ls 4 [(0, .ref aM), (1, .int x0)] := hl
  have hE : ∀ p, p < xct st → vad p = vad p := fun _ _ => rfl
  have hN : xct st ≤ xct st := Nat.le_refl _
  unfold fM_put0 at hf
  refine xloopM (σ := Nat × Int32 × Int32 × Nat × (Nat → Int32) × xS × Nat × Nat) (fun n x H locs ls => (∃ (adL gdL vadL : Nat → Nat) (tq0 : Nat), x.1 = 1 ∧ fM_put0_b n x.1 x.2.1 x.2.2.1 x.2.2.2.1 x.2.2.2.2.1 x.2.2.2.2.2.1 x.2.2.2.2.2.2.1 x.2.2.2.2.2.2.2 = some out ∧ va_P D xcl (xMw cT aM adL rd gdL vadL x.2.2.2.2.2.1 [(tq0, .inl (cT 0, x.2.2.2.1, .inl x.2.2.2.2.1))]) H ∧ va_D A (xMw cT aM adL rd gdL vadL x.2.2.2.2.2.1 [(tq0, .inl (cT 0, x.2.2.2.1, .inl x.2.2.2.2.1))]) ∧ va_S A s.heap H locs ∧ lv_has ls 4 [(3, .int x.2.1), (2, .ref tq0), (0, .ref aM), (1, .int x.2.2.1)] ∧ (∀ p, p < xct st → vadL p = vad p) ∧ xct st ≤ xct x.2.2.2.2.2.1)) (fun x => 42) (fun x => x.2.2.2.2.2.2.1) (fun x => x.2.2.2.2.2.2.2) (fun x H locs ls h => by (obtain ⟨_, _, _, _, h⟩ := h; exact absurd h.2.1 (by rw [fM_put0_b]; exact fun h => nomatch h))) (fun n ih x H locs ls hv => ?_) (fun key => ?_)
  · obtain ⟨lb, y3, y1, tn0, tf0, ws9, wc, wn⟩ := x
    rcases hv with ⟨adL, gdL, vadL, tq0, hj, hf, hP, hD, hS, hl, hE, hN⟩
    subst hj
    have hf : fM_put0_b (n + 1) 1 y3 y1 tn0 tf0 ws9 wc wn = some out := hf
    rw [fM_put0_b] at hf
    obtain ⟨hP, hD⟩ : xPD D xcl A (xMw cT aM adL rd gdL vadL ws9 [(tq0, .inl (cT 0, tn0, .inl tf0))]) H := ⟨hP, hD⟩
    have hl : lv_has ls 4 [(3, .int y3), (2, .ref tq0), (0, .ref aM), (1, .int y1)] := hl
    refine W.eq (g2 := F0 m 42 ls []) rfl ?_
    show W p l e _ s m _ below meth c H locs wc wn _ _
    obtain ⟨hm0, hf⟩ := xmoE hf
    refine lv_iload_n hx hb dM_put0_42 rfl (lv_at hl 0 rfl) ?_
    refine lv_aload_n hx hb dM_put0_43 rfl (lv_at hl 2 rfl) ?_
    refine xm_get (v := .int (xsi ws9 22)) hx hb htx hown hK hP 22 (by decide) rfl (htx _ kw_5_109) rfl dM_put0_44 ?_
    refine lv_icmp_ge (tgt := 65) hx hb dM_put0_47 (by decide) (fun hc => ?_) (fun hc => ?_)
    · rw [if_pos hc] at hf
      refine lv_aload_n hx hb dM_put0_65 rfl (lv_at hl 2 rfl) ?_
      refine lv_aload_n hx hb dM_put0_66 rfl (lv_at hl 1 rfl) ?_
      refine xm_put (v := .ref tq0) (W' := ((aM, Sum.inr (5, (xMf adL rd gdL ws9).set 21 (.ref tq0))) :: (xMa cT adL rd vadL ws9 ++ ([(tq0, .inl (cT 0, tn0, .inl tf0))] ++ (xMg cT gdL ws9 ++ xMt vadL ws9))))) (ty := (.array .byte)) hx hb htx hown hK hP hD hS 21 (by decide) rfl (htx _ kw_5_108) rfl rfl (by decide +kernel) rfl rfl dM_put0_67 (fun H locs hP hD hS => ?_)
      obtain ⟨hP, hD⟩ := xm_part (X := ((aM, Sum.inr (5, (xMf adL rd gdL ws9).set 21 (.ref tq0))) :: (xMa cT adL rd vadL ws9 ++ [(tq0, .inl (cT 0, tn0, .inl tf0))]))) (cx := xMe cT aM (va_up adL 21 tq0) rd gdL vadL (xsG ws9 21 tn0 tf0) ++ []) (G := xMg cT gdL ws9 ++ xMt vadL ws9) (W2 := (xMw cT aM (va_up adL 21 tq0) rd gdL vadL (xsG ws9 21 tn0 tf0) [])) hP hD rfl [0, 1, 2, 3, 4, 5, 6, 7, 8, 22, 10, 11, 12, 13, 14, 15, 16, 17, 18, 19, 20, 21] rfl (by decide) rfl
      have hl : lv_has ls 4 [(3, .int y3), (0, .ref aM), (1, .int y1)] := lv_sub hl [0, 2, 3] rfl
      generalize (va_up adL 21 tq0) = ad1 at hP hD
      refine lv_aload_n hx hb dM_put0_70 rfl (lv_at hl 1 rfl) ?_
      refine xm_get (v := .ref (ad1 21)) hx hb htx hown hK hP 21 (by decide) rfl (htx _ kw_5_108) rfl dM_put0_71 ?_
      refine lv_aload_n hx hb dM_put0_74 rfl (lv_at hl 1 rfl) ?_
      refine xm_get (v := .int (xsi ws9 22)) hx hb htx hown hK hP 22 (by decide) rfl (htx _ kw_5_109) rfl dM_put0_75 ?_
      refine lv_iload_n hx hb dM_put0_78 rfl (lv_at hl 2 rfl) ?_
      refine lv_i2b hx hb dM_put0_79 rfl ?_
      obtain ⟨hg3, hf⟩ := xifn hf
      refine va_bast hx hb hK hP hD hS 9 0 rfl rfl hg3 dM_put0_80 (fun H locs hP hD hS => ?_)
      obtain ⟨hP, hD⟩ : xPD D xcl A (xMw cT aM ad1 rd gdL vadL (xsB (xsG ws9 21 tn0 tf0) 21 ((xsi ws9 22).toNatClampNeg) (vp_nar .byte y1.toInt8.toInt32)) []) H := ⟨hP, hD⟩
      refine lv_aload_n hx hb dM_put0_81 rfl (lv_at hl 1 rfl) ?_
      refine lv_dup hx hb dM_put0_82 rfl ?_
      refine xm_get (v := .int (xsi ws9 22)) hx hb htx hown hK hP 22 (by decide) rfl (htx _ kw_5_109) rfl dM_put0_83 ?_
      refine lv_iconst (v := 1) hx hb dM_put0_86 (by decide) ?_
      refine lv_iadd hx hb dM_put0_87 ?_
      refine xm_put (v := .int ((xsi ws9 22) + (1 : Int32))) (W' := (xMw cT aM ad1 rd gdL vadL (xsI (xsB (xsG ws9 21 tn0 tf0) 21 ((xsi ws9 22).toNatClampNeg) (vp_nar .byte y1.toInt8.toInt32)) 22 ((xsi ws9 22) + (1 : Int32))) [])) (ty := .int) hx hb htx hown hK hP hD hS 22 (by decide) rfl (htx _ kw_5_109) rfl rfl (by decide +kernel) rfl rfl dM_put0_88 (fun H locs hP hD hS => ?_)
      obtain rfl := Option.some.inj hf
      exact W.vret hx hb hr (fun t ht hW => ⟨⟨(ad1, gdL, vadL), rfl, ⟨hE, hN⟩, by rw [ht]; exact hP, va_K.moved hW.alike hK, hD⟩, hS.F ht⟩) hS.2.2 dM_put0_91
    · rw [if_neg hc] at hf
      refine lv_aload_n hx hb dM_put0_50 rfl (lv_at hl 1 rfl) ?_
      refine lv_iload_n hx hb dM_put0_51 rfl (lv_at hl 0 rfl) ?_
      refine lv_aload_n hx hb dM_put0_52 rfl (lv_at hl 2 rfl) ?_
      refine xm_get (v := .ref (adL 21)) hx hb htx hown hK hP 21 (by decide) rfl (htx _ kw_5_108) rfl dM_put0_53 ?_
      refine lv_iload_n hx hb dM_put0_56 rfl (lv_at hl 0 rfl) ?_
      obtain ⟨hg1, hf⟩ := xifn hf
      refine va_bald hx hb hK hP 9 0 rfl rfl hg1 dM_put0_57 ?_
      refine W.eq (g2 := F0 m 58 ls [.int ((xba ws9 21) y3.toNatClampNeg), .int y3, .ref tq0]) rfl ?_
      obtain ⟨hg2, hf⟩ := xifn hf
      refine va_bast hx hb hK hP hD hS 22 0 rfl rfl hg2 dM_put0_58 (fun H locs hP hD hS => ?_)
      obtain ⟨hP, hD⟩ : xPD D xcl A (xMw cT aM adL rd gdL vadL ws9 [(tq0, .inl (cT 0, tn0, .inl (upd tf0 y3.toNatClampNeg (vp_nar .byte ((xba ws9 21) y3.toNatClampNeg)))))]) H := ⟨hP, hD⟩
      refine lv_iinc (v := (y3 + 1)) (lv' := [(3, .int (y3 + 1)), (2, .ref tq0), (0, .ref aM), (1, .int y1)]) hx hb dM_put0_59 hl (k := 0) rfl rfl (by decide) rfl (fun ls hl => ?_)
      refine lv_goto (tgt := 42) hx hb dM_put0_62 (by decide) ?_
      exact ih (1, (y3 + 1), y1, tn0, (upd tf0 y3.toNatClampNeg (vp_nar .byte ((xba ws9 21) y3.toNatClampNeg))), ws9, wc, wn) _ _ ls (⟨adL, gdL, vadL, tq0, rfl, hf, hP, hD, hS, lv_sub hl [0, 1, 2, 3] rfl, hE, hN⟩)
  refine lv_aload_n hx hb dM_put0_0 rfl (lv_at hl 0 rfl) ?_
  refine xm_get (v := .int (xsi st 22)) hx hb htx hown hK hP 22 (by decide) rfl (htx _ kw_5_109) rfl dM_put0_1 ?_
  refine lv_aload_n hx hb dM_put0_4 rfl (lv_at hl 0 rfl) ?_
  refine xm_get (v := .int (xsi st 23)) hx hb htx hown hK hP 23 (by decide) rfl (htx _ kw_5_110) rfl dM_put0_5 ?_
  refine lv_icmp_ne (tgt := 19) hx hb dM_put0_8 (by decide) (fun hc => ?_) (fun hc => ?_)
  · rw [if_neg hc] at hf
    refine lv_aload_n hx hb dM_put0_19 rfl (lv_at hl 0 rfl) ?_
    refine xm_get (v := .int (xsi st 22)) hx hb htx hown hK hP 22 (by decide) rfl (htx _ kw_5_109) rfl dM_put0_20 ?_
    refine lv_aload_n hx hb dM_put0_23 rfl (lv_at hl 0 rfl) ?_
    refine xm_get (v := .ref (ad 21)) hx hb htx hown hK hP 21 (by decide) rfl (htx _ kw_5_108) rfl dM_put0_24 ?_
    refine va_alen (v := Int32.ofNat (xln st 21)) hx hb hK hP 9 0 rfl rfl rfl dM_put0_27 ?_
    refine lv_icmp_ne (tgt := 70) hx hb dM_put0_28 (by decide) (fun hc => ?_) (fun hc => ?_)
    · rw [if_neg hc] at hf
      refine lv_aload_n hx hb dM_put0_70 rfl (lv_at hl 0 rfl) ?_
      refine xm_get (v := .ref (ad 21)) hx hb htx hown hK hP 21 (by decide) rfl (htx _ kw_5_108) rfl dM_put0_71 ?_
      refine lv_aload_n hx hb dM_put0_74 rfl (lv_at hl 0 rfl) ?_
      refine xm_get (v := .int (xsi st 22)) hx hb htx hown hK hP 22 (by decide) rfl (htx _ kw_5_109) rfl dM_put0_75 ?_
      refine lv_iload_n hx hb dM_put0_78 rfl (lv_at hl 1 rfl) ?_
      refine lv_i2b hx hb dM_put0_79 rfl ?_
      obtain ⟨hg1, hf⟩ := xifn hf
      refine va_bast hx hb hK hP hD hS 9 0 rfl rfl hg1 dM_put0_80 (fun H locs hP hD hS => ?_)
      obtain ⟨hP, hD⟩ : xPD D xcl A (xMw cT aM ad rd gd vad (xsB st 21 ((xsi st 22).toNatClampNeg) (vp_nar .byte x0.toInt8.toInt32)) []) H := ⟨hP, hD⟩
      refine lv_aload_n hx hb dM_put0_81 rfl (lv_at hl 0 rfl) ?_
      refine lv_dup hx hb dM_put0_82 rfl ?_
      refine xm_get (v := .int (xsi st 22)) hx hb htx hown hK hP 22 (by decide) rfl (htx _ kw_5_109) rfl dM_put0_83 ?_
      refine lv_iconst (v := 1) hx hb dM_put0_86 (by decide) ?_
      refine lv_iadd hx hb dM_put0_87 ?_
      refine xm_put (v := .int ((xsi st 22) + (1 : Int32))) (W' := (xMw cT aM ad rd gd vad (xsI (xsB st 21 ((xsi st 22).toNatClampNeg) (vp_nar .byte x0.toInt8.toInt32)) 22 ((xsi st 22) + (1 : Int32))) [])) (ty := .int) hx hb htx hown hK hP hD hS 22 (by decide) rfl (htx _ kw_5_109) rfl rfl (by decide +kernel) rfl rfl dM_put0_88 (fun H locs hP hD hS => ?_)
      obtain rfl := Option.some.inj hf
      exact W.vret hx hb hr (fun t ht hW => ⟨⟨(ad, gd, vad), rfl, ⟨hE, hN⟩, by rw [ht]; exact hP, va_K.moved hW.alike hK, hD⟩, hS.F ht⟩) hS.2.2 dM_put0_91
    · rw [if_pos hc] at hf
      refine lv_iconst (v := 2) hx hb dM_put0_31 (by decide) ?_
      refine lv_aload_n hx hb dM_put0_32 rfl (lv_at hl 0 rfl) ?_
      refine xm_get (v := .int (xsi st 22)) hx hb htx hown hK hP 22 (by decide) rfl (htx _ kw_5_109) rfl dM_put0_33 ?_
      refine lv_imul hx hb dM_put0_36 ?_
      obtain ⟨hg1, hf⟩ := xifn hf
      obtain ⟨hm2, hf⟩ := xmoE hf
      refine va_newa (atype := .byte) (N' := ((2 : Int32) * (xsi st 22)).toNatClampNeg) (a0 := (((2 : Int32) * (xsi st 22)).toNatClampNeg, .inl (fun _ => 0))) (ty := .byte) (n := ((2 : Int32) * (xsi st 22))) hx hb (htx _ kw_1_53) rfl hK hP hD hS hA (fun _ => rfl) (fun h => hg1 (Or.inl h)) rfl (by have := fun h => hg1 (Or.inr h); show _ * 1 ≤ _; omega) hm2.1 hm2.2 dM_put0_37 (fun qz3 cA9 H hK9 hP hD hS => ?_)
      obtain rfl := xk_eq hK9 0 rfl
      replace hP := xm_tmpP hP
      replace hD := xm_tmpD hD
      obtain ⟨hP, hD⟩ : xPD D xcl A (xMw cT aM ad rd gd vad st [(qz3, .inl (cT 0, ((2 : Int32) * (xsi st 22)).toNatClampNeg, .inl (fun _ => 0)))]) H := ⟨hP, hD⟩
      refine lv_astore_n (lv' := [(2, .ref qz3), (0, .ref aM), (1, .int x0)]) hx hb dM_put0_39 rfl hl (by decide) rfl (fun ls hl => ?_)
      refine lv_iconst (v := 0) hx hb dM_put0_40 (by decide) ?_
      refine lv_istore_n (lv' := [(3, .int 0), (2, .ref qz3), (0, .ref aM), (1, .int x0)]) hx hb dM_put0_41 rfl hl (by decide) rfl (fun ls hl => ?_)
      exact key n (1, (0 : Int32), x0, ((2 : Int32) * (xsi st 22)).toNatClampNeg, (fun _ => 0), st, (0 + 1), (0 + ((2 : Int32) * (xsi st 22)).toNatClampNeg)) _ _ ls (⟨ad, gd, vad, qz3, rfl, hf, hP, hD, hS, lv_sub hl [0, 1, 2, 3] rfl, hE, hN⟩)
  · rw [if_pos hc] at hf
    obtain rfl := Option.some.inj hf
    exact absurd (show (1 : Nat) = 0 from hkd) (by decide)
set_option maxHeartbeats 400000000 in
set_option maxRecDepth 100000 in
theorem gM_put0_1 (l : Launch) (hl9 : l.stackTraces = false) (D : va_G) (cT : Nat → ClassId) (aK aV : Nat → Nat) (sz n : Nat) (aM : Nat) (ad rd gd vad : Nat → Nat) (st : xS) (x0 : Int32) (out : Nat × Nat × Nat × xS) (hf : fM_put0 n st x0 = some out) (hkd : out.1 = 1) : xMetY l yM_put0 wyM_put0 6 out.2.1 out.2.2.1 100 D cT aK aV sz [.ref aM, .int x0] (xMw cT aM ad rd gd vad st []) "java/lang/IndexOutOfBoundsException" (fun u => xE vad st out.2.2.2 u) (fun A u t => xB D xcl cT A (xMw cT aM u.1 rd u.2.1 u.2.2 out.2.2.2 []) t) := by
  refine vx_ofW (cc := prog_13_method_41_code) (maxL := 4) (ret := none) (by decide) rfl ?_
  intro p e s m args below meth c s₁ B hml hne hv
  obtain ⟨rfl, hsz, hZ, hP, hK, hD0⟩ := hv
  have hx := B.exec
  have hb := B.bytes
  have hr := B.returns
  have hts := atoms_spec (ws := wyM_put0) B.pre
  have htx := fun w h => hts w (List.mem_cons_of_mem _ h)
  have hown : s.vm.findClass "ValueBenchModel" = some m.cls := findClass_of_methodNamed B.named
  have hlocks := B.notSynchronized
  subst hsz
  have hD := hD0.self (sz := s.heap.size)
  generalize hAe : va_A (xMw cT aM ad rd gd vad st []) s.heap.size = A at hD hZ ⊢
  have hA : ∀ q : Nat, s.heap.size ≤ q → A q := fun q h => by rw [← hAe]; exact Or.inr h
  have hS : va_S A s.heap s.heap [] := va_S.rf
  have hl := lv_entry ([.ref aM, .int x0]) (n := 4) (by simp [lg_sl, xvcat, xrscat, xcI, xcL, xcR, xcN])
  rw [show lv_args 0 [.ref aM, .int x0] = [(0, .ref aM), (1, .int x0)] from by simp [lv_args, xvcat, xrscat, xcI, xcL, xcR, xcN]] at hl
  rw [lg_entry_eq]
  generalize (lg_sl ([.ref aM, .int x0]) ++ List.replicate (4 - (lg_sl ([.ref aM, .int x0])).length) Slot.unset).toArray = ls at hl ⊢
  have hl : lv_has ls 4 [(0, .ref aM), (1, .int x0)] := hl
  have hE : ∀ p, p < xct st → vad p = vad p := fun _ _ => rfl
  have hN : xct st ≤ xct st := Nat.le_refl _
  unfold fM_put0 at hf
  refine xloopM (σ := Nat × Int32 × Int32 × Nat × (Nat → Int32) × xS × Nat × Nat) (fun n x H locs ls => (∃ (adL gdL vadL : Nat → Nat) (tq0 : Nat), x.1 = 1 ∧ fM_put0_b n x.1 x.2.1 x.2.2.1 x.2.2.2.1 x.2.2.2.2.1 x.2.2.2.2.2.1 x.2.2.2.2.2.2.1 x.2.2.2.2.2.2.2 = some out ∧ va_P D xcl (xMw cT aM adL rd gdL vadL x.2.2.2.2.2.1 [(tq0, .inl (cT 0, x.2.2.2.1, .inl x.2.2.2.2.1))]) H ∧ va_D A (xMw cT aM adL rd gdL vadL x.2.2.2.2.2.1 [(tq0, .inl (cT 0, x.2.2.2.1, .inl x.2.2.2.2.1))]) ∧ va_S A s.heap H locs ∧ lv_has ls 4 [(3, .int x.2.1), (2, .ref tq0), (0, .ref aM), (1, .int x.2.2.1)] ∧ (∀ p, p < xct st → vadL p = vad p) ∧ xct st ≤ xct x.2.2.2.2.2.1)) (fun x => 42) (fun x => x.2.2.2.2.2.2.1) (fun x => x.2.2.2.2.2.2.2) (fun x H locs ls h => by (obtain ⟨_, _, _, _, h⟩ := h; exact absurd h.2.1 (by rw [fM_put0_b]; exact fun h => nomatch h))) (fun n ih x H locs ls hv => ?_) (fun key => ?_)
  · obtain ⟨lb, y3, y1, tn0, tf0, ws9, wc, wn⟩ := x
    rcases hv with ⟨adL, gdL, vadL, tq0, hj, hf, hP, hD, hS, hl, hE, hN⟩
    subst hj
    have hf : fM_put0_b (n + 1) 1 y3 y1 tn0 tf0 ws9 wc wn = some out := hf
    rw [fM_put0_b] at hf
    obtain ⟨hP, hD⟩ : xPD D xcl A (xMw cT aM adL rd gdL vadL ws9 [(tq0, .inl (cT 0, tn0, .inl tf0))]) H := ⟨hP, hD⟩
    have hl : lv_has ls 4 [(3, .int y3), (2, .ref tq0), (0, .ref aM), (1, .int y1)] := hl
    refine W.eq (g2 := F0 m 42 ls []) rfl ?_
    show W p l e _ s m _ below meth c H locs wc wn _ _
    obtain ⟨hm0, hf⟩ := xmoE hf
    refine lv_iload_n hx hb dM_put0_42 rfl (lv_at hl 0 rfl) ?_
    refine lv_aload_n hx hb dM_put0_43 rfl (lv_at hl 2 rfl) ?_
    refine xm_get (v := .int (xsi ws9 22)) hx hb htx hown hK hP 22 (by decide) rfl (htx _ kw_5_109) rfl dM_put0_44 ?_
    refine lv_icmp_ge (tgt := 65) hx hb dM_put0_47 (by decide) (fun hc => ?_) (fun hc => ?_)
    · rw [if_pos hc] at hf
      refine lv_aload_n hx hb dM_put0_65 rfl (lv_at hl 2 rfl) ?_
      refine lv_aload_n hx hb dM_put0_66 rfl (lv_at hl 1 rfl) ?_
      refine xm_put (v := .ref tq0) (W' := ((aM, Sum.inr (5, (xMf adL rd gdL ws9).set 21 (.ref tq0))) :: (xMa cT adL rd vadL ws9 ++ ([(tq0, .inl (cT 0, tn0, .inl tf0))] ++ (xMg cT gdL ws9 ++ xMt vadL ws9))))) (ty := (.array .byte)) hx hb htx hown hK hP hD hS 21 (by decide) rfl (htx _ kw_5_108) rfl rfl (by decide +kernel) rfl rfl dM_put0_67 (fun H locs hP hD hS => ?_)
      obtain ⟨hP, hD⟩ := xm_part (X := ((aM, Sum.inr (5, (xMf adL rd gdL ws9).set 21 (.ref tq0))) :: (xMa cT adL rd vadL ws9 ++ [(tq0, .inl (cT 0, tn0, .inl tf0))]))) (cx := xMe cT aM (va_up adL 21 tq0) rd gdL vadL (xsG ws9 21 tn0 tf0) ++ []) (G := xMg cT gdL ws9 ++ xMt vadL ws9) (W2 := (xMw cT aM (va_up adL 21 tq0) rd gdL vadL (xsG ws9 21 tn0 tf0) [])) hP hD rfl [0, 1, 2, 3, 4, 5, 6, 7, 8, 22, 10, 11, 12, 13, 14, 15, 16, 17, 18, 19, 20, 21] rfl (by decide) rfl
      have hl : lv_has ls 4 [(3, .int y3), (0, .ref aM), (1, .int y1)] := lv_sub hl [0, 2, 3] rfl
      generalize (va_up adL 21 tq0) = ad1 at hP hD
      refine lv_aload_n hx hb dM_put0_70 rfl (lv_at hl 1 rfl) ?_
      refine xm_get (v := .ref (ad1 21)) hx hb htx hown hK hP 21 (by decide) rfl (htx _ kw_5_108) rfl dM_put0_71 ?_
      refine lv_aload_n hx hb dM_put0_74 rfl (lv_at hl 1 rfl) ?_
      refine xm_get (v := .int (xsi ws9 22)) hx hb htx hown hK hP 22 (by decide) rfl (htx _ kw_5_109) rfl dM_put0_75 ?_
      refine lv_iload_n hx hb dM_put0_78 rfl (lv_at hl 2 rfl) ?_
      refine lv_i2b hx hb dM_put0_79 rfl ?_
      obtain ⟨hg3, hf⟩ := xifn hf
      refine va_bast hx hb hK hP hD hS 9 0 rfl rfl hg3 dM_put0_80 (fun H locs hP hD hS => ?_)
      obtain ⟨hP, hD⟩ : xPD D xcl A (xMw cT aM ad1 rd gdL vadL (xsB (xsG ws9 21 tn0 tf0) 21 ((xsi ws9 22).toNatClampNeg) (vp_nar .byte y1.toInt8.toInt32)) []) H := ⟨hP, hD⟩
      refine lv_aload_n hx hb dM_put0_81 rfl (lv_at hl 1 rfl) ?_
      refine lv_dup hx hb dM_put0_82 rfl ?_
      refine xm_get (v := .int (xsi ws9 22)) hx hb htx hown hK hP 22 (by decide) rfl (htx _ kw_5_109) rfl dM_put0_83 ?_
      refine lv_iconst (v := 1) hx hb dM_put0_86 (by decide) ?_
      refine lv_iadd hx hb dM_put0_87 ?_
      refine xm_put (v := .int ((xsi ws9 22) + (1 : Int32))) (W' := (xMw cT aM ad1 rd gdL vadL (xsI (xsB (xsG ws9 21 tn0 tf0) 21 ((xsi ws9 22).toNatClampNeg) (vp_nar .byte y1.toInt8.toInt32)) 22 ((xsi ws9 22) + (1 : Int32))) [])) (ty := .int) hx hb htx hown hK hP hD hS 22 (by decide) rfl (htx _ kw_5_109) rfl rfl (by decide +kernel) rfl rfl dM_put0_88 (fun H locs hP hD hS => ?_)
      obtain rfl := Option.some.inj hf
      exact absurd (show (0 : Nat) = 1 from hkd) (by decide)
    · rw [if_neg hc] at hf
      refine lv_aload_n hx hb dM_put0_50 rfl (lv_at hl 1 rfl) ?_
      refine lv_iload_n hx hb dM_put0_51 rfl (lv_at hl 0 rfl) ?_
      refine lv_aload_n hx hb dM_put0_52 rfl (lv_at hl 2 rfl) ?_
      refine xm_get (v := .ref (adL 21)) hx hb htx hown hK hP 21 (by decide) rfl (htx _ kw_5_108) rfl dM_put0_53 ?_
      refine lv_iload_n hx hb dM_put0_56 rfl (lv_at hl 0 rfl) ?_
      obtain ⟨hg1, hf⟩ := xifn hf
      refine va_bald hx hb hK hP 9 0 rfl rfl hg1 dM_put0_57 ?_
      refine W.eq (g2 := F0 m 58 ls [.int ((xba ws9 21) y3.toNatClampNeg), .int y3, .ref tq0]) rfl ?_
      obtain ⟨hg2, hf⟩ := xifn hf
      refine va_bast hx hb hK hP hD hS 22 0 rfl rfl hg2 dM_put0_58 (fun H locs hP hD hS => ?_)
      obtain ⟨hP, hD⟩ : xPD D xcl A (xMw cT aM adL rd gdL vadL ws9 [(tq0, .inl (cT 0, tn0, .inl (upd tf0 y3.toNatClampNeg (vp_nar .byte ((xba ws9 21) y3.toNatClampNeg)))))]) H := ⟨hP, hD⟩
      refine lv_iinc (v := (y3 + 1)) (lv' := [(3, .int (y3 + 1)), (2, .ref tq0), (0, .ref aM), (1, .int y1)]) hx hb dM_put0_59 hl (k := 0) rfl rfl (by decide) rfl (fun ls hl => ?_)
      refine lv_goto (tgt := 42) hx hb dM_put0_62 (by decide) ?_
      exact ih (1, (y3 + 1), y1, tn0, (upd tf0 y3.toNatClampNeg (vp_nar .byte ((xba ws9 21) y3.toNatClampNeg))), ws9, wc, wn) _ _ ls (⟨adL, gdL, vadL, tq0, rfl, hf, hP, hD, hS, lv_sub hl [0, 1, 2, 3] rfl, hE, hN⟩)
  refine lv_aload_n hx hb dM_put0_0 rfl (lv_at hl 0 rfl) ?_
  refine xm_get (v := .int (xsi st 22)) hx hb htx hown hK hP 22 (by decide) rfl (htx _ kw_5_109) rfl dM_put0_1 ?_
  refine lv_aload_n hx hb dM_put0_4 rfl (lv_at hl 0 rfl) ?_
  refine xm_get (v := .int (xsi st 23)) hx hb htx hown hK hP 23 (by decide) rfl (htx _ kw_5_110) rfl dM_put0_5 ?_
  refine lv_icmp_ne (tgt := 19) hx hb dM_put0_8 (by decide) (fun hc => ?_) (fun hc => ?_)
  · rw [if_neg hc] at hf
    refine lv_aload_n hx hb dM_put0_19 rfl (lv_at hl 0 rfl) ?_
    refine xm_get (v := .int (xsi st 22)) hx hb htx hown hK hP 22 (by decide) rfl (htx _ kw_5_109) rfl dM_put0_20 ?_
    refine lv_aload_n hx hb dM_put0_23 rfl (lv_at hl 0 rfl) ?_
    refine xm_get (v := .ref (ad 21)) hx hb htx hown hK hP 21 (by decide) rfl (htx _ kw_5_108) rfl dM_put0_24 ?_
    refine va_alen (v := Int32.ofNat (xln st 21)) hx hb hK hP 9 0 rfl rfl rfl dM_put0_27 ?_
    refine lv_icmp_ne (tgt := 70) hx hb dM_put0_28 (by decide) (fun hc => ?_) (fun hc => ?_)
    · rw [if_neg hc] at hf
      refine lv_aload_n hx hb dM_put0_70 rfl (lv_at hl 0 rfl) ?_
      refine xm_get (v := .ref (ad 21)) hx hb htx hown hK hP 21 (by decide) rfl (htx _ kw_5_108) rfl dM_put0_71 ?_
      refine lv_aload_n hx hb dM_put0_74 rfl (lv_at hl 0 rfl) ?_
      refine xm_get (v := .int (xsi st 22)) hx hb htx hown hK hP 22 (by decide) rfl (htx _ kw_5_109) rfl dM_put0_75 ?_
      refine lv_iload_n hx hb dM_put0_78 rfl (lv_at hl 1 rfl) ?_
      refine lv_i2b hx hb dM_put0_79 rfl ?_
      obtain ⟨hg1, hf⟩ := xifn hf
      refine va_bast hx hb hK hP hD hS 9 0 rfl rfl hg1 dM_put0_80 (fun H locs hP hD hS => ?_)
      obtain ⟨hP, hD⟩ : xPD D xcl A (xMw cT aM ad rd gd vad (xsB st 21 ((xsi st 22).toNatClampNeg) (vp_nar .byte x0.toInt8.toInt32)) []) H := ⟨hP, hD⟩
      refine lv_aload_n hx hb dM_put0_81 rfl (lv_at hl 0 rfl) ?_
      refine lv_dup hx hb dM_put0_82 rfl ?_
      refine xm_get (v := .int (xsi st 22)) hx hb htx hown hK hP 22 (by decide) rfl (htx _ kw_5_109) rfl dM_put0_83 ?_
      refine lv_iconst (v := 1) hx hb dM_put0_86 (by decide) ?_
      refine lv_iadd hx hb dM_put0_87 ?_
      refine xm_put (v := .int ((xsi st 22) + (1 : Int32))) (W' := (xMw cT aM ad rd gd vad (xsI (xsB st 21 ((xsi st 22).toNatClampNeg) (vp_nar .byte x0.toInt8.toInt32)) 22 ((xsi st 22) + (1 : Int32))) [])) (ty := .int) hx hb htx hown hK hP hD hS 22 (by decide) rfl (htx _ kw_5_109) rfl rfl (by decide +kernel) rfl rfl dM_put0_88 (fun H locs hP hD hS => ?_)
      obtain rfl := Option.some.inj hf
      exact absurd (show (0 : Nat) = 1 from hkd) (by decide)
    · rw [if_pos hc] at hf
      refine lv_iconst (v := 2) hx hb dM_put0_31 (by decide) ?_
      refine lv_aload_n hx hb dM_put0_32 rfl (lv_at hl 0 rfl) ?_
      refine xm_get (v := .int (xsi st 22)) hx hb htx hown hK hP 22 (by decide) rfl (htx _ kw_5_109) rfl dM_put0_33 ?_
      refine lv_imul hx hb dM_put0_36 ?_
      obtain ⟨hg1, hf⟩ := xifn hf
      obtain ⟨hm2, hf⟩ := xmoE hf
      refine va_newa (atype := .byte) (N' := ((2 : Int32) * (xsi st 22)).toNatClampNeg) (a0 := (((2 : Int32) * (xsi st 22)).toNatClampNeg, .inl (fun _ => 0))) (ty := .byte) (n := ((2 : Int32) * (xsi st 22))) hx hb (htx _ kw_1_53) rfl hK hP hD hS hA (fun _ => rfl) (fun h => hg1 (Or.inl h)) rfl (by have := fun h => hg1 (Or.inr h); show _ * 1 ≤ _; omega) hm2.1 hm2.2 dM_put0_37 (fun qz3 cA9 H hK9 hP hD hS => ?_)
      obtain rfl := xk_eq hK9 0 rfl
      replace hP := xm_tmpP hP
      replace hD := xm_tmpD hD
      obtain ⟨hP, hD⟩ : xPD D xcl A (xMw cT aM ad rd gd vad st [(qz3, .inl (cT 0, ((2 : Int32) * (xsi st 22)).toNatClampNeg, .inl (fun _ => 0)))]) H := ⟨hP, hD⟩
      refine lv_astore_n (lv' := [(2, .ref qz3), (0, .ref aM), (1, .int x0)]) hx hb dM_put0_39 rfl hl (by decide) rfl (fun ls hl => ?_)
      refine lv_iconst (v := 0) hx hb dM_put0_40 (by decide) ?_
      refine lv_istore_n (lv' := [(3, .int 0), (2, .ref qz3), (0, .ref aM), (1, .int x0)]) hx hb dM_put0_41 rfl hl (by decide) rfl (fun ls hl => ?_)
      exact key n (1, (0 : Int32), x0, ((2 : Int32) * (xsi st 22)).toNatClampNeg, (fun _ => 0), st, (0 + 1), (0 + ((2 : Int32) * (xsi st 22)).toNatClampNeg)) _ _ ls (⟨ad, gd, vad, qz3, rfl, hf, hP, hD, hS, lv_sub hl [0, 1, 2, 3] rfl, hE, hN⟩)
  · rw [if_pos hc] at hf
    obtain rfl := Option.some.inj hf
    exact vx_throw0 (own := "ValueBenchModel") (cls := "java/lang/IndexOutOfBoundsException") (names := ["java/lang/RuntimeException", "java/lang/Exception"]) hx hb hl9 hown (by decide +kernel) (by decide +kernel) (htx _ kw_5_205) (htx _ kw_1_13) (vx_hat (B := [.castable "java/lang/IndexOutOfBoundsException" "java/lang/IndexOutOfBoundsException", .declares ⟨"java/lang/RuntimeException", "<init>", "()V"⟩, .declares ⟨"java/lang/Exception", "<init>", "()V"⟩, .declares ⟨"java/lang/Throwable", "<init>", "()V"⟩]) (fun w h => htx w (xat_M_86_88 w h)) xat_M_86_88_b (vx_c ((hZ.2.2.2.2.2.1 "java/lang/IndexOutOfBoundsException" (List.mem_of_getElem? (i := 0) rfl)).use rfl) (vx_c ((hZ.2.2.2.2.2.2.1 ⟨"java/lang/RuntimeException", "<init>", "()V"⟩ (List.mem_of_getElem? (i := 0) rfl)).use rfl) (vx_c ((hZ.2.2.2.2.2.2.1 ⟨"java/lang/Exception", "<init>", "()V"⟩ (List.mem_of_getElem? (i := 1) rfl)).use rfl) (vx_c ((hZ.2.2.2.2.2.2.1 ⟨"java/lang/Throwable", "<init>", "()V"⟩ (List.mem_of_getElem? (i := 2) rfl)).use rfl) vx_n))))) xat_M_86_88_g hZ.2.2.2.1 hZ.2.2.2.2.1 hS (hl.1.trans hml.symm) dM_put0_11 dM_put0_14 dM_put0_15 dM_put0_18 (fun x h => (hne x h).elim) (Nat.le_of_ble_eq_true rfl) (Nat.le_of_ble_eq_true rfl) (Nat.le_refl _) (Nat.le_refl _) hlocks (fun t ha hz hk => ⟨(ad, gd, vad), ⟨hE, hN⟩, ⟨rfl, xx_keepP hP hk, va_K.moved ha hK, hD⟩, xx_grown hS hz hk⟩) hS.2.2 (Nat.le_refl _) (Nat.le_refl _)
set_option maxHeartbeats 400000000 in
set_option maxRecDepth 100000 in
theorem gM_put1 (l : Launch) (hl9 : l.stackTraces = false) (D : va_G) (cT : Nat → ClassId) (aK aV : Nat → Nat) (sz n : Nat) (aM : Nat) (ad rd gd vad : Nat → Nat) (st : xS) (out : Nat × Nat × Nat × xS) (hf : fM_put1 n st = some out) (hkd : out.1 = 0) : xMet l yM_put1 wyM_put1 7 out.2.1 out.2.2.1 123 D cT aK aV sz [.ref aM, .ref (aK 10)] (xMw cT aM ad rd gd vad st []) (fun A => va_Qv (fun u : xU => xE vad st out.2.2.2 u) (fun u t => xB D xcl cT A (xMw cT aM u.1 rd u.2.1 u.2.2 out.2.2.2 []) t) A) := by
  refine Met.ofW (cc := prog_13_method_42_code) (maxL := 3) (ret := none) (by decide) rfl ?_
  intro p e s m args below meth c s₁ B hml hv
  obtain ⟨rfl, hsz, hZ, hP, hK, hD0⟩ := hv
  have hx := B.exec
  have hb := B.bytes
  have hr := B.returns
  have hts := atoms_spec (ws := wyM_put1) B.pre
  have htx := fun w h => hts w (List.mem_cons_of_mem _ h)
  have hown : s.vm.findClass "ValueBenchModel" = some m.cls := findClass_of_methodNamed B.named
  have hlocks := B.notSynchronized
  subst hsz
  have hD := hD0.self (sz := s.heap.size)
  generalize hAe : va_A (xMw cT aM ad rd gd vad st []) s.heap.size = A at hD hZ ⊢
  have hA : ∀ q : Nat, s.heap.size ≤ q → A q := fun q h => by rw [← hAe]; exact Or.inr h
  have hS : va_S A s.heap s.heap [] := va_S.rf
  have hl := lv_entry ([.ref aM, .ref (aK 10)]) (n := 3) (by simp [lg_sl, xvcat, xrscat, xcI, xcL, xcR, xcN])
  rw [show lv_args 0 [.ref aM, .ref (aK 10)] = [(0, .ref aM), (1, .ref (aK 10))] from by simp [lv_args, xvcat, xrscat, xcI, xcL, xcR, xcN]] at hl
  rw [lg_entry_eq]
  generalize (lg_sl ([.ref aM, .ref (aK 10)]) ++ List.replicate (3 - (lg_sl ([.ref aM, .ref (aK 10)])).length) Slot.unset).toArray = ls at hl ⊢
  have hl : lv_has ls 3 [(0, .ref aM), (1, .ref (aK 10))] := hl
  have hE : ∀ p, p < xct st → vad p = vad p := fun _ _ => rfl
  have hN : xct st ≤ xct st := Nat.le_refl _
  unfold fM_put1 at hf
  refine lv_iconst (v := 0) hx hb dM_put1_0 (by decide) ?_
  refine lv_istore_n (lv' := [(2, .int 0), (0, .ref aM), (1, .ref (aK 10))]) hx hb dM_put1_1 rfl hl (by decide) rfl (fun ls hl => ?_)
  refine lv_iload_n hx hb dM_put1_2 rfl (lv_at hl 0 rfl) ?_
  refine lv_aload_n hx hb dM_put1_3 rfl (lv_at hl 2 rfl) ?_
  refine va_calli (va_runV (C := "java/lang/String") (As := []) (rest := [.int 0]) ⟨hx, hb, hml, hown, htx⟩ (cJS_length_0 l hl9 D cT aK aV s.heap.size) ⟨callB_of 0 htx (xw_goodC kw_2_70) rfl rfl rfl (htx _ kw_1_6) (htx _ kw_5_238) ⟨by decide, by decide, by decide +kernel⟩ ⟨Nat.le_of_ble_eq_true rfl, Nat.le_of_ble_eq_true rfl⟩, (htx _ kw_2_68), (htx _ kw_2_69)⟩ ⟨xPre_blind, vk_recv hZ.2.2.2.2.2.2.2.2.2.1 (i := 10) (by decide) hS, (fun U hU hW => ⟨rfl, xPre_of hZ hS (xm_free0 hS hA) xm_Pnil xm_Dnil hK U hU hW⟩)⟩ rfl rfl hl.1 rfl (lv_room (Nat.le_of_ble_eq_true rfl)) dM_put1_4 ⟨(Nat.zero_le _), (Nat.zero_le _)⟩) hS (fun q _ h => xm_free0 hS hA q h) (xm_free0 hS hA) (fun r1 u9 t H1 locs ht hvm hr9 hB hz1 hk1 hS => ?_)
  replace hP := xm_keep hP hk1
  generalize H1 = H at hP hS ⊢
  rw [hr9]
  refine W.eq (g2 := F0 m 7 ls [.int 4, .int 0]) (by first | rfl | rw [xv1 (Nat.succ_ne_zero _)]) ?_
  refine lv_icmp_ge (tgt := 25) hx hb dM_put1_7 (by decide) (fun h => ((by revert h; decide : False)).elim) (fun _ => ?_)
  refine lv_aload_n hx hb dM_put1_10 rfl (lv_at hl 1 rfl) ?_
  refine lv_aload_n hx hb dM_put1_11 rfl (lv_at hl 2 rfl) ?_
  refine lv_iload_n hx hb dM_put1_12 rfl (lv_at hl 0 rfl) ?_
  refine va_calli (va_runV (C := "java/lang/String") (As := [.int 0]) (rest := [.ref aM]) ⟨hx, hb, hml, hown, htx⟩ (cJS_charAt_0 l hl9 D cT aK aV H.size) ⟨callB_of 1 htx (xw_goodC kw_2_80) rfl rfl rfl (htx _ kw_1_6) (htx _ kw_5_86) ⟨by decide, by decide, by decide +kernel⟩ ⟨Nat.le_of_ble_eq_true rfl, Nat.le_of_ble_eq_true rfl⟩, (htx _ kw_2_78), (htx _ kw_2_79)⟩ ⟨xPre_blind, vk_recv hZ.2.2.2.2.2.2.2.2.2.1 (i := 10) (by decide) hS, (fun U hU hW => ⟨rfl, xPre_of hZ hS (xm_free0 hS hA) xm_Pnil xm_Dnil hK U hU hW⟩)⟩ rfl rfl hl.1 rfl (lv_room (Nat.le_of_ble_eq_true rfl)) dM_put1_13 ⟨(Nat.zero_le _), (Nat.zero_le _)⟩) hS (fun q _ h => xm_free0 hS hA q h) (xm_free0 hS hA) (fun r2 u9 t H1 locs ht hvm hr9 hB hz1 hk1 hS => ?_)
  replace hP := xm_keep hP hk1
  generalize H1 = H at hP hS ⊢
  rw [hr9]
  refine W.eq (g2 := F0 m 16 ls [.int 110, .ref aM]) (by first | rfl | rw [xv1 (Nat.succ_ne_zero _)]) ?_
  obtain ⟨o3, hq4, hf⟩ := xbind hf
  by_cases hk5 : o3.1 = 0
  · rw [if_pos hk5] at hf
    obtain ⟨hm6, hf⟩ := xmoE hf
    have hFc := xm_free hD hS hA
    refine va_callv (va_runV (C := "ValueBenchModel") (As := [.int 110]) (rest := []) ⟨hx, hb, hml, hown, htx⟩ (gM_put0 l hl9 D cT aK aV H.size n aM ad rd gd vad st (110 : Int32) o3 hq4 hk5) ⟨callB_of 1 htx (xw_goodC kw_6_136) rfl rfl rfl (htx _ kw_1_5) (htx _ kw_6_133) ⟨by decide, by decide, by decide +kernel⟩ ⟨Nat.le_of_ble_eq_true rfl, Nat.le_of_ble_eq_true rfl⟩, (htx _ kw_6_135), (htx _ kp_M_put0)⟩ ⟨xPre_blind, va_recv hK hP (ci := 5) rfl (q0 := 0) rfl, (fun U hU hW => ⟨rfl, xPre_of hZ hS hFc hP hD hK U hU hW⟩)⟩ rfl rfl hl.1 rfl (xm_room (Nat.le_of_ble_eq_true rfl)) dM_put1_16 ⟨hm6.1, hm6.2⟩) hS (fun q _ h => hFc q h) hFc (fun u9 t H1 locs ht hvm hr9 hB hz1 hk1 hS => ?_)
    obtain ⟨hP1, hK1, hD1⟩ := hB
    rw [ht] at hP1
    obtain ⟨ad8, gd9, vad10⟩ := u9
    obtain ⟨hv11, hn12⟩ := hr9
    have hP : va_P D xcl (xMw cT aM ad8 rd gd9 vad10 o3.2.2.2 []) H1 := hP1
    have hD : va_D A (xMw cT aM ad8 rd gd9 vad10 o3.2.2.2 []) := hD1.weaken (fun k q _ h => hFc q.1 h)
    generalize H1 = H at hP hS ⊢
    have hE9 : ∀ p, p < xct st → vad10 p = vad p := fun p h => (hv11 p (Nat.lt_of_lt_of_le h hN)).trans (hE p h)
    have hE := hE9
    have hN : xct st ≤ xct o3.2.2.2 := Nat.le_trans hN hn12
    refine W.eq (g2 := F0 m 19 ls []) (by first | rfl | (skip; rfl)) ?_
    refine lv_iinc (v := 1) (lv' := [(2, .int 1), (0, .ref aM), (1, .ref (aK 10))]) hx hb dM_put1_19 hl (k := 0) rfl rfl (by decide) rfl (fun ls hl => ?_)
    refine lv_goto (tgt := 2) hx hb dM_put1_22 (by decide) ?_
    refine lv_iload_n hx hb dM_put1_2 rfl (lv_at hl 0 rfl) ?_
    refine lv_aload_n hx hb dM_put1_3 rfl (lv_at hl 2 rfl) ?_
    refine va_calli (va_runV (C := "java/lang/String") (As := []) (rest := [.int 1]) ⟨hx, hb, hml, hown, htx⟩ (cJS_length_0 l hl9 D cT aK aV H.size) ⟨callB_of 0 htx (xw_goodC kw_2_70) rfl rfl rfl (htx _ kw_1_6) (htx _ kw_5_238) ⟨by decide, by decide, by decide +kernel⟩ ⟨Nat.le_of_ble_eq_true rfl, Nat.le_of_ble_eq_true rfl⟩, (htx _ kw_2_68), (htx _ kw_2_69)⟩ ⟨xPre_blind, vk_recv hZ.2.2.2.2.2.2.2.2.2.1 (i := 10) (by decide) hS, (fun U hU hW => ⟨rfl, xPre_of hZ hS (xm_free0 hS hA) xm_Pnil xm_Dnil hK U hU hW⟩)⟩ rfl rfl hl.1 rfl (lv_room (Nat.le_of_ble_eq_true rfl)) dM_put1_4 ⟨(hm6.1), (hm6.2)⟩) hS (fun q _ h => xm_free0 hS hA q h) (xm_free0 hS hA) (fun r13 u9 t H1 locs ht hvm hr9 hB hz1 hk1 hS => ?_)
    replace hP := xm_keep hP hk1
    generalize H1 = H at hP hS ⊢
    rw [hr9]
    refine W.eq (g2 := F0 m 7 ls [.int 4, .int 1]) (by first | rfl | rw [xv1 (Nat.succ_ne_zero _)]) ?_
    refine lv_icmp_ge (tgt := 25) hx hb dM_put1_7 (by decide) (fun h => ((by revert h; decide : False)).elim) (fun _ => ?_)
    refine lv_aload_n hx hb dM_put1_10 rfl (lv_at hl 1 rfl) ?_
    refine lv_aload_n hx hb dM_put1_11 rfl (lv_at hl 2 rfl) ?_
    refine lv_iload_n hx hb dM_put1_12 rfl (lv_at hl 0 rfl) ?_
    refine va_calli (va_runV (C := "java/lang/String") (As := [.int 1]) (rest := [.ref aM]) ⟨hx, hb, hml, hown, htx⟩ (cJS_charAt_1 l hl9 D cT aK aV H.size) ⟨callB_of 1 htx (xw_goodC kw_2_80) rfl rfl rfl (htx _ kw_1_6) (htx _ kw_5_86) ⟨by decide, by decide, by decide +kernel⟩ ⟨Nat.le_of_ble_eq_true rfl, Nat.le_of_ble_eq_true rfl⟩, (htx _ kw_2_78), (htx _ kw_2_79)⟩ ⟨xPre_blind, vk_recv hZ.2.2.2.2.2.2.2.2.2.1 (i := 10) (by decide) hS, (fun U hU hW => ⟨rfl, xPre_of hZ hS (xm_free0 hS hA) xm_Pnil xm_Dnil hK U hU hW⟩)⟩ rfl rfl hl.1 rfl (lv_room (Nat.le_of_ble_eq_true rfl)) dM_put1_13 ⟨(hm6.1), (hm6.2)⟩) hS (fun q _ h => xm_free0 hS hA q h) (xm_free0 hS hA) (fun r14 u9 t H1 locs ht hvm hr9 hB hz1 hk1 hS => ?_)
    replace hP := xm_keep hP hk1
    generalize H1 = H at hP hS ⊢
    rw [hr9]
    refine W.eq (g2 := F0 m 16 ls [.int 117, .ref aM]) (by first | rfl | rw [xv1 (Nat.succ_ne_zero _)]) ?_
    obtain ⟨o15, hq16, hf⟩ := xbind hf
    by_cases hk17 : o15.1 = 0
    · rw [if_pos hk17] at hf
      obtain ⟨hm18, hf⟩ := xmoE hf
      have hFc := xm_free hD hS hA
      refine va_callv (va_runV (C := "ValueBenchModel") (As := [.int 117]) (rest := []) ⟨hx, hb, hml, hown, htx⟩ (gM_put0 l hl9 D cT aK aV H.size n aM ad8 rd gd9 vad10 o3.2.2.2 (117 : Int32) o15 hq16 hk17) ⟨callB_of 1 htx (xw_goodC kw_6_136) rfl rfl rfl (htx _ kw_1_5) (htx _ kw_6_133) ⟨by decide, by decide, by decide +kernel⟩ ⟨Nat.le_of_ble_eq_true rfl, Nat.le_of_ble_eq_true rfl⟩, (htx _ kw_6_135), (htx _ kp_M_put0)⟩ ⟨xPre_blind, va_recv hK hP (ci := 5) rfl (q0 := 0) rfl, (fun U hU hW => ⟨rfl, xPre_of hZ hS hFc hP hD hK U hU hW⟩)⟩ rfl rfl hl.1 rfl (xm_room (Nat.le_of_ble_eq_true rfl)) dM_put1_16 ⟨hm18.1, hm18.2⟩) hS (fun q _ h => hFc q h) hFc (fun u9 t H1 locs ht hvm hr9 hB hz1 hk1 hS => ?_)
      obtain ⟨hP1, hK1, hD1⟩ := hB
      rw [ht] at hP1
      obtain ⟨ad20, gd21, vad22⟩ := u9
      obtain ⟨hv23, hn24⟩ := hr9
      have hP : va_P D xcl (xMw cT aM ad20 rd gd21 vad22 o15.2.2.2 []) H1 := hP1
      have hD : va_D A (xMw cT aM ad20 rd gd21 vad22 o15.2.2.2 []) := hD1.weaken (fun k q _ h => hFc q.1 h)
      generalize H1 = H at hP hS ⊢
      have hE9 : ∀ p, p < xct st → vad22 p = vad p := fun p h => (hv23 p (Nat.lt_of_lt_of_le h hN)).trans (hE p h)
      have hE := hE9
      have hN : xct st ≤ xct o15.2.2.2 := Nat.le_trans hN hn24
      refine W.eq (g2 := F0 m 19 ls []) (by first | rfl | (skip; rfl)) ?_
      refine lv_iinc (v := 2) (lv' := [(2, .int 2), (0, .ref aM), (1, .ref (aK 10))]) hx hb dM_put1_19 hl (k := 0) rfl rfl (by decide) rfl (fun ls hl => ?_)
      refine lv_goto (tgt := 2) hx hb dM_put1_22 (by decide) ?_
      refine lv_iload_n hx hb dM_put1_2 rfl (lv_at hl 0 rfl) ?_
      refine lv_aload_n hx hb dM_put1_3 rfl (lv_at hl 2 rfl) ?_
      refine va_calli (va_runV (C := "java/lang/String") (As := []) (rest := [.int 2]) ⟨hx, hb, hml, hown, htx⟩ (cJS_length_0 l hl9 D cT aK aV H.size) ⟨callB_of 0 htx (xw_goodC kw_2_70) rfl rfl rfl (htx _ kw_1_6) (htx _ kw_5_238) ⟨by decide, by decide, by decide +kernel⟩ ⟨Nat.le_of_ble_eq_true rfl, Nat.le_of_ble_eq_true rfl⟩, (htx _ kw_2_68), (htx _ kw_2_69)⟩ ⟨xPre_blind, vk_recv hZ.2.2.2.2.2.2.2.2.2.1 (i := 10) (by decide) hS, (fun U hU hW => ⟨rfl, xPre_of hZ hS (xm_free0 hS hA) xm_Pnil xm_Dnil hK U hU hW⟩)⟩ rfl rfl hl.1 rfl (lv_room (Nat.le_of_ble_eq_true rfl)) dM_put1_4 ⟨(hm18.1), (hm18.2)⟩) hS (fun q _ h => xm_free0 hS hA q h) (xm_free0 hS hA) (fun r25 u9 t H1 locs ht hvm hr9 hB hz1 hk1 hS => ?_)
      replace hP := xm_keep hP hk1
      generalize H1 = H at hP hS ⊢
      rw [hr9]
      refine W.eq (g2 := F0 m 7 ls [.int 4, .int 2]) (by first | rfl | rw [xv1 (Nat.succ_ne_zero _)]) ?_
      refine lv_icmp_ge (tgt := 25) hx hb dM_put1_7 (by decide) (fun h => ((by revert h; decide : False)).elim) (fun _ => ?_)
      refine lv_aload_n hx hb dM_put1_10 rfl (lv_at hl 1 rfl) ?_
      refine lv_aload_n hx hb dM_put1_11 rfl (lv_at hl 2 rfl) ?_
      refine lv_iload_n hx hb dM_put1_12 rfl (lv_at hl 0 rfl) ?_
      refine va_calli (va_runV (C := "java/lang/String") (As := [.int 2]) (rest := [.ref aM]) ⟨hx, hb, hml, hown, htx⟩ (cJS_charAt_2 l hl9 D cT aK aV H.size) ⟨callB_of 1 htx (xw_goodC kw_2_80) rfl rfl rfl (htx _ kw_1_6) (htx _ kw_5_86) ⟨by decide, by decide, by decide +kernel⟩ ⟨Nat.le_of_ble_eq_true rfl, Nat.le_of_ble_eq_true rfl⟩, (htx _ kw_2_78), (htx _ kw_2_79)⟩ ⟨xPre_blind, vk_recv hZ.2.2.2.2.2.2.2.2.2.1 (i := 10) (by decide) hS, (fun U hU hW => ⟨rfl, xPre_of hZ hS (xm_free0 hS hA) xm_Pnil xm_Dnil hK U hU hW⟩)⟩ rfl rfl hl.1 rfl (lv_room (Nat.le_of_ble_eq_true rfl)) dM_put1_13 ⟨(hm18.1), (hm18.2)⟩) hS (fun q _ h => xm_free0 hS hA q h) (xm_free0 hS hA) (fun r26 u9 t H1 locs ht hvm hr9 hB hz1 hk1 hS => ?_)
      replace hP := xm_keep hP hk1
      generalize H1 = H at hP hS ⊢
      rw [hr9]
      refine W.eq (g2 := F0 m 16 ls [.int 108, .ref aM]) (by first | rfl | rw [xv1 (Nat.succ_ne_zero _)]) ?_
      obtain ⟨o27, hq28, hf⟩ := xbind hf
      by_cases hk29 : o27.1 = 0
      · rw [if_pos hk29] at hf
        obtain ⟨hm30, hf⟩ := xmoE hf
        have hFc := xm_free hD hS hA
        refine va_callv (va_runV (C := "ValueBenchModel") (As := [.int 108]) (rest := []) ⟨hx, hb, hml, hown, htx⟩ (gM_put0 l hl9 D cT aK aV H.size n aM ad20 rd gd21 vad22 o15.2.2.2 (108 : Int32) o27 hq28 hk29) ⟨callB_of 1 htx (xw_goodC kw_6_136) rfl rfl rfl (htx _ kw_1_5) (htx _ kw_6_133) ⟨by decide, by decide, by decide +kernel⟩ ⟨Nat.le_of_ble_eq_true rfl, Nat.le_of_ble_eq_true rfl⟩, (htx _ kw_6_135), (htx _ kp_M_put0)⟩ ⟨xPre_blind, va_recv hK hP (ci := 5) rfl (q0 := 0) rfl, (fun U hU hW => ⟨rfl, xPre_of hZ hS hFc hP hD hK U hU hW⟩)⟩ rfl rfl hl.1 rfl (xm_room (Nat.le_of_ble_eq_true rfl)) dM_put1_16 ⟨hm30.1, hm30.2⟩) hS (fun q _ h => hFc q h) hFc (fun u9 t H1 locs ht hvm hr9 hB hz1 hk1 hS => ?_)
        obtain ⟨hP1, hK1, hD1⟩ := hB
        rw [ht] at hP1
        obtain ⟨ad32, gd33, vad34⟩ := u9
        obtain ⟨hv35, hn36⟩ := hr9
        have hP : va_P D xcl (xMw cT aM ad32 rd gd33 vad34 o27.2.2.2 []) H1 := hP1
        have hD : va_D A (xMw cT aM ad32 rd gd33 vad34 o27.2.2.2 []) := hD1.weaken (fun k q _ h => hFc q.1 h)
        generalize H1 = H at hP hS ⊢
        have hE9 : ∀ p, p < xct st → vad34 p = vad p := fun p h => (hv35 p (Nat.lt_of_lt_of_le h hN)).trans (hE p h)
        have hE := hE9
        have hN : xct st ≤ xct o27.2.2.2 := Nat.le_trans hN hn36
        refine W.eq (g2 := F0 m 19 ls []) (by first | rfl | (skip; rfl)) ?_
        refine lv_iinc (v := 3) (lv' := [(2, .int 3), (0, .ref aM), (1, .ref (aK 10))]) hx hb dM_put1_19 hl (k := 0) rfl rfl (by decide) rfl (fun ls hl => ?_)
        refine lv_goto (tgt := 2) hx hb dM_put1_22 (by decide) ?_
        refine lv_iload_n hx hb dM_put1_2 rfl (lv_at hl 0 rfl) ?_
        refine lv_aload_n hx hb dM_put1_3 rfl (lv_at hl 2 rfl) ?_
        refine va_calli (va_runV (C := "java/lang/String") (As := []) (rest := [.int 3]) ⟨hx, hb, hml, hown, htx⟩ (cJS_length_0 l hl9 D cT aK aV H.size) ⟨callB_of 0 htx (xw_goodC kw_2_70) rfl rfl rfl (htx _ kw_1_6) (htx _ kw_5_238) ⟨by decide, by decide, by decide +kernel⟩ ⟨Nat.le_of_ble_eq_true rfl, Nat.le_of_ble_eq_true rfl⟩, (htx _ kw_2_68), (htx _ kw_2_69)⟩ ⟨xPre_blind, vk_recv hZ.2.2.2.2.2.2.2.2.2.1 (i := 10) (by decide) hS, (fun U hU hW => ⟨rfl, xPre_of hZ hS (xm_free0 hS hA) xm_Pnil xm_Dnil hK U hU hW⟩)⟩ rfl rfl hl.1 rfl (lv_room (Nat.le_of_ble_eq_true rfl)) dM_put1_4 ⟨(hm30.1), (hm30.2)⟩) hS (fun q _ h => xm_free0 hS hA q h) (xm_free0 hS hA) (fun r37 u9 t H1 locs ht hvm hr9 hB hz1 hk1 hS => ?_)
        replace hP := xm_keep hP hk1
        generalize H1 = H at hP hS ⊢
        rw [hr9]
        refine W.eq (g2 := F0 m 7 ls [.int 4, .int 3]) (by first | rfl | rw [xv1 (Nat.succ_ne_zero _)]) ?_
        refine lv_icmp_ge (tgt := 25) hx hb dM_put1_7 (by decide) (fun h => ((by revert h; decide : False)).elim) (fun _ => ?_)
        refine lv_aload_n hx hb dM_put1_10 rfl (lv_at hl 1 rfl) ?_
        refine lv_aload_n hx hb dM_put1_11 rfl (lv_at hl 2 rfl) ?_
        refine lv_iload_n hx hb dM_put1_12 rfl (lv_at hl 0 rfl) ?_
        refine va_calli (va_runV (C := "java/lang/String") (As := [.int 3]) (rest := [.ref aM]) ⟨hx, hb, hml, hown, htx⟩ (cJS_charAt_3 l hl9 D cT aK aV H.size) ⟨callB_of 1 htx (xw_goodC kw_2_80) rfl rfl rfl (htx _ kw_1_6) (htx _ kw_5_86) ⟨by decide, by decide, by decide +kernel⟩ ⟨Nat.le_of_ble_eq_true rfl, Nat.le_of_ble_eq_true rfl⟩, (htx _ kw_2_78), (htx _ kw_2_79)⟩ ⟨xPre_blind, vk_recv hZ.2.2.2.2.2.2.2.2.2.1 (i := 10) (by decide) hS, (fun U hU hW => ⟨rfl, xPre_of hZ hS (xm_free0 hS hA) xm_Pnil xm_Dnil hK U hU hW⟩)⟩ rfl rfl hl.1 rfl (lv_room (Nat.le_of_ble_eq_true rfl)) dM_put1_13 ⟨(hm30.1), (hm30.2)⟩) hS (fun q _ h => xm_free0 hS hA q h) (xm_free0 hS hA) (fun r38 u9 t H1 locs ht hvm hr9 hB hz1 hk1 hS => ?_)
        replace hP := xm_keep hP hk1
        generalize H1 = H at hP hS ⊢
        rw [hr9]
        refine W.eq (g2 := F0 m 16 ls [.int 108, .ref aM]) (by first | rfl | rw [xv1 (Nat.succ_ne_zero _)]) ?_
        obtain ⟨o39, hq40, hf⟩ := xbind hf
        by_cases hk41 : o39.1 = 0
        · rw [if_pos hk41] at hf
          obtain ⟨hm42, hf⟩ := xmoE hf
          have hFc := xm_free hD hS hA
          refine va_callv (va_runV (C := "ValueBenchModel") (As := [.int 108]) (rest := []) ⟨hx, hb, hml, hown, htx⟩ (gM_put0 l hl9 D cT aK aV H.size n aM ad32 rd gd33 vad34 o27.2.2.2 (108 : Int32) o39 hq40 hk41) ⟨callB_of 1 htx (xw_goodC kw_6_136) rfl rfl rfl (htx _ kw_1_5) (htx _ kw_6_133) ⟨by decide, by decide, by decide +kernel⟩ ⟨Nat.le_of_ble_eq_true rfl, Nat.le_of_ble_eq_true rfl⟩, (htx _ kw_6_135), (htx _ kp_M_put0)⟩ ⟨xPre_blind, va_recv hK hP (ci := 5) rfl (q0 := 0) rfl, (fun U hU hW => ⟨rfl, xPre_of hZ hS hFc hP hD hK U hU hW⟩)⟩ rfl rfl hl.1 rfl (xm_room (Nat.le_of_ble_eq_true rfl)) dM_put1_16 ⟨hm42.1, hm42.2⟩) hS (fun q _ h => hFc q h) hFc (fun u9 t H1 locs ht hvm hr9 hB hz1 hk1 hS => ?_)
          obtain ⟨hP1, hK1, hD1⟩ := hB
          rw [ht] at hP1
          obtain ⟨ad44, gd45, vad46⟩ := u9
          obtain ⟨hv47, hn48⟩ := hr9
          have hP : va_P D xcl (xMw cT aM ad44 rd gd45 vad46 o39.2.2.2 []) H1 := hP1
          have hD : va_D A (xMw cT aM ad44 rd gd45 vad46 o39.2.2.2 []) := hD1.weaken (fun k q _ h => hFc q.1 h)
          generalize H1 = H at hP hS ⊢
          have hE9 : ∀ p, p < xct st → vad46 p = vad p := fun p h => (hv47 p (Nat.lt_of_lt_of_le h hN)).trans (hE p h)
          have hE := hE9
          have hN : xct st ≤ xct o39.2.2.2 := Nat.le_trans hN hn48
          refine W.eq (g2 := F0 m 19 ls []) (by first | rfl | (skip; rfl)) ?_
          refine lv_iinc (v := 4) (lv' := [(2, .int 4), (0, .ref aM), (1, .ref (aK 10))]) hx hb dM_put1_19 hl (k := 0) rfl rfl (by decide) rfl (fun ls hl => ?_)
          refine lv_goto (tgt := 2) hx hb dM_put1_22 (by decide) ?_
          refine lv_iload_n hx hb dM_put1_2 rfl (lv_at hl 0 rfl) ?_
          refine lv_aload_n hx hb dM_put1_3 rfl (lv_at hl 2 rfl) ?_
          refine va_calli (va_runV (C := "java/lang/String") (As := []) (rest := [.int 4]) ⟨hx, hb, hml, hown, htx⟩ (cJS_length_0 l hl9 D cT aK aV H.size) ⟨callB_of 0 htx (xw_goodC kw_2_70) rfl rfl rfl (htx _ kw_1_6) (htx _ kw_5_238) ⟨by decide, by decide, by decide +kernel⟩ ⟨Nat.le_of_ble_eq_true rfl, Nat.le_of_ble_eq_true rfl⟩, (htx _ kw_2_68), (htx _ kw_2_69)⟩ ⟨xPre_blind, vk_recv hZ.2.2.2.2.2.2.2.2.2.1 (i := 10) (by decide) hS, (fun U hU hW => ⟨rfl, xPre_of hZ hS (xm_free0 hS hA) xm_Pnil xm_Dnil hK U hU hW⟩)⟩ rfl rfl hl.1 rfl (lv_room (Nat.le_of_ble_eq_true rfl)) dM_put1_4 ⟨(hm42.1), (hm42.2)⟩) hS (fun q _ h => xm_free0 hS hA q h) (xm_free0 hS hA) (fun r49 u9 t H1 locs ht hvm hr9 hB hz1 hk1 hS => ?_)
          replace hP := xm_keep hP hk1
          generalize H1 = H at hP hS ⊢
          rw [hr9]
          refine W.eq (g2 := F0 m 7 ls [.int 4, .int 4]) (by first | rfl | rw [xv1 (Nat.succ_ne_zero _)]) ?_
          refine lv_icmp_ge (tgt := 25) hx hb dM_put1_7 (by decide) (fun _ => ?_) (fun h => ((by revert h; decide : False)).elim)
          obtain rfl := Option.some.inj hf
          exact W.vret hx hb hr (fun t ht hW => ⟨⟨(ad44, gd45, vad46), rfl, ⟨hE, hN⟩, by rw [ht]; exact hP, va_K.moved hW.alike hK, hD⟩, hS.F ht⟩) hS.2.2 dM_put1_25
        rw [if_neg hk41] at hf
        by_cases hk50 : o39.1 = 1
        · rw [if_pos hk50] at hf
          obtain ⟨hm51, hf⟩ := xmoE hf
          obtain rfl := Option.some.inj hf
          exact absurd (show (1 : Nat) = 0 from hkd) (by decide)
        rw [if_neg hk50] at hf
        exact nomatch hf
      rw [if_neg hk29] at hf
      by_cases hk58 : o27.1 = 1
      · rw [if_pos hk58] at hf
        obtain ⟨hm59, hf⟩ := xmoE hf
        obtain rfl := Option.some.inj hf
        exact absurd (show (1 : Nat) = 0 from hkd) (by decide)
      rw [if_neg hk58] at hf
      exact nomatch hf
    rw [if_neg hk17] at hf
    by_cases hk66 : o15.1 = 1
    · rw [if_pos hk66] at hf
      obtain ⟨hm67, hf⟩ := xmoE hf
      obtain rfl := Option.some.inj hf
      exact absurd (show (1 : Nat) = 0 from hkd) (by decide)
    rw [if_neg hk66] at hf
    exact nomatch hf
  rw [if_neg hk5] at hf
  by_cases hk74 : o3.1 = 1
  · rw [if_pos hk74] at hf
    obtain ⟨hm75, hf⟩ := xmoE hf
    obtain rfl := Option.some.inj hf
    exact absurd (show (1 : Nat) = 0 from hkd) (by decide)
  rw [if_neg hk74] at hf
  exact nomatch hf
set_option maxHeartbeats 400000000 in
set_option maxRecDepth 100000 in
theorem gM_put1_1 (l : Launch) (hl9 : l.stackTraces = false) (D : va_G) (cT : Nat → ClassId) (aK aV : Nat → Nat) (sz n : Nat) (aM : Nat) (ad rd gd vad : Nat → Nat) (st : xS) (out : Nat × Nat × Nat × xS) (hf : fM_put1 n st = some out) (hkd : out.1 = 1) : xMetY l yM_put1 wyM_put1 7 out.2.1 out.2.2.1 123 D cT aK aV sz [.ref aM, .ref (aK 10)] (xMw cT aM ad rd gd vad st []) "java/lang/IndexOutOfBoundsException" (fun u => xE vad st out.2.2.2 u) (fun A u t => xB D xcl cT A (xMw cT aM u.1 rd u.2.1 u.2.2 out.2.2.2 []) t) := by
  refine vx_ofW (cc := prog_13_method_42_code) (maxL := 3) (ret := none) (by decide) rfl ?_
  intro p e s m args below meth c s₁ B hml hne hv
  obtain ⟨rfl, hsz, hZ, hP, hK, hD0⟩ := hv
  have hx := B.exec
  have hb := B.bytes
  have hr := B.returns
  have hts := atoms_spec (ws := wyM_put1) B.pre
  have htx := fun w h => hts w (List.mem_cons_of_mem _ h)
  have hown : s.vm.findClass "ValueBenchModel" = some m.cls := findClass_of_methodNamed B.named
  have hlocks := B.notSynchronized
  subst hsz
  have hD := hD0.self (sz := s.heap.size)
  generalize hAe : va_A (xMw cT aM ad rd gd vad st []) s.heap.size = A at hD hZ ⊢
  have hA : ∀ q : Nat, s.heap.size ≤ q → A q := fun q h => by rw [← hAe]; exact Or.inr h
  have hS : va_S A s.heap s.heap [] := va_S.rf
  have hl := lv_entry ([.ref aM, .ref (aK 10)]) (n := 3) (by simp [lg_sl, xvcat, xrscat, xcI, xcL, xcR, xcN])
  rw [show lv_args 0 [.ref aM, .ref (aK 10)] = [(0, .ref aM), (1, .ref (aK 10))] from by simp [lv_args, xvcat, xrscat, xcI, xcL, xcR, xcN]] at hl
  rw [lg_entry_eq]
  generalize (lg_sl ([.ref aM, .ref (aK 10)]) ++ List.replicate (3 - (lg_sl ([.ref aM, .ref (aK 10)])).length) Slot.unset).toArray = ls at hl ⊢
  have hl : lv_has ls 3 [(0, .ref aM), (1, .ref (aK 10))] := hl
  have hE : ∀ p, p < xct st → vad p = vad p := fun _ _ => rfl
  have hN : xct st ≤ xct st := Nat.le_refl _
  unfold fM_put1 at hf
  refine lv_iconst (v := 0) hx hb dM_put1_0 (by decide) ?_
  refine lv_istore_n (lv' := [(2, .int 0), (0, .ref aM), (1, .ref (aK 10))]) hx hb dM_put1_1 rfl hl (by decide) rfl (fun ls hl => ?_)
  refine lv_iload_n hx hb dM_put1_2 rfl (lv_at hl 0 rfl) ?_
  refine lv_aload_n hx hb dM_put1_3 rfl (lv_at hl 2 rfl) ?_
  refine va_calli (va_runV (C := "java/lang/String") (As := []) (rest := [.int 0]) ⟨hx, hb, hml, hown, htx⟩ (cJS_length_0 l hl9 D cT aK aV s.heap.size) ⟨callB_of 0 htx (xw_goodC kw_2_70) rfl rfl rfl (htx _ kw_1_6) (htx _ kw_5_238) ⟨by decide, by decide, by decide +kernel⟩ ⟨Nat.le_of_ble_eq_true rfl, Nat.le_of_ble_eq_true rfl⟩, (htx _ kw_2_68), (htx _ kw_2_69)⟩ ⟨xPre_blind, vk_recv hZ.2.2.2.2.2.2.2.2.2.1 (i := 10) (by decide) hS, (fun U hU hW => ⟨rfl, xPre_of hZ hS (xm_free0 hS hA) xm_Pnil xm_Dnil hK U hU hW⟩)⟩ rfl rfl hl.1 rfl (lv_room (Nat.le_of_ble_eq_true rfl)) dM_put1_4 ⟨(Nat.zero_le _), (Nat.zero_le _)⟩) hS (fun q _ h => xm_free0 hS hA q h) (xm_free0 hS hA) (fun r1 u9 t H1 locs ht hvm hr9 hB hz1 hk1 hS => ?_)
  replace hP := xm_keep hP hk1
  generalize H1 = H at hP hS ⊢
  rw [hr9]
  refine W.eq (g2 := F0 m 7 ls [.int 4, .int 0]) (by first | rfl | rw [xv1 (Nat.succ_ne_zero _)]) ?_
  refine lv_icmp_ge (tgt := 25) hx hb dM_put1_7 (by decide) (fun h => ((by revert h; decide : False)).elim) (fun _ => ?_)
  refine lv_aload_n hx hb dM_put1_10 rfl (lv_at hl 1 rfl) ?_
  refine lv_aload_n hx hb dM_put1_11 rfl (lv_at hl 2 rfl) ?_
  refine lv_iload_n hx hb dM_put1_12 rfl (lv_at hl 0 rfl) ?_
  refine va_calli (va_runV (C := "java/lang/String") (As := [.int 0]) (rest := [.ref aM]) ⟨hx, hb, hml, hown, htx⟩ (cJS_charAt_0 l hl9 D cT aK aV H.size) ⟨callB_of 1 htx (xw_goodC kw_2_80) rfl rfl rfl (htx _ kw_1_6) (htx _ kw_5_86) ⟨by decide, by decide, by decide +kernel⟩ ⟨Nat.le_of_ble_eq_true rfl, Nat.le_of_ble_eq_true rfl⟩, (htx _ kw_2_78), (htx _ kw_2_79)⟩ ⟨xPre_blind, vk_recv hZ.2.2.2.2.2.2.2.2.2.1 (i := 10) (by decide) hS, (fun U hU hW => ⟨rfl, xPre_of hZ hS (xm_free0 hS hA) xm_Pnil xm_Dnil hK U hU hW⟩)⟩ rfl rfl hl.1 rfl (lv_room (Nat.le_of_ble_eq_true rfl)) dM_put1_13 ⟨(Nat.zero_le _), (Nat.zero_le _)⟩) hS (fun q _ h => xm_free0 hS hA q h) (xm_free0 hS hA) (fun r2 u9 t H1 locs ht hvm hr9 hB hz1 hk1 hS => ?_)
  replace hP := xm_keep hP hk1
  generalize H1 = H at hP hS ⊢
  rw [hr9]
  refine W.eq (g2 := F0 m 16 ls [.int 110, .ref aM]) (by first | rfl | rw [xv1 (Nat.succ_ne_zero _)]) ?_
  obtain ⟨o3, hq4, hf⟩ := xbind hf
  by_cases hk5 : o3.1 = 0
  · rw [if_pos hk5] at hf
    obtain ⟨hm6, hf⟩ := xmoE hf
    have hFc := xm_free hD hS hA
    refine va_callv (va_runV (C := "ValueBenchModel") (As := [.int 110]) (rest := []) ⟨hx, hb, hml, hown, htx⟩ (gM_put0 l hl9 D cT aK aV H.size n aM ad rd gd vad st (110 : Int32) o3 hq4 hk5) ⟨callB_of 1 htx (xw_goodC kw_6_136) rfl rfl rfl (htx _ kw_1_5) (htx _ kw_6_133) ⟨by decide, by decide, by decide +kernel⟩ ⟨Nat.le_of_ble_eq_true rfl, Nat.le_of_ble_eq_true rfl⟩, (htx _ kw_6_135), (htx _ kp_M_put0)⟩ ⟨xPre_blind, va_recv hK hP (ci := 5) rfl (q0 := 0) rfl, (fun U hU hW => ⟨rfl, xPre_of hZ hS hFc hP hD hK U hU hW⟩)⟩ rfl rfl hl.1 rfl (xm_room (Nat.le_of_ble_eq_true rfl)) dM_put1_16 ⟨hm6.1, hm6.2⟩) hS (fun q _ h => hFc q h) hFc (fun u9 t H1 locs ht hvm hr9 hB hz1 hk1 hS => ?_)
    obtain ⟨hP1, hK1, hD1⟩ := hB
    rw [ht] at hP1
    obtain ⟨ad8, gd9, vad10⟩ := u9
    obtain ⟨hv11, hn12⟩ := hr9
    have hP : va_P D xcl (xMw cT aM ad8 rd gd9 vad10 o3.2.2.2 []) H1 := hP1
    have hD : va_D A (xMw cT aM ad8 rd gd9 vad10 o3.2.2.2 []) := hD1.weaken (fun k q _ h => hFc q.1 h)
    generalize H1 = H at hP hS ⊢
    have hE9 : ∀ p, p < xct st → vad10 p = vad p := fun p h => (hv11 p (Nat.lt_of_lt_of_le h hN)).trans (hE p h)
    have hE := hE9
    have hN : xct st ≤ xct o3.2.2.2 := Nat.le_trans hN hn12
    refine W.eq (g2 := F0 m 19 ls []) (by first | rfl | (skip; rfl)) ?_
    refine lv_iinc (v := 1) (lv' := [(2, .int 1), (0, .ref aM), (1, .ref (aK 10))]) hx hb dM_put1_19 hl (k := 0) rfl rfl (by decide) rfl (fun ls hl => ?_)
    refine lv_goto (tgt := 2) hx hb dM_put1_22 (by decide) ?_
    refine lv_iload_n hx hb dM_put1_2 rfl (lv_at hl 0 rfl) ?_
    refine lv_aload_n hx hb dM_put1_3 rfl (lv_at hl 2 rfl) ?_
    refine va_calli (va_runV (C := "java/lang/String") (As := []) (rest := [.int 1]) ⟨hx, hb, hml, hown, htx⟩ (cJS_length_0 l hl9 D cT aK aV H.size) ⟨callB_of 0 htx (xw_goodC kw_2_70) rfl rfl rfl (htx _ kw_1_6) (htx _ kw_5_238) ⟨by decide, by decide, by decide +kernel⟩ ⟨Nat.le_of_ble_eq_true rfl, Nat.le_of_ble_eq_true rfl⟩, (htx _ kw_2_68), (htx _ kw_2_69)⟩ ⟨xPre_blind, vk_recv hZ.2.2.2.2.2.2.2.2.2.1 (i := 10) (by decide) hS, (fun U hU hW => ⟨rfl, xPre_of hZ hS (xm_free0 hS hA) xm_Pnil xm_Dnil hK U hU hW⟩)⟩ rfl rfl hl.1 rfl (lv_room (Nat.le_of_ble_eq_true rfl)) dM_put1_4 ⟨(hm6.1), (hm6.2)⟩) hS (fun q _ h => xm_free0 hS hA q h) (xm_free0 hS hA) (fun r13 u9 t H1 locs ht hvm hr9 hB hz1 hk1 hS => ?_)
    replace hP := xm_keep hP hk1
    generalize H1 = H at hP hS ⊢
    rw [hr9]
    refine W.eq (g2 := F0 m 7 ls [.int 4, .int 1]) (by first | rfl | rw [xv1 (Nat.succ_ne_zero _)]) ?_
    refine lv_icmp_ge (tgt := 25) hx hb dM_put1_7 (by decide) (fun h => ((by revert h; decide : False)).elim) (fun _ => ?_)
    refine lv_aload_n hx hb dM_put1_10 rfl (lv_at hl 1 rfl) ?_
    refine lv_aload_n hx hb dM_put1_11 rfl (lv_at hl 2 rfl) ?_
    refine lv_iload_n hx hb dM_put1_12 rfl (lv_at hl 0 rfl) ?_
    refine va_calli (va_runV (C := "java/lang/String") (As := [.int 1]) (rest := [.ref aM]) ⟨hx, hb, hml, hown, htx⟩ (cJS_charAt_1 l hl9 D cT aK aV H.size) ⟨callB_of 1 htx (xw_goodC kw_2_80) rfl rfl rfl (htx _ kw_1_6) (htx _ kw_5_86) ⟨by decide, by decide, by decide +kernel⟩ ⟨Nat.le_of_ble_eq_true rfl, Nat.le_of_ble_eq_true rfl⟩, (htx _ kw_2_78), (htx _ kw_2_79)⟩ ⟨xPre_blind, vk_recv hZ.2.2.2.2.2.2.2.2.2.1 (i := 10) (by decide) hS, (fun U hU hW => ⟨rfl, xPre_of hZ hS (xm_free0 hS hA) xm_Pnil xm_Dnil hK U hU hW⟩)⟩ rfl rfl hl.1 rfl (lv_room (Nat.le_of_ble_eq_true rfl)) dM_put1_13 ⟨(hm6.1), (hm6.2)⟩) hS (fun q _ h => xm_free0 hS hA q h) (xm_free0 hS hA) (fun r14 u9 t H1 locs ht hvm hr9 hB hz1 hk1 hS => ?_)
    replace hP := xm_keep hP hk1
    generalize H1 = H at hP hS ⊢
    rw [hr9]
    refine W.eq (g2 := F0 m 16 ls [.int 117, .ref aM]) (by first | rfl | rw [xv1 (Nat.succ_ne_zero _)]) ?_
    obtain ⟨o15, hq16, hf⟩ := xbind hf
    by_cases hk17 : o15.1 = 0
    · rw [if_pos hk17] at hf
      obtain ⟨hm18, hf⟩ := xmoE hf
      have hFc := xm_free hD hS hA
      refine va_callv (va_runV (C := "ValueBenchModel") (As := [.int 117]) (rest := []) ⟨hx, hb, hml, hown, htx⟩ (gM_put0 l hl9 D cT aK aV H.size n aM ad8 rd gd9 vad10 o3.2.2.2 (117 : Int32) o15 hq16 hk17) ⟨callB_of 1 htx (xw_goodC kw_6_136) rfl rfl rfl (htx _ kw_1_5) (htx _ kw_6_133) ⟨by decide, by decide, by decide +kernel⟩ ⟨Nat.le_of_ble_eq_true rfl, Nat.le_of_ble_eq_true rfl⟩, (htx _ kw_6_135), (htx _ kp_M_put0)⟩ ⟨xPre_blind, va_recv hK hP (ci := 5) rfl (q0 := 0) rfl, (fun U hU hW => ⟨rfl, xPre_of hZ hS hFc hP hD hK U hU hW⟩)⟩ rfl rfl hl.1 rfl (xm_room (Nat.le_of_ble_eq_true rfl)) dM_put1_16 ⟨hm18.1, hm18.2⟩) hS (fun q _ h => hFc q h) hFc (fun u9 t H1 locs ht hvm hr9 hB hz1 hk1 hS => ?_)
      obtain ⟨hP1, hK1, hD1⟩ := hB
      rw [ht] at hP1
      obtain ⟨ad20, gd21, vad22⟩ := u9
      obtain ⟨hv23, hn24⟩ := hr9
      have hP : va_P D xcl (xMw cT aM ad20 rd gd21 vad22 o15.2.2.2 []) H1 := hP1
      have hD : va_D A (xMw cT aM ad20 rd gd21 vad22 o15.2.2.2 []) := hD1.weaken (fun k q _ h => hFc q.1 h)
      generalize H1 = H at hP hS ⊢
      have hE9 : ∀ p, p < xct st → vad22 p = vad p := fun p h => (hv23 p (Nat.lt_of_lt_of_le h hN)).trans (hE p h)
      have hE := hE9
      have hN : xct st ≤ xct o15.2.2.2 := Nat.le_trans hN hn24
      refine W.eq (g2 := F0 m 19 ls []) (by first | rfl | (skip; rfl)) ?_
      refine lv_iinc (v := 2) (lv' := [(2, .int 2), (0, .ref aM), (1, .ref (aK 10))]) hx hb dM_put1_19 hl (k := 0) rfl rfl (by decide) rfl (fun ls hl => ?_)
      refine lv_goto (tgt := 2) hx hb dM_put1_22 (by decide) ?_
      refine lv_iload_n hx hb dM_put1_2 rfl (lv_at hl 0 rfl) ?_
      refine lv_aload_n hx hb dM_put1_3 rfl (lv_at hl 2 rfl) ?_
      refine va_calli (va_runV (C := "java/lang/String") (As := []) (rest := [.int 2]) ⟨hx, hb, hml, hown, htx⟩ (cJS_length_0 l hl9 D cT aK aV H.size) ⟨callB_of 0 htx (xw_goodC kw_2_70) rfl rfl rfl (htx _ kw_1_6) (htx _ kw_5_238) ⟨by decide, by decide, by decide +kernel⟩ ⟨Nat.le_of_ble_eq_true rfl, Nat.le_of_ble_eq_true rfl⟩, (htx _ kw_2_68), (htx _ kw_2_69)⟩ ⟨xPre_blind, vk_recv hZ.2.2.2.2.2.2.2.2.2.1 (i := 10) (by decide) hS, (fun U hU hW => ⟨rfl, xPre_of hZ hS (xm_free0 hS hA) xm_Pnil xm_Dnil hK U hU hW⟩)⟩ rfl rfl hl.1 rfl (lv_room (Nat.le_of_ble_eq_true rfl)) dM_put1_4 ⟨(hm18.1), (hm18.2)⟩) hS (fun q _ h => xm_free0 hS hA q h) (xm_free0 hS hA) (fun r25 u9 t H1 locs ht hvm hr9 hB hz1 hk1 hS => ?_)
      replace hP := xm_keep hP hk1
      generalize H1 = H at hP hS ⊢
      rw [hr9]
      refine W.eq (g2 := F0 m 7 ls [.int 4, .int 2]) (by first | rfl | rw [xv1 (Nat.succ_ne_zero _)]) ?_
      refine lv_icmp_ge (tgt := 25) hx hb dM_put1_7 (by decide) (fun h => ((by revert h; decide : False)).elim) (fun _ => ?_)
      refine lv_aload_n hx hb dM_put1_10 rfl (lv_at hl 1 rfl) ?_
      refine lv_aload_n hx hb dM_put1_11 rfl (lv_at hl 2 rfl) ?_
      refine lv_iload_n hx hb dM_put1_12 rfl (lv_at hl 0 rfl) ?_
      refine va_calli (va_runV (C := "java/lang/String") (As := [.int 2]) (rest := [.ref aM]) ⟨hx, hb, hml, hown, htx⟩ (cJS_charAt_2 l hl9 D cT aK aV H.size) ⟨callB_of 1 htx (xw_goodC kw_2_80) rfl rfl rfl (htx _ kw_1_6) (htx _ kw_5_86) ⟨by decide, by decide, by decide +kernel⟩ ⟨Nat.le_of_ble_eq_true rfl, Nat.le_of_ble_eq_true rfl⟩, (htx _ kw_2_78), (htx _ kw_2_79)⟩ ⟨xPre_blind, vk_recv hZ.2.2.2.2.2.2.2.2.2.1 (i := 10) (by decide) hS, (fun U hU hW => ⟨rfl, xPre_of hZ hS (xm_free0 hS hA) xm_Pnil xm_Dnil hK U hU hW⟩)⟩ rfl rfl hl.1 rfl (lv_room (Nat.le_of_ble_eq_true rfl)) dM_put1_13 ⟨(hm18.1), (hm18.2)⟩) hS (fun q _ h => xm_free0 hS hA q h) (xm_free0 hS hA) (fun r26 u9 t H1 locs ht hvm hr9 hB hz1 hk1 hS => ?_)
      replace hP := xm_keep hP hk1
      generalize H1 = H at hP hS ⊢
      rw [hr9]
      refine W.eq (g2 := F0 m 16 ls [.int 108, .ref aM]) (by first | rfl | rw [xv1 (Nat.succ_ne_zero _)]) ?_
      obtain ⟨o27, hq28, hf⟩ := xbind hf
      by_cases hk29 : o27.1 = 0
      · rw [if_pos hk29] at hf
        obtain ⟨hm30, hf⟩ := xmoE hf
        have hFc := xm_free hD hS hA
        refine va_callv (va_runV (C := "ValueBenchModel") (As := [.int 108]) (rest := []) ⟨hx, hb, hml, hown, htx⟩ (gM_put0 l hl9 D cT aK aV H.size n aM ad20 rd gd21 vad22 o15.2.2.2 (108 : Int32) o27 hq28 hk29) ⟨callB_of 1 htx (xw_goodC kw_6_136) rfl rfl rfl (htx _ kw_1_5) (htx _ kw_6_133) ⟨by decide, by decide, by decide +kernel⟩ ⟨Nat.le_of_ble_eq_true rfl, Nat.le_of_ble_eq_true rfl⟩, (htx _ kw_6_135), (htx _ kp_M_put0)⟩ ⟨xPre_blind, va_recv hK hP (ci := 5) rfl (q0 := 0) rfl, (fun U hU hW => ⟨rfl, xPre_of hZ hS hFc hP hD hK U hU hW⟩)⟩ rfl rfl hl.1 rfl (xm_room (Nat.le_of_ble_eq_true rfl)) dM_put1_16 ⟨hm30.1, hm30.2⟩) hS (fun q _ h => hFc q h) hFc (fun u9 t H1 locs ht hvm hr9 hB hz1 hk1 hS => ?_)
        obtain ⟨hP1, hK1, hD1⟩ := hB
        rw [ht] at hP1
        obtain ⟨ad32, gd33, vad34⟩ := u9
        obtain ⟨hv35, hn36⟩ := hr9
        have hP : va_P D xcl (xMw cT aM ad32 rd gd33 vad34 o27.2.2.2 []) H1 := hP1
        have hD : va_D A (xMw cT aM ad32 rd gd33 vad34 o27.2.2.2 []) := hD1.weaken (fun k q _ h => hFc q.1 h)
        generalize H1 = H at hP hS ⊢
        have hE9 : ∀ p, p < xct st → vad34 p = vad p := fun p h => (hv35 p (Nat.lt_of_lt_of_le h hN)).trans (hE p h)
        have hE := hE9
        have hN : xct st ≤ xct o27.2.2.2 := Nat.le_trans hN hn36
        refine W.eq (g2 := F0 m 19 ls []) (by first | rfl | (skip; rfl)) ?_
        refine lv_iinc (v := 3) (lv' := [(2, .int 3), (0, .ref aM), (1, .ref (aK 10))]) hx hb dM_put1_19 hl (k := 0) rfl rfl (by decide) rfl (fun ls hl => ?_)
        refine lv_goto (tgt := 2) hx hb dM_put1_22 (by decide) ?_
        refine lv_iload_n hx hb dM_put1_2 rfl (lv_at hl 0 rfl) ?_
        refine lv_aload_n hx hb dM_put1_3 rfl (lv_at hl 2 rfl) ?_
        refine va_calli (va_runV (C := "java/lang/String") (As := []) (rest := [.int 3]) ⟨hx, hb, hml, hown, htx⟩ (cJS_length_0 l hl9 D cT aK aV H.size) ⟨callB_of 0 htx (xw_goodC kw_2_70) rfl rfl rfl (htx _ kw_1_6) (htx _ kw_5_238) ⟨by decide, by decide, by decide +kernel⟩ ⟨Nat.le_of_ble_eq_true rfl, Nat.le_of_ble_eq_true rfl⟩, (htx _ kw_2_68), (htx _ kw_2_69)⟩ ⟨xPre_blind, vk_recv hZ.2.2.2.2.2.2.2.2.2.1 (i := 10) (by decide) hS, (fun U hU hW => ⟨rfl, xPre_of hZ hS (xm_free0 hS hA) xm_Pnil xm_Dnil hK U hU hW⟩)⟩ rfl rfl hl.1 rfl (lv_room (Nat.le_of_ble_eq_true rfl)) dM_put1_4 ⟨(hm30.1), (hm30.2)⟩) hS (fun q _ h => xm_free0 hS hA q h) (xm_free0 hS hA) (fun r37 u9 t H1 locs ht hvm hr9 hB hz1 hk1 hS => ?_)
        replace hP := xm_keep hP hk1
        generalize H1 = H at hP hS ⊢
        rw [hr9]
        refine W.eq (g2 := F0 m 7 ls [.int 4, .int 3]) (by first | rfl | rw [xv1 (Nat.succ_ne_zero _)]) ?_
        refine lv_icmp_ge (tgt := 25) hx hb dM_put1_7 (by decide) (fun h => ((by revert h; decide : False)).elim) (fun _ => ?_)
        refine lv_aload_n hx hb dM_put1_10 rfl (lv_at hl 1 rfl) ?_
        refine lv_aload_n hx hb dM_put1_11 rfl (lv_at hl 2 rfl) ?_
        refine lv_iload_n hx hb dM_put1_12 rfl (lv_at hl 0 rfl) ?_
        refine va_calli (va_runV (C := "java/lang/String") (As := [.int 3]) (rest := [.ref aM]) ⟨hx, hb, hml, hown, htx⟩ (cJS_charAt_3 l hl9 D cT aK aV H.size) ⟨callB_of 1 htx (xw_goodC kw_2_80) rfl rfl rfl (htx _ kw_1_6) (htx _ kw_5_86) ⟨by decide, by decide, by decide +kernel⟩ ⟨Nat.le_of_ble_eq_true rfl, Nat.le_of_ble_eq_true rfl⟩, (htx _ kw_2_78), (htx _ kw_2_79)⟩ ⟨xPre_blind, vk_recv hZ.2.2.2.2.2.2.2.2.2.1 (i := 10) (by decide) hS, (fun U hU hW => ⟨rfl, xPre_of hZ hS (xm_free0 hS hA) xm_Pnil xm_Dnil hK U hU hW⟩)⟩ rfl rfl hl.1 rfl (lv_room (Nat.le_of_ble_eq_true rfl)) dM_put1_13 ⟨(hm30.1), (hm30.2)⟩) hS (fun q _ h => xm_free0 hS hA q h) (xm_free0 hS hA) (fun r38 u9 t H1 locs ht hvm hr9 hB hz1 hk1 hS => ?_)
        replace hP := xm_keep hP hk1
        generalize H1 = H at hP hS ⊢
        rw [hr9]
        refine W.eq (g2 := F0 m 16 ls [.int 108, .ref aM]) (by first | rfl | rw [xv1 (Nat.succ_ne_zero _)]) ?_
        obtain ⟨o39, hq40, hf⟩ := xbind hf
        by_cases hk41 : o39.1 = 0
        · rw [if_pos hk41] at hf
          obtain ⟨hm42, hf⟩ := xmoE hf
          have hFc := xm_free hD hS hA
          refine va_callv (va_runV (C := "ValueBenchModel") (As := [.int 108]) (rest := []) ⟨hx, hb, hml, hown, htx⟩ (gM_put0 l hl9 D cT aK aV H.size n aM ad32 rd gd33 vad34 o27.2.2.2 (108 : Int32) o39 hq40 hk41) ⟨callB_of 1 htx (xw_goodC kw_6_136) rfl rfl rfl (htx _ kw_1_5) (htx _ kw_6_133) ⟨by decide, by decide, by decide +kernel⟩ ⟨Nat.le_of_ble_eq_true rfl, Nat.le_of_ble_eq_true rfl⟩, (htx _ kw_6_135), (htx _ kp_M_put0)⟩ ⟨xPre_blind, va_recv hK hP (ci := 5) rfl (q0 := 0) rfl, (fun U hU hW => ⟨rfl, xPre_of hZ hS hFc hP hD hK U hU hW⟩)⟩ rfl rfl hl.1 rfl (xm_room (Nat.le_of_ble_eq_true rfl)) dM_put1_16 ⟨hm42.1, hm42.2⟩) hS (fun q _ h => hFc q h) hFc (fun u9 t H1 locs ht hvm hr9 hB hz1 hk1 hS => ?_)
          obtain ⟨hP1, hK1, hD1⟩ := hB
          rw [ht] at hP1
          obtain ⟨ad44, gd45, vad46⟩ := u9
          obtain ⟨hv47, hn48⟩ := hr9
          have hP : va_P D xcl (xMw cT aM ad44 rd gd45 vad46 o39.2.2.2 []) H1 := hP1
          have hD : va_D A (xMw cT aM ad44 rd gd45 vad46 o39.2.2.2 []) := hD1.weaken (fun k q _ h => hFc q.1 h)
          generalize H1 = H at hP hS ⊢
          have hE9 : ∀ p, p < xct st → vad46 p = vad p := fun p h => (hv47 p (Nat.lt_of_lt_of_le h hN)).trans (hE p h)
          have hE := hE9
          have hN : xct st ≤ xct o39.2.2.2 := Nat.le_trans hN hn48
          refine W.eq (g2 := F0 m 19 ls []) (by first | rfl | (skip; rfl)) ?_
          refine lv_iinc (v := 4) (lv' := [(2, .int 4), (0, .ref aM), (1, .ref (aK 10))]) hx hb dM_put1_19 hl (k := 0) rfl rfl (by decide) rfl (fun ls hl => ?_)
          refine lv_goto (tgt := 2) hx hb dM_put1_22 (by decide) ?_
          refine lv_iload_n hx hb dM_put1_2 rfl (lv_at hl 0 rfl) ?_
          refine lv_aload_n hx hb dM_put1_3 rfl (lv_at hl 2 rfl) ?_
          refine va_calli (va_runV (C := "java/lang/String") (As := []) (rest := [.int 4]) ⟨hx, hb, hml, hown, htx⟩ (cJS_length_0 l hl9 D cT aK aV H.size) ⟨callB_of 0 htx (xw_goodC kw_2_70) rfl rfl rfl (htx _ kw_1_6) (htx _ kw_5_238) ⟨by decide, by decide, by decide +kernel⟩ ⟨Nat.le_of_ble_eq_true rfl, Nat.le_of_ble_eq_true rfl⟩, (htx _ kw_2_68), (htx _ kw_2_69)⟩ ⟨xPre_blind, vk_recv hZ.2.2.2.2.2.2.2.2.2.1 (i := 10) (by decide) hS, (fun U hU hW => ⟨rfl, xPre_of hZ hS (xm_free0 hS hA) xm_Pnil xm_Dnil hK U hU hW⟩)⟩ rfl rfl hl.1 rfl (lv_room (Nat.le_of_ble_eq_true rfl)) dM_put1_4 ⟨(hm42.1), (hm42.2)⟩) hS (fun q _ h => xm_free0 hS hA q h) (xm_free0 hS hA) (fun r49 u9 t H1 locs ht hvm hr9 hB hz1 hk1 hS => ?_)
          replace hP := xm_keep hP hk1
          generalize H1 = H at hP hS ⊢
          rw [hr9]
          refine W.eq (g2 := F0 m 7 ls [.int 4, .int 4]) (by first | rfl | rw [xv1 (Nat.succ_ne_zero _)]) ?_
          refine lv_icmp_ge (tgt := 25) hx hb dM_put1_7 (by decide) (fun _ => ?_) (fun h => ((by revert h; decide : False)).elim)
          obtain rfl := Option.some.inj hf
          exact absurd (show (0 : Nat) = 1 from hkd) (by decide)
        rw [if_neg hk41] at hf
        by_cases hk50 : o39.1 = 1
        · rw [if_pos hk50] at hf
          obtain ⟨hm51, hf⟩ := xmoE hf
          have hFc := xm_free hD hS hA
          refine xx_thr (vx_runV (C := "ValueBenchModel") (As := [.int 108]) (rest := []) ⟨hx, hb, hml, hown, htx⟩ (gM_put0_1 l hl9 D cT aK aV H.size n aM ad32 rd gd33 vad34 o27.2.2.2 (108 : Int32) o39 hq40 hk50) ⟨callB_of 1 htx (xw_goodC kw_6_136) rfl rfl rfl (htx _ kw_1_5) (htx _ kw_6_133) ⟨by decide, by decide, by decide +kernel⟩ ⟨Nat.le_of_ble_eq_true rfl, Nat.le_of_ble_eq_true rfl⟩, (htx _ kw_6_135), (htx _ kp_M_put0)⟩ ⟨xPre_blind, va_recv hK hP (ci := 5) rfl (q0 := 0) rfl, (fun U hU hW => ⟨rfl, xPre_of hZ hS hFc hP hD hK U hU hW⟩)⟩ rfl rfl hl.1 rfl (xm_room (Nat.le_of_ble_eq_true rfl)) dM_put1_16 ⟨hm51.1, hm51.2⟩) hS hFc (fun q _ h => hFc q h) (fun E ce q9 u9 t H1 locs ht hvm hr9 hB hz1 hk1 hS hce hcv hcl => ?_)
          obtain ⟨rfl, hP1, hK1, hD1⟩ := hB
          rw [ht] at hP1
          obtain ⟨ad53, gd54, vad55⟩ := u9
          obtain ⟨hv56, hn57⟩ := hr9
          have hP : va_P D xcl (xMw cT aM ad53 rd gd54 vad55 o39.2.2.2 []) H1 := hP1
          have hD : va_D A (xMw cT aM ad53 rd gd54 vad55 o39.2.2.2 []) := hD1.weaken (fun k q _ h => hFc q.1 h)
          generalize H1 = H at hP hS hce ⊢
          have hE9 : ∀ p, p < xct st → vad55 p = vad p := fun p h => (hv56 p (Nat.lt_of_lt_of_le h hN)).trans (hE p h)
          have hE := hE9
          have hN : xct st ≤ xct o39.2.2.2 := Nat.le_trans hN hn57
          obtain rfl := Option.some.inj hf
          exact vx_out (E := "java/lang/IndexOutOfBoundsException") (fun x h => (hne x h).elim) hlocks hce hcv hcl (fun t ht ha => ⟨(ad53, gd54, vad55), ⟨hE, hN⟩, ⟨rfl, by rw [ht]; exact hP, va_K.moved ha hK, hD⟩, hS.F ht⟩) hS.2.2 (Nat.le_refl _) (Nat.le_refl _)
        rw [if_neg hk50] at hf
        exact nomatch hf
      rw [if_neg hk29] at hf
      by_cases hk58 : o27.1 = 1
      · rw [if_pos hk58] at hf
        obtain ⟨hm59, hf⟩ := xmoE hf
        have hFc := xm_free hD hS hA
        refine xx_thr (vx_runV (C := "ValueBenchModel") (As := [.int 108]) (rest := []) ⟨hx, hb, hml, hown, htx⟩ (gM_put0_1 l hl9 D cT aK aV H.size n aM ad20 rd gd21 vad22 o15.2.2.2 (108 : Int32) o27 hq28 hk58) ⟨callB_of 1 htx (xw_goodC kw_6_136) rfl rfl rfl (htx _ kw_1_5) (htx _ kw_6_133) ⟨by decide, by decide, by decide +kernel⟩ ⟨Nat.le_of_ble_eq_true rfl, Nat.le_of_ble_eq_true rfl⟩, (htx _ kw_6_135), (htx _ kp_M_put0)⟩ ⟨xPre_blind, va_recv hK hP (ci := 5) rfl (q0 := 0) rfl, (fun U hU hW => ⟨rfl, xPre_of hZ hS hFc hP hD hK U hU hW⟩)⟩ rfl rfl hl.1 rfl (xm_room (Nat.le_of_ble_eq_true rfl)) dM_put1_16 ⟨hm59.1, hm59.2⟩) hS hFc (fun q _ h => hFc q h) (fun E ce q9 u9 t H1 locs ht hvm hr9 hB hz1 hk1 hS hce hcv hcl => ?_)
        obtain ⟨rfl, hP1, hK1, hD1⟩ := hB
        rw [ht] at hP1
        obtain ⟨ad61, gd62, vad63⟩ := u9
        obtain ⟨hv64, hn65⟩ := hr9
        have hP : va_P D xcl (xMw cT aM ad61 rd gd62 vad63 o27.2.2.2 []) H1 := hP1
        have hD : va_D A (xMw cT aM ad61 rd gd62 vad63 o27.2.2.2 []) := hD1.weaken (fun k q _ h => hFc q.1 h)
        generalize H1 = H at hP hS hce ⊢
        have hE9 : ∀ p, p < xct st → vad63 p = vad p := fun p h => (hv64 p (Nat.lt_of_lt_of_le h hN)).trans (hE p h)
        have hE := hE9
        have hN : xct st ≤ xct o27.2.2.2 := Nat.le_trans hN hn65
        obtain rfl := Option.some.inj hf
        exact vx_out (E := "java/lang/IndexOutOfBoundsException") (fun x h => (hne x h).elim) hlocks hce hcv hcl (fun t ht ha => ⟨(ad61, gd62, vad63), ⟨hE, hN⟩, ⟨rfl, by rw [ht]; exact hP, va_K.moved ha hK, hD⟩, hS.F ht⟩) hS.2.2 (Nat.le_refl _) (Nat.le_refl _)
      rw [if_neg hk58] at hf
      exact nomatch hf
    rw [if_neg hk17] at hf
    by_cases hk66 : o15.1 = 1
    · rw [if_pos hk66] at hf
      obtain ⟨hm67, hf⟩ := xmoE hf
      have hFc := xm_free hD hS hA
      refine xx_thr (vx_runV (C := "ValueBenchModel") (As := [.int 117]) (rest := []) ⟨hx, hb, hml, hown, htx⟩ (gM_put0_1 l hl9 D cT aK aV H.size n aM ad8 rd gd9 vad10 o3.2.2.2 (117 : Int32) o15 hq16 hk66) ⟨callB_of 1 htx (xw_goodC kw_6_136) rfl rfl rfl (htx _ kw_1_5) (htx _ kw_6_133) ⟨by decide, by decide, by decide +kernel⟩ ⟨Nat.le_of_ble_eq_true rfl, Nat.le_of_ble_eq_true rfl⟩, (htx _ kw_6_135), (htx _ kp_M_put0)⟩ ⟨xPre_blind, va_recv hK hP (ci := 5) rfl (q0 := 0) rfl, (fun U hU hW => ⟨rfl, xPre_of hZ hS hFc hP hD hK U hU hW⟩)⟩ rfl rfl hl.1 rfl (xm_room (Nat.le_of_ble_eq_true rfl)) dM_put1_16 ⟨hm67.1, hm67.2⟩) hS hFc (fun q _ h => hFc q h) (fun E ce q9 u9 t H1 locs ht hvm hr9 hB hz1 hk1 hS hce hcv hcl => ?_)
      obtain ⟨rfl, hP1, hK1, hD1⟩ := hB
      rw [ht] at hP1
      obtain ⟨ad69, gd70, vad71⟩ := u9
      obtain ⟨hv72, hn73⟩ := hr9
      have hP : va_P D xcl (xMw cT aM ad69 rd gd70 vad71 o15.2.2.2 []) H1 := hP1
      have hD : va_D A (xMw cT aM ad69 rd gd70 vad71 o15.2.2.2 []) := hD1.weaken (fun k q _ h => hFc q.1 h)
      generalize H1 = H at hP hS hce ⊢
      have hE9 : ∀ p, p < xct st → vad71 p = vad p := fun p h => (hv72 p (Nat.lt_of_lt_of_le h hN)).trans (hE p h)
      have hE := hE9
      have hN : xct st ≤ xct o15.2.2.2 := Nat.le_trans hN hn73
      obtain rfl := Option.some.inj hf
      exact vx_out (E := "java/lang/IndexOutOfBoundsException") (fun x h => (hne x h).elim) hlocks hce hcv hcl (fun t ht ha => ⟨(ad69, gd70, vad71), ⟨hE, hN⟩, ⟨rfl, by rw [ht]; exact hP, va_K.moved ha hK, hD⟩, hS.F ht⟩) hS.2.2 (Nat.le_refl _) (Nat.le_refl _)
    rw [if_neg hk66] at hf
    exact nomatch hf
  rw [if_neg hk5] at hf
  by_cases hk74 : o3.1 = 1
  · rw [if_pos hk74] at hf
    obtain ⟨hm75, hf⟩ := xmoE hf
    have hFc := xm_free hD hS hA
    refine xx_thr (vx_runV (C := "ValueBenchModel") (As := [.int 110]) (rest := []) ⟨hx, hb, hml, hown, htx⟩ (gM_put0_1 l hl9 D cT aK aV H.size n aM ad rd gd vad st (110 : Int32) o3 hq4 hk74) ⟨callB_of 1 htx (xw_goodC kw_6_136) rfl rfl rfl (htx _ kw_1_5) (htx _ kw_6_133) ⟨by decide, by decide, by decide +kernel⟩ ⟨Nat.le_of_ble_eq_true rfl, Nat.le_of_ble_eq_true rfl⟩, (htx _ kw_6_135), (htx _ kp_M_put0)⟩ ⟨xPre_blind, va_recv hK hP (ci := 5) rfl (q0 := 0) rfl, (fun U hU hW => ⟨rfl, xPre_of hZ hS hFc hP hD hK U hU hW⟩)⟩ rfl rfl hl.1 rfl (xm_room (Nat.le_of_ble_eq_true rfl)) dM_put1_16 ⟨hm75.1, hm75.2⟩) hS hFc (fun q _ h => hFc q h) (fun E ce q9 u9 t H1 locs ht hvm hr9 hB hz1 hk1 hS hce hcv hcl => ?_)
    obtain ⟨rfl, hP1, hK1, hD1⟩ := hB
    rw [ht] at hP1
    obtain ⟨ad77, gd78, vad79⟩ := u9
    obtain ⟨hv80, hn81⟩ := hr9
    have hP : va_P D xcl (xMw cT aM ad77 rd gd78 vad79 o3.2.2.2 []) H1 := hP1
    have hD : va_D A (xMw cT aM ad77 rd gd78 vad79 o3.2.2.2 []) := hD1.weaken (fun k q _ h => hFc q.1 h)
    generalize H1 = H at hP hS hce ⊢
    have hE9 : ∀ p, p < xct st → vad79 p = vad p := fun p h => (hv80 p (Nat.lt_of_lt_of_le h hN)).trans (hE p h)
    have hE := hE9
    have hN : xct st ≤ xct o3.2.2.2 := Nat.le_trans hN hn81
    obtain rfl := Option.some.inj hf
    exact vx_out (E := "java/lang/IndexOutOfBoundsException") (fun x h => (hne x h).elim) hlocks hce hcv hcl (fun t ht ha => ⟨(ad77, gd78, vad79), ⟨hE, hN⟩, ⟨rfl, by rw [ht]; exact hP, va_K.moved ha hK, hD⟩, hS.F ht⟩) hS.2.2 (Nat.le_refl _) (Nat.le_refl _)
  rw [if_neg hk74] at hf
  exact nomatch hf
set_option maxHeartbeats 400000000 in
set_option maxRecDepth 100000 in
theorem gM_put1a (l : Launch) (hl9 : l.stackTraces = false) (D : va_G) (cT : Nat → ClassId) (aK aV : Nat → Nat) (sz n : Nat) (aM : Nat) (ad rd gd vad : Nat → Nat) (st : xS) (out : Nat × Nat × Nat × xS) (hf : fM_put1a n st = some out) (hkd : out.1 = 0) : xMet l yM_put1 wyM_put1 7 out.2.1 out.2.2.1 123 D cT aK aV sz [.ref aM, .ref (aK 11)] (xMw cT aM ad rd gd vad st []) (fun A => va_Qv (fun u : xU => xE vad st out.2.2.2 u) (fun u t => xB D xcl cT A (xMw cT aM u.1 rd u.2.1 u.2.2 out.2.2.2 []) t) A) := by
  refine Met.ofW (cc := prog_13_method_42_code) (maxL := 3) (ret := none) (by decide) rfl ?_
  intro p e s m args below meth c s₁ B hml hv
  obtain ⟨rfl, hsz, hZ, hP, hK, hD0⟩ := hv
  have hx := B.exec
  have hb := B.bytes
  have hr := B.returns
  have hts := atoms_spec (ws := wyM_put1) B.pre
  have htx := fun w h => hts w (List.mem_cons_of_mem _ h)
  have hown : s.vm.findClass "ValueBenchModel" = some m.cls := findClass_of_methodNamed B.named
  have hlocks := B.notSynchronized
  subst hsz
  have hD := hD0.self (sz := s.heap.size)
  generalize hAe : va_A (xMw cT aM ad rd gd vad st []) s.heap.size = A at hD hZ ⊢
  have hA : ∀ q : Nat, s.heap.size ≤ q → A q := fun q h => by rw [← hAe]; exact Or.inr h
  have hS : va_S A s.heap s.heap [] := va_S.rf
  have hl := lv_entry ([.ref aM, .ref (aK 11)]) (n := 3) (by simp [lg_sl, xvcat, xrscat, xcI, xcL, xcR, xcN])
  rw [show lv_args 0 [.ref aM, .ref (aK 11)] = [(0, .ref aM), (1, .ref (aK 11))] from by simp [lv_args, xvcat, xrscat, xcI, xcL, xcR, xcN]] at hl
  rw [lg_entry_eq]
  generalize (lg_sl ([.ref aM, .ref (aK 11)]) ++ List.replicate (3 - (lg_sl ([.ref aM, .ref (aK 11)])).length) Slot.unset).toArray = ls at hl ⊢
  have hl : lv_has ls 3 [(0, .ref aM), (1, .ref (aK 11))] := hl
  have hE : ∀ p, p < xct st → vad p = vad p := fun _ _ => rfl
  have hN : xct st ≤ xct st := Nat.le_refl _
  unfold fM_put1a at hf
  refine lv_iconst (v := 0) hx hb dM_put1_0 (by decide) ?_
  refine lv_istore_n (lv' := [(2, .int 0), (0, .ref aM), (1, .ref (aK 11))]) hx hb dM_put1_1 rfl hl (by decide) rfl (fun ls hl => ?_)
  refine lv_iload_n hx hb dM_put1_2 rfl (lv_at hl 0 rfl) ?_
  refine lv_aload_n hx hb dM_put1_3 rfl (lv_at hl 2 rfl) ?_
  refine va_calli (va_runV (C := "java/lang/String") (As := []) (rest := [.int 0]) ⟨hx, hb, hml, hown, htx⟩ (cJS_length_1 l hl9 D cT aK aV s.heap.size) ⟨callB_of 0 htx (xw_goodC kw_2_70) rfl rfl rfl (htx _ kw_1_6) (htx _ kw_5_238) ⟨by decide, by decide, by decide +kernel⟩ ⟨Nat.le_of_ble_eq_true rfl, Nat.le_of_ble_eq_true rfl⟩, (htx _ kw_2_68), (htx _ kw_2_69)⟩ ⟨xPre_blind, vk_recv hZ.2.2.2.2.2.2.2.2.2.1 (i := 11) (by decide) hS, (fun U hU hW => ⟨rfl, xPre_of hZ hS (xm_free0 hS hA) xm_Pnil xm_Dnil hK U hU hW⟩)⟩ rfl rfl hl.1 rfl (lv_room (Nat.le_of_ble_eq_true rfl)) dM_put1_4 ⟨(Nat.zero_le _), (Nat.zero_le _)⟩) hS (fun q _ h => xm_free0 hS hA q h) (xm_free0 hS hA) (fun r1 u9 t H1 locs ht hvm hr9 hB hz1 hk1 hS => ?_)
  replace hP := xm_keep hP hk1
  generalize H1 = H at hP hS ⊢
  rw [hr9]
  refine W.eq (g2 := F0 m 7 ls [.int 5, .int 0]) (by first | rfl | rw [xv1 (Nat.succ_ne_zero _)]) ?_
  refine lv_icmp_ge (tgt := 25) hx hb dM_put1_7 (by decide) (fun h => ((by revert h; decide : False)).elim) (fun _ => ?_)
  refine lv_aload_n hx hb dM_put1_10 rfl (lv_at hl 1 rfl) ?_
  refine lv_aload_n hx hb dM_put1_11 rfl (lv_at hl 2 rfl) ?_
  refine lv_iload_n hx hb dM_put1_12 rfl (lv_at hl 0 rfl) ?_
  refine va_calli (va_runV (C := "java/lang/String") (As := [.int 0]) (rest := [.ref aM]) ⟨hx, hb, hml, hown, htx⟩ (cJS_charAt_4 l hl9 D cT aK aV H.size) ⟨callB_of 1 htx (xw_goodC kw_2_80) rfl rfl rfl (htx _ kw_1_6) (htx _ kw_5_86) ⟨by decide, by decide, by decide +kernel⟩ ⟨Nat.le_of_ble_eq_true rfl, Nat.le_of_ble_eq_true rfl⟩, (htx _ kw_2_78), (htx _ kw_2_79)⟩ ⟨xPre_blind, vk_recv hZ.2.2.2.2.2.2.2.2.2.1 (i := 11) (by decide) hS, (fun U hU hW => ⟨rfl, xPre_of hZ hS (xm_free0 hS hA) xm_Pnil xm_Dnil hK U hU hW⟩)⟩ rfl rfl hl.1 rfl (lv_room (Nat.le_of_ble_eq_true rfl)) dM_put1_13 ⟨(Nat.zero_le _), (Nat.zero_le _)⟩) hS (fun q _ h => xm_free0 hS hA q h) (xm_free0 hS hA) (fun r2 u9 t H1 locs ht hvm hr9 hB hz1 hk1 hS => ?_)
  replace hP := xm_keep hP hk1
  generalize H1 = H at hP hS ⊢
  rw [hr9]
  refine W.eq (g2 := F0 m 16 ls [.int 102, .ref aM]) (by first | rfl | rw [xv1 (Nat.succ_ne_zero _)]) ?_
  obtain ⟨o3, hq4, hf⟩ := xbind hf
  by_cases hk5 : o3.1 = 0
  · rw [if_pos hk5] at hf
    obtain ⟨hm6, hf⟩ := xmoE hf
    have hFc := xm_free hD hS hA
    refine va_callv (va_runV (C := "ValueBenchModel") (As := [.int 102]) (rest := []) ⟨hx, hb, hml, hown, htx⟩ (gM_put0 l hl9 D cT aK aV H.size n aM ad rd gd vad st (102 : Int32) o3 hq4 hk5) ⟨callB_of 1 htx (xw_goodC kw_6_136) rfl rfl rfl (htx _ kw_1_5) (htx _ kw_6_133) ⟨by decide, by decide, by decide +kernel⟩ ⟨Nat.le_of_ble_eq_true rfl, Nat.le_of_ble_eq_true rfl⟩, (htx _ kw_6_135), (htx _ kp_M_put0)⟩ ⟨xPre_blind, va_recv hK hP (ci := 5) rfl (q0 := 0) rfl, (fun U hU hW => ⟨rfl, xPre_of hZ hS hFc hP hD hK U hU hW⟩)⟩ rfl rfl hl.1 rfl (xm_room (Nat.le_of_ble_eq_true rfl)) dM_put1_16 ⟨hm6.1, hm6.2⟩) hS (fun q _ h => hFc q h) hFc (fun u9 t H1 locs ht hvm hr9 hB hz1 hk1 hS => ?_)
    obtain ⟨hP1, hK1, hD1⟩ := hB
    rw [ht] at hP1
    obtain ⟨ad8, gd9, vad10⟩ := u9
    obtain ⟨hv11, hn12⟩ := hr9
    have hP : va_P D xcl (xMw cT aM ad8 rd gd9 vad10 o3.2.2.2 []) H1 := hP1
    have hD : va_D A (xMw cT aM ad8 rd gd9 vad10 o3.2.2.2 []) := hD1.weaken (fun k q _ h => hFc q.1 h)
    generalize H1 = H at hP hS ⊢
    have hE9 : ∀ p, p < xct st → vad10 p = vad p := fun p h => (hv11 p (Nat.lt_of_lt_of_le h hN)).trans (hE p h)
    have hE := hE9
    have hN : xct st ≤ xct o3.2.2.2 := Nat.le_trans hN hn12
    refine W.eq (g2 := F0 m 19 ls []) (by first | rfl | (skip; rfl)) ?_
    refine lv_iinc (v := 1) (lv' := [(2, .int 1), (0, .ref aM), (1, .ref (aK 11))]) hx hb dM_put1_19 hl (k := 0) rfl rfl (by decide) rfl (fun ls hl => ?_)
    refine lv_goto (tgt := 2) hx hb dM_put1_22 (by decide) ?_
    refine lv_iload_n hx hb dM_put1_2 rfl (lv_at hl 0 rfl) ?_
    refine lv_aload_n hx hb dM_put1_3 rfl (lv_at hl 2 rfl) ?_
    refine va_calli (va_runV (C := "java/lang/String") (As := []) (rest := [.int 1]) ⟨hx, hb, hml, hown, htx⟩ (cJS_length_1 l hl9 D cT aK aV H.size) ⟨callB_of 0 htx (xw_goodC kw_2_70) rfl rfl rfl (htx _ kw_1_6) (htx _ kw_5_238) ⟨by decide, by decide, by decide +kernel⟩ ⟨Nat.le_of_ble_eq_true rfl, Nat.le_of_ble_eq_true rfl⟩, (htx _ kw_2_68), (htx _ kw_2_69)⟩ ⟨xPre_blind, vk_recv hZ.2.2.2.2.2.2.2.2.2.1 (i := 11) (by decide) hS, (fun U hU hW => ⟨rfl, xPre_of hZ hS (xm_free0 hS hA) xm_Pnil xm_Dnil hK U hU hW⟩)⟩ rfl rfl hl.1 rfl (lv_room (Nat.le_of_ble_eq_true rfl)) dM_put1_4 ⟨(hm6.1), (hm6.2)⟩) hS (fun q _ h => xm_free0 hS hA q h) (xm_free0 hS hA) (fun r13 u9 t H1 locs ht hvm hr9 hB hz1 hk1 hS => ?_)
    replace hP := xm_keep hP hk1
    generalize H1 = H at hP hS ⊢
    rw [hr9]
    refine W.eq (g2 := F0 m 7 ls [.int 5, .int 1]) (by first | rfl | rw [xv1 (Nat.succ_ne_zero _)]) ?_
    refine lv_icmp_ge (tgt := 25) hx hb dM_put1_7 (by decide) (fun h => ((by revert h; decide : False)).elim) (fun _ => ?_)
    refine lv_aload_n hx hb dM_put1_10 rfl (lv_at hl 1 rfl) ?_
    refine lv_aload_n hx hb dM_put1_11 rfl (lv_at hl 2 rfl) ?_
    refine lv_iload_n hx hb dM_put1_12 rfl (lv_at hl 0 rfl) ?_
    refine va_calli (va_runV (C := "java/lang/String") (As := [.int 1]) (rest := [.ref aM]) ⟨hx, hb, hml, hown, htx⟩ (cJS_charAt_5 l hl9 D cT aK aV H.size) ⟨callB_of 1 htx (xw_goodC kw_2_80) rfl rfl rfl (htx _ kw_1_6) (htx _ kw_5_86) ⟨by decide, by decide, by decide +kernel⟩ ⟨Nat.le_of_ble_eq_true rfl, Nat.le_of_ble_eq_true rfl⟩, (htx _ kw_2_78), (htx _ kw_2_79)⟩ ⟨xPre_blind, vk_recv hZ.2.2.2.2.2.2.2.2.2.1 (i := 11) (by decide) hS, (fun U hU hW => ⟨rfl, xPre_of hZ hS (xm_free0 hS hA) xm_Pnil xm_Dnil hK U hU hW⟩)⟩ rfl rfl hl.1 rfl (lv_room (Nat.le_of_ble_eq_true rfl)) dM_put1_13 ⟨(hm6.1), (hm6.2)⟩) hS (fun q _ h => xm_free0 hS hA q h) (xm_free0 hS hA) (fun r14 u9 t H1 locs ht hvm hr9 hB hz1 hk1 hS => ?_)
    replace hP := xm_keep hP hk1
    generalize H1 = H at hP hS ⊢
    rw [hr9]
    refine W.eq (g2 := F0 m 16 ls [.int 97, .ref aM]) (by first | rfl | rw [xv1 (Nat.succ_ne_zero _)]) ?_
    obtain ⟨o15, hq16, hf⟩ := xbind hf
    by_cases hk17 : o15.1 = 0
    · rw [if_pos hk17] at hf
      obtain ⟨hm18, hf⟩ := xmoE hf
      have hFc := xm_free hD hS hA
      refine va_callv (va_runV (C := "ValueBenchModel") (As := [.int 97]) (rest := []) ⟨hx, hb, hml, hown, htx⟩ (gM_put0 l hl9 D cT aK aV H.size n aM ad8 rd gd9 vad10 o3.2.2.2 (97 : Int32) o15 hq16 hk17) ⟨callB_of 1 htx (xw_goodC kw_6_136) rfl rfl rfl (htx _ kw_1_5) (htx _ kw_6_133) ⟨by decide, by decide, by decide +kernel⟩ ⟨Nat.le_of_ble_eq_true rfl, Nat.le_of_ble_eq_true rfl⟩, (htx _ kw_6_135), (htx _ kp_M_put0)⟩ ⟨xPre_blind, va_recv hK hP (ci := 5) rfl (q0 := 0) rfl, (fun U hU hW => ⟨rfl, xPre_of hZ hS hFc hP hD hK U hU hW⟩)⟩ rfl rfl hl.1 rfl (xm_room (Nat.le_of_ble_eq_true rfl)) dM_put1_16 ⟨hm18.1, hm18.2⟩) hS (fun q _ h => hFc q h) hFc (fun u9 t H1 locs ht hvm hr9 hB hz1 hk1 hS => ?_)
      obtain ⟨hP1, hK1, hD1⟩ := hB
      rw [ht] at hP1
      obtain ⟨ad20, gd21, vad22⟩ := u9
      obtain ⟨hv23, hn24⟩ := hr9
      have hP : va_P D xcl (xMw cT aM ad20 rd gd21 vad22 o15.2.2.2 []) H1 := hP1
      have hD : va_D A (xMw cT aM ad20 rd gd21 vad22 o15.2.2.2 []) := hD1.weaken (fun k q _ h => hFc q.1 h)
      generalize H1 = H at hP hS ⊢
      have hE9 : ∀ p, p < xct st → vad22 p = vad p := fun p h => (hv23 p (Nat.lt_of_lt_of_le h hN)).trans (hE p h)
      have hE := hE9
      have hN : xct st ≤ xct o15.2.2.2 := Nat.le_trans hN hn24
      refine W.eq (g2 := F0 m 19 ls []) (by first | rfl | (skip; rfl)) ?_
      refine lv_iinc (v := 2) (lv' := [(2, .int 2), (0, .ref aM), (1, .ref (aK 11))]) hx hb dM_put1_19 hl (k := 0) rfl rfl (by decide) rfl (fun ls hl => ?_)
      refine lv_goto (tgt := 2) hx hb dM_put1_22 (by decide) ?_
      refine lv_iload_n hx hb dM_put1_2 rfl (lv_at hl 0 rfl) ?_
      refine lv_aload_n hx hb dM_put1_3 rfl (lv_at hl 2 rfl) ?_
      refine va_calli (va_runV (C := "java/lang/String") (As := []) (rest := [.int 2]) ⟨hx, hb, hml, hown, htx⟩ (cJS_length_1 l hl9 D cT aK aV H.size) ⟨callB_of 0 htx (xw_goodC kw_2_70) rfl rfl rfl (htx _ kw_1_6) (htx _ kw_5_238) ⟨by decide, by decide, by decide +kernel⟩ ⟨Nat.le_of_ble_eq_true rfl, Nat.le_of_ble_eq_true rfl⟩, (htx _ kw_2_68), (htx _ kw_2_69)⟩ ⟨xPre_blind, vk_recv hZ.2.2.2.2.2.2.2.2.2.1 (i := 11) (by decide) hS, (fun U hU hW => ⟨rfl, xPre_of hZ hS (xm_free0 hS hA) xm_Pnil xm_Dnil hK U hU hW⟩)⟩ rfl rfl hl.1 rfl (lv_room (Nat.le_of_ble_eq_true rfl)) dM_put1_4 ⟨(hm18.1), (hm18.2)⟩) hS (fun q _ h => xm_free0 hS hA q h) (xm_free0 hS hA) (fun r25 u9 t H1 locs ht hvm hr9 hB hz1 hk1 hS => ?_)
      replace hP := xm_keep hP hk1
      generalize H1 = H at hP hS ⊢
      rw [hr9]
      refine W.eq (g2 := F0 m 7 ls [.int 5, .int 2]) (by first | rfl | rw [xv1 (Nat.succ_ne_zero _)]) ?_
      refine lv_icmp_ge (tgt := 25) hx hb dM_put1_7 (by decide) (fun h => ((by revert h; decide : False)).elim) (fun _ => ?_)
      refine lv_aload_n hx hb dM_put1_10 rfl (lv_at hl 1 rfl) ?_
      refine lv_aload_n hx hb dM_put1_11 rfl (lv_at hl 2 rfl) ?_
      refine lv_iload_n hx hb dM_put1_12 rfl (lv_at hl 0 rfl) ?_
      refine va_calli (va_runV (C := "java/lang/String") (As := [.int 2]) (rest := [.ref aM]) ⟨hx, hb, hml, hown, htx⟩ (cJS_charAt_6 l hl9 D cT aK aV H.size) ⟨callB_of 1 htx (xw_goodC kw_2_80) rfl rfl rfl (htx _ kw_1_6) (htx _ kw_5_86) ⟨by decide, by decide, by decide +kernel⟩ ⟨Nat.le_of_ble_eq_true rfl, Nat.le_of_ble_eq_true rfl⟩, (htx _ kw_2_78), (htx _ kw_2_79)⟩ ⟨xPre_blind, vk_recv hZ.2.2.2.2.2.2.2.2.2.1 (i := 11) (by decide) hS, (fun U hU hW => ⟨rfl, xPre_of hZ hS (xm_free0 hS hA) xm_Pnil xm_Dnil hK U hU hW⟩)⟩ rfl rfl hl.1 rfl (lv_room (Nat.le_of_ble_eq_true rfl)) dM_put1_13 ⟨(hm18.1), (hm18.2)⟩) hS (fun q _ h => xm_free0 hS hA q h) (xm_free0 hS hA) (fun r26 u9 t H1 locs ht hvm hr9 hB hz1 hk1 hS => ?_)
      replace hP := xm_keep hP hk1
      generalize H1 = H at hP hS ⊢
      rw [hr9]
      refine W.eq (g2 := F0 m 16 ls [.int 108, .ref aM]) (by first | rfl | rw [xv1 (Nat.succ_ne_zero _)]) ?_
      obtain ⟨o27, hq28, hf⟩ := xbind hf
      by_cases hk29 : o27.1 = 0
      · rw [if_pos hk29] at hf
        obtain ⟨hm30, hf⟩ := xmoE hf
        have hFc := xm_free hD hS hA
        refine va_callv (va_runV (C := "ValueBenchModel") (As := [.int 108]) (rest := []) ⟨hx, hb, hml, hown, htx⟩ (gM_put0 l hl9 D cT aK aV H.size n aM ad20 rd gd21 vad22 o15.2.2.2 (108 : Int32) o27 hq28 hk29) ⟨callB_of 1 htx (xw_goodC kw_6_136) rfl rfl rfl (htx _ kw_1_5) (htx _ kw_6_133) ⟨by decide, by decide, by decide +kernel⟩ ⟨Nat.le_of_ble_eq_true rfl, Nat.le_of_ble_eq_true rfl⟩, (htx _ kw_6_135), (htx _ kp_M_put0)⟩ ⟨xPre_blind, va_recv hK hP (ci := 5) rfl (q0 := 0) rfl, (fun U hU hW => ⟨rfl, xPre_of hZ hS hFc hP hD hK U hU hW⟩)⟩ rfl rfl hl.1 rfl (xm_room (Nat.le_of_ble_eq_true rfl)) dM_put1_16 ⟨hm30.1, hm30.2⟩) hS (fun q _ h => hFc q h) hFc (fun u9 t H1 locs ht hvm hr9 hB hz1 hk1 hS => ?_)
        obtain ⟨hP1, hK1, hD1⟩ := hB
        rw [ht] at hP1
        obtain ⟨ad32, gd33, vad34⟩ := u9
        obtain ⟨hv35, hn36⟩ := hr9
        have hP : va_P D xcl (xMw cT aM ad32 rd gd33 vad34 o27.2.2.2 []) H1 := hP1
        have hD : va_D A (xMw cT aM ad32 rd gd33 vad34 o27.2.2.2 []) := hD1.weaken (fun k q _ h => hFc q.1 h)
        generalize H1 = H at hP hS ⊢
        have hE9 : ∀ p, p < xct st → vad34 p = vad p := fun p h => (hv35 p (Nat.lt_of_lt_of_le h hN)).trans (hE p h)
        have hE := hE9
        have hN : xct st ≤ xct o27.2.2.2 := Nat.le_trans hN hn36
        refine W.eq (g2 := F0 m 19 ls []) (by first | rfl | (skip; rfl)) ?_
        refine lv_iinc (v := 3) (lv' := [(2, .int 3), (0, .ref aM), (1, .ref (aK 11))]) hx hb dM_put1_19 hl (k := 0) rfl rfl (by decide) rfl (fun ls hl => ?_)
        refine lv_goto (tgt := 2) hx hb dM_put1_22 (by decide) ?_
        refine lv_iload_n hx hb dM_put1_2 rfl (lv_at hl 0 rfl) ?_
        refine lv_aload_n hx hb dM_put1_3 rfl (lv_at hl 2 rfl) ?_
        refine va_calli (va_runV (C := "java/lang/String") (As := []) (rest := [.int 3]) ⟨hx, hb, hml, hown, htx⟩ (cJS_length_1 l hl9 D cT aK aV H.size) ⟨callB_of 0 htx (xw_goodC kw_2_70) rfl rfl rfl (htx _ kw_1_6) (htx _ kw_5_238) ⟨by decide, by decide, by decide +kernel⟩ ⟨Nat.le_of_ble_eq_true rfl, Nat.le_of_ble_eq_true rfl⟩, (htx _ kw_2_68), (htx _ kw_2_69)⟩ ⟨xPre_blind, vk_recv hZ.2.2.2.2.2.2.2.2.2.1 (i := 11) (by decide) hS, (fun U hU hW => ⟨rfl, xPre_of hZ hS (xm_free0 hS hA) xm_Pnil xm_Dnil hK U hU hW⟩)⟩ rfl rfl hl.1 rfl (lv_room (Nat.le_of_ble_eq_true rfl)) dM_put1_4 ⟨(hm30.1), (hm30.2)⟩) hS (fun q _ h => xm_free0 hS hA q h) (xm_free0 hS hA) (fun r37 u9 t H1 locs ht hvm hr9 hB hz1 hk1 hS => ?_)
        replace hP := xm_keep hP hk1
        generalize H1 = H at hP hS ⊢
        rw [hr9]
        refine W.eq (g2 := F0 m 7 ls [.int 5, .int 3]) (by first | rfl | rw [xv1 (Nat.succ_ne_zero _)]) ?_
        refine lv_icmp_ge (tgt := 25) hx hb dM_put1_7 (by decide) (fun h => ((by revert h; decide : False)).elim) (fun _ => ?_)
        refine lv_aload_n hx hb dM_put1_10 rfl (lv_at hl 1 rfl) ?_
        refine lv_aload_n hx hb dM_put1_11 rfl (lv_at hl 2 rfl) ?_
        refine lv_iload_n hx hb dM_put1_12 rfl (lv_at hl 0 rfl) ?_
        refine va_calli (va_runV (C := "java/lang/String") (As := [.int 3]) (rest := [.ref aM]) ⟨hx, hb, hml, hown, htx⟩ (cJS_charAt_7 l hl9 D cT aK aV H.size) ⟨callB_of 1 htx (xw_goodC kw_2_80) rfl rfl rfl (htx _ kw_1_6) (htx _ kw_5_86) ⟨by decide, by decide, by decide +kernel⟩ ⟨Nat.le_of_ble_eq_true rfl, Nat.le_of_ble_eq_true rfl⟩, (htx _ kw_2_78), (htx _ kw_2_79)⟩ ⟨xPre_blind, vk_recv hZ.2.2.2.2.2.2.2.2.2.1 (i := 11) (by decide) hS, (fun U hU hW => ⟨rfl, xPre_of hZ hS (xm_free0 hS hA) xm_Pnil xm_Dnil hK U hU hW⟩)⟩ rfl rfl hl.1 rfl (lv_room (Nat.le_of_ble_eq_true rfl)) dM_put1_13 ⟨(hm30.1), (hm30.2)⟩) hS (fun q _ h => xm_free0 hS hA q h) (xm_free0 hS hA) (fun r38 u9 t H1 locs ht hvm hr9 hB hz1 hk1 hS => ?_)
        replace hP := xm_keep hP hk1
        generalize H1 = H at hP hS ⊢
        rw [hr9]
        refine W.eq (g2 := F0 m 16 ls [.int 115, .ref aM]) (by first | rfl | rw [xv1 (Nat.succ_ne_zero _)]) ?_
        obtain ⟨o39, hq40, hf⟩ := xbind hf
        by_cases hk41 : o39.1 = 0
        · rw [if_pos hk41] at hf
          obtain ⟨hm42, hf⟩ := xmoE hf
          have hFc := xm_free hD hS hA
          refine va_callv (va_runV (C := "ValueBenchModel") (As := [.int 115]) (rest := []) ⟨hx, hb, hml, hown, htx⟩ (gM_put0 l hl9 D cT aK aV H.size n aM ad32 rd gd33 vad34 o27.2.2.2 (115 : Int32) o39 hq40 hk41) ⟨callB_of 1 htx (xw_goodC kw_6_136) rfl rfl rfl (htx _ kw_1_5) (htx _ kw_6_133) ⟨by decide, by decide, by decide +kernel⟩ ⟨Nat.le_of_ble_eq_true rfl, Nat.le_of_ble_eq_true rfl⟩, (htx _ kw_6_135), (htx _ kp_M_put0)⟩ ⟨xPre_blind, va_recv hK hP (ci := 5) rfl (q0 := 0) rfl, (fun U hU hW => ⟨rfl, xPre_of hZ hS hFc hP hD hK U hU hW⟩)⟩ rfl rfl hl.1 rfl (xm_room (Nat.le_of_ble_eq_true rfl)) dM_put1_16 ⟨hm42.1, hm42.2⟩) hS (fun q _ h => hFc q h) hFc (fun u9 t H1 locs ht hvm hr9 hB hz1 hk1 hS => ?_)
          obtain ⟨hP1, hK1, hD1⟩ := hB
          rw [ht] at hP1
          obtain ⟨ad44, gd45, vad46⟩ := u9
          obtain ⟨hv47, hn48⟩ := hr9
          have hP : va_P D xcl (xMw cT aM ad44 rd gd45 vad46 o39.2.2.2 []) H1 := hP1
          have hD : va_D A (xMw cT aM ad44 rd gd45 vad46 o39.2.2.2 []) := hD1.weaken (fun k q _ h => hFc q.1 h)
          generalize H1 = H at hP hS ⊢
          have hE9 : ∀ p, p < xct st → vad46 p = vad p := fun p h => (hv47 p (Nat.lt_of_lt_of_le h hN)).trans (hE p h)
          have hE := hE9
          have hN : xct st ≤ xct o39.2.2.2 := Nat.le_trans hN hn48
          refine W.eq (g2 := F0 m 19 ls []) (by first | rfl | (skip; rfl)) ?_
          refine lv_iinc (v := 4) (lv' := [(2, .int 4), (0, .ref aM), (1, .ref (aK 11))]) hx hb dM_put1_19 hl (k := 0) rfl rfl (by decide) rfl (fun ls hl => ?_)
          refine lv_goto (tgt := 2) hx hb dM_put1_22 (by decide) ?_
          refine lv_iload_n hx hb dM_put1_2 rfl (lv_at hl 0 rfl) ?_
          refine lv_aload_n hx hb dM_put1_3 rfl (lv_at hl 2 rfl) ?_
          refine va_calli (va_runV (C := "java/lang/String") (As := []) (rest := [.int 4]) ⟨hx, hb, hml, hown, htx⟩ (cJS_length_1 l hl9 D cT aK aV H.size) ⟨callB_of 0 htx (xw_goodC kw_2_70) rfl rfl rfl (htx _ kw_1_6) (htx _ kw_5_238) ⟨by decide, by decide, by decide +kernel⟩ ⟨Nat.le_of_ble_eq_true rfl, Nat.le_of_ble_eq_true rfl⟩, (htx _ kw_2_68), (htx _ kw_2_69)⟩ ⟨xPre_blind, vk_recv hZ.2.2.2.2.2.2.2.2.2.1 (i := 11) (by decide) hS, (fun U hU hW => ⟨rfl, xPre_of hZ hS (xm_free0 hS hA) xm_Pnil xm_Dnil hK U hU hW⟩)⟩ rfl rfl hl.1 rfl (lv_room (Nat.le_of_ble_eq_true rfl)) dM_put1_4 ⟨(hm42.1), (hm42.2)⟩) hS (fun q _ h => xm_free0 hS hA q h) (xm_free0 hS hA) (fun r49 u9 t H1 locs ht hvm hr9 hB hz1 hk1 hS => ?_)
          replace hP := xm_keep hP hk1
          generalize H1 = H at hP hS ⊢
          rw [hr9]
          refine W.eq (g2 := F0 m 7 ls [.int 5, .int 4]) (by first | rfl | rw [xv1 (Nat.succ_ne_zero _)]) ?_
          refine lv_icmp_ge (tgt := 25) hx hb dM_put1_7 (by decide) (fun h => ((by revert h; decide : False)).elim) (fun _ => ?_)
          refine lv_aload_n hx hb dM_put1_10 rfl (lv_at hl 1 rfl) ?_
          refine lv_aload_n hx hb dM_put1_11 rfl (lv_at hl 2 rfl) ?_
          refine lv_iload_n hx hb dM_put1_12 rfl (lv_at hl 0 rfl) ?_
          refine va_calli (va_runV (C := "java/lang/String") (As := [.int 4]) (rest := [.ref aM]) ⟨hx, hb, hml, hown, htx⟩ (cJS_charAt_8 l hl9 D cT aK aV H.size) ⟨callB_of 1 htx (xw_goodC kw_2_80) rfl rfl rfl (htx _ kw_1_6) (htx _ kw_5_86) ⟨by decide, by decide, by decide +kernel⟩ ⟨Nat.le_of_ble_eq_true rfl, Nat.le_of_ble_eq_true rfl⟩, (htx _ kw_2_78), (htx _ kw_2_79)⟩ ⟨xPre_blind, vk_recv hZ.2.2.2.2.2.2.2.2.2.1 (i := 11) (by decide) hS, (fun U hU hW => ⟨rfl, xPre_of hZ hS (xm_free0 hS hA) xm_Pnil xm_Dnil hK U hU hW⟩)⟩ rfl rfl hl.1 rfl (lv_room (Nat.le_of_ble_eq_true rfl)) dM_put1_13 ⟨(hm42.1), (hm42.2)⟩) hS (fun q _ h => xm_free0 hS hA q h) (xm_free0 hS hA) (fun r50 u9 t H1 locs ht hvm hr9 hB hz1 hk1 hS => ?_)
          replace hP := xm_keep hP hk1
          generalize H1 = H at hP hS ⊢
          rw [hr9]
          refine W.eq (g2 := F0 m 16 ls [.int 101, .ref aM]) (by first | rfl | rw [xv1 (Nat.succ_ne_zero _)]) ?_
          obtain ⟨o51, hq52, hf⟩ := xbind hf
          by_cases hk53 : o51.1 = 0
          · rw [if_pos hk53] at hf
            obtain ⟨hm54, hf⟩ := xmoE hf
            have hFc := xm_free hD hS hA
            refine va_callv (va_runV (C := "ValueBenchModel") (As := [.int 101]) (rest := []) ⟨hx, hb, hml, hown, htx⟩ (gM_put0 l hl9 D cT aK aV H.size n aM ad44 rd gd45 vad46 o39.2.2.2 (101 : Int32) o51 hq52 hk53) ⟨callB_of 1 htx (xw_goodC kw_6_136) rfl rfl rfl (htx _ kw_1_5) (htx _ kw_6_133) ⟨by decide, by decide, by decide +kernel⟩ ⟨Nat.le_of_ble_eq_true rfl, Nat.le_of_ble_eq_true rfl⟩, (htx _ kw_6_135), (htx _ kp_M_put0)⟩ ⟨xPre_blind, va_recv hK hP (ci := 5) rfl (q0 := 0) rfl, (fun U hU hW => ⟨rfl, xPre_of hZ hS hFc hP hD hK U hU hW⟩)⟩ rfl rfl hl.1 rfl (xm_room (Nat.le_of_ble_eq_true rfl)) dM_put1_16 ⟨hm54.1, hm54.2⟩) hS (fun q _ h => hFc q h) hFc (fun u9 t H1 locs ht hvm hr9 hB hz1 hk1 hS => ?_)
            obtain ⟨hP1, hK1, hD1⟩ := hB
            rw [ht] at hP1
            obtain ⟨ad56, gd57, vad58⟩ := u9
            obtain ⟨hv59, hn60⟩ := hr9
            have hP : va_P D xcl (xMw cT aM ad56 rd gd57 vad58 o51.2.2.2 []) H1 := hP1
            have hD : va_D A (xMw cT aM ad56 rd gd57 vad58 o51.2.2.2 []) := hD1.weaken (fun k q _ h => hFc q.1 h)
            generalize H1 = H at hP hS ⊢
            have hE9 : ∀ p, p < xct st → vad58 p = vad p := fun p h => (hv59 p (Nat.lt_of_lt_of_le h hN)).trans (hE p h)
            have hE := hE9
            have hN : xct st ≤ xct o51.2.2.2 := Nat.le_trans hN hn60
            refine W.eq (g2 := F0 m 19 ls []) (by first | rfl | (skip; rfl)) ?_
            refine lv_iinc (v := 5) (lv' := [(2, .int 5), (0, .ref aM), (1, .ref (aK 11))]) hx hb dM_put1_19 hl (k := 0) rfl rfl (by decide) rfl (fun ls hl => ?_)
            refine lv_goto (tgt := 2) hx hb dM_put1_22 (by decide) ?_
            refine lv_iload_n hx hb dM_put1_2 rfl (lv_at hl 0 rfl) ?_
            refine lv_aload_n hx hb dM_put1_3 rfl (lv_at hl 2 rfl) ?_
            refine va_calli (va_runV (C := "java/lang/String") (As := []) (rest := [.int 5]) ⟨hx, hb, hml, hown, htx⟩ (cJS_length_1 l hl9 D cT aK aV H.size) ⟨callB_of 0 htx (xw_goodC kw_2_70) rfl rfl rfl (htx _ kw_1_6) (htx _ kw_5_238) ⟨by decide, by decide, by decide +kernel⟩ ⟨Nat.le_of_ble_eq_true rfl, Nat.le_of_ble_eq_true rfl⟩, (htx _ kw_2_68), (htx _ kw_2_69)⟩ ⟨xPre_blind, vk_recv hZ.2.2.2.2.2.2.2.2.2.1 (i := 11) (by decide) hS, (fun U hU hW => ⟨rfl, xPre_of hZ hS (xm_free0 hS hA) xm_Pnil xm_Dnil hK U hU hW⟩)⟩ rfl rfl hl.1 rfl (lv_room (Nat.le_of_ble_eq_true rfl)) dM_put1_4 ⟨(hm54.1), (hm54.2)⟩) hS (fun q _ h => xm_free0 hS hA q h) (xm_free0 hS hA) (fun r61 u9 t H1 locs ht hvm hr9 hB hz1 hk1 hS => ?_)
            replace hP := xm_keep hP hk1
            generalize H1 = H at hP hS ⊢
            rw [hr9]
            refine W.eq (g2 := F0 m 7 ls [.int 5, .int 5]) (by first | rfl | rw [xv1 (Nat.succ_ne_zero _)]) ?_
            refine lv_icmp_ge (tgt := 25) hx hb dM_put1_7 (by decide) (fun _ => ?_) (fun h => ((by revert h; decide : False)).elim)
            obtain rfl := Option.some.inj hf
            exact W.vret hx hb hr (fun t ht hW => ⟨⟨(ad56, gd57, vad58), rfl, ⟨hE, hN⟩, by rw [ht]; exact hP, va_K.moved hW.alike hK, hD⟩, hS.F ht⟩) hS.2.2 dM_put1_25
          rw [if_neg hk53] at hf
          by_cases hk62 : o51.1 = 1
          · rw [if_pos hk62] at hf
            obtain ⟨hm63, hf⟩ := xmoE hf
            obtain rfl := Option.some.inj hf
            exact absurd (show (1 : Nat) = 0 from hkd) (by decide)
          rw [if_neg hk62] at hf
          exact nomatch hf
        rw [if_neg hk41] at hf
        by_cases hk70 : o39.1 = 1
        · rw [if_pos hk70] at hf
          obtain ⟨hm71, hf⟩ := xmoE hf
          obtain rfl := Option.some.inj hf
          exact absurd (show (1 : Nat) = 0 from hkd) (by decide)
        rw [if_neg hk70] at hf
        exact nomatch hf
      rw [if_neg hk29] at hf
      by_cases hk78 : o27.1 = 1
      · rw [if_pos hk78] at hf
        obtain ⟨hm79, hf⟩ := xmoE hf
        obtain rfl := Option.some.inj hf
        exact absurd (show (1 : Nat) = 0 from hkd) (by decide)
      rw [if_neg hk78] at hf
      exact nomatch hf
    rw [if_neg hk17] at hf
    by_cases hk86 : o15.1 = 1
    · rw [if_pos hk86] at hf
      obtain ⟨hm87, hf⟩ := xmoE hf
      obtain rfl := Option.some.inj hf
      exact absurd (show (1 : Nat) = 0 from hkd) (by decide)
    rw [if_neg hk86] at hf
    exact nomatch hf
  rw [if_neg hk5] at hf
  by_cases hk94 : o3.1 = 1
  · rw [if_pos hk94] at hf
    obtain ⟨hm95, hf⟩ := xmoE hf
    obtain rfl := Option.some.inj hf
    exact absurd (show (1 : Nat) = 0 from hkd) (by decide)
  rw [if_neg hk94] at hf
  exact nomatch hf
set_option maxHeartbeats 400000000 in
set_option maxRecDepth 100000 in
theorem gM_put1a_1 (l : Launch) (hl9 : l.stackTraces = false) (D : va_G) (cT : Nat → ClassId) (aK aV : Nat → Nat) (sz n : Nat) (aM : Nat) (ad rd gd vad : Nat → Nat) (st : xS) (out : Nat × Nat × Nat × xS) (hf : fM_put1a n st = some out) (hkd : out.1 = 1) : xMetY l yM_put1 wyM_put1 7 out.2.1 out.2.2.1 123 D cT aK aV sz [.ref aM, .ref (aK 11)] (xMw cT aM ad rd gd vad st []) "java/lang/IndexOutOfBoundsException" (fun u => xE vad st out.2.2.2 u) (fun A u t => xB D xcl cT A (xMw cT aM u.1 rd u.2.1 u.2.2 out.2.2.2 []) t) := by
  refine vx_ofW (cc := prog_13_method_42_code) (maxL := 3) (ret := none) (by decide) rfl ?_
  intro p e s m args below meth c s₁ B hml hne hv
  obtain ⟨rfl, hsz, hZ, hP, hK, hD0⟩ := hv
  have hx := B.exec
  have hb := B.bytes
  have hr := B.returns
  have hts := atoms_spec (ws := wyM_put1) B.pre
  have htx := fun w h => hts w (List.mem_cons_of_mem _ h)
  have hown : s.vm.findClass "ValueBenchModel" = some m.cls := findClass_of_methodNamed B.named
  have hlocks := B.notSynchronized
  subst hsz
  have hD := hD0.self (sz := s.heap.size)
  generalize hAe : va_A (xMw cT aM ad rd gd vad st []) s.heap.size = A at hD hZ ⊢
  have hA : ∀ q : Nat, s.heap.size ≤ q → A q := fun q h => by rw [← hAe]; exact Or.inr h
  have hS : va_S A s.heap s.heap [] := va_S.rf
  have hl := lv_entry ([.ref aM, .ref (aK 11)]) (n := 3) (by simp [lg_sl, xvcat, xrscat, xcI, xcL, xcR, xcN])
  rw [show lv_args 0 [.ref aM, .ref (aK 11)] = [(0, .ref aM), (1, .ref (aK 11))] from by simp [lv_args, xvcat, xrscat, xcI, xcL, xcR, xcN]] at hl
  rw [lg_entry_eq]
  generalize (lg_sl ([.ref aM, .ref (aK 11)]) ++ List.replicate (3 - (lg_sl ([.ref aM, .ref (aK 11)])).length) Slot.unset).toArray = ls at hl ⊢
  have hl : lv_has ls 3 [(0, .ref aM), (1, .ref (aK 11))] := hl
  have hE : ∀ p, p < xct st → vad p = vad p := fun _ _ => rfl
  have hN : xct st ≤ xct st := Nat.le_refl _
  unfold fM_put1a at hf
  refine lv_iconst (v := 0) hx hb dM_put1_0 (by decide) ?_
  refine lv_istore_n (lv' := [(2, .int 0), (0, .ref aM), (1, .ref (aK 11))]) hx hb dM_put1_1 rfl hl (by decide) rfl (fun ls hl => ?_)
  refine lv_iload_n hx hb dM_put1_2 rfl (lv_at hl 0 rfl) ?_
  refine lv_aload_n hx hb dM_put1_3 rfl (lv_at hl 2 rfl) ?_
  refine va_calli (va_runV (C := "java/lang/String") (As := []) (rest := [.int 0]) ⟨hx, hb, hml, hown, htx⟩ (cJS_length_1 l hl9 D cT aK aV s.heap.size) ⟨callB_of 0 htx (xw_goodC kw_2_70) rfl rfl rfl (htx _ kw_1_6) (htx _ kw_5_238) ⟨by decide, by decide, by decide +kernel⟩ ⟨Nat.le_of_ble_eq_true rfl, Nat.le_of_ble_eq_true rfl⟩, (htx _ kw_2_68), (htx _ kw_2_69)⟩ ⟨xPre_blind, vk_recv hZ.2.2.2.2.2.2.2.2.2.1 (i := 11) (by decide) hS, (fun U hU hW => ⟨rfl, xPre_of hZ hS (xm_free0 hS hA) xm_Pnil xm_Dnil hK U hU hW⟩)⟩ rfl rfl hl.1 rfl (lv_room (Nat.le_of_ble_eq_true rfl)) dM_put1_4 ⟨(Nat.zero_le _), (Nat.zero_le _)⟩) hS (fun q _ h => xm_free0 hS hA q h) (xm_free0 hS hA) (fun r1 u9 t H1 locs ht hvm hr9 hB hz1 hk1 hS => ?_)
  replace hP := xm_keep hP hk1
  generalize H1 = H at hP hS ⊢
  rw [hr9]
  refine W.eq (g2 := F0 m 7 ls [.int 5, .int 0]) (by first | rfl | rw [xv1 (Nat.succ_ne_zero _)]) ?_
  refine lv_icmp_ge (tgt := 25) hx hb dM_put1_7 (by decide) (fun h => ((by revert h; decide : False)).elim) (fun _ => ?_)
  refine lv_aload_n hx hb dM_put1_10 rfl (lv_at hl 1 rfl) ?_
  refine lv_aload_n hx hb dM_put1_11 rfl (lv_at hl 2 rfl) ?_
  refine lv_iload_n hx hb dM_put1_12 rfl (lv_at hl 0 rfl) ?_
  refine va_calli (va_runV (C := "java/lang/String") (As := [.int 0]) (rest := [.ref aM]) ⟨hx, hb, hml, hown, htx⟩ (cJS_charAt_4 l hl9 D cT aK aV H.size) ⟨callB_of 1 htx (xw_goodC kw_2_80) rfl rfl rfl (htx _ kw_1_6) (htx _ kw_5_86) ⟨by decide, by decide, by decide +kernel⟩ ⟨Nat.le_of_ble_eq_true rfl, Nat.le_of_ble_eq_true rfl⟩, (htx _ kw_2_78), (htx _ kw_2_79)⟩ ⟨xPre_blind, vk_recv hZ.2.2.2.2.2.2.2.2.2.1 (i := 11) (by decide) hS, (fun U hU hW => ⟨rfl, xPre_of hZ hS (xm_free0 hS hA) xm_Pnil xm_Dnil hK U hU hW⟩)⟩ rfl rfl hl.1 rfl (lv_room (Nat.le_of_ble_eq_true rfl)) dM_put1_13 ⟨(Nat.zero_le _), (Nat.zero_le _)⟩) hS (fun q _ h => xm_free0 hS hA q h) (xm_free0 hS hA) (fun r2 u9 t H1 locs ht hvm hr9 hB hz1 hk1 hS => ?_)
  replace hP := xm_keep hP hk1
  generalize H1 = H at hP hS ⊢
  rw [hr9]
  refine W.eq (g2 := F0 m 16 ls [.int 102, .ref aM]) (by first | rfl | rw [xv1 (Nat.succ_ne_zero _)]) ?_
  obtain ⟨o3, hq4, hf⟩ := xbind hf
  by_cases hk5 : o3.1 = 0
  · rw [if_pos hk5] at hf
    obtain ⟨hm6, hf⟩ := xmoE hf
    have hFc := xm_free hD hS hA
    refine va_callv (va_runV (C := "ValueBenchModel") (As := [.int 102]) (rest := []) ⟨hx, hb, hml, hown, htx⟩ (gM_put0 l hl9 D cT aK aV H.size n aM ad rd gd vad st (102 : Int32) o3 hq4 hk5) ⟨callB_of 1 htx (xw_goodC kw_6_136) rfl rfl rfl (htx _ kw_1_5) (htx _ kw_6_133) ⟨by decide, by decide, by decide +kernel⟩ ⟨Nat.le_of_ble_eq_true rfl, Nat.le_of_ble_eq_true rfl⟩, (htx _ kw_6_135), (htx _ kp_M_put0)⟩ ⟨xPre_blind, va_recv hK hP (ci := 5) rfl (q0 := 0) rfl, (fun U hU hW => ⟨rfl, xPre_of hZ hS hFc hP hD hK U hU hW⟩)⟩ rfl rfl hl.1 rfl (xm_room (Nat.le_of_ble_eq_true rfl)) dM_put1_16 ⟨hm6.1, hm6.2⟩) hS (fun q _ h => hFc q h) hFc (fun u9 t H1 locs ht hvm hr9 hB hz1 hk1 hS => ?_)
    obtain ⟨hP1, hK1, hD1⟩ := hB
    rw [ht] at hP1
    obtain ⟨ad8, gd9, vad10⟩ := u9
    obtain ⟨hv11, hn12⟩ := hr9
    have hP : va_P D xcl (xMw cT aM ad8 rd gd9 vad10 o3.2.2.2 []) H1 := hP1
    have hD : va_D A (xMw cT aM ad8 rd gd9 vad10 o3.2.2.2 []) := hD1.weaken (fun k q _ h => hFc q.1 h)
    generalize H1 = H at hP hS ⊢
    have hE9 : ∀ p, p < xct st → vad10 p = vad p := fun p h => (hv11 p (Nat.lt_of_lt_of_le h hN)).trans (hE p h)
    have hE := hE9
    have hN : xct st ≤ xct o3.2.2.2 := Nat.le_trans hN hn12
    refine W.eq (g2 := F0 m 19 ls []) (by first | rfl | (skip; rfl)) ?_
    refine lv_iinc (v := 1) (lv' := [(2, .int 1), (0, .ref aM), (1, .ref (aK 11))]) hx hb dM_put1_19 hl (k := 0) rfl rfl (by decide) rfl (fun ls hl => ?_)
    refine lv_goto (tgt := 2) hx hb dM_put1_22 (by decide) ?_
    refine lv_iload_n hx hb dM_put1_2 rfl (lv_at hl 0 rfl) ?_
    refine lv_aload_n hx hb dM_put1_3 rfl (lv_at hl 2 rfl) ?_
    refine va_calli (va_runV (C := "java/lang/String") (As := []) (rest := [.int 1]) ⟨hx, hb, hml, hown, htx⟩ (cJS_length_1 l hl9 D cT aK aV H.size) ⟨callB_of 0 htx (xw_goodC kw_2_70) rfl rfl rfl (htx _ kw_1_6) (htx _ kw_5_238) ⟨by decide, by decide, by decide +kernel⟩ ⟨Nat.le_of_ble_eq_true rfl, Nat.le_of_ble_eq_true rfl⟩, (htx _ kw_2_68), (htx _ kw_2_69)⟩ ⟨xPre_blind, vk_recv hZ.2.2.2.2.2.2.2.2.2.1 (i := 11) (by decide) hS, (fun U hU hW => ⟨rfl, xPre_of hZ hS (xm_free0 hS hA) xm_Pnil xm_Dnil hK U hU hW⟩)⟩ rfl rfl hl.1 rfl (lv_room (Nat.le_of_ble_eq_true rfl)) dM_put1_4 ⟨(hm6.1), (hm6.2)⟩) hS (fun q _ h => xm_free0 hS hA q h) (xm_free0 hS hA) (fun r13 u9 t H1 locs ht hvm hr9 hB hz1 hk1 hS => ?_)
    replace hP := xm_keep hP hk1
    generalize H1 = H at hP hS ⊢
    rw [hr9]
    refine W.eq (g2 := F0 m 7 ls [.int 5, .int 1]) (by first | rfl | rw [xv1 (Nat.succ_ne_zero _)]) ?_
    refine lv_icmp_ge (tgt := 25) hx hb dM_put1_7 (by decide) (fun h => ((by revert h; decide : False)).elim) (fun _ => ?_)
    refine lv_aload_n hx hb dM_put1_10 rfl (lv_at hl 1 rfl) ?_
    refine lv_aload_n hx hb dM_put1_11 rfl (lv_at hl 2 rfl) ?_
    refine lv_iload_n hx hb dM_put1_12 rfl (lv_at hl 0 rfl) ?_
    refine va_calli (va_runV (C := "java/lang/String") (As := [.int 1]) (rest := [.ref aM]) ⟨hx, hb, hml, hown, htx⟩ (cJS_charAt_5 l hl9 D cT aK aV H.size) ⟨callB_of 1 htx (xw_goodC kw_2_80) rfl rfl rfl (htx _ kw_1_6) (htx _ kw_5_86) ⟨by decide, by decide, by decide +kernel⟩ ⟨Nat.le_of_ble_eq_true rfl, Nat.le_of_ble_eq_true rfl⟩, (htx _ kw_2_78), (htx _ kw_2_79)⟩ ⟨xPre_blind, vk_recv hZ.2.2.2.2.2.2.2.2.2.1 (i := 11) (by decide) hS, (fun U hU hW => ⟨rfl, xPre_of hZ hS (xm_free0 hS hA) xm_Pnil xm_Dnil hK U hU hW⟩)⟩ rfl rfl hl.1 rfl (lv_room (Nat.le_of_ble_eq_true rfl)) dM_put1_13 ⟨(hm6.1), (hm6.2)⟩) hS (fun q _ h => xm_free0 hS hA q h) (xm_free0 hS hA) (fun r14 u9 t H1 locs ht hvm hr9 hB hz1 hk1 hS => ?_)
    replace hP := xm_keep hP hk1
    generalize H1 = H at hP hS ⊢
    rw [hr9]
    refine W.eq (g2 := F0 m 16 ls [.int 97, .ref aM]) (by first | rfl | rw [xv1 (Nat.succ_ne_zero _)]) ?_
    obtain ⟨o15, hq16, hf⟩ := xbind hf
    by_cases hk17 : o15.1 = 0
    · rw [if_pos hk17] at hf
      obtain ⟨hm18, hf⟩ := xmoE hf
      have hFc := xm_free hD hS hA
      refine va_callv (va_runV (C := "ValueBenchModel") (As := [.int 97]) (rest := []) ⟨hx, hb, hml, hown, htx⟩ (gM_put0 l hl9 D cT aK aV H.size n aM ad8 rd gd9 vad10 o3.2.2.2 (97 : Int32) o15 hq16 hk17) ⟨callB_of 1 htx (xw_goodC kw_6_136) rfl rfl rfl (htx _ kw_1_5) (htx _ kw_6_133) ⟨by decide, by decide, by decide +kernel⟩ ⟨Nat.le_of_ble_eq_true rfl, Nat.le_of_ble_eq_true rfl⟩, (htx _ kw_6_135), (htx _ kp_M_put0)⟩ ⟨xPre_blind, va_recv hK hP (ci := 5) rfl (q0 := 0) rfl, (fun U hU hW => ⟨rfl, xPre_of hZ hS hFc hP hD hK U hU hW⟩)⟩ rfl rfl hl.1 rfl (xm_room (Nat.le_of_ble_eq_true rfl)) dM_put1_16 ⟨hm18.1, hm18.2⟩) hS (fun q _ h => hFc q h) hFc (fun u9 t H1 locs ht hvm hr9 hB hz1 hk1 hS => ?_)
      obtain ⟨hP1, hK1, hD1⟩ := hB
      rw [ht] at hP1
      obtain ⟨ad20, gd21, vad22⟩ := u9
      obtain ⟨hv23, hn24⟩ := hr9
      have hP : va_P D xcl (xMw cT aM ad20 rd gd21 vad22 o15.2.2.2 []) H1 := hP1
      have hD : va_D A (xMw cT aM ad20 rd gd21 vad22 o15.2.2.2 []) := hD1.weaken (fun k q _ h => hFc q.1 h)
      generalize H1 = H at hP hS ⊢
      have hE9 : ∀ p, p < xct st → vad22 p = vad p := fun p h => (hv23 p (Nat.lt_of_lt_of_le h hN)).trans (hE p h)
      have hE := hE9
      have hN : xct st ≤ xct o15.2.2.2 := Nat.le_trans hN hn24
      refine W.eq (g2 := F0 m 19 ls []) (by first | rfl | (skip; rfl)) ?_
      refine lv_iinc (v := 2) (lv' := [(2, .int 2), (0, .ref aM), (1, .ref (aK 11))]) hx hb dM_put1_19 hl (k := 0) rfl rfl (by decide) rfl (fun ls hl => ?_)
      refine lv_goto (tgt := 2) hx hb dM_put1_22 (by decide) ?_
      refine lv_iload_n hx hb dM_put1_2 rfl (lv_at hl 0 rfl) ?_
      refine lv_aload_n hx hb dM_put1_3 rfl (lv_at hl 2 rfl) ?_
      refine va_calli (va_runV (C := "java/lang/String") (As := []) (rest := [.int 2]) ⟨hx, hb, hml, hown, htx⟩ (cJS_length_1 l hl9 D cT aK aV H.size) ⟨callB_of 0 htx (xw_goodC kw_2_70) rfl rfl rfl (htx _ kw_1_6) (htx _ kw_5_238) ⟨by decide, by decide, by decide +kernel⟩ ⟨Nat.le_of_ble_eq_true rfl, Nat.le_of_ble_eq_true rfl⟩, (htx _ kw_2_68), (htx _ kw_2_69)⟩ ⟨xPre_blind, vk_recv hZ.2.2.2.2.2.2.2.2.2.1 (i := 11) (by decide) hS, (fun U hU hW => ⟨rfl, xPre_of hZ hS (xm_free0 hS hA) xm_Pnil xm_Dnil hK U hU hW⟩)⟩ rfl rfl hl.1 rfl (lv_room (Nat.le_of_ble_eq_true rfl)) dM_put1_4 ⟨(hm18.1), (hm18.2)⟩) hS (fun q _ h => xm_free0 hS hA q h) (xm_free0 hS hA) (fun r25 u9 t H1 locs ht hvm hr9 hB hz1 hk1 hS => ?_)
      replace hP := xm_keep hP hk1
      generalize H1 = H at hP hS ⊢
      rw [hr9]
      refine W.eq (g2 := F0 m 7 ls [.int 5, .int 2]) (by first | rfl | rw [xv1 (Nat.succ_ne_zero _)]) ?_
      refine lv_icmp_ge (tgt := 25) hx hb dM_put1_7 (by decide) (fun h => ((by revert h; decide : False)).elim) (fun _ => ?_)
      refine lv_aload_n hx hb dM_put1_10 rfl (lv_at hl 1 rfl) ?_
      refine lv_aload_n hx hb dM_put1_11 rfl (lv_at hl 2 rfl) ?_
      refine lv_iload_n hx hb dM_put1_12 rfl (lv_at hl 0 rfl) ?_
      refine va_calli (va_runV (C := "java/lang/String") (As := [.int 2]) (rest := [.ref aM]) ⟨hx, hb, hml, hown, htx⟩ (cJS_charAt_6 l hl9 D cT aK aV H.size) ⟨callB_of 1 htx (xw_goodC kw_2_80) rfl rfl rfl (htx _ kw_1_6) (htx _ kw_5_86) ⟨by decide, by decide, by decide +kernel⟩ ⟨Nat.le_of_ble_eq_true rfl, Nat.le_of_ble_eq_true rfl⟩, (htx _ kw_2_78), (htx _ kw_2_79)⟩ ⟨xPre_blind, vk_recv hZ.2.2.2.2.2.2.2.2.2.1 (i := 11) (by decide) hS, (fun U hU hW => ⟨rfl, xPre_of hZ hS (xm_free0 hS hA) xm_Pnil xm_Dnil hK U hU hW⟩)⟩ rfl rfl hl.1 rfl (lv_room (Nat.le_of_ble_eq_true rfl)) dM_put1_13 ⟨(hm18.1), (hm18.2)⟩) hS (fun q _ h => xm_free0 hS hA q h) (xm_free0 hS hA) (fun r26 u9 t H1 locs ht hvm hr9 hB hz1 hk1 hS => ?_)
      replace hP := xm_keep hP hk1
      generalize H1 = H at hP hS ⊢
      rw [hr9]
      refine W.eq (g2 := F0 m 16 ls [.int 108, .ref aM]) (by first | rfl | rw [xv1 (Nat.succ_ne_zero _)]) ?_
      obtain ⟨o27, hq28, hf⟩ := xbind hf
      by_cases hk29 : o27.1 = 0
      · rw [if_pos hk29] at hf
        obtain ⟨hm30, hf⟩ := xmoE hf
        have hFc := xm_free hD hS hA
        refine va_callv (va_runV (C := "ValueBenchModel") (As := [.int 108]) (rest := []) ⟨hx, hb, hml, hown, htx⟩ (gM_put0 l hl9 D cT aK aV H.size n aM ad20 rd gd21 vad22 o15.2.2.2 (108 : Int32) o27 hq28 hk29) ⟨callB_of 1 htx (xw_goodC kw_6_136) rfl rfl rfl (htx _ kw_1_5) (htx _ kw_6_133) ⟨by decide, by decide, by decide +kernel⟩ ⟨Nat.le_of_ble_eq_true rfl, Nat.le_of_ble_eq_true rfl⟩, (htx _ kw_6_135), (htx _ kp_M_put0)⟩ ⟨xPre_blind, va_recv hK hP (ci := 5) rfl (q0 := 0) rfl, (fun U hU hW => ⟨rfl, xPre_of hZ hS hFc hP hD hK U hU hW⟩)⟩ rfl rfl hl.1 rfl (xm_room (Nat.le_of_ble_eq_true rfl)) dM_put1_16 ⟨hm30.1, hm30.2⟩) hS (fun q _ h => hFc q h) hFc (fun u9 t H1 locs ht hvm hr9 hB hz1 hk1 hS => ?_)
        obtain ⟨hP1, hK1, hD1⟩ := hB
        rw [ht] at hP1
        obtain ⟨ad32, gd33, vad34⟩ := u9
        obtain ⟨hv35, hn36⟩ := hr9
        have hP : va_P D xcl (xMw cT aM ad32 rd gd33 vad34 o27.2.2.2 []) H1 := hP1
        have hD : va_D A (xMw cT aM ad32 rd gd33 vad34 o27.2.2.2 []) := hD1.weaken (fun k q _ h => hFc q.1 h)
        generalize H1 = H at hP hS ⊢
        have hE9 : ∀ p, p < xct st → vad34 p = vad p := fun p h => (hv35 p (Nat.lt_of_lt_of_le h hN)).trans (hE p h)
        have hE := hE9
        have hN : xct st ≤ xct o27.2.2.2 := Nat.le_trans hN hn36
        refine W.eq (g2 := F0 m 19 ls []) (by first | rfl | (skip; rfl)) ?_
        refine lv_iinc (v := 3) (lv' := [(2, .int 3), (0, .ref aM), (1, .ref (aK 11))]) hx hb dM_put1_19 hl (k := 0) rfl rfl (by decide) rfl (fun ls hl => ?_)
        refine lv_goto (tgt := 2) hx hb dM_put1_22 (by decide) ?_
        refine lv_iload_n hx hb dM_put1_2 rfl (lv_at hl 0 rfl) ?_
        refine lv_aload_n hx hb dM_put1_3 rfl (lv_at hl 2 rfl) ?_
        refine va_calli (va_runV (C := "java/lang/String") (As := []) (rest := [.int 3]) ⟨hx, hb, hml, hown, htx⟩ (cJS_length_1 l hl9 D cT aK aV H.size) ⟨callB_of 0 htx (xw_goodC kw_2_70) rfl rfl rfl (htx _ kw_1_6) (htx _ kw_5_238) ⟨by decide, by decide, by decide +kernel⟩ ⟨Nat.le_of_ble_eq_true rfl, Nat.le_of_ble_eq_true rfl⟩, (htx _ kw_2_68), (htx _ kw_2_69)⟩ ⟨xPre_blind, vk_recv hZ.2.2.2.2.2.2.2.2.2.1 (i := 11) (by decide) hS, (fun U hU hW => ⟨rfl, xPre_of hZ hS (xm_free0 hS hA) xm_Pnil xm_Dnil hK U hU hW⟩)⟩ rfl rfl hl.1 rfl (lv_room (Nat.le_of_ble_eq_true rfl)) dM_put1_4 ⟨(hm30.1), (hm30.2)⟩) hS (fun q _ h => xm_free0 hS hA q h) (xm_free0 hS hA) (fun r37 u9 t H1 locs ht hvm hr9 hB hz1 hk1 hS => ?_)
        replace hP := xm_keep hP hk1
        generalize H1 = H at hP hS ⊢
        rw [hr9]
        refine W.eq (g2 := F0 m 7 ls [.int 5, .int 3]) (by first | rfl | rw [xv1 (Nat.succ_ne_zero _)]) ?_
        refine lv_icmp_ge (tgt := 25) hx hb dM_put1_7 (by decide) (fun h => ((by revert h; decide : False)).elim) (fun _ => ?_)
        refine lv_aload_n hx hb dM_put1_10 rfl (lv_at hl 1 rfl) ?_
        refine lv_aload_n hx hb dM_put1_11 rfl (lv_at hl 2 rfl) ?_
        refine lv_iload_n hx hb dM_put1_12 rfl (lv_at hl 0 rfl) ?_
        refine va_calli (va_runV (C := "java/lang/String") (As := [.int 3]) (rest := [.ref aM]) ⟨hx, hb, hml, hown, htx⟩ (cJS_charAt_7 l hl9 D cT aK aV H.size) ⟨callB_of 1 htx (xw_goodC kw_2_80) rfl rfl rfl (htx _ kw_1_6) (htx _ kw_5_86) ⟨by decide, by decide, by decide +kernel⟩ ⟨Nat.le_of_ble_eq_true rfl, Nat.le_of_ble_eq_true rfl⟩, (htx _ kw_2_78), (htx _ kw_2_79)⟩ ⟨xPre_blind, vk_recv hZ.2.2.2.2.2.2.2.2.2.1 (i := 11) (by decide) hS, (fun U hU hW => ⟨rfl, xPre_of hZ hS (xm_free0 hS hA) xm_Pnil xm_Dnil hK U hU hW⟩)⟩ rfl rfl hl.1 rfl (lv_room (Nat.le_of_ble_eq_true rfl)) dM_put1_13 ⟨(hm30.1), (hm30.2)⟩) hS (fun q _ h => xm_free0 hS hA q h) (xm_free0 hS hA) (fun r38 u9 t H1 locs ht hvm hr9 hB hz1 hk1 hS => ?_)
        replace hP := xm_keep hP hk1
        generalize H1 = H at hP hS ⊢
        rw [hr9]
        refine W.eq (g2 := F0 m 16 ls [.int 115, .ref aM]) (by first | rfl | rw [xv1 (Nat.succ_ne_zero _)]) ?_
        obtain ⟨o39, hq40, hf⟩ := xbind hf
        by_cases hk41 : o39.1 = 0
        · rw [if_pos hk41] at hf
          obtain ⟨hm42, hf⟩ := xmoE hf
          have hFc := xm_free hD hS hA
          refine va_callv (va_runV (C := "ValueBenchModel") (As := [.int 115]) (rest := []) ⟨hx, hb, hml, hown, htx⟩ (gM_put0 l hl9 D cT aK aV H.size n aM ad32 rd gd33 vad34 o27.2.2.2 (115 : Int32) o39 hq40 hk41) ⟨callB_of 1 htx (xw_goodC kw_6_136) rfl rfl rfl (htx _ kw_1_5) (htx _ kw_6_133) ⟨by decide, by decide, by decide +kernel⟩ ⟨Nat.le_of_ble_eq_true rfl, Nat.le_of_ble_eq_true rfl⟩, (htx _ kw_6_135), (htx _ kp_M_put0)⟩ ⟨xPre_blind, va_recv hK hP (ci := 5) rfl (q0 := 0) rfl, (fun U hU hW => ⟨rfl, xPre_of hZ hS hFc hP hD hK U hU hW⟩)⟩ rfl rfl hl.1 rfl (xm_room (Nat.le_of_ble_eq_true rfl)) dM_put1_16 ⟨hm42.1, hm42.2⟩) hS (fun q _ h => hFc q h) hFc (fun u9 t H1 locs ht hvm hr9 hB hz1 hk1 hS => ?_)
          obtain ⟨hP1, hK1, hD1⟩ := hB
          rw [ht] at hP1
          obtain ⟨ad44, gd45, vad46⟩ := u9
          obtain ⟨hv47, hn48⟩ := hr9
          have hP : va_P D xcl (xMw cT aM ad44 rd gd45 vad46 o39.2.2.2 []) H1 := hP1
          have hD : va_D A (xMw cT aM ad44 rd gd45 vad46 o39.2.2.2 []) := hD1.weaken (fun k q _ h => hFc q.1 h)
          generalize H1 = H at hP hS ⊢
          have hE9 : ∀ p, p < xct st → vad46 p = vad p := fun p h => (hv47 p (Nat.lt_of_lt_of_le h hN)).trans (hE p h)
          have hE := hE9
          have hN : xct st ≤ xct o39.2.2.2 := Nat.le_trans hN hn48
          refine W.eq (g2 := F0 m 19 ls []) (by first | rfl | (skip; rfl)) ?_
          refine lv_iinc (v := 4) (lv' := [(2, .int 4), (0, .ref aM), (1, .ref (aK 11))]) hx hb dM_put1_19 hl (k := 0) rfl rfl (by decide) rfl (fun ls hl => ?_)
          refine lv_goto (tgt := 2) hx hb dM_put1_22 (by decide) ?_
          refine lv_iload_n hx hb dM_put1_2 rfl (lv_at hl 0 rfl) ?_
          refine lv_aload_n hx hb dM_put1_3 rfl (lv_at hl 2 rfl) ?_
          refine va_calli (va_runV (C := "java/lang/String") (As := []) (rest := [.int 4]) ⟨hx, hb, hml, hown, htx⟩ (cJS_length_1 l hl9 D cT aK aV H.size) ⟨callB_of 0 htx (xw_goodC kw_2_70) rfl rfl rfl (htx _ kw_1_6) (htx _ kw_5_238) ⟨by decide, by decide, by decide +kernel⟩ ⟨Nat.le_of_ble_eq_true rfl, Nat.le_of_ble_eq_true rfl⟩, (htx _ kw_2_68), (htx _ kw_2_69)⟩ ⟨xPre_blind, vk_recv hZ.2.2.2.2.2.2.2.2.2.1 (i := 11) (by decide) hS, (fun U hU hW => ⟨rfl, xPre_of hZ hS (xm_free0 hS hA) xm_Pnil xm_Dnil hK U hU hW⟩)⟩ rfl rfl hl.1 rfl (lv_room (Nat.le_of_ble_eq_true rfl)) dM_put1_4 ⟨(hm42.1), (hm42.2)⟩) hS (fun q _ h => xm_free0 hS hA q h) (xm_free0 hS hA) (fun r49 u9 t H1 locs ht hvm hr9 hB hz1 hk1 hS => ?_)
          replace hP := xm_keep hP hk1
          generalize H1 = H at hP hS ⊢
          rw [hr9]
          refine W.eq (g2 := F0 m 7 ls [.int 5, .int 4]) (by first | rfl | rw [xv1 (Nat.succ_ne_zero _)]) ?_
          refine lv_icmp_ge (tgt := 25) hx hb dM_put1_7 (by decide) (fun h => ((by revert h; decide : False)).elim) (fun _ => ?_)
          refine lv_aload_n hx hb dM_put1_10 rfl (lv_at hl 1 rfl) ?_
          refine lv_aload_n hx hb dM_put1_11 rfl (lv_at hl 2 rfl) ?_
          refine lv_iload_n hx hb dM_put1_12 rfl (lv_at hl 0 rfl) ?_
          refine va_calli (va_runV (C := "java/lang/String") (As := [.int 4]) (rest := [.ref aM]) ⟨hx, hb, hml, hown, htx⟩ (cJS_charAt_8 l hl9 D cT aK aV H.size) ⟨callB_of 1 htx (xw_goodC kw_2_80) rfl rfl rfl (htx _ kw_1_6) (htx _ kw_5_86) ⟨by decide, by decide, by decide +kernel⟩ ⟨Nat.le_of_ble_eq_true rfl, Nat.le_of_ble_eq_true rfl⟩, (htx _ kw_2_78), (htx _ kw_2_79)⟩ ⟨xPre_blind, vk_recv hZ.2.2.2.2.2.2.2.2.2.1 (i := 11) (by decide) hS, (fun U hU hW => ⟨rfl, xPre_of hZ hS (xm_free0 hS hA) xm_Pnil xm_Dnil hK U hU hW⟩)⟩ rfl rfl hl.1 rfl (lv_room (Nat.le_of_ble_eq_true rfl)) dM_put1_13 ⟨(hm42.1), (hm42.2)⟩) hS (fun q _ h => xm_free0 hS hA q h) (xm_free0 hS hA) (fun r50 u9 t H1 locs ht hvm hr9 hB hz1 hk1 hS => ?_)
          replace hP := xm_keep hP hk1
          generalize H1 = H at hP hS ⊢
          rw [hr9]
          refine W.eq (g2 := F0 m 16 ls [.int 101, .ref aM]) (by first | rfl | rw [xv1 (Nat.succ_ne_zero _)]) ?_
          obtain ⟨o51, hq52, hf⟩ := xbind hf
          by_cases hk53 : o51.1 = 0
          · rw [if_pos hk53] at hf
            obtain ⟨hm54, hf⟩ := xmoE hf
            have hFc := xm_free hD hS hA
            refine va_callv (va_runV (C := "ValueBenchModel") (As := [.int 101]) (rest := []) ⟨hx, hb, hml, hown, htx⟩ (gM_put0 l hl9 D cT aK aV H.size n aM ad44 rd gd45 vad46 o39.2.2.2 (101 : Int32) o51 hq52 hk53) ⟨callB_of 1 htx (xw_goodC kw_6_136) rfl rfl rfl (htx _ kw_1_5) (htx _ kw_6_133) ⟨by decide, by decide, by decide +kernel⟩ ⟨Nat.le_of_ble_eq_true rfl, Nat.le_of_ble_eq_true rfl⟩, (htx _ kw_6_135), (htx _ kp_M_put0)⟩ ⟨xPre_blind, va_recv hK hP (ci := 5) rfl (q0 := 0) rfl, (fun U hU hW => ⟨rfl, xPre_of hZ hS hFc hP hD hK U hU hW⟩)⟩ rfl rfl hl.1 rfl (xm_room (Nat.le_of_ble_eq_true rfl)) dM_put1_16 ⟨hm54.1, hm54.2⟩) hS (fun q _ h => hFc q h) hFc (fun u9 t H1 locs ht hvm hr9 hB hz1 hk1 hS => ?_)
            obtain ⟨hP1, hK1, hD1⟩ := hB
            rw [ht] at hP1
            obtain ⟨ad56, gd57, vad58⟩ := u9
            obtain ⟨hv59, hn60⟩ := hr9
            have hP : va_P D xcl (xMw cT aM ad56 rd gd57 vad58 o51.2.2.2 []) H1 := hP1
            have hD : va_D A (xMw cT aM ad56 rd gd57 vad58 o51.2.2.2 []) := hD1.weaken (fun k q _ h => hFc q.1 h)
            generalize H1 = H at hP hS ⊢
            have hE9 : ∀ p, p < xct st → vad58 p = vad p := fun p h => (hv59 p (Nat.lt_of_lt_of_le h hN)).trans (hE p h)
            have hE := hE9
            have hN : xct st ≤ xct o51.2.2.2 := Nat.le_trans hN hn60
            refine W.eq (g2 := F0 m 19 ls []) (by first | rfl | (skip; rfl)) ?_
            refine lv_iinc (v := 5) (lv' := [(2, .int 5), (0, .ref aM), (1, .ref (aK 11))]) hx hb dM_put1_19 hl (k := 0) rfl rfl (by decide) rfl (fun ls hl => ?_)
            refine lv_goto (tgt := 2) hx hb dM_put1_22 (by decide) ?_
            refine lv_iload_n hx hb dM_put1_2 rfl (lv_at hl 0 rfl) ?_
            refine lv_aload_n hx hb dM_put1_3 rfl (lv_at hl 2 rfl) ?_
            refine va_calli (va_runV (C := "java/lang/String") (As := []) (rest := [.int 5]) ⟨hx, hb, hml, hown, htx⟩ (cJS_length_1 l hl9 D cT aK aV H.size) ⟨callB_of 0 htx (xw_goodC kw_2_70) rfl rfl rfl (htx _ kw_1_6) (htx _ kw_5_238) ⟨by decide, by decide, by decide +kernel⟩ ⟨Nat.le_of_ble_eq_true rfl, Nat.le_of_ble_eq_true rfl⟩, (htx _ kw_2_68), (htx _ kw_2_69)⟩ ⟨xPre_blind, vk_recv hZ.2.2.2.2.2.2.2.2.2.1 (i := 11) (by decide) hS, (fun U hU hW => ⟨rfl, xPre_of hZ hS (xm_free0 hS hA) xm_Pnil xm_Dnil hK U hU hW⟩)⟩ rfl rfl hl.1 rfl (lv_room (Nat.le_of_ble_eq_true rfl)) dM_put1_4 ⟨(hm54.1), (hm54.2)⟩) hS (fun q _ h => xm_free0 hS hA q h) (xm_free0 hS hA) (fun r61 u9 t H1 locs ht hvm hr9 hB hz1 hk1 hS => ?_)
            replace hP := xm_keep hP hk1
            generalize H1 = H at hP hS ⊢
            rw [hr9]
            refine W.eq (g2 := F0 m 7 ls [.int 5, .int 5]) (by first | rfl | rw [xv1 (Nat.succ_ne_zero _)]) ?_
            refine lv_icmp_ge (tgt := 25) hx hb dM_put1_7 (by decide) (fun _ => ?_) (fun h => ((by revert h; decide : False)).elim)
            obtain rfl := Option.some.inj hf
            exact absurd (show (0 : Nat) = 1 from hkd) (by decide)
          rw [if_neg hk53] at hf
          by_cases hk62 : o51.1 = 1
          · rw [if_pos hk62] at hf
            obtain ⟨hm63, hf⟩ := xmoE hf
            have hFc := xm_free hD hS hA
            refine xx_thr (vx_runV (C := "ValueBenchModel") (As := [.int 101]) (rest := []) ⟨hx, hb, hml, hown, htx⟩ (gM_put0_1 l hl9 D cT aK aV H.size n aM ad44 rd gd45 vad46 o39.2.2.2 (101 : Int32) o51 hq52 hk62) ⟨callB_of 1 htx (xw_goodC kw_6_136) rfl rfl rfl (htx _ kw_1_5) (htx _ kw_6_133) ⟨by decide, by decide, by decide +kernel⟩ ⟨Nat.le_of_ble_eq_true rfl, Nat.le_of_ble_eq_true rfl⟩, (htx _ kw_6_135), (htx _ kp_M_put0)⟩ ⟨xPre_blind, va_recv hK hP (ci := 5) rfl (q0 := 0) rfl, (fun U hU hW => ⟨rfl, xPre_of hZ hS hFc hP hD hK U hU hW⟩)⟩ rfl rfl hl.1 rfl (xm_room (Nat.le_of_ble_eq_true rfl)) dM_put1_16 ⟨hm63.1, hm63.2⟩) hS hFc (fun q _ h => hFc q h) (fun E ce q9 u9 t H1 locs ht hvm hr9 hB hz1 hk1 hS hce hcv hcl => ?_)
            obtain ⟨rfl, hP1, hK1, hD1⟩ := hB
            rw [ht] at hP1
            obtain ⟨ad65, gd66, vad67⟩ := u9
            obtain ⟨hv68, hn69⟩ := hr9
            have hP : va_P D xcl (xMw cT aM ad65 rd gd66 vad67 o51.2.2.2 []) H1 := hP1
            have hD : va_D A (xMw cT aM ad65 rd gd66 vad67 o51.2.2.2 []) := hD1.weaken (fun k q _ h => hFc q.1 h)
            generalize H1 = H at hP hS hce ⊢
            have hE9 : ∀ p, p < xct st → vad67 p = vad p := fun p h => (hv68 p (Nat.lt_of_lt_of_le h hN)).trans (hE p h)
            have hE := hE9
            have hN : xct st ≤ xct o51.2.2.2 := Nat.le_trans hN hn69
            obtain rfl := Option.some.inj hf
            exact vx_out (E := "java/lang/IndexOutOfBoundsException") (fun x h => (hne x h).elim) hlocks hce hcv hcl (fun t ht ha => ⟨(ad65, gd66, vad67), ⟨hE, hN⟩, ⟨rfl, by rw [ht]; exact hP, va_K.moved ha hK, hD⟩, hS.F ht⟩) hS.2.2 (Nat.le_refl _) (Nat.le_refl _)
          rw [if_neg hk62] at hf
          exact nomatch hf
        rw [if_neg hk41] at hf
        by_cases hk70 : o39.1 = 1
        · rw [if_pos hk70] at hf
          obtain ⟨hm71, hf⟩ := xmoE hf
          have hFc := xm_free hD hS hA
          refine xx_thr (vx_runV (C := "ValueBenchModel") (As := [.int 115]) (rest := []) ⟨hx, hb, hml, hown, htx⟩ (gM_put0_1 l hl9 D cT aK aV H.size n aM ad32 rd gd33 vad34 o27.2.2.2 (115 : Int32) o39 hq40 hk70) ⟨callB_of 1 htx (xw_goodC kw_6_136) rfl rfl rfl (htx _ kw_1_5) (htx _ kw_6_133) ⟨by decide, by decide, by decide +kernel⟩ ⟨Nat.le_of_ble_eq_true rfl, Nat.le_of_ble_eq_true rfl⟩, (htx _ kw_6_135), (htx _ kp_M_put0)⟩ ⟨xPre_blind, va_recv hK hP (ci := 5) rfl (q0 := 0) rfl, (fun U hU hW => ⟨rfl, xPre_of hZ hS hFc hP hD hK U hU hW⟩)⟩ rfl rfl hl.1 rfl (xm_room (Nat.le_of_ble_eq_true rfl)) dM_put1_16 ⟨hm71.1, hm71.2⟩) hS hFc (fun q _ h => hFc q h) (fun E ce q9 u9 t H1 locs ht hvm hr9 hB hz1 hk1 hS hce hcv hcl => ?_)
          obtain ⟨rfl, hP1, hK1, hD1⟩ := hB
          rw [ht] at hP1
          obtain ⟨ad73, gd74, vad75⟩ := u9
          obtain ⟨hv76, hn77⟩ := hr9
          have hP : va_P D xcl (xMw cT aM ad73 rd gd74 vad75 o39.2.2.2 []) H1 := hP1
          have hD : va_D A (xMw cT aM ad73 rd gd74 vad75 o39.2.2.2 []) := hD1.weaken (fun k q _ h => hFc q.1 h)
          generalize H1 = H at hP hS hce ⊢
          have hE9 : ∀ p, p < xct st → vad75 p = vad p := fun p h => (hv76 p (Nat.lt_of_lt_of_le h hN)).trans (hE p h)
          have hE := hE9
          have hN : xct st ≤ xct o39.2.2.2 := Nat.le_trans hN hn77
          obtain rfl := Option.some.inj hf
          exact vx_out (E := "java/lang/IndexOutOfBoundsException") (fun x h => (hne x h).elim) hlocks hce hcv hcl (fun t ht ha => ⟨(ad73, gd74, vad75), ⟨hE, hN⟩, ⟨rfl, by rw [ht]; exact hP, va_K.moved ha hK, hD⟩, hS.F ht⟩) hS.2.2 (Nat.le_refl _) (Nat.le_refl _)
        rw [if_neg hk70] at hf
        exact nomatch hf
      rw [if_neg hk29] at hf
      by_cases hk78 : o27.1 = 1
      · rw [if_pos hk78] at hf
        obtain ⟨hm79, hf⟩ := xmoE hf
        have hFc := xm_free hD hS hA
        refine xx_thr (vx_runV (C := "ValueBenchModel") (As := [.int 108]) (rest := []) ⟨hx, hb, hml, hown, htx⟩ (gM_put0_1 l hl9 D cT aK aV H.size n aM ad20 rd gd21 vad22 o15.2.2.2 (108 : Int32) o27 hq28 hk78) ⟨callB_of 1 htx (xw_goodC kw_6_136) rfl rfl rfl (htx _ kw_1_5) (htx _ kw_6_133) ⟨by decide, by decide, by decide +kernel⟩ ⟨Nat.le_of_ble_eq_true rfl, Nat.le_of_ble_eq_true rfl⟩, (htx _ kw_6_135), (htx _ kp_M_put0)⟩ ⟨xPre_blind, va_recv hK hP (ci := 5) rfl (q0 := 0) rfl, (fun U hU hW => ⟨rfl, xPre_of hZ hS hFc hP hD hK U hU hW⟩)⟩ rfl rfl hl.1 rfl (xm_room (Nat.le_of_ble_eq_true rfl)) dM_put1_16 ⟨hm79.1, hm79.2⟩) hS hFc (fun q _ h => hFc q h) (fun E ce q9 u9 t H1 locs ht hvm hr9 hB hz1 hk1 hS hce hcv hcl => ?_)
        obtain ⟨rfl, hP1, hK1, hD1⟩ := hB
        rw [ht] at hP1
        obtain ⟨ad81, gd82, vad83⟩ := u9
        obtain ⟨hv84, hn85⟩ := hr9
        have hP : va_P D xcl (xMw cT aM ad81 rd gd82 vad83 o27.2.2.2 []) H1 := hP1
        have hD : va_D A (xMw cT aM ad81 rd gd82 vad83 o27.2.2.2 []) := hD1.weaken (fun k q _ h => hFc q.1 h)
        generalize H1 = H at hP hS hce ⊢
        have hE9 : ∀ p, p < xct st → vad83 p = vad p := fun p h => (hv84 p (Nat.lt_of_lt_of_le h hN)).trans (hE p h)
        have hE := hE9
        have hN : xct st ≤ xct o27.2.2.2 := Nat.le_trans hN hn85
        obtain rfl := Option.some.inj hf
        exact vx_out (E := "java/lang/IndexOutOfBoundsException") (fun x h => (hne x h).elim) hlocks hce hcv hcl (fun t ht ha => ⟨(ad81, gd82, vad83), ⟨hE, hN⟩, ⟨rfl, by rw [ht]; exact hP, va_K.moved ha hK, hD⟩, hS.F ht⟩) hS.2.2 (Nat.le_refl _) (Nat.le_refl _)
      rw [if_neg hk78] at hf
      exact nomatch hf
    rw [if_neg hk17] at hf
    by_cases hk86 : o15.1 = 1
    · rw [if_pos hk86] at hf
      obtain ⟨hm87, hf⟩ := xmoE hf
      have hFc := xm_free hD hS hA
      refine xx_thr (vx_runV (C := "ValueBenchModel") (As := [.int 97]) (rest := []) ⟨hx, hb, hml, hown, htx⟩ (gM_put0_1 l hl9 D cT aK aV H.size n aM ad8 rd gd9 vad10 o3.2.2.2 (97 : Int32) o15 hq16 hk86) ⟨callB_of 1 htx (xw_goodC kw_6_136) rfl rfl rfl (htx _ kw_1_5) (htx _ kw_6_133) ⟨by decide, by decide, by decide +kernel⟩ ⟨Nat.le_of_ble_eq_true rfl, Nat.le_of_ble_eq_true rfl⟩, (htx _ kw_6_135), (htx _ kp_M_put0)⟩ ⟨xPre_blind, va_recv hK hP (ci := 5) rfl (q0 := 0) rfl, (fun U hU hW => ⟨rfl, xPre_of hZ hS hFc hP hD hK U hU hW⟩)⟩ rfl rfl hl.1 rfl (xm_room (Nat.le_of_ble_eq_true rfl)) dM_put1_16 ⟨hm87.1, hm87.2⟩) hS hFc (fun q _ h => hFc q h) (fun E ce q9 u9 t H1 locs ht hvm hr9 hB hz1 hk1 hS hce hcv hcl => ?_)
      obtain ⟨rfl, hP1, hK1, hD1⟩ := hB
      rw [ht] at hP1
      obtain ⟨ad89, gd90, vad91⟩ := u9
      obtain ⟨hv92, hn93⟩ := hr9
      have hP : va_P D xcl (xMw cT aM ad89 rd gd90 vad91 o15.2.2.2 []) H1 := hP1
      have hD : va_D A (xMw cT aM ad89 rd gd90 vad91 o15.2.2.2 []) := hD1.weaken (fun k q _ h => hFc q.1 h)
      generalize H1 = H at hP hS hce ⊢
      have hE9 : ∀ p, p < xct st → vad91 p = vad p := fun p h => (hv92 p (Nat.lt_of_lt_of_le h hN)).trans (hE p h)
      have hE := hE9
      have hN : xct st ≤ xct o15.2.2.2 := Nat.le_trans hN hn93
      obtain rfl := Option.some.inj hf
      exact vx_out (E := "java/lang/IndexOutOfBoundsException") (fun x h => (hne x h).elim) hlocks hce hcv hcl (fun t ht ha => ⟨(ad89, gd90, vad91), ⟨hE, hN⟩, ⟨rfl, by rw [ht]; exact hP, va_K.moved ha hK, hD⟩, hS.F ht⟩) hS.2.2 (Nat.le_refl _) (Nat.le_refl _)
    rw [if_neg hk86] at hf
    exact nomatch hf
  rw [if_neg hk5] at hf
  by_cases hk94 : o3.1 = 1
  · rw [if_pos hk94] at hf
    obtain ⟨hm95, hf⟩ := xmoE hf
    have hFc := xm_free hD hS hA
    refine xx_thr (vx_runV (C := "ValueBenchModel") (As := [.int 102]) (rest := []) ⟨hx, hb, hml, hown, htx⟩ (gM_put0_1 l hl9 D cT aK aV H.size n aM ad rd gd vad st (102 : Int32) o3 hq4 hk94) ⟨callB_of 1 htx (xw_goodC kw_6_136) rfl rfl rfl (htx _ kw_1_5) (htx _ kw_6_133) ⟨by decide, by decide, by decide +kernel⟩ ⟨Nat.le_of_ble_eq_true rfl, Nat.le_of_ble_eq_true rfl⟩, (htx _ kw_6_135), (htx _ kp_M_put0)⟩ ⟨xPre_blind, va_recv hK hP (ci := 5) rfl (q0 := 0) rfl, (fun U hU hW => ⟨rfl, xPre_of hZ hS hFc hP hD hK U hU hW⟩)⟩ rfl rfl hl.1 rfl (xm_room (Nat.le_of_ble_eq_true rfl)) dM_put1_16 ⟨hm95.1, hm95.2⟩) hS hFc (fun q _ h => hFc q h) (fun E ce q9 u9 t H1 locs ht hvm hr9 hB hz1 hk1 hS hce hcv hcl => ?_)
    obtain ⟨rfl, hP1, hK1, hD1⟩ := hB
    rw [ht] at hP1
    obtain ⟨ad97, gd98, vad99⟩ := u9
    obtain ⟨hv100, hn101⟩ := hr9
    have hP : va_P D xcl (xMw cT aM ad97 rd gd98 vad99 o3.2.2.2 []) H1 := hP1
    have hD : va_D A (xMw cT aM ad97 rd gd98 vad99 o3.2.2.2 []) := hD1.weaken (fun k q _ h => hFc q.1 h)
    generalize H1 = H at hP hS hce ⊢
    have hE9 : ∀ p, p < xct st → vad99 p = vad p := fun p h => (hv100 p (Nat.lt_of_lt_of_le h hN)).trans (hE p h)
    have hE := hE9
    have hN : xct st ≤ xct o3.2.2.2 := Nat.le_trans hN hn101
    obtain rfl := Option.some.inj hf
    exact vx_out (E := "java/lang/IndexOutOfBoundsException") (fun x h => (hne x h).elim) hlocks hce hcv hcl (fun t ht ha => ⟨(ad97, gd98, vad99), ⟨hE, hN⟩, ⟨rfl, by rw [ht]; exact hP, va_K.moved ha hK, hD⟩, hS.F ht⟩) hS.2.2 (Nat.le_refl _) (Nat.le_refl _)
  rw [if_neg hk94] at hf
  exact nomatch hf
set_option maxHeartbeats 400000000 in
set_option maxRecDepth 100000 in
theorem gM_put1b (l : Launch) (hl9 : l.stackTraces = false) (D : va_G) (cT : Nat → ClassId) (aK aV : Nat → Nat) (sz n : Nat) (aM : Nat) (ad rd gd vad : Nat → Nat) (st : xS) (out : Nat × Nat × Nat × xS) (hf : fM_put1b n st = some out) (hkd : out.1 = 0) : xMet l yM_put1 wyM_put1 7 out.2.1 out.2.2.1 123 D cT aK aV sz [.ref aM, .ref (aK 12)] (xMw cT aM ad rd gd vad st []) (fun A => va_Qv (fun u : xU => xE vad st out.2.2.2 u) (fun u t => xB D xcl cT A (xMw cT aM u.1 rd u.2.1 u.2.2 out.2.2.2 []) t) A) := by
  refine Met.ofW (cc := prog_13_method_42_code) (maxL := 3) (ret := none) (by decide) rfl ?_
  intro p e s m args below meth c s₁ B hml hv
  obtain ⟨rfl, hsz, hZ, hP, hK, hD0⟩ := hv
  have hx := B.exec
  have hb := B.bytes
  have hr := B.returns
  have hts := atoms_spec (ws := wyM_put1) B.pre
  have htx := fun w h => hts w (List.mem_cons_of_mem _ h)
  have hown : s.vm.findClass "ValueBenchModel" = some m.cls := findClass_of_methodNamed B.named
  have hlocks := B.notSynchronized
  subst hsz
  have hD := hD0.self (sz := s.heap.size)
  generalize hAe : va_A (xMw cT aM ad rd gd vad st []) s.heap.size = A at hD hZ ⊢
  have hA : ∀ q : Nat, s.heap.size ≤ q → A q := fun q h => by rw [← hAe]; exact Or.inr h
  have hS : va_S A s.heap s.heap [] := va_S.rf
  have hl := lv_entry ([.ref aM, .ref (aK 12)]) (n := 3) (by simp [lg_sl, xvcat, xrscat, xcI, xcL, xcR, xcN])
  rw [show lv_args 0 [.ref aM, .ref (aK 12)] = [(0, .ref aM), (1, .ref (aK 12))] from by simp [lv_args, xvcat, xrscat, xcI, xcL, xcR, xcN]] at hl
  rw [lg_entry_eq]
  generalize (lg_sl ([.ref aM, .ref (aK 12)]) ++ List.replicate (3 - (lg_sl ([.ref aM, .ref (aK 12)])).length) Slot.unset).toArray = ls at hl ⊢
  have hl : lv_has ls 3 [(0, .ref aM), (1, .ref (aK 12))] := hl
  have hE : ∀ p, p < xct st → vad p = vad p := fun _ _ => rfl
  have hN : xct st ≤ xct st := Nat.le_refl _
  unfold fM_put1b at hf
  refine lv_iconst (v := 0) hx hb dM_put1_0 (by decide) ?_
  refine lv_istore_n (lv' := [(2, .int 0), (0, .ref aM), (1, .ref (aK 12))]) hx hb dM_put1_1 rfl hl (by decide) rfl (fun ls hl => ?_)
  refine lv_iload_n hx hb dM_put1_2 rfl (lv_at hl 0 rfl) ?_
  refine lv_aload_n hx hb dM_put1_3 rfl (lv_at hl 2 rfl) ?_
  refine va_calli (va_runV (C := "java/lang/String") (As := []) (rest := [.int 0]) ⟨hx, hb, hml, hown, htx⟩ (cJS_length_2 l hl9 D cT aK aV s.heap.size) ⟨callB_of 0 htx (xw_goodC kw_2_70) rfl rfl rfl (htx _ kw_1_6) (htx _ kw_5_238) ⟨by decide, by decide, by decide +kernel⟩ ⟨Nat.le_of_ble_eq_true rfl, Nat.le_of_ble_eq_true rfl⟩, (htx _ kw_2_68), (htx _ kw_2_69)⟩ ⟨xPre_blind, vk_recv hZ.2.2.2.2.2.2.2.2.2.1 (i := 12) (by decide) hS, (fun U hU hW => ⟨rfl, xPre_of hZ hS (xm_free0 hS hA) xm_Pnil xm_Dnil hK U hU hW⟩)⟩ rfl rfl hl.1 rfl (lv_room (Nat.le_of_ble_eq_true rfl)) dM_put1_4 ⟨(Nat.zero_le _), (Nat.zero_le _)⟩) hS (fun q _ h => xm_free0 hS hA q h) (xm_free0 hS hA) (fun r1 u9 t H1 locs ht hvm hr9 hB hz1 hk1 hS => ?_)
  replace hP := xm_keep hP hk1
  generalize H1 = H at hP hS ⊢
  rw [hr9]
  refine W.eq (g2 := F0 m 7 ls [.int 4, .int 0]) (by first | rfl | rw [xv1 (Nat.succ_ne_zero _)]) ?_
  refine lv_icmp_ge (tgt := 25) hx hb dM_put1_7 (by decide) (fun h => ((by revert h; decide : False)).elim) (fun _ => ?_)
  refine lv_aload_n hx hb dM_put1_10 rfl (lv_at hl 1 rfl) ?_
  refine lv_aload_n hx hb dM_put1_11 rfl (lv_at hl 2 rfl) ?_
  refine lv_iload_n hx hb dM_put1_12 rfl (lv_at hl 0 rfl) ?_
  refine va_calli (va_runV (C := "java/lang/String") (As := [.int 0]) (rest := [.ref aM]) ⟨hx, hb, hml, hown, htx⟩ (cJS_charAt_9 l hl9 D cT aK aV H.size) ⟨callB_of 1 htx (xw_goodC kw_2_80) rfl rfl rfl (htx _ kw_1_6) (htx _ kw_5_86) ⟨by decide, by decide, by decide +kernel⟩ ⟨Nat.le_of_ble_eq_true rfl, Nat.le_of_ble_eq_true rfl⟩, (htx _ kw_2_78), (htx _ kw_2_79)⟩ ⟨xPre_blind, vk_recv hZ.2.2.2.2.2.2.2.2.2.1 (i := 12) (by decide) hS, (fun U hU hW => ⟨rfl, xPre_of hZ hS (xm_free0 hS hA) xm_Pnil xm_Dnil hK U hU hW⟩)⟩ rfl rfl hl.1 rfl (lv_room (Nat.le_of_ble_eq_true rfl)) dM_put1_13 ⟨(Nat.zero_le _), (Nat.zero_le _)⟩) hS (fun q _ h => xm_free0 hS hA q h) (xm_free0 hS hA) (fun r2 u9 t H1 locs ht hvm hr9 hB hz1 hk1 hS => ?_)
  replace hP := xm_keep hP hk1
  generalize H1 = H at hP hS ⊢
  rw [hr9]
  refine W.eq (g2 := F0 m 16 ls [.int 116, .ref aM]) (by first | rfl | rw [xv1 (Nat.succ_ne_zero _)]) ?_
  obtain ⟨o3, hq4, hf⟩ := xbind hf
  by_cases hk5 : o3.1 = 0
  · rw [if_pos hk5] at hf
    obtain ⟨hm6, hf⟩ := xmoE hf
    have hFc := xm_free hD hS hA
    refine va_callv (va_runV (C := "ValueBenchModel") (As := [.int 116]) (rest := []) ⟨hx, hb, hml, hown, htx⟩ (gM_put0 l hl9 D cT aK aV H.size n aM ad rd gd vad st (116 : Int32) o3 hq4 hk5) ⟨callB_of 1 htx (xw_goodC kw_6_136) rfl rfl rfl (htx _ kw_1_5) (htx _ kw_6_133) ⟨by decide, by decide, by decide +kernel⟩ ⟨Nat.le_of_ble_eq_true rfl, Nat.le_of_ble_eq_true rfl⟩, (htx _ kw_6_135), (htx _ kp_M_put0)⟩ ⟨xPre_blind, va_recv hK hP (ci := 5) rfl (q0 := 0) rfl, (fun U hU hW => ⟨rfl, xPre_of hZ hS hFc hP hD hK U hU hW⟩)⟩ rfl rfl hl.1 rfl (xm_room (Nat.le_of_ble_eq_true rfl)) dM_put1_16 ⟨hm6.1, hm6.2⟩) hS (fun q _ h => hFc q h) hFc (fun u9 t H1 locs ht hvm hr9 hB hz1 hk1 hS => ?_)
    obtain ⟨hP1, hK1, hD1⟩ := hB
    rw [ht] at hP1
    obtain ⟨ad8, gd9, vad10⟩ := u9
    obtain ⟨hv11, hn12⟩ := hr9
    have hP : va_P D xcl (xMw cT aM ad8 rd gd9 vad10 o3.2.2.2 []) H1 := hP1
    have hD : va_D A (xMw cT aM ad8 rd gd9 vad10 o3.2.2.2 []) := hD1.weaken (fun k q _ h => hFc q.1 h)
    generalize H1 = H at hP hS ⊢
    have hE9 : ∀ p, p < xct st → vad10 p = vad p := fun p h => (hv11 p (Nat.lt_of_lt_of_le h hN)).trans (hE p h)
    have hE := hE9
    have hN : xct st ≤ xct o3.2.2.2 := Nat.le_trans hN hn12
    refine W.eq (g2 := F0 m 19 ls []) (by first | rfl | (skip; rfl)) ?_
    refine lv_iinc (v := 1) (lv' := [(2, .int 1), (0, .ref aM), (1, .ref (aK 12))]) hx hb dM_put1_19 hl (k := 0) rfl rfl (by decide) rfl (fun ls hl => ?_)
    refine lv_goto (tgt := 2) hx hb dM_put1_22 (by decide) ?_
    refine lv_iload_n hx hb dM_put1_2 rfl (lv_at hl 0 rfl) ?_
    refine lv_aload_n hx hb dM_put1_3 rfl (lv_at hl 2 rfl) ?_
    refine va_calli (va_runV (C := "java/lang/String") (As := []) (rest := [.int 1]) ⟨hx, hb, hml, hown, htx⟩ (cJS_length_2 l hl9 D cT aK aV H.size) ⟨callB_of 0 htx (xw_goodC kw_2_70) rfl rfl rfl (htx _ kw_1_6) (htx _ kw_5_238) ⟨by decide, by decide, by decide +kernel⟩ ⟨Nat.le_of_ble_eq_true rfl, Nat.le_of_ble_eq_true rfl⟩, (htx _ kw_2_68), (htx _ kw_2_69)⟩ ⟨xPre_blind, vk_recv hZ.2.2.2.2.2.2.2.2.2.1 (i := 12) (by decide) hS, (fun U hU hW => ⟨rfl, xPre_of hZ hS (xm_free0 hS hA) xm_Pnil xm_Dnil hK U hU hW⟩)⟩ rfl rfl hl.1 rfl (lv_room (Nat.le_of_ble_eq_true rfl)) dM_put1_4 ⟨(hm6.1), (hm6.2)⟩) hS (fun q _ h => xm_free0 hS hA q h) (xm_free0 hS hA) (fun r13 u9 t H1 locs ht hvm hr9 hB hz1 hk1 hS => ?_)
    replace hP := xm_keep hP hk1
    generalize H1 = H at hP hS ⊢
    rw [hr9]
    refine W.eq (g2 := F0 m 7 ls [.int 4, .int 1]) (by first | rfl | rw [xv1 (Nat.succ_ne_zero _)]) ?_
    refine lv_icmp_ge (tgt := 25) hx hb dM_put1_7 (by decide) (fun h => ((by revert h; decide : False)).elim) (fun _ => ?_)
    refine lv_aload_n hx hb dM_put1_10 rfl (lv_at hl 1 rfl) ?_
    refine lv_aload_n hx hb dM_put1_11 rfl (lv_at hl 2 rfl) ?_
    refine lv_iload_n hx hb dM_put1_12 rfl (lv_at hl 0 rfl) ?_
    refine va_calli (va_runV (C := "java/lang/String") (As := [.int 1]) (rest := [.ref aM]) ⟨hx, hb, hml, hown, htx⟩ (cJS_charAt_10 l hl9 D cT aK aV H.size) ⟨callB_of 1 htx (xw_goodC kw_2_80) rfl rfl rfl (htx _ kw_1_6) (htx _ kw_5_86) ⟨by decide, by decide, by decide +kernel⟩ ⟨Nat.le_of_ble_eq_true rfl, Nat.le_of_ble_eq_true rfl⟩, (htx _ kw_2_78), (htx _ kw_2_79)⟩ ⟨xPre_blind, vk_recv hZ.2.2.2.2.2.2.2.2.2.1 (i := 12) (by decide) hS, (fun U hU hW => ⟨rfl, xPre_of hZ hS (xm_free0 hS hA) xm_Pnil xm_Dnil hK U hU hW⟩)⟩ rfl rfl hl.1 rfl (lv_room (Nat.le_of_ble_eq_true rfl)) dM_put1_13 ⟨(hm6.1), (hm6.2)⟩) hS (fun q _ h => xm_free0 hS hA q h) (xm_free0 hS hA) (fun r14 u9 t H1 locs ht hvm hr9 hB hz1 hk1 hS => ?_)
    replace hP := xm_keep hP hk1
    generalize H1 = H at hP hS ⊢
    rw [hr9]
    refine W.eq (g2 := F0 m 16 ls [.int 114, .ref aM]) (by first | rfl | rw [xv1 (Nat.succ_ne_zero _)]) ?_
    obtain ⟨o15, hq16, hf⟩ := xbind hf
    by_cases hk17 : o15.1 = 0
    · rw [if_pos hk17] at hf
      obtain ⟨hm18, hf⟩ := xmoE hf
      have hFc := xm_free hD hS hA
      refine va_callv (va_runV (C := "ValueBenchModel") (As := [.int 114]) (rest := []) ⟨hx, hb, hml, hown, htx⟩ (gM_put0 l hl9 D cT aK aV H.size n aM ad8 rd gd9 vad10 o3.2.2.2 (114 : Int32) o15 hq16 hk17) ⟨callB_of 1 htx (xw_goodC kw_6_136) rfl rfl rfl (htx _ kw_1_5) (htx _ kw_6_133) ⟨by decide, by decide, by decide +kernel⟩ ⟨Nat.le_of_ble_eq_true rfl, Nat.le_of_ble_eq_true rfl⟩, (htx _ kw_6_135), (htx _ kp_M_put0)⟩ ⟨xPre_blind, va_recv hK hP (ci := 5) rfl (q0 := 0) rfl, (fun U hU hW => ⟨rfl, xPre_of hZ hS hFc hP hD hK U hU hW⟩)⟩ rfl rfl hl.1 rfl (xm_room (Nat.le_of_ble_eq_true rfl)) dM_put1_16 ⟨hm18.1, hm18.2⟩) hS (fun q _ h => hFc q h) hFc (fun u9 t H1 locs ht hvm hr9 hB hz1 hk1 hS => ?_)
      obtain ⟨hP1, hK1, hD1⟩ := hB
      rw [ht] at hP1
      obtain ⟨ad20, gd21, vad22⟩ := u9
      obtain ⟨hv23, hn24⟩ := hr9
      have hP : va_P D xcl (xMw cT aM ad20 rd gd21 vad22 o15.2.2.2 []) H1 := hP1
      have hD : va_D A (xMw cT aM ad20 rd gd21 vad22 o15.2.2.2 []) := hD1.weaken (fun k q _ h => hFc q.1 h)
      generalize H1 = H at hP hS ⊢
      have hE9 : ∀ p, p < xct st → vad22 p = vad p := fun p h => (hv23 p (Nat.lt_of_lt_of_le h hN)).trans (hE p h)
      have hE := hE9
      have hN : xct st ≤ xct o15.2.2.2 := Nat.le_trans hN hn24
      refine W.eq (g2 := F0 m 19 ls []) (by first | rfl | (skip; rfl)) ?_
      refine lv_iinc (v := 2) (lv' := [(2, .int 2), (0, .ref aM), (1, .ref (aK 12))]) hx hb dM_put1_19 hl (k := 0) rfl rfl (by decide) rfl (fun ls hl => ?_)
      refine lv_goto (tgt := 2) hx hb dM_put1_22 (by decide) ?_
      refine lv_iload_n hx hb dM_put1_2 rfl (lv_at hl 0 rfl) ?_
      refine lv_aload_n hx hb dM_put1_3 rfl (lv_at hl 2 rfl) ?_
      refine va_calli (va_runV (C := "java/lang/String") (As := []) (rest := [.int 2]) ⟨hx, hb, hml, hown, htx⟩ (cJS_length_2 l hl9 D cT aK aV H.size) ⟨callB_of 0 htx (xw_goodC kw_2_70) rfl rfl rfl (htx _ kw_1_6) (htx _ kw_5_238) ⟨by decide, by decide, by decide +kernel⟩ ⟨Nat.le_of_ble_eq_true rfl, Nat.le_of_ble_eq_true rfl⟩, (htx _ kw_2_68), (htx _ kw_2_69)⟩ ⟨xPre_blind, vk_recv hZ.2.2.2.2.2.2.2.2.2.1 (i := 12) (by decide) hS, (fun U hU hW => ⟨rfl, xPre_of hZ hS (xm_free0 hS hA) xm_Pnil xm_Dnil hK U hU hW⟩)⟩ rfl rfl hl.1 rfl (lv_room (Nat.le_of_ble_eq_true rfl)) dM_put1_4 ⟨(hm18.1), (hm18.2)⟩) hS (fun q _ h => xm_free0 hS hA q h) (xm_free0 hS hA) (fun r25 u9 t H1 locs ht hvm hr9 hB hz1 hk1 hS => ?_)
      replace hP := xm_keep hP hk1
      generalize H1 = H at hP hS ⊢
      rw [hr9]
      refine W.eq (g2 := F0 m 7 ls [.int 4, .int 2]) (by first | rfl | rw [xv1 (Nat.succ_ne_zero _)]) ?_
      refine lv_icmp_ge (tgt := 25) hx hb dM_put1_7 (by decide) (fun h => ((by revert h; decide : False)).elim) (fun _ => ?_)
      refine lv_aload_n hx hb dM_put1_10 rfl (lv_at hl 1 rfl) ?_
      refine lv_aload_n hx hb dM_put1_11 rfl (lv_at hl 2 rfl) ?_
      refine lv_iload_n hx hb dM_put1_12 rfl (lv_at hl 0 rfl) ?_
      refine va_calli (va_runV (C := "java/lang/String") (As := [.int 2]) (rest := [.ref aM]) ⟨hx, hb, hml, hown, htx⟩ (cJS_charAt_11 l hl9 D cT aK aV H.size) ⟨callB_of 1 htx (xw_goodC kw_2_80) rfl rfl rfl (htx _ kw_1_6) (htx _ kw_5_86) ⟨by decide, by decide, by decide +kernel⟩ ⟨Nat.le_of_ble_eq_true rfl, Nat.le_of_ble_eq_true rfl⟩, (htx _ kw_2_78), (htx _ kw_2_79)⟩ ⟨xPre_blind, vk_recv hZ.2.2.2.2.2.2.2.2.2.1 (i := 12) (by decide) hS, (fun U hU hW => ⟨rfl, xPre_of hZ hS (xm_free0 hS hA) xm_Pnil xm_Dnil hK U hU hW⟩)⟩ rfl rfl hl.1 rfl (lv_room (Nat.le_of_ble_eq_true rfl)) dM_put1_13 ⟨(hm18.1), (hm18.2)⟩) hS (fun q _ h => xm_free0 hS hA q h) (xm_free0 hS hA) (fun r26 u9 t H1 locs ht hvm hr9 hB hz1 hk1 hS => ?_)
      replace hP := xm_keep hP hk1
      generalize H1 = H at hP hS ⊢
      rw [hr9]
      refine W.eq (g2 := F0 m 16 ls [.int 117, .ref aM]) (by first | rfl | rw [xv1 (Nat.succ_ne_zero _)]) ?_
      obtain ⟨o27, hq28, hf⟩ := xbind hf
      by_cases hk29 : o27.1 = 0
      · rw [if_pos hk29] at hf
        obtain ⟨hm30, hf⟩ := xmoE hf
        have hFc := xm_free hD hS hA
        refine va_callv (va_runV (C := "ValueBenchModel") (As := [.int 117]) (rest := []) ⟨hx, hb, hml, hown, htx⟩ (gM_put0 l hl9 D cT aK aV H.size n aM ad20 rd gd21 vad22 o15.2.2.2 (117 : Int32) o27 hq28 hk29) ⟨callB_of 1 htx (xw_goodC kw_6_136) rfl rfl rfl (htx _ kw_1_5) (htx _ kw_6_133) ⟨by decide, by decide, by decide +kernel⟩ ⟨Nat.le_of_ble_eq_true rfl, Nat.le_of_ble_eq_true rfl⟩, (htx _ kw_6_135), (htx _ kp_M_put0)⟩ ⟨xPre_blind, va_recv hK hP (ci := 5) rfl (q0 := 0) rfl, (fun U hU hW => ⟨rfl, xPre_of hZ hS hFc hP hD hK U hU hW⟩)⟩ rfl rfl hl.1 rfl (xm_room (Nat.le_of_ble_eq_true rfl)) dM_put1_16 ⟨hm30.1, hm30.2⟩) hS (fun q _ h => hFc q h) hFc (fun u9 t H1 locs ht hvm hr9 hB hz1 hk1 hS => ?_)
        obtain ⟨hP1, hK1, hD1⟩ := hB
        rw [ht] at hP1
        obtain ⟨ad32, gd33, vad34⟩ := u9
        obtain ⟨hv35, hn36⟩ := hr9
        have hP : va_P D xcl (xMw cT aM ad32 rd gd33 vad34 o27.2.2.2 []) H1 := hP1
        have hD : va_D A (xMw cT aM ad32 rd gd33 vad34 o27.2.2.2 []) := hD1.weaken (fun k q _ h => hFc q.1 h)
        generalize H1 = H at hP hS ⊢
        have hE9 : ∀ p, p < xct st → vad34 p = vad p := fun p h => (hv35 p (Nat.lt_of_lt_of_le h hN)).trans (hE p h)
        have hE := hE9
        have hN : xct st ≤ xct o27.2.2.2 := Nat.le_trans hN hn36
        refine W.eq (g2 := F0 m 19 ls []) (by first | rfl | (skip; rfl)) ?_
        refine lv_iinc (v := 3) (lv' := [(2, .int 3), (0, .ref aM), (1, .ref (aK 12))]) hx hb dM_put1_19 hl (k := 0) rfl rfl (by decide) rfl (fun ls hl => ?_)
        refine lv_goto (tgt := 2) hx hb dM_put1_22 (by decide) ?_
        refine lv_iload_n hx hb dM_put1_2 rfl (lv_at hl 0 rfl) ?_
        refine lv_aload_n hx hb dM_put1_3 rfl (lv_at hl 2 rfl) ?_
        refine va_calli (va_runV (C := "java/lang/String") (As := []) (rest := [.int 3]) ⟨hx, hb, hml, hown, htx⟩ (cJS_length_2 l hl9 D cT aK aV H.size) ⟨callB_of 0 htx (xw_goodC kw_2_70) rfl rfl rfl (htx _ kw_1_6) (htx _ kw_5_238) ⟨by decide, by decide, by decide +kernel⟩ ⟨Nat.le_of_ble_eq_true rfl, Nat.le_of_ble_eq_true rfl⟩, (htx _ kw_2_68), (htx _ kw_2_69)⟩ ⟨xPre_blind, vk_recv hZ.2.2.2.2.2.2.2.2.2.1 (i := 12) (by decide) hS, (fun U hU hW => ⟨rfl, xPre_of hZ hS (xm_free0 hS hA) xm_Pnil xm_Dnil hK U hU hW⟩)⟩ rfl rfl hl.1 rfl (lv_room (Nat.le_of_ble_eq_true rfl)) dM_put1_4 ⟨(hm30.1), (hm30.2)⟩) hS (fun q _ h => xm_free0 hS hA q h) (xm_free0 hS hA) (fun r37 u9 t H1 locs ht hvm hr9 hB hz1 hk1 hS => ?_)
        replace hP := xm_keep hP hk1
        generalize H1 = H at hP hS ⊢
        rw [hr9]
        refine W.eq (g2 := F0 m 7 ls [.int 4, .int 3]) (by first | rfl | rw [xv1 (Nat.succ_ne_zero _)]) ?_
        refine lv_icmp_ge (tgt := 25) hx hb dM_put1_7 (by decide) (fun h => ((by revert h; decide : False)).elim) (fun _ => ?_)
        refine lv_aload_n hx hb dM_put1_10 rfl (lv_at hl 1 rfl) ?_
        refine lv_aload_n hx hb dM_put1_11 rfl (lv_at hl 2 rfl) ?_
        refine lv_iload_n hx hb dM_put1_12 rfl (lv_at hl 0 rfl) ?_
        refine va_calli (va_runV (C := "java/lang/String") (As := [.int 3]) (rest := [.ref aM]) ⟨hx, hb, hml, hown, htx⟩ (cJS_charAt_12 l hl9 D cT aK aV H.size) ⟨callB_of 1 htx (xw_goodC kw_2_80) rfl rfl rfl (htx _ kw_1_6) (htx _ kw_5_86) ⟨by decide, by decide, by decide +kernel⟩ ⟨Nat.le_of_ble_eq_true rfl, Nat.le_of_ble_eq_true rfl⟩, (htx _ kw_2_78), (htx _ kw_2_79)⟩ ⟨xPre_blind, vk_recv hZ.2.2.2.2.2.2.2.2.2.1 (i := 12) (by decide) hS, (fun U hU hW => ⟨rfl, xPre_of hZ hS (xm_free0 hS hA) xm_Pnil xm_Dnil hK U hU hW⟩)⟩ rfl rfl hl.1 rfl (lv_room (Nat.le_of_ble_eq_true rfl)) dM_put1_13 ⟨(hm30.1), (hm30.2)⟩) hS (fun q _ h => xm_free0 hS hA q h) (xm_free0 hS hA) (fun r38 u9 t H1 locs ht hvm hr9 hB hz1 hk1 hS => ?_)
        replace hP := xm_keep hP hk1
        generalize H1 = H at hP hS ⊢
        rw [hr9]
        refine W.eq (g2 := F0 m 16 ls [.int 101, .ref aM]) (by first | rfl | rw [xv1 (Nat.succ_ne_zero _)]) ?_
        obtain ⟨o39, hq40, hf⟩ := xbind hf
        by_cases hk41 : o39.1 = 0
        · rw [if_pos hk41] at hf
          obtain ⟨hm42, hf⟩ := xmoE hf
          have hFc := xm_free hD hS hA
          refine va_callv (va_runV (C := "ValueBenchModel") (As := [.int 101]) (rest := []) ⟨hx, hb, hml, hown, htx⟩ (gM_put0 l hl9 D cT aK aV H.size n aM ad32 rd gd33 vad34 o27.2.2.2 (101 : Int32) o39 hq40 hk41) ⟨callB_of 1 htx (xw_goodC kw_6_136) rfl rfl rfl (htx _ kw_1_5) (htx _ kw_6_133) ⟨by decide, by decide, by decide +kernel⟩ ⟨Nat.le_of_ble_eq_true rfl, Nat.le_of_ble_eq_true rfl⟩, (htx _ kw_6_135), (htx _ kp_M_put0)⟩ ⟨xPre_blind, va_recv hK hP (ci := 5) rfl (q0 := 0) rfl, (fun U hU hW => ⟨rfl, xPre_of hZ hS hFc hP hD hK U hU hW⟩)⟩ rfl rfl hl.1 rfl (xm_room (Nat.le_of_ble_eq_true rfl)) dM_put1_16 ⟨hm42.1, hm42.2⟩) hS (fun q _ h => hFc q h) hFc (fun u9 t H1 locs ht hvm hr9 hB hz1 hk1 hS => ?_)
          obtain ⟨hP1, hK1, hD1⟩ := hB
          rw [ht] at hP1
          obtain ⟨ad44, gd45, vad46⟩ := u9
          obtain ⟨hv47, hn48⟩ := hr9
          have hP : va_P D xcl (xMw cT aM ad44 rd gd45 vad46 o39.2.2.2 []) H1 := hP1
          have hD : va_D A (xMw cT aM ad44 rd gd45 vad46 o39.2.2.2 []) := hD1.weaken (fun k q _ h => hFc q.1 h)
          generalize H1 = H at hP hS ⊢
          have hE9 : ∀ p, p < xct st → vad46 p = vad p := fun p h => (hv47 p (Nat.lt_of_lt_of_le h hN)).trans (hE p h)
          have hE := hE9
          have hN : xct st ≤ xct o39.2.2.2 := Nat.le_trans hN hn48
          refine W.eq (g2 := F0 m 19 ls []) (by first | rfl | (skip; rfl)) ?_
          refine lv_iinc (v := 4) (lv' := [(2, .int 4), (0, .ref aM), (1, .ref (aK 12))]) hx hb dM_put1_19 hl (k := 0) rfl rfl (by decide) rfl (fun ls hl => ?_)
          refine lv_goto (tgt := 2) hx hb dM_put1_22 (by decide) ?_
          refine lv_iload_n hx hb dM_put1_2 rfl (lv_at hl 0 rfl) ?_
          refine lv_aload_n hx hb dM_put1_3 rfl (lv_at hl 2 rfl) ?_
          refine va_calli (va_runV (C := "java/lang/String") (As := []) (rest := [.int 4]) ⟨hx, hb, hml, hown, htx⟩ (cJS_length_2 l hl9 D cT aK aV H.size) ⟨callB_of 0 htx (xw_goodC kw_2_70) rfl rfl rfl (htx _ kw_1_6) (htx _ kw_5_238) ⟨by decide, by decide, by decide +kernel⟩ ⟨Nat.le_of_ble_eq_true rfl, Nat.le_of_ble_eq_true rfl⟩, (htx _ kw_2_68), (htx _ kw_2_69)⟩ ⟨xPre_blind, vk_recv hZ.2.2.2.2.2.2.2.2.2.1 (i := 12) (by decide) hS, (fun U hU hW => ⟨rfl, xPre_of hZ hS (xm_free0 hS hA) xm_Pnil xm_Dnil hK U hU hW⟩)⟩ rfl rfl hl.1 rfl (lv_room (Nat.le_of_ble_eq_true rfl)) dM_put1_4 ⟨(hm42.1), (hm42.2)⟩) hS (fun q _ h => xm_free0 hS hA q h) (xm_free0 hS hA) (fun r49 u9 t H1 locs ht hvm hr9 hB hz1 hk1 hS => ?_)
          replace hP := xm_keep hP hk1
          generalize H1 = H at hP hS ⊢
          rw [hr9]
          refine W.eq (g2 := F0 m 7 ls [.int 4, .int 4]) (by first | rfl | rw [xv1 (Nat.succ_ne_zero _)]) ?_
          refine lv_icmp_ge (tgt := 25) hx hb dM_put1_7 (by decide) (fun _ => ?_) (fun h => ((by revert h; decide : False)).elim)
          obtain rfl := Option.some.inj hf
          exact W.vret hx hb hr (fun t ht hW => ⟨⟨(ad44, gd45, vad46), rfl, ⟨hE, hN⟩, by rw [ht]; exact hP, va_K.moved hW.alike hK, hD⟩, hS.F ht⟩) hS.2.2 dM_put1_25
        rw [if_neg hk41] at hf
        by_cases hk50 : o39.1 = 1
        · rw [if_pos hk50] at hf
          obtain ⟨hm51, hf⟩ := xmoE hf
          obtain rfl := Option.some.inj hf
          exact absurd (show (1 : Nat) = 0 from hkd) (by decide)
        rw [if_neg hk50] at hf
        exact nomatch hf
      rw [if_neg hk29] at hf
      by_cases hk58 : o27.1 = 1
      · rw [if_pos hk58] at hf
        obtain ⟨hm59, hf⟩ := xmoE hf
        obtain rfl := Option.some.inj hf
        exact absurd (show (1 : Nat) = 0 from hkd) (by decide)
      rw [if_neg hk58] at hf
      exact nomatch hf
    rw [if_neg hk17] at hf
    by_cases hk66 : o15.1 = 1
    · rw [if_pos hk66] at hf
      obtain ⟨hm67, hf⟩ := xmoE hf
      obtain rfl := Option.some.inj hf
      exact absurd (show (1 : Nat) = 0 from hkd) (by decide)
    rw [if_neg hk66] at hf
    exact nomatch hf
  rw [if_neg hk5] at hf
  by_cases hk74 : o3.1 = 1
  · rw [if_pos hk74] at hf
    obtain ⟨hm75, hf⟩ := xmoE hf
    obtain rfl := Option.some.inj hf
    exact absurd (show (1 : Nat) = 0 from hkd) (by decide)
  rw [if_neg hk74] at hf
  exact nomatch hf
set_option maxHeartbeats 400000000 in
set_option maxRecDepth 100000 in
theorem gM_put1b_1 (l : Launch) (hl9 : l.stackTraces = false) (D : va_G) (cT : Nat → ClassId) (aK aV : Nat → Nat) (sz n : Nat) (aM : Nat) (ad rd gd vad : Nat → Nat) (st : xS) (out : Nat × Nat × Nat × xS) (hf : fM_put1b n st = some out) (hkd : out.1 = 1) : xMetY l yM_put1 wyM_put1 7 out.2.1 out.2.2.1 123 D cT aK aV sz [.ref aM, .ref (aK 12)] (xMw cT aM ad rd gd vad st []) "java/lang/IndexOutOfBoundsException" (fun u => xE vad st out.2.2.2 u) (fun A u t => xB D xcl cT A (xMw cT aM u.1 rd u.2.1 u.2.2 out.2.2.2 []) t) := by
  refine vx_ofW (cc := prog_13_method_42_code) (maxL := 3) (ret := none) (by decide) rfl ?_
  intro p e s m args below meth c s₁ B hml hne hv
  obtain ⟨rfl, hsz, hZ, hP, hK, hD0⟩ := hv
  have hx := B.exec
  have hb := B.bytes
  have hr := B.returns
  have hts := atoms_spec (ws := wyM_put1) B.pre
  have htx := fun w h => hts w (List.mem_cons_of_mem _ h)
  have hown : s.vm.findClass "ValueBenchModel" = some m.cls := findClass_of_methodNamed B.named
  have hlocks := B.notSynchronized
  subst hsz
  have hD := hD0.self (sz := s.heap.size)
  generalize hAe : va_A (xMw cT aM ad rd gd vad st []) s.heap.size = A at hD hZ ⊢
  have hA : ∀ q : Nat, s.heap.size ≤ q → A q := fun q h => by rw [← hAe]; exact Or.inr h
  have hS : va_S A s.heap s.heap [] := va_S.rf
  have hl := lv_entry ([.ref aM, .ref (aK 12)]) (n := 3) (by simp [lg_sl, xvcat, xrscat, xcI, xcL, xcR, xcN])
  rw [show lv_args 0 [.ref aM, .ref (aK 12)] = [(0, .ref aM), (1, .ref (aK 12))] from by simp [lv_args, xvcat, xrscat, xcI, xcL, xcR, xcN]] at hl
  rw [lg_entry_eq]
  generalize (lg_sl ([.ref aM, .ref (aK 12)]) ++ List.replicate (3 - (lg_sl ([.ref aM, .ref (aK 12)])).length) Slot.unset).toArray = ls at hl ⊢
  have hl : lv_has ls 3 [(0, .ref aM), (1, .ref (aK 12))] := hl
  have hE : ∀ p, p < xct st → vad p = vad p := fun _ _ => rfl
  have hN : xct st ≤ xct st := Nat.le_refl _
  unfold fM_put1b at hf
  refine lv_iconst (v := 0) hx hb dM_put1_0 (by decide) ?_
  refine lv_istore_n (lv' := [(2, .int 0), (0, .ref aM), (1, .ref (aK 12))]) hx hb dM_put1_1 rfl hl (by decide) rfl (fun ls hl => ?_)
  refine lv_iload_n hx hb dM_put1_2 rfl (lv_at hl 0 rfl) ?_
  refine lv_aload_n hx hb dM_put1_3 rfl (lv_at hl 2 rfl) ?_
  refine va_calli (va_runV (C := "java/lang/String") (As := []) (rest := [.int 0]) ⟨hx, hb, hml, hown, htx⟩ (cJS_length_2 l hl9 D cT aK aV s.heap.size) ⟨callB_of 0 htx (xw_goodC kw_2_70) rfl rfl rfl (htx _ kw_1_6) (htx _ kw_5_238) ⟨by decide, by decide, by decide +kernel⟩ ⟨Nat.le_of_ble_eq_true rfl, Nat.le_of_ble_eq_true rfl⟩, (htx _ kw_2_68), (htx _ kw_2_69)⟩ ⟨xPre_blind, vk_recv hZ.2.2.2.2.2.2.2.2.2.1 (i := 12) (by decide) hS, (fun U hU hW => ⟨rfl, xPre_of hZ hS (xm_free0 hS hA) xm_Pnil xm_Dnil hK U hU hW⟩)⟩ rfl rfl hl.1 rfl (lv_room (Nat.le_of_ble_eq_true rfl)) dM_put1_4 ⟨(Nat.zero_le _), (Nat.zero_le _)⟩) hS (fun q _ h => xm_free0 hS hA q h) (xm_free0 hS hA) (fun r1 u9 t H1 locs ht hvm hr9 hB hz1 hk1 hS => ?_)
  replace hP := xm_keep hP hk1
  generalize H1 = H at hP hS ⊢
  rw [hr9]
  refine W.eq (g2 := F0 m 7 ls [.int 4, .int 0]) (by first | rfl | rw [xv1 (Nat.succ_ne_zero _)]) ?_
  refine lv_icmp_ge (tgt := 25) hx hb dM_put1_7 (by decide) (fun h => ((by revert h; decide : False)).elim) (fun _ => ?_)
  refine lv_aload_n hx hb dM_put1_10 rfl (lv_at hl 1 rfl) ?_
  refine lv_aload_n hx hb dM_put1_11 rfl (lv_at hl 2 rfl) ?_
  refine lv_iload_n hx hb dM_put1_12 rfl (lv_at hl 0 rfl) ?_
  refine va_calli (va_runV (C := "java/lang/String") (As := [.int 0]) (rest := [.ref aM]) ⟨hx, hb, hml, hown, htx⟩ (cJS_charAt_9 l hl9 D cT aK aV H.size) ⟨callB_of 1 htx (xw_goodC kw_2_80) rfl rfl rfl (htx _ kw_1_6) (htx _ kw_5_86) ⟨by decide, by decide, by decide +kernel⟩ ⟨Nat.le_of_ble_eq_true rfl, Nat.le_of_ble_eq_true rfl⟩, (htx _ kw_2_78), (htx _ kw_2_79)⟩ ⟨xPre_blind, vk_recv hZ.2.2.2.2.2.2.2.2.2.1 (i := 12) (by decide) hS, (fun U hU hW => ⟨rfl, xPre_of hZ hS (xm_free0 hS hA) xm_Pnil xm_Dnil hK U hU hW⟩)⟩ rfl rfl hl.1 rfl (lv_room (Nat.le_of_ble_eq_true rfl)) dM_put1_13 ⟨(Nat.zero_le _), (Nat.zero_le _)⟩) hS (fun q _ h => xm_free0 hS hA q h) (xm_free0 hS hA) (fun r2 u9 t H1 locs ht hvm hr9 hB hz1 hk1 hS => ?_)
  replace hP := xm_keep hP hk1
  generalize H1 = H at hP hS ⊢
  rw [hr9]
  refine W.eq (g2 := F0 m 16 ls [.int 116, .ref aM]) (by first | rfl | rw [xv1 (Nat.succ_ne_zero _)]) ?_
  obtain ⟨o3, hq4, hf⟩ := xbind hf
  by_cases hk5 : o3.1 = 0
  · rw [if_pos hk5] at hf
    obtain ⟨hm6, hf⟩ := xmoE hf
    have hFc := xm_free hD hS hA
    refine va_callv (va_runV (C := "ValueBenchModel") (As := [.int 116]) (rest := []) ⟨hx, hb, hml, hown, htx⟩ (gM_put0 l hl9 D cT aK aV H.size n aM ad rd gd vad st (116 : Int32) o3 hq4 hk5) ⟨callB_of 1 htx (xw_goodC kw_6_136) rfl rfl rfl (htx _ kw_1_5) (htx _ kw_6_133) ⟨by decide, by decide, by decide +kernel⟩ ⟨Nat.le_of_ble_eq_true rfl, Nat.le_of_ble_eq_true rfl⟩, (htx _ kw_6_135), (htx _ kp_M_put0)⟩ ⟨xPre_blind, va_recv hK hP (ci := 5) rfl (q0 := 0) rfl, (fun U hU hW => ⟨rfl, xPre_of hZ hS hFc hP hD hK U hU hW⟩)⟩ rfl rfl hl.1 rfl (xm_room (Nat.le_of_ble_eq_true rfl)) dM_put1_16 ⟨hm6.1, hm6.2⟩) hS (fun q _ h => hFc q h) hFc (fun u9 t H1 locs ht hvm hr9 hB hz1 hk1 hS => ?_)
    obtain ⟨hP1, hK1, hD1⟩ := hB
    rw [ht] at hP1
    obtain ⟨ad8, gd9, vad10⟩ := u9
    obtain ⟨hv11, hn12⟩ := hr9
    have hP : va_P D xcl (xMw cT aM ad8 rd gd9 vad10 o3.2.2.2 []) H1 := hP1
    have hD : va_D A (xMw cT aM ad8 rd gd9 vad10 o3.2.2.2 []) := hD1.weaken (fun k q _ h => hFc q.1 h)
    generalize H1 = H at hP hS ⊢
    have hE9 : ∀ p, p < xct st → vad10 p = vad p := fun p h => (hv11 p (Nat.lt_of_lt_of_le h hN)).trans (hE p h)
    have hE := hE9
    have hN : xct st ≤ xct o3.2.2.2 := Nat.le_trans hN hn12
    refine W.eq (g2 := F0 m 19 ls []) (by first | rfl | (skip; rfl)) ?_
    refine lv_iinc (v := 1) (lv' := [(2, .int 1), (0, .ref aM), (1, .ref (aK 12))]) hx hb dM_put1_19 hl (k := 0) rfl rfl (by decide) rfl (fun ls hl => ?_)
    refine lv_goto (tgt := 2) hx hb dM_put1_22 (by decide) ?_
    refine lv_iload_n hx hb dM_put1_2 rfl (lv_at hl 0 rfl) ?_
    refine lv_aload_n hx hb dM_put1_3 rfl (lv_at hl 2 rfl) ?_
    refine va_calli (va_runV (C := "java/lang/String") (As := []) (rest := [.int 1]) ⟨hx, hb, hml, hown, htx⟩ (cJS_length_2 l hl9 D cT aK aV H.size) ⟨callB_of 0 htx (xw_goodC kw_2_70) rfl rfl rfl (htx _ kw_1_6) (htx _ kw_5_238) ⟨by decide, by decide, by decide +kernel⟩ ⟨Nat.le_of_ble_eq_true rfl, Nat.le_of_ble_eq_true rfl⟩, (htx _ kw_2_68), (htx _ kw_2_69)⟩ ⟨xPre_blind, vk_recv hZ.2.2.2.2.2.2.2.2.2.1 (i := 12) (by decide) hS, (fun U hU hW => ⟨rfl, xPre_of hZ hS (xm_free0 hS hA) xm_Pnil xm_Dnil hK U hU hW⟩)⟩ rfl rfl hl.1 rfl (lv_room (Nat.le_of_ble_eq_true rfl)) dM_put1_4 ⟨(hm6.1), (hm6.2)⟩) hS (fun q _ h => xm_free0 hS hA q h) (xm_free0 hS hA) (fun r13 u9 t H1 locs ht hvm hr9 hB hz1 hk1 hS => ?_)
    replace hP := xm_keep hP hk1
    generalize H1 = H at hP hS ⊢
    rw [hr9]
    refine W.eq (g2 := F0 m 7 ls [.int 4, .int 1]) (by first | rfl | rw [xv1 (Nat.succ_ne_zero _)]) ?_
    refine lv_icmp_ge (tgt := 25) hx hb dM_put1_7 (by decide) (fun h => ((by revert h; decide : False)).elim) (fun _ => ?_)
    refine lv_aload_n hx hb dM_put1_10 rfl (lv_at hl 1 rfl) ?_
    refine lv_aload_n hx hb dM_put1_11 rfl (lv_at hl 2 rfl) ?_
    refine lv_iload_n hx hb dM_put1_12 rfl (lv_at hl 0 rfl) ?_
    refine va_calli (va_runV (C := "java/lang/String") (As := [.int 1]) (rest := [.ref aM]) ⟨hx, hb, hml, hown, htx⟩ (cJS_charAt_10 l hl9 D cT aK aV H.size) ⟨callB_of 1 htx (xw_goodC kw_2_80) rfl rfl rfl (htx _ kw_1_6) (htx _ kw_5_86) ⟨by decide, by decide, by decide +kernel⟩ ⟨Nat.le_of_ble_eq_true rfl, Nat.le_of_ble_eq_true rfl⟩, (htx _ kw_2_78), (htx _ kw_2_79)⟩ ⟨xPre_blind, vk_recv hZ.2.2.2.2.2.2.2.2.2.1 (i := 12) (by decide) hS, (fun U hU hW => ⟨rfl, xPre_of hZ hS (xm_free0 hS hA) xm_Pnil xm_Dnil hK U hU hW⟩)⟩ rfl rfl hl.1 rfl (lv_room (Nat.le_of_ble_eq_true rfl)) dM_put1_13 ⟨(hm6.1), (hm6.2)⟩) hS (fun q _ h => xm_free0 hS hA q h) (xm_free0 hS hA) (fun r14 u9 t H1 locs ht hvm hr9 hB hz1 hk1 hS => ?_)
    replace hP := xm_keep hP hk1
    generalize H1 = H at hP hS ⊢
    rw [hr9]
    refine W.eq (g2 := F0 m 16 ls [.int 114, .ref aM]) (by first | rfl | rw [xv1 (Nat.succ_ne_zero _)]) ?_
    obtain ⟨o15, hq16, hf⟩ := xbind hf
    by_cases hk17 : o15.1 = 0
    · rw [if_pos hk17] at hf
      obtain ⟨hm18, hf⟩ := xmoE hf
      have hFc := xm_free hD hS hA
      refine va_callv (va_runV (C := "ValueBenchModel") (As := [.int 114]) (rest := []) ⟨hx, hb, hml, hown, htx⟩ (gM_put0 l hl9 D cT aK aV H.size n aM ad8 rd gd9 vad10 o3.2.2.2 (114 : Int32) o15 hq16 hk17) ⟨callB_of 1 htx (xw_goodC kw_6_136) rfl rfl rfl (htx _ kw_1_5) (htx _ kw_6_133) ⟨by decide, by decide, by decide +kernel⟩ ⟨Nat.le_of_ble_eq_true rfl, Nat.le_of_ble_eq_true rfl⟩, (htx _ kw_6_135), (htx _ kp_M_put0)⟩ ⟨xPre_blind, va_recv hK hP (ci := 5) rfl (q0 := 0) rfl, (fun U hU hW => ⟨rfl, xPre_of hZ hS hFc hP hD hK U hU hW⟩)⟩ rfl rfl hl.1 rfl (xm_room (Nat.le_of_ble_eq_true rfl)) dM_put1_16 ⟨hm18.1, hm18.2⟩) hS (fun q _ h => hFc q h) hFc (fun u9 t H1 locs ht hvm hr9 hB hz1 hk1 hS => ?_)
      obtain ⟨hP1, hK1, hD1⟩ := hB
      rw [ht] at hP1
      obtain ⟨ad20, gd21, vad22⟩ := u9
      obtain ⟨hv23, hn24⟩ := hr9
      have hP : va_P D xcl (xMw cT aM ad20 rd gd21 vad22 o15.2.2.2 []) H1 := hP1
      have hD : va_D A (xMw cT aM ad20 rd gd21 vad22 o15.2.2.2 []) := hD1.weaken (fun k q _ h => hFc q.1 h)
      generalize H1 = H at hP hS ⊢
      have hE9 : ∀ p, p < xct st → vad22 p = vad p := fun p h => (hv23 p (Nat.lt_of_lt_of_le h hN)).trans (hE p h)
      have hE := hE9
      have hN : xct st ≤ xct o15.2.2.2 := Nat.le_trans hN hn24
      refine W.eq (g2 := F0 m 19 ls []) (by first | rfl | (skip; rfl)) ?_
      refine lv_iinc (v := 2) (lv' := [(2, .int 2), (0, .ref aM), (1, .ref (aK 12))]) hx hb dM_put1_19 hl (k := 0) rfl rfl (by decide) rfl (fun ls hl => ?_)
      refine lv_goto (tgt := 2) hx hb dM_put1_22 (by decide) ?_
      refine lv_iload_n hx hb dM_put1_2 rfl (lv_at hl 0 rfl) ?_
      refine lv_aload_n hx hb dM_put1_3 rfl (lv_at hl 2 rfl) ?_
      refine va_calli (va_runV (C := "java/lang/String") (As := []) (rest := [.int 2]) ⟨hx, hb, hml, hown, htx⟩ (cJS_length_2 l hl9 D cT aK aV H.size) ⟨callB_of 0 htx (xw_goodC kw_2_70) rfl rfl rfl (htx _ kw_1_6) (htx _ kw_5_238) ⟨by decide, by decide, by decide +kernel⟩ ⟨Nat.le_of_ble_eq_true rfl, Nat.le_of_ble_eq_true rfl⟩, (htx _ kw_2_68), (htx _ kw_2_69)⟩ ⟨xPre_blind, vk_recv hZ.2.2.2.2.2.2.2.2.2.1 (i := 12) (by decide) hS, (fun U hU hW => ⟨rfl, xPre_of hZ hS (xm_free0 hS hA) xm_Pnil xm_Dnil hK U hU hW⟩)⟩ rfl rfl hl.1 rfl (lv_room (Nat.le_of_ble_eq_true rfl)) dM_put1_4 ⟨(hm18.1), (hm18.2)⟩) hS (fun q _ h => xm_free0 hS hA q h) (xm_free0 hS hA) (fun r25 u9 t H1 locs ht hvm hr9 hB hz1 hk1 hS => ?_)
      replace hP := xm_keep hP hk1
      generalize H1 = H at hP hS ⊢
      rw [hr9]
      refine W.eq (g2 := F0 m 7 ls [.int 4, .int 2]) (by first | rfl | rw [xv1 (Nat.succ_ne_zero _)]) ?_
      refine lv_icmp_ge (tgt := 25) hx hb dM_put1_7 (by decide) (fun h => ((by revert h; decide : False)).elim) (fun _ => ?_)
      refine lv_aload_n hx hb dM_put1_10 rfl (lv_at hl 1 rfl) ?_
      refine lv_aload_n hx hb dM_put1_11 rfl (lv_at hl 2 rfl) ?_
      refine lv_iload_n hx hb dM_put1_12 rfl (lv_at hl 0 rfl) ?_
      refine va_calli (va_runV (C := "java/lang/String") (As := [.int 2]) (rest := [.ref aM]) ⟨hx, hb, hml, hown, htx⟩ (cJS_charAt_11 l hl9 D cT aK aV H.size) ⟨callB_of 1 htx (xw_goodC kw_2_80) rfl rfl rfl (htx _ kw_1_6) (htx _ kw_5_86) ⟨by decide, by decide, by decide +kernel⟩ ⟨Nat.le_of_ble_eq_true rfl, Nat.le_of_ble_eq_true rfl⟩, (htx _ kw_2_78), (htx _ kw_2_79)⟩ ⟨xPre_blind, vk_recv hZ.2.2.2.2.2.2.2.2.2.1 (i := 12) (by decide) hS, (fun U hU hW => ⟨rfl, xPre_of hZ hS (xm_free0 hS hA) xm_Pnil xm_Dnil hK U hU hW⟩)⟩ rfl rfl hl.1 rfl (lv_room (Nat.le_of_ble_eq_true rfl)) dM_put1_13 ⟨(hm18.1), (hm18.2)⟩) hS (fun q _ h => xm_free0 hS hA q h) (xm_free0 hS hA) (fun r26 u9 t H1 locs ht hvm hr9 hB hz1 hk1 hS => ?_)
      replace hP := xm_keep hP hk1
      generalize H1 = H at hP hS ⊢
      rw [hr9]
      refine W.eq (g2 := F0 m 16 ls [.int 117, .ref aM]) (by first | rfl | rw [xv1 (Nat.succ_ne_zero _)]) ?_
      obtain ⟨o27, hq28, hf⟩ := xbind hf
      by_cases hk29 : o27.1 = 0
      · rw [if_pos hk29] at hf
        obtain ⟨hm30, hf⟩ := xmoE hf
        have hFc := xm_free hD hS hA
        refine va_callv (va_runV (C := "ValueBenchModel") (As := [.int 117]) (rest := []) ⟨hx, hb, hml, hown, htx⟩ (gM_put0 l hl9 D cT aK aV H.size n aM ad20 rd gd21 vad22 o15.2.2.2 (117 : Int32) o27 hq28 hk29) ⟨callB_of 1 htx (xw_goodC kw_6_136) rfl rfl rfl (htx _ kw_1_5) (htx _ kw_6_133) ⟨by decide, by decide, by decide +kernel⟩ ⟨Nat.le_of_ble_eq_true rfl, Nat.le_of_ble_eq_true rfl⟩, (htx _ kw_6_135), (htx _ kp_M_put0)⟩ ⟨xPre_blind, va_recv hK hP (ci := 5) rfl (q0 := 0) rfl, (fun U hU hW => ⟨rfl, xPre_of hZ hS hFc hP hD hK U hU hW⟩)⟩ rfl rfl hl.1 rfl (xm_room (Nat.le_of_ble_eq_true rfl)) dM_put1_16 ⟨hm30.1, hm30.2⟩) hS (fun q _ h => hFc q h) hFc (fun u9 t H1 locs ht hvm hr9 hB hz1 hk1 hS => ?_)
        obtain ⟨hP1, hK1, hD1⟩ := hB
        rw [ht] at hP1
        obtain ⟨ad32, gd33, vad34⟩ := u9
        obtain ⟨hv35, hn36⟩ := hr9
        have hP : va_P D xcl (xMw cT aM ad32 rd gd33 vad34 o27.2.2.2 []) H1 := hP1
        have hD : va_D A (xMw cT aM ad32 rd gd33 vad34 o27.2.2.2 []) := hD1.weaken (fun k q _ h => hFc q.1 h)
        generalize H1 = H at hP hS ⊢
        have hE9 : ∀ p, p < xct st → vad34 p = vad p := fun p h => (hv35 p (Nat.lt_of_lt_of_le h hN)).trans (hE p h)
        have hE := hE9
        have hN : xct st ≤ xct o27.2.2.2 := Nat.le_trans hN hn36
        refine W.eq (g2 := F0 m 19 ls []) (by first | rfl | (skip; rfl)) ?_
        refine lv_iinc (v := 3) (lv' := [(2, .int 3), (0, .ref aM), (1, .ref (aK 12))]) hx hb dM_put1_19 hl (k := 0) rfl rfl (by decide) rfl (fun ls hl => ?_)
        refine lv_goto (tgt := 2) hx hb dM_put1_22 (by decide) ?_
        refine lv_iload_n hx hb dM_put1_2 rfl (lv_at hl 0 rfl) ?_
        refine lv_aload_n hx hb dM_put1_3 rfl (lv_at hl 2 rfl) ?_
        refine va_calli (va_runV (C := "java/lang/String") (As := []) (rest := [.int 3]) ⟨hx, hb, hml, hown, htx⟩ (cJS_length_2 l hl9 D cT aK aV H.size) ⟨callB_of 0 htx (xw_goodC kw_2_70) rfl rfl rfl (htx _ kw_1_6) (htx _ kw_5_238) ⟨by decide, by decide, by decide +kernel⟩ ⟨Nat.le_of_ble_eq_true rfl, Nat.le_of_ble_eq_true rfl⟩, (htx _ kw_2_68), (htx _ kw_2_69)⟩ ⟨xPre_blind, vk_recv hZ.2.2.2.2.2.2.2.2.2.1 (i := 12) (by decide) hS, (fun U hU hW => ⟨rfl, xPre_of hZ hS (xm_free0 hS hA) xm_Pnil xm_Dnil hK U hU hW⟩)⟩ rfl rfl hl.1 rfl (lv_room (Nat.le_of_ble_eq_true rfl)) dM_put1_4 ⟨(hm30.1), (hm30.2)⟩) hS (fun q _ h => xm_free0 hS hA q h) (xm_free0 hS hA) (fun r37 u9 t H1 locs ht hvm hr9 hB hz1 hk1 hS => ?_)
        replace hP := xm_keep hP hk1
        generalize H1 = H at hP hS ⊢
        rw [hr9]
        refine W.eq (g2 := F0 m 7 ls [.int 4, .int 3]) (by first | rfl | rw [xv1 (Nat.succ_ne_zero _)]) ?_
        refine lv_icmp_ge (tgt := 25) hx hb dM_put1_7 (by decide) (fun h => ((by revert h; decide : False)).elim) (fun _ => ?_)
        refine lv_aload_n hx hb dM_put1_10 rfl (lv_at hl 1 rfl) ?_
        refine lv_aload_n hx hb dM_put1_11 rfl (lv_at hl 2 rfl) ?_
        refine lv_iload_n hx hb dM_put1_12 rfl (lv_at hl 0 rfl) ?_
        refine va_calli (va_runV (C := "java/lang/String") (As := [.int 3]) (rest := [.ref aM]) ⟨hx, hb, hml, hown, htx⟩ (cJS_charAt_12 l hl9 D cT aK aV H.size) ⟨callB_of 1 htx (xw_goodC kw_2_80) rfl rfl rfl (htx _ kw_1_6) (htx _ kw_5_86) ⟨by decide, by decide, by decide +kernel⟩ ⟨Nat.le_of_ble_eq_true rfl, Nat.le_of_ble_eq_true rfl⟩, (htx _ kw_2_78), (htx _ kw_2_79)⟩ ⟨xPre_blind, vk_recv hZ.2.2.2.2.2.2.2.2.2.1 (i := 12) (by decide) hS, (fun U hU hW => ⟨rfl, xPre_of hZ hS (xm_free0 hS hA) xm_Pnil xm_Dnil hK U hU hW⟩)⟩ rfl rfl hl.1 rfl (lv_room (Nat.le_of_ble_eq_true rfl)) dM_put1_13 ⟨(hm30.1), (hm30.2)⟩) hS (fun q _ h => xm_free0 hS hA q h) (xm_free0 hS hA) (fun r38 u9 t H1 locs ht hvm hr9 hB hz1 hk1 hS => ?_)
        replace hP := xm_keep hP hk1
        generalize H1 = H at hP hS ⊢
        rw [hr9]
        refine W.eq (g2 := F0 m 16 ls [.int 101, .ref aM]) (by first | rfl | rw [xv1 (Nat.succ_ne_zero _)]) ?_
        obtain ⟨o39, hq40, hf⟩ := xbind hf
        by_cases hk41 : o39.1 = 0
        · rw [if_pos hk41] at hf
          obtain ⟨hm42, hf⟩ := xmoE hf
          have hFc := xm_free hD hS hA
          refine va_callv (va_runV (C := "ValueBenchModel") (As := [.int 101]) (rest := []) ⟨hx, hb, hml, hown, htx⟩ (gM_put0 l hl9 D cT aK aV H.size n aM ad32 rd gd33 vad34 o27.2.2.2 (101 : Int32) o39 hq40 hk41) ⟨callB_of 1 htx (xw_goodC kw_6_136) rfl rfl rfl (htx _ kw_1_5) (htx _ kw_6_133) ⟨by decide, by decide, by decide +kernel⟩ ⟨Nat.le_of_ble_eq_true rfl, Nat.le_of_ble_eq_true rfl⟩, (htx _ kw_6_135), (htx _ kp_M_put0)⟩ ⟨xPre_blind, va_recv hK hP (ci := 5) rfl (q0 := 0) rfl, (fun U hU hW => ⟨rfl, xPre_of hZ hS hFc hP hD hK U hU hW⟩)⟩ rfl rfl hl.1 rfl (xm_room (Nat.le_of_ble_eq_true rfl)) dM_put1_16 ⟨hm42.1, hm42.2⟩) hS (fun q _ h => hFc q h) hFc (fun u9 t H1 locs ht hvm hr9 hB hz1 hk1 hS => ?_)
          obtain ⟨hP1, hK1, hD1⟩ := hB
          rw [ht] at hP1
          obtain ⟨ad44, gd45, vad46⟩ := u9
          obtain ⟨hv47, hn48⟩ := hr9
          have hP : va_P D xcl (xMw cT aM ad44 rd gd45 vad46 o39.2.2.2 []) H1 := hP1
          have hD : va_D A (xMw cT aM ad44 rd gd45 vad46 o39.2.2.2 []) := hD1.weaken (fun k q _ h => hFc q.1 h)
          generalize H1 = H at hP hS ⊢
          have hE9 : ∀ p, p < xct st → vad46 p = vad p := fun p h => (hv47 p (Nat.lt_of_lt_of_le h hN)).trans (hE p h)
          have hE := hE9
          have hN : xct st ≤ xct o39.2.2.2 := Nat.le_trans hN hn48
          refine W.eq (g2 := F0 m 19 ls []) (by first | rfl | (skip; rfl)) ?_
          refine lv_iinc (v := 4) (lv' := [(2, .int 4), (0, .ref aM), (1, .ref (aK 12))]) hx hb dM_put1_19 hl (k := 0) rfl rfl (by decide) rfl (fun ls hl => ?_)
          refine lv_goto (tgt := 2) hx hb dM_put1_22 (by decide) ?_
          refine lv_iload_n hx hb dM_put1_2 rfl (lv_at hl 0 rfl) ?_
          refine lv_aload_n hx hb dM_put1_3 rfl (lv_at hl 2 rfl) ?_
          refine va_calli (va_runV (C := "java/lang/String") (As := []) (rest := [.int 4]) ⟨hx, hb, hml, hown, htx⟩ (cJS_length_2 l hl9 D cT aK aV H.size) ⟨callB_of 0 htx (xw_goodC kw_2_70) rfl rfl rfl (htx _ kw_1_6) (htx _ kw_5_238) ⟨by decide, by decide, by decide +kernel⟩ ⟨Nat.le_of_ble_eq_true rfl, Nat.le_of_ble_eq_true rfl⟩, (htx _ kw_2_68), (htx _ kw_2_69)⟩ ⟨xPre_blind, vk_recv hZ.2.2.2.2.2.2.2.2.2.1 (i := 12) (by decide) hS, (fun U hU hW => ⟨rfl, xPre_of hZ hS (xm_free0 hS hA) xm_Pnil xm_Dnil hK U hU hW⟩)⟩ rfl rfl hl.1 rfl (lv_room (Nat.le_of_ble_eq_true rfl)) dM_put1_4 ⟨(hm42.1), (hm42.2)⟩) hS (fun q _ h => xm_free0 hS hA q h) (xm_free0 hS hA) (fun r49 u9 t H1 locs ht hvm hr9 hB hz1 hk1 hS => ?_)
          replace hP := xm_keep hP hk1
          generalize H1 = H at hP hS ⊢
          rw [hr9]
          refine W.eq (g2 := F0 m 7 ls [.int 4, .int 4]) (by first | rfl | rw [xv1 (Nat.succ_ne_zero _)]) ?_
          refine lv_icmp_ge (tgt := 25) hx hb dM_put1_7 (by decide) (fun _ => ?_) (fun h => ((by revert h; decide : False)).elim)
          obtain rfl := Option.some.inj hf
          exact absurd (show (0 : Nat) = 1 from hkd) (by decide)
        rw [if_neg hk41] at hf
        by_cases hk50 : o39.1 = 1
        · rw [if_pos hk50] at hf
          obtain ⟨hm51, hf⟩ := xmoE hf
          have hFc := xm_free hD hS hA
          refine xx_thr (vx_runV (C := "ValueBenchModel") (As := [.int 101]) (rest := []) ⟨hx, hb, hml, hown, htx⟩ (gM_put0_1 l hl9 D cT aK aV H.size n aM ad32 rd gd33 vad34 o27.2.2.2 (101 : Int32) o39 hq40 hk50) ⟨callB_of 1 htx (xw_goodC kw_6_136) rfl rfl rfl (htx _ kw_1_5) (htx _ kw_6_133) ⟨by decide, by decide, by decide +kernel⟩ ⟨Nat.le_of_ble_eq_true rfl, Nat.le_of_ble_eq_true rfl⟩, (htx _ kw_6_135), (htx _ kp_M_put0)⟩ ⟨xPre_blind, va_recv hK hP (ci := 5) rfl (q0 := 0) rfl, (fun U hU hW => ⟨rfl, xPre_of hZ hS hFc hP hD hK U hU hW⟩)⟩ rfl rfl hl.1 rfl (xm_room (Nat.le_of_ble_eq_true rfl)) dM_put1_16 ⟨hm51.1, hm51.2⟩) hS hFc (fun q _ h => hFc q h) (fun E ce q9 u9 t H1 locs ht hvm hr9 hB hz1 hk1 hS hce hcv hcl => ?_)
          obtain ⟨rfl, hP1, hK1, hD1⟩ := hB
          rw [ht] at hP1
          obtain ⟨ad53, gd54, vad55⟩ := u9
          obtain ⟨hv56, hn57⟩ := hr9
          have hP : va_P D xcl (xMw cT aM ad53 rd gd54 vad55 o39.2.2.2 []) H1 := hP1
          have hD : va_D A (xMw cT aM ad53 rd gd54 vad55 o39.2.2.2 []) := hD1.weaken (fun k q _ h => hFc q.1 h)
          generalize H1 = H at hP hS hce ⊢
          have hE9 : ∀ p, p < xct st → vad55 p = vad p := fun p h => (hv56 p (Nat.lt_of_lt_of_le h hN)).trans (hE p h)
          have hE := hE9
          have hN : xct st ≤ xct o39.2.2.2 := Nat.le_trans hN hn57
          obtain rfl := Option.some.inj hf
          exact vx_out (E := "java/lang/IndexOutOfBoundsException") (fun x h => (hne x h).elim) hlocks hce hcv hcl (fun t ht ha => ⟨(ad53, gd54, vad55), ⟨hE, hN⟩, ⟨rfl, by rw [ht]; exact hP, va_K.moved ha hK, hD⟩, hS.F ht⟩) hS.2.2 (Nat.le_refl _) (Nat.le_refl _)
        rw [if_neg hk50] at hf
        exact nomatch hf
      rw [if_neg hk29] at hf
      by_cases hk58 : o27.1 = 1
      · rw [if_pos hk58] at hf
        obtain ⟨hm59, hf⟩ := xmoE hf
        have hFc := xm_free hD hS hA
        refine xx_thr (vx_runV (C := "ValueBenchModel") (As := [.int 117]) (rest := []) ⟨hx, hb, hml, hown, htx⟩ (gM_put0_1 l hl9 D cT aK aV H.size n aM ad20 rd gd21 vad22 o15.2.2.2 (117 : Int32) o27 hq28 hk58) ⟨callB_of 1 htx (xw_goodC kw_6_136) rfl rfl rfl (htx _ kw_1_5) (htx _ kw_6_133) ⟨by decide, by decide, by decide +kernel⟩ ⟨Nat.le_of_ble_eq_true rfl, Nat.le_of_ble_eq_true rfl⟩, (htx _ kw_6_135), (htx _ kp_M_put0)⟩ ⟨xPre_blind, va_recv hK hP (ci := 5) rfl (q0 := 0) rfl, (fun U hU hW => ⟨rfl, xPre_of hZ hS hFc hP hD hK U hU hW⟩)⟩ rfl rfl hl.1 rfl (xm_room (Nat.le_of_ble_eq_true rfl)) dM_put1_16 ⟨hm59.1, hm59.2⟩) hS hFc (fun q _ h => hFc q h) (fun E ce q9 u9 t H1 locs ht hvm hr9 hB hz1 hk1 hS hce hcv hcl => ?_)
        obtain ⟨rfl, hP1, hK1, hD1⟩ := hB
        rw [ht] at hP1
        obtain ⟨ad61, gd62, vad63⟩ := u9
        obtain ⟨hv64, hn65⟩ := hr9
        have hP : va_P D xcl (xMw cT aM ad61 rd gd62 vad63 o27.2.2.2 []) H1 := hP1
        have hD : va_D A (xMw cT aM ad61 rd gd62 vad63 o27.2.2.2 []) := hD1.weaken (fun k q _ h => hFc q.1 h)
        generalize H1 = H at hP hS hce ⊢
        have hE9 : ∀ p, p < xct st → vad63 p = vad p := fun p h => (hv64 p (Nat.lt_of_lt_of_le h hN)).trans (hE p h)
        have hE := hE9
        have hN : xct st ≤ xct o27.2.2.2 := Nat.le_trans hN hn65
        obtain rfl := Option.some.inj hf
        exact vx_out (E := "java/lang/IndexOutOfBoundsException") (fun x h => (hne x h).elim) hlocks hce hcv hcl (fun t ht ha => ⟨(ad61, gd62, vad63), ⟨hE, hN⟩, ⟨rfl, by rw [ht]; exact hP, va_K.moved ha hK, hD⟩, hS.F ht⟩) hS.2.2 (Nat.le_refl _) (Nat.le_refl _)
      rw [if_neg hk58] at hf
      exact nomatch hf
    rw [if_neg hk17] at hf
    by_cases hk66 : o15.1 = 1
    · rw [if_pos hk66] at hf
      obtain ⟨hm67, hf⟩ := xmoE hf
      have hFc := xm_free hD hS hA
      refine xx_thr (vx_runV (C := "ValueBenchModel") (As := [.int 114]) (rest := []) ⟨hx, hb, hml, hown, htx⟩ (gM_put0_1 l hl9 D cT aK aV H.size n aM ad8 rd gd9 vad10 o3.2.2.2 (114 : Int32) o15 hq16 hk66) ⟨callB_of 1 htx (xw_goodC kw_6_136) rfl rfl rfl (htx _ kw_1_5) (htx _ kw_6_133) ⟨by decide, by decide, by decide +kernel⟩ ⟨Nat.le_of_ble_eq_true rfl, Nat.le_of_ble_eq_true rfl⟩, (htx _ kw_6_135), (htx _ kp_M_put0)⟩ ⟨xPre_blind, va_recv hK hP (ci := 5) rfl (q0 := 0) rfl, (fun U hU hW => ⟨rfl, xPre_of hZ hS hFc hP hD hK U hU hW⟩)⟩ rfl rfl hl.1 rfl (xm_room (Nat.le_of_ble_eq_true rfl)) dM_put1_16 ⟨hm67.1, hm67.2⟩) hS hFc (fun q _ h => hFc q h) (fun E ce q9 u9 t H1 locs ht hvm hr9 hB hz1 hk1 hS hce hcv hcl => ?_)
      obtain ⟨rfl, hP1, hK1, hD1⟩ := hB
      rw [ht] at hP1
      obtain ⟨ad69, gd70, vad71⟩ := u9
      obtain ⟨hv72, hn73⟩ := hr9
      have hP : va_P D xcl (xMw cT aM ad69 rd gd70 vad71 o15.2.2.2 []) H1 := hP1
      have hD : va_D A (xMw cT aM ad69 rd gd70 vad71 o15.2.2.2 []) := hD1.weaken (fun k q _ h => hFc q.1 h)
      generalize H1 = H at hP hS hce ⊢
      have hE9 : ∀ p, p < xct st → vad71 p = vad p := fun p h => (hv72 p (Nat.lt_of_lt_of_le h hN)).trans (hE p h)
      have hE := hE9
      have hN : xct st ≤ xct o15.2.2.2 := Nat.le_trans hN hn73
      obtain rfl := Option.some.inj hf
      exact vx_out (E := "java/lang/IndexOutOfBoundsException") (fun x h => (hne x h).elim) hlocks hce hcv hcl (fun t ht ha => ⟨(ad69, gd70, vad71), ⟨hE, hN⟩, ⟨rfl, by rw [ht]; exact hP, va_K.moved ha hK, hD⟩, hS.F ht⟩) hS.2.2 (Nat.le_refl _) (Nat.le_refl _)
    rw [if_neg hk66] at hf
    exact nomatch hf
  rw [if_neg hk5] at hf
  by_cases hk74 : o3.1 = 1
  · rw [if_pos hk74] at hf
    obtain ⟨hm75, hf⟩ := xmoE hf
    have hFc := xm_free hD hS hA
    refine xx_thr (vx_runV (C := "ValueBenchModel") (As := [.int 116]) (rest := []) ⟨hx, hb, hml, hown, htx⟩ (gM_put0_1 l hl9 D cT aK aV H.size n aM ad rd gd vad st (116 : Int32) o3 hq4 hk74) ⟨callB_of 1 htx (xw_goodC kw_6_136) rfl rfl rfl (htx _ kw_1_5) (htx _ kw_6_133) ⟨by decide, by decide, by decide +kernel⟩ ⟨Nat.le_of_ble_eq_true rfl, Nat.le_of_ble_eq_true rfl⟩, (htx _ kw_6_135), (htx _ kp_M_put0)⟩ ⟨xPre_blind, va_recv hK hP (ci := 5) rfl (q0 := 0) rfl, (fun U hU hW => ⟨rfl, xPre_of hZ hS hFc hP hD hK U hU hW⟩)⟩ rfl rfl hl.1 rfl (xm_room (Nat.le_of_ble_eq_true rfl)) dM_put1_16 ⟨hm75.1, hm75.2⟩) hS hFc (fun q _ h => hFc q h) (fun E ce q9 u9 t H1 locs ht hvm hr9 hB hz1 hk1 hS hce hcv hcl => ?_)
    obtain ⟨rfl, hP1, hK1, hD1⟩ := hB
    rw [ht] at hP1
    obtain ⟨ad77, gd78, vad79⟩ := u9
    obtain ⟨hv80, hn81⟩ := hr9
    have hP : va_P D xcl (xMw cT aM ad77 rd gd78 vad79 o3.2.2.2 []) H1 := hP1
    have hD : va_D A (xMw cT aM ad77 rd gd78 vad79 o3.2.2.2 []) := hD1.weaken (fun k q _ h => hFc q.1 h)
    generalize H1 = H at hP hS hce ⊢
    have hE9 : ∀ p, p < xct st → vad79 p = vad p := fun p h => (hv80 p (Nat.lt_of_lt_of_le h hN)).trans (hE p h)
    have hE := hE9
    have hN : xct st ≤ xct o3.2.2.2 := Nat.le_trans hN hn81
    obtain rfl := Option.some.inj hf
    exact vx_out (E := "java/lang/IndexOutOfBoundsException") (fun x h => (hne x h).elim) hlocks hce hcv hcl (fun t ht ha => ⟨(ad77, gd78, vad79), ⟨hE, hN⟩, ⟨rfl, by rw [ht]; exact hP, va_K.moved ha hK, hD⟩, hS.F ht⟩) hS.2.2 (Nat.le_refl _) (Nat.le_refl _)
  rw [if_neg hk74] at hf
  exact nomatch hf
set_option maxHeartbeats 400000000 in
set_option maxRecDepth 100000 in
theorem gM_putNumber (l : Launch) (hl9 : l.stackTraces = false) (D : va_G) (cT : Nat → ClassId) (aK aV : Nat → Nat) (sz n : Nat) (aM : Nat) (ad rd gd vad : Nat → Nat) (st : xS) (x0 : Int64) (out : Nat × Nat × Nat × xS) (hf : fM_putNumber n st x0 = some out) (hkd : out.1 = 0) : xMet l yM_putNumber wyM_putNumber 7 out.2.1 out.2.2.1 123 D cT aK aV sz [.ref aM, .long x0] (xMw cT aM ad rd gd vad st []) (fun A => va_Qv (fun u : xU => xE vad st out.2.2.2 u) (fun u t => xB D xcl cT A (xMw cT aM u.1 rd u.2.1 u.2.2 out.2.2.2 []) t) A) := by
  refine Met.ofW (cc := prog_13_method_43_code) (maxL := 7) (ret := none) (by decide) rfl ?_
  intro p e s m args below meth c s₁ B hml hv
  obtain ⟨rfl, hsz, hZ, hP, hK, hD0⟩ := hv
  have hx := B.exec
  have hb := B.bytes
  have hr := B.returns
  have hts := atoms_spec (ws := wyM_putNumber) B.pre
  have htx := fun w h => hts w (List.mem_cons_of_mem _ h)
  have hown : s.vm.findClass "ValueBenchModel" = some m.cls := findClass_of_methodNamed B.named
  have hlocks := B.notSynchronized
  subst hsz
  have hD := hD0.self (sz := s.heap.size)
  generalize hAe : va_A (xMw cT aM ad rd gd vad st []) s.heap.size = A at hD hZ ⊢
  have hA : ∀ q : Nat, s.heap.size ≤ q → A q := fun q h => by rw [← hAe]; exact Or.inr h
  have hS : va_S A s.heap s.heap [] := va_S.rf
  have hl := lv_entry ([.ref aM, .long x0]) (n := 7) (by simp [lg_sl, xvcat, xrscat, xcI, xcL, xcR, xcN])
  rw [show lv_args 0 [.ref aM, .long x0] = [(0, .ref aM), (1, .long x0)] from by simp [lv_args, xvcat, xrscat, xcI, xcL, xcR, xcN]] at hl
  rw [lg_entry_eq]
  generalize (lg_sl ([.ref aM, .long x0]) ++ List.replicate (7 - (lg_sl ([.ref aM, .long x0])).length) Slot.unset).toArray = ls at hl ⊢
  have hl : lv_has ls 7 [(0, .ref aM), (1, .long x0)] := hl
  have hE : ∀ p, p < xct st → vad p = vad p := fun _ _ => rfl
  have hN : xct st ≤ xct st := Nat.le_refl _
  unfold fM_putNumber at hf
  refine xloopM (σ := Nat × Int64 × Int64 × Int64 × xS × Nat × Nat) (fun n x H locs ls => (∃ (adL gdL vadL : Nat → Nat), x.1 = 1 ∧ fM_putNumber_b n x.1 x.2.1 x.2.2.1 x.2.2.2.1 x.2.2.2.2.1 x.2.2.2.2.2.1 x.2.2.2.2.2.2 = some out ∧ va_P D xcl (xMw cT aM adL rd gdL vadL x.2.2.2.2.1 []) H ∧ va_D A (xMw cT aM adL rd gdL vadL x.2.2.2.2.1 []) ∧ va_S A s.heap H locs ∧ lv_has ls 7 [(5, .long x.2.1), (3, .long x.2.2.1), (0, .ref aM), (1, .long x.2.2.2.1)] ∧ (∀ p, p < xct st → vadL p = vad p) ∧ xct st ≤ xct x.2.2.2.2.1) ∨ (∃ (adL gdL vadL : Nat → Nat), x.1 = 2 ∧ fM_putNumber_b n x.1 x.2.1 x.2.2.1 x.2.2.2.1 x.2.2.2.2.1 x.2.2.2.2.2.1 x.2.2.2.2.2.2 = some out ∧ va_P D xcl (xMw cT aM adL rd gdL vadL x.2.2.2.2.1 []) H ∧ va_D A (xMw cT aM adL rd gdL vadL x.2.2.2.2.1 []) ∧ va_S A s.heap H locs ∧ lv_has ls 7 [(5, .long x.2.1), (3, .long x.2.2.1), (0, .ref aM), (1, .long x.2.2.2.1)] ∧ (∀ p, p < xct st → vadL p = vad p) ∧ xct st ≤ xct x.2.2.2.2.1)) (fun x => if x.1 = 1 then 28 else 50) (fun x => x.2.2.2.2.2.1) (fun x => x.2.2.2.2.2.2) (fun x H locs ls h => by rcases h with h | h; (obtain ⟨_, _, _, h⟩ := h; exact absurd h.2.1 (by rw [fM_putNumber_b]; exact fun h => nomatch h)); (obtain ⟨_, _, _, h⟩ := h; exact absurd h.2.1 (by rw [fM_putNumber_b]; exact fun h => nomatch h))) (fun n ih x H locs ls hv => ?_) (fun key => ?_)
  · obtain ⟨lb, y5, y3, y1, ws9, wc, wn⟩ := x
    rcases hv with ⟨adL, gdL, vadL, hj, hf, hP, hD, hS, hl, hE, hN⟩ | ⟨adL, gdL, vadL, hj, hf, hP, hD, hS, hl, hE, hN⟩
    · subst hj
      have hf : fM_putNumber_b (n + 1) 1 y5 y3 y1 ws9 wc wn = some out := hf
      rw [fM_putNumber_b, if_pos rfl] at hf
      obtain ⟨hP, hD⟩ : xPD D xcl A (xMw cT aM adL rd gdL vadL ws9 []) H := ⟨hP, hD⟩
      have hl : lv_has ls 7 [(5, .long y5), (3, .long y3), (0, .ref aM), (1, .long y1)] := hl
      refine W.eq (g2 := F0 m 28 ls []) rfl ?_
      show W p l e _ s m _ below meth c H locs wc wn _ _
      obtain ⟨hm0, hf⟩ := xmoE hf
      refine lv_lload_n hx hb dM_putNumber_28 rfl (lv_at hl 1 rfl) ?_
      refine lv_lload hx hb dM_putNumber_29 (lv_at hl 0 rfl) ?_
      obtain ⟨hg1, hf⟩ := xifn hf
      refine lv_ldiv hx hb dM_putNumber_31 hg1 ?_
      refine lv_ldc2 hx hb hown (htx _ kw_6_141) dM_putNumber_32 ?_
      refine W.lcmp hx hb dM_putNumber_35 ?_
      refine lv_if_le (tgt := 50) hx hb dM_putNumber_36 (by decide) (fun hc => ?_) (fun hc => ?_)
      · rw [if_pos hc] at hf
        exact ih (2, y5, y3, y1, ws9, wc, wn) _ _ ls (Or.inr (⟨adL, gdL, vadL, rfl, hf, hP, hD, hS, lv_sub hl [0, 1, 2, 3] rfl, hE, hN⟩))
      · rw [if_neg hc] at hf
        refine lv_lload hx hb dM_putNumber_39 (lv_at hl 0 rfl) ?_
        refine lv_ldc2 hx hb hown (htx _ kw_6_78) dM_putNumber_41 ?_
        refine lv_lmul hx hb dM_putNumber_44 ?_
        refine lv_lstore (lv' := [(5, .long (y5 * (10 : Int64))), (3, .long y3), (0, .ref aM), (1, .long y1)]) hx hb dM_putNumber_45 hl (by decide) rfl (fun ls hl => ?_)
        refine lv_goto (tgt := 28) hx hb dM_putNumber_47 (by decide) ?_
        exact ih (1, (y5 * (10 : Int64)), y3, y1, ws9, wc, wn) _ _ ls (Or.inl ⟨adL, gdL, vadL, rfl, hf, hP, hD, hS, lv_sub hl [0, 1, 2, 3] rfl, hE, hN⟩)
    · subst hj
      have hf : fM_putNumber_b (n + 1) 2 y5 y3 y1 ws9 wc wn = some out := hf
      rw [fM_putNumber_b, if_neg (by decide)] at hf
      obtain ⟨hP, hD⟩ : xPD D xcl A (xMw cT aM adL rd gdL vadL ws9 []) H := ⟨hP, hD⟩
      have hl : lv_has ls 7 [(5, .long y5), (3, .long y3), (0, .ref aM), (1, .long y1)] := hl
      refine W.eq (g2 := F0 m 50 ls []) rfl ?_
      show W p l e _ s m _ below meth c H locs wc wn _ _
      obtain ⟨hm0, hf⟩ := xmoE hf
      refine lv_lload hx hb dM_putNumber_50 (lv_at hl 0 rfl) ?_
      refine lv_lconst (v := 0) hx hb dM_putNumber_52 (by decide) ?_
      refine W.lcmp hx hb dM_putNumber_53 ?_
      refine lv_if_le (tgt := 85) hx hb dM_putNumber_54 (by decide) (fun hc => ?_) (fun hc => ?_)
      · rw [if_pos hc] at hf
        obtain rfl := Option.some.inj hf
        exact W.vret hx hb hr (fun t ht hW => ⟨⟨(adL, gdL, vadL), rfl, ⟨hE, hN⟩, by rw [ht]; exact hP, va_K.moved hW.alike hK, hD⟩, hS.F ht⟩) hS.2.2 dM_putNumber_85
      · rw [if_neg hc] at hf
        refine lv_aload_n hx hb dM_putNumber_57 rfl (lv_at hl 2 rfl) ?_
        refine lv_ldc2 hx hb hown (htx _ kw_6_79) dM_putNumber_58 ?_
        refine lv_lload_n hx hb dM_putNumber_61 rfl (lv_at hl 1 rfl) ?_
        refine lv_lload hx hb dM_putNumber_62 (lv_at hl 0 rfl) ?_
        obtain ⟨hg1, hf⟩ := xifn hf
        refine lv_ldiv hx hb dM_putNumber_64 hg1 ?_
        refine lv_ldc2 hx hb hown (htx _ kw_6_78) dM_putNumber_65 ?_
        refine lv_lrem hx hb dM_putNumber_68 (by decide) ?_
        refine lv_ladd hx hb dM_putNumber_69 ?_
        refine lv_l2i hx hb dM_putNumber_70 rfl ?_
        obtain ⟨o2, hq3, hf⟩ := xbind hf
        by_cases hk4 : o2.1 = 0
        · rw [if_pos hk4] at hf
          obtain ⟨hm5, hf⟩ := xmoE hf
          have hFc := xm_free hD hS hA
          refine va_callv (va_runV (C := "ValueBenchModel") (As := [.int ((48 : Int64) + ((y3 / y5) - (y3 / y5) / (10 : Int64) * (10 : Int64))).toInt32]) (rest := []) ⟨hx, hb, hml, hown, htx⟩ (gM_put0 l hl9 D cT aK aV H.size n aM adL rd gdL vadL ws9 (((48 : Int64) + ((y3 / y5) - (y3 / y5) / (10 : Int64) * (10 : Int64))).toInt32) o2 hq3 hk4) ⟨callB_of 1 htx (xw_goodC kw_6_136) rfl rfl rfl (htx _ kw_1_5) (htx _ kw_6_133) ⟨by decide, by decide, by decide +kernel⟩ ⟨Nat.le_of_ble_eq_true rfl, Nat.le_of_ble_eq_true rfl⟩, (htx _ kw_6_135), (htx _ kp_M_put0)⟩ ⟨xPre_blind, va_recv hK hP (ci := 5) rfl (q0 := 0) rfl, (fun U hU hW => ⟨rfl, xPre_of hZ hS hFc hP hD hK U hU hW⟩)⟩ rfl rfl hl.1 rfl (xm_room (Nat.le_of_ble_eq_true rfl)) dM_putNumber_71 ⟨hm5.1, hm5.2⟩) hS (fun q _ h => hFc q h) hFc (fun u9 t H1 locs ht hvm hr9 hB hz1 hk1 hS => ?_)
          obtain ⟨hP1, hK1, hD1⟩ := hB
          rw [ht] at hP1
          obtain ⟨ad7, gd8, vad9⟩ := u9
          obtain ⟨hv10, hn11⟩ := hr9
          have hP : va_P D xcl (xMw cT aM ad7 rd gd8 vad9 o2.2.2.2 []) H1 := hP1
          have hD : va_D A (xMw cT aM ad7 rd gd8 vad9 o2.2.2.2 []) := hD1.weaken (fun k q _ h => hFc q.1 h)
          generalize H1 = H at hP hS ⊢
          have hE9 : ∀ p, p < xct st → vad9 p = vad p := fun p h => (hv10 p (Nat.lt_of_lt_of_le h hN)).trans (hE p h)
          have hE := hE9
          have hN : xct st ≤ xct o2.2.2.2 := Nat.le_trans hN hn11
          refine W.eq (g2 := F0 m 74 ls []) (by first | rfl | (skip; rfl)) ?_
          refine lv_lload hx hb dM_putNumber_74 (lv_at hl 0 rfl) ?_
          refine lv_ldc2 hx hb hown (htx _ kw_6_78) dM_putNumber_76 ?_
          refine lv_ldiv hx hb dM_putNumber_79 (by decide) ?_
          refine lv_lstore (lv' := [(5, .long (y5 / (10 : Int64))), (3, .long y3), (0, .ref aM), (1, .long y1)]) hx hb dM_putNumber_80 hl (by decide) rfl (fun ls hl => ?_)
          refine lv_goto (tgt := 50) hx hb dM_putNumber_82 (by decide) ?_
          exact ih (2, (y5 / (10 : Int64)), y3, y1, o2.2.2.2, (wc + o2.2.1), (wn + o2.2.2.1)) _ _ ls (Or.inr (⟨ad7, gd8, vad9, rfl, hf, hP, hD, hS, lv_sub hl [0, 1, 2, 3] rfl, hE, hN⟩))
        rw [if_neg hk4] at hf
        by_cases hk12 : o2.1 = 1
        · rw [if_pos hk12] at hf
          obtain ⟨hm13, hf⟩ := xmoE hf
          obtain rfl := Option.some.inj hf
          exact absurd (show (1 : Nat) = 0 from hkd) (by decide)
        rw [if_neg hk12] at hf
        exact nomatch hf
  refine lv_lload_n hx hb dM_putNumber_0 rfl (lv_at hl 1 rfl) ?_
  refine lv_lconst (v := 0) hx hb dM_putNumber_1 (by decide) ?_
  refine W.lcmp hx hb dM_putNumber_2 ?_
  refine lv_if_ge (tgt := 12) hx hb dM_putNumber_3 (by decide) (fun hc => ?_) (fun hc => ?_)
  · rw [if_pos hc] at hf
    refine lv_lload_n hx hb dM_putNumber_12 rfl (lv_at hl 1 rfl) ?_
    refine lv_lconst (v := 0) hx hb dM_putNumber_13 (by decide) ?_
    refine W.lcmp hx hb dM_putNumber_14 ?_
    refine lv_if_ge (tgt := 23) hx hb dM_putNumber_15 (by decide) (fun hc => ?_) (fun hc => ?_)
    · rw [if_pos hc] at hf
      refine lv_lload_n hx hb dM_putNumber_23 rfl (lv_at hl 1 rfl) ?_
      refine lv_lstore_n (lv' := [(3, .long x0), (0, .ref aM), (1, .long x0)]) hx hb dM_putNumber_24 rfl hl (by decide) rfl (fun ls hl => ?_)
      refine lv_lconst (v := 1) hx hb dM_putNumber_25 (by decide) ?_
      refine lv_lstore (lv' := [(5, .long 1), (3, .long x0), (0, .ref aM), (1, .long x0)]) hx hb dM_putNumber_26 hl (by decide) rfl (fun ls hl => ?_)
      exact key n (1, (1 : Int64), x0, x0, st, 0, 0) _ _ ls (Or.inl ⟨ad, gd, vad, rfl, hf, hP, hD, hS, lv_sub hl [0, 1, 2, 3] rfl, hE, hN⟩)
    · rw [if_neg hc] at hf
      refine lv_lload_n hx hb dM_putNumber_18 rfl (lv_at hl 1 rfl) ?_
      refine lv_lneg hx hb dM_putNumber_19 ?_
      refine lv_goto (tgt := 24) hx hb dM_putNumber_20 (by decide) ?_
      refine lv_lstore_n (lv' := [(3, .long (-x0)), (0, .ref aM), (1, .long x0)]) hx hb dM_putNumber_24 rfl hl (by decide) rfl (fun ls hl => ?_)
      refine lv_lconst (v := 1) hx hb dM_putNumber_25 (by decide) ?_
      refine lv_lstore (lv' := [(5, .long 1), (3, .long (-x0)), (0, .ref aM), (1, .long x0)]) hx hb dM_putNumber_26 hl (by decide) rfl (fun ls hl => ?_)
      exact key n (1, (1 : Int64), (-x0), x0, st, 0, 0) _ _ ls (Or.inl ⟨ad, gd, vad, rfl, hf, hP, hD, hS, lv_sub hl [0, 1, 2, 3] rfl, hE, hN⟩)
  · rw [if_neg hc] at hf
    refine lv_aload_n hx hb dM_putNumber_6 rfl (lv_at hl 0 rfl) ?_
    refine lv_bipush (v := 45) hx hb dM_putNumber_7 (by decide) ?_
    obtain ⟨o1, hq2, hf⟩ := xbind hf
    by_cases hk3 : o1.1 = 0
    · rw [if_pos hk3] at hf
      obtain ⟨hm4, hf⟩ := xmoE hf
      have hFc := xm_free hD hS hA
      refine va_callv (va_runV (C := "ValueBenchModel") (As := [.int 45]) (rest := []) ⟨hx, hb, hml, hown, htx⟩ (gM_put0 l hl9 D cT aK aV s.heap.size n aM ad rd gd vad st (45 : Int32) o1 hq2 hk3) ⟨callB_of 1 htx (xw_goodC kw_6_136) rfl rfl rfl (htx _ kw_1_5) (htx _ kw_6_133) ⟨by decide, by decide, by decide +kernel⟩ ⟨Nat.le_of_ble_eq_true rfl, Nat.le_of_ble_eq_true rfl⟩, (htx _ kw_6_135), (htx _ kp_M_put0)⟩ ⟨xPre_blind, va_recv hK hP (ci := 5) rfl (q0 := 0) rfl, (fun U hU hW => ⟨rfl, xPre_of hZ hS hFc hP hD hK U hU hW⟩)⟩ rfl rfl hl.1 rfl (xm_room (Nat.le_of_ble_eq_true rfl)) dM_putNumber_9 ⟨hm4.1, hm4.2⟩) hS (fun q _ h => hFc q h) hFc (fun u9 t H1 locs ht hvm hr9 hB hz1 hk1 hS => ?_)
      obtain ⟨hP1, hK1, hD1⟩ := hB
      rw [ht] at hP1
      obtain ⟨ad6, gd7, vad8⟩ := u9
      obtain ⟨hv9, hn10⟩ := hr9
      have hP : va_P D xcl (xMw cT aM ad6 rd gd7 vad8 o1.2.2.2 []) H1 := hP1
      have hD : va_D A (xMw cT aM ad6 rd gd7 vad8 o1.2.2.2 []) := hD1.weaken (fun k q _ h => hFc q.1 h)
      generalize H1 = H at hP hS ⊢
      have hE9 : ∀ p, p < xct st → vad8 p = vad p := fun p h => (hv9 p (Nat.lt_of_lt_of_le h hN)).trans (hE p h)
      have hE := hE9
      have hN : xct st ≤ xct o1.2.2.2 := Nat.le_trans hN hn10
      refine W.eq (g2 := F0 m 12 ls []) (by first | rfl | (skip; rfl)) ?_
      refine lv_lload_n hx hb dM_putNumber_12 rfl (lv_at hl 1 rfl) ?_
      refine lv_lconst (v := 0) hx hb dM_putNumber_13 (by decide) ?_
      refine W.lcmp hx hb dM_putNumber_14 ?_
      refine lv_if_ge (tgt := 23) hx hb dM_putNumber_15 (by decide) (fun hc => ?_) (fun hc => ?_)
      · rw [if_pos hc] at hf
        refine lv_lload_n hx hb dM_putNumber_23 rfl (lv_at hl 1 rfl) ?_
        refine lv_lstore_n (lv' := [(3, .long x0), (0, .ref aM), (1, .long x0)]) hx hb dM_putNumber_24 rfl hl (by decide) rfl (fun ls hl => ?_)
        refine lv_lconst (v := 1) hx hb dM_putNumber_25 (by decide) ?_
        refine lv_lstore (lv' := [(5, .long 1), (3, .long x0), (0, .ref aM), (1, .long x0)]) hx hb dM_putNumber_26 hl (by decide) rfl (fun ls hl => ?_)
        exact key n (1, (1 : Int64), x0, x0, o1.2.2.2, (0 + o1.2.1), (0 + o1.2.2.1)) _ _ ls (Or.inl ⟨ad6, gd7, vad8, rfl, hf, hP, hD, hS, lv_sub hl [0, 1, 2, 3] rfl, hE, hN⟩)
      · rw [if_neg hc] at hf
        refine lv_lload_n hx hb dM_putNumber_18 rfl (lv_at hl 1 rfl) ?_
        refine lv_lneg hx hb dM_putNumber_19 ?_
        refine lv_goto (tgt := 24) hx hb dM_putNumber_20 (by decide) ?_
        refine lv_lstore_n (lv' := [(3, .long (-x0)), (0, .ref aM), (1, .long x0)]) hx hb dM_putNumber_24 rfl hl (by decide) rfl (fun ls hl => ?_)
        refine lv_lconst (v := 1) hx hb dM_putNumber_25 (by decide) ?_
        refine lv_lstore (lv' := [(5, .long 1), (3, .long (-x0)), (0, .ref aM), (1, .long x0)]) hx hb dM_putNumber_26 hl (by decide) rfl (fun ls hl => ?_)
        exact key n (1, (1 : Int64), (-x0), x0, o1.2.2.2, (0 + o1.2.1), (0 + o1.2.2.1)) _ _ ls (Or.inl ⟨ad6, gd7, vad8, rfl, hf, hP, hD, hS, lv_sub hl [0, 1, 2, 3] rfl, hE, hN⟩)
    rw [if_neg hk3] at hf
    by_cases hk11 : o1.1 = 1
    · rw [if_pos hk11] at hf
      obtain ⟨hm12, hf⟩ := xmoE hf
      obtain rfl := Option.some.inj hf
      exact absurd (show (1 : Nat) = 0 from hkd) (by decide)
    rw [if_neg hk11] at hf
    exact nomatch hf
set_option maxHeartbeats 400000000 in
set_option maxRecDepth 100000 in
theorem gM_putNumber_1 (l : Launch) (hl9 : l.stackTraces = false) (D : va_G) (cT : Nat → ClassId) (aK aV : Nat → Nat) (sz n : Nat) (aM : Nat) (ad rd gd vad : Nat → Nat) (st : xS) (x0 : Int64) (out : Nat × Nat × Nat × xS) (hf : fM_putNumber n st x0 = some out) (hkd : out.1 = 1) : xMetY l yM_putNumber wyM_putNumber 7 out.2.1 out.2.2.1 123 D cT aK aV sz [.ref aM, .long x0] (xMw cT aM ad rd gd vad st []) "java/lang/IndexOutOfBoundsException" (fun u => xE vad st out.2.2.2 u) (fun A u t => xB D xcl cT A (xMw cT aM u.1 rd u.2.1 u.2.2 out.2.2.2 []) t) := by
  refine vx_ofW (cc := prog_13_method_43_code) (maxL := 7) (ret := none) (by decide) rfl ?_
  intro p e s m args below meth c s₁ B hml hne hv
  obtain ⟨rfl, hsz, hZ, hP, hK, hD0⟩ := hv
  have hx := B.exec
  have hb := B.bytes
  have hr := B.returns
  have hts := atoms_spec (ws := wyM_putNumber) B.pre
  have htx := fun w h => hts w (List.mem_cons_of_mem _ h)
  have hown : s.vm.findClass "ValueBenchModel" = some m.cls := findClass_of_methodNamed B.named
  have hlocks := B.notSynchronized
  subst hsz
  have hD := hD0.self (sz := s.heap.size)
  generalize hAe : va_A (xMw cT aM ad rd gd vad st []) s.heap.size = A at hD hZ ⊢
  have hA : ∀ q : Nat, s.heap.size ≤ q → A q := fun q h => by rw [← hAe]; exact Or.inr h
  have hS : va_S A s.heap s.heap [] := va_S.rf
  have hl := lv_entry ([.ref aM, .long x0]) (n := 7) (by simp [lg_sl, xvcat, xrscat, xcI, xcL, xcR, xcN])
  rw [show lv_args 0 [.ref aM, .long x0] = [(0, .ref aM), (1, .long x0)] from by simp [lv_args, xvcat, xrscat, xcI, xcL, xcR, xcN]] at hl
  rw [lg_entry_eq]
  generalize (lg_sl ([.ref aM, .long x0]) ++ List.replicate (7 - (lg_sl ([.ref aM, .long x0])).length) Slot.unset).toArray = ls at hl ⊢
  have hl : lv_has ls 7 [(0, .ref aM), (1, .long x0)] := hl
  have hE : ∀ p, p < xct st → vad p = vad p := fun _ _ => rfl
  have hN : xct st ≤ xct st := Nat.le_refl _
  unfold fM_putNumber at hf
  refine xloopM (σ := Nat × Int64 × Int64 × Int64 × xS × Nat × Nat) (fun n x H locs ls => (∃ (adL gdL vadL : Nat → Nat), x.1 = 1 ∧ fM_putNumber_b n x.1 x.2.1 x.2.2.1 x.2.2.2.1 x.2.2.2.2.1 x.2.2.2.2.2.1 x.2.2.2.2.2.2 = some out ∧ va_P D xcl (xMw cT aM adL rd gdL vadL x.2.2.2.2.1 []) H ∧ va_D A (xMw cT aM adL rd gdL vadL x.2.2.2.2.1 []) ∧ va_S A s.heap H locs ∧ lv_has ls 7 [(5, .long x.2.1), (3, .long x.2.2.1), (0, .ref aM), (1, .long x.2.2.2.1)] ∧ (∀ p, p < xct st → vadL p = vad p) ∧ xct st ≤ xct x.2.2.2.2.1) ∨ (∃ (adL gdL vadL : Nat → Nat), x.1 = 2 ∧ fM_putNumber_b n x.1 x.2.1 x.2.2.1 x.2.2.2.1 x.2.2.2.2.1 x.2.2.2.2.2.1 x.2.2.2.2.2.2 = some out ∧ va_P D xcl (xMw cT aM adL rd gdL vadL x.2.2.2.2.1 []) H ∧ va_D A (xMw cT aM adL rd gdL vadL x.2.2.2.2.1 []) ∧ va_S A s.heap H locs ∧ lv_has ls 7 [(5, .long x.2.1), (3, .long x.2.2.1), (0, .ref aM), (1, .long x.2.2.2.1)] ∧ (∀ p, p < xct st → vadL p = vad p) ∧ xct st ≤ xct x.2.2.2.2.1)) (fun x => if x.1 = 1 then 28 else 50) (fun x => x.2.2.2.2.2.1) (fun x => x.2.2.2.2.2.2) (fun x H locs ls h => by rcases h with h | h; (obtain ⟨_, _, _, h⟩ := h; exact absurd h.2.1 (by rw [fM_putNumber_b]; exact fun h => nomatch h)); (obtain ⟨_, _, _, h⟩ := h; exact absurd h.2.1 (by rw [fM_putNumber_b]; exact fun h => nomatch h))) (fun n ih x H locs ls hv => ?_) (fun key => ?_)
  · obtain ⟨lb, y5, y3, y1, ws9, wc, wn⟩ := x
    rcases hv with ⟨adL, gdL, vadL, hj, hf, hP, hD, hS, hl, hE, hN⟩ | ⟨adL, gdL, vadL, hj, hf, hP, hD, hS, hl, hE, hN⟩
    · subst hj
      have hf : fM_putNumber_b (n + 1) 1 y5 y3 y1 ws9 wc wn = some out := hf
      rw [fM_putNumber_b, if_pos rfl] at hf
      obtain ⟨hP, hD⟩ : xPD D xcl A (xMw cT aM adL rd gdL vadL ws9 []) H := ⟨hP, hD⟩
      have hl : lv_has ls 7 [(5, .long y5), (3, .long y3), (0, .ref aM), (1, .long y1)] := hl
      refine W.eq (g2 := F0 m 28 ls []) rfl ?_
      show W p l e _ s m _ below meth c H locs wc wn _ _
      obtain ⟨hm0, hf⟩ := xmoE hf
      refine lv_lload_n hx hb dM_putNumber_28 rfl (lv_at hl 1 rfl) ?_
      refine lv_lload hx hb dM_putNumber_29 (lv_at hl 0 rfl) ?_
      obtain ⟨hg1, hf⟩ := xifn hf
      refine lv_ldiv hx hb dM_putNumber_31 hg1 ?_
      refine lv_ldc2 hx hb hown (htx _ kw_6_141) dM_putNumber_32 ?_
      refine W.lcmp hx hb dM_putNumber_35 ?_
      refine lv_if_le (tgt := 50) hx hb dM_putNumber_36 (by decide) (fun hc => ?_) (fun hc => ?_)
      · rw [if_pos hc] at hf
        exact ih (2, y5, y3, y1, ws9, wc, wn) _ _ ls (Or.inr (⟨adL, gdL, vadL, rfl, hf, hP, hD, hS, lv_sub hl [0, 1, 2, 3] rfl, hE, hN⟩))
      · rw [if_neg hc] at hf
        refine lv_lload hx hb dM_putNumber_39 (lv_at hl 0 rfl) ?_
        refine lv_ldc2 hx hb hown (htx _ kw_6_78) dM_putNumber_41 ?_
        refine lv_lmul hx hb dM_putNumber_44 ?_
        refine lv_lstore (lv' := [(5, .long (y5 * (10 : Int64))), (3, .long y3), (0, .ref aM), (1, .long y1)]) hx hb dM_putNumber_45 hl (by decide) rfl (fun ls hl => ?_)
        refine lv_goto (tgt := 28) hx hb dM_putNumber_47 (by decide) ?_
        exact ih (1, (y5 * (10 : Int64)), y3, y1, ws9, wc, wn) _ _ ls (Or.inl ⟨adL, gdL, vadL, rfl, hf, hP, hD, hS, lv_sub hl [0, 1, 2, 3] rfl, hE, hN⟩)
    · subst hj
      have hf : fM_putNumber_b (n + 1) 2 y5 y3 y1 ws9 wc wn = some out := hf
      rw [fM_putNumber_b, if_neg (by decide)] at hf
      obtain ⟨hP, hD⟩ : xPD D xcl A (xMw cT aM adL rd gdL vadL ws9 []) H := ⟨hP, hD⟩
      have hl : lv_has ls 7 [(5, .long y5), (3, .long y3), (0, .ref aM), (1, .long y1)] := hl
      refine W.eq (g2 := F0 m 50 ls []) rfl ?_
      show W p l e _ s m _ below meth c H locs wc wn _ _
      obtain ⟨hm0, hf⟩ := xmoE hf
      refine lv_lload hx hb dM_putNumber_50 (lv_at hl 0 rfl) ?_
      refine lv_lconst (v := 0) hx hb dM_putNumber_52 (by decide) ?_
      refine W.lcmp hx hb dM_putNumber_53 ?_
      refine lv_if_le (tgt := 85) hx hb dM_putNumber_54 (by decide) (fun hc => ?_) (fun hc => ?_)
      · rw [if_pos hc] at hf
        obtain rfl := Option.some.inj hf
        exact absurd (show (0 : Nat) = 1 from hkd) (by decide)
      · rw [if_neg hc] at hf
        refine lv_aload_n hx hb dM_putNumber_57 rfl (lv_at hl 2 rfl) ?_
        refine lv_ldc2 hx hb hown (htx _ kw_6_79) dM_putNumber_58 ?_
        refine lv_lload_n hx hb dM_putNumber_61 rfl (lv_at hl 1 rfl) ?_
        refine lv_lload hx hb dM_putNumber_62 (lv_at hl 0 rfl) ?_
        obtain ⟨hg1, hf⟩ := xifn hf
        refine lv_ldiv hx hb dM_putNumber_64 hg1 ?_
        refine lv_ldc2 hx hb hown (htx _ kw_6_78) dM_putNumber_65 ?_
        refine lv_lrem hx hb dM_putNumber_68 (by decide) ?_
        refine lv_ladd hx hb dM_putNumber_69 ?_
        refine lv_l2i hx hb dM_putNumber_70 rfl ?_
        obtain ⟨o2, hq3, hf⟩ := xbind hf
        by_cases hk4 : o2.1 = 0
        · rw [if_pos hk4] at hf
          obtain ⟨hm5, hf⟩ := xmoE hf
          have hFc := xm_free hD hS hA
          refine va_callv (va_runV (C := "ValueBenchModel") (As := [.int ((48 : Int64) + ((y3 / y5) - (y3 / y5) / (10 : Int64) * (10 : Int64))).toInt32]) (rest := []) ⟨hx, hb, hml, hown, htx⟩ (gM_put0 l hl9 D cT aK aV H.size n aM adL rd gdL vadL ws9 (((48 : Int64) + ((y3 / y5) - (y3 / y5) / (10 : Int64) * (10 : Int64))).toInt32) o2 hq3 hk4) ⟨callB_of 1 htx (xw_goodC kw_6_136) rfl rfl rfl (htx _ kw_1_5) (htx _ kw_6_133) ⟨by decide, by decide, by decide +kernel⟩ ⟨Nat.le_of_ble_eq_true rfl, Nat.le_of_ble_eq_true rfl⟩, (htx _ kw_6_135), (htx _ kp_M_put0)⟩ ⟨xPre_blind, va_recv hK hP (ci := 5) rfl (q0 := 0) rfl, (fun U hU hW => ⟨rfl, xPre_of hZ hS hFc hP hD hK U hU hW⟩)⟩ rfl rfl hl.1 rfl (xm_room (Nat.le_of_ble_eq_true rfl)) dM_putNumber_71 ⟨hm5.1, hm5.2⟩) hS (fun q _ h => hFc q h) hFc (fun u9 t H1 locs ht hvm hr9 hB hz1 hk1 hS => ?_)
          obtain ⟨hP1, hK1, hD1⟩ := hB
          rw [ht] at hP1
          obtain ⟨ad7, gd8, vad9⟩ := u9
          obtain ⟨hv10, hn11⟩ := hr9
          have hP : va_P D xcl (xMw cT aM ad7 rd gd8 vad9 o2.2.2.2 []) H1 := hP1
          have hD : va_D A (xMw cT aM ad7 rd gd8 vad9 o2.2.2.2 []) := hD1.weaken (fun k q _ h => hFc q.1 h)
          generalize H1 = H at hP hS ⊢
          have hE9 : ∀ p, p < xct st → vad9 p = vad p := fun p h => (hv10 p (Nat.lt_of_lt_of_le h hN)).trans (hE p h)
          have hE := hE9
          have hN : xct st ≤ xct o2.2.2.2 := Nat.le_trans hN hn11
          refine W.eq (g2 := F0 m 74 ls []) (by first | rfl | (skip; rfl)) ?_
          refine lv_lload hx hb dM_putNumber_74 (lv_at hl 0 rfl) ?_
          refine lv_ldc2 hx hb hown (htx _ kw_6_78) dM_putNumber_76 ?_
          refine lv_ldiv hx hb dM_putNumber_79 (by decide) ?_
          refine lv_lstore (lv' := [(5, .long (y5 / (10 : Int64))), (3, .long y3), (0, .ref aM), (1, .long y1)]) hx hb dM_putNumber_80 hl (by decide) rfl (fun ls hl => ?_)
          refine lv_goto (tgt := 50) hx hb dM_putNumber_82 (by decide) ?_
          exact ih (2, (y5 / (10 : Int64)), y3, y1, o2.2.2.2, (wc + o2.2.1), (wn + o2.2.2.1)) _ _ ls (Or.inr (⟨ad7, gd8, vad9, rfl, hf, hP, hD, hS, lv_sub hl [0, 1, 2, 3] rfl, hE, hN⟩))
        rw [if_neg hk4] at hf
        by_cases hk12 : o2.1 = 1
        · rw [if_pos hk12] at hf
          obtain ⟨hm13, hf⟩ := xmoE hf
          have hFc := xm_free hD hS hA
          refine xx_thr (vx_runV (C := "ValueBenchModel") (As := [.int ((48 : Int64) + ((y3 / y5) - (y3 / y5) / (10 : Int64) * (10 : Int64))).toInt32]) (rest := []) ⟨hx, hb, hml, hown, htx⟩ (gM_put0_1 l hl9 D cT aK aV H.size n aM adL rd gdL vadL ws9 (((48 : Int64) + ((y3 / y5) - (y3 / y5) / (10 : Int64) * (10 : Int64))).toInt32) o2 hq3 hk12) ⟨callB_of 1 htx (xw_goodC kw_6_136) rfl rfl rfl (htx _ kw_1_5) (htx _ kw_6_133) ⟨by decide, by decide, by decide +kernel⟩ ⟨Nat.le_of_ble_eq_true rfl, Nat.le_of_ble_eq_true rfl⟩, (htx _ kw_6_135), (htx _ kp_M_put0)⟩ ⟨xPre_blind, va_recv hK hP (ci := 5) rfl (q0 := 0) rfl, (fun U hU hW => ⟨rfl, xPre_of hZ hS hFc hP hD hK U hU hW⟩)⟩ rfl rfl hl.1 rfl (xm_room (Nat.le_of_ble_eq_true rfl)) dM_putNumber_71 ⟨hm13.1, hm13.2⟩) hS hFc (fun q _ h => hFc q h) (fun E ce q9 u9 t H1 locs ht hvm hr9 hB hz1 hk1 hS hce hcv hcl => ?_)
          obtain ⟨rfl, hP1, hK1, hD1⟩ := hB
          rw [ht] at hP1
          obtain ⟨ad15, gd16, vad17⟩ := u9
          obtain ⟨hv18, hn19⟩ := hr9
          have hP : va_P D xcl (xMw cT aM ad15 rd gd16 vad17 o2.2.2.2 []) H1 := hP1
          have hD : va_D A (xMw cT aM ad15 rd gd16 vad17 o2.2.2.2 []) := hD1.weaken (fun k q _ h => hFc q.1 h)
          generalize H1 = H at hP hS hce ⊢
          have hE9 : ∀ p, p < xct st → vad17 p = vad p := fun p h => (hv18 p (Nat.lt_of_lt_of_le h hN)).trans (hE p h)
          have hE := hE9
          have hN : xct st ≤ xct o2.2.2.2 := Nat.le_trans hN hn19
          obtain rfl := Option.some.inj hf
          exact vx_out (E := "java/lang/IndexOutOfBoundsException") (fun x h => (hne x h).elim) hlocks hce hcv hcl (fun t ht ha => ⟨(ad15, gd16, vad17), ⟨hE, hN⟩, ⟨rfl, by rw [ht]; exact hP, va_K.moved ha hK, hD⟩, hS.F ht⟩) hS.2.2 (Nat.le_refl _) (Nat.le_refl _)
        rw [if_neg hk12] at hf
        exact nomatch hf
  refine lv_lload_n hx hb dM_putNumber_0 rfl (lv_at hl 1 rfl) ?_
  refine lv_lconst (v := 0) hx hb dM_putNumber_1 (by decide) ?_
  refine W.lcmp hx hb dM_putNumber_2 ?_
  refine lv_if_ge (tgt := 12) hx hb dM_putNumber_3 (by decide) (fun hc => ?_) (fun hc => ?_)
  · rw [if_pos hc] at hf
    refine lv_lload_n hx hb dM_putNumber_12 rfl (lv_at hl 1 rfl) ?_
    refine lv_lconst (v := 0) hx hb dM_putNumber_13 (by decide) ?_
    refine W.lcmp hx hb dM_putNumber_14 ?_
    refine lv_if_ge (tgt := 23) hx hb dM_putNumber_15 (by decide) (fun hc => ?_) (fun hc => ?_)
    · rw [if_pos hc] at hf
      refine lv_lload_n hx hb dM_putNumber_23 rfl (lv_at hl 1 rfl) ?_
      refine lv_lstore_n (lv' := [(3, .long x0), (0, .ref aM), (1, .long x0)]) hx hb dM_putNumber_24 rfl hl (by decide) rfl (fun ls hl => ?_)
      refine lv_lconst (v := 1) hx hb dM_putNumber_25 (by decide) ?_
      refine lv_lstore (lv' := [(5, .long 1), (3, .long x0), (0, .ref aM), (1, .long x0)]) hx hb dM_putNumber_26 hl (by decide) rfl (fun ls hl => ?_)
      exact key n (1, (1 : Int64), x0, x0, st, 0, 0) _ _ ls (Or.inl ⟨ad, gd, vad, rfl, hf, hP, hD, hS, lv_sub hl [0, 1, 2, 3] rfl, hE, hN⟩)
    · rw [if_neg hc] at hf
      refine lv_lload_n hx hb dM_putNumber_18 rfl (lv_at hl 1 rfl) ?_
      refine lv_lneg hx hb dM_putNumber_19 ?_
      refine lv_goto (tgt := 24) hx hb dM_putNumber_20 (by decide) ?_
      refine lv_lstore_n (lv' := [(3, .long (-x0)), (0, .ref aM), (1, .long x0)]) hx hb dM_putNumber_24 rfl hl (by decide) rfl (fun ls hl => ?_)
      refine lv_lconst (v := 1) hx hb dM_putNumber_25 (by decide) ?_
      refine lv_lstore (lv' := [(5, .long 1), (3, .long (-x0)), (0, .ref aM), (1, .long x0)]) hx hb dM_putNumber_26 hl (by decide) rfl (fun ls hl => ?_)
      exact key n (1, (1 : Int64), (-x0), x0, st, 0, 0) _ _ ls (Or.inl ⟨ad, gd, vad, rfl, hf, hP, hD, hS, lv_sub hl [0, 1, 2, 3] rfl, hE, hN⟩)
  · rw [if_neg hc] at hf
    refine lv_aload_n hx hb dM_putNumber_6 rfl (lv_at hl 0 rfl) ?_
    refine lv_bipush (v := 45) hx hb dM_putNumber_7 (by decide) ?_
    obtain ⟨o1, hq2, hf⟩ := xbind hf
    by_cases hk3 : o1.1 = 0
    · rw [if_pos hk3] at hf
      obtain ⟨hm4, hf⟩ := xmoE hf
      have hFc := xm_free hD hS hA
      refine va_callv (va_runV (C := "ValueBenchModel") (As := [.int 45]) (rest := []) ⟨hx, hb, hml, hown, htx⟩ (gM_put0 l hl9 D cT aK aV s.heap.size n aM ad rd gd vad st (45 : Int32) o1 hq2 hk3) ⟨callB_of 1 htx (xw_goodC kw_6_136) rfl rfl rfl (htx _ kw_1_5) (htx _ kw_6_133) ⟨by decide, by decide, by decide +kernel⟩ ⟨Nat.le_of_ble_eq_true rfl, Nat.le_of_ble_eq_true rfl⟩, (htx _ kw_6_135), (htx _ kp_M_put0)⟩ ⟨xPre_blind, va_recv hK hP (ci := 5) rfl (q0 := 0) rfl, (fun U hU hW => ⟨rfl, xPre_of hZ hS hFc hP hD hK U hU hW⟩)⟩ rfl rfl hl.1 rfl (xm_room (Nat.le_of_ble_eq_true rfl)) dM_putNumber_9 ⟨hm4.1, hm4.2⟩) hS (fun q _ h => hFc q h) hFc (fun u9 t H1 locs ht hvm hr9 hB hz1 hk1 hS => ?_)
      obtain ⟨hP1, hK1, hD1⟩ := hB
      rw [ht] at hP1
      obtain ⟨ad6, gd7, vad8⟩ := u9
      obtain ⟨hv9, hn10⟩ := hr9
      have hP : va_P D xcl (xMw cT aM ad6 rd gd7 vad8 o1.2.2.2 []) H1 := hP1
      have hD : va_D A (xMw cT aM ad6 rd gd7 vad8 o1.2.2.2 []) := hD1.weaken (fun k q _ h => hFc q.1 h)
      generalize H1 = H at hP hS ⊢
      have hE9 : ∀ p, p < xct st → vad8 p = vad p := fun p h => (hv9 p (Nat.lt_of_lt_of_le h hN)).trans (hE p h)
      have hE := hE9
      have hN : xct st ≤ xct o1.2.2.2 := Nat.le_trans hN hn10
      refine W.eq (g2 := F0 m 12 ls []) (by first | rfl | (skip; rfl)) ?_
      refine lv_lload_n hx hb dM_putNumber_12 rfl (lv_at hl 1 rfl) ?_
      refine lv_lconst (v := 0) hx hb dM_putNumber_13 (by decide) ?_
      refine W.lcmp hx hb dM_putNumber_14 ?_
      refine lv_if_ge (tgt := 23) hx hb dM_putNumber_15 (by decide) (fun hc => ?_) (fun hc => ?_)
      · rw [if_pos hc] at hf
        refine lv_lload_n hx hb dM_putNumber_23 rfl (lv_at hl 1 rfl) ?_
        refine lv_lstore_n (lv' := [(3, .long x0), (0, .ref aM), (1, .long x0)]) hx hb dM_putNumber_24 rfl hl (by decide) rfl (fun ls hl => ?_)
        refine lv_lconst (v := 1) hx hb dM_putNumber_25 (by decide) ?_
        refine lv_lstore (lv' := [(5, .long 1), (3, .long x0), (0, .ref aM), (1, .long x0)]) hx hb dM_putNumber_26 hl (by decide) rfl (fun ls hl => ?_)
        exact key n (1, (1 : Int64), x0, x0, o1.2.2.2, (0 + o1.2.1), (0 + o1.2.2.1)) _ _ ls (Or.inl ⟨ad6, gd7, vad8, rfl, hf, hP, hD, hS, lv_sub hl [0, 1, 2, 3] rfl, hE, hN⟩)
      · rw [if_neg hc] at hf
        refine lv_lload_n hx hb dM_putNumber_18 rfl (lv_at hl 1 rfl) ?_
        refine lv_lneg hx hb dM_putNumber_19 ?_
        refine lv_goto (tgt := 24) hx hb dM_putNumber_20 (by decide) ?_
        refine lv_lstore_n (lv' := [(3, .long (-x0)), (0, .ref aM), (1, .long x0)]) hx hb dM_putNumber_24 rfl hl (by decide) rfl (fun ls hl => ?_)
        refine lv_lconst (v := 1) hx hb dM_putNumber_25 (by decide) ?_
        refine lv_lstore (lv' := [(5, .long 1), (3, .long (-x0)), (0, .ref aM), (1, .long x0)]) hx hb dM_putNumber_26 hl (by decide) rfl (fun ls hl => ?_)
        exact key n (1, (1 : Int64), (-x0), x0, o1.2.2.2, (0 + o1.2.1), (0 + o1.2.2.1)) _ _ ls (Or.inl ⟨ad6, gd7, vad8, rfl, hf, hP, hD, hS, lv_sub hl [0, 1, 2, 3] rfl, hE, hN⟩)
    rw [if_neg hk3] at hf
    by_cases hk11 : o1.1 = 1
    · rw [if_pos hk11] at hf
      obtain ⟨hm12, hf⟩ := xmoE hf
      have hFc := xm_free hD hS hA
      refine xx_thr (vx_runV (C := "ValueBenchModel") (As := [.int 45]) (rest := []) ⟨hx, hb, hml, hown, htx⟩ (gM_put0_1 l hl9 D cT aK aV s.heap.size n aM ad rd gd vad st (45 : Int32) o1 hq2 hk11) ⟨callB_of 1 htx (xw_goodC kw_6_136) rfl rfl rfl (htx _ kw_1_5) (htx _ kw_6_133) ⟨by decide, by decide, by decide +kernel⟩ ⟨Nat.le_of_ble_eq_true rfl, Nat.le_of_ble_eq_true rfl⟩, (htx _ kw_6_135), (htx _ kp_M_put0)⟩ ⟨xPre_blind, va_recv hK hP (ci := 5) rfl (q0 := 0) rfl, (fun U hU hW => ⟨rfl, xPre_of hZ hS hFc hP hD hK U hU hW⟩)⟩ rfl rfl hl.1 rfl (xm_room (Nat.le_of_ble_eq_true rfl)) dM_putNumber_9 ⟨hm12.1, hm12.2⟩) hS hFc (fun q _ h => hFc q h) (fun E ce q9 u9 t H1 locs ht hvm hr9 hB hz1 hk1 hS hce hcv hcl => ?_)
      obtain ⟨rfl, hP1, hK1, hD1⟩ := hB
      rw [ht] at hP1
      obtain ⟨ad14, gd15, vad16⟩ := u9
      obtain ⟨hv17, hn18⟩ := hr9
      have hP : va_P D xcl (xMw cT aM ad14 rd gd15 vad16 o1.2.2.2 []) H1 := hP1
      have hD : va_D A (xMw cT aM ad14 rd gd15 vad16 o1.2.2.2 []) := hD1.weaken (fun k q _ h => hFc q.1 h)
      generalize H1 = H at hP hS hce ⊢
      have hE9 : ∀ p, p < xct st → vad16 p = vad p := fun p h => (hv17 p (Nat.lt_of_lt_of_le h hN)).trans (hE p h)
      have hE := hE9
      have hN : xct st ≤ xct o1.2.2.2 := Nat.le_trans hN hn18
      obtain rfl := Option.some.inj hf
      exact vx_out (E := "java/lang/IndexOutOfBoundsException") (fun x h => (hne x h).elim) hlocks hce hcv hcl (fun t ht ha => ⟨(ad14, gd15, vad16), ⟨hE, hN⟩, ⟨rfl, by rw [ht]; exact hP, va_K.moved ha hK, hD⟩, hS.F ht⟩) hS.2.2 (Nat.le_refl _) (Nat.le_refl _)
    rw [if_neg hk11] at hf
    exact nomatch hf
set_option maxHeartbeats 400000000 in
set_option maxRecDepth 100000 in
theorem gM_put1c (l : Launch) (hl9 : l.stackTraces = false) (D : va_G) (cT : Nat → ClassId) (aK aV : Nat → Nat) (sz n : Nat) (aM : Nat) (ad rd gd vad : Nat → Nat) (st : xS) (out : Nat × Nat × Nat × xS) (hf : fM_put1c n st = some out) (hkd : out.1 = 0) : xMet l yM_put1 wyM_put1 7 out.2.1 out.2.2.1 123 D cT aK aV sz [.ref aM, .ref (aK 14)] (xMw cT aM ad rd gd vad st []) (fun A => va_Qv (fun u : xU => xE vad st out.2.2.2 u) (fun u t => xB D xcl cT A (xMw cT aM u.1 rd u.2.1 u.2.2 out.2.2.2 []) t) A) := by
  refine Met.ofW (cc := prog_13_method_42_code) (maxL := 3) (ret := none) (by decide) rfl ?_
  intro p e s m args below meth c s₁ B hml hv
  obtain ⟨rfl, hsz, hZ, hP, hK, hD0⟩ := hv
  have hx := B.exec
  have hb := B.bytes
  have hr := B.returns
  have hts := atoms_spec (ws := wyM_put1) B.pre
  have htx := fun w h => hts w (List.mem_cons_of_mem _ h)
  have hown : s.vm.findClass "ValueBenchModel" = some m.cls := findClass_of_methodNamed B.named
  have hlocks := B.notSynchronized
  subst hsz
  have hD := hD0.self (sz := s.heap.size)
  generalize hAe : va_A (xMw cT aM ad rd gd vad st []) s.heap.size = A at hD hZ ⊢
  have hA : ∀ q : Nat, s.heap.size ≤ q → A q := fun q h => by rw [← hAe]; exact Or.inr h
  have hS : va_S A s.heap s.heap [] := va_S.rf
  have hl := lv_entry ([.ref aM, .ref (aK 14)]) (n := 3) (by simp [lg_sl, xvcat, xrscat, xcI, xcL, xcR, xcN])
  rw [show lv_args 0 [.ref aM, .ref (aK 14)] = [(0, .ref aM), (1, .ref (aK 14))] from by simp [lv_args, xvcat, xrscat, xcI, xcL, xcR, xcN]] at hl
  rw [lg_entry_eq]
  generalize (lg_sl ([.ref aM, .ref (aK 14)]) ++ List.replicate (3 - (lg_sl ([.ref aM, .ref (aK 14)])).length) Slot.unset).toArray = ls at hl ⊢
  have hl : lv_has ls 3 [(0, .ref aM), (1, .ref (aK 14))] := hl
  have hE : ∀ p, p < xct st → vad p = vad p := fun _ _ => rfl
  have hN : xct st ≤ xct st := Nat.le_refl _
  unfold fM_put1c at hf
  refine lv_iconst (v := 0) hx hb dM_put1_0 (by decide) ?_
  refine lv_istore_n (lv' := [(2, .int 0), (0, .ref aM), (1, .ref (aK 14))]) hx hb dM_put1_1 rfl hl (by decide) rfl (fun ls hl => ?_)
  refine lv_iload_n hx hb dM_put1_2 rfl (lv_at hl 0 rfl) ?_
  refine lv_aload_n hx hb dM_put1_3 rfl (lv_at hl 2 rfl) ?_
  refine va_calli (va_runV (C := "java/lang/String") (As := []) (rest := [.int 0]) ⟨hx, hb, hml, hown, htx⟩ (cJS_length_3 l hl9 D cT aK aV s.heap.size) ⟨callB_of 0 htx (xw_goodC kw_2_70) rfl rfl rfl (htx _ kw_1_6) (htx _ kw_5_238) ⟨by decide, by decide, by decide +kernel⟩ ⟨Nat.le_of_ble_eq_true rfl, Nat.le_of_ble_eq_true rfl⟩, (htx _ kw_2_68), (htx _ kw_2_69)⟩ ⟨xPre_blind, vk_recv hZ.2.2.2.2.2.2.2.2.2.1 (i := 14) (by decide) hS, (fun U hU hW => ⟨rfl, xPre_of hZ hS (xm_free0 hS hA) xm_Pnil xm_Dnil hK U hU hW⟩)⟩ rfl rfl hl.1 rfl (lv_room (Nat.le_of_ble_eq_true rfl)) dM_put1_4 ⟨(Nat.zero_le _), (Nat.zero_le _)⟩) hS (fun q _ h => xm_free0 hS hA q h) (xm_free0 hS hA) (fun r1 u9 t H1 locs ht hvm hr9 hB hz1 hk1 hS => ?_)
  replace hP := xm_keep hP hk1
  generalize H1 = H at hP hS ⊢
  rw [hr9]
  refine W.eq (g2 := F0 m 7 ls [.int 3, .int 0]) (by first | rfl | rw [xv1 (Nat.succ_ne_zero _)]) ?_
  refine lv_icmp_ge (tgt := 25) hx hb dM_put1_7 (by decide) (fun h => ((by revert h; decide : False)).elim) (fun _ => ?_)
  refine lv_aload_n hx hb dM_put1_10 rfl (lv_at hl 1 rfl) ?_
  refine lv_aload_n hx hb dM_put1_11 rfl (lv_at hl 2 rfl) ?_
  refine lv_iload_n hx hb dM_put1_12 rfl (lv_at hl 0 rfl) ?_
  refine va_calli (va_runV (C := "java/lang/String") (As := [.int 0]) (rest := [.ref aM]) ⟨hx, hb, hml, hown, htx⟩ (cJS_charAt_29 l hl9 D cT aK aV H.size) ⟨callB_of 1 htx (xw_goodC kw_2_80) rfl rfl rfl (htx _ kw_1_6) (htx _ kw_5_86) ⟨by decide, by decide, by decide +kernel⟩ ⟨Nat.le_of_ble_eq_true rfl, Nat.le_of_ble_eq_true rfl⟩, (htx _ kw_2_78), (htx _ kw_2_79)⟩ ⟨xPre_blind, vk_recv hZ.2.2.2.2.2.2.2.2.2.1 (i := 14) (by decide) hS, (fun U hU hW => ⟨rfl, xPre_of hZ hS (xm_free0 hS hA) xm_Pnil xm_Dnil hK U hU hW⟩)⟩ rfl rfl hl.1 rfl (lv_room (Nat.le_of_ble_eq_true rfl)) dM_put1_13 ⟨(Nat.zero_le _), (Nat.zero_le _)⟩) hS (fun q _ h => xm_free0 hS hA q h) (xm_free0 hS hA) (fun r2 u9 t H1 locs ht hvm hr9 hB hz1 hk1 hS => ?_)
  replace hP := xm_keep hP hk1
  generalize H1 = H at hP hS ⊢
  rw [hr9]
  refine W.eq (g2 := F0 m 16 ls [.int 117, .ref aM]) (by first | rfl | rw [xv1 (Nat.succ_ne_zero _)]) ?_
  obtain ⟨o3, hq4, hf⟩ := xbind hf
  by_cases hk5 : o3.1 = 0
  · rw [if_pos hk5] at hf
    obtain ⟨hm6, hf⟩ := xmoE hf
    have hFc := xm_free hD hS hA
    refine va_callv (va_runV (C := "ValueBenchModel") (As := [.int 117]) (rest := []) ⟨hx, hb, hml, hown, htx⟩ (gM_put0 l hl9 D cT aK aV H.size n aM ad rd gd vad st (117 : Int32) o3 hq4 hk5) ⟨callB_of 1 htx (xw_goodC kw_6_136) rfl rfl rfl (htx _ kw_1_5) (htx _ kw_6_133) ⟨by decide, by decide, by decide +kernel⟩ ⟨Nat.le_of_ble_eq_true rfl, Nat.le_of_ble_eq_true rfl⟩, (htx _ kw_6_135), (htx _ kp_M_put0)⟩ ⟨xPre_blind, va_recv hK hP (ci := 5) rfl (q0 := 0) rfl, (fun U hU hW => ⟨rfl, xPre_of hZ hS hFc hP hD hK U hU hW⟩)⟩ rfl rfl hl.1 rfl (xm_room (Nat.le_of_ble_eq_true rfl)) dM_put1_16 ⟨hm6.1, hm6.2⟩) hS (fun q _ h => hFc q h) hFc (fun u9 t H1 locs ht hvm hr9 hB hz1 hk1 hS => ?_)
    obtain ⟨hP1, hK1, hD1⟩ := hB
    rw [ht] at hP1
    obtain ⟨ad8, gd9, vad10⟩ := u9
    obtain ⟨hv11, hn12⟩ := hr9
    have hP : va_P D xcl (xMw cT aM ad8 rd gd9 vad10 o3.2.2.2 []) H1 := hP1
    have hD : va_D A (xMw cT aM ad8 rd gd9 vad10 o3.2.2.2 []) := hD1.weaken (fun k q _ h => hFc q.1 h)
    generalize H1 = H at hP hS ⊢
    have hE9 : ∀ p, p < xct st → vad10 p = vad p := fun p h => (hv11 p (Nat.lt_of_lt_of_le h hN)).trans (hE p h)
    have hE := hE9
    have hN : xct st ≤ xct o3.2.2.2 := Nat.le_trans hN hn12
    refine W.eq (g2 := F0 m 19 ls []) (by first | rfl | (skip; rfl)) ?_
    refine lv_iinc (v := 1) (lv' := [(2, .int 1), (0, .ref aM), (1, .ref (aK 14))]) hx hb dM_put1_19 hl (k := 0) rfl rfl (by decide) rfl (fun ls hl => ?_)
    refine lv_goto (tgt := 2) hx hb dM_put1_22 (by decide) ?_
    refine lv_iload_n hx hb dM_put1_2 rfl (lv_at hl 0 rfl) ?_
    refine lv_aload_n hx hb dM_put1_3 rfl (lv_at hl 2 rfl) ?_
    refine va_calli (va_runV (C := "java/lang/String") (As := []) (rest := [.int 1]) ⟨hx, hb, hml, hown, htx⟩ (cJS_length_3 l hl9 D cT aK aV H.size) ⟨callB_of 0 htx (xw_goodC kw_2_70) rfl rfl rfl (htx _ kw_1_6) (htx _ kw_5_238) ⟨by decide, by decide, by decide +kernel⟩ ⟨Nat.le_of_ble_eq_true rfl, Nat.le_of_ble_eq_true rfl⟩, (htx _ kw_2_68), (htx _ kw_2_69)⟩ ⟨xPre_blind, vk_recv hZ.2.2.2.2.2.2.2.2.2.1 (i := 14) (by decide) hS, (fun U hU hW => ⟨rfl, xPre_of hZ hS (xm_free0 hS hA) xm_Pnil xm_Dnil hK U hU hW⟩)⟩ rfl rfl hl.1 rfl (lv_room (Nat.le_of_ble_eq_true rfl)) dM_put1_4 ⟨(hm6.1), (hm6.2)⟩) hS (fun q _ h => xm_free0 hS hA q h) (xm_free0 hS hA) (fun r13 u9 t H1 locs ht hvm hr9 hB hz1 hk1 hS => ?_)
    replace hP := xm_keep hP hk1
    generalize H1 = H at hP hS ⊢
    rw [hr9]
    refine W.eq (g2 := F0 m 7 ls [.int 3, .int 1]) (by first | rfl | rw [xv1 (Nat.succ_ne_zero _)]) ?_
    refine lv_icmp_ge (tgt := 25) hx hb dM_put1_7 (by decide) (fun h => ((by revert h; decide : False)).elim) (fun _ => ?_)
    refine lv_aload_n hx hb dM_put1_10 rfl (lv_at hl 1 rfl) ?_
    refine lv_aload_n hx hb dM_put1_11 rfl (lv_at hl 2 rfl) ?_
    refine lv_iload_n hx hb dM_put1_12 rfl (lv_at hl 0 rfl) ?_
    refine va_calli (va_runV (C := "java/lang/String") (As := [.int 1]) (rest := [.ref aM]) ⟨hx, hb, hml, hown, htx⟩ (cJS_charAt_30 l hl9 D cT aK aV H.size) ⟨callB_of 1 htx (xw_goodC kw_2_80) rfl rfl rfl (htx _ kw_1_6) (htx _ kw_5_86) ⟨by decide, by decide, by decide +kernel⟩ ⟨Nat.le_of_ble_eq_true rfl, Nat.le_of_ble_eq_true rfl⟩, (htx _ kw_2_78), (htx _ kw_2_79)⟩ ⟨xPre_blind, vk_recv hZ.2.2.2.2.2.2.2.2.2.1 (i := 14) (by decide) hS, (fun U hU hW => ⟨rfl, xPre_of hZ hS (xm_free0 hS hA) xm_Pnil xm_Dnil hK U hU hW⟩)⟩ rfl rfl hl.1 rfl (lv_room (Nat.le_of_ble_eq_true rfl)) dM_put1_13 ⟨(hm6.1), (hm6.2)⟩) hS (fun q _ h => xm_free0 hS hA q h) (xm_free0 hS hA) (fun r14 u9 t H1 locs ht hvm hr9 hB hz1 hk1 hS => ?_)
    replace hP := xm_keep hP hk1
    generalize H1 = H at hP hS ⊢
    rw [hr9]
    refine W.eq (g2 := F0 m 16 ls [.int 48, .ref aM]) (by first | rfl | rw [xv1 (Nat.succ_ne_zero _)]) ?_
    obtain ⟨o15, hq16, hf⟩ := xbind hf
    by_cases hk17 : o15.1 = 0
    · rw [if_pos hk17] at hf
      obtain ⟨hm18, hf⟩ := xmoE hf
      have hFc := xm_free hD hS hA
      refine va_callv (va_runV (C := "ValueBenchModel") (As := [.int 48]) (rest := []) ⟨hx, hb, hml, hown, htx⟩ (gM_put0 l hl9 D cT aK aV H.size n aM ad8 rd gd9 vad10 o3.2.2.2 (48 : Int32) o15 hq16 hk17) ⟨callB_of 1 htx (xw_goodC kw_6_136) rfl rfl rfl (htx _ kw_1_5) (htx _ kw_6_133) ⟨by decide, by decide, by decide +kernel⟩ ⟨Nat.le_of_ble_eq_true rfl, Nat.le_of_ble_eq_true rfl⟩, (htx _ kw_6_135), (htx _ kp_M_put0)⟩ ⟨xPre_blind, va_recv hK hP (ci := 5) rfl (q0 := 0) rfl, (fun U hU hW => ⟨rfl, xPre_of hZ hS hFc hP hD hK U hU hW⟩)⟩ rfl rfl hl.1 rfl (xm_room (Nat.le_of_ble_eq_true rfl)) dM_put1_16 ⟨hm18.1, hm18.2⟩) hS (fun q _ h => hFc q h) hFc (fun u9 t H1 locs ht hvm hr9 hB hz1 hk1 hS => ?_)
      obtain ⟨hP1, hK1, hD1⟩ := hB
      rw [ht] at hP1
      obtain ⟨ad20, gd21, vad22⟩ := u9
      obtain ⟨hv23, hn24⟩ := hr9
      have hP : va_P D xcl (xMw cT aM ad20 rd gd21 vad22 o15.2.2.2 []) H1 := hP1
      have hD : va_D A (xMw cT aM ad20 rd gd21 vad22 o15.2.2.2 []) := hD1.weaken (fun k q _ h => hFc q.1 h)
      generalize H1 = H at hP hS ⊢
      have hE9 : ∀ p, p < xct st → vad22 p = vad p := fun p h => (hv23 p (Nat.lt_of_lt_of_le h hN)).trans (hE p h)
      have hE := hE9
      have hN : xct st ≤ xct o15.2.2.2 := Nat.le_trans hN hn24
      refine W.eq (g2 := F0 m 19 ls []) (by first | rfl | (skip; rfl)) ?_
      refine lv_iinc (v := 2) (lv' := [(2, .int 2), (0, .ref aM), (1, .ref (aK 14))]) hx hb dM_put1_19 hl (k := 0) rfl rfl (by decide) rfl (fun ls hl => ?_)
      refine lv_goto (tgt := 2) hx hb dM_put1_22 (by decide) ?_
      refine lv_iload_n hx hb dM_put1_2 rfl (lv_at hl 0 rfl) ?_
      refine lv_aload_n hx hb dM_put1_3 rfl (lv_at hl 2 rfl) ?_
      refine va_calli (va_runV (C := "java/lang/String") (As := []) (rest := [.int 2]) ⟨hx, hb, hml, hown, htx⟩ (cJS_length_3 l hl9 D cT aK aV H.size) ⟨callB_of 0 htx (xw_goodC kw_2_70) rfl rfl rfl (htx _ kw_1_6) (htx _ kw_5_238) ⟨by decide, by decide, by decide +kernel⟩ ⟨Nat.le_of_ble_eq_true rfl, Nat.le_of_ble_eq_true rfl⟩, (htx _ kw_2_68), (htx _ kw_2_69)⟩ ⟨xPre_blind, vk_recv hZ.2.2.2.2.2.2.2.2.2.1 (i := 14) (by decide) hS, (fun U hU hW => ⟨rfl, xPre_of hZ hS (xm_free0 hS hA) xm_Pnil xm_Dnil hK U hU hW⟩)⟩ rfl rfl hl.1 rfl (lv_room (Nat.le_of_ble_eq_true rfl)) dM_put1_4 ⟨(hm18.1), (hm18.2)⟩) hS (fun q _ h => xm_free0 hS hA q h) (xm_free0 hS hA) (fun r25 u9 t H1 locs ht hvm hr9 hB hz1 hk1 hS => ?_)
      replace hP := xm_keep hP hk1
      generalize H1 = H at hP hS ⊢
      rw [hr9]
      refine W.eq (g2 := F0 m 7 ls [.int 3, .int 2]) (by first | rfl | rw [xv1 (Nat.succ_ne_zero _)]) ?_
      refine lv_icmp_ge (tgt := 25) hx hb dM_put1_7 (by decide) (fun h => ((by revert h; decide : False)).elim) (fun _ => ?_)
      refine lv_aload_n hx hb dM_put1_10 rfl (lv_at hl 1 rfl) ?_
      refine lv_aload_n hx hb dM_put1_11 rfl (lv_at hl 2 rfl) ?_
      refine lv_iload_n hx hb dM_put1_12 rfl (lv_at hl 0 rfl) ?_
      refine va_calli (va_runV (C := "java/lang/String") (As := [.int 2]) (rest := [.ref aM]) ⟨hx, hb, hml, hown, htx⟩ (cJS_charAt_31 l hl9 D cT aK aV H.size) ⟨callB_of 1 htx (xw_goodC kw_2_80) rfl rfl rfl (htx _ kw_1_6) (htx _ kw_5_86) ⟨by decide, by decide, by decide +kernel⟩ ⟨Nat.le_of_ble_eq_true rfl, Nat.le_of_ble_eq_true rfl⟩, (htx _ kw_2_78), (htx _ kw_2_79)⟩ ⟨xPre_blind, vk_recv hZ.2.2.2.2.2.2.2.2.2.1 (i := 14) (by decide) hS, (fun U hU hW => ⟨rfl, xPre_of hZ hS (xm_free0 hS hA) xm_Pnil xm_Dnil hK U hU hW⟩)⟩ rfl rfl hl.1 rfl (lv_room (Nat.le_of_ble_eq_true rfl)) dM_put1_13 ⟨(hm18.1), (hm18.2)⟩) hS (fun q _ h => xm_free0 hS hA q h) (xm_free0 hS hA) (fun r26 u9 t H1 locs ht hvm hr9 hB hz1 hk1 hS => ?_)
      replace hP := xm_keep hP hk1
      generalize H1 = H at hP hS ⊢
      rw [hr9]
      refine W.eq (g2 := F0 m 16 ls [.int 48, .ref aM]) (by first | rfl | rw [xv1 (Nat.succ_ne_zero _)]) ?_
      obtain ⟨o27, hq28, hf⟩ := xbind hf
      by_cases hk29 : o27.1 = 0
      · rw [if_pos hk29] at hf
        obtain ⟨hm30, hf⟩ := xmoE hf
        have hFc := xm_free hD hS hA
        refine va_callv (va_runV (C := "ValueBenchModel") (As := [.int 48]) (rest := []) ⟨hx, hb, hml, hown, htx⟩ (gM_put0 l hl9 D cT aK aV H.size n aM ad20 rd gd21 vad22 o15.2.2.2 (48 : Int32) o27 hq28 hk29) ⟨callB_of 1 htx (xw_goodC kw_6_136) rfl rfl rfl (htx _ kw_1_5) (htx _ kw_6_133) ⟨by decide, by decide, by decide +kernel⟩ ⟨Nat.le_of_ble_eq_true rfl, Nat.le_of_ble_eq_true rfl⟩, (htx _ kw_6_135), (htx _ kp_M_put0)⟩ ⟨xPre_blind, va_recv hK hP (ci := 5) rfl (q0 := 0) rfl, (fun U hU hW => ⟨rfl, xPre_of hZ hS hFc hP hD hK U hU hW⟩)⟩ rfl rfl hl.1 rfl (xm_room (Nat.le_of_ble_eq_true rfl)) dM_put1_16 ⟨hm30.1, hm30.2⟩) hS (fun q _ h => hFc q h) hFc (fun u9 t H1 locs ht hvm hr9 hB hz1 hk1 hS => ?_)
        obtain ⟨hP1, hK1, hD1⟩ := hB
        rw [ht] at hP1
        obtain ⟨ad32, gd33, vad34⟩ := u9
        obtain ⟨hv35, hn36⟩ := hr9
        have hP : va_P D xcl (xMw cT aM ad32 rd gd33 vad34 o27.2.2.2 []) H1 := hP1
        have hD : va_D A (xMw cT aM ad32 rd gd33 vad34 o27.2.2.2 []) := hD1.weaken (fun k q _ h => hFc q.1 h)
        generalize H1 = H at hP hS ⊢
        have hE9 : ∀ p, p < xct st → vad34 p = vad p := fun p h => (hv35 p (Nat.lt_of_lt_of_le h hN)).trans (hE p h)
        have hE := hE9
        have hN : xct st ≤ xct o27.2.2.2 := Nat.le_trans hN hn36
        refine W.eq (g2 := F0 m 19 ls []) (by first | rfl | (skip; rfl)) ?_
        refine lv_iinc (v := 3) (lv' := [(2, .int 3), (0, .ref aM), (1, .ref (aK 14))]) hx hb dM_put1_19 hl (k := 0) rfl rfl (by decide) rfl (fun ls hl => ?_)
        refine lv_goto (tgt := 2) hx hb dM_put1_22 (by decide) ?_
        refine lv_iload_n hx hb dM_put1_2 rfl (lv_at hl 0 rfl) ?_
        refine lv_aload_n hx hb dM_put1_3 rfl (lv_at hl 2 rfl) ?_
        refine va_calli (va_runV (C := "java/lang/String") (As := []) (rest := [.int 3]) ⟨hx, hb, hml, hown, htx⟩ (cJS_length_3 l hl9 D cT aK aV H.size) ⟨callB_of 0 htx (xw_goodC kw_2_70) rfl rfl rfl (htx _ kw_1_6) (htx _ kw_5_238) ⟨by decide, by decide, by decide +kernel⟩ ⟨Nat.le_of_ble_eq_true rfl, Nat.le_of_ble_eq_true rfl⟩, (htx _ kw_2_68), (htx _ kw_2_69)⟩ ⟨xPre_blind, vk_recv hZ.2.2.2.2.2.2.2.2.2.1 (i := 14) (by decide) hS, (fun U hU hW => ⟨rfl, xPre_of hZ hS (xm_free0 hS hA) xm_Pnil xm_Dnil hK U hU hW⟩)⟩ rfl rfl hl.1 rfl (lv_room (Nat.le_of_ble_eq_true rfl)) dM_put1_4 ⟨(hm30.1), (hm30.2)⟩) hS (fun q _ h => xm_free0 hS hA q h) (xm_free0 hS hA) (fun r37 u9 t H1 locs ht hvm hr9 hB hz1 hk1 hS => ?_)
        replace hP := xm_keep hP hk1
        generalize H1 = H at hP hS ⊢
        rw [hr9]
        refine W.eq (g2 := F0 m 7 ls [.int 3, .int 3]) (by first | rfl | rw [xv1 (Nat.succ_ne_zero _)]) ?_
        refine lv_icmp_ge (tgt := 25) hx hb dM_put1_7 (by decide) (fun _ => ?_) (fun h => ((by revert h; decide : False)).elim)
        obtain rfl := Option.some.inj hf
        exact W.vret hx hb hr (fun t ht hW => ⟨⟨(ad32, gd33, vad34), rfl, ⟨hE, hN⟩, by rw [ht]; exact hP, va_K.moved hW.alike hK, hD⟩, hS.F ht⟩) hS.2.2 dM_put1_25
      rw [if_neg hk29] at hf
      by_cases hk38 : o27.1 = 1
      · rw [if_pos hk38] at hf
        obtain ⟨hm39, hf⟩ := xmoE hf
        obtain rfl := Option.some.inj hf
        exact absurd (show (1 : Nat) = 0 from hkd) (by decide)
      rw [if_neg hk38] at hf
      exact nomatch hf
    rw [if_neg hk17] at hf
    by_cases hk46 : o15.1 = 1
    · rw [if_pos hk46] at hf
      obtain ⟨hm47, hf⟩ := xmoE hf
      obtain rfl := Option.some.inj hf
      exact absurd (show (1 : Nat) = 0 from hkd) (by decide)
    rw [if_neg hk46] at hf
    exact nomatch hf
  rw [if_neg hk5] at hf
  by_cases hk54 : o3.1 = 1
  · rw [if_pos hk54] at hf
    obtain ⟨hm55, hf⟩ := xmoE hf
    obtain rfl := Option.some.inj hf
    exact absurd (show (1 : Nat) = 0 from hkd) (by decide)
  rw [if_neg hk54] at hf
  exact nomatch hf
set_option maxHeartbeats 400000000 in
set_option maxRecDepth 100000 in
theorem gM_put1c_1 (l : Launch) (hl9 : l.stackTraces = false) (D : va_G) (cT : Nat → ClassId) (aK aV : Nat → Nat) (sz n : Nat) (aM : Nat) (ad rd gd vad : Nat → Nat) (st : xS) (out : Nat × Nat × Nat × xS) (hf : fM_put1c n st = some out) (hkd : out.1 = 1) : xMetY l yM_put1 wyM_put1 7 out.2.1 out.2.2.1 123 D cT aK aV sz [.ref aM, .ref (aK 14)] (xMw cT aM ad rd gd vad st []) "java/lang/IndexOutOfBoundsException" (fun u => xE vad st out.2.2.2 u) (fun A u t => xB D xcl cT A (xMw cT aM u.1 rd u.2.1 u.2.2 out.2.2.2 []) t) := by
  refine vx_ofW (cc := prog_13_method_42_code) (maxL := 3) (ret := none) (by decide) rfl ?_
  intro p e s m args below meth c s₁ B hml hne hv
  obtain ⟨rfl, hsz, hZ, hP, hK, hD0⟩ := hv
  have hx := B.exec
  have hb := B.bytes
  have hr := B.returns
  have hts := atoms_spec (ws := wyM_put1) B.pre
  have htx := fun w h => hts w (List.mem_cons_of_mem _ h)
  have hown : s.vm.findClass "ValueBenchModel" = some m.cls := findClass_of_methodNamed B.named
  have hlocks := B.notSynchronized
  subst hsz
  have hD := hD0.self (sz := s.heap.size)
  generalize hAe : va_A (xMw cT aM ad rd gd vad st []) s.heap.size = A at hD hZ ⊢
  have hA : ∀ q : Nat, s.heap.size ≤ q → A q := fun q h => by rw [← hAe]; exact Or.inr h
  have hS : va_S A s.heap s.heap [] := va_S.rf
  have hl := lv_entry ([.ref aM, .ref (aK 14)]) (n := 3) (by simp [lg_sl, xvcat, xrscat, xcI, xcL, xcR, xcN])
  rw [show lv_args 0 [.ref aM, .ref (aK 14)] = [(0, .ref aM), (1, .ref (aK 14))] from by simp [lv_args, xvcat, xrscat, xcI, xcL, xcR, xcN]] at hl
  rw [lg_entry_eq]
  generalize (lg_sl ([.ref aM, .ref (aK 14)]) ++ List.replicate (3 - (lg_sl ([.ref aM, .ref (aK 14)])).length) Slot.unset).toArray = ls at hl ⊢
  have hl : lv_has ls 3 [(0, .ref aM), (1, .ref (aK 14))] := hl
  have hE : ∀ p, p < xct st → vad p = vad p := fun _ _ => rfl
  have hN : xct st ≤ xct st := Nat.le_refl _
  unfold fM_put1c at hf
  refine lv_iconst (v := 0) hx hb dM_put1_0 (by decide) ?_
  refine lv_istore_n (lv' := [(2, .int 0), (0, .ref aM), (1, .ref (aK 14))]) hx hb dM_put1_1 rfl hl (by decide) rfl (fun ls hl => ?_)
  refine lv_iload_n hx hb dM_put1_2 rfl (lv_at hl 0 rfl) ?_
  refine lv_aload_n hx hb dM_put1_3 rfl (lv_at hl 2 rfl) ?_
  refine va_calli (va_runV (C := "java/lang/String") (As := []) (rest := [.int 0]) ⟨hx, hb, hml, hown, htx⟩ (cJS_length_3 l hl9 D cT aK aV s.heap.size) ⟨callB_of 0 htx (xw_goodC kw_2_70) rfl rfl rfl (htx _ kw_1_6) (htx _ kw_5_238) ⟨by decide, by decide, by decide +kernel⟩ ⟨Nat.le_of_ble_eq_true rfl, Nat.le_of_ble_eq_true rfl⟩, (htx _ kw_2_68), (htx _ kw_2_69)⟩ ⟨xPre_blind, vk_recv hZ.2.2.2.2.2.2.2.2.2.1 (i := 14) (by decide) hS, (fun U hU hW => ⟨rfl, xPre_of hZ hS (xm_free0 hS hA) xm_Pnil xm_Dnil hK U hU hW⟩)⟩ rfl rfl hl.1 rfl (lv_room (Nat.le_of_ble_eq_true rfl)) dM_put1_4 ⟨(Nat.zero_le _), (Nat.zero_le _)⟩) hS (fun q _ h => xm_free0 hS hA q h) (xm_free0 hS hA) (fun r1 u9 t H1 locs ht hvm hr9 hB hz1 hk1 hS => ?_)
  replace hP := xm_keep hP hk1
  generalize H1 = H at hP hS ⊢
  rw [hr9]
  refine W.eq (g2 := F0 m 7 ls [.int 3, .int 0]) (by first | rfl | rw [xv1 (Nat.succ_ne_zero _)]) ?_
  refine lv_icmp_ge (tgt := 25) hx hb dM_put1_7 (by decide) (fun h => ((by revert h; decide : False)).elim) (fun _ => ?_)
  refine lv_aload_n hx hb dM_put1_10 rfl (lv_at hl 1 rfl) ?_
  refine lv_aload_n hx hb dM_put1_11 rfl (lv_at hl 2 rfl) ?_
  refine lv_iload_n hx hb dM_put1_12 rfl (lv_at hl 0 rfl) ?_
  refine va_calli (va_runV (C := "java/lang/String") (As := [.int 0]) (rest := [.ref aM]) ⟨hx, hb, hml, hown, htx⟩ (cJS_charAt_29 l hl9 D cT aK aV H.size) ⟨callB_of 1 htx (xw_goodC kw_2_80) rfl rfl rfl (htx _ kw_1_6) (htx _ kw_5_86) ⟨by decide, by decide, by decide +kernel⟩ ⟨Nat.le_of_ble_eq_true rfl, Nat.le_of_ble_eq_true rfl⟩, (htx _ kw_2_78), (htx _ kw_2_79)⟩ ⟨xPre_blind, vk_recv hZ.2.2.2.2.2.2.2.2.2.1 (i := 14) (by decide) hS, (fun U hU hW => ⟨rfl, xPre_of hZ hS (xm_free0 hS hA) xm_Pnil xm_Dnil hK U hU hW⟩)⟩ rfl rfl hl.1 rfl (lv_room (Nat.le_of_ble_eq_true rfl)) dM_put1_13 ⟨(Nat.zero_le _), (Nat.zero_le _)⟩) hS (fun q _ h => xm_free0 hS hA q h) (xm_free0 hS hA) (fun r2 u9 t H1 locs ht hvm hr9 hB hz1 hk1 hS => ?_)
  replace hP := xm_keep hP hk1
  generalize H1 = H at hP hS ⊢
  rw [hr9]
  refine W.eq (g2 := F0 m 16 ls [.int 117, .ref aM]) (by first | rfl | rw [xv1 (Nat.succ_ne_zero _)]) ?_
  obtain ⟨o3, hq4, hf⟩ := xbind hf
  by_cases hk5 : o3.1 = 0
  · rw [if_pos hk5] at hf
    obtain ⟨hm6, hf⟩ := xmoE hf
    have hFc := xm_free hD hS hA
    refine va_callv (va_runV (C := "ValueBenchModel") (As := [.int 117]) (rest := []) ⟨hx, hb, hml, hown, htx⟩ (gM_put0 l hl9 D cT aK aV H.size n aM ad rd gd vad st (117 : Int32) o3 hq4 hk5) ⟨callB_of 1 htx (xw_goodC kw_6_136) rfl rfl rfl (htx _ kw_1_5) (htx _ kw_6_133) ⟨by decide, by decide, by decide +kernel⟩ ⟨Nat.le_of_ble_eq_true rfl, Nat.le_of_ble_eq_true rfl⟩, (htx _ kw_6_135), (htx _ kp_M_put0)⟩ ⟨xPre_blind, va_recv hK hP (ci := 5) rfl (q0 := 0) rfl, (fun U hU hW => ⟨rfl, xPre_of hZ hS hFc hP hD hK U hU hW⟩)⟩ rfl rfl hl.1 rfl (xm_room (Nat.le_of_ble_eq_true rfl)) dM_put1_16 ⟨hm6.1, hm6.2⟩) hS (fun q _ h => hFc q h) hFc (fun u9 t H1 locs ht hvm hr9 hB hz1 hk1 hS => ?_)
    obtain ⟨hP1, hK1, hD1⟩ := hB
    rw [ht] at hP1
    obtain ⟨ad8, gd9, vad10⟩ := u9
    obtain ⟨hv11, hn12⟩ := hr9
    have hP : va_P D xcl (xMw cT aM ad8 rd gd9 vad10 o3.2.2.2 []) H1 := hP1
    have hD : va_D A (xMw cT aM ad8 rd gd9 vad10 o3.2.2.2 []) := hD1.weaken (fun k q _ h => hFc q.1 h)
    generalize H1 = H at hP hS ⊢
    have hE9 : ∀ p, p < xct st → vad10 p = vad p := fun p h => (hv11 p (Nat.lt_of_lt_of_le h hN)).trans (hE p h)
    have hE := hE9
    have hN : xct st ≤ xct o3.2.2.2 := Nat.le_trans hN hn12
    refine W.eq (g2 := F0 m 19 ls []) (by first | rfl | (skip; rfl)) ?_
    refine lv_iinc (v := 1) (lv' := [(2, .int 1), (0, .ref aM), (1, .ref (aK 14))]) hx hb dM_put1_19 hl (k := 0) rfl rfl (by decide) rfl (fun ls hl => ?_)
    refine lv_goto (tgt := 2) hx hb dM_put1_22 (by decide) ?_
    refine lv_iload_n hx hb dM_put1_2 rfl (lv_at hl 0 rfl) ?_
    refine lv_aload_n hx hb dM_put1_3 rfl (lv_at hl 2 rfl) ?_
    refine va_calli (va_runV (C := "java/lang/String") (As := []) (rest := [.int 1]) ⟨hx, hb, hml, hown, htx⟩ (cJS_length_3 l hl9 D cT aK aV H.size) ⟨callB_of 0 htx (xw_goodC kw_2_70) rfl rfl rfl (htx _ kw_1_6) (htx _ kw_5_238) ⟨by decide, by decide, by decide +kernel⟩ ⟨Nat.le_of_ble_eq_true rfl, Nat.le_of_ble_eq_true rfl⟩, (htx _ kw_2_68), (htx _ kw_2_69)⟩ ⟨xPre_blind, vk_recv hZ.2.2.2.2.2.2.2.2.2.1 (i := 14) (by decide) hS, (fun U hU hW => ⟨rfl, xPre_of hZ hS (xm_free0 hS hA) xm_Pnil xm_Dnil hK U hU hW⟩)⟩ rfl rfl hl.1 rfl (lv_room (Nat.le_of_ble_eq_true rfl)) dM_put1_4 ⟨(hm6.1), (hm6.2)⟩) hS (fun q _ h => xm_free0 hS hA q h) (xm_free0 hS hA) (fun r13 u9 t H1 locs ht hvm hr9 hB hz1 hk1 hS => ?_)
    replace hP := xm_keep hP hk1
    generalize H1 = H at hP hS ⊢
    rw [hr9]
    refine W.eq (g2 := F0 m 7 ls [.int 3, .int 1]) (by first | rfl | rw [xv1 (Nat.succ_ne_zero _)]) ?_
    refine lv_icmp_ge (tgt := 25) hx hb dM_put1_7 (by decide) (fun h => ((by revert h; decide : False)).elim) (fun _ => ?_)
    refine lv_aload_n hx hb dM_put1_10 rfl (lv_at hl 1 rfl) ?_
    refine lv_aload_n hx hb dM_put1_11 rfl (lv_at hl 2 rfl) ?_
    refine lv_iload_n hx hb dM_put1_12 rfl (lv_at hl 0 rfl) ?_
    refine va_calli (va_runV (C := "java/lang/String") (As := [.int 1]) (rest := [.ref aM]) ⟨hx, hb, hml, hown, htx⟩ (cJS_charAt_30 l hl9 D cT aK aV H.size) ⟨callB_of 1 htx (xw_goodC kw_2_80) rfl rfl rfl (htx _ kw_1_6) (htx _ kw_5_86) ⟨by decide, by decide, by decide +kernel⟩ ⟨Nat.le_of_ble_eq_true rfl, Nat.le_of_ble_eq_true rfl⟩, (htx _ kw_2_78), (htx _ kw_2_79)⟩ ⟨xPre_blind, vk_recv hZ.2.2.2.2.2.2.2.2.2.1 (i := 14) (by decide) hS, (fun U hU hW => ⟨rfl, xPre_of hZ hS (xm_free0 hS hA) xm_Pnil xm_Dnil hK U hU hW⟩)⟩ rfl rfl hl.1 rfl (lv_room (Nat.le_of_ble_eq_true rfl)) dM_put1_13 ⟨(hm6.1), (hm6.2)⟩) hS (fun q _ h => xm_free0 hS hA q h) (xm_free0 hS hA) (fun r14 u9 t H1 locs ht hvm hr9 hB hz1 hk1 hS => ?_)
    replace hP := xm_keep hP hk1
    generalize H1 = H at hP hS ⊢
    rw [hr9]
    refine W.eq (g2 := F0 m 16 ls [.int 48, .ref aM]) (by first | rfl | rw [xv1 (Nat.succ_ne_zero _)]) ?_
    obtain ⟨o15, hq16, hf⟩ := xbind hf
    by_cases hk17 : o15.1 = 0
    · rw [if_pos hk17] at hf
      obtain ⟨hm18, hf⟩ := xmoE hf
      have hFc := xm_free hD hS hA
      refine va_callv (va_runV (C := "ValueBenchModel") (As := [.int 48]) (rest := []) ⟨hx, hb, hml, hown, htx⟩ (gM_put0 l hl9 D cT aK aV H.size n aM ad8 rd gd9 vad10 o3.2.2.2 (48 : Int32) o15 hq16 hk17) ⟨callB_of 1 htx (xw_goodC kw_6_136) rfl rfl rfl (htx _ kw_1_5) (htx _ kw_6_133) ⟨by decide, by decide, by decide +kernel⟩ ⟨Nat.le_of_ble_eq_true rfl, Nat.le_of_ble_eq_true rfl⟩, (htx _ kw_6_135), (htx _ kp_M_put0)⟩ ⟨xPre_blind, va_recv hK hP (ci := 5) rfl (q0 := 0) rfl, (fun U hU hW => ⟨rfl, xPre_of hZ hS hFc hP hD hK U hU hW⟩)⟩ rfl rfl hl.1 rfl (xm_room (Nat.le_of_ble_eq_true rfl)) dM_put1_16 ⟨hm18.1, hm18.2⟩) hS (fun q _ h => hFc q h) hFc (fun u9 t H1 locs ht hvm hr9 hB hz1 hk1 hS => ?_)
      obtain ⟨hP1, hK1, hD1⟩ := hB
      rw [ht] at hP1
      obtain ⟨ad20, gd21, vad22⟩ := u9
      obtain ⟨hv23, hn24⟩ := hr9
      have hP : va_P D xcl (xMw cT aM ad20 rd gd21 vad22 o15.2.2.2 []) H1 := hP1
      have hD : va_D A (xMw cT aM ad20 rd gd21 vad22 o15.2.2.2 []) := hD1.weaken (fun k q _ h => hFc q.1 h)
      generalize H1 = H at hP hS ⊢
      have hE9 : ∀ p, p < xct st → vad22 p = vad p := fun p h => (hv23 p (Nat.lt_of_lt_of_le h hN)).trans (hE p h)
      have hE := hE9
      have hN : xct st ≤ xct o15.2.2.2 := Nat.le_trans hN hn24
      refine W.eq (g2 := F0 m 19 ls []) (by first | rfl | (skip; rfl)) ?_
      refine lv_iinc (v := 2) (lv' := [(2, .int 2), (0, .ref aM), (1, .ref (aK 14))]) hx hb dM_put1_19 hl (k := 0) rfl rfl (by decide) rfl (fun ls hl => ?_)
      refine lv_goto (tgt := 2) hx hb dM_put1_22 (by decide) ?_
      refine lv_iload_n hx hb dM_put1_2 rfl (lv_at hl 0 rfl) ?_
      refine lv_aload_n hx hb dM_put1_3 rfl (lv_at hl 2 rfl) ?_
      refine va_calli (va_runV (C := "java/lang/String") (As := []) (rest := [.int 2]) ⟨hx, hb, hml, hown, htx⟩ (cJS_length_3 l hl9 D cT aK aV H.size) ⟨callB_of 0 htx (xw_goodC kw_2_70) rfl rfl rfl (htx _ kw_1_6) (htx _ kw_5_238) ⟨by decide, by decide, by decide +kernel⟩ ⟨Nat.le_of_ble_eq_true rfl, Nat.le_of_ble_eq_true rfl⟩, (htx _ kw_2_68), (htx _ kw_2_69)⟩ ⟨xPre_blind, vk_recv hZ.2.2.2.2.2.2.2.2.2.1 (i := 14) (by decide) hS, (fun U hU hW => ⟨rfl, xPre_of hZ hS (xm_free0 hS hA) xm_Pnil xm_Dnil hK U hU hW⟩)⟩ rfl rfl hl.1 rfl (lv_room (Nat.le_of_ble_eq_true rfl)) dM_put1_4 ⟨(hm18.1), (hm18.2)⟩) hS (fun q _ h => xm_free0 hS hA q h) (xm_free0 hS hA) (fun r25 u9 t H1 locs ht hvm hr9 hB hz1 hk1 hS => ?_)
      replace hP := xm_keep hP hk1
      generalize H1 = H at hP hS ⊢
      rw [hr9]
      refine W.eq (g2 := F0 m 7 ls [.int 3, .int 2]) (by first | rfl | rw [xv1 (Nat.succ_ne_zero _)]) ?_
      refine lv_icmp_ge (tgt := 25) hx hb dM_put1_7 (by decide) (fun h => ((by revert h; decide : False)).elim) (fun _ => ?_)
      refine lv_aload_n hx hb dM_put1_10 rfl (lv_at hl 1 rfl) ?_
      refine lv_aload_n hx hb dM_put1_11 rfl (lv_at hl 2 rfl) ?_
      refine lv_iload_n hx hb dM_put1_12 rfl (lv_at hl 0 rfl) ?_
      refine va_calli (va_runV (C := "java/lang/String") (As := [.int 2]) (rest := [.ref aM]) ⟨hx, hb, hml, hown, htx⟩ (cJS_charAt_31 l hl9 D cT aK aV H.size) ⟨callB_of 1 htx (xw_goodC kw_2_80) rfl rfl rfl (htx _ kw_1_6) (htx _ kw_5_86) ⟨by decide, by decide, by decide +kernel⟩ ⟨Nat.le_of_ble_eq_true rfl, Nat.le_of_ble_eq_true rfl⟩, (htx _ kw_2_78), (htx _ kw_2_79)⟩ ⟨xPre_blind, vk_recv hZ.2.2.2.2.2.2.2.2.2.1 (i := 14) (by decide) hS, (fun U hU hW => ⟨rfl, xPre_of hZ hS (xm_free0 hS hA) xm_Pnil xm_Dnil hK U hU hW⟩)⟩ rfl rfl hl.1 rfl (lv_room (Nat.le_of_ble_eq_true rfl)) dM_put1_13 ⟨(hm18.1), (hm18.2)⟩) hS (fun q _ h => xm_free0 hS hA q h) (xm_free0 hS hA) (fun r26 u9 t H1 locs ht hvm hr9 hB hz1 hk1 hS => ?_)
      replace hP := xm_keep hP hk1
      generalize H1 = H at hP hS ⊢
      rw [hr9]
      refine W.eq (g2 := F0 m 16 ls [.int 48, .ref aM]) (by first | rfl | rw [xv1 (Nat.succ_ne_zero _)]) ?_
      obtain ⟨o27, hq28, hf⟩ := xbind hf
      by_cases hk29 : o27.1 = 0
      · rw [if_pos hk29] at hf
        obtain ⟨hm30, hf⟩ := xmoE hf
        have hFc := xm_free hD hS hA
        refine va_callv (va_runV (C := "ValueBenchModel") (As := [.int 48]) (rest := []) ⟨hx, hb, hml, hown, htx⟩ (gM_put0 l hl9 D cT aK aV H.size n aM ad20 rd gd21 vad22 o15.2.2.2 (48 : Int32) o27 hq28 hk29) ⟨callB_of 1 htx (xw_goodC kw_6_136) rfl rfl rfl (htx _ kw_1_5) (htx _ kw_6_133) ⟨by decide, by decide, by decide +kernel⟩ ⟨Nat.le_of_ble_eq_true rfl, Nat.le_of_ble_eq_true rfl⟩, (htx _ kw_6_135), (htx _ kp_M_put0)⟩ ⟨xPre_blind, va_recv hK hP (ci := 5) rfl (q0 := 0) rfl, (fun U hU hW => ⟨rfl, xPre_of hZ hS hFc hP hD hK U hU hW⟩)⟩ rfl rfl hl.1 rfl (xm_room (Nat.le_of_ble_eq_true rfl)) dM_put1_16 ⟨hm30.1, hm30.2⟩) hS (fun q _ h => hFc q h) hFc (fun u9 t H1 locs ht hvm hr9 hB hz1 hk1 hS => ?_)
        obtain ⟨hP1, hK1, hD1⟩ := hB
        rw [ht] at hP1
        obtain ⟨ad32, gd33, vad34⟩ := u9
        obtain ⟨hv35, hn36⟩ := hr9
        have hP : va_P D xcl (xMw cT aM ad32 rd gd33 vad34 o27.2.2.2 []) H1 := hP1
        have hD : va_D A (xMw cT aM ad32 rd gd33 vad34 o27.2.2.2 []) := hD1.weaken (fun k q _ h => hFc q.1 h)
        generalize H1 = H at hP hS ⊢
        have hE9 : ∀ p, p < xct st → vad34 p = vad p := fun p h => (hv35 p (Nat.lt_of_lt_of_le h hN)).trans (hE p h)
        have hE := hE9
        have hN : xct st ≤ xct o27.2.2.2 := Nat.le_trans hN hn36
        refine W.eq (g2 := F0 m 19 ls []) (by first | rfl | (skip; rfl)) ?_
        refine lv_iinc (v := 3) (lv' := [(2, .int 3), (0, .ref aM), (1, .ref (aK 14))]) hx hb dM_put1_19 hl (k := 0) rfl rfl (by decide) rfl (fun ls hl => ?_)
        refine lv_goto (tgt := 2) hx hb dM_put1_22 (by decide) ?_
        refine lv_iload_n hx hb dM_put1_2 rfl (lv_at hl 0 rfl) ?_
        refine lv_aload_n hx hb dM_put1_3 rfl (lv_at hl 2 rfl) ?_
        refine va_calli (va_runV (C := "java/lang/String") (As := []) (rest := [.int 3]) ⟨hx, hb, hml, hown, htx⟩ (cJS_length_3 l hl9 D cT aK aV H.size) ⟨callB_of 0 htx (xw_goodC kw_2_70) rfl rfl rfl (htx _ kw_1_6) (htx _ kw_5_238) ⟨by decide, by decide, by decide +kernel⟩ ⟨Nat.le_of_ble_eq_true rfl, Nat.le_of_ble_eq_true rfl⟩, (htx _ kw_2_68), (htx _ kw_2_69)⟩ ⟨xPre_blind, vk_recv hZ.2.2.2.2.2.2.2.2.2.1 (i := 14) (by decide) hS, (fun U hU hW => ⟨rfl, xPre_of hZ hS (xm_free0 hS hA) xm_Pnil xm_Dnil hK U hU hW⟩)⟩ rfl rfl hl.1 rfl (lv_room (Nat.le_of_ble_eq_true rfl)) dM_put1_4 ⟨(hm30.1), (hm30.2)⟩) hS (fun q _ h => xm_free0 hS hA q h) (xm_free0 hS hA) (fun r37 u9 t H1 locs ht hvm hr9 hB hz1 hk1 hS => ?_)
        replace hP := xm_keep hP hk1
        generalize H1 = H at hP hS ⊢
        rw [hr9]
        refine W.eq (g2 := F0 m 7 ls [.int 3, .int 3]) (by first | rfl | rw [xv1 (Nat.succ_ne_zero _)]) ?_
        refine lv_icmp_ge (tgt := 25) hx hb dM_put1_7 (by decide) (fun _ => ?_) (fun h => ((by revert h; decide : False)).elim)
        obtain rfl := Option.some.inj hf
        exact absurd (show (0 : Nat) = 1 from hkd) (by decide)
      rw [if_neg hk29] at hf
      by_cases hk38 : o27.1 = 1
      · rw [if_pos hk38] at hf
        obtain ⟨hm39, hf⟩ := xmoE hf
        have hFc := xm_free hD hS hA
        refine xx_thr (vx_runV (C := "ValueBenchModel") (As := [.int 48]) (rest := []) ⟨hx, hb, hml, hown, htx⟩ (gM_put0_1 l hl9 D cT aK aV H.size n aM ad20 rd gd21 vad22 o15.2.2.2 (48 : Int32) o27 hq28 hk38) ⟨callB_of 1 htx (xw_goodC kw_6_136) rfl rfl rfl (htx _ kw_1_5) (htx _ kw_6_133) ⟨by decide, by decide, by decide +kernel⟩ ⟨Nat.le_of_ble_eq_true rfl, Nat.le_of_ble_eq_true rfl⟩, (htx _ kw_6_135), (htx _ kp_M_put0)⟩ ⟨xPre_blind, va_recv hK hP (ci := 5) rfl (q0 := 0) rfl, (fun U hU hW => ⟨rfl, xPre_of hZ hS hFc hP hD hK U hU hW⟩)⟩ rfl rfl hl.1 rfl (xm_room (Nat.le_of_ble_eq_true rfl)) dM_put1_16 ⟨hm39.1, hm39.2⟩) hS hFc (fun q _ h => hFc q h) (fun E ce q9 u9 t H1 locs ht hvm hr9 hB hz1 hk1 hS hce hcv hcl => ?_)
        obtain ⟨rfl, hP1, hK1, hD1⟩ := hB
        rw [ht] at hP1
        obtain ⟨ad41, gd42, vad43⟩ := u9
        obtain ⟨hv44, hn45⟩ := hr9
        have hP : va_P D xcl (xMw cT aM ad41 rd gd42 vad43 o27.2.2.2 []) H1 := hP1
        have hD : va_D A (xMw cT aM ad41 rd gd42 vad43 o27.2.2.2 []) := hD1.weaken (fun k q _ h => hFc q.1 h)
        generalize H1 = H at hP hS hce ⊢
        have hE9 : ∀ p, p < xct st → vad43 p = vad p := fun p h => (hv44 p (Nat.lt_of_lt_of_le h hN)).trans (hE p h)
        have hE := hE9
        have hN : xct st ≤ xct o27.2.2.2 := Nat.le_trans hN hn45
        obtain rfl := Option.some.inj hf
        exact vx_out (E := "java/lang/IndexOutOfBoundsException") (fun x h => (hne x h).elim) hlocks hce hcv hcl (fun t ht ha => ⟨(ad41, gd42, vad43), ⟨hE, hN⟩, ⟨rfl, by rw [ht]; exact hP, va_K.moved ha hK, hD⟩, hS.F ht⟩) hS.2.2 (Nat.le_refl _) (Nat.le_refl _)
      rw [if_neg hk38] at hf
      exact nomatch hf
    rw [if_neg hk17] at hf
    by_cases hk46 : o15.1 = 1
    · rw [if_pos hk46] at hf
      obtain ⟨hm47, hf⟩ := xmoE hf
      have hFc := xm_free hD hS hA
      refine xx_thr (vx_runV (C := "ValueBenchModel") (As := [.int 48]) (rest := []) ⟨hx, hb, hml, hown, htx⟩ (gM_put0_1 l hl9 D cT aK aV H.size n aM ad8 rd gd9 vad10 o3.2.2.2 (48 : Int32) o15 hq16 hk46) ⟨callB_of 1 htx (xw_goodC kw_6_136) rfl rfl rfl (htx _ kw_1_5) (htx _ kw_6_133) ⟨by decide, by decide, by decide +kernel⟩ ⟨Nat.le_of_ble_eq_true rfl, Nat.le_of_ble_eq_true rfl⟩, (htx _ kw_6_135), (htx _ kp_M_put0)⟩ ⟨xPre_blind, va_recv hK hP (ci := 5) rfl (q0 := 0) rfl, (fun U hU hW => ⟨rfl, xPre_of hZ hS hFc hP hD hK U hU hW⟩)⟩ rfl rfl hl.1 rfl (xm_room (Nat.le_of_ble_eq_true rfl)) dM_put1_16 ⟨hm47.1, hm47.2⟩) hS hFc (fun q _ h => hFc q h) (fun E ce q9 u9 t H1 locs ht hvm hr9 hB hz1 hk1 hS hce hcv hcl => ?_)
      obtain ⟨rfl, hP1, hK1, hD1⟩ := hB
      rw [ht] at hP1
      obtain ⟨ad49, gd50, vad51⟩ := u9
      obtain ⟨hv52, hn53⟩ := hr9
      have hP : va_P D xcl (xMw cT aM ad49 rd gd50 vad51 o15.2.2.2 []) H1 := hP1
      have hD : va_D A (xMw cT aM ad49 rd gd50 vad51 o15.2.2.2 []) := hD1.weaken (fun k q _ h => hFc q.1 h)
      generalize H1 = H at hP hS hce ⊢
      have hE9 : ∀ p, p < xct st → vad51 p = vad p := fun p h => (hv52 p (Nat.lt_of_lt_of_le h hN)).trans (hE p h)
      have hE := hE9
      have hN : xct st ≤ xct o15.2.2.2 := Nat.le_trans hN hn53
      obtain rfl := Option.some.inj hf
      exact vx_out (E := "java/lang/IndexOutOfBoundsException") (fun x h => (hne x h).elim) hlocks hce hcv hcl (fun t ht ha => ⟨(ad49, gd50, vad51), ⟨hE, hN⟩, ⟨rfl, by rw [ht]; exact hP, va_K.moved ha hK, hD⟩, hS.F ht⟩) hS.2.2 (Nat.le_refl _) (Nat.le_refl _)
    rw [if_neg hk46] at hf
    exact nomatch hf
  rw [if_neg hk5] at hf
  by_cases hk54 : o3.1 = 1
  · rw [if_pos hk54] at hf
    obtain ⟨hm55, hf⟩ := xmoE hf
    have hFc := xm_free hD hS hA
    refine xx_thr (vx_runV (C := "ValueBenchModel") (As := [.int 117]) (rest := []) ⟨hx, hb, hml, hown, htx⟩ (gM_put0_1 l hl9 D cT aK aV H.size n aM ad rd gd vad st (117 : Int32) o3 hq4 hk54) ⟨callB_of 1 htx (xw_goodC kw_6_136) rfl rfl rfl (htx _ kw_1_5) (htx _ kw_6_133) ⟨by decide, by decide, by decide +kernel⟩ ⟨Nat.le_of_ble_eq_true rfl, Nat.le_of_ble_eq_true rfl⟩, (htx _ kw_6_135), (htx _ kp_M_put0)⟩ ⟨xPre_blind, va_recv hK hP (ci := 5) rfl (q0 := 0) rfl, (fun U hU hW => ⟨rfl, xPre_of hZ hS hFc hP hD hK U hU hW⟩)⟩ rfl rfl hl.1 rfl (xm_room (Nat.le_of_ble_eq_true rfl)) dM_put1_16 ⟨hm55.1, hm55.2⟩) hS hFc (fun q _ h => hFc q h) (fun E ce q9 u9 t H1 locs ht hvm hr9 hB hz1 hk1 hS hce hcv hcl => ?_)
    obtain ⟨rfl, hP1, hK1, hD1⟩ := hB
    rw [ht] at hP1
    obtain ⟨ad57, gd58, vad59⟩ := u9
    obtain ⟨hv60, hn61⟩ := hr9
    have hP : va_P D xcl (xMw cT aM ad57 rd gd58 vad59 o3.2.2.2 []) H1 := hP1
    have hD : va_D A (xMw cT aM ad57 rd gd58 vad59 o3.2.2.2 []) := hD1.weaken (fun k q _ h => hFc q.1 h)
    generalize H1 = H at hP hS hce ⊢
    have hE9 : ∀ p, p < xct st → vad59 p = vad p := fun p h => (hv60 p (Nat.lt_of_lt_of_le h hN)).trans (hE p h)
    have hE := hE9
    have hN : xct st ≤ xct o3.2.2.2 := Nat.le_trans hN hn61
    obtain rfl := Option.some.inj hf
    exact vx_out (E := "java/lang/IndexOutOfBoundsException") (fun x h => (hne x h).elim) hlocks hce hcv hcl (fun t ht ha => ⟨(ad57, gd58, vad59), ⟨hE, hN⟩, ⟨rfl, by rw [ht]; exact hP, va_K.moved ha hK, hD⟩, hS.F ht⟩) hS.2.2 (Nat.le_refl _) (Nat.le_refl _)
  rw [if_neg hk54] at hf
  exact nomatch hf
set_option maxHeartbeats 400000000 in
set_option maxRecDepth 100000 in
theorem gM_putHex (l : Launch) (hl9 : l.stackTraces = false) (D : va_G) (cT : Nat → ClassId) (aK aV : Nat → Nat) (sz n : Nat) (aM : Nat) (ad rd gd vad : Nat → Nat) (st : xS) (x0 : Int32) (out : Nat × Nat × Nat × xS) (hf : fM_putHex n st x0 = some out) (hkd : out.1 = 0) : xMet l yM_putHex wyM_putHex 7 out.2.1 out.2.2.1 123 D cT aK aV sz [.ref aM, .int x0] (xMw cT aM ad rd gd vad st []) (fun A => va_Qv (fun u : xU => xE vad st out.2.2.2 u) (fun u t => xB D xcl cT A (xMw cT aM u.1 rd u.2.1 u.2.2 out.2.2.2 []) t) A) := by
  refine Met.ofW (cc := prog_13_method_44_code) (maxL := 2) (ret := none) (by decide) rfl ?_
  intro p e s m args below meth c s₁ B hml hv
  obtain ⟨rfl, hsz, hZ, hP, hK, hD0⟩ := hv
  have hx := B.exec
  have hb := B.bytes
  have hr := B.returns
  have hts := atoms_spec (ws := wyM_putHex) B.pre
  have htx := fun w h => hts w (List.mem_cons_of_mem _ h)
  have hown : s.vm.findClass "ValueBenchModel" = some m.cls := findClass_of_methodNamed B.named
  have hlocks := B.notSynchronized
  subst hsz
  have hD := hD0.self (sz := s.heap.size)
  generalize hAe : va_A (xMw cT aM ad rd gd vad st []) s.heap.size = A at hD hZ ⊢
  have hA : ∀ q : Nat, s.heap.size ≤ q → A q := fun q h => by rw [← hAe]; exact Or.inr h
  have hS : va_S A s.heap s.heap [] := va_S.rf
  have hl := lv_entry ([.ref aM, .int x0]) (n := 2) (by simp [lg_sl, xvcat, xrscat, xcI, xcL, xcR, xcN])
  rw [show lv_args 0 [.ref aM, .int x0] = [(0, .ref aM), (1, .int x0)] from by simp [lv_args, xvcat, xrscat, xcI, xcL, xcR, xcN]] at hl
  rw [lg_entry_eq]
  generalize (lg_sl ([.ref aM, .int x0]) ++ List.replicate (2 - (lg_sl ([.ref aM, .int x0])).length) Slot.unset).toArray = ls at hl ⊢
  have hl : lv_has ls 2 [(0, .ref aM), (1, .int x0)] := hl
  have hE : ∀ p, p < xct st → vad p = vad p := fun _ _ => rfl
  have hN : xct st ≤ xct st := Nat.le_refl _
  unfold fM_putHex at hf
  refine lv_aload_n hx hb dM_putHex_0 rfl (lv_at hl 0 rfl) ?_
  refine lv_iload_n hx hb dM_putHex_1 rfl (lv_at hl 1 rfl) ?_
  refine lv_bipush (v := 10) hx hb dM_putHex_2 (by decide) ?_
  refine lv_icmp_ge (tgt := 14) hx hb dM_putHex_4 (by decide) (fun hc => ?_) (fun hc => ?_)
  · rw [if_pos hc] at hf
    refine lv_bipush (v := 97) hx hb dM_putHex_14 (by decide) ?_
    refine lv_iload_n hx hb dM_putHex_16 rfl (lv_at hl 1 rfl) ?_
    refine lv_iadd hx hb dM_putHex_17 ?_
    refine lv_bipush (v := 10) hx hb dM_putHex_18 (by decide) ?_
    refine lv_isub hx hb dM_putHex_20 ?_
    obtain ⟨o1, hq2, hf⟩ := xbind hf
    by_cases hk3 : o1.1 = 0
    · rw [if_pos hk3] at hf
      obtain ⟨hm4, hf⟩ := xmoE hf
      have hFc := xm_free hD hS hA
      refine va_callv (va_runV (C := "ValueBenchModel") (As := [.int (((97 : Int32) + x0) - (10 : Int32))]) (rest := []) ⟨hx, hb, hml, hown, htx⟩ (gM_put0 l hl9 D cT aK aV s.heap.size n aM ad rd gd vad st (((97 : Int32) + x0) - (10 : Int32)) o1 hq2 hk3) ⟨callB_of 1 htx (xw_goodC kw_6_136) rfl rfl rfl (htx _ kw_1_5) (htx _ kw_6_133) ⟨by decide, by decide, by decide +kernel⟩ ⟨Nat.le_of_ble_eq_true rfl, Nat.le_of_ble_eq_true rfl⟩, (htx _ kw_6_135), (htx _ kp_M_put0)⟩ ⟨xPre_blind, va_recv hK hP (ci := 5) rfl (q0 := 0) rfl, (fun U hU hW => ⟨rfl, xPre_of hZ hS hFc hP hD hK U hU hW⟩)⟩ rfl rfl hl.1 rfl (xm_room (Nat.le_of_ble_eq_true rfl)) dM_putHex_21 ⟨hm4.1, hm4.2⟩) hS (fun q _ h => hFc q h) hFc (fun u9 t H1 locs ht hvm hr9 hB hz1 hk1 hS => ?_)
      obtain ⟨hP1, hK1, hD1⟩ := hB
      rw [ht] at hP1
      obtain ⟨ad6, gd7, vad8⟩ := u9
      obtain ⟨hv9, hn10⟩ := hr9
      have hP : va_P D xcl (xMw cT aM ad6 rd gd7 vad8 o1.2.2.2 []) H1 := hP1
      have hD : va_D A (xMw cT aM ad6 rd gd7 vad8 o1.2.2.2 []) := hD1.weaken (fun k q _ h => hFc q.1 h)
      generalize H1 = H at hP hS ⊢
      have hE9 : ∀ p, p < xct st → vad8 p = vad p := fun p h => (hv9 p (Nat.lt_of_lt_of_le h hN)).trans (hE p h)
      have hE := hE9
      have hN : xct st ≤ xct o1.2.2.2 := Nat.le_trans hN hn10
      refine W.eq (g2 := F0 m 24 ls []) (by first | rfl | (skip; rfl)) ?_
      obtain rfl := Option.some.inj hf
      exact W.vret hx hb hr (fun t ht hW => ⟨⟨(ad6, gd7, vad8), rfl, ⟨hE, hN⟩, by rw [ht]; exact hP, va_K.moved hW.alike hK, hD⟩, hS.F ht⟩) hS.2.2 dM_putHex_24
    rw [if_neg hk3] at hf
    by_cases hk11 : o1.1 = 1
    · rw [if_pos hk11] at hf
      obtain ⟨hm12, hf⟩ := xmoE hf
      obtain rfl := Option.some.inj hf
      exact absurd (show (1 : Nat) = 0 from hkd) (by decide)
    rw [if_neg hk11] at hf
    exact nomatch hf
  · rw [if_neg hc] at hf
    refine lv_bipush (v := 48) hx hb dM_putHex_7 (by decide) ?_
    refine lv_iload_n hx hb dM_putHex_9 rfl (lv_at hl 1 rfl) ?_
    refine lv_iadd hx hb dM_putHex_10 ?_
    refine lv_goto (tgt := 21) hx hb dM_putHex_11 (by decide) ?_
    obtain ⟨o1, hq2, hf⟩ := xbind hf
    by_cases hk3 : o1.1 = 0
    · rw [if_pos hk3] at hf
      obtain ⟨hm4, hf⟩ := xmoE hf
      have hFc := xm_free hD hS hA
      refine va_callv (va_runV (C := "ValueBenchModel") (As := [.int ((48 : Int32) + x0)]) (rest := []) ⟨hx, hb, hml, hown, htx⟩ (gM_put0 l hl9 D cT aK aV s.heap.size n aM ad rd gd vad st ((48 : Int32) + x0) o1 hq2 hk3) ⟨callB_of 1 htx (xw_goodC kw_6_136) rfl rfl rfl (htx _ kw_1_5) (htx _ kw_6_133) ⟨by decide, by decide, by decide +kernel⟩ ⟨Nat.le_of_ble_eq_true rfl, Nat.le_of_ble_eq_true rfl⟩, (htx _ kw_6_135), (htx _ kp_M_put0)⟩ ⟨xPre_blind, va_recv hK hP (ci := 5) rfl (q0 := 0) rfl, (fun U hU hW => ⟨rfl, xPre_of hZ hS hFc hP hD hK U hU hW⟩)⟩ rfl rfl hl.1 rfl (xm_room (Nat.le_of_ble_eq_true rfl)) dM_putHex_21 ⟨hm4.1, hm4.2⟩) hS (fun q _ h => hFc q h) hFc (fun u9 t H1 locs ht hvm hr9 hB hz1 hk1 hS => ?_)
      obtain ⟨hP1, hK1, hD1⟩ := hB
      rw [ht] at hP1
      obtain ⟨ad6, gd7, vad8⟩ := u9
      obtain ⟨hv9, hn10⟩ := hr9
      have hP : va_P D xcl (xMw cT aM ad6 rd gd7 vad8 o1.2.2.2 []) H1 := hP1
      have hD : va_D A (xMw cT aM ad6 rd gd7 vad8 o1.2.2.2 []) := hD1.weaken (fun k q _ h => hFc q.1 h)
      generalize H1 = H at hP hS ⊢
      have hE9 : ∀ p, p < xct st → vad8 p = vad p := fun p h => (hv9 p (Nat.lt_of_lt_of_le h hN)).trans (hE p h)
      have hE := hE9
      have hN : xct st ≤ xct o1.2.2.2 := Nat.le_trans hN hn10
      refine W.eq (g2 := F0 m 24 ls []) (by first | rfl | (skip; rfl)) ?_
      obtain rfl := Option.some.inj hf
      exact W.vret hx hb hr (fun t ht hW => ⟨⟨(ad6, gd7, vad8), rfl, ⟨hE, hN⟩, by rw [ht]; exact hP, va_K.moved hW.alike hK, hD⟩, hS.F ht⟩) hS.2.2 dM_putHex_24
    rw [if_neg hk3] at hf
    by_cases hk11 : o1.1 = 1
    · rw [if_pos hk11] at hf
      obtain ⟨hm12, hf⟩ := xmoE hf
      obtain rfl := Option.some.inj hf
      exact absurd (show (1 : Nat) = 0 from hkd) (by decide)
    rw [if_neg hk11] at hf
    exact nomatch hf
set_option maxHeartbeats 400000000 in
set_option maxRecDepth 100000 in
theorem gM_putHex_1 (l : Launch) (hl9 : l.stackTraces = false) (D : va_G) (cT : Nat → ClassId) (aK aV : Nat → Nat) (sz n : Nat) (aM : Nat) (ad rd gd vad : Nat → Nat) (st : xS) (x0 : Int32) (out : Nat × Nat × Nat × xS) (hf : fM_putHex n st x0 = some out) (hkd : out.1 = 1) : xMetY l yM_putHex wyM_putHex 7 out.2.1 out.2.2.1 123 D cT aK aV sz [.ref aM, .int x0] (xMw cT aM ad rd gd vad st []) "java/lang/IndexOutOfBoundsException" (fun u => xE vad st out.2.2.2 u) (fun A u t => xB D xcl cT A (xMw cT aM u.1 rd u.2.1 u.2.2 out.2.2.2 []) t) := by
  refine vx_ofW (cc := prog_13_method_44_code) (maxL := 2) (ret := none) (by decide) rfl ?_
  intro p e s m args below meth c s₁ B hml hne hv
  obtain ⟨rfl, hsz, hZ, hP, hK, hD0⟩ := hv
  have hx := B.exec
  have hb := B.bytes
  have hr := B.returns
  have hts := atoms_spec (ws := wyM_putHex) B.pre
  have htx := fun w h => hts w (List.mem_cons_of_mem _ h)
  have hown : s.vm.findClass "ValueBenchModel" = some m.cls := findClass_of_methodNamed B.named
  have hlocks := B.notSynchronized
  subst hsz
  have hD := hD0.self (sz := s.heap.size)
  generalize hAe : va_A (xMw cT aM ad rd gd vad st []) s.heap.size = A at hD hZ ⊢
  have hA : ∀ q : Nat, s.heap.size ≤ q → A q := fun q h => by rw [← hAe]; exact Or.inr h
  have hS : va_S A s.heap s.heap [] := va_S.rf
  have hl := lv_entry ([.ref aM, .int x0]) (n := 2) (by simp [lg_sl, xvcat, xrscat, xcI, xcL, xcR, xcN])
  rw [show lv_args 0 [.ref aM, .int x0] = [(0, .ref aM), (1, .int x0)] from by simp [lv_args, xvcat, xrscat, xcI, xcL, xcR, xcN]] at hl
  rw [lg_entry_eq]
  generalize (lg_sl ([.ref aM, .int x0]) ++ List.replicate (2 - (lg_sl ([.ref aM, .int x0])).length) Slot.unset).toArray = ls at hl ⊢
  have hl : lv_has ls 2 [(0, .ref aM), (1, .int x0)] := hl
  have hE : ∀ p, p < xct st → vad p = vad p := fun _ _ => rfl
  have hN : xct st ≤ xct st := Nat.le_refl _
  unfold fM_putHex at hf
  refine lv_aload_n hx hb dM_putHex_0 rfl (lv_at hl 0 rfl) ?_
  refine lv_iload_n hx hb dM_putHex_1 rfl (lv_at hl 1 rfl) ?_
  refine lv_bipush (v := 10) hx hb dM_putHex_2 (by decide) ?_
  refine lv_icmp_ge (tgt := 14) hx hb dM_putHex_4 (by decide) (fun hc => ?_) (fun hc => ?_)
  · rw [if_pos hc] at hf
    refine lv_bipush (v := 97) hx hb dM_putHex_14 (by decide) ?_
    refine lv_iload_n hx hb dM_putHex_16 rfl (lv_at hl 1 rfl) ?_
    refine lv_iadd hx hb dM_putHex_17 ?_
    refine lv_bipush (v := 10) hx hb dM_putHex_18 (by decide) ?_
    refine lv_isub hx hb dM_putHex_20 ?_
    obtain ⟨o1, hq2, hf⟩ := xbind hf
    by_cases hk3 : o1.1 = 0
    · rw [if_pos hk3] at hf
      obtain ⟨hm4, hf⟩ := xmoE hf
      have hFc := xm_free hD hS hA
      refine va_callv (va_runV (C := "ValueBenchModel") (As := [.int (((97 : Int32) + x0) - (10 : Int32))]) (rest := []) ⟨hx, hb, hml, hown, htx⟩ (gM_put0 l hl9 D cT aK aV s.heap.size n aM ad rd gd vad st (((97 : Int32) + x0) - (10 : Int32)) o1 hq2 hk3) ⟨callB_of 1 htx (xw_goodC kw_6_136) rfl rfl rfl (htx _ kw_1_5) (htx _ kw_6_133) ⟨by decide, by decide, by decide +kernel⟩ ⟨Nat.le_of_ble_eq_true rfl, Nat.le_of_ble_eq_true rfl⟩, (htx _ kw_6_135), (htx _ kp_M_put0)⟩ ⟨xPre_blind, va_recv hK hP (ci := 5) rfl (q0 := 0) rfl, (fun U hU hW => ⟨rfl, xPre_of hZ hS hFc hP hD hK U hU hW⟩)⟩ rfl rfl hl.1 rfl (xm_room (Nat.le_of_ble_eq_true rfl)) dM_putHex_21 ⟨hm4.1, hm4.2⟩) hS (fun q _ h => hFc q h) hFc (fun u9 t H1 locs ht hvm hr9 hB hz1 hk1 hS => ?_)
      obtain ⟨hP1, hK1, hD1⟩ := hB
      rw [ht] at hP1
      obtain ⟨ad6, gd7, vad8⟩ := u9
      obtain ⟨hv9, hn10⟩ := hr9
      have hP : va_P D xcl (xMw cT aM ad6 rd gd7 vad8 o1.2.2.2 []) H1 := hP1
      have hD : va_D A (xMw cT aM ad6 rd gd7 vad8 o1.2.2.2 []) := hD1.weaken (fun k q _ h => hFc q.1 h)
      generalize H1 = H at hP hS ⊢
      have hE9 : ∀ p, p < xct st → vad8 p = vad p := fun p h => (hv9 p (Nat.lt_of_lt_of_le h hN)).trans (hE p h)
      have hE := hE9
      have hN : xct st ≤ xct o1.2.2.2 := Nat.le_trans hN hn10
      refine W.eq (g2 := F0 m 24 ls []) (by first | rfl | (skip; rfl)) ?_
      obtain rfl := Option.some.inj hf
      exact absurd (show (0 : Nat) = 1 from hkd) (by decide)
    rw [if_neg hk3] at hf
    by_cases hk11 : o1.1 = 1
    · rw [if_pos hk11] at hf
      obtain ⟨hm12, hf⟩ := xmoE hf
      have hFc := xm_free hD hS hA
      refine xx_thr (vx_runV (C := "ValueBenchModel") (As := [.int (((97 : Int32) + x0) - (10 : Int32))]) (rest := []) ⟨hx, hb, hml, hown, htx⟩ (gM_put0_1 l hl9 D cT aK aV s.heap.size n aM ad rd gd vad st (((97 : Int32) + x0) - (10 : Int32)) o1 hq2 hk11) ⟨callB_of 1 htx (xw_goodC kw_6_136) rfl rfl rfl (htx _ kw_1_5) (htx _ kw_6_133) ⟨by decide, by decide, by decide +kernel⟩ ⟨Nat.le_of_ble_eq_true rfl, Nat.le_of_ble_eq_true rfl⟩, (htx _ kw_6_135), (htx _ kp_M_put0)⟩ ⟨xPre_blind, va_recv hK hP (ci := 5) rfl (q0 := 0) rfl, (fun U hU hW => ⟨rfl, xPre_of hZ hS hFc hP hD hK U hU hW⟩)⟩ rfl rfl hl.1 rfl (xm_room (Nat.le_of_ble_eq_true rfl)) dM_putHex_21 ⟨hm12.1, hm12.2⟩) hS hFc (fun q _ h => hFc q h) (fun E ce q9 u9 t H1 locs ht hvm hr9 hB hz1 hk1 hS hce hcv hcl => ?_)
      obtain ⟨rfl, hP1, hK1, hD1⟩ := hB
      rw [ht] at hP1
      obtain ⟨ad14, gd15, vad16⟩ := u9
      obtain ⟨hv17, hn18⟩ := hr9
      have hP : va_P D xcl (xMw cT aM ad14 rd gd15 vad16 o1.2.2.2 []) H1 := hP1
      have hD : va_D A (xMw cT aM ad14 rd gd15 vad16 o1.2.2.2 []) := hD1.weaken (fun k q _ h => hFc q.1 h)
      generalize H1 = H at hP hS hce ⊢
      have hE9 : ∀ p, p < xct st → vad16 p = vad p := fun p h => (hv17 p (Nat.lt_of_lt_of_le h hN)).trans (hE p h)
      have hE := hE9
      have hN : xct st ≤ xct o1.2.2.2 := Nat.le_trans hN hn18
      obtain rfl := Option.some.inj hf
      exact vx_out (E := "java/lang/IndexOutOfBoundsException") (fun x h => (hne x h).elim) hlocks hce hcv hcl (fun t ht ha => ⟨(ad14, gd15, vad16), ⟨hE, hN⟩, ⟨rfl, by rw [ht]; exact hP, va_K.moved ha hK, hD⟩, hS.F ht⟩) hS.2.2 (Nat.le_refl _) (Nat.le_refl _)
    rw [if_neg hk11] at hf
    exact nomatch hf
  · rw [if_neg hc] at hf
    refine lv_bipush (v := 48) hx hb dM_putHex_7 (by decide) ?_
    refine lv_iload_n hx hb dM_putHex_9 rfl (lv_at hl 1 rfl) ?_
    refine lv_iadd hx hb dM_putHex_10 ?_
    refine lv_goto (tgt := 21) hx hb dM_putHex_11 (by decide) ?_
    obtain ⟨o1, hq2, hf⟩ := xbind hf
    by_cases hk3 : o1.1 = 0
    · rw [if_pos hk3] at hf
      obtain ⟨hm4, hf⟩ := xmoE hf
      have hFc := xm_free hD hS hA
      refine va_callv (va_runV (C := "ValueBenchModel") (As := [.int ((48 : Int32) + x0)]) (rest := []) ⟨hx, hb, hml, hown, htx⟩ (gM_put0 l hl9 D cT aK aV s.heap.size n aM ad rd gd vad st ((48 : Int32) + x0) o1 hq2 hk3) ⟨callB_of 1 htx (xw_goodC kw_6_136) rfl rfl rfl (htx _ kw_1_5) (htx _ kw_6_133) ⟨by decide, by decide, by decide +kernel⟩ ⟨Nat.le_of_ble_eq_true rfl, Nat.le_of_ble_eq_true rfl⟩, (htx _ kw_6_135), (htx _ kp_M_put0)⟩ ⟨xPre_blind, va_recv hK hP (ci := 5) rfl (q0 := 0) rfl, (fun U hU hW => ⟨rfl, xPre_of hZ hS hFc hP hD hK U hU hW⟩)⟩ rfl rfl hl.1 rfl (xm_room (Nat.le_of_ble_eq_true rfl)) dM_putHex_21 ⟨hm4.1, hm4.2⟩) hS (fun q _ h => hFc q h) hFc (fun u9 t H1 locs ht hvm hr9 hB hz1 hk1 hS => ?_)
      obtain ⟨hP1, hK1, hD1⟩ := hB
      rw [ht] at hP1
      obtain ⟨ad6, gd7, vad8⟩ := u9
      obtain ⟨hv9, hn10⟩ := hr9
      have hP : va_P D xcl (xMw cT aM ad6 rd gd7 vad8 o1.2.2.2 []) H1 := hP1
      have hD : va_D A (xMw cT aM ad6 rd gd7 vad8 o1.2.2.2 []) := hD1.weaken (fun k q _ h => hFc q.1 h)
      generalize H1 = H at hP hS ⊢
      have hE9 : ∀ p, p < xct st → vad8 p = vad p := fun p h => (hv9 p (Nat.lt_of_lt_of_le h hN)).trans (hE p h)
      have hE := hE9
      have hN : xct st ≤ xct o1.2.2.2 := Nat.le_trans hN hn10
      refine W.eq (g2 := F0 m 24 ls []) (by first | rfl | (skip; rfl)) ?_
      obtain rfl := Option.some.inj hf
      exact absurd (show (0 : Nat) = 1 from hkd) (by decide)
    rw [if_neg hk3] at hf
    by_cases hk11 : o1.1 = 1
    · rw [if_pos hk11] at hf
      obtain ⟨hm12, hf⟩ := xmoE hf
      have hFc := xm_free hD hS hA
      refine xx_thr (vx_runV (C := "ValueBenchModel") (As := [.int ((48 : Int32) + x0)]) (rest := []) ⟨hx, hb, hml, hown, htx⟩ (gM_put0_1 l hl9 D cT aK aV s.heap.size n aM ad rd gd vad st ((48 : Int32) + x0) o1 hq2 hk11) ⟨callB_of 1 htx (xw_goodC kw_6_136) rfl rfl rfl (htx _ kw_1_5) (htx _ kw_6_133) ⟨by decide, by decide, by decide +kernel⟩ ⟨Nat.le_of_ble_eq_true rfl, Nat.le_of_ble_eq_true rfl⟩, (htx _ kw_6_135), (htx _ kp_M_put0)⟩ ⟨xPre_blind, va_recv hK hP (ci := 5) rfl (q0 := 0) rfl, (fun U hU hW => ⟨rfl, xPre_of hZ hS hFc hP hD hK U hU hW⟩)⟩ rfl rfl hl.1 rfl (xm_room (Nat.le_of_ble_eq_true rfl)) dM_putHex_21 ⟨hm12.1, hm12.2⟩) hS hFc (fun q _ h => hFc q h) (fun E ce q9 u9 t H1 locs ht hvm hr9 hB hz1 hk1 hS hce hcv hcl => ?_)
      obtain ⟨rfl, hP1, hK1, hD1⟩ := hB
      rw [ht] at hP1
      obtain ⟨ad14, gd15, vad16⟩ := u9
      obtain ⟨hv17, hn18⟩ := hr9
      have hP : va_P D xcl (xMw cT aM ad14 rd gd15 vad16 o1.2.2.2 []) H1 := hP1
      have hD : va_D A (xMw cT aM ad14 rd gd15 vad16 o1.2.2.2 []) := hD1.weaken (fun k q _ h => hFc q.1 h)
      generalize H1 = H at hP hS hce ⊢
      have hE9 : ∀ p, p < xct st → vad16 p = vad p := fun p h => (hv17 p (Nat.lt_of_lt_of_le h hN)).trans (hE p h)
      have hE := hE9
      have hN : xct st ≤ xct o1.2.2.2 := Nat.le_trans hN hn18
      obtain rfl := Option.some.inj hf
      exact vx_out (E := "java/lang/IndexOutOfBoundsException") (fun x h => (hne x h).elim) hlocks hce hcv hcl (fun t ht ha => ⟨(ad14, gd15, vad16), ⟨hE, hN⟩, ⟨rfl, by rw [ht]; exact hP, va_K.moved ha hK, hD⟩, hS.F ht⟩) hS.2.2 (Nat.le_refl _) (Nat.le_refl _)
    rw [if_neg hk11] at hf
    exact nomatch hf
